/-! TEXT: lines, all of them, and the text that is kept, in the model -/
section TEXTU
variable {ty : xTy} {N M : Nat} {hA hB h0 : xH} {mm mi : Nat → Nat} {c : CS} {I I' : Nat → Int32} {A A' : Nat → Nat → Int32} {J : Nat → Int64} {g : Sg} {b : Bk} {F : Nat → Nat} {n : Nat}
theorem r_ln65 (H : MH ty M mm mi h0) {p : Nat × Nat × Bk} (hT : TPr A' F n) (h : LRr F n I I' A A' p) : ∃ I2, jf_X12_lineRead_65 ty M (bI (decide (p.1 = 0))) (rst mm mi h0 M I' A' J) = some (bI (decide ((lnE (tk F n) p).1 = 0)), rst mm mi h0 M I2 A' J) ∧ LRr F n I I2 A A' (lnE (tk F n) p) := by
  unfold jf_X12_lineRead_65 lnE
  by_cases w : p.1 = 0
  · obtain ⟨x1, x2, x3, x4⟩ := h.2.2.1 w
    have nb : ¬ bI true = i32 0 := by decide
    have hs : jf_X12_isSign ty (rst mm mi h0 M I' A' J) M (i32 59) = some (bI (decide ((tk F n p.2.1).1 = 59))) := r_sgn (s := 59) x1 (Or.inl rfl)
    rw [decide_eq_true w, if_neg (show ¬ p.1 ≠ 0 from fun e => e w)]
    simp only [i32_lit, eq_false nb, if_false, hs, xbs]
    by_cases w9 : (tk F n p.2.1).1 = 59
    · obtain ⟨I2, t1, t2, t3⟩ := r_tok (J := J) H hT x1 (by omega)
      rw [decide_eq_true w9, if_pos w9]
      simp only [eq_false nb, if_false, t1, xbs]
      refine ⟨I2, rfl, h.1.tr (keepT.R (keepR.K t2)), h.2.1, fun _ => ⟨t3, ?_, ?_, ?_⟩, fun e => absurd rfl e⟩
      · exact x2.keep (fun k hk => t2 k (by
          simp only [List.mem_cons, List.not_mem_nil, or_false] at hk ⊢
          omega)) (fun _ _ => rfl)
      · rw [t2 4 (by decide)]; exact x3
      · rw [t2 5 (by decide)]; exact x4
    · rw [decide_eq_false w9, if_neg w9, show bI false = i32 0 from rfl]
      simp only [if_true]
      obtain ⟨I2, r1, r2⟩ := r_flL (ty := ty) (M := M) (mm := mm) (mi := mi) (h0 := h0) (A := A') (J := J) (b' := p.2.2) x1 (show (1 : Nat) ≠ 0 by decide)
      exact ⟨I2, r1, h.1.tr r2.1, h.2.1.tr r2.2.1, fun e => absurd e (show ¬ (1 : Nat) = 0 by decide), r2.2.2.2⟩
  · rw [decide_eq_false w, if_pos w, show bI false = i32 0 from rfl]
    simp only [i32_lit, if_true]
    exact ⟨I', by rw [decide_eq_false w]; rfl, h⟩
theorem r_ln (H : MH ty M mm mi h0) (hb : bwf b) {j : Nat} (hT : TPr A F n) (hR : RT I F n j) (hB : RBr I A b) : ∃ I' A', jf_X12_lineRead ty (rst mm mi h0 M I A J) M = some (bI (decide ((lnS (tk F n) b j).1 = 0)), rst mm mi h0 M I' A' J) ∧ LRr F n I I' A A' (lnS (tk F n) b j) := by
  obtain ⟨d3, d4, d5, d6, _⟩ := r_kd3 hR
  have n10 : ¬ i32 1 = i32 0 := by decide
  have n20 : ¬ i32 2 = i32 0 := by decide
  have n21 : ¬ i32 2 = i32 1 := by decide
  unfold jf_X12_lineRead lnS lnR
  simp only [rI, i32_lit]
  by_cases w3 : (tk F n j).1 = 3
  · obtain ⟨I1, A1, q1, q2⟩ := r_sgL (J := J) H hb hT hR hB (by omega)
    obtain ⟨I2, p1, p2⟩ := r_ln65 (J := J) H (hT.low q2.2.1) q2
    obtain ⟨e8, e9⟩ := d3 w3
    simp only [e8, e9, if_true, q1, xb2s, if_pos w3]
    exact ⟨I2, A1, p1, p2⟩
  · by_cases w4 : (tk F n j).1 = 4
    · obtain ⟨I1, A1, q1, q2⟩ := r_vrL (J := J) H hb hT hR hB (by omega)
      obtain ⟨I2, p1, p2⟩ := r_ln65 (J := J) H (hT.low q2.2.1) q2
      obtain ⟨e8, e9⟩ := d4 w4
      simp only [e8, e9, if_true, eq_false n10, if_false, q1, xb2s, if_neg w3, if_pos w4]
      exact ⟨I2, A1, p1, p2⟩
    · by_cases w5 : (tk F n j).1 = 5
      · obtain ⟨I1, A1, q1, q2⟩ := r_rlL (J := J) H hb hT hR hB (by omega)
        obtain ⟨I2, p1, p2⟩ := r_ln65 (J := J) H (hT.low q2.2.1) q2
        obtain ⟨e8, e9⟩ := d5 w5
        simp only [e8, e9, if_true, eq_false n20, eq_false n21, if_false, q1, xb2s, if_neg w3, if_neg w4, if_pos w5]
        exact ⟨I2, A1, p1, p2⟩
      · have e8 := d6 w3 w4 w5
        simp only [eq_false e8, if_false, if_neg w3, if_neg w4, if_neg w5]
        obtain ⟨I2, r1, r2⟩ := r_flL (ty := ty) (M := M) (mm := mm) (mi := mi) (h0 := h0) (A := A) (J := J) (b' := b) hR (show (1 : Nat) ≠ 0 by decide)
        have e : lnE (tk F n) (1, j, b) = (1, j, b) := by unfold lnE; rw [if_pos (show ((1, j, b) : Nat × Nat × Bk).1 ≠ 0 from (show ¬ (1 : Nat) = 0 by decide))]
        rw [e]
        exact ⟨I2, A, r1, r2⟩
theorem r_lns (H : MH ty M mm mi h0) {z : Nat} (hz0 : ∀ i, z ≤ i + 1 → (tk F n i).1 = 0) : ∀ (k v j : Nat) (I : Nat → Int32) (A : Nat → Nat → Int32) (b : Bk), z ≤ j + k → v ≤ j → j + 1 ≤ z → bwf b → TPr A F n → RT I F n j → RBr I A b →
    ∃ I' A', (∀ r, (if (lns (tk F n) k v j b).1 = 0 then (jf_X12_keepText ty (rst mm mi h0 M I' A' J) M).bind fun h2 => some (i32 ((lns (tk F n) k v j b).2.2.1 : Nat), h2) else some (i32 (-1), rst mm mi h0 M I' A' J)) = some r → ∃ m, jf_X12_text_31 ty m M (i32 (v : Nat)) (rst mm mi h0 M I A J) = some r) ∧ keepT I I' ∧ lowA A A' ∧ ((lns (tk F n) k v j b).1 = 0 → RBr I' A' (lns (tk F n) k v j b).2.2.2 ∧ I' 4 = I 4 ∧ I' 5 = I 5) ∧ ((lns (tk F n) k v j b).1 ≠ 0 → FLr I' (lns (tk F n) k v j b).1 (tk F n (lns (tk F n) k v j b).2.1).2.1) := by
  intro k
  induction k with
  | zero => intro v j I A b h1 h2 h3; omega
  | succ k ih =>
    intro v j I A b h1 h2 h3 hb hT hR hB
    obtain ⟨_, kd2, _⟩ := r_kd hR
    rw [show lns (tk F n) (k + 1) v j b = (if (tk F n j).1 = 0 then (0, j, v, b) else if (lnS (tk F n) b j).1 ≠ 0 then ((lnS (tk F n) b j).1, (lnS (tk F n) b j).2.1, v, b) else lns (tk F n) k (v + 1) (lnS (tk F n) b j).2.1 (lnS (tk F n) b j).2.2) from rfl]
    by_cases w : (tk F n j).1 = 0
    · rw [if_pos w]
      refine ⟨I, A, fun r hr => ⟨1, ?_⟩, keepT.rf, lowA.rf, fun _ => ⟨hB, rfl, rfl⟩, fun e => absurd rfl e⟩
      rw [if_pos rfl] at hr
      rw [jf_X12_text_31_s]
      simp only [rI, i32_lit, eq_true (kd2.mpr w), if_true]
      exact hr
    · rw [if_neg w]
      have w' : ¬ I 8 = i32 0 := fun e => w (kd2.mp e)
      obtain ⟨I1, A1, q1, q2⟩ := r_ln (J := J) H hb hT hR hB
      have hhead : ∀ m, jf_X12_text_31 ty (m + 1) M (i32 (v : Nat)) (rst mm mi h0 M I A J) = if (lnS (tk F n) b j).1 = 0 then jf_X12_text_31 ty m M (i32 ((v + 1 : Nat) : Int)) (rst mm mi h0 M I1 A1 J) else some (i32 (-1), rst mm mi h0 M I1 A1 J) := by
        intro m
        rw [jf_X12_text_31_s]
        simp (disch := omega) only [rI, i32_lit, i32_neg, eq_false w', if_false, q1, xb2s, bI_eq0, i32_add]
        rw [show (v : Int) + 1 = ((v + 1 : Nat) : Int) by omega]
        by_cases wl : (lnS (tk F n) b j).1 = 0
        · simp only [decide_eq_true wl, Bool.true_eq_false, if_false, if_pos wl]
        · simp only [decide_eq_false wl, if_true, if_neg wl]
      by_cases wl : (lnS (tk F n) b j).1 = 0
      · obtain ⟨o1, o2, o3⟩ := lnS_ok hb wl
        obtain ⟨x1, x2, x3, x4⟩ := q2.2.2.1 wl
        rw [if_neg (show ¬ (lnS (tk F n) b j).1 ≠ 0 from fun e => e wl)]
        have hzz : (lnS (tk F n) b j).2.1 + 1 ≤ z := by
          rcases Nat.lt_or_ge (lnS (tk F n) b j).2.1 z with h' | h'
          · omega
          · rw [hz0 _ (by omega)] at o2; cases o2
        obtain ⟨I2, A2, z1, z2, z3, z4, z5⟩ := ih (v + 1) (lnS (tk F n) b j).2.1 I1 A1 (lnS (tk F n) b j).2.2 (by omega) (by omega) hzz o3 (hT.low q2.2.1) x1 x2
        refine ⟨I2, A2, fun r hr => ?_, q2.1.tr z2, q2.2.1.tr z3, fun h => ?_, z5⟩
        · obtain ⟨m, hm⟩ := z1 r hr
          exact ⟨m + 1, by rw [hhead m, if_pos wl]; exact hm⟩
        · obtain ⟨t1, t2, t3⟩ := z4 h
          exact ⟨t1, t2.trans x3, t3.trans x4⟩
      · rw [if_pos wl]
        refine ⟨I1, A1, fun r hr => ⟨1, ?_⟩, q2.1, q2.2.1, fun h => absurd h wl, fun _ => q2.2.2.2 wl⟩
        rw [hhead 0, if_neg wl]
        rw [if_neg (show ¬ ((lnS (tk F n) b j).1, (lnS (tk F n) b j).2.1, v, b).1 = 0 from wl)] at hr
        exact hr
theorem r_cps2 {k n : Nat} (hn : n ≤ 192) (hg : ∀ (A : Nat → Nat → Int32) (i : Nat), i < 2 * n → xga 1 ty (rst mm mi h0 M I A J) (mm k) (i32 (i : Nat)) = some (A k i)) (hw : ∀ (A : Nat → Nat → Int32) (i : Nat) (v : Int32), i < 2 * n → xwa 1 ty (rst mm mi h0 M I A J) (mm k) (i32 (i : Nat)) v = some (rst mm mi h0 M I (fu2 A k i v) J)) : ∀ (m i : Nat) (A : Nat → Nat → Int32), i + m = n →
    ∃ A', jf_X12_copies_2 ty (m + 1) (mm k) (i32 (n : Nat)) (i32 (i : Nat)) (rst mm mi h0 M I A J) = some (rst mm mi h0 M I A' J) ∧ but k A A' ∧ (∀ x, i ≤ x → x < n → A' k x = A k (n + x)) ∧ ∀ x, (x < i ∨ n ≤ x) → A' k x = A k x := by
  intro m
  induction m with
  | zero =>
    intro i A h
    refine ⟨A, ?_, but.rf, fun x h1 h2 => by omega, fun _ _ => rfl⟩
    rw [jf_X12_copies_2_s, if_pos (by rw [i32_le (by omega) (by omega) (by omega) (by omega)]; omega)]
  | succ m ih =>
    intro i A h
    obtain ⟨A', q1, q2, q3, q4⟩ := ih (i + 1) (fu2 A k i (A k (n + i))) (by omega)
    refine ⟨A', ?_, but.fu.tr q2, fun x h1 h2 => ?_, fun x hx => ?_⟩
    · rw [jf_X12_copies_2_s, if_neg (by rw [i32_le (by omega) (by omega) (by omega) (by omega)]; omega)]
      simp only [i32_add, i32_lit]
      rw [show (n : Int) + (i : Int) = ((n + i : Nat) : Int) by omega, hg A (n + i) (by omega), xbs, hw A i _ (by omega), xbs, show (i : Int) + 1 = ((i + 1 : Nat) : Int) by omega]
      exact q1
    · rcases Nat.lt_or_ge i x with h' | h'
      · rw [q3 x (by omega) h2, fu2_ne _ _ (by omega)]
      · have e : x = i := by omega
        rw [q4 x (by omega), e, fu2_same]
    · rw [q4 x (by omega), fu2_ne _ _ (by omega)]
theorem r_cps {k n : Nat} (hn : n ≤ 192) (hg : ∀ (A : Nat → Nat → Int32) (i : Nat), i < 2 * n → xga 1 ty (rst mm mi h0 M I A J) (mm k) (i32 (i : Nat)) = some (A k i)) (hw : ∀ (A : Nat → Nat → Int32) (i : Nat) (v : Int32), i < 2 * n → xwa 1 ty (rst mm mi h0 M I A J) (mm k) (i32 (i : Nat)) v = some (rst mm mi h0 M I (fu2 A k i v) J)) (A : Nat → Nat → Int32) :
    ∃ A', jf_X12_copies ty (rst mm mi h0 M I A J) (mm k) (i32 (n : Nat)) = some (rst mm mi h0 M I A' J) ∧ but k A A' ∧ ∀ x, x < n → A' k x = A k (n + x) := by
  obtain ⟨A', q1, q2, q3, _⟩ := r_cps2 hn hg hw n 0 A (by omega)
  exact ⟨A', jf_X12_copies_2_l q1, q2, fun x hx => q3 x (Nat.zero_le _) hx⟩
end TEXTU

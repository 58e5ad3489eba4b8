/-! joined: the model's; both -/
section JOIN2
variable {ty : xTy} {N M : Nat} {hA hB h0 : xH} {mm mi : Nat → Nat} {c : CS} {I : Nat → Int32} {A : Nat → Nat → Int32} {J : Nat → Int64} {g : Sg} {b : Bk} {ar : Nat → Nat}
/-- two terms lie in the heap, one behind the other -/
def H2 (A : Nat → Nat → Int32) (ar : Nat → Nat) (T U : List Nat) : Prop := seg (A 32) 0 (T.map (sh 4) ++ U.map (sh 8)) ∧ arR A ar (T.map (sh 4) ++ U.map (sh 8))
theorem sh_map_inj {a : Nat} {L K : List Nat} : L.map (sh a) = K.map (sh a) ↔ L = K := List.map_inj_right (fun _ _ h => sh_inj h)
theorem h2_ms {T U : List Nat} (hz : ∀ d, 100 ≤ d → ar d = 0) (tT : tms ar 1 T) (tU : tms ar 1 U) (lT : T.length ≤ 12) (lU : U.length ≤ 12) : tms ar 2 (T.map (sh 4) ++ U.map (sh 8)) := tms_app ((tms_sh hz 4 T 1).mpr tT) ((tms_sh hz 8 U 1).mpr tU)
theorem h2_f {T U : List Nat} (hz : ∀ d, 100 ≤ d → ar d = 0) (tT : tms ar 1 T) (tU : tms ar 1 U) (lT : T.length ≤ 12) (lU : U.length ≤ 12) {i : Nat} (hi : i < T.length) : fst1 ar ((T.map (sh 4) ++ U.map (sh 8)).drop i) = (fst1 ar (T.drop i)).map (sh 4) := by
  have := tm_part (X := []) (Y := U.map (sh 8)) (a := 4) hz tT hi
  rw [List.nil_append, List.length_nil, Nat.zero_add] at this
  exact this
theorem h2_s {T U : List Nat} (hz : ∀ d, 100 ≤ d → ar d = 0) (tT : tms ar 1 T) (tU : tms ar 1 U) (lT : T.length ≤ 12) (lU : U.length ≤ 12) {j : Nat} (hj : j < U.length) : fst1 ar ((T.map (sh 4) ++ U.map (sh 8)).drop (T.length + j)) = (fst1 ar (U.drop j)).map (sh 8) := by
  have := tm_part (X := T.map (sh 4)) (Y := []) (a := 8) hz tU hj
  rw [List.append_nil, List.length_map] at this
  exact this
theorem r_al1 {T U : List Nat} (hz : ∀ d, 100 ≤ d → ar d = 0) (tT : tms ar 1 T) (tU : tms ar 1 U) (lT : T.length ≤ 12) (lU : U.length ≤ 12) (H : MH ty M mm mi h0) (hH : H2 A ar T U) {a i : Nat} (ha : a < T.length) (hi : i < T.length) : jf_X12_isAlike ty (rst mm mi h0 M I A J) M (i32 a) (i32 i) = some (bI (decide (fst1 ar (T.drop a) = fst1 ar (T.drop i)))) := by
  obtain ⟨za, hza⟩ := tms_dr (h2_ms hz tT tU lT lU) (a := a) (by simp; omega)
  obtain ⟨zi, hzi⟩ := tms_dr (h2_ms hz tT tU lT lU) (a := i) (by simp; omega)
  have s1 := seg_drop hH.1 a
  have s2 := seg_drop hH.1 i
  rw [Nat.zero_add] at s1 s2
  rw [r_alike H hza hzi s1 s2 (hH.2.drop a) (hH.2.drop i) (by rw [List.length_drop]; simp; omega) (by rw [List.length_drop]; simp; omega), h2_f hz tT tU lT lU ha, h2_f hz tT tU lT lU hi]
  simp only [sh_map_inj]
theorem r_al2 {T U : List Nat} (hz : ∀ d, 100 ≤ d → ar d = 0) (tT : tms ar 1 T) (tU : tms ar 1 U) (lT : T.length ≤ 12) (lU : U.length ≤ 12) (H : MH ty M mm mi h0) (hH : H2 A ar T U) {a i : Nat} (ha : a < U.length) (hi : i < U.length) : jf_X12_isAlike ty (rst mm mi h0 M I A J) M (i32 ((T.length + a : Nat) : Int)) (i32 ((T.length + i : Nat) : Int)) = some (bI (decide (fst1 ar (U.drop a) = fst1 ar (U.drop i)))) := by
  obtain ⟨za, hza⟩ := tms_dr (h2_ms hz tT tU lT lU) (a := T.length + a) (by simp; omega)
  obtain ⟨zi, hzi⟩ := tms_dr (h2_ms hz tT tU lT lU) (a := T.length + i) (by simp; omega)
  have s1 := seg_drop hH.1 (T.length + a)
  have s2 := seg_drop hH.1 (T.length + i)
  rw [Nat.zero_add] at s1 s2
  rw [r_alike H hza hzi s1 s2 (hH.2.drop _) (hH.2.drop _) (by rw [List.length_drop]; simp; omega) (by rw [List.length_drop]; simp; omega), h2_s hz tT tU lT lU ha, h2_s hz tT tU lT lU hi]
  simp only [sh_map_inj]
theorem r_en1 {T U : List Nat} (hz : ∀ d, 100 ≤ d → ar d = 0) (tT : tms ar 1 T) (tU : tms ar 1 U) (lT : T.length ≤ 12) (lU : U.length ≤ 12) (H : MH ty M mm mi h0) (hH : H2 A ar T U) {i : Nat} (hi : i < T.length) : jf_X12_endAt ty (rst mm mi h0 M I A J) M (i32 i) = some (i32 ((i + skipN ar 1 (T.drop i) : Nat) : Int)) := by
  obtain ⟨zi, hzi⟩ := tms_dr (h2_ms hz tT tU lT lU) (a := i) (by simp; omega)
  obtain ⟨zt, hzt⟩ := tms_dr tT hi
  have s2 := seg_drop hH.1 i
  rw [Nat.zero_add] at s2
  rw [r_endAt H hzi s2 (hH.2.drop i) (by rw [List.length_drop]; simp; omega)]
  have e := congrArg List.length (h2_f hz tT tU lT lU hi)
  rw [List.length_map, (fst1_split hzi).2.2.2.1, (fst1_split hzt).2.2.2.1] at e
  rw [e]
theorem r_en2 {T U : List Nat} (hz : ∀ d, 100 ≤ d → ar d = 0) (tT : tms ar 1 T) (tU : tms ar 1 U) (lT : T.length ≤ 12) (lU : U.length ≤ 12) (H : MH ty M mm mi h0) (hH : H2 A ar T U) {j : Nat} (hj : j < U.length) : jf_X12_endAt ty (rst mm mi h0 M I A J) M (i32 ((T.length + j : Nat) : Int)) = some (i32 ((T.length + (j + skipN ar 1 (U.drop j)) : Nat) : Int)) := by
  obtain ⟨zi, hzi⟩ := tms_dr (h2_ms hz tT tU lT lU) (a := T.length + j) (by simp; omega)
  obtain ⟨zt, hzt⟩ := tms_dr tU hj
  have s2 := seg_drop hH.1 (T.length + j)
  rw [Nat.zero_add] at s2
  rw [r_endAt H hzi s2 (hH.2.drop _) (by rw [List.length_drop]; simp; omega)]
  have e := congrArg List.length (h2_s hz tT tU lT lU hj)
  rw [List.length_map, (fst1_split hzi).2.2.2.1, (fst1_split hzt).2.2.2.1] at e
  rw [e, Nat.add_assoc]
def MP (A : Nat → Nat → Int32) (ar : Nat → Nat) (T U : List Nat) (ps : PSt) : Prop := ∀ (k : Nat) (P Q : List Nat), ps[k]? = some (P, Q) → ∃ a e : Nat, A 46 k = i32 a ∧ A 47 k = i32 ((T.length + e : Nat) : Int) ∧ a < T.length ∧ e < U.length ∧ fst1 ar (T.drop a) = P ∧ fst1 ar (U.drop e) = Q
theorem padd_at (ps : PSt) (p : List Nat × List Nat) : (padd ps p)[ps.idxOf p]? = some p := by
  unfold padd
  by_cases h : ps.idxOf p = ps.length
  · rw [if_pos h, h, List.getElem?_append_right (Nat.le_refl _), Nat.sub_self]; rfl
  · rw [if_neg h]
    have hlt : ps.idxOf p < ps.length := by have := List.idxOf_le_length (a := p) (l := ps); omega
    rw [List.getElem?_eq_getElem hlt, List.getElem_idxOf]
theorem padd_o {ps : PSt} {p q : List Nat × List Nat} {k : Nat} (hk : k ≠ ps.idxOf p) (h : (padd ps p)[k]? = some q) : ps[k]? = some q := by
  unfold padd at h
  by_cases e : ps.idxOf p = ps.length
  · rw [if_pos e] at h
    rcases Nat.lt_trichotomy k ps.length with h1 | h1 | h1
    · rw [List.getElem?_append_left h1] at h; exact h
    · omega
    · rw [List.getElem?_eq_none (by simp; omega)] at h; cases h
  · rw [if_neg e] at h; exact h
theorem r_jn109 (H : MH ty M mm mi h0) {T U : List Nat} (hz : ∀ d, 100 ≤ d → ar d = 0) (tT : tms ar 1 T) (tU : tms ar 1 U) (lT : T.length ≤ 12) (lU : U.length ≤ 12) (hH : H2 A ar T U) {i e n : Nat} {q : Int} {ps : PSt} (hi : i < T.length) (he : e < U.length) (hM : MP A ar T U ps) (hps : ps.length ≤ 12) : ∀ (j k : Nat), k + j = ps.length →
    ∀ k62 : Nat → Int32 → Int32 → Int32 → Int32 → Int32 → Int32 → xH → Option (Int32 × xH), jf_X12_joined_109 ty k62 (j + 1) M (i32 q) (i32 i) (i32 ((T.length + e : Nat) : Int)) (i32 T.length) (i32 n) (i32 ps.length) (i32 k) (rst mm mi h0 M I A J) = jf_X12_joined_154 ty k62 M (i32 q) (i32 i) (i32 ((T.length + e : Nat) : Int)) (i32 T.length) (i32 n) (i32 ps.length) (i32 ((k + (ps.drop k).idxOf (fst1 ar (T.drop i), fst1 ar (U.drop e)) : Nat) : Int)) (rst mm mi h0 M I A J) := by
  intro j
  induction j with
  | zero =>
    intro k h1 k62
    rw [jf_X12_joined_109_s]
    simp (disch := omega) only [i32_lit, i32_neg, i32_add, i32_sub, i32_mul, i32_lt, i32_le, i32_eq, if_pos]
    rw [show ps.drop k = [] from List.drop_of_length_le (by omega)]
    rfl
  | succ j ih =>
    intro k h1 k62
    obtain ⟨⟨P, Q⟩, hk⟩ : ∃ q, ps[k]? = some q := ⟨ps[k]'(by omega), List.getElem?_eq_getElem (by omega)⟩
    obtain ⟨x, y, e1, e2, e3, e4, e5, e6⟩ := hM k P Q hk
    have al1 := r_al1 (I := I) (J := J) hz tT tU lT lU H hH e3 hi
    have al2 := r_al2 (I := I) (J := J) hz tT tU lT lU H hH e4 he
    rw [e5] at al1
    rw [e6] at al2
    have hid := idx_drop ps (fst1 ar (T.drop i), fst1 ar (U.drop e)) hk
    have ih' := ih (k + 1) (by omega) k62
    rw [jf_X12_joined_109_s]
    simp (disch := omega) only [i32_lit, i32_neg, i32_add, i32_sub, i32_mul, i32_lt, i32_le, i32_eq, if_neg, rr_46 H, rr_47 H, ga_46 H, ga_47 H, xbs, Int.toNat_natCast, e1, e2, al1, al2, bI_eq0]
    rw [show (k : Int) + 1 = ((k + 1 : Nat) : Int) by omega]
    by_cases w : (P, Q) = (fst1 ar (T.drop i), fst1 ar (U.drop e))
    · rw [if_pos w] at hid
      have w' := w
      simp only [Prod.mk.injEq] at w'
      rw [hid, decide_eq_true w'.1, decide_eq_true w'.2]
      simp only [Bool.true_eq_false, if_false, Nat.add_zero]
    · rw [if_neg w] at hid
      rw [hid, show k + ((ps.drop (k + 1)).idxOf (fst1 ar (T.drop i), fst1 ar (U.drop e)) + 1) = k + 1 + (ps.drop (k + 1)).idxOf (fst1 ar (T.drop i), fst1 ar (U.drop e)) by omega, ← ih']
      by_cases w1 : P = fst1 ar (T.drop i)
      · rw [decide_eq_true w1]
        by_cases w2 : Q = fst1 ar (U.drop e)
        · exact absurd (by rw [w1, w2]) w
        · rw [decide_eq_false w2]
          simp only [Bool.true_eq_false, if_false, if_true]
      · rw [decide_eq_false w1]
        simp only [if_true]
theorem r_jn62 (H : MH ty M mm mi h0) {T U : List Nat} (hz : ∀ d, 100 ≤ d → ar d = 0) (tT : tms ar 1 T) (tU : tms ar 1 U) (lT : T.length ≤ 12) (lU : U.length ≤ 12) (bT : ∀ d ∈ T, d < 1000) (bU : ∀ d ∈ U, d < 1000) {q : Int} (q1 : 0 ≤ q) (q2 : q < 2147483648) : ∀ (m : Nat) (A : Nat → Nat → Int32) (i j n o : Nat) (ps : PSt), H2 A ar T U → i ≤ T.length → j ≤ U.length → T.length ≤ i + m → n ≤ i → n ≤ q.toNat → MP A ar T U ps → ps.length ≤ n → tms ar o (T.drop i) → tms ar o (U.drop j) →
    ∃ nn A', jf_X12_joined_62 ty nn M (i32 q) (i32 i) (i32 ((T.length + j : Nat) : Int)) (i32 T.length) (i32 n) (i32 ps.length) (rst mm mi h0 M I A J) = some (oI (jnL ar m (T.drop i) (U.drop j) ps)[q.toNat - n]? (-2), rst mm mi h0 M I A' J) ∧ ∀ x, x ≠ 46 → x ≠ 47 → A' x = A x := by
  intro m
  induction m with
  | zero =>
    intro A i j n o ps hH h1 h2 h3 h4 h5 hM h6 t1 t2
    refine ⟨1, A, ?_, fun _ _ _ => rfl⟩
    rw [jf_X12_joined_62_s]
    simp (disch := omega) only [i32_lit, i32_neg, i32_add, i32_sub, i32_mul, i32_lt, i32_le, i32_eq, if_pos]
    rfl
  | succ m ih =>
    intro A i j n o ps hH h1 h2 h3 h4 h5 hM h6 t1 t2
    rcases Nat.lt_or_ge i T.length with hi | hi
    · obtain ⟨x, hx⟩ := get_some (L := T) hi
      have hxd := drop_cons hx
      rw [hxd] at t1
      obtain ⟨o1, rfl, t1'⟩ := tms_pos t1
      have hj : j < U.length := by
        rcases Nat.lt_or_ge j U.length with h | h
        · exact h
        · rw [List.drop_of_length_le h] at t2; simp [tms] at t2
      obtain ⟨y, hy⟩ := get_some (L := U) hj
      have hyd := drop_cons hy
      rw [hyd] at t2
      obtain ⟨o2, ho2, t2'⟩ := tms_pos t2
      have ho2 : o2 = o1 := by omega
      subst ho2
      have bx := bT x (List.mem_of_getElem? hx)
      have bY := bU y (List.mem_of_getElem? hy)
      have hx32 : A 32 i = i32 (sh 4 x : Nat) := by
        have := hH.1 i (sh 4 x) (by rw [List.getElem?_append_left (by simp; omega), List.getElem?_map, hx]; rfl)
        rw [Nat.zero_add] at this
        exact this
      have hy32 : A 32 (T.length + j) = i32 (sh 8 y : Nat) := by
        have := hH.1 (T.length + j) (sh 8 y) (by rw [List.getElem?_append_right (by simp), List.length_map, show T.length + j - T.length = j by omega, List.getElem?_map, hy]; rfl)
        rw [Nat.zero_add] at this
        exact this
      have bsx : sh 4 x < 1004 := by unfold sh; split <;> omega
      have bsy : sh 8 y < 1008 := by unfold sh; split <;> omega
      by_cases w : x < 100 ∧ x = y
      · have esx : sh 4 x = x := by unfold sh; rw [if_pos w.1]
        have esy : sh 8 y = x := by unfold sh; rw [if_pos (by omega)]; exact w.2.symm
        rw [esx] at hx32
        rw [esy] at hy32
        rw [hxd, hyd]
        simp only [jnL, if_pos w]
        by_cases wq : (n : Int) = q
        · refine ⟨1, A, ?_, fun _ _ _ => rfl⟩
          rw [jf_X12_joined_62_s]
          simp (disch := omega) only [i32_lit, i32_neg, i32_add, i32_sub, i32_mul, i32_lt, i32_le, i32_eq, if_neg, if_pos, rr_32 H, ga_32 H, xbs, Int.toNat_natCast, hx32, hy32]
          rw [show q.toNat - n = 0 by omega]
          rfl
        · obtain ⟨nn, A', p1, p2⟩ := ih A (i + 1) (j + 1) (n + 1) (o2 + ar x) ps hH (by omega) (by omega) (by omega) (by omega) (by omega) hM (by omega) t1' (by rw [w.2]; exact t2')
          refine ⟨nn + 1, A', ?_, p2⟩
          rw [show q.toNat - n = (q.toNat - (n + 1)) + 1 by omega, List.getElem?_cons_succ, ← p1, jf_X12_joined_62_s]
          simp (disch := omega) only [i32_lit, i32_neg, i32_add, i32_sub, i32_mul, i32_lt, i32_le, i32_eq, if_neg, if_pos, rr_32 H, ga_32 H, xbs, Int.toNat_natCast, hx32, hy32]
          rw [show (i : Int) + 1 = ((i + 1 : Nat) : Int) by omega, show ((T.length + j : Nat) : Int) + 1 = ((T.length + (j + 1) : Nat) : Int) by omega, show (n : Int) + 1 = ((n + 1 : Nat) : Int) by omega]
          simp only [if_true]
      · obtain ⟨p, hp⟩ : ∃ p, p = (fst1 ar (T.drop i), fst1 ar (U.drop j)) := ⟨_, rfl⟩
        obtain ⟨pn, hpn⟩ : ∃ pn, pn = ps.idxOf p := ⟨_, rfl⟩
        have hpl : pn ≤ ps.length := by rw [hpn]; exact List.idxOf_le_length
        obtain ⟨A1, hA1⟩ : ∃ A1, A1 = fu2 A 46 pn (i32 i) := ⟨_, rfl⟩
        obtain ⟨A2, hA2⟩ : ∃ A2, A2 = fu2 A1 47 pn (i32 ((T.length + j : Nat) : Int)) := ⟨_, rfl⟩
        have k2 : ∀ x, x ≠ 46 → x ≠ 47 → A2 x = A x := fun x a1 a2 => by rw [hA2, fu2_row _ _ a2, hA1, fu2_row _ _ a1]
        have hH2 : H2 A2 ar T U := by
          obtain ⟨g1, g2⟩ := hH
          refine ⟨by rw [k2 32 (by decide) (by decide)]; exact g1, ?_⟩
          unfold arR at *
          rw [k2 19 (by decide) (by decide)]
          exact g2
        have hM2 : MP A2 ar T U (padd ps p) := by
          intro k P Q hk
          by_cases e : k = pn
          · subst e
            rw [hpn, padd_at] at hk
            have := Option.some.inj hk
            rw [hp] at this
            simp only [Prod.mk.injEq] at this
            refine ⟨i, j, ?_, ?_, hi, hj, this.1, this.2⟩
            · rw [hA2, fu2_row _ _ (by decide), hA1, fu2_same]
            · rw [hA2, fu2_same]
          · obtain ⟨x, y, z1, z2, z3⟩ := hM k P Q (padd_o (by rw [← hpn]; exact e) hk)
            refine ⟨x, y, ?_, ?_, z3⟩
            · rw [hA2, fu2_row _ _ (by decide), hA1, fu2_ne _ _ (Or.inr e)]; exact z1
            · rw [hA2, fu2_ne _ _ (Or.inr e), hA1, fu2_row _ _ (by decide)]; exact z2
        have hpal : (padd ps p).length = if pn = ps.length then ps.length + 1 else ps.length := by
          unfold padd
          rw [← hpn]
          split <;> simp
        have en1 := r_en1 (I := I) (J := J) hz tT tU lT lU H hH2 hi
        have en2 := r_en2 (I := I) (J := J) hz tT tU lT lU H hH2 hj
        have h154 : ∀ k62 : Nat → Int32 → Int32 → Int32 → Int32 → Int32 → Int32 → xH → Option (Int32 × xH), jf_X12_joined_154 ty k62 M (i32 q) (i32 i) (i32 ((T.length + j : Nat) : Int)) (i32 T.length) (i32 n) (i32 ps.length) (i32 (pn : Nat)) (rst mm mi h0 M I A J) = if (n : Int) = q then some (i32 ((100 + pn : Nat) : Int), rst mm mi h0 M I A2 J) else k62 M (i32 q) (i32 ((i + skipN ar 1 (T.drop i) : Nat) : Int)) (i32 ((T.length + (j + skipN ar 1 (U.drop j)) : Nat) : Int)) (i32 T.length) (i32 ((n + 1 : Nat) : Int)) (i32 (padd ps p).length) (rst mm mi h0 M I A2 J) := by
          intro k62
          unfold jf_X12_joined_154
          simp (disch := omega) only [rr_46 H, wa_46 H, xbs, Int.toNat_natCast]
          rw [← hA1]
          simp (disch := omega) only [rr_47 H, wa_47 H, xbs, Int.toNat_natCast]
          rw [← hA2]
          have h188 : ∀ s0, jf_X12_joined_188 ty k62 M (i32 q) (i32 i) (i32 ((T.length + j : Nat) : Int)) (i32 T.length) (i32 n) (i32 (pn : Nat)) s0 (rst mm mi h0 M I A2 J) = if (n : Int) = q then some (i32 ((100 + pn : Nat) : Int), rst mm mi h0 M I A2 J) else k62 M (i32 q) (i32 ((i + skipN ar 1 (T.drop i) : Nat) : Int)) (i32 ((T.length + (j + skipN ar 1 (U.drop j)) : Nat) : Int)) (i32 T.length) (i32 ((n + 1 : Nat) : Int)) s0 (rst mm mi h0 M I A2 J) := by
            intro s0
            unfold jf_X12_joined_188
            simp (disch := omega) only [en1, en2, xbs, i32_lit, i32_neg, i32_add, i32_sub, i32_mul, i32_lt, i32_le, i32_eq]
            rw [show (100 : Int) + ((pn : Nat) : Int) = ((100 + pn : Nat) : Int) by omega, show (n : Int) + 1 = ((n + 1 : Nat) : Int) by omega]
          rw [h188, h188, hpal]
          simp (disch := omega) only [i32_lit, i32_neg, i32_add, i32_sub, i32_mul, i32_lt, i32_le, i32_eq]
          by_cases wp : (pn : Int) = (ps.length : Int)
          · simp only [eq_true wp, if_true]
            rw [if_pos (show pn = ps.length by omega), show (ps.length : Int) + 1 = ((ps.length + 1 : Nat) : Int) by omega]
          · simp only [eq_false wp, if_false]
            rw [if_neg (show ¬ pn = ps.length by omega)]
        have h109 := r_jn109 (I := I) (J := J) (q := q) (n := n) H hz tT tU lT lU hH hi hj hM (by omega) ps.length 0 (by omega)
        rw [List.drop_zero, Nat.zero_add, ← hp, ← hpn] at h109
        have hhead : ∀ nn, jf_X12_joined_62 ty (nn + 1) M (i32 q) (i32 i) (i32 ((T.length + j : Nat) : Int)) (i32 T.length) (i32 n) (i32 ps.length) (rst mm mi h0 M I A J) = xlim fun n109 => jf_X12_joined_109 ty (jf_X12_joined_62 ty nn) n109 M (i32 q) (i32 i) (i32 ((T.length + j : Nat) : Int)) (i32 T.length) (i32 n) (i32 ps.length) (i32 0) (rst mm mi h0 M I A J) := by
          intro nn
          rw [jf_X12_joined_62_s]
          simp (disch := omega) only [i32_lit, i32_neg, i32_add, i32_sub, i32_mul, i32_lt, i32_le, i32_eq, if_neg, rr_32 H, ga_32 H, xbs, Int.toNat_natCast, hx32, hy32]
          by_cases w1 : (100 : Int) ≤ ((sh 4 x : Nat) : Int)
          · simp only [eq_true w1, if_true]
          · have wx : x < 100 := by
              rcases Nat.lt_or_ge x 100 with h | h
              · exact h
              · unfold sh at w1; rw [if_neg (by omega)] at w1; omega
            have w2 : ¬ ((sh 4 x : Nat) : Int) = ((sh 8 y : Nat) : Int) := by
              intro h
              have : sh 4 x = x := by unfold sh; rw [if_pos wx]
              rw [this] at h
              unfold sh at h
              split at h
              · exact w ⟨wx, by omega⟩
              · omega
            simp only [eq_false w1, if_false, eq_false w2]
        have ejn : jnL ar (m + 1) (T.drop i) (U.drop j) ps = (100 + pn) :: jnL ar m (T.drop (i + skipN ar 1 (T.drop i))) (U.drop (j + skipN ar 1 (U.drop j))) (padd ps p) := by
          rw [hp] at hpn ⊢
          rw [hxd, hyd] at hpn ⊢
          simp only [jnL, if_neg w]
          unfold snd1
          rw [hpn]
          congr 2
          · rw [← hxd, List.drop_drop]
          · rw [← hyd, List.drop_drop]
        rw [ejn]
        by_cases wq : (n : Int) = q
        · refine ⟨2, A2, ?_, k2⟩
          rw [hhead 1]
          refine jf_X12_joined_109_l (n := ps.length + 1) ?_
          refine (h109 _).trans ?_
          rw [h154, if_pos wq, show q.toNat - n = 0 by omega]
          rfl
        · have sT := skipN_ps (ar := ar) x (T.drop (i + 1))
          have sT2 := skipN_le (ar := ar) 1 (T.drop i)
          have sU2 := skipN_le (ar := ar) 1 (U.drop j)
          rw [List.length_drop] at sT2 sU2
          rw [← hxd] at sT t1
          rw [← hyd] at t2
          have ts1 := (tms_split (o := 1) (o' := o2) (by rw [Nat.add_comm]; exact t1)).2.1
          have ts2 := (tms_split (o := 1) (o' := o2) (by rw [Nat.add_comm]; exact t2)).2.1
          rw [List.drop_drop] at ts1 ts2
          have hpa := padd_len ps p
          obtain ⟨nn, A', p1, p2⟩ := ih A2 (i + skipN ar 1 (T.drop i)) (j + skipN ar 1 (U.drop j)) (n + 1) o2 (padd ps p) hH2 (by omega) (by omega) (by omega) (by omega) (by omega) hM2 (by omega) ts1 ts2
          refine ⟨nn + 1, A', ?_, fun x a1 a2 => (p2 x a1 a2).trans (k2 x a1 a2)⟩
          rw [hhead nn]
          refine jf_X12_joined_109_l (n := ps.length + 1) ?_
          refine (h109 _).trans ?_
          rw [h154, if_neg wq, p1, show q.toNat - n = (q.toNat - (n + 1)) + 1 by omega, List.getElem?_cons_succ]
    · have hnil : T.drop i = [] := List.drop_of_length_le hi
      refine ⟨1, A, ?_, fun _ _ _ => rfl⟩
      rw [jf_X12_joined_62_s, hnil, jnL_nil]
      simp (disch := omega) only [i32_lit, i32_neg, i32_add, i32_sub, i32_mul, i32_lt, i32_le, i32_eq, if_pos]
      rfl
theorem op_joined (C : CH ty N) (H : MH ty M mm mi hB) (hg : gwf g) (hc : CRep c g) (hr : RRep I A g) {r s k : Int} (b1 : -2147483648 ≤ r) (b2 : r < 2147483648) (d1 : -2147483648 ≤ s) (d2 : s < 2147483648) (f1 : -2147483648 ≤ k) (f2 : k < 2147483648) :
    OP N hA mm mi hB M J g (jf_X11_joined ty (cst N hA c) (N + 0) (i32 r) (i32 s) (i32 k)) (jf_X12_joined ty (rst mm mi hB M I A J) M (i32 r) (i32 s) (i32 k)) := by
  have h16 := hg.1.2.2.1
  have I2 : ∀ k, k ≠ 33 → k ≠ 2 → k ≠ 39 → fu I 2 (i32 0) k = I k := fun k _ h _ => fu_ne _ _ h
  have hr2 : RRep (fu I 2 (i32 0)) A g := hr.ks I2 keepA.rf
  unfold jf_X11_joined jf_X12_joined
  simp (disch := omega) only [rsI, xbs, i32_lit, i32_neg, i32_le, bI_eq0, k_book C hc.1, k_hasRule hg.1 hc.1.bk hc.2.1 b1 b2, r_isRule hg.1 hr2.1.2.2.1 b1 b2, k_hasRule hg.1 hc.1.bk hc.2.1 d1 d2, r_isRule hg.1 hr2.1.2.2.1 d1 d2]
  cases hR : isR (gb g) r with
  | false =>
    simp only [if_true]
    exact OP.ret hc hr _ _ I2 (fu_same _ _ _) rfl rfl
  | true =>
  cases hS : isR (gb g) s with
  | false =>
    simp only [Bool.true_eq_false, if_false, if_true]
    exact OP.ret hc hr _ _ I2 (fu_same _ _ _) rfl rfl
  | true =>
  obtain ⟨r, rfl, hrr⟩ := isR_r hR
  obtain ⟨s, rfl, hss⟩ := isR_r hS
  simp only [Bool.true_eq_false, if_false]
  by_cases w : 0 ≤ k
  · simp only [eq_true w, if_true]
    have tr := hc.tm hg hrr
    have ts := hc.tm hg hss
    have hz := bar_z (gb g)
    have tT := (hg.lo hrr).1
    have tU := (hg.lo hss).1
    have lT := (hg.lo hrr).2.1
    have lU := (hg.lo hss).2.1
    have bT3 := ((hg.1.2.2.2.2 r hrr).1).ar hg.1
    have bU3 := ((hg.1.2.2.2.2 s hss).1).ar hg.1
    have e13 := k_sub (h0 := hA) C hc.1 (show (0, 13, 257) ∈ lyL by decide) (by omega) (show ct 257 = some (0, 2) by decide)
    -- the class
    obtain ⟨c1, hc1⟩ : ∃ c1, c1 = csI c 260 2 (i32 0) := ⟨_, rfl⟩
    obtain ⟨c2, hc2⟩ : ∃ c2, c2 = csI c1 257 3 (i32 0) := ⟨_, rfl⟩
    have f1' : fr 257 263 c c1 := by rw [hc1]; exact fr.I (by omega) (by omega)
    have f2' : fr 257 263 c1 c2 := by rw [hc2]; exact fr.I (by omega) (by omega)
    have f12 := f1'.tr f2'
    have hL2 : LY c2 := hc.1.same f12.2.1 f12.2.2
    have iO : isT c2 260 12 (bar (gb g)) [] := isT_nil hL2 (by decide) (by decide) (by decide) (by omega) (by rw [hc2, sI_o (by omega), hc1, sI_s])
    have hJ : JP c2 (bar (gb g)) (bT (gb g) r) (bT (gb g) s) [] := ⟨by rw [hc2, sI_s]; rfl, fun k P Q hk => by simp at hk⟩
    obtain ⟨n, c', q1, q2, q3⟩ := k_jn20 (h0 := hA) C hz tT tU bT3 bU3 lT (by have := tr.2.2.1; omega) (by have := ts.2.2.1; omega) 12 c2 0 0 1 [] [] hL2 (tr.1.fr f12 (by have := tr.2.2.1; omega)) (ts.1.fr f12 (by have := ts.2.2.1; omega)) (by omega) (by omega) (by omega) iO (by simp) hJ (by simp) (by rw [List.drop_zero]; exact tT) (by rw [List.drop_zero]; exact tU)
    rw [List.drop_zero, List.drop_zero, List.nil_append] at q2
    have e2 := kgo (h0 := hA) (c := c) C (q := 257) (k := 2) (ci := 7) (by omega) (by rw [hc.1.j3.2.2]; decide)
    rw [hc.1.j3.2.2] at e2
    have hjs : jf_X2_joinedShape ty (cst N hA c) (N + 257) (N + (cR c 0 2 + 10 + 6 * r)) (N + (cR c 0 2 + 10 + 6 * s)) = some (N + 260, cst N hA c') := by
      unfold jf_X2_joinedShape
      rw [e2, xbs, k_clear C (show ct 260 = some (0, 7) by decide), xbs, ← hc1]
      simp (disch := omega) only [ksI, xbs, i32_lit]
      rw [← hc2]
      exact jf_X2_joinedShape_20_l q1
    -- the model
    obtain ⟨I3, A3, ⟨A1, e1, I4, A2, e2', e3⟩, k1, k2, s1, s2, s3⟩ := r_lay2 (I := fu I 2 (i32 0)) (A := A) (J := J) H hg.1 hr2.1 hrr hss (v := 4) (w := 8) (by omega) (by omega)
    have hH : H2 A3 (bar (gb g)) (bT (gb g) r) (bT (gb g) s) := ⟨s1, s2⟩
    obtain ⟨nn, A', p1, p2⟩ := r_jn62 (I := I3) (J := J) H hz tT tU lT lU (fun d hd => (bT3 d hd).2) (fun d hd => (bU3 d hd).2) w f2 12 A3 0 0 0 1 [] hH (by omega) (by omega) (by omega) (by omega) (by omega) (fun k P Q hk => by simp at hk) (by simp) (by rw [List.drop_zero]; exact tT) (by rw [List.drop_zero]; exact tU)
    rw [List.drop_zero, List.drop_zero, Nat.sub_zero, Nat.add_zero] at p1
    have hpos : 1 ≤ (bT (gb g) r).length := tms_len tT
    have en := r_en1 (I := I3) (J := J) hz tT tU lT lU H hH (i := 0) (by omega)
    rw [List.drop_zero, skipN_all tT, Nat.zero_add] at en
    refine ⟨oI (jnL (bar (gb g)) 12 (bT (gb g) r) (bT (gb g) s) [])[k.toNat]? (-2), c', I3, A', ?_, hc.fr hg (f12.tr q3) (by omega), ?_, ?_, ?_⟩
    · simp (disch := omega) only [e13, k_termOf C hc.1 hc.1.bk tr.2.2.2, k_termOf C hc.1 hc.1.bk ts.2.2.2, kck C tr.1.1, kck C ts.1.1, xbs, hjs, xb2s, kck C (show ct 260 = some (0, 7) by decide), t_codeOr C q2 w f2]
    · simp only [e1, xbs]
      rw [show i32 4 = i32 ((4 : Nat) : Int) from rfl, show i32 8 = i32 ((8 : Nat) : Int) from rfl, e2']
      simp only [xb2s]
      rw [e3]
      simp only [xb2s]
      rw [show i32 0 = i32 ((0 : Nat) : Int) from rfl, en, xbs]
      exact jf_X12_joined_62_l p1
    · refine hr2.keep (fun x hx => k1 x (fun z => by subst z; revert hx; decide)) (fun x hx => ?_)
      rw [p2 x (fun z => by subst z; revert hx; decide) (fun z => by subst z; revert hx; decide)]
      exact k2 x hx
    · rw [k1 2 (by decide), fu_same]
  · simp only [eq_false w, if_false]
    exact OP.ret hc hr _ _ I2 (fu_same _ _ _) rfl rfl
end JOIN2

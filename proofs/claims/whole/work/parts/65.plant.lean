/-! THE TREE is planted -/
section PLANT
variable {ty : xTy} {N M : Nat} {hA hB h0 : xH} {mm mi : Nat → Nat} {c : CS} {I : Nat → Int32} {A : Nat → Nat → Int32} {J : Nat → Int64} {g : Sg} {b : Bk}
/-- only the tree has changed -/
def frT (c c' : CS) : Prop := (∀ q, q ≠ 234 → cI c' q = cI c q) ∧ (∀ q, q ≠ 235 → q ≠ 237 → cA c' q = cA c q) ∧ cR c' = cR c ∧ ∀ q, q ≠ 236 → cP c' q = cP c q
theorem frT.rf {c : CS} : frT c c := ⟨fun _ _ => rfl, fun _ _ _ => rfl, rfl, fun _ _ => rfl⟩
theorem frT.tr {c d e : CS} (h1 : frT c d) (h2 : frT d e) : frT c e := ⟨fun q h => (h2.1 q h).trans (h1.1 q h), fun q h k => (h2.2.1 q h k).trans (h1.2.1 q h k), h2.2.2.1.trans h1.2.2.1, fun q h => (h2.2.2.2 q h).trans (h1.2.2.2 q h)⟩
theorem frT.ly {c c' : CS} (f : frT c c') (h : LY c) : LY c' := by
  obtain ⟨-, -, eR, eP⟩ := f
  unfold LY at *
  rw [eR, eP 7 (by decide), eP 8 (by decide), eP 113 (by decide), eP 114 (by decide)]
  exact h
theorem frT.cb {c c' : CS} {B : Nat} (f : frT c c') (hb : bwf b) (hB : B = 2 ∨ B = 108) (h : CB c B b) : CB c' B b :=
  h.keep hb.2.2.1 (fun q q1 q2 => ⟨f.1 q (by omega), f.2.1 q (by omega) (by omega), by rw [f.2.2.1]⟩)
theorem frT.cA {c : CS} {k : Nat} {v : Int32} : frT c (csA c 235 k v) := ⟨fun _ _ => rfl, fun q h _ => by rw [cA_A]; exact fu2_row _ _ h, rfl, fun _ _ => rfl⟩
theorem frT.cA7 {c : CS} {k : Nat} {v : Int32} : frT c (csA c 237 k v) := ⟨fun _ _ => rfl, fun q _ h => by rw [cA_A]; exact fu2_row _ _ h, rfl, fun _ _ => rfl⟩
theorem frT.cP {c : CS} {k v : Nat} : frT c (csP c 236 k v) := ⟨fun _ _ => rfl, fun _ _ _ => rfl, rfl, fun q h => by rw [cP_P]; exact fu2_row _ _ h⟩
theorem frT.cI {c : CS} {k : Nat} {v : Int32} : frT c (csI c 234 k v) := ⟨fun q h => by rw [cI_I]; exact fu2_row _ _ h, fun _ _ _ => rfl, rfl, fun _ _ => rfl⟩
def slot (c : CS) (B i r : Nat) : Prop := cA c 235 i = i32 r ∧ cP c 236 i = B + 10 + 6 * r
theorem insO_nil (r : Nat) : insO b r [] = [r] := by simp [insO]
theorem insO_t {r x : Nat} {l : List Nat} (h : ahd (pth (bT b r)) (pth (bT b x)) = true) : insO b r (l ++ [x]) = insO b r l ++ [x] := by
  simp [insO, List.dropWhile_cons, List.takeWhile_cons, h]
theorem insO_f {r x : Nat} {l : List Nat} (h : ahd (pth (bT b r)) (pth (bT b x)) = false) : insO b r (l ++ [x]) = l ++ [x] ++ [r] := by
  simp [insO, List.dropWhile_cons, List.takeWhile_cons, h]
theorem k_isIn2 {z : Nat} (hn : z < 65536) (h : cI c 232 4 = i32 z) {r : Nat} (hr : r < 16) : jf_X6_isIn ty (cst N h0 c) (N + 232) (i32 r) = some (bI (inR z r)) := by
  unfold jf_X6_isIn
  rw [kI (by omega), h, hasBit_i (by omega) (by omega) (by omega), xbs, xz_b]
  rw [decide_eq_true (by omega), decide_eq_true (by omega)]
  rfl
theorem cb_tm {B r : Nat} (hb : bwf b) (hB : B = 2 ∨ B = 108) (h : CB c B b) (hr : r < bnr b) : isT c (B + 10 + 6 * r) 12 (bar b) (bT b r) ∧ ∀ d ∈ bT b r, d < 1000 :=
  ⟨(h.2.2.2.2.2 r hr).2.1, fun d hd => by have := ((hb.2.2.2.2 r hr).1).lt hb d hd; omega⟩
theorem k_ins75 (C : CH ty N) (hl : LY c) {B r p n : Nat} {l : List Nat} (hn : l.length = n) (hn2 : n < 16) (hp : p ≤ n) (h4 : cI c 234 4 = i32 n) (s1 : ∀ i x, i < p → l[i]? = some x → slot c B i x) (s2 : ∀ i x, p ≤ i → l[i]? = some x → slot c B (i + 1) x) :
    ∃ c', jf_X9_insert_75 ty (N + 234) (i32 r) (N + (B + 10 + 6 * r)) (i32 p) (cst N h0 c) = some (cst N h0 c') ∧ frT c c' ∧ (∀ i x, (l.take p ++ r :: l.drop p)[i]? = some x → slot c' B i x) ∧ cI c' 234 4 = i32 ((n + 1 : Nat) : Int) := by
  obtain ⟨c1, hc1⟩ : ∃ c1, c1 = csA c 235 p (i32 r) := ⟨_, rfl⟩
  obtain ⟨c2, hc2⟩ : ∃ c2, c2 = csP c1 236 p (B + 10 + 6 * r) := ⟨_, rfl⟩
  obtain ⟨c3, hc3⟩ : ∃ c3, c3 = csI c2 234 4 (i32 ((n + 1 : Nat) : Int)) := ⟨_, rfl⟩
  have f1 : frT c c1 := by rw [hc1]; exact frT.cA
  have f2 : frT c1 c2 := by rw [hc2]; exact frT.cP
  have f3 : frT c2 c3 := by rw [hc3]; exact frT.cI
  have i4 : cI c2 234 4 = i32 n := by rw [hc2, cI_P, hc1, cI_A]; exact h4
  have hl1 := f1.ly hl
  refine ⟨c3, ?_, (f1.tr f2).tr f3, ?_, ?_⟩
  · unfold jf_X9_insert_75
    simp (disch := omega) only [kR, hl.t3.1, xbs, kwa C (show ct 235 = some (1, 16) by decide), Int.toNat_natCast]
    rw [← hc1]
    simp (disch := omega) only [kR, hl1.t3.2.1, xbs, kwp C (show ct 236 = some (3, 16) by decide), Int.toNat_natCast]
    rw [← hc2]
    simp (disch := omega) only [kI, i4, ksI, i32_lit, i32_neg, i32_add, i32_sub, i32_mul, i32_lt, i32_le, i32_eq]
    rw [show (n : Int) + 1 = ((n + 1 : Nat) : Int) by omega, ← hc3]
  · intro i x hx
    have eA : cA c3 235 i = fu2 (cA c) 235 p (i32 r) 235 i := by rw [hc3, cA_I, hc2, cA_P, hc1, cA_A]
    have eP : cP c3 236 i = fu2 (cP c) 236 p (B + 10 + 6 * r) 236 i := by rw [hc3, cP_I, hc2, cP_P, hc1, cP_A]
    unfold slot
    rw [eA, eP]
    have htl : (l.take p).length = p := by rw [List.length_take]; omega
    rcases Nat.lt_trichotomy i p with h | h | h
    · rw [List.getElem?_append_left (by omega), List.getElem?_take_of_lt h] at hx
      rw [fu2_ne _ _ (by omega), fu2_ne _ _ (by omega)]
      exact s1 i x h hx
    · rw [List.getElem?_append_right (by omega), htl, show i - p = 0 by omega, List.getElem?_cons_zero] at hx
      obtain rfl := Option.some.inj hx
      rw [h, fu2_same, fu2_same]
      exact ⟨rfl, rfl⟩
    · obtain ⟨j, rfl⟩ : ∃ j, i = j + 1 := ⟨i - 1, by omega⟩
      rw [List.getElem?_append_right (by omega), htl, show j + 1 - p = (j - p) + 1 by omega, List.getElem?_cons_succ, List.getElem?_drop, show p + (j - p) = j by omega] at hx
      rw [fu2_ne _ _ (by omega), fu2_ne _ _ (by omega)]
      exact s2 j x (by omega) hx
  · rw [hc3, cI_I, fu2_same]
theorem k_ins22 (C : CH ty N) (hb : bwf b) {B r n : Nat} {l : List Nat} (hB : B = 2 ∨ B = 108) (hr : r < bnr b) (hn : l.length = n) (hn2 : n < 16) (hlm : ∀ x ∈ l, x < bnr b) : ∀ (p : Nat) (c : CS), p ≤ n → LY c → CB c B b → cI c 234 4 = i32 n → (∀ i x, i < p → l[i]? = some x → slot c B i x) → (∀ i x, p ≤ i → l[i]? = some x → slot c B (i + 1) x) →
    ∃ c', jf_X9_insert_22 ty (p + 1) (N + 234) (i32 r) (N + (B + 10 + 6 * r)) (i32 p) (cst N h0 c) = some (cst N h0 c') ∧ frT c c' ∧ (∀ i x, (insO b r (l.take p) ++ l.drop p)[i]? = some x → slot c' B i x) ∧ cI c' 234 4 = i32 ((n + 1 : Nat) : Int) := by
  have h16 := hb.2.2.1
  intro p
  induction p with
  | zero =>
    intro c hp hl hcb h4 s1 s2
    obtain ⟨c', q1, q2, q3, q4⟩ := k_ins75 (h0 := h0) (r := r) C hl hn hn2 hp h4 s1 s2
    refine ⟨c', ?_, q2, ?_, q4⟩
    · rw [jf_X9_insert_22_s, ← q1]
      simp (disch := omega) only [i32_lit, i32_neg, i32_add, i32_sub, i32_mul, i32_lt, i32_le, i32_eq, if_pos]
    · rw [List.take_zero, insO_nil]
      exact q3
  | succ p ih =>
    intro c hp hl hcb h4 s1 s2
    obtain ⟨x, hx⟩ := get_some (L := l) (i := p) (by omega)
    have hxm := hlm x (List.mem_of_getElem? hx)
    obtain ⟨e1, e2⟩ := s1 p x (by omega) hx
    obtain ⟨iR, bR⟩ := cb_tm hb hB hcb hr
    obtain ⟨iX, bX⟩ := cb_tm hb hB hcb hxm
    have hah := k_ahead (h0 := h0) C iR iX bR bX
    have htk : l.take (p + 1) = l.take p ++ [x] := by rw [List.take_add_one, hx]; rfl
    have hgp : xgp ty (cst N h0 c) (N + 236) (i32 p) 7 = some (N + (B + 10 + 6 * x)) := by
      rw [kgp C (show ct 236 = some (3, 16) by decide) (by omega) (by omega) (by omega) (by rw [Int.toNat_natCast, e2]; exact iX.1), Int.toNat_natCast, e2]
    cases hA : ahd (pth (bT b r)) (pth (bT b x)) with
    | false =>
      obtain ⟨c', q1, q2, q3, q4⟩ := k_ins75 (h0 := h0) (r := r) C hl hn hn2 hp h4 s1 s2
      refine ⟨c', ?_, q2, ?_, q4⟩
      · rw [jf_X9_insert_22_s, ← q1]
        simp (disch := omega) only [kR, hl.t3.2.1, xbs, i32_lit, i32_neg, i32_add, i32_sub, i32_mul, i32_lt, i32_le, i32_eq, if_neg]
        rw [show ((p + 1 : Nat) : Int) - 1 = ((p : Nat) : Int) by omega, hgp]
        simp (disch := omega) only [xbs, hah, hA, bI_eq0, if_true]
      · rw [htk, insO_f hA]
        rw [htk] at q3
        simpa using q3
    | true =>
      obtain ⟨c1, hc1⟩ : ∃ c1, c1 = csA c 235 (p + 1) (i32 x) := ⟨_, rfl⟩
      obtain ⟨c2, hc2⟩ : ∃ c2, c2 = csP c1 236 (p + 1) (B + 10 + 6 * x) := ⟨_, rfl⟩
      have f1 : frT c c1 := by rw [hc1]; exact frT.cA
      have f2 : frT c1 c2 := by rw [hc2]; exact frT.cP
      have f12 := f1.tr f2
      have hl1 := f1.ly hl
      have hgp1 : xgp ty (cst N h0 c1) (N + 236) (i32 p) 7 = some (N + (B + 10 + 6 * x)) := by
        have e2' : cP c1 236 p = B + 10 + 6 * x := by rw [hc1]; exact e2
        rw [kgp C (show ct 236 = some (3, 16) by decide) (by omega) (by omega) (by omega) (by rw [Int.toNat_natCast, e2']; exact iX.1), Int.toNat_natCast, e2']
      have eA : ∀ i, cA c2 235 i = fu2 (cA c) 235 (p + 1) (i32 x) 235 i := fun i => by rw [hc2, cA_P, hc1, cA_A]
      have eP : ∀ i, cP c2 236 i = fu2 (cP c) 236 (p + 1) (B + 10 + 6 * x) 236 i := fun i => by rw [hc2, cP_P, hc1, cP_A]
      obtain ⟨c', q1, q2, q3, q4⟩ := ih c2 (by omega) (f12.ly hl) (f12.cb hb hB hcb) (by rw [hc2, cI_P, hc1, cI_A]; exact h4)
        (fun i y hi hy => by
          unfold slot
          rw [eA, eP, fu2_ne _ _ (by omega), fu2_ne _ _ (by omega)]
          exact s1 i y (by omega) hy)
        (fun i y hi hy => by
          unfold slot
          rw [eA, eP]
          rcases Nat.lt_or_ge p i with h | h
          · rw [fu2_ne _ _ (by omega), fu2_ne _ _ (by omega)]
            exact s2 i y (by omega) hy
          · have : i = p := by omega
            subst this
            rw [hx] at hy
            obtain rfl := Option.some.inj hy
            rw [fu2_same, fu2_same]
            exact ⟨rfl, rfl⟩)
      refine ⟨c', ?_, f12.tr q2, ?_, q4⟩
      · rw [jf_X9_insert_22_s, ← q1]
        simp (disch := omega) only [kR, hl.t3.1, hl.t3.2.1, xbs, i32_lit, i32_neg, i32_add, i32_sub, i32_mul, i32_lt, i32_le, i32_eq, if_neg]
        rw [show ((p + 1 : Nat) : Int) - 1 = ((p : Nat) : Int) by omega, show ((p + 1 : Nat) : Int) + -1 = ((p : Nat) : Int) by omega, hgp]
        simp (disch := omega) only [xbs, hah, hA, bI_eq0, Bool.true_eq_false, if_false, kga C (show ct 235 = some (1, 16) by decide), kwa C (show ct 235 = some (1, 16) by decide), Int.toNat_natCast, e1]
        rw [← hc1]
        simp (disch := omega) only [kR, hl1.t3.2.1, xbs, hgp1, kwp C (show ct 236 = some (3, 16) by decide), Int.toNat_natCast]
        rw [← hc2]
      · rw [htk, insO_t hA, List.append_assoc, List.singleton_append, ← drop_cons hx]
        exact q3
theorem k_insert (C : CH ty N) (hb : bwf b) {B r : Nat} {l : List Nat} (hB : B = 2 ∨ B = 108) (hr : r < bnr b) (hn2 : l.length < 16) (hlm : ∀ x ∈ l, x < bnr b) (hl : LY c) (hcb : CB c B b) (h4 : cI c 234 4 = i32 l.length) (s1 : ∀ i x, l[i]? = some x → slot c B i x) :
    ∃ c', jf_X9_insert ty (cst N h0 c) (N + 234) (i32 r) (N + (B + 10 + 6 * r)) = some (cst N h0 c') ∧ frT c c' ∧ (∀ i x, (insO b r l)[i]? = some x → slot c' B i x) ∧ cI c' 234 4 = i32 (insO b r l).length := by
  obtain ⟨c', q1, q2, q3, q4⟩ := k_ins22 (h0 := h0) C hb hB hr rfl hn2 hlm l.length c (Nat.le_refl _) hl hcb h4 (fun i x _ h => s1 i x h) (fun i x h1 h2 => by
    rw [List.getElem?_eq_none h1] at h2; cases h2)
  refine ⟨c', ?_, q2, ?_, ?_⟩
  · unfold jf_X9_insert
    simp (disch := omega) only [kI, h4, i32_lit, i32_neg, i32_add, i32_sub, i32_mul, i32_lt, i32_le, i32_eq, if_neg, if_pos]
    exact jf_X9_insert_22_l q1
  · rw [List.take_of_length_le (Nat.le_refl _), List.drop_of_length_le (Nat.le_refl _), List.append_nil] at q3
    exact q3
  · rw [q4, (insO_perm r l).length_eq, List.length_cons]
theorem shA_lt (hb : bwf b) {l : List Nat} (hlm : ∀ x ∈ l, x < bnr b) {i : Nat} (hi : i < l.length) : shA b l i ≤ 12 := by
  cases i with
  | zero => simp [shA]
  | succ i =>
    obtain ⟨r, hr⟩ := get_some (L := l) hi
    have := (shp_le (pth (bT b (l.getD (i + 1) 0))) (pth (bT b (l.getD i 0)))).1
    simp only [shA]
    rw [List.getD_eq_getElem?_getD, hr, Option.getD_some] at this ⊢
    have l12 := ((hb.2.2.2.2 r (hlm r (List.mem_of_getElem? hr))).1).2.1
    simp only [pth, List.length_map] at this ⊢
    omega
theorem k_pl41 (C : CH ty N) (hb : bwf b) {B : Nat} {l : List Nat} (hB : B = 2 ∨ B = 108) (hn2 : l.length ≤ 16) (hlm : ∀ x ∈ l, x < bnr b) : ∀ (k i : Nat) (c : CS), i + k = l.length → LY c → CB c B b → cI c 234 4 = i32 l.length → (∀ i x, l[i]? = some x → slot c B i x) → (∀ j, j < i → cA c 237 j = i32 (shA b l j)) →
    ∃ c', jf_X9_plant_41 ty (k + 1) (N + 234) (i32 i) (cst N h0 c) = some (cst N h0 c') ∧ frT c c' ∧ cI c' 234 4 = i32 l.length ∧ (∀ i x, l[i]? = some x → slot c' B i x) ∧ (∀ j, j < l.length → cA c' 237 j = i32 (shA b l j)) := by
  have h16 := hb.2.2.1
  intro k
  induction k with
  | zero =>
    intro i c h1 hl hcb h4 s1 s2
    refine ⟨c, ?_, frT.rf, h4, s1, fun j hj => s2 j (by omega)⟩
    rw [jf_X9_plant_41_s]
    simp (disch := omega) only [kI, h4, i32_lit, i32_neg, i32_add, i32_sub, i32_mul, i32_lt, i32_le, i32_eq, if_pos]
  | succ k ih =>
    intro i c h1 hl hcb h4 s1 s2
    have hsl := shA_lt hb hlm (show i < l.length by omega)
    obtain ⟨c1, hc1⟩ : ∃ c1, c1 = csA c 237 i (i32 (shA b l i)) := ⟨_, rfl⟩
    have f1 : frT c c1 := by rw [hc1]; exact frT.cA7
    have eA : cA c1 = fu2 (cA c) 237 i (i32 (shA b l i)) := by rw [hc1, cA_A]
    obtain ⟨c', q1, q2, q3⟩ := ih (i + 1) c1 (by omega) (f1.ly hl) (f1.cb hb hB hcb) (by rw [hc1, cI_A]; exact h4)
      (fun j x hx => by
        unfold slot
        rw [eA, fu2_row _ _ (by decide), show cP c1 = cP c by rw [hc1, cP_A]]
        exact s1 j x hx)
      (fun j hj => by
        rw [eA]
        rcases Nat.lt_or_ge j i with h | h
        · rw [fu2_ne _ _ (by omega)]; exact s2 j h
        · rw [show j = i by omega, fu2_same])
    refine ⟨c', ?_, f1.tr q2, q3⟩
    rw [← q1, jf_X9_plant_41_s]
    have htA : ∀ j x : Nat, l[j]? = some x → jf_X9_termAt ty (cst N h0 c) (N + 234) (i32 j) = some (N + (B + 10 + 6 * x)) ∧ isT c (B + 10 + 6 * x) 12 (bar b) (bT b x) ∧ ∀ d ∈ bT b x, d < 1000 := by
      intro j x hx
      have hjl : j < l.length := (List.getElem?_eq_some_iff.mp hx).1
      obtain ⟨e1, e2⟩ := s1 j x hx
      obtain ⟨iX, bX⟩ := cb_tm hb hB hcb (hlm x (List.mem_of_getElem? hx))
      refine ⟨?_, iX, bX⟩
      unfold jf_X9_termAt
      simp (disch := omega) only [kI, h4, kR, hl.t3.2.1, xbs, i32_lit, i32_neg, i32_add, i32_sub, i32_mul, i32_lt, i32_le, i32_eq, if_neg]
      rw [kgp C (show ct 236 = some (3, 16) by decide) (by omega) (by omega) (by omega) (by rw [Int.toNat_natCast, e2]; exact iX.1), Int.toNat_natCast, e2]
      rfl
    cases i with
    | zero =>
      simp (disch := omega) only [kI, h4, kR, hl.t3.2.2.1, xbs, i32_lit, i32_neg, i32_add, i32_sub, i32_mul, i32_lt, i32_le, i32_eq, if_neg, if_pos, kwa C (show ct 237 = some (1, 16) by decide), Int.toNat_natCast]
      rw [hc1]
      rfl
    | succ i =>
      obtain ⟨x, hx⟩ := get_some (L := l) (i := i + 1) (by omega)
      obtain ⟨y, hy⟩ := get_some (L := l) (i := i) (by omega)
      obtain ⟨x1, x2, x3⟩ := htA _ x hx
      obtain ⟨y1, y2, y3⟩ := htA _ y hy
      have hsh : shA b l (i + 1) = shp (pth (bT b x)) (pth (bT b y)) := by
        simp only [shA, List.getD_eq_getElem?_getD, hx, hy, Option.getD_some]
      simp (disch := omega) only [kI, h4, kR, hl.t3.2.2.1, xbs, i32_lit, i32_neg, i32_add, i32_sub, i32_mul, i32_lt, i32_le, i32_eq, if_neg, x1, kck C x2.1]
      rw [show ((i + 1 : Nat) : Int) - 1 = ((i : Nat) : Int) by omega, y1]
      simp (disch := omega) only [xbs, kck C y2.1, k_shared C x2 y2 x3 y3, kwa C (show ct 237 = some (1, 16) by decide), Int.toNat_natCast]
      rw [← hsh, ← hc1, show ((i + 1 : Nat) : Int) + 1 = ((i + 1 + 1 : Nat) : Int) by omega]
theorem k_pl7 (C : CH ty N) (hb : bwf b) {B z : Nat} (hB : B = 2 ∨ B = 108) (hz : z < 65536) : ∀ (k m : Nat) (c : CS), m + k = bnr b → LY c → CB c B b → cI c 232 4 = i32 z → cI c 234 4 = i32 (ordP b z m).length → (∀ i x, (ordP b z m)[i]? = some x → slot c B i x) →
    ∃ n c', jf_X9_plant_7 ty n (N + 234) (N + B) (N + 232) (i32 m) (cst N h0 c) = some (cst N h0 c') ∧ frT c c' ∧ CTr c' B b z := by
  have h16 := hb.2.2.1
  intro k
  induction k with
  | zero =>
    intro m c h1 hl hcb h2 h4 s1
    have hm : m = bnr b := by omega
    subst hm
    obtain ⟨c', q1, q2, q3, q4, q5⟩ := k_pl41 (h0 := h0) C hb hB (ordL_len hb z) (fun x hx => (ordL_mem.mp hx).1) (ordL b z).length 0 c (by omega) hl hcb h4 s1 (fun j hj => by omega)
    refine ⟨1, c', ?_, q2, q3, fun i r hir => ⟨(q4 i r hir).1, (q4 i r hir).2, q5 i (List.getElem?_eq_some_iff.mp hir).1⟩⟩
    rw [jf_X9_plant_7_s]
    have hlB : B < 273 := by omega
    simp (disch := omega) only [kI hlB, hcb.2.2.1, i32_lit, i32_neg, i32_add, i32_sub, i32_mul, i32_lt, i32_le, i32_eq, if_pos]
    exact jf_X9_plant_41_l q1
  | succ k ih =>
    intro m c h1 hl hcb h2 h4 s1
    have hm : m < bnr b := by omega
    have hlB : B < 273 := by omega
    have hol := ordP_len (b := b) z m
    have hhead : ∀ n, jf_X9_plant_7 ty (n + 1) (N + 234) (N + B) (N + 232) (i32 m) (cst N h0 c) = if inR z m = false then jf_X9_plant_7 ty n (N + 234) (N + B) (N + 232) (i32 ((m + 1 : Nat) : Int)) (cst N h0 c) else (jf_X9_insert ty (cst N h0 c) (N + 234) (i32 m) (N + (B + 10 + 6 * m))).bind fun h16 => jf_X9_plant_7 ty n (N + 234) (N + B) (N + 232) (i32 ((m + 1 : Nat) : Int)) h16 := by
      intro n
      rw [jf_X9_plant_7_s]
      simp (disch := omega) only [kI hlB, hcb.2.2.1, k_isIn2 hz h2, k_termOf C hl hB, kck C (ct_trm hB (show m < 16 by omega)).1, xbs, bI_eq0, i32_lit, i32_neg, i32_add, i32_sub, i32_mul, i32_lt, i32_le, i32_eq, if_neg]
      rw [show (m : Int) + 1 = ((m + 1 : Nat) : Int) by omega]
    cases hin : inR z m with
    | false =>
      have e := ordP_succ (b := b) z m
      rw [hin] at e
      obtain ⟨n, c', q1, q2⟩ := ih (m + 1) c (by omega) hl hcb h2 (by rw [e]; exact h4) (by rw [e]; exact s1)
      refine ⟨n + 1, c', ?_, q2⟩
      rw [hhead, if_pos hin, q1]
    | true =>
      have e := ordP_succ (b := b) z m
      rw [hin] at e
      simp only [if_true] at e
      obtain ⟨c1, p1, p2, p3, p4⟩ := k_insert (h0 := h0) C hb hB hm (by omega) (fun x hx => by have := (mem_inL.mp ((ordP_perm z m).mem_iff.mp hx)).1; omega) hl hcb h4 s1
      obtain ⟨n, c', q1, q2, q3⟩ := ih (m + 1) c1 (by omega) (p2.ly hl) (p2.cb hb hB hcb) (by rw [p2.1 232 (by decide)]; exact h2) (by rw [e]; exact p4) (by rw [e]; exact p3)
      refine ⟨n + 1, c', ?_, p2.tr q2, q3⟩
      rw [hhead, if_neg (by rw [hin]; decide), p1, xbs, q1]
theorem k_plant (C : CH ty N) (hb : bwf b) {B z : Nat} (hB : B = 2 ∨ B = 108) (hz : z < 65536) (hl : LY c) (hcb : CB c B b) (h2 : cI c 232 4 = i32 z) : ∃ c', jf_X9_plant ty (cst N h0 c) (N + 234) (N + B) (N + 232) = some (cst N h0 c') ∧ frT c c' ∧ CTr c' B b z := by
  obtain ⟨c1, hc1⟩ : ∃ c1, c1 = csI c 234 4 (i32 0) := ⟨_, rfl⟩
  have f1 : frT c c1 := by rw [hc1]; exact frT.cI
  obtain ⟨n, c', q1, q2, q3⟩ := k_pl7 (h0 := h0) C hb hB hz (bnr b) 0 c1 (by omega) (f1.ly hl) (f1.cb hb hB hcb) (by rw [f1.1 232 (by decide)]; exact h2) (by rw [hc1, cI_I, fu2_same]; rfl) (fun i x h => by simp [ordP, inL] at h)
  refine ⟨c', ?_, f1.tr q2, q3⟩
  unfold jf_X9_plant
  simp (disch := omega) only [ksI, xbs, i32_lit]
  rw [← hc1]
  exact jf_X9_plant_7_l q1
/-- what stands has changed, and the tree is planted again -/
theorem crep_pl {c1 c2 : CS} {g' : Sg} (hg : gwf g) (h : CRep c g) (f : fr 232 234 c c1) (hs : CSt c1 g') (e1 : gb g' = gb g) (e2 : gq g' = gq g) (e4 : gtp g' = gtp g) (e5 : gfl g' = gfl g) (f2 : frT c1 c2) (ht : CTr c2 (cR c 0 2) (gb g) (gin g')) : CRep c2 g' := by
  obtain ⟨h1, h2, h3, h4, h5, h6, h7⟩ := h
  have hB := h1.bk
  have hQ := h1.as.1
  have hL := h1.same f.2.1 f.2.2
  have eR : cR c2 = cR c := f2.2.2.1.trans f.2.1
  have eI : ∀ q, q ≠ 234 → (q < 232 ∨ 234 ≤ q) → cI c2 q = cI c q := fun q a1 a2 => (f2.1 q a1).trans (f.1 q a2).1
  have eA : ∀ q, q ≠ 235 → q ≠ 237 → (q < 232 ∨ 234 ≤ q) → cA c2 q = cA c q := fun q a1 a2 a3 => (f2.2.1 q a1 a2).trans (f.1 q a3).2
  refine ⟨f2.ly hL, ?_, ?_, ?_, ?_, ?_, ?_⟩
  · rw [e1, eR]
    exact h2.keep hg.1.2.2.1 (fun q q1 q2 => ⟨eI q (by omega) (by omega), eA q (by omega) (by omega) (by omega), by rw [eR]⟩)
  · rw [e1, e2, eR]
    exact h3.keep (eI _ (by omega) (by omega)) (eA _ (by omega) (by omega) (by omega)) (eA _ (by omega) (by omega) (by omega)) (by rw [eR])
  · unfold CSt at *
    rw [f2.1 232 (by decide), f2.2.1 233 (by decide) (by decide)]
    exact hs
  · rw [e1, eR]; exact ht
  · rw [e4, eI 0 (by decide) (by omega), eA 1 (by decide) (by decide) (by omega)]
    exact h6
  · rw [e5, eI 226 (by decide) (by omega)]
    exact h7
end PLANT

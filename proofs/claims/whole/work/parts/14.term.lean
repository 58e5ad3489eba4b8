/-! TERMS of the class: what its small methods answer -/
def oI (o : Option Nat) (d : Int) : Int32 := match o with
  | some c => i32 c
  | none => i32 d
theorem seg_get {f : Nat → Int32} {p i c : Nat} {L : List Nat} (h : seg f p L) (hc : L[i]? = some c) : f (p + i) = i32 c := h i c hc
theorem get_some {L : List Nat} {i : Nat} (h : i < L.length) : ∃ c, L[i]? = some c := ⟨L[i], List.getElem?_eq_getElem h⟩
theorem drop_cons {L : List Nat} {i c : Nat} (h : L[i]? = some c) : L.drop i = c :: L.drop (i + 1) := by
  obtain ⟨hi, rfl⟩ := List.getElem?_eq_some_iff.mp h
  exact List.drop_eq_getElem_cons hi
section TERM
variable {ty : xTy} {N : Nat} {h0 : xH} {c : CS} {t room : Nat} {ar : Nat → Nat} {T : List Nat}
theorem t_codeAt (C : CH ty N) (hT : isT c t room ar T) {z : Int} (hz : 0 ≤ z) (hz2 : z < 2147483648) : jf_X7_codeAt ty (cst N h0 c) (N + t) (i32 z) = some (oI T[z.toNat]? (-1)) := by
  obtain ⟨q1, q2, q3, q4, q5, q6, q7, q8, q9, q10⟩ := hT
  have hlt := ct_lt q1
  unfold jf_X7_codeAt
  simp (disch := omega) only [i32_lit, i32_neg, i32_add, i32_sub, i32_mul, i32_lt, i32_le, i32_eq, kI hlt, kR hlt, q4, q8, xbs, if_neg]
  by_cases hs : z < T.length
  · rw [if_neg (by omega)]
    obtain ⟨d, hd⟩ := get_some (L := T) (i := z.toNat) (by omega)
    simp (disch := omega) only [kga C q2, xbs]
    rw [hd, ← Nat.zero_add z.toNat, seg_get q9 hd]
    rfl
  · rw [if_pos (by omega), List.getElem?_eq_none (by omega)]
    rfl
theorem t_codeOr (C : CH ty N) (hT : isT c t room ar T) {z : Int} (hz : 0 ≤ z) (hz2 : z < 2147483648) : jf_X7_codeOrMissing ty (cst N h0 c) (N + t) (i32 z) = some (oI T[z.toNat]? (-2)) := by
  obtain ⟨q1, q2, q3, q4, q5, q6, q7, q8, q9, q10⟩ := hT
  have hlt := ct_lt q1
  unfold jf_X7_codeOrMissing
  simp (disch := omega) only [i32_lit, i32_neg, i32_add, i32_sub, i32_mul, i32_lt, i32_le, i32_eq, kI hlt, kR hlt, q4, q8, xbs, if_neg]
  by_cases hs : z < T.length
  · rw [if_neg (by omega)]
    obtain ⟨d, hd⟩ := get_some (L := T) (i := z.toNat) (by omega)
    simp (disch := omega) only [kga C q2, xbs]
    rw [hd, ← Nat.zero_add z.toNat, seg_get q9 hd]
    rfl
  · rw [if_pos (by omega), List.getElem?_eq_none (by omega)]
    rfl
theorem t_arityAt (C : CH ty N) (hT : isT c t room ar T) {z : Int} (hz : 0 ≤ z) (hz2 : z < 2147483648) : jf_X7_arityAt ty (cst N h0 c) (N + t) (i32 z) = some (oI (T[z.toNat]?.map ar) 0) := by
  obtain ⟨q1, q2, q3, q4, q5, q6, q7, q8, q9, q10⟩ := hT
  have hlt := ct_lt q1
  unfold jf_X7_arityAt
  simp (disch := omega) only [i32_lit, i32_neg, i32_add, i32_sub, i32_mul, i32_lt, i32_le, i32_eq, kI hlt, kR hlt, q5, q8, xbs, if_neg]
  by_cases hs : z < T.length
  · rw [if_neg (by omega)]
    obtain ⟨d, hd⟩ := get_some (L := T) (i := z.toNat) (by omega)
    have hd2 : (T.map ar)[z.toNat]? = some (ar d) := by rw [List.getElem?_map, hd]; rfl
    simp (disch := omega) only [kga C q3, xbs]
    rw [hd, ← Nat.zero_add z.toNat, seg_get q10 hd2]
    rfl
  · rw [if_pos (by omega), List.getElem?_eq_none (by omega)]
    rfl
theorem xmin_i {a b : Int} (h1 : -2147483648 ≤ a) (h2 : a < 2147483648) (h3 : -2147483648 ≤ b) (h4 : b < 2147483648) : xmin (i32 a) (i32 b) = i32 (min a b) := by
  unfold xmin
  simp only [i32_lt h3 h4 h1 h2]
  by_cases h : b < a
  · rw [if_pos h, show min a b = b by omega]
  · rw [if_neg h, show min a b = a by omega]
theorem xmax_i {a b : Int} (h1 : -2147483648 ≤ a) (h2 : a < 2147483648) (h3 : -2147483648 ≤ b) (h4 : b < 2147483648) : xmax (i32 a) (i32 b) = i32 (max a b) := by
  unfold xmax
  simp only [i32_lt h1 h2 h3 h4]
  by_cases h : a < b
  · rw [if_pos h, show max a b = b by omega]
  · rw [if_neg h, show max a b = a by omega]
def star (d : Nat) : Nat := min d 100
theorem t_pathCode (C : CH ty N) (hT : isT c t room ar T) (hb : ∀ d ∈ T, d < 1000) {z : Int} (hz : 0 ≤ z) (hz2 : z < 2147483648) : jf_X7_pathCode ty (cst N h0 c) (N + t) (i32 z) = some (oI (T[z.toNat]?.map star) (-1)) := by
  obtain ⟨q1, q2, q3, q4, q5, q6, q7, q8, q9, q10⟩ := hT
  have hlt := ct_lt q1
  unfold jf_X7_pathCode
  simp (disch := omega) only [i32_lit, i32_neg, i32_add, i32_sub, i32_mul, i32_lt, i32_le, i32_eq, kI hlt, kR hlt, q4, q8, xbs, if_neg]
  by_cases hs : z < T.length
  · obtain ⟨d, hd⟩ := get_some (L := T) (i := z.toNat) (by omega)
    have hdb := hb d (List.mem_of_getElem? hd)
    rw [if_pos (by omega)]
    simp (disch := omega) only [kga C q2, xbs]
    rw [hd, ← Nat.zero_add z.toNat, seg_get q9 hd, xmin_i (by omega) (by omega) (by omega) (by omega)]
    simp only [oI, Option.map_some, star]
    congr 2
    omega
  · rw [if_neg (by omega), List.getElem?_eq_none (by omega)]
    rfl
theorem t_behind4 (C : CH ty N) (hT : isT c t room ar T) (ha : ∀ d ∈ T, ar d ≤ 3) : ∀ (L : List Nat) (o p n : Nat), T.drop p = L → p ≤ T.length → o + 3 * L.length ≤ 1000 → L.length < n → jf_X7_behind_4 ty (cst N h0 c) n (N + t) (i32 o) (i32 p) = some (i32 ((p + skipN ar o L : Nat) : Int)) := by
  obtain ⟨q1, q2, q3, q4, q5, q6, q7, q8, q9, q10⟩ := hT
  have hlt := ct_lt q1
  intro L
  induction L with
  | nil =>
    intro o p n h1 h2 h3 h4
    obtain ⟨n, rfl⟩ : ∃ n', n = n' + 1 := ⟨n - 1, by omega⟩
    have hp : T.length ≤ p := by have := congrArg List.length h1; simp at this; omega
    rw [jf_X7_behind_4_s]
    simp (disch := omega) only [i32_lit, i32_neg, i32_add, i32_sub, i32_mul, i32_lt, i32_le, i32_eq, kI hlt, q8, if_neg]
    have e : skipN ar o [] = 0 := by cases o <;> rfl
    rw [e]
    by_cases ho : (o : Int) ≤ 0
    · rw [if_pos ho]; rfl
    · rw [if_neg ho, if_pos (by omega)]; rfl
  | cons d L ih =>
    intro o p n h1 h2 h3 h4
    obtain ⟨n, rfl⟩ : ∃ n', n = n' + 1 := ⟨n - 1, by omega⟩
    simp only [List.length_cons] at h4
    have hl := congrArg List.length h1
    simp only [List.length_drop, List.length_cons] at hl
    have hd : T[p]? = some d := by
      have := congrArg (fun l => l[0]?) h1
      simpa [List.getElem?_drop] using this
    have hd2 : (T.map ar)[p]? = some (ar d) := by rw [List.getElem?_map, hd]; rfl
    have had := ha d (List.mem_of_getElem? hd)
    rw [jf_X7_behind_4_s]
    cases o with
    | zero =>
      simp (disch := omega) only [i32_lit, i32_neg, i32_add, i32_sub, i32_mul, i32_lt, i32_le, i32_eq, kI hlt, q8, if_pos]
      rw [skipN_zero]; rfl
    | succ o =>
      simp (disch := omega) only [i32_lit, i32_neg, i32_add, i32_sub, i32_mul, i32_lt, i32_le, i32_eq, kI hlt, q8, if_neg, kR hlt, q5, xbs, kga C q3]
      rw [show ((p : Int)).toNat = 0 + p by omega, seg_get q10 hd2]
      simp only [i32_lit, i32_neg, i32_add, i32_sub, i32_mul, i32_lt, i32_le, i32_eq]
      have hm : T.drop (p + 1) = L := by rw [drop_cons hd] at h1; exact (List.cons.inj h1).2
      simp only [List.length_cons] at h3
      rw [show ((o + 1 : Nat) : Int) + ((ar d : Int) - 1) = ((o + ar d : Nat) : Int) by omega, show (p : Int) + 1 = ((p + 1 : Nat) : Int) by omega, ih (o + ar d) (p + 1) n hm (by omega) (by omega) (by omega)]
      simp only [skipN]
      congr 2
      omega
theorem t_behind (C : CH ty N) (hT : isT c t room ar T) (ha : ∀ d ∈ T, ar d ≤ 3) {p : Nat} (hp : p ≤ T.length) : jf_X7_behind ty (cst N h0 c) (N + t) (i32 p) = some (i32 ((p + skipN ar 1 (T.drop p) : Nat) : Int)) := by
  have h60 : T.length ≤ 60 := by have := hT.2.2.2.2.2; omega
  have hl : (T.drop p).length = T.length - p := List.length_drop
  exact xlim_of (T.length + 1) (fun n hn => t_behind4 C hT ha (T.drop p) 1 p n rfl hp (by omega) (by omega))
theorem pre_cons (d e : Nat) (X Y : List Nat) : (d :: X).isPrefixOf (e :: Y) = (decide (d = e) && X.isPrefixOf Y) := by
  simp [List.isPrefixOf]
  by_cases h : d = e <;> simp [h]
theorem t_alike11 (C : CH ty N) (hT : isT c t room ar T) (hb : ∀ d ∈ T, d < 1000) {a b nn : Nat} : ∀ (X Y : List Nat) (k n : Nat), (∀ i d, X[i]? = some d → T[a + k + i]? = some d) → T.drop (b + k) = Y → k + X.length = nn → a + nn ≤ 1000 → b + nn ≤ 1000 → X.length < n →
    jf_X7_isAlike_11 ty (cst N h0 c) n (N + t) (i32 a) (i32 b) (i32 nn) (i32 k) = some (bI (X.isPrefixOf Y)) := by
  intro X
  induction X with
  | nil =>
    intro Y k n h1 h2 h3 h4 h5 h6
    obtain ⟨n, rfl⟩ : ∃ n', n = n' + 1 := ⟨n - 1, by omega⟩
    simp only [List.length_nil] at h3
    rw [jf_X7_isAlike_11_s]
    simp (disch := omega) only [i32_lit, i32_neg, i32_add, i32_sub, i32_mul, i32_lt, i32_le, i32_eq, if_pos]
    rfl
  | cons d X ih =>
    intro Y k n h1 h2 h3 h4 h5 h6
    obtain ⟨n, rfl⟩ : ∃ n', n = n' + 1 := ⟨n - 1, by omega⟩
    simp only [List.length_cons] at h3 h6
    have hd : T[a + k]? = some d := by simpa using h1 0 d rfl
    have hdb := hb d (List.mem_of_getElem? hd)
    rw [jf_X7_isAlike_11_s]
    simp (disch := omega) only [i32_lit, i32_neg, i32_add, i32_sub, i32_mul, i32_lt, i32_le, i32_eq, if_neg, t_codeAt C hT, xbs]
    rw [show ((a : Int) + k).toNat = a + k by omega, show ((b : Int) + k).toNat = b + k by omega, hd]
    cases Y with
    | nil =>
      have hn : T[b + k]? = none := by
        have := congrArg (fun l => l[0]?) h2
        simpa [List.getElem?_drop] using this
      rw [hn]
      simp only [oI]
      simp (disch := omega) only [i32_lit, i32_neg, i32_add, i32_sub, i32_mul, i32_lt, i32_le, i32_eq, if_neg]
      rfl
    | cons e Y =>
      have he : T[b + k]? = some e := by
        have := congrArg (fun l => l[0]?) h2
        simpa [List.getElem?_drop] using this
      have heb := hb e (List.mem_of_getElem? he)
      rw [he]
      simp only [oI]
      simp (disch := omega) only [i32_lit, i32_neg, i32_add, i32_sub, i32_mul, i32_lt, i32_le, i32_eq]
      rw [show ((k : Int) + 1) = ((k + 1 : Nat) : Int) by omega, ih Y (k + 1) n (fun i x hx => by have := h1 (i + 1) x (by simpa using hx); rwa [show a + k + (i + 1) = a + (k + 1) + i by omega] at this) (by rw [drop_cons he] at h2; rw [show b + (k + 1) = b + k + 1 by omega]; exact (List.cons.inj h2).2) (by omega) (by omega) (by omega) (by omega), pre_cons]
      by_cases hde : d = e
      · subst hde; simp
      · have : ¬ (d : Int) = e := by omega
        simp [hde, this, bI]
theorem pre_fst {o o' : Nat} {X Y : List Nat} (h1 : tms ar (1 + o) X) (h2 : tms ar (1 + o') Y) : (fst1 ar X).isPrefixOf Y = decide (fst1 ar X = fst1 ar Y) := by
  obtain ⟨-, x1, -, x2, -, -⟩ := fst1_split h1
  rw [Bool.eq_iff_iff, decide_eq_true_iff, List.isPrefixOf_iff_prefix]
  constructor
  · rintro ⟨K, hK⟩
    have := skipN_app (K := K) x1
    rw [hK] at this
    unfold fst1 at this ⊢
    have h3 : Y.take (skipN ar 1 Y) = X.take (skipN ar 1 X) := by
      rw [this]
      have h4 : Y = X.take (skipN ar 1 X) ++ K := hK.symm
      rw [h4]
      exact List.take_left' rfl
    exact h3.symm
  · intro h
    rw [h]
    exact List.take_prefix _ _
theorem t_alike (C : CH ty N) (hT : isT c t room ar T) (ha : ∀ d ∈ T, ar d ≤ 3 ∧ d < 1000) {a b oa ob : Nat} (h1 : tms ar (1 + oa) (T.drop a)) (h2 : tms ar (1 + ob) (T.drop b)) (hla : a ≤ T.length) (hlb : b ≤ T.length) :
    jf_X7_isAlike ty (cst N h0 c) (N + t) (i32 a) (i32 b) = some (bI (decide (fst1 ar (T.drop a) = fst1 ar (T.drop b)))) := by
  have h60 : T.length ≤ 60 := by have := hT.2.2.2.2.2; omega
  obtain ⟨-, -, -, x2, x3, -⟩ := fst1_split h1
  have hl : (T.drop a).length = T.length - a := List.length_drop
  unfold jf_X7_isAlike
  rw [t_behind C hT (fun d hd => (ha d hd).1) hla]
  simp only [xbs, i32_lit, i32_neg, i32_add, i32_sub, i32_mul, i32_lt, i32_le, i32_eq]
  rw [show (((a + skipN ar 1 (T.drop a) : Nat) : Int) - a) = (skipN ar 1 (T.drop a) : Int) by omega]
  refine xlim_of (skipN ar 1 (T.drop a) + 1) (fun n hn => ?_)
  have e0 : i32 0 = i32 ((0 : Nat) : Int) := rfl
  rw [← pre_fst h1 h2, e0]
  refine t_alike11 C hT (fun d hd => (ha d hd).2) (fst1 ar (T.drop a)) (T.drop b) 0 n (fun i d hd => ?_) (by simp) (by omega) (by omega) (by omega) (by omega)
  have hi : i < (fst1 ar (T.drop a)).length := (List.getElem?_eq_some_iff.mp hd).1
  unfold fst1 at hd
  rw [List.getElem?_take] at hd
  split at hd
  · rw [List.getElem?_drop] at hd; simpa using hd
  · cases hd
theorem t_first2 (C : CH ty N) (hT : isT c t room ar T) (hb : ∀ d ∈ T, d < 1000) {x : Nat} (hx : x < 1000) : ∀ (L : List Nat) (p n : Nat), T.drop p = L → p ≤ T.length → L.length < n → jf_X7_firstPlace_2 ty (cst N h0 c) n (N + t) (i32 x) (i32 p) = some (i32 ((p + L.idxOf x : Nat) : Int)) := by
  have h60 : T.length ≤ 60 := by have := hT.2.2.2.2.2; omega
  have q8 := hT.2.2.2.2.2.2.2.1
  have hlt := ct_lt hT.1
  intro L
  induction L with
  | nil =>
    intro p n h1 h2 h3
    obtain ⟨n, rfl⟩ : ∃ n', n = n' + 1 := ⟨n - 1, by omega⟩
    have hp : T.length ≤ p := by have := congrArg List.length h1; simp at this; omega
    rw [jf_X7_firstPlace_2_s]
    simp (disch := omega) only [i32_lit, i32_neg, i32_add, i32_sub, i32_mul, i32_lt, i32_le, i32_eq, kI hlt, q8, if_pos]
    simp
    congr 1
    omega
  | cons d L ih =>
    intro p n h1 h2 h3
    obtain ⟨n, rfl⟩ : ∃ n', n = n' + 1 := ⟨n - 1, by omega⟩
    simp only [List.length_cons] at h3
    have hl := congrArg List.length h1
    simp only [List.length_drop, List.length_cons] at hl
    have hd : T[p]? = some d := by
      have := congrArg (fun l => l[0]?) h1
      simpa [List.getElem?_drop] using this
    have hdb := hb d (List.mem_of_getElem? hd)
    rw [jf_X7_firstPlace_2_s]
    simp (disch := omega) only [i32_lit, i32_neg, i32_add, i32_sub, i32_mul, i32_lt, i32_le, i32_eq, kI hlt, q8, if_neg, t_codeAt C hT, xbs]
    rw [show ((p : Int)).toNat = p by omega, hd]
    simp only [oI]
    simp (disch := omega) only [i32_lit, i32_neg, i32_add, i32_sub, i32_mul, i32_lt, i32_le, i32_eq]
    by_cases hdx : d = x
    · subst hdx
      rw [if_pos rfl]
      simp
    · rw [if_neg (by omega), show (p : Int) + 1 = ((p + 1 : Nat) : Int) by omega, ih (p + 1) n (by rw [drop_cons hd] at h1; exact (List.cons.inj h1).2) (by omega) (by omega)]
      have e : (d :: L).idxOf x = L.idxOf x + 1 := by rw [List.idxOf_cons, show (d == x) = false from beq_eq_false_iff_ne.mpr hdx]; rfl
      rw [e]
      congr 2
      omega
theorem t_first (C : CH ty N) (hT : isT c t room ar T) (hb : ∀ d ∈ T, d < 1000) {x : Nat} (hx : x < 1000) : jf_X7_firstPlace ty (cst N h0 c) (N + t) (i32 x) = some (i32 (T.idxOf x : Nat)) := by
  refine xlim_of (T.length + 1) (fun n hn => ?_)
  have := t_first2 (h0 := h0) C hT hb hx T 0 n (by simp) (by omega) (by omega)
  rw [Nat.zero_add] at this
  exact this
theorem t_clear (C : CH ty N) (hT : isT c t room ar T) : jf_X7_clear ty (cst N h0 c) (N + t) = some (cst N h0 (csI c t 2 (i32 0))) ∧ isT (csI c t 2 (i32 0)) t room ar [] ∧ fr t (t + 3) c (csI c t 2 (i32 0)) := by
  obtain ⟨q1, q2, q3, q4, q5, q6, q7, q8, q9, q10⟩ := hT
  have hlt := ct_lt q1
  refine ⟨?_, ⟨q1, q2, q3, q4, q5, by simp, q7, ?_, seg_nil _ _, seg_nil _ _⟩, fr.I (by omega) (by omega)⟩
  · unfold jf_X7_clear
    simp only [i32_lit, i32_neg, i32_add, i32_sub, i32_mul, i32_lt, i32_le, i32_eq, xbs, ksI hlt]
  · rw [cI_I, fu2_same]; rfl
theorem seg_snoc {f : Nat → Int32} {p d : Nat} {L : List Nat} (h : seg f p L) (hd : f (p + L.length) = i32 d) : seg f p (L ++ [d]) := by
  rw [seg_app]
  refine ⟨h, ?_⟩
  rw [seg_cons]
  exact ⟨hd, seg_nil _ _⟩
theorem seg_fu2 {A : Nat → Nat → Int32} {a p i : Nat} {v : Int32} {L : List Nat} (h : seg (A a) p L) (hi : p + L.length ≤ i) : seg (fu2 A a i v a) p L := by
  refine seg_congr h (fun j h1 h2 => ?_)
  exact fu2_ne A v (Or.inr (by omega))
theorem t_add (C : CH ty N) (hT : isT c t room ar T) (hl : T.length < room) (d : Nat) : ∃ c', jf_X7_add ty (cst N h0 c) (N + t) (i32 d) (i32 (ar d)) = some (i32 1, cst N h0 c') ∧ isT c' t room ar (T ++ [d]) ∧ fr t (t + 3) c c' := by
  obtain ⟨q1, q2, q3, q4, q5, q6, q7, q8, q9, q10⟩ := hT
  have hlt := ct_lt q1
  refine ⟨csI (csA (csA c (t + 1) T.length (i32 d)) (t + 2) T.length (i32 (ar d))) t 2 (i32 ((T.length : Int) + 1)), ?_, ⟨q1, q2, q3, q4, q5, by simp; omega, q7, ?_, ?_, ?_⟩, ?_⟩
  · unfold jf_X7_add
    simp (disch := omega) only [i32_lit, i32_neg, i32_add, i32_sub, i32_mul, i32_lt, i32_le, i32_eq, kI hlt, q8, if_neg, kR hlt, q4, q5, xbs, kln C q2, if_pos, kwa C q2, kwa C q3, cI_A, cR_A, ksI hlt]
    rfl
  · rw [cI_I, fu2_same]
    simp
  · rw [cA_I, cA_A, cA_A, fu2_row _ _ (show t + 1 ≠ t + 2 by omega)]
    refine seg_snoc (seg_fu2 q9 (by omega)) ?_
    rw [Nat.zero_add, fu2_same]
  · rw [cA_I, cA_A, cA_A, List.map_append]
    have q10' : seg (fu2 (cA c) (t + 1) T.length (i32 d) (t + 2)) 0 (T.map ar) := by rw [fu2_row _ _ (show t + 2 ≠ t + 1 by omega)]; exact q10
    refine seg_snoc (seg_fu2 q10' (by simp)) ?_
    rw [List.length_map, Nat.zero_add, fu2_same]
  · exact fr.tr (fr.tr (fr.A (by omega) (by omega)) (fr.A (by omega) (by omega))) (fr.I (by omega) (by omega))
theorem t_full (C : CH ty N) (hT : isT c t room ar T) (hl : T.length = room) (x y : Int32) : jf_X7_add ty (cst N h0 c) (N + t) x y = some (i32 0, cst N h0 c) := by
  obtain ⟨q1, q2, q3, q4, q5, q6, q7, q8, q9, q10⟩ := hT
  have hlt := ct_lt q1
  unfold jf_X7_add
  simp (disch := omega) only [i32_lit, i32_neg, i32_add, i32_sub, i32_mul, i32_lt, i32_le, i32_eq, kI hlt, q8, if_neg, kR hlt, q4, xbs, kln C q2]
end TERM

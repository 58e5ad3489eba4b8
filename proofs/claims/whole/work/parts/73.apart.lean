/-! apart -/
section APART
variable {ty : xTy} {N M : Nat} {hA hB h0 : xH} {mm mi : Nat → Nat} {c : CS} {I : Nat → Int32} {A : Nat → Nat → Int32} {J : Nat → Int64} {g : Sg} {b : Bk}
/-- a path's step, its end too -/
def cc (b : Bk) (k r : Nat) : Nat := ((bT b r)[k]?.map star).getD 99
theorem cc_le (k r : Nat) : cc b k r ≤ 100 := by
  unfold cc
  cases (bT b r)[k]? with
  | none => decide
  | some d => simp only [Option.map_some, Option.getD_some]; unfold star; omega
def mxS (f : Nat → Nat) : List Nat → Nat
  | [] => 0
  | x :: l => max (mxS f l) (f x)
theorem mxS_perm (f : Nat → Nat) {l k : List Nat} (h : l.Perm k) : mxS f l = mxS f k := by
  induction h with
  | nil => rfl
  | cons x h ih => simp only [mxS, ih]
  | swap x y l => simp only [mxS]; omega
  | trans _ _ i1 i2 => rw [i1, i2]
theorem mxS_cong {f e : Nat → Nat} : ∀ {l : List Nat}, (∀ x ∈ l, f x = e x) → mxS f l = mxS e l
  | [], _ => rfl
  | x :: l, h => by simp only [mxS, mxS_cong (fun y hy => h y (List.mem_cons_of_mem _ hy)), h x List.mem_cons_self]
theorem mxS_le {f : Nat → Nat} {m : Nat} : ∀ {l : List Nat}, (∀ x, f x ≤ m) → mxS f l ≤ m
  | [], _ => Nat.zero_le _
  | x :: l, h => by
    have := mxS_le (l := l) h
    have := h x
    simp only [mxS]
    omega
theorem mxS_take (f : Nat → Nat) {l : List Nat} {i r : Nat} (h : l[i]? = some r) : mxS f (l.take (i + 1)).reverse = max (mxS f (l.take i).reverse) (f r) := by
  rw [List.take_add_one, h]
  simp only [Option.toList, List.reverse_append, List.reverse_cons, List.reverse_nil, List.nil_append, List.singleton_append, mxS]
theorem mxS_inL (f : Nat → Nat) (z i : Nat) : mxS f (inL z (i + 1)).reverse = if inR z i then max (mxS f (inL z i).reverse) (f i) else mxS f (inL z i).reverse := by
  rw [inL_succ]
  cases h : inR z i with
  | false => simp
  | true => simp only [if_true, List.reverse_append, List.reverse_cons, List.reverse_nil, List.nil_append, List.singleton_append, mxS]
/-- how many are alike at a place -/
def alk (b : Bk) (z k r : Nat) : Nat := (inL z (bnr b)).countP (fun x => decide (cc b k x = cc b k r))
def lgs (b : Bk) (z k : Nat) : Nat := mxS (alk b z k) (inL z (bnr b)).reverse
theorem alk_le (z k r : Nat) : alk b z k r ≤ bnr b := Nat.le_trans List.countP_le_length (inL_len z (bnr b))
theorem lgs_le (z k : Nat) : lgs b z k ≤ bnr b := mxS_le (fun r => alk_le z k r)
theorem cnt_take {p : Nat → Bool} {l : List Nat} {i r : Nat} (h : l[i]? = some r) : (l.take (i + 1)).countP p = (l.take i).countP p + if p r then 1 else 0 := by
  rw [List.take_add_one, h, List.countP_append]
  simp [Option.toList, List.countP_cons]
theorem cnt_inL {p : Nat → Bool} (z i : Nat) : (inL z (i + 1)).countP p = (inL z i).countP p + if inR z i && p i then 1 else 0 := by
  rw [inL_succ]
  cases h : inR z i with
  | false => simp
  | true => simp [List.countP_append, List.countP_cons]
theorem k_cc (C : CH ty N) (hg : gwf g) (hc : CRep c g) {i r k : Nat} (hi : (ordL (gb g) (gin g))[i]? = some r) (hk : k ≤ 100) : jf_X9_classCode ty (cst N h0 c) (N + 234) (i32 i) (i32 k) = some (i32 (cc (gb g) k r : Nat)) := by
  obtain ⟨t1, t2, hr, hin⟩ := k_termAt (h0 := h0) C hg hc hi
  have hlT := ct_lt t2.1
  have l12 := (hg.lo hr).2.1
  have bT3 : ∀ d ∈ bT (gb g) r, d < 1000 := fun d hd => (((hg.1.2.2.2.2 r hr).1).ar hg.1 d hd).2
  unfold jf_X9_classCode cc
  simp (disch := omega) only [t1, xbs, kck C t2.1, kI hlT, t2.2.2.2.2.2.2.2.1, i32_lit, i32_neg, i32_add, i32_sub, i32_mul, i32_lt, i32_le, i32_eq]
  by_cases w : ((bT (gb g) r).length : Int) ≤ (k : Int)
  · rw [if_pos w, List.getElem?_eq_none (by omega)]; rfl
  · rw [if_neg w]
    obtain ⟨d, hd⟩ := get_some (L := bT (gb g) r) (i := k) (by omega)
    rw [t_pathCode C t2 bT3 (by omega) (by omega), Int.toNat_natCast, hd]
    rfl
theorem k_lg18 (C : CH ty N) (hg : gwf g) (hc : CRep c g) {i r p a : Nat} (hi : (ordL (gb g) (gin g))[i]? = some r) (hp : p ≤ 100) (ha : a ≤ 16) : ∀ (k j : Nat), j + k = (ordL (gb g) (gin g)).length →
    ∀ k4 : Nat → Int32 → Int32 → Int32 → Option Int32, jf_X9_largestClass_18 ty (cst N h0 c) k4 (k + 1) (N + 234) (i32 p) (i32 a) (i32 i) (i32 (((ordL (gb g) (gin g)).take j).countP (fun x => decide (cc (gb g) p x = cc (gb g) p r)) : Nat)) (i32 j) = k4 (N + 234) (i32 p) (i32 ((max a (alk (gb g) (gin g) p r) : Nat) : Int)) (i32 ((i + 1 : Nat) : Int)) := by
  have hl := ordL_len hg.1 (gin g)
  have hil : i < (ordL (gb g) (gin g)).length := (List.getElem?_eq_some_iff.mp hi).1
  intro k
  induction k with
  | zero =>
    intro j h1 k4
    have hal := alk_le (b := gb g) (gin g) p r
    have h16 := hg.1.2.2.1
    rw [jf_X9_largestClass_18_s]
    rw [List.take_of_length_le (by omega), (ordL_perm (gin g)).countP_eq]
    rw [show (inL (gin g) (bnr (gb g))).countP (fun x => decide (cc (gb g) p x = cc (gb g) p r)) = alk (gb g) (gin g) p r from rfl]
    simp (disch := omega) only [k_tn hc, i32_lit, i32_neg, i32_add, i32_sub, i32_mul, i32_lt, i32_le, i32_eq, if_pos, xmax_i]
    rw [show max (a : Int) ((alk (gb g) (gin g) p r : Nat) : Int) = ((max a (alk (gb g) (gin g) p r) : Nat) : Int) by omega, show (i : Int) + 1 = ((i + 1 : Nat) : Int) by omega]
  | succ k ih =>
    intro j h1 k4
    obtain ⟨s, hs⟩ := get_some (L := ordL (gb g) (gin g)) (i := j) (by omega)
    have ih' := ih (j + 1) (by omega) k4
    rw [cnt_take hs] at ih'
    have hb3 : ((ordL (gb g) (gin g)).take j).countP (fun x => decide (cc (gb g) p x = cc (gb g) p r)) ≤ j := Nat.le_trans List.countP_le_length (List.length_take_le _ _)
    have c1 := cc_le (b := gb g) p r
    have c2 := cc_le (b := gb g) p s
    rw [jf_X9_largestClass_18_s]
    simp (disch := omega) only [k_tn hc, i32_lit, i32_neg, i32_add, i32_sub, i32_mul, i32_lt, i32_le, i32_eq, if_neg, k_cc C hg hc hi hp, k_cc C hg hc hs hp, xbs]
    rw [show (j : Int) + 1 = ((j + 1 : Nat) : Int) by omega]
    by_cases w : (cc (gb g) p r : Int) = (cc (gb g) p s : Int)
    · simp only [eq_true w, if_true]
      rw [decide_eq_true (show cc (gb g) p s = cc (gb g) p r by omega)] at ih'
      exact ih'
    · simp only [eq_false w, if_false]
      rw [decide_eq_false (show ¬ cc (gb g) p s = cc (gb g) p r by omega)] at ih'
      exact ih'
theorem k_lg4 (C : CH ty N) (hg : gwf g) (hc : CRep c g) {p : Nat} (hp : p ≤ 100) : ∀ (k i : Nat), i + k = (ordL (gb g) (gin g)).length →
    ∃ n, jf_X9_largestClass_4 ty (cst N h0 c) n (N + 234) (i32 p) (i32 (mxS (alk (gb g) (gin g) p) ((ordL (gb g) (gin g)).take i).reverse : Nat)) (i32 i) = some (i32 (lgs (gb g) (gin g) p : Nat)) := by
  have hl := ordL_len hg.1 (gin g)
  have h16 := hg.1.2.2.1
  intro k
  induction k with
  | zero =>
    intro i h1
    refine ⟨1, ?_⟩
    rw [jf_X9_largestClass_4_s]
    simp (disch := omega) only [k_tn hc, i32_lit, i32_neg, i32_add, i32_sub, i32_mul, i32_lt, i32_le, i32_eq, if_pos]
    rw [List.take_of_length_le (by omega), mxS_perm _ ((List.reverse_perm _).trans ((ordL_perm (gin g)).trans (List.reverse_perm _).symm))]
    rfl
  | succ k ih =>
    intro i h1
    obtain ⟨r, hr⟩ := get_some (L := ordL (gb g) (gin g)) (i := i) (by omega)
    obtain ⟨n, q1⟩ := ih (i + 1) (by omega)
    rw [mxS_take _ hr] at q1
    have hm : mxS (alk (gb g) (gin g) p) ((ordL (gb g) (gin g)).take i).reverse ≤ 16 := Nat.le_trans (mxS_le (fun r => alk_le (gin g) p r)) h16
    refine ⟨n + 1, ?_⟩
    rw [jf_X9_largestClass_4_s]
    simp (disch := omega) only [k_tn hc, i32_lit, i32_neg, i32_add, i32_sub, i32_mul, i32_lt, i32_le, i32_eq, if_neg]
    exact jf_X9_largestClass_18_l ((k_lg18 C hg hc hr hp hm (ordL (gb g) (gin g)).length 0 (by omega) _).trans q1)
theorem k_lg (C : CH ty N) (hg : gwf g) (hc : CRep c g) {p : Nat} (hp : p ≤ 100) : jf_X9_largestClass ty (cst N h0 c) (N + 234) (i32 p) = some (i32 (lgs (gb g) (gin g) p : Nat)) := by
  obtain ⟨n, q⟩ := k_lg4 (h0 := h0) C hg hc hp _ 0 (Nat.zero_add _)
  exact jf_X9_largestClass_4_l q
theorem r_cc (H : MH ty M mm mi h0) (hb : bwf b) (hR : RB I A b) {r k : Nat} (hr : r < bnr b) (hk : k ≤ 100) : jf_X12_stepAt ty (rst mm mi h0 M I A J) M (i32 r) (i32 k) = some (i32 (cc b k r : Nat)) := r_step H hb hR hr hk
theorem r_lg18 (H : MH ty M mm mi h0) (hb : bwf b) (hR : RB I A b) {z : Nat} (hz : z < 65536) (h26 : I 26 = i32 z) {r p a : Nat} (hr : r < bnr b) (hp : p ≤ 100) (ha : a ≤ 16) : ∀ (k j : Nat), j + k = bnr b →
    ∀ k4 : Nat → Int32 → Int32 → Int32 → Option Int32, jf_X12_largest_18 ty (rst mm mi h0 M I A J) k4 (k + 1) M (i32 p) (i32 a) (i32 r) (i32 ((if inR z r then (inL z j).countP (fun x => decide (cc b p x = cc b p r)) else 0 : Nat) : Int)) (i32 j) = k4 M (i32 p) (i32 ((if inR z r then max a (alk b z p r) else a : Nat) : Int)) (i32 ((r + 1 : Nat) : Int)) := by
  have h16 := hb.2.2.1
  intro k
  induction k with
  | zero =>
    intro j h1 k4
    have hal := alk_le (b := b) z p r
    rw [jf_X12_largest_18_s]
    rw [show j = bnr b by omega]
    cases hin : inR z r with
    | false =>
      simp (disch := omega) only [rI, hR.2.2.1, i32_lit, i32_neg, i32_add, i32_sub, i32_mul, i32_lt, i32_le, i32_eq, if_pos, Bool.false_eq_true, if_false]
      rw [show (r : Int) + 1 = ((r + 1 : Nat) : Int) by omega]
    | true =>
      simp only [if_true]
      rw [show (inL z (bnr b)).countP (fun x => decide (cc b p x = cc b p r)) = alk b z p r from rfl]
      simp (disch := omega) only [rI, hR.2.2.1, i32_lit, i32_neg, i32_add, i32_sub, i32_mul, i32_lt, i32_le, i32_eq, if_pos]
      rw [show (r : Int) + 1 = ((r + 1 : Nat) : Int) by omega]
      by_cases w : ((alk b z p r : Nat) : Int) ≤ (a : Int)
      · simp only [eq_true w, if_true]
        rw [Nat.max_eq_left (by omega)]
      · simp only [eq_false w, if_false]
        rw [Nat.max_eq_right (by omega)]
  | succ k ih =>
    intro j h1 k4
    have hj : j < bnr b := by omega
    have ih' := ih (j + 1) (by omega) k4
    rw [cnt_inL] at ih'
    have hb3 : (inL z j).countP (fun x => decide (cc b p x = cc b p r)) ≤ j := Nat.le_trans List.countP_le_length (inL_len z j)
    have c1 := cc_le (b := b) p r
    have c2 := cc_le (b := b) p j
    rw [jf_X12_largest_18_s]
    cases hin : inR z r with
    | false =>
      rw [hin] at ih'
      simp only [Bool.false_eq_true, if_false] at ih' ⊢
      simp (disch := omega) only [rI, hR.2.2.1, i32_lit, i32_neg, i32_add, i32_sub, i32_mul, i32_lt, i32_le, i32_eq, if_neg, r_isInNow hz h26, xbs, hin, bI_eq0, if_true]
      rw [show (j : Int) + 1 = ((j + 1 : Nat) : Int) by omega]
      exact ih'
    | true =>
      rw [hin] at ih'
      simp only [if_true] at ih' ⊢
      simp (disch := omega) only [rI, hR.2.2.1, i32_lit, i32_neg, i32_add, i32_sub, i32_mul, i32_lt, i32_le, i32_eq, if_neg, r_isInNow hz h26, xbs, hin, bI_eq0, Bool.true_eq_false, if_false, r_cc H hb hR hr hp, r_cc H hb hR hj hp]
      rw [show (j : Int) + 1 = ((j + 1 : Nat) : Int) by omega, Int.add_zero]
      cases hin2 : inR z j with
      | false =>
        rw [hin2] at ih'
        simp only [if_true]
        exact ih'
      | true =>
        rw [hin2] at ih'
        simp only [Bool.true_eq_false, if_false]
        by_cases w : (cc b p j : Int) = (cc b p r : Int)
        · simp only [eq_true w, if_true]
          rw [decide_eq_true (show cc b p j = cc b p r by omega)] at ih'
          exact ih'
        · simp only [eq_false w, if_false]
          rw [decide_eq_false (show ¬ cc b p j = cc b p r by omega)] at ih'
          exact ih'
theorem r_lg4 (H : MH ty M mm mi h0) (hb : bwf b) (hR : RB I A b) {z : Nat} (hz : z < 65536) (h26 : I 26 = i32 z) {p : Nat} (hp : p ≤ 100) : ∀ (k i : Nat), i + k = bnr b →
    ∃ n, jf_X12_largest_4 ty (rst mm mi h0 M I A J) n M (i32 p) (i32 (mxS (alk b z p) (inL z i).reverse : Nat)) (i32 i) = some (i32 (lgs b z p : Nat)) := by
  have h16 := hb.2.2.1
  intro k
  induction k with
  | zero =>
    intro i h1
    refine ⟨1, ?_⟩
    rw [jf_X12_largest_4_s]
    simp (disch := omega) only [rI, hR.2.2.1, i32_lit, i32_neg, i32_add, i32_sub, i32_mul, i32_lt, i32_le, i32_eq, if_pos]
    rw [show i = bnr b by omega]
    rfl
  | succ k ih =>
    intro i h1
    obtain ⟨n, q1⟩ := ih (i + 1) (by omega)
    rw [mxS_inL] at q1
    have hm : mxS (alk b z p) (inL z i).reverse ≤ 16 := Nat.le_trans (mxS_le (fun r => alk_le z p r)) h16
    refine ⟨n + 1, ?_⟩
    rw [jf_X12_largest_4_s]
    simp (disch := omega) only [rI, hR.2.2.1, i32_lit, i32_neg, i32_add, i32_sub, i32_mul, i32_lt, i32_le, i32_eq, if_neg]
    have := r_lg18 (J := J) H hb hR hz h26 (show i < bnr b by omega) hp hm (bnr b) 0 (by omega) (jf_X12_largest_4 ty (rst mm mi h0 M I A J) n)
    rw [show (if inR z i then (inL z 0).countP (fun x => decide (cc b p x = cc b p i)) else 0 : Nat) = 0 by split <;> rfl] at this
    exact jf_X12_largest_18_l (this.trans q1)
theorem r_lg (H : MH ty M mm mi h0) (hb : bwf b) (hR : RB I A b) {z : Nat} (hz : z < 65536) (h26 : I 26 = i32 z) {p : Nat} (hp : p ≤ 100) : jf_X12_largest ty (rst mm mi h0 M I A J) M (i32 p) = some (i32 (lgs b z p : Nat)) := by
  obtain ⟨n, q⟩ := r_lg4 (J := J) H hb hR hz h26 hp _ 0 (Nat.zero_add _)
  exact jf_X12_largest_4_l q
/-- where the largest class is least -/
def apB (f : Nat → Nat) : Nat → Nat
  | 0 => 0
  | m + 1 => if f (m + 1) < f (apB f m) then m + 1 else apB f m
theorem apB_le (f : Nat → Nat) : ∀ m, apB f m ≤ m
  | 0 => Nat.le_refl _
  | m + 1 => by
    have := apB_le f m
    simp only [apB]
    split <;> omega
theorem k_ap25 (C : CH ty N) (hg : gwf g) (hc : CRep c g) {w : Int} (w1 : 0 ≤ w) (w2 : w ≤ 1) : ∀ (k m : Nat), m + k = 11 →
    jf_X11_apart_25 ty (cst N h0 c) (k + 1) (N + 0) (i32 w) (i32 (apB (lgs (gb g) (gin g)) m : Nat)) (i32 (lgs (gb g) (gin g) (apB (lgs (gb g) (gin g)) m) : Nat)) (i32 ((m + 1 : Nat) : Int)) = some (i32 ((if w = 0 then apB (lgs (gb g) (gin g)) 11 else lgs (gb g) (gin g) (apB (lgs (gb g) (gin g)) 11) : Nat) : Int)) := by
  have h16 := hg.1.2.2.1
  intro k
  induction k with
  | zero =>
    intro m h1
    have e : m = 11 := by omega
    subst e
    rw [jf_X11_apart_25_s]
    simp (disch := omega) only [i32_lit, i32_neg, i32_add, i32_sub, i32_mul, i32_lt, i32_le, i32_eq, if_pos]
    split <;> rfl
  | succ k ih =>
    intro m h1
    have ih' := ih (m + 1) (by omega)
    have b1 := apB_le (lgs (gb g) (gin g)) m
    have b2 := lgs_le (b := gb g) (gin g) (m + 1)
    have b3 := lgs_le (b := gb g) (gin g) (apB (lgs (gb g) (gin g)) m)
    rw [jf_X11_apart_25_s]
    simp (disch := omega) only [k_tree C hc.1, xbs, k_lg C hg hc (p := m + 1) (by omega), i32_lit, i32_neg, i32_add, i32_sub, i32_mul, i32_lt, i32_le, i32_eq, if_neg]
    rw [show ((m + 1 : Nat) : Int) + 1 = ((m + 1 + 1 : Nat) : Int) by omega]
    simp only [apB] at ih'
    by_cases h : ((lgs (gb g) (gin g) (apB (lgs (gb g) (gin g)) m) : Nat) : Int) ≤ ((lgs (gb g) (gin g) (m + 1) : Nat) : Int)
    · simp only [eq_true h, if_true]
      rw [if_neg (by omega)] at ih'
      exact ih'
    · simp only [eq_false h, if_false]
      rw [if_pos (by omega)] at ih'
      exact ih'
theorem r_ap20 (H : MH ty M mm mi h0) (hb : bwf b) (hR : RB I A b) {z : Nat} (hz : z < 65536) (h26 : I 26 = i32 z) {w : Int} (w1 : 0 ≤ w) (w2 : w ≤ 1) : ∀ (k m : Nat), m + k = 11 →
    jf_X12_apart_20 ty (k + 1) M (i32 w) (i32 (apB (lgs b z) m : Nat)) (i32 ((m + 1 : Nat) : Int)) (rst mm mi h0 M I A J) = some (i32 ((if w = 0 then apB (lgs b z) 11 else lgs b z (apB (lgs b z) 11) : Nat) : Int), rst mm mi h0 M I A J) := by
  have h16 := hb.2.2.1
  intro k
  induction k with
  | zero =>
    intro m h1
    have e : m = 11 := by omega
    subst e
    have b1 := apB_le (lgs b z) 11
    rw [jf_X12_apart_20_s]
    simp (disch := omega) only [i32_lit, i32_neg, i32_add, i32_sub, i32_mul, i32_lt, i32_le, i32_eq, if_pos, r_lg H hb hR hz h26 (p := apB (lgs b z) 11) (by omega), xbs]
    split <;> rfl
  | succ k ih =>
    intro m h1
    have ih' := ih (m + 1) (by omega)
    have b1 := apB_le (lgs b z) m
    have b2 := lgs_le (b := b) z (m + 1)
    have b3 := lgs_le (b := b) z (apB (lgs b z) m)
    rw [jf_X12_apart_20_s]
    simp (disch := omega) only [r_lg H hb hR hz h26 (p := apB (lgs b z) m) (by omega), r_lg H hb hR hz h26 (p := m + 1) (by omega), xbs, i32_lit, i32_neg, i32_add, i32_sub, i32_mul, i32_lt, i32_le, i32_eq, if_neg]
    rw [show ((m + 1 : Nat) : Int) + 1 = ((m + 1 + 1 : Nat) : Int) by omega]
    simp only [apB] at ih'
    by_cases h : ((lgs b z (apB (lgs b z) m) : Nat) : Int) ≤ ((lgs b z (m + 1) : Nat) : Int)
    · simp only [eq_true h, if_true]
      rw [if_neg (by omega)] at ih'
      exact ih'
    · simp only [eq_false h, if_false]
      rw [if_pos (by omega)] at ih'
      exact ih'
theorem op_apart (C : CH ty N) (H : MH ty M mm mi hB) (hg : gwf g) (hc : CRep c g) (hr : RRep I A g) {k : Int} (f1 : -2147483648 ≤ k) (f2 : k < 2147483648) :
    OPp mm mi hB M J g (jf_X11_apart ty (cst N hA c) (N + 0) (i32 k)) (jf_X12_apart ty (rst mm mi hB M I A J) M (i32 k)) := by
  have hr2 : RRep (fu I 2 (i32 0)) A g := hr.ks (fun k _ h _ => fu_ne _ _ h) keepA.rf
  unfold jf_X11_apart jf_X12_apart
  simp (disch := omega) only [rsI, xbs, i32_lit, i32_neg, i32_lt, i32_le, isIn_i, bI_eq0, k_tree C hc.1]
  by_cases w : 0 ≤ k ∧ k ≤ 1
  · obtain ⟨w1, w2⟩ := w
    refine OPp.ret (v := i32 ((if k = 0 then apB (lgs (gb g) (gin g)) 11 else lgs (gb g) (gin g) (apB (lgs (gb g) (gin g)) 11) : Nat) : Int)) hr ?_ ?_
    · rw [if_neg (by omega), if_pos w2]
      have h0 := k_lg (h0 := hA) C hg hc (p := 0) (by omega)
      rw [show i32 ((0 : Nat) : Int) = i32 0 from rfl] at h0
      rw [h0, xbs]
      exact jf_X11_apart_25_l (k_ap25 (h0 := hA) C hg hc w1 w2 11 0 (by omega))
    · simp only [decide_eq_true w1, decide_eq_true w2, Bool.and_true, Bool.true_eq_false, if_false]
      exact jf_X12_apart_20_l (r_ap20 H hg.1 hr2.1 hg.z hr2.2.1 w1 w2 11 0 (by omega))
  · refine OPp.ret (v := i32 (-1)) hr ?_ ?_
    · by_cases w1 : k < 0
      · rw [if_pos w1]
      · rw [if_neg w1, if_neg (by omega)]
    · have : (decide ((0 : Int) ≤ k) && decide (k ≤ 1)) = false := by
        rw [Bool.and_eq_false_iff, decide_eq_false_iff_not, decide_eq_false_iff_not]; omega
      simp only [this, if_true]
end APART

/-! variables of a term: how many, whether again -/
section VARS
variable {ty : xTy} {N M : Nat} {hA hB h0 : xH} {mm mi : Nat → Nat} {c : CS} {I : Nat → Int32} {A : Nat → Nat → Int32} {J : Nat → Int64} {g : Sg} {b : Bk}
def vrP (T : List Nat) (p : Nat) : Bool := decide (100 ≤ T.getD p 0)
def fsP (T : List Nat) (p : Nat) : Bool := decide (100 ≤ T.getD p 0) && decide (T.idxOf (T.getD p 0) = p)
def rpP (T : List Nat) (p : Nat) : Bool := decide (100 ≤ T.getD p 0) && decide (T.idxOf (T.getD p 0) < p)
def nvF (T : List Nat) : Nat := (List.range T.length).countP (fsP T)
def rpF (T : List Nat) : Bool := (List.range T.length).any (rpP T)
theorem getD_sm {T : List Nat} {p d : Nat} (h : T[p]? = some d) : T.getD p 0 = d := by rw [List.getD_eq_getElem?_getD, h]; rfl
theorem idx_at {T : List Nat} {p d : Nat} (h : T[p]? = some d) : (d ∈ T.take p → T.idxOf d < p) ∧ (d ∉ T.take p → T.idxOf d = p) := by
  have hp : p < T.length := (List.getElem?_eq_some_iff.mp h).1
  have e : T = T.take p ++ d :: T.drop (p + 1) := by rw [← drop_cons h, List.take_append_drop]
  have hl : (T.take p).length = p := by rw [List.length_take]; omega
  constructor
  · intro hm
    have h1 : T.idxOf d = (T.take p).idxOf d := by
      conv => lhs; rw [e]
      rw [List.idxOf_append, if_pos hm]
    rw [h1]
    have := List.idxOf_lt_length_iff.mpr hm
    omega
  · intro hm
    conv => lhs; rw [e]
    rw [List.idxOf_append, if_neg hm, List.idxOf_cons_self, hl]
    omega
theorem rg_cnt_succ (p : Nat → Bool) (i : Nat) : (List.range (i + 1)).countP p = (List.range i).countP p + if p i then 1 else 0 := by
  rw [List.range_succ, List.countP_append]
  simp [List.countP_cons]
theorem rg_cnt_le (p : Nat → Bool) (i : Nat) : (List.range i).countP p ≤ i := Nat.le_trans List.countP_le_length (by rw [List.length_range]; exact Nat.le_refl _)
/-- the variables among the first places -/
def vsB (T : List Nat) (k v : Nat) : Bool := decide (100 + v ∈ T.take k)
theorem vsB_succ {T : List Nat} {k d : Nat} (h : T[k]? = some d) (v : Nat) : vsB T (k + 1) v = (vsB T k v || decide (100 + v = d)) := by
  unfold vsB
  rw [List.take_add_one, h]
  simp [Option.toList, List.mem_append, Bool.decide_or]
theorem cnt_upd (p : Nat → Bool) (v : Nat) (hv : p v = false) : ∀ n, v < n → (List.range n).countP (fun i => p i || decide (i = v)) = (List.range n).countP p + 1
  | 0, h => by omega
  | n + 1, h => by
    rw [rg_cnt_succ, rg_cnt_succ]
    by_cases e : n = v
    · subst e
      have : (List.range n).countP (fun i => p i || decide (i = n)) = (List.range n).countP p := List.countP_congr (fun i hi => by
        have := List.mem_range.mp hi
        simp [show ¬ i = n by omega])
      rw [this, hv]
      simp
    · rw [cnt_upd p v hv n (by omega)]
      simp [e]
      omega
theorem fs_cnt {T : List Nat} (hT : ∀ d ∈ T, d < 104) : ∀ k, k ≤ T.length → (List.range k).countP (fsP T) = (List.range 4).countP (vsB T k)
  | 0, _ => by
    have : (List.range 4).countP (vsB T 0) = 0 := by rw [List.countP_eq_zero]; intro v _; simp [vsB]
    rw [this]; rfl
  | k + 1, h => by
    obtain ⟨d, hd⟩ := get_some (L := T) (i := k) (by omega)
    have ih := fs_cnt hT k (by omega)
    obtain ⟨i1, i2⟩ := idx_at hd
    have hd4 := hT d (List.mem_of_getElem? hd)
    rw [rg_cnt_succ, ih]
    have e : (List.range 4).countP (vsB T (k + 1)) = (List.range 4).countP (fun v => vsB T k v || decide (100 + v = d)) := List.countP_congr (fun v _ => by rw [vsB_succ hd])
    rw [e]
    unfold fsP
    rw [getD_sm hd]
    by_cases h100 : 100 ≤ d
    · rw [decide_eq_true h100, Bool.true_and]
      obtain ⟨v, rfl⟩ : ∃ v, d = 100 + v := ⟨d - 100, by omega⟩
      by_cases hm : 100 + v ∈ T.take k
      · rw [decide_eq_false (by have := i1 hm; omega)]
        have : (List.range 4).countP (fun w => vsB T k w || decide (100 + w = 100 + v)) = (List.range 4).countP (vsB T k) := List.countP_congr (fun w _ => by
          by_cases ew : w = v
          · subst ew
            have : vsB T k w = true := by unfold vsB; exact decide_eq_true hm
            simp [this]
          · simp [ew])
        rw [this]; rfl
      · rw [decide_eq_true (i2 hm)]
        have hv : vsB T k v = false := by unfold vsB; exact decide_eq_false hm
        have := cnt_upd (vsB T k) v hv 4 (by omega)
        have e2 : (List.range 4).countP (fun w => vsB T k w || decide (100 + w = 100 + v)) = (List.range 4).countP (fun w => vsB T k w || decide (w = v)) := List.countP_congr (fun w _ => by simp)
        rw [e2, this]; rfl
    · rw [decide_eq_false h100, Bool.false_and]
      have : (List.range 4).countP (fun w => vsB T k w || decide (100 + w = d)) = (List.range 4).countP (vsB T k) := List.countP_congr (fun w _ => by simp [show ¬ 100 + w = d by omega])
      rw [this]; rfl
theorem vr_split {T : List Nat} : ∀ k, k ≤ T.length → (List.range k).countP (vrP T) = (List.range k).countP (fsP T) + (List.range k).countP (rpP T)
  | 0, _ => rfl
  | k + 1, h => by
    obtain ⟨d, hd⟩ := get_some (L := T) (i := k) (by omega)
    obtain ⟨i1, i2⟩ := idx_at hd
    rw [rg_cnt_succ, rg_cnt_succ, rg_cnt_succ, vr_split k (by omega)]
    unfold vrP fsP rpP
    rw [getD_sm hd]
    by_cases h100 : 100 ≤ d
    · rw [decide_eq_true h100, Bool.true_and, Bool.true_and]
      by_cases hm : d ∈ T.take k
      · have := i1 hm
        rw [decide_eq_false (show ¬ T.idxOf d = k by omega), decide_eq_true this]
        simp
        omega
      · have := i2 hm
        rw [decide_eq_true this, decide_eq_false (by omega)]
        simp
        omega
    · rw [decide_eq_false h100]
      simp
theorem k_var4 (C : CH ty N) {t room : Nat} {ar : Nat → Nat} {T : List Nat} (iT : isT c t room ar T) (hT : ∀ d ∈ T, d < 1000) : ∀ (k p : Nat), p + k = T.length →
    jf_X7_variables_4 ty (cst N h0 c) (k + 1) (N + t) (i32 ((List.range p).countP (fsP T))) (i32 p) = some (i32 (nvF T : Nat)) := by
  have h60 : T.length ≤ 60 := by have := iT.2.2.2.2.2; omega
  have hlt := ct_lt iT.1
  intro k
  induction k with
  | zero =>
    intro p h1
    rw [jf_X7_variables_4_s]
    simp (disch := omega) only [kI hlt, iT.2.2.2.2.2.2.2.1, i32_lit, i32_neg, i32_add, i32_sub, i32_mul, i32_lt, i32_le, i32_eq, if_pos]
    rw [show p = T.length by omega]
    rfl
  | succ k ih =>
    intro p h1
    have ih' := ih (p + 1) (by omega)
    rw [rg_cnt_succ] at ih'
    have hle := rg_cnt_le (fsP T) p
    obtain ⟨d, hd⟩ := get_some (L := T) (i := p) (by omega)
    have hdd := hT d (List.mem_of_getElem? hd)
    have hix := List.idxOf_le_length (a := d) (l := T)
    have cT : jf_X7_codeAt ty (cst N h0 c) (N + t) (i32 p) = some (i32 (d : Nat)) := by
      rw [t_codeAt C iT (by omega) (by omega), Int.toNat_natCast, hd]; rfl
    rw [jf_X7_variables_4_s]
    simp (disch := omega) only [kI hlt, iT.2.2.2.2.2.2.2.1, i32_lit, i32_neg, i32_add, i32_sub, i32_mul, i32_lt, i32_le, i32_eq, if_neg, cT, xbs, t_first C iT hT hdd]
    rw [show (p : Int) + 1 = ((p + 1 : Nat) : Int) by omega, show (((List.range p).countP (fsP T) : Nat) : Int) + 1 = (((List.range p).countP (fsP T) + 1 : Nat) : Int) by omega]
    have efs : fsP T p = (decide (100 ≤ d) && decide (T.idxOf d = p)) := by unfold fsP; rw [getD_sm hd]
    rw [efs] at ih'
    by_cases w1 : (d : Int) < 100
    · simp only [eq_true w1, if_true]
      rw [decide_eq_false (show ¬ 100 ≤ d by omega), Bool.false_and] at ih'
      exact ih'
    · simp only [eq_false w1, if_false]
      rw [decide_eq_true (show 100 ≤ d by omega), Bool.true_and] at ih'
      by_cases w2 : ((T.idxOf d : Nat) : Int) = (p : Int)
      · simp only [eq_true w2, if_true]
        rw [decide_eq_true (show T.idxOf d = p by omega)] at ih'
        exact ih'
      · simp only [eq_false w2, if_false]
        rw [decide_eq_false (show ¬ T.idxOf d = p by omega)] at ih'
        exact ih'
theorem k_var (C : CH ty N) {t room : Nat} {ar : Nat → Nat} {T : List Nat} (iT : isT c t room ar T) (hT : ∀ d ∈ T, d < 1000) : jf_X7_variables ty (cst N h0 c) (N + t) = some (i32 (nvF T : Nat)) :=
  jf_X7_variables_4_l (k_var4 C iT hT T.length 0 (by omega))
theorem k_rep2 (C : CH ty N) {t room : Nat} {ar : Nat → Nat} {T : List Nat} (iT : isT c t room ar T) (hT : ∀ d ∈ T, d < 1000) : ∀ (k p : Nat), p + k = T.length → (List.range p).any (rpP T) = false →
    jf_X7_repeatsVariable_2 ty (cst N h0 c) (k + 1) (N + t) (i32 p) = some (bI (rpF T)) := by
  have h60 : T.length ≤ 60 := by have := iT.2.2.2.2.2; omega
  have hlt := ct_lt iT.1
  intro k
  induction k with
  | zero =>
    intro p h1 h2
    rw [jf_X7_repeatsVariable_2_s]
    simp (disch := omega) only [kI hlt, iT.2.2.2.2.2.2.2.1, i32_lit, i32_neg, i32_add, i32_sub, i32_mul, i32_lt, i32_le, i32_eq, if_pos]
    rw [show p = T.length by omega] at h2
    unfold rpF
    rw [h2]; rfl
  | succ k ih =>
    intro p h1 h2
    have ih' := ih (p + 1) (by omega)
    rw [List.range_succ, List.any_append, h2] at ih'
    simp only [List.any_cons, List.any_nil, Bool.or_false, Bool.false_or] at ih'
    obtain ⟨d, hd⟩ := get_some (L := T) (i := p) (by omega)
    have hdd := hT d (List.mem_of_getElem? hd)
    have hix := List.idxOf_le_length (a := d) (l := T)
    have cT : jf_X7_codeAt ty (cst N h0 c) (N + t) (i32 p) = some (i32 (d : Nat)) := by
      rw [t_codeAt C iT (by omega) (by omega), Int.toNat_natCast, hd]; rfl
    rw [jf_X7_repeatsVariable_2_s]
    simp (disch := omega) only [kI hlt, iT.2.2.2.2.2.2.2.1, i32_lit, i32_neg, i32_add, i32_sub, i32_mul, i32_lt, i32_le, i32_eq, if_neg, cT, xbs, t_first C iT hT hdd]
    rw [show (p : Int) + 1 = ((p + 1 : Nat) : Int) by omega]
    have efs : rpP T p = (decide (100 ≤ d) && decide (T.idxOf d < p)) := by unfold rpP; rw [getD_sm hd]
    rw [efs] at ih'
    by_cases w1 : (d : Int) < 100
    · simp only [eq_true w1, if_true]
      rw [decide_eq_false (show ¬ 100 ≤ d by omega), Bool.false_and] at ih'
      exact ih' rfl
    · simp only [eq_false w1, if_false]
      rw [decide_eq_true (show 100 ≤ d by omega), Bool.true_and] at ih'
      by_cases w2 : (p : Int) ≤ ((T.idxOf d : Nat) : Int)
      · simp only [eq_true w2, if_true]
        exact ih' (decide_eq_false (by omega))
      · simp only [eq_false w2, if_false]
        have : rpF T = true := by
          unfold rpF
          rw [List.any_eq_true]
          refine ⟨p, List.mem_range.mpr (by omega), ?_⟩
          rw [efs, decide_eq_true (show 100 ≤ d by omega), decide_eq_true (show T.idxOf d < p by omega)]
          rfl
        rw [this]; rfl
theorem k_rep (C : CH ty N) {t room : Nat} {ar : Nat → Nat} {T : List Nat} (iT : isT c t room ar T) (hT : ∀ d ∈ T, d < 1000) : jf_X7_repeatsVariable ty (cst N h0 c) (N + t) = some (bI (rpF T)) :=
  jf_X7_repeatsVariable_2_l (k_rep2 C iT hT T.length 0 (by omega) rfl)
/-- the model's -/
theorem vb_lt (T : List Nat) (k : Nat) : bitsF (vsB T k) 4 < 16 := bitsF_lt _ 4
theorem r_vb4 (H : MH ty M mm mi h0) (hb : bwf b) (hR : RB I A b) {r : Nat} (hr : r < bnr b) : ∀ (k p : Nat), p + k = (bT b r).length →
    jf_X12_varBits_4 ty (rst mm mi h0 M I A J) (k + 1) M (i32 r) (i32 (bitsF (vsB (bT b r) p) 4 : Nat)) (i32 p) = some (i32 (bitsF (vsB (bT b r) (bT b r).length) 4 : Nat)) := by
  have h16 := hb.2.2.1
  have hT := (hb.2.2.2.2 r hr).1
  have l12 := hT.2.1
  intro k
  induction k with
  | zero =>
    intro p h1
    rw [jf_X12_varBits_4_s]
    simp (disch := omega) only [rr_22 H, ga_22 H, xbs, Int.toNat_natCast, (hR.2.2.2.2.2 r hr).2.1, i32_lit, i32_neg, i32_add, i32_sub, i32_mul, i32_lt, i32_le, i32_eq, if_pos]
    rw [show p = (bT b r).length by omega]
  | succ k ih =>
    intro p h1
    have ih' := ih (p + 1) (by omega)
    obtain ⟨d, hd⟩ := get_some (L := bT b r) (i := p) (by omega)
    have hdd := hT.lt hb d (List.mem_of_getElem? hd)
    have hs := (hR.2.2.2.2.2 r hr).2.2.1 p d hd
    have r12 : (12 : Int) * (r : Int) + (p : Int) = ((12 * r + p : Nat) : Int) := by omega
    rw [jf_X12_varBits_4_s]
    simp (disch := omega) only [rr_22 H, ga_22 H, rr_23 H, xbs, Int.toNat_natCast, (hR.2.2.2.2.2 r hr).2.1, i32_lit, i32_neg, i32_add, i32_sub, i32_mul, i32_lt, i32_le, i32_eq, if_neg]
    rw [r12]
    simp (disch := omega) only [ga_23 H, xbs, Int.toNat_natCast, hs, i32_lit, i32_neg, i32_add, i32_sub, i32_mul, i32_lt, i32_le, i32_eq]
    rw [show (p : Int) + 1 = ((p + 1 : Nat) : Int) by omega, or_zero]
    by_cases w1 : (d : Int) < 100
    · simp only [eq_true w1, if_true]
      have : bitsF (vsB (bT b r) (p + 1)) 4 = bitsF (vsB (bT b r) p) 4 := bitsF_cong 4 (fun v _ => by rw [vsB_succ hd, decide_eq_false (show ¬ 100 + v = d by omega), Bool.or_false])
      rw [this] at ih'
      exact ih'
    · simp only [eq_false w1, if_false]
      rw [show (d : Int) - 100 = ((d - 100 : Nat) : Int) by omega, or_bit _ _ (show d - 100 < 31 by omega)]
      have : bitsF (vsB (bT b r) (p + 1)) 4 = bitsF (vsB (bT b r) p) 4 ||| 2 ^ (d - 100) := by
        refine Nat.eq_of_testBit_eq (fun i => ?_)
        rw [Nat.testBit_or, Nat.testBit_two_pow, bitsF_bit, bitsF_bit, vsB_succ hd]
        by_cases e : d - 100 = i
        · subst e
          simp [show d - 100 < 4 by omega, show 100 + (d - 100) = d by omega]
        · simp [e, show ¬ 100 + i = d by omega]
      rw [this] at ih'
      exact ih'
theorem r_vb (H : MH ty M mm mi h0) (hb : bwf b) (hR : RB I A b) {r : Nat} (hr : r < bnr b) : jf_X12_varBits ty (rst mm mi h0 M I A J) M (i32 r) = some (i32 (bitsF (vsB (bT b r) (bT b r).length) 4 : Nat)) := by
  have e : bitsF (vsB (bT b r) 0) 4 = 0 := by
    rw [bitsF_cong (q := fun _ => false) 4 (fun v _ => by simp [vsB])]
    decide
  have := r_vb4 (I := I) (A := A) (J := J) H hb hR hr (bT b r).length 0 (by omega)
  rw [e] at this
  exact jf_X12_varBits_4_l this
theorem r_vm4 (H : MH ty M mm mi h0) (hb : bwf b) (hR : RB I A b) {r : Nat} (hr : r < bnr b) : ∀ (k p : Nat), p + k = 4 →
    jf_X12_varsMany_4 ty (rst mm mi h0 M I A J) (k + 1) M (i32 r) (i32 (cntB (bitsF (vsB (bT b r) (bT b r).length) 4) p : Nat)) (i32 p) = some (i32 (cntB (bitsF (vsB (bT b r) (bT b r).length) 4) 4 : Nat)) := by
  intro k
  induction k with
  | zero =>
    intro p h1
    rw [jf_X12_varsMany_4_s]
    simp (disch := omega) only [i32_lit, i32_neg, i32_add, i32_sub, i32_mul, i32_lt, i32_le, i32_eq, if_pos]
    rw [show p = 4 by omega]
  | succ k ih =>
    intro p h1
    have ih' := ih (p + 1) (by omega)
    have hv := vb_lt (bT b r) (bT b r).length
    have hc := cntB_le p (bitsF (vsB (bT b r) (bT b r).length) 4)
    rw [jf_X12_varsMany_4_s]
    simp (disch := omega) only [r_vb H hb hR hr, xbs, i32_lit, i32_neg, i32_add, i32_sub, i32_mul, i32_lt, i32_le, i32_eq, if_neg]
    have hbit : (i32 (bitsF (vsB (bT b r) (bT b r).length) 4 : Nat) >>> (i32 p &&& i32 31)) &&& i32 1 = i32 (if (bitsF (vsB (bT b r) (bT b r).length) 4).testBit p then 1 else 0) := by
      rw [show i32 31 = (31 : Int32) from rfl, i32_bit (by omega) (by omega)]
    rw [hbit, i32_add, show (p : Int) + 1 = ((p + 1 : Nat) : Int) by omega]
    rw [cntB_snoc] at ih'
    rw [← ih']
    congr 2
    split <;> rfl
theorem r_vm (H : MH ty M mm mi h0) (hb : bwf b) (hR : RB I A b) {r : Nat} (hr : r < bnr b) : jf_X12_varsMany ty (rst mm mi h0 M I A J) M (i32 r) = some (i32 (nvF (bT b r) : Nat)) := by
  have e : cntB (bitsF (vsB (bT b r) (bT b r).length) 4) 4 = nvF (bT b r) := by
    unfold nvF
    rw [fs_cnt (((hb.2.2.2.2 r hr).1).lt hb) _ (Nat.le_refl _), cntB_P]
    refine List.countP_congr (fun i hi => ?_)
    have := List.mem_range.mp hi
    rw [bitsF_bit, decide_eq_true this, Bool.true_and]
  have := r_vm4 (I := I) (A := A) (J := J) H hb hR hr 4 0 (by omega)
  rw [e] at this
  exact jf_X12_varsMany_4_l this
theorem rp_iff (T : List Nat) : rpF T = decide (nvF T < (List.range T.length).countP (vrP T)) := by
  rw [Bool.eq_iff_iff, decide_eq_true_iff, vr_split _ (Nat.le_refl _)]
  unfold rpF nvF
  rw [List.any_eq_true]
  constructor
  · rintro ⟨p, hp, h⟩
    have : 0 < (List.range T.length).countP (rpP T) := List.countP_pos_iff.mpr ⟨p, hp, h⟩
    omega
  · intro h
    obtain ⟨p, hp, h⟩ := List.countP_pos_iff.mp (show 0 < (List.range T.length).countP (rpP T) by omega)
    exact ⟨p, hp, h⟩
theorem r_ag4 (H : MH ty M mm mi h0) (hb : bwf b) (hR : RB I A b) {r : Nat} (hr : r < bnr b) : ∀ (k p : Nat), p + k = (bT b r).length →
    jf_X12_isAgain_4 ty (rst mm mi h0 M I A J) (k + 1) M (i32 r) (i32 ((List.range p).countP (vrP (bT b r)))) (i32 p) = some (bI (rpF (bT b r))) := by
  have h16 := hb.2.2.1
  have hT := (hb.2.2.2.2 r hr).1
  have l12 := hT.2.1
  intro k
  induction k with
  | zero =>
    intro p h1
    have e : p = (bT b r).length := by omega
    subst e
    have hle := rg_cnt_le (vrP (bT b r)) (bT b r).length
    have hle2 : nvF (bT b r) ≤ 12 := Nat.le_trans (rg_cnt_le _ _) l12
    rw [jf_X12_isAgain_4_s, rp_iff]
    simp (disch := omega) only [rr_22 H, ga_22 H, xbs, Int.toNat_natCast, (hR.2.2.2.2.2 r hr).2.1, r_vm H hb hR hr, i32_lit, i32_neg, i32_add, i32_sub, i32_mul, i32_lt, i32_le, i32_eq, if_pos]
    by_cases w : (((List.range (bT b r).length).countP (vrP (bT b r)) : Nat) : Int) ≤ ((nvF (bT b r) : Nat) : Int)
    · simp only [eq_true w, if_true]
      rw [decide_eq_false (by omega)]; rfl
    · simp only [eq_false w, if_false]
      rw [decide_eq_true (by omega)]; rfl
  | succ k ih =>
    intro p h1
    have ih' := ih (p + 1) (by omega)
    rw [rg_cnt_succ] at ih'
    have hle := rg_cnt_le (vrP (bT b r)) p
    obtain ⟨d, hd⟩ := get_some (L := bT b r) (i := p) (by omega)
    have hdd := hT.lt hb d (List.mem_of_getElem? hd)
    have hs := (hR.2.2.2.2.2 r hr).2.2.1 p d hd
    have r12 : (12 : Int) * (r : Int) + (p : Int) = ((12 * r + p : Nat) : Int) := by omega
    rw [jf_X12_isAgain_4_s]
    simp (disch := omega) only [rr_22 H, ga_22 H, rr_23 H, xbs, Int.toNat_natCast, (hR.2.2.2.2.2 r hr).2.1, i32_lit, i32_neg, i32_add, i32_sub, i32_mul, i32_lt, i32_le, i32_eq, if_neg]
    rw [r12]
    simp (disch := omega) only [ga_23 H, xbs, Int.toNat_natCast, hs, i32_lit, i32_neg, i32_add, i32_sub, i32_mul, i32_lt, i32_le, i32_eq]
    rw [show (p : Int) + 1 = ((p + 1 : Nat) : Int) by omega, Int.add_zero, show (((List.range p).countP (vrP (bT b r)) : Nat) : Int) + 1 = (((List.range p).countP (vrP (bT b r)) + 1 : Nat) : Int) by omega]
    have e : vrP (bT b r) p = decide (100 ≤ d) := by unfold vrP; rw [getD_sm hd]
    rw [e] at ih'
    by_cases w1 : (d : Int) < 100
    · simp only [eq_true w1, if_true]
      rw [decide_eq_false (show ¬ 100 ≤ d by omega)] at ih'
      exact ih'
    · simp only [eq_false w1, if_false]
      rw [decide_eq_true (show 100 ≤ d by omega)] at ih'
      exact ih'
theorem r_ag (H : MH ty M mm mi h0) (hb : bwf b) (hR : RB I A b) {r : Nat} (hr : r < bnr b) : jf_X12_isAgain ty (rst mm mi h0 M I A J) M (i32 r) = some (bI (rpF (bT b r))) :=
  jf_X12_isAgain_4_l (r_ag4 H hb hR hr (bT b r).length 0 (by omega))
end VARS

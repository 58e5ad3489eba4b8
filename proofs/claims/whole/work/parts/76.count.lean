/-! count -/
section COUNT
variable {ty : xTy} {N M : Nat} {hA hB h0 : xH} {mm mi : Nat → Nat} {c : CS} {I : Nat → Int32} {A : Nat → Nat → Int32} {J : Nat → Int64} {g : Sg} {b : Bk}
/-- the same path -/
def eqE (b : Bk) (x y : Nat) : Bool := decide (pth (bT b x) = pth (bT b y))
theorem eqE_sh (hb : bwf b) {x r : Nat} (hx : x < bnr b) (hr : r < bnr b) : shE b (bT b r).length x r = eqE b x r := by
  have e1 : (pth (bT b r)).length = (bT b r).length := by simp [pth]
  unfold shE eqE
  rw [Bool.eq_iff_iff, decide_eq_true_iff, decide_eq_true_iff]
  have hl := shp_le (pth (bT b x)) (pth (bT b r))
  constructor
  · intro h
    exact hb.tok.pf hx hr (Or.inr (by omega))
  · intro h
    rw [h, shp_self, e1]
    exact Nat.le_refl _
def lvs (b : Bk) (z : Nat) : Nat := dcn (eqE b) (inL z (bnr b)).reverse
theorem any_cong {l : List Nat} {p q : Nat → Bool} (h : ∀ x ∈ l, p x = q x) : l.any p = l.any q := by
  induction l with
  | nil => rfl
  | cons x l ih => simp only [List.any_cons, h x List.mem_cons_self, ih (fun y hy => h y (List.mem_cons_of_mem _ hy))]
theorem nwA_eq (hb : bwf b) {z i r : Nat} (hi : (ordL b z)[i]? = some r) : nwA (shE b (bT b r).length) (ordL b z) i = nwA (eqE b) (ordL b z) i := by
  have hr := (ordL_mem.mp (List.mem_of_getElem? hi)).1
  simp only [nwA, hi]
  rw [eqE_sh hb hr hr]
  congr 2
  exact any_cong (fun x hx => eqE_sh hb (ordL_mem.mp (List.mem_of_mem_take hx)).1 hr)
theorem lvs_ord (z : Nat) : dcn (eqE b) (ordL b z).reverse = lvs b z := by
  refine dcn_perm _ ?_ ?_ ?_
  · intro x y; unfold eqE; rw [Bool.eq_iff_iff, decide_eq_true_iff, decide_eq_true_iff]; exact ⟨Eq.symm, Eq.symm⟩
  · intro x y w h1 h2
    unfold eqE at *
    rw [decide_eq_true_iff] at *
    exact h1.trans h2
  · exact (List.reverse_perm _).trans ((ordL_perm z).trans (List.reverse_perm _).symm)
theorem k_lvs4 (C : CH ty N) (hg : gwf g) (hc : CRep c g) : ∀ (k i : Nat), i + k = (ordL (gb g) (gin g)).length →
    jf_X9_leaves_4 ty (cst N h0 c) (k + 1) (N + 234) (i32 (dcn (eqE (gb g)) ((ordL (gb g) (gin g)).take i).reverse : Nat)) (i32 i) = some (i32 (lvs (gb g) (gin g) : Nat)) := by
  have hl := ordL_len hg.1 (gin g)
  intro k
  induction k with
  | zero =>
    intro i h1
    rw [jf_X9_leaves_4_s]
    simp (disch := omega) only [k_tn hc, i32_lit, i32_neg, i32_add, i32_sub, i32_mul, i32_lt, i32_le, i32_eq, if_pos]
    rw [List.take_of_length_le (by omega), lvs_ord]
  | succ k ih =>
    intro i h1
    have ih' := ih (i + 1) (by omega)
    rw [dcn_take _ _ (by omega)] at ih'
    have hd := dcn_le (eqE (gb g)) ((ordL (gb g) (gin g)).take i).reverse
    rw [List.length_reverse] at hd
    have hd2 := List.length_take_le i (ordL (gb g) (gin g))
    obtain ⟨r, hr⟩ := get_some (L := ordL (gb g) (gin g)) (i := i) (by omega)
    obtain ⟨t1, t2, hrr, hin⟩ := k_termAt (h0 := h0) C hg hc hr
    have hlT := ct_lt t2.1
    have l12 := (hg.lo hrr).2.1
    have lp := ((hg.1.2.2.2.2 r hrr).1).pos
    have hbr := k_brings (h0 := h0) C hg hc hr lp (by omega)
    rw [nwA_eq hg.1 hr] at hbr
    rw [jf_X9_leaves_4_s]
    simp (disch := omega) only [k_tn hc, t1, xbs, kck C t2.1, kI hlT, t2.2.2.2.2.2.2.2.1, hbr, bI_eq0, i32_lit, i32_neg, i32_add, i32_sub, i32_mul, i32_lt, i32_le, i32_eq]
    rw [if_neg (by omega), show (i : Int) + 1 = ((i + 1 : Nat) : Int) by omega]
    cases w : nwA (eqE (gb g)) (ordL (gb g) (gin g)) i with
    | false =>
      rw [w] at ih'
      simp only [if_true]
      exact ih'
    | true =>
      rw [w] at ih'
      simp only [Bool.true_eq_false, if_false]
      exact ih'
theorem r_lv98 (H : MH ty M mm mi h0) (hb : bwf b) (hR : RB I A b) {z : Nat} (hz : z < 65536) (h26 : I 26 = i32 z) : ∀ (k i : Nat), i + k = bnr b →
    jf_X12_count_98 ty (k + 1) M (i32 (dcn (eqE b) (inL z i).reverse : Nat)) (i32 i) (rst mm mi h0 M I A J) = some (i32 (lvs b z : Nat), rst mm mi h0 M I A J) := by
  have h16 := hb.2.2.1
  intro k
  induction k with
  | zero =>
    intro i h1
    rw [jf_X12_count_98_s]
    simp (disch := omega) only [rI, hR.2.2.1, i32_lit, i32_neg, i32_add, i32_sub, i32_mul, i32_lt, i32_le, i32_eq, if_pos]
    rw [show i = bnr b by omega]
    rfl
  | succ k ih =>
    intro i h1
    have hi : i < bnr b := by omega
    have l2 := ((hb.2.2.2.2 i hi).1).2.1
    have hd := dcn_le (eqE b) (inL z i).reverse
    rw [List.length_reverse] at hd
    have hd2 := inL_len z i
    have ih' := ih (i + 1) (by omega)
    rw [dcn_inL] at ih'
    have hE : eqE b i i = true := decide_eq_true rfl
    have hany : (inL z i).any (fun x => shE b (bT b i).length x i) = (inL z i).any (fun x => eqE b x i) := any_cong (fun x hx => eqE_sh hb (by have := (mem_inL.mp hx).1; omega) hi)
    rw [hE, Bool.true_and] at ih'
    rw [jf_X12_count_98_s]
    simp (disch := omega) only [rI, hR.2.2.1, r_isInNow hz h26, rr_22 H, ga_22 H, Int.toNat_natCast, (hR.2.2.2.2.2 i hi).2.1, r_first H hb hR hz h26 hi (show (bT b i).length ≤ 1000 by omega), hany, xbs, bI_eq0, i32_lit, i32_neg, i32_add, i32_sub, i32_mul, i32_lt, i32_le, i32_eq]
    rw [if_neg (by omega), show (i : Int) + 1 = ((i + 1 : Nat) : Int) by omega, Int.add_zero]
    cases w2 : inR z i with
    | false =>
      simp only [if_true]
      rw [w2] at ih'
      exact ih'
    | true =>
      simp only [Bool.true_eq_false, if_false]
      rw [w2] at ih'
      cases w4 : (inL z i).any (fun x => eqE b x i) with
      | true =>
        rw [w4] at ih'
        exact ih'
      | false =>
        rw [w4] at ih'
        exact ih'
theorem k_pl4 (C : CH ty N) (hg : gwf g) (hc : CRep c g) : ∀ (k i : Nat), i + k = bnr (gb g) →
    jf_X0_places_4 ty (cst N h0 c) (k + 1) (N + cR c 0 2) (i32 (sumF (fun r => min (bT (gb g) r).length 12) i : Nat)) (i32 i) = some (i32 (sumF (fun r => min (bT (gb g) r).length 12) (bnr (gb g)) : Nat)) := by
  have h16 := hg.1.2.2.1
  intro k
  induction k with
  | zero =>
    intro i h1
    rw [jf_X0_places_4_s]
    simp (disch := omega) only [k_bn hc, i32_lit, i32_neg, i32_add, i32_sub, i32_mul, i32_lt, i32_le, i32_eq, if_pos]
    rw [show i = bnr (gb g) by omega]
  | succ k ih =>
    intro i h1
    have hi : i < bnr (gb g) := by omega
    have ih' := ih (i + 1) (by omega)
    simp only [sumF] at ih'
    have tr := hc.tm hg hi
    have hlT := ct_lt tr.1.1
    have l12 := (hg.lo hi).2.1
    have hsm := sumF_le (f := fun r => min (bT (gb g) r).length 12) (m := 12) (fun k => Nat.min_le_right _ _) i
    rw [jf_X0_places_4_s]
    simp (disch := omega) only [k_bn hc, i32_lit, i32_neg, i32_add, i32_sub, i32_mul, i32_lt, i32_le, i32_eq, if_neg, k_termOf C hc.1 hc.1.bk tr.2.2.2, xbs, kck C tr.1.1, kI hlT, tr.1.2.2.2.2.2.2.2.1]
    rw [show (i : Int) + 1 = ((i + 1 : Nat) : Int) by omega, show ((sumF (fun r => min (bT (gb g) r).length 12) i : Nat) : Int) + ((bT (gb g) i).length : Int) = ((sumF (fun r => min (bT (gb g) r).length 12) i + min (bT (gb g) i).length 12 : Nat) : Int) by omega]
    exact ih'
theorem r_pl146 (H : MH ty M mm mi h0) (hb : bwf b) (hR : RB I A b) : ∀ (k i : Nat), i + k = bnr b →
    jf_X12_count_146 ty (k + 1) M (i32 (sumF (fun r => min (bT b r).length 12) i : Nat)) (i32 i) (rst mm mi h0 M I A J) = some (i32 (sumF (fun r => min (bT b r).length 12) (bnr b) : Nat), rst mm mi h0 M I A J) := by
  have h16 := hb.2.2.1
  intro k
  induction k with
  | zero =>
    intro i h1
    rw [jf_X12_count_146_s]
    simp (disch := omega) only [rI, hR.2.2.1, i32_lit, i32_neg, i32_add, i32_sub, i32_mul, i32_lt, i32_le, i32_eq, if_pos]
    rw [show i = bnr b by omega]
  | succ k ih =>
    intro i h1
    have hi : i < bnr b := by omega
    have ih' := ih (i + 1) (by omega)
    simp only [sumF] at ih'
    have l12 := ((hb.2.2.2.2 i hi).1).2.1
    rw [jf_X12_count_146_s]
    simp (disch := omega) only [rI, hR.2.2.1, rr_22 H, ga_22 H, Int.toNat_natCast, (hR.2.2.2.2.2 i hi).2.1, xbs, i32_lit, i32_neg, i32_add, i32_sub, i32_mul, i32_lt, i32_le, i32_eq, if_neg]
    rw [show (i : Int) + 1 = ((i + 1 : Nat) : Int) by omega, show ((sumF (fun r => min (bT b r).length 12) i : Nat) : Int) + ((bT b i).length : Int) = ((sumF (fun r => min (bT b r).length 12) i + min (bT b i).length 12 : Nat) : Int) by omega]
    exact ih'
def lng (b : Bk) (z : Nat) : Nat := mxS (fun r => min (bT b r).length 12) (inL z (bnr b)).reverse
theorem k_lo4 (C : CH ty N) (hg : gwf g) (hc : CRep c g) : ∀ (k i : Nat), i + k = (ordL (gb g) (gin g)).length →
    jf_X9_longestPath_4 ty (cst N h0 c) (k + 1) (N + 234) (i32 (mxS (fun r => min (bT (gb g) r).length 12) ((ordL (gb g) (gin g)).take i).reverse : Nat)) (i32 i) = some (i32 (lng (gb g) (gin g) : Nat)) := by
  have hl := ordL_len hg.1 (gin g)
  intro k
  induction k with
  | zero =>
    intro i h1
    rw [jf_X9_longestPath_4_s]
    simp (disch := omega) only [k_tn hc, i32_lit, i32_neg, i32_add, i32_sub, i32_mul, i32_lt, i32_le, i32_eq, if_pos]
    rw [List.take_of_length_le (by omega), mxS_perm _ ((List.reverse_perm _).trans ((ordL_perm (gin g)).trans (List.reverse_perm _).symm))]
    rfl
  | succ k ih =>
    intro i h1
    obtain ⟨r, hr⟩ := get_some (L := ordL (gb g) (gin g)) (i := i) (by omega)
    have ih' := ih (i + 1) (by omega)
    rw [mxS_take _ hr] at ih'
    have hm : mxS (fun r => min (bT (gb g) r).length 12) ((ordL (gb g) (gin g)).take i).reverse ≤ 12 := mxS_le (fun r => Nat.min_le_right _ _)
    obtain ⟨t1, t2, hrr, hin⟩ := k_termAt (h0 := h0) C hg hc hr
    have hlT := ct_lt t2.1
    have l12 := (hg.lo hrr).2.1
    rw [jf_X9_longestPath_4_s]
    simp (disch := omega) only [k_tn hc, t1, xbs, kck C t2.1, kI hlT, t2.2.2.2.2.2.2.2.1, i32_lit, i32_neg, i32_add, i32_sub, i32_mul, i32_lt, i32_le, i32_eq, if_neg, xmax_i]
    rw [show (i : Int) + 1 = ((i + 1 : Nat) : Int) by omega, show max ((mxS (fun r => min (bT (gb g) r).length 12) ((ordL (gb g) (gin g)).take i).reverse : Nat) : Int) ((bT (gb g) r).length : Int) = ((max (mxS (fun r => min (bT (gb g) r).length 12) ((ordL (gb g) (gin g)).take i).reverse) (min (bT (gb g) r).length 12) : Nat) : Int) by omega]
    exact ih'
theorem r_lo178 (H : MH ty M mm mi h0) (hb : bwf b) (hR : RB I A b) {z : Nat} (hz : z < 65536) (h26 : I 26 = i32 z) : ∀ (k i : Nat), i + k = bnr b →
    jf_X12_count_178 ty (k + 1) M (i32 (mxS (fun r => min (bT b r).length 12) (inL z i).reverse : Nat)) (i32 i) (rst mm mi h0 M I A J) = some (i32 (lng b z : Nat), rst mm mi h0 M I A J) := by
  have h16 := hb.2.2.1
  intro k
  induction k with
  | zero =>
    intro i h1
    rw [jf_X12_count_178_s]
    simp (disch := omega) only [rI, hR.2.2.1, i32_lit, i32_neg, i32_add, i32_sub, i32_mul, i32_lt, i32_le, i32_eq, if_pos]
    rw [show i = bnr b by omega]
    rfl
  | succ k ih =>
    intro i h1
    have hi : i < bnr b := by omega
    have ih' := ih (i + 1) (by omega)
    rw [mxS_inL] at ih'
    have hm : mxS (fun r => min (bT b r).length 12) (inL z i).reverse ≤ 12 := mxS_le (fun r => Nat.min_le_right _ _)
    have l12 := ((hb.2.2.2.2 i hi).1).2.1
    rw [jf_X12_count_178_s]
    simp (disch := omega) only [rI, hR.2.2.1, r_isInNow hz h26, rr_22 H, ga_22 H, Int.toNat_natCast, (hR.2.2.2.2.2 i hi).2.1, xbs, bI_eq0, i32_lit, i32_neg, i32_add, i32_sub, i32_mul, i32_lt, i32_le, i32_eq]
    rw [if_neg (by omega), show (i : Int) + 1 = ((i + 1 : Nat) : Int) by omega]
    cases w2 : inR z i with
    | false =>
      simp only [if_true]
      rw [w2] at ih'
      exact ih'
    | true =>
      simp only [Bool.true_eq_false, if_false]
      rw [w2] at ih'
      simp only [if_true] at ih'
      by_cases w3 : ((bT b i).length : Int) ≤ ((mxS (fun r => min (bT b r).length 12) (inL z i).reverse : Nat) : Int)
      · simp only [eq_true w3, if_true]
        rw [Nat.max_eq_left (by omega)] at ih'
        exact ih'
      · simp only [eq_false w3, if_false]
        rw [Nat.max_eq_right (by omega), Nat.min_eq_left (by omega)] at ih'
        exact ih'
def rpN (b : Bk) (z : Nat) : Nat := (inL z (bnr b)).countP (fun r => rpF (bT b r))
theorem k_rr4 (C : CH ty N) (hg : gwf g) (hc : CRep c g) : ∀ (k i : Nat), i + k = (ordL (gb g) (gin g)).length →
    jf_X9_repeatingRules_4 ty (cst N h0 c) (k + 1) (N + 234) (i32 (((ordL (gb g) (gin g)).take i).countP (fun r => rpF (bT (gb g) r)) : Nat)) (i32 i) = some (i32 (rpN (gb g) (gin g) : Nat)) := by
  have hl := ordL_len hg.1 (gin g)
  intro k
  induction k with
  | zero =>
    intro i h1
    rw [jf_X9_repeatingRules_4_s]
    simp (disch := omega) only [k_tn hc, i32_lit, i32_neg, i32_add, i32_sub, i32_mul, i32_lt, i32_le, i32_eq, if_pos]
    rw [List.take_of_length_le (by omega), (ordL_perm (gin g)).countP_eq]
    rfl
  | succ k ih =>
    intro i h1
    obtain ⟨r, hr⟩ := get_some (L := ordL (gb g) (gin g)) (i := i) (by omega)
    have ih' := ih (i + 1) (by omega)
    rw [cnt_take hr] at ih'
    have hb3 : ((ordL (gb g) (gin g)).take i).countP (fun r => rpF (bT (gb g) r)) ≤ i := Nat.le_trans List.countP_le_length (List.length_take_le _ _)
    obtain ⟨t1, t2, hrr, hin⟩ := k_termAt (h0 := h0) C hg hc hr
    have bT3 : ∀ d ∈ bT (gb g) r, d < 1000 := fun d hd => (((hg.1.2.2.2.2 r hrr).1).ar hg.1 d hd).2
    rw [jf_X9_repeatingRules_4_s]
    simp (disch := omega) only [k_tn hc, t1, xbs, kck C t2.1, k_rep C t2 bT3, bI_eq0, i32_lit, i32_neg, i32_add, i32_sub, i32_mul, i32_lt, i32_le, i32_eq, if_neg]
    rw [show (i : Int) + 1 = ((i + 1 : Nat) : Int) by omega]
    cases w : rpF (bT (gb g) r) with
    | false =>
      rw [w] at ih'
      simp only [if_true]
      exact ih'
    | true =>
      rw [w] at ih'
      simp only [Bool.true_eq_false, if_false]
      exact ih'
theorem r_rr225 (H : MH ty M mm mi h0) (hb : bwf b) (hR : RB I A b) {z : Nat} (hz : z < 65536) (h26 : I 26 = i32 z) : ∀ (k i : Nat), i + k = bnr b →
    jf_X12_count_225 ty (k + 1) M (i32 ((inL z i).countP (fun r => rpF (bT b r)) : Nat)) (i32 i) (rst mm mi h0 M I A J) = some (i32 (rpN b z : Nat), rst mm mi h0 M I A J) := by
  have h16 := hb.2.2.1
  intro k
  induction k with
  | zero =>
    intro i h1
    rw [jf_X12_count_225_s]
    simp (disch := omega) only [rI, hR.2.2.1, i32_lit, i32_neg, i32_add, i32_sub, i32_mul, i32_lt, i32_le, i32_eq, if_pos]
    rw [show i = bnr b by omega]
    rfl
  | succ k ih =>
    intro i h1
    have hi : i < bnr b := by omega
    have ih' := ih (i + 1) (by omega)
    rw [cnt_inL] at ih'
    have hb3 : (inL z i).countP (fun r => rpF (bT b r)) ≤ i := Nat.le_trans List.countP_le_length (inL_len z i)
    rw [jf_X12_count_225_s]
    simp (disch := omega) only [rI, hR.2.2.1, r_isInNow hz h26, r_ag H hb hR hi, xbs, bI_eq0, i32_lit, i32_neg, i32_add, i32_sub, i32_mul, i32_lt, i32_le, i32_eq]
    rw [if_neg (by omega), show (i : Int) + 1 = ((i + 1 : Nat) : Int) by omega, Int.add_zero]
    cases w2 : inR z i with
    | false =>
      simp only [if_true]
      rw [w2] at ih'
      exact ih'
    | true =>
      simp only [Bool.true_eq_false, if_false]
      rw [w2] at ih'
      cases w4 : rpF (bT b i) with
      | true =>
        rw [w4] at ih'
        exact ih'
      | false =>
        rw [w4] at ih'
        exact ih'
theorem op_count (C : CH ty N) (H : MH ty M mm mi hB) (hg : gwf g) (hc : CRep c g) (hr : RRep I A g) {k : Int} (f1 : -2147483648 ≤ k) (f2 : k < 2147483648) :
    OPp mm mi hB M J g (jf_X11_count ty (cst N hA c) (N + 0) (i32 k)) (jf_X12_count ty (rst mm mi hB M I A J) M (i32 k)) := by
  have hr2 : RRep (fu I 2 (i32 0)) A g := hr.ks (fun k _ h _ => fu_ne _ _ h) keepA.rf
  have e9 := k_sub (h0 := hA) C hc.1 (show (0, 9, 232) ∈ lyL by decide) (by omega) (show ct 232 = some (0, 6) by decide)
  have hBk := hc.1.bk
  have hB2 : cR c 0 2 < 273 := by omega
  have n4 := k_nds (h0 := hA) C hg hc
  have n5 : jf_X9_leaves ty (cst N hA c) (N + 234) = some (i32 (lvs (gb g) (gin g) : Nat)) := jf_X9_leaves_4_l (k_lvs4 C hg hc (ordL (gb g) (gin g)).length 0 (by omega))
  have n6 : jf_X0_places ty (cst N hA c) (N + cR c 0 2) = some (i32 (sumF (fun r => min (bT (gb g) r).length 12) (bnr (gb g)) : Nat)) := jf_X0_places_4_l (k_pl4 C hg hc (bnr (gb g)) 0 (by omega))
  have n8 : jf_X9_longestPath ty (cst N hA c) (N + 234) = some (i32 (lng (gb g) (gin g) : Nat)) := jf_X9_longestPath_4_l (k_lo4 C hg hc (ordL (gb g) (gin g)).length 0 (by omega))
  have n9 : jf_X9_repeatingRules ty (cst N hA c) (N + 234) = some (i32 (rpN (gb g) (gin g) : Nat)) := jf_X9_repeatingRules_4_l (k_rr4 C hg hc (ordL (gb g) (gin g)).length 0 (by omega))
  unfold jf_X11_count jf_X12_count
  simp only [rsI, xbs, i32_lit, i32_neg, k_book C hc.1, k_tree C hc.1, k_ask C hc.1, e9, rI, kI hB2, hc.2.1.1, hc.2.1.2.1, hc.2.1.2.2.1, n4, n5, n6, n8, n9, k_askn hc]
  by_cases w0 : i32 k = i32 0
  · simp only [eq_true w0, if_true]
    exact OPp.ret hr rfl (by rw [hr2.1.1])
  simp only [eq_false w0, if_false]
  by_cases w1 : i32 k = i32 1
  · simp only [eq_true w1, if_true]
    exact OPp.ret hr rfl (by rw [hr2.1.2.1])
  simp only [eq_false w1, if_false]
  by_cases w2 : i32 k = i32 2
  · simp only [eq_true w2, if_true]
    exact OPp.ret hr rfl (by rw [hr2.1.2.2.1])
  simp only [eq_false w2, if_false]
  by_cases w3 : i32 k = i32 3
  · simp only [eq_true w3, if_true]
    refine OPp.ret (v := i32 (cntB (gin g) 16 : Nat)) hr ?_ ?_
    · rw [kI (by omega), hc.2.2.2.1.1, pc16 hg.z]; rfl
    · rw [hr2.2.1, r_many hg.z]; rfl
  simp only [eq_false w3, if_false]
  by_cases w4 : i32 k = i32 4
  · simp only [eq_true w4, if_true]
    exact OPp.ret hr rfl (by rw [r_nds H hg.1 hr2.1 hg.z hr2.2.1]; rfl)
  simp only [eq_false w4, if_false]
  by_cases w5 : i32 k = i32 5
  · simp only [eq_true w5, if_true]
    exact OPp.ret hr rfl (jf_X12_count_98_l (r_lv98 H hg.1 hr2.1 hg.z hr2.2.1 (bnr (gb g)) 0 (by omega)))
  simp only [eq_false w5, if_false]
  by_cases w6 : i32 k = i32 6
  · simp only [eq_true w6, if_true]
    exact OPp.ret hr rfl (jf_X12_count_146_l (r_pl146 H hg.1 hr2.1 (bnr (gb g)) 0 (by omega)))
  simp only [eq_false w6, if_false]
  by_cases w7 : i32 k = i32 7
  · simp only [eq_true w7, if_true]
    exact OPp.ret hr rfl (by rw [hr2.2.2.1.2.1])
  simp only [eq_false w7, if_false]
  by_cases w8 : i32 k = i32 8
  · simp only [eq_true w8, if_true]
    exact OPp.ret hr rfl (jf_X12_count_178_l (r_lo178 H hg.1 hr2.1 hg.z hr2.2.1 (bnr (gb g)) 0 (by omega)))
  simp only [eq_false w8, if_false]
  by_cases w9 : i32 k = i32 9
  · simp only [eq_true w9, if_true]
    exact OPp.ret hr rfl (jf_X12_count_225_l (r_rr225 H hg.1 hr2.1 hg.z hr2.2.1 (bnr (gb g)) 0 (by omega)))
  simp only [eq_false w9, if_false]
  by_cases w10 : i32 k = i32 10
  · simp only [eq_true w10, if_true]
    refine OPp.ret (v := i32 (gun g).length) hr ?_ ?_
    · rw [kI (by omega), hc.2.2.2.1.2.1]
    · rw [hr2.2.2.2.1.1]
  simp only [eq_false w10, if_false]
  exact OPp.ret hr rfl rfl
end COUNT

/-! THE TREE: its nodes -/
section NODES
variable {ty : xTy} {N M : Nat} {hA hB h0 : xH} {mm mi : Nat → Nat} {c : CS} {I : Nat → Int32} {A : Nat → Nat → Int32} {J : Nat → Int64} {g : Sg} {b : Bk}
theorem dcn_le (E : Nat → Nat → Bool) : ∀ l : List Nat, dcn E l ≤ l.length
  | [] => Nat.le_refl _
  | x :: l => by
    have := dcn_le E l
    simp only [dcn, List.length_cons]
    split <;> omega
theorem inL_len (z m : Nat) : (inL z m).length ≤ m := Nat.le_trans (List.length_filter_le _ _) (by rw [List.length_range]; exact Nat.le_refl _)
/-- nodes of a length -/
def nd (b : Bk) (z n : Nat) : Nat := dcn (shE b n) (inL z (bnr b)).reverse
def ndS (b : Bk) (z : Nat) : Nat → Nat
  | 0 => 0
  | m + 1 => ndS b z m + nd b z (m + 1)
theorem nd_le (b : Bk) (z n : Nat) : nd b z n ≤ bnr b := by
  refine Nat.le_trans (dcn_le _ _) ?_
  rw [List.length_reverse]
  exact inL_len z (bnr b)
theorem ndS_le (b : Bk) (z : Nat) : ∀ m, ndS b z m ≤ m * bnr b
  | 0 => by simp [ndS]
  | m + 1 => by
    have := ndS_le b z m
    have := nd_le b z (m + 1)
    simp only [ndS, Nat.add_mul]
    omega
theorem k_termAt (C : CH ty N) (hg : gwf g) (hc : CRep c g) {i r : Nat} (hi : (ordL (gb g) (gin g))[i]? = some r) : jf_X9_termAt ty (cst N h0 c) (N + 234) (i32 i) = some (N + (cR c 0 2 + 10 + 6 * r)) ∧ isT c (cR c 0 2 + 10 + 6 * r) 12 (bar (gb g)) (bT (gb g) r) ∧ r < bnr (gb g) ∧ inR (gin g) r = true := by
  have hl := ordL_len hg.1 (gin g)
  have hlt : i < (ordL (gb g) (gin g)).length := (List.getElem?_eq_some_iff.mp hi).1
  obtain ⟨hr, hin⟩ := ordL_mem.mp (List.mem_of_getElem? hi)
  have ht := (hc.tm hg hr).1
  have hp := (hc.2.2.2.2.1.2 i r hi).2.1
  refine ⟨?_, ht, hr, hin⟩
  unfold jf_X9_termAt
  simp (disch := omega) only [k_tn hc, kR, hc.1.t3.2.1, xbs, i32_lit, i32_neg, i32_add, i32_sub, i32_mul, i32_lt, i32_le, i32_eq, if_neg]
  rw [kgp C (show ct 236 = some (3, 16) by decide) (by omega) (by omega) (by omega) (by rw [Int.toNat_natCast, hp]; exact ht.1), Int.toNat_natCast, hp]
  rfl
theorem k_brings (C : CH ty N) (hg : gwf g) (hc : CRep c g) {i r : Nat} (hi : (ordL (gb g) (gin g))[i]? = some r) {n : Nat} (hn : 1 ≤ n) (hn2 : n ≤ 1000) : jf_X9_bringsNode ty (cst N h0 c) (N + 234) (i32 i) (i32 n) = some (bI (nwA (shE (gb g) n) (ordL (gb g) (gin g)) i)) := by
  have hl := ordL_len hg.1 (gin g)
  have hlt : i < (ordL (gb g) (gin g)).length := (List.getElem?_eq_some_iff.mp hi).1
  obtain ⟨t1, t2, hr, hin⟩ := k_termAt (h0 := h0) C hg hc hi
  have hlT := ct_lt t2.1
  have l12 := (hg.lo hr).2.1
  have hsh : shA (gb g) (ordL (gb g) (gin g)) i ≤ 12 := by
    cases i with
    | zero => simp [shA]
    | succ i =>
      have := (shp_le (pth (bT (gb g) ((ordL (gb g) (gin g)).getD (i + 1) 0))) (pth (bT (gb g) ((ordL (gb g) (gin g)).getD i 0)))).1
      simp only [shA]
      rw [List.getD_eq_getElem?_getD, hi, Option.getD_some] at this ⊢
      simp only [pth, List.length_map] at this ⊢
      omega
  rw [nwA_ord hg.1.tok (gin g) hn hi]
  unfold jf_X9_bringsNode
  simp (disch := omega) only [k_tn hc, kR, hc.1.t3.2.2.1, xbs, t1, kck C t2.1, kI hlT, t2.2.2.2.2.2.2.2.1, kga C (show ct 237 = some (1, 16) by decide), Int.toNat_natCast, (hc.2.2.2.2.1.2 i r hi).2.2, i32_lit, i32_neg, i32_add, i32_sub, i32_mul, i32_lt, i32_le, i32_eq, if_neg]
  by_cases w1 : (n : Int) ≤ (shA (gb g) (ordL (gb g) (gin g)) i : Int)
  · rw [if_pos w1, decide_eq_false (by omega)]; rfl
  · rw [if_neg w1, decide_eq_true (show shA (gb g) (ordL (gb g) (gin g)) i < n by omega)]
    by_cases w2 : ((bT (gb g) r).length : Int) < (n : Int)
    · rw [if_pos w2, decide_eq_false (by omega)]; rfl
    · rw [if_neg w2, decide_eq_true (by omega)]; rfl
theorem k_nl4 (C : CH ty N) (hg : gwf g) (hc : CRep c g) {n : Nat} (hn : 1 ≤ n) (hn2 : n ≤ 1000) : ∀ (k i : Nat), i + k = (ordL (gb g) (gin g)).length →
    jf_X9_nodesOfLength_4 ty (cst N h0 c) (k + 1) (N + 234) (i32 n) (i32 (dcn (shE (gb g) n) ((ordL (gb g) (gin g)).take i).reverse : Nat)) (i32 i) = some (i32 (nd (gb g) (gin g) n : Nat)) := by
  have hl := ordL_len hg.1 (gin g)
  intro k
  induction k with
  | zero =>
    intro i h1
    rw [jf_X9_nodesOfLength_4_s]
    simp (disch := omega) only [k_tn hc, i32_lit, i32_neg, i32_add, i32_sub, i32_mul, i32_lt, i32_le, i32_eq, if_pos]
    rw [List.take_of_length_le (by omega), dcn_ord]
    rfl
  | succ k ih =>
    intro i h1
    have ih' := ih (i + 1) (by omega)
    rw [dcn_take _ _ (by omega)] at ih'
    have hd := dcn_le (shE (gb g) n) ((ordL (gb g) (gin g)).take i).reverse
    rw [List.length_reverse] at hd
    have hd2 := List.length_take_le i (ordL (gb g) (gin g))
    obtain ⟨r, hr⟩ := get_some (L := ordL (gb g) (gin g)) (i := i) (by omega)
    rw [jf_X9_nodesOfLength_4_s]
    simp (disch := omega) only [k_tn hc, k_brings C hg hc hr hn hn2, xbs, bI_eq0, i32_lit, i32_neg, i32_add, i32_sub, i32_mul, i32_lt, i32_le, i32_eq]
    rw [if_neg (by omega), show (i : Int) + 1 = ((i + 1 : Nat) : Int) by omega]
    cases w : nwA (shE (gb g) n) (ordL (gb g) (gin g)) i with
    | false =>
      rw [w] at ih'
      simp only [if_true]
      exact ih'
    | true =>
      rw [w] at ih'
      simp only [Bool.true_eq_false, if_false]
      exact ih'
theorem k_nl (C : CH ty N) (hg : gwf g) (hc : CRep c g) {n : Nat} (hn : 1 ≤ n) (hn2 : n ≤ 1000) : jf_X9_nodesOfLength ty (cst N h0 c) (N + 234) (i32 n) = some (i32 (nd (gb g) (gin g) n : Nat)) :=
  jf_X9_nodesOfLength_4_l (k_nl4 C hg hc hn hn2 (ordL (gb g) (gin g)).length 0 (by omega))
theorem k_nds4 (C : CH ty N) (hg : gwf g) (hc : CRep c g) : ∀ (k m : Nat), m + k = 12 →
    jf_X9_nodes_4 ty (cst N h0 c) (k + 1) (N + 234) (i32 (ndS (gb g) (gin g) m : Nat)) (i32 ((m + 1 : Nat) : Int)) = some (i32 (ndS (gb g) (gin g) 12 : Nat)) := by
  have h16 := hg.1.2.2.1
  intro k
  induction k with
  | zero =>
    intro m h1
    rw [jf_X9_nodes_4_s]
    simp (disch := omega) only [i32_lit, i32_neg, i32_add, i32_sub, i32_mul, i32_lt, i32_le, i32_eq, if_pos]
    rw [show m = 12 by omega]
  | succ k ih =>
    intro m h1
    have ih' := ih (m + 1) (by omega)
    rw [jf_X9_nodes_4_s]
    simp (disch := omega) only [k_nl C hg hc (n := m + 1) (by omega) (by omega), xbs, i32_lit, i32_neg, i32_add, i32_sub, i32_mul, i32_lt, i32_le, i32_eq, if_neg]
    rw [show ((m + 1 : Nat) : Int) + 1 = ((m + 1 + 1 : Nat) : Int) by omega, show ((ndS (gb g) (gin g) m : Nat) : Int) + ((nd (gb g) (gin g) (m + 1) : Nat) : Int) = ((ndS (gb g) (gin g) (m + 1) : Nat) : Int) by simp only [ndS]; omega]
    exact ih'
theorem k_nds (C : CH ty N) (hg : gwf g) (hc : CRep c g) : jf_X9_nodes ty (cst N h0 c) (N + 234) = some (i32 (ndS (gb g) (gin g) 12 : Nat)) :=
  jf_X9_nodes_4_l (k_nds4 C hg hc 12 0 (by omega))
/-- the model's -/
theorem r_first2 (H : MH ty M mm mi h0) (hb : bwf b) (hR : RB I A b) {z r n : Nat} (hz : z < 65536) (h26 : I 26 = i32 z) (hr : r < bnr b) (hn : n ≤ 1000) : ∀ (k i : Nat), i + k = r → (inL z i).any (fun x => shE b n x r) = false →
    jf_X12_isFirstOf_2 ty (rst mm mi h0 M I A J) (k + 1) M (i32 r) (i32 n) (i32 i) = some (bI (!((inL z r).any (fun x => shE b n x r)))) := by
  have h16 := hb.2.2.1
  have l2 := ((hb.2.2.2.2 r hr).1).2.1
  intro k
  induction k with
  | zero =>
    intro i h1 h2
    rw [jf_X12_isFirstOf_2_s]
    simp (disch := omega) only [i32_lit, i32_neg, i32_add, i32_sub, i32_mul, i32_lt, i32_le, i32_eq, if_pos]
    rw [show i = r by omega] at h2
    rw [h2]; rfl
  | succ k ih =>
    intro i h1 h2
    have hs := (shp_le (pth (bT b i)) (pth (bT b r))).2
    rw [show (pth (bT b r)).length = (bT b r).length by simp [pth]] at hs
    have ih' := ih (i + 1) (by omega)
    rw [inL_succ] at ih'
    rw [jf_X12_isFirstOf_2_s]
    simp (disch := omega) only [r_isInNow hz h26, r_shared H hb hR (show i < bnr b by omega) hr, xbs, bI_eq0, i32_lit, i32_neg, i32_add, i32_sub, i32_mul, i32_lt, i32_le, i32_eq]
    rw [if_neg (by omega), show (i : Int) + 1 = ((i + 1 : Nat) : Int) by omega]
    cases w2 : inR z i with
    | false =>
      simp only [if_true]
      rw [w2] at ih'
      exact ih' h2
    | true =>
      simp only [Bool.true_eq_false, if_false]
      rw [w2] at ih'
      simp only [if_true, List.any_append, h2, List.any_cons, List.any_nil, Bool.or_false, Bool.false_or] at ih'
      by_cases w3 : (shp (pth (bT b i)) (pth (bT b r)) : Int) < (n : Int)
      · simp only [eq_true w3, if_true]
        refine ih' ?_
        unfold shE
        rw [decide_eq_false_iff_not]
        omega
      · have he : (inL z r).any (fun x => shE b n x r) = true := by
          rw [List.any_eq_true]
          refine ⟨i, mem_inL.mpr ⟨by omega, w2⟩, ?_⟩
          unfold shE
          rw [decide_eq_true_iff]
          omega
        rw [he]
        simp only [eq_false w3, if_false]
        rfl
theorem r_first (H : MH ty M mm mi h0) (hb : bwf b) (hR : RB I A b) {z r n : Nat} (hz : z < 65536) (h26 : I 26 = i32 z) (hr : r < bnr b) (hn : n ≤ 1000) : jf_X12_isFirstOf ty (rst mm mi h0 M I A J) M (i32 r) (i32 n) = some (bI (!((inL z r).any (fun x => shE b n x r)))) :=
  jf_X12_isFirstOf_2_l (r_first2 H hb hR hz h26 hr hn r 0 (by omega) (by simp [inL]))
theorem dcn_inL (E : Nat → Nat → Bool) (z i : Nat) : dcn E (inL z (i + 1)).reverse = dcn E (inL z i).reverse + if inR z i && (E i i && !((inL z i).any (fun x => E x i))) then 1 else 0 := by
  rw [inL_succ]
  cases h : inR z i with
  | false => simp
  | true => simp only [if_true, List.reverse_append, List.reverse_cons, List.reverse_nil, List.nil_append, List.singleton_append, dcn, List.any_reverse, Bool.true_and]
theorem r_nd4 (H : MH ty M mm mi h0) (hb : bwf b) (hR : RB I A b) {z n : Nat} (hz : z < 65536) (h26 : I 26 = i32 z) (hn : n ≤ 1000) : ∀ (k i : Nat), i + k = bnr b →
    jf_X12_nodesOf_4 ty (rst mm mi h0 M I A J) (k + 1) M (i32 n) (i32 (dcn (shE b n) (inL z i).reverse : Nat)) (i32 i) = some (i32 (nd b z n : Nat)) := by
  have h16 := hb.2.2.1
  intro k
  induction k with
  | zero =>
    intro i h1
    rw [jf_X12_nodesOf_4_s]
    simp (disch := omega) only [rI, hR.2.2.1, i32_lit, i32_neg, i32_add, i32_sub, i32_mul, i32_lt, i32_le, i32_eq, if_pos]
    rw [show i = bnr b by omega]
    rfl
  | succ k ih =>
    intro i h1
    have hi : i < bnr b := by omega
    have l2 := ((hb.2.2.2.2 i hi).1).2.1
    have hd := dcn_le (shE b n) (inL z i).reverse
    rw [List.length_reverse] at hd
    have hd2 := inL_len z i
    have ih' := ih (i + 1) (by omega)
    rw [dcn_inL] at ih'
    have hE : shE b n i i = decide (n ≤ (bT b i).length) := by
      unfold shE
      rw [shp_self]
      simp [pth]
    rw [hE] at ih'
    rw [jf_X12_nodesOf_4_s]
    simp (disch := omega) only [rI, hR.2.2.1, r_isInNow hz h26, rr_22 H, ga_22 H, Int.toNat_natCast, (hR.2.2.2.2.2 i hi).2.1, r_first H hb hR hz h26 hi hn, xbs, bI_eq0, i32_lit, i32_neg, i32_add, i32_sub, i32_mul, i32_lt, i32_le, i32_eq]
    rw [if_neg (by omega), show (i : Int) + 1 = ((i + 1 : Nat) : Int) by omega, Int.add_zero]
    cases w2 : inR z i with
    | false =>
      simp only [if_true]
      rw [w2] at ih'
      exact ih'
    | true =>
      simp only [Bool.true_eq_false, if_false]
      rw [w2] at ih'
      by_cases w3 : ((bT b i).length : Int) < (n : Int)
      · rw [if_pos w3]
        rw [decide_eq_false (show ¬ n ≤ (bT b i).length by omega)] at ih'
        exact ih'
      · rw [if_neg w3]
        rw [decide_eq_true (show n ≤ (bT b i).length by omega)] at ih'
        cases w4 : (inL z i).any (fun x => shE b n x i) with
        | true =>
          rw [w4] at ih'
          exact ih'
        | false =>
          rw [w4] at ih'
          exact ih'
theorem r_nd (H : MH ty M mm mi h0) (hb : bwf b) (hR : RB I A b) {z n : Nat} (hz : z < 65536) (h26 : I 26 = i32 z) (hn : n ≤ 1000) : jf_X12_nodesOf ty (rst mm mi h0 M I A J) M (i32 n) = some (i32 (nd b z n : Nat)) :=
  jf_X12_nodesOf_4_l (r_nd4 H hb hR hz h26 hn (bnr b) 0 (by omega))
theorem r_nds4 (H : MH ty M mm mi h0) (hb : bwf b) (hR : RB I A b) {z : Nat} (hz : z < 65536) (h26 : I 26 = i32 z) : ∀ (k m : Nat), m + k = 12 →
    jf_X12_nodesAll_4 ty (rst mm mi h0 M I A J) (k + 1) M (i32 (ndS b z m : Nat)) (i32 ((m + 1 : Nat) : Int)) = some (i32 (ndS b z 12 : Nat)) := by
  have h16 := hb.2.2.1
  intro k
  induction k with
  | zero =>
    intro m h1
    rw [jf_X12_nodesAll_4_s]
    simp (disch := omega) only [i32_lit, i32_neg, i32_add, i32_sub, i32_mul, i32_lt, i32_le, i32_eq, if_pos]
    rw [show m = 12 by omega]
  | succ k ih =>
    intro m h1
    have ih' := ih (m + 1) (by omega)
    rw [jf_X12_nodesAll_4_s]
    simp (disch := omega) only [r_nd H hb hR hz h26 (n := m + 1) (by omega), xbs, i32_lit, i32_neg, i32_add, i32_sub, i32_mul, i32_lt, i32_le, i32_eq, if_neg]
    rw [show ((m + 1 : Nat) : Int) + 1 = ((m + 1 + 1 : Nat) : Int) by omega, show ((ndS b z m : Nat) : Int) + ((nd b z (m + 1) : Nat) : Int) = ((ndS b z (m + 1) : Nat) : Int) by simp only [ndS]; omega]
    exact ih'
theorem r_nds (H : MH ty M mm mi h0) (hb : bwf b) (hR : RB I A b) {z : Nat} (hz : z < 65536) (h26 : I 26 = i32 z) : jf_X12_nodesAll ty (rst mm mi h0 M I A J) M = some (i32 (ndS b z 12 : Nat)) :=
  jf_X12_nodesAll_4_l (r_nds4 H hb hR hz h26 12 0 (by omega))
theorem op_width (C : CH ty N) (H : MH ty M mm mi hB) (hg : gwf g) (hc : CRep c g) (hr : RRep I A g) {k : Int} (f1 : -2147483648 ≤ k) (f2 : k < 2147483648) :
    OPp mm mi hB M J g (jf_X11_width ty (cst N hA c) (N + 0) (i32 k)) (jf_X12_width ty (rst mm mi hB M I A J) M (i32 k)) := by
  have hr2 : RRep (fu I 2 (i32 0)) A g := hr.ks (fun k _ h _ => fu_ne _ _ h) keepA.rf
  unfold jf_X11_width jf_X12_width
  simp (disch := omega) only [rsI, xbs, i32_lit, k_tree C hc.1, isIn_i, bI_eq0]
  by_cases w : 0 ≤ k ∧ k ≤ 11
  · obtain ⟨w1, w2⟩ := w
    obtain ⟨n, rfl⟩ : ∃ n : Nat, k = n := ⟨k.toNat, by omega⟩
    refine OPp.ret (v := i32 (nd (gb g) (gin g) (n + 1) : Nat)) hr ?_ ?_
    · simp (disch := omega) only [i32_lit, i32_neg, i32_add, i32_sub, i32_mul, i32_lt, i32_le, i32_eq, if_pos, if_neg]
      rw [show (n : Int) + 1 = ((n + 1 : Nat) : Int) by omega, k_nl C hg hc (by omega) (by omega)]
      rfl
    · simp (disch := omega) only [decide_eq_true w1, decide_eq_true w2, Bool.and_true, Bool.true_eq_false, if_false, i32_lit, i32_neg, i32_add, i32_sub, i32_mul, i32_lt, i32_le, i32_eq]
      rw [show (n : Int) + 1 = ((n + 1 : Nat) : Int) by omega, r_nd H hg.1 hr2.1 hg.z hr2.2.1 (by omega)]
      rfl
  · refine OPp.ret (v := i32 (-1)) hr ?_ ?_
    · simp (disch := omega) only [i32_lit, i32_neg, i32_add, i32_sub, i32_mul, i32_lt, i32_le, i32_eq]
      by_cases w1 : 0 ≤ k
      · simp (disch := omega) only [if_pos, if_neg]
      · simp (disch := omega) only [if_pos, if_neg]
    · have : (decide ((0 : Int) ≤ k) && decide (k ≤ 11)) = false := by
        rw [Bool.and_eq_false_iff, decide_eq_false_iff_not, decide_eq_false_iff_not]; omega
      simp only [this, if_true, i32_neg]
end NODES

/-! tried: both -/
section TRIED2
variable {ty : xTy} {N M : Nat} {hA hB h0 : xH} {mm mi : Nat → Nat} {c : CS} {I : Nat → Int32} {A : Nat → Nat → Int32} {J : Nat → Int64} {g : Sg} {b : Bk}
theorem ord_cnt (b : Bk) (z : Nat) (p : Nat → Bool) : (ordL b z).countP p = (List.range (bnr b)).countP (fun r => inR z r && p r) := by
  rw [(ordL_perm z).countP_eq, inL, List.countP_filter]
  refine List.countP_congr (fun r _ => ?_)
  rw [Bool.and_comm]
theorem inR_clr (z i r : Nat) : inR (z ^^^ (z &&& 2 ^ i)) r = (inR z r && !(decide (r = i))) := by
  unfold inR
  rw [Nat.testBit_xor, Nat.testBit_and, Nat.testBit_two_pow]
  by_cases e : r = i
  · subst e; simp
  · simp [e, show ¬ i = r by omega]
theorem clr_lt {z i : Nat} (h : z < 65536) : z ^^^ (z &&& 2 ^ i) < 65536 := Nat.xor_lt_two_pow (n := 16) h (Nat.lt_of_le_of_lt Nat.and_le_left h)
theorem inR_all {r : Nat} (h : r < 16) : inR 65535 r = true := by
  unfold inR
  have : (65535 : Nat) = 2 ^ 16 - 1 := by decide
  rw [this, Nat.testBit_two_pow_sub_one]
  exact decide_eq_true h
theorem k_tr43 (C : CH ty N) (hg : gwf g) (hq : twf (gb g) (gq g)) (hc : CRep c g) {what how i : Nat} (hw : what ≤ 4) (hh : how ≤ 2) (hi : i < 16) {m : Nat} (hm : m = if what = 0 then 1 else if what = 1 then 2 else if what = 4 then 3 else 0) :
    ∃ c', jf_X11_tried_43 ty (N + 0) (i32 what) (i32 how) (i32 i) (cst N h0 c) = some (i32 ((List.range (bnr (gb g))).countP (trP g what how m i) : Nat), cst N h0 c') ∧ CRep c' g := by
  have h16 := hg.1.2.2.1
  have hql := gq_l hg
  have hpos := hq.pos
  have hlq := hc.1.as.1
  have hz := bar_z (gb g)
  have bQ3 : ∀ d ∈ gq g, d < 1000 := fun d hd => (hq.ar hg.1 d hd).2
  have e9 := k_sub (h0 := h0) C hc.1 (show (0, 9, 232) ∈ lyL by decide) (by omega) (show ct 232 = some (0, 6) by decide)
  have e7 := k_sub (h0 := h0) C hc.1 (show (0, 7, 223) ∈ lyL by decide) (by omega) (show ct 223 = some (0, 7) by decide)
  unfold jf_X11_tried_43
  simp only [k_ask C hc.1, xbs, k_askn hc, i32_lit, e9, e7]
  have w3 : ¬ i32 ((gq g).length : Nat) = i32 0 := by rw [i32_eq (by omega) (by omega) (by omega) (by omega)]; omega
  simp only [eq_false w3, if_false]
  rcases (show what = 0 ∨ what = 1 ∨ what = 2 ∨ what = 3 ∨ what = 4 by omega) with rfl | rfl | rfl | rfl | rfl
  · rw [if_pos rfl] at hm
    subst hm
    obtain ⟨c1, q1, q2, q3⟩ := k_cpA (h0 := h0) C hz hc.1 (t := 223) (by decide) (by decide) (by decide) hq.2.1 bQ3 (by omega) hc.2.2.1
    have hc1 : CRep c1 g := hc.fr hg q3 (by omega)
    have e7' := k_sub (h0 := h0) C hc1.1 (show (0, 7, 223) ∈ lyL by decide) (by omega) (show ct 223 = some (0, 7) by decide)
    obtain ⟨n, c', p1, p2⟩ := k_ls5 (h0 := h0) C hg hh (hq.lo hg.1).apart (by omega) (ordL (gb g) (gin g)).length 0 c1 (by omega) hc1 q2
    have p1' : jf_X11_looseCount ty (cst N h0 c1) (N + 0) (i32 how) (N + 223) = _ := jf_X11_looseCount_5_l p1
    refine ⟨c', ?_, p2⟩
    simp only [show (i32 ((0 : Nat) : Int) = i32 0) = True from eq_true (by decide), if_true, if_false]
    rw [q1, xbs, e7', xbs, p1', xb2s, ord_cnt]
    congr 3
    refine congrArg _ (List.countP_congr (fun r _ => ?_))
    unfold lsP trP
    simp only [show ¬ (0 = 3) by decide, show ¬ (0 = 2) by decide, decide_false, Bool.false_or, Bool.false_and, Bool.not_false, Bool.and_true]
    rfl
  · have hm2 : m = 2 := by rw [hm]; rfl
    subst hm2
    obtain ⟨n, c', p1, p2⟩ := k_ls5 (h0 := h0) C hg hh (hq.lo hg.1) (by omega) (ordL (gb g) (gin g)).length 0 c (by omega) hc hc.2.2.1
    have p1' : jf_X11_looseCount ty (cst N h0 c) (N + 0) (i32 how) (N + cR c 0 4) = _ := jf_X11_looseCount_5_l p1
    refine ⟨c', ?_, p2⟩
    simp only [show (i32 ((1 : Nat) : Int) = i32 0) = False from eq_false (by decide), show (i32 ((1 : Nat) : Int) = i32 1) = True from eq_true (by decide), if_true, if_false]
    rw [p1', xb2s, ord_cnt]
    congr 3
    refine congrArg _ (List.countP_congr (fun r _ => ?_))
    unfold lsP trP
    simp only [show ¬ (1 = 3) by decide, show ¬ (1 = 2) by decide, decide_false, Bool.false_or, Bool.false_and, Bool.not_false, Bool.and_true]
    rfl
  · have hm2 : m = 0 := by rw [hm]; rfl
    subst hm2
    obtain ⟨c', q1, q2⟩ := k_fb (h0 := h0) C hg (show how ≤ 3 by omega) (clr_lt (i := i) hg.z) (hq.lo hg.1) (by omega) hc hc.2.2.1
    refine ⟨c', ?_, hc.fr hg q2 (by omega)⟩
    simp only [show (i32 ((2 : Nat) : Int) = i32 0) = False from eq_false (by decide), show (i32 ((2 : Nat) : Int) = i32 1) = False from eq_false (by decide), show (i32 ((2 : Nat) : Int) = i32 2) = True from eq_true (by decide), if_true, if_false]
    rw [kI (by omega), hc.2.2.2.1.1]
    rw [i32_neg, i32_clr _ (show i < 31 by omega), q1, xb2s, pc16 (bitsF_16 h16), xbs, cnt_bits h16]
    congr 3
    refine congrArg _ (List.countP_congr (fun r _ => ?_))
    unfold ftP trP
    rw [inR_clr]
    rfl
  · have hm2 : m = 0 := by rw [hm]; rfl
    subst hm2
    obtain ⟨c', q1, q2⟩ := k_fb (h0 := h0) (z := 65535) C hg (show how ≤ 3 by omega) (by decide) (hq.lo hg.1) (by omega) hc hc.2.2.1
    refine ⟨c', ?_, hc.fr hg q2 (by omega)⟩
    simp only [show (i32 ((3 : Nat) : Int) = i32 0) = False from eq_false (by decide), show (i32 ((3 : Nat) : Int) = i32 1) = False from eq_false (by decide), show (i32 ((3 : Nat) : Int) = i32 2) = False from eq_false (by decide), show (i32 ((3 : Nat) : Int) = i32 3) = True from eq_true (by decide), if_true, if_false]
    rw [show i32 65535 = i32 ((65535 : Nat) : Int) from rfl, q1, xb2s, pc16 (bitsF_16 h16), xbs, cnt_bits h16]
    congr 3
    refine congrArg _ (List.countP_congr (fun r hr => ?_))
    have := List.mem_range.mp hr
    unfold ftP trP
    rw [inR_all (by omega)]
    rfl
  · have hm2 : m = 3 := by rw [hm]; rfl
    subst hm2
    obtain ⟨c1, q1, q2, q3⟩ := k_cpO (h0 := h0) C hz hc.1 (t := 223) (by decide) (by decide) (by decide) hq.2.1 bQ3 (by omega) hc.2.2.1
    have hc1 : CRep c1 g := hc.fr hg q3 (by omega)
    have e7' := k_sub (h0 := h0) C hc1.1 (show (0, 7, 223) ∈ lyL by decide) (by omega) (show ct 223 = some (0, 7) by decide)
    have e9' := k_sub (h0 := h0) C hc1.1 (show (0, 9, 232) ∈ lyL by decide) (by omega) (show ct 232 = some (0, 6) by decide)
    obtain ⟨c', p1, p2⟩ := k_fb (h0 := h0) C hg (show how ≤ 3 by omega) hg.z (hq.lo hg.1).one (by omega) hc1 q2
    refine ⟨c', ?_, hc1.fr hg p2 (by omega)⟩
    simp only [show (i32 ((4 : Nat) : Int) = i32 0) = False from eq_false (by decide), show (i32 ((4 : Nat) : Int) = i32 1) = False from eq_false (by decide), show (i32 ((4 : Nat) : Int) = i32 2) = False from eq_false (by decide), show (i32 ((4 : Nat) : Int) = i32 3) = False from eq_false (by decide), if_true, if_false]
    rw [q1, xbs, e7', xbs, e9', xbs, kI (by omega), hc1.2.2.2.1.1, p1, xb2s, pc16 (bitsF_16 h16), xbs, cnt_bits h16]
    congr 3
    refine congrArg _ (List.countP_congr (fun r _ => ?_))
    unfold ftP trP
    simp only [show ¬ (4 = 3) by decide, show ¬ (4 = 2) by decide, decide_false, Bool.false_or, Bool.false_and, Bool.not_false, Bool.and_true]
    rfl
theorem r_tr45 (H : MH ty M mm mi h0) (hg : gwf g) (hq : twf (gb g) (gq g)) (hr : RRep I A g) {what how i : Nat} (hw : what ≤ 4) (hh : how ≤ 2) (hi : i < 16) {m : Nat} (hm : m = if what = 0 then 1 else if what = 1 then 2 else if what = 4 then 3 else 0) :
    ∃ I' A', jf_X12_tried_45 ty M (i32 what) (i32 how) (i32 i) (rst mm mi h0 M I A J) = some (i32 ((List.range (bnr (gb g))).countP (trP g what how m i) : Nat), rst mm mi h0 M I' A' J) ∧ RRep I' A' g ∧ I' 2 = I 2 := by
  have hql := gq_l hg
  have hpos := hq.pos
  have hm3 : m ≤ 3 := by rw [hm]; split; omega; split; omega; split <;> omega
  have key : ∃ I' A', jf_X12_tried_83 ty M (i32 what) (i32 how) (i32 i) M (i32 (m : Nat)) (rst mm mi h0 M I A J) = some (i32 ((List.range (bnr (gb g))).countP (trP g what how m i) : Nat), rst mm mi h0 M I' A' J) ∧ RRep I' A' g ∧ I' 2 = I 2 := by
    obtain ⟨I1, hI1⟩ : ∃ I1, I1 = fu I 41 (i32 (m : Nat)) := ⟨_, rfl⟩
    have k1 : ∀ k, k ≠ 41 → I1 k = I k := fun k h => by rw [hI1, fu_ne _ _ h]
    have hR1 : RB I1 A (gb g) := by
      have := hr.1
      unfold RB at this ⊢
      rw [k1 12 (by decide), k1 13 (by decide), k1 14 (by decide)]
      exact this
    obtain ⟨n, I', A', q1, q2, q3, q4⟩ := r_tr92 (J := J) H hg hq hw hh hm3 hi (bnr (gb g)) 0 I1 A (by omega) hR1 (by rw [k1 26 (by decide)]; exact hr.2.1) hr.2.2.1.1 (by rw [k1 28 (by decide)]; exact hr.2.2.1.2.1) (by rw [hI1, fu_same])
    refine ⟨I', A', ?_, ?_, ?_⟩
    · unfold jf_X12_tried_83
      simp only [rsI, xbs, i32_lit]
      rw [← hI1]
      exact jf_X12_tried_92_l q1
    · refine hr.keep (fun k hk => ?_) q4
      by_cases e : k = 41
      · subst e; rw [q3]; exact hr.2.2.1.2.2.symm
      · rw [q2 k (fun z => by subst z; revert hk; decide) e, k1 k e]
    · rw [q2 2 (by decide) (by decide), k1 2 (by decide)]
  obtain ⟨I', A', q1, q2, q3⟩ := key
  refine ⟨I', A', ?_, q2, q3⟩
  unfold jf_X12_tried_45
  simp only [rI, hr.2.2.1.2.1, i32_lit]
  have w3 : ¬ i32 ((gq g).length : Nat) = i32 0 := by rw [i32_eq (by omega) (by omega) (by omega) (by omega)]; omega
  simp only [eq_false w3, if_false]
  rcases (show what = 0 ∨ what = 1 ∨ what = 2 ∨ what = 3 ∨ what = 4 by omega) with rfl | rfl | rfl | rfl | rfl
  · rw [if_pos rfl] at hm; subst hm
    simp only [show (i32 ((0 : Nat) : Int) = i32 0) = True from eq_true (by decide), if_true, if_false]
    exact q1
  · have hm2 : m = 2 := by rw [hm]; rfl
    subst hm2
    simp only [show (i32 ((1 : Nat) : Int) = i32 0) = False from eq_false (by decide), show (i32 ((1 : Nat) : Int) = i32 1) = True from eq_true (by decide), if_true, if_false]
    exact q1
  · have hm2 : m = 0 := by rw [hm]; rfl
    subst hm2
    simp only [show (i32 ((2 : Nat) : Int) = i32 0) = False from eq_false (by decide), show (i32 ((2 : Nat) : Int) = i32 1) = False from eq_false (by decide), show (i32 ((2 : Nat) : Int) = i32 4) = False from eq_false (by decide), if_true, if_false]
    exact q1
  · have hm2 : m = 0 := by rw [hm]; rfl
    subst hm2
    simp only [show (i32 ((3 : Nat) : Int) = i32 0) = False from eq_false (by decide), show (i32 ((3 : Nat) : Int) = i32 1) = False from eq_false (by decide), show (i32 ((3 : Nat) : Int) = i32 4) = False from eq_false (by decide), if_true, if_false]
    exact q1
  · have hm2 : m = 3 := by rw [hm]; rfl
    subst hm2
    simp only [show (i32 ((4 : Nat) : Int) = i32 0) = False from eq_false (by decide), show (i32 ((4 : Nat) : Int) = i32 1) = False from eq_false (by decide), show (i32 ((4 : Nat) : Int) = i32 4) = True from eq_true (by decide), if_true, if_false]
    exact q1
theorem op_tried (C : CH ty N) (H : MH ty M mm mi hB) (hg : gwf g) (hc : CRep c g) (hr : RRep I A g) {what how i : Int} (a1 : -2147483648 ≤ what) (a2 : what < 2147483648) (b1 : -2147483648 ≤ how) (b2 : how < 2147483648) (d1 : -2147483648 ≤ i) (d2 : i < 2147483648) :
    OP N hA mm mi hB M J g (jf_X11_tried ty (cst N hA c) (N + 0) (i32 what) (i32 how) (i32 i)) (jf_X12_tried ty (rst mm mi hB M I A J) M (i32 what) (i32 how) (i32 i)) := by
  have h16 := hg.1.2.2.1
  have hql := gq_l hg
  have I2 : ∀ k, k ≠ 33 → k ≠ 2 → k ≠ 39 → fu I 2 (i32 0) k = I k := fun k _ h _ => fu_ne _ _ h
  have hr2 : RRep (fu I 2 (i32 0)) A g := hr.ks I2 keepA.rf
  unfold jf_X11_tried jf_X12_tried
  simp (disch := omega) only [rsI, xbs, isWay_i b1 b2, i32_lit, i32_neg, i32_lt, i32_eq, isIn_i, bI_eq0, k_book C hc.1, k_hasRule hg.1 hc.1.bk hc.2.1 d1 d2, r_isRule hg.1 hr2.1.2.2.1 d1 d2]
  cases hw : (decide (0 ≤ what) && decide (what ≤ 4)) with
  | false =>
    simp only [if_true]
    rw [Bool.and_eq_false_iff, decide_eq_false_iff_not, decide_eq_false_iff_not] at hw
    by_cases w4 : what < 0
    · simp only [eq_true w4, if_true]
      exact OP.ret hc hr _ _ I2 (fu_same _ _ _) rfl rfl
    · have w5 : 4 < what := by omega
      simp only [eq_false w4, if_false, eq_true w5, if_true]
      exact OP.ret hc hr _ _ I2 (fu_same _ _ _) rfl rfl
  | true =>
  rw [Bool.and_eq_true_iff, decide_eq_true_iff, decide_eq_true_iff] at hw
  have w4 : ¬ what < 0 := by omega
  have w5 : ¬ 4 < what := by omega
  simp only [eq_false w4, eq_false w5, Bool.true_eq_false, if_false]
  cases hw2 : (decide (0 ≤ how) && decide (how ≤ 2)) with
  | false =>
    simp only [if_true]
    exact OP.ret hc hr _ _ I2 (fu_same _ _ _) rfl rfl
  | true =>
  rw [Bool.and_eq_true_iff, decide_eq_true_iff, decide_eq_true_iff] at hw2
  simp only [Bool.true_eq_false, if_false]
  obtain ⟨what, rfl⟩ : ∃ n : Nat, what = n := ⟨what.toNat, by omega⟩
  obtain ⟨how, rfl⟩ : ∃ n : Nat, how = n := ⟨how.toNat, by omega⟩
  have main : ∀ i : Nat, i < 16 → OP N hA mm mi hB M J g (jf_X11_tried_43 ty (N + 0) (i32 what) (i32 how) (i32 i) (cst N hA c)) (jf_X12_tried_45 ty M (i32 what) (i32 how) (i32 i) (rst mm mi hB M (fu I 2 (i32 0)) A J)) := by
    intro i hi
    rcases hg.2.1 with hq | hq
    · refine OP.ret hc hr (i32 (-2)) _ I2 (fu_same _ _ _) ?_ ?_
      · unfold jf_X11_tried_43
        simp only [k_ask C hc.1, xbs, k_askn hc, hq, i32_lit, i32_neg]
        rfl
      · unfold jf_X12_tried_45
        simp only [rI, hr2.2.2.1.2.1, hq, i32_lit, i32_neg]
        rfl
    · obtain ⟨m, hm⟩ : ∃ m, m = if what = 0 then 1 else if what = 1 then 2 else if what = 4 then 3 else 0 := ⟨_, rfl⟩
      obtain ⟨c', q1, q2⟩ := k_tr43 (h0 := hA) C hg hq hc (show what ≤ 4 by omega) (show how ≤ 2 by omega) hi hm
      obtain ⟨I', A', p1, p2, p3⟩ := r_tr45 (J := J) H hg hq hr2 (show what ≤ 4 by omega) (show how ≤ 2 by omega) hi hm
      exact ⟨_, c', I', A', q1, q2, p1, p2, by rw [p3, fu_same]⟩
  by_cases w2 : (what : Int) = 2
  · simp only [eq_true w2, if_true]
    cases hR : isR (gb g) i with
    | false =>
      simp only [if_true]
      exact OP.ret hc hr _ _ I2 (fu_same _ _ _) rfl rfl
    | true =>
      obtain ⟨r, rfl, hrr⟩ := isR_r hR
      simp only [Bool.true_eq_false, if_false]
      exact main r (by omega)
  · simp only [eq_false w2, if_false]
    by_cases w3 : i = 0
    · subst w3
      simp only [if_true]
      exact main 0 (by omega)
    · simp only [eq_false w3, if_false]
      exact OP.ret hc hr _ _ I2 (fu_same _ _ _) rfl rfl
end TRIED2

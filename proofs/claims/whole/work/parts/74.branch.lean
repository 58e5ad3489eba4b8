/-! branch -/
section BRANCH
variable {ty : xTy} {N M : Nat} {hA hB h0 : xH} {mm mi : Nat → Nat} {c : CS} {I : Nat → Int32} {A : Nat → Nat → Int32} {J : Nat → Int64} {g : Sg} {b : Bk}
/-- the places in the order at which a node of a length begins -/
def brP (b : Bk) (z n i : Nat) : Bool := nwA (shE b n) (ordL b z) i
def brL (b : Bk) (z n : Nat) : List Nat := (List.range (ordL b z).length).filter (brP b z n)
def brV (b : Bk) (z n i : Nat) : Nat := cc b (n - 1) ((ordL b z).getD i 0)
def brA (b : Bk) (z n : Nat) (k : Nat) : Int32 := oI ((brL b z n)[k]?.map (brV b z n)) (-2)
theorem rg_take {m i : Nat} (h : i ≤ m) : (List.range m).take i = List.range i := by rw [List.take_range, Nat.min_eq_left h]
theorem rg_flt_succ (p : Nat → Bool) (i : Nat) : (List.range (i + 1)).filter p = (List.range i).filter p ++ if p i then [i] else [] := by
  rw [List.range_succ, List.filter_append]
  simp only [List.filter_cons, List.filter_nil]
theorem rg_fl (p : Nat → Bool) (i : Nat) : ((List.range i).filter p).length ≤ i := Nat.le_trans (List.length_filter_le _ _) (by rw [List.length_range]; exact Nat.le_refl _)
theorem brL_get {z n i : Nat} (hi : i < (ordL b z).length) (hp : brP b z n i = true) : (brL b z n)[((List.range i).filter (brP b z n)).length]? = some i := by
  have := flt_get (p := brP b z n) (l := List.range (ordL b z).length) (i := i) (r := i) (by rw [List.getElem?_range hi]) hp
  rw [rg_take (by omega)] at this
  exact this
theorem cc_get {r k d : Nat} (h : (bT b r)[k]? = some d) : cc b k r = star d := by unfold cc; rw [h]; rfl
theorem k_br5 (C : CH ty N) (hg : gwf g) (hc : CRep c g) {n : Nat} (hn : 1 ≤ n) (hn2 : n ≤ 12) {p : Int} (p1 : 0 ≤ p) (p2 : p < 2147483648) : ∀ (k i : Nat), i + k = (ordL (gb g) (gin g)).length → ((List.range i).filter (brP (gb g) (gin g) n)).length ≤ p.toNat →
    jf_X9_branchCode_5 ty (cst N h0 c) (k + 1) (N + 234) (i32 n) (i32 p) (i32 ((List.range i).filter (brP (gb g) (gin g) n)).length) (i32 i) = some (brA (gb g) (gin g) n p.toNat) := by
  have hl := ordL_len hg.1 (gin g)
  intro k
  induction k with
  | zero =>
    intro i h1 h2
    rw [jf_X9_branchCode_5_s]
    simp (disch := omega) only [k_tn hc, i32_lit, i32_neg, i32_add, i32_sub, i32_mul, i32_lt, i32_le, i32_eq, if_pos]
    rw [show i = (ordL (gb g) (gin g)).length by omega] at h2
    unfold brA brL
    rw [List.getElem?_eq_none h2]
    rfl
  | succ k ih =>
    intro i h1 h2
    obtain ⟨r, hr⟩ := get_some (L := ordL (gb g) (gin g)) (i := i) (by omega)
    have hfl := rg_fl (brP (gb g) (gin g) n) i
    have hst := rg_flt_succ (brP (gb g) (gin g) n) i
    obtain ⟨t1, t2, hrr, hin⟩ := k_termAt (h0 := h0) C hg hc hr
    have hbr : jf_X9_bringsNode ty (cst N h0 c) (N + 234) (i32 i) (i32 n) = some (bI (brP (gb g) (gin g) n i)) := k_brings C hg hc hr hn (by omega)
    rw [jf_X9_branchCode_5_s]
    simp (disch := omega) only [k_tn hc, i32_lit, i32_neg, i32_add, i32_sub, i32_mul, i32_lt, i32_le, i32_eq, if_neg, hbr, xbs, bI_eq0, t1, kck C t2.1]
    rw [show (i : Int) + 1 = ((i + 1 : Nat) : Int) by omega, show ((((List.range i).filter (brP (gb g) (gin g) n)).length : Nat) : Int) + 1 = ((((List.range i).filter (brP (gb g) (gin g) n)).length + 1 : Nat) : Int) by omega]
    cases hm : brP (gb g) (gin g) n i with
    | false =>
      rw [hm] at hst
      simp only [Bool.false_eq_true, if_false, List.append_nil] at hst
      simp only [if_true]
      rw [← hst]
      exact ih (i + 1) (by omega) (by rw [hst]; exact h2)
    | true =>
      rw [hm] at hst
      simp only [if_true] at hst
      simp only [Bool.true_eq_false, if_false]
      by_cases w : ((((List.range i).filter (brP (gb g) (gin g) n)).length : Nat) : Int) = p
      · simp only [eq_true w, if_true]
        have hm' := hm
        unfold brP at hm'
        rw [nwA_ord hg.1.tok (gin g) hn hr, Bool.and_eq_true_iff, decide_eq_true_iff, decide_eq_true_iff] at hm'
        obtain ⟨d, hd⟩ := get_some (L := bT (gb g) r) (i := n - 1) (by omega)
        have bT3 : ∀ d ∈ bT (gb g) r, d < 1000 := fun d hd => (((hg.1.2.2.2.2 r hrr).1).ar hg.1 d hd).2
        rw [show ((n : Int) - 1) = ((n - 1 : Nat) : Int) by omega, t_pathCode C t2 bT3 (by omega) (by omega), Int.toNat_natCast, hd]
        unfold brA
        rw [← w, Int.toNat_natCast, brL_get (by omega) hm]
        simp only [Option.map_some, brV]
        rw [List.getD_eq_getElem?_getD, hr, Option.getD_some, cc_get hd]
        rfl
      · simp only [eq_false w, if_false]
        have ih' := ih (i + 1) (by omega) (by rw [hst, List.length_append, List.length_singleton]; omega)
        rw [hst, List.length_append, List.length_singleton] at ih'
        exact ih'
/-- none in that is ahead has as long a beginning -/
theorem take_ahd (hb : bwf b) {z p r x : Nat} (hp : (ordL b z)[p]? = some r) : x ∈ (ordL b z).take p ↔ x ∈ ordL b z ∧ ahN b x r = true := by
  have hS := ordL_sorted hb.tok z
  have hpl : p < (ordL b z).length := (List.getElem?_eq_some_iff.mp hp).1
  have hpg : (ordL b z)[p] = r := (List.getElem?_eq_some_iff.mp hp).2
  have hrm := (ordL_mem.mp (List.mem_of_getElem? hp)).1
  constructor
  · intro hx
    refine ⟨List.mem_of_mem_take hx, ?_⟩
    rw [List.mem_take_iff_getElem] at hx
    obtain ⟨j, hj, hjx⟩ := hx
    have := List.pairwise_iff_getElem.mp hS j p (by omega) hpl (by omega)
    rw [hjx, hpg] at this
    exact this
  · rintro ⟨hx, ha⟩
    have hxm := (ordL_mem.mp hx).1
    obtain ⟨j, hj, hjx⟩ := List.getElem_of_mem hx
    rw [List.mem_take_iff_getElem]
    rcases Nat.lt_trichotomy j p with h | h | h
    · exact ⟨j, by omega, hjx⟩
    · subst h
      rw [hpg] at hjx
      rw [hjx, hb.tok.irr hxm] at ha
      cases ha
    · have := List.pairwise_iff_getElem.mp hS p j hpl hj h
      rw [hjx, hpg] at this
      rw [hb.tok.asy hrm hxm this] at ha
      cases ha
theorem new_any (hb : bwf b) {z p r n : Nat} (hp : (ordL b z)[p]? = some r) : (inL z (bnr b)).any (fun x => ahN b x r && shE b n x r) = ((ordL b z).take p).any (fun x => shE b n x r) := by
  rw [Bool.eq_iff_iff, List.any_eq_true, List.any_eq_true]
  constructor
  · rintro ⟨x, hx, h⟩
    rw [Bool.and_eq_true_iff] at h
    exact ⟨x, (take_ahd hb hp).mpr ⟨(ordL_perm z).mem_iff.mpr hx, h.1⟩, h.2⟩
  · rintro ⟨x, hx, h⟩
    obtain ⟨h1, h2⟩ := (take_ahd hb hp).mp hx
    exact ⟨x, (ordL_perm z).mem_iff.mp h1, by rw [h2, h]; rfl⟩
theorem r_new2 (H : MH ty M mm mi h0) (hb : bwf b) (hR : RB I A b) {z r n : Nat} (hz : z < 65536) (h26 : I 26 = i32 z) (hr : r < bnr b) (hn : n ≤ 1000) : ∀ (k i : Nat), i + k = bnr b → (inL z i).any (fun x => ahN b x r && shE b n x r) = false →
    jf_X12_isNewIn_2 ty (rst mm mi h0 M I A J) (k + 1) M (i32 r) (i32 n) (i32 i) = some (bI (!((inL z (bnr b)).any (fun x => ahN b x r && shE b n x r)))) := by
  have h16 := hb.2.2.1
  have l2 := ((hb.2.2.2.2 r hr).1).2.1
  intro k
  induction k with
  | zero =>
    intro i h1 h2
    rw [jf_X12_isNewIn_2_s]
    simp (disch := omega) only [rI, hR.2.2.1, i32_lit, i32_neg, i32_add, i32_sub, i32_mul, i32_lt, i32_le, i32_eq, if_pos]
    rw [show i = bnr b by omega] at h2
    rw [h2]; rfl
  | succ k ih =>
    intro i h1 h2
    have hi : i < bnr b := by omega
    have hs := (shp_le (pth (bT b i)) (pth (bT b r))).2
    rw [show (pth (bT b r)).length = (bT b r).length by simp [pth]] at hs
    have ih' := ih (i + 1) (by omega)
    rw [inL_succ] at ih'
    rw [jf_X12_isNewIn_2_s]
    simp (disch := omega) only [rI, hR.2.2.1, r_isInNow hz h26, r_ahead H hb hR hi hr, r_shared H hb hR hi hr, xbs, bI_eq0, i32_lit, i32_neg, i32_add, i32_sub, i32_mul, i32_lt, i32_le, i32_eq]
    rw [if_neg (by omega), show (i : Int) + 1 = ((i + 1 : Nat) : Int) by omega]
    by_cases w1 : (i : Int) = (r : Int)
    · simp only [eq_true w1, if_true]
      refine ih' ?_
      have e : ahN b i r = false := by rw [show i = r by omega]; exact hb.tok.irr hr
      split
      · rw [List.any_append, h2]; simp [e]
      · exact h2
    · simp only [eq_false w1, if_false]
      cases w2 : inR z i with
      | false =>
        simp only [if_true]
        rw [w2] at ih'
        exact ih' h2
      | true =>
        simp only [Bool.true_eq_false, if_false]
        rw [w2] at ih'
        simp only [if_true, List.any_append, h2, List.any_cons, List.any_nil, Bool.or_false, Bool.false_or] at ih'
        cases w4 : ahN b i r with
        | false =>
          simp only [if_true]
          rw [w4] at ih'
          exact ih' rfl
        | true =>
          simp only [Bool.true_eq_false, if_false]
          rw [w4, Bool.true_and] at ih'
          by_cases w3 : (shp (pth (bT b i)) (pth (bT b r)) : Int) < (n : Int)
          · simp only [eq_true w3, if_true]
            refine ih' ?_
            unfold shE
            rw [decide_eq_false_iff_not]
            omega
          · have he : (inL z (bnr b)).any (fun x => ahN b x r && shE b n x r) = true := by
              rw [List.any_eq_true]
              refine ⟨i, mem_inL.mpr ⟨by omega, w2⟩, ?_⟩
              rw [w4, Bool.true_and]
              unfold shE
              rw [decide_eq_true_iff]
              omega
            rw [he]
            simp only [eq_false w3, if_false]
            rfl
theorem r_new (H : MH ty M mm mi h0) (hb : bwf b) (hR : RB I A b) {z r n : Nat} (hz : z < 65536) (h26 : I 26 = i32 z) (hr : r < bnr b) (hn : n ≤ 1000) : jf_X12_isNewIn ty (rst mm mi h0 M I A J) M (i32 r) (i32 n) = some (bI (!((inL z (bnr b)).any (fun x => ahN b x r && shE b n x r)))) :=
  jf_X12_isNewIn_2_l (r_new2 H hb hR hz h26 hr hn (bnr b) 0 (by omega) (by simp [inL]))
def oLt (o : Option Nat) (i : Nat) : Bool := o.any (fun r => decide (r < i))
def oGe (o : Option Nat) (i : Nat) : Bool := o.any (fun r => decide (i ≤ r))
theorem oLt_iff {o : Option Nat} {i : Nat} : oLt o i = true ↔ ∃ r, r < i ∧ o = some r := by cases o <;> simp [oLt]
theorem oGe_iff {o : Option Nat} {i : Nat} : oGe o i = true ↔ ∃ r, i ≤ r ∧ o = some r := by cases o <;> simp [oGe]
theorem r_br38 (H : MH ty M mm mi h0) (hb : bwf b) (hR : RB I A b) {z n : Nat} (hz : z < 65536) (h26 : I 26 = i32 z) (hn : 1 ≤ n) (hn2 : n ≤ 12) {q : Int} (q1 : 0 ≤ q) (q2 : q < 2147483648) {p a : Nat} (hp : p < 16) (ha : a = ((List.range p).filter (brP b z n)).length) (hal : a ≤ q.toNat) : ∀ (k i : Nat), i + k = bnr b →
    ∃ m, ∀ k26 : Nat → Int32 → Int32 → Int32 → Int32 → xH → Option (Int32 × xH), jf_X12_branch_38 ty k26 m M (i32 n) (i32 q) (i32 ((a + if oLt (ordL b z)[p]? i = true ∧ brP b z n p = true then 1 else 0 : Nat) : Int)) (i32 p) (i32 i) (rst mm mi h0 M I A J) = if (a = q.toNat ∧ brP b z n p = true ∧ oGe (ordL b z)[p]? i = true) then some (brA b z n q.toNat, rst mm mi h0 M I A J) else k26 M (i32 n) (i32 q) (i32 ((a + if brP b z n p = true then 1 else 0 : Nat) : Int)) (i32 ((p + 1 : Nat) : Int)) (rst mm mi h0 M I A J) := by
  have h16 := hb.2.2.1
  have hal2 : a ≤ 16 := by rw [ha]; have := rg_fl (brP b z n) p; omega
  intro k
  induction k with
  | zero =>
    intro i h1
    refine ⟨1, fun k26 => ?_⟩
    have hno : ¬ (a = q.toNat ∧ brP b z n p = true ∧ oGe (ordL b z)[p]? i = true) := by
      rintro ⟨-, -, hx⟩
      obtain ⟨r, hr1, hr2⟩ := oGe_iff.mp hx
      have := (ordL_mem.mp (List.mem_of_getElem? hr2)).1
      omega
    rw [if_neg hno]
    have hiff : (oLt (ordL b z)[p]? i = true ∧ brP b z n p = true) ↔ brP b z n p = true := by
      constructor
      · exact fun h => h.2
      · intro h
        refine ⟨oLt_iff.mpr ?_, h⟩
        unfold brP nwA at h
        cases hx : (ordL b z)[p]? with
        | none => rw [hx] at h; cases h
        | some r => exact ⟨r, by have := (ordL_mem.mp (List.mem_of_getElem? hx)).1; omega, rfl⟩
    rw [jf_X12_branch_38_s]
    simp (disch := omega) only [rI, hR.2.2.1, i32_lit, i32_neg, i32_add, i32_sub, i32_mul, i32_lt, i32_le, i32_eq, if_pos]
    simp only [hiff]
    rw [show (p : Int) + 1 = ((p + 1 : Nat) : Int) by omega]
  | succ k ih =>
    intro i h1
    have hi : i < bnr b := by omega
    obtain ⟨m, hm⟩ := ih (i + 1) (by omega)
    have hpl := plP_le (b := b) z i (bnr b)
    have l12 := ((hb.2.2.2.2 i hi).1).2.1
    have hhead : ∀ (k26 : Nat → Int32 → Int32 → Int32 → Int32 → xH → Option (Int32 × xH)) (x : Nat), x ≤ 100 → jf_X12_branch_38 ty k26 (m + 1) M (i32 n) (i32 q) (i32 (x : Nat)) (i32 p) (i32 i) (rst mm mi h0 M I A J) = if (ordL b z)[p]? = some i then (if brP b z n p = true then (if (x : Int) = q then some (i32 (cc b (n - 1) i : Nat), rst mm mi h0 M I A J) else jf_X12_branch_38 ty k26 m M (i32 n) (i32 q) (i32 ((x + 1 : Nat) : Int)) (i32 p) (i32 ((i + 1 : Nat) : Int)) (rst mm mi h0 M I A J)) else jf_X12_branch_38 ty k26 m M (i32 n) (i32 q) (i32 (x : Nat)) (i32 p) (i32 ((i + 1 : Nat) : Int)) (rst mm mi h0 M I A J)) else jf_X12_branch_38 ty k26 m M (i32 n) (i32 q) (i32 (x : Nat)) (i32 p) (i32 ((i + 1 : Nat) : Int)) (rst mm mi h0 M I A J) := by
      intro k26 x hx
      rw [jf_X12_branch_38_s]
      simp (disch := omega) only [rI, hR.2.2.1, r_isInNow hz h26, r_place H hb hR hz h26 hi, rr_22 H, ga_22 H, Int.toNat_natCast, (hR.2.2.2.2.2 i hi).2.1, r_new H hb hR hz h26 hi (n := n) (by omega), xbs, bI_eq0, i32_lit, i32_le, i32_lt, i32_eq, i32_add, i32_sub, if_neg]
      rw [show (i : Int) + 1 = ((i + 1 : Nat) : Int) by omega, show (x : Int) + 1 = ((x + 1 : Nat) : Int) by omega, show (n : Int) - 1 = ((n - 1 : Nat) : Int) by omega, r_cc H hb hR hi (show n - 1 ≤ 100 by omega), xbs]
      cases hin : inR z i with
      | false =>
        have hne : ¬ (ordL b z)[p]? = some i := fun h => by
          have := (ordL_mem.mp (List.mem_of_getElem? h)).2
          rw [hin] at this; cases this
        simp only [if_true, eq_false hne, if_false]
      | true =>
        simp only [Bool.true_eq_false, if_false]
        by_cases hat : (ordL b z)[p]? = some i
        · have e1 : ((plP b z i (bnr b) : Nat) : Int) = (p : Int) := by have := (plP_idx hb hi hin).mpr hat; omega
          simp only [eq_true e1, eq_true hat, if_true]
          have hbp : brP b z n p = (decide (n ≤ (bT b i).length) && !((inL z (bnr b)).any (fun x => ahN b x i && shE b n x i))) := by
            rw [new_any hb hat]
            unfold brP nwA
            rw [hat]
            simp only [shE, shp_self]
            simp [pth]
          by_cases w1 : ((bT b i).length : Int) < (n : Int)
          · rw [decide_eq_false (show ¬ n ≤ (bT b i).length by omega), Bool.false_and] at hbp
            simp only [eq_true w1, if_true, hbp, Bool.false_eq_true, if_false]
          · rw [decide_eq_true (show n ≤ (bT b i).length by omega), Bool.true_and] at hbp
            simp only [eq_false w1, if_false, ← hbp]
            cases brP b z n p with
            | false => simp only [if_true, Bool.false_eq_true, if_false]
            | true => simp only [if_true, Bool.true_eq_false, if_false]
        · have e1 : ¬ ((plP b z i (bnr b) : Nat) : Int) = (p : Int) := fun e => hat ((plP_idx hb hi hin).mp (by omega))
          simp only [eq_false e1, eq_false hat, if_false]
    by_cases hat : (ordL b z)[p]? = some i
    · have n1 : ¬ oLt (ordL b z)[p]? i = true := by
        rw [oLt_iff]
        rintro ⟨r, hr1, hr2⟩
        rw [hat] at hr2
        have := Option.some.inj hr2
        omega
      have n2 : ¬ oGe (ordL b z)[p]? (i + 1) = true := by
        rw [oGe_iff]
        rintro ⟨r, hr1, hr2⟩
        rw [hat] at hr2
        have := Option.some.inj hr2
        omega
      have y1 : oLt (ordL b z)[p]? (i + 1) = true := oLt_iff.mpr ⟨i, by omega, hat⟩
      have y2 : oGe (ordL b z)[p]? i = true := oGe_iff.mpr ⟨i, by omega, hat⟩
      refine ⟨m + 1, fun k26 => ?_⟩
      have hm' := hm k26
      simp only [eq_false n2, eq_true y1, and_false, true_and, if_false] at hm'
      simp only [eq_false n1, eq_true y2, and_true, false_and, if_false, Nat.add_zero]
      rw [hhead k26 a (by omega), if_pos hat]
      cases hbp : brP b z n p with
      | false =>
        rw [hbp] at hm'
        simp only [Bool.false_eq_true, if_false, Nat.add_zero, and_false] at hm' ⊢
        exact hm'
      | true =>
        rw [hbp] at hm'
        simp only [if_true, and_true] at hm' ⊢
        by_cases w : (a : Int) = q
        · rw [if_pos w, if_pos (by omega)]
          congr 2
          unfold brA
          have hpl2 : p < (ordL b z).length := (List.getElem?_eq_some_iff.mp hat).1
          rw [show q.toNat = ((List.range p).filter (brP b z n)).length by omega, brL_get hpl2 hbp]
          simp only [Option.map_some, brV]
          rw [List.getD_eq_getElem?_getD, hat, Option.getD_some]
          rfl
        · rw [if_neg w, if_neg (by omega)]
          exact hm'
    · refine ⟨m + 1, fun k26 => ?_⟩
      have hm' := hm k26
      have e1 : oLt (ordL b z)[p]? (i + 1) = oLt (ordL b z)[p]? i := by
        rw [Bool.eq_iff_iff, oLt_iff, oLt_iff]
        constructor
        · rintro ⟨r, hr1, hr2⟩
          rcases Nat.lt_or_ge r i with h | h
          · exact ⟨r, h, hr2⟩
          · rw [show r = i by omega] at hr2; exact absurd hr2 hat
        · rintro ⟨r, hr1, hr2⟩
          exact ⟨r, by omega, hr2⟩
      have e2 : oGe (ordL b z)[p]? (i + 1) = oGe (ordL b z)[p]? i := by
        rw [Bool.eq_iff_iff, oGe_iff, oGe_iff]
        constructor
        · rintro ⟨r, hr1, hr2⟩
          exact ⟨r, by omega, hr2⟩
        · rintro ⟨r, hr1, hr2⟩
          rcases Nat.lt_or_ge i r with h | h
          · exact ⟨r, h, hr2⟩
          · rw [show r = i by omega] at hr2; exact absurd hr2 hat
      simp only [e1, e2] at hm'
      rw [hhead k26 _ (by split <;> omega), if_neg hat]
      exact hm'
theorem r_br26 (H : MH ty M mm mi h0) (hb : bwf b) (hR : RB I A b) {z n : Nat} (hz : z < 65536) (h26 : I 26 = i32 z) (hn : 1 ≤ n) (hn2 : n ≤ 12) {q : Int} (q1 : 0 ≤ q) (q2 : q < 2147483648) : ∀ (k p : Nat), p + k = bnr b → ((List.range p).filter (brP b z n)).length ≤ q.toNat →
    ∃ m, jf_X12_branch_26 ty m M (i32 n) (i32 q) (i32 ((List.range p).filter (brP b z n)).length) (i32 p) (rst mm mi h0 M I A J) = some (brA b z n q.toNat, rst mm mi h0 M I A J) := by
  have h16 := hb.2.2.1
  have hol : (ordL b z).length ≤ bnr b := ordP_len z (bnr b)
  intro k
  induction k with
  | zero =>
    intro p h1 h2
    refine ⟨1, ?_⟩
    rw [jf_X12_branch_26_s]
    simp (disch := omega) only [rI, hR.2.2.1, i32_lit, i32_neg, i32_add, i32_sub, i32_mul, i32_lt, i32_le, i32_eq, if_pos]
    unfold brA
    have : (brL b z n).length ≤ q.toNat := by
      refine Nat.le_trans ?_ h2
      unfold brL
      rw [← List.countP_eq_length_filter, ← List.countP_eq_length_filter]
      have : (List.range (ordL b z).length).Sublist (List.range p) := by
        rw [← rg_take (show (ordL b z).length ≤ p by omega)]
        exact List.take_sublist _ _
      exact this.countP_le
    rw [List.getElem?_eq_none this]
    rfl
  | succ k ih =>
    intro p h1 h2
    have hst := rg_flt_succ (brP b z n) p
    obtain ⟨m1, hm1⟩ := r_br38 (I := I) (A := A) (J := J) H hb hR hz h26 hn hn2 q1 q2 (show p < 16 by omega) rfl h2 (bnr b) 0 (by omega)
    have e0 : ¬ oLt (ordL b z)[p]? 0 = true := by rw [oLt_iff]; rintro ⟨r, h, -⟩; omega
    simp only [eq_false e0, false_and, if_false, Nat.add_zero] at hm1
    by_cases w : (((List.range p).filter (brP b z n)).length = q.toNat ∧ brP b z n p = true ∧ oGe (ordL b z)[p]? 0 = true)
    · refine ⟨2, ?_⟩
      rw [jf_X12_branch_26_s]
      simp (disch := omega) only [rI, hR.2.2.1, i32_le, if_neg]
      refine jf_X12_branch_38_l (n := m1) ?_
      have := hm1 (jf_X12_branch_26 ty 1)
      rw [if_pos w] at this
      exact this
    · have hw2 : ((List.range (p + 1)).filter (brP b z n)).length = ((List.range p).filter (brP b z n)).length + if brP b z n p = true then 1 else 0 := by
        rw [hst, List.length_append]
        split <;> simp
      have hle : ((List.range (p + 1)).filter (brP b z n)).length ≤ q.toNat := by
        rw [hw2]
        split
        · rename_i hbp
          have : oGe (ordL b z)[p]? 0 = true := by
            rw [oGe_iff]
            unfold brP nwA at hbp
            cases hx : (ordL b z)[p]? with
            | none => rw [hx] at hbp; cases hbp
            | some r => exact ⟨r, by omega, rfl⟩
          have hne : ¬ ((List.range p).filter (brP b z n)).length = q.toNat := fun e => w ⟨e, hbp, this⟩
          omega
        · exact h2
      obtain ⟨m, hm⟩ := ih (p + 1) (by omega) hle
      rw [hw2] at hm
      refine ⟨m + 1, ?_⟩
      rw [jf_X12_branch_26_s]
      simp (disch := omega) only [rI, hR.2.2.1, i32_le, if_neg]
      refine jf_X12_branch_38_l (n := m1) ?_
      have := hm1 (jf_X12_branch_26 ty m)
      rw [if_neg w] at this
      exact this.trans hm
theorem op_branch (C : CH ty N) (H : MH ty M mm mi hB) (hg : gwf g) (hc : CRep c g) (hr : RRep I A g) {n k : Int} (a1 : -2147483648 ≤ n) (a2 : n < 2147483648) (f1 : -2147483648 ≤ k) (f2 : k < 2147483648) :
    OPp mm mi hB M J g (jf_X11_branch ty (cst N hA c) (N + 0) (i32 n) (i32 k)) (jf_X12_branch ty (rst mm mi hB M I A J) M (i32 n) (i32 k)) := by
  have hr2 : RRep (fu I 2 (i32 0)) A g := hr.ks (fun k _ h _ => fu_ne _ _ h) keepA.rf
  unfold jf_X11_branch jf_X12_branch
  simp (disch := omega) only [rsI, xbs, i32_lit, i32_neg, i32_lt, i32_le, isIn_i, bI_eq0, k_tree C hc.1]
  by_cases w : (1 ≤ n ∧ n ≤ 12) ∧ 0 ≤ k
  · obtain ⟨⟨w1, w2⟩, w3⟩ := w
    obtain ⟨m, rfl⟩ : ∃ m : Nat, n = m := ⟨n.toNat, by omega⟩
    refine OPp.ret (v := brA (gb g) (gin g) m k.toNat) hr ?_ ?_
    · rw [if_neg (by omega), if_neg (by omega), if_pos w3]
      have : jf_X9_branchCode ty (cst N hA c) (N + 234) (i32 m) (i32 k) = some (brA (gb g) (gin g) m k.toNat) := jf_X9_branchCode_5_l (k_br5 (h0 := hA) C hg hc (show 1 ≤ m by omega) (by omega) w3 f2 (ordL (gb g) (gin g)).length 0 (by omega) (by simp))
      rw [this]; rfl
    · simp only [decide_eq_true w1, decide_eq_true w2, Bool.and_true, Bool.true_eq_false, if_false]
      rw [if_pos w3]
      obtain ⟨m', hm⟩ := r_br26 (J := J) H hg.1 hr2.1 hg.z hr2.2.1 (show 1 ≤ m by omega) (by omega) w3 f2 (bnr (gb g)) 0 (by omega) (by simp)
      exact jf_X12_branch_26_l hm
  · refine OPp.ret (v := i32 (-1)) hr ?_ ?_
    · by_cases w1 : n < 1
      · rw [if_pos w1]
      · rw [if_neg w1]
        by_cases w2 : 12 < n
        · rw [if_pos w2]
        · rw [if_neg w2, if_neg (by omega)]
    · cases hh : (decide (1 ≤ n) && decide (n ≤ 12)) with
      | false => simp only [if_true]
      | true =>
        rw [Bool.and_eq_true_iff, decide_eq_true_iff, decide_eq_true_iff] at hh
        have : ¬ 0 ≤ k := fun h => w ⟨hh, h⟩
        simp only [Bool.true_eq_false, if_false, eq_false this]
end BRANCH

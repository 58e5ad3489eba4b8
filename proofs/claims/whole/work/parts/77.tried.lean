/-! tried -/
section TRIED
variable {ty : xTy} {N M : Nat} {hA hB h0 : xH} {mm mi : Nat → Nat} {c : CS} {I : Nat → Int32} {A : Nat → Nat → Int32} {J : Nat → Int64} {g : Sg} {b : Bk}
theorem apartK_snoc : ∀ (L : List Nat) (k d : Nat), apartK k (L ++ [d]) = apartK k L ++ [if d < 100 then d else 100 + (k + L.length)]
  | [], k, d => by simp [apartK]
  | x :: L, k, d => by
    simp only [List.cons_append, apartK, apartK_snoc L (k + 1) d, List.length_cons]
    rw [show k + 1 + L.length = k + (L.length + 1) by omega]
theorem apartK_take {T : List Nat} {p d : Nat} (h : T[p]? = some d) : apartK 0 (T.take (p + 1)) = apartK 0 (T.take p) ++ [if d < 100 then d else 100 + p] := by
  have hp : p < T.length := (List.getElem?_eq_some_iff.mp h).1
  rw [List.take_add_one, h]
  simp only [Option.toList]
  rw [apartK_snoc, List.length_take, Nat.min_eq_left (by omega), Nat.zero_add]
theorem k_cpA6 (C : CH ty N) {ar : Nat → Nat} (hz : ∀ d, 100 ≤ d → ar d = 0) {t u room : Nat} {T : List Nat} (h12 : T.length ≤ 12) (hT : ∀ d ∈ T, d < 1000) (hd : t + 3 ≤ u ∨ u + 3 ≤ t) : ∀ (k p : Nat) (c : CS), p + k = T.length → isT c t 12 ar (apartK 0 (T.take p)) → isT c u room ar T →
    ∃ c', jf_X7_copyApart_6 ty (k + 1) (N + t) (N + u) (i32 p) (cst N h0 c) = some (cst N h0 c') ∧ isT c' t 12 ar (apartK 0 T) ∧ fr t (t + 3) c c' := by
  intro k
  induction k with
  | zero =>
    intro p c h1 iD iT
    have hlt := ct_lt iT.1
    rw [List.take_of_length_le (by omega)] at iD
    refine ⟨c, ?_, iD, fr.rf⟩
    rw [jf_X7_copyApart_6_s]
    simp (disch := omega) only [kI hlt, iT.2.2.2.2.2.2.2.1, i32_lit, i32_neg, i32_add, i32_sub, i32_mul, i32_lt, i32_le, i32_eq, if_pos]
  | succ k ih =>
    intro p c h1 iD iT
    have hlt := ct_lt iT.1
    obtain ⟨d, hdp⟩ := get_some (L := T) (i := p) (by omega)
    have hdd := hT d (List.mem_of_getElem? hdp)
    have hl : (apartK 0 (T.take p)).length < 12 := by rw [apartK_len, List.length_take]; omega
    have cT : jf_X7_codeAt ty (cst N h0 c) (N + u) (i32 p) = some (i32 (d : Nat)) := by
      rw [t_codeAt C iT (by omega) (by omega), Int.toNat_natCast, hdp]; rfl
    have aT : jf_X7_arityAt ty (cst N h0 c) (N + u) (i32 p) = some (i32 (ar d : Nat)) := by
      rw [t_arityAt C iT (by omega) (by omega), Int.toNat_natCast, hdp]; rfl
    by_cases w : 100 ≤ d
    · obtain ⟨c1, q1, q2, q3⟩ := t_add (h0 := h0) C iD hl (100 + p)
      have e : apartK 0 (T.take (p + 1)) = apartK 0 (T.take p) ++ [100 + p] := by rw [apartK_take hdp, if_neg (by omega)]
      obtain ⟨c', p1, p2, p3⟩ := ih (p + 1) c1 (by omega) (by rw [e]; exact q2) (iT.fr q3 (by omega))
      refine ⟨c', ?_, p2, q3.tr p3⟩
      rw [hz (100 + p) (by omega)] at q1
      rw [jf_X7_copyApart_6_s, ← p1]
      simp (disch := omega) only [kI hlt, iT.2.2.2.2.2.2.2.1, i32_lit, i32_neg, i32_add, i32_sub, i32_mul, i32_lt, i32_le, i32_eq, if_neg, cT, aT, xbs]
      rw [if_pos (by omega), hz d w, show (100 : Int) + (p : Int) = ((100 + p : Nat) : Int) by omega, q1, xb2s, show (p : Int) + 1 = ((p + 1 : Nat) : Int) by omega]
    · obtain ⟨c1, q1, q2, q3⟩ := t_add (h0 := h0) C iD hl d
      have e : apartK 0 (T.take (p + 1)) = apartK 0 (T.take p) ++ [d] := by rw [apartK_take hdp, if_pos (by omega)]
      obtain ⟨c', p1, p2, p3⟩ := ih (p + 1) c1 (by omega) (by rw [e]; exact q2) (iT.fr q3 (by omega))
      refine ⟨c', ?_, p2, q3.tr p3⟩
      rw [jf_X7_copyApart_6_s, ← p1]
      simp (disch := omega) only [kI hlt, iT.2.2.2.2.2.2.2.1, i32_lit, i32_neg, i32_add, i32_sub, i32_mul, i32_lt, i32_le, i32_eq, if_neg, cT, aT, xbs, q1, xb2s]
      rw [show (p : Int) + 1 = ((p + 1 : Nat) : Int) by omega]
theorem k_cpA (C : CH ty N) {ar : Nat → Nat} (hz : ∀ d, 100 ≤ d → ar d = 0) (hL : LY c) {t u room : Nat} {T : List Nat} (ht : ct t = some (0, 7)) (ht1 : ct (t + 1) = some (1, 12)) (ht2 : ct (t + 2) = some (1, 12)) (h12 : T.length ≤ 12) (hT : ∀ d ∈ T, d < 1000) (hd : t + 3 ≤ u ∨ u + 3 ≤ t) (iT : isT c u room ar T) :
    ∃ c', jf_X7_copyApart ty (cst N h0 c) (N + t) (N + u) = some (cst N h0 c') ∧ isT c' t 12 ar (apartK 0 T) ∧ fr t (t + 3) c c' := by
  obtain ⟨c1, hc1⟩ : ∃ c1, c1 = csI c t 2 (i32 0) := ⟨_, rfl⟩
  have f1 : fr t (t + 3) c c1 := by rw [hc1]; exact fr.I (by omega) (by omega)
  have hcl := k_clear (h0 := h0) (c := c) C ht
  rw [← hc1] at hcl
  obtain ⟨c', p1, p2, p3⟩ := k_cpA6 (h0 := h0) C hz h12 hT hd T.length 0 c1 (by omega) (isT_nil (hL.same f1.2.1 f1.2.2) ht ht1 ht2 (by omega) (by rw [hc1, sI_s])) (iT.fr f1 (by omega))
  refine ⟨c', ?_, p2, f1.tr p3⟩
  unfold jf_X7_copyApart
  rw [hcl, xbs]
  exact jf_X7_copyApart_6_l p1
theorem k_cpO6 (C : CH ty N) {ar : Nat → Nat} (hz : ∀ d, 100 ≤ d → ar d = 0) {t u room : Nat} {T : List Nat} (h12 : T.length ≤ 12) (hT : ∀ d ∈ T, d < 1000) (hd : t + 3 ≤ u ∨ u + 3 ≤ t) : ∀ (k p : Nat) (c : CS), p + k = T.length → isT c t 12 ar ((T.take p).map star) → isT c u room ar T →
    ∃ c', jf_X7_copyAsOne_6 ty (k + 1) (N + t) (N + u) (i32 p) (cst N h0 c) = some (cst N h0 c') ∧ isT c' t 12 ar (T.map star) ∧ fr t (t + 3) c c' := by
  intro k
  induction k with
  | zero =>
    intro p c h1 iD iT
    have hlt := ct_lt iT.1
    rw [List.take_of_length_le (by omega)] at iD
    refine ⟨c, ?_, iD, fr.rf⟩
    rw [jf_X7_copyAsOne_6_s]
    simp (disch := omega) only [kI hlt, iT.2.2.2.2.2.2.2.1, i32_lit, i32_neg, i32_add, i32_sub, i32_mul, i32_lt, i32_le, i32_eq, if_pos]
  | succ k ih =>
    intro p c h1 iD iT
    have hlt := ct_lt iT.1
    obtain ⟨d, hdp⟩ := get_some (L := T) (i := p) (by omega)
    have hl : ((T.take p).map star).length < 12 := by rw [List.length_map, List.length_take]; omega
    have cT : jf_X7_pathCode ty (cst N h0 c) (N + u) (i32 p) = some (i32 (star d : Nat)) := by
      rw [t_pathCode C iT hT (by omega) (by omega), Int.toNat_natCast, hdp]; rfl
    have aT : jf_X7_arityAt ty (cst N h0 c) (N + u) (i32 p) = some (i32 (ar (star d) : Nat)) := by
      rw [t_arityAt C iT (by omega) (by omega), Int.toNat_natCast, hdp, star_ar1 hz]; rfl
    obtain ⟨c1, q1, q2, q3⟩ := t_add (h0 := h0) C iD hl (star d)
    have e : (T.take (p + 1)).map star = (T.take p).map star ++ [star d] := by rw [List.take_add_one, hdp, List.map_append]; rfl
    obtain ⟨c', p1, p2, p3⟩ := ih (p + 1) c1 (by omega) (by rw [e]; exact q2) (iT.fr q3 (by omega))
    refine ⟨c', ?_, p2, q3.tr p3⟩
    rw [jf_X7_copyAsOne_6_s, ← p1]
    simp (disch := omega) only [kI hlt, iT.2.2.2.2.2.2.2.1, i32_lit, i32_neg, i32_add, i32_sub, i32_mul, i32_lt, i32_le, i32_eq, if_neg, cT, aT, xbs, q1, xb2s]
    rw [show (p : Int) + 1 = ((p + 1 : Nat) : Int) by omega]
theorem k_cpO (C : CH ty N) {ar : Nat → Nat} (hz : ∀ d, 100 ≤ d → ar d = 0) (hL : LY c) {t u room : Nat} {T : List Nat} (ht : ct t = some (0, 7)) (ht1 : ct (t + 1) = some (1, 12)) (ht2 : ct (t + 2) = some (1, 12)) (h12 : T.length ≤ 12) (hT : ∀ d ∈ T, d < 1000) (hd : t + 3 ≤ u ∨ u + 3 ≤ t) (iT : isT c u room ar T) :
    ∃ c', jf_X7_copyAsOne ty (cst N h0 c) (N + t) (N + u) = some (cst N h0 c') ∧ isT c' t 12 ar (T.map star) ∧ fr t (t + 3) c c' := by
  obtain ⟨c1, hc1⟩ : ∃ c1, c1 = csI c t 2 (i32 0) := ⟨_, rfl⟩
  have f1 : fr t (t + 3) c c1 := by rw [hc1]; exact fr.I (by omega) (by omega)
  have hcl := k_clear (h0 := h0) (c := c) C ht
  rw [← hc1] at hcl
  obtain ⟨c', p1, p2, p3⟩ := k_cpO6 (h0 := h0) C hz h12 hT hd T.length 0 c1 (by omega) (isT_nil (hL.same f1.2.1 f1.2.2) ht ht1 ht2 (by omega) (by rw [hc1, sI_s])) (iT.fr f1 (by omega))
  refine ⟨c', ?_, p2, f1.tr p3⟩
  unfold jf_X7_copyAsOne
  rw [hcl, xbs]
  exact jf_X7_copyAsOne_6_l p1
/-- loose terms: how many fit -/
noncomputable def lsP (b : Bk) (how : Nat) (Q : List Nat) (r : Nat) : Bool := fit (bar b) how (apartK 0 (bT b r)) Q
theorem k_ls5 (C : CH ty N) (hg : gwf g) {how u ru : Nat} (hh : how ≤ 2) {Q : List Nat} (hQ : tlo (gb g) Q) (hu : u + 3 ≤ 220 ∨ (223 ≤ u ∧ u + 3 ≤ 241)) : ∀ (k i : Nat) (c : CS), i + k = (ordL (gb g) (gin g)).length → CRep c g → isT c u ru (bar (gb g)) Q →
    ∃ n c', jf_X11_looseCount_5 ty n (N + 0) (i32 how) (N + u) (i32 (((ordL (gb g) (gin g)).take i).countP (lsP (gb g) how Q) : Nat)) (i32 i) (cst N h0 c) = some (i32 ((ordL (gb g) (gin g)).countP (lsP (gb g) how Q) : Nat), cst N h0 c') ∧ CRep c' g := by
  have hl := ordL_len hg.1 (gin g)
  intro k
  induction k with
  | zero =>
    intro i c h1 hc iQ
    refine ⟨1, c, ?_, hc⟩
    rw [jf_X11_looseCount_5_s]
    simp (disch := omega) only [k_tree C hc.1, k_tn hc, xbs, i32_lit, i32_neg, i32_add, i32_sub, i32_mul, i32_lt, i32_le, i32_eq, if_pos]
    rw [List.take_of_length_le (by omega)]
  | succ k ih =>
    intro i c h1 hc iQ
    obtain ⟨r, hr⟩ := get_some (L := ordL (gb g) (gin g)) (i := i) (by omega)
    obtain ⟨t1, t2, hrr, hin⟩ := k_termAt (h0 := h0) C hg hc hr
    have tr := hc.tm hg hrr
    have hb3 : ((ordL (gb g) (gin g)).take i).countP (lsP (gb g) how Q) ≤ i := Nat.le_trans List.countP_le_length (List.length_take_le _ _)
    have bT3 : ∀ d ∈ bT (gb g) r, d < 1000 := fun d hd => (((hg.1.2.2.2.2 r hrr).1).ar hg.1 d hd).2
    have e6 := k_sub (h0 := h0) C hc.1 (show (0, 6, 220) ∈ lyL by decide) (by omega) (show ct 220 = some (0, 7) by decide)
    obtain ⟨c1, q1, q2, q3⟩ := k_cpA (h0 := h0) C (bar_z (gb g)) hc.1 (t := 220) (by decide) (by decide) (by decide) (hg.lo hrr).2.1 bT3 (by have := tr.2.2.1; omega) tr.1
    have hc1 : CRep c1 g := hc.fr hg q3 (by omega)
    have e6' := k_sub (h0 := h0) C hc1.1 (show (0, 6, 220) ∈ lyL by decide) (by omega) (show ct 220 = some (0, 7) by decide)
    have iQ1 := iQ.fr q3 (by omega)
    obtain ⟨c2, p1, p2⟩ := k_fit (h0 := h0) C hg.1 hc1.1 q2 iQ1 (hg.lo hrr).apart hQ (by omega) (by omega) (show how ≤ 3 by omega)
    have hc2 : CRep c2 g := hc1.fr hg p2 (by omega)
    obtain ⟨n, c', z1, z2⟩ := ih (i + 1) c2 (by omega) hc2 (iQ1.fr p2 (by omega))
    rw [cnt_take hr] at z1
    refine ⟨n + 1, c', ?_, z2⟩
    rw [jf_X11_looseCount_5_s]
    simp (disch := omega) only [k_tree C hc.1, k_tn hc, xbs, i32_lit, i32_neg, i32_add, i32_sub, i32_mul, i32_lt, i32_le, i32_eq, if_neg, e6, k_book C hc.1, k_ruleAt C hg hc hr, k_termOf C hc.1 hc.1.bk tr.2.2.2, kck C tr.1.1, q1, e6', p1, xb2s, bI_eq0]
    rw [show (i : Int) + 1 = ((i + 1 : Nat) : Int) by omega]
    cases w : lsP (gb g) how Q r with
    | false =>
      rw [w] at z1
      rw [if_pos (show fit (bar (gb g)) how (apartK 0 (bT (gb g) r)) Q = false from w)]
      exact z1
    | true =>
      rw [w] at z1
      rw [if_neg (show ¬ fit (bar (gb g)) how (apartK 0 (bT (gb g) r)) Q = false by rw [show fit (bar (gb g)) how (apartK 0 (bT (gb g) r)) Q = true from w]; decide)]
      exact z1
/-- the model's count -/
noncomputable def trP (g : Sg) (what how m i r : Nat) : Bool := (decide (what = 3) || (inR (gin g) r && !(decide (what = 2) && decide (r = i)))) && fit (bar (gb g)) how (rm m (bT (gb g) r)) (qm m (gq g))
theorem r_tr92 (H : MH ty M mm mi h0) (hg : gwf g) (hq : twf (gb g) (gq g)) {what how m i : Nat} (hw : what ≤ 4) (hh : how ≤ 2) (hm : m ≤ 3) (hi : i < 16) : ∀ (k r : Nat) (I : Nat → Int32) (A : Nat → Nat → Int32), r + k = bnr (gb g) → RB I A (gb g) → I 26 = i32 (gin g) → seg (A 27) 0 (gq g) → I 28 = i32 (gq g).length → I 41 = i32 m →
    ∃ n I' A', jf_X12_tried_92 ty n M (i32 what) (i32 how) (i32 i) (i32 ((List.range r).countP (trP g what how m i) : Nat)) (i32 r) (rst mm mi h0 M I A J) = some (i32 ((List.range (bnr (gb g))).countP (trP g what how m i) : Nat), rst mm mi h0 M I' A' J) ∧ (∀ k, k ≠ 33 → k ≠ 41 → I' k = I k) ∧ I' 41 = i32 0 ∧ keepA A A' := by
  have h16 := hg.1.2.2.1
  intro k
  induction k with
  | zero =>
    intro r I A h1 hR h26 hs h28 h41
    refine ⟨1, fu I 41 (i32 0), A, ?_, fun k _ h => fu_ne _ _ h, fu_same _ _ _, keepA.rf⟩
    rw [jf_X12_tried_92_s]
    simp (disch := omega) only [rI, hR.2.2.1, i32_lit, i32_neg, i32_add, i32_sub, i32_mul, i32_lt, i32_le, i32_eq, if_pos, rsI, xbs]
    rw [show r = bnr (gb g) by omega]
  | succ k ih =>
    intro r I A h1 hR h26 hs h28 h41
    have hrr : r < bnr (gb g) := by omega
    have hle := rg_cnt_le (trP g what how m i) r
    obtain ⟨I1, A1, p1, p2, p3⟩ := r_fit (J := J) H hg.1 hR hq hs h28 hm h41 hrr hh
    have hR1 : RB I1 A1 (gb g) := hR.keep (fun k hk => p2 k (fun z => by subst z; revert hk; decide)) p3
    -- the branch that looks
    have hlook : ∀ (n : Nat) (s : Bool), jf_X12_tried_131 ty (jf_X12_tried_92 ty n) M (i32 what) (i32 how) (i32 i) (i32 ((List.range r).countP (trP g what how m i) : Nat)) (i32 r) (bI s) (rst mm mi h0 M I A J) = if s = true then (if fit (bar (gb g)) how (rm m (bT (gb g) r)) (qm m (gq g)) = true then jf_X12_tried_92 ty n M (i32 what) (i32 how) (i32 i) (i32 (((List.range r).countP (trP g what how m i) + 1 : Nat) : Int)) (i32 ((r + 1 : Nat) : Int)) (rst mm mi h0 M I1 A1 J) else jf_X12_tried_92 ty n M (i32 what) (i32 how) (i32 i) (i32 ((List.range r).countP (trP g what how m i) : Nat)) (i32 ((r + 1 : Nat) : Int)) (rst mm mi h0 M I1 A1 J)) else jf_X12_tried_92 ty n M (i32 what) (i32 how) (i32 i) (i32 ((List.range r).countP (trP g what how m i) : Nat)) (i32 ((r + 1 : Nat) : Int)) (rst mm mi h0 M I A J) := by
      intro n s
      unfold jf_X12_tried_131
      simp only [i32_lit, bI_eq0, i32_add, Int.add_zero]
      rw [show (r : Int) + 1 = ((r + 1 : Nat) : Int) by omega, show (((List.range r).countP (trP g what how m i) : Nat) : Int) + 1 = (((List.range r).countP (trP g what how m i) + 1 : Nat) : Int) by omega]
      cases s with
      | false => simp only [if_true, Bool.false_eq_true, if_false]
      | true =>
        simp only [Bool.true_eq_false, if_false, if_true, p1, xb2s, bI_eq0]
        cases fit (bar (gb g)) how (rm m (bT (gb g) r)) (qm m (gq g)) with
        | false => simp only [if_true, Bool.false_eq_true, if_false]
        | true => simp only [if_true, Bool.true_eq_false, if_false]
    have hhead : ∀ n, jf_X12_tried_92 ty (n + 1) M (i32 what) (i32 how) (i32 i) (i32 ((List.range r).countP (trP g what how m i) : Nat)) (i32 r) (rst mm mi h0 M I A J) = jf_X12_tried_131 ty (jf_X12_tried_92 ty n) M (i32 what) (i32 how) (i32 i) (i32 ((List.range r).countP (trP g what how m i) : Nat)) (i32 r) (bI (decide (what = 3) || (inR (gin g) r && !(decide (what = 2) && decide (r = i))))) (rst mm mi h0 M I A J) := by
      intro n
      rw [jf_X12_tried_92_s]
      simp (disch := omega) only [rI, hR.2.2.1, i32_lit, i32_le, i32_eq, if_neg, r_isInNow hg.z h26, xbs, bI_eq0]
      by_cases w1 : what = 3
      · have w1' : (what : Int) = 3 := by omega
        simp only [eq_true w1', if_true]
        rw [decide_eq_true w1]; rfl
      · have w1' : ¬ (what : Int) = 3 := by omega
        simp only [eq_false w1', if_false]
        rw [decide_eq_false w1, Bool.false_or]
        cases hin : inR (gin g) r with
        | false => simp only [if_true]; rfl
        | true =>
          simp only [Bool.true_eq_false, if_false, Bool.true_and]
          by_cases w2 : what = 2
          · have w2' : (what : Int) = 2 := by omega
            simp only [eq_true w2', if_true]
            rw [decide_eq_true w2, Bool.true_and]
            by_cases w3 : r = i
            · have w3' : (r : Int) = (i : Int) := by omega
              simp only [eq_true w3', if_true]
              rw [decide_eq_true w3]; rfl
            · have w3' : ¬ (r : Int) = (i : Int) := by omega
              simp only [eq_false w3', if_false]
              rw [decide_eq_false w3]; rfl
          · have w2' : ¬ (what : Int) = 2 := by omega
            simp only [eq_false w2', if_false]
            rw [decide_eq_false w2]; rfl
    cases hs1 : (decide (what = 3) || (inR (gin g) r && !(decide (what = 2) && decide (r = i)))) with
    | false =>
      obtain ⟨n, I', A', q1, q2, q3, q4⟩ := ih (r + 1) I A (by omega) hR h26 hs h28 h41
      rw [rg_cnt_succ, show trP g what how m i r = false by unfold trP; rw [hs1]; rfl] at q1
      refine ⟨n + 1, I', A', ?_, q2, q3, q4⟩
      rw [hhead, hs1, hlook]
      exact q1
    | true =>
      obtain ⟨n, I', A', q1, q2, q3, q4⟩ := ih (r + 1) I1 A1 (by omega) hR1 (by rw [p2 26 (by decide)]; exact h26) (by rw [p3 27 (by decide)]; exact hs) (by rw [p2 28 (by decide)]; exact h28) (by rw [p2 41 (by decide)]; exact h41)
      refine ⟨n + 1, I', A', ?_, fun k a1 a2 => (q2 k a1 a2).trans (p2 k a1), q3, p3.tr q4⟩
      rw [hhead, hs1, hlook, if_pos rfl]
      cases hf : fit (bar (gb g)) how (rm m (bT (gb g) r)) (qm m (gq g)) with
      | false =>
        rw [rg_cnt_succ, show trP g what how m i r = false by unfold trP; rw [hf, Bool.and_false]] at q1
        simp only [Bool.false_eq_true, if_false]
        exact q1
      | true =>
        rw [rg_cnt_succ, show trP g what how m i r = true by unfold trP; rw [hf, hs1]; rfl] at q1
        simp only [if_true]
        exact q1
end TRIED

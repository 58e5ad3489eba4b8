/-! found -/
section FOUND
variable {ty : xTy} {N M : Nat} {hA hB h0 : xH} {mm mi : Nat → Nat} {c : CS} {I : Nat → Int32} {A : Nat → Nat → Int32} {J : Nat → Int64} {g : Sg} {b : Bk}
/-- the rules found, in the order of paths -/
noncomputable def fdP (b : Bk) (Q : List Nat) (how r : Nat) : Bool := fit (bar b) how (bT b r) Q
noncomputable def fdL (b : Bk) (z : Nat) (Q : List Nat) (how : Nat) : List Nat := (ordL b z).filter (fdP b Q how)
theorem fdL_len (hb : bwf b) (z : Nat) (Q : List Nat) (how : Nat) : (fdL b z Q how).length ≤ 16 := Nat.le_trans (List.length_filter_le _ _) (ordL_len hb z)
theorem take_flt {p : Nat → Bool} {l : List Nat} {i r : Nat} (h : l[i]? = some r) : (l.take (i + 1)).filter p = (l.take i).filter p ++ if p r then [r] else [] := by
  rw [List.take_add_one, h, List.filter_append]
  simp only [Option.toList, List.filter_cons, List.filter_nil]
theorem take_fl {p : Nat → Bool} {l : List Nat} (i : Nat) : ((l.take i).filter p).length ≤ i := Nat.le_trans (List.length_filter_le _ _) (by rw [List.length_take]; exact Nat.min_le_left _ _)
theorem flt_get {p : Nat → Bool} {l : List Nat} {i r : Nat} (h : l[i]? = some r) (hp : p r = true) : (l.filter p)[((l.take i).filter p).length]? = some r := by
  have e : l = l.take i ++ r :: l.drop (i + 1) := by
    rw [← drop_cons h, List.take_append_drop]
  have e2 : l.filter p = (l.take i).filter p ++ r :: (l.drop (i + 1)).filter p := by
    conv => lhs; rw [e]
    rw [List.filter_append, List.filter_cons, if_pos hp]
  rw [e2, List.getElem?_append_right (Nat.le_refl _), Nat.sub_self, List.getElem?_cons_zero]
theorem k_found28 (C : CH ty N) (hg : gwf g) {how : Nat} (hh : how ≤ 2) (hq : twf (gb g) (gq g)) {p : Int} (p1 : 0 ≤ p) (p2 : p < 2147483648) : ∀ (k i : Nat) (c : CS), i + k = (ordL (gb g) (gin g)).length → CRep c g → (((ordL (gb g) (gin g)).take i).filter (fdP (gb g) (gq g) how)).length ≤ p.toNat →
    ∃ n c', jf_X11_found_28 ty n (N + 0) (i32 how) (i32 p) (i32 (((ordL (gb g) (gin g)).take i).filter (fdP (gb g) (gq g) how)).length) (i32 i) (cst N h0 c) = some (oI (fdL (gb g) (gin g) (gq g) how)[p.toNat]? (-2), cst N h0 c') ∧ fr 241 257 c c' := by
  have hl := ordL_len hg.1 (gin g)
  intro k
  induction k with
  | zero =>
    intro i c h1 hc h2
    refine ⟨1, c, ?_, fr.rf⟩
    rw [jf_X11_found_28_s]
    simp (disch := omega) only [k_tree C hc.1, k_tn hc, xbs, i32_lit, i32_neg, i32_add, i32_sub, i32_mul, i32_lt, i32_le, i32_eq, if_pos]
    rw [List.take_of_length_le (by omega)] at h2
    rw [fdL, List.getElem?_eq_none h2]
    rfl
  | succ k ih =>
    intro i c h1 hc h2
    obtain ⟨r, hr⟩ := get_some (L := ordL (gb g) (gin g)) (i := i) (by omega)
    have hfl := take_fl (p := fdP (gb g) (gq g) how) (l := ordL (gb g) (gin g)) i
    obtain ⟨t1, t2, hrr, hin⟩ := k_termAt (h0 := h0) C hg hc hr
    have tr := hc.tm hg hrr
    have hlq := hc.1.as.1
    obtain ⟨c1, q1, q2⟩ := k_fit (h0 := h0) C hg.1 hc.1 tr.1 hc.2.2.1 (hg.lo hrr) (hq.lo hg.1) (by omega) (by omega) (show how ≤ 3 by omega)
    have hc1 := hc.fr hg q2 (by omega)
    have hstep := take_flt (p := fdP (gb g) (gq g) how) hr
    have hhead : ∀ n, jf_X11_found_28 ty (n + 1) (N + 0) (i32 how) (i32 p) (i32 (((ordL (gb g) (gin g)).take i).filter (fdP (gb g) (gq g) how)).length) (i32 i) (cst N h0 c) = if fdP (gb g) (gq g) how r = false then jf_X11_found_28 ty n (N + 0) (i32 how) (i32 p) (i32 (((ordL (gb g) (gin g)).take i).filter (fdP (gb g) (gq g) how)).length) (i32 ((i + 1 : Nat) : Int)) (cst N h0 c1) else if (((((ordL (gb g) (gin g)).take i).filter (fdP (gb g) (gq g) how)).length : Nat) : Int) = p then some (i32 r, cst N h0 c1) else jf_X11_found_28 ty n (N + 0) (i32 how) (i32 p) (i32 (((((ordL (gb g) (gin g)).take i).filter (fdP (gb g) (gq g) how)).length + 1 : Nat) : Int)) (i32 ((i + 1 : Nat) : Int)) (cst N h0 c1) := by
      intro n
      rw [jf_X11_found_28_s]
      simp (disch := omega) only [k_tree C hc.1, k_tn hc, xbs, i32_lit, i32_neg, i32_add, i32_sub, i32_mul, i32_lt, i32_le, i32_eq, if_neg, k_ruleAt C hg hc hr, k_book C hc.1, k_termOf C hc.1 hc.1.bk tr.2.2.2, kck C tr.1.1, k_ask C hc.1, q1, xb2s, bI_eq0]
      rw [show (i : Int) + 1 = ((i + 1 : Nat) : Int) by omega, show (((((ordL (gb g) (gin g)).take i).filter (fdP (gb g) (gq g) how)).length : Nat) : Int) + 1 = (((((ordL (gb g) (gin g)).take i).filter (fdP (gb g) (gq g) how)).length + 1 : Nat) : Int) by omega]
      rfl
    cases hm : fdP (gb g) (gq g) how r with
    | false =>
      rw [hm] at hstep
      simp only [Bool.false_eq_true, if_false, List.append_nil] at hstep
      obtain ⟨n, c', e1, e2⟩ := ih (i + 1) c1 (by omega) hc1 (by rw [hstep]; exact h2)
      refine ⟨n + 1, c', ?_, q2.tr e2⟩
      rw [hhead, if_pos hm, ← e1, hstep]
    | true =>
      rw [hm] at hstep
      simp only [if_true] at hstep
      by_cases w : (((((ordL (gb g) (gin g)).take i).filter (fdP (gb g) (gq g) how)).length : Nat) : Int) = p
      · refine ⟨1, c1, ?_, q2⟩
        rw [hhead 0, if_neg (by rw [hm]; decide), if_pos w, ← w, Int.toNat_natCast, fdL, flt_get hr hm]
        rfl
      · obtain ⟨n, c', e1, e2⟩ := ih (i + 1) c1 (by omega) hc1 (by rw [hstep, List.length_append, List.length_singleton]; omega)
        refine ⟨n + 1, c', ?_, q2.tr e2⟩
        rw [hhead, if_neg (by rw [hm]; decide), if_neg w, ← e1, hstep, List.length_append, List.length_singleton]
/-- the model lays what is found -/
def keepF (I I' : Nat → Int32) (A A' : Nat → Nat → Int32) : Prop := (∀ k, k ≠ 33 → k ≠ 45 → I' k = I k) ∧ ∀ k, k ∉ [32, 34, 35, 36, 37, 38, 40, 44] → A' k = A k
theorem keepF.rf : keepF I I A A := ⟨fun _ _ _ => rfl, fun _ _ => rfl⟩
theorem keepF.tr {I1 I2 I3 : Nat → Int32} {A1 A2 A3 : Nat → Nat → Int32} (h1 : keepF I1 I2 A1 A2) (h2 : keepF I2 I3 A2 A3) : keepF I1 I3 A1 A3 := ⟨fun k a1 a2 => (h2.1 k a1 a2).trans (h1.1 k a1 a2), fun k hk => (h2.2 k hk).trans (h1.2 k hk)⟩
theorem keepF.rr {I' : Nat → Int32} {A' : Nat → Nat → Int32} (h : keepF I I' A A') (hr : RRep I A g) : RRep I' A' g := hr.keep (fun k hk => h.1 k (fun z => by subst z; revert hk; decide) (fun z => by subst z; revert hk; decide)) (fun k hk => h.2 k (fun z => by
  simp only [List.mem_cons, List.not_mem_nil, or_false] at hk z
  omega))
theorem r_lf15 (H : MH ty M mm mi h0) (hg : gwf g) {how p : Nat} (hh : how ≤ 2) (hq : twf (gb g) (gq g)) (hp : p < 16) : ∀ (k i : Nat) (I : Nat → Int32) (A : Nat → Nat → Int32), i + k = bnr (gb g) → RRep I A g →
    ((∀ r, r < i → (ordL (gb g) (gin g))[p]? ≠ some r) ∧ I 45 = i32 (((ordL (gb g) (gin g)).take p).filter (fdP (gb g) (gq g) how)).length ∧ seg (A 44) 0 (((ordL (gb g) (gin g)).take p).filter (fdP (gb g) (gq g) how)) ∨ (∃ r, r < i ∧ (ordL (gb g) (gin g))[p]? = some r) ∧ I 45 = i32 (((ordL (gb g) (gin g)).take (p + 1)).filter (fdP (gb g) (gq g) how)).length ∧ seg (A 44) 0 (((ordL (gb g) (gin g)).take (p + 1)).filter (fdP (gb g) (gq g) how))) →
    ∃ n I' A', (∀ k7 : Nat → Int32 → Int32 → xH → Option xH, jf_X12_layFound_15 ty k7 n M (i32 how) (i32 p) (i32 i) (rst mm mi h0 M I A J) = k7 M (i32 how) (i32 ((p + 1 : Nat) : Int)) (rst mm mi h0 M I' A' J)) ∧ keepF I I' A A' ∧ I' 45 = i32 (((ordL (gb g) (gin g)).take (p + 1)).filter (fdP (gb g) (gq g) how)).length ∧ seg (A' 44) 0 (((ordL (gb g) (gin g)).take (p + 1)).filter (fdP (gb g) (gq g) how)) := by
  have h16 := hg.1.2.2.1
  intro k
  induction k with
  | zero =>
    intro i I A h1 hR hst
    refine ⟨1, I, A, fun k7 => ?_, keepF.rf, ?_⟩
    · rw [jf_X12_layFound_15_s]
      simp (disch := omega) only [rI, hR.1.2.2.1, i32_lit, i32_neg, i32_add, i32_sub, i32_mul, i32_lt, i32_le, i32_eq, if_pos]
      rw [show (p : Int) + 1 = ((p + 1 : Nat) : Int) by omega]
    · rcases hst with ⟨s1, s2, s3⟩ | ⟨-, s⟩
      · have hn : (ordL (gb g) (gin g))[p]? = none := by
          cases hx : (ordL (gb g) (gin g))[p]? with
          | none => rfl
          | some r => exact absurd hx (s1 r (by have := (ordL_mem.mp (List.mem_of_getElem? hx)).1; omega))
        rw [List.take_add_one, hn]
        simp only [Option.toList, List.append_nil]
        exact ⟨s2, s3⟩
      · exact s
  | succ k ih =>
    intro i I A h1 hR hst
    have hi : i < bnr (gb g) := by omega
    have hpl := plP_le (b := gb g) (gin g) i (bnr (gb g))
    have hhead : ∀ n (k7 : Nat → Int32 → Int32 → xH → Option xH), jf_X12_layFound_15 ty k7 (n + 1) M (i32 how) (i32 p) (i32 i) (rst mm mi h0 M I A J) = if inR (gin g) i = false then jf_X12_layFound_15 ty k7 n M (i32 how) (i32 p) (i32 ((i + 1 : Nat) : Int)) (rst mm mi h0 M I A J) else if ((plP (gb g) (gin g) i (bnr (gb g)) : Nat) : Int) = (p : Int) then xb2 (jf_X12_isFit ty (rst mm mi h0 M I A J) M (i32 how) (i32 i)) fun a7 h6 => if a7 = i32 0 then jf_X12_layFound_15 ty k7 n M (i32 how) (i32 p) (i32 ((i + 1 : Nat) : Int)) h6 else (xR h6 M 44).bind fun a9 => (xwa 1 ty h6 a9 (xI h6 M 45) (i32 i)).bind fun h10 => (some (xsI h10 M 45 ((xI h10 M 45) + i32 1))).bind fun h11 => jf_X12_layFound_15 ty k7 n M (i32 how) (i32 p) (i32 ((i + 1 : Nat) : Int)) h11 else jf_X12_layFound_15 ty k7 n M (i32 how) (i32 p) (i32 ((i + 1 : Nat) : Int)) (rst mm mi h0 M I A J) := by
      intro n k7
      rw [jf_X12_layFound_15_s]
      simp (disch := omega) only [rI, hR.1.2.2.1, r_isInNow hg.z hR.2.1, r_place H hg.1 hR.1 hg.z hR.2.1 hi, xbs, bI_eq0, i32_lit, i32_le, if_neg]
      rw [i32_add, show (i : Int) + 1 = ((i + 1 : Nat) : Int) by omega]
      simp (disch := omega) only [i32_eq]
      by_cases w : ((plP (gb g) (gin g) i (bnr (gb g)) : Nat) : Int) = (p : Int)
      · simp only [eq_true w, if_true]
        cases inR (gin g) i <;> rfl
      · simp only [eq_false w, if_false]
    by_cases hat : (ordL (gb g) (gin g))[p]? = some i
    · obtain ⟨-, hin⟩ := ordL_mem.mp (List.mem_of_getElem? hat)
      have hpi := (plP_idx hg.1 hi hin).mpr hat
      obtain ⟨I1, A1, p1, p2, p3⟩ := r_fitW (J := J) (m := 0) H hg.1 hR.1 hq hR.2.2.1.1 hR.2.2.1.2.1 (by omega) hR.2.2.1.2.2 hi hh
      have hst' : I 45 = i32 (((ordL (gb g) (gin g)).take p).filter (fdP (gb g) (gq g) how)).length ∧ seg (A 44) 0 (((ordL (gb g) (gin g)).take p).filter (fdP (gb g) (gq g) how)) := by
        rcases hst with ⟨-, s⟩ | ⟨⟨r, hr, hr2⟩, -⟩
        · exact s
        · rw [hat] at hr2
          have := Option.some.inj hr2
          omega
      have kF : keepF I I1 A A1 := ⟨fun k a1 _ => p2 k a1, fun k hk => p3 k (fun z => hk (by
        simp only [List.mem_cons, List.not_mem_nil, or_false] at z ⊢
        omega))⟩
      have hR1 := kF.rr hR
      have h45 : I1 45 = i32 (((ordL (gb g) (gin g)).take p).filter (fdP (gb g) (gq g) how)).length := by rw [p2 45 (by decide)]; exact hst'.1
      have h44 : seg (A1 44) 0 (((ordL (gb g) (gin g)).take p).filter (fdP (gb g) (gq g) how)) := by rw [p3 44 (by decide)]; exact hst'.2
      have hfl := take_fl (p := fdP (gb g) (gq g) how) (l := ordL (gb g) (gin g)) p
      have hstep := take_flt (p := fdP (gb g) (gq g) how) hat
      cases hm : fdP (gb g) (gq g) how i with
      | false =>
        rw [hm] at hstep
        simp only [Bool.false_eq_true, if_false, List.append_nil] at hstep
        obtain ⟨n, I', A', q1, q2, q3⟩ := ih (i + 1) I1 A1 (by omega) hR1 (Or.inr ⟨⟨i, by omega, hat⟩, by rw [hstep]; exact h45, by rw [hstep]; exact h44⟩)
        refine ⟨n + 1, I', A', fun k7 => ?_, kF.tr q2, q3⟩
        rw [hhead, if_neg (by rw [hin]; decide), if_pos (by omega), p1, xb2s, if_pos (show bI (fit (bar (gb g)) how (rm 0 (bT (gb g) i)) (qm 0 (gq g))) = i32 0 by rw [show fit (bar (gb g)) how (rm 0 (bT (gb g) i)) (qm 0 (gq g)) = false from hm]; rfl), q1]
      | true =>
        rw [hm] at hstep
        simp only [if_true] at hstep
        obtain ⟨I2, hI2⟩ : ∃ I2, I2 = fu I1 45 (i32 ((((ordL (gb g) (gin g)).take p).filter (fdP (gb g) (gq g) how)).length + 1 : Nat)) := ⟨_, rfl⟩
        obtain ⟨A2, hA2⟩ : ∃ A2, A2 = fu2 A1 44 (((ordL (gb g) (gin g)).take p).filter (fdP (gb g) (gq g) how)).length (i32 i) := ⟨_, rfl⟩
        have kF2 : keepF I1 I2 A1 A2 := ⟨fun k _ a2 => by rw [hI2, fu_ne _ _ a2], fun k hk => by rw [hA2]; exact fu2_row _ _ (fun z => hk (by rw [z]; decide))⟩
        obtain ⟨n, I', A', q1, q2, q3⟩ := ih (i + 1) I2 A2 (by omega) (kF2.rr hR1) (Or.inr ⟨⟨i, by omega, hat⟩, by rw [hstep, hI2, fu_same, List.length_append, List.length_singleton], by
          rw [hstep, hA2]
          exact seg_snoc (seg_fu2 h44 (by omega)) (by rw [Nat.zero_add, fu2_same])⟩)
        refine ⟨n + 1, I', A', fun k7 => ?_, (kF.tr kF2).tr q2, q3⟩
        rw [hhead, if_neg (by rw [hin]; decide), if_pos (by omega), p1, xb2s, if_neg (show ¬ bI (fit (bar (gb g)) how (rm 0 (bT (gb g) i)) (qm 0 (gq g))) = i32 0 by rw [show fit (bar (gb g)) how (rm 0 (bT (gb g) i)) (qm 0 (gq g)) = true from hm]; decide), ← q1 k7]
        simp (disch := omega) only [rr_44 H, xbs, rI, h45, wa_44 H, Int.toNat_natCast, rsI, i32_lit, i32_neg, i32_add, i32_sub, i32_mul, i32_lt, i32_le, i32_eq]
        rw [← hA2, show (((((ordL (gb g) (gin g)).take p).filter (fdP (gb g) (gq g) how)).length : Nat) : Int) + 1 = (((((ordL (gb g) (gin g)).take p).filter (fdP (gb g) (gq g) how)).length + 1 : Nat) : Int) by omega, ← hI2]
    · obtain ⟨n, I', A', q1, q2, q3⟩ := ih (i + 1) I A (by omega) hR (by
        rcases hst with ⟨s1, s2⟩ | ⟨⟨r, hr, hr2⟩, s2⟩
        · refine Or.inl ⟨fun r hr hx => ?_, s2⟩
          rcases Nat.lt_or_ge r i with h | h
          · exact s1 r h hx
          · rw [show r = i by omega] at hx; exact hat hx
        · exact Or.inr ⟨⟨r, by omega, hr2⟩, s2⟩)
      refine ⟨n + 1, I', A', fun k7 => ?_, q2, q3⟩
      rw [hhead]
      cases hin : inR (gin g) i with
      | false => rw [if_pos rfl, q1]
      | true =>
        rw [if_neg (by decide), if_neg (fun e => hat ((plP_idx hg.1 hi hin).mp (by omega))), q1]
theorem r_lf7 (H : MH ty M mm mi h0) (hg : gwf g) {how : Nat} (hh : how ≤ 2) (hq : twf (gb g) (gq g)) : ∀ (k p : Nat) (I : Nat → Int32) (A : Nat → Nat → Int32), p + k = 16 → RRep I A g →
    I 45 = i32 (((ordL (gb g) (gin g)).take p).filter (fdP (gb g) (gq g) how)).length → seg (A 44) 0 (((ordL (gb g) (gin g)).take p).filter (fdP (gb g) (gq g) how)) →
    ∃ n I' A', jf_X12_layFound_7 ty n M (i32 how) (i32 p) (rst mm mi h0 M I A J) = some (rst mm mi h0 M I' A' J) ∧ keepF I I' A A' ∧ I' 45 = i32 (fdL (gb g) (gin g) (gq g) how).length ∧ seg (A' 44) 0 (fdL (gb g) (gin g) (gq g) how) := by
  have hl := ordL_len hg.1 (gin g)
  intro k
  induction k with
  | zero =>
    intro p I A h1 hR s1 s2
    refine ⟨1, I, A, ?_, keepF.rf, ?_⟩
    · rw [jf_X12_layFound_7_s]
      simp (disch := omega) only [i32_lit, i32_neg, i32_add, i32_sub, i32_mul, i32_lt, i32_le, i32_eq, if_pos]
    · rw [List.take_of_length_le (by omega)] at s1 s2
      exact ⟨s1, s2⟩
  | succ k ih =>
    intro p I A h1 hR s1 s2
    obtain ⟨n1, I1, A1, q1, q2, q3, q4⟩ := r_lf15 (J := J) H hg hh hq (show p < 16 by omega) (bnr (gb g)) 0 I A (by omega) hR (Or.inl ⟨fun r hr => by omega, s1, s2⟩)
    obtain ⟨n, I', A', p1, p2, p3⟩ := ih (p + 1) I1 A1 (by omega) (q2.rr hR) q3 q4
    refine ⟨n + 1, I', A', ?_, q2.tr p2, p3⟩
    rw [jf_X12_layFound_7_s]
    simp (disch := omega) only [i32_lit, i32_neg, i32_add, i32_sub, i32_mul, i32_lt, i32_le, i32_eq, if_neg]
    exact jf_X12_layFound_15_l ((q1 _).trans p1)
theorem r_lf (H : MH ty M mm mi h0) (hg : gwf g) {how : Nat} (hh : how ≤ 2) (hq : twf (gb g) (gq g)) (hR : RRep I A g) :
    ∃ I' A', jf_X12_layFound ty (rst mm mi h0 M I A J) M (i32 how) = some (rst mm mi h0 M I' A' J) ∧ keepF I I' A A' ∧ I' 45 = i32 (fdL (gb g) (gin g) (gq g) how).length ∧ seg (A' 44) 0 (fdL (gb g) (gin g) (gq g) how) := by
  have kF : keepF I (fu I 45 (i32 0)) A A := ⟨fun k _ a => fu_ne _ _ a, fun _ _ => rfl⟩
  obtain ⟨n, I', A', p1, p2, p3⟩ := r_lf7 (J := J) H hg hh hq 16 0 (fu I 45 (i32 0)) A (by omega) (kF.rr hR) (fu_same _ _ _) (seg_nil _ _)
  refine ⟨I', A', ?_, kF.tr p2, p3⟩
  unfold jf_X12_layFound
  simp only [rsI, xbs, i32_lit]
  exact jf_X12_layFound_7_l p1
theorem op_found (C : CH ty N) (H : MH ty M mm mi hB) (hg : gwf g) (hc : CRep c g) (hr : RRep I A g) {how k : Int} (a1 : -2147483648 ≤ how) (a2 : how < 2147483648) (f1 : -2147483648 ≤ k) (f2 : k < 2147483648) :
    OP N hA mm mi hB M J g (jf_X11_found ty (cst N hA c) (N + 0) (i32 how) (i32 k)) (jf_X12_found ty (rst mm mi hB M I A J) M (i32 how) (i32 k)) := by
  have h16 := hg.1.2.2.1
  have hql := gq_l hg
  have I2 : ∀ k, k ≠ 33 → k ≠ 2 → k ≠ 39 → fu I 2 (i32 0) k = I k := fun k _ h _ => fu_ne _ _ h
  have hr2 : RRep (fu I 2 (i32 0)) A g := hr.ks I2 keepA.rf
  unfold jf_X11_found jf_X12_found
  simp (disch := omega) only [rsI, xbs, isWay_i a1 a2, i32_lit, i32_neg, i32_lt, i32_eq, isIn_i a1 a2 (show (-2147483648 : Int) ≤ 0 by omega) (by omega) (show (-2147483648 : Int) ≤ 2 by omega) (by omega), bI_eq0, rI, hr2.2.2.1.2.1, k_ask C hc.1, k_askn hc]
  cases hw : (decide (0 ≤ how) && decide (how ≤ 2)) with
  | false =>
    simp only [if_true]
    exact OP.ret hc hr _ _ I2 (fu_same _ _ _) rfl rfl
  | true =>
  obtain ⟨w1, w2⟩ := Bool.and_eq_true_iff.mp hw
  have w1 := of_decide_eq_true w1
  have w2 := of_decide_eq_true w2
  obtain ⟨how, rfl⟩ : ∃ n : Nat, how = n := ⟨how.toNat, by omega⟩
  simp only [Bool.true_eq_false, if_false]
  by_cases w4 : k < 0
  · simp only [eq_true w4, if_true]
    exact OP.ret hc hr _ _ I2 (fu_same _ _ _) rfl rfl
  simp only [eq_false w4, if_false]
  by_cases w3 : ((gq g).length : Int) = 0
  · simp only [eq_true w3, if_true]
    exact OP.ret hc hr _ _ I2 (fu_same _ _ _) rfl rfl
  simp only [eq_false w3, if_false]
  have hq : twf (gb g) (gq g) := by
    rcases hg.2.1 with h | h
    · rw [h] at w3; exact absurd rfl w3
    · exact h
  obtain ⟨n, c', e1, e2⟩ := k_found28 (h0 := hA) C hg (show how ≤ 2 by omega) hq (show 0 ≤ k by omega) f2 (ordL (gb g) (gin g)).length 0 c (by omega) hc (by simp)
  obtain ⟨I', A', p1, p2, p3, p4⟩ := r_lf (J := J) H hg (show how ≤ 2 by omega) hq hr2
  have hfl := fdL_len hg.1 (gin g) (gq g) how
  refine ⟨oI (fdL (gb g) (gin g) (gq g) how)[k.toNat]? (-2), c', I', A', jf_X11_found_28_l e1, hc.fr hg e2 (by omega), ?_, p2.rr hr2, ?_⟩
  · simp (disch := omega) only [p1, xbs, rI, p3, i32_le]
    by_cases w5 : ((fdL (gb g) (gin g) (gq g) how).length : Int) ≤ k
    · simp only [eq_true w5, if_true]
      rw [List.getElem?_eq_none (by omega)]; rfl
    · simp only [eq_false w5, if_false]
      obtain ⟨d, hd⟩ := get_some (L := fdL (gb g) (gin g) (gq g) how) (i := k.toNat) (by omega)
      have hs := seg_get p4 hd
      rw [Nat.zero_add] at hs
      simp (disch := omega) only [rr_44 H, ga_44 H, xbs, hs, hd]
      rfl
  · rw [p2.1 2 (by decide) (by decide), fu_same]
end FOUND

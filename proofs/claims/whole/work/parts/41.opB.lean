/-! fits, above, beside -/
section OPB
variable {ty : xTy} {N M : Nat} {hA hB : xH} {mm mi : Nat → Nat} {c : CS} {I : Nat → Int32} {A : Nat → Nat → Int32} {J : Nat → Int64} {g : Sg}
theorem gwf.z (hg : gwf g) : gin g < 65536 := Nat.lt_of_lt_of_le hg.2.2.1 (pow16 hg.1.2.2.1)
theorem RRep.ks {I' : Nat → Int32} {A' : Nat → Nat → Int32} (h : RRep I A g) (h1 : ∀ k, k ≠ 33 → k ≠ 2 → k ≠ 39 → I' k = I k) (h2 : keepA A A') : RRep I' A' g := h.keep (fun k hk => h1 k (fun z => by subst z; revert hk; decide) (fun z => by subst z; revert hk; decide) (fun z => by subst z; revert hk; decide)) h2
theorem OP.ret (hc : CRep c g) (hr : RRep I A g) (v : Int32) (I' : Nat → Int32) (hI : ∀ k, k ≠ 33 → k ≠ 2 → k ≠ 39 → I' k = I k) (h2 : I' 2 = i32 0) {X Y : Option (Int32 × xH)} (hX : X = some (v, cst N hA c)) (hY : Y = some (v, rst mm mi hB M I' A J)) : OP N hA mm mi hB M J g X Y := ⟨v, c, I', A, hX, hc, hY, hr.ks hI keepA.rf, h2⟩
theorem k_askn (hc : CRep c g) : xI (cst N hA c) (N + cR c 0 4) 2 = i32 (gq g).length := by
  rw [kI (by have := hc.1.as.1; omega)]
  exact hc.2.2.1.2.2.2.2.2.2.2.1
theorem gq_l (hg : gwf g) : (gq g).length ≤ 12 := by
  rcases hg.2.1 with h | h
  · rw [h]; simp
  · exact h.2.1
theorem isR_r {b : Bk} {z : Int} (h : isR b z = true) : ∃ r : Nat, z = r ∧ r < bnr b := by
  unfold isR at h
  simp only [Bool.and_eq_true, decide_eq_true_eq] at h
  exact ⟨z.toNat, by omega, by omega⟩
theorem r_fit0 (H : MH ty M mm mi hB) (hg : gwf g) (hr : RRep I A g) (hq : twf (gb g) (gq g)) {r : Nat} (hrr : r < bnr (gb g)) {how : Nat} (hh : how ≤ 2) :
    ∃ I' A', jf_X12_isFit ty (rst mm mi hB M I A J) M (i32 how) (i32 r) = some (bI (fit (bar (gb g)) how (bT (gb g) r) (gq g)), rst mm mi hB M I' A' J) ∧ (∀ k, k ≠ 33 → I' k = I k) ∧ keepA A A' :=
  r_fit (m := 0) H hg.1 hr.1 hq hr.2.2.1.1 hr.2.2.1.2.1 (by omega) hr.2.2.1.2.2 hrr hh
theorem op_fits (C : CH ty N) (H : MH ty M mm mi hB) (hg : gwf g) (hc : CRep c g) (hr : RRep I A g) {how r : Int} (a1 : -2147483648 ≤ how) (a2 : how < 2147483648) (b1 : -2147483648 ≤ r) (b2 : r < 2147483648) :
    OP N hA mm mi hB M J g (jf_X11_fits ty (cst N hA c) (N + 0) (i32 how) (i32 r)) (jf_X12_fits ty (rst mm mi hB M I A J) M (i32 how) (i32 r)) := by
  have h16 := hg.1.2.2.1
  have hql := gq_l hg
  have I2 : ∀ k, k ≠ 33 → k ≠ 2 → k ≠ 39 → fu I 2 (i32 0) k = I k := fun k _ h _ => fu_ne _ _ h
  have hr2 : RRep (fu I 2 (i32 0)) A g := hr.ks I2 keepA.rf
  unfold jf_X11_fits jf_X12_fits
  simp (disch := omega) only [i32_lit, i32_neg, i32_add, i32_sub, i32_mul, i32_lt, i32_le, i32_eq, rsI, xbs, isIn_i, bI_eq0, k_book C hc.1, k_hasRule hg.1 hc.1.bk hc.2.1 b1 b2, r_isRule hg.1 hr2.1.2.2.1 b1 b2, k_ask C hc.1, k_askn hc, rI, hr2.2.2.1.2.1]
  by_cases w1 : how < 0
  · have e : (decide (0 ≤ how) && decide (how ≤ 3)) = false := by rw [decide_eq_false (by omega)]; rfl
    simp only [if_pos w1, e, if_true]
    exact OP.ret hc hr _ _ I2 (fu_same _ _ _) rfl rfl
  by_cases w2 : 3 < how
  · have e : (decide (0 ≤ how) && decide (how ≤ 3)) = false := by rw [decide_eq_false (show ¬ how ≤ 3 by omega), Bool.and_false]
    simp only [if_neg w1, if_pos w2, e, if_true]
    exact OP.ret hc hr _ _ I2 (fu_same _ _ _) rfl rfl
  have e : (decide (0 ≤ how) && decide (how ≤ 3)) = true := by rw [decide_eq_true (show 0 ≤ how by omega), decide_eq_true (show how ≤ 3 by omega)]; rfl
  simp only [if_neg w1, if_neg w2, e, Bool.true_eq_false, if_false]
  cases hR : isR (gb g) r with
  | false =>
    simp only [if_true]
    exact OP.ret hc hr _ _ I2 (fu_same _ _ _) rfl rfl
  | true =>
  obtain ⟨r, rfl, hrr⟩ := isR_r hR
  obtain ⟨how, rfl⟩ : ∃ n : Nat, how = n := ⟨how.toNat, by omega⟩
  simp only [Bool.true_eq_false, if_false]
  by_cases w3 : ((gq g).length : Int) = 0
  · simp only [if_pos w3]
    exact OP.ret hc hr _ _ I2 (fu_same _ _ _) rfl rfl
  simp only [if_neg w3]
  have hq : twf (gb g) (gq g) := by
    rcases hg.2.1 with h | h
    · exact absurd (by rw [h]; rfl) w3
    · exact h
  simp (disch := omega) only [k_sub C hc.1 (show (0, 9, 232) ∈ lyL by decide) (by omega) (show ct 232 = some (0, 6) by decide), xbs, k_isIn hg.z hc.2.2.2.1 (show r < 16 by omega), r_isInNow hg.z hr2.2.1 (show r < 32 by omega), bI_eq0]
  cases hin : inR (gin g) r with
  | false =>
    simp only [if_true]
    exact OP.ret hc hr _ _ I2 (fu_same _ _ _) rfl rfl
  | true =>
  obtain ⟨t1, -, t3, t4⟩ := hc.tm hg hrr
  simp (disch := omega) only [Bool.true_eq_false, if_false, k_termOf C hc.1 hc.1.bk, xbs, kck C t1.1]
  obtain ⟨c', q1, q2⟩ := k_fit (h0 := hA) C hg.1 hc.1 t1 hc.2.2.1 (hg.lo hrr) (hq.lo hg.1) (by omega) (by have := hc.1.as.1; omega) (how := how) (by omega)
  rw [q1]
  simp only [xb2s, bI_eq0]
  have hc' := hc.fr hg q2 (by omega)
  have hret : ∀ (v : Bool), (if v = false then some (i32 0, cst N hA c') else some (i32 1, cst N hA c')) = some (bI v, cst N hA c') := fun v => by cases v <;> rfl
  have hret2 : ∀ (v : Bool) (I' : Nat → Int32) (A' : Nat → Nat → Int32), jf_X12_fits_79 ty (bI v) (rst mm mi hB M I' A' J) = some (bI v, rst mm mi hB M I' A' J) := fun v I' A' => by
    unfold jf_X12_fits_79
    cases v <;> rfl
  rw [hret]
  by_cases w4 : (3 : Int) ≤ (how : Int)
  · obtain rfl : how = 3 := by omega
    simp only [if_pos w4]
    obtain ⟨I3, A3, p1, p2, p3⟩ := r_fit0 (I := fu I 2 (i32 0)) (A := A) (J := J) (how := 0) H hg hr2 hq hrr (by omega)
    have p1' := p1
    rw [show i32 ((0 : Nat) : Int) = i32 0 from rfl] at p1'
    simp only [p1', xb2s, bI_eq0]
    have hr3 : RRep I3 A3 g := hr2.ks (fun k h _ _ => p2 k h) p3
    have i3 : I3 2 = i32 0 := by rw [p2 2 (by decide), fu_same]
    have hf : fit (bar (gb g)) 3 (bT (gb g) r) (gq g) = (fit (bar (gb g)) 0 (bT (gb g) r) (gq g) && fit (bar (gb g)) 1 (bT (gb g) r) (gq g)) := rfl
    rw [hf]
    cases hf0 : fit (bar (gb g)) 0 (bT (gb g) r) (gq g) with
    | false =>
      simp only [if_true, Bool.false_and]
      exact ⟨_, c', I3, A3, rfl, hc', hret2 false I3 A3, hr3, i3⟩
    | true =>
      simp only [Bool.true_eq_false, if_false, Bool.true_and]
      obtain ⟨I4, A4, s1, s2, s3⟩ := r_fit0 (I := I3) (A := A3) (J := J) (how := 1) H hg hr3 hq hrr (by omega)
      have s1' := s1
      rw [show i32 ((1 : Nat) : Int) = i32 1 from rfl] at s1'
      simp only [s1', xb2s, bI_eq0]
      have i4 : I4 2 = i32 0 := by rw [s2 2 (by decide), i3]
      refine ⟨_, c', I4, A4, rfl, hc', ?_, hr3.ks (fun k h _ _ => s2 k h) s3, i4⟩
      cases fit (bar (gb g)) 1 (bT (gb g) r) (gq g)
      · exact hret2 false I4 A4
      · exact hret2 true I4 A4
  · simp only [if_neg w4]
    obtain ⟨I3, A3, p1, p2, p3⟩ := r_fit0 (I := fu I 2 (i32 0)) (A := A) (J := J) (how := how) H hg hr2 hq hrr (by omega)
    rw [p1]
    simp only [xb2s]
    exact ⟨_, c', I3, A3, rfl, hc', hret2 _ I3 A3, hr2.ks (fun k h _ _ => p2 k h) p3, by rw [p2 2 (by decide), fu_same]⟩
theorem op_above (C : CH ty N) (H : MH ty M mm mi hB) (hg : gwf g) (hc : CRep c g) (hr : RRep I A g) {r : Int} (b1 : -2147483648 ≤ r) (b2 : r < 2147483648) :
    OP N hA mm mi hB M J g (jf_X11_above ty (cst N hA c) (N + 0) (i32 r)) (jf_X12_above ty (rst mm mi hB M I A J) M (i32 r)) := by
  have I2 : ∀ k, k ≠ 33 → k ≠ 2 → k ≠ 39 → fu I 2 (i32 0) k = I k := fun k _ h _ => fu_ne _ _ h
  have hr2 : RRep (fu I 2 (i32 0)) A g := hr.ks I2 keepA.rf
  unfold jf_X11_above jf_X12_above
  simp (disch := omega) only [i32_lit, i32_neg, i32_add, i32_sub, i32_mul, i32_lt, i32_le, i32_eq, rsI, xbs, bI_eq0, k_book C hc.1, k_hasRule hg.1 hc.1.bk hc.2.1 b1 b2, r_isRule hg.1 hr2.1.2.2.1 b1 b2]
  cases hR : isR (gb g) r with
  | false =>
    simp only [if_true]
    exact OP.ret hc hr _ _ I2 (fu_same _ _ _) rfl rfl
  | true =>
  obtain ⟨r, rfl, hrr⟩ := isR_r hR
  simp only [Bool.true_eq_false, if_false]
  obtain ⟨c', q1, q2⟩ := k_ab (h0 := hA) C hg hc hrr
  obtain ⟨I3, A3, p1, p2, p3⟩ := r_ab (I := fu I 2 (i32 0)) (A := A) (J := J) H hg.1 hr2.1 hrr
  rw [q1, p1]
  exact ⟨_, c', I3, A3, rfl, hc.fr hg q2 (by omega), rfl, hr2.ks (fun k h _ _ => p2 k h) p3, by rw [p2 2 (by decide), fu_same]⟩
end OPB

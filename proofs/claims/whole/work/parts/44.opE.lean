/-! tops, beside: both -/
section OPE
variable {ty : xTy} {N M : Nat} {hA hB h0 : xH} {mm mi : Nat → Nat} {c : CS} {I : Nat → Int32} {A : Nat → Nat → Int32} {J : Nat → Int64} {g : Sg}
theorem op_tops (C : CH ty N) (H : MH ty M mm mi hB) (hg : gwf g) (hc : CRep c g) (hr : RRep I A g) :
    OP N hA mm mi hB M J g (jf_X11_tops ty (cst N hA c) (N + 0)) (jf_X12_tops ty (rst mm mi hB M I A J) M) := by
  have I2 : ∀ k, k ≠ 33 → k ≠ 2 → k ≠ 39 → fu I 2 (i32 0) k = I k := fun k _ h _ => fu_ne _ _ h
  have hr2 : RRep (fu I 2 (i32 0)) A g := hr.ks I2 keepA.rf
  obtain ⟨n, c', q1, q2⟩ := k_tops4 (h0 := hA) C hg (bnr (gb g)) 0 c (by omega) hc
  obtain ⟨n', I', A', p1, p2, p3⟩ := r_tops12 (J := J) H hg (bnr (gb g)) 0 (gin g) _ _ (by omega) hr2 ⟨hg.z, fun i => by
    show inR (gin g) i = _
    rw [if_neg (by omega)]
    split
    · simp [tpN]
    · simp⟩
  refine ⟨_, c', I', A', jf_X11_tops_4_l q1, hc.fr hg q2 (by omega), ?_, hr2.ks (fun k h _ _ => p2 k h) p3, by rw [p2 2 (by decide), fu_same]⟩
  unfold jf_X12_tops
  simp only [rsI, xbs, i32_lit, i32_neg, i32_add, i32_sub, i32_mul, i32_lt, i32_le, i32_eq, rI, hr2.2.1]
  exact jf_X12_tops_12_l p1
theorem op_beside (C : CH ty N) (H : MH ty M mm mi hB) (hg : gwf g) (hc : CRep c g) (hr : RRep I A g) {r s w : Int} (b1 : -2147483648 ≤ r) (b2 : r < 2147483648) (d1 : -2147483648 ≤ s) (d2 : s < 2147483648) (e1 : -2147483648 ≤ w) (e2 : w < 2147483648) :
    OP N hA mm mi hB M J g (jf_X11_beside ty (cst N hA c) (N + 0) (i32 r) (i32 s) (i32 w)) (jf_X12_beside ty (rst mm mi hB M I A J) M (i32 r) (i32 s) (i32 w)) := by
  have h16 := hg.1.2.2.1
  have I2 : ∀ k, k ≠ 33 → k ≠ 2 → k ≠ 39 → fu I 2 (i32 0) k = I k := fun k _ h _ => fu_ne _ _ h
  have hr2 : RRep (fu I 2 (i32 0)) A g := hr.ks I2 keepA.rf
  unfold jf_X11_beside jf_X12_beside
  simp (disch := omega) only [i32_lit, i32_neg, i32_add, i32_sub, i32_mul, i32_lt, i32_le, i32_eq, rsI, xbs, isIn_i, bI_eq0, k_book C hc.1, k_hasRule hg.1 hc.1.bk hc.2.1 b1 b2, k_hasRule hg.1 hc.1.bk hc.2.1 d1 d2, r_isRule hg.1 hr2.1.2.2.1 b1 b2, r_isRule hg.1 hr2.1.2.2.1 d1 d2]
  cases hR : isR (gb g) r with
  | false =>
    simp only [if_true]
    exact OP.ret hc hr _ _ I2 (fu_same _ _ _) rfl rfl
  | true =>
  cases hS : isR (gb g) s with
  | false =>
    simp only [Bool.true_eq_false, if_false, if_true]
    exact OP.ret hc hr _ _ I2 (fu_same _ _ _) rfl rfl
  | true =>
  obtain ⟨r, rfl, hrr⟩ := isR_r hR
  obtain ⟨s, rfl, hss⟩ := isR_r hS
  simp only [Bool.true_eq_false, if_false]
  by_cases w1 : w < 0
  · have e : (decide (0 ≤ w) && decide (w ≤ 1)) = false := by rw [decide_eq_false (by omega)]; rfl
    simp only [if_pos w1, e, if_true]
    exact OP.ret hc hr _ _ I2 (fu_same _ _ _) rfl rfl
  by_cases w2 : w ≤ 1
  · have e : (decide (0 ≤ w) && decide (w ≤ 1)) = true := by rw [decide_eq_true (show 0 ≤ w by omega), decide_eq_true w2]; rfl
    simp only [if_neg w1, if_pos w2, e, Bool.true_eq_false, if_false]
    have tr := (hc.tm hg hrr)
    have ts := (hc.tm hg hss)
    have hbe : ∀ how : Nat, how ≤ 3 → ∃ c', jf_X11_beside_42 ty (N + 0) (i32 r) (i32 s) (i32 how) (cst N hA c) = some (bI (fit (bar (gb g)) how (bT (gb g) r) (bT (gb g) s)), cst N hA c') ∧ CRep c' g := by
      intro how hh
      obtain ⟨c', q1, q2⟩ := k_fit (h0 := hA) C hg.1 hc.1 tr.1 ts.1 (hg.lo hrr) (hg.lo hss) (by omega) (by omega) hh
      refine ⟨c', ?_, hc.fr hg q2 (by omega)⟩
      unfold jf_X11_beside_42
      simp (disch := omega) only [k_book C hc.1, xbs, k_termOf C hc.1 hc.1.bk, kck C tr.1.1, kck C ts.1.1, q1, xb2s, bI_eq0]
      cases fit (bar (gb g)) how (bT (gb g) r) (bT (gb g) s) <;> rfl
    by_cases w3 : w = 0
    · simp only [if_pos w3]
      obtain ⟨c', q1, q2⟩ := hbe 3 (by omega)
      obtain ⟨I3, A3, p1, p2, p3⟩ := r_above1 (I := fu I 2 (i32 0)) (A := A) (J := J) H hg.1 hr2.1 hrr hss
      have hr3 : RRep I3 A3 g := hr2.ks (fun k h _ _ => p2 k h) p3
      have i3 : I3 2 = i32 0 := by rw [p2 2 (by decide), fu_same]
      have q1' := q1
      rw [show i32 ((3 : Nat) : Int) = i32 3 from rfl] at q1'
      simp only [q1', p1, xb2s, bI_eq0]
      have hf : fit (bar (gb g)) 3 (bT (gb g) r) (bT (gb g) s) = (mtB (bar (gb g)) (bT (gb g) r) (bT (gb g) s) && mtB (bar (gb g)) (bT (gb g) s) (bT (gb g) r)) := rfl
      rw [hf]
      cases hm : mtB (bar (gb g)) (bT (gb g) r) (bT (gb g) s) with
      | false =>
        simp only [if_true, Bool.false_and]
        exact ⟨_, c', I3, A3, rfl, q2, rfl, hr3, i3⟩
      | true =>
        simp only [Bool.true_eq_false, if_false, Bool.true_and]
        obtain ⟨I4, A4, s1, s2, s3⟩ := r_above1 (I := I3) (A := A3) (J := J) H hg.1 hr3.1 hss hrr
        simp only [s1, xb2s, bI_eq0]
        refine ⟨_, c', I4, A4, rfl, q2, ?_, hr3.ks (fun k h _ _ => s2 k h) s3, by rw [s2 2 (by decide), i3]⟩
        cases mtB (bar (gb g)) (bT (gb g) s) (bT (gb g) r) <;> rfl
    · simp only [if_neg w3]
      obtain ⟨c', q1, q2⟩ := hbe 2 (by omega)
      obtain ⟨I3, A3, ⟨A1, x1, I2', A2, x2, x3⟩, k1, k2, s1, s2, s3⟩ := r_lay2 (I := fu I 2 (i32 0)) (A := A) (J := J) H hg.1 hr2.1 hrr hss (v := 4) (w := 8) (by omega) (by omega)
      have hT := hg.lo hrr
      have hS' := hg.lo hss
      have hwr := (hg.1.2.2.2.2 r hrr).1
      obtain ⟨A4, y1, y2, -⟩ := r_uniXY (I := I3) (A := A3) (J := J) H hg.1 hT hS' (by omega) (by omega) (fun d hd e he h1 h2 => by
        have := hwr.lt hg.1 d hd
        omega) s1 s2 s3 (p := 0) (by have := tms_len hT.1; omega)
      rw [fst1_0 hT.1] at y1
      have hr3 : RRep I3 A4 g := hr2.ks (fun k h _ _ => k1 k h) (k2.tr (keepA.b4 y2))
      have q1' := q1
      rw [show i32 ((2 : Nat) : Int) = i32 2 from rfl] at q1'
      have x2' := x2
      have x3' := x3
      rw [show i32 ((4 : Nat) : Int) = i32 4 from rfl] at x2'
      rw [show i32 ((8 : Nat) : Int) = i32 8 from rfl] at x3'
      have y1' := y1
      rw [show i32 ((0 : Nat) : Int) = i32 0 from rfl] at y1'
      simp only [q1', x1, xbs, x2', xb2s, x3', y1', bI_eq0]
      refine ⟨_, c', I3, A4, rfl, q2, ?_, hr3, by rw [k1 2 (by decide), fu_same]⟩
      have hf : fit (bar (gb g)) 2 (bT (gb g) r) (bT (gb g) s) = uniB (bar (gb g)) (bT (gb g) r) (bT (gb g) s) := rfl
      rw [hf]
      cases uniB (bar (gb g)) (bT (gb g) r) (bT (gb g) s) <;> rfl
  · have e : (decide (0 ≤ w) && decide (w ≤ 1)) = false := by rw [decide_eq_false w2, Bool.and_false]
    simp only [if_neg w1, if_neg w2, e, if_true]
    exact OP.ret hc hr _ _ I2 (fu_same _ _ _) rfl rfl
end OPE

/-! overlaps, critical -/
noncomputable def ovB (b : Bk) (r s p : Nat) : Bool := !(decide (r = s) && decide (p = 0)) && decide ((bT b r).getD p 0 < 100) && uniB (bar b) (fst1 (bar b) ((bT b r).drop p)) (bT b s)
noncomputable def ovN (b : Bk) (r s : Nat) : Nat := bitsF (ovB b r s) (bT b r).length
section OPF
variable {ty : xTy} {N M : Nat} {hA hB h0 : xH} {mm mi : Nat → Nat} {c : CS} {I : Nat → Int32} {A : Nat → Nat → Int32} {J : Nat → Int64} {g : Sg}
theorem uniB_iff {ar : Nat → Nat} {P Q : List Nat} : uniB ar P Q = true ↔ uniS ar P Q := by
  constructor
  · intro h
    by_cases hu : uniS ar P Q
    · exact hu
    · rw [uniB_false hu] at h; cases h
  · exact uniB_true
theorem k_over (C : CH ty N) (hg : gwf g) (hc : CRep c g) {r s p : Nat} (hr : r < bnr (gb g)) (hs : s < bnr (gb g)) (hp : p < (bT (gb g) r).length) :
    ∃ c', jf_X11_overlapsAt ty (cst N h0 c) (N + 0) (i32 r) (i32 s) (i32 p) = some (bI (ovB (gb g) r s p), cst N h0 c') ∧ fr 241 257 c c' ∧ (ovB (gb g) r s p = true → UY (bar (gb g)) (bT (gb g) r ++ (bT (gb g) s).map (sh 20)) c' p (bT (gb g) r).length) := by
  have h16 := hg.1.2.2.1
  have tr := hc.tm hg hr
  have ts := hc.tm hg hs
  have lr := (hg.lo hr).2.1
  obtain ⟨d, hd⟩ := get_some hp
  have hdb := (hg.lo hr).cl hg.1 d (List.mem_of_getElem? hd)
  have hmain : ¬ (r = s ∧ p = 0) → ∃ c', jf_X11_overlapsAt_11 ty (N + 0) (i32 r) (i32 s) (i32 p) (cst N h0 c) = some (bI (ovB (gb g) r s p), cst N h0 c') ∧ fr 241 257 c c' ∧ (ovB (gb g) r s p = true → UY (bar (gb g)) (bT (gb g) r ++ (bT (gb g) s).map (sh 20)) c' p (bT (gb g) r).length) := by
    intro hne
    have e0 : (!(decide (r = s) && decide (p = 0))) = true := by
      by_cases h1 : r = s
      · rw [decide_eq_false (show ¬ p = 0 from fun z => hne ⟨h1, z⟩), Bool.and_false]; rfl
      · rw [decide_eq_false h1]; rfl
    have qc : jf_X7_codeAt ty (cst N h0 c) (N + (cR c 0 2 + 10 + 6 * r)) (i32 p) = some (i32 d) := by
      rw [t_codeAt C tr.1 (by omega) (by omega), Int.toNat_natCast, hd]; rfl
    unfold jf_X11_overlapsAt_11
    simp (disch := omega) only [k_book C hc.1, xbs, k_termOf C hc.1 hc.1.bk, kck C tr.1.1, kck C ts.1.1, qc, i32_lit, i32_neg, i32_add, i32_sub, i32_mul, i32_lt, i32_le, i32_eq, k_sub C hc.1 (show (0, 12, 243) ∈ lyL by decide) (by omega) (show ct 243 = some (0, 10) by decide)]
    have eo : ovB (gb g) r s p = (decide (d < 100) && uniB (bar (gb g)) (fst1 (bar (gb g)) ((bT (gb g) r).drop p)) (bT (gb g) s)) := by
      unfold ovB
      rw [e0, getD_some hd, Bool.true_and]
    by_cases h100 : 100 ≤ d
    · refine ⟨c, ?_, fr.rf, fun z => ?_⟩
      · rw [if_pos (by omega), eo, decide_eq_false (by omega)]; rfl
      · rw [eo, decide_eq_false (by omega)] at z; cases z
    · obtain ⟨c', q1, q2, q3⟩ := k_uni (h0 := h0) C hg.1 hc.1 tr.1 ts.1 (hg.lo hr) (hg.lo hs) (by omega) (by omega) hp
      refine ⟨c', ?_, q2.wide (by omega) (by omega), fun z => ?_⟩
      · rw [if_neg (by omega), q1, eo, decide_eq_true (by omega)]
        simp only [xb2s, bI_eq0, Bool.true_and]
        cases uniB (bar (gb g)) (fst1 (bar (gb g)) ((bT (gb g) r).drop p)) (bT (gb g) s) <;> rfl
      · rw [eo, decide_eq_true (show d < 100 by omega), Bool.true_and] at z
        exact q3 (uniB_iff.mp z)
  unfold jf_X11_overlapsAt
  simp (disch := omega) only [i32_lit, i32_neg, i32_add, i32_sub, i32_mul, i32_lt, i32_le, i32_eq]
  by_cases h1 : (r : Int) = (s : Int)
  · simp only [if_pos h1]
    by_cases h2 : (p : Int) = 0
    · simp only [if_pos h2]
      have : ovB (gb g) r s p = false := by
        unfold ovB
        rw [decide_eq_true (show r = s by omega), decide_eq_true (show p = 0 by omega)]; rfl
      exact ⟨c, by rw [this]; rfl, fr.rf, fun z => by rw [this] at z; cases z⟩
    · simp only [if_neg h2]
      exact hmain (fun z => h2 (by omega))
  · simp only [if_neg h1]
    exact hmain (fun z => h1 (by omega))
theorem r_over (H : MH ty M mm mi h0) (hg : gwf g) (hR : RRep I A g) {r s p : Nat} (hr : r < bnr (gb g)) (hs : s < bnr (gb g)) (hp : p < (bT (gb g) r).length) :
    ∃ I' A', jf_X12_isOver ty (rst mm mi h0 M I A J) M (i32 r) (i32 s) (i32 p) = some (bI (ovB (gb g) r s p), rst mm mi h0 M I' A' J) ∧ (∀ k, k ≠ 33 → I' k = I k) ∧ keepA A A' ∧
      (ovB (gb g) r s p = true → ∃ hp' β θ ρ, okH (bar (gb g)) hp' ∧ 0 < hp'.length ∧ UI (bar (gb g)) hp' β θ ρ ∧ okA A' (bar (gb g)) hp' β ∧ mgS (bar (gb g)) (bT (gb g) r) (fst1 (bar (gb g)) ((bT (gb g) r).drop p)) (bT (gb g) s) (sub θ (tm (bar (gb g)) hp' 0))) := by
  have h16 := hg.1.2.2.1
  have lr := (hg.lo hr).2.1
  obtain ⟨d, hd⟩ := get_some hp
  have hdb := (hg.lo hr).cl hg.1 d (List.mem_of_getElem? hd)
  have hmain : ¬ (r = s ∧ p = 0) → ∃ I' A', jf_X12_isOver_9 ty M (i32 r) (i32 s) (i32 p) (rst mm mi h0 M I A J) = some (bI (ovB (gb g) r s p), rst mm mi h0 M I' A' J) ∧ (∀ k, k ≠ 33 → I' k = I k) ∧ keepA A A' ∧
      (ovB (gb g) r s p = true → ∃ hp' β θ ρ, okH (bar (gb g)) hp' ∧ 0 < hp'.length ∧ UI (bar (gb g)) hp' β θ ρ ∧ okA A' (bar (gb g)) hp' β ∧ mgS (bar (gb g)) (bT (gb g) r) (fst1 (bar (gb g)) ((bT (gb g) r).drop p)) (bT (gb g) s) (sub θ (tm (bar (gb g)) hp' 0))) := by
    intro hne
    have e0 : (!(decide (r = s) && decide (p = 0))) = true := by
      by_cases h1 : r = s
      · rw [decide_eq_false (show ¬ p = 0 from fun z => hne ⟨h1, z⟩), Bool.and_false]; rfl
      · rw [decide_eq_false h1]; rfl
    have eo : ovB (gb g) r s p = (decide (d < 100) && uniB (bar (gb g)) (fst1 (bar (gb g)) ((bT (gb g) r).drop p)) (bT (gb g) s)) := by
      unfold ovB
      rw [e0, getD_some hd, Bool.true_and]
    have hcode : A 23 (12 * r + p) = i32 d := (hR.1.2.2.2.2.2 r hr).2.2.1 p d hd
    unfold jf_X12_isOver_9
    simp (disch := omega) only [rr_23 H, xbs, i32_lit, i32_neg, i32_add, i32_sub, i32_mul, i32_lt, i32_le, i32_eq]
    rw [show (12 * (r : Int) + (p : Int)) = ((12 * r + p : Nat) : Int) by omega]
    simp (disch := omega) only [ga_23 H, xbs, Int.toNat_natCast, hcode, i32_lit, i32_neg, i32_add, i32_sub, i32_mul, i32_lt, i32_le, i32_eq]
    by_cases h100 : (d : Int) < 100
    · obtain ⟨I3, A3, ⟨A1, x1, I2', A2, x2, x3⟩, k1, k2, s1, s2, s3⟩ := r_lay2 (I := I) (A := A) (J := J) H hg.1 hR.1 hr hs (v := 4) (w := 8) (by omega) (by omega)
      have hwr := (hg.1.2.2.2.2 r hr).1
      obtain ⟨A4, y1, y2, y3⟩ := r_uniXY (I := I3) (A := A3) (J := J) H hg.1 (hg.lo hr) (hg.lo hs) (by omega) (by omega) (fun d hd e he h1 h2 => by
        have := hwr.lt hg.1 d hd
        omega) s1 s2 s3 hp
      refine ⟨I3, A4, ?_, k1, k2.tr (keepA.b4 y2), fun z => ?_⟩
      · have x2' := x2
        have x3' := x3
        rw [show i32 ((4 : Nat) : Int) = i32 4 from rfl] at x2'
        rw [show i32 ((8 : Nat) : Int) = i32 8 from rfl] at x3'
        simp only [if_pos h100, x1, xbs, x2', xb2s, x3']
        rw [i32_add, show ((0 : Int) + (p : Int)) = (p : Int) by omega, y1, eo, decide_eq_true (show d < 100 by omega), Bool.true_and]
        simp only [xb2s, xz_b, xbs]
      · rw [eo, decide_eq_true (show d < 100 by omega), Bool.true_and] at z
        obtain ⟨β, θ, ρ, u1, u2, u3, u4⟩ := y3 (uniB_iff.mp z)
        have t1 := (hg.lo hr).sh hg.1 (a := 4) (by omega)
        have t2 := (hg.lo hs).sh hg.1 (a := 8) (by omega)
        have ls := (hg.lo hs).2.1
        refine ⟨_, β, θ, ρ, ⟨⟨_, tms_app t1.1 t2.1⟩, bar_z _, fun x hx => ⟨?_, bar_le hg.1 x⟩, by simp; omega⟩, by simp; omega, u1, u2, by rw [u3]; exact u4⟩
        have h8 := hg.1.1
        rcases List.mem_append.mp hx with hx | hx
        · rcases t1.2 x hx with h | h <;> omega
        · rcases t2.2 x hx with h | h <;> omega
    · refine ⟨I, A, ?_, fun _ _ => rfl, keepA.rf, fun z => ?_⟩
      · simp only [if_neg h100]
        rw [eo, decide_eq_false (by omega)]; rfl
      · rw [eo, decide_eq_false (by omega)] at z; cases z
  unfold jf_X12_isOver
  simp (disch := omega) only [i32_lit, i32_neg, i32_add, i32_sub, i32_mul, i32_lt, i32_le, i32_eq]
  by_cases h1 : (r : Int) = (s : Int)
  · simp only [if_pos h1]
    by_cases h2 : (p : Int) = 0
    · simp only [if_pos h2]
      have : ovB (gb g) r s p = false := by
        unfold ovB
        rw [decide_eq_true (show r = s by omega), decide_eq_true (show p = 0 by omega)]; rfl
      exact ⟨I, A, by rw [this]; rfl, fun _ _ => rfl, keepA.rf, fun z => by rw [this] at z; cases z⟩
    · simp only [if_neg h2]
      exact hmain (fun z => h2 (by omega))
  · simp only [if_neg h1]
    exact hmain (fun z => h1 (by omega))
theorem k_ov18 (C : CH ty N) (hg : gwf g) {r s : Nat} (hr : r < bnr (gb g)) (hs : s < bnr (gb g)) : ∀ (k p : Nat) (c : CS), p + k = (bT (gb g) r).length → CRep c g →
    ∃ n c', jf_X11_overlapBits_18 ty n (N + 0) (i32 r) (i32 s) (i32 (bitsF (ovB (gb g) r s) p : Nat)) (i32 (bT (gb g) r).length) (i32 p) (cst N h0 c) = some (i32 (ovN (gb g) r s : Nat), cst N h0 c') ∧ fr 241 257 c c' := by
  have lr := (hg.lo hr).2.1
  intro k
  induction k with
  | zero =>
    intro p c h1 hc
    refine ⟨1, c, ?_, fr.rf⟩
    rw [jf_X11_overlapBits_18_s]
    simp (disch := omega) only [i32_lit, i32_neg, i32_add, i32_sub, i32_mul, i32_lt, i32_le, i32_eq, if_pos]
    unfold ovN
    rw [show p = (bT (gb g) r).length by omega]
  | succ k ih =>
    intro p c h1 hc
    obtain ⟨c1, p1, p2, -⟩ := k_over (h0 := h0) C hg hc hr hs (show p < _ by omega)
    obtain ⟨n, c', q1, q2⟩ := ih (p + 1) c1 (by omega) (hc.fr hg p2 (by omega))
    refine ⟨n + 1, c', ?_, p2.tr q2⟩
    rw [jf_X11_overlapBits_18_s]
    simp (disch := omega) only [i32_lit, i32_neg, i32_add, i32_sub, i32_mul, i32_lt, i32_le, i32_eq, if_neg, p1, xb2s, bI_eq0]
    rw [show (p : Int) + 1 = ((p + 1 : Nat) : Int) by omega]
    cases hm : ovB (gb g) r s p with
    | false =>
      rw [bitsF_f hm] at q1
      simp only [if_true]
      exact q1
    | true =>
      rw [bitsF_t hm] at q1
      simp only [Bool.true_eq_false, if_false]
      rw [or_bit _ _ (by omega)]
      exact q1
theorem k_ov (C : CH ty N) (hg : gwf g) (hc : CRep c g) {r s : Nat} (hr : r < bnr (gb g)) (hs : s < bnr (gb g)) : ∃ c', jf_X11_overlapBits ty (cst N h0 c) (N + 0) (i32 r) (i32 s) = some (i32 (ovN (gb g) r s : Nat), cst N h0 c') ∧ fr 241 257 c c' := by
  have h16 := hg.1.2.2.1
  have tr := hc.tm hg hr
  obtain ⟨n, c', q1, q2⟩ := k_ov18 (h0 := h0) C hg hr hs (bT (gb g) r).length 0 c (by omega) hc
  refine ⟨c', ?_, q2⟩
  unfold jf_X11_overlapBits
  simp (disch := omega) only [k_book C hc.1, xbs, k_termOf C hc.1 hc.1.bk, kck C tr.1.1, kI, tr.1.2.2.2.2.2.2.2.1]
  exact jf_X11_overlapBits_18_l q1
theorem r_ov5 (H : MH ty M mm mi h0) (hg : gwf g) {r s : Nat} (hr : r < bnr (gb g)) (hs : s < bnr (gb g)) : ∀ (k p : Nat) (I : Nat → Int32) (A : Nat → Nat → Int32), p + k = (bT (gb g) r).length → RRep I A g →
    ∃ n I' A', jf_X12_overBits_5 ty n M (i32 r) (i32 s) (i32 (bitsF (ovB (gb g) r s) p : Nat)) (i32 p) (rst mm mi h0 M I A J) = some (i32 (ovN (gb g) r s : Nat), rst mm mi h0 M I' A' J) ∧ (∀ k, k ≠ 33 → I' k = I k) ∧ keepA A A' := by
  have lr := (hg.lo hr).2.1
  have h16 := hg.1.2.2.1
  intro k
  induction k with
  | zero =>
    intro p I A h1 hR
    refine ⟨1, I, A, ?_, fun _ _ => rfl, keepA.rf⟩
    rw [jf_X12_overBits_5_s]
    simp (disch := omega) only [rr_22 H, xbs, ga_22 H, Int.toNat_natCast, (hR.1.2.2.2.2.2 r hr).2.1, i32_lit, i32_neg, i32_add, i32_sub, i32_mul, i32_lt, i32_le, i32_eq, if_pos]
    unfold ovN
    rw [show p = (bT (gb g) r).length by omega]
  | succ k ih =>
    intro p I A h1 hR
    obtain ⟨I1, A1, p1, p2, p3, -⟩ := r_over (I := I) (A := A) (J := J) H hg hR hr hs (show p < _ by omega)
    obtain ⟨n, I', A', q1, q2, q3⟩ := ih (p + 1) I1 A1 (by omega) (hR.ks (fun k h _ _ => p2 k h) p3)
    refine ⟨n + 1, I', A', ?_, fun k hk => (q2 k hk).trans (p2 k hk), p3.tr q3⟩
    rw [jf_X12_overBits_5_s]
    simp (disch := omega) only [rr_22 H, xbs, ga_22 H, Int.toNat_natCast, (hR.1.2.2.2.2.2 r hr).2.1, i32_lit, i32_neg, i32_add, i32_sub, i32_mul, i32_lt, i32_le, i32_eq, if_neg, p1, xb2s, bI_eq0]
    rw [show (p : Int) + 1 = ((p + 1 : Nat) : Int) by omega]
    cases hm : ovB (gb g) r s p with
    | false =>
      rw [bitsF_f hm] at q1
      simp only [if_true]
      rw [or_zero]
      exact q1
    | true =>
      rw [bitsF_t hm] at q1
      simp only [Bool.true_eq_false, if_false]
      rw [or_bit _ _ (by omega)]
      exact q1
theorem r_ov (H : MH ty M mm mi h0) (hg : gwf g) (hR : RRep I A g) {r s : Nat} (hr : r < bnr (gb g)) (hs : s < bnr (gb g)) : ∃ I' A', jf_X12_overBits ty (rst mm mi h0 M I A J) M (i32 r) (i32 s) = some (i32 (ovN (gb g) r s : Nat), rst mm mi h0 M I' A' J) ∧ (∀ k, k ≠ 33 → I' k = I k) ∧ keepA A A' := by
  obtain ⟨n, I', A', q1, q2, q3⟩ := r_ov5 (J := J) H hg hr hs (bT (gb g) r).length 0 I A (by omega) hR
  exact ⟨I', A', jf_X12_overBits_5_l q1, q2, q3⟩
theorem op_overlaps (C : CH ty N) (H : MH ty M mm mi hB) (hg : gwf g) (hc : CRep c g) (hr : RRep I A g) {r s : Int} (b1 : -2147483648 ≤ r) (b2 : r < 2147483648) (d1 : -2147483648 ≤ s) (d2 : s < 2147483648) :
    OP N hA mm mi hB M J g (jf_X11_overlaps ty (cst N hA c) (N + 0) (i32 r) (i32 s)) (jf_X12_overlaps ty (rst mm mi hB M I A J) M (i32 r) (i32 s)) := by
  have I2 : ∀ k, k ≠ 33 → k ≠ 2 → k ≠ 39 → fu I 2 (i32 0) k = I k := fun k _ h _ => fu_ne _ _ h
  have hr2 : RRep (fu I 2 (i32 0)) A g := hr.ks I2 keepA.rf
  unfold jf_X11_overlaps jf_X12_overlaps
  simp (disch := omega) only [i32_lit, i32_neg, i32_add, i32_sub, i32_mul, i32_lt, i32_le, i32_eq, rsI, xbs, bI_eq0, k_book C hc.1, k_hasRule hg.1 hc.1.bk hc.2.1 b1 b2, k_hasRule hg.1 hc.1.bk hc.2.1 d1 d2, r_isRule hg.1 hr2.1.2.2.1 b1 b2, r_isRule hg.1 hr2.1.2.2.1 d1 d2]
  cases hR : isR (gb g) r with
  | false =>
    simp only [if_true]
    exact OP.ret hc hr _ _ I2 (fu_same _ _ _) rfl rfl
  | true =>
  cases hS : isR (gb g) s with
  | false =>
    simp only [Bool.true_eq_false, if_false, if_true]
    exact OP.ret hc hr _ _ I2 (fu_same _ _ _) rfl rfl
  | true =>
  obtain ⟨r, rfl, hrr⟩ := isR_r hR
  obtain ⟨s, rfl, hss⟩ := isR_r hS
  simp only [Bool.true_eq_false, if_false]
  obtain ⟨c', q1, q2⟩ := k_ov (h0 := hA) C hg hc hrr hss
  obtain ⟨I3, A3, p1, p2, p3⟩ := r_ov (I := fu I 2 (i32 0)) (A := A) (J := J) H hg hr2 hrr hss
  rw [q1, p1]
  exact ⟨_, c', I3, A3, rfl, hc.fr hg q2 (by omega), rfl, hr2.ks (fun k h _ _ => p2 k h) p3, by rw [p2 2 (by decide), fu_same]⟩
end OPF

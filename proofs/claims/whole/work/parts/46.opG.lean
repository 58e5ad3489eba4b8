/-! critical, meeting -/
section OPG
variable {ty : xTy} {N M : Nat} {hA hB h0 : xH} {mm mi : Nat → Nat} {c : CS} {I : Nat → Int32} {A : Nat → Nat → Int32} {J : Nat → Int64} {g : Sg} {b : Bk}
theorem k_shape (C : CH ty N) (hb : bwf b) {T Q : List Nat} (h1 : tlo b T) (h2 : tlo b Q) {p : Nat} (hp : p < T.length) (hy : UY (bar b) (T ++ Q.map (sh 20)) c p T.length) {k : Int} (hk : 0 ≤ k) (hk2 : k < 2147483648) :
    ∃ c', jf_X10_unifiedShape ty (cst N h0 c) (N + 243) = some (N + 254, cst N h0 c') ∧ fr 243 257 c c' ∧ jf_X7_codeOrMissing ty (cst N h0 c') (N + 254) (i32 k) = some (i32 (mgK (bar b) T (fst1 (bar b) (T.drop p)) Q k)) := by
  have hz := bar_z b
  have pQ : 1 ≤ Q.length := tms_len h2.1
  have hok := okH_two hz h1.1 h2.1 (h1.cl hb) (h2.cl hb) h1.2.1 h2.2.1
  have htm := tm_two hz h1.1 h2.1
  obtain ⟨c', φ, q1, q2, q3, q4, q5, q6⟩ := u_shape (h0 := h0) C hok (show p < (T ++ Q.map (sh 20)).length by simp; omega) (show T.length < (T ++ Q.map (sh 20)).length by simp; omega) hy
  rw [htm.1 p hp, htm.2] at q4
  have htm0 : tm (bar b) (T ++ Q.map (sh 20)) 0 = T := by rw [htm.1 0 (by omega)]; exact fst1_0 h1.1
  rw [htm0] at q5 q6
  have hmg : mgS (bar b) T (fst1 (bar b) (T.drop p)) Q (sub φ T) := by
    have := mg_tr (W := T) (P := fst1 (bar b) (T.drop p)) (Q := Q) (a := 0) (b := 20) hz fst1_sub (sep_two (h1.cl hb)) q3 (by rw [sh0]; exact q4) (fun ψ w1 w2 => ⟨ψ, w1, by
      rw [sh0] at w2 ⊢
      exact q5 ψ w1 (by rw [htm.1 p hp, htm.2]; exact w2)⟩)
    rw [sh0] at this
    exact this
  refine ⟨c', q1, q2, ?_⟩
  rw [t_codeOr C q6 hk hk2, mgK_of hmg]
  by_cases hl : (sub φ T).length ≤ 60
  · rw [if_pos hl, if_pos hl]
    cases (shape (sub φ T))[k.toNat]? <;> rfl
  · rw [if_neg hl, if_neg hl]
    rfl
/-- the model's answer from a shape -/
theorem r_shape (H : MH ty M mm mi h0) {ar : Nat → Nat} {hp : List Nat} (hok : okH ar hp) (hl : 0 < hp.length) {β : Nat → Option Nat} {θ : Nat → List Nat} {ρ : Nat → Nat} (u : UI ar hp β θ ρ) (ha : okA A ar hp β) {W P Q : List Nat} (hm : mgS ar W P Q (sub θ (tm ar hp 0))) {k : Int} (hk : 0 ≤ k) (hk2 : k < 2147483648) :
    ∃ I' A', (∀ x, x ≠ 39 → I' x = I x) ∧ keepA A A' ∧ (xb2 (jf_X12_isShaped ty (rst mm mi h0 M I A J) M (i32 0)) fun a15 h14 => if a15 = 0 then some (i32 (-2), h14) else if (xI h14 M 39) ≤ i32 k then some (i32 (-2), h14) else (xR h14 M 38).bind fun a18 => (xga 1 ty h14 a18 (i32 k)).bind fun a19 => some (a19, h14)) = some (i32 (mgK ar W P Q k), rst mm mi h0 M I' A' J) := by
  obtain ⟨I', A', r1, r2, r3, r4⟩ := r_shaped (I := I) (J := J) H hok u ha hl
  refine ⟨I', A', r1, fun x hx => r2 x (fun z => by
    simp only [List.mem_cons, List.not_mem_nil, or_false] at hx z
    omega), ?_⟩
  have r3' := r3
  rw [show i32 ((0 : Nat) : Int) = i32 0 from rfl] at r3'
  rw [r3', mgK_of hm]
  simp only [xb2s]
  by_cases h60 : (sub θ (tm ar hp 0)).length ≤ 60
  · obtain ⟨g1, g2⟩ := r4 h60
    have hsl : (shape (sub θ (tm ar hp 0))).length ≤ 60 := by rw [shape, shpG_len]; exact h60
    rw [decide_eq_true h60, if_neg (show ¬ bI true = 0 by decide), if_pos h60, rI, g1]
    simp (disch := omega) only [i32_lit, i32_neg, i32_add, i32_sub, i32_mul, i32_lt, i32_le, i32_eq]
    by_cases hkl : ((shape (sub θ (tm ar hp 0))).length : Int) ≤ k
    · rw [if_pos hkl, List.getElem?_eq_none (by omega)]; rfl
    · obtain ⟨d, hd⟩ := get_some (L := shape (sub θ (tm ar hp 0))) (i := k.toNat) (by omega)
      have := seg_get g2 hd
      rw [Nat.zero_add] at this
      rw [if_neg hkl, hd]
      simp (disch := omega) only [rr_38 H, ga_38 H, xbs, this]
      rfl
  · rw [decide_eq_false h60, if_pos (show bI false = 0 from rfl), if_neg h60]
theorem op_critical (C : CH ty N) (H : MH ty M mm mi hB) (hg : gwf g) (hc : CRep c g) (hr : RRep I A g) {r s p k : Int} (b1 : -2147483648 ≤ r) (b2 : r < 2147483648) (d1 : -2147483648 ≤ s) (d2 : s < 2147483648) (e1 : -2147483648 ≤ p) (e2 : p < 2147483648) (f1 : -2147483648 ≤ k) (f2 : k < 2147483648) :
    OP N hA mm mi hB M J g (jf_X11_critical ty (cst N hA c) (N + 0) (i32 r) (i32 s) (i32 p) (i32 k)) (jf_X12_critical ty (rst mm mi hB M I A J) M (i32 r) (i32 s) (i32 p) (i32 k)) := by
  have h16 := hg.1.2.2.1
  have I2 : ∀ k, k ≠ 33 → k ≠ 2 → k ≠ 39 → fu I 2 (i32 0) k = I k := fun k _ h _ => fu_ne _ _ h
  have hr2 : RRep (fu I 2 (i32 0)) A g := hr.ks I2 keepA.rf
  unfold jf_X11_critical jf_X12_critical
  simp only [rsI, xbs, k_book C hc.1, k_hasRule hg.1 hc.1.bk hc.2.1 b1 b2, k_hasRule hg.1 hc.1.bk hc.2.1 d1 d2, i32_lit, r_isRule hg.1 hr2.1.2.2.1 b1 b2, r_isRule hg.1 hr2.1.2.2.1 d1 d2, bI_eq0]
  cases hR : isR (gb g) r with
  | false =>
    simp only [if_true]
    exact OP.ret hc hr _ _ I2 (fu_same _ _ _) rfl rfl
  | true =>
  cases hS : isR (gb g) s with
  | false =>
    simp only [Bool.true_eq_false, if_false, if_true]
    exact OP.ret hc hr _ _ I2 (fu_same _ _ _) rfl rfl
  | true =>
  obtain ⟨r, rfl, hrr⟩ := isR_r hR
  obtain ⟨s, rfl, hss⟩ := isR_r hS
  simp only [Bool.true_eq_false, if_false]
  have tr := hc.tm hg hrr
  have lr := (hg.lo hrr).2.1
  simp (disch := omega) only [k_termOf C hc.1 hc.1.bk, xbs, kck C tr.1.1, kI, tr.1.2.2.2.2.2.2.2.1, rr_22 H, ga_22 H, Int.toNat_natCast, (hr2.1.2.2.2.2.2 r hrr).2.1, i32_lit, i32_neg, i32_add, i32_sub, i32_mul, i32_lt, i32_le, i32_eq]
  by_cases w1 : 0 ≤ k
  · simp only [if_pos w1]
    by_cases w2 : p < 0
    · simp only [if_pos w2]
      exact OP.ret hc hr _ _ I2 (fu_same _ _ _) rfl rfl
    simp only [if_neg w2]
    by_cases w3 : p < ((bT (gb g) r).length : Int)
    · have w3' : ¬ ((bT (gb g) r).length : Int) ≤ p := by omega
      obtain ⟨p, rfl⟩ : ∃ n : Nat, p = n := ⟨p.toNat, by omega⟩
      simp only [if_pos w3, if_neg w3']
      obtain ⟨c1, q1, q2, q3⟩ := k_over (h0 := hA) C hg hc hrr hss (show p < (bT (gb g) r).length by omega)
      obtain ⟨I3, A3, p1, p2, p3, p4⟩ := r_over (I := fu I 2 (i32 0)) (A := A) (J := J) H hg hr2 hrr hss (show p < (bT (gb g) r).length by omega)
      have hc1 := hc.fr hg q2 (by omega)
      have hr3 : RRep I3 A3 g := hr2.ks (fun k h _ _ => p2 k h) p3
      have i3 : I3 2 = i32 0 := by rw [p2 2 (by decide), fu_same]
      simp only [q1, p1, xb2s, bI_eq0]
      cases ho : ovB (gb g) r s p with
      | false =>
        simp only [if_true]
        exact ⟨_, c1, I3, A3, rfl, hc1, rfl, hr3, i3⟩
      | true =>
        simp only [Bool.true_eq_false, if_false]
        obtain ⟨c2, s1, s2, s3⟩ := k_shape (h0 := hA) C hg.1 (hg.lo hrr) (hg.lo hss) (show p < (bT (gb g) r).length by omega) (q3 ho) w1 f2
        obtain ⟨hp', β, θ, ρ, u1, u2, u3, u4, u5⟩ := p4 ho
        obtain ⟨I4, A4, x1, x2, x3⟩ := r_shape (I := I3) (A := A3) (J := J) H u1 u2 u3 u4 u5 w1 f2
        have e12 := k_sub (h0 := hA) C hc1.1 (show (0, 12, 243) ∈ lyL by decide) (by omega) (show ct 243 = some (0, 10) by decide)
        refine ⟨_, c2, I4, A4, ?_, hc1.fr hg s2 (by omega), x3, hr3.ks (fun k _ _ h => x1 k h) x2, by rw [x1 2 (by decide), i3]⟩
        simp only [e12, xbs, s1, xb2s, kck C (show ct 254 = some (0, 7) by decide), s3]
    · have w3' : ((bT (gb g) r).length : Int) ≤ p := by omega
      simp only [if_neg w3, if_pos w3']
      exact OP.ret hc hr _ _ I2 (fu_same _ _ _) rfl rfl
  · simp only [if_neg w1]
    refine OP.ret hc hr (i32 (-1)) _ I2 (fu_same _ _ _) rfl ?_
    split
    · rfl
    · split <;> rfl
theorem k_askR (C : CH ty N) (hg : gwf g) (hc : CRep c g) {r : Int} (b1 : -2147483648 ≤ r) (b2 : r < 2147483648) : jf_X11_isAskedRule ty (cst N h0 c) (N + 0) (i32 r) = some (bI (isR (gb g) r && !(gq g).isEmpty && inR (gin g) r.toNat)) := by
  have h16 := hg.1.2.2.1
  have hql := gq_l hg
  unfold jf_X11_isAskedRule
  simp (disch := omega) only [i32_lit, i32_neg, i32_add, i32_sub, i32_mul, i32_lt, i32_le, i32_eq, xbs, bI_eq0, k_book C hc.1, k_hasRule hg.1 hc.1.bk hc.2.1 b1 b2, k_ask C hc.1, k_askn hc]
  cases hR : isR (gb g) r with
  | false => rfl
  | true =>
  obtain ⟨r, rfl, hrr⟩ := isR_r hR
  simp only [Bool.true_eq_false, if_false, Bool.true_and]
  cases hq : gq g with
  | nil => rfl
  | cons d Q =>
    simp (disch := omega) only [List.length_cons, i32_lit, i32_neg, i32_add, i32_sub, i32_mul, i32_lt, i32_le, i32_eq, if_neg, k_sub C hc.1 (show (0, 9, 232) ∈ lyL by decide) (by omega) (show ct 232 = some (0, 6) by decide), xbs, k_isIn hg.z hc.2.2.2.1 (show r < 16 by omega), bI_eq0, Int.toNat_natCast]
    cases inR (gin g) r <;> rfl
end OPG

/-! meeting, filled -/
section OPH
variable {ty : xTy} {N M : Nat} {hA hB h0 : xH} {mm mi : Nat → Nat} {c : CS} {I : Nat → Int32} {A : Nat → Nat → Int32} {J : Nat → Int64} {g : Sg} {b : Bk}
/-- the query and a rule in the model's heap -/
theorem r_layQ (H : MH ty M mm mi h0) (hg : gwf g) (hR : RRep I A g) (hQ : twf (gb g) (gq g)) {r : Nat} (hr : r < bnr (gb g)) :
    ∃ I' A', (∃ A1, jf_X12_clears ty (rst mm mi h0 M I A J) M = some (rst mm mi h0 M (fu I 33 (i32 0)) A1 J) ∧ ∃ I2 A2, jf_X12_putsQuery ty (rst mm mi h0 M (fu I 33 (i32 0)) A1 J) M = some (i32 0, rst mm mi h0 M I2 A2 J) ∧ jf_X12_putsRule ty (rst mm mi h0 M I2 A2 J) M (i32 r) (i32 4) = some (i32 ((gq g).length : Nat), rst mm mi h0 M I' A' J)) ∧
      (∀ k, k ≠ 33 → I' k = I k) ∧ keepA A A' ∧ seg (A' 32) 0 ((gq g).map (sh 0) ++ (bT (gb g) r).map (sh 4)) ∧ arR A' (bar (gb g)) ((gq g).map (sh 0) ++ (bT (gb g) r).map (sh 4)) ∧ ∀ x, x < 48 → A' 34 x = i32 (-1) := by
  have hb := hg.1
  have hT := (hb.2.2.2.2 r hr).1
  obtain ⟨A1, c1, c2, c3⟩ := r_clears (I := I) (A := A) (J := J) H
  have kA1 : keepA A A1 := keepA.but c2 (by decide)
  have kI1 : keepI I (fu I 33 (i32 0)) := keepI.fu (by decide)
  have hR1 := hR.keep kI1 kA1
  obtain ⟨A2, p1, p2, p3, p4⟩ := r_putsQuery (I := fu I 33 (i32 0)) (A := A1) (J := J) (m := 0) H hb hQ hR1.2.2.1.1 hR1.2.2.1.2.1 (by omega) hR1.2.2.1.2.2 (at1 := 0) (by rw [fu_same]; rfl) (by omega)
  have kA2 : keepA A A2 := kA1.tr (keepA.but p2 (by decide))
  obtain ⟨I2, hI2⟩ : ∃ I2, I2 = fu (fu I 33 (i32 0)) 33 (i32 ((0 + (gq g).length : Nat) : Int)) := ⟨_, rfl⟩
  have hI2k : ∀ k, k ≠ 33 → I2 k = I k := fun k hk => by rw [hI2, fu_ne _ _ hk, fu_ne _ _ hk]
  have kI2 : keepI I I2 := fun k hk => hI2k k (fun z => by subst z; revert hk; decide)
  rw [← hI2] at p1
  obtain ⟨A3, r1, r2, r3, r4⟩ := r_putsRule (I := I2) (A := A2) (J := J) (v := 4) H hb (hR.1.keep kI2 kA2) hr (by omega) (at1 := (gq g).length) (by rw [hI2, fu_same, Nat.zero_add]) (by have := hQ.2.1; omega)
  have kA3 : keepA A A3 := kA2.tr (keepA.but r2 (by decide))
  refine ⟨_, A3, ⟨A1, c1, I2, A2, p1, r1⟩, fun k hk => by rw [fu_ne _ _ hk]; exact hI2k k hk, kA3, ?_, ?_, fun x hx => by rw [r2 34 (by decide), p2 34 (by decide)]; exact c3 x hx⟩
  · rw [seg_app]
    refine ⟨fun i d hd => ?_, ?_⟩
    · have hi := (List.getElem?_eq_some_iff.mp hd).1
      rw [List.length_map] at hi
      rw [r3 (0 + i) (by omega)]
      exact p4 i d hd
    · rw [Nat.zero_add, List.length_map]
      rw [putK_sh (by omega)] at r4
      exact r4
  · refine ar19 hb hR.1 (kA3 19 (by decide)) (fun d hd => ?_)
    rcases List.mem_append.mp hd with hd | hd
    · exact ((hQ.lo hb).sh hb (by omega)).2 d hd
    · exact ((hT.lo hb).sh hb (by omega)).2 d hd
theorem op_meeting (C : CH ty N) (H : MH ty M mm mi hB) (hg : gwf g) (hc : CRep c g) (hr : RRep I A g) {r k : Int} (b1 : -2147483648 ≤ r) (b2 : r < 2147483648) (f1 : -2147483648 ≤ k) (f2 : k < 2147483648) :
    OP N hA mm mi hB M J g (jf_X11_meeting ty (cst N hA c) (N + 0) (i32 r) (i32 k)) (jf_X12_meeting ty (rst mm mi hB M I A J) M (i32 r) (i32 k)) := by
  have h16 := hg.1.2.2.1
  have hql := gq_l hg
  have I2 : ∀ k, k ≠ 33 → k ≠ 2 → k ≠ 39 → fu I 2 (i32 0) k = I k := fun k _ h _ => fu_ne _ _ h
  have hr2 : RRep (fu I 2 (i32 0)) A g := hr.ks I2 keepA.rf
  unfold jf_X11_meeting jf_X12_meeting
  simp only [rsI, xbs, k_askR C hg hc b1 b2, i32_lit, r_isRule hg.1 hr2.1.2.2.1 b1 b2, bI_eq0, rI, hr2.2.2.1.2.1]
  by_cases w1 : i32 k < i32 0
  · simp only [if_pos w1]
    refine OP.ret hc hr _ _ I2 (fu_same _ _ _) rfl ?_
    split <;> rfl
  have w1' : 0 ≤ k := by
    rcases (show k < 0 ∨ 0 ≤ k by omega) with h | h
    · exact absurd ((i32_lt (by omega) (by omega) (by omega) (by omega)).mpr h) w1
    · exact h
  simp only [if_neg w1]
  cases hR : isR (gb g) r with
  | false =>
    simp only [Bool.false_and, if_true]
    exact OP.ret hc hr _ _ I2 (fu_same _ _ _) rfl rfl
  | true =>
  obtain ⟨r, rfl, hrr⟩ := isR_r hR
  simp only [Bool.true_eq_false, if_false, Bool.true_and, Int.toNat_natCast]
  by_cases w3 : gq g = []
  · rw [w3]
    simp only [List.isEmpty_nil, Bool.not_true, Bool.false_and, if_true, List.length_nil]
    exact OP.ret hc hr _ _ I2 (fu_same _ _ _) rfl rfl
  have w3' : (gq g).isEmpty = false := by
    cases hq : gq g with
    | nil => exact absurd hq w3
    | cons => rfl
  have hq : twf (gb g) (gq g) := by
    rcases hg.2.1 with h | h
    · exact absurd h w3
    · exact h
  have hqp := hq.pos
  have w4 : ¬ i32 ((gq g).length : Nat) = i32 0 := by
    rw [i32_eq (by omega) (by omega) (by omega) (by omega)]; omega
  simp only [w3', Bool.not_false, Bool.true_and, if_neg w4, r_isInNow hg.z hr2.2.1 (show r < 32 by omega), xbs, bI_eq0]
  cases hin : inR (gin g) r with
  | false =>
    simp only [if_true]
    exact OP.ret hc hr _ _ I2 (fu_same _ _ _) rfl rfl
  | true =>
  obtain ⟨t1, -, t3, t4⟩ := hc.tm hg hrr
  have lT := hg.lo hrr
  have lQ := hq.lo hg.1
  have pT : 1 ≤ (bT (gb g) r).length := tms_len lT.1
  have hlq := hc.1.as.1
  obtain ⟨c1, q1, q2, q3⟩ := k_uni (h0 := hA) C hg.1 hc.1 t1 hc.2.2.1 lT lQ (by omega) (by omega) (p := 0) (by omega)
  rw [show i32 ((0 : Nat) : Int) = i32 0 from rfl] at q1
  obtain ⟨I3, A3, ⟨A1, x1, I2', A2, x2, x3⟩, k1, k2, s1, s2, s3⟩ := r_layQ (I := fu I 2 (i32 0)) (A := A) (J := J) H hg hr2 hq hrr
  obtain ⟨A4, y1, y2, y3⟩ := r_uniXY (I := I3) (A := A3) (J := J) H hg.1 lQ lT (by omega) (by omega) (fun d hd e he h1 h2 => by
    have := hq.lt hg.1 d hd
    omega) s1 s2 s3 (p := 0) (by omega)
  rw [show i32 ((0 : Nat) : Int) = i32 0 from rfl] at y1
  have hr3 : RRep I3 A4 g := hr2.ks (fun k h _ _ => k1 k h) (k2.tr (keepA.b4 y2))
  have i3 : I3 2 = i32 0 := by rw [k1 2 (by decide), fu_same]
  have hc1 := hc.fr hg (q2.wide (show 241 ≤ 243 by omega) (Nat.le_refl 257)) (by omega)
  have e12 := k_sub (h0 := hA) C hc.1 (show (0, 12, 243) ∈ lyL by decide) (by omega) (show ct 243 = some (0, 10) by decide)
  have e12' := k_sub (h0 := hA) C hc1.1 (show (0, 12, 243) ∈ lyL by decide) (by omega) (show ct 243 = some (0, 10) by decide)
  have hT0 := k_termOf (h0 := hA) C hc.1 hc.1.bk t4
  simp only [Bool.true_eq_false, if_false, e12, k_book C hc.1, k_ask C hc.1, hT0, kck C t1.1, xbs, q1, xb2s, x1, x2, x3, y1, bI_eq0]
  rw [fst1_0 lT.1, fst1_0 lQ.1, uniB_symm (P := gq g)]
  cases hu : uniB (bar (gb g)) (bT (gb g) r) (gq g) with
  | false =>
    simp only [if_true]
    exact ⟨_, c1, I3, A4, rfl, hc1, rfl, hr3, i3⟩
  | true =>
    simp only [Bool.true_eq_false, if_false]
    have hu' := uniB_iff.mp hu
    obtain ⟨c2, z1, z2, z3⟩ := k_shape (h0 := hA) C hg.1 lT lQ (show 0 < (bT (gb g) r).length by omega) (q3 (by rw [fst1_0 lT.1]; exact hu')) w1' f2
    obtain ⟨β, θ, ρ, u1, u2, u3, u4⟩ := y3 (by rw [fst1_0 lQ.1]; exact uniS_symm.mp hu')
    have tQ := lQ.sh hg.1 (a := 0) (by omega)
    have tT := lT.sh hg.1 (a := 4) (by omega)
    have lTl := lT.2.1
    have hok : okH (bar (gb g)) ((gq g).map (sh 0) ++ (bT (gb g) r).map (sh 4)) := by
      refine ⟨⟨_, tms_app tQ.1 tT.1⟩, bar_z _, fun x hx => ⟨?_, bar_le hg.1 x⟩, by simp; omega⟩
      have h8 := hg.1.1
      rcases List.mem_append.mp hx with hx | hx
      · rcases tQ.2 x hx with h | h <;> omega
      · rcases tT.2 x hx with h | h <;> omega
    obtain ⟨I4, A5, v1, v2, v3⟩ := r_shape (I := I3) (A := A4) (J := J) H hok (by simp; omega) u1 u2 (by rw [u3]; exact u4) w1' f2
    rw [fst1_0 lQ.1, ← mgK_symm] at v3
    rw [fst1_0 lT.1] at z3
    refine ⟨_, c2, I4, A5, ?_, hc1.fr hg z2 (by omega), v3, hr3.ks (fun k _ _ h => v1 k h) v2, by rw [v1 2 (by decide), i3]⟩
    simp only [e12', xbs, z1, xb2s, kck C (show ct 254 = some (0, 7) by decide), z3]
end OPH

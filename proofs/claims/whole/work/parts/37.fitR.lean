/-! THE MODEL: two terms in its heap meet; a rule fits a query -/
section FITR2
variable {ty : xTy} {M : Nat} {mm mi : Nat → Nat} {h0 : xH} {I : Nat → Int32} {A : Nat → Nat → Int32} {J : Nat → Int64} {b : Bk}
theorem keepA.b4 {A A' : Nat → Nat → Int32} (h : but4 A A') : keepA A A' := fun x hx => h x (fun z => by
  simp only [List.mem_cons, List.not_mem_nil, or_false] at hx z
  omega)
theorem r_uniXY (H : MH ty M mm mi h0) (hb : bwf b) {X Y : List Nat} {a c : Nat} (h1 : tlo b X) (h2 : tlo b Y) (ha : a ≤ 28) (hc : c ≤ 28) (hsep : ∀ d ∈ X, ∀ e ∈ Y, 100 ≤ d → 100 ≤ e → d + a ≠ e + c) (h3 : seg (A 32) 0 (X.map (sh a) ++ Y.map (sh c))) (h5 : arR A (bar b) (X.map (sh a) ++ Y.map (sh c))) (h9 : ∀ v, v < 48 → A 34 v = i32 (-1)) {p : Nat} (hp : p < X.length) :
    ∃ A', jf_X12_isUnified ty (rst mm mi h0 M I A J) M (i32 p) (i32 X.length) = some (bI (uniB (bar b) (fst1 (bar b) (X.drop p)) Y), rst mm mi h0 M I A' J) ∧ but4 A A' ∧
      (uniS (bar b) (fst1 (bar b) (X.drop p)) Y → ∃ β θ ρ, UI (bar b) (X.map (sh a) ++ Y.map (sh c)) β θ ρ ∧ okA A' (bar b) (X.map (sh a) ++ Y.map (sh c)) β ∧ tm (bar b) (X.map (sh a) ++ Y.map (sh c)) 0 = X.map (sh a) ∧ mgS (bar b) X (fst1 (bar b) (X.drop p)) Y (sub θ (X.map (sh a)))) := by
  have hz := bar_z b
  have pX : 1 ≤ X.length := tms_len h1.1
  have pY : 1 ≤ Y.length := tms_len h2.1
  have lX := h1.2.1
  have lY := h2.2.1
  obtain ⟨s1, s2⟩ := h1.sh hb ha
  obtain ⟨t1, t2⟩ := h2.sh hb hc
  have tm1 : ∀ q, q < X.length → tm (bar b) (X.map (sh a) ++ Y.map (sh c)) q = (fst1 (bar b) (X.drop q)).map (sh a) := fun q hq => by
    have := tm_part (X := []) (Y := Y.map (sh c)) (a := a) hz h1.1 hq
    rw [List.nil_append, List.length_nil, Nat.zero_add] at this
    exact this
  have tm0 : tm (bar b) (X.map (sh a) ++ Y.map (sh c)) 0 = X.map (sh a) := by
    rw [tm1 0 (by omega), List.drop_zero]
    unfold fst1
    rw [skipN_all h1.1, List.take_length]
  have tm2 : tm (bar b) (X.map (sh a) ++ Y.map (sh c)) X.length = Y.map (sh c) := by
    have := tm_part (X := X.map (sh a)) (Y := []) (a := c) hz h2.1 (i := 0) (by omega)
    rw [List.append_nil, List.length_map, Nat.add_zero, List.drop_zero] at this
    rw [this]
    unfold fst1
    rw [skipN_all h2.1, List.take_length]
  have hok : okH (bar b) (X.map (sh a) ++ Y.map (sh c)) := by
    refine ⟨⟨_, tms_app s1 t1⟩, hz, fun d hd => ⟨?_, bar_le hb d⟩, by simp; omega⟩
    have h8 := hb.1
    rcases List.mem_append.mp hd with hd | hd
    · rcases s2 d hd with h | h <;> omega
    · rcases t2 d hd with h | h <;> omega
  obtain ⟨hp', hhp⟩ : ∃ hp', hp' = X.map (sh a) ++ Y.map (sh c) := ⟨_, rfl⟩
  have hlen : hp'.length = X.length + Y.length := by rw [hhp]; simp
  rw [← hhp] at h3 h5 tm1 tm0 tm2 hok ⊢
  have hA : okA A (bar b) hp' nob := ⟨h3, h5, h9⟩
  have huni : uniS (bar b) (fst1 (bar b) (X.drop p)) Y ↔ ∃ φ, wfs (bar b) φ ∧ sub φ (tm (bar b) hp' p) = sub φ (tm (bar b) hp' X.length) := by
    rw [tm1 p hp, tm2]
    exact uni_tr hz (fun x hx => hsep x (fst1_sub x hx))
  obtain ⟨A', q1, q2⟩ := r_unified (I := I) (J := J) H hok hA (a := p) (b := X.length) (by omega) (by omega)
  refine ⟨A', ?_, q1, fun hu => ?_⟩
  · rcases q2 with ⟨e, β, θ, ρ, u1, u2, u3⟩ | ⟨e, f⟩
    · rw [e, uniB_true (huni.mpr ⟨θ, u1.1, (u3 θ u1.1).mpr (sol_self u1)⟩)]; rfl
    · rw [e, uniB_false (fun hh => by obtain ⟨φ, z1, z2⟩ := huni.mp hh; exact f φ z1 z2)]; rfl
  · rcases q2 with ⟨e, β, θ, ρ, u1, u2, u3⟩ | ⟨e, f⟩
    · refine ⟨β, θ, ρ, u1, u2, tm0, mg_tr hz fst1_sub hsep u1.1 ?_ (fun ψ w1 w2 => ⟨ψ, w1, ?_⟩)⟩
      · rw [← tm1 p hp, ← tm2]
        exact (u3 θ u1.1).mpr (sol_self u1)
      · rw [← tm1 p hp, ← tm2] at w2
        exact (sol_sub u1 ((u3 ψ w1).mp w2) _).symm
    · obtain ⟨φ, z1, z2⟩ := huni.mp hu
      exact absurd z2 (f φ z1)
/-- only what terms are tried with has changed -/
def keepW (A A' : Nat → Nat → Int32) : Prop := ∀ k, k ∉ [32, 34, 35, 36, 37, 38, 40] → A' k = A k
theorem keepW.rf {A : Nat → Nat → Int32} : keepW A A := fun _ _ => rfl
theorem keepW.tr {I J K : Nat → Nat → Int32} (h1 : keepW I J) (h2 : keepW J K) : keepW I K := fun k hk => (h2 k hk).trans (h1 k hk)
theorem keepW.but {A A' : Nat → Nat → Int32} {k : Nat} (h : but k A A') (hk : k ∈ [32, 34, 35, 36, 37, 38, 40]) : keepW A A' := fun x hx => h x (fun e => hx (e ▸ hk))
theorem keepW.b4 {A A' : Nat → Nat → Int32} (h : but4 A A') : keepW A A' := fun x hx => h x (fun z => hx (by
  simp only [List.mem_cons, List.not_mem_nil, or_false] at z ⊢
  omega))
theorem keepW.a {A A' : Nat → Nat → Int32} (h : keepW A A') : keepA A A' := fun k hk => h k (fun z => by
  simp only [List.mem_cons, List.not_mem_nil, or_false] at hk z
  omega)
/-- the model lays two rows in its heap -/
theorem r_fitW (H : MH ty M mm mi h0) (hb : bwf b) (hR : RB I A b) {Q : List Nat} (hQ : twf b Q) (hs : seg (A 27) 0 Q) (h28 : I 28 = i32 Q.length) {m : Nat} (hm : m ≤ 3) (h41 : I 41 = i32 m) {r : Nat} (hr : r < bnr b) {how : Nat} (hh : how ≤ 2) :
    ∃ I' A', jf_X12_isFit ty (rst mm mi h0 M I A J) M (i32 how) (i32 r) = some (bI (fit (bar b) how (rm m (bT b r)) (qm m Q)), rst mm mi h0 M I' A' J) ∧ (∀ k, k ≠ 33 → I' k = I k) ∧ keepW A A' := by
  have hT := (hb.2.2.2.2 r hr).1
  have lT := (hT.lo hb).rm m
  have lQ := (hQ.lo hb).qm m
  have hz := bar_z b
  have nT : (rm m (bT b r)).length = (bT b r).length := by unfold rm; split; exact apartK_len _ _; rfl
  have nQ : (qm m Q).length = Q.length := by unfold qm; split; exact apartK_len _ _; split; simp; rfl
  obtain ⟨A1, c1, c2, c3⟩ := r_clears (I := I) (A := A) (J := J) H
  obtain ⟨A2, p1, p2, p3, p4⟩ := r_putsQuery (I := fu I 33 (i32 0)) (A := A1) (J := J) H hb hQ (by rw [c2 27 (by decide)]; exact hs) (by rw [fu_ne _ _ (by decide)]; exact h28) hm (by rw [fu_ne _ _ (by decide)]; exact h41) (at1 := 0) (by rw [fu_same]; rfl) (by omega)
  have kA1 : keepW A A1 := keepW.but c2 (by decide)
  have kA2 : keepW A A2 := kA1.tr (keepW.but p2 (by decide))
  obtain ⟨ra, hra, hra2⟩ : ∃ ra : Nat, (ra = if m = 1 ∨ m = 2 then 16 else 4) ∧ ra ≤ 28 := ⟨_, rfl, by split <;> omega⟩
  have hput : putK ra 0 (bT b r) = (rm m (bT b r)).map (sh ra) := by
    unfold rm
    by_cases hm2 : m = 1 ∨ m = 2
    · rw [if_pos hm2] at hra ⊢
      subst hra
      exact putK_apart (v := 16) (by omega) _ 0
    · rw [if_neg hm2] at hra ⊢
      subst hra
      exact putK_sh (v := 4) (by omega) _ 0
  obtain ⟨I2, hI2⟩ : ∃ I2, I2 = fu (fu I 33 (i32 0)) 33 (i32 ((0 + Q.length : Nat) : Int)) := ⟨_, rfl⟩
  have hI2k : ∀ k, k ≠ 33 → I2 k = I k := fun k hk => by rw [hI2, fu_ne _ _ hk, fu_ne _ _ hk]
  have kI2 : keepI I I2 := fun k hk => hI2k k (fun z => by subst z; revert hk; decide)
  have hR2 : RB I2 A2 b := hR.keep kI2 kA2.a
  obtain ⟨A3, r1, r2, r3, r4⟩ := r_putsRule (I := I2) (A := A2) (J := J) (v := ra) H hb hR2 hr hra2 (at1 := Q.length) (by rw [hI2, fu_same, Nat.zero_add]) (by have := hQ.2.1; omega)
  rw [hput] at r4
  obtain ⟨I3, hI3⟩ : ∃ I3, I3 = fu I2 33 (i32 ((Q.length + (bT b r).length : Nat) : Int)) := ⟨_, rfl⟩
  have hI3k : ∀ k, k ≠ 33 → I3 k = I k := fun k hk => by rw [hI3, fu_ne _ _ hk]; exact hI2k k hk
  have kA3 : keepW A A3 := kA2.tr (keepW.but r2 (by decide))
  rw [← hI3] at r1
  obtain ⟨qa, hqa, hqa2⟩ : ∃ qa : Nat, (qa = if m = 1 then 28 else 0) ∧ qa ≤ 28 := ⟨_, rfl, by split <;> omega⟩
  rw [← hqa] at p4
  rw [← hI2] at p1
  have p4' : seg (A3 32) 0 ((qm m Q).map (sh qa)) := fun i d hd => by
    have hi := (List.getElem?_eq_some_iff.mp hd).1
    rw [List.length_map, nQ] at hi
    rw [r3 (0 + i) (by omega)]
    exact p4 i d hd
  have arQ : arR A3 (bar b) ((qm m Q).map (sh qa)) := ar19 hb hR (kA3 19 (by decide)) (lQ.sh hb hqa2).2
  have arT : arR A3 (bar b) ((rm m (bT b r)).map (sh ra)) := ar19 hb hR (kA3 19 (by decide)) (lT.sh hb hra2).2
  have hbnd : ∀ v, v < 48 → A3 34 v = i32 (-1) := fun v hv => by rw [r2 34 (by decide), p2 34 (by decide)]; exact c3 v hv
  have l1 := hT.2.1
  have l2 := hQ.2.1
  have hsep : ∀ d ∈ qm m Q, ∀ e ∈ rm m (bT b r), 100 ≤ d → 100 ≤ e → d + qa ≠ e + ra := by
    intro d hd e he h1 h2
    have a1 := (lQ.cl hb d hd).2
    have a2 := (lT.cl hb e he).2
    by_cases m1 : m = 1
    · rw [if_pos m1] at hqa
      rw [if_pos (Or.inl m1)] at hra
      omega
    · rw [if_neg m1] at hqa
      by_cases m2 : m = 2
      · rw [if_pos (Or.inr m2)] at hra
        omega
      · rw [if_neg (by omega)] at hra
        by_cases m3 : m = 3
        · unfold qm at hd
          rw [if_neg m1, if_pos m3] at hd
          obtain ⟨x, -, rfl⟩ := List.mem_map.mp hd
          unfold star at *
          omega
        · unfold qm at hd
          rw [if_neg m1, if_neg m3] at hd
          have := hQ.lt hb d hd
          omega
  have hgo : ∃ A', jf_X12_isFit_33 ty M (i32 how) (i32 ((0 : Nat) : Int)) M (i32 r) (i32 (ra : Nat)) (rst mm mi h0 M I2 A2 J) = some (bI (fit (bar b) how (rm m (bT b r)) (qm m Q)), rst mm mi h0 M I3 A' J) ∧ keepW A A' := by
    unfold jf_X12_isFit_33
    rw [r1]
    simp (disch := omega) only [xb2s, i32_lit, i32_neg, i32_add, i32_sub, i32_mul, i32_lt, i32_le, i32_eq]
    rcases (show how = 0 ∨ how = 1 ∨ how = 2 by omega) with rfl | rfl | rfl
    · obtain ⟨A4, x1, x2⟩ := r_madeXY (I := I3) (J := J) H hz lT.1 lQ.1 r4 p4' arT arQ (by omega) (by omega) hbnd
      refine ⟨A4, ?_, kA3.tr (keepW.but x2 (by decide))⟩
      rw [if_pos (by omega), x1]
      simp only [xb2s, xz_b, xbs, fit, if_pos]
    · obtain ⟨A4, x1, x2⟩ := r_madeXY (I := I3) (J := J) H hz lQ.1 lT.1 p4' r4 arQ arT (by omega) (by omega) hbnd
      refine ⟨A4, ?_, kA3.tr (keepW.but x2 (by decide))⟩
      rw [if_neg (by omega), if_pos (by omega), x1]
      simp only [xb2s, xz_b, xbs, fit]
      rfl
    · obtain ⟨A4, x1, x2, -⟩ := r_uniXY (I := I3) (J := J) H hb lQ lT hqa2 hra2 hsep (by
        rw [seg_app]
        refine ⟨p4', ?_⟩
        rw [Nat.zero_add, List.length_map, nQ]
        exact r4) (fun d hd => by
        rcases List.mem_append.mp hd with hd | hd
        · exact arQ d hd
        · exact arT d hd) hbnd (p := 0) (by have := hQ.pos; omega)
      refine ⟨A4, ?_, kA3.tr (keepW.b4 x2)⟩
      rw [nQ, List.drop_zero, show fst1 (bar b) (qm m Q) = qm m Q by unfold fst1; rw [skipN_all lQ.1, List.take_length], uniB_symm] at x1
      rw [if_neg (by omega), if_neg (by omega), x1]
      simp only [xb2s, xz_b, xbs, fit]
      rfl
  obtain ⟨A4, g1, g2⟩ := hgo
  refine ⟨I3, A4, ?_, hI3k, g2⟩
  unfold jf_X12_isFit
  simp (disch := omega) only [c1, xbs, p1, xb2s, rI, hI2k, h41, i32_lit, i32_neg, i32_add, i32_sub, i32_mul, i32_lt, i32_le, i32_eq]
  by_cases m1 : m = 1
  · rw [if_pos (by omega)]
    rw [if_pos (Or.inl m1)] at hra
    subst hra
    exact g1
  · rw [if_neg (by omega)]
    by_cases m2 : m = 2
    · rw [if_pos (by omega)]
      rw [if_pos (Or.inr m2)] at hra
      subst hra
      exact g1
    · rw [if_neg (by omega)]
      rw [if_neg (by omega)] at hra
      subst hra
      exact g1
theorem r_fit (H : MH ty M mm mi h0) (hb : bwf b) (hR : RB I A b) {Q : List Nat} (hQ : twf b Q) (hs : seg (A 27) 0 Q) (h28 : I 28 = i32 Q.length) {m : Nat} (hm : m ≤ 3) (h41 : I 41 = i32 m) {r : Nat} (hr : r < bnr b) {how : Nat} (hh : how ≤ 2) :
    ∃ I' A', jf_X12_isFit ty (rst mm mi h0 M I A J) M (i32 how) (i32 r) = some (bI (fit (bar b) how (rm m (bT b r)) (qm m Q)), rst mm mi h0 M I' A' J) ∧ (∀ k, k ≠ 33 → I' k = I k) ∧ keepA A A' := by
  obtain ⟨I', A', q1, q2, q3⟩ := r_fitW (J := J) H hb hR hQ hs h28 hm h41 hr hh
  exact ⟨I', A', q1, q2, q3.a⟩
end FITR2

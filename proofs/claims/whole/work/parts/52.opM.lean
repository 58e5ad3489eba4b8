/-! filled -/
section OPM
variable {ty : xTy} {N M : Nat} {hA hB h0 : xH} {mm mi : Nat → Nat} {c : CS} {I : Nat → Int32} {A : Nat → Nat → Int32} {J : Nat → Int64} {g : Sg} {b : Bk}
theorem fst1_get {ar : Nat → Nat} {L : List Nat} {o k : Nat} (h : tms ar (1 + o) L) (hk : k < skipN ar 1 L) : ∃ d, (fst1 ar L)[k]? = some d ∧ L[k]? = some d := by
  obtain ⟨-, -, -, f3, f4, -⟩ := fst1_split h
  obtain ⟨d, hd⟩ := get_some (L := L) (i := k) (by omega)
  refine ⟨d, ?_, hd⟩
  unfold fst1
  rw [List.getElem?_take, if_pos hk, hd]
theorem op_filled (C : CH ty N) (H : MH ty M mm mi hB) (hg : gwf g) (hc : CRep c g) (hr : RRep I A g) {r w k : Int} (b1 : -2147483648 ≤ r) (b2 : r < 2147483648) (d1 : -2147483648 ≤ w) (d2 : w < 2147483648) (f1 : -2147483648 ≤ k) (f2 : k < 2147483648) :
    OP N hA mm mi hB M J g (jf_X11_filled ty (cst N hA c) (N + 0) (i32 r) (i32 w) (i32 k)) (jf_X12_filled ty (rst mm mi hB M I A J) M (i32 r) (i32 w) (i32 k)) := by
  have h16 := hg.1.2.2.1
  have hql := gq_l hg
  have I2 : ∀ k, k ≠ 33 → k ≠ 2 → k ≠ 39 → fu I 2 (i32 0) k = I k := fun k _ h _ => fu_ne _ _ h
  have hr2 : RRep (fu I 2 (i32 0)) A g := hr.ks I2 keepA.rf
  have hlq := hc.1.as.1
  have hz := bar_z (gb g)
  unfold jf_X11_filled jf_X12_filled
  simp only [rsI, xbs, k_askR C hg hc b1 b2, i32_lit, r_isRule hg.1 hr2.1.2.2.1 b1 b2, isIn_i d1 d2 (show (-2147483648 : Int) ≤ 0 by omega) (by omega) (show (-2147483648 : Int) ≤ 3 by omega) (by omega), bI_eq0, rI, hr2.2.2.1.2.1, i32_lt d1 d2 (show (-2147483648 : Int) ≤ 0 by omega) (by omega), i32_le (show (-2147483648 : Int) ≤ 4 by omega) (by omega) d1 d2, i32_lt f1 f2 (show (-2147483648 : Int) ≤ 0 by omega) (by omega)]
  cases hR : isR (gb g) r with
  | false =>
    simp only [Bool.false_and, if_true]
    refine OP.ret hc hr (i32 (-1)) _ I2 (fu_same _ _ _) ?_ rfl
    split
    · rfl
    · split
      · rfl
      · split <;> rfl
  | true =>
  obtain ⟨r, rfl, hrr⟩ := isR_r hR
  simp only [Bool.true_eq_false, if_false, Bool.true_and, Int.toNat_natCast]
  by_cases w1 : w < 0
  · have e : (decide (0 ≤ w) && decide (w ≤ 3)) = false := by rw [decide_eq_false (by omega)]; rfl
    simp only [eq_true w1, e, if_true]
    exact OP.ret hc hr _ _ I2 (fu_same _ _ _) rfl rfl
  by_cases w2 : 4 ≤ w
  · have e : (decide (0 ≤ w) && decide (w ≤ 3)) = false := by rw [decide_eq_false (show ¬ w ≤ 3 by omega), Bool.and_false]
    simp only [eq_false w1, eq_true w2, e, if_true, if_false]
    exact OP.ret hc hr _ _ I2 (fu_same _ _ _) rfl rfl
  have e : (decide (0 ≤ w) && decide (w ≤ 3)) = true := by rw [decide_eq_true (show 0 ≤ w by omega), decide_eq_true (show w ≤ 3 by omega)]; rfl
  simp only [eq_false w1, eq_false w2, e, Bool.true_eq_false, if_false]
  by_cases w3 : k < 0
  · simp only [eq_true w3, if_true]
    exact OP.ret hc hr _ _ I2 (fu_same _ _ _) rfl rfl
  simp only [eq_false w3, if_false]
  by_cases w4 : gq g = []
  · rw [w4]
    simp only [List.isEmpty_nil, Bool.not_true, Bool.false_and, if_true, List.length_nil]
    exact OP.ret hc hr _ _ I2 (fu_same _ _ _) rfl rfl
  have w4' : (gq g).isEmpty = false := by
    cases hq : gq g with
    | nil => exact absurd hq w4
    | cons => rfl
  have hq : twf (gb g) (gq g) := by
    rcases hg.2.1 with h | h
    · exact absurd h w4
    · exact h
  have hqp := hq.pos
  have w5 : ¬ i32 ((gq g).length : Nat) = i32 0 := by
    rw [i32_eq (by omega) (by omega) (by omega) (by omega)]; omega
  simp only [w4', Bool.not_false, Bool.true_and, eq_false w5, if_false, r_isInNow hg.z hr2.2.1 (show r < 32 by omega), xbs, bI_eq0]
  cases hin : inR (gin g) r with
  | false =>
    simp only [if_true]
    exact OP.ret hc hr _ _ I2 (fu_same _ _ _) rfl rfl
  | true =>
  obtain ⟨w, rfl⟩ : ∃ n : Nat, w = n := ⟨w.toNat, by omega⟩
  obtain ⟨k, rfl⟩ : ∃ n : Nat, k = n := ⟨k.toNat, by omega⟩
  obtain ⟨t1, -, t3, t4⟩ := hc.tm hg hrr
  have lT := hg.lo hrr
  have lQ := hq.lo hg.1
  have lTl := lT.2.1
  obtain ⟨c1, q1, q2, q3⟩ := k_mt (h0 := hA) C hg.1 hc.1 t1 hc.2.2.1 lT lQ (by omega) (by omega)
  obtain ⟨I3, A3, ⟨A1, x1, I2', A2, x2, x3⟩, k1, k2, s1, s2, s3⟩ := r_layQ (I := fu I 2 (i32 0)) (A := A) (J := J) H hg hr2 hq hrr
  have s1' := seg_app.mp s1
  rw [Nat.zero_add, List.length_map] at s1'
  obtain ⟨A4, y1, y2, y3⟩ := r_made (I := I3) (J := J) (o := 0) (b := b00) H ((tms_sh hz 4 _ 1).mpr lT.1) ((tms_sh hz 0 _ 1).mpr lQ.1) s1'.2 s1'.1 (s2.sub (fun c hc => by simp [hc])) (s2.sub (fun c hc => by simp [hc])) (by rw [List.length_map]; omega) (by rw [List.length_map]; omega) (fun v hv => ⟨fun _ => s3 v hv, fun s hs => by cases hs⟩)
  obtain ⟨z1, z2⟩ := mt_sh hz 4 0 (bT (gb g) r) (gq g) b00 b00 (fun v => rfl)
  rw [z1, show i32 ((0 : Nat) : Int) = i32 0 from rfl] at y1
  have hr3 : RRep I3 A4 g := hr2.ks (fun k h _ _ => k1 k h) (k2.tr (keepA.but y2 (by decide)))
  have i3 : I3 2 = i32 0 := by rw [k1 2 (by decide), fu_same]
  have hc1 := hc.fr hg (q2.wide (show 241 ≤ 241 by omega) (show 243 ≤ 257 by omega)) (by omega)
  have e11 := k_sub (h0 := hA) C hc.1 (show (0, 11, 241) ∈ lyL by decide) (by omega) (show ct 241 = some (0, 3) by decide)
  have e11' := k_sub (h0 := hA) C hc1.1 (show (0, 11, 241) ∈ lyL by decide) (by omega) (show ct 241 = some (0, 3) by decide)
  have hT0 := k_termOf (h0 := hA) C hc.1 hc.1.bk t4
  simp only [Bool.true_eq_false, if_false, e11, k_book C hc.1, k_ask C hc.1, hT0, kck C t1.1, xbs, q1, xb2s, x1, x2, x3, y1, bI_eq0]
  rw [show mtB (bar (gb g)) (bT (gb g) r) (gq g) = (mt (bar (gb g)) (bT (gb g) r) (gq g) b00).isSome from rfl]
  cases hm : mt (bar (gb g)) (bT (gb g) r) (gq g) b00 with
  | none =>
    simp only [Option.isSome_none, if_true]
    exact ⟨_, c1, I3, A4, rfl, hc1, rfl, hr3, i3⟩
  | some b' =>
    rw [hm] at z1 z2
    simp only [Option.isSome_some, Bool.true_eq_false, if_false] at z1 ⊢
    obtain ⟨b2, hb2⟩ := Option.isSome_iff_exists.mp z1
    have hSB := z2 b' b2 rfl hb2
    have hBC := q3 b' hm w (by omega)
    have hBR := y3 b2 hb2 (w + 4) (by omega)
    have hv := hSB w
    have hst : ∀ x, cA c1 242 w = x → jf_X3_startOf ty (cst N hA c1) (N + 241) (i32 w) = some x := by
      intro x hx
      unfold jf_X3_startOf
      simp (disch := omega) only [i32_lit, i32_neg, i32_add, i32_sub, i32_mul, i32_lt, i32_le, i32_eq, if_neg, kRl hc1.1 (show (241, 0, 242) ∈ lyL by decide), xbs, kga C (show ct 242 = some (1, 12) by decide), Int.toNat_natCast, hx]
    have h34 : ∀ x, A4 34 (w + 4) = x → xga 1 ty (rst mm mi hB M I3 A4 J) (mm 34) (i32 4 + i32 w) = some x := by
      intro x hx
      rw [i32_add, show ((4 : Int) + (w : Int)) = ((w + 4 : Nat) : Int) by omega, ga_34 H (by omega) (by omega), Int.toNat_natCast, hx]
    simp only [e11', xbs, rr_34 H]
    cases hbw : b' w with
    | none =>
      rw [hbw] at hv
      rw [hst _ (hBC.1 hbw), h34 _ (hBR.1 hv)]
      simp (disch := omega) only [xbs, i32_lit, i32_neg, i32_add, i32_sub, i32_mul, i32_lt, i32_le, i32_eq, if_pos, if_neg]
      exact ⟨_, c1, I3, A4, rfl, hc1, rfl, hr3, i3⟩
    | some s =>
      rw [hbw] at hv
      obtain ⟨p, o, p1, p2, p3, p4⟩ := hBC.2 s hbw
      obtain ⟨p', o', K, u1, u2, u3, u4, u5, u6⟩ := hBR.2 _ hv
      rw [sh0] at u6
      have hQ1 := hc1.2.2.1
      have hbh := t_behind (h0 := hA) C hQ1 (fun d _ => bar_le hg.1 d) (show p ≤ (gq g).length by omega)
      have hen := r_endAt (I := I3) (J := J) H u3 u2 u4 u5
      have sp := fst1_split p3
      have sp' := fst1_split u3
      have hlen : skipN (bar (gb g)) 1 ((gq g).drop p) = skipN (bar (gb g)) 1 K := by
        rw [← sp.2.2.2.1, ← sp'.2.2.2.1, ← p4, ← u6]
      have hle : p + skipN (bar (gb g)) 1 ((gq g).drop p) ≤ (gq g).length := by
        have := sp.2.2.2.2.1
        rw [List.length_drop] at this
        omega
      rw [hst _ p1, h34 _ u1]
      simp (disch := omega) only [xbs, i32_lit, i32_neg, i32_add, i32_sub, i32_mul, i32_lt, i32_le, i32_eq, if_pos, if_neg, k_ask C hc1.1, hbh, hen]
      by_cases hk : k < skipN (bar (gb g)) 1 K
      · obtain ⟨d, g1, g2⟩ := fst1_get p3 (show k < skipN (bar (gb g)) 1 ((gq g).drop p) by omega)
        obtain ⟨d', g3, g4⟩ := fst1_get u3 hk
        have hdd : d' = d := by
          rw [← u6, p4, g1] at g3
          exact (Option.some.inj g3).symm
        subst hdd
        have hQk : (gq g)[p + k]? = some d' := by rw [List.getElem?_drop] at g2; exact g2
        have hco : jf_X7_codeOrMissing ty (cst N hA c1) (N + cR c1 0 4) (i32 ((p : Int) + (k : Int))) = some (i32 d') := by
          rw [t_codeOr C hQ1 (by omega) (by omega), show ((p : Int) + (k : Int)).toNat = p + k by omega, hQk]; rfl
        have hre : xga 1 ty (rst mm mi hB M I3 A4 J) (mm 32) (i32 ((p' : Int) + (k : Int))) = some (i32 d') := by
          have hkl := (List.getElem?_eq_some_iff.mp g4).1
          rw [ga_32 H (by omega) (by omega), show ((p' : Int) + (k : Int)).toNat = p' + k by omega, seg_get u2 g4]
        refine ⟨i32 d', c1, I3, A4, ?_, hc1, ?_, hr3, i3⟩
        · rw [if_pos (by omega), hco]
          rfl
        · rw [if_neg (by omega)]
          simp only [rr_32 H, xbs, hre]
      · refine ⟨i32 (-2), c1, I3, A4, ?_, hc1, ?_, hr3, i3⟩
        · rw [if_neg (by omega)]
        · rw [if_pos (by omega)]
end OPM

/-! TEXT: what is kept of a text; the operation -/
section TEXT2
variable {ty : xTy} {N M : Nat} {hA hB h0 : xH} {mm mi : Nat → Nat} {c : CS} {I I' : Nat → Int32} {A A' : Nat → Nat → Int32} {J : Nat → Int64} {g : Sg} {b : Bk} {F : Nat → Nat} {n : Nat}
theorem seg_lo {f f' : Nat → Int32} {r : Nat} {L : List Nat} (hl : L.length ≤ 12) (hr : r < 16) (h : seg f (12 * (16 + r)) L) (e : ∀ x, x < 192 → f' x = f (192 + x)) : seg f' (12 * r) L := fun i d hd => by
  have hi : i < L.length := (List.getElem?_eq_some_iff.mp hd).1
  rw [e _ (by omega), show 192 + (12 * r + i) = 12 * (16 + r) + i by omega]
  exact h i d hd
theorem i32_all {k : Nat} (hk : k ≤ 16) : (i32 1 <<< (i32 (k : Nat) &&& i32 31)) - i32 1 = i32 ((2 ^ k - 1 : Nat) : Int) := by
  have h := i32_shl1 k (by omega)
  have h1 : 1 ≤ 2 ^ k := Nat.one_le_two_pow
  rw [show (i32 31 : Int32) = 31 from rfl, h, i32_sub]
  congr 1
  omega
theorem twl (hb : bwf b) {r : Nat} (hr : r < bnr b) : (bT b r).length ≤ 12 ∧ (bU b r).length ≤ 12 := by
  obtain ⟨h1, h2⟩ := hb.2.2.2.2 r hr
  refine ⟨h1.2.1, ?_⟩
  rcases h2 with h | h
  · rw [h]; exact Nat.zero_le _
  · exact h.1.2.1
theorem r_kpT (H : MH ty M mm mi h0) (hb : bwf b) (hB : RBr I A b) : ∃ I' A', jf_X12_keepText ty (rst mm mi h0 M I A J) M = some (rst mm mi h0 M I' A' J) ∧ RB I' A' b ∧ (I' 26 = i32 ((2 ^ bnr b - 1 : Nat) : Int) ∧ I' 28 = i32 0 ∧ I' 56 = i32 0 ∧ I' 58 = i32 0) ∧ (∀ k, k ∉ [12, 13, 14, 26, 28, 56, 58] → I' k = I k) ∧ ∀ k, k ∉ [18, 19, 20, 21, 22, 23, 24, 25] → A' k = A k := by
  obtain ⟨I3, hI3⟩ : ∃ I3, I3 = fu (fu (fu I 12 (I 15)) 13 (I 16)) 14 (I 17) := ⟨_, rfl⟩
  obtain ⟨A1, a1, b1, c1⟩ := r_cps (ty := ty) (M := M) (mm := mm) (mi := mi) (h0 := h0) (I := I3) (J := J) (k := 18) (n := 8) (by omega) (fun A i hi => by rw [ga_18 H (by omega) (by omega), Int.toNat_natCast]) (fun A i v hi => by rw [wa_18 H (by omega) (by omega), Int.toNat_natCast]) A
  obtain ⟨A2, a2, b2, c2⟩ := r_cps (ty := ty) (M := M) (mm := mm) (mi := mi) (h0 := h0) (I := I3) (J := J) (k := 19) (n := 8) (by omega) (fun A i hi => by rw [ga_19 H (by omega) (by omega), Int.toNat_natCast]) (fun A i v hi => by rw [wa_19 H (by omega) (by omega), Int.toNat_natCast]) A1
  obtain ⟨A3, a3, b3, c3⟩ := r_cps (ty := ty) (M := M) (mm := mm) (mi := mi) (h0 := h0) (I := I3) (J := J) (k := 20) (n := 4) (by omega) (fun A i hi => by rw [ga_20 H (by omega) (by omega), Int.toNat_natCast]) (fun A i v hi => by rw [wa_20 H (by omega) (by omega), Int.toNat_natCast]) A2
  obtain ⟨A4, a4, b4, c4⟩ := r_cps (ty := ty) (M := M) (mm := mm) (mi := mi) (h0 := h0) (I := I3) (J := J) (k := 21) (n := 16) (by omega) (fun A i hi => by rw [ga_21 H (by omega) (by omega), Int.toNat_natCast]) (fun A i v hi => by rw [wa_21 H (by omega) (by omega), Int.toNat_natCast]) A3
  obtain ⟨A5, a5, b5, c5⟩ := r_cps (ty := ty) (M := M) (mm := mm) (mi := mi) (h0 := h0) (I := I3) (J := J) (k := 22) (n := 16) (by omega) (fun A i hi => by rw [ga_22 H (by omega) (by omega), Int.toNat_natCast]) (fun A i v hi => by rw [wa_22 H (by omega) (by omega), Int.toNat_natCast]) A4
  obtain ⟨A6, a6, b6, c6⟩ := r_cps (ty := ty) (M := M) (mm := mm) (mi := mi) (h0 := h0) (I := I3) (J := J) (k := 23) (n := 192) (by omega) (fun A i hi => by rw [ga_23 H (by omega) (by omega), Int.toNat_natCast]) (fun A i v hi => by rw [wa_23 H (by omega) (by omega), Int.toNat_natCast]) A5
  obtain ⟨A7, a7, b7, c7⟩ := r_cps (ty := ty) (M := M) (mm := mm) (mi := mi) (h0 := h0) (I := I3) (J := J) (k := 24) (n := 16) (by omega) (fun A i hi => by rw [ga_24 H (by omega) (by omega), Int.toNat_natCast]) (fun A i v hi => by rw [wa_24 H (by omega) (by omega), Int.toNat_natCast]) A6
  obtain ⟨A8, a8, b8, c8⟩ := r_cps (ty := ty) (M := M) (mm := mm) (mi := mi) (h0 := h0) (I := I3) (J := J) (k := 25) (n := 192) (by omega) (fun A i hi => by rw [ga_25 H (by omega) (by omega), Int.toNat_natCast]) (fun A i v hi => by rw [wa_25 H (by omega) (by omega), Int.toNat_natCast]) A7
  have a1' : jf_X12_copies ty (rst mm mi h0 M I3 A J) (mm 18) (i32 8) = some (rst mm mi h0 M I3 A1 J) := a1
  have a2' : jf_X12_copies ty (rst mm mi h0 M I3 A1 J) (mm 19) (i32 8) = some (rst mm mi h0 M I3 A2 J) := a2
  have a3' : jf_X12_copies ty (rst mm mi h0 M I3 A2 J) (mm 20) (i32 4) = some (rst mm mi h0 M I3 A3 J) := a3
  have a4' : jf_X12_copies ty (rst mm mi h0 M I3 A3 J) (mm 21) (i32 16) = some (rst mm mi h0 M I3 A4 J) := a4
  have a5' : jf_X12_copies ty (rst mm mi h0 M I3 A4 J) (mm 22) (i32 16) = some (rst mm mi h0 M I3 A5 J) := a5
  have a6' : jf_X12_copies ty (rst mm mi h0 M I3 A5 J) (mm 23) (i32 192) = some (rst mm mi h0 M I3 A6 J) := a6
  have a7' : jf_X12_copies ty (rst mm mi h0 M I3 A6 J) (mm 24) (i32 16) = some (rst mm mi h0 M I3 A7 J) := a7
  have a8' : jf_X12_copies ty (rst mm mi h0 M I3 A7 J) (mm 25) (i32 192) = some (rst mm mi h0 M I3 A8 J) := a8
  clear a1 a2 a3 a4 a5 a6 a7 a8
  have e16 : fu I 12 (I 15) 16 = I 16 := fu_ne _ _ (by decide)
  have e17 : fu (fu I 12 (I 15)) 13 (I 16) 17 = I 17 := by rw [fu_ne _ _ (by decide), fu_ne _ _ (by decide)]
  have e14 : I3 14 = i32 (bnr b : Nat) := by rw [hI3, fu_same]; exact hB.2.2.1
  have h16 := hb.2.2.1
  obtain ⟨I4, hI4⟩ : ∃ I4, I4 = fu (fu (fu (fu I3 26 (i32 ((2 ^ bnr b - 1 : Nat) : Int))) 28 (i32 0)) 56 (i32 0)) 58 (i32 0) := ⟨_, rfl⟩
  have k4 : ∀ k, k ≠ 26 → k ≠ 28 → k ≠ 56 → k ≠ 58 → I4 k = I3 k := fun k q1 q2 q3 q4 => by rw [hI4, fu_ne _ _ q4, fu_ne _ _ q3, fu_ne _ _ q2, fu_ne _ _ q1]
  have g18 : ∀ x, x < 8 → A8 18 x = A 18 (8 + x) := fun x hx => by
    rw [b8 18 (by decide), b7 18 (by decide), b6 18 (by decide), b5 18 (by decide), b4 18 (by decide), b3 18 (by decide), b2 18 (by decide), c1 x hx]
  have g19 : ∀ x, x < 8 → A8 19 x = A 19 (8 + x) := fun x hx => by
    rw [b8 19 (by decide), b7 19 (by decide), b6 19 (by decide), b5 19 (by decide), b4 19 (by decide), b3 19 (by decide), c2 x hx, b1 19 (by decide)]
  have g20 : ∀ x, x < 4 → A8 20 x = A 20 (4 + x) := fun x hx => by
    rw [b8 20 (by decide), b7 20 (by decide), b6 20 (by decide), b5 20 (by decide), b4 20 (by decide), c3 x hx, b2 20 (by decide), b1 20 (by decide)]
  have g21 : ∀ x, x < 16 → A8 21 x = A 21 (16 + x) := fun x hx => by
    rw [b8 21 (by decide), b7 21 (by decide), b6 21 (by decide), b5 21 (by decide), c4 x hx, b3 21 (by decide), b2 21 (by decide), b1 21 (by decide)]
  have g22 : ∀ x, x < 16 → A8 22 x = A 22 (16 + x) := fun x hx => by
    rw [b8 22 (by decide), b7 22 (by decide), b6 22 (by decide), c5 x hx, b4 22 (by decide), b3 22 (by decide), b2 22 (by decide), b1 22 (by decide)]
  have g23 : ∀ x, x < 192 → A8 23 x = A 23 (192 + x) := fun x hx => by
    rw [b8 23 (by decide), b7 23 (by decide), c6 x hx, b5 23 (by decide), b4 23 (by decide), b3 23 (by decide), b2 23 (by decide), b1 23 (by decide)]
  have g24 : ∀ x, x < 16 → A8 24 x = A 24 (16 + x) := fun x hx => by
    rw [b8 24 (by decide), c7 x hx, b6 24 (by decide), b5 24 (by decide), b4 24 (by decide), b3 24 (by decide), b2 24 (by decide), b1 24 (by decide)]
  have g25 : ∀ x, x < 192 → A8 25 x = A 25 (192 + x) := fun x hx => by
    rw [c8 x hx, b7 25 (by decide), b6 25 (by decide), b5 25 (by decide), b4 25 (by decide), b3 25 (by decide), b2 25 (by decide), b1 25 (by decide)]
  refine ⟨I4, A8, ?_, ?_, ⟨?_, ?_, ?_, ?_⟩, fun k hk => ?_, fun k hk => ?_⟩
  · unfold jf_X12_keepText
    simp only [i32_lit, rI, rsI, xbs, e16, e17]
    rw [← hI3]
    simp only [rr_18 H, rr_19 H, rr_20 H, rr_21 H, rr_22 H, rr_23 H, rr_24 H, rr_25 H, xbs, a1', a2', a3', a4', a5', a6', a7', a8', rI, rsI, e14, i32_all h16]
    rw [hI4]
  · unfold RB
    have e12 : I4 12 = I 15 := by rw [k4 12 (by decide) (by decide) (by decide) (by decide), hI3, fu_ne _ _ (by decide), fu_ne _ _ (by decide), fu_same]
    have e13 : I4 13 = I 16 := by rw [k4 13 (by decide) (by decide) (by decide) (by decide), hI3, fu_ne _ _ (by decide), fu_same]
    have e14' : I4 14 = i32 (bnr b : Nat) := by rw [k4 14 (by decide) (by decide) (by decide) (by decide)]; exact e14
    refine ⟨e12.trans hB.1, e13.trans hB.2.1, e14', fun k hk => ?_, fun k hk => ?_, fun r hr => ?_⟩
    · have := hb.1
      rw [g18 k (by omega), g19 k (by omega)]
      exact hB.2.2.2.1 k hk
    · have := hb.2.1
      rw [g20 k (by omega)]
      exact hB.2.2.2.2.1 k hk
    · obtain ⟨x1, x2, x3, x4, x5⟩ := hB.2.2.2.2.2 r hr
      obtain ⟨l1, l2⟩ := twl hb hr
      rw [g21 r (by omega), g22 r (by omega), g24 r (by omega)]
      exact ⟨x1, x2, seg_lo l1 (by omega) x3 g23, x4, seg_lo l2 (by omega) x5 g25⟩
  · rw [hI4, fu_ne _ _ (by decide), fu_ne _ _ (by decide), fu_ne _ _ (by decide), fu_same]
  · rw [hI4, fu_ne _ _ (by decide), fu_ne _ _ (by decide), fu_same]
  · rw [hI4, fu_ne _ _ (by decide), fu_same]
  · rw [hI4, fu_same]
  · simp only [List.mem_cons, List.not_mem_nil, or_false, not_or] at hk
    rw [k4 k (by omega) (by omega) (by omega) (by omega), hI3, fu_ne _ _ (by omega), fu_ne _ _ (by omega), fu_ne _ _ (by omega)]
  · simp only [List.mem_cons, List.not_mem_nil, or_false, not_or] at hk
    rw [b8 k (by omega), b7 k (by omega), b6 k (by omega), b5 k (by omega), b4 k (by omega), b3 k (by omega), b2 k (by omega), b1 k (by omega)]
theorem RB.low (hb : bwf b) (h : RB I A b) (h1 : ∀ k ∈ [12, 13, 14], I' k = I k) (hl : lowA A A') : RB I' A' b := by
  have q1 := hb.1
  have q2 := hb.2.1
  have q3 := hb.2.2.1
  have e18 : ∀ x, x < 8 → A' 18 x = A 18 x := fun x hx => hl.2 18 x hx
  have e19 : ∀ x, x < 8 → A' 19 x = A 19 x := fun x hx => hl.2 19 x hx
  have e20 : ∀ x, x < 4 → A' 20 x = A 20 x := fun x hx => hl.2 20 x hx
  have e21 : ∀ x, x < 16 → A' 21 x = A 21 x := fun x hx => hl.2 21 x hx
  have e22 : ∀ x, x < 16 → A' 22 x = A 22 x := fun x hx => hl.2 22 x hx
  have e23 : ∀ x, x < 192 → A' 23 x = A 23 x := fun x hx => hl.2 23 x hx
  have e24 : ∀ x, x < 16 → A' 24 x = A 24 x := fun x hx => hl.2 24 x hx
  have e25 : ∀ x, x < 192 → A' 25 x = A 25 x := fun x hx => hl.2 25 x hx
  refine ⟨(h1 12 (by decide)).trans h.1, (h1 13 (by decide)).trans h.2.1, (h1 14 (by decide)).trans h.2.2.1, fun k hk => ?_, fun k hk => ?_, fun r hr => ?_⟩
  · rw [e18 k (by omega), e19 k (by omega)]; exact h.2.2.2.1 k hk
  · rw [e20 k (by omega)]; exact h.2.2.2.2.1 k hk
  · obtain ⟨x1, x2, x3, x4, x5⟩ := h.2.2.2.2.2 r hr
    obtain ⟨l1, l2⟩ := twl hb hr
    rw [e21 r (by omega), e22 r (by omega), e24 r (by omega)]
    exact ⟨x1, x2, seg_congr x3 (fun j _ hj => e23 j (by omega)), x4, seg_congr x5 (fun j _ hj => e25 j (by omega))⟩
/-- the books change places -/
def swpB (c : CS) : CS := csR (csR c 0 2 (cR c 0 3)) 0 3 (cR c 0 2)
theorem swpB_R (c : CS) {q k : Nat} (h : q ≠ 0 ∨ (k ≠ 2 ∧ k ≠ 3)) : cR (swpB c) q k = cR c q k := by
  unfold swpB
  rw [cR_R, fu2_ne _ _ (by omega), cR_R, fu2_ne _ _ (by omega)]
theorem swpB_2 (c : CS) : cR (swpB c) 0 2 = cR c 0 3 ∧ cR (swpB c) 0 3 = cR c 0 2 := by
  unfold swpB
  constructor
  · rw [cR_R, fu2_ne _ _ (by omega), cR_R, fu2_same]
  · rw [cR_R, fu2_same]
theorem lyL_23 : ∀ e ∈ lyL, e.1 ≠ 0 ∨ (e.2.1 ≠ 2 ∧ e.2.1 ≠ 3) := by decide
theorem swpB_ly (h : LY c) : LY (swpB c) := by
  obtain ⟨h1, h2, h3, h4, h5, h6⟩ := h
  refine ⟨fun e he => ?_, fun t ht => ?_, h3, ?_, ?_, ?_⟩
  · rw [swpB_R c (lyL_23 e he)]; exact h1 e he
  · have ht0 : t ≠ 0 := fun z => by rw [z] at ht; exact absurd ht (by decide)
    rw [swpB_R c (Or.inl ht0), swpB_R c (Or.inl ht0)]; exact h2 t ht
  · rw [(swpB_2 c).1, (swpB_2 c).2]
    rcases h4 with h | h
    · exact Or.inr ⟨h.2, h.1⟩
    · exact Or.inl ⟨h.2, h.1⟩
  · rw [swpB_R c (by omega), swpB_R c (by omega)]; exact h5
  · rw [swpB_R c (by omega), swpB_R c (by omega)]; exact h6
theorem LY.bk3 (h : LY c) : cR c 0 3 = 2 ∨ cR c 0 3 = 108 := by rcases h.2.2.2.1 with h | h <;> simp [h.2]
theorem k_book3 (C : CH ty N) (h : LY c) : xgo ty (cst N h0 c) (N + 0) 3 0 = some (N + cR c 0 3) := kgo C (by omega) (ct_bk h.bk3).1
def gTx (b : Bk) (f : Nat → Int32) : Sg := (b, [], 2 ^ bnr b - 1, [], none, (0, f), (0, -1))
theorem gTx_wf {f : Nat → Int32} (hb : bwf b) : gwf (gTx b f) := by
  have h1 : 1 ≤ 2 ^ bnr b := Nat.one_le_two_pow
  refine ⟨hb, Or.inl rfl, ?_, Nat.zero_le _, fun x hx => absurd hx List.not_mem_nil, fun x hx => (by cases hx), Nat.zero_le _, fun k hk => absurd hk (Nat.not_lt_zero k), ?_, ?_, ?_, ?_⟩
  · show 2 ^ bnr b - 1 < 2 ^ bnr b
    omega
  · show (-1 : Int) ≤ 0; omega
  · show (0 : Int) ≤ 1000; omega
  · show (-1 : Int) ≤ -1; omega
  · show (-1 : Int) ≤ 1000; omega
theorem k_tx (C : CH ty N) (hL : LY c) (hb : bwf b) (hB : CB c (cR c 0 3) b) (h01 : cI c 0 1 = i32 0) (h3 : cI c 226 3 = i32 0) (h4 : cI c 226 4 = i32 (-1)) (f : Nat → Int32) (a8 : Int32) : ∃ c', ((xgo ty (cst N h0 c) (N + 0) 2 0).bind fun a10 => (xgo ty (cst N h0 c) (N + 0) 3 0).bind fun a11 => (some (xsR (cst N h0 c) (N + 0) 2 (some a11))).bind fun h12 => (some (xsR h12 (N + 0) 3 (some a10))).bind fun h13 => (xgo ty h13 (N + 0) 4 7).bind fun a14 => (jf_X7_clear ty h13 a14).bind fun h15 => (xgo ty h15 (N + 0) 9 6).bind fun a16 => (xgo ty h15 (N + 0) 2 0).bind fun a17 => (jf_X6_startAnew ty h15 a16 (xI h15 a17 9)).bind fun h18 => (xgo ty h18 (N + 0) 10 9).bind fun a19 => (xgo ty h18 (N + 0) 2 0).bind fun a20 => (xgo ty h18 (N + 0) 9 6).bind fun a21 => (jf_X9_plant ty h18 a19 a20 a21).bind fun h22 => some (a8, h22)) = some (a8, cst N h0 c') ∧ CRep c' (gTx b f) := by
  have hS := hL.bk3
  have h16 := hb.2.2.1
  obtain ⟨S, eS⟩ : ∃ S, S = cR c 0 3 := ⟨_, rfl⟩
  have hL1 := swpB_ly hL
  have ha : cR (swpB c) 0 4 = cR c 0 4 := swpB_R c (by omega)
  have h4a := hL.as.1
  obtain ⟨c2, hc2⟩ : ∃ c2, c2 = csI (swpB c) (cR c 0 4) 2 (i32 0) := ⟨_, rfl⟩
  have f2 : fr (cR c 0 4) (cR c 0 4 + 3) (swpB c) c2 := by rw [hc2]; exact fr.I (by omega) (by omega)
  have hL2 := hL1.same f2.2.1 f2.2.2
  obtain ⟨c3, hc3⟩ : ∃ c3, c3 = csI (csI (csI c2 232 4 (i32 ((2 ^ bnr b - 1 : Nat) : Int))) 232 3 (i32 0)) 232 2 (i32 0) := ⟨_, rfl⟩
  have f3 : fr 232 234 c2 c3 := by
    rw [hc3]
    exact (fr.tr (fr.I (by omega) (by omega)) (fr.I (by omega) (by omega))).tr (fr.I (by omega) (by omega))
  have hL3 := hL2.same f3.2.1 f3.2.2
  rw [← eS] at hB hS
  have hB1 : CB (swpB c) S b := hB.keep h16 (fun q q1 q2 => ⟨rfl, rfl, funext (fun k => swpB_R c (Or.inl (by omega)))⟩)
  have hB2 : CB c2 S b := hB1.keep h16 (fun q q1 q2 => ⟨(f2.1 q (by omega)).1, (f2.1 q (by omega)).2, by rw [f2.2.1]⟩)
  have hB3 : CB c3 S b := hB2.keep h16 (fun q q1 q2 => ⟨(f3.1 q (by omega)).1, (f3.1 q (by omega)).2, by rw [f3.2.1]⟩)
  have i4 : cI c3 232 4 = i32 ((2 ^ bnr b - 1 : Nat) : Int) := by rw [hc3, sI_o (by omega), sI_o (by omega), sI_s]
  have i3 : cI c3 232 3 = i32 0 := by rw [hc3, sI_o (by omega), sI_s]
  have i2 : cI c3 232 2 = i32 0 := by rw [hc3, sI_s]
  have hz : 2 ^ bnr b - 1 < 65536 := by
    have : 2 ^ bnr b ≤ 2 ^ 16 := Nat.pow_le_pow_right (by omega) h16
    omega
  obtain ⟨c4, p1, p2, p3⟩ := k_plant (h0 := h0) C hb hS hz hL3 hB3 i4
  have eR2 : cR c2 0 2 = S := by rw [f2.2.1, (swpB_2 c).1, eS]
  have eR3 : cR c3 0 2 = S := by rw [f3.2.1, eR2]
  have eR4 : cR c4 0 2 = S := by rw [p2.2.2.1, eR3]
  have eA4 : cR c4 0 4 = cR c 0 4 := by rw [p2.2.2.1, f3.2.1, f2.2.1, ha]
  have i9 : cI c2 S 9 = i32 (bnr b : Nat) := hB2.2.2.1
  have hq : isT c2 (cR c 0 4) 12 (bar b) [] := by
    rcases h4a with e | e <;> rw [e] at hc2 ⊢ <;> exact isT_nil hL2 (by decide) (by decide) (by decide) (by decide) (by rw [hc2, sI_s])
  refine ⟨c4, ?_, p2.ly hL3, ?_, ?_, ⟨?_, ?_, ⟨[], seg_nil _ _, trivial⟩, ?_, fun x hx => (by cases hx)⟩, ?_, ⟨?_, fun k hk => absurd hk (Nat.not_lt_zero k)⟩, ?_, ?_⟩
  · have hcl : jf_X7_clear ty (cst N h0 (swpB c)) (N + cR c 0 4) = some (cst N h0 c2) := by
      rw [k_clear C (by rcases h4a with e | e <;> rw [e] <;> decide), ← hc2]
    have hst : jf_X6_startAnew ty (cst N h0 c2) (N + 232) (i32 (bnr b : Nat)) = some (cst N h0 c3) := by
      unfold jf_X6_startAnew
      simp (disch := omega) only [i32_lit, i32_all h16, ksI, xbs]
      rw [hc3]
    have e9 : ∀ c', LY c' → xgo ty (cst N h0 c') (N + 0) 9 6 = some (N + 232) := fun c' hc' => k_sub C hc' (show (0, 9, 232) ∈ lyL by decide) (by omega) (show ct 232 = some (0, 6) by decide)
    have hsw : cst N h0 (csR (csR c 0 2 (cR c 0 3)) 0 3 (cR c 0 2)) = cst N h0 (swpB c) := rfl
    have hS3 : S < 273 := by omega
    simp (disch := omega) only [k_book C hL, k_book3 C hL, xbs, ksR]
    rw [hsw, k_ask C hL1, xbs, ha, hcl, xbs, e9 c2 hL2, xbs, k_book C hL2, xbs, eR2, kI hS3, i9, hst, xbs, k_tree C hL3, xbs, k_book C hL3, xbs, e9 c3 hL3, xbs, eR3, p1, xbs]
  · rw [eR4]; exact p2.cb hb hS hB3
  · rw [eA4]
    refine hq.keep ?_ ?_ ?_ ?_
    · rw [p2.1 _ (by omega), (f3.1 _ (by omega)).1]
    · rw [p2.2.1 _ (by omega) (by omega), (f3.1 _ (by omega)).2]
    · rw [p2.2.1 _ (by omega) (by omega), (f3.1 _ (by omega)).2]
    · rw [p2.2.2.1, f3.2.1]
  · rw [p2.1 232 (by decide)]; exact i4
  · rw [p2.1 232 (by decide)]; exact i3
  · rw [p2.1 232 (by decide)]; exact i2
  · rw [eR4]; exact p3
  · rw [p2.1 0 (by decide), (f3.1 0 (by omega)).1, (f2.1 0 (by omega)).1]; exact h01
  · rw [p2.1 226 (by decide), (f3.1 226 (by omega)).1, (f2.1 226 (by omega)).1]; exact h3
  · rw [p2.1 226 (by decide), (f3.1 226 (by omega)).1, (f2.1 226 (by omega)).1]; exact h4
end TEXT2

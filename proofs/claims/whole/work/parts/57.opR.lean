/-! named -/
section OPR
variable {ty : xTy} {N M : Nat} {hA hB h0 : xH} {mm mi : Nat → Nat} {c : CS} {I : Nat → Int32} {A : Nat → Nat → Int32} {J : Nat → Int64} {g : Sg} {b : Bk}
theorem fndA_cong {f f' : Nat → Int32} {p p' : Nat} {x : Int32} : ∀ (m k : Nat), (∀ i, k ≤ i → i < k + m → f (p + i) = f' (p' + i)) → fndA f p x k m = fndA f' p' x k m
  | 0, _, _ => rfl
  | m + 1, k, h => by
    simp only [fndA]
    rw [h k (by omega) (by omega), fndA_cong m (k + 1) (fun i h1 h2 => h i (by omega) (by omega))]
theorem k_place2 (C : CH ty N) {q len nn : Nat} (hq : ct q = some (1, len)) (hl : nn ≤ len) (h1000 : len ≤ 1000) {x : Int32} : ∀ (m k : Nat), k + m = nn → jf_X0_placeOf_2 ty (cst N h0 c) (m + 1) (N + q) (i32 nn) x (i32 k) = some (i32 (fndA (cA c q) 0 x k m)) := by
  intro m
  induction m with
  | zero =>
    intro k hk
    rw [jf_X0_placeOf_2_s]
    simp (disch := omega) only [i32_lit, i32_neg, i32_add, i32_sub, i32_mul, i32_lt, i32_le, i32_eq, if_pos, fndA]
  | succ m ih =>
    intro k hk
    rw [jf_X0_placeOf_2_s]
    simp (disch := omega) only [i32_lit, i32_neg, i32_add, i32_sub, i32_mul, i32_lt, i32_le, i32_eq, if_neg, kln C hq, xbs, kga C hq, Int.toNat_natCast, fndA, Nat.zero_add]
    by_cases hx : cA c q k = x
    · simp only [eq_true hx, if_true]
    · simp only [eq_false hx, if_false]
      rw [show (k : Int) + 1 = ((k + 1 : Nat) : Int) by omega]
      exact ih (k + 1) (by omega)
theorem k_place (C : CH ty N) {q len nn : Nat} (hq : ct q = some (1, len)) (hl : nn ≤ len) (h1000 : len ≤ 1000) {x : Int32} : jf_X0_placeOf ty (cst N h0 c) (N + q) (i32 nn) x = some (i32 (fndA (cA c q) 0 x 0 nn)) := jf_X0_placeOf_2_l (k_place2 C hq hl h1000 nn 0 (by omega))
theorem op_named (C : CH ty N) (H : MH ty M mm mi hB) (hg : gwf g) (hc : CRep c g) (hr : RRep I A g) {w : Int} (d1 : -2147483648 ≤ w) (d2 : w < 2147483648) (x : Int32) :
    OPp mm mi hB M J g (jf_X11_named ty (cst N hA c) (N + 0) (i32 w) x) (jf_X12_named ty (rst mm mi hB M I A J) M (i32 w) x) := by
  obtain ⟨n8, n4, n16, -, -⟩ := id hg.1
  have hr2 : RRep (fu I 2 (i32 0)) A g := hr.ks (fun k _ h _ => fu_ne _ _ h) keepA.rf
  have hB' := hc.1.bk
  have ctb := ct_bk hB'
  have hbf := hc.1.bf hB'
  have hlt := ct_lt ctb.1
  obtain ⟨c1, c2, c3, c4, c5, c6⟩ := hc.2.1
  obtain ⟨r1, r2, r3, r4, r5, r6⟩ := hr2.1
  have p1 := k_place (h0 := hA) (c := c) C ctb.2.1 n8 (by omega) (x := x)
  have p2 := k_place (h0 := hA) (c := c) C ctb.2.2.2.1 n4 (by omega) (x := x)
  have p3 := k_place (h0 := hA) (c := c) C ctb.2.2.2.2.1 n16 (by omega) (x := x)
  have q1 := r_find (h := rst mm mi hB M (fu I 2 (i32 0)) A J) (x := x) (H.2 18 (by decide)).2.1 (p := 0) (nn := bns (gb g)) (by show 0 + _ ≤ 16; omega) (by decide)
  have q2 := r_find (h := rst mm mi hB M (fu I 2 (i32 0)) A J) (x := x) (H.2 20 (by decide)).2.1 (p := 0) (nn := bnv (gb g)) (by show 0 + _ ≤ 8; omega) (by decide)
  have q3 := r_find (h := rst mm mi hB M (fu I 2 (i32 0)) A J) (x := x) (H.2 21 (by decide)).2.1 (p := 0) (nn := bnr (gb g)) (by show 0 + _ ≤ 32; omega) (by decide)
  rw [show i32 ((0 : Nat) : Int) = i32 0 from rfl] at q1 q2 q3
  rw [fndA_cong (f := xA (rst mm mi hB M (fu I 2 (i32 0)) A J) (mm 18)) (f' := cA c (cR c 0 2 + 1)) (p := 0) (p' := 0) _ 0 (fun i _ hi => by rw [rA_of H (by decide), Nat.zero_add, (r4 i (by omega)).1, (c4 i (by omega)).1])] at q1
  rw [fndA_cong (f := xA (rst mm mi hB M (fu I 2 (i32 0)) A J) (mm 20)) (f' := cA c (cR c 0 2 + 3)) (p := 0) (p' := 0) _ 0 (fun i _ hi => by rw [rA_of H (by decide), Nat.zero_add, r5 i (by omega), c5 i (by omega)])] at q2
  rw [fndA_cong (f := xA (rst mm mi hB M (fu I 2 (i32 0)) A J) (mm 21)) (f' := cA c (cR c 0 2 + 4)) (p := 0) (p' := 0) _ 0 (fun i _ hi => by rw [rA_of H (by decide), Nat.zero_add, (r6 i (by omega)).1, (c6 i (by omega)).1])] at q3
  have b1 := fndA_lt (cA c (cR c 0 2 + 1)) 0 x (bns (gb g)) 0
  have b2 := fndA_lt (cA c (cR c 0 2 + 3)) 0 x (bnv (gb g)) 0
  unfold jf_X11_named jf_X12_named jf_X0_codeNamed jf_X0_ruleNamed jf_X12_codeBy jf_X12_codeBy_23
  simp (disch := omega) only [i32_lit, i32_neg, i32_add, i32_sub, i32_mul, i32_lt, i32_le, i32_eq, rsI, xbs, rI, k_book C hc.1, kR hlt, hbf, kI hlt, c1, c2, c3, r1, r2, r3, p1, p2, p3, rr_18 H, rr_20 H, rr_21 H]
  by_cases w1 : w = 0
  · simp only [eq_true w1, if_true]
    have z8 : (8 * (0 : Int)) = 0 := by omega
    have z4 : (4 * (0 : Int)) = 0 := by omega
    simp (disch := omega) only [z8, z4, q1, q2, xbs, i32_lit, i32_neg, i32_add, i32_sub, i32_mul, i32_lt, i32_le, i32_eq]
    by_cases w2 : fndA (cA c (cR c 0 2 + 1)) 0 x 0 (bns (gb g)) < 0
    · simp only [eq_true w2, if_true]
      by_cases w3 : fndA (cA c (cR c 0 2 + 3)) 0 x 0 (bnv (gb g)) < 0
      · have w3' : ¬ 0 ≤ fndA (cA c (cR c 0 2 + 3)) 0 x 0 (bnv (gb g)) := by omega
        simp only [eq_true w3, eq_false w3', if_true, if_false]
        exact OPp.ret hr rfl rfl
      · have w3' : 0 ≤ fndA (cA c (cR c 0 2 + 3)) 0 x 0 (bnv (gb g)) := by omega
        simp only [eq_false w3, eq_true w3', if_true, if_false]
        exact OPp.ret hr rfl rfl
    · simp only [eq_false w2, if_false]
      exact OPp.ret hr rfl rfl
  · simp only [eq_false w1, if_false]
    by_cases w2 : w = 1
    · simp only [eq_true w2, if_true, q3, xbs]
      exact OPp.ret hr rfl rfl
    · simp only [eq_false w2, if_false]
      exact OPp.ret hr rfl rfl
end OPR

/-! depth: both -/
section OPT
variable {ty : xTy} {N M : Nat} {hA hB h0 : xH} {mm mi : Nat → Nat} {c : CS} {I : Nat → Int32} {A : Nat → Nat → Int32} {J : Nat → Int64} {g : Sg} {b : Bk}
theorem r_dp35 (H : MH ty M mm mi h0) (hb : bwf b) (hR : RB I A b) {r p m : Nat} (hr : r < bnr b) (hp : p < (bT b r).length) (hm : m ≤ 100) {k19 : Nat → Int32 → Int32 → Int32 → xH → Option (Int32 × xH)} : ∀ (j a : Nat), a + j = p + 1 → jf_X12_depth_35 ty k19 (j + 1) M (i32 r) (i32 m) (i32 p) (i32 (sumF (enc (bar b) (bT b r) p) a : Nat)) (i32 a) (rst mm mi h0 M I A J) = k19 M (i32 r) (i32 ((max m (lvl (bar b) (bT b r) p) : Nat) : Int)) (i32 ((p + 1 : Nat) : Int)) (rst mm mi h0 M I A J) := by
  have h16 := hb.2.2.1
  have hT := (hb.2.2.2.2 r hr).1
  have hl := hT.2.1
  intro j
  induction j with
  | zero =>
    intro a h1
    obtain rfl : a = p + 1 := by omega
    have hself : enc (bar b) (bT b r) p p = 1 := by
      obtain ⟨d, hd⟩ := get_some hp
      unfold enc
      rw [drop_cons hd, if_pos]
      have h1s : 1 ≤ skipN (bar b) 1 (d :: (bT b r).drop (p + 1)) := skipN_pos (ar := bar b) (o := 0) (c := d) (L := (bT b r).drop (p + 1))
      omega
    have e : sumF (enc (bar b) (bT b r) p) (p + 1) = lvl (bar b) (bT b r) p := by
      simp only [sumF, hself, lvl]
      omega
    have hl2 := lvl_le (bar b) (bT b r) p
    rw [e, jf_X12_depth_35_s]
    simp (disch := omega) only [i32_lit, i32_neg, i32_add, i32_sub, i32_mul, i32_lt, i32_le, i32_eq, if_pos]
    rw [show (p : Int) + 1 = ((p + 1 : Nat) : Int) by omega]
    by_cases hw : (lvl (bar b) (bT b r) p : Int) ≤ (m : Int)
    · rw [if_pos hw, Nat.max_eq_left (by omega)]
    · rw [if_neg hw, Nat.max_eq_right (by omega)]
  | succ j ih =>
    intro a h1
    have hs := sumF_le (enc_le (bar b) (bT b r) p) a
    have he := r_endRow (I := I) (A := A) (J := J) H hb hR hr (show a < (bT b r).length by omega)
    have hk := skip_le (bar b) ((bT b r).drop a) 1
    rw [List.length_drop] at hk
    rw [jf_X12_depth_35_s]
    simp (disch := omega) only [i32_lit, i32_neg, i32_add, i32_sub, i32_mul, i32_lt, i32_le, i32_eq, if_neg, rr_23 H, rr_19 H, xbs]
    rw [show (12 * (r : Int) + (a : Int)) = ((12 * r + a : Nat) : Int) by omega, he, show (a : Int) + 1 = ((a + 1 : Nat) : Int) by omega]
    simp (disch := omega) only [xbs, i32_lit, i32_neg, i32_add, i32_sub, i32_mul, i32_lt, i32_le, i32_eq]
    have := ih (a + 1) (by omega)
    by_cases hw : ((12 * r + a + skipN (bar b) 1 ((bT b r).drop a) : Nat) : Int) ≤ 12 * (r : Int) + (p : Int)
    · have he : enc (bar b) (bT b r) p a = 0 := by unfold enc; rw [if_neg (by omega)]
      simp only [sumF, he, Nat.add_zero] at this
      simp only [eq_true hw, if_true]
      rw [Int.add_zero]
      exact this
    · have he : enc (bar b) (bT b r) p a = 1 := by unfold enc; rw [if_pos (by omega)]
      simp only [sumF, he] at this
      simp only [eq_false hw, if_false]
      rw [show ((sumF (enc (bar b) (bT b r) p) a : Nat) : Int) + 1 = ((sumF (enc (bar b) (bT b r) p) a + 1 : Nat) : Int) by omega]
      exact this
theorem r_dp19 (H : MH ty M mm mi h0) (hb : bwf b) (hR : RB I A b) {r : Nat} (hr : r < bnr b) : ∀ (j p : Nat), p + j = (bT b r).length → jf_X12_depth_19 ty (j + 1) M (i32 r) (i32 (mxF (lvl (bar b) (bT b r)) p : Nat)) (i32 p) (rst mm mi h0 M I A J) = some (i32 (mxF (lvl (bar b) (bT b r)) (bT b r).length : Nat), rst mm mi h0 M I A J) := by
  have h16 := hb.2.2.1
  have hT := (hb.2.2.2.2 r hr).1
  have hl := hT.2.1
  intro j
  induction j with
  | zero =>
    intro p h1
    rw [jf_X12_depth_19_s]
    simp (disch := omega) only [rr_22 H, ga_22 H, xbs, Int.toNat_natCast, (hR.2.2.2.2.2 r hr).2.1, i32_lit, i32_neg, i32_add, i32_sub, i32_mul, i32_lt, i32_le, i32_eq, if_pos]
    rw [show p = (bT b r).length by omega]
  | succ j ih =>
    intro p h1
    have hm : mxF (lvl (bar b) (bT b r)) p ≤ 100 := mxF_le p (fun k hk => by have := lvl_le (bar b) (bT b r) k; omega)
    rw [jf_X12_depth_19_s]
    simp (disch := omega) only [rr_22 H, ga_22 H, xbs, Int.toNat_natCast, (hR.2.2.2.2.2 r hr).2.1, i32_lit, i32_neg, i32_add, i32_sub, i32_mul, i32_lt, i32_le, i32_eq, if_neg]
    exact jf_X12_depth_35_l ((r_dp35 (J := J) H hb hR hr (show p < (bT b r).length by omega) hm (p + 1) 0 (by omega)).trans (ih (p + 1) (by omega)))
theorem op_depth (C : CH ty N) (H : MH ty M mm mi hB) (hg : gwf g) (hc : CRep c g) (hr : RRep I A g) {r : Int} (b1 : -2147483648 ≤ r) (b2 : r < 2147483648) :
    OPp mm mi hB M J g (jf_X11_depth ty (cst N hA c) (N + 0) (i32 r)) (jf_X12_depth ty (rst mm mi hB M I A J) M (i32 r)) := by
  have h16 := hg.1.2.2.1
  have hr2 : RRep (fu I 2 (i32 0)) A g := hr.ks (fun k _ h _ => fu_ne _ _ h) keepA.rf
  unfold jf_X11_depth jf_X12_depth
  simp (disch := omega) only [i32_lit, i32_neg, i32_add, i32_sub, i32_mul, i32_lt, i32_le, i32_eq, rsI, xbs, bI_eq0, k_book C hc.1, k_hasRule hg.1 hc.1.bk hc.2.1 b1 b2, r_isRule hg.1 hr2.1.2.2.1 b1 b2]
  cases hR : isR (gb g) r with
  | false =>
    simp only [if_true]
    exact OPp.ret hr rfl rfl
  | true =>
  obtain ⟨r, rfl, hrr⟩ := isR_r hR
  have tr := hc.tm hg hrr
  have hlv : jf_X7_levels ty (cst N hA c) (N + (cR c 0 2 + 10 + 6 * r)) = some (i32 (mxF (lvl (bar (gb g)) (bT (gb g) r)) (bT (gb g) r).length : Nat)) := jf_X7_levels_4_l (k_lv4 (h0 := hA) C tr.1 (fun d _ => bar_le hg.1 d) (bT (gb g) r).length 0 (by omega))
  have hdp := jf_X12_depth_19_l (r_dp19 (J := J) H hg.1 hr2.1 hrr (bT (gb g) r).length 0 (by omega))
  simp (disch := omega) only [Bool.true_eq_false, if_false, k_termOf C hc.1 hc.1.bk, xbs, kck C tr.1.1, hlv]
  exact OPp.ret hr rfl hdp
end OPT

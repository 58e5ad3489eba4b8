/-! feed -/
def byt (w : Int32) (s : Nat) : Int32 := xush w (i32 s) &&& i32 255
theorem b_255 {i : Nat} (hi : i < 32) : bt (i32 255) i = decide (i < 8) := by
  rw [show i32 255 = i32 ((255 : Nat) : Int) from rfl, bt_i _ hi, show (255 : Nat) = 2 ^ 8 - 1 from rfl, Nat.testBit_two_pow_sub_one]
theorem byt_s (w : Int32) {s : Nat} (hs : s ≤ 24) : (w >>> (i32 s &&& i32 31)) &&& i32 255 = byt w s := by
  refine b_ext (fun i hi => ?_)
  unfold byt xush
  rw [b_and, b_and, b_255 hi, show i32 s &&& i32 31 = nI s &&& 31 from rfl, b_sshr s (by omega) _ hi, show i32 (s : Nat) = nI s from rfl, b_ushr s (by omega)]
  by_cases h : i < 8
  · rw [if_pos (by omega)]
  · rw [decide_eq_false h, Bool.and_false, Bool.and_false]
theorem byt_n (w : Int32) {s : Nat} (hs : s ≤ 24) : ∃ n : Nat, n < 256 ∧ byt w s = i32 n := by
  refine ⟨(w.toBitVec.toNat >>> s) % 2 ^ 8, Nat.mod_lt _ (by decide), b_ext (fun i hi => ?_)⟩
  unfold byt xush
  rw [b_and, b_255 hi, show i32 (s : Nat) = nI s from rfl, b_ushr s (by omega), bt_i _ hi, Nat.testBit_mod_two_pow, Nat.testBit_shiftRight, Bool.and_comm]
  rfl
/-- the tape with five numbers more -/
def fdF (f : Nat → Int32) (t : Nat) (W : Nat → Int32) (y : Nat) : Int32 := if y < t then f y else byt (W ((y - t) / 4)) (24 - 8 * ((y - t) % 4))
def gTp (g : Sg) (tp : Nat × (Nat → Int32)) : Sg := (g.1, g.2.1, g.2.2.1, g.2.2.2.1, g.2.2.2.2.1, tp, g.2.2.2.2.2.2)
section FEED
variable {ty : xTy} {N M : Nat} {hA hB h0 : xH} {mm mi : Nat → Nat} {c : CS} {I : Nat → Int32} {A : Nat → Nat → Int32} {J : Nat → Int64} {g : Sg} {b : Bk}
theorem LY.tp (h : LY c) : cR c 0 0 = 1 := h.1 _ (show (0, 0, 1) ∈ lyL by decide)
theorem k_tp3 (C : CH ty N) {w : Int32} {t : Nat} (ht : t + 4 ≤ 700) : ∀ (k j : Nat) (c : CS), j + k = 4 → LY c → cI c 0 1 = i32 ((t + j : Nat) : Int) →
    ∃ c', jf_X11_tapeNumber_3 ty (k + 1) (N + 0) w (i32 (24 - 8 * (j : Int))) (cst N h0 c) = some (cst N h0 c') ∧ fr 0 2 c c' ∧ cI c' 0 1 = i32 ((t + 4 : Nat) : Int) ∧ (∀ x, j ≤ x → x < 4 → cA c' 1 (t + x) = byt w (24 - 8 * x)) ∧ ∀ y, y < t + j → cA c' 1 y = cA c 1 y := by
  intro k
  induction k with
  | zero =>
    intro j c h1 hL h2
    refine ⟨c, ?_, fr.rf, ?_, fun x a1 a2 => by omega, fun _ _ => rfl⟩
    · rw [jf_X11_tapeNumber_3_s]
      simp (disch := omega) only [i32_lit, i32_neg, i32_add, i32_sub, i32_mul, i32_lt, i32_le, i32_eq, if_pos]
    · rw [h2, show t + j = t + 4 by omega]
  | succ k ih =>
    intro j c h1 hL h2
    obtain ⟨c1, hc1⟩ : ∃ c1, c1 = csA c 1 (t + j) (byt w (24 - 8 * j)) := ⟨_, rfl⟩
    obtain ⟨c2, hc2⟩ : ∃ c2, c2 = csI c1 0 1 (i32 ((t + (j + 1) : Nat) : Int)) := ⟨_, rfl⟩
    have f1 : fr 0 2 c c1 := by rw [hc1]; exact fr.A (by omega) (by omega)
    have f2 : fr 0 2 c1 c2 := by rw [hc2]; exact fr.I (by omega) (by omega)
    have f12 := f1.tr f2
    have i1 : cI c1 0 1 = i32 ((t + j : Nat) : Int) := by rw [hc1]; exact h2
    obtain ⟨c', q1, q2, q3, q4, q5⟩ := ih (j + 1) c2 (by omega) (hL.same f12.2.1 f12.2.2) (by rw [hc2, sI_s])
    refine ⟨c', ?_, f12.tr q2, q3, fun x a1 a2 => ?_, fun y hy => ?_⟩
    · rw [jf_X11_tapeNumber_3_s, ← q1]
      simp (disch := omega) only [kI, h2, i32_lit, i32_neg, i32_add, i32_sub, i32_mul, i32_lt, i32_le, i32_eq, if_neg, kR, hL.tp, xbs, kwa C (show ct 1 = some (1, 700) by decide), Int.toNat_natCast]
      rw [show (24 : Int) - 8 * (j : Int) = ((24 - 8 * j : Nat) : Int) by omega, show xush w (i32 ((24 - 8 * j : Nat) : Int)) &&& i32 255 = byt w (24 - 8 * j) from rfl, ← hc1]
      simp (disch := omega) only [kI, i1, ksI, i32_lit, i32_neg, i32_add, i32_sub, i32_mul, i32_lt, i32_le, i32_eq]
      rw [show ((t + j : Nat) : Int) + 1 = ((t + (j + 1) : Nat) : Int) by omega, ← hc2, show ((24 - 8 * j : Nat) : Int) + -8 = 24 - 8 * (((j + 1 : Nat)) : Int) by omega]
    · rcases Nat.lt_or_ge j x with h | h
      · exact q4 x h a2
      · have : x = j := by omega
        subst this
        rw [q5 (t + x) (by omega), hc2, cA_I, hc1, sA_s]
    · rw [q5 y (by omega), hc2, cA_I, hc1, sA_n (by omega)]
theorem k_tp (C : CH ty N) {w : Int32} {t : Nat} (ht : t + 4 ≤ 700) (hL : LY c) (h2 : cI c 0 1 = i32 (t : Nat)) :
    ∃ c', jf_X11_tapeNumber ty (cst N h0 c) (N + 0) w = some (cst N h0 c') ∧ fr 0 2 c c' ∧ cI c' 0 1 = i32 ((t + 4 : Nat) : Int) ∧ (∀ x, x < 4 → cA c' 1 (t + x) = byt w (24 - 8 * x)) ∧ ∀ y, y < t → cA c' 1 y = cA c 1 y := by
  obtain ⟨c', q1, q2, q3, q4, q5⟩ := k_tp3 (h0 := h0) (w := w) C ht 4 0 c (by omega) hL h2
  exact ⟨c', jf_X11_tapeNumber_3_l q1, q2, q3, fun x hx => q4 x (by omega) hx, q5⟩
/-- one more of the five -/
theorem k_tpS (C : CH ty N) {W : Nat → Int32} {t i : Nat} {f : Nat → Int32} (ht : t + 20 ≤ 700) (hi : i < 5) (hL : LY c) (h2 : cI c 0 1 = i32 ((t + 4 * i : Nat) : Int)) (h3 : ∀ y, y < t + 4 * i → cA c 1 y = fdF f t W y) :
    ∃ c', jf_X11_tapeNumber ty (cst N h0 c) (N + 0) (W i) = some (cst N h0 c') ∧ fr 0 2 c c' ∧ cI c' 0 1 = i32 ((t + 4 * (i + 1) : Nat) : Int) ∧ ∀ y, y < t + 4 * (i + 1) → cA c' 1 y = fdF f t W y := by
  obtain ⟨c', q1, q2, q3, q4, q5⟩ := k_tp (h0 := h0) (w := W i) C (show t + 4 * i + 4 ≤ 700 by omega) hL h2
  refine ⟨c', q1, q2, by rw [q3]; congr 1, fun y hy => ?_⟩
  rcases Nat.lt_or_ge y (t + 4 * i) with h | h
  · rw [q5 y h, h3 y h]
  · have := q4 (y - (t + 4 * i)) (by omega)
    rw [show t + 4 * i + (y - (t + 4 * i)) = y by omega] at this
    rw [this]
    unfold fdF
    rw [if_neg (by omega), show (y - t) / 4 = i by omega, show (y - t) % 4 = y - (t + 4 * i) by omega]
theorem crep_tp {c' : CS} {tp : Nat × (Nat → Int32)} (hg : gwf g) (h : CRep c g) (f : fr 0 2 c c') (h1 : cI c' 0 1 = i32 tp.1) (h2 : ∀ k, k < tp.1 → cA c' 1 k = tp.2 k) : CRep c' (gTp g tp) := by
  obtain ⟨a1, a2, a3, a4, a5, a6, a7⟩ := h
  have hB := a1.bk
  have hQ := a1.as.1
  have hL := a1.same f.2.1 f.2.2
  refine ⟨hL, ?_, ?_, ?_, ?_, ⟨h1, h2⟩, ?_⟩
  · rw [f.2.1]
    exact a2.keep hg.1.2.2.1 (fun q q1 q2 => ⟨(f.1 q (by omega)).1, (f.1 q (by omega)).2, by rw [f.2.1]⟩)
  · rw [f.2.1]
    exact a3.fr f (by omega)
  · unfold CSt at *
    rw [(f.1 232 (by omega)).1, (f.1 233 (by omega)).2]
    exact a4
  · rw [f.2.1]
    unfold CTr at *
    rw [(f.1 234 (by omega)).1, (f.1 235 (by omega)).2, (f.1 237 (by omega)).2, f.2.2]
    exact a5
  · rw [(f.1 226 (by omega)).1]
    exact a7
theorem gTp_wf (hg : gwf g) {tp : Nat × (Nat → Int32)} (h1 : tp.1 ≤ 700) (h2 : ∀ k, k < tp.1 → ∃ n : Nat, n < 256 ∧ tp.2 k = i32 n) : gwf (gTp g tp) := ⟨hg.1, hg.2.1, hg.2.2.1, hg.2.2.2.1, hg.2.2.2.2.1, hg.2.2.2.2.2.1, h1, h2, hg.2.2.2.2.2.2.2.2⟩
theorem rrep_tp {I' : Nat → Int32} {A' : Nat → Nat → Int32} (h : RRep I A g) {tp : Nat × (Nat → Int32)} (hk : ∀ k, k ≠ 1 → k ≠ 2 → I' k = I k) (h1 : I' 1 = i32 tp.1) (hA' : but 0 A A') (h2 : ∀ k, k < tp.1 → A' 0 k = tp.2 k) : RRep I' A' (gTp g tp) := by
  obtain ⟨r1, r2, r3, r4, r5, r6, r7⟩ := h
  refine ⟨?_, ?_, ?_, ?_, ?_, ⟨h1, h2, ?_⟩, ?_⟩
  · show RB I' A' (gb g)
    unfold RB at r1 ⊢
    rw [hk 12 (by decide) (by decide), hk 13 (by decide) (by decide), hk 14 (by decide) (by decide), hA' 18 (by decide), hA' 19 (by decide), hA' 20 (by decide), hA' 21 (by decide), hA' 22 (by decide), hA' 23 (by decide), hA' 24 (by decide), hA' 25 (by decide)]
    exact r1
  · rw [hk 26 (by decide) (by decide)]; exact r2
  · rw [hk 28 (by decide) (by decide), hk 41 (by decide) (by decide), hA' 27 (by decide)]; exact r3
  · rw [hk 56 (by decide) (by decide), hA' 57 (by decide)]; exact r4
  · rw [hk 58 (by decide) (by decide), hk 59 (by decide) (by decide)]; exact r5
  · rw [hA' 3 (by decide)]; exact r6.2.2
  · rw [hk 4 (by decide) (by decide), hk 5 (by decide) (by decide)]; exact r7
theorem fd_sh : ∀ j : Nat, j < 20 → i32 24 - i32 8 * (i32 (j : Nat) - i32 (j : Nat) / i32 4 * i32 4) = i32 ((24 - 8 * (j % 4) : Nat) : Int) := by decide +kernel
def wrd (a e i o u : Int32) (k : Nat) : Int32 := if k = 0 then a else if k = 1 then e else if k = 2 then i else if k = 3 then o else u
theorem r_fd23 (H : MH ty M mm mi h0) {a e i o u : Int32} {f : Nat → Int32} {t : Nat} (ht : t + 20 ≤ 700) (h1 : I 1 = i32 (t : Nat)) : ∀ (k j : Nat) (A : Nat → Nat → Int32), j + k = 20 → (∀ y, y < t + j → A 0 y = fdF f t (wrd a e i o u) y) →
    ∃ A', jf_X12_feed_23 ty (k + 1) M a e i o u (i32 j) (rst mm mi h0 M I A J) = some (i32 ((t + 20 : Nat) : Int), rst mm mi h0 M (fu I 1 (i32 ((t + 20 : Nat) : Int))) A' J) ∧ but 0 A A' ∧ ∀ y, y < t + 20 → A' 0 y = fdF f t (wrd a e i o u) y := by
  intro k
  induction k with
  | zero =>
    intro j A hj h2
    refine ⟨A, ?_, but.rf, fun y hy => h2 y (by omega)⟩
    rw [jf_X12_feed_23_s]
    simp (disch := omega) only [i32_lit, i32_neg, i32_add, i32_sub, i32_mul, i32_lt, i32_le, i32_eq, if_pos, rI, h1, rsI, xbs, fu_same]
    rfl
  | succ k ih =>
    intro j A hj h2
    obtain ⟨A1, hA1⟩ : ∃ A1, A1 = fu2 A 0 (t + j) (byt (wrd a e i o u (j / 4)) (24 - 8 * (j % 4))) := ⟨_, rfl⟩
    obtain ⟨A', q1, q2, q3⟩ := ih (j + 1) A1 (by omega) (fun y hy => by
      rw [hA1]
      rcases Nat.lt_or_ge y (t + j) with h | h
      · rw [fu2_ne _ _ (Or.inr (by omega))]; exact h2 y h
      · have : y = t + j := by omega
        subst this
        rw [fu2_same]
        unfold fdF
        rw [if_neg (by omega), show t + j - t = j by omega])
    refine ⟨A', ?_, but.tr (by rw [hA1]; exact but.fu) q2, q3⟩
    have h76 : jf_X12_feed_76 ty (jf_X12_feed_23 ty (k + 1)) M a e i o u (i32 j) (wrd a e i o u (j / 4)) (rst mm mi h0 M I A J) = jf_X12_feed_23 ty (k + 1) M a e i o u (i32 ((j + 1 : Nat) : Int)) (rst mm mi h0 M I A1 J) := by
      unfold jf_X12_feed_76 xrm
      simp only [i32_lit, rr_0 H, xbs]
      have n40 : ¬ (i32 4 = i32 0) := by decide
      simp only [eq_false n40, if_false, xbs]
      rw [fd_sh j (by omega), byt_s _ (by omega), rI, h1, i32_add, show (t : Int) + (j : Int) = ((t + j : Nat) : Int) by omega, wa_0 H (by omega) (by omega), xbs, Int.toNat_natCast, ← hA1, i32_add, show (j : Int) + 1 = ((j + 1 : Nat) : Int) by omega]
    rw [jf_X12_feed_23_s]
    simp (disch := omega) only [i32_lit, i32_le, if_neg]
    rw [← q1, ← h76]
    unfold wrd
    by_cases w4 : (4 : Int) ≤ (j : Int)
    · simp only [eq_true w4, if_true]
      by_cases w8 : (8 : Int) ≤ (j : Int)
      · simp only [eq_true w8, if_true]
        by_cases w12 : (12 : Int) ≤ (j : Int)
        · simp only [eq_true w12, if_true]
          by_cases w16 : (16 : Int) ≤ (j : Int)
          · simp only [eq_true w16, if_true]
            rw [if_neg (by omega), if_neg (by omega), if_neg (by omega), if_neg (by omega)]
          · simp only [eq_false w16, if_false]
            rw [if_neg (by omega), if_neg (by omega), if_neg (by omega), if_pos (by omega)]
        · simp only [eq_false w12, if_false]
          rw [if_neg (by omega), if_neg (by omega), if_pos (by omega)]
      · simp only [eq_false w8, if_false]
        rw [if_neg (by omega), if_pos (by omega)]
    · simp only [eq_false w4, if_false]
      rw [if_pos (by omega)]
theorem op_feed (C : CH ty N) (H : MH ty M mm mi hB) (hg : gwf g) (hc : CRep c g) (hr : RRep I A g) (a e i o u : Int32) :
    ∃ g', gwf g' ∧ OP N hA mm mi hB M J g' (jf_X11_feed ty (cst N hA c) (N + 0) a e i o u) (jf_X12_feed ty (rst mm mi hB M I A J) M a e i o u) := by
  have I2 : ∀ k, k ≠ 33 → k ≠ 2 → k ≠ 39 → fu I 2 (i32 0) k = I k := fun k _ h _ => fu_ne _ _ h
  have hr2 : RRep (fu I 2 (i32 0)) A g := hr.ks I2 keepA.rf
  have h700 := hg.2.2.2.2.2.2.1
  obtain ⟨t, ht⟩ : ∃ t, t = (gtp g).1 := ⟨_, rfl⟩
  have ct1 : cI c 0 1 = i32 (t : Nat) := by rw [ht]; exact hc.2.2.2.2.2.1.1
  have rt1 : fu I 2 (i32 0) 1 = i32 (t : Nat) := by rw [ht]; exact hr2.2.2.2.2.2.1.1
  unfold jf_X11_feed jf_X12_feed
  simp (disch := omega) only [kI, ct1, rsI, rI, rt1, xbs, i32_lit, i32_neg, i32_add, i32_le]
  by_cases w : (t : Int) ≤ 680
  · have w' : (t : Int) + 20 ≤ 700 := by omega
    simp only [eq_true w, eq_true w', if_true]
    obtain ⟨c1, p1, f1, i1, s1⟩ := k_tpS (h0 := hA) (W := wrd a e i o u) (f := (gtp g).2) (t := t) (i := 0) C (by omega) (by omega) hc.1 ct1 (fun y hy => by unfold fdF; rw [if_pos (by omega)]; exact hc.2.2.2.2.2.1.2 y (by omega))
    have hL1 := hc.1.same f1.2.1 f1.2.2
    obtain ⟨c2, p2, f2, i2, s2⟩ := k_tpS (h0 := hA) (W := wrd a e i o u) (f := (gtp g).2) (t := t) (i := 1) C (by omega) (by omega) hL1 i1 s1
    have hL2 := hL1.same f2.2.1 f2.2.2
    obtain ⟨c3, p3, f3, i3, s3⟩ := k_tpS (h0 := hA) (W := wrd a e i o u) (f := (gtp g).2) (t := t) (i := 2) C (by omega) (by omega) hL2 i2 s2
    have hL3 := hL2.same f3.2.1 f3.2.2
    obtain ⟨c4, p4, f4, i4, s4⟩ := k_tpS (h0 := hA) (W := wrd a e i o u) (f := (gtp g).2) (t := t) (i := 3) C (by omega) (by omega) hL3 i3 s3
    have hL4 := hL3.same f4.2.1 f4.2.2
    obtain ⟨c5, p5, f5, i5, s5⟩ := k_tpS (h0 := hA) (W := wrd a e i o u) (f := (gtp g).2) (t := t) (i := 4) C (by omega) (by omega) hL4 i4 s4
    obtain ⟨A', q1, q2, q3⟩ := r_fd23 (J := J) (a := a) (e := e) (i := i) (o := o) (u := u) (f := (gtp g).2) H (show t + 20 ≤ 700 by omega) rt1 20 0 A (by omega) (fun y hy => by unfold fdF; rw [if_pos (by omega)]; exact hr.2.2.2.2.2.1.2.1 y (by omega))
    refine ⟨gTp g (t + 20, fdF (gtp g).2 t (wrd a e i o u)), gTp_wf hg (show t + 20 ≤ 700 by omega) (fun k hk => ?_), i32 ((t + 20 : Nat) : Int), c5, _, A', ?_, ?_, jf_X12_feed_23_l q1, ?_, ?_⟩
    · show ∃ n : Nat, n < 256 ∧ fdF (gtp g).2 t (wrd a e i o u) k = i32 n
      unfold fdF
      split
      · exact hg.2.2.2.2.2.2.2.1 k (by omega)
      · exact byt_n _ (by omega)
    · have p1 : jf_X11_tapeNumber ty (cst N hA c) (N + 0) a = some (cst N hA c1) := p1
      have p2 : jf_X11_tapeNumber ty (cst N hA c1) (N + 0) e = some (cst N hA c2) := p2
      have p3 : jf_X11_tapeNumber ty (cst N hA c2) (N + 0) i = some (cst N hA c3) := p3
      have p4 : jf_X11_tapeNumber ty (cst N hA c3) (N + 0) o = some (cst N hA c4) := p4
      have p5 : jf_X11_tapeNumber ty (cst N hA c4) (N + 0) u = some (cst N hA c5) := p5
      rw [p1, xbs, p2, xbs, p3, xbs, p4, xbs, p5, xbs, kI (by omega), i5]
    · exact crep_tp hg hc ((((f1.tr f2).tr f3).tr f4).tr f5) i5 s5
    · exact rrep_tp hr (fun k a1 a2 => by rw [fu_ne _ _ a1, fu_ne _ _ a2]) (fu_same _ _ _) q2 q3
    · rw [fu_ne _ _ (by decide), fu_same]
  · have w' : ¬ (t : Int) + 20 ≤ 700 := by omega
    simp only [eq_false w, eq_false w', if_false]
    exact ⟨g, hg, OP.ret hc hr _ _ I2 (fu_same _ _ _) rfl rfl⟩
end FEED

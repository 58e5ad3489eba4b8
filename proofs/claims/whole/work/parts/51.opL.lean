/-! specific: both -/
section OPL
variable {ty : xTy} {N M : Nat} {hA hB h0 : xH} {mm mi : Nat → Nat} {c : CS} {I : Nat → Int32} {A : Nat → Nat → Int32} {J : Nat → Int64} {g : Sg} {b : Bk}
theorem r_sp0 (hg : gwf g) (hR : RRep I A g) : ∀ (k r : Nat), r + k = bnr (gb g) → ∃ n, jf_X12_specific_109 ty n M (i32 0) (i32 (-2)) (i32 r) (rst mm mi h0 M I A J) = some (i32 (-2), rst mm mi h0 M I A J) := by
  have h16 := hg.1.2.2.1
  intro k
  induction k with
  | zero =>
    intro r hk
    refine ⟨1, ?_⟩
    rw [jf_X12_specific_109_s]
    simp (disch := omega) only [rI, hR.1.2.2.1, i32_lit, i32_neg, i32_add, i32_sub, i32_mul, i32_lt, i32_le, i32_eq, if_pos]
  | succ k ih =>
    intro r hk
    obtain ⟨n, hn⟩ := ih (r + 1) (by omega)
    refine ⟨n + 1, ?_⟩
    have hz : jf_X12_isOf (i32 0) (i32 r) = some (bI false) := by
      have := isOf_i (n := 0) (k := r) (by omega) (by omega)
      rw [show inR 0 r = false from Nat.zero_testBit r] at this
      exact this
    rw [jf_X12_specific_109_s]
    simp (disch := omega) only [rI, hR.1.2.2.1, i32_lit, i32_neg, i32_add, i32_sub, i32_mul, i32_lt, i32_le, i32_eq, if_neg, hz, xbs, bI_eq0, if_true]
    rw [show (r : Int) + 1 = ((r + 1 : Nat) : Int) by omega]
    exact hn
theorem loD_0 : ∀ (j : Nat) (v : Int), loD 0 v j = v
  | 0, _ => rfl
  | j + 1, v => by
    simp only [loD]
    rw [show inR 0 j = false from Nat.zero_testBit j]
    exact loD_0 j _
theorem isWay_i {z : Int} (h1 : -2147483648 ≤ z) (h2 : z < 2147483648) : jf_X11_isWay (i32 z) = some (bI (decide (0 ≤ z) && decide (z ≤ 2))) := by
  unfold jf_X11_isWay
  simp (disch := omega) only [i32_lit, i32_neg, i32_add, i32_sub, i32_mul, i32_lt, i32_le, i32_eq]
  by_cases hz : z < 0
  · rw [if_pos hz, decide_eq_false (by omega)]; rfl
  · rw [if_neg hz, decide_eq_true (show 0 ≤ z by omega)]
    by_cases hz2 : 2 < z
    · rw [if_pos hz2, decide_eq_false (by omega)]; rfl
    · rw [if_neg hz2, decide_eq_true (by omega)]; rfl
theorem op_specific (C : CH ty N) (H : MH ty M mm mi hB) (hg : gwf g) (hc : CRep c g) (hr : RRep I A g) {how : Int} (a1 : -2147483648 ≤ how) (a2 : how < 2147483648) :
    OP N hA mm mi hB M J g (jf_X11_specific ty (cst N hA c) (N + 0) (i32 how)) (jf_X12_specific ty (rst mm mi hB M I A J) M (i32 how)) := by
  have h16 := hg.1.2.2.1
  have hql := gq_l hg
  have I2 : ∀ k, k ≠ 33 → k ≠ 2 → k ≠ 39 → fu I 2 (i32 0) k = I k := fun k _ h _ => fu_ne _ _ h
  have hr2 : RRep (fu I 2 (i32 0)) A g := hr.ks I2 keepA.rf
  have hlq := hc.1.as.1
  unfold jf_X11_specific jf_X12_specific
  simp only [rsI, xbs, isWay_i a1 a2, i32_lit, isIn_i a1 a2 (show (-2147483648 : Int) ≤ 0 by omega) (by omega) (show (-2147483648 : Int) ≤ 2 by omega) (by omega), bI_eq0, rI, hr2.2.2.1.2.1, k_ask C hc.1, k_askn hc]
  cases hw : (decide (0 ≤ how) && decide (how ≤ 2)) with
  | false =>
    simp only [if_true]
    exact OP.ret hc hr _ _ I2 (fu_same _ _ _) rfl rfl
  | true =>
  obtain ⟨w1, w2⟩ := Bool.and_eq_true_iff.mp hw
  have w1 := of_decide_eq_true w1
  have w2 := of_decide_eq_true w2
  obtain ⟨how, rfl⟩ : ∃ n : Nat, how = n := ⟨how.toNat, by omega⟩
  simp only [Bool.true_eq_false, if_false]
  by_cases w3 : i32 ((gq g).length : Nat) = i32 0
  · simp only [if_pos w3]
    exact OP.ret hc hr _ _ I2 (fu_same _ _ _) rfl rfl
  have hq : twf (gb g) (gq g) := by
    rcases hg.2.1 with h | h
    · exact absurd (by rw [h]; rfl) w3
    · exact h
  simp only [if_neg w3]
  have e9 := k_sub (h0 := hA) C hc.1 (show (0, 9, 232) ∈ lyL by decide) (by omega) (show ct 232 = some (0, 6) by decide)
  obtain ⟨c1, q1, q2⟩ := k_fb (h0 := hA) C hg (how := how) (by omega) hg.z (hq.lo hg.1) (by omega) hc hc.2.2.1
  have hFl : ftN g how < 65536 := bitsF_16 h16
  have hc1 := hc.fr hg q2 (by omega)
  obtain ⟨n27, I3, A3, p1, p2, p3⟩ := r_sp27 (J := J) H hg hq (how := how) (by omega) (bnr (gb g)) 0 (fu I 2 (i32 0)) A (by omega) hr2
  have hr3 : RRep I3 A3 g := hr2.ks (fun k h _ _ => p1 k h) p2
  have i3 : I3 2 = i32 0 := by rw [p1 2 (by decide), fu_same]
  obtain ⟨n79, h79⟩ := r_sp79 (ty := ty) (M := M) (h := rst mm mi hB M I3 A3 J) hFl (bnr (gb g)) (-2) h16
  rw [show bitsF (ftP g how (gin g) (gq g)) (bnr (gb g)) = ftN g how from rfl] at q1
  have hst : xI (cst N hA c) (N + 232) 4 = i32 (gin g) := by rw [kI (by omega), hc.2.2.2.1.1]
  simp only [e9, xbs, hst, q1, xb2s]
  by_cases hF : ftN g how = 0
  · have hF' : i32 (ftN g how : Nat) = i32 0 := by rw [hF]; rfl
    simp only [eq_true hF', if_true]
    obtain ⟨n, hn⟩ := r_sp0 (ty := ty) (mm := mm) (mi := mi) (h0 := hB) (M := M) (J := J) hg hr3 (bnr (gb g)) 0 (by omega)
    refine ⟨_, c1, I3, A3, rfl, hc1, ?_, hr3, i3⟩
    refine jf_X12_specific_27_l (p3 _ (jf_X12_specific_79_l (h79 _ ?_)))
    rw [hF, loD_0]
    exact jf_X12_specific_109_l hn
  · have hF' : ¬ i32 (ftN g how : Nat) = i32 0 := by
      rw [i32_eq (by omega) (by omega) (by omega) (by omega)]; omega
    simp only [eq_false hF', if_false]
    obtain ⟨lo, l1, l2⟩ := low_ex hF
    have hlo : lo < bnr (gb g) := by
      rcases Nat.lt_or_ge lo (bnr (gb g)) with h | h
      · exact h
      · have := bit_lt (bitsF_lt (ftP g how (gin g) (gq g)) (bnr (gb g))) h
        rw [show bitsF (ftP g how (gin g) (gq g)) (bnr (gb g)) = ftN g how from rfl, l1] at this
        cases this
    obtain ⟨n, c2, s1, s2⟩ := k_sp45 (h0 := hA) C hg hFl l1 l2 (bnr (gb g)) 0 c1 (by omega) hc1
    obtain ⟨n', I4, A4, t1, t2, t3⟩ := r_sp109 (J := J) H hg (F := ftN g how) (lo := lo) hFl (bnr (gb g)) 0 I3 A3 (by omega) hr3
    refine ⟨_, c2, I4, A4, jf_X11_specific_45_l s1, hc1.fr hg s2 (by omega), ?_, hr3.ks (fun k h _ _ => t2 k h) t3, by rw [t2 2 (by decide), i3]⟩
    refine jf_X12_specific_27_l (p3 _ (jf_X12_specific_79_l (h79 _ ?_)))
    rw [loD_low l1 l2 (bnr (gb g)) (-2) (Or.inl hlo)]
    exact jf_X12_specific_109_l t1
end OPL

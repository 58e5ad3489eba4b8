/-! finding -/
section FINDING
variable {ty : xTy} {N M : Nat} {hA hB h0 : xH} {mm mi : Nat → Nat} {c : CS} {I : Nat → Int32} {A : Nat → Nat → Int32} {J : Nat → Int64} {g : Sg} {b : Bk}
theorem r_finds12 (H : MH ty M mm mi h0) (hg : gwf g) (hq : twf (gb g) (gq g)) {how : Nat} (hh : how ≤ 2) : ∀ (k i : Nat) (I : Nat → Int32), i + k = bnr (gb g) → RRep I A g → I 42 = i32 (vsum (gb g) (wkW g how) (inL (gin g) i).reverse) → I 43 = i32 ((inL (gin g) i).countP (wkS g how)) →
    ∃ n I', jf_X12_finds_12 ty n M (i32 how) (i32 i) (rst mm mi h0 M I A J) = some (rst mm mi h0 M I' A J) ∧ (∀ k, k ≠ 42 → k ≠ 43 → I' k = I k) ∧ I' 42 = i32 (vsum (gb g) (wkW g how) (inL (gin g) (bnr (gb g))).reverse) ∧ I' 43 = i32 ((inL (gin g) (bnr (gb g))).countP (wkS g how)) := by
  have h16 := hg.1.2.2.1
  intro k
  induction k with
  | zero =>
    intro i I h1 hR e42 e43
    have : i = bnr (gb g) := by omega
    subst this
    refine ⟨1, I, ?_, fun _ _ _ => rfl, e42, e43⟩
    rw [jf_X12_finds_12_s]
    simp (disch := omega) only [rI, hR.1.2.2.1, i32_lit, i32_neg, i32_add, i32_sub, i32_mul, i32_lt, i32_le, i32_eq, if_pos]
  | succ k ih =>
    intro i I h1 hR e42 e43
    have hi : i < bnr (gb g) := by omega
    have hb1 := vsum_le hg how (inL (gin g) i).reverse (fun x hx => by have := (mem_inL.mp (List.mem_reverse.mp hx)).1; omega)
    have hb2 := inL_len (gin g) i
    have hb3 : (inL (gin g) i).countP (wkS g how) ≤ i := Nat.le_trans List.countP_le_length hb2
    rw [List.length_reverse] at hb1
    have e1 := vsum_inL (b := gb g) (wkW g how) (gin g) i
    have e2 : (inL (gin g) (i + 1)).countP (wkS g how) = (inL (gin g) i).countP (wkS g how) + if inR (gin g) i then (if wkS g how i then 1 else 0) else 0 := by
      rw [inL_succ]
      cases h : inR (gin g) i with
      | false => simp
      | true => simp [List.countP_append, List.countP_cons]
    cases hin : inR (gin g) i with
    | false =>
      rw [hin] at e1 e2
      obtain ⟨n, I', q1, q2⟩ := ih (i + 1) I (by omega) hR (by rw [e1]; exact e42) (by rw [e2]; exact e43)
      refine ⟨n + 1, I', ?_, q2⟩
      rw [jf_X12_finds_12_s, ← q1]
      simp (disch := omega) only [rI, hR.1.2.2.1, i32_lit, i32_neg, i32_add, i32_sub, i32_mul, i32_lt, i32_le, i32_eq, if_neg, r_isInNow hg.z hR.2.1, xbs, hin, bI_eq0, if_true]
      rw [show (i : Int) + 1 = ((i + 1 : Nat) : Int) by omega]
    | true =>
      rw [hin] at e1 e2
      simp only [if_true] at e1 e2
      have l12 := (hg.lo hi).2.1
      have q12 := hq.2.1
      obtain ⟨n1, I1, p1, p2, p3, p4⟩ := r_f5 (J := J) H hg hq hh hi 13 I 0 0 _ _ 1 hR e42 e43 (by omega) (by omega) (by omega) (by omega) (by omega) (by rw [List.drop_zero]; exact (hg.lo hi).1) (by rw [List.drop_zero]; exact hq.1)
      rw [List.drop_zero, List.drop_zero] at p3 p4
      have hR1 : RRep I1 A g := hR.keep (fun k hk => p2 k (fun z => by subst z; revert hk; decide) (fun z => by subst z; revert hk; decide)) keepA.rf
      obtain ⟨n, I', q1, q2, q3⟩ := ih (i + 1) I1 (by omega) hR1 (by rw [e1, p3]; rfl) (by rw [e2, p4]; rfl)
      refine ⟨n + 1, I', ?_, fun k a1 a2 => (q2 k a1 a2).trans (p2 k a1 a2), q3⟩
      have hf : jf_X12_follows ty (rst mm mi h0 M I A J) M (i32 how) (i32 i) = some (rst mm mi h0 M I1 A J) := jf_X12_follows_5_l p1
      rw [jf_X12_finds_12_s, ← q1]
      simp (disch := omega) only [rI, hR.1.2.2.1, i32_lit, i32_neg, i32_add, i32_sub, i32_mul, i32_lt, i32_le, i32_eq, if_neg, r_isInNow hg.z hR.2.1, xbs, hin, bI_eq0, Bool.true_eq_false, if_false, hf]
      rw [show (i : Int) + 1 = ((i + 1 : Nat) : Int) by omega]
theorem cntB_snoc : ∀ (k z : Nat), cntB z (k + 1) = cntB z k + if z.testBit k then 1 else 0
  | 0, z => by
    simp only [cntB, Nat.testBit_zero]
    rcases Nat.mod_two_eq_zero_or_one z with h | h <;> simp [h]
  | k + 1, z => by
    have := cntB_snoc k (z / 2)
    rw [cntB, this]
    conv => rhs; rw [cntB]
    rw [Nat.testBit_succ]
    omega
theorem cntB_P : ∀ (k z : Nat), cntB z k = (List.range k).countP (fun i => z.testBit i)
  | 0, _ => rfl
  | k + 1, z => by
    rw [cntB_snoc, cntB_P k z, List.range_succ, List.countP_append]
    simp [List.countP_cons]
theorem cnt_bits {p : Nat → Bool} {n : Nat} (hn : n ≤ 16) : cntB (bitsF p n) 16 = (List.range n).countP p := by
  have h1 : cntB (bitsF p n) 16 = cntB (bitsF p n) n := by
    have := cntB_hi n (16 - n) (bitsF p n) (bitsF_lt p n)
    rw [show n + (16 - n) = 16 by omega] at this
    exact this
  rw [h1, cntB_P]
  refine List.countP_congr (fun i hi => ?_)
  have := List.mem_range.mp hi
  rw [bitsF_bit]
  simp [this]
theorem ftP_cnt (hg : gwf g) (how : Nat) (Q : List Nat) : cntB (bitsF (ftP g how (gin g) Q) (bnr (gb g))) 16 = (fdL (gb g) (gin g) Q how).length := by
  rw [cnt_bits hg.1.2.2.1]
  unfold fdL
  rw [← List.countP_eq_length_filter, (ordL_perm (gin g)).countP_eq]
  unfold inL
  rw [List.countP_filter]
  refine List.countP_congr (fun i hi => ?_)
  unfold ftP fdP
  rw [Bool.and_comm]
theorem op_finding (C : CH ty N) (H : MH ty M mm mi hB) (hg : gwf g) (hc : CRep c g) (hr : RRep I A g) {how k : Int} (a1 : -2147483648 ≤ how) (a2 : how < 2147483648) (f1 : -2147483648 ≤ k) (f2 : k < 2147483648) :
    OP N hA mm mi hB M J g (jf_X11_finding ty (cst N hA c) (N + 0) (i32 how) (i32 k)) (jf_X12_finding ty (rst mm mi hB M I A J) M (i32 how) (i32 k)) := by
  have h16 := hg.1.2.2.1
  have hql := gq_l hg
  have I2 : ∀ k, k ≠ 33 → k ≠ 2 → k ≠ 39 → fu I 2 (i32 0) k = I k := fun k _ h _ => fu_ne _ _ h
  have hr2 : RRep (fu I 2 (i32 0)) A g := hr.ks I2 keepA.rf
  have e9 := k_sub (h0 := hA) C hc.1 (show (0, 9, 232) ∈ lyL by decide) (by omega) (show ct 232 = some (0, 6) by decide)
  unfold jf_X11_finding jf_X12_finding
  simp (disch := omega) only [rsI, xbs, isWay_i a1 a2, i32_lit, i32_neg, i32_lt, i32_eq, isIn_i, bI_eq0, rI, hr2.2.2.1.2.1, k_ask C hc.1, k_askn hc, e9, k_tree C hc.1]
  cases hw : (decide (0 ≤ how) && decide (how ≤ 2)) with
  | false =>
    simp only [if_true]
    exact OP.ret hc hr _ _ I2 (fu_same _ _ _) rfl rfl
  | true =>
  obtain ⟨w1, w2⟩ := Bool.and_eq_true_iff.mp hw
  have w1 := of_decide_eq_true w1
  have w2 := of_decide_eq_true w2
  obtain ⟨how, rfl⟩ : ∃ n : Nat, how = n := ⟨how.toNat, by omega⟩
  simp only [Bool.true_eq_false, if_false]
  cases hw2 : (decide (0 ≤ k) && decide (k ≤ 2)) with
  | false =>
    simp only [if_true]
    rw [Bool.and_eq_false_iff, decide_eq_false_iff_not, decide_eq_false_iff_not] at hw2
    by_cases w4 : k < 0
    · simp only [eq_true w4, if_true]
      exact OP.ret hc hr _ _ I2 (fu_same _ _ _) rfl rfl
    · have w5 : 2 < k := by omega
      simp only [eq_false w4, if_false, eq_true w5, if_true]
      exact OP.ret hc hr _ _ I2 (fu_same _ _ _) rfl rfl
  | true =>
  obtain ⟨w4, w5⟩ := Bool.and_eq_true_iff.mp hw2
  have w4 := of_decide_eq_true w4
  have w5 := of_decide_eq_true w5
  have w4' : ¬ k < 0 := by omega
  have w5' : ¬ 2 < k := by omega
  simp only [eq_false w4', eq_false w5', Bool.true_eq_false, if_false]
  by_cases w3 : ((gq g).length : Int) = 0
  · simp only [eq_true w3, if_true]
    exact OP.ret hc hr _ _ I2 (fu_same _ _ _) rfl rfl
  simp only [eq_false w3, if_false]
  have hq : twf (gb g) (gq g) := by
    rcases hg.2.1 with h | h
    · rw [h] at w3; exact absurd rfl w3
    · exact h
  have hlq := hc.1.as.1
  by_cases w6 : k = 0
  · simp only [eq_true w6, if_true]
    obtain ⟨c', q1, q2⟩ := k_fb (h0 := hA) C hg (show how ≤ 3 by omega) hg.z (hq.lo hg.1) (by omega) hc hc.2.2.1
    obtain ⟨I', A', p1, p2, p3, p4⟩ := r_lf (J := J) H hg (show how ≤ 2 by omega) hq hr2
    refine ⟨i32 (fdL (gb g) (gin g) (gq g) how).length, c', I', A', ?_, hc.fr hg q2 (by omega), ?_, p2.rr hr2, ?_⟩
    · rw [kI (by omega), hc.2.2.2.1.1, q1, xb2s, pc16 (bitsF_16 h16), xbs, ftP_cnt hg]
    · rw [p1, xbs, rI, p3]
    · rw [p2.1 2 (by decide) (by decide), fu_same]
  · simp only [eq_false w6, if_false]
    obtain ⟨c', q1, q2, q3, q4⟩ := k_walk (h0 := hA) C hg hq (show how ≤ 2 by omega) hc
    obtain ⟨I3, hI3⟩ : ∃ I3, I3 = fu (fu (fu I 2 (i32 0)) 42 (i32 0)) 43 (i32 0) := ⟨_, rfl⟩
    have k3 : ∀ k, k ≠ 42 → k ≠ 43 → I3 k = fu I 2 (i32 0) k := fun k a1 a2 => by rw [hI3, fu_ne _ _ a2, fu_ne _ _ a1]
    have kR3 : RRep I3 A g := hr2.keep (fun k hk => k3 k (fun z => by subst z; revert hk; decide) (fun z => by subst z; revert hk; decide)) keepA.rf
    obtain ⟨n, I', p1, p2, p3, p4⟩ := r_finds12 (J := J) H hg hq (show how ≤ 2 by omega) (bnr (gb g)) 0 I3 (by omega) kR3 (by rw [hI3, fu_ne _ _ (by decide), fu_same]; rfl) (by rw [hI3, fu_same]; rfl)
    have hfd : jf_X12_finds ty (rst mm mi hB M (fu I 2 (i32 0)) A J) M (i32 how) = some (rst mm mi hB M I' A J) := by
      unfold jf_X12_finds
      simp only [rsI, xbs, i32_lit]
      rw [← hI3]
      exact jf_X12_finds_12_l p1
    have hRR : RRep I' A g := kR3.keep (fun k hk => p2 k (fun z => by subst z; revert hk; decide) (fun z => by subst z; revert hk; decide)) keepA.rf
    have hI2' : I' 2 = i32 0 := by rw [p2 2 (by decide) (by decide), k3 2 (by decide) (by decide), fu_same]
    simp (disch := omega) only [q1, xbs, hfd, k_tree C q2.1, kI, q3, q4, rI, p3, p4]
    rw [vsum_eq hg how, (ordL_perm (gin g)).countP_eq]
    by_cases w7 : k = 1
    · simp only [eq_true w7, if_true]
      exact ⟨_, c', I', A, rfl, q2, rfl, hRR, hI2'⟩
    · simp only [eq_false w7, if_false]
      exact ⟨_, c', I', A, rfl, q2, rfl, hRR, hI2'⟩
end FINDING

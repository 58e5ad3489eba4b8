/-! TEXT: variables, rules, in the class -/
section TEXTD
variable {ty : xTy} {N M : Nat} {hA hB h0 : xH} {mm mi : Nat → Nat} {c : CS} {I : Nat → Int32} {A : Nat → Nat → Int32} {J : Nat → Int64} {g : Sg} {b : Bk} {F : Nat → Nat} {n : Nat}
theorem k_addV (C : CH ty N) (hL : LY c) (hb : bwf b) {S : Nat} {x : Int32} (hS : S = 2 ∨ S = 108) (h4 : bnv b < 4) (hB : CB c S b) : ∃ c', jf_X0_addVariable ty (cst N h0 c) (N + S) x = some (cst N h0 c') ∧ fr S (S + 106) c c' ∧ CB c' S (bAddV b x) := by
  have hS3 : S < 273 := by omega
  have h16 := hb.2.2.1
  obtain ⟨c1, hc1⟩ : ∃ c1, c1 = csA c (S + 3) (bnv b) x := ⟨_, rfl⟩
  obtain ⟨c3, hc3⟩ : ∃ c3, c3 = csI c1 S 8 (i32 ((bnv b + 1 : Nat) : Int)) := ⟨_, rfl⟩
  have f1 : fr S (S + 106) c c1 := by rw [hc1]; exact fr.A (by omega) (by omega)
  have f3 : fr S (S + 106) c1 c3 := by rw [hc3]; exact fr.I (by omega) (by omega)
  have hL1 := hL.same f1.2.1 f1.2.2
  have i1 : cI c1 S 8 = i32 (bnv b : Nat) := by rw [hc1]; exact hB.2.1
  have eI : ∀ q k, (q ≠ S ∨ k ≠ 8) → cI c3 q k = cI c q k := fun q k h => by rw [hc3, sI_o h, hc1]; rfl
  have eA : ∀ q, q ≠ S + 3 → cA c3 q = cA c q := fun q e1 => by rw [hc3, show cA (csI c1 S 8 (i32 ((bnv b + 1 : Nat) : Int))) q = cA c1 q from rfl, hc1, sA_o e1]
  have eR : cR c3 = cR c := by rw [f3.2.1, f1.2.1]
  refine ⟨c3, ?_, f1.tr f3, ?_⟩
  · unfold jf_X0_addVariable
    simp (disch := omega) only [kI hS3, hB.2.1, i32_lit, i32_neg, i32_add, i32_sub, i32_mul, i32_lt, i32_le, i32_eq, if_neg, kR hS3, (hL.bf hS).2.2.1, xbs, kwa C (ct_bk hS).2.2.2.1, Int.toNat_natCast]
    rw [← hc1]
    simp (disch := omega) only [kI hS3, i1, ksI hS3, i32_add, xbs]
    rw [show (bnv b : Int) + 1 = ((bnv b + 1 : Nat) : Int) by omega, ← hc3]
  · obtain ⟨a1, a2, a3, a4, a5, a6⟩ := hB
    refine ⟨(eI _ _ (by omega)).trans a1, by rw [hc3, sI_s]; rfl, (eI _ _ (by omega)).trans a3, fun k hk => ?_, fun k hk => ?_, fun r hr => ?_⟩
    · rw [eA _ (by omega), eA _ (by omega)]; exact a4 k hk
    · show cA c3 (S + 3) k = fu (bvn b) (bnv b) x k
      have hk' : k < bnv b + 1 := hk
      rw [hc3, show cA (csI c1 S 8 (i32 ((bnv b + 1 : Nat) : Int))) (S + 3) = cA c1 (S + 3) from rfl, hc1]
      by_cases w : k = bnv b
      · rw [w, sA_s, fu_same]
      · rw [sA_n w, fu_ne _ _ w]; exact a5 k (by omega)
    · have hr' : r < bnr b := hr
      obtain ⟨c1', c2', c3'⟩ := a6 r hr'
      have hI : ∀ q, q ≠ S → cI c3 q = cI c q := fun q h => funext (fun k => eI q k (by omega))
      refine ⟨by rw [eA _ (by omega)]; exact c1', c2'.keep (hI _ (by omega)) (eA _ (by omega)) (eA _ (by omega)) (by rw [eR]), c3'.keep (hI _ (by omega)) (eA _ (by omega)) (eA _ (by omega)) (by rw [eR])⟩
theorem k_vrL (C : CH ty N) (hL : LY c) (hb : bwf b) {z j S : Nat} (hS : S = 2 ∨ S = 108) (h : CT c F n z j) (hB : CB c S b) : ∃ c', jf_X4_readVariable ty (cst N h0 c) (N + 226) (N + S) = some (bI (decide ((vrL (tk F n) b j).1 = 0)), cst N h0 c') ∧ LR S F n z c c' (vrL (tk F n) b j) := by
  have h8 := hb.1
  have h4 := hb.2.1
  have hS3 : S < 273 := by omega
  have hb0 := bw_0 hb
  unfold jf_X4_readVariable
  simp (disch := omega) only [kI hS3, hB.2.1, i32_lit, i32_lt]
  by_cases w0 : bnv b = 4
  · have w0' : ¬ (bnv b : Int) < 4 := by omega
    have e : vrL (tk F n) b j = (2, j, b) := by unfold vrL; rw [if_pos w0]
    rw [e]
    simp only [eq_false w0', if_false]
    exact k_flL C hL h (by decide)
  · have w0' : (bnv b : Int) < 4 := by omega
    obtain ⟨c1, a1, a2, a3⟩ := k_adv (h0 := h0) C hL h
    have hL1 := hL.same a2.2.1 a2.2.2
    have hB1 := hB.o hb.2.2.1 hS a2 (by omega)
    have i7 : cI c1 227 7 = tkV (tk F n) (j + 1) := a3.2.2.2.2.2.2.2.2
    have hr := lkN_rg ⟨h8, hb.2.1⟩ (tkV (tk F n) (j + 1))
    have hr2 : -1 ≤ lkN b (tkV (tk F n) (j + 1)) ∧ lkN b (tkV (tk F n) (j + 1)) < 1000 := by
      unfold vc at hr; omega
    obtain ⟨c2, p1, p2, p3, p4, p5⟩ := k_pnn (h0 := h0) C hL1 a3 hr2.1 hr2.2
    have hL2 := hL1.same p2.2.1 p2.2.2
    have hB2 := hB1.o hb.2.2.1 hS p2 (by omega)
    have f2 : frL S c c2 := (frL.o a2 (by omega)).tr (frL.o p2 (by omega))
    simp (disch := omega) only [eq_true w0', if_true, k_tks C hL, xbs, a1, k_tks C hL1, kI, i7, k_cdN C hL1 hS hb0 hB1.nm, p1, xb2s, bI_eq0]
    unfold vrL
    rw [if_neg w0]
    by_cases w1 : (tk F n (j + 1)).1 = 2
    · rw [if_neg (show ¬ (tk F n (j + 1)).1 ≠ 2 from fun e => e w1)]
      by_cases w2 : lkN b (tkV (tk F n) (j + 1)) = -1
      · rw [if_neg (show ¬ lkN b (tkV (tk F n) (j + 1)) ≠ -1 from fun e => e w2)]
        obtain ⟨x1, x2, x3⟩ := p3 w1 w2
        have hpre : (decide ((tk F n (j + 1)).1 = 2) && decide (lkN b (tkV (tk F n) (j + 1)) = -1)) = true := by rw [decide_eq_true w1, decide_eq_true w2]; rfl
        obtain ⟨c4, r1, r2, r3⟩ := k_addV (h0 := h0) (x := tkV (tk F n) (j + 1)) C hL2 hb hS (by omega) hB2
        simp (disch := omega) only [hpre, Bool.true_eq_false, if_false, r1, xbs]
        refine ⟨c4, rfl, f2.tr (frL.o r2 (by omega)), fun _ => ⟨x1.fr r2 (by omega), r3, ?_, ?_⟩, fun e => absurd rfl e⟩
        · rw [(r2.1 226 (by omega)).1, x2, (a2.1 226 (by omega)).1]
        · rw [(r2.1 226 (by omega)).1, x3, (a2.1 226 (by omega)).1]
      · rw [if_pos w2]
        have hpre : (decide ((tk F n (j + 1)).1 = 2) && decide (lkN b (tkV (tk F n) (j + 1)) = -1)) = false := by rw [decide_eq_false w2, Bool.and_false]
        simp only [hpre, if_true]
        exact ⟨c2, rfl, f2, fun e => (by cases e), fun _ => p5 w1 w2⟩
    · rw [if_pos w1]
      have hpre : (decide ((tk F n (j + 1)).1 = 2) && decide (lkN b (tkV (tk F n) (j + 1)) = -1)) = false := by rw [decide_eq_false w1, Bool.false_and]
      simp only [hpre, if_true]
      exact ⟨c2, rfl, f2, fun e => (by cases e), fun _ => p4 w1⟩
theorem CB.P {c' : CS} {S u : Nat} (hb : bwf b) (hS : S = 2 ∨ S = 108) (h : CB c S b) (f : frP u c c') (hu : S + 10 + 6 * bnr b ≤ u) (hu2 : u + 3 ≤ 226) : CB c' S b := by
  have h16 := hb.2.2.1
  obtain ⟨a1, a2, a3, a4, a5, a6⟩ := h
  have e : ∀ q, S ≤ q → q < S + 10 + 6 * bnr b → cI c' q = cI c q ∧ cA c' q = cA c q := fun q q1 q2 => f.1 q (by omega) (by omega) (by omega) (by omega)
  unfold CB
  rw [(e S (by omega) (by omega)).1, (e (S + 1) (by omega) (by omega)).2, (e (S + 2) (by omega) (by omega)).2, (e (S + 3) (by omega) (by omega)).2, (e (S + 4) (by omega) (by omega)).2]
  refine ⟨a1, a2, a3, a4, a5, fun r hr => ?_⟩
  obtain ⟨c1, c2, c3⟩ := a6 r hr
  exact ⟨c1, c2.keep (e _ (by omega) (by omega)).1 (e _ (by omega) (by omega)).2 (e _ (by omega) (by omega)).2 (by rw [f.2.1]), c3.keep (e _ (by omega) (by omega)).1 (e _ (by omega) (by omega)).2 (e _ (by omega) (by omega)).2 (by rw [f.2.1])⟩
theorem ct_rt {S r : Nat} (hS : S = 2 ∨ S = 108) (hr : r < 16) : (ct (S + 10 + 6 * r) = some (0, 7) ∧ ct (S + 10 + 6 * r + 1) = some (1, 12) ∧ ct (S + 10 + 6 * r + 2) = some (1, 12)) ∧ ct (S + 13 + 6 * r) = some (0, 7) ∧ ct (S + 13 + 6 * r + 1) = some (1, 12) ∧ ct (S + 13 + 6 * r + 2) = some (1, 12) := by
  have h1 : ∀ r, r < 16 → (ct (2 + 10 + 6 * r) = some (0, 7) ∧ ct (2 + 10 + 6 * r + 1) = some (1, 12) ∧ ct (2 + 10 + 6 * r + 2) = some (1, 12)) ∧ ct (2 + 13 + 6 * r) = some (0, 7) ∧ ct (2 + 13 + 6 * r + 1) = some (1, 12) ∧ ct (2 + 13 + 6 * r + 2) = some (1, 12) := by decide
  have h2 : ∀ r, r < 16 → (ct (108 + 10 + 6 * r) = some (0, 7) ∧ ct (108 + 10 + 6 * r + 1) = some (1, 12) ∧ ct (108 + 10 + 6 * r + 2) = some (1, 12)) ∧ ct (108 + 13 + 6 * r) = some (0, 7) ∧ ct (108 + 13 + 6 * r + 1) = some (1, 12) ∧ ct (108 + 13 + 6 * r + 2) = some (1, 12) := by decide
  rcases hS with rfl | rfl
  · exact h1 r hr
  · exact h2 r hr
theorem k_addR (C : CH ty N) (hL : LY c) (hb : bwf b) {S : Nat} {x : Int32} {T U : List Nat} (hS : S = 2 ∨ S = 108) (h16 : bnr b < 16) (hB : CB c S b) (iT : isT c (S + 10 + 6 * bnr b) 12 (bar b) T) (iU : isT c (S + 13 + 6 * bnr b) 12 (bar b) U) : ∃ c', jf_X0_addRule ty (cst N h0 c) (N + S) x = some (cst N h0 c') ∧ fr S (S + 106) c c' ∧ CB c' S (bAddR b x T U) := by
  have hS3 : S < 273 := by omega
  obtain ⟨c1, hc1⟩ : ∃ c1, c1 = csA c (S + 4) (bnr b) x := ⟨_, rfl⟩
  obtain ⟨c3, hc3⟩ : ∃ c3, c3 = csI c1 S 9 (i32 ((bnr b + 1 : Nat) : Int)) := ⟨_, rfl⟩
  have f1 : fr S (S + 106) c c1 := by rw [hc1]; exact fr.A (by omega) (by omega)
  have f3 : fr S (S + 106) c1 c3 := by rw [hc3]; exact fr.I (by omega) (by omega)
  have hL1 := hL.same f1.2.1 f1.2.2
  have i1 : cI c1 S 9 = i32 (bnr b : Nat) := by rw [hc1]; exact hB.2.2.1
  have eI : ∀ q k, (q ≠ S ∨ k ≠ 9) → cI c3 q k = cI c q k := fun q k h => by rw [hc3, sI_o h, hc1]; rfl
  have eA : ∀ q, q ≠ S + 4 → cA c3 q = cA c q := fun q e1 => by rw [hc3, show cA (csI c1 S 9 (i32 ((bnr b + 1 : Nat) : Int))) q = cA c1 q from rfl, hc1, sA_o e1]
  have eR : cR c3 = cR c := by rw [f3.2.1, f1.2.1]
  have hI : ∀ q, q ≠ S → cI c3 q = cI c q := fun q h => funext (fun k => eI q k (by omega))
  refine ⟨c3, ?_, f1.tr f3, ?_⟩
  · unfold jf_X0_addRule
    simp (disch := omega) only [kI hS3, hB.2.2.1, i32_lit, i32_neg, i32_add, i32_sub, i32_mul, i32_lt, i32_le, i32_eq, if_neg, kR hS3, (hL.bf hS).2.2.2.1, xbs, kwa C (ct_bk hS).2.2.2.2.1, Int.toNat_natCast]
    rw [← hc1]
    simp (disch := omega) only [kI hS3, i1, ksI hS3, i32_add, xbs]
    rw [show (bnr b : Int) + 1 = ((bnr b + 1 : Nat) : Int) by omega, ← hc3]
  · obtain ⟨a1, a2, a3, a4, a5, a6⟩ := hB
    refine ⟨(eI _ _ (by omega)).trans a1, (eI _ _ (by omega)).trans a2, by rw [hc3, sI_s]; rfl, fun k hk => ?_, fun k hk => ?_, fun r hr => ?_⟩
    · rw [eA _ (by omega), eA _ (by omega)]; exact a4 k hk
    · rw [eA _ (by omega)]; exact a5 k hk
    · have hr' : r < bnr b + 1 := hr
      show cA c3 (S + 4) r = fu (brn b) (bnr b) x r ∧ isT c3 (S + 10 + 6 * r) 12 (bar b) (fu (bT b) (bnr b) T r) ∧ isT c3 (S + 13 + 6 * r) 12 (bar b) (fu (bU b) (bnr b) U r)
      rw [hc3, show cA (csI c1 S 9 (i32 ((bnr b + 1 : Nat) : Int))) (S + 4) = cA c1 (S + 4) from rfl, hc1, ← hc1, ← hc3]
      by_cases w : r = bnr b
      · rw [w, fu_same, fu_same, fu_same]
        exact ⟨by rw [hc1, sA_s], iT.keep (hI _ (by omega)) (eA _ (by omega)) (eA _ (by omega)) (by rw [eR]), iU.keep (hI _ (by omega)) (eA _ (by omega)) (eA _ (by omega)) (by rw [eR])⟩
      · rw [fu_ne _ _ w, fu_ne _ _ w, fu_ne _ _ w]
        obtain ⟨c1', c2', c3'⟩ := a6 r (by omega)
        exact ⟨by rw [hc1, sA_n w]; exact c1', c2'.keep (hI _ (by omega)) (eA _ (by omega)) (eA _ (by omega)) (by rw [eR]), c3'.keep (hI _ (by omega)) (eA _ (by omega)) (eA _ (by omega)) (by rw [eR])⟩
theorem k_rlL (C : CH ty N) (hL : LY c) (hb : bwf b) {z j S : Nat} (hS : S = 2 ∨ S = 108) (h : CT c F n z j) (hB : CB c S b) : ∃ c', jf_X4_readRule ty (cst N h0 c) (N + 226) (N + S) = some (bI (decide ((rlL (tk F n) b j).1 = 0)), cst N h0 c') ∧ LR S F n z c c' (rlL (tk F n) b j) := by
  have h8 := hb.1
  have h4 := hb.2.1
  have h16 := hb.2.2.1
  have hS3 : S < 273 := by omega
  have hb0 := bw_0 hb
  unfold jf_X4_readRule
  simp (disch := omega) only [kI hS3, hB.2.2.1, i32_lit, i32_lt]
  by_cases w0 : bnr b = 16
  · have w0' : ¬ (bnr b : Int) < 16 := by omega
    have e : rlL (tk F n) b j = (2, j, b) := by unfold rlL; rw [if_pos w0]
    rw [e]
    simp only [eq_false w0', if_false]
    exact k_flL C hL h (by decide)
  · have w0' : (bnr b : Int) < 16 := by omega
    have hr16 : bnr b < 16 := by omega
    obtain ⟨⟨u1, u2, u3⟩, v1, v2, v3⟩ := ct_rt hS hr16
    obtain ⟨c1, a1, a2, a3⟩ := k_adv (h0 := h0) C hL h
    have hL1 := hL.same a2.2.1 a2.2.2
    have hB1 := hB.o hb.2.2.1 hS a2 (by omega)
    have i7 : cI c1 227 7 = tkV (tk F n) (j + 1) := a3.2.2.2.2.2.2.2.2
    have hr := fndA_rg (f := brn b) (p := 0) (x := tkV (tk F n) (j + 1)) (bnr b) 0
    have hrl : jf_X0_ruleNamed ty (cst N h0 c1) (N + S) (tkV (tk F n) (j + 1)) = some (i32 (fndA (brn b) 0 (tkV (tk F n) (j + 1)) 0 (bnr b))) := by
      have e1 : fndA (cA c1 (S + 4)) 0 (tkV (tk F n) (j + 1)) 0 (bnr b) = fndA (brn b) 0 (tkV (tk F n) (j + 1)) 0 (bnr b) := fndA_cong _ _ (fun i _ h2 => by rw [Nat.zero_add]; exact (hB1.2.2.2.2.2 _ (by omega)).1)
      unfold jf_X0_ruleNamed
      simp (disch := omega) only [kR hS3, (hL1.bf hS).2.2.2.1, xbs, kI hS3, hB1.2.2.1, k_place C (ct_bk hS).2.2.2.2.1 h16 (by omega)]
      rw [e1]
    obtain ⟨c2, p1, p2, p3, p4, p5⟩ := k_pnn (h0 := h0) C hL1 a3 (w := fndA (brn b) 0 (tkV (tk F n) (j + 1)) 0 (bnr b)) (by omega) (by omega)
    have hL2 := hL1.same p2.2.1 p2.2.2
    have hB2 := hB1.o hb.2.2.1 hS p2 (by omega)
    have f2 : frL S c c2 := (frL.o a2 (by omega)).tr (frL.o p2 (by omega))
    simp (disch := omega) only [eq_true w0', if_true, k_tks C hL, xbs, a1, k_tks C hL1, kI, i7, hrl, p1, xb2s, bI_eq0]
    unfold rlL
    rw [if_neg w0]
    by_cases w1 : (tk F n (j + 1)).1 = 2
    · rw [if_neg (show ¬ (tk F n (j + 1)).1 ≠ 2 from fun e => e w1)]
      by_cases w2 : fndA (brn b) 0 (tkV (tk F n) (j + 1)) 0 (bnr b) = -1
      · rw [if_neg (show ¬ fndA (brn b) 0 (tkV (tk F n) (j + 1)) 0 (bnr b) ≠ -1 from fun e => e w2)]
        obtain ⟨x1, x2, x3⟩ := p3 w1 w2
        have hpre : (decide ((tk F n (j + 1)).1 = 2) && decide (fndA (brn b) 0 (tkV (tk F n) (j + 1)) 0 (bnr b) = -1)) = true := by rw [decide_eq_true w1, decide_eq_true w2]; rfl
        obtain ⟨c3, hc3⟩ : ∃ c3, c3 = csI c2 (S + 13 + 6 * bnr b) 2 (i32 0) := ⟨_, rfl⟩
        have f3 : fr (S + 13 + 6 * bnr b) (S + 13 + 6 * bnr b + 3) c2 c3 := by rw [hc3]; exact fr.I (by omega) (by omega)
        have hL3 := hL2.same f3.2.1 f3.2.2
        have fP3 : frP (S + 13 + 6 * bnr b) c2 c3 := frP.u f3
        have hB3 := hB2.P hb hS fP3 (by omega) (by omega)
        have hRu := hL.2.1 _ v1
        have iU3 : isT c3 (S + 13 + 6 * bnr b) 12 (bar b) [] := ⟨v1, v2, v3, (hL3.2.1 _ v1).1, (hL3.2.1 _ v1).2, by simp, by omega, by rw [hc3, sI_s]; rfl, seg_nil _ _, seg_nil _ _⟩
        obtain ⟨c4, s1, s2, s3, s4⟩ := k_rdT (h0 := h0) (z := z) (j := j + 2) (lf := none) (l := S + 10 + 6 * bnr b) C hb0 hL3 (B := S) (u := S + 10 + 6 * bnr b) hS (by omega) (by omega) (fun _ h => by cases h) (fun _ h => by cases h) u1 u2 u3 hB3.nm (x1.fr f3 (by omega)) (fun _ h => by cases h)
        have s1' : jf_X4_readTerm ty (cst N h0 c3) (N + 226) (N + S) (N + (S + 10 + 6 * bnr b)) (N + (S + 10 + 6 * bnr b)) (i32 0) = some (bI (decide ((pT (tk F n) b none 13 (j + 2) [] []).1 = 0)), cst N h0 c4) := s1
        have hL4 := s2.ly hL3
        have hB4 := hB3.P hb hS s2 (by omega) (by omega)
        have f4 : frL S c c4 := (f2.tr (frL.o f3 (by omega))).tr (frL.P s2 (by omega) (by omega))
        have hclr : jf_X7_clear ty (cst N h0 c2) (N + (S + 13 + 6 * bnr b)) = some (cst N h0 c3) := by
          unfold jf_X7_clear
          rw [ksI (by omega), show (0 : Int32) = i32 0 from rfl, ← hc3]
          rfl
        simp (disch := omega) only [hpre, Bool.true_eq_false, if_false, kI hS3, hB2.2.2.1, k_termOf C hL2 hS hr16, k_rightOf C hL2 hS hr16, xbs, kck C u1, kck C v1, hclr, s1', xb2s, bI_eq0]
        have e3 : cI c3 226 3 = cI c 226 3 ∧ cI c3 226 4 = cI c 226 4 := ⟨by rw [(f3.1 226 (by omega)).1, x2, (a2.1 226 (by omega)).1], by rw [(f3.1 226 (by omega)).1, x3, (a2.1 226 (by omega)).1]⟩
        unfold rlT
        by_cases w3 : (pT (tk F n) b none 13 (j + 2) [] []).1 = 0
        · rw [if_neg (show ¬ (pT (tk F n) b none 13 (j + 2) [] []).1 ≠ 0 from fun e => e w3)]
          obtain ⟨y1, y2, y3, y4⟩ := s3 w3
          have hwf := pT_wf0 hb0 w3
          have iU4 : isT c4 (S + 13 + 6 * bnr b) 12 (bar b) [] := s2.t iU3 (by omega) (by omega)
          have j5 := y2.2.2.2.2.2.2.1
          have h61 := tk_k F n (pT (tk F n) b none 13 (j + 2) [] []).2.1
          simp (disch := omega) only [decide_eq_true w3, Bool.true_eq_false, if_false, k_tks C hL4, xbs, kI, j5]
          by_cases w4 : (tk F n (pT (tk F n) b none 13 (j + 2) [] []).2.1).1 = 61
          · rw [if_pos w4]
            have w4' : i32 ((tk F n (pT (tk F n) b none 13 (j + 2) [] []).2.1).1 : Nat) = i32 61 := by rw [w4]; rfl
            obtain ⟨c5, g1, g2, g3⟩ := k_adv (h0 := h0) C hL4 y2
            have hL5 := hL4.same g2.2.1 g2.2.2
            have hB5 := hB4.o hb.2.2.1 hS g2 (by omega)
            have iT5 := y1.fr g2 (by omega)
            obtain ⟨c6, m1, m2, m3, m4⟩ := k_rdT (h0 := h0) (z := z) (j := (pT (tk F n) b none 13 (j + 2) [] []).2.1 + 1) (lf := some (pT (tk F n) b none 13 (j + 2) [] []).2.2) (l := S + 10 + 6 * bnr b) C hb0 hL5 (B := S) (u := S + 13 + 6 * bnr b) hS (by omega) (by omega) (fun _ _ => by omega) (fun _ _ => by omega) v1 v2 v3 hB5.nm g3 (fun T hT => by cases hT; exact ⟨iT5, fun d hd => by have := hwf.1.lt hb d hd; omega⟩)
            have m1' : jf_X4_readTerm ty (cst N h0 c5) (N + 226) (N + S) (N + (S + 13 + 6 * bnr b)) (N + (S + 10 + 6 * bnr b)) (i32 1) = some (bI (decide ((pT (tk F n) b (some (pT (tk F n) b none 13 (j + 2) [] []).2.2) 13 ((pT (tk F n) b none 13 (j + 2) [] []).2.1 + 1) [] []).1 = 0)), cst N h0 c6) := m1
            have f6 : frL S c c6 := (f4.tr (frL.o g2 (by omega))).tr (frL.P m2 (by omega) (by omega))
            simp (disch := omega) only [eq_true w4', if_true, g1, xbs, m1', xb2s, bI_eq0]
            unfold rlU
            generalize pT (tk F n) b (some (pT (tk F n) b none 13 (j + 2) [] []).2.2) 13 ((pT (tk F n) b none 13 (j + 2) [] []).2.1 + 1) [] [] = q at m3 m4 ⊢
            by_cases w5 : q.1 = 0
            · rw [if_neg (show ¬ q.1 ≠ 0 from fun e => e w5)]
              obtain ⟨t1, t2, t3, t4⟩ := m3 w5
              have hL6 := m2.ly hL5
              have hB6 := hB5.P hb hS m2 (by omega) (by omega)
              obtain ⟨c7, r1, r2, r3⟩ := k_addR (h0 := h0) (x := tkV (tk F n) (j + 1)) C hL6 hb hS hr16 hB6 (m2.t iT5 (by omega) (by omega)) t1
              simp (disch := omega) only [decide_eq_true w5, Bool.true_eq_false, if_false, r1, xbs]
              refine ⟨c7, rfl, f6.tr (frL.o r2 (by omega)), fun _ => ⟨t2.fr r2 (by omega), r3, ?_, ?_⟩, fun e => absurd rfl e⟩
              · rw [(r2.1 226 (by omega)).1, t3, (g2.1 226 (by omega)).1, y3]; exact e3.1
              · rw [(r2.1 226 (by omega)).1, t4, (g2.1 226 (by omega)).1, y4]; exact e3.2
            · rw [if_pos w5]
              simp (disch := omega) only [decide_eq_false w5, if_true]
              exact ⟨c6, rfl, f6, fun e => absurd e w5, fun _ => m4 w5⟩
          · rw [if_neg w4]
            have w4' : ¬ i32 ((tk F n (pT (tk F n) b none 13 (j + 2) [] []).2.1).1 : Nat) = i32 61 := by rw [i32_eq (by omega) (by omega) (by omega) (by omega)]; omega
            obtain ⟨c7, r1, r2, r3⟩ := k_addR (h0 := h0) (x := tkV (tk F n) (j + 1)) C hL4 hb hS hr16 hB4 y1 iU4
            simp (disch := omega) only [eq_false w4', if_false, r1, xbs]
            refine ⟨c7, rfl, f4.tr (frL.o r2 (by omega)), fun _ => ⟨y2.fr r2 (by omega), r3, ?_, ?_⟩, fun e => absurd rfl e⟩
            · rw [(r2.1 226 (by omega)).1, y3]; exact e3.1
            · rw [(r2.1 226 (by omega)).1, y4]; exact e3.2
        · rw [if_pos w3]
          simp (disch := omega) only [decide_eq_false w3, if_true]
          exact ⟨c4, rfl, f4, fun e => absurd e w3, fun _ => s4 w3⟩
      · rw [if_pos w2]
        have hpre : (decide ((tk F n (j + 1)).1 = 2) && decide (fndA (brn b) 0 (tkV (tk F n) (j + 1)) 0 (bnr b) = -1)) = false := by rw [decide_eq_false w2, Bool.and_false]
        simp only [hpre, if_true]
        exact ⟨c2, rfl, f2, fun e => (by cases e), fun _ => p5 w1 w2⟩
    · rw [if_pos w1]
      have hpre : (decide ((tk F n (j + 1)).1 = 2) && decide (fndA (brn b) 0 (tkV (tk F n) (j + 1)) 0 (bnr b) = -1)) = false := by rw [decide_eq_false w1, Bool.false_and]
      simp only [hpre, if_true]
      exact ⟨c2, rfl, f2, fun e => (by cases e), fun _ => p4 w1⟩
end TEXTD

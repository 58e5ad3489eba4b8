/-! THE CLASS: a term fits a query -/
section FITC
variable {ty : xTy} {N : Nat} {h0 : xH} {c : CS} {b : Bk}
theorem LY.m {c : CS} (h : LY c) : isM c 241 := ⟨by decide, by decide, h.1 (241, 0, 242) (by decide)⟩
theorem k_mt (C : CH ty N) (hb : bwf b) (hL : LY c) {T Q : List Nat} {t u rt ru : Nat} (iT : isT c t rt (bar b) T) (iQ : isT c u ru (bar b) Q) (h1 : tlo b T) (h2 : tlo b Q) (ht : t + 3 ≤ 241 ∨ 257 ≤ t) (hu : u + 3 ≤ 241 ∨ 257 ≤ u) :
    ∃ c', jf_X3_matches ty (cst N h0 c) (N + 241) (N + t) (N + u) (i32 0) = some (bI (mtB (bar b) T Q), cst N h0 c') ∧ fr 241 243 c c' ∧ ∀ b', mt (bar b) T Q b00 = some b' → BC c' 241 (bar b) Q b' := by
  obtain ⟨c', q1, q2, q3⟩ := m_matches (h0 := h0) C hL.m iT iQ ⟨by omega, by omega⟩ (fun d hd => (h1.cl hb d hd).2) (fun d hd => by have := h2.cl hb d hd; omega) (bar_z b) (a := 0) (o := 0) h1.1 (by rw [List.drop_zero]; exact h2.1) (by omega)
  rw [List.drop_zero] at q1 q3
  exact ⟨c', q1, q2, q3⟩
theorem k_uni (C : CH ty N) (hb : bwf b) (hL : LY c) {T Q : List Nat} {t u rt ru : Nat} (iT : isT c t rt (bar b) T) (iQ : isT c u ru (bar b) Q) (h1 : tlo b T) (h2 : tlo b Q) (ht : t + 3 ≤ 241 ∨ 257 ≤ t) (hu : u + 3 ≤ 241 ∨ 257 ≤ u) {p : Nat} (hp : p < T.length) :
    ∃ c', jf_X10_unifies ty (cst N h0 c) (N + 243) (N + t) (i32 p) (N + u) = some (bI (uniB (bar b) (fst1 (bar b) (T.drop p)) Q), cst N h0 c') ∧ fr 243 257 c c' ∧ (uniS (bar b) (fst1 (bar b) (T.drop p)) Q → UY (bar b) (T ++ Q.map (sh 20)) c' p T.length) := by
  obtain ⟨c', q1, q2⟩ := u_unifies (h0 := h0) C (bar_z b) h1.1 h2.1 (h1.cl hb) (h2.cl hb) h1.2.1 h2.2.1 hL iT iQ (by omega) (by omega) hp
  refine ⟨c', ?_, q1, fun hu => ?_⟩
  · rcases q2 with ⟨e, f, -⟩ | ⟨e, f⟩
    · rw [e, uniB_true f]; rfl
    · rw [e, uniB_false f]; rfl
  · rcases q2 with ⟨e, f, g⟩ | ⟨e, f⟩
    · exact g
    · exact absurd hu f
theorem fst1_0 {ar : Nat → Nat} {T : List Nat} (h : tms ar 1 T) : fst1 ar (T.drop 0) = T := by
  rw [List.drop_zero]; unfold fst1; rw [skipN_all h, List.take_length]
theorem k_fit (C : CH ty N) (hb : bwf b) (hL : LY c) {T Q : List Nat} {t u rt ru : Nat} (iT : isT c t rt (bar b) T) (iQ : isT c u ru (bar b) Q) (h1 : tlo b T) (h2 : tlo b Q) (ht : t + 3 ≤ 241 ∨ 257 ≤ t) (hu : u + 3 ≤ 241 ∨ 257 ≤ u) {how : Nat} (hh : how ≤ 3) :
    ∃ c', jf_X11_fitsTerms ty (cst N h0 c) (N + 0) (i32 how) (N + t) (N + u) = some (bI (fit (bar b) how T Q), cst N h0 c') ∧ fr 241 257 c c' := by
  have pT : 1 ≤ T.length := tms_len h1.1
  have e11 := k_sub (h0 := h0) C hL (show (0, 11, 241) ∈ lyL by decide) (by omega) (show ct 241 = some (0, 3) by decide)
  have e12 := k_sub (h0 := h0) C hL (show (0, 12, 243) ∈ lyL by decide) (by omega) (show ct 243 = some (0, 10) by decide)
  unfold jf_X11_fitsTerms
  simp (disch := omega) only [i32_lit, i32_neg, i32_add, i32_sub, i32_mul, i32_lt, i32_le, i32_eq, e11, e12, xbs]
  rcases (show how = 0 ∨ how = 1 ∨ how = 2 ∨ how = 3 by omega) with rfl | rfl | rfl | rfl
  · obtain ⟨c', q1, q2, -⟩ := k_mt (h0 := h0) C hb hL iT iQ h1 h2 ht hu
    refine ⟨c', ?_, q2.wide (by omega) (by omega)⟩
    rw [if_pos (by omega), q1]
    simp only [xb2s, xz_b, xbs, fit, if_pos]
  · obtain ⟨c', q1, q2, -⟩ := k_mt (h0 := h0) C hb hL iQ iT h2 h1 hu ht
    refine ⟨c', ?_, q2.wide (by omega) (by omega)⟩
    rw [if_neg (by omega), if_pos (by omega), q1]
    simp only [xb2s, xz_b, xbs, fit]
    rfl
  · obtain ⟨c', q1, q2, -⟩ := k_uni (h0 := h0) C hb hL iT iQ h1 h2 ht hu (p := 0) (by omega)
    rw [fst1_0 h1.1] at q1
    refine ⟨c', ?_, q2.wide (by omega) (by omega)⟩
    rw [if_neg (by omega), if_neg (by omega), if_pos (by omega), show i32 0 = i32 ((0 : Nat) : Int) from rfl, q1]
    simp only [xb2s, xz_b, xbs, fit]
    rfl
  · obtain ⟨c', q1, q2, -⟩ := k_mt (h0 := h0) C hb hL iT iQ h1 h2 ht hu
    have hL' := hL.same q2.2.1 q2.2.2
    have e11' := k_sub (h0 := h0) C hL' (show (0, 11, 241) ∈ lyL by decide) (by omega) (show ct 241 = some (0, 3) by decide)
    rw [if_neg (by omega), if_neg (by omega), if_neg (by omega), q1]
    simp only [xb2s]
    have hf : fit (bar b) 3 T Q = (mtB (bar b) T Q && mtB (bar b) Q T) := rfl
    rw [hf]
    cases hm : mtB (bar b) T Q with
    | false => exact ⟨c', rfl, q2.wide (by omega) (by omega)⟩
    | true =>
      obtain ⟨c2, r1, r2, -⟩ := k_mt (h0 := h0) C hb hL' (iQ.fr q2 (by omega)) (iT.fr q2 (by omega)) h2 h1 hu ht
      refine ⟨c2, ?_, (q2.tr r2).wide (by omega) (by omega)⟩
      simp only [bI_eq0, Bool.true_eq_false, if_false, e11', xbs, r1, xb2s, Bool.true_and]
      cases mtB (bar b) Q T <;> rfl
end FITC

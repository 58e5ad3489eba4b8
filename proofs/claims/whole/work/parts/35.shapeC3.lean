section SHAPEC3
variable {ty : xTy} {N : Nat} {h0 : xH} {ar : Nat → Nat} {hp : List Nat}
theorem u_sh14 (C : CH ty N) (h : okH ar hp) {par : Nat → Nat} {sg : Nat → Option Nat} : ∀ (k t : Nat) (c : CS), t + k = hp.length → UC c ar hp par sg → isT c 254 60 ar [] → (∀ i, i < t → cA c 249 i = i32 (-1)) → cI c 243 14 = i32 0 →
    ∃ c', fr 243 257 c c' ∧ UC c' ar hp par sg ∧ isT c' 254 60 ar [] ∧ NB c' hp par sg [] ∧ cI c' 243 13 = i32 1 ∧ cA c' 253 0 = i32 0 ∧ ∀ {r}, (∃ n, jf_X10_unifiedShape_49 ty n (N + 243) (i32 0) (cst N h0 c') = some r) → ∃ n, jf_X10_unifiedShape_14 ty n (N + 243) (i32 t) (cst N h0 c) = some r := by
  have h24 := h.2.2.2
  intro k
  induction k with
  | zero =>
    intro t c h1 hc hT hs hn
    obtain ⟨c1, hc1⟩ : ∃ c1, c1 = csA c 253 0 (i32 0) := ⟨_, rfl⟩
    obtain ⟨c2, hc2⟩ : ∃ c2, c2 = csI c1 243 13 (i32 1) := ⟨_, rfl⟩
    refine ⟨c2, ?_, ?_, ?_, ⟨?_, fun r x hx _ _ => ?_⟩, by rw [hc2, sI_s], by rw [hc2]; show cA c1 253 0 = _; rw [hc1, sA_s], fun ⟨n, hn'⟩ => ⟨1, ?_⟩⟩
    · rw [hc2, hc1]; exact fr.tr (fr.A (by omega) (by omega)) (fr.I (by omega) (by omega))
    · rw [hc2, hc1]; exact hc.keep rfl rfl (sI_o (by omega)) (fun q _ _ => sA_o (by omega))
    · rw [hc2, hc1]; exact hT.keep (by funext k; exact sI_o (by omega)) (sA_o (by omega)) (sA_o (by omega)) rfl
    · rw [hc2, sI_o (by omega), hc1]; exact hn
    · rw [hc2]; show cA c1 249 r = _
      rw [hc1, sA_o (by omega), hs r (by have := (List.getElem?_eq_some_iff.mp hx).1; omega)]
      simp
    · rw [jf_X10_unifiedShape_14_s]
      simp (disch := omega) only [i32_lit, i32_neg, i32_add, i32_sub, i32_mul, i32_lt, i32_le, i32_eq, kI, hc.2.1, if_pos, kRl hc.1 (show (243, 9, 253) ∈ lyL by decide), xbs, kwa C (show ct 253 = some (1, 181) by decide)]
      rw [show csA c 253 (Int.toNat 0) (i32 0) = c1 from hc1.symm]
      simp (disch := omega) only [ksI, xbs]
      rw [← hc2]
      exact jf_X10_unifiedShape_49_l hn'
  | succ k ih =>
    intro t c h1 hc hT hs hn
    obtain ⟨c', q1, q2, q3, q4, q5, q6, q7⟩ := ih (t + 1) (csA c 249 t (i32 (-1))) (by omega) (hc.keep rfl rfl rfl (fun z z1 z2 => sA_o (by omega))) (hT.keep rfl (sA_o (by omega)) (sA_o (by omega)) rfl) (fun i hi => by
      by_cases hit : i = t
      · subst hit; exact sA_s
      · rw [sA_n hit]; exact hs i (by omega)) hn
    refine ⟨c', fr.tr (fr.A (by omega) (by omega)) q1, q2, q3, q4, q5, q6, fun hr => ?_⟩
    obtain ⟨n, hn'⟩ := q7 hr
    refine ⟨n + 1, ?_⟩
    rw [jf_X10_unifiedShape_14_s]
    simp (disch := omega) only [i32_lit, i32_neg, i32_add, i32_sub, i32_mul, i32_lt, i32_le, i32_eq, kI, hc.2.1, if_neg, kRl hc.1 (show (243, 5, 249) ∈ lyL by decide), xbs, kwa C (show ct 249 = some (1, 24) by decide), Int.toNat_natCast]
    rw [show (t : Int) + 1 = ((t + 1 : Nat) : Int) by omega]
    exact hn'
theorem u_shape (C : CH ty N) (h : okH ar hp) {x0 y0 : Nat} (hx0 : x0 < hp.length) (hy0 : y0 < hp.length) {c : CS} (hy : UY ar hp c x0 y0) :
    ∃ c' φ, jf_X10_unifiedShape ty (cst N h0 c) (N + 243) = some (N + 254, cst N h0 c') ∧ fr 243 257 c c' ∧ wfs ar φ ∧ sub φ (tm ar hp x0) = sub φ (tm ar hp y0) ∧ (∀ ψ, wfs ar ψ → sub ψ (tm ar hp x0) = sub ψ (tm ar hp y0) → sub ψ (tm ar hp 0) = sub ψ (sub φ (tm ar hp 0))) ∧
      isT c' 254 60 ar (if (sub φ (tm ar hp 0)).length ≤ 60 then shape (sub φ (tm ar hp 0)) else []) := by
  obtain ⟨par, rt, dep, md, sg, tme, K, y1, y2, y3, y4, y5⟩ := hy
  obtain ⟨φ, p1, p2, p3, p4⟩ := cls_sol h y1 hx0 hy0 y4 y5
  have hl : 0 < hp.length := by omega
  obtain ⟨c1, hc1⟩ : ∃ c1, c1 = csI c 254 2 (i32 0) := ⟨_, rfl⟩
  obtain ⟨c2, hc2⟩ : ∃ c2, c2 = csI c1 243 14 (i32 0) := ⟨_, rfl⟩
  have f2 : fr 243 257 c c2 := by rw [hc2, hc1]; exact fr.tr (fr.I (by omega) (by omega)) (fr.I (by omega) (by omega))
  have hU2 : UC c2 ar hp par sg := by
    rw [hc2, hc1]
    exact y2.keep rfl rfl (by rw [sI_o (by omega), sI_o (by omega)]) (fun _ _ _ => rfl)
  have hT2 : isT c2 254 60 ar [] := isT_nil hU2.1 (by decide) (by decide) (by decide) (by omega) (by rw [hc2, sI_o (by omega), hc1, sI_s])
  obtain ⟨c3, q1, q2, q3, q4, q5, q6, q7⟩ := u_sh14 (h0 := h0) C h hp.length 0 c2 (by omega) hU2 hT2 (fun i hi => by omega) (by rw [hc2, sI_s])
  obtain ⟨n, c4, r1, r2, r3⟩ := u_sh49 (h0 := h0) C h y3 y1 y4 y5 60 [] [] [0] c3 (by simp) (by simp) (by simp) (fun x hx => by simp at hx; omega) q2 q3 q5 (by rw [seg_cons]; exact ⟨q6, seg_nil _ _⟩) q4
  obtain ⟨n', hn'⟩ := q7 ⟨n, r1⟩
  have e : ([0] : List Nat).reverse.flatMap (Vv ar hp rt sg K) = sub φ (tm ar hp 0) := by
    rw [p3 0 hl]; simp
  rw [e, List.length_nil, Nat.zero_add, List.nil_append] at r3
  refine ⟨c4, φ, ?_, f2.tr (q1.tr r2), p1, p2, fun ψ w1 w2 => ?_, r3⟩
  · unfold jf_X10_unifiedShape
    simp (disch := omega) only [i32_lit, i32_neg, i32_add, i32_sub, i32_mul, i32_lt, i32_le, i32_eq, kgol C y2.1, xbs, k_clear C (show ct 254 = some (0, 7) by decide)]
    rw [← hc1]
    simp (disch := omega) only [ksI, xbs]
    rw [← hc2]
    exact jf_X10_unifiedShape_14_l hn'
  · rw [p3 0 hl]
    exact (p4 ψ w1 w2 0 hl).symm
end SHAPEC3

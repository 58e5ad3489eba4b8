/-! THE CLASS'S UNIFIER: no circle -/
section UC3
variable {ty : xTy} {N : Nat} {h0 : xH} {ar : Nat → Nat} {hp : List Nat}
theorem cntF_all {f : Nat → Bool} : ∀ n, cntF f n = n → ∀ i, i < n → f i = true
  | 0, _, i, hi => by omega
  | n + 1, h, i, hi => by
    have hl := cntF_le f n
    simp only [cntF] at h
    by_cases hf : f n = true
    · rw [if_pos hf] at h
      by_cases hin : i = n
      · subst hin; exact hf
      · exact cntF_all n (by omega) i (by omega)
    · rw [if_neg hf] at h; omega
theorem cntF_some {f : Nat → Bool} : ∀ n, cntF f n < n → ∃ i, i < n ∧ f i = false
  | 0, h => by omega
  | n + 1, h => by
    simp only [cntF] at h
    by_cases hf : f n = true
    · rw [if_pos hf] at h
      obtain ⟨i, h1, h2⟩ := cntF_some (f := f) n (by omega)
      exact ⟨i, by omega, h2⟩
    · exact ⟨n, by omega, by simpa using hf⟩
theorem cntF_zero : ∀ n, cntF (fun _ => false) n = 0
  | 0 => rfl
  | n + 1 => by simp only [cntF, cntF_zero n]; rfl
theorem TI.all {rt : Nat → Nat} {sg : Nat → Option Nat} {st : Nat → Bool} {tme : Nat → Nat} {clk : Nat} (ht : TI ar hp rt sg st tme clk) (ha : ∀ i, i < hp.length → st i = true) : TMo ar hp rt sg tme ∧ ∀ i, i < hp.length → tme i < clk := by
  refine ⟨fun i hi s hs d hd a hA => ?_, fun i hi => (ht i hi (ha i hi)).1⟩
  exact ((ht i hi (ha i hi)).2 s hs d hd a hA).2
theorem setb_none (h : okH ar hp) {x0 y0 : Nat} {par rt dep : Nat → Nat} {md : Nat} {sg : Nat → Option Nat} (hu : CUI ar hp x0 y0 par rt dep md sg [] []) {st : Nat → Bool} (hfix : ∀ i, i < hp.length → st i = false → setb ar hp st (sg (rt i)) = false) (hlt : cntF st hp.length < hp.length) : ∀ φ, wfs ar φ → sub φ (tm ar hp x0) ≠ sub φ (tm ar hp y0) := by
  obtain ⟨i0, h1, h2⟩ := cntF_some _ hlt
  refine cls_none h hu h1 h2 (fun i hi hst => ?_)
  have hf := hfix i hi hst
  cases hs : sg (rt i) with
  | none => rw [hs] at hf; cases hf
  | some s =>
    rw [hs] at hf
    have ri := hu.1 i hi
    obtain ⟨s1, ⟨d, s2, s3⟩, s4⟩ := (hu.2.2.1 (rt i) ri.2.1 ri.2.2.2.1).1 s hs
    simp only [setb, getD_some s2] at hf
    refine ⟨s, d, rfl, s2, ?_⟩
    obtain ⟨a, a1, a2⟩ := List.all_eq_false.mp hf
    exact ⟨a, a1, by simpa using a2⟩
theorem u_noc32 (C : CH ty N) (h : okH ar hp) {x0 y0 : Nat} {par rt dep : Nat → Nat} {md : Nat} {sg : Nat → Option Nat} (hu : CUI ar hp x0 y0 par rt dep md sg [] []) (hmd : md < hp.length) : ∀ (k t : Nat) (mo : Bool) (st : Nat → Bool) (tme : Nat → Nat) (clk : Nat) (c : CS), t + k = hp.length → UC c ar hp par sg → SC c hp st → TI ar hp rt sg st tme clk → (mo = true → t ≤ cntF st hp.length) → (mo = false → ∀ i, i < hp.length → st i = false → setb ar hp st (sg (rt i)) = false) →
    ∃ n c', fr 243 257 c c' ∧ UC c' ar hp par sg ∧ ((jf_X10_hasNoCircle_32 ty n (N + 243) (i32 ((hp.length - cntF st hp.length : Nat) : Int)) (bI mo) (i32 t) (cst N h0 c) = some (i32 1, cst N h0 c') ∧ ∃ tme K, TMo ar hp rt sg tme ∧ ∀ i, i < hp.length → tme i < K) ∨
      (jf_X10_hasNoCircle_32 ty n (N + 243) (i32 ((hp.length - cntF st hp.length : Nat) : Int)) (bI mo) (i32 t) (cst N h0 c) = some (i32 0, cst N h0 c') ∧ ∀ φ, wfs ar φ → sub φ (tm ar hp x0) ≠ sub φ (tm ar hp y0))) := by
  have h24 := h.2.2.2
  intro k
  induction k with
  | zero =>
    intro t mo st tme clk c h1 hc hs ht hm1 hm2
    have hle := cntF_le st hp.length
    by_cases hcn : cntF st hp.length = hp.length
    · refine ⟨1, c, fr.rf, hc, Or.inl ⟨?_, tme, clk, ht.all (cntF_all _ hcn)⟩⟩
      rw [jf_X10_hasNoCircle_32_s]
      simp (disch := omega) only [i32_lit, i32_neg, i32_add, i32_sub, i32_mul, i32_lt, i32_le, i32_eq, kI, hc.2.1, if_pos]
    · have hmo : mo = false := by cases mo; rfl; exact absurd (hm1 rfl) (by omega)
      refine ⟨1, c, fr.rf, hc, Or.inr ⟨?_, setb_none h hu (hm2 hmo) (by omega)⟩⟩
      rw [jf_X10_hasNoCircle_32_s]
      simp (disch := omega) only [i32_lit, i32_neg, i32_add, i32_sub, i32_mul, i32_lt, i32_le, i32_eq, kI, hc.2.1, if_pos, if_neg]
  | succ k ih =>
    intro t mo st tme clk c h1 hc hs ht hm1 hm2
    have hle := cntF_le st hp.length
    cases mo with
    | false =>
      by_cases hcn : cntF st hp.length = hp.length
      · refine ⟨1, c, fr.rf, hc, Or.inl ⟨?_, tme, clk, ht.all (cntF_all _ hcn)⟩⟩
        rw [jf_X10_hasNoCircle_32_s]
        simp (disch := omega) only [i32_lit, i32_neg, i32_add, i32_sub, i32_mul, i32_lt, i32_le, i32_eq, kI, hc.2.1, if_pos, if_neg, bI_eq0]
        rfl
      · refine ⟨1, c, fr.rf, hc, Or.inr ⟨?_, setb_none h hu (hm2 rfl) (by omega)⟩⟩
        rw [jf_X10_hasNoCircle_32_s]
        simp (disch := omega) only [i32_lit, i32_neg, i32_add, i32_sub, i32_mul, i32_lt, i32_le, i32_eq, kI, hc.2.1, if_pos, if_neg, bI_eq0]
        rfl
    | true =>
      have htl := hm1 rfl
      obtain ⟨n1, st', tme', clk', new', c', r1, r2, r3, r4, r5, r6, r6', r7, r8⟩ := u_settle (h0 := h0) C h hu hmd hp.length 0 st tme clk c (Nat.le_refl _) (by omega) hc hs ht
      have hle' := cntF_le st' hp.length
      have hset : jf_X10_settleMore ty (cst N h0 c) (N + 243) = some (i32 (new' : Nat), cst N h0 c') := by
        unfold jf_X10_settleMore
        simp (disch := omega) only [i32_lit, i32_neg, i32_add, i32_sub, i32_mul, i32_lt, i32_le, i32_eq, kI, hc.2.1]
        exact jf_X10_settleMore_9_l r1
      have hhead : ∀ n, jf_X10_hasNoCircle_32 ty (n + 1) (N + 243) (i32 ((hp.length - cntF st hp.length : Nat) : Int)) (bI true) (i32 t) (cst N h0 c) = jf_X10_hasNoCircle_32 ty n (N + 243) (i32 ((hp.length - cntF st' hp.length : Nat) : Int)) (bI (decide (0 < new'))) (i32 ((t + 1 : Nat) : Int)) (cst N h0 c') := by
        intro n
        rw [jf_X10_hasNoCircle_32_s]
        simp (disch := omega) only [i32_lit, i32_neg, i32_add, i32_sub, i32_mul, i32_lt, i32_le, i32_eq, kI, hc.2.1, if_neg, bI_eq0, Bool.true_eq_false, if_false, hset, xb2s]
        rw [show ((hp.length - cntF st hp.length : Nat) : Int) - (new' : Int) = ((hp.length - cntF st' hp.length : Nat) : Int) by omega, show (t : Int) + 1 = ((t + 1 : Nat) : Int) by omega]
        by_cases hz : new' = 0
        · subst hz
          simp (disch := omega) only [if_pos, decide_eq_false]
          rfl
        · simp (disch := omega) only [if_neg, decide_eq_true]
          rfl
      obtain ⟨n2, c2, q1, q2, q3⟩ := ih (t + 1) (decide (0 < new')) st' tme' clk' c' (by omega) r3 r4 r5 (fun hz => by
        have := of_decide_eq_true hz; omega) (fun hz => by
        have hz := of_decide_eq_false hz
        obtain ⟨e1, e2⟩ := r8 (by omega)
        subst e1
        exact e2)
      refine ⟨n2 + 1, c2, r2.tr q1, q2, ?_⟩
      rw [hhead n2]
      exact q3
theorem u_noc2 (C : CH ty N) (h : okH ar hp) {par : Nat → Nat} {sg : Nat → Option Nat} : ∀ (k t : Nat) (c : CS), t + k = hp.length → UC c ar hp par sg → (∀ i, i < t → cA c 250 i = 0) →
    ∃ c', fr 243 257 c c' ∧ UC c' ar hp par sg ∧ SC c' hp (fun _ => false) ∧ ∀ {r}, (∃ n, jf_X10_hasNoCircle_32 ty n (N + 243) (i32 (hp.length : Nat)) 1 0 (cst N h0 c') = some r) → ∃ n, jf_X10_hasNoCircle_2 ty n (N + 243) (i32 t) (cst N h0 c) = some r := by
  have h24 := h.2.2.2
  intro k
  induction k with
  | zero =>
    intro t c h1 hc hs
    refine ⟨c, fr.rf, hc, fun i hi => ?_, fun ⟨n, hn⟩ => ⟨1, ?_⟩⟩
    · rw [hs i (by omega)]; rfl
    · rw [jf_X10_hasNoCircle_2_s]
      simp (disch := omega) only [i32_lit, i32_neg, i32_add, i32_sub, i32_mul, i32_lt, i32_le, i32_eq, kI, hc.2.1, if_pos]
      exact jf_X10_hasNoCircle_32_l hn
  | succ k ih =>
    intro t c h1 hc hs
    have hc1 : UC (csA c 250 t 0) ar hp par sg := hc.keep rfl rfl rfl (fun z z1 z2 => sA_o (by omega))
    obtain ⟨c', q1, q2, q3, q4⟩ := ih (t + 1) (csA c 250 t 0) (by omega) hc1 (fun i hi => by
      by_cases hit : i = t
      · subst hit; exact sA_s
      · rw [sA_n hit]; exact hs i (by omega))
    refine ⟨c', fr.tr (fr.A (by omega) (by omega)) q1, q2, q3, fun hr => ?_⟩
    obtain ⟨n, hn⟩ := q4 hr
    refine ⟨n + 1, ?_⟩
    rw [jf_X10_hasNoCircle_2_s]
    simp (disch := omega) only [i32_lit, i32_neg, i32_add, i32_sub, i32_mul, i32_lt, i32_le, i32_eq, kI, hc.2.1, if_neg, kRl hc.1 (show (243, 6, 250) ∈ lyL by decide), xbs, kwa C (show ct 250 = some (2, 24) by decide), Int.toNat_natCast]
    rw [show (t : Int) + 1 = ((t + 1 : Nat) : Int) by omega]
    exact hn
theorem u_noc (C : CH ty N) (h : okH ar hp) {x0 y0 : Nat} {par rt dep : Nat → Nat} {md : Nat} {sg : Nat → Option Nat} (hu : CUI ar hp x0 y0 par rt dep md sg [] []) (hmd : md < hp.length) {c : CS} (hc : UC c ar hp par sg) :
    ∃ c', fr 243 257 c c' ∧ UC c' ar hp par sg ∧ ((jf_X10_hasNoCircle ty (cst N h0 c) (N + 243) = some (i32 1, cst N h0 c') ∧ ∃ tme K, TMo ar hp rt sg tme ∧ ∀ i, i < hp.length → tme i < K) ∨
      (jf_X10_hasNoCircle ty (cst N h0 c) (N + 243) = some (i32 0, cst N h0 c') ∧ ∀ φ, wfs ar φ → sub φ (tm ar hp x0) ≠ sub φ (tm ar hp y0))) := by
  obtain ⟨c1, q1, q2, q3, q4⟩ := u_noc2 (h0 := h0) C h hp.length 0 c (by omega) hc (fun i hi => by omega)
  obtain ⟨n, c2, r1, r2, r3⟩ := u_noc32 (h0 := h0) C h hu hmd hp.length 0 true (fun _ => false) (fun _ => 0) 0 c1 (by omega) q2 q3 (fun i hi hf => by cases hf) (fun _ => by omega) (fun hf => by cases hf)
  rw [cntF_zero] at r3
  refine ⟨c2, q1.tr r1, r2, ?_⟩
  rcases r3 with ⟨e, f⟩ | ⟨e, f⟩
  · refine Or.inl ⟨?_, f⟩
    obtain ⟨n', hn'⟩ := q4 ⟨n, e⟩
    exact jf_X10_hasNoCircle_2_l hn'
  · refine Or.inr ⟨?_, f⟩
    obtain ⟨n', hn'⟩ := q4 ⟨n, e⟩
    exact jf_X10_hasNoCircle_2_l hn'
end UC3

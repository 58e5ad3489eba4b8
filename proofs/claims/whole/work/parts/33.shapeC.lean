/-! THE CLASS: the shape of what two terms come to -/
section SHAPEC
variable {ty : xTy} {N : Nat} {h0 : xH} {ar : Nat → Nat} {hp : List Nat}
theorem Vv_step (h : okH ar hp) {x0 y0 : Nat} {par rt dep : Nat → Nat} {md : Nat} {sg : Nat → Option Nat} (u : CUI ar hp x0 y0 par rt dep md sg [] []) {tme : Nat → Nat} (ht : TMo ar hp rt sg tme) {K : Nat} (hK : ∀ i, i < hp.length → tme i < K) {i : Nat} (hi : i < hp.length) :
    (∀ s d, sg (rt i) = some s → hp[s]? = some d → Vv ar hp rt sg K i = d :: (ags ar hp (s + 1) (ar d)).flatMap (Vv ar hp rt sg K)) ∧ (sg (rt i) = none → Vv ar hp rt sg K i = [hp.getD (rt i) 0]) := by
  have hS : ∀ r, r < hp.length → par r = r → ∀ s, sg r = some s → s < hp.length ∧ (∃ d, hp[s]? = some d ∧ d < 100) ∧ rt s = r := fun r hr hp' => (u.2.2.1 r hr hp').1
  have hk := hK i hi
  obtain ⟨K', rfl⟩ : ∃ K', K = K' + 1 := ⟨K - 1, by omega⟩
  constructor
  · intro s d hs hd
    have e : Vv ar hp rt sg (K' + 1) i = hp.getD s 0 :: (ags ar hp (s + 1) (ar (hp.getD s 0))).flatMap (Vv ar hp rt sg K') := by
      simp only [Vv, hs]
    rw [e, getD_some hd]
    congr 1
    refine flatMap_congr' (fun a ha => ?_)
    have h1 := ht i hi s hs d hd a ha
    have h2 := ((tm_head h hd).2 a ha).1
    exact Vv_stable h u.1 hS ht K' (K' + 1) a h2 (by omega) (by omega)
  · intro hs
    simp only [Vv, hs]
def KA (c c' : CS) : Prop := (∀ q, q ≠ 253 → cA c' q = cA c q) ∧ (∀ q k, (q ≠ 243 ∨ k ≠ 13) → cI c' q k = cI c q k) ∧ cR c' = cR c ∧ cP c' = cP c
theorem KA.fr {c c' : CS} (h : KA c c') : fr 243 257 c c' := ⟨fun q hq => ⟨funext (fun k => h.2.1 q k (Or.inl (by omega))), h.1 q (by omega)⟩, h.2.2.1, h.2.2.2⟩
theorem KA.T {c c' : CS} (h : KA c c') {room : Nat} {T : List Nat} (hT : isT c 254 room ar T) : isT c' 254 room ar T := hT.keep (funext (fun k => h.2.1 254 k (Or.inl (by omega)))) (h.1 255 (by omega)) (h.1 256 (by omega)) (by rw [h.2.2.1])
theorem KA.U {c c' : CS} (h : KA c c') {par : Nat → Nat} {sg : Nat → Option Nat} (hc : UC c ar hp par sg) : UC c' ar hp par sg := hc.keep h.2.2.1 h.2.2.2 (h.2.1 243 11 (Or.inr (by omega))) (fun q _ _ => h.1 q (by omega))
theorem u_await29 (C : CH ty N) (h : okH ar hp) {par : Nat → Nat} {sg : Nat → Option Nat} {w v : Nat} (hw : w ≤ 1000) (hv : v ≤ 1000) : ∀ (j q : Nat) (c : CS), (∃ o, tms ar (j + o) (hp.drop q)) → q ≤ hp.length → UC c ar hp par sg → cI c 243 13 = i32 w → w + j ≤ 181 →
    ∃ c', (∀ n, j < n → jf_X10_awaitArguments_29 ty n (N + 243) (i32 q) (i32 v) (i32 ((w : Int) + j - 1)) (cst N h0 c) = some (cst N h0 c')) ∧ KA c c' ∧ cI c' 243 13 = i32 v ∧ (∀ i, i < w ∨ w + j ≤ i → cA c' 253 i = cA c 253 i) ∧ seg (cA c' 253) w (ags ar hp q j).reverse := by
  have h24 := h.2.2.2
  intro j
  induction j with
  | zero =>
    intro q c h2 h3 hc hs hl
    refine ⟨csI c 243 13 (i32 v), fun n hn => ?_, ⟨fun _ _ => rfl, fun q k hq => sI_o hq, rfl, rfl⟩, sI_s, fun _ _ => rfl, seg_nil _ _⟩
    obtain ⟨n, rfl⟩ : ∃ n', n = n' + 1 := ⟨n - 1, by omega⟩
    rw [jf_X10_awaitArguments_29_s]
    simp (disch := omega) only [i32_lit, i32_neg, i32_add, i32_sub, i32_mul, i32_lt, i32_le, i32_eq, kI, hs, if_pos, ksI, xbs]
  | succ j ih =>
    intro q c h2 h3 hc hs hl
    obtain ⟨o, ho⟩ := h2
    have hoa : tms ar (1 + (j + o)) (hp.drop q) := by rwa [show 1 + (j + o) = j + 1 + o by omega]
    have hne := tms_ne (show tms ar (j + o + 1) (hp.drop q) by rwa [show j + o + 1 = j + 1 + o by omega])
    have hq : q < hp.length := by
      rcases Nat.lt_or_ge q hp.length with z | z
      · exact z
      · exact absurd (List.drop_eq_nil_of_le z) hne
    obtain ⟨f0, f1, f2, f3, f4, f5⟩ := fst1_split hoa
    have e2 : snd1 ar (hp.drop q) = hp.drop (q + (tm ar hp q).length) := by
      unfold tm snd1
      rw [f3, List.drop_drop]
    obtain ⟨dq, hdq⟩ := get_some hq
    obtain ⟨u1, u2, u3⟩ := id hc
    obtain ⟨c1, hc1⟩ : ∃ c1, c1 = csA c 253 (w + j) (i32 q) := ⟨_, rfl⟩
    have k1 : KA c c1 := by rw [hc1]; exact ⟨fun q hq => sA_o hq, fun _ _ _ => rfl, rfl, rfl⟩
    have hc1U := k1.U hc
    obtain ⟨c', r1, r2, r3, r4, r5⟩ := ih (q + (tm ar hp q).length) c1 ⟨o, by rw [← e2]; exact f2⟩ (tm_wf h hq).2.2 hc1U (by rw [hc1]; exact hs) (by omega)
    refine ⟨c', fun n hn => ?_, ⟨fun q hq => (r2.1 q hq).trans (k1.1 q hq), fun q k hq => (r2.2.1 q k hq).trans (k1.2.1 q k hq), r2.2.2.1.trans k1.2.2.1, r2.2.2.2.trans k1.2.2.2⟩, r3, fun i hi => ?_, ?_⟩
    · obtain ⟨n, rfl⟩ : ∃ n', n = n' + 1 := ⟨n - 1, by omega⟩
      rw [jf_X10_awaitArguments_29_s, show (w : Int) + ((j + 1 : Nat) : Int) - 1 = ((w + j : Nat) : Int) by omega]
      simp (disch := omega) only [i32_lit, i32_neg, i32_add, i32_sub, i32_mul, i32_lt, i32_le, i32_eq, kI, hs, if_neg, u_isNode u2 h24]
      rw [decide_eq_true (show 0 ≤ (q : Int) ∧ (q : Int) < hp.length by omega)]
      simp (disch := omega) only [xbs, bI_eq0, Bool.true_eq_false, if_false, kRl u1 (show (243, 9, 253) ∈ lyL by decide), kwa C (show ct 253 = some (1, 181) by decide), Int.toNat_natCast]
      rw [← hc1]
      simp (disch := omega) only [xbs, kRl hc1U.1 (show (243, 2, 246) ∈ lyL by decide), kga C (show ct 246 = some (1, 24) by decide), Int.toNat_natCast, (hc1U.2.2 q dq hdq).2.2.1]
      rw [show ((w + j : Nat) : Int) + -1 = (w : Int) + j - 1 by omega]
      exact r1 n (by omega)
    · rw [r4 i (by omega), hc1, sA_n (by omega)]
    · simp only [ags, List.reverse_cons]
      refine seg_snoc r5 ?_
      have hl2 : ∀ (j q : Nat), (ags ar hp q j).length = j := by
        intro j
        induction j with
        | zero => intro q; rfl
        | succ j ihj => intro q; simp [ags, ihj]
      rw [List.length_reverse, hl2, r4 (w + j) (Or.inr (by omega)), hc1, sA_s]
theorem kgol {c : CS} (C : CH ty N) (hL : LY c) : xgo ty (cst N h0 c) (N + 243) 10 7 = some (N + 254) := by
  have e : cR c 243 10 = 254 := hL.1 (243, 10, 254) (by decide)
  rw [kgo C (by omega) (by rw [e]; decide), e]
theorem k_clear {c : CS} (C : CH ty N) {t : Nat} (ht : ct t = some (0, 7)) : jf_X7_clear ty (cst N h0 c) (N + t) = some (cst N h0 (csI c t 2 (i32 0))) := by
  have hlt := ct_lt ht
  unfold jf_X7_clear
  simp (disch := omega) only [ksI, xbs, i32_lit, i32_neg, i32_add, i32_sub, i32_mul, i32_lt, i32_le, i32_eq]
theorem isT_nil {c : CS} (hL : LY c) {t room : Nat} (ht : ct t = some (0, 7)) (h1 : ct (t + 1) = some (1, room)) (h2 : ct (t + 2) = some (1, room)) (h60 : room ≤ 60) (hI : cI c t 2 = i32 0) : isT c t room ar [] :=
  ⟨ht, h1, h2, (hL.2.1 t ht).1, (hL.2.1 t ht).2, by simp, h60, hI, seg_nil _ _, seg_nil _ _⟩
def NB (c : CS) (hp : List Nat) (par : Nat → Nat) (sg : Nat → Option Nat) (S : List Nat) : Prop := cI c 243 14 = i32 S.length ∧ ∀ (r x : Nat), hp[r]? = some x → par r = r → sg r = none → cA c 249 r = i32 (if x ∈ S then 100 + S.idxOf x else -1 : Int)
end SHAPEC

/-! THE CLASS: the shape, written class by class -/
section SHAPEC2
variable {ty : xTy} {N : Nat} {h0 : xH} {ar : Nat → Nat} {hp : List Nat}
theorem UC.f54 {c c' : CS} {par : Nat → Nat} {sg : Nat → Option Nat} (hc : UC c ar hp par sg) (f : fr 254 257 c c') : UC c' ar hp par sg := hc.keep f.2.1 f.2.2 (by rw [(f.1 243 (by omega)).1]) (fun q _ _ => (f.1 q (by omega)).2)
theorem NB.f54 {c c' : CS} {par : Nat → Nat} {sg : Nat → Option Nat} {S : List Nat} (hc : NB c hp par sg S) (f : fr 254 257 c c') : NB c' hp par sg S := by
  unfold NB at *
  rw [(f.1 243 (by omega)).1, (f.1 249 (by omega)).2]
  exact hc
theorem NB.ka {c c' : CS} {par : Nat → Nat} {sg : Nat → Option Nat} {S : List Nat} (hc : NB c hp par sg S) (f : KA c c') : NB c' hp par sg S := by
  unfold NB at *
  rw [f.2.1 243 14 (Or.inr (by omega)), f.1 249 (by omega)]
  exact hc
theorem u_write (C : CH ty N) (h : okH ar hp) {x0 y0 : Nat} {par rt dep : Nat → Nat} {md : Nat} {sg : Nat → Option Nat} (u : CUI ar hp x0 y0 par rt dep md sg [] []) {tme : Nat → Nat} (ht : TMo ar hp rt sg tme) {K : Nat} (hK : ∀ i, i < hp.length → tme i < K) {i : Nat} (hi : i < hp.length) {c : CS} (hc : UC c ar hp par sg) {O S st : List Nat} (hO : isT c 254 60 ar O) (hOl : O.length < 60) (hSl : S.length ≤ 60) (hw : cI c 243 13 = i32 st.length) (hst : seg (cA c 253) 0 st) (hw2 : st.length + 3 ≤ 181) (hN : NB c hp par sg S) :
    ∃ (c' : CS) (x : Nat) (S' pu : List Nat), jf_X10_writeClass ty (cst N h0 c) (N + 243) (i32 (rt i)) = some (cst N h0 c') ∧ fr 243 257 c c' ∧ UC c' ar hp par sg ∧ isT c' 254 60 ar (O ++ [x]) ∧ cI c' 243 13 = i32 ((st ++ pu.reverse).length : Nat) ∧ seg (cA c' 253) 0 (st ++ pu.reverse) ∧ NB c' hp par sg S' ∧ S'.length ≤ S.length + 1 ∧ (∀ y ∈ pu, y < hp.length) ∧ pu.length ≤ 3 ∧
      (∀ L, shpG S (Vv ar hp rt sg K i ++ L) = x :: shpG S' (pu.flatMap (Vv ar hp rt sg K) ++ L)) ∧ (Vv ar hp rt sg K i).length = 1 + (pu.flatMap (Vv ar hp rt sg K)).length := by
  have h24 := h.2.2.2
  obtain ⟨v1, v2⟩ := Vv_step h u ht hK hi
  have ri := u.1 i hi
  have hr := ri.2.1
  have hpr := ri.2.2.2.1
  obtain ⟨xr, hxr⟩ := get_some hr
  obtain ⟨l1, l2, l3⟩ := id hc
  have hsgr := (l3 _ _ hxr).2.2.2.2
  cases hs : sg (rt i) with
  | none =>
    rw [hs] at hsgr
    have hx100 : 100 ≤ xr := (u.2.2.1 _ hr hpr).2 hs (rt i) hr ((u.1 _ hr).2.2.2.2.1 hpr).2 xr hxr
    have hV := v2 hs
    rw [getD_some hxr] at hV
    have hnum := hN.2 _ _ hxr hpr hs
    have hhead : ∀ (q : Int), jf_X10_isNode ty (cst N h0 c) (N + 243) (i32 (pI none)) = some (bI false) := by
      intro q
      rw [u_isNode l2 h24 (by simp [pI]) (by simp [pI]), decide_eq_false (by simp [pI])]
    by_cases hm : xr ∈ S
    · rw [if_pos hm] at hnum
      have hidx : S.idxOf xr < S.length := List.idxOf_lt_length_iff.mpr hm
      obtain ⟨c1, a1, a2, a3⟩ := t_add (h0 := h0) C hO hOl (100 + S.idxOf xr)
      rw [h.2.1 (100 + S.idxOf xr) (by omega)] at a1
      refine ⟨c1, 100 + S.idxOf xr, S, [], ?_, a3.wide (by omega) (by omega), hc.f54 a3, a2, ?_, ?_, hN.f54 a3, by omega, fun y hy => by simp at hy, by simp, fun L => ?_, by rw [hV]; simp⟩
      · unfold jf_X10_writeClass
        simp (disch := omega) only [kRl l1 (show (243, 4, 248) ∈ lyL by decide), xbs, kga C (show ct 248 = some (1, 24) by decide), Int.toNat_natCast, hsgr, hhead 0]
        rw [if_pos (show bI false = 0 from rfl)]
        simp (disch := omega) only [kRl l1 (show (243, 5, 249) ∈ lyL by decide), xbs, kga C (show ct 249 = some (1, 24) by decide), Int.toNat_natCast, hnum]
        rw [show (100 + (S.idxOf xr : Int)) = ((100 + S.idxOf xr : Nat) : Int) by omega]
        simp (disch := omega) only [i32_lit, i32_neg, i32_add, i32_sub, i32_mul, i32_lt, i32_le, i32_eq, if_neg, kgol C l1, xbs]
        rw [show i32 0 = i32 ((0 : Nat) : Int) from rfl, a1]
        rfl
      · rw [(a3.1 243 (by omega)).1, hw]; simp
      · rw [(a3.1 253 (by omega)).2]; simpa using hst
      · rw [hV]
        simp only [List.singleton_append, shpG, List.flatMap_nil, List.nil_append]
        rw [if_neg (by omega), if_pos hm]
    · rw [if_neg hm] at hnum
      obtain ⟨c1, hc1⟩ : ∃ c1, c1 = csA c 249 (rt i) (i32 ((100 + S.length : Nat) : Int)) := ⟨_, rfl⟩
      obtain ⟨c2, hc2⟩ : ∃ c2, c2 = csI c1 243 14 (i32 ((S.length + 1 : Nat) : Int)) := ⟨_, rfl⟩
      have hU1 : UC c1 ar hp par sg := by rw [hc1]; exact hc.keep rfl rfl rfl (fun z z1 z2 => sA_o (by omega))
      have hU2 : UC c2 ar hp par sg := by rw [hc2]; exact hU1.keep rfl rfl (sI_o (by omega)) (fun z z1 z2 => rfl)
      have hO2 : isT c2 254 60 ar O := by
        rw [hc2, hc1]
        exact hO.keep (by funext k; exact sI_o (by omega)) (sA_o (by omega)) (sA_o (by omega)) rfl
      have f2 : fr 243 257 c c2 := by
        rw [hc2, hc1]
        exact fr.tr (fr.A (by omega) (by omega)) (fr.I (by omega) (by omega))
      have n1 : cI c1 243 14 = i32 S.length := by rw [hc1]; exact hN.1
      have n2 : cA c2 249 (rt i) = i32 ((100 + S.length : Nat) : Int) := by
        rw [hc2]; show cA c1 249 (rt i) = _
        rw [hc1, sA_s]
      have hN2 : NB c2 hp par sg (S ++ [xr]) := by
        refine ⟨by rw [hc2, sI_s]; simp, fun r x hx h1 h2 => ?_⟩
        rw [hc2]; show cA c1 249 r = _
        rw [hc1]
        by_cases hrr : r = rt i
        · subst hrr
          rw [hxr] at hx
          obtain rfl := Option.some.inj hx
          rw [sA_s, if_pos (by simp), List.idxOf_append, if_neg hm]
          simp
        · rw [sA_n hrr, hN.2 r x hx h1 h2]
          have hrl : r < hp.length := (List.getElem?_eq_some_iff.mp hx).1
          have hne : x ≠ xr := by
            intro z
            subst z
            have := u.2.2.2.2.2.2 r (rt i) x hx hxr hx100
            rw [((u.1 r hrl).2.2.2.2.1 h1).2, ((u.1 _ hr).2.2.2.2.1 hpr).2] at this
            exact hrr this
          by_cases hxm : x ∈ S
          · rw [if_pos hxm, if_pos (by simp [hxm]), List.idxOf_append, if_pos hxm]
          · rw [if_neg hxm, if_neg (by simp [hxm, hne])]
      obtain ⟨c3, a1, a2, a3⟩ := t_add (h0 := h0) C hO2 hOl (100 + S.length)
      rw [h.2.1 (100 + S.length) (by omega)] at a1
      refine ⟨c3, 100 + S.length, S ++ [xr], [], ?_, f2.tr (a3.wide (by omega) (by omega)), hU2.f54 a3, a2, ?_, ?_, hN2.f54 a3, by simp, fun y hy => by simp at hy, by simp, fun L => ?_, by rw [hV]; simp⟩
      · unfold jf_X10_writeClass
        simp (disch := omega) only [kRl l1 (show (243, 4, 248) ∈ lyL by decide), xbs, kga C (show ct 248 = some (1, 24) by decide), Int.toNat_natCast, hsgr, hhead 0]
        rw [if_pos (show bI false = 0 from rfl)]
        simp (disch := omega) only [kRl l1 (show (243, 5, 249) ∈ lyL by decide), xbs, kga C (show ct 249 = some (1, 24) by decide), Int.toNat_natCast, hnum]
        rw [if_pos (by rfl)]
        simp (disch := omega) only [i32_lit, i32_neg, i32_add, i32_sub, i32_mul, i32_lt, i32_le, i32_eq, kI, hN.1, kwa C (show ct 249 = some (1, 24) by decide), xbs, Int.toNat_natCast]
        rw [show (100 + (S.length : Int)) = ((100 + S.length : Nat) : Int) by omega, ← hc1]
        simp (disch := omega) only [i32_lit, i32_neg, i32_add, i32_sub, i32_mul, i32_lt, i32_le, i32_eq, kI, n1, ksI, xbs]
        rw [show ((S.length : Int) + 1) = ((S.length + 1 : Nat) : Int) by omega, ← hc2]
        simp (disch := omega) only [kgol C hU2.1, xbs, kRl hU2.1 (show (243, 5, 249) ∈ lyL by decide), kga C (show ct 249 = some (1, 24) by decide), Int.toNat_natCast, n2]
        rw [show i32 0 = i32 ((0 : Nat) : Int) from rfl, a1]
        rfl
      · rw [(a3.1 243 (by omega)).1, hc2, sI_o (by omega), hc1]
        show cI c 243 13 = _
        rw [hw]; simp
      · rw [(a3.1 253 (by omega)).2, hc2]
        show seg (cA c1 253) _ _
        rw [hc1, sA_o (by omega)]; simpa using hst
      · rw [hV]
        simp only [List.singleton_append, shpG, List.flatMap_nil, List.nil_append]
        rw [if_neg (by omega), if_neg hm]
  | some s =>
    rw [hs] at hsgr
    obtain ⟨s1, ⟨d, hd, hd1⟩, s3⟩ := (u.2.2.1 _ hr hpr).1 s hs
    have hV := v1 s d hs hd
    have hls := l3 s d hd
    have hd3 := (h.2.2.1 d (List.mem_of_getElem? hd)).2
    obtain ⟨c1, a1, a2, a3⟩ := t_add (h0 := h0) C hO hOl d
    have hU1 := hc.f54 a3
    have hw1 : cI c1 243 13 = i32 st.length := by rw [(a3.1 243 (by omega)).1, hw]
    have hpush : ∃ o, tms ar (ar d + o) (hp.drop (s + 1)) := by
      obtain ⟨o, ho⟩ := h.at s1
      rw [drop_cons hd, Nat.add_comm 1 o] at ho
      have : tms ar (o + ar d) (hp.drop (s + 1)) := ho
      exact ⟨o, by rwa [Nat.add_comm] at this⟩
    obtain ⟨c2, r1, r2, r3, r4, r5⟩ := u_await29 (h0 := h0) C h (w := st.length) (v := st.length + ar d) (by omega) (by omega) (ar d) (s + 1) c1 hpush (by omega) hU1 hw1 (by omega)
    refine ⟨c2, d, S, ags ar hp (s + 1) (ar d), ?_, (a3.wide (by omega) (by omega)).tr r2.fr, r2.U hU1, r2.T a2, ?_, ?_, (hN.f54 a3).ka r2, by omega, fun y hy => ((tm_head h hd).2 y hy).1, by rw [ags_len]; omega, fun L => ?_, by rw [hV, List.length_cons, Nat.add_comm]⟩
    · unfold jf_X10_writeClass
      simp (disch := omega) only [kRl l1 (show (243, 4, 248) ∈ lyL by decide), xbs, kga C (show ct 248 = some (1, 24) by decide), Int.toNat_natCast, hsgr, pI, u_isNode l2 h24]
      rw [decide_eq_true (show 0 ≤ (s : Int) ∧ (s : Int) < hp.length by omega), if_neg (show ¬ bI true = 0 by decide)]
      simp (disch := omega) only [kgol C l1, kRl l1 (show (243, 0, 244) ∈ lyL by decide), kRl l1 (show (243, 1, 245) ∈ lyL by decide), xbs, kga C (show ct 244 = some (1, 24) by decide), kga C (show ct 245 = some (1, 24) by decide), Int.toNat_natCast, hls.1 hd1, hls.2.1, a1, xb2s]
      unfold jf_X10_awaitArguments
      simp (disch := omega) only [kRl hU1.1 (show (243, 1, 245) ∈ lyL by decide), xbs, kga C (show ct 245 = some (1, 24) by decide), Int.toNat_natCast, (hU1.2.2 s d hd).2.1, kI, hw1, i32_lit, i32_neg, i32_add, i32_sub, i32_mul, i32_lt, i32_le, i32_eq, if_pos]
      have := jf_X10_awaitArguments_29_l (r1 (ar d + 1) (by omega))
      rw [show ((s : Int) + 1) = ((s + 1 : Nat) : Int) by omega, show (st.length : Int) + (ar d : Int) = ((st.length + ar d : Nat) : Int) by omega, show ((st.length + ar d : Nat) : Int) - 1 = (st.length : Int) + (ar d : Int) - 1 by omega, this]
      rfl
    · rw [r3, List.length_append, List.length_reverse, ags_len]
    · rw [seg_app]
      refine ⟨fun j x hj => ?_, by rw [Nat.zero_add]; exact r5⟩
      have hjl : j < st.length := (List.getElem?_eq_some_iff.mp hj).1
      rw [r4 (0 + j) (by omega), (a3.1 253 (by omega)).2]
      exact hst j x hj
    · rw [hV, List.cons_append]
      simp only [shpG]
      rw [if_pos hd1]
theorem u_sh49 (C : CH ty N) (h : okH ar hp) {x0 y0 : Nat} {par rt dep : Nat → Nat} {md : Nat} (hmd : md < hp.length) {sg : Nat → Option Nat} (u : CUI ar hp x0 y0 par rt dep md sg [] []) {tme : Nat → Nat} (ht : TMo ar hp rt sg tme) {K : Nat} (hK : ∀ i, i < hp.length → tme i < K) : ∀ (k : Nat) (O S st : List Nat) (c : CS), O.length + k = 60 → st.length ≤ 1 + 2 * O.length → S.length ≤ O.length → (∀ x ∈ st, x < hp.length) → UC c ar hp par sg → isT c 254 60 ar O → cI c 243 13 = i32 st.length → seg (cA c 253) 0 st → NB c hp par sg S →
    ∃ n c', jf_X10_unifiedShape_49 ty n (N + 243) (i32 O.length) (cst N h0 c) = some (N + 254, cst N h0 c') ∧ fr 243 257 c c' ∧ isT c' 254 60 ar (if O.length + (st.reverse.flatMap (Vv ar hp rt sg K)).length ≤ 60 then O ++ shpG S (st.reverse.flatMap (Vv ar hp rt sg K)) else []) := by
  have h24 := h.2.2.2
  intro k
  induction k with
  | zero =>
    intro O S st c h1 h2 h3 h4 hc hO hw hst hN
    rcases snoc_or st with rfl | ⟨st0, p, rfl⟩
    · refine ⟨1, c, ?_, fr.rf, ?_⟩
      · rw [jf_X10_unifiedShape_49_s]
        simp (disch := omega) only [i32_lit, i32_neg, i32_add, i32_sub, i32_mul, i32_lt, i32_le, i32_eq, kI, hw, List.length_nil, if_pos, kgol C hc.1, xbs]
      · rw [if_pos (by simp; omega)]
        simpa [shpG] using hO
    · have hpl : p < hp.length := h4 p (by simp)
      have hv : 1 ≤ (Vv ar hp rt sg K p).length := by
        obtain ⟨v1, v2⟩ := Vv_step h u ht hK hpl
        cases hs : sg (rt p) with
        | none => rw [v2 hs]; simp
        | some s =>
          have rp := u.1 p hpl
          obtain ⟨s1, ⟨d, hd, hd1⟩, s3⟩ := (u.2.2.1 _ rp.2.1 rp.2.2.2.1).1 s hs
          rw [v1 s d hs hd]; simp
      rw [List.length_append, List.length_singleton] at hw h2
      have hL1 : LY (csI c 254 2 (i32 0)) := hc.1.same rfl rfl
      refine ⟨1, csI c 254 2 (i32 0), ?_, fr.I (by omega) (by omega), ?_⟩
      · rw [jf_X10_unifiedShape_49_s]
        simp (disch := omega) only [i32_lit, i32_neg, i32_add, i32_sub, i32_mul, i32_lt, i32_le, i32_eq, kI, hw, if_pos, if_neg, kgol C hc.1, xbs, k_clear C (show ct 254 = some (0, 7) by decide), kgol C hL1]
      · rw [if_neg (by
          rw [List.reverse_append, List.reverse_singleton, List.singleton_append, List.flatMap_cons, List.length_append]
          omega)]
        exact isT_nil hL1 (by decide) (by decide) (by decide) (by omega) sI_s
  | succ k ih =>
    intro O S st c h1 h2 h3 h4 hc hO hw hst hN
    rcases snoc_or st with rfl | ⟨st0, p, rfl⟩
    · refine ⟨1, c, ?_, fr.rf, ?_⟩
      · rw [jf_X10_unifiedShape_49_s]
        simp (disch := omega) only [i32_lit, i32_neg, i32_add, i32_sub, i32_mul, i32_lt, i32_le, i32_eq, kI, hw, List.length_nil, if_pos, if_neg, kgol C hc.1, xbs]
      · rw [if_pos (by simp; omega)]
        simpa [shpG] using hO
    · have hpl : p < hp.length := h4 p (by simp)
      rw [List.length_append, List.length_singleton] at hw h2
      obtain ⟨c1, hc1⟩ : ∃ c1, c1 = csI c 243 13 (i32 (st0.length : Nat)) := ⟨_, rfl⟩
      have f1 : fr 243 257 c c1 := by rw [hc1]; exact fr.I (by omega) (by omega)
      have hU1 : UC c1 ar hp par sg := by rw [hc1]; exact hc.keep rfl rfl (sI_o (by omega)) (fun _ _ _ => rfl)
      have hO1 : isT c1 254 60 ar O := by rw [hc1]; exact hO.keep (by funext k; exact sI_o (by omega)) rfl rfl rfl
      have hN1 : NB c1 hp par sg S := by
        rw [hc1]
        refine ⟨by rw [sI_o (by omega)]; exact hN.1, hN.2⟩
      have hst1 : seg (cA c1 253) 0 st0 := by rw [hc1]; exact (seg_app.mp hst).1
      have htop : cA c1 253 st0.length = i32 p := by
        rw [hc1]
        have := seg_get (i := st0.length) (c := p) hst (by simp)
        rwa [Nat.zero_add] at this
      have hw1 : cI c1 243 13 = i32 (st0.length : Nat) := by rw [hc1, sI_s]
      obtain ⟨c2, x, S', pu, w1, w2, w3, w4, w5, w6, w7, w8, w9, w10, w11, w12⟩ := u_write (h0 := h0) C h u ht hK hpl hU1 hO1 (by omega) (by omega) hw1 hst1 (by omega) hN1
      obtain ⟨n, c3, r1, r2, r3⟩ := ih (O ++ [x]) S' (st0 ++ pu.reverse) c2 (by simp; omega) (by simp; omega) (by simp; omega) (fun y hy => by
        rcases List.mem_append.mp hy with hy | hy
        · exact h4 y (by simp [hy])
        · exact w9 y (by simpa using hy)) w3 w4 w5 w6 w7
      have e1 : (st0 ++ [p]).reverse.flatMap (Vv ar hp rt sg K) = Vv ar hp rt sg K p ++ st0.reverse.flatMap (Vv ar hp rt sg K) := by
        rw [List.reverse_append, List.reverse_singleton, List.singleton_append, List.flatMap_cons]
      have e2 : (st0 ++ pu.reverse).reverse.flatMap (Vv ar hp rt sg K) = pu.flatMap (Vv ar hp rt sg K) ++ st0.reverse.flatMap (Vv ar hp rt sg K) := by
        rw [List.reverse_append, List.reverse_reverse, List.flatMap_append]
      refine ⟨n + 1, c3, ?_, f1.tr (w2.tr r2), ?_⟩
      · rw [jf_X10_unifiedShape_49_s]
        simp (disch := omega) only [i32_lit, i32_neg, i32_add, i32_sub, i32_mul, i32_lt, i32_le, i32_eq, kI, hw, if_neg, ksI, xbs]
        rw [show ((st0.length + 1 : Nat) : Int) - 1 = (st0.length : Int) by omega, ← hc1]
        simp (disch := omega) only [kRl hU1.1 (show (243, 9, 253) ∈ lyL by decide), xbs, kI, hw1, kga C (show ct 253 = some (1, 181) by decide), Int.toNat_natCast, htop, u_classOf C h hU1 u.1 hmd hpl, w1]
        rw [show ((O.length : Int) + 1) = (((O ++ [x]).length : Nat) : Int) by simp]
        exact r1
      · rw [e1, w11]
        rw [e2] at r3
        have hl : (Vv ar hp rt sg K p ++ st0.reverse.flatMap (Vv ar hp rt sg K)).length = 1 + (pu.flatMap (Vv ar hp rt sg K) ++ st0.reverse.flatMap (Vv ar hp rt sg K)).length := by
          rw [List.length_append, List.length_append, w12]; omega
        rw [hl]
        rw [List.length_append, List.length_singleton, List.append_assoc, List.singleton_append, Nat.add_assoc] at r3
        exact r3
end SHAPEC2

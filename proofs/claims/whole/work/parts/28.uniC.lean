/-! THE CLASS: Unifier over classes of places -/
theorem sA_o {c : CS} {q k a : Nat} {v : Int32} (h : a ≠ q) : cA (csA c q k v) a = cA c a := fu2_row _ _ h
theorem sI_o {c : CS} {q k a b : Nat} {v : Int32} (h : a ≠ q ∨ b ≠ k) : cI (csI c q k v) a b = cI c a b := fu2_ne _ _ h
theorem sI_s {c : CS} {q k : Nat} {v : Int32} : cI (csI c q k v) q k = v := fu2_same _ _ _ _
theorem sA_s {c : CS} {q k : Nat} {v : Int32} : cA (csA c q k v) q k = v := fu2_same _ _ _ _
theorem sA_n {c : CS} {q k b : Nat} {v : Int32} (h : b ≠ k) : cA (csA c q k v) q b = cA c q b := fu2_ne _ _ (Or.inr h)
theorem sA_seg {c : CS} {q k p : Nat} {v : Int32} {L : List Nat} (h : seg (cA c q) p L) (hi : p + L.length ≤ k) : seg (cA (csA c q k v) q) p L := seg_fu2 h hi
section UNIC
variable {ty : xTy} {N : Nat} {h0 : xH} {ar : Nat → Nat} {hp : List Nat}
/-- the unifier's rows for a heap of codes -/
def UC (c : CS) (ar : Nat → Nat) (hp : List Nat) (par : Nat → Nat) (sg : Nat → Option Nat) : Prop := LY c ∧ cI c 243 11 = i32 hp.length ∧ ∀ (i d : Nat), hp[i]? = some d → (d < 100 → cA c 244 i = i32 d) ∧ cA c 245 i = i32 (ar d) ∧ cA c 246 i = i32 ((i + (tm ar hp i).length : Nat) : Int) ∧ cA c 247 i = i32 (par i) ∧ cA c 248 i = i32 (pI (sg i))
theorem LY.u {c : CS} (h : LY c) : cR c 243 0 = 244 ∧ cR c 243 1 = 245 ∧ cR c 243 2 = 246 ∧ cR c 243 3 = 247 ∧ cR c 243 4 = 248 ∧ cR c 243 5 = 249 ∧ cR c 243 6 = 250 ∧ cR c 243 7 = 251 ∧ cR c 243 8 = 252 ∧ cR c 243 9 = 253 ∧ cR c 243 10 = 254 :=
  ⟨h.1 (243, 0, 244) (by decide), h.1 (243, 1, 245) (by decide), h.1 (243, 2, 246) (by decide), h.1 (243, 3, 247) (by decide), h.1 (243, 4, 248) (by decide), h.1 (243, 5, 249) (by decide), h.1 (243, 6, 250) (by decide), h.1 (243, 7, 251) (by decide), h.1 (243, 8, 252) (by decide), h.1 (243, 9, 253) (by decide), h.1 (243, 10, 254) (by decide)⟩
theorem kRl {c : CS} (h : LY c) {q k v : Nat} (hl : (q, k, v) ∈ lyL) (hq : q < 273) : xR (cst N h0 c) (N + q) k = some (N + v) := by
  rw [kR hq]
  have := h.1 _ hl
  simp only at this
  rw [this]
theorem u_isNode {c : CS} {n : Nat} (hn : cI c 243 11 = i32 n) (h24 : n ≤ 24) {z : Int} (h1 : -2147483648 ≤ z) (h2 : z < 2147483648) : jf_X10_isNode ty (cst N h0 c) (N + 243) (i32 z) = some (bI (decide (0 ≤ z ∧ z < n))) := by
  unfold jf_X10_isNode
  simp (disch := omega) only [i32_lit, i32_neg, i32_add, i32_sub, i32_mul, i32_lt, i32_le, i32_eq, kI (show 243 < 273 by omega), hn]
  by_cases hz : z < 0
  · rw [if_pos hz, decide_eq_false (by omega)]; rfl
  · rw [if_neg hz]
    by_cases hz2 : (n : Int) ≤ z
    · rw [if_pos hz2, decide_eq_false (by omega)]; rfl
    · rw [if_neg hz2, if_neg (by omega), decide_eq_true (by omega)]; rfl
theorem u_classOf (C : CH ty N) (h : okH ar hp) {c : CS} {par rt dep : Nat → Nat} {md : Nat} {sg : Nat → Option Nat} (hu : UC c ar hp par sg) (hR : RTI hp.length par rt dep md) (hmd : md < hp.length) {i : Nat} (hi : i < hp.length) : jf_X10_classOf ty (cst N h0 c) (N + 243) (i32 i) = some (i32 (rt i)) := by
  have h24 := h.2.2.2
  obtain ⟨hl, hn, ha⟩ := hu
  have key : ∀ k i t, i < hp.length → dep i ≤ k → t + dep i ≤ md → jf_X10_classOf_4 ty (cst N h0 c) (k + 1) (N + 243) (i32 i) (i32 t) = some (i32 (rt i)) := by
    intro k
    induction k with
    | zero =>
      intro i t hi hk ht
      obtain ⟨d, hd⟩ := get_some hi
      obtain ⟨a1, a2, a3, a4, a5, a6, a7⟩ := hR i hi
      have hpar : par i = i := by
        rcases Nat.lt_or_ge 0 (dep i) with z | z
        · omega
        · rcases Classical.em (par i = i) with w | w
          · exact w
          · have := a6 w; omega
      have hp3 := (ha i d hd).2.2.2.1
      rw [jf_X10_classOf_4_s]
      simp (disch := omega) only [i32_lit, i32_neg, i32_add, i32_sub, i32_mul, i32_lt, i32_le, i32_eq, kI (show 243 < 273 by omega), hn, if_neg, u_isNode hn h24, xbs]
      rw [decide_eq_true (by omega)]
      simp (disch := omega) only [bI_eq0, xbs, kRl hl (show (243, 3, 247) ∈ lyL by decide), kga C (show ct 247 = some (1, 24) by decide), Int.toNat_natCast, hp3, hpar]
      unfold jf_X10_classOf_43
      simp (disch := omega) only [u_isNode hn h24, xbs]
      rw [decide_eq_true (by omega)]
      simp only [i32_lit, bI_eq0, (a5 hpar).2, if_true]
      rfl
    | succ k ih =>
      intro i t hi hk ht
      obtain ⟨d, hd⟩ := get_some hi
      obtain ⟨a1, a2, a3, a4, a5, a6, a7⟩ := hR i hi
      have hp3 := (ha i d hd).2.2.2.1
      rw [jf_X10_classOf_4_s]
      simp (disch := omega) only [i32_lit, i32_neg, i32_add, i32_sub, i32_mul, i32_lt, i32_le, i32_eq, kI (show 243 < 273 by omega), hn, if_neg, u_isNode hn h24, xbs]
      rw [decide_eq_true (by omega)]
      simp (disch := omega) only [bI_eq0, xbs, kRl hl (show (243, 3, 247) ∈ lyL by decide), kga C (show ct 247 = some (1, 24) by decide), Int.toNat_natCast, hp3]
      simp (disch := omega) only [i32_lit, i32_neg, i32_add, i32_sub, i32_mul, i32_lt, i32_le, i32_eq]
      rw [if_neg (by decide)]
      by_cases hpar : par i = i
      · rw [if_pos (by omega)]
        unfold jf_X10_classOf_43
        simp (disch := omega) only [u_isNode hn h24, xbs]
        rw [decide_eq_true (by omega)]
        simp only [i32_lit, bI_eq0, (a5 hpar).2]
        rfl
      · rw [if_neg (by omega), show (t : Int) + 1 = ((t + 1 : Nat) : Int) by omega]
        have := a6 hpar
        rw [ih (par i) (t + 1) a1 (by omega) (by omega), a3]
  exact jf_X10_classOf_4_l (key (dep i) i 0 hi (Nat.le_refl _) (by have := (hR i hi).2.2.2.2.2.2; omega))
def PC (c : CS) (pa pb : List Nat) : Prop := cI c 243 12 = i32 pa.length ∧ seg (cA c 251) 0 pa ∧ seg (cA c 252) 0 pb ∧ pa.length = pb.length
theorem UC.keep {c c' : CS} {par : Nat → Nat} {sg : Nat → Option Nat} (hu : UC c ar hp par sg) (e1 : cR c' = cR c) (e2 : cP c' = cP c) (e3 : cI c' 243 11 = cI c 243 11) (e4 : ∀ q, 244 ≤ q → q ≤ 248 → cA c' q = cA c q) : UC c' ar hp par sg := by
  obtain ⟨h1, h2, h3⟩ := hu
  refine ⟨h1.same e1 e2, e3.trans h2, fun i d hd => ?_⟩
  rw [e4 244 (by omega) (by omega), e4 245 (by omega) (by omega), e4 246 (by omega) (by omega), e4 247 (by omega) (by omega), e4 248 (by omega) (by omega)]
  exact h3 i d hd
theorem u_pairs (C : CH ty N) (h : okH ar hp) {par : Nat → Nat} {sg : Nat → Option Nat} {s d : Nat} (hd : hp[s]? = some d) : ∀ (j i q q' : Nat) (pa pb : List Nat) (c : CS), i + j = ar d → (∃ o, tms ar (j + o) (hp.drop q)) → q ≤ hp.length → (∃ o, tms ar (j + o) (hp.drop q')) → q' ≤ hp.length → UC c ar hp par sg → PC c pa pb → pa.length + j ≤ 72 →
    ∃ c', (∀ n, j < n → jf_X10_pairArguments_12 ty n (N + 243) (i32 s) (i32 q) (i32 q') (i32 i) (cst N h0 c) = some (cst N h0 c')) ∧ UC c' ar hp par sg ∧ PC c' (pa ++ ags ar hp q j) (pb ++ ags ar hp q' j) ∧ fr 243 257 c c' := by
  have h24 := h.2.2.2
  have hsl : s < hp.length := (List.getElem?_eq_some_iff.mp hd).1
  have hd3 := (h.2.2.1 d (List.mem_of_getElem? hd)).2
  intro j
  induction j with
  | zero =>
    intro i q q' pa pb c h1 h2 h3 h2' h3' hu hp' hl
    refine ⟨c, fun n hn => ?_, hu, by simpa [ags] using hp', fr.rf⟩
    obtain ⟨n, rfl⟩ : ∃ n', n = n' + 1 := ⟨n - 1, by omega⟩
    obtain ⟨u1, u2, u3⟩ := hu
    rw [jf_X10_pairArguments_12_s]
    simp (disch := omega) only [i32_lit, i32_neg, i32_add, i32_sub, i32_mul, i32_lt, i32_le, i32_eq, kRl u1 (show (243, 1, 245) ∈ lyL by decide), xbs, kga C (show ct 245 = some (1, 24) by decide), Int.toNat_natCast, (u3 s d hd).2.1, if_pos]
  | succ j ih =>
    intro i q q' pa pb c h1 h2 h3 h2' h3' hu hp' hl
    have step : ∀ q, (∃ o, tms ar (j + 1 + o) (hp.drop q)) → ∃ o, q < hp.length ∧ tms ar (j + o) (hp.drop (q + (tm ar hp q).length)) := by
      rintro q ⟨o, ho⟩
      have hoa : tms ar (1 + (j + o)) (hp.drop q) := by rwa [show 1 + (j + o) = j + 1 + o by omega]
      have hne := tms_ne (show tms ar (j + o + 1) (hp.drop q) by rwa [show j + o + 1 = j + 1 + o by omega])
      have hq : q < hp.length := by
        rcases Nat.lt_or_ge q hp.length with z | z
        · exact z
        · exact absurd (List.drop_eq_nil_of_le z) hne
      obtain ⟨f0, f1, f2, f3, f4, f5⟩ := fst1_split hoa
      have e2 : snd1 ar (hp.drop q) = hp.drop (q + (tm ar hp q).length) := by
        unfold tm snd1
        rw [f3, List.drop_drop]
      exact ⟨o, hq, by rw [← e2]; exact f2⟩
    obtain ⟨o1, x1, x2⟩ := step q h2
    obtain ⟨o2, y1, y2⟩ := step q' h2'
    obtain ⟨u1, u2, u3⟩ := id hu
    obtain ⟨p1, p2, p3, p4⟩ := id hp'
    obtain ⟨dq, hdq⟩ := get_some x1
    obtain ⟨dq', hdq'⟩ := get_some y1
    obtain ⟨c1, hc1⟩ : ∃ c1, c1 = csI (csA (csA c 251 pa.length (i32 q)) 252 pa.length (i32 q')) 243 12 (i32 ((pa.length : Int) + 1)) := ⟨_, rfl⟩
    have hf1 : fr 243 257 c c1 := by rw [hc1]; exact fr.tr (fr.tr (fr.A (by omega) (by omega)) (fr.A (by omega) (by omega))) (fr.I (by omega) (by omega))
    have hu1 : UC c1 ar hp par sg := by
      rw [hc1]
      exact hu.keep rfl rfl (by rw [sI_o (Or.inr (by decide))]; rfl) (fun z z1 z2 => by rw [cA_I, sA_o (by omega), sA_o (by omega)])
    have hp1 : PC c1 (pa ++ [q]) (pb ++ [q']) := by
      rw [hc1]
      refine ⟨?_, ?_, ?_, by simp [p4]⟩
      · rw [sI_s]
        simp
      · rw [cA_I, sA_o (by decide)]
        exact seg_snoc (sA_seg p2 (by omega)) (by rw [Nat.zero_add, sA_s])
      · rw [cA_I]
        refine seg_snoc (sA_seg ?_ (by omega)) (by rw [Nat.zero_add, ← p4, sA_s])
        rw [sA_o (by decide)]
        exact p3
    obtain ⟨c', r1, r2, r3, r4⟩ := ih (i + 1) (q + (tm ar hp q).length) (q' + (tm ar hp q').length) (pa ++ [q]) (pb ++ [q']) c1 (by omega) ⟨o1, x2⟩ (tm_wf h x1).2.2 ⟨o2, y2⟩ (tm_wf h y1).2.2 hu1 hp1 (by simp; omega)
    refine ⟨c', fun n hn => ?_, r2, by simpa [ags] using r3, fr.tr hf1 r4⟩
    obtain ⟨n, rfl⟩ : ∃ n', n = n' + 1 := ⟨n - 1, by omega⟩
    rw [jf_X10_pairArguments_12_s]
    simp (disch := omega) only [i32_lit, i32_neg, i32_add, i32_sub, i32_mul, i32_lt, i32_le, i32_eq, kRl u1 (show (243, 1, 245) ∈ lyL by decide), xbs, kga C (show ct 245 = some (1, 24) by decide), Int.toNat_natCast, (u3 s d hd).2.1, if_neg, u_isNode u2 h24]
    rw [decide_eq_true (show 0 ≤ (q : Int) ∧ (q : Int) < hp.length by omega), decide_eq_true (show 0 ≤ (q' : Int) ∧ (q' : Int) < hp.length by omega)]
    simp (disch := omega) only [bI_eq0, Bool.true_eq_false, if_false, kI (show 243 < 273 by omega), p1, i32_lit, i32_neg, i32_add, i32_sub, i32_mul, i32_lt, i32_le, i32_eq, if_neg, if_pos]
    have l1 : LY (csA c 251 pa.length (i32 q)) := u1.same rfl rfl
    have l2 : LY c1 := hu1.1
    simp (disch := omega) only [kRl u1 (show (243, 7, 251) ∈ lyL by decide), kRl l1 (show (243, 8, 252) ∈ lyL by decide), xbs, kwa C (show ct 251 = some (1, 73) by decide), kwa C (show ct 252 = some (1, 73) by decide), Int.toNat_natCast, kI (show 243 < 273 by omega), cI_A, p1, ksI (show 243 < 273 by omega), i32_lit, i32_neg, i32_add, i32_sub, i32_mul, i32_lt, i32_le, i32_eq]
    rw [← hc1]
    simp (disch := omega) only [kRl l2 (show (243, 2, 246) ∈ lyL by decide), xbs, kga C (show ct 246 = some (1, 24) by decide), Int.toNat_natCast, (hu1.2.2 q dq hdq).2.2.1, (hu1.2.2 q' dq' hdq').2.2.1]
    rw [show (i : Int) + 1 = ((i + 1 : Nat) : Int) by omega]
    exact r1 n (by omega)
/-- Unifier.unite of two roots -/
theorem u_unite (C : CH ty N) (h : okH ar hp) {c : CS} {par : Nat → Nat} {sg : Nat → Option Nat} (hu : UC c ar hp par sg) {pa pb : List Nat} (hp' : PC c pa pb) (hlen : pa.length + 3 ≤ 72) {x y : Nat} (hx : x < hp.length) (hy : y < hp.length) (hxy : x ≠ y)
    (hsx : ∀ s, sg x = some s → s < hp.length ∧ ∃ d, hp[s]? = some d ∧ d < 100) (hsy : ∀ s, sg y = some s → s < hp.length ∧ ∃ d, hp[s]? = some d ∧ d < 100) :
    ∃ c', fr 243 257 c c' ∧ ((jf_X10_unite ty (cst N h0 c) (N + 243) (i32 x) (i32 y) = some (i32 1, cst N h0 c') ∧ ∃ sg' qa qb, UC c' ar hp (fu par x y) sg' ∧ PC c' (pa ++ qa) (pb ++ qb) ∧ qa.length ≤ 3 ∧ (qa.length = qb.length ∧ (∀ z ∈ qa, z < hp.length) ∧ ∀ z ∈ qb, z < hp.length) ∧ (∀ r, r ≠ y → sg' r = sg r) ∧
        ((sg x = none ∧ sg' y = sg y ∧ qa = [] ∧ qb = []) ∨ (∃ s, sg x = some s ∧ sg y = none ∧ sg' y = some s ∧ qa = [] ∧ qb = []) ∨ (∃ s s' d, sg x = some s ∧ sg y = some s' ∧ sg' y = some s' ∧ hp[s]? = some d ∧ hp[s']? = some d ∧ d < 100 ∧ qa = ags ar hp (s + 1) (ar d) ∧ qb = ags ar hp (s' + 1) (ar d)))) ∨
      (jf_X10_unite ty (cst N h0 c) (N + 243) (i32 x) (i32 y) = some (i32 0, cst N h0 c') ∧ ∃ s s' d d', sg x = some s ∧ sg y = some s' ∧ hp[s]? = some d ∧ hp[s']? = some d' ∧ d < 100 ∧ d' < 100 ∧ d ≠ d')) := by
  have h24 := h.2.2.2
  obtain ⟨u1, u2, u3⟩ := id hu
  obtain ⟨dx, hdx⟩ := get_some hx
  obtain ⟨dy, hdy⟩ := get_some hy
  obtain ⟨c1, hc1⟩ : ∃ c1, c1 = csA c 247 x (i32 y) := ⟨_, rfl⟩
  have hf1 : fr 243 257 c c1 := by rw [hc1]; exact fr.A (by omega) (by omega)
  have hu1 : UC c1 ar hp (fu par x y) sg := by
    rw [hc1]
    refine ⟨u1.same rfl rfl, u2, fun i d hd => ?_⟩
    obtain ⟨a1, a2, a3, a4, a5⟩ := u3 i d hd
    refine ⟨fun z => ?_, ?_, ?_, ?_, ?_⟩
    · rw [sA_o (by decide)]; exact a1 z
    · rw [sA_o (by decide)]; exact a2
    · rw [sA_o (by decide)]; exact a3
    · by_cases hix : i = x
      · subst hix; rw [sA_s, fu_same]
      · rw [sA_n hix, fu_ne _ _ hix]; exact a4
    · rw [sA_o (by decide)]; exact a5
  have hp1 : PC c1 pa pb := by
    rw [hc1]
    obtain ⟨p1, p2, p3, p4⟩ := hp'
    refine ⟨p1, ?_, ?_, p4⟩
    · rw [sA_o (by decide)]; exact p2
    · rw [sA_o (by decide)]; exact p3
  have hsx2 : ∀ o, sg x = o → -2147483648 ≤ pI o ∧ pI o < 2147483648 := fun o ho => by
    cases o with
    | none => simp [pI]
    | some s => have := (hsx s ho).1; simp only [pI]; omega
  have hsy2 : ∀ o, sg y = o → -2147483648 ≤ pI o ∧ pI o < 2147483648 := fun o ho => by
    cases o with
    | none => simp [pI]
    | some s => have := (hsy s ho).1; simp only [pI]; omega
  have hhead : jf_X10_unite ty (cst N h0 c) (N + 243) (i32 x) (i32 y) = (jf_X10_isNode ty (cst N h0 c1) (N + 243) (i32 (pI (sg x)))).bind fun a7 => if a7 = 0 then some (1, cst N h0 c1) else (jf_X10_isNode ty (cst N h0 c1) (N + 243) (i32 (pI (sg y)))).bind fun a9 => if a9 = 0 then (xR (cst N h0 c1) (N + 243) 4).bind fun a17 => (xwa 1 ty (cst N h0 c1) a17 (i32 y) (i32 (pI (sg x)))).bind fun h18 => some (1, h18) else (xR (cst N h0 c1) (N + 243) 0).bind fun a11 => (xga 1 ty (cst N h0 c1) a11 (i32 (pI (sg x)))).bind fun a12 => (xR (cst N h0 c1) (N + 243) 0).bind fun a13 => (xga 1 ty (cst N h0 c1) a13 (i32 (pI (sg y)))).bind fun a14 => if a12 = a14 then (jf_X10_pairArguments ty (cst N h0 c1) (N + 243) (i32 (pI (sg x))) (i32 (pI (sg y)))).bind fun h16 => some (1, h16) else some (0, cst N h0 c1) := by
    unfold jf_X10_unite
    simp (disch := omega) only [kRl u1 (show (243, 4, 248) ∈ lyL by decide), kRl u1 (show (243, 3, 247) ∈ lyL by decide), xbs, kga C (show ct 248 = some (1, 24) by decide), kwa C (show ct 247 = some (1, 24) by decide), Int.toNat_natCast, (u3 x dx hdx).2.2.2.2, (u3 y dy hdy).2.2.2.2]
    rw [hc1]
  rw [hhead]
  cases ex : sg x with
  | none =>
    refine ⟨c1, hf1, Or.inl ⟨?_, sg, [], [], hu1, by simpa using hp1, by simp, ⟨rfl, by simp, by simp⟩, fun _ _ => rfl, Or.inl ⟨rfl, rfl, rfl, rfl⟩⟩⟩
    rw [u_isNode hu1.2.1 h24 (by simp [pI]) (by simp [pI]), decide_eq_false (by simp [pI])]
    rfl
  | some s =>
    obtain ⟨s1, d, s2, s3⟩ := hsx s ex
    simp only [pI]
    rw [u_isNode hu1.2.1 h24 (by omega) (by omega), decide_eq_true (by omega)]
    simp only [xbs, i32_lit, bI_eq0]
    rw [if_neg (by decide)]
    cases ey : sg y with
    | none =>
      simp only [pI]
      rw [u_isNode hu1.2.1 h24 (by omega) (by omega), decide_eq_false (by omega)]
      simp (disch := omega) only [xbs, bI_eq0, if_true, kRl hu1.1 (show (243, 4, 248) ∈ lyL by decide), kwa C (show ct 248 = some (1, 24) by decide), Int.toNat_natCast]
      refine ⟨csA c1 248 y (i32 s), fr.tr hf1 (fr.A (by omega) (by omega)), Or.inl ⟨rfl, fu sg y (some s), [], [], ?_, ?_, by simp, ⟨rfl, by simp, by simp⟩, fun r hr => fu_ne _ _ hr, Or.inr (Or.inl ⟨s, by first | rfl | trivial, by first | rfl | trivial, fu_same _ _ _, by first | rfl | trivial, by first | rfl | trivial⟩)⟩⟩
      · refine ⟨hu1.1.same rfl rfl, hu1.2.1, fun i e he => ?_⟩
        obtain ⟨a1, a2, a3, a4, a5⟩ := hu1.2.2 i e he
        refine ⟨fun z => ?_, ?_, ?_, ?_, ?_⟩
        · rw [sA_o (by decide)]; exact a1 z
        · rw [sA_o (by decide)]; exact a2
        · rw [sA_o (by decide)]; exact a3
        · rw [sA_o (by decide)]; exact a4
        · by_cases hiy : i = y
          · subst hiy; rw [sA_s, fu_same]; rfl
          · rw [sA_n hiy, fu_ne _ _ hiy]; exact a5
      · obtain ⟨p1, p2, p3, p4⟩ := hp1
        refine ⟨by rw [cI_A]; simpa using p1, ?_, ?_, by simpa using p4⟩
        · rw [sA_o (by decide)]; simpa using p2
        · rw [sA_o (by decide)]; simpa using p3
    | some s' =>
      obtain ⟨t1, d', t2, t3⟩ := hsy s' ey
      simp only [pI]
      rw [u_isNode hu1.2.1 h24 (by omega) (by omega), decide_eq_true (by omega)]
      simp (disch := omega) only [xbs, bI_eq0, kRl hu1.1 (show (243, 0, 244) ∈ lyL by decide), kga C (show ct 244 = some (1, 24) by decide), Int.toNat_natCast, (hu1.2.2 s d s2).1 s3, (hu1.2.2 s' d' t2).1 t3, i32_eq]
      rw [if_neg (by decide)]
      by_cases hdd : d = d'
      · subst hdd
        rw [if_pos rfl]
        have hpush : ∀ p1, hp[p1]? = some d → p1 < hp.length → ∃ o, tms ar (ar d + o) (hp.drop (p1 + 1)) := by
          intro p1 hd g2
          obtain ⟨o, ho⟩ := h.at g2
          rw [drop_cons hd, Nat.add_comm 1 o] at ho
          have : tms ar (o + ar d) (hp.drop (p1 + 1)) := ho
          exact ⟨o, by rwa [Nat.add_comm] at this⟩
        have hd3 := (h.2.2.1 d (List.mem_of_getElem? s2)).2
        obtain ⟨c', r1, r2, r3, r4⟩ := u_pairs (h0 := h0) C h s2 (ar d) 0 (s + 1) (s' + 1) pa pb c1 (by omega) (hpush s s2 s1) (by omega) (hpush s' t2 t1) (by omega) hu1 hp1 (by omega)
        refine ⟨c', fr.tr hf1 r4, Or.inl ⟨?_, sg, _, _, r2, r3, by rw [ags_len]; omega, ⟨by simp [ags_len], fun z hz => ((tm_head h s2).2 z hz).1, fun z hz => ((tm_head h t2).2 z hz).1⟩, fun _ _ => rfl, Or.inr (Or.inr ⟨s, s', d, rfl, rfl, ey, s2, t2, s3, rfl, rfl⟩)⟩⟩
        unfold jf_X10_pairArguments
        simp only [i32_lit, i32_neg, i32_add, i32_sub, i32_mul, i32_lt, i32_le, i32_eq]
        rw [show (s : Int) + 1 = ((s + 1 : Nat) : Int) by omega, show (s' : Int) + 1 = ((s' + 1 : Nat) : Int) by omega]
        have hq := jf_X10_pairArguments_12_l (n := ar d + 1) (r1 _ (by omega))
        rw [show i32 0 = i32 ((0 : Nat) : Int) from rfl, hq]
        rfl
      · rw [if_neg (by omega)]
        exact ⟨c1, hf1, Or.inr ⟨rfl, s, s', d, d', rfl, rfl, s2, t2, s3, t3, hdd⟩⟩
end UNIC

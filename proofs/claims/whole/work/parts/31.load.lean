/-! THE CLASS'S UNIFIER: loading two terms -/
section LOAD
variable {ty : xTy} {N : Nat} {h0 : xH} {ar : Nat → Nat} {hp : List Nat}
def par0 (hp : List Nat) (i : Nat) : Nat := if hp.getD i 0 < 100 then i else hp.idxOf (hp.getD i 0)
def sg0 (hp : List Nat) (i : Nat) : Option Nat := if hp.getD i 0 < 100 then some i else none
def LU (c : CS) (ar : Nat → Nat) (hp : List Nat) (m : Nat) : Prop := ∀ (i d : Nat), i < m → hp[i]? = some d → (d < 100 → cA c 244 i = i32 d) ∧ cA c 245 i = i32 (ar d) ∧ cA c 246 i = i32 ((i + (tm ar hp i).length : Nat) : Int) ∧ cA c 247 i = i32 (par0 hp i) ∧ cA c 248 i = i32 (pI (sg0 hp i))
theorem sA_x {c : CS} {q q' k b : Nat} {v : Int32} (h : b ≠ k) : cA (csA c q k v) q' b = cA c q' b := fu2_ne _ _ (Or.inr h)
theorem tm_part (hz : ∀ d, 100 ≤ d → ar d = 0) {X Y T : List Nat} {a o : Nat} (h1 : tms ar o T) {i : Nat} (hi : i < T.length) : tm ar (X ++ T.map (sh a) ++ Y) (X.length + i) = (fst1 ar (T.drop i)).map (sh a) := by
  obtain ⟨o', ho⟩ := tms_drop h1 i (by omega)
  have ho1 : ∃ z, o' = 1 + z := by
    cases o' with
    | zero =>
      have := skipN_all ho
      rw [skipN_zero] at this
      simp at this
      omega
    | succ z => exact ⟨z, by omega⟩
  obtain ⟨z, rfl⟩ := ho1
  have hd : (X ++ T.map (sh a) ++ Y).drop (X.length + i) = (T.drop i).map (sh a) ++ Y := by
    rw [List.append_assoc, ← List.drop_drop, List.drop_left, List.drop_append_of_le_length (by simp; omega), List.map_drop]
  unfold tm
  rw [hd]
  obtain ⟨f0, f1, f2, f3, f4, f5⟩ := fst1_split ho
  have hf1 : tms ar 1 ((fst1 ar (T.drop i)).map (sh a)) := (tms_sh hz a _ _).mpr f1
  have e : (T.drop i).map (sh a) ++ Y = (fst1 ar (T.drop i)).map (sh a) ++ ((snd1 ar (T.drop i)).map (sh a) ++ Y) := by
    rw [← List.append_assoc, ← List.map_append, f0]
  rw [e]
  show List.take (skipN ar 1 _) _ = _
  rw [skipN_app hf1, List.take_left]
theorem idx_part {X Y T : List Nat} {a d : Nat} (hd : d ∈ T) (hX : sh a d ∉ X) : (X ++ T.map (sh a) ++ Y).idxOf (sh a d) = X.length + T.idxOf d := by
  rw [List.append_assoc, List.idxOf_append, if_neg hX, List.idxOf_append, if_pos (List.mem_map_of_mem hd), Nat.add_comm]
  congr 1
  induction T with
  | nil => cases hd
  | cons x T ih =>
    by_cases hx : x = d
    · subst hx; simp
    · have hx2 : sh a x ≠ sh a d := fun z => hx (sh_inj z)
      rw [List.map_cons, List.idxOf_cons, List.idxOf_cons, show (sh a x == sh a d) = false from beq_eq_false_iff_ne.mpr hx2, show (x == d) = false from beq_eq_false_iff_ne.mpr hx]
      simp only [cond_false]
      rw [ih (by cases hd with
        | head => exact absurd rfl hx
        | tail _ h => exact h)]
theorem u_load7 (C : CH ty N) {X Y T : List Nat} {a t room : Nat} (hhp : hp = X ++ T.map (sh a) ++ Y) (hz : ∀ d, 100 ≤ d → ar d = 0) (h1 : tms ar 1 T) (hb : ∀ d ∈ T, ar d ≤ 3 ∧ d < 1000) (h24 : hp.length ≤ 24) (hsep : ∀ d ∈ T, 100 ≤ d → sh a d ∉ X) (ht : t + 3 ≤ 243 ∨ 257 ≤ t) : ∀ (k p : Nat) (c : CS), p + k = T.length → LY c → isT c t room ar T → cI c 243 11 = i32 ((X.length + p : Nat) : Int) → LU c ar hp (X.length + p) →
    ∃ c', (∀ n, k < n → jf_X10_load_7 ty n (N + 243) (N + t) (i32 (X.length : Nat)) (i32 p) (cst N h0 c) = some (cst N h0 c')) ∧ fr 243 257 c c' ∧ cI c' 243 11 = i32 ((X.length + T.length : Nat) : Int) ∧ LU c' ar hp (X.length + T.length) := by
  have hlen : hp.length = X.length + T.length + Y.length := by rw [hhp]; simp; omega
  intro k
  induction k with
  | zero =>
    intro p c hp1 hL hT hs hU
    have hq := hT.2.2.2.2.2.2.2.1
    have hlt := ct_lt hT.1
    obtain rfl : p = T.length := by omega
    refine ⟨c, fun n hn => ?_, fr.rf, hs, hU⟩
    obtain ⟨n, rfl⟩ : ∃ n', n = n' + 1 := ⟨n - 1, by omega⟩
    rw [jf_X10_load_7_s]
    simp (disch := omega) only [i32_lit, i32_neg, i32_add, i32_sub, i32_mul, i32_lt, i32_le, i32_eq, kI, hq, if_pos]
  | succ k ih =>
    intro p c hp1 hL hT hs hU
    have hq := hT.2.2.2.2.2.2.2.1
    have hlt := ct_lt hT.1
    have hp2 : p < T.length := by omega
    obtain ⟨d, hd⟩ := get_some hp2
    have hdT := List.mem_of_getElem? hd
    have hdb := hb d hdT
    have hx : hp[X.length + p]? = some (sh a d) := by
      rw [hhp, List.append_assoc, List.getElem?_append_right (by omega), show X.length + p - X.length = p by omega, List.getElem?_append_left (by simp; omega), List.getElem?_map, hd]
      rfl
    have hgx : hp.getD (X.length + p) 0 = sh a d := getD_some hx
    have htm : (tm ar hp (X.length + p)).length = skipN ar 1 (T.drop p) := by
      rw [hhp, tm_part hz h1 hp2, List.length_map]
      obtain ⟨o', ho⟩ := tms_drop h1 p (by omega)
      have := tms_split (o := 0) (o' := o') (ar := ar) (L := T.drop p) (by rwa [Nat.zero_add])
      unfold fst1
      rw [List.length_take, Nat.min_eq_left]
      cases o' with
      | zero =>
        have := skipN_all ho
        rw [skipN_zero] at this
        simp at this
        omega
      | succ z => exact (tms_split (show tms ar (1 + z) (T.drop p) by rwa [Nat.add_comm])).2.2
    obtain ⟨s, hsd⟩ : ∃ s, s = X.length + p := ⟨_, rfl⟩
    rw [← hsd] at hs hU hx hgx htm
    have hs24 : s < 24 := by omega
    have b60 : p + skipN ar 1 (T.drop p) ≤ 24 := by
      have : (tm ar hp s).length ≤ hp.length - s := by
        show (List.take _ _).length ≤ _
        rw [List.length_take, List.length_drop]; omega
      omega
    obtain ⟨c1, hc1⟩ : ∃ c1, c1 = csA c 244 s (i32 d) := ⟨_, rfl⟩
    obtain ⟨c2, hc2⟩ : ∃ c2, c2 = csA c1 245 s (i32 (ar d)) := ⟨_, rfl⟩
    obtain ⟨c3, hc3⟩ : ∃ c3, c3 = csA c2 246 s (i32 ((s + skipN ar 1 (T.drop p) : Nat) : Int)) := ⟨_, rfl⟩
    obtain ⟨c4, hc4⟩ : ∃ c4, c4 = csA c3 247 s (i32 (par0 hp s)) := ⟨_, rfl⟩
    obtain ⟨c5, hc5⟩ : ∃ c5, c5 = csA c4 248 s (i32 (pI (sg0 hp s))) := ⟨_, rfl⟩
    obtain ⟨c6, hc6⟩ : ∃ c6, c6 = csI c5 243 11 (i32 ((s + 1 : Nat) : Int)) := ⟨_, rfl⟩
    have f1 : fr 243 257 c c1 := by rw [hc1]; exact fr.A (by omega) (by omega)
    have f2 : fr 243 257 c c2 := f1.tr (by rw [hc2]; exact fr.A (by omega) (by omega))
    have f3 : fr 243 257 c c3 := f2.tr (by rw [hc3]; exact fr.A (by omega) (by omega))
    have f4 : fr 243 257 c c4 := f3.tr (by rw [hc4]; exact fr.A (by omega) (by omega))
    have f5 : fr 243 257 c c5 := f4.tr (by rw [hc5]; exact fr.A (by omega) (by omega))
    have f6 : fr 243 257 c c6 := f5.tr (by rw [hc6]; exact fr.I (by omega) (by omega))
    have s1 : cI c1 243 11 = i32 s := by rw [hc1]; exact hs
    have s2 : cI c2 243 11 = i32 s := by rw [hc2]; exact s1
    have s3 : cI c3 243 11 = i32 s := by rw [hc3]; exact s2
    have s4 : cI c4 243 11 = i32 s := by rw [hc4]; exact s3
    have s5 : cI c5 243 11 = i32 s := by rw [hc5]; exact s4
    have L1 := hL.same f1.2.1 f1.2.2
    have L2 := hL.same f2.2.1 f2.2.2
    have L3 := hL.same f3.2.1 f3.2.2
    have L4 := hL.same f4.2.1 f4.2.2
    have L6 := hL.same f6.2.1 f6.2.2
    have hU6 : LU c6 ar hp (X.length + (p + 1)) := by
      intro i x hi hix
      rw [← Nat.add_assoc, ← hsd] at hi
      by_cases his : i = s
      · subst his
        rw [hx] at hix
        obtain rfl := Option.some.inj hix
        have e4 : cA c6 244 i = i32 d := by
          rw [hc6]; show cA c5 244 i = _
          rw [hc5, sA_o (by omega), hc4, sA_o (by omega), hc3, sA_o (by omega), hc2, sA_o (by omega), hc1, sA_s]
        have e5 : cA c6 245 i = i32 (ar d) := by
          rw [hc6]; show cA c5 245 i = _
          rw [hc5, sA_o (by omega), hc4, sA_o (by omega), hc3, sA_o (by omega), hc2, sA_s]
        have e6 : cA c6 246 i = i32 ((i + skipN ar 1 (T.drop p) : Nat) : Int) := by
          rw [hc6]; show cA c5 246 i = _
          rw [hc5, sA_o (by omega), hc4, sA_o (by omega), hc3, sA_s]
        have e7 : cA c6 247 i = i32 (par0 hp i) := by
          rw [hc6]; show cA c5 247 i = _
          rw [hc5, sA_o (by omega), hc4, sA_s]
        have e8 : cA c6 248 i = i32 (pI (sg0 hp i)) := by
          rw [hc6]; show cA c5 248 i = _
          rw [hc5, sA_s]
        refine ⟨fun hl => ?_, ?_, ?_, e7, e8⟩
        · rw [e4]
          unfold sh at hl ⊢
          split at hl
          · rename_i hz; rw [if_pos hz]
          · omega
        · rw [e5, ar_sh hz]
        · rw [e6, htm]
      · obtain ⟨g1, g2, g3, g4, g5⟩ := hU i x (by omega) hix
        have e : ∀ q, cA c6 q i = cA c q i := by
          intro q
          rw [hc6]; show cA c5 q i = _
          rw [hc5, sA_x his, hc4, sA_x his, hc3, sA_x his, hc2, sA_x his, hc1, sA_x his]
        rw [e, e, e, e, e]
        exact ⟨g1, g2, g3, g4, g5⟩
    obtain ⟨c', r1, r2, r3, r4⟩ := ih (p + 1) c6 (by omega) L6 (hT.fr f6 ht) (by rw [hc6, sI_s, hsd]; rfl) hU6
    refine ⟨c', fun n hn => ?_, f6.tr r2, r3, r4⟩
    obtain ⟨n, rfl⟩ : ∃ n', n = n' + 1 := ⟨n - 1, by omega⟩
    have q1 : jf_X7_codeAt ty (cst N h0 c) (N + t) (i32 p) = some (i32 d) := by
      rw [t_codeAt C hT (by omega) (by omega), Int.toNat_natCast, hd]; rfl
    have q2 : jf_X7_arityAt ty (cst N h0 c1) (N + t) (i32 p) = some (i32 (ar d)) := by
      rw [t_arityAt C (hT.fr f1 ht) (by omega) (by omega), Int.toNat_natCast, hd]; rfl
    have q3 : jf_X7_behind ty (cst N h0 c2) (N + t) (i32 p) = some (i32 ((p + skipN ar 1 (T.drop p) : Nat) : Int)) := t_behind C (hT.fr f2 ht) (fun d hd => (hb d hd).1) (by omega)
    have q4 : jf_X7_firstPlace ty (cst N h0 c3) (N + t) (i32 d) = some (i32 (T.idxOf d : Nat)) := t_first C (hT.fr f3 ht) (fun d hd => (hb d hd).2) hdb.2
    have hidx : T.idxOf d < T.length := List.idxOf_lt_length_iff.mpr hdT
    rw [jf_X10_load_7_s]
    simp (disch := omega) only [i32_lit, i32_neg, i32_add, i32_sub, i32_mul, i32_lt, i32_le, i32_eq, kI, hq, hs, if_neg, q1, xbs, kRl hL (show (243, 0, 244) ∈ lyL by decide), kwa C (show ct 244 = some (1, 24) by decide), Int.toNat_natCast]
    rw [← hc1]
    simp (disch := omega) only [kRl L1 (show (243, 1, 245) ∈ lyL by decide), xbs, q2, kI, s1, kwa C (show ct 245 = some (1, 24) by decide), Int.toNat_natCast]
    rw [← hc2]
    simp (disch := omega) only [kRl L2 (show (243, 2, 246) ∈ lyL by decide), xbs, q3, kI, s2, i32_lit, i32_neg, i32_add, i32_sub, i32_mul, i32_lt, i32_le, i32_eq, kwa C (show ct 246 = some (1, 24) by decide), Int.toNat_natCast]
    rw [show (X.length : Int) + ((p + skipN ar 1 (T.drop p) : Nat) : Int) = ((s + skipN ar 1 (T.drop p) : Nat) : Int) by omega, ← hc3]
    simp (disch := omega) only [kRl L3 (show (243, 3, 247) ∈ lyL by decide), xbs, kI, s3]
    by_cases h100 : d < 100
    · have hshd : sh a d = d := by unfold sh; rw [if_pos h100]
      have hpar : par0 hp s = s := by unfold par0; rw [hgx, hshd, if_pos h100]
      have hsg : sg0 hp s = some s := by unfold sg0; rw [hgx, hshd, if_pos h100]
      rw [hpar] at hc4
      rw [hsg] at hc5
      rw [if_neg (by omega)]
      unfold jf_X10_load_102
      simp (disch := omega) only [kwa C (show ct 247 = some (1, 24) by decide), xbs, Int.toNat_natCast]
      rw [← hc4]
      simp (disch := omega) only [kRl L4 (show (243, 4, 248) ∈ lyL by decide), xbs, kI, s4, if_neg, i32_lit, i32_neg, i32_add, i32_sub, i32_mul, i32_lt, i32_le, i32_eq, kwa C (show ct 248 = some (1, 24) by decide), Int.toNat_natCast]
      rw [show csA c4 248 s (i32 s) = c5 from hc5.symm]
      simp (disch := omega) only [ksI, kI, s5, xbs, i32_lit, i32_neg, i32_add, i32_sub, i32_mul, i32_lt, i32_le, i32_eq]
      rw [show (s : Int) + 1 = ((s + 1 : Nat) : Int) by omega, ← hc6, show (p : Int) + 1 = ((p + 1 : Nat) : Int) by omega]
      exact r1 n (by omega)
    · have hshd : ¬ sh a d < 100 := by unfold sh; rw [if_neg h100]; omega
      have hpar : par0 hp s = X.length + T.idxOf d := by
        unfold par0; rw [hgx, if_neg hshd, hhp, idx_part hdT (hsep d hdT (by omega))]
      have hsg : sg0 hp s = none := by unfold sg0; rw [hgx, if_neg hshd]
      rw [hpar] at hc4
      rw [hsg] at hc5
      rw [if_pos (by omega), q4]
      unfold jf_X10_load_102
      simp (disch := omega) only [i32_lit, i32_neg, i32_add, i32_sub, i32_mul, i32_lt, i32_le, i32_eq, kwa C (show ct 247 = some (1, 24) by decide), xbs, Int.toNat_natCast]
      rw [show (X.length : Int) + (T.idxOf d : Int) = ((X.length + T.idxOf d : Nat) : Int) by omega, ← hc4]
      simp (disch := omega) only [kRl L4 (show (243, 4, 248) ∈ lyL by decide), xbs, kI, s4, if_pos, i32_lit, i32_neg, i32_add, i32_sub, i32_mul, i32_lt, i32_le, i32_eq, kwa C (show ct 248 = some (1, 24) by decide), Int.toNat_natCast]
      rw [show csA c4 248 s (i32 (-1)) = c5 from hc5.symm]
      simp (disch := omega) only [ksI, kI, s5, xbs, i32_lit, i32_neg, i32_add, i32_sub, i32_mul, i32_lt, i32_le, i32_eq]
      rw [show (s : Int) + 1 = ((s + 1 : Nat) : Int) by omega, ← hc6, show (p : Int) + 1 = ((p + 1 : Nat) : Int) by omega]
      exact r1 n (by omega)
end LOAD

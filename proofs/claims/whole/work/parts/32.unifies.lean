/-! TWO TERMS IN ONE HEAP, their variables apart -/
theorem sub_shft (θ : Nat → List Nat) (a : Nat) (L : List Nat) : sub θ (L.map (sh a)) = sub (fun d => θ (d + a)) L := by
  induction L with
  | nil => rfl
  | cons d L ih =>
    rw [List.map_cons, sub_cons, sub_cons, ih]
    by_cases hd : d < 100
    · rw [show sh a d = d by unfold sh; rw [if_pos hd], if_pos hd, if_pos hd]
    · rw [show sh a d = d + a by unfold sh; rw [if_neg hd], if_neg hd, if_neg (by omega)]
def glue (W : List Nat) (a b : Nat) (θ1 θ2 : Nat → List Nat) (x : Nat) : List Nat := if 100 + a ≤ x ∧ (x - a) ∈ W then θ1 (x - a) else if 100 + b ≤ x then θ2 (x - b) else [x]
section TR
variable {ar : Nat → Nat} {W P Q : List Nat} {a b : Nat}
theorem glue_wf (hz : ∀ d, 100 ≤ d → ar d = 0) {θ1 θ2 : Nat → List Nat} (h1 : wfs ar θ1) (h2 : wfs ar θ2) : wfs ar (glue W a b θ1 θ2) := by
  intro d hd
  unfold glue
  split
  · exact h1 _ (by omega)
  · split
    · exact h2 _ (by omega)
    · show tms ar (0 + ar d) []
      rw [hz d hd]; rfl
theorem glue_1 {θ1 θ2 : Nat → List Nat} (hP : ∀ d ∈ P, d ∈ W) : sub (glue W a b θ1 θ2) (P.map (sh a)) = sub θ1 P := by
  rw [sub_shft]
  refine sub_congr (fun d hd h100 => ?_)
  unfold glue
  rw [if_pos ⟨by omega, by rw [Nat.add_sub_cancel]; exact hP d hd⟩, Nat.add_sub_cancel]
theorem glue_2 {θ1 θ2 : Nat → List Nat} (hs : ∀ d ∈ W, ∀ e ∈ Q, 100 ≤ d → 100 ≤ e → d + a ≠ e + b) : sub (glue W a b θ1 θ2) (Q.map (sh b)) = sub θ2 Q := by
  rw [sub_shft]
  refine sub_congr (fun d hd h100 => ?_)
  unfold glue
  rw [if_neg (fun z => hs _ z.2 d hd (by omega) h100 (by omega)), if_pos (by omega), Nat.add_sub_cancel]
theorem shft_wf {φ : Nat → List Nat} (h : wfs ar φ) (a : Nat) : wfs ar (fun d => φ (d + a)) := fun d hd => h (d + a) (by omega)
theorem uni_tr (hz : ∀ d, 100 ≤ d → ar d = 0) (hs : ∀ d ∈ P, ∀ e ∈ Q, 100 ≤ d → 100 ≤ e → d + a ≠ e + b) : uniS ar P Q ↔ ∃ φ, wfs ar φ ∧ sub φ (P.map (sh a)) = sub φ (Q.map (sh b)) := by
  constructor
  · rintro ⟨θ1, θ2, h1, h2, h3⟩
    exact ⟨glue P a b θ1 θ2, glue_wf hz h1 h2, by rw [glue_1 (fun d hd => hd), glue_2 hs, h3]⟩
  · rintro ⟨φ, h1, h2⟩
    exact ⟨_, _, shft_wf h1 a, shft_wf h1 b, by rw [← sub_shft, ← sub_shft, h2]⟩
theorem mg_tr (hz : ∀ d, 100 ≤ d → ar d = 0) (hP : ∀ d ∈ P, d ∈ W) (hs : ∀ d ∈ W, ∀ e ∈ Q, 100 ≤ d → 100 ≤ e → d + a ≠ e + b) {φ : Nat → List Nat} (h1 : wfs ar φ) (h2 : sub φ (P.map (sh a)) = sub φ (Q.map (sh b))) (h3 : ∀ ψ, wfs ar ψ → sub ψ (P.map (sh a)) = sub ψ (Q.map (sh b)) → ∃ χ, wfs ar χ ∧ sub ψ (W.map (sh a)) = sub χ (sub φ (W.map (sh a)))) : mgS ar W P Q (sub φ (W.map (sh a))) := by
  refine ⟨_, _, shft_wf h1 a, shft_wf h1 b, by rw [← sub_shft, ← sub_shft, h2], sub_shft _ _ _, fun φ1 φ2 w1 w2 w3 => ?_⟩
  obtain ⟨χ, x1, x2⟩ := h3 (glue W a b φ1 φ2) (glue_wf hz w1 w2) (by rw [glue_1 hP, glue_2 hs, w3])
  rw [glue_1 (fun d hd => hd)] at x2
  exact ⟨χ, x1, x2⟩
end TR
section UNIFIES
variable {ty : xTy} {N : Nat} {h0 : xH} {ar : Nat → Nat} {hp : List Nat}
theorem par0_lt {i : Nat} (hi : i < hp.length) : par0 hp i < hp.length := by
  obtain ⟨d, hd⟩ := get_some hi
  unfold par0
  rw [getD_some hd]
  split
  · exact hi
  · exact List.idxOf_lt_length_iff.mpr (List.mem_of_getElem? hd)
theorem par0_get {i d : Nat} (hd : hp[i]? = some d) : hp[par0 hp i]? = some d := by
  have hi : i < hp.length := (List.getElem?_eq_some_iff.mp hd).1
  unfold par0
  rw [getD_some hd]
  split
  · exact hd
  · have hl : hp.idxOf d < hp.length := List.idxOf_lt_length_iff.mpr (List.mem_of_getElem? hd)
    rw [List.getElem?_eq_getElem hl, List.getElem_idxOf hl]
theorem par0_par0 {i : Nat} (hi : i < hp.length) : par0 hp (par0 hp i) = par0 hp i := by
  obtain ⟨d, hd⟩ := get_some hi
  have h2 := getD_some (par0_get hd)
  by_cases h : d < 100
  · have : par0 hp i = i := by unfold par0; rw [getD_some hd, if_pos h]
    rw [this, this]
  · have : par0 hp i = hp.idxOf d := by unfold par0; rw [getD_some hd, if_neg h]
    have e : ∀ j, hp.getD j 0 = d → par0 hp j = hp.idxOf d := fun j hj => by unfold par0; rw [hj, if_neg h]
    rw [e _ h2, this]
theorem CUI0 (h : okH ar hp) {x0 y0 : Nat} (hx0 : x0 < hp.length) (hy0 : y0 < hp.length) : ∃ dep md, CUI ar hp x0 y0 (par0 hp) (par0 hp) dep md (sg0 hp) [x0] [y0] ∧ md + nroots (par0 hp) hp.length ≤ hp.length := by
  refine ⟨fun i => if par0 hp i = i then 0 else 1, if nroots (par0 hp) hp.length = hp.length then 0 else 1, ⟨fun i hi => ?_, fun φ hφ he => ⟨fun i hi => ?_, ?_⟩, fun r hr hpr => ⟨fun s hs => ?_, fun hn i hi hri d hd => ?_⟩, fun i d hd h100 s hs => ?_, ?_, ⟨rfl, ?_, ?_⟩, ?_⟩, ?_⟩
  · have a1 := par0_par0 hi
    refine ⟨par0_lt hi, par0_lt hi, a1, a1, fun z => ⟨by simp only [if_pos z], z⟩, fun z => ?_, ?_⟩
    · simp only [if_pos a1, if_neg z]; omega
    · by_cases hn : nroots (par0 hp) hp.length = hp.length
      · have := cntF_all _ hn i hi
        have : par0 hp i = i := by simpa using this
        simp only [if_pos this]; omega
      · simp only [if_neg hn]; split <;> omega
  · obtain ⟨d, hd⟩ := get_some hi
    by_cases h100 : d < 100
    · have : par0 hp i = i := by unfold par0; rw [getD_some hd, if_pos h100]
      rw [this]
    · rw [tm_var h hd (by omega), tm_var h (par0_get hd) (by omega)]
  · intro i x y hx hy
    cases i with
    | zero => simp at hx hy; subst hx; subst hy; exact he
    | succ i => simp at hx
  · unfold sg0 at hs
    split at hs
    · rename_i h1
      obtain rfl := Option.some.inj hs
      obtain ⟨d, hd⟩ := get_some hr
      rw [getD_some hd] at h1
      exact ⟨hr, ⟨d, hd, h1⟩, hpr⟩
    · cases hs
  · unfold sg0 at hn
    split at hn
    · cases hn
    · rename_i h1
      have := par0_get hd
      rw [hri] at this
      rw [getD_some this] at h1
      omega
  · have : par0 hp i = i := by unfold par0; rw [getD_some hd, if_pos h100]
    rw [this] at hs
    unfold sg0 at hs
    rw [getD_some hd, if_pos h100] at hs
    obtain rfl := Option.some.inj hs
    refine ⟨hd, fun k a b ha hb => ?_⟩
    rw [ha] at hb
    obtain rfl := Option.some.inj hb
    exact fun E e1 _ _ _ _ => e1 _
  · exact fun E _ _ _ _ e5 => e5 0 x0 y0 rfl rfl
  · intro x hx; simp at hx; omega
  · intro x hx; simp at hx; omega
  · intro i j d hi hj h100
    unfold par0
    rw [getD_some hi, getD_some hj, if_neg (by omega), if_neg (by omega)]
  · have := cntF_le (fun i => par0 hp i == i) hp.length
    have e : nroots (par0 hp) hp.length ≤ hp.length := this
    split <;> omega
theorem fst1_head {L : List Nat} {d : Nat} {p o : Nat} {T : List Nat} (hL : L = T.drop p) (h1 : tms ar o T) (hd : T[p]? = some d) : ∃ L', fst1 ar L = d :: L' := by
  subst hL
  rw [drop_cons hd]
  unfold fst1
  simp only [skipN]
  rw [List.take_succ_cons]
  exact ⟨_, rfl⟩
theorem uniS_head {P Q : List Nat} {d e : Nat} (hd : d < 100) (he : e < 100) (hde : d ≠ e) : ¬ uniS ar (d :: P) (e :: Q) := by
  rintro ⟨θ1, θ2, -, -, h⟩
  rw [sub_cons, sub_cons, if_pos hd, if_pos he] at h
  exact hde (List.cons.inj h).1
theorem LU.keep {c c' : CS} {m : Nat} (hu : LU c ar hp m) (e4 : ∀ q, 244 ≤ q → q ≤ 248 → cA c' q = cA c q) : LU c' ar hp m := by
  intro i d hi hd
  rw [e4 244 (by omega) (by omega), e4 245 (by omega) (by omega), e4 246 (by omega) (by omega), e4 247 (by omega) (by omega), e4 248 (by omega) (by omega)]
  exact hu i d hi hd
/-- what the class' unifier holds when it has answered yes -/
def UY (ar : Nat → Nat) (hp : List Nat) (c : CS) (x0 y0 : Nat) : Prop := ∃ par rt dep md sg tme K, CUI ar hp x0 y0 par rt dep md sg [] [] ∧ UC c ar hp par sg ∧ md < hp.length ∧ TMo ar hp rt sg tme ∧ ∀ i, i < hp.length → tme i < K
theorem okH_two (hz : ∀ d, 100 ≤ d → ar d = 0) {T Q : List Nat} (h1 : tms ar 1 T) (h2 : tms ar 1 Q) (hT : ∀ d ∈ T, ar d ≤ 3 ∧ d < 112) (hQ : ∀ d ∈ Q, ar d ≤ 3 ∧ d < 112) (lT : T.length ≤ 12) (lQ : Q.length ≤ 12) : okH ar (T ++ Q.map (sh 20)) := by
  refine ⟨⟨_, tms_app h1 ((tms_sh hz 20 Q 1).mpr h2)⟩, hz, fun d hd => ?_, by simp; omega⟩
  rcases List.mem_append.mp hd with hd | hd
  · have := hT d hd; exact ⟨by omega, this.1⟩
  · obtain ⟨e, he, rfl⟩ := List.mem_map.mp hd
    have := hQ e he
    refine ⟨?_, by rw [ar_sh hz]; exact this.1⟩
    unfold sh; split <;> omega
theorem sep_two {T Q : List Nat} (hT : ∀ d ∈ T, ar d ≤ 3 ∧ d < 112) : ∀ d ∈ T, ∀ e ∈ Q, 100 ≤ d → 100 ≤ e → d + 0 ≠ e + 20 := fun d hd e he h1 h2 => by have := (hT d hd).2; omega
theorem tm_two (hz : ∀ d, 100 ≤ d → ar d = 0) {T Q : List Nat} (h1 : tms ar 1 T) (h2 : tms ar 1 Q) : (∀ p, p < T.length → tm ar (T ++ Q.map (sh 20)) p = fst1 ar (T.drop p)) ∧ tm ar (T ++ Q.map (sh 20)) T.length = Q.map (sh 20) := by
  constructor
  · intro p hp
    have := tm_part (X := []) (Y := Q.map (sh 20)) (a := 0) hz h1 hp
    rw [sh0, sh0, List.nil_append, List.length_nil, Nat.zero_add] at this
    exact this
  · have := tm_part (X := T) (Y := []) (a := 20) hz h2 (i := 0) (by have := tms_len h2; omega)
    rw [List.append_nil, Nat.add_zero, List.drop_zero] at this
    rw [this]
    unfold fst1
    rw [skipN_all h2, List.take_length]
theorem fst1_sub {T : List Nat} {p : Nat} : ∀ d ∈ fst1 ar (T.drop p), d ∈ T := fun d hd => List.mem_of_mem_drop (List.mem_of_mem_take hd)
theorem u_unifies (C : CH ty N) (hz : ∀ d, 100 ≤ d → ar d = 0) {T Q : List Nat} {t u room room' : Nat} (h1 : tms ar 1 T) (h2 : tms ar 1 Q) (hT : ∀ d ∈ T, ar d ≤ 3 ∧ d < 112) (hQ : ∀ d ∈ Q, ar d ≤ 3 ∧ d < 112) (lT : T.length ≤ 12) (lQ : Q.length ≤ 12) {c : CS} (hL : LY c) (iT : isT c t room ar T) (iQ : isT c u room' ar Q) (ht : t + 3 ≤ 243 ∨ 257 ≤ t) (hu : u + 3 ≤ 243 ∨ 257 ≤ u) {p : Nat} (hpT : p < T.length) :
    ∃ c', fr 243 257 c c' ∧ ((jf_X10_unifies ty (cst N h0 c) (N + 243) (N + t) (i32 p) (N + u) = some (i32 1, cst N h0 c') ∧ uniS ar (fst1 ar (T.drop p)) Q ∧ UY ar (T ++ Q.map (sh 20)) c' p T.length) ∨ (jf_X10_unifies ty (cst N h0 c) (N + 243) (N + t) (i32 p) (N + u) = some (i32 0, cst N h0 c') ∧ ¬ uniS ar (fst1 ar (T.drop p)) Q)) := by
  have pQ : 1 ≤ Q.length := tms_len h2
  obtain ⟨d, hd⟩ := get_some hpT
  obtain ⟨e, he⟩ := get_some (show 0 < Q.length by omega)
  have hdb := hT d (List.mem_of_getElem? hd)
  have heb := hQ e (List.mem_of_getElem? he)
  obtain ⟨L1, hL1⟩ := fst1_head rfl h1 hd
  have hQe : ∃ L2, Q = e :: L2 := by
    cases Q with
    | nil => simp at he
    | cons x Q => simp at he; subst he; exact ⟨_, rfl⟩
  obtain ⟨L2, hL2⟩ := hQe
  have q1 : jf_X7_codeAt ty (cst N h0 c) (N + t) (i32 p) = some (i32 d) := by
    rw [t_codeAt C iT (by omega) (by omega), Int.toNat_natCast, hd]; rfl
  have q2 : jf_X7_codeAt ty (cst N h0 c) (N + u) (i32 ((0 : Nat) : Int)) = some (i32 e) := by
    rw [t_codeAt C iQ (by omega) (by omega), Int.toNat_natCast, he]; rfl
  have hok := okH_two hz h1 h2 hT hQ lT lQ
  have htm := tm_two hz h1 h2
  obtain ⟨hp, hhp⟩ : ∃ hp, hp = T ++ Q.map (sh 20) := ⟨_, rfl⟩
  rw [← hhp] at hok htm ⊢
  have hlen : hp.length = T.length + Q.length := by rw [hhp]; simp
  have hsep := sep_two (Q := Q) hT
  have huni : uniS ar (fst1 ar (T.drop p)) Q ↔ ∃ φ, wfs ar φ ∧ sub φ (tm ar hp p) = sub φ (tm ar hp T.length) := by
    rw [htm.1 p hpT, htm.2]
    have := uni_tr (P := fst1 ar (T.drop p)) (Q := Q) (a := 0) (b := 20) hz (fun x hx => hsep x (fst1_sub x hx))
    rw [sh0] at this
    exact this
  have hmain : ∃ c', fr 243 257 c c' ∧ ((jf_X10_unifies_37 ty (N + 243) (N + t) (i32 p) (N + u) (cst N h0 c) = some (i32 1, cst N h0 c') ∧ uniS ar (fst1 ar (T.drop p)) Q ∧ UY ar hp c' p T.length) ∨ (jf_X10_unifies_37 ty (N + 243) (N + t) (i32 p) (N + u) (cst N h0 c) = some (i32 0, cst N h0 c') ∧ ¬ uniS ar (fst1 ar (T.drop p)) Q)) := by
    obtain ⟨c1, hc1⟩ : ∃ c1, c1 = csI c 243 11 (i32 ((0 : Nat) : Int)) := ⟨_, rfl⟩
    have f1 : fr 243 257 c c1 := by rw [hc1]; exact fr.I (by omega) (by omega)
    have hs1 : cI c1 243 11 = i32 ((0 : Nat) : Int) := by rw [hc1, sI_s]
    obtain ⟨c2, r1, r2, r3, r4⟩ := u_load7 (h0 := h0) (hp := hp) (X := []) (Y := Q.map (sh 20)) (T := T) (a := 0) C (by rw [sh0, List.nil_append, hhp]) hz h1 (fun x hx => ⟨(hT x hx).1, by have := (hT x hx).2; omega⟩) hok.2.2.2 (fun x _ _ => by simp) ht T.length 0 c1 (by omega) (hL.same f1.2.1 f1.2.2) (iT.fr f1 ht) hs1 (fun i x hi => by simp at hi)
    rw [List.length_nil, Nat.zero_add] at r3 r4
    have f2 := f1.tr r2
    obtain ⟨c3, s1, s2, s3, s4⟩ := u_load7 (h0 := h0) (hp := hp) (X := T) (Y := []) (T := Q) (a := 20) C (by rw [List.append_nil, hhp]) hz h2 (fun x hx => ⟨(hQ x hx).1, by have := (hQ x hx).2; omega⟩) hok.2.2.2 (fun x hx h100 hm => by
      have := (hT _ hm).2
      unfold sh at this; rw [if_neg (by omega)] at this; omega) hu Q.length 0 c2 (by omega) (hL.same f2.2.1 f2.2.2) (iQ.fr f2 hu) r3 r4
    have f3 := f2.tr s2
    obtain ⟨c4, hc4⟩ : ∃ c4, c4 = csA c3 251 0 (i32 p) := ⟨_, rfl⟩
    obtain ⟨c5, hc5⟩ : ∃ c5, c5 = csA c4 252 0 (i32 (T.length : Nat)) := ⟨_, rfl⟩
    obtain ⟨c6, hc6⟩ : ∃ c6, c6 = csI c5 243 12 (i32 1) := ⟨_, rfl⟩
    have f4 : fr 243 257 c c4 := f3.tr (by rw [hc4]; exact fr.A (by omega) (by omega))
    have f5 : fr 243 257 c c5 := f4.tr (by rw [hc5]; exact fr.A (by omega) (by omega))
    have f6 : fr 243 257 c c6 := f5.tr (by rw [hc6]; exact fr.I (by omega) (by omega))
    have L3 := hL.same f3.2.1 f3.2.2
    have L4 := hL.same f4.2.1 f4.2.2
    have L6 := hL.same f6.2.1 f6.2.2
    have hlen' : T.length + Q.length = hp.length := hlen.symm
    have U6 : UC c6 ar hp (par0 hp) (sg0 hp) := by
      refine ⟨L6, ?_, fun i x hx => ?_⟩
      · rw [hc6, sI_o (by omega), hc5]
        show cI c4 243 11 = _
        rw [hc4]
        show cI c3 243 11 = _
        rw [s3, hlen']
      · have := s4.keep (c' := c6) (fun q _ _ => by
          rw [hc6]; show cA c5 q = _
          rw [hc5, sA_o (by omega), hc4, sA_o (by omega)])
        rw [hlen'] at this
        exact this i x (List.getElem?_eq_some_iff.mp hx).1 hx
    have P6 : PC c6 [p] [T.length] := by
      refine ⟨by rw [hc6, sI_s]; rfl, ?_, ?_, rfl⟩
      · rw [seg_cons]
        refine ⟨?_, seg_nil _ _⟩
        rw [hc6]; show cA c5 251 0 = _
        rw [hc5, sA_o (by omega), hc4, sA_s]
      · rw [seg_cons]
        refine ⟨?_, seg_nil _ _⟩
        rw [hc6]; show cA c5 252 0 = _
        rw [hc5, sA_s]
    obtain ⟨dep, md, hcui, hmd⟩ := CUI0 hok (show p < hp.length by omega) (show T.length < hp.length by omega)
    have hnr : nroots (par0 hp) hp.length ≤ 24 := by
      have := cntF_le (fun i => par0 hp i == i) hp.length
      have h24 := hok.2.2.2
      unfold nroots
      omega
    obtain ⟨n, c7, v1, v2⟩ := u_all2 (h0 := h0) C hok (show p < hp.length by omega) 73 0 [p] [T.length] c6 _ _ _ _ _ (by omega) hcui U6 P6 hmd (by simp; omega)
    have f7 := f6.tr v1
    have hall : ∀ {r}, jf_X10_uniteAll_2 ty n (N + 243) (i32 ((0 : Nat) : Int)) (cst N h0 c6) = some r → jf_X10_unifies_37 ty (N + 243) (N + t) (i32 p) (N + u) (cst N h0 c) = xb2 (some r) fun a10 h9 => if a10 = 0 then some (0, h9) else xb2 (jf_X10_hasNoCircle ty h9 (N + 243)) fun a13 h12 => if a13 = 0 then some (0, h12) else some (1, h12) := by
      intro r hr
      have g1 : jf_X10_load ty (cst N h0 c1) (N + 243) (N + t) = some (cst N h0 c2) := by
        unfold jf_X10_load
        rw [kI (by omega), hs1]
        exact jf_X10_load_7_l (r1 (T.length + 1) (by omega))
      have g2 : jf_X10_load ty (cst N h0 c2) (N + 243) (N + u) = some (cst N h0 c3) := by
        unfold jf_X10_load
        rw [kI (by omega), r3]
        exact jf_X10_load_7_l (s1 (Q.length + 1) (by omega))
      have g3 : jf_X10_uniteAll ty (cst N h0 c6) (N + 243) = some r := jf_X10_uniteAll_2_l hr
      unfold jf_X10_unifies_37
      simp (disch := omega) only [i32_lit, i32_neg, i32_add, i32_sub, i32_mul, i32_lt, i32_le, i32_eq, ksI, xbs]
      rw [show csI c 243 11 (i32 0) = c1 from hc1.symm, g1]
      simp (disch := omega) only [xbs, g2, kI, r3]
      simp (disch := omega) only [kRl L3 (show (243, 7, 251) ∈ lyL by decide), xbs, i32_lit, i32_neg, i32_add, i32_sub, i32_mul, i32_lt, i32_le, i32_eq, kwa C (show ct 251 = some (1, 73) by decide)]
      rw [show csA c3 251 (Int.toNat 0) (i32 p) = c4 from hc4.symm]
      simp (disch := omega) only [kRl L4 (show (243, 8, 252) ∈ lyL by decide), xbs, i32_lit, i32_neg, i32_add, i32_sub, i32_mul, i32_lt, i32_le, i32_eq, kwa C (show ct 252 = some (1, 73) by decide)]
      rw [show csA c4 252 (Int.toNat 0) (i32 (T.length : Nat)) = c5 from hc5.symm]
      simp (disch := omega) only [ksI, xbs, i32_lit, i32_neg, i32_add, i32_sub, i32_mul, i32_lt, i32_le, i32_eq]
      rw [← hc6, g3]
    rcases v2 with ⟨w1, par, rt, dep', md', sg, w2, w3, w4⟩ | ⟨w1, w2⟩
    · obtain ⟨c8, x1, x2, x3⟩ := u_noc (h0 := h0) C hok w2 w4 w3
      have f8 := f7.tr x1
      refine ⟨c8, f8, ?_⟩
      rcases x3 with ⟨y1, tme, K, y2, y3⟩ | ⟨y1, y2⟩
      · refine Or.inl ⟨?_, ?_, par, rt, dep', md', sg, tme, K, w2, x2, w4, y2, y3⟩
        · rw [hall w1]
          simp (disch := omega) only [xb2s, y1, i32_lit, i32_neg, i32_add, i32_sub, i32_mul, i32_lt, i32_le, i32_eq, if_neg]
        · obtain ⟨φ, z1, z2, -⟩ := cls_sol hok w2 (show p < hp.length by omega) (show T.length < hp.length by omega) y2 y3
          exact huni.mpr ⟨φ, z1, z2⟩
      · refine Or.inr ⟨?_, fun hh => ?_⟩
        · rw [hall w1]
          simp (disch := omega) only [xb2s, y1, i32_lit, i32_neg, i32_add, i32_sub, i32_mul, i32_lt, i32_le, i32_eq, if_neg, if_true]
        · obtain ⟨φ, z1, z2⟩ := huni.mp hh
          exact y2 φ z1 z2
    · refine ⟨c7, f7, Or.inr ⟨?_, fun hh => ?_⟩⟩
      · rw [hall w1]
        simp (disch := omega) only [xb2s, i32_lit, i32_neg, i32_add, i32_sub, i32_mul, i32_lt, i32_le, i32_eq, if_true]
      · obtain ⟨φ, z1, z2⟩ := huni.mp hh
        exact w2 φ z1 z2
  by_cases hq : d < 100 ∧ e < 100 ∧ d ≠ e
  · refine ⟨c, fr.rf, Or.inr ⟨?_, ?_⟩⟩
    · unfold jf_X10_unifies
      simp (disch := omega) only [i32_lit, i32_neg, i32_add, i32_sub, i32_mul, i32_lt, i32_le, i32_eq]
      rw [q1, show i32 0 = i32 ((0 : Nat) : Int) from rfl, q2]
      simp (disch := omega) only [xbs, i32_lit, i32_neg, i32_add, i32_sub, i32_mul, i32_lt, i32_le, i32_eq, if_neg]
    · rw [hL1, hL2]
      exact uniS_head hq.1 hq.2.1 hq.2.2
  · obtain ⟨c', k1, k2⟩ := hmain
    have hred : jf_X10_unifies ty (cst N h0 c) (N + 243) (N + t) (i32 p) (N + u) = jf_X10_unifies_37 ty (N + 243) (N + t) (i32 p) (N + u) (cst N h0 c) := by
      unfold jf_X10_unifies
      simp (disch := omega) only [i32_lit, i32_neg, i32_add, i32_sub, i32_mul, i32_lt, i32_le, i32_eq]
      rw [q1, show i32 0 = i32 ((0 : Nat) : Int) from rfl, q2]
      simp (disch := omega) only [xbs, i32_lit, i32_neg, i32_add, i32_sub, i32_mul, i32_lt, i32_le, i32_eq]
      by_cases a1 : 100 ≤ d
      · rw [if_pos (by omega)]
      · rw [if_neg (by omega)]
        by_cases a2 : 100 ≤ e
        · rw [if_pos (by omega)]
        · rw [if_neg (by omega), if_pos (by omega)]
    rw [hred]
    exact ⟨c', k1, k2⟩
end UNIFIES

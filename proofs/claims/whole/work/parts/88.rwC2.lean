/-! rewriting: the class, whole -/
section RWC2
variable {ty : xTy} {N M : Nat} {hA hB h0 : xH} {mm mi : Nat → Nat} {c : CS} {I : Nat → Int32} {A : Nat → Nat → Int32} {J : Nat → Int64} {g : Sg} {b : Bk}
theorem BC_fr {c' : CS} {lo hi : Nat} {ar : Nat → Nat} {S : List Nat} {β : Bd} (h : BC c 264 ar S β) (f : fr lo hi c c') (hd : 266 ≤ lo) : BC c' 264 ar S β := by
  unfold BC at *
  rw [(f.1 (264 + 1) (by omega)).2]
  exact h
theorem k_rp25 (C : CH ty N) (hb : bwf b) {S U : List Nat} {u p r n : Nat} {f : Int32} {β : Bd} (hS : swf b S) (hp : p < S.length) (hUv : ∀ d ∈ U, vc b d) (hu : u + 3 ≤ 263) (hbd : ∀ d ∈ U, 100 ≤ d → ∃ s, β (d - 100) = some s) (hn : n ≤ 1000) : ∀ (k i : Nat) (c : CS) (D : List Nat), i + k = U.length → LY c → isT c (cR c 263 2) 60 (bar b) S → isT c (cR c 263 1) 60 (bar b) D → isT c u 12 (bar b) U → BC c 264 (bar b) S β → cI c 263 3 = i32 (n : Nat) → cI c 263 4 = f →
    ∃ m c', jf_X5_replace_25 ty m (N + 263) (i32 p) (N + u) (i32 (r : Nat)) (i32 1) (i32 i) (cst N h0 c) = some (bI (decide ((D ++ fil β (U.drop i) ++ S.drop (p + skipN (bar b) 1 (S.drop p))).length ≤ 60)), cst N h0 c') ∧ rpE c c' b S (D ++ fil β (U.drop i) ++ S.drop (p + skipN (bar b) 1 (S.drop p))) r n f := by
  have aS := swf_bd hb hS
  have hS60 := hS.2.1
  have hsk := skipN_le (ar := bar b) 1 (S.drop p)
  rw [List.length_drop] at hsk
  have n10 : ¬ (i32 1 = i32 0) := by decide
  intro k
  induction k with
  | zero =>
    intro i c D h1 hL iS iD iU hBC h3 h4
    have hw := hL.rw
    have hlu := ct_lt iU.1
    have hlw := ct_lt iS.1
    have hUl := iU.2.2.2.2.2.1
    have hDl := iD.2.2.2.2.2.1
    rw [show U.drop i = [] from List.drop_of_length_le (by omega), show fil β [] = [] from rfl, List.append_nil, List.length_append, List.length_drop]
    have hbh := t_behind (h0 := h0) C iS (fun d hd => (aS d hd).1) (p := p) (by omega)
    obtain ⟨c1, q1, q2, q3⟩ := k_aP (h0 := h0) C (t := cR c 263 1) (u := cR c 263 2) (a := p + skipN (bar b) 1 (S.drop p)) (e := S.length) (by omega) (by omega) (by omega) (by omega) (fun d hd => (aS d hd).2) iD iS
    have hL1 := hL.same q2.2.1 q2.2.2
    have hR1 : ∀ k, cR c1 263 k = cR c 263 k := fun k => by rw [q2.2.1]
    have i3 : cI c1 263 3 = i32 (n : Nat) := by rw [(q2.1 263 (by omega)).1]; exact h3
    have i4 : cI c1 263 4 = f := by rw [(q2.1 263 (by omega)).1]; exact h4
    have h54 : jf_X5_replace_25 ty 1 (N + 263) (i32 p) (N + u) (i32 (r : Nat)) (i32 1) (i32 i) (cst N h0 c) = if decide (D.length + (S.length - (p + skipN (bar b) 1 (S.drop p))) ≤ 60) = false then some (i32 0, cst N h0 c1) else jf_X5_replace_93 ty (N + 263) (i32 (r : Nat)) (i32 1) (cst N h0 c1) := by
      rw [jf_X5_replace_25_s]
      simp (disch := omega) only [kI hlu, iU.2.2.2.2.2.2.2.1, i32_lit, i32_neg, i32_add, i32_sub, i32_mul, i32_lt, i32_le, i32_eq, if_pos]
      unfold jf_X5_replace_54
      simp (disch := omega) only [i32_lit, eq_false n10, if_false, k_nx C hL, k_nw C hL, xbs, hbh, kI hlw, iS.2.2.2.2.2.2.2.1, q1, xb2s, bI_eq0]
      congr 1
    have hf1 : frR c c1 := frR.a q2 (by omega) (by omega)
    by_cases w : D.length + (S.length - (p + skipN (bar b) 1 (S.drop p))) ≤ 60
    · have iW := q3 w
      rw [← hR1 1] at iW
      obtain ⟨c', z1, z2, z3⟩ := k_rp93 (h0 := h0) (r := r) C hL1 hn iW i3 i4
      refine ⟨1, c', ?_, hf1.tr z2, fun _ => ?_, fun h => ?_⟩
      · rw [h54, decide_eq_true w, if_neg (by decide), z1]; rfl
      · rw [List.take_of_length_le (by rw [List.length_drop]; omega)] at z3
        exact z3
      · rw [List.length_append, List.length_drop] at h; omega
    · refine ⟨1, c1, ?_, hf1, fun h => ?_, fun _ => ⟨?_, i3, i4⟩⟩
      · rw [h54, decide_eq_false w, if_pos rfl]; rfl
      · rw [List.length_append, List.length_drop] at h; omega
      · rw [hR1]; exact iS.fr q2 (by omega)
  | succ k ih =>
    intro i c D h1 hL iS iD iU hBC h3 h4
    have hw := hL.rw
    have hlu := ct_lt iU.1
    have hUl := iU.2.2.2.2.2.1
    obtain ⟨d, hd⟩ := get_some (L := U) (i := i) (by omega)
    have hdm := List.mem_of_getElem? hd
    obtain ⟨c1, q1, q2, q3⟩ := k_aF (h0 := h0) C hb hL hS iS iD iU hu hd (hUv d hdm) hBC (hbd d hdm)
    have hfil : fil β (U.drop i) = sgm β d ++ fil β (U.drop (i + 1)) := by rw [drop_cons hd]; rfl
    have hL1 := hL.same q2.2.1 q2.2.2
    have hR1 : ∀ k, cR c1 263 k = cR c 263 k := fun k => by rw [q2.2.1]
    have i3 : cI c1 263 3 = i32 (n : Nat) := by rw [(q2.1 263 (by omega)).1]; exact h3
    have i4 : cI c1 263 4 = f := by rw [(q2.1 263 (by omega)).1]; exact h4
    have hf1 : frR c c1 := frR.a q2 (by omega) (by omega)
    have hhead : ∀ m, jf_X5_replace_25 ty (m + 1) (N + 263) (i32 p) (N + u) (i32 (r : Nat)) (i32 1) (i32 i) (cst N h0 c) = jf_X5_replace_25 ty m (N + 263) (i32 p) (N + u) (i32 (r : Nat)) (bI (decide (D.length + (sgm β d).length ≤ 60))) (i32 ((i + 1 : Nat) : Int)) (cst N h0 c1) := by
      intro m
      rw [jf_X5_replace_25_s]
      simp (disch := omega) only [kI hlu, iU.2.2.2.2.2.2.2.1, i32_lit, i32_le, if_neg, eq_false n10, if_false, q1, xb2s, i32_add]
      rw [show (i : Int) + 1 = ((i + 1 : Nat) : Int) by omega]
    rw [hfil]
    by_cases w : D.length + (sgm β d).length ≤ 60
    · have iD1 := q3 w
      rw [← hR1 1] at iD1
      obtain ⟨m, c', z1, z2⟩ := ih (i + 1) c1 (D ++ sgm β d) (by omega) hL1 (by rw [hR1]; exact iS.fr q2 (by omega)) iD1 (iU.fr q2 (by omega)) (BC_fr hBC q2 (by omega)) i3 i4
      rw [List.append_assoc D] at z1 z2
      refine ⟨m + 1, c', ?_, hf1.tr z2.1, z2.2⟩
      rw [hhead, decide_eq_true w]
      exact z1
    · have hW : 60 < (D ++ (sgm β d ++ fil β (U.drop (i + 1))) ++ S.drop (p + skipN (bar b) 1 (S.drop p))).length := by
        simp only [List.length_append]; omega
      refine ⟨2, c1, ?_, hf1, fun h => by omega, fun _ => ⟨by rw [hR1]; exact iS.fr q2 (by omega), i3, i4⟩⟩
      rw [hhead 1, decide_eq_false w, decide_eq_false (by omega), jf_X5_replace_25_s]
      unfold jf_X5_replace_54 jf_X5_replace_93
      have e0 : bI false = i32 0 := rfl
      simp only [e0, i32_lit, if_true]
      split <;> rfl
theorem k_rp (C : CH ty N) (hb : bwf b) {S U : List Nat} {u p r n : Nat} {f : Int32} {β : Bd} (hS : swf b S) (hp : p < S.length) (hUv : ∀ d ∈ U, vc b d) (hu : u + 3 ≤ 263) (hbd : ∀ d ∈ U, 100 ≤ d → ∃ s, β (d - 100) = some s) (hn : n ≤ 1000) (hL : LY c) (iS : isT c (cR c 263 2) 60 (bar b) S) (iU : isT c u 12 (bar b) U) (hBC : BC c 264 (bar b) S β) (h3 : cI c 263 3 = i32 (n : Nat)) (h4 : cI c 263 4 = f) :
    ∃ c', jf_X5_replace ty (cst N h0 c) (N + 263) (i32 p) (N + u) (i32 (r : Nat)) = some (bI (decide ((repl (bar b) S p U β).length ≤ 60)), cst N h0 c') ∧ rpE c c' b S (repl (bar b) S p U β) r n f := by
  have hw := hL.rw
  have aS := swf_bd hb hS
  have hS60 := hS.2.1
  obtain ⟨u1, u2, u3⟩ := ct_rw hw.2.1
  obtain ⟨c1, hc1⟩ : ∃ c1, c1 = csI c (cR c 263 1) 2 (i32 0) := ⟨_, rfl⟩
  have f1 : fr (cR c 263 1) (cR c 263 1 + 3) c c1 := by rw [hc1]; exact fr.I (by omega) (by omega)
  have hL1 := hL.same f1.2.1 f1.2.2
  have hcl := k_clear (h0 := h0) (c := c) C u1
  rw [← hc1] at hcl
  have hR1 : ∀ k, cR c1 263 k = cR c 263 k := fun k => by rw [f1.2.1]
  have iN : isT c1 (cR c 263 1) 60 (bar b) [] := isT_nil hL1 u1 u2 u3 (by omega) (by rw [hc1, sI_s])
  obtain ⟨c2, q1, q2, q3⟩ := k_aP (h0 := h0) C (t := cR c 263 1) (u := cR c 263 2) (a := 0) (e := p) (by omega) (by omega) (by omega) (by omega) (fun d hd => (aS d hd).2) iN (iS.fr f1 (by omega))
  have f12 := f1.tr q2
  have hL2 := hL.same f12.2.1 f12.2.2
  have hR2 : ∀ k, cR c2 263 k = cR c 263 k := fun k => by rw [f12.2.1]
  have iD := q3 (by simp; omega)
  rw [List.nil_append, List.drop_zero, Nat.sub_zero] at iD
  obtain ⟨m, c', z1, z2⟩ := k_rp25 (h0 := h0) (r := r) (f := f) C hb hS hp hUv hu hbd hn U.length 0 c2 (S.take p) (by omega) hL2 (by rw [hR2]; exact iS.fr f12 (by omega)) (by rw [hR2]; exact iD) (iU.fr f12 (by omega)) (BC_fr hBC f12 (by omega)) (by rw [(f12.1 263 (by omega)).1]; exact h3) (by rw [(f12.1 263 (by omega)).1]; exact h4)
  rw [List.drop_zero] at z1 z2
  refine ⟨c', ?_, (frR.a f12 (by omega) (by omega)).tr z2.1, z2.2⟩
  unfold jf_X5_replace
  have e1 := k_nx (h0 := h0) C hL1
  have e2 := k_nw (h0 := h0) C hL1
  rw [hR1] at e1 e2
  rw [k_nx C hL, xbs, hcl, xbs, e1, xbs, e2, xbs, show (0 : Int32) = i32 ((0 : Nat) : Int) from rfl, q1, xb2s, decide_eq_true (by simp; omega)]
  exact jf_X5_replace_25_l z1
def nxK (g : Sg) (S : List Nat) (k p : Nat) : Option (Nat × List Nat) := match stF g S k p with
  | none => none
  | some (p, r, β) => if (repl (bar (gb g)) S p (bU (gb g) r) β).length ≤ 60 then some (r, repl (bar (gb g)) S p (bU (gb g) r) β) else none
def msE (c' : CS) (b : Bk) (o : Option (Nat × List Nat)) (S : List Nat) (n : Nat) (f : Int) : Prop := match o with
  | none => isT c' (cR c' 263 2) 60 (bar b) S ∧ cI c' 263 3 = i32 (n : Nat) ∧ cI c' 263 4 = i32 f
  | some (r, S') => isT c' (cR c' 263 2) 60 (bar b) S' ∧ cI c' 263 3 = i32 ((n + 1 : Nat) : Int) ∧ cI c' 263 4 = i32 (if n = 0 then (r : Int) else f)
theorem k_ms2 (C : CH ty N) (hg : gwf g) {S : List Nat} {n : Nat} {f : Int} (hS : swf (gb g) S) (hn : n ≤ 1000) : ∀ (k p : Nat) (c : CS), p + k = S.length → CRep c g → isT c (cR c 263 2) 60 (bar (gb g)) S → cI c 263 3 = i32 (n : Nat) → cI c 263 4 = i32 f →
    ∃ m c', jf_X5_makeStep_2 ty m (N + 263) (N + cR c 0 2) (N + 232) (i32 p) (cst N h0 c) = some (bI (nxK g S k p).isSome, cst N h0 c') ∧ frR c c' ∧ msE c' (gb g) (nxK g S k p) S n f := by
  have h16 := hg.1.2.2.1
  have hS60 := hS.2.1
  intro k
  induction k with
  | zero =>
    intro p c h1 hc iS h3 h4
    have hlw := ct_lt iS.1
    refine ⟨1, c, ?_, frR.rf, iS, h3, h4⟩
    rw [jf_X5_makeStep_2_s]
    simp (disch := omega) only [k_nw C hc.1, xbs, kI hlw, iS.2.2.2.2.2.2.2.1, i32_lit, i32_neg, i32_add, i32_sub, i32_mul, i32_lt, i32_le, i32_eq, if_pos]
    rfl
  | succ k ih =>
    intro p c h1 hc iS h3 h4
    have hw := hc.1.rw
    have hlw := ct_lt iS.1
    obtain ⟨m1, c1, q1, q2, q3⟩ := k_rf3 (h0 := h0) C hg hS (show p < S.length by omega) (bnr (gb g)) 0 c (by omega) hc iS
    have q1' : jf_X5_ruleFor ty (cst N h0 c) (N + 263) (N + cR c 0 2) (N + 232) (i32 p) = _ := jf_X5_ruleFor_3_l q1
    have hf1 : frR c c1 := frR.a q2 (by omega) (by omega)
    have hc1 := crep_frR hg hc hf1
    have hR1 : cR c1 = cR c := q2.2.1
    have iS1 : isT c1 (cR c1 263 2) 60 (bar (gb g)) S := by rw [hR1]; exact iS.fr q2 (by omega)
    have i3 : cI c1 263 3 = i32 (n : Nat) := by rw [(q2.1 263 (by omega)).1]; exact h3
    have i4 : cI c1 263 4 = i32 f := by rw [(q2.1 263 (by omega)).1]; exact h4
    have hhead : ∀ m, jf_X5_makeStep_2 ty (m + 1) (N + 263) (N + cR c 0 2) (N + 232) (i32 p) (cst N h0 c) = if oI ((rfF g S p (bnr (gb g)) 0).map Prod.fst) (-1) = i32 (-1) then jf_X5_makeStep_2 ty m (N + 263) (N + cR c 0 2) (N + 232) (i32 ((p + 1 : Nat) : Int)) (cst N h0 c1) else (jf_X0_rightOf ty (cst N h0 c1) (N + cR c 0 2) (oI ((rfF g S p (bnr (gb g)) 0).map Prod.fst) (-1))).bind fun a6 => (xck ty a6 7).bind fun _ => xb2 (jf_X5_replace ty (cst N h0 c1) (N + 263) (i32 p) a6 (oI ((rfF g S p (bnr (gb g)) 0).map Prod.fst) (-1))) fun a9 h8 => (xz a9).bind fun w10 => some (w10, h8) := by
      intro m
      rw [jf_X5_makeStep_2_s]
      simp (disch := omega) only [k_nw C hc.1, xbs, kI hlw, iS.2.2.2.2.2.2.2.1, i32_lit, i32_neg, i32_le, if_neg, q1', xb2s, i32_add]
      rw [show (p : Int) + 1 = ((p + 1 : Nat) : Int) by omega]
    cases hrf : rfF g S p (bnr (gb g)) 0 with
    | none =>
      have e : nxK g S (k + 1) p = nxK g S k (p + 1) := by unfold nxK; simp only [stF, hrf]
      rw [e]
      obtain ⟨m, c', z1, z2, z3⟩ := ih (p + 1) c1 (by omega) hc1 iS1 i3 i4
      rw [hR1] at z1
      refine ⟨m + 1, c', ?_, hf1.tr z2, z3⟩
      have e1 : oI (Option.map Prod.fst (none : Option (Nat × Bd))) (-1) = i32 (-1) := rfl
      rw [hhead, hrf]
      simp only [e1, if_true]
      exact z1
    | some q =>
      obtain ⟨r, β⟩ := q
      obtain ⟨hr, hm⟩ := rfF_ok _ _ _ _ (Nat.zero_add _) hrf
      obtain ⟨-, hne, hmt⟩ := rfM_ok hm
      obtain ⟨t1, t2, t3, t4⟩ := hc1.tm hg hr
      have hUw : twf (gb g) (bU (gb g) r) ∧ ∀ d ∈ bU (gb g) r, 100 ≤ d → d ∈ bT (gb g) r := by
        rcases (hg.1.2.2.2.2 r hr).2 with h6 | h6
        · exact absurd h6 hne
        · exact h6
      obtain ⟨c', z1, z2, z3, z4⟩ := k_rp (h0 := h0) (r := r) (f := i32 f) C hg.1 hS (show p < S.length by omega) hUw.1.2.2 (by omega) (fun d hd h1 => (mt_ext _ _ _ _ hmt).2.1 d (hUw.2 d hd h1) h1) hn hc1.1 iS1 t2 (q3 r β hrf) i3 i4
      have e : nxK g S (k + 1) p = if (repl (bar (gb g)) S p (bU (gb g) r) β).length ≤ 60 then some (r, repl (bar (gb g)) S p (bU (gb g) r) β) else none := by unfold nxK; simp only [stF, hrf]
      refine ⟨1, c', ?_, hf1.tr z2, ?_⟩
      · rw [hhead 0, hrf]
        have e1 : oI (Option.map Prod.fst (some (r, β))) (-1) = i32 (r : Nat) := rfl
        have ne : ¬ i32 (r : Nat) = i32 (-1) := by rw [i32_eq (by omega) (by omega) (by omega) (by omega)]; omega
        rw [hR1] at z1 t2
        have e2 := k_rightOf (h0 := h0) (c := c1) C hc1.1 hc1.1.bk t4
        rw [hR1] at e2
        simp only [e1, eq_false ne, if_false, e2, xbs, kck C t2.1, z1, xb2s, xz_b]
        rw [e]
        by_cases w : (repl (bar (gb g)) S p (bU (gb g) r) β).length ≤ 60
        · rw [if_pos w, decide_eq_true w]; rfl
        · rw [if_neg w, decide_eq_false w]; rfl
      · rw [e]
        by_cases w : (repl (bar (gb g)) S p (bU (gb g) r) β).length ≤ 60
        · rw [if_pos w]
          obtain ⟨y1, y2, y3⟩ := z3 w
          refine ⟨y1, y2, ?_⟩
          rw [y3]
          split <;> rfl
        · rw [if_neg w]
          exact z4 (by omega)
theorem k_rw25 (C : CH ty N) (hg : gwf g) : ∀ (k t : Nat) (c : CS) (S : List Nat) (f : Int), t + k = 20 → CRep c g → swf (gb g) S → isT c (cR c 263 2) 60 (bar (gb g)) S → cI c 263 3 = i32 (t : Nat) → cI c 263 4 = i32 f →
    ∃ m c', jf_X5_rewrite_25 ty m (N + 263) (N + cR c 0 2) (N + 232) (i32 1) (i32 t) (cst N h0 c) = some (cst N h0 c') ∧ frR c c' ∧ isT c' (cR c' 263 2) 60 (bar (gb g)) (rwF g k S t f).1 ∧ cI c' 263 3 = i32 ((rwF g k S t f).2.1 : Nat) ∧ cI c' 263 4 = i32 (rwF g k S t f).2.2 := by
  have n10 : ¬ (i32 1 = i32 0) := by decide
  intro k
  induction k with
  | zero =>
    intro t c S f h1 hc hS iS h3 h4
    refine ⟨1, c, ?_, frR.rf, iS, h3, h4⟩
    rw [jf_X5_rewrite_25_s]
    simp (disch := omega) only [i32_lit, i32_neg, i32_add, i32_sub, i32_mul, i32_lt, i32_le, i32_eq, if_pos]
  | succ k ih =>
    intro t c S f h1 hc hS iS h3 h4
    obtain ⟨m1, c1, q1, q2, q3⟩ := k_ms2 (h0 := h0) C hg hS (show t ≤ 1000 by omega) S.length 0 c (by omega) hc iS h3 h4
    have q1' : jf_X5_makeStep ty (cst N h0 c) (N + 263) (N + cR c 0 2) (N + 232) = _ := jf_X5_makeStep_2_l q1
    rw [show nxK g S S.length 0 = nxR g S from rfl] at q1' q3
    have hc1 := crep_frR hg hc q2
    have hR0 : cR c1 0 2 = cR c 0 2 := by rw [q2.2.1 0 (by decide)]
    have hhead : ∀ m, jf_X5_rewrite_25 ty (m + 1) (N + 263) (N + cR c 0 2) (N + 232) (i32 1) (i32 t) (cst N h0 c) = jf_X5_rewrite_25 ty m (N + 263) (N + cR c 0 2) (N + 232) (bI (nxR g S).isSome) (i32 ((t + 1 : Nat) : Int)) (cst N h0 c1) := by
      intro m
      rw [jf_X5_rewrite_25_s]
      simp (disch := omega) only [i32_lit, i32_le, if_neg, eq_false n10, if_false, q1', xb2s, i32_add]
      rw [show (t : Int) + 1 = ((t + 1 : Nat) : Int) by omega]
    simp only [rwF]
    cases hx : nxR g S with
    | none =>
      rw [hx] at q3 hhead
      refine ⟨2, c1, ?_, q2, q3⟩
      rw [hhead 1, jf_X5_rewrite_25_s]
      have e0 : bI (none : Option (Nat × List Nat)).isSome = i32 0 := rfl
      simp only [e0, i32_lit, if_true]
      split <;> rfl
    | some y =>
      obtain ⟨r, S'⟩ := y
      rw [hx] at q3 hhead
      obtain ⟨y1, y2, y3⟩ := q3
      obtain ⟨m, c', z1, z2, z3⟩ := ih (t + 1) c1 S' (if t = 0 then (r : Int) else f) (by omega) hc1 (nxR_wf hg hS hx).1 y1 y2 y3
      rw [hR0] at z1
      refine ⟨m + 1, c', ?_, q2.tr z2, z3⟩
      rw [hhead m]
      exact z1
theorem k_rw (C : CH ty N) (hg : gwf g) (hq : twf (gb g) (gq g)) (hc : CRep c g) :
    ∃ c', jf_X5_rewrite ty (cst N h0 c) (N + 263) (N + cR c 0 2) (N + 232) (N + cR c 0 4) = some (cst N h0 c') ∧ CRep c' g ∧ isT c' (cR c' 263 2) 60 (bar (gb g)) (rwF g 20 (gq g) 0 (-2)).1 ∧ cI c' 263 3 = i32 ((rwF g 20 (gq g) 0 (-2)).2.1 : Nat) ∧ cI c' 263 4 = i32 (rwF g 20 (gq g) 0 (-2)).2.2 := by
  have hw := hc.1.rw
  have h4 := hc.1.as.1
  have hql := hq.2.1
  have aQ := hq.ar hg.1
  obtain ⟨u1, u2, u3⟩ := ct_rw hw.2.2.1
  obtain ⟨c1, hc1⟩ : ∃ c1, c1 = csI c (cR c 263 2) 2 (i32 0) := ⟨_, rfl⟩
  have f1 : fr (cR c 263 2) (cR c 263 2 + 3) c c1 := by rw [hc1]; exact fr.I (by omega) (by omega)
  have hcl := k_clear (h0 := h0) (c := c) C u1
  rw [← hc1] at hcl
  have hL1 := hc.1.same f1.2.1 f1.2.2
  have iN : isT c1 (cR c 263 2) 60 (bar (gb g)) [] := isT_nil hL1 u1 u2 u3 (by omega) (by rw [hc1, sI_s])
  have iQ1 := hc.2.2.1.fr f1 (by omega)
  have hlq := ct_lt iQ1.1
  obtain ⟨c2, q1, q2, q3⟩ := k_aP (h0 := h0) C (t := cR c 263 2) (u := cR c 0 4) (a := 0) (e := (gq g).length) (by omega) (by omega) (by omega) (by omega) (fun d hd => (aQ d hd).2) iN iQ1
  have f12 := f1.tr q2
  have iD := q3 (by simp; omega)
  rw [List.nil_append, List.drop_zero, Nat.sub_zero, List.take_of_length_le (Nat.le_refl _)] at iD
  obtain ⟨c3, hc3⟩ : ∃ c3, c3 = csI c2 263 3 (i32 0) := ⟨_, rfl⟩
  obtain ⟨c4, hc4⟩ : ∃ c4, c4 = csI c3 263 4 (i32 (-2)) := ⟨_, rfl⟩
  have f3 : fr 263 264 c2 c3 := by rw [hc3]; exact fr.I (by omega) (by omega)
  have f4 : fr 263 264 c3 c4 := by rw [hc4]; exact fr.I (by omega) (by omega)
  have f34 := f3.tr f4
  have fR : frR c c4 := (frR.a f12 (by omega) (by omega)).tr (frR.a f34 (by omega) (by omega))
  have hcc4 := crep_frR hg hc fR
  have hR4 : cR c4 = cR c := f34.2.1.trans f12.2.1
  obtain ⟨m, c', z1, z2, z3⟩ := k_rw25 (h0 := h0) C hg 20 0 c4 (gq g) (-2) (by omega) hcc4 ⟨hq.1, by omega, hq.2.2⟩ (by rw [hR4]; exact iD.fr f34 (by omega)) (by rw [hc4, sI_o (by omega), hc3, sI_s]; rfl) (by rw [hc4, sI_s])
  rw [hR4] at z1
  refine ⟨c', ?_, crep_frR hg hcc4 z2, z3⟩
  unfold jf_X5_rewrite jf_X7_copyOf
  rw [k_nw C hc.1, xbs, hcl, xbs, kI hlq, iQ1.2.2.2.2.2.2.2.1, show (0 : Int32) = i32 ((0 : Nat) : Int) from rfl, q1, xb2s, xbs]
  simp (disch := omega) only [ksI, xbs, i32_lit, i32_neg]
  rw [show i32 ((0 : Nat) : Int) = i32 0 from rfl, ← hc3, ← hc4]
  exact jf_X5_rewrite_25_l z1
end RWC2

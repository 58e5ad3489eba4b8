/-! rewriting: the class -/
section RWC
variable {ty : xTy} {N M : Nat} {hA hB h0 : xH} {mm mi : Nat → Nat} {c : CS} {I : Nat → Int32} {A : Nat → Nat → Int32} {J : Nat → Int64} {g : Sg} {b : Bk} {ar : Nat → Nat}
/-- only the rewriter has changed -/
def frR (c c' : CS) : Prop := (∀ q, (q < 263 ∨ 272 ≤ q) → cI c' q = cI c q ∧ cA c' q = cA c q) ∧ (∀ q, q ≠ 263 → cR c' q = cR c q) ∧ cP c' = cP c ∧ (LY c → LY c')
theorem frR.rf {c : CS} : frR c c := ⟨fun _ _ => ⟨rfl, rfl⟩, fun _ _ => rfl, rfl, fun h => h⟩
theorem frR.tr {c d e : CS} (h1 : frR c d) (h2 : frR d e) : frR c e := ⟨fun q hq => ⟨((h2.1 q hq).1).trans (h1.1 q hq).1, ((h2.1 q hq).2).trans (h1.1 q hq).2⟩, fun q hq => (h2.2.1 q hq).trans (h1.2.1 q hq), h2.2.2.1.trans h1.2.2.1, fun h => h2.2.2.2 (h1.2.2.2 h)⟩
theorem frR.a {c c' : CS} {lo hi : Nat} (h : fr lo hi c c') (h1 : 263 ≤ lo) (h2 : hi ≤ 272) : frR c c' := ⟨fun q hq => h.1 q (by omega), fun q _ => by rw [h.2.1], h.2.2, fun hl => hl.same h.2.1 h.2.2⟩
theorem crep_frR {c' : CS} (hg : gwf g) (h : CRep c g) (f : frR c c') : CRep c' g := by
  obtain ⟨h1, h2, h3, h4, h5, h6, h7⟩ := h
  have hB := h1.bk
  obtain ⟨a1, a2, a3⟩ := h1.as
  have eR := f.2.1 0 (by decide)
  have eR2 : ∀ k, cR c' 0 k = cR c 0 k := fun k => by rw [eR]
  refine ⟨f.2.2.2 h1, ?_, ?_, ?_, ?_, ?_, ?_⟩
  · rw [eR2]
    exact h2.keep hg.1.2.2.1 (fun q q1 q2 => ⟨(f.1 q (by omega)).1, (f.1 q (by omega)).2, f.2.1 q (by omega)⟩)
  · rw [eR2]
    exact h3.keep (f.1 _ (by omega)).1 (f.1 _ (by omega)).2 (f.1 _ (by omega)).2 (f.2.1 _ (by omega))
  · unfold CSt at *
    rw [(f.1 232 (by omega)).1, (f.1 233 (by omega)).2]
    exact h4
  · unfold CTr at *
    rw [(f.1 234 (by omega)).1, (f.1 235 (by omega)).2, (f.1 237 (by omega)).2, f.2.2.1, eR2]
    exact h5
  · rw [(f.1 0 (by omega)).1, (f.1 1 (by omega)).2]
    exact h6
  · rw [(f.1 226 (by omega)).1]
    exact h7
theorem LY.rw (h : LY c) : cR c 263 0 = 264 ∧ (cR c 263 1 = 266 ∨ cR c 263 1 = 269) ∧ (cR c 263 2 = 266 ∨ cR c 263 2 = 269) ∧ cR c 263 1 ≠ cR c 263 2 := by
  refine ⟨h.1 _ (show (263, 0, 264) ∈ lyL by decide), ?_⟩
  rcases h.2.2.2.2.2 with h | h <;> simp [h.1, h.2]
theorem ct_rw {u : Nat} (h : u = 266 ∨ u = 269) : ct u = some (0, 7) ∧ ct (u + 1) = some (1, 60) ∧ ct (u + 2) = some (1, 60) := by rcases h with rfl | rfl <;> decide
theorem k_nw (C : CH ty N) (h : LY c) : xgo ty (cst N h0 c) (N + 263) 2 7 = some (N + cR c 263 2) := kgo C (by omega) (ct_rw h.rw.2.2.1).1
theorem k_nx (C : CH ty N) (h : LY c) : xgo ty (cst N h0 c) (N + 263) 1 7 = some (N + cR c 263 1) := kgo C (by omega) (ct_rw h.rw.2.1).1
theorem k_mr (C : CH ty N) (h : LY c) : xgo ty (cst N h0 c) (N + 263) 0 3 = some (N + 264) := k_sub C h (show (263, 0, 264) ∈ lyL by decide) (by omega) (show ct 264 = some (0, 3) by decide)
theorem LY.m2 {c : CS} (h : LY c) : isM c 264 := ⟨by decide, by decide, h.1 (264, 0, 265) (by decide)⟩
theorem swf_bd {S : List Nat} (hb : bwf b) (h : swf b S) : ∀ d ∈ S, bar b d ≤ 3 ∧ d < 1000 := fun d hd => ⟨bar_le hb d, by have := vc_lt hb (h.2.2 d hd); omega⟩
theorem k_rf3 (C : CH ty N) (hg : gwf g) {S : List Nat} (hS : swf (gb g) S) {p : Nat} (hp : p < S.length) : ∀ (k r : Nat) (c : CS), r + k = bnr (gb g) → CRep c g → isT c (cR c 263 2) 60 (bar (gb g)) S →
    ∃ n c', jf_X5_ruleFor_3 ty n (N + 263) (N + cR c 0 2) (N + 232) (i32 p) (i32 r) (cst N h0 c) = some (oI ((rfF g S p k r).map Prod.fst) (-1), cst N h0 c') ∧ fr 264 266 c c' ∧ ∀ r' β, rfF g S p k r = some (r', β) → BC c' 264 (bar (gb g)) S β := by
  have h16 := hg.1.2.2.1
  have aS := swf_bd hg.1 hS
  intro k
  induction k with
  | zero =>
    intro r c h1 hc iS
    refine ⟨1, c, ?_, fr.rf, fun r' β h => by cases h⟩
    rw [jf_X5_ruleFor_3_s]
    simp (disch := omega) only [k_bn hc, i32_lit, i32_neg, i32_add, i32_sub, i32_mul, i32_lt, i32_le, i32_eq, if_pos]
    rfl
  | succ k ih =>
    intro r c h1 hc iS
    have hr : r < bnr (gb g) := by omega
    obtain ⟨t1, t2, t3, t4⟩ := hc.tm hg hr
    have hlu := ct_lt t2.1
    have hw := hc.1.rw
    have hUl : (bU (gb g) r).length ≤ 12 := t2.2.2.2.2.2.1
    have hskip : rfM g S p r = none → (inR (gin g) r = false ∨ bU (gb g) r = []) → ∃ n c', jf_X5_ruleFor_3 ty n (N + 263) (N + cR c 0 2) (N + 232) (i32 p) (i32 r) (cst N h0 c) = some (oI ((rfF g S p (k + 1) r).map Prod.fst) (-1), cst N h0 c') ∧ fr 264 266 c c' ∧ ∀ r' β, rfF g S p (k + 1) r = some (r', β) → BC c' 264 (bar (gb g)) S β := by
      intro hm hor
      obtain ⟨n, c', q1, q2, q3⟩ := ih (r + 1) c (by omega) hc iS
      have e : rfF g S p (k + 1) r = rfF g S p k (r + 1) := by simp only [rfF, hm]
      rw [e]
      refine ⟨n + 1, c', ?_, q2, q3⟩
      rw [jf_X5_ruleFor_3_s, ← q1]
      simp (disch := omega) only [k_bn hc, i32_lit, i32_neg, i32_add, i32_sub, i32_mul, i32_lt, i32_le, i32_eq, if_neg, k_isIn hg.z hc.2.2.2.1 t4, xbs, bI_eq0, k_rightOf C hc.1 hc.1.bk t4, kck C t2.1, kI hlu, t2.2.2.2.2.2.2.2.1]
      rw [show (r : Int) + 1 = ((r + 1 : Nat) : Int) by omega]
      cases hin : inR (gin g) r with
      | false => simp only [if_true]
      | true =>
        rcases hor with h | h
        · rw [h] at hin; cases hin
        · simp only [Bool.true_eq_false, if_false]
          have : (((bU (gb g) r).length : Nat) : Int) ≤ 0 := by rw [h]; decide
          simp only [eq_true this, if_true]
    cases hin : inR (gin g) r with
    | false =>
      refine hskip ?_ (Or.inl hin)
      unfold rfM
      rw [hin]; rfl
    | true =>
    cases hue : (bU (gb g) r).isEmpty with
    | true =>
      refine hskip ?_ (Or.inr (List.isEmpty_iff.mp hue))
      unfold rfM
      rw [hue, Bool.not_true, Bool.and_false]; rfl
    | false =>
      have hmM : rfM g S p r = mt (bar (gb g)) (bT (gb g) r) (S.drop p) b00 := by unfold rfM; rw [hin, hue]; rfl
      have hUp : 1 ≤ (bU (gb g) r).length := by
        cases hx : bU (gb g) r with
        | nil => rw [hx] at hue; cases hue
        | cons x X => simp
      obtain ⟨z, hz⟩ := tms_dr hS.1 hp
      have lT := hg.lo hr
      obtain ⟨c1, m1, m2, m3⟩ := m_matches (h0 := h0) C hc.1.m2 t1 iS ⟨by omega, by omega⟩ (fun d hd => (lT.cl hg.1 d hd).2) aS (bar_z (gb g)) (a := p) (o := z) lT.1 hz (by omega)
      have hf1 : frR c c1 := frR.a m2 (by omega) (by omega)
      have hc1 := crep_frR hg hc hf1
      have hR1 : cR c1 = cR c := m2.2.1
      have hhead : ∀ n, jf_X5_ruleFor_3 ty (n + 1) (N + 263) (N + cR c 0 2) (N + 232) (i32 p) (i32 r) (cst N h0 c) = if (rfM g S p r).isSome = false then jf_X5_ruleFor_3 ty n (N + 263) (N + cR c 0 2) (N + 232) (i32 p) (i32 ((r + 1 : Nat) : Int)) (cst N h0 c1) else some (i32 (r : Nat), cst N h0 c1) := by
        intro n
        rw [hmM, jf_X5_ruleFor_3_s]
        have hne : ¬ (((bU (gb g) r).length : Nat) : Int) ≤ 0 := by omega
        simp (disch := omega) only [k_bn hc, i32_lit, i32_neg, i32_add, i32_sub, i32_mul, i32_lt, i32_le, i32_eq, if_neg, k_isIn hg.z hc.2.2.2.1 t4, xbs, bI_eq0, k_rightOf C hc.1 hc.1.bk t4, kck C t2.1, kI hlu, t2.2.2.2.2.2.2.2.1, hin, Bool.true_eq_false, if_false, eq_false hne, k_mr C hc.1, k_termOf C hc.1 hc.1.bk t4, kck C t1.1, k_nw C hc.1, m1, xb2s]
        rw [show (r : Int) + 1 = ((r + 1 : Nat) : Int) by omega]
      cases hm : rfM g S p r with
      | none =>
        have e : rfF g S p (k + 1) r = rfF g S p k (r + 1) := by simp only [rfF, hm]
        obtain ⟨n, c', q1, q2, q3⟩ := ih (r + 1) c1 (by omega) hc1 (by rw [hR1]; exact iS.fr m2 (by omega))
        rw [e]
        rw [hR1] at q1
        refine ⟨n + 1, c', ?_, m2.tr q2, q3⟩
        rw [hhead, hm]
        exact q1
      | some β =>
        have e : rfF g S p (k + 1) r = some (r, β) := by simp only [rfF, hm]
        rw [e]
        refine ⟨1, c1, ?_, m2, fun r' β' h => ?_⟩
        · rw [hhead 0, hm]
          rfl
        · simp only [Option.some.injEq, Prod.mk.injEq] at h
          obtain ⟨rfl, rfl⟩ := h
          exact m3 β (by rw [← hmM]; exact hm)
/-- the segment that a code of a right term brings -/
def sgm (β : Bd) (d : Nat) : List Nat := if 100 ≤ d then (β (d - 100)).getD [] else [d]
theorem k_aF (C : CH ty N) (hb : bwf b) (hL : LY c) {S U D : List Nat} {u i d : Nat} {β : Bd} (hS : swf b S) (iS : isT c (cR c 263 2) 60 (bar b) S) (iD : isT c (cR c 263 1) 60 (bar b) D) (iU : isT c u 12 (bar b) U) (hu : u + 3 ≤ 263) (hd : U[i]? = some d) (hdv : vc b d) (hBC : BC c 264 (bar b) S β) (hbd : 100 ≤ d → ∃ s, β (d - 100) = some s) :
    ∃ c', jf_X5_addFilled ty (cst N h0 c) (N + 263) (N + u) (i32 i) = some (bI (decide (D.length + (sgm β d).length ≤ 60)), cst N h0 c') ∧ fr (cR c 263 1) (cR c 263 1 + 3) c c' ∧ (D.length + (sgm β d).length ≤ 60 → isT c' (cR c 263 1) 60 (bar b) (D ++ sgm β d)) := by
  have hw := hL.rw
  have aS := swf_bd hb hS
  have hil : i < U.length := (List.getElem?_eq_some_iff.mp hd).1
  have hUl := iU.2.2.2.2.2.1
  have hd4 := vc_lt hb hdv
  have hDl := iD.2.2.2.2.2.1
  have cU : jf_X7_codeAt ty (cst N h0 c) (N + u) (i32 i) = some (i32 (d : Nat)) := by
    rw [t_codeAt C iU (by omega) (by omega), Int.toNat_natCast, hd]; rfl
  have aU : jf_X7_arityAt ty (cst N h0 c) (N + u) (i32 i) = some (i32 (bar b d : Nat)) := by
    rw [t_arityAt C iU (by omega) (by omega), Int.toNat_natCast, hd]; rfl
  unfold jf_X5_addFilled sgm
  by_cases w : 100 ≤ d
  · obtain ⟨s, hs⟩ := hbd w
    obtain ⟨p, o, p1, p2, p3, p4⟩ := (hBC (d - 100) (by omega)).2 s hs
    rw [if_pos w, hs, Option.getD_some]
    have hst : jf_X3_startOf ty (cst N h0 c) (N + 264) (i32 (d : Nat) - i32 100) = some (i32 (p : Nat)) := by
      rw [i32_sub, show (d : Int) - 100 = ((d - 100 : Nat) : Int) by omega]
      unfold jf_X3_startOf
      simp (disch := omega) only [i32_lit, i32_neg, i32_add, i32_sub, i32_mul, i32_lt, i32_le, i32_eq, if_neg, kR, hL.1 (264, 0, 265) (by decide), xbs, kga C (show ct 265 = some (1, 12) by decide), Int.toNat_natCast, p1]
    have hbh := t_behind (h0 := h0) C iS (fun d hd => (aS d hd).1) (p := p) (by omega)
    obtain ⟨-, -, -, f3, f4, -⟩ := fst1_split p3
    rw [List.length_drop] at f4
    obtain ⟨c', q1, q2, q3⟩ := k_aP (h0 := h0) C (t := cR c 263 1) (u := cR c 263 2) (a := p) (e := p + skipN (bar b) 1 (S.drop p)) (by omega) (by omega) (by omega) (by omega) (fun d hd => (aS d hd).2) iD iS
    have hsl : p + skipN (bar b) 1 (S.drop p) - p = s.length := by rw [p4, f3]; omega
    rw [hsl] at q1 q3
    have hss : (S.drop p).take s.length = s := by rw [p4, f3]; rfl
    rw [hss] at q3
    have hS60 := hS.2.1
    refine ⟨c', ?_, q2, q3⟩
    have w' : (100 : Int) ≤ (d : Int) := by omega
    simp (disch := omega) only [cU, xbs, i32_lit, i32_le, eq_true w', if_true, k_mr C hL, hst, i32_lt, if_neg, k_nx C hL, k_nw C hL, hbh, q1, xb2s, bI_eq0]
    cases decide (D.length + s.length ≤ 60) with
    | false => rfl
    | true => rfl
  · rw [if_neg w]
    have w' : ¬ (100 : Int) ≤ (d : Int) := by omega
    rw [List.length_singleton]
    rcases Nat.lt_or_ge D.length 60 with hl | hl
    · obtain ⟨c', q1, q2, q3⟩ := t_add (h0 := h0) C iD hl d
      refine ⟨c', ?_, q3, fun _ => q2⟩
      simp (disch := omega) only [cU, xbs, i32_lit, i32_le, eq_false w', if_false, k_nx C hL, aU, q1, xb2s, xz1]
      rw [decide_eq_true (by omega)]; rfl
    · have hq := t_full (h0 := h0) C iD (by omega) (i32 (d : Nat)) (i32 (bar b d : Nat))
      refine ⟨c, ?_, fr.rf, fun h => by omega⟩
      simp (disch := omega) only [cU, xbs, i32_lit, i32_le, eq_false w', if_false, k_nx C hL, aU, hq, xb2s, xz0]
      rw [decide_eq_false (by omega)]; rfl
/-- after a try to replace: what stands -/
def rpE (c c' : CS) (b : Bk) (S W : List Nat) (r n : Nat) (f : Int32) : Prop := frR c c' ∧ (W.length ≤ 60 → isT c' (cR c' 263 2) 60 (bar b) W ∧ cI c' 263 3 = i32 ((n + 1 : Nat) : Int) ∧ cI c' 263 4 = if n = 0 then i32 (r : Nat) else f) ∧ (60 < W.length → isT c' (cR c' 263 2) 60 (bar b) S ∧ cI c' 263 3 = i32 (n : Nat) ∧ cI c' 263 4 = f)
def swpR (c : CS) : CS := csR (csR c 263 2 (cR c 263 1)) 263 1 (cR c 263 2)
theorem swpR_o (c : CS) {q k : Nat} (h : q ≠ 263 ∨ (k ≠ 1 ∧ k ≠ 2)) : cR (swpR c) q k = cR c q k := by
  unfold swpR
  rw [cR_R, fu2_ne _ _ (by omega), cR_R, fu2_ne _ _ (by omega)]
theorem swpR_1 (c : CS) : cR (swpR c) 263 1 = cR c 263 2 ∧ cR (swpR c) 263 2 = cR c 263 1 := by
  unfold swpR
  constructor
  · rw [cR_R, fu2_same]
  · rw [cR_R, fu2_ne _ _ (by omega), cR_R, fu2_same]
theorem lyL_263 : ∀ e ∈ lyL, e.1 ≠ 263 ∨ (e.2.1 ≠ 1 ∧ e.2.1 ≠ 2) := by decide
theorem swpR_fr (c : CS) : frR c (swpR c) := by
  refine ⟨fun q _ => ⟨rfl, rfl⟩, fun q hq => funext (fun k => swpR_o c (Or.inl hq)), rfl, fun h => ?_⟩
  obtain ⟨h1, h2, h3, h4, h5, h6⟩ := h
  refine ⟨fun e he => ?_, fun t ht => ?_, h3, ?_, ?_, ?_⟩
  · rw [swpR_o c (lyL_263 e he)]; exact h1 e he
  · have ht0 : t ≠ 263 := fun z => by rw [z] at ht; exact absurd ht (by decide)
    rw [swpR_o c (Or.inl ht0), swpR_o c (Or.inl ht0)]; exact h2 t ht
  · rw [swpR_o c (by omega), swpR_o c (by omega)]; exact h4
  · rw [swpR_o c (by omega), swpR_o c (by omega)]; exact h5
  · rw [(swpR_1 c).1, (swpR_1 c).2]
    rcases h6 with h | h
    · exact Or.inr ⟨h.2, h.1⟩
    · exact Or.inl ⟨h.2, h.1⟩
/-- the end of a replacement that has room -/
theorem k_rp93 (C : CH ty N) (hL : LY c) {W : List Nat} {r n : Nat} {f : Int32} (hn : n ≤ 1000) (iW : isT c (cR c 263 1) 60 (bar b) W) (h3 : cI c 263 3 = i32 (n : Nat)) (h4 : cI c 263 4 = f) :
    ∃ c', jf_X5_replace_93 ty (N + 263) (i32 (r : Nat)) (i32 1) (cst N h0 c) = some (i32 1, cst N h0 c') ∧ frR c c' ∧ isT c' (cR c' 263 2) 60 (bar b) W ∧ cI c' 263 3 = i32 ((n + 1 : Nat) : Int) ∧ cI c' 263 4 = if n = 0 then i32 (r : Nat) else f := by
  have hw := hL.rw
  have n10 : ¬ (i32 1 = i32 0) := by decide
  have i3 : cI (swpR c) 263 3 = i32 (n : Nat) := h3
  have i4 : cI (swpR c) 263 4 = f := h4
  have fs := swpR_fr c
  have iW2 : isT (swpR c) (cR (swpR c) 263 2) 60 (bar b) W := by
    rw [(swpR_1 c).2]
    exact iW.keep rfl rfl rfl (fs.2.1 _ (by omega))
  by_cases w : n = 0
  · obtain ⟨c1, hc1⟩ : ∃ c1, c1 = csI (swpR c) 263 4 (i32 (r : Nat)) := ⟨_, rfl⟩
    obtain ⟨c2, hc2⟩ : ∃ c2, c2 = csI c1 263 3 (i32 ((n + 1 : Nat) : Int)) := ⟨_, rfl⟩
    have f1 : fr 263 264 (swpR c) c1 := by rw [hc1]; exact fr.I (by omega) (by omega)
    have f2 : fr 263 264 c1 c2 := by rw [hc2]; exact fr.I (by omega) (by omega)
    have f12 := f1.tr f2
    have i13 : cI c1 263 3 = i32 (n : Nat) := by rw [hc1, sI_o (by omega)]; exact i3
    refine ⟨c2, ?_, fs.tr (frR.a f12 (by omega) (by omega)), ?_, by rw [hc2, sI_s], by rw [if_pos w, hc2, sI_o (by omega), hc1, sI_s]⟩
    · unfold jf_X5_replace_93
      simp (disch := omega) only [i32_lit, eq_false n10, if_false, k_nw C hL, k_nx C hL, xbs, ksR]
      rw [show csR (csR c 263 2 (cR c 263 1)) 263 1 (cR c 263 2) = swpR c from rfl]
      simp (disch := omega) only [kI, i3, i32_eq]
      have w' : (n : Int) = 0 := by omega
      simp (disch := omega) only [eq_true w', if_true, ksI, xbs]
      rw [← hc1]
      simp (disch := omega) only [kI, i13, i32_add, ksI]
      rw [show (n : Int) + 1 = ((n + 1 : Nat) : Int) by omega, ← hc2]
    · rw [f12.2.1]
      exact iW2.fr f12 (by rw [(swpR_1 c).2]; omega)
  · obtain ⟨c2, hc2⟩ : ∃ c2, c2 = csI (swpR c) 263 3 (i32 ((n + 1 : Nat) : Int)) := ⟨_, rfl⟩
    have f12 : fr 263 264 (swpR c) c2 := by rw [hc2]; exact fr.I (by omega) (by omega)
    refine ⟨c2, ?_, fs.tr (frR.a f12 (by omega) (by omega)), ?_, by rw [hc2, sI_s], by rw [if_neg w, hc2, sI_o (by omega)]; exact i4⟩
    · unfold jf_X5_replace_93
      simp (disch := omega) only [i32_lit, eq_false n10, if_false, k_nw C hL, k_nx C hL, xbs, ksR]
      rw [show csR (csR c 263 2 (cR c 263 1)) 263 1 (cR c 263 2) = swpR c from rfl]
      simp (disch := omega) only [kI, i3, i32_eq]
      have w' : ¬ (n : Int) = 0 := by omega
      simp (disch := omega) only [eq_false w', if_false, i32_add, ksI, xbs]
      rw [show (n : Int) + 1 = ((n + 1 : Nat) : Int) by omega, ← hc2]
    · rw [f12.2.1]
      exact iW2.fr f12 (by rw [(swpR_1 c).2]; omega)
end RWC

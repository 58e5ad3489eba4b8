/-! steps, normal -/
section RWR2
variable {ty : xTy} {N M : Nat} {hA hB h0 : xH} {mm mi : Nat → Nat} {c : CS} {I : Nat → Int32} {A : Nat → Nat → Int32} {J : Nat → Int64} {g : Sg} {b : Bk}
theorem r_7 (H : MH ty M mm mi h0) {S : List Nat} {r p : Nat} (lS : S.length ≤ 60) (hp : p < S.length) : ∀ (k i : Nat) (I : Nat → Int32) (A : Nat → Nat → Int32), i + k = p → I 53 = i32 (i : Nat) → seg (A 48) 0 S → seg (A 52) 0 (S.take i) →
    ∃ I' A', jf_X12_isReplaced_7 ty (k + 1) M (i32 (r : Nat)) (i32 (p : Nat)) (i32 (i : Nat)) (rst mm mi h0 M I A J) = (xlim fun n45 => jf_X12_isReplaced_45 ty n45 M (i32 (r : Nat)) (i32 (p : Nat)) (i32 0) (rst mm mi h0 M I' A' J)) ∧ (∀ k, k ≠ 53 → I' k = I k) ∧ I' 53 = i32 (p : Nat) ∧ but 52 A A' ∧ seg (A' 52) 0 (S.take p) := by
  intro k
  induction k with
  | zero =>
    intro i I A h1 h53 h48 h52
    have e : i = p := by omega
    subst e
    refine ⟨I, A, ?_, fun _ _ => rfl, h53, but.rf, h52⟩
    rw [jf_X12_isReplaced_7_s]
    simp (disch := omega) only [i32_lit, i32_neg, i32_add, i32_sub, i32_mul, i32_lt, i32_le, i32_eq, if_pos]
  | succ k ih =>
    intro i I A h1 h53 h48 h52
    obtain ⟨d, hd⟩ := get_some (L := S) (i := i) (by omega)
    have e48 : A 48 i = i32 (d : Nat) := by
      have := h48 i d hd
      rw [Nat.zero_add] at this
      exact this
    obtain ⟨A1, hA1⟩ : ∃ A1, A1 = fu2 A 52 i (i32 (d : Nat)) := ⟨_, rfl⟩
    obtain ⟨I1, hI1⟩ : ∃ I1, I1 = fu I 53 (i32 ((i + 1 : Nat) : Int)) := ⟨_, rfl⟩
    have hlt : (S.take i).length = i := by rw [List.length_take]; omega
    obtain ⟨I', A', q1, q2, q3, q4, q5⟩ := ih (i + 1) I1 A1 (by omega) (by rw [hI1, fu_same]) (by rw [hA1, fu2_row _ _ (by decide)]; exact h48) (by
      rw [List.take_add_one, hd, hA1]
      exact seg_snoc (seg_fu2 h52 (by omega)) (by rw [Nat.zero_add, hlt, fu2_same]))
    refine ⟨I', A', ?_, fun k hk => by rw [q2 k hk, hI1, fu_ne _ _ hk], q3, but.tr (by rw [hA1]; exact but.fu) q4, q5⟩
    rw [jf_X12_isReplaced_7_s, ← q1]
    simp (disch := omega) only [i32_lit, i32_neg, i32_add, i32_sub, i32_mul, i32_lt, i32_le, i32_eq, if_neg, rr_52 H, rr_48 H, ga_48 H, xbs, Int.toNat_natCast, e48, rI, h53, wa_52 H, rsI]
    rw [← hA1, show (i : Int) + 1 = ((i + 1 : Nat) : Int) by omega, ← hI1]
theorem r_rep (H : MH ty M mm mi h0) (hg : gwf g) {S : List Nat} {r p : Nat} {β β' : Bd} (hS : swf (gb g) S) (hp : p < S.length) (hrr : r < bnr (gb g)) (hbd : ∀ d ∈ bU (gb g) r, 100 ≤ d → ∃ s, β (d - 100) = some s) (hUv : ∀ d ∈ bU (gb g) r, vc (gb g) d) (hUl : (bU (gb g) r).length ≤ 12) (hSB : SB 4 0 β β') (hR : RB I A (gb g)) (hH : HS A (bar (gb g)) S (bT (gb g) r)) (hB : BR A (bar (gb g)) β') (h49 : I 49 = i32 S.length) (h48 : seg (A 48) 0 S) :
    ∃ I' A', jf_X12_isReplaced ty (rst mm mi h0 M I A J) M (i32 (r : Nat)) (i32 (p : Nat)) = some (bI (decide ((repl (bar (gb g)) S p (bU (gb g) r) β).length ≤ 60)), rst mm mi h0 M I' A' J) ∧ rpM I I' A A' (repl (bar (gb g)) S p (bU (gb g) r) β) := by
  have lS := hS.2.1
  obtain ⟨I1, hI1⟩ : ∃ I1, I1 = fu I 53 (i32 0) := ⟨_, rfl⟩
  obtain ⟨I2, A2, q1, q2, q3, q4, q5⟩ := r_7 (J := J) (r := r) H lS hp p 0 I1 A (by omega) (by rw [hI1, fu_same]; rfl) h48 (seg_nil _ _)
  have k1 : ∀ k, k ≠ 53 → I2 k = I k := fun k hk => by rw [q2 k hk, hI1, fu_ne _ _ hk]
  have hR2 : RB I2 A2 (gb g) := hR.keep (fun k hk => k1 k (fun z => by subst z; revert hk; decide)) (fun k hk => q4 k (fun z => by subst z; revert hk; decide))
  have hH2 : HS A2 (bar (gb g)) S (bT (gb g) r) := by
    obtain ⟨g1, g2⟩ := hH
    refine ⟨by rw [q4 32 (by decide)]; exact g1, ?_⟩
    unfold arR at *
    rw [q4 19 (by decide)]
    exact g2
  have hB2 : BR A2 (bar (gb g)) β' := by
    unfold BR arR at *
    rw [q4 34 (by decide), q4 32 (by decide), q4 19 (by decide)]
    exact hB
  have hlt : (S.take p).length = p := by rw [List.length_take]; omega
  obtain ⟨m, I', A', z1, z2, z3, z4, z5⟩ := r_45 (J := J) H hg hS hp hrr hbd hUv hUl hSB (bU (gb g) r).length 0 I2 A2 (S.take p) (by omega) (by omega) hR2 hH2 hB2 (by rw [k1 49 (by decide)]; exact h49) (by rw [q3, hlt]) (by rw [q4 48 (by decide)]; exact h48) q5
  rw [List.drop_zero] at z1 z4 z5
  refine ⟨I', A', ?_, fun k a1 a2 => by rw [z2 k a1 a2, k1 k a2], fun k a1 a2 => by rw [z3 k a1 a2, q4 k a2], z4, fun h => ?_⟩
  · unfold jf_X12_isReplaced
    simp only [rsI, xbs, i32_lit]
    rw [← hI1]
    exact jf_X12_isReplaced_7_l (q1.trans (jf_X12_isReplaced_45_l z1))
  · obtain ⟨y1, y2⟩ := z5 h
    exact ⟨by rw [y1, q4 48 (by decide)], by rw [y2, k1 49 (by decide)]⟩
/-- what the model holds after a look for a step -/
def stM (I I' : Nat → Int32) (A A' : Nat → Nat → Int32) (o : Option (Nat × List Nat)) (S : List Nat) (n : Nat) (f : Int) : Prop := (∀ k, k ∉ [33, 49, 51, 53] → I' k = I k) ∧ (∀ k, k ∉ [32, 34, 48, 52] → A' k = A k) ∧ match o with
  | none => seg (A' 48) 0 S ∧ I' 49 = i32 S.length ∧ I' 51 = i32 f
  | some (r, S') => seg (A' 48) 0 S' ∧ I' 49 = i32 S'.length ∧ I' 51 = i32 (if n = 0 then (r : Int) else f)
theorem rr_stp {I' : Nat → Int32} {A' : Nat → Nat → Int32} (h : RRep I A g) (h1 : ∀ k, k ∉ [33, 49, 51, 53] → I' k = I k) (h2 : ∀ k, k ∉ [32, 34, 48, 52] → A' k = A k) : RRep I' A' g := h.keep (fun k hk => h1 k (fun z => by simp only [List.mem_cons, List.not_mem_nil, or_false] at hk z; omega)) (fun k hk => h2 k (fun z => by simp only [List.mem_cons, List.not_mem_nil, or_false] at hk z; omega))
theorem r_st12 (H : MH ty M mm mi h0) (hg : gwf g) {S : List Nat} {p n : Nat} {f : Int} (hS : swf (gb g) S) (hp : p < S.length) (hn : n ≤ 1000) : ∀ (k r : Nat) (I : Nat → Int32) (A : Nat → Nat → Int32), r + k = bnr (gb g) → RRep I A g → seg (A 48) 0 S → I 49 = i32 S.length → I 50 = i32 (n : Nat) → I 51 = i32 f →
    ∃ m I' A', (∀ k2 : Nat → Int32 → xH → Option (Int32 × xH), jf_X12_isStepped_12 ty k2 m M (i32 (p : Nat)) (i32 (r : Nat)) (rst mm mi h0 M I A J) = match rfF g S p k r with
      | none => k2 M (i32 ((p + 1 : Nat) : Int)) (rst mm mi h0 M I' A' J)
      | some (r', β) => some (bI (decide ((repl (bar (gb g)) S p (bU (gb g) r') β).length ≤ 60)), rst mm mi h0 M I' A' J)) ∧ stM I I' A A' (match rfF g S p k r with
      | none => none
      | some (r', β) => if (repl (bar (gb g)) S p (bU (gb g) r') β).length ≤ 60 then some (r', repl (bar (gb g)) S p (bU (gb g) r') β) else none) S n f := by
  have h16 := hg.1.2.2.1
  have lS := hS.2.1
  intro k
  induction k with
  | zero =>
    intro r I A h1 hr h48 h49 h50 h51
    refine ⟨1, I, A, fun k2 => ?_, fun _ _ => rfl, fun _ _ => rfl, h48, h49, h51⟩
    rw [jf_X12_isStepped_12_s]
    simp (disch := omega) only [rI, hr.1.2.2.1, i32_lit, i32_neg, i32_add, i32_sub, i32_mul, i32_lt, i32_le, i32_eq, if_pos, rfF]
    rw [show (p : Int) + 1 = ((p + 1 : Nat) : Int) by omega]
  | succ k ih =>
    intro r I A h1 hr h48 h49 h50 h51
    have hrr : r < bnr (gb g) := by omega
    obtain ⟨I1, A1, q1, q2, q3, q4⟩ := r_isStep (J := J) H hg hr hS h48 h49 hp hrr
    have s1 : ∀ k, k ∉ [33, 49, 51, 53] → I1 k = I k := fun k hk => q2 k (fun z => hk (by rw [z]; decide))
    have s2 : ∀ k, k ∉ [32, 34, 48, 52] → A1 k = A k := fun k hk => q3 k (fun z => hk (by rw [z]; decide)) (fun z => hk (by rw [z]; decide))
    have hr1 : RRep I1 A1 g := rr_stp hr s1 s2
    have e48 : seg (A1 48) 0 S := by rw [q3 48 (by decide) (by decide)]; exact h48
    have e49 : I1 49 = i32 S.length := by rw [q2 49 (by decide)]; exact h49
    have e50 : I1 50 = i32 (n : Nat) := by rw [q2 50 (by decide)]; exact h50
    have e51 : I1 51 = i32 f := by rw [q2 51 (by decide)]; exact h51
    have hhead : ∀ m (k2 : Nat → Int32 → xH → Option (Int32 × xH)), jf_X12_isStepped_12 ty k2 (m + 1) M (i32 (p : Nat)) (i32 (r : Nat)) (rst mm mi h0 M I A J) = if (rfM g S p r).isSome = false then jf_X12_isStepped_12 ty k2 m M (i32 (p : Nat)) (i32 ((r + 1 : Nat) : Int)) (rst mm mi h0 M I1 A1 J) else xb2 (jf_X12_isReplaced ty (rst mm mi h0 M I1 A1 J) M (i32 (r : Nat)) (i32 (p : Nat))) fun a6 h5 => if a6 = i32 0 then some (i32 0, h5) else if (xI h5 M 50) = i32 0 then some (i32 1, xsI h5 M 51 (i32 (r : Nat))) else some (i32 1, xsI h5 M 51 (xI h5 M 51)) := by
      intro m k2
      rw [jf_X12_isStepped_12_s]
      simp (disch := omega) only [rI, hr.1.2.2.1, i32_lit, i32_le, if_neg, q1, xb2s, bI_eq0, i32_add, xbs]
      rw [show (r : Int) + 1 = ((r + 1 : Nat) : Int) by omega]
      cases (rfM g S p r).isSome <;> rfl
    cases hm : rfM g S p r with
    | none =>
      have e : rfF g S p (k + 1) r = rfF g S p k (r + 1) := by simp only [rfF, hm]
      obtain ⟨m, I', A', z1, z2, z3, z4⟩ := ih (r + 1) I1 A1 (by omega) hr1 e48 e49 e50 e51
      rw [e]
      refine ⟨m + 1, I', A', fun k2 => ?_, fun k hk => by rw [z2 k hk, s1 k hk], fun k hk => by rw [z3 k hk, s2 k hk], z4⟩
      rw [hhead, hm]
      exact z1 k2
    | some β =>
      have e : rfF g S p (k + 1) r = some (r, β) := by simp only [rfF, hm]
      rw [e]
      dsimp only
      obtain ⟨hin, hne, hmt⟩ := rfM_ok hm
      obtain ⟨hH, β', hSB, hBR⟩ := q4 β hm
      have hUw : twf (gb g) (bU (gb g) r) ∧ ∀ d ∈ bU (gb g) r, 100 ≤ d → d ∈ bT (gb g) r := by
        rcases (hg.1.2.2.2.2 r hrr).2 with h6 | h6
        · exact absurd h6 hne
        · exact h6
      obtain ⟨I2, A2, x1, x2, x3, x4, x5⟩ := r_rep (J := J) H hg hS hp hrr (fun d hd h1 => (mt_ext _ _ _ _ hmt).2.1 d (hUw.2 d hd h1) h1) hUw.1.2.2 hUw.1.2.1 hSB hr1.1 hH hBR e49 e48
      have t1 : ∀ k, k ∉ [33, 49, 51, 53] → I2 k = I k := fun k hk => by rw [x2 k (fun z => hk (by rw [z]; decide)) (fun z => hk (by rw [z]; decide)), s1 k hk]
      have t2 : ∀ k, k ∉ [32, 34, 48, 52] → A2 k = A k := fun k hk => by rw [x3 k (fun z => hk (by rw [z]; decide)) (fun z => hk (by rw [z]; decide)), s2 k hk]
      have i50 : I2 50 = i32 (n : Nat) := by rw [x2 50 (by decide) (by decide)]; exact e50
      have i51 : I2 51 = i32 f := by rw [x2 51 (by decide) (by decide)]; exact e51
      by_cases w : (repl (bar (gb g)) S p (bU (gb g) r) β).length ≤ 60
      · obtain ⟨y1, y2⟩ := x4 w
        rw [if_pos w]
        refine ⟨1, fu I2 51 (i32 (if n = 0 then (r : Int) else f)), A2, fun k2 => ?_, fun k hk => by rw [fu_ne _ _ (fun z => hk (by rw [z]; decide)), t1 k hk], t2, y1, by rw [fu_ne _ _ (by decide)]; exact y2, fu_same _ _ _⟩
        rw [hhead 0 k2, hm, decide_eq_true w]
        rw [decide_eq_true w] at x1
        have nb : ¬ bI true = i32 0 := by decide
        simp only [Option.isSome_some, Bool.true_eq_false, if_false, x1, xb2s, eq_false nb, rI, i50, i51, rsI]
        by_cases w0 : n = 0
        · have w1 : i32 (n : Nat) = i32 0 := by rw [w0]; rfl
          simp only [eq_true w1, if_true, w0]
          rfl
        · have w1 : ¬ i32 (n : Nat) = i32 0 := by rw [i32_eq (by omega) (by omega) (by omega) (by omega)]; omega
          simp only [eq_false w1, if_false, eq_false w0]
          rfl
      · obtain ⟨y1, y2⟩ := x5 (by omega)
        rw [if_neg w]
        refine ⟨1, I2, A2, fun k2 => ?_, t1, t2, by rw [y1]; exact e48, by rw [y2]; exact e49, i51⟩
        rw [hhead 0 k2, hm, decide_eq_false w]
        rw [decide_eq_false w] at x1
        have nb : bI false = i32 0 := rfl
        simp only [Option.isSome_some, Bool.true_eq_false, if_false, x1, xb2s, nb, if_true]
theorem r_st2 (H : MH ty M mm mi h0) (hg : gwf g) {S : List Nat} {n : Nat} {f : Int} (hS : swf (gb g) S) (hn : n ≤ 1000) : ∀ (k p : Nat) (I : Nat → Int32) (A : Nat → Nat → Int32), p + k = S.length → RRep I A g → seg (A 48) 0 S → I 49 = i32 S.length → I 50 = i32 (n : Nat) → I 51 = i32 f →
    ∃ m I' A', jf_X12_isStepped_2 ty m M (i32 (p : Nat)) (rst mm mi h0 M I A J) = some (bI (nxK g S k p).isSome, rst mm mi h0 M I' A' J) ∧ stM I I' A A' (nxK g S k p) S n f := by
  have lS := hS.2.1
  intro k
  induction k with
  | zero =>
    intro p I A h1 hr h48 h49 h50 h51
    refine ⟨1, I, A, ?_, fun _ _ => rfl, fun _ _ => rfl, h48, h49, h51⟩
    rw [jf_X12_isStepped_2_s]
    simp (disch := omega) only [rI, h49, i32_lit, i32_neg, i32_add, i32_sub, i32_mul, i32_lt, i32_le, i32_eq, if_pos]
    rfl
  | succ k ih =>
    intro p I A h1 hr h48 h49 h50 h51
    obtain ⟨m1, I1, A1, q1, q2, q3, q4⟩ := r_st12 (J := J) H hg hS (show p < S.length by omega) hn (bnr (gb g)) 0 I A (by omega) hr h48 h49 h50 h51
    have hhead : ∀ m, jf_X12_isStepped_2 ty (m + 1) M (i32 (p : Nat)) (rst mm mi h0 M I A J) = xlim fun n12 => jf_X12_isStepped_12 ty (jf_X12_isStepped_2 ty m) n12 M (i32 (p : Nat)) (i32 0) (rst mm mi h0 M I A J) := by
      intro m
      rw [jf_X12_isStepped_2_s]
      simp (disch := omega) only [rI, h49, i32_lit, i32_le, if_neg]
    cases hrf : rfF g S p (bnr (gb g)) 0 with
    | none =>
      rw [hrf] at q1 q4
      have e : nxK g S (k + 1) p = nxK g S k (p + 1) := by unfold nxK; simp only [stF, hrf]
      obtain ⟨z1, z2, z3⟩ := q4
      obtain ⟨m, I', A', y1, y2, y3, y4⟩ := ih (p + 1) I1 A1 (by omega) (rr_stp hr q2 q3) z1 z2 (by rw [q2 50 (by decide)]; exact h50) z3
      rw [e]
      refine ⟨m + 1, I', A', ?_, fun k hk => by rw [y2 k hk, q2 k hk], fun k hk => by rw [y3 k hk, q3 k hk], y4⟩
      rw [hhead]
      exact jf_X12_isStepped_12_l ((q1 _).trans y1)
    | some y =>
      obtain ⟨r, β⟩ := y
      rw [hrf] at q1 q4
      have e : nxK g S (k + 1) p = if (repl (bar (gb g)) S p (bU (gb g) r) β).length ≤ 60 then some (r, repl (bar (gb g)) S p (bU (gb g) r) β) else none := by unfold nxK; simp only [stF, hrf]
      rw [e]
      refine ⟨1, I1, A1, ?_, q2, q3, q4⟩
      rw [hhead 0]
      refine jf_X12_isStepped_12_l ((q1 _).trans ?_)
      dsimp only
      by_cases w : (repl (bar (gb g)) S p (bU (gb g) r) β).length ≤ 60
      · rw [if_pos w, decide_eq_true w]; rfl
      · rw [if_neg w, decide_eq_false w]; rfl
theorem r_ls47 (H : MH ty M mm mi h0) (hg : gwf g) : ∀ (k t : Nat) (I : Nat → Int32) (A : Nat → Nat → Int32) (S : List Nat) (f : Int), t + k = 20 → RRep I A g → swf (gb g) S → seg (A 48) 0 S → I 49 = i32 S.length → I 50 = i32 (t : Nat) → I 51 = i32 f →
    ∃ m I' A', jf_X12_laySteps_47 ty m M (rst mm mi h0 M I A J) = some (rst mm mi h0 M I' A' J) ∧ RRep I' A' g ∧ I' 2 = I 2 ∧ seg (A' 48) 0 (rwF g k S t f).1 ∧ I' 49 = i32 (rwF g k S t f).1.length ∧ I' 50 = i32 ((rwF g k S t f).2.1 : Nat) ∧ I' 51 = i32 (rwF g k S t f).2.2 := by
  intro k
  induction k with
  | zero =>
    intro t I A S f h1 hr hS h48 h49 h50 h51
    refine ⟨1, I, A, ?_, hr, rfl, h48, h49, h50, h51⟩
    rw [jf_X12_laySteps_47_s]
    simp (disch := omega) only [rI, h50, i32_lit, i32_neg, i32_add, i32_sub, i32_mul, i32_lt, i32_le, i32_eq, if_pos]
  | succ k ih =>
    intro t I A S f h1 hr hS h48 h49 h50 h51
    obtain ⟨m1, I1, A1, q1, q2, q3, q4⟩ := r_st2 (J := J) H hg hS (show t ≤ 1000 by omega) S.length 0 I A (by omega) hr h48 h49 h50 h51
    have q1' : jf_X12_isStepped ty (rst mm mi h0 M I A J) M = _ := jf_X12_isStepped_2_l q1
    rw [show nxK g S S.length 0 = nxR g S from rfl] at q1' q4
    have hr1 := rr_stp hr q2 q3
    have i50 : I1 50 = i32 (t : Nat) := by rw [q2 50 (by decide)]; exact h50
    have i2 : I1 2 = I 2 := q2 2 (by decide)
    have hhead : ∀ m, jf_X12_laySteps_47 ty (m + 1) M (rst mm mi h0 M I A J) = if (nxR g S).isSome = false then some (rst mm mi h0 M I1 A1 J) else jf_X12_laySteps_47 ty m M (rst mm mi h0 M (fu I1 50 (i32 ((t + 1 : Nat) : Int))) A1 J) := by
      intro m
      rw [jf_X12_laySteps_47_s]
      simp (disch := omega) only [rI, h50, i32_lit, i32_le, if_neg, q1', xb2s, bI_eq0, i50, i32_add, rsI, xbs]
      rw [show (t : Int) + 1 = ((t + 1 : Nat) : Int) by omega]
    simp only [rwF]
    cases hx : nxR g S with
    | none =>
      rw [hx] at q4 hhead
      obtain ⟨z1, z2, z3⟩ := q4
      refine ⟨1, I1, A1, ?_, hr1, i2, z1, z2, i50, z3⟩
      rw [hhead 0]
      rfl
    | some y =>
      obtain ⟨r, S'⟩ := y
      rw [hx] at q4 hhead
      obtain ⟨z1, z2, z3⟩ := q4
      obtain ⟨m, I', A', y1, y2, y3, y4⟩ := ih (t + 1) (fu I1 50 (i32 ((t + 1 : Nat) : Int))) A1 S' (if t = 0 then (r : Int) else f) (by omega) (hr1.keep (fun k hk => fu_ne _ _ (fun z => by subst z; revert hk; decide)) keepA.rf) (nxR_wf hg hS hx).1 z1 (by rw [fu_ne _ _ (by decide)]; exact z2) (fu_same _ _ _) (by rw [fu_ne _ _ (by decide)]; exact z3)
      refine ⟨m + 1, I', A', ?_, y2, by rw [y3, fu_ne _ _ (by decide)]; exact i2, y4⟩
      rw [hhead m]
      exact y1
theorem r_ls2 (H : MH ty M mm mi h0) (hg : gwf g) (hr : RRep I A g) : ∀ (k i : Nat) (A' : Nat → Nat → Int32), i + k = (gq g).length → but 48 A A' → seg (A' 48) 0 ((gq g).take i) →
    ∃ A2, jf_X12_laySteps_2 ty (k + 1) M (i32 (i : Nat)) (rst mm mi h0 M I A' J) = (xlim fun n47 => jf_X12_laySteps_47 ty n47 M (rst mm mi h0 M (fu (fu (fu I 49 (i32 (gq g).length)) 50 (i32 0)) 51 (i32 (-2))) A2 J)) ∧ but 48 A A2 ∧ seg (A2 48) 0 (gq g) := by
  have hql := gq_l hg
  intro k
  induction k with
  | zero =>
    intro i A' h1 h2 h3
    refine ⟨A', ?_, h2, by rw [List.take_of_length_le (by omega)] at h3; exact h3⟩
    rw [jf_X12_laySteps_2_s]
    simp (disch := omega) only [rI, hr.2.2.1.2.1, i32_lit, i32_neg, i32_add, i32_sub, i32_mul, i32_lt, i32_le, i32_eq, if_pos, rsI, xbs]
  | succ k ih =>
    intro i A' h1 h2 h3
    obtain ⟨d, hd⟩ := get_some (L := gq g) (i := i) (by omega)
    have e27 : A' 27 i = i32 (d : Nat) := by
      rw [h2 27 (by decide)]
      have := hr.2.2.1.1 i d hd
      rw [Nat.zero_add] at this
      exact this
    obtain ⟨A1, hA1⟩ : ∃ A1, A1 = fu2 A' 48 i (i32 (d : Nat)) := ⟨_, rfl⟩
    have hlt : ((gq g).take i).length = i := by rw [List.length_take]; omega
    obtain ⟨A2, q1, q2, q3⟩ := ih (i + 1) A1 (by omega) (but.tr h2 (by rw [hA1]; exact but.fu)) (by
      rw [List.take_add_one, hd, hA1]
      exact seg_snoc (seg_fu2 h3 (by omega)) (by rw [Nat.zero_add, hlt, fu2_same]))
    refine ⟨A2, ?_, q2, q3⟩
    rw [jf_X12_laySteps_2_s, ← q1]
    simp (disch := omega) only [rI, hr.2.2.1.2.1, i32_lit, i32_neg, i32_add, i32_sub, i32_mul, i32_lt, i32_le, i32_eq, if_neg, rr_48 H, rr_27 H, ga_27 H, wa_48 H, xbs, Int.toNat_natCast, e27]
    rw [← hA1, show (i : Int) + 1 = ((i + 1 : Nat) : Int) by omega]
theorem rwF_wf (hg : gwf g) : ∀ (k : Nat) (S : List Nat) (n : Nat) (f : Int), swf (gb g) S → swf (gb g) (rwF g k S n f).1 := by
  intro k
  induction k with
  | zero => intro S n f h; exact h
  | succ k ih =>
    intro S n f h
    simp only [rwF]
    cases hx : nxR g S with
    | none => exact h
    | some y =>
      obtain ⟨r, S'⟩ := y
      exact ih S' _ _ (nxR_wf hg h hx).1
theorem r_ls (H : MH ty M mm mi h0) (hg : gwf g) (hq : twf (gb g) (gq g)) (hr : RRep I A g) :
    ∃ I' A', jf_X12_laySteps ty (rst mm mi h0 M I A J) M = some (rst mm mi h0 M I' A' J) ∧ RRep I' A' g ∧ I' 2 = I 2 ∧ seg (A' 48) 0 (rwF g 20 (gq g) 0 (-2)).1 ∧ I' 49 = i32 (rwF g 20 (gq g) 0 (-2)).1.length ∧ I' 50 = i32 ((rwF g 20 (gq g) 0 (-2)).2.1 : Nat) ∧ I' 51 = i32 (rwF g 20 (gq g) 0 (-2)).2.2 := by
  obtain ⟨A2, q1, q2, q3⟩ := r_ls2 (J := J) H hg hr (gq g).length 0 A (by omega) but.rf (seg_nil _ _)
  obtain ⟨I2, hI2⟩ : ∃ I2, I2 = fu (fu (fu I 49 (i32 (gq g).length)) 50 (i32 0)) 51 (i32 (-2)) := ⟨_, rfl⟩
  rw [← hI2] at q1
  have k2 : ∀ k, k ≠ 49 → k ≠ 50 → k ≠ 51 → I2 k = I k := fun k a1 a2 a3 => by rw [hI2, fu_ne _ _ a3, fu_ne _ _ a2, fu_ne _ _ a1]
  have hr2 : RRep I2 A2 g := hr.keep (fun k hk => k2 k (fun z => by subst z; revert hk; decide) (fun z => by subst z; revert hk; decide) (fun z => by subst z; revert hk; decide)) (fun k hk => q2 k (fun z => by subst z; revert hk; decide))
  have hql := hq.2.1
  obtain ⟨m, I', A', z1, z2, z3, z4⟩ := r_ls47 (J := J) H hg 20 0 I2 A2 (gq g) (-2) (by omega) hr2 ⟨hq.1, by omega, hq.2.2⟩ q3 (by rw [hI2, fu_ne _ _ (by decide), fu_ne _ _ (by decide), fu_same]) (by rw [hI2, fu_ne _ _ (by decide), fu_same]; rfl) (by rw [hI2, fu_same])
  exact ⟨I', A', jf_X12_laySteps_2_l (q1.trans (jf_X12_laySteps_47_l z1)), z2, by rw [z3, k2 2 (by decide) (by decide) (by decide)], z4⟩
theorem op_steps (C : CH ty N) (H : MH ty M mm mi hB) (hg : gwf g) (hc : CRep c g) (hr : RRep I A g) {k : Int} (f1 : -2147483648 ≤ k) (f2 : k < 2147483648) :
    OP N hA mm mi hB M J g (jf_X11_steps ty (cst N hA c) (N + 0) (i32 k)) (jf_X12_steps ty (rst mm mi hB M I A J) M (i32 k)) := by
  have hql := gq_l hg
  have I2 : ∀ k, k ≠ 33 → k ≠ 2 → k ≠ 39 → fu I 2 (i32 0) k = I k := fun k _ h _ => fu_ne _ _ h
  have hr2 : RRep (fu I 2 (i32 0)) A g := hr.ks I2 keepA.rf
  have e14 := k_sub (h0 := hA) C hc.1 (show (0, 14, 263) ∈ lyL by decide) (by omega) (show ct 263 = some (0, 5) by decide)
  have e9 := k_sub (h0 := hA) C hc.1 (show (0, 9, 232) ∈ lyL by decide) (by omega) (show ct 232 = some (0, 6) by decide)
  unfold jf_X11_steps jf_X12_steps
  simp (disch := omega) only [rsI, xbs, i32_lit, i32_neg, i32_lt, i32_eq, isIn_i, bI_eq0, rI, hr2.2.2.1.2.1, k_ask C hc.1, k_askn hc, e14, e9, k_book C hc.1]
  cases hw : (decide (0 ≤ k) && decide (k ≤ 2)) with
  | false =>
    simp only [if_true]
    rw [Bool.and_eq_false_iff, decide_eq_false_iff_not, decide_eq_false_iff_not] at hw
    by_cases w4 : k < 0
    · simp only [eq_true w4, if_true]
      exact OP.ret hc hr _ _ I2 (fu_same _ _ _) rfl rfl
    · have w5 : 2 < k := by omega
      simp only [eq_false w4, if_false, eq_true w5, if_true]
      exact OP.ret hc hr _ _ I2 (fu_same _ _ _) rfl rfl
  | true =>
  rw [Bool.and_eq_true_iff, decide_eq_true_iff, decide_eq_true_iff] at hw
  have w4 : ¬ k < 0 := by omega
  have w5 : ¬ 2 < k := by omega
  simp only [eq_false w4, eq_false w5, Bool.true_eq_false, if_false]
  by_cases w3 : ((gq g).length : Int) = 0
  · simp only [eq_true w3, if_true]
    exact OP.ret hc hr _ _ I2 (fu_same _ _ _) rfl rfl
  simp only [eq_false w3, if_false]
  have hq : twf (gb g) (gq g) := by
    rcases hg.2.1 with h | h
    · rw [h] at w3; exact absurd rfl w3
    · exact h
  obtain ⟨c', q1, q2, q3, q4, q5⟩ := k_rw (h0 := hA) C hg hq hc
  obtain ⟨I', A', p1, p2, p3, p4, p5, p6, p7⟩ := r_ls (J := J) H hg hq hr2
  have e14' := k_sub (h0 := hA) C q2.1 (show (0, 14, 263) ∈ lyL by decide) (by omega) (show ct 263 = some (0, 5) by decide)
  have hlw := ct_lt q3.1
  have i2 : I' 2 = i32 0 := by rw [p3, fu_same]
  simp (disch := omega) only [q1, xbs, e14', k_nw C q2.1, kI, kI hlw, q4, q5, q3.2.2.2.2.2.2.2.1, p1, rI, p5, p6, p7]
  by_cases w0 : k = 0
  · simp only [eq_true w0, if_true]
    exact ⟨_, c', I', A', rfl, q2, rfl, p2, i2⟩
  simp only [eq_false w0, if_false]
  by_cases w1 : k = 1
  · simp only [eq_true w1, if_true]
    exact ⟨_, c', I', A', rfl, q2, rfl, p2, i2⟩
  simp only [eq_false w1, if_false]
  exact ⟨_, c', I', A', rfl, q2, rfl, p2, i2⟩
theorem op_normal (C : CH ty N) (H : MH ty M mm mi hB) (hg : gwf g) (hc : CRep c g) (hr : RRep I A g) {k : Int} (f1 : -2147483648 ≤ k) (f2 : k < 2147483648) :
    OP N hA mm mi hB M J g (jf_X11_normal ty (cst N hA c) (N + 0) (i32 k)) (jf_X12_normal ty (rst mm mi hB M I A J) M (i32 k)) := by
  have hql := gq_l hg
  have I2 : ∀ k, k ≠ 33 → k ≠ 2 → k ≠ 39 → fu I 2 (i32 0) k = I k := fun k _ h _ => fu_ne _ _ h
  have hr2 : RRep (fu I 2 (i32 0)) A g := hr.ks I2 keepA.rf
  have e14 := k_sub (h0 := hA) C hc.1 (show (0, 14, 263) ∈ lyL by decide) (by omega) (show ct 263 = some (0, 5) by decide)
  have e9 := k_sub (h0 := hA) C hc.1 (show (0, 9, 232) ∈ lyL by decide) (by omega) (show ct 232 = some (0, 6) by decide)
  unfold jf_X11_normal jf_X12_normal
  simp (disch := omega) only [rsI, xbs, i32_lit, i32_neg, i32_lt, i32_eq, rI, hr2.2.2.1.2.1, k_ask C hc.1, k_askn hc, e14, e9, k_book C hc.1]
  by_cases w4 : k < 0
  · simp only [eq_true w4, if_true]
    exact OP.ret hc hr _ _ I2 (fu_same _ _ _) rfl rfl
  simp only [eq_false w4, if_false]
  by_cases w3 : ((gq g).length : Int) = 0
  · simp only [eq_true w3, if_true]
    exact OP.ret hc hr _ _ I2 (fu_same _ _ _) rfl rfl
  simp only [eq_false w3, if_false]
  have hq : twf (gb g) (gq g) := by
    rcases hg.2.1 with h | h
    · rw [h] at w3; exact absurd rfl w3
    · exact h
  obtain ⟨c', q1, q2, q3, q4, q5⟩ := k_rw (h0 := hA) C hg hq hc
  obtain ⟨I', A', p1, p2, p3, p4, p5, p6, p7⟩ := r_ls (J := J) H hg hq hr2
  have hwf := rwF_wf hg 20 (gq g) 0 (-2) ⟨hq.1, by omega, hq.2.2⟩
  have hl := hwf.2.1
  have e14' := k_sub (h0 := hA) C q2.1 (show (0, 14, 263) ∈ lyL by decide) (by omega) (show ct 263 = some (0, 5) by decide)
  have i2 : I' 2 = i32 0 := by rw [p3, fu_same]
  refine ⟨oI (rwF g 20 (gq g) 0 (-2)).1[k.toNat]? (-2), c', I', A', ?_, q2, ?_, p2, i2⟩
  · simp (disch := omega) only [q1, xbs, e14', k_nw C q2.1, t_codeOr C q3 (show 0 ≤ k by omega) f2]
  · simp (disch := omega) only [p1, xbs, rI, p5, i32_le]
    by_cases w5 : (((rwF g 20 (gq g) 0 (-2)).1.length : Nat) : Int) ≤ k
    · simp only [eq_true w5, if_true]
      rw [List.getElem?_eq_none (by omega)]; rfl
    · simp only [eq_false w5, if_false]
      obtain ⟨d, hd⟩ := get_some (L := (rwF g 20 (gq g) 0 (-2)).1) (i := k.toNat) (by omega)
      have hs := seg_get p4 hd
      rw [Nat.zero_add] at hs
      simp (disch := omega) only [rr_48 H, ga_48 H, xbs, hs, hd]
      rfl
end RWR2

/-! TEXT: lines, of tokens alone; the class -/
def bAddS (b : Bk) (x : Int32) (a : Nat) : Bk := ((bns b + 1, bnv b, bnr b), (fu (bsn b) (bns b) x, bvn b, brn b), fu (bsa b) (bns b) a, bT b, bU b)
def bAddV (b : Bk) (x : Int32) : Bk := ((bns b, bnv b + 1, bnr b), (bsn b, fu (bvn b) (bnv b) x, brn b), bsa b, bT b, bU b)
def bAddR (b : Bk) (x : Int32) (T U : List Nat) : Bk := ((bns b, bnv b, bnr b + 1), (bsn b, bvn b, fu (brn b) (bnr b) x), bsa b, fu (bT b) (bnr b) T, fu (bU b) (bnr b) U)
def tkV (T : Nat → Tk) (j : Nat) : Int32 := i32 ((T j).2.2.1 : Nat)
def sgL (T : Nat → Tk) (b : Bk) (j : Nat) : Nat × Nat × Bk := if bns b = 8 then (2, j, b) else if (T (j + 1)).1 ≠ 2 then (1, j + 1, b) else if lkN b (tkV T (j + 1)) ≠ -1 then (3, j + 1, b) else if (T (j + 2)).1 ≠ 6 then (1, j + 2, b) else if 3 < (T (j + 2)).2.2.1 then (2, j + 2, b) else (0, j + 3, bAddS b (tkV T (j + 1)) (T (j + 2)).2.2.1)
def vrL (T : Nat → Tk) (b : Bk) (j : Nat) : Nat × Nat × Bk := if bnv b = 4 then (2, j, b) else if (T (j + 1)).1 ≠ 2 then (1, j + 1, b) else if lkN b (tkV T (j + 1)) ≠ -1 then (3, j + 1, b) else (0, j + 2, bAddV b (tkV T (j + 1)))
def rlU (T : Nat → Tk) (b : Bk) (x : Int32) (L : List Nat) (q : Nat × Nat × List Nat) : Nat × Nat × Bk := if q.1 ≠ 0 then (q.1, q.2.1, b) else (0, q.2.1, bAddR b x L q.2.2)
def rlT (T : Nat → Tk) (b : Bk) (x : Int32) (p : Nat × Nat × List Nat) : Nat × Nat × Bk := if p.1 ≠ 0 then (p.1, p.2.1, b) else if (T p.2.1).1 = 61 then rlU T b x p.2.2 (pT T b (some p.2.2) 13 (p.2.1 + 1) [] []) else (0, p.2.1, bAddR b x p.2.2 [])
def rlL (T : Nat → Tk) (b : Bk) (j : Nat) : Nat × Nat × Bk := if bnr b = 16 then (2, j, b) else if (T (j + 1)).1 ≠ 2 then (1, j + 1, b) else if fndA (brn b) 0 (tkV T (j + 1)) 0 (bnr b) ≠ -1 then (3, j + 1, b) else rlT T b (tkV T (j + 1)) (pT T b none 13 (j + 2) [] [])
def lnR (T : Nat → Tk) (b : Bk) (j : Nat) : Nat × Nat × Bk := if (T j).1 = 3 then sgL T b j else if (T j).1 = 4 then vrL T b j else if (T j).1 = 5 then rlL T b j else (1, j, b)
def lnE (T : Nat → Tk) (p : Nat × Nat × Bk) : Nat × Nat × Bk := if p.1 ≠ 0 then p else if (T p.2.1).1 = 59 then (0, p.2.1 + 1, p.2.2) else (1, p.2.1, p.2.2)
def lnS (T : Nat → Tk) (b : Bk) (j : Nat) : Nat × Nat × Bk := lnE T (lnR T b j)
/-- fault, token, lines, book -/
def lns (T : Nat → Tk) : Nat → Nat → Nat → Bk → Nat × Nat × Nat × Bk
  | 0, v, j, b => (1, j, v, b)
  | k + 1, v, j, b => if (T j).1 = 0 then (0, j, v, b) else if (lnS T b j).1 ≠ 0 then ((lnS T b j).1, (lnS T b j).2.1, v, b) else lns T k (v + 1) (lnS T b j).2.1 (lnS T b j).2.2
def bk0 : Bk := ((0, 0, 0), (fun _ => 0, fun _ => 0, fun _ => 0), fun _ => 0, fun _ => [], fun _ => [])
theorem bk0_wf : bwf bk0 := ⟨by decide, by decide, by decide, fun _ => by show (0 : Nat) ≤ 3; omega, fun r hr => absurd hr (Nat.not_lt_zero r)⟩
theorem bar_S {b : Bk} {x : Int32} {a d : Nat} (hb : bns b ≤ 8) (h : vc b d) : bar (bAddS b x a) d = bar b d := by
  unfold bar
  split
  · show fu (bsa b) (bns b) a d = bsa b d
    rw [fu_ne _ _ (by unfold vc at h; omega)]
  · rfl
theorem twf_S {b : Bk} {x : Int32} {a : Nat} {L : List Nat} (hb : bns b ≤ 8) (h : twf b L) : twf (bAddS b x a) L :=
  ⟨(tms_bar L 1 (fun d hd => bar_S hb (h.2.2 d hd))).mpr h.1, h.2.1, fun d hd => by
    have := h.2.2 d hd
    unfold vc at this ⊢
    show d < bns b + 1 ∨ (100 ≤ d ∧ d < 100 + bnv b)
    omega⟩
where tms_bar {b b' : Bk} : ∀ (L : List Nat) (o : Nat), (∀ d ∈ L, bar b' d = bar b d) → (tms (bar b') o L ↔ tms (bar b) o L)
  | [], o, _ => Iff.rfl
  | d :: L, 0, _ => Iff.rfl
  | d :: L, o + 1, h => by
    show tms (bar b') (o + bar b' d) L ↔ tms (bar b) (o + bar b d) L
    rw [h d List.mem_cons_self]
    exact tms_bar L _ (fun e he => h e (List.mem_cons_of_mem _ he))
theorem twf_V {b : Bk} {x : Int32} {L : List Nat} (h : twf b L) : twf (bAddV b x) L := ⟨h.1, h.2.1, fun d hd => by
    have := h.2.2 d hd
    unfold vc at this ⊢
    show d < bns b ∨ (100 ≤ d ∧ d < 100 + (bnv b + 1))
    omega⟩
theorem bAddS_wf {b : Bk} {x : Int32} {a : Nat} (h : bwf b) (h8 : bns b < 8) (ha : a ≤ 3) : bwf (bAddS b x a) := by
  refine ⟨?_, h.2.1, h.2.2.1, fun d => ?_, fun r hr => ?_⟩
  · show bns b + 1 ≤ 8; omega
  · show fu (bsa b) (bns b) a d ≤ 3
    unfold fu
    split
    · exact ha
    · exact h.2.2.2.1 d
  · obtain ⟨h1, h2⟩ := h.2.2.2.2 r hr
    exact ⟨twf_S h.1 h1, h2.imp (fun e => e) (fun e => ⟨twf_S h.1 e.1, e.2⟩)⟩
theorem bAddV_wf {b : Bk} {x : Int32} (h : bwf b) (h4 : bnv b < 4) : bwf (bAddV b x) := by
  refine ⟨h.1, ?_, h.2.2.1, h.2.2.2.1, fun r hr => ?_⟩
  · show bnv b + 1 ≤ 4; omega
  · obtain ⟨h1, h2⟩ := h.2.2.2.2 r hr
    exact ⟨twf_V h1, h2.imp (fun e => e) (fun e => ⟨twf_V e.1, e.2⟩)⟩
theorem bAddR_wf {b : Bk} {x : Int32} {T U : List Nat} (h : bwf b) (h16 : bnr b < 16) (hT : twf b T) (hU : U = [] ∨ (twf b U ∧ ∀ d ∈ U, 100 ≤ d → d ∈ T)) : bwf (bAddR b x T U) := by
  refine ⟨h.1, h.2.1, ?_, h.2.2.2.1, fun r hr => ?_⟩
  · show bnr b + 1 ≤ 16; omega
  · show twf b (fu (bT b) (bnr b) T r) ∧ (fu (bU b) (bnr b) U r = [] ∨ (twf b (fu (bU b) (bnr b) U r) ∧ ∀ d ∈ fu (bU b) (bnr b) U r, 100 ≤ d → d ∈ fu (bT b) (bnr b) T r))
    by_cases w : r = bnr b
    · rw [w, fu_same, fu_same]
      exact ⟨hT, hU⟩
    · rw [fu_ne _ _ w, fu_ne _ _ w]
      exact h.2.2.2.2 r (by have h' : r < bnr b + 1 := hr; omega)
theorem bdE_U {T U : List Nat} (h : ∀ d ∈ U, bdE (some T) d = true) : ∀ d ∈ U, 100 ≤ d → d ∈ T := fun d hd h1 => by
  have := h d hd
  simp only [bdE, Bool.or_eq_true, decide_eq_true_iff] at this
  exact this.resolve_left (by omega)
theorem rlT_wf {T : Nat → Tk} {b : Bk} {x : Int32} {j : Nat} (h : bwf b) (h16 : bnr b < 16) (h0 : (rlT T b x (pT T b none 13 j [] [])).1 = 0) : bwf (rlT T b x (pT T b none 13 j [] [])).2.2 := by
  have hb0 : bw0 b := ⟨h.1, h.2.1, h.2.2.2.1⟩
  unfold rlT at h0 ⊢
  by_cases w : (pT T b none 13 j [] []).1 = 0
  · rw [if_neg (fun e => e w)] at h0 ⊢
    obtain ⟨p1, _⟩ := pT_wf0 hb0 w
    by_cases w2 : (T (pT T b none 13 j [] []).2.1).1 = 61
    · rw [if_pos w2] at h0 ⊢
      unfold rlU at h0 ⊢
      by_cases w3 : (pT T b (some (pT T b none 13 j [] []).2.2) 13 ((pT T b none 13 j [] []).2.1 + 1) [] []).1 = 0
      · rw [if_neg (fun e => e w3)]
        obtain ⟨q1, q2⟩ := pT_wf0 hb0 w3
        exact bAddR_wf h h16 p1 (Or.inr ⟨q1, bdE_U q2⟩)
      · rw [if_pos w3] at h0
        exact absurd h0 w3
    · rw [if_neg w2]
      exact bAddR_wf h h16 p1 (Or.inl rfl)
  · rw [if_pos w] at h0
    exact absurd h0 w
theorem lnR_wf {T : Nat → Tk} {b : Bk} {j : Nat} (h : bwf b) (h0 : (lnR T b j).1 = 0) : bwf (lnR T b j).2.2 := by
  unfold lnR at h0 ⊢
  split
  · rename_i w
    rw [if_pos w] at h0
    have h8 := h.1
    unfold sgL at h0 ⊢
    split
    · rename_i w; rw [if_pos w] at h0; cases h0
    · rename_i w; rw [if_neg w] at h0
      split
      · rename_i w; rw [if_pos w] at h0; cases h0
      · rename_i w; rw [if_neg w] at h0
        split
        · rename_i w; rw [if_pos w] at h0; cases h0
        · rename_i w; rw [if_neg w] at h0
          split
          · rename_i w; rw [if_pos w] at h0; cases h0
          · rename_i w; rw [if_neg w] at h0
            split
            · rename_i w; rw [if_pos w] at h0; cases h0
            · exact bAddS_wf h (by omega) (by omega)
  · rename_i w
    rw [if_neg w] at h0
    split
    · rename_i w
      rw [if_pos w] at h0
      have h4 := h.2.1
      unfold vrL at h0 ⊢
      split
      · rename_i w; rw [if_pos w] at h0; cases h0
      · rename_i w; rw [if_neg w] at h0
        split
        · rename_i w; rw [if_pos w] at h0; cases h0
        · rename_i w; rw [if_neg w] at h0
          split
          · rename_i w; rw [if_pos w] at h0; cases h0
          · exact bAddV_wf h (by omega)
    · rename_i w
      rw [if_neg w] at h0
      split
      · rename_i w
        rw [if_pos w] at h0
        have h16 := h.2.2.1
        unfold rlL at h0 ⊢
        split
        · rename_i w; rw [if_pos w] at h0; cases h0
        · rename_i w; rw [if_neg w] at h0
          split
          · rename_i w; rw [if_pos w] at h0; cases h0
          · rename_i w; rw [if_neg w] at h0
            split
            · rename_i w; rw [if_pos w] at h0; cases h0
            · rename_i w; rw [if_neg w] at h0
              exact rlT_wf h (by omega) h0
      · rename_i w
        rw [if_neg w] at h0
        cases h0
theorem nmV_le (F : Nat → Nat) : ∀ (k q v : Nat), v ≤ 1000 → nmV F k q v ≤ 1000
  | 0, q, v, h => h
  | k + 1, q, v, h => by
    simp only [nmV]
    split
    · exact nmV_le F k _ _ (by omega)
    · exact h
theorem tk_num {F : Nat → Nat} {n j : Nat} (h : (tk F n j).1 = 6) : (tk F n j).2.2.1 ≤ 1000 := by
  have h1 : ∀ q, (tkA F n q).1 = 6 → (tkA F n q).2.2.1 ≤ 1000 := by
    intro q
    unfold tkA
    split
    · intro h
      have h' : (if 6 < run isLb F (n - q) q - q then 1 else wdK (hrn F q (run isLb F (n - q) q) 6)) = 6 := h
      unfold wdK at h'
      split at h'
      · omega
      · split at h'
        · omega
        · split at h'
          · omega
          · split at h' <;> omega
    · split
      · intro _
        exact nmV_le F _ _ _ (Nat.zero_le _)
      · intro _
        exact Nat.zero_le _
  have h2 : ∀ k q, (lx F n k q).1 = 6 → (lx F n k q).2.2.1 ≤ 1000 := by
    intro k
    induction k with
    | zero => intro q h; exact Nat.zero_le _
    | succ k ih =>
      intro q
      simp only [lx]
      split
      · exact ih _
      · exact h1 q
  exact h2 _ _ h
section TEXTC
variable {ty : xTy} {N M : Nat} {hA hB h0 : xH} {mm mi : Nat → Nat} {c : CS} {I : Nat → Int32} {A : Nat → Nat → Int32} {J : Nat → Int64} {g : Sg} {b : Bk} {F : Nat → Nat} {n : Nat}
/-- only the book at S and the reader have changed -/
def frL (S : Nat) (c c' : CS) : Prop := (∀ q, ¬ (S ≤ q ∧ q < S + 106) → ¬ (226 ≤ q ∧ q < 232) → cI c' q = cI c q ∧ cA c' q = cA c q) ∧ cR c' = cR c ∧ cP c' = cP c
theorem frL.rf {S : Nat} {c : CS} : frL S c c := ⟨fun _ _ _ => ⟨rfl, rfl⟩, rfl, rfl⟩
theorem frL.tr {S : Nat} {c d e : CS} (h1 : frL S c d) (h2 : frL S d e) : frL S c e := ⟨fun q a2 a3 => ⟨((h2.1 q a2 a3).1).trans (h1.1 q a2 a3).1, ((h2.1 q a2 a3).2).trans (h1.1 q a2 a3).2⟩, h2.2.1.trans h1.2.1, h2.2.2.trans h1.2.2⟩
theorem frL.P {S u : Nat} {c c' : CS} (h : frP u c c') (h1 : S ≤ u) (h2 : u + 3 ≤ S + 106) : frL S c c' := ⟨fun q a2 a3 => h.1 q (by omega) (by omega) (by omega) (by omega), h.2⟩
theorem frL.o {S lo hi : Nat} {c c' : CS} (h : fr lo hi c c') (h1 : (226 ≤ lo ∧ hi ≤ 232) ∨ (S ≤ lo ∧ hi ≤ S + 106)) : frL S c c' := ⟨fun q a2 a3 => h.1 q (by omega), h.2⟩
theorem frL.ly {c' : CS} {S : Nat} (f : frL S c c') (h : LY c) : LY c' := h.same f.2.1 f.2.2
/-- a line is read -/
def LR (S : Nat) (F : Nat → Nat) (n z : Nat) (c c' : CS) (p : Nat × Nat × Bk) : Prop := frL S c c' ∧ (p.1 = 0 → CT c' F n z p.2.1 ∧ CB c' S p.2.2 ∧ cI c' 226 3 = cI c 226 3 ∧ cI c' 226 4 = cI c 226 4) ∧ (p.1 ≠ 0 → FLT c' p.1 (tk F n p.2.1).2.1)
theorem CB.o {c' : CS} {S lo hi : Nat} (hb : bnr b ≤ 16) (hS : S = 2 ∨ S = 108) (h : CB c S b) (f : fr lo hi c c') (h1 : 226 ≤ lo) : CB c' S b := h.keep hb (fun q q1 q2 => ⟨(f.1 q (by omega)).1, (f.1 q (by omega)).2, by rw [f.2.1]⟩)
theorem k_flL (C : CH ty N) (hL : LY c) {z j f S : Nat} (h : CT c F n z j) (hf : f ≠ 0) {b' : Bk} : ∃ c', (xb2 (jf_X4_fail ty (cst N h0 c) (N + 226) (i32 (f : Nat))) fun a h => (xz a).bind fun w => some (w, h)) = some (bI (decide (f = 0)), cst N h0 c') ∧ LR S F n z c c' (f, j, b') := by
  obtain ⟨c', q1, q2, q3, q4⟩ := k_fail (h0 := h0) (f := f) C hL h
  refine ⟨c', by rw [q1, xb2s, xz0, xbs, decide_eq_false hf]; rfl, frL.o q2 (by omega), fun e => absurd e hf, fun _ => q3⟩
/-- a new name -/
theorem k_pnn (C : CH ty N) (hL : LY c) {z j : Nat} (h : CT c F n z j) {w : Int} (hw : -1 ≤ w) (hw2 : w < 1000) : ∃ c', jf_X4_passNewName ty (cst N h0 c) (N + 226) (i32 w) = some (bI (decide ((tk F n j).1 = 2) && decide (w = -1)), cst N h0 c') ∧ fr 226 228 c c' ∧ ((tk F n j).1 = 2 → w = -1 → CT c' F n z (j + 1) ∧ cI c' 226 3 = cI c 226 3 ∧ cI c' 226 4 = cI c 226 4) ∧ ((tk F n j).1 ≠ 2 → FLT c' 1 (tk F n j).2.1) ∧ ((tk F n j).1 = 2 → w ≠ -1 → FLT c' 3 (tk F n j).2.1) := by
  have h61 := tk_k F n j
  have i5 : cI c 227 5 = i32 ((tk F n j).1 : Nat) := h.2.2.2.2.2.2.1
  obtain ⟨c1, q1, q2, q3, q4, q5⟩ := k_pass (h0 := h0) (k := 2) C hL (by omega) h
  have q1' : jf_X4_pass ty (cst N h0 c) (N + 226) (i32 2) = some (bI (decide ((tk F n j).1 = 2)), cst N h0 c1) := q1
  unfold jf_X4_passNewName
  simp (disch := omega) only [k_tks C hL, xbs, kI, i5, i32_lit, i32_neg]
  by_cases w1 : (tk F n j).1 = 2
  · have w1' : i32 ((tk F n j).1 : Nat) = i32 2 := by rw [w1]; rfl
    by_cases w2 : w = -1
    · have w2' : i32 w = i32 (-1) := by rw [w2]
      simp only [eq_true w1', if_true, eq_true w2', q1', xb2s, xz_b, xbs]
      exact ⟨c1, by rw [decide_eq_true w1, decide_eq_true w2]; rfl, q2, fun _ _ => q4 w1, fun e => absurd w1 e, fun _ e => absurd w2 e⟩
    · have w2' : ¬ i32 w = i32 (-1) := by rw [i32_eq (by omega) (by omega) (by omega) (by omega)]; exact w2
      obtain ⟨c', r1, r2, r3, r4⟩ := k_fail (h0 := h0) (f := 3) C hL h
      have r1' : jf_X4_fail ty (cst N h0 c) (N + 226) (i32 3) = some (i32 0, cst N h0 c') := r1
      simp only [eq_true w1', if_true, eq_false w2', if_false, r1', xb2s, xz0, xbs]
      exact ⟨c', by rw [decide_eq_true w1, decide_eq_false w2]; rfl, r2.wide (by omega) (by omega), fun _ e => absurd e w2, fun e => absurd w1 e, fun _ _ => r3⟩
  · have w1' : ¬ i32 ((tk F n j).1 : Nat) = i32 2 := by rw [i32_eq (by omega) (by omega) (by omega) (by omega)]; omega
    simp only [eq_false w1', if_false, q1', xb2s, xz_b, xbs]
    exact ⟨c1, by rw [decide_eq_false w1]; rfl, q2, fun e => absurd e w1, fun e => q5 e, fun e => absurd e w1⟩
theorem CB_S {c' : CS} {S a : Nat} {x : Int32} (hb : bwf b) (hS : S = 2 ∨ S = 108) (hB : CB c S b) (h7 : cI c' S 7 = i32 ((bns b + 1 : Nat) : Int)) (h8 : cI c' S 8 = cI c S 8) (h9 : cI c' S 9 = cI c S 9) (h1 : cA c' (S + 1) = fu (cA c (S + 1)) (bns b) x) (h2 : cA c' (S + 2) = fu (cA c (S + 2)) (bns b) (i32 (a : Nat))) (hf : ∀ q, S + 3 ≤ q → q < S + 106 → cI c' q = cI c q ∧ cA c' q = cA c q) (hR : cR c' = cR c) : CB c' S (bAddS b x a) := by
  obtain ⟨a1, a2, a3, a4, a5, a6⟩ := hB
  refine ⟨h7, h8.trans a2, h9.trans a3, fun k hk => ?_, fun k hk => ?_, fun r hr => ?_⟩
  · show cA c' (S + 1) k = fu (bsn b) (bns b) x k ∧ cA c' (S + 2) k = i32 ((fu (bsa b) (bns b) a k : Nat) : Int)
    have hk' : k < bns b + 1 := hk
    rw [h1, h2]
    by_cases w : k = bns b
    · rw [w, fu_same, fu_same, fu_same, fu_same]; exact ⟨rfl, rfl⟩
    · rw [fu_ne _ _ w, fu_ne _ _ w, fu_ne _ _ w, fu_ne _ _ w]
      exact a4 k (by omega)
  · rw [(hf (S + 3) (by omega) (by omega)).2]; exact a5 k hk
  · have hr' : r < bnr b := hr
    have h16 := hb.2.2.1
    obtain ⟨c1, c2, c3⟩ := a6 r hr'
    obtain ⟨t1, t2⟩ := hb.2.2.2.2 r hr'
    have hm : ∀ L : List Nat, (∀ d ∈ L, vc b d) → L.map (bar (bAddS b x a)) = L.map (bar b) := fun L hL => List.map_congr_left (fun d hd => bar_S hb.1 (hL d hd))
    have hcg : ∀ (t : Nat) (L : List Nat), (∀ d ∈ L, vc b d) → isT c t 12 (bar b) L → S + 3 ≤ t → t + 3 ≤ S + 106 → isT c' t 12 (bar (bAddS b x a)) L := fun t L hL hT u1 u2 => by
      have h' := hT.keep (hf t (by omega) (by omega)).1 (hf (t + 1) (by omega) (by omega)).2 (hf (t + 2) (by omega) (by omega)).2 (show cR c' t = cR c t by rw [hR])
      unfold isT at h' ⊢
      rw [hm L hL]
      exact h'
    refine ⟨by rw [(hf (S + 4) (by omega) (by omega)).2]; exact c1, hcg _ _ t1.2.2 c2 (by omega) (by omega), hcg _ _ ?_ c3 (by omega) (by omega)⟩
    rcases t2 with e | e
    · intro d hd
      have e' : bU (bAddS b x a) r = [] := e
      rw [e'] at hd
      cases hd
    · exact e.1.2.2
theorem k_addS (C : CH ty N) (hL : LY c) (hb : bwf b) {S a : Nat} {x : Int32} (hS : S = 2 ∨ S = 108) (h8 : bns b < 8) (hB : CB c S b) : ∃ c', jf_X0_addSign ty (cst N h0 c) (N + S) x (i32 (a : Nat)) = some (cst N h0 c') ∧ fr S (S + 106) c c' ∧ CB c' S (bAddS b x a) := by
  have hS3 : S < 273 := by omega
  obtain ⟨c1, hc1⟩ : ∃ c1, c1 = csA c (S + 1) (bns b) x := ⟨_, rfl⟩
  obtain ⟨c2, hc2⟩ : ∃ c2, c2 = csA c1 (S + 2) (bns b) (i32 (a : Nat)) := ⟨_, rfl⟩
  obtain ⟨c3, hc3⟩ : ∃ c3, c3 = csI c2 S 7 (i32 ((bns b + 1 : Nat) : Int)) := ⟨_, rfl⟩
  have f1 : fr S (S + 106) c c1 := by rw [hc1]; exact fr.A (by omega) (by omega)
  have f2 : fr S (S + 106) c1 c2 := by rw [hc2]; exact fr.A (by omega) (by omega)
  have f3 : fr S (S + 106) c2 c3 := by rw [hc3]; exact fr.I (by omega) (by omega)
  have hL1 := hL.same f1.2.1 f1.2.2
  have i1 : cI c1 S 7 = i32 (bns b : Nat) := by rw [hc1]; exact hB.1
  have i2 : cI c2 S 7 = i32 (bns b : Nat) := by rw [hc2]; exact i1
  have eI : ∀ q k, (q ≠ S ∨ k ≠ 7) → cI c3 q k = cI c q k := fun q k h => by rw [hc3, sI_o h, hc2, hc1]; rfl
  have eA : ∀ q, q ≠ S + 1 → q ≠ S + 2 → cA c3 q = cA c q := fun q e1 e2 => by rw [hc3, show cA (csI c2 S 7 (i32 ((bns b + 1 : Nat) : Int))) q = cA c2 q from rfl, hc2, sA_o e2, hc1, sA_o e1]
  refine ⟨c3, ?_, (f1.tr f2).tr f3, CB_S hb hS hB (by rw [hc3, sI_s]) (eI _ _ (by omega)) (eI _ _ (by omega)) ?_ ?_ (fun q q1 q2 => ⟨funext (fun k => eI q k (by omega)), eA q (by omega) (by omega)⟩) (by rw [f3.2.1, f2.2.1, f1.2.1])⟩
  · unfold jf_X0_addSign
    simp (disch := omega) only [kI hS3, hB.1, i32_lit, i32_neg, i32_add, i32_sub, i32_mul, i32_lt, i32_le, i32_eq, if_neg, kR hS3, (hL.bf hS).1, xbs, kwa C (ct_bk hS).2.1, Int.toNat_natCast]
    rw [← hc1]
    simp (disch := omega) only [kI hS3, i1, kR hS3, (hL1.bf hS).2.1, xbs, kwa C (ct_bk hS).2.2.1, Int.toNat_natCast]
    rw [← hc2]
    simp (disch := omega) only [kI hS3, i2, ksI hS3, i32_add, xbs]
    rw [show (bns b : Int) + 1 = ((bns b + 1 : Nat) : Int) by omega, ← hc3]
  · funext k
    rw [hc3, show cA (csI c2 S 7 (i32 ((bns b + 1 : Nat) : Int))) (S + 1) = cA c2 (S + 1) from rfl, hc2, sA_o (by omega), hc1]
    unfold fu
    split
    · rename_i w; rw [w, sA_s]
    · rename_i w; rw [sA_n w]
  · funext k
    rw [hc3, show cA (csI c2 S 7 (i32 ((bns b + 1 : Nat) : Int))) (S + 2) = cA c2 (S + 2) from rfl, hc2]
    unfold fu
    split
    · rename_i w; rw [w, sA_s]
    · rename_i w; rw [sA_n w, hc1, sA_o (by omega)]
theorem k_sgL (C : CH ty N) (hL : LY c) (hb : bwf b) {z j S : Nat} (hS : S = 2 ∨ S = 108) (h : CT c F n z j) (hB : CB c S b) : ∃ c', jf_X4_readSign ty (cst N h0 c) (N + 226) (N + S) = some (bI (decide ((sgL (tk F n) b j).1 = 0)), cst N h0 c') ∧ LR S F n z c c' (sgL (tk F n) b j) := by
  have h8 := hb.1
  have hS3 : S < 273 := by omega
  have hb0 := bw_0 hb
  unfold jf_X4_readSign
  simp (disch := omega) only [kI hS3, hB.1, i32_lit, i32_lt]
  by_cases w0 : bns b = 8
  · have w0' : ¬ (bns b : Int) < 8 := by omega
    have e : sgL (tk F n) b j = (2, j, b) := by unfold sgL; rw [if_pos w0]
    rw [e]
    simp only [eq_false w0', if_false]
    exact k_flL C hL h (by decide)
  · have w0' : (bns b : Int) < 8 := by omega
    obtain ⟨c1, a1, a2, a3⟩ := k_adv (h0 := h0) C hL h
    have hL1 := hL.same a2.2.1 a2.2.2
    have hB1 := hB.o hb.2.2.1 hS a2 (by omega)
    have i7 : cI c1 227 7 = tkV (tk F n) (j + 1) := a3.2.2.2.2.2.2.2.2
    have hr := lkN_rg ⟨h8, hb.2.1⟩ (tkV (tk F n) (j + 1))
    have hr2 : -1 ≤ lkN b (tkV (tk F n) (j + 1)) ∧ lkN b (tkV (tk F n) (j + 1)) < 1000 := by
      have := hb.2.1
      unfold vc at hr; omega
    obtain ⟨c2, p1, p2, p3, p4, p5⟩ := k_pnn (h0 := h0) C hL1 a3 hr2.1 hr2.2
    have hL2 := hL1.same p2.2.1 p2.2.2
    have hB2 := hB1.o hb.2.2.1 hS p2 (by omega)
    have f2 : frL S c c2 := (frL.o a2 (by omega)).tr (frL.o p2 (by omega))
    simp (disch := omega) only [eq_true w0', if_true, k_tks C hL, xbs, a1, k_tks C hL1, kI, i7, k_cdN C hL1 hS hb0 hB1.nm, p1, xb2s, bI_eq0]
    unfold sgL
    rw [if_neg w0]
    by_cases w1 : (tk F n (j + 1)).1 = 2
    · rw [if_neg (show ¬ (tk F n (j + 1)).1 ≠ 2 from fun e => e w1)]
      by_cases w2 : lkN b (tkV (tk F n) (j + 1)) = -1
      · rw [if_neg (show ¬ lkN b (tkV (tk F n) (j + 1)) ≠ -1 from fun e => e w2)]
        obtain ⟨x1, x2, x3⟩ := p3 w1 w2
        have h61 := tk_k F n (j + 2)
        have j5 : cI c2 227 5 = i32 ((tk F n (j + 2)).1 : Nat) := x1.2.2.2.2.2.2.1
        have j7 : cI c2 227 7 = i32 ((tk F n (j + 2)).2.2.1 : Nat) := x1.2.2.2.2.2.2.2.2
        have hpre : (decide ((tk F n (j + 1)).1 = 2) && decide (lkN b (tkV (tk F n) (j + 1)) = -1)) = true := by rw [decide_eq_true w1, decide_eq_true w2]; rfl
        simp (disch := omega) only [hpre, Bool.true_eq_false, if_false, k_tks C hL2, xbs, kI, j5, j7]
        obtain ⟨c3, g1, g2, g3, g4, g5⟩ := k_pass (h0 := h0) (k := 6) C hL2 (by omega) x1
        have g1' : jf_X4_pass ty (cst N h0 c2) (N + 226) (i32 6) = some (bI (decide ((tk F n (j + 2)).1 = 6)), cst N h0 c3) := g1
        have h73 : jf_X4_readSign_73 ty (N + 226) (N + S) (tkV (tk F n) (j + 1)) (cst N h0 c2) = if (tk F n (j + 2)).1 = 6 then (jf_X0_addSign ty (cst N h0 c3) (N + S) (tkV (tk F n) (j + 1)) (i32 ((tk F n (j + 2)).2.2.1 : Nat))).bind fun h5 => some (i32 1, h5) else some (i32 0, cst N h0 c3) := by
          unfold jf_X4_readSign_73
          simp (disch := omega) only [i32_lit, k_tks C hL2, xbs, g1', xb2s, bI_eq0, kI, j7]
          by_cases w : (tk F n (j + 2)).1 = 6
          · simp only [decide_eq_true w, if_pos w, Bool.true_eq_false, if_false]
          · simp only [decide_eq_false w, if_neg w, if_true]
        by_cases w3 : (tk F n (j + 2)).1 = 6
        · rw [if_neg (show ¬ (tk F n (j + 2)).1 ≠ 6 from fun e => e w3)]
          have w3' : i32 ((tk F n (j + 2)).1 : Nat) = i32 6 := by rw [w3]; rfl
          simp only [eq_true w3', if_true]
          have hv : (tk F n (j + 2)).2.2.1 ≤ 1000 := tk_num w3
          by_cases w4 : 3 < (tk F n (j + 2)).2.2.1
          · rw [if_pos w4]
            have w4' : ¬ i32 ((tk F n (j + 2)).2.2.1 : Nat) ≤ i32 3 := by rw [i32_le (by omega) (by omega) (by omega) (by omega)]; omega
            simp only [eq_false w4', if_false]
            obtain ⟨c4, r1, r2, r3, r4⟩ := k_flL (h0 := h0) (S := S) (b' := b) C hL2 x1 (show (2 : Nat) ≠ 0 by decide)
            exact ⟨c4, r1, f2.tr r2, fun e => (by cases e), r4⟩
          · rw [if_neg w4]
            have w4' : i32 ((tk F n (j + 2)).2.2.1 : Nat) ≤ i32 3 := by rw [i32_le (by omega) (by omega) (by omega) (by omega)]; omega
            simp only [eq_true w4', if_true]
            obtain ⟨y1, y2, y3⟩ := g4 w3
            have hL3 := hL2.same g2.2.1 g2.2.2
            have hB3 := hB2.o hb.2.2.1 hS g2 (by omega)
            have f3 : frL S c c3 := f2.tr (frL.o g2 (by omega))
            obtain ⟨c4, r1, r2, r3⟩ := k_addS (h0 := h0) (a := (tk F n (j + 2)).2.2.1) (x := tkV (tk F n) (j + 1)) C hL3 hb hS (by omega) hB3
            rw [h73, if_pos w3, r1, xbs]
            refine ⟨c4, rfl, f3.tr (frL.o r2 (by omega)), fun _ => ⟨y1.fr r2 (by omega), r3, ?_, ?_⟩, fun e => absurd rfl e⟩
            · rw [(r2.1 226 (by omega)).1, y2, x2, (a2.1 226 (by omega)).1]
            · rw [(r2.1 226 (by omega)).1, y3, x3, (a2.1 226 (by omega)).1]
        · rw [if_pos w3]
          have w3' : ¬ i32 ((tk F n (j + 2)).1 : Nat) = i32 6 := by rw [i32_eq (by omega) (by omega) (by omega) (by omega)]; omega
          simp only [eq_false w3', if_false, h73, if_neg w3]
          exact ⟨c3, rfl, f2.tr (frL.o g2 (by omega)), fun e => (by cases e), fun _ => g5 w3⟩
      · rw [if_pos w2]
        have hpre : (decide ((tk F n (j + 1)).1 = 2) && decide (lkN b (tkV (tk F n) (j + 1)) = -1)) = false := by rw [decide_eq_false w2, Bool.and_false]
        simp only [hpre, if_true]
        exact ⟨c2, rfl, f2, fun e => (by cases e), fun _ => p5 w1 w2⟩
    · rw [if_pos w1]
      have hpre : (decide ((tk F n (j + 1)).1 = 2) && decide (lkN b (tkV (tk F n) (j + 1)) = -1)) = false := by rw [decide_eq_false w1, Bool.false_and]
      simp only [hpre, if_true]
      exact ⟨c2, rfl, f2, fun e => (by cases e), fun _ => p4 w1⟩
end TEXTC

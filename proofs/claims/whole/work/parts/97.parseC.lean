/-! READING a term: the class, whole -/
def plF (T : Nat → Tk) (b : Bk) (lf : Option (List Nat)) (j : Nat) (L : List Nat) : Nat := if (T j).1 ≠ 2 then 1 else if 12 ≤ L.length then 2 else if lkN b (i32 ((T j).2.2.1 : Nat)) < 0 then 4 else if bdE lf (lkN b (i32 ((T j).2.2.1 : Nat))).toNat = false then 5 else 0
def plD (T : Nat → Tk) (b : Bk) (j : Nat) : Nat := (lkN b (i32 ((T j).2.2.1 : Nat))).toNat
theorem pT_s (T : Nat → Tk) (b : Bk) (lf : Option (List Nat)) (k j : Nat) (L aw : List Nat) : pT T b lf (k + 1) j L aw = if plF T b lf j L ≠ 0 then (plF T b lf j L, j, L) else if 0 < bar b (plD T b j) then (if (T (j + 1)).1 = 40 then pT T b lf k (j + 2) (L ++ [plD T b j]) (bar b (plD T b j) :: aw) else (1, j + 1, L ++ [plD T b j])) else if (clB T (j + 1) aw).1 ≠ 0 then (1, (clB T (j + 1) aw).2.1, L ++ [plD T b j]) else if (clB T (j + 1) aw).2.2 = [] then (0, (clB T (j + 1) aw).2.1, L ++ [plD T b j]) else pT T b lf k (clB T (j + 1) aw).2.1 (L ++ [plD T b j]) (clB T (j + 1) aw).2.2 := by
  unfold plF plD
  conv => lhs; unfold pT
  by_cases w1 : (T j).1 ≠ 2
  · rw [if_pos w1, if_pos w1, if_pos (by decide)]
  · rw [if_neg w1, if_neg w1]
    by_cases w2 : 12 ≤ L.length
    · rw [if_pos w2, if_pos w2, if_pos (by decide)]
    · rw [if_neg w2, if_neg w2]
      by_cases w3 : lkN b (i32 ((T j).2.2.1 : Nat)) < 0
      · rw [if_pos w3, if_pos w3, if_pos (by decide)]
      · rw [if_neg w3, if_neg w3]
        by_cases w4 : bdE lf (lkN b (i32 ((T j).2.2.1 : Nat))).toNat = false
        · rw [if_pos w4, if_pos w4, if_pos (by decide)]
        · rw [if_neg w4, if_neg w4, if_neg (show ¬ (0 : Nat) ≠ 0 by decide)]
theorem plF_0 {T : Nat → Tk} {b : Bk} {lf : Option (List Nat)} {j : Nat} {L : List Nat} (hb : bw0 b) (h : plF T b lf j L = 0) : (T j).1 = 2 ∧ L.length < 12 ∧ lkN b (i32 ((T j).2.2.1 : Nat)) = ((plD T b j : Nat) : Int) ∧ vc b (plD T b j) ∧ bdE lf (plD T b j) = true := by
  have hr := lkN_rg ⟨hb.1, hb.2.1⟩ (i32 ((T j).2.2.1 : Nat))
  unfold plF at h
  unfold plD
  split at h
  · cases h
  · rename_i w1
    split at h
    · cases h
    · split at h
      · cases h
      · split at h
        · cases h
        · rename_i w4
          rcases hr with h1 | ⟨h1, h2⟩
          · omega
          · refine ⟨by omega, by omega, by omega, h2, ?_⟩
            cases hx : bdE lf (lkN b (i32 ((T j).2.2.1 : Nat))).toNat with
            | true => rfl
            | false => exact absurd hx w4
section PARSEC
variable {ty : xTy} {N M : Nat} {hA hB h0 : xH} {mm mi : Nat → Nat} {c : CS} {I : Nat → Int32} {A : Nat → Nat → Int32} {J : Nat → Int64} {g : Sg} {b : Bk} {F : Nat → Nat} {n : Nat}
theorem k_rdP (C : CH ty N) (hb : bw0 b) (hL : LY c) {B u l z j : Nat} {L aw : List Nat} {lf : Option (List Nat)} (hB : B = 2 ∨ B = 108) (hu : B + 10 ≤ u ∨ u + 3 ≤ B) (hu2 : u + 3 ≤ 226) (hN : CNm c B b) (iU : isT c u 12 (bar b) L) (hAw : AWc c aw) (hT : CT c F n z j) (hl : ∀ T, lf = some T → isT c l 12 (bar b) T ∧ ∀ d ∈ T, d < 1000) :
    ∃ c', jf_X4_readPlace ty (cst N h0 c) (N + 226) (N + B) (N + u) (N + l) (bI lf.isSome) = some (bI (decide (plF (tk F n) b lf j L = 0)), cst N h0 c') ∧ frP u c c' ∧ (plF (tk F n) b lf j L = 0 → isT c' u 12 (bar b) (L ++ [plD (tk F n) b j]) ∧ AWc c' aw ∧ CT c' F n z (j + 1) ∧ cI c' 226 3 = cI c 226 3 ∧ cI c' 226 4 = cI c 226 4) ∧ (plF (tk F n) b lf j L ≠ 0 → FLT c' (plF (tk F n) b lf j L) (tk F n j).2.1) := by
  have h61 := tk_k F n j
  have hlu := ct_lt iU.1
  have hL12 := iU.2.2.2.2.2.1
  have h8 := hb.1
  have h4 := hb.2.1
  have i5 : cI c 227 5 = i32 ((tk F n j).1 : Nat) := hT.2.2.2.2.2.2.1
  have i7 : cI c 227 7 = i32 ((tk F n j).2.2.1 : Nat) := hT.2.2.2.2.2.2.2.2
  have hr := lkN_rg ⟨h8, h4⟩ (i32 ((tk F n j).2.2.1 : Nat))
  have hfl : ∀ f : Nat, plF (tk F n) b lf j L = f → f ≠ 0 → ∃ c', (xb2 (jf_X4_fail ty (cst N h0 c) (N + 226) (i32 (f : Nat))) fun a h => (xz a).bind fun w => some (w, h)) = some (bI (decide (plF (tk F n) b lf j L = 0)), cst N h0 c') ∧ frP u c c' ∧ (plF (tk F n) b lf j L = 0 → isT c' u 12 (bar b) (L ++ [plD (tk F n) b j]) ∧ AWc c' aw ∧ CT c' F n z (j + 1) ∧ cI c' 226 3 = cI c 226 3 ∧ cI c' 226 4 = cI c 226 4) ∧ (plF (tk F n) b lf j L ≠ 0 → FLT c' (plF (tk F n) b lf j L) (tk F n j).2.1) := by
    intro f hf hf0
    obtain ⟨c', q1, q2, q3, q4⟩ := k_fail (h0 := h0) (f := f) C hL hT
    refine ⟨c', ?_, frP.o q2 (by omega), fun h => absurd (hf.symm.trans h) hf0, fun _ => by rw [hf]; exact q3⟩
    rw [q1, xb2s, xz0, xbs, hf, decide_eq_false hf0]; rfl
  unfold jf_X4_readPlace
  simp (disch := omega) only [k_tks C hL, xbs, kI, i5, i7, kI hlu, iU.2.2.2.2.2.2.2.1, k_cdN C hL hB hb hN, i32_lit, i32_neg, i32_eq, i32_lt]
  by_cases w1 : (tk F n j).1 = 2
  · have w1' : (((tk F n j).1 : Nat) : Int) = 2 := by omega
    simp only [eq_true w1', if_true]
    by_cases w2 : L.length < 12
    · have w2' : (L.length : Int) < 12 := by omega
      simp only [eq_true w2', if_true]
      by_cases w3 : lkN b (i32 ((tk F n j).2.2.1 : Nat)) = -1
      · have w3' : i32 (lkN b (i32 ((tk F n j).2.2.1 : Nat))) = i32 (-1) := by rw [w3]
        simp only [eq_true w3', if_true]
        exact hfl 4 (by unfold plF; rw [if_neg (by omega), if_neg (by omega), if_pos (by omega)]) (by decide)
      · obtain ⟨r1, r2⟩ := hr.resolve_left w3
        have hd4 : plD (tk F n) b j < 104 := by have := r2; unfold vc at this; unfold plD; omega
        have hld : lkN b (i32 ((tk F n j).2.2.1 : Nat)) = ((plD (tk F n) b j : Nat) : Int) := by unfold plD; omega
        have hvd : vc b (plD (tk F n) b j) := r2
        have w3' : ¬ i32 ((plD (tk F n) b j : Nat) : Int) = i32 (-1) := by rw [i32_eq (by omega) (by omega) (by omega) (by omega)]; omega
        simp only [hld]
        simp only [eq_false w3', if_false]
        have h88 : ∀ (_ : plF (tk F n) b lf j L = 0), ∃ c', jf_X4_readPlace_88 ty (N + 226) (N + B) (N + u) (i32 (plD (tk F n) b j : Nat)) (cst N h0 c) = some (bI (decide (plF (tk F n) b lf j L = 0)), cst N h0 c') ∧ frP u c c' ∧ (plF (tk F n) b lf j L = 0 → isT c' u 12 (bar b) (L ++ [plD (tk F n) b j]) ∧ AWc c' aw ∧ CT c' F n z (j + 1) ∧ cI c' 226 3 = cI c 226 3 ∧ cI c' 226 4 = cI c 226 4) ∧ (plF (tk F n) b lf j L ≠ 0 → FLT c' (plF (tk F n) b lf j L) (tk F n j).2.1) := by
          intro hp0
          obtain ⟨c1, q1, q2, q3⟩ := k_adv (h0 := h0) C hL hT
          have hL1 := hL.same q2.2.1 q2.2.2
          have hN1 : CNm c1 B b := (frP.o (u := u) q2 (by omega)).nm hB hu hN
          obtain ⟨c2, r1, r2, r3⟩ := t_add (h0 := h0) C (iU.fr q2 (by omega)) w2 (plD (tk F n) b j)
          refine ⟨c2, ?_, (frP.o q2 (by omega)).tr (frP.u r3), fun _ => ⟨r2, ?_, q3.fr r3 (by omega), ?_, ?_⟩, fun h => absurd hp0 h⟩
          · unfold jf_X4_readPlace_88
            rw [k_tks C hL, xbs, q1, xbs, k_arN C hb hL1 hB hN1 hvd, xbs, r1, xb2s, xz1, xbs, hp0]
            rfl
          · exact (hAw.fr q2 (by rw [(q2.1 226 (by omega)).1]) (by omega)).fr r3 (by rw [(r3.1 226 (by omega)).1]) (by omega)
          · rw [(r3.1 226 (by omega)).1, (q2.1 226 (by omega)).1]
          · rw [(r3.1 226 (by omega)).1, (q2.1 226 (by omega)).1]
        have hpl : plF (tk F n) b lf j L = if bdE lf (plD (tk F n) b j) = false then 5 else 0 := by
          unfold plF
          rw [if_neg (by omega), if_neg (by omega), if_neg (by omega)]
          rfl
        cases hlf : lf with
        | none =>
          rw [hlf] at h88 hpl hfl
          have e0 : bI (none : Option (List Nat)).isSome = i32 0 := rfl
          simp only [e0, if_true]
          exact h88 (by rw [hpl]; rfl)
        | some T =>
          rw [hlf] at h88 hpl hfl
          have e0 : ¬ bI (some T).isSome = i32 0 := by show ¬ bI true = i32 0; decide
          simp only [eq_false e0, if_false]
          obtain ⟨iT, bT⟩ := hl T hlf
          have hlt := ct_lt iT.1
          have hT12 := iT.2.2.2.2.2.1
          by_cases w4 : plD (tk F n) b j < 100
          · have w4' : i32 (plD (tk F n) b j : Nat) < i32 100 := by rw [i32_lt (by omega) (by omega) (by omega) (by omega)]; omega
            simp only [eq_true w4', if_true]
            exact h88 (by rw [hpl]; simp only [bdE, decide_eq_true w4, Bool.true_or]; rfl)
          · have w4' : ¬ i32 (plD (tk F n) b j : Nat) < i32 100 := by rw [i32_lt (by omega) (by omega) (by omega) (by omega)]; omega
            simp only [eq_false w4', if_false, t_first C iT bT (show plD (tk F n) b j < 1000 by omega), xbs, kI hlt, iT.2.2.2.2.2.2.2.1]
            have hix := List.idxOf_le_length (a := plD (tk F n) b j) (l := T)
            by_cases w5 : plD (tk F n) b j ∈ T
            · have w5' : i32 ((T.idxOf (plD (tk F n) b j) : Nat) : Int) < i32 T.length := by
                rw [i32_lt (by omega) (by omega) (by omega) (by omega)]
                have := List.idxOf_lt_length_iff.mpr w5
                omega
              simp only [eq_true w5', if_true]
              exact h88 (by rw [hpl]; simp only [bdE, decide_eq_true w5, Bool.or_true]; rfl)
            · have w5' : ¬ i32 ((T.idxOf (plD (tk F n) b j) : Nat) : Int) < i32 T.length := by
                rw [i32_lt (by omega) (by omega) (by omega) (by omega)]
                intro h
                exact w5 (List.idxOf_lt_length_iff.mp (by omega))
              simp only [eq_false w5', if_false]
              exact hfl 5 (by rw [hpl]; simp only [bdE, decide_eq_false w5, decide_eq_false w4, Bool.or_false]; rfl) (by decide)
    · have w2' : ¬ (L.length : Int) < 12 := by omega
      simp only [eq_false w2', if_false]
      exact hfl 2 (by unfold plF; rw [if_neg (by omega), if_pos (by omega)]) (by decide)
  · have w1' : ¬ (((tk F n j).1 : Nat) : Int) = 2 := by omega
    simp only [eq_false w1', if_false]
    exact hfl 1 (by unfold plF; rw [if_pos (by omega)]) (by decide)
theorem k_rt15 (C : CH ty N) (hb : bw0 b) {B u l z : Nat} {lf : Option (List Nat)} (hB : B = 2 ∨ B = 108) (hu : B + 10 ≤ u ∨ u + 3 ≤ B) (hu2 : u + 3 ≤ 226) (hlu : ∀ T, lf = some T → l + 3 ≤ u ∨ u + 3 ≤ l) (hl2 : ∀ T, lf = some T → l + 3 ≤ 226) : ∀ (k j : Nat) (c : CS) (L aw : List Nat), L.length + k = 13 → LY c → CNm c B b → isT c u 12 (bar b) L → AWc c aw → aw.length ≤ L.length → (∀ a ∈ aw, 1 ≤ a ∧ a ≤ 3) → CT c F n z j → (∀ T, lf = some T → isT c l 12 (bar b) T ∧ ∀ d ∈ T, d < 1000) →
    ∃ m c', jf_X4_readTerm_15 ty m (N + 226) (N + B) (N + u) (N + l) (bI lf.isSome) (i32 1) (i32 L.length) (cst N h0 c) = some (bI (decide ((pT (tk F n) b lf k j L aw).1 = 0)), cst N h0 c') ∧ frP u c c' ∧ ((pT (tk F n) b lf k j L aw).1 = 0 → isT c' u 12 (bar b) (pT (tk F n) b lf k j L aw).2.2 ∧ CT c' F n z (pT (tk F n) b lf k j L aw).2.1 ∧ cI c' 226 3 = cI c 226 3 ∧ cI c' 226 4 = cI c 226 4) ∧ ((pT (tk F n) b lf k j L aw).1 ≠ 0 → FLT c' (pT (tk F n) b lf k j L aw).1 (tk F n (pT (tk F n) b lf k j L aw).2.1).2.1) := by
  have n10 : ¬ i32 1 = i32 0 := by decide
  intro k
  induction k with
  | zero =>
    intro j c L aw h1 hL hN iU
    have := iU.2.2.2.2.2.1
    omega
  | succ k ih =>
    intro j c L aw h1 hL hN iU hAw hal haw hT hl
    have hL12 := iU.2.2.2.2.2.1
    obtain ⟨c1, q1, q2, q3, q4⟩ := k_rdP (h0 := h0) C hb hL hB hu hu2 hN iU hAw hT hl
    have hL1 := q2.ly hL
    have hhead : ∀ m, jf_X4_readTerm_15 ty (m + 1) (N + 226) (N + B) (N + u) (N + l) (bI lf.isSome) (i32 1) (i32 L.length) (cst N h0 c) = if plF (tk F n) b lf j L ≠ 0 then some (i32 0, cst N h0 c1) else xb2 (jf_X4_closeBrackets ty (cst N h0 c1) (N + 226) (N + u)) fun a7 h6 => if a7 = i32 0 then some (i32 0, h6) else if (xI h6 (N + 226) 2) ≤ i32 0 then jf_X4_readTerm_15 ty m (N + 226) (N + B) (N + u) (N + l) (bI lf.isSome) (i32 0) (i32 ((L.length + 1 : Nat) : Int)) h6 else jf_X4_readTerm_15 ty m (N + 226) (N + B) (N + u) (N + l) (bI lf.isSome) (i32 1) (i32 ((L.length + 1 : Nat) : Int)) h6 := by
      intro m
      rw [jf_X4_readTerm_15_s]
      simp (disch := omega) only [i32_lit, i32_lt, if_neg, eq_false n10, if_false, q1, xb2s, bI_eq0, i32_add]
      rw [show (L.length : Int) + 1 = ((L.length + 1 : Nat) : Int) by omega]
      by_cases w : plF (tk F n) b lf j L = 0
      · rw [if_neg (show ¬ plF (tk F n) b lf j L ≠ 0 by omega), decide_eq_true w]
        rfl
      · rw [if_pos w, decide_eq_false w]
        rfl
    rw [pT_s]
    by_cases w0 : plF (tk F n) b lf j L ≠ 0
    · rw [if_pos w0]
      refine ⟨1, c1, ?_, q2, fun h => absurd h w0, fun _ => q4 w0⟩
      rw [hhead 0, if_pos w0, decide_eq_false w0]
      rfl
    · have w00 : plF (tk F n) b lf j L = 0 := by omega
      rw [if_neg w0]
      obtain ⟨y1, y2, y3, y4, y5⟩ := q3 w00
      obtain ⟨p1, p2, p3, p4, p5⟩ := plF_0 hb w00
      have hb3 := bar_le0 hb (plD (tk F n) b j)
      have hlu0 := ct_lt y1.1
      have hN1 := q2.nm hB hu hN
      have hll : (L ++ [plD (tk F n) b j]).length = L.length + 1 := by simp
      have hat : jf_X7_arityAt ty (cst N h0 c1) (N + u) (xI (cst N h0 c1) (N + u) 2 - i32 1) = some (i32 (bar b (plD (tk F n) b j) : Nat)) := by
        rw [kI hlu0, y1.2.2.2.2.2.2.2.1, hll, i32_sub, show ((L.length + 1 : Nat) : Int) - 1 = ((L.length : Nat) : Int) by omega, t_arityAt C y1 (by omega) (by omega), Int.toNat_natCast, List.getElem?_append_right (Nat.le_refl _), Nat.sub_self]
        rfl
      have hl1 : ∀ (c' : CS), frP u c c' → ∀ T, lf = some T → isT c' l 12 (bar b) T ∧ ∀ d ∈ T, d < 1000 := fun c' f T h => ⟨f.t (hl T h).1 (hlu T h) (Or.inl (hl2 T h)), (hl T h).2⟩
      by_cases w1 : 0 < bar b (plD (tk F n) b j)
      · rw [if_pos w1]
        obtain ⟨c2, r1, r2, r3, r4, r5⟩ := k_pass (h0 := h0) (k := 40) C hL1 (by omega) y3
        have w1' : ¬ ((bar b (plD (tk F n) b j) : Nat) : Int) ≤ 0 := by omega
        by_cases w2 : (tk F n (j + 1)).1 = 40
        · rw [if_pos w2]
          obtain ⟨x1, x2, x3⟩ := r4 w2
          have hL2 := hL1.same r2.2.1 r2.2.2
          have o2 : cI c2 226 2 = i32 (aw.length : Nat) := by rw [r3]; exact y2.1
          obtain ⟨c3, hc3⟩ : ∃ c3, c3 = csA c2 231 aw.length (i32 (bar b (plD (tk F n) b j) : Nat)) := ⟨_, rfl⟩
          obtain ⟨c4, hc4⟩ : ∃ c4, c4 = csI c3 226 2 (i32 ((aw.length + 1 : Nat) : Int)) := ⟨_, rfl⟩
          have f3 : fr 231 232 c2 c3 := by rw [hc3]; exact fr.A (by omega) (by omega)
          have f4 : fr 226 227 c3 c4 := by rw [hc4]; exact fr.I (by omega) (by omega)
          have o3 : cI c3 226 2 = i32 (aw.length : Nat) := by rw [hc3]; exact o2
          have hL3 := hL2.same f3.2.1 f3.2.2
          have fP : frP u c c4 := ((q2.tr (frP.o r2 (by omega))).tr (frP.o f3 (by omega))).tr (frP.o f4 (by omega))
          have fP1 : frP u c1 c4 := ((frP.o r2 (by omega)).tr (frP.o f3 (by omega))).tr (frP.o f4 (by omega))
          have iU4 : isT c4 u 12 (bar b) (L ++ [plD (tk F n) b j]) := ((y1.fr r2 (by omega)).fr f3 (by omega)).fr f4 (by omega)
          have hAw4 : AWc c4 (bar b (plD (tk F n) b j) :: aw) := by
            refine ⟨by rw [hc4, sI_s]; rfl, ?_⟩
            rw [(f4.1 231 (by omega)).2, List.reverse_cons]
            refine seg_snoc ?_ ?_
            · rw [hc3]
              exact sA_seg (by rw [(r2.1 231 (by omega)).2]; exact y2.2) (by rw [List.length_reverse]; omega)
            · rw [Nat.zero_add, List.length_reverse, hc3, sA_s]
          obtain ⟨m, c', z1, z2, z3, z4⟩ := ih (j + 2) c4 (L ++ [plD (tk F n) b j]) (bar b (plD (tk F n) b j) :: aw) (by rw [hll]; omega) (fP.ly hL) (fP.nm hB hu hN) iU4 hAw4 (by rw [hll]; simp only [List.length_cons]; omega) (fun a ha => by
            rcases List.mem_cons.mp ha with rfl | ha
            · omega
            · exact haw a ha) ((x1.fr f3 (by omega)).fr f4 (by omega)) (hl1 c4 fP)
          refine ⟨m + 1, c', ?_, fP.tr z2, fun h => ?_, z4⟩
          · have hop : jf_X4_openBracket ty (cst N h0 c2) (N + 226) (i32 (bar b (plD (tk F n) b j) : Nat)) = some (i32 1, cst N h0 c4) := by
              unfold jf_X4_openBracket
              simp (disch := omega) only [kI, o2, i32_lit, i32_neg, i32_add, i32_sub, i32_mul, i32_lt, i32_le, i32_eq, if_neg, if_pos, kR, hL2.wt, xbs, kwa C (show ct 231 = some (1, 12) by decide), Int.toNat_natCast]
              rw [← hc3]
              simp (disch := omega) only [kI, o3, ksI, i32_lit, i32_neg, i32_add, i32_sub, i32_mul, i32_lt, i32_le, i32_eq]
              rw [show (aw.length : Int) + 1 = ((aw.length + 1 : Nat) : Int) by omega, ← hc4]
            have hclo : jf_X4_closeBrackets ty (cst N h0 c1) (N + 226) (N + u) = some (i32 1, cst N h0 c4) := by
              unfold jf_X4_closeBrackets
              rw [show (1 : Int32) = i32 1 from rfl, hat, xbs]
              simp (disch := omega) only [i32_lit, i32_le, eq_false w1', if_false]
              rw [show i32 40 = i32 ((40 : Nat) : Int) from rfl, r1, xb2s, decide_eq_true w2]
              have nb : ¬ bI true = i32 0 := by decide
              simp only [eq_false nb, if_false, hop, xb2s, eq_false n10]
            have o4 : cI c4 226 2 = i32 ((aw.length + 1 : Nat) : Int) := by rw [hc4, sI_s]
            have hge : ¬ i32 ((aw.length + 1 : Nat) : Int) ≤ i32 0 := by rw [i32_le (by omega) (by omega) (by omega) (by omega)]; omega
            rw [hhead m, if_neg w0, hclo, xb2s]
            simp (disch := omega) only [eq_false n10, if_false, kI, o4, eq_false hge]
            rw [hll] at z1
            exact z1
          · obtain ⟨v1, v2, v3, v4⟩ := z3 h
            refine ⟨v1, v2, ?_, ?_⟩
            · rw [v3, hc4, sI_o (by omega), hc3, show ∀ q k, cI (csA c2 231 aw.length (i32 (bar b (plD (tk F n) b j) : Nat))) q k = cI c2 q k from fun _ _ => rfl, x2, y4]
            · rw [v4, hc4, sI_o (by omega), hc3, show ∀ q k, cI (csA c2 231 aw.length (i32 (bar b (plD (tk F n) b j) : Nat))) q k = cI c2 q k from fun _ _ => rfl, x3, y5]
        · rw [if_neg w2]
          refine ⟨1, c2, ?_, q2.tr (frP.o r2 (by omega)), fun h => (by cases h), fun _ => r5 w2⟩
          have hclo : jf_X4_closeBrackets ty (cst N h0 c1) (N + 226) (N + u) = some (i32 0, cst N h0 c2) := by
            unfold jf_X4_closeBrackets
            rw [show (1 : Int32) = i32 1 from rfl, hat, xbs]
            simp (disch := omega) only [i32_lit, i32_le, eq_false w1', if_false]
            rw [show i32 40 = i32 ((40 : Nat) : Int) from rfl, r1, xb2s, decide_eq_false w2]
            have nb : bI false = i32 0 := rfl
            simp only [nb, if_true]
          rw [hhead 0, if_neg w0, hclo, xb2s]
          rfl
      · rw [if_neg w1]
        have w1' : ((bar b (plD (tk F n) b j) : Nat) : Int) ≤ 0 := by omega
        obtain ⟨m1, c2, r1, r2', r3, r4⟩ := k_cl38 (h0 := h0) C aw (j + 1) c1 z hL1 (by omega) haw y2 y3
        have r2 := r2' u
        have y1' := (r2' 300).t y1 (by omega) (by omega)
        have fP := q2.tr r2
        have hclo : jf_X4_closeBrackets ty (cst N h0 c1) (N + 226) (N + u) = some (bI (decide ((clB (tk F n) (j + 1) aw).1 = 0)), cst N h0 c2) := by
          unfold jf_X4_closeBrackets
          rw [show (1 : Int32) = i32 1 from rfl, hat, xbs]
          simp (disch := omega) only [i32_lit, i32_le, eq_true w1', if_true]
          exact jf_X4_closeBrackets_38_l r1
        have hco := clB_ok (T := tk F n) aw (j + 1) (fun a ha => (haw a ha).2)
        by_cases w2 : (clB (tk F n) (j + 1) aw).1 = 0
        · rw [if_neg (show ¬ (clB (tk F n) (j + 1) aw).1 ≠ 0 from fun h => h w2)]
          obtain ⟨v1, v2, v3, v4⟩ := r3 w2
          obtain ⟨o1, o2, o3⟩ := hco.2 w2
          have nb : ¬ bI true = i32 0 := by decide
          rw [decide_eq_true w2] at hclo
          by_cases w3 : (clB (tk F n) (j + 1) aw).2.2 = []
          · rw [if_pos w3]
            rw [w3] at v1
            have e2 : cI c2 226 2 = i32 0 := v1.1
            have h00 : i32 0 ≤ i32 0 := by decide
            refine ⟨2, c2, ?_, fP, fun _ => ⟨y1', v2, v3.trans y4, v4.trans y5⟩, fun h => absurd rfl h⟩
            rw [hhead 1, if_neg w0, hclo, xb2s]
            simp (disch := omega) only [eq_false nb, if_false, kI, e2, eq_true h00, if_true]
            rw [jf_X4_readTerm_15_s]
            simp (disch := omega) only [i32_lit, i32_lt, if_neg, if_true]
            rfl
          · rw [if_neg w3]
            have hlen : 0 < (clB (tk F n) (j + 1) aw).2.2.length := List.length_pos_iff.mpr w3
            have e2 : cI c2 226 2 = i32 ((clB (tk F n) (j + 1) aw).2.2.length : Nat) := v1.1
            obtain ⟨m, c', z1, z2, z3, z4⟩ := ih (clB (tk F n) (j + 1) aw).2.1 c2 (L ++ [plD (tk F n) b j]) (clB (tk F n) (j + 1) aw).2.2 (by rw [hll]; omega) (fP.ly hL) (fP.nm hB hu hN) y1' v1 (by rw [hll]; omega) (fun a ha => ⟨(o3 a ha).elim (fun h => (haw a h).1) (fun h => h), o2 a ha⟩) v2 (hl1 c2 fP)
            have h00 : ¬ i32 ((clB (tk F n) (j + 1) aw).2.2.length : Nat) ≤ i32 0 := by rw [i32_le (by omega) (by omega) (by omega) (by omega)]; omega
            refine ⟨m + 1, c', ?_, fP.tr z2, fun h => ?_, z4⟩
            · rw [hhead m, if_neg w0, hclo, xb2s]
              simp (disch := omega) only [eq_false nb, if_false, kI, e2, eq_false h00]
              rw [hll] at z1
              exact z1
            · obtain ⟨x1, x2, x3, x4⟩ := z3 h
              exact ⟨x1, x2, x3.trans (v3.trans y4), x4.trans (v4.trans y5)⟩
        · rw [if_pos w2]
          refine ⟨1, c2, ?_, fP, fun h => (by cases h), fun _ => r4 w2⟩
          rw [hhead 0, if_neg w0, hclo, xb2s, decide_eq_false w2]
          rfl
end PARSEC

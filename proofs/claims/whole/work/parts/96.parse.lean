/-! READING a term: what is read; the class -/
/-- a bracket ends, or its next argument comes -/
def clB (T : Nat → Tk) : Nat → List Nat → Nat × Nat × List Nat
  | j, [] => (0, j, [])
  | j, a :: aw => if 1 < a then (if (T j).1 = 44 then (0, j + 1, (a - 1) :: aw) else (1, j, [])) else (if (T j).1 = 41 then clB T (j + 1) aw else (1, j, []))
/-- the code of a name -/
def lkN (b : Bk) (x : Int32) : Int := if 0 ≤ fndA (bsn b) 0 x 0 (bns b) then fndA (bsn b) 0 x 0 (bns b) else if 0 ≤ fndA (bvn b) 0 x 0 (bnv b) then 100 + fndA (bvn b) 0 x 0 (bnv b) else -1
/-- whether a variable is told where it must be -/
def bdE (lf : Option (List Nat)) (d : Nat) : Bool := match lf with
  | none => true
  | some T => decide (d < 100) || decide (d ∈ T)
/-- fault, the token, the codes -/
def pT (T : Nat → Tk) (b : Bk) (lf : Option (List Nat)) : Nat → Nat → List Nat → List Nat → Nat × Nat × List Nat
  | 0, j, L, _ => (1, j, L)
  | k + 1, j, L, aw =>
    if (T j).1 ≠ 2 then (1, j, L)
    else if 12 ≤ L.length then (2, j, L)
    else if lkN b (i32 ((T j).2.2.1 : Nat)) < 0 then (4, j, L)
    else if bdE lf (lkN b (i32 ((T j).2.2.1 : Nat))).toNat = false then (5, j, L)
    else if 0 < bar b (lkN b (i32 ((T j).2.2.1 : Nat))).toNat then
      (if (T (j + 1)).1 = 40 then pT T b lf k (j + 2) (L ++ [(lkN b (i32 ((T j).2.2.1 : Nat))).toNat]) (bar b (lkN b (i32 ((T j).2.2.1 : Nat))).toNat :: aw) else (1, j + 1, L ++ [(lkN b (i32 ((T j).2.2.1 : Nat))).toNat]))
    else if (clB T (j + 1) aw).1 ≠ 0 then (1, (clB T (j + 1) aw).2.1, L ++ [(lkN b (i32 ((T j).2.2.1 : Nat))).toNat])
    else if (clB T (j + 1) aw).2.2 = [] then (0, (clB T (j + 1) aw).2.1, L ++ [(lkN b (i32 ((T j).2.2.1 : Nat))).toNat])
    else pT T b lf k (clB T (j + 1) aw).2.1 (L ++ [(lkN b (i32 ((T j).2.2.1 : Nat))).toNat]) (clB T (j + 1) aw).2.2
theorem fndA_rg {f : Nat → Int32} {p : Nat} {x : Int32} : ∀ (m k : Nat), fndA f p x k m = -1 ∨ ((k : Int) ≤ fndA f p x k m ∧ fndA f p x k m < (k : Int) + m)
  | 0, k => by simp [fndA]
  | m + 1, k => by
    simp only [fndA]
    split
    · right; omega
    · rcases fndA_rg (f := f) (p := p) (x := x) m (k + 1) with h | h
      · exact Or.inl h
      · right; omega
theorem lkN_rg {b : Bk} (hb : bns b ≤ 8 ∧ bnv b ≤ 4) (x : Int32) : lkN b x = -1 ∨ (0 ≤ lkN b x ∧ vc b (lkN b x).toNat) := by
  unfold lkN vc
  have h1 := fndA_rg (f := bsn b) (p := 0) (x := x) (bns b) 0
  have h2 := fndA_rg (f := bvn b) (p := 0) (x := x) (bnv b) 0
  split
  · right; omega
  · split
    · right; omega
    · left; rfl
theorem clB_ok {T : Nat → Tk} : ∀ (aw : List Nat) (j : Nat), (∀ a ∈ aw, a ≤ 3) → (clB T j aw).1 ≤ 1 ∧ ((clB T j aw).1 = 0 → (clB T j aw).2.2.length ≤ aw.length ∧ (∀ a ∈ (clB T j aw).2.2, a ≤ 3) ∧ ∀ a ∈ (clB T j aw).2.2, a ∈ aw ∨ 1 ≤ a)
  | [], j, _ => by simp [clB]
  | a :: aw, j, h => by
    simp only [clB]
    split
    · split
      · refine ⟨Nat.zero_le _, fun _ => ⟨by simp, fun x hx => ?_, fun x hx => ?_⟩⟩
        · rcases List.mem_cons.mp hx with rfl | hx
          · have := h a List.mem_cons_self; omega
          · exact h x (List.mem_cons_of_mem _ hx)
        · rcases List.mem_cons.mp hx with rfl | hx
          · right; omega
          · left; exact List.mem_cons_of_mem _ hx
      · exact ⟨Nat.le_refl _, fun e => by cases e⟩
    · split
      · obtain ⟨i1, i2⟩ := clB_ok (T := T) aw (j + 1) (fun x hx => h x (List.mem_cons_of_mem _ hx))
        refine ⟨i1, fun e => ?_⟩
        obtain ⟨k1, k2, k3⟩ := i2 e
        exact ⟨by simp only [List.length_cons]; omega, k2, fun x hx => (k3 x hx).imp (fun h => List.mem_cons_of_mem _ h) (fun h => h)⟩
      · exact ⟨Nat.le_refl _, fun e => by cases e⟩
section PARSE
variable {ty : xTy} {N M : Nat} {hA hB h0 : xH} {mm mi : Nat → Nat} {c : CS} {I : Nat → Int32} {A : Nat → Nat → Int32} {J : Nat → Int64} {g : Sg} {b : Bk} {F : Nat → Nat} {n : Nat}
/-- the names of a book -/
def CNm (c : CS) (B : Nat) (b : Bk) : Prop := cI c B 7 = i32 (bns b) ∧ cI c B 8 = i32 (bnv b) ∧ (∀ k, k < bns b → cA c (B + 1) k = bsn b k ∧ cA c (B + 2) k = i32 (bsa b k)) ∧ ∀ k, k < bnv b → cA c (B + 3) k = bvn b k
def bw0 (b : Bk) : Prop := bns b ≤ 8 ∧ bnv b ≤ 4 ∧ ∀ d, bsa b d ≤ 3
theorem bar_le0 (h : bw0 b) (d : Nat) : bar b d ≤ 3 := by
  unfold bar
  split
  · exact h.2.2 d
  · omega
/-- only a term at u and the reader have changed -/
def frP (u : Nat) (c c' : CS) : Prop := (∀ q, ¬ (u ≤ q ∧ q < u + 3) → q ≠ 226 → q ≠ 227 → q ≠ 231 → cI c' q = cI c q ∧ cA c' q = cA c q) ∧ cR c' = cR c ∧ cP c' = cP c
theorem frP.rf {u : Nat} {c : CS} : frP u c c := ⟨fun _ _ _ _ _ => ⟨rfl, rfl⟩, rfl, rfl⟩
theorem frP.tr {u : Nat} {c d e : CS} (h1 : frP u c d) (h2 : frP u d e) : frP u c e := ⟨fun q a1 a2 a3 a4 => ⟨((h2.1 q a1 a2 a3 a4).1).trans (h1.1 q a1 a2 a3 a4).1, ((h2.1 q a1 a2 a3 a4).2).trans (h1.1 q a1 a2 a3 a4).2⟩, h2.2.1.trans h1.2.1, h2.2.2.trans h1.2.2⟩
theorem frP.u {u : Nat} {c c' : CS} (h : fr u (u + 3) c c') : frP u c c' := ⟨fun q a1 _ _ _ => h.1 q (by omega), h.2⟩
theorem frP.o {u lo hi : Nat} {c c' : CS} (h : fr lo hi c c') (h1 : (226 ≤ lo ∧ hi ≤ 228) ∨ (231 ≤ lo ∧ hi ≤ 232)) : frP u c c' := ⟨fun q _ a2 a3 a4 => h.1 q (by omega), h.2⟩
theorem frP.ly {u : Nat} {c c' : CS} (f : frP u c c') (h : LY c) : LY c' := h.same f.2.1 f.2.2
theorem frP.nm {u B : Nat} {c c' : CS} (f : frP u c c') (hB : B = 2 ∨ B = 108) (hu : B + 10 ≤ u ∨ u + 3 ≤ B) (h : CNm c B b) : CNm c' B b := by
  unfold CNm at *
  rw [(f.1 B (by omega) (by omega) (by omega) (by omega)).1, (f.1 (B + 1) (by omega) (by omega) (by omega) (by omega)).2, (f.1 (B + 2) (by omega) (by omega) (by omega) (by omega)).2, (f.1 (B + 3) (by omega) (by omega) (by omega) (by omega)).2]
  exact h
theorem frP.t {u t room : Nat} {c c' : CS} {ar : Nat → Nat} {T : List Nat} (f : frP u c c') (h : isT c t room ar T) (h1 : t + 3 ≤ u ∨ u + 3 ≤ t) (h2 : t + 3 ≤ 226 ∨ 232 ≤ t) : isT c' t room ar T :=
  h.keep (f.1 t (by omega) (by omega) (by omega) (by omega)).1 (f.1 (t + 1) (by omega) (by omega) (by omega) (by omega)).2 (f.1 (t + 2) (by omega) (by omega) (by omega) (by omega)).2 (by rw [f.2.1])
theorem CT.fr {c' : CS} {lo hi z j : Nat} (h : CT c F n z j) (f : fr lo hi c c') (hd : hi ≤ 227 ∨ 231 ≤ lo) : CT c' F n z j := by
  unfold CT TKS at *
  rw [(f.1 227 (by omega)).1, (f.1 228 (by omega)).2, (f.1 229 (by omega)).2, (f.1 230 (by omega)).2]
  exact h
theorem k_tks (C : CH ty N) (h : LY c) : xgo ty (cst N h0 c) (N + 226) 0 8 = some (N + 227) := k_sub C h (show (226, 0, 227) ∈ lyL by decide) (by omega) (show ct 227 = some (0, 8) by decide)
theorem LY.wt (h : LY c) : cR c 226 1 = 231 := h.1 _ (show (226, 1, 231) ∈ lyL by decide)
/-- a fault is told -/
def FLT (c' : CS) (f s : Nat) : Prop := cI c' 226 3 = i32 (f : Nat) ∧ cI c' 226 4 = i32 (s : Nat)
theorem k_fail (C : CH ty N) (hL : LY c) {z j f : Nat} (h : CT c F n z j) : ∃ c', jf_X4_fail ty (cst N h0 c) (N + 226) (i32 (f : Nat)) = some (i32 0, cst N h0 c') ∧ fr 226 227 c c' ∧ FLT c' f (tk F n j).2.1 ∧ cI c' 226 2 = cI c 226 2 := by
  obtain ⟨c1, hc1⟩ : ∃ c1, c1 = csI c 226 3 (i32 (f : Nat)) := ⟨_, rfl⟩
  obtain ⟨c2, hc2⟩ : ∃ c2, c2 = csI c1 226 4 (i32 ((tk F n j).2.1 : Nat)) := ⟨_, rfl⟩
  have f1 : fr 226 227 c c1 := by rw [hc1]; exact fr.I (by omega) (by omega)
  have f2 : fr 226 227 c1 c2 := by rw [hc2]; exact fr.I (by omega) (by omega)
  have hL1 := hL.same f1.2.1 f1.2.2
  have i6 : cI c1 227 6 = i32 ((tk F n j).2.1 : Nat) := by rw [(f1.1 227 (by omega)).1]; exact h.2.2.2.2.2.2.2.1
  refine ⟨c2, ?_, f1.tr f2, ⟨by rw [hc2, sI_o (by omega), hc1, sI_s], by rw [hc2, sI_s]⟩, by rw [hc2, sI_o (by omega), hc1, sI_o (by omega)]⟩
  unfold jf_X4_fail
  simp (disch := omega) only [ksI, xbs]
  rw [← hc1, k_tks C hL1, xbs, kI (by omega), i6, ← hc2]
  rfl
theorem tk_k (F : Nat → Nat) (n j : Nat) : (tk F n j).1 ≤ 61 := by
  have h1 : ∀ q, (tkA F n q).1 ≤ 61 := by
    intro q
    unfold tkA
    split
    · show (if 6 < run isLb F (n - q) q - q then 1 else wdK (hrn F q (run isLb F (n - q) q) 6)) ≤ 61
      unfold wdK
      split
      · omega
      · split
        · omega
        · split
          · omega
          · split <;> omega
    · split
      · show (6 : Nat) ≤ 61; omega
      · show mkK (F q) ≤ 61
        unfold mkK
        split <;> omega
  have h2 : ∀ k q, (lx F n k q).1 ≤ 61 := by
    intro k
    induction k with
    | zero => intro q; show (0 : Nat) ≤ 61; omega
    | succ k ih =>
      intro q
      simp only [lx]
      split
      · exact ih _
      · exact h1 q
  exact h2 _ _
theorem k_pass (C : CH ty N) (hL : LY c) {z j k : Nat} (hk : k ≤ 100) (h : CT c F n z j) : ∃ c', jf_X4_pass ty (cst N h0 c) (N + 226) (i32 (k : Nat)) = some (bI (decide ((tk F n j).1 = k)), cst N h0 c') ∧ fr 226 228 c c' ∧ cI c' 226 2 = cI c 226 2 ∧ ((tk F n j).1 = k → CT c' F n z (j + 1) ∧ cI c' 226 3 = cI c 226 3 ∧ cI c' 226 4 = cI c 226 4) ∧ ((tk F n j).1 ≠ k → FLT c' 1 (tk F n j).2.1) := by
  have h61 := tk_k F n j
  have i5 : cI c 227 5 = i32 ((tk F n j).1 : Nat) := h.2.2.2.2.2.2.1
  unfold jf_X4_pass
  simp (disch := omega) only [k_tks C hL, xbs, kI, i5, i32_eq]
  by_cases w : (tk F n j).1 = k
  · have w' : (((tk F n j).1 : Nat) : Int) = (k : Int) := by omega
    obtain ⟨c', q1, q2, q3⟩ := k_adv (h0 := h0) C hL h
    refine ⟨c', ?_, q2.wide (by omega) (by omega), by rw [(q2.1 226 (by omega)).1], fun _ => ⟨q3, by rw [(q2.1 226 (by omega)).1], by rw [(q2.1 226 (by omega)).1]⟩, fun hn => absurd w hn⟩
    simp only [eq_true w', if_true, q1, xbs]
    rw [decide_eq_true w]; rfl
  · have w' : ¬ (((tk F n j).1 : Nat) : Int) = (k : Int) := by omega
    obtain ⟨c', q1, q2, q3, q4⟩ := k_fail (h0 := h0) (f := 1) C hL h
    refine ⟨c', ?_, q2.wide (by omega) (by omega), q4, fun hn => absurd hn w, fun _ => q3⟩
    simp only [eq_false w', if_false]
    rw [show (1 : Int32) = i32 ((1 : Nat) : Int) from rfl, q1, xb2s, xz0, xbs, decide_eq_false w]; rfl
theorem k_cdN (C : CH ty N) (hL : LY c) {B : Nat} (hB : B = 2 ∨ B = 108) (hb : bw0 b) (h : CNm c B b) (x : Int32) : jf_X0_codeNamed ty (cst N h0 c) (N + B) x = some (i32 (lkN b x)) := by
  obtain ⟨n8, n4, n3⟩ := hb
  have hlB : B < 273 := by omega
  have r1 := fndA_rg (f := cA c (B + 1)) (p := 0) (x := x) (bns b) 0
  have r2 := fndA_rg (f := cA c (B + 3)) (p := 0) (x := x) (bnv b) 0
  have e1 : fndA (cA c (B + 1)) 0 x 0 (bns b) = fndA (bsn b) 0 x 0 (bns b) := fndA_cong _ _ (fun i _ h2 => (h.2.2.1 _ (by omega)).1)
  have e2 : fndA (cA c (B + 3)) 0 x 0 (bnv b) = fndA (bvn b) 0 x 0 (bnv b) := fndA_cong _ _ (fun i _ h2 => h.2.2.2 _ (by omega))
  unfold jf_X0_codeNamed lkN
  simp (disch := omega) only [kR hlB, (hL.bf hB).1, (hL.bf hB).2.2.1, xbs, kI hlB, h.1, h.2.1, k_place C (ct_bk hB).2.1 n8 (by omega), k_place C (ct_bk hB).2.2.2.1 n4 (by omega), i32_lit, i32_neg, i32_add, i32_sub, i32_mul, i32_lt, i32_le, i32_eq]
  rw [← e1, ← e2]
  by_cases w1 : fndA (cA c (B + 1)) 0 x 0 (bns b) < 0
  · have w1' : ¬ 0 ≤ fndA (cA c (B + 1)) 0 x 0 (bns b) := by omega
    simp only [eq_true w1, eq_false w1', if_true, if_false]
    by_cases w2 : fndA (cA c (B + 3)) 0 x 0 (bnv b) < 0
    · have w2' : ¬ 0 ≤ fndA (cA c (B + 3)) 0 x 0 (bnv b) := by omega
      simp only [eq_true w2, eq_false w2', if_true, if_false]
    · have w2' : 0 ≤ fndA (cA c (B + 3)) 0 x 0 (bnv b) := by omega
      simp only [eq_false w2, eq_true w2', if_true, if_false]
  · have w1' : 0 ≤ fndA (cA c (B + 1)) 0 x 0 (bns b) := by omega
    simp only [eq_false w1, eq_true w1', if_true, if_false]
theorem k_arN (C : CH ty N) (hb : bw0 b) (hL : LY c) {B : Nat} (hB : B = 2 ∨ B = 108) (h : CNm c B b) {d : Nat} (hd : vc b d) : jf_X0_arityOf ty (cst N h0 c) (N + B) (i32 d) = some (i32 (bar b d : Nat)) := by
  have h8 := hb.1
  have h4 := hb.2.1
  have hlB : B < 273 := by omega
  unfold vc at hd
  unfold jf_X0_arityOf
  simp (disch := omega) only [kI hlB, h.1, i32_lit, i32_neg, i32_add, i32_sub, i32_mul, i32_lt, i32_le, i32_eq, kR hlB, (hL.bf hB).2.1, xbs]
  rw [if_neg (by omega)]
  by_cases w : (bns b : Int) ≤ (d : Int)
  · rw [if_pos w]
    unfold bar
    rw [if_neg (by omega)]
    rfl
  · rw [if_neg w, if_neg (by omega), kga C (ct_bk hB).2.2.1 (by omega) (by omega) (by omega), Int.toNat_natCast, (h.2.2.1 d (by omega)).2]
    unfold bar
    rw [if_pos (by omega)]
    rfl
/-- brackets, as the class holds them -/
def AWc (c : CS) (aw : List Nat) : Prop := cI c 226 2 = i32 aw.length ∧ seg (cA c 231) 0 aw.reverse
theorem AWc.fr {c' : CS} {lo hi : Nat} {aw : List Nat} (h : AWc c aw) (f : fr lo hi c c') (h2 : cI c' 226 2 = cI c 226 2) (hd : hi ≤ 231 ∨ 232 ≤ lo) : AWc c' aw := ⟨by rw [h2]; exact h.1, by rw [(f.1 231 (by omega)).2]; exact h.2⟩
theorem k_cl38 (C : CH ty N) : ∀ (aw : List Nat) (j : Nat) (c : CS) (z : Nat), LY c → aw.length ≤ 12 → (∀ a ∈ aw, 1 ≤ a ∧ a ≤ 3) → AWc c aw → CT c F n z j →
    ∃ m c', jf_X4_closeBrackets_38 ty m (N + 226) (cst N h0 c) = some (bI (decide ((clB (tk F n) j aw).1 = 0)), cst N h0 c') ∧ (∀ u, frP u c c') ∧ ((clB (tk F n) j aw).1 = 0 → AWc c' (clB (tk F n) j aw).2.2 ∧ CT c' F n z (clB (tk F n) j aw).2.1 ∧ cI c' 226 3 = cI c 226 3 ∧ cI c' 226 4 = cI c 226 4) ∧ ((clB (tk F n) j aw).1 ≠ 0 → FLT c' 1 (tk F n (clB (tk F n) j aw).2.1).2.1) := by
  intro aw
  induction aw with
  | nil =>
    intro j c z hL h12 ha hA hT
    refine ⟨1, c, ?_, fun _ => frP.rf, fun _ => ⟨hA, hT, rfl, rfl⟩, fun h => absurd rfl h⟩
    have i2 : cI c 226 2 = i32 0 := hA.1
    rw [jf_X4_closeBrackets_38_s]
    simp (disch := omega) only [kI, i2, i32_lit, i32_neg, i32_add, i32_sub, i32_mul, i32_lt, i32_le, i32_eq, if_pos]
    rfl
  | cons a aw ih =>
    intro j c z hL h12 ha hA hT
    obtain ⟨a1, a3⟩ := ha a List.mem_cons_self
    simp only [List.length_cons] at h12
    have i2 : cI c 226 2 = i32 ((aw.length + 1 : Nat) : Int) := hA.1
    have hsg := hA.2
    rw [List.reverse_cons, seg_app, List.length_reverse, Nat.zero_add] at hsg
    have ea : cA c 231 aw.length = i32 (a : Nat) := by
      have := hsg.2 0 a rfl
      rw [Nat.add_zero] at this
      exact this
    obtain ⟨c1, hc1⟩ : ∃ c1, c1 = csA c 231 aw.length (i32 ((a - 1 : Nat) : Int)) := ⟨_, rfl⟩
    have f1 : fr 231 232 c c1 := by rw [hc1]; exact fr.A (by omega) (by omega)
    have hL1 := hL.same f1.2.1 f1.2.2
    have hT1 := hT.fr f1 (by omega)
    have j2 : cI c1 226 2 = i32 ((aw.length + 1 : Nat) : Int) := by rw [hc1]; exact i2
    have eb : cA c1 231 aw.length = i32 ((a - 1 : Nat) : Int) := by rw [hc1, sA_s]
    have hsg1 : seg (cA c1 231) 0 aw.reverse := by rw [hc1]; exact sA_seg hsg.1 (by rw [List.length_reverse]; omega)
    have hhead : ∀ m, jf_X4_closeBrackets_38 ty (m + 1) (N + 226) (cst N h0 c) = if ((a - 1 : Nat) : Int) ≤ 0 then xb2 (jf_X4_pass ty (cst N h0 c1) (N + 226) (i32 41)) fun a10 h9 => if a10 = i32 0 then some (i32 0, h9) else jf_X4_closeBrackets_38 ty m (N + 226) (xsI h9 (N + 226) 2 (xI h9 (N + 226) 2 - i32 1)) else xb2 (jf_X4_pass ty (cst N h0 c1) (N + 226) (i32 44)) fun a14 h13 => (xz a14).bind fun w15 => some (w15, h13) := by
      intro m
      rw [jf_X4_closeBrackets_38_s]
      simp (disch := omega) only [kI, i2, i32_lit, i32_le, i32_lt, if_neg, kR, hL.wt, xbs, i32_sub]
      rw [show ((aw.length + 1 : Nat) : Int) - 1 = ((aw.length : Nat) : Int) by omega]
      simp (disch := omega) only [kga C (show ct 231 = some (1, 12) by decide), kwa C (show ct 231 = some (1, 12) by decide), Int.toNat_natCast, ea, xbs, i32_sub]
      rw [show (a : Int) - 1 = ((a - 1 : Nat) : Int) by omega, ← hc1]
      simp (disch := omega) only [kI, j2, kR, hL1.wt, xbs, i32_sub]
      rw [show ((aw.length + 1 : Nat) : Int) - 1 = ((aw.length : Nat) : Int) by omega]
      simp (disch := omega) only [kga C (show ct 231 = some (1, 12) by decide), Int.toNat_natCast, eb, xbs, i32_le]
      by_cases w : ((a - 1 : Nat) : Int) ≤ 0
      · simp only [eq_true w, if_true]
        rfl
      · simp only [eq_false w, if_false]
    rw [show clB (tk F n) j (a :: aw) = (if 1 < a then (if (tk F n j).1 = 44 then (0, j + 1, (a - 1) :: aw) else (1, j, [])) else (if (tk F n j).1 = 41 then clB (tk F n) (j + 1) aw else (1, j, []))) from rfl]
    by_cases w : 1 < a
    · have w' : ¬ ((a - 1 : Nat) : Int) ≤ 0 := by omega
      obtain ⟨c', q1, q2, q3, q4, q5⟩ := k_pass (h0 := h0) (k := 44) C hL1 (by omega) hT1
      have hfP : ∀ u, frP u c c' := fun _ => (frP.o f1 (by omega)).tr (frP.o q2 (by omega))
      have hh : jf_X4_closeBrackets_38 ty 1 (N + 226) (cst N h0 c) = some (bI (decide ((tk F n j).1 = 44)), cst N h0 c') := by
        rw [hhead 0, if_neg w']
        rw [show i32 44 = i32 ((44 : Nat) : Int) from rfl, q1, xb2s, xz_b, xbs]
      rw [if_pos w]
      by_cases w4 : (tk F n j).1 = 44
      · rw [if_pos w4]
        obtain ⟨z1, z2, z3⟩ := q4 w4
        refine ⟨1, c', by rw [hh, decide_eq_true w4]; rfl, hfP, fun _ => ⟨⟨?_, ?_⟩, z1, ?_, ?_⟩, fun h => absurd rfl h⟩
        · rw [q3, j2]; rfl
        · rw [(q2.1 231 (by omega)).2, List.reverse_cons]
          exact seg_snoc hsg1 (by rw [Nat.zero_add, List.length_reverse]; exact eb)
        · rw [z2, hc1]; rfl
        · rw [z3, hc1]; rfl
      · rw [if_neg w4]
        exact ⟨1, c', by rw [hh, decide_eq_false w4]; rfl, hfP, fun h => (by cases h), fun _ => q5 w4⟩
    · have w' : ((a - 1 : Nat) : Int) ≤ 0 := by omega
      obtain ⟨c2, q1, q2, q3, q4, q5⟩ := k_pass (h0 := h0) (k := 41) C hL1 (by omega) hT1
      have hfP : ∀ u, frP u c c2 := fun _ => (frP.o f1 (by omega)).tr (frP.o q2 (by omega))
      rw [if_neg w]
      by_cases w4 : (tk F n j).1 = 41
      · rw [if_pos w4]
        obtain ⟨z1, z2, z3⟩ := q4 w4
        obtain ⟨c3, hc3⟩ : ∃ c3, c3 = csI c2 226 2 (i32 (aw.length : Nat)) := ⟨_, rfl⟩
        have f3 : fr 226 227 c2 c3 := by rw [hc3]; exact fr.I (by omega) (by omega)
        have k2 : cI c2 226 2 = i32 ((aw.length + 1 : Nat) : Int) := by rw [q3]; exact j2
        have hL2 := hL1.same q2.2.1 q2.2.2
        obtain ⟨m, c', y1, y2, y3, y4⟩ := ih (j + 1) c3 z (hL2.same f3.2.1 f3.2.2) (by omega) (fun x hx => ha x (List.mem_cons_of_mem _ hx)) ⟨by rw [hc3, sI_s], by rw [(f3.1 231 (by omega)).2, (q2.1 231 (by omega)).2]; exact hsg1⟩ (z1.fr f3 (by omega))
        refine ⟨m + 1, c', ?_, fun u => ((hfP u).tr (frP.o f3 (by omega))).tr (y2 u), fun h => ?_, y4⟩
        · rw [hhead m, if_pos w', show i32 41 = i32 ((41 : Nat) : Int) from rfl, q1, xb2s, decide_eq_true w4]
          have nb : ¬ bI true = i32 0 := by decide
          simp (disch := omega) only [eq_false nb, if_false, kI, k2, i32_sub, ksI]
          rw [show ((aw.length + 1 : Nat) : Int) - 1 = ((aw.length : Nat) : Int) by omega, ← hc3]
          exact y1
        · obtain ⟨x1, x2, x3, x4⟩ := y3 h
          refine ⟨x1, x2, ?_, ?_⟩
          · rw [x3, hc3, sI_o (by omega), z2, hc1]; rfl
          · rw [x4, hc3, sI_o (by omega), z3, hc1]; rfl
      · rw [if_neg w4]
        refine ⟨1, c2, ?_, hfP, fun h => (by cases h), fun _ => q5 w4⟩
        rw [hhead 0, if_pos w', show i32 41 = i32 ((41 : Nat) : Int) from rfl, q1, xb2s, decide_eq_false w4]
        rfl
end PARSE

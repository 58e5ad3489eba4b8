/-! MATCHER: mt in the class -/
def isM (c : CS) (m : Nat) : Prop := ct m = some (0, 3) ∧ ct (m + 1) = some (1, 12) ∧ cR c m 0 = m + 1
def BC (c : CS) (m : Nat) (ar : Nat → Nat) (T : List Nat) (b : Bd) : Prop := ∀ v, v < 12 → (b v = none → cA c (m + 1) v = i32 (-1)) ∧ ∀ s, b v = some s → ∃ p o : Nat, cA c (m + 1) v = i32 p ∧ p < T.length ∧ tms ar (1 + o) (T.drop p) ∧ s = fst1 ar (T.drop p)
section MATCHER
variable {ty : xTy} {N : Nat} {h0 : xH} {c : CS} {m g t rg rt : Nat} {ar : Nat → Nat} {G T : List Nat}
theorem isM.fr {c' : CS} {lo hi : Nat} (h : isM c m) (f : fr lo hi c c') : isM c' m := ⟨h.1, h.2.1, by rw [f.2.1]; exact h.2.2⟩
theorem m_init (C : CH ty N) (hM : isM c m) {v1 v2 : Nat} {v3 : Int32} : ∀ (k j n : Nat) (c : CS), isM c m → j + k = 12 → (∀ v, v < j → cA c (m + 1) v = i32 (-1)) → k < n →
    ∃ c', jf_X3_matches_3 ty n (N + m) v1 v2 v3 (i32 j) (cst N h0 c) = (xlim fun n30 => jf_X3_matches_30 ty n30 (N + m) v1 v2 v3 0 (cst N h0 c')) ∧ fr m (m + 2) c c' ∧ ∀ v, v < 12 → cA c' (m + 1) v = i32 (-1) := by
  intro k
  induction k with
  | zero =>
    intro j n c hM h1 h2 h3
    obtain ⟨n, rfl⟩ : ∃ n', n = n' + 1 := ⟨n - 1, by omega⟩
    refine ⟨c, ?_, fr.rf, fun v hv => h2 v (by omega)⟩
    rw [jf_X3_matches_3_s]
    rw [if_pos (show (12 : Int32) ≤ i32 j by simp (disch := omega) only [i32_lit, i32_neg, i32_add, i32_sub, i32_mul, i32_lt, i32_le, i32_eq]; omega)]
  | succ k ih =>
    intro j n c hM h1 h2 h3
    obtain ⟨n, rfl⟩ : ∃ n', n = n' + 1 := ⟨n - 1, by omega⟩
    have hlt := ct_lt hM.1
    obtain ⟨c', q1, q2, q3⟩ := ih (j + 1) n (csA c (m + 1) j (i32 (-1))) hM (by omega) (fun v hv => by
      rw [cA_A]
      by_cases hvj : v = j
      · subst hvj; exact fu2_same _ _ _ _
      · rw [fu2_ne _ _ (Or.inr hvj)]; exact h2 v (by omega)) (by omega)
    refine ⟨c', ?_, fr.tr (fr.A (by omega) (by omega)) q2, q3⟩
    rw [jf_X3_matches_3_s]
    rw [if_neg (show ¬ (12 : Int32) ≤ i32 j by simp (disch := omega) only [i32_lit, i32_neg, i32_add, i32_sub, i32_mul, i32_lt, i32_le, i32_eq]; omega)]
    simp (disch := omega) only [i32_lit, i32_neg, i32_add, i32_sub, i32_mul, i32_lt, i32_le, i32_eq, kR hlt, hM.2.2, xbs, kwa C hM.2.1]
    rw [show (j : Int) + 1 = ((j + 1 : Nat) : Int) by omega]
    simp only [Int.toNat_natCast]
    exact q1
theorem m_fill (C : CH ty N) (hM : isM c m) (hT : isT c t rt ar T) (ha : ∀ d ∈ T, ar d ≤ 3 ∧ d < 1000) {b : Bd} (hB : BC c m ar T b) {v a o : Nat} (hv : v < 12) (hat : a < T.length) (h1 : tms ar (1 + o) (T.drop a)) :
    (b v = none → jf_X3_fill ty (cst N h0 c) (N + m) (i32 v) (N + t) (i32 a) = some (i32 1, cst N h0 (csA c (m + 1) v (i32 a)))) ∧ ∀ s, b v = some s → jf_X3_fill ty (cst N h0 c) (N + m) (i32 v) (N + t) (i32 a) = some (bI (decide (s = fst1 ar (T.drop a))), cst N h0 c) := by
  have hlt := ct_lt hM.1
  have h60 : T.length ≤ 60 := by have := hT.2.2.2.2.2; omega
  obtain ⟨b1, b2⟩ := hB v hv
  constructor
  · intro hn
    unfold jf_X3_fill
    simp (disch := omega) only [i32_lit, i32_neg, i32_add, i32_sub, i32_mul, i32_lt, i32_le, i32_eq, if_neg, kR hlt, hM.2.2, xbs, kga C hM.2.1, Int.toNat_natCast, b1 hn, if_pos, if_true, kwa C hM.2.1]
  · intro s hs
    obtain ⟨p, op, k1, k2, k3, k4⟩ := b2 s hs
    unfold jf_X3_fill
    simp (disch := omega) only [i32_lit, i32_neg, i32_add, i32_sub, i32_mul, i32_lt, i32_le, i32_eq, if_neg, if_pos, kR hlt, hM.2.2, xbs, kga C hM.2.1, Int.toNat_natCast, k1]
    rw [t_alike C hT ha k3 h1 (by omega) (by omega), ← k4]
    simp only [xbs, xz_b]
theorem m_30 (C : CH ty N) (hgt : (g + 3 ≤ m ∨ m + 2 ≤ g) ∧ (t + 3 ≤ m ∨ m + 2 ≤ t)) (hg : ∀ d ∈ G, d < 112) (ha : ∀ d ∈ T, ar d ≤ 3 ∧ d < 1000) (hz : ∀ d, 100 ≤ d → ar d = 0) :
    ∀ (P S : List Nat) (o o' f a n : Nat) (b : Bd) (c : CS), isM c m → isT c g rg ar G → isT c t rt ar T → G.drop f = P → T.drop a = S → f ≤ G.length → a ≤ T.length → tms ar o P → tms ar (o + o') S → P.length < n → BC c m ar T b →
    ∃ c', jf_X3_matches_30 ty n (N + m) (N + g) (N + t) (i32 a) (i32 f) (cst N h0 c) = some (bI (mt ar P S b).isSome, cst N h0 c') ∧ fr m (m + 2) c c' ∧ ∀ b', mt ar P S b = some b' → BC c' m ar T b' := by
  intro P
  induction P with
  | nil =>
    intro S o o' f a n b c hM hG hT h1 h2 h3 h4 h5 h6 h7 h8
    obtain ⟨n, rfl⟩ : ∃ n', n = n' + 1 := ⟨n - 1, by omega⟩
    have g60 : G.length ≤ 60 := by have := hG.2.2.2.2.2; omega
    have hf : G.length ≤ f := by have := congrArg List.length h1; simp at this; omega
    refine ⟨c, ?_, fr.rf, fun b' hb' => by simp only [mt] at hb'; cases hb'; exact h8⟩
    rw [jf_X3_matches_30_s]
    simp (disch := omega) only [i32_lit, i32_neg, i32_add, i32_sub, i32_mul, i32_lt, i32_le, i32_eq, kI (ct_lt hG.1), hG.2.2.2.2.2.2.2.1, if_pos]
    rfl
  | cons d P ih =>
    intro S o o' f a n b c hM hG hT h1 h2 h3 h4 h5 h6 h7 h8
    obtain ⟨n, rfl⟩ : ∃ n', n = n' + 1 := ⟨n - 1, by omega⟩
    have g60 : G.length ≤ 60 := by have := hG.2.2.2.2.2; omega
    have t60 : T.length ≤ 60 := by have := hT.2.2.2.2.2; omega
    obtain ⟨o, rfl, h5p⟩ := tms_pos h5
    simp only [List.length_cons] at h7
    have hl := congrArg List.length h1
    simp only [List.length_drop, List.length_cons] at hl
    have hd : G[f]? = some d := by
      have := congrArg (fun l => l[0]?) h1
      simpa [List.getElem?_drop] using this
    have hP : G.drop (f + 1) = P := by rw [drop_cons hd] at h1; exact (List.cons.inj h1).2
    have hdb := hg d (List.mem_of_getElem? hd)
    cases S with
    | nil => simp [tms] at h6
    | cons e S =>
      have hl2 := congrArg List.length h2
      simp only [List.length_drop, List.length_cons] at hl2
      have he : T[a]? = some e := by
        have := congrArg (fun l => l[0]?) h2
        simpa [List.getElem?_drop] using this
      have hS : T.drop (a + 1) = S := by rw [drop_cons he] at h2; exact (List.cons.inj h2).2
      have heb := ha e (List.mem_of_getElem? he)
      have h6a : tms ar (1 + (o + o')) (T.drop a) := by rw [h2, show 1 + (o + o') = o + 1 + o' by omega]; exact h6
      have h6b : tms ar (o + o' + ar e) S := by
        have : tms ar ((o + o') + 1) (e :: S) := by rwa [show o + o' + 1 = o + 1 + o' by omega]
        exact this
      obtain ⟨f0, f1, f2, f3, f4, f5⟩ := fst1_split h6a
      rw [jf_X3_matches_30_s]
      simp (disch := omega) only [i32_lit, i32_neg, i32_add, i32_sub, i32_mul, i32_lt, i32_le, i32_eq, kI (ct_lt hG.1), hG.2.2.2.2.2.2.2.1, kI (ct_lt hT.1), hT.2.2.2.2.2.2.2.1, if_neg, if_pos, t_codeAt C hG, t_codeAt C hT, Int.toNat_natCast, hd, he, oI, xbs]
      by_cases hc : 100 ≤ d
      · rw [if_neg (by omega)]
        simp only [mt, if_pos hc]
        rw [show ((d : Int) - 100) = ((d - 100 : Nat) : Int) by omega]
        obtain ⟨m1, m2⟩ := m_fill (h0 := h0) C hM hT ha h8 (v := d - 100) (by omega) (show a < T.length by omega) h6a
        have hdl : T.drop (a + skipN ar 1 (T.drop a)) = snd1 ar (T.drop a) := by rw [snd1, List.drop_drop]
        have hlen : skipN ar 1 (T.drop a) ≤ T.length - a := by have := f4; simpa using this
        have hrec : ∀ (b2 : Bd) (c2 : CS), fr m (m + 2) c c2 → BC c2 m ar T b2 → ∃ c', jf_X3_matches_30 ty n (N + m) (N + g) (N + t) (i32 ((a + skipN ar 1 (T.drop a) : Nat) : Int)) (i32 ((f + 1 : Nat) : Int)) (cst N h0 c2) = some (bI (mt ar P (snd1 ar (T.drop a)) b2).isSome, cst N h0 c') ∧ fr m (m + 2) c2 c' ∧ ∀ b', mt ar P (snd1 ar (T.drop a)) b2 = some b' → BC c' m ar T b' := by
          intro b2 c2 hf2 hB2
          have ez : ar d = 0 := hz d hc
          exact ih (snd1 ar (T.drop a)) o o' (f + 1) (a + skipN ar 1 (T.drop a)) n b2 c2 (hM.fr hf2) (hG.fr hf2 hgt.1) (hT.fr hf2 hgt.2) hP hdl (by omega) (by omega) (by rw [ez] at h5p; exact h5p) f2 (by omega) hB2
        have hbh : ∀ c2 : CS, fr m (m + 2) c c2 → jf_X7_behind ty (cst N h0 c2) (N + t) (i32 a) = some (i32 ((a + skipN ar 1 (T.drop a) : Nat) : Int)) := fun c2 hf2 => t_behind C (hT.fr hf2 hgt.2) (fun x hx => (ha x hx).1) (by omega)
        rw [← h2]
        cases hbv : b (d - 100) with
        | none =>
          rw [m1 hbv]
          have hfr : fr m (m + 2) c (csA c (m + 1) (d - 100) (i32 a)) := fr.A (by omega) (by omega)
          obtain ⟨c', q1, q2, q3⟩ := hrec (fu b (d - 100) (some (fst1 ar (T.drop a)))) _ hfr (by
            intro w hw
            rw [cA_A]
            by_cases hwv : w = d - 100
            · subst hwv
              rw [fu_same, fu2_same]
              exact ⟨fun z => (by cases z), fun s hs => by cases hs; exact ⟨a, o + o', rfl, by omega, h6a, rfl⟩⟩
            · rw [fu_ne _ _ hwv, fu2_ne _ _ (Or.inr hwv)]
              exact h8 w hw)
          refine ⟨c', ?_, fr.tr hfr q2, q3⟩
          simp (disch := omega) only [xb2s, i32_lit, i32_neg, i32_add, i32_sub, i32_mul, i32_lt, i32_le, i32_eq, if_neg, hbh _ hfr, xbs]
          rw [show (f : Int) + 1 = ((f + 1 : Nat) : Int) by omega]
          exact q1
        | some s =>
          rw [m2 s hbv]
          simp only [xb2s, bI_eq0]
          by_cases hs : s = fst1 ar (T.drop a)
          · have hd1 : decide (s = fst1 ar (T.drop a)) = true := by simp [hs]
            obtain ⟨c', q1, q2, q3⟩ := hrec b c fr.rf h8
            simp only [hd1, if_pos hs]
            refine ⟨c', ?_, q2, q3⟩
            rw [if_neg (by decide), hbh c fr.rf]
            simp only [xbs]
            rw [show (f : Int) + 1 = ((f + 1 : Nat) : Int) by omega]
            exact q1
          · have hd1 : decide (s = fst1 ar (T.drop a)) = false := by simp [hs]
            simp only [hd1, if_neg hs, if_true]
            exact ⟨c, rfl, fr.rf, fun b' hb' => by cases hb'⟩
      · rw [if_pos (by omega)]
        simp only [mt, if_neg hc]
        by_cases hde : e = d
        · subst hde
          rw [if_pos rfl, if_pos rfl]
          rw [show (f : Int) + 1 = ((f + 1 : Nat) : Int) by omega, show (a : Int) + 1 = ((a + 1 : Nat) : Int) by omega]
          exact ih S (o + ar e) o' (f + 1) (a + 1) n b c hM hG hT hP hS (by omega) (by omega) h5p (by rwa [show o + ar e + o' = o + o' + ar e by omega]) (by omega) h8
        · rw [if_neg (by omega), if_neg hde]
          exact ⟨c, rfl, fr.rf, fun b' hb' => by cases hb'⟩
def b00 : Bd := fun _ => none
/-- Matcher.matches -/
theorem m_matches (C : CH ty N) (hM : isM c m) (hG : isT c g rg ar G) (hT : isT c t rt ar T) (hgt : (g + 3 ≤ m ∨ m + 2 ≤ g) ∧ (t + 3 ≤ m ∨ m + 2 ≤ t)) (hg : ∀ d ∈ G, d < 112) (ha : ∀ d ∈ T, ar d ≤ 3 ∧ d < 1000) (hz : ∀ d, 100 ≤ d → ar d = 0) {a o : Nat} (h1 : tms ar 1 G) (h2 : tms ar (1 + o) (T.drop a)) (h3 : a ≤ T.length) :
    ∃ c', jf_X3_matches ty (cst N h0 c) (N + m) (N + g) (N + t) (i32 a) = some (bI (mt ar G (T.drop a) b00).isSome, cst N h0 c') ∧ fr m (m + 2) c c' ∧ ∀ b', mt ar G (T.drop a) b00 = some b' → BC c' m ar T b' := by
  obtain ⟨c1, e1, f1, k1⟩ := m_init (h0 := h0) (v1 := N + g) (v2 := N + t) (v3 := i32 a) C hM 12 0 13 c hM (by omega) (fun v hv => by omega) (by omega)
  obtain ⟨c', q1, q2, q3⟩ := m_30 (h0 := h0) C hgt hg ha hz G (T.drop a) 1 o 0 a (G.length + 1) b00 c1 (hM.fr f1) (hG.fr f1 hgt.1) (hT.fr f1 hgt.2) (by simp) rfl (by omega) h3 h1 h2 (by omega) (fun v hv => ⟨fun _ => k1 v hv, fun s hs => by cases hs⟩)
  refine ⟨c', ?_, fr.tr f1 q2, q3⟩
  refine jf_X3_matches_3_l (n := 13) ?_
  exact e1.trans (jf_X3_matches_30_l q1)
end MATCHER

/-! MATCHING of rows of codes -/
def fst1 (ar : Nat → Nat) (S : List Nat) : List Nat := S.take (skipN ar 1 S)
def snd1 (ar : Nat → Nat) (S : List Nat) : List Nat := S.drop (skipN ar 1 S)
abbrev Bd : Type := Nat → Option (List Nat)
def mt (ar : Nat → Nat) : List Nat → List Nat → Bd → Option Bd
  | [], _, b => some b
  | _ :: _, [], _ => none
  | c :: P, d :: S, b => if 100 ≤ c then (match b (c - 100) with
      | none => mt ar P (snd1 ar (d :: S)) (fu b (c - 100) (some (fst1 ar (d :: S))))
      | some s => if s = fst1 ar (d :: S) then mt ar P (snd1 ar (d :: S)) b else none)
    else if d = c then mt ar P S b else none
theorem fu_same {α : Type} (f : Nat → α) (k : Nat) (v : α) : fu f k v k = v := by simp [fu]
theorem fu_ne {α : Type} (f : Nat → α) {k x : Nat} (v : α) (h : x ≠ k) : fu f k v x = f x := by simp [fu, h]
theorem fu2_same {α : Type} (f : Nat → Nat → α) (k i : Nat) (v : α) : fu2 f k i v k i = v := by simp [fu2]
theorem fu2_ne {α : Type} (f : Nat → Nat → α) {k i x y : Nat} (v : α) (h : x ≠ k ∨ y ≠ i) : fu2 f k i v x y = f x y := by
  simp only [fu2]
  rw [if_neg]
  rintro ⟨rfl, rfl⟩
  simp at h
theorem fu2_row {α : Type} (f : Nat → Nat → α) {k i x : Nat} (v : α) (h : x ≠ k) : fu2 f k i v x = f x := by
  funext y
  exact fu2_ne f v (Or.inl h)
theorem fst1_split {ar : Nat → Nat} {o : Nat} {S : List Nat} (h : tms ar (1 + o) S) : fst1 ar S ++ snd1 ar S = S ∧ tms ar 1 (fst1 ar S) ∧ tms ar o (snd1 ar S) ∧ (fst1 ar S).length = skipN ar 1 S ∧ skipN ar 1 S ≤ S.length ∧ 1 ≤ skipN ar 1 S := by
  obtain ⟨a, b, d⟩ := tms_split h
  refine ⟨List.take_append_drop _ _, a, b, by simp [fst1, d], d, ?_⟩
  have := tms_len a
  simp at this
  omega
theorem seg_congr {f g : Nat → Int32} {p : Nat} {L : List Nat} (h : seg f p L) (e : ∀ j, p ≤ j → j < p + L.length → g j = f j) : seg g p L := by
  intro i c hc
  have hi : i < L.length := (List.getElem?_eq_some_iff.mp hc).1
  rw [e (p + i) (by omega) (by omega)]
  exact h i c hc
/-- arities of codes, as the reference's row has them -/
def arR (A : Nat → Nat → Int32) (ar : Nat → Nat) (L : List Nat) : Prop := ∀ c ∈ L, (c < 100 → c < 8 ∧ A 19 c = i32 (ar c)) ∧ (100 ≤ c → ar c = 0) ∧ c < 148 ∧ ar c ≤ 3
theorem arR.sub {A : Nat → Nat → Int32} {ar : Nat → Nat} {L K : List Nat} (h : arR A ar L) (hs : ∀ c ∈ K, c ∈ L) : arR A ar K := fun c hc => h c (hs c hc)
theorem arR.drop {A : Nat → Nat → Int32} {ar : Nat → Nat} {L : List Nat} (h : arR A ar L) (k : Nat) : arR A ar (L.drop k) := h.sub (fun _ hc => List.mem_of_mem_drop hc)
theorem arR.take {A : Nat → Nat → Int32} {ar : Nat → Nat} {L : List Nat} (h : arR A ar L) (k : Nat) : arR A ar (L.take k) := h.sub (fun _ hc => List.mem_of_mem_take hc)
theorem arR.row {A A' : Nat → Nat → Int32} {ar : Nat → Nat} {L : List Nat} (h : arR A ar L) (e : A' 19 = A 19) : arR A' ar L := fun c hc => by
  rw [e]
  exact h c hc
section REF1
variable {ty : xTy} {M : Nat} {mm mi : Nat → Nat} {h0 : xH} {I : Nat → Int32} {A : Nat → Nat → Int32} {J : Nat → Int64} {ar : Nat → Nat}
theorem arR.ok (H : MH ty M mm mi h0) {L : List Nat} (h : arR A ar L) : arOK ty (rst mm mi h0 M I A J) (mm 19) ar L := by
  refine ⟨⟨16, (H.2 19 (by decide)).2.1, by omega, fun c hc h1 => ?_⟩, fun c hc => ?_⟩
  · obtain ⟨q1, q2⟩ := (h c hc).1 h1
    exact ⟨by omega, by rw [rA_of H (by decide)]; exact q2⟩
  · obtain ⟨-, q2, q3, q4⟩ := h c hc
    exact ⟨q2, by omega, q4⟩
theorem r_endAt (H : MH ty M mm mi h0) {L : List Nat} {o' p : Nat} (h1 : tms ar (1 + o') L) (h2 : seg (A 32) p L) (h3 : arR A ar L) (h4 : p + L.length ≤ 400) : jf_X12_endAt ty (rst mm mi h0 M I A J) M (i32 p) = some (i32 ((p + skipN ar 1 L : Nat) : Int)) := by
  unfold jf_X12_endAt
  simp only [rr_32 H, rr_19 H, xbs]
  rw [r_end (H.2 32 (by decide)).2.1 (by decide) h1 (by intro i c hc; rw [rA_of H (by decide)]; exact h2 i c hc) (h3.ok H) h4]
  rfl
theorem r_alike24 (H : MH ty M mm mi h0) {a b nn : Nat} : ∀ (X Y : List Nat) (k n : Nat), X.length = Y.length → k + X.length = nn → seg (A 32) (a + k) X → seg (A 32) (b + k) Y → (∀ c ∈ X, c < 1000) → (∀ c ∈ Y, c < 1000) → a + nn ≤ 400 → b + nn ≤ 400 → X.length < n →
    jf_X12_isAlike_24 ty (rst mm mi h0 M I A J) n M (i32 a) (i32 b) (i32 nn) (i32 k) = some (bI (decide (X = Y))) := by
  intro X
  induction X with
  | nil =>
    intro Y k n h1 h2 h3 h4 h5 h6 h7 h8 h9
    obtain ⟨n, rfl⟩ : ∃ n', n = n' + 1 := ⟨n - 1, by omega⟩
    obtain rfl : Y = [] := List.length_eq_zero_iff.mp (by simpa using h1.symm)
    simp only [List.length_nil] at h2
    rw [jf_X12_isAlike_24_s]
    simp (disch := omega) only [i32_lit, i32_neg, i32_add, i32_sub, i32_mul, i32_lt, i32_le, i32_eq, if_pos]
    rfl
  | cons c X ih =>
    intro Y k n h1 h2 h3 h4 h5 h6 h7 h8 h9
    obtain ⟨n, rfl⟩ : ∃ n', n = n' + 1 := ⟨n - 1, by omega⟩
    cases Y with
    | nil => simp at h1
    | cons d Y =>
      simp only [List.length_cons] at h1 h2 h9
      obtain ⟨g1, g2⟩ := seg_cons.mp h3
      obtain ⟨g3, g4⟩ := seg_cons.mp h4
      have hc := h5 c List.mem_cons_self
      have hd := h6 d List.mem_cons_self
      rw [jf_X12_isAlike_24_s]
      simp (disch := omega) only [i32_lit, i32_neg, i32_add, i32_sub, i32_mul, i32_lt, i32_le, i32_eq, if_neg, rr_32 H, xbs, ga_32 H]
      rw [show ((a : Int) + k).toNat = a + k by omega, show ((b : Int) + k).toNat = b + k by omega, g1, g3]
      simp (disch := omega) only [i32_lit, i32_neg, i32_add, i32_sub, i32_mul, i32_lt, i32_le, i32_eq]
      rw [show ((k : Int) + 1) = ((k + 1 : Nat) : Int) by omega, ih Y (k + 1) n (by omega) (by omega) (by rw [show a + (k + 1) = a + k + 1 by omega]; exact g2) (by rw [show b + (k + 1) = b + k + 1 by omega]; exact g4) (fun x hx => h5 x (List.mem_cons_of_mem _ hx)) (fun x hx => h6 x (List.mem_cons_of_mem _ hx)) h7 h8 (by omega)]
      by_cases hcd : c = d
      · subst hcd
        simp
      · have : ¬ (c : Int) = (d : Int) := by omega
        simp [hcd, this, bI]
theorem r_alike (H : MH ty M mm mi h0) {a b oa ob : Nat} {X Y : List Nat} (h1 : tms ar (1 + oa) X) (h2 : tms ar (1 + ob) Y) (h3 : seg (A 32) a X) (h4 : seg (A 32) b Y) (h5 : arR A ar X) (h6 : arR A ar Y) (h7 : a + X.length ≤ 400) (h8 : b + Y.length ≤ 400) :
    jf_X12_isAlike ty (rst mm mi h0 M I A J) M (i32 a) (i32 b) = some (bI (decide (fst1 ar X = fst1 ar Y))) := by
  obtain ⟨-, x1, -, x2, x3, x4⟩ := fst1_split h1
  obtain ⟨-, y1, -, y2, y3, y4⟩ := fst1_split h2
  unfold jf_X12_isAlike
  simp only [r_endAt H h1 h3 h5 h7, r_endAt H h2 h4 h6 h8, xbs, i32_lit, i32_neg, i32_add, i32_sub, i32_mul, i32_lt, i32_le, i32_eq]
  rw [show (((b + skipN ar 1 Y : Nat) : Int) - b) = (skipN ar 1 Y : Int) by omega, show (((a + skipN ar 1 X : Nat) : Int) - a) = (skipN ar 1 X : Int) by omega]
  simp (disch := omega) only [i32_lit, i32_neg, i32_add, i32_sub, i32_mul, i32_lt, i32_le, i32_eq]
  by_cases he : skipN ar 1 Y = skipN ar 1 X
  · rw [if_pos (by omega)]
    refine xlim_of (skipN ar 1 X + 1) (fun n hn => ?_)
    refine r_alike24 H (fst1 ar X) (fst1 ar Y) 0 n (by omega) (by omega) (seg_take h3 _) (seg_take h4 _) (fun c hc => ?_) (fun c hc => ?_) (by omega) (by omega) (by omega)
    · have := (h5.take (skipN ar 1 X)) c hc; omega
    · have := (h6.take (skipN ar 1 Y)) c hc; omega
  · rw [if_neg (by omega)]
    have : ¬ fst1 ar X = fst1 ar Y := fun z => he (by rw [← y2, ← x2, z])
    simp [this, bI]
/-- what is bound, as places in the heap -/
def BR (A : Nat → Nat → Int32) (ar : Nat → Nat) (b : Bd) : Prop := ∀ v, v < 48 → (b v = none → A 34 v = i32 (-1)) ∧ ∀ s, b v = some s → ∃ (p o : Nat) (K : List Nat), A 34 v = i32 p ∧ seg (A 32) p K ∧ tms ar (1 + o) K ∧ arR A ar K ∧ p + K.length ≤ 400 ∧ s = fst1 ar K
theorem BR.set {b : Bd} {j o v : Nat} {K : List Nat} (h : BR A ar b) (h1 : seg (A 32) j K) (h2 : tms ar (1 + o) K) (h3 : arR A ar K) (h4 : j + K.length ≤ 400) : BR (fu2 A 34 v (i32 j)) ar (fu b v (some (fst1 ar K))) := by
  intro w hw
  have e32 : fu2 A 34 v (i32 j) 32 = A 32 := fu2_row A _ (by decide)
  have e19 : fu2 A 34 v (i32 j) 19 = A 19 := fu2_row A _ (by decide)
  by_cases hv : w = v
  · subst hv
    rw [fu_same]
    refine ⟨fun z => (by cases z), fun s hs => ?_⟩
    cases hs
    exact ⟨j, o, K, fu2_same _ _ _ _, by rw [e32]; exact h1, h2, h3.row e19, h4, rfl⟩
  · rw [fu_ne _ _ hv, fu2_ne _ _ (Or.inr hv)]
    refine ⟨(h w hw).1, fun s hs => ?_⟩
    obtain ⟨p, o, K, q1, q2, q3, q4, q5, q6⟩ := (h w hw).2 s hs
    exact ⟨p, o, K, q1, by rw [e32]; exact q2, q3, q4.row e19, q5, q6⟩
theorem BR.again {b : Bd} {j o v : Nat} {K : List Nat} (h : BR A ar b) (h1 : seg (A 32) j K) (h2 : tms ar (1 + o) K) (h3 : arR A ar K) (h4 : j + K.length ≤ 400) (hb : b v = some (fst1 ar K)) : BR (fu2 A 34 v (i32 j)) ar b := by
  have := BR.set (v := v) h h1 h2 h3 h4
  have e : fu b v (some (fst1 ar K)) = b := by
    funext w
    by_cases hv : w = v
    · subst hv; rw [fu_same, hb]
    · rw [fu_ne _ _ hv]
  rwa [e] at this
def but (k : Nat) (A A' : Nat → Nat → Int32) : Prop := ∀ x, x ≠ k → A' x = A x
theorem but.rf {k : Nat} {A : Nat → Nat → Int32} : but k A A := fun _ _ => rfl
theorem but.tr {k : Nat} {A B C : Nat → Nat → Int32} (h1 : but k A B) (h2 : but k B C) : but k A C := fun x hx => (h2 x hx).trans (h1 x hx)
theorem but.fu {k i : Nat} {v : Int32} {A : Nat → Nat → Int32} : but k A (fu2 A k i v) := fun x hx => fu2_row A v hx
theorem r_made12 (H : MH ty M mm mi h0) {fin : Nat} : ∀ (P S : List Nat) (o o' i j n : Nat) (b : Bd) (A : Nat → Nat → Int32), tms ar o P → tms ar (o + o') S → seg (A 32) i P → seg (A 32) j S → arR A ar P → arR A ar S → i + P.length = fin → fin ≤ 400 → j + S.length ≤ 400 → P.length < n → BR A ar b →
    ∃ A', jf_X12_isMade_12 ty n M (i32 fin) (i32 j) (i32 i) (rst mm mi h0 M I A J) = some (bI (mt ar P S b).isSome, rst mm mi h0 M I A' J) ∧ but 34 A A' ∧ ∀ b', mt ar P S b = some b' → BR A' ar b' := by
  intro P
  induction P with
  | nil =>
    intro S o o' i j n b A h1 h2 h3 h4 h5 h6 h7 h8 h9 h10 h11
    obtain ⟨n, rfl⟩ : ∃ n', n = n' + 1 := ⟨n - 1, by omega⟩
    simp only [List.length_nil] at h7
    refine ⟨A, ?_, but.rf, fun b' hb' => by simp only [mt] at hb'; cases hb'; exact h11⟩
    rw [jf_X12_isMade_12_s]
    simp (disch := omega) only [i32_lit, i32_neg, i32_add, i32_sub, i32_mul, i32_lt, i32_le, i32_eq, if_pos]
    rfl
  | cons c P ih =>
    intro S o o' i j n b A h1 h2 h3 h4 h5 h6 h7 h8 h9 h10 h11
    obtain ⟨n, rfl⟩ : ∃ n', n = n' + 1 := ⟨n - 1, by omega⟩
    obtain ⟨o, rfl, h1p⟩ := tms_pos h1
    simp only [List.length_cons] at h7 h10
    cases S with
    | nil => simp [tms] at h2
    | cons d S =>
      have h2a : tms ar (1 + (o + o')) (d :: S) := by rwa [show 1 + (o + o') = o + 1 + o' by omega]
      have h2b : tms ar (o + o' + ar d) S := by
        have : tms ar ((o + o') + 1) (d :: S) := by rwa [show o + o' + 1 = 1 + (o + o') by omega]
        exact this
      obtain ⟨f0, f1, f2, f3, f4, f5⟩ := fst1_split h2a
      obtain ⟨g1, g2⟩ := seg_cons.mp h3
      obtain ⟨g3, g4⟩ := seg_cons.mp h4
      obtain ⟨c1, c2, c3, c4⟩ := h5 c List.mem_cons_self
      obtain ⟨d1, d2, d3, d4⟩ := h6 d List.mem_cons_self
      have p5 : arR A ar P := h5.sub (fun x hx => List.mem_cons_of_mem _ hx)
      simp only [List.length_cons] at h9
      rw [jf_X12_isMade_12_s]
      simp (disch := omega) only [i32_lit, i32_neg, i32_add, i32_sub, i32_mul, i32_lt, i32_le, i32_eq, if_neg, rr_32 H, rr_34 H, xbs, ga_32 H]
      rw [show ((i : Int)).toNat = i by omega, show ((j : Int)).toNat = j by omega, g1, g3]
      simp (disch := omega) only [i32_lit, i32_neg, i32_add, i32_sub, i32_mul, i32_lt, i32_le, i32_eq]
      by_cases hc : 100 ≤ c
      · have hz : ar c = 0 := c2 hc
        rw [if_pos (by omega)]
        simp (disch := omega) only [i32_lit, i32_neg, i32_add, i32_sub, i32_mul, i32_lt, i32_le, i32_eq, ga_34 H, wa_34 H, xbs]
        rw [show ((c : Int) - 100).toNat = c - 100 by omega]
        have hs1 : seg (A 32) (j + skipN ar 1 (d :: S)) (snd1 ar (d :: S)) := seg_drop h4 _
        have hlen : (snd1 ar (d :: S)).length = (d :: S).length - skipN ar 1 (d :: S) := List.length_drop
        have hlc : (d :: S).length = S.length + 1 := List.length_cons
        have q6 : arR A ar (snd1 ar (d :: S)) := h6.drop _
        have hq9 : j + (d :: S).length ≤ 400 := by rw [hlc]; omega
        have hrec : ∀ (b2 : Bd) (A2 : Nat → Nat → Int32), but 34 A A2 → BR A2 ar b2 → ∃ A', jf_X12_isMade_12 ty n M (i32 fin) (i32 ((j + skipN ar 1 (d :: S) : Nat) : Int)) (i32 ((i + 1 : Nat) : Int)) (rst mm mi h0 M I A2 J) = some (bI (mt ar P (snd1 ar (d :: S)) b2).isSome, rst mm mi h0 M I A' J) ∧ but 34 A2 A' ∧ ∀ b', mt ar P (snd1 ar (d :: S)) b2 = some b' → BR A' ar b' := by
          intro b2 A2 hb2 hB2
          have e32 := hb2 32 (by decide)
          have e19 := hb2 19 (by decide)
          exact ih (snd1 ar (d :: S)) o o' (i + 1) (j + skipN ar 1 (d :: S)) n b2 A2 (by simpa only [hz, Nat.add_zero] using h1p) f2 (by rw [e32]; exact g2) (by rw [e32]; exact hs1) (p5.row e19) (q6.row e19) (by omega) (by omega) (by omega) (by omega) hB2
        have hend : ∀ (A2 : Nat → Nat → Int32), but 34 A A2 → jf_X12_endAt ty (rst mm mi h0 M I A2 J) M (i32 j) = some (i32 ((j + skipN ar 1 (d :: S) : Nat) : Int)) := fun A2 hb2 => r_endAt H h2a (by rw [hb2 32 (by decide)]; exact h4) (h6.row (hb2 19 (by decide))) hq9
        have e1 : (i : Int) + 1 = ((i + 1 : Nat) : Int) := by omega
        simp only [mt, if_pos hc]
        have hB := h11 (c - 100) (by omega)
        cases hbc : b (c - 100) with
        | none =>
          rw [hB.1 hbc]
          simp (disch := omega) only [i32_lit, i32_neg, i32_add, i32_sub, i32_mul, i32_lt, i32_le, i32_eq, if_pos]
          rw [hend _ but.fu, e1]
          simp only [xbs]
          obtain ⟨A', q1, q2, q3⟩ := hrec _ _ but.fu (BR.set (v := c - 100) h11 h4 h2a h6 hq9)
          exact ⟨A', q1, but.tr but.fu q2, q3⟩
        | some s =>
          obtain ⟨p, op, K, k1, k2, k3, k4, k5, k6⟩ := hB.2 s hbc
          rw [k1]
          simp (disch := omega) only [i32_lit, i32_neg, i32_add, i32_sub, i32_mul, i32_lt, i32_le, i32_eq, if_neg]
          rw [r_alike H k3 h2a k2 h4 k4 h6 k5 hq9]
          simp only [xbs, ← k6]
          by_cases hs : s = fst1 ar (d :: S)
          · have hd1 : decide (s = fst1 ar (d :: S)) = true := by simp [hs]
            simp only [hd1, bI_eq0, if_pos hs]
            rw [if_neg (by decide), hend _ but.fu, e1]
            simp only [xbs]
            obtain ⟨A', q1, q2, q3⟩ := hrec b _ but.fu (BR.again h11 h4 h2a h6 hq9 (by rw [hbc, hs]))
            exact ⟨A', q1, but.tr but.fu q2, q3⟩
          · have hd1 : decide (s = fst1 ar (d :: S)) = false := by simp [hs]
            simp only [hd1, bI_eq0, if_neg hs]
            exact ⟨A, rfl, but.rf, fun b' hb' => by cases hb'⟩
      · rw [if_neg (by omega)]
        simp only [mt, if_neg hc]
        by_cases hdc : d = c
        · subst hdc
          simp only [if_true]
          rw [show (i : Int) + 1 = ((i + 1 : Nat) : Int) by omega, show (j : Int) + 1 = ((j + 1 : Nat) : Int) by omega]
          exact ih S (o + ar d) o' (i + 1) (j + 1) n b A h1p (by rwa [show o + ar d + o' = o + o' + ar d by omega]) g2 g4 p5 (h6.sub (fun x hx => List.mem_cons_of_mem _ hx)) (by omega) (by omega) (by omega) (by omega) h11
        · rw [if_neg (by omega), if_neg hdc]
          exact ⟨A, rfl, but.rf, fun b' hb' => by cases hb'⟩
end REF1

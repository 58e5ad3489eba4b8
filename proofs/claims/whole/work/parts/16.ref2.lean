/-! THE REFERENCE: terms put into its heap, variables renamed -/
def sh (a c : Nat) : Nat := if c < 100 then c else c + a
theorem sh_inj {a c d : Nat} (h : sh a c = sh a d) : c = d := by
  unfold sh at h
  split at h <;> split at h <;> omega
theorem sh0 (L : List Nat) : L.map (sh 0) = L := by
  have : sh 0 = id := by funext c; simp [sh]
  rw [this, List.map_id]
theorem map_sh_inj {a : Nat} {X Y : List Nat} : X.map (sh a) = Y.map (sh a) ↔ X = Y := by
  constructor
  · intro h
    induction X generalizing Y with
    | nil => cases Y with
      | nil => rfl
      | cons y Y => simp at h
    | cons x X ih => cases Y with
      | nil => simp at h
      | cons y Y =>
        simp only [List.map_cons, List.cons.injEq] at h
        rw [sh_inj h.1, ih h.2]
  · rintro rfl; rfl
section SHIFT
variable {ar : Nat → Nat}
theorem ar_sh (hz : ∀ d, 100 ≤ d → ar d = 0) (a c : Nat) : ar (sh a c) = ar c := by
  unfold sh
  split
  · rfl
  · rw [hz (c + a) (by omega), hz c (by omega)]
theorem skipN_sh (hz : ∀ d, 100 ≤ d → ar d = 0) (a : Nat) : ∀ (L : List Nat) (o : Nat), skipN ar o (L.map (sh a)) = skipN ar o L := by
  intro L
  induction L with
  | nil => intro o; rfl
  | cons c L ih =>
    intro o
    cases o with
    | zero => rfl
    | succ o => simp only [List.map_cons, skipN, ar_sh hz, ih]
theorem tms_sh (hz : ∀ d, 100 ≤ d → ar d = 0) (a : Nat) : ∀ (L : List Nat) (o : Nat), tms ar o (L.map (sh a)) ↔ tms ar o L := by
  intro L
  induction L with
  | nil => intro o; rfl
  | cons c L ih =>
    intro o
    cases o with
    | zero => rfl
    | succ o => simp only [List.map_cons, tms, ar_sh hz, ih]
theorem fst1_sh (hz : ∀ d, 100 ≤ d → ar d = 0) (a : Nat) (L : List Nat) : fst1 ar (L.map (sh a)) = (fst1 ar L).map (sh a) := by
  simp only [fst1, skipN_sh hz, List.map_take]
theorem snd1_sh (hz : ∀ d, 100 ≤ d → ar d = 0) (a : Nat) (L : List Nat) : snd1 ar (L.map (sh a)) = (snd1 ar L).map (sh a) := by
  simp only [snd1, skipN_sh hz, List.map_drop]
def SB (a b : Nat) (β β' : Bd) : Prop := ∀ v, β' (v + a) = (β v).map (List.map (sh b))
theorem mt_sh (hz : ∀ d, 100 ≤ d → ar d = 0) (a b : Nat) : ∀ (P S : List Nat) (β β' : Bd), SB a b β β' →
    (mt ar (P.map (sh a)) (S.map (sh b)) β').isSome = (mt ar P S β).isSome ∧ ∀ γ γ', mt ar P S β = some γ → mt ar (P.map (sh a)) (S.map (sh b)) β' = some γ' → SB a b γ γ' := by
  intro P
  induction P with
  | nil =>
    intro S β β' h
    simp only [List.map_nil, mt]
    refine ⟨rfl, fun γ γ' h1 h2 => ?_⟩
    cases h1; cases h2
    exact h
  | cons c P ih =>
    intro S β β' h
    cases S with
    | nil => simp [mt]
    | cons d S =>
      by_cases hc : 100 ≤ c
      · have hc1 : sh a c = c + a := by unfold sh; rw [if_neg (by omega)]
        have hc2 : 100 ≤ c + a := by omega
        have e1 : List.map (sh a) (c :: P) = (c + a) :: List.map (sh a) P := by rw [List.map_cons, hc1]
        have e2 : List.map (sh b) (d :: S) = sh b d :: List.map (sh b) S := rfl
        have f1 := fst1_sh hz b (d :: S)
        have f2 := snd1_sh hz b (d :: S)
        rw [e1, e2]
        rw [e2] at f1 f2
        simp only [mt, if_pos hc, if_pos hc2, f1, f2]
        have hv : c + a - 100 = (c - 100) + a := by omega
        have hb := h (c - 100)
        rw [hv, hb]
        cases hβ : β (c - 100) with
        | none =>
          simp only [Option.map_none]
          refine ih _ _ _ (fun v => ?_)
          unfold fu
          by_cases hvv : v = c - 100
          · simp [hvv]
          · simp only [hvv, if_false]
            rw [if_neg (by omega)]
            exact h v
        | some s =>
          simp only [Option.map_some]
          by_cases hs : s = fst1 ar (d :: S)
          · simp only [if_pos hs]
            rw [if_pos (by rw [hs])]
            exact ih _ _ _ h
          · simp only [if_neg hs]
            rw [if_neg (fun z => hs (map_sh_inj.mp z))]
            exact ⟨rfl, fun γ γ' h1 => by cases h1⟩
      · have hc1 : sh a c = c := by unfold sh; rw [if_pos (by omega)]
        rw [List.map_cons, List.map_cons, hc1]
        simp only [mt, if_neg hc]
        by_cases hd : d = c
        · subst hd
          have hc3 : sh b d = d := by unfold sh; rw [if_pos (by omega)]
          rw [hc3, if_pos rfl, if_pos rfl]
          exact ih _ _ _ h
        · rw [if_neg hd, if_neg]
          · exact ⟨rfl, fun γ γ' h1 => by cases h1⟩
          · unfold sh
            split <;> omega
end SHIFT
/-- a code as it is put: from a number on; each time another one; all one -/
def pv (v : Int) (k c : Nat) : Nat := if c < 100 then c else if 16 ≤ v then 100 + v.toNat + k else if v < 0 then 100 else c + v.toNat
def putK (v : Int) : Nat → List Nat → List Nat
  | _, [] => []
  | k, c :: L => pv v k c :: putK v (k + 1) L
def apartK : Nat → List Nat → List Nat
  | _, [] => []
  | k, c :: L => (if c < 100 then c else 100 + k) :: apartK (k + 1) L
theorem putK_len (v : Int) : ∀ (L : List Nat) (k : Nat), (putK v k L).length = L.length
  | [], _ => rfl
  | c :: L, k => by simp [putK, putK_len v L]
theorem apartK_len : ∀ (L : List Nat) (k : Nat), (apartK k L).length = L.length
  | [], _ => rfl
  | c :: L, k => by simp [apartK, apartK_len L]
theorem putK_sh {v : Nat} (hv : v < 16) : ∀ (L : List Nat) (k : Nat), putK v k L = L.map (sh v)
  | [], _ => rfl
  | c :: L, k => by
    simp only [putK, List.map_cons, putK_sh hv L]
    congr 1
    unfold pv sh
    split
    · rfl
    · rw [if_neg (by omega), if_neg (by omega)]
      omega
theorem putK_apart {v : Nat} (hv : 16 ≤ v) : ∀ (L : List Nat) (k : Nat), putK v k L = (apartK k L).map (sh v)
  | [], _ => rfl
  | c :: L, k => by
    simp only [putK, apartK, List.map_cons, putK_apart hv L]
    congr 1
    unfold pv sh
    split
    · simp [*]
    · rw [if_pos (by omega), if_neg (by omega)]
      omega
theorem putK_one : ∀ (L : List Nat) (k : Nat), putK (-1) k L = L.map (star)
  | [], _ => rfl
  | c :: L, k => by
    simp only [putK, List.map_cons, putK_one L]
    congr 1
    unfold pv star
    split
    · omega
    · rw [if_neg (by omega), if_pos (by omega)]
      omega
section REF2
variable {ty : xTy} {M : Nat} {mm mi : Nat → Nat} {h0 : xH} {I : Nat → Int32} {A : Nat → Nat → Int32} {J : Nat → Int64} {ar : Nat → Nat}
theorem r_made (H : MH ty M mm mi h0) {P S : List Nat} {o i j : Nat} {b : Bd} (h1 : tms ar 1 P) (h2 : tms ar (1 + o) S) (h3 : seg (A 32) i P) (h4 : seg (A 32) j S) (h5 : arR A ar P) (h6 : arR A ar S) (h7 : i + P.length ≤ 400) (h8 : j + S.length ≤ 400) (h9 : BR A ar b) :
    ∃ A', jf_X12_isMade ty (rst mm mi h0 M I A J) M (i32 i) (i32 j) = some (bI (mt ar P S b).isSome, rst mm mi h0 M I A' J) ∧ but 34 A A' ∧ ∀ b', mt ar P S b = some b' → BR A' ar b' := by
  obtain ⟨A', q1, q2, q3⟩ := r_made12 (I := I) (J := J) H (fin := i + P.length) P S 1 o i j (P.length + 1) b A h1 h2 h3 h4 h5 h6 rfl h7 h8 (by omega) h9
  refine ⟨A', ?_, q2, q3⟩
  unfold jf_X12_isMade
  rw [r_endAt H (o' := 0) h1 h3 h5 h7, skipN_all h1]
  exact jf_X12_isMade_12_l q1
theorem r_clears7 (H : MH ty M mm mi h0) : ∀ (k j n : Nat) (A : Nat → Nat → Int32), j + k = 48 → (∀ v, v < j → A 34 v = i32 (-1)) → k < n →
    ∃ A', jf_X12_clears_7 ty n M (i32 j) (rst mm mi h0 M I A J) = some (rst mm mi h0 M I A' J) ∧ but 34 A A' ∧ ∀ v, v < 48 → A' 34 v = i32 (-1) := by
  intro k
  induction k with
  | zero =>
    intro j n A h1 h2 h3
    obtain ⟨n, rfl⟩ : ∃ n', n = n' + 1 := ⟨n - 1, by omega⟩
    refine ⟨A, ?_, but.rf, fun v hv => h2 v (by omega)⟩
    rw [jf_X12_clears_7_s]
    simp (disch := omega) only [i32_lit, i32_neg, i32_add, i32_sub, i32_mul, i32_lt, i32_le, i32_eq, if_pos]
  | succ k ih =>
    intro j n A h1 h2 h3
    obtain ⟨n, rfl⟩ : ∃ n', n = n' + 1 := ⟨n - 1, by omega⟩
    obtain ⟨A', q1, q2, q3⟩ := ih (j + 1) n (fu2 A 34 j (i32 (-1))) (by omega) (fun v hv => by
      by_cases hvj : v = j
      · subst hvj; exact fu2_same _ _ _ _
      · rw [fu2_ne _ _ (Or.inr hvj)]; exact h2 v (by omega)) (by omega)
    refine ⟨A', ?_, but.tr but.fu q2, q3⟩
    rw [jf_X12_clears_7_s]
    simp (disch := omega) only [i32_lit, i32_neg, i32_add, i32_sub, i32_mul, i32_lt, i32_le, i32_eq, if_neg, rr_34 H, xbs, wa_34 H, Int.toNat_natCast]
    rw [show (j : Int) + 1 = ((j + 1 : Nat) : Int) by omega]
    exact q1
theorem r_clears (H : MH ty M mm mi h0) : ∃ A', jf_X12_clears ty (rst mm mi h0 M I A J) M = some (rst mm mi h0 M (fu I 33 (i32 0)) A' J) ∧ but 34 A A' ∧ ∀ v, v < 48 → A' 34 v = i32 (-1) := by
  obtain ⟨A', q1, q2, q3⟩ := r_clears7 (I := fu I 33 (i32 0)) (J := J) H 48 0 49 A (by omega) (fun v hv => by omega) (by omega)
  refine ⟨A', ?_, q2, q3⟩
  unfold jf_X12_clears
  simp only [i32_lit, i32_neg, i32_add, i32_sub, i32_mul, i32_lt, i32_le, i32_eq, rsI, xbs]
  exact jf_X12_clears_7_l q1
theorem r_puts9 (H : MH ty M mm mi h0) {kr : Nat} (hkr : 0 < ml kr) (hne : kr ≠ 32) {v : Int} (hv1 : -1 ≤ v) (hv2 : v ≤ 28) {fm nn at1 : Nat} (hfm : fm + nn ≤ ml kr) (hml : ml kr ≤ 400) (hat : at1 + nn ≤ 400) : ∀ (L : List Nat) (k n : Nat) (A : Nat → Nat → Int32), seg (A kr) (fm + k) L → (∀ d ∈ L, d < 112) → k + L.length = nn → L.length < n →
    ∃ A', jf_X12_puts_9 ty n M (mm kr) (i32 fm) (i32 nn) (i32 v) (i32 at1) (i32 k) (rst mm mi h0 M I A J) = some (i32 at1, rst mm mi h0 M (fu I 33 (i32 ((at1 + nn : Nat) : Int))) A' J) ∧ but 32 A A' ∧ (∀ j, j < at1 + k → A' 32 j = A 32 j) ∧ seg (A' 32) (at1 + k) (putK v k L) := by
  intro L
  induction L with
  | nil =>
    intro k n A h1 h2 h3 h4
    obtain ⟨n, rfl⟩ : ∃ n', n = n' + 1 := ⟨n - 1, by omega⟩
    simp only [List.length_nil] at h3
    refine ⟨A, ?_, but.rf, fun _ _ => rfl, seg_nil _ _⟩
    rw [jf_X12_puts_9_s]
    simp (disch := omega) only [i32_lit, i32_neg, i32_add, i32_sub, i32_mul, i32_lt, i32_le, i32_eq, if_pos, rsI, xbs]
    rw [show (at1 : Int) + (nn : Int) = ((at1 + nn : Nat) : Int) by omega]
  | cons d L ih =>
    intro k n A h1 h2 h3 h4
    obtain ⟨n, rfl⟩ : ∃ n', n = n' + 1 := ⟨n - 1, by omega⟩
    simp only [List.length_cons] at h3 h4
    obtain ⟨g1, g2⟩ := seg_cons.mp h1
    have hd := h2 d List.mem_cons_self
    have hga : xga 1 ty (rst mm mi h0 M I A J) (mm kr) (i32 ((fm : Int) + k)) = some (i32 d) := by
      rw [ga_of H hkr (n := ml kr) (by omega) (by omega) ⟨rfl, by omega⟩, show ((fm : Int) + k).toNat = fm + k by omega, g1]
    have hw : ∀ x : Int32, xwa 1 ty (rst mm mi h0 M I A J) (mm 32) (i32 ((at1 : Int) + k)) x = some (rst mm mi h0 M I (fu2 A 32 (at1 + k) x) J) := fun x => by
      rw [wa_32 H (by omega) (by omega), show ((at1 : Int) + k).toNat = at1 + k by omega]
    have key : ∃ A', jf_X12_puts_9 ty n M (mm kr) (i32 fm) (i32 nn) (i32 v) (i32 at1) (i32 ((k + 1 : Nat) : Int)) (rst mm mi h0 M I (fu2 A 32 (at1 + k) (i32 (pv v k d : Nat))) J) = some (i32 at1, rst mm mi h0 M (fu I 33 (i32 ((at1 + nn : Nat) : Int))) A' J) ∧ but 32 A A' ∧ (∀ j, j < at1 + k → A' 32 j = A 32 j) ∧ seg (A' 32) (at1 + k) (putK v k (d :: L)) := by
      obtain ⟨A', q1, q2, q3, q4⟩ := ih (k + 1) n (fu2 A 32 (at1 + k) (i32 (pv v k d : Nat))) (by rw [fu2_row A _ hne]; exact g2) (fun x hx => h2 x (List.mem_cons_of_mem _ hx)) (by omega) (by omega)
      refine ⟨A', q1, but.tr but.fu q2, fun j hj => ?_, ?_⟩
      · rw [q3 j (by omega), fu2_ne _ _ (Or.inr (by omega))]
      · simp only [putK]
        rw [seg_cons]
        refine ⟨?_, q4⟩
        rw [q3 (at1 + k) (by omega), fu2_same]
    obtain ⟨A', q1, q2, q3, q4⟩ := key
    refine ⟨A', ?_, q2, q3, q4⟩
    rw [← q1]
    rw [jf_X12_puts_9_s]
    simp (disch := omega) only [i32_lit, i32_neg, i32_add, i32_sub, i32_mul, i32_lt, i32_le, i32_eq, if_neg, hga, xbs, rr_32 H, hw]
    rw [show (k : Int) + 1 = ((k + 1 : Nat) : Int) by omega]
    unfold pv
    by_cases hd1 : d < 100
    · rw [if_neg (by omega), if_pos hd1]
    · rw [if_pos (by omega), if_neg hd1]
      by_cases hv3 : 16 ≤ v
      · rw [if_neg (by omega), if_pos hv3, show (100 + v + (k : Int)) = ((100 + v.toNat + k : Nat) : Int) by omega]
      · rw [if_pos (by omega), if_neg hv3]
        by_cases hv4 : v < 0
        · rw [if_neg (by omega), if_pos hv4, show (100 + v + 1 : Int) = ((100 : Nat) : Int) by omega]
        · rw [if_pos (by omega), if_neg hv4, show (100 + v + ((d : Int) - 100)) = ((d + v.toNat : Nat) : Int) by omega]
theorem r_puts (H : MH ty M mm mi h0) {kr : Nat} (hkr : 0 < ml kr) (hne : kr ≠ 32) {v : Int} (hv1 : -1 ≤ v) (hv2 : v ≤ 28) {fm at1 : Nat} {L : List Nat} (hI : I 33 = i32 at1) (hfm : fm + L.length ≤ ml kr) (hml : ml kr ≤ 400) (hat : at1 + L.length ≤ 400) (h1 : seg (A kr) fm L) (h2 : ∀ d ∈ L, d < 112) :
    ∃ A', jf_X12_puts ty (rst mm mi h0 M I A J) M (mm kr) (i32 fm) (i32 L.length) (i32 v) = some (i32 at1, rst mm mi h0 M (fu I 33 (i32 ((at1 + L.length : Nat) : Int))) A' J) ∧ but 32 A A' ∧ (∀ j, j < at1 → A' 32 j = A 32 j) ∧ seg (A' 32) at1 (putK v 0 L) := by
  obtain ⟨A', q1, q2, q3, q4⟩ := r_puts9 (I := I) (J := J) H hkr hne hv1 hv2 (nn := L.length) (at1 := at1) hfm hml hat L 0 (L.length + 1) A h1 h2 (by omega) (by omega)
  refine ⟨A', ?_, q2, fun j hj => q3 j (by omega), q4⟩
  unfold jf_X12_puts
  simp only [rI, hI]
  exact jf_X12_puts_9_l q1
end REF2

/-! THE REFERENCE: isUnified from the start, isShaped -/
section SHAPER
variable {ty : xTy} {M : Nat} {mm mi : Nat → Nat} {h0 : xH} {J : Nat → Int64} {ar : Nat → Nat} {hp : List Nat}
def nob : Nat → Option Nat := fun _ => none
theorem UI.start (h : okH ar hp) : UI ar hp nob (fun d => [d]) (fun _ => 0) := by
  refine ⟨fun d hd => ?_, fun d _ _ => rfl, fun d p _ hb => absurd hb (by simp [nob]), fun d _ x _ _ => rfl, fun _ => Nat.zero_le _⟩
  show tms ar (0 + ar d) []
  rw [h.2.1 d hd]
  rfl
theorem r_unified {I : Nat → Int32} (H : MH ty M mm mi h0) (h : okH ar hp) {A : Nat → Nat → Int32} (ha : okA A ar hp nob) {a b : Nat} (hal : a < hp.length) (hbl : b < hp.length) :
    ∃ A', but4 A A' ∧ ((jf_X12_isUnified ty (rst mm mi h0 M I A J) M (i32 a) (i32 b) = some (i32 1, rst mm mi h0 M I A' J) ∧ ∃ β θ ρ, UI ar hp β θ ρ ∧ okA A' ar hp β ∧ ∀ φ, wfs ar φ → (sub φ (tm ar hp a) = sub φ (tm ar hp b) ↔ Sol ar hp β φ)) ∨
      (jf_X12_isUnified ty (rst mm mi h0 M I A J) M (i32 a) (i32 b) = some (i32 0, rst mm mi h0 M I A' J) ∧ ∀ φ, wfs ar φ → sub φ (tm ar hp a) ≠ sub φ (tm ar hp b))) := by
  have hA1 : okA (fu2 A 35 0 (i32 a)) ar hp nob := ha.but but.fu (by decide)
  have hA2 : okA (fu2 (fu2 A 35 0 (i32 a)) 36 0 (i32 b)) ar hp nob := hA1.but but.fu (by decide)
  obtain ⟨n, A', q1, q2⟩ := r_uni16 (I := I) (J := J) H h _ _ [a] [b] (fu2 (fu2 A 35 0 (i32 a)) 36 0 (i32 b)) nob _ _ rfl rfl (UI.start h) hA2 rfl (fun x hx => by simp at hx; omega) (fun x hx => by simp at hx; omega) (fun i x hx => by
      have hi : i = 0 := by have := (List.getElem?_eq_some_iff.mp hx).1; simp at this; omega
      subst hi
      simp at hx
      subst hx
      exact ⟨0, by omega, fun D hD => by have := hD.2.2 a hal; omega⟩) (by rw [fu2_row _ _ (by decide), seg_cons]; exact ⟨fu2_same _ _ _ _, seg_nil _ _⟩) (by rw [seg_cons]; exact ⟨fu2_same _ _ _ _, seg_nil _ _⟩)
  have hcall : ∀ r, jf_X12_isUnified_16 ty n M (i32 ([a].length : Nat)) (rst mm mi h0 M I (fu2 (fu2 A 35 0 (i32 a)) 36 0 (i32 b)) J) = some r → jf_X12_isUnified ty (rst mm mi h0 M I A J) M (i32 a) (i32 b) = some r := fun r hr => by
    unfold jf_X12_isUnified
    simp (disch := omega) only [i32_lit, i32_neg, i32_add, i32_sub, i32_mul, i32_lt, i32_le, i32_eq, rr_35 H, rr_36 H, xbs, wa_35 H, wa_36 H]
    exact jf_X12_isUnified_16_l hr
  have hsol : ∀ φ : Nat → List Nat, Sol ar hp nob φ := fun φ d p _ hb => absurd hb (by simp [nob])
  have hprs : ∀ φ : Nat → List Nat, prs ar hp φ [a] [b] ↔ sub φ (tm ar hp a) = sub φ (tm ar hp b) := fun φ => by
    have := prs_snoc (ar := ar) (hp := hp) (φ := φ) (xa := []) (xb := []) (p := a) (q := b) rfl
    simp only [List.nil_append] at this
    rw [this]
    exact ⟨fun z => z.2, fun z => ⟨fun i x y hx => by simp at hx, z⟩⟩
  refine ⟨A', but4.tr (but4.tr (but4.of but.fu (by decide)) (but4.of but.fu (by decide))) q1, ?_⟩
  rcases q2 with ⟨c3, β, θ, ρ, c4, c5, c6⟩ | ⟨c3, c4⟩
  · refine Or.inl ⟨hcall _ c3, β, θ, ρ, c4, c5, fun φ hφ => ?_⟩
    rw [← c6 φ hφ, hprs]
    exact ⟨fun z => ⟨hsol φ, z⟩, fun z => z.2⟩
  · exact Or.inr ⟨hcall _ c3, fun φ hφ z => c4 φ hφ (hsol φ) ((hprs φ).mpr z)⟩
theorem r_push179 {I : Nat → Int32} (H : MH ty M mm mi h0) (h : okH ar hp) {β : Nat → Option Nat} {v3 : Int32} {nn top : Nat} (hnn : nn ≤ 3) (htop : nn ≤ top ∧ top ≤ 4000) : ∀ (j i q : Nat) (A : Nat → Nat → Int32), i + j = nn + 1 → 1 ≤ i → (∃ o, tms ar (j + o) (hp.drop q)) → q ≤ hp.length → okA A ar hp β →
    ∃ A', (∀ (k40 : Nat → Int32 → Int32 → xH → Option (Int32 × xH)) (n : Nat), j < n → jf_X12_isShaped_179 ty k40 n M (i32 top) v3 (i32 nn) (i32 q) (i32 i) (rst mm mi h0 M I A J) = k40 M (i32 top) v3 (rst mm mi h0 M I A' J)) ∧ but 37 A A' ∧ (∀ x : Nat, x < top + 1 - (i + j) ∨ top + 1 - i ≤ x → A' 37 x = A 37 x) ∧ ∀ (k x : Nat), (ags ar hp q j)[k]? = some x → A' 37 (top - i - k) = i32 x := by
  have h24 := h.2.2.2
  intro j
  induction j with
  | zero =>
    intro i q A h1 h1' h2 h3 h4
    refine ⟨A, fun k9 n h7 => ?_, but.rf, fun _ _ => rfl, fun k x hx => by simp [ags] at hx⟩
    obtain ⟨n, rfl⟩ : ∃ n', n = n' + 1 := ⟨n - 1, by omega⟩
    rw [jf_X12_isShaped_179_s]
    simp (disch := omega) only [i32_lit, i32_neg, i32_add, i32_sub, i32_mul, i32_lt, i32_le, i32_eq, if_pos]
  | succ j ih =>
    intro i q A h1 h1' h2 h3 h4
    obtain ⟨o, ho⟩ := h2
    have hoa : tms ar (1 + (j + o)) (hp.drop q) := by rwa [show 1 + (j + o) = j + 1 + o by omega]
    have hne := tms_ne (show tms ar (j + o + 1) (hp.drop q) by rwa [show j + o + 1 = j + 1 + o by omega])
    have hq : q < hp.length := by
      rcases Nat.lt_or_ge q hp.length with z | z
      · exact z
      · exact absurd (List.drop_eq_nil_of_le z) hne
    obtain ⟨f0, f1, f2, f3, f4, f5⟩ := fst1_split hoa
    have hlt : (tm ar hp q).length = skipN ar 1 (hp.drop q) := f3
    have e2 : snd1 ar (hp.drop q) = hp.drop (q + (tm ar hp q).length) := by
      unfold tm snd1
      rw [f3, List.drop_drop]
    have hA1 : okA (fu2 A 37 (top - i) (i32 q)) ar hp β := h4.but but.fu (by decide)
    obtain ⟨A', q1, q2, q3, q4⟩ := ih (i + 1) (q + (tm ar hp q).length) _ (by omega) (by omega) ⟨o, by rw [← e2]; exact f2⟩ (tm_wf h hq).2.2 hA1
    refine ⟨A', fun k9 n h7 => ?_, but.tr but.fu q2, fun x hx => ?_, fun k x hx => ?_⟩
    · obtain ⟨n, rfl⟩ : ∃ n', n = n' + 1 := ⟨n - 1, by omega⟩
      have hend := r_endAt (I := I) (J := J) (p := q) H hoa (by have := seg_drop hA1.1 q; rwa [Nat.zero_add] at this) (hA1.2.1.drop q) (by rw [List.length_drop]; omega)
      rw [jf_X12_isShaped_179_s]
      simp (disch := omega) only [i32_lit, i32_neg, i32_add, i32_sub, i32_mul, i32_lt, i32_le, i32_eq, if_neg, rr_37 H, wa_37 H, xbs]
      rw [show ((top : Int) - i).toNat = top - i by omega, hend]
      simp only [xbs]
      rw [← hlt, show (i : Int) + 1 = ((i + 1 : Nat) : Int) by omega]
      exact q1 k9 n (by omega)
    · rw [q3 x (by omega), fu2_ne _ _ (Or.inr (by omega))]
    · cases k with
      | zero =>
        simp [ags] at hx
        subst hx
        rw [q3 _ (by omega), Nat.sub_zero, fu2_same]
      | succ k =>
        have hx' : (ags ar hp (q + (tm ar hp q).length) j)[k]? = some x := by simpa [ags] using hx
        have := q4 k x hx'
        rwa [show top - (i + 1) - k = top - i - (k + 1) by omega] at this
/-- the numbers that variables have got -/
def nmb (f : Nat → Int32) (S : List Nat) : Prop := ∀ v, v < 48 → f v = i32 (if 100 + v ∈ S then ((S.idxOf (100 + v) : Nat) : Int) else -1)
theorem r_sh40 (H : MH ty M mm mi h0) (h : okH ar hp) {β : Nat → Option Nat} {θ : Nat → List Nat} {ρ : Nat → Nat} (u : UI ar hp β θ ρ) : ∀ (k : Nat) (O S st : List Nat) (I : Nat → Int32) (A : Nat → Nat → Int32), O.length + k = 60 → st.length ≤ 1 + 2 * O.length → S.length ≤ O.length → (∀ x ∈ st, x < hp.length) → okA A ar hp β → I 39 = i32 O.length → seg (A 37) 0 st → seg (A 38) 0 O → nmb (A 40) S → (∀ x ∈ S, 100 ≤ x) →
    ∃ n I' A', (∀ x, x ≠ 39 → I' x = I x) ∧ (∀ x, x ∉ [37, 38, 40] → A' x = A x) ∧
      jf_X12_isShaped_40 ty n M (i32 st.length) (i32 S.length) (rst mm mi h0 M I A J) = some (bI (decide (O.length + (st.reverse.flatMap (fun q => sub θ (tm ar hp q))).length ≤ 60)), rst mm mi h0 M I' A' J) ∧
      (O.length + (st.reverse.flatMap (fun q => sub θ (tm ar hp q))).length ≤ 60 → I' 39 = i32 ((O ++ shpG S (st.reverse.flatMap (fun q => sub θ (tm ar hp q)))).length : Nat) ∧ seg (A' 38) 0 (O ++ shpG S (st.reverse.flatMap (fun q => sub θ (tm ar hp q))))) := by
  have h24 := h.2.2.2
  intro k
  induction k with
  | zero =>
    intro O S st I A h1 h2 hSO h3 h4 h5 h6 h7 h8 h9
    rcases snoc_or st with rfl | ⟨st0, p, rfl⟩
    · refine ⟨1, I, A, fun _ _ => rfl, fun _ _ => rfl, ?_, fun _ => by simp [shpG, h5, h7]⟩
      rw [jf_X12_isShaped_40_s]
      simp (disch := omega) only [i32_lit, i32_neg, i32_add, i32_sub, i32_mul, i32_lt, i32_le, i32_eq, List.length_nil, if_pos]
      rw [decide_eq_true (by simp; omega)]
      rfl
    · have hpl : p < hp.length := h3 p (by simp)
      obtain ⟨p1, g1, g2, g3, g4, g5⟩ := r_led (I := I) (J := J) H h u h4 hpl
      have hlen1 : 1 ≤ (sub θ (tm ar hp p)).length := by
        have := sub_len u.1 (tm ar hp p)
        have := (tm_wf h hpl).2.1
        omega
      have htop : A 37 st0.length = i32 p := by
        have := seg_get (i := st0.length) (c := p) h6 (by simp)
        rwa [Nat.zero_add] at this
      have hbig : ¬ O.length + ((st0 ++ [p]).reverse.flatMap (fun q => sub θ (tm ar hp q))).length ≤ 60 := by
        rw [List.reverse_append, List.reverse_singleton, List.singleton_append, List.flatMap_cons, List.length_append]
        omega
      simp only [List.length_append, List.length_singleton] at h2
      refine ⟨1, I, A, fun _ _ => rfl, fun _ _ => rfl, ?_, fun z => absurd z hbig⟩
      rw [decide_eq_false hbig, jf_X12_isShaped_40_s]
      simp (disch := omega) only [i32_lit, i32_neg, i32_add, i32_sub, i32_mul, i32_lt, i32_le, i32_eq, List.length_append, List.length_singleton, if_neg, rr_37 H, xbs, rI, h5]
      rw [show (((st0.length + 1 : Nat) : Int) + -1) = (st0.length : Int) by omega]
      simp (disch := omega) only [ga_37 H, xbs, Int.toNat_natCast, htop, g1, i32_lit, i32_neg, i32_add, i32_sub, i32_mul, i32_lt, i32_le, i32_eq, if_pos]
      rfl
  | succ k ih =>
    intro O S st I A h1 h2 hSO h3 h4 h5 h6 h7 h8 h9
    rcases snoc_or st with rfl | ⟨st0, p, rfl⟩
    · refine ⟨1, I, A, fun _ _ => rfl, fun _ _ => rfl, ?_, fun _ => by simp [shpG, h5, h7]⟩
      rw [jf_X12_isShaped_40_s]
      simp (disch := omega) only [i32_lit, i32_neg, i32_add, i32_sub, i32_mul, i32_lt, i32_le, i32_eq, List.length_nil, if_pos]
      rw [decide_eq_true (by simp; omega)]
      rfl
    · have hpl : p < hp.length := h3 p (by simp)
      obtain ⟨p1, g1, g2, g3, g4, g5⟩ := r_led (I := I) (J := J) H h u h4 hpl
      obtain ⟨d, hd⟩ := get_some g2
      have hds := seg_get h4.1 hd
      rw [Nat.zero_add] at hds
      have hdmem := List.mem_of_getElem? hd
      have hdm := h.2.2.1 d hdmem
      simp only [List.length_append, List.length_singleton] at h2
      have htop : A 37 st0.length = i32 p := by
        have := seg_get (i := st0.length) (c := p) h6 (by simp)
        rwa [Nat.zero_add] at this
      have hst0 : seg (A 37) 0 st0 := (seg_app.mp h6).1
      have hx2 := (tm_head h hd).2
      obtain ⟨o, ho⟩ := h.at g2
      have hpush : ∃ o, tms ar (ar d + o) (hp.drop (p1 + 1)) := by
        rw [drop_cons hd, Nat.add_comm 1 o] at ho
        have : tms ar (o + ar d) (hp.drop (p1 + 1)) := ho
        exact ⟨o, by rwa [Nat.add_comm] at this⟩
      -- what is written here, and the numbers behind it
      have hR : (st0 ++ [p]).reverse.flatMap (fun q => sub θ (tm ar hp q)) = sub θ (tm ar hp p1) ++ st0.reverse.flatMap (fun q => sub θ (tm ar hp q)) := by
        rw [List.reverse_append, List.reverse_singleton, List.singleton_append, List.flatMap_cons, g3]
      have hstep : ∀ (S' : List Nat) (x : Nat) (A1 : Nat → Nat → Int32), (∀ y, y ≠ 40 → A1 y = A y) → nmb (A1 40) S' → (∀ y ∈ S', 100 ≤ y) → S'.length ≤ O.length + 1 → (∀ L, shpG S (d :: L) = x :: shpG S' L) →
          ∃ n I' A', (∀ y, y ≠ 39 → I' y = I y) ∧ (∀ y, y ∉ [37, 38, 40] → A' y = A y) ∧
          (∀ s0, s0 = mm 38 → jf_X12_isShaped_146 ty (jf_X12_isShaped_40 ty n) M (i32 st0.length) (i32 S'.length) (i32 p1) (i32 d) s0 (i32 O.length) (i32 x) (rst mm mi h0 M I A1 J) = some (bI (decide (O.length + ((st0 ++ [p]).reverse.flatMap (fun q => sub θ (tm ar hp q))).length ≤ 60)), rst mm mi h0 M I' A' J)) ∧
          (O.length + ((st0 ++ [p]).reverse.flatMap (fun q => sub θ (tm ar hp q))).length ≤ 60 → I' 39 = i32 ((O ++ shpG S ((st0 ++ [p]).reverse.flatMap (fun q => sub θ (tm ar hp q)))).length : Nat) ∧ seg (A' 38) 0 (O ++ shpG S ((st0 ++ [p]).reverse.flatMap (fun q => sub θ (tm ar hp q))))) := by
        intro S' x A1 hA1 hn hS' hSl hsh
        have hokA1 : okA A1 ar hp β := ⟨by rw [hA1 32 (by decide)]; exact h4.1, h4.2.1.row (hA1 19 (by decide)), fun v hv => by rw [hA1 34 (by decide)]; exact h4.2.2 v hv⟩
        have hokA2 : okA (fu2 A1 38 O.length (i32 x)) ar hp β := hokA1.but but.fu (by decide)
        have hargs : sub θ (tm ar hp p1) = d :: (ags ar hp (p1 + 1) (ar d)).flatMap (fun q => sub θ (tm ar hp q)) := by
          by_cases hd1 : d < 100
          · exact sub_tm h hd hd1
          · rw [tm_var h hd (by omega), sub_cons, if_neg hd1, u.2.1 d (by omega) (g4 d hd (by omega)), h.2.1 d (by omega)]
            rfl
        obtain ⟨Ap, t1, t2, t3, t4⟩ := r_push179 (I := fu I 39 (i32 ((O.length : Int) + 1))) (J := J) (v3 := i32 S'.length) H h hdm.2 (show ar d ≤ st0.length + ar d ∧ st0.length + ar d ≤ 4000 by omega) (ar d) 1 (p1 + 1) _ (by omega) (by omega) hpush (by omega) hokA2
        have hsegst : seg (Ap 37) 0 (st0 ++ (ags ar hp (p1 + 1) (ar d)).reverse) := by
          rw [seg_app]
          constructor
          · refine seg_congr hst0 (fun j _ hj => ?_)
            rw [t3 j (by omega), fu2_row _ _ (by decide), hA1 37 (by decide)]
          · intro i y hy
            have hi : i < ar d := by have := (List.getElem?_eq_some_iff.mp hy).1; simpa [ags_len] using this
            rw [List.getElem?_reverse (by rw [ags_len]; exact hi), ags_len] at hy
            have := t4 _ y hy
            rwa [show st0.length + ar d - 1 - (ar d - 1 - i) = 0 + st0.length + i by omega] at this
        have hseg38 : seg (Ap 38) 0 (O ++ [x]) := by
          rw [t2 38 (by decide)]
          refine seg_snoc (seg_fu2 ?_ (by omega)) (by rw [Nat.zero_add, fu2_same])
          rw [hA1 38 (by decide)]
          exact h7
        obtain ⟨n, I', A', r1, r2, r3, r4⟩ := ih (O ++ [x]) S' (st0 ++ (ags ar hp (p1 + 1) (ar d)).reverse) (fu I 39 (i32 ((O.length : Int) + 1))) Ap (by simp; omega) (by simp [ags_len]; omega) (by simp; omega) (fun y hy => by
            rcases List.mem_append.mp hy with hy | hy
            · exact h3 y (by simp [hy])
            · exact (hx2 y (by simpa using hy)).1) (hokA2.but t2 (by decide)) (by rw [fu_same]; simp) hsegst hseg38 (by rw [t2 40 (by decide), fu2_row _ _ (by decide)]; exact hn) hS'
        have hfl : (st0 ++ (ags ar hp (p1 + 1) (ar d)).reverse).reverse.flatMap (fun q => sub θ (tm ar hp q)) = (ags ar hp (p1 + 1) (ar d)).flatMap (fun q => sub θ (tm ar hp q)) ++ st0.reverse.flatMap (fun q => sub θ (tm ar hp q)) := by
          rw [List.reverse_append, List.reverse_reverse, List.flatMap_append]
        have hRR : (st0 ++ [p]).reverse.flatMap (fun q => sub θ (tm ar hp q)) = d :: (st0 ++ (ags ar hp (p1 + 1) (ar d)).reverse).reverse.flatMap (fun q => sub θ (tm ar hp q)) := by rw [hR, hargs, hfl]; rfl
        have hdec : (O.length + ((st0 ++ [p]).reverse.flatMap (fun q => sub θ (tm ar hp q))).length ≤ 60) ↔ ((O ++ [x]).length + ((st0 ++ (ags ar hp (p1 + 1) (ar d)).reverse).reverse.flatMap (fun q => sub θ (tm ar hp q))).length ≤ 60) := by
          rw [hRR, List.length_append, List.length_singleton, List.length_cons]
          omega
        refine ⟨n, I', A', fun y hy => (r1 y hy).trans (fu_ne _ _ hy), fun y hy => ?_, fun s0 hs0 => ?_, fun hle => ?_⟩
        · rw [r2 y hy, t2 y (fun z => hy (by rw [z]; decide)), fu2_row _ _ (fun z => hy (by rw [z]; decide)), hA1 y (fun z => hy (by rw [z]; decide))]
        · subst hs0
          unfold jf_X12_isShaped_146
          simp (disch := omega) only [i32_lit, i32_neg, i32_add, i32_sub, i32_mul, i32_lt, i32_le, i32_eq, wa_38 H, xbs, rI, h5, rsI, Int.toNat_natCast, r_manyOf H hokA2.2.1 hdmem]
          rw [show (p1 : Int) + 1 = ((p1 + 1 : Nat) : Int) by omega, show (st0.length : Int) + (ar d : Int) = ((st0.length + ar d : Nat) : Int) by omega]
          refine jf_X12_isShaped_179_l (n := ar d + 1) ?_
          refine (t1 _ _ (by omega)).trans ?_
          simp only [List.length_append, List.length_reverse, ags_len] at r3
          rw [r3]
          congr 3
          rw [Bool.eq_iff_iff, decide_eq_true_iff, decide_eq_true_iff, hdec]
          simp only [List.length_append]
        · have := r4 (hdec.mp hle)
          have e : O ++ shpG S ((st0 ++ [p]).reverse.flatMap (fun q => sub θ (tm ar hp q))) = (O ++ [x]) ++ shpG S' ((st0 ++ (ags ar hp (p1 + 1) (ar d)).reverse).reverse.flatMap (fun q => sub θ (tm ar hp q))) := by
            rw [hRR, hsh, List.append_assoc]
            rfl
          rw [e]
          exact this
      have hhead : ∀ n, jf_X12_isShaped_40 ty (n + 1) M (i32 ((st0 ++ [p]).length : Nat)) (i32 S.length) (rst mm mi h0 M I A J) = if d < 100 then jf_X12_isShaped_146 ty (jf_X12_isShaped_40 ty n) M (i32 st0.length) (i32 S.length) (i32 p1) (i32 d) (mm 38) (i32 O.length) (i32 d) (rst mm mi h0 M I A J)
          else if d ∈ S then jf_X12_isShaped_146 ty (jf_X12_isShaped_40 ty n) M (i32 st0.length) (i32 S.length) (i32 p1) (i32 d) (mm 38) (i32 O.length) (i32 ((100 + S.idxOf d : Nat) : Int)) (rst mm mi h0 M I A J)
          else jf_X12_isShaped_146 ty (jf_X12_isShaped_40 ty n) M (i32 st0.length) (i32 ((S ++ [d]).length : Nat)) (i32 p1) (i32 d) (mm 38) (i32 O.length) (i32 ((100 + S.length : Nat) : Int)) (rst mm mi h0 M I (fu2 A 40 (d - 100) (i32 S.length)) J) := by
        intro n
        rw [jf_X12_isShaped_40_s]
        simp (disch := omega) only [i32_lit, i32_neg, i32_add, i32_sub, i32_mul, i32_lt, i32_le, i32_eq, List.length_append, List.length_singleton, if_neg, rr_37 H, rr_32 H, xbs, rI, h5]
        rw [show (((st0.length + 1 : Nat) : Int) + -1) = (st0.length : Int) by omega]
        simp (disch := omega) only [ga_37 H, xbs, Int.toNat_natCast, htop, g1, i32_lit, i32_neg, i32_add, i32_sub, i32_mul, i32_lt, i32_le, i32_eq, if_neg, ga_32 H, hds]
        by_cases hd1 : d < 100
        · rw [if_pos (by omega), if_pos hd1]
          unfold jf_X12_isShaped_113
          simp (disch := omega) only [i32_lit, i32_neg, i32_add, i32_sub, i32_mul, i32_lt, i32_le, i32_eq, rr_38 H, xbs, if_neg, rI, h5]
        · have hn := h8 (d - 100) (by omega)
          rw [show 100 + (d - 100) = d by omega] at hn
          rw [if_neg (by omega), if_neg hd1]
          simp (disch := omega) only [i32_lit, i32_neg, i32_add, i32_sub, i32_mul, i32_lt, i32_le, i32_eq, rr_40 H, ga_40 H, wa_40 H, xbs]
          rw [show ((d : Int) - 100).toNat = d - 100 by omega, hn]
          by_cases hdS : d ∈ S
          · have hidx : S.idxOf d < S.length := List.idxOf_lt_length_iff.mpr hdS
            rw [if_pos hdS]
            simp (disch := omega) only [i32_lit, i32_neg, i32_add, i32_sub, i32_mul, i32_lt, i32_le, i32_eq, if_pos]
            unfold jf_X12_isShaped_113
            simp (disch := omega) only [i32_lit, i32_neg, i32_add, i32_sub, i32_mul, i32_lt, i32_le, i32_eq, rr_38 H, rr_40 H, ga_40 H, xbs, if_pos, rI, h5]
            rw [show ((d : Int) - 100).toNat = d - 100 by omega, hn, if_pos hdS]
            simp only [i32_lit, i32_neg, i32_add, i32_sub, i32_mul, i32_lt, i32_le, i32_eq]
            rw [show (100 + ((S.idxOf d : Nat) : Int)) = ((100 + S.idxOf d : Nat) : Int) by omega]
          · rw [if_neg hdS]
            simp (disch := omega) only [i32_lit, i32_neg, i32_add, i32_sub, i32_mul, i32_lt, i32_le, i32_eq, if_neg]
            unfold jf_X12_isShaped_113
            simp (disch := omega) only [i32_lit, i32_neg, i32_add, i32_sub, i32_mul, i32_lt, i32_le, i32_eq, rr_38 H, rr_40 H, ga_40 H, xbs, if_pos, rI, h5]
            rw [show ((d : Int) - 100).toNat = d - 100 by omega, fu2_same]
            simp only [i32_lit, i32_neg, i32_add, i32_sub, i32_mul, i32_lt, i32_le, i32_eq, List.length_append, List.length_singleton]
            rw [show (100 + (S.length : Int)) = ((100 + S.length : Nat) : Int) by omega]
            rfl
      by_cases hd1 : d < 100
      · obtain ⟨n, I', A', r1, r2, r3, r4⟩ := hstep S d A (fun _ _ => rfl) h8 h9 (by omega) (fun L => by simp only [shpG, if_pos hd1])
        exact ⟨n + 1, I', A', r1, r2, by rw [hhead n, if_pos hd1]; exact r3 _ rfl, r4⟩
      · by_cases hdS : d ∈ S
        · obtain ⟨n, I', A', r1, r2, r3, r4⟩ := hstep S (100 + S.idxOf d) A (fun _ _ => rfl) h8 h9 (by omega) (fun L => by simp only [shpG, if_neg hd1, if_pos hdS])
          exact ⟨n + 1, I', A', r1, r2, by rw [hhead n, if_neg hd1, if_pos hdS]; exact r3 _ rfl, r4⟩
        · obtain ⟨n, I', A', r1, r2, r3, r4⟩ := hstep (S ++ [d]) (100 + S.length) (fu2 A 40 (d - 100) (i32 S.length)) (fun y hy => fu2_row _ _ hy) (fun v hv => by
              by_cases hvd : v = d - 100
              · subst hvd
                rw [fu2_same, show 100 + (d - 100) = d by omega, if_pos (by simp)]
                congr 2
                rw [List.idxOf_append, if_neg hdS]
                simp
              · rw [fu2_ne _ _ (Or.inr hvd), h8 v hv]
                have hne : 100 + v ≠ d := by omega
                by_cases hvS : 100 + v ∈ S
                · rw [if_pos hvS, if_pos (by simp [hvS]), List.idxOf_append, if_pos hvS]
                · rw [if_neg hvS, if_neg (by simp [hvS, hne])]) (fun y hy => by
              rcases List.mem_append.mp hy with hy | hy
              · exact h9 y hy
              · simp at hy; omega) (by simp; omega) (fun L => by simp only [shpG, if_neg hd1, if_neg hdS])
          exact ⟨n + 1, I', A', r1, r2, by rw [hhead n, if_neg hd1, if_neg hdS]; exact r3 _ rfl, r4⟩
theorem r_sh19 (H : MH ty M mm mi h0) {v2 v3 : Int32} {I : Nat → Int32} : ∀ (k j : Nat) (A : Nat → Nat → Int32), j + k = 48 → (∀ v, v < j → A 40 v = i32 (-1)) →
    ∃ A', (∀ n, k < n → jf_X12_isShaped_19 ty n M v2 v3 (i32 j) (rst mm mi h0 M I A J) = (xlim fun n40 => jf_X12_isShaped_40 ty n40 M v2 v3 (rst mm mi h0 M I A' J))) ∧ but 40 A A' ∧ ∀ v, v < 48 → A' 40 v = i32 (-1) := by
  intro k
  induction k with
  | zero =>
    intro j A h1 h2
    refine ⟨A, fun n h3 => ?_, but.rf, fun v hv => h2 v (by omega)⟩
    obtain ⟨n, rfl⟩ : ∃ n', n = n' + 1 := ⟨n - 1, by omega⟩
    rw [jf_X12_isShaped_19_s]
    simp (disch := omega) only [i32_lit, i32_neg, i32_add, i32_sub, i32_mul, i32_lt, i32_le, i32_eq, if_pos]
  | succ k ih =>
    intro j A h1 h2
    obtain ⟨A', q1, q2, q3⟩ := ih (j + 1) (fu2 A 40 j (i32 (-1))) (by omega) (fun v hv => by
      by_cases hvj : v = j
      · subst hvj; exact fu2_same _ _ _ _
      · rw [fu2_ne _ _ (Or.inr hvj)]; exact h2 v (by omega))
    refine ⟨A', fun n h3 => ?_, but.tr but.fu q2, q3⟩
    obtain ⟨n, rfl⟩ : ∃ n', n = n' + 1 := ⟨n - 1, by omega⟩
    rw [jf_X12_isShaped_19_s]
    simp (disch := omega) only [i32_lit, i32_neg, i32_add, i32_sub, i32_mul, i32_lt, i32_le, i32_eq, if_neg, rr_40 H, xbs, wa_40 H, Int.toNat_natCast]
    rw [show (j : Int) + 1 = ((j + 1 : Nat) : Int) by omega]
    exact q1 n (by omega)
/-- isShaped: the shape of what a term comes to -/
theorem r_shaped (H : MH ty M mm mi h0) (h : okH ar hp) {β : Nat → Option Nat} {θ : Nat → List Nat} {ρ : Nat → Nat} (u : UI ar hp β θ ρ) {I : Nat → Int32} {A : Nat → Nat → Int32} (ha : okA A ar hp β) {t : Nat} (ht : t < hp.length) :
    ∃ I' A', (∀ x, x ≠ 39 → I' x = I x) ∧ (∀ x, x ∉ [37, 38, 40] → A' x = A x) ∧ jf_X12_isShaped ty (rst mm mi h0 M I A J) M (i32 t) = some (bI (decide ((sub θ (tm ar hp t)).length ≤ 60)), rst mm mi h0 M I' A' J) ∧
      ((sub θ (tm ar hp t)).length ≤ 60 → I' 39 = i32 (shape (sub θ (tm ar hp t))).length ∧ seg (A' 38) 0 (shape (sub θ (tm ar hp t)))) := by
  obtain ⟨A1, q1, q2, q3⟩ := r_sh19 (J := J) (v2 := i32 1) (v3 := i32 0) (I := fu I 39 (i32 0)) H 48 0 (fu2 A 37 0 (i32 t)) (by omega) (fun v hv => by omega)
  have ha1 : okA (fu2 A 37 0 (i32 t)) ar hp β := ha.but but.fu (by decide)
  obtain ⟨n, I', A', r1, r2, r3, r4⟩ := r_sh40 (J := J) H h u 60 [] [] [t] (fu I 39 (i32 0)) A1 (by simp) (by simp) (by simp) (fun x hx => by simp at hx; omega) (ha1.but q2 (by decide)) (by rw [fu_same]; rfl) (by rw [q2 37 (by decide), seg_cons]; exact ⟨fu2_same _ _ _ _, seg_nil _ _⟩) (seg_nil _ _) (fun v hv => by rw [q3 v hv]; simp) (by simp)
  have e : ([t].reverse.flatMap (fun q => sub θ (tm ar hp q))) = sub θ (tm ar hp t) := by simp
  rw [e] at r3 r4
  simp only [List.length_nil, Nat.zero_add, List.nil_append] at r3 r4
  refine ⟨I', A', fun x hx => (r1 x hx).trans (fu_ne _ _ hx), fun x hx => ?_, ?_, r4⟩
  · rw [r2 x hx, q2 x (fun z => hx (by rw [z]; decide)), fu2_row _ _ (fun z => hx (by rw [z]; decide))]
  · unfold jf_X12_isShaped
    simp (disch := omega) only [i32_lit, i32_neg, i32_add, i32_sub, i32_mul, i32_lt, i32_le, i32_eq, rsI, xbs, rr_37 H, wa_37 H]
    refine jf_X12_isShaped_19_l (n := 49) ?_
    refine (q1 49 (by omega)).trans ?_
    exact jf_X12_isShaped_40_l r3
end SHAPER
/-! WHAT TWO TERMS COME TO, variables apart -/
def uniS (ar : Nat → Nat) (P Q : List Nat) : Prop := ∃ θ1 θ2, wfs ar θ1 ∧ wfs ar θ2 ∧ sub θ1 P = sub θ2 Q
/-- S is what the first term's whole row W comes to where its part P meets Q -/
def mgS (ar : Nat → Nat) (W P Q S : List Nat) : Prop := ∃ θ1 θ2, wfs ar θ1 ∧ wfs ar θ2 ∧ sub θ1 P = sub θ2 Q ∧ S = sub θ1 W ∧ ∀ φ1 φ2, wfs ar φ1 → wfs ar φ2 → sub φ1 P = sub φ2 Q → ∃ ψ, wfs ar ψ ∧ sub φ1 W = sub ψ S
theorem mgS_shape {ar : Nat → Nat} {W P Q S S' : List Nat} (h : mgS ar W P Q S) (h' : mgS ar W P Q S') : shape S = shape S' := by
  obtain ⟨θ1, θ2, a1, a2, a3, a4, a5⟩ := h
  obtain ⟨φ1, φ2, b1, b2, b3, b4, b5⟩ := h'
  obtain ⟨ψ, c1, c2⟩ := a5 φ1 φ2 b1 b2 b3
  obtain ⟨χ, d1, d2⟩ := b5 θ1 θ2 a1 a2 a3
  rw [← b4] at c2
  rw [← a4] at d2
  exact shape_two c1 d1 c2 d2
theorem mgS_len {ar : Nat → Nat} {W P Q S S' : List Nat} (h : mgS ar W P Q S) (h' : mgS ar W P Q S') : S.length = S'.length := by
  have := congrArg List.length (mgS_shape h h')
  simpa [shape, shpG_len] using this

/-! THE REFERENCE: where a place leads, whether a variable is within -/
def pI (o : Option Nat) : Int := match o with
  | none => -1
  | some p => p
def BP (A : Nat → Nat → Int32) (β : Nat → Option Nat) : Prop := ∀ v, v < 48 → A 34 v = i32 (pI (β v))
def wsum (ar : Nat → Nat) (hp : List Nat) (θ : Nat → List Nat) (st : List Nat) : Nat := (st.map (fun p => (sub θ (tm ar hp p)).length)).sum
theorem snoc_or (l : List Nat) : l = [] ∨ ∃ l0 x, l = l0 ++ [x] := by
  rcases List.eq_nil_or_concat l with h | ⟨l0, x, h⟩
  · exact Or.inl h
  · exact Or.inr ⟨l0, x, by rw [h, List.concat_eq_append]⟩
section WITHIN
variable {ty : xTy} {M : Nat} {mm mi : Nat → Nat} {h0 : xH} {I : Nat → Int32} {J : Nat → Int64} {ar : Nat → Nat} {hp : List Nat} {β : Nat → Option Nat} {θ : Nat → List Nat} {ρ : Nat → Nat}
/-- the rows that stay while one looks -/
def okA (A : Nat → Nat → Int32) (ar : Nat → Nat) (hp : List Nat) (β : Nat → Option Nat) : Prop := seg (A 32) 0 hp ∧ arR A ar hp ∧ BP A β
theorem okA.but {A A' : Nat → Nat → Int32} {k : Nat} (h : okA A ar hp β) (b : but k A A') (hk : k ≠ 32 ∧ k ≠ 19 ∧ k ≠ 34) : okA A' ar hp β := by
  obtain ⟨h1, h2, h3⟩ := h
  refine ⟨by rw [b 32 (Ne.symm hk.1)]; exact h1, h2.row (b 19 (Ne.symm hk.2.1)), fun v hv => by rw [b 34 (Ne.symm hk.2.2)]; exact h3 v hv⟩
theorem r_manyOf (H : MH ty M mm mi h0) {A : Nat → Nat → Int32} (har : arR A ar hp) {d : Nat} (hd : d ∈ hp) : jf_X12_manyOf ty (rst mm mi h0 M I A J) M (i32 d) = some (i32 (ar d)) := by
  obtain ⟨a1, a2, a3, a4⟩ := har d hd
  unfold jf_X12_manyOf
  by_cases h : 100 ≤ d
  · simp (disch := omega) only [i32_lit, i32_neg, i32_add, i32_sub, i32_mul, i32_lt, i32_le, i32_eq, if_pos]
    rw [a2 h]; rfl
  · obtain ⟨b1, b2⟩ := a1 (by omega)
    simp (disch := omega) only [i32_lit, i32_neg, i32_add, i32_sub, i32_mul, i32_lt, i32_le, i32_eq, if_neg, rr_19 H, ga_19 H, xbs, Int.toNat_natCast, b2]
theorem r_led (H : MH ty M mm mi h0) (h : okH ar hp) (u : UI ar hp β θ ρ) {A : Nat → Nat → Int32} (ha : okA A ar hp β) {p : Nat} (hp' : p < hp.length) :
    ∃ p' : Nat, jf_X12_led ty (rst mm mi h0 M I A J) M (i32 p) = some (i32 p') ∧ p' < hp.length ∧ sub θ (tm ar hp p') = sub θ (tm ar hp p) ∧ (∀ d, hp[p']? = some d → 100 ≤ d → β (d - 100) = none) ∧ ∀ D, DA ar hp β D → D p' ≤ D p := by
  have h24 := h.2.2.2
  have key : ∀ (k p : Nat), p < hp.length → (∀ d, hp[p]? = some d → 100 ≤ d → ρ d < k) → ∃ n p' : Nat, jf_X12_led_2 ty (rst mm mi h0 M I A J) n M (i32 p) = some (i32 (p' : Nat)) ∧ p' < hp.length ∧ sub θ (tm ar hp p') = sub θ (tm ar hp p) ∧ (∀ d, hp[p']? = some d → 100 ≤ d → β (d - 100) = none) ∧ ∀ D, DA ar hp β D → D p' ≤ D p := by
    intro k
    induction k with
    | zero =>
      intro p hp' hk
      obtain ⟨d, hd⟩ := get_some hp'
      have hs := seg_get ha.1 hd
      rw [Nat.zero_add] at hs
      have hsm : d < 100 := by
        rcases Nat.lt_or_ge d 100 with z | z
        · exact z
        · exact absurd (hk d hd z) (by omega)
      refine ⟨1, p, ?_, hp', rfl, fun e he h100 => by rw [hd] at he; cases he; omega, fun D _ => Nat.le_refl _⟩
      rw [jf_X12_led_2_s]
      simp (disch := omega) only [i32_lit, i32_neg, i32_add, i32_sub, i32_mul, i32_lt, i32_le, i32_eq, rr_32 H, ga_32 H, xbs, Int.toNat_natCast, hs, if_pos]
    | succ k ih =>
      intro p hp' hk
      obtain ⟨d, hd⟩ := get_some hp'
      have hs := seg_get ha.1 hd
      rw [Nat.zero_add] at hs
      have hdm := h.2.2.1 d (List.mem_of_getElem? hd)
      by_cases hsm : d < 100
      · refine ⟨1, p, ?_, hp', rfl, fun e he h100 => by rw [hd] at he; cases he; omega, fun D _ => Nat.le_refl _⟩
        rw [jf_X12_led_2_s]
        simp (disch := omega) only [i32_lit, i32_neg, i32_add, i32_sub, i32_mul, i32_lt, i32_le, i32_eq, rr_32 H, ga_32 H, xbs, Int.toNat_natCast, hs, if_pos]
      · have hb := ha.2.2 (d - 100) (by omega)
        cases hbd : β (d - 100) with
        | none =>
          refine ⟨1, p, ?_, hp', rfl, fun e he h100 => by rw [hd] at he; cases he; exact hbd, fun D _ => Nat.le_refl _⟩
          rw [hbd] at hb
          simp only [pI] at hb
          rw [jf_X12_led_2_s]
          simp (disch := omega) only [i32_lit, i32_neg, i32_add, i32_sub, i32_mul, i32_lt, i32_le, i32_eq, rr_32 H, rr_34 H, ga_32 H, ga_34 H, xbs, Int.toNat_natCast, hs, if_neg]
          rw [show ((d : Int) - 100).toNat = d - 100 by omega, hb]
          simp (disch := omega) only [i32_lit, i32_neg, i32_add, i32_sub, i32_mul, i32_lt, i32_le, i32_eq, if_pos]
        | some p1 =>
          obtain ⟨u1, u2, u3⟩ := u.2.2.1 d p1 (by omega) hbd
          obtain ⟨n, p', q1, q2, q3, q4, q5⟩ := ih p1 u1 (fun e he h100 => by
            have := u3 e (by rw [(tm_head h he).1]; exact List.mem_cons_self) h100
            have := hk d hd (by omega)
            omega)
          refine ⟨n + 1, p', ?_, q2, ?_, q4, fun D hD => Nat.le_trans (q5 D hD) (hD.1 d p hd (by omega) p1 hbd)⟩
          · rw [hbd] at hb
            simp only [pI] at hb
            rw [jf_X12_led_2_s]
            simp (disch := omega) only [i32_lit, i32_neg, i32_add, i32_sub, i32_mul, i32_lt, i32_le, i32_eq, rr_32 H, rr_34 H, ga_32 H, ga_34 H, xbs, Int.toNat_natCast, hs, if_neg]
            rw [show ((d : Int) - 100).toNat = d - 100 by omega, hb]
            simp (disch := omega) only [i32_lit, i32_neg, i32_add, i32_sub, i32_mul, i32_lt, i32_le, i32_eq, if_neg]
            exact q1
          · rw [q3, tm_var h hd (by omega), ← u2, sub_cons, if_neg hsm, sub_nil, List.append_nil]
  obtain ⟨n, p', q1, q2⟩ := key 49 p hp' (fun d _ _ => by have := u.2.2.2.2 d; omega)
  exact ⟨p', jf_X12_led_2_l q1, q2⟩
theorem r_push50 (H : MH ty M mm mi h0) (h : okH ar hp) {cc : Int32} {p d : Nat} (hd : hp[p]? = some d) : ∀ (j i q : Nat) (st : List Nat) (A : Nat → Nat → Int32), i + j = ar d → (∃ o, tms ar (j + o) (hp.drop q)) → q ≤ hp.length → okA A ar hp β → seg (A 37) 0 st → st.length + j ≤ 4000 →
    ∃ A', (∀ (k9 : Nat → Int32 → Int32 → xH → Option (Int32 × xH)) (n : Nat), j < n → jf_X12_isWithin_50 ty k9 n M cc (i32 st.length) (i32 p) (i32 q) (i32 i) (rst mm mi h0 M I A J) = k9 M cc (i32 ((st.length + j : Nat) : Int)) (rst mm mi h0 M I A' J)) ∧ but 37 A A' ∧ seg (A' 37) 0 (st ++ ags ar hp q j) := by
  have h24 := h.2.2.2
  have hpl : p < hp.length := (List.getElem?_eq_some_iff.mp hd).1
  have hdm := List.mem_of_getElem? hd
  have hd3 := (h.2.2.1 d hdm).2
  intro j
  induction j with
  | zero =>
    intro i q st A h1 h2 h3 h4 h5 h6
    refine ⟨A, fun k9 n h7 => ?_, but.rf, by simpa [ags] using h5⟩
    obtain ⟨n, rfl⟩ : ∃ n', n = n' + 1 := ⟨n - 1, by omega⟩
    have hs := seg_get h4.1 hd
    rw [Nat.zero_add] at hs
    rw [jf_X12_isWithin_50_s]
    simp (disch := omega) only [i32_lit, i32_neg, i32_add, i32_sub, i32_mul, i32_lt, i32_le, i32_eq, rr_32 H, ga_32 H, xbs, Int.toNat_natCast, hs, r_manyOf H h4.2.1 hdm, if_pos]
    rfl
  | succ j ih =>
    intro i q st A h1 h2 h3 h4 h5 h6
    obtain ⟨o, ho⟩ := h2
    have hoa : tms ar (1 + (j + o)) (hp.drop q) := by rwa [show 1 + (j + o) = j + 1 + o by omega]
    have hne := tms_ne (show tms ar (j + o + 1) (hp.drop q) by rwa [show j + o + 1 = j + 1 + o by omega])
    have hq : q < hp.length := by
      rcases Nat.lt_or_ge q hp.length with z | z
      · exact z
      · exact absurd (List.drop_eq_nil_of_le z) hne
    obtain ⟨f0, f1, f2, f3, f4, f5⟩ := fst1_split hoa
    have hlt : (tm ar hp q).length = skipN ar 1 (hp.drop q) := f3
    have e2 : snd1 ar (hp.drop q) = hp.drop (q + (tm ar hp q).length) := by
      unfold tm snd1
      rw [f3, List.drop_drop]
    have hA1 : okA (fu2 A 37 st.length (i32 q)) ar hp β := h4.but but.fu (by decide)
    have hseg1 : seg (fu2 A 37 st.length (i32 q) 37) 0 (st ++ [q]) := seg_snoc (seg_fu2 h5 (by omega)) (by rw [Nat.zero_add, fu2_same])
    obtain ⟨A', q1, q2, q3⟩ := ih (i + 1) (q + (tm ar hp q).length) (st ++ [q]) _ (by omega) ⟨o, by rw [← e2]; exact f2⟩ (tm_wf h hq).2.2 hA1 hseg1 (by simp; omega)
    refine ⟨A', fun k9 n h7 => ?_, but.tr but.fu q2, by simpa [ags] using q3⟩
    obtain ⟨n, rfl⟩ : ∃ n', n = n' + 1 := ⟨n - 1, by omega⟩
    have hs := seg_get h4.1 hd
    rw [Nat.zero_add] at hs
    have hend := r_endAt (I := I) (J := J) (A := fu2 A 37 st.length (i32 q)) (p := q) H hoa (by have := seg_drop hA1.1 q; rwa [Nat.zero_add] at this) (hA1.2.1.drop q) (by rw [List.length_drop]; omega)
    rw [jf_X12_isWithin_50_s]
    simp (disch := omega) only [i32_lit, i32_neg, i32_add, i32_sub, i32_mul, i32_lt, i32_le, i32_eq, rr_32 H, ga_32 H, xbs, Int.toNat_natCast, hs, r_manyOf H h4.2.1 hdm, if_neg, rr_37 H, wa_37 H, hend]
    rw [← hlt, show (i : Int) + 1 = ((i + 1 : Nat) : Int) by omega, show (st.length : Int) + 1 = (((st ++ [q]).length : Nat) : Int) by simp]
    rw [q1 k9 n (by omega)]
    simp only [List.length_append, List.length_singleton]
    rw [show st.length + 1 + j = st.length + (j + 1) by omega]
theorem wsum_snoc (st : List Nat) (p : Nat) : wsum ar hp θ (st ++ [p]) = wsum ar hp θ st + (sub θ (tm ar hp p)).length := by simp [wsum]
theorem wsum_app (st s2 : List Nat) : wsum ar hp θ (st ++ s2) = wsum ar hp θ st + wsum ar hp θ s2 := by simp [wsum]
theorem wsum_flat (l : List Nat) : (l.flatMap (fun q => sub θ (tm ar hp q))).length = wsum ar hp θ l := by
  induction l with
  | nil => rfl
  | cons a l ih => rw [List.flatMap_cons, List.length_append, ih]; simp [wsum]
def inAny (ar : Nat → Nat) (hp : List Nat) (θ : Nat → List Nat) (v : Nat) (st : List Nat) : Bool := st.any (fun x => decide (v ∈ sub θ (tm ar hp x)))
theorem r_within9 (H : MH ty M mm mi h0) (h : okH ar hp) (u : UI ar hp β θ ρ) {D : Nat → Nat} (hD : DA ar hp β D) {v : Nat} (hv : 100 ≤ v) (hv2 : v < 148) (hvb : β (v - 100) = none) : ∀ (w : Nat) (st : List Nat) (A : Nat → Nat → Int32), wsum ar hp θ st = w → (∀ x ∈ st, x < hp.length) → (∀ i x, st[i]? = some x → i + 2 * D x ≤ 3200) → okA A ar hp β → seg (A 37) 0 st →
    ∃ n A', jf_X12_isWithin_9 ty n M (i32 v) (i32 st.length) (rst mm mi h0 M I A J) = some (bI (inAny ar hp θ v st), rst mm mi h0 M I A' J) ∧ but 37 A A' := by
  have h24 := h.2.2.2
  intro w
  induction w using Nat.strongRecOn with
  | ind w ih =>
    intro st A h1 h2 h3 h4 h5
    rcases snoc_or st with rfl | ⟨st0, p, rfl⟩
    · refine ⟨1, A, ?_, but.rf⟩
      rw [jf_X12_isWithin_9_s]
      simp (disch := omega) only [i32_lit, i32_neg, i32_add, i32_sub, i32_mul, i32_lt, i32_le, i32_eq, List.length_nil, if_pos]
      rfl
    · have hpl : p < hp.length := h2 p (by simp)
      obtain ⟨p1, g1, g2, g3, g4, g5⟩ := r_led (I := I) (J := J) H h u h4 hpl
      obtain ⟨d, hd⟩ := get_some g2
      have hs := seg_get h4.1 hd
      rw [Nat.zero_add] at hs
      have hdm := List.mem_of_getElem? hd
      have hd3 := h.2.2.1 d hdm
      have hb3 := h3 st0.length p (by simp)
      have hwp := wsum_snoc (ar := ar) (hp := hp) (θ := θ) st0 p
      have htop : A 37 st0.length = i32 p := by
        have := seg_get (i := st0.length) (c := p) h5 (by simp)
        rwa [Nat.zero_add] at this
      have hseg0 : seg (A 37) 0 st0 := (seg_app.mp h5).1
      have hany : inAny ar hp θ v (st0 ++ [p]) = (inAny ar hp θ v st0 || decide (v ∈ sub θ (tm ar hp p1))) := by
        simp [inAny, g3]
      have hlen1 : 1 ≤ (sub θ (tm ar hp p)).length := by
        have := sub_len u.1 (tm ar hp p)
        have := (tm_wf h hpl).2.1
        omega
      by_cases hdv : d = v
      · subst hdv
        refine ⟨1, A, ?_, but.rf⟩
        have hm : d ∈ sub θ (tm ar hp p1) := by
          rw [tm_var h hd hv, sub_cons, if_neg (by omega), u.2.1 d hv hvb]
          simp
        rw [hany, decide_eq_true hm, Bool.or_true]
        rw [jf_X12_isWithin_9_s]
        simp (disch := omega) only [i32_lit, i32_neg, i32_add, i32_sub, i32_mul, i32_lt, i32_le, i32_eq, List.length_append, List.length_singleton, if_neg, rr_37 H, rr_32 H, xbs]
        rw [show (((st0.length + 1 : Nat) : Int) + -1) = (st0.length : Int) by omega]
        simp (disch := omega) only [ga_37 H, xbs, Int.toNat_natCast, htop, g1, ga_32 H, hs, if_true]
        rfl
      · have hpushes : ∃ o, tms ar (ar d + o) (hp.drop (p1 + 1)) := by
          obtain ⟨o, ho⟩ := h.at g2
          rw [drop_cons hd, Nat.add_comm 1 o] at ho
          have : tms ar (o + ar d) (hp.drop (p1 + 1)) := ho
          exact ⟨o, by rwa [Nat.add_comm] at this⟩
        have hcap : st0.length + ar d ≤ 4000 := by omega
        have hw2 : wsum ar hp θ (st0 ++ ags ar hp (p1 + 1) (ar d)) < w := by
          rw [wsum_app, ← h1, hwp]
          by_cases hd1 : d < 100
          · have := congrArg List.length (sub_tm (θ := θ) h hd hd1)
            rw [g3, List.length_cons, wsum_flat] at this
            omega
          · rw [h.2.1 d (by omega)]
            simp only [ags]
            have : wsum ar hp θ [] = 0 := rfl
            omega
        have hx2 := (tm_head h hd).2
        obtain ⟨Ap, p1', p2', p3'⟩ := r_push50 (I := I) (J := J) (β := β) (cc := i32 v) H h hd (ar d) 0 (p1 + 1) st0 A (by omega) hpushes (by omega) h4 hseg0 hcap
        obtain ⟨n, A', q1, q2⟩ := ih _ hw2 (st0 ++ ags ar hp (p1 + 1) (ar d)) Ap rfl (fun x hx => by
            rcases List.mem_append.mp hx with hx | hx
            · exact h2 x (by simp [hx])
            · exact (hx2 x hx).1) (fun i x hx => by
            by_cases hi : i < st0.length
            · rw [List.getElem?_append_left hi] at hx
              exact h3 i x (by rw [List.getElem?_append_left hi]; exact hx)
            · rw [List.getElem?_append_right (by omega)] at hx
              have hm := List.mem_of_getElem? hx
              have hlt := (List.getElem?_eq_some_iff.mp hx).1
              rw [ags_len] at hlt
              have a1 := hD.2.1 p1 d hd x hm
              have a2 := g5 D hD
              omega) (h4.but p2' (by decide)) p3'
        refine ⟨n + 1, A', ?_, but.tr p2' q2⟩
        have hres : inAny ar hp θ v (st0 ++ ags ar hp (p1 + 1) (ar d)) = inAny ar hp θ v (st0 ++ [p]) := by
          rw [hany]
          have e1 : inAny ar hp θ v (st0 ++ ags ar hp (p1 + 1) (ar d)) = (inAny ar hp θ v st0 || inAny ar hp θ v (ags ar hp (p1 + 1) (ar d))) := by simp [inAny]
          rw [e1]
          congr 1
          by_cases hd1 : d < 100
          · rw [sub_tm h hd hd1]
            rw [Bool.eq_iff_iff]
            simp only [inAny, List.any_eq_true, decide_eq_true_eq, List.mem_cons, List.mem_flatMap]
            constructor
            · intro hx; exact Or.inr hx
            · rintro (hx | hx)
              · omega
              · exact hx
          · rw [h.2.1 d (by omega), tm_var h hd (by omega), sub_cons, if_neg hd1, u.2.1 d (by omega) (g4 d hd (by omega))]
            simp only [ags, inAny, List.any_nil, sub_nil]
            simp
            omega
        rw [hres] at q1
        rw [jf_X12_isWithin_9_s]
        simp (disch := omega) only [i32_lit, i32_neg, i32_add, i32_sub, i32_mul, i32_lt, i32_le, i32_eq, List.length_append, List.length_singleton, if_neg, rr_37 H, rr_32 H, xbs]
        rw [show (((st0.length + 1 : Nat) : Int) + -1) = (st0.length : Int) by omega]
        simp (disch := omega) only [ga_37 H, xbs, Int.toNat_natCast, htop, g1, ga_32 H, hs, i32_lit, i32_neg, i32_add, i32_sub, i32_mul, i32_lt, i32_le, i32_eq, if_neg]
        rw [show (p1 : Int) + 1 = ((p1 + 1 : Nat) : Int) by omega]
        refine jf_X12_isWithin_50_l (n := ar d + 1) ?_
        refine (p1' _ _ (by omega)).trans ?_
        rw [List.length_append, ags_len] at q1
        exact q1
theorem r_within (H : MH ty M mm mi h0) (h : okH ar hp) (u : UI ar hp β θ ρ) {v : Nat} (hv : 100 ≤ v) (hv2 : v < 148) (hvb : β (v - 100) = none) {p : Nat} (hp' : p < hp.length) {A : Nat → Nat → Int32} (ha : okA A ar hp β) :
    ∃ A', jf_X12_isWithin ty (rst mm mi h0 M I A J) M (i32 v) (i32 p) = some (bI (decide (v ∈ sub θ (tm ar hp p))), rst mm mi h0 M I A' J) ∧ but 37 A A' := by
  have hD := u.da h
  obtain ⟨n, A', q1, q2⟩ := r_within9 (I := I) (J := J) H h u hD hv hv2 hvb _ [p] (fu2 A 37 0 (i32 p)) rfl (fun x hx => by simp at hx; omega) (fun i x hx => by
    have hi : i = 0 := by have := (List.getElem?_eq_some_iff.mp hx).1; simp at this; omega
    subst hi
    simp at hx
    subst hx
    have := hD.2.2 p hp'
    dsimp only at this ⊢
    omega) (ha.but but.fu (by decide)) (by rw [seg_cons]; exact ⟨fu2_same _ _ _ _, seg_nil _ _⟩)
  refine ⟨A', ?_, but.tr but.fu q2⟩
  unfold jf_X12_isWithin
  simp (disch := omega) only [i32_lit, i32_neg, i32_add, i32_sub, i32_mul, i32_lt, i32_le, i32_eq, rr_37 H, xbs, wa_37 H]
  have e : inAny ar hp θ v [p] = decide (v ∈ sub θ (tm ar hp p)) := by simp [inAny]
  rw [e] at q1
  exact jf_X12_isWithin_9_l q1
end WITHIN

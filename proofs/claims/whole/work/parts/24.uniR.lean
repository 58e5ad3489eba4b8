/-! THE REFERENCE: isUnified -/
section UNIR
variable {ty : xTy} {M : Nat} {mm mi : Nat → Nat} {h0 : xH} {I : Nat → Int32} {J : Nat → Int64} {ar : Nat → Nat} {hp : List Nat}
def but4 (A A' : Nat → Nat → Int32) : Prop := ∀ x, x ∉ [34, 35, 36, 37] → A' x = A x
theorem but4.rf {A : Nat → Nat → Int32} : but4 A A := fun _ _ => rfl
theorem but4.tr {A B C : Nat → Nat → Int32} (h1 : but4 A B) (h2 : but4 B C) : but4 A C := fun x hx => (h2 x hx).trans (h1 x hx)
theorem but4.of {k : Nat} {A B : Nat → Nat → Int32} (h : but k A B) (hk : k ∈ [34, 35, 36, 37]) : but4 A B := fun x hx => h x (fun e => hx (e ▸ hk))
theorem r_push199 (H : MH ty M mm mi h0) (h : okH ar hp) {β : Nat → Option Nat} {p d : Nat} (hd : hp[p]? = some d) : ∀ (j i q s : Nat) (sa sb : List Nat) (A : Nat → Nat → Int32), i + j = ar d → (∃ o, tms ar (j + o) (hp.drop q)) → q ≤ hp.length → (∃ o, tms ar (j + o) (hp.drop s)) → s ≤ hp.length → okA A ar hp β → seg (A 35) 0 sa → seg (A 36) 0 sb → sa.length = sb.length → sa.length + j ≤ 4000 →
    ∃ A', (∀ (k16 : Nat → Int32 → xH → Option (Int32 × xH)) (n : Nat), j < n → jf_X12_isUnified_199 ty k16 n M (i32 sa.length) (i32 p) (i32 q) (i32 s) (i32 i) (rst mm mi h0 M I A J) = k16 M (i32 ((sa.length + j : Nat) : Int)) (rst mm mi h0 M I A' J)) ∧ but4 A A' ∧ okA A' ar hp β ∧ seg (A' 35) 0 (sa ++ ags ar hp q j) ∧ seg (A' 36) 0 (sb ++ ags ar hp s j) := by
  have h24 := h.2.2.2
  have hpl : p < hp.length := (List.getElem?_eq_some_iff.mp hd).1
  have hdm := List.mem_of_getElem? hd
  have hd3 := (h.2.2.1 d hdm).2
  intro j
  induction j with
  | zero =>
    intro i q s sa sb A h1 h2 h3 h2' h3' h4 h5 h5' hll h6
    refine ⟨A, fun k9 n h7 => ?_, but4.rf, h4, by simpa [ags] using h5, by simpa [ags] using h5'⟩
    obtain ⟨n, rfl⟩ : ∃ n', n = n' + 1 := ⟨n - 1, by omega⟩
    have hs := seg_get h4.1 hd
    rw [Nat.zero_add] at hs
    rw [jf_X12_isUnified_199_s]
    simp (disch := omega) only [i32_lit, i32_neg, i32_add, i32_sub, i32_mul, i32_lt, i32_le, i32_eq, rr_32 H, ga_32 H, xbs, Int.toNat_natCast, hs, r_manyOf H h4.2.1 hdm, if_pos]
    rfl
  | succ j ih =>
    intro i q s sa sb A h1 h2 h3 h2' h3' h4 h5 h5' hll h6
    have step : ∀ q, (∃ o, tms ar (j + 1 + o) (hp.drop q)) → ∃ o, q < hp.length ∧ tms ar (1 + (j + o)) (hp.drop q) ∧ (tm ar hp q).length = skipN ar 1 (hp.drop q) ∧ tms ar (j + o) (hp.drop (q + (tm ar hp q).length)) := by
      rintro q ⟨o, ho⟩
      have hoa : tms ar (1 + (j + o)) (hp.drop q) := by rwa [show 1 + (j + o) = j + 1 + o by omega]
      have hne := tms_ne (show tms ar (j + o + 1) (hp.drop q) by rwa [show j + o + 1 = j + 1 + o by omega])
      have hq : q < hp.length := by
        rcases Nat.lt_or_ge q hp.length with z | z
        · exact z
        · exact absurd (List.drop_eq_nil_of_le z) hne
      obtain ⟨f0, f1, f2, f3, f4, f5⟩ := fst1_split hoa
      have e2 : snd1 ar (hp.drop q) = hp.drop (q + (tm ar hp q).length) := by
        unfold tm snd1
        rw [f3, List.drop_drop]
      exact ⟨o, hq, hoa, f3, by rw [← e2]; exact f2⟩
    obtain ⟨o1, x1, x2, x3, x4⟩ := step q h2
    obtain ⟨o2, y1, y2, y3, y4⟩ := step s h2'
    have hA1 : okA (fu2 A 35 sa.length (i32 q)) ar hp β := h4.but but.fu (by decide)
    have hA2 : okA (fu2 (fu2 A 35 sa.length (i32 q)) 36 sa.length (i32 s)) ar hp β := hA1.but but.fu (by decide)
    have hs1 : seg (fu2 (fu2 A 35 sa.length (i32 q)) 36 sa.length (i32 s) 35) 0 (sa ++ [q]) := by
      rw [fu2_row _ _ (by decide)]
      exact seg_snoc (seg_fu2 h5 (by omega)) (by rw [Nat.zero_add, fu2_same])
    have hs2 : seg (fu2 (fu2 A 35 sa.length (i32 q)) 36 sa.length (i32 s) 36) 0 (sb ++ [s]) := by
      refine seg_snoc (seg_fu2 ?_ (by omega)) (by rw [Nat.zero_add, ← hll, fu2_same])
      rw [fu2_row _ _ (by decide)]
      exact h5'
    obtain ⟨A', q1, q2, q3, q4, q5⟩ := ih (i + 1) (q + (tm ar hp q).length) (s + (tm ar hp s).length) (sa ++ [q]) (sb ++ [s]) _ (by omega) ⟨o1, x4⟩ (tm_wf h x1).2.2 ⟨o2, y4⟩ (tm_wf h y1).2.2 hA2 hs1 hs2 (by simp [hll]) (by simp; omega)
    refine ⟨A', fun k9 n h7 => ?_, but4.tr (but4.tr (but4.of but.fu (by decide)) (but4.of but.fu (by decide))) q2, q3, by simpa [ags] using q4, by simpa [ags] using q5⟩
    obtain ⟨n, rfl⟩ : ∃ n', n = n' + 1 := ⟨n - 1, by omega⟩
    have hs := seg_get h4.1 hd
    rw [Nat.zero_add] at hs
    have he1 := r_endAt (I := I) (J := J) (p := q) H x2 (by have := seg_drop hA2.1 q; rwa [Nat.zero_add] at this) (hA2.2.1.drop q) (by rw [List.length_drop]; omega)
    have he2 := r_endAt (I := I) (J := J) (p := s) H y2 (by have := seg_drop hA2.1 s; rwa [Nat.zero_add] at this) (hA2.2.1.drop s) (by rw [List.length_drop]; omega)
    rw [jf_X12_isUnified_199_s]
    simp (disch := omega) only [i32_lit, i32_neg, i32_add, i32_sub, i32_mul, i32_lt, i32_le, i32_eq, rr_32 H, ga_32 H, xbs, Int.toNat_natCast, hs, r_manyOf H h4.2.1 hdm, if_neg, rr_35 H, rr_36 H, wa_35 H, wa_36 H, he1, he2]
    rw [← x3, ← y3, show (i : Int) + 1 = ((i + 1 : Nat) : Int) by omega, show (sa.length : Int) + 1 = (((sa ++ [q]).length : Nat) : Int) by simp]
    rw [q1 k9 n (by omega)]
    simp only [List.length_append, List.length_singleton]
    rw [show sa.length + 1 + j = sa.length + (j + 1) by omega]
def free (β : Nat → Option Nat) : Nat := cntF (fun x => (β x).isNone) 48
theorem free_bind {β : Nat → Option Nat} {v q : Nat} (hv : v < 48) (hb : β v = none) : free (fu β v (some q)) < free β := by
  refine cntF_lt (x := v) (fun x hx => ?_) ?_ ?_ 48 hv
  · by_cases hxv : x = v
    · subst hxv; rw [hb]; rfl
    · rw [fu_ne _ _ hxv] at hx; exact hx
  · rw [fu_same]; rfl
  · rw [hb]; rfl
theorem snoc2 {sa sb : List Nat} (h : sa.length = sb.length) : (sa = [] ∧ sb = []) ∨ ∃ xa xb p q, sa = xa ++ [p] ∧ sb = xb ++ [q] ∧ xa.length = xb.length := by
  rcases snoc_or sa with rfl | ⟨xa, p, rfl⟩
  · left; exact ⟨rfl, List.length_eq_zero_iff.mp (by simpa using h.symm)⟩
  · rcases snoc_or sb with rfl | ⟨xb, q, rfl⟩
    · simp at h
    · right; exact ⟨xa, xb, p, q, rfl, rfl, by simpa using h⟩
theorem prs_snoc {φ : Nat → List Nat} {xa xb : List Nat} {p q : Nat} (hl : xa.length = xb.length) : prs ar hp φ (xa ++ [p]) (xb ++ [q]) ↔ prs ar hp φ xa xb ∧ sub φ (tm ar hp p) = sub φ (tm ar hp q) := by
  constructor
  · intro h
    refine ⟨fun i x y hx hy => h i x y ?_ ?_, h xa.length p q (by simp) (by rw [hl]; simp)⟩
    · rw [List.getElem?_append_left (List.getElem?_eq_some_iff.mp hx).1]; exact hx
    · rw [List.getElem?_append_left (List.getElem?_eq_some_iff.mp hy).1]; exact hy
  · rintro ⟨h1, h2⟩ i x y hx hy
    by_cases hi : i < xa.length
    · rw [List.getElem?_append_left hi] at hx
      rw [List.getElem?_append_left (by omega)] at hy
      exact h1 i x y hx hy
    · rw [List.getElem?_append_right (by omega)] at hx hy
      have : i - xa.length = 0 := by have := (List.getElem?_eq_some_iff.mp hx).1; simp at this; omega
      rw [this] at hx
      rw [← hl, this] at hy
      simp at hx hy
      subst hx; subst hy
      exact h2
theorem prs_app {φ : Nat → List Nat} {xa xb ya yb : List Nat} (hl : xa.length = xb.length) : prs ar hp φ (xa ++ ya) (xb ++ yb) ↔ prs ar hp φ xa xb ∧ prs ar hp φ ya yb := by
  constructor
  · intro h
    refine ⟨fun i x y hx hy => h i x y ?_ ?_, fun i x y hx hy => h (xa.length + i) x y ?_ ?_⟩
    · rw [List.getElem?_append_left (List.getElem?_eq_some_iff.mp hx).1]; exact hx
    · rw [List.getElem?_append_left (List.getElem?_eq_some_iff.mp hy).1]; exact hy
    · rw [List.getElem?_append_right (by omega)]; simpa using hx
    · rw [List.getElem?_append_right (by omega), ← hl]; simpa using hy
  · rintro ⟨h1, h2⟩ i x y hx hy
    by_cases hi : i < xa.length
    · rw [List.getElem?_append_left hi] at hx
      rw [List.getElem?_append_left (by omega)] at hy
      exact h1 i x y hx hy
    · rw [List.getElem?_append_right (by omega)] at hx hy
      rw [← hl] at hy
      exact h2 _ x y hx hy
/-- how deep the pairs that wait can lie -/
def cert (ar : Nat → Nat) (hp : List Nat) (β : Nat → Option Nat) (sa : List Nat) : Prop := ∀ (i x : Nat), sa[i]? = some x → ∃ e, i ≤ 2 * e ∧ ∀ D, DA ar hp β D → D x + e ≤ 1600
theorem r_uni16 (H : MH ty M mm mi h0) (h : okH ar hp) : ∀ (m w : Nat) (sa sb : List Nat) (A : Nat → Nat → Int32) (β : Nat → Option Nat) (θ : Nat → List Nat) (ρ : Nat → Nat), free β = m → wsum ar hp θ sa = w → UI ar hp β θ ρ → okA A ar hp β → sa.length = sb.length → (∀ x ∈ sa, x < hp.length) → (∀ x ∈ sb, x < hp.length) → cert ar hp β sa → seg (A 35) 0 sa → seg (A 36) 0 sb →
    ∃ n A', but4 A A' ∧ ((jf_X12_isUnified_16 ty n M (i32 sa.length) (rst mm mi h0 M I A J) = some (i32 1, rst mm mi h0 M I A' J) ∧ ∃ β' θ' ρ', UI ar hp β' θ' ρ' ∧ okA A' ar hp β' ∧ ∀ φ, wfs ar φ → ((Sol ar hp β φ ∧ prs ar hp φ sa sb) ↔ Sol ar hp β' φ)) ∨
      (jf_X12_isUnified_16 ty n M (i32 sa.length) (rst mm mi h0 M I A J) = some (i32 0, rst mm mi h0 M I A' J) ∧ ∀ φ, wfs ar φ → Sol ar hp β φ → ¬ prs ar hp φ sa sb)) := by
  have h24 := h.2.2.2
  intro m
  induction m using Nat.strongRecOn with
  | ind m ihm =>
  intro w
  induction w using Nat.strongRecOn with
  | ind w ihw =>
  intro sa sb A β θ ρ hm hw u ha hl hxa hxb hc h5 h6
  rcases snoc2 hl with ⟨rfl, rfl⟩ | ⟨xa, xb, p, q, rfl, rfl, hl2⟩
  · refine ⟨1, A, but4.rf, Or.inl ⟨?_, β, θ, ρ, u, ha, fun φ _ => ⟨fun z => z.1, fun z => ⟨z, fun i x y hx => by simp at hx⟩⟩⟩⟩
    rw [jf_X12_isUnified_16_s]
    simp (disch := omega) only [i32_lit, i32_neg, i32_add, i32_sub, i32_mul, i32_lt, i32_le, i32_eq, List.length_nil, if_pos]
  · have hpl : p < hp.length := hxa p (by simp)
    have hql : q < hp.length := hxb q (by simp)
    obtain ⟨p1, a1, a2, a3, a4, a5⟩ := r_led (I := I) (J := J) H h u ha hpl
    obtain ⟨q1, b1, b2, b3, b4, b5⟩ := r_led (I := I) (J := J) H h u ha hql
    obtain ⟨d, hd⟩ := get_some a2
    obtain ⟨e, he⟩ := get_some b2
    have hds := seg_get ha.1 hd
    have hes := seg_get ha.1 he
    rw [Nat.zero_add] at hds hes
    have hdm := h.2.2.1 d (List.mem_of_getElem? hd)
    have hem := h.2.2.1 e (List.mem_of_getElem? he)
    have htop1 : A 35 xa.length = i32 p := by
      have := seg_get (i := xa.length) (c := p) h5 (by simp)
      rwa [Nat.zero_add] at this
    have htop2 : A 36 xa.length = i32 q := by
      have := seg_get (i := xb.length) (c := q) h6 (by simp)
      rwa [Nat.zero_add, ← hl2] at this
    have hsa : seg (A 35) 0 xa := (seg_app.mp h5).1
    have hsb : seg (A 36) 0 xb := (seg_app.mp h6).1
    have hxa' : ∀ x ∈ xa, x < hp.length := fun x hx => hxa x (by simp [hx])
    have hxb' : ∀ x ∈ xb, x < hp.length := fun x hx => hxb x (by simp [hx])
    obtain ⟨e0, he0, hD0⟩ := hc xa.length p (by simp)
    have hDu := hD0 _ (u.da h)
    have hcap : xa.length ≤ 3200 := by omega
    have hc' : cert ar hp β xa := fun i x hx => hc i x (by rw [List.getElem?_append_left (List.getElem?_eq_some_iff.mp hx).1]; exact hx)
    have hlen1 : 1 ≤ (sub θ (tm ar hp p)).length := by
      have := sub_len u.1 (tm ar hp p)
      have := (tm_wf h hpl).2.1
      omega
    have hws := wsum_snoc (ar := ar) (hp := hp) (θ := θ) xa p
    -- a pair and what both lead to
    have hpair : ∀ φ, wfs ar φ → Sol ar hp β φ → ((sub φ (tm ar hp p) = sub φ (tm ar hp q)) ↔ sub φ (tm ar hp p1) = sub φ (tm ar hp q1)) := fun φ hφ hs => by
      rw [← sol_sub u hs (tm ar hp p), ← a3, sol_sub u hs, ← sol_sub u hs (tm ar hp q), ← b3, sol_sub u hs]
    -- the first rows of a turn
    have hturn : ∀ n, jf_X12_isUnified_16 ty (n + 1) M (i32 ((xa ++ [p]).length : Nat)) (rst mm mi h0 M I A J) = if d = e ∧ 100 ≤ d then jf_X12_isUnified_16 ty n M (i32 xa.length) (rst mm mi h0 M I A J) else jf_X12_isUnified_79 ty (jf_X12_isUnified_16 ty n) M (i32 xa.length) (i32 p1) (i32 q1) (rst mm mi h0 M I A J) := by
      intro n
      rw [jf_X12_isUnified_16_s]
      simp (disch := omega) only [i32_lit, i32_neg, i32_add, i32_sub, i32_mul, i32_lt, i32_le, i32_eq, List.length_append, List.length_singleton, if_neg, rr_35 H, rr_36 H, rr_32 H, xbs]
      rw [show (((xa.length + 1 : Nat) : Int) + -1) = (xa.length : Int) by omega]
      simp (disch := omega) only [ga_35 H, ga_36 H, xbs, Int.toNat_natCast, htop1, htop2, a1, b1, ga_32 H, hds, hes, i32_lit, i32_neg, i32_add, i32_sub, i32_mul, i32_lt, i32_le, i32_eq]
      by_cases hde : d = e
      · subst hde
        rw [if_pos rfl]
        by_cases h100 : 100 ≤ d
        · rw [if_neg (by omega), if_pos ⟨rfl, h100⟩]
        · rw [if_pos (by omega), if_neg (by omega)]
      · rw [if_neg (by omega), if_neg (fun z => hde z.1)]
    -- binding
    have hbind : ∀ (v s t z : Nat), hp[s]? = some v → 100 ≤ v → β (v - 100) = none → s < hp.length → t < hp.length → hp[t]? = some z → z ≠ v → (100 ≤ z → β (z - 100) = none) → (∀ φ, wfs ar φ → Sol ar hp β φ → ((sub φ (tm ar hp p) = sub φ (tm ar hp q)) ↔ φ v = sub φ (tm ar hp t))) →
        ∃ n A', but4 A A' ∧ ((jf_X12_isUnified_115 ty (jf_X12_isUnified_16 ty n) M (i32 xa.length) (i32 s) (i32 t) (rst mm mi h0 M I A J) = some (i32 1, rst mm mi h0 M I A' J) ∧ ∃ β' θ' ρ', UI ar hp β' θ' ρ' ∧ okA A' ar hp β' ∧ ∀ φ, wfs ar φ → ((Sol ar hp β φ ∧ prs ar hp φ (xa ++ [p]) (xb ++ [q])) ↔ Sol ar hp β' φ)) ∨
          (jf_X12_isUnified_115 ty (jf_X12_isUnified_16 ty n) M (i32 xa.length) (i32 s) (i32 t) (rst mm mi h0 M I A J) = some (i32 0, rst mm mi h0 M I A' J) ∧ ∀ φ, wfs ar φ → Sol ar hp β φ → ¬ prs ar hp φ (xa ++ [p]) (xb ++ [q]))) := by
      intro v s t z hs hv hvb hsl htl ht hzv hzb heq
      have hvm := h.2.2.1 v (List.mem_of_getElem? hs)
      have hss := seg_get ha.1 hs
      rw [Nat.zero_add] at hss
      obtain ⟨A1, w1, w2⟩ := r_within (I := I) (J := J) H h u hv hvm.1 hvb htl ha
      have ha1 : okA A1 ar hp β := ha.but w2 (by decide)
      have hss1 := seg_get ha1.1 hs
      rw [Nat.zero_add] at hss1
      by_cases hin : v ∈ sub θ (tm ar hp t)
      · refine ⟨0, A1, but4.of w2 (by decide), Or.inr ⟨?_, fun φ hφ hsol hpr => ?_⟩⟩
        · unfold jf_X12_isUnified_115
          simp (disch := omega) only [i32_lit, i32_neg, i32_add, i32_sub, i32_mul, i32_lt, i32_le, i32_eq, rr_32 H, ga_32 H, xbs, Int.toNat_natCast, hss, if_neg, w1, xb2s, decide_eq_true hin, bI_eq0]
          rw [if_neg (by decide)]
        · have h1 := (heq φ hφ hsol).mp ((prs_snoc hl2).mp hpr).2
          have h2 := sub_mem_len hφ hin hv
          rw [sol_sub u hsol, ← h1] at h2
          by_cases hz : z < 100
          · have h3 := sub_tm (θ := θ) h ht hz
            have h4 : 2 ≤ (sub θ (tm ar hp t)).length := by
              rw [h3] at hin ⊢
              rcases List.mem_cons.mp hin with r | r
              · exact absurd r.symm hzv
              · have := List.length_pos_of_mem r
                rw [List.length_cons]; omega
            omega
          · rw [tm_var h ht (by omega), sub_cons, if_neg hz, u.2.1 z (by omega) (hzb (by omega))] at hin
            simp [sub_nil] at hin
            exact hzv hin.symm
      · obtain ⟨ρ', u'⟩ := u.bind h hv hvm.1 hvb htl hin
        have hfree := free_bind (q := t) (show v - 100 < 48 by omega) hvb
        rw [hm] at hfree
        have ha2 : okA (fu2 A1 34 (v - 100) (i32 t)) ar hp (fu β (v - 100) (some t)) := by
          refine ⟨by rw [fu2_row _ _ (by decide)]; exact ha1.1, ha1.2.1.row (fu2_row _ _ (by decide)), fun x hx => ?_⟩
          by_cases hxv : x = v - 100
          · subst hxv; rw [fu2_same, fu_same]; rfl
          · rw [fu2_ne _ _ (Or.inr hxv), fu_ne _ _ hxv]; exact ha1.2.2 x hx
        have hr35 : (fu2 A1 34 (v - 100) (i32 t)) 35 = A 35 := by rw [fu2_row _ _ (by decide), w2 35 (by decide)]
        have hr36 : (fu2 A1 34 (v - 100) (i32 t)) 36 = A 36 := by rw [fu2_row _ _ (by decide), w2 36 (by decide)]
        obtain ⟨n, A', c1, c2⟩ := ihm _ hfree _ xa xb (fu2 A1 34 (v - 100) (i32 t)) _ _ ρ' rfl rfl u' ha2 hl2 hxa' hxb' (fun i x hx => by
          obtain ⟨e1, r1, r2⟩ := hc' i x hx
          exact ⟨e1, r1, fun D hD => r2 D (hD.less hvb)⟩) (by rw [hr35]; exact hsa) (by rw [hr36]; exact hsb)
        have hcall : jf_X12_isUnified_115 ty (jf_X12_isUnified_16 ty n) M (i32 xa.length) (i32 s) (i32 t) (rst mm mi h0 M I A J) = jf_X12_isUnified_16 ty n M (i32 xa.length) (rst mm mi h0 M I (fu2 A1 34 (v - 100) (i32 t)) J) := by
          unfold jf_X12_isUnified_115
          simp (disch := omega) only [i32_lit, i32_neg, i32_add, i32_sub, i32_mul, i32_lt, i32_le, i32_eq, rr_32 H, ga_32 H, xbs, Int.toNat_natCast, hss, hss1, if_neg, w1, xb2s, decide_eq_false hin, bI_eq0, if_true, rr_34 H, wa_34 H]
          rw [show ((v : Int) - 100).toNat = v - 100 by omega]
        refine ⟨n, A', but4.tr (but4.tr (but4.of w2 (by decide)) (but4.of but.fu (by decide))) c1, ?_⟩
        rw [hcall]
        have hsolq : ∀ φ, wfs ar φ → ((Sol ar hp β φ ∧ prs ar hp φ (xa ++ [p]) (xb ++ [q])) ↔ (Sol ar hp (fu β (v - 100) (some t)) φ ∧ prs ar hp φ xa xb)) := fun φ hφ => by
          rw [prs_snoc hl2, Sol.bind hv hvb]
          constructor
          · rintro ⟨s1, s2, s3⟩; exact ⟨⟨s1, (heq φ hφ s1).mp s3⟩, s2⟩
          · rintro ⟨⟨s1, s3⟩, s2⟩; exact ⟨s1, s2, (heq φ hφ s1).mpr s3⟩
        rcases c2 with ⟨c3, β', θ', ρ'', c4, c5, c6⟩ | ⟨c3, c4⟩
        · exact Or.inl ⟨c3, β', θ', ρ'', c4, c5, fun φ hφ => (hsolq φ hφ).trans (c6 φ hφ)⟩
        · refine Or.inr ⟨c3, fun φ hφ hs hpr => ?_⟩
          obtain ⟨z1, z2⟩ := (hsolq φ hφ).mp ⟨hs, hpr⟩
          exact c4 φ hφ z1 z2
    by_cases hde : d = e
    · subst hde
      by_cases h100 : 100 ≤ d
      · -- the same variable
        have hlt : wsum ar hp θ xa < w := by omega
        obtain ⟨n, A', c1, c2⟩ := ihw _ hlt xa xb A β θ ρ hm rfl u ha hl2 hxa' hxb' hc' hsa hsb
        refine ⟨n + 1, A', c1, ?_⟩
        rw [hturn n, if_pos ⟨rfl, h100⟩]
        have hal : ∀ φ, wfs ar φ → Sol ar hp β φ → sub φ (tm ar hp p) = sub φ (tm ar hp q) := fun φ hφ hs => (hpair φ hφ hs).mpr (by rw [tm_var h hd h100, tm_var h he h100])
        rcases c2 with ⟨c3, β', θ', ρ'', c4, c5, c6⟩ | ⟨c3, c4⟩
        · refine Or.inl ⟨c3, β', θ', ρ'', c4, c5, fun φ hφ => ?_⟩
          rw [← c6 φ hφ, prs_snoc hl2]
          constructor
          · rintro ⟨s1, s2, s3⟩; exact ⟨s1, s2⟩
          · rintro ⟨s1, s2⟩; exact ⟨s1, s2, hal φ hφ s1⟩
        · exact Or.inr ⟨c3, fun φ hφ hs hpr => c4 φ hφ hs ((prs_snoc hl2).mp hpr).1⟩
      · -- the same sign
        have hd1 : d < 100 := by omega
        have hpush : ∀ p1, hp[p1]? = some d → p1 < hp.length → ∃ o, tms ar (ar d + o) (hp.drop (p1 + 1)) := by
          intro p1 hd g2
          obtain ⟨o, ho⟩ := h.at g2
          rw [drop_cons hd, Nat.add_comm 1 o] at ho
          have : tms ar (o + ar d) (hp.drop (p1 + 1)) := ho
          exact ⟨o, by rwa [Nat.add_comm] at this⟩
        obtain ⟨Ap, t1, t2, t3, t4, t5⟩ := r_push199 (I := I) (J := J) H h hd (ar d) 0 (p1 + 1) (q1 + 1) xa xb A (by omega) (hpush p1 hd a2) (by omega) (hpush q1 he b2) (by omega) ha hsa hsb hl2 (by omega)
        have hx2 := (tm_head h hd).2
        have hy2 := (tm_head h he).2
        have hlt : wsum ar hp θ (xa ++ ags ar hp (p1 + 1) (ar d)) < w := by
          rw [wsum_app, ← hw, hws]
          have := congrArg List.length (sub_tm (θ := θ) h hd hd1)
          rw [a3, List.length_cons, wsum_flat] at this
          omega
        obtain ⟨n, A', c1, c2⟩ := ihw _ hlt (xa ++ ags ar hp (p1 + 1) (ar d)) (xb ++ ags ar hp (q1 + 1) (ar d)) Ap β θ ρ hm rfl u t3 (by simp [hl2, ags_len]) (fun x hx => by
            rcases List.mem_append.mp hx with hx | hx
            · exact hxa' x hx
            · exact (hx2 x hx).1) (fun x hx => by
            rcases List.mem_append.mp hx with hx | hx
            · exact hxb' x hx
            · exact (hy2 x hx).1) (fun i x hx => by
            by_cases hi : i < xa.length
            · rw [List.getElem?_append_left hi] at hx
              exact hc' i x hx
            · rw [List.getElem?_append_right (by omega)] at hx
              have hmx := List.mem_of_getElem? hx
              have hlx := (List.getElem?_eq_some_iff.mp hx).1
              rw [ags_len] at hlx
              refine ⟨e0 + 1, by omega, fun D hD => ?_⟩
              have r1 := hD.2.1 p1 d hd x hmx
              have r2 := a5 D hD
              have r3 := hD0 D hD
              omega) t4 t5
        refine ⟨n + 1, A', but4.tr t2 c1, ?_⟩
        have hcall : jf_X12_isUnified_79 ty (jf_X12_isUnified_16 ty n) M (i32 xa.length) (i32 p1) (i32 q1) (rst mm mi h0 M I A J) = xlim fun n199 => jf_X12_isUnified_199 ty (jf_X12_isUnified_16 ty n) n199 M (i32 xa.length) (i32 p1) (i32 ((p1 + 1 : Nat) : Int)) (i32 ((q1 + 1 : Nat) : Int)) (i32 ((0 : Nat) : Int)) (rst mm mi h0 M I A J) := by
          unfold jf_X12_isUnified_79 jf_X12_isUnified_115
          simp (disch := omega) only [i32_lit, i32_neg, i32_add, i32_sub, i32_mul, i32_lt, i32_le, i32_eq, rr_32 H, ga_32 H, xbs, Int.toNat_natCast, hds, hes, if_neg, if_pos, if_true]
          rfl
        have hsolq : ∀ φ, wfs ar φ → ((Sol ar hp β φ ∧ prs ar hp φ (xa ++ [p]) (xb ++ [q])) ↔ (Sol ar hp β φ ∧ prs ar hp φ (xa ++ ags ar hp (p1 + 1) (ar d)) (xb ++ ags ar hp (q1 + 1) (ar d)))) := fun φ hφ => by
          rw [prs_snoc hl2, prs_app hl2]
          have hfl := flat_inj h hφ (ags ar hp (p1 + 1) (ar d)) (ags ar hp (q1 + 1) (ar d)) (by simp [ags_len]) (fun x hx => (hx2 x hx).1) (fun x hx => (hy2 x hx).1)
          constructor
          · rintro ⟨s1, s2, s3⟩
            refine ⟨s1, s2, hfl.mp ?_⟩
            have := (hpair φ hφ s1).mp s3
            rw [sub_tm h hd hd1, sub_tm h he hd1] at this
            exact (List.cons.inj this).2
          · rintro ⟨s1, s2, s3⟩
            refine ⟨s1, s2, (hpair φ hφ s1).mpr ?_⟩
            rw [sub_tm h hd hd1, sub_tm h he hd1, hfl.mpr s3]
        rw [hturn n, if_neg (by omega), hcall]
        rw [List.length_append, ags_len] at c2
        rcases c2 with ⟨c3, β', θ', ρ'', c4, c5, c6⟩ | ⟨c3, c4⟩
        · exact Or.inl ⟨jf_X12_isUnified_199_l (n := ar d + 1) ((t1 _ _ (by omega)).trans c3), β', θ', ρ'', c4, c5, fun φ hφ => (hsolq φ hφ).trans (c6 φ hφ)⟩
        · refine Or.inr ⟨jf_X12_isUnified_199_l (n := ar d + 1) ((t1 _ _ (by omega)).trans c3), fun φ hφ hs hpr => ?_⟩
          obtain ⟨z1, z2⟩ := (hsolq φ hφ).mp ⟨hs, hpr⟩
          exact c4 φ hφ z1 z2
    · by_cases hd100 : 100 ≤ d
      · obtain ⟨n, A', c1, c2⟩ := hbind d p1 q1 e hd hd100 (a4 d hd hd100) a2 b2 he (Ne.symm hde) (b4 e he) (fun φ hφ hs => by
          rw [hpair φ hφ hs, tm_var h hd hd100, sub_cons, if_neg (by omega), sub_nil, List.append_nil])
        refine ⟨n + 1, A', c1, ?_⟩
        have hcall : ∀ k, jf_X12_isUnified_79 ty k M (i32 xa.length) (i32 p1) (i32 q1) (rst mm mi h0 M I A J) = jf_X12_isUnified_115 ty k M (i32 xa.length) (i32 p1) (i32 q1) (rst mm mi h0 M I A J) := fun k => by
          unfold jf_X12_isUnified_79
          simp (disch := omega) only [i32_lit, i32_neg, i32_add, i32_sub, i32_mul, i32_lt, i32_le, i32_eq, rr_32 H, ga_32 H, xbs, Int.toNat_natCast, hds, if_pos]
        rw [hturn n, if_neg (fun z => hde z.1), hcall]
        exact c2
      · by_cases he100 : 100 ≤ e
        · obtain ⟨n, A', c1, c2⟩ := hbind e q1 p1 d he he100 (b4 e he he100) b2 a2 hd hde (a4 d hd) (fun φ hφ hs => by
            rw [hpair φ hφ hs, tm_var h he he100, sub_cons, if_neg (by omega), sub_nil, List.append_nil]
            exact eq_comm)
          refine ⟨n + 1, A', c1, ?_⟩
          have hcall : ∀ k, jf_X12_isUnified_79 ty k M (i32 xa.length) (i32 p1) (i32 q1) (rst mm mi h0 M I A J) = jf_X12_isUnified_115 ty k M (i32 xa.length) (i32 q1) (i32 p1) (rst mm mi h0 M I A J) := fun k => by
            unfold jf_X12_isUnified_79
            simp (disch := omega) only [i32_lit, i32_neg, i32_add, i32_sub, i32_mul, i32_lt, i32_le, i32_eq, rr_32 H, ga_32 H, xbs, Int.toNat_natCast, hds, hes, if_neg]
          rw [hturn n, if_neg (fun z => hde z.1), hcall]
          exact c2
        · -- two signs that are unlike
          refine ⟨1, A, but4.rf, Or.inr ⟨?_, fun φ hφ hs hpr => ?_⟩⟩
          · rw [hturn 0, if_neg (fun z => hde z.1)]
            unfold jf_X12_isUnified_79 jf_X12_isUnified_115
            simp (disch := omega) only [i32_lit, i32_neg, i32_add, i32_sub, i32_mul, i32_lt, i32_le, i32_eq, rr_32 H, ga_32 H, xbs, Int.toNat_natCast, hds, hes, if_neg, if_pos]
          · have := (hpair φ hφ hs).mp ((prs_snoc hl2).mp hpr).2
            rw [sub_tm h hd (by omega), sub_tm h he (by omega)] at this
            exact hde (List.cons.inj this).1
end UNIR

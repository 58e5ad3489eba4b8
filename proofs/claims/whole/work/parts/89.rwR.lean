/-! rewriting: the model -/
section RWR
variable {ty : xTy} {N M : Nat} {hA hB h0 : xH} {mm mi : Nat → Nat} {c : CS} {I : Nat → Int32} {A : Nat → Nat → Int32} {J : Nat → Int64} {g : Sg} {b : Bk} {ar : Nat → Nat}
theorem skipN_pre {X Y : List Nat} {o : Nat} (h : tms ar (1 + o) X) : skipN ar 1 (X ++ Y) = skipN ar 1 X := by
  obtain ⟨s1, s2, -, s4, -, -⟩ := fst1_split h
  have := skipN_app (K := snd1 ar X ++ Y) s2
  rw [← List.append_assoc, s1] at this
  rw [this, s4]
/-- the whole lies first in the heap, a rule's term behind -/
def HS (A : Nat → Nat → Int32) (ar : Nat → Nat) (S T : List Nat) : Prop := seg (A 32) 0 (S ++ T.map (sh 4)) ∧ arR A ar (S ++ T.map (sh 4))
theorem r_enS (H : MH ty M mm mi h0) (hz : ∀ d, 100 ≤ d → ar d = 0) {S T : List Nat} (tS : tms ar 1 S) (tT : tms ar 1 T) (lS : S.length ≤ 60) (lT : T.length ≤ 12) (hH : HS A ar S T) {p : Nat} (hp : p < S.length) : jf_X12_endAt ty (rst mm mi h0 M I A J) M (i32 p) = some (i32 ((p + skipN ar 1 (S.drop p) : Nat) : Int)) := by
  have t2 : tms ar (1 + 1) (S ++ T.map (sh 4)) := tms_app tS ((tms_sh hz 4 T 1).mpr tT)
  obtain ⟨z, hz1⟩ := tms_dr t2 (a := p) (by simp; omega)
  obtain ⟨z2, hz2⟩ := tms_dr tS hp
  have s2 := seg_drop hH.1 p
  rw [Nat.zero_add] at s2
  rw [r_endAt H hz1 s2 (hH.2.drop p) (by rw [List.length_drop]; simp; omega), List.drop_append_of_le_length (by omega), skipN_pre hz2]
theorem r_isStep (H : MH ty M mm mi h0) (hg : gwf g) (hr : RRep I A g) {S : List Nat} (hS : swf (gb g) S) (h48 : seg (A 48) 0 S) (h49 : I 49 = i32 S.length) {p r : Nat} (hp : p < S.length) (hrr : r < bnr (gb g)) :
    ∃ I' A', jf_X12_isStep ty (rst mm mi h0 M I A J) M (i32 r) (i32 p) = some (bI (rfM g S p r).isSome, rst mm mi h0 M I' A' J) ∧ (∀ k, k ≠ 33 → I' k = I k) ∧ (∀ k, k ≠ 32 → k ≠ 34 → A' k = A k) ∧ ∀ β, rfM g S p r = some β → HS A' (bar (gb g)) S (bT (gb g) r) ∧ ∃ β', SB 4 0 β β' ∧ BR A' (bar (gb g)) β' := by
  have h16 := hg.1.2.2.1
  have hb := hg.1
  have hz := bar_z (gb g)
  have hT := (hb.2.2.2.2 r hrr).1
  have lT := hT.2.1
  have lS := hS.2.1
  have hrow := hr.1.2.2.2.2.2 r hrr
  have hUl : (bU (gb g) r).length ≤ 12 := by
    rcases (hb.2.2.2.2 r hrr).2 with h | h
    · rw [h]; simp
    · exact h.1.2.1
  unfold jf_X12_isStep
  simp (disch := omega) only [r_isInNow hg.z hr.2.1, xbs, i32_lit, bI_eq0, rr_24 H, ga_24 H, Int.toNat_natCast, hrow.2.2.2.1]
  cases hin : inR (gin g) r with
  | false =>
    have e : rfM g S p r = none := by unfold rfM; rw [hin]; rfl
    simp only [if_true, e]
    exact ⟨I, A, rfl, fun _ _ => rfl, fun _ _ _ => rfl, fun β h => by cases h⟩
  | true =>
  simp only [Bool.true_eq_false, if_false]
  by_cases hue : i32 ((bU (gb g) r).length : Nat) = i32 0
  · have e0 : bU (gb g) r = [] := by
      rw [i32_eq (by omega) (by omega) (by omega) (by omega)] at hue
      exact List.length_eq_zero_iff.mp (by omega)
    have e : rfM g S p r = none := by unfold rfM; rw [e0, List.isEmpty_nil, Bool.not_true, Bool.and_false]; rfl
    simp only [eq_true hue, if_true, e]
    exact ⟨I, A, rfl, fun _ _ => rfl, fun _ _ _ => rfl, fun β h => by cases h⟩
  · have hne : (bU (gb g) r).isEmpty = false := by
      cases hx : bU (gb g) r with
      | nil => rw [hx] at hue; exact absurd rfl hue
      | cons x X => rfl
    have hmM : rfM g S p r = mt (bar (gb g)) (bT (gb g) r) (S.drop p) b00 := by unfold rfM; rw [hin, hne]; rfl
    simp only [eq_false hue, if_false]
    obtain ⟨A1, c1, c2, c3⟩ := r_clears (I := I) (A := A) (J := J) H
    have s112 : ∀ d ∈ S, d < 112 := fun d hd => by have := vc_lt hb (hS.2.2 d hd); omega
    obtain ⟨A2, p1, p2, p3, p4⟩ := r_puts (I := fu I 33 (i32 0)) (A := A1) (J := J) H (kr := 48) (by decide) (by decide) (v := 0) (by omega) (by omega) (fm := 0) (at1 := 0) (L := S) (by rw [fu_same]; rfl) (by show 0 + S.length ≤ 60; omega) (by decide) (by omega) (by rw [c2 48 (by decide)]; exact h48) s112
    obtain ⟨I2, hI2⟩ : ∃ I2, I2 = fu (fu I 33 (i32 0)) 33 (i32 ((0 + S.length : Nat) : Int)) := ⟨_, rfl⟩
    have hI2k : ∀ k, k ≠ 33 → I2 k = I k := fun k hk => by rw [hI2, fu_ne _ _ hk, fu_ne _ _ hk]
    have kI2 : keepI I I2 := fun k hk => hI2k k (fun z => by subst z; revert hk; decide)
    rw [← hI2] at p1
    have kA2 : keepA A A2 := (keepA.but c2 (by decide)).tr (keepA.but p2 (by decide))
    obtain ⟨A3, r1, r2, r3, r4⟩ := r_putsRule (I := I2) (A := A2) (J := J) (v := 4) H hb (hr.1.keep kI2 kA2) hrr (by omega) (at1 := S.length) (by rw [hI2, fu_same, Nat.zero_add]) (by omega)
    obtain ⟨I3, hI3⟩ : ∃ I3, I3 = fu I2 33 (i32 ((S.length + (bT (gb g) r).length : Nat) : Int)) := ⟨_, rfl⟩
    have hI3k : ∀ k, k ≠ 33 → I3 k = I k := fun k hk => by rw [hI3, fu_ne _ _ hk]; exact hI2k k hk
    rw [← hI3] at r1
    have kA3 : keepA A A3 := kA2.tr (keepA.but r2 (by decide))
    rw [show ((0 : Int)) = ((0 : Nat) : Int) from rfl, putK_sh (by omega), sh0] at p4
    rw [putK_sh (by omega)] at r4
    have hseg : seg (A3 32) 0 (S ++ (bT (gb g) r).map (sh 4)) := by
      rw [seg_app]
      refine ⟨fun i d hd => ?_, by rw [Nat.zero_add]; exact r4⟩
      have hi := (List.getElem?_eq_some_iff.mp hd).1
      rw [r3 (0 + i) (by omega)]
      exact p4 i d hd
    have har : arR A3 (bar (gb g)) (S ++ (bT (gb g) r).map (sh 4)) := by
      refine ar19 hb hr.1 (kA3 19 (by decide)) (fun d hd => ?_)
      rcases List.mem_append.mp hd with hd | hd
      · have := hS.2.2 d hd
        have h8 := hb.1
        have h4 := hb.2.1
        unfold vc at this
        omega
      · exact ((hT.lo hb).sh hb (by omega)).2 d hd
    have h34 : ∀ x, x < 48 → A3 34 x = i32 (-1) := fun x hx => by rw [r2 34 (by decide), p2 34 (by decide)]; exact c3 x hx
    obtain ⟨z, hzp⟩ := tms_dr hS.1 hp
    have hs1 := (seg_app.mp hseg).1
    have hs2 := (seg_app.mp hseg).2
    rw [Nat.zero_add] at hs2
    have hsd := seg_drop hs1 p
    rw [Nat.zero_add] at hsd
    obtain ⟨A4, y1, y2, y3⟩ := r_made (I := I3) (J := J) (o := z) (b := b00) H ((tms_sh hz 4 _ 1).mpr hT.1) hzp hs2 hsd (har.sub (fun c hc => by simp [hc])) (har.sub (fun c hc => by simp [List.mem_of_mem_drop hc])) (by rw [List.length_map]; omega) (by rw [List.length_drop]; omega) (fun v hv => ⟨fun _ => h34 v hv, fun s hs => by cases hs⟩)
    obtain ⟨z1, z2⟩ := mt_sh hz 4 0 (bT (gb g) r) (S.drop p) b00 b00 (fun v => rfl)
    rw [sh0] at z1 z2
    refine ⟨I3, A4, ?_, hI3k, fun k k1 k2 => ?_, fun β hβ => ?_⟩
    · rw [c1, xbs, rr_48 H, xbs, rI, fu_ne _ _ (by decide), h49, show i32 0 = i32 ((0 : Nat) : Int) from rfl]
      rw [show ((0 : Nat) : Int) = 0 from rfl] at p1 ⊢
      rw [p1, xb2s, show i32 4 = i32 ((4 : Nat) : Int) from rfl, r1, xb2s, y1, xb2s, xz_b, xbs, z1, hmM]
    · rw [y2 k k2, r2 k k1, p2 k k1, c2 k k2]
    · rw [hmM] at hβ
      rw [hβ] at z1 z2
      obtain ⟨β', hβ'⟩ := Option.isSome_iff_exists.mp z1
      refine ⟨⟨by rw [y2 32 (by decide)]; exact hseg, ?_⟩, β', z2 β β' rfl hβ', y3 β' hβ'⟩
      unfold arR at *
      rw [y2 19 (by decide)]
      exact har
theorem r_132 (H : MH ty M mm mi h0) {d r p i fm : Nat} {v5 : Int32} {s D : List Nat} (hl : D.length + s.length ≤ 60) (hd : d < 1000) (hi : i < 1000) (hv : 100 ≤ d → v5 = i32 (fm : Nat) ∧ fm + s.length ≤ 400) : ∀ (k j : Nat) (I : Nat → Int32) (A : Nat → Nat → Int32), j + k = s.length → I 53 = i32 ((D.length + j : Nat) : Int) → seg (A 52) 0 (D ++ s.take j) → (∀ j x, s[j]? = some x → (100 ≤ d → A 32 (fm + j) = i32 (x : Nat)) ∧ (d < 100 → x = d)) →
    ∃ I' A', (∀ k45 : Nat → Int32 → Int32 → Int32 → xH → Option (Int32 × xH), jf_X12_isReplaced_132 ty k45 (k + 1) M (i32 (r : Nat)) (i32 (p : Nat)) (i32 (i : Nat)) (i32 (d : Nat)) v5 (i32 s.length) (i32 (j : Nat)) (rst mm mi h0 M I A J) = k45 M (i32 (r : Nat)) (i32 (p : Nat)) (i32 ((i + 1 : Nat) : Int)) (rst mm mi h0 M I' A' J)) ∧ (∀ k, k ≠ 53 → I' k = I k) ∧ I' 53 = i32 ((D.length + s.length : Nat) : Int) ∧ but 52 A A' ∧ seg (A' 52) 0 (D ++ s) := by
  intro k
  induction k with
  | zero =>
    intro j I A h1 h53 hs hsrc
    rw [List.take_of_length_le (by omega)] at hs
    refine ⟨I, A, fun k45 => ?_, fun _ _ => rfl, by rw [h53, show j = s.length by omega], but.rf, hs⟩
    rw [jf_X12_isReplaced_132_s]
    simp (disch := omega) only [i32_lit, i32_le, if_pos, i32_add]
    rw [show (i : Int) + 1 = ((i + 1 : Nat) : Int) by omega]
  | succ k ih =>
    intro j I A h1 h53 hs hsrc
    obtain ⟨x, hx⟩ := get_some (L := s) (i := j) (by omega)
    obtain ⟨x1, x2⟩ := hsrc j x hx
    obtain ⟨A1, hA1⟩ : ∃ A1, A1 = fu2 A 52 (D.length + j) (i32 (x : Nat)) := ⟨_, rfl⟩
    obtain ⟨I1, hI1⟩ : ∃ I1, I1 = fu I 53 (i32 ((D.length + (j + 1) : Nat) : Int)) := ⟨_, rfl⟩
    have hDl : (D ++ s.take j).length = D.length + j := by rw [List.length_append, List.length_take]; omega
    obtain ⟨I', A', q1, q2, q3, q4, q5⟩ := ih (j + 1) I1 A1 (by omega) (by rw [hI1, fu_same]) (by
      rw [List.take_add_one, hx, ← List.append_assoc, hA1]
      exact seg_snoc (seg_fu2 hs (by omega)) (by rw [Nat.zero_add, hDl, fu2_same])) (fun j' x' h => by rw [hA1, fu2_row _ _ (by decide)]; exact hsrc j' x' h)
    refine ⟨I', A', fun k45 => ?_, fun k hk => by rw [q2 k hk, hI1, fu_ne _ _ hk], q3, but.tr (by rw [hA1]; exact but.fu) q4, q5⟩
    rw [jf_X12_isReplaced_132_s, ← q1 k45]
    by_cases w : 100 ≤ d
    · obtain ⟨v1, v2⟩ := hv w
      have w' : (100 : Int) ≤ (d : Int) := by omega
      simp (disch := omega) only [i32_lit, i32_le, if_neg, rr_52 H, xbs, eq_true w', if_true, rr_32 H, v1, i32_add]
      rw [show (fm : Int) + (j : Int) = ((fm + j : Nat) : Int) by omega]
      simp (disch := omega) only [ga_32 H, xbs, Int.toNat_natCast, x1 w, rI, h53, wa_52 H, rsI, i32_add]
      rw [← hA1, show ((D.length + j : Nat) : Int) + 1 = ((D.length + (j + 1) : Nat) : Int) by omega, ← hI1, show (j : Int) + 1 = ((j + 1 : Nat) : Int) by omega]
    · have w' : ¬ (100 : Int) ≤ (d : Int) := by omega
      have hxd := x2 (by omega)
      simp (disch := omega) only [i32_lit, i32_le, if_neg, rr_52 H, xbs, eq_false w', if_false, rI, h53, wa_52 H, Int.toNat_natCast, rsI, i32_add]
      rw [← hxd, ← hA1, show ((D.length + j : Nat) : Int) + 1 = ((D.length + (j + 1) : Nat) : Int) by omega, ← hI1, show (j : Int) + 1 = ((j + 1 : Nat) : Int) by omega]
theorem r_250 (H : MH ty M mm mi h0) {W : List Nat} (hl : W.length ≤ 60) (h53 : I 53 = i32 W.length) : ∀ (k i : Nat) (A : Nat → Nat → Int32), i + k = W.length → seg (A 52) 0 W → seg (A 48) 0 (W.take i) →
    ∃ A', jf_X12_isReplaced_250 ty (k + 1) M (i32 (i : Nat)) (rst mm mi h0 M I A J) = some (i32 1, rst mm mi h0 M (fu I 49 (i32 W.length)) A' J) ∧ but 48 A A' ∧ seg (A' 48) 0 W := by
  intro k
  induction k with
  | zero =>
    intro i A h1 h2 h3
    refine ⟨A, ?_, but.rf, by rw [List.take_of_length_le (by omega)] at h3; exact h3⟩
    rw [jf_X12_isReplaced_250_s]
    simp (disch := omega) only [rI, h53, i32_lit, i32_neg, i32_add, i32_sub, i32_mul, i32_lt, i32_le, i32_eq, if_pos, rsI, xbs]
  | succ k ih =>
    intro i A h1 h2 h3
    obtain ⟨d, hd⟩ := get_some (L := W) (i := i) (by omega)
    have h52 : A 52 i = i32 (d : Nat) := by
      have := h2 i d hd
      rw [Nat.zero_add] at this
      exact this
    obtain ⟨A1, hA1⟩ : ∃ A1, A1 = fu2 A 48 i (i32 (d : Nat)) := ⟨_, rfl⟩
    have hlt : (W.take i).length = i := by rw [List.length_take]; omega
    obtain ⟨A', q1, q2, q3⟩ := ih (i + 1) A1 (by omega) (by rw [hA1, fu2_row _ _ (by decide)]; exact h2) (by
      rw [List.take_add_one, hd, hA1]
      exact seg_snoc (seg_fu2 h3 (by omega)) (by rw [Nat.zero_add, hlt, fu2_same]))
    refine ⟨A', ?_, but.tr (by rw [hA1]; exact but.fu) q2, q3⟩
    rw [jf_X12_isReplaced_250_s, ← q1]
    simp (disch := omega) only [rI, h53, i32_lit, i32_neg, i32_add, i32_sub, i32_mul, i32_lt, i32_le, i32_eq, if_neg, rr_48 H, rr_52 H, ga_52 H, wa_48 H, xbs, Int.toNat_natCast, h52]
    rw [← hA1, show (i : Int) + 1 = ((i + 1 : Nat) : Int) by omega]
/-- after a try to replace: what the model holds -/
def rpM (I I' : Nat → Int32) (A A' : Nat → Nat → Int32) (W : List Nat) : Prop := (∀ k, k ≠ 49 → k ≠ 53 → I' k = I k) ∧ (∀ k, k ≠ 48 → k ≠ 52 → A' k = A k) ∧ (W.length ≤ 60 → seg (A' 48) 0 W ∧ I' 49 = i32 W.length) ∧ (60 < W.length → A' 48 = A 48 ∧ I' 49 = I 49)
theorem r_198 (H : MH ty M mm mi h0) {S : List Nat} (lS : S.length ≤ 60) : ∀ (k e : Nat) (I : Nat → Int32) (A : Nat → Nat → Int32) (D : List Nat), e + k = S.length → D.length ≤ 60 → I 49 = i32 S.length → I 53 = i32 D.length → seg (A 48) 0 S → seg (A 52) 0 D →
    ∃ m I' A', jf_X12_isReplaced_198 ty m M (i32 (e : Nat)) (rst mm mi h0 M I A J) = some (bI (decide ((D ++ S.drop e).length ≤ 60)), rst mm mi h0 M I' A' J) ∧ rpM I I' A A' (D ++ S.drop e) := by
  intro k
  induction k with
  | zero =>
    intro e I A D h1 hD h49 h53 h48 h52
    rw [show S.drop e = [] from List.drop_of_length_le (by omega), List.append_nil]
    obtain ⟨A', q1, q2, q3⟩ := r_250 (J := J) H hD h53 D.length 0 A (by omega) h52 (seg_nil _ _)
    refine ⟨1, _, A', ?_, fun k k1 _ => fu_ne _ _ k1, fun k k1 _ => q2 k k1, fun _ => ⟨q3, fu_same _ _ _⟩, fun h => by omega⟩
    rw [decide_eq_true hD, jf_X12_isReplaced_198_s]
    simp (disch := omega) only [rI, h49, i32_lit, i32_neg, i32_add, i32_sub, i32_mul, i32_lt, i32_le, i32_eq, if_pos]
    exact jf_X12_isReplaced_250_l q1
  | succ k ih =>
    intro e I A D h1 hD h49 h53 h48 h52
    obtain ⟨d, hd⟩ := get_some (L := S) (i := e) (by omega)
    have hdd := drop_cons hd
    rcases Nat.lt_or_ge D.length 60 with hl | hl
    · have e48 : A 48 e = i32 (d : Nat) := by
        have := h48 e d hd
        rw [Nat.zero_add] at this
        exact this
      obtain ⟨A1, hA1⟩ : ∃ A1, A1 = fu2 A 52 D.length (i32 (d : Nat)) := ⟨_, rfl⟩
      obtain ⟨I1, hI1⟩ : ∃ I1, I1 = fu I 53 (i32 ((D.length + 1 : Nat) : Int)) := ⟨_, rfl⟩
      obtain ⟨m, I', A', q1, q2, q3, q4, q5⟩ := ih (e + 1) I1 A1 (D ++ [d]) (by omega) (by rw [List.length_append, List.length_singleton]; omega) (by rw [hI1, fu_ne _ _ (by decide)]; exact h49) (by rw [hI1, fu_same, List.length_append, List.length_singleton]) (by rw [hA1, fu2_row _ _ (by decide)]; exact h48) (by rw [hA1]; exact seg_snoc (seg_fu2 h52 (by omega)) (by rw [Nat.zero_add, fu2_same]))
      rw [List.append_assoc, List.singleton_append, ← hdd] at q1 q4 q5
      refine ⟨m + 1, I', A', ?_, fun k k1 k2 => by rw [q2 k k1 k2, hI1, fu_ne _ _ k2], fun k k1 k2 => by rw [q3 k k1 k2, hA1, fu2_row _ _ k2], q4, fun h => ?_⟩
      · rw [jf_X12_isReplaced_198_s, ← q1]
        have hne : ¬ (D.length : Int) = 60 := by omega
        simp (disch := omega) only [rI, h49, h53, i32_lit, i32_neg, i32_add, i32_sub, i32_mul, i32_lt, i32_le, i32_eq, if_neg, eq_false hne, if_false, rr_52 H, rr_48 H, ga_48 H, wa_52 H, xbs, Int.toNat_natCast, e48, rsI]
        rw [← hA1, show (D.length : Int) + 1 = ((D.length + 1 : Nat) : Int) by omega, ← hI1, show (e : Int) + 1 = ((e + 1 : Nat) : Int) by omega]
      · obtain ⟨z1, z2⟩ := q5 h
        exact ⟨by rw [z1, hA1, fu2_row _ _ (by decide)], by rw [z2, hI1, fu_ne _ _ (by decide)]⟩
    · have hW : 60 < (D ++ S.drop e).length := by rw [hdd, List.length_append, List.length_cons]; omega
      refine ⟨1, I, A, ?_, fun _ _ _ => rfl, fun _ _ _ => rfl, fun h => by omega, fun _ => ⟨rfl, rfl⟩⟩
      rw [decide_eq_false (by omega), jf_X12_isReplaced_198_s]
      have he : (D.length : Int) = 60 := by omega
      simp (disch := omega) only [rI, h49, h53, i32_lit, i32_neg, i32_add, i32_sub, i32_mul, i32_lt, i32_le, i32_eq, if_neg, eq_true he, if_true]
      rfl
theorem r_45 (H : MH ty M mm mi h0) (hg : gwf g) {S : List Nat} {r p : Nat} {β β' : Bd} (hS : swf (gb g) S) (hp : p < S.length) (hrr : r < bnr (gb g)) (hbd : ∀ d ∈ bU (gb g) r, 100 ≤ d → ∃ s, β (d - 100) = some s) (hUv : ∀ d ∈ bU (gb g) r, vc (gb g) d) (hUl : (bU (gb g) r).length ≤ 12) (hSB : SB 4 0 β β') : ∀ (k i : Nat) (I : Nat → Int32) (A : Nat → Nat → Int32) (D : List Nat), i + k = (bU (gb g) r).length → D.length ≤ 60 → RB I A (gb g) → HS A (bar (gb g)) S (bT (gb g) r) → BR A (bar (gb g)) β' → I 49 = i32 S.length → I 53 = i32 D.length → seg (A 48) 0 S → seg (A 52) 0 D →
    ∃ m I' A', jf_X12_isReplaced_45 ty m M (i32 (r : Nat)) (i32 (p : Nat)) (i32 (i : Nat)) (rst mm mi h0 M I A J) = some (bI (decide ((D ++ fil β ((bU (gb g) r).drop i) ++ S.drop (p + skipN (bar (gb g)) 1 (S.drop p))).length ≤ 60)), rst mm mi h0 M I' A' J) ∧ rpM I I' A A' (D ++ fil β ((bU (gb g) r).drop i) ++ S.drop (p + skipN (bar (gb g)) 1 (S.drop p))) := by
  have h16 := hg.1.2.2.1
  have lS := hS.2.1
  have hz := bar_z (gb g)
  have hT := (hg.1.2.2.2.2 r hrr).1
  have hsk := skipN_le (ar := bar (gb g)) 1 (S.drop p)
  rw [List.length_drop] at hsk
  intro k
  induction k with
  | zero =>
    intro i I A D h1 hD hR hH hB h49 h53 h48 h52
    have hrow := hR.2.2.2.2.2 r hrr
    rw [show (bU (gb g) r).drop i = [] from List.drop_of_length_le (by omega), show fil β [] = [] from rfl, List.append_nil]
    obtain ⟨m, I', A', q1, q2⟩ := r_198 (J := J) H lS (S.length - (p + skipN (bar (gb g)) 1 (S.drop p))) (p + skipN (bar (gb g)) 1 (S.drop p)) I A D (by omega) hD h49 h53 h48 h52
    refine ⟨1, I', A', ?_, q2⟩
    rw [jf_X12_isReplaced_45_s]
    simp (disch := omega) only [rr_24 H, ga_24 H, xbs, Int.toNat_natCast, hrow.2.2.2.1, i32_lit, i32_neg, i32_add, i32_sub, i32_mul, i32_lt, i32_le, i32_eq, if_pos, r_enS H hz hS.1 hT.1 lS hT.2.1 hH hp]
    exact jf_X12_isReplaced_198_l q1
  | succ k ih =>
    intro i I A D h1 hD hR hH hB h49 h53 h48 h52
    have hrow := hR.2.2.2.2.2 r hrr
    obtain ⟨d, hd⟩ := get_some (L := bU (gb g) r) (i := i) (by omega)
    have hdm := List.mem_of_getElem? hd
    have hd4 := vc_lt hg.1 (hUv d hdm)
    have hfil : fil β ((bU (gb g) r).drop i) = sgm β d ++ fil β ((bU (gb g) r).drop (i + 1)) := by rw [drop_cons hd]; rfl
    have h25 : A 25 (12 * r + i) = i32 (d : Nat) := hrow.2.2.2.2 i d hd
    obtain ⟨s, hs⟩ : ∃ s, s = sgm β d := ⟨_, rfl⟩
    rw [hfil, ← hs]
    -- where it is copied from
    obtain ⟨fm, v5, hsrc, hv5, h91⟩ : ∃ (fm : Nat) (v5 : Int32), (∀ j x, s[j]? = some x → (100 ≤ d → A 32 (fm + j) = i32 (x : Nat)) ∧ (d < 100 → x = d)) ∧ (100 ≤ d → v5 = i32 (fm : Nat) ∧ fm + s.length ≤ 400) ∧ ∀ m, jf_X12_isReplaced_45 ty (m + 1) M (i32 (r : Nat)) (i32 (p : Nat)) (i32 (i : Nat)) (rst mm mi h0 M I A J) = if D.length + s.length ≤ 60 then (xlim fun n132 => jf_X12_isReplaced_132 ty (jf_X12_isReplaced_45 ty m) n132 M (i32 (r : Nat)) (i32 (p : Nat)) (i32 (i : Nat)) (i32 (d : Nat)) v5 (i32 s.length) (i32 0) (rst mm mi h0 M I A J)) else some (i32 0, rst mm mi h0 M I A J) := by
      have r12 : (12 : Int) * (r : Int) + (i : Int) = ((12 * r + i : Nat) : Int) := by omega
      by_cases w : 100 ≤ d
      · obtain ⟨t, ht⟩ := hbd d hdm w
        have hst : s = t := by rw [hs]; unfold sgm; rw [if_pos w, ht]; rfl
        have hv := hSB (d - 100)
        rw [ht] at hv
        obtain ⟨fm, o, K, u1, u2, u3, u4, u5, u6⟩ := (hB (d - 100 + 4) (by omega)).2 _ hv
        rw [sh0] at u6
        obtain ⟨-, -, -, f3, f4, -⟩ := fst1_split u3
        have hsl : s.length = skipN (bar (gb g)) 1 K := by rw [hst, u6, f3]
        refine ⟨fm, i32 (fm : Nat), fun j x hx => ⟨fun _ => ?_, fun h => by omega⟩, fun _ => ⟨rfl, by omega⟩, fun m => ?_⟩
        · rw [hst, u6] at hx
          unfold fst1 at hx
          rw [List.getElem?_take] at hx
          split at hx
          · exact u2 j x hx
          · cases hx
        · have hen := r_endAt (I := I) (J := J) H u3 u2 u4 u5
          have w' : (100 : Int) ≤ (d : Int) := by omega
          have e34 : (4 : Int) + (d : Int) - 100 = ((d - 100 + 4 : Nat) : Int) := by omega
          rw [jf_X12_isReplaced_45_s]
          simp (disch := omega) only [rr_24 H, ga_24 H, xbs, Int.toNat_natCast, hrow.2.2.2.1, i32_lit, i32_le, if_neg, rr_25 H, i32_mul, i32_add, r12]
          simp (disch := omega) only [ga_25 H, xbs, Int.toNat_natCast, h25, i32_le, eq_true w', if_true, rr_34 H, i32_add, i32_sub, e34, ga_34 H, u1]
          unfold jf_X12_isReplaced_91
          simp (disch := omega) only [i32_lit, i32_le, eq_true w', if_true, hen, xbs, rI, h53, i32_sub, i32_add]
          rw [show ((fm + skipN (bar (gb g)) 1 K : Nat) : Int) - (fm : Int) = ((s.length : Nat) : Int) by omega]
          by_cases w2 : (D.length : Int) + ((s.length : Nat) : Int) ≤ 60
          · simp only [eq_true w2, if_true]
            rw [if_pos (by omega)]
          · simp only [eq_false w2, if_false]
            rw [if_neg (by omega)]
      · have hst : s = [d] := by rw [hs]; unfold sgm; rw [if_neg w]
        refine ⟨0, i32 (-1), fun j x hx => ⟨fun h => absurd h w, fun _ => ?_⟩, fun h => absurd h w, fun m => ?_⟩
        · rw [hst] at hx
          cases j with
          | zero => simp at hx; exact hx.symm
          | succ j => simp at hx
        · have w' : ¬ (100 : Int) ≤ (d : Int) := by omega
          have hsl : s.length = 1 := by rw [hst]; rfl
          rw [jf_X12_isReplaced_45_s]
          simp (disch := omega) only [rr_24 H, ga_24 H, xbs, Int.toNat_natCast, hrow.2.2.2.1, i32_lit, i32_le, if_neg, rr_25 H, i32_mul, i32_add, r12]
          simp (disch := omega) only [ga_25 H, xbs, Int.toNat_natCast, h25, i32_le, eq_false w', if_false, i32_neg]
          unfold jf_X12_isReplaced_91
          simp (disch := omega) only [i32_lit, i32_le, eq_false w', if_false, rI, h53, i32_add]
          rw [hsl]
          by_cases w2 : (D.length : Int) + 1 ≤ 60
          · simp only [eq_true w2, if_true]
            rw [if_pos (by omega)]
            rfl
          · simp only [eq_false w2, if_false]
            rw [if_neg (by omega)]
    by_cases w : D.length + s.length ≤ 60
    · obtain ⟨I1, A1, p1, p2, p3, p4, p5⟩ := r_132 (J := J) (r := r) (p := p) (i := i) H w (show d < 1000 by omega) (by omega) hv5 s.length 0 I A (by omega) h53 (by rw [List.take_zero, List.append_nil]; exact h52) hsrc
      have kA1 : ∀ k, k ≠ 52 → A1 k = A k := p4
      have hR1 : RB I1 A1 (gb g) := hR.keep (fun k hk => p2 k (fun z => by subst z; revert hk; decide)) (fun k hk => kA1 k (fun z => by subst z; revert hk; decide))
      have hH1 : HS A1 (bar (gb g)) S (bT (gb g) r) := by
        obtain ⟨g1, g2⟩ := hH
        refine ⟨by rw [kA1 32 (by decide)]; exact g1, ?_⟩
        unfold arR at *
        rw [kA1 19 (by decide)]
        exact g2
      have hB1 : BR A1 (bar (gb g)) β' := by
        unfold BR arR at *
        rw [kA1 34 (by decide), kA1 32 (by decide), kA1 19 (by decide)]
        exact hB
      obtain ⟨m, I', A', q1, q2, q3, q4, q5⟩ := ih (i + 1) I1 A1 (D ++ s) (by omega) (by rw [List.length_append]; omega) hR1 hH1 hB1 (by rw [p2 49 (by decide)]; exact h49) (by rw [p3, List.length_append]) (by rw [kA1 48 (by decide)]; exact h48) p5
      rw [List.append_assoc D] at q1 q4 q5
      refine ⟨m + 1, I', A', ?_, fun k k1 k2 => by rw [q2 k k1 k2, p2 k k2], fun k k1 k2 => by rw [q3 k k1 k2, kA1 k k2], q4, fun h => ?_⟩
      · rw [h91, if_pos w]
        exact jf_X12_isReplaced_132_l ((p1 _).trans q1)
      · obtain ⟨z1, z2⟩ := q5 h
        exact ⟨by rw [z1, kA1 48 (by decide)], by rw [z2, p2 49 (by decide)]⟩
    · have hW : 60 < (D ++ (s ++ fil β ((bU (gb g) r).drop (i + 1))) ++ S.drop (p + skipN (bar (gb g)) 1 (S.drop p))).length := by
        simp only [List.length_append]; omega
      refine ⟨1, I, A, ?_, fun _ _ _ => rfl, fun _ _ _ => rfl, fun h => by omega, fun _ => ⟨rfl, rfl⟩⟩
      rw [h91 0, if_neg w, decide_eq_false (by omega)]
      rfl
end RWR

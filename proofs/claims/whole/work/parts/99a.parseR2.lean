/-! READING a term: the model, whole -/
section PARSER2
variable {ty : xTy} {N M : Nat} {hA hB h0 : xH} {mm mi : Nat → Nat} {c : CS} {I : Nat → Int32} {A : Nat → Nat → Int32} {J : Nat → Int64} {g : Sg} {b : Bk} {F : Nat → Nat} {n : Nat}
/-- the names of a half -/
def RNm (I : Nat → Int32) (A : Nat → Nat → Int32) (v : Nat) (b : Bk) : Prop := (v = 0 → I 12 = i32 (bns b) ∧ I 13 = i32 (bnv b)) ∧ (v = 1 → I 15 = i32 (bns b) ∧ I 16 = i32 (bnv b)) ∧ (∀ k, k < bns b → A 18 (8 * v + k) = bsn b k ∧ A 19 (8 * v + k) = i32 (bsa b k)) ∧ ∀ k, k < bnv b → A 20 (4 * v + k) = bvn b k
theorem RNm.keep {I' : Nat → Int32} {A' : Nat → Nat → Int32} {v : Nat} (h : RNm I A v b) (h1 : ∀ k ∈ [12, 13, 15, 16], I' k = I k) (h2 : ∀ k ∈ [18, 19, 20], A' k = A k) : RNm I' A' v b := by
  unfold RNm at *
  rw [h1 12 (by decide), h1 13 (by decide), h1 15 (by decide), h1 16 (by decide), h2 18 (by decide), h2 19 (by decide), h2 20 (by decide)]
  exact h
theorem r_cdN (H : MH ty M mm mi h0) {v : Nat} (hv : v = 0 ∨ v = 1) (hb : bw0 b) (h : RNm I A v b) (x : Int32) : jf_X12_codeBy ty (rst mm mi h0 M I A J) M (i32 (v : Nat)) x = some (i32 (lkN b x)) := by
  obtain ⟨n8, n4, n3⟩ := hb
  have q1 := r_find (h := rst mm mi h0 M I A J) (x := x) (H.2 18 (by decide)).2.1 (p := 8 * v) (nn := bns b) (by show _ ≤ 16; omega) (by decide)
  have q2 := r_find (h := rst mm mi h0 M I A J) (x := x) (H.2 20 (by decide)).2.1 (p := 4 * v) (nn := bnv b) (by show _ ≤ 8; omega) (by decide)
  rw [fndA_cong (f := xA (rst mm mi h0 M I A J) (mm 18)) (f' := bsn b) (p := 8 * v) (p' := 0) _ 0 (fun i _ hi => by rw [rA_of H (by decide), Nat.zero_add, (h.2.2.1 i (by omega)).1])] at q1
  rw [fndA_cong (f := xA (rst mm mi h0 M I A J) (mm 20)) (f' := bvn b) (p := 4 * v) (p' := 0) _ 0 (fun i _ hi => by rw [rA_of H (by decide), Nat.zero_add, h.2.2.2 i (by omega)])] at q2
  have b1 := fndA_rg (f := bsn b) (p := 0) (x := x) (bns b) 0
  have b2 := fndA_rg (f := bvn b) (p := 0) (x := x) (bnv b) 0
  have hfin : ∀ z : Int, -1 ≤ z → z < 1000 → (if i32 0 ≤ i32 z then some (i32 100 + i32 z) else some (i32 (-1))) = some (i32 (if 0 ≤ z then 100 + z else -1)) := by
    intro z z1 z2
    by_cases w : 0 ≤ z
    · have w' : i32 0 ≤ i32 z := by rw [i32_le (by omega) (by omega) (by omega) (by omega)]; exact w
      simp only [eq_true w', if_true, i32_add, if_pos w]
    · have w' : ¬ i32 0 ≤ i32 z := by rw [i32_le (by omega) (by omega) (by omega) (by omega)]; exact w
      simp only [eq_false w', if_false, if_neg w]
  have key : jf_X12_codeBy_23 ty (rst mm mi h0 M I A J) M (i32 (v : Nat)) x (mm 18) (i32 ((8 * v : Nat) : Int)) (i32 (bns b : Nat)) = some (i32 (lkN b x)) := by
    unfold jf_X12_codeBy_23 lkN
    rw [q1, xbs]
    by_cases w1 : 0 ≤ fndA (bsn b) 0 x 0 (bns b)
    · rw [if_pos w1, if_neg]
      rw [show (0 : Int32) = i32 0 from rfl, i32_lt (by omega) (by omega) (by omega) (by omega)]; omega
    · rw [if_neg w1, if_pos (by rw [show (0 : Int32) = i32 0 from rfl, i32_lt (by omega) (by omega) (by omega) (by omega)]; omega), rr_20 H, xbs]
      rcases hv with rfl | rfl
      · simp only [i32_lit, i32_neg, rI, (h.1 rfl).2]
        rw [if_pos (show i32 ((0 : Nat) : Int) = i32 0 from rfl), show i32 4 * i32 ((0 : Nat) : Int) = i32 ((4 * 0 : Nat) : Int) from rfl, q2, xbs]
        exact hfin _ (by omega) (by omega)
      · simp only [i32_lit, i32_neg, rI, (h.2.1 rfl).2]
        rw [if_neg (show ¬ i32 ((1 : Nat) : Int) = i32 0 by decide), show i32 4 * i32 ((1 : Nat) : Int) = i32 ((4 * 1 : Nat) : Int) from rfl, q2, xbs]
        exact hfin _ (by omega) (by omega)
  unfold jf_X12_codeBy
  rw [rr_18 H, xbs]
  rcases hv with rfl | rfl
  · rw [if_pos (show i32 ((0 : Nat) : Int) = 0 from rfl), rI, (h.1 rfl).1, show 8 * i32 ((0 : Nat) : Int) = i32 ((8 * 0 : Nat) : Int) from rfl]
    exact key
  · rw [if_neg (show ¬ i32 ((1 : Nat) : Int) = 0 by decide), rI, (h.2.1 rfl).1, show 8 * i32 ((1 : Nat) : Int) = i32 ((8 * 1 : Nat) : Int) from rfl]
    exact key
/-- which term a variable must be in -/
def LFr (A : Nat → Nat → Int32) (v2 : Int32) (lf : Option (List Nat)) : Prop := (lf = none ∧ v2 = i32 (-1)) ∨ ∃ T ρ, lf = some T ∧ v2 = i32 (ρ : Nat) ∧ ρ < 32 ∧ T.length ≤ 12 ∧ (∀ d ∈ T, d < 1000) ∧ A 22 ρ = i32 T.length ∧ seg (A 23) (12 * ρ) T
theorem fndA_mem {f : Nat → Int32} {T : List Nat} (hT : ∀ d ∈ T, d < 1000) {p d : Nat} (hd : d < 1000) (hs : seg f p T) : 0 ≤ fndA f p (i32 (d : Nat)) 0 T.length ↔ d ∈ T := by
  have key : ∀ (m k : Nat), k + m = T.length → (0 ≤ fndA f p (i32 (d : Nat)) k m ↔ d ∈ T.drop k) := by
    intro m
    induction m with
    | zero => intro k h; rw [List.drop_of_length_le (by omega)]; simp [fndA]
    | succ m ih =>
      intro k h
      obtain ⟨e, he⟩ := get_some (L := T) (i := k) (by omega)
      have h1 : f (p + k) = i32 (e : Nat) := hs k e he
      have hm : e ∈ T := List.mem_of_getElem? he
      have hel := hT e hm
      have hdr : T.drop k = e :: T.drop (k + 1) := by
        obtain ⟨hlt, heq⟩ := List.getElem?_eq_some_iff.mp he
        rw [List.drop_eq_getElem_cons hlt, heq]
      simp only [fndA]
      rw [h1, hdr, List.mem_cons]
      by_cases w : e = d
      · rw [if_pos (by rw [w])]
        constructor
        · intro _; left; exact w.symm
        · intro _; omega
      · rw [if_neg (by rw [i32_eq (by omega) (by omega) (by omega) (by omega)]; omega), ih (k + 1) (by omega)]
        constructor
        · intro h; right; exact h
        · rintro (h | h)
          · exact absurd h.symm w
          · exact h
  have := key T.length 0 (by omega)
  rw [List.drop_zero] at this
  exact this
theorem r_t7 (H : MH ty M mm mi h0) (hb : bw0 b) {v : Nat} {v2 : Int32} {lf : Option (List Nat)} (hv : v = 0 ∨ v = 1) : ∀ (k j : Nat) (I : Nat → Int32) (A : Nat → Nat → Int32) (L aw : List Nat), L.length + k = 13 → L.length ≤ 12 → TPr A F n → RNm I A v b → LFr A v2 lf → aw.length ≤ L.length → (∀ a ∈ aw, 1 ≤ a ∧ a ≤ 3) → RT I F n j → I 30 = i32 L.length → seg (A 29) 0 L → seg (A 31) 0 aw.reverse →
    ∃ m I' A', jf_X12_termRead_7 ty m M (i32 (v : Nat)) v2 (i32 aw.length) (rst mm mi h0 M I A J) = some (bI (decide ((pT (tk F n) b lf k j L aw).1 = 0)), rst mm mi h0 M I' A' J) ∧ keepR I I' ∧ (∀ q, q ≠ 29 → q ≠ 31 → A' q = A q) ∧ ((pT (tk F n) b lf k j L aw).1 = 0 → RT I' F n (pT (tk F n) b lf k j L aw).2.1 ∧ I' 30 = i32 (pT (tk F n) b lf k j L aw).2.2.length ∧ seg (A' 29) 0 (pT (tk F n) b lf k j L aw).2.2 ∧ I' 4 = I 4 ∧ I' 5 = I 5) ∧ ((pT (tk F n) b lf k j L aw).1 ≠ 0 → FLr I' (pT (tk F n) b lf k j L aw).1 (tk F n (pT (tk F n) b lf k j L aw).2.1).2.1) := by
  intro k
  induction k with
  | zero => intro j I A L aw h1 h2; omega
  | succ k ih =>
    intro j I A L aw h1 h2 hT hN hlf hal haw hR h30 hs29 hs31
    obtain ⟨kd1, kd2, kd3⟩ := r_kd hR
    have h8 := hb.1
    have h4 := hb.2.1
    have hr := lkN_rg ⟨h8, h4⟩ (i32 ((tk F n j).2.2.1 : Nat))
    -- one place
    have hfl : ∀ f : Nat, f ≠ 0 → ∃ I', (xb2 (jf_X12_wrong ty (rst mm mi h0 M I A J) M (i32 (f : Nat))) fun a h => (xz a).bind fun w => some (w, h)) = some (i32 0, rst mm mi h0 M I' A J) ∧ keepR I I' ∧ FLr I' f (tk F n j).2.1 := by
      intro f hf
      obtain ⟨I', q1, q2, q3⟩ := r_wr (ty := ty) (M := M) (mm := mm) (mi := mi) (h0 := h0) (A := A) (J := J) (f := f) hR
      exact ⟨I', by rw [q1, xb2s, xz0, xbs], keepR.W q2, q3⟩
    have hplace : ∃ I', keepR I I' ∧ (plF (tk F n) b lf j L ≠ 0 → FLr I' (plF (tk F n) b lf j L) (tk F n j).2.1) ∧ ∀ m, jf_X12_termRead_7 ty (m + 1) M (i32 (v : Nat)) v2 (i32 aw.length) (rst mm mi h0 M I A J) = if plF (tk F n) b lf j L ≠ 0 then some (i32 0, rst mm mi h0 M I' A J) else jf_X12_termRead_97 ty (jf_X12_termRead_7 ty m) M (i32 (v : Nat)) v2 (i32 aw.length) (i32 (plD (tk F n) b j : Nat)) (rst mm mi h0 M I A J) := by
      by_cases w1 : (tk F n j).1 = 2
      · have w1' := kd1.mpr w1
        have e9 := kd3 w1
        by_cases w2 : L.length = 12
        · obtain ⟨I', q1, q2, q3⟩ := hfl 2 (by decide)
          have hp : plF (tk F n) b lf j L = 2 := by unfold plF; rw [if_neg (by omega), if_pos (by omega)]
          refine ⟨I', q2, fun _ => by rw [hp]; exact q3, fun m => ?_⟩
          have w2' : i32 L.length = i32 12 := by rw [w2]; rfl
          rw [if_pos (by rw [hp]; decide), jf_X12_termRead_7_s]
          simp (disch := omega) only [rI, w1', h30, i32_lit, if_true, eq_true w2']
          exact q1
        · have w2' : ¬ i32 L.length = i32 12 := by rw [i32_eq (by omega) (by omega) (by omega) (by omega)]; omega
          by_cases w3 : lkN b (i32 ((tk F n j).2.2.1 : Nat)) = -1
          · obtain ⟨I', q1, q2, q3⟩ := hfl 4 (by decide)
            have hp : plF (tk F n) b lf j L = 4 := by unfold plF; rw [if_neg (by omega), if_neg (by omega), if_pos (by omega)]
            refine ⟨I', q2, fun _ => by rw [hp]; exact q3, fun m => ?_⟩
            have n1 : ¬ i32 0 ≤ i32 (-1) := by decide
            rw [if_pos (by rw [hp]; decide), jf_X12_termRead_7_s]
            simp (disch := omega) only [rI, w1', h30, i32_lit, if_true, eq_false w2', if_false, e9, r_cdN H hv hb hN, xbs, w3, eq_false n1]
            exact q1
          · obtain ⟨r1, r2⟩ := hr.resolve_left w3
            have hd4 : plD (tk F n) b j < 104 := by have := r2; unfold vc at this; unfold plD; omega
            have hld : lkN b (i32 ((tk F n j).2.2.1 : Nat)) = ((plD (tk F n) b j : Nat) : Int) := by unfold plD; omega
            have hvd : vc b (plD (tk F n) b j) := r2
            have n1 : i32 0 ≤ i32 ((plD (tk F n) b j : Nat) : Int) := by rw [i32_le (by omega) (by omega) (by omega) (by omega)]; omega
            have hpl : plF (tk F n) b lf j L = if bdE lf (plD (tk F n) b j) = false then 5 else 0 := by
              unfold plF
              rw [if_neg (by omega), if_neg (by omega), if_neg (by omega)]
              rfl
            rcases hlf with ⟨e1, e2⟩ | ⟨T, ρ, e1, e2, e3, e4, e5, e6, e7⟩
            · have hp0 : plF (tk F n) b lf j L = 0 := by rw [hpl, e1]; rfl
              refine ⟨I, keepR.rf, fun h => absurd hp0 h, fun m => ?_⟩
              have m1 : i32 (-1) < i32 0 := by decide
              rw [if_neg (by rw [hp0]; decide), jf_X12_termRead_7_s]
              simp (disch := omega) only [rI, w1', h30, i32_lit, if_true, eq_false w2', if_false, e9, r_cdN H hv hb hN, xbs]
              simp only [hld, eq_true n1, if_true, e2, eq_true m1]
            · have m1 : ¬ i32 (ρ : Nat) < i32 0 := by rw [i32_lt (by omega) (by omega) (by omega) (by omega)]; omega
              by_cases w4 : plD (tk F n) b j < 100
              · have w4' : i32 (plD (tk F n) b j : Nat) < i32 100 := by rw [i32_lt (by omega) (by omega) (by omega) (by omega)]; omega
                have hp0 : plF (tk F n) b lf j L = 0 := by rw [hpl, e1]; simp only [bdE, decide_eq_true w4, Bool.true_or]; rfl
                refine ⟨I, keepR.rf, fun h => absurd hp0 h, fun m => ?_⟩
                rw [if_neg (by rw [hp0]; decide), jf_X12_termRead_7_s]
                simp (disch := omega) only [rI, w1', h30, i32_lit, if_true, eq_false w2', if_false, e9, r_cdN H hv hb hN, xbs]
                simp only [hld, eq_true n1, if_true, e2, eq_false m1, if_false, eq_true w4']
              · have w4' : ¬ i32 (plD (tk F n) b j : Nat) < i32 100 := by rw [i32_lt (by omega) (by omega) (by omega) (by omega)]; omega
                have q1 := r_find (h := rst mm mi h0 M I A J) (x := i32 (plD (tk F n) b j : Nat)) (H.2 23 (by decide)).2.1 (p := 12 * ρ) (nn := T.length) (by show _ ≤ 384; omega) (by decide)
                rw [fndA_cong (f := xA (rst mm mi h0 M I A J) (mm 23)) (f' := A 23) (p := 12 * ρ) (p' := 12 * ρ) _ 0 (fun i _ hi => by rw [rA_of H (by decide)])] at q1
                have hfm := fndA_mem e5 (show plD (tk F n) b j < 1000 by omega) e7
                have hfr := fndA_rg (f := A 23) (p := 12 * ρ) (x := i32 (plD (tk F n) b j : Nat)) T.length 0
                have hhead : ∀ m, jf_X12_termRead_7 ty (m + 1) M (i32 (v : Nat)) v2 (i32 aw.length) (rst mm mi h0 M I A J) = if i32 0 ≤ i32 (fndA (A 23) (12 * ρ) (i32 (plD (tk F n) b j : Nat)) 0 T.length) then jf_X12_termRead_97 ty (jf_X12_termRead_7 ty m) M (i32 (v : Nat)) v2 (i32 aw.length) (i32 (plD (tk F n) b j : Nat)) (rst mm mi h0 M I A J) else (xb2 (jf_X12_wrong ty (rst mm mi h0 M I A J) M (i32 ((5 : Nat) : Int))) fun a h => (xz a).bind fun w => some (w, h)) := by
                  intro m
                  rw [jf_X12_termRead_7_s]
                  simp (disch := omega) only [rI, w1', h30, i32_lit, if_true, eq_false w2', if_false, e9, r_cdN H hv hb hN, xbs]
                  simp only [hld, eq_true n1, if_true, e2, eq_false m1, if_false, eq_false w4', rr_22 H, rr_23 H, xbs]
                  rw [ga_22 H (by omega) (by omega), xbs, Int.toNat_natCast, e6, i32_mul, show (12 : Int) * (ρ : Int) = ((12 * ρ : Nat) : Int) by omega, q1, xbs]
                  rfl
                by_cases w5 : plD (tk F n) b j ∈ T
                · have hp0 : plF (tk F n) b lf j L = 0 := by rw [hpl, e1]; simp only [bdE, decide_eq_true w5, Bool.or_true]; rfl
                  refine ⟨I, keepR.rf, fun h => absurd hp0 h, fun m => ?_⟩
                  have := hfm.mpr w5
                  rw [if_neg (by rw [hp0]; decide), hhead m, if_pos (by rw [i32_le (by omega) (by omega) (by omega) (by omega)]; exact this)]
                · obtain ⟨I', q1, q2, q3⟩ := hfl 5 (by decide)
                  have hp : plF (tk F n) b lf j L = 5 := by rw [hpl, e1]; simp only [bdE, decide_eq_false w5, decide_eq_false w4, Bool.or_false]; rfl
                  refine ⟨I', q2, fun _ => by rw [hp]; exact q3, fun m => ?_⟩
                  have : ¬ 0 ≤ fndA (A 23) (12 * ρ) (i32 (plD (tk F n) b j : Nat)) 0 T.length := fun h => w5 (hfm.mp h)
                  rw [if_pos (by rw [hp]; decide), hhead m, if_neg (by rw [i32_le (by omega) (by omega) (by omega) (by omega)]; exact this)]
                  exact q1
      · obtain ⟨I', q1, q2, q3⟩ := hfl 1 (by decide)
        have hp : plF (tk F n) b lf j L = 1 := by unfold plF; rw [if_pos (by omega)]
        refine ⟨I', q2, fun _ => by rw [hp]; exact q3, fun m => ?_⟩
        have w1' : ¬ I 8 = i32 2 := fun h => w1 (kd1.mp h)
        rw [if_pos (by rw [hp]; decide), jf_X12_termRead_7_s]
        simp (disch := omega) only [rI, i32_lit, eq_false w1', if_false]
        exact q1
    obtain ⟨I1, x1, x2, hhead⟩ := hplace
    rw [pT_s]
    by_cases w0 : plF (tk F n) b lf j L ≠ 0
    · rw [if_pos w0]
      refine ⟨1, I1, A, ?_, x1, fun _ _ _ => rfl, fun h => absurd h w0, fun _ => x2 w0⟩
      rw [hhead 0, if_pos w0, decide_eq_false w0]
      rfl
    · have w00 : plF (tk F n) b lf j L = 0 := by omega
      simp only [if_neg w0] at hhead ⊢
      obtain ⟨p1, p2, p3, p4, p5⟩ := plF_0 hb w00
      have hb3 := bar_le0 hb (plD (tk F n) b j)
      have hll : (L ++ [plD (tk F n) b j]).length = L.length + 1 := by simp
      obtain ⟨A2, hA2⟩ : ∃ A2, A2 = fu2 A 29 L.length (i32 (plD (tk F n) b j : Nat)) := ⟨_, rfl⟩
      obtain ⟨I2, hI2⟩ : ∃ I2, I2 = fu I 30 (i32 ((L.length + 1 : Nat) : Int)) := ⟨_, rfl⟩
      have b2 : but 29 A A2 := by rw [hA2]; exact but.fu
      have hT2 : TPr A2 F n := hT.keep (b2 0 (by decide)) (b2 3 (by decide))
      have hR2 : RT I2 F n j := by
        unfold RT TR at *
        rw [hI2, fu_ne _ _ (by decide), fu_ne _ _ (by decide), fu_ne _ _ (by decide), fu_ne _ _ (by decide), fu_ne _ _ (by decide)]
        exact hR
      have hs2 : seg (A2 29) 0 (L ++ [plD (tk F n) b j]) := by
        rw [hA2]
        exact seg_snoc (seg_fu2 hs29 (by omega)) (by rw [Nat.zero_add, fu2_same])
      obtain ⟨I3, t1, t2, t3⟩ := r_tok (J := J) H hT2 hR2 (by omega)
      have k3 : keepR I I3 := keepR.tr (by rw [hI2]; exact keepR.fu (by decide)) (keepR.K t2)
      have o30 : I3 30 = i32 ((L.length + 1 : Nat) : Int) := by rw [t2 30 (by decide), hI2, fu_same]
      have o4 : I3 4 = I 4 := by rw [t2 4 (by decide), hI2, fu_ne _ _ (by decide)]
      have o5 : I3 5 = I 5 := by rw [t2 5 (by decide), hI2, fu_ne _ _ (by decide)]
      have hN3 : RNm I3 A2 v b := hN.keep (fun q hq => k3 q (by
        simp only [List.mem_cons, List.not_mem_nil, or_false] at hq ⊢
        omega)) (fun q hq => b2 q (by
        simp only [List.mem_cons, List.not_mem_nil, or_false] at hq
        omega))
      have hs31' : seg (A2 31) 0 aw.reverse := by rw [b2 31 (by decide)]; exact hs31
      have hlf2 : ∀ A' : Nat → Nat → Int32, (∀ q, q ≠ 29 → q ≠ 31 → A' q = A q) → LFr A' v2 lf := fun A' hA' => by
        unfold LFr at *
        rw [hA' 22 (by decide) (by decide), hA' 23 (by decide) (by decide)]
        exact hlf
      have h97 : ∀ m, jf_X12_termRead_97 ty (jf_X12_termRead_7 ty m) M (i32 (v : Nat)) v2 (i32 aw.length) (i32 (plD (tk F n) b j : Nat)) (rst mm mi h0 M I A J) = jf_X12_termRead_145 ty (jf_X12_termRead_7 ty m) M (i32 (v : Nat)) v2 (i32 aw.length) (i32 (bar b (plD (tk F n) b j) : Nat)) (rst mm mi h0 M I3 A2 J) := by
        intro m
        have hp4 := p4
        unfold vc at hp4
        unfold jf_X12_termRead_97
        simp (disch := omega) only [rr_29 H, xbs, rI, h30, wa_29 H, Int.toNat_natCast]
        rw [← hA2]
        simp (disch := omega) only [rI, h30, rsI, i32_lit, i32_neg, i32_add, i32_sub, i32_mul, i32_lt, i32_le, i32_eq, xbs]
        rw [show (L.length : Int) + 1 = ((L.length + 1 : Nat) : Int) by omega, ← hI2, t1, xbs]
        by_cases w : 100 ≤ plD (tk F n) b j
        · rw [if_pos (by omega)]
          unfold bar
          rw [if_neg (by omega)]
          rfl
        · rw [if_neg (by omega), rr_19 H, xbs, show (8 : Int) * (v : Int) + (plD (tk F n) b j : Int) = ((8 * v + plD (tk F n) b j : Nat) : Int) by omega, ga_19 H (by omega) (by omega), xbs, Int.toNat_natCast, (hN3.2.2.1 _ (by omega)).2]
          unfold bar
          rw [if_pos (by omega)]
      by_cases w1 : 0 < bar b (plD (tk F n) b j)
      · rw [if_pos w1]
        have w1' : ¬ i32 (bar b (plD (tk F n) b j) : Nat) ≤ i32 0 := by rw [i32_le (by omega) (by omega) (by omega) (by omega)]; omega
        by_cases w2 : (tk F n (j + 1)).1 = 40
        · rw [if_pos w2]
          obtain ⟨I4, u1, u2, u3⟩ := r_tok (J := J) H hT2 t3 (by omega)
          obtain ⟨A5, hA5⟩ : ∃ A5, A5 = fu2 A2 31 aw.length (i32 (bar b (plD (tk F n) b j) : Nat)) := ⟨_, rfl⟩
          have b5 : but 31 A2 A5 := by rw [hA5]; exact but.fu
          have kA : ∀ q, q ≠ 29 → q ≠ 31 → A5 q = A q := fun q h1 h2 => (b5 q h2).trans (b2 q h1)
          obtain ⟨m, I', A', z1, z2, z3, z4, z5⟩ := ih (j + 2) I4 A5 (L ++ [plD (tk F n) b j]) (bar b (plD (tk F n) b j) :: aw) (by rw [hll]; omega) (by rw [hll]; omega) (hT2.keep (b5 0 (by decide)) (b5 3 (by decide))) (hN3.keep (fun q hq => u2 q (by
            simp only [List.mem_cons, List.not_mem_nil, or_false] at hq ⊢
            omega)) (fun q hq => b5 q (by
            simp only [List.mem_cons, List.not_mem_nil, or_false] at hq
            omega))) (hlf2 A5 kA) (by rw [hll]; simp only [List.length_cons]; omega) (fun a ha => by
            rcases List.mem_cons.mp ha with rfl | ha
            · omega
            · exact haw a ha) u3 (by rw [u2 30 (by decide), o30, hll]) (by rw [b5 29 (by decide)]; exact hs2) (by
            rw [List.reverse_cons, hA5]
            exact seg_snoc (seg_fu2 hs31' (by rw [List.length_reverse]; omega)) (by rw [Nat.zero_add, List.length_reverse, fu2_same]))
          refine ⟨m + 1, I', A', ?_, (k3.tr (keepR.K u2)).tr z2, fun q h1 h2 => (z3 q h1 h2).trans (kA q h1 h2), fun h => ?_, z5⟩
          · rw [hhead m, h97 m]
            unfold jf_X12_termRead_145
            have nb : ¬ bI true = i32 0 := by decide
            simp only [i32_lit, eq_false w1', if_false]
            rw [show i32 40 = i32 ((40 : Nat) : Int) from rfl, r_sgn t3 (by omega), xbs, decide_eq_true w2]
            simp (disch := omega) only [eq_false nb, if_false, u1, xbs, rr_31 H, wa_31 H, Int.toNat_natCast, i32_add]
            rw [← hA5]
            exact z1
          · obtain ⟨y1, y2, y3, y4, y5⟩ := z4 h
            exact ⟨y1, y2, y3, (y4.trans (u2 4 (by decide))).trans o4, (y5.trans (u2 5 (by decide))).trans o5⟩
        · rw [if_neg w2]
          obtain ⟨I', q1, q2, q3⟩ := r_wr (ty := ty) (M := M) (mm := mm) (mi := mi) (h0 := h0) (A := A2) (J := J) (f := 1) t3
          refine ⟨1, I', A2, ?_, k3.tr (keepR.W q2), fun q h _ => b2 q h, fun h => (by cases h), fun _ => q3⟩
          rw [hhead 0, h97 0]
          unfold jf_X12_termRead_145
          simp only [i32_lit, eq_false w1', if_false]
          rw [show i32 40 = i32 ((40 : Nat) : Int) from rfl, r_sgn t3 (by omega), xbs, decide_eq_false w2, show bI false = i32 0 from rfl]
          simp only [if_true]
          rw [show i32 1 = i32 ((1 : Nat) : Int) from rfl, q1, xb2s, xz0, xbs]
          rfl
      · rw [if_neg w1]
        have w1' : i32 (bar b (plD (tk F n) b j) : Nat) ≤ i32 0 := by rw [i32_le (by omega) (by omega) (by omega) (by omega)]; omega
        have hco := clB_ok (T := tk F n) aw (j + 1) (fun a ha => (haw a ha).2)
        obtain ⟨m1, I4, A4, r1, r2, r2b, r3, r4, r5⟩ := r_t188 (J := J) H (i32 (v : Nat)) v2 aw (j + 1) I3 A2 hT2 (by omega) haw t3 hs31'
        have kA : ∀ q, q ≠ 29 → q ≠ 31 → A4 q = A q := fun q h1 h2 => (r3 q h2).trans (b2 q h1)
        have h145 : ∀ m w, (if (clB (tk F n) (j + 1) aw).1 ≠ 0 then some (i32 0, rst mm mi h0 M I4 A4 J) else if (clB (tk F n) (j + 1) aw).2.2 = [] then some (i32 1, rst mm mi h0 M I4 A4 J) else jf_X12_termRead_7 ty m M (i32 (v : Nat)) v2 (i32 (clB (tk F n) (j + 1) aw).2.2.length) (rst mm mi h0 M I4 A4 J)) = some w → jf_X12_termRead_7 ty (m + 1) M (i32 (v : Nat)) v2 (i32 aw.length) (rst mm mi h0 M I A J) = some w := by
          intro m w hw
          rw [hhead m, h97 m]
          unfold jf_X12_termRead_145
          simp only [i32_lit, eq_true w1', if_true]
          exact jf_X12_termRead_188_l (r1 _ w hw)
        by_cases w2 : (clB (tk F n) (j + 1) aw).1 = 0
        · have w2n : ¬ (clB (tk F n) (j + 1) aw).1 ≠ 0 := fun h => h w2
          simp only [if_neg w2n] at h145 ⊢
          obtain ⟨v1, v3, v4, v5⟩ := r4 w2
          obtain ⟨o1, o2, o3⟩ := hco.2 w2
          by_cases w3 : (clB (tk F n) (j + 1) aw).2.2 = []
          · simp only [if_pos w3] at h145 ⊢
            exact ⟨1, I4, A4, by rw [h145 0 _ rfl]; rfl, k3.tr r2, kA, fun _ => ⟨v1, by rw [r2b, o30, hll], by rw [r3 29 (by decide)]; exact hs2, v4.trans o4, v5.trans o5⟩, fun h => absurd rfl h⟩
          · simp only [if_neg w3] at h145 ⊢
            obtain ⟨m, I', A', z1, z2, z3, z4, z5⟩ := ih (clB (tk F n) (j + 1) aw).2.1 I4 A4 (L ++ [plD (tk F n) b j]) (clB (tk F n) (j + 1) aw).2.2 (by rw [hll]; omega) (by rw [hll]; omega) (hT2.keep (r3 0 (by decide)) (r3 3 (by decide))) (hN3.keep (fun q hq => r2 q (by
              simp only [List.mem_cons, List.not_mem_nil, or_false] at hq ⊢
              omega)) (fun q hq => r3 q (by
              simp only [List.mem_cons, List.not_mem_nil, or_false] at hq
              omega))) (hlf2 A4 kA) (by rw [hll]; omega) (fun a ha => ⟨(o3 a ha).elim (fun h => (haw a h).1) (fun h => h), o2 a ha⟩) v1 (by rw [r2b, o30, hll]) (by rw [r3 29 (by decide)]; exact hs2) v3
            refine ⟨m + 1, I', A', h145 m _ z1, (k3.tr r2).tr z2, fun q h1 h2 => (z3 q h1 h2).trans (kA q h1 h2), fun h => ?_, z5⟩
            obtain ⟨y1, y2, y3, y4, y5⟩ := z4 h
            exact ⟨y1, y2, y3, (y4.trans v4).trans o4, (y5.trans v5).trans o5⟩
        · have w2n : (clB (tk F n) (j + 1) aw).1 ≠ 0 := w2
          simp only [if_pos w2n] at h145 ⊢
          exact ⟨1, I4, A4, by rw [h145 0 _ rfl]; rfl, k3.tr r2, kA, fun h => (by cases h), fun _ => r5 w2⟩
theorem r_trd (H : MH ty M mm mi h0) (hb : bw0 b) {v j : Nat} {v2 : Int32} {lf : Option (List Nat)} (hv : v = 0 ∨ v = 1) (hT : TPr A F n) (hN : RNm I A v b) (hl : LFr A v2 lf) (hR : RT I F n j) :
    ∃ I' A', jf_X12_termRead ty (rst mm mi h0 M I A J) M (i32 (v : Nat)) v2 = some (bI (decide ((pT (tk F n) b lf 13 j [] []).1 = 0)), rst mm mi h0 M I' A' J) ∧ keepR I I' ∧ (∀ q, q ≠ 29 → q ≠ 31 → A' q = A q) ∧ ((pT (tk F n) b lf 13 j [] []).1 = 0 → RT I' F n (pT (tk F n) b lf 13 j [] []).2.1 ∧ I' 30 = i32 (pT (tk F n) b lf 13 j [] []).2.2.length ∧ seg (A' 29) 0 (pT (tk F n) b lf 13 j [] []).2.2 ∧ I' 4 = I 4 ∧ I' 5 = I 5) ∧ ((pT (tk F n) b lf 13 j [] []).1 ≠ 0 → FLr I' (pT (tk F n) b lf 13 j [] []).1 (tk F n (pT (tk F n) b lf 13 j [] []).2.1).2.1) := by
  obtain ⟨I1, hI1⟩ : ∃ I1, I1 = fu I 30 (i32 0) := ⟨_, rfl⟩
  have k1 : keepR I I1 := by rw [hI1]; exact keepR.fu (by decide)
  have hR1 : RT I1 F n j := by
    unfold RT TR at *
    rw [hI1, fu_ne _ _ (by decide), fu_ne _ _ (by decide), fu_ne _ _ (by decide), fu_ne _ _ (by decide), fu_ne _ _ (by decide)]
    exact hR
  obtain ⟨m, I', A', z1, z2, z3, z4, z5⟩ := r_t7 (J := J) H hb hv 13 j I1 A [] [] rfl (by simp) hT (hN.keep (fun q hq => k1 q (by
    simp only [List.mem_cons, List.not_mem_nil, or_false] at hq ⊢
    omega)) (fun _ _ => rfl)) hl (Nat.le_refl _) (fun _ h => by cases h) hR1 (by rw [hI1, fu_same]; rfl) (seg_nil _ _) (seg_nil _ _)
  refine ⟨I', A', ?_, k1.tr z2, z3, fun h => ?_, z5⟩
  · unfold jf_X12_termRead
    simp only [i32_lit, rsI, xbs]
    rw [← hI1]
    exact jf_X12_termRead_7_l z1
  · obtain ⟨y1, y2, y3, y4, y5⟩ := z4 h
    exact ⟨y1, y2, y3, by rw [y4, hI1, fu_ne _ _ (by decide)], by rw [y5, hI1, fu_ne _ _ (by decide)]⟩
end PARSER2

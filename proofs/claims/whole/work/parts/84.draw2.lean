/-! a term drawn by chance: the model's; draw -/
def gQ (g : Sg) (L : List Nat) : Sg := (g.1, L, g.2.2)
section DRAW2
variable {ty : xTy} {N M : Nat} {hA hB h0 : xH} {mm mi : Nat → Nat} {c : CS} {I : Nat → Int32} {A : Nat → Nat → Int32} {J : Nat → Int64} {g : Sg} {b : Bk}
theorem r_mny (H : MH ty M mm mi h0) (hb : bwf b) (hR : RB I A b) {d : Nat} (hd : d < bns b ∨ (100 ≤ d ∧ d < 1000)) : jf_X12_manyOf ty (rst mm mi h0 M I A J) M (i32 d) = some (i32 (bar b d : Nat)) := by
  have h8 := hb.1
  unfold jf_X12_manyOf bar
  simp (disch := omega) only [i32_lit, i32_neg, i32_add, i32_sub, i32_mul, i32_lt, i32_le, i32_eq, rr_19 H, xbs]
  by_cases w : (100 : Int) ≤ (d : Int)
  · rw [if_pos w, if_neg (by omega)]; rfl
  · rw [if_neg w, if_pos (by omega), ga_19 H (by omega) (by omega), Int.toNat_natCast, (hR.2.2.2.1 d (by omega)).2]; rfl
theorem r_sm2 (H : MH ty M mm mi h0) (hb : bwf b) (hR : RB I A b) : ∀ (k d : Nat), d + k = bns b → jf_X12_smallest_2 ty (rst mm mi h0 M I A J) (k + 1) M (i32 d) = some (oM (smG b k d)) := by
  have h8 := hb.1
  have h4 := hb.2.1
  intro k
  induction k with
  | zero =>
    intro d h
    rw [jf_X12_smallest_2_s]
    simp (disch := omega) only [rI, hR.1, hR.2.1, i32_lit, i32_neg, i32_add, i32_sub, i32_mul, i32_lt, i32_le, i32_eq, if_pos]
    simp only [smG]
    by_cases w : (bnv b : Int) ≤ 0
    · rw [if_pos w, if_neg (by omega)]; rfl
    · rw [if_neg w, if_pos (by omega)]; rfl
  | succ k ih =>
    intro d h
    have hb3 := hb.2.2.2.1 d
    rw [jf_X12_smallest_2_s]
    simp (disch := omega) only [rI, hR.1, i32_lit, i32_neg, i32_add, i32_sub, i32_mul, i32_lt, i32_le, i32_eq, if_neg, rr_19 H, ga_19 H, xbs, Int.toNat_natCast, (hR.2.2.2.1 d (by omega)).2]
    rw [show (d : Int) + 1 = ((d + 1 : Nat) : Int) by omega]
    simp only [smG]
    by_cases w : ((bsa b d : Nat) : Int) = 0
    · simp only [eq_true w, if_true]
      rw [if_pos (by omega)]; rfl
    · simp only [eq_false w, if_false]
      rw [if_neg (by omega)]
      exact ih (d + 1) (by omega)
theorem r_sm (H : MH ty M mm mi h0) (hb : bwf b) (hR : RB I A b) : jf_X12_smallest ty (rst mm mi h0 M I A J) M = some (oM (smO b)) := jf_X12_smallest_2_l (r_sm2 H hb hR (bns b) 0 (by omega))
theorem r_drh (hb : bwf b) (hn : 0 < bns b + bnv b) {s o : Nat} (hR : RB I A b) (hs : J 54 = i64 (s : Nat)) (ho : o < 100) (n : Nat) :
    jf_X12_isDrawn_7 ty (n + 1) M (i32 ((o + 1 : Nat) : Int)) (rst mm mi h0 M I A J) = jf_X12_isDrawn_87 ty (jf_X12_isDrawn_7 ty n) M (i32 ((o + 1 : Nat) : Int)) (i32 (pck b (nxS s) : Nat)) (rst mm mi h0 M I A (fu J 54 (i64 (nxS s : Nat)))) := by
  have h8 := hb.1
  have h4 := hb.2.1
  have hnx := nx64 s
  obtain ⟨x, hx⟩ : ∃ x, x = nxS s := ⟨_, rfl⟩
  have hxl : x < 2147483648 := by rw [hx]; exact nxS_lt s
  rw [← hx] at hnx ⊢
  obtain ⟨J1, hJ1⟩ : ∃ J1, J1 = fu J 54 (i64 (x : Nat)) := ⟨_, rfl⟩
  have j54 : J1 54 = i64 (x : Nat) := by rw [hJ1, fu_same]
  obtain ⟨y, hy⟩ : ∃ y, y = x / 65536 := ⟨_, rfl⟩
  have hyl : y < 32768 := by omega
  obtain ⟨r, hr⟩ : ∃ r, r = y % (bns b + bnv b) := ⟨_, rfl⟩
  have hrl : r < bns b + bnv b := by rw [hr]; exact Nat.mod_lt _ hn
  have hpk : pck b x = if r < bns b then r else 100 + (r - bns b) := by unfold pck; rw [← hy, ← hr]
  have hdv : i64 (x : Nat) / i64 65536 = i64 (y : Nat) := by
    rw [i64_div (by omega) (by omega) (by omega) (by omega), hy]; rfl
  have n0 : ¬ (i64 65536 = i64 0) := i64_ne (by omega) (by omega)
  have n1 : ¬ (i64 ((bns b + bnv b : Nat) : Int) = i64 0) := i64_ne (by omega) (by omega)
  rw [jf_X12_isDrawn_7_s]
  simp (disch := omega) only [rI, hR.1, hR.2.1, rJ, hs, i32_lit, i64_lit, i32_le, i32_add, i32_eq, if_neg, hnx, rsJ, xbs]
  rw [← hJ1]
  unfold xdl xrl
  simp only [rI, hR.1, hR.2.1, rJ, j54, i64_lit, hdv, eq_false n0, if_false, xbs, i32_add]
  rw [show (bns b : Int) + (bnv b : Int) = ((bns b + bnv b : Nat) : Int) by omega, i32_64 (by omega) (by omega)]
  simp only [eq_false n1, if_false, xbs]
  rw [md64 (by omega) hn (by omega), i64_32, ← hr, hpk]
  simp (disch := omega) only [i32_le, i32_add, i32_sub]
  by_cases w : (bns b : Int) ≤ (r : Int)
  · simp only [eq_true w, if_true]
    rw [if_neg (by omega), show (100 : Int) + (r : Int) - (bns b : Int) = ((100 + (r - bns b) : Nat) : Int) by omega]
  · simp only [eq_false w, if_false]
    rw [if_pos (by omega)]
theorem r_dr7 (H : MH ty M mm mi h0) (hb : bwf b) {st pk : Nat → Nat} (hpv : ∀ s, vc b (pk s))
    (hhd : ∀ (I : Nat → Int32) (A : Nat → Nat → Int32) (J : Nat → Int64) (s o n : Nat), RB I A b → J 54 = i64 (s : Nat) → o < 100 → jf_X12_isDrawn_7 ty (n + 1) M (i32 ((o + 1 : Nat) : Int)) (rst mm mi h0 M I A J) = jf_X12_isDrawn_87 ty (jf_X12_isDrawn_7 ty n) M (i32 ((o + 1 : Nat) : Int)) (i32 (pk (st s) : Nat)) (rst mm mi h0 M I A (fu J 54 (i64 (st s : Nat))))) : ∀ (k : Nat) (I : Nat → Int32) (A : Nat → Nat → Int32) (J : Nat → Int64) (s : Nat) (out : List Nat) (o : Nat), RB I A b → I 30 = i32 out.length → seg (A 29) 0 out → J 54 = i64 (s : Nat) → out.length + o ≤ 12 → 12 < out.length + k →
    ∃ n I' A' J', jf_X12_isDrawn_7 ty n M (i32 o) (rst mm mi h0 M I A J) = some (bI (dr st pk b k s out o).1.isSome, rst mm mi h0 M I' A' J') ∧ (∀ k, k ≠ 30 → I' k = I k) ∧ but 29 A A' ∧ J' 54 = i64 ((dr st pk b k s out o).2 : Nat) ∧ ∀ L, (dr st pk b k s out o).1 = some L → I' 30 = i32 L.length ∧ seg (A' 29) 0 L := by
  have h8 := hb.1
  have h4 := hb.2.1
  intro k
  induction k with
  | zero => intro I A J s out o _ _ _ _ h1 h2; omega
  | succ k ih =>
    intro I A J s out o hR h30 hsg hs h1 h2
    cases o with
    | zero =>
      refine ⟨1, I, A, J, ?_, fun _ _ => rfl, but.rf, hs, fun L e => by simp only [dr] at e; obtain rfl := Option.some.inj e; exact ⟨h30, hsg⟩⟩
      rw [jf_X12_isDrawn_7_s]
      simp (disch := omega) only [i32_lit, i32_neg, i32_add, i32_sub, i32_mul, i32_lt, i32_le, i32_eq, if_pos]
      simp only [dr]
      rfl
    | succ o =>
      obtain ⟨J1, hJ1⟩ : ∃ J1, J1 = fu J 54 (i64 (st s : Nat)) := ⟨_, rfl⟩
      have hvc := hpv (st s)
      have hpd : pk (st s) < bns b ∨ (100 ≤ pk (st s) ∧ pk (st s) < 1000) := by unfold vc at hvc; omega
      have hpb := bar_le hb (pk (st s))
      have hfail : ∀ n, jf_X12_isDrawn_110 ty (jf_X12_isDrawn_7 ty n) M (i32 ((o + 1 : Nat) : Int)) (i32 (-1)) (rst mm mi h0 M I A J1) = some (i32 0, rst mm mi h0 M I A J1) := by
        intro n
        unfold jf_X12_isDrawn_110
        simp (disch := omega) only [i32_lit, i32_le, if_neg]
      have h87 : ∀ n, jf_X12_isDrawn_87 ty (jf_X12_isDrawn_7 ty n) M (i32 ((o + 1 : Nat) : Int)) (i32 (pk (st s) : Nat)) (rst mm mi h0 M I A J1) = jf_X12_isDrawn_110 ty (jf_X12_isDrawn_7 ty n) M (i32 ((o + 1 : Nat) : Int)) (oM (chc pk b (out.length + (o + 1)) (st s))) (rst mm mi h0 M I A J1) := by
        intro n
        unfold jf_X12_isDrawn_87 chc
        simp (disch := omega) only [r_mny H hb hR hpd, xbs, rI, h30, i32_lit, i32_neg, i32_add, i32_sub, i32_mul, i32_lt, i32_le, i32_eq, r_sm H hb hR]
        by_cases w : (out.length : Int) + ((o + 1 : Nat) : Int) + ((bar b (pk (st s)) : Nat) : Int) ≤ 12
        · simp only [eq_true w, if_true]
          rw [if_pos (by omega)]; rfl
        · simp only [eq_false w, if_false]
          rw [if_neg (by omega)]
      have h7 : ∀ n, jf_X12_isDrawn_7 ty (n + 1) M (i32 ((o + 1 : Nat) : Int)) (rst mm mi h0 M I A J) = jf_X12_isDrawn_87 ty (jf_X12_isDrawn_7 ty n) M (i32 ((o + 1 : Nat) : Int)) (i32 (pk (st s) : Nat)) (rst mm mi h0 M I A J1) := by
        intro n
        rw [hhd I A J s o n hR hs (by omega), ← hJ1]
      simp only [dr]
      cases hch : chc pk b (out.length + (o + 1)) (st s) with
      | none =>
        refine ⟨1, I, A, J1, ?_, fun _ _ => rfl, but.rf, by rw [hJ1, fu_same], fun L e => by cases e⟩
        rw [h7 0, h87 0, hch]
        exact hfail 0
      | some d =>
        obtain ⟨v1, v2⟩ := chc_vc hb hpv h1 hch
        have hdd : d < bns b ∨ (100 ≤ d ∧ d < 1000) := by unfold vc at v1; omega
        obtain ⟨A1, hA1⟩ : ∃ A1, A1 = fu2 A 29 out.length (i32 (d : Nat)) := ⟨_, rfl⟩
        obtain ⟨I1, hI1⟩ : ∃ I1, I1 = fu I 30 (i32 ((out.length + 1 : Nat) : Int)) := ⟨_, rfl⟩
        have k1 : ∀ k, k ≠ 30 → I1 k = I k := fun k h => by rw [hI1, fu_ne _ _ h]
        have ka1 : but 29 A A1 := by rw [hA1]; exact but.fu
        have hR1 : RB I1 A1 b := by
          refine hR.keep (fun k hk => k1 k (fun z => by subst z; revert hk; decide)) (fun k hk => ka1 k (fun z => by subst z; revert hk; decide))
        have z1 : ∀ n, jf_X12_isDrawn_110 ty (jf_X12_isDrawn_7 ty n) M (i32 ((o + 1 : Nat) : Int)) (i32 (d : Nat)) (rst mm mi h0 M I A J1) = jf_X12_isDrawn_7 ty n M (i32 ((o + bar b d : Nat) : Int)) (rst mm mi h0 M I1 A1 J1) := by
          intro n
          unfold jf_X12_isDrawn_110
          simp (disch := omega) only [i32_lit, i32_le, if_pos, rr_29 H, xbs, rI, h30, wa_29 H, Int.toNat_natCast, rsI, i32_add]
          rw [← hA1, show (out.length : Int) + 1 = ((out.length + 1 : Nat) : Int) by omega, ← hI1]
          rw [r_mny H hb hR1 hdd, xbs, i32_sub, i32_add, show ((o + 1 : Nat) : Int) + (((bar b d : Nat) : Int) - 1) = ((o + bar b d : Nat) : Int) by omega]
        obtain ⟨n, I', A', J', p1, p2, p3, p4, p5⟩ := ih I1 A1 J1 (st s) (out ++ [d]) (o + bar b d) hR1 (by rw [hI1, fu_same, List.length_append, List.length_singleton]) (by rw [hA1]; exact seg_snoc (seg_fu2 hsg (by omega)) (by rw [Nat.zero_add, fu2_same])) (by rw [hJ1, fu_same]) (by rw [List.length_append, List.length_singleton]; omega) (by rw [List.length_append, List.length_singleton]; omega)
        refine ⟨n + 1, I', A', J', ?_, fun k hk => (p2 k hk).trans (k1 k hk), ka1.tr p3, p4, p5⟩
        rw [h7 n, h87 n, hch]
        exact (z1 n).trans p1
theorem r_dr (H : MH ty M mm mi h0) (hb : bwf b) (hR : RB I A b) {s : Nat} (hs : J 54 = i64 (s : Nat)) :
    ∃ I' A' J', jf_X12_isDrawn ty (rst mm mi h0 M I A J) M = some (bI (if 0 < bns b + bnv b then (drT b s).1.isSome else false), rst mm mi h0 M I' A' J') ∧ (∀ k, k ≠ 30 → I' k = I k) ∧ but 29 A A' ∧ J' 54 = i64 ((if 0 < bns b + bnv b then (drT b s).2 else s : Nat) : Int) ∧ ∀ L, 0 < bns b + bnv b → (drT b s).1 = some L → I' 30 = i32 L.length ∧ seg (A' 29) 0 L := by
  have h8 := hb.1
  have h4 := hb.2.1
  obtain ⟨I1, hI1⟩ : ∃ I1, I1 = fu I 30 (i32 0) := ⟨_, rfl⟩
  have k1 : ∀ k, k ≠ 30 → I1 k = I k := fun k h => by rw [hI1, fu_ne _ _ h]
  have hR1 : RB I1 A b := hR.keep (fun k hk => k1 k (fun z => by subst z; revert hk; decide)) keepA.rf
  unfold jf_X12_isDrawn
  simp only [rsI, xbs, i32_lit]
  rw [← hI1]
  by_cases w : 0 < bns b + bnv b
  · simp only [eq_true w, if_true]
    obtain ⟨n, I', A', J', p1, p2, p3, p4, p5⟩ := r_dr7 H hb (st := nxS) (pk := pck b) (pck_vc w) (fun I A J s o n a1 a2 a3 => r_drh hb w a1 a2 a3 n) 13 I1 A J s [] 1 hR1 (by rw [hI1, fu_same]; rfl) (seg_nil _ _) hs (by decide) (by decide)
    exact ⟨I', A', J', jf_X12_isDrawn_7_l p1, fun k hk => (p2 k hk).trans (k1 k hk), p3, p4, fun L _ e => p5 L e⟩
  · simp only [eq_false w, if_false]
    refine ⟨I1, A, J, ?_, k1, but.rf, hs, fun L h _ => h.elim⟩
    refine jf_X12_isDrawn_7_l (n := 1) ?_
    rw [jf_X12_isDrawn_7_s]
    have e1 : (bns b : Int) + (bnv b : Int) = 0 := by omega
    simp (disch := omega) only [rI, hR1.1, hR1.2.1, i32_lit, i32_le, i32_add, if_neg, e1, if_true]
    rfl
theorem r_asks2 (H : MH ty M mm mi h0) {L : List Nat} (hl : L.length ≤ 12) (h30 : I 30 = i32 L.length) : ∀ (k i : Nat) (A : Nat → Nat → Int32), i + k = L.length → seg (A 29) 0 L → seg (A 27) 0 (L.take i) →
    ∃ A', jf_X12_asks_2 ty (k + 1) M (i32 i) (rst mm mi h0 M I A J) = some (rst mm mi h0 M (fu I 28 (i32 L.length)) A' J) ∧ but 27 A A' ∧ seg (A' 27) 0 L := by
  intro k
  induction k with
  | zero =>
    intro i A h1 h2 h3
    refine ⟨A, ?_, but.rf, by rw [List.take_of_length_le (by omega)] at h3; exact h3⟩
    rw [jf_X12_asks_2_s]
    simp (disch := omega) only [rI, h30, i32_lit, i32_neg, i32_add, i32_sub, i32_mul, i32_lt, i32_le, i32_eq, if_pos, rsI, xbs]
  | succ k ih =>
    intro i A h1 h2 h3
    obtain ⟨d, hd⟩ := get_some (L := L) (i := i) (by omega)
    have h29 : A 29 i = i32 (d : Nat) := by
      have := h2 i d hd
      rw [Nat.zero_add] at this
      exact this
    obtain ⟨A1, hA1⟩ : ∃ A1, A1 = fu2 A 27 i (i32 (d : Nat)) := ⟨_, rfl⟩
    have hlt : (L.take i).length = i := by rw [List.length_take]; omega
    obtain ⟨A', q1, q2, q3⟩ := ih (i + 1) A1 (by omega) (by rw [hA1, fu2_row _ _ (by decide)]; exact h2) (by
      rw [List.take_add_one, hd, hA1]
      exact seg_snoc (seg_fu2 h3 (by omega)) (by rw [Nat.zero_add, hlt, fu2_same]))
    refine ⟨A', ?_, but.tr (by rw [hA1]; exact but.fu) q2, q3⟩
    rw [jf_X12_asks_2_s, ← q1]
    simp (disch := omega) only [rI, h30, i32_lit, i32_neg, i32_add, i32_sub, i32_mul, i32_lt, i32_le, i32_eq, if_neg, rr_27 H, rr_29 H, ga_29 H, wa_27 H, xbs, Int.toNat_natCast, h29]
    rw [← hA1, show (i : Int) + 1 = ((i + 1 : Nat) : Int) by omega]
theorem r_asks (H : MH ty M mm mi h0) {L : List Nat} (hl : L.length ≤ 12) (h30 : I 30 = i32 L.length) (h2 : seg (A 29) 0 L) :
    ∃ A', jf_X12_asks ty (rst mm mi h0 M I A J) M = some (rst mm mi h0 M (fu I 28 (i32 L.length)) A' J) ∧ but 27 A A' ∧ seg (A' 27) 0 L := by
  obtain ⟨A', q1, q2, q3⟩ := r_asks2 (J := J) H hl h30 L.length 0 A (by omega) h2 (seg_nil _ _)
  exact ⟨A', jf_X12_asks_2_l q1, q2, q3⟩
theorem rrep_q {I' : Nat → Int32} {A' : Nat → Nat → Int32} {L : List Nat} (h : RRep I A g) (hk : ∀ k ∈ [1, 4, 5, 12, 13, 14, 26, 41, 56, 58, 59], I' k = I k) (h28 : I' 28 = i32 L.length) (hA : ∀ k ∈ [0, 3, 18, 19, 20, 21, 22, 23, 24, 25, 57], A' k = A k) (hs : seg (A' 27) 0 L) : RRep I' A' (gQ g L) := by
  obtain ⟨r1, r2, r3, r4, r5, r6, r7⟩ := h
  refine ⟨?_, ?_, ⟨hs, h28, ?_⟩, ?_, ?_, ?_, ?_⟩
  · show RB I' A' (gb g)
    unfold RB at r1 ⊢
    rw [hk 12 (by decide), hk 13 (by decide), hk 14 (by decide), hA 18 (by decide), hA 19 (by decide), hA 20 (by decide), hA 21 (by decide), hA 22 (by decide), hA 23 (by decide), hA 24 (by decide), hA 25 (by decide)]
    exact r1
  · rw [hk 26 (by decide)]; exact r2
  · rw [hk 41 (by decide)]; exact r3.2.2
  · rw [hk 56 (by decide), hA 57 (by decide)]; exact r4
  · rw [hk 58 (by decide), hk 59 (by decide)]; exact r5
  · rw [hk 1 (by decide), hA 0 (by decide), hA 3 (by decide)]; exact r6
  · rw [hk 4 (by decide), hk 5 (by decide)]; exact r7
theorem gQ_wf (hg : gwf g) {L : List Nat} (hL : L = [] ∨ twf (gb g) L) : gwf (gQ g L) := ⟨hg.1, hL, hg.2.2⟩
/-- the spare term is asked -/
def swpQ (c : CS) : CS := csR (csR c 0 4 (cR c 0 5)) 0 5 (cR c 0 4)
theorem swp_R (c : CS) {q k : Nat} (h : q ≠ 0 ∨ (k ≠ 4 ∧ k ≠ 5)) : cR (swpQ c) q k = cR c q k := by
  unfold swpQ
  rw [cR_R, fu2_ne _ _ (by omega), cR_R, fu2_ne _ _ (by omega)]
theorem swp_4 (c : CS) : cR (swpQ c) 0 4 = cR c 0 5 ∧ cR (swpQ c) 0 5 = cR c 0 4 := by
  unfold swpQ
  constructor
  · rw [cR_R, fu2_ne _ _ (by omega), cR_R, fu2_same]
  · rw [cR_R, fu2_same]
theorem lyL_45 : ∀ e ∈ lyL, e.1 ≠ 0 ∨ (e.2.1 ≠ 4 ∧ e.2.1 ≠ 5) := by decide
theorem swp_ly (h : LY c) : LY (swpQ c) := by
  obtain ⟨h1, h2, h3, h4, h5, h6⟩ := h
  refine ⟨fun e he => ?_, fun t ht => ?_, h3, ?_, ?_, ?_⟩
  · rw [swp_R c (lyL_45 e he)]; exact h1 e he
  · have ht0 : t ≠ 0 := fun z => by rw [z] at ht; exact absurd ht (by decide)
    rw [swp_R c (Or.inl ht0), swp_R c (Or.inl ht0)]; exact h2 t ht
  · rw [swp_R c (by omega), swp_R c (by omega)]; exact h4
  · rw [(swp_4 c).1, (swp_4 c).2]
    rcases h5 with h | h
    · exact Or.inr ⟨h.2, h.1⟩
    · exact Or.inl ⟨h.2, h.1⟩
  · rw [swp_R c (by omega), swp_R c (by omega)]; exact h6
theorem crep_swp (hg : gwf g) (h : CRep c g) {L : List Nat} (hT : isT c (cR c 0 5) 12 (bar (gb g)) L) : CRep (swpQ c) (gQ g L) := by
  obtain ⟨h1, h2, h3, h4, h5, h6, h7⟩ := h
  have hB := h1.bk
  have a2 := h1.as.2.1
  refine ⟨swp_ly h1, ?_, ?_, h4, ?_, h6, h7⟩
  · rw [swp_R c (by omega)]
    exact h2.keep hg.1.2.2.1 (fun q q1 q2 => ⟨rfl, rfl, funext (fun k => swp_R c (Or.inl (by omega)))⟩)
  · rw [(swp_4 c).1]
    exact hT.keep rfl rfl rfl (funext (fun k => swp_R c (Or.inl (by omega))))
  · rw [swp_R c (by omega)]; exact h5
theorem k_swp (C : CH ty N) (h : LY c) : jf_X11_askSpareTerm ty (cst N h0 c) (N + 0) = some (cst N h0 (swpQ c)) := by
  unfold jf_X11_askSpareTerm
  simp (disch := omega) only [k_ask C h, k_spare C h, xbs, ksR]
  rfl
theorem ct_as {u : Nat} (h : u = 214 ∨ u = 217) : ct u = some (0, 7) ∧ ct (u + 1) = some (1, 12) ∧ ct (u + 2) = some (1, 12) := by rcases h with rfl | rfl <;> decide
theorem op_draw (C : CH ty N) (H : MH ty M mm mi hB) (hg : gwf g) (hc : CRep c g) (hr : RRep I A g) {k : Int} (f1 : -2147483648 ≤ k) (f2 : k < 2147483648) :
    ∃ g' J', gwf g' ∧ OP N hA mm mi hB M J' g' (jf_X11_draw ty (cst N hA c) (N + 0) (i32 k)) (jf_X12_draw ty (rst mm mi hB M I A J) M (i32 k)) := by
  have I2 : ∀ k, k ≠ 33 → k ≠ 2 → k ≠ 39 → fu I 2 (i32 0) k = I k := fun k _ h _ => fu_ne _ _ h
  have hr2 : RRep (fu I 2 (i32 0)) A g := hr.ks I2 keepA.rf
  unfold jf_X11_draw jf_X12_draw
  simp (disch := omega) only [rsI, xbs, i32_lit, i32_neg, i32_le]
  by_cases w : 0 ≤ k
  · simp only [eq_true w, if_true]
    obtain ⟨s, rfl⟩ : ∃ s : Nat, k = s := ⟨k.toNat, by omega⟩
    have hu := hc.1.as.2.1
    have hB2 := hc.1.bk
    obtain ⟨u1, u2, u3⟩ := ct_as hu
    have e15 := k_sub (h0 := hA) C hc.1 (show (0, 15, 272) ∈ lyL by decide) (by omega) (show ct 272 = some (0, 1) by decide)
    obtain ⟨c1, hc1⟩ : ∃ c1, c1 = csI c 272 0 (i32 (s : Nat)) := ⟨_, rfl⟩
    have f1' : fr 272 273 c c1 := by rw [hc1]; exact fr.I (by omega) (by omega)
    have hcc1 : CRep c1 g := hc.fr hg f1' (by omega)
    have hR5 : cR c1 0 5 = cR c 0 5 := by rw [f1'.2.1]
    have hR2 : cR c1 0 2 = cR c 0 2 := by rw [f1'.2.1]
    have e15' := k_sub (h0 := hA) C hcc1.1 (show (0, 15, 272) ∈ lyL by decide) (by omega) (show ct 272 = some (0, 1) by decide)
    obtain ⟨c', q1, q2, q3, q4⟩ := k_dr (h0 := hA) C hg.1 hcc1.1.bk (u := cR c1 0 5) (by rw [hR5]; omega) (by rw [hR5]; exact u1) (by rw [hR5]; exact u2) (by rw [hR5]; exact u3) hcc1.1 hcc1.2.1 (s := s) (by rw [hc1, sI_s])
    have hc' : CRep c' g := crep_fr2 hg hcc1 q2
    obtain ⟨I', A', J', p1, p2, p3, p4, p5⟩ := r_dr (J := fu J 54 (i64 (s : Nat))) H hg.1 hr2.1 (s := s) (fu_same _ _ _)
    have hseed : jf_X1_seed ty (cst N hA c) (N + 272) (i32 (s : Nat)) = some (cst N hA c1) := by
      unfold jf_X1_seed
      rw [ksI (by omega), ← hc1]; rfl
    simp (disch := omega) only [e15, xbs, hseed, e15', k_book C hcc1.1, k_spare C hcc1.1, q1, xb2s, bI_eq0]
    rw [i32_64 (by omega) (by omega), rsJ, p1, xb2s]
    simp only [bI_eq0]
    have kI' : ∀ k ∈ [1, 4, 5, 12, 13, 14, 26, 28, 41, 56, 58, 59], I' k = fu I 2 (i32 0) k := fun k hk => p2 k (fun z => by subst z; revert hk; decide)
    have hRR : RRep I' A' g := hr2.keep kI' (fun k hk => p3 k (fun z => by subst z; revert hk; decide))
    cases hD : (if 0 < bns (gb g) + bnv (gb g) then (drT (gb g) s).1.isSome else false) with
    | false =>
      simp only [if_true]
      exact ⟨g, J', hg, _, c', I', A', rfl, hc', rfl, hRR, by rw [p2 2 (by decide), fu_same]⟩
    | true =>
      simp only [Bool.true_eq_false, if_false]
      have hn : 0 < bns (gb g) + bnv (gb g) := by
        rcases Nat.lt_or_ge 0 (bns (gb g) + bnv (gb g)) with h | h
        · exact h
        · rw [if_neg (by omega)] at hD; cases hD
      rw [if_pos hn] at hD
      obtain ⟨L, hL⟩ := Option.isSome_iff_exists.mp hD
      have hwf := drT_wf hg.1 hn hL
      obtain ⟨z1, z2⟩ := p5 L hn hL
      obtain ⟨A2, y1, y2, y3⟩ := r_asks (J := J') H hwf.2.1 z1 z2
      have iT : isT c' (cR c' 0 5) 12 (bar (gb g)) L := by rw [q2.2.1]; exact q4 L hn hL
      have hsw := crep_swp hg hc' iT
      refine ⟨gQ g L, J', gQ_wf hg (Or.inr hwf), i32 L.length, swpQ c', fu I' 28 (i32 L.length), A2, ?_, hsw, ?_, ?_, ?_⟩
      · rw [k_swp C hc'.1, xbs, k_ask C hsw.1, xbs, k_askn hsw]
        rfl
      · rw [y1, xbs, rI, fu_same]
      · refine rrep_q hr2 (fun k hk => ?_) (fu_same _ _ _) (fun k hk => ?_) y3
        · rw [fu_ne _ _ (fun z => by subst z; revert hk; decide), p2 k (fun z => by subst z; revert hk; decide)]
        · rw [y2 k (fun z => by subst z; revert hk; decide), p3 k (fun z => by subst z; revert hk; decide)]
      · rw [fu_ne _ _ (by decide), p2 2 (by decide), fu_same]
  · simp only [eq_false w, if_false]
    exact ⟨g, J, hg, OP.ret hc hr _ _ I2 (fu_same _ _ _) rfl rfl⟩
end DRAW2

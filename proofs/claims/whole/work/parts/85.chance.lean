/-! chance -/
def cn (dT : Nat → Option (List Nat) × Nat) (p : List Nat → Bool) : Nat → Nat → Nat → Int
  | 0, _, h => (h : Int)
  | k + 1, s, h => match dT s with
    | (none, _) => -2
    | (some L, s') => cn dT p k s' (h + if p L then 1 else 0)
section CHANCE
variable {ty : xTy} {N M : Nat} {hA hB h0 : xH} {mm mi : Nat → Nat} {c : CS} {I : Nat → Int32} {A : Nat → Nat → Int32} {J : Nat → Int64} {g : Sg} {b : Bk}
/-- one term drawn, or none -/
def drO (b : Bk) (s : Nat) : Option (List Nat) × Nat := if 0 < bns b + bnv b then drT b s else (none, s)
theorem drO_wf (hb : bwf b) {s : Nat} {L : List Nat} (h : (drO b s).1 = some L) : twf b L := by
  unfold drO at h
  split at h
  · exact drT_wf hb (by assumption) h
  · cases h
theorem k_drO (C : CH ty N) (hg : gwf g) (hc : CRep c g) {s : Nat} (hs : cI c 272 0 = i32 (s : Nat)) :
    ∃ c', jf_X1_drawTerm ty (cst N h0 c) (N + 272) (N + cR c 0 2) (N + cR c 0 5) = some (bI (drO (gb g) s).1.isSome, cst N h0 c') ∧ fr2 (cR c 0 5) c c' ∧ cI c' 272 0 = i32 ((drO (gb g) s).2 : Nat) ∧ ∀ L, (drO (gb g) s).1 = some L → isT c' (cR c 0 5) 12 (bar (gb g)) L := by
  have hu := hc.1.as.2.1
  obtain ⟨u1, u2, u3⟩ := ct_as hu
  obtain ⟨c', q1, q2, q3, q4⟩ := k_dr (h0 := h0) C hg.1 hc.1.bk (u := cR c 0 5) (by omega) u1 u2 u3 hc.1 hc.2.1 hs
  refine ⟨c', ?_, q2, ?_, fun L hL => ?_⟩
  · rw [q1]
    unfold drO
    split <;> rfl
  · rw [q3]
    unfold drO
    split <;> rfl
  · unfold drO at hL
    split at hL
    · exact q4 L (by assumption) hL
    · cases hL
theorem r_drO (H : MH ty M mm mi h0) (hb : bwf b) (hR : RB I A b) {s : Nat} (hs : J 54 = i64 (s : Nat)) :
    ∃ I' A' J', jf_X12_isDrawn ty (rst mm mi h0 M I A J) M = some (bI (drO b s).1.isSome, rst mm mi h0 M I' A' J') ∧ (∀ k, k ≠ 30 → I' k = I k) ∧ but 29 A A' ∧ J' 54 = i64 ((drO b s).2 : Nat) ∧ ∀ L, (drO b s).1 = some L → I' 30 = i32 L.length ∧ seg (A' 29) 0 L := by
  obtain ⟨I', A', J', p1, p2, p3, p4, p5⟩ := r_dr (J := J) H hb hR hs
  refine ⟨I', A', J', ?_, p2, p3, ?_, fun L hL => ?_⟩
  · rw [p1]
    unfold drO
    split <;> rfl
  · rw [p4]
    unfold drO
    split <;> rfl
  · unfold drO at hL
    split at hL
    · exact p5 L (by assumption) hL
    · cases hL
noncomputable def chP (g : Sg) (how : Nat) (L : List Nat) : Bool := decide (0 < (fdL (gb g) (gin g) L how).length)
theorem chP_bits (hg : gwf g) (how : Nat) (L : List Nat) : (bitsF (ftP g how (gin g) L) (bnr (gb g)) = 0) = (chP g how L = false) := by
  have h := ftP_cnt hg how L
  unfold chP
  rw [decide_eq_false_iff_not, ← h]
  refine propext ⟨fun e => ?_, fun e => ?_⟩
  · rw [e, cntB_0]; omega
  · rw [cnt_bits hg.1.2.2.1] at e
    have h0 : (List.range (bnr (gb g))).countP (ftP g how (gin g) L) = 0 := by omega
    rw [List.countP_eq_zero] at h0
    rw [bitsF_cong (q := fun _ => false) _ (fun k hk => by have := h0 k (List.mem_range.mpr hk); simpa using this)]
    refine Nat.eq_of_testBit_eq (fun i => ?_)
    rw [bitsF_bit, Nat.zero_testBit, Bool.and_false]
theorem k_ch26 (C : CH ty N) (hg : gwf g) {how : Nat} (hh : how ≤ 2) {dT : Nat → Option (List Nat) × Nat} (hdw : ∀ s L, (dT s).1 = some L → twf (gb g) L)
    (hd : ∀ (c : CS) (s : Nat), CRep c g → cI c 272 0 = i32 (s : Nat) → ∃ c', jf_X1_drawTerm ty (cst N h0 c) (N + 272) (N + cR c 0 2) (N + cR c 0 5) = some (bI (dT s).1.isSome, cst N h0 c') ∧ fr2 (cR c 0 5) c c' ∧ cI c' 272 0 = i32 ((dT s).2 : Nat) ∧ ∀ L, (dT s).1 = some L → isT c' (cR c 0 5) 12 (bar (gb g)) L) : ∀ (k i : Nat) (c : CS) (s h : Nat), i + k = 10 → h ≤ i → CRep c g → cI c 272 0 = i32 (s : Nat) →
    ∃ n c', jf_X11_chance_26 ty n (N + 0) (i32 how) (i32 h) (i32 i) (cst N h0 c) = some (i32 (cn dT (chP g how) k s h), cst N h0 c') ∧ CRep c' g := by
  have h16 := hg.1.2.2.1
  intro k
  induction k with
  | zero =>
    intro i c s h h1 h2 hc hs
    refine ⟨1, c, ?_, hc⟩
    rw [jf_X11_chance_26_s]
    simp (disch := omega) only [i32_lit, i32_neg, i32_add, i32_sub, i32_mul, i32_lt, i32_le, i32_eq, if_pos]
    rfl
  | succ k ih =>
    intro i c s h h1 h2 hc hs
    have e15 := k_sub (h0 := h0) C hc.1 (show (0, 15, 272) ∈ lyL by decide) (by omega) (show ct 272 = some (0, 1) by decide)
    obtain ⟨c1, q1, q2, q3, q4⟩ := hd c s hc hs
    have hc1 : CRep c1 g := crep_fr2 hg hc q2
    have hhead : ∀ n, jf_X11_chance_26 ty (n + 1) (N + 0) (i32 how) (i32 h) (i32 i) (cst N h0 c) = if (dT s).1.isSome = false then some (i32 (-2), cst N h0 c1) else xb2 (jf_X11_fitBits ty (cst N h0 c1) (N + 0) (i32 how) (N + cR c1 0 5) (i32 (gin g : Nat))) fun a11 h10 => if a11 = i32 0 then jf_X11_chance_26 ty n (N + 0) (i32 how) (i32 h) (i32 ((i + 1 : Nat) : Int)) h10 else jf_X11_chance_26 ty n (N + 0) (i32 how) (i32 ((h + 1 : Nat) : Int)) (i32 ((i + 1 : Nat) : Int)) h10 := by
      intro n
      have e9 := k_sub (h0 := h0) C hc1.1 (show (0, 9, 232) ∈ lyL by decide) (by omega) (show ct 232 = some (0, 6) by decide)
      rw [jf_X11_chance_26_s]
      simp (disch := omega) only [i32_lit, i32_neg, i32_le, if_neg, e15, k_book C hc.1, k_spare C hc.1, xbs, q1, xb2s, bI_eq0, k_spare C hc1.1, e9, kI, hc1.2.2.2.1.1, i32_add]
      rw [show (i : Int) + 1 = ((i + 1 : Nat) : Int) by omega, show (h : Int) + 1 = ((h + 1 : Nat) : Int) by omega]
    simp only [cn]
    rcases hds : dT s with ⟨o, s'⟩
    rw [hds] at hhead q3 q4
    cases o with
    | none =>
      refine ⟨1, c1, ?_, hc1⟩
      rw [hhead 0]
      simp only [Option.isSome_none, if_true]
    | some L =>
      have hwf := hdw s L (by rw [hds])
      have iT : isT c1 (cR c1 0 5) 12 (bar (gb g)) L := by rw [q2.2.1]; exact q4 L rfl
      have hu1 := hc1.1.as.2.1
      obtain ⟨c2, p1, p2⟩ := k_fb (h0 := h0) C hg (show how ≤ 3 by omega) hg.z (hwf.lo hg.1) (by omega) hc1 iT
      have hc2 : CRep c2 g := hc1.fr hg p2 (by omega)
      have hbl := bitsF_16 (p := ftP g how (gin g) L) h16
      obtain ⟨n, c', z1, z2⟩ := ih (i + 1) c2 s' (h + if chP g how L then 1 else 0) (by omega) (by split <;> omega) hc2 (by rw [(p2.1 272 (by omega)).1]; exact q3)
      refine ⟨n + 1, c', ?_, z2⟩
      rw [hhead n]
      simp only [Option.isSome_some, Bool.true_eq_false, if_false, p1, xb2s]
      rw [← z1]
      by_cases w : bitsF (ftP g how (gin g) L) (bnr (gb g)) = 0
      · have w2 : chP g how L = false := by rw [← chP_bits hg]; exact w
        rw [w, w2]
        rfl
      · have w2 : chP g how L = true := by
          cases hx : chP g how L with
          | true => rfl
          | false => rw [← chP_bits hg] at hx; exact absurd hx w
        have w3 : ¬ i32 (bitsF (ftP g how (gin g) L) (bnr (gb g)) : Nat) = i32 0 := by rw [i32_eq (by omega) (by omega) (by omega) (by omega)]; omega
        simp only [eq_false w3, if_false, w2, if_true]
/-- the model's -/
theorem r_ch128 (H : MH ty M mm mi h0) {K : Nat → Int32} {v w : Int32} : ∀ (k i : Nat) (A : Nat → Nat → Int32), i + k = 60 → (∀ j, j < i → A 27 j = K j) → (∀ j, j < 60 → A 55 j = K j) →
    ∃ A', jf_X12_chance_128 ty (k + 1) M v w (i32 i) (rst mm mi h0 M I A J) = some (w, rst mm mi h0 M (fu I 28 v) A' J) ∧ but 27 A A' ∧ ∀ j, j < 60 → A' 27 j = K j := by
  intro k
  induction k with
  | zero =>
    intro i A h1 h2 h3
    refine ⟨A, ?_, but.rf, fun j hj => h2 j (by omega)⟩
    rw [jf_X12_chance_128_s]
    simp (disch := omega) only [i32_lit, i32_neg, i32_add, i32_sub, i32_mul, i32_lt, i32_le, i32_eq, if_pos, rsI, xbs]
  | succ k ih =>
    intro i A h1 h2 h3
    obtain ⟨A1, hA1⟩ : ∃ A1, A1 = fu2 A 27 i (K i) := ⟨_, rfl⟩
    obtain ⟨A', q1, q2, q3⟩ := ih (i + 1) A1 (by omega) (fun j hj => by
      rw [hA1]
      rcases Nat.lt_or_ge j i with h | h
      · rw [fu2_ne _ _ (by omega)]; exact h2 j h
      · rw [show j = i by omega, fu2_same]) (fun j hj => by rw [hA1, fu2_row _ _ (by decide)]; exact h3 j hj)
    refine ⟨A', ?_, but.tr (by rw [hA1]; exact but.fu) q2, q3⟩
    rw [jf_X12_chance_128_s, ← q1]
    simp (disch := omega) only [i32_lit, i32_neg, i32_add, i32_sub, i32_mul, i32_lt, i32_le, i32_eq, if_neg, rr_27 H, rr_55 H, ga_55 H, wa_27 H, xbs, Int.toNat_natCast, h3 i (by omega)]
    rw [← hA1, show (i : Int) + 1 = ((i + 1 : Nat) : Int) by omega]
theorem r_ch28 (H : MH ty M mm mi h0) {how : Nat} {s : Nat} {v : Int32} (hs : s < 2147483648) : ∀ (k i : Nat) (A : Nat → Nat → Int32), i + k = 60 → (∀ j, j < i → A 55 j = A 27 j) →
    ∃ A', jf_X12_chance_28 ty (k + 1) M (i32 (s : Nat)) (i32 how) v (i32 i) (rst mm mi h0 M I A J) = (xlim fun n67 => jf_X12_chance_67 ty n67 M (i32 how) v (i32 0) (i32 0) (rst mm mi h0 M I A' (fu J 54 (i64 (s : Nat))))) ∧ but 55 A A' ∧ ∀ j, j < 60 → A' 55 j = A 27 j := by
  intro k
  induction k with
  | zero =>
    intro i A h1 h2
    refine ⟨A, ?_, but.rf, fun j hj => h2 j (by omega)⟩
    rw [jf_X12_chance_28_s]
    simp (disch := omega) only [i32_lit, i32_neg, i32_add, i32_sub, i32_mul, i32_lt, i32_le, i32_eq, if_pos, i32_64, rsJ, xbs]
  | succ k ih =>
    intro i A h1 h2
    obtain ⟨A1, hA1⟩ : ∃ A1, A1 = fu2 A 55 i (A 27 i) := ⟨_, rfl⟩
    have e27 : A1 27 = A 27 := by rw [hA1, fu2_row _ _ (by decide)]
    obtain ⟨A', q1, q2, q3⟩ := ih (i + 1) A1 (by omega) (fun j hj => by
      rw [e27, hA1]
      rcases Nat.lt_or_ge j i with h | h
      · rw [fu2_ne _ _ (by omega)]; exact h2 j h
      · rw [show j = i by omega, fu2_same])
    refine ⟨A', ?_, but.tr (by rw [hA1]; exact but.fu) q2, fun j hj => by rw [q3 j hj, e27]⟩
    rw [jf_X12_chance_28_s, ← q1]
    simp (disch := omega) only [i32_lit, i32_neg, i32_add, i32_sub, i32_mul, i32_lt, i32_le, i32_eq, if_neg, rr_27 H, rr_55 H, ga_27 H, wa_55 H, xbs, Int.toNat_natCast]
    rw [← hA1, show (i : Int) + 1 = ((i + 1 : Nat) : Int) by omega]
theorem rrep_back {I' : Nat → Int32} {A' : Nat → Nat → Int32} {Q : List Nat} {A0 : Nat → Nat → Int32} (hg : gwf g) (h : RRep I A (gQ g Q)) (hk : ∀ k, k ≠ 28 → I' k = I k) (h28 : I' 28 = i32 (gq g).length) (hA : but 27 A A') (h27 : ∀ j, j < 60 → A' 27 j = A0 27 j) (hs : seg (A0 27) 0 (gq g)) : RRep I' A' g := by
  have := rrep_q (g := gQ g Q) (L := gq g) h (fun k hk' => hk k (fun z => by subst z; revert hk'; decide)) h28 (fun k hk' => hA k (fun z => by subst z; revert hk'; decide)) (fun i d hd => by
    have hi := (List.getElem?_eq_some_iff.mp hd).1
    have := gq_l hg
    rw [h27 (0 + i) (by omega)]
    exact hs i d hd)
  exact this
theorem r_ch67 (H : MH ty M mm mi h0) (hg : gwf g) {how : Nat} (hh : how ≤ 2) {dT : Nat → Option (List Nat) × Nat} (hdw : ∀ s L, (dT s).1 = some L → twf (gb g) L)
    (hd : ∀ (I : Nat → Int32) (A : Nat → Nat → Int32) (J : Nat → Int64) (s : Nat), RB I A (gb g) → J 54 = i64 (s : Nat) → ∃ I' A' J', jf_X12_isDrawn ty (rst mm mi h0 M I A J) M = some (bI (dT s).1.isSome, rst mm mi h0 M I' A' J') ∧ (∀ k, k ≠ 30 → I' k = I k) ∧ but 29 A A' ∧ J' 54 = i64 ((dT s).2 : Nat) ∧ ∀ L, (dT s).1 = some L → I' 30 = i32 L.length ∧ seg (A' 29) 0 L) {A0 : Nat → Nat → Int32} (hs0 : seg (A0 27) 0 (gq g)) : ∀ (k i : Nat) (I : Nat → Int32) (A : Nat → Nat → Int32) (J : Nat → Int64) (s h : Nat) (Q : List Nat), i + k = 10 → h ≤ i → RRep I A (gQ g Q) → (∀ j, j < 60 → A 55 j = A0 27 j) → J 54 = i64 (s : Nat) →
    ∃ n I' A' J', jf_X12_chance_67 ty n M (i32 how) (i32 (gq g).length) (i32 h) (i32 i) (rst mm mi h0 M I A J) = some (i32 (cn dT (chP g how) k s h), rst mm mi h0 M I' A' J') ∧ RRep I' A' g ∧ I' 2 = I 2 := by
  intro k
  induction k with
  | zero =>
    intro i I A J s h Q h1 h2 hR h55 hs
    obtain ⟨A', q1, q2, q3⟩ := r_ch128 (I := I) (J := J) (K := A0 27) (v := i32 (gq g).length) (w := i32 (h : Nat)) H 60 0 A (by omega) (fun j hj => by omega) h55
    refine ⟨1, fu I 28 (i32 (gq g).length), A', J, ?_, rrep_back hg hR (fun k hk => fu_ne _ _ hk) (fu_same _ _ _) q2 q3 hs0, fu_ne _ _ (by decide)⟩
    rw [jf_X12_chance_67_s]
    simp (disch := omega) only [i32_lit, i32_neg, i32_add, i32_sub, i32_mul, i32_lt, i32_le, i32_eq, if_pos]
    exact jf_X12_chance_128_l q1
  | succ k ih =>
    intro i I A J s h Q h1 h2 hR h55 hs
    obtain ⟨I1, A1, J1, p1, p2, p3, p4, p5⟩ := hd I A J s hR.1 hs
    have hR1 : RRep I1 A1 (gQ g Q) := hR.keep (fun k hk => p2 k (fun z => by subst z; revert hk; decide)) (fun k hk => p3 k (fun z => by subst z; revert hk; decide))
    have h551 : ∀ j, j < 60 → A1 55 j = A0 27 j := fun j hj => by rw [p3 55 (by decide)]; exact h55 j hj
    simp only [cn]
    rcases hds : dT s with ⟨o, s'⟩
    rw [hds] at p1 p4 p5
    cases o with
    | none =>
      obtain ⟨A', q1, q2, q3⟩ := r_ch128 (I := I1) (J := J1) (K := A0 27) (v := i32 (gq g).length) (w := i32 (-2)) H 60 0 A1 (by omega) (fun j hj => by omega) h551
      refine ⟨2, fu I1 28 (i32 (gq g).length), A', J1, ?_, rrep_back hg hR1 (fun k hk => fu_ne _ _ hk) (fu_same _ _ _) q2 q3 hs0, by rw [fu_ne _ _ (by decide), p2 2 (by decide)]⟩
      rw [jf_X12_chance_67_s]
      simp (disch := omega) only [i32_lit, i32_neg, i32_le, i32_lt, if_neg, p1, xb2s, Option.isSome_none, bI_eq0, if_true, i32_add]
      rw [jf_X12_chance_67_s]
      simp (disch := omega) only [i32_lit, i32_le, i32_lt, if_pos]
      have := jf_X12_chance_128_l q1
      split
      · exact this
      · exact this
    | some L =>
      have hwf := hdw s L (by rw [hds])
      obtain ⟨z1, z2⟩ := p5 L rfl
      obtain ⟨A2, y1, y2, y3⟩ := r_asks (I := I1) (A := A1) (J := J1) H hwf.2.1 z1 z2
      have hRL : RRep (fu I1 28 (i32 L.length)) A2 (gQ g L) := by
        refine rrep_q (g := gQ g Q) hR1 (fun k hk => ?_) (fu_same _ _ _) (fun k hk => ?_) y3
        · rw [fu_ne _ _ (fun z => by subst z; revert hk; decide)]
        · rw [y2 k (fun z => by subst z; revert hk; decide)]
      obtain ⟨I3, A3, w1, w2, w3, w4⟩ := r_lf (J := J1) H (gQ_wf hg (Or.inr hwf)) hh hwf hRL
      have hR3 := w2.rr hRL
      have hfl := fdL_len hg.1 (gin g) L how
      obtain ⟨n, I', A', J', x1, x2, x3⟩ := ih (i + 1) I3 A3 J1 s' (h + if chP g how L then 1 else 0) L (by omega) (by split <;> omega) hR3 (fun j hj => by rw [w2.2 55 (by decide), y2 55 (by decide)]; exact h551 j hj) p4
      refine ⟨n + 1, I', A', J', ?_, x2, ?_⟩
      · have w3' : I3 45 = i32 (fdL (gb g) (gin g) L how).length := w3
        rw [jf_X12_chance_67_s, ← x1]
        simp (disch := omega) only [i32_lit, i32_le, i32_lt, if_neg, p1, xb2s, Option.isSome_some, bI_eq0, Bool.true_eq_false, if_false, y1, xbs, w1, rI, w3', i32_add]
        rw [show (i : Int) + 1 = ((i + 1 : Nat) : Int) by omega]
        unfold chP
        by_cases w : (((fdL (gb g) (gin g) L how).length : Nat) : Int) ≤ 0
        · simp only [eq_true w, if_true]
          rw [decide_eq_false (by omega), Int.add_zero]
          rfl
        · simp only [eq_false w, if_false]
          rw [decide_eq_true (by omega)]
          rfl
      · rw [x3, w2.1 2 (by decide) (by decide), fu_ne _ _ (by decide), p2 2 (by decide)]
theorem op_chance (C : CH ty N) (H : MH ty M mm mi hB) (hg : gwf g) (hc : CRep c g) (hr : RRep I A g) {k how : Int} (f1 : -2147483648 ≤ k) (f2 : k < 2147483648) (a1 : -2147483648 ≤ how) (a2 : how < 2147483648) :
    ∃ J', OP N hA mm mi hB M J' g (jf_X11_chance ty (cst N hA c) (N + 0) (i32 k) (i32 how)) (jf_X12_chance ty (rst mm mi hB M I A J) M (i32 k) (i32 how)) := by
  have I2 : ∀ k, k ≠ 33 → k ≠ 2 → k ≠ 39 → fu I 2 (i32 0) k = I k := fun k _ h _ => fu_ne _ _ h
  have hr2 : RRep (fu I 2 (i32 0)) A g := hr.ks I2 keepA.rf
  unfold jf_X11_chance jf_X12_chance
  simp (disch := omega) only [rsI, xbs, i32_lit, i32_neg, i32_lt, isWay_i a1 a2, isIn_i, bI_eq0, rI, hr2.2.2.1.2.1]
  by_cases w : k < 0
  · simp only [eq_true w, if_true]
    exact ⟨J, OP.ret hc hr _ _ I2 (fu_same _ _ _) rfl rfl⟩
  simp only [eq_false w, if_false]
  cases hw : (decide (0 ≤ how) && decide (how ≤ 2)) with
  | false =>
    simp only [if_true]
    exact ⟨J, OP.ret hc hr _ _ I2 (fu_same _ _ _) rfl rfl⟩
  | true =>
  rw [Bool.and_eq_true_iff, decide_eq_true_iff, decide_eq_true_iff] at hw
  simp only [Bool.true_eq_false, if_false]
  obtain ⟨s, rfl⟩ : ∃ s : Nat, k = s := ⟨k.toNat, by omega⟩
  obtain ⟨how, rfl⟩ : ∃ n : Nat, how = n := ⟨how.toNat, by omega⟩
  have e15 := k_sub (h0 := hA) C hc.1 (show (0, 15, 272) ∈ lyL by decide) (by omega) (show ct 272 = some (0, 1) by decide)
  obtain ⟨c1, hc1⟩ : ∃ c1, c1 = csI c 272 0 (i32 (s : Nat)) := ⟨_, rfl⟩
  have f1' : fr 272 273 c c1 := by rw [hc1]; exact fr.I (by omega) (by omega)
  have hcc1 : CRep c1 g := hc.fr hg f1' (by omega)
  have hseed : jf_X1_seed ty (cst N hA c) (N + 272) (i32 (s : Nat)) = some (cst N hA c1) := by
    unfold jf_X1_seed
    rw [ksI (by omega), ← hc1]; rfl
  obtain ⟨n, c', q1, q2⟩ := k_ch26 (h0 := hA) C hg (show how ≤ 2 by omega) (dT := drO (gb g)) (fun s L h => drO_wf hg.1 h) (fun c s a1 a2 => k_drO C hg a1 a2) 10 0 c1 s 0 (by omega) (by omega) hcc1 (by rw [hc1, sI_s])
  obtain ⟨A1, p1, p2, p3⟩ := r_ch28 (I := fu I 2 (i32 0)) (J := J) (how := how) (s := s) (v := i32 (gq g).length) H (by omega) 60 0 A (by omega) (fun j hj => by omega)
  have hR1 : RRep (fu I 2 (i32 0)) A1 g := hr2.keep keepI.rf (fun k hk => p2 k (fun z => by subst z; revert hk; decide))
  obtain ⟨n', I', A', J', z1, z2, z3⟩ := r_ch67 H hg (show how ≤ 2 by omega) (dT := drO (gb g)) (fun s L h => drO_wf hg.1 h) (fun I A J s a1 a2 => r_drO H hg.1 a1 a2) (A0 := A) hr.2.2.1.1 10 0 (fu I 2 (i32 0)) A1 (fu J 54 (i64 (s : Nat))) s 0 (gq g) (by omega) (by omega) hR1 p3 (fu_same _ _ _)
  refine ⟨J', i32 (cn (drO (gb g)) (chP g how) 10 s 0), c', I', A', ?_, q2, ?_, z2, by rw [z3, fu_same]⟩
  · rw [e15, xbs, hseed, xbs]
    exact jf_X11_chance_26_l q1
  · exact jf_X12_chance_28_l (p1.trans (jf_X12_chance_67_l z1))
end CHANCE

/-! TEXT: rules, all lines, in the model -/
section TEXTT
variable {ty : xTy} {N M : Nat} {hA hB h0 : xH} {mm mi : Nat → Nat} {c : CS} {I I' : Nat → Int32} {A A' : Nat → Nat → Int32} {J : Nat → Int64} {g : Sg} {b : Bk} {F : Nat → Nat} {n : Nat}
theorem r_rlL (H : MH ty M mm mi h0) (hb : bwf b) {j : Nat} (hT : TPr A F n) (hR : RT I F n j) (hB : RBr I A b) (hne : (tk F n j).1 ≠ 1) : ∃ I' A', jf_X12_ruleLine ty (rst mm mi h0 M I A J) M = some (bI (decide ((rlL (tk F n) b j).1 = 0)), rst mm mi h0 M I' A' J) ∧ LRr F n I I' A A' (rlL (tk F n) b j) := by
  have h8 := hb.1
  have h4 := hb.2.1
  have h16 := hb.2.2.1
  have hb0 := bw_0 hb
  unfold jf_X12_ruleLine
  simp only [rI, hB.2.2.1, i32_lit, i32_neg]
  by_cases w0 : bnr b = 16
  · have w0' : i32 (bnr b : Nat) = i32 16 := by rw [w0]; rfl
    have e : rlL (tk F n) b j = (2, j, b) := by unfold rlL; rw [if_pos w0]
    rw [e]
    simp only [eq_true w0', if_true]
    obtain ⟨I', q1, q2⟩ := r_flL (ty := ty) (M := M) (mm := mm) (mi := mi) (h0 := h0) (A := A) (J := J) (b' := b) hR (show (2 : Nat) ≠ 0 by decide)
    exact ⟨I', A, q1, q2⟩
  · have w0' : ¬ i32 (bnr b : Nat) = i32 16 := by rw [i32_eq (by omega) (by omega) (by omega) (by omega)]; omega
    have hr16 : bnr b < 16 := by omega
    obtain ⟨I1, a1, a2, a3⟩ := r_tok (J := J) H hT hR hne
    obtain ⟨kd1, kd2, kd3⟩ := r_kd a3
    have hB1 : RBr I1 A b := hB.keep (fun k hk => a2 k (by
      simp only [List.mem_cons, List.not_mem_nil, or_false] at hk ⊢
      omega)) (fun _ _ => rfl)
    have k1 : keepT I I1 := keepT.R (keepR.K a2)
    simp only [eq_false w0', if_false, a1, xbs, rI]
    unfold rlL
    rw [if_neg w0]
    by_cases w1 : (tk F n (j + 1)).1 = 2
    · rw [if_neg (show ¬ (tk F n (j + 1)).1 ≠ 2 from fun e => e w1)]
      have w1' := kd1.mpr w1
      have e9 : I1 9 = tkV (tk F n) (j + 1) := kd3 w1
      have hr := fndA_rg (f := brn b) (p := 0) (x := tkV (tk F n) (j + 1)) (bnr b) 0
      have q1 := r_find (h := rst mm mi h0 M I1 A J) (x := tkV (tk F n) (j + 1)) (H.2 21 (by decide)).2.1 (p := 16) (nn := bnr b) (by show _ ≤ 32; omega) (by decide)
      rw [fndA_cong (f := xA (rst mm mi h0 M I1 A J) (mm 21)) (f' := brn b) (p := 16) (p' := 0) _ 0 (fun i _ hi => by rw [rA_of H (by decide), Nat.zero_add, (hB.2.2.2.2.2 i (by omega)).1])] at q1
      have q1' : jf_X12_find ty (rst mm mi h0 M I1 A J) (mm 21) (i32 16) (i32 (bnr b : Nat)) (tkV (tk F n) (j + 1)) = some (i32 (fndA (brn b) 0 (tkV (tk F n) (j + 1)) 0 (bnr b))) := q1
      simp only [eq_true w1', if_true, e9, rr_21 H, hB1.2.2.1, q1', xbs]
      by_cases w2 : fndA (brn b) 0 (tkV (tk F n) (j + 1)) 0 (bnr b) = -1
      · rw [if_neg (show ¬ fndA (brn b) 0 (tkV (tk F n) (j + 1)) 0 (bnr b) ≠ -1 from fun e => e w2)]
        have w2' : i32 (fndA (brn b) 0 (tkV (tk F n) (j + 1)) 0 (bnr b)) < i32 0 := by rw [w2]; decide
        obtain ⟨A2, hA2⟩ : ∃ A2, A2 = fu2 A 21 (16 + bnr b) (tkV (tk F n) (j + 1)) := ⟨_, rfl⟩
        have l2 : lowA A A2 := by rw [hA2]; exact lowA.fu (by decide) (by show 16 ≤ 16 + bnr b; omega)
        have hT2 := hT.low l2
        obtain ⟨I2, t1, t2, t3'⟩ := r_tok (J := J) H hT2 a3 (by omega)
        have t3 : RT I2 F n (j + 2) := t3'
        have k2 : keepT I I2 := k1.tr (keepT.R (keepR.K t2))
        have eρ : i32 16 + i32 (bnr b : Nat) = i32 ((16 + bnr b : Nat) : Int) := by rw [i32_add, show (16 : Int) + (bnr b : Int) = ((16 + bnr b : Nat) : Int) by omega]
        have hw : xwa 1 ty (rst mm mi h0 M I1 A J) (mm 21) (i32 ((16 + bnr b : Nat) : Int)) (tkV (tk F n) (j + 1)) = some (rst mm mi h0 M I1 A2 J) := by
          rw [wa_21 H (by omega) (by omega), Int.toNat_natCast, ← hA2]
        have hN2 : RNm I2 A2 1 b := hB1.nm.keep (fun q hq => t2 q (by
          simp only [List.mem_cons, List.not_mem_nil, or_false] at hq ⊢
          omega)) (fun q hq => by
          simp only [List.mem_cons, List.not_mem_nil, or_false] at hq
          rw [hA2, fu2_row _ _ (by omega)])
        obtain ⟨I3, A3, s1, s2, s3, s4, s5⟩ := r_trd (J := J) (v := 1) (v2 := i32 (-1)) (lf := none) H hb0 (Or.inr rfl) hT2 hN2 (Or.inl ⟨rfl, rfl⟩) t3
        have s1' : jf_X12_termRead ty (rst mm mi h0 M I2 A2 J) M (i32 1) (i32 (-1)) = some (bI (decide ((pT (tk F n) b none 13 (j + 2) [] []).1 = 0)), rst mm mi h0 M I3 A3 J) := s1
        have k3 : keepT I I3 := k2.tr (keepT.R s2)
        have l3 : lowA A A3 := l2.tr (lowA.R s3)
        simp only [eq_true w2', if_true, eρ, hw, xbs, t1, s1', xb2s, bI_eq0]
        unfold rlT
        by_cases w3 : (pT (tk F n) b none 13 (j + 2) [] []).1 = 0
        · rw [if_neg (show ¬ (pT (tk F n) b none 13 (j + 2) [] []).1 ≠ 0 from fun e => e w3)]
          obtain ⟨y1, y2, y3, y4, y5⟩ := s4 w3
          have hwf := (pT_wf0 hb0 w3).1
          generalize pT (tk F n) b none 13 (j + 2) [] [] = p at w3 y1 y2 y3 hwf ⊢
          have hp12 := hwf.2.1
          obtain ⟨A4, b1, b2, b3, b4⟩ := r_rl94 (J := J) (ρ := 16 + bnr b) H hp12 (by omega) (by omega) y2 p.2.2.length 0 A3 (by omega) y3 (seg_nil _ _)
          obtain ⟨A5, hA5⟩ : ∃ A5, A5 = fu2 A4 22 (16 + bnr b) (i32 (p.2.2.length : Nat)) := ⟨_, rfl⟩
          obtain ⟨A6, hA6⟩ : ∃ A6, A6 = fu2 A5 24 (16 + bnr b) (i32 0) := ⟨_, rfl⟩
          have l4 : lowA A3 A4 := lowA.but b2 (by decide) (fun i hi => b3 i (by
            have : i < 192 := hi
            omega))
          have l5 : lowA A4 A5 := by rw [hA5]; exact lowA.fu (by decide) (by show 16 ≤ 16 + bnr b; omega)
          have l6 : lowA A5 A6 := by rw [hA6]; exact lowA.fu (by decide) (by show 16 ≤ 16 + bnr b; omega)
          have l36 := (l4.tr l5).tr l6
          have l06 := l3.tr l36
          have hT6 := hT.low l06
          obtain ⟨_, _, _, _, _, _, d7, d8⟩ := r_kd3 y1
          have h17 : ∀ x : Nat → Int32, x 17 = i32 (bnr b : Nat) → ∀ AA : Nat → Nat → Int32, jf_X12_ruleLine_216 ty M (rst mm mi h0 M x AA J) = some (i32 1, rst mm mi h0 M (fu x 17 (i32 ((bnr b + 1 : Nat) : Int))) AA J) := fun x hx AA => by
            unfold jf_X12_ruleLine_216
            simp only [rI, hx, rsI, xbs, i32_lit, i32_add]
            rw [show (bnr b : Int) + 1 = ((bnr b + 1 : Nat) : Int) by omega]
          have e317 : I3 17 = i32 (bnr b : Nat) := by rw [s2 17 (by decide), t2 17 (by decide)]; exact hB1.2.2.1
          have kk3 : ∀ k, k ∈ [15, 16] → I3 k = I k := fun k hk => by
            simp only [List.mem_cons, List.not_mem_nil, or_false] at hk
            rw [s2 k (by simp only [List.mem_cons, List.not_mem_nil, or_false]; omega), t2 k (by simp only [List.mem_cons, List.not_mem_nil, or_false]; omega), a2 k (by simp only [List.mem_cons, List.not_mem_nil, or_false]; omega)]
          have kf3 : I3 4 = I 4 ∧ I3 5 = I 5 := ⟨by rw [y4, t2 4 (by decide), a2 4 (by decide)], by rw [y5, t2 5 (by decide), a2 5 (by decide)]⟩
          -- rows of A6
          have r6 : ∀ k, k ≠ 21 → k ≠ 22 → k ≠ 23 → k ≠ 24 → k ≠ 29 → k ≠ 31 → A6 k = A k := fun k x1 x2 x3 x4 x5 x6 => by rw [hA6, fu2_row _ _ x4, hA5, fu2_row _ _ x2, b2 k x3, s3 k x5 x6, hA2, fu2_row _ _ x1]
          have r21 : ∀ i, A6 21 i = A2 21 i := fun i => by rw [hA6, fu2_row _ _ (by decide), hA5, fu2_row _ _ (by decide), b2 21 (by decide), s3 21 (by decide) (by decide)]
          have r23 : A6 23 = A4 23 := by rw [hA6, fu2_row _ _ (by decide), hA5, fu2_row _ _ (by decide)]
          have r23l : ∀ i, i < 12 * (16 + bnr b) → A6 23 i = A 23 i := fun i hi => by rw [r23, b3 i hi, s3 23 (by decide) (by decide), hA2, fu2_row _ _ (by decide)]
          have r22 : ∀ i, i ≠ 16 + bnr b → A6 22 i = A 22 i := fun i hi => by rw [hA6, fu2_row _ _ (by decide), hA5, fu2_ne _ _ (by omega), b2 22 (by decide), s3 22 (by decide) (by decide), hA2, fu2_row _ _ (by decide)]
          have r22e : A6 22 (16 + bnr b) = i32 (p.2.2.length : Nat) := by rw [hA6, fu2_row _ _ (by decide), hA5, fu2_same]
          have r24 : ∀ i, i ≠ 16 + bnr b → A6 24 i = A 24 i := fun i hi => by rw [hA6, fu2_ne _ _ (by omega), hA5, fu2_row _ _ (by decide), b2 24 (by decide), s3 24 (by decide) (by decide), hA2, fu2_row _ _ (by decide)]
          have hend : jf_X12_ruleLine_94 ty 1 M (i32 ((16 + bnr b : Nat) : Int)) (i32 (p.2.2.length : Nat)) (rst mm mi h0 M I3 A4 J) = if I3 8 = i32 5 then (if I3 9 = i32 2 then ((jf_X12_token ty (rst mm mi h0 M I3 A6 J) M).bind fun h16 => xb2 (jf_X12_termRead ty h16 M (i32 1) (i32 ((16 + bnr b : Nat) : Int))) fun a18 h17 => if a18 = i32 0 then some (i32 0, h17) else xlim fun n175 => jf_X12_ruleLine_175 ty n175 M (i32 ((16 + bnr b : Nat) : Int)) (i32 0) h17) else jf_X12_ruleLine_216 ty M (rst mm mi h0 M I3 A6 J)) else jf_X12_ruleLine_216 ty M (rst mm mi h0 M I3 A6 J) := by
            rw [jf_X12_ruleLine_94_s]
            simp (disch := omega) only [rI, y2, i32_lit, i32_neg, i32_add, i32_sub, i32_mul, i32_lt, i32_le, i32_eq, if_pos, rr_22 H, rr_24 H, xbs]
            rw [wa_22 H (by omega) (by omega), xbs, Int.toNat_natCast, ← hA5]
            simp (disch := omega) only [rr_24 H, xbs]
            rw [wa_24 H (by omega) (by omega), xbs, Int.toNat_natCast, ← hA6]
            simp only [rI]
            rfl
          by_cases w4 : (tk F n p.2.1).1 = 61
          · rw [if_pos w4]
            obtain ⟨e8, e9'⟩ := d7 w4
            simp only [e8, e9', if_true] at hend
            clear d7 d8
            obtain ⟨I4, g1, g2, g3⟩ := r_tok (J := J) H hT6 y1 (by omega)
            have hN4 : RNm I4 A6 1 b := hB1.nm.keep (fun q hq => by
              simp only [List.mem_cons, List.not_mem_nil, or_false] at hq
              rw [g2 q (by simp only [List.mem_cons, List.not_mem_nil, or_false]; omega), s2 q (by simp only [List.mem_cons, List.not_mem_nil, or_false]; omega), t2 q (by simp only [List.mem_cons, List.not_mem_nil, or_false]; omega)]) (fun q hq => by
              simp only [List.mem_cons, List.not_mem_nil, or_false] at hq
              exact r6 q (by omega) (by omega) (by omega) (by omega) (by omega) (by omega))
            have hLF : LFr A6 (i32 ((16 + bnr b : Nat) : Int)) (some p.2.2) := Or.inr ⟨p.2.2, 16 + bnr b, rfl, rfl, by omega, hp12, fun d hd => by have := hwf.lt hb d hd; omega, r22e, by rw [r23]; exact b4⟩
            obtain ⟨I5, A7, m1, m2, m3, m4, m5⟩ := r_trd (J := J) (v := 1) (v2 := i32 ((16 + bnr b : Nat) : Int)) (lf := some p.2.2) H hb0 (Or.inr rfl) hT6 hN4 hLF g3
            have m1' : jf_X12_termRead ty (rst mm mi h0 M I4 A6 J) M (i32 1) (i32 ((16 + bnr b : Nat) : Int)) = some (bI (decide ((pT (tk F n) b (some p.2.2) 13 (p.2.1 + 1) [] []).1 = 0)), rst mm mi h0 M I5 A7 J) := m1
            rw [g1, xbs, m1', xb2s] at hend
            have k5 : keepT I I5 := (k3.tr (keepT.R (keepR.K g2))).tr (keepT.R m2)
            have l7 : lowA A A7 := l06.tr (lowA.R m3)
            unfold rlU
            by_cases w5 : (pT (tk F n) b (some p.2.2) 13 (p.2.1 + 1) [] []).1 = 0
            · rw [if_neg (show ¬ (pT (tk F n) b (some p.2.2) 13 (p.2.1 + 1) [] []).1 ≠ 0 from fun e => e w5)]
              obtain ⟨z1, z2, z3, z4, z5⟩ := m4 w5
              have hwf2 := (pT_wf0 hb0 w5).1
              rw [decide_eq_true w5] at hend
              generalize pT (tk F n) b (some p.2.2) 13 (p.2.1 + 1) [] [] = q at w5 z1 z2 z3 hwf2 ⊢
              have hq12 := hwf2.2.1
              obtain ⟨A8, f1, f2, f3, f4⟩ := r_rl175 (J := J) (ρ := 16 + bnr b) H hq12 (by omega) (by omega) z2 q.2.2.length 0 A7 (by omega) z3 (seg_nil _ _)
              obtain ⟨A9, hA9⟩ : ∃ A9, A9 = fu2 A8 24 (16 + bnr b) (i32 (q.2.2.length : Nat)) := ⟨_, rfl⟩
              have e517 : I5 17 = i32 (bnr b : Nat) := by rw [m2 17 (by decide), g2 17 (by decide)]; exact e317
              have nb : ¬ bI true = i32 0 := by decide
              simp only [eq_false nb, if_false] at hend
              have h175 : jf_X12_ruleLine_175 ty 1 M (i32 ((16 + bnr b : Nat) : Int)) (i32 (q.2.2.length : Nat)) (rst mm mi h0 M I5 A8 J) = some (i32 1, rst mm mi h0 M (fu I5 17 (i32 ((bnr b + 1 : Nat) : Int))) A9 J) := by
                rw [jf_X12_ruleLine_175_s]
                simp (disch := omega) only [rI, z2, i32_lit, i32_neg, i32_add, i32_sub, i32_mul, i32_lt, i32_le, i32_eq, if_pos, rr_24 H, xbs]
                rw [wa_24 H (by omega) (by omega), xbs, Int.toNat_natCast, ← hA9]
                exact h17 I5 e517 A9
              have hx : (xlim fun n175 => jf_X12_ruleLine_175 ty n175 M (i32 ((16 + bnr b : Nat) : Int)) (i32 0) (rst mm mi h0 M I5 A7 J)) = some (i32 1, rst mm mi h0 M (fu I5 17 (i32 ((bnr b + 1 : Nat) : Int))) A9 J) := jf_X12_ruleLine_175_l (f1.trans h175)
              rw [hx] at hend
              have l8 : lowA A7 A8 := lowA.but f2 (by decide) (fun i hi => f3 i (by
                have : i < 192 := hi
                omega))
              have l9 : lowA A8 A9 := by rw [hA9]; exact lowA.fu (by decide) (by show 16 ≤ 16 + bnr b; omega)
              have r9 : ∀ k, k ≠ 24 → k ≠ 25 → k ≠ 29 → k ≠ 31 → A9 k = A6 k := fun k x1 x2 x3 x4 => by rw [hA9, fu2_row _ _ x1, f2 k x2, m3 k x3 x4]
              refine ⟨fu I5 17 (i32 ((bnr b + 1 : Nat) : Int)), A9, ?_, k5.tr (keepT.fu (by decide)), (l7.tr l8).tr l9, fun _ => ⟨?_, ?_, ?_, ?_⟩, fun e => absurd rfl e⟩
              · simp only [decide_eq_true w3, Bool.true_eq_false, if_false]
                exact jf_X12_ruleLine_94_l (b1.trans hend)
              · show RT _ F n q.2.1
                unfold RT TR at *
                rw [fu_ne _ _ (by decide), fu_ne _ _ (by decide), fu_ne _ _ (by decide), fu_ne _ _ (by decide), fu_ne _ _ (by decide)]
                exact z1
              · show RBr _ A9 (bAddR b (tkV (tk F n) (j + 1)) p.2.2 q.2.2)
                refine RBr_R hb hB ?_ ?_ (fu_same _ _ _) (fun k hk => ?_) ?_ ?_ ?_ ?_ ?_ (fun i hi => ⟨?_, ?_, ?_⟩) (fun i hi => ⟨?_, ?_⟩)
                · rw [fu_ne _ _ (by decide), m2 15 (by decide), g2 15 (by decide), kk3 15 (by decide)]
                · rw [fu_ne _ _ (by decide), m2 16 (by decide), g2 16 (by decide), kk3 16 (by decide)]
                · simp only [List.mem_cons, List.not_mem_nil, or_false] at hk
                  rw [r9 k (by omega) (by omega) (by omega) (by omega), r6 k (by omega) (by omega) (by omega) (by omega) (by omega) (by omega)]
                · rw [r9 21 (by decide) (by decide) (by decide) (by decide), r21, hA2, fu2_same]
                · rw [r9 22 (by decide) (by decide) (by decide) (by decide)]; exact r22e
                · rw [r9 23 (by decide) (by decide) (by decide) (by decide), r23]; exact b4
                · rw [hA9, fu2_same]
                · rw [hA9, fu2_row _ _ (by decide)]; exact f4
                · rw [r9 21 (by decide) (by decide) (by decide) (by decide), r21, hA2, fu2_ne _ _ (by omega)]
                · rw [r9 22 (by decide) (by decide) (by decide) (by decide), r22 i (by omega)]
                · rw [hA9, fu2_ne _ _ (by omega), f2 24 (by decide), m3 24 (by decide) (by decide), r24 i (by omega)]
                · rw [r9 23 (by decide) (by decide) (by decide) (by decide), r23l i hi]
                · rw [hA9, fu2_row _ _ (by decide), f3 i hi, m3 25 (by decide) (by decide), r6 25 (by decide) (by decide) (by decide) (by decide) (by decide) (by decide)]
              · rw [fu_ne _ _ (by decide), z4, g2 4 (by decide)]; exact kf3.1
              · rw [fu_ne _ _ (by decide), z5, g2 5 (by decide)]; exact kf3.2
            · rw [if_pos w5]
              rw [decide_eq_false w5, show bI false = i32 0 from rfl] at hend
              simp only [if_true] at hend
              refine ⟨I5, A7, ?_, k5, l7, fun e => absurd e w5, fun _ => m5 w5⟩
              simp only [decide_eq_true w3, Bool.true_eq_false, if_false, decide_eq_false w5]
              exact jf_X12_ruleLine_94_l (b1.trans hend)
          · rw [if_neg w4]
            have hend2 : jf_X12_ruleLine_94 ty 1 M (i32 ((16 + bnr b : Nat) : Int)) (i32 (p.2.2.length : Nat)) (rst mm mi h0 M I3 A4 J) = some (i32 1, rst mm mi h0 M (fu I3 17 (i32 ((bnr b + 1 : Nat) : Int))) A6 J) := by
              rw [hend, h17 I3 e317 A6]
              by_cases x8 : I3 8 = i32 5
              · have x9 : ¬ I3 9 = i32 2 := fun e => d8 w4 ⟨x8, e⟩
                rw [if_pos x8, if_neg x9]
              · rw [if_neg x8]
            refine ⟨fu I3 17 (i32 ((bnr b + 1 : Nat) : Int)), A6, ?_, k3.tr (keepT.fu (by decide)), l06, fun _ => ⟨?_, ?_, ?_, ?_⟩, fun e => absurd rfl e⟩
            · simp only [decide_eq_true w3, Bool.true_eq_false, if_false]
              exact jf_X12_ruleLine_94_l (b1.trans hend2)
            · show RT _ F n p.2.1
              unfold RT TR at *
              rw [fu_ne _ _ (by decide), fu_ne _ _ (by decide), fu_ne _ _ (by decide), fu_ne _ _ (by decide), fu_ne _ _ (by decide)]
              exact y1
            · show RBr _ A6 (bAddR b (tkV (tk F n) (j + 1)) p.2.2 [])
              refine RBr_R hb hB ?_ ?_ (fu_same _ _ _) (fun k hk => ?_) ?_ r22e ?_ ?_ (seg_nil _ _) (fun i hi => ⟨?_, ?_, ?_⟩) (fun i hi => ⟨?_, ?_⟩)
              · rw [fu_ne _ _ (by decide), kk3 15 (by decide)]
              · rw [fu_ne _ _ (by decide), kk3 16 (by decide)]
              · simp only [List.mem_cons, List.not_mem_nil, or_false] at hk
                rw [r6 k (by omega) (by omega) (by omega) (by omega) (by omega) (by omega)]
              · rw [r21, hA2, fu2_same]
              · rw [r23]; exact b4
              · rw [hA6, fu2_same]; rfl
              · rw [r21, hA2, fu2_ne _ _ (by omega)]
              · rw [r22 i (by omega)]
              · rw [r24 i (by omega)]
              · rw [r23l i hi]
              · rw [r6 25 (by decide) (by decide) (by decide) (by decide) (by decide) (by decide)]
            · rw [fu_ne _ _ (by decide)]; exact kf3.1
            · rw [fu_ne _ _ (by decide)]; exact kf3.2
        · rw [if_pos w3]
          refine ⟨I3, A3, ?_, k3, l3, fun e => absurd e w3, fun _ => s5 w3⟩
          simp only [decide_eq_false w3, if_true]
          rfl
      · rw [if_pos w2]
        have w2' : ¬ i32 (fndA (brn b) 0 (tkV (tk F n) (j + 1)) 0 (bnr b)) < i32 0 := by rw [i32_lt (by omega) (by omega) (by omega) (by omega)]; omega
        simp only [eq_false w2', if_false]
        obtain ⟨I4, r1, r2⟩ := r_flL (ty := ty) (M := M) (mm := mm) (mi := mi) (h0 := h0) (A := A) (J := J) (b' := b) a3 (show (3 : Nat) ≠ 0 by decide)
        exact ⟨I4, A, r1, k1.tr r2.1, r2.2.1, fun e => (by cases e), r2.2.2.2⟩
    · rw [if_pos w1]
      have w1' : ¬ I1 8 = i32 2 := fun e => w1 (kd1.mp e)
      simp only [eq_false w1', if_false]
      obtain ⟨I4, r1, r2⟩ := r_flL (ty := ty) (M := M) (mm := mm) (mi := mi) (h0 := h0) (A := A) (J := J) (b' := b) a3 (show (1 : Nat) ≠ 0 by decide)
      exact ⟨I4, A, r1, k1.tr r2.1, r2.2.1, fun e => (by cases e), r2.2.2.2⟩
end TEXTT

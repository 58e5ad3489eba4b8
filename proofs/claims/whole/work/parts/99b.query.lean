/-! QUERY -/
def gFl (g : Sg) (fl : Int × Int) : Sg := (g.1, g.2.1, g.2.2.1, g.2.2.2.1, g.2.2.2.2.1, (0, g.2.2.2.2.2.1.2), fl)
theorem gFl_wf {g : Sg} (hg : gwf g) {fl : Int × Int} (h1 : -1 ≤ fl.1) (h2 : fl.1 ≤ 1000) (h3 : -1 ≤ fl.2) (h4 : fl.2 ≤ 1000) : gwf (gFl g fl) := ⟨hg.1, hg.2.1, hg.2.2.1, hg.2.2.2.1, hg.2.2.2.2.1, hg.2.2.2.2.2.1, Nat.zero_le _, fun k hk => absurd hk (Nat.not_lt_zero k), h1, h2, h3, h4⟩
theorem tk_st (F : Nat → Nat) (n j : Nat) : (tk F n j).2.1 ≤ n := by
  have h2 : ∀ k q, q + k = n → (lx F n k q).2.1 ≤ n := by
    intro k
    induction k with
    | zero => intro q h; exact Nat.le_refl _
    | succ k ih =>
      intro q h
      simp only [lx]
      split
      · exact ih _ (by omega)
      · rw [(tkA_bh F (show q < n by omega)).2.2.2]; omega
  exact h2 _ _ (by have := pos_le F n j; omega)
theorem tape_F {f : Nat → Int32} {m : Nat} (h : ∀ k, k < m → ∃ n : Nat, n < 256 ∧ f k = i32 n) : ∃ F : Nat → Nat, ∀ k, k < m → F k < 256 ∧ f k = i32 (F k : Nat) :=
  ⟨fun k => if hk : k < m then Classical.choose (h k hk) else 0, fun k hk => by
    simp only [dif_pos hk]
    exact Classical.choose_spec (h k hk)⟩
theorem pT_f {T : Nat → Tk} {b : Bk} {lf : Option (List Nat)} : ∀ (k j : Nat) (L aw : List Nat), (pT T b lf k j L aw).1 ≤ 5 := by
  intro k
  induction k with
  | zero => intro j L aw; show (1 : Nat) ≤ 5; omega
  | succ k ih =>
    intro j L aw
    rw [pT_s]
    split
    · show plF T b lf j L ≤ 5
      unfold plF
      split
      · omega
      · split
        · omega
        · split
          · omega
          · split <;> omega
    · split
      · split
        · exact ih _ _ _
        · show (1 : Nat) ≤ 5; omega
      · split
        · show (1 : Nat) ≤ 5; omega
        · split
          · show (0 : Nat) ≤ 5; omega
          · exact ih _ _ _
section QUERY
variable {ty : xTy} {N M : Nat} {hA hB h0 : xH} {mm mi : Nat → Nat} {c : CS} {I : Nat → Int32} {A : Nat → Nat → Int32} {J : Nat → Int64} {g : Sg} {b : Bk} {F : Nat → Nat} {n : Nat}
/-- what reading changes -/
def frQ (u w : Nat) (c c' : CS) : Prop := (∀ q, q ≠ 0 → ¬ (u ≤ q ∧ q < w) → ¬ (226 ≤ q ∧ q < 232) → cI c' q = cI c q ∧ cA c' q = cA c q) ∧ cR c' = cR c ∧ cP c' = cP c
theorem frQ.tr {u w : Nat} {c d e : CS} (h1 : frQ u w c d) (h2 : frQ u w d e) : frQ u w c e := ⟨fun q a1 a2 a3 => ⟨((h2.1 q a1 a2 a3).1).trans (h1.1 q a1 a2 a3).1, ((h2.1 q a1 a2 a3).2).trans (h1.1 q a1 a2 a3).2⟩, h2.2.1.trans h1.2.1, h2.2.2.trans h1.2.2⟩
theorem frQ.rf {u w : Nat} {c : CS} : frQ u w c c := ⟨fun _ _ _ _ => ⟨rfl, rfl⟩, rfl, rfl⟩
theorem frQ.P {u u' w : Nat} {c c' : CS} (h : frP u' c c') (h1 : u ≤ u') (h2 : u' + 3 ≤ w) : frQ u w c c' := ⟨fun q _ a2 a3 => h.1 q (by omega) (by omega) (by omega) (by omega), h.2⟩
theorem frQ.o {u w lo hi : Nat} {c c' : CS} (h : fr lo hi c c') (h1 : (226 ≤ lo ∧ hi ≤ 232) ∨ (lo = 0 ∧ hi = 1) ∨ (u ≤ lo ∧ hi ≤ w)) : frQ u w c c' := ⟨fun q a1 a2 a3 => h.1 q (by omega), h.2⟩
theorem crep_rd {c' : CS} {fl : Int × Int} {u w : Nat} (hg : gwf g) (h : CRep c g) (f : frQ u w c c') (hu : (u = cR c 0 5 ∧ w = u + 3) ∨ (u = cR c 0 3 ∧ w = u + 106)) (h1 : cI c' 0 1 = i32 0) (h3 : cI c' 226 3 = i32 fl.1) (h4 : cI c' 226 4 = i32 fl.2) : CRep c' (gFl g fl) := by
  obtain ⟨a1, a2, a3, a4, a5, a6, a7⟩ := h
  have hB := a1.bk
  have hQ := a1.as
  have hR3 : (cR c 0 2 = 2 ∧ cR c 0 3 = 108) ∨ (cR c 0 2 = 108 ∧ cR c 0 3 = 2) := a1.2.2.2.1
  have hL := a1.same f.2.1 f.2.2
  have e : ∀ q, (cR c 0 2 ≤ q ∧ q < cR c 0 2 + 106) ∨ (cR c 0 4 ≤ q ∧ q < cR c 0 4 + 3) ∨ (232 ≤ q ∧ q < 241) → cI c' q = cI c q ∧ cA c' q = cA c q := fun q hq => f.1 q (by omega) (by omega) (by omega)
  refine ⟨hL, ?_, ?_, ?_, ?_, ⟨h1, fun k hk => absurd hk (Nat.not_lt_zero k)⟩, h3, h4⟩
  · rw [f.2.1]
    exact a2.keep hg.1.2.2.1 (fun q q1 q2 => ⟨(e q (by omega)).1, (e q (by omega)).2, by rw [f.2.1]⟩)
  · rw [f.2.1]
    exact a3.keep (e _ (by omega)).1 (e _ (by omega)).2 (e _ (by omega)).2 (by rw [f.2.1])
  · unfold CSt at *
    rw [(e 232 (by omega)).1, (e 233 (by omega)).2]
    exact a4
  · rw [f.2.1]
    unfold CTr at *
    rw [(e 234 (by omega)).1, (e 235 (by omega)).2, (e 237 (by omega)).2, f.2.2]
    exact a5
theorem rrep_rd {I' : Nat → Int32} {A' : Nat → Nat → Int32} {fl : Int × Int} (h : RRep I A g) (hk : ∀ k ∈ [12, 13, 14, 26, 28, 41, 56, 58, 59], I' k = I k) (hA : ∀ k ∈ [0, 3, 27, 57], A' k = A k) (hR : RB I A (gb g) → RB I' A' (gb g)) (h1 : I' 1 = i32 0) (h4 : I' 4 = i32 fl.1) (h5 : I' 5 = i32 fl.2) : RRep I' A' (gFl g fl) := by
  obtain ⟨r1, r2, r3, r4, r5, r6, r7⟩ := h
  refine ⟨hR r1, ?_, ?_, ?_, ?_, ⟨h1, fun k hk => absurd hk (Nat.not_lt_zero k), ?_⟩, h4, h5⟩
  · rw [hk 26 (by decide)]; exact r2
  · rw [hk 28 (by decide), hk 41 (by decide), hA 27 (by decide)]; exact r3
  · rw [hk 56 (by decide), hA 57 (by decide)]; exact r4
  · rw [hk 58 (by decide), hk 59 (by decide)]; exact r5
  · rw [hA 3 (by decide)]; exact r6.2.2
theorem k_beg (C : CH ty N) (hL : LY c) (hT : TPc c F n) : ∃ c' z, jf_X4_begin ty (cst N h0 c) (N + 226) (N + 1) (i32 (n : Nat)) = some (cst N h0 c') ∧ fr 226 231 c c' ∧ CT c' F n z 0 ∧ cI c' 226 3 = i32 0 ∧ cI c' 226 4 = i32 (-1) := by
  obtain ⟨c1, hc1⟩ : ∃ c1, c1 = csI c 226 3 (i32 0) := ⟨_, rfl⟩
  obtain ⟨c2, hc2⟩ : ∃ c2, c2 = csI c1 226 4 (i32 (-1)) := ⟨_, rfl⟩
  have f1 : fr 226 227 c c1 := by rw [hc1]; exact fr.I (by omega) (by omega)
  have f2 : fr 226 227 c1 c2 := by rw [hc2]; exact fr.I (by omega) (by omega)
  have hL2 := (hL.same f1.2.1 f1.2.2).same f2.2.1 f2.2.2
  obtain ⟨c', z, q1, q2, q3⟩ := k_so (h0 := h0) C hL2 ((hT.fr f1 (by omega)).fr f2 (by omega))
  refine ⟨c', z, ?_, ((f1.tr f2).wide (by omega) (by omega)).tr (q2.wide (by omega) (by omega)), q3, by rw [(q2.1 226 (by omega)).1, hc2, sI_o (by omega), hc1, sI_s], by rw [(q2.1 226 (by omega)).1, hc2, sI_s]⟩
  unfold jf_X4_begin
  simp (disch := omega) only [i32_lit, i32_neg, ksI, xbs]
  rw [← hc1, ← hc2, k_tks C hL2, xbs, q1, xbs]
theorem r_sts (H : MH ty M mm mi h0) (hT : TPr A F n) : ∃ I', jf_X12_starts ty (rst mm mi h0 M I A J) M (i32 (n : Nat)) = some (rst mm mi h0 M I' A J) ∧ RT I' F n 0 ∧ I' 1 = i32 0 ∧ I' 4 = i32 0 ∧ I' 5 = i32 (-1) ∧ ∀ k, k ∉ [1, 4, 5, 6, 7, 8, 9, 10] → I' k = I k := by
  obtain ⟨I1, hI1⟩ : ∃ I1, I1 = fu (fu (fu (fu (fu I 6 (i32 (n : Nat))) 1 (i32 0)) 4 (i32 0)) 5 (i32 (-1))) 7 (i32 0) := ⟨_, rfl⟩
  obtain ⟨I', q1, q2, q3⟩ := r_tok0 (J := J) (I := I1) H hT (by rw [hI1, fu_ne _ _ (by decide), fu_ne _ _ (by decide), fu_ne _ _ (by decide), fu_ne _ _ (by decide), fu_same]) (by rw [hI1, fu_same])
  refine ⟨I', ?_, q3, ?_, ?_, ?_, fun k hk => ?_⟩
  · unfold jf_X12_starts
    simp only [i32_lit, i32_neg, rsI, xbs]
    rw [← hI1, q1, xbs]
  · rw [q2 1 (by decide), hI1, fu_ne _ _ (by decide), fu_ne _ _ (by decide), fu_ne _ _ (by decide), fu_same]
  · rw [q2 4 (by decide), hI1, fu_ne _ _ (by decide), fu_ne _ _ (by decide), fu_same]
  · rw [q2 5 (by decide), hI1, fu_ne _ _ (by decide), fu_same]
  · simp only [List.mem_cons, List.not_mem_nil, or_false] at hk
    rw [q2 k (by simp only [List.mem_cons, List.not_mem_nil, or_false]; omega), hI1, fu_ne _ _ (by omega), fu_ne _ _ (by omega), fu_ne _ _ (by omega), fu_ne _ _ (by omega), fu_ne _ _ (by omega)]
theorem bw_0 (h : bwf b) : bw0 b := ⟨h.1, h.2.1, h.2.2.2.1⟩
theorem CB.nm {B : Nat} (h : CB c B b) : CNm c B b := ⟨h.1, h.2.1, h.2.2.2.1, h.2.2.2.2.1⟩
theorem RB.nm (h : RB I A b) : RNm I A 0 b := ⟨fun _ => ⟨h.1, h.2.1⟩, fun z => by omega, fun k hk => by rw [Nat.mul_zero, Nat.zero_add]; exact h.2.2.2.1 k hk, fun k hk => by rw [Nat.mul_zero, Nat.zero_add]; exact h.2.2.2.2.1 k hk⟩
theorem op_query (C : CH ty N) (H : MH ty M mm mi hB) (hg : gwf g) (hc : CRep c g) (hr : RRep I A g) {v : Int} (d1 : -2147483648 ≤ v) (d2 : v < 2147483648) :
    ∃ g', gwf g' ∧ OP N hA mm mi hB M J g' (jf_X11_query ty (cst N hA c) (N + 0) (i32 v)) (jf_X12_query ty (rst mm mi hB M I A J) M (i32 v)) := by
  have I2 : ∀ k, k ≠ 33 → k ≠ 2 → k ≠ 39 → fu I 2 (i32 0) k = I k := fun k _ h _ => fu_ne _ _ h
  have hr2 : RRep (fu I 2 (i32 0)) A g := hr.ks I2 keepA.rf
  have h700 := hg.2.2.2.2.2.2.1
  have htc := hc.2.2.2.2.2.1
  have htr := hr2.2.2.2.2.2.1
  unfold jf_X11_query jf_X12_query
  simp (disch := omega) only [rsI, xbs, i32_lit, i32_neg, i32_le, i32_lt, kI, htc.1, rI, htr.1]
  by_cases w : v < 0
  · simp only [eq_true w, if_true]
    exact ⟨g, hg, OP.ret hc hr _ _ I2 (fu_same _ _ _) rfl rfl⟩
  · simp only [eq_false w, if_false]
    obtain ⟨n, rfl⟩ : ∃ n : Nat, v = n := ⟨v.toNat, by omega⟩
    by_cases w2 : (n : Int) ≤ ((gtp g).1 : Int)
    · simp only [eq_true w2, if_true]
      obtain ⟨F, hF⟩ := tape_F hg.2.2.2.2.2.2.2.1
      have hu := hc.1.as.2.1
      obtain ⟨u1, u2, u3⟩ := ct_as hu
      have hB2 := hc.1.bk
      have hb0 := bw_0 hg.1
      obtain ⟨c1, hc1⟩ : ∃ c1, c1 = csI c 0 1 (i32 0) := ⟨_, rfl⟩
      have f1 : fr 0 1 c c1 := by rw [hc1]; exact fr.I (by omega) (by omega)
      have hL1 := hc.1.same f1.2.1 f1.2.2
      have hT1 : TPc c1 F n := ⟨by omega, fun k hk => ⟨(hF k (by omega)).1, by rw [(f1.1 1 (by omega)).2, htc.2 k (by omega), (hF k (by omega)).2]⟩⟩
      obtain ⟨c2, z, q1, q2, q3, q4, q5⟩ := k_beg (h0 := hA) C hL1 hT1
      have hL2 := hL1.same q2.2.1 q2.2.2
      have e5 : cR c1 0 5 = cR c 0 5 := by rw [f1.2.1]
      have e2 : cR c1 0 2 = cR c 0 2 := by rw [f1.2.1]
      have hN2 : CNm c2 (cR c 0 2) (gb g) := by
        have h1 := hc.2.1.nm
        unfold CNm at h1 ⊢
        rw [(q2.1 (cR c 0 2) (by omega)).1, (q2.1 (cR c 0 2 + 1) (by omega)).2, (q2.1 (cR c 0 2 + 2) (by omega)).2, (q2.1 (cR c 0 2 + 3) (by omega)).2, (f1.1 (cR c 0 2) (by omega)).1, (f1.1 (cR c 0 2 + 1) (by omega)).2, (f1.1 (cR c 0 2 + 2) (by omega)).2, (f1.1 (cR c 0 2 + 3) (by omega)).2]
        exact h1
      obtain ⟨c3, s1, s2, s3, s4⟩ := k_rdT (h0 := hA) (z := z) (j := 0) (lf := none) (l := cR c 0 5) C hb0 hL2 (B := cR c 0 2) (u := cR c 0 5) hB2 (by omega) (by omega) (fun _ h => by cases h) (fun _ h => by cases h) u1 u2 u3 hN2 q3 (fun _ h => by cases h)
      have hL3 := s2.ly hL2
      have fQ : frQ (cR c 0 5) (cR c 0 5 + 3) c c3 := ((frQ.o f1 (by omega)).tr (frQ.o q2 (by omega))).tr (frQ.P s2 (by omega) (by omega))
      have h01 : cI c3 0 1 = i32 0 := by rw [(s2.1 0 (by omega) (by omega) (by omega) (by omega)).1, (q2.1 0 (by omega)).1, hc1, sI_s]
      have hTr : TPr A F n := ⟨by omega, fun k hk => ⟨(hF k (by omega)).1, by rw [htr.2.1 k (by omega), (hF k (by omega)).2]⟩, htr.2.2⟩
      obtain ⟨I3, t1, t2, t3, t4, t5, t6⟩ := r_sts (J := J) (I := fu I 2 (i32 0)) H hTr
      have hNr : RNm I3 A 0 (gb g) := hr2.1.nm.keep (fun q hq => t6 q (by
        simp only [List.mem_cons, List.not_mem_nil, or_false] at hq ⊢
        omega)) (fun _ _ => rfl)
      obtain ⟨I4, A4, p1, p2, p3, p4, p5⟩ := r_trd (J := J) H hb0 (Or.inl rfl) hTr hNr (Or.inl ⟨rfl, rfl⟩) t2
      have hk4 : ∀ k ∈ [2, 12, 13, 14, 26, 28, 41, 56, 58, 59], I4 k = fu I 2 (i32 0) k := fun k hk => by
        simp only [List.mem_cons, List.not_mem_nil, or_false] at hk
        rw [p2 k (by simp only [List.mem_cons, List.not_mem_nil, or_false]; omega), t6 k (by simp only [List.mem_cons, List.not_mem_nil, or_false]; omega)]
      have hkA : ∀ k ∈ [0, 3, 18, 19, 20, 21, 22, 23, 24, 25, 27, 57], A4 k = A k := fun k hk => by
        simp only [List.mem_cons, List.not_mem_nil, or_false] at hk
        exact p3 k (by omega) (by omega)
      have h14 : I4 1 = i32 0 := by rw [p2 1 (by decide)]; exact t3
      have hRRd : ∀ (I' : Nat → Int32) (fl : Int × Int), (∀ k, k ≠ 4 → k ≠ 5 → I' k = I4 k) → I' 4 = i32 fl.1 → I' 5 = i32 fl.2 → RRep I' A4 (gFl g fl) := fun I' fl h1 h2 h3 => by
        have hq : ∀ k ∈ [12, 13, 14, 26, 28, 41, 56, 58, 59], I' k = fu I 2 (i32 0) k := fun k hk => by
          rw [h1 k (fun z => by subst z; revert hk; decide) (fun z => by subst z; revert hk; decide), hk4 k (List.mem_cons_of_mem _ hk)]
        refine rrep_rd hr2 hq (fun k hk => hkA k (by
          simp only [List.mem_cons, List.not_mem_nil, or_false] at hk ⊢
          omega)) (fun hR => ?_) (by rw [h1 1 (by decide) (by decide)]; exact h14) h2 h3
        unfold RB at hR ⊢
        rw [hq 12 (by decide), hq 13 (by decide), hq 14 (by decide), hkA 18 (by decide), hkA 19 (by decide), hkA 20 (by decide), hkA 21 (by decide), hkA 22 (by decide), hkA 23 (by decide), hkA 24 (by decide), hkA 25 (by decide)]
        exact hR
      have hsn : ∀ j, ((tk F n j).2.1 : Int) ≤ 1000 := fun j => by have := tk_st F n j; omega
      have e226 : xgo ty (cst N hA c1) (N + 0) 8 4 = some (N + 226) := k_sub C hL1 (show (0, 8, 226) ∈ lyL by decide) (by omega) (show ct 226 = some (0, 4) by decide)
      have eR0 : xR (cst N hA c1) (N + 0) 0 = some (N + 1) := by rw [kR (by omega), hL1.tp]
      have eo : jf_X4_readTerm ty (cst N hA c2) (N + 226) (N + cR c 0 2) (N + cR c 0 5) (N + cR c 0 5) 0 = some (bI (decide ((pT (tk F n) (gb g) none 13 0 [] []).1 = 0)), cst N hA c3) := s1
      simp (disch := omega) only [ksI, t1, xbs]
      rw [← hc1]
      simp (disch := omega) only [e226, eR0, xbs, k_book C hL1, k_spare C hL1, e5, e2]
      unfold jf_X4_readAlone
      rw [q1, xbs, eo, xb2s]
      have p1' : jf_X12_termRead ty (rst mm mi hB M I3 A J) M (i32 0) (i32 (-1)) = some (bI (decide ((pT (tk F n) (gb g) none 13 0 [] []).1 = 0)), rst mm mi hB M I4 A4 J) := p1
      rw [p1', xb2s]
      by_cases w3 : (pT (tk F n) (gb g) none 13 0 [] []).1 = 0
      · obtain ⟨x1, x2, x3, x4⟩ := s3 w3
        obtain ⟨y1, y2, y3, y4, y5⟩ := p4 w3
        obtain ⟨hwf, _⟩ := pT_wf0 hb0 w3
        rw [decide_eq_true w3]
        have nb : ¬ bI true = i32 0 := by decide
        have i5 := x2.2.2.2.2.2.2.1
        obtain ⟨kd1, kd2, kd3⟩ := r_kd y1
        have k61 := tk_k F n (pT (tk F n) (gb g) none 13 0 [] []).2.1
        simp (disch := omega) only [i32_lit, eq_false nb, if_false, k_tks C hL3, xbs, kI, i5, rI]
        by_cases w4 : (tk F n (pT (tk F n) (gb g) none 13 0 [] []).2.1).1 = 0
        · have w4' := kd2.mpr w4
          have w5 : i32 ((tk F n (pT (tk F n) (gb g) none 13 0 [] []).2.1).1 : Nat) = i32 0 := by rw [w4]; rfl
          have n10 : ¬ i32 1 = i32 0 := by decide
          simp only [eq_true w4', eq_true w5, if_true, xb2s, eq_false n10, if_false]
          obtain ⟨A5, z1, z2, z3⟩ := r_asks (J := J) H hwf.2.1 y2 y3
          have hc3 : CRep c3 (gFl g (0, -1)) := crep_rd hg hc fQ (Or.inl ⟨rfl, rfl⟩) h01 (x3.trans q4) (x4.trans q5)
          have hg3 : gwf (gFl g (0, -1)) := gFl_wf hg (by decide) (by decide) (by decide) (by decide)
          have iT : isT c3 (cR c3 0 5) 12 (bar (gb (gFl g (0, -1)))) (pT (tk F n) (gb g) none 13 0 [] []).2.2 := by rw [fQ.2.1]; exact x1
          have hsw := crep_swp hg3 hc3 iT
          have hRR := hRRd I4 (0, -1) (fun _ _ _ => rfl) (y4.trans t4) (y5.trans t5)
          refine ⟨gQ (gFl g (0, -1)) (pT (tk F n) (gb g) none 13 0 [] []).2.2, gQ_wf hg3 (Or.inr hwf), i32 (pT (tk F n) (gb g) none 13 0 [] []).2.2.length, swpQ c3, fu I4 28 (i32 (pT (tk F n) (gb g) none 13 0 [] []).2.2.length), A5, ?_, hsw, ?_, ?_, ?_⟩
          · rw [k_swp C hL3, xbs, k_ask C hsw.1, xbs, k_askn hsw]
            rfl
          · rw [z1, xbs, rI, fu_same]
          · exact rrep_q hRR (fun k hk => fu_ne _ _ (fun z => by subst z; revert hk; decide)) (fu_same _ _ _) (fun k hk => z2 k (fun z => by subst z; revert hk; decide)) z3
          · rw [fu_ne _ _ (by decide), hk4 2 (by decide), fu_same]
        · have w4' : ¬ I4 8 = i32 0 := fun h => w4 (kd2.mp h)
          have w5 : ¬ i32 ((tk F n (pT (tk F n) (gb g) none 13 0 [] []).2.1).1 : Nat) = i32 0 := by rw [i32_eq (by omega) (by omega) (by omega) (by omega)]; omega
          obtain ⟨c4, g1, g2, g3, g4⟩ := k_fail (h0 := hA) (f := 1) C hL3 x2
          obtain ⟨I5, m1, m2, m3⟩ := r_wr (ty := ty) (M := M) (mm := mm) (mi := mi) (h0 := hB) (A := A4) (J := J) (f := 1) y1
          have g1' : jf_X4_fail ty (cst N hA c3) (N + 226) (i32 1) = some (i32 0, cst N hA c4) := g1
          have m1' : jf_X12_wrong ty (rst mm mi hB M I4 A4 J) M (i32 1) = some (i32 0, rst mm mi hB M I5 A4 J) := m1
          simp only [eq_false w4', eq_false w5, if_false, g1', m1', xb2s, if_true]
          refine ⟨gFl g (1, ((tk F n (pT (tk F n) (gb g) none 13 0 [] []).2.1).2.1 : Nat)), gFl_wf hg (show (-1 : Int) ≤ 1 by decide) (show (1 : Int) ≤ 1000 by decide) (by simp only; omega) (hsn _), _, c4, I5, A4, rfl, crep_rd hg hc (fQ.tr (frQ.o g2 (by omega))) (Or.inl ⟨rfl, rfl⟩) ?_ g3.1 g3.2, rfl, hRRd I5 _ m2 m3.1 m3.2, ?_⟩
          · rw [(g2.1 0 (by omega)).1]; exact h01
          · rw [m2 2 (by decide) (by decide), hk4 2 (by decide), fu_same]
      · have x2 := s4 w3
        have y2 := p5 w3
        have hf5 := pT_f (T := tk F n) (b := gb g) (lf := none) 13 0 [] []
        rw [decide_eq_false w3]
        simp (disch := omega) only [i32_lit, show bI false = i32 0 from rfl, if_true, xb2s]
        refine ⟨gFl g (((pT (tk F n) (gb g) none 13 0 [] []).1 : Nat), ((tk F n (pT (tk F n) (gb g) none 13 0 [] []).2.1).2.1 : Nat)), gFl_wf hg (by simp only; omega) (by simp only; omega) (by simp only; omega) (hsn _), _, c3, I4, A4, rfl, crep_rd hg hc fQ (Or.inl ⟨rfl, rfl⟩) h01 x2.1 x2.2, rfl, hRRd I4 _ (fun _ _ _ => rfl) y2.1 y2.2, ?_⟩
        rw [hk4 2 (by decide), fu_same]
    · simp only [eq_false w2, if_false]
      exact ⟨g, hg, OP.ret hc hr _ _ I2 (fu_same _ _ _) rfl rfl⟩
end QUERY

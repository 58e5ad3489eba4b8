/-! TEXT: lines, in the model -/
section TEXTR
variable {ty : xTy} {N M : Nat} {hA hB h0 : xH} {mm mi : Nat → Nat} {c : CS} {I I' : Nat → Int32} {A A' : Nat → Nat → Int32} {J : Nat → Int64} {g : Sg} {b : Bk} {F : Nat → Nat} {n : Nat}
/-- the model reads a book -/
def RBr (I : Nat → Int32) (A : Nat → Nat → Int32) (b : Bk) : Prop := I 15 = i32 (bns b) ∧ I 16 = i32 (bnv b) ∧ I 17 = i32 (bnr b) ∧ (∀ k, k < bns b → A 18 (8 + k) = bsn b k ∧ A 19 (8 + k) = i32 (bsa b k)) ∧ (∀ k, k < bnv b → A 20 (4 + k) = bvn b k) ∧
  ∀ r, r < bnr b → A 21 (16 + r) = brn b r ∧ A 22 (16 + r) = i32 (bT b r).length ∧ seg (A 23) (12 * (16 + r)) (bT b r) ∧ A 24 (16 + r) = i32 (bU b r).length ∧ seg (A 25) (12 * (16 + r)) (bU b r)
theorem RBr.nm (h : RBr I A b) : RNm I A 1 b := ⟨fun z => by omega, fun _ => ⟨h.1, h.2.1⟩, fun k hk => h.2.2.2.1 k hk, fun k hk => h.2.2.2.2.1 k hk⟩
theorem RBr.keep (h : RBr I A b) (h1 : ∀ k ∈ [15, 16, 17], I' k = I k) (h2 : ∀ k ∈ [18, 19, 20, 21, 22, 23, 24, 25], A' k = A k) : RBr I' A' b := by
  unfold RBr at *
  rw [h1 15 (by decide), h1 16 (by decide), h1 17 (by decide), h2 18 (by decide), h2 19 (by decide), h2 20 (by decide), h2 21 (by decide), h2 22 (by decide), h2 23 (by decide), h2 24 (by decide), h2 25 (by decide)]
  exact h
def keepT (I I' : Nat → Int32) : Prop := ∀ k, k ∉ [4, 5, 7, 8, 9, 10, 11, 15, 16, 17, 30] → I' k = I k
theorem keepT.rf : keepT I I := fun _ _ => rfl
theorem keepT.tr {I1 I2 I3 : Nat → Int32} (h1 : keepT I1 I2) (h2 : keepT I2 I3) : keepT I1 I3 := fun k hk => (h2 k hk).trans (h1 k hk)
theorem keepT.fu {k : Nat} {v : Int32} (h : k ∈ [4, 5, 7, 8, 9, 10, 11, 15, 16, 17, 30]) : keepT I (fu I k v) := fun x hx => fu_ne _ _ (fun e => hx (e ▸ h))
theorem keepT.R (h : keepR I I') : keepT I I' := fun k hk => h k (fun e => hk (by
  simp only [List.mem_cons, List.not_mem_nil, or_false] at e ⊢
  omega))
def loH : Nat → Nat
  | 18 => 8 | 19 => 8 | 20 => 4 | 21 => 16 | 22 => 16 | 23 => 192 | 24 => 16 | 25 => 192 | _ => 0
theorem loH_n {k : Nat} (h : k ∉ [18, 19, 20, 21, 22, 23, 24, 25]) : loH k = 0 := by
  simp only [List.mem_cons, List.not_mem_nil, or_false, not_or] at h
  unfold loH
  split <;> first | omega | rfl
def lowA (A A' : Nat → Nat → Int32) : Prop := (∀ k, k ∉ [18, 19, 20, 21, 22, 23, 24, 25, 29, 31] → A' k = A k) ∧ ∀ k i, i < loH k → A' k i = A k i
theorem lowA.rf : lowA A A := ⟨fun _ _ => rfl, fun _ _ _ => rfl⟩
theorem lowA.tr {A1 A2 A3 : Nat → Nat → Int32} (h1 : lowA A1 A2) (h2 : lowA A2 A3) : lowA A1 A3 := ⟨fun k hk => (h2.1 k hk).trans (h1.1 k hk), fun k i hi => (h2.2 k i hi).trans (h1.2 k i hi)⟩
theorem lowA.fu {k i : Nat} {v : Int32} (h : k ∈ [18, 19, 20, 21, 22, 23, 24, 25, 29, 31]) (hi : loH k ≤ i) : lowA A (fu2 A k i v) := ⟨fun x hx => fu2_row A v (fun e => hx (e ▸ h)), fun x y hy => fu2_ne _ _ (by
  by_cases w : x = k
  · right
    rw [w] at hy
    omega
  · left; exact w)⟩
theorem lowA.R (h : ∀ q, q ≠ 29 → q ≠ 31 → A' q = A q) : lowA A A' := ⟨fun k hk => by
    simp only [List.mem_cons, List.not_mem_nil, or_false, not_or] at hk
    exact h k (by omega) (by omega), fun k i hi => by
    rw [h k (fun e => by rw [e] at hi; exact absurd hi (Nat.not_lt_zero i)) (fun e => by rw [e] at hi; exact absurd hi (Nat.not_lt_zero i))]⟩
theorem lowA.but {k : Nat} (h : but k A A') (hk : k ∈ [18, 19, 20, 21, 22, 23, 24, 25, 29, 31]) (hl : ∀ i, i < loH k → A' k i = A k i) : lowA A A' := ⟨fun x hx => h x (fun e => hx (e ▸ hk)), fun x y hy => by
  by_cases w : x = k
  · rw [w] at hy ⊢; exact hl y hy
  · rw [h x w]⟩
def LRr (F : Nat → Nat) (n : Nat) (I I' : Nat → Int32) (A A' : Nat → Nat → Int32) (p : Nat × Nat × Bk) : Prop := keepT I I' ∧ lowA A A' ∧ (p.1 = 0 → RT I' F n p.2.1 ∧ RBr I' A' p.2.2 ∧ I' 4 = I 4 ∧ I' 5 = I 5) ∧ (p.1 ≠ 0 → FLr I' p.1 (tk F n p.2.1).2.1)
theorem TPr.low (h : TPr A F n) (hl : lowA A A') : TPr A' F n := h.keep (hl.1 0 (by decide)) (hl.1 3 (by decide))
/-- what a line begins with -/
theorem r_kd3 {j : Nat} (hR : RT I F n j) : ((tk F n j).1 = 3 → I 8 = i32 1 ∧ I 9 = i32 0) ∧ ((tk F n j).1 = 4 → I 8 = i32 1 ∧ I 9 = i32 1) ∧ ((tk F n j).1 = 5 → I 8 = i32 1 ∧ I 9 = i32 2) ∧ ((tk F n j).1 ≠ 3 → (tk F n j).1 ≠ 4 → (tk F n j).1 ≠ 5 → I 8 ≠ i32 1) ∧ ((tk F n j).1 = 6 → I 8 = i32 3 ∧ ∃ W : Nat, I 9 = i32 (W : Nat) ∧ W ≤ 1000000 ∧ (tk F n j).2.2.1 = min 1000 W) ∧ ((tk F n j).1 ≠ 6 → I 8 ≠ i32 3) ∧ ((tk F n j).1 = 61 → I 8 = i32 5 ∧ I 9 = i32 2) ∧ ((tk F n j).1 ≠ 61 → ¬ (I 8 = i32 5 ∧ I 9 = i32 2)) := by
  have dn : ∀ x y : Int, x ∈ [(0 : Int), 1, 2, 3, 4, 5, 6] → y ∈ [(0 : Int), 1, 2, 3, 4, 5, 6] → x ≠ y → i32 x ≠ i32 y := by
    intro x y hx hy hxy
    simp only [List.mem_cons, List.not_mem_nil, or_false] at hx hy
    intro e
    rw [i32_eq (by omega) (by omega) (by omega) (by omega)] at e
    exact hxy e
  have key : ∀ (x : Int), x ∈ [(0 : Int), 1, 2, 3, 4, 5, 6] → I 8 = i32 x → (x ≠ 1 → I 8 ≠ i32 1) ∧ (x ≠ 3 → I 8 ≠ i32 3) ∧ (x ≠ 5 → I 8 ≠ i32 5) := by
    intro x hx h8
    rw [h8]
    exact ⟨dn x 1 hx (by decide), dn x 3 hx (by decide), dn x 5 hx (by decide)⟩
  rcases hR.2.1 with h | h | h | h | h | h | h | h | h
  · obtain ⟨k1, k2, k3⟩ := key 0 (by decide) h.2
    exact ⟨fun e => by omega, fun e => by omega, fun e => by omega, fun _ _ _ => k1 (by decide), fun e => by omega, fun _ => k2 (by decide), fun e => by omega, fun _ z => k3 (by decide) z.1⟩
  · rcases h.2 with e' | e' | e'
    · obtain ⟨k1, k2, k3⟩ := key 6 (by decide) e'
      exact ⟨fun e => by omega, fun e => by omega, fun e => by omega, fun _ _ _ => k1 (by decide), fun e => by omega, fun _ => k2 (by decide), fun e => by omega, fun _ z => k3 (by decide) z.1⟩
    · obtain ⟨k1, k2, k3⟩ := key 4 (by decide) e'.1
      exact ⟨fun e => by omega, fun e => by omega, fun e => by omega, fun _ _ _ => k1 (by decide), fun e => by omega, fun _ => k2 (by decide), fun e => by omega, fun _ z => k3 (by decide) z.1⟩
    · obtain ⟨k1, k2, k3⟩ := key 5 (by decide) e'.1
      exact ⟨fun e => by omega, fun e => by omega, fun e => by omega, fun _ _ _ => k1 (by decide), fun e => by omega, fun _ => k2 (by decide), fun e => by omega, fun _ z => e'.2 z.2⟩
  · obtain ⟨k1, k2, k3⟩ := key 2 (by decide) h.2.1
    exact ⟨fun e => by omega, fun e => by omega, fun e => by omega, fun _ _ _ => k1 (by decide), fun e => by omega, fun _ => k2 (by decide), fun e => by omega, fun _ z => k3 (by decide) z.1⟩
  · obtain ⟨k1, k2, k3⟩ := key 1 (by decide) h.2.1
    exact ⟨fun e => h.2, fun e => by omega, fun e => by omega, fun e => by omega, fun e => by omega, fun _ => k2 (by decide), fun e => by omega, fun _ z => k3 (by decide) z.1⟩
  · obtain ⟨k1, k2, k3⟩ := key 1 (by decide) h.2.1
    exact ⟨fun e => by omega, fun e => h.2, fun e => by omega, fun _ e => by omega, fun e => by omega, fun _ => k2 (by decide), fun e => by omega, fun _ z => k3 (by decide) z.1⟩
  · obtain ⟨k1, k2, k3⟩ := key 1 (by decide) h.2.1
    exact ⟨fun e => by omega, fun e => by omega, fun e => h.2, fun _ _ e => by omega, fun e => by omega, fun _ => k2 (by decide), fun e => by omega, fun _ z => k3 (by decide) z.1⟩
  · obtain ⟨k1, k2, k3⟩ := key 3 (by decide) h.2.1
    exact ⟨fun e => by omega, fun e => by omega, fun e => by omega, fun _ _ _ => k1 (by decide), fun e => h.2, fun e => by omega, fun e => by omega, fun _ z => k3 (by decide) z.1⟩
  · obtain ⟨k1, k2, k3⟩ := key 4 (by decide) h.2.1
    exact ⟨fun e => by omega, fun e => by omega, fun e => by omega, fun _ _ _ => k1 (by decide), fun e => by omega, fun _ => k2 (by decide), fun e => by omega, fun _ z => k3 (by decide) z.1⟩
  · obtain ⟨k1, k2, k3⟩ := key 5 (by decide) h.2.1
    exact ⟨fun e => by omega, fun e => by omega, fun e => by omega, fun _ _ _ => k1 (by decide), fun e => by omega, fun _ => k2 (by decide), fun e => h.2, fun e => by omega⟩
theorem r_flL {j f : Nat} (hR : RT I F n j) (hf : f ≠ 0) {b' : Bk} : ∃ I', (xb2 (jf_X12_wrong ty (rst mm mi h0 M I A J) M (i32 (f : Nat))) fun a h => (xz a).bind fun w => some (w, h)) = some (bI (decide (f = 0)), rst mm mi h0 M I' A J) ∧ LRr F n I I' A A (f, j, b') := by
  obtain ⟨I', q1, q2, q3⟩ := r_wr (ty := ty) (M := M) (mm := mm) (mi := mi) (h0 := h0) (A := A) (J := J) (f := f) hR
  exact ⟨I', by rw [q1, xb2s, xz0, xbs, decide_eq_false hf]; rfl, keepT.R (keepR.W q2), lowA.rf, fun e => absurd e hf, fun _ => q3⟩
theorem r_sgL (H : MH ty M mm mi h0) (hb : bwf b) {j : Nat} (hT : TPr A F n) (hR : RT I F n j) (hB : RBr I A b) (hne : (tk F n j).1 ≠ 1) : ∃ I' A', jf_X12_signLine ty (rst mm mi h0 M I A J) M = some (bI (decide ((sgL (tk F n) b j).1 = 0)), rst mm mi h0 M I' A' J) ∧ LRr F n I I' A A' (sgL (tk F n) b j) := by
  have h8 := hb.1
  have hb0 := bw_0 hb
  unfold jf_X12_signLine
  simp only [rI, hB.1, i32_lit]
  by_cases w0 : bns b = 8
  · have w0' : i32 (bns b : Nat) = i32 8 := by rw [w0]; rfl
    have e : sgL (tk F n) b j = (2, j, b) := by unfold sgL; rw [if_pos w0]
    rw [e]
    simp only [eq_true w0', if_true]
    obtain ⟨I', q1, q2⟩ := r_flL (ty := ty) (M := M) (mm := mm) (mi := mi) (h0 := h0) (A := A) (J := J) (b' := b) hR (show (2 : Nat) ≠ 0 by decide)
    exact ⟨I', A, q1, q2⟩
  · have w0' : ¬ i32 (bns b : Nat) = i32 8 := by rw [i32_eq (by omega) (by omega) (by omega) (by omega)]; omega
    obtain ⟨I1, a1, a2, a3⟩ := r_tok (J := J) H hT hR hne
    obtain ⟨kd1, kd2, kd3⟩ := r_kd a3
    have hB1 : RBr I1 A b := hB.keep (fun k hk => a2 k (by
      simp only [List.mem_cons, List.not_mem_nil, or_false] at hk ⊢
      omega)) (fun _ _ => rfl)
    have k1 : keepT I I1 := keepT.R (keepR.K a2)
    simp only [eq_false w0', if_false, a1, xbs, rI]
    unfold sgL
    rw [if_neg w0]
    by_cases w1 : (tk F n (j + 1)).1 = 2
    · rw [if_neg (show ¬ (tk F n (j + 1)).1 ≠ 2 from fun e => e w1)]
      have w1' := kd1.mpr w1
      have e9 : I1 9 = tkV (tk F n) (j + 1) := kd3 w1
      have ecd : jf_X12_codeBy ty (rst mm mi h0 M I1 A J) M (i32 1) (tkV (tk F n) (j + 1)) = some (i32 (lkN b (tkV (tk F n) (j + 1)))) := r_cdN H (v := 1) (Or.inr rfl) hb0 hB1.nm _
      have hr := lkN_rg ⟨h8, hb.2.1⟩ (tkV (tk F n) (j + 1))
      have hr2 : -1 ≤ lkN b (tkV (tk F n) (j + 1)) ∧ lkN b (tkV (tk F n) (j + 1)) < 1000 := by
        have := hb.2.1
        unfold vc at hr; omega
      simp only [eq_true w1', if_true, e9, ecd, xbs]
      by_cases w2 : lkN b (tkV (tk F n) (j + 1)) = -1
      · rw [if_neg (show ¬ lkN b (tkV (tk F n) (j + 1)) ≠ -1 from fun e => e w2)]
        have w2' : i32 (lkN b (tkV (tk F n) (j + 1))) < i32 0 := by rw [w2]; decide
        obtain ⟨A2, hA2⟩ : ∃ A2, A2 = fu2 A 18 (8 + bns b) (tkV (tk F n) (j + 1)) := ⟨_, rfl⟩
        have l2 : lowA A A2 := by rw [hA2]; exact lowA.fu (by decide) (by show 8 ≤ 8 + bns b; omega)
        have hT2 := hT.low l2
        obtain ⟨I3, t1, t2, t3'⟩ := r_tok (J := J) H hT2 a3 (by omega)
        have t3 : RT I3 F n (j + 2) := t3'
        have k3 : keepT I I3 := k1.tr (keepT.R (keepR.K t2))
        have hw : xwa 1 ty (rst mm mi h0 M I1 A J) (mm 18) (i32 8 + i32 (bns b : Nat)) (tkV (tk F n) (j + 1)) = some (rst mm mi h0 M I1 A2 J) := by
          rw [i32_add, show (8 : Int) + (bns b : Int) = ((8 + bns b : Nat) : Int) by omega, wa_18 H (by omega) (by omega), Int.toNat_natCast, ← hA2]
        simp only [eq_true w2', if_true, rr_18 H, xbs, hB1.1, hw, t1]
        obtain ⟨_, _, _, _, d5, d6, _, _⟩ := r_kd3 t3
        by_cases w3 : (tk F n (j + 2)).1 = 6
        · rw [if_neg (show ¬ (tk F n (j + 2)).1 ≠ 6 from fun e => e w3)]
          obtain ⟨e8, W, eW, hW, hV⟩ := d5 w3
          clear d5
          have hin : jf_X12_isIn (i32 (W : Nat)) (i32 0) (i32 3) = some (bI (decide (W ≤ 3))) := by
            unfold jf_X12_isIn
            simp (disch := omega) only [i32_lit, i32_lt]
            by_cases w : W ≤ 3
            · rw [decide_eq_true w]
              rw [if_neg (by omega), if_neg (by omega)]
              rfl
            · rw [decide_eq_false w]
              rw [if_neg (by omega), if_pos (by omega)]
              rfl
          by_cases w4 : 3 < (tk F n (j + 2)).2.2.1
          · rw [if_pos w4]
            obtain ⟨I4, r1, r2⟩ := r_flL (ty := ty) (M := M) (mm := mm) (mi := mi) (h0 := h0) (A := A2) (J := J) (b' := b) t3 (show (2 : Nat) ≠ 0 by decide)
            have r1' : (xb2 (jf_X12_wrong ty (rst mm mi h0 M I3 A2 J) M (i32 2)) fun a h => (xz a).bind fun w => some (w, h)) = some (i32 0, rst mm mi h0 M I4 A2 J) := r1
            have hnum : jf_X12_number ty (rst mm mi h0 M I3 A2 J) M (i32 0) (i32 3) = some (i32 0, rst mm mi h0 M I4 A2 J) := by
              unfold jf_X12_number
              simp only [rI, i32_lit, e8, if_true, eW, hin, xbs, bI_eq0, decide_eq_false (show ¬ W ≤ 3 by omega)]
              exact r1'
            rw [hnum, xb2s]
            simp only [if_true]
            exact ⟨I4, A2, rfl, k3.tr r2.1, l2, fun e => (by cases e), r2.2.2.2⟩
          · rw [if_neg w4]
            have hWv : (tk F n (j + 2)).2.2.1 = W := by omega
            obtain ⟨I4, hI4⟩ : ∃ I4, I4 = fu I3 11 (i32 (W : Nat)) := ⟨_, rfl⟩
            have hR4 : RT I4 F n (j + 2) := by
              unfold RT TR at *
              rw [hI4, fu_ne _ _ (by decide), fu_ne _ _ (by decide), fu_ne _ _ (by decide), fu_ne _ _ (by decide), fu_ne _ _ (by decide)]
              exact t3
            obtain ⟨I5, g1, g2, g3⟩ := r_tok (J := J) H hT2 hR4 (by omega)
            have hnum : jf_X12_number ty (rst mm mi h0 M I3 A2 J) M (i32 0) (i32 3) = some (i32 1, rst mm mi h0 M I5 A2 J) := by
              unfold jf_X12_number
              simp only [rI, i32_lit, e8, if_true, eW, hin, xbs, bI_eq0, decide_eq_true (show W ≤ 3 by omega), Bool.true_eq_false, if_false, rsI]
              rw [← hI4, g1, xbs]
            have n10 : ¬ i32 1 = i32 0 := by decide
            have e11 : I5 11 = i32 (W : Nat) := by rw [g2 11 (by decide), hI4, fu_same]
            have kk : ∀ k, k ∈ [15, 16, 17, 4, 5] → I5 k = I k := fun k hk => by
              simp only [List.mem_cons, List.not_mem_nil, or_false] at hk
              rw [g2 k (by simp only [List.mem_cons, List.not_mem_nil, or_false]; omega), hI4, fu_ne _ _ (by omega), t2 k (by simp only [List.mem_cons, List.not_mem_nil, or_false]; omega), a2 k (by simp only [List.mem_cons, List.not_mem_nil, or_false]; omega)]
            obtain ⟨A6, hA6⟩ : ∃ A6, A6 = fu2 A2 19 (8 + bns b) (i32 (W : Nat)) := ⟨_, rfl⟩
            have l6 : lowA A2 A6 := by rw [hA6]; exact lowA.fu (by decide) (by show 8 ≤ 8 + bns b; omega)
            obtain ⟨I6, hI6⟩ : ∃ I6, I6 = fu I5 15 (i32 ((bns b + 1 : Nat) : Int)) := ⟨_, rfl⟩
            have hw6 : xwa 1 ty (rst mm mi h0 M I5 A2 J) (mm 19) (i32 8 + i32 (bns b : Nat)) (i32 (W : Nat)) = some (rst mm mi h0 M I5 A6 J) := by
              rw [i32_add, show (8 : Int) + (bns b : Int) = ((8 + bns b : Nat) : Int) by omega, wa_19 H (by omega) (by omega), Int.toNat_natCast, ← hA6]
            have e15 : I5 15 = i32 (bns b : Nat) := by rw [kk 15 (by decide)]; exact hB.1
            refine ⟨I6, A6, ?_, ?_, l2.tr l6, fun _ => ⟨?_, ?_, ?_, ?_⟩, fun e => absurd rfl e⟩
            · rw [hnum, xb2s]
              simp only [eq_false n10, if_false, rr_19 H, xbs, rI, e15, e11, hw6, rsI]
              simp only [i32_add]
              rw [show (bns b : Int) + 1 = ((bns b + 1 : Nat) : Int) by omega, ← hI6]
              rfl
            · exact ((k3.tr (by rw [hI4]; exact keepT.fu (by decide))).tr (keepT.R (keepR.K g2))).tr (by rw [hI6]; exact keepT.fu (by decide))
            · show RT I6 F n (j + 3)
              unfold RT TR at *
              rw [hI6, fu_ne _ _ (by decide), fu_ne _ _ (by decide), fu_ne _ _ (by decide), fu_ne _ _ (by decide), fu_ne _ _ (by decide)]
              exact g3
            · show RBr I6 A6 (bAddS b (tkV (tk F n) (j + 1)) (tk F n (j + 2)).2.2.1)
              rw [hWv]
              have hr6 : ∀ k, k ≠ 18 → k ≠ 19 → A6 k = A k := fun k x1 x2 => by rw [hA6, fu2_row _ _ x2, hA2, fu2_row _ _ x1]
              refine ⟨by rw [hI6, fu_same]; rfl, by rw [hI6, fu_ne _ _ (by decide), kk 16 (by decide)]; exact hB.2.1, by rw [hI6, fu_ne _ _ (by decide), kk 17 (by decide)]; exact hB.2.2.1, fun k hk => ?_, fun k hk => by rw [hr6 20 (by decide) (by decide)]; exact hB.2.2.2.2.1 k hk, fun r hr => by rw [hr6 21 (by decide) (by decide), hr6 22 (by decide) (by decide), hr6 23 (by decide) (by decide), hr6 24 (by decide) (by decide), hr6 25 (by decide) (by decide)]; exact hB.2.2.2.2.2 r hr⟩
              show A6 18 (8 + k) = fu (bsn b) (bns b) (tkV (tk F n) (j + 1)) k ∧ A6 19 (8 + k) = i32 ((fu (bsa b) (bns b) W k : Nat) : Int)
              have hk' : k < bns b + 1 := hk
              rw [hA6, fu2_row _ _ (by decide)]
              by_cases w : k = bns b
              · rw [w, fu_same, fu_same, fu2_same, hA2, fu2_same]; exact ⟨rfl, rfl⟩
              · rw [fu_ne _ _ w, fu_ne _ _ w, fu2_ne _ _ (by omega), hA2, fu2_ne _ _ (by omega), fu2_ne _ _ (by omega)]
                exact hB.2.2.2.1 k (by omega)
            · show I6 4 = I 4
              rw [hI6, fu_ne _ _ (by decide), kk 4 (by decide)]
            · show I6 5 = I 5
              rw [hI6, fu_ne _ _ (by decide), kk 5 (by decide)]
        · rw [if_pos w3]
          obtain ⟨I4, r1, r2⟩ := r_flL (ty := ty) (M := M) (mm := mm) (mi := mi) (h0 := h0) (A := A2) (J := J) (b' := b) t3 (show (1 : Nat) ≠ 0 by decide)
          have r1' : (xb2 (jf_X12_wrong ty (rst mm mi h0 M I3 A2 J) M (i32 1)) fun a h => (xz a).bind fun w => some (w, h)) = some (i32 0, rst mm mi h0 M I4 A2 J) := r1
          have e8 := d6 w3
          clear d5
          have hnum : jf_X12_number ty (rst mm mi h0 M I3 A2 J) M (i32 0) (i32 3) = some (i32 0, rst mm mi h0 M I4 A2 J) := by
            unfold jf_X12_number
            simp only [rI, i32_lit, eq_false e8, if_false]
            exact r1'
          rw [hnum, xb2s]
          simp only [if_true]
          exact ⟨I4, A2, rfl, k3.tr r2.1, l2, fun e => (by cases e), r2.2.2.2⟩
      · rw [if_pos w2]
        have w2' : ¬ i32 (lkN b (tkV (tk F n) (j + 1))) < i32 0 := by rw [i32_lt (by omega) (by omega) (by omega) (by omega)]; omega
        simp only [eq_false w2', if_false]
        obtain ⟨I4, r1, r2⟩ := r_flL (ty := ty) (M := M) (mm := mm) (mi := mi) (h0 := h0) (A := A) (J := J) (b' := b) a3 (show (3 : Nat) ≠ 0 by decide)
        exact ⟨I4, A, r1, k1.tr r2.1, r2.2.1, fun e => (by cases e), r2.2.2.2⟩
    · rw [if_pos w1]
      have w1' : ¬ I1 8 = i32 2 := fun e => w1 (kd1.mp e)
      simp only [eq_false w1', if_false]
      obtain ⟨I4, r1, r2⟩ := r_flL (ty := ty) (M := M) (mm := mm) (mi := mi) (h0 := h0) (A := A) (J := J) (b' := b) a3 (show (1 : Nat) ≠ 0 by decide)
      exact ⟨I4, A, r1, k1.tr r2.1, r2.2.1, fun e => (by cases e), r2.2.2.2⟩
end TEXTR

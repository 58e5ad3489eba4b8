/-! take, put -/
section TURN
variable {ty : xTy} {N M : Nat} {hA hB h0 : xH} {mm mi : Nat → Nat} {c : CS} {I : Nat → Int32} {A : Nat → Nat → Int32} {J : Nat → Int64} {g : Sg} {b : Bk}
theorem inR_x (z r k : Nat) : inR (z ^^^ 2 ^ r) k = (inR z k ^^ decide (r = k)) := by
  unfold inR
  rw [Nat.testBit_xor, Nat.testBit_two_pow]
theorem inL_cong {z w : Nat} : ∀ m, (∀ k, k < m → inR z k = inR w k) → inL z m = inL w m := by
  intro m h
  unfold inL
  exact List.filter_congr (fun k hk => h k (List.mem_range.mp hk))
theorem inL_perm {z r : Nat} (hr : inR z r = true) : ∀ m, r < m → (inL z m).Perm (r :: inL (z ^^^ 2 ^ r) m)
  | 0, h => by omega
  | m + 1, h => by
    rw [inL_succ, inL_succ, inR_x]
    by_cases e : r = m
    · subst e
      have hc : inL (z ^^^ 2 ^ r) r = inL z r := inL_cong r (fun k hk => by rw [inR_x, decide_eq_false (by omega)]; simp)
      rw [hr, decide_eq_true rfl, hc]
      simp only [if_true, Bool.xor_true, Bool.not_true, Bool.false_eq_true, if_false]
      exact List.perm_append_singleton _ _
    · have ih := inL_perm hr m (by omega)
      rw [decide_eq_false e, Bool.xor_false]
      split
      · exact ih.append_right [m]
      · exact ih
theorem dcn_cons_le (E : Nat → Nat → Bool) (x : Nat) (l : List Nat) : dcn E l ≤ dcn E (x :: l) := by
  simp only [dcn]
  omega
theorem nd_mono {z r : Nat} (hr : inR z r = true) (hb : r < bnr b) (n : Nat) : nd b (z ^^^ 2 ^ r) n ≤ nd b z n := by
  unfold nd
  have h1 : dcn (shE b n) (inL z (bnr b)).reverse = dcn (shE b n) (r :: (inL (z ^^^ 2 ^ r) (bnr b)).reverse) := by
    refine dcn_perm _ ?_ ?_ ?_
    · intro x y; unfold shE; rw [shp_comm]
    · intro x y w h1 h2
      unfold shE at *
      rw [decide_eq_true_iff] at *
      exact shp_trs _ _ _ _ h1 h2
    · exact (List.reverse_perm _).trans ((inL_perm hr _ hb).trans ((List.reverse_perm _).symm.cons r))
  rw [h1]
  exact dcn_cons_le _ _ _
theorem ndS_mono {z r : Nat} (hr : inR z r = true) (hb : r < bnr b) : ∀ m, ndS b (z ^^^ 2 ^ r) m ≤ ndS b z m
  | 0 => Nat.le_refl _
  | m + 1 => by
    have := ndS_mono hr hb m
    have := nd_mono hr hb (m + 1)
    simp only [ndS]
    omega
/-- what is kept of what was so ahead -/
def rmb (us : List Nat) (z : Nat) : List Nat := (if us.length = 20 then us.tail else us) ++ [z]
theorem rmb_len {us : List Nat} {z : Nat} (h : us.length ≤ 20) : (rmb us z).length ≤ 20 := by
  unfold rmb
  split <;> simp <;> omega
theorem rmb_mem {us : List Nat} {z x : Nat} (h : x ∈ rmb us z) : x ∈ us ∨ x = z := by
  unfold rmb at h
  simp only [List.mem_append, List.mem_singleton] at h
  rcases h with h | h
  · split at h
    · exact Or.inl (List.mem_of_mem_tail h)
    · exact Or.inl h
  · exact Or.inr h
theorem k_forg2 (C : CH ty N) {f : Nat → Int32} {fI : Nat → Int32} : ∀ (k i : Nat) (c : CS), i + k = 20 → 1 ≤ i → LY c → (∀ j, j + 1 < i → cA c 233 j = f (j + 1)) → (∀ j, i ≤ j + 1 → cA c 233 j = f j) → (∀ j, cI c 232 j = fI j) →
    ∃ c', jf_X6_forgetFirst_2 ty (k + 1) (N + 232) (i32 i) (cst N h0 c) = some (cst N h0 c') ∧ fr 232 234 c c' ∧ (∀ j, j < 19 → cA c' 233 j = f (j + 1)) ∧ cI c' 232 3 = i32 19 ∧ ∀ j, j ≠ 3 → cI c' 232 j = fI j := by
  intro k
  induction k with
  | zero =>
    intro i c h1 h2 hl s1 s2 s3
    refine ⟨csI c 232 3 (i32 19), ?_, fr.I (by omega) (by omega), fun j hj => s1 j (by omega), sI_s, fun j hj => by rw [sI_o (Or.inr hj)]; exact s3 j⟩
    rw [jf_X6_forgetFirst_2_s]
    simp (disch := omega) only [i32_lit, i32_neg, i32_add, i32_sub, i32_mul, i32_lt, i32_le, i32_eq, if_pos, ksI, xbs]
  | succ k ih =>
    intro i c h1 h2 hl s1 s2 s3
    have h233 : cR c 232 0 = 233 := hl.1 _ (show (232, 0, 233) ∈ lyL by decide)
    obtain ⟨c1, hc1⟩ : ∃ c1, c1 = csA c 233 (i - 1) (f i) := ⟨_, rfl⟩
    have f1 : fr 232 234 c c1 := by rw [hc1]; exact fr.A (by omega) (by omega)
    obtain ⟨c', q1, q2, q3⟩ := ih (i + 1) c1 (by omega) (by omega) (hl.same f1.2.1 f1.2.2)
      (fun j hj => by
        rw [hc1]
        rcases Nat.lt_or_ge (j + 1) i with h | h
        · rw [sA_n (by omega)]; exact s1 j h
        · rw [show j = i - 1 by omega, sA_s, show i - 1 + 1 = i by omega])
      (fun j hj => by rw [hc1, sA_n (by omega)]; exact s2 j (by omega))
      (fun j => by rw [hc1]; exact s3 j)
    refine ⟨c', ?_, f1.tr q2, q3⟩
    rw [jf_X6_forgetFirst_2_s, ← q1]
    simp (disch := omega) only [i32_lit, i32_neg, i32_add, i32_sub, i32_mul, i32_lt, i32_le, i32_eq, if_neg, kR, h233, xbs, kga C (show ct 233 = some (1, 20) by decide), kwa C (show ct 233 = some (1, 20) by decide), Int.toNat_natCast, s2 i (by omega)]
    rw [show ((i : Int) - 1).toNat = i - 1 by omega, ← hc1, show (i : Int) + 1 = ((i + 1 : Nat) : Int) by omega]
theorem k_turn (C : CH ty N) (hg : gwf g) (hc : CRep c g) {r : Nat} (hr : r < bnr (gb g)) : ∃ c', jf_X6_turn ty (cst N h0 c) (N + 232) (i32 r) = some (cst N h0 c') ∧ fr 232 234 c c' ∧ CSt c' (gSt g (gin g ^^^ 2 ^ r) (rmb (gun g) (gin g))) := by
  have h16 := hg.1.2.2.1
  have hS := hc.2.2.2.1
  have h20 := hg.2.2.2.1
  obtain ⟨ts, t1, t2⟩ := hS.2.2.1
  have htl := turns_len _ _ _ t2
  obtain ⟨c1, hc1⟩ : ∃ c1, c1 = csI c 232 4 (i32 (gin g ^^^ 2 ^ r : Nat)) := ⟨_, rfl⟩
  have f1 : fr 232 234 c c1 := by rw [hc1]; exact fr.I (by omega) (by omega)
  have hbits : i32 (gin g : Nat) ^^^ (i32 1 <<< (i32 (r : Nat) &&& i32 31)) = i32 (gin g ^^^ 2 ^ r : Nat) := by
    rw [show i32 31 = (31 : Int32) from rfl, i32_shl1 r (by omega), i32_xor]
  have tail25 : ∀ (c2 : CS) (us ts : List Nat), fr 232 234 c c2 → LY c2 → us.length ≤ 19 → ts.length = us.length → seg (cA c2 233) 0 ts → turns us (gin g) ts → cI c2 232 3 = i32 us.length → cI c2 232 4 = i32 (gin g ^^^ 2 ^ r : Nat) → (∀ j, j ≠ 3 → j ≠ 4 → cI c2 232 j = cI c 232 j) →
      ∃ c', jf_X6_turn_25 ty (N + 232) (i32 r) (cst N h0 c2) = some (cst N h0 c') ∧ fr 232 234 c c' ∧ CSt c' (gSt g (gin g ^^^ 2 ^ r) (us ++ [gin g])) := by
    intro c2 us ts g1 gl g2 g3 g4 g5 g6 g7 g8
    have h233 : cR c2 232 0 = 233 := gl.1 _ (show (232, 0, 233) ∈ lyL by decide)
    obtain ⟨c3, hc3⟩ : ∃ c3, c3 = csA c2 233 us.length (i32 r) := ⟨_, rfl⟩
    obtain ⟨c4, hc4⟩ : ∃ c4, c4 = csI c3 232 3 (i32 ((us.length + 1 : Nat) : Int)) := ⟨_, rfl⟩
    have f3 : fr 232 234 c2 c3 := by rw [hc3]; exact fr.A (by omega) (by omega)
    have f4 : fr 232 234 c3 c4 := by rw [hc4]; exact fr.I (by omega) (by omega)
    refine ⟨c4, ?_, (g1.tr f3).tr f4, ?_, ?_, ⟨ts ++ [r], ?_, ?_⟩, ?_, fun x hx => ?_⟩
    · unfold jf_X6_turn_25
      have e3 : cI c3 232 3 = i32 us.length := by rw [hc3]; exact g6
      simp (disch := omega) only [kI, g6, i32_lit, i32_neg, i32_add, i32_sub, i32_mul, i32_lt, i32_le, i32_eq, if_neg, kR, h233, xbs, kwa C (show ct 233 = some (1, 20) by decide), Int.toNat_natCast]
      rw [← hc3]
      simp (disch := omega) only [kI, e3, ksI, i32_lit, i32_neg, i32_add, i32_sub, i32_mul, i32_lt, i32_le, i32_eq]
      rw [show (us.length : Int) + 1 = ((us.length + 1 : Nat) : Int) by omega, ← hc4]
    · rw [hc4, sI_o (by omega), hc3]; exact g7
    · rw [hc4, sI_s]; simp [gSt, gun]
    · rw [hc4, hc3]
      refine seg_snoc ?_ ?_
      · exact sA_seg g4 (by omega)
      · rw [Nat.zero_add, g3]; exact sA_s
    · refine turns_snoc us (gin g) _ ts r g5 ?_ (by omega)
      rw [Nat.one_shiftLeft]; rfl
    · rw [hc4, sI_o (by omega), hc3]; rw [show ∀ q k, cI (csA c2 233 us.length (i32 r)) q k = cI c2 q k from fun _ _ => rfl, g8 2 (by decide) (by decide)]; exact hS.2.2.2.1
    · rw [hc4, sI_o (by omega), hc3, show ∀ q k, cI (csA c2 233 us.length (i32 r)) q k = cI c2 q k from fun _ _ => rfl, g8 1 (by decide) (by decide)]; exact hS.2.2.2.2 x hx
  have hL1 := hc.1.same f1.2.1 f1.2.2
  have c13 : cI c1 232 3 = i32 (gun g).length := by rw [hc1, sI_o (by omega)]; exact hS.2.1
  have c14 : cI c1 232 4 = i32 (gin g ^^^ 2 ^ r : Nat) := by rw [hc1, sI_s]
  have c1j : ∀ j, j ≠ 4 → cI c1 232 j = cI c 232 j := fun j hj => by rw [hc1, sI_o (Or.inr hj)]
  have c1s : seg (cA c1 233) 0 ts := by rw [hc1]; exact t1
  unfold jf_X6_turn
  simp (disch := omega) only [kI, hS.1, i32_lit, hbits, ksI, xbs]
  rw [← hc1]
  simp (disch := omega) only [kI, c13, i32_lt]
  by_cases w : (gun g).length = 20
  · rw [if_neg (by omega)]
    cases hu : gun g with
    | nil => rw [hu] at w; simp at w
    | cons x us =>
      rw [hu] at w t2 htl
      cases ts with
      | nil => simp at htl
      | cons t ts =>
        simp only [List.length_cons] at w htl
        simp only [turns] at t2
        obtain ⟨c2, q1, q2, q3, q4, q5⟩ := k_forg2 (h0 := h0) C (f := cA c1 233) (fI := cI c1 232) 19 1 c1 (by omega) (by omega) hL1 (fun j hj => by omega) (fun j hj => rfl) (fun j => rfl)
        have q1' : jf_X6_forgetFirst ty (cst N h0 c1) (N + 232) = some (cst N h0 c2) := jf_X6_forgetFirst_2_l q1
        have hseg : seg (cA c2 233) 0 ts := by
          intro i d hd
          have hi : i < ts.length := (List.getElem?_eq_some_iff.mp hd).1
          rw [Nat.zero_add, q3 i (by omega)]
          have := c1s (i + 1) d (by rw [List.getElem?_cons_succ]; exact hd)
          rw [Nat.zero_add] at this
          exact this
        obtain ⟨c', p1, p2, p3⟩ := tail25 c2 us ts (f1.tr q2) (hL1.same q2.2.1 q2.2.2) (by omega) (by omega) hseg t2.2.2 (by rw [q4]; congr 1; omega) (by rw [q5 4 (by decide)]; exact c14) (fun j h3 h4 => by rw [q5 j h3, c1j j h4])
        refine ⟨c', ?_, p2, ?_⟩
        · rw [q1', xbs, p1]
        · have : rmb (x :: us) (gin g) = us ++ [gin g] := by unfold rmb; rw [if_pos (by simp; omega)]; rfl
          rw [this]; exact p3
  · rw [if_pos (by omega)]
    obtain ⟨c', p1, p2, p3⟩ := tail25 c1 (gun g) ts f1 hL1 (by omega) htl c1s t2 c13 c14 (fun j _ h4 => c1j j h4)
    refine ⟨c', p1, p2, ?_⟩
    have : rmb (gun g) (gin g) = gun g ++ [gin g] := by unfold rmb; rw [if_neg w]
    rw [this]; exact p3
theorem k_turned (C : CH ty N) (hg : gwf g) (hc : CRep c g) {r : Nat} (hr : r < bnr (gb g)) (hg' : gwf (gSt g (gin g ^^^ 2 ^ r) (rmb (gun g) (gin g)))) : ∃ c', jf_X11_turnedNodes ty (cst N h0 c) (N + 0) (i32 r) = some (xabs (i32 (ndS (gb g) (gin g ^^^ 2 ^ r) 12 : Nat) - i32 (ndS (gb g) (gin g) 12 : Nat)), cst N h0 c') ∧ CRep c' (gSt g (gin g ^^^ 2 ^ r) (rmb (gun g) (gin g))) := by
  obtain ⟨c1, q1, q2, q3⟩ := k_turn (h0 := h0) C hg hc hr
  have hL1 : LY c1 := hc.1.same q2.2.1 q2.2.2
  have hB1 : CB c1 (cR c 0 2) (gb g) := hc.2.1.keep hg.1.2.2.1 (fun q a1 a2 => ⟨(q2.1 q (by have := hc.1.bk; omega)).1, (q2.1 q (by have := hc.1.bk; omega)).2, by rw [q2.2.1]⟩)
  obtain ⟨c2, p1, p2, p3⟩ := k_plant (h0 := h0) C hg.1 hc.1.bk hg'.z hL1 hB1 q3.1
  have hc2 : CRep c2 (gSt g (gin g ^^^ 2 ^ r) (rmb (gun g) (gin g))) := crep_pl hg hc q2 q3 rfl rfl rfl rfl p2 p3
  refine ⟨c2, ?_, hc2⟩
  have e9 := k_sub (h0 := h0) C hc.1 (show (0, 9, 232) ∈ lyL by decide) (by omega) (show ct 232 = some (0, 6) by decide)
  have e9'' := k_sub (h0 := h0) C hL1 (show (0, 9, 232) ∈ lyL by decide) (by omega) (show ct 232 = some (0, 6) by decide)
  have hB02 : cR c1 0 2 = cR c 0 2 := by rw [q2.2.1]
  have n1 := k_nds (h0 := h0) C hg hc
  have n2 := k_nds (h0 := h0) C hg' hc2
  unfold jf_X11_turnedNodes
  simp (disch := omega) only [k_tree C hc.1, xbs, n1, e9, q1, k_tree C hL1, k_book C hL1, hB02, e9'', p1, k_tree C hc2.1, n2]
  rfl
/-- the model's -/
theorem r_rem11 (H : MH ty M mm mi h0) {f : Nat → Int32} {us : List Nat} {x z : Nat} (hu : us.length = 19) (hf : seg f 0 (x :: us)) : ∀ (k i : Nat) (A : Nat → Nat → Int32), i + k = 19 → I 56 = i32 20 → I 26 = i32 z → (∀ j, j < i → A 57 j = f (j + 1)) → (∀ j, i ≤ j → A 57 j = f j) →
    ∃ I' A', jf_X12_remember_11 ty (k + 1) M (i32 i) (rst mm mi h0 M I A J) = some (rst mm mi h0 M I' A' J) ∧ (∀ k, k ≠ 56 → I' k = I k) ∧ I' 56 = i32 20 ∧ but 57 A A' ∧ seg (A' 57) 0 (us ++ [z]) := by
  intro k
  induction k with
  | zero =>
    intro i A h1 h56 h26 s1 s2
    refine ⟨fu (fu I 56 (i32 19)) 56 (i32 20), fu2 A 57 19 (i32 z), ?_, fun k hk => by rw [fu_ne _ _ hk, fu_ne _ _ hk], fu_same _ _ _, but.fu, ?_⟩
    · rw [jf_X12_remember_11_s]
      have e26 : fu I 56 (i32 19) 26 = i32 z := by rw [fu_ne _ _ (by decide)]; exact h26
      simp (disch := omega) only [i32_lit, i32_neg, i32_add, i32_sub, i32_mul, i32_lt, i32_le, i32_eq, if_pos, rI, h56, rsI, xbs]
      rw [show (20 : Int) - 1 = 19 by omega]
      simp (disch := omega) only [rr_57 H, fu_same, e26, xbs, rI]
      rw [wa_57 H (by omega) (by omega)]
      simp (disch := omega) only [xbs, rsI, rI, fu_same, i32_lit, i32_neg, i32_add, i32_sub, i32_mul, i32_lt, i32_le, i32_eq]
      rfl
    · refine seg_snoc (seg_fu2 ?_ (by omega)) ?_
      · intro j d hd
        have hj : j < us.length := (List.getElem?_eq_some_iff.mp hd).1
        rw [Nat.zero_add, s1 j (by omega)]
        have := hf (j + 1) d (by rw [List.getElem?_cons_succ]; exact hd)
        rw [Nat.zero_add] at this
        exact this
      · rw [Nat.zero_add, hu, fu2_same]
  | succ k ih =>
    intro i A h1 h56 h26 s1 s2
    obtain ⟨I', A', q1, q2, q3, q4, q5⟩ := ih (i + 1) (fu2 A 57 i (f (i + 1))) (by omega) h56 h26
      (fun j hj => by
        rcases Nat.lt_or_ge j i with h | h
        · rw [fu2_ne _ _ (by omega)]; exact s1 j h
        · rw [show j = i by omega, fu2_same])
      (fun j hj => by rw [fu2_ne _ _ (by omega)]; exact s2 j (by omega))
    refine ⟨I', A', ?_, q2, q3, but.tr but.fu q4, q5⟩
    rw [jf_X12_remember_11_s, ← q1]
    simp (disch := omega) only [i32_lit, i32_neg, i32_add, i32_sub, i32_mul, i32_lt, i32_le, i32_eq, if_neg, rr_57 H, xbs, ga_57 H, wa_57 H, Int.toNat_natCast]
    rw [show ((i : Int) + 1).toNat = i + 1 by omega, s2 (i + 1) (by omega), show (i : Int) + 1 = ((i + 1 : Nat) : Int) by omega]
theorem r_rem (H : MH ty M mm mi h0) (hg : gwf g) (hr : RRep I A g) : ∃ I' A', jf_X12_remember ty (rst mm mi h0 M I A J) M = some (rst mm mi h0 M I' A' J) ∧ (∀ k, k ≠ 56 → I' k = I k) ∧ I' 56 = i32 (rmb (gun g) (gin g)).length ∧ but 57 A A' ∧ seg (A' 57) 0 (rmb (gun g) (gin g)) := by
  have h20 := hg.2.2.2.1
  obtain ⟨u1, u2⟩ := hr.2.2.2.1
  unfold jf_X12_remember
  simp (disch := omega) only [rI, u1, i32_lit, i32_neg, i32_add, i32_sub, i32_mul, i32_lt, i32_le, i32_eq]
  by_cases w : (gun g).length = 20
  · rw [if_pos (by omega)]
    cases hu : gun g with
    | nil => rw [hu] at w; simp at w
    | cons x us =>
      rw [hu] at w u2
      simp only [List.length_cons] at w
      obtain ⟨I', A', q1, q2, q3, q4, q5⟩ := r_rem11 (I := I) (J := J) H (show us.length = 19 by omega) u2 19 0 A (by omega) (by rw [u1, hu]; simp only [List.length_cons, w]; rfl) hr.2.1 (fun j hj => by omega) (fun j hj => rfl)
      have hrm : rmb (x :: us) (gin g) = us ++ [gin g] := by unfold rmb; rw [if_pos (by simp; omega)]; rfl
      refine ⟨I', A', jf_X12_remember_11_l q1, q2, ?_, q4, ?_⟩
      · rw [hrm, q3]; congr 1; simp; omega
      · rw [hrm]; exact q5
  · rw [if_neg (by omega)]
    have hrm : rmb (gun g) (gin g) = gun g ++ [gin g] := by unfold rmb; rw [if_neg w]
    rw [hrm]
    refine ⟨fu I 56 (i32 ((gun g).length + 1 : Nat)), fu2 A 57 (gun g).length (i32 (gin g)), ?_, fun k hk => fu_ne _ _ hk, ?_, but.fu, ?_⟩
    · simp (disch := omega) only [rr_57 H, xbs, wa_57 H, hr.2.1, Int.toNat_natCast, rI, rsI, u1, i32_lit, i32_neg, i32_add, i32_sub, i32_mul, i32_lt, i32_le, i32_eq]
      rw [show ((gun g).length : Int) + 1 = (((gun g).length + 1 : Nat) : Int) by omega]
    · rw [fu_same]; simp
    · exact seg_snoc (seg_fu2 u2 (by omega)) (by rw [Nat.zero_add, fu2_same])
theorem xabs_n {a e : Nat} (h1 : a ≤ e) (h2 : e ≤ 1000) : xabs (i32 (a : Nat) - i32 (e : Nat)) = i32 ((e : Int) - a) := by
  unfold xabs
  simp (disch := omega) only [i32_lit, i32_neg, i32_add, i32_sub, i32_mul, i32_lt, i32_le, i32_eq]
  by_cases h : (0 : Int) ≤ (a : Int) - e
  · rw [if_pos h]; congr 1; omega
  · rw [if_neg h]; congr 1; omega
theorem xabs_p {a e : Nat} (h1 : e ≤ a) (h2 : a ≤ 1000) : xabs (i32 (a : Nat) - i32 (e : Nat)) = i32 ((a : Int) - e) := by
  unfold xabs
  simp (disch := omega) only [i32_lit, i32_neg, i32_add, i32_sub, i32_mul, i32_lt, i32_le, i32_eq]
  rw [if_pos (by omega)]
theorem x_lt {z r m : Nat} (hz : z < 2 ^ m) (hr : r < m) : z ^^^ 2 ^ r < 2 ^ m := Nat.xor_lt_two_pow hz (Nat.pow_lt_pow_right (by omega) hr)
theorem turn_wf (hg : gwf g) {r : Nat} (hr : r < bnr (gb g)) : gwf (gSt g (gin g ^^^ 2 ^ r) (rmb (gun g) (gin g))) := by
  refine gSt_wf hg (x_lt hg.2.2.1 hr) (rmb_len hg.2.2.2.1) (fun x hx => ?_)
  rcases rmb_mem hx with h | h
  · exact hg.2.2.2.2.1 x h
  · rw [h]; exact hg.2.2.1
theorem nds_s (hg : gwf g) (z : Nat) : ndS (gb g) z 12 ≤ 1000 := by
  have := ndS_le (gb g) z 12
  have := hg.1.2.2.1
  omega
theorem op_take (C : CH ty N) (H : MH ty M mm mi hB) (hg : gwf g) (hc : CRep c g) (hr : RRep I A g) {r : Int} (b1 : -2147483648 ≤ r) (b2 : r < 2147483648) :
    ∃ g', gwf g' ∧ OP N hA mm mi hB M J g' (jf_X11_take ty (cst N hA c) (N + 0) (i32 r)) (jf_X12_take ty (rst mm mi hB M I A J) M (i32 r)) := by
  have h16 := hg.1.2.2.1
  have I2 : ∀ k, k ≠ 33 → k ≠ 2 → k ≠ 39 → fu I 2 (i32 0) k = I k := fun k _ h _ => fu_ne _ _ h
  have hr2 : RRep (fu I 2 (i32 0)) A g := hr.ks I2 keepA.rf
  have e9 := k_sub (h0 := hA) C hc.1 (show (0, 9, 232) ∈ lyL by decide) (by omega) (show ct 232 = some (0, 6) by decide)
  unfold jf_X11_take jf_X12_take
  simp (disch := omega) only [rsI, xbs, i32_lit, i32_neg, bI_eq0, k_book C hc.1, k_hasRule hg.1 hc.1.bk hc.2.1 b1 b2, r_isRule hg.1 hr2.1.2.2.1 b1 b2, e9]
  cases hR : isR (gb g) r with
  | false =>
    simp only [if_true]
    exact ⟨g, hg, OP.ret hc hr _ (fu I 2 (i32 0)) I2 (fu_same _ _ _) rfl rfl⟩
  | true =>
  obtain ⟨r, rfl, hrr⟩ := isR_r hR
  simp (disch := omega) only [Bool.true_eq_false, if_false, k_isIn hg.z hc.2.2.2.1 (show r < 16 by omega), r_isInNow hg.z hr2.2.1 (show r < 32 by omega), xbs, bI_eq0]
  cases hin : inR (gin g) r with
  | false =>
    simp only [if_true]
    exact ⟨g, hg, OP.ret hc hr _ (fu I 2 (i32 0)) I2 (fu_same _ _ _) rfl rfl⟩
  | true =>
    have hg' := turn_wf hg hrr
    refine ⟨_, hg', ?_⟩
    obtain ⟨c', q1, q2⟩ := k_turned (h0 := hA) C hg hc hrr hg'
    obtain ⟨I1, A1, p1, p2, p3, p4, p5⟩ := r_rem (J := J) H hg hr2
    have hm := ndS_mono hin hrr 12
    have hn1 := nds_s hg (gin g)
    rw [xabs_n hm hn1] at q1
    have hbit : i32 (gin g : Nat) &&& ((i32 1 <<< (i32 (r : Nat) &&& i32 31)) ^^^ i32 (-1)) = i32 (gin g ^^^ 2 ^ r : Nat) := by
      rw [i32_clr _ (show r < 31 by omega)]
      congr 3
      refine Nat.eq_of_testBit_eq (fun i => ?_)
      rw [Nat.testBit_and, Nat.testBit_two_pow]
      by_cases e : r = i
      · subst e; rw [show (gin g).testBit r = true from hin]; simp
      · simp [e]
    obtain ⟨I3, hI3⟩ : ∃ I3, I3 = fu I1 26 (i32 (gin g ^^^ 2 ^ r : Nat)) := ⟨_, rfl⟩
    have hRR : RRep I3 A1 (gSt g (gin g ^^^ 2 ^ r) (rmb (gun g) (gin g))) := by
      refine rrep_st hr (fun k a1 a2 a3 => ?_) ?_ ?_ p4 p5
      · rw [hI3, fu_ne _ _ a2, p2 k a3, fu_ne _ _ a1]
      · rw [hI3, fu_same]
      · rw [hI3, fu_ne _ _ (by decide)]; exact p3
    refine ⟨i32 ((ndS (gb g) (gin g) 12 : Int) - (ndS (gb g) (gin g ^^^ 2 ^ r) 12 : Int)), c', I3, A1, ?_, q2, ?_, hRR, ?_⟩
    · simp only [Bool.true_eq_false, if_false, q1, xb2s]
    · have h26 : I1 26 = i32 (gin g : Nat) := by rw [p2 26 (by decide)]; exact hr2.2.1
      simp (disch := omega) only [Bool.true_eq_false, if_false, r_nds H hg.1 hr2.1 hg.z hr2.2.1, xbs, p1, rI, h26, hbit, rsI]
      rw [← hI3]
      have := r_nds (J := J) H hg'.1 hRR.1 hg'.z hRR.2.1
      rw [show gb (gSt g (gin g ^^^ 2 ^ r) (rmb (gun g) (gin g))) = gb g from rfl, show gin (gSt g (gin g ^^^ 2 ^ r) (rmb (gun g) (gin g))) = gin g ^^^ 2 ^ r from rfl] at this
      simp only [this, xbs, i32_sub]
    · rw [hI3, fu_ne _ _ (by decide), p2 2 (by decide), fu_same]
theorem op_put (C : CH ty N) (H : MH ty M mm mi hB) (hg : gwf g) (hc : CRep c g) (hr : RRep I A g) {r : Int} (b1 : -2147483648 ≤ r) (b2 : r < 2147483648) :
    ∃ g', gwf g' ∧ OP N hA mm mi hB M J g' (jf_X11_put ty (cst N hA c) (N + 0) (i32 r)) (jf_X12_put ty (rst mm mi hB M I A J) M (i32 r)) := by
  have h16 := hg.1.2.2.1
  have I2 : ∀ k, k ≠ 33 → k ≠ 2 → k ≠ 39 → fu I 2 (i32 0) k = I k := fun k _ h _ => fu_ne _ _ h
  have hr2 : RRep (fu I 2 (i32 0)) A g := hr.ks I2 keepA.rf
  have e9 := k_sub (h0 := hA) C hc.1 (show (0, 9, 232) ∈ lyL by decide) (by omega) (show ct 232 = some (0, 6) by decide)
  unfold jf_X11_put jf_X12_put
  simp (disch := omega) only [rsI, xbs, i32_lit, i32_neg, bI_eq0, k_book C hc.1, k_hasRule hg.1 hc.1.bk hc.2.1 b1 b2, r_isRule hg.1 hr2.1.2.2.1 b1 b2, e9]
  cases hR : isR (gb g) r with
  | false =>
    simp only [if_true]
    exact ⟨g, hg, OP.ret hc hr _ (fu I 2 (i32 0)) I2 (fu_same _ _ _) rfl rfl⟩
  | true =>
  obtain ⟨r, rfl, hrr⟩ := isR_r hR
  simp (disch := omega) only [Bool.true_eq_false, if_false, k_isIn hg.z hc.2.2.2.1 (show r < 16 by omega), r_isInNow hg.z hr2.2.1 (show r < 32 by omega), xbs, bI_eq0]
  cases hin : inR (gin g) r with
  | true =>
    simp only [Bool.true_eq_false, if_false]
    exact ⟨g, hg, OP.ret hc hr _ (fu I 2 (i32 0)) I2 (fu_same _ _ _) rfl rfl⟩
  | false =>
    have hg' := turn_wf hg hrr
    refine ⟨_, hg', ?_⟩
    obtain ⟨c', q1, q2⟩ := k_turned (h0 := hA) C hg hc hrr hg'
    obtain ⟨I1, A1, p1, p2, p3, p4, p5⟩ := r_rem (J := J) H hg hr2
    have hm := ndS_mono (b := gb g) (z := gin g ^^^ 2 ^ r) (r := r) (by rw [inR_x, hin, decide_eq_true rfl]; rfl) hrr 12
    rw [Nat.xor_assoc, Nat.xor_self, Nat.xor_zero] at hm
    have hn1 := nds_s hg (gin g ^^^ 2 ^ r)
    rw [xabs_p hm hn1] at q1
    have hbit : i32 (gin g : Nat) ||| (i32 1 <<< (i32 (r : Nat) &&& i32 31)) = i32 (gin g ^^^ 2 ^ r : Nat) := by
      rw [or_bit _ _ (show r < 31 by omega)]
      congr 2
      refine Nat.eq_of_testBit_eq (fun i => ?_)
      rw [Nat.testBit_or, Nat.testBit_xor, Nat.testBit_two_pow]
      by_cases e : r = i
      · subst e; rw [show (gin g).testBit r = false from hin]; simp
      · simp [e]
    obtain ⟨I3, hI3⟩ : ∃ I3, I3 = fu I1 26 (i32 (gin g ^^^ 2 ^ r : Nat)) := ⟨_, rfl⟩
    have hRR : RRep I3 A1 (gSt g (gin g ^^^ 2 ^ r) (rmb (gun g) (gin g))) := by
      refine rrep_st hr (fun k a1 a2 a3 => ?_) ?_ ?_ p4 p5
      · rw [hI3, fu_ne _ _ a2, p2 k a3, fu_ne _ _ a1]
      · rw [hI3, fu_same]
      · rw [hI3, fu_ne _ _ (by decide)]; exact p3
    refine ⟨i32 ((ndS (gb g) (gin g ^^^ 2 ^ r) 12 : Int) - (ndS (gb g) (gin g) 12 : Int)), c', I3, A1, ?_, q2, ?_, hRR, ?_⟩
    · simp only [if_true, q1, xb2s]
    · have h26 : I1 26 = i32 (gin g : Nat) := by rw [p2 26 (by decide)]; exact hr2.2.1
      simp (disch := omega) only [if_true, r_nds H hg.1 hr2.1 hg.z hr2.2.1, xbs, p1, rI, h26, hbit, rsI]
      rw [← hI3]
      have := r_nds (J := J) H hg'.1 hRR.1 hg'.z hRR.2.1
      rw [show gb (gSt g (gin g ^^^ 2 ^ r) (rmb (gun g) (gin g))) = gb g from rfl, show gin (gSt g (gin g ^^^ 2 ^ r) (rmb (gun g) (gin g))) = gin g ^^^ 2 ^ r from rfl] at this
      simp only [this, xbs, i32_sub]
    · rw [hI3, fu_ne _ _ (by decide), p2 2 (by decide), fu_same]
end TURN

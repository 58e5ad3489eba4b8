/-! back, undo -/
def gSt (g : Sg) (z : Nat) (us : List Nat) : Sg := (g.1, g.2.1, z, us, g.2.2.2.2)
theorem turns_len : ∀ (us : List Nat) (z : Nat) (ts : List Nat), turns us z ts → ts.length = us.length
  | [], _, [], _ => rfl
  | [], _, _ :: _, h => by simp [turns] at h
  | _ :: _, _, [], h => by simp [turns] at h
  | x :: us, z, t :: ts, h => by
    simp only [turns] at h
    simp [turns_len us z ts h.2.2]
theorem headD_app {us : List Nat} {x z d : Nat} : ((us ++ [x]) ++ [z]).headD d = (us ++ [x]).headD d := by cases us <;> rfl
theorem turns_snoc : ∀ (us : List Nat) (x z : Nat) (ts : List Nat) (t : Nat), turns us x ts → z = x ^^^ (1 <<< t) → t < 16 → turns (us ++ [x]) z (ts ++ [t])
  | [], x, z, [], t, _, hz, ht => by simp [turns, hz, ht]
  | [], _, _, _ :: _, _, h, _, _ => by simp [turns] at h
  | _ :: _, _, _, [], _, h, _, _ => by simp [turns] at h
  | y :: us, x, z, s :: ts, t, h, hz, ht => by
    simp only [turns] at h
    simp only [List.cons_append, turns]
    refine ⟨?_, h.2.1, turns_snoc us x z ts t h.2.2 hz ht⟩
    rw [headD_app]
    exact h.1
theorem turns_unsnoc : ∀ (us : List Nat) (x z : Nat) (ts : List Nat), turns (us ++ [x]) z ts → ∃ (ts' : List Nat) (t : Nat), ts = ts' ++ [t] ∧ turns us x ts' ∧ z = x ^^^ (1 <<< t) ∧ t < 16
  | [], x, z, [], h => by simp [turns] at h
  | [], x, z, [t], h => ⟨[], t, rfl, by simp [turns], by simp [turns] at h; exact h.1, by simp [turns] at h; exact h.2⟩
  | [], x, z, _ :: _ :: _, h => by simp [turns] at h
  | y :: us, x, z, [], h => by simp [turns] at h
  | y :: us, x, z, s :: ts, h => by
    simp only [List.cons_append, turns] at h
    obtain ⟨ts', t, e1, e2, e3, e4⟩ := turns_unsnoc us x z ts h.2.2
    refine ⟨s :: ts', t, by rw [e1]; rfl, ?_, e3, e4⟩
    simp only [turns]
    refine ⟨?_, h.2.1, e2⟩
    have := h.1
    rw [headD_app] at this
    exact this
section BACK
variable {ty : xTy} {N M : Nat} {hA hB h0 : xH} {mm mi : Nat → Nat} {c : CS} {I : Nat → Int32} {A : Nat → Nat → Int32} {J : Nat → Int64} {g : Sg} {b : Bk}
theorem gSt_wf (hg : gwf g) {z : Nat} {us : List Nat} (hz : z < 2 ^ bnr (gb g)) (hl : us.length ≤ 20) (hu : ∀ x ∈ us, x < 2 ^ bnr (gb g)) : gwf (gSt g z us) := ⟨hg.1, hg.2.1, hz, hl, hu, hg.2.2.2.2.2⟩
/-- the model's side: what stands has changed -/
theorem rrep_st {I' : Nat → Int32} {A' : Nat → Nat → Int32} (h : RRep I A g) {z : Nat} {us : List Nat} (hk : ∀ k, k ≠ 2 → k ≠ 26 → k ≠ 56 → I' k = I k) (h26 : I' 26 = i32 z) (h56 : I' 56 = i32 us.length) (hA' : but 57 A A') (hs : seg (A' 57) 0 us) : RRep I' A' (gSt g z us) := by
  obtain ⟨r1, r2, r3, r4, r5, r6, r7⟩ := h
  refine ⟨?_, h26, ?_, ⟨h56, hs⟩, ?_, ?_, ?_⟩
  · show RB I' A' (gb g)
    unfold RB at r1 ⊢
    rw [hk 12 (by decide) (by decide) (by decide), hk 13 (by decide) (by decide) (by decide), hk 14 (by decide) (by decide) (by decide), hA' 18 (by decide), hA' 19 (by decide), hA' 20 (by decide), hA' 21 (by decide), hA' 22 (by decide), hA' 23 (by decide), hA' 24 (by decide), hA' 25 (by decide)]
    exact r1
  · rw [hk 28 (by decide) (by decide) (by decide), hk 41 (by decide) (by decide) (by decide), hA' 27 (by decide)]; exact r3
  · rw [hk 58 (by decide) (by decide) (by decide), hk 59 (by decide) (by decide) (by decide)]; exact r5
  · rw [hk 1 (by decide) (by decide) (by decide), hA' 0 (by decide), hA' 3 (by decide)]; exact r6
  · rw [hk 4 (by decide) (by decide) (by decide), hk 5 (by decide) (by decide) (by decide)]; exact r7
theorem op_back (C : CH ty N) (hg : gwf g) (hc : CRep c g) (hr : RRep I A g) :
    ∃ g', gwf g' ∧ OP N hA mm mi hB M J g' (jf_X11_back ty (cst N hA c) (N + 0)) (jf_X12_back ty (rst mm mi hB M I A J) M) := by
  have I2 : ∀ k, k ≠ 33 → k ≠ 2 → k ≠ 39 → fu I 2 (i32 0) k = I k := fun k _ h _ => fu_ne _ _ h
  have hr2 : RRep (fu I 2 (i32 0)) A g := hr.ks I2 keepA.rf
  have hS := hc.2.2.2.1
  have e9 := k_sub (h0 := hA) C hc.1 (show (0, 9, 232) ∈ lyL by decide) (by omega) (show ct 232 = some (0, 6) by decide)
  cases him : gim g with
  | none =>
    refine ⟨g, hg, OP.ret hc hr (i32 (-1)) (fu I 2 (i32 0)) I2 (fu_same _ _ _) ?_ ?_⟩
    · unfold jf_X11_back jf_X6_takeImage
      have h2 : cI c 232 2 = i32 0 := by rw [hS.2.2.2.1, him]; rfl
      simp (disch := omega) only [e9, xbs, kI, h2, i32_lit, if_true, xb2s, i32_neg]
    · unfold jf_X12_back
      have h2 : fu I 2 (i32 0) 58 = i32 0 := by rw [hr2.2.2.2.2.1.1, him]; rfl
      simp (disch := omega) only [rsI, rI, xbs, h2, i32_lit, if_true, i32_neg]
  | some z =>
    have hzl := hg.2.2.2.2.2.1 z him
    have hz : z < 65536 := Nat.lt_of_lt_of_le hzl (pow16 hg.1.2.2.1)
    have hg' : gwf (gSt g z []) := gSt_wf hg hzl (by simp) (by simp)
    refine ⟨gSt g z [], hg', ?_⟩
    obtain ⟨c1, hc1⟩ : ∃ c1, c1 = csI c 232 4 (i32 z) := ⟨_, rfl⟩
    obtain ⟨c2, hc2⟩ : ∃ c2, c2 = csI c1 232 3 (i32 0) := ⟨_, rfl⟩
    have f2 : fr 232 234 c c2 := by rw [hc2, hc1]; exact fr.tr (fr.I (by omega) (by omega)) (fr.I (by omega) (by omega))
    have i4 : cI c2 232 4 = i32 z := by rw [hc2, sI_o (by omega), hc1, sI_s]
    have hs2 : CSt c2 (gSt g z []) := by
      refine ⟨i4, ?_, ⟨[], seg_nil _ _, by simp [gSt, gun, turns]⟩, ?_, fun x hx => ?_⟩
      · rw [hc2, sI_s]; rfl
      · rw [hc2, sI_o (by omega), hc1, sI_o (by omega)]; exact hS.2.2.2.1
      · rw [hc2, sI_o (by omega), hc1, sI_o (by omega)]; exact hS.2.2.2.2 x hx
    have hL2 : LY c2 := hc.1.same f2.2.1 f2.2.2
    have hB2 : CB c2 (cR c 0 2) (gb g) := hc.2.1.keep hg.1.2.2.1 (fun q q1 q2 => ⟨(f2.1 q (by have := hc.1.bk; omega)).1, (f2.1 q (by have := hc.1.bk; omega)).2, by rw [f2.2.1]⟩)
    obtain ⟨c3, p1, p2, p3⟩ := k_plant (h0 := hA) C hg.1 hc.1.bk hz hL2 hB2 i4
    have hc3 : CRep c3 (gSt g z []) := crep_pl hg hc f2 hs2 rfl rfl rfl rfl p2 p3
    have e9' := k_sub (h0 := hA) C hc3.1 (show (0, 9, 232) ∈ lyL by decide) (by omega) (show ct 232 = some (0, 6) by decide)
    have e9'' := k_sub (h0 := hA) C hL2 (show (0, 9, 232) ∈ lyL by decide) (by omega) (show ct 232 = some (0, 6) by decide)
    refine ⟨i32 (cntB z 16 : Nat), c3, fu (fu (fu I 2 (i32 0)) 26 (i32 z)) 56 (i32 0), A, ?_, hc3, ?_, ?_, ?_⟩
    · unfold jf_X11_back jf_X6_takeImage
      have h2 : cI c 232 2 = i32 1 := by rw [hS.2.2.2.1, him]; rfl
      have h1 : cI c 232 1 = i32 z := hS.2.2.2.2 z him
      have hne : ¬ (i32 1 = i32 0) := by decide
      simp (disch := omega) only [e9, xbs, kI, h2, h1, i32_lit, if_neg hne, ksI]
      rw [← hc1, ← hc2]
      have hB02 : cR c2 0 2 = cR c 0 2 := by rw [f2.2.1]
      simp (disch := omega) only [xb2s, if_neg hne, k_tree C hL2, k_book C hL2, hB02, e9'', xbs, p1, e9', kI, hc3.2.2.2.1.1]
      show (jf_J6_bitCount_0f7a4 (i32 (z : Nat))).bind _ = _
      rw [pc16 hz]; rfl
    · unfold jf_X12_back
      have h2 : fu I 2 (i32 0) 58 = i32 1 := by rw [hr2.2.2.2.2.1.1, him]; rfl
      have h1 : fu I 2 (i32 0) 59 = i32 z := hr2.2.2.2.2.1.2 z him
      have hne : ¬ (i32 1 = i32 0) := by decide
      have e26 : fu (fu (fu I 2 (i32 0)) 26 (i32 z)) 56 (i32 0) 26 = i32 z := by rw [fu_ne _ _ (by decide), fu_same]
      simp (disch := omega) only [rsI, rI, xbs, h2, h1, i32_lit, if_neg hne, e26, r_many hz]
    · exact rrep_st hr (fun k a1 a2 a3 => by rw [fu_ne _ _ a3, fu_ne _ _ a2, fu_ne _ _ a1]) (by rw [fu_ne _ _ (by decide), fu_same]) (by rw [fu_same]; rfl) but.rf (seg_nil _ _)
    · rw [fu_ne _ _ (by decide), fu_ne _ _ (by decide), fu_same]
theorem op_undo (C : CH ty N) (H : MH ty M mm mi hB) (hg : gwf g) (hc : CRep c g) (hr : RRep I A g) :
    ∃ g', gwf g' ∧ OP N hA mm mi hB M J g' (jf_X11_undo ty (cst N hA c) (N + 0)) (jf_X12_undo ty (rst mm mi hB M I A J) M) := by
  have I2 : ∀ k, k ≠ 33 → k ≠ 2 → k ≠ 39 → fu I 2 (i32 0) k = I k := fun k _ h _ => fu_ne _ _ h
  have hr2 : RRep (fu I 2 (i32 0)) A g := hr.ks I2 keepA.rf
  have hS := hc.2.2.2.1
  have h20 := hg.2.2.2.1
  have e9 := k_sub (h0 := hA) C hc.1 (show (0, 9, 232) ∈ lyL by decide) (by omega) (show ct 232 = some (0, 6) by decide)
  rcases List.eq_nil_or_concat (gun g) with hn | ⟨us, z, hn⟩
  · refine ⟨g, hg, OP.ret hc hr (i32 (-1)) (fu I 2 (i32 0)) I2 (fu_same _ _ _) ?_ ?_⟩
    · unfold jf_X11_undo jf_X6_turnLatestBack
      have h2 : cI c 232 3 = i32 0 := by rw [hS.2.1, hn]; rfl
      simp (disch := omega) only [e9, xbs, kI, h2, i32_lit, i32_neg, i32_add, i32_sub, i32_mul, i32_lt, i32_le, i32_eq, if_true, xb2s, if_pos]
    · unfold jf_X12_undo
      have h2 : fu I 2 (i32 0) 56 = i32 0 := by rw [hr2.2.2.2.1.1, hn]; rfl
      simp (disch := omega) only [rsI, rI, xbs, h2, i32_lit, if_true, i32_neg]
  · have hn : gun g = us ++ [z] := by rw [hn]; simp
    have hlen : (gun g).length = us.length + 1 := by rw [hn]; simp
    have hzl := hg.2.2.2.2.1 z (by rw [hn]; simp)
    have hz : z < 65536 := Nat.lt_of_lt_of_le hzl (pow16 hg.1.2.2.1)
    have hg' : gwf (gSt g z us) := gSt_wf hg hzl (by omega) (fun x hx => hg.2.2.2.2.1 x (by rw [hn]; simp [hx]))
    refine ⟨gSt g z us, hg', ?_⟩
    obtain ⟨ts0, t1, t2⟩ := hS.2.2.1
    rw [hn] at t2
    obtain ⟨ts, t, rfl, t3, t4, t5⟩ := turns_unsnoc us z (gin g) ts0 t2
    have htl := turns_len _ _ _ t3
    obtain ⟨c1, hc1⟩ : ∃ c1, c1 = csI c 232 3 (i32 us.length) := ⟨_, rfl⟩
    obtain ⟨c2, hc2⟩ : ∃ c2, c2 = csI c1 232 4 (i32 z) := ⟨_, rfl⟩
    have f1 : fr 232 234 c c1 := by rw [hc1]; exact fr.I (by omega) (by omega)
    have f2 : fr 232 234 c c2 := by rw [hc2]; exact f1.tr (fr.I (by omega) (by omega))
    have i4 : cI c2 232 4 = i32 z := by rw [hc2, sI_s]
    have hs2 : CSt c2 (gSt g z us) := by
      refine ⟨i4, ?_, ⟨ts, ?_, t3⟩, ?_, fun x hx => ?_⟩
      · rw [hc2, sI_o (by omega), hc1, sI_s]; rfl
      · rw [hc2, hc1]; exact (seg_app.mp t1).1
      · rw [hc2, sI_o (by omega), hc1, sI_o (by omega)]; exact hS.2.2.2.1
      · rw [hc2, sI_o (by omega), hc1, sI_o (by omega)]; exact hS.2.2.2.2 x hx
    have hL2 : LY c2 := hc.1.same f2.2.1 f2.2.2
    have hL1 : LY c1 := hc.1.same f1.2.1 f1.2.2
    have hB2 : CB c2 (cR c 0 2) (gb g) := hc.2.1.keep hg.1.2.2.1 (fun q q1 q2 => ⟨(f2.1 q (by have := hc.1.bk; omega)).1, (f2.1 q (by have := hc.1.bk; omega)).2, by rw [f2.2.1]⟩)
    obtain ⟨c3, p1, p2, p3⟩ := k_plant (h0 := hA) C hg.1 hc.1.bk hz hL2 hB2 i4
    have hc3 : CRep c3 (gSt g z us) := crep_pl hg hc f2 hs2 rfl rfl rfl rfl p2 p3
    have e9' := k_sub (h0 := hA) C hc3.1 (show (0, 9, 232) ∈ lyL by decide) (by omega) (show ct 232 = some (0, 6) by decide)
    have e9'' := k_sub (h0 := hA) C hL2 (show (0, 9, 232) ∈ lyL by decide) (by omega) (show ct 232 = some (0, 6) by decide)
    refine ⟨i32 us.length, c3, fu (fu (fu I 2 (i32 0)) 56 (i32 us.length)) 26 (i32 z), A, ?_, hc3, ?_, ?_, ?_⟩
    · unfold jf_X11_undo jf_X6_turnLatestBack
      have h3 : cI c 232 3 = i32 ((us.length + 1 : Nat) : Int) := by rw [hS.2.1, hlen]
      have hne : ¬ (i32 1 = i32 0) := by decide
      have h233 : cR c1 232 0 = 233 := hL1.1 _ (show (232, 0, 233) ∈ lyL by decide)
      have hget : cA c1 233 us.length = i32 t := by
        rw [hc1]
        have := (seg_app.mp t1).2
        rw [Nat.zero_add, htl] at this
        have := seg_get (i := 0) this (by rfl)
        rw [Nat.add_zero] at this
        exact this
      have hbits : i32 (gin g : Nat) ^^^ (i32 1 <<< (i32 (t : Nat) &&& i32 31)) = i32 (z : Nat) := by
        rw [show i32 31 = (31 : Int32) from rfl, i32_shl1 t (by omega), i32_xor, t4, Nat.one_shiftLeft, Nat.xor_assoc, Nat.xor_self, Nat.xor_zero]
      have g3 : cI c1 232 3 = i32 us.length := by rw [hc1, sI_s]
      have g4 : cI c1 232 4 = i32 (gin g : Nat) := by rw [hc1, sI_o (by omega)]; exact hS.1
      simp (disch := omega) only [e9, xbs, kI, h3, i32_lit, i32_neg, i32_add, i32_sub, i32_mul, i32_lt, i32_le, i32_eq, if_neg, if_pos, ksI]
      rw [show ((us.length + 1 : Nat) : Int) - 1 = ((us.length : Nat) : Int) by omega, ← hc1]
      simp (disch := omega) only [kR, h233, xbs, kI, g3, g4, kga C (show ct 233 = some (1, 20) by decide), Int.toNat_natCast, hget, hbits, ksI]
      rw [← hc2]
      have hB02 : cR c2 0 2 = cR c 0 2 := by rw [f2.2.1]
      simp (disch := omega) only [xb2s, if_neg hne, k_tree C hL2, k_book C hL2, hB02, e9'', xbs, p1, e9', kI, hc3.2.2.2.1.2.1]
      rfl
    · unfold jf_X12_undo
      have h3 : fu I 2 (i32 0) 56 = i32 ((us.length + 1 : Nat) : Int) := by rw [hr2.2.2.2.1.1, hlen]
      have hget : A 57 us.length = i32 z := by
        have := hr.2.2.2.1.2
        rw [hn] at this
        have := (seg_app.mp this).2
        rw [Nat.zero_add] at this
        have := seg_get (i := 0) this (by rfl)
        rw [Nat.add_zero] at this
        exact this
      have e56 : fu (fu I 2 (i32 0)) 56 (i32 us.length) 56 = i32 us.length := fu_same _ _ _
      have e56' : fu (fu (fu I 2 (i32 0)) 56 (i32 us.length)) 26 (i32 z) 56 = i32 us.length := by rw [fu_ne _ _ (by decide), fu_same]
      simp (disch := omega) only [rsI, rI, xbs, h3, i32_lit, i32_neg, i32_add, i32_sub, i32_mul, i32_lt, i32_le, i32_eq, if_neg]
      rw [show ((us.length + 1 : Nat) : Int) - 1 = ((us.length : Nat) : Int) by omega]
      simp (disch := omega) only [rr_57 H, ga_57 H, xbs, e56, Int.toNat_natCast, hget, e56']
    · exact rrep_st hr (fun k a1 a2 a3 => by rw [fu_ne _ _ a2, fu_ne _ _ a3, fu_ne _ _ a1]) (by rw [fu_same]) (by rw [fu_ne _ _ (by decide), fu_same]) but.rf (by have := hr.2.2.2.1.2; rw [hn] at this; exact (seg_app.mp this).1)
    · rw [fu_ne _ _ (by decide), fu_ne _ _ (by decide), fu_same]
end BACK

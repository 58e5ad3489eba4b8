/-! keep -/
def gIm (g : Sg) (o : Option Nat) : Sg := (g.1, g.2.1, g.2.2.1, g.2.2.2.1, o, g.2.2.2.2.2)
section OPQ
variable {ty : xTy} {N M : Nat} {hA hB h0 : xH} {mm mi : Nat → Nat} {c : CS} {I : Nat → Int32} {A : Nat → Nat → Int32} {J : Nat → Int64} {g : Sg} {b : Bk}
theorem r_many4 {z : Nat} (hz : z < 65536) {h : xH} : ∀ (k j a : Nat), j + k = 16 → a ≤ 20000 + j → jf_X12_manyIn_4 ty h (k + 1) (i32 z) (i32 (a : Nat)) (i32 j) = some (i32 ((a + cntB (z >>> j) k : Nat) : Int)) := by
  intro k
  induction k with
  | zero =>
    intro j a h1 h2
    rw [jf_X12_manyIn_4_s]
    simp (disch := omega) only [i32_lit, i32_neg, i32_add, i32_sub, i32_mul, i32_lt, i32_le, i32_eq, if_pos, cntB]
    rfl
  | succ k ih =>
    intro j a h1 h2
    rw [jf_X12_manyIn_4_s]
    simp (disch := omega) only [i32_lit, i32_neg, i32_add, i32_sub, i32_mul, i32_lt, i32_le, i32_eq, if_neg]
    have hbit : (i32 z >>> (i32 j &&& i32 31)) &&& i32 1 = i32 (((z >>> j) % 2 : Nat) : Int) := by
      rw [show i32 31 = (31 : Int32) from rfl, i32_sshr (by omega) (by omega), i32_one]
    rw [hbit, i32_add, show (j : Int) + 1 = ((j + 1 : Nat) : Int) by omega, show ((a : Nat) : Int) + (((z >>> j) % 2 : Nat) : Int) = ((a + (z >>> j) % 2 : Nat) : Int) by omega, ih (j + 1) _ (by omega) (by omega)]
    simp only [cntB]
    rw [show z >>> (j + 1) = z >>> j / 2 from Nat.shiftRight_succ z j, Nat.add_assoc]
theorem r_many {z : Nat} (hz : z < 65536) {h : xH} : jf_X12_manyIn ty h (i32 z) = some (i32 (cntB z 16 : Nat)) := by
  have := jf_X12_manyIn_4_l (r_many4 (ty := ty) (h := h) hz 16 0 0 (by omega) (by omega))
  rw [Nat.shiftRight_zero, Nat.zero_add] at this
  exact this
/-- only what stands has changed -/
theorem crep_st {c' : CS} {g' : Sg} (hg : gwf g) (h : CRep c g) (f : fr 232 234 c c') (hs : CSt c' g') (e1 : gb g' = gb g) (e2 : gq g' = gq g) (e3 : gin g' = gin g) (e4 : gtp g' = gtp g) (e5 : gfl g' = gfl g) : CRep c' g' := by
  obtain ⟨h1, h2, h3, h4, h5, h6, h7⟩ := h
  have hB := h1.bk
  have hQ := h1.as.1
  have hL := h1.same f.2.1 f.2.2
  refine ⟨hL, ?_, ?_, hs, ?_, ?_, ?_⟩
  · rw [e1, f.2.1]
    exact h2.keep hg.1.2.2.1 (fun q q1 q2 => ⟨(f.1 q (by omega)).1, (f.1 q (by omega)).2, by rw [f.2.1]⟩)
  · rw [e1, e2, f.2.1]
    exact h3.fr f (by omega)
  · rw [e1, e3, f.2.1]
    unfold CTr at *
    rw [(f.1 234 (by omega)).1, (f.1 235 (by omega)).2, (f.1 237 (by omega)).2, f.2.2]
    exact h5
  · rw [e4, (f.1 0 (by omega)).1, (f.1 1 (by omega)).2]
    exact h6
  · rw [e5, (f.1 226 (by omega)).1]
    exact h7
theorem op_keep (C : CH ty N) (hg : gwf g) (hc : CRep c g) (hr : RRep I A g) :
    gwf (gIm g (some (gin g))) ∧ OP N hA mm mi hB M J (gIm g (some (gin g))) (jf_X11_keep ty (cst N hA c) (N + 0)) (jf_X12_keep ty (rst mm mi hB M I A J) M) := by
  refine ⟨⟨hg.1, hg.2.1, hg.2.2.1, hg.2.2.2.1, hg.2.2.2.2.1, fun x hx => ?_, hg.2.2.2.2.2.2⟩, ?_⟩
  · obtain rfl := Option.some.inj hx
    exact hg.2.2.1
  obtain ⟨c1, hc1⟩ : ∃ c1, c1 = csI c 232 1 (i32 (gin g)) := ⟨_, rfl⟩
  obtain ⟨c2, hc2⟩ : ∃ c2, c2 = csI c1 232 2 (i32 1) := ⟨_, rfl⟩
  have f2 : fr 232 234 c c2 := by rw [hc2, hc1]; exact fr.tr (fr.I (by omega) (by omega)) (fr.I (by omega) (by omega))
  have hS := hc.2.2.2.1
  have i4 : cI c2 232 4 = i32 (gin g) := by rw [hc2, sI_o (by omega), hc1, sI_o (by omega)]; exact hS.1
  have hs2 : CSt c2 (gIm g (some (gin g))) := by
    refine ⟨i4, ?_, ?_, ?_, fun x hx => ?_⟩
    · rw [hc2, sI_o (by omega), hc1, sI_o (by omega)]; exact hS.2.1
    · rw [hc2, hc1]; exact hS.2.2.1
    · rw [hc2, sI_s]; rfl
    · obtain rfl := Option.some.inj hx
      rw [hc2, sI_o (by omega), hc1, sI_s]
  have hc2' : CRep c2 (gIm g (some (gin g))) := crep_st hg hc f2 hs2 rfl rfl rfl rfl rfl
  have e9 := k_sub (h0 := hA) C hc.1 (show (0, 9, 232) ∈ lyL by decide) (by omega) (show ct 232 = some (0, 6) by decide)
  have e9' := k_sub (h0 := hA) C hc2'.1 (show (0, 9, 232) ∈ lyL by decide) (by omega) (show ct 232 = some (0, 6) by decide)
  have hz := hg.z
  refine ⟨i32 (cntB (gin g) 16 : Nat), c2, fu (fu (fu I 2 (i32 0)) 58 (i32 1)) 59 (i32 (gin g)), A, ?_, hc2', ?_, ?_, ?_⟩
  · unfold jf_X11_keep jf_X6_keepImage
    simp (disch := omega) only [e9, xbs, kI, hS.1, ksI, i32_lit, i32_neg, i32_add, i32_sub, i32_mul, i32_lt, i32_le, i32_eq]
    rw [← hc1, ← hc2]
    simp (disch := omega) only [e9', xbs, kI, i4, pc16 hz]
  · unfold jf_X12_keep
    simp only [rsI, xbs, rI, i32_lit]
    have e26 : fu (fu I 2 (i32 0)) 58 (i32 1) 26 = i32 (gin g) := by rw [fu_ne _ _ (by decide), fu_ne _ _ (by decide)]; exact hr.2.1
    have e26' : fu (fu (fu I 2 (i32 0)) 58 (i32 1)) 59 (i32 (gin g)) 26 = i32 (gin g) := by rw [fu_ne _ _ (by decide)]; exact e26
    simp only [e26, e26', r_many hz, xbs]
  · obtain ⟨r1, r2, r3, r4, r5, r6, r7⟩ := hr
    have k1 : keepI I (fu I 2 (i32 0)) := keepI.fu (by decide)
    have hb : RB (fu (fu (fu I 2 (i32 0)) 58 (i32 1)) 59 (i32 (gin g))) A (gb g) := by
      unfold RB at r1 ⊢
      rw [fu_ne _ _ (by decide), fu_ne _ _ (by decide), fu_ne _ _ (by decide), fu_ne _ _ (by decide), fu_ne _ _ (by decide), fu_ne _ _ (by decide), fu_ne _ _ (by decide), fu_ne _ _ (by decide), fu_ne _ _ (by decide)]
      exact r1
    have ek : ∀ k, k ≠ 2 → k ≠ 58 → k ≠ 59 → fu (fu (fu I 2 (i32 0)) 58 (i32 1)) 59 (i32 (gin g)) k = I k := fun k a1 a2 a3 => by rw [fu_ne _ _ a3, fu_ne _ _ a2, fu_ne _ _ a1]
    refine ⟨hb, ?_, ?_, ?_, ⟨?_, fun x hx => ?_⟩, ?_, ?_⟩
    · rw [ek 26 (by decide) (by decide) (by decide)]; exact r2
    · rw [ek 28 (by decide) (by decide) (by decide), ek 41 (by decide) (by decide) (by decide)]; exact r3
    · rw [ek 56 (by decide) (by decide) (by decide)]; exact r4
    · rw [fu_ne _ _ (by decide), fu_same]; rfl
    · obtain rfl := Option.some.inj hx
      rw [fu_same]
    · rw [ek 1 (by decide) (by decide) (by decide)]; exact r6
    · rw [ek 4 (by decide) (by decide) (by decide), ek 5 (by decide) (by decide) (by decide)]; exact r7
  · rw [fu_ne _ _ (by decide), fu_ne _ _ (by decide), fu_same]
end OPQ

/-! THE TREE: where a rule stands -/
section ORDR
variable {ty : xTy} {N M : Nat} {hA hB h0 : xH} {mm mi : Nat → Nat} {c : CS} {I : Nat → Int32} {A : Nat → Nat → Int32} {J : Nat → Int64} {g : Sg} {b : Bk}
theorem bwf.tok (hb : bwf b) : tok b := ⟨bar b, fun r hr => (((hb.2.2.2.2 r hr).1).lo hb).one.1⟩
/-- how many that are in, below i, are ahead of one -/
def plP (b : Bk) (z r i : Nat) : Nat := (inL z i).countP (fun x => ahN b x r)
theorem plP_le (z r i : Nat) : plP b z r i ≤ i := by
  refine Nat.le_trans List.countP_le_length ?_
  exact Nat.le_trans (List.length_filter_le _ _) (by rw [List.length_range]; exact Nat.le_refl _)
theorem plP_succ (z r i : Nat) : plP b z r (i + 1) = plP b z r i + if inR z i && ahN b i r then 1 else 0 := by
  unfold plP
  rw [inL_succ]
  cases h : inR z i with
  | false => simp
  | true => simp [List.countP_append, List.countP_cons]
theorem r_place4 (H : MH ty M mm mi h0) (hb : bwf b) (hR : RB I A b) {z r : Nat} (hz : z < 65536) (h26 : I 26 = i32 z) (hr : r < bnr b) : ∀ (k i : Nat), i + k = bnr b →
    jf_X12_placeOf_4 ty (rst mm mi h0 M I A J) (k + 1) M (i32 r) (i32 (plP b z r i : Nat)) (i32 i) = some (i32 (plP b z r (bnr b) : Nat)) := by
  have h16 := hb.2.2.1
  intro k
  induction k with
  | zero =>
    intro i h1
    have hp := plP_le (b := b) z r i
    rw [jf_X12_placeOf_4_s]
    simp (disch := omega) only [rI, hR.2.2.1, i32_lit, i32_neg, i32_add, i32_sub, i32_mul, i32_lt, i32_le, i32_eq, if_pos]
    rw [show i = bnr b by omega]
  | succ k ih =>
    intro i h1
    have hi : i < bnr b := by omega
    have hp := plP_le (b := b) z r i
    have ih' := ih (i + 1) (by omega)
    rw [plP_succ] at ih'
    rw [jf_X12_placeOf_4_s]
    simp (disch := omega) only [rI, hR.2.2.1, r_isInNow hz h26, r_ahead H hb hR hi hr, xbs, bI_eq0, i32_lit, i32_neg, i32_add, i32_sub, i32_mul, i32_lt, i32_le, i32_eq]
    rw [if_neg (by omega), show (i : Int) + 1 = ((i + 1 : Nat) : Int) by omega, Int.add_zero]
    by_cases w1 : (i : Int) = (r : Int)
    · simp only [eq_true w1, if_true]
      have e : ahN b i r = false := by
        rw [show i = r by omega]; exact hb.tok.irr hr
      rw [e, Bool.and_false] at ih'
      exact ih'
    · simp only [eq_false w1, if_false]
      cases w2 : inR z i with
      | false =>
        simp only [if_true]
        rw [w2] at ih'
        exact ih'
      | true =>
        simp only [Bool.true_eq_false, if_false]
        rw [w2] at ih'
        cases w3 : ahN b i r with
        | false =>
          simp only [if_true]
          rw [w3] at ih'
          exact ih'
        | true =>
          simp only [Bool.true_eq_false, if_false]
          rw [w3] at ih'
          rw [show ((plP b z r i : Nat) : Int) + 1 = ((plP b z r i + 1 : Nat) : Int) by omega]
          exact ih'
theorem r_place (H : MH ty M mm mi h0) (hb : bwf b) (hR : RB I A b) {z r : Nat} (hz : z < 65536) (h26 : I 26 = i32 z) (hr : r < bnr b) : jf_X12_placeOf ty (rst mm mi h0 M I A J) M (i32 r) = some (i32 (plP b z r (bnr b) : Nat)) :=
  jf_X12_placeOf_4_l (r_place4 H hb hR hz h26 hr (bnr b) 0 (by omega))
theorem plP_idx (hb : bwf b) {z r k : Nat} (hr : r < bnr b) (hi : inR z r = true) : plP b z r (bnr b) = k ↔ (ordL b z)[k]? = some r := ordL_idx hb.tok z hr hi
theorem ordL_len (hb : bwf b) (z : Nat) : (ordL b z).length ≤ 16 := Nat.le_trans (ordP_len z (bnr b)) hb.2.2.1
theorem k_tree (C : CH ty N) (h : LY c) : xgo ty (cst N h0 c) (N + 0) 10 9 = some (N + 234) := k_sub C h (show (0, 10, 234) ∈ lyL by decide) (by omega) (show ct 234 = some (0, 9) by decide)
theorem LY.t3 (h : LY c) : cR c 234 0 = 235 ∧ cR c 234 1 = 236 ∧ cR c 234 2 = 237 ∧ cR c 234 3 = 238 := ⟨h.1 _ (show (234, 0, 235) ∈ lyL by decide), h.1 _ (show (234, 1, 236) ∈ lyL by decide), h.1 _ (show (234, 2, 237) ∈ lyL by decide), h.1 _ (show (234, 3, 238) ∈ lyL by decide)⟩
theorem k_tn (hc : CRep c g) : xI (cst N h0 c) (N + 234) 4 = i32 (ordL (gb g) (gin g)).length := by
  rw [kI (by omega)]
  exact hc.2.2.2.2.1.1
theorem k_ruleAt (C : CH ty N) (hg : gwf g) (hc : CRep c g) {i r : Nat} (hi : (ordL (gb g) (gin g))[i]? = some r) : jf_X9_ruleAt ty (cst N h0 c) (N + 234) (i32 i) = some (i32 r) := by
  have hl := ordL_len hg.1 (gin g)
  have hlt : i < (ordL (gb g) (gin g)).length := (List.getElem?_eq_some_iff.mp hi).1
  unfold jf_X9_ruleAt
  simp (disch := omega) only [k_tn hc, kR, hc.1.t3.1, xbs, kga C (show ct 235 = some (1, 16) by decide), i32_lit, i32_neg, i32_add, i32_sub, i32_mul, i32_lt, i32_le, i32_eq, if_neg, Int.toNat_natCast]
  rw [(hc.2.2.2.2.1.2 i r hi).1]
theorem r_order13 (H : MH ty M mm mi h0) (hb : bwf b) (hR : RB I A b) {z : Nat} (hz : z < 65536) (h26 : I 26 = i32 z) {p : Int} (p1 : 0 ≤ p) (p2 : p < 2147483648) : ∀ (k i : Nat), i + k = bnr b → (∀ r, r < i → (ordL b z)[p.toNat]? ≠ some r) →
    jf_X12_order_13 ty (k + 1) M (i32 p) (i32 i) (rst mm mi h0 M I A J) = some (oI (ordL b z)[p.toNat]? (-2), rst mm mi h0 M I A J) := by
  have h16 := hb.2.2.1
  intro k
  induction k with
  | zero =>
    intro i h1 h2
    have hn : (ordL b z)[p.toNat]? = none := by
      cases hq : (ordL b z)[p.toNat]? with
      | none => rfl
      | some r => exact absurd hq (h2 r (by have := (ordL_mem.mp (List.mem_of_getElem? hq)).1; omega))
    rw [jf_X12_order_13_s, hn]
    simp (disch := omega) only [rI, hR.2.2.1, i32_lit, i32_neg, i32_add, i32_sub, i32_mul, i32_lt, i32_le, i32_eq, if_pos]
    rfl
  | succ k ih =>
    intro i h1 h2
    have hi : i < bnr b := by omega
    have hp := plP_le (b := b) z i (bnr b)
    rw [jf_X12_order_13_s]
    simp (disch := omega) only [rI, hR.2.2.1, r_isInNow hz h26, r_place H hb hR hz h26 hi, xbs, bI_eq0, i32_lit, i32_neg, i32_add, i32_sub, i32_mul, i32_lt, i32_le, i32_eq]
    rw [if_neg (by omega), show (i : Int) + 1 = ((i + 1 : Nat) : Int) by omega]
    cases w2 : inR z i with
    | false =>
      simp only [if_true]
      refine ih (i + 1) (by omega) (fun r hr => ?_)
      rcases Nat.lt_or_ge r i with h | h
      · exact h2 r h
      · intro hq
        have := (ordL_mem.mp (List.mem_of_getElem? hq)).2
        rw [show r = i by omega, w2] at this
        cases this
    | true =>
      simp only [Bool.true_eq_false, if_false]
      by_cases w3 : ((plP b z i (bnr b) : Nat) : Int) = p
      · simp only [eq_true w3, if_true]
        rw [(plP_idx hb hi w2).mp (show plP b z i (bnr b) = p.toNat by omega)]
        rfl
      · simp only [eq_false w3, if_false]
        refine ih (i + 1) (by omega) (fun r hr => ?_)
        rcases Nat.lt_or_ge r i with h | h
        · exact h2 r h
        · intro hq
          rw [show r = i by omega] at hq
          have := (plP_idx hb hi w2).mpr hq
          omega
theorem op_order (C : CH ty N) (H : MH ty M mm mi hB) (hg : gwf g) (hc : CRep c g) (hr : RRep I A g) {k : Int} (f1 : -2147483648 ≤ k) (f2 : k < 2147483648) :
    OPp mm mi hB M J g (jf_X11_order ty (cst N hA c) (N + 0) (i32 k)) (jf_X12_order ty (rst mm mi hB M I A J) M (i32 k)) := by
  have hr2 : RRep (fu I 2 (i32 0)) A g := hr.ks (fun k _ h _ => fu_ne _ _ h) keepA.rf
  unfold jf_X11_order jf_X12_order
  simp only [rsI, xbs, i32_lit, k_tree C hc.1, k_tn hc]
  have hl := ordL_len hg.1 (gin g)
  by_cases w : 0 ≤ k
  · refine OPp.ret (v := oI (ordL (gb g) (gin g))[k.toNat]? (-2)) hr ?_ ?_
    · simp (disch := omega) only [i32_lit, i32_neg, i32_add, i32_sub, i32_mul, i32_lt, i32_le, i32_eq]
      rw [if_pos w]
      by_cases w1 : ((ordL (gb g) (gin g)).length : Int) ≤ k
      · rw [if_pos w1, List.getElem?_eq_none (by omega)]; rfl
      · rw [if_neg w1]
        obtain ⟨r, hr⟩ := get_some (L := ordL (gb g) (gin g)) (i := k.toNat) (by omega)
        have := k_ruleAt (h0 := hA) C hg hc hr
        rw [show ((k.toNat : Nat) : Int) = k by omega] at this
        rw [this, hr]; rfl
    · simp (disch := omega) only [i32_lit, i32_neg, i32_add, i32_sub, i32_mul, i32_lt, i32_le, i32_eq]
      rw [if_pos w]
      exact jf_X12_order_13_l (r_order13 H hg.1 hr2.1 hg.z hr2.2.1 w f2 (bnr (gb g)) 0 (by omega) (fun r h => by omega))
  · refine OPp.ret (v := i32 (-1)) hr ?_ ?_
    · simp (disch := omega) only [i32_lit, i32_neg, i32_add, i32_sub, i32_mul, i32_lt, i32_le, i32_eq]
      rw [if_neg w]
    · simp (disch := omega) only [i32_lit, i32_neg, i32_add, i32_sub, i32_mul, i32_lt, i32_le, i32_eq]
      rw [if_neg w]
end ORDR

/-! THE TREE: ahead, the model's -/
section TREE2
variable {ty : xTy} {N M : Nat} {hA hB h0 : xH} {mm mi : Nat → Nat} {c : CS} {I : Nat → Int32} {A : Nat → Nat → Int32} {J : Nat → Int64} {g : Sg} {b : Bk}
/-- a rule is ahead of another: by path, or the paths don't part and its number is less -/
def ahN (b : Bk) (r s : Nat) : Bool := if shp (pth (bT b r)) (pth (bT b s)) = (bT b r).length ∨ shp (pth (bT b r)) (pth (bT b s)) = (bT b s).length then decide (r < s) else ahd (pth (bT b r)) (pth (bT b s))
theorem r_ahead (H : MH ty M mm mi h0) (hb : bwf b) (hR : RB I A b) {r s : Nat} (hr : r < bnr b) (hs : s < bnr b) : jf_X12_isAhead ty (rst mm mi h0 M I A J) M (i32 r) (i32 s) = some (bI (ahN b r s)) := by
  have h16 := hb.2.2.1
  have hT := (hb.2.2.2.2 r hr).1
  have hS := (hb.2.2.2.2 s hs).1
  have l1 := hT.2.1
  have l2 := hS.2.1
  obtain ⟨a1, -⟩ := ahd_at (pth (bT b r)) (pth (bT b s))
  have hl := shp_le (pth (bT b r)) (pth (bT b s))
  have e1 : (pth (bT b r)).length = (bT b r).length := by simp [pth]
  have e2 : (pth (bT b s)).length = (bT b s).length := by simp [pth]
  rw [e1, e2] at hl
  unfold jf_X12_isAhead
  rw [r_shared H hb hR hr hs]
  simp (disch := omega) only [xbs, rr_22 H, ga_22 H, Int.toNat_natCast, (hR.2.2.2.2.2 r hr).2.1, (hR.2.2.2.2.2 s hs).2.1, i32_lit, i32_neg, i32_add, i32_sub, i32_mul, i32_lt, i32_le, i32_eq]
  have htie : (if (s : Int) ≤ (r : Int) then some (i32 0) else some (i32 1)) = some (bI (decide (r < s))) := by
    by_cases h : (s : Int) ≤ (r : Int)
    · rw [if_pos h, decide_eq_false (by omega)]; rfl
    · rw [if_neg h, decide_eq_true (by omega)]; rfl
  unfold ahN
  by_cases w1 : (shp (pth (bT b r)) (pth (bT b s)) : Int) = ((bT b r).length : Int)
  · simp only [eq_true w1, if_true]
    rw [if_pos (Or.inl (by omega))]
    exact htie
  · simp only [eq_false w1, if_false]
    by_cases w2 : (shp (pth (bT b r)) (pth (bT b s)) : Int) = ((bT b s).length : Int)
    · simp only [eq_true w2, if_true]
      rw [if_pos (Or.inr (by omega))]
      exact htie
    · simp only [eq_false w2, if_false]
      rw [if_neg (by omega)]
      obtain ⟨d, hd⟩ := get_some (L := bT b r) (i := shp (pth (bT b r)) (pth (bT b s))) (by omega)
      obtain ⟨e, he⟩ := get_some (L := bT b s) (i := shp (pth (bT b r)) (pth (bT b s))) (by omega)
      have p1 := r_step (I := I) (A := A) (J := J) H hb hR hr (show shp (pth (bT b r)) (pth (bT b s)) ≤ 100 by omega)
      have p2 := r_step (I := I) (A := A) (J := J) H hb hR hs (show shp (pth (bT b r)) (pth (bT b s)) ≤ 100 by omega)
      rw [hd] at p1
      rw [he] at p2
      simp only [Option.map_some, Option.getD_some] at p1 p2
      have s1 : star d ≤ 100 := by unfold star; omega
      have s2 : star e ≤ 100 := by unfold star; omega
      have hrk : ∀ x : Nat, x ≤ 100 → jf_X12_rankOf (i32 x) = some (i32 (rk x : Nat)) := by
        intro x hx
        unfold jf_X12_rankOf rk
        simp (disch := omega) only [i32_lit, i32_neg, i32_add, i32_sub, i32_mul, i32_lt, i32_le, i32_eq]
        by_cases h : x = 100
        · rw [if_pos (by omega), if_pos h]; rfl
        · rw [if_neg (by omega), if_neg h, show (1 : Int) + (x : Int) = ((x + 1 : Nat) : Int) by omega]
      obtain ⟨-, ha⟩ := a1 (star d) (star e) (by rw [pth, List.getElem?_map, ← pth, hd]; rfl) (by rw [pth, List.getElem?_map, ← pth, he]; rfl)
      have k1 : rk (star d) ≤ 101 := by unfold rk; split <;> omega
      have k2 : rk (star e) ≤ 101 := by unfold rk; split <;> omega
      rw [ha]
      simp (disch := omega) only [p1, p2, xbs, hrk _ s1, hrk _ s2, i32_lit, i32_neg, i32_add, i32_sub, i32_mul, i32_lt, i32_le, i32_eq]
      by_cases h : (rk (star e) : Int) ≤ (rk (star d) : Int)
      · rw [if_pos h, decide_eq_false (by omega)]; rfl
      · rw [if_neg h, decide_eq_true (by omega)]; rfl
end TREE2

/-! THE TREE: ahead by path -/
section TREE
variable {ty : xTy} {N M : Nat} {hA hB h0 : xH} {mm mi : Nat → Nat} {c : CS} {I : Nat → Int32} {A : Nat → Nat → Int32} {J : Nat → Int64} {g : Sg} {b : Bk}
/-- where two paths part, their codes differ; ahead is told by these -/
theorem ahd_at : ∀ (X Y : List Nat), (∀ (a e : Nat), X[shp X Y]? = some a → Y[shp X Y]? = some e → a ≠ e ∧ ahd X Y = decide (rk a < rk e)) ∧ ((X.length ≤ shp X Y ∨ Y.length ≤ shp X Y) → ahd X Y = false)
  | [], Y => by simp [shp, ahd]
  | a :: X, [] => by simp [shp, ahd]
  | a :: X, e :: Y => by
    obtain ⟨h1, h2⟩ := ahd_at X Y
    by_cases hae : a = e
    · simp only [shp, ahd, if_pos hae, List.getElem?_cons_succ, List.length_cons]
      exact ⟨h1, fun h => h2 (by omega)⟩
    · simp only [shp, ahd, if_neg hae, List.length_cons]
      refine ⟨fun x y hx hy => ?_, fun h => by omega⟩
      simp at hx hy
      subst hx; subst hy
      exact ⟨hae, rfl⟩
theorem k_ahead (C : CH ty N) {T Q : List Nat} {t u rt ru : Nat} {ar : Nat → Nat} (iT : isT c t rt ar T) (iQ : isT c u ru ar Q) (hT : ∀ d ∈ T, d < 1000) (hQ : ∀ d ∈ Q, d < 1000) : jf_X7_isAheadByPath ty (cst N h0 c) (N + t) (N + u) = some (bI (ahd (pth T) (pth Q))) := by
  have h60 : T.length ≤ 60 := by have := iT.2.2.2.2.2; omega
  have h60' : Q.length ≤ 60 := by have := iQ.2.2.2.2.2; omega
  have hlt := ct_lt iT.1
  have hlu := ct_lt iQ.1
  obtain ⟨a1, a2⟩ := ahd_at (pth T) (pth Q)
  have hl := shp_le (pth T) (pth Q)
  have e1 : (pth T).length = T.length := by simp [pth]
  have e2 : (pth Q).length = Q.length := by simp [pth]
  rw [e1, e2] at hl a2
  unfold jf_X7_isAheadByPath
  rw [k_shared C iT iQ hT hQ]
  simp (disch := omega) only [xbs, kI hlt, kI hlu, iT.2.2.2.2.2.2.2.1, iQ.2.2.2.2.2.2.2.1, i32_lit, i32_neg, i32_add, i32_sub, i32_mul, i32_lt, i32_le, i32_eq]
  by_cases w1 : (T.length : Int) ≤ (shp (pth T) (pth Q) : Int)
  · simp only [eq_true w1, if_true]
    rw [a2 (Or.inl (by omega))]; rfl
  · simp only [eq_false w1, if_false]
    by_cases w2 : (shp (pth T) (pth Q) : Int) < (Q.length : Int)
    · simp only [eq_true w2, if_true]
      obtain ⟨d, hd⟩ := get_some (L := T) (i := shp (pth T) (pth Q)) (by omega)
      obtain ⟨e, he⟩ := get_some (L := Q) (i := shp (pth T) (pth Q)) (by omega)
      have p1 : jf_X7_pathCode ty (cst N h0 c) (N + t) (i32 (shp (pth T) (pth Q) : Nat)) = some (i32 (star d : Nat)) := by
        rw [t_pathCode C iT hT (by omega) (by omega), Int.toNat_natCast, hd]; rfl
      have p2 : jf_X7_pathCode ty (cst N h0 c) (N + u) (i32 (shp (pth T) (pth Q) : Nat)) = some (i32 (star e : Nat)) := by
        rw [t_pathCode C iQ hQ (by omega) (by omega), Int.toNat_natCast, he]; rfl
      have s1 : star d ≤ 100 := by unfold star; omega
      have s2 : star e ≤ 100 := by unfold star; omega
      obtain ⟨hne, ha⟩ := a1 (star d) (star e) (by rw [pth, List.getElem?_map, ← pth, hd]; rfl) (by rw [pth, List.getElem?_map, ← pth, he]; rfl)
      rw [ha]
      simp (disch := omega) only [p1, p2, xbs, i32_lit, i32_neg, i32_add, i32_sub, i32_mul, i32_lt, i32_le, i32_eq]
      unfold rk
      by_cases w3 : star d = 100
      · rw [if_pos (by omega), if_pos (by omega), if_pos w3, if_neg (by omega), decide_eq_true (by omega)]; rfl
      · rw [if_neg (by omega)]
        by_cases w4 : star e = 100
        · rw [if_pos (by omega), if_neg (by omega), if_neg w3, if_pos w4, decide_eq_false (by omega)]; rfl
        · rw [if_neg (by omega), if_neg w3, if_neg w4]
          by_cases w5 : star e ≤ star d
          · rw [if_pos (by omega), decide_eq_false (by omega)]; rfl
          · rw [if_neg (by omega), decide_eq_true (by omega)]; rfl
    · simp only [eq_false w2, if_false]
      rw [a2 (Or.inr (by omega))]; rfl
end TREE

/-! shared, keep -/
section OPP
variable {ty : xTy} {N M : Nat} {hA hB h0 : xH} {mm mi : Nat → Nat} {c : CS} {I : Nat → Int32} {A : Nat → Nat → Int32} {J : Nat → Int64} {g : Sg} {b : Bk}
theorem shp_le : ∀ (X Y : List Nat), shp X Y ≤ X.length ∧ shp X Y ≤ Y.length
  | [], Y => by simp [shp]
  | a :: X, [] => by simp [shp]
  | a :: X, e :: Y => by
    have := shp_le X Y
    simp only [shp, List.length_cons]
    split <;> omega
theorem pth_drop {T : List Nat} {k d : Nat} (h : T[k]? = some d) : (pth T).drop k = star d :: (pth T).drop (k + 1) := by
  unfold pth
  exact drop_cons (by rw [List.getElem?_map, h]; rfl)
theorem k_sh14 (C : CH ty N) {T Q : List Nat} {t u rt ru : Nat} {ar : Nat → Nat} (iT : isT c t rt ar T) (iQ : isT c u ru ar Q) (hT : ∀ d ∈ T, d < 1000) (hQ : ∀ d ∈ Q, d < 1000) : ∀ (j k : Nat), k + j = min T.length Q.length → jf_X7_sharedPath_14 ty (cst N h0 c) (j + 1) (N + t) (N + u) (i32 ((min T.length Q.length : Nat) : Int)) (i32 k) = some (i32 ((k + shp ((pth T).drop k) ((pth Q).drop k) : Nat) : Int)) := by
  have h60 : T.length ≤ 60 := by have := iT.2.2.2.2.2; omega
  have h60' : Q.length ≤ 60 := by have := iQ.2.2.2.2.2; omega
  intro j
  induction j with
  | zero =>
    intro k hk
    rw [jf_X7_sharedPath_14_s]
    simp (disch := omega) only [i32_lit, i32_neg, i32_add, i32_sub, i32_mul, i32_lt, i32_le, i32_eq, if_pos]
    have : shp ((pth T).drop k) ((pth Q).drop k) = 0 := by
      have := shp_le ((pth T).drop k) ((pth Q).drop k)
      simp only [List.length_drop, pth, List.length_map] at this
      simp only [pth]
      omega
    rw [this, ← hk]
  | succ j ih =>
    intro k hk
    obtain ⟨d, hd⟩ := get_some (L := T) (i := k) (by omega)
    obtain ⟨e, he⟩ := get_some (L := Q) (i := k) (by omega)
    have h1 := hT d (List.mem_of_getElem? hd)
    have h2 := hQ e (List.mem_of_getElem? he)
    have p1 : jf_X7_pathCode ty (cst N h0 c) (N + t) (i32 k) = some (i32 (star d : Nat)) := by
      rw [t_pathCode C iT hT (by omega) (by omega), Int.toNat_natCast, hd]; rfl
    have p2 : jf_X7_pathCode ty (cst N h0 c) (N + u) (i32 k) = some (i32 (star e : Nat)) := by
      rw [t_pathCode C iQ hQ (by omega) (by omega), Int.toNat_natCast, he]; rfl
    have s1 : star d ≤ 100 := by unfold star; omega
    have s2 : star e ≤ 100 := by unfold star; omega
    rw [jf_X7_sharedPath_14_s]
    simp (disch := omega) only [i32_lit, i32_neg, i32_add, i32_sub, i32_mul, i32_lt, i32_le, i32_eq, if_neg, p1, p2, xbs]
    rw [pth_drop hd, pth_drop he]
    simp only [shp]
    by_cases hde : star d = star e
    · rw [if_pos (by omega), if_pos hde, show (k : Int) + 1 = ((k + 1 : Nat) : Int) by omega, ih (k + 1) (by omega)]
      congr 2
      omega
    · rw [if_neg (by omega), if_neg hde]
      rfl
theorem k_shared (C : CH ty N) {T Q : List Nat} {t u rt ru : Nat} {ar : Nat → Nat} (iT : isT c t rt ar T) (iQ : isT c u ru ar Q) (hT : ∀ d ∈ T, d < 1000) (hQ : ∀ d ∈ Q, d < 1000) : jf_X7_sharedPath ty (cst N h0 c) (N + t) (N + u) = some (i32 (shp (pth T) (pth Q) : Nat)) := by
  have h60 : T.length ≤ 60 := by have := iT.2.2.2.2.2; omega
  have h60' : Q.length ≤ 60 := by have := iQ.2.2.2.2.2; omega
  have hlt := ct_lt iT.1
  have hlu := ct_lt iQ.1
  unfold jf_X7_sharedPath
  rw [kI hlt, kI hlu, iT.2.2.2.2.2.2.2.1, iQ.2.2.2.2.2.2.2.1, xmin_i (by omega) (by omega) (by omega) (by omega), show min (T.length : Int) (Q.length : Int) = ((min T.length Q.length : Nat) : Int) by omega]
  have := jf_X7_sharedPath_14_l (k_sh14 (h0 := h0) C iT iQ hT hQ (min T.length Q.length) 0 (by omega))
  rw [List.drop_zero, List.drop_zero, Nat.zero_add] at this
  exact this
theorem r_step (H : MH ty M mm mi h0) (hb : bwf b) (hR : RB I A b) {r k : Nat} (hr : r < bnr b) (hk : k ≤ 100) : jf_X12_stepAt ty (rst mm mi h0 M I A J) M (i32 r) (i32 k) = some (i32 (((bT b r)[k]?.map star).getD 99 : Nat)) := by
  have h16 := hb.2.2.1
  have hT := (hb.2.2.2.2 r hr).1
  have hl := hT.2.1
  have hrow := hR.2.2.2.2.2 r hr
  unfold jf_X12_stepAt
  simp (disch := omega) only [rr_22 H, ga_22 H, xbs, Int.toNat_natCast, hrow.2.1, i32_lit, i32_neg, i32_add, i32_sub, i32_mul, i32_lt, i32_le, i32_eq]
  by_cases w : (k : Int) < ((bT b r).length : Int)
  · obtain ⟨d, hd⟩ := get_some (L := bT b r) (i := k) (by omega)
    have hs := hrow.2.2.1 k d hd
    have hdl := hT.lt hb d (List.mem_of_getElem? hd)
    rw [show (12 * (r : Int) + (k : Int)) = ((12 * r + k : Nat) : Int) by omega]
    simp (disch := omega) only [eq_true w, if_true, rr_23 H, ga_23 H, xbs, Int.toNat_natCast, hs, hd, i32_lit, i32_neg, i32_add, i32_sub, i32_mul, i32_lt, i32_le, i32_eq]
    unfold star
    by_cases h100 : (d : Int) < 100
    · rw [if_pos h100]
      simp only [Option.map_some, Option.getD_some]
      rw [Nat.min_eq_left (by omega)]
    · rw [if_neg h100]
      simp only [Option.map_some, Option.getD_some]
      rw [Nat.min_eq_right (by omega)]
      rfl
  · rw [if_neg w, List.getElem?_eq_none (by omega)]
    rfl
theorem r_sh2 (H : MH ty M mm mi h0) (hb : bwf b) (hR : RB I A b) {r s : Nat} (hr : r < bnr b) (hs : s < bnr b) : ∀ (j k : Nat), k + j = min (bT b r).length (bT b s).length → jf_X12_sharedBy_2 ty (rst mm mi h0 M I A J) (j + 1) M (i32 r) (i32 s) (i32 k) = some (i32 ((k + shp ((pth (bT b r)).drop k) ((pth (bT b s)).drop k) : Nat) : Int)) := by
  have h16 := hb.2.2.1
  have hT := (hb.2.2.2.2 r hr).1
  have hS := (hb.2.2.2.2 s hs).1
  have hl := hT.2.1
  have hl2 := hS.2.1
  intro j
  induction j with
  | zero =>
    intro k hk
    rw [jf_X12_sharedBy_2_s]
    simp (disch := omega) only [rr_22 H, ga_22 H, xbs, Int.toNat_natCast, (hR.2.2.2.2.2 r hr).2.1, (hR.2.2.2.2.2 s hs).2.1, i32_lit, i32_neg, i32_add, i32_sub, i32_mul, i32_lt, i32_le, i32_eq]
    have : shp ((pth (bT b r)).drop k) ((pth (bT b s)).drop k) = 0 := by
      have := shp_le ((pth (bT b r)).drop k) ((pth (bT b s)).drop k)
      simp only [List.length_drop, pth, List.length_map] at this
      simp only [pth]
      omega
    rw [this]
    by_cases w : ((bT b r).length : Int) ≤ (k : Int)
    · rw [if_pos w]; rfl
    · rw [if_neg w, if_pos (by omega)]; rfl
  | succ j ih =>
    intro k hk
    obtain ⟨d, hd⟩ := get_some (L := bT b r) (i := k) (by omega)
    obtain ⟨e, he⟩ := get_some (L := bT b s) (i := k) (by omega)
    have s1 : star d ≤ 100 := by unfold star; omega
    have s2 : star e ≤ 100 := by unfold star; omega
    have p1 := r_step (I := I) (A := A) (J := J) H hb hR hr (show k ≤ 100 by omega)
    have p2 := r_step (I := I) (A := A) (J := J) H hb hR hs (show k ≤ 100 by omega)
    rw [hd] at p1
    rw [he] at p2
    simp only [Option.map_some, Option.getD_some] at p1 p2
    rw [jf_X12_sharedBy_2_s]
    simp (disch := omega) only [rr_22 H, ga_22 H, xbs, Int.toNat_natCast, (hR.2.2.2.2.2 r hr).2.1, (hR.2.2.2.2.2 s hs).2.1, i32_lit, i32_neg, i32_add, i32_sub, i32_mul, i32_lt, i32_le, i32_eq, if_neg, p1, p2]
    rw [pth_drop hd, pth_drop he]
    simp only [shp]
    by_cases hde : star d = star e
    · rw [if_pos (by omega), if_pos hde, show (k : Int) + 1 = ((k + 1 : Nat) : Int) by omega, ih (k + 1) (by omega)]
      congr 2
      omega
    · rw [if_neg (by omega), if_neg hde]
      rfl
theorem r_shared (H : MH ty M mm mi h0) (hb : bwf b) (hR : RB I A b) {r s : Nat} (hr : r < bnr b) (hs : s < bnr b) : jf_X12_sharedBy ty (rst mm mi h0 M I A J) M (i32 r) (i32 s) = some (i32 (shp (pth (bT b r)) (pth (bT b s)) : Nat)) := by
  have := jf_X12_sharedBy_2_l (r_sh2 (I := I) (A := A) (J := J) H hb hR hr hs (min (bT b r).length (bT b s).length) 0 (by omega))
  rw [List.drop_zero, List.drop_zero, Nat.zero_add] at this
  exact this
theorem op_shared (C : CH ty N) (H : MH ty M mm mi hB) (hg : gwf g) (hc : CRep c g) (hr : RRep I A g) {r s : Int} (b1 : -2147483648 ≤ r) (b2 : r < 2147483648) (d1 : -2147483648 ≤ s) (d2 : s < 2147483648) :
    OPp mm mi hB M J g (jf_X11_shared ty (cst N hA c) (N + 0) (i32 r) (i32 s)) (jf_X12_shared ty (rst mm mi hB M I A J) M (i32 r) (i32 s)) := by
  have h16 := hg.1.2.2.1
  have hr2 : RRep (fu I 2 (i32 0)) A g := hr.ks (fun k _ h _ => fu_ne _ _ h) keepA.rf
  unfold jf_X11_shared jf_X12_shared
  simp (disch := omega) only [i32_lit, i32_neg, i32_add, i32_sub, i32_mul, i32_lt, i32_le, i32_eq, rsI, xbs, bI_eq0, k_book C hc.1, k_hasRule hg.1 hc.1.bk hc.2.1 b1 b2, k_hasRule hg.1 hc.1.bk hc.2.1 d1 d2, r_isRule hg.1 hr2.1.2.2.1 b1 b2, r_isRule hg.1 hr2.1.2.2.1 d1 d2]
  cases hR : isR (gb g) r with
  | false =>
    simp only [if_true]
    exact OPp.ret hr rfl rfl
  | true =>
  cases hS : isR (gb g) s with
  | false =>
    simp only [Bool.true_eq_false, if_false, if_true]
    exact OPp.ret hr rfl rfl
  | true =>
  obtain ⟨r, rfl, hrr⟩ := isR_r hR
  obtain ⟨s, rfl, hss⟩ := isR_r hS
  have tr := hc.tm hg hrr
  have ts := hc.tm hg hss
  simp (disch := omega) only [Bool.true_eq_false, if_false, k_termOf C hc.1 hc.1.bk, xbs, kck C tr.1.1, kck C ts.1.1]
  rw [k_shared C tr.1 ts.1 (fun d hd => by have := (hg.lo hrr).cl hg.1 d hd; omega) (fun d hd => by have := (hg.lo hss).cl hg.1 d hd; omega), r_shared H hg.1 hr2.1 hrr hss]
  exact OPp.ret hr rfl rfl
end OPP

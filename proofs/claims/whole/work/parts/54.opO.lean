/-! skip, shared -/
section OPO
variable {ty : xTy} {N M : Nat} {hA hB h0 : xH} {mm mi : Nat → Nat} {c : CS} {I : Nat → Int32} {A : Nat → Nat → Int32} {J : Nat → Int64} {g : Sg} {b : Bk}
theorem r_endRow (H : MH ty M mm mi h0) (hb : bwf b) (hR : RB I A b) {r k : Nat} (hr : r < bnr b) (hk : k < (bT b r).length) : jf_X12_endOf ty (rst mm mi h0 M I A J) (mm 23) (i32 ((12 * r + k : Nat) : Int)) (mm 19) = some (i32 ((12 * r + k + skipN (bar b) 1 ((bT b r).drop k) : Nat) : Int)) := by
  have h16 := hb.2.2.1
  have hT := (hb.2.2.2.2 r hr).1
  have hl := hT.2.1
  obtain ⟨o', ho⟩ := tms_drop hT.1 k (by omega)
  have ho1 : ∃ z, o' = 1 + z := by
    cases o' with
    | zero =>
      have := skipN_all ho
      rw [skipN_zero] at this
      simp at this
      omega
    | succ z => exact ⟨z, by omega⟩
  obtain ⟨z, rfl⟩ := ho1
  refine r_end (H.2 23 (by decide)).2.1 (by decide) ho (fun i d hd => ?_) ((hR.arR hb (fun d hd => hT.cod hb d (List.mem_of_mem_drop hd))).ok H) ?_
  · rw [rA_of H (by decide)]
    rw [List.getElem?_drop] at hd
    have := (hR.2.2.2.2.2 r hr).2.2.1 (k + i) d hd
    rw [← this]
    congr 1
    omega
  · rw [List.length_drop]
    show _ ≤ 384
    omega
theorem op_skip (C : CH ty N) (H : MH ty M mm mi hB) (hg : gwf g) (hc : CRep c g) (hr : RRep I A g) {r k : Int} (b1 : -2147483648 ≤ r) (b2 : r < 2147483648) (f1 : -2147483648 ≤ k) (f2 : k < 2147483648) :
    OPp mm mi hB M J g (jf_X11_skip ty (cst N hA c) (N + 0) (i32 r) (i32 k)) (jf_X12_skip ty (rst mm mi hB M I A J) M (i32 r) (i32 k)) := by
  have h16 := hg.1.2.2.1
  have hr2 : RRep (fu I 2 (i32 0)) A g := hr.ks (fun k _ h _ => fu_ne _ _ h) keepA.rf
  unfold jf_X11_skip jf_X12_skip
  simp (disch := omega) only [i32_lit, i32_neg, i32_add, i32_sub, i32_mul, i32_lt, i32_le, i32_eq, rsI, xbs, bI_eq0, k_book C hc.1, k_hasRule hg.1 hc.1.bk hc.2.1 b1 b2, r_isRule hg.1 hr2.1.2.2.1 b1 b2]
  cases hR : isR (gb g) r with
  | false =>
    simp only [if_true]
    exact OPp.ret hr rfl rfl
  | true =>
  obtain ⟨r, rfl, hrr⟩ := isR_r hR
  obtain ⟨t1, t2, t3, t4⟩ := hc.tm hg hrr
  have lr := (hg.lo hrr).2.1
  have hrow := hr2.1.2.2.2.2.2 r hrr
  simp (disch := omega) only [Bool.true_eq_false, if_false, k_termOf C hc.1 hc.1.bk, xbs, kck C t1.1, kI, t1.2.2.2.2.2.2.2.1, rr_22 H, ga_22 H, Int.toNat_natCast, hrow.2.1, i32_lit, i32_neg, i32_add, i32_sub, i32_mul, i32_lt, i32_le, i32_eq]
  by_cases w1 : 0 ≤ k
  · simp only [eq_true w1, if_true]
    obtain ⟨k, rfl⟩ : ∃ n : Nat, k = n := ⟨k.toNat, by omega⟩
    by_cases w2 : ((bT (gb g) r).length : Int) ≤ (k : Int)
    · simp only [eq_true w2, if_true]
      exact OPp.ret hr rfl rfl
    · have hsk : skipN (bar (gb g)) 1 ((bT (gb g) r).drop k) ≤ 12 := by
        have h1 : ∀ (L : List Nat) (o : Nat), skipN (bar (gb g)) o L ≤ L.length := by
          intro L
          induction L with
          | nil => intro o; cases o <;> simp [skipN]
          | cons d L ih =>
            intro o
            cases o with
            | zero => simp [skipN]
            | succ o =>
              have := ih (o + bar (gb g) d)
              simp only [skipN, List.length_cons]
              omega
        have := h1 ((bT (gb g) r).drop k) 1
        rw [List.length_drop] at this
        omega
      have hb := t_behind (h0 := hA) C t1 (fun d _ => bar_le hg.1 d) (show k ≤ (bT (gb g) r).length by omega)
      have he := r_endRow (J := J) H hg.1 hr2.1 hrr (show k < (bT (gb g) r).length by omega)
      simp only [eq_false w2, if_false, hb, xbs, rr_23 H, rr_19 H]
      rw [show (12 * (r : Int) + (k : Int)) = ((12 * r + k : Nat) : Int) by omega, he]
      refine OPp.ret hr rfl ?_
      simp (disch := omega) only [xbs, i32_lit, i32_neg, i32_add, i32_sub, i32_mul, i32_lt, i32_le, i32_eq]
      rw [show ((12 * r + k + skipN (bar (gb g)) 1 ((bT (gb g) r).drop k) : Nat) : Int) - 12 * (r : Int) = ((k + skipN (bar (gb g)) 1 ((bT (gb g) r).drop k) : Nat) : Int) by omega]
  · simp only [eq_false w1, if_false]
    exact OPp.ret hr rfl rfl
end OPO

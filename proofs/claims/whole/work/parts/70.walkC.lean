/-! finding: the class walks -/
section WALKC
variable {ty : xTy} {N M : Nat} {hA hB h0 : xH} {mm mi : Nat → Nat} {c : CS} {I : Nat → Int32} {A : Nat → Nat → Int32} {J : Nat → Int64} {g : Sg} {b : Bk}
theorem crep_56 (hg : gwf g) (hc : CRep c g) {k : Nat} (hk : k ≠ 4) (v : Int32) : CRep (csI c 234 k v) g := by
  refine crep_pl hg hc fr.rf hc.2.2.2.1 rfl rfl rfl rfl frT.cI ?_
  have h := hc.2.2.2.2.1
  unfold CTr at *
  rw [sI_o (Or.inr (Ne.symm hk))]
  exact h
def wkF (g : Sg) (how r : Nat) : List Nat × Bool := wk (bar (gb g)) how 13 (bT (gb g) r) (gq g) 0
theorem k_w16 (C : CH ty N) (hg : gwf g) (hq : twf (gb g) (gq g)) {how i r : Nat} (hh : how ≤ 2) (hi : (ordL (gb g) (gin g))[i]? = some r) : ∀ (m : Nat) (c : CS) (l p tn v o : Nat), CRep c g → cI c 234 6 = i32 v → l ≤ (bT (gb g) r).length → p ≤ (gq g).length → (gq g).length ≤ p + m → tn ≤ p → v + (bT (gb g) r).length ≤ 10000 + l → tms (bar (gb g)) o ((bT (gb g) r).drop l) → tms (bar (gb g)) o ((gq g).drop p) →
    ∃ n c', jf_X9_walkPath_16 ty n (N + 234) (i32 i) (i32 how) (N + cR c 0 4) (N + (cR c 0 2 + 10 + 6 * r)) (i32 l) (i32 p) (i32 tn) (cst N h0 c) = some (bI (wk (bar (gb g)) how m ((bT (gb g) r).drop l) ((gq g).drop p) l).2, cst N h0 c') ∧ CRep c' g ∧ cR c' = cR c ∧ cI c' 234 6 = i32 ((v + ((wk (bar (gb g)) how m ((bT (gb g) r).drop l) ((gq g).drop p) l).1).countP (fun n => nwA (shE (gb g) n) (ordL (gb g) (gin g)) i) : Nat) : Int) ∧ cI c' 234 5 = cI c 234 5 := by
  have hrr := (ordL_mem.mp (List.mem_of_getElem? hi)).1
  have lT := (hg.lo hrr).2.1
  have lQ := hq.2.1
  have bT3 : ∀ d ∈ bT (gb g) r, bar (gb g) d ≤ 3 ∧ d < 1000 := ((hg.1.2.2.2.2 r hrr).1).ar hg.1
  have bQ3 : ∀ d ∈ gq g, bar (gb g) d ≤ 3 ∧ d < 1000 := hq.ar hg.1
  intro m
  induction m with
  | zero =>
    intro c l p tn v o hc h6 h1 h2 h3 h4 h5 t1 t2
    have hpe : p = (gq g).length := by omega
    rw [List.drop_of_length_le (by omega)] at t2
    have ho : o = 0 := by simpa [tms] using t2
    subst ho
    have hle : (bT (gb g) r).length ≤ l := by
      cases hd : (bT (gb g) r).drop l with
      | nil => exact List.drop_eq_nil_iff.mp hd
      | cons x X => rw [hd] at t1; simp [tms] at t1
    have tr := hc.tm hg hrr
    refine ⟨1, c, ?_, hc, rfl, by simp [wk, h6], rfl⟩
    have hlt := ct_lt tr.1.1
    have hltq := ct_lt hc.2.2.1.1
    rw [jf_X9_walkPath_16_s]
    unfold jf_X9_walkPath_190
    simp (disch := omega) only [k_askn hc, kI hlt, tr.1.2.2.2.2.2.2.2.1, i32_lit, i32_neg, i32_add, i32_sub, i32_mul, i32_lt, i32_le, i32_eq, if_neg, if_pos]
    split <;> simp [wk, bI]
  | succ m ih =>
    intro c l p tn v o hc h6 h1 h2 h3 h4 h5 t1 t2
    have tr := hc.tm hg hrr
    have hlt := ct_lt tr.1.1
    have hltq := ct_lt hc.2.2.1.1
    rcases Nat.lt_or_ge p (gq g).length with hp | hp
    · obtain ⟨q, hqp⟩ := get_some (L := gq g) hp
      have hqd := drop_cons hqp
      rw [hqd] at t2
      obtain ⟨o1, rfl, t2'⟩ := tms_pos t2
      have hll : l < (bT (gb g) r).length := by
        rcases Nat.lt_or_ge l (bT (gb g) r).length with h | h
        · exact h
        · rw [List.drop_of_length_le h] at t1; simp [tms] at t1
      obtain ⟨t, htl⟩ := get_some (L := bT (gb g) r) hll
      have htd := drop_cons htl
      rw [htd] at t1
      obtain ⟨o2, ho2, t1'⟩ := tms_pos t1
      have ho2 : o2 = o1 := by omega
      subst ho2
      have bt := bT3 t (List.mem_of_getElem? htl)
      have bq := bQ3 q (List.mem_of_getElem? hqp)
      have cT : jf_X7_codeAt ty (cst N h0 c) (N + (cR c 0 2 + 10 + 6 * r)) (i32 l) = some (i32 (t : Nat)) := by
        rw [t_codeAt C tr.1 (by omega) (by omega), Int.toNat_natCast, htl]; rfl
      have cQ : jf_X7_codeAt ty (cst N h0 c) (N + cR c 0 4) (i32 p) = some (i32 (q : Nat)) := by
        rw [t_codeAt C hc.2.2.1 (by omega) (by omega), Int.toNat_natCast, hqp]; rfl
      have eT := t_behind (h0 := h0) C tr.1 (fun d hd => (bT3 d hd).1) (p := l) (by omega)
      have eQ := t_behind (h0 := h0) C hc.2.2.1 (fun d hd => (bQ3 d hd).1) (p := p) (by omega)
      rw [htd] at eT
      rw [hqd] at eQ
      have step : ∀ l' p' o', l < l' → l' ≤ (bT (gb g) r).length → p < p' → p' ≤ (gq g).length → tms (bar (gb g)) o' ((bT (gb g) r).drop l') → tms (bar (gb g)) o' ((gq g).drop p') →
          ∃ n c', jf_X9_walkPath_164 ty (jf_X9_walkPath_16 ty n) (N + 234) (i32 i) (i32 how) (N + cR c 0 4) (N + (cR c 0 2 + 10 + 6 * r)) (i32 l') (i32 p') (i32 tn) (cst N h0 c) = some (bI (wk (bar (gb g)) how m ((bT (gb g) r).drop l') ((gq g).drop p') l').2, cst N h0 c') ∧ CRep c' g ∧ cR c' = cR c ∧ cI c' 234 6 = i32 ((v + (l' :: (wk (bar (gb g)) how m ((bT (gb g) r).drop l') ((gq g).drop p') l').1).countP (fun n => nwA (shE (gb g) n) (ordL (gb g) (gin g)) i) : Nat) : Int) ∧ cI c' 234 5 = cI c 234 5 := by
        intro l' p' o' g1 g2 g3 g4 g5 g6
        have hbr := k_brings (h0 := h0) C hg hc hi (n := l') (by omega) (by omega)
        cases hnw : nwA (shE (gb g) l') (ordL (gb g) (gin g)) i with
        | false =>
          obtain ⟨n, c', q1, q2, q3, q4, q5⟩ := ih c l' p' (tn + 1) v o' hc h6 g2 g4 (by omega) (by omega) (by omega) g5 g6
          refine ⟨n, c', ?_, q2, q3, ?_, q5⟩
          · unfold jf_X9_walkPath_164
            simp (disch := omega) only [hbr, hnw, xbs, i32_lit, bI_eq0, if_true, i32_add]
            rw [show (tn : Int) + 1 = ((tn + 1 : Nat) : Int) by omega, q1]
          · rw [q4, List.countP_cons, hnw]
            simp
        | true =>
          obtain ⟨c1, hc1⟩ : ∃ c1, c1 = csI c 234 6 (i32 ((v + 1 : Nat) : Int)) := ⟨_, rfl⟩
          have hcc : CRep c1 g := by rw [hc1]; exact crep_56 hg hc (by decide) _
          have hR1 : cR c1 = cR c := by rw [hc1]; rfl
          obtain ⟨n, c', q1, q2, q3, q4, q5⟩ := ih c1 l' p' (tn + 1) (v + 1) o' hcc (by rw [hc1, sI_s]) g2 g4 (by omega) (by omega) (by omega) g5 g6
          rw [hR1] at q1
          refine ⟨n, c', ?_, q2, q3.trans hR1, ?_, ?_⟩
          · unfold jf_X9_walkPath_164
            simp (disch := omega) only [hbr, hnw, xbs, i32_lit, bI_eq0, Bool.true_eq_false, if_false, i32_add, kI, h6, ksI]
            rw [show (tn : Int) + 1 = ((tn + 1 : Nat) : Int) by omega, show (v : Int) + 1 = ((v + 1 : Nat) : Int) by omega, ← hc1, q1]
          · rw [q4, List.countP_cons, hnw]
            congr 2
            simp
            omega
          · rw [q5, hc1, sI_o (by omega)]
      have hsT := skipN_ps (ar := bar (gb g)) t ((bT (gb g) r).drop (l + 1))
      have hsT2 := skipN_le (ar := bar (gb g)) 1 (t :: (bT (gb g) r).drop (l + 1))
      have hsQ := skipN_ps (ar := bar (gb g)) q ((gq g).drop (p + 1))
      have hsQ2 := skipN_le (ar := bar (gb g)) 1 (q :: (gq g).drop (p + 1))
      simp only [List.length_cons, List.length_drop] at hsT2 hsQ2
      have dT : ∀ s, (t :: (bT (gb g) r).drop (l + 1)).drop s = (bT (gb g) r).drop (l + s) := fun s => by rw [← htd, List.drop_drop]
      have dQ : ∀ s, (q :: (gq g).drop (p + 1)).drop s = (gq g).drop (p + s) := fun s => by rw [← hqd, List.drop_drop]
      have hhead : ∀ n, jf_X9_walkPath_16 ty (n + 1) (N + 234) (i32 i) (i32 how) (N + cR c 0 4) (N + (cR c 0 2 + 10 + 6 * r)) (i32 l) (i32 p) (i32 tn) (cst N h0 c) = if 100 ≤ q then (if 100 ≤ t ∨ how ≠ 0 then jf_X9_walkPath_164 ty (jf_X9_walkPath_16 ty n) (N + 234) (i32 i) (i32 how) (N + cR c 0 4) (N + (cR c 0 2 + 10 + 6 * r)) (i32 ((l + skipN (bar (gb g)) 1 (t :: (bT (gb g) r).drop (l + 1)) : Nat) : Int)) (i32 ((p + 1 : Nat) : Int)) (i32 tn) (cst N h0 c) else some (i32 0, cst N h0 c)) else if 100 ≤ t then (if how ≠ 1 then jf_X9_walkPath_164 ty (jf_X9_walkPath_16 ty n) (N + 234) (i32 i) (i32 how) (N + cR c 0 4) (N + (cR c 0 2 + 10 + 6 * r)) (i32 ((l + 1 : Nat) : Int)) (i32 ((p + skipN (bar (gb g)) 1 (q :: (gq g).drop (p + 1)) : Nat) : Int)) (i32 tn) (cst N h0 c) else some (i32 0, cst N h0 c)) else if t = q then jf_X9_walkPath_164 ty (jf_X9_walkPath_16 ty n) (N + 234) (i32 i) (i32 how) (N + cR c 0 4) (N + (cR c 0 2 + 10 + 6 * r)) (i32 ((l + 1 : Nat) : Int)) (i32 ((p + 1 : Nat) : Int)) (i32 tn) (cst N h0 c) else some (i32 0, cst N h0 c) := by
        intro n
        have l1 : (l : Int) + 1 = ((l + 1 : Nat) : Int) := by omega
        have p1 : (p : Int) + 1 = ((p + 1 : Nat) : Int) := by omega
        have n10 : ¬ (i32 1 = i32 0) := by decide
        rw [jf_X9_walkPath_16_s]
        simp (disch := omega) only [k_askn hc, i32_lit, i32_le, i32_lt, if_neg, cT, cQ, xbs]
        by_cases c1 : 100 ≤ q
        · rw [if_pos c1]
          have c1' : ¬ ((q : Int) < 100) := by omega
          by_cases c2 : 100 ≤ t
          · have c2' : ¬ ((t : Int) < 100) := by omega
            rw [if_pos (Or.inl c2)]
            simp only [eq_false c2', eq_false c1', if_false]
            unfold jf_X9_walkPath_67
            simp only [i32_lit, eq_false n10, if_false, eT, xbs, i32_add, p1]
          · have c2' : (t : Int) < 100 := by omega
            simp only [eq_true c2', eq_false c1', if_false, if_true]
            unfold jf_X9_walkPath_67
            simp only [i32_lit, eq_false n10, if_false, if_true, eT, xbs, i32_add, p1]
            by_cases c3 : how = 0
            · have c3' : i32 (how : Nat) = i32 0 := by rw [c3]; rfl
              have c4 : ¬ (100 ≤ t ∨ how ≠ 0) := by omega
              unfold jf_X9_walkPath_98 jf_X9_walkPath_127
              simp only [i32_lit, eq_true c3', eq_false n10, if_false, if_true, eq_false c4]
            · have c3' : ¬ i32 (how : Nat) = i32 0 := by rw [i32_eq (by omega) (by omega) (by omega) (by omega)]; omega
              have c4 : (100 ≤ t ∨ how ≠ 0) := by omega
              simp only [eq_false c3', if_false, eq_true c4, if_true]
        · rw [if_neg c1]
          have c1' : (q : Int) < 100 := by omega
          by_cases c2 : 100 ≤ t
          · have c2' : ¬ ((t : Int) < 100) := by omega
            rw [if_pos c2]
            simp only [eq_false c2', eq_true c1', if_false, if_true]
            unfold jf_X9_walkPath_67 jf_X9_walkPath_98
            simp only [i32_lit, eq_false n10, if_false, if_true, eQ, xbs, i32_add, l1]
            by_cases c3 : how = 1
            · have c3' : i32 (how : Nat) = i32 1 := by rw [c3]; rfl
              have c4 : ¬ (how ≠ 1) := by omega
              unfold jf_X9_walkPath_127
              simp only [i32_lit, eq_true c3', eq_false n10, if_false, if_true, eq_false c4]
            · have c3' : ¬ i32 (how : Nat) = i32 1 := by rw [i32_eq (by omega) (by omega) (by omega) (by omega)]; omega
              have c4 : how ≠ 1 := by omega
              simp only [eq_false c3', if_false, eq_true c4, if_true]
          · have c2' : (t : Int) < 100 := by omega
            rw [if_neg c2]
            simp only [eq_true c2', eq_true c1', if_true]
            unfold jf_X9_walkPath_67 jf_X9_walkPath_98 jf_X9_walkPath_127
            simp only [i32_lit, if_true, cT, cQ, xbs, i32_add, l1, p1]
            by_cases c3 : t = q
            · rw [if_pos c3]
              have c3' : i32 (t : Nat) = i32 (q : Nat) := by rw [c3]
              simp only [eq_true c3', if_true]
            · rw [if_neg c3]
              have c3' : ¬ i32 (t : Nat) = i32 (q : Nat) := by rw [i32_eq (by omega) (by omega) (by omega) (by omega)]; omega
              simp only [eq_false c3', if_false]
      rw [htd, hqd]
      simp only [wk]
      rw [dT, dQ]
      by_cases c1 : 100 ≤ q
      · rw [if_pos c1]
        have hq0 : bar (gb g) q = 0 := bar_z _ q c1
        rw [hq0, Nat.add_zero] at t2'
        by_cases c2 : 100 ≤ t ∨ how ≠ 0
        · rw [if_pos c2]
          have ts := (tms_split (o := 1) (o' := o2) (by rw [Nat.add_comm]; exact t1)).2.1
          rw [dT] at ts
          obtain ⟨n, c', q1, q2, q3, q4, q5⟩ := step (l + skipN (bar (gb g)) 1 (t :: (bT (gb g) r).drop (l + 1))) (p + 1) o2 (by omega) (by omega) (by omega) (by omega) ts t2'
          refine ⟨n + 1, c', ?_, q2, q3, q4, q5⟩
          rw [hhead, if_pos c1, if_pos c2, q1]
          rfl
        · rw [if_neg c2]
          refine ⟨1, c, ?_, hc, rfl, by simp [h6], rfl⟩
          rw [hhead 0, if_pos c1, if_neg c2]
          rfl
      · rw [if_neg c1]
        by_cases c2 : 100 ≤ t
        · rw [if_pos c2]
          have ht0 : bar (gb g) t = 0 := bar_z _ t c2
          rw [ht0, Nat.add_zero] at t1'
          by_cases c3 : how ≠ 1
          · rw [if_pos c3]
            have ts := (tms_split (o := 1) (o' := o2) (by rw [Nat.add_comm]; exact t2)).2.1
            rw [dQ] at ts
            obtain ⟨n, c', q1, q2, q3, q4, q5⟩ := step (l + 1) (p + skipN (bar (gb g)) 1 (q :: (gq g).drop (p + 1))) o2 (by omega) (by omega) (by omega) (by omega) t1' ts
            refine ⟨n + 1, c', ?_, q2, q3, q4, q5⟩
            rw [hhead, if_neg c1, if_pos c2, if_pos c3, q1]
            rfl
          · rw [if_neg c3]
            refine ⟨1, c, ?_, hc, rfl, by simp [h6], rfl⟩
            rw [hhead 0, if_neg c1, if_pos c2, if_neg c3]
            rfl
        · rw [if_neg c2]
          by_cases c3 : t = q
          · rw [if_pos c3]
            obtain ⟨n, c', q1, q2, q3, q4, q5⟩ := step (l + 1) (p + 1) (o2 + bar (gb g) q) (by omega) (by omega) (by omega) (by omega) (by rw [← c3]; exact t1') t2'
            refine ⟨n + 1, c', ?_, q2, q3, q4, q5⟩
            rw [hhead, if_neg c1, if_neg c2, if_pos c3, q1]
            rfl
          · rw [if_neg c3]
            refine ⟨1, c, ?_, hc, rfl, by simp [h6], rfl⟩
            rw [hhead 0, if_neg c1, if_neg c2, if_neg c3]
            rfl
    · have hpe : (gq g).drop p = [] := List.drop_of_length_le hp
      rw [hpe] at t2 ⊢
      have ho : o = 0 := by simpa [tms] using t2
      subst ho
      have hle : (bT (gb g) r).length ≤ l := by
        cases hd : (bT (gb g) r).drop l with
        | nil => exact List.drop_eq_nil_iff.mp hd
        | cons x X => rw [hd] at t1; simp [tms] at t1
      rw [List.drop_of_length_le hle]
      refine ⟨1, c, ?_, hc, rfl, by simp [wk, h6], rfl⟩
      rw [jf_X9_walkPath_16_s]
      unfold jf_X9_walkPath_190
      simp (disch := omega) only [k_askn hc, kI hlt, tr.1.2.2.2.2.2.2.2.1, i32_lit, i32_neg, i32_add, i32_sub, i32_mul, i32_lt, i32_le, i32_eq, if_neg, if_pos]
      split <;> simp [wk, bI]
end WALKC

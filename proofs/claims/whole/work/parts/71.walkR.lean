/-! finding: the model follows; both -/
section WALKR
variable {ty : xTy} {N M : Nat} {hA hB h0 : xH} {mm mi : Nat → Nat} {c : CS} {I : Nat → Int32} {A : Nat → Nat → Int32} {J : Nat → Int64} {g : Sg} {b : Bk}
theorem wk_len {ar : Nat → Nat} (how : Nat) : ∀ (n : Nat) (T Q : List Nat) (l : Nat), (wk ar how n T Q l).1.length ≤ T.length
  | 0, _, _, _ => by simp [wk]
  | n + 1, [], _, _ => by simp [wk]
  | n + 1, _ :: _, [], _ => by simp [wk]
  | n + 1, t :: T, q :: Q, l => by
    simp only [wk]
    have hs := skipN_ps (ar := ar) t T
    have hs2 := skipN_le (ar := ar) 1 (t :: T)
    simp only [List.length_cons] at hs2
    split
    · split
      · have := wk_len (ar := ar) how n ((t :: T).drop (skipN ar 1 (t :: T))) Q (l + skipN ar 1 (t :: T))
        rw [List.length_drop, List.length_cons] at this
        simp only [wcs, List.length_cons]
        omega
      · simp
    · split
      · split
        · have := wk_len (ar := ar) how n T ((q :: Q).drop (skipN ar 1 (q :: Q))) (l + 1)
          simp only [wcs, List.length_cons]
          omega
        · simp
      · split
        · have := wk_len (ar := ar) how n T Q (l + 1)
          simp only [wcs, List.length_cons]
          omega
        · simp
def wkW (g : Sg) (how r : Nat) : List Nat := (wkF g how r).1
def wkS (g : Sg) (how r : Nat) : Bool := (wkF g how r).2
theorem wkW_len (hg : gwf g) (how : Nat) {r : Nat} (hr : r < bnr (gb g)) : (wkW g how r).length ≤ 12 := Nat.le_trans (wk_len how 13 _ _ 0) (hg.lo hr).2.1
theorem vt_le (hg : gwf g) (how : Nat) {r : Nat} (hr : r < bnr (gb g)) (l : List Nat) : vt (gb g) (wkW g how) l r ≤ 12 := Nat.le_trans List.countP_le_length (wkW_len hg how hr)
theorem vsum_le (hg : gwf g) (how : Nat) : ∀ l : List Nat, (∀ x ∈ l, x < bnr (gb g)) → vsum (gb g) (wkW g how) l ≤ 12 * l.length
  | [], _ => by simp [vsum]
  | x :: l, h => by
    have h1 := vsum_le hg how l (fun y hy => h y (List.mem_cons_of_mem _ hy))
    have h2 := vt_le hg how (h x List.mem_cons_self) l
    simp only [vsum, List.length_cons]
    omega
theorem vt_nw (hg : gwf g) {how i r : Nat} (hi : (ordL (gb g) (gin g))[i]? = some r) : (wkW g how r).countP (fun n => nwA (shE (gb g) n) (ordL (gb g) (gin g)) i) = vt (gb g) (wkW g how) ((ordL (gb g) (gin g)).take i) r := by
  unfold vt
  refine List.countP_congr (fun n hn => ?_)
  have := ((wk_in how 13 (bT (gb g) r) (gq g) 0).2 n hn).2
  have hE : shE (gb g) n r r = true := by
    unfold shE
    rw [shp_self, decide_eq_true_iff]
    simp only [pth, List.length_map]
    omega
  simp only [nwA, hi, hE, Bool.true_and]
theorem vsum_eq (hg : gwf g) (how : Nat) : vsum (gb g) (wkW g how) (ordL (gb g) (gin g)).reverse = vsum (gb g) (wkW g how) (inL (gin g) (bnr (gb g))).reverse := by
  refine vsum_perm _ (fun r => wk_nodup how 13 _ _ 0) ((List.reverse_perm _).trans ((ordL_perm (gin g)).trans (List.reverse_perm _).symm)) ?_
  intro x hx y hy n hn hE
  have hx' := (ordL_mem.mp (List.mem_reverse.mp hx)).1
  unfold shE at hE
  rw [decide_eq_true_iff] at hE
  exact wk_pre (bar_z (gb g)) how 13 _ _ _ 0 1 n (hg.lo hx').1 hn (by omega)
theorem k_walkP (C : CH ty N) (hg : gwf g) (hq : twf (gb g) (gq g)) {how i r v : Nat} (hh : how ≤ 2) (hi : (ordL (gb g) (gin g))[i]? = some r) (hc : CRep c g) (h6 : cI c 234 6 = i32 v) (hv : v ≤ 5000) :
    ∃ c', jf_X9_walkPath ty (cst N h0 c) (N + 234) (i32 i) (i32 how) (N + cR c 0 4) = some (bI (wkS g how r), cst N h0 c') ∧ CRep c' g ∧ cR c' = cR c ∧ cI c' 234 6 = i32 ((v + vt (gb g) (wkW g how) ((ordL (gb g) (gin g)).take i) r : Nat) : Int) ∧ cI c' 234 5 = cI c 234 5 := by
  obtain ⟨t1, t2, hrr, hin⟩ := k_termAt (h0 := h0) C hg hc hi
  have l12 := (hg.lo hrr).2.1
  have q12 := hq.2.1
  obtain ⟨n, c', q1, q2, q3, q4, q5⟩ := k_w16 (h0 := h0) C hg hq hh hi 13 c 0 0 0 v 1 hc h6 (by omega) (by omega) (by omega) (by omega) (by omega) (by rw [List.drop_zero]; exact (hg.lo hrr).1) (by rw [List.drop_zero]; exact hq.1)
  rw [List.drop_zero, List.drop_zero] at q1 q4
  refine ⟨c', ?_, q2, q3, ?_, q5⟩
  · unfold jf_X9_walkPath
    simp only [t1, xbs, kck C t2.1]
    exact jf_X9_walkPath_16_l q1
  · rw [q4]
    have := vt_nw hg (how := how) hi
    unfold wkW wkF at this
    rw [this]
    rfl
theorem k_walk12 (C : CH ty N) (hg : gwf g) (hq : twf (gb g) (gq g)) {how : Nat} (hh : how ≤ 2) : ∀ (k i : Nat) (c : CS), i + k = (ordL (gb g) (gin g)).length → CRep c g → cI c 234 6 = i32 (vsum (gb g) (wkW g how) ((ordL (gb g) (gin g)).take i).reverse) → cI c 234 5 = i32 (((ordL (gb g) (gin g)).take i).countP (wkS g how)) →
    ∃ n c', jf_X9_walk_12 ty n (N + 234) (i32 how) (N + cR c 0 4) (i32 i) (cst N h0 c) = some (cst N h0 c') ∧ CRep c' g ∧ cR c' = cR c ∧ cI c' 234 6 = i32 (vsum (gb g) (wkW g how) (ordL (gb g) (gin g)).reverse) ∧ cI c' 234 5 = i32 ((ordL (gb g) (gin g)).countP (wkS g how)) := by
  have hl := ordL_len hg.1 (gin g)
  intro k
  induction k with
  | zero =>
    intro i c h1 hc h6 h5
    rw [List.take_of_length_le (by omega)] at h6 h5
    refine ⟨1, c, ?_, hc, rfl, h6, h5⟩
    rw [jf_X9_walk_12_s]
    simp (disch := omega) only [k_tn hc, i32_lit, i32_neg, i32_add, i32_sub, i32_mul, i32_lt, i32_le, i32_eq, if_pos]
  | succ k ih =>
    intro i c h1 hc h6 h5
    obtain ⟨r, hr⟩ := get_some (L := ordL (gb g) (gin g)) (i := i) (by omega)
    have hb1 := vsum_le hg how ((ordL (gb g) (gin g)).take i).reverse (fun x hx => (ordL_mem.mp (List.mem_of_mem_take (List.mem_reverse.mp hx))).1)
    have hb2 := List.length_take_le i (ordL (gb g) (gin g))
    have hb3 : ((ordL (gb g) (gin g)).take i).countP (wkS g how) ≤ i := Nat.le_trans List.countP_le_length hb2
    rw [List.length_reverse] at hb1
    obtain ⟨c1, q1, q2, q3, q4, q5⟩ := k_walkP (h0 := h0) C hg hq hh hr hc h6 (by omega)
    have e6 : cI c1 234 6 = i32 (vsum (gb g) (wkW g how) ((ordL (gb g) (gin g)).take (i + 1)).reverse) := by
      rw [q4, vsum_take _ hr]
    have e5 : ((ordL (gb g) (gin g)).take (i + 1)).countP (wkS g how) = ((ordL (gb g) (gin g)).take i).countP (wkS g how) + if wkS g how r then 1 else 0 := by
      rw [List.take_add_one, hr, List.countP_append]
      simp [Option.toList, List.countP_cons]
    cases hw : wkS g how r with
    | false =>
      rw [hw] at e5 q1
      obtain ⟨n, c', p1, p2, p3, p4⟩ := ih (i + 1) c1 (by omega) q2 e6 (by rw [q5, h5, e5]; simp)
      rw [q3] at p1
      refine ⟨n + 1, c', ?_, p2, p3.trans q3, p4⟩
      rw [jf_X9_walk_12_s, ← p1]
      simp (disch := omega) only [k_tn hc, i32_lit, i32_neg, i32_add, i32_sub, i32_mul, i32_lt, i32_le, i32_eq, if_neg, q1, xb2s, bI_eq0, if_true]
      rw [show (i : Int) + 1 = ((i + 1 : Nat) : Int) by omega]
    | true =>
      rw [hw] at e5 q1
      obtain ⟨c2, hc2⟩ : ∃ c2, c2 = csI c1 234 5 (i32 ((((ordL (gb g) (gin g)).take i).countP (wkS g how) + 1 : Nat) : Int)) := ⟨_, rfl⟩
      have hR2 : cR c2 = cR c := by rw [hc2]; exact q3
      obtain ⟨n, c', p1, p2, p3, p4⟩ := ih (i + 1) c2 (by omega) (by rw [hc2]; exact crep_56 hg q2 (by decide) _) (by rw [hc2, sI_o (by omega)]; exact e6) (by rw [hc2, sI_s, e5]; rfl)
      rw [hR2] at p1
      refine ⟨n + 1, c', ?_, p2, p3.trans hR2, p4⟩
      have q5' : cI c1 234 5 = i32 (((ordL (gb g) (gin g)).take i).countP (wkS g how)) := q5.trans h5
      rw [jf_X9_walk_12_s, ← p1]
      simp (disch := omega) only [k_tn hc, i32_lit, i32_neg, i32_add, i32_sub, i32_mul, i32_lt, i32_le, i32_eq, if_neg, q1, xb2s, bI_eq0, Bool.true_eq_false, if_false, kI, q5', ksI, xbs]
      rw [show (i : Int) + 1 = ((i + 1 : Nat) : Int) by omega, show ((((ordL (gb g) (gin g)).take i).countP (wkS g how) : Nat) : Int) + 1 = ((((ordL (gb g) (gin g)).take i).countP (wkS g how) + 1 : Nat) : Int) by omega, ← hc2]
theorem k_walk (C : CH ty N) (hg : gwf g) (hq : twf (gb g) (gq g)) {how : Nat} (hh : how ≤ 2) (hc : CRep c g) :
    ∃ c', jf_X9_walk ty (cst N h0 c) (N + 234) (i32 how) (N + cR c 0 4) = some (cst N h0 c') ∧ CRep c' g ∧ cI c' 234 6 = i32 (vsum (gb g) (wkW g how) (ordL (gb g) (gin g)).reverse) ∧ cI c' 234 5 = i32 ((ordL (gb g) (gin g)).countP (wkS g how)) := by
  obtain ⟨c1, hc1⟩ : ∃ c1, c1 = csI c 234 5 (i32 0) := ⟨_, rfl⟩
  obtain ⟨c2, hc2⟩ : ∃ c2, c2 = csI c1 234 6 (i32 0) := ⟨_, rfl⟩
  have h1 : CRep c1 g := by rw [hc1]; exact crep_56 hg hc (by decide) _
  have h2 : CRep c2 g := by rw [hc2]; exact crep_56 hg h1 (by decide) _
  have hR : cR c2 = cR c := by rw [hc2, hc1]; rfl
  obtain ⟨n, c', p1, p2, p3, p4⟩ := k_walk12 (h0 := h0) C hg hq hh (ordL (gb g) (gin g)).length 0 c2 (by omega) h2 (by rw [hc2, sI_s]; rfl) (by rw [hc2, sI_o (by omega), hc1, sI_s]; rfl)
  rw [hR] at p1
  refine ⟨c', ?_, p2, p4⟩
  unfold jf_X9_walk
  simp (disch := omega) only [ksI, xbs, i32_lit]
  rw [← hc1, ← hc2]
  exact jf_X9_walk_12_l p1
/-- the model -/
theorem r_endQ (H : MH ty M mm mi h0) (hb : bwf b) (hR : RB I A b) {Q : List Nat} (hQ : twf b Q) (hs : seg (A 27) 0 Q) {k : Nat} (hk : k < Q.length) : jf_X12_endOf ty (rst mm mi h0 M I A J) (mm 27) (i32 ((k : Nat) : Int)) (mm 19) = some (i32 ((k + skipN (bar b) 1 (Q.drop k) : Nat) : Int)) := by
  have hl := hQ.2.1
  obtain ⟨o', ho⟩ := tms_drop hQ.1 k (by omega)
  have ho1 : ∃ z, o' = 1 + z := by
    cases o' with
    | zero =>
      have := skipN_all ho
      rw [skipN_zero] at this
      simp at this
      omega
    | succ z => exact ⟨z, by omega⟩
  obtain ⟨z, rfl⟩ := ho1
  refine r_end (H.2 27 (by decide)).2.1 (by decide) ho (fun i d hd => ?_) ((hR.arR hb (fun d hd => hQ.cod hb d (List.mem_of_mem_drop hd))).ok H) ?_
  · rw [rA_of H (by decide)]
    rw [List.getElem?_drop] at hd
    have := hs _ d hd
    rw [Nat.zero_add] at this
    exact this
  · rw [List.length_drop]
    show k + (Q.length - k) ≤ 60
    omega
theorem r_f5 (H : MH ty M mm mi h0) (hg : gwf g) (hq : twf (gb g) (gq g)) {how r : Nat} (hh : how ≤ 2) (hr : r < bnr (gb g)) : ∀ (m : Nat) (I : Nat → Int32) (l p v u o : Nat), RRep I A g → I 42 = i32 v → I 43 = i32 u → u ≤ 1000 → l ≤ (bT (gb g) r).length → p ≤ (gq g).length → (gq g).length ≤ p + m → v + (bT (gb g) r).length ≤ 10000 + l → tms (bar (gb g)) o ((bT (gb g) r).drop l) → tms (bar (gb g)) o ((gq g).drop p) →
    ∃ n I', jf_X12_follows_5 ty n M (i32 how) (i32 r) (i32 l) (i32 p) (rst mm mi h0 M I A J) = some (rst mm mi h0 M I' A J) ∧ (∀ k, k ≠ 42 → k ≠ 43 → I' k = I k) ∧ I' 42 = i32 ((v + ((wk (bar (gb g)) how m ((bT (gb g) r).drop l) ((gq g).drop p) l).1).countP (fun n => !((inL (gin g) r).any (fun y => shE (gb g) n y r))) : Nat) : Int) ∧ I' 43 = i32 ((u + if (wk (bar (gb g)) how m ((bT (gb g) r).drop l) ((gq g).drop p) l).2 then 1 else 0 : Nat) : Int) := by
  have h16 := hg.1.2.2.1
  have lT := (hg.lo hr).2.1
  have lQ := hq.2.1
  have bT3 : ∀ d ∈ bT (gb g) r, bar (gb g) d ≤ 3 ∧ d < 1000 := ((hg.1.2.2.2.2 r hr).1).ar hg.1
  have bQ3 : ∀ d ∈ gq g, bar (gb g) d ≤ 3 ∧ d < 1000 := hq.ar hg.1
  have hend : ∀ (m : Nat) (I : Nat → Int32) (l p v u : Nat), RRep I A g → I 42 = i32 v → I 43 = i32 u → u ≤ 1000 → l ≤ 12 → (bT (gb g) r).length ≤ l → ∃ n I', jf_X12_follows_5 ty n M (i32 how) (i32 r) (i32 l) (i32 p) (rst mm mi h0 M I A J) = some (rst mm mi h0 M I' A J) ∧ (∀ k, k ≠ 42 → k ≠ 43 → I' k = I k) ∧ I' 42 = i32 v ∧ I' 43 = i32 ((u + 1 : Nat) : Int) := by
    intro m I l p v u hR e42 e43 hu hl12 hl
    refine ⟨1, fu I 43 (i32 ((u + 1 : Nat) : Int)), ?_, fun k _ h => fu_ne _ _ h, by rw [fu_ne _ _ (by decide)]; exact e42, fu_same _ _ _⟩
    rw [jf_X12_follows_5_s]
    simp (disch := omega) only [rr_22 H, ga_22 H, xbs, Int.toNat_natCast, (hR.1.2.2.2.2.2 r hr).2.1, i32_lit, i32_neg, i32_add, i32_sub, i32_mul, i32_lt, i32_le, i32_eq, if_pos, rI, e43, rsI]
    rw [show (u : Int) + 1 = ((u + 1 : Nat) : Int) by omega]
  intro m
  induction m with
  | zero =>
    intro I l p v u o hR e42 e43 hu h1 h2 h3 h5 t1 t2
    rw [List.drop_of_length_le (by omega)] at t2
    have ho : o = 0 := by simpa [tms] using t2
    subst ho
    have hle : (bT (gb g) r).length ≤ l := by
      cases hd : (bT (gb g) r).drop l with
      | nil => exact List.drop_eq_nil_iff.mp hd
      | cons x X => rw [hd] at t1; simp [tms] at t1
    obtain ⟨n, I', q1, q2, q3, q4⟩ := hend 0 I l p v u hR e42 e43 hu (by omega) hle
    exact ⟨n, I', q1, q2, by rw [q3]; simp [wk], by rw [q4]; simp [wk]⟩
  | succ m ih =>
    intro I l p v u o hR e42 e43 hu h1 h2 h3 h5 t1 t2
    rcases Nat.lt_or_ge p (gq g).length with hp | hp
    · obtain ⟨q, hqp⟩ := get_some (L := gq g) hp
      have hqd := drop_cons hqp
      rw [hqd] at t2
      obtain ⟨o1, rfl, t2'⟩ := tms_pos t2
      have hll : l < (bT (gb g) r).length := by
        rcases Nat.lt_or_ge l (bT (gb g) r).length with h | h
        · exact h
        · rw [List.drop_of_length_le h] at t1; simp [tms] at t1
      obtain ⟨t, htl⟩ := get_some (L := bT (gb g) r) hll
      have htd := drop_cons htl
      rw [htd] at t1
      obtain ⟨o2, ho2, t1'⟩ := tms_pos t1
      have ho2 : o2 = o1 := by omega
      subst ho2
      have bt := bT3 t (List.mem_of_getElem? htl)
      have bq := bQ3 q (List.mem_of_getElem? hqp)
      have cT := r_step (I := I) (A := A) (J := J) H hg.1 hR.1 hr (show l ≤ 100 by omega)
      rw [htl] at cT
      simp only [Option.map_some, Option.getD_some] at cT
      have cQ : A 27 p = i32 (q : Nat) := by
        have := seg_get hR.2.2.1.1 hqp
        rw [Nat.zero_add] at this
        exact this
      have eT := r_endRow (I := I) (A := A) (J := J) H hg.1 hR.1 hr hll
      have eQ := r_endQ (I := I) (A := A) (J := J) H hg.1 hR.1 hq hR.2.2.1.1 hp
      rw [htd] at eT
      rw [hqd] at eQ
      have step : ∀ l' p' o', l < l' → l' ≤ (bT (gb g) r).length → p < p' → p' ≤ (gq g).length → tms (bar (gb g)) o' ((bT (gb g) r).drop l') → tms (bar (gb g)) o' ((gq g).drop p') →
          ∃ n I', jf_X12_follows_169 ty (jf_X12_follows_5 ty n) M (i32 how) (i32 r) (i32 p') (i32 l') (rst mm mi h0 M I A J) = some (rst mm mi h0 M I' A J) ∧ (∀ k, k ≠ 42 → k ≠ 43 → I' k = I k) ∧ I' 42 = i32 ((v + (l' :: (wk (bar (gb g)) how m ((bT (gb g) r).drop l') ((gq g).drop p') l').1).countP (fun n => !((inL (gin g) r).any (fun y => shE (gb g) n y r))) : Nat) : Int) ∧ I' 43 = i32 ((u + if (wk (bar (gb g)) how m ((bT (gb g) r).drop l') ((gq g).drop p') l').2 then 1 else 0 : Nat) : Int) := by
        intro l' p' o' g1 g2 g3 g4 g5 g6
        have hf := r_first (J := J) H hg.1 hR.1 hg.z hR.2.1 hr (n := l') (by omega)
        obtain ⟨nw, hnw⟩ : ∃ nw, nw = !((inL (gin g) r).any (fun y => shE (gb g) l' y r)) := ⟨_, rfl⟩
        obtain ⟨I1, hI1⟩ : ∃ I1, I1 = fu I 42 (i32 ((v + if nw then 1 else 0 : Nat) : Int)) := ⟨_, rfl⟩
        have k1 : ∀ k, k ≠ 42 → I1 k = I k := fun k h => by rw [hI1, fu_ne _ _ h]
        have hR1 : RRep I1 A g := hR.keep (fun k hk => k1 k (fun z => by subst z; revert hk; decide)) keepA.rf
        obtain ⟨n, I', q1, q2, q3, q4⟩ := ih I1 l' p' (v + if nw then 1 else 0) u o' hR1 (by rw [hI1, fu_same]) (by rw [k1 43 (by decide)]; exact e43) hu g2 g4 (by omega) (by split <;> omega) g5 g6
        refine ⟨n, I', ?_, fun k a1 a2 => (q2 k a1 a2).trans (k1 k a1), ?_, q4⟩
        · unfold jf_X12_follows_169
          rw [hf, ← hnw, xbs]
          simp (disch := omega) only [i32_lit, bI_eq0, rI, e42, i32_add, xbs, rsI]
          cases nw with
          | false =>
            rw [if_pos rfl, Int.add_zero]
            rw [show (v + if false = true then 1 else 0 : Nat) = v from rfl] at hI1
            rw [← hI1, q1]
          | true =>
            rw [if_neg (by decide), show (v : Int) + 1 = ((v + 1 : Nat) : Int) by omega]
            rw [show (v + if true = true then 1 else 0 : Nat) = v + 1 from rfl] at hI1
            rw [← hI1, q1]
        · rw [q3, List.countP_cons, ← hnw]
          congr 2
          cases nw <;> simp <;> omega
      have hsT := skipN_ps (ar := bar (gb g)) t ((bT (gb g) r).drop (l + 1))
      have hsT2 := skipN_le (ar := bar (gb g)) 1 (t :: (bT (gb g) r).drop (l + 1))
      have hsQ := skipN_ps (ar := bar (gb g)) q ((gq g).drop (p + 1))
      have hsQ2 := skipN_le (ar := bar (gb g)) 1 (q :: (gq g).drop (p + 1))
      simp only [List.length_cons, List.length_drop] at hsT2 hsQ2
      have dT : ∀ s, (t :: (bT (gb g) r).drop (l + 1)).drop s = (bT (gb g) r).drop (l + s) := fun s => by rw [← htd, List.drop_drop]
      have dQ : ∀ s, (q :: (gq g).drop (p + 1)).drop s = (gq g).drop (p + s) := fun s => by rw [← hqd, List.drop_drop]
      have hsk1 : 100 ≤ t → skipN (bar (gb g)) 1 (t :: (bT (gb g) r).drop (l + 1)) = 1 := fun h => by
        simp only [skipN]
        rw [bar_z _ t h, Nat.add_zero, skipN_zero]
      have hs100 : star t ≤ 100 := by unfold star; omega
      have hhead : ∀ n, jf_X12_follows_5 ty (n + 1) M (i32 how) (i32 r) (i32 l) (i32 p) (rst mm mi h0 M I A J) = if 100 ≤ q then (if 100 ≤ t ∨ how ≠ 0 then jf_X12_follows_169 ty (jf_X12_follows_5 ty n) M (i32 how) (i32 r) (i32 ((p + 1 : Nat) : Int)) (i32 ((l + skipN (bar (gb g)) 1 (t :: (bT (gb g) r).drop (l + 1)) : Nat) : Int)) (rst mm mi h0 M I A J) else some (rst mm mi h0 M I A J)) else if 100 ≤ t then (if how ≠ 1 then jf_X12_follows_169 ty (jf_X12_follows_5 ty n) M (i32 how) (i32 r) (i32 ((p + skipN (bar (gb g)) 1 (q :: (gq g).drop (p + 1)) : Nat) : Int)) (i32 ((l + 1 : Nat) : Int)) (rst mm mi h0 M I A J) else some (rst mm mi h0 M I A J)) else if t = q then jf_X12_follows_169 ty (jf_X12_follows_5 ty n) M (i32 how) (i32 r) (i32 ((p + 1 : Nat) : Int)) (i32 ((l + 1 : Nat) : Int)) (rst mm mi h0 M I A J) else some (rst mm mi h0 M I A J) := by
        intro n
        have l1 : (l : Int) + 1 = ((l + 1 : Nat) : Int) := by omega
        have p1 : (p : Int) + 1 = ((p + 1 : Nat) : Int) := by omega
        have n10 : ¬ (i32 1 = i32 0) := by decide
        have r12 : (12 : Int) * (r : Int) + (l : Int) = ((12 * r + l : Nat) : Int) := by omega
        rw [jf_X12_follows_5_s]
        simp (disch := omega) only [rr_22 H, ga_22 H, rr_27 H, ga_27 H, xbs, Int.toNat_natCast, (hR.1.2.2.2.2.2 r hr).2.1, i32_lit, i32_le, i32_lt, if_neg, cT, cQ, rI, hR.2.2.1.2.1]
        by_cases c1 : 100 ≤ q
        · rw [if_pos c1]
          have c1' : ¬ ((q : Int) < 100) := by omega
          simp only [eq_false c1', if_false]
          unfold jf_X12_follows_49
          simp only [i32_lit, eq_false n10, if_false]
          by_cases c3 : how = 0
          · have c3' : i32 (how : Nat) = i32 0 := by rw [c3]; rfl
            have c3l : i32 (how : Nat) ≤ i32 0 := by rw [c3]; decide
            simp only [eq_true c3', if_true]
            by_cases c2 : 100 ≤ t
            · have c2' : i32 (star t : Nat) = i32 100 := by unfold star; rw [Nat.min_eq_right c2]; rfl
              have c4 : 100 ≤ t ∨ how ≠ 0 := Or.inl c2
              simp only [eq_true c2', if_true, eq_true c4]
              unfold jf_X12_follows_98 jf_X12_follows_130
              simp only [i32_lit, eq_false n10, if_false, eq_true c3l, if_true, i32_add, l1, p1]
              rw [hsk1 c2]
            · have c2' : ¬ i32 (star t : Nat) = i32 100 := by rw [i32_eq (by omega) (by omega) (by omega) (by omega)]; unfold star; omega
              have c4 : ¬ (100 ≤ t ∨ how ≠ 0) := by omega
              simp only [eq_false c2', if_false, eq_false c4]
          · have c3' : ¬ i32 (how : Nat) = i32 0 := by rw [i32_eq (by omega) (by omega) (by omega) (by omega)]; omega
            have c3l : ¬ i32 (how : Nat) ≤ i32 0 := by rw [i32_le (by omega) (by omega) (by omega) (by omega)]; omega
            have c4 : 100 ≤ t ∨ how ≠ 0 := Or.inr c3
            simp only [eq_false c3', if_false, eq_true c4, if_true]
            unfold jf_X12_follows_98 jf_X12_follows_130
            simp only [i32_lit, eq_false n10, if_false, eq_false c3l, rr_23 H, rr_19 H, xbs, i32_mul, i32_add, r12, eT, i32_sub, p1]
            congr 2
            omega
        · rw [if_neg c1]
          have c1' : (q : Int) < 100 := by omega
          simp only [eq_true c1', if_true]
          unfold jf_X12_follows_49
          simp only [i32_lit, if_true]
          by_cases c2 : 100 ≤ t
          · have c2' : i32 (star t : Nat) = i32 100 := by unfold star; rw [Nat.min_eq_right c2]; rfl
            rw [if_pos c2]
            simp only [eq_true c2', if_true]
            by_cases c3 : how = 1
            · have c3' : i32 (how : Nat) = i32 1 := by rw [c3]; rfl
              have c4 : ¬ (how ≠ 1) := by omega
              simp only [eq_true c3', if_true, eq_false c4, if_false]
            · have c3' : ¬ i32 (how : Nat) = i32 1 := by rw [i32_eq (by omega) (by omega) (by omega) (by omega)]; omega
              have c4 : how ≠ 1 := by omega
              simp only [eq_false c3', if_false, eq_true c4, if_true]
              unfold jf_X12_follows_98 jf_X12_follows_130
              simp only [i32_lit, if_true, rr_27 H, rr_19 H, xbs, eQ, i32_add, l1, eq_true c2']
          · have c2' : ¬ i32 (star t : Nat) = i32 100 := by rw [i32_eq (by omega) (by omega) (by omega) (by omega)]; unfold star; omega
            have est : star t = t := by unfold star; omega
            rw [if_neg c2]
            simp (disch := omega) only [eq_false c2', if_false, rr_27 H, ga_27 H, xbs, Int.toNat_natCast, cQ]
            rw [est] at c2' ⊢
            by_cases c3 : t = q
            · rw [if_pos c3]
              have c3' : i32 (t : Nat) = i32 (q : Nat) := by rw [c3]
              simp only [eq_true c3', if_true]
              unfold jf_X12_follows_98 jf_X12_follows_130
              simp only [i32_lit, if_true, i32_add, l1, p1, eq_false c2', if_false]
            · rw [if_neg c3]
              have c3' : ¬ i32 (t : Nat) = i32 (q : Nat) := by rw [i32_eq (by omega) (by omega) (by omega) (by omega)]; omega
              simp only [eq_false c3', if_false]
      have hwk : wk (bar (gb g)) how (m + 1) ((bT (gb g) r).drop l) ((gq g).drop p) l = if 100 ≤ q then (if 100 ≤ t ∨ how ≠ 0 then wcs (l + skipN (bar (gb g)) 1 (t :: (bT (gb g) r).drop (l + 1))) (wk (bar (gb g)) how m ((bT (gb g) r).drop (l + skipN (bar (gb g)) 1 (t :: (bT (gb g) r).drop (l + 1)))) ((gq g).drop (p + 1)) (l + skipN (bar (gb g)) 1 (t :: (bT (gb g) r).drop (l + 1)))) else ([], false)) else if 100 ≤ t then (if how ≠ 1 then wcs (l + 1) (wk (bar (gb g)) how m ((bT (gb g) r).drop (l + 1)) ((gq g).drop (p + skipN (bar (gb g)) 1 (q :: (gq g).drop (p + 1)))) (l + 1)) else ([], false)) else if t = q then wcs (l + 1) (wk (bar (gb g)) how m ((bT (gb g) r).drop (l + 1)) ((gq g).drop (p + 1)) (l + 1)) else ([], false) := by
        rw [htd, hqd]
        simp only [wk]
        rw [dT, dQ]
      rw [hwk]
      by_cases c1 : 100 ≤ q
      · rw [if_pos c1]
        have hq0 : bar (gb g) q = 0 := bar_z _ q c1
        rw [hq0, Nat.add_zero] at t2'
        by_cases c2 : 100 ≤ t ∨ how ≠ 0
        · rw [if_pos c2]
          have ts := (tms_split (o := 1) (o' := o2) (by rw [Nat.add_comm]; exact t1)).2.1
          rw [dT] at ts
          obtain ⟨n, I', q1, q2⟩ := step (l + skipN (bar (gb g)) 1 (t :: (bT (gb g) r).drop (l + 1))) (p + 1) o2 (by omega) (by omega) (by omega) (by omega) ts t2'
          refine ⟨n + 1, I', ?_, q2⟩
          rw [hhead, if_pos c1, if_pos c2, q1]
        · rw [if_neg c2]
          refine ⟨1, I, ?_, fun _ _ _ => rfl, by simp [e42], by simp [e43]⟩
          rw [hhead 0, if_pos c1, if_neg c2]
      · rw [if_neg c1]
        by_cases c2 : 100 ≤ t
        · rw [if_pos c2]
          have ht0 : bar (gb g) t = 0 := bar_z _ t c2
          rw [ht0, Nat.add_zero] at t1'
          by_cases c3 : how ≠ 1
          · rw [if_pos c3]
            have ts := (tms_split (o := 1) (o' := o2) (by rw [Nat.add_comm]; exact t2)).2.1
            rw [dQ] at ts
            obtain ⟨n, I', q1, q2⟩ := step (l + 1) (p + skipN (bar (gb g)) 1 (q :: (gq g).drop (p + 1))) o2 (by omega) (by omega) (by omega) (by omega) t1' ts
            refine ⟨n + 1, I', ?_, q2⟩
            rw [hhead, if_neg c1, if_pos c2, if_pos c3, q1]
          · rw [if_neg c3]
            refine ⟨1, I, ?_, fun _ _ _ => rfl, by simp [e42], by simp [e43]⟩
            rw [hhead 0, if_neg c1, if_pos c2, if_neg c3]
        · rw [if_neg c2]
          by_cases c3 : t = q
          · rw [if_pos c3]
            obtain ⟨n, I', q1, q2⟩ := step (l + 1) (p + 1) (o2 + bar (gb g) q) (by omega) (by omega) (by omega) (by omega) (by rw [← c3]; exact t1') t2'
            refine ⟨n + 1, I', ?_, q2⟩
            rw [hhead, if_neg c1, if_neg c2, if_pos c3, q1]
          · rw [if_neg c3]
            refine ⟨1, I, ?_, fun _ _ _ => rfl, by simp [e42], by simp [e43]⟩
            rw [hhead 0, if_neg c1, if_neg c2, if_neg c3]
    · have hpe : (gq g).drop p = [] := List.drop_of_length_le hp
      rw [hpe] at t2 ⊢
      have ho : o = 0 := by simpa [tms] using t2
      subst ho
      have hle : (bT (gb g) r).length ≤ l := by
        cases hd : (bT (gb g) r).drop l with
        | nil => exact List.drop_eq_nil_iff.mp hd
        | cons x X => rw [hd] at t1; simp [tms] at t1
      rw [List.drop_of_length_le hle]
      obtain ⟨n, I', q1, q2, q3, q4⟩ := hend 0 I l p v u hR e42 e43 hu (by omega) hle
      exact ⟨n, I', q1, q2, by rw [q3]; simp [wk], by rw [q4]; simp [wk]⟩
end WALKR

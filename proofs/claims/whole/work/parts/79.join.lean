/-! joined -/
section JOIN
variable {ty : xTy} {N M : Nat} {hA hB h0 : xH} {mm mi : Nat → Nat} {c : CS} {I : Nat → Int32} {A : Nat → Nat → Int32} {J : Nat → Int64} {g : Sg} {b : Bk} {ar : Nat → Nat}
abbrev PSt : Type := List (List Nat × List Nat)
def padd (ps : PSt) (p : List Nat × List Nat) : PSt := if ps.idxOf p = ps.length then ps ++ [p] else ps
/-- the least general term above two -/
def jnL (ar : Nat → Nat) : Nat → List Nat → List Nat → PSt → List Nat
  | n + 1, x :: X, y :: Y, ps => if x < 100 ∧ x = y then x :: jnL ar n X Y ps
    else (100 + ps.idxOf (fst1 ar (x :: X), fst1 ar (y :: Y))) :: jnL ar n (snd1 ar (x :: X)) (snd1 ar (y :: Y)) (padd ps (fst1 ar (x :: X), fst1 ar (y :: Y)))
  | _, _, _, _ => []
theorem jnL_nil (n : Nat) (Y : List Nat) (ps : PSt) : jnL ar n [] Y ps = [] := by cases n <;> rfl
theorem idx_drop (ps : PSt) (p : List Nat × List Nat) {k : Nat} {q : List Nat × List Nat} (h : ps[k]? = some q) : (ps.drop k).idxOf p = if q = p then 0 else (ps.drop (k + 1)).idxOf p + 1 := by
  obtain ⟨hk, rfl⟩ := List.getElem?_eq_some_iff.mp h
  rw [List.drop_eq_getElem_cons hk, List.idxOf_cons]
  by_cases e : ps[k] = p
  · rw [if_pos e, e]; simp
  · rw [if_neg e, show (ps[k] == p) = false from beq_false_of_ne e]; rfl
theorem tms_dr {T : List Nat} {o : Nat} (h : tms ar o T) {a : Nat} (ha : a < T.length) : ∃ z, tms ar (1 + z) (T.drop a) := by
  obtain ⟨o', ho⟩ := tms_drop h a (by omega)
  cases o' with
  | zero =>
    have := skipN_all ho
    rw [skipN_zero] at this
    simp at this
    omega
  | succ z => exact ⟨z, by rw [Nat.add_comm]; exact ho⟩
def JP (c : CS) (ar : Nat → Nat) (T U : List Nat) (ps : PSt) : Prop := cI c 257 3 = i32 ps.length ∧ ∀ (k : Nat) (P Q : List Nat), ps[k]? = some (P, Q) → ∃ a e : Nat, cA c 258 k = i32 a ∧ cA c 259 k = i32 e ∧ a < T.length ∧ e < U.length ∧ fst1 ar (T.drop a) = P ∧ fst1 ar (U.drop e) = Q
theorem LY.j3 (h : LY c) : cR c 257 0 = 258 ∧ cR c 257 1 = 259 ∧ cR c 257 2 = 260 := ⟨h.1 _ (show (257, 0, 258) ∈ lyL by decide), h.1 _ (show (257, 1, 259) ∈ lyL by decide), h.1 _ (show (257, 2, 260) ∈ lyL by decide)⟩
theorem k_pn3 (C : CH ty N) {T U : List Nat} {t u rt ru a e : Nat} {ps : PSt} (hL : LY c) (iT : isT c t rt ar T) (iU : isT c u ru ar U) (tT : tms ar 1 T) (tU : tms ar 1 U) (bT3 : ∀ d ∈ T, ar d ≤ 3 ∧ d < 1000) (bU3 : ∀ d ∈ U, ar d ≤ 3 ∧ d < 1000) (ha : a < T.length) (he : e < U.length) (hJ : JP c ar T U ps) (hps : ps.length ≤ 11) : ∀ (j k : Nat), k + j = ps.length →
    ∃ c', jf_X2_pairNumber_3 ty (j + 1) (N + 257) (N + t) (i32 a) (N + u) (i32 e) (i32 k) (cst N h0 c) = some (i32 ((k + (ps.drop k).idxOf (fst1 ar (T.drop a), fst1 ar (U.drop e)) : Nat) : Int), cst N h0 c') ∧ fr 257 260 c c' ∧ JP c' ar T U (if (ps.drop k).idxOf (fst1 ar (T.drop a), fst1 ar (U.drop e)) = (ps.drop k).length then ps ++ [(fst1 ar (T.drop a), fst1 ar (U.drop e))] else ps) := by
  have h60 : T.length ≤ 60 := by have := iT.2.2.2.2.2; omega
  have h60' : U.length ≤ 60 := by have := iU.2.2.2.2.2; omega
  obtain ⟨za, hza⟩ := tms_dr tT ha
  obtain ⟨ze, hze⟩ := tms_dr tU he
  intro j
  induction j with
  | zero =>
    intro k h1
    have hk : k = ps.length := by omega
    subst hk
    rw [List.drop_of_length_le (Nat.le_refl _)]
    obtain ⟨c1, hc1⟩ : ∃ c1, c1 = csA c 258 ps.length (i32 a) := ⟨_, rfl⟩
    obtain ⟨c2, hc2⟩ : ∃ c2, c2 = csA c1 259 ps.length (i32 e) := ⟨_, rfl⟩
    obtain ⟨c3, hc3⟩ : ∃ c3, c3 = csI c2 257 3 (i32 ((ps.length + 1 : Nat) : Int)) := ⟨_, rfl⟩
    have f1 : fr 257 260 c c1 := by rw [hc1]; exact fr.A (by omega) (by omega)
    have f2 : fr 257 260 c1 c2 := by rw [hc2]; exact fr.A (by omega) (by omega)
    have f3 : fr 257 260 c2 c3 := by rw [hc3]; exact fr.I (by omega) (by omega)
    have hL1 := hL.same f1.2.1 f1.2.2
    have i1 : cI c1 257 3 = i32 ps.length := by rw [hc1]; exact hJ.1
    have i2 : cI c2 257 3 = i32 ps.length := by rw [hc2]; exact i1
    have i3 : cI c3 257 3 = i32 ((ps.length + 1 : Nat) : Int) := by rw [hc3, sI_s]
    refine ⟨c3, ?_, (f1.tr f2).tr f3, ?_⟩
    · rw [jf_X2_pairNumber_3_s]
      simp (disch := omega) only [kI, hJ.1, i32_lit, i32_neg, i32_add, i32_sub, i32_mul, i32_lt, i32_le, i32_eq, if_pos, if_neg, kR, hL.j3.1, xbs, kwa C (show ct 258 = some (1, 12) by decide), Int.toNat_natCast]
      rw [← hc1]
      simp (disch := omega) only [kI, i1, kR, hL1.j3.2.1, xbs, kwa C (show ct 259 = some (1, 12) by decide), Int.toNat_natCast]
      rw [← hc2]
      simp (disch := omega) only [kI, i2, ksI, i32_lit, i32_neg, i32_add, i32_sub, i32_mul, i32_lt, i32_le, i32_eq]
      rw [show (ps.length : Int) + 1 = ((ps.length + 1 : Nat) : Int) by omega, ← hc3]
      simp (disch := omega) only [kI, i3, i32_lit, i32_neg, i32_add, i32_sub, i32_mul, i32_lt, i32_le, i32_eq]
      congr 3
      simp
    · simp only [List.idxOf_nil, List.length_nil, if_true]
      refine ⟨by rw [i3]; simp, fun k P Q hk => ?_⟩
      rcases Nat.lt_or_ge k ps.length with h | h
      · rw [List.getElem?_append_left h] at hk
        obtain ⟨x, y, e1, e2, e3⟩ := hJ.2 k P Q hk
        refine ⟨x, y, ?_, ?_, e3⟩
        · rw [hc3, cA_I, hc2, sA_o (by decide), hc1, sA_n (by omega)]; exact e1
        · rw [hc3, cA_I, hc2, sA_n (by omega), hc1, sA_o (by decide)]; exact e2
      · have hke : k = ps.length := by
          have := (List.getElem?_eq_some_iff.mp hk).1
          simp at this
          omega
        subst hke
        rw [List.getElem?_append_right (Nat.le_refl _), Nat.sub_self] at hk
        simp only [List.getElem?_cons_zero, Option.some.injEq, Prod.mk.injEq] at hk
        refine ⟨a, e, ?_, ?_, ha, he, hk.1, hk.2⟩
        · rw [hc3, cA_I, hc2, sA_o (by decide), hc1, sA_s]
        · rw [hc3, cA_I, hc2, sA_s]
  | succ j ih =>
    intro k h1
    obtain ⟨⟨P, Q⟩, hk⟩ : ∃ q, ps[k]? = some q := ⟨ps[k]'(by omega), List.getElem?_eq_getElem (by omega)⟩
    obtain ⟨x, y, e1, e2, e3, e4, e5, e6⟩ := hJ.2 k P Q hk
    obtain ⟨zx, hzx⟩ := tms_dr tT e3
    obtain ⟨zy, hzy⟩ := tms_dr tU e4
    obtain ⟨c', q1, q2, q3⟩ := ih (k + 1) (by omega)
    have al1 := t_alike (h0 := h0) C iT bT3 hzx hza (by omega) (by omega)
    have al2 := t_alike (h0 := h0) C iU bU3 hzy hze (by omega) (by omega)
    rw [e5] at al1
    rw [e6] at al2
    have hid := idx_drop ps (fst1 ar (T.drop a), fst1 ar (U.drop e)) hk
    have hdl : (ps.drop k).length = (ps.drop (k + 1)).length + 1 := by rw [List.length_drop, List.length_drop]; omega
    rw [jf_X2_pairNumber_3_s]
    simp (disch := omega) only [kI, hJ.1, i32_lit, i32_neg, i32_add, i32_sub, i32_mul, i32_lt, i32_le, i32_eq, if_neg, kR, hL.j3.1, hL.j3.2.1, xbs, kga C (show ct 258 = some (1, 12) by decide), kga C (show ct 259 = some (1, 12) by decide), Int.toNat_natCast, e1, e2, al1, al2, bI_eq0]
    rw [show (k : Int) + 1 = ((k + 1 : Nat) : Int) by omega]
    by_cases w : (P, Q) = (fst1 ar (T.drop a), fst1 ar (U.drop e))
    · rw [if_pos w] at hid
      have w' := w
      simp only [Prod.mk.injEq] at w'
      refine ⟨c, ?_, fr.rf, ?_⟩
      · rw [hid, decide_eq_true w'.1, decide_eq_true w'.2]
        simp only [Bool.true_eq_false, if_false, Nat.add_zero]
      · rw [hid, hdl, if_neg (by omega)]
        exact hJ
    · rw [if_neg w] at hid
      refine ⟨c', ?_, q2, ?_⟩
      · rw [hid]
        have hres : (if decide (P = fst1 ar (T.drop a)) = false then jf_X2_pairNumber_3 ty (j + 1) (N + 257) (N + t) (i32 a) (N + u) (i32 e) (i32 ((k + 1 : Nat) : Int)) (cst N h0 c) else if decide (Q = fst1 ar (U.drop e)) = false then jf_X2_pairNumber_3 ty (j + 1) (N + 257) (N + t) (i32 a) (N + u) (i32 e) (i32 ((k + 1 : Nat) : Int)) (cst N h0 c) else some (i32 (k : Nat), cst N h0 c)) = jf_X2_pairNumber_3 ty (j + 1) (N + 257) (N + t) (i32 a) (N + u) (i32 e) (i32 ((k + 1 : Nat) : Int)) (cst N h0 c) := by
          by_cases w1 : P = fst1 ar (T.drop a)
          · rw [if_neg (by rw [decide_eq_true w1]; decide)]
            by_cases w2 : Q = fst1 ar (U.drop e)
            · exact absurd (by rw [w1, w2]) w
            · rw [if_pos (decide_eq_false w2)]
          · rw [if_pos (decide_eq_false w1)]
        refine Eq.trans ?_ (hres.trans (q1.trans ?_))
        · rfl
        · congr 3
          omega
      · rw [hid, hdl]
        have : ((ps.drop (k + 1)).idxOf (fst1 ar (T.drop a), fst1 ar (U.drop e)) + 1 = (ps.drop (k + 1)).length + 1) = ((ps.drop (k + 1)).idxOf (fst1 ar (T.drop a), fst1 ar (U.drop e)) = (ps.drop (k + 1)).length) := by
          rw [Nat.add_right_cancel_iff]
        simp only [this]
        exact q3
theorem k_pn (C : CH ty N) {T U : List Nat} {t u rt ru a e : Nat} {ps : PSt} (hL : LY c) (iT : isT c t rt ar T) (iU : isT c u ru ar U) (tT : tms ar 1 T) (tU : tms ar 1 U) (bT3 : ∀ d ∈ T, ar d ≤ 3 ∧ d < 1000) (bU3 : ∀ d ∈ U, ar d ≤ 3 ∧ d < 1000) (ha : a < T.length) (he : e < U.length) (hJ : JP c ar T U ps) (hps : ps.length ≤ 11) :
    ∃ c', jf_X2_pairNumber ty (cst N h0 c) (N + 257) (N + t) (i32 a) (N + u) (i32 e) = some (i32 ((ps.idxOf (fst1 ar (T.drop a), fst1 ar (U.drop e)) : Nat) : Int), cst N h0 c') ∧ fr 257 260 c c' ∧ JP c' ar T U (padd ps (fst1 ar (T.drop a), fst1 ar (U.drop e))) := by
  obtain ⟨c', q1, q2, q3⟩ := k_pn3 (h0 := h0) C hL iT iU tT tU bT3 bU3 ha he hJ hps ps.length 0 (by omega)
  rw [List.drop_zero, Nat.zero_add] at q1
  rw [List.drop_zero] at q3
  exact ⟨c', jf_X2_pairNumber_3_l q1, q2, q3⟩
theorem padd_len (ps : PSt) (p : List Nat × List Nat) : (padd ps p).length ≤ ps.length + 1 := by
  unfold padd
  split <;> simp
theorem JP.fr {c c' : CS} {T U : List Nat} {ps : PSt} {lo hi : Nat} (h : JP c ar T U ps) (f : fr lo hi c c') (hd : 260 ≤ lo ∨ hi ≤ 257) : JP c' ar T U ps := by
  refine ⟨by rw [(f.1 257 (by omega)).1]; exact h.1, fun k P Q hk => ?_⟩
  rw [(f.1 258 (by omega)).2, (f.1 259 (by omega)).2]
  exact h.2 k P Q hk
theorem k_jn20 (C : CH ty N) {T U : List Nat} {t u rt ru : Nat} (hz : ∀ d, 100 ≤ d → ar d = 0) (tT : tms ar 1 T) (tU : tms ar 1 U) (bT3 : ∀ d ∈ T, ar d ≤ 3 ∧ d < 1000) (bU3 : ∀ d ∈ U, ar d ≤ 3 ∧ d < 1000) (l12 : T.length ≤ 12) (ht : t + 3 ≤ 257) (hu : u + 3 ≤ 257) : ∀ (m : Nat) (c : CS) (i j o : Nat) (out : List Nat) (ps : PSt), LY c → isT c t rt ar T → isT c u ru ar U → i ≤ T.length → j ≤ U.length → T.length ≤ i + m → isT c 260 12 ar out → out.length ≤ i → JP c ar T U ps → ps.length ≤ out.length → tms ar o (T.drop i) → tms ar o (U.drop j) →
    ∃ n c', jf_X2_joinedShape_20 ty n (N + 257) (N + t) (N + u) (i32 i) (i32 j) (i32 out.length) (cst N h0 c) = some (N + 260, cst N h0 c') ∧ isT c' 260 12 ar (out ++ jnL ar m (T.drop i) (U.drop j) ps) ∧ fr 257 263 c c' := by
  intro m
  induction m with
  | zero =>
    intro c i j o out ps hL iT iU h1 h2 h3 iO h4 hJ h5 t1 t2
    have hlt := ct_lt iT.1
    have e := kgo (h0 := h0) (c := c) C (q := 257) (k := 2) (ci := 7) (by omega) (by rw [hL.j3.2.2]; decide)
    rw [hL.j3.2.2] at e
    refine ⟨1, c, ?_, by rw [show jnL ar 0 (T.drop i) (U.drop j) ps = [] from rfl, List.append_nil]; exact iO, fr.rf⟩
    rw [jf_X2_joinedShape_20_s]
    simp (disch := omega) only [kI hlt, iT.2.2.2.2.2.2.2.1, i32_lit, i32_neg, i32_add, i32_sub, i32_mul, i32_lt, i32_le, i32_eq, if_pos, e, xbs]
    split <;> rfl
  | succ m ih =>
    intro c i j o out ps hL iT iU h1 h2 h3 iO h4 hJ h5 t1 t2
    have hlt := ct_lt iT.1
    have h60' : U.length ≤ 60 := by have := iU.2.2.2.2.2; omega
    have e := kgo (h0 := h0) (c := c) C (q := 257) (k := 2) (ci := 7) (by omega) (by rw [hL.j3.2.2]; decide)
    rw [hL.j3.2.2] at e
    rcases Nat.lt_or_ge i T.length with hi | hi
    · obtain ⟨x, hx⟩ := get_some (L := T) hi
      have hxd := drop_cons hx
      rw [hxd] at t1
      obtain ⟨o1, rfl, t1'⟩ := tms_pos t1
      have hj : j < U.length := by
        rcases Nat.lt_or_ge j U.length with h | h
        · exact h
        · rw [List.drop_of_length_le h] at t2; simp [tms] at t2
      obtain ⟨y, hy⟩ := get_some (L := U) hj
      have hyd := drop_cons hy
      rw [hyd] at t2
      obtain ⟨o2, ho2, t2'⟩ := tms_pos t2
      have ho2 : o2 = o1 := by omega
      subst ho2
      have bx := bT3 x (List.mem_of_getElem? hx)
      have bY := bU3 y (List.mem_of_getElem? hy)
      have cT : jf_X7_codeAt ty (cst N h0 c) (N + t) (i32 i) = some (i32 (x : Nat)) := by
        rw [t_codeAt C iT (by omega) (by omega), Int.toNat_natCast, hx]; rfl
      have aT : jf_X7_arityAt ty (cst N h0 c) (N + t) (i32 i) = some (i32 (ar x : Nat)) := by
        rw [t_arityAt C iT (by omega) (by omega), Int.toNat_natCast, hx]; rfl
      have cU : jf_X7_codeAt ty (cst N h0 c) (N + u) (i32 j) = some (i32 (y : Nat)) := by
        rw [t_codeAt C iU (by omega) (by omega), Int.toNat_natCast, hy]; rfl
      by_cases w : x < 100 ∧ x = y
      · obtain ⟨c1, q1, q2, q3⟩ := t_add (h0 := h0) C iO (by omega) x
        obtain ⟨n, c', p1, p2, p3⟩ := ih c1 (i + 1) (j + 1) (o2 + ar x) (out ++ [x]) ps (hL.same q3.2.1 q3.2.2) (iT.fr q3 (by omega)) (iU.fr q3 (by omega)) (by omega) (by omega) (by omega) q2 (by rw [List.length_append, List.length_singleton]; omega) (hJ.fr q3 (by omega)) (by rw [List.length_append]; omega) t1' (by rw [w.2]; exact t2')
        refine ⟨n + 1, c', ?_, ?_, (q3.wide (by omega) (by omega)).tr p3⟩
        · rw [List.length_append, List.length_singleton] at p1
          rw [jf_X2_joinedShape_20_s, ← p1]
          simp (disch := omega) only [kI hlt, iT.2.2.2.2.2.2.2.1, i32_lit, i32_neg, i32_add, i32_sub, i32_mul, i32_lt, i32_le, i32_eq, if_neg, if_pos, cT, cU, aT, xbs, e, q1, xb2s]
          rw [show (i : Int) + 1 = ((i + 1 : Nat) : Int) by omega, show (j : Int) + 1 = ((j + 1 : Nat) : Int) by omega, show (out.length : Int) + 1 = ((out.length + 1 : Nat) : Int) by omega]
        · rw [hxd, hyd]
          simp only [jnL, if_pos w]
          rw [List.append_assoc, List.singleton_append] at p2
          exact p2
      · obtain ⟨c1, q1, q2, q3⟩ := k_pn (h0 := h0) C hL iT iU tT tU bT3 bU3 hi hj hJ (by omega)
        have hL1 := hL.same q2.2.1 q2.2.2
        obtain ⟨pn, hpn⟩ : ∃ pn, pn = ps.idxOf (fst1 ar (T.drop i), fst1 ar (U.drop j)) := ⟨_, rfl⟩
        have hpl : pn ≤ ps.length := by rw [hpn]; exact List.idxOf_le_length
        obtain ⟨c2, r1, r2, r3⟩ := t_add (h0 := h0) C (iO.fr q2 (by omega)) (by omega) (100 + pn)
        rw [hz (100 + pn) (by omega)] at r1
        have iT2 := (iT.fr q2 (by omega)).fr r3 (by omega)
        have iU2 := (iU.fr q2 (by omega)).fr r3 (by omega)
        have eT := t_behind (h0 := h0) C iT2 (fun d hd => (bT3 d hd).1) (p := i) (by omega)
        have eU := t_behind (h0 := h0) C iU2 (fun d hd => (bU3 d hd).1) (p := j) (by omega)
        have sT := skipN_ps (ar := ar) x (T.drop (i + 1))
        have sT2 := skipN_le (ar := ar) 1 (T.drop i)
        have sU2 := skipN_le (ar := ar) 1 (U.drop j)
        rw [List.length_drop] at sT2 sU2
        rw [← hxd] at sT t1
        rw [← hyd] at t2
        have ts1 := (tms_split (o := 1) (o' := o2) (by rw [Nat.add_comm]; exact t1)).2.1
        have ts2 := (tms_split (o := 1) (o' := o2) (by rw [Nat.add_comm]; exact t2)).2.1
        rw [List.drop_drop] at ts1 ts2
        have hpa := padd_len ps (fst1 ar (T.drop i), fst1 ar (U.drop j))
        obtain ⟨n, c', p1, p2, p3⟩ := ih c2 (i + skipN ar 1 (T.drop i)) (j + skipN ar 1 (U.drop j)) o2 (out ++ [100 + pn]) (padd ps (fst1 ar (T.drop i), fst1 ar (U.drop j))) (hL1.same r3.2.1 r3.2.2) iT2 iU2 (by omega) (by omega) (by omega) r2 (by rw [List.length_append, List.length_singleton]; omega) (q3.fr r3 (by omega)) (by rw [List.length_append, List.length_singleton]; omega) ts1 ts2
        refine ⟨n + 1, c', ?_, ?_, ((q2.wide (by omega) (by omega)).tr (r3.wide (by omega) (by omega))).tr p3⟩
        · rw [List.length_append, List.length_singleton] at p1
          have h84 : jf_X2_joinedShape_84 ty (jf_X2_joinedShape_20 ty n) (N + 257) (N + t) (N + u) (i32 i) (i32 j) (i32 out.length) (cst N h0 c) = some (N + 260, cst N h0 c') := by
            unfold jf_X2_joinedShape_84
            rw [e, xbs, q1, xb2s, ← hpn, show (100 : Int32) = i32 100 from rfl, i32_add, show (100 : Int) + ((pn : Nat) : Int) = ((100 + pn : Nat) : Int) by omega, show (0 : Int32) = i32 ((0 : Nat) : Int) from rfl, r1, xb2s, eT, xbs, eU, xbs, ← p1, show (1 : Int32) = i32 1 from rfl, i32_add, show (out.length : Int) + 1 = ((out.length + 1 : Nat) : Int) by omega]
          rw [jf_X2_joinedShape_20_s]
          simp (disch := omega) only [kI hlt, iT.2.2.2.2.2.2.2.1, i32_lit, i32_neg, i32_add, i32_sub, i32_mul, i32_lt, i32_le, i32_eq, if_neg, cT, cU, xbs, h84]
          by_cases w1 : (100 : Int) ≤ (x : Int)
          · rw [if_pos w1]
          · have w2 : ¬ (x : Int) = (y : Int) := fun h => w ⟨by omega, by omega⟩
            simp only [eq_false w1, if_false, eq_false w2]
        · rw [hxd, hyd] at p2 hpn ⊢
          simp only [jnL, if_neg w]
          rw [List.append_assoc, List.singleton_append, hpn] at p2
          unfold snd1
          rw [← hxd, ← hyd, List.drop_drop, List.drop_drop]
          rw [← hxd, ← hyd] at p2
          exact p2
    · have hnil : T.drop i = [] := List.drop_of_length_le hi
      refine ⟨1, c, ?_, by rw [hnil, jnL_nil, List.append_nil]; exact iO, fr.rf⟩
      rw [jf_X2_joinedShape_20_s]
      simp (disch := omega) only [kI hlt, iT.2.2.2.2.2.2.2.1, i32_lit, i32_neg, i32_add, i32_sub, i32_mul, i32_lt, i32_le, i32_eq, if_pos, e, xbs]
      split <;> rfl
end JOIN

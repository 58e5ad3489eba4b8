/-! a term drawn by chance -/
def smG (b : Bk) : Nat → Nat → Option Nat
  | 0, _ => if 0 < bnv b then some 100 else none
  | k + 1, c => if bsa b c = 0 then some c else smG b k (c + 1)
def smO (b : Bk) : Option Nat := smG b (bns b) 0
def pck (b : Bk) (s : Nat) : Nat := if (s / 65536) % (bns b + bnv b) < bns b then (s / 65536) % (bns b + bnv b) else 100 + ((s / 65536) % (bns b + bnv b) - bns b)
def chc (pk : Nat → Nat) (b : Bk) (m s : Nat) : Option Nat := if m + bar b (pk s) ≤ 12 then some (pk s) else smO b
def dr (st pk : Nat → Nat) (b : Bk) : Nat → Nat → List Nat → Nat → Option (List Nat) × Nat
  | 0, s, out, _ => (some out, s)
  | _ + 1, s, out, 0 => (some out, s)
  | k + 1, s, out, o + 1 => match chc pk b (out.length + (o + 1)) (st s) with
    | none => (none, st s)
    | some c => dr st pk b k (st s) (out ++ [c]) (o + bar b c)
theorem smG_vc {b : Bk} : ∀ (k c d : Nat), c + k = bns b → bns b ≤ 8 → smG b k c = some d → vc b d ∧ bar b d = 0
  | 0, c, d, h, h8, e => by
    simp only [smG] at e
    split at e
    · obtain rfl := Option.some.inj e
      exact ⟨Or.inr ⟨by omega, by omega⟩, bar_z b 100 (by omega)⟩
    · cases e
  | k + 1, c, d, h, h8, e => by
    simp only [smG] at e
    split at e
    · obtain rfl := Option.some.inj e
      refine ⟨Or.inl (by omega), ?_⟩
      unfold bar
      rw [if_pos (by omega)]
      assumption
    · exact smG_vc k (c + 1) d (by omega) h8 e
theorem pck_vc {b : Bk} (h : 0 < bns b + bnv b) (s : Nat) : vc b (pck b s) := by
  have := Nat.mod_lt (s / 65536) h
  unfold pck vc
  split <;> omega
theorem chc_vc {pk : Nat → Nat} {b : Bk} (hb : bwf b) (h : ∀ s, vc b (pk s)) {m s d : Nat} (hm : m ≤ 12) (e : chc pk b m s = some d) : vc b d ∧ m + bar b d ≤ 12 := by
  unfold chc at e
  split at e
  · obtain rfl := Option.some.inj e
    exact ⟨h s, by assumption⟩
  · obtain ⟨h1, h2⟩ := smG_vc (bns b) 0 d (by omega) hb.1 e
    exact ⟨h1, by omega⟩
theorem dr_wf {st pk : Nat → Nat} {b : Bk} (hb : bwf b) (h : ∀ s, vc b (pk s)) (k : Nat) : ∀ (s : Nat) (out : List Nat) (o : Nat), out.length + o ≤ 12 → 12 < out.length + k → (∀ L, tms (bar b) o L → tms (bar b) 1 (out ++ L)) → (∀ d ∈ out, vc b d) → ∀ L, (dr st pk b k s out o).1 = some L → twf b L := by
  induction k with
  | zero => intro s out o h1 h2; omega
  | succ k ih =>
    intro s out o h1 h2 h3 h4 L e
    cases o with
    | zero =>
      simp only [dr] at e
      obtain rfl := Option.some.inj e
      have := h3 [] rfl
      rw [List.append_nil] at this
      exact ⟨this, by omega, h4⟩
    | succ o =>
      simp only [dr] at e
      cases hc : chc pk b (out.length + (o + 1)) (st s) with
      | none => rw [hc] at e; cases e
      | some c =>
        rw [hc] at e
        obtain ⟨v1, v2⟩ := chc_vc hb h h1 hc
        refine ih (st s) (out ++ [c]) (o + bar b c) (by rw [List.length_append, List.length_singleton]; omega) (by rw [List.length_append, List.length_singleton]; omega) (fun L hL => ?_) (fun d hd => ?_) L e
        · have := h3 (c :: L) hL
          rw [List.append_assoc, List.singleton_append]
          exact this
        · rcases List.mem_append.mp hd with hd | hd
          · exact h4 d hd
          · rw [List.mem_singleton.mp hd]; exact v1
section DRAW
variable {ty : xTy} {N M : Nat} {hA hB h0 : xH} {mm mi : Nat → Nat} {c : CS} {I : Nat → Int32} {A : Nat → Nat → Int32} {J : Nat → Int64} {g : Sg} {b : Bk}
/-- only a term at u and the drawer have changed -/
def fr2 (u : Nat) (c c' : CS) : Prop := (∀ q, ¬ (u ≤ q ∧ q < u + 3) → q ≠ 272 → cI c' q = cI c q ∧ cA c' q = cA c q) ∧ cR c' = cR c ∧ cP c' = cP c
theorem fr2.rf {u : Nat} {c : CS} : fr2 u c c := ⟨fun _ _ _ => ⟨rfl, rfl⟩, rfl, rfl⟩
theorem fr2.tr {u : Nat} {c d e : CS} (h1 : fr2 u c d) (h2 : fr2 u d e) : fr2 u c e := ⟨fun q a1 a2 => ⟨((h2.1 q a1 a2).1).trans (h1.1 q a1 a2).1, ((h2.1 q a1 a2).2).trans (h1.1 q a1 a2).2⟩, h2.2.1.trans h1.2.1, h2.2.2.trans h1.2.2⟩
theorem fr2.a {u : Nat} {c c' : CS} (h : fr u (u + 3) c c') : fr2 u c c' := ⟨fun q a1 _ => h.1 q (by omega), h.2⟩
theorem fr2.d {u : Nat} {c c' : CS} (h : fr 272 273 c c') : fr2 u c c' := ⟨fun q _ a2 => h.1 q (by omega), h.2⟩
theorem fr2.cb {u B : Nat} {c c' : CS} (f : fr2 u c c') (hb : bwf b) (hB : B = 2 ∨ B = 108) (hu : 214 ≤ u) (h : CB c B b) : CB c' B b := h.keep hb.2.2.1 (fun q q1 q2 => ⟨(f.1 q (by omega) (by omega)).1, (f.1 q (by omega) (by omega)).2, by rw [f.2.1]⟩)
theorem crep_fr2 {c' : CS} (hg : gwf g) (h : CRep c g) (f : fr2 (cR c 0 5) c c') : CRep c' g := by
  obtain ⟨h1, h2, h3, h4, h5, h6, h7⟩ := h
  have hB := h1.bk
  obtain ⟨a1, a2, a3⟩ := h1.as
  have e : ∀ q, (q < 214 ∨ (cR c 0 4 ≤ q ∧ q < cR c 0 4 + 3) ∨ q = 226 ∨ (232 ≤ q ∧ q < 241)) → cI c' q = cI c q ∧ cA c' q = cA c q := fun q hq => f.1 q (by omega) (by omega)
  have eR := f.2.1
  have eP := f.2.2
  refine ⟨h1.same eR eP, ?_, ?_, ?_, ?_, ?_, ?_⟩
  · rw [eR]
    exact h2.keep hg.1.2.2.1 (fun q q1 q2 => ⟨(e q (by omega)).1, (e q (by omega)).2, by rw [eR]⟩)
  · rw [eR]
    exact h3.keep (e _ (by omega)).1 (e _ (by omega)).2 (e _ (by omega)).2 (by rw [eR])
  · unfold CSt at *
    rw [(e 232 (by omega)).1, (e 233 (by omega)).2]
    exact h4
  · unfold CTr at *
    rw [(e 234 (by omega)).1, (e 235 (by omega)).2, (e 237 (by omega)).2, eP, eR]
    exact h5
  · rw [(e 0 (by omega)).1, (e 1 (by omega)).2]
    exact h6
  · rw [(e 226 (by omega)).1]
    exact h7
theorem k_ar (C : CH ty N) (hb : bwf b) (hL : LY c) {B : Nat} (hB : B = 2 ∨ B = 108) (hcb : CB c B b) {d : Nat} (hd : d < bns b ∨ (100 ≤ d ∧ d < 1000)) : jf_X0_arityOf ty (cst N h0 c) (N + B) (i32 d) = some (i32 (bar b d : Nat)) := by
  have h8 := hb.1
  have hlB : B < 273 := by omega
  unfold jf_X0_arityOf
  simp (disch := omega) only [kI hlB, hcb.1, i32_lit, i32_neg, i32_add, i32_sub, i32_mul, i32_lt, i32_le, i32_eq, kR hlB, (hL.bf hB).2.1, xbs]
  rw [if_neg (by omega)]
  by_cases w : (bns b : Int) ≤ (d : Int)
  · rw [if_pos w]
    unfold bar
    rw [if_neg (by omega)]
    rfl
  · rw [if_neg w, if_neg (by omega), kga C (ct_bk hB).2.2.1 (by omega) (by omega) (by omega), Int.toNat_natCast, (hcb.2.2.2.1 d (by omega)).2]
    unfold bar
    rw [if_pos (by omega)]
    rfl
def oM (o : Option Nat) : Int32 := oI o (-1)
theorem k_pc2 (C : CH ty N) (hb : bwf b) (hL : LY c) {B : Nat} (hB : B = 2 ∨ B = 108) (hcb : CB c B b) : ∀ (k d : Nat), d + k = bns b → jf_X0_plainCode_2 ty (cst N h0 c) (k + 1) (N + B) (i32 d) = some (oM (smG b k d)) := by
  have h8 := hb.1
  have h4 := hb.2.1
  have hlB : B < 273 := by omega
  intro k
  induction k with
  | zero =>
    intro d h
    rw [jf_X0_plainCode_2_s]
    simp (disch := omega) only [kI hlB, hcb.1, hcb.2.1, i32_lit, i32_neg, i32_add, i32_sub, i32_mul, i32_lt, i32_le, i32_eq, if_pos]
    simp only [smG]
    by_cases w : (bnv b : Int) ≤ 0
    · rw [if_pos w, if_neg (by omega)]; rfl
    · rw [if_neg w, if_pos (by omega)]; rfl
  | succ k ih =>
    intro d h
    have hba : bar b d = bsa b d := by unfold bar; rw [if_pos (by omega)]
    have hb3 := hb.2.2.2.1 d
    rw [jf_X0_plainCode_2_s]
    simp (disch := omega) only [kI hlB, hcb.1, i32_lit, i32_neg, i32_add, i32_sub, i32_mul, i32_lt, i32_le, i32_eq, if_neg, k_ar C hb hL hB hcb (d := d) (by omega), xbs, hba]
    rw [show (d : Int) + 1 = ((d + 1 : Nat) : Int) by omega]
    simp only [smG]
    by_cases w : ((bsa b d : Nat) : Int) = 0
    · simp only [eq_true w, if_true]
      rw [if_pos (by omega)]; rfl
    · simp only [eq_false w, if_false]
      rw [if_neg (by omega)]
      exact ih (d + 1) (by omega)
theorem k_pc (C : CH ty N) (hb : bwf b) (hL : LY c) {B : Nat} (hB : B = 2 ∨ B = 108) (hcb : CB c B b) : jf_X0_plainCode ty (cst N h0 c) (N + B) = some (oM (smO b)) := jf_X0_plainCode_2_l (k_pc2 C hb hL hB hcb (bns b) 0 (by omega))
theorem k_num {s : Nat} (h : cI c 272 0 = i32 (s : Nat)) : jf_X1_number ty (cst N h0 c) (N + 272) = some (i32 ((nxS s / 65536 : Nat) : Int), cst N h0 (csI c 272 0 (i32 (nxS s : Nat)))) := by
  have hl := nxS_lt s
  have n0 : ¬ (i32 65536 = i32 0) := by decide
  unfold jf_X1_number xdv
  simp (disch := omega) only [kI, h, i32_lit, nx32, ksI, xbs, eq_false n0, if_false, sI_s]
  rw [i32_div (by omega) (by omega) (by omega) (by omega)]
  rfl
theorem k_drh (C : CH ty N) (hb : bwf b) {B u : Nat} (hB : B = 2 ∨ B = 108) (hn : 0 < bns b + bnv b) {s l o : Nat} (hcb : CB c B b) (hs : cI c 272 0 = i32 (s : Nat)) (hl : l < 12) (ho : o < 100) (n : Nat) :
    jf_X1_drawTerm_26 ty (n + 1) (N + 272) (N + B) (N + u) (i32 ((bns b + bnv b : Nat) : Int)) (i32 ((o + 1 : Nat) : Int)) (i32 (l : Nat)) (cst N h0 c) = jf_X1_drawTerm_70 ty (jf_X1_drawTerm_26 ty n) (N + 272) (N + B) (N + u) (i32 ((bns b + bnv b : Nat) : Int)) (i32 ((o + 1 : Nat) : Int)) (i32 (l : Nat)) (i32 (pck b (nxS s) : Nat)) (cst N h0 (csI c 272 0 (i32 (nxS s : Nat)))) := by
  have h8 := hb.1
  have h4 := hb.2.1
  have hlB : B < 273 := by omega
  have hnum := k_num (ty := ty) (N := N) (h0 := h0) hs
  obtain ⟨x, hx⟩ : ∃ x, x = nxS s := ⟨_, rfl⟩
  have hxl : x < 2147483648 := by rw [hx]; exact nxS_lt s
  rw [← hx] at hnum ⊢
  obtain ⟨c1, hc1⟩ : ∃ c1, c1 = csI c 272 0 (i32 (x : Nat)) := ⟨_, rfl⟩
  rw [← hc1] at hnum ⊢
  have ns1 : cI c1 B 7 = i32 (bns b) := by rw [hc1, sI_o (Or.inl (by omega))]; exact hcb.1
  obtain ⟨y, hy⟩ : ∃ y, y = x / 65536 := ⟨_, rfl⟩
  have hyl : y < 32768 := by omega
  obtain ⟨r, hr⟩ : ∃ r, r = y % (bns b + bnv b) := ⟨_, rfl⟩
  have hrl : r < bns b + bnv b := by rw [hr]; exact Nat.mod_lt _ hn
  have hpk : pck b x = if r < bns b then r else 100 + (r - bns b) := by unfold pck; rw [← hy, ← hr]
  rw [← hy] at hnum
  have n0 : ¬ (i32 ((bns b + bnv b : Nat) : Int) = i32 0) := by rw [i32_eq (by omega) (by omega) (by omega) (by omega)]; omega
  rw [jf_X1_drawTerm_26_s]
  simp (disch := omega) only [i32_lit, i32_le, if_neg, hnum, xb2s]
  unfold xrm
  simp only [i32_lit, eq_false n0, if_false, xbs]
  rw [md32 (by omega) hn (by omega), ← hr, kI hlB, ns1, hpk]
  simp (disch := omega) only [i32_le, i32_add, i32_sub]
  by_cases w : (bns b : Int) ≤ (r : Int)
  · simp only [eq_true w, if_true]
    rw [if_neg (by omega), show (100 : Int) + (r : Int) - (bns b : Int) = ((100 + (r - bns b) : Nat) : Int) by omega]
  · simp only [eq_false w, if_false]
    rw [if_pos (by omega)]
theorem k_dr26 (C : CH ty N) (hb : bwf b) {B u : Nat} (hB : B = 2 ∨ B = 108) (hu : 214 ≤ u ∧ u + 3 ≤ 272) {st pk : Nat → Nat} (hpv : ∀ s, vc b (pk s))
    (hhd : ∀ (c : CS) (s l o n : Nat), CB c B b → cI c 272 0 = i32 (s : Nat) → l < 12 → o < 100 → jf_X1_drawTerm_26 ty (n + 1) (N + 272) (N + B) (N + u) (i32 ((bns b + bnv b : Nat) : Int)) (i32 ((o + 1 : Nat) : Int)) (i32 (l : Nat)) (cst N h0 c) = jf_X1_drawTerm_70 ty (jf_X1_drawTerm_26 ty n) (N + 272) (N + B) (N + u) (i32 ((bns b + bnv b : Nat) : Int)) (i32 ((o + 1 : Nat) : Int)) (i32 (l : Nat)) (i32 (pk (st s) : Nat)) (cst N h0 (csI c 272 0 (i32 (st s : Nat))))) : ∀ (k : Nat) (c : CS) (s : Nat) (out : List Nat) (o : Nat), LY c → CB c B b → isT c u 12 (bar b) out → cI c 272 0 = i32 (s : Nat) → out.length + o ≤ 12 → 12 < out.length + k →
    ∃ n c', jf_X1_drawTerm_26 ty n (N + 272) (N + B) (N + u) (i32 ((bns b + bnv b : Nat) : Int)) (i32 o) (i32 out.length) (cst N h0 c) = some (bI (dr st pk b k s out o).1.isSome, cst N h0 c') ∧ fr2 u c c' ∧ cI c' 272 0 = i32 ((dr st pk b k s out o).2 : Nat) ∧ ∀ L, (dr st pk b k s out o).1 = some L → isT c' u 12 (bar b) L := by
  have h8 := hb.1
  have h4 := hb.2.1
  have hlB : B < 273 := by omega
  have hlu : u < 273 := by omega
  intro k
  induction k with
  | zero => intro c s out o _ _ _ _ h1 h2; omega
  | succ k ih =>
    intro c s out o hL hcb iO hs h1 h2
    cases o with
    | zero =>
      refine ⟨1, c, ?_, fr2.rf, hs, fun L e => by simp only [dr] at e; obtain rfl := Option.some.inj e; exact iO⟩
      rw [jf_X1_drawTerm_26_s]
      simp (disch := omega) only [i32_lit, i32_neg, i32_add, i32_sub, i32_mul, i32_lt, i32_le, i32_eq, if_pos]
      simp only [dr]
      split <;> rfl
    | succ o =>
      obtain ⟨c1, hc1⟩ : ∃ c1, c1 = csI c 272 0 (i32 (st s : Nat)) := ⟨_, rfl⟩
      have f1 : fr 272 273 c c1 := by rw [hc1]; exact fr.I (by omega) (by omega)
      have hL1 := hL.same f1.2.1 f1.2.2
      have hcb1 : CB c1 B b := hcb.keep hb.2.2.1 (fun q q1 q2 => ⟨(f1.1 q (by omega)).1, (f1.1 q (by omega)).2, by rw [f1.2.1]⟩)
      have iO1 := iO.fr f1 (by omega)
      have hvc := hpv (st s)
      have hpd : pk (st s) < bns b ∨ (100 ≤ pk (st s) ∧ pk (st s) < 1000) := by unfold vc at hvc; omega
      have hpb := bar_le hb (pk (st s))
      have hsz : xI (cst N h0 c1) (N + u) 2 = i32 out.length := by rw [kI hlu]; exact iO1.2.2.2.2.2.2.2.1
      have hfail : ∀ n, jf_X1_drawTerm_97 ty (jf_X1_drawTerm_26 ty n) (N + 272) (N + B) (N + u) (i32 ((bns b + bnv b : Nat) : Int)) (i32 ((o + 1 : Nat) : Int)) (i32 out.length) (i32 (-1)) (cst N h0 c1) = some (i32 0, cst N h0 c1) := by
        intro n
        unfold jf_X1_drawTerm_97
        simp only [i32_lit, i32_neg, if_true]
      have h70 : ∀ n, jf_X1_drawTerm_70 ty (jf_X1_drawTerm_26 ty n) (N + 272) (N + B) (N + u) (i32 ((bns b + bnv b : Nat) : Int)) (i32 ((o + 1 : Nat) : Int)) (i32 out.length) (i32 (pk (st s) : Nat)) (cst N h0 c1) = jf_X1_drawTerm_97 ty (jf_X1_drawTerm_26 ty n) (N + 272) (N + B) (N + u) (i32 ((bns b + bnv b : Nat) : Int)) (i32 ((o + 1 : Nat) : Int)) (i32 out.length) (oM (chc pk b (out.length + (o + 1)) (st s))) (cst N h0 c1) := by
        intro n
        unfold jf_X1_drawTerm_70 chc
        simp (disch := omega) only [k_ar C hb hL1 hB hcb1 hpd, xbs, hsz, i32_lit, i32_neg, i32_add, i32_sub, i32_mul, i32_lt, i32_le, i32_eq, k_pc C hb hL1 hB hcb1]
        by_cases w : (out.length : Int) + ((o + 1 : Nat) : Int) + ((bar b (pk (st s)) : Nat) : Int) ≤ 12
        · simp only [eq_true w, if_true]
          rw [if_pos (by omega)]; rfl
        · simp only [eq_false w, if_false]
          rw [if_neg (by omega)]
      have h26 : ∀ n, jf_X1_drawTerm_26 ty (n + 1) (N + 272) (N + B) (N + u) (i32 ((bns b + bnv b : Nat) : Int)) (i32 ((o + 1 : Nat) : Int)) (i32 out.length) (cst N h0 c) = jf_X1_drawTerm_70 ty (jf_X1_drawTerm_26 ty n) (N + 272) (N + B) (N + u) (i32 ((bns b + bnv b : Nat) : Int)) (i32 ((o + 1 : Nat) : Int)) (i32 out.length) (i32 (pk (st s) : Nat)) (cst N h0 c1) := by
        intro n
        rw [hhd c s out.length o n hcb hs (by omega) (by omega), ← hc1]
      simp only [dr]
      cases hch : chc pk b (out.length + (o + 1)) (st s) with
      | none =>
        refine ⟨1, c1, ?_, fr2.d f1, by rw [hc1, sI_s], fun L e => by cases e⟩
        rw [h26 0, h70 0, hch]
        exact hfail 0
      | some d =>
        obtain ⟨v1, v2⟩ := chc_vc hb hpv h1 hch
        have hdd : d < bns b ∨ (100 ≤ d ∧ d < 1000) := by unfold vc at v1; omega
        obtain ⟨c2, q1, q2, q3⟩ := t_add (h0 := h0) C iO1 (by omega) d
        have hL2 := hL1.same q3.2.1 q3.2.2
        have hcb2 : CB c2 B b := hcb1.keep hb.2.2.1 (fun q z1 z2 => ⟨(q3.1 q (by omega)).1, (q3.1 q (by omega)).2, by rw [q3.2.1]⟩)
        have z1 : ∀ n, jf_X1_drawTerm_97 ty (jf_X1_drawTerm_26 ty n) (N + 272) (N + B) (N + u) (i32 ((bns b + bnv b : Nat) : Int)) (i32 ((o + 1 : Nat) : Int)) (i32 out.length) (i32 (d : Nat)) (cst N h0 c1) = jf_X1_drawTerm_26 ty n (N + 272) (N + B) (N + u) (i32 ((bns b + bnv b : Nat) : Int)) (i32 ((o + bar b d : Nat) : Int)) (i32 (out ++ [d]).length) (cst N h0 c2) := by
          intro n
          have hne : ¬ i32 (d : Nat) = i32 (-1) := by rw [i32_eq (by omega) (by omega) (by omega) (by omega)]; omega
          unfold jf_X1_drawTerm_97
          simp only [i32_lit, i32_neg, eq_false hne, if_false, k_ar C hb hL1 hB hcb1 hdd, xbs, q1, xb2s, k_ar C hb hL2 hB hcb2 hdd, i32_sub, i32_add]
          rw [List.length_append, List.length_singleton, show ((o + 1 : Nat) : Int) + (((bar b d : Nat) : Int) - 1) = ((o + bar b d : Nat) : Int) by omega, show (out.length : Int) + 1 = ((out.length + 1 : Nat) : Int) by omega]
        have f12 : fr2 u c c2 := (fr2.d f1).tr (fr2.a q3)
        obtain ⟨n, c', p1, p2, p3, p4⟩ := ih c2 (st s) (out ++ [d]) (o + bar b d) (hL.same f12.2.1 f12.2.2) (f12.cb hb hB hu.1 hcb) q2 (by rw [(q3.1 272 (by omega)).1, hc1, sI_s]) (by rw [List.length_append, List.length_singleton]; omega) (by rw [List.length_append, List.length_singleton]; omega)
        refine ⟨n + 1, c', ?_, f12.tr p2, p3, p4⟩
        rw [h26 n, h70 n, hch]
        exact (z1 n).trans p1
/-- a whole term drawn -/
def drT (b : Bk) (s : Nat) : Option (List Nat) × Nat := dr nxS (pck b) b 13 s [] 1
theorem drT_wf (hb : bwf b) (hn : 0 < bns b + bnv b) {s : Nat} {L : List Nat} (h : (drT b s).1 = some L) : twf b L := dr_wf hb (pck_vc hn) 13 s [] 1 (by decide) (by decide) (fun L hL => hL) (fun d hd => by cases hd) L h
theorem k_dr (C : CH ty N) (hb : bwf b) {B u : Nat} (hB : B = 2 ∨ B = 108) (hu : 214 ≤ u ∧ u + 3 ≤ 272) (ht : ct u = some (0, 7)) (ht1 : ct (u + 1) = some (1, 12)) (ht2 : ct (u + 2) = some (1, 12)) (hL : LY c) (hcb : CB c B b) {s : Nat} (hs : cI c 272 0 = i32 (s : Nat)) :
    ∃ c', jf_X1_drawTerm ty (cst N h0 c) (N + 272) (N + B) (N + u) = some (bI (if 0 < bns b + bnv b then (drT b s).1.isSome else false), cst N h0 c') ∧ fr2 u c c' ∧ cI c' 272 0 = i32 ((if 0 < bns b + bnv b then (drT b s).2 else s : Nat) : Int) ∧ ∀ L, 0 < bns b + bnv b → (drT b s).1 = some L → isT c' u 12 (bar b) L := by
  have h8 := hb.1
  have h4 := hb.2.1
  have hlB : B < 273 := by omega
  obtain ⟨c1, hc1⟩ : ∃ c1, c1 = csI c u 2 (i32 0) := ⟨_, rfl⟩
  have f1 : fr u (u + 3) c c1 := by rw [hc1]; exact fr.I (by omega) (by omega)
  have hcl := k_clear (h0 := h0) (c := c) C ht
  rw [← hc1] at hcl
  have hL1 := hL.same f1.2.1 f1.2.2
  have hcb1 : CB c1 B b := hcb.keep hb.2.2.1 (fun q q1 q2 => ⟨(f1.1 q (by omega)).1, (f1.1 q (by omega)).2, by rw [f1.2.1]⟩)
  have hs1 : cI c1 272 0 = i32 (s : Nat) := by rw [(f1.1 272 (by omega)).1]; exact hs
  unfold jf_X1_drawTerm
  rw [hcl, xbs]
  simp (disch := omega) only [kI hlB, hcb1.1, hcb1.2.1, i32_lit, i32_neg, i32_add, i32_sub, i32_mul, i32_lt, i32_le, i32_eq]
  rw [show (bns b : Int) + (bnv b : Int) = ((bns b + bnv b : Nat) : Int) by omega]
  by_cases w : 0 < bns b + bnv b
  · have w' : (0 : Int) < ((bns b + bnv b : Nat) : Int) := by omega
    simp only [eq_true w, eq_true w', if_true]
    obtain ⟨n, c', p1, p2, p3, p4⟩ := k_dr26 (h0 := h0) C hb hB hu (st := nxS) (pk := pck b) (pck_vc w) (fun c s l o n a1 a2 a3 a4 => k_drh C hb hB w a1 a2 a3 a4 n) 13 c1 s [] 1 hL1 hcb1 (isT_nil hL1 ht ht1 ht2 (by omega) (by rw [hc1, sI_s])) hs1 (by decide) (by decide)
    exact ⟨c', jf_X1_drawTerm_26_l p1, (fr2.a f1).tr p2, p3, fun L _ e => p4 L e⟩
  · have w' : ¬ (0 : Int) < ((bns b + bnv b : Nat) : Int) := by omega
    simp only [eq_false w, eq_false w', if_false]
    exact ⟨c1, rfl, fr2.a f1, hs1, fun L h _ => h.elim⟩
end DRAW

/-! HOW A TERM FITS A QUERY; the model's side -/
theorem uniS_symm {ar : Nat → Nat} {P Q : List Nat} : uniS ar P Q ↔ uniS ar Q P := by
  constructor
  · rintro ⟨θ1, θ2, h1, h2, h3⟩; exact ⟨θ2, θ1, h2, h1, h3.symm⟩
  · rintro ⟨θ1, θ2, h1, h2, h3⟩; exact ⟨θ2, θ1, h2, h1, h3.symm⟩
noncomputable def uniB (ar : Nat → Nat) (P Q : List Nat) : Bool := @decide (uniS ar P Q) (Classical.propDecidable _)
theorem uniB_true {ar : Nat → Nat} {P Q : List Nat} (h : uniS ar P Q) : uniB ar P Q = true := @decide_eq_true _ (Classical.propDecidable _) h
theorem uniB_false {ar : Nat → Nat} {P Q : List Nat} (h : ¬ uniS ar P Q) : uniB ar P Q = false := @decide_eq_false _ (Classical.propDecidable _) h
theorem uniB_symm {ar : Nat → Nat} {P Q : List Nat} : uniB ar P Q = uniB ar Q P := by
  by_cases h : uniS ar P Q
  · rw [uniB_true h, uniB_true (uniS_symm.mp h)]
  · rw [uniB_false h, uniB_false (fun z => h (uniS_symm.mp z))]
def mtB (ar : Nat → Nat) (P S : List Nat) : Bool := (mt ar P S b00).isSome
noncomputable def fit (ar : Nat → Nat) (how : Nat) (T Q : List Nat) : Bool := if how = 0 then mtB ar T Q else if how = 1 then mtB ar Q T else if how = 2 then uniB ar T Q else mtB ar T Q && mtB ar Q T
theorem mgS_symm {ar : Nat → Nat} {T Q S : List Nat} (h : mgS ar T T Q S) : mgS ar Q Q T S := by
  obtain ⟨θ1, θ2, h1, h2, h3, h4, h5⟩ := h
  refine ⟨θ2, θ1, h2, h1, h3.symm, by rw [h4, h3], fun φ1 φ2 w1 w2 w3 => ?_⟩
  obtain ⟨ψ, p1, p2⟩ := h5 φ2 φ1 w2 w1 w3.symm
  exact ⟨ψ, p1, by rw [w3, p2]⟩
def oC (o : Option Nat) : Int := match o with | some d => (d : Int) | none => -2
/-- what comes of two terms that meet, code by code -/
noncomputable def mgK (ar : Nat → Nat) (W P Q : List Nat) (k : Int) : Int := @dite _ (∃ S, mgS ar W P Q S) (Classical.propDecidable _) (fun h => if (Classical.choose h).length ≤ 60 then oC (shape (Classical.choose h))[k.toNat]? else -2) (fun _ => -2)
theorem mgK_of {ar : Nat → Nat} {W P Q S : List Nat} (h : mgS ar W P Q S) (k : Int) : mgK ar W P Q k = if S.length ≤ 60 then oC (shape S)[k.toNat]? else -2 := by
  have he : ∃ S, mgS ar W P Q S := ⟨S, h⟩
  unfold mgK
  rw [dif_pos he, mgS_len (Classical.choose_spec he) h, mgS_shape (Classical.choose_spec he) h]
theorem mgK_symm {ar : Nat → Nat} {T Q : List Nat} (k : Int) : mgK ar T T Q k = mgK ar Q Q T k := by
  by_cases h : ∃ S, mgS ar T T Q S
  · obtain ⟨S, hS⟩ := h
    rw [mgK_of hS, mgK_of (mgS_symm hS)]
  · unfold mgK
    rw [dif_neg h, dif_neg (fun ⟨S, hS⟩ => h ⟨S, mgS_symm hS⟩)]
/-- terms whose variables may be more than there are in a book -/
def tlo (b : Bk) (L : List Nat) : Prop := tms (bar b) 1 L ∧ L.length ≤ 12 ∧ ∀ d ∈ L, d < bns b ∨ (100 ≤ d ∧ d < 112)
theorem twf.lo {b : Bk} (hb : bwf b) {L : List Nat} (h : twf b L) : tlo b L := ⟨h.1, h.2.1, fun d hd => by
  have := hb.2.1
  rcases h.2.2 d hd with h | h
  · exact Or.inl h
  · exact Or.inr ⟨h.1, by omega⟩⟩
theorem tms_congr {ar : Nat → Nat} : ∀ (L K : List Nat) (o : Nat), L.map ar = K.map ar → (tms ar o L ↔ tms ar o K) := by
  intro L
  induction L with
  | nil => intro K o h; cases K with
    | nil => rfl
    | cons x K => simp at h
  | cons d L ih =>
    intro K o h
    cases K with
    | nil => simp at h
    | cons x K =>
      simp only [List.map_cons, List.cons.injEq] at h
      cases o with
      | zero => exact Iff.rfl
      | succ o =>
        show tms ar (o + ar d) L ↔ tms ar (o + ar x) K
        rw [h.1]
        exact ih K _ h.2
theorem apartK_ar {ar : Nat → Nat} (hz : ∀ d, 100 ≤ d → ar d = 0) : ∀ (L : List Nat) (k : Nat), (apartK k L).map ar = L.map ar
  | [], _ => rfl
  | c :: L, k => by
    simp only [apartK, List.map_cons, apartK_ar hz L]
    congr 1
    split
    · rfl
    · rw [hz _ (by omega), hz c (by omega)]
theorem star_ar {ar : Nat → Nat} (hz : ∀ d, 100 ≤ d → ar d = 0) (L : List Nat) : (L.map star).map ar = L.map ar := by
  rw [List.map_map]
  refine List.map_congr_left (fun d _ => ?_)
  show ar (star d) = ar d
  unfold star
  by_cases h : d < 100
  · rw [Nat.min_eq_left (by omega)]
  · rw [Nat.min_eq_right (by omega), hz 100 (by omega), hz d (by omega)]
theorem apartK_mem {b : Bk} : ∀ (L : List Nat) (k : Nat), k + L.length ≤ 12 → (∀ d ∈ L, d < bns b ∨ (100 ≤ d ∧ d < 112)) → ∀ d ∈ apartK k L, d < bns b ∨ (100 ≤ d ∧ d < 112)
  | [], _, _, _ => fun d hd => by cases hd
  | c :: L, k, h1, h2 => by
    intro d hd
    simp only [List.length_cons] at h1
    simp only [apartK, List.mem_cons] at hd
    rcases hd with rfl | hd
    · split
      · rcases h2 c (by simp) with h | h
        · exact Or.inl h
        · omega
      · exact Or.inr (by omega)
    · exact apartK_mem L (k + 1) (by omega) (fun x hx => h2 x (by simp [hx])) d hd
theorem tlo.apart {b : Bk} {L : List Nat} (h : tlo b L) : tlo b (apartK 0 L) :=
  ⟨(tms_congr _ _ _ (apartK_ar (bar_z b) L 0)).mpr h.1, by rw [apartK_len]; exact h.2.1, apartK_mem L 0 (by have := h.2.1; omega) h.2.2⟩
theorem tlo.one {b : Bk} {L : List Nat} (h : tlo b L) : tlo b (L.map star) :=
  ⟨(tms_congr _ _ _ (star_ar (bar_z b) L)).mpr h.1, by rw [List.length_map]; exact h.2.1, fun d hd => by
    obtain ⟨e, he, rfl⟩ := List.mem_map.mp hd
    unfold star
    rcases h.2.2 e he with h | h <;> omega⟩
def qm (m : Nat) (Q : List Nat) : List Nat := if m = 1 then apartK 0 Q else if m = 3 then Q.map star else Q
def rm (m : Nat) (T : List Nat) : List Nat := if m = 1 ∨ m = 2 then apartK 0 T else T
theorem tlo.qm {b : Bk} {L : List Nat} (h : tlo b L) (m : Nat) : tlo b (qm m L) := by
  unfold _root_.Jvm.Pilot.CTermShelfLaw_law_r6037_a8bcb7.qm
  split
  · exact h.apart
  · split
    · exact h.one
    · exact h
theorem tlo.rm {b : Bk} {L : List Nat} (h : tlo b L) (m : Nat) : tlo b (rm m L) := by
  unfold _root_.Jvm.Pilot.CTermShelfLaw_law_r6037_a8bcb7.rm
  split
  · exact h.apart
  · exact h
theorem tlo.cl {b : Bk} (hb : bwf b) {L : List Nat} (h : tlo b L) : ∀ d ∈ L, bar b d ≤ 3 ∧ d < 112 := fun d hd => ⟨bar_le hb d, by have := hb.1; rcases h.2.2 d hd with h | h <;> omega⟩
theorem tlo.sh {b : Bk} (hb : bwf b) {L : List Nat} (h : tlo b L) {a : Nat} (ha : a ≤ 28) : tms (bar b) 1 (L.map (sh a)) ∧ ∀ d ∈ L.map (sh a), d < bns b ∨ (100 ≤ d ∧ d < 148) := by
  refine ⟨(tms_sh (bar_z b) a L 1).mpr h.1, fun d hd => ?_⟩
  obtain ⟨e, he, rfl⟩ := List.mem_map.mp hd
  unfold _root_.Jvm.Pilot.CTermShelfLaw_law_r6037_a8bcb7.sh
  rcases h.2.2 e he with h | h
  · rw [if_pos (by have := hb.1; omega)]; exact Or.inl h
  · rw [if_neg (by omega)]; exact Or.inr (by omega)
section FITR
variable {ty : xTy} {M : Nat} {mm mi : Nat → Nat} {h0 : xH} {I : Nat → Int32} {A : Nat → Nat → Int32} {J : Nat → Int64} {b : Bk}
theorem ar19 {A' : Nat → Nat → Int32} (hb : bwf b) (h : RB I A b) (h19 : A' 19 = A 19) {L : List Nat} (hL : ∀ d ∈ L, d < bns b ∨ (100 ≤ d ∧ d < 148)) : arR A' (bar b) L := by
  have := h.arR hb hL
  unfold arR at *
  rw [h19]
  exact this
theorem r_putsRule (H : MH ty M mm mi h0) (hb : bwf b) (hR : RB I A b) {r : Nat} (hr : r < bnr b) {v : Nat} (hv : v ≤ 28) {at1 : Nat} (hI : I 33 = i32 at1) (hat : at1 ≤ 300) :
    ∃ A', jf_X12_putsRule ty (rst mm mi h0 M I A J) M (i32 r) (i32 v) = some (i32 at1, rst mm mi h0 M (fu I 33 (i32 ((at1 + (bT b r).length : Nat) : Int))) A' J) ∧ but 32 A A' ∧ (∀ j, j < at1 → A' 32 j = A 32 j) ∧ seg (A' 32) at1 (putK v 0 (bT b r)) := by
  have h16 := hb.2.2.1
  have hT := (hb.2.2.2.2 r hr).1
  obtain ⟨-, hl, hs, -, -⟩ := hR.2.2.2.2.2 r hr
  obtain ⟨A', q1, q2, q3, q4⟩ := r_puts (I := I) (A := A) (J := J) H (kr := 23) (by decide) (by decide) (v := v) (by omega) (by omega) (fm := 12 * r) (at1 := at1) (L := bT b r) hI (by have := hT.2.1; show _ ≤ 384; omega) (by decide) (by have := hT.2.1; omega) hs (fun d hd => by have := hT.lt hb d hd; omega)
  refine ⟨A', ?_, q2, q3, q4⟩
  unfold jf_X12_putsRule
  simp (disch := omega) only [rr_23 H, rr_22 H, ga_22 H, xbs, i32_lit, i32_neg, i32_add, i32_sub, i32_mul, i32_lt, i32_le, i32_eq, Int.toNat_natCast, hl]
  rw [show (12 * (r : Int)) = ((12 * r : Nat) : Int) by omega, q1]
  rfl
theorem r_putsQuery (H : MH ty M mm mi h0) (hb : bwf b) {Q : List Nat} (hQ : twf b Q) (hs : seg (A 27) 0 Q) (h28 : I 28 = i32 Q.length) {m : Nat} (hm : m ≤ 3) (h41 : I 41 = i32 m) {at1 : Nat} (hI : I 33 = i32 at1) (hat : at1 ≤ 300) :
    ∃ A', jf_X12_putsQuery ty (rst mm mi h0 M I A J) M = some (i32 at1, rst mm mi h0 M (fu I 33 (i32 ((at1 + Q.length : Nat) : Int))) A' J) ∧ but 32 A A' ∧ (∀ j, j < at1 → A' 32 j = A 32 j) ∧ seg (A' 32) at1 ((qm m Q).map (sh (if m = 1 then 28 else 0))) := by
  have hl := hQ.2.1
  have hc : ∀ d ∈ Q, d < 112 := fun d hd => by have := hQ.lt hb d hd; omega
  have main : ∀ v : Int, -1 ≤ v → v ≤ 28 → putK v 0 Q = (qm m Q).map (sh (if m = 1 then 28 else 0)) → (m = 1 → v = 28) → (m = 3 → v = -1) → (m ≠ 1 → m ≠ 3 → v = 0) → ∃ A', jf_X12_putsQuery ty (rst mm mi h0 M I A J) M = some (i32 at1, rst mm mi h0 M (fu I 33 (i32 ((at1 + Q.length : Nat) : Int))) A' J) ∧ but 32 A A' ∧ (∀ j, j < at1 → A' 32 j = A 32 j) ∧ seg (A' 32) at1 ((qm m Q).map (sh (if m = 1 then 28 else 0))) := by
    intro v hv1 hv2 he e1 e2 e3
    obtain ⟨A', q1, q2, q3, q4⟩ := r_puts (I := I) (A := A) (J := J) H (kr := 27) (by decide) (by decide) (v := v) hv1 hv2 (fm := 0) (at1 := at1) (L := Q) hI (by show _ ≤ 60; omega) (by decide) (by omega) hs hc
    rw [he] at q4
    refine ⟨A', ?_, q2, q3, q4⟩
    unfold jf_X12_putsQuery
    simp (disch := omega) only [rr_27 H, xbs, rI, h41, h28, i32_lit, i32_neg, i32_add, i32_sub, i32_mul, i32_lt, i32_le, i32_eq]
    rw [show i32 0 = i32 ((0 : Nat) : Int) from rfl] at *
    by_cases m1 : m = 1
    · rw [if_pos (by omega)]
      obtain rfl := e1 m1
      rw [q1]; rfl
    · rw [if_neg (by omega)]
      by_cases m3 : m = 3
      · rw [if_pos (by omega)]
        obtain rfl := e2 m3
        rw [q1]; rfl
      · rw [if_neg (by omega)]
        obtain rfl := e3 m1 m3
        rw [show i32 ((0 : Nat) : Int) = i32 (0 : Int) from rfl] at *
        rw [q1]; rfl
  unfold qm at main ⊢
  by_cases m1 : m = 1
  · exact main 28 (by omega) (by omega) (by rw [if_pos m1, if_pos m1]; exact putK_apart (v := 28) (by omega) Q 0) (fun _ => rfl) (fun _ => by omega) (fun z => by omega)
  · by_cases m3 : m = 3
    · exact main (-1) (by omega) (by omega) (by rw [if_neg m1, if_pos m3, if_neg m1, sh0]; exact putK_one Q 0) (fun z => by omega) (fun _ => rfl) (fun _ z => by omega)
    · exact main 0 (by omega) (by omega) (by rw [if_neg m1, if_neg m3, if_neg m1]; exact putK_sh (v := 0) (by omega) Q 0) (fun z => by omega) (fun z => by omega) (fun _ _ => rfl)
theorem r_madeXY (H : MH ty M mm mi h0) {ar : Nat → Nat} (hz : ∀ d, 100 ≤ d → ar d = 0) {X Y : List Nat} {a c i j : Nat} (h1 : tms ar 1 X) (h2 : tms ar 1 Y) (h3 : seg (A 32) i (X.map (sh a))) (h4 : seg (A 32) j (Y.map (sh c))) (h5 : arR A ar (X.map (sh a))) (h6 : arR A ar (Y.map (sh c))) (h7 : i + X.length ≤ 400) (h8 : j + Y.length ≤ 400) (h9 : ∀ v, v < 48 → A 34 v = i32 (-1)) :
    ∃ A', jf_X12_isMade ty (rst mm mi h0 M I A J) M (i32 i) (i32 j) = some (bI (mtB ar X Y), rst mm mi h0 M I A' J) ∧ but 34 A A' := by
  obtain ⟨A', q1, q2, -⟩ := r_made (I := I) (J := J) (o := 0) (b := b00) H ((tms_sh hz a X 1).mpr h1) ((tms_sh hz c Y 1).mpr h2) h3 h4 h5 h6 (by rw [List.length_map]; exact h7) (by rw [List.length_map]; exact h8) (fun v hv => ⟨fun _ => h9 v hv, fun s hs => by cases hs⟩)
  rw [(mt_sh hz a c X Y b00 b00 (fun v => rfl)).1] at q1
  exact ⟨A', q1, q2⟩
end FITR

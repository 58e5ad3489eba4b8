/-! CLASSES of places: what the class' unifier holds -/
section CLS1
variable {ar : Nat → Nat} {hp : List Nat}
def RTI (n : Nat) (par rt dep : Nat → Nat) (md : Nat) : Prop := ∀ i, i < n → par i < n ∧ rt i < n ∧ rt (par i) = rt i ∧ par (rt i) = rt i ∧ (par i = i → dep i = 0 ∧ rt i = i) ∧ (par i ≠ i → dep (par i) < dep i) ∧ dep i ≤ md
def jn (n : Nat) (par : Nat → Nat) (pa pb : List Nat) (x y : Nat) : Prop := ∀ E : Nat → Nat → Prop, (∀ a, E a a) → (∀ a b, E a b → E b a) → (∀ a b c, E a b → E b c → E a c) → (∀ i, i < n → E i (par i)) → (∀ (k a b : Nat), pa[k]? = some a → pb[k]? = some b → E a b) → E x y
def CUI (ar : Nat → Nat) (hp : List Nat) (x0 y0 : Nat) (par rt dep : Nat → Nat) (md : Nat) (sg : Nat → Option Nat) (pa pb : List Nat) : Prop :=
  RTI hp.length par rt dep md ∧
  (∀ φ, wfs ar φ → sub φ (tm ar hp x0) = sub φ (tm ar hp y0) → (∀ i, i < hp.length → sub φ (tm ar hp i) = sub φ (tm ar hp (par i))) ∧ prs ar hp φ pa pb) ∧
  (∀ r, r < hp.length → par r = r → (∀ s, sg r = some s → s < hp.length ∧ (∃ d, hp[s]? = some d ∧ d < 100) ∧ rt s = r) ∧ (sg r = none → ∀ i, i < hp.length → rt i = r → ∀ d, hp[i]? = some d → 100 ≤ d)) ∧
  (∀ i d, hp[i]? = some d → d < 100 → ∀ s, sg (rt i) = some s → hp[s]? = some d ∧ ∀ (k a b : Nat), (ags ar hp (i + 1) (ar d))[k]? = some a → (ags ar hp (s + 1) (ar d))[k]? = some b → jn hp.length par pa pb a b) ∧
  jn hp.length par pa pb x0 y0 ∧ (pa.length = pb.length ∧ (∀ x ∈ pa, x < hp.length) ∧ ∀ x ∈ pb, x < hp.length) ∧ ∀ i j d, hp[i]? = some d → hp[j]? = some d → 100 ≤ d → rt i = rt j
theorem RTI.chain {n : Nat} {par rt dep : Nat → Nat} {md : Nat} (h : RTI n par rt dep md) {E : Nat → Nat → Prop} (e1 : ∀ a, E a a) (e3 : ∀ a b c, E a b → E b c → E a c) (e4 : ∀ i, i < n → E i (par i)) : ∀ k i, dep i < k → i < n → E i (rt i) := by
  intro k
  induction k with
  | zero => intro i hk; omega
  | succ k ih =>
    intro i hk hi
    obtain ⟨a1, a2, a3, a4, a5, a6, a7⟩ := h i hi
    by_cases hp' : par i = i
    · rw [(a5 hp').2]; exact e1 i
    · have := ih (par i) (by have := a6 hp'; omega) a1
      rw [a3] at this
      exact e3 _ _ _ (e4 i hi) this
theorem RTI.eqs {par rt dep : Nat → Nat} {md : Nat} (h : RTI hp.length par rt dep md) {φ : Nat → List Nat} (hs : ∀ i, i < hp.length → sub φ (tm ar hp i) = sub φ (tm ar hp (par i))) {i : Nat} (hi : i < hp.length) : sub φ (tm ar hp i) = sub φ (tm ar hp (rt i)) :=
  h.chain (E := fun a b => sub φ (tm ar hp a) = sub φ (tm ar hp b)) (fun _ => rfl) (fun _ _ _ z w => z.trans w) hs (dep i + 1) i (by omega) hi
theorem jn.mono {n : Nat} {par par' : Nat → Nat} {pa pb pa' pb' : List Nat} {x y : Nat} (h : jn n par pa pb x y) (hm : ∀ E : Nat → Nat → Prop, (∀ a, E a a) → (∀ a b, E a b → E b a) → (∀ a b c, E a b → E b c → E a c) → (∀ i, i < n → E i (par' i)) → (∀ (k a b : Nat), pa'[k]? = some a → pb'[k]? = some b → E a b) → (∀ i, i < n → E i (par i)) ∧ ∀ (k a b : Nat), pa[k]? = some a → pb[k]? = some b → E a b) : jn n par' pa' pb' x y := by
  intro E e1 e2 e3 e4 e5
  obtain ⟨f1, f2⟩ := hm E e1 e2 e3 e4 e5
  exact h E e1 e2 e3 f1 f2
theorem pend_app {E : Nat → Nat → Prop} {pa pb qa qb : List Nat} (hl : pa.length = pb.length) (h : ∀ (k a b : Nat), (pa ++ qa)[k]? = some a → (pb ++ qb)[k]? = some b → E a b) : (∀ (k a b : Nat), pa[k]? = some a → pb[k]? = some b → E a b) ∧ ∀ (k a b : Nat), qa[k]? = some a → qb[k]? = some b → E a b := by
  refine ⟨fun k a b ha hb => h k a b ?_ ?_, fun k a b ha hb => h (pa.length + k) a b ?_ ?_⟩
  · rw [List.getElem?_append_left (List.getElem?_eq_some_iff.mp ha).1]; exact ha
  · rw [List.getElem?_append_left (List.getElem?_eq_some_iff.mp hb).1]; exact hb
  · rw [List.getElem?_append_right (by omega)]; simpa using ha
  · rw [List.getElem?_append_right (by omega), ← hl]; simpa using hb
theorem pend_snoc {E : Nat → Nat → Prop} {pa pb : List Nat} {x y : Nat} (hl : pa.length = pb.length) (h1 : ∀ (k a b : Nat), pa[k]? = some a → pb[k]? = some b → E a b) (h2 : E x y) : ∀ (k a b : Nat), (pa ++ [x])[k]? = some a → (pb ++ [y])[k]? = some b → E a b := by
  intro k a b ha hb
  by_cases hk : k < pa.length
  · rw [List.getElem?_append_left hk] at ha
    rw [List.getElem?_append_left (by omega)] at hb
    exact h1 k a b ha hb
  · rw [List.getElem?_append_right (by omega)] at ha hb
    have : k - pa.length = 0 := by have := (List.getElem?_eq_some_iff.mp ha).1; simp at this; omega
    rw [this] at ha
    rw [← hl, this] at hb
    simp at ha hb
    subst ha; subst hb
    exact h2
/-- a pair of one class goes -/
theorem CUI.skip {x0 y0 : Nat} {par rt dep : Nat → Nat} {md : Nat} {sg : Nat → Option Nat} {pa pb : List Nat} {x y : Nat} (u : CUI ar hp x0 y0 par rt dep md sg (pa ++ [x]) (pb ++ [y])) (hl : pa.length = pb.length) (hxy : rt x = rt y) : CUI ar hp x0 y0 par rt dep md sg pa pb := by
  obtain ⟨u1, u2, u3, u4, u5, ⟨-, u6, u7⟩, u8⟩ := u
  have hx : x < hp.length := u6 x (by simp)
  have hy : y < hp.length := u7 y (by simp)
  have hm : ∀ a b, jn hp.length par (pa ++ [x]) (pb ++ [y]) a b → jn hp.length par pa pb a b := fun a b hj => hj.mono (fun E e1 e2 e3 e4 e5 => ⟨e4, pend_snoc hl e5 (by
    have r1 := u1.chain e1 e3 e4 _ x (Nat.lt_succ_self _) hx
    have r2 := u1.chain e1 e3 e4 _ y (Nat.lt_succ_self _) hy
    rw [hxy] at r1
    exact e3 _ _ _ r1 (e2 _ _ r2))⟩)
  refine ⟨u1, fun φ hφ h0 => ?_, u3, fun i d hd h100 s hs => ?_, hm _ _ u5, ⟨hl, fun z hz => u6 z (by simp [hz]), fun z hz => u7 z (by simp [hz])⟩, u8⟩
  · obtain ⟨v1, v2⟩ := u2 φ hφ h0
    exact ⟨v1, ((prs_snoc hl).mp v2).1⟩
  · obtain ⟨v1, v2⟩ := u4 i d hd h100 s hs
    exact ⟨v1, fun k a b ha hb => hm _ _ (v2 k a b ha hb)⟩
/-- two classes become one; qa, qb: the arguments that must become alike -/
theorem CUI.join (h : okH ar hp) {x0 y0 : Nat} {par rt dep : Nat → Nat} {md : Nat} {sg sg' : Nat → Option Nat} {pa pb : List Nat} {x y : Nat} (u : CUI ar hp x0 y0 par rt dep md sg (pa ++ [x]) (pb ++ [y])) (hl : pa.length = pb.length) (hxy : rt x ≠ rt y) {qa qb : List Nat} (hql : qa.length = qb.length ∧ (∀ z ∈ qa, z < hp.length) ∧ ∀ z ∈ qb, z < hp.length)
    (hsg : ∀ r, r ≠ rt y → sg' r = sg r) (hcase : (sg (rt x) = none ∧ sg' (rt y) = sg (rt y) ∧ qa = [] ∧ qb = []) ∨ (∃ s, sg (rt x) = some s ∧ sg (rt y) = none ∧ sg' (rt y) = some s ∧ qa = [] ∧ qb = []) ∨ (∃ s s' d, sg (rt x) = some s ∧ sg (rt y) = some s' ∧ sg' (rt y) = some s' ∧ hp[s]? = some d ∧ hp[s']? = some d ∧ d < 100 ∧ qa = ags ar hp (s + 1) (ar d) ∧ qb = ags ar hp (s' + 1) (ar d))) :
    CUI ar hp x0 y0 (fu par (rt x) (rt y)) (fun i => if rt i = rt x then rt y else rt i) (fun i => if rt i = rt x then dep i + 1 else dep i) (md + 1) sg' (pa ++ qa) (pb ++ qb) := by
  obtain ⟨u1, u2, u3, u4, u5, ⟨-, u6, u7⟩, u8⟩ := u
  have hx : x < hp.length := u6 x (by simp)
  have hy : y < hp.length := u7 y (by simp)
  have rx := u1 x hx
  have ry := u1 y hy
  have pxx := u1 (rt x) rx.2.1
  have pyy := u1 (rt y) ry.2.1
  have hrxx : rt (rt x) = rt x := (pxx.2.2.2.2.1 rx.2.2.2.1).2
  have hryy : rt (rt y) = rt y := (pyy.2.2.2.2.1 ry.2.2.2.1).2
  have hm : ∀ a b, jn hp.length par (pa ++ [x]) (pb ++ [y]) a b → jn hp.length (fu par (rt x) (rt y)) (pa ++ qa) (pb ++ qb) a b := fun a b hj => hj.mono (fun E e1 e2 e3 e4 e5 => by
    have hpar : ∀ i, i < hp.length → E i (par i) := fun i hi => by
      by_cases hix : i = rt x
      · subst hix
        rw [rx.2.2.2.1]
        exact e1 _
      · have := e4 i hi
        rwa [fu_ne _ _ hix] at this
    refine ⟨hpar, pend_snoc hl (pend_app hl e5).1 ?_⟩
    have r1 := u1.chain e1 e3 hpar _ x (Nat.lt_succ_self _) hx
    have r2 := u1.chain e1 e3 hpar _ y (Nat.lt_succ_self _) hy
    have r3 := e4 (rt x) rx.2.1
    rw [fu_same] at r3
    exact e3 _ _ _ (e3 _ _ _ r1 r3) (e2 _ _ r2))
  refine ⟨fun i hi => ?_, fun φ hφ h0 => ?_, fun r hr hpr => ?_, fun i d hd h100 s hs => ?_, hm _ _ u5, ⟨by simp [hl, hql.1], fun z hz => ?_, fun z hz => ?_⟩, fun i j d hi hj h100 => ?_⟩
  · obtain ⟨a1, a2, a3, a4, a5, a6, a7⟩ := u1 i hi
    by_cases hix : i = rt x
    · subst hix
      rw [fu_same]
      simp only [hrxx, if_true, hryy, if_neg (Ne.symm hxy)]
      refine ⟨ry.2.1, ry.2.1, trivial, ?_, fun z => absurd z.symm hxy, fun _ => ?_, ?_⟩
      · rw [fu_ne _ _ (Ne.symm hxy)]; exact ry.2.2.2.1
      · rw [(pyy.2.2.2.2.1 ry.2.2.2.1).1]; omega
      · rw [(pxx.2.2.2.2.1 rx.2.2.2.1).1]; omega
    · rw [fu_ne _ _ hix]
      simp only [a3]
      refine ⟨a1, ?_, trivial, ?_, fun z => ?_, fun z => ?_, ?_⟩
      · split
        · exact ry.2.1
        · exact a2
      · split
        · rw [fu_ne _ _ (Ne.symm hxy)]; exact ry.2.2.2.1
        · rename_i hne
          rw [fu_ne _ _ hne]; exact a4
      · obtain ⟨b1, b2⟩ := a5 z
        rw [b2, if_neg hix, if_neg hix]
        exact ⟨b1, rfl⟩
      · have := a6 z
        split <;> omega
      · split <;> omega
  · obtain ⟨v1, v2⟩ := u2 φ hφ h0
    obtain ⟨v3, v4⟩ := (prs_snoc hl).mp v2
    have exy : sub φ (tm ar hp (rt x)) = sub φ (tm ar hp (rt y)) := by rw [← u1.eqs v1 hx, v4, u1.eqs v1 hy]
    refine ⟨fun i hi => ?_, (prs_app hl).mpr ⟨v3, ?_⟩⟩
    · by_cases hix : i = rt x
      · subst hix; rw [fu_same]; exact exy
      · rw [fu_ne _ _ hix]; exact v1 i hi
    · rcases hcase with ⟨-, -, rfl, rfl⟩ | ⟨s, -, -, -, rfl, rfl⟩ | ⟨s, s', d, c1, c2, -, c4, c5, c6, rfl, rfl⟩
      · intro i a b ha; simp at ha
      · intro i a b ha; simp at ha
      · have t1 := (u3 (rt x) rx.2.1 rx.2.2.2.1).1 s c1
        have t2 := (u3 (rt y) ry.2.1 ry.2.2.2.1).1 s' c2
        have es : sub φ (tm ar hp s) = sub φ (tm ar hp s') := by rw [u1.eqs v1 t1.1, t1.2.2, exy, ← t2.2.2, ← u1.eqs v1 t2.1]
        rw [sub_tm h c4 c6, sub_tm h c5 c6] at es
        exact (flat_inj h hφ _ _ hql.1 hql.2.1 hql.2.2).mp (List.cons.inj es).2
  · have hrx : r ≠ rt x := fun z => by rw [z, fu_same] at hpr; exact hxy hpr.symm
    rw [fu_ne _ _ hrx] at hpr
    have base := u3 r hr hpr
    by_cases hry : r = rt y
    · subst hry
      have bx := u3 (rt x) rx.2.1 rx.2.2.2.1
      refine ⟨fun s hs => ?_, fun hn i hi hri d hd => ?_⟩ <;> dsimp only at *
      · rcases hcase with ⟨c1, c2, -, -⟩ | ⟨s1, c1, c2, c3, -, -⟩ | ⟨s1, s', d, c1, c2, c3, -⟩
        · rw [c2] at hs
          obtain ⟨t1, t2, t3⟩ := base.1 s hs
          exact ⟨t1, t2, by rw [t3, if_neg (Ne.symm hxy)]⟩
        · rw [c3] at hs; cases hs
          obtain ⟨t1, t2, t3⟩ := bx.1 s c1
          exact ⟨t1, t2, by rw [if_pos t3]⟩
        · rw [c3] at hs; cases hs
          obtain ⟨t1, t2, t3⟩ := base.1 s c2
          exact ⟨t1, t2, by rw [t3, if_neg (Ne.symm hxy)]⟩
      · rcases hcase with ⟨c1, c2, -, -⟩ | ⟨s1, c1, c2, c3, -, -⟩ | ⟨s1, s', d, c1, c2, c3, -⟩
        · rw [c2] at hn
          by_cases hix : rt i = rt x
          · exact bx.2 c1 i hi hix d hd
          · rw [if_neg hix] at hri
            exact base.2 hn i hi hri d hd
        · rw [c3] at hn; cases hn
        · rw [c3] at hn; cases hn
    · rw [hsg r hry]
      refine ⟨fun s hs => ?_, fun hn i hi hri d hd => ?_⟩ <;> dsimp only at *
      · obtain ⟨t1, t2, t3⟩ := base.1 s hs
        exact ⟨t1, t2, by rw [t3, if_neg hrx]⟩
      · by_cases hix : rt i = rt x
        · rw [if_pos hix] at hri; exact absurd hri.symm hry
        · rw [if_neg hix] at hri
          exact base.2 hn i hi hri d hd
  · have hi : i < hp.length := (List.getElem?_eq_some_iff.mp hd).1
    dsimp only at hs
    by_cases hix : rt i = rt x
    · rw [if_pos hix] at hs
      rcases hcase with ⟨c1, c2, -, -⟩ | ⟨s1, c1, c2, c3, -, -⟩ | ⟨s1, s', e, c1, c2, c3, c4, c5, c6, rfl, rfl⟩
      · exact absurd ((u3 (rt x) rx.2.1 rx.2.2.2.1).2 c1 i hi hix d hd) (by omega)
      · rw [c3] at hs; cases hs
        obtain ⟨v1, v2⟩ := u4 i d hd h100 s (by rw [hix]; exact c1)
        exact ⟨v1, fun k a b ha hb => hm _ _ (v2 k a b ha hb)⟩
      · rw [c3] at hs; cases hs
        obtain ⟨v1, v2⟩ := u4 i d hd h100 s1 (by rw [hix]; exact c1)
        have hde : e = d := Option.some.inj (c4.symm.trans v1)
        subst hde
        refine ⟨c5, fun k a b ha hb => ?_⟩
        have hk : k < (ags ar hp (s1 + 1) (ar e)).length := by
          have := (List.getElem?_eq_some_iff.mp ha).1
          rw [ags_len] at this ⊢
          exact this
        obtain ⟨w, hw⟩ := get_some hk
        have j1 := hm _ _ (v2 k a w ha hw)
        intro E e1 e2 e3 e4 e5
        exact e3 _ _ _ (j1 E e1 e2 e3 e4 e5) ((pend_app hl e5).2 k w b hw hb)
    · rw [if_neg hix] at hs
      by_cases hiy : rt i = rt y
      · rcases hcase with ⟨c1, c2, -, -⟩ | ⟨s1, c1, c2, c3, -, -⟩ | ⟨s1, s', e, c1, c2, c3, c4, c5, c6, -, -⟩
        · rw [hiy, c2, ← hiy] at hs
          obtain ⟨v1, v2⟩ := u4 i d hd h100 s hs
          exact ⟨v1, fun k a b ha hb => hm _ _ (v2 k a b ha hb)⟩
        · exact absurd ((u3 (rt y) ry.2.1 ry.2.2.2.1).2 c2 i hi hiy d hd) (by omega)
        · rw [hiy, c3] at hs
          cases hs
          obtain ⟨v1, v2⟩ := u4 i d hd h100 s (by rw [hiy]; exact c2)
          exact ⟨v1, fun k a b ha hb => hm _ _ (v2 k a b ha hb)⟩
      · rw [hsg _ hiy] at hs
        obtain ⟨v1, v2⟩ := u4 i d hd h100 s hs
        exact ⟨v1, fun k a b ha hb => hm _ _ (v2 k a b ha hb)⟩
  · rcases List.mem_append.mp hz with hz | hz
    · exact u6 z (by simp [hz])
    · exact hql.2.1 z hz
  · rcases List.mem_append.mp hz with hz | hz
    · exact u7 z (by simp [hz])
    · exact hql.2.2 z hz
  · dsimp only
    rw [u8 i j d hi hj h100]
end CLS1

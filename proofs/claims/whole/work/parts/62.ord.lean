/-! THE ORDER of paths, of lists alone -/
section ORD
variable {b : Bk}
/-- neither goes on where the other ends -/
def pfr (X Y : List Nat) : Prop := (shp X Y = X.length ∨ shp X Y = Y.length) → X = Y
theorem rk_inj {a e : Nat} (h : rk a = rk e) : a = e := by
  unfold rk at h
  split at h <;> split at h <;> omega
theorem shp_self : ∀ X : List Nat, shp X X = X.length
  | [] => rfl
  | a :: X => by simp [shp, shp_self X]
theorem shp_comm : ∀ X Y : List Nat, shp X Y = shp Y X
  | [], [] => rfl
  | [], _ :: _ => rfl
  | _ :: _, [] => rfl
  | a :: X, e :: Y => by
    simp only [shp]
    by_cases h : a = e
    · rw [if_pos h, if_pos h.symm, shp_comm X Y]
    · rw [if_neg h, if_neg (Ne.symm h)]
theorem tms_pfr {ar : Nat → Nat} : ∀ (X Y : List Nat) (o : Nat), tms ar o X → tms ar o Y → pfr X Y
  | [], [], _, _, _ => fun _ => rfl
  | [], _ :: _, o, h1, h2 => by
    simp only [tms] at h1
    subst h1
    simp only [tms] at h2
  | _ :: _, [], o, h1, h2 => by
    simp only [tms] at h2
    subst h2
    simp only [tms] at h1
  | a :: X, e :: Y, 0, h1, _ => by simp only [tms] at h1
  | a :: X, e :: Y, o + 1, h1, h2 => by
    intro h
    simp only [shp, List.length_cons] at h
    by_cases hae : a = e
    · subst hae
      rw [if_pos rfl] at h
      simp only [tms] at h1 h2
      rw [tms_pfr X Y _ h1 h2 (by omega)]
    · rw [if_neg hae] at h
      omega
theorem pfr_cons {a : Nat} {X Y : List Nat} (h : pfr (a :: X) (a :: Y)) : pfr X Y := fun h1 => by
  have := h (by simp only [shp, if_true, List.length_cons]; omega)
  injection this
/-- ahead is less, letter by letter -/
theorem ahd_lt : ∀ (X Y : List Nat), pfr X Y → (ahd X Y = true ↔ X.map rk < Y.map rk)
  | [], [], _ => by simp [ahd]
  | [], e :: Y, h => absurd (h (Or.inl rfl)) (by simp)
  | a :: X, [], h => absurd (h (Or.inr rfl)) (by simp)
  | a :: X, e :: Y, h => by
    simp only [ahd, List.map_cons, List.cons_lt_cons_iff]
    by_cases hae : a = e
    · subst hae
      rw [if_pos rfl, ahd_lt X Y (pfr_cons h)]
      simp
    · rw [if_neg hae, decide_eq_true_iff]
      constructor
      · exact fun h => Or.inl h
      · rintro (h | ⟨h, -⟩)
        · exact h
        · exact absurd (rk_inj h) hae
theorem map_rk_inj : ∀ {X Y : List Nat}, X.map rk = Y.map rk → X = Y
  | [], [], _ => rfl
  | [], _ :: _, h => by simp at h
  | _ :: _, [], h => by simp at h
  | a :: X, e :: Y, h => by
    simp only [List.map_cons, List.cons.injEq] at h
    rw [rk_inj h.1, map_rk_inj h.2]
theorem lt_tri (X Y : List Nat) : X < Y ∨ X = Y ∨ Y < X := by
  induction X generalizing Y with
  | nil => cases Y <;> simp
  | cons a X ih =>
    cases Y with
    | nil => simp
    | cons e Y =>
      simp only [List.cons_lt_cons_iff, List.cons.injEq]
      rcases Nat.lt_trichotomy a e with h | h | h
      · exact Or.inl (Or.inl h)
      · subst h
        rcases ih Y with h | h | h
        · exact Or.inl (Or.inr ⟨rfl, h⟩)
        · exact Or.inr (Or.inl ⟨rfl, h⟩)
        · exact Or.inr (Or.inr (Or.inr ⟨rfl, h⟩))
      · exact Or.inr (Or.inr (Or.inl h))
theorem lt_irr (X : List Nat) : ¬ X < X := by
  induction X with
  | nil => simp
  | cons a X ih => simp only [List.cons_lt_cons_iff]; rintro (h | ⟨-, h⟩); exact Nat.lt_irrefl _ h; exact ih h
theorem lt_trs : ∀ {X Y Z : List Nat}, X < Y → Y < Z → X < Z
  | _, [], _, h, _ => absurd h (by simp)
  | _, _ :: _, [], _, h => absurd h (by simp)
  | [], _ :: _, _ :: _, _, _ => by simp
  | a :: X, e :: Y, i :: Z, h1, h2 => by
    simp only [List.cons_lt_cons_iff] at *
    rcases h1 with h1 | ⟨h1, k1⟩ <;> rcases h2 with h2 | ⟨h2, k2⟩
    · exact Or.inl (by omega)
    · exact Or.inl (by omega)
    · exact Or.inl (by omega)
    · exact Or.inr ⟨by omega, lt_trs k1 k2⟩
/-- the rules' paths -/
def pk (b : Bk) (r : Nat) : List Nat := (pth (bT b r)).map rk
def tok (b : Bk) : Prop := ∃ ar : Nat → Nat, ∀ r, r < bnr b → tms ar 1 (pth (bT b r))
theorem tok.pf (h : tok b) {r s : Nat} (hr : r < bnr b) (hs : s < bnr b) : pfr (pth (bT b r)) (pth (bT b s)) := by
  obtain ⟨ar, h⟩ := h
  exact tms_pfr _ _ 1 (h r hr) (h s hs)
theorem tok.ah (h : tok b) {r s : Nat} (hr : r < bnr b) (hs : s < bnr b) : ahd (pth (bT b r)) (pth (bT b s)) = true ↔ pk b r < pk b s := ahd_lt _ _ (h.pf hr hs)
theorem tok.an (h : tok b) {r s : Nat} (hr : r < bnr b) (hs : s < bnr b) : ahN b r s = true ↔ pk b r < pk b s ∨ (pk b r = pk b s ∧ r < s) := by
  have e1 : (pth (bT b r)).length = (bT b r).length := by simp [pth]
  have e2 : (pth (bT b s)).length = (bT b s).length := by simp [pth]
  unfold ahN
  by_cases w : shp (pth (bT b r)) (pth (bT b s)) = (bT b r).length ∨ shp (pth (bT b r)) (pth (bT b s)) = (bT b s).length
  · rw [if_pos w]
    have e : pth (bT b r) = pth (bT b s) := h.pf hr hs (by rw [e1, e2]; exact w)
    have e' : pk b r = pk b s := by unfold pk; rw [e]
    rw [e']
    simp [lt_irr]
  · rw [if_neg w, h.ah hr hs]
    constructor
    · exact fun h => Or.inl h
    · rintro (h | ⟨h, -⟩)
      · exact h
      · have e := map_rk_inj h
        rw [e, shp_self, e2] at w
        exact absurd (Or.inr rfl) w
theorem tok.asy (h : tok b) {r s : Nat} (hr : r < bnr b) (hs : s < bnr b) (h1 : ahN b r s = true) : ahN b s r = false := by
  rw [Bool.eq_false_iff]
  intro h2
  rw [h.an hr hs] at h1
  rw [h.an hs hr] at h2
  rcases h1 with h1 | ⟨h1, k1⟩ <;> rcases h2 with h2 | ⟨h2, k2⟩
  · exact lt_irr _ (lt_trs h1 h2)
  · rw [h2] at h1; exact lt_irr _ h1
  · rw [h1] at h2; exact lt_irr _ h2
  · omega
theorem tok.trs (h : tok b) {r s t : Nat} (hr : r < bnr b) (hs : s < bnr b) (ht : t < bnr b) (h1 : ahN b r s = true) (h2 : ahN b s t = true) : ahN b r t = true := by
  rw [h.an hr hs] at h1
  rw [h.an hs ht] at h2
  rw [h.an hr ht]
  rcases h1 with h1 | ⟨h1, k1⟩ <;> rcases h2 with h2 | ⟨h2, k2⟩
  · exact Or.inl (lt_trs h1 h2)
  · exact Or.inl (h2 ▸ h1)
  · exact Or.inl (h1 ▸ h2)
  · exact Or.inr ⟨h1.trans h2, by omega⟩
theorem tok.irr (h : tok b) {r : Nat} (hr : r < bnr b) : ahN b r r = false := by
  rw [Bool.eq_false_iff]
  intro h2
  rw [h.an hr hr] at h2
  rcases h2 with h2 | ⟨-, h2⟩
  · exact lt_irr _ h2
  · omega
/-- what lies between two that share has its share -/
theorem shp_conv : ∀ (X Y Z : List Nat) (n : Nat), ahd Y X = false → ahd Z Y = false → pfr Y X → n ≤ shp X Z → n ≤ shp Y Z
  | [], _, _, n, _, _, _, h => by simp only [shp] at h; omega
  | _ :: _, _, [], n, _, _, _, h => by simp only [shp] at h; omega
  | a :: X, [], _ :: _, n, _, _, hp, _ => absurd (hp (Or.inl rfl)) (by simp)
  | a :: X, e :: Y, i :: Z, n, h1, h2, hp, h => by
    simp only [shp] at h ⊢
    by_cases hai : a = i
    · subst hai
      rw [if_pos rfl] at h
      simp only [ahd] at h1 h2
      by_cases hae : e = a
      · subst hae
        rw [if_pos rfl] at h1 h2 ⊢
        have := shp_conv X Y Z (n - 1) h1 h2 (pfr_cons hp) (by omega)
        omega
      · rw [if_neg hae] at h1
        rw [if_neg (Ne.symm hae)] at h2
        simp only [decide_eq_false_iff_not] at h1 h2
        exact absurd (rk_inj (show rk e = rk a by omega)) hae
    · rw [if_neg hai] at h
      omega
/-- the insertion keeps the order -/
theorem insO_perm (r : Nat) (l : List Nat) : (insO b r l).Perm (r :: l) := by
  unfold insO
  generalize hp : (fun x => ahd (pth (bT b r)) (pth (bT b x))) = p
  have h1 : (l.reverse.dropWhile p).reverse ++ (l.reverse.takeWhile p).reverse = l := by
    rw [← List.reverse_append, List.takeWhile_append_dropWhile, List.reverse_reverse]
  have h2 : ((l.reverse.dropWhile p).reverse ++ r :: (l.reverse.takeWhile p).reverse).Perm (r :: ((l.reverse.dropWhile p).reverse ++ (l.reverse.takeWhile p).reverse)) := List.perm_middle
  rw [h1] at h2
  exact h2
theorem mem_tW {p : Nat → Bool} : ∀ {l : List Nat} {x : Nat}, x ∈ l.takeWhile p → p x = true ∧ x ∈ l
  | [], x, h => by simp at h
  | a :: l, x, h => by
    rw [List.takeWhile_cons] at h
    split at h
    · rcases List.mem_cons.mp h with rfl | h
      · exact ⟨by assumption, List.mem_cons_self⟩
      · exact ⟨(mem_tW h).1, List.mem_cons_of_mem _ (mem_tW h).2⟩
    · simp at h
theorem dW_head {p : Nat → Bool} : ∀ {l : List Nat} {x : Nat} {k : List Nat}, l.dropWhile p = x :: k → p x = false
  | [], x, k, h => by simp at h
  | a :: l, x, k, h => by
    rw [List.dropWhile_cons] at h
    split at h
    · exact dW_head h
    · injection h with h1 h2
      subst h1
      simp_all
theorem mem_dW {p : Nat → Bool} {l : List Nat} {x : Nat} (h : x ∈ l.dropWhile p) : x ∈ l := (List.dropWhile_sublist p).subset h
theorem insO_sorted (h : tok b) {r : Nat} {l : List Nat} (hr : r < bnr b) (hl : ∀ x ∈ l, x < r) (hs : l.Pairwise (fun x y => ahN b x y = true)) : (insO b r l).Pairwise (fun x y => ahN b x y = true) := by
  have key : ∀ x ∈ l, (ahd (pth (bT b r)) (pth (bT b x)) = true → ahN b r x = true) ∧ (ahd (pth (bT b r)) (pth (bT b x)) = false → ahN b x r = true) := by
    intro x hx
    have hx' := hl x hx
    constructor
    · intro h1
      rw [h.an hr (by omega)]
      exact Or.inl ((h.ah hr (by omega)).mp h1)
    · intro h1
      rw [h.an (by omega) hr]
      rw [Bool.eq_false_iff, ne_eq, h.ah hr (by omega)] at h1
      rcases lt_tri (pk b x) (pk b r) with h2 | h2 | h2
      · exact Or.inl h2
      · exact Or.inr ⟨h2, hx'⟩
      · exact absurd h2 h1
  unfold insO
  have e1 : (l.reverse.dropWhile (fun x => ahd (pth (bT b r)) (pth (bT b x)))).reverse ++ (l.reverse.takeWhile (fun x => ahd (pth (bT b r)) (pth (bT b x)))).reverse = l := by
    rw [← List.reverse_append, List.takeWhile_append_dropWhile, List.reverse_reverse]
  rw [← e1, List.pairwise_append] at hs
  obtain ⟨s1, s2, s3⟩ := hs
  rw [List.pairwise_append, List.pairwise_cons]
  have hfront : ∀ x ∈ (l.reverse.dropWhile (fun x => ahd (pth (bT b r)) (pth (bT b x)))).reverse, ahN b x r = true := by
    intro x hx
    cases hd : l.reverse.dropWhile (fun x => ahd (pth (bT b r)) (pth (bT b x))) with
    | nil => rw [hd] at hx; simp at hx
    | cons y k =>
      have hy := dW_head hd
      have hyl : y ∈ l := by
        have : y ∈ l.reverse.dropWhile (fun x => ahd (pth (bT b r)) (pth (bT b x))) := by rw [hd]; exact List.mem_cons_self
        exact List.mem_reverse.mp (mem_dW this)
      have hyr := (key y hyl).2 hy
      rw [hd] at hx s1
      simp only [List.reverse_cons, List.mem_append, List.mem_singleton] at hx
      rcases hx with hx | rfl
      · simp only [List.reverse_cons, List.pairwise_append] at s1
        have hxy := s1.2.2 x hx y (by simp)
        have hxl : x ∈ l := by
          have : x ∈ l.reverse.dropWhile (fun x => ahd (pth (bT b r)) (pth (bT b x))) := by rw [hd]; exact List.mem_cons_of_mem _ (List.mem_reverse.mp hx)
          exact List.mem_reverse.mp (mem_dW this)
        exact h.trs (by have := hl x hxl; omega) (by have := hl y hyl; omega) hr hxy hyr
      · exact hyr
  have hback : ∀ x ∈ (l.reverse.takeWhile (fun x => ahd (pth (bT b r)) (pth (bT b x)))).reverse, ahN b r x = true := by
    intro x hx
    obtain ⟨h1, h2⟩ := mem_tW (List.mem_reverse.mp hx)
    exact (key x (List.mem_reverse.mp h2)).1 h1
  refine ⟨s1, ⟨hback, s2⟩, ?_⟩
  intro x hx y hy
  rcases List.mem_cons.mp hy with rfl | hy
  · exact hfront x hx
  · exact s3 x hx y hy
/-- rules below m that are in -/
def inL (z m : Nat) : List Nat := (List.range m).filter (inR z)
theorem inL_succ (z m : Nat) : inL z (m + 1) = if inR z m = true then inL z m ++ [m] else inL z m := by
  unfold inL
  rw [List.range_succ, List.filter_append]
  by_cases h : inR z m = true
  · rw [if_pos h, List.filter_cons, if_pos h, List.filter_nil]
  · rw [if_neg h, List.filter_cons, if_neg h, List.filter_nil, List.append_nil]
theorem mem_inL {z m r : Nat} : r ∈ inL z m ↔ r < m ∧ inR z r = true := by simp [inL]
def ordP (b : Bk) (z m : Nat) : List Nat := (inL z m).foldl (fun l r => insO b r l) []
theorem ordP_succ (z m : Nat) : ordP b z (m + 1) = if inR z m = true then insO b m (ordP b z m) else ordP b z m := by
  unfold ordP
  rw [inL_succ]
  split
  · rw [List.foldl_append]; rfl
  · rfl
theorem ordP_perm (z : Nat) : ∀ m, (ordP b z m).Perm (inL z m)
  | 0 => by simp [ordP, inL]
  | m + 1 => by
    rw [ordP_succ, inL_succ]
    split
    · refine (insO_perm m _).trans ?_
      refine ((ordP_perm z m).cons m).trans ?_
      exact (List.perm_append_singleton m (inL z m)).symm
    · exact ordP_perm z m
theorem ordP_sorted (h : tok b) (z : Nat) : ∀ m, m ≤ bnr b → (ordP b z m).Pairwise (fun x y => ahN b x y = true)
  | 0, _ => by simp [ordP, inL]
  | m + 1, hm => by
    rw [ordP_succ]
    split
    · exact insO_sorted h (by omega) (fun x hx => (mem_inL.mp ((ordP_perm z m).mem_iff.mp hx)).1) (ordP_sorted h z m (by omega))
    · exact ordP_sorted h z m (by omega)
theorem ordL_perm (z : Nat) : (ordL b z).Perm (inL z (bnr b)) := ordP_perm z (bnr b)
theorem ordL_sorted (h : tok b) (z : Nat) : (ordL b z).Pairwise (fun x y => ahN b x y = true) := ordP_sorted h z (bnr b) (Nat.le_refl _)
theorem ordL_mem {z r : Nat} : r ∈ ordL b z ↔ r < bnr b ∧ inR z r = true := by rw [(ordL_perm z).mem_iff, mem_inL]
theorem ordP_len (z m : Nat) : (ordP b z m).length ≤ m := by
  rw [(ordP_perm z m).length_eq, inL]
  exact Nat.le_trans (List.length_filter_le _ _) (by rw [List.length_range]; exact Nat.le_refl _)
/-- how many are ahead is where one stands -/
theorem sort_cnt (R : Nat → Nat → Bool) : ∀ (l : List Nat), l.Pairwise (fun x y => R x y = true ∧ R y x = false) → (∀ x ∈ l, R x x = false) → ∀ (i r : Nat), l[i]? = some r → l.countP (fun x => R x r) = i
  | [], _, _, i, r, h => by simp at h
  | a :: l, hp, hi, 0, r, h => by
    simp only [List.getElem?_cons_zero, Option.some.injEq] at h
    subst h
    rw [List.countP_eq_zero]
    intro x hx
    rcases List.mem_cons.mp hx with rfl | hx
    · rw [hi x List.mem_cons_self]; simp
    · rw [((List.pairwise_cons.mp hp).1 x hx).2]; simp
  | a :: l, hp, hi, i + 1, r, h => by
    rw [List.getElem?_cons_succ] at h
    have hr : r ∈ l := List.mem_of_getElem? h
    rw [List.countP_cons, sort_cnt R l (List.pairwise_cons.mp hp).2 (fun x hx => hi x (List.mem_cons_of_mem _ hx)) i r h, ((List.pairwise_cons.mp hp).1 r hr).1]
    simp
theorem ordL_cnt (h : tok b) (z : Nat) {i r : Nat} (hi : (ordL b z)[i]? = some r) : (inL z (bnr b)).countP (fun x => ahN b x r) = i := by
  rw [← (ordL_perm z).countP_eq]
  refine sort_cnt (ahN b) _ ?_ (fun x hx => h.irr (ordL_mem.mp hx).1) i r hi
  refine (ordL_sorted h z).imp_of_mem ?_
  intro x y hx hy hxy
  exact ⟨hxy, h.asy (ordL_mem.mp hx).1 (ordL_mem.mp hy).1 hxy⟩
theorem ordL_idx (h : tok b) (z : Nat) {r k : Nat} (hr : r < bnr b) (hi : inR z r = true) : (inL z (bnr b)).countP (fun x => ahN b x r) = k ↔ (ordL b z)[k]? = some r := by
  constructor
  · intro hk
    obtain ⟨i, hlt, hg⟩ := List.getElem_of_mem (ordL_mem.mpr ⟨hr, hi⟩)
    have h1 : (ordL b z)[i]? = some r := by rw [List.getElem?_eq_getElem hlt, hg]
    have := ordL_cnt h z h1
    rw [hk] at this
    rw [this]; exact h1
  · exact ordL_cnt h z
theorem ordL_nodup (h : tok b) (z : Nat) : (ordL b z).Nodup := by
  refine (ordL_sorted h z).imp_of_mem ?_
  intro x y hx hy hxy e
  subst e
  rw [h.irr (ordL_mem.mp hx).1] at hxy
  cases hxy
/-! how many classes -/
def dcn (E : Nat → Nat → Bool) : List Nat → Nat
  | [] => 0
  | x :: l => dcn E l + if E x x && !(l.any (fun y => E y x)) then 1 else 0
theorem dcn_perm (E : Nat → Nat → Bool) (hs : ∀ x y, E x y = E y x) (ht : ∀ x y z, E x y = true → E y z = true → E x z = true) {l k : List Nat} (h : l.Perm k) : dcn E l = dcn E k := by
  induction h with
  | nil => rfl
  | cons x h ih => simp only [dcn]; rw [ih, h.any_eq]
  | swap x y l =>
    simp only [dcn, List.any_cons, Bool.not_or]
    by_cases hxy : E x y = true
    · have hyx : E y x = true := by rw [hs]; exact hxy
      have hxx := ht _ _ _ hxy hyx
      have hyy := ht _ _ _ hyx hxy
      have ha : l.any (fun z => E z y) = l.any (fun z => E z x) := by
        congr 1
        funext z
        rw [Bool.eq_iff_iff]
        exact ⟨fun h => ht _ _ _ h hyx, fun h => ht _ _ _ h hxy⟩
      rw [hxx, hyy, hxy, hyx, ha]
    · have hyx : ¬ E y x = true := by rw [hs]; exact hxy
      rw [Bool.not_eq_true] at hxy hyx
      rw [hxy, hyx]
      simp only [Bool.not_false, Bool.true_and, Nat.add_right_comm]
  | trans _ _ ih1 ih2 => rw [ih1, ih2]
/-- new at its place: long enough, and none ahead has as long a beginning -/
def nwA (E : Nat → Nat → Bool) (l : List Nat) (i : Nat) : Bool := match l[i]? with
  | some r => E r r && !((l.take i).any (fun y => E y r))
  | none => false
theorem dcn_take (E : Nat → Nat → Bool) (l : List Nat) {i : Nat} (hi : i < l.length) : dcn E (l.take (i + 1)).reverse = dcn E (l.take i).reverse + if nwA E l i then 1 else 0 := by
  rw [List.take_add_one, List.getElem?_eq_getElem hi]
  simp only [Option.toList, List.reverse_append, List.reverse_cons, List.reverse_nil, List.nil_append, List.singleton_append, dcn, nwA, List.getElem?_eq_getElem hi, List.any_reverse]
/-- a share of n steps -/
def shE (b : Bk) (n x y : Nat) : Bool := decide (n ≤ shp (pth (bT b x)) (pth (bT b y)))
theorem shp_trs : ∀ (X Y Z : List Nat) (n : Nat), n ≤ shp X Y → n ≤ shp Y Z → n ≤ shp X Z
  | _, [], _, n, h, _ => by rw [shp_comm] at h; simp only [shp] at h; omega
  | [], _ :: _, _, n, h, _ => by simp only [shp] at h; omega
  | _ :: _, _ :: _, [], n, _, h => by simp only [shp] at h; omega
  | a :: X, e :: Y, i :: Z, n, h1, h2 => by
    simp only [shp] at *
    by_cases w1 : a = e
    · by_cases w2 : e = i
      · rw [if_pos w1] at h1
        rw [if_pos w2] at h2
        rw [if_pos (w1.trans w2)]
        have := shp_trs X Y Z (n - 1) (by omega) (by omega)
        omega
      · rw [if_neg w2] at h2; omega
    · rw [if_neg w1] at h1; omega
theorem dcn_ord (z n : Nat) : dcn (shE b n) (ordL b z).reverse = dcn (shE b n) (inL z (bnr b)).reverse := by
  refine dcn_perm _ ?_ ?_ ?_
  · intro x y; unfold shE; rw [shp_comm]
  · intro x y w h1 h2
    unfold shE at *
    rw [decide_eq_true_iff] at *
    exact shp_trs _ _ _ _ h1 h2
  · exact (List.reverse_perm _).trans ((ordL_perm z).trans (List.reverse_perm _).symm)
/-- new in the tree: by what is shared with the one just ahead -/
theorem nwA_ord (h : tok b) (z : Nat) {n i r : Nat} (hn : 1 ≤ n) (hi : (ordL b z)[i]? = some r) : nwA (shE b n) (ordL b z) i = (decide (shA b (ordL b z) i < n) && decide (n ≤ (bT b r).length)) := by
  have e1 : (pth (bT b r)).length = (bT b r).length := by simp [pth]
  have hS := ordL_sorted h z
  have hlt : i < (ordL b z).length := by
    rcases Nat.lt_or_ge i (ordL b z).length with h | h
    · exact h
    · rw [List.getElem?_eq_none h] at hi; cases hi
  have hr := (ordL_mem.mp (List.mem_of_getElem? hi)).1
  simp only [nwA, hi, shE, shp_self, e1]
  rw [Bool.and_comm]
  congr 1
  rw [Bool.eq_iff_iff, Bool.not_eq_true', decide_eq_true_iff, List.any_eq_false]
  cases i with
  | zero => simp only [shA, List.take_zero, List.not_mem_nil, false_implies, implies_true, true_iff]; omega
  | succ i =>
    have hgi : (ordL b z)[i]? = some ((ordL b z)[i]'(by omega)) := List.getElem?_eq_getElem (by omega)
    obtain ⟨s, hs⟩ : ∃ s, s = (ordL b z)[i]'(by omega) := ⟨_, rfl⟩
    rw [← hs] at hgi
    have hsm := (ordL_mem.mp (List.mem_of_getElem? hgi)).1
    have hsh : shA b (ordL b z) (i + 1) = shp (pth (bT b r)) (pth (bT b s)) := by
      simp only [shA, List.getD_eq_getElem?_getD, hi, hgi, Option.getD_some]
    rw [hsh]
    constructor
    · intro hall
      have := hall s (by rw [List.mem_take_iff_getElem]; exact ⟨i, by omega, hs.symm⟩)
      rw [decide_eq_true_iff, shp_comm] at this
      omega
    · intro hlt' x hx hE
      rw [decide_eq_true_iff] at hE
      rw [List.mem_take_iff_getElem] at hx
      obtain ⟨j, hj, hjx⟩ := hx
      have hxm := (ordL_mem.mp (List.mem_of_getElem? (show (ordL b z)[j]? = some x by rw [List.getElem?_eq_getElem (by omega), hjx]))).1
      have hpw : ∀ (p q : Nat) (hp : p < (ordL b z).length) (hq : q < (ordL b z).length), p < q → ahd (pth (bT b ((ordL b z)[q]))) (pth (bT b ((ordL b z)[p]))) = false := by
        intro p q hp hq hpq
        have h1 := List.pairwise_iff_getElem.mp hS p q hp hq hpq
        have m1 := (ordL_mem.mp (List.getElem_mem hp)).1
        have m2 := (ordL_mem.mp (List.getElem_mem hq)).1
        rw [Bool.eq_false_iff]
        intro h2
        rw [h.ah m2 m1] at h2
        rw [h.an m1 m2] at h1
        rcases h1 with h1 | ⟨h1, -⟩
        · exact lt_irr _ (lt_trs h1 h2)
        · rw [h1] at h2; exact lt_irr _ h2
      have hrg : (ordL b z)[i + 1] = r := by
        rw [List.getElem?_eq_getElem hlt] at hi
        exact Option.some.inj hi
      have hcv : n ≤ shp (pth (bT b s)) (pth (bT b r)) := by
        rcases Nat.lt_or_ge j i with hji | hji
        · refine shp_conv _ _ _ n ?_ ?_ (h.pf hsm hxm) hE
          · have := hpw j i (by omega) (by omega) hji
            rw [hjx, ← hs] at this; exact this
          · have := hpw i (i + 1) (by omega) hlt (by omega)
            rw [hrg, ← hs] at this; exact this
        · have : j = i := by omega
          subst this
          rw [hs, hjx]; exact hE
      rw [shp_comm] at hcv
      omega
end ORD

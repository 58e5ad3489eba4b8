/-! A HEAP OF CODES: the terms that begin at its places, their arguments, what is bound -/
section HP
variable {ar : Nat → Nat} {hp : List Nat}
def tm (ar : Nat → Nat) (hp : List Nat) (p : Nat) : List Nat := fst1 ar (hp.drop p)
/-- the places of k terms from q on -/
def ags (ar : Nat → Nat) (hp : List Nat) : Nat → Nat → List Nat
  | _, 0 => []
  | q, k + 1 => q :: ags ar hp (q + (tm ar hp q).length) k
def okH (ar : Nat → Nat) (hp : List Nat) : Prop := (∃ o, tms ar o hp) ∧ (∀ d, 100 ≤ d → ar d = 0) ∧ (∀ d ∈ hp, d < 148 ∧ ar d ≤ 3) ∧ hp.length ≤ 24
theorem okH.at (h : okH ar hp) {p : Nat} (hp' : p < hp.length) : ∃ o, tms ar (1 + o) (hp.drop p) := by
  obtain ⟨o, ho⟩ := h.1
  obtain ⟨o', h'⟩ := tms_drop ho p (by omega)
  cases o' with
  | zero =>
    have := skipN_all h'
    rw [skipN_zero] at this
    simp at this
    omega
  | succ o' => exact ⟨o', by rwa [Nat.add_comm] at h'⟩
theorem tm_wf (h : okH ar hp) {p : Nat} (hp' : p < hp.length) : tms ar 1 (tm ar hp p) ∧ 1 ≤ (tm ar hp p).length ∧ p + (tm ar hp p).length ≤ hp.length := by
  obtain ⟨o, ho⟩ := h.at hp'
  obtain ⟨-, f1, -, f3, f4, f5⟩ := fst1_split ho
  refine ⟨f1, by unfold tm; omega, ?_⟩
  unfold tm
  rw [f3]
  rw [List.length_drop] at f4
  omega
/-- k terms in a row -/
theorem ags_row (h : okH ar hp) : ∀ (k o q : Nat), tms ar (k + o) (hp.drop q) → q ≤ hp.length → (hp.drop q).take (skipN ar k (hp.drop q)) = (ags ar hp q k).flatMap (tm ar hp) ∧ (∀ x ∈ ags ar hp q k, x < hp.length ∧ q ≤ x) := by
  intro k
  induction k with
  | zero => intro o q _ _; simp [ags, skipN_zero]
  | succ k ih =>
    intro o q h1 h2
    have h1a : tms ar (1 + (k + o)) (hp.drop q) := by rwa [show 1 + (k + o) = k + 1 + o by omega]
    have hne := tms_ne (show tms ar (k + o + 1) (hp.drop q) by rwa [show k + o + 1 = k + 1 + o by omega])
    have hq : q < hp.length := by
      rcases Nat.lt_or_ge q hp.length with z | z
      · exact z
      · exact absurd (List.drop_eq_nil_of_le z) hne
    obtain ⟨f0, f1, f2, f3, f4, f5⟩ := fst1_split h1a
    have e2 : snd1 ar (hp.drop q) = hp.drop (q + (tm ar hp q).length) := by
      unfold tm snd1
      rw [f3, List.drop_drop]
    rw [e2] at f2
    have hl := (tm_wf h hq).2.2
    obtain ⟨i1, i2⟩ := ih o (q + (tm ar hp q).length) f2 hl
    constructor
    · have e0 : hp.drop q = tm ar hp q ++ hp.drop (q + (tm ar hp q).length) := by
        rw [← e2]
        exact f0.symm
      have e3 : skipN ar (k + 1) (hp.drop q) = (tm ar hp q).length + skipN ar k (hp.drop (q + (tm ar hp q).length)) := by
        have key : ∀ (X Y : List Nat) (a k : Nat), tms ar a X → skipN ar (a + k) (X ++ Y) = X.length + skipN ar k Y := by
          intro X
          induction X with
          | nil => intro Y a k hX; simp only [tms] at hX; subst hX; simp
          | cons x X ihX =>
            intro Y a k hX
            obtain ⟨a, rfl, hX'⟩ := tms_pos hX
            rw [show a + 1 + k = (a + k) + 1 by omega]
            simp only [List.cons_append, skipN, List.length_cons]
            rw [show a + k + ar x = (a + ar x) + k by omega, ihX Y _ k hX']
            omega
        have := key (tm ar hp q) (hp.drop (q + (tm ar hp q).length)) 1 k (tm_wf h hq).1
        rw [← e0] at this
        rwa [Nat.add_comm 1 k] at this
      rw [e3]
      conv => lhs; rw [e0]
      rw [List.take_append]
      simp only [ags, List.flatMap_cons]
      rw [show (tm ar hp q).length + skipN ar k (hp.drop (q + (tm ar hp q).length)) - (tm ar hp q).length = skipN ar k (hp.drop (q + (tm ar hp q).length)) by omega, i1, List.take_of_length_le (by omega)]
    · intro x hx
      simp only [ags, List.mem_cons] at hx
      rcases hx with rfl | hx
      · exact ⟨hq, Nat.le_refl _⟩
      · have := i2 x hx
        exact ⟨this.1, by omega⟩
theorem ags_len : ∀ (k q : Nat), (ags ar hp q k).length = k
  | 0, _ => rfl
  | k + 1, q => by simp [ags, ags_len k]
theorem tm_head (h : okH ar hp) {p d : Nat} (hd : hp[p]? = some d) : tm ar hp p = d :: (ags ar hp (p + 1) (ar d)).flatMap (tm ar hp) ∧ ∀ x ∈ ags ar hp (p + 1) (ar d), x < hp.length ∧ p < x := by
  have hlt : p < hp.length := (List.getElem?_eq_some_iff.mp hd).1
  obtain ⟨o, ho⟩ := h.at hlt
  have e := drop_cons hd
  have h2 : tms ar (ar d + o) (hp.drop (p + 1)) := by
    rw [e, Nat.add_comm 1 o] at ho
    have : tms ar (o + ar d) (hp.drop (p + 1)) := ho
    rwa [Nat.add_comm] at this
  obtain ⟨i1, i2⟩ := ags_row h (ar d) o (p + 1) h2 hlt
  refine ⟨?_, fun x hx => ?_⟩
  · unfold tm fst1
    rw [e]
    simp only [skipN, Nat.zero_add, List.take_succ_cons]
    rw [i1]
    rfl
  · have := i2 x hx
    exact ⟨this.1, by omega⟩
theorem tm_var (h : okH ar hp) {p d : Nat} (hd : hp[p]? = some d) (h100 : 100 ≤ d) : tm ar hp p = [d] := by
  rw [(tm_head h hd).1, h.2.1 d h100]
  rfl
theorem tm_mem (h : okH ar hp) {p x : Nat} (hx : x ∈ tm ar hp p) : x ∈ hp := List.mem_of_mem_drop (List.mem_of_mem_take hx)
theorem sub_tm (h : okH ar hp) {θ : Nat → List Nat} {p d : Nat} (hd : hp[p]? = some d) (h100 : d < 100) : sub θ (tm ar hp p) = d :: (ags ar hp (p + 1) (ar d)).flatMap (fun q => sub θ (tm ar hp q)) := by
  rw [(tm_head h hd).1, sub_cons, if_pos h100]
  have : ∀ l : List Nat, sub θ (l.flatMap (tm ar hp)) = l.flatMap (fun q => sub θ (tm ar hp q)) := by
    intro l
    induction l with
    | nil => rfl
    | cons a l ih => rw [List.flatMap_cons, sub_app, ih, List.flatMap_cons]
  rw [this]
  rfl
/-- what is bound: idempotent, in order, most general -/
def UI (ar : Nat → Nat) (hp : List Nat) (β : Nat → Option Nat) (θ : Nat → List Nat) (ρ : Nat → Nat) : Prop :=
  wfs ar θ ∧ (∀ d, 100 ≤ d → β (d - 100) = none → θ d = [d]) ∧ (∀ d p, 100 ≤ d → β (d - 100) = some p → p < hp.length ∧ θ d = sub θ (tm ar hp p) ∧ ∀ x ∈ tm ar hp p, 100 ≤ x → ρ x < ρ d) ∧ (∀ d, 100 ≤ d → ∀ x ∈ θ d, 100 ≤ x → β (x - 100) = none) ∧ ∀ d, ρ d ≤ 48
def Rk (ρ : Nat → Nat) : List Nat → Nat
  | [] => 0
  | x :: L => max (if 100 ≤ x then ρ x + 1 else 0) (Rk ρ L)
theorem Rk_mem {ρ : Nat → Nat} {L : List Nat} {x : Nat} (hx : x ∈ L) (h : 100 ≤ x) : ρ x + 1 ≤ Rk ρ L := by
  induction L with
  | nil => cases hx
  | cons y L ih =>
    simp only [Rk]
    rcases List.mem_cons.mp hx with rfl | hx
    · rw [if_pos h]; omega
    · have := ih hx; omega
theorem Rk_le {ρ : Nat → Nat} {L : List Nat} {n : Nat} (h : ∀ x ∈ L, 100 ≤ x → ρ x + 1 ≤ n) : Rk ρ L ≤ n := by
  induction L with
  | nil => exact Nat.zero_le _
  | cons y L ih =>
    simp only [Rk]
    have h1 := ih (fun x hx => h x (List.mem_cons_of_mem _ hx))
    split
    · have := h y List.mem_cons_self (by omega); omega
    · omega
/-- a measure of depth, as far as all is put in -/
def DA (ar : Nat → Nat) (hp : List Nat) (β : Nat → Option Nat) (D : Nat → Nat) : Prop :=
  (∀ d p, hp[p]? = some d → 100 ≤ d → ∀ p', β (d - 100) = some p' → D p' ≤ D p) ∧ (∀ p d, hp[p]? = some d → ∀ q ∈ ags ar hp (p + 1) (ar d), D q + 1 ≤ D p) ∧ ∀ p, p < hp.length → D p ≤ 1600
theorem UI.da (h : okH ar hp) {β : Nat → Option Nat} {θ : Nat → List Nat} {ρ : Nat → Nat} (u : UI ar hp β θ ρ) : DA ar hp β (fun p => 30 * Rk ρ (tm ar hp p) + (tm ar hp p).length) := by
  have h24 := h.2.2.2
  refine ⟨fun d p hd h100 p' hb => ?_, fun p d hd q hq => ?_, fun p hp' => ?_⟩
  · obtain ⟨u1, -, u3⟩ := u.2.2.1 d p' h100 hb
    show 30 * Rk ρ (tm ar hp p') + (tm ar hp p').length ≤ 30 * Rk ρ (tm ar hp p) + (tm ar hp p).length
    rw [tm_var h hd h100]
    have a1 : Rk ρ (tm ar hp p') ≤ ρ d := Rk_le (fun x hx hx1 => by have := u3 x hx hx1; omega)
    have a2 := (tm_wf h u1).2.2
    have a3 : Rk ρ [d] = ρ d + 1 := by simp [Rk, h100]
    simp only [List.length_singleton, a3]
    omega
  · obtain ⟨e, hx⟩ := tm_head h hd
    have hsub : ∀ x ∈ tm ar hp q, x ∈ tm ar hp p := fun x hx => by
      rw [e]
      exact List.mem_cons_of_mem _ (List.mem_flatMap.mpr ⟨q, hq, hx⟩)
    have a1 : Rk ρ (tm ar hp q) ≤ Rk ρ (tm ar hp p) := Rk_le (fun x hx hx1 => Rk_mem (hsub x hx) hx1)
    have a2 : (tm ar hp q).length + 1 ≤ (tm ar hp p).length := by
      rw [e, List.length_cons]
      have : ∀ l : List Nat, q ∈ l → (tm ar hp q).length ≤ (l.flatMap (tm ar hp)).length := by
        intro l
        induction l with
        | nil => intro z; cases z
        | cons y l ih =>
          intro z
          rw [List.flatMap_cons, List.length_append]
          rcases List.mem_cons.mp z with rfl | z
          · omega
          · have := ih z; omega
      have := this _ hq
      omega
    simp only
    omega
  · have a1 : Rk ρ (tm ar hp p) ≤ 49 := Rk_le (fun x _ _ => by have := u.2.2.2.2 x; omega)
    have a2 := (tm_wf h hp').2.2
    simp only
    omega
end HP

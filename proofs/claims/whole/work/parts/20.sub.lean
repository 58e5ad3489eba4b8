/-! SUBSTITUTIONS of rows of codes, unifiers, shapes -/
def sub (θ : Nat → List Nat) (L : List Nat) : List Nat := L.flatMap (fun d => if d < 100 then [d] else θ d)
theorem sub_nil (θ : Nat → List Nat) : sub θ [] = [] := rfl
theorem sub_cons (θ : Nat → List Nat) (d : Nat) (L : List Nat) : sub θ (d :: L) = (if d < 100 then [d] else θ d) ++ sub θ L := by simp [sub]
theorem sub_app (θ : Nat → List Nat) (L K : List Nat) : sub θ (L ++ K) = sub θ L ++ sub θ K := by simp [sub]
theorem sub_congr {θ φ : Nat → List Nat} {L : List Nat} (h : ∀ d ∈ L, 100 ≤ d → θ d = φ d) : sub θ L = sub φ L := by
  induction L with
  | nil => rfl
  | cons d L ih =>
    rw [sub_cons, sub_cons, ih (fun x hx => h x (List.mem_cons_of_mem _ hx))]
    by_cases hd : d < 100
    · rw [if_pos hd, if_pos hd]
    · rw [if_neg hd, if_neg hd, h d List.mem_cons_self (by omega)]
theorem sub_id {θ : Nat → List Nat} {L : List Nat} (h : ∀ d ∈ L, 100 ≤ d → θ d = [d]) : sub θ L = L := by
  induction L with
  | nil => rfl
  | cons d L ih =>
    rw [sub_cons, ih (fun x hx => h x (List.mem_cons_of_mem _ hx))]
    by_cases hd : d < 100
    · rw [if_pos hd]; rfl
    · rw [if_neg hd, h d List.mem_cons_self (by omega)]; rfl
theorem sub_sub (θ φ : Nat → List Nat) (L : List Nat) : sub φ (sub θ L) = sub (fun d => sub φ (θ d)) L := by
  induction L with
  | nil => rfl
  | cons d L ih =>
    rw [sub_cons, sub_app, ih, sub_cons]
    by_cases hd : d < 100
    · rw [if_pos hd, if_pos hd, sub_cons, if_pos hd, sub_nil]; rfl
    · rw [if_neg hd, if_neg hd]
theorem mem_sub {θ : Nat → List Nat} {L : List Nat} {x : Nat} : x ∈ sub θ L ↔ ∃ d ∈ L, if d < 100 then x = d else x ∈ θ d := by
  unfold sub
  rw [List.mem_flatMap]
  constructor
  · rintro ⟨d, h1, h2⟩
    refine ⟨d, h1, ?_⟩
    by_cases hd : d < 100
    · rw [if_pos hd] at h2 ⊢; simpa using h2
    · rw [if_neg hd] at h2 ⊢; exact h2
  · rintro ⟨d, h1, h2⟩
    refine ⟨d, h1, ?_⟩
    by_cases hd : d < 100
    · rw [if_pos hd] at h2 ⊢; simpa using h2
    · rw [if_neg hd] at h2 ⊢; exact h2
theorem mm1 {x d : Nat} {L S : List Nat} (h : x ∈ L ++ S) : x ∈ (d :: L) ++ S := by
  rcases List.mem_append.mp h with h | h <;> simp [h]
theorem mm2 {x d : Nat} {L S : List Nat} (h : x ∈ L ++ (S ++ [d])) : x ∈ (d :: L) ++ S := by
  rcases List.mem_append.mp h with h | h
  · simp [h]
  · rcases List.mem_append.mp h with h | h
    · simp [h]
    · have : x = d := by simpa using h
      simp [this]
section SUBT
variable {ar : Nat → Nat}
def wfs (ar : Nat → Nat) (θ : Nat → List Nat) : Prop := ∀ d, 100 ≤ d → tms ar 1 (θ d)
theorem tms_sub (hz : ∀ d, 100 ≤ d → ar d = 0) {θ : Nat → List Nat} (hθ : wfs ar θ) : ∀ (L : List Nat) (o : Nat), tms ar o L → tms ar o (sub θ L) := by
  intro L
  induction L with
  | nil => intro o h; exact h
  | cons d L ih =>
    intro o h
    obtain ⟨o, rfl, h'⟩ := tms_pos h
    rw [sub_cons]
    by_cases hd : d < 100
    · rw [if_pos hd]
      exact ih _ h'
    · rw [if_neg hd]
      rw [hz d (by omega)] at h'
      rw [Nat.add_comm o 1]
      exact tms_app (hθ d (by omega)) (ih _ h')
theorem sub_len {θ : Nat → List Nat} (hθ : wfs ar θ) (L : List Nat) : L.length ≤ (sub θ L).length := by
  induction L with
  | nil => exact Nat.le_refl _
  | cons d L ih =>
    rw [sub_cons, List.length_append, List.length_cons]
    by_cases hd : d < 100
    · rw [if_pos hd, List.length_singleton]; omega
    · rw [if_neg hd]
      have := tms_len (hθ d (by omega))
      omega
theorem sub_mem_len {θ : Nat → List Nat} (hθ : wfs ar θ) {L : List Nat} {v : Nat} (hv : v ∈ L) (h100 : 100 ≤ v) : (θ v).length + L.length ≤ (sub θ L).length + 1 := by
  induction L with
  | nil => cases hv
  | cons d L ih =>
    rw [sub_cons, List.length_append, List.length_cons]
    rcases List.mem_cons.mp hv with rfl | h
    · rw [if_neg (by omega)]
      have := sub_len hθ L
      omega
    · have h1 := ih h
      by_cases hd : d < 100
      · rw [if_pos hd, List.length_singleton]; omega
      · rw [if_neg hd]
        have := tms_len (hθ d (by omega))
        omega
/-- terms of a row can be told apart -/
theorem tms_inj {o : Nat} {X Y U V : List Nat} (h1 : tms ar o X) (h2 : tms ar o Y) (h : X ++ U = Y ++ V) : X = Y ∧ U = V := by
  have e1 := skipN_app (K := U) h1
  have e2 := skipN_app (K := V) h2
  rw [h] at e1
  have hl : X.length = Y.length := by omega
  exact List.append_inj h hl
theorem tms_uniq {o o' : Nat} {X : List Nat} (h1 : tms ar o X) (h2 : tms ar o' X) : o = o' := by
  induction X generalizing o o' with
  | nil => simp only [tms] at h1 h2; omega
  | cons d X ih =>
    obtain ⟨a, rfl, h1'⟩ := tms_pos h1
    obtain ⟨b, rfl, h2'⟩ := tms_pos h2
    have := ih h1' h2'
    omega
end SUBT
/-! SHAPES: variables numbered as they first come -/
def shpG : List Nat → List Nat → List Nat
  | _, [] => []
  | seen, d :: L => if d < 100 then d :: shpG seen L else if d ∈ seen then (100 + seen.idxOf d) :: shpG seen L else (100 + seen.length) :: shpG (seen ++ [d]) L
def shape (L : List Nat) : List Nat := shpG [] L
theorem shpG_len : ∀ (L seen : List Nat), (shpG seen L).length = L.length := by
  intro L
  induction L with
  | nil => intro seen; rfl
  | cons d L ih =>
    intro seen
    unfold shpG
    split
    · simp [ih]
    · split <;> simp [ih]
/-- a renaming that is one to one on what it renames keeps the shape -/
theorem shpG_ren {f : Nat → Nat} : ∀ (L seen : List Nat), (∀ d ∈ L, d < 100 → f d = d) → (∀ d ∈ L, 100 ≤ d → 100 ≤ f d) → (∀ x, x ∈ L ++ seen → 100 ≤ x → ∀ y, y ∈ L ++ seen → 100 ≤ y → f x = f y → x = y) → (∀ x ∈ seen, 100 ≤ x) → shpG (seen.map f) (L.map f) = shpG seen L := by
  intro L
  induction L with
  | nil => intro seen _ _ _ _; rfl
  | cons d L ih =>
    intro seen h1 h2 h3 h4
    have g1 : ∀ x ∈ L, x < 100 → f x = x := fun x hx => h1 x (List.mem_cons_of_mem _ hx)
    have g2 : ∀ x ∈ L, 100 ≤ x → 100 ≤ f x := fun x hx => h2 x (List.mem_cons_of_mem _ hx)
    by_cases hd : d < 100
    · have e := h1 d List.mem_cons_self hd
      simp only [List.map_cons, shpG, e, if_pos hd]
      rw [ih seen g1 g2 (fun x hx hx1 y hy hy1 => h3 x (mm1 hx) hx1 y (mm1 hy) hy1) h4]
    · have e := h2 d List.mem_cons_self (by omega)
      have hmem : f d ∈ seen.map f ↔ d ∈ seen := by
        constructor
        · intro hm
          obtain ⟨x, hx, hfx⟩ := List.mem_map.mp hm
          have := h3 x (by simp [hx]) (h4 x hx) d (by simp) (by omega) hfx
          rwa [← this]
        · exact fun hm => List.mem_map_of_mem hm
      simp only [List.map_cons, shpG, if_neg hd, if_neg (show ¬ f d < 100 by omega)]
      by_cases hs : d ∈ seen
      · rw [if_pos hs, if_pos (hmem.mpr hs)]
        have hidx : (seen.map f).idxOf (f d) = seen.idxOf d := by
          have : ∀ (s : List Nat), (∀ x ∈ s, x ∈ seen) → (s.map f).idxOf (f d) = s.idxOf d := by
            intro s
            induction s with
            | nil => intro _; rfl
            | cons x s ihs =>
              intro hss
              rw [List.map_cons, List.idxOf_cons, List.idxOf_cons, ihs (fun y hy => hss y (List.mem_cons_of_mem _ hy))]
              have hx := hss x List.mem_cons_self
              by_cases hxd : x = d
              · subst hxd; simp
              · have : ¬ f x = f d := fun z => hxd (h3 x (by simp [hx]) (h4 x hx) d (by simp) (by omega) z)
                rw [show (f x == f d) = false from beq_eq_false_iff_ne.mpr this, show (x == d) = false from beq_eq_false_iff_ne.mpr hxd]
          exact this seen (fun _ h => h)
        rw [hidx, ih seen g1 g2 (fun x hx hx1 y hy hy1 => h3 x (mm1 hx) hx1 y (mm1 hy) hy1) h4]
      · rw [if_neg hs, if_neg (fun z => hs (hmem.mp z)), List.length_map]
        have := ih (seen ++ [d]) g1 g2 (fun x hx hx1 y hy hy1 => h3 x (mm2 hx) hx1 y (mm2 hy) hy1) (fun x hx => by simp at hx; rcases hx with hx | rfl; exact h4 x hx; omega)
        rw [List.map_append, List.map_cons, List.map_nil] at this
        rw [this]
theorem shape_ren {f : Nat → Nat} {L : List Nat} (h1 : ∀ d ∈ L, d < 100 → f d = d) (h2 : ∀ d ∈ L, 100 ≤ d → 100 ≤ f d) (h3 : ∀ x, x ∈ L → 100 ≤ x → ∀ y, y ∈ L → 100 ≤ y → f x = f y → x = y) : shape (L.map f) = shape L := by
  have := shpG_ren L [] h1 h2 (by simpa using h3) (by simp)
  simpa [shape] using this
/-- two rows of which each is an instance of the other have one shape -/
theorem shape_two {ar : Nat → Nat} {σ ρ : Nat → List Nat} (hσ : wfs ar σ) (hρ : wfs ar ρ) {L K : List Nat} (h1 : K = sub σ L) (h2 : L = sub ρ K) : shape L = shape K := by
  have hl : K.length = L.length := by
    have a := sub_len hσ L
    have b := sub_len hρ K
    rw [← h1] at a
    rw [← h2] at b
    omega
  have one : ∀ d ∈ L, 100 ≤ d → ∃ x, σ d = [x] := by
    intro d hd h100
    have := sub_mem_len hσ hd h100
    rw [← h1] at this
    have h3 := tms_len (hσ d h100)
    have h4 : (σ d).length = 1 := by omega
    exact List.length_eq_one_iff.mp h4
  have back : ∀ d ∈ L, 100 ≤ d → sub ρ (σ d) = [d] := by
    have e : sub (fun d => sub ρ (σ d)) L = L := by rw [← sub_sub, ← h1, ← h2]
    intro d hd h100
    have w : wfs ar (fun d => sub ρ (σ d)) ∨ True := Or.inr trivial
    -- position by position
    have key : ∀ (S : List Nat), (∀ x ∈ S, 100 ≤ x → (sub ρ (σ x)).length = 1) → sub (fun d => sub ρ (σ d)) S = S → d ∈ S → sub ρ (σ d) = [d] := by
      intro S
      induction S with
      | nil => intro _ _ h; cases h
      | cons x S ih =>
        intro hS he hm
        rw [sub_cons] at he
        by_cases hx : x < 100
        · rw [if_pos hx] at he
          have he' := (List.cons.inj he).2
          rcases List.mem_cons.mp hm with rfl | hm
          · omega
          · exact ih (fun y hy => hS y (List.mem_cons_of_mem _ hy)) he' hm
        · rw [if_neg hx] at he
          obtain ⟨y, hy⟩ := List.length_eq_one_iff.mp (hS x List.mem_cons_self (by omega))
          rw [hy] at he
          obtain ⟨h3, h4⟩ := List.cons.inj he
          rcases List.mem_cons.mp hm with rfl | hm
          · rw [hy, h3]
          · exact ih (fun y hy => hS y (List.mem_cons_of_mem _ hy)) h4 hm
    refine key L (fun x hx hx1 => ?_) e hd
    obtain ⟨y, hy⟩ := one x hx hx1
    have h5 : ∀ S : List Nat, (∀ z ∈ S, z ∈ L) → (sub (fun d => sub ρ (σ d)) S).length ≤ S.length → ∀ z ∈ S, 100 ≤ z → (sub ρ (σ z)).length ≤ 1 := by
      intro S
      induction S with
      | nil => intro _ _ z hz; cases hz
      | cons s S ih =>
        intro hSL hlen z hz hz1
        have hge : S.length ≤ (sub (fun d => sub ρ (σ d)) S).length := by
          have : ∀ S : List Nat, (∀ z ∈ S, z ∈ L) → S.length ≤ (sub (fun d => sub ρ (σ d)) S).length := by
            intro S
            induction S with
            | nil => intro _; exact Nat.le_refl _
            | cons s S ih =>
              intro hSL
              rw [sub_cons, List.length_append, List.length_cons]
              have h6 := ih (fun z hz => hSL z (List.mem_cons_of_mem _ hz))
              by_cases hs : s < 100
              · rw [if_pos hs, List.length_singleton]; omega
              · rw [if_neg hs]
                have h7 := sub_len hρ (σ s)
                have h8 := tms_len (hσ s (by omega))
                omega
          exact this S (fun z hz => hSL z (List.mem_cons_of_mem _ hz))
        rw [sub_cons, List.length_append, List.length_cons] at hlen
        rcases List.mem_cons.mp hz with rfl | hz
        · rw [if_neg (by omega)] at hlen
          omega
        · refine ih (fun z hz => hSL z (List.mem_cons_of_mem _ hz)) ?_ z hz hz1
          by_cases hs : s < 100
          · rw [if_pos hs, List.length_singleton] at hlen; omega
          · rw [if_neg hs] at hlen
            have h7 := sub_len hρ (σ s)
            have h8 := tms_len (hσ s (by omega))
            omega
    have h6 := h5 L (fun z hz => hz) (by rw [e]; exact Nat.le_refl _) x hx hx1
    have h7 := sub_len hρ (σ x)
    have h8 := tms_len (hσ x hx1)
    omega
  let f : Nat → Nat := fun d => if d < 100 then d else (σ d).headD 0
  have hf : ∀ d ∈ L, 100 ≤ d → σ d = [f d] := by
    intro d hd h100
    obtain ⟨x, hx⟩ := one d hd h100
    show σ d = [if d < 100 then d else (σ d).headD 0]
    rw [if_neg (by omega), hx]
    rfl
  have hbig : ∀ d ∈ L, 100 ≤ d → 100 ≤ f d := by
    intro d hd h100
    have h3 := back d hd h100
    rw [hf d hd h100, sub_cons, sub_nil] at h3
    by_cases hx : f d < 100
    · rw [if_pos hx] at h3
      have : f d = d := by simpa using h3
      omega
    · omega
  have hK : K = L.map f := by
    rw [h1]
    have : ∀ S : List Nat, (∀ z ∈ S, z ∈ L) → sub σ S = S.map f := by
      intro S
      induction S with
      | nil => intro _; rfl
      | cons s S ih =>
        intro hSL
        rw [sub_cons, List.map_cons, ih (fun z hz => hSL z (List.mem_cons_of_mem _ hz))]
        by_cases hs : s < 100
        · rw [if_pos hs]
          show [s] ++ _ = (if s < 100 then s else _) :: _
          rw [if_pos hs]; rfl
        · rw [if_neg hs, hf s (hSL s List.mem_cons_self) (by omega)]; rfl
    exact this L (fun z hz => hz)
  rw [hK]
  refine (shape_ren (fun d hd hd1 => ?_) hbig (fun x hx hx1 y hy hy1 hxy => ?_)).symm
  · show (if d < 100 then d else _) = d
    rw [if_pos hd1]
  · have a := back x hx hx1
    have b := back y hy hy1
    rw [hf x hx hx1, hxy, ← hf y hy hy1, b] at a
    simpa using a.symm

/-! WHAT IS BOUND: one variable more; solutions -/
section BIND
variable {ar : Nat → Nat} {hp : List Nat} {β : Nat → Option Nat} {θ : Nat → List Nat} {ρ : Nat → Nat}
def Sol (ar : Nat → Nat) (hp : List Nat) (β : Nat → Option Nat) (φ : Nat → List Nat) : Prop := ∀ d p, 100 ≤ d → β (d - 100) = some p → φ d = sub φ (tm ar hp p)
def prs (ar : Nat → Nat) (hp : List Nat) (φ : Nat → List Nat) (sa sb : List Nat) : Prop := ∀ (i x y : Nat), sa[i]? = some x → sb[i]? = some y → sub φ (tm ar hp x) = sub φ (tm ar hp y)
theorem sol_mg (u : UI ar hp β θ ρ) {φ : Nat → List Nat} (hs : Sol ar hp β φ) : ∀ d, 100 ≤ d → sub φ (θ d) = φ d := by
  have key : ∀ k d, ρ d < k → 100 ≤ d → sub φ (θ d) = φ d := by
    intro k
    induction k with
    | zero => intro d h; omega
    | succ k ih =>
      intro d hk hd
      cases hb : β (d - 100) with
      | none => rw [u.2.1 d hd hb, sub_cons, if_neg (by omega), sub_nil, List.append_nil]
      | some p =>
        obtain ⟨-, u2, u3⟩ := u.2.2.1 d p hd hb
        rw [u2, sub_sub, hs d p hd hb]
        exact sub_congr (fun x hx h100 => ih x (by have := u3 x hx h100; omega) h100)
  exact fun d hd => key (ρ d + 1) d (by omega) hd
theorem sol_sub (u : UI ar hp β θ ρ) {φ : Nat → List Nat} (hs : Sol ar hp β φ) (L : List Nat) : sub φ (sub θ L) = sub φ L := by
  rw [sub_sub]
  exact sub_congr (fun x _ h100 => sol_mg u hs x h100)
theorem sol_self (u : UI ar hp β θ ρ) : Sol ar hp β θ := fun d p hd hb => (u.2.2.1 d p hd hb).2.1
def one1 (v : Nat) (t : List Nat) : Nat → List Nat := fun d => if d = v then t else [d]
def cntF (f : Nat → Bool) : Nat → Nat
  | 0 => 0
  | k + 1 => cntF f k + (if f k then 1 else 0)
theorem cntF_le (f : Nat → Bool) : ∀ k, cntF f k ≤ k
  | 0 => Nat.le_refl _
  | k + 1 => by have := cntF_le f k; simp only [cntF]; split <;> omega
theorem cntF_mono {f g : Nat → Bool} (h : ∀ x, f x = true → g x = true) : ∀ k, cntF f k ≤ cntF g k
  | 0 => Nat.le_refl _
  | k + 1 => by
    have := cntF_mono h k
    simp only [cntF]
    by_cases hf : f k = true
    · simp [hf, h k hf]; exact this
    · simp [hf]; omega
theorem cntF_lt {f g : Nat → Bool} (h : ∀ x, f x = true → g x = true) {x : Nat} (h1 : f x = false) (h2 : g x = true) : ∀ k, x < k → cntF f k < cntF g k
  | 0, hk => by omega
  | k + 1, hk => by
    simp only [cntF]
    by_cases hx : x = k
    · subst hx
      have := cntF_mono h x
      simp [h1, h2]; omega
    · have := cntF_lt h h1 h2 k (by omega)
      by_cases hf : f k = true
      · simp [hf, h k hf]; exact this
      · simp [hf]; omega
theorem UI.bind (h : okH ar hp) (u : UI ar hp β θ ρ) {v q : Nat} (hv : 100 ≤ v) (hv2 : v < 148) (hb : β (v - 100) = none) (hq : q < hp.length) (hn : v ∉ sub θ (tm ar hp q)) :
    ∃ ρ', UI ar hp (fu β (v - 100) (some q)) (fun d => sub (one1 v (sub θ (tm ar hp q))) (θ d)) ρ' := by
  obtain ⟨w, u1, u2, u3, u4⟩ := u
  have hwt : tms ar 1 (sub θ (tm ar hp q)) := tms_sub h.2.1 w _ _ (tm_wf h hq).1
  have hw1 : wfs ar (one1 v (sub θ (tm ar hp q))) := by
    intro d hd
    unfold one1
    split
    · exact hwt
    · have := h.2.1 d hd
      show tms ar (0 + ar d) []
      rw [this]
      rfl
  have hvθ : θ v = [v] := u1 v hv hb
  have hsame : ∀ x, 100 ≤ x → x ≠ v → fu β (v - 100) (some q) (x - 100) = β (x - 100) := fun x hx hxv => fu_ne _ _ (by omega)
  have hid : ∀ L : List Nat, v ∉ L → sub (one1 v (sub θ (tm ar hp q))) L = L := fun L hL => sub_id (fun d hd _ => by unfold one1; exact if_neg (fun z : d = v => hL (z ▸ hd)))
  refine ⟨fun d => cntF (fun x => decide ((if v ∈ θ (100 + x) then ρ (100 + x) + 100 else ρ (100 + x)) < (if v ∈ θ d then ρ d + 100 else ρ d))) 48, fun d hd => tms_sub h.2.1 hw1 _ _ (w d hd), fun d hd hd2 => ?_, fun d p hd hd2 => ?_, fun d hd x hx hx1 => ?_, fun d => cntF_le _ _⟩
  · by_cases hdv : d = v
    · subst hdv; rw [fu_same] at hd2; cases hd2
    · rw [hsame d hd hdv] at hd2
      show sub _ (θ d) = [d]
      rw [u1 d hd hd2]
      exact hid [d] (by simp; omega)
  · have rank : ∀ x y, 100 ≤ x → x < 148 → (if v ∈ θ x then ρ x + 100 else ρ x) < (if v ∈ θ y then ρ y + 100 else ρ y) → cntF (fun z => decide ((if v ∈ θ (100 + z) then ρ (100 + z) + 100 else ρ (100 + z)) < (if v ∈ θ x then ρ x + 100 else ρ x))) 48 < cntF (fun z => decide ((if v ∈ θ (100 + z) then ρ (100 + z) + 100 else ρ (100 + z)) < (if v ∈ θ y then ρ y + 100 else ρ y))) 48 := by
      intro x y hx1 hx2 hxy
      refine cntF_lt (x := x - 100) (fun z hz => ?_) ?_ ?_ 48 (by omega)
      · rw [decide_eq_true_eq] at hz ⊢; omega
      · rw [decide_eq_false_iff_not, show 100 + (x - 100) = x by omega]; omega
      · rw [decide_eq_true_eq, show 100 + (x - 100) = x by omega]; exact hxy
    by_cases hdv : d = v
    · subst hdv
      rw [fu_same] at hd2
      cases hd2
      refine ⟨hq, ?_, fun x hx hx1 => ?_⟩
      · show sub _ (θ d) = sub (fun e => sub _ (θ e)) (tm ar hp q)
        rw [← sub_sub, hid _ hn, hvθ, sub_cons, if_neg (by omega), sub_nil, List.append_nil]
        unfold one1
        rw [if_pos rfl]
      · refine rank x d hx1 (h.2.2.1 x (tm_mem h hx)).1 ?_
        have hnx : d ∉ θ x := fun z => hn (mem_sub.mpr ⟨x, hx, by rw [if_neg (by omega)]; exact z⟩)
        rw [if_neg hnx, if_pos (by rw [hvθ]; simp)]
        have := u4 x
        omega
    · rw [hsame d hd hdv] at hd2
      obtain ⟨a1, a2, a3⟩ := u2 d p hd hd2
      refine ⟨a1, ?_, fun x hx hx1 => ?_⟩
      · show sub _ (θ d) = sub (fun e => sub _ (θ e)) (tm ar hp p)
        rw [← sub_sub, ← a2]
      · refine rank x d hx1 (h.2.2.1 x (tm_mem h hx)).1 ?_
        have hr := a3 x hx hx1
        by_cases hvx : v ∈ θ x
        · have hvd : v ∈ θ d := by rw [a2]; exact mem_sub.mpr ⟨x, hx, by rw [if_neg (by omega)]; exact hvx⟩
          rw [if_pos hvx, if_pos hvd]
          omega
        · rw [if_neg hvx]
          split <;> omega
  · obtain ⟨y, hy, hxy⟩ := mem_sub.mp hx
    by_cases hy1 : y < 100
    · rw [if_pos hy1] at hxy; omega
    · rw [if_neg hy1] at hxy
      unfold one1 at hxy
      by_cases hyv : y = v
      · rw [if_pos hyv] at hxy
        have hxv : x ≠ v := fun z => hn (z ▸ hxy)
        rw [hsame x hx1 hxv]
        obtain ⟨z, hz, hxz⟩ := mem_sub.mp hxy
        by_cases hz1 : z < 100
        · rw [if_pos hz1] at hxz; omega
        · rw [if_neg hz1] at hxz
          exact u3 z (by omega) x hxz hx1
      · rw [if_neg hyv] at hxy
        have hxy' : x = y := by simpa using hxy
        subst hxy'
        rw [hsame x hx1 hyv]
        exact u3 d hd x hy hx1
theorem Sol.bind {v q : Nat} (hv : 100 ≤ v) (hb : β (v - 100) = none) {φ : Nat → List Nat} : Sol ar hp (fu β (v - 100) (some q)) φ ↔ Sol ar hp β φ ∧ φ v = sub φ (tm ar hp q) := by
  constructor
  · intro h
    refine ⟨fun d p hd hp' => h d p hd ?_, h v q hv (fu_same _ _ _)⟩
    rw [fu_ne _ _ (fun z => by rw [show d = v by omega, hb] at hp'; cases hp')]
    exact hp'
  · rintro ⟨h1, h2⟩ d p hd hp'
    by_cases hdv : d - 100 = v - 100
    · have : d = v := by omega
      subst this
      rw [fu_same] at hp'
      cases hp'
      exact h2
    · rw [fu_ne _ _ hdv] at hp'
      exact h1 d p hd hp'
theorem DA.less {D : Nat → Nat} {v q : Nat} (hb : β v = none) (h : DA ar hp (fu β v (some q)) D) : DA ar hp β D := by
  refine ⟨fun d p hd h100 p' hp' => h.1 d p hd h100 p' ?_, h.2⟩
  rw [fu_ne _ _ (fun z => by rw [z, hb] at hp'; cases hp')]
  exact hp'
/-- rows of terms: alike only if each is -/
theorem flat_inj (h : okH ar hp) {φ : Nat → List Nat} (hφ : wfs ar φ) : ∀ (X Y : List Nat), X.length = Y.length → (∀ x ∈ X, x < hp.length) → (∀ y ∈ Y, y < hp.length) → (X.flatMap (fun q => sub φ (tm ar hp q)) = Y.flatMap (fun q => sub φ (tm ar hp q)) ↔ prs ar hp φ X Y) := by
  intro X
  induction X with
  | nil =>
    intro Y hl _ _
    obtain rfl : Y = [] := List.length_eq_zero_iff.mp (by simpa using hl.symm)
    simp [prs]
  | cons x X ih =>
    intro Y hl hX hY
    cases Y with
    | nil => simp at hl
    | cons y Y =>
      have wx := tms_sub h.2.1 hφ _ _ (tm_wf h (hX x List.mem_cons_self)).1
      have wy := tms_sub h.2.1 hφ _ _ (tm_wf h (hY y List.mem_cons_self)).1
      have ih' := ih Y (by simpa using hl) (fun z hz => hX z (List.mem_cons_of_mem _ hz)) (fun z hz => hY z (List.mem_cons_of_mem _ hz))
      rw [List.flatMap_cons, List.flatMap_cons]
      constructor
      · intro he
        obtain ⟨e1, e2⟩ := tms_inj wx wy he
        intro i a b ha hb
        cases i with
        | zero => simp at ha hb; subst ha; subst hb; exact e1
        | succ i => exact ih'.mp e2 i a b (by simpa using ha) (by simpa using hb)
      · intro hp'
        rw [hp' 0 x y rfl rfl, ih'.mpr (fun i a b ha hb => hp' (i + 1) a b (by simpa using ha) (by simpa using hb))]
end BIND

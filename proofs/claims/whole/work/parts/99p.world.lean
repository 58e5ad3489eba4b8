/-! THE WORLD of the law: the class from N on, the model from N + 273, its rows, the row of one long -/
def shL : List (Nat × Nat) := sh_X11 ++ (sh_X12 ++ [(4, 1)])
def tyL (N : Nat) : xTy := fun q => if N ≤ q then shL[q - N]? else none
def mks : List Nat := [0, 3, 18, 19, 20, 21, 22, 23, 24, 25, 27, 29, 31, 32, 34, 35, 36, 37, 38, 40, 44, 46, 47, 48, 52, 55, 57]
def mmL (N k : Nat) : Nat := N + (274 + mks.idxOf k)
def miL (N q : Nat) : Nat := mks.getD (q - (N + 274)) 1
def rC : List (Nat × Nat × Nat) := nr_X11 0 ++ []
def iC : List (Nat × Nat × Int) := ni_X11 0 ++ []
def pC : List (Nat × Nat × Nat) := np_X11 0 ++ []
def hL (N : Nat) : xH := hOf N (nr_X12 273 ++ rC) (ni_X12 273 ++ iC) pC (na_X12 273 ++ [])
section WORLD
variable {N : Nat}
theorem tyL_at (q : Nat) : tyL N (N + q) = shL[q]? := by
  unfold tyL
  rw [if_pos (by omega), show N + q - N = q by omega]
theorem tyL_lt {q : Nat} (h : q < N) : tyL N q = none := if_neg (by omega)
theorem shL_len : shL.length = 302 := by decide +kernel
theorem tyL_ge {q : Nat} (h : N + 302 ≤ q) : tyL N q = none := by
  unfold tyL
  rw [if_pos (by omega)]
  exact List.getElem?_eq_none (by rw [shL_len]; omega)
theorem tyL_full : tyN (tyL N) (N + 302) = tyL N := by
  funext q
  rcases Nat.lt_or_ge q (N + 302) with h | h
  · exact tyN_lt h
  · rw [tyN_ge h, tyL_ge h]
theorem hT_11 : ∀ (j : Nat) (t : Nat × Nat), sh_X11[j]? = some t → tyL N (N + (0 + j)) = some t := fun j t h => by
  rw [Nat.zero_add, tyL_at]
  unfold shL
  rw [List.getElem?_append_left (List.getElem?_eq_some_iff.mp h).1]
  exact h
theorem sh11_len : sh_X11.length = 273 := by decide +kernel
theorem hT_12 : ∀ (j : Nat) (t : Nat × Nat), sh_X12[j]? = some t → tyL N (N + (273 + j)) = some t := fun j t h => by
  rw [tyL_at]
  unfold shL
  rw [List.getElem?_append_right (by rw [sh11_len]; omega), sh11_len, show 273 + j - 273 = j by omega, List.getElem?_append_left (List.getElem?_eq_some_iff.mp h).1]
  exact h
theorem shL_ct : ∀ q, q < 273 → shL[q]? = ct q := by decide +kernel
theorem CH_L : CH (tyL N) N := fun q hq => by rw [tyL_at]; exact shL_ct q hq
theorem ml_in {k : Nat} (h : 0 < ml k) : k ∈ mks := by
  unfold ml at h
  split at h <;> first | (exact absurd h (Nat.lt_irrefl 0)) | decide
theorem mks_ok : ∀ k ∈ mks, shL[274 + mks.idxOf k]? = some (1, ml k) ∧ mks.getD (mks.idxOf k) 1 = k ∧ mks.idxOf k < 27 := by decide +kernel
theorem mks_r : ∀ k ∈ mks, lkp (nr_X12 273) 273 k = some (274 + mks.idxOf k) := by decide +kernel
theorem lkp_app {α : Type} {l l2 : List (Nat × Nat × α)} {q k : Nat} {v : α} (h : lkp l q k = some v) : lkp (l ++ l2) q k = some v := by
  induction l with
  | nil => cases h
  | cons x t ih =>
    rw [lkp] at h
    rw [List.cons_append, lkp]
    split
    · rename_i hc; rw [if_pos hc] at h; exact h
    · rename_i hc; rw [if_neg hc] at h; exact ih h
theorem MH_of {ty : xTy} {h : xH} (ht : ∀ q, 273 ≤ q → q < 301 → ty (N + q) = tyL N (N + q)) (hr : ∀ k ∈ mks, xR h (N + 273) k = some (mmL N k)) : MH ty (N + 273) (mmL N) (miL N) h := by
  refine ⟨?_, fun k hk => ?_⟩
  · rw [ht 273 (by omega) (by omega), tyL_at]; decide +kernel
  · have hm := ml_in hk
    obtain ⟨h1, h2, h3⟩ := mks_ok k hm
    refine ⟨hr k hm, ?_, ?_⟩
    · unfold mmL
      rw [ht _ (by omega) (by omega), tyL_at]; exact h1
    · unfold miL mmL
      rw [show N + (274 + mks.idxOf k) - (N + 274) = mks.idxOf k by omega]; exact h2
theorem hL_r : ∀ k ∈ mks, xR (hL N) (N + 273) k = some (mmL N k) := fun k hk => hOf_gR (lkp_app (mks_r k hk))
theorem rst_self {mm mi : Nat → Nat} {h : xH} {M : Nat} : rst mm mi h M (h.1 M) (fun k => h.2.2.1 (mm k)) (h.2.2.2.2 M) = h := by
  unfold rst
  refine Prod.ext ?_ (Prod.ext rfl (Prod.ext ?_ (Prod.ext rfl ?_)))
  · funext q k
    show (if q = M then h.1 M k else h.1 q k) = h.1 q k
    split
    · rename_i e; rw [e]
    · rfl
  · funext q i
    show (if 0 < ml (mi q) ∧ mm (mi q) = q then h.2.2.1 (mm (mi q)) i else h.2.2.1 q i) = h.2.2.1 q i
    split
    · rename_i e; rw [e.2]
    · rfl
  · funext q k
    show (if q = M then h.2.2.2.2 M k else h.2.2.2.2 q k) = h.2.2.2.2 q k
    split
    · rename_i e; rw [e]
    · rfl
theorem hOf_gI {r p : List (Nat × Nat × Nat)} {i a : List (Nat × Nat × Int)} (q k : Nat) : (hOf N r i p a).1 (N + q) k = i32 ((lkp i q k).getD 0) := by
  show (if N ≤ N + q then _ else _) = _
  rw [if_pos (by omega), show N + q - N = q by omega]
theorem hOf_gA {r p : List (Nat × Nat × Nat)} {i a : List (Nat × Nat × Int)} (q k : Nat) : (hOf N r i p a).2.2.1 (N + q) k = i32 ((lkp a q k).getD 0) := by
  show (if N ≤ N + q then _ else _) = _
  rw [if_pos (by omega), show N + q - N = q by omega]
theorem hL_I : ∀ k, k < 60 → (lkp (ni_X12 273 ++ iC) 273 k).getD 0 = if k = 5 then -1 else 0 := by decide +kernel
theorem hL_W : ∀ k, k < 14 → i32 ((lkp (na_X12 273 ++ []) 275 k).getD 0) = wordsR k := by decide +kernel
theorem hL_i {k : Nat} (hk : k < 60) : (hL N).1 (N + 273) k = i32 (if k = 5 then -1 else 0) := by
  unfold hL
  rw [hOf_gI, hL_I k hk]
theorem hL_w : ∀ k, k < 14 → (hL N).2.2.1 (mmL N 3) k = wordsR k := fun k hk => by
  unfold hL mmL
  rw [hOf_gA]
  exact hL_W k hk
end WORLD

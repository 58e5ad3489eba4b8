/-! FINDING in a row, THE END of a term in a row: both programs do it -/
def fndA (f : Nat → Int32) (p : Nat) (x : Int32) : Nat → Nat → Int
  | _, 0 => -1
  | k, m + 1 => if f (p + k) = x then (k : Int) else fndA f p x (k + 1) m
theorem fndA_lt (f : Nat → Int32) (p : Nat) (x : Int32) : ∀ m k, -1 ≤ fndA f p x k m ∧ fndA f p x k m < k + m ∧ (0 ≤ fndA f p x k m → k ≤ fndA f p x k m)
  | 0, k => by simp [fndA]; omega
  | m + 1, k => by
    have := fndA_lt f p x m (k + 1)
    simp only [fndA]
    split <;> omega
theorem fndA_hit (f : Nat → Int32) (p : Nat) (x : Int32) : ∀ m k, 0 ≤ fndA f p x k m → f (p + (fndA f p x k m).toNat) = x
  | 0, k => by simp [fndA]
  | m + 1, k => by
    have := fndA_hit f p x m (k + 1)
    simp only [fndA]
    split
    · rename_i q; intro _; simpa using q
    · exact this
theorem fndA_none (f : Nat → Int32) (p : Nat) (x : Int32) : ∀ m k, fndA f p x k m < 0 → ∀ j, k ≤ j → j < k + m → f (p + j) ≠ x
  | 0, k => by intro _ j h1 h2; omega
  | m + 1, k => by
    have := fndA_none f p x m (k + 1)
    simp only [fndA]
    split
    · intro h; omega
    · rename_i q
      intro h j h1 h2
      by_cases hj : j = k
      · subst hj; exact q
      · exact this h j (by omega) (by omega)
theorem fndA_congr {f g : Nat → Int32} {p q : Nat} {x : Int32} : ∀ m k, (∀ j, k ≤ j → j < k + m → f (p + j) = g (q + j)) → fndA f p x k m = fndA g q x k m
  | 0, k, _ => rfl
  | m + 1, k, h => by
    simp only [fndA]
    rw [h k (Nat.le_refl _) (by omega), fndA_congr m (k + 1) (fun j h1 h2 => h j (by omega) (by omega))]
section ROWS
variable {ty : xTy} {h : xH}
theorem r_find3 {row len p nn : Nat} {x : Int32} (ht : ty row = some (1, len)) (hl : p + nn ≤ len) (hb : len ≤ 100000) : ∀ m k n, k + m = nn → m < n → jf_X12_find_3 ty h n row (i32 p) (i32 nn) x (i32 k) = some (i32 (fndA (xA h row) p x k m)) := by
  intro m
  induction m with
  | zero =>
    intro k n h1 h2
    obtain ⟨n, rfl⟩ : ∃ n', n = n' + 1 := ⟨n - 1, by omega⟩
    rw [jf_X12_find_3_s]
    simp (disch := omega) only [i32_lit, i32_neg, i32_add, i32_sub, i32_mul, i32_lt, i32_le, i32_eq, if_pos]
    rfl
  | succ m ih =>
    intro k n h1 h2
    obtain ⟨n, rfl⟩ : ∃ n', n = n' + 1 := ⟨n - 1, by omega⟩
    rw [jf_X12_find_3_s]
    simp (disch := omega) only [i32_lit, i32_neg, i32_add, i32_sub, i32_mul, i32_lt, i32_le, i32_eq, if_neg, xga_i ht, xbs]
    rw [show ((p : Int) + (k : Int)).toNat = p + k by omega, show ((k : Int) + 1) = ((k + 1 : Nat) : Int) by omega, ih (k + 1) n (by omega) (by omega)]
    simp only [fndA]
    split <;> rfl
theorem r_find {row len p nn : Nat} {x : Int32} (ht : ty row = some (1, len)) (hl : p + nn ≤ len) (hb : len ≤ 100000) : jf_X12_find ty h row (i32 p) (i32 nn) x = some (i32 (fndA (xA h row) p x 0 nn)) :=
  xlim_of (nn + 1) (fun n hn => r_find3 ht hl hb nn 0 n (by omega) (by omega))
theorem tms_len {ar : Nat → Nat} {o : Nat} {L : List Nat} (h : tms ar o L) : o ≤ L.length := by
  induction L generalizing o with
  | nil => simp only [tms] at h; omega
  | cons c L ih =>
    cases o with
    | zero => omega
    | succ o => have := ih (o := o + ar c) h; simp only [List.length_cons]; omega
/-- codes of a row whose arities stand in another row -/
def arOK (ty : xTy) (h : xH) (ars : Nat) (ar : Nat → Nat) (L : List Nat) : Prop := (∃ la, ty ars = some (1, la) ∧ la ≤ 100000 ∧ ∀ c ∈ L, c < 100 → c < la ∧ xA h ars c = i32 (ar c)) ∧ ∀ c ∈ L, (100 ≤ c → ar c = 0) ∧ c < 1000 ∧ ar c ≤ 3
theorem r_end5 {row len ars : Nat} {ar : Nat → Nat} (ht : ty row = some (1, len)) (hb : len ≤ 100000) : ∀ (L : List Nat) (o o' p n : Nat), tms ar (o + o') L → seg (xA h row) p L → arOK ty h ars ar L → p + L.length ≤ len → L.length < n →
    jf_X12_endOf_5 ty h n row ars (i32 o) (i32 p) = some (i32 ((p + skipN ar o L : Nat) : Int)) := by
  intro L
  induction L with
  | nil =>
    intro o o' p n h1 h2 h3 h4 h5
    obtain ⟨n, rfl⟩ : ∃ n', n = n' + 1 := ⟨n - 1, by omega⟩
    simp only [tms] at h1
    obtain rfl : o = 0 := by omega
    rw [jf_X12_endOf_5_s]
    simp (disch := omega) only [i32_lit, i32_neg, i32_add, i32_sub, i32_mul, i32_lt, i32_le, i32_eq, if_pos]
    rfl
  | cons c L ih =>
    intro o o' p n h1 h2 h3 h4 h5
    obtain ⟨n, rfl⟩ : ∃ n', n = n' + 1 := ⟨n - 1, by omega⟩
    have hlen := tms_len h1
    simp only [List.length_cons] at h4 h5 hlen
    rw [jf_X12_endOf_5_s]
    cases o with
    | zero =>
      simp (disch := omega) only [i32_lit, i32_neg, i32_add, i32_sub, i32_mul, i32_lt, i32_le, i32_eq, if_pos]
      rfl
    | succ o =>
      obtain ⟨g1, g2⟩ := seg_cons.mp h2
      obtain ⟨⟨la, q1, q2, q3⟩, q4⟩ := h3
      have h1' : tms ar (o + ar c + o') L := by
        rw [show o + 1 + o' = (o + o') + 1 by omega] at h1
        have h2 : tms ar (o + o' + ar c) L := h1
        rwa [show o + o' + ar c = o + ar c + o' by omega] at h2
      have hok : arOK ty h ars ar L := ⟨⟨la, q1, q2, fun d hd => q3 d (List.mem_cons_of_mem _ hd)⟩, fun d hd => q4 d (List.mem_cons_of_mem _ hd)⟩
      obtain ⟨b1, b2, b3⟩ := q4 c List.mem_cons_self
      have key := ih (o + ar c) o' (p + 1) n h1' g2 hok (by omega) (by omega)
      simp (disch := omega) only [i32_lit, i32_neg, i32_add, i32_sub, i32_mul, i32_lt, i32_le, i32_eq, if_neg, xga_i ht, xbs]
      rw [show ((p : Int)).toNat = p by omega, g1]
      by_cases hc : 100 ≤ c
      · simp (disch := omega) only [i32_lit, i32_neg, i32_add, i32_sub, i32_mul, i32_lt, i32_le, i32_eq, if_pos]
        rw [show ((o + 1 : Nat) : Int) + (0 - 1) = ((o + ar c : Nat) : Int) by have := b1 hc; omega, show (p : Int) + 1 = ((p + 1 : Nat) : Int) by omega, key]
        simp only [skipN]
        congr 2
        omega
      · obtain ⟨d1, d2⟩ := q3 c List.mem_cons_self (by omega)
        simp (disch := omega) only [i32_lit, i32_neg, i32_add, i32_sub, i32_mul, i32_lt, i32_le, i32_eq, if_neg, xga_i q1, xbs]
        rw [show ((c : Int)).toNat = c by omega, d2]
        simp only [i32_lit, i32_neg, i32_add, i32_sub, i32_mul, i32_lt, i32_le, i32_eq]
        rw [show ((o + 1 : Nat) : Int) + ((ar c : Int) - 1) = ((o + ar c : Nat) : Int) by omega, show (p : Int) + 1 = ((p + 1 : Nat) : Int) by omega, key]
        simp only [skipN]
        congr 2
        omega
theorem r_end {row len ars : Nat} {ar : Nat → Nat} {L : List Nat} {o' p : Nat} (ht : ty row = some (1, len)) (hb : len ≤ 100000) (h1 : tms ar (1 + o') L) (h2 : seg (xA h row) p L) (h3 : arOK ty h ars ar L) (h4 : p + L.length ≤ len) : jf_X12_endOf ty h row (i32 p) ars = some (i32 ((p + skipN ar 1 L : Nat) : Int)) :=
  xlim_of (L.length + 1) (fun n hn => r_end5 ht hb L 1 o' p n h1 h2 h3 h4 (by omega))
end ROWS

/-! NUMBERS: the machine's ints as pictures of integers -/
def i32 (z : Int) : Int32 := Int32.ofInt z
theorem i32_add (a b : Int) : i32 a + i32 b = i32 (a + b) := (Int32.ofInt_add a b).symm
theorem i32_sub (a b : Int) : i32 a - i32 b = i32 (a - b) := (Int32.ofInt_sub a b).symm
theorem i32_mul (a b : Int) : i32 a * i32 b = i32 (a * b) := (Int32.ofInt_mul a b).symm
theorem i32_neg (a : Int) : -(i32 a) = i32 (-a) := (Int32.ofInt_neg a).symm
theorem i32_lit (n : Nat) : (OfNat.ofNat n : Int32) = i32 (OfNat.ofNat n) := rfl
theorem i32_toInt {a : Int} (h1 : -2147483648 ≤ a) (h2 : a < 2147483648) : (i32 a).toInt = a := Int32.toInt_ofInt_of_le h1 h2
theorem i32_lt {a b : Int} (h1 : -2147483648 ≤ a) (h2 : a < 2147483648) (h3 : -2147483648 ≤ b) (h4 : b < 2147483648) : (i32 a < i32 b) = (a < b) := by
  rw [Int32.lt_iff_toInt_lt, i32_toInt h1 h2, i32_toInt h3 h4]
theorem i32_le {a b : Int} (h1 : -2147483648 ≤ a) (h2 : a < 2147483648) (h3 : -2147483648 ≤ b) (h4 : b < 2147483648) : (i32 a ≤ i32 b) = (a ≤ b) := by
  rw [Int32.le_iff_toInt_le, i32_toInt h1 h2, i32_toInt h3 h4]
theorem i32_eq {a b : Int} (h1 : -2147483648 ≤ a) (h2 : a < 2147483648) (h3 : -2147483648 ≤ b) (h4 : b < 2147483648) : (i32 a = i32 b) = (a = b) := by
  rw [← Int32.toInt_inj, i32_toInt h1 h2, i32_toInt h3 h4]
theorem i32_nat {a : Int} (h1 : 0 ≤ a) (h2 : a < 2147483648) : (i32 a).toNatClampNeg = a.toNat := Int32.toNatClampNeg_ofInt_of_le (by omega) h2
theorem i32_ok {a : Int} {n : Nat} (h1 : 0 ≤ a) (h2 : a < n) (h3 : n ≤ 2147483647) : xok (i32 a) n = true := by
  have e0 : (0 : Int32) = i32 0 := rfl
  unfold xok
  rw [i32_nat h1 (by omega), e0]
  simp only [i32_lt (a := a) (b := 0) (by omega) (by omega) (by omega) (by omega)]
  simp
  omega
theorem xga_i {kd n : Nat} {ty : xTy} {h : xH} {q : Nat} {a : Int} (ht : ty q = some (kd, n)) (h1 : 0 ≤ a) (h2 : a < n) (h3 : n ≤ 2147483647) : xga kd ty h q (i32 a) = some (xA h q a.toNat) := by
  unfold xga
  rw [ht]
  simp only [i32_ok h1 h2 h3, i32_nat h1 (show a < 2147483648 by omega), and_self, if_true]
theorem xwa_i {kd n : Nat} {ty : xTy} {h : xH} {q : Nat} {a : Int} {v : Int32} (ht : ty q = some (kd, n)) (h1 : 0 ≤ a) (h2 : a < n) (h3 : n ≤ 2147483647) : xwa kd ty h q (i32 a) v = some (xsA h q a.toNat v) := by
  unfold xwa
  rw [ht]
  simp only [i32_ok h1 h2 h3, i32_nat h1 (show a < 2147483648 by omega), and_self, if_true]
theorem xbs {α β : Type} (a : α) (f : α → Option β) : (some a).bind f = f a := rfl
theorem xb2s {α β γ : Type} (a : α) (b : β) (f : α → β → Option γ) : xb2 (some (a, b)) f = f a b := rfl
theorem xz0 : xz (i32 0) = some (i32 0) := by decide
theorem xz1 : xz (i32 1) = some (i32 1) := by decide
/-- a truth as the machine has it -/
def bI (b : Bool) : Int32 := if b then i32 1 else i32 0
theorem xz_b (b : Bool) : xz (bI b) = some (bI b) := by cases b <;> decide
theorem bI_eq0 (b : Bool) : (bI b = i32 0) = (b = false) := by cases b <;> decide
theorem bI_eq1 (b : Bool) : (bI b = i32 1) = (b = true) := by cases b <;> decide
/-! TERMS as rows of codes: ar says how many arguments a code has -/
def skipN (ar : Nat → Nat) : Nat → List Nat → Nat
  | _, [] => 0
  | 0, _ :: _ => 0
  | o + 1, c :: L => skipN ar (o + ar c) L + 1
def tms (ar : Nat → Nat) : Nat → List Nat → Prop
  | o, [] => o = 0
  | 0, _ :: _ => False
  | o + 1, c :: L => tms ar (o + ar c) L
/-- a row of the heap holds these codes from p on -/
def seg (f : Nat → Int32) (p : Nat) (L : List Nat) : Prop := ∀ (i : Nat) (c : Nat), L[i]? = some c → f (p + i) = i32 c
theorem seg_nil (f : Nat → Int32) (p : Nat) : seg f p [] := fun i c h => by simp at h
theorem seg_cons {f : Nat → Int32} {p c : Nat} {L : List Nat} : seg f p (c :: L) ↔ f p = i32 c ∧ seg f (p + 1) L := by
  constructor
  · intro h
    refine ⟨h 0 c rfl, fun i d hd => ?_⟩
    have := h (i + 1) d (by simpa using hd)
    rwa [show p + (i + 1) = p + 1 + i by omega] at this
  · rintro ⟨h1, h2⟩ i d hd
    cases i with
    | zero => simp at hd; rw [← hd]; exact h1
    | succ i =>
      have := h2 i d (by simpa using hd)
      rwa [show p + (i + 1) = p + 1 + i by omega]
theorem seg_app {f : Nat → Int32} {p : Nat} {L K : List Nat} : seg f p (L ++ K) ↔ seg f p L ∧ seg f (p + L.length) K := by
  induction L generalizing p with
  | nil => simp [seg_nil]
  | cons c L ih =>
    rw [List.cons_append, seg_cons, seg_cons, ih, List.length_cons, show p + 1 + L.length = p + (L.length + 1) by omega, and_assoc]
theorem seg_drop {f : Nat → Int32} {p : Nat} {L : List Nat} (h : seg f p L) (k : Nat) : seg f (p + k) (L.drop k) := by
  intro i c hc
  rw [List.getElem?_drop] at hc
  have := h (k + i) c hc
  rwa [← Nat.add_assoc] at this
theorem seg_take {f : Nat → Int32} {p : Nat} {L : List Nat} (h : seg f p L) (k : Nat) : seg f p (L.take k) := by
  intro i c hc
  rw [List.getElem?_take] at hc
  split at hc
  · exact h i c hc
  · cases hc
section TMS
variable {ar : Nat → Nat}
theorem tms_app {o o' : Nat} {L K : List Nat} (h1 : tms ar o L) (h2 : tms ar o' K) : tms ar (o + o') (L ++ K) := by
  induction L generalizing o with
  | nil => simp only [tms] at h1; subst h1; simpa using h2
  | cons c L ih =>
    cases o with
    | zero => cases h1
    | succ o =>
      have := ih (o := o + ar c) h1
      rw [show o + 1 + o' = (o + o') + 1 by omega]
      show tms ar (o + o' + ar c) (L ++ K)
      rwa [show o + o' + ar c = o + ar c + o' by omega]
theorem skipN_zero (L : List Nat) : skipN ar 0 L = 0 := by cases L <;> rfl
/-- the first o of o + o' terms: where they end, and what is behind them -/
theorem tms_split {o o' : Nat} {L : List Nat} (h : tms ar (o + o') L) : tms ar o (L.take (skipN ar o L)) ∧ tms ar o' (L.drop (skipN ar o L)) ∧ skipN ar o L ≤ L.length := by
  induction L generalizing o with
  | nil =>
    simp only [tms] at h
    have h1 : o = 0 := by omega
    have h2 : o' = 0 := by omega
    subst h1; subst h2
    simp [tms, skipN]
  | cons c L ih =>
    cases o with
    | zero => simp only [skipN, List.take_zero, List.drop_zero, Nat.zero_add] at *; exact ⟨rfl, h, by omega⟩
    | succ o =>
      have h' : tms ar (o + ar c + o') L := by
        rw [show o + 1 + o' = (o + o') + 1 by omega] at h
        have h2 : tms ar (o + o' + ar c) L := h
        rwa [show o + o' + ar c = o + ar c + o' by omega] at h2
      obtain ⟨a, b, d⟩ := ih h'
      refine ⟨?_, ?_, ?_⟩
      · simp only [skipN, List.take_succ_cons]
        exact a
      · simp only [skipN, List.drop_succ_cons]
        exact b
      · simp only [skipN, List.length_cons]; omega
theorem tms_drop {o : Nat} {L : List Nat} (h : tms ar o L) : ∀ k, k ≤ L.length → ∃ o', tms ar o' (L.drop k) := by
  induction L generalizing o with
  | nil => intro k hk; simp at hk; subst hk; exact ⟨o, h⟩
  | cons c L ih =>
    intro k hk
    cases k with
    | zero => exact ⟨o, h⟩
    | succ k =>
      cases o with
      | zero => cases h
      | succ o => exact ih (o := o + ar c) h k (by simpa using hk)
theorem tms_pos {o c : Nat} {L : List Nat} (h : tms ar o (c :: L)) : ∃ o1, o = o1 + 1 ∧ tms ar (o1 + ar c) L := by
  cases o with
  | zero => cases h
  | succ o => exact ⟨o, rfl, h⟩
theorem tms_ne {o : Nat} {L : List Nat} (h : tms ar (o + 1) L) : L ≠ [] := by
  rintro rfl
  simp [tms] at h
theorem skipN_pos {o c : Nat} {L : List Nat} : 1 ≤ skipN ar (o + 1) (c :: L) := by simp [skipN]
/-- all of a row of terms -/
theorem skipN_all {o : Nat} {L : List Nat} (h : tms ar o L) : skipN ar o L = L.length := by
  induction L generalizing o with
  | nil => rfl
  | cons c L ih =>
    cases o with
    | zero => cases h
    | succ o => simp only [skipN, List.length_cons]; rw [ih (o := o + ar c) h]
theorem skipN_app {o : Nat} {L K : List Nat} (h : tms ar o L) : skipN ar o (L ++ K) = L.length := by
  induction L generalizing o with
  | nil => simp only [tms] at h; subst h; simp [skipN_zero]
  | cons c L ih =>
    cases o with
    | zero => cases h
    | succ o => simp only [skipN, List.length_cons, List.cons_append]; rw [ih (o := o + ar c) h]
end TMS

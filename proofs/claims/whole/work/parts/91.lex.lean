/-! TOKENS, of bytes alone -/
def isLb (x : Nat) : Bool := decide (97 ≤ x) && decide (x ≤ 122)
def isDb (x : Nat) : Bool := decide (48 ≤ x) && decide (x ≤ 57)
def isBb (x : Nat) : Bool := decide (x = 10) || decide (x = 32)
/-- where a run ends -/
def run (P : Nat → Bool) (F : Nat → Nat) : Nat → Nat → Nat
  | 0, q => q
  | k + 1, q => if P (F q) then run P F k (q + 1) else q
theorem run_le (P : Nat → Bool) (F : Nat → Nat) : ∀ (k q : Nat), q ≤ run P F k q ∧ run P F k q ≤ q + k
  | 0, q => by simp [run]
  | k + 1, q => by
    have := run_le P F k (q + 1)
    simp only [run]
    split <;> omega
theorem run_st (P : Nat → Bool) (F : Nat → Nat) {k q : Nat} (h : P (F q) = true) : q + 1 ≤ run P F (k + 1) q := by
  simp only [run, h, if_true]
  exact (run_le P F k (q + 1)).1
/-- six letters as a number -/
def hrn (F : Nat → Nat) (q e : Nat) : Nat → Nat
  | 0 => 0
  | i + 1 => hrn F q e i * 32 + if q + i < e then F (q + i) - 96 else 0
def wdK (v : Nat) : Nat := if v = 626398208 then 5 else if v = 647215104 then 3 else if v = 739835904 then 4 else 2
def nmV (F : Nat → Nat) : Nat → Nat → Nat → Nat
  | 0, _, v => v
  | k + 1, q, v => if isDb (F q) then nmV F k (q + 1) (min 1000 (v * 10 + (F q - 48))) else v
def mkK (x : Nat) : Nat := if x = 59 ∨ x = 61 ∨ x = 44 ∨ x = 40 ∨ x = 41 then x else 1
/-- kind, start, value, what is behind -/
abbrev Tk : Type := Nat × Nat × Nat × Nat
def tkA (F : Nat → Nat) (n q : Nat) : Tk :=
  if isLb (F q) then (if 6 < run isLb F (n - q) q - q then 1 else wdK (hrn F q (run isLb F (n - q) q) 6), q, hrn F q (run isLb F (n - q) q) 6, run isLb F (n - q) q)
  else if isDb (F q) then (6, q, nmV F (n - q) q 0, run isDb F (n - q) q)
  else (mkK (F q), q, 0, q + 1)
def lx (F : Nat → Nat) (n : Nat) : Nat → Nat → Tk
  | 0, _ => (0, n, 0, n)
  | k + 1, q => if isBb (F q) then lx F n k (q + 1) else tkA F n q
theorem tkA_bh (F : Nat → Nat) {n q : Nat} (h : q < n) : q + 1 ≤ (tkA F n q).2.2.2 ∧ (tkA F n q).2.2.2 ≤ n ∧ (tkA F n q).1 ≠ 0 ∧ (tkA F n q).2.1 = q := by
  obtain ⟨k, hk⟩ : ∃ k, n - q = k + 1 := ⟨n - q - 1, by omega⟩
  unfold tkA
  split
  · rename_i hl
    have h1 := run_le isLb F (n - q) q
    have h2 : q + 1 ≤ run isLb F (n - q) q := by rw [hk]; exact run_st isLb F hl
    refine ⟨h2, (show run isLb F (n - q) q ≤ n by omega), ?_, rfl⟩
    show (if 6 < run isLb F (n - q) q - q then 1 else wdK (hrn F q (run isLb F (n - q) q) 6)) ≠ 0
    unfold wdK
    split
    · decide
    · split
      · decide
      · split
        · decide
        · split <;> decide
  · split
    · rename_i hl
      have h1 := run_le isDb F (n - q) q
      have h2 : q + 1 ≤ run isDb F (n - q) q := by rw [hk]; exact run_st isDb F hl
      exact ⟨h2, (show run isDb F (n - q) q ≤ n by omega), (show (6 : Nat) ≠ 0 by decide), rfl⟩
    · refine ⟨Nat.le_refl _, h, ?_, rfl⟩
      show mkK (F q) ≠ 0
      unfold mkK
      split <;> omega
theorem lx_bh (F : Nat → Nat) {n : Nat} : ∀ (k q : Nat), q + k = n → q ≤ (lx F n k q).2.2.2 ∧ (lx F n k q).2.2.2 ≤ n ∧ ((lx F n k q).1 = 0 → lx F n k q = (0, n, 0, n))
  | 0, q, h => by simp [lx]; omega
  | k + 1, q, h => by
    simp only [lx]
    split
    · have := lx_bh F (n := n) k (q + 1) (by omega)
      exact ⟨by omega, this.2⟩
    · have := tkA_bh F (show q < n by omega)
      exact ⟨by omega, this.2.1, fun e => absurd e this.2.2.1⟩
/-- where one stands after j tokens -/
def pos (F : Nat → Nat) (n : Nat) : Nat → Nat
  | 0 => 0
  | j + 1 => (lx F n (n - pos F n j) (pos F n j)).2.2.2
def tk (F : Nat → Nat) (n j : Nat) : Tk := lx F n (n - pos F n j) (pos F n j)
theorem pos_le (F : Nat → Nat) (n : Nat) : ∀ j, pos F n j ≤ n
  | 0 => Nat.zero_le _
  | j + 1 => (lx_bh F (n - pos F n j) (pos F n j) (by have := pos_le F n j; omega)).2.1
theorem pos_succ (F : Nat → Nat) (n j : Nat) : pos F n (j + 1) = (tk F n j).2.2.2 := rfl
theorem tk_end {F : Nat → Nat} {n j : Nat} (h : (tk F n j).1 = 0) : tk F n j = (0, n, 0, n) ∧ tk F n (j + 1) = (0, n, 0, n) := by
  have h1 := (lx_bh F (n - pos F n j) (pos F n j) (by have := pos_le F n j; omega)).2.2 h
  refine ⟨h1, ?_⟩
  have h2 : pos F n (j + 1) = n := by rw [pos_succ, show tk F n j = (0, n, 0, n) from h1]
  unfold tk
  rw [h2, Nat.sub_self]
  rfl
theorem tk_ends {F : Nat → Nat} {n j : Nat} (h : (tk F n j).1 = 0) : ∀ i, tk F n (j + i) = (0, n, 0, n)
  | 0 => (tk_end h).1
  | i + 1 => by
    have := tk_ends h i
    exact (tk_end (j := j + i) (by rw [this])).2
theorem lx_blank {F : Nat → Nat} {n q : Nat} (hq : q < n) (h : isBb (F q) = true) : lx F n (n - q) q = lx F n (n - (q + 1)) (q + 1) := by
  obtain ⟨k, hk⟩ : ∃ k, n - q = k + 1 := ⟨n - q - 1, by omega⟩
  rw [hk, show n - (q + 1) = k by omega]
  simp only [lx, h, if_true]
theorem lx_tok {F : Nat → Nat} {n q : Nat} (hq : q < n) (h : isBb (F q) = false) : lx F n (n - q) q = tkA F n q := by
  obtain ⟨k, hk⟩ : ∃ k, n - q = k + 1 := ⟨n - q - 1, by omega⟩
  rw [hk]
  simp only [lx, h, Bool.false_eq_true, if_false]
theorem isL_notD {x : Nat} (h : isLb x = true) : isDb x = false ∧ isBb x = false := by
  unfold isLb at h
  rw [Bool.and_eq_true_iff, decide_eq_true_iff, decide_eq_true_iff] at h
  unfold isDb isBb
  constructor
  · rw [decide_eq_false (show ¬ x ≤ 57 by omega), Bool.and_false]
  · rw [decide_eq_false (by omega), decide_eq_false (by omega)]; rfl
theorem isD_notB {x : Nat} (h : isDb x = true) : isBb x = false ∧ isLb x = false := by
  unfold isDb at h
  rw [Bool.and_eq_true_iff, decide_eq_true_iff, decide_eq_true_iff] at h
  unfold isBb isLb
  constructor
  · rw [decide_eq_false (by omega), decide_eq_false (by omega)]; rfl
  · rw [decide_eq_false (by omega), Bool.false_and]
theorem hrn_lt (F : Nat → Nat) (q e : Nat) (hF : ∀ i, q + i < e → F (q + i) ≤ 122) : ∀ i, hrn F q e i < 32 ^ i
  | 0 => by simp [hrn]
  | i + 1 => by
    have ih := hrn_lt F q e hF i
    simp only [hrn, Nat.pow_succ]
    split
    · rename_i h
      have := hF i h
      omega
    · omega
theorem i32_shl (n : Nat) {k : Nat} (hk : k < 32) : i32 n <<< (i32 (k : Nat) &&& i32 31) = i32 ((n <<< k : Nat) : Int) := by
  refine b_ext (fun i hi => ?_)
  rw [show i32 (k : Nat) &&& i32 31 = nI k &&& 31 from rfl, b_shl k hk _ hi, bt_i _ hi, Nat.testBit_shiftLeft]
  by_cases h : k ≤ i
  · rw [bt_i _ (by omega)]
  · rw [decide_eq_false h]; rfl
theorem or_low {a k x : Nat} (h : x < 2 ^ k) : (a * 2 ^ k) ||| x = a * 2 ^ k + x := by
  rw [Nat.mul_comm, Nat.two_pow_add_eq_or_of_lt h]
theorem run_all {P : Nat → Bool} {F : Nat → Nat} : ∀ (k q i : Nat), q ≤ i → i < run P F k q → P (F i) = true
  | 0, q, i, h1, h2 => by simp only [run] at h2; omega
  | k + 1, q, i, h1, h2 => by
    simp only [run] at h2
    split at h2
    · rename_i hp
      rcases Nat.lt_or_ge q i with h | h
      · exact run_all k (q + 1) i h h2
      · rw [show i = q by omega]; exact hp
    · omega

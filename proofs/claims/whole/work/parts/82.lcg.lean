/-! numbers by chance: both ways of reckoning -/
def i64 (z : Int) : Int64 := Int64.ofInt z
theorem mn32 : Int32.minValue.toInt = -2147483648 := by decide
theorem mx32 : Int32.maxValue.toInt = 2147483647 := by decide
theorem mn64 : Int64.minValue.toInt = -9223372036854775808 := by decide
theorem mx64 : Int64.maxValue.toInt = 9223372036854775807 := by decide
theorem i32_div {a b : Int} (h1 : 0 ≤ a) (h2 : a < 2147483648) (h3 : 0 < b) (h4 : b < 2147483648) : i32 a / i32 b = i32 (a / b) := by
  unfold i32
  rw [← Int32.ofInt_tdiv (by rw [mn32]; omega) (by rw [mx32]; omega) (by rw [mn32]; omega) (by rw [mx32]; omega), Int.tdiv_eq_ediv_of_nonneg h1]
theorem i64_div {a b : Int} (h1 : 0 ≤ a) (h2 : a < 2147483648) (h3 : 0 < b) (h4 : b < 2147483648) : i64 a / i64 b = i64 (a / b) := by
  unfold i64
  rw [← Int64.ofInt_tdiv (by rw [mn64]; omega) (by rw [mx64]; omega) (by rw [mn64]; omega) (by rw [mx64]; omega), Int.tdiv_eq_ediv_of_nonneg h1]
theorem i64_and (a b : Nat) : i64 a &&& i64 b = i64 ((a &&& b : Nat) : Int) := by
  refine Int64.toBitVec_inj.mp ?_
  rw [Int64.toBitVec_and]
  unfold i64
  rw [Int64.toBitVec_ofInt, Int64.toBitVec_ofInt, Int64.toBitVec_ofInt, BitVec.ofInt_natCast, BitVec.ofInt_natCast, BitVec.ofInt_natCast, BitVec.ofNat_and]
theorem i64_add (a b : Int) : i64 a + i64 b = i64 (a + b) := (Int64.ofInt_add a b).symm
theorem i64_sub (a b : Int) : i64 a - i64 b = i64 (a - b) := (Int64.ofInt_sub a b).symm
theorem i64_mul (a b : Int) : i64 a * i64 b = i64 (a * b) := (Int64.ofInt_mul a b).symm
theorem i64_lit (n : Nat) : (OfNat.ofNat n : Int64) = i64 (OfNat.ofNat n) := rfl
theorem i32_64 {a : Int} (h1 : -2147483648 ≤ a) (h2 : a < 2147483648) : Int32.toInt64 (i32 a) = i64 a := Int32.toInt64_ofInt (by rw [mn32]; omega) (by rw [mx32]; omega)
theorem i64_32 (a : Int) : Int64.toInt32 (i64 a) = i32 a := Int64.toInt32_ofInt
theorem i64_toInt {a : Int} (h1 : 0 ≤ a) (h2 : a < 2147483648) : (i64 a).toInt = a := Int64.toInt_ofInt_of_le (by omega) (by omega)
theorem i64_ne {a : Int} (h1 : 0 < a) (h2 : a < 2147483648) : ¬ i64 a = i64 0 := fun h => by
  have := congrArg Int64.toInt h
  rw [i64_toInt (by omega) h2, i64_toInt (by omega) (by omega)] at this
  omega
/-- the next number -/
def nxS (s : Nat) : Nat := (s * 1103515245 + 12345) % 2147483648
theorem nxS_lt (s : Nat) : nxS s < 2147483648 := Nat.mod_lt _ (by decide)
theorem nx_and31 (n : Nat) : n &&& 2147483647 = n % 2147483648 := by
  have := Nat.and_two_pow_sub_one_eq_mod n 31
  exact this
theorem nx32 (s : Nat) : (i32 s * i32 1103515245 + i32 12345) &&& i32 2147483647 = i32 (nxS s : Nat) := by
  rw [i32_mul, i32_add, show ((s : Int) * 1103515245 + 12345) = ((s * 1103515245 + 12345 : Nat) : Int) by omega, show (2147483647 : Int) = ((2147483647 : Nat) : Int) from rfl, i32_and, nx_and31]
  rfl
theorem nx64 (s : Nat) : (i64 s * i64 1103515245 + i64 12345) &&& i64 2147483647 = i64 (nxS s : Nat) := by
  rw [i64_mul, i64_add, show ((s : Int) * 1103515245 + 12345) = ((s * 1103515245 + 12345 : Nat) : Int) by omega, show (2147483647 : Int) = ((2147483647 : Nat) : Int) from rfl, i64_and, nx_and31]
  rfl
theorem md32 {s n : Nat} (hs : s < 2147483648) (hn : 0 < n) (hn2 : n < 2147483648) : i32 s - i32 s / i32 n * i32 n = i32 ((s % n : Nat) : Int) := by
  rw [i32_div (by omega) (by omega) (by omega) (by omega), i32_mul, i32_sub]
  congr 1
  have h := Nat.div_add_mod s n
  rw [show (s : Int) / (n : Int) = ((s / n : Nat) : Int) from rfl]
  have h2 : (s / n) * n = n * (s / n) := Nat.mul_comm _ _
  have h3 : ((s / n : Nat) : Int) * (n : Int) = ((n * (s / n) : Nat) : Int) := by rw [← h2]; rfl
  rw [h3]
  omega
theorem md64 {s n : Nat} (hs : s < 2147483648) (hn : 0 < n) (hn2 : n < 2147483648) : i64 s - i64 s / i64 n * i64 n = i64 ((s % n : Nat) : Int) := by
  rw [i64_div (by omega) (by omega) (by omega) (by omega), i64_mul, i64_sub]
  congr 1
  have h := Nat.div_add_mod s n
  rw [show (s : Int) / (n : Int) = ((s / n : Nat) : Int) from rfl]
  have h2 : (s / n) * n = n * (s / n) := Nat.mul_comm _ _
  have h3 : ((s / n : Nat) : Int) * (n : Int) = ((n * (s / n) : Nat) : Int) := by rw [← h2]; rfl
  rw [h3]
  omega

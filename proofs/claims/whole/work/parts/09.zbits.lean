/-! ===== Int32 by its bits: bt x i ===== -/
def bt (x : Int32) (i : Nat) : Bool := x.toBitVec.getLsbD i
theorem b_ext {x y : Int32} (h : ∀ i, i < 32 → bt x i = bt y i) : x = y := Int32.toBitVec_inj.mp (BitVec.eq_of_getLsbD_eq (fun i hi => h i hi))
theorem b_or (x y : Int32) (i : Nat) : bt (x ||| y) i = (bt x i || bt y i) := by unfold bt; rw [Int32.toBitVec_or, BitVec.getLsbD_or]
theorem b_and (x y : Int32) (i : Nat) : bt (x &&& y) i = (bt x i && bt y i) := by unfold bt; rw [Int32.toBitVec_and, BitVec.getLsbD_and]
theorem b_xor (x y : Int32) (i : Nat) : bt (x ^^^ y) i = (bt x i ^^ bt y i) := by unfold bt; rw [Int32.toBitVec_xor, BitVec.getLsbD_xor]
theorem b_big {x : Int32} {i : Nat} (h : 32 ≤ i) : bt x i = false := BitVec.getLsbD_of_ge _ _ h
theorem b_m1 : ∀ i, i < 32 → bt (-1) i = true := by decide +kernel
theorem b_0 (i : Nat) : bt 0 i = false := BitVec.getLsbD_zero
theorem s_l : ∀ n, n < 32 → ((nI n &&& 31).toBitVec.smod 32).toNat = n := by decide +kernel
theorem s_u : ∀ n, n < 32 → (((nI n).toUInt32 &&& Int32.toUInt32 31).toBitVec % 32).toNat = n := by decide +kernel
theorem b_shl (n : Nat) (hn : n < 32) (x : Int32) {i : Nat} (hi : i < 32) : bt (x <<< (nI n &&& 31)) i = (decide (n ≤ i) && bt x (i - n)) := by
  unfold bt
  rw [Int32.toBitVec_shiftLeft]
  show (x.toBitVec <<< ((nI n &&& 31).toBitVec.smod 32).toNat).getLsbD i = _
  rw [s_l n hn, BitVec.getLsbD_shiftLeft]
  rcases Nat.lt_or_ge i n with h | h
  · simp [h, Nat.not_le.mpr h]
  · simp [hi, h, Nat.not_lt.mpr h]
theorem b_ushr (n : Nat) (hn : n < 32) (x : Int32) (i : Nat) : bt ((x.toUInt32 >>> ((nI n).toUInt32 &&& Int32.toUInt32 31)).toInt32) i = bt x (n + i) := by
  show (x.toUInt32 >>> ((nI n).toUInt32 &&& Int32.toUInt32 31)).toBitVec.getLsbD i = x.toUInt32.toBitVec.getLsbD (n + i)
  rw [UInt32.toBitVec_shiftRight]
  show (x.toUInt32.toBitVec >>> (((nI n).toUInt32 &&& Int32.toUInt32 31).toBitVec % 32).toNat).getLsbD i = _
  rw [s_u n hn, BitVec.getLsbD_ushiftRight]
theorem b_sshr (n : Nat) (hn : n < 32) (x : Int32) {i : Nat} (hi : i < 32) : bt (x >>> (nI n &&& 31)) i = if n + i < 32 then bt x (n + i) else bt x 31 := by
  unfold bt
  rw [Int32.toBitVec_shiftRight]
  show (x.toBitVec.sshiftRight ((nI n &&& 31).toBitVec.smod 32).toNat).getLsbD i = _
  rw [s_l n hn, BitVec.getLsbD_sshiftRight, BitVec.msb_eq_getLsbD_last]
  simp [hi]
theorem nx_and (a b : Nat) : nI a &&& nI b = nI (a &&& b) := by
  apply Int32.toBitVec_inj.1
  show BitVec.ofNat 32 a &&& BitVec.ofNat 32 b = BitVec.ofNat 32 (a &&& b)
  apply BitVec.eq_of_getLsbD_eq
  intro i hi
  simp [hi]
theorem nx_xor (a b : Nat) : nI a ^^^ nI b = nI (a ^^^ b) := by
  apply Int32.toBitVec_inj.1
  show BitVec.ofNat 32 a ^^^ BitVec.ofNat 32 b = BitVec.ofNat 32 (a ^^^ b)
  apply BitVec.eq_of_getLsbD_eq
  intro i hi
  simp [hi]
theorem nI_i (n : Nat) : nI n = i32 n := rfl
theorem i32_and (a b : Nat) : i32 a &&& i32 b = i32 ((a &&& b : Nat) : Int) := nx_and a b
theorem i32_xor (a b : Nat) : i32 a ^^^ i32 b = i32 ((a ^^^ b : Nat) : Int) := nx_xor a b
theorem i32_or (a b : Nat) : i32 a ||| i32 b = i32 ((a ||| b : Nat) : Int) := by
  apply Int32.toBitVec_inj.1
  show BitVec.ofNat 32 a ||| BitVec.ofNat 32 b = BitVec.ofNat 32 (a ||| b)
  apply BitVec.eq_of_getLsbD_eq
  intro i hi
  simp [hi]
theorem bt_i (n : Nat) {i : Nat} (hi : i < 32) : bt (i32 n) i = n.testBit i := by
  show (BitVec.ofNat 32 n).getLsbD i = _
  rw [BitVec.getLsbD_ofNat]
  simp [hi]
theorem i32_sshr {n k : Nat} (hn : n < 2147483648) (hk : k < 32) : i32 n >>> (i32 k &&& 31) = i32 ((n >>> k : Nat) : Int) := by
  refine b_ext (fun i hi => ?_)
  have h := b_sshr k hk (i32 n) hi
  rw [nI_i] at h
  rw [h, bt_i _ hi, Nat.testBit_shiftRight]
  split
  · rw [bt_i _ (by omega)]
  · rw [bt_i _ (by omega)]
    have e1 : n.testBit 31 = false := Nat.testBit_lt_two_pow (by omega)
    have e2 : n.testBit (k + i) = false := Nat.testBit_lt_two_pow (Nat.lt_of_lt_of_le (show n < 2 ^ 31 by omega) (Nat.pow_le_pow_right (by decide) (by omega)))
    rw [e1, e2]
theorem i32_ush {n k : Nat} (hn : n < 4294967296) (hk : k < 32) : xush (i32 n) (i32 k) = i32 ((n >>> k : Nat) : Int) := by
  refine b_ext (fun i hi => ?_)
  have h := b_ushr k hk (i32 n) i
  rw [nI_i] at h
  show bt ((i32 n).toUInt32 >>> ((i32 k).toUInt32 &&& Int32.toUInt32 31)).toInt32 i = _
  rw [h, bt_i _ hi, Nat.testBit_shiftRight]
  by_cases hki : k + i < 32
  · rw [bt_i _ hki]
  · rw [b_big (by omega), Nat.testBit_lt_two_pow (Nat.lt_of_lt_of_le (show n < 2 ^ 32 by omega) (Nat.pow_le_pow_right (by decide) (by omega)))]
theorem i32_shl1 : ∀ k, k < 31 → i32 1 <<< (i32 (k : Nat) &&& 31) = i32 ((2 ^ k : Nat) : Int) := by decide +kernel
theorem i32_one : ∀ n : Nat, i32 n &&& i32 1 = i32 ((n % 2 : Nat) : Int) := fun n => by
  have : i32 1 = i32 ((1 : Nat) : Int) := rfl
  rw [this, i32_and, Nat.and_one_is_mod]
theorem shr_bit (n k : Nat) : (n >>> k) % 2 = if n.testBit k then 1 else 0 := by
  rw [Nat.testBit, Nat.and_comm, Nat.and_one_is_mod]
  have : (n >>> k) % 2 = 0 ∨ (n >>> k) % 2 = 1 := by omega
  rcases this with h | h <;> simp [h]
/-- one bit, as both programs look at it -/
theorem i32_bit {n k : Nat} (hn : n < 2147483648) (hk : k < 32) : (i32 n >>> (i32 k &&& 31)) &&& i32 1 = i32 (if n.testBit k then 1 else 0) := by
  rw [i32_sshr hn hk, i32_one, shr_bit]
  split <;> rfl
theorem bit_lt {n k j : Nat} (hn : n < 2 ^ k) (hj : k ≤ j) : n.testBit j = false := Nat.testBit_lt_two_pow (Nat.lt_of_lt_of_le hn (Nat.pow_le_pow_right (by decide) hj))
theorem pow16 {k : Nat} (hk : k ≤ 16) : 2 ^ k ≤ 65536 := Nat.pow_le_pow_right (n := 2) (by decide) hk
/-- counting bits -/
def cntB : Nat → Nat → Nat
  | _, 0 => 0
  | n, k + 1 => n % 2 + cntB (n / 2) k
def pcN (z : Nat) : Nat :=
  let a := z - ((z >>> 1) &&& 1431655765)
  let b := (a &&& 858993459) + ((a >>> 2) &&& 858993459)
  let c := (b + (b >>> 4)) &&& 252645135
  let d := c + (c >>> 8)
  (d + (d >>> 16)) &&& 63
def chkB (f : Nat → Bool) : Nat → Nat → Bool
  | 0, lo => f lo
  | k + 1, lo => cond (chkB f k lo) (chkB f k (Nat.add lo (Nat.pow 2 k))) false
theorem chkB_sp {f : Nat → Bool} : ∀ (k lo : Nat), chkB f k lo = true → ∀ z, lo ≤ z → z < lo + 2 ^ k → f z = true
  | 0, lo, h, z, h1, h2 => by
    have : z = lo := by simp at h2; omega
    rw [this]; exact h
  | k + 1, lo, h, z, h1, h2 => by
    unfold chkB at h
    cases h3 : chkB f k lo with
    | false => rw [h3] at h; cases h
    | true =>
      rw [h3] at h
      have h4 : chkB f k (lo + 2 ^ k) = true := h
      have e : 2 ^ (k + 1) = 2 ^ k + 2 ^ k := by rw [Nat.pow_succ]; omega
      by_cases hz : z < lo + 2 ^ k
      · exact chkB_sp k lo h3 z h1 hz
      · exact chkB_sp k (lo + 2 ^ k) h4 z (by omega) (by omega)
def pcF (z : Nat) : Bool :=
  (fun a => (fun b => (fun c => (fun d => Nat.beq (Nat.land (Nat.add d (Nat.shiftRight d 16)) 63) (cntB z 16)) (Nat.add c (Nat.shiftRight c 8))) (Nat.land (Nat.add b (Nat.shiftRight b 4)) 252645135)) (Nat.add (Nat.land a 858993459) (Nat.land (Nat.shiftRight a 2) 858993459))) (Nat.sub z (Nat.land (Nat.shiftRight z 1) 1431655765))
theorem pcF_0 : chkB pcF 12 0 = true := by decide +kernel
theorem pcF_1 : chkB pcF 12 4096 = true := by decide +kernel
theorem pcF_2 : chkB pcF 12 8192 = true := by decide +kernel
theorem pcF_3 : chkB pcF 12 12288 = true := by decide +kernel
theorem pcF_4 : chkB pcF 12 16384 = true := by decide +kernel
theorem pcF_5 : chkB pcF 12 20480 = true := by decide +kernel
theorem pcF_6 : chkB pcF 12 24576 = true := by decide +kernel
theorem pcF_7 : chkB pcF 12 28672 = true := by decide +kernel
theorem pcF_8 : chkB pcF 12 32768 = true := by decide +kernel
theorem pcF_9 : chkB pcF 12 36864 = true := by decide +kernel
theorem pcF_10 : chkB pcF 12 40960 = true := by decide +kernel
theorem pcF_11 : chkB pcF 12 45056 = true := by decide +kernel
theorem pcF_12 : chkB pcF 12 49152 = true := by decide +kernel
theorem pcF_13 : chkB pcF 12 53248 = true := by decide +kernel
theorem pcF_14 : chkB pcF 12 57344 = true := by decide +kernel
theorem pcF_15 : chkB pcF 12 61440 = true := by decide +kernel
theorem pcF_all {z : Nat} (h : z < 65536) : pcF z = true := by
  have e : 2 ^ 12 = 4096 := rfl
  rcases (show z / 4096 = 0 ∨ z / 4096 = 1 ∨ z / 4096 = 2 ∨ z / 4096 = 3 ∨ z / 4096 = 4 ∨ z / 4096 = 5 ∨ z / 4096 = 6 ∨ z / 4096 = 7 ∨ z / 4096 = 8 ∨ z / 4096 = 9 ∨ z / 4096 = 10 ∨ z / 4096 = 11 ∨ z / 4096 = 12 ∨ z / 4096 = 13 ∨ z / 4096 = 14 ∨ z / 4096 = 15 by omega) with q | q | q | q | q | q | q | q | q | q | q | q | q | q | q | q
  · exact chkB_sp 12 0 pcF_0 z (by omega) (by rw [e]; omega)
  · exact chkB_sp 12 4096 pcF_1 z (by omega) (by rw [e]; omega)
  · exact chkB_sp 12 8192 pcF_2 z (by omega) (by rw [e]; omega)
  · exact chkB_sp 12 12288 pcF_3 z (by omega) (by rw [e]; omega)
  · exact chkB_sp 12 16384 pcF_4 z (by omega) (by rw [e]; omega)
  · exact chkB_sp 12 20480 pcF_5 z (by omega) (by rw [e]; omega)
  · exact chkB_sp 12 24576 pcF_6 z (by omega) (by rw [e]; omega)
  · exact chkB_sp 12 28672 pcF_7 z (by omega) (by rw [e]; omega)
  · exact chkB_sp 12 32768 pcF_8 z (by omega) (by rw [e]; omega)
  · exact chkB_sp 12 36864 pcF_9 z (by omega) (by rw [e]; omega)
  · exact chkB_sp 12 40960 pcF_10 z (by omega) (by rw [e]; omega)
  · exact chkB_sp 12 45056 pcF_11 z (by omega) (by rw [e]; omega)
  · exact chkB_sp 12 49152 pcF_12 z (by omega) (by rw [e]; omega)
  · exact chkB_sp 12 53248 pcF_13 z (by omega) (by rw [e]; omega)
  · exact chkB_sp 12 57344 pcF_14 z (by omega) (by rw [e]; omega)
  · exact chkB_sp 12 61440 pcF_15 z (by omega) (by rw [e]; omega)
theorem pcN_ok {z : Nat} (h : z < 65536) : pcN z = cntB z 16 := Nat.eq_of_beq_eq_true (pcF_all h)
theorem half_and (z : Nat) : (z >>> 1) &&& 1431655765 ≤ z := Nat.le_trans Nat.and_le_left (by rw [Nat.shiftRight_eq_div_pow]; exact Nat.div_le_self _ _)
theorem pc16 {z : Nat} (h : z < 65536) : jf_J6_bitCount_0f7a4 (i32 z) = some (i32 (cntB z 16 : Nat)) := by
  have k := pcN_ok h
  have ea := half_and z
  have e1 : i32 1431655765 = i32 ((1431655765 : Nat) : Int) := rfl
  have e2 : i32 858993459 = i32 ((858993459 : Nat) : Int) := rfl
  have e3 : i32 252645135 = i32 ((252645135 : Nat) : Int) := rfl
  have e4 : i32 63 = i32 ((63 : Nat) : Int) := rfl
  have l1 : i32 1 = i32 ((1 : Nat) : Int) := rfl
  have l2 : i32 2 = i32 ((2 : Nat) : Int) := rfl
  have l4 : i32 4 = i32 ((4 : Nat) : Int) := rfl
  have l8 : i32 8 = i32 ((8 : Nat) : Int) := rfl
  have l16 : i32 16 = i32 ((16 : Nat) : Int) := rfl
  have ad : ∀ a b : Nat, i32 a + i32 b = i32 ((a + b : Nat) : Int) := fun a b => by rw [i32_add]; rfl
  have sb : i32 z - i32 (((z >>> 1) &&& 1431655765 : Nat) : Int) = i32 ((z - ((z >>> 1) &&& 1431655765) : Nat) : Int) := by rw [i32_sub]; congr 1; omega
  have an : ∀ a b : Nat, a &&& b ≤ b := fun a b => Nat.and_le_right
  generalize ha : z - ((z >>> 1) &&& 1431655765) = a at sb
  have ha' : a < 4294967296 := by omega
  generalize hb : (a &&& 858993459) + ((a >>> 2) &&& 858993459) = b
  have hb' : b < 4294967296 := by have := an a 858993459; have := an (a >>> 2) 858993459; omega
  generalize hc : (b + (b >>> 4)) &&& 252645135 = c
  have hc' : c < 4294967296 := by have := an (b + (b >>> 4)) 252645135; omega
  have hc8 : c >>> 8 ≤ c := by rw [Nat.shiftRight_eq_div_pow]; exact Nat.div_le_self _ _
  have hc2 : c ≤ 252645135 := by have := an (b + (b >>> 4)) 252645135; omega
  generalize hd : c + (c >>> 8) = d
  have hd' : d < 4294967296 := by omega
  unfold jf_J6_bitCount_0f7a4
  simp only [i32_lit, e1, e2, e3, e4, l1, l2, l4, l8, l16]
  rw [i32_ush (show z < 4294967296 by omega) (show 1 < 32 by omega), i32_and, sb]
  rw [i32_ush ha' (show 2 < 32 by omega), i32_and, i32_and, ad, hb]
  rw [i32_ush hb' (show 4 < 32 by omega), ad, i32_and, hc]
  rw [i32_ush hc' (show 8 < 32 by omega), ad, hd]
  rw [i32_ush hd' (show 16 < 32 by omega), ad, i32_and]
  rw [← k]
  unfold pcN
  simp only [ha, hb, hc, hd]

/-! shadowed, tops, beside -/
def orF (f : Nat → Nat) : Nat → Nat
  | 0 => 0
  | n + 1 => orF f n ||| f n
theorem orF_cong {f g : Nat → Nat} : ∀ n, (∀ k, k < n → f k = g k) → orF f n = orF g n
  | 0, _ => rfl
  | n + 1, h => by simp only [orF, orF_cong n (fun k hk => h k (by omega)), h n (by omega)]
theorem orF_and (f : Nat → Nat) (z : Nat) : ∀ n, orF f n &&& z = orF (fun k => f k &&& z) n
  | 0 => by simp [orF]
  | n + 1 => by simp only [orF, Nat.and_or_distrib_right, orF_and f z n]
theorem orF_lt {f : Nat → Nat} {m : Nat} : ∀ n, (∀ k, k < n → f k < 2 ^ m) → orF f n < 2 ^ m
  | 0, _ => Nat.two_pow_pos _
  | n + 1, h => Nat.or_lt_two_pow (orF_lt n (fun k hk => h k (by omega))) (h n (by omega))
def hiB (x k : Nat) : Nat := (x >>> k) <<< k
theorem hiB_bit (x k i : Nat) : (hiB x k).testBit i = (decide (k ≤ i) && x.testBit i) := by
  unfold hiB
  rw [Nat.testBit_shiftLeft]
  by_cases h : k ≤ i
  · rw [Nat.testBit_shiftRight, show k + (i - k) = i by omega]
  · simp [h]
theorem hiB_lt {x k m : Nat} (h : x < 2 ^ m) : hiB x k < 2 ^ m := by
  refine Nat.lt_of_le_of_lt ?_ h
  unfold hiB
  rw [Nat.shiftLeft_eq, Nat.shiftRight_eq_div_pow]
  exact Nat.div_mul_le_self x (2 ^ k)
theorem hiB_and (x z k : Nat) : hiB x k &&& z = hiB (x &&& z) k := by
  refine Nat.eq_of_testBit_eq (fun i => ?_)
  rw [Nat.testBit_and, hiB_bit, hiB_bit, Nat.testBit_and, Bool.and_assoc]
theorem b_m2 : ∀ i, i < 32 → bt (i32 (-2)) i = decide (1 ≤ i) := by decide +kernel
theorem b_m1' : ∀ i, i < 32 → bt (i32 (-1)) i = true := by decide +kernel
theorem i32_hi1 (x : Nat) {k : Nat} (hk : k < 32) : i32 x &&& (i32 (-1) <<< (i32 (k : Nat) &&& i32 31)) = i32 (hiB x k : Nat) := by
  refine b_ext (fun i hi => ?_)
  rw [b_and, bt_i _ hi, bt_i _ hi, show i32 (k : Nat) &&& i32 31 = nI k &&& 31 from rfl, b_shl k hk _ hi, b_m1' _ (by omega), hiB_bit, Bool.and_true, Bool.and_comm]
theorem i32_hi2 (x : Nat) {k : Nat} (hk : k < 31) : i32 x &&& (i32 (-2) <<< (i32 (k : Nat) &&& i32 31)) = i32 (hiB x (k + 1) : Nat) := by
  refine b_ext (fun i hi => ?_)
  rw [b_and, bt_i _ hi, bt_i _ hi, show i32 (k : Nat) &&& i32 31 = nI k &&& 31 from rfl, b_shl k (by omega) _ hi, b_m2 _ (by omega), hiB_bit, Bool.and_comm]
  congr 1
  by_cases h : k + 1 ≤ i
  · rw [decide_eq_true h, decide_eq_true (show k ≤ i by omega), decide_eq_true (show 1 ≤ i - k by omega)]; rfl
  · rw [decide_eq_false h, decide_eq_false (show ¬ 1 ≤ i - k by omega), Bool.and_false]
theorem i32_clr (x : Nat) {k : Nat} (hk : k < 31) : i32 x &&& ((i32 1 <<< (i32 (k : Nat) &&& i32 31)) ^^^ i32 (-1)) = i32 ((x ^^^ (x &&& 2 ^ k) : Nat) : Int) := by
  refine b_ext (fun i hi => ?_)
  rw [show i32 31 = (31 : Int32) from rfl, i32_shl1 k hk, b_and, b_xor, bt_i _ hi, bt_i _ hi, bt_i _ hi, b_m1' _ hi, Nat.testBit_xor, Nat.testBit_and]
  cases x.testBit i <;> cases (2 ^ k).testBit i <;> rfl
section OPC
variable {ty : xTy} {N M : Nat} {hA hB h0 : xH} {mm mi : Nat → Nat} {c : CS} {I : Nat → Int32} {A : Nat → Nat → Int32} {J : Nat → Int64} {g : Sg}
theorem abN_lt (hg : gwf g) (r : Nat) : abN (gb g) r < 2 ^ 16 := bitsF_16 hg.1.2.2.1
def shF (g : Sg) (r : Nat) : Nat := if inR (gin g) r then hiB (abN (gb g) r) (r + 1) else 0
def shG (g : Sg) (r : Nat) : Nat := if inR (gin g) r then hiB (abN (gb g) r &&& gin g) (r + 1) else 0
theorem k_sh4 (C : CH ty N) (hg : gwf g) : ∀ (k r : Nat) (c : CS), r + k = bnr (gb g) → CRep c g →
    ∃ n c', jf_X11_shadowed_4 ty n (N + 0) (i32 (orF (shF g) r : Nat)) (i32 r) (cst N h0 c) = some (i32 ((orF (shF g) (bnr (gb g)) &&& gin g : Nat) : Int), cst N h0 c') ∧ fr 241 257 c c' := by
  have h16 := hg.1.2.2.1
  intro k
  induction k with
  | zero =>
    intro r c h1 hc
    refine ⟨1, c, ?_, fr.rf⟩
    rw [jf_X11_shadowed_4_s]
    simp (disch := omega) only [k_book C hc.1, xbs, k_bn hc, i32_lit, i32_neg, i32_add, i32_sub, i32_mul, i32_lt, i32_le, i32_eq, if_pos, k_sub C hc.1 (show (0, 9, 232) ∈ lyL by decide) (by omega) (show ct 232 = some (0, 6) by decide), kI, hc.2.2.2.1.1, i32_and]
    rw [show r = bnr (gb g) by omega]
  | succ k ih =>
    intro r c h1 hc
    have hr : r < bnr (gb g) := by omega
    have hhead : ∀ n, jf_X11_shadowed_4 ty (n + 1) (N + 0) (i32 (orF (shF g) r : Nat)) (i32 r) (cst N h0 c) = if inR (gin g) r = false then jf_X11_shadowed_4 ty n (N + 0) (i32 (orF (shF g) r : Nat)) (i32 ((r + 1 : Nat) : Int)) (cst N h0 c) else xb2 (jf_X11_aboveBits ty (cst N h0 c) (N + 0) (i32 r)) fun a8 h7 => (jf_X11_bitsBehind (i32 r)).bind fun a9 => jf_X11_shadowed_4 ty n (N + 0) (i32 (orF (shF g) r : Nat) ||| (a8 &&& a9)) (i32 ((r + 1 : Nat) : Int)) h7 := by
      intro n
      rw [jf_X11_shadowed_4_s]
      simp (disch := omega) only [k_book C hc.1, xbs, k_bn hc, i32_lit, i32_neg, i32_add, i32_sub, i32_mul, i32_lt, i32_le, i32_eq, if_neg, k_sub C hc.1 (show (0, 9, 232) ∈ lyL by decide) (by omega) (show ct 232 = some (0, 6) by decide), k_isIn hg.z hc.2.2.2.1, bI_eq0]
      rw [show (r : Int) + 1 = ((r + 1 : Nat) : Int) by omega]
    cases hin : inR (gin g) r with
    | false =>
      obtain ⟨n, c', q1, q2⟩ := ih (r + 1) c (by omega) hc
      refine ⟨n + 1, c', ?_, q2⟩
      rw [hhead, if_pos hin, ← q1]
      simp [orF, shF, hin]
    | true =>
      obtain ⟨c1, p1, p2⟩ := k_ab (h0 := h0) C hg hc hr
      obtain ⟨n, c', q1, q2⟩ := ih (r + 1) c1 (by omega) (hc.fr hg p2 (by omega))
      refine ⟨n + 1, c', ?_, p2.tr q2⟩
      rw [hhead, if_neg (by rw [hin]; decide), p1]
      unfold jf_X11_bitsBehind
      simp only [xb2s, xbs, i32_lit, i32_neg, i32_add, i32_sub, i32_mul, i32_lt, i32_le, i32_eq]
      rw [i32_hi2 _ (show r < 31 by omega), i32_or, ← q1]
      simp [orF, shF, hin]
theorem r_sh9 (H : MH ty M mm mi h0) (hg : gwf g) : ∀ (k r : Nat) (I : Nat → Int32) (A : Nat → Nat → Int32), r + k = bnr (gb g) → RRep I A g →
    ∃ n I' A', jf_X12_shadowed_9 ty n M (i32 (orF (shG g) r : Nat)) (i32 r) (rst mm mi h0 M I A J) = some (i32 (orF (shG g) (bnr (gb g)) : Nat), rst mm mi h0 M I' A' J) ∧ (∀ k, k ≠ 33 → I' k = I k) ∧ keepA A A' := by
  have h16 := hg.1.2.2.1
  intro k
  induction k with
  | zero =>
    intro r I A h1 hR
    refine ⟨1, I, A, ?_, fun _ _ => rfl, keepA.rf⟩
    rw [jf_X12_shadowed_9_s]
    simp (disch := omega) only [rI, hR.1.2.2.1, i32_lit, i32_neg, i32_add, i32_sub, i32_mul, i32_lt, i32_le, i32_eq, if_pos]
    rw [show r = bnr (gb g) by omega]
  | succ k ih =>
    intro r I A h1 hR
    have hr : r < bnr (gb g) := by omega
    cases hin : inR (gin g) r with
    | false =>
      obtain ⟨n, I', A', q1, q2, q3⟩ := ih (r + 1) I A (by omega) hR
      refine ⟨n + 1, I', A', ?_, q2, q3⟩
      rw [jf_X12_shadowed_9_s]
      simp (disch := omega) only [rI, hR.1.2.2.1, i32_lit, i32_neg, i32_add, i32_sub, i32_mul, i32_lt, i32_le, i32_eq, if_neg, r_isInNow hg.z hR.2.1, xbs, hin, bI_eq0, if_true, or_zero]
      rw [show (r : Int) + 1 = ((r + 1 : Nat) : Int) by omega, ← q1]
      simp [orF, shG, hin]
    | true =>
      obtain ⟨I1, A1, p1, p2, p3⟩ := r_ab (I := I) (A := A) (J := J) H hg.1 hR.1 hr
      have hR1 : RRep I1 A1 g := hR.ks (fun k h _ _ => p2 k h) p3
      obtain ⟨n, I', A', q1, q2, q3⟩ := ih (r + 1) I1 A1 (by omega) hR1
      refine ⟨n + 1, I', A', ?_, fun k hk => (q2 k hk).trans (p2 k hk), p3.tr q3⟩
      rw [jf_X12_shadowed_9_s]
      simp (disch := omega) only [rI, hR.1.2.2.1, i32_lit, i32_neg, i32_add, i32_sub, i32_mul, i32_lt, i32_le, i32_eq, if_neg, r_isInNow hg.z hR.2.1, xbs, hin, bI_eq0, Bool.true_eq_false, if_false, p1, xb2s, hR1.2.1, i32_and]
      rw [show (r : Int) + 1 = ((r + 1 : Nat) : Int) by omega, i32_hi1 _ (show r + 1 < 32 by omega), i32_or, ← q1]
      simp [orF, shG, hin]
theorem op_shadowed (C : CH ty N) (H : MH ty M mm mi hB) (hg : gwf g) (hc : CRep c g) (hr : RRep I A g) :
    OP N hA mm mi hB M J g (jf_X11_shadowed ty (cst N hA c) (N + 0)) (jf_X12_shadowed ty (rst mm mi hB M I A J) M) := by
  have I2 : ∀ k, k ≠ 33 → k ≠ 2 → k ≠ 39 → fu I 2 (i32 0) k = I k := fun k _ h _ => fu_ne _ _ h
  have hr2 : RRep (fu I 2 (i32 0)) A g := hr.ks I2 keepA.rf
  obtain ⟨n, c', q1, q2⟩ := k_sh4 (h0 := hA) C hg (bnr (gb g)) 0 c (by omega) hc
  obtain ⟨n', I', A', p1, p2, p3⟩ := r_sh9 (J := J) H hg (bnr (gb g)) 0 _ _ (by omega) hr2
  have e : orF (shF g) (bnr (gb g)) &&& gin g = orF (shG g) (bnr (gb g)) := by
    rw [orF_and]
    refine orF_cong _ (fun k _ => ?_)
    unfold shF shG
    cases inR (gin g) k
    · simp
    · simp only [if_true]
      exact hiB_and _ _ _
  rw [e] at q1
  refine ⟨_, c', I', A', jf_X11_shadowed_4_l q1, hc.fr hg q2 (by omega), ?_, hr2.ks (fun k h _ _ => p2 k h) p3, by rw [p2 2 (by decide), fu_same]⟩
  unfold jf_X12_shadowed
  simp only [rsI, xbs, i32_lit, i32_neg, i32_add, i32_sub, i32_mul, i32_lt, i32_le, i32_eq]
  exact jf_X12_shadowed_9_l p1
end OPC

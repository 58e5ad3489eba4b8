/-! depth -/
def enc (ar : Nat → Nat) (T : List Nat) (p a : Nat) : Nat := if p < a + skipN ar 1 (T.drop a) then 1 else 0
def mxF (f : Nat → Nat) : Nat → Nat
  | 0 => 0
  | n + 1 => max (mxF f n) (f n)
def lvl (ar : Nat → Nat) (T : List Nat) (p : Nat) : Nat := 1 + sumF (enc ar T p) p
theorem enc_le (ar : Nat → Nat) (T : List Nat) (p a : Nat) : enc ar T p a ≤ 1 := by unfold enc; split <;> omega
theorem lvl_le (ar : Nat → Nat) (T : List Nat) (p : Nat) : lvl ar T p ≤ 1 + p := by
  have := sumF_le (enc_le ar T p) p
  unfold lvl
  omega
theorem mxF_le {f : Nat → Nat} {m : Nat} : ∀ n, (∀ k, k < n → f k ≤ m) → mxF f n ≤ m
  | 0, _ => Nat.zero_le _
  | n + 1, h => by
    have := mxF_le n (fun k hk => h k (by omega))
    have := h n (by omega)
    simp only [mxF]
    omega
theorem skip_le (ar : Nat → Nat) : ∀ (L : List Nat) (o : Nat), skipN ar o L ≤ L.length := by
  intro L
  induction L with
  | nil => intro o; cases o <;> simp [skipN]
  | cons d L ih =>
    intro o
    cases o with
    | zero => simp [skipN]
    | succ o =>
      have := ih (o + ar d)
      simp only [skipN, List.length_cons]
      omega
section OPS
variable {ty : xTy} {N M : Nat} {hA hB h0 : xH} {mm mi : Nat → Nat} {c : CS} {I : Nat → Int32} {A : Nat → Nat → Int32} {J : Nat → Int64} {g : Sg} {b : Bk}
theorem k_lv17 (C : CH ty N) {T : List Nat} {t rt : Nat} {ar : Nat → Nat} (iT : isT c t rt ar T) (ha : ∀ d ∈ T, ar d ≤ 3) {p m : Nat} (hp : p < T.length) (hm : m ≤ 100) {k4 : Nat → Int32 → Int32 → Option Int32} : ∀ (j a : Nat), a + j = p → jf_X7_levels_17 ty (cst N h0 c) k4 (j + 1) (N + t) (i32 m) (i32 p) (i32 ((1 + sumF (enc ar T p) a : Nat) : Int)) (i32 a) = k4 (N + t) (i32 ((max m (lvl ar T p) : Nat) : Int)) (i32 ((p + 1 : Nat) : Int)) := by
  have h60 : T.length ≤ 60 := by have := iT.2.2.2.2.2; omega
  intro j
  induction j with
  | zero =>
    intro a h1
    obtain rfl : a = p := by omega
    have hl := lvl_le ar T a
    rw [jf_X7_levels_17_s]
    simp (disch := omega) only [i32_lit, i32_neg, i32_add, i32_sub, i32_mul, i32_lt, i32_le, i32_eq, if_pos]
    rw [show (1 + sumF (enc ar T a) a) = lvl ar T a from rfl, xmax_i (by omega) (by omega) (by omega) (by omega), show max (m : Int) (lvl ar T a : Int) = ((max m (lvl ar T a) : Nat) : Int) by omega, show (a : Int) + 1 = ((a + 1 : Nat) : Int) by omega]
  | succ j ih =>
    intro a h1
    have hs := sumF_le (enc_le ar T p) a
    have hb := t_behind (h0 := h0) C iT ha (show a ≤ T.length by omega)
    have hk := skip_le ar (T.drop a) 1
    rw [List.length_drop] at hk
    rw [jf_X7_levels_17_s]
    simp (disch := omega) only [i32_lit, i32_neg, i32_add, i32_sub, i32_mul, i32_lt, i32_le, i32_eq, if_neg, hb, xbs]
    rw [show (a : Int) + 1 = ((a + 1 : Nat) : Int) by omega]
    have := ih (a + 1) (by omega)
    by_cases hw : ((a + skipN ar 1 (T.drop a) : Nat) : Int) ≤ (p : Int)
    · have he : enc ar T p a = 0 := by unfold enc; rw [if_neg (by omega)]
      simp only [sumF, he, Nat.add_zero] at this
      simp only [eq_true hw, if_true]
      exact this
    · have he : enc ar T p a = 1 := by unfold enc; rw [if_pos (by omega)]
      simp only [sumF, he] at this
      simp only [eq_false hw, if_false]
      rw [show ((1 + sumF (enc ar T p) a : Nat) : Int) + 1 = ((1 + (sumF (enc ar T p) a + 1) : Nat) : Int) by omega]
      exact this
theorem k_lv4 (C : CH ty N) {T : List Nat} {t rt : Nat} {ar : Nat → Nat} (iT : isT c t rt ar T) (ha : ∀ d ∈ T, ar d ≤ 3) : ∀ (j p : Nat), p + j = T.length → jf_X7_levels_4 ty (cst N h0 c) (j + 1) (N + t) (i32 (mxF (lvl ar T) p : Nat)) (i32 p) = some (i32 (mxF (lvl ar T) T.length : Nat)) := by
  have h60 : T.length ≤ 60 := by have := iT.2.2.2.2.2; omega
  have hlt := ct_lt iT.1
  intro j
  induction j with
  | zero =>
    intro p h1
    rw [jf_X7_levels_4_s]
    simp (disch := omega) only [kI hlt, iT.2.2.2.2.2.2.2.1, i32_lit, i32_neg, i32_add, i32_sub, i32_mul, i32_lt, i32_le, i32_eq, if_pos]
    rw [show p = T.length by omega]
  | succ j ih =>
    intro p h1
    have hm : mxF (lvl ar T) p ≤ 100 := mxF_le p (fun k hk => by have := lvl_le ar T k; omega)
    rw [jf_X7_levels_4_s]
    simp (disch := omega) only [kI hlt, iT.2.2.2.2.2.2.2.1, i32_lit, i32_neg, i32_add, i32_sub, i32_mul, i32_lt, i32_le, i32_eq, if_neg]
    exact jf_X7_levels_17_l ((k_lv17 (h0 := h0) C iT ha (show p < T.length by omega) hm p 0 (by omega)).trans (ih (p + 1) (by omega)))
end OPS

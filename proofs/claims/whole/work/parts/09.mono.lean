theorem xbd_mono {α β : Type} {x : Option α} {f g : α → Option β} {r : β} (h : x.bind f = some r) (k : ∀ a, f a = some r → g a = some r) : x.bind g = some r := by
  cases x with
  | none => cases h
  | some a => exact k a h
theorem xb2_mono {α β γ : Type} {x : Option (α × β)} {f g : α → β → Option γ} {r : γ} (h : xb2 x f = some r) (k : ∀ a b, f a b = some r → g a b = some r) : xb2 x g = some r := by
  rcases x with _ | ⟨a, b⟩
  · cases h
  · exact k a b h
theorem xif_mono {α : Type} {c : Prop} {i1 : Decidable c} {a b a' b' : Option α} {r : α} (h : (if c then a else b) = some r) (k1 : a = some r → a' = some r) (k2 : b = some r → b' = some r) : (if c then a' else b') = some r := by
  by_cases hc : c
  · rw [if_pos hc] at h ⊢; exact k1 h
  · rw [if_neg hc] at h ⊢; exact k2 h
theorem xlim_up {β : Type} {f : Nat → Option β} {r : β} (h : xlim f = some r) : ∃ N, ∀ n, N ≤ n → f n = some r := by
  unfold xlim at h
  split at h
  · rename_i q
    obtain ⟨N, hN⟩ := Classical.choose_spec q
    exact ⟨N, fun n hn => by rw [hN n hn]; exact h⟩
  · cases h
theorem xlim_mono {β : Type} {f g : Nat → Option β} {r : β} (h : xlim f = some r) (k : ∀ n, f n = some r → g n = some r) : xlim g = some r := by
  obtain ⟨N, hN⟩ := xlim_up h
  exact xlim_of N (fun n hn => k n (hN n hn))
theorem xlim_at {β : Type} {f : Nat → Option β} (hm : ∀ n r, f n = some r → f (n + 1) = some r) {n : Nat} {r : β} (h : f n = some r) : xlim f = some r := by
  refine xlim_of n (fun k hk => ?_)
  induction hk with
  | refl => exact h
  | step _ ih => exact hm _ _ ih
theorem jf_X0_placeOf_2_m {ty : xTy} {h : xH} {r : Int32} : ∀ (n : Nat) (v0 : Nat) (v1 : Int32) (v2 : Int32) (v3 : Int32), jf_X0_placeOf_2 ty h n v0 v1 v2 v3 = some r → jf_X0_placeOf_2 ty h (n + 1) v0 v1 v2 v3 = some r := by
  intro n
  induction n with
  | zero => intro v0 v1 v2 v3 h9; cases h9
  | succ n hm2 =>
    intro v0 v1 v2 v3 h9
    rw [jf_X0_placeOf_2_s] at h9 ⊢
    exact (fun h9 => xif_mono h9 (fun h9 => h9) (fun h9 => xbd_mono h9 (fun _ => (fun h9 => xif_mono h9 (fun h9 => h9) (fun h9 => xbd_mono h9 (fun _ => (fun h9 => xif_mono h9 (fun h9 => h9) (hm2 _ _ _ _)))))))) h9
theorem jf_X0_placeOf_2_l {ty : xTy} {h : xH} {v0 : Nat} {v1 : Int32} {v2 : Int32} {v3 : Int32} {r : Int32} {n : Nat} (h9 : jf_X0_placeOf_2 ty h n v0 v1 v2 v3 = some r) : (xlim fun n => jf_X0_placeOf_2 ty h n v0 v1 v2 v3) = some r := xlim_at (fun n _ => jf_X0_placeOf_2_m n _ _ _ _) h9
theorem jf_X0_plainCode_2_m {ty : xTy} {h : xH} {r : Int32} : ∀ (n : Nat) (v0 : Nat) (v1 : Int32), jf_X0_plainCode_2 ty h n v0 v1 = some r → jf_X0_plainCode_2 ty h (n + 1) v0 v1 = some r := by
  intro n
  induction n with
  | zero => intro v0 v1 h9; cases h9
  | succ n hm2 =>
    intro v0 v1 h9
    rw [jf_X0_plainCode_2_s] at h9 ⊢
    exact (fun h9 => xif_mono h9 (fun h9 => h9) (fun h9 => xbd_mono h9 (fun _ => (fun h9 => xif_mono h9 (fun h9 => h9) (hm2 _ _))))) h9
theorem jf_X0_plainCode_2_l {ty : xTy} {h : xH} {v0 : Nat} {v1 : Int32} {r : Int32} {n : Nat} (h9 : jf_X0_plainCode_2 ty h n v0 v1 = some r) : (xlim fun n => jf_X0_plainCode_2 ty h n v0 v1) = some r := xlim_at (fun n _ => jf_X0_plainCode_2_m n _ _) h9
theorem jf_X0_places_4_m {ty : xTy} {h : xH} {r : Int32} : ∀ (n : Nat) (v0 : Nat) (v1 : Int32) (v2 : Int32), jf_X0_places_4 ty h n v0 v1 v2 = some r → jf_X0_places_4 ty h (n + 1) v0 v1 v2 = some r := by
  intro n
  induction n with
  | zero => intro v0 v1 v2 h9; cases h9
  | succ n hm4 =>
    intro v0 v1 v2 h9
    rw [jf_X0_places_4_s] at h9 ⊢
    exact (fun h9 => xif_mono h9 (fun h9 => h9) (fun h9 => xbd_mono h9 (fun _ => (fun h9 => xbd_mono h9 (fun _ => (hm4 _ _ _)))))) h9
theorem jf_X0_places_4_l {ty : xTy} {h : xH} {v0 : Nat} {v1 : Int32} {v2 : Int32} {r : Int32} {n : Nat} (h9 : jf_X0_places_4 ty h n v0 v1 v2 = some r) : (xlim fun n => jf_X0_places_4 ty h n v0 v1 v2) = some r := xlim_at (fun n _ => jf_X0_places_4_m n _ _ _) h9
theorem jf_X1_drawTerm_97_k {ty : xTy} {k26 k26' : Nat → Nat → Nat → Int32 → Int32 → Int32 → xH → Option (Int32 × xH)} {r : Int32 × xH} (hm26 : ∀ (v0 : Nat) (v1 : Nat) (v2 : Nat) (v3 : Int32) (v4 : Int32) (v5 : Int32) (h : xH), k26 v0 v1 v2 v3 v4 v5 h = some r → k26' v0 v1 v2 v3 v4 v5 h = some r) : ∀ (v0 : Nat) (v1 : Nat) (v2 : Nat) (v3 : Int32) (v4 : Int32) (v5 : Int32) (v7 : Int32) (h : xH), jf_X1_drawTerm_97 ty k26 v0 v1 v2 v3 v4 v5 v7 h = some r → jf_X1_drawTerm_97 ty k26' v0 v1 v2 v3 v4 v5 v7 h = some r := by
  intro v0 v1 v2 v3 v4 v5 v7 h h9
  unfold jf_X1_drawTerm_97 at h9 ⊢
  exact (fun h9 => xif_mono h9 (fun h9 => h9) (fun h9 => xbd_mono h9 (fun _ => (fun h9 => xb2_mono h9 (fun _ _ => (fun h9 => xbd_mono h9 (fun _ => (hm26 _ _ _ _ _ _ _)))))))) h9
theorem jf_X1_drawTerm_70_k {ty : xTy} {k26 k26' : Nat → Nat → Nat → Int32 → Int32 → Int32 → xH → Option (Int32 × xH)} {r : Int32 × xH} (hm26 : ∀ (v0 : Nat) (v1 : Nat) (v2 : Nat) (v3 : Int32) (v4 : Int32) (v5 : Int32) (h : xH), k26 v0 v1 v2 v3 v4 v5 h = some r → k26' v0 v1 v2 v3 v4 v5 h = some r) : ∀ (v0 : Nat) (v1 : Nat) (v2 : Nat) (v3 : Int32) (v4 : Int32) (v5 : Int32) (s0 : Int32) (h : xH), jf_X1_drawTerm_70 ty k26 v0 v1 v2 v3 v4 v5 s0 h = some r → jf_X1_drawTerm_70 ty k26' v0 v1 v2 v3 v4 v5 s0 h = some r := by
  intro v0 v1 v2 v3 v4 v5 s0 h h9
  unfold jf_X1_drawTerm_70 at h9 ⊢
  exact (fun h9 => xbd_mono h9 (fun _ => (fun h9 => xif_mono h9 (jf_X1_drawTerm_97_k hm26 _ _ _ _ _ _ _ _) (fun h9 => xbd_mono h9 (fun _ => (jf_X1_drawTerm_97_k hm26 _ _ _ _ _ _ _ _)))))) h9
theorem jf_X1_drawTerm_26_m {ty : xTy} {r : Int32 × xH} : ∀ (n : Nat) (v0 : Nat) (v1 : Nat) (v2 : Nat) (v3 : Int32) (v4 : Int32) (v5 : Int32) (h : xH), jf_X1_drawTerm_26 ty n v0 v1 v2 v3 v4 v5 h = some r → jf_X1_drawTerm_26 ty (n + 1) v0 v1 v2 v3 v4 v5 h = some r := by
  intro n
  induction n with
  | zero => intro v0 v1 v2 v3 v4 v5 h h9; cases h9
  | succ n hm26 =>
    intro v0 v1 v2 v3 v4 v5 h h9
    rw [jf_X1_drawTerm_26_s] at h9 ⊢
    exact (fun h9 => xif_mono h9 (fun h9 => h9) (fun h9 => xif_mono h9 (fun h9 => h9) (fun h9 => xb2_mono h9 (fun _ _ => (fun h9 => xbd_mono h9 (fun _ => (fun h9 => xif_mono h9 (jf_X1_drawTerm_70_k hm26 _ _ _ _ _ _ _ _) (jf_X1_drawTerm_70_k hm26 _ _ _ _ _ _ _ _)))))))) h9
theorem jf_X1_drawTerm_26_l {ty : xTy} {v0 : Nat} {v1 : Nat} {v2 : Nat} {v3 : Int32} {v4 : Int32} {v5 : Int32} {h : xH} {r : Int32 × xH} {n : Nat} (h9 : jf_X1_drawTerm_26 ty n v0 v1 v2 v3 v4 v5 h = some r) : (xlim fun n => jf_X1_drawTerm_26 ty n v0 v1 v2 v3 v4 v5 h) = some r := xlim_at (fun n _ => jf_X1_drawTerm_26_m n _ _ _ _ _ _ _) h9
theorem jf_X7_behind_4_m {ty : xTy} {h : xH} {r : Int32} : ∀ (n : Nat) (v0 : Nat) (v2 : Int32) (v3 : Int32), jf_X7_behind_4 ty h n v0 v2 v3 = some r → jf_X7_behind_4 ty h (n + 1) v0 v2 v3 = some r := by
  intro n
  induction n with
  | zero => intro v0 v2 v3 h9; cases h9
  | succ n hm4 =>
    intro v0 v2 v3 h9
    rw [jf_X7_behind_4_s] at h9 ⊢
    exact (fun h9 => xif_mono h9 (fun h9 => h9) (fun h9 => xif_mono h9 (fun h9 => h9) (fun h9 => xif_mono h9 (fun h9 => h9) (fun h9 => xbd_mono h9 (fun _ => (fun h9 => xbd_mono h9 (fun _ => (hm4 _ _ _)))))))) h9
theorem jf_X7_behind_4_l {ty : xTy} {h : xH} {v0 : Nat} {v2 : Int32} {v3 : Int32} {r : Int32} {n : Nat} (h9 : jf_X7_behind_4 ty h n v0 v2 v3 = some r) : (xlim fun n => jf_X7_behind_4 ty h n v0 v2 v3) = some r := xlim_at (fun n _ => jf_X7_behind_4_m n _ _ _) h9
theorem jf_X7_isAlike_11_m {ty : xTy} {h : xH} {r : Int32} : ∀ (n : Nat) (v0 : Nat) (v1 : Int32) (v2 : Int32) (v3 : Int32) (v4 : Int32), jf_X7_isAlike_11 ty h n v0 v1 v2 v3 v4 = some r → jf_X7_isAlike_11 ty h (n + 1) v0 v1 v2 v3 v4 = some r := by
  intro n
  induction n with
  | zero => intro v0 v1 v2 v3 v4 h9; cases h9
  | succ n hm11 =>
    intro v0 v1 v2 v3 v4 h9
    rw [jf_X7_isAlike_11_s] at h9 ⊢
    exact (fun h9 => xif_mono h9 (fun h9 => h9) (fun h9 => xbd_mono h9 (fun _ => (fun h9 => xbd_mono h9 (fun _ => (fun h9 => xif_mono h9 (hm11 _ _ _ _ _) (fun h9 => h9))))))) h9
theorem jf_X7_isAlike_11_l {ty : xTy} {h : xH} {v0 : Nat} {v1 : Int32} {v2 : Int32} {v3 : Int32} {v4 : Int32} {r : Int32} {n : Nat} (h9 : jf_X7_isAlike_11 ty h n v0 v1 v2 v3 v4 = some r) : (xlim fun n => jf_X7_isAlike_11 ty h n v0 v1 v2 v3 v4) = some r := xlim_at (fun n _ => jf_X7_isAlike_11_m n _ _ _ _ _) h9
theorem jf_X2_pairNumber_3_m {ty : xTy} {r : Int32 × xH} : ∀ (n : Nat) (v0 : Nat) (v1 : Nat) (v2 : Int32) (v3 : Nat) (v4 : Int32) (v5 : Int32) (h : xH), jf_X2_pairNumber_3 ty n v0 v1 v2 v3 v4 v5 h = some r → jf_X2_pairNumber_3 ty (n + 1) v0 v1 v2 v3 v4 v5 h = some r := by
  intro n
  induction n with
  | zero => intro v0 v1 v2 v3 v4 v5 h h9; cases h9
  | succ n hm3 =>
    intro v0 v1 v2 v3 v4 v5 h h9
    rw [jf_X2_pairNumber_3_s] at h9 ⊢
    exact (fun h9 => xif_mono h9 (fun h9 => h9) (fun h9 => xbd_mono h9 (fun _ => (fun h9 => xbd_mono h9 (fun _ => (fun h9 => xbd_mono h9 (fun _ => (fun h9 => xif_mono h9 (hm3 _ _ _ _ _ _ _) (fun h9 => xbd_mono h9 (fun _ => (fun h9 => xbd_mono h9 (fun _ => (fun h9 => xbd_mono h9 (fun _ => (fun h9 => xif_mono h9 (hm3 _ _ _ _ _ _ _) (fun h9 => h9)))))))))))))))) h9
theorem jf_X2_pairNumber_3_l {ty : xTy} {v0 : Nat} {v1 : Nat} {v2 : Int32} {v3 : Nat} {v4 : Int32} {v5 : Int32} {h : xH} {r : Int32 × xH} {n : Nat} (h9 : jf_X2_pairNumber_3 ty n v0 v1 v2 v3 v4 v5 h = some r) : (xlim fun n => jf_X2_pairNumber_3 ty n v0 v1 v2 v3 v4 v5 h) = some r := xlim_at (fun n _ => jf_X2_pairNumber_3_m n _ _ _ _ _ _ _) h9
theorem jf_X2_joinedShape_84_k {ty : xTy} {k20 k20' : Nat → Nat → Nat → Int32 → Int32 → Int32 → xH → Option (Nat × xH)} {r : Nat × xH} (hm20 : ∀ (v0 : Nat) (v1 : Nat) (v2 : Nat) (v3 : Int32) (v4 : Int32) (v5 : Int32) (h : xH), k20 v0 v1 v2 v3 v4 v5 h = some r → k20' v0 v1 v2 v3 v4 v5 h = some r) : ∀ (v0 : Nat) (v1 : Nat) (v2 : Nat) (v3 : Int32) (v4 : Int32) (v5 : Int32) (h : xH), jf_X2_joinedShape_84 ty k20 v0 v1 v2 v3 v4 v5 h = some r → jf_X2_joinedShape_84 ty k20' v0 v1 v2 v3 v4 v5 h = some r := by
  intro v0 v1 v2 v3 v4 v5 h h9
  unfold jf_X2_joinedShape_84 at h9 ⊢
  exact (fun h9 => xbd_mono h9 (fun _ => (fun h9 => xb2_mono h9 (fun _ _ => (fun h9 => xb2_mono h9 (fun _ _ => (fun h9 => xbd_mono h9 (fun _ => (fun h9 => xbd_mono h9 (fun _ => (hm20 _ _ _ _ _ _ _))))))))))) h9
theorem jf_X2_joinedShape_20_m {ty : xTy} {r : Nat × xH} : ∀ (n : Nat) (v0 : Nat) (v1 : Nat) (v2 : Nat) (v3 : Int32) (v4 : Int32) (v5 : Int32) (h : xH), jf_X2_joinedShape_20 ty n v0 v1 v2 v3 v4 v5 h = some r → jf_X2_joinedShape_20 ty (n + 1) v0 v1 v2 v3 v4 v5 h = some r := by
  intro n
  induction n with
  | zero => intro v0 v1 v2 v3 v4 v5 h h9; cases h9
  | succ n hm20 =>
    intro v0 v1 v2 v3 v4 v5 h h9
    rw [jf_X2_joinedShape_20_s] at h9 ⊢
    exact (fun h9 => xif_mono h9 (fun h9 => h9) (fun h9 => xif_mono h9 (fun h9 => h9) (fun h9 => xbd_mono h9 (fun _ => (fun h9 => xif_mono h9 (jf_X2_joinedShape_84_k hm20 _ _ _ _ _ _ _) (fun h9 => xbd_mono h9 (fun _ => (fun h9 => xif_mono h9 (fun h9 => xbd_mono h9 (fun _ => (fun h9 => xbd_mono h9 (fun _ => (fun h9 => xb2_mono h9 (fun _ _ => (hm20 _ _ _ _ _ _ _))))))) (jf_X2_joinedShape_84_k hm20 _ _ _ _ _ _ _))))))))) h9
theorem jf_X2_joinedShape_20_l {ty : xTy} {v0 : Nat} {v1 : Nat} {v2 : Nat} {v3 : Int32} {v4 : Int32} {v5 : Int32} {h : xH} {r : Nat × xH} {n : Nat} (h9 : jf_X2_joinedShape_20 ty n v0 v1 v2 v3 v4 v5 h = some r) : (xlim fun n => jf_X2_joinedShape_20 ty n v0 v1 v2 v3 v4 v5 h) = some r := xlim_at (fun n _ => jf_X2_joinedShape_20_m n _ _ _ _ _ _ _) h9
theorem jf_X3_matches_30_m {ty : xTy} {r : Int32 × xH} : ∀ (n : Nat) (v0 : Nat) (v1 : Nat) (v2 : Nat) (v4 : Int32) (v5 : Int32) (h : xH), jf_X3_matches_30 ty n v0 v1 v2 v4 v5 h = some r → jf_X3_matches_30 ty (n + 1) v0 v1 v2 v4 v5 h = some r := by
  intro n
  induction n with
  | zero => intro v0 v1 v2 v4 v5 h h9; cases h9
  | succ n hm30 =>
    intro v0 v1 v2 v4 v5 h h9
    rw [jf_X3_matches_30_s] at h9 ⊢
    exact (fun h9 => xif_mono h9 (fun h9 => h9) (fun h9 => xbd_mono h9 (fun _ => (fun h9 => xif_mono h9 (fun h9 => xif_mono h9 (fun h9 => xbd_mono h9 (fun _ => (fun h9 => xif_mono h9 (hm30 _ _ _ _ _ _) (fun h9 => h9)))) (fun h9 => xb2_mono h9 (fun _ _ => (fun h9 => xif_mono h9 (fun h9 => h9) (fun h9 => xbd_mono h9 (fun _ => (hm30 _ _ _ _ _ _))))))) (fun h9 => h9))))) h9
theorem jf_X3_matches_30_l {ty : xTy} {v0 : Nat} {v1 : Nat} {v2 : Nat} {v4 : Int32} {v5 : Int32} {h : xH} {r : Int32 × xH} {n : Nat} (h9 : jf_X3_matches_30 ty n v0 v1 v2 v4 v5 h = some r) : (xlim fun n => jf_X3_matches_30 ty n v0 v1 v2 v4 v5 h) = some r := xlim_at (fun n _ => jf_X3_matches_30_m n _ _ _ _ _ _) h9
theorem jf_X3_matches_3_m {ty : xTy} {r : Int32 × xH} : ∀ (n : Nat) (v0 : Nat) (v1 : Nat) (v2 : Nat) (v3 : Int32) (v4 : Int32) (h : xH), jf_X3_matches_3 ty n v0 v1 v2 v3 v4 h = some r → jf_X3_matches_3 ty (n + 1) v0 v1 v2 v3 v4 h = some r := by
  intro n
  induction n with
  | zero => intro v0 v1 v2 v3 v4 h h9; cases h9
  | succ n hm3 =>
    intro v0 v1 v2 v3 v4 h h9
    rw [jf_X3_matches_3_s] at h9 ⊢
    exact (fun h9 => xif_mono h9 (fun h9 => h9) (fun h9 => xbd_mono h9 (fun _ => (fun h9 => xbd_mono h9 (fun _ => (hm3 _ _ _ _ _ _)))))) h9
theorem jf_X3_matches_3_l {ty : xTy} {v0 : Nat} {v1 : Nat} {v2 : Nat} {v3 : Int32} {v4 : Int32} {h : xH} {r : Int32 × xH} {n : Nat} (h9 : jf_X3_matches_3 ty n v0 v1 v2 v3 v4 h = some r) : (xlim fun n => jf_X3_matches_3 ty n v0 v1 v2 v3 v4 h) = some r := xlim_at (fun n _ => jf_X3_matches_3_m n _ _ _ _ _ _) h9
theorem jf_X8_takeWord_6_m {ty : xTy} {r : Int32 × xH} : ∀ (n : Nat) (v0 : Nat) (v1 : Nat) (v2 : Int32) (v3 : Int32) (v4 : Int32) (v5 : Int32) (h : xH), jf_X8_takeWord_6 ty n v0 v1 v2 v3 v4 v5 h = some r → jf_X8_takeWord_6 ty (n + 1) v0 v1 v2 v3 v4 v5 h = some r := by
  intro n
  induction n with
  | zero => intro v0 v1 v2 v3 v4 v5 h h9; cases h9
  | succ n hm6 =>
    intro v0 v1 v2 v3 v4 v5 h h9
    rw [jf_X8_takeWord_6_s] at h9 ⊢
    exact (fun h9 => xif_mono h9 (fun h9 => h9) (fun h9 => xbd_mono h9 (fun _ => (fun h9 => xbd_mono h9 (fun _ => (fun h9 => xif_mono h9 (fun h9 => h9) (fun h9 => xif_mono h9 (hm6 _ _ _ _ _ _ _) (fun h9 => xbd_mono h9 (fun _ => (hm6 _ _ _ _ _ _ _)))))))))) h9
theorem jf_X8_takeWord_6_l {ty : xTy} {v0 : Nat} {v1 : Nat} {v2 : Int32} {v3 : Int32} {v4 : Int32} {v5 : Int32} {h : xH} {r : Int32 × xH} {n : Nat} (h9 : jf_X8_takeWord_6 ty n v0 v1 v2 v3 v4 v5 h = some r) : (xlim fun n => jf_X8_takeWord_6 ty n v0 v1 v2 v3 v4 v5 h) = some r := xlim_at (fun n _ => jf_X8_takeWord_6_m n _ _ _ _ _ _ _) h9
theorem jf_X8_takeNumber_6_m {ty : xTy} {r : Int32 × xH} : ∀ (n : Nat) (v0 : Nat) (v1 : Nat) (v2 : Int32) (v3 : Int32) (v4 : Int32) (v5 : Int32) (h : xH), jf_X8_takeNumber_6 ty n v0 v1 v2 v3 v4 v5 h = some r → jf_X8_takeNumber_6 ty (n + 1) v0 v1 v2 v3 v4 v5 h = some r := by
  intro n
  induction n with
  | zero => intro v0 v1 v2 v3 v4 v5 h h9; cases h9
  | succ n hm6 =>
    intro v0 v1 v2 v3 v4 v5 h h9
    rw [jf_X8_takeNumber_6_s] at h9 ⊢
    exact (fun h9 => xif_mono h9 (fun h9 => h9) (fun h9 => xbd_mono h9 (fun _ => (fun h9 => xbd_mono h9 (fun _ => (fun h9 => xif_mono h9 (fun h9 => h9) (fun h9 => xbd_mono h9 (fun _ => (hm6 _ _ _ _ _ _ _))))))))) h9
theorem jf_X8_takeNumber_6_l {ty : xTy} {v0 : Nat} {v1 : Nat} {v2 : Int32} {v3 : Int32} {v4 : Int32} {v5 : Int32} {h : xH} {r : Int32 × xH} {n : Nat} (h9 : jf_X8_takeNumber_6 ty n v0 v1 v2 v3 v4 v5 h = some r) : (xlim fun n => jf_X8_takeNumber_6 ty n v0 v1 v2 v3 v4 v5 h) = some r := xlim_at (fun n _ => jf_X8_takeNumber_6_m n _ _ _ _ _ _ _) h9

theorem jf_X8_startOn_24_m {ty : xTy} {r : xH} : ∀ (n : Nat) (v0 : Nat) (v1 : Nat) (v3 : Int32) (v4 : Int32) (v5 : Int32) (h : xH), jf_X8_startOn_24 ty n v0 v1 v3 v4 v5 h = some r → jf_X8_startOn_24 ty (n + 1) v0 v1 v3 v4 v5 h = some r := by
  intro n
  induction n with
  | zero => intro v0 v1 v3 v4 v5 h h9; cases h9
  | succ n hm24 =>
    intro v0 v1 v3 v4 v5 h h9
    rw [jf_X8_startOn_24_s] at h9 ⊢
    exact (fun h9 => xif_mono h9 (fun h9 => h9) (fun h9 => xif_mono h9 (hm24 _ _ _ _ _ _) (fun h9 => xb2_mono h9 (fun _ _ => (hm24 _ _ _ _ _ _))))) h9
theorem jf_X8_startOn_24_l {ty : xTy} {v0 : Nat} {v1 : Nat} {v3 : Int32} {v4 : Int32} {v5 : Int32} {h : xH} {r : xH} {n : Nat} (h9 : jf_X8_startOn_24 ty n v0 v1 v3 v4 v5 h = some r) : (xlim fun n => jf_X8_startOn_24 ty n v0 v1 v3 v4 v5 h) = some r := xlim_at (fun n _ => jf_X8_startOn_24_m n _ _ _ _ _ _) h9
theorem jf_X7_firstPlace_2_m {ty : xTy} {h : xH} {r : Int32} : ∀ (n : Nat) (v0 : Nat) (v1 : Int32) (v2 : Int32), jf_X7_firstPlace_2 ty h n v0 v1 v2 = some r → jf_X7_firstPlace_2 ty h (n + 1) v0 v1 v2 = some r := by
  intro n
  induction n with
  | zero => intro v0 v1 v2 h9; cases h9
  | succ n hm2 =>
    intro v0 v1 v2 h9
    rw [jf_X7_firstPlace_2_s] at h9 ⊢
    exact (fun h9 => xif_mono h9 (fun h9 => h9) (fun h9 => xbd_mono h9 (fun _ => (fun h9 => xif_mono h9 (fun h9 => h9) (hm2 _ _ _))))) h9
theorem jf_X7_firstPlace_2_l {ty : xTy} {h : xH} {v0 : Nat} {v1 : Int32} {v2 : Int32} {r : Int32} {n : Nat} (h9 : jf_X7_firstPlace_2 ty h n v0 v1 v2 = some r) : (xlim fun n => jf_X7_firstPlace_2 ty h n v0 v1 v2) = some r := xlim_at (fun n _ => jf_X7_firstPlace_2_m n _ _ _) h9

theorem jf_X4_closeBrackets_38_m {ty : xTy} {r : Int32 × xH} : ∀ (n : Nat) (v0 : Nat) (h : xH), jf_X4_closeBrackets_38 ty n v0 h = some r → jf_X4_closeBrackets_38 ty (n + 1) v0 h = some r := by
  intro n
  induction n with
  | zero => intro v0 h h9; cases h9
  | succ n hm38 =>
    intro v0 h h9
    rw [jf_X4_closeBrackets_38_s] at h9 ⊢
    exact (fun h9 => xif_mono h9 (fun h9 => h9) (fun h9 => xif_mono h9 (fun h9 => h9) (fun h9 => xbd_mono h9 (fun _ => (fun h9 => xbd_mono h9 (fun _ => (fun h9 => xbd_mono h9 (fun _ => (fun h9 => xbd_mono h9 (fun _ => (fun h9 => xbd_mono h9 (fun _ => (fun h9 => xif_mono h9 (fun h9 => xb2_mono h9 (fun _ _ => (fun h9 => xif_mono h9 (fun h9 => h9) (fun h9 => xbd_mono h9 (fun _ => (hm38 _ _)))))) (fun h9 => h9)))))))))))))) h9
theorem jf_X4_closeBrackets_38_l {ty : xTy} {v0 : Nat} {h : xH} {r : Int32 × xH} {n : Nat} (h9 : jf_X4_closeBrackets_38 ty n v0 h = some r) : (xlim fun n => jf_X4_closeBrackets_38 ty n v0 h) = some r := xlim_at (fun n _ => jf_X4_closeBrackets_38_m n _ _) h9
theorem jf_X4_readTerm_15_m {ty : xTy} {r : Int32 × xH} : ∀ (n : Nat) (v0 : Nat) (v1 : Nat) (v2 : Nat) (v3 : Nat) (v4 : Int32) (v5 : Int32) (v6 : Int32) (h : xH), jf_X4_readTerm_15 ty n v0 v1 v2 v3 v4 v5 v6 h = some r → jf_X4_readTerm_15 ty (n + 1) v0 v1 v2 v3 v4 v5 v6 h = some r := by
  intro n
  induction n with
  | zero => intro v0 v1 v2 v3 v4 v5 v6 h h9; cases h9
  | succ n hm15 =>
    intro v0 v1 v2 v3 v4 v5 v6 h h9
    rw [jf_X4_readTerm_15_s] at h9 ⊢
    exact (fun h9 => xif_mono h9 (fun h9 => h9) (fun h9 => xif_mono h9 (fun h9 => h9) (fun h9 => xb2_mono h9 (fun _ _ => (fun h9 => xif_mono h9 (fun h9 => h9) (fun h9 => xb2_mono h9 (fun _ _ => (fun h9 => xif_mono h9 (fun h9 => h9) (fun h9 => xif_mono h9 (hm15 _ _ _ _ _ _ _ _) (hm15 _ _ _ _ _ _ _ _)))))))))) h9
theorem jf_X4_readTerm_15_l {ty : xTy} {v0 : Nat} {v1 : Nat} {v2 : Nat} {v3 : Nat} {v4 : Int32} {v5 : Int32} {v6 : Int32} {h : xH} {r : Int32 × xH} {n : Nat} (h9 : jf_X4_readTerm_15 ty n v0 v1 v2 v3 v4 v5 v6 h = some r) : (xlim fun n => jf_X4_readTerm_15 ty n v0 v1 v2 v3 v4 v5 v6 h) = some r := xlim_at (fun n _ => jf_X4_readTerm_15_m n _ _ _ _ _ _ _ _) h9

theorem jf_X4_readLines_13_m {ty : xTy} {r : Int32 × xH} : ∀ (n : Nat) (v0 : Nat) (v3 : Nat) (v4 : Int32) (h : xH), jf_X4_readLines_13 ty n v0 v3 v4 h = some r → jf_X4_readLines_13 ty (n + 1) v0 v3 v4 h = some r := by
  intro n
  induction n with
  | zero => intro v0 v3 v4 h h9; cases h9
  | succ n hm13 =>
    intro v0 v3 v4 h h9
    rw [jf_X4_readLines_13_s] at h9 ⊢
    exact (fun h9 => xif_mono h9 (fun h9 => h9) (fun h9 => xbd_mono h9 (fun _ => (fun h9 => xif_mono h9 (fun h9 => h9) (fun h9 => xb2_mono h9 (fun _ _ => (fun h9 => xif_mono h9 (fun h9 => h9) (fun h9 => xb2_mono h9 (fun _ _ => (fun h9 => xif_mono h9 (fun h9 => h9) (hm13 _ _ _ _))))))))))) h9
theorem jf_X4_readLines_13_l {ty : xTy} {v0 : Nat} {v3 : Nat} {v4 : Int32} {h : xH} {r : Int32 × xH} {n : Nat} (h9 : jf_X4_readLines_13 ty n v0 v3 v4 h = some r) : (xlim fun n => jf_X4_readLines_13 ty n v0 v3 v4 h) = some r := xlim_at (fun n _ => jf_X4_readLines_13_m n _ _ _ _) h9
theorem jf_X7_addPart_3_m {ty : xTy} {r : Int32 × xH} : ∀ (n : Nat) (v0 : Nat) (v1 : Nat) (v3 : Int32) (v4 : Int32) (h : xH), jf_X7_addPart_3 ty n v0 v1 v3 v4 h = some r → jf_X7_addPart_3 ty (n + 1) v0 v1 v3 v4 h = some r := by
  intro n
  induction n with
  | zero => intro v0 v1 v3 v4 h h9; cases h9
  | succ n hm3 =>
    intro v0 v1 v3 v4 h h9
    rw [jf_X7_addPart_3_s] at h9 ⊢
    exact (fun h9 => xif_mono h9 (fun h9 => h9) (fun h9 => xbd_mono h9 (fun _ => (fun h9 => xbd_mono h9 (fun _ => (fun h9 => xb2_mono h9 (fun _ _ => (fun h9 => xif_mono h9 (fun h9 => h9) (hm3 _ _ _ _ _))))))))) h9
theorem jf_X7_addPart_3_l {ty : xTy} {v0 : Nat} {v1 : Nat} {v3 : Int32} {v4 : Int32} {h : xH} {r : Int32 × xH} {n : Nat} (h9 : jf_X7_addPart_3 ty n v0 v1 v3 v4 h = some r) : (xlim fun n => jf_X7_addPart_3 ty n v0 v1 v3 v4 h) = some r := xlim_at (fun n _ => jf_X7_addPart_3_m n _ _ _ _ _) h9
theorem jf_X5_ruleFor_3_m {ty : xTy} {r : Int32 × xH} : ∀ (n : Nat) (v0 : Nat) (v1 : Nat) (v2 : Nat) (v3 : Int32) (v4 : Int32) (h : xH), jf_X5_ruleFor_3 ty n v0 v1 v2 v3 v4 h = some r → jf_X5_ruleFor_3 ty (n + 1) v0 v1 v2 v3 v4 h = some r := by
  intro n
  induction n with
  | zero => intro v0 v1 v2 v3 v4 h h9; cases h9
  | succ n hm3 =>
    intro v0 v1 v2 v3 v4 h h9
    rw [jf_X5_ruleFor_3_s] at h9 ⊢
    exact (fun h9 => xif_mono h9 (fun h9 => h9) (fun h9 => xbd_mono h9 (fun _ => (fun h9 => xif_mono h9 (hm3 _ _ _ _ _ _) (fun h9 => xbd_mono h9 (fun _ => (fun h9 => xbd_mono h9 (fun _ => (fun h9 => xif_mono h9 (hm3 _ _ _ _ _ _) (fun h9 => xbd_mono h9 (fun _ => (fun h9 => xbd_mono h9 (fun _ => (fun h9 => xbd_mono h9 (fun _ => (fun h9 => xbd_mono h9 (fun _ => (fun h9 => xb2_mono h9 (fun _ _ => (fun h9 => xif_mono h9 (hm3 _ _ _ _ _ _) (fun h9 => h9))))))))))))))))))))) h9
theorem jf_X5_ruleFor_3_l {ty : xTy} {v0 : Nat} {v1 : Nat} {v2 : Nat} {v3 : Int32} {v4 : Int32} {h : xH} {r : Int32 × xH} {n : Nat} (h9 : jf_X5_ruleFor_3 ty n v0 v1 v2 v3 v4 h = some r) : (xlim fun n => jf_X5_ruleFor_3 ty n v0 v1 v2 v3 v4 h) = some r := xlim_at (fun n _ => jf_X5_ruleFor_3_m n _ _ _ _ _ _) h9
theorem jf_X5_replace_25_m {ty : xTy} {r : Int32 × xH} : ∀ (n : Nat) (v0 : Nat) (v1 : Int32) (v2 : Nat) (v3 : Int32) (v4 : Int32) (v5 : Int32) (h : xH), jf_X5_replace_25 ty n v0 v1 v2 v3 v4 v5 h = some r → jf_X5_replace_25 ty (n + 1) v0 v1 v2 v3 v4 v5 h = some r := by
  intro n
  induction n with
  | zero => intro v0 v1 v2 v3 v4 v5 h h9; cases h9
  | succ n hm25 =>
    intro v0 v1 v2 v3 v4 v5 h h9
    rw [jf_X5_replace_25_s] at h9 ⊢
    exact (fun h9 => xif_mono h9 (fun h9 => h9) (fun h9 => xif_mono h9 (fun h9 => h9) (fun h9 => xb2_mono h9 (fun _ _ => (hm25 _ _ _ _ _ _ _))))) h9
theorem jf_X5_replace_25_l {ty : xTy} {v0 : Nat} {v1 : Int32} {v2 : Nat} {v3 : Int32} {v4 : Int32} {v5 : Int32} {h : xH} {r : Int32 × xH} {n : Nat} (h9 : jf_X5_replace_25 ty n v0 v1 v2 v3 v4 v5 h = some r) : (xlim fun n => jf_X5_replace_25 ty n v0 v1 v2 v3 v4 v5 h) = some r := xlim_at (fun n _ => jf_X5_replace_25_m n _ _ _ _ _ _ _) h9
theorem jf_X5_makeStep_2_m {ty : xTy} {r : Int32 × xH} : ∀ (n : Nat) (v0 : Nat) (v1 : Nat) (v2 : Nat) (v3 : Int32) (h : xH), jf_X5_makeStep_2 ty n v0 v1 v2 v3 h = some r → jf_X5_makeStep_2 ty (n + 1) v0 v1 v2 v3 h = some r := by
  intro n
  induction n with
  | zero => intro v0 v1 v2 v3 h h9; cases h9
  | succ n hm2 =>
    intro v0 v1 v2 v3 h h9
    rw [jf_X5_makeStep_2_s] at h9 ⊢
    exact (fun h9 => xbd_mono h9 (fun _ => (fun h9 => xif_mono h9 (fun h9 => h9) (fun h9 => xb2_mono h9 (fun _ _ => (fun h9 => xif_mono h9 (hm2 _ _ _ _ _) (fun h9 => h9))))))) h9
theorem jf_X5_makeStep_2_l {ty : xTy} {v0 : Nat} {v1 : Nat} {v2 : Nat} {v3 : Int32} {h : xH} {r : Int32 × xH} {n : Nat} (h9 : jf_X5_makeStep_2 ty n v0 v1 v2 v3 h = some r) : (xlim fun n => jf_X5_makeStep_2 ty n v0 v1 v2 v3 h) = some r := xlim_at (fun n _ => jf_X5_makeStep_2_m n _ _ _ _ _) h9
theorem jf_X5_rewrite_25_m {ty : xTy} {r : xH} : ∀ (n : Nat) (v0 : Nat) (v1 : Nat) (v2 : Nat) (v4 : Int32) (v5 : Int32) (h : xH), jf_X5_rewrite_25 ty n v0 v1 v2 v4 v5 h = some r → jf_X5_rewrite_25 ty (n + 1) v0 v1 v2 v4 v5 h = some r := by
  intro n
  induction n with
  | zero => intro v0 v1 v2 v4 v5 h h9; cases h9
  | succ n hm25 =>
    intro v0 v1 v2 v4 v5 h h9
    rw [jf_X5_rewrite_25_s] at h9 ⊢
    exact (fun h9 => xif_mono h9 (fun h9 => h9) (fun h9 => xif_mono h9 (fun h9 => h9) (fun h9 => xb2_mono h9 (fun _ _ => (hm25 _ _ _ _ _ _))))) h9
theorem jf_X5_rewrite_25_l {ty : xTy} {v0 : Nat} {v1 : Nat} {v2 : Nat} {v4 : Int32} {v5 : Int32} {h : xH} {r : xH} {n : Nat} (h9 : jf_X5_rewrite_25 ty n v0 v1 v2 v4 v5 h = some r) : (xlim fun n => jf_X5_rewrite_25 ty n v0 v1 v2 v4 v5 h) = some r := xlim_at (fun n _ => jf_X5_rewrite_25_m n _ _ _ _ _ _) h9
theorem jf_X6_forgetFirst_2_m {ty : xTy} {r : xH} : ∀ (n : Nat) (v0 : Nat) (v1 : Int32) (h : xH), jf_X6_forgetFirst_2 ty n v0 v1 h = some r → jf_X6_forgetFirst_2 ty (n + 1) v0 v1 h = some r := by
  intro n
  induction n with
  | zero => intro v0 v1 h h9; cases h9
  | succ n hm2 =>
    intro v0 v1 h h9
    rw [jf_X6_forgetFirst_2_s] at h9 ⊢
    exact (fun h9 => xif_mono h9 (fun h9 => h9) (fun h9 => xbd_mono h9 (fun _ => (fun h9 => xbd_mono h9 (fun _ => (fun h9 => xbd_mono h9 (fun _ => (fun h9 => xbd_mono h9 (fun _ => (hm2 _ _ _)))))))))) h9
theorem jf_X6_forgetFirst_2_l {ty : xTy} {v0 : Nat} {v1 : Int32} {h : xH} {r : xH} {n : Nat} (h9 : jf_X6_forgetFirst_2 ty n v0 v1 h = some r) : (xlim fun n => jf_X6_forgetFirst_2 ty n v0 v1 h) = some r := xlim_at (fun n _ => jf_X6_forgetFirst_2_m n _ _ _) h9

theorem jf_X7_copyApart_6_m {ty : xTy} {r : xH} : ∀ (n : Nat) (v0 : Nat) (v1 : Nat) (v2 : Int32) (h : xH), jf_X7_copyApart_6 ty n v0 v1 v2 h = some r → jf_X7_copyApart_6 ty (n + 1) v0 v1 v2 h = some r := by
  intro n
  induction n with
  | zero => intro v0 v1 v2 h h9; cases h9
  | succ n hm6 =>
    intro v0 v1 v2 h h9
    rw [jf_X7_copyApart_6_s] at h9 ⊢
    exact (fun h9 => xif_mono h9 (fun h9 => h9) (fun h9 => xbd_mono h9 (fun _ => (fun h9 => xif_mono h9 (fun h9 => xbd_mono h9 (fun _ => (fun h9 => xb2_mono h9 (fun _ _ => (hm6 _ _ _ _))))) (fun h9 => xbd_mono h9 (fun _ => (fun h9 => xb2_mono h9 (fun _ _ => (hm6 _ _ _ _))))))))) h9
theorem jf_X7_copyApart_6_l {ty : xTy} {v0 : Nat} {v1 : Nat} {v2 : Int32} {h : xH} {r : xH} {n : Nat} (h9 : jf_X7_copyApart_6 ty n v0 v1 v2 h = some r) : (xlim fun n => jf_X7_copyApart_6 ty n v0 v1 v2 h) = some r := xlim_at (fun n _ => jf_X7_copyApart_6_m n _ _ _ _) h9
theorem jf_X7_copyAsOne_6_m {ty : xTy} {r : xH} : ∀ (n : Nat) (v0 : Nat) (v1 : Nat) (v2 : Int32) (h : xH), jf_X7_copyAsOne_6 ty n v0 v1 v2 h = some r → jf_X7_copyAsOne_6 ty (n + 1) v0 v1 v2 h = some r := by
  intro n
  induction n with
  | zero => intro v0 v1 v2 h h9; cases h9
  | succ n hm6 =>
    intro v0 v1 v2 h h9
    rw [jf_X7_copyAsOne_6_s] at h9 ⊢
    exact (fun h9 => xif_mono h9 (fun h9 => h9) (fun h9 => xbd_mono h9 (fun _ => (fun h9 => xbd_mono h9 (fun _ => (fun h9 => xb2_mono h9 (fun _ _ => (hm6 _ _ _ _)))))))) h9
theorem jf_X7_copyAsOne_6_l {ty : xTy} {v0 : Nat} {v1 : Nat} {v2 : Int32} {h : xH} {r : xH} {n : Nat} (h9 : jf_X7_copyAsOne_6 ty n v0 v1 v2 h = some r) : (xlim fun n => jf_X7_copyAsOne_6 ty n v0 v1 v2 h) = some r := xlim_at (fun n _ => jf_X7_copyAsOne_6_m n _ _ _ _) h9
theorem jf_X7_variables_4_m {ty : xTy} {h : xH} {r : Int32} : ∀ (n : Nat) (v0 : Nat) (v1 : Int32) (v2 : Int32), jf_X7_variables_4 ty h n v0 v1 v2 = some r → jf_X7_variables_4 ty h (n + 1) v0 v1 v2 = some r := by
  intro n
  induction n with
  | zero => intro v0 v1 v2 h9; cases h9
  | succ n hm4 =>
    intro v0 v1 v2 h9
    rw [jf_X7_variables_4_s] at h9 ⊢
    exact (fun h9 => xif_mono h9 (fun h9 => h9) (fun h9 => xbd_mono h9 (fun _ => (fun h9 => xif_mono h9 (hm4 _ _ _) (fun h9 => xbd_mono h9 (fun _ => (fun h9 => xbd_mono h9 (fun _ => (fun h9 => xif_mono h9 (hm4 _ _ _) (hm4 _ _ _)))))))))) h9
theorem jf_X7_variables_4_l {ty : xTy} {h : xH} {v0 : Nat} {v1 : Int32} {v2 : Int32} {r : Int32} {n : Nat} (h9 : jf_X7_variables_4 ty h n v0 v1 v2 = some r) : (xlim fun n => jf_X7_variables_4 ty h n v0 v1 v2) = some r := xlim_at (fun n _ => jf_X7_variables_4_m n _ _ _) h9
theorem jf_X7_repeatsVariable_2_m {ty : xTy} {h : xH} {r : Int32} : ∀ (n : Nat) (v0 : Nat) (v1 : Int32), jf_X7_repeatsVariable_2 ty h n v0 v1 = some r → jf_X7_repeatsVariable_2 ty h (n + 1) v0 v1 = some r := by
  intro n
  induction n with
  | zero => intro v0 v1 h9; cases h9
  | succ n hm2 =>
    intro v0 v1 h9
    rw [jf_X7_repeatsVariable_2_s] at h9 ⊢
    exact (fun h9 => xif_mono h9 (fun h9 => h9) (fun h9 => xbd_mono h9 (fun _ => (fun h9 => xif_mono h9 (hm2 _ _) (fun h9 => xbd_mono h9 (fun _ => (fun h9 => xbd_mono h9 (fun _ => (fun h9 => xif_mono h9 (hm2 _ _) (fun h9 => h9)))))))))) h9
theorem jf_X7_repeatsVariable_2_l {ty : xTy} {h : xH} {v0 : Nat} {v1 : Int32} {r : Int32} {n : Nat} (h9 : jf_X7_repeatsVariable_2 ty h n v0 v1 = some r) : (xlim fun n => jf_X7_repeatsVariable_2 ty h n v0 v1) = some r := xlim_at (fun n _ => jf_X7_repeatsVariable_2_m n _ _) h9
theorem jf_X7_levels_17_k {ty : xTy} {h : xH} {k4 k4' : Nat → Int32 → Int32 → Option (Int32)} {r : Int32} (hm4 : ∀ (v0 : Nat) (v1 : Int32) (v2 : Int32), k4 v0 v1 v2 = some r → k4' v0 v1 v2 = some r) : ∀ (n : Nat) (v0 : Nat) (v1 : Int32) (v2 : Int32) (v3 : Int32) (v4 : Int32), jf_X7_levels_17 ty h k4 n v0 v1 v2 v3 v4 = some r → jf_X7_levels_17 ty h k4' n v0 v1 v2 v3 v4 = some r := by
  intro n
  induction n with
  | zero => intro v0 v1 v2 v3 v4 h9; cases h9
  | succ n hm17 =>
    intro v0 v1 v2 v3 v4 h9
    rw [jf_X7_levels_17_s] at h9 ⊢
    exact (fun h9 => xif_mono h9 (hm4 _ _ _) (fun h9 => xbd_mono h9 (fun _ => (fun h9 => xif_mono h9 (hm17 _ _ _ _ _) (hm17 _ _ _ _ _))))) h9
theorem jf_X7_levels_17_m {ty : xTy} {h : xH} {k4 : Nat → Int32 → Int32 → Option (Int32)} {r : Int32} : ∀ (n : Nat) (v0 : Nat) (v1 : Int32) (v2 : Int32) (v3 : Int32) (v4 : Int32), jf_X7_levels_17 ty h k4 n v0 v1 v2 v3 v4 = some r → jf_X7_levels_17 ty h k4 (n + 1) v0 v1 v2 v3 v4 = some r := by
  intro n
  induction n with
  | zero => intro v0 v1 v2 v3 v4 h9; cases h9
  | succ n hm17 =>
    have hm4 : ∀ (v0 : Nat) (v1 : Int32) (v2 : Int32), k4 v0 v1 v2 = some r → k4 v0 v1 v2 = some r := fun _ _ _ h9 => h9
    intro v0 v1 v2 v3 v4 h9
    rw [jf_X7_levels_17_s] at h9 ⊢
    exact (fun h9 => xif_mono h9 (hm4 _ _ _) (fun h9 => xbd_mono h9 (fun _ => (fun h9 => xif_mono h9 (hm17 _ _ _ _ _) (hm17 _ _ _ _ _))))) h9
theorem jf_X7_levels_17_l {ty : xTy} {h : xH} {k4 : Nat → Int32 → Int32 → Option (Int32)} {v0 : Nat} {v1 : Int32} {v2 : Int32} {v3 : Int32} {v4 : Int32} {r : Int32} {n : Nat} (h9 : jf_X7_levels_17 ty h k4 n v0 v1 v2 v3 v4 = some r) : (xlim fun n => jf_X7_levels_17 ty h k4 n v0 v1 v2 v3 v4) = some r := xlim_at (fun n _ => jf_X7_levels_17_m n _ _ _ _ _) h9
theorem jf_X7_levels_4_m {ty : xTy} {h : xH} {r : Int32} : ∀ (n : Nat) (v0 : Nat) (v1 : Int32) (v2 : Int32), jf_X7_levels_4 ty h n v0 v1 v2 = some r → jf_X7_levels_4 ty h (n + 1) v0 v1 v2 = some r := by
  intro n
  induction n with
  | zero => intro v0 v1 v2 h9; cases h9
  | succ n hm4 =>
    intro v0 v1 v2 h9
    rw [jf_X7_levels_4_s] at h9 ⊢
    exact (fun h9 => xif_mono h9 (fun h9 => h9) (fun h9 => xlim_mono h9 (fun n9 => jf_X7_levels_17_k hm4 n9 _ _ _ _ _))) h9
theorem jf_X7_levels_4_l {ty : xTy} {h : xH} {v0 : Nat} {v1 : Int32} {v2 : Int32} {r : Int32} {n : Nat} (h9 : jf_X7_levels_4 ty h n v0 v1 v2 = some r) : (xlim fun n => jf_X7_levels_4 ty h n v0 v1 v2) = some r := xlim_at (fun n _ => jf_X7_levels_4_m n _ _ _) h9
theorem jf_X7_sharedPath_14_m {ty : xTy} {h : xH} {r : Int32} : ∀ (n : Nat) (v0 : Nat) (v1 : Nat) (v2 : Int32) (v3 : Int32), jf_X7_sharedPath_14 ty h n v0 v1 v2 v3 = some r → jf_X7_sharedPath_14 ty h (n + 1) v0 v1 v2 v3 = some r := by
  intro n
  induction n with
  | zero => intro v0 v1 v2 v3 h9; cases h9
  | succ n hm14 =>
    intro v0 v1 v2 v3 h9
    rw [jf_X7_sharedPath_14_s] at h9 ⊢
    exact (fun h9 => xif_mono h9 (fun h9 => h9) (fun h9 => xbd_mono h9 (fun _ => (fun h9 => xbd_mono h9 (fun _ => (fun h9 => xif_mono h9 (hm14 _ _ _ _) (fun h9 => h9))))))) h9
theorem jf_X7_sharedPath_14_l {ty : xTy} {h : xH} {v0 : Nat} {v1 : Nat} {v2 : Int32} {v3 : Int32} {r : Int32} {n : Nat} (h9 : jf_X7_sharedPath_14 ty h n v0 v1 v2 v3 = some r) : (xlim fun n => jf_X7_sharedPath_14 ty h n v0 v1 v2 v3) = some r := xlim_at (fun n _ => jf_X7_sharedPath_14_m n _ _ _ _) h9
theorem jf_X9_insert_22_m {ty : xTy} {r : xH} : ∀ (n : Nat) (v0 : Nat) (v1 : Int32) (v2 : Nat) (v3 : Int32) (h : xH), jf_X9_insert_22 ty n v0 v1 v2 v3 h = some r → jf_X9_insert_22 ty (n + 1) v0 v1 v2 v3 h = some r := by
  intro n
  induction n with
  | zero => intro v0 v1 v2 v3 h h9; cases h9
  | succ n hm22 =>
    intro v0 v1 v2 v3 h h9
    rw [jf_X9_insert_22_s] at h9 ⊢
    exact (fun h9 => xif_mono h9 (fun h9 => h9) (fun h9 => xbd_mono h9 (fun _ => (fun h9 => xbd_mono h9 (fun _ => (fun h9 => xbd_mono h9 (fun _ => (fun h9 => xif_mono h9 (fun h9 => h9) (fun h9 => xbd_mono h9 (fun _ => (fun h9 => xbd_mono h9 (fun _ => (fun h9 => xbd_mono h9 (fun _ => (fun h9 => xbd_mono h9 (fun _ => (fun h9 => xbd_mono h9 (fun _ => (fun h9 => xbd_mono h9 (fun _ => (fun h9 => xbd_mono h9 (fun _ => (fun h9 => xbd_mono h9 (fun _ => (hm22 _ _ _ _ _))))))))))))))))))))))))) h9
theorem jf_X9_insert_22_l {ty : xTy} {v0 : Nat} {v1 : Int32} {v2 : Nat} {v3 : Int32} {h : xH} {r : xH} {n : Nat} (h9 : jf_X9_insert_22 ty n v0 v1 v2 v3 h = some r) : (xlim fun n => jf_X9_insert_22 ty n v0 v1 v2 v3 h) = some r := xlim_at (fun n _ => jf_X9_insert_22_m n _ _ _ _ _) h9
theorem jf_X9_plant_41_m {ty : xTy} {r : xH} : ∀ (n : Nat) (v0 : Nat) (v3 : Int32) (h : xH), jf_X9_plant_41 ty n v0 v3 h = some r → jf_X9_plant_41 ty (n + 1) v0 v3 h = some r := by
  intro n
  induction n with
  | zero => intro v0 v3 h h9; cases h9
  | succ n hm41 =>
    intro v0 v3 h h9
    rw [jf_X9_plant_41_s] at h9 ⊢
    exact (fun h9 => xif_mono h9 (fun h9 => h9) (fun h9 => xbd_mono h9 (fun _ => (fun h9 => xif_mono h9 (fun h9 => xbd_mono h9 (fun _ => (hm41 _ _ _))) (fun h9 => xbd_mono h9 (fun _ => (fun h9 => xbd_mono h9 (fun _ => (fun h9 => xbd_mono h9 (fun _ => (fun h9 => xbd_mono h9 (fun _ => (fun h9 => xbd_mono h9 (fun _ => (fun h9 => xbd_mono h9 (fun _ => (hm41 _ _ _))))))))))))))))) h9
theorem jf_X9_plant_41_l {ty : xTy} {v0 : Nat} {v3 : Int32} {h : xH} {r : xH} {n : Nat} (h9 : jf_X9_plant_41 ty n v0 v3 h = some r) : (xlim fun n => jf_X9_plant_41 ty n v0 v3 h) = some r := xlim_at (fun n _ => jf_X9_plant_41_m n _ _ _) h9
theorem jf_X9_plant_7_m {ty : xTy} {r : xH} : ∀ (n : Nat) (v0 : Nat) (v1 : Nat) (v2 : Nat) (v3 : Int32) (h : xH), jf_X9_plant_7 ty n v0 v1 v2 v3 h = some r → jf_X9_plant_7 ty (n + 1) v0 v1 v2 v3 h = some r := by
  intro n
  induction n with
  | zero => intro v0 v1 v2 v3 h h9; cases h9
  | succ n hm7 =>
    intro v0 v1 v2 v3 h h9
    rw [jf_X9_plant_7_s] at h9 ⊢
    exact (fun h9 => xif_mono h9 (fun h9 => h9) (fun h9 => xbd_mono h9 (fun _ => (fun h9 => xif_mono h9 (hm7 _ _ _ _ _) (fun h9 => xbd_mono h9 (fun _ => (fun h9 => xbd_mono h9 (fun _ => (fun h9 => xbd_mono h9 (fun _ => (hm7 _ _ _ _ _))))))))))) h9
theorem jf_X9_plant_7_l {ty : xTy} {v0 : Nat} {v1 : Nat} {v2 : Nat} {v3 : Int32} {h : xH} {r : xH} {n : Nat} (h9 : jf_X9_plant_7 ty n v0 v1 v2 v3 h = some r) : (xlim fun n => jf_X9_plant_7 ty n v0 v1 v2 v3 h) = some r := xlim_at (fun n _ => jf_X9_plant_7_m n _ _ _ _ _) h9
theorem jf_X9_nodesOfLength_4_m {ty : xTy} {h : xH} {r : Int32} : ∀ (n : Nat) (v0 : Nat) (v1 : Int32) (v2 : Int32) (v3 : Int32), jf_X9_nodesOfLength_4 ty h n v0 v1 v2 v3 = some r → jf_X9_nodesOfLength_4 ty h (n + 1) v0 v1 v2 v3 = some r := by
  intro n
  induction n with
  | zero => intro v0 v1 v2 v3 h9; cases h9
  | succ n hm4 =>
    intro v0 v1 v2 v3 h9
    rw [jf_X9_nodesOfLength_4_s] at h9 ⊢
    exact (fun h9 => xif_mono h9 (fun h9 => h9) (fun h9 => xbd_mono h9 (fun _ => (fun h9 => xif_mono h9 (hm4 _ _ _ _) (hm4 _ _ _ _))))) h9
theorem jf_X9_nodesOfLength_4_l {ty : xTy} {h : xH} {v0 : Nat} {v1 : Int32} {v2 : Int32} {v3 : Int32} {r : Int32} {n : Nat} (h9 : jf_X9_nodesOfLength_4 ty h n v0 v1 v2 v3 = some r) : (xlim fun n => jf_X9_nodesOfLength_4 ty h n v0 v1 v2 v3) = some r := xlim_at (fun n _ => jf_X9_nodesOfLength_4_m n _ _ _ _) h9
theorem jf_X9_nodes_4_m {ty : xTy} {h : xH} {r : Int32} : ∀ (n : Nat) (v0 : Nat) (v1 : Int32) (v2 : Int32), jf_X9_nodes_4 ty h n v0 v1 v2 = some r → jf_X9_nodes_4 ty h (n + 1) v0 v1 v2 = some r := by
  intro n
  induction n with
  | zero => intro v0 v1 v2 h9; cases h9
  | succ n hm4 =>
    intro v0 v1 v2 h9
    rw [jf_X9_nodes_4_s] at h9 ⊢
    exact (fun h9 => xif_mono h9 (fun h9 => h9) (fun h9 => xbd_mono h9 (fun _ => (hm4 _ _ _)))) h9
theorem jf_X9_nodes_4_l {ty : xTy} {h : xH} {v0 : Nat} {v1 : Int32} {v2 : Int32} {r : Int32} {n : Nat} (h9 : jf_X9_nodes_4 ty h n v0 v1 v2 = some r) : (xlim fun n => jf_X9_nodes_4 ty h n v0 v1 v2) = some r := xlim_at (fun n _ => jf_X9_nodes_4_m n _ _ _) h9
theorem jf_X9_leaves_4_m {ty : xTy} {h : xH} {r : Int32} : ∀ (n : Nat) (v0 : Nat) (v1 : Int32) (v2 : Int32), jf_X9_leaves_4 ty h n v0 v1 v2 = some r → jf_X9_leaves_4 ty h (n + 1) v0 v1 v2 = some r := by
  intro n
  induction n with
  | zero => intro v0 v1 v2 h9; cases h9
  | succ n hm4 =>
    intro v0 v1 v2 h9
    rw [jf_X9_leaves_4_s] at h9 ⊢
    exact (fun h9 => xif_mono h9 (fun h9 => h9) (fun h9 => xbd_mono h9 (fun _ => (fun h9 => xbd_mono h9 (fun _ => (fun h9 => xbd_mono h9 (fun _ => (fun h9 => xif_mono h9 (hm4 _ _ _) (hm4 _ _ _))))))))) h9
theorem jf_X9_leaves_4_l {ty : xTy} {h : xH} {v0 : Nat} {v1 : Int32} {v2 : Int32} {r : Int32} {n : Nat} (h9 : jf_X9_leaves_4 ty h n v0 v1 v2 = some r) : (xlim fun n => jf_X9_leaves_4 ty h n v0 v1 v2) = some r := xlim_at (fun n _ => jf_X9_leaves_4_m n _ _ _) h9
theorem jf_X9_branchCode_5_m {ty : xTy} {h : xH} {r : Int32} : ∀ (n : Nat) (v0 : Nat) (v1 : Int32) (v2 : Int32) (v3 : Int32) (v4 : Int32), jf_X9_branchCode_5 ty h n v0 v1 v2 v3 v4 = some r → jf_X9_branchCode_5 ty h (n + 1) v0 v1 v2 v3 v4 = some r := by
  intro n
  induction n with
  | zero => intro v0 v1 v2 v3 v4 h9; cases h9
  | succ n hm5 =>
    intro v0 v1 v2 v3 v4 h9
    rw [jf_X9_branchCode_5_s] at h9 ⊢
    exact (fun h9 => xif_mono h9 (fun h9 => h9) (fun h9 => xbd_mono h9 (fun _ => (fun h9 => xif_mono h9 (hm5 _ _ _ _ _) (fun h9 => xif_mono h9 (fun h9 => h9) (hm5 _ _ _ _ _)))))) h9
theorem jf_X9_branchCode_5_l {ty : xTy} {h : xH} {v0 : Nat} {v1 : Int32} {v2 : Int32} {v3 : Int32} {v4 : Int32} {r : Int32} {n : Nat} (h9 : jf_X9_branchCode_5 ty h n v0 v1 v2 v3 v4 = some r) : (xlim fun n => jf_X9_branchCode_5 ty h n v0 v1 v2 v3 v4) = some r := xlim_at (fun n _ => jf_X9_branchCode_5_m n _ _ _ _ _) h9
theorem jf_X9_longestPath_4_m {ty : xTy} {h : xH} {r : Int32} : ∀ (n : Nat) (v0 : Nat) (v1 : Int32) (v2 : Int32), jf_X9_longestPath_4 ty h n v0 v1 v2 = some r → jf_X9_longestPath_4 ty h (n + 1) v0 v1 v2 = some r := by
  intro n
  induction n with
  | zero => intro v0 v1 v2 h9; cases h9
  | succ n hm4 =>
    intro v0 v1 v2 h9
    rw [jf_X9_longestPath_4_s] at h9 ⊢
    exact (fun h9 => xif_mono h9 (fun h9 => h9) (fun h9 => xbd_mono h9 (fun _ => (fun h9 => xbd_mono h9 (fun _ => (hm4 _ _ _)))))) h9
theorem jf_X9_longestPath_4_l {ty : xTy} {h : xH} {v0 : Nat} {v1 : Int32} {v2 : Int32} {r : Int32} {n : Nat} (h9 : jf_X9_longestPath_4 ty h n v0 v1 v2 = some r) : (xlim fun n => jf_X9_longestPath_4 ty h n v0 v1 v2) = some r := xlim_at (fun n _ => jf_X9_longestPath_4_m n _ _ _) h9
theorem jf_X9_repeatingRules_4_m {ty : xTy} {h : xH} {r : Int32} : ∀ (n : Nat) (v0 : Nat) (v1 : Int32) (v2 : Int32), jf_X9_repeatingRules_4 ty h n v0 v1 v2 = some r → jf_X9_repeatingRules_4 ty h (n + 1) v0 v1 v2 = some r := by
  intro n
  induction n with
  | zero => intro v0 v1 v2 h9; cases h9
  | succ n hm4 =>
    intro v0 v1 v2 h9
    rw [jf_X9_repeatingRules_4_s] at h9 ⊢
    exact (fun h9 => xif_mono h9 (fun h9 => h9) (fun h9 => xbd_mono h9 (fun _ => (fun h9 => xbd_mono h9 (fun _ => (fun h9 => xbd_mono h9 (fun _ => (fun h9 => xif_mono h9 (hm4 _ _ _) (hm4 _ _ _))))))))) h9
theorem jf_X9_repeatingRules_4_l {ty : xTy} {h : xH} {v0 : Nat} {v1 : Int32} {v2 : Int32} {r : Int32} {n : Nat} (h9 : jf_X9_repeatingRules_4 ty h n v0 v1 v2 = some r) : (xlim fun n => jf_X9_repeatingRules_4 ty h n v0 v1 v2) = some r := xlim_at (fun n _ => jf_X9_repeatingRules_4_m n _ _ _) h9
theorem jf_X9_largestClass_18_k {ty : xTy} {h : xH} {k4 k4' : Nat → Int32 → Int32 → Int32 → Option (Int32)} {r : Int32} (hm4 : ∀ (v0 : Nat) (v1 : Int32) (v2 : Int32) (v3 : Int32), k4 v0 v1 v2 v3 = some r → k4' v0 v1 v2 v3 = some r) : ∀ (n : Nat) (v0 : Nat) (v1 : Int32) (v2 : Int32) (v3 : Int32) (v4 : Int32) (v5 : Int32), jf_X9_largestClass_18 ty h k4 n v0 v1 v2 v3 v4 v5 = some r → jf_X9_largestClass_18 ty h k4' n v0 v1 v2 v3 v4 v5 = some r := by
  intro n
  induction n with
  | zero => intro v0 v1 v2 v3 v4 v5 h9; cases h9
  | succ n hm18 =>
    intro v0 v1 v2 v3 v4 v5 h9
    rw [jf_X9_largestClass_18_s] at h9 ⊢
    exact (fun h9 => xif_mono h9 (hm4 _ _ _ _) (fun h9 => xbd_mono h9 (fun _ => (fun h9 => xbd_mono h9 (fun _ => (fun h9 => xif_mono h9 (hm18 _ _ _ _ _ _) (hm18 _ _ _ _ _ _))))))) h9
theorem jf_X9_largestClass_18_m {ty : xTy} {h : xH} {k4 : Nat → Int32 → Int32 → Int32 → Option (Int32)} {r : Int32} : ∀ (n : Nat) (v0 : Nat) (v1 : Int32) (v2 : Int32) (v3 : Int32) (v4 : Int32) (v5 : Int32), jf_X9_largestClass_18 ty h k4 n v0 v1 v2 v3 v4 v5 = some r → jf_X9_largestClass_18 ty h k4 (n + 1) v0 v1 v2 v3 v4 v5 = some r := by
  intro n
  induction n with
  | zero => intro v0 v1 v2 v3 v4 v5 h9; cases h9
  | succ n hm18 =>
    have hm4 : ∀ (v0 : Nat) (v1 : Int32) (v2 : Int32) (v3 : Int32), k4 v0 v1 v2 v3 = some r → k4 v0 v1 v2 v3 = some r := fun _ _ _ _ h9 => h9
    intro v0 v1 v2 v3 v4 v5 h9
    rw [jf_X9_largestClass_18_s] at h9 ⊢
    exact (fun h9 => xif_mono h9 (hm4 _ _ _ _) (fun h9 => xbd_mono h9 (fun _ => (fun h9 => xbd_mono h9 (fun _ => (fun h9 => xif_mono h9 (hm18 _ _ _ _ _ _) (hm18 _ _ _ _ _ _))))))) h9
theorem jf_X9_largestClass_18_l {ty : xTy} {h : xH} {k4 : Nat → Int32 → Int32 → Int32 → Option (Int32)} {v0 : Nat} {v1 : Int32} {v2 : Int32} {v3 : Int32} {v4 : Int32} {v5 : Int32} {r : Int32} {n : Nat} (h9 : jf_X9_largestClass_18 ty h k4 n v0 v1 v2 v3 v4 v5 = some r) : (xlim fun n => jf_X9_largestClass_18 ty h k4 n v0 v1 v2 v3 v4 v5) = some r := xlim_at (fun n _ => jf_X9_largestClass_18_m n _ _ _ _ _ _) h9
theorem jf_X9_largestClass_4_m {ty : xTy} {h : xH} {r : Int32} : ∀ (n : Nat) (v0 : Nat) (v1 : Int32) (v2 : Int32) (v3 : Int32), jf_X9_largestClass_4 ty h n v0 v1 v2 v3 = some r → jf_X9_largestClass_4 ty h (n + 1) v0 v1 v2 v3 = some r := by
  intro n
  induction n with
  | zero => intro v0 v1 v2 v3 h9; cases h9
  | succ n hm4 =>
    intro v0 v1 v2 v3 h9
    rw [jf_X9_largestClass_4_s] at h9 ⊢
    exact (fun h9 => xif_mono h9 (fun h9 => h9) (fun h9 => xlim_mono h9 (fun n9 => jf_X9_largestClass_18_k hm4 n9 _ _ _ _ _ _))) h9
theorem jf_X9_largestClass_4_l {ty : xTy} {h : xH} {v0 : Nat} {v1 : Int32} {v2 : Int32} {v3 : Int32} {r : Int32} {n : Nat} (h9 : jf_X9_largestClass_4 ty h n v0 v1 v2 v3 = some r) : (xlim fun n => jf_X9_largestClass_4 ty h n v0 v1 v2 v3) = some r := xlim_at (fun n _ => jf_X9_largestClass_4_m n _ _ _ _) h9
theorem jf_X9_walkPath_164_k {ty : xTy} {k16 k16' : Nat → Int32 → Int32 → Nat → Nat → Int32 → Int32 → Int32 → xH → Option (Int32 × xH)} {r : Int32 × xH} (hm16 : ∀ (v0 : Nat) (v1 : Int32) (v2 : Int32) (v3 : Nat) (v4 : Nat) (v5 : Int32) (v6 : Int32) (v7 : Int32) (h : xH), k16 v0 v1 v2 v3 v4 v5 v6 v7 h = some r → k16' v0 v1 v2 v3 v4 v5 v6 v7 h = some r) : ∀ (v0 : Nat) (v1 : Int32) (v2 : Int32) (v3 : Nat) (v4 : Nat) (v5 : Int32) (v6 : Int32) (v7 : Int32) (h : xH), jf_X9_walkPath_164 ty k16 v0 v1 v2 v3 v4 v5 v6 v7 h = some r → jf_X9_walkPath_164 ty k16' v0 v1 v2 v3 v4 v5 v6 v7 h = some r := by
  intro v0 v1 v2 v3 v4 v5 v6 v7 h h9
  unfold jf_X9_walkPath_164 at h9 ⊢
  exact (fun h9 => xbd_mono h9 (fun _ => (fun h9 => xif_mono h9 (hm16 _ _ _ _ _ _ _ _ _) (fun h9 => xbd_mono h9 (fun _ => (hm16 _ _ _ _ _ _ _ _ _)))))) h9
theorem jf_X9_walkPath_127_k {ty : xTy} {k16 k16' : Nat → Int32 → Int32 → Nat → Nat → Int32 → Int32 → Int32 → xH → Option (Int32 × xH)} {r : Int32 × xH} (hm16 : ∀ (v0 : Nat) (v1 : Int32) (v2 : Int32) (v3 : Nat) (v4 : Nat) (v5 : Int32) (v6 : Int32) (v7 : Int32) (h : xH), k16 v0 v1 v2 v3 v4 v5 v6 v7 h = some r → k16' v0 v1 v2 v3 v4 v5 v6 v7 h = some r) : ∀ (v0 : Nat) (v1 : Int32) (v2 : Int32) (v3 : Nat) (v4 : Nat) (v5 : Int32) (v6 : Int32) (v7 : Int32) (v8 : Int32) (v9 : Int32) (h : xH), jf_X9_walkPath_127 ty k16 v0 v1 v2 v3 v4 v5 v6 v7 v8 v9 h = some r → jf_X9_walkPath_127 ty k16' v0 v1 v2 v3 v4 v5 v6 v7 v8 v9 h = some r := by
  intro v0 v1 v2 v3 v4 v5 v6 v7 v8 v9 h h9
  unfold jf_X9_walkPath_127 at h9 ⊢
  exact (fun h9 => xif_mono h9 (fun h9 => xif_mono h9 (fun h9 => xbd_mono h9 (fun _ => (fun h9 => xbd_mono h9 (fun _ => (fun h9 => xif_mono h9 (jf_X9_walkPath_164_k hm16 _ _ _ _ _ _ _ _ _) (fun h9 => h9)))))) (fun h9 => h9)) (fun h9 => h9)) h9
theorem jf_X9_walkPath_98_k {ty : xTy} {k16 k16' : Nat → Int32 → Int32 → Nat → Nat → Int32 → Int32 → Int32 → xH → Option (Int32 × xH)} {r : Int32 × xH} (hm16 : ∀ (v0 : Nat) (v1 : Int32) (v2 : Int32) (v3 : Nat) (v4 : Nat) (v5 : Int32) (v6 : Int32) (v7 : Int32) (h : xH), k16 v0 v1 v2 v3 v4 v5 v6 v7 h = some r → k16' v0 v1 v2 v3 v4 v5 v6 v7 h = some r) : ∀ (v0 : Nat) (v1 : Int32) (v2 : Int32) (v3 : Nat) (v4 : Nat) (v5 : Int32) (v6 : Int32) (v7 : Int32) (v8 : Int32) (v9 : Int32) (h : xH), jf_X9_walkPath_98 ty k16 v0 v1 v2 v3 v4 v5 v6 v7 v8 v9 h = some r → jf_X9_walkPath_98 ty k16' v0 v1 v2 v3 v4 v5 v6 v7 v8 v9 h = some r := by
  intro v0 v1 v2 v3 v4 v5 v6 v7 v8 v9 h h9
  unfold jf_X9_walkPath_98 at h9 ⊢
  exact (fun h9 => xif_mono h9 (fun h9 => xif_mono h9 (jf_X9_walkPath_127_k hm16 _ _ _ _ _ _ _ _ _ _ _) (fun h9 => xif_mono h9 (jf_X9_walkPath_127_k hm16 _ _ _ _ _ _ _ _ _ _ _) (fun h9 => xbd_mono h9 (fun _ => (jf_X9_walkPath_164_k hm16 _ _ _ _ _ _ _ _ _))))) (jf_X9_walkPath_127_k hm16 _ _ _ _ _ _ _ _ _ _ _)) h9
theorem jf_X9_walkPath_67_k {ty : xTy} {k16 k16' : Nat → Int32 → Int32 → Nat → Nat → Int32 → Int32 → Int32 → xH → Option (Int32 × xH)} {r : Int32 × xH} (hm16 : ∀ (v0 : Nat) (v1 : Int32) (v2 : Int32) (v3 : Nat) (v4 : Nat) (v5 : Int32) (v6 : Int32) (v7 : Int32) (h : xH), k16 v0 v1 v2 v3 v4 v5 v6 v7 h = some r → k16' v0 v1 v2 v3 v4 v5 v6 v7 h = some r) : ∀ (v0 : Nat) (v1 : Int32) (v2 : Int32) (v3 : Nat) (v4 : Nat) (v5 : Int32) (v6 : Int32) (v7 : Int32) (v8 : Int32) (s0 : Int32) (h : xH), jf_X9_walkPath_67 ty k16 v0 v1 v2 v3 v4 v5 v6 v7 v8 s0 h = some r → jf_X9_walkPath_67 ty k16' v0 v1 v2 v3 v4 v5 v6 v7 v8 s0 h = some r := by
  intro v0 v1 v2 v3 v4 v5 v6 v7 v8 s0 h h9
  unfold jf_X9_walkPath_67 at h9 ⊢
  exact (fun h9 => xif_mono h9 (jf_X9_walkPath_98_k hm16 _ _ _ _ _ _ _ _ _ _ _) (fun h9 => xif_mono h9 (fun h9 => xif_mono h9 (jf_X9_walkPath_98_k hm16 _ _ _ _ _ _ _ _ _ _ _) (fun h9 => xbd_mono h9 (fun _ => (jf_X9_walkPath_164_k hm16 _ _ _ _ _ _ _ _ _)))) (fun h9 => xbd_mono h9 (fun _ => (jf_X9_walkPath_164_k hm16 _ _ _ _ _ _ _ _ _))))) h9
theorem jf_X9_walkPath_16_m {ty : xTy} {r : Int32 × xH} : ∀ (n : Nat) (v0 : Nat) (v1 : Int32) (v2 : Int32) (v3 : Nat) (v4 : Nat) (v5 : Int32) (v6 : Int32) (v7 : Int32) (h : xH), jf_X9_walkPath_16 ty n v0 v1 v2 v3 v4 v5 v6 v7 h = some r → jf_X9_walkPath_16 ty (n + 1) v0 v1 v2 v3 v4 v5 v6 v7 h = some r := by
  intro n
  induction n with
  | zero => intro v0 v1 v2 v3 v4 v5 v6 v7 h h9; cases h9
  | succ n hm16 =>
    intro v0 v1 v2 v3 v4 v5 v6 v7 h h9
    rw [jf_X9_walkPath_16_s] at h9 ⊢
    exact (fun h9 => xif_mono h9 (fun h9 => h9) (fun h9 => xif_mono h9 (fun h9 => h9) (fun h9 => xbd_mono h9 (fun _ => (fun h9 => xif_mono h9 (fun h9 => xbd_mono h9 (fun _ => (fun h9 => xif_mono h9 (jf_X9_walkPath_67_k hm16 _ _ _ _ _ _ _ _ _ _ _) (jf_X9_walkPath_67_k hm16 _ _ _ _ _ _ _ _ _ _ _)))) (fun h9 => xbd_mono h9 (fun _ => (fun h9 => xif_mono h9 (jf_X9_walkPath_67_k hm16 _ _ _ _ _ _ _ _ _ _ _) (jf_X9_walkPath_67_k hm16 _ _ _ _ _ _ _ _ _ _ _))))))))) h9
theorem jf_X9_walkPath_16_l {ty : xTy} {v0 : Nat} {v1 : Int32} {v2 : Int32} {v3 : Nat} {v4 : Nat} {v5 : Int32} {v6 : Int32} {v7 : Int32} {h : xH} {r : Int32 × xH} {n : Nat} (h9 : jf_X9_walkPath_16 ty n v0 v1 v2 v3 v4 v5 v6 v7 h = some r) : (xlim fun n => jf_X9_walkPath_16 ty n v0 v1 v2 v3 v4 v5 v6 v7 h) = some r := xlim_at (fun n _ => jf_X9_walkPath_16_m n _ _ _ _ _ _ _ _ _) h9
theorem jf_X9_walk_12_m {ty : xTy} {r : xH} : ∀ (n : Nat) (v0 : Nat) (v1 : Int32) (v2 : Nat) (v3 : Int32) (h : xH), jf_X9_walk_12 ty n v0 v1 v2 v3 h = some r → jf_X9_walk_12 ty (n + 1) v0 v1 v2 v3 h = some r := by
  intro n
  induction n with
  | zero => intro v0 v1 v2 v3 h h9; cases h9
  | succ n hm12 =>
    intro v0 v1 v2 v3 h h9
    rw [jf_X9_walk_12_s] at h9 ⊢
    exact (fun h9 => xif_mono h9 (fun h9 => h9) (fun h9 => xb2_mono h9 (fun _ _ => (fun h9 => xif_mono h9 (hm12 _ _ _ _ _) (fun h9 => xbd_mono h9 (fun _ => (hm12 _ _ _ _ _))))))) h9
theorem jf_X9_walk_12_l {ty : xTy} {v0 : Nat} {v1 : Int32} {v2 : Nat} {v3 : Int32} {h : xH} {r : xH} {n : Nat} (h9 : jf_X9_walk_12 ty n v0 v1 v2 v3 h = some r) : (xlim fun n => jf_X9_walk_12 ty n v0 v1 v2 v3 h) = some r := xlim_at (fun n _ => jf_X9_walk_12_m n _ _ _ _ _) h9
theorem jf_X10_load_102_k {ty : xTy} {k7 k7' : Nat → Nat → Int32 → Int32 → xH → Option (xH)} {r : xH} (hm7 : ∀ (v0 : Nat) (v1 : Nat) (v2 : Int32) (v3 : Int32) (h : xH), k7 v0 v1 v2 v3 h = some r → k7' v0 v1 v2 v3 h = some r) : ∀ (v0 : Nat) (v1 : Nat) (v2 : Int32) (v3 : Int32) (v4 : Int32) (s0 : Nat) (s1 : Int32) (s2 : Int32) (h : xH), jf_X10_load_102 ty k7 v0 v1 v2 v3 v4 s0 s1 s2 h = some r → jf_X10_load_102 ty k7' v0 v1 v2 v3 v4 s0 s1 s2 h = some r := by
  intro v0 v1 v2 v3 v4 s0 s1 s2 h h9
  unfold jf_X10_load_102 at h9 ⊢
  exact (fun h9 => xbd_mono h9 (fun _ => (fun h9 => xbd_mono h9 (fun _ => (fun h9 => xif_mono h9 (fun h9 => xbd_mono h9 (fun _ => (fun h9 => xbd_mono h9 (fun _ => (hm7 _ _ _ _ _))))) (fun h9 => xbd_mono h9 (fun _ => (fun h9 => xbd_mono h9 (fun _ => (hm7 _ _ _ _ _)))))))))) h9
theorem jf_X10_load_7_m {ty : xTy} {r : xH} : ∀ (n : Nat) (v0 : Nat) (v1 : Nat) (v2 : Int32) (v3 : Int32) (h : xH), jf_X10_load_7 ty n v0 v1 v2 v3 h = some r → jf_X10_load_7 ty (n + 1) v0 v1 v2 v3 h = some r := by
  intro n
  induction n with
  | zero => intro v0 v1 v2 v3 h h9; cases h9
  | succ n hm7 =>
    intro v0 v1 v2 v3 h h9
    rw [jf_X10_load_7_s] at h9 ⊢
    exact (fun h9 => xif_mono h9 (fun h9 => h9) (fun h9 => xif_mono h9 (fun h9 => h9) (fun h9 => xbd_mono h9 (fun _ => (fun h9 => xbd_mono h9 (fun _ => (fun h9 => xbd_mono h9 (fun _ => (fun h9 => xbd_mono h9 (fun _ => (fun h9 => xbd_mono h9 (fun _ => (fun h9 => xbd_mono h9 (fun _ => (fun h9 => xbd_mono h9 (fun _ => (fun h9 => xbd_mono h9 (fun _ => (fun h9 => xbd_mono h9 (fun _ => (fun h9 => xbd_mono h9 (fun _ => (fun h9 => xif_mono h9 (fun h9 => xbd_mono h9 (fun _ => (jf_X10_load_102_k hm7 _ _ _ _ _ _ _ _ _))) (jf_X10_load_102_k hm7 _ _ _ _ _ _ _ _ _)))))))))))))))))))))))) h9
theorem jf_X10_load_7_l {ty : xTy} {v0 : Nat} {v1 : Nat} {v2 : Int32} {v3 : Int32} {h : xH} {r : xH} {n : Nat} (h9 : jf_X10_load_7 ty n v0 v1 v2 v3 h = some r) : (xlim fun n => jf_X10_load_7 ty n v0 v1 v2 v3 h) = some r := xlim_at (fun n _ => jf_X10_load_7_m n _ _ _ _ _) h9
theorem jf_X10_classOf_4_m {ty : xTy} {h : xH} {r : Int32} : ∀ (n : Nat) (v0 : Nat) (v2 : Int32) (v3 : Int32), jf_X10_classOf_4 ty h n v0 v2 v3 = some r → jf_X10_classOf_4 ty h (n + 1) v0 v2 v3 = some r := by
  intro n
  induction n with
  | zero => intro v0 v2 v3 h9; cases h9
  | succ n hm4 =>
    intro v0 v2 v3 h9
    rw [jf_X10_classOf_4_s] at h9 ⊢
    exact (fun h9 => xif_mono h9 (fun h9 => h9) (fun h9 => xbd_mono h9 (fun _ => (fun h9 => xif_mono h9 (fun h9 => h9) (fun h9 => xbd_mono h9 (fun _ => (fun h9 => xbd_mono h9 (fun _ => (fun h9 => xif_mono h9 (fun h9 => h9) (fun h9 => xbd_mono h9 (fun _ => (fun h9 => xbd_mono h9 (fun _ => (hm4 _ _ _)))))))))))))) h9
theorem jf_X10_classOf_4_l {ty : xTy} {h : xH} {v0 : Nat} {v2 : Int32} {v3 : Int32} {r : Int32} {n : Nat} (h9 : jf_X10_classOf_4 ty h n v0 v2 v3 = some r) : (xlim fun n => jf_X10_classOf_4 ty h n v0 v2 v3) = some r := xlim_at (fun n _ => jf_X10_classOf_4_m n _ _ _) h9
theorem jf_X10_pairArguments_12_m {ty : xTy} {r : xH} : ∀ (n : Nat) (v0 : Nat) (v1 : Int32) (v3 : Int32) (v4 : Int32) (v5 : Int32) (h : xH), jf_X10_pairArguments_12 ty n v0 v1 v3 v4 v5 h = some r → jf_X10_pairArguments_12 ty (n + 1) v0 v1 v3 v4 v5 h = some r := by
  intro n
  induction n with
  | zero => intro v0 v1 v3 v4 v5 h h9; cases h9
  | succ n hm12 =>
    intro v0 v1 v3 v4 v5 h h9
    rw [jf_X10_pairArguments_12_s] at h9 ⊢
    exact (fun h9 => xbd_mono h9 (fun _ => (fun h9 => xbd_mono h9 (fun _ => (fun h9 => xif_mono h9 (fun h9 => h9) (fun h9 => xbd_mono h9 (fun _ => (fun h9 => xif_mono h9 (fun h9 => h9) (fun h9 => xbd_mono h9 (fun _ => (fun h9 => xif_mono h9 (fun h9 => h9) (fun h9 => xif_mono h9 (fun h9 => h9) (fun h9 => xif_mono h9 (fun h9 => xbd_mono h9 (fun _ => (fun h9 => xbd_mono h9 (fun _ => (fun h9 => xbd_mono h9 (fun _ => (fun h9 => xbd_mono h9 (fun _ => (fun h9 => xbd_mono h9 (fun _ => (fun h9 => xbd_mono h9 (fun _ => (fun h9 => xbd_mono h9 (fun _ => (fun h9 => xbd_mono h9 (fun _ => (fun h9 => xbd_mono h9 (fun _ => (hm12 _ _ _ _ _ _))))))))))))))))))) (fun h9 => h9)))))))))))))) h9
theorem jf_X10_pairArguments_12_l {ty : xTy} {v0 : Nat} {v1 : Int32} {v3 : Int32} {v4 : Int32} {v5 : Int32} {h : xH} {r : xH} {n : Nat} (h9 : jf_X10_pairArguments_12 ty n v0 v1 v3 v4 v5 h = some r) : (xlim fun n => jf_X10_pairArguments_12 ty n v0 v1 v3 v4 v5 h) = some r := xlim_at (fun n _ => jf_X10_pairArguments_12_m n _ _ _ _ _ _) h9
theorem jf_X10_uniteAll_2_m {ty : xTy} {r : Int32 × xH} : ∀ (n : Nat) (v0 : Nat) (v1 : Int32) (h : xH), jf_X10_uniteAll_2 ty n v0 v1 h = some r → jf_X10_uniteAll_2 ty (n + 1) v0 v1 h = some r := by
  intro n
  induction n with
  | zero => intro v0 v1 h h9; cases h9
  | succ n hm2 =>
    intro v0 v1 h h9
    rw [jf_X10_uniteAll_2_s] at h9 ⊢
    exact (fun h9 => xif_mono h9 (fun h9 => h9) (fun h9 => xif_mono h9 (fun h9 => h9) (fun h9 => xbd_mono h9 (fun _ => (fun h9 => xbd_mono h9 (fun _ => (fun h9 => xbd_mono h9 (fun _ => (fun h9 => xbd_mono h9 (fun _ => (fun h9 => xbd_mono h9 (fun _ => (fun h9 => xbd_mono h9 (fun _ => (fun h9 => xbd_mono h9 (fun _ => (fun h9 => xif_mono h9 (hm2 _ _ _) (fun h9 => xb2_mono h9 (fun _ _ => (fun h9 => xif_mono h9 (fun h9 => h9) (hm2 _ _ _))))))))))))))))))))) h9
theorem jf_X10_uniteAll_2_l {ty : xTy} {v0 : Nat} {v1 : Int32} {h : xH} {r : Int32 × xH} {n : Nat} (h9 : jf_X10_uniteAll_2 ty n v0 v1 h = some r) : (xlim fun n => jf_X10_uniteAll_2 ty n v0 v1 h) = some r := xlim_at (fun n _ => jf_X10_uniteAll_2_m n _ _ _) h9
theorem jf_X10_isSettling_24_m {ty : xTy} {h : xH} {r : Int32} : ∀ (n : Nat) (v0 : Nat) (v2 : Int32) (v3 : Int32) (v4 : Int32), jf_X10_isSettling_24 ty h n v0 v2 v3 v4 = some r → jf_X10_isSettling_24 ty h (n + 1) v0 v2 v3 v4 = some r := by
  intro n
  induction n with
  | zero => intro v0 v2 v3 v4 h9; cases h9
  | succ n hm24 =>
    intro v0 v2 v3 v4 h9
    rw [jf_X10_isSettling_24_s] at h9 ⊢
    exact (fun h9 => xbd_mono h9 (fun _ => (fun h9 => xbd_mono h9 (fun _ => (fun h9 => xif_mono h9 (fun h9 => h9) (fun h9 => xbd_mono h9 (fun _ => (fun h9 => xif_mono h9 (fun h9 => h9) (fun h9 => xbd_mono h9 (fun _ => (fun h9 => xbd_mono h9 (fun _ => (fun h9 => xif_mono h9 (fun h9 => h9) (fun h9 => xbd_mono h9 (fun _ => (fun h9 => xbd_mono h9 (fun _ => (hm24 _ _ _ _)))))))))))))))))) h9
theorem jf_X10_isSettling_24_l {ty : xTy} {h : xH} {v0 : Nat} {v2 : Int32} {v3 : Int32} {v4 : Int32} {r : Int32} {n : Nat} (h9 : jf_X10_isSettling_24 ty h n v0 v2 v3 v4 = some r) : (xlim fun n => jf_X10_isSettling_24 ty h n v0 v2 v3 v4) = some r := xlim_at (fun n _ => jf_X10_isSettling_24_m n _ _ _ _) h9
theorem jf_X10_settleMore_9_m {ty : xTy} {r : Int32 × xH} : ∀ (n : Nat) (v0 : Nat) (v1 : Int32) (v2 : Int32) (h : xH), jf_X10_settleMore_9 ty n v0 v1 v2 h = some r → jf_X10_settleMore_9 ty (n + 1) v0 v1 v2 h = some r := by
  intro n
  induction n with
  | zero => intro v0 v1 v2 h h9; cases h9
  | succ n hm9 =>
    intro v0 v1 v2 h h9
    rw [jf_X10_settleMore_9_s] at h9 ⊢
    exact (fun h9 => xif_mono h9 (fun h9 => h9) (fun h9 => xbd_mono h9 (fun _ => (fun h9 => xbd_mono h9 (fun _ => (fun h9 => xif_mono h9 (fun h9 => xbd_mono h9 (fun _ => (fun h9 => xbd_mono h9 (fun _ => (fun h9 => xif_mono h9 (hm9 _ _ _ _) (fun h9 => xbd_mono h9 (fun _ => (fun h9 => xbd_mono h9 (fun _ => (hm9 _ _ _ _)))))))))) (hm9 _ _ _ _))))))) h9
theorem jf_X10_settleMore_9_l {ty : xTy} {v0 : Nat} {v1 : Int32} {v2 : Int32} {h : xH} {r : Int32 × xH} {n : Nat} (h9 : jf_X10_settleMore_9 ty n v0 v1 v2 h = some r) : (xlim fun n => jf_X10_settleMore_9 ty n v0 v1 v2 h) = some r := xlim_at (fun n _ => jf_X10_settleMore_9_m n _ _ _ _) h9
theorem jf_X10_hasNoCircle_32_m {ty : xTy} {r : Int32 × xH} : ∀ (n : Nat) (v0 : Nat) (v1 : Int32) (v2 : Int32) (v3 : Int32) (h : xH), jf_X10_hasNoCircle_32 ty n v0 v1 v2 v3 h = some r → jf_X10_hasNoCircle_32 ty (n + 1) v0 v1 v2 v3 h = some r := by
  intro n
  induction n with
  | zero => intro v0 v1 v2 v3 h h9; cases h9
  | succ n hm32 =>
    intro v0 v1 v2 v3 h h9
    rw [jf_X10_hasNoCircle_32_s] at h9 ⊢
    exact (fun h9 => xif_mono h9 (fun h9 => h9) (fun h9 => xif_mono h9 (fun h9 => h9) (fun h9 => xb2_mono h9 (fun _ _ => (fun h9 => xif_mono h9 (hm32 _ _ _ _ _) (hm32 _ _ _ _ _)))))) h9
theorem jf_X10_hasNoCircle_32_l {ty : xTy} {v0 : Nat} {v1 : Int32} {v2 : Int32} {v3 : Int32} {h : xH} {r : Int32 × xH} {n : Nat} (h9 : jf_X10_hasNoCircle_32 ty n v0 v1 v2 v3 h = some r) : (xlim fun n => jf_X10_hasNoCircle_32 ty n v0 v1 v2 v3 h) = some r := xlim_at (fun n _ => jf_X10_hasNoCircle_32_m n _ _ _ _ _) h9
theorem jf_X10_hasNoCircle_2_m {ty : xTy} {r : Int32 × xH} : ∀ (n : Nat) (v0 : Nat) (v1 : Int32) (h : xH), jf_X10_hasNoCircle_2 ty n v0 v1 h = some r → jf_X10_hasNoCircle_2 ty (n + 1) v0 v1 h = some r := by
  intro n
  induction n with
  | zero => intro v0 v1 h h9; cases h9
  | succ n hm2 =>
    intro v0 v1 h h9
    rw [jf_X10_hasNoCircle_2_s] at h9 ⊢
    exact (fun h9 => xif_mono h9 (fun h9 => h9) (fun h9 => xbd_mono h9 (fun _ => (fun h9 => xbd_mono h9 (fun _ => (hm2 _ _ _)))))) h9
theorem jf_X10_hasNoCircle_2_l {ty : xTy} {v0 : Nat} {v1 : Int32} {h : xH} {r : Int32 × xH} {n : Nat} (h9 : jf_X10_hasNoCircle_2 ty n v0 v1 h = some r) : (xlim fun n => jf_X10_hasNoCircle_2 ty n v0 v1 h) = some r := xlim_at (fun n _ => jf_X10_hasNoCircle_2_m n _ _ _) h9

theorem jf_X10_awaitArguments_29_m {ty : xTy} {r : xH} : ∀ (n : Nat) (v0 : Nat) (v2 : Int32) (v3 : Int32) (v4 : Int32) (h : xH), jf_X10_awaitArguments_29 ty n v0 v2 v3 v4 h = some r → jf_X10_awaitArguments_29 ty (n + 1) v0 v2 v3 v4 h = some r := by
  intro n
  induction n with
  | zero => intro v0 v2 v3 v4 h h9; cases h9
  | succ n hm29 =>
    intro v0 v2 v3 v4 h h9
    rw [jf_X10_awaitArguments_29_s] at h9 ⊢
    exact (fun h9 => xif_mono h9 (fun h9 => h9) (fun h9 => xbd_mono h9 (fun _ => (fun h9 => xif_mono h9 (fun h9 => h9) (fun h9 => xbd_mono h9 (fun _ => (fun h9 => xbd_mono h9 (fun _ => (fun h9 => xbd_mono h9 (fun _ => (fun h9 => xbd_mono h9 (fun _ => (hm29 _ _ _ _ _))))))))))))) h9
theorem jf_X10_awaitArguments_29_l {ty : xTy} {v0 : Nat} {v2 : Int32} {v3 : Int32} {v4 : Int32} {h : xH} {r : xH} {n : Nat} (h9 : jf_X10_awaitArguments_29 ty n v0 v2 v3 v4 h = some r) : (xlim fun n => jf_X10_awaitArguments_29 ty n v0 v2 v3 v4 h) = some r := xlim_at (fun n _ => jf_X10_awaitArguments_29_m n _ _ _ _ _) h9
theorem jf_X10_unifiedShape_49_m {ty : xTy} {r : Nat × xH} : ∀ (n : Nat) (v0 : Nat) (v1 : Int32) (h : xH), jf_X10_unifiedShape_49 ty n v0 v1 h = some r → jf_X10_unifiedShape_49 ty (n + 1) v0 v1 h = some r := by
  intro n
  induction n with
  | zero => intro v0 v1 h h9; cases h9
  | succ n hm49 =>
    intro v0 v1 h h9
    rw [jf_X10_unifiedShape_49_s] at h9 ⊢
    exact (fun h9 => xif_mono h9 (fun h9 => h9) (fun h9 => xif_mono h9 (fun h9 => h9) (fun h9 => xbd_mono h9 (fun _ => (fun h9 => xbd_mono h9 (fun _ => (fun h9 => xbd_mono h9 (fun _ => (fun h9 => xbd_mono h9 (fun _ => (fun h9 => xbd_mono h9 (fun _ => (hm49 _ _ _))))))))))))) h9
theorem jf_X10_unifiedShape_49_l {ty : xTy} {v0 : Nat} {v1 : Int32} {h : xH} {r : Nat × xH} {n : Nat} (h9 : jf_X10_unifiedShape_49 ty n v0 v1 h = some r) : (xlim fun n => jf_X10_unifiedShape_49 ty n v0 v1 h) = some r := xlim_at (fun n _ => jf_X10_unifiedShape_49_m n _ _ _) h9
theorem jf_X10_unifiedShape_14_m {ty : xTy} {r : Nat × xH} : ∀ (n : Nat) (v0 : Nat) (v1 : Int32) (h : xH), jf_X10_unifiedShape_14 ty n v0 v1 h = some r → jf_X10_unifiedShape_14 ty (n + 1) v0 v1 h = some r := by
  intro n
  induction n with
  | zero => intro v0 v1 h h9; cases h9
  | succ n hm14 =>
    intro v0 v1 h h9
    rw [jf_X10_unifiedShape_14_s] at h9 ⊢
    exact (fun h9 => xif_mono h9 (fun h9 => h9) (fun h9 => xbd_mono h9 (fun _ => (fun h9 => xbd_mono h9 (fun _ => (hm14 _ _ _)))))) h9
theorem jf_X10_unifiedShape_14_l {ty : xTy} {v0 : Nat} {v1 : Int32} {h : xH} {r : Nat × xH} {n : Nat} (h9 : jf_X10_unifiedShape_14 ty n v0 v1 h = some r) : (xlim fun n => jf_X10_unifiedShape_14 ty n v0 v1 h) = some r := xlim_at (fun n _ => jf_X10_unifiedShape_14_m n _ _ _) h9
theorem jf_X11_tapeNumber_3_m {ty : xTy} {r : xH} : ∀ (n : Nat) (v0 : Nat) (v1 : Int32) (v2 : Int32) (h : xH), jf_X11_tapeNumber_3 ty n v0 v1 v2 h = some r → jf_X11_tapeNumber_3 ty (n + 1) v0 v1 v2 h = some r := by
  intro n
  induction n with
  | zero => intro v0 v1 v2 h h9; cases h9
  | succ n hm3 =>
    intro v0 v1 v2 h h9
    rw [jf_X11_tapeNumber_3_s] at h9 ⊢
    exact (fun h9 => xif_mono h9 (fun h9 => h9) (fun h9 => xif_mono h9 (hm3 _ _ _ _) (fun h9 => xif_mono h9 (hm3 _ _ _ _) (fun h9 => xbd_mono h9 (fun _ => (fun h9 => xbd_mono h9 (fun _ => (fun h9 => xbd_mono h9 (fun _ => (hm3 _ _ _ _)))))))))) h9
theorem jf_X11_tapeNumber_3_l {ty : xTy} {v0 : Nat} {v1 : Int32} {v2 : Int32} {h : xH} {r : xH} {n : Nat} (h9 : jf_X11_tapeNumber_3 ty n v0 v1 v2 h = some r) : (xlim fun n => jf_X11_tapeNumber_3 ty n v0 v1 v2 h) = some r := xlim_at (fun n _ => jf_X11_tapeNumber_3_m n _ _ _ _) h9
theorem jf_X11_found_28_m {ty : xTy} {r : Int32 × xH} : ∀ (n : Nat) (v0 : Nat) (v1 : Int32) (v2 : Int32) (v3 : Int32) (v4 : Int32) (h : xH), jf_X11_found_28 ty n v0 v1 v2 v3 v4 h = some r → jf_X11_found_28 ty (n + 1) v0 v1 v2 v3 v4 h = some r := by
  intro n
  induction n with
  | zero => intro v0 v1 v2 v3 v4 h h9; cases h9
  | succ n hm28 =>
    intro v0 v1 v2 v3 v4 h h9
    rw [jf_X11_found_28_s] at h9 ⊢
    exact (fun h9 => xbd_mono h9 (fun _ => (fun h9 => xif_mono h9 (fun h9 => h9) (fun h9 => xbd_mono h9 (fun _ => (fun h9 => xbd_mono h9 (fun _ => (fun h9 => xbd_mono h9 (fun _ => (fun h9 => xbd_mono h9 (fun _ => (fun h9 => xbd_mono h9 (fun _ => (fun h9 => xbd_mono h9 (fun _ => (fun h9 => xb2_mono h9 (fun _ _ => (fun h9 => xif_mono h9 (hm28 _ _ _ _ _ _) (fun h9 => xif_mono h9 (fun h9 => h9) (hm28 _ _ _ _ _ _)))))))))))))))))))) h9
theorem jf_X11_found_28_l {ty : xTy} {v0 : Nat} {v1 : Int32} {v2 : Int32} {v3 : Int32} {v4 : Int32} {h : xH} {r : Int32 × xH} {n : Nat} (h9 : jf_X11_found_28 ty n v0 v1 v2 v3 v4 h = some r) : (xlim fun n => jf_X11_found_28 ty n v0 v1 v2 v3 v4 h) = some r := xlim_at (fun n _ => jf_X11_found_28_m n _ _ _ _ _ _) h9
theorem jf_X11_fitBits_6_m {ty : xTy} {r : Int32 × xH} : ∀ (n : Nat) (v0 : Nat) (v1 : Int32) (v2 : Nat) (v3 : Int32) (v4 : Int32) (v5 : Int32) (h : xH), jf_X11_fitBits_6 ty n v0 v1 v2 v3 v4 v5 h = some r → jf_X11_fitBits_6 ty (n + 1) v0 v1 v2 v3 v4 v5 h = some r := by
  intro n
  induction n with
  | zero => intro v0 v1 v2 v3 v4 v5 h h9; cases h9
  | succ n hm6 =>
    intro v0 v1 v2 v3 v4 v5 h h9
    rw [jf_X11_fitBits_6_s] at h9 ⊢
    exact (fun h9 => xbd_mono h9 (fun _ => (fun h9 => xif_mono h9 (fun h9 => h9) (fun h9 => xbd_mono h9 (fun _ => (fun h9 => xif_mono h9 (hm6 _ _ _ _ _ _ _) (fun h9 => xbd_mono h9 (fun _ => (fun h9 => xbd_mono h9 (fun _ => (fun h9 => xbd_mono h9 (fun _ => (fun h9 => xb2_mono h9 (fun _ _ => (fun h9 => xif_mono h9 (hm6 _ _ _ _ _ _ _) (hm6 _ _ _ _ _ _ _)))))))))))))))) h9
theorem jf_X11_fitBits_6_l {ty : xTy} {v0 : Nat} {v1 : Int32} {v2 : Nat} {v3 : Int32} {v4 : Int32} {v5 : Int32} {h : xH} {r : Int32 × xH} {n : Nat} (h9 : jf_X11_fitBits_6 ty n v0 v1 v2 v3 v4 v5 h = some r) : (xlim fun n => jf_X11_fitBits_6 ty n v0 v1 v2 v3 v4 v5 h) = some r := xlim_at (fun n _ => jf_X11_fitBits_6_m n _ _ _ _ _ _ _) h9
theorem jf_X11_aboveBits_4_m {ty : xTy} {r : Int32 × xH} : ∀ (n : Nat) (v0 : Nat) (v1 : Int32) (v2 : Int32) (v3 : Int32) (h : xH), jf_X11_aboveBits_4 ty n v0 v1 v2 v3 h = some r → jf_X11_aboveBits_4 ty (n + 1) v0 v1 v2 v3 h = some r := by
  intro n
  induction n with
  | zero => intro v0 v1 v2 v3 h h9; cases h9
  | succ n hm4 =>
    intro v0 v1 v2 v3 h h9
    rw [jf_X11_aboveBits_4_s] at h9 ⊢
    exact (fun h9 => xbd_mono h9 (fun _ => (fun h9 => xif_mono h9 (fun h9 => h9) (fun h9 => xif_mono h9 (hm4 _ _ _ _ _) (fun h9 => xbd_mono h9 (fun _ => (fun h9 => xbd_mono h9 (fun _ => (fun h9 => xbd_mono h9 (fun _ => (fun h9 => xbd_mono h9 (fun _ => (fun h9 => xbd_mono h9 (fun _ => (fun h9 => xbd_mono h9 (fun _ => (fun h9 => xbd_mono h9 (fun _ => (fun h9 => xb2_mono h9 (fun _ _ => (fun h9 => xif_mono h9 (hm4 _ _ _ _ _) (hm4 _ _ _ _ _)))))))))))))))))))))) h9
theorem jf_X11_aboveBits_4_l {ty : xTy} {v0 : Nat} {v1 : Int32} {v2 : Int32} {v3 : Int32} {h : xH} {r : Int32 × xH} {n : Nat} (h9 : jf_X11_aboveBits_4 ty n v0 v1 v2 v3 h = some r) : (xlim fun n => jf_X11_aboveBits_4 ty n v0 v1 v2 v3 h) = some r := xlim_at (fun n _ => jf_X11_aboveBits_4_m n _ _ _ _ _) h9
theorem jf_X11_shadowed_4_m {ty : xTy} {r : Int32 × xH} : ∀ (n : Nat) (v0 : Nat) (v1 : Int32) (v2 : Int32) (h : xH), jf_X11_shadowed_4 ty n v0 v1 v2 h = some r → jf_X11_shadowed_4 ty (n + 1) v0 v1 v2 h = some r := by
  intro n
  induction n with
  | zero => intro v0 v1 v2 h h9; cases h9
  | succ n hm4 =>
    intro v0 v1 v2 h h9
    rw [jf_X11_shadowed_4_s] at h9 ⊢
    exact (fun h9 => xbd_mono h9 (fun _ => (fun h9 => xif_mono h9 (fun h9 => h9) (fun h9 => xbd_mono h9 (fun _ => (fun h9 => xbd_mono h9 (fun _ => (fun h9 => xif_mono h9 (hm4 _ _ _ _) (fun h9 => xb2_mono h9 (fun _ _ => (fun h9 => xbd_mono h9 (fun _ => (hm4 _ _ _ _))))))))))))) h9
theorem jf_X11_shadowed_4_l {ty : xTy} {v0 : Nat} {v1 : Int32} {v2 : Int32} {h : xH} {r : Int32 × xH} {n : Nat} (h9 : jf_X11_shadowed_4 ty n v0 v1 v2 h = some r) : (xlim fun n => jf_X11_shadowed_4 ty n v0 v1 v2 h) = some r := xlim_at (fun n _ => jf_X11_shadowed_4_m n _ _ _ _) h9

theorem jf_X11_overlapBits_18_m {ty : xTy} {r : Int32 × xH} : ∀ (n : Nat) (v0 : Nat) (v1 : Int32) (v2 : Int32) (v3 : Int32) (v4 : Int32) (v5 : Int32) (h : xH), jf_X11_overlapBits_18 ty n v0 v1 v2 v3 v4 v5 h = some r → jf_X11_overlapBits_18 ty (n + 1) v0 v1 v2 v3 v4 v5 h = some r := by
  intro n
  induction n with
  | zero => intro v0 v1 v2 v3 v4 v5 h h9; cases h9
  | succ n hm18 =>
    intro v0 v1 v2 v3 v4 v5 h h9
    rw [jf_X11_overlapBits_18_s] at h9 ⊢
    exact (fun h9 => xif_mono h9 (fun h9 => h9) (fun h9 => xb2_mono h9 (fun _ _ => (fun h9 => xif_mono h9 (hm18 _ _ _ _ _ _ _) (hm18 _ _ _ _ _ _ _))))) h9
theorem jf_X11_overlapBits_18_l {ty : xTy} {v0 : Nat} {v1 : Int32} {v2 : Int32} {v3 : Int32} {v4 : Int32} {v5 : Int32} {h : xH} {r : Int32 × xH} {n : Nat} (h9 : jf_X11_overlapBits_18 ty n v0 v1 v2 v3 v4 v5 h = some r) : (xlim fun n => jf_X11_overlapBits_18 ty n v0 v1 v2 v3 v4 v5 h) = some r := xlim_at (fun n _ => jf_X11_overlapBits_18_m n _ _ _ _ _ _ _) h9
theorem jf_X11_criticals_17_k {ty : xTy} {k4 k4' : Nat → Int32 → Int32 → xH → Option (Int32 × xH)} {r : Int32 × xH} (hm4 : ∀ (v0 : Nat) (v1 : Int32) (v2 : Int32) (h : xH), k4 v0 v1 v2 h = some r → k4' v0 v1 v2 h = some r) : ∀ (n : Nat) (v0 : Nat) (v1 : Int32) (v2 : Int32) (v3 : Int32) (h : xH), jf_X11_criticals_17 ty k4 n v0 v1 v2 v3 h = some r → jf_X11_criticals_17 ty k4' n v0 v1 v2 v3 h = some r := by
  intro n
  induction n with
  | zero => intro v0 v1 v2 v3 h h9; cases h9
  | succ n hm17 =>
    intro v0 v1 v2 v3 h h9
    rw [jf_X11_criticals_17_s] at h9 ⊢
    exact (fun h9 => xbd_mono h9 (fun _ => (fun h9 => xif_mono h9 (hm4 _ _ _ _) (fun h9 => xbd_mono h9 (fun _ => (fun h9 => xbd_mono h9 (fun _ => (fun h9 => xif_mono h9 (hm17 _ _ _ _ _) (fun h9 => xbd_mono h9 (fun _ => (fun h9 => xbd_mono h9 (fun _ => (fun h9 => xif_mono h9 (hm17 _ _ _ _ _) (fun h9 => xb2_mono h9 (fun _ _ => (fun h9 => xbd_mono h9 (fun _ => (hm17 _ _ _ _ _)))))))))))))))))) h9
theorem jf_X11_criticals_17_m {ty : xTy} {k4 : Nat → Int32 → Int32 → xH → Option (Int32 × xH)} {r : Int32 × xH} : ∀ (n : Nat) (v0 : Nat) (v1 : Int32) (v2 : Int32) (v3 : Int32) (h : xH), jf_X11_criticals_17 ty k4 n v0 v1 v2 v3 h = some r → jf_X11_criticals_17 ty k4 (n + 1) v0 v1 v2 v3 h = some r := by
  intro n
  induction n with
  | zero => intro v0 v1 v2 v3 h h9; cases h9
  | succ n hm17 =>
    have hm4 : ∀ (v0 : Nat) (v1 : Int32) (v2 : Int32) (h : xH), k4 v0 v1 v2 h = some r → k4 v0 v1 v2 h = some r := fun _ _ _ _ h9 => h9
    intro v0 v1 v2 v3 h h9
    rw [jf_X11_criticals_17_s] at h9 ⊢
    exact (fun h9 => xbd_mono h9 (fun _ => (fun h9 => xif_mono h9 (hm4 _ _ _ _) (fun h9 => xbd_mono h9 (fun _ => (fun h9 => xbd_mono h9 (fun _ => (fun h9 => xif_mono h9 (hm17 _ _ _ _ _) (fun h9 => xbd_mono h9 (fun _ => (fun h9 => xbd_mono h9 (fun _ => (fun h9 => xif_mono h9 (hm17 _ _ _ _ _) (fun h9 => xb2_mono h9 (fun _ _ => (fun h9 => xbd_mono h9 (fun _ => (hm17 _ _ _ _ _)))))))))))))))))) h9
theorem jf_X11_criticals_17_l {ty : xTy} {k4 : Nat → Int32 → Int32 → xH → Option (Int32 × xH)} {v0 : Nat} {v1 : Int32} {v2 : Int32} {v3 : Int32} {h : xH} {r : Int32 × xH} {n : Nat} (h9 : jf_X11_criticals_17 ty k4 n v0 v1 v2 v3 h = some r) : (xlim fun n => jf_X11_criticals_17 ty k4 n v0 v1 v2 v3 h) = some r := xlim_at (fun n _ => jf_X11_criticals_17_m n _ _ _ _ _) h9
theorem jf_X11_criticals_4_m {ty : xTy} {r : Int32 × xH} : ∀ (n : Nat) (v0 : Nat) (v1 : Int32) (v2 : Int32) (h : xH), jf_X11_criticals_4 ty n v0 v1 v2 h = some r → jf_X11_criticals_4 ty (n + 1) v0 v1 v2 h = some r := by
  intro n
  induction n with
  | zero => intro v0 v1 v2 h h9; cases h9
  | succ n hm4 =>
    intro v0 v1 v2 h h9
    rw [jf_X11_criticals_4_s] at h9 ⊢
    exact (fun h9 => xbd_mono h9 (fun _ => (fun h9 => xif_mono h9 (fun h9 => h9) (fun h9 => xlim_mono h9 (fun n9 => jf_X11_criticals_17_k hm4 n9 _ _ _ _ _))))) h9
theorem jf_X11_criticals_4_l {ty : xTy} {v0 : Nat} {v1 : Int32} {v2 : Int32} {h : xH} {r : Int32 × xH} {n : Nat} (h9 : jf_X11_criticals_4 ty n v0 v1 v2 h = some r) : (xlim fun n => jf_X11_criticals_4 ty n v0 v1 v2 h) = some r := xlim_at (fun n _ => jf_X11_criticals_4_m n _ _ _ _) h9

theorem jf_X11_specific_45_m {ty : xTy} {r : Int32 × xH} : ∀ (n : Nat) (v0 : Nat) (v2 : Int32) (v3 : Int32) (h : xH), jf_X11_specific_45 ty n v0 v2 v3 h = some r → jf_X11_specific_45 ty (n + 1) v0 v2 v3 h = some r := by
  intro n
  induction n with
  | zero => intro v0 v2 v3 h h9; cases h9
  | succ n hm45 =>
    intro v0 v2 v3 h h9
    rw [jf_X11_specific_45_s] at h9 ⊢
    exact (fun h9 => xbd_mono h9 (fun _ => (fun h9 => xif_mono h9 (fun h9 => h9) (fun h9 => xbd_mono h9 (fun _ => (fun h9 => xif_mono h9 (hm45 _ _ _ _) (fun h9 => xb2_mono h9 (fun _ _ => (fun h9 => xif_mono h9 (fun h9 => h9) (hm45 _ _ _ _)))))))))) h9
theorem jf_X11_specific_45_l {ty : xTy} {v0 : Nat} {v2 : Int32} {v3 : Int32} {h : xH} {r : Int32 × xH} {n : Nat} (h9 : jf_X11_specific_45 ty n v0 v2 v3 h = some r) : (xlim fun n => jf_X11_specific_45 ty n v0 v2 v3 h) = some r := xlim_at (fun n _ => jf_X11_specific_45_m n _ _ _ _) h9
theorem jf_X11_isTop_11_m {ty : xTy} {r : Int32 × xH} : ∀ (n : Nat) (v0 : Nat) (v1 : Int32) (v2 : Nat) (v3 : Int32) (h : xH), jf_X11_isTop_11 ty n v0 v1 v2 v3 h = some r → jf_X11_isTop_11 ty (n + 1) v0 v1 v2 v3 h = some r := by
  intro n
  induction n with
  | zero => intro v0 v1 v2 v3 h h9; cases h9
  | succ n hm11 =>
    intro v0 v1 v2 v3 h h9
    rw [jf_X11_isTop_11_s] at h9 ⊢
    exact (fun h9 => xbd_mono h9 (fun _ => (fun h9 => xif_mono h9 (fun h9 => h9) (fun h9 => xif_mono h9 (hm11 _ _ _ _ _) (fun h9 => xbd_mono h9 (fun _ => (fun h9 => xbd_mono h9 (fun _ => (fun h9 => xif_mono h9 (hm11 _ _ _ _ _) (fun h9 => xbd_mono h9 (fun _ => (fun h9 => xbd_mono h9 (fun _ => (fun h9 => xbd_mono h9 (fun _ => (fun h9 => xbd_mono h9 (fun _ => (fun h9 => xb2_mono h9 (fun _ _ => (fun h9 => xif_mono h9 (hm11 _ _ _ _ _) (fun h9 => xbd_mono h9 (fun _ => (fun h9 => xbd_mono h9 (fun _ => (fun h9 => xbd_mono h9 (fun _ => (fun h9 => xbd_mono h9 (fun _ => (fun h9 => xb2_mono h9 (fun _ _ => (fun h9 => xif_mono h9 (fun h9 => h9) (hm11 _ _ _ _ _)))))))))))))))))))))))))))))))) h9
theorem jf_X11_isTop_11_l {ty : xTy} {v0 : Nat} {v1 : Int32} {v2 : Nat} {v3 : Int32} {h : xH} {r : Int32 × xH} {n : Nat} (h9 : jf_X11_isTop_11 ty n v0 v1 v2 v3 h = some r) : (xlim fun n => jf_X11_isTop_11 ty n v0 v1 v2 v3 h) = some r := xlim_at (fun n _ => jf_X11_isTop_11_m n _ _ _ _ _) h9
theorem jf_X11_tops_4_m {ty : xTy} {r : Int32 × xH} : ∀ (n : Nat) (v0 : Nat) (v1 : Int32) (v2 : Int32) (h : xH), jf_X11_tops_4 ty n v0 v1 v2 h = some r → jf_X11_tops_4 ty (n + 1) v0 v1 v2 h = some r := by
  intro n
  induction n with
  | zero => intro v0 v1 v2 h h9; cases h9
  | succ n hm4 =>
    intro v0 v1 v2 h h9
    rw [jf_X11_tops_4_s] at h9 ⊢
    exact (fun h9 => xbd_mono h9 (fun _ => (fun h9 => xif_mono h9 (fun h9 => h9) (fun h9 => xbd_mono h9 (fun _ => (fun h9 => xbd_mono h9 (fun _ => (fun h9 => xif_mono h9 (hm4 _ _ _ _) (fun h9 => xb2_mono h9 (fun _ _ => (fun h9 => xif_mono h9 (hm4 _ _ _ _) (hm4 _ _ _ _)))))))))))) h9
theorem jf_X11_tops_4_l {ty : xTy} {v0 : Nat} {v1 : Int32} {v2 : Int32} {h : xH} {r : Int32 × xH} {n : Nat} (h9 : jf_X11_tops_4 ty n v0 v1 v2 h = some r) : (xlim fun n => jf_X11_tops_4 ty n v0 v1 v2 h) = some r := xlim_at (fun n _ => jf_X11_tops_4_m n _ _ _ _) h9

theorem jf_X11_apart_25_m {ty : xTy} {h : xH} {r : Int32} : ∀ (n : Nat) (v0 : Nat) (v1 : Int32) (v2 : Int32) (v3 : Int32) (v4 : Int32), jf_X11_apart_25 ty h n v0 v1 v2 v3 v4 = some r → jf_X11_apart_25 ty h (n + 1) v0 v1 v2 v3 v4 = some r := by
  intro n
  induction n with
  | zero => intro v0 v1 v2 v3 v4 h9; cases h9
  | succ n hm25 =>
    intro v0 v1 v2 v3 v4 h9
    rw [jf_X11_apart_25_s] at h9 ⊢
    exact (fun h9 => xif_mono h9 (fun h9 => h9) (fun h9 => xbd_mono h9 (fun _ => (fun h9 => xbd_mono h9 (fun _ => (fun h9 => xif_mono h9 (hm25 _ _ _ _ _) (hm25 _ _ _ _ _))))))) h9
theorem jf_X11_apart_25_l {ty : xTy} {h : xH} {v0 : Nat} {v1 : Int32} {v2 : Int32} {v3 : Int32} {v4 : Int32} {r : Int32} {n : Nat} (h9 : jf_X11_apart_25 ty h n v0 v1 v2 v3 v4 = some r) : (xlim fun n => jf_X11_apart_25 ty h n v0 v1 v2 v3 v4) = some r := xlim_at (fun n _ => jf_X11_apart_25_m n _ _ _ _ _) h9
theorem jf_X11_chance_26_m {ty : xTy} {r : Int32 × xH} : ∀ (n : Nat) (v0 : Nat) (v2 : Int32) (v3 : Int32) (v4 : Int32) (h : xH), jf_X11_chance_26 ty n v0 v2 v3 v4 h = some r → jf_X11_chance_26 ty (n + 1) v0 v2 v3 v4 h = some r := by
  intro n
  induction n with
  | zero => intro v0 v2 v3 v4 h h9; cases h9
  | succ n hm26 =>
    intro v0 v2 v3 v4 h h9
    rw [jf_X11_chance_26_s] at h9 ⊢
    exact (fun h9 => xif_mono h9 (fun h9 => h9) (fun h9 => xbd_mono h9 (fun _ => (fun h9 => xbd_mono h9 (fun _ => (fun h9 => xbd_mono h9 (fun _ => (fun h9 => xb2_mono h9 (fun _ _ => (fun h9 => xif_mono h9 (fun h9 => h9) (fun h9 => xbd_mono h9 (fun _ => (fun h9 => xbd_mono h9 (fun _ => (fun h9 => xb2_mono h9 (fun _ _ => (fun h9 => xif_mono h9 (hm26 _ _ _ _ _) (hm26 _ _ _ _ _)))))))))))))))))) h9
theorem jf_X11_chance_26_l {ty : xTy} {v0 : Nat} {v2 : Int32} {v3 : Int32} {v4 : Int32} {h : xH} {r : Int32 × xH} {n : Nat} (h9 : jf_X11_chance_26 ty n v0 v2 v3 v4 h = some r) : (xlim fun n => jf_X11_chance_26 ty n v0 v2 v3 v4 h) = some r := xlim_at (fun n _ => jf_X11_chance_26_m n _ _ _ _ _) h9
theorem jf_X11_looseCount_5_m {ty : xTy} {r : Int32 × xH} : ∀ (n : Nat) (v0 : Nat) (v1 : Int32) (v2 : Nat) (v3 : Int32) (v4 : Int32) (h : xH), jf_X11_looseCount_5 ty n v0 v1 v2 v3 v4 h = some r → jf_X11_looseCount_5 ty (n + 1) v0 v1 v2 v3 v4 h = some r := by
  intro n
  induction n with
  | zero => intro v0 v1 v2 v3 v4 h h9; cases h9
  | succ n hm5 =>
    intro v0 v1 v2 v3 v4 h h9
    rw [jf_X11_looseCount_5_s] at h9 ⊢
    exact (fun h9 => xbd_mono h9 (fun _ => (fun h9 => xif_mono h9 (fun h9 => h9) (fun h9 => xbd_mono h9 (fun _ => (fun h9 => xbd_mono h9 (fun _ => (fun h9 => xbd_mono h9 (fun _ => (fun h9 => xbd_mono h9 (fun _ => (fun h9 => xbd_mono h9 (fun _ => (fun h9 => xbd_mono h9 (fun _ => (fun h9 => xbd_mono h9 (fun _ => (fun h9 => xbd_mono h9 (fun _ => (fun h9 => xb2_mono h9 (fun _ _ => (fun h9 => xif_mono h9 (hm5 _ _ _ _ _ _) (hm5 _ _ _ _ _ _))))))))))))))))))))))) h9
theorem jf_X11_looseCount_5_l {ty : xTy} {v0 : Nat} {v1 : Int32} {v2 : Nat} {v3 : Int32} {v4 : Int32} {h : xH} {r : Int32 × xH} {n : Nat} (h9 : jf_X11_looseCount_5 ty n v0 v1 v2 v3 v4 h = some r) : (xlim fun n => jf_X11_looseCount_5 ty n v0 v1 v2 v3 v4 h) = some r := xlim_at (fun n _ => jf_X11_looseCount_5_m n _ _ _ _ _ _) h9

theorem jf_X12_feed_76_k {ty : xTy} {k23 k23' : Nat → Int32 → Int32 → Int32 → Int32 → Int32 → Int32 → xH → Option (Int32 × xH)} {r : Int32 × xH} (hm23 : ∀ (v0 : Nat) (v1 : Int32) (v2 : Int32) (v3 : Int32) (v4 : Int32) (v5 : Int32) (v6 : Int32) (h : xH), k23 v0 v1 v2 v3 v4 v5 v6 h = some r → k23' v0 v1 v2 v3 v4 v5 v6 h = some r) : ∀ (v0 : Nat) (v1 : Int32) (v2 : Int32) (v3 : Int32) (v4 : Int32) (v5 : Int32) (v6 : Int32) (s0 : Int32) (h : xH), jf_X12_feed_76 ty k23 v0 v1 v2 v3 v4 v5 v6 s0 h = some r → jf_X12_feed_76 ty k23' v0 v1 v2 v3 v4 v5 v6 s0 h = some r := by
  intro v0 v1 v2 v3 v4 v5 v6 s0 h h9
  unfold jf_X12_feed_76 at h9 ⊢
  exact (fun h9 => xbd_mono h9 (fun _ => (fun h9 => xbd_mono h9 (fun _ => (fun h9 => xbd_mono h9 (fun _ => (hm23 _ _ _ _ _ _ _ _))))))) h9
theorem jf_X12_feed_23_m {ty : xTy} {r : Int32 × xH} : ∀ (n : Nat) (v0 : Nat) (v1 : Int32) (v2 : Int32) (v3 : Int32) (v4 : Int32) (v5 : Int32) (v6 : Int32) (h : xH), jf_X12_feed_23 ty n v0 v1 v2 v3 v4 v5 v6 h = some r → jf_X12_feed_23 ty (n + 1) v0 v1 v2 v3 v4 v5 v6 h = some r := by
  intro n
  induction n with
  | zero => intro v0 v1 v2 v3 v4 v5 v6 h h9; cases h9
  | succ n hm23 =>
    intro v0 v1 v2 v3 v4 v5 v6 h h9
    rw [jf_X12_feed_23_s] at h9 ⊢
    exact (fun h9 => xif_mono h9 (fun h9 => h9) (fun h9 => xif_mono h9 (fun h9 => xif_mono h9 (fun h9 => xif_mono h9 (fun h9 => xif_mono h9 (jf_X12_feed_76_k hm23 _ _ _ _ _ _ _ _ _) (jf_X12_feed_76_k hm23 _ _ _ _ _ _ _ _ _)) (jf_X12_feed_76_k hm23 _ _ _ _ _ _ _ _ _)) (jf_X12_feed_76_k hm23 _ _ _ _ _ _ _ _ _)) (jf_X12_feed_76_k hm23 _ _ _ _ _ _ _ _ _))) h9
theorem jf_X12_feed_23_l {ty : xTy} {v0 : Nat} {v1 : Int32} {v2 : Int32} {v3 : Int32} {v4 : Int32} {v5 : Int32} {v6 : Int32} {h : xH} {r : Int32 × xH} {n : Nat} (h9 : jf_X12_feed_23 ty n v0 v1 v2 v3 v4 v5 v6 h = some r) : (xlim fun n => jf_X12_feed_23 ty n v0 v1 v2 v3 v4 v5 v6 h) = some r := xlim_at (fun n _ => jf_X12_feed_23_m n _ _ _ _ _ _ _ _) h9
theorem jf_X12_wordAt_57_k {ty : xTy} {h : xH} {k5 k5' : Nat → Int32 → Int32 → Int32 → Int32 → Option (Int32)} {r : Int32} (hm5 : ∀ (v0 : Nat) (v1 : Int32) (v2 : Int32) (v3 : Int32) (v4 : Int32), k5 v0 v1 v2 v3 v4 = some r → k5' v0 v1 v2 v3 v4 = some r) : ∀ (n : Nat) (v0 : Nat) (v1 : Int32) (v2 : Int32) (v3 : Int32) (v4 : Int32) (v5 : Int32) (v6 : Int32) (v7 : Int32), jf_X12_wordAt_57 ty h k5 n v0 v1 v2 v3 v4 v5 v6 v7 = some r → jf_X12_wordAt_57 ty h k5' n v0 v1 v2 v3 v4 v5 v6 v7 = some r := by
  intro n
  induction n with
  | zero => intro v0 v1 v2 v3 v4 v5 v6 v7 h9; cases h9
  | succ n hm57 =>
    intro v0 v1 v2 v3 v4 v5 v6 v7 h9
    rw [jf_X12_wordAt_57_s] at h9 ⊢
    exact (fun h9 => xif_mono h9 (fun h9 => xif_mono h9 (hm5 _ _ _ _ _) (fun h9 => h9)) (fun h9 => xif_mono h9 (fun h9 => xif_mono h9 (hm5 _ _ _ _ _) (fun h9 => h9)) (fun h9 => xbd_mono h9 (fun _ => (fun h9 => xbd_mono h9 (fun _ => (fun h9 => xbd_mono h9 (fun _ => (fun h9 => xbd_mono h9 (fun _ => (fun h9 => xif_mono h9 (hm57 _ _ _ _ _ _ _ _) (hm57 _ _ _ _ _ _ _ _)))))))))))) h9
theorem jf_X12_wordAt_57_m {ty : xTy} {h : xH} {k5 : Nat → Int32 → Int32 → Int32 → Int32 → Option (Int32)} {r : Int32} : ∀ (n : Nat) (v0 : Nat) (v1 : Int32) (v2 : Int32) (v3 : Int32) (v4 : Int32) (v5 : Int32) (v6 : Int32) (v7 : Int32), jf_X12_wordAt_57 ty h k5 n v0 v1 v2 v3 v4 v5 v6 v7 = some r → jf_X12_wordAt_57 ty h k5 (n + 1) v0 v1 v2 v3 v4 v5 v6 v7 = some r := by
  intro n
  induction n with
  | zero => intro v0 v1 v2 v3 v4 v5 v6 v7 h9; cases h9
  | succ n hm57 =>
    have hm5 : ∀ (v0 : Nat) (v1 : Int32) (v2 : Int32) (v3 : Int32) (v4 : Int32), k5 v0 v1 v2 v3 v4 = some r → k5 v0 v1 v2 v3 v4 = some r := fun _ _ _ _ _ h9 => h9
    intro v0 v1 v2 v3 v4 v5 v6 v7 h9
    rw [jf_X12_wordAt_57_s] at h9 ⊢
    exact (fun h9 => xif_mono h9 (fun h9 => xif_mono h9 (hm5 _ _ _ _ _) (fun h9 => h9)) (fun h9 => xif_mono h9 (fun h9 => xif_mono h9 (hm5 _ _ _ _ _) (fun h9 => h9)) (fun h9 => xbd_mono h9 (fun _ => (fun h9 => xbd_mono h9 (fun _ => (fun h9 => xbd_mono h9 (fun _ => (fun h9 => xbd_mono h9 (fun _ => (fun h9 => xif_mono h9 (hm57 _ _ _ _ _ _ _ _) (hm57 _ _ _ _ _ _ _ _)))))))))))) h9
theorem jf_X12_wordAt_57_l {ty : xTy} {h : xH} {k5 : Nat → Int32 → Int32 → Int32 → Int32 → Option (Int32)} {v0 : Nat} {v1 : Int32} {v2 : Int32} {v3 : Int32} {v4 : Int32} {v5 : Int32} {v6 : Int32} {v7 : Int32} {r : Int32} {n : Nat} (h9 : jf_X12_wordAt_57 ty h k5 n v0 v1 v2 v3 v4 v5 v6 v7 = some r) : (xlim fun n => jf_X12_wordAt_57 ty h k5 n v0 v1 v2 v3 v4 v5 v6 v7) = some r := xlim_at (fun n _ => jf_X12_wordAt_57_m n _ _ _ _ _ _ _ _) h9
theorem jf_X12_wordAt_18_k {ty : xTy} {h : xH} {k5 k5' : Nat → Int32 → Int32 → Int32 → Int32 → Option (Int32)} {r : Int32} (hm5 : ∀ (v0 : Nat) (v1 : Int32) (v2 : Int32) (v3 : Int32) (v4 : Int32), k5 v0 v1 v2 v3 v4 = some r → k5' v0 v1 v2 v3 v4 = some r) : ∀ (n : Nat) (v0 : Nat) (v1 : Int32) (v2 : Int32) (v3 : Int32) (v4 : Int32) (v5 : Int32), jf_X12_wordAt_18 ty h k5 n v0 v1 v2 v3 v4 v5 = some r → jf_X12_wordAt_18 ty h k5' n v0 v1 v2 v3 v4 v5 = some r := by
  intro n
  induction n with
  | zero => intro v0 v1 v2 v3 v4 v5 h9; cases h9
  | succ n hm18 =>
    intro v0 v1 v2 v3 v4 v5 h9
    rw [jf_X12_wordAt_18_s] at h9 ⊢
    exact (fun h9 => xbd_mono h9 (fun _ => (fun h9 => xbd_mono h9 (fun _ => (fun h9 => xif_mono h9 (fun h9 => xif_mono h9 (fun h9 => xlim_mono h9 (fun n9 => jf_X12_wordAt_57_k hm5 n9 _ _ _ _ _ _ _ _)) (fun h9 => xlim_mono h9 (fun n9 => jf_X12_wordAt_57_k hm5 n9 _ _ _ _ _ _ _ _))) (hm18 _ _ _ _ _ _)))))) h9
theorem jf_X12_wordAt_18_m {ty : xTy} {h : xH} {k5 : Nat → Int32 → Int32 → Int32 → Int32 → Option (Int32)} {r : Int32} : ∀ (n : Nat) (v0 : Nat) (v1 : Int32) (v2 : Int32) (v3 : Int32) (v4 : Int32) (v5 : Int32), jf_X12_wordAt_18 ty h k5 n v0 v1 v2 v3 v4 v5 = some r → jf_X12_wordAt_18 ty h k5 (n + 1) v0 v1 v2 v3 v4 v5 = some r := by
  intro n
  induction n with
  | zero => intro v0 v1 v2 v3 v4 v5 h9; cases h9
  | succ n hm18 =>
    have hm5 : ∀ (v0 : Nat) (v1 : Int32) (v2 : Int32) (v3 : Int32) (v4 : Int32), k5 v0 v1 v2 v3 v4 = some r → k5 v0 v1 v2 v3 v4 = some r := fun _ _ _ _ _ h9 => h9
    intro v0 v1 v2 v3 v4 v5 h9
    rw [jf_X12_wordAt_18_s] at h9 ⊢
    exact (fun h9 => xbd_mono h9 (fun _ => (fun h9 => xbd_mono h9 (fun _ => (fun h9 => xif_mono h9 (fun h9 => xif_mono h9 (fun h9 => xlim_mono h9 (fun n9 => jf_X12_wordAt_57_k hm5 n9 _ _ _ _ _ _ _ _)) (fun h9 => xlim_mono h9 (fun n9 => jf_X12_wordAt_57_k hm5 n9 _ _ _ _ _ _ _ _))) (hm18 _ _ _ _ _ _)))))) h9
theorem jf_X12_wordAt_18_l {ty : xTy} {h : xH} {k5 : Nat → Int32 → Int32 → Int32 → Int32 → Option (Int32)} {v0 : Nat} {v1 : Int32} {v2 : Int32} {v3 : Int32} {v4 : Int32} {v5 : Int32} {r : Int32} {n : Nat} (h9 : jf_X12_wordAt_18 ty h k5 n v0 v1 v2 v3 v4 v5 = some r) : (xlim fun n => jf_X12_wordAt_18 ty h k5 n v0 v1 v2 v3 v4 v5) = some r := xlim_at (fun n _ => jf_X12_wordAt_18_m n _ _ _ _ _ _) h9
theorem jf_X12_wordAt_5_m {ty : xTy} {h : xH} {r : Int32} : ∀ (n : Nat) (v0 : Nat) (v1 : Int32) (v2 : Int32) (v3 : Int32) (v4 : Int32), jf_X12_wordAt_5 ty h n v0 v1 v2 v3 v4 = some r → jf_X12_wordAt_5 ty h (n + 1) v0 v1 v2 v3 v4 = some r := by
  intro n
  induction n with
  | zero => intro v0 v1 v2 v3 v4 h9; cases h9
  | succ n hm5 =>
    intro v0 v1 v2 v3 v4 h9
    rw [jf_X12_wordAt_5_s] at h9 ⊢
    exact (fun h9 => xbd_mono h9 (fun _ => (fun h9 => xbd_mono h9 (fun _ => (fun h9 => xif_mono h9 (fun h9 => h9) (fun h9 => xlim_mono h9 (fun n9 => jf_X12_wordAt_18_k hm5 n9 _ _ _ _ _ _))))))) h9
theorem jf_X12_wordAt_5_l {ty : xTy} {h : xH} {v0 : Nat} {v1 : Int32} {v2 : Int32} {v3 : Int32} {v4 : Int32} {r : Int32} {n : Nat} (h9 : jf_X12_wordAt_5 ty h n v0 v1 v2 v3 v4 = some r) : (xlim fun n => jf_X12_wordAt_5 ty h n v0 v1 v2 v3 v4) = some r := xlim_at (fun n _ => jf_X12_wordAt_5_m n _ _ _ _ _) h9
theorem jf_X12_packed_5_m {ty : xTy} {h : xH} {r : Int32} : ∀ (n : Nat) (v0 : Nat) (v1 : Int32) (v2 : Int32) (v3 : Int32) (v4 : Int32), jf_X12_packed_5 ty h n v0 v1 v2 v3 v4 = some r → jf_X12_packed_5 ty h (n + 1) v0 v1 v2 v3 v4 = some r := by
  intro n
  induction n with
  | zero => intro v0 v1 v2 v3 v4 h9; cases h9
  | succ n hm5 =>
    intro v0 v1 v2 v3 v4 h9
    rw [jf_X12_packed_5_s] at h9 ⊢
    exact (fun h9 => xif_mono h9 (fun h9 => h9) (fun h9 => xif_mono h9 (hm5 _ _ _ _ _) (fun h9 => xbd_mono h9 (fun _ => (fun h9 => xbd_mono h9 (fun _ => (hm5 _ _ _ _ _))))))) h9
theorem jf_X12_packed_5_l {ty : xTy} {h : xH} {v0 : Nat} {v1 : Int32} {v2 : Int32} {v3 : Int32} {v4 : Int32} {r : Int32} {n : Nat} (h9 : jf_X12_packed_5 ty h n v0 v1 v2 v3 v4 = some r) : (xlim fun n => jf_X12_packed_5 ty h n v0 v1 v2 v3 v4) = some r := xlim_at (fun n _ => jf_X12_packed_5_m n _ _ _ _ _) h9

theorem jf_X12_token_213_m {ty : xTy} {r : xH} : ∀ (n : Nat) (v0 : Nat) (h : xH), jf_X12_token_213 ty n v0 h = some r → jf_X12_token_213 ty (n + 1) v0 h = some r := by
  intro n
  induction n with
  | zero => intro v0 h h9; cases h9
  | succ n hm213 =>
    intro v0 h h9
    rw [jf_X12_token_213_s] at h9 ⊢
    exact (fun h9 => xbd_mono h9 (fun _ => (fun h9 => xif_mono h9 (fun h9 => h9) (fun h9 => xif_mono h9 (fun h9 => xbd_mono h9 (fun _ => (fun h9 => xbd_mono h9 (fun _ => (fun h9 => xbd_mono h9 (fun _ => (fun h9 => xbd_mono h9 (fun _ => (hm213 _ _))))))))) (fun h9 => xbd_mono h9 (fun _ => (fun h9 => xbd_mono h9 (fun _ => (hm213 _ _))))))))) h9
theorem jf_X12_token_213_l {ty : xTy} {v0 : Nat} {h : xH} {r : xH} {n : Nat} (h9 : jf_X12_token_213 ty n v0 h = some r) : (xlim fun n => jf_X12_token_213 ty n v0 h) = some r := xlim_at (fun n _ => jf_X12_token_213_m n _ _) h9
theorem jf_X12_token_90_m {ty : xTy} {r : xH} : ∀ (n : Nat) (v0 : Nat) (h : xH), jf_X12_token_90 ty n v0 h = some r → jf_X12_token_90 ty (n + 1) v0 h = some r := by
  intro n
  induction n with
  | zero => intro v0 h h9; cases h9
  | succ n hm90 =>
    intro v0 h h9
    rw [jf_X12_token_90_s] at h9 ⊢
    exact (fun h9 => xbd_mono h9 (fun _ => (fun h9 => xif_mono h9 (fun h9 => h9) (fun h9 => xbd_mono h9 (fun _ => (hm90 _ _)))))) h9
theorem jf_X12_token_90_l {ty : xTy} {v0 : Nat} {h : xH} {r : xH} {n : Nat} (h9 : jf_X12_token_90 ty n v0 h = some r) : (xlim fun n => jf_X12_token_90 ty n v0 h) = some r := xlim_at (fun n _ => jf_X12_token_90_m n _ _) h9
theorem jf_X12_token_0_m {ty : xTy} {r : xH} : ∀ (n : Nat) (v0 : Nat) (h : xH), jf_X12_token_0 ty n v0 h = some r → jf_X12_token_0 ty (n + 1) v0 h = some r := by
  intro n
  induction n with
  | zero => intro v0 h h9; cases h9
  | succ n hm0 =>
    intro v0 h h9
    rw [jf_X12_token_0_s] at h9 ⊢
    exact (fun h9 => xif_mono h9 (fun h9 => h9) (fun h9 => xbd_mono h9 (fun _ => (fun h9 => xbd_mono h9 (fun _ => (fun h9 => xif_mono h9 (fun h9 => xbd_mono h9 (fun _ => (hm0 _ _))) (fun h9 => xbd_mono h9 (fun _ => (fun h9 => xbd_mono h9 (fun _ => (fun h9 => xif_mono h9 (fun h9 => xbd_mono h9 (fun _ => (hm0 _ _))) (fun h9 => h9)))))))))))) h9
theorem jf_X12_token_0_l {ty : xTy} {v0 : Nat} {h : xH} {r : xH} {n : Nat} (h9 : jf_X12_token_0 ty n v0 h = some r) : (xlim fun n => jf_X12_token_0 ty n v0 h) = some r := xlim_at (fun n _ => jf_X12_token_0_m n _ _) h9
theorem jf_X12_copies_2_m {ty : xTy} {r : xH} : ∀ (n : Nat) (v0 : Nat) (v1 : Int32) (v2 : Int32) (h : xH), jf_X12_copies_2 ty n v0 v1 v2 h = some r → jf_X12_copies_2 ty (n + 1) v0 v1 v2 h = some r := by
  intro n
  induction n with
  | zero => intro v0 v1 v2 h h9; cases h9
  | succ n hm2 =>
    intro v0 v1 v2 h h9
    rw [jf_X12_copies_2_s] at h9 ⊢
    exact (fun h9 => xif_mono h9 (fun h9 => h9) (fun h9 => xbd_mono h9 (fun _ => (fun h9 => xbd_mono h9 (fun _ => (hm2 _ _ _ _)))))) h9
theorem jf_X12_copies_2_l {ty : xTy} {v0 : Nat} {v1 : Int32} {v2 : Int32} {h : xH} {r : xH} {n : Nat} (h9 : jf_X12_copies_2 ty n v0 v1 v2 h = some r) : (xlim fun n => jf_X12_copies_2 ty n v0 v1 v2 h) = some r := xlim_at (fun n _ => jf_X12_copies_2_m n _ _ _ _) h9
theorem jf_X12_find_3_m {ty : xTy} {h : xH} {r : Int32} : ∀ (n : Nat) (v0 : Nat) (v1 : Int32) (v2 : Int32) (v3 : Int32) (v4 : Int32), jf_X12_find_3 ty h n v0 v1 v2 v3 v4 = some r → jf_X12_find_3 ty h (n + 1) v0 v1 v2 v3 v4 = some r := by
  intro n
  induction n with
  | zero => intro v0 v1 v2 v3 v4 h9; cases h9
  | succ n hm3 =>
    intro v0 v1 v2 v3 v4 h9
    rw [jf_X12_find_3_s] at h9 ⊢
    exact (fun h9 => xif_mono h9 (fun h9 => h9) (fun h9 => xbd_mono h9 (fun _ => (fun h9 => xif_mono h9 (fun h9 => h9) (hm3 _ _ _ _ _))))) h9
theorem jf_X12_find_3_l {ty : xTy} {h : xH} {v0 : Nat} {v1 : Int32} {v2 : Int32} {v3 : Int32} {v4 : Int32} {r : Int32} {n : Nat} (h9 : jf_X12_find_3 ty h n v0 v1 v2 v3 v4 = some r) : (xlim fun n => jf_X12_find_3 ty h n v0 v1 v2 v3 v4) = some r := xlim_at (fun n _ => jf_X12_find_3_m n _ _ _ _ _) h9

theorem jf_X12_termRead_240_k {ty : xTy} {k7 k7' : Nat → Int32 → Int32 → Int32 → xH → Option (Int32 × xH)} {k188 k188' : Nat → Int32 → Int32 → Int32 → Int32 → xH → Option (Int32 × xH)} {r : Int32 × xH} (hm7 : ∀ (v0 : Nat) (v1 : Int32) (v2 : Int32) (v3 : Int32) (h : xH), k7 v0 v1 v2 v3 h = some r → k7' v0 v1 v2 v3 h = some r) (hm188 : ∀ (v0 : Nat) (v1 : Int32) (v2 : Int32) (v3 : Int32) (v6 : Int32) (h : xH), k188 v0 v1 v2 v3 v6 h = some r → k188' v0 v1 v2 v3 v6 h = some r) : ∀ (v0 : Nat) (v1 : Int32) (v2 : Int32) (v3 : Int32) (v6 : Int32) (s0 : Nat) (s1 : Int32) (h : xH), jf_X12_termRead_240 ty k7 k188 v0 v1 v2 v3 v6 s0 s1 h = some r → jf_X12_termRead_240 ty k7' k188' v0 v1 v2 v3 v6 s0 s1 h = some r := by
  intro v0 v1 v2 v3 v6 s0 s1 h h9
  unfold jf_X12_termRead_240 at h9 ⊢
  exact (fun h9 => xbd_mono h9 (fun _ => (fun h9 => xif_mono h9 (fun h9 => h9) (fun h9 => xbd_mono h9 (fun _ => (fun h9 => xif_mono h9 (hm188 _ _ _ _ _ _) (hm188 _ _ _ _ _ _))))))) h9
theorem jf_X12_termRead_188_k {ty : xTy} {k7 k7' : Nat → Int32 → Int32 → Int32 → xH → Option (Int32 × xH)} {r : Int32 × xH} (hm7 : ∀ (v0 : Nat) (v1 : Int32) (v2 : Int32) (v3 : Int32) (h : xH), k7 v0 v1 v2 v3 h = some r → k7' v0 v1 v2 v3 h = some r) : ∀ (n : Nat) (v0 : Nat) (v1 : Int32) (v2 : Int32) (v3 : Int32) (v6 : Int32) (h : xH), jf_X12_termRead_188 ty k7 n v0 v1 v2 v3 v6 h = some r → jf_X12_termRead_188 ty k7' n v0 v1 v2 v3 v6 h = some r := by
  intro n
  induction n with
  | zero => intro v0 v1 v2 v3 v6 h h9; cases h9
  | succ n hm188 =>
    intro v0 v1 v2 v3 v6 h h9
    rw [jf_X12_termRead_188_s] at h9 ⊢
    exact (fun h9 => xif_mono h9 (fun h9 => xif_mono h9 (fun h9 => h9) (hm7 _ _ _ _ _)) (fun h9 => xif_mono h9 (fun h9 => xbd_mono h9 (fun _ => (fun h9 => xbd_mono h9 (fun _ => (fun h9 => xbd_mono h9 (fun _ => (fun h9 => xbd_mono h9 (fun _ => (fun h9 => xbd_mono h9 (fun _ => (fun h9 => xif_mono h9 (fun h9 => xif_mono h9 (jf_X12_termRead_240_k hm7 hm188 _ _ _ _ _ _ _ _) (jf_X12_termRead_240_k hm7 hm188 _ _ _ _ _ _ _ _)) (fun h9 => xif_mono h9 (jf_X12_termRead_240_k hm7 hm188 _ _ _ _ _ _ _ _) (jf_X12_termRead_240_k hm7 hm188 _ _ _ _ _ _ _ _))))))))))))) (fun h9 => xif_mono h9 (fun h9 => h9) (hm7 _ _ _ _ _)))) h9
theorem jf_X12_termRead_188_m {ty : xTy} {k7 : Nat → Int32 → Int32 → Int32 → xH → Option (Int32 × xH)} {r : Int32 × xH} : ∀ (n : Nat) (v0 : Nat) (v1 : Int32) (v2 : Int32) (v3 : Int32) (v6 : Int32) (h : xH), jf_X12_termRead_188 ty k7 n v0 v1 v2 v3 v6 h = some r → jf_X12_termRead_188 ty k7 (n + 1) v0 v1 v2 v3 v6 h = some r := by
  intro n
  induction n with
  | zero => intro v0 v1 v2 v3 v6 h h9; cases h9
  | succ n hm188 =>
    have hm7 : ∀ (v0 : Nat) (v1 : Int32) (v2 : Int32) (v3 : Int32) (h : xH), k7 v0 v1 v2 v3 h = some r → k7 v0 v1 v2 v3 h = some r := fun _ _ _ _ _ h9 => h9
    intro v0 v1 v2 v3 v6 h h9
    rw [jf_X12_termRead_188_s] at h9 ⊢
    exact (fun h9 => xif_mono h9 (fun h9 => xif_mono h9 (fun h9 => h9) (hm7 _ _ _ _ _)) (fun h9 => xif_mono h9 (fun h9 => xbd_mono h9 (fun _ => (fun h9 => xbd_mono h9 (fun _ => (fun h9 => xbd_mono h9 (fun _ => (fun h9 => xbd_mono h9 (fun _ => (fun h9 => xbd_mono h9 (fun _ => (fun h9 => xif_mono h9 (fun h9 => xif_mono h9 (jf_X12_termRead_240_k hm7 hm188 _ _ _ _ _ _ _ _) (jf_X12_termRead_240_k hm7 hm188 _ _ _ _ _ _ _ _)) (fun h9 => xif_mono h9 (jf_X12_termRead_240_k hm7 hm188 _ _ _ _ _ _ _ _) (jf_X12_termRead_240_k hm7 hm188 _ _ _ _ _ _ _ _))))))))))))) (fun h9 => xif_mono h9 (fun h9 => h9) (hm7 _ _ _ _ _)))) h9
theorem jf_X12_termRead_188_l {ty : xTy} {k7 : Nat → Int32 → Int32 → Int32 → xH → Option (Int32 × xH)} {v0 : Nat} {v1 : Int32} {v2 : Int32} {v3 : Int32} {v6 : Int32} {h : xH} {r : Int32 × xH} {n : Nat} (h9 : jf_X12_termRead_188 ty k7 n v0 v1 v2 v3 v6 h = some r) : (xlim fun n => jf_X12_termRead_188 ty k7 n v0 v1 v2 v3 v6 h) = some r := xlim_at (fun n _ => jf_X12_termRead_188_m n _ _ _ _ _ _) h9
theorem jf_X12_termRead_145_k {ty : xTy} {k7 k7' : Nat → Int32 → Int32 → Int32 → xH → Option (Int32 × xH)} {r : Int32 × xH} (hm7 : ∀ (v0 : Nat) (v1 : Int32) (v2 : Int32) (v3 : Int32) (h : xH), k7 v0 v1 v2 v3 h = some r → k7' v0 v1 v2 v3 h = some r) : ∀ (v0 : Nat) (v1 : Int32) (v2 : Int32) (v3 : Int32) (s0 : Int32) (h : xH), jf_X12_termRead_145 ty k7 v0 v1 v2 v3 s0 h = some r → jf_X12_termRead_145 ty k7' v0 v1 v2 v3 s0 h = some r := by
  intro v0 v1 v2 v3 s0 h h9
  unfold jf_X12_termRead_145 at h9 ⊢
  exact (fun h9 => xif_mono h9 (fun h9 => xlim_mono h9 (fun n9 => jf_X12_termRead_188_k hm7 n9 _ _ _ _ _ _)) (fun h9 => xbd_mono h9 (fun _ => (fun h9 => xif_mono h9 (fun h9 => h9) (fun h9 => xbd_mono h9 (fun _ => (fun h9 => xbd_mono h9 (fun _ => (fun h9 => xbd_mono h9 (fun _ => (hm7 _ _ _ _ _))))))))))) h9
theorem jf_X12_termRead_97_k {ty : xTy} {k7 k7' : Nat → Int32 → Int32 → Int32 → xH → Option (Int32 × xH)} {r : Int32 × xH} (hm7 : ∀ (v0 : Nat) (v1 : Int32) (v2 : Int32) (v3 : Int32) (h : xH), k7 v0 v1 v2 v3 h = some r → k7' v0 v1 v2 v3 h = some r) : ∀ (v0 : Nat) (v1 : Int32) (v2 : Int32) (v3 : Int32) (v4 : Int32) (h : xH), jf_X12_termRead_97 ty k7 v0 v1 v2 v3 v4 h = some r → jf_X12_termRead_97 ty k7' v0 v1 v2 v3 v4 h = some r := by
  intro v0 v1 v2 v3 v4 h h9
  unfold jf_X12_termRead_97 at h9 ⊢
  exact (fun h9 => xbd_mono h9 (fun _ => (fun h9 => xbd_mono h9 (fun _ => (fun h9 => xbd_mono h9 (fun _ => (fun h9 => xbd_mono h9 (fun _ => (fun h9 => xif_mono h9 (jf_X12_termRead_145_k hm7 _ _ _ _ _ _) (fun h9 => xbd_mono h9 (fun _ => (fun h9 => xbd_mono h9 (fun _ => (jf_X12_termRead_145_k hm7 _ _ _ _ _ _)))))))))))))) h9
theorem jf_X12_termRead_7_m {ty : xTy} {r : Int32 × xH} : ∀ (n : Nat) (v0 : Nat) (v1 : Int32) (v2 : Int32) (v3 : Int32) (h : xH), jf_X12_termRead_7 ty n v0 v1 v2 v3 h = some r → jf_X12_termRead_7 ty (n + 1) v0 v1 v2 v3 h = some r := by
  intro n
  induction n with
  | zero => intro v0 v1 v2 v3 h h9; cases h9
  | succ n hm7 =>
    intro v0 v1 v2 v3 h h9
    rw [jf_X12_termRead_7_s] at h9 ⊢
    exact (fun h9 => xif_mono h9 (fun h9 => xif_mono h9 (fun h9 => h9) (fun h9 => xbd_mono h9 (fun _ => (fun h9 => xif_mono h9 (fun h9 => xif_mono h9 (jf_X12_termRead_97_k hm7 _ _ _ _ _ _) (fun h9 => xif_mono h9 (jf_X12_termRead_97_k hm7 _ _ _ _ _ _) (fun h9 => xbd_mono h9 (fun _ => (fun h9 => xbd_mono h9 (fun _ => (fun h9 => xbd_mono h9 (fun _ => (fun h9 => xbd_mono h9 (fun _ => (fun h9 => xif_mono h9 (jf_X12_termRead_97_k hm7 _ _ _ _ _ _) (fun h9 => h9)))))))))))) (fun h9 => h9))))) (fun h9 => h9)) h9
theorem jf_X12_termRead_7_l {ty : xTy} {v0 : Nat} {v1 : Int32} {v2 : Int32} {v3 : Int32} {h : xH} {r : Int32 × xH} {n : Nat} (h9 : jf_X12_termRead_7 ty n v0 v1 v2 v3 h = some r) : (xlim fun n => jf_X12_termRead_7 ty n v0 v1 v2 v3 h) = some r := xlim_at (fun n _ => jf_X12_termRead_7_m n _ _ _ _ _) h9
theorem jf_X12_ruleLine_175_m {ty : xTy} {r : Int32 × xH} : ∀ (n : Nat) (v0 : Nat) (v1 : Int32) (v2 : Int32) (h : xH), jf_X12_ruleLine_175 ty n v0 v1 v2 h = some r → jf_X12_ruleLine_175 ty (n + 1) v0 v1 v2 h = some r := by
  intro n
  induction n with
  | zero => intro v0 v1 v2 h h9; cases h9
  | succ n hm175 =>
    intro v0 v1 v2 h h9
    rw [jf_X12_ruleLine_175_s] at h9 ⊢
    exact (fun h9 => xif_mono h9 (fun h9 => h9) (fun h9 => xbd_mono h9 (fun _ => (fun h9 => xbd_mono h9 (fun _ => (fun h9 => xbd_mono h9 (fun _ => (fun h9 => xbd_mono h9 (fun _ => (hm175 _ _ _ _)))))))))) h9
theorem jf_X12_ruleLine_175_l {ty : xTy} {v0 : Nat} {v1 : Int32} {v2 : Int32} {h : xH} {r : Int32 × xH} {n : Nat} (h9 : jf_X12_ruleLine_175 ty n v0 v1 v2 h = some r) : (xlim fun n => jf_X12_ruleLine_175 ty n v0 v1 v2 h) = some r := xlim_at (fun n _ => jf_X12_ruleLine_175_m n _ _ _ _) h9
theorem jf_X12_ruleLine_94_m {ty : xTy} {r : Int32 × xH} : ∀ (n : Nat) (v0 : Nat) (v1 : Int32) (v2 : Int32) (h : xH), jf_X12_ruleLine_94 ty n v0 v1 v2 h = some r → jf_X12_ruleLine_94 ty (n + 1) v0 v1 v2 h = some r := by
  intro n
  induction n with
  | zero => intro v0 v1 v2 h h9; cases h9
  | succ n hm94 =>
    intro v0 v1 v2 h h9
    rw [jf_X12_ruleLine_94_s] at h9 ⊢
    exact (fun h9 => xif_mono h9 (fun h9 => h9) (fun h9 => xbd_mono h9 (fun _ => (fun h9 => xbd_mono h9 (fun _ => (fun h9 => xbd_mono h9 (fun _ => (fun h9 => xbd_mono h9 (fun _ => (hm94 _ _ _ _)))))))))) h9
theorem jf_X12_ruleLine_94_l {ty : xTy} {v0 : Nat} {v1 : Int32} {v2 : Int32} {h : xH} {r : Int32 × xH} {n : Nat} (h9 : jf_X12_ruleLine_94 ty n v0 v1 v2 h = some r) : (xlim fun n => jf_X12_ruleLine_94 ty n v0 v1 v2 h) = some r := xlim_at (fun n _ => jf_X12_ruleLine_94_m n _ _ _ _) h9

theorem jf_X12_text_31_m {ty : xTy} {r : Int32 × xH} : ∀ (n : Nat) (v0 : Nat) (v2 : Int32) (h : xH), jf_X12_text_31 ty n v0 v2 h = some r → jf_X12_text_31 ty (n + 1) v0 v2 h = some r := by
  intro n
  induction n with
  | zero => intro v0 v2 h h9; cases h9
  | succ n hm31 =>
    intro v0 v2 h h9
    rw [jf_X12_text_31_s] at h9 ⊢
    exact (fun h9 => xif_mono h9 (fun h9 => h9) (fun h9 => xb2_mono h9 (fun _ _ => (fun h9 => xif_mono h9 (fun h9 => h9) (hm31 _ _ _))))) h9
theorem jf_X12_text_31_l {ty : xTy} {v0 : Nat} {v2 : Int32} {h : xH} {r : Int32 × xH} {n : Nat} (h9 : jf_X12_text_31 ty n v0 v2 h = some r) : (xlim fun n => jf_X12_text_31 ty n v0 v2 h) = some r := xlim_at (fun n _ => jf_X12_text_31_m n _ _ _) h9
theorem jf_X12_asks_2_m {ty : xTy} {r : xH} : ∀ (n : Nat) (v0 : Nat) (v1 : Int32) (h : xH), jf_X12_asks_2 ty n v0 v1 h = some r → jf_X12_asks_2 ty (n + 1) v0 v1 h = some r := by
  intro n
  induction n with
  | zero => intro v0 v1 h h9; cases h9
  | succ n hm2 =>
    intro v0 v1 h h9
    rw [jf_X12_asks_2_s] at h9 ⊢
    exact (fun h9 => xif_mono h9 (fun h9 => h9) (fun h9 => xbd_mono h9 (fun _ => (fun h9 => xbd_mono h9 (fun _ => (fun h9 => xbd_mono h9 (fun _ => (fun h9 => xbd_mono h9 (fun _ => (hm2 _ _ _)))))))))) h9
theorem jf_X12_asks_2_l {ty : xTy} {v0 : Nat} {v1 : Int32} {h : xH} {r : xH} {n : Nat} (h9 : jf_X12_asks_2 ty n v0 v1 h = some r) : (xlim fun n => jf_X12_asks_2 ty n v0 v1 h) = some r := xlim_at (fun n _ => jf_X12_asks_2_m n _ _ _) h9
theorem jf_X12_endOf_5_m {ty : xTy} {h : xH} {r : Int32} : ∀ (n : Nat) (v0 : Nat) (v2 : Nat) (v3 : Int32) (v4 : Int32), jf_X12_endOf_5 ty h n v0 v2 v3 v4 = some r → jf_X12_endOf_5 ty h (n + 1) v0 v2 v3 v4 = some r := by
  intro n
  induction n with
  | zero => intro v0 v2 v3 v4 h9; cases h9
  | succ n hm5 =>
    intro v0 v2 v3 v4 h9
    rw [jf_X12_endOf_5_s] at h9 ⊢
    exact (fun h9 => xif_mono h9 (fun h9 => h9) (fun h9 => xbd_mono h9 (fun _ => (fun h9 => xif_mono h9 (hm5 _ _ _ _) (fun h9 => xbd_mono h9 (fun _ => (hm5 _ _ _ _))))))) h9
theorem jf_X12_endOf_5_l {ty : xTy} {h : xH} {v0 : Nat} {v2 : Nat} {v3 : Int32} {v4 : Int32} {r : Int32} {n : Nat} (h9 : jf_X12_endOf_5 ty h n v0 v2 v3 v4 = some r) : (xlim fun n => jf_X12_endOf_5 ty h n v0 v2 v3 v4) = some r := xlim_at (fun n _ => jf_X12_endOf_5_m n _ _ _ _) h9
theorem jf_X12_clears_7_m {ty : xTy} {r : xH} : ∀ (n : Nat) (v0 : Nat) (v1 : Int32) (h : xH), jf_X12_clears_7 ty n v0 v1 h = some r → jf_X12_clears_7 ty (n + 1) v0 v1 h = some r := by
  intro n
  induction n with
  | zero => intro v0 v1 h h9; cases h9
  | succ n hm7 =>
    intro v0 v1 h h9
    rw [jf_X12_clears_7_s] at h9 ⊢
    exact (fun h9 => xif_mono h9 (fun h9 => h9) (fun h9 => xbd_mono h9 (fun _ => (fun h9 => xbd_mono h9 (fun _ => (hm7 _ _ _)))))) h9
theorem jf_X12_clears_7_l {ty : xTy} {v0 : Nat} {v1 : Int32} {h : xH} {r : xH} {n : Nat} (h9 : jf_X12_clears_7 ty n v0 v1 h = some r) : (xlim fun n => jf_X12_clears_7 ty n v0 v1 h) = some r := xlim_at (fun n _ => jf_X12_clears_7_m n _ _ _) h9
theorem jf_X12_puts_9_m {ty : xTy} {r : Int32 × xH} : ∀ (n : Nat) (v0 : Nat) (v1 : Nat) (v2 : Int32) (v3 : Int32) (v4 : Int32) (v5 : Int32) (v6 : Int32) (h : xH), jf_X12_puts_9 ty n v0 v1 v2 v3 v4 v5 v6 h = some r → jf_X12_puts_9 ty (n + 1) v0 v1 v2 v3 v4 v5 v6 h = some r := by
  intro n
  induction n with
  | zero => intro v0 v1 v2 v3 v4 v5 v6 h h9; cases h9
  | succ n hm9 =>
    intro v0 v1 v2 v3 v4 v5 v6 h h9
    rw [jf_X12_puts_9_s] at h9 ⊢
    exact (fun h9 => xif_mono h9 (fun h9 => h9) (fun h9 => xbd_mono h9 (fun _ => (fun h9 => xbd_mono h9 (fun _ => (fun h9 => xif_mono h9 (fun h9 => xif_mono h9 (fun h9 => xif_mono h9 (fun h9 => xbd_mono h9 (fun _ => (hm9 _ _ _ _ _ _ _ _))) (fun h9 => xbd_mono h9 (fun _ => (hm9 _ _ _ _ _ _ _ _)))) (fun h9 => xbd_mono h9 (fun _ => (hm9 _ _ _ _ _ _ _ _)))) (fun h9 => xbd_mono h9 (fun _ => (hm9 _ _ _ _ _ _ _ _))))))))) h9
theorem jf_X12_puts_9_l {ty : xTy} {v0 : Nat} {v1 : Nat} {v2 : Int32} {v3 : Int32} {v4 : Int32} {v5 : Int32} {v6 : Int32} {h : xH} {r : Int32 × xH} {n : Nat} (h9 : jf_X12_puts_9 ty n v0 v1 v2 v3 v4 v5 v6 h = some r) : (xlim fun n => jf_X12_puts_9 ty n v0 v1 v2 v3 v4 v5 v6 h) = some r := xlim_at (fun n _ => jf_X12_puts_9_m n _ _ _ _ _ _ _ _) h9
theorem jf_X12_isAlike_24_m {ty : xTy} {h : xH} {r : Int32} : ∀ (n : Nat) (v0 : Nat) (v1 : Int32) (v2 : Int32) (v3 : Int32) (v4 : Int32), jf_X12_isAlike_24 ty h n v0 v1 v2 v3 v4 = some r → jf_X12_isAlike_24 ty h (n + 1) v0 v1 v2 v3 v4 = some r := by
  intro n
  induction n with
  | zero => intro v0 v1 v2 v3 v4 h9; cases h9
  | succ n hm24 =>
    intro v0 v1 v2 v3 v4 h9
    rw [jf_X12_isAlike_24_s] at h9 ⊢
    exact (fun h9 => xif_mono h9 (fun h9 => h9) (fun h9 => xbd_mono h9 (fun _ => (fun h9 => xbd_mono h9 (fun _ => (fun h9 => xbd_mono h9 (fun _ => (fun h9 => xbd_mono h9 (fun _ => (fun h9 => xif_mono h9 (hm24 _ _ _ _ _) (fun h9 => h9))))))))))) h9
theorem jf_X12_isAlike_24_l {ty : xTy} {h : xH} {v0 : Nat} {v1 : Int32} {v2 : Int32} {v3 : Int32} {v4 : Int32} {r : Int32} {n : Nat} (h9 : jf_X12_isAlike_24 ty h n v0 v1 v2 v3 v4 = some r) : (xlim fun n => jf_X12_isAlike_24 ty h n v0 v1 v2 v3 v4) = some r := xlim_at (fun n _ => jf_X12_isAlike_24_m n _ _ _ _ _) h9
theorem jf_X12_isMade_12_m {ty : xTy} {r : Int32 × xH} : ∀ (n : Nat) (v0 : Nat) (v3 : Int32) (v4 : Int32) (v5 : Int32) (h : xH), jf_X12_isMade_12 ty n v0 v3 v4 v5 h = some r → jf_X12_isMade_12 ty (n + 1) v0 v3 v4 v5 h = some r := by
  intro n
  induction n with
  | zero => intro v0 v3 v4 v5 h h9; cases h9
  | succ n hm12 =>
    intro v0 v3 v4 v5 h h9
    rw [jf_X12_isMade_12_s] at h9 ⊢
    exact (fun h9 => xif_mono h9 (fun h9 => h9) (fun h9 => xbd_mono h9 (fun _ => (fun h9 => xbd_mono h9 (fun _ => (fun h9 => xif_mono h9 (fun h9 => xbd_mono h9 (fun _ => (fun h9 => xbd_mono h9 (fun _ => (fun h9 => xif_mono h9 (fun h9 => xbd_mono h9 (fun _ => (fun h9 => xbd_mono h9 (fun _ => (fun h9 => xbd_mono h9 (fun _ => (hm12 _ _ _ _ _))))))) (fun h9 => xbd_mono h9 (fun _ => (fun h9 => xbd_mono h9 (fun _ => (fun h9 => xbd_mono h9 (fun _ => (fun h9 => xif_mono h9 (fun h9 => h9) (fun h9 => xbd_mono h9 (fun _ => (fun h9 => xbd_mono h9 (fun _ => (fun h9 => xbd_mono h9 (fun _ => (hm12 _ _ _ _ _))))))))))))))))))) (fun h9 => xbd_mono h9 (fun _ => (fun h9 => xbd_mono h9 (fun _ => (fun h9 => xif_mono h9 (hm12 _ _ _ _ _) (fun h9 => h9)))))))))))) h9
theorem jf_X12_isMade_12_l {ty : xTy} {v0 : Nat} {v3 : Int32} {v4 : Int32} {v5 : Int32} {h : xH} {r : Int32 × xH} {n : Nat} (h9 : jf_X12_isMade_12 ty n v0 v3 v4 v5 h = some r) : (xlim fun n => jf_X12_isMade_12 ty n v0 v3 v4 v5 h) = some r := xlim_at (fun n _ => jf_X12_isMade_12_m n _ _ _ _ _) h9
theorem jf_X12_led_2_m {ty : xTy} {h : xH} {r : Int32} : ∀ (n : Nat) (v0 : Nat) (v2 : Int32), jf_X12_led_2 ty h n v0 v2 = some r → jf_X12_led_2 ty h (n + 1) v0 v2 = some r := by
  intro n
  induction n with
  | zero => intro v0 v2 h9; cases h9
  | succ n hm2 =>
    intro v0 v2 h9
    rw [jf_X12_led_2_s] at h9 ⊢
    exact (fun h9 => xbd_mono h9 (fun _ => (fun h9 => xbd_mono h9 (fun _ => (fun h9 => xif_mono h9 (fun h9 => h9) (fun h9 => xbd_mono h9 (fun _ => (fun h9 => xbd_mono h9 (fun _ => (fun h9 => xbd_mono h9 (fun _ => (fun h9 => xbd_mono h9 (fun _ => (fun h9 => xif_mono h9 (fun h9 => h9) (fun h9 => xbd_mono h9 (fun _ => (fun h9 => xbd_mono h9 (fun _ => (fun h9 => xbd_mono h9 (fun _ => (fun h9 => xbd_mono h9 (fun _ => (hm2 _ _))))))))))))))))))))))) h9
theorem jf_X12_led_2_l {ty : xTy} {h : xH} {v0 : Nat} {v2 : Int32} {r : Int32} {n : Nat} (h9 : jf_X12_led_2 ty h n v0 v2 = some r) : (xlim fun n => jf_X12_led_2 ty h n v0 v2) = some r := xlim_at (fun n _ => jf_X12_led_2_m n _ _) h9
theorem jf_X12_isWithin_50_k {ty : xTy} {k9 k9' : Nat → Int32 → Int32 → xH → Option (Int32 × xH)} {r : Int32 × xH} (hm9 : ∀ (v0 : Nat) (v1 : Int32) (v3 : Int32) (h : xH), k9 v0 v1 v3 h = some r → k9' v0 v1 v3 h = some r) : ∀ (n : Nat) (v0 : Nat) (v1 : Int32) (v3 : Int32) (v4 : Int32) (v5 : Int32) (v6 : Int32) (h : xH), jf_X12_isWithin_50 ty k9 n v0 v1 v3 v4 v5 v6 h = some r → jf_X12_isWithin_50 ty k9' n v0 v1 v3 v4 v5 v6 h = some r := by
  intro n
  induction n with
  | zero => intro v0 v1 v3 v4 v5 v6 h h9; cases h9
  | succ n hm50 =>
    intro v0 v1 v3 v4 v5 v6 h h9
    rw [jf_X12_isWithin_50_s] at h9 ⊢
    exact (fun h9 => xbd_mono h9 (fun _ => (fun h9 => xbd_mono h9 (fun _ => (fun h9 => xbd_mono h9 (fun _ => (fun h9 => xif_mono h9 (hm9 _ _ _ _) (fun h9 => xbd_mono h9 (fun _ => (fun h9 => xbd_mono h9 (fun _ => (fun h9 => xbd_mono h9 (fun _ => (hm50 _ _ _ _ _ _ _)))))))))))))) h9
theorem jf_X12_isWithin_50_m {ty : xTy} {k9 : Nat → Int32 → Int32 → xH → Option (Int32 × xH)} {r : Int32 × xH} : ∀ (n : Nat) (v0 : Nat) (v1 : Int32) (v3 : Int32) (v4 : Int32) (v5 : Int32) (v6 : Int32) (h : xH), jf_X12_isWithin_50 ty k9 n v0 v1 v3 v4 v5 v6 h = some r → jf_X12_isWithin_50 ty k9 (n + 1) v0 v1 v3 v4 v5 v6 h = some r := by
  intro n
  induction n with
  | zero => intro v0 v1 v3 v4 v5 v6 h h9; cases h9
  | succ n hm50 =>
    have hm9 : ∀ (v0 : Nat) (v1 : Int32) (v3 : Int32) (h : xH), k9 v0 v1 v3 h = some r → k9 v0 v1 v3 h = some r := fun _ _ _ _ h9 => h9
    intro v0 v1 v3 v4 v5 v6 h h9
    rw [jf_X12_isWithin_50_s] at h9 ⊢
    exact (fun h9 => xbd_mono h9 (fun _ => (fun h9 => xbd_mono h9 (fun _ => (fun h9 => xbd_mono h9 (fun _ => (fun h9 => xif_mono h9 (hm9 _ _ _ _) (fun h9 => xbd_mono h9 (fun _ => (fun h9 => xbd_mono h9 (fun _ => (fun h9 => xbd_mono h9 (fun _ => (hm50 _ _ _ _ _ _ _)))))))))))))) h9
theorem jf_X12_isWithin_50_l {ty : xTy} {k9 : Nat → Int32 → Int32 → xH → Option (Int32 × xH)} {v0 : Nat} {v1 : Int32} {v3 : Int32} {v4 : Int32} {v5 : Int32} {v6 : Int32} {h : xH} {r : Int32 × xH} {n : Nat} (h9 : jf_X12_isWithin_50 ty k9 n v0 v1 v3 v4 v5 v6 h = some r) : (xlim fun n => jf_X12_isWithin_50 ty k9 n v0 v1 v3 v4 v5 v6 h) = some r := xlim_at (fun n _ => jf_X12_isWithin_50_m n _ _ _ _ _ _ _) h9
theorem jf_X12_isWithin_9_m {ty : xTy} {r : Int32 × xH} : ∀ (n : Nat) (v0 : Nat) (v1 : Int32) (v3 : Int32) (h : xH), jf_X12_isWithin_9 ty n v0 v1 v3 h = some r → jf_X12_isWithin_9 ty (n + 1) v0 v1 v3 h = some r := by
  intro n
  induction n with
  | zero => intro v0 v1 v3 h h9; cases h9
  | succ n hm9 =>
    intro v0 v1 v3 h h9
    rw [jf_X12_isWithin_9_s] at h9 ⊢
    exact (fun h9 => xif_mono h9 (fun h9 => h9) (fun h9 => xbd_mono h9 (fun _ => (fun h9 => xbd_mono h9 (fun _ => (fun h9 => xbd_mono h9 (fun _ => (fun h9 => xbd_mono h9 (fun _ => (fun h9 => xbd_mono h9 (fun _ => (fun h9 => xif_mono h9 (fun h9 => h9) (fun h9 => xlim_mono h9 (fun n9 => jf_X12_isWithin_50_k hm9 n9 _ _ _ _ _ _ _)))))))))))))) h9
theorem jf_X12_isWithin_9_l {ty : xTy} {v0 : Nat} {v1 : Int32} {v3 : Int32} {h : xH} {r : Int32 × xH} {n : Nat} (h9 : jf_X12_isWithin_9 ty n v0 v1 v3 h = some r) : (xlim fun n => jf_X12_isWithin_9 ty n v0 v1 v3 h) = some r := xlim_at (fun n _ => jf_X12_isWithin_9_m n _ _ _ _) h9
theorem jf_X12_isUnified_199_k {ty : xTy} {k16 k16' : Nat → Int32 → xH → Option (Int32 × xH)} {r : Int32 × xH} (hm16 : ∀ (v0 : Nat) (v3 : Int32) (h : xH), k16 v0 v3 h = some r → k16' v0 v3 h = some r) : ∀ (n : Nat) (v0 : Nat) (v3 : Int32) (v4 : Int32) (v6 : Int32) (v7 : Int32) (v8 : Int32) (h : xH), jf_X12_isUnified_199 ty k16 n v0 v3 v4 v6 v7 v8 h = some r → jf_X12_isUnified_199 ty k16' n v0 v3 v4 v6 v7 v8 h = some r := by
  intro n
  induction n with
  | zero => intro v0 v3 v4 v6 v7 v8 h h9; cases h9
  | succ n hm199 =>
    intro v0 v3 v4 v6 v7 v8 h h9
    rw [jf_X12_isUnified_199_s] at h9 ⊢
    exact (fun h9 => xbd_mono h9 (fun _ => (fun h9 => xbd_mono h9 (fun _ => (fun h9 => xbd_mono h9 (fun _ => (fun h9 => xif_mono h9 (hm16 _ _ _) (fun h9 => xbd_mono h9 (fun _ => (fun h9 => xbd_mono h9 (fun _ => (fun h9 => xbd_mono h9 (fun _ => (fun h9 => xbd_mono h9 (fun _ => (fun h9 => xbd_mono h9 (fun _ => (fun h9 => xbd_mono h9 (fun _ => (hm199 _ _ _ _ _ _ _)))))))))))))))))))) h9
theorem jf_X12_isUnified_199_m {ty : xTy} {k16 : Nat → Int32 → xH → Option (Int32 × xH)} {r : Int32 × xH} : ∀ (n : Nat) (v0 : Nat) (v3 : Int32) (v4 : Int32) (v6 : Int32) (v7 : Int32) (v8 : Int32) (h : xH), jf_X12_isUnified_199 ty k16 n v0 v3 v4 v6 v7 v8 h = some r → jf_X12_isUnified_199 ty k16 (n + 1) v0 v3 v4 v6 v7 v8 h = some r := by
  intro n
  induction n with
  | zero => intro v0 v3 v4 v6 v7 v8 h h9; cases h9
  | succ n hm199 =>
    have hm16 : ∀ (v0 : Nat) (v3 : Int32) (h : xH), k16 v0 v3 h = some r → k16 v0 v3 h = some r := fun _ _ _ h9 => h9
    intro v0 v3 v4 v6 v7 v8 h h9
    rw [jf_X12_isUnified_199_s] at h9 ⊢
    exact (fun h9 => xbd_mono h9 (fun _ => (fun h9 => xbd_mono h9 (fun _ => (fun h9 => xbd_mono h9 (fun _ => (fun h9 => xif_mono h9 (hm16 _ _ _) (fun h9 => xbd_mono h9 (fun _ => (fun h9 => xbd_mono h9 (fun _ => (fun h9 => xbd_mono h9 (fun _ => (fun h9 => xbd_mono h9 (fun _ => (fun h9 => xbd_mono h9 (fun _ => (fun h9 => xbd_mono h9 (fun _ => (hm199 _ _ _ _ _ _ _)))))))))))))))))))) h9
theorem jf_X12_isUnified_199_l {ty : xTy} {k16 : Nat → Int32 → xH → Option (Int32 × xH)} {v0 : Nat} {v3 : Int32} {v4 : Int32} {v6 : Int32} {v7 : Int32} {v8 : Int32} {h : xH} {r : Int32 × xH} {n : Nat} (h9 : jf_X12_isUnified_199 ty k16 n v0 v3 v4 v6 v7 v8 h = some r) : (xlim fun n => jf_X12_isUnified_199 ty k16 n v0 v3 v4 v6 v7 v8 h) = some r := xlim_at (fun n _ => jf_X12_isUnified_199_m n _ _ _ _ _ _ _) h9
theorem jf_X12_isUnified_115_k {ty : xTy} {k16 k16' : Nat → Int32 → xH → Option (Int32 × xH)} {r : Int32 × xH} (hm16 : ∀ (v0 : Nat) (v3 : Int32) (h : xH), k16 v0 v3 h = some r → k16' v0 v3 h = some r) : ∀ (v0 : Nat) (v3 : Int32) (v4 : Int32) (v5 : Int32) (h : xH), jf_X12_isUnified_115 ty k16 v0 v3 v4 v5 h = some r → jf_X12_isUnified_115 ty k16' v0 v3 v4 v5 h = some r := by
  intro v0 v3 v4 v5 h h9
  unfold jf_X12_isUnified_115 at h9 ⊢
  exact (fun h9 => xbd_mono h9 (fun _ => (fun h9 => xbd_mono h9 (fun _ => (fun h9 => xif_mono h9 (fun h9 => xbd_mono h9 (fun _ => (fun h9 => xbd_mono h9 (fun _ => (fun h9 => xbd_mono h9 (fun _ => (fun h9 => xbd_mono h9 (fun _ => (fun h9 => xif_mono h9 (fun h9 => xlim_mono h9 (fun n9 => jf_X12_isUnified_199_k hm16 n9 _ _ _ _ _ _ _)) (fun h9 => h9)))))))))) (fun h9 => xbd_mono h9 (fun _ => (fun h9 => xbd_mono h9 (fun _ => (fun h9 => xb2_mono h9 (fun _ _ => (fun h9 => xif_mono h9 (fun h9 => xbd_mono h9 (fun _ => (fun h9 => xbd_mono h9 (fun _ => (fun h9 => xbd_mono h9 (fun _ => (fun h9 => xbd_mono h9 (fun _ => (hm16 _ _ _))))))))) (fun h9 => h9))))))))))))) h9
theorem jf_X12_isUnified_79_k {ty : xTy} {k16 k16' : Nat → Int32 → xH → Option (Int32 × xH)} {r : Int32 × xH} (hm16 : ∀ (v0 : Nat) (v3 : Int32) (h : xH), k16 v0 v3 h = some r → k16' v0 v3 h = some r) : ∀ (v0 : Nat) (v3 : Int32) (v4 : Int32) (v5 : Int32) (h : xH), jf_X12_isUnified_79 ty k16 v0 v3 v4 v5 h = some r → jf_X12_isUnified_79 ty k16' v0 v3 v4 v5 h = some r := by
  intro v0 v3 v4 v5 h h9
  unfold jf_X12_isUnified_79 at h9 ⊢
  exact (fun h9 => xbd_mono h9 (fun _ => (fun h9 => xbd_mono h9 (fun _ => (fun h9 => xif_mono h9 (jf_X12_isUnified_115_k hm16 _ _ _ _ _) (fun h9 => xbd_mono h9 (fun _ => (fun h9 => xbd_mono h9 (fun _ => (fun h9 => xif_mono h9 (jf_X12_isUnified_115_k hm16 _ _ _ _ _) (jf_X12_isUnified_115_k hm16 _ _ _ _ _))))))))))) h9
theorem jf_X12_isUnified_16_m {ty : xTy} {r : Int32 × xH} : ∀ (n : Nat) (v0 : Nat) (v3 : Int32) (h : xH), jf_X12_isUnified_16 ty n v0 v3 h = some r → jf_X12_isUnified_16 ty (n + 1) v0 v3 h = some r := by
  intro n
  induction n with
  | zero => intro v0 v3 h h9; cases h9
  | succ n hm16 =>
    intro v0 v3 h h9
    rw [jf_X12_isUnified_16_s] at h9 ⊢
    exact (fun h9 => xif_mono h9 (fun h9 => h9) (fun h9 => xbd_mono h9 (fun _ => (fun h9 => xbd_mono h9 (fun _ => (fun h9 => xbd_mono h9 (fun _ => (fun h9 => xbd_mono h9 (fun _ => (fun h9 => xbd_mono h9 (fun _ => (fun h9 => xbd_mono h9 (fun _ => (fun h9 => xbd_mono h9 (fun _ => (fun h9 => xbd_mono h9 (fun _ => (fun h9 => xbd_mono h9 (fun _ => (fun h9 => xbd_mono h9 (fun _ => (fun h9 => xif_mono h9 (fun h9 => xbd_mono h9 (fun _ => (fun h9 => xbd_mono h9 (fun _ => (fun h9 => xif_mono h9 (jf_X12_isUnified_79_k hm16 _ _ _ _ _) (hm16 _ _ _)))))) (jf_X12_isUnified_79_k hm16 _ _ _ _ _))))))))))))))))))))))) h9
theorem jf_X12_isUnified_16_l {ty : xTy} {v0 : Nat} {v3 : Int32} {h : xH} {r : Int32 × xH} {n : Nat} (h9 : jf_X12_isUnified_16 ty n v0 v3 h = some r) : (xlim fun n => jf_X12_isUnified_16 ty n v0 v3 h) = some r := xlim_at (fun n _ => jf_X12_isUnified_16_m n _ _ _) h9
theorem jf_X12_isShaped_179_k {ty : xTy} {k40 k40' : Nat → Int32 → Int32 → xH → Option (Int32 × xH)} {r : Int32 × xH} (hm40 : ∀ (v0 : Nat) (v2 : Int32) (v3 : Int32) (h : xH), k40 v0 v2 v3 h = some r → k40' v0 v2 v3 h = some r) : ∀ (n : Nat) (v0 : Nat) (v2 : Int32) (v3 : Int32) (v6 : Int32) (v7 : Int32) (v8 : Int32) (h : xH), jf_X12_isShaped_179 ty k40 n v0 v2 v3 v6 v7 v8 h = some r → jf_X12_isShaped_179 ty k40' n v0 v2 v3 v6 v7 v8 h = some r := by
  intro n
  induction n with
  | zero => intro v0 v2 v3 v6 v7 v8 h h9; cases h9
  | succ n hm179 =>
    intro v0 v2 v3 v6 v7 v8 h h9
    rw [jf_X12_isShaped_179_s] at h9 ⊢
    exact (fun h9 => xif_mono h9 (hm40 _ _ _ _) (fun h9 => xbd_mono h9 (fun _ => (fun h9 => xbd_mono h9 (fun _ => (fun h9 => xbd_mono h9 (fun _ => (hm179 _ _ _ _ _ _ _)))))))) h9
theorem jf_X12_isShaped_179_m {ty : xTy} {k40 : Nat → Int32 → Int32 → xH → Option (Int32 × xH)} {r : Int32 × xH} : ∀ (n : Nat) (v0 : Nat) (v2 : Int32) (v3 : Int32) (v6 : Int32) (v7 : Int32) (v8 : Int32) (h : xH), jf_X12_isShaped_179 ty k40 n v0 v2 v3 v6 v7 v8 h = some r → jf_X12_isShaped_179 ty k40 (n + 1) v0 v2 v3 v6 v7 v8 h = some r := by
  intro n
  induction n with
  | zero => intro v0 v2 v3 v6 v7 v8 h h9; cases h9
  | succ n hm179 =>
    have hm40 : ∀ (v0 : Nat) (v2 : Int32) (v3 : Int32) (h : xH), k40 v0 v2 v3 h = some r → k40 v0 v2 v3 h = some r := fun _ _ _ _ h9 => h9
    intro v0 v2 v3 v6 v7 v8 h h9
    rw [jf_X12_isShaped_179_s] at h9 ⊢
    exact (fun h9 => xif_mono h9 (hm40 _ _ _ _) (fun h9 => xbd_mono h9 (fun _ => (fun h9 => xbd_mono h9 (fun _ => (fun h9 => xbd_mono h9 (fun _ => (hm179 _ _ _ _ _ _ _)))))))) h9
theorem jf_X12_isShaped_179_l {ty : xTy} {k40 : Nat → Int32 → Int32 → xH → Option (Int32 × xH)} {v0 : Nat} {v2 : Int32} {v3 : Int32} {v6 : Int32} {v7 : Int32} {v8 : Int32} {h : xH} {r : Int32 × xH} {n : Nat} (h9 : jf_X12_isShaped_179 ty k40 n v0 v2 v3 v6 v7 v8 h = some r) : (xlim fun n => jf_X12_isShaped_179 ty k40 n v0 v2 v3 v6 v7 v8 h) = some r := xlim_at (fun n _ => jf_X12_isShaped_179_m n _ _ _ _ _ _ _) h9
theorem jf_X12_isShaped_146_k {ty : xTy} {k40 k40' : Nat → Int32 → Int32 → xH → Option (Int32 × xH)} {r : Int32 × xH} (hm40 : ∀ (v0 : Nat) (v2 : Int32) (v3 : Int32) (h : xH), k40 v0 v2 v3 h = some r → k40' v0 v2 v3 h = some r) : ∀ (v0 : Nat) (v2 : Int32) (v3 : Int32) (v4 : Int32) (v5 : Int32) (s0 : Nat) (s1 : Int32) (s2 : Int32) (h : xH), jf_X12_isShaped_146 ty k40 v0 v2 v3 v4 v5 s0 s1 s2 h = some r → jf_X12_isShaped_146 ty k40' v0 v2 v3 v4 v5 s0 s1 s2 h = some r := by
  intro v0 v2 v3 v4 v5 s0 s1 s2 h h9
  unfold jf_X12_isShaped_146 at h9 ⊢
  exact (fun h9 => xbd_mono h9 (fun _ => (fun h9 => xbd_mono h9 (fun _ => (fun h9 => xbd_mono h9 (fun _ => (fun h9 => xlim_mono h9 (fun n9 => jf_X12_isShaped_179_k hm40 n9 _ _ _ _ _ _ _)))))))) h9
theorem jf_X12_isShaped_113_k {ty : xTy} {k40 k40' : Nat → Int32 → Int32 → xH → Option (Int32 × xH)} {r : Int32 × xH} (hm40 : ∀ (v0 : Nat) (v2 : Int32) (v3 : Int32) (h : xH), k40 v0 v2 v3 h = some r → k40' v0 v2 v3 h = some r) : ∀ (v0 : Nat) (v2 : Int32) (v3 : Int32) (v4 : Int32) (v5 : Int32) (h : xH), jf_X12_isShaped_113 ty k40 v0 v2 v3 v4 v5 h = some r → jf_X12_isShaped_113 ty k40' v0 v2 v3 v4 v5 h = some r := by
  intro v0 v2 v3 v4 v5 h h9
  unfold jf_X12_isShaped_113 at h9 ⊢
  exact (fun h9 => xbd_mono h9 (fun _ => (fun h9 => xif_mono h9 (fun h9 => xbd_mono h9 (fun _ => (fun h9 => xbd_mono h9 (fun _ => (jf_X12_isShaped_146_k hm40 _ _ _ _ _ _ _ _ _))))) (jf_X12_isShaped_146_k hm40 _ _ _ _ _ _ _ _ _)))) h9
theorem jf_X12_isShaped_40_m {ty : xTy} {r : Int32 × xH} : ∀ (n : Nat) (v0 : Nat) (v2 : Int32) (v3 : Int32) (h : xH), jf_X12_isShaped_40 ty n v0 v2 v3 h = some r → jf_X12_isShaped_40 ty (n + 1) v0 v2 v3 h = some r := by
  intro n
  induction n with
  | zero => intro v0 v2 v3 h h9; cases h9
  | succ n hm40 =>
    intro v0 v2 v3 h h9
    rw [jf_X12_isShaped_40_s] at h9 ⊢
    exact (fun h9 => xif_mono h9 (fun h9 => h9) (fun h9 => xbd_mono h9 (fun _ => (fun h9 => xbd_mono h9 (fun _ => (fun h9 => xbd_mono h9 (fun _ => (fun h9 => xif_mono h9 (fun h9 => h9) (fun h9 => xbd_mono h9 (fun _ => (fun h9 => xbd_mono h9 (fun _ => (fun h9 => xif_mono h9 (jf_X12_isShaped_113_k hm40 _ _ _ _ _ _) (fun h9 => xbd_mono h9 (fun _ => (fun h9 => xbd_mono h9 (fun _ => (fun h9 => xif_mono h9 (jf_X12_isShaped_113_k hm40 _ _ _ _ _ _) (fun h9 => xbd_mono h9 (fun _ => (fun h9 => xbd_mono h9 (fun _ => (jf_X12_isShaped_113_k hm40 _ _ _ _ _ _))))))))))))))))))))))) h9
theorem jf_X12_isShaped_40_l {ty : xTy} {v0 : Nat} {v2 : Int32} {v3 : Int32} {h : xH} {r : Int32 × xH} {n : Nat} (h9 : jf_X12_isShaped_40 ty n v0 v2 v3 h = some r) : (xlim fun n => jf_X12_isShaped_40 ty n v0 v2 v3 h) = some r := xlim_at (fun n _ => jf_X12_isShaped_40_m n _ _ _ _) h9
theorem jf_X12_isShaped_19_m {ty : xTy} {r : Int32 × xH} : ∀ (n : Nat) (v0 : Nat) (v2 : Int32) (v3 : Int32) (v4 : Int32) (h : xH), jf_X12_isShaped_19 ty n v0 v2 v3 v4 h = some r → jf_X12_isShaped_19 ty (n + 1) v0 v2 v3 v4 h = some r := by
  intro n
  induction n with
  | zero => intro v0 v2 v3 v4 h h9; cases h9
  | succ n hm19 =>
    intro v0 v2 v3 v4 h h9
    rw [jf_X12_isShaped_19_s] at h9 ⊢
    exact (fun h9 => xif_mono h9 (fun h9 => h9) (fun h9 => xbd_mono h9 (fun _ => (fun h9 => xbd_mono h9 (fun _ => (hm19 _ _ _ _ _)))))) h9
theorem jf_X12_isShaped_19_l {ty : xTy} {v0 : Nat} {v2 : Int32} {v3 : Int32} {v4 : Int32} {h : xH} {r : Int32 × xH} {n : Nat} (h9 : jf_X12_isShaped_19 ty n v0 v2 v3 v4 h = some r) : (xlim fun n => jf_X12_isShaped_19 ty n v0 v2 v3 v4 h) = some r := xlim_at (fun n _ => jf_X12_isShaped_19_m n _ _ _ _ _) h9


theorem jf_X12_sharedBy_2_m {ty : xTy} {h : xH} {r : Int32} : ∀ (n : Nat) (v0 : Nat) (v1 : Int32) (v2 : Int32) (v3 : Int32), jf_X12_sharedBy_2 ty h n v0 v1 v2 v3 = some r → jf_X12_sharedBy_2 ty h (n + 1) v0 v1 v2 v3 = some r := by
  intro n
  induction n with
  | zero => intro v0 v1 v2 v3 h9; cases h9
  | succ n hm2 =>
    intro v0 v1 v2 v3 h9
    rw [jf_X12_sharedBy_2_s] at h9 ⊢
    exact (fun h9 => xbd_mono h9 (fun _ => (fun h9 => xbd_mono h9 (fun _ => (fun h9 => xif_mono h9 (fun h9 => h9) (fun h9 => xbd_mono h9 (fun _ => (fun h9 => xbd_mono h9 (fun _ => (fun h9 => xif_mono h9 (fun h9 => h9) (fun h9 => xbd_mono h9 (fun _ => (fun h9 => xbd_mono h9 (fun _ => (fun h9 => xif_mono h9 (hm2 _ _ _ _) (fun h9 => h9)))))))))))))))) h9
theorem jf_X12_sharedBy_2_l {ty : xTy} {h : xH} {v0 : Nat} {v1 : Int32} {v2 : Int32} {v3 : Int32} {r : Int32} {n : Nat} (h9 : jf_X12_sharedBy_2 ty h n v0 v1 v2 v3 = some r) : (xlim fun n => jf_X12_sharedBy_2 ty h n v0 v1 v2 v3) = some r := xlim_at (fun n _ => jf_X12_sharedBy_2_m n _ _ _ _) h9
theorem jf_X12_placeOf_4_m {ty : xTy} {h : xH} {r : Int32} : ∀ (n : Nat) (v0 : Nat) (v1 : Int32) (v2 : Int32) (v3 : Int32), jf_X12_placeOf_4 ty h n v0 v1 v2 v3 = some r → jf_X12_placeOf_4 ty h (n + 1) v0 v1 v2 v3 = some r := by
  intro n
  induction n with
  | zero => intro v0 v1 v2 v3 h9; cases h9
  | succ n hm4 =>
    intro v0 v1 v2 v3 h9
    rw [jf_X12_placeOf_4_s] at h9 ⊢
    exact (fun h9 => xif_mono h9 (fun h9 => h9) (fun h9 => xif_mono h9 (hm4 _ _ _ _) (fun h9 => xbd_mono h9 (fun _ => (fun h9 => xif_mono h9 (hm4 _ _ _ _) (fun h9 => xbd_mono h9 (fun _ => (fun h9 => xif_mono h9 (hm4 _ _ _ _) (hm4 _ _ _ _))))))))) h9
theorem jf_X12_placeOf_4_l {ty : xTy} {h : xH} {v0 : Nat} {v1 : Int32} {v2 : Int32} {v3 : Int32} {r : Int32} {n : Nat} (h9 : jf_X12_placeOf_4 ty h n v0 v1 v2 v3 = some r) : (xlim fun n => jf_X12_placeOf_4 ty h n v0 v1 v2 v3) = some r := xlim_at (fun n _ => jf_X12_placeOf_4_m n _ _ _ _) h9
theorem jf_X12_isFirstOf_2_m {ty : xTy} {h : xH} {r : Int32} : ∀ (n : Nat) (v0 : Nat) (v1 : Int32) (v2 : Int32) (v3 : Int32), jf_X12_isFirstOf_2 ty h n v0 v1 v2 v3 = some r → jf_X12_isFirstOf_2 ty h (n + 1) v0 v1 v2 v3 = some r := by
  intro n
  induction n with
  | zero => intro v0 v1 v2 v3 h9; cases h9
  | succ n hm2 =>
    intro v0 v1 v2 v3 h9
    rw [jf_X12_isFirstOf_2_s] at h9 ⊢
    exact (fun h9 => xif_mono h9 (fun h9 => h9) (fun h9 => xbd_mono h9 (fun _ => (fun h9 => xif_mono h9 (hm2 _ _ _ _) (fun h9 => xbd_mono h9 (fun _ => (fun h9 => xif_mono h9 (hm2 _ _ _ _) (fun h9 => h9)))))))) h9
theorem jf_X12_isFirstOf_2_l {ty : xTy} {h : xH} {v0 : Nat} {v1 : Int32} {v2 : Int32} {v3 : Int32} {r : Int32} {n : Nat} (h9 : jf_X12_isFirstOf_2 ty h n v0 v1 v2 v3 = some r) : (xlim fun n => jf_X12_isFirstOf_2 ty h n v0 v1 v2 v3) = some r := xlim_at (fun n _ => jf_X12_isFirstOf_2_m n _ _ _ _) h9
theorem jf_X12_nodesOf_4_m {ty : xTy} {h : xH} {r : Int32} : ∀ (n : Nat) (v0 : Nat) (v1 : Int32) (v2 : Int32) (v3 : Int32), jf_X12_nodesOf_4 ty h n v0 v1 v2 v3 = some r → jf_X12_nodesOf_4 ty h (n + 1) v0 v1 v2 v3 = some r := by
  intro n
  induction n with
  | zero => intro v0 v1 v2 v3 h9; cases h9
  | succ n hm4 =>
    intro v0 v1 v2 v3 h9
    rw [jf_X12_nodesOf_4_s] at h9 ⊢
    exact (fun h9 => xif_mono h9 (fun h9 => h9) (fun h9 => xbd_mono h9 (fun _ => (fun h9 => xif_mono h9 (hm4 _ _ _ _) (fun h9 => xbd_mono h9 (fun _ => (fun h9 => xbd_mono h9 (fun _ => (fun h9 => xif_mono h9 (hm4 _ _ _ _) (fun h9 => xbd_mono h9 (fun _ => (fun h9 => xif_mono h9 (hm4 _ _ _ _) (hm4 _ _ _ _))))))))))))) h9
theorem jf_X12_nodesOf_4_l {ty : xTy} {h : xH} {v0 : Nat} {v1 : Int32} {v2 : Int32} {v3 : Int32} {r : Int32} {n : Nat} (h9 : jf_X12_nodesOf_4 ty h n v0 v1 v2 v3 = some r) : (xlim fun n => jf_X12_nodesOf_4 ty h n v0 v1 v2 v3) = some r := xlim_at (fun n _ => jf_X12_nodesOf_4_m n _ _ _ _) h9
theorem jf_X12_nodesAll_4_m {ty : xTy} {h : xH} {r : Int32} : ∀ (n : Nat) (v0 : Nat) (v1 : Int32) (v2 : Int32), jf_X12_nodesAll_4 ty h n v0 v1 v2 = some r → jf_X12_nodesAll_4 ty h (n + 1) v0 v1 v2 = some r := by
  intro n
  induction n with
  | zero => intro v0 v1 v2 h9; cases h9
  | succ n hm4 =>
    intro v0 v1 v2 h9
    rw [jf_X12_nodesAll_4_s] at h9 ⊢
    exact (fun h9 => xif_mono h9 (fun h9 => h9) (fun h9 => xbd_mono h9 (fun _ => (hm4 _ _ _)))) h9
theorem jf_X12_nodesAll_4_l {ty : xTy} {h : xH} {v0 : Nat} {v1 : Int32} {v2 : Int32} {r : Int32} {n : Nat} (h9 : jf_X12_nodesAll_4 ty h n v0 v1 v2 = some r) : (xlim fun n => jf_X12_nodesAll_4 ty h n v0 v1 v2) = some r := xlim_at (fun n _ => jf_X12_nodesAll_4_m n _ _ _) h9
theorem jf_X12_follows_169_k {ty : xTy} {k5 k5' : Nat → Int32 → Int32 → Int32 → Int32 → xH → Option (xH)} {r : xH} (hm5 : ∀ (v0 : Nat) (v1 : Int32) (v2 : Int32) (v3 : Int32) (v4 : Int32) (h : xH), k5 v0 v1 v2 v3 v4 h = some r → k5' v0 v1 v2 v3 v4 h = some r) : ∀ (v0 : Nat) (v1 : Int32) (v2 : Int32) (v7 : Int32) (s0 : Int32) (h : xH), jf_X12_follows_169 ty k5 v0 v1 v2 v7 s0 h = some r → jf_X12_follows_169 ty k5' v0 v1 v2 v7 s0 h = some r := by
  intro v0 v1 v2 v7 s0 h h9
  unfold jf_X12_follows_169 at h9 ⊢
  exact (fun h9 => xbd_mono h9 (fun _ => (fun h9 => xif_mono h9 (fun h9 => xbd_mono h9 (fun _ => (hm5 _ _ _ _ _ _))) (fun h9 => xbd_mono h9 (fun _ => (hm5 _ _ _ _ _ _)))))) h9
theorem jf_X12_follows_130_k {ty : xTy} {k5 k5' : Nat → Int32 → Int32 → Int32 → Int32 → xH → Option (xH)} {r : xH} (hm5 : ∀ (v0 : Nat) (v1 : Int32) (v2 : Int32) (v3 : Int32) (v4 : Int32) (h : xH), k5 v0 v1 v2 v3 v4 h = some r → k5' v0 v1 v2 v3 v4 h = some r) : ∀ (v0 : Nat) (v1 : Int32) (v2 : Int32) (v3 : Int32) (v6 : Int32) (s0 : Int32) (h : xH), jf_X12_follows_130 ty k5 v0 v1 v2 v3 v6 s0 h = some r → jf_X12_follows_130 ty k5' v0 v1 v2 v3 v6 s0 h = some r := by
  intro v0 v1 v2 v3 v6 s0 h h9
  unfold jf_X12_follows_130 at h9 ⊢
  exact (fun h9 => xif_mono h9 (jf_X12_follows_169_k hm5 _ _ _ _ _ _) (fun h9 => xif_mono h9 (jf_X12_follows_169_k hm5 _ _ _ _ _ _) (fun h9 => xbd_mono h9 (fun _ => (fun h9 => xbd_mono h9 (fun _ => (fun h9 => xbd_mono h9 (fun _ => (jf_X12_follows_169_k hm5 _ _ _ _ _ _))))))))) h9
theorem jf_X12_follows_98_k {ty : xTy} {k5 k5' : Nat → Int32 → Int32 → Int32 → Int32 → xH → Option (xH)} {r : xH} (hm5 : ∀ (v0 : Nat) (v1 : Int32) (v2 : Int32) (v3 : Int32) (v4 : Int32) (h : xH), k5 v0 v1 v2 v3 v4 h = some r → k5' v0 v1 v2 v3 v4 h = some r) : ∀ (v0 : Nat) (v1 : Int32) (v2 : Int32) (v3 : Int32) (v4 : Int32) (v5 : Int32) (v6 : Int32) (h : xH), jf_X12_follows_98 ty k5 v0 v1 v2 v3 v4 v5 v6 h = some r → jf_X12_follows_98 ty k5' v0 v1 v2 v3 v4 v5 v6 h = some r := by
  intro v0 v1 v2 v3 v4 v5 v6 h h9
  unfold jf_X12_follows_98 at h9 ⊢
  exact (fun h9 => xif_mono h9 (fun h9 => xif_mono h9 (fun h9 => xbd_mono h9 (fun _ => (fun h9 => xbd_mono h9 (fun _ => (fun h9 => xbd_mono h9 (fun _ => (jf_X12_follows_130_k hm5 _ _ _ _ _ _ _))))))) (jf_X12_follows_130_k hm5 _ _ _ _ _ _ _)) (jf_X12_follows_130_k hm5 _ _ _ _ _ _ _)) h9
theorem jf_X12_follows_49_k {ty : xTy} {k5 k5' : Nat → Int32 → Int32 → Int32 → Int32 → xH → Option (xH)} {r : xH} (hm5 : ∀ (v0 : Nat) (v1 : Int32) (v2 : Int32) (v3 : Int32) (v4 : Int32) (h : xH), k5 v0 v1 v2 v3 v4 h = some r → k5' v0 v1 v2 v3 v4 h = some r) : ∀ (v0 : Nat) (v1 : Int32) (v2 : Int32) (v3 : Int32) (v4 : Int32) (v5 : Int32) (s0 : Int32) (h : xH), jf_X12_follows_49 ty k5 v0 v1 v2 v3 v4 v5 s0 h = some r → jf_X12_follows_49 ty k5' v0 v1 v2 v3 v4 v5 s0 h = some r := by
  intro v0 v1 v2 v3 v4 v5 s0 h h9
  unfold jf_X12_follows_49 at h9 ⊢
  exact (fun h9 => xif_mono h9 (fun h9 => xif_mono h9 (fun h9 => xif_mono h9 (fun h9 => h9) (jf_X12_follows_98_k hm5 _ _ _ _ _ _ _ _)) (fun h9 => xbd_mono h9 (fun _ => (fun h9 => xbd_mono h9 (fun _ => (fun h9 => xif_mono h9 (jf_X12_follows_98_k hm5 _ _ _ _ _ _ _ _) (fun h9 => h9))))))) (fun h9 => xif_mono h9 (fun h9 => xif_mono h9 (jf_X12_follows_98_k hm5 _ _ _ _ _ _ _ _) (fun h9 => h9)) (jf_X12_follows_98_k hm5 _ _ _ _ _ _ _ _))) h9
theorem jf_X12_follows_5_m {ty : xTy} {r : xH} : ∀ (n : Nat) (v0 : Nat) (v1 : Int32) (v2 : Int32) (v3 : Int32) (v4 : Int32) (h : xH), jf_X12_follows_5 ty n v0 v1 v2 v3 v4 h = some r → jf_X12_follows_5 ty (n + 1) v0 v1 v2 v3 v4 h = some r := by
  intro n
  induction n with
  | zero => intro v0 v1 v2 v3 v4 h h9; cases h9
  | succ n hm5 =>
    intro v0 v1 v2 v3 v4 h h9
    rw [jf_X12_follows_5_s] at h9 ⊢
    exact (fun h9 => xbd_mono h9 (fun _ => (fun h9 => xbd_mono h9 (fun _ => (fun h9 => xif_mono h9 (fun h9 => h9) (fun h9 => xif_mono h9 (fun h9 => h9) (fun h9 => xbd_mono h9 (fun _ => (fun h9 => xbd_mono h9 (fun _ => (fun h9 => xbd_mono h9 (fun _ => (fun h9 => xif_mono h9 (jf_X12_follows_49_k hm5 _ _ _ _ _ _ _ _) (jf_X12_follows_49_k hm5 _ _ _ _ _ _ _ _)))))))))))))) h9
theorem jf_X12_follows_5_l {ty : xTy} {v0 : Nat} {v1 : Int32} {v2 : Int32} {v3 : Int32} {v4 : Int32} {h : xH} {r : xH} {n : Nat} (h9 : jf_X12_follows_5 ty n v0 v1 v2 v3 v4 h = some r) : (xlim fun n => jf_X12_follows_5 ty n v0 v1 v2 v3 v4 h) = some r := xlim_at (fun n _ => jf_X12_follows_5_m n _ _ _ _ _ _) h9
theorem jf_X12_finds_12_m {ty : xTy} {r : xH} : ∀ (n : Nat) (v0 : Nat) (v1 : Int32) (v2 : Int32) (h : xH), jf_X12_finds_12 ty n v0 v1 v2 h = some r → jf_X12_finds_12 ty (n + 1) v0 v1 v2 h = some r := by
  intro n
  induction n with
  | zero => intro v0 v1 v2 h h9; cases h9
  | succ n hm12 =>
    intro v0 v1 v2 h h9
    rw [jf_X12_finds_12_s] at h9 ⊢
    exact (fun h9 => xif_mono h9 (fun h9 => h9) (fun h9 => xbd_mono h9 (fun _ => (fun h9 => xif_mono h9 (hm12 _ _ _ _) (fun h9 => xbd_mono h9 (fun _ => (hm12 _ _ _ _))))))) h9
theorem jf_X12_finds_12_l {ty : xTy} {v0 : Nat} {v1 : Int32} {v2 : Int32} {h : xH} {r : xH} {n : Nat} (h9 : jf_X12_finds_12 ty n v0 v1 v2 h = some r) : (xlim fun n => jf_X12_finds_12 ty n v0 v1 v2 h) = some r := xlim_at (fun n _ => jf_X12_finds_12_m n _ _ _ _) h9
theorem jf_X12_layFound_15_k {ty : xTy} {k7 k7' : Nat → Int32 → Int32 → xH → Option (xH)} {r : xH} (hm7 : ∀ (v0 : Nat) (v1 : Int32) (v2 : Int32) (h : xH), k7 v0 v1 v2 h = some r → k7' v0 v1 v2 h = some r) : ∀ (n : Nat) (v0 : Nat) (v1 : Int32) (v2 : Int32) (v3 : Int32) (h : xH), jf_X12_layFound_15 ty k7 n v0 v1 v2 v3 h = some r → jf_X12_layFound_15 ty k7' n v0 v1 v2 v3 h = some r := by
  intro n
  induction n with
  | zero => intro v0 v1 v2 v3 h h9; cases h9
  | succ n hm15 =>
    intro v0 v1 v2 v3 h h9
    rw [jf_X12_layFound_15_s] at h9 ⊢
    exact (fun h9 => xif_mono h9 (hm7 _ _ _ _) (fun h9 => xbd_mono h9 (fun _ => (fun h9 => xif_mono h9 (hm15 _ _ _ _ _) (fun h9 => xbd_mono h9 (fun _ => (fun h9 => xif_mono h9 (fun h9 => xb2_mono h9 (fun _ _ => (fun h9 => xif_mono h9 (hm15 _ _ _ _ _) (fun h9 => xbd_mono h9 (fun _ => (fun h9 => xbd_mono h9 (fun _ => (fun h9 => xbd_mono h9 (fun _ => (hm15 _ _ _ _ _)))))))))) (hm15 _ _ _ _ _)))))))) h9
theorem jf_X12_layFound_15_m {ty : xTy} {k7 : Nat → Int32 → Int32 → xH → Option (xH)} {r : xH} : ∀ (n : Nat) (v0 : Nat) (v1 : Int32) (v2 : Int32) (v3 : Int32) (h : xH), jf_X12_layFound_15 ty k7 n v0 v1 v2 v3 h = some r → jf_X12_layFound_15 ty k7 (n + 1) v0 v1 v2 v3 h = some r := by
  intro n
  induction n with
  | zero => intro v0 v1 v2 v3 h h9; cases h9
  | succ n hm15 =>
    have hm7 : ∀ (v0 : Nat) (v1 : Int32) (v2 : Int32) (h : xH), k7 v0 v1 v2 h = some r → k7 v0 v1 v2 h = some r := fun _ _ _ _ h9 => h9
    intro v0 v1 v2 v3 h h9
    rw [jf_X12_layFound_15_s] at h9 ⊢
    exact (fun h9 => xif_mono h9 (hm7 _ _ _ _) (fun h9 => xbd_mono h9 (fun _ => (fun h9 => xif_mono h9 (hm15 _ _ _ _ _) (fun h9 => xbd_mono h9 (fun _ => (fun h9 => xif_mono h9 (fun h9 => xb2_mono h9 (fun _ _ => (fun h9 => xif_mono h9 (hm15 _ _ _ _ _) (fun h9 => xbd_mono h9 (fun _ => (fun h9 => xbd_mono h9 (fun _ => (fun h9 => xbd_mono h9 (fun _ => (hm15 _ _ _ _ _)))))))))) (hm15 _ _ _ _ _)))))))) h9
theorem jf_X12_layFound_15_l {ty : xTy} {k7 : Nat → Int32 → Int32 → xH → Option (xH)} {v0 : Nat} {v1 : Int32} {v2 : Int32} {v3 : Int32} {h : xH} {r : xH} {n : Nat} (h9 : jf_X12_layFound_15 ty k7 n v0 v1 v2 v3 h = some r) : (xlim fun n => jf_X12_layFound_15 ty k7 n v0 v1 v2 v3 h) = some r := xlim_at (fun n _ => jf_X12_layFound_15_m n _ _ _ _ _) h9
theorem jf_X12_layFound_7_m {ty : xTy} {r : xH} : ∀ (n : Nat) (v0 : Nat) (v1 : Int32) (v2 : Int32) (h : xH), jf_X12_layFound_7 ty n v0 v1 v2 h = some r → jf_X12_layFound_7 ty (n + 1) v0 v1 v2 h = some r := by
  intro n
  induction n with
  | zero => intro v0 v1 v2 h h9; cases h9
  | succ n hm7 =>
    intro v0 v1 v2 h h9
    rw [jf_X12_layFound_7_s] at h9 ⊢
    exact (fun h9 => xif_mono h9 (fun h9 => h9) (fun h9 => xlim_mono h9 (fun n9 => jf_X12_layFound_15_k hm7 n9 _ _ _ _ _))) h9
theorem jf_X12_layFound_7_l {ty : xTy} {v0 : Nat} {v1 : Int32} {v2 : Int32} {h : xH} {r : xH} {n : Nat} (h9 : jf_X12_layFound_7 ty n v0 v1 v2 h = some r) : (xlim fun n => jf_X12_layFound_7 ty n v0 v1 v2 h) = some r := xlim_at (fun n _ => jf_X12_layFound_7_m n _ _ _ _) h9
theorem jf_X12_aboveBits_4_m {ty : xTy} {r : Int32 × xH} : ∀ (n : Nat) (v0 : Nat) (v1 : Int32) (v2 : Int32) (v3 : Int32) (h : xH), jf_X12_aboveBits_4 ty n v0 v1 v2 v3 h = some r → jf_X12_aboveBits_4 ty (n + 1) v0 v1 v2 v3 h = some r := by
  intro n
  induction n with
  | zero => intro v0 v1 v2 v3 h h9; cases h9
  | succ n hm4 =>
    intro v0 v1 v2 v3 h h9
    rw [jf_X12_aboveBits_4_s] at h9 ⊢
    exact (fun h9 => xif_mono h9 (fun h9 => h9) (fun h9 => xif_mono h9 (hm4 _ _ _ _ _) (fun h9 => xb2_mono h9 (fun _ _ => (fun h9 => xif_mono h9 (hm4 _ _ _ _ _) (hm4 _ _ _ _ _)))))) h9
theorem jf_X12_aboveBits_4_l {ty : xTy} {v0 : Nat} {v1 : Int32} {v2 : Int32} {v3 : Int32} {h : xH} {r : Int32 × xH} {n : Nat} (h9 : jf_X12_aboveBits_4 ty n v0 v1 v2 v3 h = some r) : (xlim fun n => jf_X12_aboveBits_4 ty n v0 v1 v2 v3 h) = some r := xlim_at (fun n _ => jf_X12_aboveBits_4_m n _ _ _ _ _) h9
theorem jf_X12_specific_109_m {ty : xTy} {r : Int32 × xH} : ∀ (n : Nat) (v0 : Nat) (v2 : Int32) (v3 : Int32) (v4 : Int32) (h : xH), jf_X12_specific_109 ty n v0 v2 v3 v4 h = some r → jf_X12_specific_109 ty (n + 1) v0 v2 v3 v4 h = some r := by
  intro n
  induction n with
  | zero => intro v0 v2 v3 v4 h h9; cases h9
  | succ n hm109 =>
    intro v0 v2 v3 v4 h h9
    rw [jf_X12_specific_109_s] at h9 ⊢
    exact (fun h9 => xif_mono h9 (fun h9 => h9) (fun h9 => xbd_mono h9 (fun _ => (fun h9 => xif_mono h9 (hm109 _ _ _ _ _) (fun h9 => xb2_mono h9 (fun _ _ => (fun h9 => xif_mono h9 (fun h9 => h9) (hm109 _ _ _ _ _)))))))) h9
theorem jf_X12_specific_109_l {ty : xTy} {v0 : Nat} {v2 : Int32} {v3 : Int32} {v4 : Int32} {h : xH} {r : Int32 × xH} {n : Nat} (h9 : jf_X12_specific_109 ty n v0 v2 v3 v4 h = some r) : (xlim fun n => jf_X12_specific_109 ty n v0 v2 v3 v4 h) = some r := xlim_at (fun n _ => jf_X12_specific_109_m n _ _ _ _ _) h9
theorem jf_X12_specific_79_m {ty : xTy} {r : Int32 × xH} : ∀ (n : Nat) (v0 : Nat) (v2 : Int32) (v3 : Int32) (v4 : Int32) (h : xH), jf_X12_specific_79 ty n v0 v2 v3 v4 h = some r → jf_X12_specific_79 ty (n + 1) v0 v2 v3 v4 h = some r := by
  intro n
  induction n with
  | zero => intro v0 v2 v3 v4 h h9; cases h9
  | succ n hm79 =>
    intro v0 v2 v3 v4 h h9
    rw [jf_X12_specific_79_s] at h9 ⊢
    exact (fun h9 => xif_mono h9 (fun h9 => h9) (fun h9 => xbd_mono h9 (fun _ => (fun h9 => xif_mono h9 (hm79 _ _ _ _ _) (hm79 _ _ _ _ _))))) h9
theorem jf_X12_specific_79_l {ty : xTy} {v0 : Nat} {v2 : Int32} {v3 : Int32} {v4 : Int32} {h : xH} {r : Int32 × xH} {n : Nat} (h9 : jf_X12_specific_79 ty n v0 v2 v3 v4 h = some r) : (xlim fun n => jf_X12_specific_79 ty n v0 v2 v3 v4 h) = some r := xlim_at (fun n _ => jf_X12_specific_79_m n _ _ _ _ _) h9
theorem jf_X12_specific_27_m {ty : xTy} {r : Int32 × xH} : ∀ (n : Nat) (v0 : Nat) (v1 : Int32) (v2 : Int32) (v3 : Int32) (h : xH), jf_X12_specific_27 ty n v0 v1 v2 v3 h = some r → jf_X12_specific_27 ty (n + 1) v0 v1 v2 v3 h = some r := by
  intro n
  induction n with
  | zero => intro v0 v1 v2 v3 h h9; cases h9
  | succ n hm27 =>
    intro v0 v1 v2 v3 h h9
    rw [jf_X12_specific_27_s] at h9 ⊢
    exact (fun h9 => xif_mono h9 (fun h9 => h9) (fun h9 => xbd_mono h9 (fun _ => (fun h9 => xif_mono h9 (hm27 _ _ _ _ _) (fun h9 => xb2_mono h9 (fun _ _ => (fun h9 => xif_mono h9 (hm27 _ _ _ _ _) (hm27 _ _ _ _ _)))))))) h9
theorem jf_X12_specific_27_l {ty : xTy} {v0 : Nat} {v1 : Int32} {v2 : Int32} {v3 : Int32} {h : xH} {r : Int32 × xH} {n : Nat} (h9 : jf_X12_specific_27 ty n v0 v1 v2 v3 h = some r) : (xlim fun n => jf_X12_specific_27 ty n v0 v1 v2 v3 h) = some r := xlim_at (fun n _ => jf_X12_specific_27_m n _ _ _ _ _) h9
theorem jf_X12_shadowed_9_m {ty : xTy} {r : Int32 × xH} : ∀ (n : Nat) (v0 : Nat) (v1 : Int32) (v2 : Int32) (h : xH), jf_X12_shadowed_9 ty n v0 v1 v2 h = some r → jf_X12_shadowed_9 ty (n + 1) v0 v1 v2 h = some r := by
  intro n
  induction n with
  | zero => intro v0 v1 v2 h h9; cases h9
  | succ n hm9 =>
    intro v0 v1 v2 h h9
    rw [jf_X12_shadowed_9_s] at h9 ⊢
    exact (fun h9 => xif_mono h9 (fun h9 => h9) (fun h9 => xbd_mono h9 (fun _ => (fun h9 => xif_mono h9 (hm9 _ _ _ _) (fun h9 => xb2_mono h9 (fun _ _ => (hm9 _ _ _ _))))))) h9
theorem jf_X12_shadowed_9_l {ty : xTy} {v0 : Nat} {v1 : Int32} {v2 : Int32} {h : xH} {r : Int32 × xH} {n : Nat} (h9 : jf_X12_shadowed_9 ty n v0 v1 v2 h = some r) : (xlim fun n => jf_X12_shadowed_9 ty n v0 v1 v2 h) = some r := xlim_at (fun n _ => jf_X12_shadowed_9_m n _ _ _ _) h9
theorem jf_X12_tops_22_k {ty : xTy} {k12 k12' : Nat → Int32 → Int32 → xH → Option (Int32 × xH)} {r : Int32 × xH} (hm12 : ∀ (v0 : Nat) (v1 : Int32) (v2 : Int32) (h : xH), k12 v0 v1 v2 h = some r → k12' v0 v1 v2 h = some r) : ∀ (n : Nat) (v0 : Nat) (v1 : Int32) (v2 : Int32) (v3 : Int32) (h : xH), jf_X12_tops_22 ty k12 n v0 v1 v2 v3 h = some r → jf_X12_tops_22 ty k12' n v0 v1 v2 v3 h = some r := by
  intro n
  induction n with
  | zero => intro v0 v1 v2 v3 h h9; cases h9
  | succ n hm22 =>
    intro v0 v1 v2 v3 h h9
    rw [jf_X12_tops_22_s] at h9 ⊢
    exact (fun h9 => xif_mono h9 (hm12 _ _ _ _) (fun h9 => xbd_mono h9 (fun _ => (fun h9 => xif_mono h9 (hm12 _ _ _ _) (fun h9 => xif_mono h9 (hm22 _ _ _ _ _) (fun h9 => xbd_mono h9 (fun _ => (fun h9 => xif_mono h9 (hm22 _ _ _ _ _) (fun h9 => xb2_mono h9 (fun _ _ => (fun h9 => xif_mono h9 (hm22 _ _ _ _ _) (fun h9 => xb2_mono h9 (fun _ _ => (fun h9 => xif_mono h9 (hm22 _ _ _ _ _) (hm22 _ _ _ _ _))))))))))))))) h9
theorem jf_X12_tops_22_m {ty : xTy} {k12 : Nat → Int32 → Int32 → xH → Option (Int32 × xH)} {r : Int32 × xH} : ∀ (n : Nat) (v0 : Nat) (v1 : Int32) (v2 : Int32) (v3 : Int32) (h : xH), jf_X12_tops_22 ty k12 n v0 v1 v2 v3 h = some r → jf_X12_tops_22 ty k12 (n + 1) v0 v1 v2 v3 h = some r := by
  intro n
  induction n with
  | zero => intro v0 v1 v2 v3 h h9; cases h9
  | succ n hm22 =>
    have hm12 : ∀ (v0 : Nat) (v1 : Int32) (v2 : Int32) (h : xH), k12 v0 v1 v2 h = some r → k12 v0 v1 v2 h = some r := fun _ _ _ _ h9 => h9
    intro v0 v1 v2 v3 h h9
    rw [jf_X12_tops_22_s] at h9 ⊢
    exact (fun h9 => xif_mono h9 (hm12 _ _ _ _) (fun h9 => xbd_mono h9 (fun _ => (fun h9 => xif_mono h9 (hm12 _ _ _ _) (fun h9 => xif_mono h9 (hm22 _ _ _ _ _) (fun h9 => xbd_mono h9 (fun _ => (fun h9 => xif_mono h9 (hm22 _ _ _ _ _) (fun h9 => xb2_mono h9 (fun _ _ => (fun h9 => xif_mono h9 (hm22 _ _ _ _ _) (fun h9 => xb2_mono h9 (fun _ _ => (fun h9 => xif_mono h9 (hm22 _ _ _ _ _) (hm22 _ _ _ _ _))))))))))))))) h9
theorem jf_X12_tops_22_l {ty : xTy} {k12 : Nat → Int32 → Int32 → xH → Option (Int32 × xH)} {v0 : Nat} {v1 : Int32} {v2 : Int32} {v3 : Int32} {h : xH} {r : Int32 × xH} {n : Nat} (h9 : jf_X12_tops_22 ty k12 n v0 v1 v2 v3 h = some r) : (xlim fun n => jf_X12_tops_22 ty k12 n v0 v1 v2 v3 h) = some r := xlim_at (fun n _ => jf_X12_tops_22_m n _ _ _ _ _) h9
theorem jf_X12_tops_12_m {ty : xTy} {r : Int32 × xH} : ∀ (n : Nat) (v0 : Nat) (v1 : Int32) (v2 : Int32) (h : xH), jf_X12_tops_12 ty n v0 v1 v2 h = some r → jf_X12_tops_12 ty (n + 1) v0 v1 v2 h = some r := by
  intro n
  induction n with
  | zero => intro v0 v1 v2 h h9; cases h9
  | succ n hm12 =>
    intro v0 v1 v2 h h9
    rw [jf_X12_tops_12_s] at h9 ⊢
    exact (fun h9 => xif_mono h9 (fun h9 => h9) (fun h9 => xlim_mono h9 (fun n9 => jf_X12_tops_22_k hm12 n9 _ _ _ _ _))) h9
theorem jf_X12_tops_12_l {ty : xTy} {v0 : Nat} {v1 : Int32} {v2 : Int32} {h : xH} {r : Int32 × xH} {n : Nat} (h9 : jf_X12_tops_12 ty n v0 v1 v2 h = some r) : (xlim fun n => jf_X12_tops_12 ty n v0 v1 v2 h) = some r := xlim_at (fun n _ => jf_X12_tops_12_m n _ _ _ _) h9
theorem jf_X12_joined_188_k {ty : xTy} {k62 k62' : Nat → Int32 → Int32 → Int32 → Int32 → Int32 → Int32 → xH → Option (Int32 × xH)} {r : Int32 × xH} (hm62 : ∀ (v0 : Nat) (v3 : Int32) (v4 : Int32) (v5 : Int32) (v6 : Int32) (v7 : Int32) (v8 : Int32) (h : xH), k62 v0 v3 v4 v5 v6 v7 v8 h = some r → k62' v0 v3 v4 v5 v6 v7 v8 h = some r) : ∀ (v0 : Nat) (v3 : Int32) (v4 : Int32) (v5 : Int32) (v6 : Int32) (v7 : Int32) (v10 : Int32) (s0 : Int32) (h : xH), jf_X12_joined_188 ty k62 v0 v3 v4 v5 v6 v7 v10 s0 h = some r → jf_X12_joined_188 ty k62' v0 v3 v4 v5 v6 v7 v10 s0 h = some r := by
  intro v0 v3 v4 v5 v6 v7 v10 s0 h h9
  unfold jf_X12_joined_188 at h9 ⊢
  exact (fun h9 => xbd_mono h9 (fun _ => (fun h9 => xbd_mono h9 (fun _ => (fun h9 => xif_mono h9 (fun h9 => h9) (hm62 _ _ _ _ _ _ _ _)))))) h9
theorem jf_X12_joined_154_k {ty : xTy} {k62 k62' : Nat → Int32 → Int32 → Int32 → Int32 → Int32 → Int32 → xH → Option (Int32 × xH)} {r : Int32 × xH} (hm62 : ∀ (v0 : Nat) (v3 : Int32) (v4 : Int32) (v5 : Int32) (v6 : Int32) (v7 : Int32) (v8 : Int32) (h : xH), k62 v0 v3 v4 v5 v6 v7 v8 h = some r → k62' v0 v3 v4 v5 v6 v7 v8 h = some r) : ∀ (v0 : Nat) (v3 : Int32) (v4 : Int32) (v5 : Int32) (v6 : Int32) (v7 : Int32) (v8 : Int32) (v10 : Int32) (h : xH), jf_X12_joined_154 ty k62 v0 v3 v4 v5 v6 v7 v8 v10 h = some r → jf_X12_joined_154 ty k62' v0 v3 v4 v5 v6 v7 v8 v10 h = some r := by
  intro v0 v3 v4 v5 v6 v7 v8 v10 h h9
  unfold jf_X12_joined_154 at h9 ⊢
  exact (fun h9 => xbd_mono h9 (fun _ => (fun h9 => xbd_mono h9 (fun _ => (fun h9 => xbd_mono h9 (fun _ => (fun h9 => xbd_mono h9 (fun _ => (fun h9 => xif_mono h9 (jf_X12_joined_188_k hm62 _ _ _ _ _ _ _ _ _) (jf_X12_joined_188_k hm62 _ _ _ _ _ _ _ _ _)))))))))) h9
theorem jf_X12_joined_109_k {ty : xTy} {k62 k62' : Nat → Int32 → Int32 → Int32 → Int32 → Int32 → Int32 → xH → Option (Int32 × xH)} {r : Int32 × xH} (hm62 : ∀ (v0 : Nat) (v3 : Int32) (v4 : Int32) (v5 : Int32) (v6 : Int32) (v7 : Int32) (v8 : Int32) (h : xH), k62 v0 v3 v4 v5 v6 v7 v8 h = some r → k62' v0 v3 v4 v5 v6 v7 v8 h = some r) : ∀ (n : Nat) (v0 : Nat) (v3 : Int32) (v4 : Int32) (v5 : Int32) (v6 : Int32) (v7 : Int32) (v8 : Int32) (v10 : Int32) (h : xH), jf_X12_joined_109 ty k62 n v0 v3 v4 v5 v6 v7 v8 v10 h = some r → jf_X12_joined_109 ty k62' n v0 v3 v4 v5 v6 v7 v8 v10 h = some r := by
  intro n
  induction n with
  | zero => intro v0 v3 v4 v5 v6 v7 v8 v10 h h9; cases h9
  | succ n hm109 =>
    intro v0 v3 v4 v5 v6 v7 v8 v10 h h9
    rw [jf_X12_joined_109_s] at h9 ⊢
    exact (fun h9 => xif_mono h9 (jf_X12_joined_154_k hm62 _ _ _ _ _ _ _ _ _) (fun h9 => xbd_mono h9 (fun _ => (fun h9 => xbd_mono h9 (fun _ => (fun h9 => xbd_mono h9 (fun _ => (fun h9 => xif_mono h9 (hm109 _ _ _ _ _ _ _ _ _) (fun h9 => xbd_mono h9 (fun _ => (fun h9 => xbd_mono h9 (fun _ => (fun h9 => xbd_mono h9 (fun _ => (fun h9 => xif_mono h9 (hm109 _ _ _ _ _ _ _ _ _) (jf_X12_joined_154_k hm62 _ _ _ _ _ _ _ _ _)))))))))))))))) h9
theorem jf_X12_joined_109_m {ty : xTy} {k62 : Nat → Int32 → Int32 → Int32 → Int32 → Int32 → Int32 → xH → Option (Int32 × xH)} {r : Int32 × xH} : ∀ (n : Nat) (v0 : Nat) (v3 : Int32) (v4 : Int32) (v5 : Int32) (v6 : Int32) (v7 : Int32) (v8 : Int32) (v10 : Int32) (h : xH), jf_X12_joined_109 ty k62 n v0 v3 v4 v5 v6 v7 v8 v10 h = some r → jf_X12_joined_109 ty k62 (n + 1) v0 v3 v4 v5 v6 v7 v8 v10 h = some r := by
  intro n
  induction n with
  | zero => intro v0 v3 v4 v5 v6 v7 v8 v10 h h9; cases h9
  | succ n hm109 =>
    have hm62 : ∀ (v0 : Nat) (v3 : Int32) (v4 : Int32) (v5 : Int32) (v6 : Int32) (v7 : Int32) (v8 : Int32) (h : xH), k62 v0 v3 v4 v5 v6 v7 v8 h = some r → k62 v0 v3 v4 v5 v6 v7 v8 h = some r := fun _ _ _ _ _ _ _ _ h9 => h9
    intro v0 v3 v4 v5 v6 v7 v8 v10 h h9
    rw [jf_X12_joined_109_s] at h9 ⊢
    exact (fun h9 => xif_mono h9 (jf_X12_joined_154_k hm62 _ _ _ _ _ _ _ _ _) (fun h9 => xbd_mono h9 (fun _ => (fun h9 => xbd_mono h9 (fun _ => (fun h9 => xbd_mono h9 (fun _ => (fun h9 => xif_mono h9 (hm109 _ _ _ _ _ _ _ _ _) (fun h9 => xbd_mono h9 (fun _ => (fun h9 => xbd_mono h9 (fun _ => (fun h9 => xbd_mono h9 (fun _ => (fun h9 => xif_mono h9 (hm109 _ _ _ _ _ _ _ _ _) (jf_X12_joined_154_k hm62 _ _ _ _ _ _ _ _ _)))))))))))))))) h9
theorem jf_X12_joined_109_l {ty : xTy} {k62 : Nat → Int32 → Int32 → Int32 → Int32 → Int32 → Int32 → xH → Option (Int32 × xH)} {v0 : Nat} {v3 : Int32} {v4 : Int32} {v5 : Int32} {v6 : Int32} {v7 : Int32} {v8 : Int32} {v10 : Int32} {h : xH} {r : Int32 × xH} {n : Nat} (h9 : jf_X12_joined_109 ty k62 n v0 v3 v4 v5 v6 v7 v8 v10 h = some r) : (xlim fun n => jf_X12_joined_109 ty k62 n v0 v3 v4 v5 v6 v7 v8 v10 h) = some r := xlim_at (fun n _ => jf_X12_joined_109_m n _ _ _ _ _ _ _ _ _) h9
theorem jf_X12_joined_62_m {ty : xTy} {r : Int32 × xH} : ∀ (n : Nat) (v0 : Nat) (v3 : Int32) (v4 : Int32) (v5 : Int32) (v6 : Int32) (v7 : Int32) (v8 : Int32) (h : xH), jf_X12_joined_62 ty n v0 v3 v4 v5 v6 v7 v8 h = some r → jf_X12_joined_62 ty (n + 1) v0 v3 v4 v5 v6 v7 v8 h = some r := by
  intro n
  induction n with
  | zero => intro v0 v3 v4 v5 v6 v7 v8 h h9; cases h9
  | succ n hm62 =>
    intro v0 v3 v4 v5 v6 v7 v8 h h9
    rw [jf_X12_joined_62_s] at h9 ⊢
    exact (fun h9 => xif_mono h9 (fun h9 => h9) (fun h9 => xbd_mono h9 (fun _ => (fun h9 => xbd_mono h9 (fun _ => (fun h9 => xif_mono h9 (fun h9 => xlim_mono h9 (fun n9 => jf_X12_joined_109_k hm62 n9 _ _ _ _ _ _ _ _ _)) (fun h9 => xbd_mono h9 (fun _ => (fun h9 => xbd_mono h9 (fun _ => (fun h9 => xif_mono h9 (fun h9 => xif_mono h9 (fun h9 => h9) (hm62 _ _ _ _ _ _ _ _)) (fun h9 => xlim_mono h9 (fun n9 => jf_X12_joined_109_k hm62 n9 _ _ _ _ _ _ _ _ _))))))))))))) h9
theorem jf_X12_joined_62_l {ty : xTy} {v0 : Nat} {v3 : Int32} {v4 : Int32} {v5 : Int32} {v6 : Int32} {v7 : Int32} {v8 : Int32} {h : xH} {r : Int32 × xH} {n : Nat} (h9 : jf_X12_joined_62 ty n v0 v3 v4 v5 v6 v7 v8 h = some r) : (xlim fun n => jf_X12_joined_62 ty n v0 v3 v4 v5 v6 v7 v8 h) = some r := xlim_at (fun n _ => jf_X12_joined_62_m n _ _ _ _ _ _ _ _) h9

theorem jf_X12_overBits_5_m {ty : xTy} {r : Int32 × xH} : ∀ (n : Nat) (v0 : Nat) (v1 : Int32) (v2 : Int32) (v3 : Int32) (v4 : Int32) (h : xH), jf_X12_overBits_5 ty n v0 v1 v2 v3 v4 h = some r → jf_X12_overBits_5 ty (n + 1) v0 v1 v2 v3 v4 h = some r := by
  intro n
  induction n with
  | zero => intro v0 v1 v2 v3 v4 h h9; cases h9
  | succ n hm5 =>
    intro v0 v1 v2 v3 v4 h h9
    rw [jf_X12_overBits_5_s] at h9 ⊢
    exact (fun h9 => xbd_mono h9 (fun _ => (fun h9 => xbd_mono h9 (fun _ => (fun h9 => xif_mono h9 (fun h9 => h9) (fun h9 => xb2_mono h9 (fun _ _ => (fun h9 => xif_mono h9 (hm5 _ _ _ _ _ _) (hm5 _ _ _ _ _ _))))))))) h9
theorem jf_X12_overBits_5_l {ty : xTy} {v0 : Nat} {v1 : Int32} {v2 : Int32} {v3 : Int32} {v4 : Int32} {h : xH} {r : Int32 × xH} {n : Nat} (h9 : jf_X12_overBits_5 ty n v0 v1 v2 v3 v4 h = some r) : (xlim fun n => jf_X12_overBits_5 ty n v0 v1 v2 v3 v4 h) = some r := xlim_at (fun n _ => jf_X12_overBits_5_m n _ _ _ _ _ _) h9
theorem jf_X12_criticals_58_k {ty : xTy} {k9 k9' : Nat → Int32 → Int32 → xH → Option (Int32 × xH)} {k19 k19' : Nat → Int32 → Int32 → Int32 → xH → Option (Int32 × xH)} {r : Int32 × xH} (hm9 : ∀ (v0 : Nat) (v1 : Int32) (v2 : Int32) (h : xH), k9 v0 v1 v2 h = some r → k9' v0 v1 v2 h = some r) (hm19 : ∀ (v0 : Nat) (v1 : Int32) (v2 : Int32) (v3 : Int32) (h : xH), k19 v0 v1 v2 v3 h = some r → k19' v0 v1 v2 v3 h = some r) : ∀ (n : Nat) (v0 : Nat) (v1 : Int32) (v2 : Int32) (v3 : Int32) (v4 : Int32) (v5 : Int32) (h : xH), jf_X12_criticals_58 ty k9 k19 n v0 v1 v2 v3 v4 v5 h = some r → jf_X12_criticals_58 ty k9' k19' n v0 v1 v2 v3 v4 v5 h = some r := by
  intro n
  induction n with
  | zero => intro v0 v1 v2 v3 v4 v5 h h9; cases h9
  | succ n hm58 =>
    intro v0 v1 v2 v3 v4 v5 h h9
    rw [jf_X12_criticals_58_s] at h9 ⊢
    exact (fun h9 => xif_mono h9 (hm19 _ _ _ _ _) (hm58 _ _ _ _ _ _ _)) h9
theorem jf_X12_criticals_58_m {ty : xTy} {k9 : Nat → Int32 → Int32 → xH → Option (Int32 × xH)} {k19 : Nat → Int32 → Int32 → Int32 → xH → Option (Int32 × xH)} {r : Int32 × xH} : ∀ (n : Nat) (v0 : Nat) (v1 : Int32) (v2 : Int32) (v3 : Int32) (v4 : Int32) (v5 : Int32) (h : xH), jf_X12_criticals_58 ty k9 k19 n v0 v1 v2 v3 v4 v5 h = some r → jf_X12_criticals_58 ty k9 k19 (n + 1) v0 v1 v2 v3 v4 v5 h = some r := by
  intro n
  induction n with
  | zero => intro v0 v1 v2 v3 v4 v5 h h9; cases h9
  | succ n hm58 =>
    have hm9 : ∀ (v0 : Nat) (v1 : Int32) (v2 : Int32) (h : xH), k9 v0 v1 v2 h = some r → k9 v0 v1 v2 h = some r := fun _ _ _ _ h9 => h9
    have hm19 : ∀ (v0 : Nat) (v1 : Int32) (v2 : Int32) (v3 : Int32) (h : xH), k19 v0 v1 v2 v3 h = some r → k19 v0 v1 v2 v3 h = some r := fun _ _ _ _ _ h9 => h9
    intro v0 v1 v2 v3 v4 v5 h h9
    rw [jf_X12_criticals_58_s] at h9 ⊢
    exact (fun h9 => xif_mono h9 (hm19 _ _ _ _ _) (hm58 _ _ _ _ _ _ _)) h9
theorem jf_X12_criticals_58_l {ty : xTy} {k9 : Nat → Int32 → Int32 → xH → Option (Int32 × xH)} {k19 : Nat → Int32 → Int32 → Int32 → xH → Option (Int32 × xH)} {v0 : Nat} {v1 : Int32} {v2 : Int32} {v3 : Int32} {v4 : Int32} {v5 : Int32} {h : xH} {r : Int32 × xH} {n : Nat} (h9 : jf_X12_criticals_58 ty k9 k19 n v0 v1 v2 v3 v4 v5 h = some r) : (xlim fun n => jf_X12_criticals_58 ty k9 k19 n v0 v1 v2 v3 v4 v5 h) = some r := xlim_at (fun n _ => jf_X12_criticals_58_m n _ _ _ _ _ _ _) h9
theorem jf_X12_criticals_19_k {ty : xTy} {k9 k9' : Nat → Int32 → Int32 → xH → Option (Int32 × xH)} {r : Int32 × xH} (hm9 : ∀ (v0 : Nat) (v1 : Int32) (v2 : Int32) (h : xH), k9 v0 v1 v2 h = some r → k9' v0 v1 v2 h = some r) : ∀ (n : Nat) (v0 : Nat) (v1 : Int32) (v2 : Int32) (v3 : Int32) (h : xH), jf_X12_criticals_19 ty k9 n v0 v1 v2 v3 h = some r → jf_X12_criticals_19 ty k9' n v0 v1 v2 v3 h = some r := by
  intro n
  induction n with
  | zero => intro v0 v1 v2 v3 h h9; cases h9
  | succ n hm19 =>
    intro v0 v1 v2 v3 h h9
    rw [jf_X12_criticals_19_s] at h9 ⊢
    exact (fun h9 => xif_mono h9 (hm9 _ _ _ _) (fun h9 => xbd_mono h9 (fun _ => (fun h9 => xif_mono h9 (fun h9 => xlim_mono h9 (fun n9 => jf_X12_criticals_58_k hm9 hm19 n9 _ _ _ _ _ _ _)) (fun h9 => xbd_mono h9 (fun _ => (fun h9 => xif_mono h9 (fun h9 => xlim_mono h9 (fun n9 => jf_X12_criticals_58_k hm9 hm19 n9 _ _ _ _ _ _ _)) (fun h9 => xb2_mono h9 (fun _ _ => (fun h9 => xlim_mono h9 (fun n9 => jf_X12_criticals_58_k hm9 hm19 n9 _ _ _ _ _ _ _))))))))))) h9
theorem jf_X12_criticals_19_m {ty : xTy} {k9 : Nat → Int32 → Int32 → xH → Option (Int32 × xH)} {r : Int32 × xH} : ∀ (n : Nat) (v0 : Nat) (v1 : Int32) (v2 : Int32) (v3 : Int32) (h : xH), jf_X12_criticals_19 ty k9 n v0 v1 v2 v3 h = some r → jf_X12_criticals_19 ty k9 (n + 1) v0 v1 v2 v3 h = some r := by
  intro n
  induction n with
  | zero => intro v0 v1 v2 v3 h h9; cases h9
  | succ n hm19 =>
    have hm9 : ∀ (v0 : Nat) (v1 : Int32) (v2 : Int32) (h : xH), k9 v0 v1 v2 h = some r → k9 v0 v1 v2 h = some r := fun _ _ _ _ h9 => h9
    intro v0 v1 v2 v3 h h9
    rw [jf_X12_criticals_19_s] at h9 ⊢
    exact (fun h9 => xif_mono h9 (hm9 _ _ _ _) (fun h9 => xbd_mono h9 (fun _ => (fun h9 => xif_mono h9 (fun h9 => xlim_mono h9 (fun n9 => jf_X12_criticals_58_k hm9 hm19 n9 _ _ _ _ _ _ _)) (fun h9 => xbd_mono h9 (fun _ => (fun h9 => xif_mono h9 (fun h9 => xlim_mono h9 (fun n9 => jf_X12_criticals_58_k hm9 hm19 n9 _ _ _ _ _ _ _)) (fun h9 => xb2_mono h9 (fun _ _ => (fun h9 => xlim_mono h9 (fun n9 => jf_X12_criticals_58_k hm9 hm19 n9 _ _ _ _ _ _ _))))))))))) h9
theorem jf_X12_criticals_19_l {ty : xTy} {k9 : Nat → Int32 → Int32 → xH → Option (Int32 × xH)} {v0 : Nat} {v1 : Int32} {v2 : Int32} {v3 : Int32} {h : xH} {r : Int32 × xH} {n : Nat} (h9 : jf_X12_criticals_19 ty k9 n v0 v1 v2 v3 h = some r) : (xlim fun n => jf_X12_criticals_19 ty k9 n v0 v1 v2 v3 h) = some r := xlim_at (fun n _ => jf_X12_criticals_19_m n _ _ _ _ _) h9
theorem jf_X12_criticals_9_m {ty : xTy} {r : Int32 × xH} : ∀ (n : Nat) (v0 : Nat) (v1 : Int32) (v2 : Int32) (h : xH), jf_X12_criticals_9 ty n v0 v1 v2 h = some r → jf_X12_criticals_9 ty (n + 1) v0 v1 v2 h = some r := by
  intro n
  induction n with
  | zero => intro v0 v1 v2 h h9; cases h9
  | succ n hm9 =>
    intro v0 v1 v2 h h9
    rw [jf_X12_criticals_9_s] at h9 ⊢
    exact (fun h9 => xif_mono h9 (fun h9 => h9) (fun h9 => xlim_mono h9 (fun n9 => jf_X12_criticals_19_k hm9 n9 _ _ _ _ _))) h9
theorem jf_X12_criticals_9_l {ty : xTy} {v0 : Nat} {v1 : Int32} {v2 : Int32} {h : xH} {r : Int32 × xH} {n : Nat} (h9 : jf_X12_criticals_9 ty n v0 v1 v2 h = some r) : (xlim fun n => jf_X12_criticals_9 ty n v0 v1 v2 h) = some r := xlim_at (fun n _ => jf_X12_criticals_9_m n _ _ _ _) h9
theorem jf_X12_varBits_4_m {ty : xTy} {h : xH} {r : Int32} : ∀ (n : Nat) (v0 : Nat) (v1 : Int32) (v2 : Int32) (v3 : Int32), jf_X12_varBits_4 ty h n v0 v1 v2 v3 = some r → jf_X12_varBits_4 ty h (n + 1) v0 v1 v2 v3 = some r := by
  intro n
  induction n with
  | zero => intro v0 v1 v2 v3 h9; cases h9
  | succ n hm4 =>
    intro v0 v1 v2 v3 h9
    rw [jf_X12_varBits_4_s] at h9 ⊢
    exact (fun h9 => xbd_mono h9 (fun _ => (fun h9 => xbd_mono h9 (fun _ => (fun h9 => xif_mono h9 (fun h9 => h9) (fun h9 => xbd_mono h9 (fun _ => (fun h9 => xbd_mono h9 (fun _ => (fun h9 => xif_mono h9 (hm4 _ _ _ _) (fun h9 => xbd_mono h9 (fun _ => (fun h9 => xbd_mono h9 (fun _ => (hm4 _ _ _ _))))))))))))))) h9
theorem jf_X12_varBits_4_l {ty : xTy} {h : xH} {v0 : Nat} {v1 : Int32} {v2 : Int32} {v3 : Int32} {r : Int32} {n : Nat} (h9 : jf_X12_varBits_4 ty h n v0 v1 v2 v3 = some r) : (xlim fun n => jf_X12_varBits_4 ty h n v0 v1 v2 v3) = some r := xlim_at (fun n _ => jf_X12_varBits_4_m n _ _ _ _) h9
theorem jf_X12_varsMany_4_m {ty : xTy} {h : xH} {r : Int32} : ∀ (n : Nat) (v0 : Nat) (v1 : Int32) (v2 : Int32) (v3 : Int32), jf_X12_varsMany_4 ty h n v0 v1 v2 v3 = some r → jf_X12_varsMany_4 ty h (n + 1) v0 v1 v2 v3 = some r := by
  intro n
  induction n with
  | zero => intro v0 v1 v2 v3 h9; cases h9
  | succ n hm4 =>
    intro v0 v1 v2 v3 h9
    rw [jf_X12_varsMany_4_s] at h9 ⊢
    exact (fun h9 => xif_mono h9 (fun h9 => h9) (fun h9 => xbd_mono h9 (fun _ => (hm4 _ _ _ _)))) h9
theorem jf_X12_varsMany_4_l {ty : xTy} {h : xH} {v0 : Nat} {v1 : Int32} {v2 : Int32} {v3 : Int32} {r : Int32} {n : Nat} (h9 : jf_X12_varsMany_4 ty h n v0 v1 v2 v3 = some r) : (xlim fun n => jf_X12_varsMany_4 ty h n v0 v1 v2 v3) = some r := xlim_at (fun n _ => jf_X12_varsMany_4_m n _ _ _ _) h9
theorem jf_X12_isAgain_4_m {ty : xTy} {h : xH} {r : Int32} : ∀ (n : Nat) (v0 : Nat) (v1 : Int32) (v2 : Int32) (v3 : Int32), jf_X12_isAgain_4 ty h n v0 v1 v2 v3 = some r → jf_X12_isAgain_4 ty h (n + 1) v0 v1 v2 v3 = some r := by
  intro n
  induction n with
  | zero => intro v0 v1 v2 v3 h9; cases h9
  | succ n hm4 =>
    intro v0 v1 v2 v3 h9
    rw [jf_X12_isAgain_4_s] at h9 ⊢
    exact (fun h9 => xbd_mono h9 (fun _ => (fun h9 => xbd_mono h9 (fun _ => (fun h9 => xif_mono h9 (fun h9 => h9) (fun h9 => xbd_mono h9 (fun _ => (fun h9 => xbd_mono h9 (fun _ => (fun h9 => xif_mono h9 (hm4 _ _ _ _) (hm4 _ _ _ _))))))))))) h9
theorem jf_X12_isAgain_4_l {ty : xTy} {h : xH} {v0 : Nat} {v1 : Int32} {v2 : Int32} {v3 : Int32} {r : Int32} {n : Nat} (h9 : jf_X12_isAgain_4 ty h n v0 v1 v2 v3 = some r) : (xlim fun n => jf_X12_isAgain_4 ty h n v0 v1 v2 v3) = some r := xlim_at (fun n _ => jf_X12_isAgain_4_m n _ _ _ _) h9

theorem jf_X12_depth_35_k {ty : xTy} {k19 k19' : Nat → Int32 → Int32 → Int32 → xH → Option (Int32 × xH)} {r : Int32 × xH} (hm19 : ∀ (v0 : Nat) (v1 : Int32) (v2 : Int32) (v3 : Int32) (h : xH), k19 v0 v1 v2 v3 h = some r → k19' v0 v1 v2 v3 h = some r) : ∀ (n : Nat) (v0 : Nat) (v1 : Int32) (v2 : Int32) (v3 : Int32) (v4 : Int32) (v5 : Int32) (h : xH), jf_X12_depth_35 ty k19 n v0 v1 v2 v3 v4 v5 h = some r → jf_X12_depth_35 ty k19' n v0 v1 v2 v3 v4 v5 h = some r := by
  intro n
  induction n with
  | zero => intro v0 v1 v2 v3 v4 v5 h h9; cases h9
  | succ n hm35 =>
    intro v0 v1 v2 v3 v4 v5 h h9
    rw [jf_X12_depth_35_s] at h9 ⊢
    exact (fun h9 => xif_mono h9 (fun h9 => xif_mono h9 (hm19 _ _ _ _ _) (hm19 _ _ _ _ _)) (fun h9 => xbd_mono h9 (fun _ => (fun h9 => xbd_mono h9 (fun _ => (fun h9 => xbd_mono h9 (fun _ => (fun h9 => xif_mono h9 (hm35 _ _ _ _ _ _ _) (hm35 _ _ _ _ _ _ _))))))))) h9
theorem jf_X12_depth_35_m {ty : xTy} {k19 : Nat → Int32 → Int32 → Int32 → xH → Option (Int32 × xH)} {r : Int32 × xH} : ∀ (n : Nat) (v0 : Nat) (v1 : Int32) (v2 : Int32) (v3 : Int32) (v4 : Int32) (v5 : Int32) (h : xH), jf_X12_depth_35 ty k19 n v0 v1 v2 v3 v4 v5 h = some r → jf_X12_depth_35 ty k19 (n + 1) v0 v1 v2 v3 v4 v5 h = some r := by
  intro n
  induction n with
  | zero => intro v0 v1 v2 v3 v4 v5 h h9; cases h9
  | succ n hm35 =>
    have hm19 : ∀ (v0 : Nat) (v1 : Int32) (v2 : Int32) (v3 : Int32) (h : xH), k19 v0 v1 v2 v3 h = some r → k19 v0 v1 v2 v3 h = some r := fun _ _ _ _ _ h9 => h9
    intro v0 v1 v2 v3 v4 v5 h h9
    rw [jf_X12_depth_35_s] at h9 ⊢
    exact (fun h9 => xif_mono h9 (fun h9 => xif_mono h9 (hm19 _ _ _ _ _) (hm19 _ _ _ _ _)) (fun h9 => xbd_mono h9 (fun _ => (fun h9 => xbd_mono h9 (fun _ => (fun h9 => xbd_mono h9 (fun _ => (fun h9 => xif_mono h9 (hm35 _ _ _ _ _ _ _) (hm35 _ _ _ _ _ _ _))))))))) h9
theorem jf_X12_depth_35_l {ty : xTy} {k19 : Nat → Int32 → Int32 → Int32 → xH → Option (Int32 × xH)} {v0 : Nat} {v1 : Int32} {v2 : Int32} {v3 : Int32} {v4 : Int32} {v5 : Int32} {h : xH} {r : Int32 × xH} {n : Nat} (h9 : jf_X12_depth_35 ty k19 n v0 v1 v2 v3 v4 v5 h = some r) : (xlim fun n => jf_X12_depth_35 ty k19 n v0 v1 v2 v3 v4 v5 h) = some r := xlim_at (fun n _ => jf_X12_depth_35_m n _ _ _ _ _ _ _) h9
theorem jf_X12_depth_19_m {ty : xTy} {r : Int32 × xH} : ∀ (n : Nat) (v0 : Nat) (v1 : Int32) (v2 : Int32) (v3 : Int32) (h : xH), jf_X12_depth_19 ty n v0 v1 v2 v3 h = some r → jf_X12_depth_19 ty (n + 1) v0 v1 v2 v3 h = some r := by
  intro n
  induction n with
  | zero => intro v0 v1 v2 v3 h h9; cases h9
  | succ n hm19 =>
    intro v0 v1 v2 v3 h h9
    rw [jf_X12_depth_19_s] at h9 ⊢
    exact (fun h9 => xbd_mono h9 (fun _ => (fun h9 => xbd_mono h9 (fun _ => (fun h9 => xif_mono h9 (fun h9 => h9) (fun h9 => xlim_mono h9 (fun n9 => jf_X12_depth_35_k hm19 n9 _ _ _ _ _ _ _))))))) h9
theorem jf_X12_depth_19_l {ty : xTy} {v0 : Nat} {v1 : Int32} {v2 : Int32} {v3 : Int32} {h : xH} {r : Int32 × xH} {n : Nat} (h9 : jf_X12_depth_19 ty n v0 v1 v2 v3 h = some r) : (xlim fun n => jf_X12_depth_19 ty n v0 v1 v2 v3 h) = some r := xlim_at (fun n _ => jf_X12_depth_19_m n _ _ _ _ _) h9
theorem jf_X12_remember_11_m {ty : xTy} {r : xH} : ∀ (n : Nat) (v0 : Nat) (v1 : Int32) (h : xH), jf_X12_remember_11 ty n v0 v1 h = some r → jf_X12_remember_11 ty (n + 1) v0 v1 h = some r := by
  intro n
  induction n with
  | zero => intro v0 v1 h h9; cases h9
  | succ n hm11 =>
    intro v0 v1 h h9
    rw [jf_X12_remember_11_s] at h9 ⊢
    exact (fun h9 => xif_mono h9 (fun h9 => h9) (fun h9 => xbd_mono h9 (fun _ => (fun h9 => xbd_mono h9 (fun _ => (fun h9 => xbd_mono h9 (fun _ => (fun h9 => xbd_mono h9 (fun _ => (hm11 _ _ _)))))))))) h9
theorem jf_X12_remember_11_l {ty : xTy} {v0 : Nat} {v1 : Int32} {h : xH} {r : xH} {n : Nat} (h9 : jf_X12_remember_11 ty n v0 v1 h = some r) : (xlim fun n => jf_X12_remember_11 ty n v0 v1 h) = some r := xlim_at (fun n _ => jf_X12_remember_11_m n _ _ _) h9
theorem jf_X12_order_13_m {ty : xTy} {r : Int32 × xH} : ∀ (n : Nat) (v0 : Nat) (v1 : Int32) (v2 : Int32) (h : xH), jf_X12_order_13 ty n v0 v1 v2 h = some r → jf_X12_order_13 ty (n + 1) v0 v1 v2 h = some r := by
  intro n
  induction n with
  | zero => intro v0 v1 v2 h h9; cases h9
  | succ n hm13 =>
    intro v0 v1 v2 h h9
    rw [jf_X12_order_13_s] at h9 ⊢
    exact (fun h9 => xif_mono h9 (fun h9 => h9) (fun h9 => xbd_mono h9 (fun _ => (fun h9 => xif_mono h9 (hm13 _ _ _ _) (fun h9 => xbd_mono h9 (fun _ => (fun h9 => xif_mono h9 (fun h9 => h9) (hm13 _ _ _ _)))))))) h9
theorem jf_X12_order_13_l {ty : xTy} {v0 : Nat} {v1 : Int32} {v2 : Int32} {h : xH} {r : Int32 × xH} {n : Nat} (h9 : jf_X12_order_13 ty n v0 v1 v2 h = some r) : (xlim fun n => jf_X12_order_13 ty n v0 v1 v2 h) = some r := xlim_at (fun n _ => jf_X12_order_13_m n _ _ _ _) h9
theorem jf_X12_isNewIn_2_m {ty : xTy} {h : xH} {r : Int32} : ∀ (n : Nat) (v0 : Nat) (v1 : Int32) (v2 : Int32) (v3 : Int32), jf_X12_isNewIn_2 ty h n v0 v1 v2 v3 = some r → jf_X12_isNewIn_2 ty h (n + 1) v0 v1 v2 v3 = some r := by
  intro n
  induction n with
  | zero => intro v0 v1 v2 v3 h9; cases h9
  | succ n hm2 =>
    intro v0 v1 v2 v3 h9
    rw [jf_X12_isNewIn_2_s] at h9 ⊢
    exact (fun h9 => xif_mono h9 (fun h9 => h9) (fun h9 => xif_mono h9 (hm2 _ _ _ _) (fun h9 => xbd_mono h9 (fun _ => (fun h9 => xif_mono h9 (hm2 _ _ _ _) (fun h9 => xbd_mono h9 (fun _ => (fun h9 => xif_mono h9 (hm2 _ _ _ _) (fun h9 => xbd_mono h9 (fun _ => (fun h9 => xif_mono h9 (hm2 _ _ _ _) (fun h9 => h9)))))))))))) h9
theorem jf_X12_isNewIn_2_l {ty : xTy} {h : xH} {v0 : Nat} {v1 : Int32} {v2 : Int32} {v3 : Int32} {r : Int32} {n : Nat} (h9 : jf_X12_isNewIn_2 ty h n v0 v1 v2 v3 = some r) : (xlim fun n => jf_X12_isNewIn_2 ty h n v0 v1 v2 v3) = some r := xlim_at (fun n _ => jf_X12_isNewIn_2_m n _ _ _ _) h9
theorem jf_X12_branch_38_k {ty : xTy} {k26 k26' : Nat → Int32 → Int32 → Int32 → Int32 → xH → Option (Int32 × xH)} {r : Int32 × xH} (hm26 : ∀ (v0 : Nat) (v1 : Int32) (v2 : Int32) (v3 : Int32) (v4 : Int32) (h : xH), k26 v0 v1 v2 v3 v4 h = some r → k26' v0 v1 v2 v3 v4 h = some r) : ∀ (n : Nat) (v0 : Nat) (v1 : Int32) (v2 : Int32) (v3 : Int32) (v4 : Int32) (v5 : Int32) (h : xH), jf_X12_branch_38 ty k26 n v0 v1 v2 v3 v4 v5 h = some r → jf_X12_branch_38 ty k26' n v0 v1 v2 v3 v4 v5 h = some r := by
  intro n
  induction n with
  | zero => intro v0 v1 v2 v3 v4 v5 h h9; cases h9
  | succ n hm38 =>
    intro v0 v1 v2 v3 v4 v5 h h9
    rw [jf_X12_branch_38_s] at h9 ⊢
    exact (fun h9 => xif_mono h9 (hm26 _ _ _ _ _ _) (fun h9 => xbd_mono h9 (fun _ => (fun h9 => xif_mono h9 (hm38 _ _ _ _ _ _ _) (fun h9 => xbd_mono h9 (fun _ => (fun h9 => xif_mono h9 (fun h9 => xbd_mono h9 (fun _ => (fun h9 => xbd_mono h9 (fun _ => (fun h9 => xif_mono h9 (hm38 _ _ _ _ _ _ _) (fun h9 => xbd_mono h9 (fun _ => (fun h9 => xif_mono h9 (hm38 _ _ _ _ _ _ _) (fun h9 => xif_mono h9 (fun h9 => h9) (hm38 _ _ _ _ _ _ _)))))))))) (hm38 _ _ _ _ _ _ _)))))))) h9
theorem jf_X12_branch_38_m {ty : xTy} {k26 : Nat → Int32 → Int32 → Int32 → Int32 → xH → Option (Int32 × xH)} {r : Int32 × xH} : ∀ (n : Nat) (v0 : Nat) (v1 : Int32) (v2 : Int32) (v3 : Int32) (v4 : Int32) (v5 : Int32) (h : xH), jf_X12_branch_38 ty k26 n v0 v1 v2 v3 v4 v5 h = some r → jf_X12_branch_38 ty k26 (n + 1) v0 v1 v2 v3 v4 v5 h = some r := by
  intro n
  induction n with
  | zero => intro v0 v1 v2 v3 v4 v5 h h9; cases h9
  | succ n hm38 =>
    have hm26 : ∀ (v0 : Nat) (v1 : Int32) (v2 : Int32) (v3 : Int32) (v4 : Int32) (h : xH), k26 v0 v1 v2 v3 v4 h = some r → k26 v0 v1 v2 v3 v4 h = some r := fun _ _ _ _ _ _ h9 => h9
    intro v0 v1 v2 v3 v4 v5 h h9
    rw [jf_X12_branch_38_s] at h9 ⊢
    exact (fun h9 => xif_mono h9 (hm26 _ _ _ _ _ _) (fun h9 => xbd_mono h9 (fun _ => (fun h9 => xif_mono h9 (hm38 _ _ _ _ _ _ _) (fun h9 => xbd_mono h9 (fun _ => (fun h9 => xif_mono h9 (fun h9 => xbd_mono h9 (fun _ => (fun h9 => xbd_mono h9 (fun _ => (fun h9 => xif_mono h9 (hm38 _ _ _ _ _ _ _) (fun h9 => xbd_mono h9 (fun _ => (fun h9 => xif_mono h9 (hm38 _ _ _ _ _ _ _) (fun h9 => xif_mono h9 (fun h9 => h9) (hm38 _ _ _ _ _ _ _)))))))))) (hm38 _ _ _ _ _ _ _)))))))) h9
theorem jf_X12_branch_38_l {ty : xTy} {k26 : Nat → Int32 → Int32 → Int32 → Int32 → xH → Option (Int32 × xH)} {v0 : Nat} {v1 : Int32} {v2 : Int32} {v3 : Int32} {v4 : Int32} {v5 : Int32} {h : xH} {r : Int32 × xH} {n : Nat} (h9 : jf_X12_branch_38 ty k26 n v0 v1 v2 v3 v4 v5 h = some r) : (xlim fun n => jf_X12_branch_38 ty k26 n v0 v1 v2 v3 v4 v5 h) = some r := xlim_at (fun n _ => jf_X12_branch_38_m n _ _ _ _ _ _ _) h9
theorem jf_X12_branch_26_m {ty : xTy} {r : Int32 × xH} : ∀ (n : Nat) (v0 : Nat) (v1 : Int32) (v2 : Int32) (v3 : Int32) (v4 : Int32) (h : xH), jf_X12_branch_26 ty n v0 v1 v2 v3 v4 h = some r → jf_X12_branch_26 ty (n + 1) v0 v1 v2 v3 v4 h = some r := by
  intro n
  induction n with
  | zero => intro v0 v1 v2 v3 v4 h h9; cases h9
  | succ n hm26 =>
    intro v0 v1 v2 v3 v4 h h9
    rw [jf_X12_branch_26_s] at h9 ⊢
    exact (fun h9 => xif_mono h9 (fun h9 => h9) (fun h9 => xlim_mono h9 (fun n9 => jf_X12_branch_38_k hm26 n9 _ _ _ _ _ _ _))) h9
theorem jf_X12_branch_26_l {ty : xTy} {v0 : Nat} {v1 : Int32} {v2 : Int32} {v3 : Int32} {v4 : Int32} {h : xH} {r : Int32 × xH} {n : Nat} (h9 : jf_X12_branch_26 ty n v0 v1 v2 v3 v4 h = some r) : (xlim fun n => jf_X12_branch_26 ty n v0 v1 v2 v3 v4 h) = some r := xlim_at (fun n _ => jf_X12_branch_26_m n _ _ _ _ _ _) h9
theorem jf_X12_largest_18_k {ty : xTy} {h : xH} {k4 k4' : Nat → Int32 → Int32 → Int32 → Option (Int32)} {r : Int32} (hm4 : ∀ (v0 : Nat) (v1 : Int32) (v2 : Int32) (v3 : Int32), k4 v0 v1 v2 v3 = some r → k4' v0 v1 v2 v3 = some r) : ∀ (n : Nat) (v0 : Nat) (v1 : Int32) (v2 : Int32) (v3 : Int32) (v4 : Int32) (v5 : Int32), jf_X12_largest_18 ty h k4 n v0 v1 v2 v3 v4 v5 = some r → jf_X12_largest_18 ty h k4' n v0 v1 v2 v3 v4 v5 = some r := by
  intro n
  induction n with
  | zero => intro v0 v1 v2 v3 v4 v5 h9; cases h9
  | succ n hm18 =>
    intro v0 v1 v2 v3 v4 v5 h9
    rw [jf_X12_largest_18_s] at h9 ⊢
    exact (fun h9 => xif_mono h9 (fun h9 => xif_mono h9 (hm4 _ _ _ _) (hm4 _ _ _ _)) (fun h9 => xbd_mono h9 (fun _ => (fun h9 => xif_mono h9 (hm18 _ _ _ _ _ _) (fun h9 => xbd_mono h9 (fun _ => (fun h9 => xif_mono h9 (hm18 _ _ _ _ _ _) (fun h9 => xbd_mono h9 (fun _ => (fun h9 => xbd_mono h9 (fun _ => (fun h9 => xif_mono h9 (hm18 _ _ _ _ _ _) (hm18 _ _ _ _ _ _))))))))))))) h9
theorem jf_X12_largest_18_m {ty : xTy} {h : xH} {k4 : Nat → Int32 → Int32 → Int32 → Option (Int32)} {r : Int32} : ∀ (n : Nat) (v0 : Nat) (v1 : Int32) (v2 : Int32) (v3 : Int32) (v4 : Int32) (v5 : Int32), jf_X12_largest_18 ty h k4 n v0 v1 v2 v3 v4 v5 = some r → jf_X12_largest_18 ty h k4 (n + 1) v0 v1 v2 v3 v4 v5 = some r := by
  intro n
  induction n with
  | zero => intro v0 v1 v2 v3 v4 v5 h9; cases h9
  | succ n hm18 =>
    have hm4 : ∀ (v0 : Nat) (v1 : Int32) (v2 : Int32) (v3 : Int32), k4 v0 v1 v2 v3 = some r → k4 v0 v1 v2 v3 = some r := fun _ _ _ _ h9 => h9
    intro v0 v1 v2 v3 v4 v5 h9
    rw [jf_X12_largest_18_s] at h9 ⊢
    exact (fun h9 => xif_mono h9 (fun h9 => xif_mono h9 (hm4 _ _ _ _) (hm4 _ _ _ _)) (fun h9 => xbd_mono h9 (fun _ => (fun h9 => xif_mono h9 (hm18 _ _ _ _ _ _) (fun h9 => xbd_mono h9 (fun _ => (fun h9 => xif_mono h9 (hm18 _ _ _ _ _ _) (fun h9 => xbd_mono h9 (fun _ => (fun h9 => xbd_mono h9 (fun _ => (fun h9 => xif_mono h9 (hm18 _ _ _ _ _ _) (hm18 _ _ _ _ _ _))))))))))))) h9
theorem jf_X12_largest_18_l {ty : xTy} {h : xH} {k4 : Nat → Int32 → Int32 → Int32 → Option (Int32)} {v0 : Nat} {v1 : Int32} {v2 : Int32} {v3 : Int32} {v4 : Int32} {v5 : Int32} {r : Int32} {n : Nat} (h9 : jf_X12_largest_18 ty h k4 n v0 v1 v2 v3 v4 v5 = some r) : (xlim fun n => jf_X12_largest_18 ty h k4 n v0 v1 v2 v3 v4 v5) = some r := xlim_at (fun n _ => jf_X12_largest_18_m n _ _ _ _ _ _) h9
theorem jf_X12_largest_4_m {ty : xTy} {h : xH} {r : Int32} : ∀ (n : Nat) (v0 : Nat) (v1 : Int32) (v2 : Int32) (v3 : Int32), jf_X12_largest_4 ty h n v0 v1 v2 v3 = some r → jf_X12_largest_4 ty h (n + 1) v0 v1 v2 v3 = some r := by
  intro n
  induction n with
  | zero => intro v0 v1 v2 v3 h9; cases h9
  | succ n hm4 =>
    intro v0 v1 v2 v3 h9
    rw [jf_X12_largest_4_s] at h9 ⊢
    exact (fun h9 => xif_mono h9 (fun h9 => h9) (fun h9 => xlim_mono h9 (fun n9 => jf_X12_largest_18_k hm4 n9 _ _ _ _ _ _))) h9
theorem jf_X12_largest_4_l {ty : xTy} {h : xH} {v0 : Nat} {v1 : Int32} {v2 : Int32} {v3 : Int32} {r : Int32} {n : Nat} (h9 : jf_X12_largest_4 ty h n v0 v1 v2 v3 = some r) : (xlim fun n => jf_X12_largest_4 ty h n v0 v1 v2 v3) = some r := xlim_at (fun n _ => jf_X12_largest_4_m n _ _ _ _) h9
theorem jf_X12_apart_20_m {ty : xTy} {r : Int32 × xH} : ∀ (n : Nat) (v0 : Nat) (v1 : Int32) (v2 : Int32) (v3 : Int32) (h : xH), jf_X12_apart_20 ty n v0 v1 v2 v3 h = some r → jf_X12_apart_20 ty (n + 1) v0 v1 v2 v3 h = some r := by
  intro n
  induction n with
  | zero => intro v0 v1 v2 v3 h h9; cases h9
  | succ n hm20 =>
    intro v0 v1 v2 v3 h h9
    rw [jf_X12_apart_20_s] at h9 ⊢
    exact (fun h9 => xif_mono h9 (fun h9 => h9) (fun h9 => xbd_mono h9 (fun _ => (fun h9 => xbd_mono h9 (fun _ => (fun h9 => xif_mono h9 (hm20 _ _ _ _ _) (hm20 _ _ _ _ _))))))) h9
theorem jf_X12_apart_20_l {ty : xTy} {v0 : Nat} {v1 : Int32} {v2 : Int32} {v3 : Int32} {h : xH} {r : Int32 × xH} {n : Nat} (h9 : jf_X12_apart_20 ty n v0 v1 v2 v3 h = some r) : (xlim fun n => jf_X12_apart_20 ty n v0 v1 v2 v3 h) = some r := xlim_at (fun n _ => jf_X12_apart_20_m n _ _ _ _ _) h9
theorem jf_X12_isReplaced_250_m {ty : xTy} {r : Int32 × xH} : ∀ (n : Nat) (v0 : Nat) (v3 : Int32) (h : xH), jf_X12_isReplaced_250 ty n v0 v3 h = some r → jf_X12_isReplaced_250 ty (n + 1) v0 v3 h = some r := by
  intro n
  induction n with
  | zero => intro v0 v3 h h9; cases h9
  | succ n hm250 =>
    intro v0 v3 h h9
    rw [jf_X12_isReplaced_250_s] at h9 ⊢
    exact (fun h9 => xif_mono h9 (fun h9 => h9) (fun h9 => xbd_mono h9 (fun _ => (fun h9 => xbd_mono h9 (fun _ => (fun h9 => xbd_mono h9 (fun _ => (fun h9 => xbd_mono h9 (fun _ => (hm250 _ _ _)))))))))) h9
theorem jf_X12_isReplaced_250_l {ty : xTy} {v0 : Nat} {v3 : Int32} {h : xH} {r : Int32 × xH} {n : Nat} (h9 : jf_X12_isReplaced_250 ty n v0 v3 h = some r) : (xlim fun n => jf_X12_isReplaced_250 ty n v0 v3 h) = some r := xlim_at (fun n _ => jf_X12_isReplaced_250_m n _ _ _) h9
theorem jf_X12_isReplaced_198_m {ty : xTy} {r : Int32 × xH} : ∀ (n : Nat) (v0 : Nat) (v3 : Int32) (h : xH), jf_X12_isReplaced_198 ty n v0 v3 h = some r → jf_X12_isReplaced_198 ty (n + 1) v0 v3 h = some r := by
  intro n
  induction n with
  | zero => intro v0 v3 h h9; cases h9
  | succ n hm198 =>
    intro v0 v3 h h9
    rw [jf_X12_isReplaced_198_s] at h9 ⊢
    exact (fun h9 => xif_mono h9 (fun h9 => h9) (fun h9 => xif_mono h9 (fun h9 => h9) (fun h9 => xbd_mono h9 (fun _ => (fun h9 => xbd_mono h9 (fun _ => (fun h9 => xbd_mono h9 (fun _ => (fun h9 => xbd_mono h9 (fun _ => (fun h9 => xbd_mono h9 (fun _ => (hm198 _ _ _))))))))))))) h9
theorem jf_X12_isReplaced_198_l {ty : xTy} {v0 : Nat} {v3 : Int32} {h : xH} {r : Int32 × xH} {n : Nat} (h9 : jf_X12_isReplaced_198 ty n v0 v3 h = some r) : (xlim fun n => jf_X12_isReplaced_198 ty n v0 v3 h) = some r := xlim_at (fun n _ => jf_X12_isReplaced_198_m n _ _ _) h9
theorem jf_X12_isReplaced_132_k {ty : xTy} {k45 k45' : Nat → Int32 → Int32 → Int32 → xH → Option (Int32 × xH)} {r : Int32 × xH} (hm45 : ∀ (v0 : Nat) (v1 : Int32) (v2 : Int32) (v3 : Int32) (h : xH), k45 v0 v1 v2 v3 h = some r → k45' v0 v1 v2 v3 h = some r) : ∀ (n : Nat) (v0 : Nat) (v1 : Int32) (v2 : Int32) (v3 : Int32) (v4 : Int32) (v5 : Int32) (v6 : Int32) (v7 : Int32) (h : xH), jf_X12_isReplaced_132 ty k45 n v0 v1 v2 v3 v4 v5 v6 v7 h = some r → jf_X12_isReplaced_132 ty k45' n v0 v1 v2 v3 v4 v5 v6 v7 h = some r := by
  intro n
  induction n with
  | zero => intro v0 v1 v2 v3 v4 v5 v6 v7 h h9; cases h9
  | succ n hm132 =>
    intro v0 v1 v2 v3 v4 v5 v6 v7 h h9
    rw [jf_X12_isReplaced_132_s] at h9 ⊢
    exact (fun h9 => xif_mono h9 (hm45 _ _ _ _ _) (fun h9 => xbd_mono h9 (fun _ => (fun h9 => xif_mono h9 (fun h9 => xbd_mono h9 (fun _ => (fun h9 => xbd_mono h9 (fun _ => (fun h9 => xbd_mono h9 (fun _ => (fun h9 => xbd_mono h9 (fun _ => (hm132 _ _ _ _ _ _ _ _ _))))))))) (fun h9 => xbd_mono h9 (fun _ => (fun h9 => xbd_mono h9 (fun _ => (hm132 _ _ _ _ _ _ _ _ _))))))))) h9
theorem jf_X12_isReplaced_132_m {ty : xTy} {k45 : Nat → Int32 → Int32 → Int32 → xH → Option (Int32 × xH)} {r : Int32 × xH} : ∀ (n : Nat) (v0 : Nat) (v1 : Int32) (v2 : Int32) (v3 : Int32) (v4 : Int32) (v5 : Int32) (v6 : Int32) (v7 : Int32) (h : xH), jf_X12_isReplaced_132 ty k45 n v0 v1 v2 v3 v4 v5 v6 v7 h = some r → jf_X12_isReplaced_132 ty k45 (n + 1) v0 v1 v2 v3 v4 v5 v6 v7 h = some r := by
  intro n
  induction n with
  | zero => intro v0 v1 v2 v3 v4 v5 v6 v7 h h9; cases h9
  | succ n hm132 =>
    have hm45 : ∀ (v0 : Nat) (v1 : Int32) (v2 : Int32) (v3 : Int32) (h : xH), k45 v0 v1 v2 v3 h = some r → k45 v0 v1 v2 v3 h = some r := fun _ _ _ _ _ h9 => h9
    intro v0 v1 v2 v3 v4 v5 v6 v7 h h9
    rw [jf_X12_isReplaced_132_s] at h9 ⊢
    exact (fun h9 => xif_mono h9 (hm45 _ _ _ _ _) (fun h9 => xbd_mono h9 (fun _ => (fun h9 => xif_mono h9 (fun h9 => xbd_mono h9 (fun _ => (fun h9 => xbd_mono h9 (fun _ => (fun h9 => xbd_mono h9 (fun _ => (fun h9 => xbd_mono h9 (fun _ => (hm132 _ _ _ _ _ _ _ _ _))))))))) (fun h9 => xbd_mono h9 (fun _ => (fun h9 => xbd_mono h9 (fun _ => (hm132 _ _ _ _ _ _ _ _ _))))))))) h9
theorem jf_X12_isReplaced_132_l {ty : xTy} {k45 : Nat → Int32 → Int32 → Int32 → xH → Option (Int32 × xH)} {v0 : Nat} {v1 : Int32} {v2 : Int32} {v3 : Int32} {v4 : Int32} {v5 : Int32} {v6 : Int32} {v7 : Int32} {h : xH} {r : Int32 × xH} {n : Nat} (h9 : jf_X12_isReplaced_132 ty k45 n v0 v1 v2 v3 v4 v5 v6 v7 h = some r) : (xlim fun n => jf_X12_isReplaced_132 ty k45 n v0 v1 v2 v3 v4 v5 v6 v7 h) = some r := xlim_at (fun n _ => jf_X12_isReplaced_132_m n _ _ _ _ _ _ _ _ _) h9
theorem jf_X12_isReplaced_91_k {ty : xTy} {k45 k45' : Nat → Int32 → Int32 → Int32 → xH → Option (Int32 × xH)} {r : Int32 × xH} (hm45 : ∀ (v0 : Nat) (v1 : Int32) (v2 : Int32) (v3 : Int32) (h : xH), k45 v0 v1 v2 v3 h = some r → k45' v0 v1 v2 v3 h = some r) : ∀ (v0 : Nat) (v1 : Int32) (v2 : Int32) (v3 : Int32) (v4 : Int32) (s0 : Int32) (h : xH), jf_X12_isReplaced_91 ty k45 v0 v1 v2 v3 v4 s0 h = some r → jf_X12_isReplaced_91 ty k45' v0 v1 v2 v3 v4 s0 h = some r := by
  intro v0 v1 v2 v3 v4 s0 h h9
  unfold jf_X12_isReplaced_91 at h9 ⊢
  exact (fun h9 => xif_mono h9 (fun h9 => xbd_mono h9 (fun _ => (fun h9 => xif_mono h9 (fun h9 => xlim_mono h9 (fun n9 => jf_X12_isReplaced_132_k hm45 n9 _ _ _ _ _ _ _ _ _)) (fun h9 => h9)))) (fun h9 => xif_mono h9 (fun h9 => xlim_mono h9 (fun n9 => jf_X12_isReplaced_132_k hm45 n9 _ _ _ _ _ _ _ _ _)) (fun h9 => h9))) h9
theorem jf_X12_isReplaced_45_m {ty : xTy} {r : Int32 × xH} : ∀ (n : Nat) (v0 : Nat) (v1 : Int32) (v2 : Int32) (v3 : Int32) (h : xH), jf_X12_isReplaced_45 ty n v0 v1 v2 v3 h = some r → jf_X12_isReplaced_45 ty (n + 1) v0 v1 v2 v3 h = some r := by
  intro n
  induction n with
  | zero => intro v0 v1 v2 v3 h h9; cases h9
  | succ n hm45 =>
    intro v0 v1 v2 v3 h h9
    rw [jf_X12_isReplaced_45_s] at h9 ⊢
    exact (fun h9 => xbd_mono h9 (fun _ => (fun h9 => xbd_mono h9 (fun _ => (fun h9 => xif_mono h9 (fun h9 => h9) (fun h9 => xbd_mono h9 (fun _ => (fun h9 => xbd_mono h9 (fun _ => (fun h9 => xif_mono h9 (fun h9 => xbd_mono h9 (fun _ => (fun h9 => xbd_mono h9 (fun _ => (jf_X12_isReplaced_91_k hm45 _ _ _ _ _ _ _))))) (jf_X12_isReplaced_91_k hm45 _ _ _ _ _ _ _))))))))))) h9
theorem jf_X12_isReplaced_45_l {ty : xTy} {v0 : Nat} {v1 : Int32} {v2 : Int32} {v3 : Int32} {h : xH} {r : Int32 × xH} {n : Nat} (h9 : jf_X12_isReplaced_45 ty n v0 v1 v2 v3 h = some r) : (xlim fun n => jf_X12_isReplaced_45 ty n v0 v1 v2 v3 h) = some r := xlim_at (fun n _ => jf_X12_isReplaced_45_m n _ _ _ _ _) h9
theorem jf_X12_isReplaced_7_m {ty : xTy} {r : Int32 × xH} : ∀ (n : Nat) (v0 : Nat) (v1 : Int32) (v2 : Int32) (v3 : Int32) (h : xH), jf_X12_isReplaced_7 ty n v0 v1 v2 v3 h = some r → jf_X12_isReplaced_7 ty (n + 1) v0 v1 v2 v3 h = some r := by
  intro n
  induction n with
  | zero => intro v0 v1 v2 v3 h h9; cases h9
  | succ n hm7 =>
    intro v0 v1 v2 v3 h h9
    rw [jf_X12_isReplaced_7_s] at h9 ⊢
    exact (fun h9 => xif_mono h9 (fun h9 => h9) (fun h9 => xbd_mono h9 (fun _ => (fun h9 => xbd_mono h9 (fun _ => (fun h9 => xbd_mono h9 (fun _ => (fun h9 => xbd_mono h9 (fun _ => (fun h9 => xbd_mono h9 (fun _ => (hm7 _ _ _ _ _)))))))))))) h9
theorem jf_X12_isReplaced_7_l {ty : xTy} {v0 : Nat} {v1 : Int32} {v2 : Int32} {v3 : Int32} {h : xH} {r : Int32 × xH} {n : Nat} (h9 : jf_X12_isReplaced_7 ty n v0 v1 v2 v3 h = some r) : (xlim fun n => jf_X12_isReplaced_7 ty n v0 v1 v2 v3 h) = some r := xlim_at (fun n _ => jf_X12_isReplaced_7_m n _ _ _ _ _) h9
theorem jf_X12_isStepped_12_k {ty : xTy} {k2 k2' : Nat → Int32 → xH → Option (Int32 × xH)} {r : Int32 × xH} (hm2 : ∀ (v0 : Nat) (v1 : Int32) (h : xH), k2 v0 v1 h = some r → k2' v0 v1 h = some r) : ∀ (n : Nat) (v0 : Nat) (v1 : Int32) (v2 : Int32) (h : xH), jf_X12_isStepped_12 ty k2 n v0 v1 v2 h = some r → jf_X12_isStepped_12 ty k2' n v0 v1 v2 h = some r := by
  intro n
  induction n with
  | zero => intro v0 v1 v2 h h9; cases h9
  | succ n hm12 =>
    intro v0 v1 v2 h h9
    rw [jf_X12_isStepped_12_s] at h9 ⊢
    exact (fun h9 => xif_mono h9 (hm2 _ _ _) (fun h9 => xb2_mono h9 (fun _ _ => (fun h9 => xif_mono h9 (hm12 _ _ _ _) (fun h9 => h9))))) h9
theorem jf_X12_isStepped_12_m {ty : xTy} {k2 : Nat → Int32 → xH → Option (Int32 × xH)} {r : Int32 × xH} : ∀ (n : Nat) (v0 : Nat) (v1 : Int32) (v2 : Int32) (h : xH), jf_X12_isStepped_12 ty k2 n v0 v1 v2 h = some r → jf_X12_isStepped_12 ty k2 (n + 1) v0 v1 v2 h = some r := by
  intro n
  induction n with
  | zero => intro v0 v1 v2 h h9; cases h9
  | succ n hm12 =>
    have hm2 : ∀ (v0 : Nat) (v1 : Int32) (h : xH), k2 v0 v1 h = some r → k2 v0 v1 h = some r := fun _ _ _ h9 => h9
    intro v0 v1 v2 h h9
    rw [jf_X12_isStepped_12_s] at h9 ⊢
    exact (fun h9 => xif_mono h9 (hm2 _ _ _) (fun h9 => xb2_mono h9 (fun _ _ => (fun h9 => xif_mono h9 (hm12 _ _ _ _) (fun h9 => h9))))) h9
theorem jf_X12_isStepped_12_l {ty : xTy} {k2 : Nat → Int32 → xH → Option (Int32 × xH)} {v0 : Nat} {v1 : Int32} {v2 : Int32} {h : xH} {r : Int32 × xH} {n : Nat} (h9 : jf_X12_isStepped_12 ty k2 n v0 v1 v2 h = some r) : (xlim fun n => jf_X12_isStepped_12 ty k2 n v0 v1 v2 h) = some r := xlim_at (fun n _ => jf_X12_isStepped_12_m n _ _ _ _) h9
theorem jf_X12_isStepped_2_m {ty : xTy} {r : Int32 × xH} : ∀ (n : Nat) (v0 : Nat) (v1 : Int32) (h : xH), jf_X12_isStepped_2 ty n v0 v1 h = some r → jf_X12_isStepped_2 ty (n + 1) v0 v1 h = some r := by
  intro n
  induction n with
  | zero => intro v0 v1 h h9; cases h9
  | succ n hm2 =>
    intro v0 v1 h h9
    rw [jf_X12_isStepped_2_s] at h9 ⊢
    exact (fun h9 => xif_mono h9 (fun h9 => h9) (fun h9 => xlim_mono h9 (fun n9 => jf_X12_isStepped_12_k hm2 n9 _ _ _ _))) h9
theorem jf_X12_isStepped_2_l {ty : xTy} {v0 : Nat} {v1 : Int32} {h : xH} {r : Int32 × xH} {n : Nat} (h9 : jf_X12_isStepped_2 ty n v0 v1 h = some r) : (xlim fun n => jf_X12_isStepped_2 ty n v0 v1 h) = some r := xlim_at (fun n _ => jf_X12_isStepped_2_m n _ _ _) h9
theorem jf_X12_laySteps_47_m {ty : xTy} {r : xH} : ∀ (n : Nat) (v0 : Nat) (h : xH), jf_X12_laySteps_47 ty n v0 h = some r → jf_X12_laySteps_47 ty (n + 1) v0 h = some r := by
  intro n
  induction n with
  | zero => intro v0 h h9; cases h9
  | succ n hm47 =>
    intro v0 h h9
    rw [jf_X12_laySteps_47_s] at h9 ⊢
    exact (fun h9 => xif_mono h9 (fun h9 => h9) (fun h9 => xb2_mono h9 (fun _ _ => (fun h9 => xif_mono h9 (fun h9 => h9) (fun h9 => xbd_mono h9 (fun _ => (hm47 _ _))))))) h9
theorem jf_X12_laySteps_47_l {ty : xTy} {v0 : Nat} {h : xH} {r : xH} {n : Nat} (h9 : jf_X12_laySteps_47 ty n v0 h = some r) : (xlim fun n => jf_X12_laySteps_47 ty n v0 h) = some r := xlim_at (fun n _ => jf_X12_laySteps_47_m n _ _) h9
theorem jf_X12_laySteps_2_m {ty : xTy} {r : xH} : ∀ (n : Nat) (v0 : Nat) (v1 : Int32) (h : xH), jf_X12_laySteps_2 ty n v0 v1 h = some r → jf_X12_laySteps_2 ty (n + 1) v0 v1 h = some r := by
  intro n
  induction n with
  | zero => intro v0 v1 h h9; cases h9
  | succ n hm2 =>
    intro v0 v1 h h9
    rw [jf_X12_laySteps_2_s] at h9 ⊢
    exact (fun h9 => xif_mono h9 (fun h9 => h9) (fun h9 => xbd_mono h9 (fun _ => (fun h9 => xbd_mono h9 (fun _ => (fun h9 => xbd_mono h9 (fun _ => (fun h9 => xbd_mono h9 (fun _ => (hm2 _ _ _)))))))))) h9
theorem jf_X12_laySteps_2_l {ty : xTy} {v0 : Nat} {v1 : Int32} {h : xH} {r : xH} {n : Nat} (h9 : jf_X12_laySteps_2 ty n v0 v1 h = some r) : (xlim fun n => jf_X12_laySteps_2 ty n v0 v1 h) = some r := xlim_at (fun n _ => jf_X12_laySteps_2_m n _ _ _) h9
theorem jf_X12_smallest_2_m {ty : xTy} {h : xH} {r : Int32} : ∀ (n : Nat) (v0 : Nat) (v1 : Int32), jf_X12_smallest_2 ty h n v0 v1 = some r → jf_X12_smallest_2 ty h (n + 1) v0 v1 = some r := by
  intro n
  induction n with
  | zero => intro v0 v1 h9; cases h9
  | succ n hm2 =>
    intro v0 v1 h9
    rw [jf_X12_smallest_2_s] at h9 ⊢
    exact (fun h9 => xif_mono h9 (fun h9 => h9) (fun h9 => xbd_mono h9 (fun _ => (fun h9 => xbd_mono h9 (fun _ => (fun h9 => xif_mono h9 (fun h9 => h9) (hm2 _ _))))))) h9
theorem jf_X12_smallest_2_l {ty : xTy} {h : xH} {v0 : Nat} {v1 : Int32} {r : Int32} {n : Nat} (h9 : jf_X12_smallest_2 ty h n v0 v1 = some r) : (xlim fun n => jf_X12_smallest_2 ty h n v0 v1) = some r := xlim_at (fun n _ => jf_X12_smallest_2_m n _ _) h9
theorem jf_X12_isDrawn_110_k {ty : xTy} {k7 k7' : Nat → Int32 → xH → Option (Int32 × xH)} {r : Int32 × xH} (hm7 : ∀ (v0 : Nat) (v1 : Int32) (h : xH), k7 v0 v1 h = some r → k7' v0 v1 h = some r) : ∀ (v0 : Nat) (v1 : Int32) (v3 : Int32) (h : xH), jf_X12_isDrawn_110 ty k7 v0 v1 v3 h = some r → jf_X12_isDrawn_110 ty k7' v0 v1 v3 h = some r := by
  intro v0 v1 v3 h h9
  unfold jf_X12_isDrawn_110 at h9 ⊢
  exact (fun h9 => xif_mono h9 (fun h9 => xbd_mono h9 (fun _ => (fun h9 => xbd_mono h9 (fun _ => (fun h9 => xbd_mono h9 (fun _ => (fun h9 => xbd_mono h9 (fun _ => (hm7 _ _ _))))))))) (fun h9 => h9)) h9
theorem jf_X12_isDrawn_87_k {ty : xTy} {k7 k7' : Nat → Int32 → xH → Option (Int32 × xH)} {r : Int32 × xH} (hm7 : ∀ (v0 : Nat) (v1 : Int32) (h : xH), k7 v0 v1 h = some r → k7' v0 v1 h = some r) : ∀ (v0 : Nat) (v1 : Int32) (s0 : Int32) (h : xH), jf_X12_isDrawn_87 ty k7 v0 v1 s0 h = some r → jf_X12_isDrawn_87 ty k7' v0 v1 s0 h = some r := by
  intro v0 v1 s0 h h9
  unfold jf_X12_isDrawn_87 at h9 ⊢
  exact (fun h9 => xbd_mono h9 (fun _ => (fun h9 => xif_mono h9 (jf_X12_isDrawn_110_k hm7 _ _ _ _) (fun h9 => xbd_mono h9 (fun _ => (jf_X12_isDrawn_110_k hm7 _ _ _ _)))))) h9
theorem jf_X12_isDrawn_7_m {ty : xTy} {r : Int32 × xH} : ∀ (n : Nat) (v0 : Nat) (v1 : Int32) (h : xH), jf_X12_isDrawn_7 ty n v0 v1 h = some r → jf_X12_isDrawn_7 ty (n + 1) v0 v1 h = some r := by
  intro n
  induction n with
  | zero => intro v0 v1 h h9; cases h9
  | succ n hm7 =>
    intro v0 v1 h h9
    rw [jf_X12_isDrawn_7_s] at h9 ⊢
    exact (fun h9 => xif_mono h9 (fun h9 => h9) (fun h9 => xif_mono h9 (fun h9 => h9) (fun h9 => xbd_mono h9 (fun _ => (fun h9 => xbd_mono h9 (fun _ => (fun h9 => xbd_mono h9 (fun _ => (fun h9 => xif_mono h9 (jf_X12_isDrawn_87_k hm7 _ _ _ _) (jf_X12_isDrawn_87_k hm7 _ _ _ _)))))))))) h9
theorem jf_X12_isDrawn_7_l {ty : xTy} {v0 : Nat} {v1 : Int32} {h : xH} {r : Int32 × xH} {n : Nat} (h9 : jf_X12_isDrawn_7 ty n v0 v1 h = some r) : (xlim fun n => jf_X12_isDrawn_7 ty n v0 v1 h) = some r := xlim_at (fun n _ => jf_X12_isDrawn_7_m n _ _ _) h9
theorem jf_X12_chance_128_m {ty : xTy} {r : Int32 × xH} : ∀ (n : Nat) (v0 : Nat) (v3 : Int32) (v4 : Int32) (v5 : Int32) (h : xH), jf_X12_chance_128 ty n v0 v3 v4 v5 h = some r → jf_X12_chance_128 ty (n + 1) v0 v3 v4 v5 h = some r := by
  intro n
  induction n with
  | zero => intro v0 v3 v4 v5 h h9; cases h9
  | succ n hm128 =>
    intro v0 v3 v4 v5 h h9
    rw [jf_X12_chance_128_s] at h9 ⊢
    exact (fun h9 => xif_mono h9 (fun h9 => h9) (fun h9 => xbd_mono h9 (fun _ => (fun h9 => xbd_mono h9 (fun _ => (fun h9 => xbd_mono h9 (fun _ => (fun h9 => xbd_mono h9 (fun _ => (hm128 _ _ _ _ _)))))))))) h9
theorem jf_X12_chance_128_l {ty : xTy} {v0 : Nat} {v3 : Int32} {v4 : Int32} {v5 : Int32} {h : xH} {r : Int32 × xH} {n : Nat} (h9 : jf_X12_chance_128 ty n v0 v3 v4 v5 h = some r) : (xlim fun n => jf_X12_chance_128 ty n v0 v3 v4 v5 h) = some r := xlim_at (fun n _ => jf_X12_chance_128_m n _ _ _ _ _) h9
theorem jf_X12_chance_67_m {ty : xTy} {r : Int32 × xH} : ∀ (n : Nat) (v0 : Nat) (v2 : Int32) (v3 : Int32) (v4 : Int32) (v5 : Int32) (h : xH), jf_X12_chance_67 ty n v0 v2 v3 v4 v5 h = some r → jf_X12_chance_67 ty (n + 1) v0 v2 v3 v4 v5 h = some r := by
  intro n
  induction n with
  | zero => intro v0 v2 v3 v4 v5 h h9; cases h9
  | succ n hm67 =>
    intro v0 v2 v3 v4 v5 h h9
    rw [jf_X12_chance_67_s] at h9 ⊢
    exact (fun h9 => xif_mono h9 (fun h9 => h9) (fun h9 => xif_mono h9 (fun h9 => h9) (fun h9 => xb2_mono h9 (fun _ _ => (fun h9 => xif_mono h9 (hm67 _ _ _ _ _ _) (fun h9 => xbd_mono h9 (fun _ => (fun h9 => xbd_mono h9 (fun _ => (fun h9 => xif_mono h9 (hm67 _ _ _ _ _ _) (hm67 _ _ _ _ _ _))))))))))) h9
theorem jf_X12_chance_67_l {ty : xTy} {v0 : Nat} {v2 : Int32} {v3 : Int32} {v4 : Int32} {v5 : Int32} {h : xH} {r : Int32 × xH} {n : Nat} (h9 : jf_X12_chance_67 ty n v0 v2 v3 v4 v5 h = some r) : (xlim fun n => jf_X12_chance_67 ty n v0 v2 v3 v4 v5 h) = some r := xlim_at (fun n _ => jf_X12_chance_67_m n _ _ _ _ _ _) h9
theorem jf_X12_chance_28_m {ty : xTy} {r : Int32 × xH} : ∀ (n : Nat) (v0 : Nat) (v1 : Int32) (v2 : Int32) (v3 : Int32) (v4 : Int32) (h : xH), jf_X12_chance_28 ty n v0 v1 v2 v3 v4 h = some r → jf_X12_chance_28 ty (n + 1) v0 v1 v2 v3 v4 h = some r := by
  intro n
  induction n with
  | zero => intro v0 v1 v2 v3 v4 h h9; cases h9
  | succ n hm28 =>
    intro v0 v1 v2 v3 v4 h h9
    rw [jf_X12_chance_28_s] at h9 ⊢
    exact (fun h9 => xif_mono h9 (fun h9 => h9) (fun h9 => xbd_mono h9 (fun _ => (fun h9 => xbd_mono h9 (fun _ => (fun h9 => xbd_mono h9 (fun _ => (fun h9 => xbd_mono h9 (fun _ => (hm28 _ _ _ _ _ _)))))))))) h9
theorem jf_X12_chance_28_l {ty : xTy} {v0 : Nat} {v1 : Int32} {v2 : Int32} {v3 : Int32} {v4 : Int32} {h : xH} {r : Int32 × xH} {n : Nat} (h9 : jf_X12_chance_28 ty n v0 v1 v2 v3 v4 h = some r) : (xlim fun n => jf_X12_chance_28 ty n v0 v1 v2 v3 v4 h) = some r := xlim_at (fun n _ => jf_X12_chance_28_m n _ _ _ _ _ _) h9
theorem jf_X12_tried_131_k {ty : xTy} {k92 k92' : Nat → Int32 → Int32 → Int32 → Int32 → Int32 → xH → Option (Int32 × xH)} {r : Int32 × xH} (hm92 : ∀ (v0 : Nat) (v1 : Int32) (v2 : Int32) (v3 : Int32) (v4 : Int32) (v5 : Int32) (h : xH), k92 v0 v1 v2 v3 v4 v5 h = some r → k92' v0 v1 v2 v3 v4 v5 h = some r) : ∀ (v0 : Nat) (v1 : Int32) (v2 : Int32) (v3 : Int32) (v4 : Int32) (v5 : Int32) (s0 : Int32) (h : xH), jf_X12_tried_131 ty k92 v0 v1 v2 v3 v4 v5 s0 h = some r → jf_X12_tried_131 ty k92' v0 v1 v2 v3 v4 v5 s0 h = some r := by
  intro v0 v1 v2 v3 v4 v5 s0 h h9
  unfold jf_X12_tried_131 at h9 ⊢
  exact (fun h9 => xif_mono h9 (hm92 _ _ _ _ _ _ _) (fun h9 => xb2_mono h9 (fun _ _ => (fun h9 => xif_mono h9 (hm92 _ _ _ _ _ _ _) (hm92 _ _ _ _ _ _ _))))) h9
theorem jf_X12_tried_92_m {ty : xTy} {r : Int32 × xH} : ∀ (n : Nat) (v0 : Nat) (v1 : Int32) (v2 : Int32) (v3 : Int32) (v4 : Int32) (v5 : Int32) (h : xH), jf_X12_tried_92 ty n v0 v1 v2 v3 v4 v5 h = some r → jf_X12_tried_92 ty (n + 1) v0 v1 v2 v3 v4 v5 h = some r := by
  intro n
  induction n with
  | zero => intro v0 v1 v2 v3 v4 v5 h h9; cases h9
  | succ n hm92 =>
    intro v0 v1 v2 v3 v4 v5 h h9
    rw [jf_X12_tried_92_s] at h9 ⊢
    exact (fun h9 => xif_mono h9 (fun h9 => h9) (fun h9 => xif_mono h9 (jf_X12_tried_131_k hm92 _ _ _ _ _ _ _ _) (fun h9 => xbd_mono h9 (fun _ => (fun h9 => xif_mono h9 (jf_X12_tried_131_k hm92 _ _ _ _ _ _ _ _) (fun h9 => xif_mono h9 (fun h9 => xif_mono h9 (jf_X12_tried_131_k hm92 _ _ _ _ _ _ _ _) (jf_X12_tried_131_k hm92 _ _ _ _ _ _ _ _)) (jf_X12_tried_131_k hm92 _ _ _ _ _ _ _ _))))))) h9
theorem jf_X12_tried_92_l {ty : xTy} {v0 : Nat} {v1 : Int32} {v2 : Int32} {v3 : Int32} {v4 : Int32} {v5 : Int32} {h : xH} {r : Int32 × xH} {n : Nat} (h9 : jf_X12_tried_92 ty n v0 v1 v2 v3 v4 v5 h = some r) : (xlim fun n => jf_X12_tried_92 ty n v0 v1 v2 v3 v4 v5 h) = some r := xlim_at (fun n _ => jf_X12_tried_92_m n _ _ _ _ _ _ _) h9
theorem jf_X12_manyIn_4_m {ty : xTy} {h : xH} {r : Int32} : ∀ (n : Nat) (v0 : Int32) (v1 : Int32) (v2 : Int32), jf_X12_manyIn_4 ty h n v0 v1 v2 = some r → jf_X12_manyIn_4 ty h (n + 1) v0 v1 v2 = some r := by
  intro n
  induction n with
  | zero => intro v0 v1 v2 h9; cases h9
  | succ n hm4 =>
    intro v0 v1 v2 h9
    rw [jf_X12_manyIn_4_s] at h9 ⊢
    exact (fun h9 => xif_mono h9 (fun h9 => h9) (hm4 _ _ _)) h9
theorem jf_X12_manyIn_4_l {ty : xTy} {h : xH} {v0 : Int32} {v1 : Int32} {v2 : Int32} {r : Int32} {n : Nat} (h9 : jf_X12_manyIn_4 ty h n v0 v1 v2 = some r) : (xlim fun n => jf_X12_manyIn_4 ty h n v0 v1 v2) = some r := xlim_at (fun n _ => jf_X12_manyIn_4_m n _ _ _) h9
theorem jf_X12_count_98_m {ty : xTy} {r : Int32 × xH} : ∀ (n : Nat) (v0 : Nat) (v2 : Int32) (v3 : Int32) (h : xH), jf_X12_count_98 ty n v0 v2 v3 h = some r → jf_X12_count_98 ty (n + 1) v0 v2 v3 h = some r := by
  intro n
  induction n with
  | zero => intro v0 v2 v3 h h9; cases h9
  | succ n hm98 =>
    intro v0 v2 v3 h h9
    rw [jf_X12_count_98_s] at h9 ⊢
    exact (fun h9 => xif_mono h9 (fun h9 => h9) (fun h9 => xbd_mono h9 (fun _ => (fun h9 => xif_mono h9 (hm98 _ _ _ _) (fun h9 => xbd_mono h9 (fun _ => (fun h9 => xbd_mono h9 (fun _ => (fun h9 => xbd_mono h9 (fun _ => (fun h9 => xif_mono h9 (hm98 _ _ _ _) (hm98 _ _ _ _)))))))))))) h9
theorem jf_X12_count_98_l {ty : xTy} {v0 : Nat} {v2 : Int32} {v3 : Int32} {h : xH} {r : Int32 × xH} {n : Nat} (h9 : jf_X12_count_98 ty n v0 v2 v3 h = some r) : (xlim fun n => jf_X12_count_98 ty n v0 v2 v3 h) = some r := xlim_at (fun n _ => jf_X12_count_98_m n _ _ _ _) h9
theorem jf_X12_count_146_m {ty : xTy} {r : Int32 × xH} : ∀ (n : Nat) (v0 : Nat) (v2 : Int32) (v3 : Int32) (h : xH), jf_X12_count_146 ty n v0 v2 v3 h = some r → jf_X12_count_146 ty (n + 1) v0 v2 v3 h = some r := by
  intro n
  induction n with
  | zero => intro v0 v2 v3 h h9; cases h9
  | succ n hm146 =>
    intro v0 v2 v3 h h9
    rw [jf_X12_count_146_s] at h9 ⊢
    exact (fun h9 => xif_mono h9 (fun h9 => h9) (fun h9 => xbd_mono h9 (fun _ => (fun h9 => xbd_mono h9 (fun _ => (hm146 _ _ _ _)))))) h9
theorem jf_X12_count_146_l {ty : xTy} {v0 : Nat} {v2 : Int32} {v3 : Int32} {h : xH} {r : Int32 × xH} {n : Nat} (h9 : jf_X12_count_146 ty n v0 v2 v3 h = some r) : (xlim fun n => jf_X12_count_146 ty n v0 v2 v3 h) = some r := xlim_at (fun n _ => jf_X12_count_146_m n _ _ _ _) h9
theorem jf_X12_count_178_m {ty : xTy} {r : Int32 × xH} : ∀ (n : Nat) (v0 : Nat) (v2 : Int32) (v3 : Int32) (h : xH), jf_X12_count_178 ty n v0 v2 v3 h = some r → jf_X12_count_178 ty (n + 1) v0 v2 v3 h = some r := by
  intro n
  induction n with
  | zero => intro v0 v2 v3 h h9; cases h9
  | succ n hm178 =>
    intro v0 v2 v3 h h9
    rw [jf_X12_count_178_s] at h9 ⊢
    exact (fun h9 => xif_mono h9 (fun h9 => h9) (fun h9 => xbd_mono h9 (fun _ => (fun h9 => xif_mono h9 (hm178 _ _ _ _) (fun h9 => xbd_mono h9 (fun _ => (fun h9 => xbd_mono h9 (fun _ => (fun h9 => xif_mono h9 (hm178 _ _ _ _) (fun h9 => xbd_mono h9 (fun _ => (fun h9 => xbd_mono h9 (fun _ => (hm178 _ _ _ _)))))))))))))) h9
theorem jf_X12_count_178_l {ty : xTy} {v0 : Nat} {v2 : Int32} {v3 : Int32} {h : xH} {r : Int32 × xH} {n : Nat} (h9 : jf_X12_count_178 ty n v0 v2 v3 h = some r) : (xlim fun n => jf_X12_count_178 ty n v0 v2 v3 h) = some r := xlim_at (fun n _ => jf_X12_count_178_m n _ _ _ _) h9
theorem jf_X12_count_225_m {ty : xTy} {r : Int32 × xH} : ∀ (n : Nat) (v0 : Nat) (v2 : Int32) (v3 : Int32) (h : xH), jf_X12_count_225 ty n v0 v2 v3 h = some r → jf_X12_count_225 ty (n + 1) v0 v2 v3 h = some r := by
  intro n
  induction n with
  | zero => intro v0 v2 v3 h h9; cases h9
  | succ n hm225 =>
    intro v0 v2 v3 h h9
    rw [jf_X12_count_225_s] at h9 ⊢
    exact (fun h9 => xif_mono h9 (fun h9 => h9) (fun h9 => xbd_mono h9 (fun _ => (fun h9 => xif_mono h9 (hm225 _ _ _ _) (fun h9 => xbd_mono h9 (fun _ => (fun h9 => xif_mono h9 (hm225 _ _ _ _) (hm225 _ _ _ _)))))))) h9
theorem jf_X12_count_225_l {ty : xTy} {v0 : Nat} {v2 : Int32} {v3 : Int32} {h : xH} {r : Int32 × xH} {n : Nat} (h9 : jf_X12_count_225 ty n v0 v2 v3 h = some r) : (xlim fun n => jf_X12_count_225 ty n v0 v2 v3 h) = some r := xlim_at (fun n _ => jf_X12_count_225_m n _ _ _ _) h9

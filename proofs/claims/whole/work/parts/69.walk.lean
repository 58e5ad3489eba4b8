/-! THE WALK along paths, of lists alone -/
section WALK
variable {b : Bk} {ar : Nat → Nat}
def wcs (l : Nat) (p : List Nat × Bool) : List Nat × Bool := (l :: p.1, p.2)
/-- what is come to along a rule's path, and whether its end is -/
def wk (ar : Nat → Nat) (how : Nat) : Nat → List Nat → List Nat → Nat → List Nat × Bool
  | n + 1, t :: T, q :: Q, l =>
    if 100 ≤ q then
      if 100 ≤ t ∨ how ≠ 0 then wcs (l + skipN ar 1 (t :: T)) (wk ar how n ((t :: T).drop (skipN ar 1 (t :: T))) Q (l + skipN ar 1 (t :: T)))
      else ([], false)
    else if 100 ≤ t then
      if how ≠ 1 then wcs (l + 1) (wk ar how n T ((q :: Q).drop (skipN ar 1 (q :: Q))) (l + 1))
      else ([], false)
    else if t = q then wcs (l + 1) (wk ar how n T Q (l + 1))
    else ([], false)
  | _, _, _, _ => ([], true)
theorem wk_nil (how n : Nat) (Q : List Nat) (l : Nat) : wk ar how n [] Q l = ([], true) := by cases n <;> rfl
theorem skipN_le : ∀ (o : Nat) (L : List Nat), skipN ar o L ≤ L.length
  | _, [] => by simp [skipN]
  | 0, _ :: _ => by simp [skipN]
  | o + 1, c :: L => by
    have := skipN_le (o + ar c) L
    simp only [skipN, List.length_cons]
    omega
theorem skipN_ps (t : Nat) (T : List Nat) : 1 ≤ skipN ar 1 (t :: T) := by simp [skipN]
theorem wk_in (how : Nat) : ∀ (n : Nat) (T Q : List Nat) (l : Nat), (wk ar how n T Q l).1.Pairwise (fun x y => x < y) ∧ ∀ x ∈ (wk ar how n T Q l).1, l < x ∧ x ≤ l + T.length
  | 0, _, _, _ => by simp [wk]
  | n + 1, [], _, _ => by simp [wk]
  | n + 1, _ :: _, [], _ => by simp [wk]
  | n + 1, t :: T, q :: Q, l => by
    simp only [wk]
    have hs := skipN_ps (ar := ar) t T
    have hs2 := skipN_le (ar := ar) 1 (t :: T)
    have key : ∀ (s : Nat) (T' Q' : List Nat), 1 ≤ s → s + T'.length ≤ (t :: T).length → (wcs (l + s) (wk ar how n T' Q' (l + s))).1.Pairwise (fun x y => x < y) ∧ ∀ x ∈ (wcs (l + s) (wk ar how n T' Q' (l + s))).1, l < x ∧ x ≤ l + (t :: T).length := by
      intro s T' Q' h1 h2
      obtain ⟨i1, i2⟩ := wk_in how n T' Q' (l + s)
      simp only [wcs, List.pairwise_cons, List.mem_cons]
      refine ⟨⟨fun x hx => (i2 x hx).1, i1⟩, ?_⟩
      rintro x (rfl | hx)
      · omega
      · have := i2 x hx; omega
    split
    · split
      · exact key _ _ _ hs (by rw [List.length_drop]; omega)
      · simp
    · split
      · split
        · exact key 1 _ _ (Nat.le_refl _) (by simp [Nat.add_comm])
        · simp
      · split
        · exact key 1 _ _ (Nat.le_refl _) (by simp [Nat.add_comm])
        · simp
theorem wk_nodup (how n : Nat) (T Q : List Nat) (l : Nat) : (wk ar how n T Q l).1.Nodup := (wk_in how n T Q l).1.imp (fun h => Nat.ne_of_lt h)
theorem star_100 {d : Nat} : 100 ≤ star d ↔ 100 ≤ d := by unfold star; omega
theorem star_ar1 (hz : ∀ d, 100 ≤ d → ar d = 0) (d : Nat) : ar (star d) = ar d := by
  unfold star
  by_cases h : d < 100
  · rw [Nat.min_eq_left (by omega)]
  · rw [Nat.min_eq_right (by omega), hz 100 (by omega), hz d (by omega)]
theorem skip_shp (hz : ∀ d, 100 ≤ d → ar d = 0) : ∀ (X Y : List Nat) (o o' : Nat), tms ar (o + o') X → skipN ar o X ≤ shp (pth X) (pth Y) → skipN ar o Y = skipN ar o X
  | [], Y, o, o', h, _ => by
    simp only [tms] at h
    have : o = 0 := by omega
    subst this
    rw [skipN_zero, skipN_zero]
  | x :: X, Y, 0, o', h, _ => by rw [skipN_zero, skipN_zero]
  | x :: X, [], o + 1, o', h, h2 => by simp [pth, shp, skipN] at h2
  | x :: X, y :: Y, o + 1, o', h, h2 => by
    simp only [skipN, pth, List.map_cons, shp] at h2 ⊢
    by_cases e : star x = star y
    · rw [if_pos e] at h2
      have e2 : ar x = ar y := by rw [← star_ar1 hz x, ← star_ar1 hz y, e]
      have h3 : tms ar ((o + ar x) + o') X := by
        rw [show o + 1 + o' = (o + o') + 1 by omega] at h
        simp only [tms] at h
        rw [show o + ar x + o' = o + o' + ar x by omega]
        exact h
      rw [← e2, skip_shp hz X Y (o + ar x) o' h3 (by unfold pth; omega)]
    · rw [if_neg e] at h2; omega
theorem shp_drop : ∀ (s : Nat) (X Y : List Nat), s ≤ shp X Y → shp (X.drop s) (Y.drop s) = shp X Y - s
  | 0, X, Y, _ => by simp
  | s + 1, [], Y, h => by simp [shp] at h
  | s + 1, _ :: _, [], h => by simp [shp] at h
  | s + 1, x :: X, y :: Y, h => by
    simp only [shp] at h ⊢
    by_cases e : x = y
    · rw [if_pos e] at h ⊢
      rw [List.drop_succ_cons, List.drop_succ_cons, shp_drop s X Y (by omega)]
      omega
    · rw [if_neg e] at h; omega
theorem pth_dr (X : List Nat) (s : Nat) : pth (X.drop s) = (pth X).drop s := by simp [pth, List.map_drop]
/-- what is come to depends on the path up to there alone -/
theorem wk_pre (hz : ∀ d, 100 ≤ d → ar d = 0) (how : Nat) : ∀ (n : Nat) (X Y Q : List Nat) (l k x : Nat), tms ar k X → x ∈ (wk ar how n X Q l).1 → x ≤ l + shp (pth X) (pth Y) → x ∈ (wk ar how n Y Q l).1
  | 0, _, _, _, _, _, _, _, h, _ => by simp [wk] at h
  | n + 1, [], _, _, _, _, _, _, h, _ => by simp [wk] at h
  | n + 1, _ :: _, _, [], _, _, _, _, h, _ => by simp [wk] at h
  | n + 1, t :: X, Y, q :: Q, l, k, x, ht, h, h2 => by
    have hx := ((wk_in how (n + 1) (t :: X) (q :: Q) l).2 x h).1
    cases Y with
    | nil => rw [shp_comm] at h2; simp only [pth, List.map_nil, shp] at h2; omega
    | cons y Y =>
      have e : star t = star y := by
        simp only [pth, List.map_cons, shp] at h2
        by_cases e : star t = star y
        · exact e
        · rw [if_neg e] at h2; omega
      obtain ⟨k, rfl⟩ : ∃ k', k = k' + 1 := by
        cases k with
        | zero => simp [tms] at ht
        | succ k => exact ⟨k, rfl⟩
      have h100 : 100 ≤ t ↔ 100 ≤ y := by rw [← star_100, ← star_100 (d := y), e]
      have hs2 : ∀ s, s ≤ shp (pth (t :: X)) (pth (y :: Y)) → x ≤ l + s + shp (pth ((t :: X).drop s)) (pth ((y :: Y).drop s)) := by
        intro s hs
        rw [pth_dr, pth_dr, shp_drop s _ _ hs]
        omega
      have s1 : 1 ≤ shp (pth (t :: X)) (pth (y :: Y)) := by simp only [pth, List.map_cons, shp, if_pos e]; omega
      have ht1 : tms ar (k + ar t) X := by simp only [tms] at ht; exact ht
      simp only [wk] at h ⊢
      by_cases c1 : 100 ≤ q
      · rw [if_pos c1] at h ⊢
        by_cases c2 : 100 ≤ t ∨ how ≠ 0
        · rw [if_pos c2] at h
          rw [if_pos (by omega)]
          have hmem := h
          simp only [wcs, List.mem_cons] at h
          have hge : l + skipN ar 1 (t :: X) ≤ x := by
            rcases h with h | h
            · omega
            · have := ((wk_in how n _ Q _).2 x h).1; omega
          have hsk : skipN ar 1 (t :: X) ≤ shp (pth (t :: X)) (pth (y :: Y)) := by omega
          have hse := skip_shp hz (t :: X) (y :: Y) 1 k (by rw [Nat.add_comm]; exact ht) hsk
          rw [hse]
          simp only [wcs, List.mem_cons]
          rcases h with h | h
          · exact Or.inl h
          · exact Or.inr (wk_pre hz how n _ _ Q _ k x (tms_split (o := 1) (o' := k) (by rw [Nat.add_comm]; exact ht)).2.1 h (hs2 _ hsk))
        · rw [if_neg c2] at h; simp at h
      · rw [if_neg c1] at h ⊢
        by_cases c2 : 100 ≤ t
        · rw [if_pos c2] at h
          rw [if_pos (by omega)]
          by_cases c3 : how ≠ 1
          · rw [if_pos c3] at h ⊢
            simp only [wcs, List.mem_cons] at h ⊢
            rcases h with h | h
            · exact Or.inl h
            · exact Or.inr (wk_pre hz how n _ _ _ _ _ x ht1 h (hs2 1 s1))
          · rw [if_neg c3] at h; simp at h
        · rw [if_neg c2] at h
          rw [if_neg (by omega)]
          have ety : t = y := by unfold star at e; omega
          by_cases c3 : t = q
          · rw [if_pos c3] at h
            rw [if_pos (by omega)]
            simp only [wcs, List.mem_cons] at h ⊢
            rcases h with h | h
            · exact Or.inl h
            · exact Or.inr (wk_pre hz how n _ _ _ _ _ x ht1 h (hs2 1 s1))
          · rw [if_neg c3] at h; simp at h
/-- how many come to be new -/
def vt (b : Bk) (W : Nat → List Nat) (l : List Nat) (r : Nat) : Nat := (W r).countP (fun n => !(l.any (fun y => shE b n y r)))
def vsum (b : Bk) (W : Nat → List Nat) : List Nat → Nat
  | [] => 0
  | r :: l => vsum b W l + vt b W l r
theorem cnt_split (e p : Nat → Bool) : ∀ l : List Nat, l.countP p = l.countP (fun n => !(e n) && p n) + l.countP (fun n => e n && p n)
  | [] => rfl
  | x :: l => by
    simp only [List.countP_cons, cnt_split e p l]
    cases e x <;> cases p x <;> simp <;> omega
theorem nodup_len {l k : List Nat} (h1 : l.Nodup) (h2 : k.Nodup) (h : ∀ x, x ∈ l ↔ x ∈ k) : l.length = k.length := by
  refine List.Perm.length_eq (List.perm_iff_count.mpr (fun a => ?_))
  rw [h1.count, h2.count]
  simp [h a]
theorem vsum_perm (W : Nat → List Nat) (hN : ∀ r, (W r).Nodup) {l k : List Nat} (h : l.Perm k) : (∀ x ∈ l, ∀ y ∈ l, ∀ n, n ∈ W x → shE b n x y = true → n ∈ W y) → vsum b W l = vsum b W k := by
  have hs : ∀ n x y, shE b n x y = shE b n y x := fun n x y => by unfold shE; rw [shp_comm]
  have ht : ∀ n x y z, shE b n x y = true → shE b n y z = true → shE b n x z = true := by
    intro n x y w h1 h2
    unfold shE at *
    rw [decide_eq_true_iff] at *
    exact shp_trs _ _ _ _ h1 h2
  induction h with
  | nil => intro _; rfl
  | cons x h ih =>
    intro hP
    simp only [vsum]
    rw [ih (fun x hx y hy => hP x (List.mem_cons_of_mem _ hx) y (List.mem_cons_of_mem _ hy))]
    congr 1
    unfold vt
    congr 1
    funext n
    rw [h.any_eq]
  | swap x y l =>
    intro hP
    simp only [vsum]
    have e1 : vt b W l y = vt b W (x :: l) y + ((W y).filter (fun n => shE b n x y && !(l.any (fun z => shE b n z y)))).length := by
      unfold vt
      rw [cnt_split (fun n => shE b n x y)]
      simp only [List.any_cons, Bool.not_or, List.countP_eq_length_filter]
    have e2 : vt b W l x = vt b W (y :: l) x + ((W x).filter (fun n => shE b n y x && !(l.any (fun z => shE b n z x)))).length := by
      unfold vt
      rw [cnt_split (fun n => shE b n y x)]
      simp only [List.any_cons, Bool.not_or, List.countP_eq_length_filter]
    have e3 : ((W y).filter (fun n => shE b n x y && !(l.any (fun z => shE b n z y)))).length = ((W x).filter (fun n => shE b n y x && !(l.any (fun z => shE b n z x)))).length := by
      have one : ∀ u v : Nat, u ∈ y :: x :: l → v ∈ y :: x :: l → ∀ n, n ∈ (W u).filter (fun n => shE b n v u && !(l.any (fun z => shE b n z u))) → n ∈ (W v).filter (fun n => shE b n u v && !(l.any (fun z => shE b n z v))) := by
        intro u v hu hv n hn
        rw [List.mem_filter, Bool.and_eq_true_iff] at hn ⊢
        obtain ⟨h1, h2, h3⟩ := hn
        refine ⟨hP u hu v hv n h1 (by rw [hs]; exact h2), by rw [hs]; exact h2, ?_⟩
        rw [Bool.not_eq_true', List.any_eq_false] at h3 ⊢
        intro z hz hzz
        exact h3 z hz (ht n z v u hzz h2)
      refine nodup_len ((hN y).filter _) ((hN x).filter _) (fun n => ⟨one y x (by simp) (by simp) n, one x y (by simp) (by simp) n⟩)
    omega
  | trans h1 h2 ih1 ih2 =>
    intro hP
    rw [ih1 hP, ih2 (fun x hx y hy => hP x (h1.mem_iff.mpr hx) y (h1.mem_iff.mpr hy))]
theorem vt_rev (W : Nat → List Nat) (l : List Nat) (r : Nat) : vt b W l.reverse r = vt b W l r := by
  unfold vt
  simp only [List.any_reverse]
theorem vsum_take (W : Nat → List Nat) {l : List Nat} {i r : Nat} (h : l[i]? = some r) : vsum b W (l.take (i + 1)).reverse = vsum b W (l.take i).reverse + vt b W (l.take i) r := by
  rw [List.take_add_one, h]
  simp only [Option.toList, List.reverse_append, List.reverse_cons, List.reverse_nil, List.nil_append, List.singleton_append, vsum, vt_rev]
theorem vsum_inL (W : Nat → List Nat) (z i : Nat) : vsum b W (inL z (i + 1)).reverse = vsum b W (inL z i).reverse + if inR z i then vt b W (inL z i) i else 0 := by
  rw [inL_succ]
  cases h : inR z i with
  | false => simp
  | true => simp only [if_true, List.reverse_append, List.reverse_cons, List.reverse_nil, List.nil_append, List.singleton_append, vsum, vt_rev]
end WALK

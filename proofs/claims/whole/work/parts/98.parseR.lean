/-! READING a term: the model -/
theorem pT_wf {T : Nat → Tk} {b : Bk} {lf : Option (List Nat)} (hb : bw0 b) : ∀ (k j : Nat) (L aw : List Nat), L.length + k = 13 → L.length ≤ 12 → (∀ d ∈ L, vc b d) → (∀ d ∈ L, bdE lf d = true) → (∀ a ∈ aw, 1 ≤ a ∧ a ≤ 3) → (∀ X, tms (bar b) (1 + (aw.map (fun a => a - 1)).sum) X → tms (bar b) 1 (L ++ X)) → (pT T b lf k j L aw).1 = 0 → twf b (pT T b lf k j L aw).2.2 ∧ ∀ d ∈ (pT T b lf k j L aw).2.2, bdE lf d = true := by
  have hcl : ∀ (aw : List Nat) (j : Nat), (∀ a ∈ aw, 1 ≤ a ∧ a ≤ 3) → (clB T j aw).1 = 0 → ((clB T j aw).2.2 = [] → (aw.map (fun a => a - 1)).sum = 0) ∧ ((clB T j aw).2.2 ≠ [] → (aw.map (fun a => a - 1)).sum = 1 + ((clB T j aw).2.2.map (fun a => a - 1)).sum) := by
    intro aw
    induction aw with
    | nil => intro j _ _; exact ⟨fun _ => rfl, fun h => absurd rfl h⟩
    | cons a aw ih =>
      intro j ha h
      have a1 := ha a List.mem_cons_self
      rw [show clB T j (a :: aw) = (if 1 < a then (if (T j).1 = 44 then (0, j + 1, (a - 1) :: aw) else (1, j, [])) else (if (T j).1 = 41 then clB T (j + 1) aw else (1, j, []))) from rfl] at h ⊢
      by_cases w : 1 < a
      · rw [if_pos w] at h ⊢
        by_cases w4 : (T j).1 = 44
        · rw [if_pos w4]
          refine ⟨fun h => (by cases h), fun _ => ?_⟩
          simp only [List.map_cons, List.sum_cons]
          omega
        · rw [if_neg w4] at h; cases h
      · rw [if_neg w] at h ⊢
        by_cases w4 : (T j).1 = 41
        · rw [if_pos w4] at h ⊢
          obtain ⟨i1, i2⟩ := ih (j + 1) (fun x hx => ha x (List.mem_cons_of_mem _ hx)) h
          simp only [List.map_cons, List.sum_cons]
          exact ⟨fun e => by have := i1 e; omega, fun e => by have := i2 e; omega⟩
        · rw [if_neg w4] at h; cases h
  intro k
  induction k with
  | zero => intro j L aw h1 h2; omega
  | succ k ih =>
    intro j L aw h1 h2 h3 h3' h4 h5 h6
    rw [pT_s] at h6 ⊢
    by_cases w0 : plF T b lf j L ≠ 0
    · rw [if_pos w0] at h6; exact absurd h6 w0
    · have w00 : plF T b lf j L = 0 := by omega
      rw [if_neg w0] at h6 ⊢
      obtain ⟨p1, p2, p3, p4, p5⟩ := plF_0 hb w00
      have hll : (L ++ [plD T b j]).length = L.length + 1 := by simp
      have hvc : ∀ d ∈ L ++ [plD T b j], vc b d := fun d hd => by
        rcases List.mem_append.mp hd with h | h
        · exact h3 d h
        · rw [List.mem_singleton.mp h]; exact p4
      have hbd : ∀ d ∈ L ++ [plD T b j], bdE lf d = true := fun d hd => by
        rcases List.mem_append.mp hd with h | h
        · exact h3' d h
        · rw [List.mem_singleton.mp h]; exact p5
      have hstep : ∀ X, tms (bar b) ((aw.map (fun a => a - 1)).sum + bar b (plD T b j)) X → tms (bar b) 1 (L ++ [plD T b j] ++ X) := fun X hX => by
        rw [List.append_assoc]
        refine h5 _ ?_
        rw [Nat.add_comm 1]
        exact hX
      by_cases w1 : 0 < bar b (plD T b j)
      · rw [if_pos w1] at h6 ⊢
        by_cases w2 : (T (j + 1)).1 = 40
        · rw [if_pos w2] at h6 ⊢
          refine ih _ _ _ (by omega) (by omega) hvc hbd ?_ ?_ h6
          · intro a ha
            rcases List.mem_cons.mp ha with rfl | ha
            · exact ⟨w1, bar_le0 hb _⟩
            · exact h4 a ha
          · intro X hX
            refine hstep X ?_
            simp only [List.map_cons, List.sum_cons] at hX
            rw [show 1 + (bar b (plD T b j) - 1 + (aw.map (fun a => a - 1)).sum) = (aw.map (fun a => a - 1)).sum + bar b (plD T b j) by omega] at hX
            exact hX
        · rw [if_neg w2] at h6; cases h6
      · rw [if_neg w1] at h6 ⊢
        have hz : bar b (plD T b j) = 0 := by omega
        rw [hz, Nat.add_zero] at hstep
        by_cases w2 : (clB T (j + 1) aw).1 = 0
        · rw [if_neg (show ¬ (clB T (j + 1) aw).1 ≠ 0 from fun h => h w2)] at h6 ⊢
          obtain ⟨o1, o2⟩ := hcl aw (j + 1) h4 w2
          by_cases w3 : (clB T (j + 1) aw).2.2 = []
          · rw [if_pos w3] at h6 ⊢
            refine ⟨⟨?_, (by rw [show ((0, (clB T (j + 1) aw).2.1, L ++ [plD T b j]) : Nat × Nat × List Nat).2.2 = L ++ [plD T b j] from rfl, hll]; omega), hvc⟩, hbd⟩
            have := hstep [] (by rw [o1 w3]; rfl)
            rw [List.append_nil] at this
            exact this
          · rw [if_neg w3] at h6 ⊢
            obtain ⟨o3, o4, o5⟩ := (clB_ok (T := T) aw (j + 1) (fun a ha => (h4 a ha).2)).2 w2
            refine ih _ _ _ (by omega) (by omega) hvc hbd (fun a ha => ⟨(o5 a ha).elim (fun h => (h4 a h).1) (fun h => h), o4 a ha⟩) ?_ h6
            intro X hX
            refine hstep X ?_
            rw [o2 w3]
            exact hX
        · rw [if_pos w2] at h6; cases h6
theorem pT_wf0 {T : Nat → Tk} {b : Bk} {lf : Option (List Nat)} (hb : bw0 b) {j : Nat} (h : (pT T b lf 13 j [] []).1 = 0) : twf b (pT T b lf 13 j [] []).2.2 ∧ ∀ d ∈ (pT T b lf 13 j [] []).2.2, bdE lf d = true :=
  pT_wf hb 13 j [] [] rfl (by simp) (fun _ h => (by cases h)) (fun _ h => (by cases h)) (fun _ h => (by cases h)) (fun X hX => by simpa using hX) h
section PARSER
variable {ty : xTy} {N M : Nat} {hA hB h0 : xH} {mm mi : Nat → Nat} {c : CS} {I : Nat → Int32} {A : Nat → Nat → Int32} {J : Nat → Int64} {g : Sg} {b : Bk} {F : Nat → Nat} {n : Nat}
theorem k_rdT (C : CH ty N) (hb : bw0 b) (hL : LY c) {B u l z j : Nat} {lf : Option (List Nat)} (hB : B = 2 ∨ B = 108) (hu : B + 10 ≤ u ∨ u + 3 ≤ B) (hu2 : u + 3 ≤ 226) (hlu : ∀ T, lf = some T → l + 3 ≤ u ∨ u + 3 ≤ l) (hl2 : ∀ T, lf = some T → l + 3 ≤ 226) (hc1 : ct u = some (0, 7)) (hc2 : ct (u + 1) = some (1, 12)) (hc3 : ct (u + 2) = some (1, 12)) (hN : CNm c B b) (hT : CT c F n z j) (hl : ∀ T, lf = some T → isT c l 12 (bar b) T ∧ ∀ d ∈ T, d < 1000) :
    ∃ c', jf_X4_readTerm ty (cst N h0 c) (N + 226) (N + B) (N + u) (N + l) (bI lf.isSome) = some (bI (decide ((pT (tk F n) b lf 13 j [] []).1 = 0)), cst N h0 c') ∧ frP u c c' ∧ ((pT (tk F n) b lf 13 j [] []).1 = 0 → isT c' u 12 (bar b) (pT (tk F n) b lf 13 j [] []).2.2 ∧ CT c' F n z (pT (tk F n) b lf 13 j [] []).2.1 ∧ cI c' 226 3 = cI c 226 3 ∧ cI c' 226 4 = cI c 226 4) ∧ ((pT (tk F n) b lf 13 j [] []).1 ≠ 0 → FLT c' (pT (tk F n) b lf 13 j [] []).1 (tk F n (pT (tk F n) b lf 13 j [] []).2.1).2.1) := by
  have hlt := ct_lt hc1
  obtain ⟨c1, hc1'⟩ : ∃ c1, c1 = csI c u 2 (i32 0) := ⟨_, rfl⟩
  obtain ⟨c2, hc2'⟩ : ∃ c2, c2 = csI c1 226 2 (i32 0) := ⟨_, rfl⟩
  have f1 : fr u (u + 3) c c1 := by rw [hc1']; exact fr.I (by omega) (by omega)
  have f2 : fr 226 227 c1 c2 := by rw [hc2']; exact fr.I (by omega) (by omega)
  have hRu := hL.2.1 u hc1
  have iU1 : isT c1 u 12 (bar b) [] := ⟨hc1, hc2, hc3, by rw [f1.2.1]; exact hRu.1, by rw [f1.2.1]; exact hRu.2, by simp, by omega, by rw [hc1', sI_s]; rfl, seg_nil _ _, seg_nil _ _⟩
  have fP : frP u c c2 := (frP.u f1).tr (frP.o f2 (by omega))
  obtain ⟨m, c', z1, z2, z3, z4⟩ := k_rt15 (h0 := h0) (z := z) C hb hB hu hu2 hlu hl2 13 j c2 [] [] rfl (fP.ly hL) (fP.nm hB hu hN) (iU1.fr f2 (by omega)) ⟨by rw [hc2', sI_s]; rfl, seg_nil _ _⟩ (Nat.le_refl _) (fun _ h => by cases h) ((hT.fr f1 (by omega)).fr f2 (by omega)) (fun T h => ⟨fP.t (hl T h).1 (hlu T h) (Or.inl (hl2 T h)), (hl T h).2⟩)
  refine ⟨c', ?_, fP.tr z2, fun h => ?_, z4⟩
  · unfold jf_X4_readTerm jf_X7_clear
    simp (disch := omega) only [i32_lit, ksI hlt, ksI, xbs]
    rw [← hc1', ← hc2']
    exact jf_X4_readTerm_15_l z1
  · obtain ⟨v1, v2, v3, v4⟩ := z3 h
    refine ⟨v1, v2, v3.trans ?_, v4.trans ?_⟩
    · rw [hc2', sI_o (by omega), (f1.1 226 (by omega)).1]
    · rw [hc2', sI_o (by omega), (f1.1 226 (by omega)).1]
/-- a mark, as the model sees it -/
theorem r_sgn {j s : Nat} (hR : RT I F n j) (hs : s = 59 ∨ s = 40 ∨ s = 41 ∨ s = 44) : jf_X12_isSign ty (rst mm mi h0 M I A J) M (i32 (s : Nat)) = some (bI (decide ((tk F n j).1 = s))) := by
  have hrel := hR.2.1
  have yes : (tk F n j).1 = s → I 8 = i32 4 ∧ I 9 = i32 (s : Nat) := by
    intro e
    rcases hrel with h | h | h | h | h | h | h | h | h
    · omega
    · omega
    · omega
    · omega
    · omega
    · omega
    · omega
    · exact ⟨h.2.1, by rw [h.2.2, e]⟩
    · omega
  have no : (tk F n j).1 ≠ s → ¬ (I 8 = i32 4 ∧ I 9 = i32 (s : Nat)) := by
    intro e hh
    have n4 : ∀ x : Int, x = 0 ∨ x = 2 ∨ x = 1 ∨ x = 3 ∨ x = 5 ∨ x = 6 → ¬ i32 x = i32 4 := by rintro x (rfl | rfl | rfl | rfl | rfl | rfl) <;> decide
    rcases hrel with h | h | h | h | h | h | h | h | h
    · exact n4 0 (by omega) (h.2.symm.trans hh.1)
    · rcases h.2 with h | h | h
      · exact n4 6 (by omega) (h.symm.trans hh.1)
      · rcases hs with rfl | rfl | rfl | rfl
        · exact h.2.1 hh.2
        · exact h.2.2.1 hh.2
        · exact h.2.2.2.1 hh.2
        · exact h.2.2.2.2 hh.2
      · exact n4 5 (by omega) (h.1.symm.trans hh.1)
    · exact n4 2 (by omega) (h.2.1.symm.trans hh.1)
    · exact n4 1 (by omega) (h.2.1.symm.trans hh.1)
    · exact n4 1 (by omega) (h.2.1.symm.trans hh.1)
    · exact n4 1 (by omega) (h.2.1.symm.trans hh.1)
    · exact n4 3 (by omega) (h.2.1.symm.trans hh.1)
    · have := h.2.2.symm.trans hh.2
      rw [i32_eq (by omega) (by omega) (by omega) (by omega)] at this
      omega
    · exact n4 5 (by omega) (h.2.1.symm.trans hh.1)
  unfold jf_X12_isSign
  simp only [rI, i32_lit]
  by_cases w : (tk F n j).1 = s
  · obtain ⟨e1, e2⟩ := yes w
    simp only [e1, e2, if_true, decide_eq_true w]
    rfl
  · rw [decide_eq_false w]
    by_cases w8 : I 8 = i32 4
    · have w9 : ¬ I 9 = i32 (s : Nat) := fun h => no w ⟨w8, h⟩
      simp only [eq_true w8, eq_false w9, if_true, if_false]
      rfl
    · simp only [eq_false w8, if_false]
      rfl
/-- a kind, as the model sees it -/
theorem r_kd {j : Nat} (hR : RT I F n j) : (I 8 = i32 2 ↔ (tk F n j).1 = 2) ∧ (I 8 = i32 0 ↔ (tk F n j).1 = 0) ∧ ((tk F n j).1 = 2 → I 9 = i32 ((tk F n j).2.2.1 : Nat)) := by
  have d20 : ¬ (i32 0 : Int32) = i32 2 := by decide
  have d02 : ¬ (i32 2 : Int32) = i32 0 := by decide
  have dn : ∀ x : Int, x = 1 ∨ x = 3 ∨ x = 4 ∨ x = 5 ∨ x = 6 → ¬ i32 x = i32 2 ∧ ¬ i32 x = i32 0 := by rintro x (rfl | rfl | rfl | rfl | rfl) <;> decide
  have key : ∀ (x : Int), (x = 1 ∨ x = 3 ∨ x = 4 ∨ x = 5 ∨ x = 6) → I 8 = i32 x → (tk F n j).1 ≠ 2 → (tk F n j).1 ≠ 0 → (I 8 = i32 2 ↔ (tk F n j).1 = 2) ∧ (I 8 = i32 0 ↔ (tk F n j).1 = 0) ∧ ((tk F n j).1 = 2 → I 9 = i32 ((tk F n j).2.2.1 : Nat)) := by
    intro x hx h8 h2 h0'
    rw [h8]
    exact ⟨⟨fun h => absurd h (dn x hx).1, fun h => absurd h h2⟩, ⟨fun h => absurd h (dn x hx).2, fun h => absurd h h0'⟩, fun h => absurd h h2⟩
  rcases hR.2.1 with h | h | h | h | h | h | h | h | h
  · rw [h.2]
    exact ⟨⟨fun e => absurd e d20, fun e => by omega⟩, ⟨fun _ => h.1, fun _ => rfl⟩, fun e => by omega⟩
  · rcases h.2 with e | e | e
    · exact key 6 (by omega) e (by omega) (by omega)
    · exact key 4 (by omega) e.1 (by omega) (by omega)
    · exact key 5 (by omega) e.1 (by omega) (by omega)
  · rw [h.2.1]
    exact ⟨⟨fun _ => h.1, fun _ => rfl⟩, ⟨fun e => absurd e d02, fun e => by omega⟩, fun _ => h.2.2⟩
  · exact key 1 (by omega) h.2.1 (by omega) (by omega)
  · exact key 1 (by omega) h.2.1 (by omega) (by omega)
  · exact key 1 (by omega) h.2.1 (by omega) (by omega)
  · exact key 3 (by omega) h.2.1 (by omega) (by omega)
  · exact key 4 (by omega) h.2.1 (by omega) (by omega)
  · exact key 5 (by omega) h.2.1 (by omega) (by omega)
def keepR (I I' : Nat → Int32) : Prop := ∀ k, k ∉ [4, 5, 7, 8, 9, 10, 30] → I' k = I k
theorem keepR.rf : keepR I I := fun _ _ => rfl
theorem keepR.tr {I1 I2 I3 : Nat → Int32} (h1 : keepR I1 I2) (h2 : keepR I2 I3) : keepR I1 I3 := fun k hk => (h2 k hk).trans (h1 k hk)
theorem keepR.fu {k : Nat} {v : Int32} (h : k ∈ [4, 5, 7, 8, 9, 10, 30]) : keepR I (fu I k v) := fun x hx => fu_ne _ _ (fun e => hx (e ▸ h))
theorem keepR.K {I' : Nat → Int32} (h : keepK I I') : keepR I I' := fun k hk => h k (fun e => hk (by
  simp only [List.mem_cons, List.not_mem_nil, or_false] at e ⊢
  omega))
def FLr (I : Nat → Int32) (f s : Nat) : Prop := I 4 = i32 (f : Nat) ∧ I 5 = i32 (s : Nat)
theorem r_wr {f j : Nat} (hR : RT I F n j) : ∃ I', jf_X12_wrong ty (rst mm mi h0 M I A J) M (i32 (f : Nat)) = some (i32 0, rst mm mi h0 M I' A J) ∧ (∀ k, k ≠ 4 → k ≠ 5 → I' k = I k) ∧ FLr I' f (tk F n j).2.1 := by
  refine ⟨fu (fu I 4 (i32 (f : Nat))) 5 (I 10), ?_, fun k h1 h2 => by rw [fu_ne _ _ h2, fu_ne _ _ h1], by rw [fu_ne _ _ (by decide), fu_same], by rw [fu_same]; exact hR.2.2.1⟩
  unfold jf_X12_wrong
  have e : fu I 4 (i32 (f : Nat)) 10 = I 10 := fu_ne _ _ (by decide)
  simp only [rsI, xbs, rI, e]
  rfl
theorem keepR.W {I' : Nat → Int32} (h : ∀ k, k ≠ 4 → k ≠ 5 → I' k = I k) : keepR I I' := fun k hk => h k (fun e => hk (by rw [e]; decide)) (fun e => hk (by rw [e]; decide))
theorem TPr.keep {A' : Nat → Nat → Int32} (h : TPr A F n) (h0 : A' 0 = A 0) (h3 : A' 3 = A 3) : TPr A' F n := by
  unfold TPr at *
  rw [h0, h3]
  exact h
/-- brackets, in the model -/
theorem r_t188 (H : MH ty M mm mi h0) (v1 v2 : Int32) : ∀ (aw : List Nat) (j : Nat) (I : Nat → Int32) (A : Nat → Nat → Int32), TPr A F n → aw.length ≤ 12 → (∀ a ∈ aw, 1 ≤ a ∧ a ≤ 3) → RT I F n j → seg (A 31) 0 aw.reverse →
    ∃ m I' A', (∀ (k7 : Nat → Int32 → Int32 → Int32 → xH → Option (Int32 × xH)) w, (if (clB (tk F n) j aw).1 ≠ 0 then some (i32 0, rst mm mi h0 M I' A' J) else if (clB (tk F n) j aw).2.2 = [] then some (i32 1, rst mm mi h0 M I' A' J) else k7 M v1 v2 (i32 (clB (tk F n) j aw).2.2.length) (rst mm mi h0 M I' A' J)) = some w → jf_X12_termRead_188 ty k7 m M v1 v2 (i32 aw.length) (i32 0) (rst mm mi h0 M I A J) = some w) ∧ keepR I I' ∧ I' 30 = I 30 ∧ but 31 A A' ∧ ((clB (tk F n) j aw).1 = 0 → RT I' F n (clB (tk F n) j aw).2.1 ∧ seg (A' 31) 0 (clB (tk F n) j aw).2.2.reverse ∧ I' 4 = I 4 ∧ I' 5 = I 5) ∧ ((clB (tk F n) j aw).1 ≠ 0 → FLr I' 1 (tk F n (clB (tk F n) j aw).2.1).2.1) := by
  intro aw
  induction aw with
  | nil =>
    intro j I A hT h12 ha hR hs
    refine ⟨1, I, A, fun k7 w hw => ?_, keepR.rf, rfl, but.rf, fun _ => ⟨hR, hs, rfl, rfl⟩, fun h => absurd rfl h⟩
    rw [← hw, jf_X12_termRead_188_s]
    rfl
  | cons a aw ih =>
    intro j I A hT h12 ha hR hs
    obtain ⟨a1, a3⟩ := ha a List.mem_cons_self
    simp only [List.length_cons] at h12
    rw [List.reverse_cons, seg_app, List.length_reverse, Nat.zero_add] at hs
    have ea : A 31 aw.length = i32 (a : Nat) := by
      have := hs.2 0 a rfl
      rw [Nat.add_zero] at this
      exact this
    obtain ⟨A1, hA1⟩ : ∃ A1, A1 = fu2 A 31 aw.length (i32 ((a - 1 : Nat) : Int)) := ⟨_, rfl⟩
    have b1 : but 31 A A1 := by rw [hA1]; exact but.fu
    have eb : A1 31 aw.length = i32 ((a - 1 : Nat) : Int) := by rw [hA1, fu2_same]
    have hT1 : TPr A1 F n := hT.keep (b1 0 (by decide)) (b1 3 (by decide))
    have hs1 : seg (A1 31) 0 aw.reverse := by rw [hA1]; exact seg_fu2 hs.1 (by rw [List.length_reverse]; omega)
    have hhead : ∀ (k7 : Nat → Int32 → Int32 → Int32 → xH → Option (Int32 × xH)) m, jf_X12_termRead_188 ty k7 (m + 1) M v1 v2 (i32 ((aw.length + 1 : Nat) : Int)) (i32 0) (rst mm mi h0 M I A J) = if ((a - 1 : Nat) : Int) ≤ 0 then jf_X12_termRead_240 ty k7 (jf_X12_termRead_188 ty k7 m) M v1 v2 (i32 ((aw.length + 1 : Nat) : Int)) (i32 0) M (i32 41) (rst mm mi h0 M I A1 J) else jf_X12_termRead_240 ty k7 (jf_X12_termRead_188 ty k7 m) M v1 v2 (i32 ((aw.length + 1 : Nat) : Int)) (i32 1) M (i32 44) (rst mm mi h0 M I A1 J) := by
      intro k7 m
      have n10 : ¬ i32 1 = i32 0 := by decide
      rw [jf_X12_termRead_188_s]
      simp (disch := omega) only [i32_lit, i32_le, if_neg, if_true, rr_31 H, xbs, i32_sub]
      rw [show ((aw.length + 1 : Nat) : Int) - 1 = ((aw.length : Nat) : Int) by omega]
      simp (disch := omega) only [ga_31 H, wa_31 H, rr_31 H, xbs, Int.toNat_natCast, ea, i32_sub]
      rw [show (a : Int) - 1 = ((a - 1 : Nat) : Int) by omega, ← hA1]
      simp (disch := omega) only [ga_31 H, rr_31 H, xbs, Int.toNat_natCast, eb, i32_le, eq_false n10, if_false]
    rw [show clB (tk F n) j (a :: aw) = (if 1 < a then (if (tk F n j).1 = 44 then (0, j + 1, (a - 1) :: aw) else (1, j, [])) else (if (tk F n j).1 = 41 then clB (tk F n) (j + 1) aw else (1, j, []))) from rfl]
    have hno : ∀ (s : Nat), (s = 41 ∨ s = 44) → (tk F n j).1 ≠ s → ∃ I', (∀ (k7 : Nat → Int32 → Int32 → Int32 → xH → Option (Int32 × xH)) (v6 : Int32) (m : Nat), jf_X12_termRead_240 ty k7 (jf_X12_termRead_188 ty k7 m) M v1 v2 (i32 ((aw.length + 1 : Nat) : Int)) v6 M (i32 (s : Nat)) (rst mm mi h0 M I A1 J) = some (i32 0, rst mm mi h0 M I' A1 J)) ∧ (∀ k, k ≠ 4 → k ≠ 5 → I' k = I k) ∧ FLr I' 1 (tk F n j).2.1 := by
      intro s h1 h2
      obtain ⟨I', q1, q2, q3⟩ := r_wr (ty := ty) (M := M) (mm := mm) (mi := mi) (h0 := h0) (A := A1) (J := J) (f := 1) hR
      refine ⟨I', fun k7 v6 m => ?_, q2, q3⟩
      unfold jf_X12_termRead_240
      rw [r_sgn hR (by omega), xbs, decide_eq_false h2]
      simp only [i32_lit, show bI false = i32 0 from rfl, if_true]
      rw [show i32 1 = i32 ((1 : Nat) : Int) from rfl, q1, xb2s, xz0, xbs]
    by_cases w : 1 < a
    · have w' : ¬ ((a - 1 : Nat) : Int) ≤ 0 := by omega
      rw [if_pos w]
      by_cases w4 : (tk F n j).1 = 44
      · rw [if_pos w4]
        obtain ⟨I', q1, q2, q3⟩ := r_tok (J := J) H hT1 hR (by omega)
        refine ⟨2, I', A1, fun k7 v hv => ?_, keepR.K q2, q2 30 (by decide), b1, fun _ => ⟨q3, ?_, q2 4 (by decide), q2 5 (by decide)⟩, fun h => absurd rfl h⟩
        · rw [show (a :: aw).length = aw.length + 1 from rfl, hhead k7 1, if_neg w']
          unfold jf_X12_termRead_240
          rw [show i32 44 = i32 ((44 : Nat) : Int) from rfl, r_sgn hR (by omega), xbs, decide_eq_true w4]
          have n10 : ¬ i32 1 = i32 0 := by decide
          have nb : ¬ bI true = i32 0 := by decide
          simp only [i32_lit, eq_false nb, eq_false n10, if_false, q1, xbs, i32_sub]
          rw [jf_X12_termRead_188_s]
          simp (disch := omega) only [i32_lit, i32_le, if_neg, eq_false n10, if_false]
          rw [if_neg (show ¬ (0 : Nat) ≠ 0 by decide), if_neg (by simp)] at hv
          rw [show ((aw.length + 1 : Nat) : Int) - 0 = ((((a - 1) :: aw : List Nat).length : Nat) : Int) by simp]
          exact hv
        · rw [List.reverse_cons]
          exact seg_snoc hs1 (by rw [Nat.zero_add, List.length_reverse]; exact eb)
      · rw [if_neg w4]
        obtain ⟨I', q1, q2, q3⟩ := hno 44 (by omega) w4
        refine ⟨1, I', A1, fun k7 v hv => ?_, keepR.W q2, q2 30 (by decide) (by decide), b1, fun h => (by cases h), fun _ => q3⟩
        rw [if_pos (show (1 : Nat) ≠ 0 by decide)] at hv
        rw [← hv, show (a :: aw).length = aw.length + 1 from rfl, hhead k7 0, if_neg w']
        exact q1 k7 _ _
    · have w' : ((a - 1 : Nat) : Int) ≤ 0 := by omega
      rw [if_neg w]
      by_cases w4 : (tk F n j).1 = 41
      · rw [if_pos w4]
        obtain ⟨I1, q1, q2, q3⟩ := r_tok (J := J) H hT1 hR (by omega)
        obtain ⟨m, I', A', y1, y2, y2b, y3, y4, y5⟩ := ih (j + 1) I1 A1 hT1 (by omega) (fun x hx => ha x (List.mem_cons_of_mem _ hx)) q3 hs1
        refine ⟨m + 1, I', A', fun k7 v hv => ?_, (keepR.K q2).tr y2, y2b.trans (q2 30 (by decide)), b1.tr y3, fun h => ?_, y5⟩
        · rw [show (a :: aw).length = aw.length + 1 from rfl, hhead k7 m, if_pos w']
          unfold jf_X12_termRead_240
          rw [show i32 41 = i32 ((41 : Nat) : Int) from rfl, r_sgn hR (by omega), xbs, decide_eq_true w4]
          have nb : ¬ bI true = i32 0 := by decide
          simp only [i32_lit, eq_false nb, if_false, q1, xbs, i32_sub, if_true]
          rw [show ((aw.length + 1 : Nat) : Int) - 1 = ((aw.length : Nat) : Int) by omega]
          exact y1 k7 v hv
        · obtain ⟨x1, x2, x3, x4⟩ := y4 h
          exact ⟨x1, x2, x3.trans (q2 4 (by decide)), x4.trans (q2 5 (by decide))⟩
      · rw [if_neg w4]
        obtain ⟨I', q1, q2, q3⟩ := hno 41 (by omega) w4
        refine ⟨1, I', A1, fun k7 v hv => ?_, keepR.W q2, q2 30 (by decide) (by decide), b1, fun h => (by cases h), fun _ => q3⟩
        rw [if_pos (show (1 : Nat) ≠ 0 by decide)] at hv
        rw [← hv, show (a :: aw).length = aw.length + 1 from rfl, hhead k7 0, if_pos w']
        exact q1 k7 _ _
end PARSER

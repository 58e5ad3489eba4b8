/-! rewriting, of lists alone; parts of terms added -/
section RWP
variable {b : Bk} {ar : Nat → Nat}
/-- a right term, filled -/
def fil (β : Bd) : List Nat → List Nat
  | [] => []
  | c :: U => (if 100 ≤ c then (β (c - 100)).getD [] else [c]) ++ fil β U
theorem fil_app (β : Bd) : ∀ X Y : List Nat, fil β (X ++ Y) = fil β X ++ fil β Y
  | [], Y => rfl
  | c :: X, Y => by simp only [List.cons_append, fil, fil_app β X Y, List.append_assoc]
theorem mt_ext : ∀ (G S : List Nat) (b0 β : Bd), mt ar G S b0 = some β → (∀ v s, b0 v = some s → β v = some s) ∧ (∀ d ∈ G, 100 ≤ d → ∃ s, β (d - 100) = some s) ∧ ∀ v s, β v = some s → b0 v = some s ∨ ∃ k, k < S.length ∧ s = fst1 ar (S.drop k)
  | [], S, b0, β, h => by
    simp only [mt] at h
    obtain rfl := Option.some.inj h
    exact ⟨fun _ _ h => h, fun d hd => (nomatch hd), fun _ _ h => Or.inl h⟩
  | c :: G, [], b0, β, h => by simp [mt] at h
  | c :: G, d :: S, b0, β, h => by
    simp only [mt] at h
    have hdr : ∀ k, k < (snd1 ar (d :: S)).length → ∃ j, j < (d :: S).length ∧ (snd1 ar (d :: S)).drop k = (d :: S).drop j := by
      intro k hk
      unfold snd1 at hk ⊢
      rw [List.length_drop] at hk
      exact ⟨skipN ar 1 (d :: S) + k, by omega, by rw [List.drop_drop]⟩
    by_cases w : 100 ≤ c
    · rw [if_pos w] at h
      cases hb : b0 (c - 100) with
      | none =>
        rw [hb] at h
        obtain ⟨i1, i2, i3⟩ := mt_ext G _ _ β h
        refine ⟨fun v s hv => ?_, fun e he h1 => ?_, fun v s hv => ?_⟩
        · by_cases e : v = c - 100
          · rw [e, hb] at hv; cases hv
          · exact i1 v s (by rw [fu_ne _ _ e]; exact hv)
        · rcases List.mem_cons.mp he with rfl | he
          · exact ⟨_, i1 _ _ (fu_same _ _ _)⟩
          · exact i2 e he h1
        · rcases i3 v s hv with h2 | ⟨k, hk, hs⟩
          · by_cases e : v = c - 100
            · rw [e, fu_same] at h2
              exact Or.inr ⟨0, by simp, (Option.some.inj h2).symm⟩
            · rw [fu_ne _ _ e] at h2; exact Or.inl h2
          · obtain ⟨j, hj, he⟩ := hdr k hk
            exact Or.inr ⟨j, hj, by rw [hs, he]⟩
      | some t =>
        rw [hb] at h
        simp only at h
        split at h
        · obtain ⟨i1, i2, i3⟩ := mt_ext G _ _ β h
          refine ⟨i1, fun e he h1 => ?_, fun v s hv => ?_⟩
          · rcases List.mem_cons.mp he with rfl | he
            · exact ⟨t, i1 _ _ hb⟩
            · exact i2 e he h1
          · rcases i3 v s hv with h2 | ⟨k, hk, hs⟩
            · exact Or.inl h2
            · obtain ⟨j, hj, he⟩ := hdr k hk
              exact Or.inr ⟨j, hj, by rw [hs, he]⟩
        · cases h
    · rw [if_neg w] at h
      split at h
      · obtain ⟨i1, i2, i3⟩ := mt_ext G _ _ β h
        refine ⟨i1, fun e he h1 => ?_, fun v s hv => ?_⟩
        · rcases List.mem_cons.mp he with rfl | he
          · exact absurd h1 w
          · exact i2 e he h1
        · rcases i3 v s hv with h2 | ⟨k, hk, hs⟩
          · exact Or.inl h2
          · exact Or.inr ⟨k + 1, by simp; omega, hs⟩
      · cases h
theorem tms_repl {Y Y' Z : List Nat} (h1 : tms ar 1 Y) (h2 : tms ar 1 Y') : ∀ (X : List Nat) (o : Nat), tms ar o (X ++ (Y ++ Z)) → tms ar o (X ++ (Y' ++ Z))
  | [], o, h => by
    simp only [List.nil_append] at h ⊢
    have hl := tms_len h1
    cases o with
    | zero =>
      cases Y with
      | nil => simp at hl
      | cons y Y => simp [tms] at h
    | succ o =>
      have hs := (tms_split (o := 1) (o' := o) (by rw [Nat.add_comm]; exact h)).2.1
      rw [skipN_app h1, List.drop_left] at hs
      rw [Nat.add_comm]
      exact tms_app h2 hs
  | x :: X, o, h => by
    rw [List.cons_append] at h ⊢
    obtain ⟨o1, rfl, h3⟩ := tms_pos h
    exact tms_repl h1 h2 X _ h3
theorem fil_tms (hz : ∀ d, 100 ≤ d → ar d = 0) (β : Bd) : ∀ (U : List Nat) (o : Nat), tms ar o U → (∀ d ∈ U, 100 ≤ d → ∃ s, β (d - 100) = some s ∧ tms ar 1 s) → tms ar o (fil β U)
  | [], o, h, _ => h
  | c :: U, o, h, hb => by
    obtain ⟨o1, rfl, h3⟩ := tms_pos h
    have ih := fil_tms hz β U _ h3 (fun d hd => hb d (List.mem_cons_of_mem _ hd))
    simp only [fil]
    by_cases w : 100 ≤ c
    · obtain ⟨s, e1, e2⟩ := hb c List.mem_cons_self w
      rw [if_pos w, e1, Option.getD_some]
      rw [hz c w, Nat.add_zero] at ih
      rw [Nat.add_comm]
      exact tms_app e2 ih
    · rw [if_neg w, List.singleton_append]
      exact ih
/-- what is rewritten: a term of at most sixty places -/
def swf (b : Bk) (S : List Nat) : Prop := tms (bar b) 1 S ∧ S.length ≤ 60 ∧ ∀ d ∈ S, vc b d
def repl (ar : Nat → Nat) (S : List Nat) (p : Nat) (U : List Nat) (β : Bd) : List Nat := S.take p ++ fil β U ++ S.drop (p + skipN ar 1 (S.drop p))
theorem fst1_mem {L : List Nat} {d : Nat} (h : d ∈ fst1 ar L) : d ∈ L := List.mem_of_mem_take h
theorem fil_mem (β : Bd) {d : Nat} : ∀ U : List Nat, d ∈ fil β U → (d ∈ U ∧ d < 100) ∨ ∃ v s, β v = some s ∧ d ∈ s
  | [], h => by cases h
  | c :: U, h => by
    simp only [fil, List.mem_append] at h
    rcases h with h | h
    · split at h
      · cases hb : β (c - 100) with
        | none => rw [hb] at h; cases h
        | some s => rw [hb] at h; exact Or.inr ⟨_, s, hb, h⟩
      · rw [List.mem_singleton] at h
        exact Or.inl ⟨by rw [h]; exact List.mem_cons_self, by omega⟩
    · rcases fil_mem β U h with ⟨h1, h2⟩ | h1
      · exact Or.inl ⟨List.mem_cons_of_mem _ h1, h2⟩
      · exact Or.inr h1
/-- what matching binds -/
theorem mt_bd {b : Bk} {S G : List Nat} {p : Nat} {β : Bd} (hS : swf b S) (h : mt (bar b) G (S.drop p) b00 = some β) {v : Nat} {s : List Nat} (hv : β v = some s) : tms (bar b) 1 s ∧ ∀ d ∈ s, d ∈ S := by
  rcases (mt_ext G _ _ β h).2.2 v s hv with h2 | ⟨k, hk, hs⟩
  · cases h2
  · rw [List.drop_drop] at hs
    rw [List.length_drop] at hk
    obtain ⟨z, hz⟩ := tms_dr hS.1 (show p + k < S.length by omega)
    rw [hs]
    exact ⟨(fst1_split hz).2.1, fun d hd => List.mem_of_mem_drop (fst1_mem hd)⟩
theorem repl_wf {b : Bk} {S T U : List Nat} {p : Nat} {β : Bd} (hS : swf b S) (hp : p < S.length) (hU : twf b U) (hUT : ∀ d ∈ U, 100 ≤ d → d ∈ T) (h : mt (bar b) T (S.drop p) b00 = some β) (hl : (repl (bar b) S p U β).length ≤ 60) : swf b (repl (bar b) S p U β) := by
  have he := mt_ext T _ _ β h
  obtain ⟨z, hz⟩ := tms_dr hS.1 hp
  obtain ⟨s1, s2, -, s4, -, -⟩ := fst1_split hz
  have hSp : S = S.take p ++ (fst1 (bar b) (S.drop p) ++ S.drop (p + skipN (bar b) 1 (S.drop p))) := by
    have : snd1 (bar b) (S.drop p) = S.drop (p + skipN (bar b) 1 (S.drop p)) := by unfold snd1; rw [List.drop_drop]
    rw [← this, s1, List.take_append_drop]
  have hfil : tms (bar b) 1 (fil β U) := fil_tms (bar_z b) β U 1 hU.1 (fun d hd h1 => by
    obtain ⟨s, hs⟩ := he.2.1 d (hUT d hd h1) h1
    exact ⟨s, hs, (mt_bd hS h hs).1⟩)
  refine ⟨?_, hl, fun d hd => ?_⟩
  · unfold repl
    rw [List.append_assoc]
    refine tms_repl s2 hfil (S.take p) 1 ?_
    rw [← hSp]
    exact hS.1
  · unfold repl at hd
    rw [List.mem_append, List.mem_append] at hd
    rcases hd with (hd | hd) | hd
    · exact hS.2.2 d (List.mem_of_mem_take hd)
    · rcases fil_mem β U hd with ⟨h1, -⟩ | ⟨v, s, h1, h2⟩
      · exact hU.2.2 d h1
      · exact hS.2.2 d ((mt_bd hS h h1).2 d h2)
    · exact hS.2.2 d (List.mem_of_mem_drop hd)
/-- where a rule leads to a step -/
def rfM (g : Sg) (S : List Nat) (p r : Nat) : Option Bd := if inR (gin g) r && !(bU (gb g) r).isEmpty then mt (bar (gb g)) (bT (gb g) r) (S.drop p) b00 else none
def rfF (g : Sg) (S : List Nat) (p : Nat) : Nat → Nat → Option (Nat × Bd)
  | 0, _ => none
  | k + 1, r => match rfM g S p r with
    | some β => some (r, β)
    | none => rfF g S p k (r + 1)
def stF (g : Sg) (S : List Nat) : Nat → Nat → Option (Nat × Nat × Bd)
  | 0, _ => none
  | k + 1, p => match rfF g S p (bnr (gb g)) 0 with
    | some (r, β) => some (p, r, β)
    | none => stF g S k (p + 1)
def nxR (g : Sg) (S : List Nat) : Option (Nat × List Nat) := match stF g S S.length 0 with
  | none => none
  | some (p, r, β) => if (repl (bar (gb g)) S p (bU (gb g) r) β).length ≤ 60 then some (r, repl (bar (gb g)) S p (bU (gb g) r) β) else none
def rwF (g : Sg) : Nat → List Nat → Nat → Int → List Nat × Nat × Int
  | 0, S, n, f => (S, n, f)
  | k + 1, S, n, f => match nxR g S with
    | none => (S, n, f)
    | some (r, S') => rwF g k S' (n + 1) (if n = 0 then (r : Int) else f)
theorem rfF_ok {g : Sg} {S : List Nat} {p : Nat} : ∀ (k r : Nat) (r' : Nat) (β : Bd), r + k = bnr (gb g) → rfF g S p k r = some (r', β) → r' < bnr (gb g) ∧ rfM g S p r' = some β
  | 0, r, r', β, _, h => by cases h
  | k + 1, r, r', β, hk, h => by
    simp only [rfF] at h
    cases hm : rfM g S p r with
    | some β' =>
      rw [hm] at h
      simp only [Option.some.injEq, Prod.mk.injEq] at h
      obtain ⟨rfl, rfl⟩ := h
      exact ⟨by omega, hm⟩
    | none =>
      rw [hm] at h
      exact rfF_ok k (r + 1) r' β (by omega) h
theorem stF_ok {g : Sg} {S : List Nat} : ∀ (k p p' r' : Nat) (β : Bd), p + k = S.length → stF g S k p = some (p', r', β) → p' < S.length ∧ r' < bnr (gb g) ∧ rfM g S p' r' = some β
  | 0, p, p', r', β, _, h => by cases h
  | k + 1, p, p', r', β, hk, h => by
    simp only [stF] at h
    cases hm : rfF g S p (bnr (gb g)) 0 with
    | some q =>
      obtain ⟨r, β1⟩ := q
      rw [hm] at h
      simp only [Option.some.injEq, Prod.mk.injEq] at h
      obtain ⟨rfl, rfl, rfl⟩ := h
      have := rfF_ok _ _ _ _ (Nat.zero_add _) hm
      exact ⟨by omega, this⟩
    | none =>
      rw [hm] at h
      exact stF_ok k (p + 1) p' r' β (by omega) h
theorem rfM_ok {g : Sg} {S : List Nat} {p r : Nat} {β : Bd} (h : rfM g S p r = some β) : inR (gin g) r = true ∧ bU (gb g) r ≠ [] ∧ mt (bar (gb g)) (bT (gb g) r) (S.drop p) b00 = some β := by
  unfold rfM at h
  split at h
  · rename_i hc
    rw [Bool.and_eq_true_iff] at hc
    refine ⟨hc.1, fun e => ?_, h⟩
    rw [e] at hc
    cases hc.2
  · cases h
theorem nxR_wf {g : Sg} (hg : gwf g) {S S' : List Nat} {r : Nat} (hS : swf (gb g) S) (h : nxR g S = some (r, S')) : swf (gb g) S' ∧ r < bnr (gb g) := by
  unfold nxR at h
  cases hm : stF g S S.length 0 with
  | none => rw [hm] at h; cases h
  | some q =>
    obtain ⟨p, r1, β⟩ := q
    rw [hm] at h
    simp only at h
    split at h
    · simp only [Option.some.injEq, Prod.mk.injEq] at h
      obtain ⟨rfl, rfl⟩ := h
      obtain ⟨h1, h2, h3⟩ := stF_ok _ _ _ _ _ (Nat.zero_add _) hm
      obtain ⟨-, h4, h5⟩ := rfM_ok h3
      rcases (hg.1.2.2.2.2 r1 h2).2 with h6 | ⟨h6, h7⟩
      · exact absurd h6 h4
      · exact ⟨repl_wf hS h1 h6 h7 h5 (by assumption), h2⟩
    · cases h
end RWP
section RWA
variable {ty : xTy} {N M : Nat} {hA hB h0 : xH} {mm mi : Nat → Nat} {c : CS} {I : Nat → Int32} {A : Nat → Nat → Int32} {J : Nat → Int64} {g : Sg} {b : Bk} {ar : Nat → Nat}
/-- a part of a term is added, as far as there is room -/
theorem k_aP3 (C : CH ty N) {t u ru room e : Nat} {T : List Nat} (hd : t + 3 ≤ u ∨ u + 3 ≤ t) (he : e ≤ T.length) (hro : room ≤ 60) (hT : ∀ d ∈ T, d < 1000) : ∀ (k a : Nat) (c : CS) (D : List Nat), a + k = e → isT c t room ar D → isT c u ru ar T →
    ∃ c', jf_X7_addPart_3 ty (k + 1) (N + t) (N + u) (i32 e) (i32 a) (cst N h0 c) = some (bI (decide (D.length + k ≤ room)), cst N h0 c') ∧ fr t (t + 3) c c' ∧ (D.length + k ≤ room → isT c' t room ar (D ++ (T.drop a).take k)) := by
  intro k
  induction k with
  | zero =>
    intro a c D h1 iD iT
    have h60 : T.length ≤ 60 := by have := iT.2.2.2.2.2; omega
    have hDl := iD.2.2.2.2.2.1
    refine ⟨c, ?_, fr.rf, fun _ => by rw [List.take_zero, List.append_nil]; exact iD⟩
    rw [jf_X7_addPart_3_s]
    simp (disch := omega) only [i32_lit, i32_neg, i32_add, i32_sub, i32_mul, i32_lt, i32_le, i32_eq, if_pos]
    rw [decide_eq_true (by omega)]; rfl
  | succ k ih =>
    intro a c D h1 iD iT
    have h60 : T.length ≤ 60 := by have := iT.2.2.2.2.2; omega
    have hDl := iD.2.2.2.2.2.1
    obtain ⟨d, hda⟩ := get_some (L := T) (i := a) (by omega)
    have cT : jf_X7_codeAt ty (cst N h0 c) (N + u) (i32 a) = some (i32 (d : Nat)) := by
      rw [t_codeAt C iT (by omega) (by omega), Int.toNat_natCast, hda]; rfl
    have aT : jf_X7_arityAt ty (cst N h0 c) (N + u) (i32 a) = some (i32 (ar d : Nat)) := by
      rw [t_arityAt C iT (by omega) (by omega), Int.toNat_natCast, hda]; rfl
    rcases Nat.lt_or_ge D.length room with hl | hl
    · obtain ⟨c1, q1, q2, q3⟩ := t_add (h0 := h0) C iD hl d
      obtain ⟨c', p1, p2, p3⟩ := ih (a + 1) c1 (D ++ [d]) (by omega) q2 (iT.fr q3 (by omega))
      rw [List.length_append, List.length_singleton] at p1 p3
      refine ⟨c', ?_, q3.tr p2, fun hle => ?_⟩
      · rw [show D.length + (k + 1) = D.length + 1 + k by omega, ← p1, jf_X7_addPart_3_s]
        simp (disch := omega) only [i32_lit, i32_neg, i32_add, i32_sub, i32_mul, i32_lt, i32_le, i32_eq, if_neg, cT, aT, xbs, q1, xb2s]
        rw [show (a : Int) + 1 = ((a + 1 : Nat) : Int) by omega]
      · have := p3 (by omega)
        rw [drop_cons hda, List.take_succ_cons]
        rw [List.append_assoc, List.singleton_append] at this
        exact this
    · have hq := t_full (h0 := h0) C iD (by omega) (i32 (d : Nat)) (i32 (ar d : Nat))
      refine ⟨c, ?_, fr.rf, fun hle => by omega⟩
      rw [jf_X7_addPart_3_s]
      simp (disch := omega) only [i32_lit, i32_neg, i32_add, i32_sub, i32_mul, i32_lt, i32_le, i32_eq, if_neg, cT, aT, xbs, hq, xb2s, if_true]
      rw [decide_eq_false (by omega)]; rfl
theorem k_aP (C : CH ty N) {t u ru room a e : Nat} {T D : List Nat} (hd : t + 3 ≤ u ∨ u + 3 ≤ t) (hae : a ≤ e) (he : e ≤ T.length) (hro : room ≤ 60) (hT : ∀ d ∈ T, d < 1000) (iD : isT c t room ar D) (iT : isT c u ru ar T) :
    ∃ c', jf_X7_addPart ty (cst N h0 c) (N + t) (N + u) (i32 a) (i32 e) = some (bI (decide (D.length + (e - a) ≤ room)), cst N h0 c') ∧ fr t (t + 3) c c' ∧ (D.length + (e - a) ≤ room → isT c' t room ar (D ++ (T.drop a).take (e - a))) := by
  obtain ⟨c', q1, q2, q3⟩ := k_aP3 (h0 := h0) C hd he hro hT (e - a) a c D (by omega) iD iT
  exact ⟨c', jf_X7_addPart_3_l q1, q2, q3⟩
end RWA

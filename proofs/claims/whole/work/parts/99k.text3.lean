/-! TEXT: the operation -/
section TEXT3
variable {ty : xTy} {N M : Nat} {hA hB h0 : xH} {mm mi : Nat → Nat} {c : CS} {I I' : Nat → Int32} {A A' : Nat → Nat → Int32} {J : Nat → Int64} {g : Sg} {b : Bk} {F : Nat → Nat} {n : Nat}
theorem lnR_f (T : Nat → Tk) (b : Bk) (j : Nat) : (lnR T b j).1 ≤ 5 := by
  have h1 := pT_f (T := T) (b := b) (lf := none) 13 (j + 2) [] []
  have h2 := fun (l : List Nat) (i : Nat) => pT_f (T := T) (b := b) (lf := some l) 13 i [] []
  unfold lnR sgL vrL rlL rlT rlU
  generalize pT T b none 13 (j + 2) [] [] = q at *
  have h3 := h2 q.2.2 (q.2.1 + 1)
  generalize pT T b (some q.2.2) 13 (q.2.1 + 1) [] [] = q' at *
  clear h2
  repeat' split
  all_goals first | omega | (simp only []; omega)
theorem lns_f (T : Nat → Tk) : ∀ (k v j : Nat) (b : Bk), (lns T k v j b).1 ≤ 5 := by
  intro k
  induction k with
  | zero => intro v j b; show (1 : Nat) ≤ 5; omega
  | succ k ih =>
    intro v j b
    have h1 := lnR_f T b j
    have h2 : (lnS T b j).1 ≤ 5 := by
      unfold lnS lnE
      repeat' split
      · exact h1
      · exact Nat.zero_le _
      · show (1 : Nat) ≤ 5; omega
    rw [show lns T (k + 1) v j b = (if (T j).1 = 0 then (0, j, v, b) else if (lnS T b j).1 ≠ 0 then ((lnS T b j).1, (lnS T b j).2.1, v, b) else lns T k (v + 1) (lnS T b j).2.1 (lnS T b j).2.2) from rfl]
    split
    · exact Nat.zero_le _
    · split
      · exact h2
      · exact ih _ _ _
theorem op_text (C : CH ty N) (H : MH ty M mm mi hB) (hg : gwf g) (hc : CRep c g) (hr : RRep I A g) {v : Int} (d1 : -2147483648 ≤ v) (d2 : v < 2147483648) :
    ∃ g', gwf g' ∧ OP N hA mm mi hB M J g' (jf_X11_text ty (cst N hA c) (N + 0) (i32 v)) (jf_X12_text ty (rst mm mi hB M I A J) M (i32 v)) := by
  have I2 : ∀ k, k ≠ 33 → k ≠ 2 → k ≠ 39 → fu I 2 (i32 0) k = I k := fun k _ h _ => fu_ne _ _ h
  have hr2 : RRep (fu I 2 (i32 0)) A g := hr.ks I2 keepA.rf
  have h700 := hg.2.2.2.2.2.2.1
  have htc := hc.2.2.2.2.2.1
  have htr := hr2.2.2.2.2.2.1
  unfold jf_X11_text jf_X12_text
  simp (disch := omega) only [rsI, xbs, i32_lit, i32_neg, i32_le, i32_lt, kI, htc.1, rI, htr.1]
  by_cases w : v < 0
  · simp only [eq_true w, if_true]
    exact ⟨g, hg, OP.ret hc hr _ _ I2 (fu_same _ _ _) rfl rfl⟩
  · simp only [eq_false w, if_false]
    obtain ⟨n, rfl⟩ : ∃ n : Nat, v = n := ⟨v.toNat, by omega⟩
    by_cases w2 : (n : Int) ≤ ((gtp g).1 : Int)
    · simp only [eq_true w2, if_true]
      obtain ⟨F, hF⟩ := tape_F hg.2.2.2.2.2.2.2.1
      have hS := hc.1.bk3
      obtain ⟨c1, hc1⟩ : ∃ c1, c1 = csI c 0 1 (i32 0) := ⟨_, rfl⟩
      have f1 : fr 0 1 c c1 := by rw [hc1]; exact fr.I (by omega) (by omega)
      have hL1 := hc.1.same f1.2.1 f1.2.2
      have hT1 : TPc c1 F n := ⟨by omega, fun k hk => ⟨(hF k (by omega)).1, by rw [(f1.1 1 (by omega)).2, htc.2 k (by omega), (hF k (by omega)).2]⟩⟩
      obtain ⟨c2, z, q1, q2, ⟨z1, z2, z3⟩, q3, q4⟩ := k_ls (h0 := hA) C hS hL1 hT1
      have hL2 := q2.ly hL1
      have e3 : cR c1 0 3 = cR c 0 3 := by rw [f1.2.1]
      have fQ : frQ (cR c 0 3) (cR c 0 3 + 106) c c2 := (frQ.o f1 (by omega)).tr ⟨fun q _ a2 a3 => q2.1 q a2 a3, q2.2⟩
      have h01 : cI c2 0 1 = i32 0 := by rw [(q2.1 0 (by omega) (by omega)).1, hc1, sI_s]
      have hTr : TPr A F n := ⟨by omega, fun k hk => ⟨(hF k (by omega)).1, by rw [htr.2.1 k (by omega), (hF k (by omega)).2]⟩, htr.2.2⟩
      obtain ⟨I1, hI1⟩ : ∃ I1, I1 = fu (fu (fu (fu I 2 (i32 0)) 15 (i32 0)) 16 (i32 0)) 17 (i32 0) := ⟨_, rfl⟩
      have k1 : ∀ k, k ≠ 15 → k ≠ 16 → k ≠ 17 → I1 k = fu I 2 (i32 0) k := fun k a b c => by rw [hI1, fu_ne _ _ c, fu_ne _ _ b, fu_ne _ _ a]
      have hpl : jf_X12_plain ty (rst mm mi hB M (fu I 2 (i32 0)) A J) M = some (rst mm mi hB M I1 A J) := by
        unfold jf_X12_plain
        simp only [i32_lit, rsI, xbs]
        rw [hI1]
      obtain ⟨I3, t1, t2, t3, t4, t5, t6⟩ := r_sts (J := J) (I := I1) H hTr
      have hB0 : RBr I3 A bk0 := by
        refine ⟨?_, ?_, ?_, fun k hk => absurd hk (Nat.not_lt_zero k), fun k hk => absurd hk (Nat.not_lt_zero k), fun k hk => absurd hk (Nat.not_lt_zero k)⟩
        · rw [t6 15 (by decide), hI1, fu_ne _ _ (by decide), fu_ne _ _ (by decide), fu_same]; rfl
        · rw [t6 16 (by decide), hI1, fu_ne _ _ (by decide), fu_same]; rfl
        · rw [t6 17 (by decide), hI1, fu_same]; rfl
      obtain ⟨I4, A4, p1, p2, p3, p4, p5⟩ := r_lns (J := J) H z3 701 0 0 I3 A bk0 (by omega) (Nat.le_refl _) (by omega) bk0_wf hTr t2 hB0
      have hok := lns_ok z3 701 0 0 bk0 bk0_wf (Nat.le_refl _) (by omega)
      have hf5 := lns_f (tk F n) 701 0 0 bk0
      have hpos := tk_st F n (lns (tk F n) 701 0 0 bk0).2.1
      generalize lns (tk F n) 701 0 0 bk0 = q at q1 q3 q4 p1 p4 p5 hok hf5 hpos
      have hk4 : ∀ k, k ∉ [1, 4, 5, 6, 7, 8, 9, 10, 11, 15, 16, 17, 30] → I4 k = fu I 2 (i32 0) k := fun k hk => by
        simp only [List.mem_cons, List.not_mem_nil, or_false, not_or] at hk
        rw [p2 k (by simp only [List.mem_cons, List.not_mem_nil, or_false]; omega), t6 k (by simp only [List.mem_cons, List.not_mem_nil, or_false]; omega), k1 k (by omega) (by omega) (by omega)]
      have h14 : I4 1 = i32 0 := by rw [p2 1 (by decide)]; exact t3
      have e226 : xgo ty (cst N hA c1) (N + 0) 8 4 = some (N + 226) := k_sub C hL1 (show (0, 8, 226) ∈ lyL by decide) (by omega) (show ct 226 = some (0, 4) by decide)
      have eR0 : xR (cst N hA c1) (N + 0) 0 = some (N + 1) := by rw [kR (by omega), hL1.tp]
      simp (disch := omega) only [ksI, hpl, t1, xbs]
      rw [← hc1, e226, xbs, eR0, xbs, k_book3 C hL1, xbs, e3, q1, xb2s]
      by_cases w3 : q.1 = 0
      · obtain ⟨x1, x2, x3⟩ := q3 w3
        obtain ⟨y1, y2, y3⟩ := p4 w3
        obtain ⟨hb', hlt⟩ := hok w3
        have e3' : cR c2 0 3 = cR c 0 3 := by rw [q2.2.1, e3]
        obtain ⟨c3, s1, s2⟩ := k_tx (h0 := hA) C hL2 hb' (by rw [e3']; exact x1) h01 x2 x3 (gtp g).2 (i32 (q.2.2.1 : Nat))
        obtain ⟨I5, A5, u1, u2, u3, u4, u5⟩ := r_kpT (J := J) H hb' y1
        rw [if_pos w3] at p1
        obtain ⟨m, hm⟩ := p1 (i32 (q.2.2.1 : Nat), rst mm mi hB M I5 A5 J) (by rw [u1, xbs])
        rw [if_pos w3]
        have le : i32 0 ≤ i32 (q.2.2.1 : Nat) := by rw [i32_le (by omega) (by omega) (by omega) (by omega)]; omega
        simp only [eq_true le, if_true]
        refine ⟨gTx q.2.2.2 (gtp g).2, gTx_wf hb', i32 (q.2.2.1 : Nat), c3, I5, A5, s1, s2, jf_X12_text_31_l hm, ⟨u2, u3.1, ⟨seg_nil _ _, u3.2.1, ?_⟩, ⟨u3.2.2.1, seg_nil _ _⟩, ⟨u3.2.2.2, fun x hx => (by cases hx)⟩, ⟨?_, fun k hk => absurd hk (Nat.not_lt_zero k), ?_⟩, ?_, ?_⟩, ?_⟩
        · rw [u4 41 (by decide), hk4 41 (by decide)]; exact hr2.2.2.1.2.2
        · rw [u4 1 (by decide)]; exact h14
        · rw [u5 3 (by decide), p3.1 3 (by decide)]; exact htr.2.2
        · rw [u4 4 (by decide), y2]; exact t4
        · rw [u4 5 (by decide), y3]; exact t5
        · rw [u4 2 (by decide), hk4 2 (by decide), fu_same]
      · rw [if_neg w3] at p1
        obtain ⟨m, hm⟩ := p1 _ rfl
        have x2 := q4 w3
        have y2 := p5 w3
        rw [if_neg w3]
        have le : ¬ i32 0 ≤ i32 (-1) := by decide
        simp only [eq_false le, if_false]
        refine ⟨gFl g ((q.1 : Nat), ((tk F n q.2.1).2.1 : Nat)), gFl_wf hg (by simp only; omega) (by simp only; omega) (by simp only; omega) (by simp only; omega), _, c2, I4, A4, rfl, crep_rd hg hc fQ (Or.inr ⟨rfl, rfl⟩) h01 x2.1 x2.2, jf_X12_text_31_l hm, ?_, ?_⟩
        · refine rrep_rd hr2 (fun k hk => hk4 k (by
            simp only [List.mem_cons, List.not_mem_nil, or_false] at hk ⊢
            omega)) (fun k hk => p3.1 k (by
            simp only [List.mem_cons, List.not_mem_nil, or_false] at hk ⊢
            omega)) (fun hR => hR.low hg.1 (fun k hk => hk4 k (by
            simp only [List.mem_cons, List.not_mem_nil, or_false] at hk ⊢
            omega)) p3) h14 y2.1 y2.2
        · rw [hk4 2 (by decide), fu_same]
    · simp only [eq_false w2, if_false]
      exact ⟨g, hg, OP.ret hc hr _ _ I2 (fu_same _ _ _) rfl rfl⟩
end TEXT3

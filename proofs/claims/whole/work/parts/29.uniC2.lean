/-! THE CLASS: uniteAll, hasNoCircle -/
section UNIC2
variable {ty : xTy} {N : Nat} {h0 : xH} {ar : Nat → Nat} {hp : List Nat}
def nroots (par : Nat → Nat) (n : Nat) : Nat := cntF (fun i => par i == i) n
theorem cntF_pos {f : Nat → Bool} {x : Nat} (hx : f x = true) : ∀ k, x < k → 1 ≤ cntF f k
  | 0, h => by omega
  | k + 1, h => by
    simp only [cntF]
    by_cases hxk : x = k
    · subst hxk; rw [if_pos hx]; omega
    · have := cntF_pos hx k (by omega); omega
theorem nroots_pos {n : Nat} {par rt dep : Nat → Nat} {md : Nat} (h : RTI n par rt dep md) {i : Nat} (hi : i < n) : 1 ≤ nroots par n := by
  obtain ⟨a1, a2, a3, a4, a5⟩ := h i hi
  exact cntF_pos (x := rt i) (by simp [a4]) n a2
theorem u_all2 (C : CH ty N) (h : okH ar hp) {x0 y0 : Nat} (hx0 : x0 < hp.length) : ∀ (k t : Nat) (pa pb : List Nat) (c : CS) (par rt dep : Nat → Nat) (md : Nat) (sg : Nat → Option Nat), t + k = 73 → CUI ar hp x0 y0 par rt dep md sg pa pb → UC c ar hp par sg → PC c pa pb → md + nroots par hp.length ≤ hp.length → t + pa.length + 3 * nroots par hp.length ≤ 73 →
    ∃ n c', fr 243 257 c c' ∧ ((jf_X10_uniteAll_2 ty n (N + 243) (i32 t) (cst N h0 c) = some (i32 1, cst N h0 c') ∧ ∃ par rt dep md sg, CUI ar hp x0 y0 par rt dep md sg [] [] ∧ UC c' ar hp par sg ∧ md < hp.length) ∨
      (jf_X10_uniteAll_2 ty n (N + 243) (i32 t) (cst N h0 c) = some (i32 0, cst N h0 c') ∧ ∀ φ, wfs ar φ → sub φ (tm ar hp x0) ≠ sub φ (tm ar hp y0))) := by
  have h24 := h.2.2.2
  intro k
  induction k with
  | zero =>
    intro t pa pb c par rt dep md sg h1 hu hc hp' h2 h3
    have := nroots_pos hu.1 hx0
    omega
  | succ k ih =>
    intro t pa pb c par rt dep md sg h1 hu hc hp' h2 h3
    have hnr := nroots_pos hu.1 hx0
    rcases snoc2 hp'.2.2.2 with ⟨rfl, rfl⟩ | ⟨xa, xb, x, y, rfl, rfl, hl2⟩
    · refine ⟨1, c, fr.rf, Or.inl ⟨?_, par, rt, dep, md, sg, hu, hc, by omega⟩⟩
      rw [jf_X10_uniteAll_2_s]
      simp (disch := omega) only [i32_lit, i32_neg, i32_add, i32_sub, i32_mul, i32_lt, i32_le, i32_eq, kI (show 243 < 273 by omega), hp'.1, List.length_nil, if_neg, if_pos]
    · obtain ⟨c1, hc1⟩ : ∃ c1, c1 = csI c 243 12 (i32 (xa.length : Nat)) := ⟨_, rfl⟩
      have hf1 : fr 243 257 c c1 := by rw [hc1]; exact fr.I (by omega) (by omega)
      have hu1 : UC c1 ar hp par sg := by
        rw [hc1]
        exact hc.keep rfl rfl (sI_o (Or.inr (by decide))) (fun _ _ _ => rfl)
      obtain ⟨p1, p2, p3, p4⟩ := hp'
      have hp1 : PC c1 xa xb := by
        rw [hc1]
        exact ⟨sI_s, (seg_app.mp p2).1, (seg_app.mp p3).1, hl2⟩
      obtain ⟨u1, u2, u3, u4, u5, ⟨-, u6, u7⟩, u8⟩ := id hu
      have hx : x < hp.length := u6 x (by simp)
      have hy : y < hp.length := u7 y (by simp)
      have htx : cA c1 251 xa.length = i32 x := by
        rw [hc1]
        have := seg_get (i := xa.length) (c := x) p2 (by simp)
        rwa [Nat.zero_add] at this
      have hty : cA c1 252 xa.length = i32 y := by
        rw [hc1]
        have := seg_get (i := xb.length) (c := y) p3 (by simp)
        rwa [Nat.zero_add, ← hl2] at this
      have rx := u1 x hx
      have ry := u1 y hy
      simp only [List.length_append, List.length_singleton] at h3 p1
      have hturn : ∀ n, jf_X10_uniteAll_2 ty (n + 1) (N + 243) (i32 t) (cst N h0 c) = if rt x = rt y then jf_X10_uniteAll_2 ty n (N + 243) (i32 ((t + 1 : Nat) : Int)) (cst N h0 c1) else xb2 (jf_X10_unite ty (cst N h0 c1) (N + 243) (i32 (rt x)) (i32 (rt y))) fun a12 h11 => if a12 = i32 0 then some (i32 0, h11) else jf_X10_uniteAll_2 ty n (N + 243) (i32 ((t + 1 : Nat) : Int)) h11 := by
        intro n
        rw [jf_X10_uniteAll_2_s]
        simp (disch := omega) only [i32_lit, i32_neg, i32_add, i32_sub, i32_mul, i32_lt, i32_le, i32_eq, kI (show 243 < 273 by omega), p1, if_neg, ksI (show 243 < 273 by omega), xbs]
        rw [show (((xa.length + 1 : Nat) : Int) - 1) = ((xa.length : Nat) : Int) by omega, ← hc1]
        simp (disch := omega) only [kI (show 243 < 273 by omega), hp1.1, kRl hu1.1 (show (243, 7, 251) ∈ lyL by decide), kRl hu1.1 (show (243, 8, 252) ∈ lyL by decide), kga C (show ct 251 = some (1, 73) by decide), kga C (show ct 252 = some (1, 73) by decide), xbs, Int.toNat_natCast, htx, hty, u_classOf C h hu1 u1 (show md < hp.length by omega) hx, u_classOf C h hu1 u1 (show md < hp.length by omega) hy, i32_lit, i32_neg, i32_add, i32_sub, i32_mul, i32_lt, i32_le, i32_eq]
        rw [show (t : Int) + 1 = ((t + 1 : Nat) : Int) by omega]
        by_cases hr : rt x = rt y
        · rw [if_pos (by omega), if_pos hr]
        · rw [if_neg (by omega), if_neg hr]
      by_cases hr : rt x = rt y
      · obtain ⟨n, c', r1, r2⟩ := ih (t + 1) xa xb c1 par rt dep md sg (by omega) (hu.skip hl2 hr) hu1 hp1 h2 (by omega)
        refine ⟨n + 1, c', fr.tr hf1 r1, ?_⟩
        rw [hturn n, if_pos hr]
        exact r2
      · obtain ⟨c2, q1, q2⟩ := u_unite (h0 := h0) C h hu1 hp1 (by omega) rx.2.1 ry.2.1 hr (fun s hs => by
            obtain ⟨z1, z2, z3⟩ := (u3 (rt x) rx.2.1 rx.2.2.2.1).1 s hs
            exact ⟨z1, z2⟩) (fun s hs => by
            obtain ⟨z1, z2, z3⟩ := (u3 (rt y) ry.2.1 ry.2.2.2.1).1 s hs
            exact ⟨z1, z2⟩)
        rcases q2 with ⟨e1, sg', qa, qb, v1, v2, v3, v4, v5, v6⟩ | ⟨e1, s, s', d, d', v1, v2, v3, v4, v5, v6, v7⟩
        · have hj := CUI.join h hu hl2 hr v4 v5 v6
          have hroots : nroots (fu par (rt x) (rt y)) hp.length < nroots par hp.length := by
            refine cntF_lt (x := rt x) (fun i hi => ?_) ?_ ?_ _ rx.2.1
            · by_cases hix : i = rt x
              · subst hix; rw [fu_same] at hi; exact absurd (beq_iff_eq.mp hi).symm hr
              · rw [fu_ne _ _ hix] at hi; exact hi
            · rw [fu_same]; exact beq_eq_false_iff_ne.mpr (Ne.symm hr)
            · exact beq_iff_eq.mpr rx.2.2.2.1
          obtain ⟨n, c', r1, r2⟩ := ih (t + 1) (xa ++ qa) (xb ++ qb) c2 _ _ _ _ sg' (by omega) hj v1 v2 (by omega) (by simp only [List.length_append]; omega)
          refine ⟨n + 1, c', fr.tr (fr.tr hf1 q1) r1, ?_⟩
          rw [hturn n, if_neg hr, e1]
          simp only [xb2s]
          rw [if_neg (by decide)]
          exact r2
        · refine ⟨1, c2, fr.tr hf1 q1, Or.inr ⟨?_, fun φ hφ h0' => ?_⟩⟩
          · rw [hturn 0, if_neg hr, e1]
            simp only [xb2s, if_true]
          · obtain ⟨w1, w2⟩ := u2 φ hφ h0'
            have w3 := ((prs_snoc hl2).mp w2).2
            obtain ⟨z1, z2, z3⟩ := (u3 (rt x) rx.2.1 rx.2.2.2.1).1 s v1
            obtain ⟨z4, z5, z6⟩ := (u3 (rt y) ry.2.1 ry.2.2.2.1).1 s' v2
            have : sub φ (tm ar hp s) = sub φ (tm ar hp s') := by rw [u1.eqs w1 z1, z3, ← u1.eqs w1 hx, w3, u1.eqs w1 hy, ← z6, ← u1.eqs w1 z4]
            rw [sub_tm h v3 v5, sub_tm h v4 v6] at this
            exact v7 (List.cons.inj this).1
/-! settling -/
def SC (c : CS) (hp : List Nat) (st : Nat → Bool) : Prop := ∀ i, i < hp.length → cA c 250 i = bI (st i)
def setb (ar : Nat → Nat) (hp : List Nat) (st : Nat → Bool) (o : Option Nat) : Bool := match o with
  | none => true
  | some s => (ags ar hp (s + 1) (ar (hp.getD s 0))).all st
theorem u_isset24 (C : CH ty N) (h : okH ar hp) {c : CS} {par : Nat → Nat} {sg : Nat → Option Nat} (hc : UC c ar hp par sg) {st : Nat → Bool} (hs : SC c hp st) {s d : Nat} (hd : hp[s]? = some d) : ∀ (j i q n : Nat), i + j = ar d → (∃ o, tms ar (j + o) (hp.drop q)) → q ≤ hp.length → j < n → jf_X10_isSettling_24 ty (cst N h0 c) n (N + 243) (i32 s) (i32 q) (i32 i) = some (bI ((ags ar hp q j).all st)) := by
  have h24 := h.2.2.2
  have hsl : s < hp.length := (List.getElem?_eq_some_iff.mp hd).1
  have hd3 := (h.2.2.1 d (List.mem_of_getElem? hd)).2
  obtain ⟨u1, u2, u3⟩ := id hc
  intro j
  induction j with
  | zero =>
    intro i q n h1 h2 h3 h4
    obtain ⟨n, rfl⟩ : ∃ n', n = n' + 1 := ⟨n - 1, by omega⟩
    rw [jf_X10_isSettling_24_s]
    simp (disch := omega) only [i32_lit, i32_neg, i32_add, i32_sub, i32_mul, i32_lt, i32_le, i32_eq, kRl u1 (show (243, 1, 245) ∈ lyL by decide), xbs, kga C (show ct 245 = some (1, 24) by decide), Int.toNat_natCast, (u3 s d hd).2.1, if_pos]
    rfl
  | succ j ih =>
    intro i q n h1 h2 h3 h4
    obtain ⟨n, rfl⟩ : ∃ n', n = n' + 1 := ⟨n - 1, by omega⟩
    obtain ⟨o, ho⟩ := h2
    have hoa : tms ar (1 + (j + o)) (hp.drop q) := by rwa [show 1 + (j + o) = j + 1 + o by omega]
    have hne := tms_ne (show tms ar (j + o + 1) (hp.drop q) by rwa [show j + o + 1 = j + 1 + o by omega])
    have hq : q < hp.length := by
      rcases Nat.lt_or_ge q hp.length with z | z
      · exact z
      · exact absurd (List.drop_eq_nil_of_le z) hne
    obtain ⟨f0, f1, f2, f3, f4, f5⟩ := fst1_split hoa
    have e2 : snd1 ar (hp.drop q) = hp.drop (q + (tm ar hp q).length) := by
      unfold tm snd1
      rw [f3, List.drop_drop]
    obtain ⟨dq, hdq⟩ := get_some hq
    rw [jf_X10_isSettling_24_s]
    simp (disch := omega) only [i32_lit, i32_neg, i32_add, i32_sub, i32_mul, i32_lt, i32_le, i32_eq, kRl u1 (show (243, 1, 245) ∈ lyL by decide), xbs, kga C (show ct 245 = some (1, 24) by decide), Int.toNat_natCast, (u3 s d hd).2.1, if_neg, u_isNode u2 h24]
    rw [decide_eq_true (show 0 ≤ (q : Int) ∧ (q : Int) < hp.length by omega)]
    simp (disch := omega) only [bI_eq0, Bool.true_eq_false, if_false, kRl u1 (show (243, 6, 250) ∈ lyL by decide), kRl u1 (show (243, 2, 246) ∈ lyL by decide), xbs, kga C (show ct 250 = some (2, 24) by decide), kga C (show ct 246 = some (1, 24) by decide), Int.toNat_natCast, hs q hq, (u3 q dq hdq).2.2.1]
    rw [show (i : Int) + 1 = ((i + 1 : Nat) : Int) by omega, ih (i + 1) (q + (tm ar hp q).length) n (by omega) ⟨o, by rw [← e2]; exact f2⟩ (tm_wf h hq).2.2 (by omega)]
    simp only [ags, List.all_cons]
    cases st q <;> simp <;> rfl
theorem u_isset (C : CH ty N) (h : okH ar hp) {c : CS} {par : Nat → Nat} {sg : Nat → Option Nat} (hc : UC c ar hp par sg) {st : Nat → Bool} (hs : SC c hp st) {r : Nat} (hr : r < hp.length) (hsr : ∀ s, sg r = some s → s < hp.length) : jf_X10_isSettling ty (cst N h0 c) (N + 243) (i32 r) = some (bI (setb ar hp st (sg r))) := by
  have h24 := h.2.2.2
  obtain ⟨u1, u2, u3⟩ := id hc
  obtain ⟨dr, hdr⟩ := get_some hr
  unfold jf_X10_isSettling
  simp (disch := omega) only [kRl u1 (show (243, 4, 248) ∈ lyL by decide), xbs, kga C (show ct 248 = some (1, 24) by decide), Int.toNat_natCast, (u3 r dr hdr).2.2.2.2]
  cases hsg : sg r with
  | none =>
    rw [u_isNode u2 h24 (by simp [pI]) (by simp [pI]), decide_eq_false (by simp [pI])]
    rfl
  | some s =>
    have hsl := hsr s hsg
    obtain ⟨d, hd⟩ := get_some hsl
    simp only [pI]
    rw [u_isNode u2 h24 (by omega) (by omega), decide_eq_true (by omega)]
    simp only [xbs, i32_lit, i32_neg, i32_add, i32_sub, i32_mul, i32_lt, i32_le, i32_eq, bI_eq0, Bool.true_eq_false, if_false]
    have hpush : ∃ o, tms ar (ar d + o) (hp.drop (s + 1)) := by
      obtain ⟨o, ho⟩ := h.at hsl
      rw [drop_cons hd, Nat.add_comm 1 o] at ho
      have : tms ar (o + ar d) (hp.drop (s + 1)) := ho
      exact ⟨o, by rwa [Nat.add_comm] at this⟩
    have := jf_X10_isSettling_24_l (u_isset24 (h0 := h0) C h hc hs hd (ar d) 0 (s + 1) (ar d + 1) (by omega) hpush (by omega) (by omega))
    rw [show (s : Int) + 1 = ((s + 1 : Nat) : Int) by omega, show i32 0 = i32 ((0 : Nat) : Int) from rfl, this]
    simp only [setb, getD_some hd]
def TI (ar : Nat → Nat) (hp : List Nat) (rt : Nat → Nat) (sg : Nat → Option Nat) (st : Nat → Bool) (tme : Nat → Nat) (clk : Nat) : Prop := ∀ i, i < hp.length → st i = true → tme i < clk ∧ ∀ s, sg (rt i) = some s → ∀ d, hp[s]? = some d → ∀ a ∈ ags ar hp (s + 1) (ar d), st a = true ∧ tme a < tme i
theorem u_settle (C : CH ty N) (h : okH ar hp) {x0 y0 : Nat} {par rt dep : Nat → Nat} {md : Nat} {sg : Nat → Option Nat} (hu : CUI ar hp x0 y0 par rt dep md sg [] []) (hmd : md < hp.length) : ∀ (k new : Nat) (st : Nat → Bool) (tme : Nat → Nat) (clk : Nat) (c : CS), k ≤ hp.length → new + k ≤ 1000 → UC c ar hp par sg → SC c hp st → TI ar hp rt sg st tme clk →
    ∃ n st' tme' clk' new' c', jf_X10_settleMore_9 ty n (N + 243) (i32 new) (i32 ((k : Int) - 1)) (cst N h0 c) = some (i32 (new' : Nat), cst N h0 c') ∧ fr 243 257 c c' ∧ UC c' ar hp par sg ∧ SC c' hp st' ∧ TI ar hp rt sg st' tme' clk' ∧ new ≤ new' ∧ new' ≤ new + k ∧ cntF st' hp.length = cntF st hp.length + (new' - new) ∧ (new' = new → st' = st ∧ ∀ i, i < k → st i = false → setb ar hp st (sg (rt i)) = false) := by
  have h24 := h.2.2.2
  obtain ⟨w1, w2, w3, w4, w5, w6, w8⟩ := hu
  intro k
  induction k with
  | zero =>
    intro new st tme clk c h1 h2 hc hs ht
    refine ⟨1, st, tme, clk, new, c, ?_, fr.rf, hc, hs, ht, Nat.le_refl _, by omega, by omega, fun _ => ⟨rfl, fun i hi => by omega⟩⟩
    rw [jf_X10_settleMore_9_s]
    simp (disch := omega) only [i32_lit, i32_neg, i32_add, i32_sub, i32_mul, i32_lt, i32_le, i32_eq, if_pos]
  | succ k ih =>
    intro new st tme clk c h1 h2 hc hs ht
    obtain ⟨u1, u2, u3⟩ := id hc
    have hk : k < hp.length := by omega
    have rk := w1 k hk
    have hsr : ∀ s, sg (rt k) = some s → s < hp.length := fun s hs => ((w3 (rt k) rk.2.1 rk.2.2.2.1).1 s hs).1
    have hset := u_isset (h0 := h0) C h hc hs rk.2.1 hsr
    have hcl := u_classOf (h0 := h0) C h hc w1 hmd hk
    have hhead : ∀ n, jf_X10_settleMore_9 ty (n + 1) (N + 243) (i32 new) (i32 (((k + 1 : Nat) : Int) - 1)) (cst N h0 c) = if st k = false ∧ setb ar hp st (sg (rt k)) = true then jf_X10_settleMore_9 ty n (N + 243) (i32 ((new + 1 : Nat) : Int)) (i32 ((k : Int) - 1)) (cst N h0 (csA c 250 k (i32 1))) else jf_X10_settleMore_9 ty n (N + 243) (i32 new) (i32 ((k : Int) - 1)) (cst N h0 c) := by
      intro n
      rw [jf_X10_settleMore_9_s, show (((k + 1 : Nat) : Int) - 1) = (k : Int) by omega]
      simp (disch := omega) only [i32_lit, i32_neg, i32_add, i32_sub, i32_mul, i32_lt, i32_le, i32_eq, if_neg, kRl u1 (show (243, 6, 250) ∈ lyL by decide), xbs, kga C (show ct 250 = some (2, 24) by decide), kwa C (show ct 250 = some (2, 24) by decide), Int.toNat_natCast, hs k hk, bI_eq0, hcl, hset]
      rw [show (k : Int) + -1 = (k : Int) - 1 by omega, show (new : Int) + 1 = ((new + 1 : Nat) : Int) by omega]
      cases st k <;> cases setb ar hp st (sg (rt k)) <;> simp
    by_cases hb : st k = false ∧ setb ar hp st (sg (rt k)) = true
    · have hc1 : UC (csA c 250 k (i32 1)) ar hp par sg := hc.keep rfl rfl rfl (fun z z1 z2 => sA_o (by omega))
      have hs1 : SC (csA c 250 k (i32 1)) hp (fu st k true) := fun i hi => by
        by_cases hik : i = k
        · subst hik; rw [sA_s, fu_same]; rfl
        · rw [sA_n hik, fu_ne _ _ hik]; exact hs i hi
      have ht1 : TI ar hp rt sg (fu st k true) (fu tme k clk) (clk + 1) := by
        intro i hi hst
        by_cases hik : i = k
        · subst hik
          rw [fu_same]
          refine ⟨by omega, fun s hs d hd a ha => ?_⟩
          have hb2 := hb.2
          rw [hs] at hb2
          simp only [setb, getD_some hd] at hb2
          have hsa : st a = true := List.all_eq_true.mp hb2 a ha
          have hai : a ≠ i := fun z => by rw [z, hb.1] at hsa; cases hsa
          have hal := ((tm_head h hd).2 a ha).1
          rw [fu_ne _ _ hai, fu_ne _ _ hai]
          exact ⟨hsa, (ht a hal hsa).1⟩
        · rw [fu_ne _ _ hik] at hst
          rw [fu_ne _ _ hik]
          obtain ⟨t1, t2⟩ := ht i hi hst
          refine ⟨by omega, fun s hs d hd a ha => ?_⟩
          obtain ⟨t3, t4⟩ := t2 s hs d hd a ha
          have hai : a ≠ k := fun z => by rw [z, hb.1] at t3; cases t3
          rw [fu_ne _ _ hai, fu_ne _ _ hai]
          exact ⟨t3, t4⟩
      obtain ⟨n, st', tme', clk', new', c', r1, r2, r3, r4, r5, r6, r6', r7, r8⟩ := ih (new + 1) (fu st k true) (fu tme k clk) (clk + 1) _ (by omega) (by omega) hc1 hs1 ht1
      have hcnt : cntF (fu st k true) hp.length = cntF st hp.length + 1 := by
        have : ∀ n, cntF (fu st k true) n = cntF st n + (if k < n then 1 else 0) := by
          intro n
          induction n with
          | zero => rfl
          | succ n ihn =>
            simp only [cntF]
            rw [ihn]
            by_cases hnk : n = k
            · subst hnk
              rw [fu_same, hb.1]
              simp
            · rw [fu_ne _ _ hnk]
              by_cases hkn : k < n
              · simp only [if_pos hkn, if_pos (show k < n + 1 by omega)]; omega
              · simp only [if_neg hkn, if_neg (show ¬ k < n + 1 by omega)]; omega
        rw [this, if_pos hk]
      refine ⟨n + 1, st', tme', clk', new', c', ?_, fr.tr (fr.A (by omega) (by omega)) r2, r3, r4, r5, by omega, by omega, by omega, fun hz => by omega⟩
      rw [hhead n, if_pos hb]
      exact r1
    · obtain ⟨n, st', tme', clk', new', c', r1, r2, r3, r4, r5, r6, r6', r7, r8⟩ := ih new st tme clk c (by omega) (by omega) hc hs ht
      refine ⟨n + 1, st', tme', clk', new', c', ?_, r2, r3, r4, r5, r6, by omega, r7, fun hz => ?_⟩
      · rw [hhead n, if_neg hb]
        exact r1
      · obtain ⟨q1, q2⟩ := r8 hz
        refine ⟨q1, fun i hi hst => ?_⟩
        by_cases hik : i = k
        · subst hik
          cases hsb : setb ar hp st (sg (rt i)) with
          | false => rfl
          | true => exact absurd ⟨hst, hsb⟩ hb
        · exact q2 i (by omega) hst
end UNIC2

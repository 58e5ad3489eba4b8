/-! THE LAW: the case of rule -/
theorem ws_L_rule : Cond.static yL_rule ∈ xT := xin 1199 (by decide +kernel) rfl
theorem wl_L_43 : Cond.methodLink RL 43 yL_rule ∈ xT := xin 1198 (by decide +kernel) rfl
theorem wi_L : Cond.initialized RL ∈ xT := xin 113 (by decide +kernel) rfl
theorem lg_rule : GoodIn xT (va_wsS RL 43 yL_rule (Cond.codeWith yL_rule cL_rule 5 (some .int) hhL :: xT)) := by
  intro w hw
  have h1 : w ∈ xT := by
    unfold va_wsS at hw
    rcases List.mem_append.mp hw with h | h
    · rcases List.mem_cons.mp h with rfl | h
      · exact wl_L_43
      · rcases List.mem_cons.mp h with rfl | h
        · exact ws_L_rule
        · rcases List.mem_cons.mp h with rfl | h
          · exact wi_L
          · cases h
    · rcases List.mem_cons.mp h with rfl | h
      · exact ww_L_rule
      · exact h
  exact ⟨h1, good_of_word (List.mem_filter.mp h1).2⟩
/-- what the throws stand on -/
def lXw (s : State) (sa1 sa2 : Nat) : Prop := vx_Zq Bundle.tN "UNASSIGNED_STACK" Bundle.steD (fun q : Nat => s.heap.size ≤ q) s s.heap ∧ vx_Zq Bundle.tN "SUPPRESSED_SENTINEL" Bundle.listD (fun q : Nat => s.heap.size ≤ q) s s.heap ∧ vk_R RX11 150 "no such rule" sa1 s ∧ vk_R RX11 175 "no such what" sa2 s ∧ rN s ∧ va_Nc "java/util/NoSuchElementException" "java/lang/IndexOutOfBoundsException" s
section LRULE2
variable {p : Program} {l : Launch} {e : Env} {s : State} {m : MethodId} {args : Array Value} {below : List Frame} {meth : Method} {c : Code} {H H0 : Heap} {locs : List Loc} {cells slots : Nat} {Q : State → Prop}
variable {pc : Nat} {rt : Option FieldType} {ls : Array Slot} {rest : List Value} {D : xD} {b L N i : Nat} {xs : Nat → Int32}
variable {R : Room} {sa1 sa2 : Nat} {h : xH} {v1 v2 k r : Int32}
theorem l_callR (C0 : xC D RL cL_law 7 rt p s m args meth c) (hlt : l.stackTraces = false) (hN : s.heap.size = N) (hXw : lXw s sa1 sa2) (hF : jf_X11_rule (tyL N) h (N + 0) v1 v2 = some (k, r)) (hR : xRep D (tyL N) h H) (hE : xE (tyL N) s.heap H locs)
    (hrm : jr_L_rule.frames + 1 ≤ R.frames ∧ 8 + (5 + 11) + jr_L_rule.locals ≤ R.locals) (hsz : ls.size = 7) (hf : cells + 1 ≤ R.cells ∧ slots + 6 ≤ R.slots) (hdg : decode cL_law pc = .ok (.invokestatic 43, 3))
    (kk : ∀ (H1 : Heap) (locs1 : List Loc), xRep D (tyL N) (if k = 0 then xsJ h (N + 301) 0 (Int32.toInt64 r) else h) H1 → xE (tyL N) s.heap H1 locs1 → W p l e R s m args below meth c H1 locs1 (cells + 1) (slots + 6) Q (F0 m (pc + 3) ls [.int k])) : W p l e R s m args below meth c H locs cells slots Q (F0 m pc ls [.ref (N + 301), .int v2, .int v1, .ref (N + 0)]) := by
  obtain ⟨hx, hb, hml, -, -, hown, hts, hK⟩ := C0
  obtain ⟨hU, hNn, hs1, hs2, hNw, hNc⟩ := hXw
  have hA : ∀ q, tyL N q ≠ none → (fun q : Nat => s.heap.size ≤ q) q := fun q hq => by
    rcases Nat.lt_or_ge q N with h | h
    · exact absurd (tyL_lt h) hq
    · show s.heap.size ≤ q
      omega
  have hkp : ∀ a : Nat, a < s.heap.size → ¬ (fun q : Nat => s.heap.size ≤ q) a → H[a]? = s.heap[a]? := fun a ha _ => hE.2.1 a ha (tyL_lt (by omega))
  have hU1 := vx_Zq.kept hU hkp
  have hN1 := vx_Zq.kept hNn hkp
  have hr : va_Run p l e R s m args below meth c H locs cells slots 1 6 (F0 m pc ls [.ref (N + 301), .int v2, .int v1, .ref (N + 0)]) [] (lQ D (tyL N) (if k = 0 then xsJ h (N + 301) 0 (Int32.toInt64 r) else h) k ([.ref (N + 0), .int v1, .int v2, .ref (N + 301)] : List Value).toArray) (xdom (tyL N)) := by
    refine vx_runSW (Ts := xT) (own := RL) (As := [.ref (N + 0), .int v1, .int v2, .ref (N + 301)]) (rest := []) ⟨hx, hb, hml, hown, hts⟩ (jc_L_rule (A := fun q : Nat => s.heap.size ≤ q) (sa1 := sa1) (sa2 := sa2) hlt hA ty11 tyJ hF) (vx_cwSW 4 hts lg_rule rfl rfl rfl (by decide +kernel) hrm) ⟨lPc.blind, fun U hU' hW => ⟨⟨⟨rfl, by rw [hU']; exact hR, xK.warm hW hK⟩, by rw [hU']; exact vx_Zq.moved hW.alike hU1, by rw [hU']; exact vx_Zq.moved hW.alike hN1, vk_R.warm hW hs1, vk_R.warm hW hs2, rN.warm hW hNw⟩, va_Nc.moved hW.alike hNc⟩⟩ rfl rfl hsz rfl (by simp) hdg hf
  intro T hT X
  obtain ⟨v, st₀, t, T', L9, z0, X', hL, e1, e2, ⟨q1, q2, q3, q4⟩, st⟩ := hr T hT X
  cases q1
  obtain ⟨t2, a1, b1⟩ := kk T'.heap (locs ++ L9) (by rw [e1]; exact q2) (hE.E (by rw [e1, ← z0]; exact q3) (fun q hq h0 => by rw [e1, q4 q (by rw [z0]; exact hq) h0, z0]) (fun q hq => by
      rcases List.mem_append.mp hq with h | h
      · exact hE.2.2 q h
      · exact hL q h)) T' rfl X'
  exact ⟨t2, st t2 a1, b1⟩
theorem wld_gJ {h0 : xH} {cs : CS} {I : Nat → Int32} {A : Nat → Nat → Int32} {J : Nat → Int64} {v : Int64} : xJ (wld N (xsJ h0 (N + 301) 0 v) cs I A J) (N + 301) 0 = v := by
  show (if N + 301 = N + 273 then J 0 else xup h0.2.2.2.2 (N + 301) 0 v (N + 301) 0) = v
  rw [if_neg (by omega), xup_same]
set_option maxHeartbeats 1000000 in
theorem lc_rule (C0 : xC D RL cL_law 7 rt p s m args meth c) (hlt : l.stackTraces = false) (hXw : lXw s sa1 sa2) (hB : lB b L xs s N) (hW : lWd D N s H locs) (hl : lv_has ls 7 (lv5 b N (i32 (i : Nat)))) (hi : i + 6 ≤ L) (hL : L ≤ 3072) (hf : cells + 1 ≤ room_1.cells ∧ slots + 6 ≤ room_1.slots)
    (kk : ∀ (ls1 : Array Slot) (H1 : Heap) (locs1 : List Loc), lv_has ls1 7 (lv5 b N (i32 (i : Nat))) → lWd D N s H1 locs1 → W p l e room_1 s m args below meth c H1 locs1 (cells + 1) (slots + 6) Q (F0 m 1527 ls1 [])) : W p l e room_1 s m args below meth c H locs cells slots Q (F0 m 401 ls []) := by
  obtain ⟨h0, cs, I, A, J, g, hH, hg, hc, hr, hR, hE⟩ := hW
  have hx := C0.1
  have hb := C0.2.1
  obtain ⟨z1, hz1, a1, b1⟩ := i32_of (xs (i + 1))
  obtain ⟨z2, hz2, a2, b2⟩ := i32_of (xs (i + 2))
  obtain ⟨k, v, vM, IM, f1, -, -, -, hk, -⟩ := op_rule (hA := rst (mmL N) (miL N) h0 (N + 273) I A J) (J := J) (CH_L (N := N)) (MH_Lc hH cs) hg hc hr a1 b1 a2 b2
  obtain ⟨h1, hh1⟩ : ∃ h1, h1 = if i32 k = 0 then xsJ h0 (N + 301) 0 (Int32.toInt64 v) else h0 := ⟨_, rfl⟩
  have hH1 : MHL N h1 := by
    rw [hh1]
    split
    · exact hH.J _
    · exact hH
  obtain ⟨k3, v3, v4, I3, f3, f4, r3, i3, hk3, hv4⟩ := op_rule (hA := rst (mmL N) (miL N) h0 (N + 273) I A J) (J := J) (CH_L (N := N)) (MH_Lc hH1 cs) hg hc hr a1 b1 a2 b2
  obtain ⟨e1, e2⟩ := Prod.mk.inj (Option.some.inj (f1.symm.trans f3))
  have ek : k3 = k := by
    rw [i32_eq (by omega) (by omega) (by omega) (by omega)] at e1
    omega
  subst ek
  subst e2
  have g1 : jf_X11_rule (tyL N) (wld N h0 cs I A J) (N + 0) (xs (i + 1)) (xs (i + 2)) = some (i32 k3, v) := by rw [hz1, hz2]; exact f1
  have g2 : jf_X12_rule (tyL N) (wld N h1 cs I A J) (N + 273) (xs (i + 1)) (xs (i + 2)) = some (v4, wld N h1 cs I3 A J) := by rw [hz1, hz2, wld_r, wld_r]; exact f4
  have g3 : jf_X12_thrown (tyL N) (wld N h1 cs I3 A J) (N + 273) = some (i32 k3) := by
    show some (xI (wld N h1 cs I3 A J) (N + 273) 2) = _
    rw [wld_r, rI, i3]
  have eW : (if i32 k3 = 0 then xsJ (wld N h0 cs I A J) (N + 301) 0 (Int32.toInt64 v) else wld N h0 cs I A J) = wld N h1 cs I A J := by
    rw [hh1]
    split
    · exact wld_J _
    · rfl
  refine lv_aload_n hx hb dL_law_401 rfl (lv_at hl 1 rfl) ?_
  refine l_arg (k := 1) C0 hB hE hl hi hL (by decide) dL_law_402 dL_law_403 dL_law_405 dL_law_406 dL_law_407 ?_
  refine l_arg (k := 2) C0 hB hE hl hi hL (by decide) dL_law_408 dL_law_409 dL_law_411 dL_law_412 dL_law_413 ?_
  refine lv_aload_n hx hb dL_law_414 rfl (lv_at hl 3 rfl) ?_
  refine l_callR C0 hlt hB.2.2 hXw g1 hR hE ⟨Nat.le_of_ble_eq_true rfl, Nat.le_of_ble_eq_true rfl⟩ hl.1 hf dL_law_415 (fun H1 locs1 hR1 hE1 => ?_)
  rw [eW] at hR1
  refine lv_istore (lv' := [(5, .int (i32 k3)), (0, .ref b), (1, .ref (N + 0)), (2, .ref (N + 273)), (3, .ref (N + 301)), (4, .int (i32 (i : Nat)))]) hx hb dL_law_418 hl (by decide) rfl (fun ls hl => ?_)
  have hl5 : lv_has ls 7 (lv5 b N (i32 (i : Nat))) := lv_sub hl [1, 2, 3, 4, 5] rfl
  refine lv_aload_n hx hb dL_law_420 rfl (lv_at hl 3 rfl) ?_
  refine l_arg (k := 1) C0 hB hE1 hl5 hi hL (by decide) dL_law_421 dL_law_422 dL_law_424 dL_law_425 dL_law_426 ?_
  refine l_arg (k := 2) C0 hB hE1 hl5 hi hL (by decide) dL_law_427 dL_law_428 dL_law_430 dL_law_431 dL_law_432 ?_
  refine cl_L_48 C0 hR1 hE1.s g2 ty12 ⟨Nat.le_of_ble_eq_true rfl, Nat.le_of_ble_eq_true rfl⟩ hl.1 (Nat.le_of_ble_eq_true rfl) hf dL_law_433 (fun H2 locs2 hR2 hS2 => ?_)
  have hE2 := hE1.S hS2
  refine lv_istore (lv' := [(6, .int v4), (5, .int (i32 k3)), (0, .ref b), (1, .ref (N + 0)), (2, .ref (N + 273)), (3, .ref (N + 301)), (4, .int (i32 (i : Nat)))]) hx hb dL_law_436 hl (by decide) rfl (fun ls hl => ?_)
  have hl5 : lv_has ls 7 (lv5 b N (i32 (i : Nat))) := lv_sub hl [2, 3, 4, 5, 6] rfl
  refine lv_aload_n hx hb dL_law_438 rfl (lv_at hl 4 rfl) ?_
  refine cl_L_49 C0 hR2 hE2.s g3 ty12 ⟨Nat.le_of_ble_eq_true rfl, Nat.le_of_ble_eq_true rfl⟩ hl.1 (Nat.le_of_ble_eq_true rfl) hf dL_law_439 (fun H3 locs3 hR3 hS3 => ?_)
  have hE3 := hE2.S hS3
  have fin := kk ls H3 locs3 hl5 ⟨h1, cs, I3, A, J, g, hH1, hg, hc, r3, hR3, hE3⟩
  refine lv_iload hx hb dL_law_442 (lv_at hl 1 rfl) ?_
  refine lv_icmp_eq (tgt := 449) hx hb dL_law_444 (by decide) (fun _ => ?_) (fun z => absurd rfl z)
  refine lv_iload hx hb dL_law_449 (lv_at hl 1 rfl) ?_
  have go : W p l e room_1 s m args below meth c H3 locs3 (cells + 1) (slots + 6) Q (F0 m 466 ls []) := lv_goto (tgt := 1527) hx hb dL_law_466 (by decide) fin
  refine lv_if_ne (tgt := 466) hx hb dL_law_451 (by decide) (fun _ => go) (fun hz => ?_)
  refine lv_aload_n hx hb dL_law_454 rfl (lv_at hl 5 rfl) ?_
  refine lv_iconst (v := 0) hx hb dL_law_455 (by decide) ?_
  refine x_lald (j := 0) C0 hR3 tyJ (by decide) (by decide) (by decide) dL_law_456 ?_
  refine lv_iload hx hb dL_law_457 (lv_at hl 0 rfl) ?_
  refine lv_i2l hx hb dL_law_459 rfl ?_
  refine W.lcmp hx hb dL_law_460 ?_
  have hk0 : k3 = 0 := by
    rw [show (0 : Int32) = i32 0 from rfl, i32_eq (by omega) (by omega) (by omega) (by omega)] at hz
    exact hz
  have eJ : xJ (wld N h1 cs I3 A J) (N + 301) 0 = Int32.toInt64 v4 := by
    rw [hh1, if_pos hz, hv4 hk0]
    exact wld_gJ
  refine lv_if_eq (tgt := 466) hx hb dL_law_461 (by decide) (fun _ => go) (fun z => absurd ((lg_cmp_eq _ _).mpr eJ) z)
end LRULE2

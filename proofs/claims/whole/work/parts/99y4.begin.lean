/-! THE LAW: what it knows at its entry; its two objects and its row -/
theorem wc_L_8 : Cond.classLink RL 8 RX11 ∈ xT := xin 134 (by decide +kernel) rfl
theorem wc_L_18 : Cond.classLink RL 18 RX12 ∈ xT := xin 1295 (by decide +kernel) rfl
theorem wl_L_17 : Cond.methodLink RL 17 yX11_init ∈ xT := xin 136 (by decide +kernel) rfl
theorem wl_L_20 : Cond.methodLink RL 20 yX12_init ∈ xT := xin 1297 (by decide +kernel) rfl
theorem wn_X11 : Cond.instantiable RX11 16 ∈ xT := xin 135 (by decide +kernel) rfl
theorem wi_X11 : Cond.initialized RX11 ∈ xT := xin 114 (by decide +kernel) rfl
theorem df_X11 : ∀ k, k < 16 → ∀ (h : xH) (q : Nat), xI h q k = 0 → xR h q k = none → xJ h q k = 0 → defaultValue (xty 11 k) = xval (xty 11 k) h q k := df_of (by decide)
theorem wn_X12 : Cond.instantiable RX12 60 ∈ xT := xin 1296 (by decide +kernel) rfl
theorem wi_X12 : Cond.initialized RX12 ∈ xT := xin 126 (by decide +kernel) rfl
theorem df_X12 : ∀ k, k < 60 → ∀ (h : xH) (q : Nat), xI h q k = 0 → xR h q k = none → xJ h q k = 0 → defaultValue (xty 12 k) = xval (xty 12 k) h q k := df_of (by decide)
theorem l_arr {s : State} {args : Array Value} {ty : FieldType} (h : (Cond.arrayClass ty).before args s = true) : ∃ cA : ClassId, ArrOfT s cA ty ∧ s.vm.findClass ("[" ++ ty.toString) = some cA := by
  obtain ⟨cA, kA, comp, h1, h2, h3⟩ := Cond.arrayClass_spec h
  exact ⟨cA, fun n z => ⟨fun k h => (by cases h), kA, h2, comp, h3⟩, h1⟩
theorem l_arrO {s : State} {C : String} (h : va_AO C s) : ∃ cA : ClassId, ArrOfT s cA (.object C) ∧ va_RA s cA (.object C) := by
  obtain ⟨comp, cA, kA, h1, -, h3, h4, h5⟩ := Cond.arrayOver_spec h
  exact ⟨cA, fun n z => ⟨fun k h => (by cases h), kA, h3, comp, h4⟩, kA, comp, h3, h4, h1, h5⟩
theorem l_cls {s : State} {args : Array Value} (hts : ∀ w ∈ xT, w.before args s = true) : ∀ k : Nat, ∃ (cC : ClassId) (iS : Nat → Nat), ∀ q : vw_C, xcl[k]? = some q → u_Kn s q.1 q.2.1 q.2.2 cC iS := by
  have go : ∀ {k : Nat} {C : String} {T : u_T} {n : Nat}, xcl[k]? = some (C, T, n) → (∀ w ∈ u_ws C T n, w ∈ xT) → Cond.instantiable C n ∈ xT → ∃ (cC : ClassId) (iS : Nat → Nat), ∀ q : vw_C, xcl[k]? = some q → u_Kn s q.1 q.2.1 q.2.2 cC iS := fun {k C T n} h1 h2 h3 => by
    obtain ⟨cC, iS, h⟩ := u_known (C := C) (T := T) (N := n) (n := n) hts h2 (hts _ h3)
    refine ⟨cC, iS, fun q hq => ?_⟩
    rw [h1] at hq
    cases hq
    exact h
  intro k
  match k with
  | 0 => exact go rfl iX0 wn_X0
  | 1 => exact go rfl iX1 wn_X1
  | 2 => exact go rfl iX2 wn_X2
  | 3 => exact go rfl iX3 wn_X3
  | 4 => exact go rfl iX4 wn_X4
  | 5 => exact go rfl iX5 wn_X5
  | 6 => exact go rfl iX6 wn_X6
  | 7 => exact go rfl iX7 wn_X7
  | 8 => exact go rfl iX8 wn_X8
  | 9 => exact go rfl iX9 wn_X9
  | 10 => exact go rfl iX10 wn_X10
  | 11 => exact go rfl iX11 wn_X11
  | 12 => exact go rfl iX12 wn_X12
  | k + 13 => exact ⟨0, fun _ => 0, fun q hq => by rw [List.getElem?_eq_none (show xcl.length ≤ k + 13 from (show 13 ≤ k + 13 by omega))] at hq; cases hq⟩
theorem l_nest {s : State} {args : Array Value} (hts : ∀ w ∈ lw_tbl, w.before args s = true) : ∀ w ∈ xNest, va_Nw w s := fun w hw => by
  obtain ⟨h1, h2⟩ := List.mem_filter.mp hw
  have h3 := hts w h1
  cases w <;> first | (exact va_Nw.of rfl h3) | (cases h2)
theorem l_known {s : State} {args : Array Value} (hts : ∀ w ∈ lw_tbl, w.before args s = true) (hAO : va_AO RX7 s) : ∃ D : xD, xK D s := by
  have hxt : ∀ w ∈ xT, w.before args s = true := fun w hw => hts w (List.mem_filter.mp hw).1
  have hc := l_cls hxt
  obtain ⟨a1, p1, q1⟩ := l_arr (hxt _ wA_int)
  obtain ⟨a2, p2, q2⟩ := l_arr (hxt _ wA_boolean)
  obtain ⟨a3, p3, q3⟩ := l_arrO hAO
  obtain ⟨a4, p4, q4⟩ := l_arr (hxt _ wA_long)
  refine ⟨((fun k => Classical.choose (hc k), fun k => Classical.choose (Classical.choose_spec (hc k))), (a1, a2, a3, a4)), ⟨fun k q hq => Classical.choose_spec (Classical.choose_spec (hc k)) q hq, fun k q hq => ?_⟩, l_nest hts⟩
  match k, hq with
  | 0, hq => cases hq; exact ⟨p1, q1⟩
  | 1, hq => cases hq; exact ⟨p2, q2⟩
  | 2, hq => cases hq; exact ⟨p3, q3⟩
  | 3, hq => cases hq; exact ⟨p4, q4⟩
  | k + 4, hq => rw [List.getElem?_eq_none (show (xtys _).length ≤ k + 4 from (show 4 ≤ k + 4 by omega))] at hq; cases hq
section LBEGIN
variable {p : Program} {l : Launch} {e : Env} {s : State} {m : MethodId} {args : Array Value} {below : List Frame} {meth : Method} {c : Code} {H H0 : Heap} {locs : List Loc} {cells slots : Nat} {Q : State → Prop}
variable {pc : Nat} {rt : Option FieldType} {ls : Array Slot} {rest : List Value} {D : xD} {b L N i : Nat} {xs : Nat → Int32}
set_option maxHeartbeats 1000000 in
theorem l_begin (C0 : xC D RL cL_law 7 rt p s m args meth c) (hAO : va_AO RX7 s) (hN : s.heap.size = N) (hl : lv_has ls 7 [(0, .ref b)])
    (kk : ∀ (ls1 : Array Slot) (H1 : Heap) (locs1 : List Loc), lv_has ls1 7 (lv5 b N (i32 ((0 : Nat) : Int))) → lWd D N s H1 locs1 → W p l e room_1 s m args below meth c H1 locs1 302 20451 Q (F0 m 23 ls1 [])) : W p l e room_1 s m args below meth c s.heap [] 0 0 Q (F0 m 0 ls []) := by
  have hx := C0.1
  have hb := C0.2.1
  have hG : xG D (tyL N) N 0 [] [] [] [] s.heap := by
    refine ⟨hN, fun q t ht => ?_, ⟨fun _ _ _ => rfl, fun _ _ _ => rfl, fun _ _ _ => rfl, fun _ _ _ => rfl⟩, fun q hq => tyL_lt hq⟩
    unfold tyN at ht
    split at ht
    · rename_i h
      rw [tyL_lt (by omega)] at ht
      cases ht
    · cases ht
  have hS : xL (tyL N) N 0 s.heap s.heap [] := ⟨fun _ _ => rfl, fun l hl => absurd hl List.not_mem_nil⟩
  refine g_newo (ci := 11) (M := 16) (T := TX11) (n1 := 1) (c1 := 1) (s1 := 16) C0 hG hS rfl rfl rfl ty11 rfl iX11 tyX11_ok wc_L_8 wn_X11 wi_X11 df_X11 (Nat.le_of_ble_eq_true rfl) (Nat.le_of_ble_eq_true rfl) dL_law_0 (fun H hG hS => ?_)
  refine lv_dup hx hb dL_law_3 rfl ?_
  refine g_ctor (n2 := 0 + 273) (c2 := 273) (s2 := 5891) (As := []) (rest := [.ref (N + 0)]) C0 hAO (jn_X11 (b := 0) hT_11) xm_X11_init xi_X11_init rfl wl_L_17 ⟨rfl, rfl, Nat.le_of_ble_eq_true rfl, Nat.le_of_ble_eq_true rfl⟩ hG hS (by omega) rfl rfl rfl hl.1 rfl (Nat.le_of_ble_eq_true rfl) ⟨Nat.le_of_ble_eq_true rfl, Nat.le_of_ble_eq_true rfl⟩ dL_law_4 (fun H locs hG hS => ?_)
  refine lv_astore_n (lv' := [(1, .ref (N + 0)), (0, .ref b)]) hx hb dL_law_7 rfl hl (by decide) rfl (fun ls hl => ?_)
  have hG : xG D (tyL N) N 273 rC iC pC [] H := hG
  have hS : xL (tyL N) N 273 s.heap H locs := hS
  refine g_newo (ci := 12) (M := 60) (T := TX12) (n1 := 273 + 1) (c1 := 274) (s1 := 5951) C0 hG hS rfl rfl rfl ty12 rfl iX12 tyX12_ok wc_L_18 wn_X12 wi_X12 df_X12 (Nat.le_of_ble_eq_true rfl) (Nat.le_of_ble_eq_true rfl) dL_law_8 (fun H hG hS => ?_)
  refine lv_dup hx hb dL_law_11 rfl ?_
  refine g_ctorM (c2 := 301) (s2 := 20450) C0 hAO wl_L_20 ⟨Nat.le_of_ble_eq_true rfl, Nat.le_of_ble_eq_true rfl⟩ hG hS rfl rfl hl.1 (Nat.le_of_ble_eq_true rfl) ⟨Nat.le_of_ble_eq_true rfl, Nat.le_of_ble_eq_true rfl⟩ dL_law_12 (fun H locs I A hz hR hRR hI2 hS => ?_)
  refine lv_astore_n (lv' := [(2, .ref (N + 273)), (1, .ref (N + 0)), (0, .ref b)]) hx hb dL_law_15 rfl hl (by decide) rfl (fun ls hl => ?_)
  refine lv_iconst (v := 1) hx hb dL_law_16 (by decide) ?_
  refine g_newJ (c2 := 302) (s2 := 20451) C0 hz hR (fun j => ?_) hS rfl rfl ⟨Nat.le_of_ble_eq_true rfl, Nat.le_of_ble_eq_true rfl⟩ dL_law_17 (fun H hR hz hS => ?_)
  · show (if N + 301 = N + 273 then (0 : Int64) else (hL N).2.2.2.2 (N + 301) j) = 0
    rw [if_neg (by omega)]
    rfl
  refine lv_astore_n (lv' := [(3, .ref (N + 301)), (2, .ref (N + 273)), (1, .ref (N + 0)), (0, .ref b)]) hx hb dL_law_19 rfl hl (by decide) rfl (fun ls hl => ?_)
  refine lv_iconst (v := i32 ((0 : Nat) : Int)) hx hb dL_law_20 rfl ?_
  refine lv_istore (lv' := [(4, .int (i32 ((0 : Nat) : Int))), (3, .ref (N + 301)), (2, .ref (N + 273)), (1, .ref (N + 0)), (0, .ref b)]) hx hb dL_law_21 hl (by decide) rfl (fun ls hl => ?_)
  refine kk ls H locs (lv_sub hl [4, 3, 2, 1, 0] rfl) ⟨hL N, c00, I, A, fun _ => 0, g00, MH_L, gwf0, crep0, hRR, w_start hR, ?_⟩
  refine ⟨by omega, fun q hq _ => hS.1 q (by omega), fun l hl => ?_⟩
  have h1 := hS.2 l hl
  exact fun h2 => h1 (by
    unfold tyN
    split
    · exact h2
    · rfl)
end LBEGIN

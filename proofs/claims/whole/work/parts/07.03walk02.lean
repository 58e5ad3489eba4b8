theorem dX4_readAlone_0 : decode cX4_readAlone 0 = .ok (.aload_n 0, 1) := by decide +kernel
theorem dX4_readAlone_1 : decode cX4_readAlone 1 = .ok (.aload_n 1, 1) := by decide +kernel
theorem dX4_readAlone_2 : decode cX4_readAlone 2 = .ok (.iload_n 2, 1) := by decide +kernel
theorem dX4_readAlone_3 : decode cX4_readAlone 3 = .ok (.invokevirtual 32, 3) := by decide +kernel
theorem dX4_readAlone_6 : decode cX4_readAlone 6 = .ok (.aload_n 0, 1) := by decide +kernel
theorem dX4_readAlone_7 : decode cX4_readAlone 7 = .ok (.aload_n 3, 1) := by decide +kernel
theorem dX4_readAlone_8 : decode cX4_readAlone 8 = .ok (.aload 4, 2) := by decide +kernel
theorem dX4_readAlone_10 : decode cX4_readAlone 10 = .ok (.aload 4, 2) := by decide +kernel
theorem dX4_readAlone_12 : decode cX4_readAlone 12 = .ok (.iconst 0, 1) := by decide +kernel
theorem dX4_readAlone_13 : decode cX4_readAlone 13 = .ok (.invokevirtual 52, 3) := by decide +kernel
theorem dX4_readAlone_16 : decode cX4_readAlone 16 = .ok (.ifCond .eq 25, 3) := by decide +kernel
theorem dX4_readAlone_19 : decode cX4_readAlone 19 = .ok (.aload_n 0, 1) := by decide +kernel
theorem dX4_readAlone_20 : decode cX4_readAlone 20 = .ok (.getfield 12, 3) := by decide +kernel
theorem dX4_readAlone_23 : decode cX4_readAlone 23 = .ok (.getfield 41, 3) := by decide +kernel
theorem dX4_readAlone_26 : decode cX4_readAlone 26 = .ok (.ifCond .eq 11, 3) := by decide +kernel
theorem dX4_readAlone_29 : decode cX4_readAlone 29 = .ok (.aload_n 0, 1) := by decide +kernel
theorem dX4_readAlone_30 : decode cX4_readAlone 30 = .ok (.iconst 1, 1) := by decide +kernel
theorem dX4_readAlone_31 : decode cX4_readAlone 31 = .ok (.invokevirtual 56, 3) := by decide +kernel
theorem dX4_readAlone_34 : decode cX4_readAlone 34 = .ok (.ifCond .eq 7, 3) := by decide +kernel
theorem dX4_readAlone_37 : decode cX4_readAlone 37 = .ok (.iconst 1, 1) := by decide +kernel
theorem dX4_readAlone_38 : decode cX4_readAlone 38 = .ok (.goto 4, 3) := by decide +kernel
theorem dX4_readAlone_41 : decode cX4_readAlone 41 = .ok (.iconst 0, 1) := by decide +kernel
theorem dX4_readAlone_42 : decode cX4_readAlone 42 = .ok (.ireturn, 1) := by decide +kernel
set_option maxHeartbeats 4000000 in
set_option maxRecDepth 100000 in
theorem jc_X4_readAlone {l : Launch} {D : xD} {ty : xTy} {h : xH} {v0 : Nat} {v1 : Nat} {v2 : Int32} {v3 : Nat} {v4 : Nat} {r : Int32} {h9 : xH} (t_v0 : ty v0 = some (0, 4)) (t_v3 : ty v3 = some (0, 0)) (t_v4 : ty v4 = some (0, 7)) (hF : jf_X4_readAlone ty h v0 v1 v2 v3 v4 = some (r, h9)) : Met l yX4_readAlone (xws yX4_readAlone cX4_readAlone 5 (some .boolean)) jr_X4_readAlone (xPc D ty h [.ref v0, .ref v1, .int v2, .ref v3, .ref v4]) (xQ D ty (some (.int r)) h9) 0 0 (xdom ty) := by
  refine x_met (by decide) ?_
  intro p e s m below meth c C0 hR
  generalize hargs : ([.ref v0, .ref v1, .int v2, .ref v3, .ref v4] : List Value).toArray = args at C0 ⊢
  have hx := C0.1
  have hb := C0.2.1
  have hown := C0.2.2.2.2.2.1
  have hts := C0.2.2.2.2.2.2.1
  have hS : xS ty s.heap s.heap [] := xS.rf
  have hl := lv_entry ([.ref v0, .ref v1, .int v2, .ref v3, .ref v4]) (n := 5) (Nat.le_of_ble_eq_true rfl)
  rw [← hargs, lg_entry_eq]
  rw [hargs]
  generalize (lg_sl ([.ref v0, .ref v1, .int v2, .ref v3, .ref v4]) ++ List.replicate (5 - (lg_sl ([.ref v0, .ref v1, .int v2, .ref v3, .ref v4])).length) Slot.unset).toArray = ls at hl ⊢
  have hl : lv_has ls 5 [(0, .ref v0), (1, .ref v1), (2, .int v2), (3, .ref v3), (4, .ref v4)] := hl
  unfold jf_X4_readAlone at hF
  refine lv_aload_n hx hb dX4_readAlone_0 rfl (lv_at hl 0 rfl) ?_
  refine lv_aload_n hx hb dX4_readAlone_1 rfl (lv_at hl 1 rfl) ?_
  refine lv_iload_n hx hb dX4_readAlone_2 rfl (lv_at hl 2 rfl) ?_
  obtain ⟨h1, e_h1, hF⟩ := xbd hF
  refine cl_X4_32 C0 hR hS e_h1 t_v0 ⟨(Nat.le_of_ble_eq_true rfl), (Nat.le_of_ble_eq_true rfl)⟩ hl.1 (Nat.le_of_ble_eq_true rfl) ⟨(Nat.le_of_ble_eq_true rfl), (Nat.le_of_ble_eq_true rfl)⟩ dX4_readAlone_3 (fun H locs hR hS => ?_)
  refine lv_aload_n hx hb dX4_readAlone_6 rfl (lv_at hl 0 rfl) ?_
  refine lv_aload_n hx hb dX4_readAlone_7 rfl (lv_at hl 3 rfl) ?_
  refine lv_aload hx hb dX4_readAlone_8 (lv_at hl 4 rfl) ?_
  refine lv_aload hx hb dX4_readAlone_10 (lv_at hl 4 rfl) ?_
  refine lv_iconst (v := 0) hx hb dX4_readAlone_12 (by decide) ?_
  obtain ⟨a3, h2, e_h2, hF⟩ := xbd2 hF
  refine cl_X4_52 C0 hR hS e_h2 t_v0 t_v3 t_v4 t_v4 ⟨(Nat.le_of_ble_eq_true rfl), (Nat.le_of_ble_eq_true rfl)⟩ hl.1 (Nat.le_of_ble_eq_true rfl) ⟨(Nat.le_of_ble_eq_true rfl), (Nat.le_of_ble_eq_true rfl)⟩ dX4_readAlone_13 (fun H locs hR hS => ?_)
  refine lv_if_eq (tgt := 41) hx hb dX4_readAlone_16 (by decide) (fun c4 => ?_) (fun c4 => ?_)
  · have hF := xif hF c4
    refine lv_iconst (v := 0) hx hb dX4_readAlone_41 (by decide) ?_
    cases hF
    exact x_zret (w := 0) C0 hR hS (by decide) dX4_readAlone_42
  · have hF := xel hF c4
    refine lv_aload_n hx hb dX4_readAlone_19 rfl (lv_at hl 0 rfl) ?_
    obtain ⟨a5, e_a5, hF⟩ := xbd hF
    obtain ⟨e_a5, t_a5⟩ := xgo_sp e_a5
    refine gf_X4_12 C0 hR t_v0 e_a5 dX4_readAlone_20 ?_
    refine gf_X4_41 C0 hR t_a5 dX4_readAlone_23 ?_
    refine lv_if_eq (tgt := 37) hx hb dX4_readAlone_26 (by decide) (fun c6 => ?_) (fun c6 => ?_)
    · have hF := xif hF c6
      refine lv_iconst (v := 1) hx hb dX4_readAlone_37 (by decide) ?_
      refine lv_goto (tgt := 42) hx hb dX4_readAlone_38 (by decide) ?_
      cases hF
      exact x_zret (w := 1) C0 hR hS (by decide) dX4_readAlone_42
    · have hF := xel hF c6
      refine lv_aload_n hx hb dX4_readAlone_29 rfl (lv_at hl 0 rfl) ?_
      refine lv_iconst (v := 1) hx hb dX4_readAlone_30 (by decide) ?_
      obtain ⟨a8, h7, e_h7, hF⟩ := xbd2 hF
      refine cl_X4_56 C0 hR hS e_h7 t_v0 ⟨(Nat.le_of_ble_eq_true rfl), (Nat.le_of_ble_eq_true rfl)⟩ hl.1 (Nat.le_of_ble_eq_true rfl) ⟨(Nat.le_of_ble_eq_true rfl), (Nat.le_of_ble_eq_true rfl)⟩ dX4_readAlone_31 (fun H locs hR hS => ?_)
      refine lv_if_eq (tgt := 41) hx hb dX4_readAlone_34 (by decide) (fun c9 => ?_) (fun c9 => ?_)
      · have hF := xif hF c9
        refine lv_iconst (v := 0) hx hb dX4_readAlone_41 (by decide) ?_
        cases hF
        exact x_zret (w := 0) C0 hR hS (by decide) dX4_readAlone_42
      · have hF := xel hF c9
        refine lv_iconst (v := 1) hx hb dX4_readAlone_37 (by decide) ?_
        refine lv_goto (tgt := 42) hx hb dX4_readAlone_38 (by decide) ?_
        cases hF
        exact x_zret (w := 1) C0 hR hS (by decide) dX4_readAlone_42
theorem xm_X4_readAlone : xMw yX4_readAlone cX4_readAlone 5 (some .boolean) 4 := ⟨xin 719 (by decide +kernel) rfl, xin 117 (by decide +kernel) rfl, by decide +kernel⟩
theorem xi_X4_readAlone : Cond.instanceMethod yX4_readAlone ∈ xT := xin 717 (by decide +kernel) rfl
theorem xe_X4_readAlone : Cond.selects yX4_readAlone.cls yX4_readAlone yX4_readAlone ∈ xT := xin 718 (by decide +kernel) rfl
theorem dX7_addPart_0 : decode cX7_addPart 0 = .ok (.iload_n 2, 1) := by decide +kernel
theorem dX7_addPart_1 : decode cX7_addPart 1 = .ok (.istore 4, 2) := by decide +kernel
theorem dX7_addPart_3 : decode cX7_addPart 3 = .ok (.iload 4, 2) := by decide +kernel
theorem dX7_addPart_5 : decode cX7_addPart 5 = .ok (.iload_n 3, 1) := by decide +kernel
theorem dX7_addPart_6 : decode cX7_addPart 6 = .ok (.if_icmp .ge 30, 3) := by decide +kernel
theorem dX7_addPart_9 : decode cX7_addPart 9 = .ok (.aload_n 0, 1) := by decide +kernel
theorem dX7_addPart_10 : decode cX7_addPart 10 = .ok (.aload_n 1, 1) := by decide +kernel
theorem dX7_addPart_11 : decode cX7_addPart 11 = .ok (.iload 4, 2) := by decide +kernel
theorem dX7_addPart_13 : decode cX7_addPart 13 = .ok (.invokevirtual 22, 3) := by decide +kernel
theorem dX7_addPart_16 : decode cX7_addPart 16 = .ok (.aload_n 1, 1) := by decide +kernel
theorem dX7_addPart_17 : decode cX7_addPart 17 = .ok (.iload 4, 2) := by decide +kernel
theorem dX7_addPart_19 : decode cX7_addPart 19 = .ok (.invokevirtual 26, 3) := by decide +kernel
theorem dX7_addPart_22 : decode cX7_addPart 22 = .ok (.invokevirtual 29, 3) := by decide +kernel
theorem dX7_addPart_25 : decode cX7_addPart 25 = .ok (.ifCond .ne 5, 3) := by decide +kernel
theorem dX7_addPart_28 : decode cX7_addPart 28 = .ok (.iconst 0, 1) := by decide +kernel
theorem dX7_addPart_29 : decode cX7_addPart 29 = .ok (.ireturn, 1) := by decide +kernel
theorem dX7_addPart_30 : decode cX7_addPart 30 = .ok (.iinc 4 1, 3) := by decide +kernel
theorem dX7_addPart_33 : decode cX7_addPart 33 = .ok (.goto (-30), 3) := by decide +kernel
theorem dX7_addPart_36 : decode cX7_addPart 36 = .ok (.iconst 1, 1) := by decide +kernel
theorem dX7_addPart_37 : decode cX7_addPart 37 = .ok (.ireturn, 1) := by decide +kernel
theorem wl_X7_26 : Cond.methodLink RX7 26 yX7_arityAt ∈ xT := xin 1045 (by decide +kernel) rfl
theorem wl_X7_29 : Cond.methodLink RX7 29 yX7_add ∈ xT := xin 1046 (by decide +kernel) rfl
section XN_X7_addPart
variable {p : Program} {l : Launch} {e : Env} {R : Room} {s : State} {m : MethodId} {args : Array Value} {below : List Frame} {meth : Method} {c : Code} {H H0 : Heap} {locs : List Loc} {cells slots : Nat} {Q : State → Prop} {cc : ByteArray} {nL pc : Nat} {rt : Option FieldType} {ls : Array Slot} {rest : List Value} {D : xD} {ty : xTy} {h : xH}
theorem cl_X7_26 {v0 : Nat} {v1 : Int32} {r : Int32} (C0 : xC D RX7 cc nL rt p s m args meth c) (hR : xRep D ty h H) (hS : xS ty H0 H locs) (hF : jf_X7_arityAt ty h v0 v1 = some r) (t_v0 : ty v0 = some (0, 7)) (hrm : jr_X7_arityAt.frames + 1 ≤ R.frames ∧ 8 + (2 + 11) + jr_X7_arityAt.locals ≤ R.locals) (hsz : ls.size = nL) (hW : (rest.map fun v => v.category).sum ≤ 8) (hf : cells ≤ R.cells ∧ slots ≤ R.slots) (hdg : decode cc pc = .ok (.invokevirtual 26, 3)) (kk : ∀ (H1 : Heap) (locs1 : List Loc), xRep D ty h H1 → xS ty H0 H1 locs1 → W p l e R s m args below meth c H1 locs1 cells slots Q (F0 m (pc + 3) ls (.int r :: rest))) : W p l e R s m args below meth c H locs cells slots Q (F0 m pc ls (.int v1 :: .ref v0 :: rest)) := x_callV C0 (jc_X7_arityAt t_v0 hF) xm_X7_arityAt xi_X7_arityAt xe_X7_arityAt wl_X7_26 ⟨rfl, rfl, hrm⟩ (ci := 7) rfl t_v0 hR hS (As := [.int v1]) rfl hsz rfl hW hdg hf kk
theorem cl_X7_29 {v0 : Nat} {v1 : Int32} {v2 : Int32} {r : Int32} {h9 : xH} (C0 : xC D RX7 cc nL rt p s m args meth c) (hR : xRep D ty h H) (hS : xS ty H0 H locs) (hF : jf_X7_add ty h v0 v1 v2 = some (r, h9)) (t_v0 : ty v0 = some (0, 7)) (hrm : jr_X7_add.frames + 1 ≤ R.frames ∧ 8 + (3 + 11) + jr_X7_add.locals ≤ R.locals) (hsz : ls.size = nL) (hW : (rest.map fun v => v.category).sum ≤ 8) (hf : cells ≤ R.cells ∧ slots ≤ R.slots) (hdg : decode cc pc = .ok (.invokevirtual 29, 3)) (kk : ∀ (H1 : Heap) (locs1 : List Loc), xRep D ty h9 H1 → xS ty H0 H1 locs1 → W p l e R s m args below meth c H1 locs1 cells slots Q (F0 m (pc + 3) ls (.int r :: rest))) : W p l e R s m args below meth c H locs cells slots Q (F0 m pc ls (.int v2 :: .int v1 :: .ref v0 :: rest)) := x_callV C0 (jc_X7_add t_v0 hF) xm_X7_add xi_X7_add xe_X7_add wl_X7_29 ⟨rfl, rfl, hrm⟩ (ci := 7) rfl t_v0 hR hS (As := [.int v1, .int v2]) rfl hsz rfl hW hdg hf kk
end XN_X7_addPart
set_option maxHeartbeats 4000000 in
set_option maxRecDepth 100000 in
theorem jw_X7_addPart_3 {p : Program} {l : Launch} {e : Env} {s : State} {m : MethodId} {args : Array Value} {below : List Frame} {meth : Method} {c : Code} {D : xD} {ty : xTy} (C0 : xC D RX7 cX7_addPart 5 (some .boolean) p s m args meth c) {r : Int32} {h9 : xH} : ∀ n : Nat, ∀ (v0 : Nat) (v1 : Nat) (v3 : Int32) (v4 : Int32) (h : xH), ty v0 = some (0, 7) → ty v1 = some (0, 7) → jf_X7_addPart_3 ty n v0 v1 v3 v4 h = some (r, h9) → ∀ (H : Heap) (locs : List Loc), xRep D ty h H → xS ty s.heap H locs → ∀ ls : Array Slot, lv_has ls 5 [(0, .ref v0), (1, .ref v1), (3, .int v3), (4, .int v4)] → W p l e jr_X7_addPart s m args below meth c H locs 0 0 (MQ below (xQ D ty (some (.int r)) h9) args s 0 0 (xdom ty)) (F0 m 3 ls []) := by
  have hx := C0.1
  have hb := C0.2.1
  have hown := C0.2.2.2.2.2.1
  have hts := C0.2.2.2.2.2.2.1
  intro n
  induction n with
  | zero =>
    intro v0 v1 v3 v4 h t_v0 t_v1 hF H locs hR hS ls hl
    cases hF
  | succ n ih =>
    intro v0 v1 v3 v4 h t_v0 t_v1 hF H locs hR hS ls hl
    rw [jf_X7_addPart_3_s] at hF
    refine lv_iload hx hb dX7_addPart_3 (lv_at hl 3 rfl) ?_
    refine lv_iload_n hx hb dX7_addPart_5 rfl (lv_at hl 2 rfl) ?_
    refine lv_icmp_ge (tgt := 36) hx hb dX7_addPart_6 (by decide) (fun c1 => ?_) (fun c1 => ?_)
    · have hF := xif hF c1
      refine lv_iconst (v := 1) hx hb dX7_addPart_36 (by decide) ?_
      cases hF
      exact x_zret (w := 1) C0 hR hS (by decide) dX7_addPart_37
    · have hF := xel hF c1
      refine lv_aload_n hx hb dX7_addPart_9 rfl (lv_at hl 0 rfl) ?_
      refine lv_aload_n hx hb dX7_addPart_10 rfl (lv_at hl 1 rfl) ?_
      refine lv_iload hx hb dX7_addPart_11 (lv_at hl 3 rfl) ?_
      obtain ⟨a2, e_a2, hF⟩ := xbd hF
      refine cl_X7_22 C0 hR hS e_a2 t_v1 ⟨(Nat.le_of_ble_eq_true rfl), (Nat.le_of_ble_eq_true rfl)⟩ hl.1 (Nat.le_of_ble_eq_true rfl) ⟨(Nat.le_of_ble_eq_true rfl), (Nat.le_of_ble_eq_true rfl)⟩ dX7_addPart_13 (fun H locs hR hS => ?_)
      refine lv_aload_n hx hb dX7_addPart_16 rfl (lv_at hl 1 rfl) ?_
      refine lv_iload hx hb dX7_addPart_17 (lv_at hl 3 rfl) ?_
      obtain ⟨a3, e_a3, hF⟩ := xbd hF
      refine cl_X7_26 C0 hR hS e_a3 t_v1 ⟨(Nat.le_of_ble_eq_true rfl), (Nat.le_of_ble_eq_true rfl)⟩ hl.1 (Nat.le_of_ble_eq_true rfl) ⟨(Nat.le_of_ble_eq_true rfl), (Nat.le_of_ble_eq_true rfl)⟩ dX7_addPart_19 (fun H locs hR hS => ?_)
      obtain ⟨a5, h4, e_h4, hF⟩ := xbd2 hF
      refine cl_X7_29 C0 hR hS e_h4 t_v0 ⟨(Nat.le_of_ble_eq_true rfl), (Nat.le_of_ble_eq_true rfl)⟩ hl.1 (Nat.le_of_ble_eq_true rfl) ⟨(Nat.le_of_ble_eq_true rfl), (Nat.le_of_ble_eq_true rfl)⟩ dX7_addPart_22 (fun H locs hR hS => ?_)
      refine lv_if_ne (tgt := 30) hx hb dX7_addPart_25 (by decide) (fun c6 => ?_) (fun c6 => ?_)
      · have hF := xel hF c6
        refine lv_iinc (v := v4 + 1) (lv' := [(4, .int (v4 + 1)), (0, .ref v0), (1, .ref v1), (3, .int v3)]) hx hb dX7_addPart_30 hl (k := 3) rfl rfl (by decide) rfl (fun ls hl => ?_)
        refine lv_goto (tgt := 3) hx hb dX7_addPart_33 (by decide) ?_
        exact ih _ _ _ _ _ t_v0 t_v1 hF _ _ hR hS _ (lv_sub hl [1, 2, 3, 0] rfl)
      · have hF := xif hF c6
        refine lv_iconst (v := 0) hx hb dX7_addPart_28 (by decide) ?_
        cases hF
        exact x_zret (w := 0) C0 hR hS (by decide) dX7_addPart_29
set_option maxHeartbeats 4000000 in
set_option maxRecDepth 100000 in
theorem jc_X7_addPart {l : Launch} {D : xD} {ty : xTy} {h : xH} {v0 : Nat} {v1 : Nat} {v2 : Int32} {v3 : Int32} {r : Int32} {h9 : xH} (t_v0 : ty v0 = some (0, 7)) (t_v1 : ty v1 = some (0, 7)) (hF : jf_X7_addPart ty h v0 v1 v2 v3 = some (r, h9)) : Met l yX7_addPart (xws yX7_addPart cX7_addPart 5 (some .boolean)) jr_X7_addPart (xPc D ty h [.ref v0, .ref v1, .int v2, .int v3]) (xQ D ty (some (.int r)) h9) 0 0 (xdom ty) := by
  refine x_met (by decide) ?_
  intro p e s m below meth c C0 hR
  generalize hargs : ([.ref v0, .ref v1, .int v2, .int v3] : List Value).toArray = args at C0 ⊢
  have hx := C0.1
  have hb := C0.2.1
  have hown := C0.2.2.2.2.2.1
  have hts := C0.2.2.2.2.2.2.1
  have hS : xS ty s.heap s.heap [] := xS.rf
  have hl := lv_entry ([.ref v0, .ref v1, .int v2, .int v3]) (n := 5) (Nat.le_of_ble_eq_true rfl)
  rw [← hargs, lg_entry_eq]
  rw [hargs]
  generalize (lg_sl ([.ref v0, .ref v1, .int v2, .int v3]) ++ List.replicate (5 - (lg_sl ([.ref v0, .ref v1, .int v2, .int v3])).length) Slot.unset).toArray = ls at hl ⊢
  have hl : lv_has ls 5 [(0, .ref v0), (1, .ref v1), (2, .int v2), (3, .int v3)] := hl
  unfold jf_X7_addPart at hF
  refine lv_iload_n hx hb dX7_addPart_0 rfl (lv_at hl 2 rfl) ?_
  refine lv_istore (lv' := [(4, .int v2), (0, .ref v0), (1, .ref v1), (2, .int v2), (3, .int v3)]) hx hb dX7_addPart_1 hl (by decide) rfl (fun ls hl => ?_)
  obtain ⟨_, hF⟩ := xlim_sp hF
  exact jw_X7_addPart_3 C0 _ _ _ _ _ _ t_v0 t_v1 hF _ _ hR hS _ (lv_sub hl [1, 2, 4, 0] rfl)
theorem xm_X7_addPart : xMw yX7_addPart cX7_addPart 5 (some .boolean) 3 := ⟨xin 1044 (by decide +kernel) rfl, xin 116 (by decide +kernel) rfl, by decide +kernel⟩
theorem xi_X7_addPart : Cond.instanceMethod yX7_addPart ∈ xT := xin 1042 (by decide +kernel) rfl
theorem xe_X7_addPart : Cond.selects yX7_addPart.cls yX7_addPart yX7_addPart ∈ xT := xin 1043 (by decide +kernel) rfl
theorem dX7_copyOf_0 : decode cX7_copyOf 0 = .ok (.aload_n 0, 1) := by decide +kernel
theorem dX7_copyOf_1 : decode cX7_copyOf 1 = .ok (.invokevirtual 33, 3) := by decide +kernel
theorem dX7_copyOf_4 : decode cX7_copyOf 4 = .ok (.aload_n 0, 1) := by decide +kernel
theorem dX7_copyOf_5 : decode cX7_copyOf 5 = .ok (.aload_n 1, 1) := by decide +kernel
theorem dX7_copyOf_6 : decode cX7_copyOf 6 = .ok (.iconst 0, 1) := by decide +kernel
theorem dX7_copyOf_7 : decode cX7_copyOf 7 = .ok (.aload_n 1, 1) := by decide +kernel
theorem dX7_copyOf_8 : decode cX7_copyOf 8 = .ok (.getfield 9, 3) := by decide +kernel
theorem dX7_copyOf_11 : decode cX7_copyOf 11 = .ok (.invokevirtual 36, 3) := by decide +kernel
theorem dX7_copyOf_14 : decode cX7_copyOf 14 = .ok (.pop, 1) := by decide +kernel
theorem dX7_copyOf_15 : decode cX7_copyOf 15 = .ok (.return_, 1) := by decide +kernel
theorem wl_X7_33 : Cond.methodLink RX7 33 yX7_clear ∈ xT := xin 1040 (by decide +kernel) rfl
theorem wl_X7_36 : Cond.methodLink RX7 36 yX7_addPart ∈ xT := xin 1041 (by decide +kernel) rfl
section XN_X7_copyOf
variable {p : Program} {l : Launch} {e : Env} {R : Room} {s : State} {m : MethodId} {args : Array Value} {below : List Frame} {meth : Method} {c : Code} {H H0 : Heap} {locs : List Loc} {cells slots : Nat} {Q : State → Prop} {cc : ByteArray} {nL pc : Nat} {rt : Option FieldType} {ls : Array Slot} {rest : List Value} {D : xD} {ty : xTy} {h : xH}
theorem cl_X7_33 {v0 : Nat} {h9 : xH} (C0 : xC D RX7 cc nL rt p s m args meth c) (hR : xRep D ty h H) (hS : xS ty H0 H locs) (hF : jf_X7_clear ty h v0 = some h9) (t_v0 : ty v0 = some (0, 7)) (hrm : jr_X7_clear.frames + 1 ≤ R.frames ∧ 8 + (1 + 11) + jr_X7_clear.locals ≤ R.locals) (hsz : ls.size = nL) (hW : (rest.map fun v => v.category).sum ≤ 8) (hf : cells ≤ R.cells ∧ slots ≤ R.slots) (hdg : decode cc pc = .ok (.invokevirtual 33, 3)) (kk : ∀ (H1 : Heap) (locs1 : List Loc), xRep D ty h9 H1 → xS ty H0 H1 locs1 → W p l e R s m args below meth c H1 locs1 cells slots Q (F0 m (pc + 3) ls rest)) : W p l e R s m args below meth c H locs cells slots Q (F0 m pc ls (.ref v0 :: rest)) := x_callV C0 (jc_X7_clear t_v0 hF) xm_X7_clear xi_X7_clear xe_X7_clear wl_X7_33 ⟨rfl, rfl, hrm⟩ (ci := 7) rfl t_v0 hR hS (As := []) rfl hsz rfl hW hdg hf kk
theorem cl_X7_36 {v0 : Nat} {v1 : Nat} {v2 : Int32} {v3 : Int32} {r : Int32} {h9 : xH} (C0 : xC D RX7 cc nL rt p s m args meth c) (hR : xRep D ty h H) (hS : xS ty H0 H locs) (hF : jf_X7_addPart ty h v0 v1 v2 v3 = some (r, h9)) (t_v0 : ty v0 = some (0, 7)) (t_v1 : ty v1 = some (0, 7)) (hrm : jr_X7_addPart.frames + 1 ≤ R.frames ∧ 8 + (5 + 11) + jr_X7_addPart.locals ≤ R.locals) (hsz : ls.size = nL) (hW : (rest.map fun v => v.category).sum ≤ 8) (hf : cells ≤ R.cells ∧ slots ≤ R.slots) (hdg : decode cc pc = .ok (.invokevirtual 36, 3)) (kk : ∀ (H1 : Heap) (locs1 : List Loc), xRep D ty h9 H1 → xS ty H0 H1 locs1 → W p l e R s m args below meth c H1 locs1 cells slots Q (F0 m (pc + 3) ls (.int r :: rest))) : W p l e R s m args below meth c H locs cells slots Q (F0 m pc ls (.int v3 :: .int v2 :: .ref v1 :: .ref v0 :: rest)) := x_callV C0 (jc_X7_addPart t_v0 t_v1 hF) xm_X7_addPart xi_X7_addPart xe_X7_addPart wl_X7_36 ⟨rfl, rfl, hrm⟩ (ci := 7) rfl t_v0 hR hS (As := [.ref v1, .int v2, .int v3]) rfl hsz rfl hW hdg hf kk
end XN_X7_copyOf
set_option maxHeartbeats 4000000 in
set_option maxRecDepth 100000 in
theorem jc_X7_copyOf {l : Launch} {D : xD} {ty : xTy} {h : xH} {v0 : Nat} {v1 : Nat} {h9 : xH} (t_v0 : ty v0 = some (0, 7)) (t_v1 : ty v1 = some (0, 7)) (hF : jf_X7_copyOf ty h v0 v1 = some h9) : Met l yX7_copyOf (xws yX7_copyOf cX7_copyOf 2 none) jr_X7_copyOf (xPc D ty h [.ref v0, .ref v1]) (xQ D ty none h9) 0 0 (xdom ty) := by
  refine x_met (by decide) ?_
  intro p e s m below meth c C0 hR
  generalize hargs : ([.ref v0, .ref v1] : List Value).toArray = args at C0 ⊢
  have hx := C0.1
  have hb := C0.2.1
  have hown := C0.2.2.2.2.2.1
  have hts := C0.2.2.2.2.2.2.1
  have hS : xS ty s.heap s.heap [] := xS.rf
  have hl := lv_entry ([.ref v0, .ref v1]) (n := 2) (Nat.le_of_ble_eq_true rfl)
  rw [← hargs, lg_entry_eq]
  rw [hargs]
  generalize (lg_sl ([.ref v0, .ref v1]) ++ List.replicate (2 - (lg_sl ([.ref v0, .ref v1])).length) Slot.unset).toArray = ls at hl ⊢
  have hl : lv_has ls 2 [(0, .ref v0), (1, .ref v1)] := hl
  unfold jf_X7_copyOf at hF
  refine lv_aload_n hx hb dX7_copyOf_0 rfl (lv_at hl 0 rfl) ?_
  obtain ⟨h1, e_h1, hF⟩ := xbd hF
  refine cl_X7_33 C0 hR hS e_h1 t_v0 ⟨(Nat.le_of_ble_eq_true rfl), (Nat.le_of_ble_eq_true rfl)⟩ hl.1 (Nat.le_of_ble_eq_true rfl) ⟨(Nat.le_of_ble_eq_true rfl), (Nat.le_of_ble_eq_true rfl)⟩ dX7_copyOf_1 (fun H locs hR hS => ?_)
  refine lv_aload_n hx hb dX7_copyOf_4 rfl (lv_at hl 0 rfl) ?_
  refine lv_aload_n hx hb dX7_copyOf_5 rfl (lv_at hl 1 rfl) ?_
  refine lv_iconst (v := 0) hx hb dX7_copyOf_6 (by decide) ?_
  refine lv_aload_n hx hb dX7_copyOf_7 rfl (lv_at hl 1 rfl) ?_
  refine gf_X7_9 C0 hR t_v1 dX7_copyOf_8 ?_
  obtain ⟨a3, h2, e_h2, hF⟩ := xbd2 hF
  refine cl_X7_36 C0 hR hS e_h2 t_v0 t_v1 ⟨(Nat.le_of_ble_eq_true rfl), (Nat.le_of_ble_eq_true rfl)⟩ hl.1 (Nat.le_of_ble_eq_true rfl) ⟨(Nat.le_of_ble_eq_true rfl), (Nat.le_of_ble_eq_true rfl)⟩ dX7_copyOf_11 (fun H locs hR hS => ?_)
  refine lv_pop hx hb dX7_copyOf_14 rfl ?_
  cases hF
  exact x_vret C0 hR hS dX7_copyOf_15
theorem xm_X7_copyOf : xMw yX7_copyOf cX7_copyOf 2 none 1 := ⟨xin 1039 (by decide +kernel) rfl, xin 116 (by decide +kernel) rfl, by decide +kernel⟩
theorem xi_X7_copyOf : Cond.instanceMethod yX7_copyOf ∈ xT := xin 1037 (by decide +kernel) rfl
theorem xe_X7_copyOf : Cond.selects yX7_copyOf.cls yX7_copyOf yX7_copyOf ∈ xT := xin 1038 (by decide +kernel) rfl
theorem dX11_hasBit_0 : decode cX11_hasBit 0 = .ok (.iload_n 1, 1) := by decide +kernel
theorem dX11_hasBit_1 : decode cX11_hasBit 1 = .ok (.ifCond .lt 22, 3) := by decide +kernel
theorem dX11_hasBit_4 : decode cX11_hasBit 4 = .ok (.iload_n 1, 1) := by decide +kernel
theorem dX11_hasBit_5 : decode cX11_hasBit 5 = .ok (.bipush 16, 2) := by decide +kernel
theorem dX11_hasBit_7 : decode cX11_hasBit 7 = .ok (.if_icmp .ge 16, 3) := by decide +kernel
theorem dX11_hasBit_10 : decode cX11_hasBit 10 = .ok (.iload_n 0, 1) := by decide +kernel
theorem dX11_hasBit_11 : decode cX11_hasBit 11 = .ok (.iload_n 1, 1) := by decide +kernel
theorem dX11_hasBit_12 : decode cX11_hasBit 12 = .ok (.ishr, 1) := by decide +kernel
theorem dX11_hasBit_13 : decode cX11_hasBit 13 = .ok (.iconst 1, 1) := by decide +kernel
theorem dX11_hasBit_14 : decode cX11_hasBit 14 = .ok (.iand, 1) := by decide +kernel
theorem dX11_hasBit_15 : decode cX11_hasBit 15 = .ok (.iconst 1, 1) := by decide +kernel
theorem dX11_hasBit_16 : decode cX11_hasBit 16 = .ok (.if_icmp .ne 7, 3) := by decide +kernel
theorem dX11_hasBit_19 : decode cX11_hasBit 19 = .ok (.iconst 1, 1) := by decide +kernel
theorem dX11_hasBit_20 : decode cX11_hasBit 20 = .ok (.goto 4, 3) := by decide +kernel
theorem dX11_hasBit_23 : decode cX11_hasBit 23 = .ok (.iconst 0, 1) := by decide +kernel
theorem dX11_hasBit_24 : decode cX11_hasBit 24 = .ok (.ireturn, 1) := by decide +kernel
set_option maxHeartbeats 4000000 in
set_option maxRecDepth 100000 in
theorem jc_X11_hasBit {l : Launch} {D : xD} {ty : xTy} {h : xH} {v0 : Int32} {v1 : Int32} {r : Int32} (hF : jf_X11_hasBit v0 v1 = some r) : Met l yX11_hasBit (xws yX11_hasBit cX11_hasBit 2 (some .boolean)) jr_X11_hasBit (xPc D ty h [.int v0, .int v1]) (xQ D ty (some (.int r)) h) 0 0 (xdom ty) := by
  refine x_met (by decide) ?_
  intro p e s m below meth c C0 hR
  generalize hargs : ([.int v0, .int v1] : List Value).toArray = args at C0 ⊢
  have hx := C0.1
  have hb := C0.2.1
  have hown := C0.2.2.2.2.2.1
  have hts := C0.2.2.2.2.2.2.1
  have hS : xS ty s.heap s.heap [] := xS.rf
  have hl := lv_entry ([.int v0, .int v1]) (n := 2) (Nat.le_of_ble_eq_true rfl)
  rw [← hargs, lg_entry_eq]
  rw [hargs]
  generalize (lg_sl ([.int v0, .int v1]) ++ List.replicate (2 - (lg_sl ([.int v0, .int v1])).length) Slot.unset).toArray = ls at hl ⊢
  have hl : lv_has ls 2 [(0, .int v0), (1, .int v1)] := hl
  unfold jf_X11_hasBit at hF
  refine lv_iload_n hx hb dX11_hasBit_0 rfl (lv_at hl 1 rfl) ?_
  refine lv_if_lt (tgt := 23) hx hb dX11_hasBit_1 (by decide) (fun c1 => ?_) (fun c1 => ?_)
  · have hF := xif hF c1
    refine lv_iconst (v := 0) hx hb dX11_hasBit_23 (by decide) ?_
    cases hF
    exact x_zret (w := 0) C0 hR hS (by decide) dX11_hasBit_24
  · have hF := xel hF c1
    refine lv_iload_n hx hb dX11_hasBit_4 rfl (lv_at hl 1 rfl) ?_
    refine lv_bipush (v := 16) hx hb dX11_hasBit_5 (by decide) ?_
    refine lv_icmp_ge (tgt := 23) hx hb dX11_hasBit_7 (by decide) (fun c2 => ?_) (fun c2 => ?_)
    · have hF := xif hF c2
      refine lv_iconst (v := 0) hx hb dX11_hasBit_23 (by decide) ?_
      cases hF
      exact x_zret (w := 0) C0 hR hS (by decide) dX11_hasBit_24
    · have hF := xel hF c2
      refine lv_iload_n hx hb dX11_hasBit_10 rfl (lv_at hl 0 rfl) ?_
      refine lv_iload_n hx hb dX11_hasBit_11 rfl (lv_at hl 1 rfl) ?_
      refine lv_ishr hx hb dX11_hasBit_12 ?_
      refine lv_iconst (v := 1) hx hb dX11_hasBit_13 (by decide) ?_
      refine lv_iand hx hb dX11_hasBit_14 ?_
      refine lv_iconst (v := 1) hx hb dX11_hasBit_15 (by decide) ?_
      refine lv_icmp_ne (tgt := 23) hx hb dX11_hasBit_16 (by decide) (fun c3 => ?_) (fun c3 => ?_)
      · have hF := xel hF c3
        refine lv_iconst (v := 0) hx hb dX11_hasBit_23 (by decide) ?_
        cases hF
        exact x_zret (w := 0) C0 hR hS (by decide) dX11_hasBit_24
      · have hF := xif hF c3
        refine lv_iconst (v := 1) hx hb dX11_hasBit_19 (by decide) ?_
        refine lv_goto (tgt := 24) hx hb dX11_hasBit_20 (by decide) ?_
        cases hF
        exact x_zret (w := 1) C0 hR hS (by decide) dX11_hasBit_24
theorem xm_X11_hasBit : xMw yX11_hasBit cX11_hasBit 2 (some .boolean) 2 := ⟨xin 688 (by decide +kernel) rfl, xin 114 (by decide +kernel) rfl, by decide +kernel⟩
theorem xs_X11_hasBit : Cond.static yX11_hasBit ∈ xT := xin 687 (by decide +kernel) rfl
theorem dX6_isIn_0 : decode cX6_isIn 0 = .ok (.aload_n 0, 1) := by decide +kernel
theorem dX6_isIn_1 : decode cX6_isIn 1 = .ok (.getfield 26, 3) := by decide +kernel
theorem dX6_isIn_4 : decode cX6_isIn 4 = .ok (.iload_n 1, 1) := by decide +kernel
theorem dX6_isIn_5 : decode cX6_isIn 5 = .ok (.invokestatic 29, 3) := by decide +kernel
theorem dX6_isIn_8 : decode cX6_isIn 8 = .ok (.ireturn, 1) := by decide +kernel
theorem wl_X6_29 : Cond.methodLinkNest RX6 29 yX11_hasBit "TermShelf" ∈ xNest := xinN 686 (by decide +kernel) rfl
theorem wf_X6_26 : Cond.fieldLink RX6 26 "TermShelf$Standing" "bits" "I" ∈ xT := xin 287 (by decide +kernel) rfl
section XN_X6_isIn
variable {p : Program} {l : Launch} {e : Env} {R : Room} {s : State} {m : MethodId} {args : Array Value} {below : List Frame} {meth : Method} {c : Code} {H H0 : Heap} {locs : List Loc} {cells slots : Nat} {Q : State → Prop} {cc : ByteArray} {nL pc : Nat} {rt : Option FieldType} {ls : Array Slot} {rest : List Value} {D : xD} {ty : xTy} {h : xH}
theorem cl_X6_29 {v0 : Int32} {v1 : Int32} {r : Int32} (C0 : xC D RX6 cc nL rt p s m args meth c) (hR : xRep D ty h H) (hS : xS ty H0 H locs) (hF : jf_X11_hasBit v0 v1 = some r) (hrm : jr_X11_hasBit.frames + 1 ≤ R.frames ∧ 8 + (2 + 11) + jr_X11_hasBit.locals ≤ R.locals) (hsz : ls.size = nL) (hW : (rest.map fun v => v.category).sum ≤ 8) (hf : cells ≤ R.cells ∧ slots ≤ R.slots) (hdg : decode cc pc = .ok (.invokestatic 29, 3)) (kk : ∀ (H1 : Heap) (locs1 : List Loc), xRep D ty h H1 → xS ty H0 H1 locs1 → W p l e R s m args below meth c H1 locs1 cells slots Q (F0 m (pc + 3) ls (.int r :: rest))) : W p l e R s m args below meth c H locs cells slots Q (F0 m pc ls (.int v1 :: .int v0 :: rest)) := x_callSN C0 (jc_X11_hasBit  hF) xm_X11_hasBit xs_X11_hasBit wl_X6_29 ⟨rfl, rfl, hrm⟩ hR hS (As := [.int v0, .int v1]) rfl hsz rfl hW hdg hf kk
theorem gf_X6_26 {a : Nat} (C0 : xC D RX6 cc nL rt p s m args meth c) (hR : xRep D ty h H) (ht : ty a = some (0, 6)) (hdg : decode cc pc = .ok (.getfield 26, 3)) (kk : W p l e R s m args below meth c H locs cells slots Q (F0 m (pc + 3) ls (.int (xI h a 4) :: rest))) : W p l e R s m args below meth c H locs cells slots Q (F0 m pc ls (.ref a :: rest)) := x_get C0 hR (ci := 6) (k := 4) (N := 5) (T := TX6) rfl iX6 (by decide) rfl wf_X6_26 rfl ht hdg kk
end XN_X6_isIn
set_option maxHeartbeats 4000000 in
set_option maxRecDepth 100000 in
theorem jc_X6_isIn {l : Launch} {D : xD} {ty : xTy} {h : xH} {v0 : Nat} {v1 : Int32} {r : Int32} (t_v0 : ty v0 = some (0, 6)) (hF : jf_X6_isIn ty h v0 v1 = some r) : Met l yX6_isIn (xws yX6_isIn cX6_isIn 2 (some .boolean)) jr_X6_isIn (xPc D ty h [.ref v0, .int v1]) (xQ D ty (some (.int r)) h) 0 0 (xdom ty) := by
  refine x_met (by decide) ?_
  intro p e s m below meth c C0 hR
  generalize hargs : ([.ref v0, .int v1] : List Value).toArray = args at C0 ⊢
  have hx := C0.1
  have hb := C0.2.1
  have hown := C0.2.2.2.2.2.1
  have hts := C0.2.2.2.2.2.2.1
  have hS : xS ty s.heap s.heap [] := xS.rf
  have hl := lv_entry ([.ref v0, .int v1]) (n := 2) (Nat.le_of_ble_eq_true rfl)
  rw [← hargs, lg_entry_eq]
  rw [hargs]
  generalize (lg_sl ([.ref v0, .int v1]) ++ List.replicate (2 - (lg_sl ([.ref v0, .int v1])).length) Slot.unset).toArray = ls at hl ⊢
  have hl : lv_has ls 2 [(0, .ref v0), (1, .int v1)] := hl
  unfold jf_X6_isIn at hF
  refine lv_aload_n hx hb dX6_isIn_0 rfl (lv_at hl 0 rfl) ?_
  refine gf_X6_26 C0 hR t_v0 dX6_isIn_1 ?_
  refine lv_iload_n hx hb dX6_isIn_4 rfl (lv_at hl 1 rfl) ?_
  obtain ⟨a1, e_a1, hF⟩ := xbd hF
  refine cl_X6_29 C0 hR hS e_a1  ⟨(Nat.le_of_ble_eq_true rfl), (Nat.le_of_ble_eq_true rfl)⟩ hl.1 (Nat.le_of_ble_eq_true rfl) ⟨(Nat.le_of_ble_eq_true rfl), (Nat.le_of_ble_eq_true rfl)⟩ dX6_isIn_5 (fun H locs hR hS => ?_)
  exact x_zret C0 hR hS hF dX6_isIn_8
theorem xm_X6_isIn : xMw yX6_isIn cX6_isIn 2 (some .boolean) 1 := ⟨xin 685 (by decide +kernel) rfl, xin 119 (by decide +kernel) rfl, by decide +kernel⟩
theorem xi_X6_isIn : Cond.instanceMethod yX6_isIn ∈ xT := xin 683 (by decide +kernel) rfl
theorem xe_X6_isIn : Cond.selects yX6_isIn.cls yX6_isIn yX6_isIn ∈ xT := xin 684 (by decide +kernel) rfl
theorem dX5_ruleFor_0 : decode cX5_ruleFor 0 = .ok (.iconst 0, 1) := by decide +kernel
theorem dX5_ruleFor_1 : decode cX5_ruleFor 1 = .ok (.istore 4, 2) := by decide +kernel
theorem dX5_ruleFor_3 : decode cX5_ruleFor 3 = .ok (.iload 4, 2) := by decide +kernel
theorem dX5_ruleFor_5 : decode cX5_ruleFor 5 = .ok (.aload_n 1, 1) := by decide +kernel
theorem dX5_ruleFor_6 : decode cX5_ruleFor 6 = .ok (.getfield 62, 3) := by decide +kernel
theorem dX5_ruleFor_9 : decode cX5_ruleFor 9 = .ok (.if_icmp .ge 54, 3) := by decide +kernel
theorem dX5_ruleFor_12 : decode cX5_ruleFor 12 = .ok (.aload_n 2, 1) := by decide +kernel
theorem dX5_ruleFor_13 : decode cX5_ruleFor 13 = .ok (.iload 4, 2) := by decide +kernel
theorem dX5_ruleFor_15 : decode cX5_ruleFor 15 = .ok (.invokevirtual 65, 3) := by decide +kernel
theorem dX5_ruleFor_18 : decode cX5_ruleFor 18 = .ok (.ifCond .eq 39, 3) := by decide +kernel
theorem dX5_ruleFor_21 : decode cX5_ruleFor 21 = .ok (.aload_n 1, 1) := by decide +kernel
theorem dX5_ruleFor_22 : decode cX5_ruleFor 22 = .ok (.iload 4, 2) := by decide +kernel
theorem dX5_ruleFor_24 : decode cX5_ruleFor 24 = .ok (.invokevirtual 52, 3) := by decide +kernel
theorem dX5_ruleFor_27 : decode cX5_ruleFor 27 = .ok (.getfield 45, 3) := by decide +kernel
theorem dX5_ruleFor_30 : decode cX5_ruleFor 30 = .ok (.ifCond .le 27, 3) := by decide +kernel
theorem dX5_ruleFor_33 : decode cX5_ruleFor 33 = .ok (.aload_n 0, 1) := by decide +kernel
theorem dX5_ruleFor_34 : decode cX5_ruleFor 34 = .ok (.getfield 12, 3) := by decide +kernel
theorem dX5_ruleFor_37 : decode cX5_ruleFor 37 = .ok (.aload_n 1, 1) := by decide +kernel
theorem dX5_ruleFor_38 : decode cX5_ruleFor 38 = .ok (.iload 4, 2) := by decide +kernel
theorem dX5_ruleFor_40 : decode cX5_ruleFor 40 = .ok (.invokevirtual 71, 3) := by decide +kernel
theorem dX5_ruleFor_43 : decode cX5_ruleFor 43 = .ok (.aload_n 0, 1) := by decide +kernel
theorem dX5_ruleFor_44 : decode cX5_ruleFor 44 = .ok (.getfield 27, 3) := by decide +kernel
theorem dX5_ruleFor_47 : decode cX5_ruleFor 47 = .ok (.iload_n 3, 1) := by decide +kernel
theorem dX5_ruleFor_48 : decode cX5_ruleFor 48 = .ok (.invokevirtual 74, 3) := by decide +kernel
theorem dX5_ruleFor_51 : decode cX5_ruleFor 51 = .ok (.ifCond .eq 6, 3) := by decide +kernel
theorem dX5_ruleFor_54 : decode cX5_ruleFor 54 = .ok (.iload 4, 2) := by decide +kernel
theorem dX5_ruleFor_56 : decode cX5_ruleFor 56 = .ok (.ireturn, 1) := by decide +kernel
theorem dX5_ruleFor_57 : decode cX5_ruleFor 57 = .ok (.iinc 4 1, 3) := by decide +kernel
theorem dX5_ruleFor_60 : decode cX5_ruleFor 60 = .ok (.goto (-57), 3) := by decide +kernel
theorem dX5_ruleFor_63 : decode cX5_ruleFor 63 = .ok (.iconst (-1), 1) := by decide +kernel
theorem dX5_ruleFor_64 : decode cX5_ruleFor 64 = .ok (.ireturn, 1) := by decide +kernel
theorem wl_X5_52 : Cond.methodLink RX5 52 yX0_rightOf ∈ xT := xin 1056 (by decide +kernel) rfl
theorem wl_X5_65 : Cond.methodLink RX5 65 yX6_isIn ∈ xT := xin 1055 (by decide +kernel) rfl
theorem wl_X5_71 : Cond.methodLink RX5 71 yX0_termOf ∈ xT := xin 1057 (by decide +kernel) rfl
theorem wl_X5_74 : Cond.methodLink RX5 74 yX3_matches ∈ xT := xin 1058 (by decide +kernel) rfl
theorem wf_X5_12 : Cond.fieldLink RX5 12 "TermShelf$Rewriter" "matcher" "LTermShelf$Matcher;" ∈ xT := xin 429 (by decide +kernel) rfl
theorem wf_X5_27 : Cond.fieldLink RX5 27 "TermShelf$Rewriter" "now" "LTermShelf$Term;" ∈ xT := xin 431 (by decide +kernel) rfl
theorem wf_X5_45 : Cond.fieldLink RX5 45 "TermShelf$Term" "size" "I" ∈ xT := xin 160 (by decide +kernel) rfl
theorem wf_X5_62 : Cond.fieldLink RX5 62 "TermShelf$Book" "ruleCount" "I" ∈ xT := xin 193 (by decide +kernel) rfl
section XN_X5_ruleFor
variable {p : Program} {l : Launch} {e : Env} {R : Room} {s : State} {m : MethodId} {args : Array Value} {below : List Frame} {meth : Method} {c : Code} {H H0 : Heap} {locs : List Loc} {cells slots : Nat} {Q : State → Prop} {cc : ByteArray} {nL pc : Nat} {rt : Option FieldType} {ls : Array Slot} {rest : List Value} {D : xD} {ty : xTy} {h : xH}
theorem cl_X5_52 {v0 : Nat} {v1 : Int32} {r : Nat} (C0 : xC D RX5 cc nL rt p s m args meth c) (hR : xRep D ty h H) (hS : xS ty H0 H locs) (hF : jf_X0_rightOf ty h v0 v1 = some r) (t_v0 : ty v0 = some (0, 0)) (hrm : jr_X0_rightOf.frames + 1 ≤ R.frames ∧ 8 + (2 + 11) + jr_X0_rightOf.locals ≤ R.locals) (hsz : ls.size = nL) (hW : (rest.map fun v => v.category).sum ≤ 8) (hf : cells ≤ R.cells ∧ slots ≤ R.slots) (hdg : decode cc pc = .ok (.invokevirtual 52, 3)) (kk : ∀ (H1 : Heap) (locs1 : List Loc), xRep D ty h H1 → xS ty H0 H1 locs1 → W p l e R s m args below meth c H1 locs1 cells slots Q (F0 m (pc + 3) ls (.ref r :: rest))) : W p l e R s m args below meth c H locs cells slots Q (F0 m pc ls (.int v1 :: .ref v0 :: rest)) := x_callV C0 (jc_X0_rightOf t_v0 hF) xm_X0_rightOf xi_X0_rightOf xe_X0_rightOf wl_X5_52 ⟨rfl, rfl, hrm⟩ (ci := 0) rfl t_v0 hR hS (As := [.int v1]) rfl hsz rfl hW hdg hf kk
theorem cl_X5_65 {v0 : Nat} {v1 : Int32} {r : Int32} (C0 : xC D RX5 cc nL rt p s m args meth c) (hR : xRep D ty h H) (hS : xS ty H0 H locs) (hF : jf_X6_isIn ty h v0 v1 = some r) (t_v0 : ty v0 = some (0, 6)) (hrm : jr_X6_isIn.frames + 1 ≤ R.frames ∧ 8 + (2 + 11) + jr_X6_isIn.locals ≤ R.locals) (hsz : ls.size = nL) (hW : (rest.map fun v => v.category).sum ≤ 8) (hf : cells ≤ R.cells ∧ slots ≤ R.slots) (hdg : decode cc pc = .ok (.invokevirtual 65, 3)) (kk : ∀ (H1 : Heap) (locs1 : List Loc), xRep D ty h H1 → xS ty H0 H1 locs1 → W p l e R s m args below meth c H1 locs1 cells slots Q (F0 m (pc + 3) ls (.int r :: rest))) : W p l e R s m args below meth c H locs cells slots Q (F0 m pc ls (.int v1 :: .ref v0 :: rest)) := x_callV C0 (jc_X6_isIn t_v0 hF) xm_X6_isIn xi_X6_isIn xe_X6_isIn wl_X5_65 ⟨rfl, rfl, hrm⟩ (ci := 6) rfl t_v0 hR hS (As := [.int v1]) rfl hsz rfl hW hdg hf kk
theorem cl_X5_71 {v0 : Nat} {v1 : Int32} {r : Nat} (C0 : xC D RX5 cc nL rt p s m args meth c) (hR : xRep D ty h H) (hS : xS ty H0 H locs) (hF : jf_X0_termOf ty h v0 v1 = some r) (t_v0 : ty v0 = some (0, 0)) (hrm : jr_X0_termOf.frames + 1 ≤ R.frames ∧ 8 + (2 + 11) + jr_X0_termOf.locals ≤ R.locals) (hsz : ls.size = nL) (hW : (rest.map fun v => v.category).sum ≤ 8) (hf : cells ≤ R.cells ∧ slots ≤ R.slots) (hdg : decode cc pc = .ok (.invokevirtual 71, 3)) (kk : ∀ (H1 : Heap) (locs1 : List Loc), xRep D ty h H1 → xS ty H0 H1 locs1 → W p l e R s m args below meth c H1 locs1 cells slots Q (F0 m (pc + 3) ls (.ref r :: rest))) : W p l e R s m args below meth c H locs cells slots Q (F0 m pc ls (.int v1 :: .ref v0 :: rest)) := x_callV C0 (jc_X0_termOf t_v0 hF) xm_X0_termOf xi_X0_termOf xe_X0_termOf wl_X5_71 ⟨rfl, rfl, hrm⟩ (ci := 0) rfl t_v0 hR hS (As := [.int v1]) rfl hsz rfl hW hdg hf kk
theorem cl_X5_74 {v0 : Nat} {v1 : Nat} {v2 : Nat} {v3 : Int32} {r : Int32} {h9 : xH} (C0 : xC D RX5 cc nL rt p s m args meth c) (hR : xRep D ty h H) (hS : xS ty H0 H locs) (hF : jf_X3_matches ty h v0 v1 v2 v3 = some (r, h9)) (t_v0 : ty v0 = some (0, 3)) (t_v1 : ty v1 = some (0, 7)) (t_v2 : ty v2 = some (0, 7)) (hrm : jr_X3_matches.frames + 1 ≤ R.frames ∧ 8 + (7 + 11) + jr_X3_matches.locals ≤ R.locals) (hsz : ls.size = nL) (hW : (rest.map fun v => v.category).sum ≤ 8) (hf : cells ≤ R.cells ∧ slots ≤ R.slots) (hdg : decode cc pc = .ok (.invokevirtual 74, 3)) (kk : ∀ (H1 : Heap) (locs1 : List Loc), xRep D ty h9 H1 → xS ty H0 H1 locs1 → W p l e R s m args below meth c H1 locs1 cells slots Q (F0 m (pc + 3) ls (.int r :: rest))) : W p l e R s m args below meth c H locs cells slots Q (F0 m pc ls (.int v3 :: .ref v2 :: .ref v1 :: .ref v0 :: rest)) := x_callV C0 (jc_X3_matches t_v0 t_v1 t_v2 hF) xm_X3_matches xi_X3_matches xe_X3_matches wl_X5_74 ⟨rfl, rfl, hrm⟩ (ci := 3) rfl t_v0 hR hS (As := [.ref v1, .ref v2, .int v3]) rfl hsz rfl hW hdg hf kk
theorem gf_X5_12 {a : Nat} (C0 : xC D RX5 cc nL rt p s m args meth c) (hR : xRep D ty h H) (ht : ty a = some (0, 5)) {v : Nat} (hv : xR h a 0 = some v) (hdg : decode cc pc = .ok (.getfield 12, 3)) (kk : W p l e R s m args below meth c H locs cells slots Q (F0 m (pc + 3) ls (.ref v :: rest))) : W p l e R s m args below meth c H locs cells slots Q (F0 m pc ls (.ref a :: rest)) := x_get C0 hR (ci := 5) (k := 0) (N := 5) (T := TX5) rfl iX5 (by decide) rfl wf_X5_12 (by show va_rf (xR h a 0) = _; rw [hv]; rfl) ht hdg kk
theorem gf_X5_27 {a : Nat} (C0 : xC D RX5 cc nL rt p s m args meth c) (hR : xRep D ty h H) (ht : ty a = some (0, 5)) {v : Nat} (hv : xR h a 2 = some v) (hdg : decode cc pc = .ok (.getfield 27, 3)) (kk : W p l e R s m args below meth c H locs cells slots Q (F0 m (pc + 3) ls (.ref v :: rest))) : W p l e R s m args below meth c H locs cells slots Q (F0 m pc ls (.ref a :: rest)) := x_get C0 hR (ci := 5) (k := 2) (N := 5) (T := TX5) rfl iX5 (by decide) rfl wf_X5_27 (by show va_rf (xR h a 2) = _; rw [hv]; rfl) ht hdg kk
theorem gf_X5_45 {a : Nat} (C0 : xC D RX5 cc nL rt p s m args meth c) (hR : xRep D ty h H) (ht : ty a = some (0, 7)) (hdg : decode cc pc = .ok (.getfield 45, 3)) (kk : W p l e R s m args below meth c H locs cells slots Q (F0 m (pc + 3) ls (.int (xI h a 2) :: rest))) : W p l e R s m args below meth c H locs cells slots Q (F0 m pc ls (.ref a :: rest)) := x_get C0 hR (ci := 7) (k := 2) (N := 3) (T := TX7) rfl iX7 (by decide) rfl wf_X5_45 rfl ht hdg kk
theorem gf_X5_62 {a : Nat} (C0 : xC D RX5 cc nL rt p s m args meth c) (hR : xRep D ty h H) (ht : ty a = some (0, 0)) (hdg : decode cc pc = .ok (.getfield 62, 3)) (kk : W p l e R s m args below meth c H locs cells slots Q (F0 m (pc + 3) ls (.int (xI h a 9) :: rest))) : W p l e R s m args below meth c H locs cells slots Q (F0 m pc ls (.ref a :: rest)) := x_get C0 hR (ci := 0) (k := 9) (N := 10) (T := TX0) rfl iX0 (by decide) rfl wf_X5_62 rfl ht hdg kk
end XN_X5_ruleFor
set_option maxHeartbeats 4000000 in
set_option maxRecDepth 100000 in
theorem jw_X5_ruleFor_3 {p : Program} {l : Launch} {e : Env} {s : State} {m : MethodId} {args : Array Value} {below : List Frame} {meth : Method} {c : Code} {D : xD} {ty : xTy} (C0 : xC D RX5 cX5_ruleFor 5 (some .int) p s m args meth c) {r : Int32} {h9 : xH} : ∀ n : Nat, ∀ (v0 : Nat) (v1 : Nat) (v2 : Nat) (v3 : Int32) (v4 : Int32) (h : xH), ty v0 = some (0, 5) → ty v1 = some (0, 0) → ty v2 = some (0, 6) → jf_X5_ruleFor_3 ty n v0 v1 v2 v3 v4 h = some (r, h9) → ∀ (H : Heap) (locs : List Loc), xRep D ty h H → xS ty s.heap H locs → ∀ ls : Array Slot, lv_has ls 5 [(0, .ref v0), (1, .ref v1), (2, .ref v2), (3, .int v3), (4, .int v4)] → W p l e jr_X5_ruleFor s m args below meth c H locs 0 0 (MQ below (xQ D ty (some (.int r)) h9) args s 0 0 (xdom ty)) (F0 m 3 ls []) := by
  have hx := C0.1
  have hb := C0.2.1
  have hown := C0.2.2.2.2.2.1
  have hts := C0.2.2.2.2.2.2.1
  intro n
  induction n with
  | zero =>
    intro v0 v1 v2 v3 v4 h t_v0 t_v1 t_v2 hF H locs hR hS ls hl
    cases hF
  | succ n ih =>
    intro v0 v1 v2 v3 v4 h t_v0 t_v1 t_v2 hF H locs hR hS ls hl
    rw [jf_X5_ruleFor_3_s] at hF
    refine lv_iload hx hb dX5_ruleFor_3 (lv_at hl 4 rfl) ?_
    refine lv_aload_n hx hb dX5_ruleFor_5 rfl (lv_at hl 1 rfl) ?_
    refine gf_X5_62 C0 hR t_v1 dX5_ruleFor_6 ?_
    refine lv_icmp_ge (tgt := 63) hx hb dX5_ruleFor_9 (by decide) (fun c1 => ?_) (fun c1 => ?_)
    · have hF := xif hF c1
      refine lv_iconst (v := (-1)) hx hb dX5_ruleFor_63 (by decide) ?_
      cases hF
      exact x_iret C0 hR hS dX5_ruleFor_64
    · have hF := xel hF c1
      refine lv_aload_n hx hb dX5_ruleFor_12 rfl (lv_at hl 2 rfl) ?_
      refine lv_iload hx hb dX5_ruleFor_13 (lv_at hl 4 rfl) ?_
      obtain ⟨a2, e_a2, hF⟩ := xbd hF
      refine cl_X5_65 C0 hR hS e_a2 t_v2 ⟨(Nat.le_of_ble_eq_true rfl), (Nat.le_of_ble_eq_true rfl)⟩ hl.1 (Nat.le_of_ble_eq_true rfl) ⟨(Nat.le_of_ble_eq_true rfl), (Nat.le_of_ble_eq_true rfl)⟩ dX5_ruleFor_15 (fun H locs hR hS => ?_)
      refine lv_if_eq (tgt := 57) hx hb dX5_ruleFor_18 (by decide) (fun c3 => ?_) (fun c3 => ?_)
      · have hF := xif hF c3
        refine lv_iinc (v := v4 + 1) (lv' := [(4, .int (v4 + 1)), (0, .ref v0), (1, .ref v1), (2, .ref v2), (3, .int v3)]) hx hb dX5_ruleFor_57 hl (k := 4) rfl rfl (by decide) rfl (fun ls hl => ?_)
        refine lv_goto (tgt := 3) hx hb dX5_ruleFor_60 (by decide) ?_
        exact ih _ _ _ _ _ _ t_v0 t_v1 t_v2 hF _ _ hR hS _ (lv_sub hl [1, 2, 3, 4, 0] rfl)
      · have hF := xel hF c3
        refine lv_aload_n hx hb dX5_ruleFor_21 rfl (lv_at hl 1 rfl) ?_
        refine lv_iload hx hb dX5_ruleFor_22 (lv_at hl 4 rfl) ?_
        obtain ⟨a4, e_a4, hF⟩ := xbd hF
        obtain ⟨u5, e_u5, hF⟩ := xbd hF
        have t_a4 := xck_sp e_u5
        refine cl_X5_52 C0 hR hS e_a4 t_v1 ⟨(Nat.le_of_ble_eq_true rfl), (Nat.le_of_ble_eq_true rfl)⟩ hl.1 (Nat.le_of_ble_eq_true rfl) ⟨(Nat.le_of_ble_eq_true rfl), (Nat.le_of_ble_eq_true rfl)⟩ dX5_ruleFor_24 (fun H locs hR hS => ?_)
        refine gf_X5_45 C0 hR t_a4 dX5_ruleFor_27 ?_
        refine lv_if_le (tgt := 57) hx hb dX5_ruleFor_30 (by decide) (fun c6 => ?_) (fun c6 => ?_)
        · have hF := xif hF c6
          refine lv_iinc (v := v4 + 1) (lv' := [(4, .int (v4 + 1)), (0, .ref v0), (1, .ref v1), (2, .ref v2), (3, .int v3)]) hx hb dX5_ruleFor_57 hl (k := 4) rfl rfl (by decide) rfl (fun ls hl => ?_)
          refine lv_goto (tgt := 3) hx hb dX5_ruleFor_60 (by decide) ?_
          exact ih _ _ _ _ _ _ t_v0 t_v1 t_v2 hF _ _ hR hS _ (lv_sub hl [1, 2, 3, 4, 0] rfl)
        · have hF := xel hF c6
          refine lv_aload_n hx hb dX5_ruleFor_33 rfl (lv_at hl 0 rfl) ?_
          obtain ⟨a7, e_a7, hF⟩ := xbd hF
          obtain ⟨e_a7, t_a7⟩ := xgo_sp e_a7
          refine gf_X5_12 C0 hR t_v0 e_a7 dX5_ruleFor_34 ?_
          refine lv_aload_n hx hb dX5_ruleFor_37 rfl (lv_at hl 1 rfl) ?_
          refine lv_iload hx hb dX5_ruleFor_38 (lv_at hl 4 rfl) ?_
          obtain ⟨a8, e_a8, hF⟩ := xbd hF
          obtain ⟨u9, e_u9, hF⟩ := xbd hF
          have t_a8 := xck_sp e_u9
          refine cl_X5_71 C0 hR hS e_a8 t_v1 ⟨(Nat.le_of_ble_eq_true rfl), (Nat.le_of_ble_eq_true rfl)⟩ hl.1 (Nat.le_of_ble_eq_true rfl) ⟨(Nat.le_of_ble_eq_true rfl), (Nat.le_of_ble_eq_true rfl)⟩ dX5_ruleFor_40 (fun H locs hR hS => ?_)
          refine lv_aload_n hx hb dX5_ruleFor_43 rfl (lv_at hl 0 rfl) ?_
          obtain ⟨a10, e_a10, hF⟩ := xbd hF
          obtain ⟨e_a10, t_a10⟩ := xgo_sp e_a10
          refine gf_X5_27 C0 hR t_v0 e_a10 dX5_ruleFor_44 ?_
          refine lv_iload_n hx hb dX5_ruleFor_47 rfl (lv_at hl 3 rfl) ?_
          obtain ⟨a12, h11, e_h11, hF⟩ := xbd2 hF
          refine cl_X5_74 C0 hR hS e_h11 t_a7 t_a8 t_a10 ⟨(Nat.le_of_ble_eq_true rfl), (Nat.le_of_ble_eq_true rfl)⟩ hl.1 (Nat.le_of_ble_eq_true rfl) ⟨(Nat.le_of_ble_eq_true rfl), (Nat.le_of_ble_eq_true rfl)⟩ dX5_ruleFor_48 (fun H locs hR hS => ?_)
          refine lv_if_eq (tgt := 57) hx hb dX5_ruleFor_51 (by decide) (fun c13 => ?_) (fun c13 => ?_)
          · have hF := xif hF c13
            refine lv_iinc (v := v4 + 1) (lv' := [(4, .int (v4 + 1)), (0, .ref v0), (1, .ref v1), (2, .ref v2), (3, .int v3)]) hx hb dX5_ruleFor_57 hl (k := 4) rfl rfl (by decide) rfl (fun ls hl => ?_)
            refine lv_goto (tgt := 3) hx hb dX5_ruleFor_60 (by decide) ?_
            exact ih _ _ _ _ _ _ t_v0 t_v1 t_v2 hF _ _ hR hS _ (lv_sub hl [1, 2, 3, 4, 0] rfl)
          · have hF := xel hF c13
            refine lv_iload hx hb dX5_ruleFor_54 (lv_at hl 4 rfl) ?_
            cases hF
            exact x_iret C0 hR hS dX5_ruleFor_56
set_option maxHeartbeats 4000000 in
set_option maxRecDepth 100000 in
theorem jc_X5_ruleFor {l : Launch} {D : xD} {ty : xTy} {h : xH} {v0 : Nat} {v1 : Nat} {v2 : Nat} {v3 : Int32} {r : Int32} {h9 : xH} (t_v0 : ty v0 = some (0, 5)) (t_v1 : ty v1 = some (0, 0)) (t_v2 : ty v2 = some (0, 6)) (hF : jf_X5_ruleFor ty h v0 v1 v2 v3 = some (r, h9)) : Met l yX5_ruleFor (xws yX5_ruleFor cX5_ruleFor 5 (some .int)) jr_X5_ruleFor (xPc D ty h [.ref v0, .ref v1, .ref v2, .int v3]) (xQ D ty (some (.int r)) h9) 0 0 (xdom ty) := by
  refine x_met (by decide) ?_
  intro p e s m below meth c C0 hR
  generalize hargs : ([.ref v0, .ref v1, .ref v2, .int v3] : List Value).toArray = args at C0 ⊢
  have hx := C0.1
  have hb := C0.2.1
  have hown := C0.2.2.2.2.2.1
  have hts := C0.2.2.2.2.2.2.1
  have hS : xS ty s.heap s.heap [] := xS.rf
  have hl := lv_entry ([.ref v0, .ref v1, .ref v2, .int v3]) (n := 5) (Nat.le_of_ble_eq_true rfl)
  rw [← hargs, lg_entry_eq]
  rw [hargs]
  generalize (lg_sl ([.ref v0, .ref v1, .ref v2, .int v3]) ++ List.replicate (5 - (lg_sl ([.ref v0, .ref v1, .ref v2, .int v3])).length) Slot.unset).toArray = ls at hl ⊢
  have hl : lv_has ls 5 [(0, .ref v0), (1, .ref v1), (2, .ref v2), (3, .int v3)] := hl
  unfold jf_X5_ruleFor at hF
  refine lv_iconst (v := 0) hx hb dX5_ruleFor_0 (by decide) ?_
  refine lv_istore (lv' := [(4, .int 0), (0, .ref v0), (1, .ref v1), (2, .ref v2), (3, .int v3)]) hx hb dX5_ruleFor_1 hl (by decide) rfl (fun ls hl => ?_)
  obtain ⟨_, hF⟩ := xlim_sp hF
  exact jw_X5_ruleFor_3 C0 _ _ _ _ _ _ _ t_v0 t_v1 t_v2 hF _ _ hR hS _ (lv_sub hl [1, 2, 3, 4, 0] rfl)
theorem xm_X5_ruleFor : xMw yX5_ruleFor cX5_ruleFor 5 (some .int) 3 := ⟨xin 1054 (by decide +kernel) rfl, xin 124 (by decide +kernel) rfl, by decide +kernel⟩
theorem xi_X5_ruleFor : Cond.instanceMethod yX5_ruleFor ∈ xT := xin 1053 (by decide +kernel) rfl
theorem xe_X5_ruleFor : Cond.selects yX5_ruleFor.cls yX5_ruleFor yX5_ruleFor ∈ xT := xin 45 (by decide +kernel) rfl
theorem dX5_addFilled_0 : decode cX5_addFilled 0 = .ok (.aload_n 1, 1) := by decide +kernel
theorem dX5_addFilled_1 : decode cX5_addFilled 1 = .ok (.iload_n 2, 1) := by decide +kernel
theorem dX5_addFilled_2 : decode cX5_addFilled 2 = .ok (.invokevirtual 93, 3) := by decide +kernel
theorem dX5_addFilled_5 : decode cX5_addFilled 5 = .ok (.istore_n 3, 1) := by decide +kernel
theorem dX5_addFilled_6 : decode cX5_addFilled 6 = .ok (.iload_n 3, 1) := by decide +kernel
theorem dX5_addFilled_7 : decode cX5_addFilled 7 = .ok (.bipush 100, 2) := by decide +kernel
theorem dX5_addFilled_9 : decode cX5_addFilled 9 = .ok (.if_icmp .ge 17, 3) := by decide +kernel
theorem dX5_addFilled_12 : decode cX5_addFilled 12 = .ok (.aload_n 0, 1) := by decide +kernel
theorem dX5_addFilled_13 : decode cX5_addFilled 13 = .ok (.getfield 23, 3) := by decide +kernel
theorem dX5_addFilled_16 : decode cX5_addFilled 16 = .ok (.iload_n 3, 1) := by decide +kernel
theorem dX5_addFilled_17 : decode cX5_addFilled 17 = .ok (.aload_n 1, 1) := by decide +kernel
theorem dX5_addFilled_18 : decode cX5_addFilled 18 = .ok (.iload_n 2, 1) := by decide +kernel
theorem dX5_addFilled_19 : decode cX5_addFilled 19 = .ok (.invokevirtual 96, 3) := by decide +kernel
theorem dX5_addFilled_22 : decode cX5_addFilled 22 = .ok (.invokevirtual 99, 3) := by decide +kernel
theorem dX5_addFilled_25 : decode cX5_addFilled 25 = .ok (.ireturn, 1) := by decide +kernel
theorem dX5_addFilled_26 : decode cX5_addFilled 26 = .ok (.aload_n 0, 1) := by decide +kernel
theorem dX5_addFilled_27 : decode cX5_addFilled 27 = .ok (.getfield 12, 3) := by decide +kernel
theorem dX5_addFilled_30 : decode cX5_addFilled 30 = .ok (.iload_n 3, 1) := by decide +kernel
theorem dX5_addFilled_31 : decode cX5_addFilled 31 = .ok (.bipush 100, 2) := by decide +kernel
theorem dX5_addFilled_33 : decode cX5_addFilled 33 = .ok (.isub, 1) := by decide +kernel
theorem dX5_addFilled_34 : decode cX5_addFilled 34 = .ok (.invokevirtual 103, 3) := by decide +kernel
theorem dX5_addFilled_37 : decode cX5_addFilled 37 = .ok (.istore 4, 2) := by decide +kernel
theorem dX5_addFilled_39 : decode cX5_addFilled 39 = .ok (.iload 4, 2) := by decide +kernel
theorem dX5_addFilled_41 : decode cX5_addFilled 41 = .ok (.ifCond .lt 32, 3) := by decide +kernel
theorem dX5_addFilled_44 : decode cX5_addFilled 44 = .ok (.aload_n 0, 1) := by decide +kernel
theorem dX5_addFilled_45 : decode cX5_addFilled 45 = .ok (.getfield 23, 3) := by decide +kernel
theorem dX5_addFilled_48 : decode cX5_addFilled 48 = .ok (.aload_n 0, 1) := by decide +kernel
theorem dX5_addFilled_49 : decode cX5_addFilled 49 = .ok (.getfield 27, 3) := by decide +kernel
theorem dX5_addFilled_52 : decode cX5_addFilled 52 = .ok (.iload 4, 2) := by decide +kernel
theorem dX5_addFilled_54 : decode cX5_addFilled 54 = .ok (.aload_n 0, 1) := by decide +kernel
theorem dX5_addFilled_55 : decode cX5_addFilled 55 = .ok (.getfield 27, 3) := by decide +kernel
theorem dX5_addFilled_58 : decode cX5_addFilled 58 = .ok (.iload 4, 2) := by decide +kernel
theorem dX5_addFilled_60 : decode cX5_addFilled 60 = .ok (.invokevirtual 89, 3) := by decide +kernel
theorem dX5_addFilled_63 : decode cX5_addFilled 63 = .ok (.invokevirtual 81, 3) := by decide +kernel
theorem dX5_addFilled_66 : decode cX5_addFilled 66 = .ok (.ifCond .eq 7, 3) := by decide +kernel
theorem dX5_addFilled_69 : decode cX5_addFilled 69 = .ok (.iconst 1, 1) := by decide +kernel
theorem dX5_addFilled_70 : decode cX5_addFilled 70 = .ok (.goto 4, 3) := by decide +kernel
theorem dX5_addFilled_73 : decode cX5_addFilled 73 = .ok (.iconst 0, 1) := by decide +kernel
theorem dX5_addFilled_74 : decode cX5_addFilled 74 = .ok (.ireturn, 1) := by decide +kernel
theorem wl_X5_103 : Cond.methodLink RX5 103 yX3_startOf ∈ xT := xin 1072 (by decide +kernel) rfl
theorem wl_X5_81 : Cond.methodLink RX5 81 yX7_addPart ∈ xT := xin 1064 (by decide +kernel) rfl
theorem wl_X5_89 : Cond.methodLink RX5 89 yX7_behind ∈ xT := xin 1073 (by decide +kernel) rfl
theorem wl_X5_93 : Cond.methodLink RX5 93 yX7_codeAt ∈ xT := xin 1069 (by decide +kernel) rfl
theorem wl_X5_96 : Cond.methodLink RX5 96 yX7_arityAt ∈ xT := xin 1070 (by decide +kernel) rfl
theorem wl_X5_99 : Cond.methodLink RX5 99 yX7_add ∈ xT := xin 1071 (by decide +kernel) rfl
theorem wf_X5_23 : Cond.fieldLink RX5 23 "TermShelf$Rewriter" "next" "LTermShelf$Term;" ∈ xT := xin 430 (by decide +kernel) rfl
section XN_X5_addFilled
variable {p : Program} {l : Launch} {e : Env} {R : Room} {s : State} {m : MethodId} {args : Array Value} {below : List Frame} {meth : Method} {c : Code} {H H0 : Heap} {locs : List Loc} {cells slots : Nat} {Q : State → Prop} {cc : ByteArray} {nL pc : Nat} {rt : Option FieldType} {ls : Array Slot} {rest : List Value} {D : xD} {ty : xTy} {h : xH}
theorem cl_X5_103 {v0 : Nat} {v1 : Int32} {r : Int32} (C0 : xC D RX5 cc nL rt p s m args meth c) (hR : xRep D ty h H) (hS : xS ty H0 H locs) (hF : jf_X3_startOf ty h v0 v1 = some r) (t_v0 : ty v0 = some (0, 3)) (hrm : jr_X3_startOf.frames + 1 ≤ R.frames ∧ 8 + (2 + 11) + jr_X3_startOf.locals ≤ R.locals) (hsz : ls.size = nL) (hW : (rest.map fun v => v.category).sum ≤ 8) (hf : cells ≤ R.cells ∧ slots ≤ R.slots) (hdg : decode cc pc = .ok (.invokevirtual 103, 3)) (kk : ∀ (H1 : Heap) (locs1 : List Loc), xRep D ty h H1 → xS ty H0 H1 locs1 → W p l e R s m args below meth c H1 locs1 cells slots Q (F0 m (pc + 3) ls (.int r :: rest))) : W p l e R s m args below meth c H locs cells slots Q (F0 m pc ls (.int v1 :: .ref v0 :: rest)) := x_callV C0 (jc_X3_startOf t_v0 hF) xm_X3_startOf xi_X3_startOf xe_X3_startOf wl_X5_103 ⟨rfl, rfl, hrm⟩ (ci := 3) rfl t_v0 hR hS (As := [.int v1]) rfl hsz rfl hW hdg hf kk
theorem cl_X5_81 {v0 : Nat} {v1 : Nat} {v2 : Int32} {v3 : Int32} {r : Int32} {h9 : xH} (C0 : xC D RX5 cc nL rt p s m args meth c) (hR : xRep D ty h H) (hS : xS ty H0 H locs) (hF : jf_X7_addPart ty h v0 v1 v2 v3 = some (r, h9)) (t_v0 : ty v0 = some (0, 7)) (t_v1 : ty v1 = some (0, 7)) (hrm : jr_X7_addPart.frames + 1 ≤ R.frames ∧ 8 + (5 + 11) + jr_X7_addPart.locals ≤ R.locals) (hsz : ls.size = nL) (hW : (rest.map fun v => v.category).sum ≤ 8) (hf : cells ≤ R.cells ∧ slots ≤ R.slots) (hdg : decode cc pc = .ok (.invokevirtual 81, 3)) (kk : ∀ (H1 : Heap) (locs1 : List Loc), xRep D ty h9 H1 → xS ty H0 H1 locs1 → W p l e R s m args below meth c H1 locs1 cells slots Q (F0 m (pc + 3) ls (.int r :: rest))) : W p l e R s m args below meth c H locs cells slots Q (F0 m pc ls (.int v3 :: .int v2 :: .ref v1 :: .ref v0 :: rest)) := x_callV C0 (jc_X7_addPart t_v0 t_v1 hF) xm_X7_addPart xi_X7_addPart xe_X7_addPart wl_X5_81 ⟨rfl, rfl, hrm⟩ (ci := 7) rfl t_v0 hR hS (As := [.ref v1, .int v2, .int v3]) rfl hsz rfl hW hdg hf kk
theorem cl_X5_89 {v0 : Nat} {v1 : Int32} {r : Int32} (C0 : xC D RX5 cc nL rt p s m args meth c) (hR : xRep D ty h H) (hS : xS ty H0 H locs) (hF : jf_X7_behind ty h v0 v1 = some r) (t_v0 : ty v0 = some (0, 7)) (hrm : jr_X7_behind.frames + 1 ≤ R.frames ∧ 8 + (4 + 11) + jr_X7_behind.locals ≤ R.locals) (hsz : ls.size = nL) (hW : (rest.map fun v => v.category).sum ≤ 8) (hf : cells ≤ R.cells ∧ slots ≤ R.slots) (hdg : decode cc pc = .ok (.invokevirtual 89, 3)) (kk : ∀ (H1 : Heap) (locs1 : List Loc), xRep D ty h H1 → xS ty H0 H1 locs1 → W p l e R s m args below meth c H1 locs1 cells slots Q (F0 m (pc + 3) ls (.int r :: rest))) : W p l e R s m args below meth c H locs cells slots Q (F0 m pc ls (.int v1 :: .ref v0 :: rest)) := x_callV C0 (jc_X7_behind t_v0 hF) xm_X7_behind xi_X7_behind xe_X7_behind wl_X5_89 ⟨rfl, rfl, hrm⟩ (ci := 7) rfl t_v0 hR hS (As := [.int v1]) rfl hsz rfl hW hdg hf kk
theorem cl_X5_93 {v0 : Nat} {v1 : Int32} {r : Int32} (C0 : xC D RX5 cc nL rt p s m args meth c) (hR : xRep D ty h H) (hS : xS ty H0 H locs) (hF : jf_X7_codeAt ty h v0 v1 = some r) (t_v0 : ty v0 = some (0, 7)) (hrm : jr_X7_codeAt.frames + 1 ≤ R.frames ∧ 8 + (2 + 11) + jr_X7_codeAt.locals ≤ R.locals) (hsz : ls.size = nL) (hW : (rest.map fun v => v.category).sum ≤ 8) (hf : cells ≤ R.cells ∧ slots ≤ R.slots) (hdg : decode cc pc = .ok (.invokevirtual 93, 3)) (kk : ∀ (H1 : Heap) (locs1 : List Loc), xRep D ty h H1 → xS ty H0 H1 locs1 → W p l e R s m args below meth c H1 locs1 cells slots Q (F0 m (pc + 3) ls (.int r :: rest))) : W p l e R s m args below meth c H locs cells slots Q (F0 m pc ls (.int v1 :: .ref v0 :: rest)) := x_callV C0 (jc_X7_codeAt t_v0 hF) xm_X7_codeAt xi_X7_codeAt xe_X7_codeAt wl_X5_93 ⟨rfl, rfl, hrm⟩ (ci := 7) rfl t_v0 hR hS (As := [.int v1]) rfl hsz rfl hW hdg hf kk
theorem cl_X5_96 {v0 : Nat} {v1 : Int32} {r : Int32} (C0 : xC D RX5 cc nL rt p s m args meth c) (hR : xRep D ty h H) (hS : xS ty H0 H locs) (hF : jf_X7_arityAt ty h v0 v1 = some r) (t_v0 : ty v0 = some (0, 7)) (hrm : jr_X7_arityAt.frames + 1 ≤ R.frames ∧ 8 + (2 + 11) + jr_X7_arityAt.locals ≤ R.locals) (hsz : ls.size = nL) (hW : (rest.map fun v => v.category).sum ≤ 8) (hf : cells ≤ R.cells ∧ slots ≤ R.slots) (hdg : decode cc pc = .ok (.invokevirtual 96, 3)) (kk : ∀ (H1 : Heap) (locs1 : List Loc), xRep D ty h H1 → xS ty H0 H1 locs1 → W p l e R s m args below meth c H1 locs1 cells slots Q (F0 m (pc + 3) ls (.int r :: rest))) : W p l e R s m args below meth c H locs cells slots Q (F0 m pc ls (.int v1 :: .ref v0 :: rest)) := x_callV C0 (jc_X7_arityAt t_v0 hF) xm_X7_arityAt xi_X7_arityAt xe_X7_arityAt wl_X5_96 ⟨rfl, rfl, hrm⟩ (ci := 7) rfl t_v0 hR hS (As := [.int v1]) rfl hsz rfl hW hdg hf kk
theorem cl_X5_99 {v0 : Nat} {v1 : Int32} {v2 : Int32} {r : Int32} {h9 : xH} (C0 : xC D RX5 cc nL rt p s m args meth c) (hR : xRep D ty h H) (hS : xS ty H0 H locs) (hF : jf_X7_add ty h v0 v1 v2 = some (r, h9)) (t_v0 : ty v0 = some (0, 7)) (hrm : jr_X7_add.frames + 1 ≤ R.frames ∧ 8 + (3 + 11) + jr_X7_add.locals ≤ R.locals) (hsz : ls.size = nL) (hW : (rest.map fun v => v.category).sum ≤ 8) (hf : cells ≤ R.cells ∧ slots ≤ R.slots) (hdg : decode cc pc = .ok (.invokevirtual 99, 3)) (kk : ∀ (H1 : Heap) (locs1 : List Loc), xRep D ty h9 H1 → xS ty H0 H1 locs1 → W p l e R s m args below meth c H1 locs1 cells slots Q (F0 m (pc + 3) ls (.int r :: rest))) : W p l e R s m args below meth c H locs cells slots Q (F0 m pc ls (.int v2 :: .int v1 :: .ref v0 :: rest)) := x_callV C0 (jc_X7_add t_v0 hF) xm_X7_add xi_X7_add xe_X7_add wl_X5_99 ⟨rfl, rfl, hrm⟩ (ci := 7) rfl t_v0 hR hS (As := [.int v1, .int v2]) rfl hsz rfl hW hdg hf kk
theorem gf_X5_23 {a : Nat} (C0 : xC D RX5 cc nL rt p s m args meth c) (hR : xRep D ty h H) (ht : ty a = some (0, 5)) {v : Nat} (hv : xR h a 1 = some v) (hdg : decode cc pc = .ok (.getfield 23, 3)) (kk : W p l e R s m args below meth c H locs cells slots Q (F0 m (pc + 3) ls (.ref v :: rest))) : W p l e R s m args below meth c H locs cells slots Q (F0 m pc ls (.ref a :: rest)) := x_get C0 hR (ci := 5) (k := 1) (N := 5) (T := TX5) rfl iX5 (by decide) rfl wf_X5_23 (by show va_rf (xR h a 1) = _; rw [hv]; rfl) ht hdg kk
end XN_X5_addFilled
set_option maxHeartbeats 4000000 in
set_option maxRecDepth 100000 in
theorem jc_X5_addFilled {l : Launch} {D : xD} {ty : xTy} {h : xH} {v0 : Nat} {v1 : Nat} {v2 : Int32} {r : Int32} {h9 : xH} (t_v0 : ty v0 = some (0, 5)) (t_v1 : ty v1 = some (0, 7)) (hF : jf_X5_addFilled ty h v0 v1 v2 = some (r, h9)) : Met l yX5_addFilled (xws yX5_addFilled cX5_addFilled 5 (some .boolean)) jr_X5_addFilled (xPc D ty h [.ref v0, .ref v1, .int v2]) (xQ D ty (some (.int r)) h9) 0 0 (xdom ty) := by
  refine x_met (by decide) ?_
  intro p e s m below meth c C0 hR
  generalize hargs : ([.ref v0, .ref v1, .int v2] : List Value).toArray = args at C0 ⊢
  have hx := C0.1
  have hb := C0.2.1
  have hown := C0.2.2.2.2.2.1
  have hts := C0.2.2.2.2.2.2.1
  have hS : xS ty s.heap s.heap [] := xS.rf
  have hl := lv_entry ([.ref v0, .ref v1, .int v2]) (n := 5) (Nat.le_of_ble_eq_true rfl)
  rw [← hargs, lg_entry_eq]
  rw [hargs]
  generalize (lg_sl ([.ref v0, .ref v1, .int v2]) ++ List.replicate (5 - (lg_sl ([.ref v0, .ref v1, .int v2])).length) Slot.unset).toArray = ls at hl ⊢
  have hl : lv_has ls 5 [(0, .ref v0), (1, .ref v1), (2, .int v2)] := hl
  unfold jf_X5_addFilled at hF
  refine lv_aload_n hx hb dX5_addFilled_0 rfl (lv_at hl 1 rfl) ?_
  refine lv_iload_n hx hb dX5_addFilled_1 rfl (lv_at hl 2 rfl) ?_
  obtain ⟨a1, e_a1, hF⟩ := xbd hF
  refine cl_X5_93 C0 hR hS e_a1 t_v1 ⟨(Nat.le_of_ble_eq_true rfl), (Nat.le_of_ble_eq_true rfl)⟩ hl.1 (Nat.le_of_ble_eq_true rfl) ⟨(Nat.le_of_ble_eq_true rfl), (Nat.le_of_ble_eq_true rfl)⟩ dX5_addFilled_2 (fun H locs hR hS => ?_)
  refine lv_istore_n (lv' := [(3, .int a1), (0, .ref v0), (1, .ref v1), (2, .int v2)]) hx hb dX5_addFilled_5 rfl hl (by decide) rfl (fun ls hl => ?_)
  refine lv_iload_n hx hb dX5_addFilled_6 rfl (lv_at hl 0 rfl) ?_
  refine lv_bipush (v := 100) hx hb dX5_addFilled_7 (by decide) ?_
  refine lv_icmp_ge (tgt := 26) hx hb dX5_addFilled_9 (by decide) (fun c2 => ?_) (fun c2 => ?_)
  · have hF := xif hF c2
    refine lv_aload_n hx hb dX5_addFilled_26 rfl (lv_at hl 1 rfl) ?_
    obtain ⟨a3, e_a3, hF⟩ := xbd hF
    obtain ⟨e_a3, t_a3⟩ := xgo_sp e_a3
    refine gf_X5_12 C0 hR t_v0 e_a3 dX5_addFilled_27 ?_
    refine lv_iload_n hx hb dX5_addFilled_30 rfl (lv_at hl 0 rfl) ?_
    refine lv_bipush (v := 100) hx hb dX5_addFilled_31 (by decide) ?_
    refine lv_isub hx hb dX5_addFilled_33 ?_
    obtain ⟨a4, e_a4, hF⟩ := xbd hF
    refine cl_X5_103 C0 hR hS e_a4 t_a3 ⟨(Nat.le_of_ble_eq_true rfl), (Nat.le_of_ble_eq_true rfl)⟩ hl.1 (Nat.le_of_ble_eq_true rfl) ⟨(Nat.le_of_ble_eq_true rfl), (Nat.le_of_ble_eq_true rfl)⟩ dX5_addFilled_34 (fun H locs hR hS => ?_)
    refine lv_istore (lv' := [(4, .int a4), (3, .int a1), (0, .ref v0), (1, .ref v1), (2, .int v2)]) hx hb dX5_addFilled_37 hl (by decide) rfl (fun ls hl => ?_)
    refine lv_iload hx hb dX5_addFilled_39 (lv_at hl 0 rfl) ?_
    refine lv_if_lt (tgt := 73) hx hb dX5_addFilled_41 (by decide) (fun c5 => ?_) (fun c5 => ?_)
    · have hF := xif hF c5
      refine lv_iconst (v := 0) hx hb dX5_addFilled_73 (by decide) ?_
      cases hF
      exact x_zret (w := 0) C0 hR hS (by decide) dX5_addFilled_74
    · have hF := xel hF c5
      refine lv_aload_n hx hb dX5_addFilled_44 rfl (lv_at hl 2 rfl) ?_
      obtain ⟨a6, e_a6, hF⟩ := xbd hF
      obtain ⟨e_a6, t_a6⟩ := xgo_sp e_a6
      refine gf_X5_23 C0 hR t_v0 e_a6 dX5_addFilled_45 ?_
      refine lv_aload_n hx hb dX5_addFilled_48 rfl (lv_at hl 2 rfl) ?_
      obtain ⟨a7, e_a7, hF⟩ := xbd hF
      obtain ⟨e_a7, t_a7⟩ := xgo_sp e_a7
      refine gf_X5_27 C0 hR t_v0 e_a7 dX5_addFilled_49 ?_
      refine lv_iload hx hb dX5_addFilled_52 (lv_at hl 0 rfl) ?_
      refine lv_aload_n hx hb dX5_addFilled_54 rfl (lv_at hl 2 rfl) ?_
      obtain ⟨a8, e_a8, hF⟩ := xbd hF
      obtain ⟨e_a8, t_a8⟩ := xgo_sp e_a8
      refine gf_X5_27 C0 hR t_v0 e_a8 dX5_addFilled_55 ?_
      refine lv_iload hx hb dX5_addFilled_58 (lv_at hl 0 rfl) ?_
      obtain ⟨a9, e_a9, hF⟩ := xbd hF
      refine cl_X5_89 C0 hR hS e_a9 t_a8 ⟨(Nat.le_of_ble_eq_true rfl), (Nat.le_of_ble_eq_true rfl)⟩ hl.1 (Nat.le_of_ble_eq_true rfl) ⟨(Nat.le_of_ble_eq_true rfl), (Nat.le_of_ble_eq_true rfl)⟩ dX5_addFilled_60 (fun H locs hR hS => ?_)
      obtain ⟨a11, h10, e_h10, hF⟩ := xbd2 hF
      refine cl_X5_81 C0 hR hS e_h10 t_a6 t_a7 ⟨(Nat.le_of_ble_eq_true rfl), (Nat.le_of_ble_eq_true rfl)⟩ hl.1 (Nat.le_of_ble_eq_true rfl) ⟨(Nat.le_of_ble_eq_true rfl), (Nat.le_of_ble_eq_true rfl)⟩ dX5_addFilled_63 (fun H locs hR hS => ?_)
      refine lv_if_eq (tgt := 73) hx hb dX5_addFilled_66 (by decide) (fun c12 => ?_) (fun c12 => ?_)
      · have hF := xif hF c12
        refine lv_iconst (v := 0) hx hb dX5_addFilled_73 (by decide) ?_
        cases hF
        exact x_zret (w := 0) C0 hR hS (by decide) dX5_addFilled_74
      · have hF := xel hF c12
        refine lv_iconst (v := 1) hx hb dX5_addFilled_69 (by decide) ?_
        refine lv_goto (tgt := 74) hx hb dX5_addFilled_70 (by decide) ?_
        cases hF
        exact x_zret (w := 1) C0 hR hS (by decide) dX5_addFilled_74
  · have hF := xel hF c2
    refine lv_aload_n hx hb dX5_addFilled_12 rfl (lv_at hl 1 rfl) ?_
    obtain ⟨a13, e_a13, hF⟩ := xbd hF
    obtain ⟨e_a13, t_a13⟩ := xgo_sp e_a13
    refine gf_X5_23 C0 hR t_v0 e_a13 dX5_addFilled_13 ?_
    refine lv_iload_n hx hb dX5_addFilled_16 rfl (lv_at hl 0 rfl) ?_
    refine lv_aload_n hx hb dX5_addFilled_17 rfl (lv_at hl 2 rfl) ?_
    refine lv_iload_n hx hb dX5_addFilled_18 rfl (lv_at hl 3 rfl) ?_
    obtain ⟨a14, e_a14, hF⟩ := xbd hF
    refine cl_X5_96 C0 hR hS e_a14 t_v1 ⟨(Nat.le_of_ble_eq_true rfl), (Nat.le_of_ble_eq_true rfl)⟩ hl.1 (Nat.le_of_ble_eq_true rfl) ⟨(Nat.le_of_ble_eq_true rfl), (Nat.le_of_ble_eq_true rfl)⟩ dX5_addFilled_19 (fun H locs hR hS => ?_)
    obtain ⟨a16, h15, e_h15, hF⟩ := xbd2 hF
    refine cl_X5_99 C0 hR hS e_h15 t_a13 ⟨(Nat.le_of_ble_eq_true rfl), (Nat.le_of_ble_eq_true rfl)⟩ hl.1 (Nat.le_of_ble_eq_true rfl) ⟨(Nat.le_of_ble_eq_true rfl), (Nat.le_of_ble_eq_true rfl)⟩ dX5_addFilled_22 (fun H locs hR hS => ?_)
    obtain ⟨w17, e_w17, hF⟩ := xbd hF
    cases hF
    exact x_zret C0 hR hS e_w17 dX5_addFilled_25
theorem xm_X5_addFilled : xMw yX5_addFilled cX5_addFilled 5 (some .boolean) 2 := ⟨xin 1068 (by decide +kernel) rfl, xin 124 (by decide +kernel) rfl, by decide +kernel⟩
theorem xi_X5_addFilled : Cond.instanceMethod yX5_addFilled ∈ xT := xin 1067 (by decide +kernel) rfl
theorem xe_X5_addFilled : Cond.selects yX5_addFilled.cls yX5_addFilled yX5_addFilled ∈ xT := xin 47 (by decide +kernel) rfl
theorem dX5_replace_0 : decode cX5_replace 0 = .ok (.aload_n 0, 1) := by decide +kernel
theorem dX5_replace_1 : decode cX5_replace 1 = .ok (.getfield 23, 3) := by decide +kernel
theorem dX5_replace_4 : decode cX5_replace 4 = .ok (.invokevirtual 78, 3) := by decide +kernel
theorem dX5_replace_7 : decode cX5_replace 7 = .ok (.aload_n 0, 1) := by decide +kernel
theorem dX5_replace_8 : decode cX5_replace 8 = .ok (.getfield 23, 3) := by decide +kernel
theorem dX5_replace_11 : decode cX5_replace 11 = .ok (.aload_n 0, 1) := by decide +kernel
theorem dX5_replace_12 : decode cX5_replace 12 = .ok (.getfield 27, 3) := by decide +kernel
theorem dX5_replace_15 : decode cX5_replace 15 = .ok (.iconst 0, 1) := by decide +kernel
theorem dX5_replace_16 : decode cX5_replace 16 = .ok (.iload_n 1, 1) := by decide +kernel
theorem dX5_replace_17 : decode cX5_replace 17 = .ok (.invokevirtual 81, 3) := by decide +kernel
theorem dX5_replace_20 : decode cX5_replace 20 = .ok (.istore 4, 2) := by decide +kernel
theorem dX5_replace_22 : decode cX5_replace 22 = .ok (.iconst 0, 1) := by decide +kernel
theorem dX5_replace_23 : decode cX5_replace 23 = .ok (.istore 5, 2) := by decide +kernel
theorem dX5_replace_25 : decode cX5_replace 25 = .ok (.iload 5, 2) := by decide +kernel
theorem dX5_replace_27 : decode cX5_replace 27 = .ok (.aload_n 2, 1) := by decide +kernel
theorem dX5_replace_28 : decode cX5_replace 28 = .ok (.getfield 45, 3) := by decide +kernel
theorem dX5_replace_31 : decode cX5_replace 31 = .ok (.if_icmp .ge 23, 3) := by decide +kernel
theorem dX5_replace_34 : decode cX5_replace 34 = .ok (.iload 4, 2) := by decide +kernel
theorem dX5_replace_36 : decode cX5_replace 36 = .ok (.ifCond .eq 18, 3) := by decide +kernel
theorem dX5_replace_39 : decode cX5_replace 39 = .ok (.aload_n 0, 1) := by decide +kernel
theorem dX5_replace_40 : decode cX5_replace 40 = .ok (.aload_n 2, 1) := by decide +kernel
theorem dX5_replace_41 : decode cX5_replace 41 = .ok (.iload 5, 2) := by decide +kernel
theorem dX5_replace_43 : decode cX5_replace 43 = .ok (.invokevirtual 85, 3) := by decide +kernel
theorem dX5_replace_46 : decode cX5_replace 46 = .ok (.istore 4, 2) := by decide +kernel
theorem dX5_replace_48 : decode cX5_replace 48 = .ok (.iinc 5 1, 3) := by decide +kernel
theorem dX5_replace_51 : decode cX5_replace 51 = .ok (.goto (-26), 3) := by decide +kernel
theorem dX5_replace_54 : decode cX5_replace 54 = .ok (.iload 4, 2) := by decide +kernel
theorem dX5_replace_56 : decode cX5_replace 56 = .ok (.ifCond .eq 36, 3) := by decide +kernel
theorem dX5_replace_59 : decode cX5_replace 59 = .ok (.aload_n 0, 1) := by decide +kernel
theorem dX5_replace_60 : decode cX5_replace 60 = .ok (.getfield 23, 3) := by decide +kernel
theorem dX5_replace_63 : decode cX5_replace 63 = .ok (.aload_n 0, 1) := by decide +kernel
theorem dX5_replace_64 : decode cX5_replace 64 = .ok (.getfield 27, 3) := by decide +kernel
theorem dX5_replace_67 : decode cX5_replace 67 = .ok (.aload_n 0, 1) := by decide +kernel
theorem dX5_replace_68 : decode cX5_replace 68 = .ok (.getfield 27, 3) := by decide +kernel
theorem dX5_replace_71 : decode cX5_replace 71 = .ok (.iload_n 1, 1) := by decide +kernel
theorem dX5_replace_72 : decode cX5_replace 72 = .ok (.invokevirtual 89, 3) := by decide +kernel
theorem dX5_replace_75 : decode cX5_replace 75 = .ok (.aload_n 0, 1) := by decide +kernel
theorem dX5_replace_76 : decode cX5_replace 76 = .ok (.getfield 27, 3) := by decide +kernel
theorem dX5_replace_79 : decode cX5_replace 79 = .ok (.getfield 45, 3) := by decide +kernel
theorem dX5_replace_82 : decode cX5_replace 82 = .ok (.invokevirtual 81, 3) := by decide +kernel
theorem dX5_replace_85 : decode cX5_replace 85 = .ok (.ifCond .eq 7, 3) := by decide +kernel
theorem dX5_replace_88 : decode cX5_replace 88 = .ok (.iconst 1, 1) := by decide +kernel
theorem dX5_replace_89 : decode cX5_replace 89 = .ok (.goto 4, 3) := by decide +kernel
theorem dX5_replace_92 : decode cX5_replace 92 = .ok (.iconst 0, 1) := by decide +kernel
theorem dX5_replace_93 : decode cX5_replace 93 = .ok (.istore 4, 2) := by decide +kernel
theorem dX5_replace_95 : decode cX5_replace 95 = .ok (.iload 4, 2) := by decide +kernel
theorem dX5_replace_97 : decode cX5_replace 97 = .ok (.ifCond .ne 5, 3) := by decide +kernel
theorem dX5_replace_100 : decode cX5_replace 100 = .ok (.iconst 0, 1) := by decide +kernel
theorem dX5_replace_101 : decode cX5_replace 101 = .ok (.ireturn, 1) := by decide +kernel
theorem dX5_replace_102 : decode cX5_replace 102 = .ok (.aload_n 0, 1) := by decide +kernel
theorem dX5_replace_103 : decode cX5_replace 103 = .ok (.getfield 27, 3) := by decide +kernel
theorem dX5_replace_106 : decode cX5_replace 106 = .ok (.astore 5, 2) := by decide +kernel
theorem dX5_replace_108 : decode cX5_replace 108 = .ok (.aload_n 0, 1) := by decide +kernel
theorem dX5_replace_109 : decode cX5_replace 109 = .ok (.aload_n 0, 1) := by decide +kernel
theorem dX5_replace_110 : decode cX5_replace 110 = .ok (.getfield 23, 3) := by decide +kernel
theorem dX5_replace_113 : decode cX5_replace 113 = .ok (.putfield 27, 3) := by decide +kernel
theorem dX5_replace_116 : decode cX5_replace 116 = .ok (.aload_n 0, 1) := by decide +kernel
theorem dX5_replace_117 : decode cX5_replace 117 = .ok (.aload 5, 2) := by decide +kernel
theorem dX5_replace_119 : decode cX5_replace 119 = .ok (.putfield 23, 3) := by decide +kernel
theorem dX5_replace_122 : decode cX5_replace 122 = .ok (.aload_n 0, 1) := by decide +kernel
theorem dX5_replace_123 : decode cX5_replace 123 = .ok (.getfield 30, 3) := by decide +kernel
theorem dX5_replace_126 : decode cX5_replace 126 = .ok (.ifCond .ne 8, 3) := by decide +kernel
theorem dX5_replace_129 : decode cX5_replace 129 = .ok (.aload_n 0, 1) := by decide +kernel
theorem dX5_replace_130 : decode cX5_replace 130 = .ok (.iload_n 3, 1) := by decide +kernel
theorem dX5_replace_131 : decode cX5_replace 131 = .ok (.putfield 34, 3) := by decide +kernel
theorem dX5_replace_134 : decode cX5_replace 134 = .ok (.aload_n 0, 1) := by decide +kernel
theorem dX5_replace_135 : decode cX5_replace 135 = .ok (.dup, 1) := by decide +kernel
theorem dX5_replace_136 : decode cX5_replace 136 = .ok (.getfield 30, 3) := by decide +kernel
theorem dX5_replace_139 : decode cX5_replace 139 = .ok (.iconst 1, 1) := by decide +kernel
theorem dX5_replace_140 : decode cX5_replace 140 = .ok (.iadd, 1) := by decide +kernel
theorem dX5_replace_141 : decode cX5_replace 141 = .ok (.putfield 30, 3) := by decide +kernel
theorem dX5_replace_144 : decode cX5_replace 144 = .ok (.iconst 1, 1) := by decide +kernel
theorem dX5_replace_145 : decode cX5_replace 145 = .ok (.ireturn, 1) := by decide +kernel
theorem wl_X5_78 : Cond.methodLink RX5 78 yX7_clear ∈ xT := xin 1063 (by decide +kernel) rfl
theorem wl_X5_85 : Cond.methodLink RX5 85 yX5_addFilled ∈ xT := xin 1065 (by decide +kernel) rfl
theorem wf_X5_30 : Cond.fieldLink RX5 30 "TermShelf$Rewriter" "done" "I" ∈ xT := xin 433 (by decide +kernel) rfl
theorem wf_X5_34 : Cond.fieldLink RX5 34 "TermShelf$Rewriter" "firstRule" "I" ∈ xT := xin 435 (by decide +kernel) rfl
section XN_X5_replace
variable {p : Program} {l : Launch} {e : Env} {R : Room} {s : State} {m : MethodId} {args : Array Value} {below : List Frame} {meth : Method} {c : Code} {H H0 : Heap} {locs : List Loc} {cells slots : Nat} {Q : State → Prop} {cc : ByteArray} {nL pc : Nat} {rt : Option FieldType} {ls : Array Slot} {rest : List Value} {D : xD} {ty : xTy} {h : xH}
theorem cl_X5_78 {v0 : Nat} {h9 : xH} (C0 : xC D RX5 cc nL rt p s m args meth c) (hR : xRep D ty h H) (hS : xS ty H0 H locs) (hF : jf_X7_clear ty h v0 = some h9) (t_v0 : ty v0 = some (0, 7)) (hrm : jr_X7_clear.frames + 1 ≤ R.frames ∧ 8 + (1 + 11) + jr_X7_clear.locals ≤ R.locals) (hsz : ls.size = nL) (hW : (rest.map fun v => v.category).sum ≤ 8) (hf : cells ≤ R.cells ∧ slots ≤ R.slots) (hdg : decode cc pc = .ok (.invokevirtual 78, 3)) (kk : ∀ (H1 : Heap) (locs1 : List Loc), xRep D ty h9 H1 → xS ty H0 H1 locs1 → W p l e R s m args below meth c H1 locs1 cells slots Q (F0 m (pc + 3) ls rest)) : W p l e R s m args below meth c H locs cells slots Q (F0 m pc ls (.ref v0 :: rest)) := x_callV C0 (jc_X7_clear t_v0 hF) xm_X7_clear xi_X7_clear xe_X7_clear wl_X5_78 ⟨rfl, rfl, hrm⟩ (ci := 7) rfl t_v0 hR hS (As := []) rfl hsz rfl hW hdg hf kk
theorem cl_X5_85 {v0 : Nat} {v1 : Nat} {v2 : Int32} {r : Int32} {h9 : xH} (C0 : xC D RX5 cc nL rt p s m args meth c) (hR : xRep D ty h H) (hS : xS ty H0 H locs) (hF : jf_X5_addFilled ty h v0 v1 v2 = some (r, h9)) (t_v0 : ty v0 = some (0, 5)) (t_v1 : ty v1 = some (0, 7)) (hrm : jr_X5_addFilled.frames + 1 ≤ R.frames ∧ 8 + (5 + 11) + jr_X5_addFilled.locals ≤ R.locals) (hsz : ls.size = nL) (hW : (rest.map fun v => v.category).sum ≤ 8) (hf : cells ≤ R.cells ∧ slots ≤ R.slots) (hdg : decode cc pc = .ok (.invokevirtual 85, 3)) (kk : ∀ (H1 : Heap) (locs1 : List Loc), xRep D ty h9 H1 → xS ty H0 H1 locs1 → W p l e R s m args below meth c H1 locs1 cells slots Q (F0 m (pc + 3) ls (.int r :: rest))) : W p l e R s m args below meth c H locs cells slots Q (F0 m pc ls (.int v2 :: .ref v1 :: .ref v0 :: rest)) := x_callV C0 (jc_X5_addFilled t_v0 t_v1 hF) xm_X5_addFilled xi_X5_addFilled xe_X5_addFilled wl_X5_85 ⟨rfl, rfl, hrm⟩ (ci := 5) rfl t_v0 hR hS (As := [.ref v1, .int v2]) rfl hsz rfl hW hdg hf kk
theorem gf_X5_30 {a : Nat} (C0 : xC D RX5 cc nL rt p s m args meth c) (hR : xRep D ty h H) (ht : ty a = some (0, 5)) (hdg : decode cc pc = .ok (.getfield 30, 3)) (kk : W p l e R s m args below meth c H locs cells slots Q (F0 m (pc + 3) ls (.int (xI h a 3) :: rest))) : W p l e R s m args below meth c H locs cells slots Q (F0 m pc ls (.ref a :: rest)) := x_get C0 hR (ci := 5) (k := 3) (N := 5) (T := TX5) rfl iX5 (by decide) rfl wf_X5_30 rfl ht hdg kk
theorem pf_X5_23 {a : Nat} {v : Nat} (C0 : xC D RX5 cc nL rt p s m args meth c) (hR : xRep D ty h H) (hS : xS ty H0 H locs) (ht : ty a = some (0, 5)) (hdg : decode cc pc = .ok (.putfield 23, 3)) (kk : ∀ (H1 : Heap) (locs1 : List Loc), xRep D ty (xsR h a 1 (some v)) H1 → xS ty H0 H1 locs1 → W p l e R s m args below meth c H1 locs1 cells slots Q (F0 m (pc + 3) ls rest)) : W p l e R s m args below meth c H locs cells slots Q (F0 m pc ls (.ref v :: .ref a :: rest)) := x_putr C0 hR hS (ci := 5) (k := 1) (N := 5) (T := TX5) rfl iX5 tyX5_ok nmX5 (by decide) rfl rfl wf_X5_23 rfl ht hdg kk
theorem pf_X5_27 {a : Nat} {v : Nat} (C0 : xC D RX5 cc nL rt p s m args meth c) (hR : xRep D ty h H) (hS : xS ty H0 H locs) (ht : ty a = some (0, 5)) (hdg : decode cc pc = .ok (.putfield 27, 3)) (kk : ∀ (H1 : Heap) (locs1 : List Loc), xRep D ty (xsR h a 2 (some v)) H1 → xS ty H0 H1 locs1 → W p l e R s m args below meth c H1 locs1 cells slots Q (F0 m (pc + 3) ls rest)) : W p l e R s m args below meth c H locs cells slots Q (F0 m pc ls (.ref v :: .ref a :: rest)) := x_putr C0 hR hS (ci := 5) (k := 2) (N := 5) (T := TX5) rfl iX5 tyX5_ok nmX5 (by decide) rfl rfl wf_X5_27 rfl ht hdg kk
theorem pf_X5_30 {a : Nat} {v : Int32} (C0 : xC D RX5 cc nL rt p s m args meth c) (hR : xRep D ty h H) (hS : xS ty H0 H locs) (ht : ty a = some (0, 5)) (hdg : decode cc pc = .ok (.putfield 30, 3)) (kk : ∀ (H1 : Heap) (locs1 : List Loc), xRep D ty (xsI h a 3 v) H1 → xS ty H0 H1 locs1 → W p l e R s m args below meth c H1 locs1 cells slots Q (F0 m (pc + 3) ls rest)) : W p l e R s m args below meth c H locs cells slots Q (F0 m pc ls (.int v :: .ref a :: rest)) := x_puti C0 hR hS (ci := 5) (k := 3) (N := 5) (T := TX5) rfl iX5 tyX5_ok nmX5 (by decide) rfl rfl wf_X5_30 (Or.inl rfl) rfl rfl ht hdg kk
theorem pf_X5_34 {a : Nat} {v : Int32} (C0 : xC D RX5 cc nL rt p s m args meth c) (hR : xRep D ty h H) (hS : xS ty H0 H locs) (ht : ty a = some (0, 5)) (hdg : decode cc pc = .ok (.putfield 34, 3)) (kk : ∀ (H1 : Heap) (locs1 : List Loc), xRep D ty (xsI h a 4 v) H1 → xS ty H0 H1 locs1 → W p l e R s m args below meth c H1 locs1 cells slots Q (F0 m (pc + 3) ls rest)) : W p l e R s m args below meth c H locs cells slots Q (F0 m pc ls (.int v :: .ref a :: rest)) := x_puti C0 hR hS (ci := 5) (k := 4) (N := 5) (T := TX5) rfl iX5 tyX5_ok nmX5 (by decide) rfl rfl wf_X5_34 (Or.inl rfl) rfl rfl ht hdg kk
end XN_X5_replace
set_option maxHeartbeats 4000000 in
set_option maxRecDepth 100000 in
theorem jw_X5_replace_93 {p : Program} {l : Launch} {e : Env} {s : State} {m : MethodId} {args : Array Value} {below : List Frame} {meth : Method} {c : Code} {D : xD} {ty : xTy} (C0 : xC D RX5 cX5_replace 6 (some .boolean) p s m args meth c) {r : Int32} {h9 : xH} : ∀ (v0 : Nat) (v3 : Int32) (s0 : Int32) (h : xH), ty v0 = some (0, 5) → jf_X5_replace_93 ty v0 v3 s0 h = some (r, h9) → ∀ (H : Heap) (locs : List Loc), xRep D ty h H → xS ty s.heap H locs → ∀ ls : Array Slot, lv_has ls 6 [(0, .ref v0), (3, .int v3)] → W p l e jr_X5_replace s m args below meth c H locs 0 0 (MQ below (xQ D ty (some (.int r)) h9) args s 0 0 (xdom ty)) (F0 m 93 ls [.int s0]) := by
  have hx := C0.1
  have hb := C0.2.1
  have hown := C0.2.2.2.2.2.1
  have hts := C0.2.2.2.2.2.2.1
  intro v0 v3 s0 h t_v0 hF H locs hR hS ls hl
  unfold jf_X5_replace_93 at hF
  refine lv_istore (lv' := [(4, .int s0), (0, .ref v0), (3, .int v3)]) hx hb dX5_replace_93 hl (by decide) rfl (fun ls hl => ?_)
  refine lv_iload hx hb dX5_replace_95 (lv_at hl 0 rfl) ?_
  refine lv_if_ne (tgt := 102) hx hb dX5_replace_97 (by decide) (fun c1 => ?_) (fun c1 => ?_)
  · have hF := xel hF c1
    refine lv_aload_n hx hb dX5_replace_102 rfl (lv_at hl 1 rfl) ?_
    obtain ⟨a2, e_a2, hF⟩ := xbd hF
    obtain ⟨e_a2, t_a2⟩ := xgo_sp e_a2
    refine gf_X5_27 C0 hR t_v0 e_a2 dX5_replace_103 ?_
    refine lv_astore (lv' := [(5, .ref a2), (4, .int s0), (0, .ref v0), (3, .int v3)]) hx hb dX5_replace_106 hl (by decide) rfl (fun ls hl => ?_)
    refine lv_aload_n hx hb dX5_replace_108 rfl (lv_at hl 2 rfl) ?_
    refine lv_aload_n hx hb dX5_replace_109 rfl (lv_at hl 2 rfl) ?_
    obtain ⟨a3, e_a3, hF⟩ := xbd hF
    obtain ⟨e_a3, t_a3⟩ := xgo_sp e_a3
    refine gf_X5_23 C0 hR t_v0 e_a3 dX5_replace_110 ?_
    obtain ⟨h4, e_h4, hF⟩ := xbd hF
    refine pf_X5_27 C0 hR hS t_v0 dX5_replace_113 (fun H locs hR hS => ?_)
    rw [Option.some.inj e_h4] at hR
    refine lv_aload_n hx hb dX5_replace_116 rfl (lv_at hl 2 rfl) ?_
    refine lv_aload hx hb dX5_replace_117 (lv_at hl 0 rfl) ?_
    obtain ⟨h5, e_h5, hF⟩ := xbd hF
    refine pf_X5_23 C0 hR hS t_v0 dX5_replace_119 (fun H locs hR hS => ?_)
    rw [Option.some.inj e_h5] at hR
    refine lv_aload_n hx hb dX5_replace_122 rfl (lv_at hl 2 rfl) ?_
    refine gf_X5_30 C0 hR t_v0 dX5_replace_123 ?_
    refine lv_if_ne (tgt := 134) hx hb dX5_replace_126 (by decide) (fun c6 => ?_) (fun c6 => ?_)
    · have hF := xel hF c6
      refine lv_aload_n hx hb dX5_replace_134 rfl (lv_at hl 2 rfl) ?_
      refine lv_dup hx hb dX5_replace_135 rfl ?_
      refine gf_X5_30 C0 hR t_v0 dX5_replace_136 ?_
      refine lv_iconst (v := 1) hx hb dX5_replace_139 (by decide) ?_
      refine lv_iadd hx hb dX5_replace_140 ?_
      obtain ⟨h7, e_h7, hF⟩ := xbd hF
      refine pf_X5_30 C0 hR hS t_v0 dX5_replace_141 (fun H locs hR hS => ?_)
      rw [Option.some.inj e_h7] at hR
      refine lv_iconst (v := 1) hx hb dX5_replace_144 (by decide) ?_
      cases hF
      exact x_zret (w := 1) C0 hR hS (by decide) dX5_replace_145
    · have hF := xif hF c6
      refine lv_aload_n hx hb dX5_replace_129 rfl (lv_at hl 2 rfl) ?_
      refine lv_iload_n hx hb dX5_replace_130 rfl (lv_at hl 3 rfl) ?_
      obtain ⟨h8, e_h8, hF⟩ := xbd hF
      refine pf_X5_34 C0 hR hS t_v0 dX5_replace_131 (fun H locs hR hS => ?_)
      rw [Option.some.inj e_h8] at hR
      refine lv_aload_n hx hb dX5_replace_134 rfl (lv_at hl 2 rfl) ?_
      refine lv_dup hx hb dX5_replace_135 rfl ?_
      refine gf_X5_30 C0 hR t_v0 dX5_replace_136 ?_
      refine lv_iconst (v := 1) hx hb dX5_replace_139 (by decide) ?_
      refine lv_iadd hx hb dX5_replace_140 ?_
      obtain ⟨h9, e_h9, hF⟩ := xbd hF
      refine pf_X5_30 C0 hR hS t_v0 dX5_replace_141 (fun H locs hR hS => ?_)
      rw [Option.some.inj e_h9] at hR
      refine lv_iconst (v := 1) hx hb dX5_replace_144 (by decide) ?_
      cases hF
      exact x_zret (w := 1) C0 hR hS (by decide) dX5_replace_145
  · have hF := xif hF c1
    refine lv_iconst (v := 0) hx hb dX5_replace_100 (by decide) ?_
    cases hF
    exact x_zret (w := 0) C0 hR hS (by decide) dX5_replace_101
set_option maxHeartbeats 4000000 in
set_option maxRecDepth 100000 in
theorem jw_X5_replace_54 {p : Program} {l : Launch} {e : Env} {s : State} {m : MethodId} {args : Array Value} {below : List Frame} {meth : Method} {c : Code} {D : xD} {ty : xTy} (C0 : xC D RX5 cX5_replace 6 (some .boolean) p s m args meth c) {r : Int32} {h9 : xH} : ∀ (v0 : Nat) (v1 : Int32) (v3 : Int32) (v4 : Int32) (h : xH), ty v0 = some (0, 5) → jf_X5_replace_54 ty v0 v1 v3 v4 h = some (r, h9) → ∀ (H : Heap) (locs : List Loc), xRep D ty h H → xS ty s.heap H locs → ∀ ls : Array Slot, lv_has ls 6 [(0, .ref v0), (1, .int v1), (3, .int v3), (4, .int v4)] → W p l e jr_X5_replace s m args below meth c H locs 0 0 (MQ below (xQ D ty (some (.int r)) h9) args s 0 0 (xdom ty)) (F0 m 54 ls []) := by
  have hx := C0.1
  have hb := C0.2.1
  have hown := C0.2.2.2.2.2.1
  have hts := C0.2.2.2.2.2.2.1
  intro v0 v1 v3 v4 h t_v0 hF H locs hR hS ls hl
  unfold jf_X5_replace_54 at hF
  refine lv_iload hx hb dX5_replace_54 (lv_at hl 3 rfl) ?_
  refine lv_if_eq (tgt := 92) hx hb dX5_replace_56 (by decide) (fun c10 => ?_) (fun c10 => ?_)
  · have hF := xif hF c10
    refine lv_iconst (v := 0) hx hb dX5_replace_92 (by decide) ?_
    exact jw_X5_replace_93 C0 _ _ _ _ t_v0 hF _ _ hR hS _ (lv_sub hl [0, 2] rfl)
  · have hF := xel hF c10
    refine lv_aload_n hx hb dX5_replace_59 rfl (lv_at hl 0 rfl) ?_
    obtain ⟨a11, e_a11, hF⟩ := xbd hF
    obtain ⟨e_a11, t_a11⟩ := xgo_sp e_a11
    refine gf_X5_23 C0 hR t_v0 e_a11 dX5_replace_60 ?_
    refine lv_aload_n hx hb dX5_replace_63 rfl (lv_at hl 0 rfl) ?_
    obtain ⟨a12, e_a12, hF⟩ := xbd hF
    obtain ⟨e_a12, t_a12⟩ := xgo_sp e_a12
    refine gf_X5_27 C0 hR t_v0 e_a12 dX5_replace_64 ?_
    refine lv_aload_n hx hb dX5_replace_67 rfl (lv_at hl 0 rfl) ?_
    obtain ⟨a13, e_a13, hF⟩ := xbd hF
    obtain ⟨e_a13, t_a13⟩ := xgo_sp e_a13
    refine gf_X5_27 C0 hR t_v0 e_a13 dX5_replace_68 ?_
    refine lv_iload_n hx hb dX5_replace_71 rfl (lv_at hl 1 rfl) ?_
    obtain ⟨a14, e_a14, hF⟩ := xbd hF
    refine cl_X5_89 C0 hR hS e_a14 t_a13 ⟨(Nat.le_of_ble_eq_true rfl), (Nat.le_of_ble_eq_true rfl)⟩ hl.1 (Nat.le_of_ble_eq_true rfl) ⟨(Nat.le_of_ble_eq_true rfl), (Nat.le_of_ble_eq_true rfl)⟩ dX5_replace_72 (fun H locs hR hS => ?_)
    refine lv_aload_n hx hb dX5_replace_75 rfl (lv_at hl 0 rfl) ?_
    obtain ⟨a15, e_a15, hF⟩ := xbd hF
    obtain ⟨e_a15, t_a15⟩ := xgo_sp e_a15
    refine gf_X5_27 C0 hR t_v0 e_a15 dX5_replace_76 ?_
    refine gf_X5_45 C0 hR t_a15 dX5_replace_79 ?_
    obtain ⟨a17, h16, e_h16, hF⟩ := xbd2 hF
    refine cl_X5_81 C0 hR hS e_h16 t_a11 t_a12 ⟨(Nat.le_of_ble_eq_true rfl), (Nat.le_of_ble_eq_true rfl)⟩ hl.1 (Nat.le_of_ble_eq_true rfl) ⟨(Nat.le_of_ble_eq_true rfl), (Nat.le_of_ble_eq_true rfl)⟩ dX5_replace_82 (fun H locs hR hS => ?_)
    refine lv_if_eq (tgt := 92) hx hb dX5_replace_85 (by decide) (fun c18 => ?_) (fun c18 => ?_)
    · have hF := xif hF c18
      refine lv_iconst (v := 0) hx hb dX5_replace_92 (by decide) ?_
      exact jw_X5_replace_93 C0 _ _ _ _ t_v0 hF _ _ hR hS _ (lv_sub hl [0, 2] rfl)
    · have hF := xel hF c18
      refine lv_iconst (v := 1) hx hb dX5_replace_88 (by decide) ?_
      refine lv_goto (tgt := 93) hx hb dX5_replace_89 (by decide) ?_
      exact jw_X5_replace_93 C0 _ _ _ _ t_v0 hF _ _ hR hS _ (lv_sub hl [0, 2] rfl)
set_option maxHeartbeats 4000000 in
set_option maxRecDepth 100000 in
theorem jw_X5_replace_25 {p : Program} {l : Launch} {e : Env} {s : State} {m : MethodId} {args : Array Value} {below : List Frame} {meth : Method} {c : Code} {D : xD} {ty : xTy} (C0 : xC D RX5 cX5_replace 6 (some .boolean) p s m args meth c) {r : Int32} {h9 : xH} : ∀ n : Nat, ∀ (v0 : Nat) (v1 : Int32) (v2 : Nat) (v3 : Int32) (v4 : Int32) (v5 : Int32) (h : xH), ty v0 = some (0, 5) → ty v2 = some (0, 7) → jf_X5_replace_25 ty n v0 v1 v2 v3 v4 v5 h = some (r, h9) → ∀ (H : Heap) (locs : List Loc), xRep D ty h H → xS ty s.heap H locs → ∀ ls : Array Slot, lv_has ls 6 [(0, .ref v0), (1, .int v1), (2, .ref v2), (3, .int v3), (4, .int v4), (5, .int v5)] → W p l e jr_X5_replace s m args below meth c H locs 0 0 (MQ below (xQ D ty (some (.int r)) h9) args s 0 0 (xdom ty)) (F0 m 25 ls []) := by
  have hx := C0.1
  have hb := C0.2.1
  have hown := C0.2.2.2.2.2.1
  have hts := C0.2.2.2.2.2.2.1
  intro n
  induction n with
  | zero =>
    intro v0 v1 v2 v3 v4 v5 h t_v0 t_v2 hF H locs hR hS ls hl
    cases hF
  | succ n ih =>
    intro v0 v1 v2 v3 v4 v5 h t_v0 t_v2 hF H locs hR hS ls hl
    rw [jf_X5_replace_25_s] at hF
    refine lv_iload hx hb dX5_replace_25 (lv_at hl 5 rfl) ?_
    refine lv_aload_n hx hb dX5_replace_27 rfl (lv_at hl 2 rfl) ?_
    refine gf_X5_45 C0 hR t_v2 dX5_replace_28 ?_
    refine lv_icmp_ge (tgt := 54) hx hb dX5_replace_31 (by decide) (fun c19 => ?_) (fun c19 => ?_)
    · have hF := xif hF c19
      exact jw_X5_replace_54 C0 _ _ _ _ _ t_v0 hF _ _ hR hS _ (lv_sub hl [0, 1, 3, 4] rfl)
    · have hF := xel hF c19
      refine lv_iload hx hb dX5_replace_34 (lv_at hl 4 rfl) ?_
      refine lv_if_eq (tgt := 54) hx hb dX5_replace_36 (by decide) (fun c20 => ?_) (fun c20 => ?_)
      · have hF := xif hF c20
        exact jw_X5_replace_54 C0 _ _ _ _ _ t_v0 hF _ _ hR hS _ (lv_sub hl [0, 1, 3, 4] rfl)
      · have hF := xel hF c20
        refine lv_aload_n hx hb dX5_replace_39 rfl (lv_at hl 0 rfl) ?_
        refine lv_aload_n hx hb dX5_replace_40 rfl (lv_at hl 2 rfl) ?_
        refine lv_iload hx hb dX5_replace_41 (lv_at hl 5 rfl) ?_
        obtain ⟨a22, h21, e_h21, hF⟩ := xbd2 hF
        refine cl_X5_85 C0 hR hS e_h21 t_v0 t_v2 ⟨(Nat.le_of_ble_eq_true rfl), (Nat.le_of_ble_eq_true rfl)⟩ hl.1 (Nat.le_of_ble_eq_true rfl) ⟨(Nat.le_of_ble_eq_true rfl), (Nat.le_of_ble_eq_true rfl)⟩ dX5_replace_43 (fun H locs hR hS => ?_)
        refine lv_istore (lv' := [(4, .int a22), (0, .ref v0), (1, .int v1), (2, .ref v2), (3, .int v3), (5, .int v5)]) hx hb dX5_replace_46 hl (by decide) rfl (fun ls hl => ?_)
        refine lv_iinc (v := v5 + 1) (lv' := [(5, .int (v5 + 1)), (4, .int a22), (0, .ref v0), (1, .int v1), (2, .ref v2), (3, .int v3)]) hx hb dX5_replace_48 hl (k := 5) rfl rfl (by decide) rfl (fun ls hl => ?_)
        refine lv_goto (tgt := 25) hx hb dX5_replace_51 (by decide) ?_
        exact ih _ _ _ _ _ _ _ t_v0 t_v2 hF _ _ hR hS _ (lv_sub hl [2, 3, 4, 5, 1, 0] rfl)
set_option maxHeartbeats 4000000 in
set_option maxRecDepth 100000 in
theorem jc_X5_replace {l : Launch} {D : xD} {ty : xTy} {h : xH} {v0 : Nat} {v1 : Int32} {v2 : Nat} {v3 : Int32} {r : Int32} {h9 : xH} (t_v0 : ty v0 = some (0, 5)) (t_v2 : ty v2 = some (0, 7)) (hF : jf_X5_replace ty h v0 v1 v2 v3 = some (r, h9)) : Met l yX5_replace (xws yX5_replace cX5_replace 6 (some .boolean)) jr_X5_replace (xPc D ty h [.ref v0, .int v1, .ref v2, .int v3]) (xQ D ty (some (.int r)) h9) 0 0 (xdom ty) := by
  refine x_met (by decide) ?_
  intro p e s m below meth c C0 hR
  generalize hargs : ([.ref v0, .int v1, .ref v2, .int v3] : List Value).toArray = args at C0 ⊢
  have hx := C0.1
  have hb := C0.2.1
  have hown := C0.2.2.2.2.2.1
  have hts := C0.2.2.2.2.2.2.1
  have hS : xS ty s.heap s.heap [] := xS.rf
  have hl := lv_entry ([.ref v0, .int v1, .ref v2, .int v3]) (n := 6) (Nat.le_of_ble_eq_true rfl)
  rw [← hargs, lg_entry_eq]
  rw [hargs]
  generalize (lg_sl ([.ref v0, .int v1, .ref v2, .int v3]) ++ List.replicate (6 - (lg_sl ([.ref v0, .int v1, .ref v2, .int v3])).length) Slot.unset).toArray = ls at hl ⊢
  have hl : lv_has ls 6 [(0, .ref v0), (1, .int v1), (2, .ref v2), (3, .int v3)] := hl
  unfold jf_X5_replace at hF
  refine lv_aload_n hx hb dX5_replace_0 rfl (lv_at hl 0 rfl) ?_
  obtain ⟨a23, e_a23, hF⟩ := xbd hF
  obtain ⟨e_a23, t_a23⟩ := xgo_sp e_a23
  refine gf_X5_23 C0 hR t_v0 e_a23 dX5_replace_1 ?_
  obtain ⟨h24, e_h24, hF⟩ := xbd hF
  refine cl_X5_78 C0 hR hS e_h24 t_a23 ⟨(Nat.le_of_ble_eq_true rfl), (Nat.le_of_ble_eq_true rfl)⟩ hl.1 (Nat.le_of_ble_eq_true rfl) ⟨(Nat.le_of_ble_eq_true rfl), (Nat.le_of_ble_eq_true rfl)⟩ dX5_replace_4 (fun H locs hR hS => ?_)
  refine lv_aload_n hx hb dX5_replace_7 rfl (lv_at hl 0 rfl) ?_
  obtain ⟨a25, e_a25, hF⟩ := xbd hF
  obtain ⟨e_a25, t_a25⟩ := xgo_sp e_a25
  refine gf_X5_23 C0 hR t_v0 e_a25 dX5_replace_8 ?_
  refine lv_aload_n hx hb dX5_replace_11 rfl (lv_at hl 0 rfl) ?_
  obtain ⟨a26, e_a26, hF⟩ := xbd hF
  obtain ⟨e_a26, t_a26⟩ := xgo_sp e_a26
  refine gf_X5_27 C0 hR t_v0 e_a26 dX5_replace_12 ?_
  refine lv_iconst (v := 0) hx hb dX5_replace_15 (by decide) ?_
  refine lv_iload_n hx hb dX5_replace_16 rfl (lv_at hl 1 rfl) ?_
  obtain ⟨a28, h27, e_h27, hF⟩ := xbd2 hF
  refine cl_X5_81 C0 hR hS e_h27 t_a25 t_a26 ⟨(Nat.le_of_ble_eq_true rfl), (Nat.le_of_ble_eq_true rfl)⟩ hl.1 (Nat.le_of_ble_eq_true rfl) ⟨(Nat.le_of_ble_eq_true rfl), (Nat.le_of_ble_eq_true rfl)⟩ dX5_replace_17 (fun H locs hR hS => ?_)
  refine lv_istore (lv' := [(4, .int a28), (0, .ref v0), (1, .int v1), (2, .ref v2), (3, .int v3)]) hx hb dX5_replace_20 hl (by decide) rfl (fun ls hl => ?_)
  refine lv_iconst (v := 0) hx hb dX5_replace_22 (by decide) ?_
  refine lv_istore (lv' := [(5, .int 0), (4, .int a28), (0, .ref v0), (1, .int v1), (2, .ref v2), (3, .int v3)]) hx hb dX5_replace_23 hl (by decide) rfl (fun ls hl => ?_)
  obtain ⟨_, hF⟩ := xlim_sp hF
  exact jw_X5_replace_25 C0 _ _ _ _ _ _ _ _ t_v0 t_v2 hF _ _ hR hS _ (lv_sub hl [2, 3, 4, 5, 1, 0] rfl)
theorem xm_X5_replace : xMw yX5_replace cX5_replace 6 (some .boolean) 3 := ⟨xin 1062 (by decide +kernel) rfl, xin 124 (by decide +kernel) rfl, by decide +kernel⟩
theorem xi_X5_replace : Cond.instanceMethod yX5_replace ∈ xT := xin 1061 (by decide +kernel) rfl
theorem xe_X5_replace : Cond.selects yX5_replace.cls yX5_replace yX5_replace ∈ xT := xin 46 (by decide +kernel) rfl
theorem dX5_makeStep_0 : decode cX5_makeStep 0 = .ok (.iconst 0, 1) := by decide +kernel
theorem dX5_makeStep_1 : decode cX5_makeStep 1 = .ok (.istore_n 3, 1) := by decide +kernel
theorem dX5_makeStep_2 : decode cX5_makeStep 2 = .ok (.iload_n 3, 1) := by decide +kernel
theorem dX5_makeStep_3 : decode cX5_makeStep 3 = .ok (.aload_n 0, 1) := by decide +kernel
theorem dX5_makeStep_4 : decode cX5_makeStep 4 = .ok (.getfield 27, 3) := by decide +kernel
theorem dX5_makeStep_7 : decode cX5_makeStep 7 = .ok (.getfield 45, 3) := by decide +kernel
theorem dX5_makeStep_10 : decode cX5_makeStep 10 = .ok (.if_icmp .ge 38, 3) := by decide +kernel
theorem dX5_makeStep_13 : decode cX5_makeStep 13 = .ok (.aload_n 0, 1) := by decide +kernel
theorem dX5_makeStep_14 : decode cX5_makeStep 14 = .ok (.aload_n 1, 1) := by decide +kernel
theorem dX5_makeStep_15 : decode cX5_makeStep 15 = .ok (.aload_n 2, 1) := by decide +kernel
theorem dX5_makeStep_16 : decode cX5_makeStep 16 = .ok (.iload_n 3, 1) := by decide +kernel
theorem dX5_makeStep_17 : decode cX5_makeStep 17 = .ok (.invokevirtual 48, 3) := by decide +kernel
theorem dX5_makeStep_20 : decode cX5_makeStep 20 = .ok (.istore 4, 2) := by decide +kernel
theorem dX5_makeStep_22 : decode cX5_makeStep 22 = .ok (.iload 4, 2) := by decide +kernel
theorem dX5_makeStep_24 : decode cX5_makeStep 24 = .ok (.iconst (-1), 1) := by decide +kernel
theorem dX5_makeStep_25 : decode cX5_makeStep 25 = .ok (.if_icmp .eq 17, 3) := by decide +kernel
theorem dX5_makeStep_28 : decode cX5_makeStep 28 = .ok (.aload_n 0, 1) := by decide +kernel
theorem dX5_makeStep_29 : decode cX5_makeStep 29 = .ok (.iload_n 3, 1) := by decide +kernel
theorem dX5_makeStep_30 : decode cX5_makeStep 30 = .ok (.aload_n 1, 1) := by decide +kernel
theorem dX5_makeStep_31 : decode cX5_makeStep 31 = .ok (.iload 4, 2) := by decide +kernel
theorem dX5_makeStep_33 : decode cX5_makeStep 33 = .ok (.invokevirtual 52, 3) := by decide +kernel
theorem dX5_makeStep_36 : decode cX5_makeStep 36 = .ok (.iload 4, 2) := by decide +kernel
theorem dX5_makeStep_38 : decode cX5_makeStep 38 = .ok (.invokevirtual 58, 3) := by decide +kernel
theorem dX5_makeStep_41 : decode cX5_makeStep 41 = .ok (.ireturn, 1) := by decide +kernel
theorem dX5_makeStep_42 : decode cX5_makeStep 42 = .ok (.iinc 3 1, 3) := by decide +kernel
theorem dX5_makeStep_45 : decode cX5_makeStep 45 = .ok (.goto (-43), 3) := by decide +kernel
theorem dX5_makeStep_48 : decode cX5_makeStep 48 = .ok (.iconst 0, 1) := by decide +kernel
theorem dX5_makeStep_49 : decode cX5_makeStep 49 = .ok (.ireturn, 1) := by decide +kernel
theorem wl_X5_48 : Cond.methodLink RX5 48 yX5_ruleFor ∈ xT := xin 1051 (by decide +kernel) rfl
theorem wl_X5_58 : Cond.methodLink RX5 58 yX5_replace ∈ xT := xin 1059 (by decide +kernel) rfl
section XN_X5_makeStep
variable {p : Program} {l : Launch} {e : Env} {R : Room} {s : State} {m : MethodId} {args : Array Value} {below : List Frame} {meth : Method} {c : Code} {H H0 : Heap} {locs : List Loc} {cells slots : Nat} {Q : State → Prop} {cc : ByteArray} {nL pc : Nat} {rt : Option FieldType} {ls : Array Slot} {rest : List Value} {D : xD} {ty : xTy} {h : xH}
theorem cl_X5_48 {v0 : Nat} {v1 : Nat} {v2 : Nat} {v3 : Int32} {r : Int32} {h9 : xH} (C0 : xC D RX5 cc nL rt p s m args meth c) (hR : xRep D ty h H) (hS : xS ty H0 H locs) (hF : jf_X5_ruleFor ty h v0 v1 v2 v3 = some (r, h9)) (t_v0 : ty v0 = some (0, 5)) (t_v1 : ty v1 = some (0, 0)) (t_v2 : ty v2 = some (0, 6)) (hrm : jr_X5_ruleFor.frames + 1 ≤ R.frames ∧ 8 + (5 + 11) + jr_X5_ruleFor.locals ≤ R.locals) (hsz : ls.size = nL) (hW : (rest.map fun v => v.category).sum ≤ 8) (hf : cells ≤ R.cells ∧ slots ≤ R.slots) (hdg : decode cc pc = .ok (.invokevirtual 48, 3)) (kk : ∀ (H1 : Heap) (locs1 : List Loc), xRep D ty h9 H1 → xS ty H0 H1 locs1 → W p l e R s m args below meth c H1 locs1 cells slots Q (F0 m (pc + 3) ls (.int r :: rest))) : W p l e R s m args below meth c H locs cells slots Q (F0 m pc ls (.int v3 :: .ref v2 :: .ref v1 :: .ref v0 :: rest)) := x_callV C0 (jc_X5_ruleFor t_v0 t_v1 t_v2 hF) xm_X5_ruleFor xi_X5_ruleFor xe_X5_ruleFor wl_X5_48 ⟨rfl, rfl, hrm⟩ (ci := 5) rfl t_v0 hR hS (As := [.ref v1, .ref v2, .int v3]) rfl hsz rfl hW hdg hf kk
theorem cl_X5_58 {v0 : Nat} {v1 : Int32} {v2 : Nat} {v3 : Int32} {r : Int32} {h9 : xH} (C0 : xC D RX5 cc nL rt p s m args meth c) (hR : xRep D ty h H) (hS : xS ty H0 H locs) (hF : jf_X5_replace ty h v0 v1 v2 v3 = some (r, h9)) (t_v0 : ty v0 = some (0, 5)) (t_v2 : ty v2 = some (0, 7)) (hrm : jr_X5_replace.frames + 1 ≤ R.frames ∧ 8 + (6 + 11) + jr_X5_replace.locals ≤ R.locals) (hsz : ls.size = nL) (hW : (rest.map fun v => v.category).sum ≤ 8) (hf : cells ≤ R.cells ∧ slots ≤ R.slots) (hdg : decode cc pc = .ok (.invokevirtual 58, 3)) (kk : ∀ (H1 : Heap) (locs1 : List Loc), xRep D ty h9 H1 → xS ty H0 H1 locs1 → W p l e R s m args below meth c H1 locs1 cells slots Q (F0 m (pc + 3) ls (.int r :: rest))) : W p l e R s m args below meth c H locs cells slots Q (F0 m pc ls (.int v3 :: .ref v2 :: .int v1 :: .ref v0 :: rest)) := x_callV C0 (jc_X5_replace t_v0 t_v2 hF) xm_X5_replace xi_X5_replace xe_X5_replace wl_X5_58 ⟨rfl, rfl, hrm⟩ (ci := 5) rfl t_v0 hR hS (As := [.int v1, .ref v2, .int v3]) rfl hsz rfl hW hdg hf kk
end XN_X5_makeStep
set_option maxHeartbeats 4000000 in
set_option maxRecDepth 100000 in
theorem jw_X5_makeStep_2 {p : Program} {l : Launch} {e : Env} {s : State} {m : MethodId} {args : Array Value} {below : List Frame} {meth : Method} {c : Code} {D : xD} {ty : xTy} (C0 : xC D RX5 cX5_makeStep 5 (some .boolean) p s m args meth c) {r : Int32} {h9 : xH} : ∀ n : Nat, ∀ (v0 : Nat) (v1 : Nat) (v2 : Nat) (v3 : Int32) (h : xH), ty v0 = some (0, 5) → ty v1 = some (0, 0) → ty v2 = some (0, 6) → jf_X5_makeStep_2 ty n v0 v1 v2 v3 h = some (r, h9) → ∀ (H : Heap) (locs : List Loc), xRep D ty h H → xS ty s.heap H locs → ∀ ls : Array Slot, lv_has ls 5 [(0, .ref v0), (1, .ref v1), (2, .ref v2), (3, .int v3)] → W p l e jr_X5_makeStep s m args below meth c H locs 0 0 (MQ below (xQ D ty (some (.int r)) h9) args s 0 0 (xdom ty)) (F0 m 2 ls []) := by
  have hx := C0.1
  have hb := C0.2.1
  have hown := C0.2.2.2.2.2.1
  have hts := C0.2.2.2.2.2.2.1
  intro n
  induction n with
  | zero =>
    intro v0 v1 v2 v3 h t_v0 t_v1 t_v2 hF H locs hR hS ls hl
    cases hF
  | succ n ih =>
    intro v0 v1 v2 v3 h t_v0 t_v1 t_v2 hF H locs hR hS ls hl
    rw [jf_X5_makeStep_2_s] at hF
    refine lv_iload_n hx hb dX5_makeStep_2 rfl (lv_at hl 3 rfl) ?_
    refine lv_aload_n hx hb dX5_makeStep_3 rfl (lv_at hl 0 rfl) ?_
    obtain ⟨a1, e_a1, hF⟩ := xbd hF
    obtain ⟨e_a1, t_a1⟩ := xgo_sp e_a1
    refine gf_X5_27 C0 hR t_v0 e_a1 dX5_makeStep_4 ?_
    refine gf_X5_45 C0 hR t_a1 dX5_makeStep_7 ?_
    refine lv_icmp_ge (tgt := 48) hx hb dX5_makeStep_10 (by decide) (fun c2 => ?_) (fun c2 => ?_)
    · have hF := xif hF c2
      refine lv_iconst (v := 0) hx hb dX5_makeStep_48 (by decide) ?_
      cases hF
      exact x_zret (w := 0) C0 hR hS (by decide) dX5_makeStep_49
    · have hF := xel hF c2
      refine lv_aload_n hx hb dX5_makeStep_13 rfl (lv_at hl 0 rfl) ?_
      refine lv_aload_n hx hb dX5_makeStep_14 rfl (lv_at hl 1 rfl) ?_
      refine lv_aload_n hx hb dX5_makeStep_15 rfl (lv_at hl 2 rfl) ?_
      refine lv_iload_n hx hb dX5_makeStep_16 rfl (lv_at hl 3 rfl) ?_
      obtain ⟨a4, h3, e_h3, hF⟩ := xbd2 hF
      refine cl_X5_48 C0 hR hS e_h3 t_v0 t_v1 t_v2 ⟨(Nat.le_of_ble_eq_true rfl), (Nat.le_of_ble_eq_true rfl)⟩ hl.1 (Nat.le_of_ble_eq_true rfl) ⟨(Nat.le_of_ble_eq_true rfl), (Nat.le_of_ble_eq_true rfl)⟩ dX5_makeStep_17 (fun H locs hR hS => ?_)
      refine lv_istore (lv' := [(4, .int a4), (0, .ref v0), (1, .ref v1), (2, .ref v2), (3, .int v3)]) hx hb dX5_makeStep_20 hl (by decide) rfl (fun ls hl => ?_)
      refine lv_iload hx hb dX5_makeStep_22 (lv_at hl 0 rfl) ?_
      refine lv_iconst (v := (-1)) hx hb dX5_makeStep_24 (by decide) ?_
      refine lv_icmp_eq (tgt := 42) hx hb dX5_makeStep_25 (by decide) (fun c5 => ?_) (fun c5 => ?_)
      · have hF := xif hF c5
        refine lv_iinc (v := v3 + 1) (lv' := [(3, .int (v3 + 1)), (4, .int a4), (0, .ref v0), (1, .ref v1), (2, .ref v2)]) hx hb dX5_makeStep_42 hl (k := 4) rfl rfl (by decide) rfl (fun ls hl => ?_)
        refine lv_goto (tgt := 2) hx hb dX5_makeStep_45 (by decide) ?_
        exact ih _ _ _ _ _ t_v0 t_v1 t_v2 hF _ _ hR hS _ (lv_sub hl [2, 3, 4, 0] rfl)
      · have hF := xel hF c5
        refine lv_aload_n hx hb dX5_makeStep_28 rfl (lv_at hl 1 rfl) ?_
        refine lv_iload_n hx hb dX5_makeStep_29 rfl (lv_at hl 4 rfl) ?_
        refine lv_aload_n hx hb dX5_makeStep_30 rfl (lv_at hl 2 rfl) ?_
        refine lv_iload hx hb dX5_makeStep_31 (lv_at hl 0 rfl) ?_
        obtain ⟨a6, e_a6, hF⟩ := xbd hF
        obtain ⟨u7, e_u7, hF⟩ := xbd hF
        have t_a6 := xck_sp e_u7
        refine cl_X5_52 C0 hR hS e_a6 t_v1 ⟨(Nat.le_of_ble_eq_true rfl), (Nat.le_of_ble_eq_true rfl)⟩ hl.1 (Nat.le_of_ble_eq_true rfl) ⟨(Nat.le_of_ble_eq_true rfl), (Nat.le_of_ble_eq_true rfl)⟩ dX5_makeStep_33 (fun H locs hR hS => ?_)
        refine lv_iload hx hb dX5_makeStep_36 (lv_at hl 0 rfl) ?_
        obtain ⟨a9, h8, e_h8, hF⟩ := xbd2 hF
        refine cl_X5_58 C0 hR hS e_h8 t_v0 t_a6 ⟨(Nat.le_of_ble_eq_true rfl), (Nat.le_of_ble_eq_true rfl)⟩ hl.1 (Nat.le_of_ble_eq_true rfl) ⟨(Nat.le_of_ble_eq_true rfl), (Nat.le_of_ble_eq_true rfl)⟩ dX5_makeStep_38 (fun H locs hR hS => ?_)
        obtain ⟨w10, e_w10, hF⟩ := xbd hF
        cases hF
        exact x_zret C0 hR hS e_w10 dX5_makeStep_41
set_option maxHeartbeats 4000000 in
set_option maxRecDepth 100000 in
theorem jc_X5_makeStep {l : Launch} {D : xD} {ty : xTy} {h : xH} {v0 : Nat} {v1 : Nat} {v2 : Nat} {r : Int32} {h9 : xH} (t_v0 : ty v0 = some (0, 5)) (t_v1 : ty v1 = some (0, 0)) (t_v2 : ty v2 = some (0, 6)) (hF : jf_X5_makeStep ty h v0 v1 v2 = some (r, h9)) : Met l yX5_makeStep (xws yX5_makeStep cX5_makeStep 5 (some .boolean)) jr_X5_makeStep (xPc D ty h [.ref v0, .ref v1, .ref v2]) (xQ D ty (some (.int r)) h9) 0 0 (xdom ty) := by
  refine x_met (by decide) ?_
  intro p e s m below meth c C0 hR
  generalize hargs : ([.ref v0, .ref v1, .ref v2] : List Value).toArray = args at C0 ⊢
  have hx := C0.1
  have hb := C0.2.1
  have hown := C0.2.2.2.2.2.1
  have hts := C0.2.2.2.2.2.2.1
  have hS : xS ty s.heap s.heap [] := xS.rf
  have hl := lv_entry ([.ref v0, .ref v1, .ref v2]) (n := 5) (Nat.le_of_ble_eq_true rfl)
  rw [← hargs, lg_entry_eq]
  rw [hargs]
  generalize (lg_sl ([.ref v0, .ref v1, .ref v2]) ++ List.replicate (5 - (lg_sl ([.ref v0, .ref v1, .ref v2])).length) Slot.unset).toArray = ls at hl ⊢
  have hl : lv_has ls 5 [(0, .ref v0), (1, .ref v1), (2, .ref v2)] := hl
  unfold jf_X5_makeStep at hF
  refine lv_iconst (v := 0) hx hb dX5_makeStep_0 (by decide) ?_
  refine lv_istore_n (lv' := [(3, .int 0), (0, .ref v0), (1, .ref v1), (2, .ref v2)]) hx hb dX5_makeStep_1 rfl hl (by decide) rfl (fun ls hl => ?_)
  obtain ⟨_, hF⟩ := xlim_sp hF
  exact jw_X5_makeStep_2 C0 _ _ _ _ _ _ t_v0 t_v1 t_v2 hF _ _ hR hS _ (lv_sub hl [1, 2, 3, 0] rfl)
theorem xm_X5_makeStep : xMw yX5_makeStep cX5_makeStep 5 (some .boolean) 2 := ⟨xin 1050 (by decide +kernel) rfl, xin 124 (by decide +kernel) rfl, by decide +kernel⟩
theorem xi_X5_makeStep : Cond.instanceMethod yX5_makeStep ∈ xT := xin 1049 (by decide +kernel) rfl
theorem xe_X5_makeStep : Cond.selects yX5_makeStep.cls yX5_makeStep yX5_makeStep ∈ xT := xin 44 (by decide +kernel) rfl
theorem dX5_rewrite_0 : decode cX5_rewrite 0 = .ok (.aload_n 0, 1) := by decide +kernel
theorem dX5_rewrite_1 : decode cX5_rewrite 1 = .ok (.getfield 27, 3) := by decide +kernel
theorem dX5_rewrite_4 : decode cX5_rewrite 4 = .ok (.aload_n 3, 1) := by decide +kernel
theorem dX5_rewrite_5 : decode cX5_rewrite 5 = .ok (.invokevirtual 37, 3) := by decide +kernel
theorem dX5_rewrite_8 : decode cX5_rewrite 8 = .ok (.aload_n 0, 1) := by decide +kernel
theorem dX5_rewrite_9 : decode cX5_rewrite 9 = .ok (.iconst 0, 1) := by decide +kernel
theorem dX5_rewrite_10 : decode cX5_rewrite 10 = .ok (.putfield 30, 3) := by decide +kernel
theorem dX5_rewrite_13 : decode cX5_rewrite 13 = .ok (.aload_n 0, 1) := by decide +kernel
theorem dX5_rewrite_14 : decode cX5_rewrite 14 = .ok (.bipush (-2), 2) := by decide +kernel
theorem dX5_rewrite_16 : decode cX5_rewrite 16 = .ok (.putfield 34, 3) := by decide +kernel
theorem dX5_rewrite_19 : decode cX5_rewrite 19 = .ok (.iconst 1, 1) := by decide +kernel
theorem dX5_rewrite_20 : decode cX5_rewrite 20 = .ok (.istore 4, 2) := by decide +kernel
theorem dX5_rewrite_22 : decode cX5_rewrite 22 = .ok (.iconst 0, 1) := by decide +kernel
theorem dX5_rewrite_23 : decode cX5_rewrite 23 = .ok (.istore 5, 2) := by decide +kernel
theorem dX5_rewrite_25 : decode cX5_rewrite 25 = .ok (.iload 5, 2) := by decide +kernel
theorem dX5_rewrite_27 : decode cX5_rewrite 27 = .ok (.bipush 20, 2) := by decide +kernel
theorem dX5_rewrite_29 : decode cX5_rewrite 29 = .ok (.if_icmp .ge 22, 3) := by decide +kernel
theorem dX5_rewrite_32 : decode cX5_rewrite 32 = .ok (.iload 4, 2) := by decide +kernel
theorem dX5_rewrite_34 : decode cX5_rewrite 34 = .ok (.ifCond .eq 17, 3) := by decide +kernel
theorem dX5_rewrite_37 : decode cX5_rewrite 37 = .ok (.aload_n 0, 1) := by decide +kernel
theorem dX5_rewrite_38 : decode cX5_rewrite 38 = .ok (.aload_n 1, 1) := by decide +kernel
theorem dX5_rewrite_39 : decode cX5_rewrite 39 = .ok (.aload_n 2, 1) := by decide +kernel
theorem dX5_rewrite_40 : decode cX5_rewrite 40 = .ok (.invokevirtual 41, 3) := by decide +kernel
theorem dX5_rewrite_43 : decode cX5_rewrite 43 = .ok (.istore 4, 2) := by decide +kernel
theorem dX5_rewrite_45 : decode cX5_rewrite 45 = .ok (.iinc 5 1, 3) := by decide +kernel
theorem dX5_rewrite_48 : decode cX5_rewrite 48 = .ok (.goto (-23), 3) := by decide +kernel
theorem dX5_rewrite_51 : decode cX5_rewrite 51 = .ok (.return_, 1) := by decide +kernel
theorem wl_X5_37 : Cond.methodLink RX5 37 yX7_copyOf ∈ xT := xin 1036 (by decide +kernel) rfl
theorem wl_X5_41 : Cond.methodLink RX5 41 yX5_makeStep ∈ xT := xin 1047 (by decide +kernel) rfl
section XN_X5_rewrite
variable {p : Program} {l : Launch} {e : Env} {R : Room} {s : State} {m : MethodId} {args : Array Value} {below : List Frame} {meth : Method} {c : Code} {H H0 : Heap} {locs : List Loc} {cells slots : Nat} {Q : State → Prop} {cc : ByteArray} {nL pc : Nat} {rt : Option FieldType} {ls : Array Slot} {rest : List Value} {D : xD} {ty : xTy} {h : xH}
theorem cl_X5_37 {v0 : Nat} {v1 : Nat} {h9 : xH} (C0 : xC D RX5 cc nL rt p s m args meth c) (hR : xRep D ty h H) (hS : xS ty H0 H locs) (hF : jf_X7_copyOf ty h v0 v1 = some h9) (t_v0 : ty v0 = some (0, 7)) (t_v1 : ty v1 = some (0, 7)) (hrm : jr_X7_copyOf.frames + 1 ≤ R.frames ∧ 8 + (2 + 11) + jr_X7_copyOf.locals ≤ R.locals) (hsz : ls.size = nL) (hW : (rest.map fun v => v.category).sum ≤ 8) (hf : cells ≤ R.cells ∧ slots ≤ R.slots) (hdg : decode cc pc = .ok (.invokevirtual 37, 3)) (kk : ∀ (H1 : Heap) (locs1 : List Loc), xRep D ty h9 H1 → xS ty H0 H1 locs1 → W p l e R s m args below meth c H1 locs1 cells slots Q (F0 m (pc + 3) ls rest)) : W p l e R s m args below meth c H locs cells slots Q (F0 m pc ls (.ref v1 :: .ref v0 :: rest)) := x_callV C0 (jc_X7_copyOf t_v0 t_v1 hF) xm_X7_copyOf xi_X7_copyOf xe_X7_copyOf wl_X5_37 ⟨rfl, rfl, hrm⟩ (ci := 7) rfl t_v0 hR hS (As := [.ref v1]) rfl hsz rfl hW hdg hf kk
theorem cl_X5_41 {v0 : Nat} {v1 : Nat} {v2 : Nat} {r : Int32} {h9 : xH} (C0 : xC D RX5 cc nL rt p s m args meth c) (hR : xRep D ty h H) (hS : xS ty H0 H locs) (hF : jf_X5_makeStep ty h v0 v1 v2 = some (r, h9)) (t_v0 : ty v0 = some (0, 5)) (t_v1 : ty v1 = some (0, 0)) (t_v2 : ty v2 = some (0, 6)) (hrm : jr_X5_makeStep.frames + 1 ≤ R.frames ∧ 8 + (5 + 11) + jr_X5_makeStep.locals ≤ R.locals) (hsz : ls.size = nL) (hW : (rest.map fun v => v.category).sum ≤ 8) (hf : cells ≤ R.cells ∧ slots ≤ R.slots) (hdg : decode cc pc = .ok (.invokevirtual 41, 3)) (kk : ∀ (H1 : Heap) (locs1 : List Loc), xRep D ty h9 H1 → xS ty H0 H1 locs1 → W p l e R s m args below meth c H1 locs1 cells slots Q (F0 m (pc + 3) ls (.int r :: rest))) : W p l e R s m args below meth c H locs cells slots Q (F0 m pc ls (.ref v2 :: .ref v1 :: .ref v0 :: rest)) := x_callV C0 (jc_X5_makeStep t_v0 t_v1 t_v2 hF) xm_X5_makeStep xi_X5_makeStep xe_X5_makeStep wl_X5_41 ⟨rfl, rfl, hrm⟩ (ci := 5) rfl t_v0 hR hS (As := [.ref v1, .ref v2]) rfl hsz rfl hW hdg hf kk
end XN_X5_rewrite
set_option maxHeartbeats 4000000 in
set_option maxRecDepth 100000 in
theorem jw_X5_rewrite_25 {p : Program} {l : Launch} {e : Env} {s : State} {m : MethodId} {args : Array Value} {below : List Frame} {meth : Method} {c : Code} {D : xD} {ty : xTy} (C0 : xC D RX5 cX5_rewrite 6 none p s m args meth c) {h9 : xH} : ∀ n : Nat, ∀ (v0 : Nat) (v1 : Nat) (v2 : Nat) (v4 : Int32) (v5 : Int32) (h : xH), ty v0 = some (0, 5) → ty v1 = some (0, 0) → ty v2 = some (0, 6) → jf_X5_rewrite_25 ty n v0 v1 v2 v4 v5 h = some h9 → ∀ (H : Heap) (locs : List Loc), xRep D ty h H → xS ty s.heap H locs → ∀ ls : Array Slot, lv_has ls 6 [(0, .ref v0), (1, .ref v1), (2, .ref v2), (4, .int v4), (5, .int v5)] → W p l e jr_X5_rewrite s m args below meth c H locs 0 0 (MQ below (xQ D ty none h9) args s 0 0 (xdom ty)) (F0 m 25 ls []) := by
  have hx := C0.1
  have hb := C0.2.1
  have hown := C0.2.2.2.2.2.1
  have hts := C0.2.2.2.2.2.2.1
  intro n
  induction n with
  | zero =>
    intro v0 v1 v2 v4 v5 h t_v0 t_v1 t_v2 hF H locs hR hS ls hl
    cases hF
  | succ n ih =>
    intro v0 v1 v2 v4 v5 h t_v0 t_v1 t_v2 hF H locs hR hS ls hl
    rw [jf_X5_rewrite_25_s] at hF
    refine lv_iload hx hb dX5_rewrite_25 (lv_at hl 4 rfl) ?_
    refine lv_bipush (v := 20) hx hb dX5_rewrite_27 (by decide) ?_
    refine lv_icmp_ge (tgt := 51) hx hb dX5_rewrite_29 (by decide) (fun c1 => ?_) (fun c1 => ?_)
    · have hF := xif hF c1
      cases hF
      exact x_vret C0 hR hS dX5_rewrite_51
    · have hF := xel hF c1
      refine lv_iload hx hb dX5_rewrite_32 (lv_at hl 3 rfl) ?_
      refine lv_if_eq (tgt := 51) hx hb dX5_rewrite_34 (by decide) (fun c2 => ?_) (fun c2 => ?_)
      · have hF := xif hF c2
        cases hF
        exact x_vret C0 hR hS dX5_rewrite_51
      · have hF := xel hF c2
        refine lv_aload_n hx hb dX5_rewrite_37 rfl (lv_at hl 0 rfl) ?_
        refine lv_aload_n hx hb dX5_rewrite_38 rfl (lv_at hl 1 rfl) ?_
        refine lv_aload_n hx hb dX5_rewrite_39 rfl (lv_at hl 2 rfl) ?_
        obtain ⟨a4, h3, e_h3, hF⟩ := xbd2 hF
        refine cl_X5_41 C0 hR hS e_h3 t_v0 t_v1 t_v2 ⟨(Nat.le_of_ble_eq_true rfl), (Nat.le_of_ble_eq_true rfl)⟩ hl.1 (Nat.le_of_ble_eq_true rfl) ⟨(Nat.le_of_ble_eq_true rfl), (Nat.le_of_ble_eq_true rfl)⟩ dX5_rewrite_40 (fun H locs hR hS => ?_)
        refine lv_istore (lv' := [(4, .int a4), (0, .ref v0), (1, .ref v1), (2, .ref v2), (5, .int v5)]) hx hb dX5_rewrite_43 hl (by decide) rfl (fun ls hl => ?_)
        refine lv_iinc (v := v5 + 1) (lv' := [(5, .int (v5 + 1)), (4, .int a4), (0, .ref v0), (1, .ref v1), (2, .ref v2)]) hx hb dX5_rewrite_45 hl (k := 4) rfl rfl (by decide) rfl (fun ls hl => ?_)
        refine lv_goto (tgt := 25) hx hb dX5_rewrite_48 (by decide) ?_
        exact ih _ _ _ _ _ _ t_v0 t_v1 t_v2 hF _ _ hR hS _ (lv_sub hl [2, 3, 4, 1, 0] rfl)
set_option maxHeartbeats 4000000 in
set_option maxRecDepth 100000 in
theorem jc_X5_rewrite {l : Launch} {D : xD} {ty : xTy} {h : xH} {v0 : Nat} {v1 : Nat} {v2 : Nat} {v3 : Nat} {h9 : xH} (t_v0 : ty v0 = some (0, 5)) (t_v1 : ty v1 = some (0, 0)) (t_v2 : ty v2 = some (0, 6)) (t_v3 : ty v3 = some (0, 7)) (hF : jf_X5_rewrite ty h v0 v1 v2 v3 = some h9) : Met l yX5_rewrite (xws yX5_rewrite cX5_rewrite 6 none) jr_X5_rewrite (xPc D ty h [.ref v0, .ref v1, .ref v2, .ref v3]) (xQ D ty none h9) 0 0 (xdom ty) := by
  refine x_met (by decide) ?_
  intro p e s m below meth c C0 hR
  generalize hargs : ([.ref v0, .ref v1, .ref v2, .ref v3] : List Value).toArray = args at C0 ⊢
  have hx := C0.1
  have hb := C0.2.1
  have hown := C0.2.2.2.2.2.1
  have hts := C0.2.2.2.2.2.2.1
  have hS : xS ty s.heap s.heap [] := xS.rf
  have hl := lv_entry ([.ref v0, .ref v1, .ref v2, .ref v3]) (n := 6) (Nat.le_of_ble_eq_true rfl)
  rw [← hargs, lg_entry_eq]
  rw [hargs]
  generalize (lg_sl ([.ref v0, .ref v1, .ref v2, .ref v3]) ++ List.replicate (6 - (lg_sl ([.ref v0, .ref v1, .ref v2, .ref v3])).length) Slot.unset).toArray = ls at hl ⊢
  have hl : lv_has ls 6 [(0, .ref v0), (1, .ref v1), (2, .ref v2), (3, .ref v3)] := hl
  unfold jf_X5_rewrite at hF
  refine lv_aload_n hx hb dX5_rewrite_0 rfl (lv_at hl 0 rfl) ?_
  obtain ⟨a5, e_a5, hF⟩ := xbd hF
  obtain ⟨e_a5, t_a5⟩ := xgo_sp e_a5
  refine gf_X5_27 C0 hR t_v0 e_a5 dX5_rewrite_1 ?_
  refine lv_aload_n hx hb dX5_rewrite_4 rfl (lv_at hl 3 rfl) ?_
  obtain ⟨h6, e_h6, hF⟩ := xbd hF
  refine cl_X5_37 C0 hR hS e_h6 t_a5 t_v3 ⟨(Nat.le_of_ble_eq_true rfl), (Nat.le_of_ble_eq_true rfl)⟩ hl.1 (Nat.le_of_ble_eq_true rfl) ⟨(Nat.le_of_ble_eq_true rfl), (Nat.le_of_ble_eq_true rfl)⟩ dX5_rewrite_5 (fun H locs hR hS => ?_)
  refine lv_aload_n hx hb dX5_rewrite_8 rfl (lv_at hl 0 rfl) ?_
  refine lv_iconst (v := 0) hx hb dX5_rewrite_9 (by decide) ?_
  obtain ⟨h7, e_h7, hF⟩ := xbd hF
  refine pf_X5_30 C0 hR hS t_v0 dX5_rewrite_10 (fun H locs hR hS => ?_)
  rw [Option.some.inj e_h7] at hR
  refine lv_aload_n hx hb dX5_rewrite_13 rfl (lv_at hl 0 rfl) ?_
  refine lv_bipush (v := (-2)) hx hb dX5_rewrite_14 (by decide) ?_
  obtain ⟨h8, e_h8, hF⟩ := xbd hF
  refine pf_X5_34 C0 hR hS t_v0 dX5_rewrite_16 (fun H locs hR hS => ?_)
  rw [Option.some.inj e_h8] at hR
  refine lv_iconst (v := 1) hx hb dX5_rewrite_19 (by decide) ?_
  refine lv_istore (lv' := [(4, .int 1), (0, .ref v0), (1, .ref v1), (2, .ref v2), (3, .ref v3)]) hx hb dX5_rewrite_20 hl (by decide) rfl (fun ls hl => ?_)
  refine lv_iconst (v := 0) hx hb dX5_rewrite_22 (by decide) ?_
  refine lv_istore (lv' := [(5, .int 0), (4, .int 1), (0, .ref v0), (1, .ref v1), (2, .ref v2), (3, .ref v3)]) hx hb dX5_rewrite_23 hl (by decide) rfl (fun ls hl => ?_)
  obtain ⟨_, hF⟩ := xlim_sp hF
  exact jw_X5_rewrite_25 C0 _ _ _ _ _ _ _ t_v0 t_v1 t_v2 hF _ _ hR hS _ (lv_sub hl [2, 3, 4, 1, 0] rfl)
theorem xm_X5_rewrite : xMw yX5_rewrite cX5_rewrite 6 none 3 := ⟨xin 1035 (by decide +kernel) rfl, xin 124 (by decide +kernel) rfl, by decide +kernel⟩
theorem xi_X5_rewrite : Cond.instanceMethod yX5_rewrite ∈ xT := xin 1033 (by decide +kernel) rfl
theorem xe_X5_rewrite : Cond.selects yX5_rewrite.cls yX5_rewrite yX5_rewrite ∈ xT := xin 1034 (by decide +kernel) rfl
theorem dX6_startAnew_0 : decode cX6_startAnew 0 = .ok (.aload_n 0, 1) := by decide +kernel
theorem dX6_startAnew_1 : decode cX6_startAnew 1 = .ok (.iconst 1, 1) := by decide +kernel
theorem dX6_startAnew_2 : decode cX6_startAnew 2 = .ok (.iload_n 1, 1) := by decide +kernel
theorem dX6_startAnew_3 : decode cX6_startAnew 3 = .ok (.ishl, 1) := by decide +kernel
theorem dX6_startAnew_4 : decode cX6_startAnew 4 = .ok (.iconst 1, 1) := by decide +kernel
theorem dX6_startAnew_5 : decode cX6_startAnew 5 = .ok (.isub, 1) := by decide +kernel
theorem dX6_startAnew_6 : decode cX6_startAnew 6 = .ok (.putfield 26, 3) := by decide +kernel
theorem dX6_startAnew_9 : decode cX6_startAnew 9 = .ok (.aload_n 0, 1) := by decide +kernel
theorem dX6_startAnew_10 : decode cX6_startAnew 10 = .ok (.iconst 0, 1) := by decide +kernel
theorem dX6_startAnew_11 : decode cX6_startAnew 11 = .ok (.putfield 23, 3) := by decide +kernel
theorem dX6_startAnew_14 : decode cX6_startAnew 14 = .ok (.aload_n 0, 1) := by decide +kernel
theorem dX6_startAnew_15 : decode cX6_startAnew 15 = .ok (.iconst 0, 1) := by decide +kernel
theorem dX6_startAnew_16 : decode cX6_startAnew 16 = .ok (.putfield 19, 3) := by decide +kernel
theorem dX6_startAnew_19 : decode cX6_startAnew 19 = .ok (.return_, 1) := by decide +kernel
theorem wf_X6_19 : Cond.fieldLink RX6 19 "TermShelf$Standing" "hasImage" "Z" ∈ xT := xin 284 (by decide +kernel) rfl
theorem wf_X6_23 : Cond.fieldLink RX6 23 "TermShelf$Standing" "turnCount" "I" ∈ xT := xin 285 (by decide +kernel) rfl
section XN_X6_startAnew
variable {p : Program} {l : Launch} {e : Env} {R : Room} {s : State} {m : MethodId} {args : Array Value} {below : List Frame} {meth : Method} {c : Code} {H H0 : Heap} {locs : List Loc} {cells slots : Nat} {Q : State → Prop} {cc : ByteArray} {nL pc : Nat} {rt : Option FieldType} {ls : Array Slot} {rest : List Value} {D : xD} {ty : xTy} {h : xH}
theorem pf_X6_19 {a : Nat} {v : Int32} (C0 : xC D RX6 cc nL rt p s m args meth c) (hR : xRep D ty h H) (hS : xS ty H0 H locs) (ht : ty a = some (0, 6)) (hn : narrow .boolean (.int v) = .int v) (hft : fits .boolean (.int v) = true) (hdg : decode cc pc = .ok (.putfield 19, 3)) (kk : ∀ (H1 : Heap) (locs1 : List Loc), xRep D ty (xsI h a 2 v) H1 → xS ty H0 H1 locs1 → W p l e R s m args below meth c H1 locs1 cells slots Q (F0 m (pc + 3) ls rest)) : W p l e R s m args below meth c H locs cells slots Q (F0 m pc ls (.int v :: .ref a :: rest)) := x_puti C0 hR hS (ci := 6) (k := 2) (N := 5) (T := TX6) rfl iX6 tyX6_ok nmX6 (by decide) rfl rfl wf_X6_19 (Or.inr rfl) hn hft ht hdg kk
theorem pf_X6_23 {a : Nat} {v : Int32} (C0 : xC D RX6 cc nL rt p s m args meth c) (hR : xRep D ty h H) (hS : xS ty H0 H locs) (ht : ty a = some (0, 6)) (hdg : decode cc pc = .ok (.putfield 23, 3)) (kk : ∀ (H1 : Heap) (locs1 : List Loc), xRep D ty (xsI h a 3 v) H1 → xS ty H0 H1 locs1 → W p l e R s m args below meth c H1 locs1 cells slots Q (F0 m (pc + 3) ls rest)) : W p l e R s m args below meth c H locs cells slots Q (F0 m pc ls (.int v :: .ref a :: rest)) := x_puti C0 hR hS (ci := 6) (k := 3) (N := 5) (T := TX6) rfl iX6 tyX6_ok nmX6 (by decide) rfl rfl wf_X6_23 (Or.inl rfl) rfl rfl ht hdg kk
theorem pf_X6_26 {a : Nat} {v : Int32} (C0 : xC D RX6 cc nL rt p s m args meth c) (hR : xRep D ty h H) (hS : xS ty H0 H locs) (ht : ty a = some (0, 6)) (hdg : decode cc pc = .ok (.putfield 26, 3)) (kk : ∀ (H1 : Heap) (locs1 : List Loc), xRep D ty (xsI h a 4 v) H1 → xS ty H0 H1 locs1 → W p l e R s m args below meth c H1 locs1 cells slots Q (F0 m (pc + 3) ls rest)) : W p l e R s m args below meth c H locs cells slots Q (F0 m pc ls (.int v :: .ref a :: rest)) := x_puti C0 hR hS (ci := 6) (k := 4) (N := 5) (T := TX6) rfl iX6 tyX6_ok nmX6 (by decide) rfl rfl wf_X6_26 (Or.inl rfl) rfl rfl ht hdg kk
end XN_X6_startAnew
set_option maxHeartbeats 4000000 in
set_option maxRecDepth 100000 in
theorem jc_X6_startAnew {l : Launch} {D : xD} {ty : xTy} {h : xH} {v0 : Nat} {v1 : Int32} {h9 : xH} (t_v0 : ty v0 = some (0, 6)) (hF : jf_X6_startAnew ty h v0 v1 = some h9) : Met l yX6_startAnew (xws yX6_startAnew cX6_startAnew 2 none) jr_X6_startAnew (xPc D ty h [.ref v0, .int v1]) (xQ D ty none h9) 0 0 (xdom ty) := by
  refine x_met (by decide) ?_
  intro p e s m below meth c C0 hR
  generalize hargs : ([.ref v0, .int v1] : List Value).toArray = args at C0 ⊢
  have hx := C0.1
  have hb := C0.2.1
  have hown := C0.2.2.2.2.2.1
  have hts := C0.2.2.2.2.2.2.1
  have hS : xS ty s.heap s.heap [] := xS.rf
  have hl := lv_entry ([.ref v0, .int v1]) (n := 2) (Nat.le_of_ble_eq_true rfl)
  rw [← hargs, lg_entry_eq]
  rw [hargs]
  generalize (lg_sl ([.ref v0, .int v1]) ++ List.replicate (2 - (lg_sl ([.ref v0, .int v1])).length) Slot.unset).toArray = ls at hl ⊢
  have hl : lv_has ls 2 [(0, .ref v0), (1, .int v1)] := hl
  unfold jf_X6_startAnew at hF
  refine lv_aload_n hx hb dX6_startAnew_0 rfl (lv_at hl 0 rfl) ?_
  refine lv_iconst (v := 1) hx hb dX6_startAnew_1 (by decide) ?_
  refine lv_iload_n hx hb dX6_startAnew_2 rfl (lv_at hl 1 rfl) ?_
  refine lv_ishl hx hb dX6_startAnew_3 ?_
  refine lv_iconst (v := 1) hx hb dX6_startAnew_4 (by decide) ?_
  refine lv_isub hx hb dX6_startAnew_5 ?_
  obtain ⟨h1, e_h1, hF⟩ := xbd hF
  refine pf_X6_26 C0 hR hS t_v0 dX6_startAnew_6 (fun H locs hR hS => ?_)
  rw [Option.some.inj e_h1] at hR
  refine lv_aload_n hx hb dX6_startAnew_9 rfl (lv_at hl 0 rfl) ?_
  refine lv_iconst (v := 0) hx hb dX6_startAnew_10 (by decide) ?_
  obtain ⟨h2, e_h2, hF⟩ := xbd hF
  refine pf_X6_23 C0 hR hS t_v0 dX6_startAnew_11 (fun H locs hR hS => ?_)
  rw [Option.some.inj e_h2] at hR
  refine lv_aload_n hx hb dX6_startAnew_14 rfl (lv_at hl 0 rfl) ?_
  refine lv_iconst (v := 0) hx hb dX6_startAnew_15 (by decide) ?_
  obtain ⟨h3, e_h3, hF⟩ := xbd hF
  refine pf_X6_19 C0 hR hS t_v0 rfl rfl dX6_startAnew_16 (fun H locs hR hS => ?_)
  rw [Option.some.inj e_h3] at hR
  cases hF
  exact x_vret C0 hR hS dX6_startAnew_19
theorem xm_X6_startAnew : xMw yX6_startAnew cX6_startAnew 2 none 1 := ⟨xin 677 (by decide +kernel) rfl, xin 119 (by decide +kernel) rfl, by decide +kernel⟩
theorem xi_X6_startAnew : Cond.instanceMethod yX6_startAnew ∈ xT := xin 675 (by decide +kernel) rfl
theorem xe_X6_startAnew : Cond.selects yX6_startAnew.cls yX6_startAnew yX6_startAnew ∈ xT := xin 676 (by decide +kernel) rfl
theorem dX6_forgetFirst_0 : decode cX6_forgetFirst 0 = .ok (.iconst 1, 1) := by decide +kernel
theorem dX6_forgetFirst_1 : decode cX6_forgetFirst 1 = .ok (.istore_n 1, 1) := by decide +kernel
theorem dX6_forgetFirst_2 : decode cX6_forgetFirst 2 = .ok (.iload_n 1, 1) := by decide +kernel
theorem dX6_forgetFirst_3 : decode cX6_forgetFirst 3 = .ok (.bipush 20, 2) := by decide +kernel
theorem dX6_forgetFirst_5 : decode cX6_forgetFirst 5 = .ok (.if_icmp .ge 23, 3) := by decide +kernel
theorem dX6_forgetFirst_8 : decode cX6_forgetFirst 8 = .ok (.aload_n 0, 1) := by decide +kernel
theorem dX6_forgetFirst_9 : decode cX6_forgetFirst 9 = .ok (.getfield 9, 3) := by decide +kernel
theorem dX6_forgetFirst_12 : decode cX6_forgetFirst 12 = .ok (.iload_n 1, 1) := by decide +kernel
theorem dX6_forgetFirst_13 : decode cX6_forgetFirst 13 = .ok (.iconst 1, 1) := by decide +kernel
theorem dX6_forgetFirst_14 : decode cX6_forgetFirst 14 = .ok (.isub, 1) := by decide +kernel
theorem dX6_forgetFirst_15 : decode cX6_forgetFirst 15 = .ok (.aload_n 0, 1) := by decide +kernel
theorem dX6_forgetFirst_16 : decode cX6_forgetFirst 16 = .ok (.getfield 9, 3) := by decide +kernel
theorem dX6_forgetFirst_19 : decode cX6_forgetFirst 19 = .ok (.iload_n 1, 1) := by decide +kernel
theorem dX6_forgetFirst_20 : decode cX6_forgetFirst 20 = .ok (.iaload, 1) := by decide +kernel
theorem dX6_forgetFirst_21 : decode cX6_forgetFirst 21 = .ok (.iastore, 1) := by decide +kernel
theorem dX6_forgetFirst_22 : decode cX6_forgetFirst 22 = .ok (.iinc 1 1, 3) := by decide +kernel
theorem dX6_forgetFirst_25 : decode cX6_forgetFirst 25 = .ok (.goto (-23), 3) := by decide +kernel
theorem dX6_forgetFirst_28 : decode cX6_forgetFirst 28 = .ok (.aload_n 0, 1) := by decide +kernel
theorem dX6_forgetFirst_29 : decode cX6_forgetFirst 29 = .ok (.bipush 19, 2) := by decide +kernel
theorem dX6_forgetFirst_31 : decode cX6_forgetFirst 31 = .ok (.putfield 23, 3) := by decide +kernel
theorem dX6_forgetFirst_34 : decode cX6_forgetFirst 34 = .ok (.return_, 1) := by decide +kernel
theorem wf_X6_9 : Cond.fieldLink RX6 9 "TermShelf$Standing" "turned" "[I" ∈ xT := xin 282 (by decide +kernel) rfl
section XN_X6_forgetFirst
variable {p : Program} {l : Launch} {e : Env} {R : Room} {s : State} {m : MethodId} {args : Array Value} {below : List Frame} {meth : Method} {c : Code} {H H0 : Heap} {locs : List Loc} {cells slots : Nat} {Q : State → Prop} {cc : ByteArray} {nL pc : Nat} {rt : Option FieldType} {ls : Array Slot} {rest : List Value} {D : xD} {ty : xTy} {h : xH}
theorem gf_X6_9 {a : Nat} (C0 : xC D RX6 cc nL rt p s m args meth c) (hR : xRep D ty h H) (ht : ty a = some (0, 6)) {v : Nat} (hv : xR h a 0 = some v) (hdg : decode cc pc = .ok (.getfield 9, 3)) (kk : W p l e R s m args below meth c H locs cells slots Q (F0 m (pc + 3) ls (.ref v :: rest))) : W p l e R s m args below meth c H locs cells slots Q (F0 m pc ls (.ref a :: rest)) := x_get C0 hR (ci := 6) (k := 0) (N := 5) (T := TX6) rfl iX6 (by decide) rfl wf_X6_9 (by show va_rf (xR h a 0) = _; rw [hv]; rfl) ht hdg kk
end XN_X6_forgetFirst
set_option maxHeartbeats 4000000 in
set_option maxRecDepth 100000 in
theorem jw_X6_forgetFirst_2 {p : Program} {l : Launch} {e : Env} {s : State} {m : MethodId} {args : Array Value} {below : List Frame} {meth : Method} {c : Code} {D : xD} {ty : xTy} (C0 : xC D RX6 cX6_forgetFirst 2 none p s m args meth c) {h9 : xH} : ∀ n : Nat, ∀ (v0 : Nat) (v1 : Int32) (h : xH), ty v0 = some (0, 6) → jf_X6_forgetFirst_2 ty n v0 v1 h = some h9 → ∀ (H : Heap) (locs : List Loc), xRep D ty h H → xS ty s.heap H locs → ∀ ls : Array Slot, lv_has ls 2 [(0, .ref v0), (1, .int v1)] → W p l e jr_X6_forgetFirst s m args below meth c H locs 0 0 (MQ below (xQ D ty none h9) args s 0 0 (xdom ty)) (F0 m 2 ls []) := by
  have hx := C0.1
  have hb := C0.2.1
  have hown := C0.2.2.2.2.2.1
  have hts := C0.2.2.2.2.2.2.1
  intro n
  induction n with
  | zero =>
    intro v0 v1 h t_v0 hF H locs hR hS ls hl
    cases hF
  | succ n ih =>
    intro v0 v1 h t_v0 hF H locs hR hS ls hl
    rw [jf_X6_forgetFirst_2_s] at hF
    refine lv_iload_n hx hb dX6_forgetFirst_2 rfl (lv_at hl 1 rfl) ?_
    refine lv_bipush (v := 20) hx hb dX6_forgetFirst_3 (by decide) ?_
    refine lv_icmp_ge (tgt := 28) hx hb dX6_forgetFirst_5 (by decide) (fun c1 => ?_) (fun c1 => ?_)
    · have hF := xif hF c1
      refine lv_aload_n hx hb dX6_forgetFirst_28 rfl (lv_at hl 0 rfl) ?_
      refine lv_bipush (v := 19) hx hb dX6_forgetFirst_29 (by decide) ?_
      obtain ⟨h2, e_h2, hF⟩ := xbd hF
      refine pf_X6_23 C0 hR hS t_v0 dX6_forgetFirst_31 (fun H locs hR hS => ?_)
      rw [Option.some.inj e_h2] at hR
      cases hF
      exact x_vret C0 hR hS dX6_forgetFirst_34
    · have hF := xel hF c1
      refine lv_aload_n hx hb dX6_forgetFirst_8 rfl (lv_at hl 0 rfl) ?_
      obtain ⟨a3, e_a3, hF⟩ := xbd hF
      refine gf_X6_9 C0 hR t_v0 e_a3 dX6_forgetFirst_9 ?_
      refine lv_iload_n hx hb dX6_forgetFirst_12 rfl (lv_at hl 1 rfl) ?_
      refine lv_iconst (v := 1) hx hb dX6_forgetFirst_13 (by decide) ?_
      refine lv_isub hx hb dX6_forgetFirst_14 ?_
      refine lv_aload_n hx hb dX6_forgetFirst_15 rfl (lv_at hl 0 rfl) ?_
      obtain ⟨a4, e_a4, hF⟩ := xbd hF
      refine gf_X6_9 C0 hR t_v0 e_a4 dX6_forgetFirst_16 ?_
      refine lv_iload_n hx hb dX6_forgetFirst_19 rfl (lv_at hl 1 rfl) ?_
      obtain ⟨a5, e_a5, hF⟩ := xbd hF
      refine x_iald C0 hR e_a5 dX6_forgetFirst_20 ?_
      obtain ⟨h6, e_h6, hF⟩ := xbd hF
      refine x_iast C0 hR hS e_h6 dX6_forgetFirst_21 (fun H locs hR hS => ?_)
      refine lv_iinc (v := v1 + 1) (lv' := [(1, .int (v1 + 1)), (0, .ref v0)]) hx hb dX6_forgetFirst_22 hl (k := 1) rfl rfl (by decide) rfl (fun ls hl => ?_)
      refine lv_goto (tgt := 2) hx hb dX6_forgetFirst_25 (by decide) ?_
      exact ih _ _ _ t_v0 hF _ _ hR hS _ (lv_sub hl [1, 0] rfl)
set_option maxHeartbeats 4000000 in
set_option maxRecDepth 100000 in
theorem jc_X6_forgetFirst {l : Launch} {D : xD} {ty : xTy} {h : xH} {v0 : Nat} {h9 : xH} (t_v0 : ty v0 = some (0, 6)) (hF : jf_X6_forgetFirst ty h v0 = some h9) : Met l yX6_forgetFirst (xws yX6_forgetFirst cX6_forgetFirst 2 none) jr_X6_forgetFirst (xPc D ty h [.ref v0]) (xQ D ty none h9) 0 0 (xdom ty) := by
  refine x_met (by decide) ?_
  intro p e s m below meth c C0 hR
  generalize hargs : ([.ref v0] : List Value).toArray = args at C0 ⊢
  have hx := C0.1
  have hb := C0.2.1
  have hown := C0.2.2.2.2.2.1
  have hts := C0.2.2.2.2.2.2.1
  have hS : xS ty s.heap s.heap [] := xS.rf
  have hl := lv_entry ([.ref v0]) (n := 2) (Nat.le_of_ble_eq_true rfl)
  rw [← hargs, lg_entry_eq]
  rw [hargs]
  generalize (lg_sl ([.ref v0]) ++ List.replicate (2 - (lg_sl ([.ref v0])).length) Slot.unset).toArray = ls at hl ⊢
  have hl : lv_has ls 2 [(0, .ref v0)] := hl
  unfold jf_X6_forgetFirst at hF
  refine lv_iconst (v := 1) hx hb dX6_forgetFirst_0 (by decide) ?_
  refine lv_istore_n (lv' := [(1, .int 1), (0, .ref v0)]) hx hb dX6_forgetFirst_1 rfl hl (by decide) rfl (fun ls hl => ?_)
  obtain ⟨_, hF⟩ := xlim_sp hF
  exact jw_X6_forgetFirst_2 C0 _ _ _ _ t_v0 hF _ _ hR hS _ (lv_sub hl [1, 0] rfl)
theorem xm_X6_forgetFirst : xMw yX6_forgetFirst cX6_forgetFirst 2 none 0 := ⟨xin 788 (by decide +kernel) rfl, xin 119 (by decide +kernel) rfl, by decide +kernel⟩
theorem xi_X6_forgetFirst : Cond.instanceMethod yX6_forgetFirst ∈ xT := xin 787 (by decide +kernel) rfl
theorem xe_X6_forgetFirst : Cond.selects yX6_forgetFirst.cls yX6_forgetFirst yX6_forgetFirst ∈ xT := xin 22 (by decide +kernel) rfl
theorem dX6_turn_0 : decode cX6_turn 0 = .ok (.aload_n 0, 1) := by decide +kernel
theorem dX6_turn_1 : decode cX6_turn 1 = .ok (.dup, 1) := by decide +kernel
theorem dX6_turn_2 : decode cX6_turn 2 = .ok (.getfield 26, 3) := by decide +kernel
theorem dX6_turn_5 : decode cX6_turn 5 = .ok (.iconst 1, 1) := by decide +kernel
theorem dX6_turn_6 : decode cX6_turn 6 = .ok (.iload_n 1, 1) := by decide +kernel
theorem dX6_turn_7 : decode cX6_turn 7 = .ok (.ishl, 1) := by decide +kernel
theorem dX6_turn_8 : decode cX6_turn 8 = .ok (.ixor, 1) := by decide +kernel
theorem dX6_turn_9 : decode cX6_turn 9 = .ok (.putfield 26, 3) := by decide +kernel
theorem dX6_turn_12 : decode cX6_turn 12 = .ok (.aload_n 0, 1) := by decide +kernel
theorem dX6_turn_13 : decode cX6_turn 13 = .ok (.getfield 23, 3) := by decide +kernel
theorem dX6_turn_16 : decode cX6_turn 16 = .ok (.bipush 20, 2) := by decide +kernel
theorem dX6_turn_18 : decode cX6_turn 18 = .ok (.if_icmp .lt 7, 3) := by decide +kernel
theorem dX6_turn_21 : decode cX6_turn 21 = .ok (.aload_n 0, 1) := by decide +kernel
theorem dX6_turn_22 : decode cX6_turn 22 = .ok (.invokevirtual 33, 3) := by decide +kernel
theorem dX6_turn_25 : decode cX6_turn 25 = .ok (.aload_n 0, 1) := by decide +kernel
theorem dX6_turn_26 : decode cX6_turn 26 = .ok (.getfield 23, 3) := by decide +kernel
theorem dX6_turn_29 : decode cX6_turn 29 = .ok (.ifCond .lt 32, 3) := by decide +kernel
theorem dX6_turn_32 : decode cX6_turn 32 = .ok (.aload_n 0, 1) := by decide +kernel
theorem dX6_turn_33 : decode cX6_turn 33 = .ok (.getfield 23, 3) := by decide +kernel
theorem dX6_turn_36 : decode cX6_turn 36 = .ok (.bipush 20, 2) := by decide +kernel
theorem dX6_turn_38 : decode cX6_turn 38 = .ok (.if_icmp .ge 23, 3) := by decide +kernel
theorem dX6_turn_41 : decode cX6_turn 41 = .ok (.aload_n 0, 1) := by decide +kernel
theorem dX6_turn_42 : decode cX6_turn 42 = .ok (.getfield 9, 3) := by decide +kernel
theorem dX6_turn_45 : decode cX6_turn 45 = .ok (.aload_n 0, 1) := by decide +kernel
theorem dX6_turn_46 : decode cX6_turn 46 = .ok (.getfield 23, 3) := by decide +kernel
theorem dX6_turn_49 : decode cX6_turn 49 = .ok (.iload_n 1, 1) := by decide +kernel
theorem dX6_turn_50 : decode cX6_turn 50 = .ok (.iastore, 1) := by decide +kernel
theorem dX6_turn_51 : decode cX6_turn 51 = .ok (.aload_n 0, 1) := by decide +kernel
theorem dX6_turn_52 : decode cX6_turn 52 = .ok (.dup, 1) := by decide +kernel
theorem dX6_turn_53 : decode cX6_turn 53 = .ok (.getfield 23, 3) := by decide +kernel
theorem dX6_turn_56 : decode cX6_turn 56 = .ok (.iconst 1, 1) := by decide +kernel
theorem dX6_turn_57 : decode cX6_turn 57 = .ok (.iadd, 1) := by decide +kernel
theorem dX6_turn_58 : decode cX6_turn 58 = .ok (.putfield 23, 3) := by decide +kernel
theorem dX6_turn_61 : decode cX6_turn 61 = .ok (.return_, 1) := by decide +kernel
theorem wl_X6_33 : Cond.methodLink RX6 33 yX6_forgetFirst ∈ xT := xin 785 (by decide +kernel) rfl
section XN_X6_turn
variable {p : Program} {l : Launch} {e : Env} {R : Room} {s : State} {m : MethodId} {args : Array Value} {below : List Frame} {meth : Method} {c : Code} {H H0 : Heap} {locs : List Loc} {cells slots : Nat} {Q : State → Prop} {cc : ByteArray} {nL pc : Nat} {rt : Option FieldType} {ls : Array Slot} {rest : List Value} {D : xD} {ty : xTy} {h : xH}
theorem cl_X6_33 {v0 : Nat} {h9 : xH} (C0 : xC D RX6 cc nL rt p s m args meth c) (hR : xRep D ty h H) (hS : xS ty H0 H locs) (hF : jf_X6_forgetFirst ty h v0 = some h9) (t_v0 : ty v0 = some (0, 6)) (hrm : jr_X6_forgetFirst.frames + 1 ≤ R.frames ∧ 8 + (2 + 11) + jr_X6_forgetFirst.locals ≤ R.locals) (hsz : ls.size = nL) (hW : (rest.map fun v => v.category).sum ≤ 8) (hf : cells ≤ R.cells ∧ slots ≤ R.slots) (hdg : decode cc pc = .ok (.invokevirtual 33, 3)) (kk : ∀ (H1 : Heap) (locs1 : List Loc), xRep D ty h9 H1 → xS ty H0 H1 locs1 → W p l e R s m args below meth c H1 locs1 cells slots Q (F0 m (pc + 3) ls rest)) : W p l e R s m args below meth c H locs cells slots Q (F0 m pc ls (.ref v0 :: rest)) := x_callV C0 (jc_X6_forgetFirst t_v0 hF) xm_X6_forgetFirst xi_X6_forgetFirst xe_X6_forgetFirst wl_X6_33 ⟨rfl, rfl, hrm⟩ (ci := 6) rfl t_v0 hR hS (As := []) rfl hsz rfl hW hdg hf kk
theorem gf_X6_23 {a : Nat} (C0 : xC D RX6 cc nL rt p s m args meth c) (hR : xRep D ty h H) (ht : ty a = some (0, 6)) (hdg : decode cc pc = .ok (.getfield 23, 3)) (kk : W p l e R s m args below meth c H locs cells slots Q (F0 m (pc + 3) ls (.int (xI h a 3) :: rest))) : W p l e R s m args below meth c H locs cells slots Q (F0 m pc ls (.ref a :: rest)) := x_get C0 hR (ci := 6) (k := 3) (N := 5) (T := TX6) rfl iX6 (by decide) rfl wf_X6_23 rfl ht hdg kk
end XN_X6_turn
set_option maxHeartbeats 4000000 in
set_option maxRecDepth 100000 in
theorem jw_X6_turn_25 {p : Program} {l : Launch} {e : Env} {s : State} {m : MethodId} {args : Array Value} {below : List Frame} {meth : Method} {c : Code} {D : xD} {ty : xTy} (C0 : xC D RX6 cX6_turn 2 none p s m args meth c) {h9 : xH} : ∀ (v0 : Nat) (v1 : Int32) (h : xH), ty v0 = some (0, 6) → jf_X6_turn_25 ty v0 v1 h = some h9 → ∀ (H : Heap) (locs : List Loc), xRep D ty h H → xS ty s.heap H locs → ∀ ls : Array Slot, lv_has ls 2 [(0, .ref v0), (1, .int v1)] → W p l e jr_X6_turn s m args below meth c H locs 0 0 (MQ below (xQ D ty none h9) args s 0 0 (xdom ty)) (F0 m 25 ls []) := by
  have hx := C0.1
  have hb := C0.2.1
  have hown := C0.2.2.2.2.2.1
  have hts := C0.2.2.2.2.2.2.1
  intro v0 v1 h t_v0 hF H locs hR hS ls hl
  unfold jf_X6_turn_25 at hF
  refine lv_aload_n hx hb dX6_turn_25 rfl (lv_at hl 0 rfl) ?_
  refine gf_X6_23 C0 hR t_v0 dX6_turn_26 ?_
  refine lv_if_lt (tgt := 61) hx hb dX6_turn_29 (by decide) (fun c1 => ?_) (fun c1 => ?_)
  · have hF := xif hF c1
    cases hF
    exact x_vret C0 hR hS dX6_turn_61
  · have hF := xel hF c1
    refine lv_aload_n hx hb dX6_turn_32 rfl (lv_at hl 0 rfl) ?_
    refine gf_X6_23 C0 hR t_v0 dX6_turn_33 ?_
    refine lv_bipush (v := 20) hx hb dX6_turn_36 (by decide) ?_
    refine lv_icmp_ge (tgt := 61) hx hb dX6_turn_38 (by decide) (fun c2 => ?_) (fun c2 => ?_)
    · have hF := xif hF c2
      cases hF
      exact x_vret C0 hR hS dX6_turn_61
    · have hF := xel hF c2
      refine lv_aload_n hx hb dX6_turn_41 rfl (lv_at hl 0 rfl) ?_
      obtain ⟨a3, e_a3, hF⟩ := xbd hF
      refine gf_X6_9 C0 hR t_v0 e_a3 dX6_turn_42 ?_
      refine lv_aload_n hx hb dX6_turn_45 rfl (lv_at hl 0 rfl) ?_
      refine gf_X6_23 C0 hR t_v0 dX6_turn_46 ?_
      refine lv_iload_n hx hb dX6_turn_49 rfl (lv_at hl 1 rfl) ?_
      obtain ⟨h4, e_h4, hF⟩ := xbd hF
      refine x_iast C0 hR hS e_h4 dX6_turn_50 (fun H locs hR hS => ?_)
      refine lv_aload_n hx hb dX6_turn_51 rfl (lv_at hl 0 rfl) ?_
      refine lv_dup hx hb dX6_turn_52 rfl ?_
      refine gf_X6_23 C0 hR t_v0 dX6_turn_53 ?_
      refine lv_iconst (v := 1) hx hb dX6_turn_56 (by decide) ?_
      refine lv_iadd hx hb dX6_turn_57 ?_
      obtain ⟨h5, e_h5, hF⟩ := xbd hF
      refine pf_X6_23 C0 hR hS t_v0 dX6_turn_58 (fun H locs hR hS => ?_)
      rw [Option.some.inj e_h5] at hR
      cases hF
      exact x_vret C0 hR hS dX6_turn_61
set_option maxHeartbeats 4000000 in
set_option maxRecDepth 100000 in
theorem jc_X6_turn {l : Launch} {D : xD} {ty : xTy} {h : xH} {v0 : Nat} {v1 : Int32} {h9 : xH} (t_v0 : ty v0 = some (0, 6)) (hF : jf_X6_turn ty h v0 v1 = some h9) : Met l yX6_turn (xws yX6_turn cX6_turn 2 none) jr_X6_turn (xPc D ty h [.ref v0, .int v1]) (xQ D ty none h9) 0 0 (xdom ty) := by
  refine x_met (by decide) ?_
  intro p e s m below meth c C0 hR
  generalize hargs : ([.ref v0, .int v1] : List Value).toArray = args at C0 ⊢
  have hx := C0.1
  have hb := C0.2.1
  have hown := C0.2.2.2.2.2.1
  have hts := C0.2.2.2.2.2.2.1
  have hS : xS ty s.heap s.heap [] := xS.rf
  have hl := lv_entry ([.ref v0, .int v1]) (n := 2) (Nat.le_of_ble_eq_true rfl)
  rw [← hargs, lg_entry_eq]
  rw [hargs]
  generalize (lg_sl ([.ref v0, .int v1]) ++ List.replicate (2 - (lg_sl ([.ref v0, .int v1])).length) Slot.unset).toArray = ls at hl ⊢
  have hl : lv_has ls 2 [(0, .ref v0), (1, .int v1)] := hl
  unfold jf_X6_turn at hF
  refine lv_aload_n hx hb dX6_turn_0 rfl (lv_at hl 0 rfl) ?_
  refine lv_dup hx hb dX6_turn_1 rfl ?_
  refine gf_X6_26 C0 hR t_v0 dX6_turn_2 ?_
  refine lv_iconst (v := 1) hx hb dX6_turn_5 (by decide) ?_
  refine lv_iload_n hx hb dX6_turn_6 rfl (lv_at hl 1 rfl) ?_
  refine lv_ishl hx hb dX6_turn_7 ?_
  refine lv_ixor hx hb dX6_turn_8 ?_
  obtain ⟨h6, e_h6, hF⟩ := xbd hF
  refine pf_X6_26 C0 hR hS t_v0 dX6_turn_9 (fun H locs hR hS => ?_)
  rw [Option.some.inj e_h6] at hR
  refine lv_aload_n hx hb dX6_turn_12 rfl (lv_at hl 0 rfl) ?_
  refine gf_X6_23 C0 hR t_v0 dX6_turn_13 ?_
  refine lv_bipush (v := 20) hx hb dX6_turn_16 (by decide) ?_
  refine lv_icmp_lt (tgt := 25) hx hb dX6_turn_18 (by decide) (fun c7 => ?_) (fun c7 => ?_)
  · have hF := xif hF c7
    exact jw_X6_turn_25 C0 _ _ _ t_v0 hF _ _ hR hS _ (lv_sub hl [0, 1] rfl)
  · have hF := xel hF c7
    refine lv_aload_n hx hb dX6_turn_21 rfl (lv_at hl 0 rfl) ?_
    obtain ⟨h8, e_h8, hF⟩ := xbd hF
    refine cl_X6_33 C0 hR hS e_h8 t_v0 ⟨(Nat.le_of_ble_eq_true rfl), (Nat.le_of_ble_eq_true rfl)⟩ hl.1 (Nat.le_of_ble_eq_true rfl) ⟨(Nat.le_of_ble_eq_true rfl), (Nat.le_of_ble_eq_true rfl)⟩ dX6_turn_22 (fun H locs hR hS => ?_)
    exact jw_X6_turn_25 C0 _ _ _ t_v0 hF _ _ hR hS _ (lv_sub hl [0, 1] rfl)
theorem xm_X6_turn : xMw yX6_turn cX6_turn 2 none 1 := ⟨xin 784 (by decide +kernel) rfl, xin 119 (by decide +kernel) rfl, by decide +kernel⟩
theorem xi_X6_turn : Cond.instanceMethod yX6_turn ∈ xT := xin 782 (by decide +kernel) rfl
theorem xe_X6_turn : Cond.selects yX6_turn.cls yX6_turn yX6_turn ∈ xT := xin 783 (by decide +kernel) rfl
theorem dX6_turnLatestBack_0 : decode cX6_turnLatestBack 0 = .ok (.aload_n 0, 1) := by decide +kernel
theorem dX6_turnLatestBack_1 : decode cX6_turnLatestBack 1 = .ok (.getfield 23, 3) := by decide +kernel
theorem dX6_turnLatestBack_4 : decode cX6_turnLatestBack 4 = .ok (.ifCond .le 12, 3) := by decide +kernel
theorem dX6_turnLatestBack_7 : decode cX6_turnLatestBack 7 = .ok (.aload_n 0, 1) := by decide +kernel
theorem dX6_turnLatestBack_8 : decode cX6_turnLatestBack 8 = .ok (.getfield 23, 3) := by decide +kernel
theorem dX6_turnLatestBack_11 : decode cX6_turnLatestBack 11 = .ok (.bipush 20, 2) := by decide +kernel
theorem dX6_turnLatestBack_13 : decode cX6_turnLatestBack 13 = .ok (.if_icmp .le 5, 3) := by decide +kernel
theorem dX6_turnLatestBack_16 : decode cX6_turnLatestBack 16 = .ok (.iconst 0, 1) := by decide +kernel
theorem dX6_turnLatestBack_17 : decode cX6_turnLatestBack 17 = .ok (.ireturn, 1) := by decide +kernel
theorem dX6_turnLatestBack_18 : decode cX6_turnLatestBack 18 = .ok (.aload_n 0, 1) := by decide +kernel
theorem dX6_turnLatestBack_19 : decode cX6_turnLatestBack 19 = .ok (.dup, 1) := by decide +kernel
theorem dX6_turnLatestBack_20 : decode cX6_turnLatestBack 20 = .ok (.getfield 23, 3) := by decide +kernel
theorem dX6_turnLatestBack_23 : decode cX6_turnLatestBack 23 = .ok (.iconst 1, 1) := by decide +kernel
theorem dX6_turnLatestBack_24 : decode cX6_turnLatestBack 24 = .ok (.isub, 1) := by decide +kernel
theorem dX6_turnLatestBack_25 : decode cX6_turnLatestBack 25 = .ok (.putfield 23, 3) := by decide +kernel
theorem dX6_turnLatestBack_28 : decode cX6_turnLatestBack 28 = .ok (.aload_n 0, 1) := by decide +kernel
theorem dX6_turnLatestBack_29 : decode cX6_turnLatestBack 29 = .ok (.dup, 1) := by decide +kernel
theorem dX6_turnLatestBack_30 : decode cX6_turnLatestBack 30 = .ok (.getfield 26, 3) := by decide +kernel
theorem dX6_turnLatestBack_33 : decode cX6_turnLatestBack 33 = .ok (.iconst 1, 1) := by decide +kernel
theorem dX6_turnLatestBack_34 : decode cX6_turnLatestBack 34 = .ok (.aload_n 0, 1) := by decide +kernel
theorem dX6_turnLatestBack_35 : decode cX6_turnLatestBack 35 = .ok (.getfield 9, 3) := by decide +kernel
theorem dX6_turnLatestBack_38 : decode cX6_turnLatestBack 38 = .ok (.aload_n 0, 1) := by decide +kernel
theorem dX6_turnLatestBack_39 : decode cX6_turnLatestBack 39 = .ok (.getfield 23, 3) := by decide +kernel
theorem dX6_turnLatestBack_42 : decode cX6_turnLatestBack 42 = .ok (.iaload, 1) := by decide +kernel
theorem dX6_turnLatestBack_43 : decode cX6_turnLatestBack 43 = .ok (.ishl, 1) := by decide +kernel
theorem dX6_turnLatestBack_44 : decode cX6_turnLatestBack 44 = .ok (.ixor, 1) := by decide +kernel
theorem dX6_turnLatestBack_45 : decode cX6_turnLatestBack 45 = .ok (.putfield 26, 3) := by decide +kernel
theorem dX6_turnLatestBack_48 : decode cX6_turnLatestBack 48 = .ok (.iconst 1, 1) := by decide +kernel
theorem dX6_turnLatestBack_49 : decode cX6_turnLatestBack 49 = .ok (.ireturn, 1) := by decide +kernel
set_option maxHeartbeats 4000000 in
set_option maxRecDepth 100000 in
theorem jc_X6_turnLatestBack {l : Launch} {D : xD} {ty : xTy} {h : xH} {v0 : Nat} {r : Int32} {h9 : xH} (t_v0 : ty v0 = some (0, 6)) (hF : jf_X6_turnLatestBack ty h v0 = some (r, h9)) : Met l yX6_turnLatestBack (xws yX6_turnLatestBack cX6_turnLatestBack 1 (some .boolean)) jr_X6_turnLatestBack (xPc D ty h [.ref v0]) (xQ D ty (some (.int r)) h9) 0 0 (xdom ty) := by
  refine x_met (by decide) ?_
  intro p e s m below meth c C0 hR
  generalize hargs : ([.ref v0] : List Value).toArray = args at C0 ⊢
  have hx := C0.1
  have hb := C0.2.1
  have hown := C0.2.2.2.2.2.1
  have hts := C0.2.2.2.2.2.2.1
  have hS : xS ty s.heap s.heap [] := xS.rf
  have hl := lv_entry ([.ref v0]) (n := 1) (Nat.le_of_ble_eq_true rfl)
  rw [← hargs, lg_entry_eq]
  rw [hargs]
  generalize (lg_sl ([.ref v0]) ++ List.replicate (1 - (lg_sl ([.ref v0])).length) Slot.unset).toArray = ls at hl ⊢
  have hl : lv_has ls 1 [(0, .ref v0)] := hl
  unfold jf_X6_turnLatestBack at hF
  refine lv_aload_n hx hb dX6_turnLatestBack_0 rfl (lv_at hl 0 rfl) ?_
  refine gf_X6_23 C0 hR t_v0 dX6_turnLatestBack_1 ?_
  refine lv_if_le (tgt := 16) hx hb dX6_turnLatestBack_4 (by decide) (fun c1 => ?_) (fun c1 => ?_)
  · have hF := xif hF c1
    refine lv_iconst (v := 0) hx hb dX6_turnLatestBack_16 (by decide) ?_
    cases hF
    exact x_zret (w := 0) C0 hR hS (by decide) dX6_turnLatestBack_17
  · have hF := xel hF c1
    refine lv_aload_n hx hb dX6_turnLatestBack_7 rfl (lv_at hl 0 rfl) ?_
    refine gf_X6_23 C0 hR t_v0 dX6_turnLatestBack_8 ?_
    refine lv_bipush (v := 20) hx hb dX6_turnLatestBack_11 (by decide) ?_
    refine lv_icmp_le (tgt := 18) hx hb dX6_turnLatestBack_13 (by decide) (fun c2 => ?_) (fun c2 => ?_)
    · have hF := xif hF c2
      refine lv_aload_n hx hb dX6_turnLatestBack_18 rfl (lv_at hl 0 rfl) ?_
      refine lv_dup hx hb dX6_turnLatestBack_19 rfl ?_
      refine gf_X6_23 C0 hR t_v0 dX6_turnLatestBack_20 ?_
      refine lv_iconst (v := 1) hx hb dX6_turnLatestBack_23 (by decide) ?_
      refine lv_isub hx hb dX6_turnLatestBack_24 ?_
      obtain ⟨h3, e_h3, hF⟩ := xbd hF
      refine pf_X6_23 C0 hR hS t_v0 dX6_turnLatestBack_25 (fun H locs hR hS => ?_)
      rw [Option.some.inj e_h3] at hR
      refine lv_aload_n hx hb dX6_turnLatestBack_28 rfl (lv_at hl 0 rfl) ?_
      refine lv_dup hx hb dX6_turnLatestBack_29 rfl ?_
      refine gf_X6_26 C0 hR t_v0 dX6_turnLatestBack_30 ?_
      refine lv_iconst (v := 1) hx hb dX6_turnLatestBack_33 (by decide) ?_
      refine lv_aload_n hx hb dX6_turnLatestBack_34 rfl (lv_at hl 0 rfl) ?_
      obtain ⟨a4, e_a4, hF⟩ := xbd hF
      refine gf_X6_9 C0 hR t_v0 e_a4 dX6_turnLatestBack_35 ?_
      refine lv_aload_n hx hb dX6_turnLatestBack_38 rfl (lv_at hl 0 rfl) ?_
      refine gf_X6_23 C0 hR t_v0 dX6_turnLatestBack_39 ?_
      obtain ⟨a5, e_a5, hF⟩ := xbd hF
      refine x_iald C0 hR e_a5 dX6_turnLatestBack_42 ?_
      refine lv_ishl hx hb dX6_turnLatestBack_43 ?_
      refine lv_ixor hx hb dX6_turnLatestBack_44 ?_
      obtain ⟨h6, e_h6, hF⟩ := xbd hF
      refine pf_X6_26 C0 hR hS t_v0 dX6_turnLatestBack_45 (fun H locs hR hS => ?_)
      rw [Option.some.inj e_h6] at hR
      refine lv_iconst (v := 1) hx hb dX6_turnLatestBack_48 (by decide) ?_
      cases hF
      exact x_zret (w := 1) C0 hR hS (by decide) dX6_turnLatestBack_49
    · have hF := xel hF c2
      refine lv_iconst (v := 0) hx hb dX6_turnLatestBack_16 (by decide) ?_
      cases hF
      exact x_zret (w := 0) C0 hR hS (by decide) dX6_turnLatestBack_17
theorem xm_X6_turnLatestBack : xMw yX6_turnLatestBack cX6_turnLatestBack 1 (some .boolean) 0 := ⟨xin 1155 (by decide +kernel) rfl, xin 119 (by decide +kernel) rfl, by decide +kernel⟩
theorem xi_X6_turnLatestBack : Cond.instanceMethod yX6_turnLatestBack ∈ xT := xin 1153 (by decide +kernel) rfl
theorem xe_X6_turnLatestBack : Cond.selects yX6_turnLatestBack.cls yX6_turnLatestBack yX6_turnLatestBack ∈ xT := xin 1154 (by decide +kernel) rfl
theorem dX6_keepImage_0 : decode cX6_keepImage 0 = .ok (.aload_n 0, 1) := by decide +kernel
theorem dX6_keepImage_1 : decode cX6_keepImage 1 = .ok (.aload_n 0, 1) := by decide +kernel
theorem dX6_keepImage_2 : decode cX6_keepImage 2 = .ok (.getfield 26, 3) := by decide +kernel
theorem dX6_keepImage_5 : decode cX6_keepImage 5 = .ok (.putfield 15, 3) := by decide +kernel
theorem dX6_keepImage_8 : decode cX6_keepImage 8 = .ok (.aload_n 0, 1) := by decide +kernel
theorem dX6_keepImage_9 : decode cX6_keepImage 9 = .ok (.iconst 1, 1) := by decide +kernel
theorem dX6_keepImage_10 : decode cX6_keepImage 10 = .ok (.putfield 19, 3) := by decide +kernel
theorem dX6_keepImage_13 : decode cX6_keepImage 13 = .ok (.return_, 1) := by decide +kernel
theorem wf_X6_15 : Cond.fieldLink RX6 15 "TermShelf$Standing" "image" "I" ∈ xT := xin 283 (by decide +kernel) rfl
section XN_X6_keepImage
variable {p : Program} {l : Launch} {e : Env} {R : Room} {s : State} {m : MethodId} {args : Array Value} {below : List Frame} {meth : Method} {c : Code} {H H0 : Heap} {locs : List Loc} {cells slots : Nat} {Q : State → Prop} {cc : ByteArray} {nL pc : Nat} {rt : Option FieldType} {ls : Array Slot} {rest : List Value} {D : xD} {ty : xTy} {h : xH}
theorem pf_X6_15 {a : Nat} {v : Int32} (C0 : xC D RX6 cc nL rt p s m args meth c) (hR : xRep D ty h H) (hS : xS ty H0 H locs) (ht : ty a = some (0, 6)) (hdg : decode cc pc = .ok (.putfield 15, 3)) (kk : ∀ (H1 : Heap) (locs1 : List Loc), xRep D ty (xsI h a 1 v) H1 → xS ty H0 H1 locs1 → W p l e R s m args below meth c H1 locs1 cells slots Q (F0 m (pc + 3) ls rest)) : W p l e R s m args below meth c H locs cells slots Q (F0 m pc ls (.int v :: .ref a :: rest)) := x_puti C0 hR hS (ci := 6) (k := 1) (N := 5) (T := TX6) rfl iX6 tyX6_ok nmX6 (by decide) rfl rfl wf_X6_15 (Or.inl rfl) rfl rfl ht hdg kk
end XN_X6_keepImage
set_option maxHeartbeats 4000000 in
set_option maxRecDepth 100000 in
theorem jc_X6_keepImage {l : Launch} {D : xD} {ty : xTy} {h : xH} {v0 : Nat} {h9 : xH} (t_v0 : ty v0 = some (0, 6)) (hF : jf_X6_keepImage ty h v0 = some h9) : Met l yX6_keepImage (xws yX6_keepImage cX6_keepImage 1 none) jr_X6_keepImage (xPc D ty h [.ref v0]) (xQ D ty none h9) 0 0 (xdom ty) := by
  refine x_met (by decide) ?_
  intro p e s m below meth c C0 hR
  generalize hargs : ([.ref v0] : List Value).toArray = args at C0 ⊢
  have hx := C0.1
  have hb := C0.2.1
  have hown := C0.2.2.2.2.2.1
  have hts := C0.2.2.2.2.2.2.1
  have hS : xS ty s.heap s.heap [] := xS.rf
  have hl := lv_entry ([.ref v0]) (n := 1) (Nat.le_of_ble_eq_true rfl)
  rw [← hargs, lg_entry_eq]
  rw [hargs]
  generalize (lg_sl ([.ref v0]) ++ List.replicate (1 - (lg_sl ([.ref v0])).length) Slot.unset).toArray = ls at hl ⊢
  have hl : lv_has ls 1 [(0, .ref v0)] := hl
  unfold jf_X6_keepImage at hF
  refine lv_aload_n hx hb dX6_keepImage_0 rfl (lv_at hl 0 rfl) ?_
  refine lv_aload_n hx hb dX6_keepImage_1 rfl (lv_at hl 0 rfl) ?_
  refine gf_X6_26 C0 hR t_v0 dX6_keepImage_2 ?_
  obtain ⟨h1, e_h1, hF⟩ := xbd hF
  refine pf_X6_15 C0 hR hS t_v0 dX6_keepImage_5 (fun H locs hR hS => ?_)
  rw [Option.some.inj e_h1] at hR
  refine lv_aload_n hx hb dX6_keepImage_8 rfl (lv_at hl 0 rfl) ?_
  refine lv_iconst (v := 1) hx hb dX6_keepImage_9 (by decide) ?_
  obtain ⟨h2, e_h2, hF⟩ := xbd hF
  refine pf_X6_19 C0 hR hS t_v0 rfl rfl dX6_keepImage_10 (fun H locs hR hS => ?_)
  rw [Option.some.inj e_h2] at hR
  cases hF
  exact x_vret C0 hR hS dX6_keepImage_13
theorem xm_X6_keepImage : xMw yX6_keepImage cX6_keepImage 1 none 0 := ⟨xin 1163 (by decide +kernel) rfl, xin 119 (by decide +kernel) rfl, by decide +kernel⟩
theorem xi_X6_keepImage : Cond.instanceMethod yX6_keepImage ∈ xT := xin 1161 (by decide +kernel) rfl
theorem xe_X6_keepImage : Cond.selects yX6_keepImage.cls yX6_keepImage yX6_keepImage ∈ xT := xin 1162 (by decide +kernel) rfl
theorem dX6_takeImage_0 : decode cX6_takeImage 0 = .ok (.aload_n 0, 1) := by decide +kernel
theorem dX6_takeImage_1 : decode cX6_takeImage 1 = .ok (.getfield 19, 3) := by decide +kernel
theorem dX6_takeImage_4 : decode cX6_takeImage 4 = .ok (.ifCond .ne 5, 3) := by decide +kernel
theorem dX6_takeImage_7 : decode cX6_takeImage 7 = .ok (.iconst 0, 1) := by decide +kernel
theorem dX6_takeImage_8 : decode cX6_takeImage 8 = .ok (.ireturn, 1) := by decide +kernel
theorem dX6_takeImage_9 : decode cX6_takeImage 9 = .ok (.aload_n 0, 1) := by decide +kernel
theorem dX6_takeImage_10 : decode cX6_takeImage 10 = .ok (.aload_n 0, 1) := by decide +kernel
theorem dX6_takeImage_11 : decode cX6_takeImage 11 = .ok (.getfield 15, 3) := by decide +kernel
theorem dX6_takeImage_14 : decode cX6_takeImage 14 = .ok (.putfield 26, 3) := by decide +kernel
theorem dX6_takeImage_17 : decode cX6_takeImage 17 = .ok (.aload_n 0, 1) := by decide +kernel
theorem dX6_takeImage_18 : decode cX6_takeImage 18 = .ok (.iconst 0, 1) := by decide +kernel
theorem dX6_takeImage_19 : decode cX6_takeImage 19 = .ok (.putfield 23, 3) := by decide +kernel
theorem dX6_takeImage_22 : decode cX6_takeImage 22 = .ok (.iconst 1, 1) := by decide +kernel
theorem dX6_takeImage_23 : decode cX6_takeImage 23 = .ok (.ireturn, 1) := by decide +kernel
section XN_X6_takeImage
variable {p : Program} {l : Launch} {e : Env} {R : Room} {s : State} {m : MethodId} {args : Array Value} {below : List Frame} {meth : Method} {c : Code} {H H0 : Heap} {locs : List Loc} {cells slots : Nat} {Q : State → Prop} {cc : ByteArray} {nL pc : Nat} {rt : Option FieldType} {ls : Array Slot} {rest : List Value} {D : xD} {ty : xTy} {h : xH}
theorem gf_X6_15 {a : Nat} (C0 : xC D RX6 cc nL rt p s m args meth c) (hR : xRep D ty h H) (ht : ty a = some (0, 6)) (hdg : decode cc pc = .ok (.getfield 15, 3)) (kk : W p l e R s m args below meth c H locs cells slots Q (F0 m (pc + 3) ls (.int (xI h a 1) :: rest))) : W p l e R s m args below meth c H locs cells slots Q (F0 m pc ls (.ref a :: rest)) := x_get C0 hR (ci := 6) (k := 1) (N := 5) (T := TX6) rfl iX6 (by decide) rfl wf_X6_15 rfl ht hdg kk
theorem gf_X6_19 {a : Nat} (C0 : xC D RX6 cc nL rt p s m args meth c) (hR : xRep D ty h H) (ht : ty a = some (0, 6)) (hdg : decode cc pc = .ok (.getfield 19, 3)) (kk : W p l e R s m args below meth c H locs cells slots Q (F0 m (pc + 3) ls (.int (xI h a 2) :: rest))) : W p l e R s m args below meth c H locs cells slots Q (F0 m pc ls (.ref a :: rest)) := x_get C0 hR (ci := 6) (k := 2) (N := 5) (T := TX6) rfl iX6 (by decide) rfl wf_X6_19 rfl ht hdg kk
end XN_X6_takeImage
set_option maxHeartbeats 4000000 in
set_option maxRecDepth 100000 in
theorem jc_X6_takeImage {l : Launch} {D : xD} {ty : xTy} {h : xH} {v0 : Nat} {r : Int32} {h9 : xH} (t_v0 : ty v0 = some (0, 6)) (hF : jf_X6_takeImage ty h v0 = some (r, h9)) : Met l yX6_takeImage (xws yX6_takeImage cX6_takeImage 1 (some .boolean)) jr_X6_takeImage (xPc D ty h [.ref v0]) (xQ D ty (some (.int r)) h9) 0 0 (xdom ty) := by
  refine x_met (by decide) ?_
  intro p e s m below meth c C0 hR
  generalize hargs : ([.ref v0] : List Value).toArray = args at C0 ⊢
  have hx := C0.1
  have hb := C0.2.1
  have hown := C0.2.2.2.2.2.1
  have hts := C0.2.2.2.2.2.2.1
  have hS : xS ty s.heap s.heap [] := xS.rf
  have hl := lv_entry ([.ref v0]) (n := 1) (Nat.le_of_ble_eq_true rfl)
  rw [← hargs, lg_entry_eq]
  rw [hargs]
  generalize (lg_sl ([.ref v0]) ++ List.replicate (1 - (lg_sl ([.ref v0])).length) Slot.unset).toArray = ls at hl ⊢
  have hl : lv_has ls 1 [(0, .ref v0)] := hl
  unfold jf_X6_takeImage at hF
  refine lv_aload_n hx hb dX6_takeImage_0 rfl (lv_at hl 0 rfl) ?_
  refine gf_X6_19 C0 hR t_v0 dX6_takeImage_1 ?_
  refine lv_if_ne (tgt := 9) hx hb dX6_takeImage_4 (by decide) (fun c1 => ?_) (fun c1 => ?_)
  · have hF := xel hF c1
    refine lv_aload_n hx hb dX6_takeImage_9 rfl (lv_at hl 0 rfl) ?_
    refine lv_aload_n hx hb dX6_takeImage_10 rfl (lv_at hl 0 rfl) ?_
    refine gf_X6_15 C0 hR t_v0 dX6_takeImage_11 ?_
    obtain ⟨h2, e_h2, hF⟩ := xbd hF
    refine pf_X6_26 C0 hR hS t_v0 dX6_takeImage_14 (fun H locs hR hS => ?_)
    rw [Option.some.inj e_h2] at hR
    refine lv_aload_n hx hb dX6_takeImage_17 rfl (lv_at hl 0 rfl) ?_
    refine lv_iconst (v := 0) hx hb dX6_takeImage_18 (by decide) ?_
    obtain ⟨h3, e_h3, hF⟩ := xbd hF
    refine pf_X6_23 C0 hR hS t_v0 dX6_takeImage_19 (fun H locs hR hS => ?_)
    rw [Option.some.inj e_h3] at hR
    refine lv_iconst (v := 1) hx hb dX6_takeImage_22 (by decide) ?_
    cases hF
    exact x_zret (w := 1) C0 hR hS (by decide) dX6_takeImage_23
  · have hF := xif hF c1
    refine lv_iconst (v := 0) hx hb dX6_takeImage_7 (by decide) ?_
    cases hF
    exact x_zret (w := 0) C0 hR hS (by decide) dX6_takeImage_8
theorem xm_X6_takeImage : xMw yX6_takeImage cX6_takeImage 1 (some .boolean) 0 := ⟨xin 1171 (by decide +kernel) rfl, xin 119 (by decide +kernel) rfl, by decide +kernel⟩
theorem xi_X6_takeImage : Cond.instanceMethod yX6_takeImage ∈ xT := xin 1169 (by decide +kernel) rfl
theorem xe_X6_takeImage : Cond.selects yX6_takeImage.cls yX6_takeImage yX6_takeImage ∈ xT := xin 1170 (by decide +kernel) rfl
theorem dX7_copyApart_0 : decode cX7_copyApart 0 = .ok (.aload_n 0, 1) := by decide +kernel
theorem dX7_copyApart_1 : decode cX7_copyApart 1 = .ok (.invokevirtual 33, 3) := by decide +kernel
theorem dX7_copyApart_4 : decode cX7_copyApart 4 = .ok (.iconst 0, 1) := by decide +kernel
theorem dX7_copyApart_5 : decode cX7_copyApart 5 = .ok (.istore_n 2, 1) := by decide +kernel
theorem dX7_copyApart_6 : decode cX7_copyApart 6 = .ok (.iload_n 2, 1) := by decide +kernel
theorem dX7_copyApart_7 : decode cX7_copyApart 7 = .ok (.aload_n 1, 1) := by decide +kernel
theorem dX7_copyApart_8 : decode cX7_copyApart 8 = .ok (.getfield 9, 3) := by decide +kernel
theorem dX7_copyApart_11 : decode cX7_copyApart 11 = .ok (.if_icmp .ge 39, 3) := by decide +kernel
theorem dX7_copyApart_14 : decode cX7_copyApart 14 = .ok (.aload_n 1, 1) := by decide +kernel
theorem dX7_copyApart_15 : decode cX7_copyApart 15 = .ok (.iload_n 2, 1) := by decide +kernel
theorem dX7_copyApart_16 : decode cX7_copyApart 16 = .ok (.invokevirtual 22, 3) := by decide +kernel
theorem dX7_copyApart_19 : decode cX7_copyApart 19 = .ok (.istore_n 3, 1) := by decide +kernel
theorem dX7_copyApart_20 : decode cX7_copyApart 20 = .ok (.aload_n 0, 1) := by decide +kernel
theorem dX7_copyApart_21 : decode cX7_copyApart 21 = .ok (.iload_n 3, 1) := by decide +kernel
theorem dX7_copyApart_22 : decode cX7_copyApart 22 = .ok (.bipush 100, 2) := by decide +kernel
theorem dX7_copyApart_24 : decode cX7_copyApart 24 = .ok (.if_icmp .ge 7, 3) := by decide +kernel
theorem dX7_copyApart_27 : decode cX7_copyApart 27 = .ok (.iload_n 3, 1) := by decide +kernel
theorem dX7_copyApart_28 : decode cX7_copyApart 28 = .ok (.goto 7, 3) := by decide +kernel
theorem dX7_copyApart_31 : decode cX7_copyApart 31 = .ok (.bipush 100, 2) := by decide +kernel
theorem dX7_copyApart_33 : decode cX7_copyApart 33 = .ok (.iload_n 2, 1) := by decide +kernel
theorem dX7_copyApart_34 : decode cX7_copyApart 34 = .ok (.iadd, 1) := by decide +kernel
theorem dX7_copyApart_35 : decode cX7_copyApart 35 = .ok (.aload_n 1, 1) := by decide +kernel
theorem dX7_copyApart_36 : decode cX7_copyApart 36 = .ok (.iload_n 2, 1) := by decide +kernel
theorem dX7_copyApart_37 : decode cX7_copyApart 37 = .ok (.invokevirtual 26, 3) := by decide +kernel
theorem dX7_copyApart_40 : decode cX7_copyApart 40 = .ok (.invokevirtual 29, 3) := by decide +kernel
theorem dX7_copyApart_43 : decode cX7_copyApart 43 = .ok (.pop, 1) := by decide +kernel
theorem dX7_copyApart_44 : decode cX7_copyApart 44 = .ok (.iinc 2 1, 3) := by decide +kernel
theorem dX7_copyApart_47 : decode cX7_copyApart 47 = .ok (.goto (-41), 3) := by decide +kernel
theorem dX7_copyApart_50 : decode cX7_copyApart 50 = .ok (.return_, 1) := by decide +kernel
set_option maxHeartbeats 4000000 in
set_option maxRecDepth 100000 in
theorem jw_X7_copyApart_6 {p : Program} {l : Launch} {e : Env} {s : State} {m : MethodId} {args : Array Value} {below : List Frame} {meth : Method} {c : Code} {D : xD} {ty : xTy} (C0 : xC D RX7 cX7_copyApart 4 none p s m args meth c) {h9 : xH} : ∀ n : Nat, ∀ (v0 : Nat) (v1 : Nat) (v2 : Int32) (h : xH), ty v0 = some (0, 7) → ty v1 = some (0, 7) → jf_X7_copyApart_6 ty n v0 v1 v2 h = some h9 → ∀ (H : Heap) (locs : List Loc), xRep D ty h H → xS ty s.heap H locs → ∀ ls : Array Slot, lv_has ls 4 [(0, .ref v0), (1, .ref v1), (2, .int v2)] → W p l e jr_X7_copyApart s m args below meth c H locs 0 0 (MQ below (xQ D ty none h9) args s 0 0 (xdom ty)) (F0 m 6 ls []) := by
  have hx := C0.1
  have hb := C0.2.1
  have hown := C0.2.2.2.2.2.1
  have hts := C0.2.2.2.2.2.2.1
  intro n
  induction n with
  | zero =>
    intro v0 v1 v2 h t_v0 t_v1 hF H locs hR hS ls hl
    cases hF
  | succ n ih =>
    intro v0 v1 v2 h t_v0 t_v1 hF H locs hR hS ls hl
    rw [jf_X7_copyApart_6_s] at hF
    refine lv_iload_n hx hb dX7_copyApart_6 rfl (lv_at hl 2 rfl) ?_
    refine lv_aload_n hx hb dX7_copyApart_7 rfl (lv_at hl 1 rfl) ?_
    refine gf_X7_9 C0 hR t_v1 dX7_copyApart_8 ?_
    refine lv_icmp_ge (tgt := 50) hx hb dX7_copyApart_11 (by decide) (fun c1 => ?_) (fun c1 => ?_)
    · have hF := xif hF c1
      cases hF
      exact x_vret C0 hR hS dX7_copyApart_50
    · have hF := xel hF c1
      refine lv_aload_n hx hb dX7_copyApart_14 rfl (lv_at hl 1 rfl) ?_
      refine lv_iload_n hx hb dX7_copyApart_15 rfl (lv_at hl 2 rfl) ?_
      obtain ⟨a2, e_a2, hF⟩ := xbd hF
      refine cl_X7_22 C0 hR hS e_a2 t_v1 ⟨(Nat.le_of_ble_eq_true rfl), (Nat.le_of_ble_eq_true rfl)⟩ hl.1 (Nat.le_of_ble_eq_true rfl) ⟨(Nat.le_of_ble_eq_true rfl), (Nat.le_of_ble_eq_true rfl)⟩ dX7_copyApart_16 (fun H locs hR hS => ?_)
      refine lv_istore_n (lv' := [(3, .int a2), (0, .ref v0), (1, .ref v1), (2, .int v2)]) hx hb dX7_copyApart_19 rfl hl (by decide) rfl (fun ls hl => ?_)
      refine lv_aload_n hx hb dX7_copyApart_20 rfl (lv_at hl 1 rfl) ?_
      refine lv_iload_n hx hb dX7_copyApart_21 rfl (lv_at hl 0 rfl) ?_
      refine lv_bipush (v := 100) hx hb dX7_copyApart_22 (by decide) ?_
      refine lv_icmp_ge (tgt := 31) hx hb dX7_copyApart_24 (by decide) (fun c3 => ?_) (fun c3 => ?_)
      · have hF := xif hF c3
        refine lv_bipush (v := 100) hx hb dX7_copyApart_31 (by decide) ?_
        refine lv_iload_n hx hb dX7_copyApart_33 rfl (lv_at hl 3 rfl) ?_
        refine lv_iadd hx hb dX7_copyApart_34 ?_
        refine lv_aload_n hx hb dX7_copyApart_35 rfl (lv_at hl 2 rfl) ?_
        refine lv_iload_n hx hb dX7_copyApart_36 rfl (lv_at hl 3 rfl) ?_
        obtain ⟨a4, e_a4, hF⟩ := xbd hF
        refine cl_X7_26 C0 hR hS e_a4 t_v1 ⟨(Nat.le_of_ble_eq_true rfl), (Nat.le_of_ble_eq_true rfl)⟩ hl.1 (Nat.le_of_ble_eq_true rfl) ⟨(Nat.le_of_ble_eq_true rfl), (Nat.le_of_ble_eq_true rfl)⟩ dX7_copyApart_37 (fun H locs hR hS => ?_)
        obtain ⟨a6, h5, e_h5, hF⟩ := xbd2 hF
        refine cl_X7_29 C0 hR hS e_h5 t_v0 ⟨(Nat.le_of_ble_eq_true rfl), (Nat.le_of_ble_eq_true rfl)⟩ hl.1 (Nat.le_of_ble_eq_true rfl) ⟨(Nat.le_of_ble_eq_true rfl), (Nat.le_of_ble_eq_true rfl)⟩ dX7_copyApart_40 (fun H locs hR hS => ?_)
        refine lv_pop hx hb dX7_copyApart_43 rfl ?_
        refine lv_iinc (v := v2 + 1) (lv' := [(2, .int (v2 + 1)), (3, .int a2), (0, .ref v0), (1, .ref v1)]) hx hb dX7_copyApart_44 hl (k := 3) rfl rfl (by decide) rfl (fun ls hl => ?_)
        refine lv_goto (tgt := 6) hx hb dX7_copyApart_47 (by decide) ?_
        exact ih _ _ _ _ t_v0 t_v1 hF _ _ hR hS _ (lv_sub hl [2, 3, 0] rfl)
      · have hF := xel hF c3
        refine lv_iload_n hx hb dX7_copyApart_27 rfl (lv_at hl 0 rfl) ?_
        refine lv_goto (tgt := 35) hx hb dX7_copyApart_28 (by decide) ?_
        refine lv_aload_n hx hb dX7_copyApart_35 rfl (lv_at hl 2 rfl) ?_
        refine lv_iload_n hx hb dX7_copyApart_36 rfl (lv_at hl 3 rfl) ?_
        obtain ⟨a7, e_a7, hF⟩ := xbd hF
        refine cl_X7_26 C0 hR hS e_a7 t_v1 ⟨(Nat.le_of_ble_eq_true rfl), (Nat.le_of_ble_eq_true rfl)⟩ hl.1 (Nat.le_of_ble_eq_true rfl) ⟨(Nat.le_of_ble_eq_true rfl), (Nat.le_of_ble_eq_true rfl)⟩ dX7_copyApart_37 (fun H locs hR hS => ?_)
        obtain ⟨a9, h8, e_h8, hF⟩ := xbd2 hF
        refine cl_X7_29 C0 hR hS e_h8 t_v0 ⟨(Nat.le_of_ble_eq_true rfl), (Nat.le_of_ble_eq_true rfl)⟩ hl.1 (Nat.le_of_ble_eq_true rfl) ⟨(Nat.le_of_ble_eq_true rfl), (Nat.le_of_ble_eq_true rfl)⟩ dX7_copyApart_40 (fun H locs hR hS => ?_)
        refine lv_pop hx hb dX7_copyApart_43 rfl ?_
        refine lv_iinc (v := v2 + 1) (lv' := [(2, .int (v2 + 1)), (3, .int a2), (0, .ref v0), (1, .ref v1)]) hx hb dX7_copyApart_44 hl (k := 3) rfl rfl (by decide) rfl (fun ls hl => ?_)
        refine lv_goto (tgt := 6) hx hb dX7_copyApart_47 (by decide) ?_
        exact ih _ _ _ _ t_v0 t_v1 hF _ _ hR hS _ (lv_sub hl [2, 3, 0] rfl)
set_option maxHeartbeats 4000000 in
set_option maxRecDepth 100000 in
theorem jc_X7_copyApart {l : Launch} {D : xD} {ty : xTy} {h : xH} {v0 : Nat} {v1 : Nat} {h9 : xH} (t_v0 : ty v0 = some (0, 7)) (t_v1 : ty v1 = some (0, 7)) (hF : jf_X7_copyApart ty h v0 v1 = some h9) : Met l yX7_copyApart (xws yX7_copyApart cX7_copyApart 4 none) jr_X7_copyApart (xPc D ty h [.ref v0, .ref v1]) (xQ D ty none h9) 0 0 (xdom ty) := by
  refine x_met (by decide) ?_
  intro p e s m below meth c C0 hR
  generalize hargs : ([.ref v0, .ref v1] : List Value).toArray = args at C0 ⊢
  have hx := C0.1
  have hb := C0.2.1
  have hown := C0.2.2.2.2.2.1
  have hts := C0.2.2.2.2.2.2.1
  have hS : xS ty s.heap s.heap [] := xS.rf
  have hl := lv_entry ([.ref v0, .ref v1]) (n := 4) (Nat.le_of_ble_eq_true rfl)
  rw [← hargs, lg_entry_eq]
  rw [hargs]
  generalize (lg_sl ([.ref v0, .ref v1]) ++ List.replicate (4 - (lg_sl ([.ref v0, .ref v1])).length) Slot.unset).toArray = ls at hl ⊢
  have hl : lv_has ls 4 [(0, .ref v0), (1, .ref v1)] := hl
  unfold jf_X7_copyApart at hF
  refine lv_aload_n hx hb dX7_copyApart_0 rfl (lv_at hl 0 rfl) ?_
  obtain ⟨h10, e_h10, hF⟩ := xbd hF
  refine cl_X7_33 C0 hR hS e_h10 t_v0 ⟨(Nat.le_of_ble_eq_true rfl), (Nat.le_of_ble_eq_true rfl)⟩ hl.1 (Nat.le_of_ble_eq_true rfl) ⟨(Nat.le_of_ble_eq_true rfl), (Nat.le_of_ble_eq_true rfl)⟩ dX7_copyApart_1 (fun H locs hR hS => ?_)
  refine lv_iconst (v := 0) hx hb dX7_copyApart_4 (by decide) ?_
  refine lv_istore_n (lv' := [(2, .int 0), (0, .ref v0), (1, .ref v1)]) hx hb dX7_copyApart_5 rfl hl (by decide) rfl (fun ls hl => ?_)
  obtain ⟨_, hF⟩ := xlim_sp hF
  exact jw_X7_copyApart_6 C0 _ _ _ _ _ t_v0 t_v1 hF _ _ hR hS _ (lv_sub hl [1, 2, 0] rfl)
theorem xm_X7_copyApart : xMw yX7_copyApart cX7_copyApart 4 none 1 := ⟨xin 1138 (by decide +kernel) rfl, xin 116 (by decide +kernel) rfl, by decide +kernel⟩
theorem xi_X7_copyApart : Cond.instanceMethod yX7_copyApart ∈ xT := xin 1136 (by decide +kernel) rfl
theorem xe_X7_copyApart : Cond.selects yX7_copyApart.cls yX7_copyApart yX7_copyApart ∈ xT := xin 1137 (by decide +kernel) rfl
theorem dX7_pathCode_0 : decode cX7_pathCode 0 = .ok (.iload_n 1, 1) := by decide +kernel
theorem dX7_pathCode_1 : decode cX7_pathCode 1 = .ok (.ifCond .lt 11, 3) := by decide +kernel
theorem dX7_pathCode_4 : decode cX7_pathCode 4 = .ok (.iload_n 1, 1) := by decide +kernel
theorem dX7_pathCode_5 : decode cX7_pathCode 5 = .ok (.aload_n 0, 1) := by decide +kernel
theorem dX7_pathCode_6 : decode cX7_pathCode 6 = .ok (.getfield 9, 3) := by decide +kernel
theorem dX7_pathCode_9 : decode cX7_pathCode 9 = .ok (.if_icmp .lt 5, 3) := by decide +kernel
theorem dX7_pathCode_12 : decode cX7_pathCode 12 = .ok (.iconst (-1), 1) := by decide +kernel
theorem dX7_pathCode_13 : decode cX7_pathCode 13 = .ok (.ireturn, 1) := by decide +kernel
theorem dX7_pathCode_14 : decode cX7_pathCode 14 = .ok (.aload_n 0, 1) := by decide +kernel
theorem dX7_pathCode_15 : decode cX7_pathCode 15 = .ok (.getfield 15, 3) := by decide +kernel
theorem dX7_pathCode_18 : decode cX7_pathCode 18 = .ok (.iload_n 1, 1) := by decide +kernel
theorem dX7_pathCode_19 : decode cX7_pathCode 19 = .ok (.iaload, 1) := by decide +kernel
theorem dX7_pathCode_20 : decode cX7_pathCode 20 = .ok (.bipush 100, 2) := by decide +kernel
theorem dX7_pathCode_22 : decode cX7_pathCode 22 = .ok (.invokestatic 43, 3) := by decide +kernel
theorem dX7_pathCode_25 : decode cX7_pathCode 25 = .ok (.ireturn, 1) := by decide +kernel
theorem wm_X7_43 : Cond.methodLink RX7 43 Lib.Math.min.name ∈ xT := xin 702 (by decide +kernel) rfl
section XN_X7_pathCode
variable {p : Program} {l : Launch} {e : Env} {R : Room} {s : State} {m : MethodId} {args : Array Value} {below : List Frame} {meth : Method} {c : Code} {H H0 : Heap} {locs : List Loc} {cells slots : Nat} {Q : State → Prop} {cc : ByteArray} {nL pc : Nat} {rt : Option FieldType} {ls : Array Slot} {rest : List Value} {D : xD} {ty : xTy} {h : xH}
theorem mm_X7_43 {x y : Int32} (C0 : xC D RX7 cc nL rt p s m args meth c) (hsz : ls.size = nL) (h1 : 1 ≤ R.frames) (h2 : (rest.map fun v => v.category).sum + 13 ≤ R.locals) (hf : cells ≤ R.cells ∧ slots ≤ R.slots) (hdg : decode cc pc = .ok (.invokestatic 43, 3)) (kk : W p l e R s m args below meth c H locs cells slots Q (F0 m (pc + 3) ls (.int (xmin x y) :: rest))) : W p l e R s m args below meth c H locs cells slots Q (F0 m pc ls (.int y :: .int x :: rest)) := va_mmin C0.1 C0.2.1 (C0.2.2.1.trans hsz.symm) C0.2.2.2.2.2.1 (C0.2.2.2.2.2.2.1 _ wm_X7_43) (C0.2.2.2.2.2.2.1 _ ms_min) (C0.2.2.2.2.2.2.1 _ ms_init) (C0.2.2.2.2.2.2.1 _ mc_min) h1 h2 hf.1 hf.2 hdg kk
end XN_X7_pathCode
set_option maxHeartbeats 4000000 in
set_option maxRecDepth 100000 in
theorem jc_X7_pathCode {l : Launch} {D : xD} {ty : xTy} {h : xH} {v0 : Nat} {v1 : Int32} {r : Int32} (t_v0 : ty v0 = some (0, 7)) (hF : jf_X7_pathCode ty h v0 v1 = some r) : Met l yX7_pathCode (xws yX7_pathCode cX7_pathCode 2 (some .int)) jr_X7_pathCode (xPc D ty h [.ref v0, .int v1]) (xQ D ty (some (.int r)) h) 0 0 (xdom ty) := by
  refine x_met (by decide) ?_
  intro p e s m below meth c C0 hR
  generalize hargs : ([.ref v0, .int v1] : List Value).toArray = args at C0 ⊢
  have hx := C0.1
  have hb := C0.2.1
  have hown := C0.2.2.2.2.2.1
  have hts := C0.2.2.2.2.2.2.1
  have hS : xS ty s.heap s.heap [] := xS.rf
  have hl := lv_entry ([.ref v0, .int v1]) (n := 2) (Nat.le_of_ble_eq_true rfl)
  rw [← hargs, lg_entry_eq]
  rw [hargs]
  generalize (lg_sl ([.ref v0, .int v1]) ++ List.replicate (2 - (lg_sl ([.ref v0, .int v1])).length) Slot.unset).toArray = ls at hl ⊢
  have hl : lv_has ls 2 [(0, .ref v0), (1, .int v1)] := hl
  unfold jf_X7_pathCode at hF
  refine lv_iload_n hx hb dX7_pathCode_0 rfl (lv_at hl 1 rfl) ?_
  refine lv_if_lt (tgt := 12) hx hb dX7_pathCode_1 (by decide) (fun c1 => ?_) (fun c1 => ?_)
  · have hF := xif hF c1
    refine lv_iconst (v := (-1)) hx hb dX7_pathCode_12 (by decide) ?_
    cases hF
    exact x_iret C0 hR hS dX7_pathCode_13
  · have hF := xel hF c1
    refine lv_iload_n hx hb dX7_pathCode_4 rfl (lv_at hl 1 rfl) ?_
    refine lv_aload_n hx hb dX7_pathCode_5 rfl (lv_at hl 0 rfl) ?_
    refine gf_X7_9 C0 hR t_v0 dX7_pathCode_6 ?_
    refine lv_icmp_lt (tgt := 14) hx hb dX7_pathCode_9 (by decide) (fun c2 => ?_) (fun c2 => ?_)
    · have hF := xif hF c2
      refine lv_aload_n hx hb dX7_pathCode_14 rfl (lv_at hl 0 rfl) ?_
      obtain ⟨a3, e_a3, hF⟩ := xbd hF
      refine gf_X7_15 C0 hR t_v0 e_a3 dX7_pathCode_15 ?_
      refine lv_iload_n hx hb dX7_pathCode_18 rfl (lv_at hl 1 rfl) ?_
      obtain ⟨a4, e_a4, hF⟩ := xbd hF
      refine x_iald C0 hR e_a4 dX7_pathCode_19 ?_
      refine lv_bipush (v := 100) hx hb dX7_pathCode_20 (by decide) ?_
      refine mm_X7_43 C0 hl.1 (Nat.le_of_ble_eq_true rfl) (Nat.le_of_ble_eq_true rfl) ⟨Nat.le_of_ble_eq_true rfl, Nat.le_of_ble_eq_true rfl⟩ dX7_pathCode_22 ?_
      cases hF
      exact x_iret C0 hR hS dX7_pathCode_25
    · have hF := xel hF c2
      refine lv_iconst (v := (-1)) hx hb dX7_pathCode_12 (by decide) ?_
      cases hF
      exact x_iret C0 hR hS dX7_pathCode_13
theorem xm_X7_pathCode : xMw yX7_pathCode cX7_pathCode 2 (some .int) 1 := ⟨xin 706 (by decide +kernel) rfl, xin 116 (by decide +kernel) rfl, by decide +kernel⟩
theorem xi_X7_pathCode : Cond.instanceMethod yX7_pathCode ∈ xT := xin 704 (by decide +kernel) rfl
theorem xe_X7_pathCode : Cond.selects yX7_pathCode.cls yX7_pathCode yX7_pathCode ∈ xT := xin 705 (by decide +kernel) rfl
theorem dX7_copyAsOne_0 : decode cX7_copyAsOne 0 = .ok (.aload_n 0, 1) := by decide +kernel
theorem dX7_copyAsOne_1 : decode cX7_copyAsOne 1 = .ok (.invokevirtual 33, 3) := by decide +kernel
theorem dX7_copyAsOne_4 : decode cX7_copyAsOne 4 = .ok (.iconst 0, 1) := by decide +kernel
theorem dX7_copyAsOne_5 : decode cX7_copyAsOne 5 = .ok (.istore_n 2, 1) := by decide +kernel
theorem dX7_copyAsOne_6 : decode cX7_copyAsOne 6 = .ok (.iload_n 2, 1) := by decide +kernel
theorem dX7_copyAsOne_7 : decode cX7_copyAsOne 7 = .ok (.aload_n 1, 1) := by decide +kernel
theorem dX7_copyAsOne_8 : decode cX7_copyAsOne 8 = .ok (.getfield 9, 3) := by decide +kernel
theorem dX7_copyAsOne_11 : decode cX7_copyAsOne 11 = .ok (.if_icmp .ge 24, 3) := by decide +kernel
theorem dX7_copyAsOne_14 : decode cX7_copyAsOne 14 = .ok (.aload_n 0, 1) := by decide +kernel
theorem dX7_copyAsOne_15 : decode cX7_copyAsOne 15 = .ok (.aload_n 1, 1) := by decide +kernel
theorem dX7_copyAsOne_16 : decode cX7_copyAsOne 16 = .ok (.iload_n 2, 1) := by decide +kernel
theorem dX7_copyAsOne_17 : decode cX7_copyAsOne 17 = .ok (.invokevirtual 40, 3) := by decide +kernel
theorem dX7_copyAsOne_20 : decode cX7_copyAsOne 20 = .ok (.aload_n 1, 1) := by decide +kernel
theorem dX7_copyAsOne_21 : decode cX7_copyAsOne 21 = .ok (.iload_n 2, 1) := by decide +kernel
theorem dX7_copyAsOne_22 : decode cX7_copyAsOne 22 = .ok (.invokevirtual 26, 3) := by decide +kernel
theorem dX7_copyAsOne_25 : decode cX7_copyAsOne 25 = .ok (.invokevirtual 29, 3) := by decide +kernel
theorem dX7_copyAsOne_28 : decode cX7_copyAsOne 28 = .ok (.pop, 1) := by decide +kernel
theorem dX7_copyAsOne_29 : decode cX7_copyAsOne 29 = .ok (.iinc 2 1, 3) := by decide +kernel
theorem dX7_copyAsOne_32 : decode cX7_copyAsOne 32 = .ok (.goto (-26), 3) := by decide +kernel
theorem dX7_copyAsOne_35 : decode cX7_copyAsOne 35 = .ok (.return_, 1) := by decide +kernel
theorem wl_X7_40 : Cond.methodLink RX7 40 yX7_pathCode ∈ xT := xin 703 (by decide +kernel) rfl
section XN_X7_copyAsOne
variable {p : Program} {l : Launch} {e : Env} {R : Room} {s : State} {m : MethodId} {args : Array Value} {below : List Frame} {meth : Method} {c : Code} {H H0 : Heap} {locs : List Loc} {cells slots : Nat} {Q : State → Prop} {cc : ByteArray} {nL pc : Nat} {rt : Option FieldType} {ls : Array Slot} {rest : List Value} {D : xD} {ty : xTy} {h : xH}
theorem cl_X7_40 {v0 : Nat} {v1 : Int32} {r : Int32} (C0 : xC D RX7 cc nL rt p s m args meth c) (hR : xRep D ty h H) (hS : xS ty H0 H locs) (hF : jf_X7_pathCode ty h v0 v1 = some r) (t_v0 : ty v0 = some (0, 7)) (hrm : jr_X7_pathCode.frames + 1 ≤ R.frames ∧ 8 + (2 + 11) + jr_X7_pathCode.locals ≤ R.locals) (hsz : ls.size = nL) (hW : (rest.map fun v => v.category).sum ≤ 8) (hf : cells ≤ R.cells ∧ slots ≤ R.slots) (hdg : decode cc pc = .ok (.invokevirtual 40, 3)) (kk : ∀ (H1 : Heap) (locs1 : List Loc), xRep D ty h H1 → xS ty H0 H1 locs1 → W p l e R s m args below meth c H1 locs1 cells slots Q (F0 m (pc + 3) ls (.int r :: rest))) : W p l e R s m args below meth c H locs cells slots Q (F0 m pc ls (.int v1 :: .ref v0 :: rest)) := x_callV C0 (jc_X7_pathCode t_v0 hF) xm_X7_pathCode xi_X7_pathCode xe_X7_pathCode wl_X7_40 ⟨rfl, rfl, hrm⟩ (ci := 7) rfl t_v0 hR hS (As := [.int v1]) rfl hsz rfl hW hdg hf kk
end XN_X7_copyAsOne
set_option maxHeartbeats 4000000 in
set_option maxRecDepth 100000 in
theorem jw_X7_copyAsOne_6 {p : Program} {l : Launch} {e : Env} {s : State} {m : MethodId} {args : Array Value} {below : List Frame} {meth : Method} {c : Code} {D : xD} {ty : xTy} (C0 : xC D RX7 cX7_copyAsOne 3 none p s m args meth c) {h9 : xH} : ∀ n : Nat, ∀ (v0 : Nat) (v1 : Nat) (v2 : Int32) (h : xH), ty v0 = some (0, 7) → ty v1 = some (0, 7) → jf_X7_copyAsOne_6 ty n v0 v1 v2 h = some h9 → ∀ (H : Heap) (locs : List Loc), xRep D ty h H → xS ty s.heap H locs → ∀ ls : Array Slot, lv_has ls 3 [(0, .ref v0), (1, .ref v1), (2, .int v2)] → W p l e jr_X7_copyAsOne s m args below meth c H locs 0 0 (MQ below (xQ D ty none h9) args s 0 0 (xdom ty)) (F0 m 6 ls []) := by
  have hx := C0.1
  have hb := C0.2.1
  have hown := C0.2.2.2.2.2.1
  have hts := C0.2.2.2.2.2.2.1
  intro n
  induction n with
  | zero =>
    intro v0 v1 v2 h t_v0 t_v1 hF H locs hR hS ls hl
    cases hF
  | succ n ih =>
    intro v0 v1 v2 h t_v0 t_v1 hF H locs hR hS ls hl
    rw [jf_X7_copyAsOne_6_s] at hF
    refine lv_iload_n hx hb dX7_copyAsOne_6 rfl (lv_at hl 2 rfl) ?_
    refine lv_aload_n hx hb dX7_copyAsOne_7 rfl (lv_at hl 1 rfl) ?_
    refine gf_X7_9 C0 hR t_v1 dX7_copyAsOne_8 ?_
    refine lv_icmp_ge (tgt := 35) hx hb dX7_copyAsOne_11 (by decide) (fun c1 => ?_) (fun c1 => ?_)
    · have hF := xif hF c1
      cases hF
      exact x_vret C0 hR hS dX7_copyAsOne_35
    · have hF := xel hF c1
      refine lv_aload_n hx hb dX7_copyAsOne_14 rfl (lv_at hl 0 rfl) ?_
      refine lv_aload_n hx hb dX7_copyAsOne_15 rfl (lv_at hl 1 rfl) ?_
      refine lv_iload_n hx hb dX7_copyAsOne_16 rfl (lv_at hl 2 rfl) ?_
      obtain ⟨a2, e_a2, hF⟩ := xbd hF
      refine cl_X7_40 C0 hR hS e_a2 t_v1 ⟨(Nat.le_of_ble_eq_true rfl), (Nat.le_of_ble_eq_true rfl)⟩ hl.1 (Nat.le_of_ble_eq_true rfl) ⟨(Nat.le_of_ble_eq_true rfl), (Nat.le_of_ble_eq_true rfl)⟩ dX7_copyAsOne_17 (fun H locs hR hS => ?_)
      refine lv_aload_n hx hb dX7_copyAsOne_20 rfl (lv_at hl 1 rfl) ?_
      refine lv_iload_n hx hb dX7_copyAsOne_21 rfl (lv_at hl 2 rfl) ?_
      obtain ⟨a3, e_a3, hF⟩ := xbd hF
      refine cl_X7_26 C0 hR hS e_a3 t_v1 ⟨(Nat.le_of_ble_eq_true rfl), (Nat.le_of_ble_eq_true rfl)⟩ hl.1 (Nat.le_of_ble_eq_true rfl) ⟨(Nat.le_of_ble_eq_true rfl), (Nat.le_of_ble_eq_true rfl)⟩ dX7_copyAsOne_22 (fun H locs hR hS => ?_)
      obtain ⟨a5, h4, e_h4, hF⟩ := xbd2 hF
      refine cl_X7_29 C0 hR hS e_h4 t_v0 ⟨(Nat.le_of_ble_eq_true rfl), (Nat.le_of_ble_eq_true rfl)⟩ hl.1 (Nat.le_of_ble_eq_true rfl) ⟨(Nat.le_of_ble_eq_true rfl), (Nat.le_of_ble_eq_true rfl)⟩ dX7_copyAsOne_25 (fun H locs hR hS => ?_)
      refine lv_pop hx hb dX7_copyAsOne_28 rfl ?_
      refine lv_iinc (v := v2 + 1) (lv' := [(2, .int (v2 + 1)), (0, .ref v0), (1, .ref v1)]) hx hb dX7_copyAsOne_29 hl (k := 2) rfl rfl (by decide) rfl (fun ls hl => ?_)
      refine lv_goto (tgt := 6) hx hb dX7_copyAsOne_32 (by decide) ?_
      exact ih _ _ _ _ t_v0 t_v1 hF _ _ hR hS _ (lv_sub hl [1, 2, 0] rfl)
set_option maxHeartbeats 4000000 in
set_option maxRecDepth 100000 in
theorem jc_X7_copyAsOne {l : Launch} {D : xD} {ty : xTy} {h : xH} {v0 : Nat} {v1 : Nat} {h9 : xH} (t_v0 : ty v0 = some (0, 7)) (t_v1 : ty v1 = some (0, 7)) (hF : jf_X7_copyAsOne ty h v0 v1 = some h9) : Met l yX7_copyAsOne (xws yX7_copyAsOne cX7_copyAsOne 3 none) jr_X7_copyAsOne (xPc D ty h [.ref v0, .ref v1]) (xQ D ty none h9) 0 0 (xdom ty) := by
  refine x_met (by decide) ?_
  intro p e s m below meth c C0 hR
  generalize hargs : ([.ref v0, .ref v1] : List Value).toArray = args at C0 ⊢
  have hx := C0.1
  have hb := C0.2.1
  have hown := C0.2.2.2.2.2.1
  have hts := C0.2.2.2.2.2.2.1
  have hS : xS ty s.heap s.heap [] := xS.rf
  have hl := lv_entry ([.ref v0, .ref v1]) (n := 3) (Nat.le_of_ble_eq_true rfl)
  rw [← hargs, lg_entry_eq]
  rw [hargs]
  generalize (lg_sl ([.ref v0, .ref v1]) ++ List.replicate (3 - (lg_sl ([.ref v0, .ref v1])).length) Slot.unset).toArray = ls at hl ⊢
  have hl : lv_has ls 3 [(0, .ref v0), (1, .ref v1)] := hl
  unfold jf_X7_copyAsOne at hF
  refine lv_aload_n hx hb dX7_copyAsOne_0 rfl (lv_at hl 0 rfl) ?_
  obtain ⟨h6, e_h6, hF⟩ := xbd hF
  refine cl_X7_33 C0 hR hS e_h6 t_v0 ⟨(Nat.le_of_ble_eq_true rfl), (Nat.le_of_ble_eq_true rfl)⟩ hl.1 (Nat.le_of_ble_eq_true rfl) ⟨(Nat.le_of_ble_eq_true rfl), (Nat.le_of_ble_eq_true rfl)⟩ dX7_copyAsOne_1 (fun H locs hR hS => ?_)
  refine lv_iconst (v := 0) hx hb dX7_copyAsOne_4 (by decide) ?_
  refine lv_istore_n (lv' := [(2, .int 0), (0, .ref v0), (1, .ref v1)]) hx hb dX7_copyAsOne_5 rfl hl (by decide) rfl (fun ls hl => ?_)
  obtain ⟨_, hF⟩ := xlim_sp hF
  exact jw_X7_copyAsOne_6 C0 _ _ _ _ _ t_v0 t_v1 hF _ _ hR hS _ (lv_sub hl [1, 2, 0] rfl)
theorem xm_X7_copyAsOne : xMw yX7_copyAsOne cX7_copyAsOne 3 none 1 := ⟨xin 1147 (by decide +kernel) rfl, xin 116 (by decide +kernel) rfl, by decide +kernel⟩
theorem xi_X7_copyAsOne : Cond.instanceMethod yX7_copyAsOne ∈ xT := xin 1145 (by decide +kernel) rfl
theorem xe_X7_copyAsOne : Cond.selects yX7_copyAsOne.cls yX7_copyAsOne yX7_copyAsOne ∈ xT := xin 1146 (by decide +kernel) rfl
theorem dX7_codeOrMissing_0 : decode cX7_codeOrMissing 0 = .ok (.iload_n 1, 1) := by decide +kernel
theorem dX7_codeOrMissing_1 : decode cX7_codeOrMissing 1 = .ok (.ifCond .lt 20, 3) := by decide +kernel
theorem dX7_codeOrMissing_4 : decode cX7_codeOrMissing 4 = .ok (.iload_n 1, 1) := by decide +kernel
theorem dX7_codeOrMissing_5 : decode cX7_codeOrMissing 5 = .ok (.aload_n 0, 1) := by decide +kernel
theorem dX7_codeOrMissing_6 : decode cX7_codeOrMissing 6 = .ok (.getfield 9, 3) := by decide +kernel
theorem dX7_codeOrMissing_9 : decode cX7_codeOrMissing 9 = .ok (.if_icmp .ge 12, 3) := by decide +kernel
theorem dX7_codeOrMissing_12 : decode cX7_codeOrMissing 12 = .ok (.aload_n 0, 1) := by decide +kernel
theorem dX7_codeOrMissing_13 : decode cX7_codeOrMissing 13 = .ok (.getfield 15, 3) := by decide +kernel
theorem dX7_codeOrMissing_16 : decode cX7_codeOrMissing 16 = .ok (.iload_n 1, 1) := by decide +kernel
theorem dX7_codeOrMissing_17 : decode cX7_codeOrMissing 17 = .ok (.iaload, 1) := by decide +kernel
theorem dX7_codeOrMissing_18 : decode cX7_codeOrMissing 18 = .ok (.goto 5, 3) := by decide +kernel
theorem dX7_codeOrMissing_21 : decode cX7_codeOrMissing 21 = .ok (.bipush (-2), 2) := by decide +kernel
theorem dX7_codeOrMissing_23 : decode cX7_codeOrMissing 23 = .ok (.ireturn, 1) := by decide +kernel
set_option maxHeartbeats 4000000 in
set_option maxRecDepth 100000 in
theorem jc_X7_codeOrMissing {l : Launch} {D : xD} {ty : xTy} {h : xH} {v0 : Nat} {v1 : Int32} {r : Int32} (t_v0 : ty v0 = some (0, 7)) (hF : jf_X7_codeOrMissing ty h v0 v1 = some r) : Met l yX7_codeOrMissing (xws yX7_codeOrMissing cX7_codeOrMissing 2 (some .int)) jr_X7_codeOrMissing (xPc D ty h [.ref v0, .int v1]) (xQ D ty (some (.int r)) h) 0 0 (xdom ty) := by
  refine x_met (by decide) ?_
  intro p e s m below meth c C0 hR
  generalize hargs : ([.ref v0, .int v1] : List Value).toArray = args at C0 ⊢
  have hx := C0.1
  have hb := C0.2.1
  have hown := C0.2.2.2.2.2.1
  have hts := C0.2.2.2.2.2.2.1
  have hS : xS ty s.heap s.heap [] := xS.rf
  have hl := lv_entry ([.ref v0, .int v1]) (n := 2) (Nat.le_of_ble_eq_true rfl)
  rw [← hargs, lg_entry_eq]
  rw [hargs]
  generalize (lg_sl ([.ref v0, .int v1]) ++ List.replicate (2 - (lg_sl ([.ref v0, .int v1])).length) Slot.unset).toArray = ls at hl ⊢
  have hl : lv_has ls 2 [(0, .ref v0), (1, .int v1)] := hl
  unfold jf_X7_codeOrMissing at hF
  refine lv_iload_n hx hb dX7_codeOrMissing_0 rfl (lv_at hl 1 rfl) ?_
  refine lv_if_lt (tgt := 21) hx hb dX7_codeOrMissing_1 (by decide) (fun c1 => ?_) (fun c1 => ?_)
  · have hF := xif hF c1
    refine lv_bipush (v := (-2)) hx hb dX7_codeOrMissing_21 (by decide) ?_
    cases hF
    exact x_iret C0 hR hS dX7_codeOrMissing_23
  · have hF := xel hF c1
    refine lv_iload_n hx hb dX7_codeOrMissing_4 rfl (lv_at hl 1 rfl) ?_
    refine lv_aload_n hx hb dX7_codeOrMissing_5 rfl (lv_at hl 0 rfl) ?_
    refine gf_X7_9 C0 hR t_v0 dX7_codeOrMissing_6 ?_
    refine lv_icmp_ge (tgt := 21) hx hb dX7_codeOrMissing_9 (by decide) (fun c2 => ?_) (fun c2 => ?_)
    · have hF := xif hF c2
      refine lv_bipush (v := (-2)) hx hb dX7_codeOrMissing_21 (by decide) ?_
      cases hF
      exact x_iret C0 hR hS dX7_codeOrMissing_23
    · have hF := xel hF c2
      refine lv_aload_n hx hb dX7_codeOrMissing_12 rfl (lv_at hl 0 rfl) ?_
      obtain ⟨a3, e_a3, hF⟩ := xbd hF
      refine gf_X7_15 C0 hR t_v0 e_a3 dX7_codeOrMissing_13 ?_
      refine lv_iload_n hx hb dX7_codeOrMissing_16 rfl (lv_at hl 1 rfl) ?_
      obtain ⟨a4, e_a4, hF⟩ := xbd hF
      refine x_iald C0 hR e_a4 dX7_codeOrMissing_17 ?_
      refine lv_goto (tgt := 23) hx hb dX7_codeOrMissing_18 (by decide) ?_
      cases hF
      exact x_iret C0 hR hS dX7_codeOrMissing_23
theorem xm_X7_codeOrMissing : xMw yX7_codeOrMissing cX7_codeOrMissing 2 (some .int) 1 := ⟨xin 747 (by decide +kernel) rfl, xin 116 (by decide +kernel) rfl, by decide +kernel⟩
theorem xi_X7_codeOrMissing : Cond.instanceMethod yX7_codeOrMissing ∈ xT := xin 745 (by decide +kernel) rfl
theorem xe_X7_codeOrMissing : Cond.selects yX7_codeOrMissing.cls yX7_codeOrMissing yX7_codeOrMissing ∈ xT := xin 746 (by decide +kernel) rfl
theorem dX7_variables_0 : decode cX7_variables 0 = .ok (.iconst 0, 1) := by decide +kernel
theorem dX7_variables_1 : decode cX7_variables 1 = .ok (.istore_n 1, 1) := by decide +kernel
theorem dX7_variables_2 : decode cX7_variables 2 = .ok (.iconst 0, 1) := by decide +kernel
theorem dX7_variables_3 : decode cX7_variables 3 = .ok (.istore_n 2, 1) := by decide +kernel
theorem dX7_variables_4 : decode cX7_variables 4 = .ok (.iload_n 2, 1) := by decide +kernel
theorem dX7_variables_5 : decode cX7_variables 5 = .ok (.aload_n 0, 1) := by decide +kernel
theorem dX7_variables_6 : decode cX7_variables 6 = .ok (.getfield 9, 3) := by decide +kernel
theorem dX7_variables_9 : decode cX7_variables 9 = .ok (.if_icmp .ge 35, 3) := by decide +kernel
theorem dX7_variables_12 : decode cX7_variables 12 = .ok (.aload_n 0, 1) := by decide +kernel
theorem dX7_variables_13 : decode cX7_variables 13 = .ok (.iload_n 2, 1) := by decide +kernel
theorem dX7_variables_14 : decode cX7_variables 14 = .ok (.invokevirtual 22, 3) := by decide +kernel
theorem dX7_variables_17 : decode cX7_variables 17 = .ok (.bipush 100, 2) := by decide +kernel
theorem dX7_variables_19 : decode cX7_variables 19 = .ok (.if_icmp .lt 19, 3) := by decide +kernel
theorem dX7_variables_22 : decode cX7_variables 22 = .ok (.aload_n 0, 1) := by decide +kernel
theorem dX7_variables_23 : decode cX7_variables 23 = .ok (.aload_n 0, 1) := by decide +kernel
theorem dX7_variables_24 : decode cX7_variables 24 = .ok (.iload_n 2, 1) := by decide +kernel
theorem dX7_variables_25 : decode cX7_variables 25 = .ok (.invokevirtual 22, 3) := by decide +kernel
theorem dX7_variables_28 : decode cX7_variables 28 = .ok (.invokevirtual 52, 3) := by decide +kernel
theorem dX7_variables_31 : decode cX7_variables 31 = .ok (.iload_n 2, 1) := by decide +kernel
theorem dX7_variables_32 : decode cX7_variables 32 = .ok (.if_icmp .ne 6, 3) := by decide +kernel
theorem dX7_variables_35 : decode cX7_variables 35 = .ok (.iinc 1 1, 3) := by decide +kernel
theorem dX7_variables_38 : decode cX7_variables 38 = .ok (.iinc 2 1, 3) := by decide +kernel
theorem dX7_variables_41 : decode cX7_variables 41 = .ok (.goto (-37), 3) := by decide +kernel
theorem dX7_variables_44 : decode cX7_variables 44 = .ok (.iload_n 1, 1) := by decide +kernel
theorem dX7_variables_45 : decode cX7_variables 45 = .ok (.ireturn, 1) := by decide +kernel
theorem wl_X7_52 : Cond.methodLink RX7 52 yX7_firstPlace ∈ xT := xin 1197 (by decide +kernel) rfl
section XN_X7_variables
variable {p : Program} {l : Launch} {e : Env} {R : Room} {s : State} {m : MethodId} {args : Array Value} {below : List Frame} {meth : Method} {c : Code} {H H0 : Heap} {locs : List Loc} {cells slots : Nat} {Q : State → Prop} {cc : ByteArray} {nL pc : Nat} {rt : Option FieldType} {ls : Array Slot} {rest : List Value} {D : xD} {ty : xTy} {h : xH}
theorem cl_X7_52 {v0 : Nat} {v1 : Int32} {r : Int32} (C0 : xC D RX7 cc nL rt p s m args meth c) (hR : xRep D ty h H) (hS : xS ty H0 H locs) (hF : jf_X7_firstPlace ty h v0 v1 = some r) (t_v0 : ty v0 = some (0, 7)) (hrm : jr_X7_firstPlace.frames + 1 ≤ R.frames ∧ 8 + (3 + 11) + jr_X7_firstPlace.locals ≤ R.locals) (hsz : ls.size = nL) (hW : (rest.map fun v => v.category).sum ≤ 8) (hf : cells ≤ R.cells ∧ slots ≤ R.slots) (hdg : decode cc pc = .ok (.invokevirtual 52, 3)) (kk : ∀ (H1 : Heap) (locs1 : List Loc), xRep D ty h H1 → xS ty H0 H1 locs1 → W p l e R s m args below meth c H1 locs1 cells slots Q (F0 m (pc + 3) ls (.int r :: rest))) : W p l e R s m args below meth c H locs cells slots Q (F0 m pc ls (.int v1 :: .ref v0 :: rest)) := x_callV C0 (jc_X7_firstPlace t_v0 hF) xm_X7_firstPlace xi_X7_firstPlace xe_X7_firstPlace wl_X7_52 ⟨rfl, rfl, hrm⟩ (ci := 7) rfl t_v0 hR hS (As := [.int v1]) rfl hsz rfl hW hdg hf kk
end XN_X7_variables
set_option maxHeartbeats 4000000 in
set_option maxRecDepth 100000 in
theorem jw_X7_variables_4 {p : Program} {l : Launch} {e : Env} {s : State} {m : MethodId} {args : Array Value} {below : List Frame} {meth : Method} {c : Code} {D : xD} {ty : xTy} {h : xH} (C0 : xC D RX7 cX7_variables 3 (some .int) p s m args meth c) {r : Int32} : ∀ n : Nat, ∀ (v0 : Nat) (v1 : Int32) (v2 : Int32), ty v0 = some (0, 7) → jf_X7_variables_4 ty h n v0 v1 v2 = some r → ∀ (H : Heap) (locs : List Loc), xRep D ty h H → xS ty s.heap H locs → ∀ ls : Array Slot, lv_has ls 3 [(0, .ref v0), (1, .int v1), (2, .int v2)] → W p l e jr_X7_variables s m args below meth c H locs 0 0 (MQ below (xQ D ty (some (.int r)) h) args s 0 0 (xdom ty)) (F0 m 4 ls []) := by
  have hx := C0.1
  have hb := C0.2.1
  have hown := C0.2.2.2.2.2.1
  have hts := C0.2.2.2.2.2.2.1
  intro n
  induction n with
  | zero =>
    intro v0 v1 v2 t_v0 hF H locs hR hS ls hl
    cases hF
  | succ n ih =>
    intro v0 v1 v2 t_v0 hF H locs hR hS ls hl
    rw [jf_X7_variables_4_s] at hF
    refine lv_iload_n hx hb dX7_variables_4 rfl (lv_at hl 2 rfl) ?_
    refine lv_aload_n hx hb dX7_variables_5 rfl (lv_at hl 0 rfl) ?_
    refine gf_X7_9 C0 hR t_v0 dX7_variables_6 ?_
    refine lv_icmp_ge (tgt := 44) hx hb dX7_variables_9 (by decide) (fun c1 => ?_) (fun c1 => ?_)
    · have hF := xif hF c1
      refine lv_iload_n hx hb dX7_variables_44 rfl (lv_at hl 1 rfl) ?_
      cases hF
      exact x_iret C0 hR hS dX7_variables_45
    · have hF := xel hF c1
      refine lv_aload_n hx hb dX7_variables_12 rfl (lv_at hl 0 rfl) ?_
      refine lv_iload_n hx hb dX7_variables_13 rfl (lv_at hl 2 rfl) ?_
      obtain ⟨a2, e_a2, hF⟩ := xbd hF
      refine cl_X7_22 C0 hR hS e_a2 t_v0 ⟨(Nat.le_of_ble_eq_true rfl), (Nat.le_of_ble_eq_true rfl)⟩ hl.1 (Nat.le_of_ble_eq_true rfl) ⟨(Nat.le_of_ble_eq_true rfl), (Nat.le_of_ble_eq_true rfl)⟩ dX7_variables_14 (fun H locs hR hS => ?_)
      refine lv_bipush (v := 100) hx hb dX7_variables_17 (by decide) ?_
      refine lv_icmp_lt (tgt := 38) hx hb dX7_variables_19 (by decide) (fun c3 => ?_) (fun c3 => ?_)
      · have hF := xif hF c3
        refine lv_iinc (v := v2 + 1) (lv' := [(2, .int (v2 + 1)), (0, .ref v0), (1, .int v1)]) hx hb dX7_variables_38 hl (k := 2) rfl rfl (by decide) rfl (fun ls hl => ?_)
        refine lv_goto (tgt := 4) hx hb dX7_variables_41 (by decide) ?_
        exact ih _ _ _ t_v0 hF _ _ hR hS _ (lv_sub hl [1, 2, 0] rfl)
      · have hF := xel hF c3
        refine lv_aload_n hx hb dX7_variables_22 rfl (lv_at hl 0 rfl) ?_
        refine lv_aload_n hx hb dX7_variables_23 rfl (lv_at hl 0 rfl) ?_
        refine lv_iload_n hx hb dX7_variables_24 rfl (lv_at hl 2 rfl) ?_
        obtain ⟨a4, e_a4, hF⟩ := xbd hF
        refine cl_X7_22 C0 hR hS e_a4 t_v0 ⟨(Nat.le_of_ble_eq_true rfl), (Nat.le_of_ble_eq_true rfl)⟩ hl.1 (Nat.le_of_ble_eq_true rfl) ⟨(Nat.le_of_ble_eq_true rfl), (Nat.le_of_ble_eq_true rfl)⟩ dX7_variables_25 (fun H locs hR hS => ?_)
        obtain ⟨a5, e_a5, hF⟩ := xbd hF
        refine cl_X7_52 C0 hR hS e_a5 t_v0 ⟨(Nat.le_of_ble_eq_true rfl), (Nat.le_of_ble_eq_true rfl)⟩ hl.1 (Nat.le_of_ble_eq_true rfl) ⟨(Nat.le_of_ble_eq_true rfl), (Nat.le_of_ble_eq_true rfl)⟩ dX7_variables_28 (fun H locs hR hS => ?_)
        refine lv_iload_n hx hb dX7_variables_31 rfl (lv_at hl 2 rfl) ?_
        refine lv_icmp_ne (tgt := 38) hx hb dX7_variables_32 (by decide) (fun c6 => ?_) (fun c6 => ?_)
        · have hF := xel hF c6
          refine lv_iinc (v := v2 + 1) (lv' := [(2, .int (v2 + 1)), (0, .ref v0), (1, .int v1)]) hx hb dX7_variables_38 hl (k := 2) rfl rfl (by decide) rfl (fun ls hl => ?_)
          refine lv_goto (tgt := 4) hx hb dX7_variables_41 (by decide) ?_
          exact ih _ _ _ t_v0 hF _ _ hR hS _ (lv_sub hl [1, 2, 0] rfl)
        · have hF := xif hF c6
          refine lv_iinc (v := v1 + 1) (lv' := [(1, .int (v1 + 1)), (0, .ref v0), (2, .int v2)]) hx hb dX7_variables_35 hl (k := 1) rfl rfl (by decide) rfl (fun ls hl => ?_)
          refine lv_iinc (v := v2 + 1) (lv' := [(2, .int (v2 + 1)), (1, .int (v1 + 1)), (0, .ref v0)]) hx hb dX7_variables_38 hl (k := 2) rfl rfl (by decide) rfl (fun ls hl => ?_)
          refine lv_goto (tgt := 4) hx hb dX7_variables_41 (by decide) ?_
          exact ih _ _ _ t_v0 hF _ _ hR hS _ (lv_sub hl [2, 1, 0] rfl)
set_option maxHeartbeats 4000000 in
set_option maxRecDepth 100000 in
theorem jc_X7_variables {l : Launch} {D : xD} {ty : xTy} {h : xH} {v0 : Nat} {r : Int32} (t_v0 : ty v0 = some (0, 7)) (hF : jf_X7_variables ty h v0 = some r) : Met l yX7_variables (xws yX7_variables cX7_variables 3 (some .int)) jr_X7_variables (xPc D ty h [.ref v0]) (xQ D ty (some (.int r)) h) 0 0 (xdom ty) := by
  refine x_met (by decide) ?_
  intro p e s m below meth c C0 hR
  generalize hargs : ([.ref v0] : List Value).toArray = args at C0 ⊢
  have hx := C0.1
  have hb := C0.2.1
  have hown := C0.2.2.2.2.2.1
  have hts := C0.2.2.2.2.2.2.1
  have hS : xS ty s.heap s.heap [] := xS.rf
  have hl := lv_entry ([.ref v0]) (n := 3) (Nat.le_of_ble_eq_true rfl)
  rw [← hargs, lg_entry_eq]
  rw [hargs]
  generalize (lg_sl ([.ref v0]) ++ List.replicate (3 - (lg_sl ([.ref v0])).length) Slot.unset).toArray = ls at hl ⊢
  have hl : lv_has ls 3 [(0, .ref v0)] := hl
  unfold jf_X7_variables at hF
  refine lv_iconst (v := 0) hx hb dX7_variables_0 (by decide) ?_
  refine lv_istore_n (lv' := [(1, .int 0), (0, .ref v0)]) hx hb dX7_variables_1 rfl hl (by decide) rfl (fun ls hl => ?_)
  refine lv_iconst (v := 0) hx hb dX7_variables_2 (by decide) ?_
  refine lv_istore_n (lv' := [(2, .int 0), (1, .int 0), (0, .ref v0)]) hx hb dX7_variables_3 rfl hl (by decide) rfl (fun ls hl => ?_)
  obtain ⟨_, hF⟩ := xlim_sp hF
  exact jw_X7_variables_4 C0 _ _ _ _ t_v0 hF _ _ hR hS _ (lv_sub hl [2, 1, 0] rfl)
theorem xm_X7_variables : xMw yX7_variables cX7_variables 3 (some .int) 0 := ⟨xin 1277 (by decide +kernel) rfl, xin 116 (by decide +kernel) rfl, by decide +kernel⟩
theorem xi_X7_variables : Cond.instanceMethod yX7_variables ∈ xT := xin 1275 (by decide +kernel) rfl
theorem xe_X7_variables : Cond.selects yX7_variables.cls yX7_variables yX7_variables ∈ xT := xin 1276 (by decide +kernel) rfl
theorem dX7_repeatsVariable_0 : decode cX7_repeatsVariable 0 = .ok (.iconst 0, 1) := by decide +kernel
theorem dX7_repeatsVariable_1 : decode cX7_repeatsVariable 1 = .ok (.istore_n 1, 1) := by decide +kernel
theorem dX7_repeatsVariable_2 : decode cX7_repeatsVariable 2 = .ok (.iload_n 1, 1) := by decide +kernel
theorem dX7_repeatsVariable_3 : decode cX7_repeatsVariable 3 = .ok (.aload_n 0, 1) := by decide +kernel
theorem dX7_repeatsVariable_4 : decode cX7_repeatsVariable 4 = .ok (.getfield 9, 3) := by decide +kernel
theorem dX7_repeatsVariable_7 : decode cX7_repeatsVariable 7 = .ok (.if_icmp .ge 34, 3) := by decide +kernel
theorem dX7_repeatsVariable_10 : decode cX7_repeatsVariable 10 = .ok (.aload_n 0, 1) := by decide +kernel
theorem dX7_repeatsVariable_11 : decode cX7_repeatsVariable 11 = .ok (.iload_n 1, 1) := by decide +kernel
theorem dX7_repeatsVariable_12 : decode cX7_repeatsVariable 12 = .ok (.invokevirtual 22, 3) := by decide +kernel
theorem dX7_repeatsVariable_15 : decode cX7_repeatsVariable 15 = .ok (.bipush 100, 2) := by decide +kernel
theorem dX7_repeatsVariable_17 : decode cX7_repeatsVariable 17 = .ok (.if_icmp .lt 18, 3) := by decide +kernel
theorem dX7_repeatsVariable_20 : decode cX7_repeatsVariable 20 = .ok (.aload_n 0, 1) := by decide +kernel
theorem dX7_repeatsVariable_21 : decode cX7_repeatsVariable 21 = .ok (.aload_n 0, 1) := by decide +kernel
theorem dX7_repeatsVariable_22 : decode cX7_repeatsVariable 22 = .ok (.iload_n 1, 1) := by decide +kernel
theorem dX7_repeatsVariable_23 : decode cX7_repeatsVariable 23 = .ok (.invokevirtual 22, 3) := by decide +kernel
theorem dX7_repeatsVariable_26 : decode cX7_repeatsVariable 26 = .ok (.invokevirtual 52, 3) := by decide +kernel
theorem dX7_repeatsVariable_29 : decode cX7_repeatsVariable 29 = .ok (.iload_n 1, 1) := by decide +kernel
theorem dX7_repeatsVariable_30 : decode cX7_repeatsVariable 30 = .ok (.if_icmp .ge 5, 3) := by decide +kernel
theorem dX7_repeatsVariable_33 : decode cX7_repeatsVariable 33 = .ok (.iconst 1, 1) := by decide +kernel
theorem dX7_repeatsVariable_34 : decode cX7_repeatsVariable 34 = .ok (.ireturn, 1) := by decide +kernel
theorem dX7_repeatsVariable_35 : decode cX7_repeatsVariable 35 = .ok (.iinc 1 1, 3) := by decide +kernel
theorem dX7_repeatsVariable_38 : decode cX7_repeatsVariable 38 = .ok (.goto (-36), 3) := by decide +kernel
theorem dX7_repeatsVariable_41 : decode cX7_repeatsVariable 41 = .ok (.iconst 0, 1) := by decide +kernel
theorem dX7_repeatsVariable_42 : decode cX7_repeatsVariable 42 = .ok (.ireturn, 1) := by decide +kernel
set_option maxHeartbeats 4000000 in
set_option maxRecDepth 100000 in
theorem jw_X7_repeatsVariable_2 {p : Program} {l : Launch} {e : Env} {s : State} {m : MethodId} {args : Array Value} {below : List Frame} {meth : Method} {c : Code} {D : xD} {ty : xTy} {h : xH} (C0 : xC D RX7 cX7_repeatsVariable 2 (some .boolean) p s m args meth c) {r : Int32} : ∀ n : Nat, ∀ (v0 : Nat) (v1 : Int32), ty v0 = some (0, 7) → jf_X7_repeatsVariable_2 ty h n v0 v1 = some r → ∀ (H : Heap) (locs : List Loc), xRep D ty h H → xS ty s.heap H locs → ∀ ls : Array Slot, lv_has ls 2 [(0, .ref v0), (1, .int v1)] → W p l e jr_X7_repeatsVariable s m args below meth c H locs 0 0 (MQ below (xQ D ty (some (.int r)) h) args s 0 0 (xdom ty)) (F0 m 2 ls []) := by
  have hx := C0.1
  have hb := C0.2.1
  have hown := C0.2.2.2.2.2.1
  have hts := C0.2.2.2.2.2.2.1
  intro n
  induction n with
  | zero =>
    intro v0 v1 t_v0 hF H locs hR hS ls hl
    cases hF
  | succ n ih =>
    intro v0 v1 t_v0 hF H locs hR hS ls hl
    rw [jf_X7_repeatsVariable_2_s] at hF
    refine lv_iload_n hx hb dX7_repeatsVariable_2 rfl (lv_at hl 1 rfl) ?_
    refine lv_aload_n hx hb dX7_repeatsVariable_3 rfl (lv_at hl 0 rfl) ?_
    refine gf_X7_9 C0 hR t_v0 dX7_repeatsVariable_4 ?_
    refine lv_icmp_ge (tgt := 41) hx hb dX7_repeatsVariable_7 (by decide) (fun c1 => ?_) (fun c1 => ?_)
    · have hF := xif hF c1
      refine lv_iconst (v := 0) hx hb dX7_repeatsVariable_41 (by decide) ?_
      cases hF
      exact x_zret (w := 0) C0 hR hS (by decide) dX7_repeatsVariable_42
    · have hF := xel hF c1
      refine lv_aload_n hx hb dX7_repeatsVariable_10 rfl (lv_at hl 0 rfl) ?_
      refine lv_iload_n hx hb dX7_repeatsVariable_11 rfl (lv_at hl 1 rfl) ?_
      obtain ⟨a2, e_a2, hF⟩ := xbd hF
      refine cl_X7_22 C0 hR hS e_a2 t_v0 ⟨(Nat.le_of_ble_eq_true rfl), (Nat.le_of_ble_eq_true rfl)⟩ hl.1 (Nat.le_of_ble_eq_true rfl) ⟨(Nat.le_of_ble_eq_true rfl), (Nat.le_of_ble_eq_true rfl)⟩ dX7_repeatsVariable_12 (fun H locs hR hS => ?_)
      refine lv_bipush (v := 100) hx hb dX7_repeatsVariable_15 (by decide) ?_
      refine lv_icmp_lt (tgt := 35) hx hb dX7_repeatsVariable_17 (by decide) (fun c3 => ?_) (fun c3 => ?_)
      · have hF := xif hF c3
        refine lv_iinc (v := v1 + 1) (lv' := [(1, .int (v1 + 1)), (0, .ref v0)]) hx hb dX7_repeatsVariable_35 hl (k := 1) rfl rfl (by decide) rfl (fun ls hl => ?_)
        refine lv_goto (tgt := 2) hx hb dX7_repeatsVariable_38 (by decide) ?_
        exact ih _ _ t_v0 hF _ _ hR hS _ (lv_sub hl [1, 0] rfl)
      · have hF := xel hF c3
        refine lv_aload_n hx hb dX7_repeatsVariable_20 rfl (lv_at hl 0 rfl) ?_
        refine lv_aload_n hx hb dX7_repeatsVariable_21 rfl (lv_at hl 0 rfl) ?_
        refine lv_iload_n hx hb dX7_repeatsVariable_22 rfl (lv_at hl 1 rfl) ?_
        obtain ⟨a4, e_a4, hF⟩ := xbd hF
        refine cl_X7_22 C0 hR hS e_a4 t_v0 ⟨(Nat.le_of_ble_eq_true rfl), (Nat.le_of_ble_eq_true rfl)⟩ hl.1 (Nat.le_of_ble_eq_true rfl) ⟨(Nat.le_of_ble_eq_true rfl), (Nat.le_of_ble_eq_true rfl)⟩ dX7_repeatsVariable_23 (fun H locs hR hS => ?_)
        obtain ⟨a5, e_a5, hF⟩ := xbd hF
        refine cl_X7_52 C0 hR hS e_a5 t_v0 ⟨(Nat.le_of_ble_eq_true rfl), (Nat.le_of_ble_eq_true rfl)⟩ hl.1 (Nat.le_of_ble_eq_true rfl) ⟨(Nat.le_of_ble_eq_true rfl), (Nat.le_of_ble_eq_true rfl)⟩ dX7_repeatsVariable_26 (fun H locs hR hS => ?_)
        refine lv_iload_n hx hb dX7_repeatsVariable_29 rfl (lv_at hl 1 rfl) ?_
        refine lv_icmp_ge (tgt := 35) hx hb dX7_repeatsVariable_30 (by decide) (fun c6 => ?_) (fun c6 => ?_)
        · have hF := xif hF c6
          refine lv_iinc (v := v1 + 1) (lv' := [(1, .int (v1 + 1)), (0, .ref v0)]) hx hb dX7_repeatsVariable_35 hl (k := 1) rfl rfl (by decide) rfl (fun ls hl => ?_)
          refine lv_goto (tgt := 2) hx hb dX7_repeatsVariable_38 (by decide) ?_
          exact ih _ _ t_v0 hF _ _ hR hS _ (lv_sub hl [1, 0] rfl)
        · have hF := xel hF c6
          refine lv_iconst (v := 1) hx hb dX7_repeatsVariable_33 (by decide) ?_
          cases hF
          exact x_zret (w := 1) C0 hR hS (by decide) dX7_repeatsVariable_34
set_option maxHeartbeats 4000000 in
set_option maxRecDepth 100000 in
theorem jc_X7_repeatsVariable {l : Launch} {D : xD} {ty : xTy} {h : xH} {v0 : Nat} {r : Int32} (t_v0 : ty v0 = some (0, 7)) (hF : jf_X7_repeatsVariable ty h v0 = some r) : Met l yX7_repeatsVariable (xws yX7_repeatsVariable cX7_repeatsVariable 2 (some .boolean)) jr_X7_repeatsVariable (xPc D ty h [.ref v0]) (xQ D ty (some (.int r)) h) 0 0 (xdom ty) := by
  refine x_met (by decide) ?_
  intro p e s m below meth c C0 hR
  generalize hargs : ([.ref v0] : List Value).toArray = args at C0 ⊢
  have hx := C0.1
  have hb := C0.2.1
  have hown := C0.2.2.2.2.2.1
  have hts := C0.2.2.2.2.2.2.1
  have hS : xS ty s.heap s.heap [] := xS.rf
  have hl := lv_entry ([.ref v0]) (n := 2) (Nat.le_of_ble_eq_true rfl)
  rw [← hargs, lg_entry_eq]
  rw [hargs]
  generalize (lg_sl ([.ref v0]) ++ List.replicate (2 - (lg_sl ([.ref v0])).length) Slot.unset).toArray = ls at hl ⊢
  have hl : lv_has ls 2 [(0, .ref v0)] := hl
  unfold jf_X7_repeatsVariable at hF
  refine lv_iconst (v := 0) hx hb dX7_repeatsVariable_0 (by decide) ?_
  refine lv_istore_n (lv' := [(1, .int 0), (0, .ref v0)]) hx hb dX7_repeatsVariable_1 rfl hl (by decide) rfl (fun ls hl => ?_)
  obtain ⟨_, hF⟩ := xlim_sp hF
  exact jw_X7_repeatsVariable_2 C0 _ _ _ t_v0 hF _ _ hR hS _ (lv_sub hl [1, 0] rfl)
theorem xm_X7_repeatsVariable : xMw yX7_repeatsVariable cX7_repeatsVariable 2 (some .boolean) 0 := ⟨xin 1196 (by decide +kernel) rfl, xin 116 (by decide +kernel) rfl, by decide +kernel⟩
theorem xi_X7_repeatsVariable : Cond.instanceMethod yX7_repeatsVariable ∈ xT := xin 1194 (by decide +kernel) rfl
theorem xe_X7_repeatsVariable : Cond.selects yX7_repeatsVariable.cls yX7_repeatsVariable yX7_repeatsVariable ∈ xT := xin 1195 (by decide +kernel) rfl
theorem dX7_levels_0 : decode cX7_levels 0 = .ok (.iconst 0, 1) := by decide +kernel
theorem dX7_levels_1 : decode cX7_levels 1 = .ok (.istore_n 1, 1) := by decide +kernel
theorem dX7_levels_2 : decode cX7_levels 2 = .ok (.iconst 0, 1) := by decide +kernel
theorem dX7_levels_3 : decode cX7_levels 3 = .ok (.istore_n 2, 1) := by decide +kernel
theorem dX7_levels_4 : decode cX7_levels 4 = .ok (.iload_n 2, 1) := by decide +kernel
theorem dX7_levels_5 : decode cX7_levels 5 = .ok (.aload_n 0, 1) := by decide +kernel
theorem dX7_levels_6 : decode cX7_levels 6 = .ok (.getfield 9, 3) := by decide +kernel
theorem dX7_levels_9 : decode cX7_levels 9 = .ok (.if_icmp .ge 45, 3) := by decide +kernel
theorem dX7_levels_12 : decode cX7_levels 12 = .ok (.iconst 1, 1) := by decide +kernel
theorem dX7_levels_13 : decode cX7_levels 13 = .ok (.istore_n 3, 1) := by decide +kernel
theorem dX7_levels_14 : decode cX7_levels 14 = .ok (.iconst 0, 1) := by decide +kernel
theorem dX7_levels_15 : decode cX7_levels 15 = .ok (.istore 4, 2) := by decide +kernel
theorem dX7_levels_17 : decode cX7_levels 17 = .ok (.iload 4, 2) := by decide +kernel
theorem dX7_levels_19 : decode cX7_levels 19 = .ok (.iload_n 2, 1) := by decide +kernel
theorem dX7_levels_20 : decode cX7_levels 20 = .ok (.if_icmp .ge 22, 3) := by decide +kernel
theorem dX7_levels_23 : decode cX7_levels 23 = .ok (.aload_n 0, 1) := by decide +kernel
theorem dX7_levels_24 : decode cX7_levels 24 = .ok (.iload 4, 2) := by decide +kernel
theorem dX7_levels_26 : decode cX7_levels 26 = .ok (.invokevirtual 49, 3) := by decide +kernel
theorem dX7_levels_29 : decode cX7_levels 29 = .ok (.iload_n 2, 1) := by decide +kernel
theorem dX7_levels_30 : decode cX7_levels 30 = .ok (.if_icmp .le 6, 3) := by decide +kernel
theorem dX7_levels_33 : decode cX7_levels 33 = .ok (.iinc 3 1, 3) := by decide +kernel
theorem dX7_levels_36 : decode cX7_levels 36 = .ok (.iinc 4 1, 3) := by decide +kernel
theorem dX7_levels_39 : decode cX7_levels 39 = .ok (.goto (-22), 3) := by decide +kernel
theorem dX7_levels_42 : decode cX7_levels 42 = .ok (.iload_n 1, 1) := by decide +kernel
theorem dX7_levels_43 : decode cX7_levels 43 = .ok (.iload_n 3, 1) := by decide +kernel
theorem dX7_levels_44 : decode cX7_levels 44 = .ok (.invokestatic 55, 3) := by decide +kernel
theorem dX7_levels_47 : decode cX7_levels 47 = .ok (.istore_n 1, 1) := by decide +kernel
theorem dX7_levels_48 : decode cX7_levels 48 = .ok (.iinc 2 1, 3) := by decide +kernel
theorem dX7_levels_51 : decode cX7_levels 51 = .ok (.goto (-47), 3) := by decide +kernel
theorem dX7_levels_54 : decode cX7_levels 54 = .ok (.iload_n 1, 1) := by decide +kernel
theorem dX7_levels_55 : decode cX7_levels 55 = .ok (.ireturn, 1) := by decide +kernel
theorem wm_X7_55 : Cond.methodLink RX7 55 Lib.Math.max.name ∈ xT := xin 996 (by decide +kernel) rfl
section XN_X7_levels
variable {p : Program} {l : Launch} {e : Env} {R : Room} {s : State} {m : MethodId} {args : Array Value} {below : List Frame} {meth : Method} {c : Code} {H H0 : Heap} {locs : List Loc} {cells slots : Nat} {Q : State → Prop} {cc : ByteArray} {nL pc : Nat} {rt : Option FieldType} {ls : Array Slot} {rest : List Value} {D : xD} {ty : xTy} {h : xH}
theorem mm_X7_55 {x y : Int32} (C0 : xC D RX7 cc nL rt p s m args meth c) (hsz : ls.size = nL) (h1 : 1 ≤ R.frames) (h2 : (rest.map fun v => v.category).sum + 13 ≤ R.locals) (hf : cells ≤ R.cells ∧ slots ≤ R.slots) (hdg : decode cc pc = .ok (.invokestatic 55, 3)) (kk : W p l e R s m args below meth c H locs cells slots Q (F0 m (pc + 3) ls (.int (xmax x y) :: rest))) : W p l e R s m args below meth c H locs cells slots Q (F0 m pc ls (.int y :: .int x :: rest)) := va_mmax C0.1 C0.2.1 (C0.2.2.1.trans hsz.symm) C0.2.2.2.2.2.1 (C0.2.2.2.2.2.2.1 _ wm_X7_55) (C0.2.2.2.2.2.2.1 _ ms_max) (C0.2.2.2.2.2.2.1 _ ms_init) (C0.2.2.2.2.2.2.1 _ mc_max) h1 h2 hf.1 hf.2 hdg kk
end XN_X7_levels
set_option maxHeartbeats 4000000 in
set_option maxRecDepth 100000 in
theorem jw_X7_levels_17 {p : Program} {l : Launch} {e : Env} {s : State} {m : MethodId} {args : Array Value} {below : List Frame} {meth : Method} {c : Code} {D : xD} {ty : xTy} {h : xH} {k4 : Nat → Int32 → Int32 → Option (Int32)} (C0 : xC D RX7 cX7_levels 5 (some .int) p s m args meth c) {r : Int32} (hk4 : ∀ (v0 : Nat) (v1 : Int32) (v2 : Int32), ty v0 = some (0, 7) → k4 v0 v1 v2 = some r → ∀ (H : Heap) (locs : List Loc), xRep D ty h H → xS ty s.heap H locs → ∀ ls : Array Slot, lv_has ls 5 [(0, .ref v0), (1, .int v1), (2, .int v2)] → W p l e jr_X7_levels s m args below meth c H locs 0 0 (MQ below (xQ D ty (some (.int r)) h) args s 0 0 (xdom ty)) (F0 m 4 ls [])) : ∀ n : Nat, ∀ (v0 : Nat) (v1 : Int32) (v2 : Int32) (v3 : Int32) (v4 : Int32), ty v0 = some (0, 7) → jf_X7_levels_17 ty h k4 n v0 v1 v2 v3 v4 = some r → ∀ (H : Heap) (locs : List Loc), xRep D ty h H → xS ty s.heap H locs → ∀ ls : Array Slot, lv_has ls 5 [(0, .ref v0), (1, .int v1), (2, .int v2), (3, .int v3), (4, .int v4)] → W p l e jr_X7_levels s m args below meth c H locs 0 0 (MQ below (xQ D ty (some (.int r)) h) args s 0 0 (xdom ty)) (F0 m 17 ls []) := by
  have hx := C0.1
  have hb := C0.2.1
  have hown := C0.2.2.2.2.2.1
  have hts := C0.2.2.2.2.2.2.1
  intro n
  induction n with
  | zero =>
    intro v0 v1 v2 v3 v4 t_v0 hF H locs hR hS ls hl
    cases hF
  | succ n ih =>
    intro v0 v1 v2 v3 v4 t_v0 hF H locs hR hS ls hl
    rw [jf_X7_levels_17_s] at hF
    refine lv_iload hx hb dX7_levels_17 (lv_at hl 4 rfl) ?_
    refine lv_iload_n hx hb dX7_levels_19 rfl (lv_at hl 2 rfl) ?_
    refine lv_icmp_ge (tgt := 42) hx hb dX7_levels_20 (by decide) (fun c1 => ?_) (fun c1 => ?_)
    · have hF := xif hF c1
      refine lv_iload_n hx hb dX7_levels_42 rfl (lv_at hl 1 rfl) ?_
      refine lv_iload_n hx hb dX7_levels_43 rfl (lv_at hl 3 rfl) ?_
      refine mm_X7_55 C0 hl.1 (Nat.le_of_ble_eq_true rfl) (Nat.le_of_ble_eq_true rfl) ⟨Nat.le_of_ble_eq_true rfl, Nat.le_of_ble_eq_true rfl⟩ dX7_levels_44 ?_
      refine lv_istore_n (lv' := [(1, .int (xmax v1 v3)), (0, .ref v0), (2, .int v2), (3, .int v3), (4, .int v4)]) hx hb dX7_levels_47 rfl hl (by decide) rfl (fun ls hl => ?_)
      refine lv_iinc (v := v2 + 1) (lv' := [(2, .int (v2 + 1)), (1, .int (xmax v1 v3)), (0, .ref v0), (3, .int v3), (4, .int v4)]) hx hb dX7_levels_48 hl (k := 2) rfl rfl (by decide) rfl (fun ls hl => ?_)
      refine lv_goto (tgt := 4) hx hb dX7_levels_51 (by decide) ?_
      exact hk4 _ _ _ t_v0 hF _ _ hR hS _ (lv_sub hl [2, 1, 0] rfl)
    · have hF := xel hF c1
      refine lv_aload_n hx hb dX7_levels_23 rfl (lv_at hl 0 rfl) ?_
      refine lv_iload hx hb dX7_levels_24 (lv_at hl 4 rfl) ?_
      obtain ⟨a2, e_a2, hF⟩ := xbd hF
      refine cl_X7_49 C0 hR hS e_a2 t_v0 ⟨(Nat.le_of_ble_eq_true rfl), (Nat.le_of_ble_eq_true rfl)⟩ hl.1 (Nat.le_of_ble_eq_true rfl) ⟨(Nat.le_of_ble_eq_true rfl), (Nat.le_of_ble_eq_true rfl)⟩ dX7_levels_26 (fun H locs hR hS => ?_)
      refine lv_iload_n hx hb dX7_levels_29 rfl (lv_at hl 2 rfl) ?_
      refine lv_icmp_le (tgt := 36) hx hb dX7_levels_30 (by decide) (fun c3 => ?_) (fun c3 => ?_)
      · have hF := xif hF c3
        refine lv_iinc (v := v4 + 1) (lv' := [(4, .int (v4 + 1)), (0, .ref v0), (1, .int v1), (2, .int v2), (3, .int v3)]) hx hb dX7_levels_36 hl (k := 4) rfl rfl (by decide) rfl (fun ls hl => ?_)
        refine lv_goto (tgt := 17) hx hb dX7_levels_39 (by decide) ?_
        exact ih _ _ _ _ _ t_v0 hF _ _ hR hS _ (lv_sub hl [1, 2, 3, 4, 0] rfl)
      · have hF := xel hF c3
        refine lv_iinc (v := v3 + 1) (lv' := [(3, .int (v3 + 1)), (0, .ref v0), (1, .int v1), (2, .int v2), (4, .int v4)]) hx hb dX7_levels_33 hl (k := 3) rfl rfl (by decide) rfl (fun ls hl => ?_)
        refine lv_iinc (v := v4 + 1) (lv' := [(4, .int (v4 + 1)), (3, .int (v3 + 1)), (0, .ref v0), (1, .int v1), (2, .int v2)]) hx hb dX7_levels_36 hl (k := 4) rfl rfl (by decide) rfl (fun ls hl => ?_)
        refine lv_goto (tgt := 17) hx hb dX7_levels_39 (by decide) ?_
        exact ih _ _ _ _ _ t_v0 hF _ _ hR hS _ (lv_sub hl [2, 3, 4, 1, 0] rfl)
set_option maxHeartbeats 4000000 in
set_option maxRecDepth 100000 in
theorem jw_X7_levels_4 {p : Program} {l : Launch} {e : Env} {s : State} {m : MethodId} {args : Array Value} {below : List Frame} {meth : Method} {c : Code} {D : xD} {ty : xTy} {h : xH} (C0 : xC D RX7 cX7_levels 5 (some .int) p s m args meth c) {r : Int32} : ∀ n : Nat, ∀ (v0 : Nat) (v1 : Int32) (v2 : Int32), ty v0 = some (0, 7) → jf_X7_levels_4 ty h n v0 v1 v2 = some r → ∀ (H : Heap) (locs : List Loc), xRep D ty h H → xS ty s.heap H locs → ∀ ls : Array Slot, lv_has ls 5 [(0, .ref v0), (1, .int v1), (2, .int v2)] → W p l e jr_X7_levels s m args below meth c H locs 0 0 (MQ below (xQ D ty (some (.int r)) h) args s 0 0 (xdom ty)) (F0 m 4 ls []) := by
  have hx := C0.1
  have hb := C0.2.1
  have hown := C0.2.2.2.2.2.1
  have hts := C0.2.2.2.2.2.2.1
  intro n
  induction n with
  | zero =>
    intro v0 v1 v2 t_v0 hF H locs hR hS ls hl
    cases hF
  | succ n ih =>
    intro v0 v1 v2 t_v0 hF H locs hR hS ls hl
    rw [jf_X7_levels_4_s] at hF
    refine lv_iload_n hx hb dX7_levels_4 rfl (lv_at hl 2 rfl) ?_
    refine lv_aload_n hx hb dX7_levels_5 rfl (lv_at hl 0 rfl) ?_
    refine gf_X7_9 C0 hR t_v0 dX7_levels_6 ?_
    refine lv_icmp_ge (tgt := 54) hx hb dX7_levels_9 (by decide) (fun c4 => ?_) (fun c4 => ?_)
    · have hF := xif hF c4
      refine lv_iload_n hx hb dX7_levels_54 rfl (lv_at hl 1 rfl) ?_
      cases hF
      exact x_iret C0 hR hS dX7_levels_55
    · have hF := xel hF c4
      refine lv_iconst (v := 1) hx hb dX7_levels_12 (by decide) ?_
      refine lv_istore_n (lv' := [(3, .int 1), (0, .ref v0), (1, .int v1), (2, .int v2)]) hx hb dX7_levels_13 rfl hl (by decide) rfl (fun ls hl => ?_)
      refine lv_iconst (v := 0) hx hb dX7_levels_14 (by decide) ?_
      refine lv_istore (lv' := [(4, .int 0), (3, .int 1), (0, .ref v0), (1, .int v1), (2, .int v2)]) hx hb dX7_levels_15 hl (by decide) rfl (fun ls hl => ?_)
      obtain ⟨_, hF⟩ := xlim_sp hF
      exact jw_X7_levels_17 C0 ih _ _ _ _ _ _ t_v0 hF _ _ hR hS _ (lv_sub hl [2, 3, 4, 1, 0] rfl)
set_option maxHeartbeats 4000000 in
set_option maxRecDepth 100000 in
theorem jc_X7_levels {l : Launch} {D : xD} {ty : xTy} {h : xH} {v0 : Nat} {r : Int32} (t_v0 : ty v0 = some (0, 7)) (hF : jf_X7_levels ty h v0 = some r) : Met l yX7_levels (xws yX7_levels cX7_levels 5 (some .int)) jr_X7_levels (xPc D ty h [.ref v0]) (xQ D ty (some (.int r)) h) 0 0 (xdom ty) := by
  refine x_met (by decide) ?_
  intro p e s m below meth c C0 hR
  generalize hargs : ([.ref v0] : List Value).toArray = args at C0 ⊢
  have hx := C0.1
  have hb := C0.2.1
  have hown := C0.2.2.2.2.2.1
  have hts := C0.2.2.2.2.2.2.1
  have hS : xS ty s.heap s.heap [] := xS.rf
  have hl := lv_entry ([.ref v0]) (n := 5) (Nat.le_of_ble_eq_true rfl)
  rw [← hargs, lg_entry_eq]
  rw [hargs]
  generalize (lg_sl ([.ref v0]) ++ List.replicate (5 - (lg_sl ([.ref v0])).length) Slot.unset).toArray = ls at hl ⊢
  have hl : lv_has ls 5 [(0, .ref v0)] := hl
  unfold jf_X7_levels at hF
  refine lv_iconst (v := 0) hx hb dX7_levels_0 (by decide) ?_
  refine lv_istore_n (lv' := [(1, .int 0), (0, .ref v0)]) hx hb dX7_levels_1 rfl hl (by decide) rfl (fun ls hl => ?_)
  refine lv_iconst (v := 0) hx hb dX7_levels_2 (by decide) ?_
  refine lv_istore_n (lv' := [(2, .int 0), (1, .int 0), (0, .ref v0)]) hx hb dX7_levels_3 rfl hl (by decide) rfl (fun ls hl => ?_)
  obtain ⟨_, hF⟩ := xlim_sp hF
  exact jw_X7_levels_4 C0 _ _ _ _ t_v0 hF _ _ hR hS _ (lv_sub hl [2, 1, 0] rfl)
theorem xm_X7_levels : xMw yX7_levels cX7_levels 5 (some .int) 0 := ⟨xin 995 (by decide +kernel) rfl, xin 116 (by decide +kernel) rfl, by decide +kernel⟩
theorem xi_X7_levels : Cond.instanceMethod yX7_levels ∈ xT := xin 993 (by decide +kernel) rfl
theorem xe_X7_levels : Cond.selects yX7_levels.cls yX7_levels yX7_levels ∈ xT := xin 994 (by decide +kernel) rfl
theorem dX7_sharedPath_0 : decode cX7_sharedPath 0 = .ok (.aload_n 0, 1) := by decide +kernel
theorem dX7_sharedPath_1 : decode cX7_sharedPath 1 = .ok (.getfield 9, 3) := by decide +kernel
theorem dX7_sharedPath_4 : decode cX7_sharedPath 4 = .ok (.aload_n 1, 1) := by decide +kernel
theorem dX7_sharedPath_5 : decode cX7_sharedPath 5 = .ok (.getfield 9, 3) := by decide +kernel
theorem dX7_sharedPath_8 : decode cX7_sharedPath 8 = .ok (.invokestatic 43, 3) := by decide +kernel
theorem dX7_sharedPath_11 : decode cX7_sharedPath 11 = .ok (.istore_n 2, 1) := by decide +kernel
theorem dX7_sharedPath_12 : decode cX7_sharedPath 12 = .ok (.iconst 0, 1) := by decide +kernel
theorem dX7_sharedPath_13 : decode cX7_sharedPath 13 = .ok (.istore_n 3, 1) := by decide +kernel
theorem dX7_sharedPath_14 : decode cX7_sharedPath 14 = .ok (.iload_n 3, 1) := by decide +kernel
theorem dX7_sharedPath_15 : decode cX7_sharedPath 15 = .ok (.iload_n 2, 1) := by decide +kernel
theorem dX7_sharedPath_16 : decode cX7_sharedPath 16 = .ok (.if_icmp .ge 24, 3) := by decide +kernel
theorem dX7_sharedPath_19 : decode cX7_sharedPath 19 = .ok (.aload_n 0, 1) := by decide +kernel
theorem dX7_sharedPath_20 : decode cX7_sharedPath 20 = .ok (.iload_n 3, 1) := by decide +kernel
theorem dX7_sharedPath_21 : decode cX7_sharedPath 21 = .ok (.invokevirtual 40, 3) := by decide +kernel
theorem dX7_sharedPath_24 : decode cX7_sharedPath 24 = .ok (.aload_n 1, 1) := by decide +kernel
theorem dX7_sharedPath_25 : decode cX7_sharedPath 25 = .ok (.iload_n 3, 1) := by decide +kernel
theorem dX7_sharedPath_26 : decode cX7_sharedPath 26 = .ok (.invokevirtual 40, 3) := by decide +kernel
theorem dX7_sharedPath_29 : decode cX7_sharedPath 29 = .ok (.if_icmp .eq 5, 3) := by decide +kernel
theorem dX7_sharedPath_32 : decode cX7_sharedPath 32 = .ok (.iload_n 3, 1) := by decide +kernel
theorem dX7_sharedPath_33 : decode cX7_sharedPath 33 = .ok (.ireturn, 1) := by decide +kernel
theorem dX7_sharedPath_34 : decode cX7_sharedPath 34 = .ok (.iinc 3 1, 3) := by decide +kernel
theorem dX7_sharedPath_37 : decode cX7_sharedPath 37 = .ok (.goto (-23), 3) := by decide +kernel
theorem dX7_sharedPath_40 : decode cX7_sharedPath 40 = .ok (.iload_n 2, 1) := by decide +kernel
theorem dX7_sharedPath_41 : decode cX7_sharedPath 41 = .ok (.ireturn, 1) := by decide +kernel
set_option maxHeartbeats 4000000 in
set_option maxRecDepth 100000 in
theorem jw_X7_sharedPath_14 {p : Program} {l : Launch} {e : Env} {s : State} {m : MethodId} {args : Array Value} {below : List Frame} {meth : Method} {c : Code} {D : xD} {ty : xTy} {h : xH} (C0 : xC D RX7 cX7_sharedPath 4 (some .int) p s m args meth c) {r : Int32} : ∀ n : Nat, ∀ (v0 : Nat) (v1 : Nat) (v2 : Int32) (v3 : Int32), ty v0 = some (0, 7) → ty v1 = some (0, 7) → jf_X7_sharedPath_14 ty h n v0 v1 v2 v3 = some r → ∀ (H : Heap) (locs : List Loc), xRep D ty h H → xS ty s.heap H locs → ∀ ls : Array Slot, lv_has ls 4 [(0, .ref v0), (1, .ref v1), (2, .int v2), (3, .int v3)] → W p l e jr_X7_sharedPath s m args below meth c H locs 0 0 (MQ below (xQ D ty (some (.int r)) h) args s 0 0 (xdom ty)) (F0 m 14 ls []) := by
  have hx := C0.1
  have hb := C0.2.1
  have hown := C0.2.2.2.2.2.1
  have hts := C0.2.2.2.2.2.2.1
  intro n
  induction n with
  | zero =>
    intro v0 v1 v2 v3 t_v0 t_v1 hF H locs hR hS ls hl
    cases hF
  | succ n ih =>
    intro v0 v1 v2 v3 t_v0 t_v1 hF H locs hR hS ls hl
    rw [jf_X7_sharedPath_14_s] at hF
    refine lv_iload_n hx hb dX7_sharedPath_14 rfl (lv_at hl 3 rfl) ?_
    refine lv_iload_n hx hb dX7_sharedPath_15 rfl (lv_at hl 2 rfl) ?_
    refine lv_icmp_ge (tgt := 40) hx hb dX7_sharedPath_16 (by decide) (fun c1 => ?_) (fun c1 => ?_)
    · have hF := xif hF c1
      refine lv_iload_n hx hb dX7_sharedPath_40 rfl (lv_at hl 2 rfl) ?_
      cases hF
      exact x_iret C0 hR hS dX7_sharedPath_41
    · have hF := xel hF c1
      refine lv_aload_n hx hb dX7_sharedPath_19 rfl (lv_at hl 0 rfl) ?_
      refine lv_iload_n hx hb dX7_sharedPath_20 rfl (lv_at hl 3 rfl) ?_
      obtain ⟨a2, e_a2, hF⟩ := xbd hF
      refine cl_X7_40 C0 hR hS e_a2 t_v0 ⟨(Nat.le_of_ble_eq_true rfl), (Nat.le_of_ble_eq_true rfl)⟩ hl.1 (Nat.le_of_ble_eq_true rfl) ⟨(Nat.le_of_ble_eq_true rfl), (Nat.le_of_ble_eq_true rfl)⟩ dX7_sharedPath_21 (fun H locs hR hS => ?_)
      refine lv_aload_n hx hb dX7_sharedPath_24 rfl (lv_at hl 1 rfl) ?_
      refine lv_iload_n hx hb dX7_sharedPath_25 rfl (lv_at hl 3 rfl) ?_
      obtain ⟨a3, e_a3, hF⟩ := xbd hF
      refine cl_X7_40 C0 hR hS e_a3 t_v1 ⟨(Nat.le_of_ble_eq_true rfl), (Nat.le_of_ble_eq_true rfl)⟩ hl.1 (Nat.le_of_ble_eq_true rfl) ⟨(Nat.le_of_ble_eq_true rfl), (Nat.le_of_ble_eq_true rfl)⟩ dX7_sharedPath_26 (fun H locs hR hS => ?_)
      refine lv_icmp_eq (tgt := 34) hx hb dX7_sharedPath_29 (by decide) (fun c4 => ?_) (fun c4 => ?_)
      · have hF := xif hF c4
        refine lv_iinc (v := v3 + 1) (lv' := [(3, .int (v3 + 1)), (0, .ref v0), (1, .ref v1), (2, .int v2)]) hx hb dX7_sharedPath_34 hl (k := 3) rfl rfl (by decide) rfl (fun ls hl => ?_)
        refine lv_goto (tgt := 14) hx hb dX7_sharedPath_37 (by decide) ?_
        exact ih _ _ _ _ t_v0 t_v1 hF _ _ hR hS _ (lv_sub hl [1, 2, 3, 0] rfl)
      · have hF := xel hF c4
        refine lv_iload_n hx hb dX7_sharedPath_32 rfl (lv_at hl 3 rfl) ?_
        cases hF
        exact x_iret C0 hR hS dX7_sharedPath_33
set_option maxHeartbeats 4000000 in
set_option maxRecDepth 100000 in
theorem jc_X7_sharedPath {l : Launch} {D : xD} {ty : xTy} {h : xH} {v0 : Nat} {v1 : Nat} {r : Int32} (t_v0 : ty v0 = some (0, 7)) (t_v1 : ty v1 = some (0, 7)) (hF : jf_X7_sharedPath ty h v0 v1 = some r) : Met l yX7_sharedPath (xws yX7_sharedPath cX7_sharedPath 4 (some .int)) jr_X7_sharedPath (xPc D ty h [.ref v0, .ref v1]) (xQ D ty (some (.int r)) h) 0 0 (xdom ty) := by
  refine x_met (by decide) ?_
  intro p e s m below meth c C0 hR
  generalize hargs : ([.ref v0, .ref v1] : List Value).toArray = args at C0 ⊢
  have hx := C0.1
  have hb := C0.2.1
  have hown := C0.2.2.2.2.2.1
  have hts := C0.2.2.2.2.2.2.1
  have hS : xS ty s.heap s.heap [] := xS.rf
  have hl := lv_entry ([.ref v0, .ref v1]) (n := 4) (Nat.le_of_ble_eq_true rfl)
  rw [← hargs, lg_entry_eq]
  rw [hargs]
  generalize (lg_sl ([.ref v0, .ref v1]) ++ List.replicate (4 - (lg_sl ([.ref v0, .ref v1])).length) Slot.unset).toArray = ls at hl ⊢
  have hl : lv_has ls 4 [(0, .ref v0), (1, .ref v1)] := hl
  unfold jf_X7_sharedPath at hF
  refine lv_aload_n hx hb dX7_sharedPath_0 rfl (lv_at hl 0 rfl) ?_
  refine gf_X7_9 C0 hR t_v0 dX7_sharedPath_1 ?_
  refine lv_aload_n hx hb dX7_sharedPath_4 rfl (lv_at hl 1 rfl) ?_
  refine gf_X7_9 C0 hR t_v1 dX7_sharedPath_5 ?_
  refine mm_X7_43 C0 hl.1 (Nat.le_of_ble_eq_true rfl) (Nat.le_of_ble_eq_true rfl) ⟨Nat.le_of_ble_eq_true rfl, Nat.le_of_ble_eq_true rfl⟩ dX7_sharedPath_8 ?_
  refine lv_istore_n (lv' := [(2, .int (xmin (xI h v0 2) (xI h v1 2))), (0, .ref v0), (1, .ref v1)]) hx hb dX7_sharedPath_11 rfl hl (by decide) rfl (fun ls hl => ?_)
  refine lv_iconst (v := 0) hx hb dX7_sharedPath_12 (by decide) ?_
  refine lv_istore_n (lv' := [(3, .int 0), (2, .int (xmin (xI h v0 2) (xI h v1 2))), (0, .ref v0), (1, .ref v1)]) hx hb dX7_sharedPath_13 rfl hl (by decide) rfl (fun ls hl => ?_)
  obtain ⟨_, hF⟩ := xlim_sp hF
  exact jw_X7_sharedPath_14 C0 _ _ _ _ _ t_v0 t_v1 hF _ _ hR hS _ (lv_sub hl [2, 3, 1, 0] rfl)
theorem xm_X7_sharedPath : xMw yX7_sharedPath cX7_sharedPath 4 (some .int) 1 := ⟨xin 701 (by decide +kernel) rfl, xin 116 (by decide +kernel) rfl, by decide +kernel⟩
theorem xi_X7_sharedPath : Cond.instanceMethod yX7_sharedPath ∈ xT := xin 699 (by decide +kernel) rfl
theorem xe_X7_sharedPath : Cond.selects yX7_sharedPath.cls yX7_sharedPath yX7_sharedPath ∈ xT := xin 700 (by decide +kernel) rfl
theorem dX7_isAheadByPath_0 : decode cX7_isAheadByPath 0 = .ok (.aload_n 0, 1) := by decide +kernel
theorem dX7_isAheadByPath_1 : decode cX7_isAheadByPath 1 = .ok (.aload_n 1, 1) := by decide +kernel
theorem dX7_isAheadByPath_2 : decode cX7_isAheadByPath 2 = .ok (.invokevirtual 58, 3) := by decide +kernel
theorem dX7_isAheadByPath_5 : decode cX7_isAheadByPath 5 = .ok (.istore_n 2, 1) := by decide +kernel
theorem dX7_isAheadByPath_6 : decode cX7_isAheadByPath 6 = .ok (.iload_n 2, 1) := by decide +kernel
theorem dX7_isAheadByPath_7 : decode cX7_isAheadByPath 7 = .ok (.aload_n 0, 1) := by decide +kernel
theorem dX7_isAheadByPath_8 : decode cX7_isAheadByPath 8 = .ok (.getfield 9, 3) := by decide +kernel
theorem dX7_isAheadByPath_11 : decode cX7_isAheadByPath 11 = .ok (.if_icmp .ge 11, 3) := by decide +kernel
theorem dX7_isAheadByPath_14 : decode cX7_isAheadByPath 14 = .ok (.iload_n 2, 1) := by decide +kernel
theorem dX7_isAheadByPath_15 : decode cX7_isAheadByPath 15 = .ok (.aload_n 1, 1) := by decide +kernel
theorem dX7_isAheadByPath_16 : decode cX7_isAheadByPath 16 = .ok (.getfield 9, 3) := by decide +kernel
theorem dX7_isAheadByPath_19 : decode cX7_isAheadByPath 19 = .ok (.if_icmp .lt 5, 3) := by decide +kernel
theorem dX7_isAheadByPath_22 : decode cX7_isAheadByPath 22 = .ok (.iconst 0, 1) := by decide +kernel
theorem dX7_isAheadByPath_23 : decode cX7_isAheadByPath 23 = .ok (.ireturn, 1) := by decide +kernel
theorem dX7_isAheadByPath_24 : decode cX7_isAheadByPath 24 = .ok (.aload_n 0, 1) := by decide +kernel
theorem dX7_isAheadByPath_25 : decode cX7_isAheadByPath 25 = .ok (.iload_n 2, 1) := by decide +kernel
theorem dX7_isAheadByPath_26 : decode cX7_isAheadByPath 26 = .ok (.invokevirtual 40, 3) := by decide +kernel
theorem dX7_isAheadByPath_29 : decode cX7_isAheadByPath 29 = .ok (.istore_n 3, 1) := by decide +kernel
theorem dX7_isAheadByPath_30 : decode cX7_isAheadByPath 30 = .ok (.aload_n 1, 1) := by decide +kernel
theorem dX7_isAheadByPath_31 : decode cX7_isAheadByPath 31 = .ok (.iload_n 2, 1) := by decide +kernel
theorem dX7_isAheadByPath_32 : decode cX7_isAheadByPath 32 = .ok (.invokevirtual 40, 3) := by decide +kernel
theorem dX7_isAheadByPath_35 : decode cX7_isAheadByPath 35 = .ok (.istore 4, 2) := by decide +kernel
theorem dX7_isAheadByPath_37 : decode cX7_isAheadByPath 37 = .ok (.iload_n 3, 1) := by decide +kernel
theorem dX7_isAheadByPath_38 : decode cX7_isAheadByPath 38 = .ok (.bipush 100, 2) := by decide +kernel
theorem dX7_isAheadByPath_40 : decode cX7_isAheadByPath 40 = .ok (.if_icmp .eq 10, 3) := by decide +kernel
theorem dX7_isAheadByPath_43 : decode cX7_isAheadByPath 43 = .ok (.iload 4, 2) := by decide +kernel
theorem dX7_isAheadByPath_45 : decode cX7_isAheadByPath 45 = .ok (.bipush 100, 2) := by decide +kernel
theorem dX7_isAheadByPath_47 : decode cX7_isAheadByPath 47 = .ok (.if_icmp .ne 15, 3) := by decide +kernel
theorem dX7_isAheadByPath_50 : decode cX7_isAheadByPath 50 = .ok (.iload_n 3, 1) := by decide +kernel
theorem dX7_isAheadByPath_51 : decode cX7_isAheadByPath 51 = .ok (.bipush 100, 2) := by decide +kernel
theorem dX7_isAheadByPath_53 : decode cX7_isAheadByPath 53 = .ok (.if_icmp .ne 7, 3) := by decide +kernel
theorem dX7_isAheadByPath_56 : decode cX7_isAheadByPath 56 = .ok (.iconst 1, 1) := by decide +kernel
theorem dX7_isAheadByPath_57 : decode cX7_isAheadByPath 57 = .ok (.goto 4, 3) := by decide +kernel
theorem dX7_isAheadByPath_60 : decode cX7_isAheadByPath 60 = .ok (.iconst 0, 1) := by decide +kernel
theorem dX7_isAheadByPath_61 : decode cX7_isAheadByPath 61 = .ok (.ireturn, 1) := by decide +kernel
theorem dX7_isAheadByPath_62 : decode cX7_isAheadByPath 62 = .ok (.iload_n 3, 1) := by decide +kernel
theorem dX7_isAheadByPath_63 : decode cX7_isAheadByPath 63 = .ok (.iload 4, 2) := by decide +kernel
theorem dX7_isAheadByPath_65 : decode cX7_isAheadByPath 65 = .ok (.if_icmp .ge 7, 3) := by decide +kernel
theorem dX7_isAheadByPath_68 : decode cX7_isAheadByPath 68 = .ok (.iconst 1, 1) := by decide +kernel
theorem dX7_isAheadByPath_69 : decode cX7_isAheadByPath 69 = .ok (.goto 4, 3) := by decide +kernel
theorem dX7_isAheadByPath_72 : decode cX7_isAheadByPath 72 = .ok (.iconst 0, 1) := by decide +kernel
theorem dX7_isAheadByPath_73 : decode cX7_isAheadByPath 73 = .ok (.ireturn, 1) := by decide +kernel
theorem wl_X7_58 : Cond.methodLink RX7 58 yX7_sharedPath ∈ xT := xin 698 (by decide +kernel) rfl
section XN_X7_isAheadByPath
variable {p : Program} {l : Launch} {e : Env} {R : Room} {s : State} {m : MethodId} {args : Array Value} {below : List Frame} {meth : Method} {c : Code} {H H0 : Heap} {locs : List Loc} {cells slots : Nat} {Q : State → Prop} {cc : ByteArray} {nL pc : Nat} {rt : Option FieldType} {ls : Array Slot} {rest : List Value} {D : xD} {ty : xTy} {h : xH}
theorem cl_X7_58 {v0 : Nat} {v1 : Nat} {r : Int32} (C0 : xC D RX7 cc nL rt p s m args meth c) (hR : xRep D ty h H) (hS : xS ty H0 H locs) (hF : jf_X7_sharedPath ty h v0 v1 = some r) (t_v0 : ty v0 = some (0, 7)) (t_v1 : ty v1 = some (0, 7)) (hrm : jr_X7_sharedPath.frames + 1 ≤ R.frames ∧ 8 + (4 + 11) + jr_X7_sharedPath.locals ≤ R.locals) (hsz : ls.size = nL) (hW : (rest.map fun v => v.category).sum ≤ 8) (hf : cells ≤ R.cells ∧ slots ≤ R.slots) (hdg : decode cc pc = .ok (.invokevirtual 58, 3)) (kk : ∀ (H1 : Heap) (locs1 : List Loc), xRep D ty h H1 → xS ty H0 H1 locs1 → W p l e R s m args below meth c H1 locs1 cells slots Q (F0 m (pc + 3) ls (.int r :: rest))) : W p l e R s m args below meth c H locs cells slots Q (F0 m pc ls (.ref v1 :: .ref v0 :: rest)) := x_callV C0 (jc_X7_sharedPath t_v0 t_v1 hF) xm_X7_sharedPath xi_X7_sharedPath xe_X7_sharedPath wl_X7_58 ⟨rfl, rfl, hrm⟩ (ci := 7) rfl t_v0 hR hS (As := [.ref v1]) rfl hsz rfl hW hdg hf kk
end XN_X7_isAheadByPath
set_option maxHeartbeats 4000000 in
set_option maxRecDepth 100000 in
theorem jc_X7_isAheadByPath {l : Launch} {D : xD} {ty : xTy} {h : xH} {v0 : Nat} {v1 : Nat} {r : Int32} (t_v0 : ty v0 = some (0, 7)) (t_v1 : ty v1 = some (0, 7)) (hF : jf_X7_isAheadByPath ty h v0 v1 = some r) : Met l yX7_isAheadByPath (xws yX7_isAheadByPath cX7_isAheadByPath 5 (some .boolean)) jr_X7_isAheadByPath (xPc D ty h [.ref v0, .ref v1]) (xQ D ty (some (.int r)) h) 0 0 (xdom ty) := by
  refine x_met (by decide) ?_
  intro p e s m below meth c C0 hR
  generalize hargs : ([.ref v0, .ref v1] : List Value).toArray = args at C0 ⊢
  have hx := C0.1
  have hb := C0.2.1
  have hown := C0.2.2.2.2.2.1
  have hts := C0.2.2.2.2.2.2.1
  have hS : xS ty s.heap s.heap [] := xS.rf
  have hl := lv_entry ([.ref v0, .ref v1]) (n := 5) (Nat.le_of_ble_eq_true rfl)
  rw [← hargs, lg_entry_eq]
  rw [hargs]
  generalize (lg_sl ([.ref v0, .ref v1]) ++ List.replicate (5 - (lg_sl ([.ref v0, .ref v1])).length) Slot.unset).toArray = ls at hl ⊢
  have hl : lv_has ls 5 [(0, .ref v0), (1, .ref v1)] := hl
  unfold jf_X7_isAheadByPath at hF
  refine lv_aload_n hx hb dX7_isAheadByPath_0 rfl (lv_at hl 0 rfl) ?_
  refine lv_aload_n hx hb dX7_isAheadByPath_1 rfl (lv_at hl 1 rfl) ?_
  obtain ⟨a1, e_a1, hF⟩ := xbd hF
  refine cl_X7_58 C0 hR hS e_a1 t_v0 t_v1 ⟨(Nat.le_of_ble_eq_true rfl), (Nat.le_of_ble_eq_true rfl)⟩ hl.1 (Nat.le_of_ble_eq_true rfl) ⟨(Nat.le_of_ble_eq_true rfl), (Nat.le_of_ble_eq_true rfl)⟩ dX7_isAheadByPath_2 (fun H locs hR hS => ?_)
  refine lv_istore_n (lv' := [(2, .int a1), (0, .ref v0), (1, .ref v1)]) hx hb dX7_isAheadByPath_5 rfl hl (by decide) rfl (fun ls hl => ?_)
  refine lv_iload_n hx hb dX7_isAheadByPath_6 rfl (lv_at hl 0 rfl) ?_
  refine lv_aload_n hx hb dX7_isAheadByPath_7 rfl (lv_at hl 1 rfl) ?_
  refine gf_X7_9 C0 hR t_v0 dX7_isAheadByPath_8 ?_
  refine lv_icmp_ge (tgt := 22) hx hb dX7_isAheadByPath_11 (by decide) (fun c2 => ?_) (fun c2 => ?_)
  · have hF := xif hF c2
    refine lv_iconst (v := 0) hx hb dX7_isAheadByPath_22 (by decide) ?_
    cases hF
    exact x_zret (w := 0) C0 hR hS (by decide) dX7_isAheadByPath_23
  · have hF := xel hF c2
    refine lv_iload_n hx hb dX7_isAheadByPath_14 rfl (lv_at hl 0 rfl) ?_
    refine lv_aload_n hx hb dX7_isAheadByPath_15 rfl (lv_at hl 2 rfl) ?_
    refine gf_X7_9 C0 hR t_v1 dX7_isAheadByPath_16 ?_
    refine lv_icmp_lt (tgt := 24) hx hb dX7_isAheadByPath_19 (by decide) (fun c3 => ?_) (fun c3 => ?_)
    · have hF := xif hF c3
      refine lv_aload_n hx hb dX7_isAheadByPath_24 rfl (lv_at hl 1 rfl) ?_
      refine lv_iload_n hx hb dX7_isAheadByPath_25 rfl (lv_at hl 0 rfl) ?_
      obtain ⟨a4, e_a4, hF⟩ := xbd hF
      refine cl_X7_40 C0 hR hS e_a4 t_v0 ⟨(Nat.le_of_ble_eq_true rfl), (Nat.le_of_ble_eq_true rfl)⟩ hl.1 (Nat.le_of_ble_eq_true rfl) ⟨(Nat.le_of_ble_eq_true rfl), (Nat.le_of_ble_eq_true rfl)⟩ dX7_isAheadByPath_26 (fun H locs hR hS => ?_)
      refine lv_istore_n (lv' := [(3, .int a4), (2, .int a1), (0, .ref v0), (1, .ref v1)]) hx hb dX7_isAheadByPath_29 rfl hl (by decide) rfl (fun ls hl => ?_)
      refine lv_aload_n hx hb dX7_isAheadByPath_30 rfl (lv_at hl 3 rfl) ?_
      refine lv_iload_n hx hb dX7_isAheadByPath_31 rfl (lv_at hl 1 rfl) ?_
      obtain ⟨a5, e_a5, hF⟩ := xbd hF
      refine cl_X7_40 C0 hR hS e_a5 t_v1 ⟨(Nat.le_of_ble_eq_true rfl), (Nat.le_of_ble_eq_true rfl)⟩ hl.1 (Nat.le_of_ble_eq_true rfl) ⟨(Nat.le_of_ble_eq_true rfl), (Nat.le_of_ble_eq_true rfl)⟩ dX7_isAheadByPath_32 (fun H locs hR hS => ?_)
      refine lv_istore (lv' := [(4, .int a5), (3, .int a4), (2, .int a1), (0, .ref v0), (1, .ref v1)]) hx hb dX7_isAheadByPath_35 hl (by decide) rfl (fun ls hl => ?_)
      refine lv_iload_n hx hb dX7_isAheadByPath_37 rfl (lv_at hl 1 rfl) ?_
      refine lv_bipush (v := 100) hx hb dX7_isAheadByPath_38 (by decide) ?_
      refine lv_icmp_eq (tgt := 50) hx hb dX7_isAheadByPath_40 (by decide) (fun c6 => ?_) (fun c6 => ?_)
      · have hF := xif hF c6
        refine lv_iload_n hx hb dX7_isAheadByPath_50 rfl (lv_at hl 1 rfl) ?_
        refine lv_bipush (v := 100) hx hb dX7_isAheadByPath_51 (by decide) ?_
        refine lv_icmp_ne (tgt := 60) hx hb dX7_isAheadByPath_53 (by decide) (fun c7 => ?_) (fun c7 => ?_)
        · have hF := xel hF c7
          refine lv_iconst (v := 0) hx hb dX7_isAheadByPath_60 (by decide) ?_
          cases hF
          exact x_zret (w := 0) C0 hR hS (by decide) dX7_isAheadByPath_61
        · have hF := xif hF c7
          refine lv_iconst (v := 1) hx hb dX7_isAheadByPath_56 (by decide) ?_
          refine lv_goto (tgt := 61) hx hb dX7_isAheadByPath_57 (by decide) ?_
          cases hF
          exact x_zret (w := 1) C0 hR hS (by decide) dX7_isAheadByPath_61
      · have hF := xel hF c6
        refine lv_iload hx hb dX7_isAheadByPath_43 (lv_at hl 0 rfl) ?_
        refine lv_bipush (v := 100) hx hb dX7_isAheadByPath_45 (by decide) ?_
        refine lv_icmp_ne (tgt := 62) hx hb dX7_isAheadByPath_47 (by decide) (fun c8 => ?_) (fun c8 => ?_)
        · have hF := xel hF c8
          refine lv_iload_n hx hb dX7_isAheadByPath_62 rfl (lv_at hl 1 rfl) ?_
          refine lv_iload hx hb dX7_isAheadByPath_63 (lv_at hl 0 rfl) ?_
          refine lv_icmp_ge (tgt := 72) hx hb dX7_isAheadByPath_65 (by decide) (fun c9 => ?_) (fun c9 => ?_)
          · have hF := xif hF c9
            refine lv_iconst (v := 0) hx hb dX7_isAheadByPath_72 (by decide) ?_
            cases hF
            exact x_zret (w := 0) C0 hR hS (by decide) dX7_isAheadByPath_73
          · have hF := xel hF c9
            refine lv_iconst (v := 1) hx hb dX7_isAheadByPath_68 (by decide) ?_
            refine lv_goto (tgt := 73) hx hb dX7_isAheadByPath_69 (by decide) ?_
            cases hF
            exact x_zret (w := 1) C0 hR hS (by decide) dX7_isAheadByPath_73
        · have hF := xif hF c8
          refine lv_iload_n hx hb dX7_isAheadByPath_50 rfl (lv_at hl 1 rfl) ?_
          refine lv_bipush (v := 100) hx hb dX7_isAheadByPath_51 (by decide) ?_
          refine lv_icmp_ne (tgt := 60) hx hb dX7_isAheadByPath_53 (by decide) (fun c10 => ?_) (fun c10 => ?_)
          · have hF := xel hF c10
            refine lv_iconst (v := 0) hx hb dX7_isAheadByPath_60 (by decide) ?_
            cases hF
            exact x_zret (w := 0) C0 hR hS (by decide) dX7_isAheadByPath_61
          · have hF := xif hF c10
            refine lv_iconst (v := 1) hx hb dX7_isAheadByPath_56 (by decide) ?_
            refine lv_goto (tgt := 61) hx hb dX7_isAheadByPath_57 (by decide) ?_
            cases hF
            exact x_zret (w := 1) C0 hR hS (by decide) dX7_isAheadByPath_61
    · have hF := xel hF c3
      refine lv_iconst (v := 0) hx hb dX7_isAheadByPath_22 (by decide) ?_
      cases hF
      exact x_zret (w := 0) C0 hR hS (by decide) dX7_isAheadByPath_23
theorem xm_X7_isAheadByPath : xMw yX7_isAheadByPath cX7_isAheadByPath 5 (some .boolean) 1 := ⟨xin 697 (by decide +kernel) rfl, xin 116 (by decide +kernel) rfl, by decide +kernel⟩
theorem xi_X7_isAheadByPath : Cond.instanceMethod yX7_isAheadByPath ∈ xT := xin 695 (by decide +kernel) rfl
theorem xe_X7_isAheadByPath : Cond.selects yX7_isAheadByPath.cls yX7_isAheadByPath yX7_isAheadByPath ∈ xT := xin 696 (by decide +kernel) rfl
theorem dX9_insert_0 : decode cX9_insert 0 = .ok (.aload_n 0, 1) := by decide +kernel
theorem dX9_insert_1 : decode cX9_insert 1 = .ok (.getfield 31, 3) := by decide +kernel
theorem dX9_insert_4 : decode cX9_insert 4 = .ok (.ifCond .lt 12, 3) := by decide +kernel
theorem dX9_insert_7 : decode cX9_insert 7 = .ok (.aload_n 0, 1) := by decide +kernel
theorem dX9_insert_8 : decode cX9_insert 8 = .ok (.getfield 31, 3) := by decide +kernel
theorem dX9_insert_11 : decode cX9_insert 11 = .ok (.bipush 16, 2) := by decide +kernel
theorem dX9_insert_13 : decode cX9_insert 13 = .ok (.if_icmp .lt 4, 3) := by decide +kernel
theorem dX9_insert_16 : decode cX9_insert 16 = .ok (.return_, 1) := by decide +kernel
theorem dX9_insert_17 : decode cX9_insert 17 = .ok (.aload_n 0, 1) := by decide +kernel
theorem dX9_insert_18 : decode cX9_insert 18 = .ok (.getfield 31, 3) := by decide +kernel
theorem dX9_insert_21 : decode cX9_insert 21 = .ok (.istore_n 3, 1) := by decide +kernel
theorem dX9_insert_22 : decode cX9_insert 22 = .ok (.iload_n 3, 1) := by decide +kernel
theorem dX9_insert_23 : decode cX9_insert 23 = .ok (.ifCond .le 52, 3) := by decide +kernel
theorem dX9_insert_26 : decode cX9_insert 26 = .ok (.aload_n 2, 1) := by decide +kernel
theorem dX9_insert_27 : decode cX9_insert 27 = .ok (.aload_n 0, 1) := by decide +kernel
theorem dX9_insert_28 : decode cX9_insert 28 = .ok (.getfield 17, 3) := by decide +kernel
theorem dX9_insert_31 : decode cX9_insert 31 = .ok (.iload_n 3, 1) := by decide +kernel
theorem dX9_insert_32 : decode cX9_insert 32 = .ok (.iconst 1, 1) := by decide +kernel
theorem dX9_insert_33 : decode cX9_insert 33 = .ok (.isub, 1) := by decide +kernel
theorem dX9_insert_34 : decode cX9_insert 34 = .ok (.aaload, 1) := by decide +kernel
theorem dX9_insert_35 : decode cX9_insert 35 = .ok (.invokevirtual 67, 3) := by decide +kernel
theorem dX9_insert_38 : decode cX9_insert 38 = .ok (.ifCond .eq 37, 3) := by decide +kernel
theorem dX9_insert_41 : decode cX9_insert 41 = .ok (.aload_n 0, 1) := by decide +kernel
theorem dX9_insert_42 : decode cX9_insert 42 = .ok (.getfield 9, 3) := by decide +kernel
theorem dX9_insert_45 : decode cX9_insert 45 = .ok (.iload_n 3, 1) := by decide +kernel
theorem dX9_insert_46 : decode cX9_insert 46 = .ok (.aload_n 0, 1) := by decide +kernel
theorem dX9_insert_47 : decode cX9_insert 47 = .ok (.getfield 9, 3) := by decide +kernel
theorem dX9_insert_50 : decode cX9_insert 50 = .ok (.iload_n 3, 1) := by decide +kernel
theorem dX9_insert_51 : decode cX9_insert 51 = .ok (.iconst 1, 1) := by decide +kernel
theorem dX9_insert_52 : decode cX9_insert 52 = .ok (.isub, 1) := by decide +kernel
theorem dX9_insert_53 : decode cX9_insert 53 = .ok (.iaload, 1) := by decide +kernel
theorem dX9_insert_54 : decode cX9_insert 54 = .ok (.iastore, 1) := by decide +kernel
theorem dX9_insert_55 : decode cX9_insert 55 = .ok (.aload_n 0, 1) := by decide +kernel
theorem dX9_insert_56 : decode cX9_insert 56 = .ok (.getfield 17, 3) := by decide +kernel
theorem dX9_insert_59 : decode cX9_insert 59 = .ok (.iload_n 3, 1) := by decide +kernel
theorem dX9_insert_60 : decode cX9_insert 60 = .ok (.aload_n 0, 1) := by decide +kernel
theorem dX9_insert_61 : decode cX9_insert 61 = .ok (.getfield 17, 3) := by decide +kernel
theorem dX9_insert_64 : decode cX9_insert 64 = .ok (.iload_n 3, 1) := by decide +kernel
theorem dX9_insert_65 : decode cX9_insert 65 = .ok (.iconst 1, 1) := by decide +kernel
theorem dX9_insert_66 : decode cX9_insert 66 = .ok (.isub, 1) := by decide +kernel
theorem dX9_insert_67 : decode cX9_insert 67 = .ok (.aaload, 1) := by decide +kernel
theorem dX9_insert_68 : decode cX9_insert 68 = .ok (.aastore, 1) := by decide +kernel
theorem dX9_insert_69 : decode cX9_insert 69 = .ok (.iinc 3 (-1), 3) := by decide +kernel
theorem dX9_insert_72 : decode cX9_insert 72 = .ok (.goto (-50), 3) := by decide +kernel
theorem dX9_insert_75 : decode cX9_insert 75 = .ok (.aload_n 0, 1) := by decide +kernel
theorem dX9_insert_76 : decode cX9_insert 76 = .ok (.getfield 9, 3) := by decide +kernel
theorem dX9_insert_79 : decode cX9_insert 79 = .ok (.iload_n 3, 1) := by decide +kernel
theorem dX9_insert_80 : decode cX9_insert 80 = .ok (.iload_n 1, 1) := by decide +kernel
theorem dX9_insert_81 : decode cX9_insert 81 = .ok (.iastore, 1) := by decide +kernel
theorem dX9_insert_82 : decode cX9_insert 82 = .ok (.aload_n 0, 1) := by decide +kernel
theorem dX9_insert_83 : decode cX9_insert 83 = .ok (.getfield 17, 3) := by decide +kernel
theorem dX9_insert_86 : decode cX9_insert 86 = .ok (.iload_n 3, 1) := by decide +kernel
theorem dX9_insert_87 : decode cX9_insert 87 = .ok (.aload_n 2, 1) := by decide +kernel
theorem dX9_insert_88 : decode cX9_insert 88 = .ok (.aastore, 1) := by decide +kernel
theorem dX9_insert_89 : decode cX9_insert 89 = .ok (.aload_n 0, 1) := by decide +kernel
theorem dX9_insert_90 : decode cX9_insert 90 = .ok (.dup, 1) := by decide +kernel
theorem dX9_insert_91 : decode cX9_insert 91 = .ok (.getfield 31, 3) := by decide +kernel
theorem dX9_insert_94 : decode cX9_insert 94 = .ok (.iconst 1, 1) := by decide +kernel
theorem dX9_insert_95 : decode cX9_insert 95 = .ok (.iadd, 1) := by decide +kernel
theorem dX9_insert_96 : decode cX9_insert 96 = .ok (.putfield 31, 3) := by decide +kernel
theorem dX9_insert_99 : decode cX9_insert 99 = .ok (.return_, 1) := by decide +kernel
theorem wl_X9_67 : Cond.methodLink RX9 67 yX7_isAheadByPath ∈ xT := xin 694 (by decide +kernel) rfl
theorem wf_X9_17 : Cond.fieldLink RX9 17 "TermShelf$Tree" "terms" "[LTermShelf$Term;" ∈ xT := xin 309 (by decide +kernel) rfl
theorem wf_X9_31 : Cond.fieldLink RX9 31 "TermShelf$Tree" "size" "I" ∈ xT := xin 312 (by decide +kernel) rfl
theorem wf_X9_9 : Cond.fieldLink RX9 9 "TermShelf$Tree" "rules" "[I" ∈ xT := xin 308 (by decide +kernel) rfl
section XN_X9_insert
variable {p : Program} {l : Launch} {e : Env} {R : Room} {s : State} {m : MethodId} {args : Array Value} {below : List Frame} {meth : Method} {c : Code} {H H0 : Heap} {locs : List Loc} {cells slots : Nat} {Q : State → Prop} {cc : ByteArray} {nL pc : Nat} {rt : Option FieldType} {ls : Array Slot} {rest : List Value} {D : xD} {ty : xTy} {h : xH}
theorem cl_X9_67 {v0 : Nat} {v1 : Nat} {r : Int32} (C0 : xC D RX9 cc nL rt p s m args meth c) (hR : xRep D ty h H) (hS : xS ty H0 H locs) (hF : jf_X7_isAheadByPath ty h v0 v1 = some r) (t_v0 : ty v0 = some (0, 7)) (t_v1 : ty v1 = some (0, 7)) (hrm : jr_X7_isAheadByPath.frames + 1 ≤ R.frames ∧ 8 + (5 + 11) + jr_X7_isAheadByPath.locals ≤ R.locals) (hsz : ls.size = nL) (hW : (rest.map fun v => v.category).sum ≤ 8) (hf : cells ≤ R.cells ∧ slots ≤ R.slots) (hdg : decode cc pc = .ok (.invokevirtual 67, 3)) (kk : ∀ (H1 : Heap) (locs1 : List Loc), xRep D ty h H1 → xS ty H0 H1 locs1 → W p l e R s m args below meth c H1 locs1 cells slots Q (F0 m (pc + 3) ls (.int r :: rest))) : W p l e R s m args below meth c H locs cells slots Q (F0 m pc ls (.ref v1 :: .ref v0 :: rest)) := x_callV C0 (jc_X7_isAheadByPath t_v0 t_v1 hF) xm_X7_isAheadByPath xi_X7_isAheadByPath xe_X7_isAheadByPath wl_X9_67 ⟨rfl, rfl, hrm⟩ (ci := 7) rfl t_v0 hR hS (As := [.ref v1]) rfl hsz rfl hW hdg hf kk
theorem gf_X9_17 {a : Nat} (C0 : xC D RX9 cc nL rt p s m args meth c) (hR : xRep D ty h H) (ht : ty a = some (0, 9)) {v : Nat} (hv : xR h a 1 = some v) (hdg : decode cc pc = .ok (.getfield 17, 3)) (kk : W p l e R s m args below meth c H locs cells slots Q (F0 m (pc + 3) ls (.ref v :: rest))) : W p l e R s m args below meth c H locs cells slots Q (F0 m pc ls (.ref a :: rest)) := x_get C0 hR (ci := 9) (k := 1) (N := 7) (T := TX9) rfl iX9 (by decide) rfl wf_X9_17 (by show va_rf (xR h a 1) = _; rw [hv]; rfl) ht hdg kk
theorem gf_X9_31 {a : Nat} (C0 : xC D RX9 cc nL rt p s m args meth c) (hR : xRep D ty h H) (ht : ty a = some (0, 9)) (hdg : decode cc pc = .ok (.getfield 31, 3)) (kk : W p l e R s m args below meth c H locs cells slots Q (F0 m (pc + 3) ls (.int (xI h a 4) :: rest))) : W p l e R s m args below meth c H locs cells slots Q (F0 m pc ls (.ref a :: rest)) := x_get C0 hR (ci := 9) (k := 4) (N := 7) (T := TX9) rfl iX9 (by decide) rfl wf_X9_31 rfl ht hdg kk
theorem gf_X9_9 {a : Nat} (C0 : xC D RX9 cc nL rt p s m args meth c) (hR : xRep D ty h H) (ht : ty a = some (0, 9)) {v : Nat} (hv : xR h a 0 = some v) (hdg : decode cc pc = .ok (.getfield 9, 3)) (kk : W p l e R s m args below meth c H locs cells slots Q (F0 m (pc + 3) ls (.ref v :: rest))) : W p l e R s m args below meth c H locs cells slots Q (F0 m pc ls (.ref a :: rest)) := x_get C0 hR (ci := 9) (k := 0) (N := 7) (T := TX9) rfl iX9 (by decide) rfl wf_X9_9 (by show va_rf (xR h a 0) = _; rw [hv]; rfl) ht hdg kk
theorem pf_X9_31 {a : Nat} {v : Int32} (C0 : xC D RX9 cc nL rt p s m args meth c) (hR : xRep D ty h H) (hS : xS ty H0 H locs) (ht : ty a = some (0, 9)) (hdg : decode cc pc = .ok (.putfield 31, 3)) (kk : ∀ (H1 : Heap) (locs1 : List Loc), xRep D ty (xsI h a 4 v) H1 → xS ty H0 H1 locs1 → W p l e R s m args below meth c H1 locs1 cells slots Q (F0 m (pc + 3) ls rest)) : W p l e R s m args below meth c H locs cells slots Q (F0 m pc ls (.int v :: .ref a :: rest)) := x_puti C0 hR hS (ci := 9) (k := 4) (N := 7) (T := TX9) rfl iX9 tyX9_ok nmX9 (by decide) rfl rfl wf_X9_31 (Or.inl rfl) rfl rfl ht hdg kk
end XN_X9_insert
set_option maxHeartbeats 4000000 in
set_option maxRecDepth 100000 in
theorem jw_X9_insert_75 {p : Program} {l : Launch} {e : Env} {s : State} {m : MethodId} {args : Array Value} {below : List Frame} {meth : Method} {c : Code} {D : xD} {ty : xTy} (C0 : xC D RX9 cX9_insert 4 none p s m args meth c) {h9 : xH} : ∀ (v0 : Nat) (v1 : Int32) (v2 : Nat) (v3 : Int32) (h : xH), ty v0 = some (0, 9) → ty v2 = some (0, 7) → jf_X9_insert_75 ty v0 v1 v2 v3 h = some h9 → ∀ (H : Heap) (locs : List Loc), xRep D ty h H → xS ty s.heap H locs → ∀ ls : Array Slot, lv_has ls 4 [(0, .ref v0), (1, .int v1), (2, .ref v2), (3, .int v3)] → W p l e jr_X9_insert s m args below meth c H locs 0 0 (MQ below (xQ D ty none h9) args s 0 0 (xdom ty)) (F0 m 75 ls []) := by
  have hx := C0.1
  have hb := C0.2.1
  have hown := C0.2.2.2.2.2.1
  have hts := C0.2.2.2.2.2.2.1
  intro v0 v1 v2 v3 h t_v0 t_v2 hF H locs hR hS ls hl
  unfold jf_X9_insert_75 at hF
  refine lv_aload_n hx hb dX9_insert_75 rfl (lv_at hl 0 rfl) ?_
  obtain ⟨a1, e_a1, hF⟩ := xbd hF
  refine gf_X9_9 C0 hR t_v0 e_a1 dX9_insert_76 ?_
  refine lv_iload_n hx hb dX9_insert_79 rfl (lv_at hl 3 rfl) ?_
  refine lv_iload_n hx hb dX9_insert_80 rfl (lv_at hl 1 rfl) ?_
  obtain ⟨h2, e_h2, hF⟩ := xbd hF
  refine x_iast C0 hR hS e_h2 dX9_insert_81 (fun H locs hR hS => ?_)
  refine lv_aload_n hx hb dX9_insert_82 rfl (lv_at hl 0 rfl) ?_
  obtain ⟨a3, e_a3, hF⟩ := xbd hF
  refine gf_X9_17 C0 hR t_v0 e_a3 dX9_insert_83 ?_
  refine lv_iload_n hx hb dX9_insert_86 rfl (lv_at hl 3 rfl) ?_
  refine lv_aload_n hx hb dX9_insert_87 rfl (lv_at hl 2 rfl) ?_
  obtain ⟨h4, e_h4, hF⟩ := xbd hF
  refine x_ast C0 hR hS t_v2 e_h4 dX9_insert_88 (fun H locs hR hS => ?_)
  refine lv_aload_n hx hb dX9_insert_89 rfl (lv_at hl 0 rfl) ?_
  refine lv_dup hx hb dX9_insert_90 rfl ?_
  refine gf_X9_31 C0 hR t_v0 dX9_insert_91 ?_
  refine lv_iconst (v := 1) hx hb dX9_insert_94 (by decide) ?_
  refine lv_iadd hx hb dX9_insert_95 ?_
  obtain ⟨h5, e_h5, hF⟩ := xbd hF
  refine pf_X9_31 C0 hR hS t_v0 dX9_insert_96 (fun H locs hR hS => ?_)
  rw [Option.some.inj e_h5] at hR
  cases hF
  exact x_vret C0 hR hS dX9_insert_99
set_option maxHeartbeats 4000000 in
set_option maxRecDepth 100000 in
theorem jw_X9_insert_22 {p : Program} {l : Launch} {e : Env} {s : State} {m : MethodId} {args : Array Value} {below : List Frame} {meth : Method} {c : Code} {D : xD} {ty : xTy} (C0 : xC D RX9 cX9_insert 4 none p s m args meth c) {h9 : xH} : ∀ n : Nat, ∀ (v0 : Nat) (v1 : Int32) (v2 : Nat) (v3 : Int32) (h : xH), ty v0 = some (0, 9) → ty v2 = some (0, 7) → jf_X9_insert_22 ty n v0 v1 v2 v3 h = some h9 → ∀ (H : Heap) (locs : List Loc), xRep D ty h H → xS ty s.heap H locs → ∀ ls : Array Slot, lv_has ls 4 [(0, .ref v0), (1, .int v1), (2, .ref v2), (3, .int v3)] → W p l e jr_X9_insert s m args below meth c H locs 0 0 (MQ below (xQ D ty none h9) args s 0 0 (xdom ty)) (F0 m 22 ls []) := by
  have hx := C0.1
  have hb := C0.2.1
  have hown := C0.2.2.2.2.2.1
  have hts := C0.2.2.2.2.2.2.1
  intro n
  induction n with
  | zero =>
    intro v0 v1 v2 v3 h t_v0 t_v2 hF H locs hR hS ls hl
    cases hF
  | succ n ih =>
    intro v0 v1 v2 v3 h t_v0 t_v2 hF H locs hR hS ls hl
    rw [jf_X9_insert_22_s] at hF
    refine lv_iload_n hx hb dX9_insert_22 rfl (lv_at hl 3 rfl) ?_
    refine lv_if_le (tgt := 75) hx hb dX9_insert_23 (by decide) (fun c6 => ?_) (fun c6 => ?_)
    · have hF := xif hF c6
      exact jw_X9_insert_75 C0 _ _ _ _ _ t_v0 t_v2 hF _ _ hR hS _ (lv_sub hl [0, 1, 2, 3] rfl)
    · have hF := xel hF c6
      refine lv_aload_n hx hb dX9_insert_26 rfl (lv_at hl 2 rfl) ?_
      refine lv_aload_n hx hb dX9_insert_27 rfl (lv_at hl 0 rfl) ?_
      obtain ⟨a7, e_a7, hF⟩ := xbd hF
      refine gf_X9_17 C0 hR t_v0 e_a7 dX9_insert_28 ?_
      refine lv_iload_n hx hb dX9_insert_31 rfl (lv_at hl 3 rfl) ?_
      refine lv_iconst (v := 1) hx hb dX9_insert_32 (by decide) ?_
      refine lv_isub hx hb dX9_insert_33 ?_
      obtain ⟨a8, e_a8, hF⟩ := xbd hF
      refine x_ald C0 hR e_a8 dX9_insert_34 (fun t_a8 => ?_)
      obtain ⟨a9, e_a9, hF⟩ := xbd hF
      refine cl_X9_67 C0 hR hS e_a9 t_v2 t_a8 ⟨(Nat.le_of_ble_eq_true rfl), (Nat.le_of_ble_eq_true rfl)⟩ hl.1 (Nat.le_of_ble_eq_true rfl) ⟨(Nat.le_of_ble_eq_true rfl), (Nat.le_of_ble_eq_true rfl)⟩ dX9_insert_35 (fun H locs hR hS => ?_)
      refine lv_if_eq (tgt := 75) hx hb dX9_insert_38 (by decide) (fun c10 => ?_) (fun c10 => ?_)
      · have hF := xif hF c10
        exact jw_X9_insert_75 C0 _ _ _ _ _ t_v0 t_v2 hF _ _ hR hS _ (lv_sub hl [0, 1, 2, 3] rfl)
      · have hF := xel hF c10
        refine lv_aload_n hx hb dX9_insert_41 rfl (lv_at hl 0 rfl) ?_
        obtain ⟨a11, e_a11, hF⟩ := xbd hF
        refine gf_X9_9 C0 hR t_v0 e_a11 dX9_insert_42 ?_
        refine lv_iload_n hx hb dX9_insert_45 rfl (lv_at hl 3 rfl) ?_
        refine lv_aload_n hx hb dX9_insert_46 rfl (lv_at hl 0 rfl) ?_
        obtain ⟨a12, e_a12, hF⟩ := xbd hF
        refine gf_X9_9 C0 hR t_v0 e_a12 dX9_insert_47 ?_
        refine lv_iload_n hx hb dX9_insert_50 rfl (lv_at hl 3 rfl) ?_
        refine lv_iconst (v := 1) hx hb dX9_insert_51 (by decide) ?_
        refine lv_isub hx hb dX9_insert_52 ?_
        obtain ⟨a13, e_a13, hF⟩ := xbd hF
        refine x_iald C0 hR e_a13 dX9_insert_53 ?_
        obtain ⟨h14, e_h14, hF⟩ := xbd hF
        refine x_iast C0 hR hS e_h14 dX9_insert_54 (fun H locs hR hS => ?_)
        refine lv_aload_n hx hb dX9_insert_55 rfl (lv_at hl 0 rfl) ?_
        obtain ⟨a15, e_a15, hF⟩ := xbd hF
        refine gf_X9_17 C0 hR t_v0 e_a15 dX9_insert_56 ?_
        refine lv_iload_n hx hb dX9_insert_59 rfl (lv_at hl 3 rfl) ?_
        refine lv_aload_n hx hb dX9_insert_60 rfl (lv_at hl 0 rfl) ?_
        obtain ⟨a16, e_a16, hF⟩ := xbd hF
        refine gf_X9_17 C0 hR t_v0 e_a16 dX9_insert_61 ?_
        refine lv_iload_n hx hb dX9_insert_64 rfl (lv_at hl 3 rfl) ?_
        refine lv_iconst (v := 1) hx hb dX9_insert_65 (by decide) ?_
        refine lv_isub hx hb dX9_insert_66 ?_
        obtain ⟨a17, e_a17, hF⟩ := xbd hF
        refine x_ald C0 hR e_a17 dX9_insert_67 (fun t_a17 => ?_)
        obtain ⟨h18, e_h18, hF⟩ := xbd hF
        refine x_ast C0 hR hS t_a17 e_h18 dX9_insert_68 (fun H locs hR hS => ?_)
        refine lv_iinc (v := v3 + (-1)) (lv' := [(3, .int (v3 + (-1))), (0, .ref v0), (1, .int v1), (2, .ref v2)]) hx hb dX9_insert_69 hl (k := 3) rfl rfl (by decide) rfl (fun ls hl => ?_)
        refine lv_goto (tgt := 22) hx hb dX9_insert_72 (by decide) ?_
        exact ih _ _ _ _ _ t_v0 t_v2 hF _ _ hR hS _ (lv_sub hl [1, 2, 3, 0] rfl)
set_option maxHeartbeats 4000000 in
set_option maxRecDepth 100000 in
theorem jc_X9_insert {l : Launch} {D : xD} {ty : xTy} {h : xH} {v0 : Nat} {v1 : Int32} {v2 : Nat} {h9 : xH} (t_v0 : ty v0 = some (0, 9)) (t_v2 : ty v2 = some (0, 7)) (hF : jf_X9_insert ty h v0 v1 v2 = some h9) : Met l yX9_insert (xws yX9_insert cX9_insert 4 none) jr_X9_insert (xPc D ty h [.ref v0, .int v1, .ref v2]) (xQ D ty none h9) 0 0 (xdom ty) := by
  refine x_met (by decide) ?_
  intro p e s m below meth c C0 hR
  generalize hargs : ([.ref v0, .int v1, .ref v2] : List Value).toArray = args at C0 ⊢
  have hx := C0.1
  have hb := C0.2.1
  have hown := C0.2.2.2.2.2.1
  have hts := C0.2.2.2.2.2.2.1
  have hS : xS ty s.heap s.heap [] := xS.rf
  have hl := lv_entry ([.ref v0, .int v1, .ref v2]) (n := 4) (Nat.le_of_ble_eq_true rfl)
  rw [← hargs, lg_entry_eq]
  rw [hargs]
  generalize (lg_sl ([.ref v0, .int v1, .ref v2]) ++ List.replicate (4 - (lg_sl ([.ref v0, .int v1, .ref v2])).length) Slot.unset).toArray = ls at hl ⊢
  have hl : lv_has ls 4 [(0, .ref v0), (1, .int v1), (2, .ref v2)] := hl
  unfold jf_X9_insert at hF
  refine lv_aload_n hx hb dX9_insert_0 rfl (lv_at hl 0 rfl) ?_
  refine gf_X9_31 C0 hR t_v0 dX9_insert_1 ?_
  refine lv_if_lt (tgt := 16) hx hb dX9_insert_4 (by decide) (fun c19 => ?_) (fun c19 => ?_)
  · have hF := xif hF c19
    cases hF
    exact x_vret C0 hR hS dX9_insert_16
  · have hF := xel hF c19
    refine lv_aload_n hx hb dX9_insert_7 rfl (lv_at hl 0 rfl) ?_
    refine gf_X9_31 C0 hR t_v0 dX9_insert_8 ?_
    refine lv_bipush (v := 16) hx hb dX9_insert_11 (by decide) ?_
    refine lv_icmp_lt (tgt := 17) hx hb dX9_insert_13 (by decide) (fun c20 => ?_) (fun c20 => ?_)
    · have hF := xif hF c20
      refine lv_aload_n hx hb dX9_insert_17 rfl (lv_at hl 0 rfl) ?_
      refine gf_X9_31 C0 hR t_v0 dX9_insert_18 ?_
      refine lv_istore_n (lv' := [(3, .int (xI h v0 4)), (0, .ref v0), (1, .int v1), (2, .ref v2)]) hx hb dX9_insert_21 rfl hl (by decide) rfl (fun ls hl => ?_)
      obtain ⟨_, hF⟩ := xlim_sp hF
      exact jw_X9_insert_22 C0 _ _ _ _ _ _ t_v0 t_v2 hF _ _ hR hS _ (lv_sub hl [1, 2, 3, 0] rfl)
    · have hF := xel hF c20
      cases hF
      exact x_vret C0 hR hS dX9_insert_16
theorem xm_X9_insert : xMw yX9_insert cX9_insert 4 none 2 := ⟨xin 693 (by decide +kernel) rfl, xin 120 (by decide +kernel) rfl, by decide +kernel⟩
theorem xi_X9_insert : Cond.instanceMethod yX9_insert ∈ xT := xin 692 (by decide +kernel) rfl
theorem xe_X9_insert : Cond.selects yX9_insert.cls yX9_insert yX9_insert ∈ xT := xin 17 (by decide +kernel) rfl
theorem dX9_termAt_0 : decode cX9_termAt 0 = .ok (.iload_n 1, 1) := by decide +kernel
theorem dX9_termAt_1 : decode cX9_termAt 1 = .ok (.ifCond .lt 20, 3) := by decide +kernel
theorem dX9_termAt_4 : decode cX9_termAt 4 = .ok (.iload_n 1, 1) := by decide +kernel
theorem dX9_termAt_5 : decode cX9_termAt 5 = .ok (.aload_n 0, 1) := by decide +kernel
theorem dX9_termAt_6 : decode cX9_termAt 6 = .ok (.getfield 31, 3) := by decide +kernel
theorem dX9_termAt_9 : decode cX9_termAt 9 = .ok (.if_icmp .ge 12, 3) := by decide +kernel
theorem dX9_termAt_12 : decode cX9_termAt 12 = .ok (.aload_n 0, 1) := by decide +kernel
theorem dX9_termAt_13 : decode cX9_termAt 13 = .ok (.getfield 17, 3) := by decide +kernel
theorem dX9_termAt_16 : decode cX9_termAt 16 = .ok (.iload_n 1, 1) := by decide +kernel
theorem dX9_termAt_17 : decode cX9_termAt 17 = .ok (.aaload, 1) := by decide +kernel
theorem dX9_termAt_18 : decode cX9_termAt 18 = .ok (.goto 7, 3) := by decide +kernel
theorem dX9_termAt_21 : decode cX9_termAt 21 = .ok (.aload_n 0, 1) := by decide +kernel
theorem dX9_termAt_22 : decode cX9_termAt 22 = .ok (.getfield 27, 3) := by decide +kernel
theorem dX9_termAt_25 : decode cX9_termAt 25 = .ok (.areturn, 1) := by decide +kernel
theorem wf_X9_27 : Cond.fieldLink RX9 27 "TermShelf$Tree" "noTerm" "LTermShelf$Term;" ∈ xT := xin 311 (by decide +kernel) rfl
section XN_X9_termAt
variable {p : Program} {l : Launch} {e : Env} {R : Room} {s : State} {m : MethodId} {args : Array Value} {below : List Frame} {meth : Method} {c : Code} {H H0 : Heap} {locs : List Loc} {cells slots : Nat} {Q : State → Prop} {cc : ByteArray} {nL pc : Nat} {rt : Option FieldType} {ls : Array Slot} {rest : List Value} {D : xD} {ty : xTy} {h : xH}
theorem gf_X9_27 {a : Nat} (C0 : xC D RX9 cc nL rt p s m args meth c) (hR : xRep D ty h H) (ht : ty a = some (0, 9)) {v : Nat} (hv : xR h a 3 = some v) (hdg : decode cc pc = .ok (.getfield 27, 3)) (kk : W p l e R s m args below meth c H locs cells slots Q (F0 m (pc + 3) ls (.ref v :: rest))) : W p l e R s m args below meth c H locs cells slots Q (F0 m pc ls (.ref a :: rest)) := x_get C0 hR (ci := 9) (k := 3) (N := 7) (T := TX9) rfl iX9 (by decide) rfl wf_X9_27 (by show va_rf (xR h a 3) = _; rw [hv]; rfl) ht hdg kk
end XN_X9_termAt
set_option maxHeartbeats 4000000 in
set_option maxRecDepth 100000 in
theorem jc_X9_termAt {l : Launch} {D : xD} {ty : xTy} {h : xH} {v0 : Nat} {v1 : Int32} {r : Nat} (t_v0 : ty v0 = some (0, 9)) (hF : jf_X9_termAt ty h v0 v1 = some r) : Met l yX9_termAt (xws yX9_termAt cX9_termAt 2 (some (.object "TermShelf$Term"))) jr_X9_termAt (xPc D ty h [.ref v0, .int v1]) (xQ D ty (some (.ref r)) h) 0 0 (xdom ty) := by
  refine x_met (by decide) ?_
  intro p e s m below meth c C0 hR
  generalize hargs : ([.ref v0, .int v1] : List Value).toArray = args at C0 ⊢
  have hx := C0.1
  have hb := C0.2.1
  have hown := C0.2.2.2.2.2.1
  have hts := C0.2.2.2.2.2.2.1
  have hS : xS ty s.heap s.heap [] := xS.rf
  have hl := lv_entry ([.ref v0, .int v1]) (n := 2) (Nat.le_of_ble_eq_true rfl)
  rw [← hargs, lg_entry_eq]
  rw [hargs]
  generalize (lg_sl ([.ref v0, .int v1]) ++ List.replicate (2 - (lg_sl ([.ref v0, .int v1])).length) Slot.unset).toArray = ls at hl ⊢
  have hl : lv_has ls 2 [(0, .ref v0), (1, .int v1)] := hl
  unfold jf_X9_termAt at hF
  refine lv_iload_n hx hb dX9_termAt_0 rfl (lv_at hl 1 rfl) ?_
  refine lv_if_lt (tgt := 21) hx hb dX9_termAt_1 (by decide) (fun c1 => ?_) (fun c1 => ?_)
  · have hF := xif hF c1
    refine lv_aload_n hx hb dX9_termAt_21 rfl (lv_at hl 0 rfl) ?_
    obtain ⟨a2, e_a2, hF⟩ := xbd hF
    obtain ⟨e_a2, t_a2⟩ := xgo_sp e_a2
    refine gf_X9_27 C0 hR t_v0 e_a2 dX9_termAt_22 ?_
    cases hF
    exact x_aret C0 hR hS dX9_termAt_25
  · have hF := xel hF c1
    refine lv_iload_n hx hb dX9_termAt_4 rfl (lv_at hl 1 rfl) ?_
    refine lv_aload_n hx hb dX9_termAt_5 rfl (lv_at hl 0 rfl) ?_
    refine gf_X9_31 C0 hR t_v0 dX9_termAt_6 ?_
    refine lv_icmp_ge (tgt := 21) hx hb dX9_termAt_9 (by decide) (fun c3 => ?_) (fun c3 => ?_)
    · have hF := xif hF c3
      refine lv_aload_n hx hb dX9_termAt_21 rfl (lv_at hl 0 rfl) ?_
      obtain ⟨a4, e_a4, hF⟩ := xbd hF
      obtain ⟨e_a4, t_a4⟩ := xgo_sp e_a4
      refine gf_X9_27 C0 hR t_v0 e_a4 dX9_termAt_22 ?_
      cases hF
      exact x_aret C0 hR hS dX9_termAt_25
    · have hF := xel hF c3
      refine lv_aload_n hx hb dX9_termAt_12 rfl (lv_at hl 0 rfl) ?_
      obtain ⟨a5, e_a5, hF⟩ := xbd hF
      refine gf_X9_17 C0 hR t_v0 e_a5 dX9_termAt_13 ?_
      refine lv_iload_n hx hb dX9_termAt_16 rfl (lv_at hl 1 rfl) ?_
      obtain ⟨a6, e_a6, hF⟩ := xbd hF
      refine x_ald C0 hR e_a6 dX9_termAt_17 (fun t_a6 => ?_)
      refine lv_goto (tgt := 25) hx hb dX9_termAt_18 (by decide) ?_
      cases hF
      exact x_aret C0 hR hS dX9_termAt_25
theorem xm_X9_termAt : xMw yX9_termAt cX9_termAt 2 (some (.object "TermShelf$Term")) 1 := ⟨xin 710 (by decide +kernel) rfl, xin 120 (by decide +kernel) rfl, by decide +kernel⟩
theorem xi_X9_termAt : Cond.instanceMethod yX9_termAt ∈ xT := xin 709 (by decide +kernel) rfl
theorem xe_X9_termAt : Cond.selects yX9_termAt.cls yX9_termAt yX9_termAt ∈ xT := xin 18 (by decide +kernel) rfl
theorem dX9_plant_0 : decode cX9_plant 0 = .ok (.aload_n 0, 1) := by decide +kernel
theorem dX9_plant_1 : decode cX9_plant 1 = .ok (.iconst 0, 1) := by decide +kernel
theorem dX9_plant_2 : decode cX9_plant 2 = .ok (.putfield 31, 3) := by decide +kernel
theorem dX9_plant_5 : decode cX9_plant 5 = .ok (.iconst 0, 1) := by decide +kernel
theorem dX9_plant_6 : decode cX9_plant 6 = .ok (.istore_n 3, 1) := by decide +kernel
theorem dX9_plant_7 : decode cX9_plant 7 = .ok (.iload_n 3, 1) := by decide +kernel
theorem dX9_plant_8 : decode cX9_plant 8 = .ok (.aload_n 1, 1) := by decide +kernel
theorem dX9_plant_9 : decode cX9_plant 9 = .ok (.getfield 41, 3) := by decide +kernel
theorem dX9_plant_12 : decode cX9_plant 12 = .ok (.if_icmp .ge 27, 3) := by decide +kernel
theorem dX9_plant_15 : decode cX9_plant 15 = .ok (.aload_n 2, 1) := by decide +kernel
theorem dX9_plant_16 : decode cX9_plant 16 = .ok (.iload_n 3, 1) := by decide +kernel
theorem dX9_plant_17 : decode cX9_plant 17 = .ok (.invokevirtual 46, 3) := by decide +kernel
theorem dX9_plant_20 : decode cX9_plant 20 = .ok (.ifCond .eq 13, 3) := by decide +kernel
theorem dX9_plant_23 : decode cX9_plant 23 = .ok (.aload_n 0, 1) := by decide +kernel
theorem dX9_plant_24 : decode cX9_plant 24 = .ok (.iload_n 3, 1) := by decide +kernel
theorem dX9_plant_25 : decode cX9_plant 25 = .ok (.aload_n 1, 1) := by decide +kernel
theorem dX9_plant_26 : decode cX9_plant 26 = .ok (.iload_n 3, 1) := by decide +kernel
theorem dX9_plant_27 : decode cX9_plant 27 = .ok (.invokevirtual 52, 3) := by decide +kernel
theorem dX9_plant_30 : decode cX9_plant 30 = .ok (.invokevirtual 56, 3) := by decide +kernel
theorem dX9_plant_33 : decode cX9_plant 33 = .ok (.iinc 3 1, 3) := by decide +kernel
theorem dX9_plant_36 : decode cX9_plant 36 = .ok (.goto (-29), 3) := by decide +kernel
theorem dX9_plant_39 : decode cX9_plant 39 = .ok (.iconst 0, 1) := by decide +kernel
theorem dX9_plant_40 : decode cX9_plant 40 = .ok (.istore_n 3, 1) := by decide +kernel
theorem dX9_plant_41 : decode cX9_plant 41 = .ok (.iload_n 3, 1) := by decide +kernel
theorem dX9_plant_42 : decode cX9_plant 42 = .ok (.aload_n 0, 1) := by decide +kernel
theorem dX9_plant_43 : decode cX9_plant 43 = .ok (.getfield 31, 3) := by decide +kernel
theorem dX9_plant_46 : decode cX9_plant 46 = .ok (.if_icmp .ge 38, 3) := by decide +kernel
theorem dX9_plant_49 : decode cX9_plant 49 = .ok (.aload_n 0, 1) := by decide +kernel
theorem dX9_plant_50 : decode cX9_plant 50 = .ok (.getfield 21, 3) := by decide +kernel
theorem dX9_plant_53 : decode cX9_plant 53 = .ok (.iload_n 3, 1) := by decide +kernel
theorem dX9_plant_54 : decode cX9_plant 54 = .ok (.iload_n 3, 1) := by decide +kernel
theorem dX9_plant_55 : decode cX9_plant 55 = .ok (.ifCond .ne 7, 3) := by decide +kernel
theorem dX9_plant_58 : decode cX9_plant 58 = .ok (.iconst 0, 1) := by decide +kernel
theorem dX9_plant_59 : decode cX9_plant 59 = .ok (.goto 18, 3) := by decide +kernel
theorem dX9_plant_62 : decode cX9_plant 62 = .ok (.aload_n 0, 1) := by decide +kernel
theorem dX9_plant_63 : decode cX9_plant 63 = .ok (.iload_n 3, 1) := by decide +kernel
theorem dX9_plant_64 : decode cX9_plant 64 = .ok (.invokevirtual 60, 3) := by decide +kernel
theorem dX9_plant_67 : decode cX9_plant 67 = .ok (.aload_n 0, 1) := by decide +kernel
theorem dX9_plant_68 : decode cX9_plant 68 = .ok (.iload_n 3, 1) := by decide +kernel
theorem dX9_plant_69 : decode cX9_plant 69 = .ok (.iconst 1, 1) := by decide +kernel
theorem dX9_plant_70 : decode cX9_plant 70 = .ok (.isub, 1) := by decide +kernel
theorem dX9_plant_71 : decode cX9_plant 71 = .ok (.invokevirtual 60, 3) := by decide +kernel
theorem dX9_plant_74 : decode cX9_plant 74 = .ok (.invokevirtual 63, 3) := by decide +kernel
theorem dX9_plant_77 : decode cX9_plant 77 = .ok (.iastore, 1) := by decide +kernel
theorem dX9_plant_78 : decode cX9_plant 78 = .ok (.iinc 3 1, 3) := by decide +kernel
theorem dX9_plant_81 : decode cX9_plant 81 = .ok (.goto (-40), 3) := by decide +kernel
theorem dX9_plant_84 : decode cX9_plant 84 = .ok (.return_, 1) := by decide +kernel
theorem wl_X9_46 : Cond.methodLink RX9 46 yX6_isIn ∈ xT := xin 682 (by decide +kernel) rfl
theorem wl_X9_52 : Cond.methodLink RX9 52 yX0_termOf ∈ xT := xin 689 (by decide +kernel) rfl
theorem wl_X9_56 : Cond.methodLink RX9 56 yX9_insert ∈ xT := xin 690 (by decide +kernel) rfl
theorem wl_X9_60 : Cond.methodLink RX9 60 yX9_termAt ∈ xT := xin 707 (by decide +kernel) rfl
theorem wl_X9_63 : Cond.methodLink RX9 63 yX7_sharedPath ∈ xT := xin 711 (by decide +kernel) rfl
theorem wf_X9_21 : Cond.fieldLink RX9 21 "TermShelf$Tree" "sharedAhead" "[I" ∈ xT := xin 310 (by decide +kernel) rfl
theorem wf_X9_41 : Cond.fieldLink RX9 41 "TermShelf$Book" "ruleCount" "I" ∈ xT := xin 191 (by decide +kernel) rfl
section XN_X9_plant
variable {p : Program} {l : Launch} {e : Env} {R : Room} {s : State} {m : MethodId} {args : Array Value} {below : List Frame} {meth : Method} {c : Code} {H H0 : Heap} {locs : List Loc} {cells slots : Nat} {Q : State → Prop} {cc : ByteArray} {nL pc : Nat} {rt : Option FieldType} {ls : Array Slot} {rest : List Value} {D : xD} {ty : xTy} {h : xH}
theorem cl_X9_46 {v0 : Nat} {v1 : Int32} {r : Int32} (C0 : xC D RX9 cc nL rt p s m args meth c) (hR : xRep D ty h H) (hS : xS ty H0 H locs) (hF : jf_X6_isIn ty h v0 v1 = some r) (t_v0 : ty v0 = some (0, 6)) (hrm : jr_X6_isIn.frames + 1 ≤ R.frames ∧ 8 + (2 + 11) + jr_X6_isIn.locals ≤ R.locals) (hsz : ls.size = nL) (hW : (rest.map fun v => v.category).sum ≤ 8) (hf : cells ≤ R.cells ∧ slots ≤ R.slots) (hdg : decode cc pc = .ok (.invokevirtual 46, 3)) (kk : ∀ (H1 : Heap) (locs1 : List Loc), xRep D ty h H1 → xS ty H0 H1 locs1 → W p l e R s m args below meth c H1 locs1 cells slots Q (F0 m (pc + 3) ls (.int r :: rest))) : W p l e R s m args below meth c H locs cells slots Q (F0 m pc ls (.int v1 :: .ref v0 :: rest)) := x_callV C0 (jc_X6_isIn t_v0 hF) xm_X6_isIn xi_X6_isIn xe_X6_isIn wl_X9_46 ⟨rfl, rfl, hrm⟩ (ci := 6) rfl t_v0 hR hS (As := [.int v1]) rfl hsz rfl hW hdg hf kk
theorem cl_X9_52 {v0 : Nat} {v1 : Int32} {r : Nat} (C0 : xC D RX9 cc nL rt p s m args meth c) (hR : xRep D ty h H) (hS : xS ty H0 H locs) (hF : jf_X0_termOf ty h v0 v1 = some r) (t_v0 : ty v0 = some (0, 0)) (hrm : jr_X0_termOf.frames + 1 ≤ R.frames ∧ 8 + (2 + 11) + jr_X0_termOf.locals ≤ R.locals) (hsz : ls.size = nL) (hW : (rest.map fun v => v.category).sum ≤ 8) (hf : cells ≤ R.cells ∧ slots ≤ R.slots) (hdg : decode cc pc = .ok (.invokevirtual 52, 3)) (kk : ∀ (H1 : Heap) (locs1 : List Loc), xRep D ty h H1 → xS ty H0 H1 locs1 → W p l e R s m args below meth c H1 locs1 cells slots Q (F0 m (pc + 3) ls (.ref r :: rest))) : W p l e R s m args below meth c H locs cells slots Q (F0 m pc ls (.int v1 :: .ref v0 :: rest)) := x_callV C0 (jc_X0_termOf t_v0 hF) xm_X0_termOf xi_X0_termOf xe_X0_termOf wl_X9_52 ⟨rfl, rfl, hrm⟩ (ci := 0) rfl t_v0 hR hS (As := [.int v1]) rfl hsz rfl hW hdg hf kk
theorem cl_X9_56 {v0 : Nat} {v1 : Int32} {v2 : Nat} {h9 : xH} (C0 : xC D RX9 cc nL rt p s m args meth c) (hR : xRep D ty h H) (hS : xS ty H0 H locs) (hF : jf_X9_insert ty h v0 v1 v2 = some h9) (t_v0 : ty v0 = some (0, 9)) (t_v2 : ty v2 = some (0, 7)) (hrm : jr_X9_insert.frames + 1 ≤ R.frames ∧ 8 + (4 + 11) + jr_X9_insert.locals ≤ R.locals) (hsz : ls.size = nL) (hW : (rest.map fun v => v.category).sum ≤ 8) (hf : cells ≤ R.cells ∧ slots ≤ R.slots) (hdg : decode cc pc = .ok (.invokevirtual 56, 3)) (kk : ∀ (H1 : Heap) (locs1 : List Loc), xRep D ty h9 H1 → xS ty H0 H1 locs1 → W p l e R s m args below meth c H1 locs1 cells slots Q (F0 m (pc + 3) ls rest)) : W p l e R s m args below meth c H locs cells slots Q (F0 m pc ls (.ref v2 :: .int v1 :: .ref v0 :: rest)) := x_callV C0 (jc_X9_insert t_v0 t_v2 hF) xm_X9_insert xi_X9_insert xe_X9_insert wl_X9_56 ⟨rfl, rfl, hrm⟩ (ci := 9) rfl t_v0 hR hS (As := [.int v1, .ref v2]) rfl hsz rfl hW hdg hf kk
theorem cl_X9_60 {v0 : Nat} {v1 : Int32} {r : Nat} (C0 : xC D RX9 cc nL rt p s m args meth c) (hR : xRep D ty h H) (hS : xS ty H0 H locs) (hF : jf_X9_termAt ty h v0 v1 = some r) (t_v0 : ty v0 = some (0, 9)) (hrm : jr_X9_termAt.frames + 1 ≤ R.frames ∧ 8 + (2 + 11) + jr_X9_termAt.locals ≤ R.locals) (hsz : ls.size = nL) (hW : (rest.map fun v => v.category).sum ≤ 8) (hf : cells ≤ R.cells ∧ slots ≤ R.slots) (hdg : decode cc pc = .ok (.invokevirtual 60, 3)) (kk : ∀ (H1 : Heap) (locs1 : List Loc), xRep D ty h H1 → xS ty H0 H1 locs1 → W p l e R s m args below meth c H1 locs1 cells slots Q (F0 m (pc + 3) ls (.ref r :: rest))) : W p l e R s m args below meth c H locs cells slots Q (F0 m pc ls (.int v1 :: .ref v0 :: rest)) := x_callV C0 (jc_X9_termAt t_v0 hF) xm_X9_termAt xi_X9_termAt xe_X9_termAt wl_X9_60 ⟨rfl, rfl, hrm⟩ (ci := 9) rfl t_v0 hR hS (As := [.int v1]) rfl hsz rfl hW hdg hf kk
theorem cl_X9_63 {v0 : Nat} {v1 : Nat} {r : Int32} (C0 : xC D RX9 cc nL rt p s m args meth c) (hR : xRep D ty h H) (hS : xS ty H0 H locs) (hF : jf_X7_sharedPath ty h v0 v1 = some r) (t_v0 : ty v0 = some (0, 7)) (t_v1 : ty v1 = some (0, 7)) (hrm : jr_X7_sharedPath.frames + 1 ≤ R.frames ∧ 8 + (4 + 11) + jr_X7_sharedPath.locals ≤ R.locals) (hsz : ls.size = nL) (hW : (rest.map fun v => v.category).sum ≤ 8) (hf : cells ≤ R.cells ∧ slots ≤ R.slots) (hdg : decode cc pc = .ok (.invokevirtual 63, 3)) (kk : ∀ (H1 : Heap) (locs1 : List Loc), xRep D ty h H1 → xS ty H0 H1 locs1 → W p l e R s m args below meth c H1 locs1 cells slots Q (F0 m (pc + 3) ls (.int r :: rest))) : W p l e R s m args below meth c H locs cells slots Q (F0 m pc ls (.ref v1 :: .ref v0 :: rest)) := x_callV C0 (jc_X7_sharedPath t_v0 t_v1 hF) xm_X7_sharedPath xi_X7_sharedPath xe_X7_sharedPath wl_X9_63 ⟨rfl, rfl, hrm⟩ (ci := 7) rfl t_v0 hR hS (As := [.ref v1]) rfl hsz rfl hW hdg hf kk
theorem gf_X9_21 {a : Nat} (C0 : xC D RX9 cc nL rt p s m args meth c) (hR : xRep D ty h H) (ht : ty a = some (0, 9)) {v : Nat} (hv : xR h a 2 = some v) (hdg : decode cc pc = .ok (.getfield 21, 3)) (kk : W p l e R s m args below meth c H locs cells slots Q (F0 m (pc + 3) ls (.ref v :: rest))) : W p l e R s m args below meth c H locs cells slots Q (F0 m pc ls (.ref a :: rest)) := x_get C0 hR (ci := 9) (k := 2) (N := 7) (T := TX9) rfl iX9 (by decide) rfl wf_X9_21 (by show va_rf (xR h a 2) = _; rw [hv]; rfl) ht hdg kk
theorem gf_X9_41 {a : Nat} (C0 : xC D RX9 cc nL rt p s m args meth c) (hR : xRep D ty h H) (ht : ty a = some (0, 0)) (hdg : decode cc pc = .ok (.getfield 41, 3)) (kk : W p l e R s m args below meth c H locs cells slots Q (F0 m (pc + 3) ls (.int (xI h a 9) :: rest))) : W p l e R s m args below meth c H locs cells slots Q (F0 m pc ls (.ref a :: rest)) := x_get C0 hR (ci := 0) (k := 9) (N := 10) (T := TX0) rfl iX0 (by decide) rfl wf_X9_41 rfl ht hdg kk
end XN_X9_plant
set_option maxHeartbeats 4000000 in
set_option maxRecDepth 100000 in
theorem jw_X9_plant_41 {p : Program} {l : Launch} {e : Env} {s : State} {m : MethodId} {args : Array Value} {below : List Frame} {meth : Method} {c : Code} {D : xD} {ty : xTy} (C0 : xC D RX9 cX9_plant 4 none p s m args meth c) {h9 : xH} : ∀ n : Nat, ∀ (v0 : Nat) (v3 : Int32) (h : xH), ty v0 = some (0, 9) → jf_X9_plant_41 ty n v0 v3 h = some h9 → ∀ (H : Heap) (locs : List Loc), xRep D ty h H → xS ty s.heap H locs → ∀ ls : Array Slot, lv_has ls 4 [(0, .ref v0), (3, .int v3)] → W p l e jr_X9_plant s m args below meth c H locs 0 0 (MQ below (xQ D ty none h9) args s 0 0 (xdom ty)) (F0 m 41 ls []) := by
  have hx := C0.1
  have hb := C0.2.1
  have hown := C0.2.2.2.2.2.1
  have hts := C0.2.2.2.2.2.2.1
  intro n
  induction n with
  | zero =>
    intro v0 v3 h t_v0 hF H locs hR hS ls hl
    cases hF
  | succ n ih =>
    intro v0 v3 h t_v0 hF H locs hR hS ls hl
    rw [jf_X9_plant_41_s] at hF
    refine lv_iload_n hx hb dX9_plant_41 rfl (lv_at hl 1 rfl) ?_
    refine lv_aload_n hx hb dX9_plant_42 rfl (lv_at hl 0 rfl) ?_
    refine gf_X9_31 C0 hR t_v0 dX9_plant_43 ?_
    refine lv_icmp_ge (tgt := 84) hx hb dX9_plant_46 (by decide) (fun c1 => ?_) (fun c1 => ?_)
    · have hF := xif hF c1
      cases hF
      exact x_vret C0 hR hS dX9_plant_84
    · have hF := xel hF c1
      refine lv_aload_n hx hb dX9_plant_49 rfl (lv_at hl 0 rfl) ?_
      obtain ⟨a2, e_a2, hF⟩ := xbd hF
      refine gf_X9_21 C0 hR t_v0 e_a2 dX9_plant_50 ?_
      refine lv_iload_n hx hb dX9_plant_53 rfl (lv_at hl 1 rfl) ?_
      refine lv_iload_n hx hb dX9_plant_54 rfl (lv_at hl 1 rfl) ?_
      refine lv_if_ne (tgt := 62) hx hb dX9_plant_55 (by decide) (fun c3 => ?_) (fun c3 => ?_)
      · have hF := xel hF c3
        refine lv_aload_n hx hb dX9_plant_62 rfl (lv_at hl 0 rfl) ?_
        refine lv_iload_n hx hb dX9_plant_63 rfl (lv_at hl 1 rfl) ?_
        obtain ⟨a4, e_a4, hF⟩ := xbd hF
        obtain ⟨u5, e_u5, hF⟩ := xbd hF
        have t_a4 := xck_sp e_u5
        refine cl_X9_60 C0 hR hS e_a4 t_v0 ⟨(Nat.le_of_ble_eq_true rfl), (Nat.le_of_ble_eq_true rfl)⟩ hl.1 (Nat.le_of_ble_eq_true rfl) ⟨(Nat.le_of_ble_eq_true rfl), (Nat.le_of_ble_eq_true rfl)⟩ dX9_plant_64 (fun H locs hR hS => ?_)
        refine lv_aload_n hx hb dX9_plant_67 rfl (lv_at hl 0 rfl) ?_
        refine lv_iload_n hx hb dX9_plant_68 rfl (lv_at hl 1 rfl) ?_
        refine lv_iconst (v := 1) hx hb dX9_plant_69 (by decide) ?_
        refine lv_isub hx hb dX9_plant_70 ?_
        obtain ⟨a6, e_a6, hF⟩ := xbd hF
        obtain ⟨u7, e_u7, hF⟩ := xbd hF
        have t_a6 := xck_sp e_u7
        refine cl_X9_60 C0 hR hS e_a6 t_v0 ⟨(Nat.le_of_ble_eq_true rfl), (Nat.le_of_ble_eq_true rfl)⟩ hl.1 (Nat.le_of_ble_eq_true rfl) ⟨(Nat.le_of_ble_eq_true rfl), (Nat.le_of_ble_eq_true rfl)⟩ dX9_plant_71 (fun H locs hR hS => ?_)
        obtain ⟨a8, e_a8, hF⟩ := xbd hF
        refine cl_X9_63 C0 hR hS e_a8 t_a4 t_a6 ⟨(Nat.le_of_ble_eq_true rfl), (Nat.le_of_ble_eq_true rfl)⟩ hl.1 (Nat.le_of_ble_eq_true rfl) ⟨(Nat.le_of_ble_eq_true rfl), (Nat.le_of_ble_eq_true rfl)⟩ dX9_plant_74 (fun H locs hR hS => ?_)
        obtain ⟨h9, e_h9, hF⟩ := xbd hF
        refine x_iast C0 hR hS e_h9 dX9_plant_77 (fun H locs hR hS => ?_)
        refine lv_iinc (v := v3 + 1) (lv' := [(3, .int (v3 + 1)), (0, .ref v0)]) hx hb dX9_plant_78 hl (k := 1) rfl rfl (by decide) rfl (fun ls hl => ?_)
        refine lv_goto (tgt := 41) hx hb dX9_plant_81 (by decide) ?_
        exact ih _ _ _ t_v0 hF _ _ hR hS _ (lv_sub hl [1, 0] rfl)
      · have hF := xif hF c3
        refine lv_iconst (v := 0) hx hb dX9_plant_58 (by decide) ?_
        refine lv_goto (tgt := 77) hx hb dX9_plant_59 (by decide) ?_
        obtain ⟨h10, e_h10, hF⟩ := xbd hF
        refine x_iast C0 hR hS e_h10 dX9_plant_77 (fun H locs hR hS => ?_)
        refine lv_iinc (v := v3 + 1) (lv' := [(3, .int (v3 + 1)), (0, .ref v0)]) hx hb dX9_plant_78 hl (k := 1) rfl rfl (by decide) rfl (fun ls hl => ?_)
        refine lv_goto (tgt := 41) hx hb dX9_plant_81 (by decide) ?_
        exact ih _ _ _ t_v0 hF _ _ hR hS _ (lv_sub hl [1, 0] rfl)
set_option maxHeartbeats 4000000 in
set_option maxRecDepth 100000 in
theorem jw_X9_plant_7 {p : Program} {l : Launch} {e : Env} {s : State} {m : MethodId} {args : Array Value} {below : List Frame} {meth : Method} {c : Code} {D : xD} {ty : xTy} (C0 : xC D RX9 cX9_plant 4 none p s m args meth c) {h9 : xH} : ∀ n : Nat, ∀ (v0 : Nat) (v1 : Nat) (v2 : Nat) (v3 : Int32) (h : xH), ty v0 = some (0, 9) → ty v1 = some (0, 0) → ty v2 = some (0, 6) → jf_X9_plant_7 ty n v0 v1 v2 v3 h = some h9 → ∀ (H : Heap) (locs : List Loc), xRep D ty h H → xS ty s.heap H locs → ∀ ls : Array Slot, lv_has ls 4 [(0, .ref v0), (1, .ref v1), (2, .ref v2), (3, .int v3)] → W p l e jr_X9_plant s m args below meth c H locs 0 0 (MQ below (xQ D ty none h9) args s 0 0 (xdom ty)) (F0 m 7 ls []) := by
  have hx := C0.1
  have hb := C0.2.1
  have hown := C0.2.2.2.2.2.1
  have hts := C0.2.2.2.2.2.2.1
  intro n
  induction n with
  | zero =>
    intro v0 v1 v2 v3 h t_v0 t_v1 t_v2 hF H locs hR hS ls hl
    cases hF
  | succ n ih =>
    intro v0 v1 v2 v3 h t_v0 t_v1 t_v2 hF H locs hR hS ls hl
    rw [jf_X9_plant_7_s] at hF
    refine lv_iload_n hx hb dX9_plant_7 rfl (lv_at hl 3 rfl) ?_
    refine lv_aload_n hx hb dX9_plant_8 rfl (lv_at hl 1 rfl) ?_
    refine gf_X9_41 C0 hR t_v1 dX9_plant_9 ?_
    refine lv_icmp_ge (tgt := 39) hx hb dX9_plant_12 (by decide) (fun c11 => ?_) (fun c11 => ?_)
    · have hF := xif hF c11
      refine lv_iconst (v := 0) hx hb dX9_plant_39 (by decide) ?_
      refine lv_istore_n (lv' := [(3, .int 0), (0, .ref v0), (1, .ref v1), (2, .ref v2)]) hx hb dX9_plant_40 rfl hl (by decide) rfl (fun ls hl => ?_)
      obtain ⟨_, hF⟩ := xlim_sp hF
      exact jw_X9_plant_41 C0 _ _ _ _ t_v0 hF _ _ hR hS _ (lv_sub hl [1, 0] rfl)
    · have hF := xel hF c11
      refine lv_aload_n hx hb dX9_plant_15 rfl (lv_at hl 2 rfl) ?_
      refine lv_iload_n hx hb dX9_plant_16 rfl (lv_at hl 3 rfl) ?_
      obtain ⟨a12, e_a12, hF⟩ := xbd hF
      refine cl_X9_46 C0 hR hS e_a12 t_v2 ⟨(Nat.le_of_ble_eq_true rfl), (Nat.le_of_ble_eq_true rfl)⟩ hl.1 (Nat.le_of_ble_eq_true rfl) ⟨(Nat.le_of_ble_eq_true rfl), (Nat.le_of_ble_eq_true rfl)⟩ dX9_plant_17 (fun H locs hR hS => ?_)
      refine lv_if_eq (tgt := 33) hx hb dX9_plant_20 (by decide) (fun c13 => ?_) (fun c13 => ?_)
      · have hF := xif hF c13
        refine lv_iinc (v := v3 + 1) (lv' := [(3, .int (v3 + 1)), (0, .ref v0), (1, .ref v1), (2, .ref v2)]) hx hb dX9_plant_33 hl (k := 3) rfl rfl (by decide) rfl (fun ls hl => ?_)
        refine lv_goto (tgt := 7) hx hb dX9_plant_36 (by decide) ?_
        exact ih _ _ _ _ _ t_v0 t_v1 t_v2 hF _ _ hR hS _ (lv_sub hl [1, 2, 3, 0] rfl)
      · have hF := xel hF c13
        refine lv_aload_n hx hb dX9_plant_23 rfl (lv_at hl 0 rfl) ?_
        refine lv_iload_n hx hb dX9_plant_24 rfl (lv_at hl 3 rfl) ?_
        refine lv_aload_n hx hb dX9_plant_25 rfl (lv_at hl 1 rfl) ?_
        refine lv_iload_n hx hb dX9_plant_26 rfl (lv_at hl 3 rfl) ?_
        obtain ⟨a14, e_a14, hF⟩ := xbd hF
        obtain ⟨u15, e_u15, hF⟩ := xbd hF
        have t_a14 := xck_sp e_u15
        refine cl_X9_52 C0 hR hS e_a14 t_v1 ⟨(Nat.le_of_ble_eq_true rfl), (Nat.le_of_ble_eq_true rfl)⟩ hl.1 (Nat.le_of_ble_eq_true rfl) ⟨(Nat.le_of_ble_eq_true rfl), (Nat.le_of_ble_eq_true rfl)⟩ dX9_plant_27 (fun H locs hR hS => ?_)
        obtain ⟨h16, e_h16, hF⟩ := xbd hF
        refine cl_X9_56 C0 hR hS e_h16 t_v0 t_a14 ⟨(Nat.le_of_ble_eq_true rfl), (Nat.le_of_ble_eq_true rfl)⟩ hl.1 (Nat.le_of_ble_eq_true rfl) ⟨(Nat.le_of_ble_eq_true rfl), (Nat.le_of_ble_eq_true rfl)⟩ dX9_plant_30 (fun H locs hR hS => ?_)
        refine lv_iinc (v := v3 + 1) (lv' := [(3, .int (v3 + 1)), (0, .ref v0), (1, .ref v1), (2, .ref v2)]) hx hb dX9_plant_33 hl (k := 3) rfl rfl (by decide) rfl (fun ls hl => ?_)
        refine lv_goto (tgt := 7) hx hb dX9_plant_36 (by decide) ?_
        exact ih _ _ _ _ _ t_v0 t_v1 t_v2 hF _ _ hR hS _ (lv_sub hl [1, 2, 3, 0] rfl)
set_option maxHeartbeats 4000000 in
set_option maxRecDepth 100000 in
theorem jc_X9_plant {l : Launch} {D : xD} {ty : xTy} {h : xH} {v0 : Nat} {v1 : Nat} {v2 : Nat} {h9 : xH} (t_v0 : ty v0 = some (0, 9)) (t_v1 : ty v1 = some (0, 0)) (t_v2 : ty v2 = some (0, 6)) (hF : jf_X9_plant ty h v0 v1 v2 = some h9) : Met l yX9_plant (xws yX9_plant cX9_plant 4 none) jr_X9_plant (xPc D ty h [.ref v0, .ref v1, .ref v2]) (xQ D ty none h9) 0 0 (xdom ty) := by
  refine x_met (by decide) ?_
  intro p e s m below meth c C0 hR
  generalize hargs : ([.ref v0, .ref v1, .ref v2] : List Value).toArray = args at C0 ⊢
  have hx := C0.1
  have hb := C0.2.1
  have hown := C0.2.2.2.2.2.1
  have hts := C0.2.2.2.2.2.2.1
  have hS : xS ty s.heap s.heap [] := xS.rf
  have hl := lv_entry ([.ref v0, .ref v1, .ref v2]) (n := 4) (Nat.le_of_ble_eq_true rfl)
  rw [← hargs, lg_entry_eq]
  rw [hargs]
  generalize (lg_sl ([.ref v0, .ref v1, .ref v2]) ++ List.replicate (4 - (lg_sl ([.ref v0, .ref v1, .ref v2])).length) Slot.unset).toArray = ls at hl ⊢
  have hl : lv_has ls 4 [(0, .ref v0), (1, .ref v1), (2, .ref v2)] := hl
  unfold jf_X9_plant at hF
  refine lv_aload_n hx hb dX9_plant_0 rfl (lv_at hl 0 rfl) ?_
  refine lv_iconst (v := 0) hx hb dX9_plant_1 (by decide) ?_
  obtain ⟨h17, e_h17, hF⟩ := xbd hF
  refine pf_X9_31 C0 hR hS t_v0 dX9_plant_2 (fun H locs hR hS => ?_)
  rw [Option.some.inj e_h17] at hR
  refine lv_iconst (v := 0) hx hb dX9_plant_5 (by decide) ?_
  refine lv_istore_n (lv' := [(3, .int 0), (0, .ref v0), (1, .ref v1), (2, .ref v2)]) hx hb dX9_plant_6 rfl hl (by decide) rfl (fun ls hl => ?_)
  obtain ⟨_, hF⟩ := xlim_sp hF
  exact jw_X9_plant_7 C0 _ _ _ _ _ _ t_v0 t_v1 t_v2 hF _ _ hR hS _ (lv_sub hl [1, 2, 3, 0] rfl)
theorem xm_X9_plant : xMw yX9_plant cX9_plant 4 none 2 := ⟨xin 681 (by decide +kernel) rfl, xin 120 (by decide +kernel) rfl, by decide +kernel⟩
theorem xi_X9_plant : Cond.instanceMethod yX9_plant ∈ xT := xin 679 (by decide +kernel) rfl
theorem xe_X9_plant : Cond.selects yX9_plant.cls yX9_plant yX9_plant ∈ xT := xin 680 (by decide +kernel) rfl

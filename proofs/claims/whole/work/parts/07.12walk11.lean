theorem dX12_code_0 : decode cX12_code 0 = .ok (.aload_n 0, 1) := by decide +kernel
theorem dX12_code_1 : decode cX12_code 1 = .ok (.iconst 0, 1) := by decide +kernel
theorem dX12_code_2 : decode cX12_code 2 = .ok (.putfield 101, 3) := by decide +kernel
theorem dX12_code_5 : decode cX12_code 5 = .ok (.aload_n 0, 1) := by decide +kernel
theorem dX12_code_6 : decode cX12_code 6 = .ok (.iload_n 1, 1) := by decide +kernel
theorem dX12_code_7 : decode cX12_code 7 = .ok (.invokevirtual 282, 3) := by decide +kernel
theorem dX12_code_10 : decode cX12_code 10 = .ok (.ifCond .eq 7, 3) := by decide +kernel
theorem dX12_code_13 : decode cX12_code 13 = .ok (.iload_n 2, 1) := by decide +kernel
theorem dX12_code_14 : decode cX12_code 14 = .ok (.ifCond .ge 5, 3) := by decide +kernel
theorem dX12_code_17 : decode cX12_code 17 = .ok (.iconst (-1), 1) := by decide +kernel
theorem dX12_code_18 : decode cX12_code 18 = .ok (.ireturn, 1) := by decide +kernel
theorem dX12_code_19 : decode cX12_code 19 = .ok (.iload_n 2, 1) := by decide +kernel
theorem dX12_code_20 : decode cX12_code 20 = .ok (.iload_n 3, 1) := by decide +kernel
theorem dX12_code_21 : decode cX12_code 21 = .ok (.ifCond .eq 12, 3) := by decide +kernel
theorem dX12_code_24 : decode cX12_code 24 = .ok (.aload_n 0, 1) := by decide +kernel
theorem dX12_code_25 : decode cX12_code 25 = .ok (.getfield 38, 3) := by decide +kernel
theorem dX12_code_28 : decode cX12_code 28 = .ok (.iload_n 1, 1) := by decide +kernel
theorem dX12_code_29 : decode cX12_code 29 = .ok (.iaload, 1) := by decide +kernel
theorem dX12_code_30 : decode cX12_code 30 = .ok (.goto 9, 3) := by decide +kernel
theorem dX12_code_33 : decode cX12_code 33 = .ok (.aload_n 0, 1) := by decide +kernel
theorem dX12_code_34 : decode cX12_code 34 = .ok (.getfield 32, 3) := by decide +kernel
theorem dX12_code_37 : decode cX12_code 37 = .ok (.iload_n 1, 1) := by decide +kernel
theorem dX12_code_38 : decode cX12_code 38 = .ok (.iaload, 1) := by decide +kernel
theorem dX12_code_39 : decode cX12_code 39 = .ok (.if_icmp .lt 6, 3) := by decide +kernel
theorem dX12_code_42 : decode cX12_code 42 = .ok (.bipush (-2), 2) := by decide +kernel
theorem dX12_code_44 : decode cX12_code 44 = .ok (.ireturn, 1) := by decide +kernel
theorem dX12_code_45 : decode cX12_code 45 = .ok (.iload_n 3, 1) := by decide +kernel
theorem dX12_code_46 : decode cX12_code 46 = .ok (.ifCond .eq 17, 3) := by decide +kernel
theorem dX12_code_49 : decode cX12_code 49 = .ok (.aload_n 0, 1) := by decide +kernel
theorem dX12_code_50 : decode cX12_code 50 = .ok (.getfield 41, 3) := by decide +kernel
theorem dX12_code_53 : decode cX12_code 53 = .ok (.bipush 12, 2) := by decide +kernel
theorem dX12_code_55 : decode cX12_code 55 = .ok (.iload_n 1, 1) := by decide +kernel
theorem dX12_code_56 : decode cX12_code 56 = .ok (.imul, 1) := by decide +kernel
theorem dX12_code_57 : decode cX12_code 57 = .ok (.iload_n 2, 1) := by decide +kernel
theorem dX12_code_58 : decode cX12_code 58 = .ok (.iadd, 1) := by decide +kernel
theorem dX12_code_59 : decode cX12_code 59 = .ok (.iaload, 1) := by decide +kernel
theorem dX12_code_60 : decode cX12_code 60 = .ok (.goto 14, 3) := by decide +kernel
theorem dX12_code_63 : decode cX12_code 63 = .ok (.aload_n 0, 1) := by decide +kernel
theorem dX12_code_64 : decode cX12_code 64 = .ok (.getfield 35, 3) := by decide +kernel
theorem dX12_code_67 : decode cX12_code 67 = .ok (.bipush 12, 2) := by decide +kernel
theorem dX12_code_69 : decode cX12_code 69 = .ok (.iload_n 1, 1) := by decide +kernel
theorem dX12_code_70 : decode cX12_code 70 = .ok (.imul, 1) := by decide +kernel
theorem dX12_code_71 : decode cX12_code 71 = .ok (.iload_n 2, 1) := by decide +kernel
theorem dX12_code_72 : decode cX12_code 72 = .ok (.iadd, 1) := by decide +kernel
theorem dX12_code_73 : decode cX12_code 73 = .ok (.iaload, 1) := by decide +kernel
theorem dX12_code_74 : decode cX12_code 74 = .ok (.ireturn, 1) := by decide +kernel
set_option maxHeartbeats 4000000 in
set_option maxRecDepth 100000 in
theorem jw_X12_code_39 {p : Program} {l : Launch} {e : Env} {s : State} {m : MethodId} {args : Array Value} {below : List Frame} {meth : Method} {c : Code} {D : xD} {ty : xTy} (C0 : xC D RX12 cX12_code 4 (some .int) p s m args meth c) {r : Int32} {h9 : xH} : ∀ (v0 : Nat) (v1 : Int32) (v2 : Int32) (v3 : Int32) (s0 : Int32) (s1 : Int32) (h : xH), ty v0 = some (0, 12) → jf_X12_code_39 ty v0 v1 v2 v3 s0 s1 h = some (r, h9) → ∀ (H : Heap) (locs : List Loc), xRep D ty h H → xS ty s.heap H locs → ∀ ls : Array Slot, lv_has ls 4 [(0, .ref v0), (1, .int v1), (2, .int v2), (3, .int v3)] → W p l e jr_X12_code s m args below meth c H locs 0 0 (MQ below (xQ D ty (some (.int r)) h9) args s 0 0 (xdom ty)) (F0 m 39 ls [.int s1, .int s0]) := by
  have hx := C0.1
  have hb := C0.2.1
  have hown := C0.2.2.2.2.2.1
  have hts := C0.2.2.2.2.2.2.1
  intro v0 v1 v2 v3 s0 s1 h t_v0 hF H locs hR hS ls hl
  unfold jf_X12_code_39 at hF
  refine lv_icmp_lt (tgt := 45) hx hb dX12_code_39 (by decide) (fun c1 => ?_) (fun c1 => ?_)
  · have hF := xif hF c1
    refine lv_iload_n hx hb dX12_code_45 rfl (lv_at hl 3 rfl) ?_
    refine lv_if_eq (tgt := 63) hx hb dX12_code_46 (by decide) (fun c2 => ?_) (fun c2 => ?_)
    · have hF := xif hF c2
      refine lv_aload_n hx hb dX12_code_63 rfl (lv_at hl 0 rfl) ?_
      obtain ⟨a3, e_a3, hF⟩ := xbd hF
      refine gf_X12_35 C0 hR t_v0 e_a3 dX12_code_64 ?_
      refine lv_bipush (v := 12) hx hb dX12_code_67 (by decide) ?_
      refine lv_iload_n hx hb dX12_code_69 rfl (lv_at hl 1 rfl) ?_
      refine lv_imul hx hb dX12_code_70 ?_
      refine lv_iload_n hx hb dX12_code_71 rfl (lv_at hl 2 rfl) ?_
      refine lv_iadd hx hb dX12_code_72 ?_
      obtain ⟨a4, e_a4, hF⟩ := xbd hF
      refine x_iald C0 hR e_a4 dX12_code_73 ?_
      cases hF
      exact x_iret C0 hR hS dX12_code_74
    · have hF := xel hF c2
      refine lv_aload_n hx hb dX12_code_49 rfl (lv_at hl 0 rfl) ?_
      obtain ⟨a5, e_a5, hF⟩ := xbd hF
      refine gf_X12_41 C0 hR t_v0 e_a5 dX12_code_50 ?_
      refine lv_bipush (v := 12) hx hb dX12_code_53 (by decide) ?_
      refine lv_iload_n hx hb dX12_code_55 rfl (lv_at hl 1 rfl) ?_
      refine lv_imul hx hb dX12_code_56 ?_
      refine lv_iload_n hx hb dX12_code_57 rfl (lv_at hl 2 rfl) ?_
      refine lv_iadd hx hb dX12_code_58 ?_
      obtain ⟨a6, e_a6, hF⟩ := xbd hF
      refine x_iald C0 hR e_a6 dX12_code_59 ?_
      refine lv_goto (tgt := 74) hx hb dX12_code_60 (by decide) ?_
      cases hF
      exact x_iret C0 hR hS dX12_code_74
  · have hF := xel hF c1
    refine lv_bipush (v := (-2)) hx hb dX12_code_42 (by decide) ?_
    cases hF
    exact x_iret C0 hR hS dX12_code_44
set_option maxHeartbeats 4000000 in
set_option maxRecDepth 100000 in
theorem jc_X12_code {l : Launch} {D : xD} {ty : xTy} {h : xH} {v0 : Nat} {v1 : Int32} {v2 : Int32} {v3 : Int32} {r : Int32} {h9 : xH} (t_v0 : ty v0 = some (0, 12)) (hF : jf_X12_code ty h v0 v1 v2 v3 = some (r, h9)) : Met l yX12_code (xws yX12_code cX12_code 4 (some .int)) jr_X12_code (xPc D ty h [.ref v0, .int v1, .int v2, .int v3]) (xQ D ty (some (.int r)) h9) 0 0 (xdom ty) := by
  refine x_met (by decide) ?_
  intro p e s m below meth c C0 hR
  generalize hargs : ([.ref v0, .int v1, .int v2, .int v3] : List Value).toArray = args at C0 ⊢
  have hx := C0.1
  have hb := C0.2.1
  have hown := C0.2.2.2.2.2.1
  have hts := C0.2.2.2.2.2.2.1
  have hS : xS ty s.heap s.heap [] := xS.rf
  have hl := lv_entry ([.ref v0, .int v1, .int v2, .int v3]) (n := 4) (Nat.le_of_ble_eq_true rfl)
  rw [← hargs, lg_entry_eq]
  rw [hargs]
  generalize (lg_sl ([.ref v0, .int v1, .int v2, .int v3]) ++ List.replicate (4 - (lg_sl ([.ref v0, .int v1, .int v2, .int v3])).length) Slot.unset).toArray = ls at hl ⊢
  have hl : lv_has ls 4 [(0, .ref v0), (1, .int v1), (2, .int v2), (3, .int v3)] := hl
  unfold jf_X12_code at hF
  refine lv_aload_n hx hb dX12_code_0 rfl (lv_at hl 0 rfl) ?_
  refine lv_iconst (v := 0) hx hb dX12_code_1 (by decide) ?_
  obtain ⟨h7, e_h7, hF⟩ := xbd hF
  refine pf_X12_101 C0 hR hS t_v0 dX12_code_2 (fun H locs hR hS => ?_)
  rw [Option.some.inj e_h7] at hR
  refine lv_aload_n hx hb dX12_code_5 rfl (lv_at hl 0 rfl) ?_
  refine lv_iload_n hx hb dX12_code_6 rfl (lv_at hl 1 rfl) ?_
  obtain ⟨a8, e_a8, hF⟩ := xbd hF
  refine cl_X12_282 C0 hR hS e_a8 t_v0 ⟨(Nat.le_of_ble_eq_true rfl), (Nat.le_of_ble_eq_true rfl)⟩ hl.1 (Nat.le_of_ble_eq_true rfl) ⟨(Nat.le_of_ble_eq_true rfl), (Nat.le_of_ble_eq_true rfl)⟩ dX12_code_7 (fun H locs hR hS => ?_)
  refine lv_if_eq (tgt := 17) hx hb dX12_code_10 (by decide) (fun c9 => ?_) (fun c9 => ?_)
  · have hF := xif hF c9
    refine lv_iconst (v := (-1)) hx hb dX12_code_17 (by decide) ?_
    cases hF
    exact x_iret C0 hR hS dX12_code_18
  · have hF := xel hF c9
    refine lv_iload_n hx hb dX12_code_13 rfl (lv_at hl 2 rfl) ?_
    refine lv_if_ge (tgt := 19) hx hb dX12_code_14 (by decide) (fun c10 => ?_) (fun c10 => ?_)
    · have hF := xif hF c10
      refine lv_iload_n hx hb dX12_code_19 rfl (lv_at hl 2 rfl) ?_
      refine lv_iload_n hx hb dX12_code_20 rfl (lv_at hl 3 rfl) ?_
      refine lv_if_eq (tgt := 33) hx hb dX12_code_21 (by decide) (fun c11 => ?_) (fun c11 => ?_)
      · have hF := xif hF c11
        refine lv_aload_n hx hb dX12_code_33 rfl (lv_at hl 0 rfl) ?_
        obtain ⟨a12, e_a12, hF⟩ := xbd hF
        refine gf_X12_32 C0 hR t_v0 e_a12 dX12_code_34 ?_
        refine lv_iload_n hx hb dX12_code_37 rfl (lv_at hl 1 rfl) ?_
        obtain ⟨a13, e_a13, hF⟩ := xbd hF
        refine x_iald C0 hR e_a13 dX12_code_38 ?_
        exact jw_X12_code_39 C0 _ _ _ _ _ _ _ t_v0 hF _ _ hR hS _ (lv_sub hl [0, 1, 2, 3] rfl)
      · have hF := xel hF c11
        refine lv_aload_n hx hb dX12_code_24 rfl (lv_at hl 0 rfl) ?_
        obtain ⟨a14, e_a14, hF⟩ := xbd hF
        refine gf_X12_38 C0 hR t_v0 e_a14 dX12_code_25 ?_
        refine lv_iload_n hx hb dX12_code_28 rfl (lv_at hl 1 rfl) ?_
        obtain ⟨a15, e_a15, hF⟩ := xbd hF
        refine x_iald C0 hR e_a15 dX12_code_29 ?_
        refine lv_goto (tgt := 39) hx hb dX12_code_30 (by decide) ?_
        exact jw_X12_code_39 C0 _ _ _ _ _ _ _ t_v0 hF _ _ hR hS _ (lv_sub hl [0, 1, 2, 3] rfl)
    · have hF := xel hF c10
      refine lv_iconst (v := (-1)) hx hb dX12_code_17 (by decide) ?_
      cases hF
      exact x_iret C0 hR hS dX12_code_18
theorem xm_X12_code : xMw yX12_code cX12_code 4 (some .int) 3 := ⟨xin 1792 (by decide +kernel) rfl, xin 126 (by decide +kernel) rfl, by decide +kernel⟩
theorem xi_X12_code : Cond.instanceMethod yX12_code ∈ xT := xin 1790 (by decide +kernel) rfl
theorem xe_X12_code : Cond.selects yX12_code.cls yX12_code yX12_code ∈ xT := xin 1791 (by decide +kernel) rfl
theorem dX12_skip_0 : decode cX12_skip 0 = .ok (.aload_n 0, 1) := by decide +kernel
theorem dX12_skip_1 : decode cX12_skip 1 = .ok (.iconst 0, 1) := by decide +kernel
theorem dX12_skip_2 : decode cX12_skip 2 = .ok (.putfield 101, 3) := by decide +kernel
theorem dX12_skip_5 : decode cX12_skip 5 = .ok (.aload_n 0, 1) := by decide +kernel
theorem dX12_skip_6 : decode cX12_skip 6 = .ok (.iload_n 1, 1) := by decide +kernel
theorem dX12_skip_7 : decode cX12_skip 7 = .ok (.invokevirtual 282, 3) := by decide +kernel
theorem dX12_skip_10 : decode cX12_skip 10 = .ok (.ifCond .eq 7, 3) := by decide +kernel
theorem dX12_skip_13 : decode cX12_skip 13 = .ok (.iload_n 2, 1) := by decide +kernel
theorem dX12_skip_14 : decode cX12_skip 14 = .ok (.ifCond .ge 5, 3) := by decide +kernel
theorem dX12_skip_17 : decode cX12_skip 17 = .ok (.iconst (-1), 1) := by decide +kernel
theorem dX12_skip_18 : decode cX12_skip 18 = .ok (.ireturn, 1) := by decide +kernel
theorem dX12_skip_19 : decode cX12_skip 19 = .ok (.iload_n 2, 1) := by decide +kernel
theorem dX12_skip_20 : decode cX12_skip 20 = .ok (.aload_n 0, 1) := by decide +kernel
theorem dX12_skip_21 : decode cX12_skip 21 = .ok (.getfield 32, 3) := by decide +kernel
theorem dX12_skip_24 : decode cX12_skip 24 = .ok (.iload_n 1, 1) := by decide +kernel
theorem dX12_skip_25 : decode cX12_skip 25 = .ok (.iaload, 1) := by decide +kernel
theorem dX12_skip_26 : decode cX12_skip 26 = .ok (.if_icmp .ge 28, 3) := by decide +kernel
theorem dX12_skip_29 : decode cX12_skip 29 = .ok (.aload_n 0, 1) := by decide +kernel
theorem dX12_skip_30 : decode cX12_skip 30 = .ok (.getfield 35, 3) := by decide +kernel
theorem dX12_skip_33 : decode cX12_skip 33 = .ok (.bipush 12, 2) := by decide +kernel
theorem dX12_skip_35 : decode cX12_skip 35 = .ok (.iload_n 1, 1) := by decide +kernel
theorem dX12_skip_36 : decode cX12_skip 36 = .ok (.imul, 1) := by decide +kernel
theorem dX12_skip_37 : decode cX12_skip 37 = .ok (.iload_n 2, 1) := by decide +kernel
theorem dX12_skip_38 : decode cX12_skip 38 = .ok (.iadd, 1) := by decide +kernel
theorem dX12_skip_39 : decode cX12_skip 39 = .ok (.aload_n 0, 1) := by decide +kernel
theorem dX12_skip_40 : decode cX12_skip 40 = .ok (.getfield 23, 3) := by decide +kernel
theorem dX12_skip_43 : decode cX12_skip 43 = .ok (.invokestatic 231, 3) := by decide +kernel
theorem dX12_skip_46 : decode cX12_skip 46 = .ok (.bipush 12, 2) := by decide +kernel
theorem dX12_skip_48 : decode cX12_skip 48 = .ok (.iload_n 1, 1) := by decide +kernel
theorem dX12_skip_49 : decode cX12_skip 49 = .ok (.imul, 1) := by decide +kernel
theorem dX12_skip_50 : decode cX12_skip 50 = .ok (.isub, 1) := by decide +kernel
theorem dX12_skip_51 : decode cX12_skip 51 = .ok (.goto 5, 3) := by decide +kernel
theorem dX12_skip_54 : decode cX12_skip 54 = .ok (.bipush (-2), 2) := by decide +kernel
theorem dX12_skip_56 : decode cX12_skip 56 = .ok (.ireturn, 1) := by decide +kernel
set_option maxHeartbeats 4000000 in
set_option maxRecDepth 100000 in
theorem jc_X12_skip {l : Launch} {D : xD} {ty : xTy} {h : xH} {v0 : Nat} {v1 : Int32} {v2 : Int32} {r : Int32} {h9 : xH} (t_v0 : ty v0 = some (0, 12)) (hF : jf_X12_skip ty h v0 v1 v2 = some (r, h9)) : Met l yX12_skip (xws yX12_skip cX12_skip 3 (some .int)) jr_X12_skip (xPc D ty h [.ref v0, .int v1, .int v2]) (xQ D ty (some (.int r)) h9) 0 0 (xdom ty) := by
  refine x_met (by decide) ?_
  intro p e s m below meth c C0 hR
  generalize hargs : ([.ref v0, .int v1, .int v2] : List Value).toArray = args at C0 ⊢
  have hx := C0.1
  have hb := C0.2.1
  have hown := C0.2.2.2.2.2.1
  have hts := C0.2.2.2.2.2.2.1
  have hS : xS ty s.heap s.heap [] := xS.rf
  have hl := lv_entry ([.ref v0, .int v1, .int v2]) (n := 3) (Nat.le_of_ble_eq_true rfl)
  rw [← hargs, lg_entry_eq]
  rw [hargs]
  generalize (lg_sl ([.ref v0, .int v1, .int v2]) ++ List.replicate (3 - (lg_sl ([.ref v0, .int v1, .int v2])).length) Slot.unset).toArray = ls at hl ⊢
  have hl : lv_has ls 3 [(0, .ref v0), (1, .int v1), (2, .int v2)] := hl
  unfold jf_X12_skip at hF
  refine lv_aload_n hx hb dX12_skip_0 rfl (lv_at hl 0 rfl) ?_
  refine lv_iconst (v := 0) hx hb dX12_skip_1 (by decide) ?_
  obtain ⟨h1, e_h1, hF⟩ := xbd hF
  refine pf_X12_101 C0 hR hS t_v0 dX12_skip_2 (fun H locs hR hS => ?_)
  rw [Option.some.inj e_h1] at hR
  refine lv_aload_n hx hb dX12_skip_5 rfl (lv_at hl 0 rfl) ?_
  refine lv_iload_n hx hb dX12_skip_6 rfl (lv_at hl 1 rfl) ?_
  obtain ⟨a2, e_a2, hF⟩ := xbd hF
  refine cl_X12_282 C0 hR hS e_a2 t_v0 ⟨(Nat.le_of_ble_eq_true rfl), (Nat.le_of_ble_eq_true rfl)⟩ hl.1 (Nat.le_of_ble_eq_true rfl) ⟨(Nat.le_of_ble_eq_true rfl), (Nat.le_of_ble_eq_true rfl)⟩ dX12_skip_7 (fun H locs hR hS => ?_)
  refine lv_if_eq (tgt := 17) hx hb dX12_skip_10 (by decide) (fun c3 => ?_) (fun c3 => ?_)
  · have hF := xif hF c3
    refine lv_iconst (v := (-1)) hx hb dX12_skip_17 (by decide) ?_
    cases hF
    exact x_iret C0 hR hS dX12_skip_18
  · have hF := xel hF c3
    refine lv_iload_n hx hb dX12_skip_13 rfl (lv_at hl 2 rfl) ?_
    refine lv_if_ge (tgt := 19) hx hb dX12_skip_14 (by decide) (fun c4 => ?_) (fun c4 => ?_)
    · have hF := xif hF c4
      refine lv_iload_n hx hb dX12_skip_19 rfl (lv_at hl 2 rfl) ?_
      refine lv_aload_n hx hb dX12_skip_20 rfl (lv_at hl 0 rfl) ?_
      obtain ⟨a5, e_a5, hF⟩ := xbd hF
      refine gf_X12_32 C0 hR t_v0 e_a5 dX12_skip_21 ?_
      refine lv_iload_n hx hb dX12_skip_24 rfl (lv_at hl 1 rfl) ?_
      obtain ⟨a6, e_a6, hF⟩ := xbd hF
      refine x_iald C0 hR e_a6 dX12_skip_25 ?_
      refine lv_icmp_ge (tgt := 54) hx hb dX12_skip_26 (by decide) (fun c7 => ?_) (fun c7 => ?_)
      · have hF := xif hF c7
        refine lv_bipush (v := (-2)) hx hb dX12_skip_54 (by decide) ?_
        cases hF
        exact x_iret C0 hR hS dX12_skip_56
      · have hF := xel hF c7
        refine lv_aload_n hx hb dX12_skip_29 rfl (lv_at hl 0 rfl) ?_
        obtain ⟨a8, e_a8, hF⟩ := xbd hF
        refine gf_X12_35 C0 hR t_v0 e_a8 dX12_skip_30 ?_
        refine lv_bipush (v := 12) hx hb dX12_skip_33 (by decide) ?_
        refine lv_iload_n hx hb dX12_skip_35 rfl (lv_at hl 1 rfl) ?_
        refine lv_imul hx hb dX12_skip_36 ?_
        refine lv_iload_n hx hb dX12_skip_37 rfl (lv_at hl 2 rfl) ?_
        refine lv_iadd hx hb dX12_skip_38 ?_
        refine lv_aload_n hx hb dX12_skip_39 rfl (lv_at hl 0 rfl) ?_
        obtain ⟨a9, e_a9, hF⟩ := xbd hF
        refine gf_X12_23 C0 hR t_v0 e_a9 dX12_skip_40 ?_
        obtain ⟨a10, e_a10, hF⟩ := xbd hF
        refine cl_X12_231 C0 hR hS e_a10  ⟨(Nat.le_of_ble_eq_true rfl), (Nat.le_of_ble_eq_true rfl)⟩ hl.1 (Nat.le_of_ble_eq_true rfl) ⟨(Nat.le_of_ble_eq_true rfl), (Nat.le_of_ble_eq_true rfl)⟩ dX12_skip_43 (fun H locs hR hS => ?_)
        refine lv_bipush (v := 12) hx hb dX12_skip_46 (by decide) ?_
        refine lv_iload_n hx hb dX12_skip_48 rfl (lv_at hl 1 rfl) ?_
        refine lv_imul hx hb dX12_skip_49 ?_
        refine lv_isub hx hb dX12_skip_50 ?_
        refine lv_goto (tgt := 56) hx hb dX12_skip_51 (by decide) ?_
        cases hF
        exact x_iret C0 hR hS dX12_skip_56
    · have hF := xel hF c4
      refine lv_iconst (v := (-1)) hx hb dX12_skip_17 (by decide) ?_
      cases hF
      exact x_iret C0 hR hS dX12_skip_18
theorem xm_X12_skip : xMw yX12_skip cX12_skip 3 (some .int) 2 := ⟨xin 1796 (by decide +kernel) rfl, xin 126 (by decide +kernel) rfl, by decide +kernel⟩
theorem xi_X12_skip : Cond.instanceMethod yX12_skip ∈ xT := xin 1794 (by decide +kernel) rfl
theorem xe_X12_skip : Cond.selects yX12_skip.cls yX12_skip yX12_skip ∈ xT := xin 1795 (by decide +kernel) rfl
theorem dX12_asked_0 : decode cX12_asked 0 = .ok (.aload_n 0, 1) := by decide +kernel
theorem dX12_asked_1 : decode cX12_asked 1 = .ok (.iconst 0, 1) := by decide +kernel
theorem dX12_asked_2 : decode cX12_asked 2 = .ok (.putfield 101, 3) := by decide +kernel
theorem dX12_asked_5 : decode cX12_asked 5 = .ok (.iload_n 1, 1) := by decide +kernel
theorem dX12_asked_6 : decode cX12_asked 6 = .ok (.ifCond .ge 5, 3) := by decide +kernel
theorem dX12_asked_9 : decode cX12_asked 9 = .ok (.iconst (-1), 1) := by decide +kernel
theorem dX12_asked_10 : decode cX12_asked 10 = .ok (.ireturn, 1) := by decide +kernel
theorem dX12_asked_11 : decode cX12_asked 11 = .ok (.iload_n 1, 1) := by decide +kernel
theorem dX12_asked_12 : decode cX12_asked 12 = .ok (.aload_n 0, 1) := by decide +kernel
theorem dX12_asked_13 : decode cX12_asked 13 = .ok (.getfield 188, 3) := by decide +kernel
theorem dX12_asked_16 : decode cX12_asked 16 = .ok (.if_icmp .ge 12, 3) := by decide +kernel
theorem dX12_asked_19 : decode cX12_asked 19 = .ok (.aload_n 0, 1) := by decide +kernel
theorem dX12_asked_20 : decode cX12_asked 20 = .ok (.getfield 44, 3) := by decide +kernel
theorem dX12_asked_23 : decode cX12_asked 23 = .ok (.iload_n 1, 1) := by decide +kernel
theorem dX12_asked_24 : decode cX12_asked 24 = .ok (.iaload, 1) := by decide +kernel
theorem dX12_asked_25 : decode cX12_asked 25 = .ok (.goto 5, 3) := by decide +kernel
theorem dX12_asked_28 : decode cX12_asked 28 = .ok (.bipush (-2), 2) := by decide +kernel
theorem dX12_asked_30 : decode cX12_asked 30 = .ok (.ireturn, 1) := by decide +kernel
set_option maxHeartbeats 4000000 in
set_option maxRecDepth 100000 in
theorem jc_X12_asked {l : Launch} {D : xD} {ty : xTy} {h : xH} {v0 : Nat} {v1 : Int32} {r : Int32} {h9 : xH} (t_v0 : ty v0 = some (0, 12)) (hF : jf_X12_asked ty h v0 v1 = some (r, h9)) : Met l yX12_asked (xws yX12_asked cX12_asked 2 (some .int)) jr_X12_asked (xPc D ty h [.ref v0, .int v1]) (xQ D ty (some (.int r)) h9) 0 0 (xdom ty) := by
  refine x_met (by decide) ?_
  intro p e s m below meth c C0 hR
  generalize hargs : ([.ref v0, .int v1] : List Value).toArray = args at C0 ⊢
  have hx := C0.1
  have hb := C0.2.1
  have hown := C0.2.2.2.2.2.1
  have hts := C0.2.2.2.2.2.2.1
  have hS : xS ty s.heap s.heap [] := xS.rf
  have hl := lv_entry ([.ref v0, .int v1]) (n := 2) (Nat.le_of_ble_eq_true rfl)
  rw [← hargs, lg_entry_eq]
  rw [hargs]
  generalize (lg_sl ([.ref v0, .int v1]) ++ List.replicate (2 - (lg_sl ([.ref v0, .int v1])).length) Slot.unset).toArray = ls at hl ⊢
  have hl : lv_has ls 2 [(0, .ref v0), (1, .int v1)] := hl
  unfold jf_X12_asked at hF
  refine lv_aload_n hx hb dX12_asked_0 rfl (lv_at hl 0 rfl) ?_
  refine lv_iconst (v := 0) hx hb dX12_asked_1 (by decide) ?_
  obtain ⟨h1, e_h1, hF⟩ := xbd hF
  refine pf_X12_101 C0 hR hS t_v0 dX12_asked_2 (fun H locs hR hS => ?_)
  rw [Option.some.inj e_h1] at hR
  refine lv_iload_n hx hb dX12_asked_5 rfl (lv_at hl 1 rfl) ?_
  refine lv_if_ge (tgt := 11) hx hb dX12_asked_6 (by decide) (fun c2 => ?_) (fun c2 => ?_)
  · have hF := xif hF c2
    refine lv_iload_n hx hb dX12_asked_11 rfl (lv_at hl 1 rfl) ?_
    refine lv_aload_n hx hb dX12_asked_12 rfl (lv_at hl 0 rfl) ?_
    refine gf_X12_188 C0 hR t_v0 dX12_asked_13 ?_
    refine lv_icmp_ge (tgt := 28) hx hb dX12_asked_16 (by decide) (fun c3 => ?_) (fun c3 => ?_)
    · have hF := xif hF c3
      refine lv_bipush (v := (-2)) hx hb dX12_asked_28 (by decide) ?_
      cases hF
      exact x_iret C0 hR hS dX12_asked_30
    · have hF := xel hF c3
      refine lv_aload_n hx hb dX12_asked_19 rfl (lv_at hl 0 rfl) ?_
      obtain ⟨a4, e_a4, hF⟩ := xbd hF
      refine gf_X12_44 C0 hR t_v0 e_a4 dX12_asked_20 ?_
      refine lv_iload_n hx hb dX12_asked_23 rfl (lv_at hl 1 rfl) ?_
      obtain ⟨a5, e_a5, hF⟩ := xbd hF
      refine x_iald C0 hR e_a5 dX12_asked_24 ?_
      refine lv_goto (tgt := 30) hx hb dX12_asked_25 (by decide) ?_
      cases hF
      exact x_iret C0 hR hS dX12_asked_30
  · have hF := xel hF c2
    refine lv_iconst (v := (-1)) hx hb dX12_asked_9 (by decide) ?_
    cases hF
    exact x_iret C0 hR hS dX12_asked_10
theorem xm_X12_asked : xMw yX12_asked cX12_asked 2 (some .int) 1 := ⟨xin 1800 (by decide +kernel) rfl, xin 126 (by decide +kernel) rfl, by decide +kernel⟩
theorem xi_X12_asked : Cond.instanceMethod yX12_asked ∈ xT := xin 1798 (by decide +kernel) rfl
theorem xe_X12_asked : Cond.selects yX12_asked.cls yX12_asked yX12_asked ∈ xT := xin 1799 (by decide +kernel) rfl
theorem dX12_depth_0 : decode cX12_depth 0 = .ok (.aload_n 0, 1) := by decide +kernel
theorem dX12_depth_1 : decode cX12_depth 1 = .ok (.iconst 0, 1) := by decide +kernel
theorem dX12_depth_2 : decode cX12_depth 2 = .ok (.putfield 101, 3) := by decide +kernel
theorem dX12_depth_5 : decode cX12_depth 5 = .ok (.aload_n 0, 1) := by decide +kernel
theorem dX12_depth_6 : decode cX12_depth 6 = .ok (.iload_n 1, 1) := by decide +kernel
theorem dX12_depth_7 : decode cX12_depth 7 = .ok (.invokevirtual 282, 3) := by decide +kernel
theorem dX12_depth_10 : decode cX12_depth 10 = .ok (.ifCond .ne 5, 3) := by decide +kernel
theorem dX12_depth_13 : decode cX12_depth 13 = .ok (.iconst (-1), 1) := by decide +kernel
theorem dX12_depth_14 : decode cX12_depth 14 = .ok (.ireturn, 1) := by decide +kernel
theorem dX12_depth_15 : decode cX12_depth 15 = .ok (.iconst 0, 1) := by decide +kernel
theorem dX12_depth_16 : decode cX12_depth 16 = .ok (.istore_n 2, 1) := by decide +kernel
theorem dX12_depth_17 : decode cX12_depth 17 = .ok (.iconst 0, 1) := by decide +kernel
theorem dX12_depth_18 : decode cX12_depth 18 = .ok (.istore_n 3, 1) := by decide +kernel
theorem dX12_depth_19 : decode cX12_depth 19 = .ok (.iload_n 3, 1) := by decide +kernel
theorem dX12_depth_20 : decode cX12_depth 20 = .ok (.aload_n 0, 1) := by decide +kernel
theorem dX12_depth_21 : decode cX12_depth 21 = .ok (.getfield 32, 3) := by decide +kernel
theorem dX12_depth_24 : decode cX12_depth 24 = .ok (.iload_n 1, 1) := by decide +kernel
theorem dX12_depth_25 : decode cX12_depth 25 = .ok (.iaload, 1) := by decide +kernel
theorem dX12_depth_26 : decode cX12_depth 26 = .ok (.if_icmp .ge 77, 3) := by decide +kernel
theorem dX12_depth_29 : decode cX12_depth 29 = .ok (.iconst 0, 1) := by decide +kernel
theorem dX12_depth_30 : decode cX12_depth 30 = .ok (.istore 4, 2) := by decide +kernel
theorem dX12_depth_32 : decode cX12_depth 32 = .ok (.iconst 0, 1) := by decide +kernel
theorem dX12_depth_33 : decode cX12_depth 33 = .ok (.istore 5, 2) := by decide +kernel
theorem dX12_depth_35 : decode cX12_depth 35 = .ok (.iload 5, 2) := by decide +kernel
theorem dX12_depth_37 : decode cX12_depth 37 = .ok (.iload_n 3, 1) := by decide +kernel
theorem dX12_depth_38 : decode cX12_depth 38 = .ok (.if_icmp .gt 46, 3) := by decide +kernel
theorem dX12_depth_41 : decode cX12_depth 41 = .ok (.iload 4, 2) := by decide +kernel
theorem dX12_depth_43 : decode cX12_depth 43 = .ok (.aload_n 0, 1) := by decide +kernel
theorem dX12_depth_44 : decode cX12_depth 44 = .ok (.getfield 35, 3) := by decide +kernel
theorem dX12_depth_47 : decode cX12_depth 47 = .ok (.bipush 12, 2) := by decide +kernel
theorem dX12_depth_49 : decode cX12_depth 49 = .ok (.iload_n 1, 1) := by decide +kernel
theorem dX12_depth_50 : decode cX12_depth 50 = .ok (.imul, 1) := by decide +kernel
theorem dX12_depth_51 : decode cX12_depth 51 = .ok (.iload 5, 2) := by decide +kernel
theorem dX12_depth_53 : decode cX12_depth 53 = .ok (.iadd, 1) := by decide +kernel
theorem dX12_depth_54 : decode cX12_depth 54 = .ok (.aload_n 0, 1) := by decide +kernel
theorem dX12_depth_55 : decode cX12_depth 55 = .ok (.getfield 23, 3) := by decide +kernel
theorem dX12_depth_58 : decode cX12_depth 58 = .ok (.invokestatic 231, 3) := by decide +kernel
theorem dX12_depth_61 : decode cX12_depth 61 = .ok (.bipush 12, 2) := by decide +kernel
theorem dX12_depth_63 : decode cX12_depth 63 = .ok (.iload_n 1, 1) := by decide +kernel
theorem dX12_depth_64 : decode cX12_depth 64 = .ok (.imul, 1) := by decide +kernel
theorem dX12_depth_65 : decode cX12_depth 65 = .ok (.iload_n 3, 1) := by decide +kernel
theorem dX12_depth_66 : decode cX12_depth 66 = .ok (.iadd, 1) := by decide +kernel
theorem dX12_depth_67 : decode cX12_depth 67 = .ok (.if_icmp .le 7, 3) := by decide +kernel
theorem dX12_depth_70 : decode cX12_depth 70 = .ok (.iconst 1, 1) := by decide +kernel
theorem dX12_depth_71 : decode cX12_depth 71 = .ok (.goto 4, 3) := by decide +kernel
theorem dX12_depth_74 : decode cX12_depth 74 = .ok (.iconst 0, 1) := by decide +kernel
theorem dX12_depth_75 : decode cX12_depth 75 = .ok (.iadd, 1) := by decide +kernel
theorem dX12_depth_76 : decode cX12_depth 76 = .ok (.istore 4, 2) := by decide +kernel
theorem dX12_depth_78 : decode cX12_depth 78 = .ok (.iinc 5 1, 3) := by decide +kernel
theorem dX12_depth_81 : decode cX12_depth 81 = .ok (.goto (-46), 3) := by decide +kernel
theorem dX12_depth_84 : decode cX12_depth 84 = .ok (.iload 4, 2) := by decide +kernel
theorem dX12_depth_86 : decode cX12_depth 86 = .ok (.iload_n 2, 1) := by decide +kernel
theorem dX12_depth_87 : decode cX12_depth 87 = .ok (.if_icmp .le 8, 3) := by decide +kernel
theorem dX12_depth_90 : decode cX12_depth 90 = .ok (.iload 4, 2) := by decide +kernel
theorem dX12_depth_92 : decode cX12_depth 92 = .ok (.goto 4, 3) := by decide +kernel
theorem dX12_depth_95 : decode cX12_depth 95 = .ok (.iload_n 2, 1) := by decide +kernel
theorem dX12_depth_96 : decode cX12_depth 96 = .ok (.istore_n 2, 1) := by decide +kernel
theorem dX12_depth_97 : decode cX12_depth 97 = .ok (.iinc 3 1, 3) := by decide +kernel
theorem dX12_depth_100 : decode cX12_depth 100 = .ok (.goto (-81), 3) := by decide +kernel
theorem dX12_depth_103 : decode cX12_depth 103 = .ok (.iload_n 2, 1) := by decide +kernel
theorem dX12_depth_104 : decode cX12_depth 104 = .ok (.ireturn, 1) := by decide +kernel
set_option maxHeartbeats 4000000 in
set_option maxRecDepth 100000 in
theorem jw_X12_depth_35 {p : Program} {l : Launch} {e : Env} {s : State} {m : MethodId} {args : Array Value} {below : List Frame} {meth : Method} {c : Code} {D : xD} {ty : xTy} {k19 : Nat → Int32 → Int32 → Int32 → xH → Option (Int32 × xH)} (C0 : xC D RX12 cX12_depth 6 (some .int) p s m args meth c) {r : Int32} {h9 : xH} (hk19 : ∀ (v0 : Nat) (v1 : Int32) (v2 : Int32) (v3 : Int32) (h : xH), ty v0 = some (0, 12) → k19 v0 v1 v2 v3 h = some (r, h9) → ∀ (H : Heap) (locs : List Loc), xRep D ty h H → xS ty s.heap H locs → ∀ ls : Array Slot, lv_has ls 6 [(0, .ref v0), (1, .int v1), (2, .int v2), (3, .int v3)] → W p l e jr_X12_depth s m args below meth c H locs 0 0 (MQ below (xQ D ty (some (.int r)) h9) args s 0 0 (xdom ty)) (F0 m 19 ls [])) : ∀ n : Nat, ∀ (v0 : Nat) (v1 : Int32) (v2 : Int32) (v3 : Int32) (v4 : Int32) (v5 : Int32) (h : xH), ty v0 = some (0, 12) → jf_X12_depth_35 ty k19 n v0 v1 v2 v3 v4 v5 h = some (r, h9) → ∀ (H : Heap) (locs : List Loc), xRep D ty h H → xS ty s.heap H locs → ∀ ls : Array Slot, lv_has ls 6 [(0, .ref v0), (1, .int v1), (2, .int v2), (3, .int v3), (4, .int v4), (5, .int v5)] → W p l e jr_X12_depth s m args below meth c H locs 0 0 (MQ below (xQ D ty (some (.int r)) h9) args s 0 0 (xdom ty)) (F0 m 35 ls []) := by
  have hx := C0.1
  have hb := C0.2.1
  have hown := C0.2.2.2.2.2.1
  have hts := C0.2.2.2.2.2.2.1
  intro n
  induction n with
  | zero =>
    intro v0 v1 v2 v3 v4 v5 h t_v0 hF H locs hR hS ls hl
    cases hF
  | succ n ih =>
    intro v0 v1 v2 v3 v4 v5 h t_v0 hF H locs hR hS ls hl
    rw [jf_X12_depth_35_s] at hF
    refine lv_iload hx hb dX12_depth_35 (lv_at hl 5 rfl) ?_
    refine lv_iload_n hx hb dX12_depth_37 rfl (lv_at hl 3 rfl) ?_
    refine lv_icmp_gt (tgt := 84) hx hb dX12_depth_38 (by decide) (fun c1 => ?_) (fun c1 => ?_)
    · have hF := xif hF c1
      refine lv_iload hx hb dX12_depth_84 (lv_at hl 4 rfl) ?_
      refine lv_iload_n hx hb dX12_depth_86 rfl (lv_at hl 2 rfl) ?_
      refine lv_icmp_le (tgt := 95) hx hb dX12_depth_87 (by decide) (fun c2 => ?_) (fun c2 => ?_)
      · have hF := xif hF c2
        refine lv_iload_n hx hb dX12_depth_95 rfl (lv_at hl 2 rfl) ?_
        refine lv_istore_n (lv' := [(2, .int v2), (0, .ref v0), (1, .int v1), (3, .int v3), (4, .int v4), (5, .int v5)]) hx hb dX12_depth_96 rfl hl (by decide) rfl (fun ls hl => ?_)
        refine lv_iinc (v := v3 + 1) (lv' := [(3, .int (v3 + 1)), (2, .int v2), (0, .ref v0), (1, .int v1), (4, .int v4), (5, .int v5)]) hx hb dX12_depth_97 hl (k := 3) rfl rfl (by decide) rfl (fun ls hl => ?_)
        refine lv_goto (tgt := 19) hx hb dX12_depth_100 (by decide) ?_
        exact hk19 _ _ _ _ _ t_v0 hF _ _ hR hS _ (lv_sub hl [2, 3, 1, 0] rfl)
      · have hF := xel hF c2
        refine lv_iload hx hb dX12_depth_90 (lv_at hl 4 rfl) ?_
        refine lv_goto (tgt := 96) hx hb dX12_depth_92 (by decide) ?_
        refine lv_istore_n (lv' := [(2, .int v4), (0, .ref v0), (1, .int v1), (3, .int v3), (4, .int v4), (5, .int v5)]) hx hb dX12_depth_96 rfl hl (by decide) rfl (fun ls hl => ?_)
        refine lv_iinc (v := v3 + 1) (lv' := [(3, .int (v3 + 1)), (2, .int v4), (0, .ref v0), (1, .int v1), (4, .int v4), (5, .int v5)]) hx hb dX12_depth_97 hl (k := 3) rfl rfl (by decide) rfl (fun ls hl => ?_)
        refine lv_goto (tgt := 19) hx hb dX12_depth_100 (by decide) ?_
        exact hk19 _ _ _ _ _ t_v0 hF _ _ hR hS _ (lv_sub hl [2, 3, 1, 0] rfl)
    · have hF := xel hF c1
      refine lv_iload hx hb dX12_depth_41 (lv_at hl 4 rfl) ?_
      refine lv_aload_n hx hb dX12_depth_43 rfl (lv_at hl 0 rfl) ?_
      obtain ⟨a3, e_a3, hF⟩ := xbd hF
      refine gf_X12_35 C0 hR t_v0 e_a3 dX12_depth_44 ?_
      refine lv_bipush (v := 12) hx hb dX12_depth_47 (by decide) ?_
      refine lv_iload_n hx hb dX12_depth_49 rfl (lv_at hl 1 rfl) ?_
      refine lv_imul hx hb dX12_depth_50 ?_
      refine lv_iload hx hb dX12_depth_51 (lv_at hl 5 rfl) ?_
      refine lv_iadd hx hb dX12_depth_53 ?_
      refine lv_aload_n hx hb dX12_depth_54 rfl (lv_at hl 0 rfl) ?_
      obtain ⟨a4, e_a4, hF⟩ := xbd hF
      refine gf_X12_23 C0 hR t_v0 e_a4 dX12_depth_55 ?_
      obtain ⟨a5, e_a5, hF⟩ := xbd hF
      refine cl_X12_231 C0 hR hS e_a5  ⟨(Nat.le_of_ble_eq_true rfl), (Nat.le_of_ble_eq_true rfl)⟩ hl.1 (Nat.le_of_ble_eq_true rfl) ⟨(Nat.le_of_ble_eq_true rfl), (Nat.le_of_ble_eq_true rfl)⟩ dX12_depth_58 (fun H locs hR hS => ?_)
      refine lv_bipush (v := 12) hx hb dX12_depth_61 (by decide) ?_
      refine lv_iload_n hx hb dX12_depth_63 rfl (lv_at hl 1 rfl) ?_
      refine lv_imul hx hb dX12_depth_64 ?_
      refine lv_iload_n hx hb dX12_depth_65 rfl (lv_at hl 3 rfl) ?_
      refine lv_iadd hx hb dX12_depth_66 ?_
      refine lv_icmp_le (tgt := 74) hx hb dX12_depth_67 (by decide) (fun c6 => ?_) (fun c6 => ?_)
      · have hF := xif hF c6
        refine lv_iconst (v := 0) hx hb dX12_depth_74 (by decide) ?_
        refine lv_iadd hx hb dX12_depth_75 ?_
        refine lv_istore (lv' := [(4, .int (v4 + 0)), (0, .ref v0), (1, .int v1), (2, .int v2), (3, .int v3), (5, .int v5)]) hx hb dX12_depth_76 hl (by decide) rfl (fun ls hl => ?_)
        refine lv_iinc (v := v5 + 1) (lv' := [(5, .int (v5 + 1)), (4, .int (v4 + 0)), (0, .ref v0), (1, .int v1), (2, .int v2), (3, .int v3)]) hx hb dX12_depth_78 hl (k := 5) rfl rfl (by decide) rfl (fun ls hl => ?_)
        refine lv_goto (tgt := 35) hx hb dX12_depth_81 (by decide) ?_
        exact ih _ _ _ _ _ _ _ t_v0 hF _ _ hR hS _ (lv_sub hl [2, 3, 4, 5, 1, 0] rfl)
      · have hF := xel hF c6
        refine lv_iconst (v := 1) hx hb dX12_depth_70 (by decide) ?_
        refine lv_goto (tgt := 75) hx hb dX12_depth_71 (by decide) ?_
        refine lv_iadd hx hb dX12_depth_75 ?_
        refine lv_istore (lv' := [(4, .int (v4 + 1)), (0, .ref v0), (1, .int v1), (2, .int v2), (3, .int v3), (5, .int v5)]) hx hb dX12_depth_76 hl (by decide) rfl (fun ls hl => ?_)
        refine lv_iinc (v := v5 + 1) (lv' := [(5, .int (v5 + 1)), (4, .int (v4 + 1)), (0, .ref v0), (1, .int v1), (2, .int v2), (3, .int v3)]) hx hb dX12_depth_78 hl (k := 5) rfl rfl (by decide) rfl (fun ls hl => ?_)
        refine lv_goto (tgt := 35) hx hb dX12_depth_81 (by decide) ?_
        exact ih _ _ _ _ _ _ _ t_v0 hF _ _ hR hS _ (lv_sub hl [2, 3, 4, 5, 1, 0] rfl)
set_option maxHeartbeats 4000000 in
set_option maxRecDepth 100000 in
theorem jw_X12_depth_19 {p : Program} {l : Launch} {e : Env} {s : State} {m : MethodId} {args : Array Value} {below : List Frame} {meth : Method} {c : Code} {D : xD} {ty : xTy} (C0 : xC D RX12 cX12_depth 6 (some .int) p s m args meth c) {r : Int32} {h9 : xH} : ∀ n : Nat, ∀ (v0 : Nat) (v1 : Int32) (v2 : Int32) (v3 : Int32) (h : xH), ty v0 = some (0, 12) → jf_X12_depth_19 ty n v0 v1 v2 v3 h = some (r, h9) → ∀ (H : Heap) (locs : List Loc), xRep D ty h H → xS ty s.heap H locs → ∀ ls : Array Slot, lv_has ls 6 [(0, .ref v0), (1, .int v1), (2, .int v2), (3, .int v3)] → W p l e jr_X12_depth s m args below meth c H locs 0 0 (MQ below (xQ D ty (some (.int r)) h9) args s 0 0 (xdom ty)) (F0 m 19 ls []) := by
  have hx := C0.1
  have hb := C0.2.1
  have hown := C0.2.2.2.2.2.1
  have hts := C0.2.2.2.2.2.2.1
  intro n
  induction n with
  | zero =>
    intro v0 v1 v2 v3 h t_v0 hF H locs hR hS ls hl
    cases hF
  | succ n ih =>
    intro v0 v1 v2 v3 h t_v0 hF H locs hR hS ls hl
    rw [jf_X12_depth_19_s] at hF
    refine lv_iload_n hx hb dX12_depth_19 rfl (lv_at hl 3 rfl) ?_
    refine lv_aload_n hx hb dX12_depth_20 rfl (lv_at hl 0 rfl) ?_
    obtain ⟨a7, e_a7, hF⟩ := xbd hF
    refine gf_X12_32 C0 hR t_v0 e_a7 dX12_depth_21 ?_
    refine lv_iload_n hx hb dX12_depth_24 rfl (lv_at hl 1 rfl) ?_
    obtain ⟨a8, e_a8, hF⟩ := xbd hF
    refine x_iald C0 hR e_a8 dX12_depth_25 ?_
    refine lv_icmp_ge (tgt := 103) hx hb dX12_depth_26 (by decide) (fun c9 => ?_) (fun c9 => ?_)
    · have hF := xif hF c9
      refine lv_iload_n hx hb dX12_depth_103 rfl (lv_at hl 2 rfl) ?_
      cases hF
      exact x_iret C0 hR hS dX12_depth_104
    · have hF := xel hF c9
      refine lv_iconst (v := 0) hx hb dX12_depth_29 (by decide) ?_
      refine lv_istore (lv' := [(4, .int 0), (0, .ref v0), (1, .int v1), (2, .int v2), (3, .int v3)]) hx hb dX12_depth_30 hl (by decide) rfl (fun ls hl => ?_)
      refine lv_iconst (v := 0) hx hb dX12_depth_32 (by decide) ?_
      refine lv_istore (lv' := [(5, .int 0), (4, .int 0), (0, .ref v0), (1, .int v1), (2, .int v2), (3, .int v3)]) hx hb dX12_depth_33 hl (by decide) rfl (fun ls hl => ?_)
      obtain ⟨_, hF⟩ := xlim_sp hF
      exact jw_X12_depth_35 C0 ih _ _ _ _ _ _ _ _ t_v0 hF _ _ hR hS _ (lv_sub hl [2, 3, 4, 5, 1, 0] rfl)
set_option maxHeartbeats 4000000 in
set_option maxRecDepth 100000 in
theorem jc_X12_depth {l : Launch} {D : xD} {ty : xTy} {h : xH} {v0 : Nat} {v1 : Int32} {r : Int32} {h9 : xH} (t_v0 : ty v0 = some (0, 12)) (hF : jf_X12_depth ty h v0 v1 = some (r, h9)) : Met l yX12_depth (xws yX12_depth cX12_depth 6 (some .int)) jr_X12_depth (xPc D ty h [.ref v0, .int v1]) (xQ D ty (some (.int r)) h9) 0 0 (xdom ty) := by
  refine x_met (by decide) ?_
  intro p e s m below meth c C0 hR
  generalize hargs : ([.ref v0, .int v1] : List Value).toArray = args at C0 ⊢
  have hx := C0.1
  have hb := C0.2.1
  have hown := C0.2.2.2.2.2.1
  have hts := C0.2.2.2.2.2.2.1
  have hS : xS ty s.heap s.heap [] := xS.rf
  have hl := lv_entry ([.ref v0, .int v1]) (n := 6) (Nat.le_of_ble_eq_true rfl)
  rw [← hargs, lg_entry_eq]
  rw [hargs]
  generalize (lg_sl ([.ref v0, .int v1]) ++ List.replicate (6 - (lg_sl ([.ref v0, .int v1])).length) Slot.unset).toArray = ls at hl ⊢
  have hl : lv_has ls 6 [(0, .ref v0), (1, .int v1)] := hl
  unfold jf_X12_depth at hF
  refine lv_aload_n hx hb dX12_depth_0 rfl (lv_at hl 0 rfl) ?_
  refine lv_iconst (v := 0) hx hb dX12_depth_1 (by decide) ?_
  obtain ⟨h10, e_h10, hF⟩ := xbd hF
  refine pf_X12_101 C0 hR hS t_v0 dX12_depth_2 (fun H locs hR hS => ?_)
  rw [Option.some.inj e_h10] at hR
  refine lv_aload_n hx hb dX12_depth_5 rfl (lv_at hl 0 rfl) ?_
  refine lv_iload_n hx hb dX12_depth_6 rfl (lv_at hl 1 rfl) ?_
  obtain ⟨a11, e_a11, hF⟩ := xbd hF
  refine cl_X12_282 C0 hR hS e_a11 t_v0 ⟨(Nat.le_of_ble_eq_true rfl), (Nat.le_of_ble_eq_true rfl)⟩ hl.1 (Nat.le_of_ble_eq_true rfl) ⟨(Nat.le_of_ble_eq_true rfl), (Nat.le_of_ble_eq_true rfl)⟩ dX12_depth_7 (fun H locs hR hS => ?_)
  refine lv_if_ne (tgt := 15) hx hb dX12_depth_10 (by decide) (fun c12 => ?_) (fun c12 => ?_)
  · have hF := xel hF c12
    refine lv_iconst (v := 0) hx hb dX12_depth_15 (by decide) ?_
    refine lv_istore_n (lv' := [(2, .int 0), (0, .ref v0), (1, .int v1)]) hx hb dX12_depth_16 rfl hl (by decide) rfl (fun ls hl => ?_)
    refine lv_iconst (v := 0) hx hb dX12_depth_17 (by decide) ?_
    refine lv_istore_n (lv' := [(3, .int 0), (2, .int 0), (0, .ref v0), (1, .int v1)]) hx hb dX12_depth_18 rfl hl (by decide) rfl (fun ls hl => ?_)
    obtain ⟨_, hF⟩ := xlim_sp hF
    exact jw_X12_depth_19 C0 _ _ _ _ _ _ t_v0 hF _ _ hR hS _ (lv_sub hl [2, 3, 1, 0] rfl)
  · have hF := xif hF c12
    refine lv_iconst (v := (-1)) hx hb dX12_depth_13 (by decide) ?_
    cases hF
    exact x_iret C0 hR hS dX12_depth_14
theorem xm_X12_depth : xMw yX12_depth cX12_depth 6 (some .int) 1 := ⟨xin 1804 (by decide +kernel) rfl, xin 126 (by decide +kernel) rfl, by decide +kernel⟩
theorem xi_X12_depth : Cond.instanceMethod yX12_depth ∈ xT := xin 1802 (by decide +kernel) rfl
theorem xe_X12_depth : Cond.selects yX12_depth.cls yX12_depth yX12_depth ∈ xT := xin 1803 (by decide +kernel) rfl
theorem dX12_remember_0 : decode cX12_remember 0 = .ok (.aload_n 0, 1) := by decide +kernel
theorem dX12_remember_1 : decode cX12_remember 1 = .ok (.getfield 191, 3) := by decide +kernel
theorem dX12_remember_4 : decode cX12_remember 4 = .ok (.bipush 20, 2) := by decide +kernel
theorem dX12_remember_6 : decode cX12_remember 6 = .ok (.if_icmp .ne 41, 3) := by decide +kernel
theorem dX12_remember_9 : decode cX12_remember 9 = .ok (.iconst 0, 1) := by decide +kernel
theorem dX12_remember_10 : decode cX12_remember 10 = .ok (.istore_n 1, 1) := by decide +kernel
theorem dX12_remember_11 : decode cX12_remember 11 = .ok (.iload_n 1, 1) := by decide +kernel
theorem dX12_remember_12 : decode cX12_remember 12 = .ok (.bipush 19, 2) := by decide +kernel
theorem dX12_remember_14 : decode cX12_remember 14 = .ok (.if_icmp .ge 23, 3) := by decide +kernel
theorem dX12_remember_17 : decode cX12_remember 17 = .ok (.aload_n 0, 1) := by decide +kernel
theorem dX12_remember_18 : decode cX12_remember 18 = .ok (.getfield 92, 3) := by decide +kernel
theorem dX12_remember_21 : decode cX12_remember 21 = .ok (.iload_n 1, 1) := by decide +kernel
theorem dX12_remember_22 : decode cX12_remember 22 = .ok (.aload_n 0, 1) := by decide +kernel
theorem dX12_remember_23 : decode cX12_remember 23 = .ok (.getfield 92, 3) := by decide +kernel
theorem dX12_remember_26 : decode cX12_remember 26 = .ok (.iload_n 1, 1) := by decide +kernel
theorem dX12_remember_27 : decode cX12_remember 27 = .ok (.iconst 1, 1) := by decide +kernel
theorem dX12_remember_28 : decode cX12_remember 28 = .ok (.iadd, 1) := by decide +kernel
theorem dX12_remember_29 : decode cX12_remember 29 = .ok (.iaload, 1) := by decide +kernel
theorem dX12_remember_30 : decode cX12_remember 30 = .ok (.iastore, 1) := by decide +kernel
theorem dX12_remember_31 : decode cX12_remember 31 = .ok (.iinc 1 1, 3) := by decide +kernel
theorem dX12_remember_34 : decode cX12_remember 34 = .ok (.goto (-23), 3) := by decide +kernel
theorem dX12_remember_37 : decode cX12_remember 37 = .ok (.aload_n 0, 1) := by decide +kernel
theorem dX12_remember_38 : decode cX12_remember 38 = .ok (.dup, 1) := by decide +kernel
theorem dX12_remember_39 : decode cX12_remember 39 = .ok (.getfield 191, 3) := by decide +kernel
theorem dX12_remember_42 : decode cX12_remember 42 = .ok (.iconst 1, 1) := by decide +kernel
theorem dX12_remember_43 : decode cX12_remember 43 = .ok (.isub, 1) := by decide +kernel
theorem dX12_remember_44 : decode cX12_remember 44 = .ok (.putfield 191, 3) := by decide +kernel
theorem dX12_remember_47 : decode cX12_remember 47 = .ok (.aload_n 0, 1) := by decide +kernel
theorem dX12_remember_48 : decode cX12_remember 48 = .ok (.getfield 92, 3) := by decide +kernel
theorem dX12_remember_51 : decode cX12_remember 51 = .ok (.aload_n 0, 1) := by decide +kernel
theorem dX12_remember_52 : decode cX12_remember 52 = .ok (.getfield 191, 3) := by decide +kernel
theorem dX12_remember_55 : decode cX12_remember 55 = .ok (.aload_n 0, 1) := by decide +kernel
theorem dX12_remember_56 : decode cX12_remember 56 = .ok (.getfield 185, 3) := by decide +kernel
theorem dX12_remember_59 : decode cX12_remember 59 = .ok (.iastore, 1) := by decide +kernel
theorem dX12_remember_60 : decode cX12_remember 60 = .ok (.aload_n 0, 1) := by decide +kernel
theorem dX12_remember_61 : decode cX12_remember 61 = .ok (.dup, 1) := by decide +kernel
theorem dX12_remember_62 : decode cX12_remember 62 = .ok (.getfield 191, 3) := by decide +kernel
theorem dX12_remember_65 : decode cX12_remember 65 = .ok (.iconst 1, 1) := by decide +kernel
theorem dX12_remember_66 : decode cX12_remember 66 = .ok (.iadd, 1) := by decide +kernel
theorem dX12_remember_67 : decode cX12_remember 67 = .ok (.putfield 191, 3) := by decide +kernel
theorem dX12_remember_70 : decode cX12_remember 70 = .ok (.return_, 1) := by decide +kernel
theorem wf_X12_92 : Cond.fieldLink RX12 92 "TermShelfModel" "undo" "[I" ∈ xT := xin 1369 (by decide +kernel) rfl
section XN_X12_remember
variable {p : Program} {l : Launch} {e : Env} {R : Room} {s : State} {m : MethodId} {args : Array Value} {below : List Frame} {meth : Method} {c : Code} {H H0 : Heap} {locs : List Loc} {cells slots : Nat} {Q : State → Prop} {cc : ByteArray} {nL pc : Nat} {rt : Option FieldType} {ls : Array Slot} {rest : List Value} {D : xD} {ty : xTy} {h : xH}
theorem gf_X12_191 {a : Nat} (C0 : xC D RX12 cc nL rt p s m args meth c) (hR : xRep D ty h H) (ht : ty a = some (0, 12)) (hdg : decode cc pc = .ok (.getfield 191, 3)) (kk : W p l e R s m args below meth c H locs cells slots Q (F0 m (pc + 3) ls (.int (xI h a 56) :: rest))) : W p l e R s m args below meth c H locs cells slots Q (F0 m pc ls (.ref a :: rest)) := x_get C0 hR (ci := 12) (k := 56) (N := 60) (T := TX12) rfl iX12 (by decide) rfl wf_X12_191 rfl ht hdg kk
theorem gf_X12_92 {a : Nat} (C0 : xC D RX12 cc nL rt p s m args meth c) (hR : xRep D ty h H) (ht : ty a = some (0, 12)) {v : Nat} (hv : xR h a 57 = some v) (hdg : decode cc pc = .ok (.getfield 92, 3)) (kk : W p l e R s m args below meth c H locs cells slots Q (F0 m (pc + 3) ls (.ref v :: rest))) : W p l e R s m args below meth c H locs cells slots Q (F0 m pc ls (.ref a :: rest)) := x_get C0 hR (ci := 12) (k := 57) (N := 60) (T := TX12) rfl iX12 (by decide) rfl wf_X12_92 (by show va_rf (xR h a 57) = _; rw [hv]; rfl) ht hdg kk
end XN_X12_remember
set_option maxHeartbeats 4000000 in
set_option maxRecDepth 100000 in
theorem jw_X12_remember_11 {p : Program} {l : Launch} {e : Env} {s : State} {m : MethodId} {args : Array Value} {below : List Frame} {meth : Method} {c : Code} {D : xD} {ty : xTy} (C0 : xC D RX12 cX12_remember 2 none p s m args meth c) {h9 : xH} : ∀ n : Nat, ∀ (v0 : Nat) (v1 : Int32) (h : xH), ty v0 = some (0, 12) → jf_X12_remember_11 ty n v0 v1 h = some h9 → ∀ (H : Heap) (locs : List Loc), xRep D ty h H → xS ty s.heap H locs → ∀ ls : Array Slot, lv_has ls 2 [(0, .ref v0), (1, .int v1)] → W p l e jr_X12_remember s m args below meth c H locs 0 0 (MQ below (xQ D ty none h9) args s 0 0 (xdom ty)) (F0 m 11 ls []) := by
  have hx := C0.1
  have hb := C0.2.1
  have hown := C0.2.2.2.2.2.1
  have hts := C0.2.2.2.2.2.2.1
  intro n
  induction n with
  | zero =>
    intro v0 v1 h t_v0 hF H locs hR hS ls hl
    cases hF
  | succ n ih =>
    intro v0 v1 h t_v0 hF H locs hR hS ls hl
    rw [jf_X12_remember_11_s] at hF
    refine lv_iload_n hx hb dX12_remember_11 rfl (lv_at hl 1 rfl) ?_
    refine lv_bipush (v := 19) hx hb dX12_remember_12 (by decide) ?_
    refine lv_icmp_ge (tgt := 37) hx hb dX12_remember_14 (by decide) (fun c1 => ?_) (fun c1 => ?_)
    · have hF := xif hF c1
      refine lv_aload_n hx hb dX12_remember_37 rfl (lv_at hl 0 rfl) ?_
      refine lv_dup hx hb dX12_remember_38 rfl ?_
      refine gf_X12_191 C0 hR t_v0 dX12_remember_39 ?_
      refine lv_iconst (v := 1) hx hb dX12_remember_42 (by decide) ?_
      refine lv_isub hx hb dX12_remember_43 ?_
      obtain ⟨h2, e_h2, hF⟩ := xbd hF
      refine pf_X12_191 C0 hR hS t_v0 dX12_remember_44 (fun H locs hR hS => ?_)
      rw [Option.some.inj e_h2] at hR
      refine lv_aload_n hx hb dX12_remember_47 rfl (lv_at hl 0 rfl) ?_
      obtain ⟨a3, e_a3, hF⟩ := xbd hF
      refine gf_X12_92 C0 hR t_v0 e_a3 dX12_remember_48 ?_
      refine lv_aload_n hx hb dX12_remember_51 rfl (lv_at hl 0 rfl) ?_
      refine gf_X12_191 C0 hR t_v0 dX12_remember_52 ?_
      refine lv_aload_n hx hb dX12_remember_55 rfl (lv_at hl 0 rfl) ?_
      refine gf_X12_185 C0 hR t_v0 dX12_remember_56 ?_
      obtain ⟨h4, e_h4, hF⟩ := xbd hF
      refine x_iast C0 hR hS e_h4 dX12_remember_59 (fun H locs hR hS => ?_)
      refine lv_aload_n hx hb dX12_remember_60 rfl (lv_at hl 0 rfl) ?_
      refine lv_dup hx hb dX12_remember_61 rfl ?_
      refine gf_X12_191 C0 hR t_v0 dX12_remember_62 ?_
      refine lv_iconst (v := 1) hx hb dX12_remember_65 (by decide) ?_
      refine lv_iadd hx hb dX12_remember_66 ?_
      obtain ⟨h5, e_h5, hF⟩ := xbd hF
      refine pf_X12_191 C0 hR hS t_v0 dX12_remember_67 (fun H locs hR hS => ?_)
      rw [Option.some.inj e_h5] at hR
      cases hF
      exact x_vret C0 hR hS dX12_remember_70
    · have hF := xel hF c1
      refine lv_aload_n hx hb dX12_remember_17 rfl (lv_at hl 0 rfl) ?_
      obtain ⟨a6, e_a6, hF⟩ := xbd hF
      refine gf_X12_92 C0 hR t_v0 e_a6 dX12_remember_18 ?_
      refine lv_iload_n hx hb dX12_remember_21 rfl (lv_at hl 1 rfl) ?_
      refine lv_aload_n hx hb dX12_remember_22 rfl (lv_at hl 0 rfl) ?_
      obtain ⟨a7, e_a7, hF⟩ := xbd hF
      refine gf_X12_92 C0 hR t_v0 e_a7 dX12_remember_23 ?_
      refine lv_iload_n hx hb dX12_remember_26 rfl (lv_at hl 1 rfl) ?_
      refine lv_iconst (v := 1) hx hb dX12_remember_27 (by decide) ?_
      refine lv_iadd hx hb dX12_remember_28 ?_
      obtain ⟨a8, e_a8, hF⟩ := xbd hF
      refine x_iald C0 hR e_a8 dX12_remember_29 ?_
      obtain ⟨h9, e_h9, hF⟩ := xbd hF
      refine x_iast C0 hR hS e_h9 dX12_remember_30 (fun H locs hR hS => ?_)
      refine lv_iinc (v := v1 + 1) (lv' := [(1, .int (v1 + 1)), (0, .ref v0)]) hx hb dX12_remember_31 hl (k := 1) rfl rfl (by decide) rfl (fun ls hl => ?_)
      refine lv_goto (tgt := 11) hx hb dX12_remember_34 (by decide) ?_
      exact ih _ _ _ t_v0 hF _ _ hR hS _ (lv_sub hl [1, 0] rfl)
set_option maxHeartbeats 4000000 in
set_option maxRecDepth 100000 in
theorem jc_X12_remember {l : Launch} {D : xD} {ty : xTy} {h : xH} {v0 : Nat} {h9 : xH} (t_v0 : ty v0 = some (0, 12)) (hF : jf_X12_remember ty h v0 = some h9) : Met l yX12_remember (xws yX12_remember cX12_remember 2 none) jr_X12_remember (xPc D ty h [.ref v0]) (xQ D ty none h9) 0 0 (xdom ty) := by
  refine x_met (by decide) ?_
  intro p e s m below meth c C0 hR
  generalize hargs : ([.ref v0] : List Value).toArray = args at C0 ⊢
  have hx := C0.1
  have hb := C0.2.1
  have hown := C0.2.2.2.2.2.1
  have hts := C0.2.2.2.2.2.2.1
  have hS : xS ty s.heap s.heap [] := xS.rf
  have hl := lv_entry ([.ref v0]) (n := 2) (Nat.le_of_ble_eq_true rfl)
  rw [← hargs, lg_entry_eq]
  rw [hargs]
  generalize (lg_sl ([.ref v0]) ++ List.replicate (2 - (lg_sl ([.ref v0])).length) Slot.unset).toArray = ls at hl ⊢
  have hl : lv_has ls 2 [(0, .ref v0)] := hl
  unfold jf_X12_remember at hF
  refine lv_aload_n hx hb dX12_remember_0 rfl (lv_at hl 0 rfl) ?_
  refine gf_X12_191 C0 hR t_v0 dX12_remember_1 ?_
  refine lv_bipush (v := 20) hx hb dX12_remember_4 (by decide) ?_
  refine lv_icmp_ne (tgt := 47) hx hb dX12_remember_6 (by decide) (fun c10 => ?_) (fun c10 => ?_)
  · have hF := xel hF c10
    refine lv_aload_n hx hb dX12_remember_47 rfl (lv_at hl 0 rfl) ?_
    obtain ⟨a11, e_a11, hF⟩ := xbd hF
    refine gf_X12_92 C0 hR t_v0 e_a11 dX12_remember_48 ?_
    refine lv_aload_n hx hb dX12_remember_51 rfl (lv_at hl 0 rfl) ?_
    refine gf_X12_191 C0 hR t_v0 dX12_remember_52 ?_
    refine lv_aload_n hx hb dX12_remember_55 rfl (lv_at hl 0 rfl) ?_
    refine gf_X12_185 C0 hR t_v0 dX12_remember_56 ?_
    obtain ⟨h12, e_h12, hF⟩ := xbd hF
    refine x_iast C0 hR hS e_h12 dX12_remember_59 (fun H locs hR hS => ?_)
    refine lv_aload_n hx hb dX12_remember_60 rfl (lv_at hl 0 rfl) ?_
    refine lv_dup hx hb dX12_remember_61 rfl ?_
    refine gf_X12_191 C0 hR t_v0 dX12_remember_62 ?_
    refine lv_iconst (v := 1) hx hb dX12_remember_65 (by decide) ?_
    refine lv_iadd hx hb dX12_remember_66 ?_
    obtain ⟨h13, e_h13, hF⟩ := xbd hF
    refine pf_X12_191 C0 hR hS t_v0 dX12_remember_67 (fun H locs hR hS => ?_)
    rw [Option.some.inj e_h13] at hR
    cases hF
    exact x_vret C0 hR hS dX12_remember_70
  · have hF := xif hF c10
    refine lv_iconst (v := 0) hx hb dX12_remember_9 (by decide) ?_
    refine lv_istore_n (lv' := [(1, .int 0), (0, .ref v0)]) hx hb dX12_remember_10 rfl hl (by decide) rfl (fun ls hl => ?_)
    obtain ⟨_, hF⟩ := xlim_sp hF
    exact jw_X12_remember_11 C0 _ _ _ _ t_v0 hF _ _ hR hS _ (lv_sub hl [1, 0] rfl)
theorem xm_X12_remember : xMw yX12_remember cX12_remember 2 none 0 := ⟨xin 1820 (by decide +kernel) rfl, xin 126 (by decide +kernel) rfl, by decide +kernel⟩
theorem xi_X12_remember : Cond.instanceMethod yX12_remember ∈ xT := xin 1819 (by decide +kernel) rfl
theorem xe_X12_remember : Cond.selects yX12_remember.cls yX12_remember yX12_remember ∈ xT := xin 104 (by decide +kernel) rfl
theorem dX12_take_0 : decode cX12_take 0 = .ok (.aload_n 0, 1) := by decide +kernel
theorem dX12_take_1 : decode cX12_take 1 = .ok (.iconst 0, 1) := by decide +kernel
theorem dX12_take_2 : decode cX12_take 2 = .ok (.putfield 101, 3) := by decide +kernel
theorem dX12_take_5 : decode cX12_take 5 = .ok (.aload_n 0, 1) := by decide +kernel
theorem dX12_take_6 : decode cX12_take 6 = .ok (.iload_n 1, 1) := by decide +kernel
theorem dX12_take_7 : decode cX12_take 7 = .ok (.invokevirtual 282, 3) := by decide +kernel
theorem dX12_take_10 : decode cX12_take 10 = .ok (.ifCond .ne 5, 3) := by decide +kernel
theorem dX12_take_13 : decode cX12_take 13 = .ok (.iconst (-1), 1) := by decide +kernel
theorem dX12_take_14 : decode cX12_take 14 = .ok (.ireturn, 1) := by decide +kernel
theorem dX12_take_15 : decode cX12_take 15 = .ok (.aload_n 0, 1) := by decide +kernel
theorem dX12_take_16 : decode cX12_take 16 = .ok (.iload_n 1, 1) := by decide +kernel
theorem dX12_take_17 : decode cX12_take 17 = .ok (.invokevirtual 285, 3) := by decide +kernel
theorem dX12_take_20 : decode cX12_take 20 = .ok (.ifCond .ne 6, 3) := by decide +kernel
theorem dX12_take_23 : decode cX12_take 23 = .ok (.bipush (-2), 2) := by decide +kernel
theorem dX12_take_25 : decode cX12_take 25 = .ok (.ireturn, 1) := by decide +kernel
theorem dX12_take_26 : decode cX12_take 26 = .ok (.aload_n 0, 1) := by decide +kernel
theorem dX12_take_27 : decode cX12_take 27 = .ok (.invokevirtual 358, 3) := by decide +kernel
theorem dX12_take_30 : decode cX12_take 30 = .ok (.istore_n 2, 1) := by decide +kernel
theorem dX12_take_31 : decode cX12_take 31 = .ok (.aload_n 0, 1) := by decide +kernel
theorem dX12_take_32 : decode cX12_take 32 = .ok (.invokevirtual 361, 3) := by decide +kernel
theorem dX12_take_35 : decode cX12_take 35 = .ok (.aload_n 0, 1) := by decide +kernel
theorem dX12_take_36 : decode cX12_take 36 = .ok (.dup, 1) := by decide +kernel
theorem dX12_take_37 : decode cX12_take 37 = .ok (.getfield 185, 3) := by decide +kernel
theorem dX12_take_40 : decode cX12_take 40 = .ok (.iconst 1, 1) := by decide +kernel
theorem dX12_take_41 : decode cX12_take 41 = .ok (.iload_n 1, 1) := by decide +kernel
theorem dX12_take_42 : decode cX12_take 42 = .ok (.ishl, 1) := by decide +kernel
theorem dX12_take_43 : decode cX12_take 43 = .ok (.iconst (-1), 1) := by decide +kernel
theorem dX12_take_44 : decode cX12_take 44 = .ok (.ixor, 1) := by decide +kernel
theorem dX12_take_45 : decode cX12_take 45 = .ok (.iand, 1) := by decide +kernel
theorem dX12_take_46 : decode cX12_take 46 = .ok (.putfield 185, 3) := by decide +kernel
theorem dX12_take_49 : decode cX12_take 49 = .ok (.iload_n 2, 1) := by decide +kernel
theorem dX12_take_50 : decode cX12_take 50 = .ok (.aload_n 0, 1) := by decide +kernel
theorem dX12_take_51 : decode cX12_take 51 = .ok (.invokevirtual 358, 3) := by decide +kernel
theorem dX12_take_54 : decode cX12_take 54 = .ok (.isub, 1) := by decide +kernel
theorem dX12_take_55 : decode cX12_take 55 = .ok (.ireturn, 1) := by decide +kernel
theorem wl_X12_358 : Cond.methodLink RX12 358 yX12_nodesAll ∈ xT := xin 1809 (by decide +kernel) rfl
theorem wl_X12_361 : Cond.methodLink RX12 361 yX12_remember ∈ xT := xin 1817 (by decide +kernel) rfl
section XN_X12_take
variable {p : Program} {l : Launch} {e : Env} {R : Room} {s : State} {m : MethodId} {args : Array Value} {below : List Frame} {meth : Method} {c : Code} {H H0 : Heap} {locs : List Loc} {cells slots : Nat} {Q : State → Prop} {cc : ByteArray} {nL pc : Nat} {rt : Option FieldType} {ls : Array Slot} {rest : List Value} {D : xD} {ty : xTy} {h : xH}
theorem cl_X12_358 {v0 : Nat} {r : Int32} (C0 : xC D RX12 cc nL rt p s m args meth c) (hR : xRep D ty h H) (hS : xS ty H0 H locs) (hF : jf_X12_nodesAll ty h v0 = some r) (t_v0 : ty v0 = some (0, 12)) (hrm : jr_X12_nodesAll.frames + 1 ≤ R.frames ∧ 8 + (3 + 11) + jr_X12_nodesAll.locals ≤ R.locals) (hsz : ls.size = nL) (hW : (rest.map fun v => v.category).sum ≤ 8) (hf : cells ≤ R.cells ∧ slots ≤ R.slots) (hdg : decode cc pc = .ok (.invokevirtual 358, 3)) (kk : ∀ (H1 : Heap) (locs1 : List Loc), xRep D ty h H1 → xS ty H0 H1 locs1 → W p l e R s m args below meth c H1 locs1 cells slots Q (F0 m (pc + 3) ls (.int r :: rest))) : W p l e R s m args below meth c H locs cells slots Q (F0 m pc ls (.ref v0 :: rest)) := x_callV C0 (jc_X12_nodesAll t_v0 hF) xm_X12_nodesAll xi_X12_nodesAll xe_X12_nodesAll wl_X12_358 ⟨rfl, rfl, hrm⟩ (ci := 12) rfl t_v0 hR hS (As := []) rfl hsz rfl hW hdg hf kk
theorem cl_X12_361 {v0 : Nat} {h9 : xH} (C0 : xC D RX12 cc nL rt p s m args meth c) (hR : xRep D ty h H) (hS : xS ty H0 H locs) (hF : jf_X12_remember ty h v0 = some h9) (t_v0 : ty v0 = some (0, 12)) (hrm : jr_X12_remember.frames + 1 ≤ R.frames ∧ 8 + (2 + 11) + jr_X12_remember.locals ≤ R.locals) (hsz : ls.size = nL) (hW : (rest.map fun v => v.category).sum ≤ 8) (hf : cells ≤ R.cells ∧ slots ≤ R.slots) (hdg : decode cc pc = .ok (.invokevirtual 361, 3)) (kk : ∀ (H1 : Heap) (locs1 : List Loc), xRep D ty h9 H1 → xS ty H0 H1 locs1 → W p l e R s m args below meth c H1 locs1 cells slots Q (F0 m (pc + 3) ls rest)) : W p l e R s m args below meth c H locs cells slots Q (F0 m pc ls (.ref v0 :: rest)) := x_callV C0 (jc_X12_remember t_v0 hF) xm_X12_remember xi_X12_remember xe_X12_remember wl_X12_361 ⟨rfl, rfl, hrm⟩ (ci := 12) rfl t_v0 hR hS (As := []) rfl hsz rfl hW hdg hf kk
end XN_X12_take
set_option maxHeartbeats 4000000 in
set_option maxRecDepth 100000 in
theorem jc_X12_take {l : Launch} {D : xD} {ty : xTy} {h : xH} {v0 : Nat} {v1 : Int32} {r : Int32} {h9 : xH} (t_v0 : ty v0 = some (0, 12)) (hF : jf_X12_take ty h v0 v1 = some (r, h9)) : Met l yX12_take (xws yX12_take cX12_take 3 (some .int)) jr_X12_take (xPc D ty h [.ref v0, .int v1]) (xQ D ty (some (.int r)) h9) 0 0 (xdom ty) := by
  refine x_met (by decide) ?_
  intro p e s m below meth c C0 hR
  generalize hargs : ([.ref v0, .int v1] : List Value).toArray = args at C0 ⊢
  have hx := C0.1
  have hb := C0.2.1
  have hown := C0.2.2.2.2.2.1
  have hts := C0.2.2.2.2.2.2.1
  have hS : xS ty s.heap s.heap [] := xS.rf
  have hl := lv_entry ([.ref v0, .int v1]) (n := 3) (Nat.le_of_ble_eq_true rfl)
  rw [← hargs, lg_entry_eq]
  rw [hargs]
  generalize (lg_sl ([.ref v0, .int v1]) ++ List.replicate (3 - (lg_sl ([.ref v0, .int v1])).length) Slot.unset).toArray = ls at hl ⊢
  have hl : lv_has ls 3 [(0, .ref v0), (1, .int v1)] := hl
  unfold jf_X12_take at hF
  refine lv_aload_n hx hb dX12_take_0 rfl (lv_at hl 0 rfl) ?_
  refine lv_iconst (v := 0) hx hb dX12_take_1 (by decide) ?_
  obtain ⟨h1, e_h1, hF⟩ := xbd hF
  refine pf_X12_101 C0 hR hS t_v0 dX12_take_2 (fun H locs hR hS => ?_)
  rw [Option.some.inj e_h1] at hR
  refine lv_aload_n hx hb dX12_take_5 rfl (lv_at hl 0 rfl) ?_
  refine lv_iload_n hx hb dX12_take_6 rfl (lv_at hl 1 rfl) ?_
  obtain ⟨a2, e_a2, hF⟩ := xbd hF
  refine cl_X12_282 C0 hR hS e_a2 t_v0 ⟨(Nat.le_of_ble_eq_true rfl), (Nat.le_of_ble_eq_true rfl)⟩ hl.1 (Nat.le_of_ble_eq_true rfl) ⟨(Nat.le_of_ble_eq_true rfl), (Nat.le_of_ble_eq_true rfl)⟩ dX12_take_7 (fun H locs hR hS => ?_)
  refine lv_if_ne (tgt := 15) hx hb dX12_take_10 (by decide) (fun c3 => ?_) (fun c3 => ?_)
  · have hF := xel hF c3
    refine lv_aload_n hx hb dX12_take_15 rfl (lv_at hl 0 rfl) ?_
    refine lv_iload_n hx hb dX12_take_16 rfl (lv_at hl 1 rfl) ?_
    obtain ⟨a4, e_a4, hF⟩ := xbd hF
    refine cl_X12_285 C0 hR hS e_a4 t_v0 ⟨(Nat.le_of_ble_eq_true rfl), (Nat.le_of_ble_eq_true rfl)⟩ hl.1 (Nat.le_of_ble_eq_true rfl) ⟨(Nat.le_of_ble_eq_true rfl), (Nat.le_of_ble_eq_true rfl)⟩ dX12_take_17 (fun H locs hR hS => ?_)
    refine lv_if_ne (tgt := 26) hx hb dX12_take_20 (by decide) (fun c5 => ?_) (fun c5 => ?_)
    · have hF := xel hF c5
      refine lv_aload_n hx hb dX12_take_26 rfl (lv_at hl 0 rfl) ?_
      obtain ⟨a6, e_a6, hF⟩ := xbd hF
      refine cl_X12_358 C0 hR hS e_a6 t_v0 ⟨(Nat.le_of_ble_eq_true rfl), (Nat.le_of_ble_eq_true rfl)⟩ hl.1 (Nat.le_of_ble_eq_true rfl) ⟨(Nat.le_of_ble_eq_true rfl), (Nat.le_of_ble_eq_true rfl)⟩ dX12_take_27 (fun H locs hR hS => ?_)
      refine lv_istore_n (lv' := [(2, .int a6), (0, .ref v0), (1, .int v1)]) hx hb dX12_take_30 rfl hl (by decide) rfl (fun ls hl => ?_)
      refine lv_aload_n hx hb dX12_take_31 rfl (lv_at hl 1 rfl) ?_
      obtain ⟨h7, e_h7, hF⟩ := xbd hF
      refine cl_X12_361 C0 hR hS e_h7 t_v0 ⟨(Nat.le_of_ble_eq_true rfl), (Nat.le_of_ble_eq_true rfl)⟩ hl.1 (Nat.le_of_ble_eq_true rfl) ⟨(Nat.le_of_ble_eq_true rfl), (Nat.le_of_ble_eq_true rfl)⟩ dX12_take_32 (fun H locs hR hS => ?_)
      refine lv_aload_n hx hb dX12_take_35 rfl (lv_at hl 1 rfl) ?_
      refine lv_dup hx hb dX12_take_36 rfl ?_
      refine gf_X12_185 C0 hR t_v0 dX12_take_37 ?_
      refine lv_iconst (v := 1) hx hb dX12_take_40 (by decide) ?_
      refine lv_iload_n hx hb dX12_take_41 rfl (lv_at hl 2 rfl) ?_
      refine lv_ishl hx hb dX12_take_42 ?_
      refine lv_iconst (v := (-1)) hx hb dX12_take_43 (by decide) ?_
      refine lv_ixor hx hb dX12_take_44 ?_
      refine lv_iand hx hb dX12_take_45 ?_
      obtain ⟨h8, e_h8, hF⟩ := xbd hF
      refine pf_X12_185 C0 hR hS t_v0 dX12_take_46 (fun H locs hR hS => ?_)
      rw [Option.some.inj e_h8] at hR
      refine lv_iload_n hx hb dX12_take_49 rfl (lv_at hl 0 rfl) ?_
      refine lv_aload_n hx hb dX12_take_50 rfl (lv_at hl 1 rfl) ?_
      obtain ⟨a9, e_a9, hF⟩ := xbd hF
      refine cl_X12_358 C0 hR hS e_a9 t_v0 ⟨(Nat.le_of_ble_eq_true rfl), (Nat.le_of_ble_eq_true rfl)⟩ hl.1 (Nat.le_of_ble_eq_true rfl) ⟨(Nat.le_of_ble_eq_true rfl), (Nat.le_of_ble_eq_true rfl)⟩ dX12_take_51 (fun H locs hR hS => ?_)
      refine lv_isub hx hb dX12_take_54 ?_
      cases hF
      exact x_iret C0 hR hS dX12_take_55
    · have hF := xif hF c5
      refine lv_bipush (v := (-2)) hx hb dX12_take_23 (by decide) ?_
      cases hF
      exact x_iret C0 hR hS dX12_take_25
  · have hF := xif hF c3
    refine lv_iconst (v := (-1)) hx hb dX12_take_13 (by decide) ?_
    cases hF
    exact x_iret C0 hR hS dX12_take_14
theorem xm_X12_take : xMw yX12_take cX12_take 3 (some .int) 1 := ⟨xin 1808 (by decide +kernel) rfl, xin 126 (by decide +kernel) rfl, by decide +kernel⟩
theorem xi_X12_take : Cond.instanceMethod yX12_take ∈ xT := xin 1806 (by decide +kernel) rfl
theorem xe_X12_take : Cond.selects yX12_take.cls yX12_take yX12_take ∈ xT := xin 1807 (by decide +kernel) rfl
theorem dX12_put_0 : decode cX12_put 0 = .ok (.aload_n 0, 1) := by decide +kernel
theorem dX12_put_1 : decode cX12_put 1 = .ok (.iconst 0, 1) := by decide +kernel
theorem dX12_put_2 : decode cX12_put 2 = .ok (.putfield 101, 3) := by decide +kernel
theorem dX12_put_5 : decode cX12_put 5 = .ok (.aload_n 0, 1) := by decide +kernel
theorem dX12_put_6 : decode cX12_put 6 = .ok (.iload_n 1, 1) := by decide +kernel
theorem dX12_put_7 : decode cX12_put 7 = .ok (.invokevirtual 282, 3) := by decide +kernel
theorem dX12_put_10 : decode cX12_put 10 = .ok (.ifCond .ne 5, 3) := by decide +kernel
theorem dX12_put_13 : decode cX12_put 13 = .ok (.iconst (-1), 1) := by decide +kernel
theorem dX12_put_14 : decode cX12_put 14 = .ok (.ireturn, 1) := by decide +kernel
theorem dX12_put_15 : decode cX12_put 15 = .ok (.aload_n 0, 1) := by decide +kernel
theorem dX12_put_16 : decode cX12_put 16 = .ok (.iload_n 1, 1) := by decide +kernel
theorem dX12_put_17 : decode cX12_put 17 = .ok (.invokevirtual 285, 3) := by decide +kernel
theorem dX12_put_20 : decode cX12_put 20 = .ok (.ifCond .eq 6, 3) := by decide +kernel
theorem dX12_put_23 : decode cX12_put 23 = .ok (.bipush (-2), 2) := by decide +kernel
theorem dX12_put_25 : decode cX12_put 25 = .ok (.ireturn, 1) := by decide +kernel
theorem dX12_put_26 : decode cX12_put 26 = .ok (.aload_n 0, 1) := by decide +kernel
theorem dX12_put_27 : decode cX12_put 27 = .ok (.invokevirtual 358, 3) := by decide +kernel
theorem dX12_put_30 : decode cX12_put 30 = .ok (.istore_n 2, 1) := by decide +kernel
theorem dX12_put_31 : decode cX12_put 31 = .ok (.aload_n 0, 1) := by decide +kernel
theorem dX12_put_32 : decode cX12_put 32 = .ok (.invokevirtual 361, 3) := by decide +kernel
theorem dX12_put_35 : decode cX12_put 35 = .ok (.aload_n 0, 1) := by decide +kernel
theorem dX12_put_36 : decode cX12_put 36 = .ok (.dup, 1) := by decide +kernel
theorem dX12_put_37 : decode cX12_put 37 = .ok (.getfield 185, 3) := by decide +kernel
theorem dX12_put_40 : decode cX12_put 40 = .ok (.iconst 1, 1) := by decide +kernel
theorem dX12_put_41 : decode cX12_put 41 = .ok (.iload_n 1, 1) := by decide +kernel
theorem dX12_put_42 : decode cX12_put 42 = .ok (.ishl, 1) := by decide +kernel
theorem dX12_put_43 : decode cX12_put 43 = .ok (.ior, 1) := by decide +kernel
theorem dX12_put_44 : decode cX12_put 44 = .ok (.putfield 185, 3) := by decide +kernel
theorem dX12_put_47 : decode cX12_put 47 = .ok (.aload_n 0, 1) := by decide +kernel
theorem dX12_put_48 : decode cX12_put 48 = .ok (.invokevirtual 358, 3) := by decide +kernel
theorem dX12_put_51 : decode cX12_put 51 = .ok (.iload_n 2, 1) := by decide +kernel
theorem dX12_put_52 : decode cX12_put 52 = .ok (.isub, 1) := by decide +kernel
theorem dX12_put_53 : decode cX12_put 53 = .ok (.ireturn, 1) := by decide +kernel
set_option maxHeartbeats 4000000 in
set_option maxRecDepth 100000 in
theorem jc_X12_put {l : Launch} {D : xD} {ty : xTy} {h : xH} {v0 : Nat} {v1 : Int32} {r : Int32} {h9 : xH} (t_v0 : ty v0 = some (0, 12)) (hF : jf_X12_put ty h v0 v1 = some (r, h9)) : Met l yX12_put (xws yX12_put cX12_put 3 (some .int)) jr_X12_put (xPc D ty h [.ref v0, .int v1]) (xQ D ty (some (.int r)) h9) 0 0 (xdom ty) := by
  refine x_met (by decide) ?_
  intro p e s m below meth c C0 hR
  generalize hargs : ([.ref v0, .int v1] : List Value).toArray = args at C0 ⊢
  have hx := C0.1
  have hb := C0.2.1
  have hown := C0.2.2.2.2.2.1
  have hts := C0.2.2.2.2.2.2.1
  have hS : xS ty s.heap s.heap [] := xS.rf
  have hl := lv_entry ([.ref v0, .int v1]) (n := 3) (Nat.le_of_ble_eq_true rfl)
  rw [← hargs, lg_entry_eq]
  rw [hargs]
  generalize (lg_sl ([.ref v0, .int v1]) ++ List.replicate (3 - (lg_sl ([.ref v0, .int v1])).length) Slot.unset).toArray = ls at hl ⊢
  have hl : lv_has ls 3 [(0, .ref v0), (1, .int v1)] := hl
  unfold jf_X12_put at hF
  refine lv_aload_n hx hb dX12_put_0 rfl (lv_at hl 0 rfl) ?_
  refine lv_iconst (v := 0) hx hb dX12_put_1 (by decide) ?_
  obtain ⟨h1, e_h1, hF⟩ := xbd hF
  refine pf_X12_101 C0 hR hS t_v0 dX12_put_2 (fun H locs hR hS => ?_)
  rw [Option.some.inj e_h1] at hR
  refine lv_aload_n hx hb dX12_put_5 rfl (lv_at hl 0 rfl) ?_
  refine lv_iload_n hx hb dX12_put_6 rfl (lv_at hl 1 rfl) ?_
  obtain ⟨a2, e_a2, hF⟩ := xbd hF
  refine cl_X12_282 C0 hR hS e_a2 t_v0 ⟨(Nat.le_of_ble_eq_true rfl), (Nat.le_of_ble_eq_true rfl)⟩ hl.1 (Nat.le_of_ble_eq_true rfl) ⟨(Nat.le_of_ble_eq_true rfl), (Nat.le_of_ble_eq_true rfl)⟩ dX12_put_7 (fun H locs hR hS => ?_)
  refine lv_if_ne (tgt := 15) hx hb dX12_put_10 (by decide) (fun c3 => ?_) (fun c3 => ?_)
  · have hF := xel hF c3
    refine lv_aload_n hx hb dX12_put_15 rfl (lv_at hl 0 rfl) ?_
    refine lv_iload_n hx hb dX12_put_16 rfl (lv_at hl 1 rfl) ?_
    obtain ⟨a4, e_a4, hF⟩ := xbd hF
    refine cl_X12_285 C0 hR hS e_a4 t_v0 ⟨(Nat.le_of_ble_eq_true rfl), (Nat.le_of_ble_eq_true rfl)⟩ hl.1 (Nat.le_of_ble_eq_true rfl) ⟨(Nat.le_of_ble_eq_true rfl), (Nat.le_of_ble_eq_true rfl)⟩ dX12_put_17 (fun H locs hR hS => ?_)
    refine lv_if_eq (tgt := 26) hx hb dX12_put_20 (by decide) (fun c5 => ?_) (fun c5 => ?_)
    · have hF := xif hF c5
      refine lv_aload_n hx hb dX12_put_26 rfl (lv_at hl 0 rfl) ?_
      obtain ⟨a6, e_a6, hF⟩ := xbd hF
      refine cl_X12_358 C0 hR hS e_a6 t_v0 ⟨(Nat.le_of_ble_eq_true rfl), (Nat.le_of_ble_eq_true rfl)⟩ hl.1 (Nat.le_of_ble_eq_true rfl) ⟨(Nat.le_of_ble_eq_true rfl), (Nat.le_of_ble_eq_true rfl)⟩ dX12_put_27 (fun H locs hR hS => ?_)
      refine lv_istore_n (lv' := [(2, .int a6), (0, .ref v0), (1, .int v1)]) hx hb dX12_put_30 rfl hl (by decide) rfl (fun ls hl => ?_)
      refine lv_aload_n hx hb dX12_put_31 rfl (lv_at hl 1 rfl) ?_
      obtain ⟨h7, e_h7, hF⟩ := xbd hF
      refine cl_X12_361 C0 hR hS e_h7 t_v0 ⟨(Nat.le_of_ble_eq_true rfl), (Nat.le_of_ble_eq_true rfl)⟩ hl.1 (Nat.le_of_ble_eq_true rfl) ⟨(Nat.le_of_ble_eq_true rfl), (Nat.le_of_ble_eq_true rfl)⟩ dX12_put_32 (fun H locs hR hS => ?_)
      refine lv_aload_n hx hb dX12_put_35 rfl (lv_at hl 1 rfl) ?_
      refine lv_dup hx hb dX12_put_36 rfl ?_
      refine gf_X12_185 C0 hR t_v0 dX12_put_37 ?_
      refine lv_iconst (v := 1) hx hb dX12_put_40 (by decide) ?_
      refine lv_iload_n hx hb dX12_put_41 rfl (lv_at hl 2 rfl) ?_
      refine lv_ishl hx hb dX12_put_42 ?_
      refine lv_ior hx hb dX12_put_43 ?_
      obtain ⟨h8, e_h8, hF⟩ := xbd hF
      refine pf_X12_185 C0 hR hS t_v0 dX12_put_44 (fun H locs hR hS => ?_)
      rw [Option.some.inj e_h8] at hR
      refine lv_aload_n hx hb dX12_put_47 rfl (lv_at hl 1 rfl) ?_
      obtain ⟨a9, e_a9, hF⟩ := xbd hF
      refine cl_X12_358 C0 hR hS e_a9 t_v0 ⟨(Nat.le_of_ble_eq_true rfl), (Nat.le_of_ble_eq_true rfl)⟩ hl.1 (Nat.le_of_ble_eq_true rfl) ⟨(Nat.le_of_ble_eq_true rfl), (Nat.le_of_ble_eq_true rfl)⟩ dX12_put_48 (fun H locs hR hS => ?_)
      refine lv_iload_n hx hb dX12_put_51 rfl (lv_at hl 0 rfl) ?_
      refine lv_isub hx hb dX12_put_52 ?_
      cases hF
      exact x_iret C0 hR hS dX12_put_53
    · have hF := xel hF c5
      refine lv_bipush (v := (-2)) hx hb dX12_put_23 (by decide) ?_
      cases hF
      exact x_iret C0 hR hS dX12_put_25
  · have hF := xif hF c3
    refine lv_iconst (v := (-1)) hx hb dX12_put_13 (by decide) ?_
    cases hF
    exact x_iret C0 hR hS dX12_put_14
theorem xm_X12_put : xMw yX12_put cX12_put 3 (some .int) 1 := ⟨xin 1824 (by decide +kernel) rfl, xin 126 (by decide +kernel) rfl, by decide +kernel⟩
theorem xi_X12_put : Cond.instanceMethod yX12_put ∈ xT := xin 1822 (by decide +kernel) rfl
theorem xe_X12_put : Cond.selects yX12_put.cls yX12_put yX12_put ∈ xT := xin 1823 (by decide +kernel) rfl
theorem dX12_order_0 : decode cX12_order 0 = .ok (.aload_n 0, 1) := by decide +kernel
theorem dX12_order_1 : decode cX12_order 1 = .ok (.iconst 0, 1) := by decide +kernel
theorem dX12_order_2 : decode cX12_order 2 = .ok (.putfield 101, 3) := by decide +kernel
theorem dX12_order_5 : decode cX12_order 5 = .ok (.iload_n 1, 1) := by decide +kernel
theorem dX12_order_6 : decode cX12_order 6 = .ok (.ifCond .ge 5, 3) := by decide +kernel
theorem dX12_order_9 : decode cX12_order 9 = .ok (.iconst (-1), 1) := by decide +kernel
theorem dX12_order_10 : decode cX12_order 10 = .ok (.ireturn, 1) := by decide +kernel
theorem dX12_order_11 : decode cX12_order 11 = .ok (.iconst 0, 1) := by decide +kernel
theorem dX12_order_12 : decode cX12_order 12 = .ok (.istore_n 2, 1) := by decide +kernel
theorem dX12_order_13 : decode cX12_order 13 = .ok (.iload_n 2, 1) := by decide +kernel
theorem dX12_order_14 : decode cX12_order 14 = .ok (.aload_n 0, 1) := by decide +kernel
theorem dX12_order_15 : decode cX12_order 15 = .ok (.getfield 178, 3) := by decide +kernel
theorem dX12_order_18 : decode cX12_order 18 = .ok (.if_icmp .ge 28, 3) := by decide +kernel
theorem dX12_order_21 : decode cX12_order 21 = .ok (.aload_n 0, 1) := by decide +kernel
theorem dX12_order_22 : decode cX12_order 22 = .ok (.iload_n 2, 1) := by decide +kernel
theorem dX12_order_23 : decode cX12_order 23 = .ok (.invokevirtual 285, 3) := by decide +kernel
theorem dX12_order_26 : decode cX12_order 26 = .ok (.ifCond .eq 14, 3) := by decide +kernel
theorem dX12_order_29 : decode cX12_order 29 = .ok (.aload_n 0, 1) := by decide +kernel
theorem dX12_order_30 : decode cX12_order 30 = .ok (.iload_n 2, 1) := by decide +kernel
theorem dX12_order_31 : decode cX12_order 31 = .ok (.invokevirtual 322, 3) := by decide +kernel
theorem dX12_order_34 : decode cX12_order 34 = .ok (.iload_n 1, 1) := by decide +kernel
theorem dX12_order_35 : decode cX12_order 35 = .ok (.if_icmp .ne 5, 3) := by decide +kernel
theorem dX12_order_38 : decode cX12_order 38 = .ok (.iload_n 2, 1) := by decide +kernel
theorem dX12_order_39 : decode cX12_order 39 = .ok (.ireturn, 1) := by decide +kernel
theorem dX12_order_40 : decode cX12_order 40 = .ok (.iinc 2 1, 3) := by decide +kernel
theorem dX12_order_43 : decode cX12_order 43 = .ok (.goto (-30), 3) := by decide +kernel
theorem dX12_order_46 : decode cX12_order 46 = .ok (.bipush (-2), 2) := by decide +kernel
theorem dX12_order_48 : decode cX12_order 48 = .ok (.ireturn, 1) := by decide +kernel
set_option maxHeartbeats 4000000 in
set_option maxRecDepth 100000 in
theorem jw_X12_order_13 {p : Program} {l : Launch} {e : Env} {s : State} {m : MethodId} {args : Array Value} {below : List Frame} {meth : Method} {c : Code} {D : xD} {ty : xTy} (C0 : xC D RX12 cX12_order 3 (some .int) p s m args meth c) {r : Int32} {h9 : xH} : ∀ n : Nat, ∀ (v0 : Nat) (v1 : Int32) (v2 : Int32) (h : xH), ty v0 = some (0, 12) → jf_X12_order_13 ty n v0 v1 v2 h = some (r, h9) → ∀ (H : Heap) (locs : List Loc), xRep D ty h H → xS ty s.heap H locs → ∀ ls : Array Slot, lv_has ls 3 [(0, .ref v0), (1, .int v1), (2, .int v2)] → W p l e jr_X12_order s m args below meth c H locs 0 0 (MQ below (xQ D ty (some (.int r)) h9) args s 0 0 (xdom ty)) (F0 m 13 ls []) := by
  have hx := C0.1
  have hb := C0.2.1
  have hown := C0.2.2.2.2.2.1
  have hts := C0.2.2.2.2.2.2.1
  intro n
  induction n with
  | zero =>
    intro v0 v1 v2 h t_v0 hF H locs hR hS ls hl
    cases hF
  | succ n ih =>
    intro v0 v1 v2 h t_v0 hF H locs hR hS ls hl
    rw [jf_X12_order_13_s] at hF
    refine lv_iload_n hx hb dX12_order_13 rfl (lv_at hl 2 rfl) ?_
    refine lv_aload_n hx hb dX12_order_14 rfl (lv_at hl 0 rfl) ?_
    refine gf_X12_178 C0 hR t_v0 dX12_order_15 ?_
    refine lv_icmp_ge (tgt := 46) hx hb dX12_order_18 (by decide) (fun c1 => ?_) (fun c1 => ?_)
    · have hF := xif hF c1
      refine lv_bipush (v := (-2)) hx hb dX12_order_46 (by decide) ?_
      cases hF
      exact x_iret C0 hR hS dX12_order_48
    · have hF := xel hF c1
      refine lv_aload_n hx hb dX12_order_21 rfl (lv_at hl 0 rfl) ?_
      refine lv_iload_n hx hb dX12_order_22 rfl (lv_at hl 2 rfl) ?_
      obtain ⟨a2, e_a2, hF⟩ := xbd hF
      refine cl_X12_285 C0 hR hS e_a2 t_v0 ⟨(Nat.le_of_ble_eq_true rfl), (Nat.le_of_ble_eq_true rfl)⟩ hl.1 (Nat.le_of_ble_eq_true rfl) ⟨(Nat.le_of_ble_eq_true rfl), (Nat.le_of_ble_eq_true rfl)⟩ dX12_order_23 (fun H locs hR hS => ?_)
      refine lv_if_eq (tgt := 40) hx hb dX12_order_26 (by decide) (fun c3 => ?_) (fun c3 => ?_)
      · have hF := xif hF c3
        refine lv_iinc (v := v2 + 1) (lv' := [(2, .int (v2 + 1)), (0, .ref v0), (1, .int v1)]) hx hb dX12_order_40 hl (k := 2) rfl rfl (by decide) rfl (fun ls hl => ?_)
        refine lv_goto (tgt := 13) hx hb dX12_order_43 (by decide) ?_
        exact ih _ _ _ _ t_v0 hF _ _ hR hS _ (lv_sub hl [1, 2, 0] rfl)
      · have hF := xel hF c3
        refine lv_aload_n hx hb dX12_order_29 rfl (lv_at hl 0 rfl) ?_
        refine lv_iload_n hx hb dX12_order_30 rfl (lv_at hl 2 rfl) ?_
        obtain ⟨a4, e_a4, hF⟩ := xbd hF
        refine cl_X12_322 C0 hR hS e_a4 t_v0 ⟨(Nat.le_of_ble_eq_true rfl), (Nat.le_of_ble_eq_true rfl)⟩ hl.1 (Nat.le_of_ble_eq_true rfl) ⟨(Nat.le_of_ble_eq_true rfl), (Nat.le_of_ble_eq_true rfl)⟩ dX12_order_31 (fun H locs hR hS => ?_)
        refine lv_iload_n hx hb dX12_order_34 rfl (lv_at hl 1 rfl) ?_
        refine lv_icmp_ne (tgt := 40) hx hb dX12_order_35 (by decide) (fun c5 => ?_) (fun c5 => ?_)
        · have hF := xel hF c5
          refine lv_iinc (v := v2 + 1) (lv' := [(2, .int (v2 + 1)), (0, .ref v0), (1, .int v1)]) hx hb dX12_order_40 hl (k := 2) rfl rfl (by decide) rfl (fun ls hl => ?_)
          refine lv_goto (tgt := 13) hx hb dX12_order_43 (by decide) ?_
          exact ih _ _ _ _ t_v0 hF _ _ hR hS _ (lv_sub hl [1, 2, 0] rfl)
        · have hF := xif hF c5
          refine lv_iload_n hx hb dX12_order_38 rfl (lv_at hl 2 rfl) ?_
          cases hF
          exact x_iret C0 hR hS dX12_order_39
set_option maxHeartbeats 4000000 in
set_option maxRecDepth 100000 in
theorem jc_X12_order {l : Launch} {D : xD} {ty : xTy} {h : xH} {v0 : Nat} {v1 : Int32} {r : Int32} {h9 : xH} (t_v0 : ty v0 = some (0, 12)) (hF : jf_X12_order ty h v0 v1 = some (r, h9)) : Met l yX12_order (xws yX12_order cX12_order 3 (some .int)) jr_X12_order (xPc D ty h [.ref v0, .int v1]) (xQ D ty (some (.int r)) h9) 0 0 (xdom ty) := by
  refine x_met (by decide) ?_
  intro p e s m below meth c C0 hR
  generalize hargs : ([.ref v0, .int v1] : List Value).toArray = args at C0 ⊢
  have hx := C0.1
  have hb := C0.2.1
  have hown := C0.2.2.2.2.2.1
  have hts := C0.2.2.2.2.2.2.1
  have hS : xS ty s.heap s.heap [] := xS.rf
  have hl := lv_entry ([.ref v0, .int v1]) (n := 3) (Nat.le_of_ble_eq_true rfl)
  rw [← hargs, lg_entry_eq]
  rw [hargs]
  generalize (lg_sl ([.ref v0, .int v1]) ++ List.replicate (3 - (lg_sl ([.ref v0, .int v1])).length) Slot.unset).toArray = ls at hl ⊢
  have hl : lv_has ls 3 [(0, .ref v0), (1, .int v1)] := hl
  unfold jf_X12_order at hF
  refine lv_aload_n hx hb dX12_order_0 rfl (lv_at hl 0 rfl) ?_
  refine lv_iconst (v := 0) hx hb dX12_order_1 (by decide) ?_
  obtain ⟨h6, e_h6, hF⟩ := xbd hF
  refine pf_X12_101 C0 hR hS t_v0 dX12_order_2 (fun H locs hR hS => ?_)
  rw [Option.some.inj e_h6] at hR
  refine lv_iload_n hx hb dX12_order_5 rfl (lv_at hl 1 rfl) ?_
  refine lv_if_ge (tgt := 11) hx hb dX12_order_6 (by decide) (fun c7 => ?_) (fun c7 => ?_)
  · have hF := xif hF c7
    refine lv_iconst (v := 0) hx hb dX12_order_11 (by decide) ?_
    refine lv_istore_n (lv' := [(2, .int 0), (0, .ref v0), (1, .int v1)]) hx hb dX12_order_12 rfl hl (by decide) rfl (fun ls hl => ?_)
    obtain ⟨_, hF⟩ := xlim_sp hF
    exact jw_X12_order_13 C0 _ _ _ _ _ t_v0 hF _ _ hR hS _ (lv_sub hl [1, 2, 0] rfl)
  · have hF := xel hF c7
    refine lv_iconst (v := (-1)) hx hb dX12_order_9 (by decide) ?_
    cases hF
    exact x_iret C0 hR hS dX12_order_10
theorem xm_X12_order : xMw yX12_order cX12_order 3 (some .int) 1 := ⟨xin 1828 (by decide +kernel) rfl, xin 126 (by decide +kernel) rfl, by decide +kernel⟩
theorem xi_X12_order : Cond.instanceMethod yX12_order ∈ xT := xin 1826 (by decide +kernel) rfl
theorem xe_X12_order : Cond.selects yX12_order.cls yX12_order yX12_order ∈ xT := xin 1827 (by decide +kernel) rfl
theorem dX12_isNewIn_0 : decode cX12_isNewIn 0 = .ok (.iconst 0, 1) := by decide +kernel
theorem dX12_isNewIn_1 : decode cX12_isNewIn 1 = .ok (.istore_n 3, 1) := by decide +kernel
theorem dX12_isNewIn_2 : decode cX12_isNewIn 2 = .ok (.iload_n 3, 1) := by decide +kernel
theorem dX12_isNewIn_3 : decode cX12_isNewIn 3 = .ok (.aload_n 0, 1) := by decide +kernel
theorem dX12_isNewIn_4 : decode cX12_isNewIn 4 = .ok (.getfield 178, 3) := by decide +kernel
theorem dX12_isNewIn_7 : decode cX12_isNewIn 7 = .ok (.if_icmp .ge 43, 3) := by decide +kernel
theorem dX12_isNewIn_10 : decode cX12_isNewIn 10 = .ok (.iload_n 3, 1) := by decide +kernel
theorem dX12_isNewIn_11 : decode cX12_isNewIn 11 = .ok (.iload_n 1, 1) := by decide +kernel
theorem dX12_isNewIn_12 : decode cX12_isNewIn 12 = .ok (.if_icmp .eq 32, 3) := by decide +kernel
theorem dX12_isNewIn_15 : decode cX12_isNewIn 15 = .ok (.aload_n 0, 1) := by decide +kernel
theorem dX12_isNewIn_16 : decode cX12_isNewIn 16 = .ok (.iload_n 3, 1) := by decide +kernel
theorem dX12_isNewIn_17 : decode cX12_isNewIn 17 = .ok (.invokevirtual 285, 3) := by decide +kernel
theorem dX12_isNewIn_20 : decode cX12_isNewIn 20 = .ok (.ifCond .eq 24, 3) := by decide +kernel
theorem dX12_isNewIn_23 : decode cX12_isNewIn 23 = .ok (.aload_n 0, 1) := by decide +kernel
theorem dX12_isNewIn_24 : decode cX12_isNewIn 24 = .ok (.iload_n 3, 1) := by decide +kernel
theorem dX12_isNewIn_25 : decode cX12_isNewIn 25 = .ok (.iload_n 1, 1) := by decide +kernel
theorem dX12_isNewIn_26 : decode cX12_isNewIn 26 = .ok (.invokevirtual 300, 3) := by decide +kernel
theorem dX12_isNewIn_29 : decode cX12_isNewIn 29 = .ok (.ifCond .eq 15, 3) := by decide +kernel
theorem dX12_isNewIn_32 : decode cX12_isNewIn 32 = .ok (.aload_n 0, 1) := by decide +kernel
theorem dX12_isNewIn_33 : decode cX12_isNewIn 33 = .ok (.iload_n 3, 1) := by decide +kernel
theorem dX12_isNewIn_34 : decode cX12_isNewIn 34 = .ok (.iload_n 1, 1) := by decide +kernel
theorem dX12_isNewIn_35 : decode cX12_isNewIn 35 = .ok (.invokevirtual 294, 3) := by decide +kernel
theorem dX12_isNewIn_38 : decode cX12_isNewIn 38 = .ok (.iload_n 2, 1) := by decide +kernel
theorem dX12_isNewIn_39 : decode cX12_isNewIn 39 = .ok (.if_icmp .lt 5, 3) := by decide +kernel
theorem dX12_isNewIn_42 : decode cX12_isNewIn 42 = .ok (.iconst 0, 1) := by decide +kernel
theorem dX12_isNewIn_43 : decode cX12_isNewIn 43 = .ok (.ireturn, 1) := by decide +kernel
theorem dX12_isNewIn_44 : decode cX12_isNewIn 44 = .ok (.iinc 3 1, 3) := by decide +kernel
theorem dX12_isNewIn_47 : decode cX12_isNewIn 47 = .ok (.goto (-45), 3) := by decide +kernel
theorem dX12_isNewIn_50 : decode cX12_isNewIn 50 = .ok (.iconst 1, 1) := by decide +kernel
theorem dX12_isNewIn_51 : decode cX12_isNewIn 51 = .ok (.ireturn, 1) := by decide +kernel
set_option maxHeartbeats 4000000 in
set_option maxRecDepth 100000 in
theorem jw_X12_isNewIn_2 {p : Program} {l : Launch} {e : Env} {s : State} {m : MethodId} {args : Array Value} {below : List Frame} {meth : Method} {c : Code} {D : xD} {ty : xTy} {h : xH} (C0 : xC D RX12 cX12_isNewIn 4 (some .boolean) p s m args meth c) {r : Int32} : ∀ n : Nat, ∀ (v0 : Nat) (v1 : Int32) (v2 : Int32) (v3 : Int32), ty v0 = some (0, 12) → jf_X12_isNewIn_2 ty h n v0 v1 v2 v3 = some r → ∀ (H : Heap) (locs : List Loc), xRep D ty h H → xS ty s.heap H locs → ∀ ls : Array Slot, lv_has ls 4 [(0, .ref v0), (1, .int v1), (2, .int v2), (3, .int v3)] → W p l e jr_X12_isNewIn s m args below meth c H locs 0 0 (MQ below (xQ D ty (some (.int r)) h) args s 0 0 (xdom ty)) (F0 m 2 ls []) := by
  have hx := C0.1
  have hb := C0.2.1
  have hown := C0.2.2.2.2.2.1
  have hts := C0.2.2.2.2.2.2.1
  intro n
  induction n with
  | zero =>
    intro v0 v1 v2 v3 t_v0 hF H locs hR hS ls hl
    cases hF
  | succ n ih =>
    intro v0 v1 v2 v3 t_v0 hF H locs hR hS ls hl
    rw [jf_X12_isNewIn_2_s] at hF
    refine lv_iload_n hx hb dX12_isNewIn_2 rfl (lv_at hl 3 rfl) ?_
    refine lv_aload_n hx hb dX12_isNewIn_3 rfl (lv_at hl 0 rfl) ?_
    refine gf_X12_178 C0 hR t_v0 dX12_isNewIn_4 ?_
    refine lv_icmp_ge (tgt := 50) hx hb dX12_isNewIn_7 (by decide) (fun c1 => ?_) (fun c1 => ?_)
    · have hF := xif hF c1
      refine lv_iconst (v := 1) hx hb dX12_isNewIn_50 (by decide) ?_
      cases hF
      exact x_zret (w := 1) C0 hR hS (by decide) dX12_isNewIn_51
    · have hF := xel hF c1
      refine lv_iload_n hx hb dX12_isNewIn_10 rfl (lv_at hl 3 rfl) ?_
      refine lv_iload_n hx hb dX12_isNewIn_11 rfl (lv_at hl 1 rfl) ?_
      refine lv_icmp_eq (tgt := 44) hx hb dX12_isNewIn_12 (by decide) (fun c2 => ?_) (fun c2 => ?_)
      · have hF := xif hF c2
        refine lv_iinc (v := v3 + 1) (lv' := [(3, .int (v3 + 1)), (0, .ref v0), (1, .int v1), (2, .int v2)]) hx hb dX12_isNewIn_44 hl (k := 3) rfl rfl (by decide) rfl (fun ls hl => ?_)
        refine lv_goto (tgt := 2) hx hb dX12_isNewIn_47 (by decide) ?_
        exact ih _ _ _ _ t_v0 hF _ _ hR hS _ (lv_sub hl [1, 2, 3, 0] rfl)
      · have hF := xel hF c2
        refine lv_aload_n hx hb dX12_isNewIn_15 rfl (lv_at hl 0 rfl) ?_
        refine lv_iload_n hx hb dX12_isNewIn_16 rfl (lv_at hl 3 rfl) ?_
        obtain ⟨a3, e_a3, hF⟩ := xbd hF
        refine cl_X12_285 C0 hR hS e_a3 t_v0 ⟨(Nat.le_of_ble_eq_true rfl), (Nat.le_of_ble_eq_true rfl)⟩ hl.1 (Nat.le_of_ble_eq_true rfl) ⟨(Nat.le_of_ble_eq_true rfl), (Nat.le_of_ble_eq_true rfl)⟩ dX12_isNewIn_17 (fun H locs hR hS => ?_)
        refine lv_if_eq (tgt := 44) hx hb dX12_isNewIn_20 (by decide) (fun c4 => ?_) (fun c4 => ?_)
        · have hF := xif hF c4
          refine lv_iinc (v := v3 + 1) (lv' := [(3, .int (v3 + 1)), (0, .ref v0), (1, .int v1), (2, .int v2)]) hx hb dX12_isNewIn_44 hl (k := 3) rfl rfl (by decide) rfl (fun ls hl => ?_)
          refine lv_goto (tgt := 2) hx hb dX12_isNewIn_47 (by decide) ?_
          exact ih _ _ _ _ t_v0 hF _ _ hR hS _ (lv_sub hl [1, 2, 3, 0] rfl)
        · have hF := xel hF c4
          refine lv_aload_n hx hb dX12_isNewIn_23 rfl (lv_at hl 0 rfl) ?_
          refine lv_iload_n hx hb dX12_isNewIn_24 rfl (lv_at hl 3 rfl) ?_
          refine lv_iload_n hx hb dX12_isNewIn_25 rfl (lv_at hl 1 rfl) ?_
          obtain ⟨a5, e_a5, hF⟩ := xbd hF
          refine cl_X12_300 C0 hR hS e_a5 t_v0 ⟨(Nat.le_of_ble_eq_true rfl), (Nat.le_of_ble_eq_true rfl)⟩ hl.1 (Nat.le_of_ble_eq_true rfl) ⟨(Nat.le_of_ble_eq_true rfl), (Nat.le_of_ble_eq_true rfl)⟩ dX12_isNewIn_26 (fun H locs hR hS => ?_)
          refine lv_if_eq (tgt := 44) hx hb dX12_isNewIn_29 (by decide) (fun c6 => ?_) (fun c6 => ?_)
          · have hF := xif hF c6
            refine lv_iinc (v := v3 + 1) (lv' := [(3, .int (v3 + 1)), (0, .ref v0), (1, .int v1), (2, .int v2)]) hx hb dX12_isNewIn_44 hl (k := 3) rfl rfl (by decide) rfl (fun ls hl => ?_)
            refine lv_goto (tgt := 2) hx hb dX12_isNewIn_47 (by decide) ?_
            exact ih _ _ _ _ t_v0 hF _ _ hR hS _ (lv_sub hl [1, 2, 3, 0] rfl)
          · have hF := xel hF c6
            refine lv_aload_n hx hb dX12_isNewIn_32 rfl (lv_at hl 0 rfl) ?_
            refine lv_iload_n hx hb dX12_isNewIn_33 rfl (lv_at hl 3 rfl) ?_
            refine lv_iload_n hx hb dX12_isNewIn_34 rfl (lv_at hl 1 rfl) ?_
            obtain ⟨a7, e_a7, hF⟩ := xbd hF
            refine cl_X12_294 C0 hR hS e_a7 t_v0 ⟨(Nat.le_of_ble_eq_true rfl), (Nat.le_of_ble_eq_true rfl)⟩ hl.1 (Nat.le_of_ble_eq_true rfl) ⟨(Nat.le_of_ble_eq_true rfl), (Nat.le_of_ble_eq_true rfl)⟩ dX12_isNewIn_35 (fun H locs hR hS => ?_)
            refine lv_iload_n hx hb dX12_isNewIn_38 rfl (lv_at hl 2 rfl) ?_
            refine lv_icmp_lt (tgt := 44) hx hb dX12_isNewIn_39 (by decide) (fun c8 => ?_) (fun c8 => ?_)
            · have hF := xif hF c8
              refine lv_iinc (v := v3 + 1) (lv' := [(3, .int (v3 + 1)), (0, .ref v0), (1, .int v1), (2, .int v2)]) hx hb dX12_isNewIn_44 hl (k := 3) rfl rfl (by decide) rfl (fun ls hl => ?_)
              refine lv_goto (tgt := 2) hx hb dX12_isNewIn_47 (by decide) ?_
              exact ih _ _ _ _ t_v0 hF _ _ hR hS _ (lv_sub hl [1, 2, 3, 0] rfl)
            · have hF := xel hF c8
              refine lv_iconst (v := 0) hx hb dX12_isNewIn_42 (by decide) ?_
              cases hF
              exact x_zret (w := 0) C0 hR hS (by decide) dX12_isNewIn_43
set_option maxHeartbeats 4000000 in
set_option maxRecDepth 100000 in
theorem jc_X12_isNewIn {l : Launch} {D : xD} {ty : xTy} {h : xH} {v0 : Nat} {v1 : Int32} {v2 : Int32} {r : Int32} (t_v0 : ty v0 = some (0, 12)) (hF : jf_X12_isNewIn ty h v0 v1 v2 = some r) : Met l yX12_isNewIn (xws yX12_isNewIn cX12_isNewIn 4 (some .boolean)) jr_X12_isNewIn (xPc D ty h [.ref v0, .int v1, .int v2]) (xQ D ty (some (.int r)) h) 0 0 (xdom ty) := by
  refine x_met (by decide) ?_
  intro p e s m below meth c C0 hR
  generalize hargs : ([.ref v0, .int v1, .int v2] : List Value).toArray = args at C0 ⊢
  have hx := C0.1
  have hb := C0.2.1
  have hown := C0.2.2.2.2.2.1
  have hts := C0.2.2.2.2.2.2.1
  have hS : xS ty s.heap s.heap [] := xS.rf
  have hl := lv_entry ([.ref v0, .int v1, .int v2]) (n := 4) (Nat.le_of_ble_eq_true rfl)
  rw [← hargs, lg_entry_eq]
  rw [hargs]
  generalize (lg_sl ([.ref v0, .int v1, .int v2]) ++ List.replicate (4 - (lg_sl ([.ref v0, .int v1, .int v2])).length) Slot.unset).toArray = ls at hl ⊢
  have hl : lv_has ls 4 [(0, .ref v0), (1, .int v1), (2, .int v2)] := hl
  unfold jf_X12_isNewIn at hF
  refine lv_iconst (v := 0) hx hb dX12_isNewIn_0 (by decide) ?_
  refine lv_istore_n (lv' := [(3, .int 0), (0, .ref v0), (1, .int v1), (2, .int v2)]) hx hb dX12_isNewIn_1 rfl hl (by decide) rfl (fun ls hl => ?_)
  obtain ⟨_, hF⟩ := xlim_sp hF
  exact jw_X12_isNewIn_2 C0 _ _ _ _ _ t_v0 hF _ _ hR hS _ (lv_sub hl [1, 2, 3, 0] rfl)
theorem xm_X12_isNewIn : xMw yX12_isNewIn cX12_isNewIn 4 (some .boolean) 2 := ⟨xin 1836 (by decide +kernel) rfl, xin 126 (by decide +kernel) rfl, by decide +kernel⟩
theorem xi_X12_isNewIn : Cond.instanceMethod yX12_isNewIn ∈ xT := xin 1835 (by decide +kernel) rfl
theorem xe_X12_isNewIn : Cond.selects yX12_isNewIn.cls yX12_isNewIn yX12_isNewIn ∈ xT := xin 105 (by decide +kernel) rfl
theorem dX12_branch_0 : decode cX12_branch 0 = .ok (.aload_n 0, 1) := by decide +kernel
theorem dX12_branch_1 : decode cX12_branch 1 = .ok (.iconst 0, 1) := by decide +kernel
theorem dX12_branch_2 : decode cX12_branch 2 = .ok (.putfield 101, 3) := by decide +kernel
theorem dX12_branch_5 : decode cX12_branch 5 = .ok (.iload_n 1, 1) := by decide +kernel
theorem dX12_branch_6 : decode cX12_branch 6 = .ok (.iconst 1, 1) := by decide +kernel
theorem dX12_branch_7 : decode cX12_branch 7 = .ok (.bipush 12, 2) := by decide +kernel
theorem dX12_branch_9 : decode cX12_branch 9 = .ok (.invokestatic 146, 3) := by decide +kernel
theorem dX12_branch_12 : decode cX12_branch 12 = .ok (.ifCond .eq 7, 3) := by decide +kernel
theorem dX12_branch_15 : decode cX12_branch 15 = .ok (.iload_n 2, 1) := by decide +kernel
theorem dX12_branch_16 : decode cX12_branch 16 = .ok (.ifCond .ge 5, 3) := by decide +kernel
theorem dX12_branch_19 : decode cX12_branch 19 = .ok (.iconst (-1), 1) := by decide +kernel
theorem dX12_branch_20 : decode cX12_branch 20 = .ok (.ireturn, 1) := by decide +kernel
theorem dX12_branch_21 : decode cX12_branch 21 = .ok (.iconst 0, 1) := by decide +kernel
theorem dX12_branch_22 : decode cX12_branch 22 = .ok (.istore_n 3, 1) := by decide +kernel
theorem dX12_branch_23 : decode cX12_branch 23 = .ok (.iconst 0, 1) := by decide +kernel
theorem dX12_branch_24 : decode cX12_branch 24 = .ok (.istore 4, 2) := by decide +kernel
theorem dX12_branch_26 : decode cX12_branch 26 = .ok (.iload 4, 2) := by decide +kernel
theorem dX12_branch_28 : decode cX12_branch 28 = .ok (.aload_n 0, 1) := by decide +kernel
theorem dX12_branch_29 : decode cX12_branch 29 = .ok (.getfield 178, 3) := by decide +kernel
theorem dX12_branch_32 : decode cX12_branch 32 = .ok (.if_icmp .ge 89, 3) := by decide +kernel
theorem dX12_branch_35 : decode cX12_branch 35 = .ok (.iconst 0, 1) := by decide +kernel
theorem dX12_branch_36 : decode cX12_branch 36 = .ok (.istore 5, 2) := by decide +kernel
theorem dX12_branch_38 : decode cX12_branch 38 = .ok (.iload 5, 2) := by decide +kernel
theorem dX12_branch_40 : decode cX12_branch 40 = .ok (.aload_n 0, 1) := by decide +kernel
theorem dX12_branch_41 : decode cX12_branch 41 = .ok (.getfield 178, 3) := by decide +kernel
theorem dX12_branch_44 : decode cX12_branch 44 = .ok (.if_icmp .ge 71, 3) := by decide +kernel
theorem dX12_branch_47 : decode cX12_branch 47 = .ok (.aload_n 0, 1) := by decide +kernel
theorem dX12_branch_48 : decode cX12_branch 48 = .ok (.iload 5, 2) := by decide +kernel
theorem dX12_branch_50 : decode cX12_branch 50 = .ok (.invokevirtual 285, 3) := by decide +kernel
theorem dX12_branch_53 : decode cX12_branch 53 = .ok (.ifCond .eq 56, 3) := by decide +kernel
theorem dX12_branch_56 : decode cX12_branch 56 = .ok (.aload_n 0, 1) := by decide +kernel
theorem dX12_branch_57 : decode cX12_branch 57 = .ok (.iload 5, 2) := by decide +kernel
theorem dX12_branch_59 : decode cX12_branch 59 = .ok (.invokevirtual 322, 3) := by decide +kernel
theorem dX12_branch_62 : decode cX12_branch 62 = .ok (.iload 4, 2) := by decide +kernel
theorem dX12_branch_64 : decode cX12_branch 64 = .ok (.if_icmp .ne 45, 3) := by decide +kernel
theorem dX12_branch_67 : decode cX12_branch 67 = .ok (.aload_n 0, 1) := by decide +kernel
theorem dX12_branch_68 : decode cX12_branch 68 = .ok (.getfield 32, 3) := by decide +kernel
theorem dX12_branch_71 : decode cX12_branch 71 = .ok (.iload 5, 2) := by decide +kernel
theorem dX12_branch_73 : decode cX12_branch 73 = .ok (.iaload, 1) := by decide +kernel
theorem dX12_branch_74 : decode cX12_branch 74 = .ok (.iload_n 1, 1) := by decide +kernel
theorem dX12_branch_75 : decode cX12_branch 75 = .ok (.if_icmp .lt 34, 3) := by decide +kernel
theorem dX12_branch_78 : decode cX12_branch 78 = .ok (.aload_n 0, 1) := by decide +kernel
theorem dX12_branch_79 : decode cX12_branch 79 = .ok (.iload 5, 2) := by decide +kernel
theorem dX12_branch_81 : decode cX12_branch 81 = .ok (.iload_n 1, 1) := by decide +kernel
theorem dX12_branch_82 : decode cX12_branch 82 = .ok (.invokevirtual 364, 3) := by decide +kernel
theorem dX12_branch_85 : decode cX12_branch 85 = .ok (.ifCond .ne 6, 3) := by decide +kernel
theorem dX12_branch_88 : decode cX12_branch 88 = .ok (.goto 21, 3) := by decide +kernel
theorem dX12_branch_91 : decode cX12_branch 91 = .ok (.iload_n 3, 1) := by decide +kernel
theorem dX12_branch_92 : decode cX12_branch 92 = .ok (.iload_n 2, 1) := by decide +kernel
theorem dX12_branch_93 : decode cX12_branch 93 = .ok (.if_icmp .ne 13, 3) := by decide +kernel
theorem dX12_branch_96 : decode cX12_branch 96 = .ok (.aload_n 0, 1) := by decide +kernel
theorem dX12_branch_97 : decode cX12_branch 97 = .ok (.iload 5, 2) := by decide +kernel
theorem dX12_branch_99 : decode cX12_branch 99 = .ok (.iload_n 1, 1) := by decide +kernel
theorem dX12_branch_100 : decode cX12_branch 100 = .ok (.iconst 1, 1) := by decide +kernel
theorem dX12_branch_101 : decode cX12_branch 101 = .ok (.isub, 1) := by decide +kernel
theorem dX12_branch_102 : decode cX12_branch 102 = .ok (.invokevirtual 291, 3) := by decide +kernel
theorem dX12_branch_105 : decode cX12_branch 105 = .ok (.ireturn, 1) := by decide +kernel
theorem dX12_branch_106 : decode cX12_branch 106 = .ok (.iinc 3 1, 3) := by decide +kernel
theorem dX12_branch_109 : decode cX12_branch 109 = .ok (.iinc 5 1, 3) := by decide +kernel
theorem dX12_branch_112 : decode cX12_branch 112 = .ok (.goto (-74), 3) := by decide +kernel
theorem dX12_branch_115 : decode cX12_branch 115 = .ok (.iinc 4 1, 3) := by decide +kernel
theorem dX12_branch_118 : decode cX12_branch 118 = .ok (.goto (-92), 3) := by decide +kernel
theorem dX12_branch_121 : decode cX12_branch 121 = .ok (.bipush (-2), 2) := by decide +kernel
theorem dX12_branch_123 : decode cX12_branch 123 = .ok (.ireturn, 1) := by decide +kernel
theorem wl_X12_364 : Cond.methodLink RX12 364 yX12_isNewIn ∈ xT := xin 1833 (by decide +kernel) rfl
section XN_X12_branch
variable {p : Program} {l : Launch} {e : Env} {R : Room} {s : State} {m : MethodId} {args : Array Value} {below : List Frame} {meth : Method} {c : Code} {H H0 : Heap} {locs : List Loc} {cells slots : Nat} {Q : State → Prop} {cc : ByteArray} {nL pc : Nat} {rt : Option FieldType} {ls : Array Slot} {rest : List Value} {D : xD} {ty : xTy} {h : xH}
theorem cl_X12_364 {v0 : Nat} {v1 : Int32} {v2 : Int32} {r : Int32} (C0 : xC D RX12 cc nL rt p s m args meth c) (hR : xRep D ty h H) (hS : xS ty H0 H locs) (hF : jf_X12_isNewIn ty h v0 v1 v2 = some r) (t_v0 : ty v0 = some (0, 12)) (hrm : jr_X12_isNewIn.frames + 1 ≤ R.frames ∧ 8 + (4 + 11) + jr_X12_isNewIn.locals ≤ R.locals) (hsz : ls.size = nL) (hW : (rest.map fun v => v.category).sum ≤ 8) (hf : cells ≤ R.cells ∧ slots ≤ R.slots) (hdg : decode cc pc = .ok (.invokevirtual 364, 3)) (kk : ∀ (H1 : Heap) (locs1 : List Loc), xRep D ty h H1 → xS ty H0 H1 locs1 → W p l e R s m args below meth c H1 locs1 cells slots Q (F0 m (pc + 3) ls (.int r :: rest))) : W p l e R s m args below meth c H locs cells slots Q (F0 m pc ls (.int v2 :: .int v1 :: .ref v0 :: rest)) := x_callV C0 (jc_X12_isNewIn t_v0 hF) xm_X12_isNewIn xi_X12_isNewIn xe_X12_isNewIn wl_X12_364 ⟨rfl, rfl, hrm⟩ (ci := 12) rfl t_v0 hR hS (As := [.int v1, .int v2]) rfl hsz rfl hW hdg hf kk
end XN_X12_branch
set_option maxHeartbeats 4000000 in
set_option maxRecDepth 100000 in
theorem jw_X12_branch_38 {p : Program} {l : Launch} {e : Env} {s : State} {m : MethodId} {args : Array Value} {below : List Frame} {meth : Method} {c : Code} {D : xD} {ty : xTy} {k26 : Nat → Int32 → Int32 → Int32 → Int32 → xH → Option (Int32 × xH)} (C0 : xC D RX12 cX12_branch 6 (some .int) p s m args meth c) {r : Int32} {h9 : xH} (hk26 : ∀ (v0 : Nat) (v1 : Int32) (v2 : Int32) (v3 : Int32) (v4 : Int32) (h : xH), ty v0 = some (0, 12) → k26 v0 v1 v2 v3 v4 h = some (r, h9) → ∀ (H : Heap) (locs : List Loc), xRep D ty h H → xS ty s.heap H locs → ∀ ls : Array Slot, lv_has ls 6 [(0, .ref v0), (1, .int v1), (2, .int v2), (3, .int v3), (4, .int v4)] → W p l e jr_X12_branch s m args below meth c H locs 0 0 (MQ below (xQ D ty (some (.int r)) h9) args s 0 0 (xdom ty)) (F0 m 26 ls [])) : ∀ n : Nat, ∀ (v0 : Nat) (v1 : Int32) (v2 : Int32) (v3 : Int32) (v4 : Int32) (v5 : Int32) (h : xH), ty v0 = some (0, 12) → jf_X12_branch_38 ty k26 n v0 v1 v2 v3 v4 v5 h = some (r, h9) → ∀ (H : Heap) (locs : List Loc), xRep D ty h H → xS ty s.heap H locs → ∀ ls : Array Slot, lv_has ls 6 [(0, .ref v0), (1, .int v1), (2, .int v2), (3, .int v3), (4, .int v4), (5, .int v5)] → W p l e jr_X12_branch s m args below meth c H locs 0 0 (MQ below (xQ D ty (some (.int r)) h9) args s 0 0 (xdom ty)) (F0 m 38 ls []) := by
  have hx := C0.1
  have hb := C0.2.1
  have hown := C0.2.2.2.2.2.1
  have hts := C0.2.2.2.2.2.2.1
  intro n
  induction n with
  | zero =>
    intro v0 v1 v2 v3 v4 v5 h t_v0 hF H locs hR hS ls hl
    cases hF
  | succ n ih =>
    intro v0 v1 v2 v3 v4 v5 h t_v0 hF H locs hR hS ls hl
    rw [jf_X12_branch_38_s] at hF
    refine lv_iload hx hb dX12_branch_38 (lv_at hl 5 rfl) ?_
    refine lv_aload_n hx hb dX12_branch_40 rfl (lv_at hl 0 rfl) ?_
    refine gf_X12_178 C0 hR t_v0 dX12_branch_41 ?_
    refine lv_icmp_ge (tgt := 115) hx hb dX12_branch_44 (by decide) (fun c1 => ?_) (fun c1 => ?_)
    · have hF := xif hF c1
      refine lv_iinc (v := v4 + 1) (lv' := [(4, .int (v4 + 1)), (0, .ref v0), (1, .int v1), (2, .int v2), (3, .int v3), (5, .int v5)]) hx hb dX12_branch_115 hl (k := 4) rfl rfl (by decide) rfl (fun ls hl => ?_)
      refine lv_goto (tgt := 26) hx hb dX12_branch_118 (by decide) ?_
      exact hk26 _ _ _ _ _ _ t_v0 hF _ _ hR hS _ (lv_sub hl [1, 2, 3, 4, 0] rfl)
    · have hF := xel hF c1
      refine lv_aload_n hx hb dX12_branch_47 rfl (lv_at hl 0 rfl) ?_
      refine lv_iload hx hb dX12_branch_48 (lv_at hl 5 rfl) ?_
      obtain ⟨a2, e_a2, hF⟩ := xbd hF
      refine cl_X12_285 C0 hR hS e_a2 t_v0 ⟨(Nat.le_of_ble_eq_true rfl), (Nat.le_of_ble_eq_true rfl)⟩ hl.1 (Nat.le_of_ble_eq_true rfl) ⟨(Nat.le_of_ble_eq_true rfl), (Nat.le_of_ble_eq_true rfl)⟩ dX12_branch_50 (fun H locs hR hS => ?_)
      refine lv_if_eq (tgt := 109) hx hb dX12_branch_53 (by decide) (fun c3 => ?_) (fun c3 => ?_)
      · have hF := xif hF c3
        refine lv_iinc (v := v5 + 1) (lv' := [(5, .int (v5 + 1)), (0, .ref v0), (1, .int v1), (2, .int v2), (3, .int v3), (4, .int v4)]) hx hb dX12_branch_109 hl (k := 5) rfl rfl (by decide) rfl (fun ls hl => ?_)
        refine lv_goto (tgt := 38) hx hb dX12_branch_112 (by decide) ?_
        exact ih _ _ _ _ _ _ _ t_v0 hF _ _ hR hS _ (lv_sub hl [1, 2, 3, 4, 5, 0] rfl)
      · have hF := xel hF c3
        refine lv_aload_n hx hb dX12_branch_56 rfl (lv_at hl 0 rfl) ?_
        refine lv_iload hx hb dX12_branch_57 (lv_at hl 5 rfl) ?_
        obtain ⟨a4, e_a4, hF⟩ := xbd hF
        refine cl_X12_322 C0 hR hS e_a4 t_v0 ⟨(Nat.le_of_ble_eq_true rfl), (Nat.le_of_ble_eq_true rfl)⟩ hl.1 (Nat.le_of_ble_eq_true rfl) ⟨(Nat.le_of_ble_eq_true rfl), (Nat.le_of_ble_eq_true rfl)⟩ dX12_branch_59 (fun H locs hR hS => ?_)
        refine lv_iload hx hb dX12_branch_62 (lv_at hl 4 rfl) ?_
        refine lv_icmp_ne (tgt := 109) hx hb dX12_branch_64 (by decide) (fun c5 => ?_) (fun c5 => ?_)
        · have hF := xel hF c5
          refine lv_iinc (v := v5 + 1) (lv' := [(5, .int (v5 + 1)), (0, .ref v0), (1, .int v1), (2, .int v2), (3, .int v3), (4, .int v4)]) hx hb dX12_branch_109 hl (k := 5) rfl rfl (by decide) rfl (fun ls hl => ?_)
          refine lv_goto (tgt := 38) hx hb dX12_branch_112 (by decide) ?_
          exact ih _ _ _ _ _ _ _ t_v0 hF _ _ hR hS _ (lv_sub hl [1, 2, 3, 4, 5, 0] rfl)
        · have hF := xif hF c5
          refine lv_aload_n hx hb dX12_branch_67 rfl (lv_at hl 0 rfl) ?_
          obtain ⟨a6, e_a6, hF⟩ := xbd hF
          refine gf_X12_32 C0 hR t_v0 e_a6 dX12_branch_68 ?_
          refine lv_iload hx hb dX12_branch_71 (lv_at hl 5 rfl) ?_
          obtain ⟨a7, e_a7, hF⟩ := xbd hF
          refine x_iald C0 hR e_a7 dX12_branch_73 ?_
          refine lv_iload_n hx hb dX12_branch_74 rfl (lv_at hl 1 rfl) ?_
          refine lv_icmp_lt (tgt := 109) hx hb dX12_branch_75 (by decide) (fun c8 => ?_) (fun c8 => ?_)
          · have hF := xif hF c8
            refine lv_iinc (v := v5 + 1) (lv' := [(5, .int (v5 + 1)), (0, .ref v0), (1, .int v1), (2, .int v2), (3, .int v3), (4, .int v4)]) hx hb dX12_branch_109 hl (k := 5) rfl rfl (by decide) rfl (fun ls hl => ?_)
            refine lv_goto (tgt := 38) hx hb dX12_branch_112 (by decide) ?_
            exact ih _ _ _ _ _ _ _ t_v0 hF _ _ hR hS _ (lv_sub hl [1, 2, 3, 4, 5, 0] rfl)
          · have hF := xel hF c8
            refine lv_aload_n hx hb dX12_branch_78 rfl (lv_at hl 0 rfl) ?_
            refine lv_iload hx hb dX12_branch_79 (lv_at hl 5 rfl) ?_
            refine lv_iload_n hx hb dX12_branch_81 rfl (lv_at hl 1 rfl) ?_
            obtain ⟨a9, e_a9, hF⟩ := xbd hF
            refine cl_X12_364 C0 hR hS e_a9 t_v0 ⟨(Nat.le_of_ble_eq_true rfl), (Nat.le_of_ble_eq_true rfl)⟩ hl.1 (Nat.le_of_ble_eq_true rfl) ⟨(Nat.le_of_ble_eq_true rfl), (Nat.le_of_ble_eq_true rfl)⟩ dX12_branch_82 (fun H locs hR hS => ?_)
            refine lv_if_ne (tgt := 91) hx hb dX12_branch_85 (by decide) (fun c10 => ?_) (fun c10 => ?_)
            · have hF := xel hF c10
              refine lv_iload_n hx hb dX12_branch_91 rfl (lv_at hl 3 rfl) ?_
              refine lv_iload_n hx hb dX12_branch_92 rfl (lv_at hl 2 rfl) ?_
              refine lv_icmp_ne (tgt := 106) hx hb dX12_branch_93 (by decide) (fun c11 => ?_) (fun c11 => ?_)
              · have hF := xel hF c11
                refine lv_iinc (v := v3 + 1) (lv' := [(3, .int (v3 + 1)), (0, .ref v0), (1, .int v1), (2, .int v2), (4, .int v4), (5, .int v5)]) hx hb dX12_branch_106 hl (k := 3) rfl rfl (by decide) rfl (fun ls hl => ?_)
                refine lv_iinc (v := v5 + 1) (lv' := [(5, .int (v5 + 1)), (3, .int (v3 + 1)), (0, .ref v0), (1, .int v1), (2, .int v2), (4, .int v4)]) hx hb dX12_branch_109 hl (k := 5) rfl rfl (by decide) rfl (fun ls hl => ?_)
                refine lv_goto (tgt := 38) hx hb dX12_branch_112 (by decide) ?_
                exact ih _ _ _ _ _ _ _ t_v0 hF _ _ hR hS _ (lv_sub hl [2, 3, 4, 1, 5, 0] rfl)
              · have hF := xif hF c11
                refine lv_aload_n hx hb dX12_branch_96 rfl (lv_at hl 0 rfl) ?_
                refine lv_iload hx hb dX12_branch_97 (lv_at hl 5 rfl) ?_
                refine lv_iload_n hx hb dX12_branch_99 rfl (lv_at hl 1 rfl) ?_
                refine lv_iconst (v := 1) hx hb dX12_branch_100 (by decide) ?_
                refine lv_isub hx hb dX12_branch_101 ?_
                obtain ⟨a12, e_a12, hF⟩ := xbd hF
                refine cl_X12_291 C0 hR hS e_a12 t_v0 ⟨(Nat.le_of_ble_eq_true rfl), (Nat.le_of_ble_eq_true rfl)⟩ hl.1 (Nat.le_of_ble_eq_true rfl) ⟨(Nat.le_of_ble_eq_true rfl), (Nat.le_of_ble_eq_true rfl)⟩ dX12_branch_102 (fun H locs hR hS => ?_)
                cases hF
                exact x_iret C0 hR hS dX12_branch_105
            · have hF := xif hF c10
              refine lv_goto (tgt := 109) hx hb dX12_branch_88 (by decide) ?_
              refine lv_iinc (v := v5 + 1) (lv' := [(5, .int (v5 + 1)), (0, .ref v0), (1, .int v1), (2, .int v2), (3, .int v3), (4, .int v4)]) hx hb dX12_branch_109 hl (k := 5) rfl rfl (by decide) rfl (fun ls hl => ?_)
              refine lv_goto (tgt := 38) hx hb dX12_branch_112 (by decide) ?_
              exact ih _ _ _ _ _ _ _ t_v0 hF _ _ hR hS _ (lv_sub hl [1, 2, 3, 4, 5, 0] rfl)
set_option maxHeartbeats 4000000 in
set_option maxRecDepth 100000 in
theorem jw_X12_branch_26 {p : Program} {l : Launch} {e : Env} {s : State} {m : MethodId} {args : Array Value} {below : List Frame} {meth : Method} {c : Code} {D : xD} {ty : xTy} (C0 : xC D RX12 cX12_branch 6 (some .int) p s m args meth c) {r : Int32} {h9 : xH} : ∀ n : Nat, ∀ (v0 : Nat) (v1 : Int32) (v2 : Int32) (v3 : Int32) (v4 : Int32) (h : xH), ty v0 = some (0, 12) → jf_X12_branch_26 ty n v0 v1 v2 v3 v4 h = some (r, h9) → ∀ (H : Heap) (locs : List Loc), xRep D ty h H → xS ty s.heap H locs → ∀ ls : Array Slot, lv_has ls 6 [(0, .ref v0), (1, .int v1), (2, .int v2), (3, .int v3), (4, .int v4)] → W p l e jr_X12_branch s m args below meth c H locs 0 0 (MQ below (xQ D ty (some (.int r)) h9) args s 0 0 (xdom ty)) (F0 m 26 ls []) := by
  have hx := C0.1
  have hb := C0.2.1
  have hown := C0.2.2.2.2.2.1
  have hts := C0.2.2.2.2.2.2.1
  intro n
  induction n with
  | zero =>
    intro v0 v1 v2 v3 v4 h t_v0 hF H locs hR hS ls hl
    cases hF
  | succ n ih =>
    intro v0 v1 v2 v3 v4 h t_v0 hF H locs hR hS ls hl
    rw [jf_X12_branch_26_s] at hF
    refine lv_iload hx hb dX12_branch_26 (lv_at hl 4 rfl) ?_
    refine lv_aload_n hx hb dX12_branch_28 rfl (lv_at hl 0 rfl) ?_
    refine gf_X12_178 C0 hR t_v0 dX12_branch_29 ?_
    refine lv_icmp_ge (tgt := 121) hx hb dX12_branch_32 (by decide) (fun c13 => ?_) (fun c13 => ?_)
    · have hF := xif hF c13
      refine lv_bipush (v := (-2)) hx hb dX12_branch_121 (by decide) ?_
      cases hF
      exact x_iret C0 hR hS dX12_branch_123
    · have hF := xel hF c13
      refine lv_iconst (v := 0) hx hb dX12_branch_35 (by decide) ?_
      refine lv_istore (lv' := [(5, .int 0), (0, .ref v0), (1, .int v1), (2, .int v2), (3, .int v3), (4, .int v4)]) hx hb dX12_branch_36 hl (by decide) rfl (fun ls hl => ?_)
      obtain ⟨_, hF⟩ := xlim_sp hF
      exact jw_X12_branch_38 C0 ih _ _ _ _ _ _ _ _ t_v0 hF _ _ hR hS _ (lv_sub hl [1, 2, 3, 4, 5, 0] rfl)
set_option maxHeartbeats 4000000 in
set_option maxRecDepth 100000 in
theorem jc_X12_branch {l : Launch} {D : xD} {ty : xTy} {h : xH} {v0 : Nat} {v1 : Int32} {v2 : Int32} {r : Int32} {h9 : xH} (t_v0 : ty v0 = some (0, 12)) (hF : jf_X12_branch ty h v0 v1 v2 = some (r, h9)) : Met l yX12_branch (xws yX12_branch cX12_branch 6 (some .int)) jr_X12_branch (xPc D ty h [.ref v0, .int v1, .int v2]) (xQ D ty (some (.int r)) h9) 0 0 (xdom ty) := by
  refine x_met (by decide) ?_
  intro p e s m below meth c C0 hR
  generalize hargs : ([.ref v0, .int v1, .int v2] : List Value).toArray = args at C0 ⊢
  have hx := C0.1
  have hb := C0.2.1
  have hown := C0.2.2.2.2.2.1
  have hts := C0.2.2.2.2.2.2.1
  have hS : xS ty s.heap s.heap [] := xS.rf
  have hl := lv_entry ([.ref v0, .int v1, .int v2]) (n := 6) (Nat.le_of_ble_eq_true rfl)
  rw [← hargs, lg_entry_eq]
  rw [hargs]
  generalize (lg_sl ([.ref v0, .int v1, .int v2]) ++ List.replicate (6 - (lg_sl ([.ref v0, .int v1, .int v2])).length) Slot.unset).toArray = ls at hl ⊢
  have hl : lv_has ls 6 [(0, .ref v0), (1, .int v1), (2, .int v2)] := hl
  unfold jf_X12_branch at hF
  refine lv_aload_n hx hb dX12_branch_0 rfl (lv_at hl 0 rfl) ?_
  refine lv_iconst (v := 0) hx hb dX12_branch_1 (by decide) ?_
  obtain ⟨h14, e_h14, hF⟩ := xbd hF
  refine pf_X12_101 C0 hR hS t_v0 dX12_branch_2 (fun H locs hR hS => ?_)
  rw [Option.some.inj e_h14] at hR
  refine lv_iload_n hx hb dX12_branch_5 rfl (lv_at hl 1 rfl) ?_
  refine lv_iconst (v := 1) hx hb dX12_branch_6 (by decide) ?_
  refine lv_bipush (v := 12) hx hb dX12_branch_7 (by decide) ?_
  obtain ⟨a15, e_a15, hF⟩ := xbd hF
  refine cl_X12_146 C0 hR hS e_a15  ⟨(Nat.le_of_ble_eq_true rfl), (Nat.le_of_ble_eq_true rfl)⟩ hl.1 (Nat.le_of_ble_eq_true rfl) ⟨(Nat.le_of_ble_eq_true rfl), (Nat.le_of_ble_eq_true rfl)⟩ dX12_branch_9 (fun H locs hR hS => ?_)
  refine lv_if_eq (tgt := 19) hx hb dX12_branch_12 (by decide) (fun c16 => ?_) (fun c16 => ?_)
  · have hF := xif hF c16
    refine lv_iconst (v := (-1)) hx hb dX12_branch_19 (by decide) ?_
    cases hF
    exact x_iret C0 hR hS dX12_branch_20
  · have hF := xel hF c16
    refine lv_iload_n hx hb dX12_branch_15 rfl (lv_at hl 2 rfl) ?_
    refine lv_if_ge (tgt := 21) hx hb dX12_branch_16 (by decide) (fun c17 => ?_) (fun c17 => ?_)
    · have hF := xif hF c17
      refine lv_iconst (v := 0) hx hb dX12_branch_21 (by decide) ?_
      refine lv_istore_n (lv' := [(3, .int 0), (0, .ref v0), (1, .int v1), (2, .int v2)]) hx hb dX12_branch_22 rfl hl (by decide) rfl (fun ls hl => ?_)
      refine lv_iconst (v := 0) hx hb dX12_branch_23 (by decide) ?_
      refine lv_istore (lv' := [(4, .int 0), (3, .int 0), (0, .ref v0), (1, .int v1), (2, .int v2)]) hx hb dX12_branch_24 hl (by decide) rfl (fun ls hl => ?_)
      obtain ⟨_, hF⟩ := xlim_sp hF
      exact jw_X12_branch_26 C0 _ _ _ _ _ _ _ t_v0 hF _ _ hR hS _ (lv_sub hl [2, 3, 4, 1, 0] rfl)
    · have hF := xel hF c17
      refine lv_iconst (v := (-1)) hx hb dX12_branch_19 (by decide) ?_
      cases hF
      exact x_iret C0 hR hS dX12_branch_20
theorem xm_X12_branch : xMw yX12_branch cX12_branch 6 (some .int) 2 := ⟨xin 1832 (by decide +kernel) rfl, xin 126 (by decide +kernel) rfl, by decide +kernel⟩
theorem xi_X12_branch : Cond.instanceMethod yX12_branch ∈ xT := xin 1830 (by decide +kernel) rfl
theorem xe_X12_branch : Cond.selects yX12_branch.cls yX12_branch yX12_branch ∈ xT := xin 1831 (by decide +kernel) rfl
theorem dX12_width_0 : decode cX12_width 0 = .ok (.aload_n 0, 1) := by decide +kernel
theorem dX12_width_1 : decode cX12_width 1 = .ok (.iconst 0, 1) := by decide +kernel
theorem dX12_width_2 : decode cX12_width 2 = .ok (.putfield 101, 3) := by decide +kernel
theorem dX12_width_5 : decode cX12_width 5 = .ok (.iload_n 1, 1) := by decide +kernel
theorem dX12_width_6 : decode cX12_width 6 = .ok (.iconst 0, 1) := by decide +kernel
theorem dX12_width_7 : decode cX12_width 7 = .ok (.bipush 11, 2) := by decide +kernel
theorem dX12_width_9 : decode cX12_width 9 = .ok (.invokestatic 146, 3) := by decide +kernel
theorem dX12_width_12 : decode cX12_width 12 = .ok (.ifCond .eq 13, 3) := by decide +kernel
theorem dX12_width_15 : decode cX12_width 15 = .ok (.aload_n 0, 1) := by decide +kernel
theorem dX12_width_16 : decode cX12_width 16 = .ok (.iload_n 1, 1) := by decide +kernel
theorem dX12_width_17 : decode cX12_width 17 = .ok (.iconst 1, 1) := by decide +kernel
theorem dX12_width_18 : decode cX12_width 18 = .ok (.iadd, 1) := by decide +kernel
theorem dX12_width_19 : decode cX12_width 19 = .ok (.invokevirtual 306, 3) := by decide +kernel
theorem dX12_width_22 : decode cX12_width 22 = .ok (.goto 4, 3) := by decide +kernel
theorem dX12_width_25 : decode cX12_width 25 = .ok (.iconst (-1), 1) := by decide +kernel
theorem dX12_width_26 : decode cX12_width 26 = .ok (.ireturn, 1) := by decide +kernel
set_option maxHeartbeats 4000000 in
set_option maxRecDepth 100000 in
theorem jc_X12_width {l : Launch} {D : xD} {ty : xTy} {h : xH} {v0 : Nat} {v1 : Int32} {r : Int32} {h9 : xH} (t_v0 : ty v0 = some (0, 12)) (hF : jf_X12_width ty h v0 v1 = some (r, h9)) : Met l yX12_width (xws yX12_width cX12_width 2 (some .int)) jr_X12_width (xPc D ty h [.ref v0, .int v1]) (xQ D ty (some (.int r)) h9) 0 0 (xdom ty) := by
  refine x_met (by decide) ?_
  intro p e s m below meth c C0 hR
  generalize hargs : ([.ref v0, .int v1] : List Value).toArray = args at C0 ⊢
  have hx := C0.1
  have hb := C0.2.1
  have hown := C0.2.2.2.2.2.1
  have hts := C0.2.2.2.2.2.2.1
  have hS : xS ty s.heap s.heap [] := xS.rf
  have hl := lv_entry ([.ref v0, .int v1]) (n := 2) (Nat.le_of_ble_eq_true rfl)
  rw [← hargs, lg_entry_eq]
  rw [hargs]
  generalize (lg_sl ([.ref v0, .int v1]) ++ List.replicate (2 - (lg_sl ([.ref v0, .int v1])).length) Slot.unset).toArray = ls at hl ⊢
  have hl : lv_has ls 2 [(0, .ref v0), (1, .int v1)] := hl
  unfold jf_X12_width at hF
  refine lv_aload_n hx hb dX12_width_0 rfl (lv_at hl 0 rfl) ?_
  refine lv_iconst (v := 0) hx hb dX12_width_1 (by decide) ?_
  obtain ⟨h1, e_h1, hF⟩ := xbd hF
  refine pf_X12_101 C0 hR hS t_v0 dX12_width_2 (fun H locs hR hS => ?_)
  rw [Option.some.inj e_h1] at hR
  refine lv_iload_n hx hb dX12_width_5 rfl (lv_at hl 1 rfl) ?_
  refine lv_iconst (v := 0) hx hb dX12_width_6 (by decide) ?_
  refine lv_bipush (v := 11) hx hb dX12_width_7 (by decide) ?_
  obtain ⟨a2, e_a2, hF⟩ := xbd hF
  refine cl_X12_146 C0 hR hS e_a2  ⟨(Nat.le_of_ble_eq_true rfl), (Nat.le_of_ble_eq_true rfl)⟩ hl.1 (Nat.le_of_ble_eq_true rfl) ⟨(Nat.le_of_ble_eq_true rfl), (Nat.le_of_ble_eq_true rfl)⟩ dX12_width_9 (fun H locs hR hS => ?_)
  refine lv_if_eq (tgt := 25) hx hb dX12_width_12 (by decide) (fun c3 => ?_) (fun c3 => ?_)
  · have hF := xif hF c3
    refine lv_iconst (v := (-1)) hx hb dX12_width_25 (by decide) ?_
    cases hF
    exact x_iret C0 hR hS dX12_width_26
  · have hF := xel hF c3
    refine lv_aload_n hx hb dX12_width_15 rfl (lv_at hl 0 rfl) ?_
    refine lv_iload_n hx hb dX12_width_16 rfl (lv_at hl 1 rfl) ?_
    refine lv_iconst (v := 1) hx hb dX12_width_17 (by decide) ?_
    refine lv_iadd hx hb dX12_width_18 ?_
    obtain ⟨a4, e_a4, hF⟩ := xbd hF
    refine cl_X12_306 C0 hR hS e_a4 t_v0 ⟨(Nat.le_of_ble_eq_true rfl), (Nat.le_of_ble_eq_true rfl)⟩ hl.1 (Nat.le_of_ble_eq_true rfl) ⟨(Nat.le_of_ble_eq_true rfl), (Nat.le_of_ble_eq_true rfl)⟩ dX12_width_19 (fun H locs hR hS => ?_)
    refine lv_goto (tgt := 26) hx hb dX12_width_22 (by decide) ?_
    cases hF
    exact x_iret C0 hR hS dX12_width_26
theorem xm_X12_width : xMw yX12_width cX12_width 2 (some .int) 1 := ⟨xin 1840 (by decide +kernel) rfl, xin 126 (by decide +kernel) rfl, by decide +kernel⟩
theorem xi_X12_width : Cond.instanceMethod yX12_width ∈ xT := xin 1838 (by decide +kernel) rfl
theorem xe_X12_width : Cond.selects yX12_width.cls yX12_width yX12_width ∈ xT := xin 1839 (by decide +kernel) rfl
theorem dX12_largest_0 : decode cX12_largest 0 = .ok (.iconst 0, 1) := by decide +kernel
theorem dX12_largest_1 : decode cX12_largest 1 = .ok (.istore_n 2, 1) := by decide +kernel
theorem dX12_largest_2 : decode cX12_largest 2 = .ok (.iconst 0, 1) := by decide +kernel
theorem dX12_largest_3 : decode cX12_largest 3 = .ok (.istore_n 3, 1) := by decide +kernel
theorem dX12_largest_4 : decode cX12_largest 4 = .ok (.iload_n 3, 1) := by decide +kernel
theorem dX12_largest_5 : decode cX12_largest 5 = .ok (.aload_n 0, 1) := by decide +kernel
theorem dX12_largest_6 : decode cX12_largest 6 = .ok (.getfield 178, 3) := by decide +kernel
theorem dX12_largest_9 : decode cX12_largest 9 = .ok (.if_icmp .ge 86, 3) := by decide +kernel
theorem dX12_largest_12 : decode cX12_largest 12 = .ok (.iconst 0, 1) := by decide +kernel
theorem dX12_largest_13 : decode cX12_largest 13 = .ok (.istore 4, 2) := by decide +kernel
theorem dX12_largest_15 : decode cX12_largest 15 = .ok (.iconst 0, 1) := by decide +kernel
theorem dX12_largest_16 : decode cX12_largest 16 = .ok (.istore 5, 2) := by decide +kernel
theorem dX12_largest_18 : decode cX12_largest 18 = .ok (.iload 5, 2) := by decide +kernel
theorem dX12_largest_20 : decode cX12_largest 20 = .ok (.aload_n 0, 1) := by decide +kernel
theorem dX12_largest_21 : decode cX12_largest 21 = .ok (.getfield 178, 3) := by decide +kernel
theorem dX12_largest_24 : decode cX12_largest 24 = .ok (.if_icmp .ge 52, 3) := by decide +kernel
theorem dX12_largest_27 : decode cX12_largest 27 = .ok (.iload 4, 2) := by decide +kernel
theorem dX12_largest_29 : decode cX12_largest 29 = .ok (.aload_n 0, 1) := by decide +kernel
theorem dX12_largest_30 : decode cX12_largest 30 = .ok (.iload_n 3, 1) := by decide +kernel
theorem dX12_largest_31 : decode cX12_largest 31 = .ok (.invokevirtual 285, 3) := by decide +kernel
theorem dX12_largest_34 : decode cX12_largest 34 = .ok (.ifCond .eq 32, 3) := by decide +kernel
theorem dX12_largest_37 : decode cX12_largest 37 = .ok (.aload_n 0, 1) := by decide +kernel
theorem dX12_largest_38 : decode cX12_largest 38 = .ok (.iload 5, 2) := by decide +kernel
theorem dX12_largest_40 : decode cX12_largest 40 = .ok (.invokevirtual 285, 3) := by decide +kernel
theorem dX12_largest_43 : decode cX12_largest 43 = .ok (.ifCond .eq 23, 3) := by decide +kernel
theorem dX12_largest_46 : decode cX12_largest 46 = .ok (.aload_n 0, 1) := by decide +kernel
theorem dX12_largest_47 : decode cX12_largest 47 = .ok (.iload 5, 2) := by decide +kernel
theorem dX12_largest_49 : decode cX12_largest 49 = .ok (.iload_n 1, 1) := by decide +kernel
theorem dX12_largest_50 : decode cX12_largest 50 = .ok (.invokevirtual 291, 3) := by decide +kernel
theorem dX12_largest_53 : decode cX12_largest 53 = .ok (.aload_n 0, 1) := by decide +kernel
theorem dX12_largest_54 : decode cX12_largest 54 = .ok (.iload_n 3, 1) := by decide +kernel
theorem dX12_largest_55 : decode cX12_largest 55 = .ok (.iload_n 1, 1) := by decide +kernel
theorem dX12_largest_56 : decode cX12_largest 56 = .ok (.invokevirtual 291, 3) := by decide +kernel
theorem dX12_largest_59 : decode cX12_largest 59 = .ok (.if_icmp .ne 7, 3) := by decide +kernel
theorem dX12_largest_62 : decode cX12_largest 62 = .ok (.iconst 1, 1) := by decide +kernel
theorem dX12_largest_63 : decode cX12_largest 63 = .ok (.goto 4, 3) := by decide +kernel
theorem dX12_largest_66 : decode cX12_largest 66 = .ok (.iconst 0, 1) := by decide +kernel
theorem dX12_largest_67 : decode cX12_largest 67 = .ok (.iadd, 1) := by decide +kernel
theorem dX12_largest_68 : decode cX12_largest 68 = .ok (.istore 4, 2) := by decide +kernel
theorem dX12_largest_70 : decode cX12_largest 70 = .ok (.iinc 5 1, 3) := by decide +kernel
theorem dX12_largest_73 : decode cX12_largest 73 = .ok (.goto (-55), 3) := by decide +kernel
theorem dX12_largest_76 : decode cX12_largest 76 = .ok (.iload 4, 2) := by decide +kernel
theorem dX12_largest_78 : decode cX12_largest 78 = .ok (.iload_n 2, 1) := by decide +kernel
theorem dX12_largest_79 : decode cX12_largest 79 = .ok (.if_icmp .le 8, 3) := by decide +kernel
theorem dX12_largest_82 : decode cX12_largest 82 = .ok (.iload 4, 2) := by decide +kernel
theorem dX12_largest_84 : decode cX12_largest 84 = .ok (.goto 4, 3) := by decide +kernel
theorem dX12_largest_87 : decode cX12_largest 87 = .ok (.iload_n 2, 1) := by decide +kernel
theorem dX12_largest_88 : decode cX12_largest 88 = .ok (.istore_n 2, 1) := by decide +kernel
theorem dX12_largest_89 : decode cX12_largest 89 = .ok (.iinc 3 1, 3) := by decide +kernel
theorem dX12_largest_92 : decode cX12_largest 92 = .ok (.goto (-88), 3) := by decide +kernel
theorem dX12_largest_95 : decode cX12_largest 95 = .ok (.iload_n 2, 1) := by decide +kernel
theorem dX12_largest_96 : decode cX12_largest 96 = .ok (.ireturn, 1) := by decide +kernel
set_option maxHeartbeats 4000000 in
set_option maxRecDepth 100000 in
theorem jw_X12_largest_18 {p : Program} {l : Launch} {e : Env} {s : State} {m : MethodId} {args : Array Value} {below : List Frame} {meth : Method} {c : Code} {D : xD} {ty : xTy} {h : xH} {k4 : Nat → Int32 → Int32 → Int32 → Option (Int32)} (C0 : xC D RX12 cX12_largest 6 (some .int) p s m args meth c) {r : Int32} (hk4 : ∀ (v0 : Nat) (v1 : Int32) (v2 : Int32) (v3 : Int32), ty v0 = some (0, 12) → k4 v0 v1 v2 v3 = some r → ∀ (H : Heap) (locs : List Loc), xRep D ty h H → xS ty s.heap H locs → ∀ ls : Array Slot, lv_has ls 6 [(0, .ref v0), (1, .int v1), (2, .int v2), (3, .int v3)] → W p l e jr_X12_largest s m args below meth c H locs 0 0 (MQ below (xQ D ty (some (.int r)) h) args s 0 0 (xdom ty)) (F0 m 4 ls [])) : ∀ n : Nat, ∀ (v0 : Nat) (v1 : Int32) (v2 : Int32) (v3 : Int32) (v4 : Int32) (v5 : Int32), ty v0 = some (0, 12) → jf_X12_largest_18 ty h k4 n v0 v1 v2 v3 v4 v5 = some r → ∀ (H : Heap) (locs : List Loc), xRep D ty h H → xS ty s.heap H locs → ∀ ls : Array Slot, lv_has ls 6 [(0, .ref v0), (1, .int v1), (2, .int v2), (3, .int v3), (4, .int v4), (5, .int v5)] → W p l e jr_X12_largest s m args below meth c H locs 0 0 (MQ below (xQ D ty (some (.int r)) h) args s 0 0 (xdom ty)) (F0 m 18 ls []) := by
  have hx := C0.1
  have hb := C0.2.1
  have hown := C0.2.2.2.2.2.1
  have hts := C0.2.2.2.2.2.2.1
  intro n
  induction n with
  | zero =>
    intro v0 v1 v2 v3 v4 v5 t_v0 hF H locs hR hS ls hl
    cases hF
  | succ n ih =>
    intro v0 v1 v2 v3 v4 v5 t_v0 hF H locs hR hS ls hl
    rw [jf_X12_largest_18_s] at hF
    refine lv_iload hx hb dX12_largest_18 (lv_at hl 5 rfl) ?_
    refine lv_aload_n hx hb dX12_largest_20 rfl (lv_at hl 0 rfl) ?_
    refine gf_X12_178 C0 hR t_v0 dX12_largest_21 ?_
    refine lv_icmp_ge (tgt := 76) hx hb dX12_largest_24 (by decide) (fun c1 => ?_) (fun c1 => ?_)
    · have hF := xif hF c1
      refine lv_iload hx hb dX12_largest_76 (lv_at hl 4 rfl) ?_
      refine lv_iload_n hx hb dX12_largest_78 rfl (lv_at hl 2 rfl) ?_
      refine lv_icmp_le (tgt := 87) hx hb dX12_largest_79 (by decide) (fun c2 => ?_) (fun c2 => ?_)
      · have hF := xif hF c2
        refine lv_iload_n hx hb dX12_largest_87 rfl (lv_at hl 2 rfl) ?_
        refine lv_istore_n (lv' := [(2, .int v2), (0, .ref v0), (1, .int v1), (3, .int v3), (4, .int v4), (5, .int v5)]) hx hb dX12_largest_88 rfl hl (by decide) rfl (fun ls hl => ?_)
        refine lv_iinc (v := v3 + 1) (lv' := [(3, .int (v3 + 1)), (2, .int v2), (0, .ref v0), (1, .int v1), (4, .int v4), (5, .int v5)]) hx hb dX12_largest_89 hl (k := 3) rfl rfl (by decide) rfl (fun ls hl => ?_)
        refine lv_goto (tgt := 4) hx hb dX12_largest_92 (by decide) ?_
        exact hk4 _ _ _ _ t_v0 hF _ _ hR hS _ (lv_sub hl [2, 3, 1, 0] rfl)
      · have hF := xel hF c2
        refine lv_iload hx hb dX12_largest_82 (lv_at hl 4 rfl) ?_
        refine lv_goto (tgt := 88) hx hb dX12_largest_84 (by decide) ?_
        refine lv_istore_n (lv' := [(2, .int v4), (0, .ref v0), (1, .int v1), (3, .int v3), (4, .int v4), (5, .int v5)]) hx hb dX12_largest_88 rfl hl (by decide) rfl (fun ls hl => ?_)
        refine lv_iinc (v := v3 + 1) (lv' := [(3, .int (v3 + 1)), (2, .int v4), (0, .ref v0), (1, .int v1), (4, .int v4), (5, .int v5)]) hx hb dX12_largest_89 hl (k := 3) rfl rfl (by decide) rfl (fun ls hl => ?_)
        refine lv_goto (tgt := 4) hx hb dX12_largest_92 (by decide) ?_
        exact hk4 _ _ _ _ t_v0 hF _ _ hR hS _ (lv_sub hl [2, 3, 1, 0] rfl)
    · have hF := xel hF c1
      refine lv_iload hx hb dX12_largest_27 (lv_at hl 4 rfl) ?_
      refine lv_aload_n hx hb dX12_largest_29 rfl (lv_at hl 0 rfl) ?_
      refine lv_iload_n hx hb dX12_largest_30 rfl (lv_at hl 3 rfl) ?_
      obtain ⟨a3, e_a3, hF⟩ := xbd hF
      refine cl_X12_285 C0 hR hS e_a3 t_v0 ⟨(Nat.le_of_ble_eq_true rfl), (Nat.le_of_ble_eq_true rfl)⟩ hl.1 (Nat.le_of_ble_eq_true rfl) ⟨(Nat.le_of_ble_eq_true rfl), (Nat.le_of_ble_eq_true rfl)⟩ dX12_largest_31 (fun H locs hR hS => ?_)
      refine lv_if_eq (tgt := 66) hx hb dX12_largest_34 (by decide) (fun c4 => ?_) (fun c4 => ?_)
      · have hF := xif hF c4
        refine lv_iconst (v := 0) hx hb dX12_largest_66 (by decide) ?_
        refine lv_iadd hx hb dX12_largest_67 ?_
        refine lv_istore (lv' := [(4, .int (v4 + 0)), (0, .ref v0), (1, .int v1), (2, .int v2), (3, .int v3), (5, .int v5)]) hx hb dX12_largest_68 hl (by decide) rfl (fun ls hl => ?_)
        refine lv_iinc (v := v5 + 1) (lv' := [(5, .int (v5 + 1)), (4, .int (v4 + 0)), (0, .ref v0), (1, .int v1), (2, .int v2), (3, .int v3)]) hx hb dX12_largest_70 hl (k := 5) rfl rfl (by decide) rfl (fun ls hl => ?_)
        refine lv_goto (tgt := 18) hx hb dX12_largest_73 (by decide) ?_
        exact ih _ _ _ _ _ _ t_v0 hF _ _ hR hS _ (lv_sub hl [2, 3, 4, 5, 1, 0] rfl)
      · have hF := xel hF c4
        refine lv_aload_n hx hb dX12_largest_37 rfl (lv_at hl 0 rfl) ?_
        refine lv_iload hx hb dX12_largest_38 (lv_at hl 5 rfl) ?_
        obtain ⟨a5, e_a5, hF⟩ := xbd hF
        refine cl_X12_285 C0 hR hS e_a5 t_v0 ⟨(Nat.le_of_ble_eq_true rfl), (Nat.le_of_ble_eq_true rfl)⟩ hl.1 (Nat.le_of_ble_eq_true rfl) ⟨(Nat.le_of_ble_eq_true rfl), (Nat.le_of_ble_eq_true rfl)⟩ dX12_largest_40 (fun H locs hR hS => ?_)
        refine lv_if_eq (tgt := 66) hx hb dX12_largest_43 (by decide) (fun c6 => ?_) (fun c6 => ?_)
        · have hF := xif hF c6
          refine lv_iconst (v := 0) hx hb dX12_largest_66 (by decide) ?_
          refine lv_iadd hx hb dX12_largest_67 ?_
          refine lv_istore (lv' := [(4, .int (v4 + 0)), (0, .ref v0), (1, .int v1), (2, .int v2), (3, .int v3), (5, .int v5)]) hx hb dX12_largest_68 hl (by decide) rfl (fun ls hl => ?_)
          refine lv_iinc (v := v5 + 1) (lv' := [(5, .int (v5 + 1)), (4, .int (v4 + 0)), (0, .ref v0), (1, .int v1), (2, .int v2), (3, .int v3)]) hx hb dX12_largest_70 hl (k := 5) rfl rfl (by decide) rfl (fun ls hl => ?_)
          refine lv_goto (tgt := 18) hx hb dX12_largest_73 (by decide) ?_
          exact ih _ _ _ _ _ _ t_v0 hF _ _ hR hS _ (lv_sub hl [2, 3, 4, 5, 1, 0] rfl)
        · have hF := xel hF c6
          refine lv_aload_n hx hb dX12_largest_46 rfl (lv_at hl 0 rfl) ?_
          refine lv_iload hx hb dX12_largest_47 (lv_at hl 5 rfl) ?_
          refine lv_iload_n hx hb dX12_largest_49 rfl (lv_at hl 1 rfl) ?_
          obtain ⟨a7, e_a7, hF⟩ := xbd hF
          refine cl_X12_291 C0 hR hS e_a7 t_v0 ⟨(Nat.le_of_ble_eq_true rfl), (Nat.le_of_ble_eq_true rfl)⟩ hl.1 (Nat.le_of_ble_eq_true rfl) ⟨(Nat.le_of_ble_eq_true rfl), (Nat.le_of_ble_eq_true rfl)⟩ dX12_largest_50 (fun H locs hR hS => ?_)
          refine lv_aload_n hx hb dX12_largest_53 rfl (lv_at hl 0 rfl) ?_
          refine lv_iload_n hx hb dX12_largest_54 rfl (lv_at hl 3 rfl) ?_
          refine lv_iload_n hx hb dX12_largest_55 rfl (lv_at hl 1 rfl) ?_
          obtain ⟨a8, e_a8, hF⟩ := xbd hF
          refine cl_X12_291 C0 hR hS e_a8 t_v0 ⟨(Nat.le_of_ble_eq_true rfl), (Nat.le_of_ble_eq_true rfl)⟩ hl.1 (Nat.le_of_ble_eq_true rfl) ⟨(Nat.le_of_ble_eq_true rfl), (Nat.le_of_ble_eq_true rfl)⟩ dX12_largest_56 (fun H locs hR hS => ?_)
          refine lv_icmp_ne (tgt := 66) hx hb dX12_largest_59 (by decide) (fun c9 => ?_) (fun c9 => ?_)
          · have hF := xel hF c9
            refine lv_iconst (v := 0) hx hb dX12_largest_66 (by decide) ?_
            refine lv_iadd hx hb dX12_largest_67 ?_
            refine lv_istore (lv' := [(4, .int (v4 + 0)), (0, .ref v0), (1, .int v1), (2, .int v2), (3, .int v3), (5, .int v5)]) hx hb dX12_largest_68 hl (by decide) rfl (fun ls hl => ?_)
            refine lv_iinc (v := v5 + 1) (lv' := [(5, .int (v5 + 1)), (4, .int (v4 + 0)), (0, .ref v0), (1, .int v1), (2, .int v2), (3, .int v3)]) hx hb dX12_largest_70 hl (k := 5) rfl rfl (by decide) rfl (fun ls hl => ?_)
            refine lv_goto (tgt := 18) hx hb dX12_largest_73 (by decide) ?_
            exact ih _ _ _ _ _ _ t_v0 hF _ _ hR hS _ (lv_sub hl [2, 3, 4, 5, 1, 0] rfl)
          · have hF := xif hF c9
            refine lv_iconst (v := 1) hx hb dX12_largest_62 (by decide) ?_
            refine lv_goto (tgt := 67) hx hb dX12_largest_63 (by decide) ?_
            refine lv_iadd hx hb dX12_largest_67 ?_
            refine lv_istore (lv' := [(4, .int (v4 + 1)), (0, .ref v0), (1, .int v1), (2, .int v2), (3, .int v3), (5, .int v5)]) hx hb dX12_largest_68 hl (by decide) rfl (fun ls hl => ?_)
            refine lv_iinc (v := v5 + 1) (lv' := [(5, .int (v5 + 1)), (4, .int (v4 + 1)), (0, .ref v0), (1, .int v1), (2, .int v2), (3, .int v3)]) hx hb dX12_largest_70 hl (k := 5) rfl rfl (by decide) rfl (fun ls hl => ?_)
            refine lv_goto (tgt := 18) hx hb dX12_largest_73 (by decide) ?_
            exact ih _ _ _ _ _ _ t_v0 hF _ _ hR hS _ (lv_sub hl [2, 3, 4, 5, 1, 0] rfl)
set_option maxHeartbeats 4000000 in
set_option maxRecDepth 100000 in
theorem jw_X12_largest_4 {p : Program} {l : Launch} {e : Env} {s : State} {m : MethodId} {args : Array Value} {below : List Frame} {meth : Method} {c : Code} {D : xD} {ty : xTy} {h : xH} (C0 : xC D RX12 cX12_largest 6 (some .int) p s m args meth c) {r : Int32} : ∀ n : Nat, ∀ (v0 : Nat) (v1 : Int32) (v2 : Int32) (v3 : Int32), ty v0 = some (0, 12) → jf_X12_largest_4 ty h n v0 v1 v2 v3 = some r → ∀ (H : Heap) (locs : List Loc), xRep D ty h H → xS ty s.heap H locs → ∀ ls : Array Slot, lv_has ls 6 [(0, .ref v0), (1, .int v1), (2, .int v2), (3, .int v3)] → W p l e jr_X12_largest s m args below meth c H locs 0 0 (MQ below (xQ D ty (some (.int r)) h) args s 0 0 (xdom ty)) (F0 m 4 ls []) := by
  have hx := C0.1
  have hb := C0.2.1
  have hown := C0.2.2.2.2.2.1
  have hts := C0.2.2.2.2.2.2.1
  intro n
  induction n with
  | zero =>
    intro v0 v1 v2 v3 t_v0 hF H locs hR hS ls hl
    cases hF
  | succ n ih =>
    intro v0 v1 v2 v3 t_v0 hF H locs hR hS ls hl
    rw [jf_X12_largest_4_s] at hF
    refine lv_iload_n hx hb dX12_largest_4 rfl (lv_at hl 3 rfl) ?_
    refine lv_aload_n hx hb dX12_largest_5 rfl (lv_at hl 0 rfl) ?_
    refine gf_X12_178 C0 hR t_v0 dX12_largest_6 ?_
    refine lv_icmp_ge (tgt := 95) hx hb dX12_largest_9 (by decide) (fun c10 => ?_) (fun c10 => ?_)
    · have hF := xif hF c10
      refine lv_iload_n hx hb dX12_largest_95 rfl (lv_at hl 2 rfl) ?_
      cases hF
      exact x_iret C0 hR hS dX12_largest_96
    · have hF := xel hF c10
      refine lv_iconst (v := 0) hx hb dX12_largest_12 (by decide) ?_
      refine lv_istore (lv' := [(4, .int 0), (0, .ref v0), (1, .int v1), (2, .int v2), (3, .int v3)]) hx hb dX12_largest_13 hl (by decide) rfl (fun ls hl => ?_)
      refine lv_iconst (v := 0) hx hb dX12_largest_15 (by decide) ?_
      refine lv_istore (lv' := [(5, .int 0), (4, .int 0), (0, .ref v0), (1, .int v1), (2, .int v2), (3, .int v3)]) hx hb dX12_largest_16 hl (by decide) rfl (fun ls hl => ?_)
      obtain ⟨_, hF⟩ := xlim_sp hF
      exact jw_X12_largest_18 C0 ih _ _ _ _ _ _ _ t_v0 hF _ _ hR hS _ (lv_sub hl [2, 3, 4, 5, 1, 0] rfl)
set_option maxHeartbeats 4000000 in
set_option maxRecDepth 100000 in
theorem jc_X12_largest {l : Launch} {D : xD} {ty : xTy} {h : xH} {v0 : Nat} {v1 : Int32} {r : Int32} (t_v0 : ty v0 = some (0, 12)) (hF : jf_X12_largest ty h v0 v1 = some r) : Met l yX12_largest (xws yX12_largest cX12_largest 6 (some .int)) jr_X12_largest (xPc D ty h [.ref v0, .int v1]) (xQ D ty (some (.int r)) h) 0 0 (xdom ty) := by
  refine x_met (by decide) ?_
  intro p e s m below meth c C0 hR
  generalize hargs : ([.ref v0, .int v1] : List Value).toArray = args at C0 ⊢
  have hx := C0.1
  have hb := C0.2.1
  have hown := C0.2.2.2.2.2.1
  have hts := C0.2.2.2.2.2.2.1
  have hS : xS ty s.heap s.heap [] := xS.rf
  have hl := lv_entry ([.ref v0, .int v1]) (n := 6) (Nat.le_of_ble_eq_true rfl)
  rw [← hargs, lg_entry_eq]
  rw [hargs]
  generalize (lg_sl ([.ref v0, .int v1]) ++ List.replicate (6 - (lg_sl ([.ref v0, .int v1])).length) Slot.unset).toArray = ls at hl ⊢
  have hl : lv_has ls 6 [(0, .ref v0), (1, .int v1)] := hl
  unfold jf_X12_largest at hF
  refine lv_iconst (v := 0) hx hb dX12_largest_0 (by decide) ?_
  refine lv_istore_n (lv' := [(2, .int 0), (0, .ref v0), (1, .int v1)]) hx hb dX12_largest_1 rfl hl (by decide) rfl (fun ls hl => ?_)
  refine lv_iconst (v := 0) hx hb dX12_largest_2 (by decide) ?_
  refine lv_istore_n (lv' := [(3, .int 0), (2, .int 0), (0, .ref v0), (1, .int v1)]) hx hb dX12_largest_3 rfl hl (by decide) rfl (fun ls hl => ?_)
  obtain ⟨_, hF⟩ := xlim_sp hF
  exact jw_X12_largest_4 C0 _ _ _ _ _ t_v0 hF _ _ hR hS _ (lv_sub hl [2, 3, 1, 0] rfl)
theorem xm_X12_largest : xMw yX12_largest cX12_largest 6 (some .int) 1 := ⟨xin 1848 (by decide +kernel) rfl, xin 126 (by decide +kernel) rfl, by decide +kernel⟩
theorem xi_X12_largest : Cond.instanceMethod yX12_largest ∈ xT := xin 1847 (by decide +kernel) rfl
theorem xe_X12_largest : Cond.selects yX12_largest.cls yX12_largest yX12_largest ∈ xT := xin 106 (by decide +kernel) rfl
theorem dX12_apart_0 : decode cX12_apart 0 = .ok (.aload_n 0, 1) := by decide +kernel
theorem dX12_apart_1 : decode cX12_apart 1 = .ok (.iconst 0, 1) := by decide +kernel
theorem dX12_apart_2 : decode cX12_apart 2 = .ok (.putfield 101, 3) := by decide +kernel
theorem dX12_apart_5 : decode cX12_apart 5 = .ok (.iload_n 1, 1) := by decide +kernel
theorem dX12_apart_6 : decode cX12_apart 6 = .ok (.iconst 0, 1) := by decide +kernel
theorem dX12_apart_7 : decode cX12_apart 7 = .ok (.iconst 1, 1) := by decide +kernel
theorem dX12_apart_8 : decode cX12_apart 8 = .ok (.invokestatic 146, 3) := by decide +kernel
theorem dX12_apart_11 : decode cX12_apart 11 = .ok (.ifCond .ne 5, 3) := by decide +kernel
theorem dX12_apart_14 : decode cX12_apart 14 = .ok (.iconst (-1), 1) := by decide +kernel
theorem dX12_apart_15 : decode cX12_apart 15 = .ok (.ireturn, 1) := by decide +kernel
theorem dX12_apart_16 : decode cX12_apart 16 = .ok (.iconst 0, 1) := by decide +kernel
theorem dX12_apart_17 : decode cX12_apart 17 = .ok (.istore_n 2, 1) := by decide +kernel
theorem dX12_apart_18 : decode cX12_apart 18 = .ok (.iconst 1, 1) := by decide +kernel
theorem dX12_apart_19 : decode cX12_apart 19 = .ok (.istore_n 3, 1) := by decide +kernel
theorem dX12_apart_20 : decode cX12_apart 20 = .ok (.iload_n 3, 1) := by decide +kernel
theorem dX12_apart_21 : decode cX12_apart 21 = .ok (.bipush 12, 2) := by decide +kernel
theorem dX12_apart_23 : decode cX12_apart 23 = .ok (.if_icmp .ge 28, 3) := by decide +kernel
theorem dX12_apart_26 : decode cX12_apart 26 = .ok (.aload_n 0, 1) := by decide +kernel
theorem dX12_apart_27 : decode cX12_apart 27 = .ok (.iload_n 3, 1) := by decide +kernel
theorem dX12_apart_28 : decode cX12_apart 28 = .ok (.invokevirtual 367, 3) := by decide +kernel
theorem dX12_apart_31 : decode cX12_apart 31 = .ok (.aload_n 0, 1) := by decide +kernel
theorem dX12_apart_32 : decode cX12_apart 32 = .ok (.iload_n 2, 1) := by decide +kernel
theorem dX12_apart_33 : decode cX12_apart 33 = .ok (.invokevirtual 367, 3) := by decide +kernel
theorem dX12_apart_36 : decode cX12_apart 36 = .ok (.if_icmp .ge 7, 3) := by decide +kernel
theorem dX12_apart_39 : decode cX12_apart 39 = .ok (.iload_n 3, 1) := by decide +kernel
theorem dX12_apart_40 : decode cX12_apart 40 = .ok (.goto 4, 3) := by decide +kernel
theorem dX12_apart_43 : decode cX12_apart 43 = .ok (.iload_n 2, 1) := by decide +kernel
theorem dX12_apart_44 : decode cX12_apart 44 = .ok (.istore_n 2, 1) := by decide +kernel
theorem dX12_apart_45 : decode cX12_apart 45 = .ok (.iinc 3 1, 3) := by decide +kernel
theorem dX12_apart_48 : decode cX12_apart 48 = .ok (.goto (-28), 3) := by decide +kernel
theorem dX12_apart_51 : decode cX12_apart 51 = .ok (.iload_n 1, 1) := by decide +kernel
theorem dX12_apart_52 : decode cX12_apart 52 = .ok (.ifCond .ne 7, 3) := by decide +kernel
theorem dX12_apart_55 : decode cX12_apart 55 = .ok (.iload_n 2, 1) := by decide +kernel
theorem dX12_apart_56 : decode cX12_apart 56 = .ok (.goto 8, 3) := by decide +kernel
theorem dX12_apart_59 : decode cX12_apart 59 = .ok (.aload_n 0, 1) := by decide +kernel
theorem dX12_apart_60 : decode cX12_apart 60 = .ok (.iload_n 2, 1) := by decide +kernel
theorem dX12_apart_61 : decode cX12_apart 61 = .ok (.invokevirtual 367, 3) := by decide +kernel
theorem dX12_apart_64 : decode cX12_apart 64 = .ok (.ireturn, 1) := by decide +kernel
theorem wl_X12_367 : Cond.methodLink RX12 367 yX12_largest ∈ xT := xin 1845 (by decide +kernel) rfl
section XN_X12_apart
variable {p : Program} {l : Launch} {e : Env} {R : Room} {s : State} {m : MethodId} {args : Array Value} {below : List Frame} {meth : Method} {c : Code} {H H0 : Heap} {locs : List Loc} {cells slots : Nat} {Q : State → Prop} {cc : ByteArray} {nL pc : Nat} {rt : Option FieldType} {ls : Array Slot} {rest : List Value} {D : xD} {ty : xTy} {h : xH}
theorem cl_X12_367 {v0 : Nat} {v1 : Int32} {r : Int32} (C0 : xC D RX12 cc nL rt p s m args meth c) (hR : xRep D ty h H) (hS : xS ty H0 H locs) (hF : jf_X12_largest ty h v0 v1 = some r) (t_v0 : ty v0 = some (0, 12)) (hrm : jr_X12_largest.frames + 1 ≤ R.frames ∧ 8 + (6 + 11) + jr_X12_largest.locals ≤ R.locals) (hsz : ls.size = nL) (hW : (rest.map fun v => v.category).sum ≤ 8) (hf : cells ≤ R.cells ∧ slots ≤ R.slots) (hdg : decode cc pc = .ok (.invokevirtual 367, 3)) (kk : ∀ (H1 : Heap) (locs1 : List Loc), xRep D ty h H1 → xS ty H0 H1 locs1 → W p l e R s m args below meth c H1 locs1 cells slots Q (F0 m (pc + 3) ls (.int r :: rest))) : W p l e R s m args below meth c H locs cells slots Q (F0 m pc ls (.int v1 :: .ref v0 :: rest)) := x_callV C0 (jc_X12_largest t_v0 hF) xm_X12_largest xi_X12_largest xe_X12_largest wl_X12_367 ⟨rfl, rfl, hrm⟩ (ci := 12) rfl t_v0 hR hS (As := [.int v1]) rfl hsz rfl hW hdg hf kk
end XN_X12_apart
set_option maxHeartbeats 4000000 in
set_option maxRecDepth 100000 in
theorem jw_X12_apart_20 {p : Program} {l : Launch} {e : Env} {s : State} {m : MethodId} {args : Array Value} {below : List Frame} {meth : Method} {c : Code} {D : xD} {ty : xTy} (C0 : xC D RX12 cX12_apart 4 (some .int) p s m args meth c) {r : Int32} {h9 : xH} : ∀ n : Nat, ∀ (v0 : Nat) (v1 : Int32) (v2 : Int32) (v3 : Int32) (h : xH), ty v0 = some (0, 12) → jf_X12_apart_20 ty n v0 v1 v2 v3 h = some (r, h9) → ∀ (H : Heap) (locs : List Loc), xRep D ty h H → xS ty s.heap H locs → ∀ ls : Array Slot, lv_has ls 4 [(0, .ref v0), (1, .int v1), (2, .int v2), (3, .int v3)] → W p l e jr_X12_apart s m args below meth c H locs 0 0 (MQ below (xQ D ty (some (.int r)) h9) args s 0 0 (xdom ty)) (F0 m 20 ls []) := by
  have hx := C0.1
  have hb := C0.2.1
  have hown := C0.2.2.2.2.2.1
  have hts := C0.2.2.2.2.2.2.1
  intro n
  induction n with
  | zero =>
    intro v0 v1 v2 v3 h t_v0 hF H locs hR hS ls hl
    cases hF
  | succ n ih =>
    intro v0 v1 v2 v3 h t_v0 hF H locs hR hS ls hl
    rw [jf_X12_apart_20_s] at hF
    refine lv_iload_n hx hb dX12_apart_20 rfl (lv_at hl 3 rfl) ?_
    refine lv_bipush (v := 12) hx hb dX12_apart_21 (by decide) ?_
    refine lv_icmp_ge (tgt := 51) hx hb dX12_apart_23 (by decide) (fun c1 => ?_) (fun c1 => ?_)
    · have hF := xif hF c1
      refine lv_iload_n hx hb dX12_apart_51 rfl (lv_at hl 1 rfl) ?_
      refine lv_if_ne (tgt := 59) hx hb dX12_apart_52 (by decide) (fun c2 => ?_) (fun c2 => ?_)
      · have hF := xel hF c2
        refine lv_aload_n hx hb dX12_apart_59 rfl (lv_at hl 0 rfl) ?_
        refine lv_iload_n hx hb dX12_apart_60 rfl (lv_at hl 2 rfl) ?_
        obtain ⟨a3, e_a3, hF⟩ := xbd hF
        refine cl_X12_367 C0 hR hS e_a3 t_v0 ⟨(Nat.le_of_ble_eq_true rfl), (Nat.le_of_ble_eq_true rfl)⟩ hl.1 (Nat.le_of_ble_eq_true rfl) ⟨(Nat.le_of_ble_eq_true rfl), (Nat.le_of_ble_eq_true rfl)⟩ dX12_apart_61 (fun H locs hR hS => ?_)
        cases hF
        exact x_iret C0 hR hS dX12_apart_64
      · have hF := xif hF c2
        refine lv_iload_n hx hb dX12_apart_55 rfl (lv_at hl 2 rfl) ?_
        refine lv_goto (tgt := 64) hx hb dX12_apart_56 (by decide) ?_
        cases hF
        exact x_iret C0 hR hS dX12_apart_64
    · have hF := xel hF c1
      refine lv_aload_n hx hb dX12_apart_26 rfl (lv_at hl 0 rfl) ?_
      refine lv_iload_n hx hb dX12_apart_27 rfl (lv_at hl 3 rfl) ?_
      obtain ⟨a4, e_a4, hF⟩ := xbd hF
      refine cl_X12_367 C0 hR hS e_a4 t_v0 ⟨(Nat.le_of_ble_eq_true rfl), (Nat.le_of_ble_eq_true rfl)⟩ hl.1 (Nat.le_of_ble_eq_true rfl) ⟨(Nat.le_of_ble_eq_true rfl), (Nat.le_of_ble_eq_true rfl)⟩ dX12_apart_28 (fun H locs hR hS => ?_)
      refine lv_aload_n hx hb dX12_apart_31 rfl (lv_at hl 0 rfl) ?_
      refine lv_iload_n hx hb dX12_apart_32 rfl (lv_at hl 2 rfl) ?_
      obtain ⟨a5, e_a5, hF⟩ := xbd hF
      refine cl_X12_367 C0 hR hS e_a5 t_v0 ⟨(Nat.le_of_ble_eq_true rfl), (Nat.le_of_ble_eq_true rfl)⟩ hl.1 (Nat.le_of_ble_eq_true rfl) ⟨(Nat.le_of_ble_eq_true rfl), (Nat.le_of_ble_eq_true rfl)⟩ dX12_apart_33 (fun H locs hR hS => ?_)
      refine lv_icmp_ge (tgt := 43) hx hb dX12_apart_36 (by decide) (fun c6 => ?_) (fun c6 => ?_)
      · have hF := xif hF c6
        refine lv_iload_n hx hb dX12_apart_43 rfl (lv_at hl 2 rfl) ?_
        refine lv_istore_n (lv' := [(2, .int v2), (0, .ref v0), (1, .int v1), (3, .int v3)]) hx hb dX12_apart_44 rfl hl (by decide) rfl (fun ls hl => ?_)
        refine lv_iinc (v := v3 + 1) (lv' := [(3, .int (v3 + 1)), (2, .int v2), (0, .ref v0), (1, .int v1)]) hx hb dX12_apart_45 hl (k := 3) rfl rfl (by decide) rfl (fun ls hl => ?_)
        refine lv_goto (tgt := 20) hx hb dX12_apart_48 (by decide) ?_
        exact ih _ _ _ _ _ t_v0 hF _ _ hR hS _ (lv_sub hl [2, 3, 1, 0] rfl)
      · have hF := xel hF c6
        refine lv_iload_n hx hb dX12_apart_39 rfl (lv_at hl 3 rfl) ?_
        refine lv_goto (tgt := 44) hx hb dX12_apart_40 (by decide) ?_
        refine lv_istore_n (lv' := [(2, .int v3), (0, .ref v0), (1, .int v1), (3, .int v3)]) hx hb dX12_apart_44 rfl hl (by decide) rfl (fun ls hl => ?_)
        refine lv_iinc (v := v3 + 1) (lv' := [(3, .int (v3 + 1)), (2, .int v3), (0, .ref v0), (1, .int v1)]) hx hb dX12_apart_45 hl (k := 3) rfl rfl (by decide) rfl (fun ls hl => ?_)
        refine lv_goto (tgt := 20) hx hb dX12_apart_48 (by decide) ?_
        exact ih _ _ _ _ _ t_v0 hF _ _ hR hS _ (lv_sub hl [2, 3, 1, 0] rfl)
set_option maxHeartbeats 4000000 in
set_option maxRecDepth 100000 in
theorem jc_X12_apart {l : Launch} {D : xD} {ty : xTy} {h : xH} {v0 : Nat} {v1 : Int32} {r : Int32} {h9 : xH} (t_v0 : ty v0 = some (0, 12)) (hF : jf_X12_apart ty h v0 v1 = some (r, h9)) : Met l yX12_apart (xws yX12_apart cX12_apart 4 (some .int)) jr_X12_apart (xPc D ty h [.ref v0, .int v1]) (xQ D ty (some (.int r)) h9) 0 0 (xdom ty) := by
  refine x_met (by decide) ?_
  intro p e s m below meth c C0 hR
  generalize hargs : ([.ref v0, .int v1] : List Value).toArray = args at C0 ⊢
  have hx := C0.1
  have hb := C0.2.1
  have hown := C0.2.2.2.2.2.1
  have hts := C0.2.2.2.2.2.2.1
  have hS : xS ty s.heap s.heap [] := xS.rf
  have hl := lv_entry ([.ref v0, .int v1]) (n := 4) (Nat.le_of_ble_eq_true rfl)
  rw [← hargs, lg_entry_eq]
  rw [hargs]
  generalize (lg_sl ([.ref v0, .int v1]) ++ List.replicate (4 - (lg_sl ([.ref v0, .int v1])).length) Slot.unset).toArray = ls at hl ⊢
  have hl : lv_has ls 4 [(0, .ref v0), (1, .int v1)] := hl
  unfold jf_X12_apart at hF
  refine lv_aload_n hx hb dX12_apart_0 rfl (lv_at hl 0 rfl) ?_
  refine lv_iconst (v := 0) hx hb dX12_apart_1 (by decide) ?_
  obtain ⟨h7, e_h7, hF⟩ := xbd hF
  refine pf_X12_101 C0 hR hS t_v0 dX12_apart_2 (fun H locs hR hS => ?_)
  rw [Option.some.inj e_h7] at hR
  refine lv_iload_n hx hb dX12_apart_5 rfl (lv_at hl 1 rfl) ?_
  refine lv_iconst (v := 0) hx hb dX12_apart_6 (by decide) ?_
  refine lv_iconst (v := 1) hx hb dX12_apart_7 (by decide) ?_
  obtain ⟨a8, e_a8, hF⟩ := xbd hF
  refine cl_X12_146 C0 hR hS e_a8  ⟨(Nat.le_of_ble_eq_true rfl), (Nat.le_of_ble_eq_true rfl)⟩ hl.1 (Nat.le_of_ble_eq_true rfl) ⟨(Nat.le_of_ble_eq_true rfl), (Nat.le_of_ble_eq_true rfl)⟩ dX12_apart_8 (fun H locs hR hS => ?_)
  refine lv_if_ne (tgt := 16) hx hb dX12_apart_11 (by decide) (fun c9 => ?_) (fun c9 => ?_)
  · have hF := xel hF c9
    refine lv_iconst (v := 0) hx hb dX12_apart_16 (by decide) ?_
    refine lv_istore_n (lv' := [(2, .int 0), (0, .ref v0), (1, .int v1)]) hx hb dX12_apart_17 rfl hl (by decide) rfl (fun ls hl => ?_)
    refine lv_iconst (v := 1) hx hb dX12_apart_18 (by decide) ?_
    refine lv_istore_n (lv' := [(3, .int 1), (2, .int 0), (0, .ref v0), (1, .int v1)]) hx hb dX12_apart_19 rfl hl (by decide) rfl (fun ls hl => ?_)
    obtain ⟨_, hF⟩ := xlim_sp hF
    exact jw_X12_apart_20 C0 _ _ _ _ _ _ t_v0 hF _ _ hR hS _ (lv_sub hl [2, 3, 1, 0] rfl)
  · have hF := xif hF c9
    refine lv_iconst (v := (-1)) hx hb dX12_apart_14 (by decide) ?_
    cases hF
    exact x_iret C0 hR hS dX12_apart_15
theorem xm_X12_apart : xMw yX12_apart cX12_apart 4 (some .int) 1 := ⟨xin 1844 (by decide +kernel) rfl, xin 126 (by decide +kernel) rfl, by decide +kernel⟩
theorem xi_X12_apart : Cond.instanceMethod yX12_apart ∈ xT := xin 1842 (by decide +kernel) rfl
theorem xe_X12_apart : Cond.selects yX12_apart.cls yX12_apart yX12_apart ∈ xT := xin 1843 (by decide +kernel) rfl
theorem dX12_isReplaced_0 : decode cX12_isReplaced 0 = .ok (.aload_n 0, 1) := by decide +kernel
theorem dX12_isReplaced_1 : decode cX12_isReplaced 1 = .ok (.iconst 0, 1) := by decide +kernel
theorem dX12_isReplaced_2 : decode cX12_isReplaced 2 = .ok (.putfield 370, 3) := by decide +kernel
theorem dX12_isReplaced_5 : decode cX12_isReplaced 5 = .ok (.iconst 0, 1) := by decide +kernel
theorem dX12_isReplaced_6 : decode cX12_isReplaced 6 = .ok (.istore_n 3, 1) := by decide +kernel
theorem dX12_isReplaced_7 : decode cX12_isReplaced 7 = .ok (.iload_n 3, 1) := by decide +kernel
theorem dX12_isReplaced_8 : decode cX12_isReplaced 8 = .ok (.iload_n 2, 1) := by decide +kernel
theorem dX12_isReplaced_9 : decode cX12_isReplaced 9 = .ok (.if_icmp .ge 34, 3) := by decide +kernel
theorem dX12_isReplaced_12 : decode cX12_isReplaced 12 = .ok (.aload_n 0, 1) := by decide +kernel
theorem dX12_isReplaced_13 : decode cX12_isReplaced 13 = .ok (.getfield 86, 3) := by decide +kernel
theorem dX12_isReplaced_16 : decode cX12_isReplaced 16 = .ok (.aload_n 0, 1) := by decide +kernel
theorem dX12_isReplaced_17 : decode cX12_isReplaced 17 = .ok (.getfield 370, 3) := by decide +kernel
theorem dX12_isReplaced_20 : decode cX12_isReplaced 20 = .ok (.aload_n 0, 1) := by decide +kernel
theorem dX12_isReplaced_21 : decode cX12_isReplaced 21 = .ok (.getfield 83, 3) := by decide +kernel
theorem dX12_isReplaced_24 : decode cX12_isReplaced 24 = .ok (.iload_n 3, 1) := by decide +kernel
theorem dX12_isReplaced_25 : decode cX12_isReplaced 25 = .ok (.iaload, 1) := by decide +kernel
theorem dX12_isReplaced_26 : decode cX12_isReplaced 26 = .ok (.iastore, 1) := by decide +kernel
theorem dX12_isReplaced_27 : decode cX12_isReplaced 27 = .ok (.aload_n 0, 1) := by decide +kernel
theorem dX12_isReplaced_28 : decode cX12_isReplaced 28 = .ok (.dup, 1) := by decide +kernel
theorem dX12_isReplaced_29 : decode cX12_isReplaced 29 = .ok (.getfield 370, 3) := by decide +kernel
theorem dX12_isReplaced_32 : decode cX12_isReplaced 32 = .ok (.iconst 1, 1) := by decide +kernel
theorem dX12_isReplaced_33 : decode cX12_isReplaced 33 = .ok (.iadd, 1) := by decide +kernel
theorem dX12_isReplaced_34 : decode cX12_isReplaced 34 = .ok (.putfield 370, 3) := by decide +kernel
theorem dX12_isReplaced_37 : decode cX12_isReplaced 37 = .ok (.iinc 3 1, 3) := by decide +kernel
theorem dX12_isReplaced_40 : decode cX12_isReplaced 40 = .ok (.goto (-33), 3) := by decide +kernel
theorem dX12_isReplaced_43 : decode cX12_isReplaced 43 = .ok (.iconst 0, 1) := by decide +kernel
theorem dX12_isReplaced_44 : decode cX12_isReplaced 44 = .ok (.istore_n 3, 1) := by decide +kernel
theorem dX12_isReplaced_45 : decode cX12_isReplaced 45 = .ok (.iload_n 3, 1) := by decide +kernel
theorem dX12_isReplaced_46 : decode cX12_isReplaced 46 = .ok (.aload_n 0, 1) := by decide +kernel
theorem dX12_isReplaced_47 : decode cX12_isReplaced 47 = .ok (.getfield 38, 3) := by decide +kernel
theorem dX12_isReplaced_50 : decode cX12_isReplaced 50 = .ok (.iload_n 1, 1) := by decide +kernel
theorem dX12_isReplaced_51 : decode cX12_isReplaced 51 = .ok (.iaload, 1) := by decide +kernel
theorem dX12_isReplaced_52 : decode cX12_isReplaced 52 = .ok (.if_icmp .ge 140, 3) := by decide +kernel
theorem dX12_isReplaced_55 : decode cX12_isReplaced 55 = .ok (.aload_n 0, 1) := by decide +kernel
theorem dX12_isReplaced_56 : decode cX12_isReplaced 56 = .ok (.getfield 41, 3) := by decide +kernel
theorem dX12_isReplaced_59 : decode cX12_isReplaced 59 = .ok (.bipush 12, 2) := by decide +kernel
theorem dX12_isReplaced_61 : decode cX12_isReplaced 61 = .ok (.iload_n 1, 1) := by decide +kernel
theorem dX12_isReplaced_62 : decode cX12_isReplaced 62 = .ok (.imul, 1) := by decide +kernel
theorem dX12_isReplaced_63 : decode cX12_isReplaced 63 = .ok (.iload_n 3, 1) := by decide +kernel
theorem dX12_isReplaced_64 : decode cX12_isReplaced 64 = .ok (.iadd, 1) := by decide +kernel
theorem dX12_isReplaced_65 : decode cX12_isReplaced 65 = .ok (.iaload, 1) := by decide +kernel
theorem dX12_isReplaced_66 : decode cX12_isReplaced 66 = .ok (.istore 4, 2) := by decide +kernel
theorem dX12_isReplaced_68 : decode cX12_isReplaced 68 = .ok (.iload 4, 2) := by decide +kernel
theorem dX12_isReplaced_70 : decode cX12_isReplaced 70 = .ok (.bipush 100, 2) := by decide +kernel
theorem dX12_isReplaced_72 : decode cX12_isReplaced 72 = .ok (.if_icmp .ge 7, 3) := by decide +kernel
theorem dX12_isReplaced_75 : decode cX12_isReplaced 75 = .ok (.iconst (-1), 1) := by decide +kernel
theorem dX12_isReplaced_76 : decode cX12_isReplaced 76 = .ok (.goto 15, 3) := by decide +kernel
theorem dX12_isReplaced_79 : decode cX12_isReplaced 79 = .ok (.aload_n 0, 1) := by decide +kernel
theorem dX12_isReplaced_80 : decode cX12_isReplaced 80 = .ok (.getfield 56, 3) := by decide +kernel
theorem dX12_isReplaced_83 : decode cX12_isReplaced 83 = .ok (.iconst 4, 1) := by decide +kernel
theorem dX12_isReplaced_84 : decode cX12_isReplaced 84 = .ok (.iload 4, 2) := by decide +kernel
theorem dX12_isReplaced_86 : decode cX12_isReplaced 86 = .ok (.iadd, 1) := by decide +kernel
theorem dX12_isReplaced_87 : decode cX12_isReplaced 87 = .ok (.bipush 100, 2) := by decide +kernel
theorem dX12_isReplaced_89 : decode cX12_isReplaced 89 = .ok (.isub, 1) := by decide +kernel
theorem dX12_isReplaced_90 : decode cX12_isReplaced 90 = .ok (.iaload, 1) := by decide +kernel
theorem dX12_isReplaced_91 : decode cX12_isReplaced 91 = .ok (.istore 5, 2) := by decide +kernel
theorem dX12_isReplaced_93 : decode cX12_isReplaced 93 = .ok (.iload 4, 2) := by decide +kernel
theorem dX12_isReplaced_95 : decode cX12_isReplaced 95 = .ok (.bipush 100, 2) := by decide +kernel
theorem dX12_isReplaced_97 : decode cX12_isReplaced 97 = .ok (.if_icmp .ge 7, 3) := by decide +kernel
theorem dX12_isReplaced_100 : decode cX12_isReplaced 100 = .ok (.iconst 1, 1) := by decide +kernel
theorem dX12_isReplaced_101 : decode cX12_isReplaced 101 = .ok (.goto 12, 3) := by decide +kernel
theorem dX12_isReplaced_104 : decode cX12_isReplaced 104 = .ok (.aload_n 0, 1) := by decide +kernel
theorem dX12_isReplaced_105 : decode cX12_isReplaced 105 = .ok (.iload 5, 2) := by decide +kernel
theorem dX12_isReplaced_107 : decode cX12_isReplaced 107 = .ok (.invokevirtual 241, 3) := by decide +kernel
theorem dX12_isReplaced_110 : decode cX12_isReplaced 110 = .ok (.iload 5, 2) := by decide +kernel
theorem dX12_isReplaced_112 : decode cX12_isReplaced 112 = .ok (.isub, 1) := by decide +kernel
theorem dX12_isReplaced_113 : decode cX12_isReplaced 113 = .ok (.istore 6, 2) := by decide +kernel
theorem dX12_isReplaced_115 : decode cX12_isReplaced 115 = .ok (.aload_n 0, 1) := by decide +kernel
theorem dX12_isReplaced_116 : decode cX12_isReplaced 116 = .ok (.getfield 370, 3) := by decide +kernel
theorem dX12_isReplaced_119 : decode cX12_isReplaced 119 = .ok (.iload 6, 2) := by decide +kernel
theorem dX12_isReplaced_121 : decode cX12_isReplaced 121 = .ok (.iadd, 1) := by decide +kernel
theorem dX12_isReplaced_122 : decode cX12_isReplaced 122 = .ok (.bipush 60, 2) := by decide +kernel
theorem dX12_isReplaced_124 : decode cX12_isReplaced 124 = .ok (.if_icmp .le 5, 3) := by decide +kernel
theorem dX12_isReplaced_127 : decode cX12_isReplaced 127 = .ok (.iconst 0, 1) := by decide +kernel
theorem dX12_isReplaced_128 : decode cX12_isReplaced 128 = .ok (.ireturn, 1) := by decide +kernel
theorem dX12_isReplaced_129 : decode cX12_isReplaced 129 = .ok (.iconst 0, 1) := by decide +kernel
theorem dX12_isReplaced_130 : decode cX12_isReplaced 130 = .ok (.istore 7, 2) := by decide +kernel
theorem dX12_isReplaced_132 : decode cX12_isReplaced 132 = .ok (.iload 7, 2) := by decide +kernel
theorem dX12_isReplaced_134 : decode cX12_isReplaced 134 = .ok (.iload 6, 2) := by decide +kernel
theorem dX12_isReplaced_136 : decode cX12_isReplaced 136 = .ok (.if_icmp .ge 50, 3) := by decide +kernel
theorem dX12_isReplaced_139 : decode cX12_isReplaced 139 = .ok (.aload_n 0, 1) := by decide +kernel
theorem dX12_isReplaced_140 : decode cX12_isReplaced 140 = .ok (.getfield 86, 3) := by decide +kernel
theorem dX12_isReplaced_143 : decode cX12_isReplaced 143 = .ok (.aload_n 0, 1) := by decide +kernel
theorem dX12_isReplaced_144 : decode cX12_isReplaced 144 = .ok (.getfield 370, 3) := by decide +kernel
theorem dX12_isReplaced_147 : decode cX12_isReplaced 147 = .ok (.iload 4, 2) := by decide +kernel
theorem dX12_isReplaced_149 : decode cX12_isReplaced 149 = .ok (.bipush 100, 2) := by decide +kernel
theorem dX12_isReplaced_151 : decode cX12_isReplaced 151 = .ok (.if_icmp .ge 8, 3) := by decide +kernel
theorem dX12_isReplaced_154 : decode cX12_isReplaced 154 = .ok (.iload 4, 2) := by decide +kernel
theorem dX12_isReplaced_156 : decode cX12_isReplaced 156 = .ok (.goto 13, 3) := by decide +kernel
theorem dX12_isReplaced_159 : decode cX12_isReplaced 159 = .ok (.aload_n 0, 1) := by decide +kernel
theorem dX12_isReplaced_160 : decode cX12_isReplaced 160 = .ok (.getfield 53, 3) := by decide +kernel
theorem dX12_isReplaced_163 : decode cX12_isReplaced 163 = .ok (.iload 5, 2) := by decide +kernel
theorem dX12_isReplaced_165 : decode cX12_isReplaced 165 = .ok (.iload 7, 2) := by decide +kernel
theorem dX12_isReplaced_167 : decode cX12_isReplaced 167 = .ok (.iadd, 1) := by decide +kernel
theorem dX12_isReplaced_168 : decode cX12_isReplaced 168 = .ok (.iaload, 1) := by decide +kernel
theorem dX12_isReplaced_169 : decode cX12_isReplaced 169 = .ok (.iastore, 1) := by decide +kernel
theorem dX12_isReplaced_170 : decode cX12_isReplaced 170 = .ok (.aload_n 0, 1) := by decide +kernel
theorem dX12_isReplaced_171 : decode cX12_isReplaced 171 = .ok (.dup, 1) := by decide +kernel
theorem dX12_isReplaced_172 : decode cX12_isReplaced 172 = .ok (.getfield 370, 3) := by decide +kernel
theorem dX12_isReplaced_175 : decode cX12_isReplaced 175 = .ok (.iconst 1, 1) := by decide +kernel
theorem dX12_isReplaced_176 : decode cX12_isReplaced 176 = .ok (.iadd, 1) := by decide +kernel
theorem dX12_isReplaced_177 : decode cX12_isReplaced 177 = .ok (.putfield 370, 3) := by decide +kernel
theorem dX12_isReplaced_180 : decode cX12_isReplaced 180 = .ok (.iinc 7 1, 3) := by decide +kernel
theorem dX12_isReplaced_183 : decode cX12_isReplaced 183 = .ok (.goto (-51), 3) := by decide +kernel
theorem dX12_isReplaced_186 : decode cX12_isReplaced 186 = .ok (.iinc 3 1, 3) := by decide +kernel
theorem dX12_isReplaced_189 : decode cX12_isReplaced 189 = .ok (.goto (-144), 3) := by decide +kernel
theorem dX12_isReplaced_192 : decode cX12_isReplaced 192 = .ok (.aload_n 0, 1) := by decide +kernel
theorem dX12_isReplaced_193 : decode cX12_isReplaced 193 = .ok (.iload_n 2, 1) := by decide +kernel
theorem dX12_isReplaced_194 : decode cX12_isReplaced 194 = .ok (.invokevirtual 241, 3) := by decide +kernel
theorem dX12_isReplaced_197 : decode cX12_isReplaced 197 = .ok (.istore_n 3, 1) := by decide +kernel
theorem dX12_isReplaced_198 : decode cX12_isReplaced 198 = .ok (.iload_n 3, 1) := by decide +kernel
theorem dX12_isReplaced_199 : decode cX12_isReplaced 199 = .ok (.aload_n 0, 1) := by decide +kernel
theorem dX12_isReplaced_200 : decode cX12_isReplaced 200 = .ok (.getfield 373, 3) := by decide +kernel
theorem dX12_isReplaced_203 : decode cX12_isReplaced 203 = .ok (.if_icmp .ge 45, 3) := by decide +kernel
theorem dX12_isReplaced_206 : decode cX12_isReplaced 206 = .ok (.aload_n 0, 1) := by decide +kernel
theorem dX12_isReplaced_207 : decode cX12_isReplaced 207 = .ok (.getfield 370, 3) := by decide +kernel
theorem dX12_isReplaced_210 : decode cX12_isReplaced 210 = .ok (.bipush 60, 2) := by decide +kernel
theorem dX12_isReplaced_212 : decode cX12_isReplaced 212 = .ok (.if_icmp .ne 5, 3) := by decide +kernel
theorem dX12_isReplaced_215 : decode cX12_isReplaced 215 = .ok (.iconst 0, 1) := by decide +kernel
theorem dX12_isReplaced_216 : decode cX12_isReplaced 216 = .ok (.ireturn, 1) := by decide +kernel
theorem dX12_isReplaced_217 : decode cX12_isReplaced 217 = .ok (.aload_n 0, 1) := by decide +kernel
theorem dX12_isReplaced_218 : decode cX12_isReplaced 218 = .ok (.getfield 86, 3) := by decide +kernel
theorem dX12_isReplaced_221 : decode cX12_isReplaced 221 = .ok (.aload_n 0, 1) := by decide +kernel
theorem dX12_isReplaced_222 : decode cX12_isReplaced 222 = .ok (.getfield 370, 3) := by decide +kernel
theorem dX12_isReplaced_225 : decode cX12_isReplaced 225 = .ok (.aload_n 0, 1) := by decide +kernel
theorem dX12_isReplaced_226 : decode cX12_isReplaced 226 = .ok (.getfield 83, 3) := by decide +kernel
theorem dX12_isReplaced_229 : decode cX12_isReplaced 229 = .ok (.iload_n 3, 1) := by decide +kernel
theorem dX12_isReplaced_230 : decode cX12_isReplaced 230 = .ok (.iaload, 1) := by decide +kernel
theorem dX12_isReplaced_231 : decode cX12_isReplaced 231 = .ok (.iastore, 1) := by decide +kernel
theorem dX12_isReplaced_232 : decode cX12_isReplaced 232 = .ok (.aload_n 0, 1) := by decide +kernel
theorem dX12_isReplaced_233 : decode cX12_isReplaced 233 = .ok (.dup, 1) := by decide +kernel
theorem dX12_isReplaced_234 : decode cX12_isReplaced 234 = .ok (.getfield 370, 3) := by decide +kernel
theorem dX12_isReplaced_237 : decode cX12_isReplaced 237 = .ok (.iconst 1, 1) := by decide +kernel
theorem dX12_isReplaced_238 : decode cX12_isReplaced 238 = .ok (.iadd, 1) := by decide +kernel
theorem dX12_isReplaced_239 : decode cX12_isReplaced 239 = .ok (.putfield 370, 3) := by decide +kernel
theorem dX12_isReplaced_242 : decode cX12_isReplaced 242 = .ok (.iinc 3 1, 3) := by decide +kernel
theorem dX12_isReplaced_245 : decode cX12_isReplaced 245 = .ok (.goto (-47), 3) := by decide +kernel
theorem dX12_isReplaced_248 : decode cX12_isReplaced 248 = .ok (.iconst 0, 1) := by decide +kernel
theorem dX12_isReplaced_249 : decode cX12_isReplaced 249 = .ok (.istore_n 3, 1) := by decide +kernel
theorem dX12_isReplaced_250 : decode cX12_isReplaced 250 = .ok (.iload_n 3, 1) := by decide +kernel
theorem dX12_isReplaced_251 : decode cX12_isReplaced 251 = .ok (.aload_n 0, 1) := by decide +kernel
theorem dX12_isReplaced_252 : decode cX12_isReplaced 252 = .ok (.getfield 370, 3) := by decide +kernel
theorem dX12_isReplaced_255 : decode cX12_isReplaced 255 = .ok (.if_icmp .ge 21, 3) := by decide +kernel
theorem dX12_isReplaced_258 : decode cX12_isReplaced 258 = .ok (.aload_n 0, 1) := by decide +kernel
theorem dX12_isReplaced_259 : decode cX12_isReplaced 259 = .ok (.getfield 83, 3) := by decide +kernel
theorem dX12_isReplaced_262 : decode cX12_isReplaced 262 = .ok (.iload_n 3, 1) := by decide +kernel
theorem dX12_isReplaced_263 : decode cX12_isReplaced 263 = .ok (.aload_n 0, 1) := by decide +kernel
theorem dX12_isReplaced_264 : decode cX12_isReplaced 264 = .ok (.getfield 86, 3) := by decide +kernel
theorem dX12_isReplaced_267 : decode cX12_isReplaced 267 = .ok (.iload_n 3, 1) := by decide +kernel
theorem dX12_isReplaced_268 : decode cX12_isReplaced 268 = .ok (.iaload, 1) := by decide +kernel
theorem dX12_isReplaced_269 : decode cX12_isReplaced 269 = .ok (.iastore, 1) := by decide +kernel
theorem dX12_isReplaced_270 : decode cX12_isReplaced 270 = .ok (.iinc 3 1, 3) := by decide +kernel
theorem dX12_isReplaced_273 : decode cX12_isReplaced 273 = .ok (.goto (-23), 3) := by decide +kernel
theorem dX12_isReplaced_276 : decode cX12_isReplaced 276 = .ok (.aload_n 0, 1) := by decide +kernel
theorem dX12_isReplaced_277 : decode cX12_isReplaced 277 = .ok (.aload_n 0, 1) := by decide +kernel
theorem dX12_isReplaced_278 : decode cX12_isReplaced 278 = .ok (.getfield 370, 3) := by decide +kernel
theorem dX12_isReplaced_281 : decode cX12_isReplaced 281 = .ok (.putfield 373, 3) := by decide +kernel
theorem dX12_isReplaced_284 : decode cX12_isReplaced 284 = .ok (.iconst 1, 1) := by decide +kernel
theorem dX12_isReplaced_285 : decode cX12_isReplaced 285 = .ok (.ireturn, 1) := by decide +kernel
theorem wf_X12_370 : Cond.fieldLink RX12 370 "TermShelfModel" "thenLong" "I" ∈ xT := xin 1365 (by decide +kernel) rfl
theorem wf_X12_373 : Cond.fieldLink RX12 373 "TermShelfModel" "nowLong" "I" ∈ xT := xin 1361 (by decide +kernel) rfl
theorem wf_X12_83 : Cond.fieldLink RX12 83 "TermShelfModel" "now" "[I" ∈ xT := xin 1360 (by decide +kernel) rfl
theorem wf_X12_86 : Cond.fieldLink RX12 86 "TermShelfModel" "then" "[I" ∈ xT := xin 1364 (by decide +kernel) rfl
section XN_X12_isReplaced
variable {p : Program} {l : Launch} {e : Env} {R : Room} {s : State} {m : MethodId} {args : Array Value} {below : List Frame} {meth : Method} {c : Code} {H H0 : Heap} {locs : List Loc} {cells slots : Nat} {Q : State → Prop} {cc : ByteArray} {nL pc : Nat} {rt : Option FieldType} {ls : Array Slot} {rest : List Value} {D : xD} {ty : xTy} {h : xH}
theorem gf_X12_370 {a : Nat} (C0 : xC D RX12 cc nL rt p s m args meth c) (hR : xRep D ty h H) (ht : ty a = some (0, 12)) (hdg : decode cc pc = .ok (.getfield 370, 3)) (kk : W p l e R s m args below meth c H locs cells slots Q (F0 m (pc + 3) ls (.int (xI h a 53) :: rest))) : W p l e R s m args below meth c H locs cells slots Q (F0 m pc ls (.ref a :: rest)) := x_get C0 hR (ci := 12) (k := 53) (N := 60) (T := TX12) rfl iX12 (by decide) rfl wf_X12_370 rfl ht hdg kk
theorem gf_X12_373 {a : Nat} (C0 : xC D RX12 cc nL rt p s m args meth c) (hR : xRep D ty h H) (ht : ty a = some (0, 12)) (hdg : decode cc pc = .ok (.getfield 373, 3)) (kk : W p l e R s m args below meth c H locs cells slots Q (F0 m (pc + 3) ls (.int (xI h a 49) :: rest))) : W p l e R s m args below meth c H locs cells slots Q (F0 m pc ls (.ref a :: rest)) := x_get C0 hR (ci := 12) (k := 49) (N := 60) (T := TX12) rfl iX12 (by decide) rfl wf_X12_373 rfl ht hdg kk
theorem gf_X12_83 {a : Nat} (C0 : xC D RX12 cc nL rt p s m args meth c) (hR : xRep D ty h H) (ht : ty a = some (0, 12)) {v : Nat} (hv : xR h a 48 = some v) (hdg : decode cc pc = .ok (.getfield 83, 3)) (kk : W p l e R s m args below meth c H locs cells slots Q (F0 m (pc + 3) ls (.ref v :: rest))) : W p l e R s m args below meth c H locs cells slots Q (F0 m pc ls (.ref a :: rest)) := x_get C0 hR (ci := 12) (k := 48) (N := 60) (T := TX12) rfl iX12 (by decide) rfl wf_X12_83 (by show va_rf (xR h a 48) = _; rw [hv]; rfl) ht hdg kk
theorem gf_X12_86 {a : Nat} (C0 : xC D RX12 cc nL rt p s m args meth c) (hR : xRep D ty h H) (ht : ty a = some (0, 12)) {v : Nat} (hv : xR h a 52 = some v) (hdg : decode cc pc = .ok (.getfield 86, 3)) (kk : W p l e R s m args below meth c H locs cells slots Q (F0 m (pc + 3) ls (.ref v :: rest))) : W p l e R s m args below meth c H locs cells slots Q (F0 m pc ls (.ref a :: rest)) := x_get C0 hR (ci := 12) (k := 52) (N := 60) (T := TX12) rfl iX12 (by decide) rfl wf_X12_86 (by show va_rf (xR h a 52) = _; rw [hv]; rfl) ht hdg kk
theorem pf_X12_370 {a : Nat} {v : Int32} (C0 : xC D RX12 cc nL rt p s m args meth c) (hR : xRep D ty h H) (hS : xS ty H0 H locs) (ht : ty a = some (0, 12)) (hdg : decode cc pc = .ok (.putfield 370, 3)) (kk : ∀ (H1 : Heap) (locs1 : List Loc), xRep D ty (xsI h a 53 v) H1 → xS ty H0 H1 locs1 → W p l e R s m args below meth c H1 locs1 cells slots Q (F0 m (pc + 3) ls rest)) : W p l e R s m args below meth c H locs cells slots Q (F0 m pc ls (.int v :: .ref a :: rest)) := x_puti C0 hR hS (ci := 12) (k := 53) (N := 60) (T := TX12) rfl iX12 tyX12_ok nmX12 (by decide) rfl rfl wf_X12_370 (Or.inl rfl) rfl rfl ht hdg kk
theorem pf_X12_373 {a : Nat} {v : Int32} (C0 : xC D RX12 cc nL rt p s m args meth c) (hR : xRep D ty h H) (hS : xS ty H0 H locs) (ht : ty a = some (0, 12)) (hdg : decode cc pc = .ok (.putfield 373, 3)) (kk : ∀ (H1 : Heap) (locs1 : List Loc), xRep D ty (xsI h a 49 v) H1 → xS ty H0 H1 locs1 → W p l e R s m args below meth c H1 locs1 cells slots Q (F0 m (pc + 3) ls rest)) : W p l e R s m args below meth c H locs cells slots Q (F0 m pc ls (.int v :: .ref a :: rest)) := x_puti C0 hR hS (ci := 12) (k := 49) (N := 60) (T := TX12) rfl iX12 tyX12_ok nmX12 (by decide) rfl rfl wf_X12_373 (Or.inl rfl) rfl rfl ht hdg kk
end XN_X12_isReplaced
set_option maxHeartbeats 4000000 in
set_option maxRecDepth 100000 in
theorem jw_X12_isReplaced_250 {p : Program} {l : Launch} {e : Env} {s : State} {m : MethodId} {args : Array Value} {below : List Frame} {meth : Method} {c : Code} {D : xD} {ty : xTy} (C0 : xC D RX12 cX12_isReplaced 8 (some .boolean) p s m args meth c) {r : Int32} {h9 : xH} : ∀ n : Nat, ∀ (v0 : Nat) (v3 : Int32) (h : xH), ty v0 = some (0, 12) → jf_X12_isReplaced_250 ty n v0 v3 h = some (r, h9) → ∀ (H : Heap) (locs : List Loc), xRep D ty h H → xS ty s.heap H locs → ∀ ls : Array Slot, lv_has ls 8 [(0, .ref v0), (3, .int v3)] → W p l e jr_X12_isReplaced s m args below meth c H locs 0 0 (MQ below (xQ D ty (some (.int r)) h9) args s 0 0 (xdom ty)) (F0 m 250 ls []) := by
  have hx := C0.1
  have hb := C0.2.1
  have hown := C0.2.2.2.2.2.1
  have hts := C0.2.2.2.2.2.2.1
  intro n
  induction n with
  | zero =>
    intro v0 v3 h t_v0 hF H locs hR hS ls hl
    cases hF
  | succ n ih =>
    intro v0 v3 h t_v0 hF H locs hR hS ls hl
    rw [jf_X12_isReplaced_250_s] at hF
    refine lv_iload_n hx hb dX12_isReplaced_250 rfl (lv_at hl 1 rfl) ?_
    refine lv_aload_n hx hb dX12_isReplaced_251 rfl (lv_at hl 0 rfl) ?_
    refine gf_X12_370 C0 hR t_v0 dX12_isReplaced_252 ?_
    refine lv_icmp_ge (tgt := 276) hx hb dX12_isReplaced_255 (by decide) (fun c1 => ?_) (fun c1 => ?_)
    · have hF := xif hF c1
      refine lv_aload_n hx hb dX12_isReplaced_276 rfl (lv_at hl 0 rfl) ?_
      refine lv_aload_n hx hb dX12_isReplaced_277 rfl (lv_at hl 0 rfl) ?_
      refine gf_X12_370 C0 hR t_v0 dX12_isReplaced_278 ?_
      obtain ⟨h2, e_h2, hF⟩ := xbd hF
      refine pf_X12_373 C0 hR hS t_v0 dX12_isReplaced_281 (fun H locs hR hS => ?_)
      rw [Option.some.inj e_h2] at hR
      refine lv_iconst (v := 1) hx hb dX12_isReplaced_284 (by decide) ?_
      cases hF
      exact x_zret (w := 1) C0 hR hS (by decide) dX12_isReplaced_285
    · have hF := xel hF c1
      refine lv_aload_n hx hb dX12_isReplaced_258 rfl (lv_at hl 0 rfl) ?_
      obtain ⟨a3, e_a3, hF⟩ := xbd hF
      refine gf_X12_83 C0 hR t_v0 e_a3 dX12_isReplaced_259 ?_
      refine lv_iload_n hx hb dX12_isReplaced_262 rfl (lv_at hl 1 rfl) ?_
      refine lv_aload_n hx hb dX12_isReplaced_263 rfl (lv_at hl 0 rfl) ?_
      obtain ⟨a4, e_a4, hF⟩ := xbd hF
      refine gf_X12_86 C0 hR t_v0 e_a4 dX12_isReplaced_264 ?_
      refine lv_iload_n hx hb dX12_isReplaced_267 rfl (lv_at hl 1 rfl) ?_
      obtain ⟨a5, e_a5, hF⟩ := xbd hF
      refine x_iald C0 hR e_a5 dX12_isReplaced_268 ?_
      obtain ⟨h6, e_h6, hF⟩ := xbd hF
      refine x_iast C0 hR hS e_h6 dX12_isReplaced_269 (fun H locs hR hS => ?_)
      refine lv_iinc (v := v3 + 1) (lv' := [(3, .int (v3 + 1)), (0, .ref v0)]) hx hb dX12_isReplaced_270 hl (k := 1) rfl rfl (by decide) rfl (fun ls hl => ?_)
      refine lv_goto (tgt := 250) hx hb dX12_isReplaced_273 (by decide) ?_
      exact ih _ _ _ t_v0 hF _ _ hR hS _ (lv_sub hl [1, 0] rfl)
set_option maxHeartbeats 4000000 in
set_option maxRecDepth 100000 in
theorem jw_X12_isReplaced_198 {p : Program} {l : Launch} {e : Env} {s : State} {m : MethodId} {args : Array Value} {below : List Frame} {meth : Method} {c : Code} {D : xD} {ty : xTy} (C0 : xC D RX12 cX12_isReplaced 8 (some .boolean) p s m args meth c) {r : Int32} {h9 : xH} : ∀ n : Nat, ∀ (v0 : Nat) (v3 : Int32) (h : xH), ty v0 = some (0, 12) → jf_X12_isReplaced_198 ty n v0 v3 h = some (r, h9) → ∀ (H : Heap) (locs : List Loc), xRep D ty h H → xS ty s.heap H locs → ∀ ls : Array Slot, lv_has ls 8 [(0, .ref v0), (3, .int v3)] → W p l e jr_X12_isReplaced s m args below meth c H locs 0 0 (MQ below (xQ D ty (some (.int r)) h9) args s 0 0 (xdom ty)) (F0 m 198 ls []) := by
  have hx := C0.1
  have hb := C0.2.1
  have hown := C0.2.2.2.2.2.1
  have hts := C0.2.2.2.2.2.2.1
  intro n
  induction n with
  | zero =>
    intro v0 v3 h t_v0 hF H locs hR hS ls hl
    cases hF
  | succ n ih =>
    intro v0 v3 h t_v0 hF H locs hR hS ls hl
    rw [jf_X12_isReplaced_198_s] at hF
    refine lv_iload_n hx hb dX12_isReplaced_198 rfl (lv_at hl 1 rfl) ?_
    refine lv_aload_n hx hb dX12_isReplaced_199 rfl (lv_at hl 0 rfl) ?_
    refine gf_X12_373 C0 hR t_v0 dX12_isReplaced_200 ?_
    refine lv_icmp_ge (tgt := 248) hx hb dX12_isReplaced_203 (by decide) (fun c7 => ?_) (fun c7 => ?_)
    · have hF := xif hF c7
      refine lv_iconst (v := 0) hx hb dX12_isReplaced_248 (by decide) ?_
      refine lv_istore_n (lv' := [(3, .int 0), (0, .ref v0)]) hx hb dX12_isReplaced_249 rfl hl (by decide) rfl (fun ls hl => ?_)
      obtain ⟨_, hF⟩ := xlim_sp hF
      exact jw_X12_isReplaced_250 C0 _ _ _ _ t_v0 hF _ _ hR hS _ (lv_sub hl [1, 0] rfl)
    · have hF := xel hF c7
      refine lv_aload_n hx hb dX12_isReplaced_206 rfl (lv_at hl 0 rfl) ?_
      refine gf_X12_370 C0 hR t_v0 dX12_isReplaced_207 ?_
      refine lv_bipush (v := 60) hx hb dX12_isReplaced_210 (by decide) ?_
      refine lv_icmp_ne (tgt := 217) hx hb dX12_isReplaced_212 (by decide) (fun c8 => ?_) (fun c8 => ?_)
      · have hF := xel hF c8
        refine lv_aload_n hx hb dX12_isReplaced_217 rfl (lv_at hl 0 rfl) ?_
        obtain ⟨a9, e_a9, hF⟩ := xbd hF
        refine gf_X12_86 C0 hR t_v0 e_a9 dX12_isReplaced_218 ?_
        refine lv_aload_n hx hb dX12_isReplaced_221 rfl (lv_at hl 0 rfl) ?_
        refine gf_X12_370 C0 hR t_v0 dX12_isReplaced_222 ?_
        refine lv_aload_n hx hb dX12_isReplaced_225 rfl (lv_at hl 0 rfl) ?_
        obtain ⟨a10, e_a10, hF⟩ := xbd hF
        refine gf_X12_83 C0 hR t_v0 e_a10 dX12_isReplaced_226 ?_
        refine lv_iload_n hx hb dX12_isReplaced_229 rfl (lv_at hl 1 rfl) ?_
        obtain ⟨a11, e_a11, hF⟩ := xbd hF
        refine x_iald C0 hR e_a11 dX12_isReplaced_230 ?_
        obtain ⟨h12, e_h12, hF⟩ := xbd hF
        refine x_iast C0 hR hS e_h12 dX12_isReplaced_231 (fun H locs hR hS => ?_)
        refine lv_aload_n hx hb dX12_isReplaced_232 rfl (lv_at hl 0 rfl) ?_
        refine lv_dup hx hb dX12_isReplaced_233 rfl ?_
        refine gf_X12_370 C0 hR t_v0 dX12_isReplaced_234 ?_
        refine lv_iconst (v := 1) hx hb dX12_isReplaced_237 (by decide) ?_
        refine lv_iadd hx hb dX12_isReplaced_238 ?_
        obtain ⟨h13, e_h13, hF⟩ := xbd hF
        refine pf_X12_370 C0 hR hS t_v0 dX12_isReplaced_239 (fun H locs hR hS => ?_)
        rw [Option.some.inj e_h13] at hR
        refine lv_iinc (v := v3 + 1) (lv' := [(3, .int (v3 + 1)), (0, .ref v0)]) hx hb dX12_isReplaced_242 hl (k := 1) rfl rfl (by decide) rfl (fun ls hl => ?_)
        refine lv_goto (tgt := 198) hx hb dX12_isReplaced_245 (by decide) ?_
        exact ih _ _ _ t_v0 hF _ _ hR hS _ (lv_sub hl [1, 0] rfl)
      · have hF := xif hF c8
        refine lv_iconst (v := 0) hx hb dX12_isReplaced_215 (by decide) ?_
        cases hF
        exact x_zret (w := 0) C0 hR hS (by decide) dX12_isReplaced_216
set_option maxHeartbeats 4000000 in
set_option maxRecDepth 100000 in
theorem jw_X12_isReplaced_132 {p : Program} {l : Launch} {e : Env} {s : State} {m : MethodId} {args : Array Value} {below : List Frame} {meth : Method} {c : Code} {D : xD} {ty : xTy} {k45 : Nat → Int32 → Int32 → Int32 → xH → Option (Int32 × xH)} (C0 : xC D RX12 cX12_isReplaced 8 (some .boolean) p s m args meth c) {r : Int32} {h9 : xH} (hk45 : ∀ (v0 : Nat) (v1 : Int32) (v2 : Int32) (v3 : Int32) (h : xH), ty v0 = some (0, 12) → k45 v0 v1 v2 v3 h = some (r, h9) → ∀ (H : Heap) (locs : List Loc), xRep D ty h H → xS ty s.heap H locs → ∀ ls : Array Slot, lv_has ls 8 [(0, .ref v0), (1, .int v1), (2, .int v2), (3, .int v3)] → W p l e jr_X12_isReplaced s m args below meth c H locs 0 0 (MQ below (xQ D ty (some (.int r)) h9) args s 0 0 (xdom ty)) (F0 m 45 ls [])) : ∀ n : Nat, ∀ (v0 : Nat) (v1 : Int32) (v2 : Int32) (v3 : Int32) (v4 : Int32) (v5 : Int32) (v6 : Int32) (v7 : Int32) (h : xH), ty v0 = some (0, 12) → jf_X12_isReplaced_132 ty k45 n v0 v1 v2 v3 v4 v5 v6 v7 h = some (r, h9) → ∀ (H : Heap) (locs : List Loc), xRep D ty h H → xS ty s.heap H locs → ∀ ls : Array Slot, lv_has ls 8 [(0, .ref v0), (1, .int v1), (2, .int v2), (3, .int v3), (4, .int v4), (5, .int v5), (6, .int v6), (7, .int v7)] → W p l e jr_X12_isReplaced s m args below meth c H locs 0 0 (MQ below (xQ D ty (some (.int r)) h9) args s 0 0 (xdom ty)) (F0 m 132 ls []) := by
  have hx := C0.1
  have hb := C0.2.1
  have hown := C0.2.2.2.2.2.1
  have hts := C0.2.2.2.2.2.2.1
  intro n
  induction n with
  | zero =>
    intro v0 v1 v2 v3 v4 v5 v6 v7 h t_v0 hF H locs hR hS ls hl
    cases hF
  | succ n ih =>
    intro v0 v1 v2 v3 v4 v5 v6 v7 h t_v0 hF H locs hR hS ls hl
    rw [jf_X12_isReplaced_132_s] at hF
    refine lv_iload hx hb dX12_isReplaced_132 (lv_at hl 7 rfl) ?_
    refine lv_iload hx hb dX12_isReplaced_134 (lv_at hl 6 rfl) ?_
    refine lv_icmp_ge (tgt := 186) hx hb dX12_isReplaced_136 (by decide) (fun c14 => ?_) (fun c14 => ?_)
    · have hF := xif hF c14
      refine lv_iinc (v := v3 + 1) (lv' := [(3, .int (v3 + 1)), (0, .ref v0), (1, .int v1), (2, .int v2), (4, .int v4), (5, .int v5), (6, .int v6), (7, .int v7)]) hx hb dX12_isReplaced_186 hl (k := 3) rfl rfl (by decide) rfl (fun ls hl => ?_)
      refine lv_goto (tgt := 45) hx hb dX12_isReplaced_189 (by decide) ?_
      exact hk45 _ _ _ _ _ t_v0 hF _ _ hR hS _ (lv_sub hl [1, 2, 3, 0] rfl)
    · have hF := xel hF c14
      refine lv_aload_n hx hb dX12_isReplaced_139 rfl (lv_at hl 0 rfl) ?_
      obtain ⟨a15, e_a15, hF⟩ := xbd hF
      refine gf_X12_86 C0 hR t_v0 e_a15 dX12_isReplaced_140 ?_
      refine lv_aload_n hx hb dX12_isReplaced_143 rfl (lv_at hl 0 rfl) ?_
      refine gf_X12_370 C0 hR t_v0 dX12_isReplaced_144 ?_
      refine lv_iload hx hb dX12_isReplaced_147 (lv_at hl 4 rfl) ?_
      refine lv_bipush (v := 100) hx hb dX12_isReplaced_149 (by decide) ?_
      refine lv_icmp_ge (tgt := 159) hx hb dX12_isReplaced_151 (by decide) (fun c16 => ?_) (fun c16 => ?_)
      · have hF := xif hF c16
        refine lv_aload_n hx hb dX12_isReplaced_159 rfl (lv_at hl 0 rfl) ?_
        obtain ⟨a17, e_a17, hF⟩ := xbd hF
        refine gf_X12_53 C0 hR t_v0 e_a17 dX12_isReplaced_160 ?_
        refine lv_iload hx hb dX12_isReplaced_163 (lv_at hl 5 rfl) ?_
        refine lv_iload hx hb dX12_isReplaced_165 (lv_at hl 7 rfl) ?_
        refine lv_iadd hx hb dX12_isReplaced_167 ?_
        obtain ⟨a18, e_a18, hF⟩ := xbd hF
        refine x_iald C0 hR e_a18 dX12_isReplaced_168 ?_
        obtain ⟨h19, e_h19, hF⟩ := xbd hF
        refine x_iast C0 hR hS e_h19 dX12_isReplaced_169 (fun H locs hR hS => ?_)
        refine lv_aload_n hx hb dX12_isReplaced_170 rfl (lv_at hl 0 rfl) ?_
        refine lv_dup hx hb dX12_isReplaced_171 rfl ?_
        refine gf_X12_370 C0 hR t_v0 dX12_isReplaced_172 ?_
        refine lv_iconst (v := 1) hx hb dX12_isReplaced_175 (by decide) ?_
        refine lv_iadd hx hb dX12_isReplaced_176 ?_
        obtain ⟨h20, e_h20, hF⟩ := xbd hF
        refine pf_X12_370 C0 hR hS t_v0 dX12_isReplaced_177 (fun H locs hR hS => ?_)
        rw [Option.some.inj e_h20] at hR
        refine lv_iinc (v := v7 + 1) (lv' := [(7, .int (v7 + 1)), (0, .ref v0), (1, .int v1), (2, .int v2), (3, .int v3), (4, .int v4), (5, .int v5), (6, .int v6)]) hx hb dX12_isReplaced_180 hl (k := 7) rfl rfl (by decide) rfl (fun ls hl => ?_)
        refine lv_goto (tgt := 132) hx hb dX12_isReplaced_183 (by decide) ?_
        exact ih _ _ _ _ _ _ _ _ _ t_v0 hF _ _ hR hS _ (lv_sub hl [1, 2, 3, 4, 5, 6, 7, 0] rfl)
      · have hF := xel hF c16
        refine lv_iload hx hb dX12_isReplaced_154 (lv_at hl 4 rfl) ?_
        refine lv_goto (tgt := 169) hx hb dX12_isReplaced_156 (by decide) ?_
        obtain ⟨h21, e_h21, hF⟩ := xbd hF
        refine x_iast C0 hR hS e_h21 dX12_isReplaced_169 (fun H locs hR hS => ?_)
        refine lv_aload_n hx hb dX12_isReplaced_170 rfl (lv_at hl 0 rfl) ?_
        refine lv_dup hx hb dX12_isReplaced_171 rfl ?_
        refine gf_X12_370 C0 hR t_v0 dX12_isReplaced_172 ?_
        refine lv_iconst (v := 1) hx hb dX12_isReplaced_175 (by decide) ?_
        refine lv_iadd hx hb dX12_isReplaced_176 ?_
        obtain ⟨h22, e_h22, hF⟩ := xbd hF
        refine pf_X12_370 C0 hR hS t_v0 dX12_isReplaced_177 (fun H locs hR hS => ?_)
        rw [Option.some.inj e_h22] at hR
        refine lv_iinc (v := v7 + 1) (lv' := [(7, .int (v7 + 1)), (0, .ref v0), (1, .int v1), (2, .int v2), (3, .int v3), (4, .int v4), (5, .int v5), (6, .int v6)]) hx hb dX12_isReplaced_180 hl (k := 7) rfl rfl (by decide) rfl (fun ls hl => ?_)
        refine lv_goto (tgt := 132) hx hb dX12_isReplaced_183 (by decide) ?_
        exact ih _ _ _ _ _ _ _ _ _ t_v0 hF _ _ hR hS _ (lv_sub hl [1, 2, 3, 4, 5, 6, 7, 0] rfl)
set_option maxHeartbeats 4000000 in
set_option maxRecDepth 100000 in
theorem jw_X12_isReplaced_91 {p : Program} {l : Launch} {e : Env} {s : State} {m : MethodId} {args : Array Value} {below : List Frame} {meth : Method} {c : Code} {D : xD} {ty : xTy} {k45 : Nat → Int32 → Int32 → Int32 → xH → Option (Int32 × xH)} (C0 : xC D RX12 cX12_isReplaced 8 (some .boolean) p s m args meth c) {r : Int32} {h9 : xH} (hk45 : ∀ (v0 : Nat) (v1 : Int32) (v2 : Int32) (v3 : Int32) (h : xH), ty v0 = some (0, 12) → k45 v0 v1 v2 v3 h = some (r, h9) → ∀ (H : Heap) (locs : List Loc), xRep D ty h H → xS ty s.heap H locs → ∀ ls : Array Slot, lv_has ls 8 [(0, .ref v0), (1, .int v1), (2, .int v2), (3, .int v3)] → W p l e jr_X12_isReplaced s m args below meth c H locs 0 0 (MQ below (xQ D ty (some (.int r)) h9) args s 0 0 (xdom ty)) (F0 m 45 ls [])) : ∀ (v0 : Nat) (v1 : Int32) (v2 : Int32) (v3 : Int32) (v4 : Int32) (s0 : Int32) (h : xH), ty v0 = some (0, 12) → jf_X12_isReplaced_91 ty k45 v0 v1 v2 v3 v4 s0 h = some (r, h9) → ∀ (H : Heap) (locs : List Loc), xRep D ty h H → xS ty s.heap H locs → ∀ ls : Array Slot, lv_has ls 8 [(0, .ref v0), (1, .int v1), (2, .int v2), (3, .int v3), (4, .int v4)] → W p l e jr_X12_isReplaced s m args below meth c H locs 0 0 (MQ below (xQ D ty (some (.int r)) h9) args s 0 0 (xdom ty)) (F0 m 91 ls [.int s0]) := by
  have hx := C0.1
  have hb := C0.2.1
  have hown := C0.2.2.2.2.2.1
  have hts := C0.2.2.2.2.2.2.1
  intro v0 v1 v2 v3 v4 s0 h t_v0 hF H locs hR hS ls hl
  unfold jf_X12_isReplaced_91 at hF
  refine lv_istore (lv' := [(5, .int s0), (0, .ref v0), (1, .int v1), (2, .int v2), (3, .int v3), (4, .int v4)]) hx hb dX12_isReplaced_91 hl (by decide) rfl (fun ls hl => ?_)
  refine lv_iload hx hb dX12_isReplaced_93 (lv_at hl 5 rfl) ?_
  refine lv_bipush (v := 100) hx hb dX12_isReplaced_95 (by decide) ?_
  refine lv_icmp_ge (tgt := 104) hx hb dX12_isReplaced_97 (by decide) (fun c23 => ?_) (fun c23 => ?_)
  · have hF := xif hF c23
    refine lv_aload_n hx hb dX12_isReplaced_104 rfl (lv_at hl 1 rfl) ?_
    refine lv_iload hx hb dX12_isReplaced_105 (lv_at hl 0 rfl) ?_
    obtain ⟨a24, e_a24, hF⟩ := xbd hF
    refine cl_X12_241 C0 hR hS e_a24 t_v0 ⟨(Nat.le_of_ble_eq_true rfl), (Nat.le_of_ble_eq_true rfl)⟩ hl.1 (Nat.le_of_ble_eq_true rfl) ⟨(Nat.le_of_ble_eq_true rfl), (Nat.le_of_ble_eq_true rfl)⟩ dX12_isReplaced_107 (fun H locs hR hS => ?_)
    refine lv_iload hx hb dX12_isReplaced_110 (lv_at hl 0 rfl) ?_
    refine lv_isub hx hb dX12_isReplaced_112 ?_
    refine lv_istore (lv' := [(6, .int (a24 - s0)), (5, .int s0), (0, .ref v0), (1, .int v1), (2, .int v2), (3, .int v3), (4, .int v4)]) hx hb dX12_isReplaced_113 hl (by decide) rfl (fun ls hl => ?_)
    refine lv_aload_n hx hb dX12_isReplaced_115 rfl (lv_at hl 2 rfl) ?_
    refine gf_X12_370 C0 hR t_v0 dX12_isReplaced_116 ?_
    refine lv_iload hx hb dX12_isReplaced_119 (lv_at hl 0 rfl) ?_
    refine lv_iadd hx hb dX12_isReplaced_121 ?_
    refine lv_bipush (v := 60) hx hb dX12_isReplaced_122 (by decide) ?_
    refine lv_icmp_le (tgt := 129) hx hb dX12_isReplaced_124 (by decide) (fun c25 => ?_) (fun c25 => ?_)
    · have hF := xif hF c25
      refine lv_iconst (v := 0) hx hb dX12_isReplaced_129 (by decide) ?_
      refine lv_istore (lv' := [(7, .int 0), (6, .int (a24 - s0)), (5, .int s0), (0, .ref v0), (1, .int v1), (2, .int v2), (3, .int v3), (4, .int v4)]) hx hb dX12_isReplaced_130 hl (by decide) rfl (fun ls hl => ?_)
      obtain ⟨_, hF⟩ := xlim_sp hF
      exact jw_X12_isReplaced_132 C0 hk45 _ _ _ _ _ _ _ _ _ _ t_v0 hF _ _ hR hS _ (lv_sub hl [3, 4, 5, 6, 7, 2, 1, 0] rfl)
    · have hF := xel hF c25
      refine lv_iconst (v := 0) hx hb dX12_isReplaced_127 (by decide) ?_
      cases hF
      exact x_zret (w := 0) C0 hR hS (by decide) dX12_isReplaced_128
  · have hF := xel hF c23
    refine lv_iconst (v := 1) hx hb dX12_isReplaced_100 (by decide) ?_
    refine lv_goto (tgt := 113) hx hb dX12_isReplaced_101 (by decide) ?_
    refine lv_istore (lv' := [(6, .int 1), (5, .int s0), (0, .ref v0), (1, .int v1), (2, .int v2), (3, .int v3), (4, .int v4)]) hx hb dX12_isReplaced_113 hl (by decide) rfl (fun ls hl => ?_)
    refine lv_aload_n hx hb dX12_isReplaced_115 rfl (lv_at hl 2 rfl) ?_
    refine gf_X12_370 C0 hR t_v0 dX12_isReplaced_116 ?_
    refine lv_iload hx hb dX12_isReplaced_119 (lv_at hl 0 rfl) ?_
    refine lv_iadd hx hb dX12_isReplaced_121 ?_
    refine lv_bipush (v := 60) hx hb dX12_isReplaced_122 (by decide) ?_
    refine lv_icmp_le (tgt := 129) hx hb dX12_isReplaced_124 (by decide) (fun c26 => ?_) (fun c26 => ?_)
    · have hF := xif hF c26
      refine lv_iconst (v := 0) hx hb dX12_isReplaced_129 (by decide) ?_
      refine lv_istore (lv' := [(7, .int 0), (6, .int 1), (5, .int s0), (0, .ref v0), (1, .int v1), (2, .int v2), (3, .int v3), (4, .int v4)]) hx hb dX12_isReplaced_130 hl (by decide) rfl (fun ls hl => ?_)
      obtain ⟨_, hF⟩ := xlim_sp hF
      exact jw_X12_isReplaced_132 C0 hk45 _ _ _ _ _ _ _ _ _ _ t_v0 hF _ _ hR hS _ (lv_sub hl [3, 4, 5, 6, 7, 2, 1, 0] rfl)
    · have hF := xel hF c26
      refine lv_iconst (v := 0) hx hb dX12_isReplaced_127 (by decide) ?_
      cases hF
      exact x_zret (w := 0) C0 hR hS (by decide) dX12_isReplaced_128
set_option maxHeartbeats 4000000 in
set_option maxRecDepth 100000 in
theorem jw_X12_isReplaced_45 {p : Program} {l : Launch} {e : Env} {s : State} {m : MethodId} {args : Array Value} {below : List Frame} {meth : Method} {c : Code} {D : xD} {ty : xTy} (C0 : xC D RX12 cX12_isReplaced 8 (some .boolean) p s m args meth c) {r : Int32} {h9 : xH} : ∀ n : Nat, ∀ (v0 : Nat) (v1 : Int32) (v2 : Int32) (v3 : Int32) (h : xH), ty v0 = some (0, 12) → jf_X12_isReplaced_45 ty n v0 v1 v2 v3 h = some (r, h9) → ∀ (H : Heap) (locs : List Loc), xRep D ty h H → xS ty s.heap H locs → ∀ ls : Array Slot, lv_has ls 8 [(0, .ref v0), (1, .int v1), (2, .int v2), (3, .int v3)] → W p l e jr_X12_isReplaced s m args below meth c H locs 0 0 (MQ below (xQ D ty (some (.int r)) h9) args s 0 0 (xdom ty)) (F0 m 45 ls []) := by
  have hx := C0.1
  have hb := C0.2.1
  have hown := C0.2.2.2.2.2.1
  have hts := C0.2.2.2.2.2.2.1
  intro n
  induction n with
  | zero =>
    intro v0 v1 v2 v3 h t_v0 hF H locs hR hS ls hl
    cases hF
  | succ n ih =>
    intro v0 v1 v2 v3 h t_v0 hF H locs hR hS ls hl
    rw [jf_X12_isReplaced_45_s] at hF
    refine lv_iload_n hx hb dX12_isReplaced_45 rfl (lv_at hl 3 rfl) ?_
    refine lv_aload_n hx hb dX12_isReplaced_46 rfl (lv_at hl 0 rfl) ?_
    obtain ⟨a27, e_a27, hF⟩ := xbd hF
    refine gf_X12_38 C0 hR t_v0 e_a27 dX12_isReplaced_47 ?_
    refine lv_iload_n hx hb dX12_isReplaced_50 rfl (lv_at hl 1 rfl) ?_
    obtain ⟨a28, e_a28, hF⟩ := xbd hF
    refine x_iald C0 hR e_a28 dX12_isReplaced_51 ?_
    refine lv_icmp_ge (tgt := 192) hx hb dX12_isReplaced_52 (by decide) (fun c29 => ?_) (fun c29 => ?_)
    · have hF := xif hF c29
      refine lv_aload_n hx hb dX12_isReplaced_192 rfl (lv_at hl 0 rfl) ?_
      refine lv_iload_n hx hb dX12_isReplaced_193 rfl (lv_at hl 2 rfl) ?_
      obtain ⟨a30, e_a30, hF⟩ := xbd hF
      refine cl_X12_241 C0 hR hS e_a30 t_v0 ⟨(Nat.le_of_ble_eq_true rfl), (Nat.le_of_ble_eq_true rfl)⟩ hl.1 (Nat.le_of_ble_eq_true rfl) ⟨(Nat.le_of_ble_eq_true rfl), (Nat.le_of_ble_eq_true rfl)⟩ dX12_isReplaced_194 (fun H locs hR hS => ?_)
      refine lv_istore_n (lv' := [(3, .int a30), (0, .ref v0), (1, .int v1), (2, .int v2)]) hx hb dX12_isReplaced_197 rfl hl (by decide) rfl (fun ls hl => ?_)
      obtain ⟨_, hF⟩ := xlim_sp hF
      exact jw_X12_isReplaced_198 C0 _ _ _ _ t_v0 hF _ _ hR hS _ (lv_sub hl [1, 0] rfl)
    · have hF := xel hF c29
      refine lv_aload_n hx hb dX12_isReplaced_55 rfl (lv_at hl 0 rfl) ?_
      obtain ⟨a31, e_a31, hF⟩ := xbd hF
      refine gf_X12_41 C0 hR t_v0 e_a31 dX12_isReplaced_56 ?_
      refine lv_bipush (v := 12) hx hb dX12_isReplaced_59 (by decide) ?_
      refine lv_iload_n hx hb dX12_isReplaced_61 rfl (lv_at hl 1 rfl) ?_
      refine lv_imul hx hb dX12_isReplaced_62 ?_
      refine lv_iload_n hx hb dX12_isReplaced_63 rfl (lv_at hl 3 rfl) ?_
      refine lv_iadd hx hb dX12_isReplaced_64 ?_
      obtain ⟨a32, e_a32, hF⟩ := xbd hF
      refine x_iald C0 hR e_a32 dX12_isReplaced_65 ?_
      refine lv_istore (lv' := [(4, .int a32), (0, .ref v0), (1, .int v1), (2, .int v2), (3, .int v3)]) hx hb dX12_isReplaced_66 hl (by decide) rfl (fun ls hl => ?_)
      refine lv_iload hx hb dX12_isReplaced_68 (lv_at hl 0 rfl) ?_
      refine lv_bipush (v := 100) hx hb dX12_isReplaced_70 (by decide) ?_
      refine lv_icmp_ge (tgt := 79) hx hb dX12_isReplaced_72 (by decide) (fun c33 => ?_) (fun c33 => ?_)
      · have hF := xif hF c33
        refine lv_aload_n hx hb dX12_isReplaced_79 rfl (lv_at hl 1 rfl) ?_
        obtain ⟨a34, e_a34, hF⟩ := xbd hF
        refine gf_X12_56 C0 hR t_v0 e_a34 dX12_isReplaced_80 ?_
        refine lv_iconst (v := 4) hx hb dX12_isReplaced_83 (by decide) ?_
        refine lv_iload hx hb dX12_isReplaced_84 (lv_at hl 0 rfl) ?_
        refine lv_iadd hx hb dX12_isReplaced_86 ?_
        refine lv_bipush (v := 100) hx hb dX12_isReplaced_87 (by decide) ?_
        refine lv_isub hx hb dX12_isReplaced_89 ?_
        obtain ⟨a35, e_a35, hF⟩ := xbd hF
        refine x_iald C0 hR e_a35 dX12_isReplaced_90 ?_
        exact jw_X12_isReplaced_91 C0 ih _ _ _ _ _ _ _ t_v0 hF _ _ hR hS _ (lv_sub hl [1, 2, 3, 4, 0] rfl)
      · have hF := xel hF c33
        refine lv_iconst (v := (-1)) hx hb dX12_isReplaced_75 (by decide) ?_
        refine lv_goto (tgt := 91) hx hb dX12_isReplaced_76 (by decide) ?_
        exact jw_X12_isReplaced_91 C0 ih _ _ _ _ _ _ _ t_v0 hF _ _ hR hS _ (lv_sub hl [1, 2, 3, 4, 0] rfl)
set_option maxHeartbeats 4000000 in
set_option maxRecDepth 100000 in
theorem jw_X12_isReplaced_7 {p : Program} {l : Launch} {e : Env} {s : State} {m : MethodId} {args : Array Value} {below : List Frame} {meth : Method} {c : Code} {D : xD} {ty : xTy} (C0 : xC D RX12 cX12_isReplaced 8 (some .boolean) p s m args meth c) {r : Int32} {h9 : xH} : ∀ n : Nat, ∀ (v0 : Nat) (v1 : Int32) (v2 : Int32) (v3 : Int32) (h : xH), ty v0 = some (0, 12) → jf_X12_isReplaced_7 ty n v0 v1 v2 v3 h = some (r, h9) → ∀ (H : Heap) (locs : List Loc), xRep D ty h H → xS ty s.heap H locs → ∀ ls : Array Slot, lv_has ls 8 [(0, .ref v0), (1, .int v1), (2, .int v2), (3, .int v3)] → W p l e jr_X12_isReplaced s m args below meth c H locs 0 0 (MQ below (xQ D ty (some (.int r)) h9) args s 0 0 (xdom ty)) (F0 m 7 ls []) := by
  have hx := C0.1
  have hb := C0.2.1
  have hown := C0.2.2.2.2.2.1
  have hts := C0.2.2.2.2.2.2.1
  intro n
  induction n with
  | zero =>
    intro v0 v1 v2 v3 h t_v0 hF H locs hR hS ls hl
    cases hF
  | succ n ih =>
    intro v0 v1 v2 v3 h t_v0 hF H locs hR hS ls hl
    rw [jf_X12_isReplaced_7_s] at hF
    refine lv_iload_n hx hb dX12_isReplaced_7 rfl (lv_at hl 3 rfl) ?_
    refine lv_iload_n hx hb dX12_isReplaced_8 rfl (lv_at hl 2 rfl) ?_
    refine lv_icmp_ge (tgt := 43) hx hb dX12_isReplaced_9 (by decide) (fun c36 => ?_) (fun c36 => ?_)
    · have hF := xif hF c36
      refine lv_iconst (v := 0) hx hb dX12_isReplaced_43 (by decide) ?_
      refine lv_istore_n (lv' := [(3, .int 0), (0, .ref v0), (1, .int v1), (2, .int v2)]) hx hb dX12_isReplaced_44 rfl hl (by decide) rfl (fun ls hl => ?_)
      obtain ⟨_, hF⟩ := xlim_sp hF
      exact jw_X12_isReplaced_45 C0 _ _ _ _ _ _ t_v0 hF _ _ hR hS _ (lv_sub hl [1, 2, 3, 0] rfl)
    · have hF := xel hF c36
      refine lv_aload_n hx hb dX12_isReplaced_12 rfl (lv_at hl 0 rfl) ?_
      obtain ⟨a37, e_a37, hF⟩ := xbd hF
      refine gf_X12_86 C0 hR t_v0 e_a37 dX12_isReplaced_13 ?_
      refine lv_aload_n hx hb dX12_isReplaced_16 rfl (lv_at hl 0 rfl) ?_
      refine gf_X12_370 C0 hR t_v0 dX12_isReplaced_17 ?_
      refine lv_aload_n hx hb dX12_isReplaced_20 rfl (lv_at hl 0 rfl) ?_
      obtain ⟨a38, e_a38, hF⟩ := xbd hF
      refine gf_X12_83 C0 hR t_v0 e_a38 dX12_isReplaced_21 ?_
      refine lv_iload_n hx hb dX12_isReplaced_24 rfl (lv_at hl 3 rfl) ?_
      obtain ⟨a39, e_a39, hF⟩ := xbd hF
      refine x_iald C0 hR e_a39 dX12_isReplaced_25 ?_
      obtain ⟨h40, e_h40, hF⟩ := xbd hF
      refine x_iast C0 hR hS e_h40 dX12_isReplaced_26 (fun H locs hR hS => ?_)
      refine lv_aload_n hx hb dX12_isReplaced_27 rfl (lv_at hl 0 rfl) ?_
      refine lv_dup hx hb dX12_isReplaced_28 rfl ?_
      refine gf_X12_370 C0 hR t_v0 dX12_isReplaced_29 ?_
      refine lv_iconst (v := 1) hx hb dX12_isReplaced_32 (by decide) ?_
      refine lv_iadd hx hb dX12_isReplaced_33 ?_
      obtain ⟨h41, e_h41, hF⟩ := xbd hF
      refine pf_X12_370 C0 hR hS t_v0 dX12_isReplaced_34 (fun H locs hR hS => ?_)
      rw [Option.some.inj e_h41] at hR
      refine lv_iinc (v := v3 + 1) (lv' := [(3, .int (v3 + 1)), (0, .ref v0), (1, .int v1), (2, .int v2)]) hx hb dX12_isReplaced_37 hl (k := 3) rfl rfl (by decide) rfl (fun ls hl => ?_)
      refine lv_goto (tgt := 7) hx hb dX12_isReplaced_40 (by decide) ?_
      exact ih _ _ _ _ _ t_v0 hF _ _ hR hS _ (lv_sub hl [1, 2, 3, 0] rfl)
set_option maxHeartbeats 4000000 in
set_option maxRecDepth 100000 in
theorem jc_X12_isReplaced {l : Launch} {D : xD} {ty : xTy} {h : xH} {v0 : Nat} {v1 : Int32} {v2 : Int32} {r : Int32} {h9 : xH} (t_v0 : ty v0 = some (0, 12)) (hF : jf_X12_isReplaced ty h v0 v1 v2 = some (r, h9)) : Met l yX12_isReplaced (xws yX12_isReplaced cX12_isReplaced 8 (some .boolean)) jr_X12_isReplaced (xPc D ty h [.ref v0, .int v1, .int v2]) (xQ D ty (some (.int r)) h9) 0 0 (xdom ty) := by
  refine x_met (by decide) ?_
  intro p e s m below meth c C0 hR
  generalize hargs : ([.ref v0, .int v1, .int v2] : List Value).toArray = args at C0 ⊢
  have hx := C0.1
  have hb := C0.2.1
  have hown := C0.2.2.2.2.2.1
  have hts := C0.2.2.2.2.2.2.1
  have hS : xS ty s.heap s.heap [] := xS.rf
  have hl := lv_entry ([.ref v0, .int v1, .int v2]) (n := 8) (Nat.le_of_ble_eq_true rfl)
  rw [← hargs, lg_entry_eq]
  rw [hargs]
  generalize (lg_sl ([.ref v0, .int v1, .int v2]) ++ List.replicate (8 - (lg_sl ([.ref v0, .int v1, .int v2])).length) Slot.unset).toArray = ls at hl ⊢
  have hl : lv_has ls 8 [(0, .ref v0), (1, .int v1), (2, .int v2)] := hl
  unfold jf_X12_isReplaced at hF
  refine lv_aload_n hx hb dX12_isReplaced_0 rfl (lv_at hl 0 rfl) ?_
  refine lv_iconst (v := 0) hx hb dX12_isReplaced_1 (by decide) ?_
  obtain ⟨h42, e_h42, hF⟩ := xbd hF
  refine pf_X12_370 C0 hR hS t_v0 dX12_isReplaced_2 (fun H locs hR hS => ?_)
  rw [Option.some.inj e_h42] at hR
  refine lv_iconst (v := 0) hx hb dX12_isReplaced_5 (by decide) ?_
  refine lv_istore_n (lv' := [(3, .int 0), (0, .ref v0), (1, .int v1), (2, .int v2)]) hx hb dX12_isReplaced_6 rfl hl (by decide) rfl (fun ls hl => ?_)
  obtain ⟨_, hF⟩ := xlim_sp hF
  exact jw_X12_isReplaced_7 C0 _ _ _ _ _ _ t_v0 hF _ _ hR hS _ (lv_sub hl [1, 2, 3, 0] rfl)
theorem xm_X12_isReplaced : xMw yX12_isReplaced cX12_isReplaced 8 (some .boolean) 2 := ⟨xin 1868 (by decide +kernel) rfl, xin 126 (by decide +kernel) rfl, by decide +kernel⟩
theorem xi_X12_isReplaced : Cond.instanceMethod yX12_isReplaced ∈ xT := xin 1867 (by decide +kernel) rfl
theorem xe_X12_isReplaced : Cond.selects yX12_isReplaced.cls yX12_isReplaced yX12_isReplaced ∈ xT := xin 110 (by decide +kernel) rfl
theorem dX12_isStep_0 : decode cX12_isStep 0 = .ok (.aload_n 0, 1) := by decide +kernel
theorem dX12_isStep_1 : decode cX12_isStep 1 = .ok (.iload_n 1, 1) := by decide +kernel
theorem dX12_isStep_2 : decode cX12_isStep 2 = .ok (.invokevirtual 285, 3) := by decide +kernel
theorem dX12_isStep_5 : decode cX12_isStep 5 = .ok (.ifCond .eq 12, 3) := by decide +kernel
theorem dX12_isStep_8 : decode cX12_isStep 8 = .ok (.aload_n 0, 1) := by decide +kernel
theorem dX12_isStep_9 : decode cX12_isStep 9 = .ok (.getfield 38, 3) := by decide +kernel
theorem dX12_isStep_12 : decode cX12_isStep 12 = .ok (.iload_n 1, 1) := by decide +kernel
theorem dX12_isStep_13 : decode cX12_isStep 13 = .ok (.iaload, 1) := by decide +kernel
theorem dX12_isStep_14 : decode cX12_isStep 14 = .ok (.ifCond .ne 5, 3) := by decide +kernel
theorem dX12_isStep_17 : decode cX12_isStep 17 = .ok (.iconst 0, 1) := by decide +kernel
theorem dX12_isStep_18 : decode cX12_isStep 18 = .ok (.ireturn, 1) := by decide +kernel
theorem dX12_isStep_19 : decode cX12_isStep 19 = .ok (.aload_n 0, 1) := by decide +kernel
theorem dX12_isStep_20 : decode cX12_isStep 20 = .ok (.invokevirtual 263, 3) := by decide +kernel
theorem dX12_isStep_23 : decode cX12_isStep 23 = .ok (.aload_n 0, 1) := by decide +kernel
theorem dX12_isStep_24 : decode cX12_isStep 24 = .ok (.aload_n 0, 1) := by decide +kernel
theorem dX12_isStep_25 : decode cX12_isStep 25 = .ok (.getfield 83, 3) := by decide +kernel
theorem dX12_isStep_28 : decode cX12_isStep 28 = .ok (.iconst 0, 1) := by decide +kernel
theorem dX12_isStep_29 : decode cX12_isStep 29 = .ok (.aload_n 0, 1) := by decide +kernel
theorem dX12_isStep_30 : decode cX12_isStep 30 = .ok (.getfield 373, 3) := by decide +kernel
theorem dX12_isStep_33 : decode cX12_isStep 33 = .ok (.iconst 0, 1) := by decide +kernel
theorem dX12_isStep_34 : decode cX12_isStep 34 = .ok (.invokevirtual 238, 3) := by decide +kernel
theorem dX12_isStep_37 : decode cX12_isStep 37 = .ok (.pop, 1) := by decide +kernel
theorem dX12_isStep_38 : decode cX12_isStep 38 = .ok (.aload_n 0, 1) := by decide +kernel
theorem dX12_isStep_39 : decode cX12_isStep 39 = .ok (.aload_n 0, 1) := by decide +kernel
theorem dX12_isStep_40 : decode cX12_isStep 40 = .ok (.iload_n 1, 1) := by decide +kernel
theorem dX12_isStep_41 : decode cX12_isStep 41 = .ok (.iconst 4, 1) := by decide +kernel
theorem dX12_isStep_42 : decode cX12_isStep 42 = .ok (.invokevirtual 270, 3) := by decide +kernel
theorem dX12_isStep_45 : decode cX12_isStep 45 = .ok (.iload_n 2, 1) := by decide +kernel
theorem dX12_isStep_46 : decode cX12_isStep 46 = .ok (.invokevirtual 273, 3) := by decide +kernel
theorem dX12_isStep_49 : decode cX12_isStep 49 = .ok (.ireturn, 1) := by decide +kernel
set_option maxHeartbeats 4000000 in
set_option maxRecDepth 100000 in
theorem jc_X12_isStep {l : Launch} {D : xD} {ty : xTy} {h : xH} {v0 : Nat} {v1 : Int32} {v2 : Int32} {r : Int32} {h9 : xH} (t_v0 : ty v0 = some (0, 12)) (hF : jf_X12_isStep ty h v0 v1 v2 = some (r, h9)) : Met l yX12_isStep (xws yX12_isStep cX12_isStep 3 (some .boolean)) jr_X12_isStep (xPc D ty h [.ref v0, .int v1, .int v2]) (xQ D ty (some (.int r)) h9) 0 0 (xdom ty) := by
  refine x_met (by decide) ?_
  intro p e s m below meth c C0 hR
  generalize hargs : ([.ref v0, .int v1, .int v2] : List Value).toArray = args at C0 ⊢
  have hx := C0.1
  have hb := C0.2.1
  have hown := C0.2.2.2.2.2.1
  have hts := C0.2.2.2.2.2.2.1
  have hS : xS ty s.heap s.heap [] := xS.rf
  have hl := lv_entry ([.ref v0, .int v1, .int v2]) (n := 3) (Nat.le_of_ble_eq_true rfl)
  rw [← hargs, lg_entry_eq]
  rw [hargs]
  generalize (lg_sl ([.ref v0, .int v1, .int v2]) ++ List.replicate (3 - (lg_sl ([.ref v0, .int v1, .int v2])).length) Slot.unset).toArray = ls at hl ⊢
  have hl : lv_has ls 3 [(0, .ref v0), (1, .int v1), (2, .int v2)] := hl
  unfold jf_X12_isStep at hF
  refine lv_aload_n hx hb dX12_isStep_0 rfl (lv_at hl 0 rfl) ?_
  refine lv_iload_n hx hb dX12_isStep_1 rfl (lv_at hl 1 rfl) ?_
  obtain ⟨a1, e_a1, hF⟩ := xbd hF
  refine cl_X12_285 C0 hR hS e_a1 t_v0 ⟨(Nat.le_of_ble_eq_true rfl), (Nat.le_of_ble_eq_true rfl)⟩ hl.1 (Nat.le_of_ble_eq_true rfl) ⟨(Nat.le_of_ble_eq_true rfl), (Nat.le_of_ble_eq_true rfl)⟩ dX12_isStep_2 (fun H locs hR hS => ?_)
  refine lv_if_eq (tgt := 17) hx hb dX12_isStep_5 (by decide) (fun c2 => ?_) (fun c2 => ?_)
  · have hF := xif hF c2
    refine lv_iconst (v := 0) hx hb dX12_isStep_17 (by decide) ?_
    cases hF
    exact x_zret (w := 0) C0 hR hS (by decide) dX12_isStep_18
  · have hF := xel hF c2
    refine lv_aload_n hx hb dX12_isStep_8 rfl (lv_at hl 0 rfl) ?_
    obtain ⟨a3, e_a3, hF⟩ := xbd hF
    refine gf_X12_38 C0 hR t_v0 e_a3 dX12_isStep_9 ?_
    refine lv_iload_n hx hb dX12_isStep_12 rfl (lv_at hl 1 rfl) ?_
    obtain ⟨a4, e_a4, hF⟩ := xbd hF
    refine x_iald C0 hR e_a4 dX12_isStep_13 ?_
    refine lv_if_ne (tgt := 19) hx hb dX12_isStep_14 (by decide) (fun c5 => ?_) (fun c5 => ?_)
    · have hF := xel hF c5
      refine lv_aload_n hx hb dX12_isStep_19 rfl (lv_at hl 0 rfl) ?_
      obtain ⟨h6, e_h6, hF⟩ := xbd hF
      refine cl_X12_263 C0 hR hS e_h6 t_v0 ⟨(Nat.le_of_ble_eq_true rfl), (Nat.le_of_ble_eq_true rfl)⟩ hl.1 (Nat.le_of_ble_eq_true rfl) ⟨(Nat.le_of_ble_eq_true rfl), (Nat.le_of_ble_eq_true rfl)⟩ dX12_isStep_20 (fun H locs hR hS => ?_)
      refine lv_aload_n hx hb dX12_isStep_23 rfl (lv_at hl 0 rfl) ?_
      refine lv_aload_n hx hb dX12_isStep_24 rfl (lv_at hl 0 rfl) ?_
      obtain ⟨a7, e_a7, hF⟩ := xbd hF
      refine gf_X12_83 C0 hR t_v0 e_a7 dX12_isStep_25 ?_
      refine lv_iconst (v := 0) hx hb dX12_isStep_28 (by decide) ?_
      refine lv_aload_n hx hb dX12_isStep_29 rfl (lv_at hl 0 rfl) ?_
      refine gf_X12_373 C0 hR t_v0 dX12_isStep_30 ?_
      refine lv_iconst (v := 0) hx hb dX12_isStep_33 (by decide) ?_
      obtain ⟨a9, h8, e_h8, hF⟩ := xbd2 hF
      refine cl_X12_238 C0 hR hS e_h8 t_v0 ⟨(Nat.le_of_ble_eq_true rfl), (Nat.le_of_ble_eq_true rfl)⟩ hl.1 (Nat.le_of_ble_eq_true rfl) ⟨(Nat.le_of_ble_eq_true rfl), (Nat.le_of_ble_eq_true rfl)⟩ dX12_isStep_34 (fun H locs hR hS => ?_)
      refine lv_pop hx hb dX12_isStep_37 rfl ?_
      refine lv_aload_n hx hb dX12_isStep_38 rfl (lv_at hl 0 rfl) ?_
      refine lv_aload_n hx hb dX12_isStep_39 rfl (lv_at hl 0 rfl) ?_
      refine lv_iload_n hx hb dX12_isStep_40 rfl (lv_at hl 1 rfl) ?_
      refine lv_iconst (v := 4) hx hb dX12_isStep_41 (by decide) ?_
      obtain ⟨a11, h10, e_h10, hF⟩ := xbd2 hF
      refine cl_X12_270 C0 hR hS e_h10 t_v0 ⟨(Nat.le_of_ble_eq_true rfl), (Nat.le_of_ble_eq_true rfl)⟩ hl.1 (Nat.le_of_ble_eq_true rfl) ⟨(Nat.le_of_ble_eq_true rfl), (Nat.le_of_ble_eq_true rfl)⟩ dX12_isStep_42 (fun H locs hR hS => ?_)
      refine lv_iload_n hx hb dX12_isStep_45 rfl (lv_at hl 2 rfl) ?_
      obtain ⟨a13, h12, e_h12, hF⟩ := xbd2 hF
      refine cl_X12_273 C0 hR hS e_h12 t_v0 ⟨(Nat.le_of_ble_eq_true rfl), (Nat.le_of_ble_eq_true rfl)⟩ hl.1 (Nat.le_of_ble_eq_true rfl) ⟨(Nat.le_of_ble_eq_true rfl), (Nat.le_of_ble_eq_true rfl)⟩ dX12_isStep_46 (fun H locs hR hS => ?_)
      obtain ⟨w14, e_w14, hF⟩ := xbd hF
      cases hF
      exact x_zret C0 hR hS e_w14 dX12_isStep_49
    · have hF := xif hF c5
      refine lv_iconst (v := 0) hx hb dX12_isStep_17 (by decide) ?_
      cases hF
      exact x_zret (w := 0) C0 hR hS (by decide) dX12_isStep_18
theorem xm_X12_isStep : xMw yX12_isStep cX12_isStep 3 (some .boolean) 2 := ⟨xin 1864 (by decide +kernel) rfl, xin 126 (by decide +kernel) rfl, by decide +kernel⟩
theorem xi_X12_isStep : Cond.instanceMethod yX12_isStep ∈ xT := xin 1863 (by decide +kernel) rfl
theorem xe_X12_isStep : Cond.selects yX12_isStep.cls yX12_isStep yX12_isStep ∈ xT := xin 109 (by decide +kernel) rfl
theorem dX12_isStepped_0 : decode cX12_isStepped 0 = .ok (.iconst 0, 1) := by decide +kernel
theorem dX12_isStepped_1 : decode cX12_isStepped 1 = .ok (.istore_n 1, 1) := by decide +kernel
theorem dX12_isStepped_2 : decode cX12_isStepped 2 = .ok (.iload_n 1, 1) := by decide +kernel
theorem dX12_isStepped_3 : decode cX12_isStepped 3 = .ok (.aload_n 0, 1) := by decide +kernel
theorem dX12_isStepped_4 : decode cX12_isStepped 4 = .ok (.getfield 373, 3) := by decide +kernel
theorem dX12_isStepped_7 : decode cX12_isStepped 7 = .ok (.if_icmp .ge 69, 3) := by decide +kernel
theorem dX12_isStepped_10 : decode cX12_isStepped 10 = .ok (.iconst 0, 1) := by decide +kernel
theorem dX12_isStepped_11 : decode cX12_isStepped 11 = .ok (.istore_n 2, 1) := by decide +kernel
theorem dX12_isStepped_12 : decode cX12_isStepped 12 = .ok (.iload_n 2, 1) := by decide +kernel
theorem dX12_isStepped_13 : decode cX12_isStepped 13 = .ok (.aload_n 0, 1) := by decide +kernel
theorem dX12_isStepped_14 : decode cX12_isStepped 14 = .ok (.getfield 178, 3) := by decide +kernel
theorem dX12_isStepped_17 : decode cX12_isStepped 17 = .ok (.if_icmp .ge 53, 3) := by decide +kernel
theorem dX12_isStepped_20 : decode cX12_isStepped 20 = .ok (.aload_n 0, 1) := by decide +kernel
theorem dX12_isStepped_21 : decode cX12_isStepped 21 = .ok (.iload_n 2, 1) := by decide +kernel
theorem dX12_isStepped_22 : decode cX12_isStepped 22 = .ok (.iload_n 1, 1) := by decide +kernel
theorem dX12_isStepped_23 : decode cX12_isStepped 23 = .ok (.invokevirtual 376, 3) := by decide +kernel
theorem dX12_isStepped_26 : decode cX12_isStepped 26 = .ok (.ifCond .ne 6, 3) := by decide +kernel
theorem dX12_isStepped_29 : decode cX12_isStepped 29 = .ok (.goto 35, 3) := by decide +kernel
theorem dX12_isStepped_32 : decode cX12_isStepped 32 = .ok (.aload_n 0, 1) := by decide +kernel
theorem dX12_isStepped_33 : decode cX12_isStepped 33 = .ok (.iload_n 2, 1) := by decide +kernel
theorem dX12_isStepped_34 : decode cX12_isStepped 34 = .ok (.iload_n 1, 1) := by decide +kernel
theorem dX12_isStepped_35 : decode cX12_isStepped 35 = .ok (.invokevirtual 379, 3) := by decide +kernel
theorem dX12_isStepped_38 : decode cX12_isStepped 38 = .ok (.ifCond .ne 5, 3) := by decide +kernel
theorem dX12_isStepped_41 : decode cX12_isStepped 41 = .ok (.iconst 0, 1) := by decide +kernel
theorem dX12_isStepped_42 : decode cX12_isStepped 42 = .ok (.ireturn, 1) := by decide +kernel
theorem dX12_isStepped_43 : decode cX12_isStepped 43 = .ok (.aload_n 0, 1) := by decide +kernel
theorem dX12_isStepped_44 : decode cX12_isStepped 44 = .ok (.aload_n 0, 1) := by decide +kernel
theorem dX12_isStepped_45 : decode cX12_isStepped 45 = .ok (.getfield 382, 3) := by decide +kernel
theorem dX12_isStepped_48 : decode cX12_isStepped 48 = .ok (.ifCond .ne 7, 3) := by decide +kernel
theorem dX12_isStepped_51 : decode cX12_isStepped 51 = .ok (.iload_n 2, 1) := by decide +kernel
theorem dX12_isStepped_52 : decode cX12_isStepped 52 = .ok (.goto 7, 3) := by decide +kernel
theorem dX12_isStepped_55 : decode cX12_isStepped 55 = .ok (.aload_n 0, 1) := by decide +kernel
theorem dX12_isStepped_56 : decode cX12_isStepped 56 = .ok (.getfield 385, 3) := by decide +kernel
theorem dX12_isStepped_59 : decode cX12_isStepped 59 = .ok (.putfield 385, 3) := by decide +kernel
theorem dX12_isStepped_62 : decode cX12_isStepped 62 = .ok (.iconst 1, 1) := by decide +kernel
theorem dX12_isStepped_63 : decode cX12_isStepped 63 = .ok (.ireturn, 1) := by decide +kernel
theorem dX12_isStepped_64 : decode cX12_isStepped 64 = .ok (.iinc 2 1, 3) := by decide +kernel
theorem dX12_isStepped_67 : decode cX12_isStepped 67 = .ok (.goto (-55), 3) := by decide +kernel
theorem dX12_isStepped_70 : decode cX12_isStepped 70 = .ok (.iinc 1 1, 3) := by decide +kernel
theorem dX12_isStepped_73 : decode cX12_isStepped 73 = .ok (.goto (-71), 3) := by decide +kernel
theorem dX12_isStepped_76 : decode cX12_isStepped 76 = .ok (.iconst 0, 1) := by decide +kernel
theorem dX12_isStepped_77 : decode cX12_isStepped 77 = .ok (.ireturn, 1) := by decide +kernel
theorem wl_X12_376 : Cond.methodLink RX12 376 yX12_isStep ∈ xT := xin 1861 (by decide +kernel) rfl
theorem wl_X12_379 : Cond.methodLink RX12 379 yX12_isReplaced ∈ xT := xin 1865 (by decide +kernel) rfl
theorem wf_X12_382 : Cond.fieldLink RX12 382 "TermShelfModel" "stepsDone" "I" ∈ xT := xin 1362 (by decide +kernel) rfl
theorem wf_X12_385 : Cond.fieldLink RX12 385 "TermShelfModel" "firstRule" "I" ∈ xT := xin 1363 (by decide +kernel) rfl
section XN_X12_isStepped
variable {p : Program} {l : Launch} {e : Env} {R : Room} {s : State} {m : MethodId} {args : Array Value} {below : List Frame} {meth : Method} {c : Code} {H H0 : Heap} {locs : List Loc} {cells slots : Nat} {Q : State → Prop} {cc : ByteArray} {nL pc : Nat} {rt : Option FieldType} {ls : Array Slot} {rest : List Value} {D : xD} {ty : xTy} {h : xH}
theorem cl_X12_376 {v0 : Nat} {v1 : Int32} {v2 : Int32} {r : Int32} {h9 : xH} (C0 : xC D RX12 cc nL rt p s m args meth c) (hR : xRep D ty h H) (hS : xS ty H0 H locs) (hF : jf_X12_isStep ty h v0 v1 v2 = some (r, h9)) (t_v0 : ty v0 = some (0, 12)) (hrm : jr_X12_isStep.frames + 1 ≤ R.frames ∧ 8 + (3 + 11) + jr_X12_isStep.locals ≤ R.locals) (hsz : ls.size = nL) (hW : (rest.map fun v => v.category).sum ≤ 8) (hf : cells ≤ R.cells ∧ slots ≤ R.slots) (hdg : decode cc pc = .ok (.invokevirtual 376, 3)) (kk : ∀ (H1 : Heap) (locs1 : List Loc), xRep D ty h9 H1 → xS ty H0 H1 locs1 → W p l e R s m args below meth c H1 locs1 cells slots Q (F0 m (pc + 3) ls (.int r :: rest))) : W p l e R s m args below meth c H locs cells slots Q (F0 m pc ls (.int v2 :: .int v1 :: .ref v0 :: rest)) := x_callV C0 (jc_X12_isStep t_v0 hF) xm_X12_isStep xi_X12_isStep xe_X12_isStep wl_X12_376 ⟨rfl, rfl, hrm⟩ (ci := 12) rfl t_v0 hR hS (As := [.int v1, .int v2]) rfl hsz rfl hW hdg hf kk
theorem cl_X12_379 {v0 : Nat} {v1 : Int32} {v2 : Int32} {r : Int32} {h9 : xH} (C0 : xC D RX12 cc nL rt p s m args meth c) (hR : xRep D ty h H) (hS : xS ty H0 H locs) (hF : jf_X12_isReplaced ty h v0 v1 v2 = some (r, h9)) (t_v0 : ty v0 = some (0, 12)) (hrm : jr_X12_isReplaced.frames + 1 ≤ R.frames ∧ 8 + (8 + 11) + jr_X12_isReplaced.locals ≤ R.locals) (hsz : ls.size = nL) (hW : (rest.map fun v => v.category).sum ≤ 8) (hf : cells ≤ R.cells ∧ slots ≤ R.slots) (hdg : decode cc pc = .ok (.invokevirtual 379, 3)) (kk : ∀ (H1 : Heap) (locs1 : List Loc), xRep D ty h9 H1 → xS ty H0 H1 locs1 → W p l e R s m args below meth c H1 locs1 cells slots Q (F0 m (pc + 3) ls (.int r :: rest))) : W p l e R s m args below meth c H locs cells slots Q (F0 m pc ls (.int v2 :: .int v1 :: .ref v0 :: rest)) := x_callV C0 (jc_X12_isReplaced t_v0 hF) xm_X12_isReplaced xi_X12_isReplaced xe_X12_isReplaced wl_X12_379 ⟨rfl, rfl, hrm⟩ (ci := 12) rfl t_v0 hR hS (As := [.int v1, .int v2]) rfl hsz rfl hW hdg hf kk
theorem gf_X12_382 {a : Nat} (C0 : xC D RX12 cc nL rt p s m args meth c) (hR : xRep D ty h H) (ht : ty a = some (0, 12)) (hdg : decode cc pc = .ok (.getfield 382, 3)) (kk : W p l e R s m args below meth c H locs cells slots Q (F0 m (pc + 3) ls (.int (xI h a 50) :: rest))) : W p l e R s m args below meth c H locs cells slots Q (F0 m pc ls (.ref a :: rest)) := x_get C0 hR (ci := 12) (k := 50) (N := 60) (T := TX12) rfl iX12 (by decide) rfl wf_X12_382 rfl ht hdg kk
theorem gf_X12_385 {a : Nat} (C0 : xC D RX12 cc nL rt p s m args meth c) (hR : xRep D ty h H) (ht : ty a = some (0, 12)) (hdg : decode cc pc = .ok (.getfield 385, 3)) (kk : W p l e R s m args below meth c H locs cells slots Q (F0 m (pc + 3) ls (.int (xI h a 51) :: rest))) : W p l e R s m args below meth c H locs cells slots Q (F0 m pc ls (.ref a :: rest)) := x_get C0 hR (ci := 12) (k := 51) (N := 60) (T := TX12) rfl iX12 (by decide) rfl wf_X12_385 rfl ht hdg kk
theorem pf_X12_385 {a : Nat} {v : Int32} (C0 : xC D RX12 cc nL rt p s m args meth c) (hR : xRep D ty h H) (hS : xS ty H0 H locs) (ht : ty a = some (0, 12)) (hdg : decode cc pc = .ok (.putfield 385, 3)) (kk : ∀ (H1 : Heap) (locs1 : List Loc), xRep D ty (xsI h a 51 v) H1 → xS ty H0 H1 locs1 → W p l e R s m args below meth c H1 locs1 cells slots Q (F0 m (pc + 3) ls rest)) : W p l e R s m args below meth c H locs cells slots Q (F0 m pc ls (.int v :: .ref a :: rest)) := x_puti C0 hR hS (ci := 12) (k := 51) (N := 60) (T := TX12) rfl iX12 tyX12_ok nmX12 (by decide) rfl rfl wf_X12_385 (Or.inl rfl) rfl rfl ht hdg kk
end XN_X12_isStepped
set_option maxHeartbeats 4000000 in
set_option maxRecDepth 100000 in
theorem jw_X12_isStepped_12 {p : Program} {l : Launch} {e : Env} {s : State} {m : MethodId} {args : Array Value} {below : List Frame} {meth : Method} {c : Code} {D : xD} {ty : xTy} {k2 : Nat → Int32 → xH → Option (Int32 × xH)} (C0 : xC D RX12 cX12_isStepped 3 (some .boolean) p s m args meth c) {r : Int32} {h9 : xH} (hk2 : ∀ (v0 : Nat) (v1 : Int32) (h : xH), ty v0 = some (0, 12) → k2 v0 v1 h = some (r, h9) → ∀ (H : Heap) (locs : List Loc), xRep D ty h H → xS ty s.heap H locs → ∀ ls : Array Slot, lv_has ls 3 [(0, .ref v0), (1, .int v1)] → W p l e jr_X12_isStepped s m args below meth c H locs 0 0 (MQ below (xQ D ty (some (.int r)) h9) args s 0 0 (xdom ty)) (F0 m 2 ls [])) : ∀ n : Nat, ∀ (v0 : Nat) (v1 : Int32) (v2 : Int32) (h : xH), ty v0 = some (0, 12) → jf_X12_isStepped_12 ty k2 n v0 v1 v2 h = some (r, h9) → ∀ (H : Heap) (locs : List Loc), xRep D ty h H → xS ty s.heap H locs → ∀ ls : Array Slot, lv_has ls 3 [(0, .ref v0), (1, .int v1), (2, .int v2)] → W p l e jr_X12_isStepped s m args below meth c H locs 0 0 (MQ below (xQ D ty (some (.int r)) h9) args s 0 0 (xdom ty)) (F0 m 12 ls []) := by
  have hx := C0.1
  have hb := C0.2.1
  have hown := C0.2.2.2.2.2.1
  have hts := C0.2.2.2.2.2.2.1
  intro n
  induction n with
  | zero =>
    intro v0 v1 v2 h t_v0 hF H locs hR hS ls hl
    cases hF
  | succ n ih =>
    intro v0 v1 v2 h t_v0 hF H locs hR hS ls hl
    rw [jf_X12_isStepped_12_s] at hF
    refine lv_iload_n hx hb dX12_isStepped_12 rfl (lv_at hl 2 rfl) ?_
    refine lv_aload_n hx hb dX12_isStepped_13 rfl (lv_at hl 0 rfl) ?_
    refine gf_X12_178 C0 hR t_v0 dX12_isStepped_14 ?_
    refine lv_icmp_ge (tgt := 70) hx hb dX12_isStepped_17 (by decide) (fun c1 => ?_) (fun c1 => ?_)
    · have hF := xif hF c1
      refine lv_iinc (v := v1 + 1) (lv' := [(1, .int (v1 + 1)), (0, .ref v0), (2, .int v2)]) hx hb dX12_isStepped_70 hl (k := 1) rfl rfl (by decide) rfl (fun ls hl => ?_)
      refine lv_goto (tgt := 2) hx hb dX12_isStepped_73 (by decide) ?_
      exact hk2 _ _ _ t_v0 hF _ _ hR hS _ (lv_sub hl [1, 0] rfl)
    · have hF := xel hF c1
      refine lv_aload_n hx hb dX12_isStepped_20 rfl (lv_at hl 0 rfl) ?_
      refine lv_iload_n hx hb dX12_isStepped_21 rfl (lv_at hl 2 rfl) ?_
      refine lv_iload_n hx hb dX12_isStepped_22 rfl (lv_at hl 1 rfl) ?_
      obtain ⟨a3, h2, e_h2, hF⟩ := xbd2 hF
      refine cl_X12_376 C0 hR hS e_h2 t_v0 ⟨(Nat.le_of_ble_eq_true rfl), (Nat.le_of_ble_eq_true rfl)⟩ hl.1 (Nat.le_of_ble_eq_true rfl) ⟨(Nat.le_of_ble_eq_true rfl), (Nat.le_of_ble_eq_true rfl)⟩ dX12_isStepped_23 (fun H locs hR hS => ?_)
      refine lv_if_ne (tgt := 32) hx hb dX12_isStepped_26 (by decide) (fun c4 => ?_) (fun c4 => ?_)
      · have hF := xel hF c4
        refine lv_aload_n hx hb dX12_isStepped_32 rfl (lv_at hl 0 rfl) ?_
        refine lv_iload_n hx hb dX12_isStepped_33 rfl (lv_at hl 2 rfl) ?_
        refine lv_iload_n hx hb dX12_isStepped_34 rfl (lv_at hl 1 rfl) ?_
        obtain ⟨a6, h5, e_h5, hF⟩ := xbd2 hF
        refine cl_X12_379 C0 hR hS e_h5 t_v0 ⟨(Nat.le_of_ble_eq_true rfl), (Nat.le_of_ble_eq_true rfl)⟩ hl.1 (Nat.le_of_ble_eq_true rfl) ⟨(Nat.le_of_ble_eq_true rfl), (Nat.le_of_ble_eq_true rfl)⟩ dX12_isStepped_35 (fun H locs hR hS => ?_)
        refine lv_if_ne (tgt := 43) hx hb dX12_isStepped_38 (by decide) (fun c7 => ?_) (fun c7 => ?_)
        · have hF := xel hF c7
          refine lv_aload_n hx hb dX12_isStepped_43 rfl (lv_at hl 0 rfl) ?_
          refine lv_aload_n hx hb dX12_isStepped_44 rfl (lv_at hl 0 rfl) ?_
          refine gf_X12_382 C0 hR t_v0 dX12_isStepped_45 ?_
          refine lv_if_ne (tgt := 55) hx hb dX12_isStepped_48 (by decide) (fun c8 => ?_) (fun c8 => ?_)
          · have hF := xel hF c8
            refine lv_aload_n hx hb dX12_isStepped_55 rfl (lv_at hl 0 rfl) ?_
            refine gf_X12_385 C0 hR t_v0 dX12_isStepped_56 ?_
            obtain ⟨h9, e_h9, hF⟩ := xbd hF
            refine pf_X12_385 C0 hR hS t_v0 dX12_isStepped_59 (fun H locs hR hS => ?_)
            rw [Option.some.inj e_h9] at hR
            refine lv_iconst (v := 1) hx hb dX12_isStepped_62 (by decide) ?_
            cases hF
            exact x_zret (w := 1) C0 hR hS (by decide) dX12_isStepped_63
          · have hF := xif hF c8
            refine lv_iload_n hx hb dX12_isStepped_51 rfl (lv_at hl 2 rfl) ?_
            refine lv_goto (tgt := 59) hx hb dX12_isStepped_52 (by decide) ?_
            obtain ⟨h10, e_h10, hF⟩ := xbd hF
            refine pf_X12_385 C0 hR hS t_v0 dX12_isStepped_59 (fun H locs hR hS => ?_)
            rw [Option.some.inj e_h10] at hR
            refine lv_iconst (v := 1) hx hb dX12_isStepped_62 (by decide) ?_
            cases hF
            exact x_zret (w := 1) C0 hR hS (by decide) dX12_isStepped_63
        · have hF := xif hF c7
          refine lv_iconst (v := 0) hx hb dX12_isStepped_41 (by decide) ?_
          cases hF
          exact x_zret (w := 0) C0 hR hS (by decide) dX12_isStepped_42
      · have hF := xif hF c4
        refine lv_goto (tgt := 64) hx hb dX12_isStepped_29 (by decide) ?_
        refine lv_iinc (v := v2 + 1) (lv' := [(2, .int (v2 + 1)), (0, .ref v0), (1, .int v1)]) hx hb dX12_isStepped_64 hl (k := 2) rfl rfl (by decide) rfl (fun ls hl => ?_)
        refine lv_goto (tgt := 12) hx hb dX12_isStepped_67 (by decide) ?_
        exact ih _ _ _ _ t_v0 hF _ _ hR hS _ (lv_sub hl [1, 2, 0] rfl)
set_option maxHeartbeats 4000000 in
set_option maxRecDepth 100000 in
theorem jw_X12_isStepped_2 {p : Program} {l : Launch} {e : Env} {s : State} {m : MethodId} {args : Array Value} {below : List Frame} {meth : Method} {c : Code} {D : xD} {ty : xTy} (C0 : xC D RX12 cX12_isStepped 3 (some .boolean) p s m args meth c) {r : Int32} {h9 : xH} : ∀ n : Nat, ∀ (v0 : Nat) (v1 : Int32) (h : xH), ty v0 = some (0, 12) → jf_X12_isStepped_2 ty n v0 v1 h = some (r, h9) → ∀ (H : Heap) (locs : List Loc), xRep D ty h H → xS ty s.heap H locs → ∀ ls : Array Slot, lv_has ls 3 [(0, .ref v0), (1, .int v1)] → W p l e jr_X12_isStepped s m args below meth c H locs 0 0 (MQ below (xQ D ty (some (.int r)) h9) args s 0 0 (xdom ty)) (F0 m 2 ls []) := by
  have hx := C0.1
  have hb := C0.2.1
  have hown := C0.2.2.2.2.2.1
  have hts := C0.2.2.2.2.2.2.1
  intro n
  induction n with
  | zero =>
    intro v0 v1 h t_v0 hF H locs hR hS ls hl
    cases hF
  | succ n ih =>
    intro v0 v1 h t_v0 hF H locs hR hS ls hl
    rw [jf_X12_isStepped_2_s] at hF
    refine lv_iload_n hx hb dX12_isStepped_2 rfl (lv_at hl 1 rfl) ?_
    refine lv_aload_n hx hb dX12_isStepped_3 rfl (lv_at hl 0 rfl) ?_
    refine gf_X12_373 C0 hR t_v0 dX12_isStepped_4 ?_
    refine lv_icmp_ge (tgt := 76) hx hb dX12_isStepped_7 (by decide) (fun c11 => ?_) (fun c11 => ?_)
    · have hF := xif hF c11
      refine lv_iconst (v := 0) hx hb dX12_isStepped_76 (by decide) ?_
      cases hF
      exact x_zret (w := 0) C0 hR hS (by decide) dX12_isStepped_77
    · have hF := xel hF c11
      refine lv_iconst (v := 0) hx hb dX12_isStepped_10 (by decide) ?_
      refine lv_istore_n (lv' := [(2, .int 0), (0, .ref v0), (1, .int v1)]) hx hb dX12_isStepped_11 rfl hl (by decide) rfl (fun ls hl => ?_)
      obtain ⟨_, hF⟩ := xlim_sp hF
      exact jw_X12_isStepped_12 C0 ih _ _ _ _ _ t_v0 hF _ _ hR hS _ (lv_sub hl [1, 2, 0] rfl)
set_option maxHeartbeats 4000000 in
set_option maxRecDepth 100000 in
theorem jc_X12_isStepped {l : Launch} {D : xD} {ty : xTy} {h : xH} {v0 : Nat} {r : Int32} {h9 : xH} (t_v0 : ty v0 = some (0, 12)) (hF : jf_X12_isStepped ty h v0 = some (r, h9)) : Met l yX12_isStepped (xws yX12_isStepped cX12_isStepped 3 (some .boolean)) jr_X12_isStepped (xPc D ty h [.ref v0]) (xQ D ty (some (.int r)) h9) 0 0 (xdom ty) := by
  refine x_met (by decide) ?_
  intro p e s m below meth c C0 hR
  generalize hargs : ([.ref v0] : List Value).toArray = args at C0 ⊢
  have hx := C0.1
  have hb := C0.2.1
  have hown := C0.2.2.2.2.2.1
  have hts := C0.2.2.2.2.2.2.1
  have hS : xS ty s.heap s.heap [] := xS.rf
  have hl := lv_entry ([.ref v0]) (n := 3) (Nat.le_of_ble_eq_true rfl)
  rw [← hargs, lg_entry_eq]
  rw [hargs]
  generalize (lg_sl ([.ref v0]) ++ List.replicate (3 - (lg_sl ([.ref v0])).length) Slot.unset).toArray = ls at hl ⊢
  have hl : lv_has ls 3 [(0, .ref v0)] := hl
  unfold jf_X12_isStepped at hF
  refine lv_iconst (v := 0) hx hb dX12_isStepped_0 (by decide) ?_
  refine lv_istore_n (lv' := [(1, .int 0), (0, .ref v0)]) hx hb dX12_isStepped_1 rfl hl (by decide) rfl (fun ls hl => ?_)
  obtain ⟨_, hF⟩ := xlim_sp hF
  exact jw_X12_isStepped_2 C0 _ _ _ _ t_v0 hF _ _ hR hS _ (lv_sub hl [1, 0] rfl)
theorem xm_X12_isStepped : xMw yX12_isStepped cX12_isStepped 3 (some .boolean) 0 := ⟨xin 1860 (by decide +kernel) rfl, xin 126 (by decide +kernel) rfl, by decide +kernel⟩
theorem xi_X12_isStepped : Cond.instanceMethod yX12_isStepped ∈ xT := xin 1859 (by decide +kernel) rfl
theorem xe_X12_isStepped : Cond.selects yX12_isStepped.cls yX12_isStepped yX12_isStepped ∈ xT := xin 108 (by decide +kernel) rfl

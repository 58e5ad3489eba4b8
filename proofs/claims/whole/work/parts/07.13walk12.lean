theorem dX12_laySteps_0 : decode cX12_laySteps 0 = .ok (.iconst 0, 1) := by decide +kernel
theorem dX12_laySteps_1 : decode cX12_laySteps 1 = .ok (.istore_n 1, 1) := by decide +kernel
theorem dX12_laySteps_2 : decode cX12_laySteps 2 = .ok (.iload_n 1, 1) := by decide +kernel
theorem dX12_laySteps_3 : decode cX12_laySteps 3 = .ok (.aload_n 0, 1) := by decide +kernel
theorem dX12_laySteps_4 : decode cX12_laySteps 4 = .ok (.getfield 188, 3) := by decide +kernel
theorem dX12_laySteps_7 : decode cX12_laySteps 7 = .ok (.if_icmp .ge 21, 3) := by decide +kernel
theorem dX12_laySteps_10 : decode cX12_laySteps 10 = .ok (.aload_n 0, 1) := by decide +kernel
theorem dX12_laySteps_11 : decode cX12_laySteps 11 = .ok (.getfield 83, 3) := by decide +kernel
theorem dX12_laySteps_14 : decode cX12_laySteps 14 = .ok (.iload_n 1, 1) := by decide +kernel
theorem dX12_laySteps_15 : decode cX12_laySteps 15 = .ok (.aload_n 0, 1) := by decide +kernel
theorem dX12_laySteps_16 : decode cX12_laySteps 16 = .ok (.getfield 44, 3) := by decide +kernel
theorem dX12_laySteps_19 : decode cX12_laySteps 19 = .ok (.iload_n 1, 1) := by decide +kernel
theorem dX12_laySteps_20 : decode cX12_laySteps 20 = .ok (.iaload, 1) := by decide +kernel
theorem dX12_laySteps_21 : decode cX12_laySteps 21 = .ok (.iastore, 1) := by decide +kernel
theorem dX12_laySteps_22 : decode cX12_laySteps 22 = .ok (.iinc 1 1, 3) := by decide +kernel
theorem dX12_laySteps_25 : decode cX12_laySteps 25 = .ok (.goto (-23), 3) := by decide +kernel
theorem dX12_laySteps_28 : decode cX12_laySteps 28 = .ok (.aload_n 0, 1) := by decide +kernel
theorem dX12_laySteps_29 : decode cX12_laySteps 29 = .ok (.aload_n 0, 1) := by decide +kernel
theorem dX12_laySteps_30 : decode cX12_laySteps 30 = .ok (.getfield 188, 3) := by decide +kernel
theorem dX12_laySteps_33 : decode cX12_laySteps 33 = .ok (.putfield 373, 3) := by decide +kernel
theorem dX12_laySteps_36 : decode cX12_laySteps 36 = .ok (.aload_n 0, 1) := by decide +kernel
theorem dX12_laySteps_37 : decode cX12_laySteps 37 = .ok (.iconst 0, 1) := by decide +kernel
theorem dX12_laySteps_38 : decode cX12_laySteps 38 = .ok (.putfield 382, 3) := by decide +kernel
theorem dX12_laySteps_41 : decode cX12_laySteps 41 = .ok (.aload_n 0, 1) := by decide +kernel
theorem dX12_laySteps_42 : decode cX12_laySteps 42 = .ok (.bipush (-2), 2) := by decide +kernel
theorem dX12_laySteps_44 : decode cX12_laySteps 44 = .ok (.putfield 385, 3) := by decide +kernel
theorem dX12_laySteps_47 : decode cX12_laySteps 47 = .ok (.aload_n 0, 1) := by decide +kernel
theorem dX12_laySteps_48 : decode cX12_laySteps 48 = .ok (.getfield 382, 3) := by decide +kernel
theorem dX12_laySteps_51 : decode cX12_laySteps 51 = .ok (.bipush 20, 2) := by decide +kernel
theorem dX12_laySteps_53 : decode cX12_laySteps 53 = .ok (.if_icmp .ge 23, 3) := by decide +kernel
theorem dX12_laySteps_56 : decode cX12_laySteps 56 = .ok (.aload_n 0, 1) := by decide +kernel
theorem dX12_laySteps_57 : decode cX12_laySteps 57 = .ok (.invokevirtual 388, 3) := by decide +kernel
theorem dX12_laySteps_60 : decode cX12_laySteps 60 = .ok (.ifCond .eq 16, 3) := by decide +kernel
theorem dX12_laySteps_63 : decode cX12_laySteps 63 = .ok (.aload_n 0, 1) := by decide +kernel
theorem dX12_laySteps_64 : decode cX12_laySteps 64 = .ok (.dup, 1) := by decide +kernel
theorem dX12_laySteps_65 : decode cX12_laySteps 65 = .ok (.getfield 382, 3) := by decide +kernel
theorem dX12_laySteps_68 : decode cX12_laySteps 68 = .ok (.iconst 1, 1) := by decide +kernel
theorem dX12_laySteps_69 : decode cX12_laySteps 69 = .ok (.iadd, 1) := by decide +kernel
theorem dX12_laySteps_70 : decode cX12_laySteps 70 = .ok (.putfield 382, 3) := by decide +kernel
theorem dX12_laySteps_73 : decode cX12_laySteps 73 = .ok (.goto (-26), 3) := by decide +kernel
theorem dX12_laySteps_76 : decode cX12_laySteps 76 = .ok (.return_, 1) := by decide +kernel
theorem wl_X12_388 : Cond.methodLink RX12 388 yX12_isStepped ∈ xT := xin 1857 (by decide +kernel) rfl
section XN_X12_laySteps
variable {p : Program} {l : Launch} {e : Env} {R : Room} {s : State} {m : MethodId} {args : Array Value} {below : List Frame} {meth : Method} {c : Code} {H H0 : Heap} {locs : List Loc} {cells slots : Nat} {Q : State → Prop} {cc : ByteArray} {nL pc : Nat} {rt : Option FieldType} {ls : Array Slot} {rest : List Value} {D : xD} {ty : xTy} {h : xH}
theorem cl_X12_388 {v0 : Nat} {r : Int32} {h9 : xH} (C0 : xC D RX12 cc nL rt p s m args meth c) (hR : xRep D ty h H) (hS : xS ty H0 H locs) (hF : jf_X12_isStepped ty h v0 = some (r, h9)) (t_v0 : ty v0 = some (0, 12)) (hrm : jr_X12_isStepped.frames + 1 ≤ R.frames ∧ 8 + (3 + 11) + jr_X12_isStepped.locals ≤ R.locals) (hsz : ls.size = nL) (hW : (rest.map fun v => v.category).sum ≤ 8) (hf : cells ≤ R.cells ∧ slots ≤ R.slots) (hdg : decode cc pc = .ok (.invokevirtual 388, 3)) (kk : ∀ (H1 : Heap) (locs1 : List Loc), xRep D ty h9 H1 → xS ty H0 H1 locs1 → W p l e R s m args below meth c H1 locs1 cells slots Q (F0 m (pc + 3) ls (.int r :: rest))) : W p l e R s m args below meth c H locs cells slots Q (F0 m pc ls (.ref v0 :: rest)) := x_callV C0 (jc_X12_isStepped t_v0 hF) xm_X12_isStepped xi_X12_isStepped xe_X12_isStepped wl_X12_388 ⟨rfl, rfl, hrm⟩ (ci := 12) rfl t_v0 hR hS (As := []) rfl hsz rfl hW hdg hf kk
theorem pf_X12_382 {a : Nat} {v : Int32} (C0 : xC D RX12 cc nL rt p s m args meth c) (hR : xRep D ty h H) (hS : xS ty H0 H locs) (ht : ty a = some (0, 12)) (hdg : decode cc pc = .ok (.putfield 382, 3)) (kk : ∀ (H1 : Heap) (locs1 : List Loc), xRep D ty (xsI h a 50 v) H1 → xS ty H0 H1 locs1 → W p l e R s m args below meth c H1 locs1 cells slots Q (F0 m (pc + 3) ls rest)) : W p l e R s m args below meth c H locs cells slots Q (F0 m pc ls (.int v :: .ref a :: rest)) := x_puti C0 hR hS (ci := 12) (k := 50) (N := 60) (T := TX12) rfl iX12 tyX12_ok nmX12 (by decide) rfl rfl wf_X12_382 (Or.inl rfl) rfl rfl ht hdg kk
end XN_X12_laySteps
set_option maxHeartbeats 4000000 in
set_option maxRecDepth 100000 in
theorem jw_X12_laySteps_47 {p : Program} {l : Launch} {e : Env} {s : State} {m : MethodId} {args : Array Value} {below : List Frame} {meth : Method} {c : Code} {D : xD} {ty : xTy} (C0 : xC D RX12 cX12_laySteps 2 none p s m args meth c) {h9 : xH} : ∀ n : Nat, ∀ (v0 : Nat) (h : xH), ty v0 = some (0, 12) → jf_X12_laySteps_47 ty n v0 h = some h9 → ∀ (H : Heap) (locs : List Loc), xRep D ty h H → xS ty s.heap H locs → ∀ ls : Array Slot, lv_has ls 2 [(0, .ref v0)] → W p l e jr_X12_laySteps s m args below meth c H locs 0 0 (MQ below (xQ D ty none h9) args s 0 0 (xdom ty)) (F0 m 47 ls []) := by
  have hx := C0.1
  have hb := C0.2.1
  have hown := C0.2.2.2.2.2.1
  have hts := C0.2.2.2.2.2.2.1
  intro n
  induction n with
  | zero =>
    intro v0 h t_v0 hF H locs hR hS ls hl
    cases hF
  | succ n ih =>
    intro v0 h t_v0 hF H locs hR hS ls hl
    rw [jf_X12_laySteps_47_s] at hF
    refine lv_aload_n hx hb dX12_laySteps_47 rfl (lv_at hl 0 rfl) ?_
    refine gf_X12_382 C0 hR t_v0 dX12_laySteps_48 ?_
    refine lv_bipush (v := 20) hx hb dX12_laySteps_51 (by decide) ?_
    refine lv_icmp_ge (tgt := 76) hx hb dX12_laySteps_53 (by decide) (fun c1 => ?_) (fun c1 => ?_)
    · have hF := xif hF c1
      cases hF
      exact x_vret C0 hR hS dX12_laySteps_76
    · have hF := xel hF c1
      refine lv_aload_n hx hb dX12_laySteps_56 rfl (lv_at hl 0 rfl) ?_
      obtain ⟨a3, h2, e_h2, hF⟩ := xbd2 hF
      refine cl_X12_388 C0 hR hS e_h2 t_v0 ⟨(Nat.le_of_ble_eq_true rfl), (Nat.le_of_ble_eq_true rfl)⟩ hl.1 (Nat.le_of_ble_eq_true rfl) ⟨(Nat.le_of_ble_eq_true rfl), (Nat.le_of_ble_eq_true rfl)⟩ dX12_laySteps_57 (fun H locs hR hS => ?_)
      refine lv_if_eq (tgt := 76) hx hb dX12_laySteps_60 (by decide) (fun c4 => ?_) (fun c4 => ?_)
      · have hF := xif hF c4
        cases hF
        exact x_vret C0 hR hS dX12_laySteps_76
      · have hF := xel hF c4
        refine lv_aload_n hx hb dX12_laySteps_63 rfl (lv_at hl 0 rfl) ?_
        refine lv_dup hx hb dX12_laySteps_64 rfl ?_
        refine gf_X12_382 C0 hR t_v0 dX12_laySteps_65 ?_
        refine lv_iconst (v := 1) hx hb dX12_laySteps_68 (by decide) ?_
        refine lv_iadd hx hb dX12_laySteps_69 ?_
        obtain ⟨h5, e_h5, hF⟩ := xbd hF
        refine pf_X12_382 C0 hR hS t_v0 dX12_laySteps_70 (fun H locs hR hS => ?_)
        rw [Option.some.inj e_h5] at hR
        refine lv_goto (tgt := 47) hx hb dX12_laySteps_73 (by decide) ?_
        exact ih _ _ t_v0 hF _ _ hR hS _ (lv_sub hl [0] rfl)
set_option maxHeartbeats 4000000 in
set_option maxRecDepth 100000 in
theorem jw_X12_laySteps_2 {p : Program} {l : Launch} {e : Env} {s : State} {m : MethodId} {args : Array Value} {below : List Frame} {meth : Method} {c : Code} {D : xD} {ty : xTy} (C0 : xC D RX12 cX12_laySteps 2 none p s m args meth c) {h9 : xH} : ∀ n : Nat, ∀ (v0 : Nat) (v1 : Int32) (h : xH), ty v0 = some (0, 12) → jf_X12_laySteps_2 ty n v0 v1 h = some h9 → ∀ (H : Heap) (locs : List Loc), xRep D ty h H → xS ty s.heap H locs → ∀ ls : Array Slot, lv_has ls 2 [(0, .ref v0), (1, .int v1)] → W p l e jr_X12_laySteps s m args below meth c H locs 0 0 (MQ below (xQ D ty none h9) args s 0 0 (xdom ty)) (F0 m 2 ls []) := by
  have hx := C0.1
  have hb := C0.2.1
  have hown := C0.2.2.2.2.2.1
  have hts := C0.2.2.2.2.2.2.1
  intro n
  induction n with
  | zero =>
    intro v0 v1 h t_v0 hF H locs hR hS ls hl
    cases hF
  | succ n ih =>
    intro v0 v1 h t_v0 hF H locs hR hS ls hl
    rw [jf_X12_laySteps_2_s] at hF
    refine lv_iload_n hx hb dX12_laySteps_2 rfl (lv_at hl 1 rfl) ?_
    refine lv_aload_n hx hb dX12_laySteps_3 rfl (lv_at hl 0 rfl) ?_
    refine gf_X12_188 C0 hR t_v0 dX12_laySteps_4 ?_
    refine lv_icmp_ge (tgt := 28) hx hb dX12_laySteps_7 (by decide) (fun c6 => ?_) (fun c6 => ?_)
    · have hF := xif hF c6
      refine lv_aload_n hx hb dX12_laySteps_28 rfl (lv_at hl 0 rfl) ?_
      refine lv_aload_n hx hb dX12_laySteps_29 rfl (lv_at hl 0 rfl) ?_
      refine gf_X12_188 C0 hR t_v0 dX12_laySteps_30 ?_
      obtain ⟨h7, e_h7, hF⟩ := xbd hF
      refine pf_X12_373 C0 hR hS t_v0 dX12_laySteps_33 (fun H locs hR hS => ?_)
      rw [Option.some.inj e_h7] at hR
      refine lv_aload_n hx hb dX12_laySteps_36 rfl (lv_at hl 0 rfl) ?_
      refine lv_iconst (v := 0) hx hb dX12_laySteps_37 (by decide) ?_
      obtain ⟨h8, e_h8, hF⟩ := xbd hF
      refine pf_X12_382 C0 hR hS t_v0 dX12_laySteps_38 (fun H locs hR hS => ?_)
      rw [Option.some.inj e_h8] at hR
      refine lv_aload_n hx hb dX12_laySteps_41 rfl (lv_at hl 0 rfl) ?_
      refine lv_bipush (v := (-2)) hx hb dX12_laySteps_42 (by decide) ?_
      obtain ⟨h9, e_h9, hF⟩ := xbd hF
      refine pf_X12_385 C0 hR hS t_v0 dX12_laySteps_44 (fun H locs hR hS => ?_)
      rw [Option.some.inj e_h9] at hR
      obtain ⟨_, hF⟩ := xlim_sp hF
      exact jw_X12_laySteps_47 C0 _ _ _ t_v0 hF _ _ hR hS _ (lv_sub hl [0] rfl)
    · have hF := xel hF c6
      refine lv_aload_n hx hb dX12_laySteps_10 rfl (lv_at hl 0 rfl) ?_
      obtain ⟨a10, e_a10, hF⟩ := xbd hF
      refine gf_X12_83 C0 hR t_v0 e_a10 dX12_laySteps_11 ?_
      refine lv_iload_n hx hb dX12_laySteps_14 rfl (lv_at hl 1 rfl) ?_
      refine lv_aload_n hx hb dX12_laySteps_15 rfl (lv_at hl 0 rfl) ?_
      obtain ⟨a11, e_a11, hF⟩ := xbd hF
      refine gf_X12_44 C0 hR t_v0 e_a11 dX12_laySteps_16 ?_
      refine lv_iload_n hx hb dX12_laySteps_19 rfl (lv_at hl 1 rfl) ?_
      obtain ⟨a12, e_a12, hF⟩ := xbd hF
      refine x_iald C0 hR e_a12 dX12_laySteps_20 ?_
      obtain ⟨h13, e_h13, hF⟩ := xbd hF
      refine x_iast C0 hR hS e_h13 dX12_laySteps_21 (fun H locs hR hS => ?_)
      refine lv_iinc (v := v1 + 1) (lv' := [(1, .int (v1 + 1)), (0, .ref v0)]) hx hb dX12_laySteps_22 hl (k := 1) rfl rfl (by decide) rfl (fun ls hl => ?_)
      refine lv_goto (tgt := 2) hx hb dX12_laySteps_25 (by decide) ?_
      exact ih _ _ _ t_v0 hF _ _ hR hS _ (lv_sub hl [1, 0] rfl)
set_option maxHeartbeats 4000000 in
set_option maxRecDepth 100000 in
theorem jc_X12_laySteps {l : Launch} {D : xD} {ty : xTy} {h : xH} {v0 : Nat} {h9 : xH} (t_v0 : ty v0 = some (0, 12)) (hF : jf_X12_laySteps ty h v0 = some h9) : Met l yX12_laySteps (xws yX12_laySteps cX12_laySteps 2 none) jr_X12_laySteps (xPc D ty h [.ref v0]) (xQ D ty none h9) 0 0 (xdom ty) := by
  refine x_met (by decide) ?_
  intro p e s m below meth c C0 hR
  generalize hargs : ([.ref v0] : List Value).toArray = args at C0 ⊢
  have hx := C0.1
  have hb := C0.2.1
  have hown := C0.2.2.2.2.2.1
  have hts := C0.2.2.2.2.2.2.1
  have hS : xS ty s.heap s.heap [] := xS.rf
  have hl := lv_entry ([.ref v0]) (n := 2) (Nat.le_of_ble_eq_true rfl)
  rw [← hargs, lg_entry_eq]
  rw [hargs]
  generalize (lg_sl ([.ref v0]) ++ List.replicate (2 - (lg_sl ([.ref v0])).length) Slot.unset).toArray = ls at hl ⊢
  have hl : lv_has ls 2 [(0, .ref v0)] := hl
  unfold jf_X12_laySteps at hF
  refine lv_iconst (v := 0) hx hb dX12_laySteps_0 (by decide) ?_
  refine lv_istore_n (lv' := [(1, .int 0), (0, .ref v0)]) hx hb dX12_laySteps_1 rfl hl (by decide) rfl (fun ls hl => ?_)
  obtain ⟨_, hF⟩ := xlim_sp hF
  exact jw_X12_laySteps_2 C0 _ _ _ _ t_v0 hF _ _ hR hS _ (lv_sub hl [1, 0] rfl)
theorem xm_X12_laySteps : xMw yX12_laySteps cX12_laySteps 2 none 0 := ⟨xin 1856 (by decide +kernel) rfl, xin 126 (by decide +kernel) rfl, by decide +kernel⟩
theorem xi_X12_laySteps : Cond.instanceMethod yX12_laySteps ∈ xT := xin 1855 (by decide +kernel) rfl
theorem xe_X12_laySteps : Cond.selects yX12_laySteps.cls yX12_laySteps yX12_laySteps ∈ xT := xin 107 (by decide +kernel) rfl
theorem dX12_steps_0 : decode cX12_steps 0 = .ok (.aload_n 0, 1) := by decide +kernel
theorem dX12_steps_1 : decode cX12_steps 1 = .ok (.iconst 0, 1) := by decide +kernel
theorem dX12_steps_2 : decode cX12_steps 2 = .ok (.putfield 101, 3) := by decide +kernel
theorem dX12_steps_5 : decode cX12_steps 5 = .ok (.iload_n 1, 1) := by decide +kernel
theorem dX12_steps_6 : decode cX12_steps 6 = .ok (.iconst 0, 1) := by decide +kernel
theorem dX12_steps_7 : decode cX12_steps 7 = .ok (.iconst 2, 1) := by decide +kernel
theorem dX12_steps_8 : decode cX12_steps 8 = .ok (.invokestatic 146, 3) := by decide +kernel
theorem dX12_steps_11 : decode cX12_steps 11 = .ok (.ifCond .eq 10, 3) := by decide +kernel
theorem dX12_steps_14 : decode cX12_steps 14 = .ok (.aload_n 0, 1) := by decide +kernel
theorem dX12_steps_15 : decode cX12_steps 15 = .ok (.getfield 188, 3) := by decide +kernel
theorem dX12_steps_18 : decode cX12_steps 18 = .ok (.ifCond .ne 5, 3) := by decide +kernel
theorem dX12_steps_21 : decode cX12_steps 21 = .ok (.iconst (-1), 1) := by decide +kernel
theorem dX12_steps_22 : decode cX12_steps 22 = .ok (.ireturn, 1) := by decide +kernel
theorem dX12_steps_23 : decode cX12_steps 23 = .ok (.aload_n 0, 1) := by decide +kernel
theorem dX12_steps_24 : decode cX12_steps 24 = .ok (.invokevirtual 391, 3) := by decide +kernel
theorem dX12_steps_27 : decode cX12_steps 27 = .ok (.iload_n 1, 1) := by decide +kernel
theorem dX12_steps_28 : decode cX12_steps 28 = .ok (.ifCond .ne 10, 3) := by decide +kernel
theorem dX12_steps_31 : decode cX12_steps 31 = .ok (.aload_n 0, 1) := by decide +kernel
theorem dX12_steps_32 : decode cX12_steps 32 = .ok (.getfield 382, 3) := by decide +kernel
theorem dX12_steps_35 : decode cX12_steps 35 = .ok (.goto 19, 3) := by decide +kernel
theorem dX12_steps_38 : decode cX12_steps 38 = .ok (.iload_n 1, 1) := by decide +kernel
theorem dX12_steps_39 : decode cX12_steps 39 = .ok (.iconst 1, 1) := by decide +kernel
theorem dX12_steps_40 : decode cX12_steps 40 = .ok (.if_icmp .ne 10, 3) := by decide +kernel
theorem dX12_steps_43 : decode cX12_steps 43 = .ok (.aload_n 0, 1) := by decide +kernel
theorem dX12_steps_44 : decode cX12_steps 44 = .ok (.getfield 373, 3) := by decide +kernel
theorem dX12_steps_47 : decode cX12_steps 47 = .ok (.goto 7, 3) := by decide +kernel
theorem dX12_steps_50 : decode cX12_steps 50 = .ok (.aload_n 0, 1) := by decide +kernel
theorem dX12_steps_51 : decode cX12_steps 51 = .ok (.getfield 385, 3) := by decide +kernel
theorem dX12_steps_54 : decode cX12_steps 54 = .ok (.ireturn, 1) := by decide +kernel
theorem wl_X12_391 : Cond.methodLink RX12 391 yX12_laySteps ∈ xT := xin 1853 (by decide +kernel) rfl
section XN_X12_steps
variable {p : Program} {l : Launch} {e : Env} {R : Room} {s : State} {m : MethodId} {args : Array Value} {below : List Frame} {meth : Method} {c : Code} {H H0 : Heap} {locs : List Loc} {cells slots : Nat} {Q : State → Prop} {cc : ByteArray} {nL pc : Nat} {rt : Option FieldType} {ls : Array Slot} {rest : List Value} {D : xD} {ty : xTy} {h : xH}
theorem cl_X12_391 {v0 : Nat} {h9 : xH} (C0 : xC D RX12 cc nL rt p s m args meth c) (hR : xRep D ty h H) (hS : xS ty H0 H locs) (hF : jf_X12_laySteps ty h v0 = some h9) (t_v0 : ty v0 = some (0, 12)) (hrm : jr_X12_laySteps.frames + 1 ≤ R.frames ∧ 8 + (2 + 11) + jr_X12_laySteps.locals ≤ R.locals) (hsz : ls.size = nL) (hW : (rest.map fun v => v.category).sum ≤ 8) (hf : cells ≤ R.cells ∧ slots ≤ R.slots) (hdg : decode cc pc = .ok (.invokevirtual 391, 3)) (kk : ∀ (H1 : Heap) (locs1 : List Loc), xRep D ty h9 H1 → xS ty H0 H1 locs1 → W p l e R s m args below meth c H1 locs1 cells slots Q (F0 m (pc + 3) ls rest)) : W p l e R s m args below meth c H locs cells slots Q (F0 m pc ls (.ref v0 :: rest)) := x_callV C0 (jc_X12_laySteps t_v0 hF) xm_X12_laySteps xi_X12_laySteps xe_X12_laySteps wl_X12_391 ⟨rfl, rfl, hrm⟩ (ci := 12) rfl t_v0 hR hS (As := []) rfl hsz rfl hW hdg hf kk
end XN_X12_steps
set_option maxHeartbeats 4000000 in
set_option maxRecDepth 100000 in
theorem jc_X12_steps {l : Launch} {D : xD} {ty : xTy} {h : xH} {v0 : Nat} {v1 : Int32} {r : Int32} {h9 : xH} (t_v0 : ty v0 = some (0, 12)) (hF : jf_X12_steps ty h v0 v1 = some (r, h9)) : Met l yX12_steps (xws yX12_steps cX12_steps 2 (some .int)) jr_X12_steps (xPc D ty h [.ref v0, .int v1]) (xQ D ty (some (.int r)) h9) 0 0 (xdom ty) := by
  refine x_met (by decide) ?_
  intro p e s m below meth c C0 hR
  generalize hargs : ([.ref v0, .int v1] : List Value).toArray = args at C0 ⊢
  have hx := C0.1
  have hb := C0.2.1
  have hown := C0.2.2.2.2.2.1
  have hts := C0.2.2.2.2.2.2.1
  have hS : xS ty s.heap s.heap [] := xS.rf
  have hl := lv_entry ([.ref v0, .int v1]) (n := 2) (Nat.le_of_ble_eq_true rfl)
  rw [← hargs, lg_entry_eq]
  rw [hargs]
  generalize (lg_sl ([.ref v0, .int v1]) ++ List.replicate (2 - (lg_sl ([.ref v0, .int v1])).length) Slot.unset).toArray = ls at hl ⊢
  have hl : lv_has ls 2 [(0, .ref v0), (1, .int v1)] := hl
  unfold jf_X12_steps at hF
  refine lv_aload_n hx hb dX12_steps_0 rfl (lv_at hl 0 rfl) ?_
  refine lv_iconst (v := 0) hx hb dX12_steps_1 (by decide) ?_
  obtain ⟨h1, e_h1, hF⟩ := xbd hF
  refine pf_X12_101 C0 hR hS t_v0 dX12_steps_2 (fun H locs hR hS => ?_)
  rw [Option.some.inj e_h1] at hR
  refine lv_iload_n hx hb dX12_steps_5 rfl (lv_at hl 1 rfl) ?_
  refine lv_iconst (v := 0) hx hb dX12_steps_6 (by decide) ?_
  refine lv_iconst (v := 2) hx hb dX12_steps_7 (by decide) ?_
  obtain ⟨a2, e_a2, hF⟩ := xbd hF
  refine cl_X12_146 C0 hR hS e_a2  ⟨(Nat.le_of_ble_eq_true rfl), (Nat.le_of_ble_eq_true rfl)⟩ hl.1 (Nat.le_of_ble_eq_true rfl) ⟨(Nat.le_of_ble_eq_true rfl), (Nat.le_of_ble_eq_true rfl)⟩ dX12_steps_8 (fun H locs hR hS => ?_)
  refine lv_if_eq (tgt := 21) hx hb dX12_steps_11 (by decide) (fun c3 => ?_) (fun c3 => ?_)
  · have hF := xif hF c3
    refine lv_iconst (v := (-1)) hx hb dX12_steps_21 (by decide) ?_
    cases hF
    exact x_iret C0 hR hS dX12_steps_22
  · have hF := xel hF c3
    refine lv_aload_n hx hb dX12_steps_14 rfl (lv_at hl 0 rfl) ?_
    refine gf_X12_188 C0 hR t_v0 dX12_steps_15 ?_
    refine lv_if_ne (tgt := 23) hx hb dX12_steps_18 (by decide) (fun c4 => ?_) (fun c4 => ?_)
    · have hF := xel hF c4
      refine lv_aload_n hx hb dX12_steps_23 rfl (lv_at hl 0 rfl) ?_
      obtain ⟨h5, e_h5, hF⟩ := xbd hF
      refine cl_X12_391 C0 hR hS e_h5 t_v0 ⟨(Nat.le_of_ble_eq_true rfl), (Nat.le_of_ble_eq_true rfl)⟩ hl.1 (Nat.le_of_ble_eq_true rfl) ⟨(Nat.le_of_ble_eq_true rfl), (Nat.le_of_ble_eq_true rfl)⟩ dX12_steps_24 (fun H locs hR hS => ?_)
      refine lv_iload_n hx hb dX12_steps_27 rfl (lv_at hl 1 rfl) ?_
      refine lv_if_ne (tgt := 38) hx hb dX12_steps_28 (by decide) (fun c6 => ?_) (fun c6 => ?_)
      · have hF := xel hF c6
        refine lv_iload_n hx hb dX12_steps_38 rfl (lv_at hl 1 rfl) ?_
        refine lv_iconst (v := 1) hx hb dX12_steps_39 (by decide) ?_
        refine lv_icmp_ne (tgt := 50) hx hb dX12_steps_40 (by decide) (fun c7 => ?_) (fun c7 => ?_)
        · have hF := xel hF c7
          refine lv_aload_n hx hb dX12_steps_50 rfl (lv_at hl 0 rfl) ?_
          refine gf_X12_385 C0 hR t_v0 dX12_steps_51 ?_
          cases hF
          exact x_iret C0 hR hS dX12_steps_54
        · have hF := xif hF c7
          refine lv_aload_n hx hb dX12_steps_43 rfl (lv_at hl 0 rfl) ?_
          refine gf_X12_373 C0 hR t_v0 dX12_steps_44 ?_
          refine lv_goto (tgt := 54) hx hb dX12_steps_47 (by decide) ?_
          cases hF
          exact x_iret C0 hR hS dX12_steps_54
      · have hF := xif hF c6
        refine lv_aload_n hx hb dX12_steps_31 rfl (lv_at hl 0 rfl) ?_
        refine gf_X12_382 C0 hR t_v0 dX12_steps_32 ?_
        refine lv_goto (tgt := 54) hx hb dX12_steps_35 (by decide) ?_
        cases hF
        exact x_iret C0 hR hS dX12_steps_54
    · have hF := xif hF c4
      refine lv_iconst (v := (-1)) hx hb dX12_steps_21 (by decide) ?_
      cases hF
      exact x_iret C0 hR hS dX12_steps_22
theorem xm_X12_steps : xMw yX12_steps cX12_steps 2 (some .int) 1 := ⟨xin 1852 (by decide +kernel) rfl, xin 126 (by decide +kernel) rfl, by decide +kernel⟩
theorem xi_X12_steps : Cond.instanceMethod yX12_steps ∈ xT := xin 1850 (by decide +kernel) rfl
theorem xe_X12_steps : Cond.selects yX12_steps.cls yX12_steps yX12_steps ∈ xT := xin 1851 (by decide +kernel) rfl
theorem dX12_normal_0 : decode cX12_normal 0 = .ok (.aload_n 0, 1) := by decide +kernel
theorem dX12_normal_1 : decode cX12_normal 1 = .ok (.iconst 0, 1) := by decide +kernel
theorem dX12_normal_2 : decode cX12_normal 2 = .ok (.putfield 101, 3) := by decide +kernel
theorem dX12_normal_5 : decode cX12_normal 5 = .ok (.iload_n 1, 1) := by decide +kernel
theorem dX12_normal_6 : decode cX12_normal 6 = .ok (.ifCond .lt 10, 3) := by decide +kernel
theorem dX12_normal_9 : decode cX12_normal 9 = .ok (.aload_n 0, 1) := by decide +kernel
theorem dX12_normal_10 : decode cX12_normal 10 = .ok (.getfield 188, 3) := by decide +kernel
theorem dX12_normal_13 : decode cX12_normal 13 = .ok (.ifCond .ne 5, 3) := by decide +kernel
theorem dX12_normal_16 : decode cX12_normal 16 = .ok (.iconst (-1), 1) := by decide +kernel
theorem dX12_normal_17 : decode cX12_normal 17 = .ok (.ireturn, 1) := by decide +kernel
theorem dX12_normal_18 : decode cX12_normal 18 = .ok (.aload_n 0, 1) := by decide +kernel
theorem dX12_normal_19 : decode cX12_normal 19 = .ok (.invokevirtual 391, 3) := by decide +kernel
theorem dX12_normal_22 : decode cX12_normal 22 = .ok (.iload_n 1, 1) := by decide +kernel
theorem dX12_normal_23 : decode cX12_normal 23 = .ok (.aload_n 0, 1) := by decide +kernel
theorem dX12_normal_24 : decode cX12_normal 24 = .ok (.getfield 373, 3) := by decide +kernel
theorem dX12_normal_27 : decode cX12_normal 27 = .ok (.if_icmp .ge 12, 3) := by decide +kernel
theorem dX12_normal_30 : decode cX12_normal 30 = .ok (.aload_n 0, 1) := by decide +kernel
theorem dX12_normal_31 : decode cX12_normal 31 = .ok (.getfield 83, 3) := by decide +kernel
theorem dX12_normal_34 : decode cX12_normal 34 = .ok (.iload_n 1, 1) := by decide +kernel
theorem dX12_normal_35 : decode cX12_normal 35 = .ok (.iaload, 1) := by decide +kernel
theorem dX12_normal_36 : decode cX12_normal 36 = .ok (.goto 5, 3) := by decide +kernel
theorem dX12_normal_39 : decode cX12_normal 39 = .ok (.bipush (-2), 2) := by decide +kernel
theorem dX12_normal_41 : decode cX12_normal 41 = .ok (.ireturn, 1) := by decide +kernel
set_option maxHeartbeats 4000000 in
set_option maxRecDepth 100000 in
theorem jc_X12_normal {l : Launch} {D : xD} {ty : xTy} {h : xH} {v0 : Nat} {v1 : Int32} {r : Int32} {h9 : xH} (t_v0 : ty v0 = some (0, 12)) (hF : jf_X12_normal ty h v0 v1 = some (r, h9)) : Met l yX12_normal (xws yX12_normal cX12_normal 2 (some .int)) jr_X12_normal (xPc D ty h [.ref v0, .int v1]) (xQ D ty (some (.int r)) h9) 0 0 (xdom ty) := by
  refine x_met (by decide) ?_
  intro p e s m below meth c C0 hR
  generalize hargs : ([.ref v0, .int v1] : List Value).toArray = args at C0 ⊢
  have hx := C0.1
  have hb := C0.2.1
  have hown := C0.2.2.2.2.2.1
  have hts := C0.2.2.2.2.2.2.1
  have hS : xS ty s.heap s.heap [] := xS.rf
  have hl := lv_entry ([.ref v0, .int v1]) (n := 2) (Nat.le_of_ble_eq_true rfl)
  rw [← hargs, lg_entry_eq]
  rw [hargs]
  generalize (lg_sl ([.ref v0, .int v1]) ++ List.replicate (2 - (lg_sl ([.ref v0, .int v1])).length) Slot.unset).toArray = ls at hl ⊢
  have hl : lv_has ls 2 [(0, .ref v0), (1, .int v1)] := hl
  unfold jf_X12_normal at hF
  refine lv_aload_n hx hb dX12_normal_0 rfl (lv_at hl 0 rfl) ?_
  refine lv_iconst (v := 0) hx hb dX12_normal_1 (by decide) ?_
  obtain ⟨h1, e_h1, hF⟩ := xbd hF
  refine pf_X12_101 C0 hR hS t_v0 dX12_normal_2 (fun H locs hR hS => ?_)
  rw [Option.some.inj e_h1] at hR
  refine lv_iload_n hx hb dX12_normal_5 rfl (lv_at hl 1 rfl) ?_
  refine lv_if_lt (tgt := 16) hx hb dX12_normal_6 (by decide) (fun c2 => ?_) (fun c2 => ?_)
  · have hF := xif hF c2
    refine lv_iconst (v := (-1)) hx hb dX12_normal_16 (by decide) ?_
    cases hF
    exact x_iret C0 hR hS dX12_normal_17
  · have hF := xel hF c2
    refine lv_aload_n hx hb dX12_normal_9 rfl (lv_at hl 0 rfl) ?_
    refine gf_X12_188 C0 hR t_v0 dX12_normal_10 ?_
    refine lv_if_ne (tgt := 18) hx hb dX12_normal_13 (by decide) (fun c3 => ?_) (fun c3 => ?_)
    · have hF := xel hF c3
      refine lv_aload_n hx hb dX12_normal_18 rfl (lv_at hl 0 rfl) ?_
      obtain ⟨h4, e_h4, hF⟩ := xbd hF
      refine cl_X12_391 C0 hR hS e_h4 t_v0 ⟨(Nat.le_of_ble_eq_true rfl), (Nat.le_of_ble_eq_true rfl)⟩ hl.1 (Nat.le_of_ble_eq_true rfl) ⟨(Nat.le_of_ble_eq_true rfl), (Nat.le_of_ble_eq_true rfl)⟩ dX12_normal_19 (fun H locs hR hS => ?_)
      refine lv_iload_n hx hb dX12_normal_22 rfl (lv_at hl 1 rfl) ?_
      refine lv_aload_n hx hb dX12_normal_23 rfl (lv_at hl 0 rfl) ?_
      refine gf_X12_373 C0 hR t_v0 dX12_normal_24 ?_
      refine lv_icmp_ge (tgt := 39) hx hb dX12_normal_27 (by decide) (fun c5 => ?_) (fun c5 => ?_)
      · have hF := xif hF c5
        refine lv_bipush (v := (-2)) hx hb dX12_normal_39 (by decide) ?_
        cases hF
        exact x_iret C0 hR hS dX12_normal_41
      · have hF := xel hF c5
        refine lv_aload_n hx hb dX12_normal_30 rfl (lv_at hl 0 rfl) ?_
        obtain ⟨a6, e_a6, hF⟩ := xbd hF
        refine gf_X12_83 C0 hR t_v0 e_a6 dX12_normal_31 ?_
        refine lv_iload_n hx hb dX12_normal_34 rfl (lv_at hl 1 rfl) ?_
        obtain ⟨a7, e_a7, hF⟩ := xbd hF
        refine x_iald C0 hR e_a7 dX12_normal_35 ?_
        refine lv_goto (tgt := 41) hx hb dX12_normal_36 (by decide) ?_
        cases hF
        exact x_iret C0 hR hS dX12_normal_41
    · have hF := xif hF c3
      refine lv_iconst (v := (-1)) hx hb dX12_normal_16 (by decide) ?_
      cases hF
      exact x_iret C0 hR hS dX12_normal_17
theorem xm_X12_normal : xMw yX12_normal cX12_normal 2 (some .int) 1 := ⟨xin 1872 (by decide +kernel) rfl, xin 126 (by decide +kernel) rfl, by decide +kernel⟩
theorem xi_X12_normal : Cond.instanceMethod yX12_normal ∈ xT := xin 1870 (by decide +kernel) rfl
theorem xe_X12_normal : Cond.selects yX12_normal.cls yX12_normal yX12_normal ∈ xT := xin 1871 (by decide +kernel) rfl
theorem dX12_smallest_0 : decode cX12_smallest 0 = .ok (.iconst 0, 1) := by decide +kernel
theorem dX12_smallest_1 : decode cX12_smallest 1 = .ok (.istore_n 1, 1) := by decide +kernel
theorem dX12_smallest_2 : decode cX12_smallest 2 = .ok (.iload_n 1, 1) := by decide +kernel
theorem dX12_smallest_3 : decode cX12_smallest 3 = .ok (.aload_n 0, 1) := by decide +kernel
theorem dX12_smallest_4 : decode cX12_smallest 4 = .ok (.getfield 172, 3) := by decide +kernel
theorem dX12_smallest_7 : decode cX12_smallest 7 = .ok (.if_icmp .ge 20, 3) := by decide +kernel
theorem dX12_smallest_10 : decode cX12_smallest 10 = .ok (.aload_n 0, 1) := by decide +kernel
theorem dX12_smallest_11 : decode cX12_smallest 11 = .ok (.getfield 23, 3) := by decide +kernel
theorem dX12_smallest_14 : decode cX12_smallest 14 = .ok (.iload_n 1, 1) := by decide +kernel
theorem dX12_smallest_15 : decode cX12_smallest 15 = .ok (.iaload, 1) := by decide +kernel
theorem dX12_smallest_16 : decode cX12_smallest 16 = .ok (.ifCond .ne 5, 3) := by decide +kernel
theorem dX12_smallest_19 : decode cX12_smallest 19 = .ok (.iload_n 1, 1) := by decide +kernel
theorem dX12_smallest_20 : decode cX12_smallest 20 = .ok (.ireturn, 1) := by decide +kernel
theorem dX12_smallest_21 : decode cX12_smallest 21 = .ok (.iinc 1 1, 3) := by decide +kernel
theorem dX12_smallest_24 : decode cX12_smallest 24 = .ok (.goto (-22), 3) := by decide +kernel
theorem dX12_smallest_27 : decode cX12_smallest 27 = .ok (.aload_n 0, 1) := by decide +kernel
theorem dX12_smallest_28 : decode cX12_smallest 28 = .ok (.getfield 175, 3) := by decide +kernel
theorem dX12_smallest_31 : decode cX12_smallest 31 = .ok (.ifCond .le 8, 3) := by decide +kernel
theorem dX12_smallest_34 : decode cX12_smallest 34 = .ok (.bipush 100, 2) := by decide +kernel
theorem dX12_smallest_36 : decode cX12_smallest 36 = .ok (.goto 4, 3) := by decide +kernel
theorem dX12_smallest_39 : decode cX12_smallest 39 = .ok (.iconst (-1), 1) := by decide +kernel
theorem dX12_smallest_40 : decode cX12_smallest 40 = .ok (.ireturn, 1) := by decide +kernel
set_option maxHeartbeats 4000000 in
set_option maxRecDepth 100000 in
theorem jw_X12_smallest_2 {p : Program} {l : Launch} {e : Env} {s : State} {m : MethodId} {args : Array Value} {below : List Frame} {meth : Method} {c : Code} {D : xD} {ty : xTy} {h : xH} (C0 : xC D RX12 cX12_smallest 2 (some .int) p s m args meth c) {r : Int32} : ∀ n : Nat, ∀ (v0 : Nat) (v1 : Int32), ty v0 = some (0, 12) → jf_X12_smallest_2 ty h n v0 v1 = some r → ∀ (H : Heap) (locs : List Loc), xRep D ty h H → xS ty s.heap H locs → ∀ ls : Array Slot, lv_has ls 2 [(0, .ref v0), (1, .int v1)] → W p l e jr_X12_smallest s m args below meth c H locs 0 0 (MQ below (xQ D ty (some (.int r)) h) args s 0 0 (xdom ty)) (F0 m 2 ls []) := by
  have hx := C0.1
  have hb := C0.2.1
  have hown := C0.2.2.2.2.2.1
  have hts := C0.2.2.2.2.2.2.1
  intro n
  induction n with
  | zero =>
    intro v0 v1 t_v0 hF H locs hR hS ls hl
    cases hF
  | succ n ih =>
    intro v0 v1 t_v0 hF H locs hR hS ls hl
    rw [jf_X12_smallest_2_s] at hF
    refine lv_iload_n hx hb dX12_smallest_2 rfl (lv_at hl 1 rfl) ?_
    refine lv_aload_n hx hb dX12_smallest_3 rfl (lv_at hl 0 rfl) ?_
    refine gf_X12_172 C0 hR t_v0 dX12_smallest_4 ?_
    refine lv_icmp_ge (tgt := 27) hx hb dX12_smallest_7 (by decide) (fun c1 => ?_) (fun c1 => ?_)
    · have hF := xif hF c1
      refine lv_aload_n hx hb dX12_smallest_27 rfl (lv_at hl 0 rfl) ?_
      refine gf_X12_175 C0 hR t_v0 dX12_smallest_28 ?_
      refine lv_if_le (tgt := 39) hx hb dX12_smallest_31 (by decide) (fun c2 => ?_) (fun c2 => ?_)
      · have hF := xif hF c2
        refine lv_iconst (v := (-1)) hx hb dX12_smallest_39 (by decide) ?_
        cases hF
        exact x_iret C0 hR hS dX12_smallest_40
      · have hF := xel hF c2
        refine lv_bipush (v := 100) hx hb dX12_smallest_34 (by decide) ?_
        refine lv_goto (tgt := 40) hx hb dX12_smallest_36 (by decide) ?_
        cases hF
        exact x_iret C0 hR hS dX12_smallest_40
    · have hF := xel hF c1
      refine lv_aload_n hx hb dX12_smallest_10 rfl (lv_at hl 0 rfl) ?_
      obtain ⟨a3, e_a3, hF⟩ := xbd hF
      refine gf_X12_23 C0 hR t_v0 e_a3 dX12_smallest_11 ?_
      refine lv_iload_n hx hb dX12_smallest_14 rfl (lv_at hl 1 rfl) ?_
      obtain ⟨a4, e_a4, hF⟩ := xbd hF
      refine x_iald C0 hR e_a4 dX12_smallest_15 ?_
      refine lv_if_ne (tgt := 21) hx hb dX12_smallest_16 (by decide) (fun c5 => ?_) (fun c5 => ?_)
      · have hF := xel hF c5
        refine lv_iinc (v := v1 + 1) (lv' := [(1, .int (v1 + 1)), (0, .ref v0)]) hx hb dX12_smallest_21 hl (k := 1) rfl rfl (by decide) rfl (fun ls hl => ?_)
        refine lv_goto (tgt := 2) hx hb dX12_smallest_24 (by decide) ?_
        exact ih _ _ t_v0 hF _ _ hR hS _ (lv_sub hl [1, 0] rfl)
      · have hF := xif hF c5
        refine lv_iload_n hx hb dX12_smallest_19 rfl (lv_at hl 1 rfl) ?_
        cases hF
        exact x_iret C0 hR hS dX12_smallest_20
set_option maxHeartbeats 4000000 in
set_option maxRecDepth 100000 in
theorem jc_X12_smallest {l : Launch} {D : xD} {ty : xTy} {h : xH} {v0 : Nat} {r : Int32} (t_v0 : ty v0 = some (0, 12)) (hF : jf_X12_smallest ty h v0 = some r) : Met l yX12_smallest (xws yX12_smallest cX12_smallest 2 (some .int)) jr_X12_smallest (xPc D ty h [.ref v0]) (xQ D ty (some (.int r)) h) 0 0 (xdom ty) := by
  refine x_met (by decide) ?_
  intro p e s m below meth c C0 hR
  generalize hargs : ([.ref v0] : List Value).toArray = args at C0 ⊢
  have hx := C0.1
  have hb := C0.2.1
  have hown := C0.2.2.2.2.2.1
  have hts := C0.2.2.2.2.2.2.1
  have hS : xS ty s.heap s.heap [] := xS.rf
  have hl := lv_entry ([.ref v0]) (n := 2) (Nat.le_of_ble_eq_true rfl)
  rw [← hargs, lg_entry_eq]
  rw [hargs]
  generalize (lg_sl ([.ref v0]) ++ List.replicate (2 - (lg_sl ([.ref v0])).length) Slot.unset).toArray = ls at hl ⊢
  have hl : lv_has ls 2 [(0, .ref v0)] := hl
  unfold jf_X12_smallest at hF
  refine lv_iconst (v := 0) hx hb dX12_smallest_0 (by decide) ?_
  refine lv_istore_n (lv' := [(1, .int 0), (0, .ref v0)]) hx hb dX12_smallest_1 rfl hl (by decide) rfl (fun ls hl => ?_)
  obtain ⟨_, hF⟩ := xlim_sp hF
  exact jw_X12_smallest_2 C0 _ _ _ t_v0 hF _ _ hR hS _ (lv_sub hl [1, 0] rfl)
theorem xm_X12_smallest : xMw yX12_smallest cX12_smallest 2 (some .int) 0 := ⟨xin 1888 (by decide +kernel) rfl, xin 126 (by decide +kernel) rfl, by decide +kernel⟩
theorem xi_X12_smallest : Cond.instanceMethod yX12_smallest ∈ xT := xin 1887 (by decide +kernel) rfl
theorem xe_X12_smallest : Cond.selects yX12_smallest.cls yX12_smallest yX12_smallest ∈ xT := xin 112 (by decide +kernel) rfl
theorem dX12_isDrawn_0 : decode cX12_isDrawn 0 = .ok (.iconst 1, 1) := by decide +kernel
theorem dX12_isDrawn_1 : decode cX12_isDrawn 1 = .ok (.istore_n 1, 1) := by decide +kernel
theorem dX12_isDrawn_2 : decode cX12_isDrawn 2 = .ok (.aload_n 0, 1) := by decide +kernel
theorem dX12_isDrawn_3 : decode cX12_isDrawn 3 = .ok (.iconst 0, 1) := by decide +kernel
theorem dX12_isDrawn_4 : decode cX12_isDrawn 4 = .ok (.putfield 205, 3) := by decide +kernel
theorem dX12_isDrawn_7 : decode cX12_isDrawn 7 = .ok (.iload_n 1, 1) := by decide +kernel
theorem dX12_isDrawn_8 : decode cX12_isDrawn 8 = .ok (.ifCond .le 141, 3) := by decide +kernel
theorem dX12_isDrawn_11 : decode cX12_isDrawn 11 = .ok (.aload_n 0, 1) := by decide +kernel
theorem dX12_isDrawn_12 : decode cX12_isDrawn 12 = .ok (.getfield 172, 3) := by decide +kernel
theorem dX12_isDrawn_15 : decode cX12_isDrawn 15 = .ok (.aload_n 0, 1) := by decide +kernel
theorem dX12_isDrawn_16 : decode cX12_isDrawn 16 = .ok (.getfield 175, 3) := by decide +kernel
theorem dX12_isDrawn_19 : decode cX12_isDrawn 19 = .ok (.iadd, 1) := by decide +kernel
theorem dX12_isDrawn_20 : decode cX12_isDrawn 20 = .ok (.ifCond .ne 5, 3) := by decide +kernel
theorem dX12_isDrawn_23 : decode cX12_isDrawn 23 = .ok (.iconst 0, 1) := by decide +kernel
theorem dX12_isDrawn_24 : decode cX12_isDrawn 24 = .ok (.ireturn, 1) := by decide +kernel
theorem dX12_isDrawn_25 : decode cX12_isDrawn 25 = .ok (.aload_n 0, 1) := by decide +kernel
theorem dX12_isDrawn_26 : decode cX12_isDrawn 26 = .ok (.aload_n 0, 1) := by decide +kernel
theorem dX12_isDrawn_27 : decode cX12_isDrawn 27 = .ok (.getfield 394, 3) := by decide +kernel
theorem dX12_isDrawn_30 : decode cX12_isDrawn 30 = .ok (.ldc2_w 398, 3) := by decide +kernel
theorem dX12_isDrawn_33 : decode cX12_isDrawn 33 = .ok (.lmul, 1) := by decide +kernel
theorem dX12_isDrawn_34 : decode cX12_isDrawn 34 = .ok (.ldc2_w 400, 3) := by decide +kernel
theorem dX12_isDrawn_37 : decode cX12_isDrawn 37 = .ok (.ladd, 1) := by decide +kernel
theorem dX12_isDrawn_38 : decode cX12_isDrawn 38 = .ok (.ldc2_w 402, 3) := by decide +kernel
theorem dX12_isDrawn_41 : decode cX12_isDrawn 41 = .ok (.land, 1) := by decide +kernel
theorem dX12_isDrawn_42 : decode cX12_isDrawn 42 = .ok (.putfield 394, 3) := by decide +kernel
theorem dX12_isDrawn_45 : decode cX12_isDrawn 45 = .ok (.aload_n 0, 1) := by decide +kernel
theorem dX12_isDrawn_46 : decode cX12_isDrawn 46 = .ok (.getfield 394, 3) := by decide +kernel
theorem dX12_isDrawn_49 : decode cX12_isDrawn 49 = .ok (.ldc2_w 404, 3) := by decide +kernel
theorem dX12_isDrawn_52 : decode cX12_isDrawn 52 = .ok (.ldiv, 1) := by decide +kernel
theorem dX12_isDrawn_53 : decode cX12_isDrawn 53 = .ok (.aload_n 0, 1) := by decide +kernel
theorem dX12_isDrawn_54 : decode cX12_isDrawn 54 = .ok (.getfield 172, 3) := by decide +kernel
theorem dX12_isDrawn_57 : decode cX12_isDrawn 57 = .ok (.aload_n 0, 1) := by decide +kernel
theorem dX12_isDrawn_58 : decode cX12_isDrawn 58 = .ok (.getfield 175, 3) := by decide +kernel
theorem dX12_isDrawn_61 : decode cX12_isDrawn 61 = .ok (.iadd, 1) := by decide +kernel
theorem dX12_isDrawn_62 : decode cX12_isDrawn 62 = .ok (.i2l, 1) := by decide +kernel
theorem dX12_isDrawn_63 : decode cX12_isDrawn 63 = .ok (.lrem, 1) := by decide +kernel
theorem dX12_isDrawn_64 : decode cX12_isDrawn 64 = .ok (.l2i, 1) := by decide +kernel
theorem dX12_isDrawn_65 : decode cX12_isDrawn 65 = .ok (.istore_n 2, 1) := by decide +kernel
theorem dX12_isDrawn_66 : decode cX12_isDrawn 66 = .ok (.iload_n 2, 1) := by decide +kernel
theorem dX12_isDrawn_67 : decode cX12_isDrawn 67 = .ok (.aload_n 0, 1) := by decide +kernel
theorem dX12_isDrawn_68 : decode cX12_isDrawn 68 = .ok (.getfield 172, 3) := by decide +kernel
theorem dX12_isDrawn_71 : decode cX12_isDrawn 71 = .ok (.if_icmp .ge 7, 3) := by decide +kernel
theorem dX12_isDrawn_74 : decode cX12_isDrawn 74 = .ok (.iload_n 2, 1) := by decide +kernel
theorem dX12_isDrawn_75 : decode cX12_isDrawn 75 = .ok (.goto 12, 3) := by decide +kernel
theorem dX12_isDrawn_78 : decode cX12_isDrawn 78 = .ok (.bipush 100, 2) := by decide +kernel
theorem dX12_isDrawn_80 : decode cX12_isDrawn 80 = .ok (.iload_n 2, 1) := by decide +kernel
theorem dX12_isDrawn_81 : decode cX12_isDrawn 81 = .ok (.iadd, 1) := by decide +kernel
theorem dX12_isDrawn_82 : decode cX12_isDrawn 82 = .ok (.aload_n 0, 1) := by decide +kernel
theorem dX12_isDrawn_83 : decode cX12_isDrawn 83 = .ok (.getfield 172, 3) := by decide +kernel
theorem dX12_isDrawn_86 : decode cX12_isDrawn 86 = .ok (.isub, 1) := by decide +kernel
theorem dX12_isDrawn_87 : decode cX12_isDrawn 87 = .ok (.istore_n 3, 1) := by decide +kernel
theorem dX12_isDrawn_88 : decode cX12_isDrawn 88 = .ok (.aload_n 0, 1) := by decide +kernel
theorem dX12_isDrawn_89 : decode cX12_isDrawn 89 = .ok (.getfield 205, 3) := by decide +kernel
theorem dX12_isDrawn_92 : decode cX12_isDrawn 92 = .ok (.iload_n 1, 1) := by decide +kernel
theorem dX12_isDrawn_93 : decode cX12_isDrawn 93 = .ok (.iadd, 1) := by decide +kernel
theorem dX12_isDrawn_94 : decode cX12_isDrawn 94 = .ok (.aload_n 0, 1) := by decide +kernel
theorem dX12_isDrawn_95 : decode cX12_isDrawn 95 = .ok (.iload_n 3, 1) := by decide +kernel
theorem dX12_isDrawn_96 : decode cX12_isDrawn 96 = .ok (.invokevirtual 251, 3) := by decide +kernel
theorem dX12_isDrawn_99 : decode cX12_isDrawn 99 = .ok (.iadd, 1) := by decide +kernel
theorem dX12_isDrawn_100 : decode cX12_isDrawn 100 = .ok (.bipush 12, 2) := by decide +kernel
theorem dX12_isDrawn_102 : decode cX12_isDrawn 102 = .ok (.if_icmp .le 8, 3) := by decide +kernel
theorem dX12_isDrawn_105 : decode cX12_isDrawn 105 = .ok (.aload_n 0, 1) := by decide +kernel
theorem dX12_isDrawn_106 : decode cX12_isDrawn 106 = .ok (.invokevirtual 406, 3) := by decide +kernel
theorem dX12_isDrawn_109 : decode cX12_isDrawn 109 = .ok (.istore_n 3, 1) := by decide +kernel
theorem dX12_isDrawn_110 : decode cX12_isDrawn 110 = .ok (.iload_n 3, 1) := by decide +kernel
theorem dX12_isDrawn_111 : decode cX12_isDrawn 111 = .ok (.ifCond .ge 5, 3) := by decide +kernel
theorem dX12_isDrawn_114 : decode cX12_isDrawn 114 = .ok (.iconst 0, 1) := by decide +kernel
theorem dX12_isDrawn_115 : decode cX12_isDrawn 115 = .ok (.ireturn, 1) := by decide +kernel
theorem dX12_isDrawn_116 : decode cX12_isDrawn 116 = .ok (.aload_n 0, 1) := by decide +kernel
theorem dX12_isDrawn_117 : decode cX12_isDrawn 117 = .ok (.getfield 47, 3) := by decide +kernel
theorem dX12_isDrawn_120 : decode cX12_isDrawn 120 = .ok (.aload_n 0, 1) := by decide +kernel
theorem dX12_isDrawn_121 : decode cX12_isDrawn 121 = .ok (.getfield 205, 3) := by decide +kernel
theorem dX12_isDrawn_124 : decode cX12_isDrawn 124 = .ok (.iload_n 3, 1) := by decide +kernel
theorem dX12_isDrawn_125 : decode cX12_isDrawn 125 = .ok (.iastore, 1) := by decide +kernel
theorem dX12_isDrawn_126 : decode cX12_isDrawn 126 = .ok (.aload_n 0, 1) := by decide +kernel
theorem dX12_isDrawn_127 : decode cX12_isDrawn 127 = .ok (.dup, 1) := by decide +kernel
theorem dX12_isDrawn_128 : decode cX12_isDrawn 128 = .ok (.getfield 205, 3) := by decide +kernel
theorem dX12_isDrawn_131 : decode cX12_isDrawn 131 = .ok (.iconst 1, 1) := by decide +kernel
theorem dX12_isDrawn_132 : decode cX12_isDrawn 132 = .ok (.iadd, 1) := by decide +kernel
theorem dX12_isDrawn_133 : decode cX12_isDrawn 133 = .ok (.putfield 205, 3) := by decide +kernel
theorem dX12_isDrawn_136 : decode cX12_isDrawn 136 = .ok (.iload_n 1, 1) := by decide +kernel
theorem dX12_isDrawn_137 : decode cX12_isDrawn 137 = .ok (.aload_n 0, 1) := by decide +kernel
theorem dX12_isDrawn_138 : decode cX12_isDrawn 138 = .ok (.iload_n 3, 1) := by decide +kernel
theorem dX12_isDrawn_139 : decode cX12_isDrawn 139 = .ok (.invokevirtual 251, 3) := by decide +kernel
theorem dX12_isDrawn_142 : decode cX12_isDrawn 142 = .ok (.iconst 1, 1) := by decide +kernel
theorem dX12_isDrawn_143 : decode cX12_isDrawn 143 = .ok (.isub, 1) := by decide +kernel
theorem dX12_isDrawn_144 : decode cX12_isDrawn 144 = .ok (.iadd, 1) := by decide +kernel
theorem dX12_isDrawn_145 : decode cX12_isDrawn 145 = .ok (.istore_n 1, 1) := by decide +kernel
theorem dX12_isDrawn_146 : decode cX12_isDrawn 146 = .ok (.goto (-139), 3) := by decide +kernel
theorem dX12_isDrawn_149 : decode cX12_isDrawn 149 = .ok (.iconst 1, 1) := by decide +kernel
theorem dX12_isDrawn_150 : decode cX12_isDrawn 150 = .ok (.ireturn, 1) := by decide +kernel
theorem wl_X12_406 : Cond.methodLink RX12 406 yX12_smallest ∈ xT := xin 1885 (by decide +kernel) rfl
theorem wk_X12_398 : Cond.constantLong RX12 398 1103515245 ∈ xT := xin 1881 (by decide +kernel) rfl
theorem wk_X12_400 : Cond.constantLong RX12 400 12345 ∈ xT := xin 1882 (by decide +kernel) rfl
theorem wk_X12_402 : Cond.constantLong RX12 402 2147483647 ∈ xT := xin 1883 (by decide +kernel) rfl
theorem wk_X12_404 : Cond.constantLong RX12 404 65536 ∈ xT := xin 1884 (by decide +kernel) rfl
theorem wf_X12_394 : Cond.fieldLink RX12 394 "TermShelfModel" "drawn" "J" ∈ xT := xin 1366 (by decide +kernel) rfl
section XN_X12_isDrawn
variable {p : Program} {l : Launch} {e : Env} {R : Room} {s : State} {m : MethodId} {args : Array Value} {below : List Frame} {meth : Method} {c : Code} {H H0 : Heap} {locs : List Loc} {cells slots : Nat} {Q : State → Prop} {cc : ByteArray} {nL pc : Nat} {rt : Option FieldType} {ls : Array Slot} {rest : List Value} {D : xD} {ty : xTy} {h : xH}
theorem cl_X12_406 {v0 : Nat} {r : Int32} (C0 : xC D RX12 cc nL rt p s m args meth c) (hR : xRep D ty h H) (hS : xS ty H0 H locs) (hF : jf_X12_smallest ty h v0 = some r) (t_v0 : ty v0 = some (0, 12)) (hrm : jr_X12_smallest.frames + 1 ≤ R.frames ∧ 8 + (2 + 11) + jr_X12_smallest.locals ≤ R.locals) (hsz : ls.size = nL) (hW : (rest.map fun v => v.category).sum ≤ 8) (hf : cells ≤ R.cells ∧ slots ≤ R.slots) (hdg : decode cc pc = .ok (.invokevirtual 406, 3)) (kk : ∀ (H1 : Heap) (locs1 : List Loc), xRep D ty h H1 → xS ty H0 H1 locs1 → W p l e R s m args below meth c H1 locs1 cells slots Q (F0 m (pc + 3) ls (.int r :: rest))) : W p l e R s m args below meth c H locs cells slots Q (F0 m pc ls (.ref v0 :: rest)) := x_callV C0 (jc_X12_smallest t_v0 hF) xm_X12_smallest xi_X12_smallest xe_X12_smallest wl_X12_406 ⟨rfl, rfl, hrm⟩ (ci := 12) rfl t_v0 hR hS (As := []) rfl hsz rfl hW hdg hf kk
theorem gf_X12_394 {a : Nat} (C0 : xC D RX12 cc nL rt p s m args meth c) (hR : xRep D ty h H) (ht : ty a = some (0, 12)) (hdg : decode cc pc = .ok (.getfield 394, 3)) (kk : W p l e R s m args below meth c H locs cells slots Q (F0 m (pc + 3) ls (.long (xJ h a 54) :: rest))) : W p l e R s m args below meth c H locs cells slots Q (F0 m pc ls (.ref a :: rest)) := x_get C0 hR (ci := 12) (k := 54) (N := 60) (T := TX12) rfl iX12 (by decide) rfl wf_X12_394 rfl ht hdg kk
theorem pf_X12_394 {a : Nat} {v : Int64} (C0 : xC D RX12 cc nL rt p s m args meth c) (hR : xRep D ty h H) (hS : xS ty H0 H locs) (ht : ty a = some (0, 12)) (hdg : decode cc pc = .ok (.putfield 394, 3)) (kk : ∀ (H1 : Heap) (locs1 : List Loc), xRep D ty (xsJ h a 54 v) H1 → xS ty H0 H1 locs1 → W p l e R s m args below meth c H1 locs1 cells slots Q (F0 m (pc + 3) ls rest)) : W p l e R s m args below meth c H locs cells slots Q (F0 m pc ls (.long v :: .ref a :: rest)) := x_putj C0 hR hS (ci := 12) (k := 54) (N := 60) (T := TX12) rfl iX12 tyX12_ok nmX12 (by decide) rfl rfl wf_X12_394 rfl ht hdg kk
end XN_X12_isDrawn
set_option maxHeartbeats 4000000 in
set_option maxRecDepth 100000 in
theorem jw_X12_isDrawn_110 {p : Program} {l : Launch} {e : Env} {s : State} {m : MethodId} {args : Array Value} {below : List Frame} {meth : Method} {c : Code} {D : xD} {ty : xTy} {k7 : Nat → Int32 → xH → Option (Int32 × xH)} (C0 : xC D RX12 cX12_isDrawn 4 (some .boolean) p s m args meth c) {r : Int32} {h9 : xH} (hk7 : ∀ (v0 : Nat) (v1 : Int32) (h : xH), ty v0 = some (0, 12) → k7 v0 v1 h = some (r, h9) → ∀ (H : Heap) (locs : List Loc), xRep D ty h H → xS ty s.heap H locs → ∀ ls : Array Slot, lv_has ls 4 [(0, .ref v0), (1, .int v1)] → W p l e jr_X12_isDrawn s m args below meth c H locs 0 0 (MQ below (xQ D ty (some (.int r)) h9) args s 0 0 (xdom ty)) (F0 m 7 ls [])) : ∀ (v0 : Nat) (v1 : Int32) (v3 : Int32) (h : xH), ty v0 = some (0, 12) → jf_X12_isDrawn_110 ty k7 v0 v1 v3 h = some (r, h9) → ∀ (H : Heap) (locs : List Loc), xRep D ty h H → xS ty s.heap H locs → ∀ ls : Array Slot, lv_has ls 4 [(0, .ref v0), (1, .int v1), (3, .int v3)] → W p l e jr_X12_isDrawn s m args below meth c H locs 0 0 (MQ below (xQ D ty (some (.int r)) h9) args s 0 0 (xdom ty)) (F0 m 110 ls []) := by
  have hx := C0.1
  have hb := C0.2.1
  have hown := C0.2.2.2.2.2.1
  have hts := C0.2.2.2.2.2.2.1
  intro v0 v1 v3 h t_v0 hF H locs hR hS ls hl
  unfold jf_X12_isDrawn_110 at hF
  refine lv_iload_n hx hb dX12_isDrawn_110 rfl (lv_at hl 2 rfl) ?_
  refine lv_if_ge (tgt := 116) hx hb dX12_isDrawn_111 (by decide) (fun c1 => ?_) (fun c1 => ?_)
  · have hF := xif hF c1
    refine lv_aload_n hx hb dX12_isDrawn_116 rfl (lv_at hl 0 rfl) ?_
    obtain ⟨a2, e_a2, hF⟩ := xbd hF
    refine gf_X12_47 C0 hR t_v0 e_a2 dX12_isDrawn_117 ?_
    refine lv_aload_n hx hb dX12_isDrawn_120 rfl (lv_at hl 0 rfl) ?_
    refine gf_X12_205 C0 hR t_v0 dX12_isDrawn_121 ?_
    refine lv_iload_n hx hb dX12_isDrawn_124 rfl (lv_at hl 2 rfl) ?_
    obtain ⟨h3, e_h3, hF⟩ := xbd hF
    refine x_iast C0 hR hS e_h3 dX12_isDrawn_125 (fun H locs hR hS => ?_)
    refine lv_aload_n hx hb dX12_isDrawn_126 rfl (lv_at hl 0 rfl) ?_
    refine lv_dup hx hb dX12_isDrawn_127 rfl ?_
    refine gf_X12_205 C0 hR t_v0 dX12_isDrawn_128 ?_
    refine lv_iconst (v := 1) hx hb dX12_isDrawn_131 (by decide) ?_
    refine lv_iadd hx hb dX12_isDrawn_132 ?_
    obtain ⟨h4, e_h4, hF⟩ := xbd hF
    refine pf_X12_205 C0 hR hS t_v0 dX12_isDrawn_133 (fun H locs hR hS => ?_)
    rw [Option.some.inj e_h4] at hR
    refine lv_iload_n hx hb dX12_isDrawn_136 rfl (lv_at hl 1 rfl) ?_
    refine lv_aload_n hx hb dX12_isDrawn_137 rfl (lv_at hl 0 rfl) ?_
    refine lv_iload_n hx hb dX12_isDrawn_138 rfl (lv_at hl 2 rfl) ?_
    obtain ⟨a5, e_a5, hF⟩ := xbd hF
    refine cl_X12_251 C0 hR hS e_a5 t_v0 ⟨(Nat.le_of_ble_eq_true rfl), (Nat.le_of_ble_eq_true rfl)⟩ hl.1 (Nat.le_of_ble_eq_true rfl) ⟨(Nat.le_of_ble_eq_true rfl), (Nat.le_of_ble_eq_true rfl)⟩ dX12_isDrawn_139 (fun H locs hR hS => ?_)
    refine lv_iconst (v := 1) hx hb dX12_isDrawn_142 (by decide) ?_
    refine lv_isub hx hb dX12_isDrawn_143 ?_
    refine lv_iadd hx hb dX12_isDrawn_144 ?_
    refine lv_istore_n (lv' := [(1, .int (v1 + (a5 - 1))), (0, .ref v0), (3, .int v3)]) hx hb dX12_isDrawn_145 rfl hl (by decide) rfl (fun ls hl => ?_)
    refine lv_goto (tgt := 7) hx hb dX12_isDrawn_146 (by decide) ?_
    exact hk7 _ _ _ t_v0 hF _ _ hR hS _ (lv_sub hl [1, 0] rfl)
  · have hF := xel hF c1
    refine lv_iconst (v := 0) hx hb dX12_isDrawn_114 (by decide) ?_
    cases hF
    exact x_zret (w := 0) C0 hR hS (by decide) dX12_isDrawn_115
set_option maxHeartbeats 4000000 in
set_option maxRecDepth 100000 in
theorem jw_X12_isDrawn_87 {p : Program} {l : Launch} {e : Env} {s : State} {m : MethodId} {args : Array Value} {below : List Frame} {meth : Method} {c : Code} {D : xD} {ty : xTy} {k7 : Nat → Int32 → xH → Option (Int32 × xH)} (C0 : xC D RX12 cX12_isDrawn 4 (some .boolean) p s m args meth c) {r : Int32} {h9 : xH} (hk7 : ∀ (v0 : Nat) (v1 : Int32) (h : xH), ty v0 = some (0, 12) → k7 v0 v1 h = some (r, h9) → ∀ (H : Heap) (locs : List Loc), xRep D ty h H → xS ty s.heap H locs → ∀ ls : Array Slot, lv_has ls 4 [(0, .ref v0), (1, .int v1)] → W p l e jr_X12_isDrawn s m args below meth c H locs 0 0 (MQ below (xQ D ty (some (.int r)) h9) args s 0 0 (xdom ty)) (F0 m 7 ls [])) : ∀ (v0 : Nat) (v1 : Int32) (s0 : Int32) (h : xH), ty v0 = some (0, 12) → jf_X12_isDrawn_87 ty k7 v0 v1 s0 h = some (r, h9) → ∀ (H : Heap) (locs : List Loc), xRep D ty h H → xS ty s.heap H locs → ∀ ls : Array Slot, lv_has ls 4 [(0, .ref v0), (1, .int v1)] → W p l e jr_X12_isDrawn s m args below meth c H locs 0 0 (MQ below (xQ D ty (some (.int r)) h9) args s 0 0 (xdom ty)) (F0 m 87 ls [.int s0]) := by
  have hx := C0.1
  have hb := C0.2.1
  have hown := C0.2.2.2.2.2.1
  have hts := C0.2.2.2.2.2.2.1
  intro v0 v1 s0 h t_v0 hF H locs hR hS ls hl
  unfold jf_X12_isDrawn_87 at hF
  refine lv_istore_n (lv' := [(3, .int s0), (0, .ref v0), (1, .int v1)]) hx hb dX12_isDrawn_87 rfl hl (by decide) rfl (fun ls hl => ?_)
  refine lv_aload_n hx hb dX12_isDrawn_88 rfl (lv_at hl 1 rfl) ?_
  refine gf_X12_205 C0 hR t_v0 dX12_isDrawn_89 ?_
  refine lv_iload_n hx hb dX12_isDrawn_92 rfl (lv_at hl 2 rfl) ?_
  refine lv_iadd hx hb dX12_isDrawn_93 ?_
  refine lv_aload_n hx hb dX12_isDrawn_94 rfl (lv_at hl 1 rfl) ?_
  refine lv_iload_n hx hb dX12_isDrawn_95 rfl (lv_at hl 0 rfl) ?_
  obtain ⟨a6, e_a6, hF⟩ := xbd hF
  refine cl_X12_251 C0 hR hS e_a6 t_v0 ⟨(Nat.le_of_ble_eq_true rfl), (Nat.le_of_ble_eq_true rfl)⟩ hl.1 (Nat.le_of_ble_eq_true rfl) ⟨(Nat.le_of_ble_eq_true rfl), (Nat.le_of_ble_eq_true rfl)⟩ dX12_isDrawn_96 (fun H locs hR hS => ?_)
  refine lv_iadd hx hb dX12_isDrawn_99 ?_
  refine lv_bipush (v := 12) hx hb dX12_isDrawn_100 (by decide) ?_
  refine lv_icmp_le (tgt := 110) hx hb dX12_isDrawn_102 (by decide) (fun c7 => ?_) (fun c7 => ?_)
  · have hF := xif hF c7
    exact jw_X12_isDrawn_110 C0 hk7 _ _ _ _ t_v0 hF _ _ hR hS _ (lv_sub hl [1, 2, 0] rfl)
  · have hF := xel hF c7
    refine lv_aload_n hx hb dX12_isDrawn_105 rfl (lv_at hl 1 rfl) ?_
    obtain ⟨a8, e_a8, hF⟩ := xbd hF
    refine cl_X12_406 C0 hR hS e_a8 t_v0 ⟨(Nat.le_of_ble_eq_true rfl), (Nat.le_of_ble_eq_true rfl)⟩ hl.1 (Nat.le_of_ble_eq_true rfl) ⟨(Nat.le_of_ble_eq_true rfl), (Nat.le_of_ble_eq_true rfl)⟩ dX12_isDrawn_106 (fun H locs hR hS => ?_)
    refine lv_istore_n (lv' := [(3, .int a8), (0, .ref v0), (1, .int v1)]) hx hb dX12_isDrawn_109 rfl hl (by decide) rfl (fun ls hl => ?_)
    exact jw_X12_isDrawn_110 C0 hk7 _ _ _ _ t_v0 hF _ _ hR hS _ (lv_sub hl [1, 2, 0] rfl)
set_option maxHeartbeats 4000000 in
set_option maxRecDepth 100000 in
theorem jw_X12_isDrawn_7 {p : Program} {l : Launch} {e : Env} {s : State} {m : MethodId} {args : Array Value} {below : List Frame} {meth : Method} {c : Code} {D : xD} {ty : xTy} (C0 : xC D RX12 cX12_isDrawn 4 (some .boolean) p s m args meth c) {r : Int32} {h9 : xH} : ∀ n : Nat, ∀ (v0 : Nat) (v1 : Int32) (h : xH), ty v0 = some (0, 12) → jf_X12_isDrawn_7 ty n v0 v1 h = some (r, h9) → ∀ (H : Heap) (locs : List Loc), xRep D ty h H → xS ty s.heap H locs → ∀ ls : Array Slot, lv_has ls 4 [(0, .ref v0), (1, .int v1)] → W p l e jr_X12_isDrawn s m args below meth c H locs 0 0 (MQ below (xQ D ty (some (.int r)) h9) args s 0 0 (xdom ty)) (F0 m 7 ls []) := by
  have hx := C0.1
  have hb := C0.2.1
  have hown := C0.2.2.2.2.2.1
  have hts := C0.2.2.2.2.2.2.1
  intro n
  induction n with
  | zero =>
    intro v0 v1 h t_v0 hF H locs hR hS ls hl
    cases hF
  | succ n ih =>
    intro v0 v1 h t_v0 hF H locs hR hS ls hl
    rw [jf_X12_isDrawn_7_s] at hF
    refine lv_iload_n hx hb dX12_isDrawn_7 rfl (lv_at hl 1 rfl) ?_
    refine lv_if_le (tgt := 149) hx hb dX12_isDrawn_8 (by decide) (fun c9 => ?_) (fun c9 => ?_)
    · have hF := xif hF c9
      refine lv_iconst (v := 1) hx hb dX12_isDrawn_149 (by decide) ?_
      cases hF
      exact x_zret (w := 1) C0 hR hS (by decide) dX12_isDrawn_150
    · have hF := xel hF c9
      refine lv_aload_n hx hb dX12_isDrawn_11 rfl (lv_at hl 0 rfl) ?_
      refine gf_X12_172 C0 hR t_v0 dX12_isDrawn_12 ?_
      refine lv_aload_n hx hb dX12_isDrawn_15 rfl (lv_at hl 0 rfl) ?_
      refine gf_X12_175 C0 hR t_v0 dX12_isDrawn_16 ?_
      refine lv_iadd hx hb dX12_isDrawn_19 ?_
      refine lv_if_ne (tgt := 25) hx hb dX12_isDrawn_20 (by decide) (fun c10 => ?_) (fun c10 => ?_)
      · have hF := xel hF c10
        refine lv_aload_n hx hb dX12_isDrawn_25 rfl (lv_at hl 0 rfl) ?_
        refine lv_aload_n hx hb dX12_isDrawn_26 rfl (lv_at hl 0 rfl) ?_
        refine gf_X12_394 C0 hR t_v0 dX12_isDrawn_27 ?_
        refine lv_ldc2 (v := 1103515245) hx hb hown (hts _ wk_X12_398) dX12_isDrawn_30 ?_
        refine lv_lmul hx hb dX12_isDrawn_33 ?_
        refine lv_ldc2 (v := 12345) hx hb hown (hts _ wk_X12_400) dX12_isDrawn_34 ?_
        refine lv_ladd hx hb dX12_isDrawn_37 ?_
        refine lv_ldc2 (v := 2147483647) hx hb hown (hts _ wk_X12_402) dX12_isDrawn_38 ?_
        refine lv_land hx hb dX12_isDrawn_41 ?_
        obtain ⟨h11, e_h11, hF⟩ := xbd hF
        refine pf_X12_394 C0 hR hS t_v0 dX12_isDrawn_42 (fun H locs hR hS => ?_)
        rw [Option.some.inj e_h11] at hR
        refine lv_aload_n hx hb dX12_isDrawn_45 rfl (lv_at hl 0 rfl) ?_
        refine gf_X12_394 C0 hR t_v0 dX12_isDrawn_46 ?_
        refine lv_ldc2 (v := 65536) hx hb hown (hts _ wk_X12_404) dX12_isDrawn_49 ?_
        obtain ⟨a12, e_a12, hF⟩ := xbd hF
        have n_a12 := (xdl_sp e_a12).1
        refine lv_ldiv hx hb dX12_isDrawn_52 n_a12 ?_
        refine lv_aload_n hx hb dX12_isDrawn_53 rfl (lv_at hl 0 rfl) ?_
        refine gf_X12_172 C0 hR t_v0 dX12_isDrawn_54 ?_
        refine lv_aload_n hx hb dX12_isDrawn_57 rfl (lv_at hl 0 rfl) ?_
        refine gf_X12_175 C0 hR t_v0 dX12_isDrawn_58 ?_
        refine lv_iadd hx hb dX12_isDrawn_61 ?_
        refine lv_i2l (v := Int32.toInt64 ((xI h11 v0 12) + (xI h11 v0 13))) hx hb dX12_isDrawn_62 rfl ?_
        obtain ⟨a13, e_a13, hF⟩ := xbd hF
        have n_a13 := (xrl_sp e_a13).1
        refine lv_lrem hx hb dX12_isDrawn_63 n_a13 ?_
        refine lv_l2i (v := Int64.toInt32 (((xJ h11 v0 54) / 65536) - ((xJ h11 v0 54) / 65536) / (Int32.toInt64 ((xI h11 v0 12) + (xI h11 v0 13))) * (Int32.toInt64 ((xI h11 v0 12) + (xI h11 v0 13))))) hx hb dX12_isDrawn_64 rfl ?_
        refine lv_istore_n (lv' := [(2, .int (Int64.toInt32 (((xJ h11 v0 54) / 65536) - ((xJ h11 v0 54) / 65536) / (Int32.toInt64 ((xI h11 v0 12) + (xI h11 v0 13))) * (Int32.toInt64 ((xI h11 v0 12) + (xI h11 v0 13)))))), (0, .ref v0), (1, .int v1)]) hx hb dX12_isDrawn_65 rfl hl (by decide) rfl (fun ls hl => ?_)
        refine lv_iload_n hx hb dX12_isDrawn_66 rfl (lv_at hl 0 rfl) ?_
        refine lv_aload_n hx hb dX12_isDrawn_67 rfl (lv_at hl 1 rfl) ?_
        refine gf_X12_172 C0 hR t_v0 dX12_isDrawn_68 ?_
        refine lv_icmp_ge (tgt := 78) hx hb dX12_isDrawn_71 (by decide) (fun c14 => ?_) (fun c14 => ?_)
        · have hF := xif hF c14
          refine lv_bipush (v := 100) hx hb dX12_isDrawn_78 (by decide) ?_
          refine lv_iload_n hx hb dX12_isDrawn_80 rfl (lv_at hl 0 rfl) ?_
          refine lv_iadd hx hb dX12_isDrawn_81 ?_
          refine lv_aload_n hx hb dX12_isDrawn_82 rfl (lv_at hl 1 rfl) ?_
          refine gf_X12_172 C0 hR t_v0 dX12_isDrawn_83 ?_
          refine lv_isub hx hb dX12_isDrawn_86 ?_
          exact jw_X12_isDrawn_87 C0 ih _ _ _ _ t_v0 hF _ _ hR hS _ (lv_sub hl [1, 2] rfl)
        · have hF := xel hF c14
          refine lv_iload_n hx hb dX12_isDrawn_74 rfl (lv_at hl 0 rfl) ?_
          refine lv_goto (tgt := 87) hx hb dX12_isDrawn_75 (by decide) ?_
          exact jw_X12_isDrawn_87 C0 ih _ _ _ _ t_v0 hF _ _ hR hS _ (lv_sub hl [1, 2] rfl)
      · have hF := xif hF c10
        refine lv_iconst (v := 0) hx hb dX12_isDrawn_23 (by decide) ?_
        cases hF
        exact x_zret (w := 0) C0 hR hS (by decide) dX12_isDrawn_24
set_option maxHeartbeats 4000000 in
set_option maxRecDepth 100000 in
theorem jc_X12_isDrawn {l : Launch} {D : xD} {ty : xTy} {h : xH} {v0 : Nat} {r : Int32} {h9 : xH} (t_v0 : ty v0 = some (0, 12)) (hF : jf_X12_isDrawn ty h v0 = some (r, h9)) : Met l yX12_isDrawn (xws yX12_isDrawn cX12_isDrawn 4 (some .boolean)) jr_X12_isDrawn (xPc D ty h [.ref v0]) (xQ D ty (some (.int r)) h9) 0 0 (xdom ty) := by
  refine x_met (by decide) ?_
  intro p e s m below meth c C0 hR
  generalize hargs : ([.ref v0] : List Value).toArray = args at C0 ⊢
  have hx := C0.1
  have hb := C0.2.1
  have hown := C0.2.2.2.2.2.1
  have hts := C0.2.2.2.2.2.2.1
  have hS : xS ty s.heap s.heap [] := xS.rf
  have hl := lv_entry ([.ref v0]) (n := 4) (Nat.le_of_ble_eq_true rfl)
  rw [← hargs, lg_entry_eq]
  rw [hargs]
  generalize (lg_sl ([.ref v0]) ++ List.replicate (4 - (lg_sl ([.ref v0])).length) Slot.unset).toArray = ls at hl ⊢
  have hl : lv_has ls 4 [(0, .ref v0)] := hl
  unfold jf_X12_isDrawn at hF
  refine lv_iconst (v := 1) hx hb dX12_isDrawn_0 (by decide) ?_
  refine lv_istore_n (lv' := [(1, .int 1), (0, .ref v0)]) hx hb dX12_isDrawn_1 rfl hl (by decide) rfl (fun ls hl => ?_)
  refine lv_aload_n hx hb dX12_isDrawn_2 rfl (lv_at hl 1 rfl) ?_
  refine lv_iconst (v := 0) hx hb dX12_isDrawn_3 (by decide) ?_
  obtain ⟨h15, e_h15, hF⟩ := xbd hF
  refine pf_X12_205 C0 hR hS t_v0 dX12_isDrawn_4 (fun H locs hR hS => ?_)
  rw [Option.some.inj e_h15] at hR
  obtain ⟨_, hF⟩ := xlim_sp hF
  exact jw_X12_isDrawn_7 C0 _ _ _ _ t_v0 hF _ _ hR hS _ (lv_sub hl [1, 0] rfl)
theorem xm_X12_isDrawn : xMw yX12_isDrawn cX12_isDrawn 4 (some .boolean) 0 := ⟨xin 1880 (by decide +kernel) rfl, xin 126 (by decide +kernel) rfl, by decide +kernel⟩
theorem xi_X12_isDrawn : Cond.instanceMethod yX12_isDrawn ∈ xT := xin 1879 (by decide +kernel) rfl
theorem xe_X12_isDrawn : Cond.selects yX12_isDrawn.cls yX12_isDrawn yX12_isDrawn ∈ xT := xin 111 (by decide +kernel) rfl
theorem dX12_chance_0 : decode cX12_chance 0 = .ok (.aload_n 0, 1) := by decide +kernel
theorem dX12_chance_1 : decode cX12_chance 1 = .ok (.iconst 0, 1) := by decide +kernel
theorem dX12_chance_2 : decode cX12_chance 2 = .ok (.putfield 101, 3) := by decide +kernel
theorem dX12_chance_5 : decode cX12_chance 5 = .ok (.iload_n 1, 1) := by decide +kernel
theorem dX12_chance_6 : decode cX12_chance 6 = .ok (.ifCond .lt 12, 3) := by decide +kernel
theorem dX12_chance_9 : decode cX12_chance 9 = .ok (.iload_n 2, 1) := by decide +kernel
theorem dX12_chance_10 : decode cX12_chance 10 = .ok (.iconst 0, 1) := by decide +kernel
theorem dX12_chance_11 : decode cX12_chance 11 = .ok (.iconst 2, 1) := by decide +kernel
theorem dX12_chance_12 : decode cX12_chance 12 = .ok (.invokestatic 146, 3) := by decide +kernel
theorem dX12_chance_15 : decode cX12_chance 15 = .ok (.ifCond .ne 5, 3) := by decide +kernel
theorem dX12_chance_18 : decode cX12_chance 18 = .ok (.iconst (-1), 1) := by decide +kernel
theorem dX12_chance_19 : decode cX12_chance 19 = .ok (.ireturn, 1) := by decide +kernel
theorem dX12_chance_20 : decode cX12_chance 20 = .ok (.aload_n 0, 1) := by decide +kernel
theorem dX12_chance_21 : decode cX12_chance 21 = .ok (.getfield 188, 3) := by decide +kernel
theorem dX12_chance_24 : decode cX12_chance 24 = .ok (.istore_n 3, 1) := by decide +kernel
theorem dX12_chance_25 : decode cX12_chance 25 = .ok (.iconst 0, 1) := by decide +kernel
theorem dX12_chance_26 : decode cX12_chance 26 = .ok (.istore 4, 2) := by decide +kernel
theorem dX12_chance_28 : decode cX12_chance 28 = .ok (.iload 4, 2) := by decide +kernel
theorem dX12_chance_30 : decode cX12_chance 30 = .ok (.bipush 60, 2) := by decide +kernel
theorem dX12_chance_32 : decode cX12_chance 32 = .ok (.if_icmp .ge 23, 3) := by decide +kernel
theorem dX12_chance_35 : decode cX12_chance 35 = .ok (.aload_n 0, 1) := by decide +kernel
theorem dX12_chance_36 : decode cX12_chance 36 = .ok (.getfield 89, 3) := by decide +kernel
theorem dX12_chance_39 : decode cX12_chance 39 = .ok (.iload 4, 2) := by decide +kernel
theorem dX12_chance_41 : decode cX12_chance 41 = .ok (.aload_n 0, 1) := by decide +kernel
theorem dX12_chance_42 : decode cX12_chance 42 = .ok (.getfield 44, 3) := by decide +kernel
theorem dX12_chance_45 : decode cX12_chance 45 = .ok (.iload 4, 2) := by decide +kernel
theorem dX12_chance_47 : decode cX12_chance 47 = .ok (.iaload, 1) := by decide +kernel
theorem dX12_chance_48 : decode cX12_chance 48 = .ok (.iastore, 1) := by decide +kernel
theorem dX12_chance_49 : decode cX12_chance 49 = .ok (.iinc 4 1, 3) := by decide +kernel
theorem dX12_chance_52 : decode cX12_chance 52 = .ok (.goto (-24), 3) := by decide +kernel
theorem dX12_chance_55 : decode cX12_chance 55 = .ok (.aload_n 0, 1) := by decide +kernel
theorem dX12_chance_56 : decode cX12_chance 56 = .ok (.iload_n 1, 1) := by decide +kernel
theorem dX12_chance_57 : decode cX12_chance 57 = .ok (.i2l, 1) := by decide +kernel
theorem dX12_chance_58 : decode cX12_chance 58 = .ok (.putfield 394, 3) := by decide +kernel
theorem dX12_chance_61 : decode cX12_chance 61 = .ok (.iconst 0, 1) := by decide +kernel
theorem dX12_chance_62 : decode cX12_chance 62 = .ok (.istore 4, 2) := by decide +kernel
theorem dX12_chance_64 : decode cX12_chance 64 = .ok (.iconst 0, 1) := by decide +kernel
theorem dX12_chance_65 : decode cX12_chance 65 = .ok (.istore 5, 2) := by decide +kernel
theorem dX12_chance_67 : decode cX12_chance 67 = .ok (.iload 5, 2) := by decide +kernel
theorem dX12_chance_69 : decode cX12_chance 69 = .ok (.bipush 10, 2) := by decide +kernel
theorem dX12_chance_71 : decode cX12_chance 71 = .ok (.if_icmp .ge 54, 3) := by decide +kernel
theorem dX12_chance_74 : decode cX12_chance 74 = .ok (.iload 4, 2) := by decide +kernel
theorem dX12_chance_76 : decode cX12_chance 76 = .ok (.ifCond .lt 49, 3) := by decide +kernel
theorem dX12_chance_79 : decode cX12_chance 79 = .ok (.aload_n 0, 1) := by decide +kernel
theorem dX12_chance_80 : decode cX12_chance 80 = .ok (.invokevirtual 409, 3) := by decide +kernel
theorem dX12_chance_83 : decode cX12_chance 83 = .ok (.ifCond .ne 10, 3) := by decide +kernel
theorem dX12_chance_86 : decode cX12_chance 86 = .ok (.bipush (-2), 2) := by decide +kernel
theorem dX12_chance_88 : decode cX12_chance 88 = .ok (.istore 4, 2) := by decide +kernel
theorem dX12_chance_90 : decode cX12_chance 90 = .ok (.goto 29, 3) := by decide +kernel
theorem dX12_chance_93 : decode cX12_chance 93 = .ok (.aload_n 0, 1) := by decide +kernel
theorem dX12_chance_94 : decode cX12_chance 94 = .ok (.invokevirtual 228, 3) := by decide +kernel
theorem dX12_chance_97 : decode cX12_chance 97 = .ok (.aload_n 0, 1) := by decide +kernel
theorem dX12_chance_98 : decode cX12_chance 98 = .ok (.iload_n 2, 1) := by decide +kernel
theorem dX12_chance_99 : decode cX12_chance 99 = .ok (.invokevirtual 325, 3) := by decide +kernel
theorem dX12_chance_102 : decode cX12_chance 102 = .ok (.iload 4, 2) := by decide +kernel
theorem dX12_chance_104 : decode cX12_chance 104 = .ok (.aload_n 0, 1) := by decide +kernel
theorem dX12_chance_105 : decode cX12_chance 105 = .ok (.getfield 319, 3) := by decide +kernel
theorem dX12_chance_108 : decode cX12_chance 108 = .ok (.ifCond .le 7, 3) := by decide +kernel
theorem dX12_chance_111 : decode cX12_chance 111 = .ok (.iconst 1, 1) := by decide +kernel
theorem dX12_chance_112 : decode cX12_chance 112 = .ok (.goto 4, 3) := by decide +kernel
theorem dX12_chance_115 : decode cX12_chance 115 = .ok (.iconst 0, 1) := by decide +kernel
theorem dX12_chance_116 : decode cX12_chance 116 = .ok (.iadd, 1) := by decide +kernel
theorem dX12_chance_117 : decode cX12_chance 117 = .ok (.istore 4, 2) := by decide +kernel
theorem dX12_chance_119 : decode cX12_chance 119 = .ok (.iinc 5 1, 3) := by decide +kernel
theorem dX12_chance_122 : decode cX12_chance 122 = .ok (.goto (-55), 3) := by decide +kernel
theorem dX12_chance_125 : decode cX12_chance 125 = .ok (.iconst 0, 1) := by decide +kernel
theorem dX12_chance_126 : decode cX12_chance 126 = .ok (.istore 5, 2) := by decide +kernel
theorem dX12_chance_128 : decode cX12_chance 128 = .ok (.iload 5, 2) := by decide +kernel
theorem dX12_chance_130 : decode cX12_chance 130 = .ok (.bipush 60, 2) := by decide +kernel
theorem dX12_chance_132 : decode cX12_chance 132 = .ok (.if_icmp .ge 23, 3) := by decide +kernel
theorem dX12_chance_135 : decode cX12_chance 135 = .ok (.aload_n 0, 1) := by decide +kernel
theorem dX12_chance_136 : decode cX12_chance 136 = .ok (.getfield 44, 3) := by decide +kernel
theorem dX12_chance_139 : decode cX12_chance 139 = .ok (.iload 5, 2) := by decide +kernel
theorem dX12_chance_141 : decode cX12_chance 141 = .ok (.aload_n 0, 1) := by decide +kernel
theorem dX12_chance_142 : decode cX12_chance 142 = .ok (.getfield 89, 3) := by decide +kernel
theorem dX12_chance_145 : decode cX12_chance 145 = .ok (.iload 5, 2) := by decide +kernel
theorem dX12_chance_147 : decode cX12_chance 147 = .ok (.iaload, 1) := by decide +kernel
theorem dX12_chance_148 : decode cX12_chance 148 = .ok (.iastore, 1) := by decide +kernel
theorem dX12_chance_149 : decode cX12_chance 149 = .ok (.iinc 5 1, 3) := by decide +kernel
theorem dX12_chance_152 : decode cX12_chance 152 = .ok (.goto (-24), 3) := by decide +kernel
theorem dX12_chance_155 : decode cX12_chance 155 = .ok (.aload_n 0, 1) := by decide +kernel
theorem dX12_chance_156 : decode cX12_chance 156 = .ok (.iload_n 3, 1) := by decide +kernel
theorem dX12_chance_157 : decode cX12_chance 157 = .ok (.putfield 188, 3) := by decide +kernel
theorem dX12_chance_160 : decode cX12_chance 160 = .ok (.iload 4, 2) := by decide +kernel
theorem dX12_chance_162 : decode cX12_chance 162 = .ok (.ireturn, 1) := by decide +kernel
theorem wl_X12_409 : Cond.methodLink RX12 409 yX12_isDrawn ∈ xT := xin 1877 (by decide +kernel) rfl
theorem wf_X12_89 : Cond.fieldLink RX12 89 "TermShelfModel" "keptRow" "[I" ∈ xT := xin 1367 (by decide +kernel) rfl
section XN_X12_chance
variable {p : Program} {l : Launch} {e : Env} {R : Room} {s : State} {m : MethodId} {args : Array Value} {below : List Frame} {meth : Method} {c : Code} {H H0 : Heap} {locs : List Loc} {cells slots : Nat} {Q : State → Prop} {cc : ByteArray} {nL pc : Nat} {rt : Option FieldType} {ls : Array Slot} {rest : List Value} {D : xD} {ty : xTy} {h : xH}
theorem cl_X12_409 {v0 : Nat} {r : Int32} {h9 : xH} (C0 : xC D RX12 cc nL rt p s m args meth c) (hR : xRep D ty h H) (hS : xS ty H0 H locs) (hF : jf_X12_isDrawn ty h v0 = some (r, h9)) (t_v0 : ty v0 = some (0, 12)) (hrm : jr_X12_isDrawn.frames + 1 ≤ R.frames ∧ 8 + (4 + 11) + jr_X12_isDrawn.locals ≤ R.locals) (hsz : ls.size = nL) (hW : (rest.map fun v => v.category).sum ≤ 8) (hf : cells ≤ R.cells ∧ slots ≤ R.slots) (hdg : decode cc pc = .ok (.invokevirtual 409, 3)) (kk : ∀ (H1 : Heap) (locs1 : List Loc), xRep D ty h9 H1 → xS ty H0 H1 locs1 → W p l e R s m args below meth c H1 locs1 cells slots Q (F0 m (pc + 3) ls (.int r :: rest))) : W p l e R s m args below meth c H locs cells slots Q (F0 m pc ls (.ref v0 :: rest)) := x_callV C0 (jc_X12_isDrawn t_v0 hF) xm_X12_isDrawn xi_X12_isDrawn xe_X12_isDrawn wl_X12_409 ⟨rfl, rfl, hrm⟩ (ci := 12) rfl t_v0 hR hS (As := []) rfl hsz rfl hW hdg hf kk
theorem gf_X12_89 {a : Nat} (C0 : xC D RX12 cc nL rt p s m args meth c) (hR : xRep D ty h H) (ht : ty a = some (0, 12)) {v : Nat} (hv : xR h a 55 = some v) (hdg : decode cc pc = .ok (.getfield 89, 3)) (kk : W p l e R s m args below meth c H locs cells slots Q (F0 m (pc + 3) ls (.ref v :: rest))) : W p l e R s m args below meth c H locs cells slots Q (F0 m pc ls (.ref a :: rest)) := x_get C0 hR (ci := 12) (k := 55) (N := 60) (T := TX12) rfl iX12 (by decide) rfl wf_X12_89 (by show va_rf (xR h a 55) = _; rw [hv]; rfl) ht hdg kk
end XN_X12_chance
set_option maxHeartbeats 4000000 in
set_option maxRecDepth 100000 in
theorem jw_X12_chance_128 {p : Program} {l : Launch} {e : Env} {s : State} {m : MethodId} {args : Array Value} {below : List Frame} {meth : Method} {c : Code} {D : xD} {ty : xTy} (C0 : xC D RX12 cX12_chance 6 (some .int) p s m args meth c) {r : Int32} {h9 : xH} : ∀ n : Nat, ∀ (v0 : Nat) (v3 : Int32) (v4 : Int32) (v5 : Int32) (h : xH), ty v0 = some (0, 12) → jf_X12_chance_128 ty n v0 v3 v4 v5 h = some (r, h9) → ∀ (H : Heap) (locs : List Loc), xRep D ty h H → xS ty s.heap H locs → ∀ ls : Array Slot, lv_has ls 6 [(0, .ref v0), (3, .int v3), (4, .int v4), (5, .int v5)] → W p l e jr_X12_chance s m args below meth c H locs 0 0 (MQ below (xQ D ty (some (.int r)) h9) args s 0 0 (xdom ty)) (F0 m 128 ls []) := by
  have hx := C0.1
  have hb := C0.2.1
  have hown := C0.2.2.2.2.2.1
  have hts := C0.2.2.2.2.2.2.1
  intro n
  induction n with
  | zero =>
    intro v0 v3 v4 v5 h t_v0 hF H locs hR hS ls hl
    cases hF
  | succ n ih =>
    intro v0 v3 v4 v5 h t_v0 hF H locs hR hS ls hl
    rw [jf_X12_chance_128_s] at hF
    refine lv_iload hx hb dX12_chance_128 (lv_at hl 3 rfl) ?_
    refine lv_bipush (v := 60) hx hb dX12_chance_130 (by decide) ?_
    refine lv_icmp_ge (tgt := 155) hx hb dX12_chance_132 (by decide) (fun c1 => ?_) (fun c1 => ?_)
    · have hF := xif hF c1
      refine lv_aload_n hx hb dX12_chance_155 rfl (lv_at hl 0 rfl) ?_
      refine lv_iload_n hx hb dX12_chance_156 rfl (lv_at hl 1 rfl) ?_
      obtain ⟨h2, e_h2, hF⟩ := xbd hF
      refine pf_X12_188 C0 hR hS t_v0 dX12_chance_157 (fun H locs hR hS => ?_)
      rw [Option.some.inj e_h2] at hR
      refine lv_iload hx hb dX12_chance_160 (lv_at hl 2 rfl) ?_
      cases hF
      exact x_iret C0 hR hS dX12_chance_162
    · have hF := xel hF c1
      refine lv_aload_n hx hb dX12_chance_135 rfl (lv_at hl 0 rfl) ?_
      obtain ⟨a3, e_a3, hF⟩ := xbd hF
      refine gf_X12_44 C0 hR t_v0 e_a3 dX12_chance_136 ?_
      refine lv_iload hx hb dX12_chance_139 (lv_at hl 3 rfl) ?_
      refine lv_aload_n hx hb dX12_chance_141 rfl (lv_at hl 0 rfl) ?_
      obtain ⟨a4, e_a4, hF⟩ := xbd hF
      refine gf_X12_89 C0 hR t_v0 e_a4 dX12_chance_142 ?_
      refine lv_iload hx hb dX12_chance_145 (lv_at hl 3 rfl) ?_
      obtain ⟨a5, e_a5, hF⟩ := xbd hF
      refine x_iald C0 hR e_a5 dX12_chance_147 ?_
      obtain ⟨h6, e_h6, hF⟩ := xbd hF
      refine x_iast C0 hR hS e_h6 dX12_chance_148 (fun H locs hR hS => ?_)
      refine lv_iinc (v := v5 + 1) (lv' := [(5, .int (v5 + 1)), (0, .ref v0), (3, .int v3), (4, .int v4)]) hx hb dX12_chance_149 hl (k := 3) rfl rfl (by decide) rfl (fun ls hl => ?_)
      refine lv_goto (tgt := 128) hx hb dX12_chance_152 (by decide) ?_
      exact ih _ _ _ _ _ t_v0 hF _ _ hR hS _ (lv_sub hl [1, 2, 3, 0] rfl)
set_option maxHeartbeats 4000000 in
set_option maxRecDepth 100000 in
theorem jw_X12_chance_67 {p : Program} {l : Launch} {e : Env} {s : State} {m : MethodId} {args : Array Value} {below : List Frame} {meth : Method} {c : Code} {D : xD} {ty : xTy} (C0 : xC D RX12 cX12_chance 6 (some .int) p s m args meth c) {r : Int32} {h9 : xH} : ∀ n : Nat, ∀ (v0 : Nat) (v2 : Int32) (v3 : Int32) (v4 : Int32) (v5 : Int32) (h : xH), ty v0 = some (0, 12) → jf_X12_chance_67 ty n v0 v2 v3 v4 v5 h = some (r, h9) → ∀ (H : Heap) (locs : List Loc), xRep D ty h H → xS ty s.heap H locs → ∀ ls : Array Slot, lv_has ls 6 [(0, .ref v0), (2, .int v2), (3, .int v3), (4, .int v4), (5, .int v5)] → W p l e jr_X12_chance s m args below meth c H locs 0 0 (MQ below (xQ D ty (some (.int r)) h9) args s 0 0 (xdom ty)) (F0 m 67 ls []) := by
  have hx := C0.1
  have hb := C0.2.1
  have hown := C0.2.2.2.2.2.1
  have hts := C0.2.2.2.2.2.2.1
  intro n
  induction n with
  | zero =>
    intro v0 v2 v3 v4 v5 h t_v0 hF H locs hR hS ls hl
    cases hF
  | succ n ih =>
    intro v0 v2 v3 v4 v5 h t_v0 hF H locs hR hS ls hl
    rw [jf_X12_chance_67_s] at hF
    refine lv_iload hx hb dX12_chance_67 (lv_at hl 4 rfl) ?_
    refine lv_bipush (v := 10) hx hb dX12_chance_69 (by decide) ?_
    refine lv_icmp_ge (tgt := 125) hx hb dX12_chance_71 (by decide) (fun c7 => ?_) (fun c7 => ?_)
    · have hF := xif hF c7
      refine lv_iconst (v := 0) hx hb dX12_chance_125 (by decide) ?_
      refine lv_istore (lv' := [(5, .int 0), (0, .ref v0), (2, .int v2), (3, .int v3), (4, .int v4)]) hx hb dX12_chance_126 hl (by decide) rfl (fun ls hl => ?_)
      obtain ⟨_, hF⟩ := xlim_sp hF
      exact jw_X12_chance_128 C0 _ _ _ _ _ _ t_v0 hF _ _ hR hS _ (lv_sub hl [1, 3, 4, 0] rfl)
    · have hF := xel hF c7
      refine lv_iload hx hb dX12_chance_74 (lv_at hl 3 rfl) ?_
      refine lv_if_lt (tgt := 125) hx hb dX12_chance_76 (by decide) (fun c8 => ?_) (fun c8 => ?_)
      · have hF := xif hF c8
        refine lv_iconst (v := 0) hx hb dX12_chance_125 (by decide) ?_
        refine lv_istore (lv' := [(5, .int 0), (0, .ref v0), (2, .int v2), (3, .int v3), (4, .int v4)]) hx hb dX12_chance_126 hl (by decide) rfl (fun ls hl => ?_)
        obtain ⟨_, hF⟩ := xlim_sp hF
        exact jw_X12_chance_128 C0 _ _ _ _ _ _ t_v0 hF _ _ hR hS _ (lv_sub hl [1, 3, 4, 0] rfl)
      · have hF := xel hF c8
        refine lv_aload_n hx hb dX12_chance_79 rfl (lv_at hl 0 rfl) ?_
        obtain ⟨a10, h9, e_h9, hF⟩ := xbd2 hF
        refine cl_X12_409 C0 hR hS e_h9 t_v0 ⟨(Nat.le_of_ble_eq_true rfl), (Nat.le_of_ble_eq_true rfl)⟩ hl.1 (Nat.le_of_ble_eq_true rfl) ⟨(Nat.le_of_ble_eq_true rfl), (Nat.le_of_ble_eq_true rfl)⟩ dX12_chance_80 (fun H locs hR hS => ?_)
        refine lv_if_ne (tgt := 93) hx hb dX12_chance_83 (by decide) (fun c11 => ?_) (fun c11 => ?_)
        · have hF := xel hF c11
          refine lv_aload_n hx hb dX12_chance_93 rfl (lv_at hl 0 rfl) ?_
          obtain ⟨h12, e_h12, hF⟩ := xbd hF
          refine cl_X12_228 C0 hR hS e_h12 t_v0 ⟨(Nat.le_of_ble_eq_true rfl), (Nat.le_of_ble_eq_true rfl)⟩ hl.1 (Nat.le_of_ble_eq_true rfl) ⟨(Nat.le_of_ble_eq_true rfl), (Nat.le_of_ble_eq_true rfl)⟩ dX12_chance_94 (fun H locs hR hS => ?_)
          refine lv_aload_n hx hb dX12_chance_97 rfl (lv_at hl 0 rfl) ?_
          refine lv_iload_n hx hb dX12_chance_98 rfl (lv_at hl 1 rfl) ?_
          obtain ⟨h13, e_h13, hF⟩ := xbd hF
          refine cl_X12_325 C0 hR hS e_h13 t_v0 ⟨(Nat.le_of_ble_eq_true rfl), (Nat.le_of_ble_eq_true rfl)⟩ hl.1 (Nat.le_of_ble_eq_true rfl) ⟨(Nat.le_of_ble_eq_true rfl), (Nat.le_of_ble_eq_true rfl)⟩ dX12_chance_99 (fun H locs hR hS => ?_)
          refine lv_iload hx hb dX12_chance_102 (lv_at hl 3 rfl) ?_
          refine lv_aload_n hx hb dX12_chance_104 rfl (lv_at hl 0 rfl) ?_
          refine gf_X12_319 C0 hR t_v0 dX12_chance_105 ?_
          refine lv_if_le (tgt := 115) hx hb dX12_chance_108 (by decide) (fun c14 => ?_) (fun c14 => ?_)
          · have hF := xif hF c14
            refine lv_iconst (v := 0) hx hb dX12_chance_115 (by decide) ?_
            refine lv_iadd hx hb dX12_chance_116 ?_
            refine lv_istore (lv' := [(4, .int (v4 + 0)), (0, .ref v0), (2, .int v2), (3, .int v3), (5, .int v5)]) hx hb dX12_chance_117 hl (by decide) rfl (fun ls hl => ?_)
            refine lv_iinc (v := v5 + 1) (lv' := [(5, .int (v5 + 1)), (4, .int (v4 + 0)), (0, .ref v0), (2, .int v2), (3, .int v3)]) hx hb dX12_chance_119 hl (k := 4) rfl rfl (by decide) rfl (fun ls hl => ?_)
            refine lv_goto (tgt := 67) hx hb dX12_chance_122 (by decide) ?_
            exact ih _ _ _ _ _ _ t_v0 hF _ _ hR hS _ (lv_sub hl [2, 3, 4, 1, 0] rfl)
          · have hF := xel hF c14
            refine lv_iconst (v := 1) hx hb dX12_chance_111 (by decide) ?_
            refine lv_goto (tgt := 116) hx hb dX12_chance_112 (by decide) ?_
            refine lv_iadd hx hb dX12_chance_116 ?_
            refine lv_istore (lv' := [(4, .int (v4 + 1)), (0, .ref v0), (2, .int v2), (3, .int v3), (5, .int v5)]) hx hb dX12_chance_117 hl (by decide) rfl (fun ls hl => ?_)
            refine lv_iinc (v := v5 + 1) (lv' := [(5, .int (v5 + 1)), (4, .int (v4 + 1)), (0, .ref v0), (2, .int v2), (3, .int v3)]) hx hb dX12_chance_119 hl (k := 4) rfl rfl (by decide) rfl (fun ls hl => ?_)
            refine lv_goto (tgt := 67) hx hb dX12_chance_122 (by decide) ?_
            exact ih _ _ _ _ _ _ t_v0 hF _ _ hR hS _ (lv_sub hl [2, 3, 4, 1, 0] rfl)
        · have hF := xif hF c11
          refine lv_bipush (v := (-2)) hx hb dX12_chance_86 (by decide) ?_
          refine lv_istore (lv' := [(4, .int (-2)), (0, .ref v0), (2, .int v2), (3, .int v3), (5, .int v5)]) hx hb dX12_chance_88 hl (by decide) rfl (fun ls hl => ?_)
          refine lv_goto (tgt := 119) hx hb dX12_chance_90 (by decide) ?_
          refine lv_iinc (v := v5 + 1) (lv' := [(5, .int (v5 + 1)), (4, .int (-2)), (0, .ref v0), (2, .int v2), (3, .int v3)]) hx hb dX12_chance_119 hl (k := 4) rfl rfl (by decide) rfl (fun ls hl => ?_)
          refine lv_goto (tgt := 67) hx hb dX12_chance_122 (by decide) ?_
          exact ih _ _ _ _ _ _ t_v0 hF _ _ hR hS _ (lv_sub hl [2, 3, 4, 1, 0] rfl)
set_option maxHeartbeats 4000000 in
set_option maxRecDepth 100000 in
theorem jw_X12_chance_28 {p : Program} {l : Launch} {e : Env} {s : State} {m : MethodId} {args : Array Value} {below : List Frame} {meth : Method} {c : Code} {D : xD} {ty : xTy} (C0 : xC D RX12 cX12_chance 6 (some .int) p s m args meth c) {r : Int32} {h9 : xH} : ∀ n : Nat, ∀ (v0 : Nat) (v1 : Int32) (v2 : Int32) (v3 : Int32) (v4 : Int32) (h : xH), ty v0 = some (0, 12) → jf_X12_chance_28 ty n v0 v1 v2 v3 v4 h = some (r, h9) → ∀ (H : Heap) (locs : List Loc), xRep D ty h H → xS ty s.heap H locs → ∀ ls : Array Slot, lv_has ls 6 [(0, .ref v0), (1, .int v1), (2, .int v2), (3, .int v3), (4, .int v4)] → W p l e jr_X12_chance s m args below meth c H locs 0 0 (MQ below (xQ D ty (some (.int r)) h9) args s 0 0 (xdom ty)) (F0 m 28 ls []) := by
  have hx := C0.1
  have hb := C0.2.1
  have hown := C0.2.2.2.2.2.1
  have hts := C0.2.2.2.2.2.2.1
  intro n
  induction n with
  | zero =>
    intro v0 v1 v2 v3 v4 h t_v0 hF H locs hR hS ls hl
    cases hF
  | succ n ih =>
    intro v0 v1 v2 v3 v4 h t_v0 hF H locs hR hS ls hl
    rw [jf_X12_chance_28_s] at hF
    refine lv_iload hx hb dX12_chance_28 (lv_at hl 4 rfl) ?_
    refine lv_bipush (v := 60) hx hb dX12_chance_30 (by decide) ?_
    refine lv_icmp_ge (tgt := 55) hx hb dX12_chance_32 (by decide) (fun c15 => ?_) (fun c15 => ?_)
    · have hF := xif hF c15
      refine lv_aload_n hx hb dX12_chance_55 rfl (lv_at hl 0 rfl) ?_
      refine lv_iload_n hx hb dX12_chance_56 rfl (lv_at hl 1 rfl) ?_
      refine lv_i2l (v := Int32.toInt64 v1) hx hb dX12_chance_57 rfl ?_
      obtain ⟨h16, e_h16, hF⟩ := xbd hF
      refine pf_X12_394 C0 hR hS t_v0 dX12_chance_58 (fun H locs hR hS => ?_)
      rw [Option.some.inj e_h16] at hR
      refine lv_iconst (v := 0) hx hb dX12_chance_61 (by decide) ?_
      refine lv_istore (lv' := [(4, .int 0), (0, .ref v0), (1, .int v1), (2, .int v2), (3, .int v3)]) hx hb dX12_chance_62 hl (by decide) rfl (fun ls hl => ?_)
      refine lv_iconst (v := 0) hx hb dX12_chance_64 (by decide) ?_
      refine lv_istore (lv' := [(5, .int 0), (4, .int 0), (0, .ref v0), (1, .int v1), (2, .int v2), (3, .int v3)]) hx hb dX12_chance_65 hl (by decide) rfl (fun ls hl => ?_)
      obtain ⟨_, hF⟩ := xlim_sp hF
      exact jw_X12_chance_67 C0 _ _ _ _ _ _ _ t_v0 hF _ _ hR hS _ (lv_sub hl [2, 4, 5, 1, 0] rfl)
    · have hF := xel hF c15
      refine lv_aload_n hx hb dX12_chance_35 rfl (lv_at hl 0 rfl) ?_
      obtain ⟨a17, e_a17, hF⟩ := xbd hF
      refine gf_X12_89 C0 hR t_v0 e_a17 dX12_chance_36 ?_
      refine lv_iload hx hb dX12_chance_39 (lv_at hl 4 rfl) ?_
      refine lv_aload_n hx hb dX12_chance_41 rfl (lv_at hl 0 rfl) ?_
      obtain ⟨a18, e_a18, hF⟩ := xbd hF
      refine gf_X12_44 C0 hR t_v0 e_a18 dX12_chance_42 ?_
      refine lv_iload hx hb dX12_chance_45 (lv_at hl 4 rfl) ?_
      obtain ⟨a19, e_a19, hF⟩ := xbd hF
      refine x_iald C0 hR e_a19 dX12_chance_47 ?_
      obtain ⟨h20, e_h20, hF⟩ := xbd hF
      refine x_iast C0 hR hS e_h20 dX12_chance_48 (fun H locs hR hS => ?_)
      refine lv_iinc (v := v4 + 1) (lv' := [(4, .int (v4 + 1)), (0, .ref v0), (1, .int v1), (2, .int v2), (3, .int v3)]) hx hb dX12_chance_49 hl (k := 4) rfl rfl (by decide) rfl (fun ls hl => ?_)
      refine lv_goto (tgt := 28) hx hb dX12_chance_52 (by decide) ?_
      exact ih _ _ _ _ _ _ t_v0 hF _ _ hR hS _ (lv_sub hl [1, 2, 3, 4, 0] rfl)
set_option maxHeartbeats 4000000 in
set_option maxRecDepth 100000 in
theorem jc_X12_chance {l : Launch} {D : xD} {ty : xTy} {h : xH} {v0 : Nat} {v1 : Int32} {v2 : Int32} {r : Int32} {h9 : xH} (t_v0 : ty v0 = some (0, 12)) (hF : jf_X12_chance ty h v0 v1 v2 = some (r, h9)) : Met l yX12_chance (xws yX12_chance cX12_chance 6 (some .int)) jr_X12_chance (xPc D ty h [.ref v0, .int v1, .int v2]) (xQ D ty (some (.int r)) h9) 0 0 (xdom ty) := by
  refine x_met (by decide) ?_
  intro p e s m below meth c C0 hR
  generalize hargs : ([.ref v0, .int v1, .int v2] : List Value).toArray = args at C0 ⊢
  have hx := C0.1
  have hb := C0.2.1
  have hown := C0.2.2.2.2.2.1
  have hts := C0.2.2.2.2.2.2.1
  have hS : xS ty s.heap s.heap [] := xS.rf
  have hl := lv_entry ([.ref v0, .int v1, .int v2]) (n := 6) (Nat.le_of_ble_eq_true rfl)
  rw [← hargs, lg_entry_eq]
  rw [hargs]
  generalize (lg_sl ([.ref v0, .int v1, .int v2]) ++ List.replicate (6 - (lg_sl ([.ref v0, .int v1, .int v2])).length) Slot.unset).toArray = ls at hl ⊢
  have hl : lv_has ls 6 [(0, .ref v0), (1, .int v1), (2, .int v2)] := hl
  unfold jf_X12_chance at hF
  refine lv_aload_n hx hb dX12_chance_0 rfl (lv_at hl 0 rfl) ?_
  refine lv_iconst (v := 0) hx hb dX12_chance_1 (by decide) ?_
  obtain ⟨h21, e_h21, hF⟩ := xbd hF
  refine pf_X12_101 C0 hR hS t_v0 dX12_chance_2 (fun H locs hR hS => ?_)
  rw [Option.some.inj e_h21] at hR
  refine lv_iload_n hx hb dX12_chance_5 rfl (lv_at hl 1 rfl) ?_
  refine lv_if_lt (tgt := 18) hx hb dX12_chance_6 (by decide) (fun c22 => ?_) (fun c22 => ?_)
  · have hF := xif hF c22
    refine lv_iconst (v := (-1)) hx hb dX12_chance_18 (by decide) ?_
    cases hF
    exact x_iret C0 hR hS dX12_chance_19
  · have hF := xel hF c22
    refine lv_iload_n hx hb dX12_chance_9 rfl (lv_at hl 2 rfl) ?_
    refine lv_iconst (v := 0) hx hb dX12_chance_10 (by decide) ?_
    refine lv_iconst (v := 2) hx hb dX12_chance_11 (by decide) ?_
    obtain ⟨a23, e_a23, hF⟩ := xbd hF
    refine cl_X12_146 C0 hR hS e_a23  ⟨(Nat.le_of_ble_eq_true rfl), (Nat.le_of_ble_eq_true rfl)⟩ hl.1 (Nat.le_of_ble_eq_true rfl) ⟨(Nat.le_of_ble_eq_true rfl), (Nat.le_of_ble_eq_true rfl)⟩ dX12_chance_12 (fun H locs hR hS => ?_)
    refine lv_if_ne (tgt := 20) hx hb dX12_chance_15 (by decide) (fun c24 => ?_) (fun c24 => ?_)
    · have hF := xel hF c24
      refine lv_aload_n hx hb dX12_chance_20 rfl (lv_at hl 0 rfl) ?_
      refine gf_X12_188 C0 hR t_v0 dX12_chance_21 ?_
      refine lv_istore_n (lv' := [(3, .int (xI h21 v0 28)), (0, .ref v0), (1, .int v1), (2, .int v2)]) hx hb dX12_chance_24 rfl hl (by decide) rfl (fun ls hl => ?_)
      refine lv_iconst (v := 0) hx hb dX12_chance_25 (by decide) ?_
      refine lv_istore (lv' := [(4, .int 0), (3, .int (xI h21 v0 28)), (0, .ref v0), (1, .int v1), (2, .int v2)]) hx hb dX12_chance_26 hl (by decide) rfl (fun ls hl => ?_)
      obtain ⟨_, hF⟩ := xlim_sp hF
      exact jw_X12_chance_28 C0 _ _ _ _ _ _ _ t_v0 hF _ _ hR hS _ (lv_sub hl [2, 3, 4, 1, 0] rfl)
    · have hF := xif hF c24
      refine lv_iconst (v := (-1)) hx hb dX12_chance_18 (by decide) ?_
      cases hF
      exact x_iret C0 hR hS dX12_chance_19
theorem xm_X12_chance : xMw yX12_chance cX12_chance 6 (some .int) 2 := ⟨xin 1876 (by decide +kernel) rfl, xin 126 (by decide +kernel) rfl, by decide +kernel⟩
theorem xi_X12_chance : Cond.instanceMethod yX12_chance ∈ xT := xin 1874 (by decide +kernel) rfl
theorem xe_X12_chance : Cond.selects yX12_chance.cls yX12_chance yX12_chance ∈ xT := xin 1875 (by decide +kernel) rfl
theorem dX12_draw_0 : decode cX12_draw 0 = .ok (.aload_n 0, 1) := by decide +kernel
theorem dX12_draw_1 : decode cX12_draw 1 = .ok (.iconst 0, 1) := by decide +kernel
theorem dX12_draw_2 : decode cX12_draw 2 = .ok (.putfield 101, 3) := by decide +kernel
theorem dX12_draw_5 : decode cX12_draw 5 = .ok (.iload_n 1, 1) := by decide +kernel
theorem dX12_draw_6 : decode cX12_draw 6 = .ok (.ifCond .ge 5, 3) := by decide +kernel
theorem dX12_draw_9 : decode cX12_draw 9 = .ok (.iconst (-1), 1) := by decide +kernel
theorem dX12_draw_10 : decode cX12_draw 10 = .ok (.ireturn, 1) := by decide +kernel
theorem dX12_draw_11 : decode cX12_draw 11 = .ok (.aload_n 0, 1) := by decide +kernel
theorem dX12_draw_12 : decode cX12_draw 12 = .ok (.iload_n 1, 1) := by decide +kernel
theorem dX12_draw_13 : decode cX12_draw 13 = .ok (.i2l, 1) := by decide +kernel
theorem dX12_draw_14 : decode cX12_draw 14 = .ok (.putfield 394, 3) := by decide +kernel
theorem dX12_draw_17 : decode cX12_draw 17 = .ok (.aload_n 0, 1) := by decide +kernel
theorem dX12_draw_18 : decode cX12_draw 18 = .ok (.invokevirtual 409, 3) := by decide +kernel
theorem dX12_draw_21 : decode cX12_draw 21 = .ok (.ifCond .ne 6, 3) := by decide +kernel
theorem dX12_draw_24 : decode cX12_draw 24 = .ok (.bipush (-2), 2) := by decide +kernel
theorem dX12_draw_26 : decode cX12_draw 26 = .ok (.ireturn, 1) := by decide +kernel
theorem dX12_draw_27 : decode cX12_draw 27 = .ok (.aload_n 0, 1) := by decide +kernel
theorem dX12_draw_28 : decode cX12_draw 28 = .ok (.invokevirtual 228, 3) := by decide +kernel
theorem dX12_draw_31 : decode cX12_draw 31 = .ok (.aload_n 0, 1) := by decide +kernel
theorem dX12_draw_32 : decode cX12_draw 32 = .ok (.getfield 188, 3) := by decide +kernel
theorem dX12_draw_35 : decode cX12_draw 35 = .ok (.ireturn, 1) := by decide +kernel
set_option maxHeartbeats 4000000 in
set_option maxRecDepth 100000 in
theorem jc_X12_draw {l : Launch} {D : xD} {ty : xTy} {h : xH} {v0 : Nat} {v1 : Int32} {r : Int32} {h9 : xH} (t_v0 : ty v0 = some (0, 12)) (hF : jf_X12_draw ty h v0 v1 = some (r, h9)) : Met l yX12_draw (xws yX12_draw cX12_draw 2 (some .int)) jr_X12_draw (xPc D ty h [.ref v0, .int v1]) (xQ D ty (some (.int r)) h9) 0 0 (xdom ty) := by
  refine x_met (by decide) ?_
  intro p e s m below meth c C0 hR
  generalize hargs : ([.ref v0, .int v1] : List Value).toArray = args at C0 ⊢
  have hx := C0.1
  have hb := C0.2.1
  have hown := C0.2.2.2.2.2.1
  have hts := C0.2.2.2.2.2.2.1
  have hS : xS ty s.heap s.heap [] := xS.rf
  have hl := lv_entry ([.ref v0, .int v1]) (n := 2) (Nat.le_of_ble_eq_true rfl)
  rw [← hargs, lg_entry_eq]
  rw [hargs]
  generalize (lg_sl ([.ref v0, .int v1]) ++ List.replicate (2 - (lg_sl ([.ref v0, .int v1])).length) Slot.unset).toArray = ls at hl ⊢
  have hl : lv_has ls 2 [(0, .ref v0), (1, .int v1)] := hl
  unfold jf_X12_draw at hF
  refine lv_aload_n hx hb dX12_draw_0 rfl (lv_at hl 0 rfl) ?_
  refine lv_iconst (v := 0) hx hb dX12_draw_1 (by decide) ?_
  obtain ⟨h1, e_h1, hF⟩ := xbd hF
  refine pf_X12_101 C0 hR hS t_v0 dX12_draw_2 (fun H locs hR hS => ?_)
  rw [Option.some.inj e_h1] at hR
  refine lv_iload_n hx hb dX12_draw_5 rfl (lv_at hl 1 rfl) ?_
  refine lv_if_ge (tgt := 11) hx hb dX12_draw_6 (by decide) (fun c2 => ?_) (fun c2 => ?_)
  · have hF := xif hF c2
    refine lv_aload_n hx hb dX12_draw_11 rfl (lv_at hl 0 rfl) ?_
    refine lv_iload_n hx hb dX12_draw_12 rfl (lv_at hl 1 rfl) ?_
    refine lv_i2l (v := Int32.toInt64 v1) hx hb dX12_draw_13 rfl ?_
    obtain ⟨h3, e_h3, hF⟩ := xbd hF
    refine pf_X12_394 C0 hR hS t_v0 dX12_draw_14 (fun H locs hR hS => ?_)
    rw [Option.some.inj e_h3] at hR
    refine lv_aload_n hx hb dX12_draw_17 rfl (lv_at hl 0 rfl) ?_
    obtain ⟨a5, h4, e_h4, hF⟩ := xbd2 hF
    refine cl_X12_409 C0 hR hS e_h4 t_v0 ⟨(Nat.le_of_ble_eq_true rfl), (Nat.le_of_ble_eq_true rfl)⟩ hl.1 (Nat.le_of_ble_eq_true rfl) ⟨(Nat.le_of_ble_eq_true rfl), (Nat.le_of_ble_eq_true rfl)⟩ dX12_draw_18 (fun H locs hR hS => ?_)
    refine lv_if_ne (tgt := 27) hx hb dX12_draw_21 (by decide) (fun c6 => ?_) (fun c6 => ?_)
    · have hF := xel hF c6
      refine lv_aload_n hx hb dX12_draw_27 rfl (lv_at hl 0 rfl) ?_
      obtain ⟨h7, e_h7, hF⟩ := xbd hF
      refine cl_X12_228 C0 hR hS e_h7 t_v0 ⟨(Nat.le_of_ble_eq_true rfl), (Nat.le_of_ble_eq_true rfl)⟩ hl.1 (Nat.le_of_ble_eq_true rfl) ⟨(Nat.le_of_ble_eq_true rfl), (Nat.le_of_ble_eq_true rfl)⟩ dX12_draw_28 (fun H locs hR hS => ?_)
      refine lv_aload_n hx hb dX12_draw_31 rfl (lv_at hl 0 rfl) ?_
      refine gf_X12_188 C0 hR t_v0 dX12_draw_32 ?_
      cases hF
      exact x_iret C0 hR hS dX12_draw_35
    · have hF := xif hF c6
      refine lv_bipush (v := (-2)) hx hb dX12_draw_24 (by decide) ?_
      cases hF
      exact x_iret C0 hR hS dX12_draw_26
  · have hF := xel hF c2
    refine lv_iconst (v := (-1)) hx hb dX12_draw_9 (by decide) ?_
    cases hF
    exact x_iret C0 hR hS dX12_draw_10
theorem xm_X12_draw : xMw yX12_draw cX12_draw 2 (some .int) 1 := ⟨xin 1892 (by decide +kernel) rfl, xin 126 (by decide +kernel) rfl, by decide +kernel⟩
theorem xi_X12_draw : Cond.instanceMethod yX12_draw ∈ xT := xin 1890 (by decide +kernel) rfl
theorem xe_X12_draw : Cond.selects yX12_draw.cls yX12_draw yX12_draw ∈ xT := xin 1891 (by decide +kernel) rfl
theorem dX12_tried_0 : decode cX12_tried 0 = .ok (.aload_n 0, 1) := by decide +kernel
theorem dX12_tried_1 : decode cX12_tried 1 = .ok (.iconst 0, 1) := by decide +kernel
theorem dX12_tried_2 : decode cX12_tried 2 = .ok (.putfield 101, 3) := by decide +kernel
theorem dX12_tried_5 : decode cX12_tried 5 = .ok (.iload_n 1, 1) := by decide +kernel
theorem dX12_tried_6 : decode cX12_tried 6 = .ok (.iconst 0, 1) := by decide +kernel
theorem dX12_tried_7 : decode cX12_tried 7 = .ok (.iconst 4, 1) := by decide +kernel
theorem dX12_tried_8 : decode cX12_tried 8 = .ok (.invokestatic 146, 3) := by decide +kernel
theorem dX12_tried_11 : decode cX12_tried 11 = .ok (.ifCond .eq 32, 3) := by decide +kernel
theorem dX12_tried_14 : decode cX12_tried 14 = .ok (.iload_n 2, 1) := by decide +kernel
theorem dX12_tried_15 : decode cX12_tried 15 = .ok (.iconst 0, 1) := by decide +kernel
theorem dX12_tried_16 : decode cX12_tried 16 = .ok (.iconst 2, 1) := by decide +kernel
theorem dX12_tried_17 : decode cX12_tried 17 = .ok (.invokestatic 146, 3) := by decide +kernel
theorem dX12_tried_20 : decode cX12_tried 20 = .ok (.ifCond .eq 23, 3) := by decide +kernel
theorem dX12_tried_23 : decode cX12_tried 23 = .ok (.iload_n 1, 1) := by decide +kernel
theorem dX12_tried_24 : decode cX12_tried 24 = .ok (.iconst 2, 1) := by decide +kernel
theorem dX12_tried_25 : decode cX12_tried 25 = .ok (.if_icmp .ne 14, 3) := by decide +kernel
theorem dX12_tried_28 : decode cX12_tried 28 = .ok (.aload_n 0, 1) := by decide +kernel
theorem dX12_tried_29 : decode cX12_tried 29 = .ok (.iload_n 3, 1) := by decide +kernel
theorem dX12_tried_30 : decode cX12_tried 30 = .ok (.invokevirtual 282, 3) := by decide +kernel
theorem dX12_tried_33 : decode cX12_tried 33 = .ok (.ifCond .ne 12, 3) := by decide +kernel
theorem dX12_tried_36 : decode cX12_tried 36 = .ok (.goto 7, 3) := by decide +kernel
theorem dX12_tried_39 : decode cX12_tried 39 = .ok (.iload_n 3, 1) := by decide +kernel
theorem dX12_tried_40 : decode cX12_tried 40 = .ok (.ifCond .eq 5, 3) := by decide +kernel
theorem dX12_tried_43 : decode cX12_tried 43 = .ok (.iconst (-1), 1) := by decide +kernel
theorem dX12_tried_44 : decode cX12_tried 44 = .ok (.ireturn, 1) := by decide +kernel
theorem dX12_tried_45 : decode cX12_tried 45 = .ok (.aload_n 0, 1) := by decide +kernel
theorem dX12_tried_46 : decode cX12_tried 46 = .ok (.getfield 188, 3) := by decide +kernel
theorem dX12_tried_49 : decode cX12_tried 49 = .ok (.ifCond .ne 6, 3) := by decide +kernel
theorem dX12_tried_52 : decode cX12_tried 52 = .ok (.bipush (-2), 2) := by decide +kernel
theorem dX12_tried_54 : decode cX12_tried 54 = .ok (.ireturn, 1) := by decide +kernel
theorem dX12_tried_55 : decode cX12_tried 55 = .ok (.aload_n 0, 1) := by decide +kernel
theorem dX12_tried_56 : decode cX12_tried 56 = .ok (.iload_n 1, 1) := by decide +kernel
theorem dX12_tried_57 : decode cX12_tried 57 = .ok (.ifCond .ne 7, 3) := by decide +kernel
theorem dX12_tried_60 : decode cX12_tried 60 = .ok (.iconst 1, 1) := by decide +kernel
theorem dX12_tried_61 : decode cX12_tried 61 = .ok (.goto 22, 3) := by decide +kernel
theorem dX12_tried_64 : decode cX12_tried 64 = .ok (.iload_n 1, 1) := by decide +kernel
theorem dX12_tried_65 : decode cX12_tried 65 = .ok (.iconst 1, 1) := by decide +kernel
theorem dX12_tried_66 : decode cX12_tried 66 = .ok (.if_icmp .ne 7, 3) := by decide +kernel
theorem dX12_tried_69 : decode cX12_tried 69 = .ok (.iconst 2, 1) := by decide +kernel
theorem dX12_tried_70 : decode cX12_tried 70 = .ok (.goto 13, 3) := by decide +kernel
theorem dX12_tried_73 : decode cX12_tried 73 = .ok (.iload_n 1, 1) := by decide +kernel
theorem dX12_tried_74 : decode cX12_tried 74 = .ok (.iconst 4, 1) := by decide +kernel
theorem dX12_tried_75 : decode cX12_tried 75 = .ok (.if_icmp .ne 7, 3) := by decide +kernel
theorem dX12_tried_78 : decode cX12_tried 78 = .ok (.iconst 3, 1) := by decide +kernel
theorem dX12_tried_79 : decode cX12_tried 79 = .ok (.goto 4, 3) := by decide +kernel
theorem dX12_tried_82 : decode cX12_tried 82 = .ok (.iconst 0, 1) := by decide +kernel
theorem dX12_tried_83 : decode cX12_tried 83 = .ok (.putfield 260, 3) := by decide +kernel
theorem dX12_tried_86 : decode cX12_tried 86 = .ok (.iconst 0, 1) := by decide +kernel
theorem dX12_tried_87 : decode cX12_tried 87 = .ok (.istore 4, 2) := by decide +kernel
theorem dX12_tried_89 : decode cX12_tried 89 = .ok (.iconst 0, 1) := by decide +kernel
theorem dX12_tried_90 : decode cX12_tried 90 = .ok (.istore 5, 2) := by decide +kernel
theorem dX12_tried_92 : decode cX12_tried 92 = .ok (.iload 5, 2) := by decide +kernel
theorem dX12_tried_94 : decode cX12_tried 94 = .ok (.aload_n 0, 1) := by decide +kernel
theorem dX12_tried_95 : decode cX12_tried 95 = .ok (.getfield 178, 3) := by decide +kernel
theorem dX12_tried_98 : decode cX12_tried 98 = .ok (.if_icmp .ge 66, 3) := by decide +kernel
theorem dX12_tried_101 : decode cX12_tried 101 = .ok (.iload_n 1, 1) := by decide +kernel
theorem dX12_tried_102 : decode cX12_tried 102 = .ok (.iconst 3, 1) := by decide +kernel
theorem dX12_tried_103 : decode cX12_tried 103 = .ok (.if_icmp .eq 23, 3) := by decide +kernel
theorem dX12_tried_106 : decode cX12_tried 106 = .ok (.aload_n 0, 1) := by decide +kernel
theorem dX12_tried_107 : decode cX12_tried 107 = .ok (.iload 5, 2) := by decide +kernel
theorem dX12_tried_109 : decode cX12_tried 109 = .ok (.invokevirtual 285, 3) := by decide +kernel
theorem dX12_tried_112 : decode cX12_tried 112 = .ok (.ifCond .eq 18, 3) := by decide +kernel
theorem dX12_tried_115 : decode cX12_tried 115 = .ok (.iload_n 1, 1) := by decide +kernel
theorem dX12_tried_116 : decode cX12_tried 116 = .ok (.iconst 2, 1) := by decide +kernel
theorem dX12_tried_117 : decode cX12_tried 117 = .ok (.if_icmp .ne 9, 3) := by decide +kernel
theorem dX12_tried_120 : decode cX12_tried 120 = .ok (.iload 5, 2) := by decide +kernel
theorem dX12_tried_122 : decode cX12_tried 122 = .ok (.iload_n 3, 1) := by decide +kernel
theorem dX12_tried_123 : decode cX12_tried 123 = .ok (.if_icmp .eq 7, 3) := by decide +kernel
theorem dX12_tried_126 : decode cX12_tried 126 = .ok (.iconst 1, 1) := by decide +kernel
theorem dX12_tried_127 : decode cX12_tried 127 = .ok (.goto 4, 3) := by decide +kernel
theorem dX12_tried_130 : decode cX12_tried 130 = .ok (.iconst 0, 1) := by decide +kernel
theorem dX12_tried_131 : decode cX12_tried 131 = .ok (.istore 6, 2) := by decide +kernel
theorem dX12_tried_133 : decode cX12_tried 133 = .ok (.iload 4, 2) := by decide +kernel
theorem dX12_tried_135 : decode cX12_tried 135 = .ok (.iload 6, 2) := by decide +kernel
theorem dX12_tried_137 : decode cX12_tried 137 = .ok (.ifCond .eq 17, 3) := by decide +kernel
theorem dX12_tried_140 : decode cX12_tried 140 = .ok (.aload_n 0, 1) := by decide +kernel
theorem dX12_tried_141 : decode cX12_tried 141 = .ok (.iload_n 2, 1) := by decide +kernel
theorem dX12_tried_142 : decode cX12_tried 142 = .ok (.iload 5, 2) := by decide +kernel
theorem dX12_tried_144 : decode cX12_tried 144 = .ok (.invokevirtual 288, 3) := by decide +kernel
theorem dX12_tried_147 : decode cX12_tried 147 = .ok (.ifCond .eq 7, 3) := by decide +kernel
theorem dX12_tried_150 : decode cX12_tried 150 = .ok (.iconst 1, 1) := by decide +kernel
theorem dX12_tried_151 : decode cX12_tried 151 = .ok (.goto 4, 3) := by decide +kernel
theorem dX12_tried_154 : decode cX12_tried 154 = .ok (.iconst 0, 1) := by decide +kernel
theorem dX12_tried_155 : decode cX12_tried 155 = .ok (.iadd, 1) := by decide +kernel
theorem dX12_tried_156 : decode cX12_tried 156 = .ok (.istore 4, 2) := by decide +kernel
theorem dX12_tried_158 : decode cX12_tried 158 = .ok (.iinc 5 1, 3) := by decide +kernel
theorem dX12_tried_161 : decode cX12_tried 161 = .ok (.goto (-69), 3) := by decide +kernel
theorem dX12_tried_164 : decode cX12_tried 164 = .ok (.aload_n 0, 1) := by decide +kernel
theorem dX12_tried_165 : decode cX12_tried 165 = .ok (.iconst 0, 1) := by decide +kernel
theorem dX12_tried_166 : decode cX12_tried 166 = .ok (.putfield 260, 3) := by decide +kernel
theorem dX12_tried_169 : decode cX12_tried 169 = .ok (.iload 4, 2) := by decide +kernel
theorem dX12_tried_171 : decode cX12_tried 171 = .ok (.ireturn, 1) := by decide +kernel
section XN_X12_tried
variable {p : Program} {l : Launch} {e : Env} {R : Room} {s : State} {m : MethodId} {args : Array Value} {below : List Frame} {meth : Method} {c : Code} {H H0 : Heap} {locs : List Loc} {cells slots : Nat} {Q : State → Prop} {cc : ByteArray} {nL pc : Nat} {rt : Option FieldType} {ls : Array Slot} {rest : List Value} {D : xD} {ty : xTy} {h : xH}
theorem pf_X12_260 {a : Nat} {v : Int32} (C0 : xC D RX12 cc nL rt p s m args meth c) (hR : xRep D ty h H) (hS : xS ty H0 H locs) (ht : ty a = some (0, 12)) (hdg : decode cc pc = .ok (.putfield 260, 3)) (kk : ∀ (H1 : Heap) (locs1 : List Loc), xRep D ty (xsI h a 41 v) H1 → xS ty H0 H1 locs1 → W p l e R s m args below meth c H1 locs1 cells slots Q (F0 m (pc + 3) ls rest)) : W p l e R s m args below meth c H locs cells slots Q (F0 m pc ls (.int v :: .ref a :: rest)) := x_puti C0 hR hS (ci := 12) (k := 41) (N := 60) (T := TX12) rfl iX12 tyX12_ok nmX12 (by decide) rfl rfl wf_X12_260 (Or.inl rfl) rfl rfl ht hdg kk
end XN_X12_tried
set_option maxHeartbeats 4000000 in
set_option maxRecDepth 100000 in
theorem jw_X12_tried_131 {p : Program} {l : Launch} {e : Env} {s : State} {m : MethodId} {args : Array Value} {below : List Frame} {meth : Method} {c : Code} {D : xD} {ty : xTy} {k92 : Nat → Int32 → Int32 → Int32 → Int32 → Int32 → xH → Option (Int32 × xH)} (C0 : xC D RX12 cX12_tried 7 (some .int) p s m args meth c) {r : Int32} {h9 : xH} (hk92 : ∀ (v0 : Nat) (v1 : Int32) (v2 : Int32) (v3 : Int32) (v4 : Int32) (v5 : Int32) (h : xH), ty v0 = some (0, 12) → k92 v0 v1 v2 v3 v4 v5 h = some (r, h9) → ∀ (H : Heap) (locs : List Loc), xRep D ty h H → xS ty s.heap H locs → ∀ ls : Array Slot, lv_has ls 7 [(0, .ref v0), (1, .int v1), (2, .int v2), (3, .int v3), (4, .int v4), (5, .int v5)] → W p l e jr_X12_tried s m args below meth c H locs 0 0 (MQ below (xQ D ty (some (.int r)) h9) args s 0 0 (xdom ty)) (F0 m 92 ls [])) : ∀ (v0 : Nat) (v1 : Int32) (v2 : Int32) (v3 : Int32) (v4 : Int32) (v5 : Int32) (s0 : Int32) (h : xH), ty v0 = some (0, 12) → jf_X12_tried_131 ty k92 v0 v1 v2 v3 v4 v5 s0 h = some (r, h9) → ∀ (H : Heap) (locs : List Loc), xRep D ty h H → xS ty s.heap H locs → ∀ ls : Array Slot, lv_has ls 7 [(0, .ref v0), (1, .int v1), (2, .int v2), (3, .int v3), (4, .int v4), (5, .int v5)] → W p l e jr_X12_tried s m args below meth c H locs 0 0 (MQ below (xQ D ty (some (.int r)) h9) args s 0 0 (xdom ty)) (F0 m 131 ls [.int s0]) := by
  have hx := C0.1
  have hb := C0.2.1
  have hown := C0.2.2.2.2.2.1
  have hts := C0.2.2.2.2.2.2.1
  intro v0 v1 v2 v3 v4 v5 s0 h t_v0 hF H locs hR hS ls hl
  unfold jf_X12_tried_131 at hF
  refine lv_istore (lv' := [(6, .int s0), (0, .ref v0), (1, .int v1), (2, .int v2), (3, .int v3), (4, .int v4), (5, .int v5)]) hx hb dX12_tried_131 hl (by decide) rfl (fun ls hl => ?_)
  refine lv_iload hx hb dX12_tried_133 (lv_at hl 5 rfl) ?_
  refine lv_iload hx hb dX12_tried_135 (lv_at hl 0 rfl) ?_
  refine lv_if_eq (tgt := 154) hx hb dX12_tried_137 (by decide) (fun c1 => ?_) (fun c1 => ?_)
  · have hF := xif hF c1
    refine lv_iconst (v := 0) hx hb dX12_tried_154 (by decide) ?_
    refine lv_iadd hx hb dX12_tried_155 ?_
    refine lv_istore (lv' := [(4, .int (v4 + 0)), (6, .int s0), (0, .ref v0), (1, .int v1), (2, .int v2), (3, .int v3), (5, .int v5)]) hx hb dX12_tried_156 hl (by decide) rfl (fun ls hl => ?_)
    refine lv_iinc (v := v5 + 1) (lv' := [(5, .int (v5 + 1)), (4, .int (v4 + 0)), (6, .int s0), (0, .ref v0), (1, .int v1), (2, .int v2), (3, .int v3)]) hx hb dX12_tried_158 hl (k := 6) rfl rfl (by decide) rfl (fun ls hl => ?_)
    refine lv_goto (tgt := 92) hx hb dX12_tried_161 (by decide) ?_
    exact hk92 _ _ _ _ _ _ _ t_v0 hF _ _ hR hS _ (lv_sub hl [3, 4, 5, 6, 1, 0] rfl)
  · have hF := xel hF c1
    refine lv_aload_n hx hb dX12_tried_140 rfl (lv_at hl 1 rfl) ?_
    refine lv_iload_n hx hb dX12_tried_141 rfl (lv_at hl 3 rfl) ?_
    refine lv_iload hx hb dX12_tried_142 (lv_at hl 6 rfl) ?_
    obtain ⟨a3, h2, e_h2, hF⟩ := xbd2 hF
    refine cl_X12_288 C0 hR hS e_h2 t_v0 ⟨(Nat.le_of_ble_eq_true rfl), (Nat.le_of_ble_eq_true rfl)⟩ hl.1 (Nat.le_of_ble_eq_true rfl) ⟨(Nat.le_of_ble_eq_true rfl), (Nat.le_of_ble_eq_true rfl)⟩ dX12_tried_144 (fun H locs hR hS => ?_)
    refine lv_if_eq (tgt := 154) hx hb dX12_tried_147 (by decide) (fun c4 => ?_) (fun c4 => ?_)
    · have hF := xif hF c4
      refine lv_iconst (v := 0) hx hb dX12_tried_154 (by decide) ?_
      refine lv_iadd hx hb dX12_tried_155 ?_
      refine lv_istore (lv' := [(4, .int (v4 + 0)), (6, .int s0), (0, .ref v0), (1, .int v1), (2, .int v2), (3, .int v3), (5, .int v5)]) hx hb dX12_tried_156 hl (by decide) rfl (fun ls hl => ?_)
      refine lv_iinc (v := v5 + 1) (lv' := [(5, .int (v5 + 1)), (4, .int (v4 + 0)), (6, .int s0), (0, .ref v0), (1, .int v1), (2, .int v2), (3, .int v3)]) hx hb dX12_tried_158 hl (k := 6) rfl rfl (by decide) rfl (fun ls hl => ?_)
      refine lv_goto (tgt := 92) hx hb dX12_tried_161 (by decide) ?_
      exact hk92 _ _ _ _ _ _ _ t_v0 hF _ _ hR hS _ (lv_sub hl [3, 4, 5, 6, 1, 0] rfl)
    · have hF := xel hF c4
      refine lv_iconst (v := 1) hx hb dX12_tried_150 (by decide) ?_
      refine lv_goto (tgt := 155) hx hb dX12_tried_151 (by decide) ?_
      refine lv_iadd hx hb dX12_tried_155 ?_
      refine lv_istore (lv' := [(4, .int (v4 + 1)), (6, .int s0), (0, .ref v0), (1, .int v1), (2, .int v2), (3, .int v3), (5, .int v5)]) hx hb dX12_tried_156 hl (by decide) rfl (fun ls hl => ?_)
      refine lv_iinc (v := v5 + 1) (lv' := [(5, .int (v5 + 1)), (4, .int (v4 + 1)), (6, .int s0), (0, .ref v0), (1, .int v1), (2, .int v2), (3, .int v3)]) hx hb dX12_tried_158 hl (k := 6) rfl rfl (by decide) rfl (fun ls hl => ?_)
      refine lv_goto (tgt := 92) hx hb dX12_tried_161 (by decide) ?_
      exact hk92 _ _ _ _ _ _ _ t_v0 hF _ _ hR hS _ (lv_sub hl [3, 4, 5, 6, 1, 0] rfl)
set_option maxHeartbeats 4000000 in
set_option maxRecDepth 100000 in
theorem jw_X12_tried_92 {p : Program} {l : Launch} {e : Env} {s : State} {m : MethodId} {args : Array Value} {below : List Frame} {meth : Method} {c : Code} {D : xD} {ty : xTy} (C0 : xC D RX12 cX12_tried 7 (some .int) p s m args meth c) {r : Int32} {h9 : xH} : ∀ n : Nat, ∀ (v0 : Nat) (v1 : Int32) (v2 : Int32) (v3 : Int32) (v4 : Int32) (v5 : Int32) (h : xH), ty v0 = some (0, 12) → jf_X12_tried_92 ty n v0 v1 v2 v3 v4 v5 h = some (r, h9) → ∀ (H : Heap) (locs : List Loc), xRep D ty h H → xS ty s.heap H locs → ∀ ls : Array Slot, lv_has ls 7 [(0, .ref v0), (1, .int v1), (2, .int v2), (3, .int v3), (4, .int v4), (5, .int v5)] → W p l e jr_X12_tried s m args below meth c H locs 0 0 (MQ below (xQ D ty (some (.int r)) h9) args s 0 0 (xdom ty)) (F0 m 92 ls []) := by
  have hx := C0.1
  have hb := C0.2.1
  have hown := C0.2.2.2.2.2.1
  have hts := C0.2.2.2.2.2.2.1
  intro n
  induction n with
  | zero =>
    intro v0 v1 v2 v3 v4 v5 h t_v0 hF H locs hR hS ls hl
    cases hF
  | succ n ih =>
    intro v0 v1 v2 v3 v4 v5 h t_v0 hF H locs hR hS ls hl
    rw [jf_X12_tried_92_s] at hF
    refine lv_iload hx hb dX12_tried_92 (lv_at hl 5 rfl) ?_
    refine lv_aload_n hx hb dX12_tried_94 rfl (lv_at hl 0 rfl) ?_
    refine gf_X12_178 C0 hR t_v0 dX12_tried_95 ?_
    refine lv_icmp_ge (tgt := 164) hx hb dX12_tried_98 (by decide) (fun c5 => ?_) (fun c5 => ?_)
    · have hF := xif hF c5
      refine lv_aload_n hx hb dX12_tried_164 rfl (lv_at hl 0 rfl) ?_
      refine lv_iconst (v := 0) hx hb dX12_tried_165 (by decide) ?_
      obtain ⟨h6, e_h6, hF⟩ := xbd hF
      refine pf_X12_260 C0 hR hS t_v0 dX12_tried_166 (fun H locs hR hS => ?_)
      rw [Option.some.inj e_h6] at hR
      refine lv_iload hx hb dX12_tried_169 (lv_at hl 4 rfl) ?_
      cases hF
      exact x_iret C0 hR hS dX12_tried_171
    · have hF := xel hF c5
      refine lv_iload_n hx hb dX12_tried_101 rfl (lv_at hl 1 rfl) ?_
      refine lv_iconst (v := 3) hx hb dX12_tried_102 (by decide) ?_
      refine lv_icmp_eq (tgt := 126) hx hb dX12_tried_103 (by decide) (fun c7 => ?_) (fun c7 => ?_)
      · have hF := xif hF c7
        refine lv_iconst (v := 1) hx hb dX12_tried_126 (by decide) ?_
        refine lv_goto (tgt := 131) hx hb dX12_tried_127 (by decide) ?_
        exact jw_X12_tried_131 C0 ih _ _ _ _ _ _ _ _ t_v0 hF _ _ hR hS _ (lv_sub hl [0, 1, 2, 3, 4, 5] rfl)
      · have hF := xel hF c7
        refine lv_aload_n hx hb dX12_tried_106 rfl (lv_at hl 0 rfl) ?_
        refine lv_iload hx hb dX12_tried_107 (lv_at hl 5 rfl) ?_
        obtain ⟨a8, e_a8, hF⟩ := xbd hF
        refine cl_X12_285 C0 hR hS e_a8 t_v0 ⟨(Nat.le_of_ble_eq_true rfl), (Nat.le_of_ble_eq_true rfl)⟩ hl.1 (Nat.le_of_ble_eq_true rfl) ⟨(Nat.le_of_ble_eq_true rfl), (Nat.le_of_ble_eq_true rfl)⟩ dX12_tried_109 (fun H locs hR hS => ?_)
        refine lv_if_eq (tgt := 130) hx hb dX12_tried_112 (by decide) (fun c9 => ?_) (fun c9 => ?_)
        · have hF := xif hF c9
          refine lv_iconst (v := 0) hx hb dX12_tried_130 (by decide) ?_
          exact jw_X12_tried_131 C0 ih _ _ _ _ _ _ _ _ t_v0 hF _ _ hR hS _ (lv_sub hl [0, 1, 2, 3, 4, 5] rfl)
        · have hF := xel hF c9
          refine lv_iload_n hx hb dX12_tried_115 rfl (lv_at hl 1 rfl) ?_
          refine lv_iconst (v := 2) hx hb dX12_tried_116 (by decide) ?_
          refine lv_icmp_ne (tgt := 126) hx hb dX12_tried_117 (by decide) (fun c10 => ?_) (fun c10 => ?_)
          · have hF := xel hF c10
            refine lv_iconst (v := 1) hx hb dX12_tried_126 (by decide) ?_
            refine lv_goto (tgt := 131) hx hb dX12_tried_127 (by decide) ?_
            exact jw_X12_tried_131 C0 ih _ _ _ _ _ _ _ _ t_v0 hF _ _ hR hS _ (lv_sub hl [0, 1, 2, 3, 4, 5] rfl)
          · have hF := xif hF c10
            refine lv_iload hx hb dX12_tried_120 (lv_at hl 5 rfl) ?_
            refine lv_iload_n hx hb dX12_tried_122 rfl (lv_at hl 3 rfl) ?_
            refine lv_icmp_eq (tgt := 130) hx hb dX12_tried_123 (by decide) (fun c11 => ?_) (fun c11 => ?_)
            · have hF := xif hF c11
              refine lv_iconst (v := 0) hx hb dX12_tried_130 (by decide) ?_
              exact jw_X12_tried_131 C0 ih _ _ _ _ _ _ _ _ t_v0 hF _ _ hR hS _ (lv_sub hl [0, 1, 2, 3, 4, 5] rfl)
            · have hF := xel hF c11
              refine lv_iconst (v := 1) hx hb dX12_tried_126 (by decide) ?_
              refine lv_goto (tgt := 131) hx hb dX12_tried_127 (by decide) ?_
              exact jw_X12_tried_131 C0 ih _ _ _ _ _ _ _ _ t_v0 hF _ _ hR hS _ (lv_sub hl [0, 1, 2, 3, 4, 5] rfl)
set_option maxHeartbeats 4000000 in
set_option maxRecDepth 100000 in
theorem jw_X12_tried_83 {p : Program} {l : Launch} {e : Env} {s : State} {m : MethodId} {args : Array Value} {below : List Frame} {meth : Method} {c : Code} {D : xD} {ty : xTy} (C0 : xC D RX12 cX12_tried 7 (some .int) p s m args meth c) {r : Int32} {h9 : xH} : ∀ (v0 : Nat) (v1 : Int32) (v2 : Int32) (v3 : Int32) (s0 : Nat) (s1 : Int32) (h : xH), ty v0 = some (0, 12) → ty s0 = some (0, 12) → jf_X12_tried_83 ty v0 v1 v2 v3 s0 s1 h = some (r, h9) → ∀ (H : Heap) (locs : List Loc), xRep D ty h H → xS ty s.heap H locs → ∀ ls : Array Slot, lv_has ls 7 [(0, .ref v0), (1, .int v1), (2, .int v2), (3, .int v3)] → W p l e jr_X12_tried s m args below meth c H locs 0 0 (MQ below (xQ D ty (some (.int r)) h9) args s 0 0 (xdom ty)) (F0 m 83 ls [.int s1, .ref s0]) := by
  have hx := C0.1
  have hb := C0.2.1
  have hown := C0.2.2.2.2.2.1
  have hts := C0.2.2.2.2.2.2.1
  intro v0 v1 v2 v3 s0 s1 h t_v0 t_s0 hF H locs hR hS ls hl
  unfold jf_X12_tried_83 at hF
  obtain ⟨h12, e_h12, hF⟩ := xbd hF
  refine pf_X12_260 C0 hR hS t_s0 dX12_tried_83 (fun H locs hR hS => ?_)
  rw [Option.some.inj e_h12] at hR
  refine lv_iconst (v := 0) hx hb dX12_tried_86 (by decide) ?_
  refine lv_istore (lv' := [(4, .int 0), (0, .ref v0), (1, .int v1), (2, .int v2), (3, .int v3)]) hx hb dX12_tried_87 hl (by decide) rfl (fun ls hl => ?_)
  refine lv_iconst (v := 0) hx hb dX12_tried_89 (by decide) ?_
  refine lv_istore (lv' := [(5, .int 0), (4, .int 0), (0, .ref v0), (1, .int v1), (2, .int v2), (3, .int v3)]) hx hb dX12_tried_90 hl (by decide) rfl (fun ls hl => ?_)
  obtain ⟨_, hF⟩ := xlim_sp hF
  exact jw_X12_tried_92 C0 _ _ _ _ _ _ _ _ t_v0 hF _ _ hR hS _ (lv_sub hl [2, 3, 4, 5, 1, 0] rfl)
set_option maxHeartbeats 4000000 in
set_option maxRecDepth 100000 in
theorem jw_X12_tried_45 {p : Program} {l : Launch} {e : Env} {s : State} {m : MethodId} {args : Array Value} {below : List Frame} {meth : Method} {c : Code} {D : xD} {ty : xTy} (C0 : xC D RX12 cX12_tried 7 (some .int) p s m args meth c) {r : Int32} {h9 : xH} : ∀ (v0 : Nat) (v1 : Int32) (v2 : Int32) (v3 : Int32) (h : xH), ty v0 = some (0, 12) → jf_X12_tried_45 ty v0 v1 v2 v3 h = some (r, h9) → ∀ (H : Heap) (locs : List Loc), xRep D ty h H → xS ty s.heap H locs → ∀ ls : Array Slot, lv_has ls 7 [(0, .ref v0), (1, .int v1), (2, .int v2), (3, .int v3)] → W p l e jr_X12_tried s m args below meth c H locs 0 0 (MQ below (xQ D ty (some (.int r)) h9) args s 0 0 (xdom ty)) (F0 m 45 ls []) := by
  have hx := C0.1
  have hb := C0.2.1
  have hown := C0.2.2.2.2.2.1
  have hts := C0.2.2.2.2.2.2.1
  intro v0 v1 v2 v3 h t_v0 hF H locs hR hS ls hl
  unfold jf_X12_tried_45 at hF
  refine lv_aload_n hx hb dX12_tried_45 rfl (lv_at hl 0 rfl) ?_
  refine gf_X12_188 C0 hR t_v0 dX12_tried_46 ?_
  refine lv_if_ne (tgt := 55) hx hb dX12_tried_49 (by decide) (fun c13 => ?_) (fun c13 => ?_)
  · have hF := xel hF c13
    refine lv_aload_n hx hb dX12_tried_55 rfl (lv_at hl 0 rfl) ?_
    refine lv_iload_n hx hb dX12_tried_56 rfl (lv_at hl 1 rfl) ?_
    refine lv_if_ne (tgt := 64) hx hb dX12_tried_57 (by decide) (fun c14 => ?_) (fun c14 => ?_)
    · have hF := xel hF c14
      refine lv_iload_n hx hb dX12_tried_64 rfl (lv_at hl 1 rfl) ?_
      refine lv_iconst (v := 1) hx hb dX12_tried_65 (by decide) ?_
      refine lv_icmp_ne (tgt := 73) hx hb dX12_tried_66 (by decide) (fun c15 => ?_) (fun c15 => ?_)
      · have hF := xel hF c15
        refine lv_iload_n hx hb dX12_tried_73 rfl (lv_at hl 1 rfl) ?_
        refine lv_iconst (v := 4) hx hb dX12_tried_74 (by decide) ?_
        refine lv_icmp_ne (tgt := 82) hx hb dX12_tried_75 (by decide) (fun c16 => ?_) (fun c16 => ?_)
        · have hF := xel hF c16
          refine lv_iconst (v := 0) hx hb dX12_tried_82 (by decide) ?_
          exact jw_X12_tried_83 C0 _ _ _ _ _ _ _ t_v0 t_v0 hF _ _ hR hS _ (lv_sub hl [0, 1, 2, 3] rfl)
        · have hF := xif hF c16
          refine lv_iconst (v := 3) hx hb dX12_tried_78 (by decide) ?_
          refine lv_goto (tgt := 83) hx hb dX12_tried_79 (by decide) ?_
          exact jw_X12_tried_83 C0 _ _ _ _ _ _ _ t_v0 t_v0 hF _ _ hR hS _ (lv_sub hl [0, 1, 2, 3] rfl)
      · have hF := xif hF c15
        refine lv_iconst (v := 2) hx hb dX12_tried_69 (by decide) ?_
        refine lv_goto (tgt := 83) hx hb dX12_tried_70 (by decide) ?_
        exact jw_X12_tried_83 C0 _ _ _ _ _ _ _ t_v0 t_v0 hF _ _ hR hS _ (lv_sub hl [0, 1, 2, 3] rfl)
    · have hF := xif hF c14
      refine lv_iconst (v := 1) hx hb dX12_tried_60 (by decide) ?_
      refine lv_goto (tgt := 83) hx hb dX12_tried_61 (by decide) ?_
      exact jw_X12_tried_83 C0 _ _ _ _ _ _ _ t_v0 t_v0 hF _ _ hR hS _ (lv_sub hl [0, 1, 2, 3] rfl)
  · have hF := xif hF c13
    refine lv_bipush (v := (-2)) hx hb dX12_tried_52 (by decide) ?_
    cases hF
    exact x_iret C0 hR hS dX12_tried_54
set_option maxHeartbeats 4000000 in
set_option maxRecDepth 100000 in
theorem jc_X12_tried {l : Launch} {D : xD} {ty : xTy} {h : xH} {v0 : Nat} {v1 : Int32} {v2 : Int32} {v3 : Int32} {r : Int32} {h9 : xH} (t_v0 : ty v0 = some (0, 12)) (hF : jf_X12_tried ty h v0 v1 v2 v3 = some (r, h9)) : Met l yX12_tried (xws yX12_tried cX12_tried 7 (some .int)) jr_X12_tried (xPc D ty h [.ref v0, .int v1, .int v2, .int v3]) (xQ D ty (some (.int r)) h9) 0 0 (xdom ty) := by
  refine x_met (by decide) ?_
  intro p e s m below meth c C0 hR
  generalize hargs : ([.ref v0, .int v1, .int v2, .int v3] : List Value).toArray = args at C0 ⊢
  have hx := C0.1
  have hb := C0.2.1
  have hown := C0.2.2.2.2.2.1
  have hts := C0.2.2.2.2.2.2.1
  have hS : xS ty s.heap s.heap [] := xS.rf
  have hl := lv_entry ([.ref v0, .int v1, .int v2, .int v3]) (n := 7) (Nat.le_of_ble_eq_true rfl)
  rw [← hargs, lg_entry_eq]
  rw [hargs]
  generalize (lg_sl ([.ref v0, .int v1, .int v2, .int v3]) ++ List.replicate (7 - (lg_sl ([.ref v0, .int v1, .int v2, .int v3])).length) Slot.unset).toArray = ls at hl ⊢
  have hl : lv_has ls 7 [(0, .ref v0), (1, .int v1), (2, .int v2), (3, .int v3)] := hl
  unfold jf_X12_tried at hF
  refine lv_aload_n hx hb dX12_tried_0 rfl (lv_at hl 0 rfl) ?_
  refine lv_iconst (v := 0) hx hb dX12_tried_1 (by decide) ?_
  obtain ⟨h17, e_h17, hF⟩ := xbd hF
  refine pf_X12_101 C0 hR hS t_v0 dX12_tried_2 (fun H locs hR hS => ?_)
  rw [Option.some.inj e_h17] at hR
  refine lv_iload_n hx hb dX12_tried_5 rfl (lv_at hl 1 rfl) ?_
  refine lv_iconst (v := 0) hx hb dX12_tried_6 (by decide) ?_
  refine lv_iconst (v := 4) hx hb dX12_tried_7 (by decide) ?_
  obtain ⟨a18, e_a18, hF⟩ := xbd hF
  refine cl_X12_146 C0 hR hS e_a18  ⟨(Nat.le_of_ble_eq_true rfl), (Nat.le_of_ble_eq_true rfl)⟩ hl.1 (Nat.le_of_ble_eq_true rfl) ⟨(Nat.le_of_ble_eq_true rfl), (Nat.le_of_ble_eq_true rfl)⟩ dX12_tried_8 (fun H locs hR hS => ?_)
  refine lv_if_eq (tgt := 43) hx hb dX12_tried_11 (by decide) (fun c19 => ?_) (fun c19 => ?_)
  · have hF := xif hF c19
    refine lv_iconst (v := (-1)) hx hb dX12_tried_43 (by decide) ?_
    cases hF
    exact x_iret C0 hR hS dX12_tried_44
  · have hF := xel hF c19
    refine lv_iload_n hx hb dX12_tried_14 rfl (lv_at hl 2 rfl) ?_
    refine lv_iconst (v := 0) hx hb dX12_tried_15 (by decide) ?_
    refine lv_iconst (v := 2) hx hb dX12_tried_16 (by decide) ?_
    obtain ⟨a20, e_a20, hF⟩ := xbd hF
    refine cl_X12_146 C0 hR hS e_a20  ⟨(Nat.le_of_ble_eq_true rfl), (Nat.le_of_ble_eq_true rfl)⟩ hl.1 (Nat.le_of_ble_eq_true rfl) ⟨(Nat.le_of_ble_eq_true rfl), (Nat.le_of_ble_eq_true rfl)⟩ dX12_tried_17 (fun H locs hR hS => ?_)
    refine lv_if_eq (tgt := 43) hx hb dX12_tried_20 (by decide) (fun c21 => ?_) (fun c21 => ?_)
    · have hF := xif hF c21
      refine lv_iconst (v := (-1)) hx hb dX12_tried_43 (by decide) ?_
      cases hF
      exact x_iret C0 hR hS dX12_tried_44
    · have hF := xel hF c21
      refine lv_iload_n hx hb dX12_tried_23 rfl (lv_at hl 1 rfl) ?_
      refine lv_iconst (v := 2) hx hb dX12_tried_24 (by decide) ?_
      refine lv_icmp_ne (tgt := 39) hx hb dX12_tried_25 (by decide) (fun c22 => ?_) (fun c22 => ?_)
      · have hF := xel hF c22
        refine lv_iload_n hx hb dX12_tried_39 rfl (lv_at hl 3 rfl) ?_
        refine lv_if_eq (tgt := 45) hx hb dX12_tried_40 (by decide) (fun c23 => ?_) (fun c23 => ?_)
        · have hF := xif hF c23
          exact jw_X12_tried_45 C0 _ _ _ _ _ t_v0 hF _ _ hR hS _ (lv_sub hl [0, 1, 2, 3] rfl)
        · have hF := xel hF c23
          refine lv_iconst (v := (-1)) hx hb dX12_tried_43 (by decide) ?_
          cases hF
          exact x_iret C0 hR hS dX12_tried_44
      · have hF := xif hF c22
        refine lv_aload_n hx hb dX12_tried_28 rfl (lv_at hl 0 rfl) ?_
        refine lv_iload_n hx hb dX12_tried_29 rfl (lv_at hl 3 rfl) ?_
        obtain ⟨a24, e_a24, hF⟩ := xbd hF
        refine cl_X12_282 C0 hR hS e_a24 t_v0 ⟨(Nat.le_of_ble_eq_true rfl), (Nat.le_of_ble_eq_true rfl)⟩ hl.1 (Nat.le_of_ble_eq_true rfl) ⟨(Nat.le_of_ble_eq_true rfl), (Nat.le_of_ble_eq_true rfl)⟩ dX12_tried_30 (fun H locs hR hS => ?_)
        refine lv_if_ne (tgt := 45) hx hb dX12_tried_33 (by decide) (fun c25 => ?_) (fun c25 => ?_)
        · have hF := xel hF c25
          exact jw_X12_tried_45 C0 _ _ _ _ _ t_v0 hF _ _ hR hS _ (lv_sub hl [0, 1, 2, 3] rfl)
        · have hF := xif hF c25
          refine lv_goto (tgt := 43) hx hb dX12_tried_36 (by decide) ?_
          refine lv_iconst (v := (-1)) hx hb dX12_tried_43 (by decide) ?_
          cases hF
          exact x_iret C0 hR hS dX12_tried_44
theorem xm_X12_tried : xMw yX12_tried cX12_tried 7 (some .int) 3 := ⟨xin 1896 (by decide +kernel) rfl, xin 126 (by decide +kernel) rfl, by decide +kernel⟩
theorem xi_X12_tried : Cond.instanceMethod yX12_tried ∈ xT := xin 1894 (by decide +kernel) rfl
theorem xe_X12_tried : Cond.selects yX12_tried.cls yX12_tried yX12_tried ∈ xT := xin 1895 (by decide +kernel) rfl
theorem dX12_undo_0 : decode cX12_undo 0 = .ok (.aload_n 0, 1) := by decide +kernel
theorem dX12_undo_1 : decode cX12_undo 1 = .ok (.iconst 0, 1) := by decide +kernel
theorem dX12_undo_2 : decode cX12_undo 2 = .ok (.putfield 101, 3) := by decide +kernel
theorem dX12_undo_5 : decode cX12_undo 5 = .ok (.aload_n 0, 1) := by decide +kernel
theorem dX12_undo_6 : decode cX12_undo 6 = .ok (.getfield 191, 3) := by decide +kernel
theorem dX12_undo_9 : decode cX12_undo 9 = .ok (.ifCond .ne 5, 3) := by decide +kernel
theorem dX12_undo_12 : decode cX12_undo 12 = .ok (.iconst (-1), 1) := by decide +kernel
theorem dX12_undo_13 : decode cX12_undo 13 = .ok (.ireturn, 1) := by decide +kernel
theorem dX12_undo_14 : decode cX12_undo 14 = .ok (.aload_n 0, 1) := by decide +kernel
theorem dX12_undo_15 : decode cX12_undo 15 = .ok (.dup, 1) := by decide +kernel
theorem dX12_undo_16 : decode cX12_undo 16 = .ok (.getfield 191, 3) := by decide +kernel
theorem dX12_undo_19 : decode cX12_undo 19 = .ok (.iconst 1, 1) := by decide +kernel
theorem dX12_undo_20 : decode cX12_undo 20 = .ok (.isub, 1) := by decide +kernel
theorem dX12_undo_21 : decode cX12_undo 21 = .ok (.putfield 191, 3) := by decide +kernel
theorem dX12_undo_24 : decode cX12_undo 24 = .ok (.aload_n 0, 1) := by decide +kernel
theorem dX12_undo_25 : decode cX12_undo 25 = .ok (.aload_n 0, 1) := by decide +kernel
theorem dX12_undo_26 : decode cX12_undo 26 = .ok (.getfield 92, 3) := by decide +kernel
theorem dX12_undo_29 : decode cX12_undo 29 = .ok (.aload_n 0, 1) := by decide +kernel
theorem dX12_undo_30 : decode cX12_undo 30 = .ok (.getfield 191, 3) := by decide +kernel
theorem dX12_undo_33 : decode cX12_undo 33 = .ok (.iaload, 1) := by decide +kernel
theorem dX12_undo_34 : decode cX12_undo 34 = .ok (.putfield 185, 3) := by decide +kernel
theorem dX12_undo_37 : decode cX12_undo 37 = .ok (.aload_n 0, 1) := by decide +kernel
theorem dX12_undo_38 : decode cX12_undo 38 = .ok (.getfield 191, 3) := by decide +kernel
theorem dX12_undo_41 : decode cX12_undo 41 = .ok (.ireturn, 1) := by decide +kernel
set_option maxHeartbeats 4000000 in
set_option maxRecDepth 100000 in
theorem jc_X12_undo {l : Launch} {D : xD} {ty : xTy} {h : xH} {v0 : Nat} {r : Int32} {h9 : xH} (t_v0 : ty v0 = some (0, 12)) (hF : jf_X12_undo ty h v0 = some (r, h9)) : Met l yX12_undo (xws yX12_undo cX12_undo 1 (some .int)) jr_X12_undo (xPc D ty h [.ref v0]) (xQ D ty (some (.int r)) h9) 0 0 (xdom ty) := by
  refine x_met (by decide) ?_
  intro p e s m below meth c C0 hR
  generalize hargs : ([.ref v0] : List Value).toArray = args at C0 ⊢
  have hx := C0.1
  have hb := C0.2.1
  have hown := C0.2.2.2.2.2.1
  have hts := C0.2.2.2.2.2.2.1
  have hS : xS ty s.heap s.heap [] := xS.rf
  have hl := lv_entry ([.ref v0]) (n := 1) (Nat.le_of_ble_eq_true rfl)
  rw [← hargs, lg_entry_eq]
  rw [hargs]
  generalize (lg_sl ([.ref v0]) ++ List.replicate (1 - (lg_sl ([.ref v0])).length) Slot.unset).toArray = ls at hl ⊢
  have hl : lv_has ls 1 [(0, .ref v0)] := hl
  unfold jf_X12_undo at hF
  refine lv_aload_n hx hb dX12_undo_0 rfl (lv_at hl 0 rfl) ?_
  refine lv_iconst (v := 0) hx hb dX12_undo_1 (by decide) ?_
  obtain ⟨h1, e_h1, hF⟩ := xbd hF
  refine pf_X12_101 C0 hR hS t_v0 dX12_undo_2 (fun H locs hR hS => ?_)
  rw [Option.some.inj e_h1] at hR
  refine lv_aload_n hx hb dX12_undo_5 rfl (lv_at hl 0 rfl) ?_
  refine gf_X12_191 C0 hR t_v0 dX12_undo_6 ?_
  refine lv_if_ne (tgt := 14) hx hb dX12_undo_9 (by decide) (fun c2 => ?_) (fun c2 => ?_)
  · have hF := xel hF c2
    refine lv_aload_n hx hb dX12_undo_14 rfl (lv_at hl 0 rfl) ?_
    refine lv_dup hx hb dX12_undo_15 rfl ?_
    refine gf_X12_191 C0 hR t_v0 dX12_undo_16 ?_
    refine lv_iconst (v := 1) hx hb dX12_undo_19 (by decide) ?_
    refine lv_isub hx hb dX12_undo_20 ?_
    obtain ⟨h3, e_h3, hF⟩ := xbd hF
    refine pf_X12_191 C0 hR hS t_v0 dX12_undo_21 (fun H locs hR hS => ?_)
    rw [Option.some.inj e_h3] at hR
    refine lv_aload_n hx hb dX12_undo_24 rfl (lv_at hl 0 rfl) ?_
    refine lv_aload_n hx hb dX12_undo_25 rfl (lv_at hl 0 rfl) ?_
    obtain ⟨a4, e_a4, hF⟩ := xbd hF
    refine gf_X12_92 C0 hR t_v0 e_a4 dX12_undo_26 ?_
    refine lv_aload_n hx hb dX12_undo_29 rfl (lv_at hl 0 rfl) ?_
    refine gf_X12_191 C0 hR t_v0 dX12_undo_30 ?_
    obtain ⟨a5, e_a5, hF⟩ := xbd hF
    refine x_iald C0 hR e_a5 dX12_undo_33 ?_
    obtain ⟨h6, e_h6, hF⟩ := xbd hF
    refine pf_X12_185 C0 hR hS t_v0 dX12_undo_34 (fun H locs hR hS => ?_)
    rw [Option.some.inj e_h6] at hR
    refine lv_aload_n hx hb dX12_undo_37 rfl (lv_at hl 0 rfl) ?_
    refine gf_X12_191 C0 hR t_v0 dX12_undo_38 ?_
    cases hF
    exact x_iret C0 hR hS dX12_undo_41
  · have hF := xif hF c2
    refine lv_iconst (v := (-1)) hx hb dX12_undo_12 (by decide) ?_
    cases hF
    exact x_iret C0 hR hS dX12_undo_13
theorem xm_X12_undo : xMw yX12_undo cX12_undo 1 (some .int) 0 := ⟨xin 1900 (by decide +kernel) rfl, xin 126 (by decide +kernel) rfl, by decide +kernel⟩
theorem xi_X12_undo : Cond.instanceMethod yX12_undo ∈ xT := xin 1898 (by decide +kernel) rfl
theorem xe_X12_undo : Cond.selects yX12_undo.cls yX12_undo yX12_undo ∈ xT := xin 1899 (by decide +kernel) rfl
theorem dX12_manyIn_0 : decode cX12_manyIn 0 = .ok (.iconst 0, 1) := by decide +kernel
theorem dX12_manyIn_1 : decode cX12_manyIn 1 = .ok (.istore_n 1, 1) := by decide +kernel
theorem dX12_manyIn_2 : decode cX12_manyIn 2 = .ok (.iconst 0, 1) := by decide +kernel
theorem dX12_manyIn_3 : decode cX12_manyIn 3 = .ok (.istore_n 2, 1) := by decide +kernel
theorem dX12_manyIn_4 : decode cX12_manyIn 4 = .ok (.iload_n 2, 1) := by decide +kernel
theorem dX12_manyIn_5 : decode cX12_manyIn 5 = .ok (.bipush 16, 2) := by decide +kernel
theorem dX12_manyIn_7 : decode cX12_manyIn 7 = .ok (.if_icmp .ge 17, 3) := by decide +kernel
theorem dX12_manyIn_10 : decode cX12_manyIn 10 = .ok (.iload_n 1, 1) := by decide +kernel
theorem dX12_manyIn_11 : decode cX12_manyIn 11 = .ok (.iload_n 0, 1) := by decide +kernel
theorem dX12_manyIn_12 : decode cX12_manyIn 12 = .ok (.iload_n 2, 1) := by decide +kernel
theorem dX12_manyIn_13 : decode cX12_manyIn 13 = .ok (.ishr, 1) := by decide +kernel
theorem dX12_manyIn_14 : decode cX12_manyIn 14 = .ok (.iconst 1, 1) := by decide +kernel
theorem dX12_manyIn_15 : decode cX12_manyIn 15 = .ok (.iand, 1) := by decide +kernel
theorem dX12_manyIn_16 : decode cX12_manyIn 16 = .ok (.iadd, 1) := by decide +kernel
theorem dX12_manyIn_17 : decode cX12_manyIn 17 = .ok (.istore_n 1, 1) := by decide +kernel
theorem dX12_manyIn_18 : decode cX12_manyIn 18 = .ok (.iinc 2 1, 3) := by decide +kernel
theorem dX12_manyIn_21 : decode cX12_manyIn 21 = .ok (.goto (-17), 3) := by decide +kernel
theorem dX12_manyIn_24 : decode cX12_manyIn 24 = .ok (.iload_n 1, 1) := by decide +kernel
theorem dX12_manyIn_25 : decode cX12_manyIn 25 = .ok (.ireturn, 1) := by decide +kernel
set_option maxHeartbeats 4000000 in
set_option maxRecDepth 100000 in
theorem jw_X12_manyIn_4 {p : Program} {l : Launch} {e : Env} {s : State} {m : MethodId} {args : Array Value} {below : List Frame} {meth : Method} {c : Code} {D : xD} {ty : xTy} {h : xH} (C0 : xC D RX12 cX12_manyIn 3 (some .int) p s m args meth c) {r : Int32} : ∀ n : Nat, ∀ (v0 : Int32) (v1 : Int32) (v2 : Int32), jf_X12_manyIn_4 ty h n v0 v1 v2 = some r → ∀ (H : Heap) (locs : List Loc), xRep D ty h H → xS ty s.heap H locs → ∀ ls : Array Slot, lv_has ls 3 [(0, .int v0), (1, .int v1), (2, .int v2)] → W p l e jr_X12_manyIn s m args below meth c H locs 0 0 (MQ below (xQ D ty (some (.int r)) h) args s 0 0 (xdom ty)) (F0 m 4 ls []) := by
  have hx := C0.1
  have hb := C0.2.1
  have hown := C0.2.2.2.2.2.1
  have hts := C0.2.2.2.2.2.2.1
  intro n
  induction n with
  | zero =>
    intro v0 v1 v2 hF H locs hR hS ls hl
    cases hF
  | succ n ih =>
    intro v0 v1 v2 hF H locs hR hS ls hl
    rw [jf_X12_manyIn_4_s] at hF
    refine lv_iload_n hx hb dX12_manyIn_4 rfl (lv_at hl 2 rfl) ?_
    refine lv_bipush (v := 16) hx hb dX12_manyIn_5 (by decide) ?_
    refine lv_icmp_ge (tgt := 24) hx hb dX12_manyIn_7 (by decide) (fun c1 => ?_) (fun c1 => ?_)
    · have hF := xif hF c1
      refine lv_iload_n hx hb dX12_manyIn_24 rfl (lv_at hl 1 rfl) ?_
      cases hF
      exact x_iret C0 hR hS dX12_manyIn_25
    · have hF := xel hF c1
      refine lv_iload_n hx hb dX12_manyIn_10 rfl (lv_at hl 1 rfl) ?_
      refine lv_iload_n hx hb dX12_manyIn_11 rfl (lv_at hl 0 rfl) ?_
      refine lv_iload_n hx hb dX12_manyIn_12 rfl (lv_at hl 2 rfl) ?_
      refine lv_ishr hx hb dX12_manyIn_13 ?_
      refine lv_iconst (v := 1) hx hb dX12_manyIn_14 (by decide) ?_
      refine lv_iand hx hb dX12_manyIn_15 ?_
      refine lv_iadd hx hb dX12_manyIn_16 ?_
      refine lv_istore_n (lv' := [(1, .int (v1 + ((v0 >>> (v2 &&& 31)) &&& 1))), (0, .int v0), (2, .int v2)]) hx hb dX12_manyIn_17 rfl hl (by decide) rfl (fun ls hl => ?_)
      refine lv_iinc (v := v2 + 1) (lv' := [(2, .int (v2 + 1)), (1, .int (v1 + ((v0 >>> (v2 &&& 31)) &&& 1))), (0, .int v0)]) hx hb dX12_manyIn_18 hl (k := 2) rfl rfl (by decide) rfl (fun ls hl => ?_)
      refine lv_goto (tgt := 4) hx hb dX12_manyIn_21 (by decide) ?_
      exact ih _ _ _ hF _ _ hR hS _ (lv_sub hl [2, 1, 0] rfl)
set_option maxHeartbeats 4000000 in
set_option maxRecDepth 100000 in
theorem jc_X12_manyIn {l : Launch} {D : xD} {ty : xTy} {h : xH} {v0 : Int32} {r : Int32} (hF : jf_X12_manyIn ty h v0 = some r) : Met l yX12_manyIn (xws yX12_manyIn cX12_manyIn 3 (some .int)) jr_X12_manyIn (xPc D ty h [.int v0]) (xQ D ty (some (.int r)) h) 0 0 (xdom ty) := by
  refine x_met (by decide) ?_
  intro p e s m below meth c C0 hR
  generalize hargs : ([.int v0] : List Value).toArray = args at C0 ⊢
  have hx := C0.1
  have hb := C0.2.1
  have hown := C0.2.2.2.2.2.1
  have hts := C0.2.2.2.2.2.2.1
  have hS : xS ty s.heap s.heap [] := xS.rf
  have hl := lv_entry ([.int v0]) (n := 3) (Nat.le_of_ble_eq_true rfl)
  rw [← hargs, lg_entry_eq]
  rw [hargs]
  generalize (lg_sl ([.int v0]) ++ List.replicate (3 - (lg_sl ([.int v0])).length) Slot.unset).toArray = ls at hl ⊢
  have hl : lv_has ls 3 [(0, .int v0)] := hl
  unfold jf_X12_manyIn at hF
  refine lv_iconst (v := 0) hx hb dX12_manyIn_0 (by decide) ?_
  refine lv_istore_n (lv' := [(1, .int 0), (0, .int v0)]) hx hb dX12_manyIn_1 rfl hl (by decide) rfl (fun ls hl => ?_)
  refine lv_iconst (v := 0) hx hb dX12_manyIn_2 (by decide) ?_
  refine lv_istore_n (lv' := [(2, .int 0), (1, .int 0), (0, .int v0)]) hx hb dX12_manyIn_3 rfl hl (by decide) rfl (fun ls hl => ?_)
  obtain ⟨_, hF⟩ := xlim_sp hF
  exact jw_X12_manyIn_4 C0 _ _ _ _ hF _ _ hR hS _ (lv_sub hl [2, 1, 0] rfl)
theorem xm_X12_manyIn : xMw yX12_manyIn cX12_manyIn 3 (some .int) 1 := ⟨xin 1907 (by decide +kernel) rfl, xin 126 (by decide +kernel) rfl, by decide +kernel⟩
theorem xs_X12_manyIn : Cond.static yX12_manyIn ∈ xT := xin 1906 (by decide +kernel) rfl
theorem dX12_keep_0 : decode cX12_keep 0 = .ok (.aload_n 0, 1) := by decide +kernel
theorem dX12_keep_1 : decode cX12_keep 1 = .ok (.iconst 0, 1) := by decide +kernel
theorem dX12_keep_2 : decode cX12_keep 2 = .ok (.putfield 101, 3) := by decide +kernel
theorem dX12_keep_5 : decode cX12_keep 5 = .ok (.aload_n 0, 1) := by decide +kernel
theorem dX12_keep_6 : decode cX12_keep 6 = .ok (.iconst 1, 1) := by decide +kernel
theorem dX12_keep_7 : decode cX12_keep 7 = .ok (.putfield 194, 3) := by decide +kernel
theorem dX12_keep_10 : decode cX12_keep 10 = .ok (.aload_n 0, 1) := by decide +kernel
theorem dX12_keep_11 : decode cX12_keep 11 = .ok (.aload_n 0, 1) := by decide +kernel
theorem dX12_keep_12 : decode cX12_keep 12 = .ok (.getfield 185, 3) := by decide +kernel
theorem dX12_keep_15 : decode cX12_keep 15 = .ok (.putfield 412, 3) := by decide +kernel
theorem dX12_keep_18 : decode cX12_keep 18 = .ok (.aload_n 0, 1) := by decide +kernel
theorem dX12_keep_19 : decode cX12_keep 19 = .ok (.getfield 185, 3) := by decide +kernel
theorem dX12_keep_22 : decode cX12_keep 22 = .ok (.invokestatic 415, 3) := by decide +kernel
theorem dX12_keep_25 : decode cX12_keep 25 = .ok (.ireturn, 1) := by decide +kernel
theorem wl_X12_415 : Cond.methodLink RX12 415 yX12_manyIn ∈ xT := xin 1905 (by decide +kernel) rfl
theorem wf_X12_412 : Cond.fieldLink RX12 412 "TermShelfModel" "image" "I" ∈ xT := xin 1371 (by decide +kernel) rfl
section XN_X12_keep
variable {p : Program} {l : Launch} {e : Env} {R : Room} {s : State} {m : MethodId} {args : Array Value} {below : List Frame} {meth : Method} {c : Code} {H H0 : Heap} {locs : List Loc} {cells slots : Nat} {Q : State → Prop} {cc : ByteArray} {nL pc : Nat} {rt : Option FieldType} {ls : Array Slot} {rest : List Value} {D : xD} {ty : xTy} {h : xH}
theorem cl_X12_415 {v0 : Int32} {r : Int32} (C0 : xC D RX12 cc nL rt p s m args meth c) (hR : xRep D ty h H) (hS : xS ty H0 H locs) (hF : jf_X12_manyIn ty h v0 = some r) (hrm : jr_X12_manyIn.frames + 1 ≤ R.frames ∧ 8 + (3 + 11) + jr_X12_manyIn.locals ≤ R.locals) (hsz : ls.size = nL) (hW : (rest.map fun v => v.category).sum ≤ 8) (hf : cells ≤ R.cells ∧ slots ≤ R.slots) (hdg : decode cc pc = .ok (.invokestatic 415, 3)) (kk : ∀ (H1 : Heap) (locs1 : List Loc), xRep D ty h H1 → xS ty H0 H1 locs1 → W p l e R s m args below meth c H1 locs1 cells slots Q (F0 m (pc + 3) ls (.int r :: rest))) : W p l e R s m args below meth c H locs cells slots Q (F0 m pc ls (.int v0 :: rest)) := x_callS C0 (jc_X12_manyIn  hF) xm_X12_manyIn xs_X12_manyIn wl_X12_415 ⟨rfl, rfl, hrm⟩ hR hS (As := [.int v0]) rfl hsz rfl hW hdg hf kk
theorem pf_X12_412 {a : Nat} {v : Int32} (C0 : xC D RX12 cc nL rt p s m args meth c) (hR : xRep D ty h H) (hS : xS ty H0 H locs) (ht : ty a = some (0, 12)) (hdg : decode cc pc = .ok (.putfield 412, 3)) (kk : ∀ (H1 : Heap) (locs1 : List Loc), xRep D ty (xsI h a 59 v) H1 → xS ty H0 H1 locs1 → W p l e R s m args below meth c H1 locs1 cells slots Q (F0 m (pc + 3) ls rest)) : W p l e R s m args below meth c H locs cells slots Q (F0 m pc ls (.int v :: .ref a :: rest)) := x_puti C0 hR hS (ci := 12) (k := 59) (N := 60) (T := TX12) rfl iX12 tyX12_ok nmX12 (by decide) rfl rfl wf_X12_412 (Or.inl rfl) rfl rfl ht hdg kk
end XN_X12_keep
set_option maxHeartbeats 4000000 in
set_option maxRecDepth 100000 in
theorem jc_X12_keep {l : Launch} {D : xD} {ty : xTy} {h : xH} {v0 : Nat} {r : Int32} {h9 : xH} (t_v0 : ty v0 = some (0, 12)) (hF : jf_X12_keep ty h v0 = some (r, h9)) : Met l yX12_keep (xws yX12_keep cX12_keep 1 (some .int)) jr_X12_keep (xPc D ty h [.ref v0]) (xQ D ty (some (.int r)) h9) 0 0 (xdom ty) := by
  refine x_met (by decide) ?_
  intro p e s m below meth c C0 hR
  generalize hargs : ([.ref v0] : List Value).toArray = args at C0 ⊢
  have hx := C0.1
  have hb := C0.2.1
  have hown := C0.2.2.2.2.2.1
  have hts := C0.2.2.2.2.2.2.1
  have hS : xS ty s.heap s.heap [] := xS.rf
  have hl := lv_entry ([.ref v0]) (n := 1) (Nat.le_of_ble_eq_true rfl)
  rw [← hargs, lg_entry_eq]
  rw [hargs]
  generalize (lg_sl ([.ref v0]) ++ List.replicate (1 - (lg_sl ([.ref v0])).length) Slot.unset).toArray = ls at hl ⊢
  have hl : lv_has ls 1 [(0, .ref v0)] := hl
  unfold jf_X12_keep at hF
  refine lv_aload_n hx hb dX12_keep_0 rfl (lv_at hl 0 rfl) ?_
  refine lv_iconst (v := 0) hx hb dX12_keep_1 (by decide) ?_
  obtain ⟨h1, e_h1, hF⟩ := xbd hF
  refine pf_X12_101 C0 hR hS t_v0 dX12_keep_2 (fun H locs hR hS => ?_)
  rw [Option.some.inj e_h1] at hR
  refine lv_aload_n hx hb dX12_keep_5 rfl (lv_at hl 0 rfl) ?_
  refine lv_iconst (v := 1) hx hb dX12_keep_6 (by decide) ?_
  obtain ⟨h2, e_h2, hF⟩ := xbd hF
  refine pf_X12_194 C0 hR hS t_v0 rfl rfl dX12_keep_7 (fun H locs hR hS => ?_)
  rw [Option.some.inj e_h2] at hR
  refine lv_aload_n hx hb dX12_keep_10 rfl (lv_at hl 0 rfl) ?_
  refine lv_aload_n hx hb dX12_keep_11 rfl (lv_at hl 0 rfl) ?_
  refine gf_X12_185 C0 hR t_v0 dX12_keep_12 ?_
  obtain ⟨h3, e_h3, hF⟩ := xbd hF
  refine pf_X12_412 C0 hR hS t_v0 dX12_keep_15 (fun H locs hR hS => ?_)
  rw [Option.some.inj e_h3] at hR
  refine lv_aload_n hx hb dX12_keep_18 rfl (lv_at hl 0 rfl) ?_
  refine gf_X12_185 C0 hR t_v0 dX12_keep_19 ?_
  obtain ⟨a4, e_a4, hF⟩ := xbd hF
  refine cl_X12_415 C0 hR hS e_a4  ⟨(Nat.le_of_ble_eq_true rfl), (Nat.le_of_ble_eq_true rfl)⟩ hl.1 (Nat.le_of_ble_eq_true rfl) ⟨(Nat.le_of_ble_eq_true rfl), (Nat.le_of_ble_eq_true rfl)⟩ dX12_keep_22 (fun H locs hR hS => ?_)
  cases hF
  exact x_iret C0 hR hS dX12_keep_25
theorem xm_X12_keep : xMw yX12_keep cX12_keep 1 (some .int) 0 := ⟨xin 1904 (by decide +kernel) rfl, xin 126 (by decide +kernel) rfl, by decide +kernel⟩
theorem xi_X12_keep : Cond.instanceMethod yX12_keep ∈ xT := xin 1902 (by decide +kernel) rfl
theorem xe_X12_keep : Cond.selects yX12_keep.cls yX12_keep yX12_keep ∈ xT := xin 1903 (by decide +kernel) rfl
theorem dX12_back_0 : decode cX12_back 0 = .ok (.aload_n 0, 1) := by decide +kernel
theorem dX12_back_1 : decode cX12_back 1 = .ok (.iconst 0, 1) := by decide +kernel
theorem dX12_back_2 : decode cX12_back 2 = .ok (.putfield 101, 3) := by decide +kernel
theorem dX12_back_5 : decode cX12_back 5 = .ok (.aload_n 0, 1) := by decide +kernel
theorem dX12_back_6 : decode cX12_back 6 = .ok (.getfield 194, 3) := by decide +kernel
theorem dX12_back_9 : decode cX12_back 9 = .ok (.ifCond .ne 5, 3) := by decide +kernel
theorem dX12_back_12 : decode cX12_back 12 = .ok (.iconst (-1), 1) := by decide +kernel
theorem dX12_back_13 : decode cX12_back 13 = .ok (.ireturn, 1) := by decide +kernel
theorem dX12_back_14 : decode cX12_back 14 = .ok (.aload_n 0, 1) := by decide +kernel
theorem dX12_back_15 : decode cX12_back 15 = .ok (.aload_n 0, 1) := by decide +kernel
theorem dX12_back_16 : decode cX12_back 16 = .ok (.getfield 412, 3) := by decide +kernel
theorem dX12_back_19 : decode cX12_back 19 = .ok (.putfield 185, 3) := by decide +kernel
theorem dX12_back_22 : decode cX12_back 22 = .ok (.aload_n 0, 1) := by decide +kernel
theorem dX12_back_23 : decode cX12_back 23 = .ok (.iconst 0, 1) := by decide +kernel
theorem dX12_back_24 : decode cX12_back 24 = .ok (.putfield 191, 3) := by decide +kernel
theorem dX12_back_27 : decode cX12_back 27 = .ok (.aload_n 0, 1) := by decide +kernel
theorem dX12_back_28 : decode cX12_back 28 = .ok (.getfield 185, 3) := by decide +kernel
theorem dX12_back_31 : decode cX12_back 31 = .ok (.invokestatic 415, 3) := by decide +kernel
theorem dX12_back_34 : decode cX12_back 34 = .ok (.ireturn, 1) := by decide +kernel
section XN_X12_back
variable {p : Program} {l : Launch} {e : Env} {R : Room} {s : State} {m : MethodId} {args : Array Value} {below : List Frame} {meth : Method} {c : Code} {H H0 : Heap} {locs : List Loc} {cells slots : Nat} {Q : State → Prop} {cc : ByteArray} {nL pc : Nat} {rt : Option FieldType} {ls : Array Slot} {rest : List Value} {D : xD} {ty : xTy} {h : xH}
theorem gf_X12_194 {a : Nat} (C0 : xC D RX12 cc nL rt p s m args meth c) (hR : xRep D ty h H) (ht : ty a = some (0, 12)) (hdg : decode cc pc = .ok (.getfield 194, 3)) (kk : W p l e R s m args below meth c H locs cells slots Q (F0 m (pc + 3) ls (.int (xI h a 58) :: rest))) : W p l e R s m args below meth c H locs cells slots Q (F0 m pc ls (.ref a :: rest)) := x_get C0 hR (ci := 12) (k := 58) (N := 60) (T := TX12) rfl iX12 (by decide) rfl wf_X12_194 rfl ht hdg kk
theorem gf_X12_412 {a : Nat} (C0 : xC D RX12 cc nL rt p s m args meth c) (hR : xRep D ty h H) (ht : ty a = some (0, 12)) (hdg : decode cc pc = .ok (.getfield 412, 3)) (kk : W p l e R s m args below meth c H locs cells slots Q (F0 m (pc + 3) ls (.int (xI h a 59) :: rest))) : W p l e R s m args below meth c H locs cells slots Q (F0 m pc ls (.ref a :: rest)) := x_get C0 hR (ci := 12) (k := 59) (N := 60) (T := TX12) rfl iX12 (by decide) rfl wf_X12_412 rfl ht hdg kk
end XN_X12_back
set_option maxHeartbeats 4000000 in
set_option maxRecDepth 100000 in
theorem jc_X12_back {l : Launch} {D : xD} {ty : xTy} {h : xH} {v0 : Nat} {r : Int32} {h9 : xH} (t_v0 : ty v0 = some (0, 12)) (hF : jf_X12_back ty h v0 = some (r, h9)) : Met l yX12_back (xws yX12_back cX12_back 1 (some .int)) jr_X12_back (xPc D ty h [.ref v0]) (xQ D ty (some (.int r)) h9) 0 0 (xdom ty) := by
  refine x_met (by decide) ?_
  intro p e s m below meth c C0 hR
  generalize hargs : ([.ref v0] : List Value).toArray = args at C0 ⊢
  have hx := C0.1
  have hb := C0.2.1
  have hown := C0.2.2.2.2.2.1
  have hts := C0.2.2.2.2.2.2.1
  have hS : xS ty s.heap s.heap [] := xS.rf
  have hl := lv_entry ([.ref v0]) (n := 1) (Nat.le_of_ble_eq_true rfl)
  rw [← hargs, lg_entry_eq]
  rw [hargs]
  generalize (lg_sl ([.ref v0]) ++ List.replicate (1 - (lg_sl ([.ref v0])).length) Slot.unset).toArray = ls at hl ⊢
  have hl : lv_has ls 1 [(0, .ref v0)] := hl
  unfold jf_X12_back at hF
  refine lv_aload_n hx hb dX12_back_0 rfl (lv_at hl 0 rfl) ?_
  refine lv_iconst (v := 0) hx hb dX12_back_1 (by decide) ?_
  obtain ⟨h1, e_h1, hF⟩ := xbd hF
  refine pf_X12_101 C0 hR hS t_v0 dX12_back_2 (fun H locs hR hS => ?_)
  rw [Option.some.inj e_h1] at hR
  refine lv_aload_n hx hb dX12_back_5 rfl (lv_at hl 0 rfl) ?_
  refine gf_X12_194 C0 hR t_v0 dX12_back_6 ?_
  refine lv_if_ne (tgt := 14) hx hb dX12_back_9 (by decide) (fun c2 => ?_) (fun c2 => ?_)
  · have hF := xel hF c2
    refine lv_aload_n hx hb dX12_back_14 rfl (lv_at hl 0 rfl) ?_
    refine lv_aload_n hx hb dX12_back_15 rfl (lv_at hl 0 rfl) ?_
    refine gf_X12_412 C0 hR t_v0 dX12_back_16 ?_
    obtain ⟨h3, e_h3, hF⟩ := xbd hF
    refine pf_X12_185 C0 hR hS t_v0 dX12_back_19 (fun H locs hR hS => ?_)
    rw [Option.some.inj e_h3] at hR
    refine lv_aload_n hx hb dX12_back_22 rfl (lv_at hl 0 rfl) ?_
    refine lv_iconst (v := 0) hx hb dX12_back_23 (by decide) ?_
    obtain ⟨h4, e_h4, hF⟩ := xbd hF
    refine pf_X12_191 C0 hR hS t_v0 dX12_back_24 (fun H locs hR hS => ?_)
    rw [Option.some.inj e_h4] at hR
    refine lv_aload_n hx hb dX12_back_27 rfl (lv_at hl 0 rfl) ?_
    refine gf_X12_185 C0 hR t_v0 dX12_back_28 ?_
    obtain ⟨a5, e_a5, hF⟩ := xbd hF
    refine cl_X12_415 C0 hR hS e_a5  ⟨(Nat.le_of_ble_eq_true rfl), (Nat.le_of_ble_eq_true rfl)⟩ hl.1 (Nat.le_of_ble_eq_true rfl) ⟨(Nat.le_of_ble_eq_true rfl), (Nat.le_of_ble_eq_true rfl)⟩ dX12_back_31 (fun H locs hR hS => ?_)
    cases hF
    exact x_iret C0 hR hS dX12_back_34
  · have hF := xif hF c2
    refine lv_iconst (v := (-1)) hx hb dX12_back_12 (by decide) ?_
    cases hF
    exact x_iret C0 hR hS dX12_back_13
theorem xm_X12_back : xMw yX12_back cX12_back 1 (some .int) 0 := ⟨xin 1911 (by decide +kernel) rfl, xin 126 (by decide +kernel) rfl, by decide +kernel⟩
theorem xi_X12_back : Cond.instanceMethod yX12_back ∈ xT := xin 1909 (by decide +kernel) rfl
theorem xe_X12_back : Cond.selects yX12_back.cls yX12_back yX12_back ∈ xT := xin 1910 (by decide +kernel) rfl
theorem dX12_count_0 : decode cX12_count 0 = .ok (.aload_n 0, 1) := by decide +kernel
theorem dX12_count_1 : decode cX12_count 1 = .ok (.iconst 0, 1) := by decide +kernel
theorem dX12_count_2 : decode cX12_count 2 = .ok (.putfield 101, 3) := by decide +kernel
theorem dX12_count_5 : decode cX12_count 5 = .ok (.iconst 0, 1) := by decide +kernel
theorem dX12_count_6 : decode cX12_count 6 = .ok (.istore_n 2, 1) := by decide +kernel
theorem dX12_count_7 : decode cX12_count 7 = .ok (.iload_n 1, 1) := by decide +kernel
theorem dX12_count_8 : decode cX12_count 8 = .ok (.tableswitch 262 0 10 #[60, 65, 70, 75, 83, 88, 136, 163, 168, 215, 257], 60) := by decide +kernel
theorem dX12_count_68 : decode cX12_count 68 = .ok (.aload_n 0, 1) := by decide +kernel
theorem dX12_count_69 : decode cX12_count 69 = .ok (.getfield 172, 3) := by decide +kernel
theorem dX12_count_72 : decode cX12_count 72 = .ok (.ireturn, 1) := by decide +kernel
theorem dX12_count_73 : decode cX12_count 73 = .ok (.aload_n 0, 1) := by decide +kernel
theorem dX12_count_74 : decode cX12_count 74 = .ok (.getfield 175, 3) := by decide +kernel
theorem dX12_count_77 : decode cX12_count 77 = .ok (.ireturn, 1) := by decide +kernel
theorem dX12_count_78 : decode cX12_count 78 = .ok (.aload_n 0, 1) := by decide +kernel
theorem dX12_count_79 : decode cX12_count 79 = .ok (.getfield 178, 3) := by decide +kernel
theorem dX12_count_82 : decode cX12_count 82 = .ok (.ireturn, 1) := by decide +kernel
theorem dX12_count_83 : decode cX12_count 83 = .ok (.aload_n 0, 1) := by decide +kernel
theorem dX12_count_84 : decode cX12_count 84 = .ok (.getfield 185, 3) := by decide +kernel
theorem dX12_count_87 : decode cX12_count 87 = .ok (.invokestatic 415, 3) := by decide +kernel
theorem dX12_count_90 : decode cX12_count 90 = .ok (.ireturn, 1) := by decide +kernel
theorem dX12_count_91 : decode cX12_count 91 = .ok (.aload_n 0, 1) := by decide +kernel
theorem dX12_count_92 : decode cX12_count 92 = .ok (.invokevirtual 358, 3) := by decide +kernel
theorem dX12_count_95 : decode cX12_count 95 = .ok (.ireturn, 1) := by decide +kernel
theorem dX12_count_96 : decode cX12_count 96 = .ok (.iconst 0, 1) := by decide +kernel
theorem dX12_count_97 : decode cX12_count 97 = .ok (.istore_n 3, 1) := by decide +kernel
theorem dX12_count_98 : decode cX12_count 98 = .ok (.iload_n 3, 1) := by decide +kernel
theorem dX12_count_99 : decode cX12_count 99 = .ok (.aload_n 0, 1) := by decide +kernel
theorem dX12_count_100 : decode cX12_count 100 = .ok (.getfield 178, 3) := by decide +kernel
theorem dX12_count_103 : decode cX12_count 103 = .ok (.if_icmp .ge 39, 3) := by decide +kernel
theorem dX12_count_106 : decode cX12_count 106 = .ok (.iload_n 2, 1) := by decide +kernel
theorem dX12_count_107 : decode cX12_count 107 = .ok (.aload_n 0, 1) := by decide +kernel
theorem dX12_count_108 : decode cX12_count 108 = .ok (.iload_n 3, 1) := by decide +kernel
theorem dX12_count_109 : decode cX12_count 109 = .ok (.invokevirtual 285, 3) := by decide +kernel
theorem dX12_count_112 : decode cX12_count 112 = .ok (.ifCond .eq 21, 3) := by decide +kernel
theorem dX12_count_115 : decode cX12_count 115 = .ok (.aload_n 0, 1) := by decide +kernel
theorem dX12_count_116 : decode cX12_count 116 = .ok (.iload_n 3, 1) := by decide +kernel
theorem dX12_count_117 : decode cX12_count 117 = .ok (.aload_n 0, 1) := by decide +kernel
theorem dX12_count_118 : decode cX12_count 118 = .ok (.getfield 32, 3) := by decide +kernel
theorem dX12_count_121 : decode cX12_count 121 = .ok (.iload_n 3, 1) := by decide +kernel
theorem dX12_count_122 : decode cX12_count 122 = .ok (.iaload, 1) := by decide +kernel
theorem dX12_count_123 : decode cX12_count 123 = .ok (.invokevirtual 303, 3) := by decide +kernel
theorem dX12_count_126 : decode cX12_count 126 = .ok (.ifCond .eq 7, 3) := by decide +kernel
theorem dX12_count_129 : decode cX12_count 129 = .ok (.iconst 1, 1) := by decide +kernel
theorem dX12_count_130 : decode cX12_count 130 = .ok (.goto 4, 3) := by decide +kernel
theorem dX12_count_133 : decode cX12_count 133 = .ok (.iconst 0, 1) := by decide +kernel
theorem dX12_count_134 : decode cX12_count 134 = .ok (.iadd, 1) := by decide +kernel
theorem dX12_count_135 : decode cX12_count 135 = .ok (.istore_n 2, 1) := by decide +kernel
theorem dX12_count_136 : decode cX12_count 136 = .ok (.iinc 3 1, 3) := by decide +kernel
theorem dX12_count_139 : decode cX12_count 139 = .ok (.goto (-41), 3) := by decide +kernel
theorem dX12_count_142 : decode cX12_count 142 = .ok (.iload_n 2, 1) := by decide +kernel
theorem dX12_count_143 : decode cX12_count 143 = .ok (.ireturn, 1) := by decide +kernel
theorem dX12_count_144 : decode cX12_count 144 = .ok (.iconst 0, 1) := by decide +kernel
theorem dX12_count_145 : decode cX12_count 145 = .ok (.istore_n 3, 1) := by decide +kernel
theorem dX12_count_146 : decode cX12_count 146 = .ok (.iload_n 3, 1) := by decide +kernel
theorem dX12_count_147 : decode cX12_count 147 = .ok (.aload_n 0, 1) := by decide +kernel
theorem dX12_count_148 : decode cX12_count 148 = .ok (.getfield 178, 3) := by decide +kernel
theorem dX12_count_151 : decode cX12_count 151 = .ok (.if_icmp .ge 18, 3) := by decide +kernel
theorem dX12_count_154 : decode cX12_count 154 = .ok (.iload_n 2, 1) := by decide +kernel
theorem dX12_count_155 : decode cX12_count 155 = .ok (.aload_n 0, 1) := by decide +kernel
theorem dX12_count_156 : decode cX12_count 156 = .ok (.getfield 32, 3) := by decide +kernel
theorem dX12_count_159 : decode cX12_count 159 = .ok (.iload_n 3, 1) := by decide +kernel
theorem dX12_count_160 : decode cX12_count 160 = .ok (.iaload, 1) := by decide +kernel
theorem dX12_count_161 : decode cX12_count 161 = .ok (.iadd, 1) := by decide +kernel
theorem dX12_count_162 : decode cX12_count 162 = .ok (.istore_n 2, 1) := by decide +kernel
theorem dX12_count_163 : decode cX12_count 163 = .ok (.iinc 3 1, 3) := by decide +kernel
theorem dX12_count_166 : decode cX12_count 166 = .ok (.goto (-20), 3) := by decide +kernel
theorem dX12_count_169 : decode cX12_count 169 = .ok (.iload_n 2, 1) := by decide +kernel
theorem dX12_count_170 : decode cX12_count 170 = .ok (.ireturn, 1) := by decide +kernel
theorem dX12_count_171 : decode cX12_count 171 = .ok (.aload_n 0, 1) := by decide +kernel
theorem dX12_count_172 : decode cX12_count 172 = .ok (.getfield 188, 3) := by decide +kernel
theorem dX12_count_175 : decode cX12_count 175 = .ok (.ireturn, 1) := by decide +kernel
theorem dX12_count_176 : decode cX12_count 176 = .ok (.iconst 0, 1) := by decide +kernel
theorem dX12_count_177 : decode cX12_count 177 = .ok (.istore_n 3, 1) := by decide +kernel
theorem dX12_count_178 : decode cX12_count 178 = .ok (.iload_n 3, 1) := by decide +kernel
theorem dX12_count_179 : decode cX12_count 179 = .ok (.aload_n 0, 1) := by decide +kernel
theorem dX12_count_180 : decode cX12_count 180 = .ok (.getfield 178, 3) := by decide +kernel
theorem dX12_count_183 : decode cX12_count 183 = .ok (.if_icmp .ge 38, 3) := by decide +kernel
theorem dX12_count_186 : decode cX12_count 186 = .ok (.aload_n 0, 1) := by decide +kernel
theorem dX12_count_187 : decode cX12_count 187 = .ok (.iload_n 3, 1) := by decide +kernel
theorem dX12_count_188 : decode cX12_count 188 = .ok (.invokevirtual 285, 3) := by decide +kernel
theorem dX12_count_191 : decode cX12_count 191 = .ok (.ifCond .eq 22, 3) := by decide +kernel
theorem dX12_count_194 : decode cX12_count 194 = .ok (.aload_n 0, 1) := by decide +kernel
theorem dX12_count_195 : decode cX12_count 195 = .ok (.getfield 32, 3) := by decide +kernel
theorem dX12_count_198 : decode cX12_count 198 = .ok (.iload_n 3, 1) := by decide +kernel
theorem dX12_count_199 : decode cX12_count 199 = .ok (.iaload, 1) := by decide +kernel
theorem dX12_count_200 : decode cX12_count 200 = .ok (.iload_n 2, 1) := by decide +kernel
theorem dX12_count_201 : decode cX12_count 201 = .ok (.if_icmp .le 12, 3) := by decide +kernel
theorem dX12_count_204 : decode cX12_count 204 = .ok (.aload_n 0, 1) := by decide +kernel
theorem dX12_count_205 : decode cX12_count 205 = .ok (.getfield 32, 3) := by decide +kernel
theorem dX12_count_208 : decode cX12_count 208 = .ok (.iload_n 3, 1) := by decide +kernel
theorem dX12_count_209 : decode cX12_count 209 = .ok (.iaload, 1) := by decide +kernel
theorem dX12_count_210 : decode cX12_count 210 = .ok (.goto 4, 3) := by decide +kernel
theorem dX12_count_213 : decode cX12_count 213 = .ok (.iload_n 2, 1) := by decide +kernel
theorem dX12_count_214 : decode cX12_count 214 = .ok (.istore_n 2, 1) := by decide +kernel
theorem dX12_count_215 : decode cX12_count 215 = .ok (.iinc 3 1, 3) := by decide +kernel
theorem dX12_count_218 : decode cX12_count 218 = .ok (.goto (-40), 3) := by decide +kernel
theorem dX12_count_221 : decode cX12_count 221 = .ok (.iload_n 2, 1) := by decide +kernel
theorem dX12_count_222 : decode cX12_count 222 = .ok (.ireturn, 1) := by decide +kernel
theorem dX12_count_223 : decode cX12_count 223 = .ok (.iconst 0, 1) := by decide +kernel
theorem dX12_count_224 : decode cX12_count 224 = .ok (.istore_n 3, 1) := by decide +kernel
theorem dX12_count_225 : decode cX12_count 225 = .ok (.iload_n 3, 1) := by decide +kernel
theorem dX12_count_226 : decode cX12_count 226 = .ok (.aload_n 0, 1) := by decide +kernel
theorem dX12_count_227 : decode cX12_count 227 = .ok (.getfield 178, 3) := by decide +kernel
theorem dX12_count_230 : decode cX12_count 230 = .ok (.if_icmp .ge 33, 3) := by decide +kernel
theorem dX12_count_233 : decode cX12_count 233 = .ok (.iload_n 2, 1) := by decide +kernel
theorem dX12_count_234 : decode cX12_count 234 = .ok (.aload_n 0, 1) := by decide +kernel
theorem dX12_count_235 : decode cX12_count 235 = .ok (.iload_n 3, 1) := by decide +kernel
theorem dX12_count_236 : decode cX12_count 236 = .ok (.invokevirtual 285, 3) := by decide +kernel
theorem dX12_count_239 : decode cX12_count 239 = .ok (.ifCond .eq 15, 3) := by decide +kernel
theorem dX12_count_242 : decode cX12_count 242 = .ok (.aload_n 0, 1) := by decide +kernel
theorem dX12_count_243 : decode cX12_count 243 = .ok (.iload_n 3, 1) := by decide +kernel
theorem dX12_count_244 : decode cX12_count 244 = .ok (.invokevirtual 355, 3) := by decide +kernel
theorem dX12_count_247 : decode cX12_count 247 = .ok (.ifCond .eq 7, 3) := by decide +kernel
theorem dX12_count_250 : decode cX12_count 250 = .ok (.iconst 1, 1) := by decide +kernel
theorem dX12_count_251 : decode cX12_count 251 = .ok (.goto 4, 3) := by decide +kernel
theorem dX12_count_254 : decode cX12_count 254 = .ok (.iconst 0, 1) := by decide +kernel
theorem dX12_count_255 : decode cX12_count 255 = .ok (.iadd, 1) := by decide +kernel
theorem dX12_count_256 : decode cX12_count 256 = .ok (.istore_n 2, 1) := by decide +kernel
theorem dX12_count_257 : decode cX12_count 257 = .ok (.iinc 3 1, 3) := by decide +kernel
theorem dX12_count_260 : decode cX12_count 260 = .ok (.goto (-35), 3) := by decide +kernel
theorem dX12_count_263 : decode cX12_count 263 = .ok (.iload_n 2, 1) := by decide +kernel
theorem dX12_count_264 : decode cX12_count 264 = .ok (.ireturn, 1) := by decide +kernel
theorem dX12_count_265 : decode cX12_count 265 = .ok (.aload_n 0, 1) := by decide +kernel
theorem dX12_count_266 : decode cX12_count 266 = .ok (.getfield 191, 3) := by decide +kernel
theorem dX12_count_269 : decode cX12_count 269 = .ok (.ireturn, 1) := by decide +kernel
theorem dX12_count_270 : decode cX12_count 270 = .ok (.iconst (-1), 1) := by decide +kernel
theorem dX12_count_271 : decode cX12_count 271 = .ok (.ireturn, 1) := by decide +kernel
set_option maxHeartbeats 4000000 in
set_option maxRecDepth 100000 in
theorem jw_X12_count_98 {p : Program} {l : Launch} {e : Env} {s : State} {m : MethodId} {args : Array Value} {below : List Frame} {meth : Method} {c : Code} {D : xD} {ty : xTy} (C0 : xC D RX12 cX12_count 4 (some .int) p s m args meth c) {r : Int32} {h9 : xH} : ∀ n : Nat, ∀ (v0 : Nat) (v2 : Int32) (v3 : Int32) (h : xH), ty v0 = some (0, 12) → jf_X12_count_98 ty n v0 v2 v3 h = some (r, h9) → ∀ (H : Heap) (locs : List Loc), xRep D ty h H → xS ty s.heap H locs → ∀ ls : Array Slot, lv_has ls 4 [(0, .ref v0), (2, .int v2), (3, .int v3)] → W p l e jr_X12_count s m args below meth c H locs 0 0 (MQ below (xQ D ty (some (.int r)) h9) args s 0 0 (xdom ty)) (F0 m 98 ls []) := by
  have hx := C0.1
  have hb := C0.2.1
  have hown := C0.2.2.2.2.2.1
  have hts := C0.2.2.2.2.2.2.1
  intro n
  induction n with
  | zero =>
    intro v0 v2 v3 h t_v0 hF H locs hR hS ls hl
    cases hF
  | succ n ih =>
    intro v0 v2 v3 h t_v0 hF H locs hR hS ls hl
    rw [jf_X12_count_98_s] at hF
    refine lv_iload_n hx hb dX12_count_98 rfl (lv_at hl 2 rfl) ?_
    refine lv_aload_n hx hb dX12_count_99 rfl (lv_at hl 0 rfl) ?_
    refine gf_X12_178 C0 hR t_v0 dX12_count_100 ?_
    refine lv_icmp_ge (tgt := 142) hx hb dX12_count_103 (by decide) (fun c1 => ?_) (fun c1 => ?_)
    · have hF := xif hF c1
      refine lv_iload_n hx hb dX12_count_142 rfl (lv_at hl 1 rfl) ?_
      cases hF
      exact x_iret C0 hR hS dX12_count_143
    · have hF := xel hF c1
      refine lv_iload_n hx hb dX12_count_106 rfl (lv_at hl 1 rfl) ?_
      refine lv_aload_n hx hb dX12_count_107 rfl (lv_at hl 0 rfl) ?_
      refine lv_iload_n hx hb dX12_count_108 rfl (lv_at hl 2 rfl) ?_
      obtain ⟨a2, e_a2, hF⟩ := xbd hF
      refine cl_X12_285 C0 hR hS e_a2 t_v0 ⟨(Nat.le_of_ble_eq_true rfl), (Nat.le_of_ble_eq_true rfl)⟩ hl.1 (Nat.le_of_ble_eq_true rfl) ⟨(Nat.le_of_ble_eq_true rfl), (Nat.le_of_ble_eq_true rfl)⟩ dX12_count_109 (fun H locs hR hS => ?_)
      refine lv_if_eq (tgt := 133) hx hb dX12_count_112 (by decide) (fun c3 => ?_) (fun c3 => ?_)
      · have hF := xif hF c3
        refine lv_iconst (v := 0) hx hb dX12_count_133 (by decide) ?_
        refine lv_iadd hx hb dX12_count_134 ?_
        refine lv_istore_n (lv' := [(2, .int (v2 + 0)), (0, .ref v0), (3, .int v3)]) hx hb dX12_count_135 rfl hl (by decide) rfl (fun ls hl => ?_)
        refine lv_iinc (v := v3 + 1) (lv' := [(3, .int (v3 + 1)), (2, .int (v2 + 0)), (0, .ref v0)]) hx hb dX12_count_136 hl (k := 2) rfl rfl (by decide) rfl (fun ls hl => ?_)
        refine lv_goto (tgt := 98) hx hb dX12_count_139 (by decide) ?_
        exact ih _ _ _ _ t_v0 hF _ _ hR hS _ (lv_sub hl [2, 1, 0] rfl)
      · have hF := xel hF c3
        refine lv_aload_n hx hb dX12_count_115 rfl (lv_at hl 0 rfl) ?_
        refine lv_iload_n hx hb dX12_count_116 rfl (lv_at hl 2 rfl) ?_
        refine lv_aload_n hx hb dX12_count_117 rfl (lv_at hl 0 rfl) ?_
        obtain ⟨a4, e_a4, hF⟩ := xbd hF
        refine gf_X12_32 C0 hR t_v0 e_a4 dX12_count_118 ?_
        refine lv_iload_n hx hb dX12_count_121 rfl (lv_at hl 2 rfl) ?_
        obtain ⟨a5, e_a5, hF⟩ := xbd hF
        refine x_iald C0 hR e_a5 dX12_count_122 ?_
        obtain ⟨a6, e_a6, hF⟩ := xbd hF
        refine cl_X12_303 C0 hR hS e_a6 t_v0 ⟨(Nat.le_of_ble_eq_true rfl), (Nat.le_of_ble_eq_true rfl)⟩ hl.1 (Nat.le_of_ble_eq_true rfl) ⟨(Nat.le_of_ble_eq_true rfl), (Nat.le_of_ble_eq_true rfl)⟩ dX12_count_123 (fun H locs hR hS => ?_)
        refine lv_if_eq (tgt := 133) hx hb dX12_count_126 (by decide) (fun c7 => ?_) (fun c7 => ?_)
        · have hF := xif hF c7
          refine lv_iconst (v := 0) hx hb dX12_count_133 (by decide) ?_
          refine lv_iadd hx hb dX12_count_134 ?_
          refine lv_istore_n (lv' := [(2, .int (v2 + 0)), (0, .ref v0), (3, .int v3)]) hx hb dX12_count_135 rfl hl (by decide) rfl (fun ls hl => ?_)
          refine lv_iinc (v := v3 + 1) (lv' := [(3, .int (v3 + 1)), (2, .int (v2 + 0)), (0, .ref v0)]) hx hb dX12_count_136 hl (k := 2) rfl rfl (by decide) rfl (fun ls hl => ?_)
          refine lv_goto (tgt := 98) hx hb dX12_count_139 (by decide) ?_
          exact ih _ _ _ _ t_v0 hF _ _ hR hS _ (lv_sub hl [2, 1, 0] rfl)
        · have hF := xel hF c7
          refine lv_iconst (v := 1) hx hb dX12_count_129 (by decide) ?_
          refine lv_goto (tgt := 134) hx hb dX12_count_130 (by decide) ?_
          refine lv_iadd hx hb dX12_count_134 ?_
          refine lv_istore_n (lv' := [(2, .int (v2 + 1)), (0, .ref v0), (3, .int v3)]) hx hb dX12_count_135 rfl hl (by decide) rfl (fun ls hl => ?_)
          refine lv_iinc (v := v3 + 1) (lv' := [(3, .int (v3 + 1)), (2, .int (v2 + 1)), (0, .ref v0)]) hx hb dX12_count_136 hl (k := 2) rfl rfl (by decide) rfl (fun ls hl => ?_)
          refine lv_goto (tgt := 98) hx hb dX12_count_139 (by decide) ?_
          exact ih _ _ _ _ t_v0 hF _ _ hR hS _ (lv_sub hl [2, 1, 0] rfl)
set_option maxHeartbeats 4000000 in
set_option maxRecDepth 100000 in
theorem jw_X12_count_146 {p : Program} {l : Launch} {e : Env} {s : State} {m : MethodId} {args : Array Value} {below : List Frame} {meth : Method} {c : Code} {D : xD} {ty : xTy} (C0 : xC D RX12 cX12_count 4 (some .int) p s m args meth c) {r : Int32} {h9 : xH} : ∀ n : Nat, ∀ (v0 : Nat) (v2 : Int32) (v3 : Int32) (h : xH), ty v0 = some (0, 12) → jf_X12_count_146 ty n v0 v2 v3 h = some (r, h9) → ∀ (H : Heap) (locs : List Loc), xRep D ty h H → xS ty s.heap H locs → ∀ ls : Array Slot, lv_has ls 4 [(0, .ref v0), (2, .int v2), (3, .int v3)] → W p l e jr_X12_count s m args below meth c H locs 0 0 (MQ below (xQ D ty (some (.int r)) h9) args s 0 0 (xdom ty)) (F0 m 146 ls []) := by
  have hx := C0.1
  have hb := C0.2.1
  have hown := C0.2.2.2.2.2.1
  have hts := C0.2.2.2.2.2.2.1
  intro n
  induction n with
  | zero =>
    intro v0 v2 v3 h t_v0 hF H locs hR hS ls hl
    cases hF
  | succ n ih =>
    intro v0 v2 v3 h t_v0 hF H locs hR hS ls hl
    rw [jf_X12_count_146_s] at hF
    refine lv_iload_n hx hb dX12_count_146 rfl (lv_at hl 2 rfl) ?_
    refine lv_aload_n hx hb dX12_count_147 rfl (lv_at hl 0 rfl) ?_
    refine gf_X12_178 C0 hR t_v0 dX12_count_148 ?_
    refine lv_icmp_ge (tgt := 169) hx hb dX12_count_151 (by decide) (fun c8 => ?_) (fun c8 => ?_)
    · have hF := xif hF c8
      refine lv_iload_n hx hb dX12_count_169 rfl (lv_at hl 1 rfl) ?_
      cases hF
      exact x_iret C0 hR hS dX12_count_170
    · have hF := xel hF c8
      refine lv_iload_n hx hb dX12_count_154 rfl (lv_at hl 1 rfl) ?_
      refine lv_aload_n hx hb dX12_count_155 rfl (lv_at hl 0 rfl) ?_
      obtain ⟨a9, e_a9, hF⟩ := xbd hF
      refine gf_X12_32 C0 hR t_v0 e_a9 dX12_count_156 ?_
      refine lv_iload_n hx hb dX12_count_159 rfl (lv_at hl 2 rfl) ?_
      obtain ⟨a10, e_a10, hF⟩ := xbd hF
      refine x_iald C0 hR e_a10 dX12_count_160 ?_
      refine lv_iadd hx hb dX12_count_161 ?_
      refine lv_istore_n (lv' := [(2, .int (v2 + a10)), (0, .ref v0), (3, .int v3)]) hx hb dX12_count_162 rfl hl (by decide) rfl (fun ls hl => ?_)
      refine lv_iinc (v := v3 + 1) (lv' := [(3, .int (v3 + 1)), (2, .int (v2 + a10)), (0, .ref v0)]) hx hb dX12_count_163 hl (k := 2) rfl rfl (by decide) rfl (fun ls hl => ?_)
      refine lv_goto (tgt := 146) hx hb dX12_count_166 (by decide) ?_
      exact ih _ _ _ _ t_v0 hF _ _ hR hS _ (lv_sub hl [2, 1, 0] rfl)
set_option maxHeartbeats 4000000 in
set_option maxRecDepth 100000 in
theorem jw_X12_count_178 {p : Program} {l : Launch} {e : Env} {s : State} {m : MethodId} {args : Array Value} {below : List Frame} {meth : Method} {c : Code} {D : xD} {ty : xTy} (C0 : xC D RX12 cX12_count 4 (some .int) p s m args meth c) {r : Int32} {h9 : xH} : ∀ n : Nat, ∀ (v0 : Nat) (v2 : Int32) (v3 : Int32) (h : xH), ty v0 = some (0, 12) → jf_X12_count_178 ty n v0 v2 v3 h = some (r, h9) → ∀ (H : Heap) (locs : List Loc), xRep D ty h H → xS ty s.heap H locs → ∀ ls : Array Slot, lv_has ls 4 [(0, .ref v0), (2, .int v2), (3, .int v3)] → W p l e jr_X12_count s m args below meth c H locs 0 0 (MQ below (xQ D ty (some (.int r)) h9) args s 0 0 (xdom ty)) (F0 m 178 ls []) := by
  have hx := C0.1
  have hb := C0.2.1
  have hown := C0.2.2.2.2.2.1
  have hts := C0.2.2.2.2.2.2.1
  intro n
  induction n with
  | zero =>
    intro v0 v2 v3 h t_v0 hF H locs hR hS ls hl
    cases hF
  | succ n ih =>
    intro v0 v2 v3 h t_v0 hF H locs hR hS ls hl
    rw [jf_X12_count_178_s] at hF
    refine lv_iload_n hx hb dX12_count_178 rfl (lv_at hl 2 rfl) ?_
    refine lv_aload_n hx hb dX12_count_179 rfl (lv_at hl 0 rfl) ?_
    refine gf_X12_178 C0 hR t_v0 dX12_count_180 ?_
    refine lv_icmp_ge (tgt := 221) hx hb dX12_count_183 (by decide) (fun c11 => ?_) (fun c11 => ?_)
    · have hF := xif hF c11
      refine lv_iload_n hx hb dX12_count_221 rfl (lv_at hl 1 rfl) ?_
      cases hF
      exact x_iret C0 hR hS dX12_count_222
    · have hF := xel hF c11
      refine lv_aload_n hx hb dX12_count_186 rfl (lv_at hl 0 rfl) ?_
      refine lv_iload_n hx hb dX12_count_187 rfl (lv_at hl 2 rfl) ?_
      obtain ⟨a12, e_a12, hF⟩ := xbd hF
      refine cl_X12_285 C0 hR hS e_a12 t_v0 ⟨(Nat.le_of_ble_eq_true rfl), (Nat.le_of_ble_eq_true rfl)⟩ hl.1 (Nat.le_of_ble_eq_true rfl) ⟨(Nat.le_of_ble_eq_true rfl), (Nat.le_of_ble_eq_true rfl)⟩ dX12_count_188 (fun H locs hR hS => ?_)
      refine lv_if_eq (tgt := 213) hx hb dX12_count_191 (by decide) (fun c13 => ?_) (fun c13 => ?_)
      · have hF := xif hF c13
        refine lv_iload_n hx hb dX12_count_213 rfl (lv_at hl 1 rfl) ?_
        refine lv_istore_n (lv' := [(2, .int v2), (0, .ref v0), (3, .int v3)]) hx hb dX12_count_214 rfl hl (by decide) rfl (fun ls hl => ?_)
        refine lv_iinc (v := v3 + 1) (lv' := [(3, .int (v3 + 1)), (2, .int v2), (0, .ref v0)]) hx hb dX12_count_215 hl (k := 2) rfl rfl (by decide) rfl (fun ls hl => ?_)
        refine lv_goto (tgt := 178) hx hb dX12_count_218 (by decide) ?_
        exact ih _ _ _ _ t_v0 hF _ _ hR hS _ (lv_sub hl [2, 1, 0] rfl)
      · have hF := xel hF c13
        refine lv_aload_n hx hb dX12_count_194 rfl (lv_at hl 0 rfl) ?_
        obtain ⟨a14, e_a14, hF⟩ := xbd hF
        refine gf_X12_32 C0 hR t_v0 e_a14 dX12_count_195 ?_
        refine lv_iload_n hx hb dX12_count_198 rfl (lv_at hl 2 rfl) ?_
        obtain ⟨a15, e_a15, hF⟩ := xbd hF
        refine x_iald C0 hR e_a15 dX12_count_199 ?_
        refine lv_iload_n hx hb dX12_count_200 rfl (lv_at hl 1 rfl) ?_
        refine lv_icmp_le (tgt := 213) hx hb dX12_count_201 (by decide) (fun c16 => ?_) (fun c16 => ?_)
        · have hF := xif hF c16
          refine lv_iload_n hx hb dX12_count_213 rfl (lv_at hl 1 rfl) ?_
          refine lv_istore_n (lv' := [(2, .int v2), (0, .ref v0), (3, .int v3)]) hx hb dX12_count_214 rfl hl (by decide) rfl (fun ls hl => ?_)
          refine lv_iinc (v := v3 + 1) (lv' := [(3, .int (v3 + 1)), (2, .int v2), (0, .ref v0)]) hx hb dX12_count_215 hl (k := 2) rfl rfl (by decide) rfl (fun ls hl => ?_)
          refine lv_goto (tgt := 178) hx hb dX12_count_218 (by decide) ?_
          exact ih _ _ _ _ t_v0 hF _ _ hR hS _ (lv_sub hl [2, 1, 0] rfl)
        · have hF := xel hF c16
          refine lv_aload_n hx hb dX12_count_204 rfl (lv_at hl 0 rfl) ?_
          obtain ⟨a17, e_a17, hF⟩ := xbd hF
          refine gf_X12_32 C0 hR t_v0 e_a17 dX12_count_205 ?_
          refine lv_iload_n hx hb dX12_count_208 rfl (lv_at hl 2 rfl) ?_
          obtain ⟨a18, e_a18, hF⟩ := xbd hF
          refine x_iald C0 hR e_a18 dX12_count_209 ?_
          refine lv_goto (tgt := 214) hx hb dX12_count_210 (by decide) ?_
          refine lv_istore_n (lv' := [(2, .int a18), (0, .ref v0), (3, .int v3)]) hx hb dX12_count_214 rfl hl (by decide) rfl (fun ls hl => ?_)
          refine lv_iinc (v := v3 + 1) (lv' := [(3, .int (v3 + 1)), (2, .int a18), (0, .ref v0)]) hx hb dX12_count_215 hl (k := 2) rfl rfl (by decide) rfl (fun ls hl => ?_)
          refine lv_goto (tgt := 178) hx hb dX12_count_218 (by decide) ?_
          exact ih _ _ _ _ t_v0 hF _ _ hR hS _ (lv_sub hl [2, 1, 0] rfl)
set_option maxHeartbeats 4000000 in
set_option maxRecDepth 100000 in
theorem jw_X12_count_225 {p : Program} {l : Launch} {e : Env} {s : State} {m : MethodId} {args : Array Value} {below : List Frame} {meth : Method} {c : Code} {D : xD} {ty : xTy} (C0 : xC D RX12 cX12_count 4 (some .int) p s m args meth c) {r : Int32} {h9 : xH} : ∀ n : Nat, ∀ (v0 : Nat) (v2 : Int32) (v3 : Int32) (h : xH), ty v0 = some (0, 12) → jf_X12_count_225 ty n v0 v2 v3 h = some (r, h9) → ∀ (H : Heap) (locs : List Loc), xRep D ty h H → xS ty s.heap H locs → ∀ ls : Array Slot, lv_has ls 4 [(0, .ref v0), (2, .int v2), (3, .int v3)] → W p l e jr_X12_count s m args below meth c H locs 0 0 (MQ below (xQ D ty (some (.int r)) h9) args s 0 0 (xdom ty)) (F0 m 225 ls []) := by
  have hx := C0.1
  have hb := C0.2.1
  have hown := C0.2.2.2.2.2.1
  have hts := C0.2.2.2.2.2.2.1
  intro n
  induction n with
  | zero =>
    intro v0 v2 v3 h t_v0 hF H locs hR hS ls hl
    cases hF
  | succ n ih =>
    intro v0 v2 v3 h t_v0 hF H locs hR hS ls hl
    rw [jf_X12_count_225_s] at hF
    refine lv_iload_n hx hb dX12_count_225 rfl (lv_at hl 2 rfl) ?_
    refine lv_aload_n hx hb dX12_count_226 rfl (lv_at hl 0 rfl) ?_
    refine gf_X12_178 C0 hR t_v0 dX12_count_227 ?_
    refine lv_icmp_ge (tgt := 263) hx hb dX12_count_230 (by decide) (fun c19 => ?_) (fun c19 => ?_)
    · have hF := xif hF c19
      refine lv_iload_n hx hb dX12_count_263 rfl (lv_at hl 1 rfl) ?_
      cases hF
      exact x_iret C0 hR hS dX12_count_264
    · have hF := xel hF c19
      refine lv_iload_n hx hb dX12_count_233 rfl (lv_at hl 1 rfl) ?_
      refine lv_aload_n hx hb dX12_count_234 rfl (lv_at hl 0 rfl) ?_
      refine lv_iload_n hx hb dX12_count_235 rfl (lv_at hl 2 rfl) ?_
      obtain ⟨a20, e_a20, hF⟩ := xbd hF
      refine cl_X12_285 C0 hR hS e_a20 t_v0 ⟨(Nat.le_of_ble_eq_true rfl), (Nat.le_of_ble_eq_true rfl)⟩ hl.1 (Nat.le_of_ble_eq_true rfl) ⟨(Nat.le_of_ble_eq_true rfl), (Nat.le_of_ble_eq_true rfl)⟩ dX12_count_236 (fun H locs hR hS => ?_)
      refine lv_if_eq (tgt := 254) hx hb dX12_count_239 (by decide) (fun c21 => ?_) (fun c21 => ?_)
      · have hF := xif hF c21
        refine lv_iconst (v := 0) hx hb dX12_count_254 (by decide) ?_
        refine lv_iadd hx hb dX12_count_255 ?_
        refine lv_istore_n (lv' := [(2, .int (v2 + 0)), (0, .ref v0), (3, .int v3)]) hx hb dX12_count_256 rfl hl (by decide) rfl (fun ls hl => ?_)
        refine lv_iinc (v := v3 + 1) (lv' := [(3, .int (v3 + 1)), (2, .int (v2 + 0)), (0, .ref v0)]) hx hb dX12_count_257 hl (k := 2) rfl rfl (by decide) rfl (fun ls hl => ?_)
        refine lv_goto (tgt := 225) hx hb dX12_count_260 (by decide) ?_
        exact ih _ _ _ _ t_v0 hF _ _ hR hS _ (lv_sub hl [2, 1, 0] rfl)
      · have hF := xel hF c21
        refine lv_aload_n hx hb dX12_count_242 rfl (lv_at hl 0 rfl) ?_
        refine lv_iload_n hx hb dX12_count_243 rfl (lv_at hl 2 rfl) ?_
        obtain ⟨a22, e_a22, hF⟩ := xbd hF
        refine cl_X12_355 C0 hR hS e_a22 t_v0 ⟨(Nat.le_of_ble_eq_true rfl), (Nat.le_of_ble_eq_true rfl)⟩ hl.1 (Nat.le_of_ble_eq_true rfl) ⟨(Nat.le_of_ble_eq_true rfl), (Nat.le_of_ble_eq_true rfl)⟩ dX12_count_244 (fun H locs hR hS => ?_)
        refine lv_if_eq (tgt := 254) hx hb dX12_count_247 (by decide) (fun c23 => ?_) (fun c23 => ?_)
        · have hF := xif hF c23
          refine lv_iconst (v := 0) hx hb dX12_count_254 (by decide) ?_
          refine lv_iadd hx hb dX12_count_255 ?_
          refine lv_istore_n (lv' := [(2, .int (v2 + 0)), (0, .ref v0), (3, .int v3)]) hx hb dX12_count_256 rfl hl (by decide) rfl (fun ls hl => ?_)
          refine lv_iinc (v := v3 + 1) (lv' := [(3, .int (v3 + 1)), (2, .int (v2 + 0)), (0, .ref v0)]) hx hb dX12_count_257 hl (k := 2) rfl rfl (by decide) rfl (fun ls hl => ?_)
          refine lv_goto (tgt := 225) hx hb dX12_count_260 (by decide) ?_
          exact ih _ _ _ _ t_v0 hF _ _ hR hS _ (lv_sub hl [2, 1, 0] rfl)
        · have hF := xel hF c23
          refine lv_iconst (v := 1) hx hb dX12_count_250 (by decide) ?_
          refine lv_goto (tgt := 255) hx hb dX12_count_251 (by decide) ?_
          refine lv_iadd hx hb dX12_count_255 ?_
          refine lv_istore_n (lv' := [(2, .int (v2 + 1)), (0, .ref v0), (3, .int v3)]) hx hb dX12_count_256 rfl hl (by decide) rfl (fun ls hl => ?_)
          refine lv_iinc (v := v3 + 1) (lv' := [(3, .int (v3 + 1)), (2, .int (v2 + 1)), (0, .ref v0)]) hx hb dX12_count_257 hl (k := 2) rfl rfl (by decide) rfl (fun ls hl => ?_)
          refine lv_goto (tgt := 225) hx hb dX12_count_260 (by decide) ?_
          exact ih _ _ _ _ t_v0 hF _ _ hR hS _ (lv_sub hl [2, 1, 0] rfl)
set_option maxHeartbeats 4000000 in
set_option maxRecDepth 100000 in
theorem jc_X12_count {l : Launch} {D : xD} {ty : xTy} {h : xH} {v0 : Nat} {v1 : Int32} {r : Int32} {h9 : xH} (t_v0 : ty v0 = some (0, 12)) (hF : jf_X12_count ty h v0 v1 = some (r, h9)) : Met l yX12_count (xws yX12_count cX12_count 4 (some .int)) jr_X12_count (xPc D ty h [.ref v0, .int v1]) (xQ D ty (some (.int r)) h9) 0 0 (xdom ty) := by
  refine x_met (by decide) ?_
  intro p e s m below meth c C0 hR
  generalize hargs : ([.ref v0, .int v1] : List Value).toArray = args at C0 ⊢
  have hx := C0.1
  have hb := C0.2.1
  have hown := C0.2.2.2.2.2.1
  have hts := C0.2.2.2.2.2.2.1
  have hS : xS ty s.heap s.heap [] := xS.rf
  have hl := lv_entry ([.ref v0, .int v1]) (n := 4) (Nat.le_of_ble_eq_true rfl)
  rw [← hargs, lg_entry_eq]
  rw [hargs]
  generalize (lg_sl ([.ref v0, .int v1]) ++ List.replicate (4 - (lg_sl ([.ref v0, .int v1])).length) Slot.unset).toArray = ls at hl ⊢
  have hl : lv_has ls 4 [(0, .ref v0), (1, .int v1)] := hl
  unfold jf_X12_count at hF
  refine lv_aload_n hx hb dX12_count_0 rfl (lv_at hl 0 rfl) ?_
  refine lv_iconst (v := 0) hx hb dX12_count_1 (by decide) ?_
  obtain ⟨h24, e_h24, hF⟩ := xbd hF
  refine pf_X12_101 C0 hR hS t_v0 dX12_count_2 (fun H locs hR hS => ?_)
  rw [Option.some.inj e_h24] at hR
  refine lv_iconst (v := 0) hx hb dX12_count_5 (by decide) ?_
  refine lv_istore_n (lv' := [(2, .int 0), (0, .ref v0), (1, .int v1)]) hx hb dX12_count_6 rfl hl (by decide) rfl (fun ls hl => ?_)
  refine lv_iload_n hx hb dX12_count_7 rfl (lv_at hl 2 rfl) ?_
  by_cases c25 : v1 = 0
  · have hF := xif hF c25
    refine lv_tableIn (tgt := 68) (off := 60) hx hb dX12_count_8 (by rw [c25]; decide) (by rw [c25]; decide) (by rw [c25]; rfl) (by decide) ?_
    refine lv_aload_n hx hb dX12_count_68 rfl (lv_at hl 1 rfl) ?_
    refine gf_X12_172 C0 hR t_v0 dX12_count_69 ?_
    cases hF
    exact x_iret C0 hR hS dX12_count_72
  · have hF := xel hF c25
    by_cases c26 : v1 = 1
    · have hF := xif hF c26
      refine lv_tableIn (tgt := 73) (off := 65) hx hb dX12_count_8 (by rw [c26]; decide) (by rw [c26]; decide) (by rw [c26]; rfl) (by decide) ?_
      refine lv_aload_n hx hb dX12_count_73 rfl (lv_at hl 1 rfl) ?_
      refine gf_X12_175 C0 hR t_v0 dX12_count_74 ?_
      cases hF
      exact x_iret C0 hR hS dX12_count_77
    · have hF := xel hF c26
      by_cases c27 : v1 = 2
      · have hF := xif hF c27
        refine lv_tableIn (tgt := 78) (off := 70) hx hb dX12_count_8 (by rw [c27]; decide) (by rw [c27]; decide) (by rw [c27]; rfl) (by decide) ?_
        refine lv_aload_n hx hb dX12_count_78 rfl (lv_at hl 1 rfl) ?_
        refine gf_X12_178 C0 hR t_v0 dX12_count_79 ?_
        cases hF
        exact x_iret C0 hR hS dX12_count_82
      · have hF := xel hF c27
        by_cases c28 : v1 = 3
        · have hF := xif hF c28
          refine lv_tableIn (tgt := 83) (off := 75) hx hb dX12_count_8 (by rw [c28]; decide) (by rw [c28]; decide) (by rw [c28]; rfl) (by decide) ?_
          refine lv_aload_n hx hb dX12_count_83 rfl (lv_at hl 1 rfl) ?_
          refine gf_X12_185 C0 hR t_v0 dX12_count_84 ?_
          obtain ⟨a29, e_a29, hF⟩ := xbd hF
          refine cl_X12_415 C0 hR hS e_a29  ⟨(Nat.le_of_ble_eq_true rfl), (Nat.le_of_ble_eq_true rfl)⟩ hl.1 (Nat.le_of_ble_eq_true rfl) ⟨(Nat.le_of_ble_eq_true rfl), (Nat.le_of_ble_eq_true rfl)⟩ dX12_count_87 (fun H locs hR hS => ?_)
          cases hF
          exact x_iret C0 hR hS dX12_count_90
        · have hF := xel hF c28
          by_cases c30 : v1 = 4
          · have hF := xif hF c30
            refine lv_tableIn (tgt := 91) (off := 83) hx hb dX12_count_8 (by rw [c30]; decide) (by rw [c30]; decide) (by rw [c30]; rfl) (by decide) ?_
            refine lv_aload_n hx hb dX12_count_91 rfl (lv_at hl 1 rfl) ?_
            obtain ⟨a31, e_a31, hF⟩ := xbd hF
            refine cl_X12_358 C0 hR hS e_a31 t_v0 ⟨(Nat.le_of_ble_eq_true rfl), (Nat.le_of_ble_eq_true rfl)⟩ hl.1 (Nat.le_of_ble_eq_true rfl) ⟨(Nat.le_of_ble_eq_true rfl), (Nat.le_of_ble_eq_true rfl)⟩ dX12_count_92 (fun H locs hR hS => ?_)
            cases hF
            exact x_iret C0 hR hS dX12_count_95
          · have hF := xel hF c30
            by_cases c32 : v1 = 5
            · have hF := xif hF c32
              refine lv_tableIn (tgt := 96) (off := 88) hx hb dX12_count_8 (by rw [c32]; decide) (by rw [c32]; decide) (by rw [c32]; rfl) (by decide) ?_
              refine lv_iconst (v := 0) hx hb dX12_count_96 (by decide) ?_
              refine lv_istore_n (lv' := [(3, .int 0), (2, .int 0), (0, .ref v0), (1, .int v1)]) hx hb dX12_count_97 rfl hl (by decide) rfl (fun ls hl => ?_)
              obtain ⟨_, hF⟩ := xlim_sp hF
              exact jw_X12_count_98 C0 _ _ _ _ _ t_v0 hF _ _ hR hS _ (lv_sub hl [2, 1, 0] rfl)
            · have hF := xel hF c32
              by_cases c33 : v1 = 6
              · have hF := xif hF c33
                refine lv_tableIn (tgt := 144) (off := 136) hx hb dX12_count_8 (by rw [c33]; decide) (by rw [c33]; decide) (by rw [c33]; rfl) (by decide) ?_
                refine lv_iconst (v := 0) hx hb dX12_count_144 (by decide) ?_
                refine lv_istore_n (lv' := [(3, .int 0), (2, .int 0), (0, .ref v0), (1, .int v1)]) hx hb dX12_count_145 rfl hl (by decide) rfl (fun ls hl => ?_)
                obtain ⟨_, hF⟩ := xlim_sp hF
                exact jw_X12_count_146 C0 _ _ _ _ _ t_v0 hF _ _ hR hS _ (lv_sub hl [2, 1, 0] rfl)
              · have hF := xel hF c33
                by_cases c34 : v1 = 7
                · have hF := xif hF c34
                  refine lv_tableIn (tgt := 171) (off := 163) hx hb dX12_count_8 (by rw [c34]; decide) (by rw [c34]; decide) (by rw [c34]; rfl) (by decide) ?_
                  refine lv_aload_n hx hb dX12_count_171 rfl (lv_at hl 1 rfl) ?_
                  refine gf_X12_188 C0 hR t_v0 dX12_count_172 ?_
                  cases hF
                  exact x_iret C0 hR hS dX12_count_175
                · have hF := xel hF c34
                  by_cases c35 : v1 = 8
                  · have hF := xif hF c35
                    refine lv_tableIn (tgt := 176) (off := 168) hx hb dX12_count_8 (by rw [c35]; decide) (by rw [c35]; decide) (by rw [c35]; rfl) (by decide) ?_
                    refine lv_iconst (v := 0) hx hb dX12_count_176 (by decide) ?_
                    refine lv_istore_n (lv' := [(3, .int 0), (2, .int 0), (0, .ref v0), (1, .int v1)]) hx hb dX12_count_177 rfl hl (by decide) rfl (fun ls hl => ?_)
                    obtain ⟨_, hF⟩ := xlim_sp hF
                    exact jw_X12_count_178 C0 _ _ _ _ _ t_v0 hF _ _ hR hS _ (lv_sub hl [2, 1, 0] rfl)
                  · have hF := xel hF c35
                    by_cases c36 : v1 = 9
                    · have hF := xif hF c36
                      refine lv_tableIn (tgt := 223) (off := 215) hx hb dX12_count_8 (by rw [c36]; decide) (by rw [c36]; decide) (by rw [c36]; rfl) (by decide) ?_
                      refine lv_iconst (v := 0) hx hb dX12_count_223 (by decide) ?_
                      refine lv_istore_n (lv' := [(3, .int 0), (2, .int 0), (0, .ref v0), (1, .int v1)]) hx hb dX12_count_224 rfl hl (by decide) rfl (fun ls hl => ?_)
                      obtain ⟨_, hF⟩ := xlim_sp hF
                      exact jw_X12_count_225 C0 _ _ _ _ _ t_v0 hF _ _ hR hS _ (lv_sub hl [2, 1, 0] rfl)
                    · have hF := xel hF c36
                      by_cases c37 : v1 = 10
                      · have hF := xif hF c37
                        refine lv_tableIn (tgt := 265) (off := 257) hx hb dX12_count_8 (by rw [c37]; decide) (by rw [c37]; decide) (by rw [c37]; rfl) (by decide) ?_
                        refine lv_aload_n hx hb dX12_count_265 rfl (lv_at hl 1 rfl) ?_
                        refine gf_X12_191 C0 hR t_v0 dX12_count_266 ?_
                        cases hF
                        exact x_iret C0 hR hS dX12_count_269
                      · have hF := xel hF c37
                        have g_c25 : ¬ (v1).toInt = 0 := fun z => c25 (Int32.toInt_inj.mp (z.trans (by decide)))
                        have g_c26 : ¬ (v1).toInt = 1 := fun z => c26 (Int32.toInt_inj.mp (z.trans (by decide)))
                        have g_c27 : ¬ (v1).toInt = 2 := fun z => c27 (Int32.toInt_inj.mp (z.trans (by decide)))
                        have g_c28 : ¬ (v1).toInt = 3 := fun z => c28 (Int32.toInt_inj.mp (z.trans (by decide)))
                        have g_c30 : ¬ (v1).toInt = 4 := fun z => c30 (Int32.toInt_inj.mp (z.trans (by decide)))
                        have g_c32 : ¬ (v1).toInt = 5 := fun z => c32 (Int32.toInt_inj.mp (z.trans (by decide)))
                        have g_c33 : ¬ (v1).toInt = 6 := fun z => c33 (Int32.toInt_inj.mp (z.trans (by decide)))
                        have g_c34 : ¬ (v1).toInt = 7 := fun z => c34 (Int32.toInt_inj.mp (z.trans (by decide)))
                        have g_c35 : ¬ (v1).toInt = 8 := fun z => c35 (Int32.toInt_inj.mp (z.trans (by decide)))
                        have g_c36 : ¬ (v1).toInt = 9 := fun z => c36 (Int32.toInt_inj.mp (z.trans (by decide)))
                        have g_c37 : ¬ (v1).toInt = 10 := fun z => c37 (Int32.toInt_inj.mp (z.trans (by decide)))
                        refine lv_tableOut (tgt := 270) hx hb dX12_count_8 (by omega) (by decide) ?_
                        refine lv_iconst (v := (-1)) hx hb dX12_count_270 (by decide) ?_
                        cases hF
                        exact x_iret C0 hR hS dX12_count_271
theorem xm_X12_count : xMw yX12_count cX12_count 4 (some .int) 1 := ⟨xin 1915 (by decide +kernel) rfl, xin 126 (by decide +kernel) rfl, by decide +kernel⟩
theorem xi_X12_count : Cond.instanceMethod yX12_count ∈ xT := xin 1913 (by decide +kernel) rfl
theorem xe_X12_count : Cond.selects yX12_count.cls yX12_count yX12_count ∈ xT := xin 1914 (by decide +kernel) rfl

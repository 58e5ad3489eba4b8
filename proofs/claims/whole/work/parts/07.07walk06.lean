theorem dX11_normal_0 : decode cX11_normal 0 = .ok (.iload_n 1, 1) := by decide +kernel
theorem dX11_normal_1 : decode cX11_normal 1 = .ok (.ifCond .lt 13, 3) := by decide +kernel
theorem dX11_normal_4 : decode cX11_normal 4 = .ok (.aload_n 0, 1) := by decide +kernel
theorem dX11_normal_5 : decode cX11_normal 5 = .ok (.getfield 32, 3) := by decide +kernel
theorem dX11_normal_8 : decode cX11_normal 8 = .ok (.getfield 128, 3) := by decide +kernel
theorem dX11_normal_11 : decode cX11_normal 11 = .ok (.ifCond .ne 5, 3) := by decide +kernel
theorem dX11_normal_14 : decode cX11_normal 14 = .ok (.iconst (-1), 1) := by decide +kernel
theorem dX11_normal_15 : decode cX11_normal 15 = .ok (.ireturn, 1) := by decide +kernel
theorem dX11_normal_16 : decode cX11_normal 16 = .ok (.aload_n 0, 1) := by decide +kernel
theorem dX11_normal_17 : decode cX11_normal 17 = .ok (.getfield 90, 3) := by decide +kernel
theorem dX11_normal_20 : decode cX11_normal 20 = .ok (.aload_n 0, 1) := by decide +kernel
theorem dX11_normal_21 : decode cX11_normal 21 = .ok (.getfield 20, 3) := by decide +kernel
theorem dX11_normal_24 : decode cX11_normal 24 = .ok (.aload_n 0, 1) := by decide +kernel
theorem dX11_normal_25 : decode cX11_normal 25 = .ok (.getfield 55, 3) := by decide +kernel
theorem dX11_normal_28 : decode cX11_normal 28 = .ok (.aload_n 0, 1) := by decide +kernel
theorem dX11_normal_29 : decode cX11_normal 29 = .ok (.getfield 32, 3) := by decide +kernel
theorem dX11_normal_32 : decode cX11_normal 32 = .ok (.invokevirtual 276, 3) := by decide +kernel
theorem dX11_normal_35 : decode cX11_normal 35 = .ok (.aload_n 0, 1) := by decide +kernel
theorem dX11_normal_36 : decode cX11_normal 36 = .ok (.getfield 90, 3) := by decide +kernel
theorem dX11_normal_39 : decode cX11_normal 39 = .ok (.getfield 283, 3) := by decide +kernel
theorem dX11_normal_42 : decode cX11_normal 42 = .ok (.iload_n 1, 1) := by decide +kernel
theorem dX11_normal_43 : decode cX11_normal 43 = .ok (.invokevirtual 178, 3) := by decide +kernel
theorem dX11_normal_46 : decode cX11_normal 46 = .ok (.ireturn, 1) := by decide +kernel
set_option maxHeartbeats 4000000 in
set_option maxRecDepth 100000 in
theorem jc_X11_normal {l : Launch} {D : xD} {ty : xTy} {h : xH} {v0 : Nat} {v1 : Int32} {r : Int32} {h9 : xH} (t_v0 : ty v0 = some (0, 11)) (hF : jf_X11_normal ty h v0 v1 = some (r, h9)) : Met l yX11_normal (xws yX11_normal cX11_normal 2 (some .int)) jr_X11_normal (xPc D ty h [.ref v0, .int v1]) (xQ D ty (some (.int r)) h9) 0 0 (xdom ty) := by
  refine x_met (by decide) ?_
  intro p e s m below meth c C0 hR
  generalize hargs : ([.ref v0, .int v1] : List Value).toArray = args at C0 ⊢
  have hx := C0.1
  have hb := C0.2.1
  have hown := C0.2.2.2.2.2.1
  have hts := C0.2.2.2.2.2.2.1
  have hS : xS ty s.heap s.heap [] := xS.rf
  have hl := lv_entry ([.ref v0, .int v1]) (n := 2) (Nat.le_of_ble_eq_true rfl)
  rw [← hargs, lg_entry_eq]
  rw [hargs]
  generalize (lg_sl ([.ref v0, .int v1]) ++ List.replicate (2 - (lg_sl ([.ref v0, .int v1])).length) Slot.unset).toArray = ls at hl ⊢
  have hl : lv_has ls 2 [(0, .ref v0), (1, .int v1)] := hl
  unfold jf_X11_normal at hF
  refine lv_iload_n hx hb dX11_normal_0 rfl (lv_at hl 1 rfl) ?_
  refine lv_if_lt (tgt := 14) hx hb dX11_normal_1 (by decide) (fun c1 => ?_) (fun c1 => ?_)
  · have hF := xif hF c1
    refine lv_iconst (v := (-1)) hx hb dX11_normal_14 (by decide) ?_
    cases hF
    exact x_iret C0 hR hS dX11_normal_15
  · have hF := xel hF c1
    refine lv_aload_n hx hb dX11_normal_4 rfl (lv_at hl 0 rfl) ?_
    obtain ⟨a2, e_a2, hF⟩ := xbd hF
    obtain ⟨e_a2, t_a2⟩ := xgo_sp e_a2
    refine gf_X11_32 C0 hR t_v0 e_a2 dX11_normal_5 ?_
    refine gf_X11_128 C0 hR t_a2 dX11_normal_8 ?_
    refine lv_if_ne (tgt := 16) hx hb dX11_normal_11 (by decide) (fun c3 => ?_) (fun c3 => ?_)
    · have hF := xel hF c3
      refine lv_aload_n hx hb dX11_normal_16 rfl (lv_at hl 0 rfl) ?_
      obtain ⟨a4, e_a4, hF⟩ := xbd hF
      obtain ⟨e_a4, t_a4⟩ := xgo_sp e_a4
      refine gf_X11_90 C0 hR t_v0 e_a4 dX11_normal_17 ?_
      refine lv_aload_n hx hb dX11_normal_20 rfl (lv_at hl 0 rfl) ?_
      obtain ⟨a5, e_a5, hF⟩ := xbd hF
      obtain ⟨e_a5, t_a5⟩ := xgo_sp e_a5
      refine gf_X11_20 C0 hR t_v0 e_a5 dX11_normal_21 ?_
      refine lv_aload_n hx hb dX11_normal_24 rfl (lv_at hl 0 rfl) ?_
      obtain ⟨a6, e_a6, hF⟩ := xbd hF
      obtain ⟨e_a6, t_a6⟩ := xgo_sp e_a6
      refine gf_X11_55 C0 hR t_v0 e_a6 dX11_normal_25 ?_
      refine lv_aload_n hx hb dX11_normal_28 rfl (lv_at hl 0 rfl) ?_
      obtain ⟨a7, e_a7, hF⟩ := xbd hF
      obtain ⟨e_a7, t_a7⟩ := xgo_sp e_a7
      refine gf_X11_32 C0 hR t_v0 e_a7 dX11_normal_29 ?_
      obtain ⟨h8, e_h8, hF⟩ := xbd hF
      refine cl_X11_276 C0 hR hS e_h8 t_a4 t_a5 t_a6 t_a7 ⟨(Nat.le_of_ble_eq_true rfl), (Nat.le_of_ble_eq_true rfl)⟩ hl.1 (Nat.le_of_ble_eq_true rfl) ⟨(Nat.le_of_ble_eq_true rfl), (Nat.le_of_ble_eq_true rfl)⟩ dX11_normal_32 (fun H locs hR hS => ?_)
      refine lv_aload_n hx hb dX11_normal_35 rfl (lv_at hl 0 rfl) ?_
      obtain ⟨a9, e_a9, hF⟩ := xbd hF
      obtain ⟨e_a9, t_a9⟩ := xgo_sp e_a9
      refine gf_X11_90 C0 hR t_v0 e_a9 dX11_normal_36 ?_
      obtain ⟨a10, e_a10, hF⟩ := xbd hF
      obtain ⟨e_a10, t_a10⟩ := xgo_sp e_a10
      refine gf_X11_283 C0 hR t_a9 e_a10 dX11_normal_39 ?_
      refine lv_iload_n hx hb dX11_normal_42 rfl (lv_at hl 1 rfl) ?_
      obtain ⟨a11, e_a11, hF⟩ := xbd hF
      refine cl_X11_178 C0 hR hS e_a11 t_a10 ⟨(Nat.le_of_ble_eq_true rfl), (Nat.le_of_ble_eq_true rfl)⟩ hl.1 (Nat.le_of_ble_eq_true rfl) ⟨(Nat.le_of_ble_eq_true rfl), (Nat.le_of_ble_eq_true rfl)⟩ dX11_normal_43 (fun H locs hR hS => ?_)
      cases hF
      exact x_iret C0 hR hS dX11_normal_46
    · have hF := xif hF c3
      refine lv_iconst (v := (-1)) hx hb dX11_normal_14 (by decide) ?_
      cases hF
      exact x_iret C0 hR hS dX11_normal_15
theorem xm_X11_normal : xMw yX11_normal cX11_normal 2 (some .int) 1 := ⟨xin 1077 (by decide +kernel) rfl, xin 114 (by decide +kernel) rfl, by decide +kernel⟩
theorem xi_X11_normal : Cond.instanceMethod yX11_normal ∈ xT := xin 1075 (by decide +kernel) rfl
theorem xe_X11_normal : Cond.selects yX11_normal.cls yX11_normal yX11_normal ∈ xT := xin 1076 (by decide +kernel) rfl
theorem dX11_apart_0 : decode cX11_apart 0 = .ok (.iload_n 1, 1) := by decide +kernel
theorem dX11_apart_1 : decode cX11_apart 1 = .ok (.ifCond .lt 8, 3) := by decide +kernel
theorem dX11_apart_4 : decode cX11_apart 4 = .ok (.iload_n 1, 1) := by decide +kernel
theorem dX11_apart_5 : decode cX11_apart 5 = .ok (.iconst 1, 1) := by decide +kernel
theorem dX11_apart_6 : decode cX11_apart 6 = .ok (.if_icmp .le 5, 3) := by decide +kernel
theorem dX11_apart_9 : decode cX11_apart 9 = .ok (.iconst (-1), 1) := by decide +kernel
theorem dX11_apart_10 : decode cX11_apart 10 = .ok (.ireturn, 1) := by decide +kernel
theorem dX11_apart_11 : decode cX11_apart 11 = .ok (.iconst 0, 1) := by decide +kernel
theorem dX11_apart_12 : decode cX11_apart 12 = .ok (.istore_n 2, 1) := by decide +kernel
theorem dX11_apart_13 : decode cX11_apart 13 = .ok (.aload_n 0, 1) := by decide +kernel
theorem dX11_apart_14 : decode cX11_apart 14 = .ok (.getfield 62, 3) := by decide +kernel
theorem dX11_apart_17 : decode cX11_apart 17 = .ok (.iconst 0, 1) := by decide +kernel
theorem dX11_apart_18 : decode cX11_apart 18 = .ok (.invokevirtual 289, 3) := by decide +kernel
theorem dX11_apart_21 : decode cX11_apart 21 = .ok (.istore_n 3, 1) := by decide +kernel
theorem dX11_apart_22 : decode cX11_apart 22 = .ok (.iconst 1, 1) := by decide +kernel
theorem dX11_apart_23 : decode cX11_apart 23 = .ok (.istore 4, 2) := by decide +kernel
theorem dX11_apart_25 : decode cX11_apart 25 = .ok (.iload 4, 2) := by decide +kernel
theorem dX11_apart_27 : decode cX11_apart 27 = .ok (.bipush 12, 2) := by decide +kernel
theorem dX11_apart_29 : decode cX11_apart 29 = .ok (.if_icmp .ge 32, 3) := by decide +kernel
theorem dX11_apart_32 : decode cX11_apart 32 = .ok (.aload_n 0, 1) := by decide +kernel
theorem dX11_apart_33 : decode cX11_apart 33 = .ok (.getfield 62, 3) := by decide +kernel
theorem dX11_apart_36 : decode cX11_apart 36 = .ok (.iload 4, 2) := by decide +kernel
theorem dX11_apart_38 : decode cX11_apart 38 = .ok (.invokevirtual 289, 3) := by decide +kernel
theorem dX11_apart_41 : decode cX11_apart 41 = .ok (.istore 5, 2) := by decide +kernel
theorem dX11_apart_43 : decode cX11_apart 43 = .ok (.iload 5, 2) := by decide +kernel
theorem dX11_apart_45 : decode cX11_apart 45 = .ok (.iload_n 3, 1) := by decide +kernel
theorem dX11_apart_46 : decode cX11_apart 46 = .ok (.if_icmp .ge 9, 3) := by decide +kernel
theorem dX11_apart_49 : decode cX11_apart 49 = .ok (.iload 5, 2) := by decide +kernel
theorem dX11_apart_51 : decode cX11_apart 51 = .ok (.istore_n 3, 1) := by decide +kernel
theorem dX11_apart_52 : decode cX11_apart 52 = .ok (.iload 4, 2) := by decide +kernel
theorem dX11_apart_54 : decode cX11_apart 54 = .ok (.istore_n 2, 1) := by decide +kernel
theorem dX11_apart_55 : decode cX11_apart 55 = .ok (.iinc 4 1, 3) := by decide +kernel
theorem dX11_apart_58 : decode cX11_apart 58 = .ok (.goto (-33), 3) := by decide +kernel
theorem dX11_apart_61 : decode cX11_apart 61 = .ok (.iload_n 1, 1) := by decide +kernel
theorem dX11_apart_62 : decode cX11_apart 62 = .ok (.ifCond .ne 7, 3) := by decide +kernel
theorem dX11_apart_65 : decode cX11_apart 65 = .ok (.iload_n 2, 1) := by decide +kernel
theorem dX11_apart_66 : decode cX11_apart 66 = .ok (.goto 4, 3) := by decide +kernel
theorem dX11_apart_69 : decode cX11_apart 69 = .ok (.iload_n 3, 1) := by decide +kernel
theorem dX11_apart_70 : decode cX11_apart 70 = .ok (.ireturn, 1) := by decide +kernel
theorem wl_X11_289 : Cond.methodLink RX11 289 yX9_largestClass ∈ xT := xin 1082 (by decide +kernel) rfl
section XN_X11_apart
variable {p : Program} {l : Launch} {e : Env} {R : Room} {s : State} {m : MethodId} {args : Array Value} {below : List Frame} {meth : Method} {c : Code} {H H0 : Heap} {locs : List Loc} {cells slots : Nat} {Q : State → Prop} {cc : ByteArray} {nL pc : Nat} {rt : Option FieldType} {ls : Array Slot} {rest : List Value} {D : xD} {ty : xTy} {h : xH}
theorem cl_X11_289 {v0 : Nat} {v1 : Int32} {r : Int32} (C0 : xC D RX11 cc nL rt p s m args meth c) (hR : xRep D ty h H) (hS : xS ty H0 H locs) (hF : jf_X9_largestClass ty h v0 v1 = some r) (t_v0 : ty v0 = some (0, 9)) (hrm : jr_X9_largestClass.frames + 1 ≤ R.frames ∧ 8 + (6 + 11) + jr_X9_largestClass.locals ≤ R.locals) (hsz : ls.size = nL) (hW : (rest.map fun v => v.category).sum ≤ 8) (hf : cells ≤ R.cells ∧ slots ≤ R.slots) (hdg : decode cc pc = .ok (.invokevirtual 289, 3)) (kk : ∀ (H1 : Heap) (locs1 : List Loc), xRep D ty h H1 → xS ty H0 H1 locs1 → W p l e R s m args below meth c H1 locs1 cells slots Q (F0 m (pc + 3) ls (.int r :: rest))) : W p l e R s m args below meth c H locs cells slots Q (F0 m pc ls (.int v1 :: .ref v0 :: rest)) := x_callV C0 (jc_X9_largestClass t_v0 hF) xm_X9_largestClass xi_X9_largestClass xe_X9_largestClass wl_X11_289 ⟨rfl, rfl, hrm⟩ (ci := 9) rfl t_v0 hR hS (As := [.int v1]) rfl hsz rfl hW hdg hf kk
end XN_X11_apart
set_option maxHeartbeats 4000000 in
set_option maxRecDepth 100000 in
theorem jw_X11_apart_25 {p : Program} {l : Launch} {e : Env} {s : State} {m : MethodId} {args : Array Value} {below : List Frame} {meth : Method} {c : Code} {D : xD} {ty : xTy} {h : xH} (C0 : xC D RX11 cX11_apart 6 (some .int) p s m args meth c) {r : Int32} : ∀ n : Nat, ∀ (v0 : Nat) (v1 : Int32) (v2 : Int32) (v3 : Int32) (v4 : Int32), ty v0 = some (0, 11) → jf_X11_apart_25 ty h n v0 v1 v2 v3 v4 = some r → ∀ (H : Heap) (locs : List Loc), xRep D ty h H → xS ty s.heap H locs → ∀ ls : Array Slot, lv_has ls 6 [(0, .ref v0), (1, .int v1), (2, .int v2), (3, .int v3), (4, .int v4)] → W p l e jr_X11_apart s m args below meth c H locs 0 0 (MQ below (xQ D ty (some (.int r)) h) args s 0 0 (xdom ty)) (F0 m 25 ls []) := by
  have hx := C0.1
  have hb := C0.2.1
  have hown := C0.2.2.2.2.2.1
  have hts := C0.2.2.2.2.2.2.1
  intro n
  induction n with
  | zero =>
    intro v0 v1 v2 v3 v4 t_v0 hF H locs hR hS ls hl
    cases hF
  | succ n ih =>
    intro v0 v1 v2 v3 v4 t_v0 hF H locs hR hS ls hl
    rw [jf_X11_apart_25_s] at hF
    refine lv_iload hx hb dX11_apart_25 (lv_at hl 4 rfl) ?_
    refine lv_bipush (v := 12) hx hb dX11_apart_27 (by decide) ?_
    refine lv_icmp_ge (tgt := 61) hx hb dX11_apart_29 (by decide) (fun c1 => ?_) (fun c1 => ?_)
    · have hF := xif hF c1
      refine lv_iload_n hx hb dX11_apart_61 rfl (lv_at hl 1 rfl) ?_
      refine lv_if_ne (tgt := 69) hx hb dX11_apart_62 (by decide) (fun c2 => ?_) (fun c2 => ?_)
      · have hF := xel hF c2
        refine lv_iload_n hx hb dX11_apart_69 rfl (lv_at hl 3 rfl) ?_
        cases hF
        exact x_iret C0 hR hS dX11_apart_70
      · have hF := xif hF c2
        refine lv_iload_n hx hb dX11_apart_65 rfl (lv_at hl 2 rfl) ?_
        refine lv_goto (tgt := 70) hx hb dX11_apart_66 (by decide) ?_
        cases hF
        exact x_iret C0 hR hS dX11_apart_70
    · have hF := xel hF c1
      refine lv_aload_n hx hb dX11_apart_32 rfl (lv_at hl 0 rfl) ?_
      obtain ⟨a3, e_a3, hF⟩ := xbd hF
      obtain ⟨e_a3, t_a3⟩ := xgo_sp e_a3
      refine gf_X11_62 C0 hR t_v0 e_a3 dX11_apart_33 ?_
      refine lv_iload hx hb dX11_apart_36 (lv_at hl 4 rfl) ?_
      obtain ⟨a4, e_a4, hF⟩ := xbd hF
      refine cl_X11_289 C0 hR hS e_a4 t_a3 ⟨(Nat.le_of_ble_eq_true rfl), (Nat.le_of_ble_eq_true rfl)⟩ hl.1 (Nat.le_of_ble_eq_true rfl) ⟨(Nat.le_of_ble_eq_true rfl), (Nat.le_of_ble_eq_true rfl)⟩ dX11_apart_38 (fun H locs hR hS => ?_)
      refine lv_istore (lv' := [(5, .int a4), (0, .ref v0), (1, .int v1), (2, .int v2), (3, .int v3), (4, .int v4)]) hx hb dX11_apart_41 hl (by decide) rfl (fun ls hl => ?_)
      refine lv_iload hx hb dX11_apart_43 (lv_at hl 0 rfl) ?_
      refine lv_iload_n hx hb dX11_apart_45 rfl (lv_at hl 4 rfl) ?_
      refine lv_icmp_ge (tgt := 55) hx hb dX11_apart_46 (by decide) (fun c5 => ?_) (fun c5 => ?_)
      · have hF := xif hF c5
        refine lv_iinc (v := v4 + 1) (lv' := [(4, .int (v4 + 1)), (5, .int a4), (0, .ref v0), (1, .int v1), (2, .int v2), (3, .int v3)]) hx hb dX11_apart_55 hl (k := 5) rfl rfl (by decide) rfl (fun ls hl => ?_)
        refine lv_goto (tgt := 25) hx hb dX11_apart_58 (by decide) ?_
        exact ih _ _ _ _ _ t_v0 hF _ _ hR hS _ (lv_sub hl [2, 3, 4, 5, 0] rfl)
      · have hF := xel hF c5
        refine lv_iload hx hb dX11_apart_49 (lv_at hl 0 rfl) ?_
        refine lv_istore_n (lv' := [(3, .int a4), (5, .int a4), (0, .ref v0), (1, .int v1), (2, .int v2), (4, .int v4)]) hx hb dX11_apart_51 rfl hl (by decide) rfl (fun ls hl => ?_)
        refine lv_iload hx hb dX11_apart_52 (lv_at hl 5 rfl) ?_
        refine lv_istore_n (lv' := [(2, .int v4), (3, .int a4), (5, .int a4), (0, .ref v0), (1, .int v1), (4, .int v4)]) hx hb dX11_apart_54 rfl hl (by decide) rfl (fun ls hl => ?_)
        refine lv_iinc (v := v4 + 1) (lv' := [(4, .int (v4 + 1)), (2, .int v4), (3, .int a4), (5, .int a4), (0, .ref v0), (1, .int v1)]) hx hb dX11_apart_55 hl (k := 5) rfl rfl (by decide) rfl (fun ls hl => ?_)
        refine lv_goto (tgt := 25) hx hb dX11_apart_58 (by decide) ?_
        exact ih _ _ _ _ _ t_v0 hF _ _ hR hS _ (lv_sub hl [4, 5, 1, 2, 0] rfl)
set_option maxHeartbeats 4000000 in
set_option maxRecDepth 100000 in
theorem jc_X11_apart {l : Launch} {D : xD} {ty : xTy} {h : xH} {v0 : Nat} {v1 : Int32} {r : Int32} (t_v0 : ty v0 = some (0, 11)) (hF : jf_X11_apart ty h v0 v1 = some r) : Met l yX11_apart (xws yX11_apart cX11_apart 6 (some .int)) jr_X11_apart (xPc D ty h [.ref v0, .int v1]) (xQ D ty (some (.int r)) h) 0 0 (xdom ty) := by
  refine x_met (by decide) ?_
  intro p e s m below meth c C0 hR
  generalize hargs : ([.ref v0, .int v1] : List Value).toArray = args at C0 ⊢
  have hx := C0.1
  have hb := C0.2.1
  have hown := C0.2.2.2.2.2.1
  have hts := C0.2.2.2.2.2.2.1
  have hS : xS ty s.heap s.heap [] := xS.rf
  have hl := lv_entry ([.ref v0, .int v1]) (n := 6) (Nat.le_of_ble_eq_true rfl)
  rw [← hargs, lg_entry_eq]
  rw [hargs]
  generalize (lg_sl ([.ref v0, .int v1]) ++ List.replicate (6 - (lg_sl ([.ref v0, .int v1])).length) Slot.unset).toArray = ls at hl ⊢
  have hl : lv_has ls 6 [(0, .ref v0), (1, .int v1)] := hl
  unfold jf_X11_apart at hF
  refine lv_iload_n hx hb dX11_apart_0 rfl (lv_at hl 1 rfl) ?_
  refine lv_if_lt (tgt := 9) hx hb dX11_apart_1 (by decide) (fun c6 => ?_) (fun c6 => ?_)
  · have hF := xif hF c6
    refine lv_iconst (v := (-1)) hx hb dX11_apart_9 (by decide) ?_
    cases hF
    exact x_iret C0 hR hS dX11_apart_10
  · have hF := xel hF c6
    refine lv_iload_n hx hb dX11_apart_4 rfl (lv_at hl 1 rfl) ?_
    refine lv_iconst (v := 1) hx hb dX11_apart_5 (by decide) ?_
    refine lv_icmp_le (tgt := 11) hx hb dX11_apart_6 (by decide) (fun c7 => ?_) (fun c7 => ?_)
    · have hF := xif hF c7
      refine lv_iconst (v := 0) hx hb dX11_apart_11 (by decide) ?_
      refine lv_istore_n (lv' := [(2, .int 0), (0, .ref v0), (1, .int v1)]) hx hb dX11_apart_12 rfl hl (by decide) rfl (fun ls hl => ?_)
      refine lv_aload_n hx hb dX11_apart_13 rfl (lv_at hl 1 rfl) ?_
      obtain ⟨a8, e_a8, hF⟩ := xbd hF
      obtain ⟨e_a8, t_a8⟩ := xgo_sp e_a8
      refine gf_X11_62 C0 hR t_v0 e_a8 dX11_apart_14 ?_
      refine lv_iconst (v := 0) hx hb dX11_apart_17 (by decide) ?_
      obtain ⟨a9, e_a9, hF⟩ := xbd hF
      refine cl_X11_289 C0 hR hS e_a9 t_a8 ⟨(Nat.le_of_ble_eq_true rfl), (Nat.le_of_ble_eq_true rfl)⟩ hl.1 (Nat.le_of_ble_eq_true rfl) ⟨(Nat.le_of_ble_eq_true rfl), (Nat.le_of_ble_eq_true rfl)⟩ dX11_apart_18 (fun H locs hR hS => ?_)
      refine lv_istore_n (lv' := [(3, .int a9), (2, .int 0), (0, .ref v0), (1, .int v1)]) hx hb dX11_apart_21 rfl hl (by decide) rfl (fun ls hl => ?_)
      refine lv_iconst (v := 1) hx hb dX11_apart_22 (by decide) ?_
      refine lv_istore (lv' := [(4, .int 1), (3, .int a9), (2, .int 0), (0, .ref v0), (1, .int v1)]) hx hb dX11_apart_23 hl (by decide) rfl (fun ls hl => ?_)
      obtain ⟨_, hF⟩ := xlim_sp hF
      exact jw_X11_apart_25 C0 _ _ _ _ _ _ t_v0 hF _ _ hR hS _ (lv_sub hl [3, 4, 2, 1, 0] rfl)
    · have hF := xel hF c7
      refine lv_iconst (v := (-1)) hx hb dX11_apart_9 (by decide) ?_
      cases hF
      exact x_iret C0 hR hS dX11_apart_10
theorem xm_X11_apart : xMw yX11_apart cX11_apart 6 (some .int) 1 := ⟨xin 1081 (by decide +kernel) rfl, xin 114 (by decide +kernel) rfl, by decide +kernel⟩
theorem xi_X11_apart : Cond.instanceMethod yX11_apart ∈ xT := xin 1079 (by decide +kernel) rfl
theorem xe_X11_apart : Cond.selects yX11_apart.cls yX11_apart yX11_apart ∈ xT := xin 1080 (by decide +kernel) rfl
theorem dX11_width_0 : decode cX11_width 0 = .ok (.iload_n 1, 1) := by decide +kernel
theorem dX11_width_1 : decode cX11_width 1 = .ok (.ifCond .lt 22, 3) := by decide +kernel
theorem dX11_width_4 : decode cX11_width 4 = .ok (.iload_n 1, 1) := by decide +kernel
theorem dX11_width_5 : decode cX11_width 5 = .ok (.bipush 12, 2) := by decide +kernel
theorem dX11_width_7 : decode cX11_width 7 = .ok (.if_icmp .ge 16, 3) := by decide +kernel
theorem dX11_width_10 : decode cX11_width 10 = .ok (.aload_n 0, 1) := by decide +kernel
theorem dX11_width_11 : decode cX11_width 11 = .ok (.getfield 62, 3) := by decide +kernel
theorem dX11_width_14 : decode cX11_width 14 = .ok (.iload_n 1, 1) := by decide +kernel
theorem dX11_width_15 : decode cX11_width 15 = .ok (.iconst 1, 1) := by decide +kernel
theorem dX11_width_16 : decode cX11_width 16 = .ok (.iadd, 1) := by decide +kernel
theorem dX11_width_17 : decode cX11_width 17 = .ok (.invokevirtual 292, 3) := by decide +kernel
theorem dX11_width_20 : decode cX11_width 20 = .ok (.goto 4, 3) := by decide +kernel
theorem dX11_width_23 : decode cX11_width 23 = .ok (.iconst (-1), 1) := by decide +kernel
theorem dX11_width_24 : decode cX11_width 24 = .ok (.ireturn, 1) := by decide +kernel
theorem wl_X11_292 : Cond.methodLink RX11 292 yX9_nodesOfLength ∈ xT := xin 1095 (by decide +kernel) rfl
section XN_X11_width
variable {p : Program} {l : Launch} {e : Env} {R : Room} {s : State} {m : MethodId} {args : Array Value} {below : List Frame} {meth : Method} {c : Code} {H H0 : Heap} {locs : List Loc} {cells slots : Nat} {Q : State → Prop} {cc : ByteArray} {nL pc : Nat} {rt : Option FieldType} {ls : Array Slot} {rest : List Value} {D : xD} {ty : xTy} {h : xH}
theorem cl_X11_292 {v0 : Nat} {v1 : Int32} {r : Int32} (C0 : xC D RX11 cc nL rt p s m args meth c) (hR : xRep D ty h H) (hS : xS ty H0 H locs) (hF : jf_X9_nodesOfLength ty h v0 v1 = some r) (t_v0 : ty v0 = some (0, 9)) (hrm : jr_X9_nodesOfLength.frames + 1 ≤ R.frames ∧ 8 + (4 + 11) + jr_X9_nodesOfLength.locals ≤ R.locals) (hsz : ls.size = nL) (hW : (rest.map fun v => v.category).sum ≤ 8) (hf : cells ≤ R.cells ∧ slots ≤ R.slots) (hdg : decode cc pc = .ok (.invokevirtual 292, 3)) (kk : ∀ (H1 : Heap) (locs1 : List Loc), xRep D ty h H1 → xS ty H0 H1 locs1 → W p l e R s m args below meth c H1 locs1 cells slots Q (F0 m (pc + 3) ls (.int r :: rest))) : W p l e R s m args below meth c H locs cells slots Q (F0 m pc ls (.int v1 :: .ref v0 :: rest)) := x_callV C0 (jc_X9_nodesOfLength t_v0 hF) xm_X9_nodesOfLength xi_X9_nodesOfLength xe_X9_nodesOfLength wl_X11_292 ⟨rfl, rfl, hrm⟩ (ci := 9) rfl t_v0 hR hS (As := [.int v1]) rfl hsz rfl hW hdg hf kk
end XN_X11_width
set_option maxHeartbeats 4000000 in
set_option maxRecDepth 100000 in
theorem jc_X11_width {l : Launch} {D : xD} {ty : xTy} {h : xH} {v0 : Nat} {v1 : Int32} {r : Int32} (t_v0 : ty v0 = some (0, 11)) (hF : jf_X11_width ty h v0 v1 = some r) : Met l yX11_width (xws yX11_width cX11_width 2 (some .int)) jr_X11_width (xPc D ty h [.ref v0, .int v1]) (xQ D ty (some (.int r)) h) 0 0 (xdom ty) := by
  refine x_met (by decide) ?_
  intro p e s m below meth c C0 hR
  generalize hargs : ([.ref v0, .int v1] : List Value).toArray = args at C0 ⊢
  have hx := C0.1
  have hb := C0.2.1
  have hown := C0.2.2.2.2.2.1
  have hts := C0.2.2.2.2.2.2.1
  have hS : xS ty s.heap s.heap [] := xS.rf
  have hl := lv_entry ([.ref v0, .int v1]) (n := 2) (Nat.le_of_ble_eq_true rfl)
  rw [← hargs, lg_entry_eq]
  rw [hargs]
  generalize (lg_sl ([.ref v0, .int v1]) ++ List.replicate (2 - (lg_sl ([.ref v0, .int v1])).length) Slot.unset).toArray = ls at hl ⊢
  have hl : lv_has ls 2 [(0, .ref v0), (1, .int v1)] := hl
  unfold jf_X11_width at hF
  refine lv_iload_n hx hb dX11_width_0 rfl (lv_at hl 1 rfl) ?_
  refine lv_if_lt (tgt := 23) hx hb dX11_width_1 (by decide) (fun c1 => ?_) (fun c1 => ?_)
  · have hF := xif hF c1
    refine lv_iconst (v := (-1)) hx hb dX11_width_23 (by decide) ?_
    cases hF
    exact x_iret C0 hR hS dX11_width_24
  · have hF := xel hF c1
    refine lv_iload_n hx hb dX11_width_4 rfl (lv_at hl 1 rfl) ?_
    refine lv_bipush (v := 12) hx hb dX11_width_5 (by decide) ?_
    refine lv_icmp_ge (tgt := 23) hx hb dX11_width_7 (by decide) (fun c2 => ?_) (fun c2 => ?_)
    · have hF := xif hF c2
      refine lv_iconst (v := (-1)) hx hb dX11_width_23 (by decide) ?_
      cases hF
      exact x_iret C0 hR hS dX11_width_24
    · have hF := xel hF c2
      refine lv_aload_n hx hb dX11_width_10 rfl (lv_at hl 0 rfl) ?_
      obtain ⟨a3, e_a3, hF⟩ := xbd hF
      obtain ⟨e_a3, t_a3⟩ := xgo_sp e_a3
      refine gf_X11_62 C0 hR t_v0 e_a3 dX11_width_11 ?_
      refine lv_iload_n hx hb dX11_width_14 rfl (lv_at hl 1 rfl) ?_
      refine lv_iconst (v := 1) hx hb dX11_width_15 (by decide) ?_
      refine lv_iadd hx hb dX11_width_16 ?_
      obtain ⟨a4, e_a4, hF⟩ := xbd hF
      refine cl_X11_292 C0 hR hS e_a4 t_a3 ⟨(Nat.le_of_ble_eq_true rfl), (Nat.le_of_ble_eq_true rfl)⟩ hl.1 (Nat.le_of_ble_eq_true rfl) ⟨(Nat.le_of_ble_eq_true rfl), (Nat.le_of_ble_eq_true rfl)⟩ dX11_width_17 (fun H locs hR hS => ?_)
      refine lv_goto (tgt := 24) hx hb dX11_width_20 (by decide) ?_
      cases hF
      exact x_iret C0 hR hS dX11_width_24
theorem xm_X11_width : xMw yX11_width cX11_width 2 (some .int) 1 := ⟨xin 1094 (by decide +kernel) rfl, xin 114 (by decide +kernel) rfl, by decide +kernel⟩
theorem xi_X11_width : Cond.instanceMethod yX11_width ∈ xT := xin 1092 (by decide +kernel) rfl
theorem xe_X11_width : Cond.selects yX11_width.cls yX11_width yX11_width ∈ xT := xin 1093 (by decide +kernel) rfl
theorem dX11_order_0 : decode cX11_order 0 = .ok (.iload_n 1, 1) := by decide +kernel
theorem dX11_order_1 : decode cX11_order 1 = .ok (.ifCond .ge 5, 3) := by decide +kernel
theorem dX11_order_4 : decode cX11_order 4 = .ok (.iconst (-1), 1) := by decide +kernel
theorem dX11_order_5 : decode cX11_order 5 = .ok (.ireturn, 1) := by decide +kernel
theorem dX11_order_6 : decode cX11_order 6 = .ok (.iload_n 1, 1) := by decide +kernel
theorem dX11_order_7 : decode cX11_order 7 = .ok (.aload_n 0, 1) := by decide +kernel
theorem dX11_order_8 : decode cX11_order 8 = .ok (.getfield 62, 3) := by decide +kernel
theorem dX11_order_11 : decode cX11_order 11 = .ok (.getfield 194, 3) := by decide +kernel
theorem dX11_order_14 : decode cX11_order 14 = .ok (.if_icmp .ge 14, 3) := by decide +kernel
theorem dX11_order_17 : decode cX11_order 17 = .ok (.aload_n 0, 1) := by decide +kernel
theorem dX11_order_18 : decode cX11_order 18 = .ok (.getfield 62, 3) := by decide +kernel
theorem dX11_order_21 : decode cX11_order 21 = .ok (.iload_n 1, 1) := by decide +kernel
theorem dX11_order_22 : decode cX11_order 22 = .ok (.invokevirtual 195, 3) := by decide +kernel
theorem dX11_order_25 : decode cX11_order 25 = .ok (.goto 5, 3) := by decide +kernel
theorem dX11_order_28 : decode cX11_order 28 = .ok (.bipush (-2), 2) := by decide +kernel
theorem dX11_order_30 : decode cX11_order 30 = .ok (.ireturn, 1) := by decide +kernel
set_option maxHeartbeats 4000000 in
set_option maxRecDepth 100000 in
theorem jc_X11_order {l : Launch} {D : xD} {ty : xTy} {h : xH} {v0 : Nat} {v1 : Int32} {r : Int32} (t_v0 : ty v0 = some (0, 11)) (hF : jf_X11_order ty h v0 v1 = some r) : Met l yX11_order (xws yX11_order cX11_order 2 (some .int)) jr_X11_order (xPc D ty h [.ref v0, .int v1]) (xQ D ty (some (.int r)) h) 0 0 (xdom ty) := by
  refine x_met (by decide) ?_
  intro p e s m below meth c C0 hR
  generalize hargs : ([.ref v0, .int v1] : List Value).toArray = args at C0 ⊢
  have hx := C0.1
  have hb := C0.2.1
  have hown := C0.2.2.2.2.2.1
  have hts := C0.2.2.2.2.2.2.1
  have hS : xS ty s.heap s.heap [] := xS.rf
  have hl := lv_entry ([.ref v0, .int v1]) (n := 2) (Nat.le_of_ble_eq_true rfl)
  rw [← hargs, lg_entry_eq]
  rw [hargs]
  generalize (lg_sl ([.ref v0, .int v1]) ++ List.replicate (2 - (lg_sl ([.ref v0, .int v1])).length) Slot.unset).toArray = ls at hl ⊢
  have hl : lv_has ls 2 [(0, .ref v0), (1, .int v1)] := hl
  unfold jf_X11_order at hF
  refine lv_iload_n hx hb dX11_order_0 rfl (lv_at hl 1 rfl) ?_
  refine lv_if_ge (tgt := 6) hx hb dX11_order_1 (by decide) (fun c1 => ?_) (fun c1 => ?_)
  · have hF := xif hF c1
    refine lv_iload_n hx hb dX11_order_6 rfl (lv_at hl 1 rfl) ?_
    refine lv_aload_n hx hb dX11_order_7 rfl (lv_at hl 0 rfl) ?_
    obtain ⟨a2, e_a2, hF⟩ := xbd hF
    obtain ⟨e_a2, t_a2⟩ := xgo_sp e_a2
    refine gf_X11_62 C0 hR t_v0 e_a2 dX11_order_8 ?_
    refine gf_X11_194 C0 hR t_a2 dX11_order_11 ?_
    refine lv_icmp_ge (tgt := 28) hx hb dX11_order_14 (by decide) (fun c3 => ?_) (fun c3 => ?_)
    · have hF := xif hF c3
      refine lv_bipush (v := (-2)) hx hb dX11_order_28 (by decide) ?_
      cases hF
      exact x_iret C0 hR hS dX11_order_30
    · have hF := xel hF c3
      refine lv_aload_n hx hb dX11_order_17 rfl (lv_at hl 0 rfl) ?_
      obtain ⟨a4, e_a4, hF⟩ := xbd hF
      obtain ⟨e_a4, t_a4⟩ := xgo_sp e_a4
      refine gf_X11_62 C0 hR t_v0 e_a4 dX11_order_18 ?_
      refine lv_iload_n hx hb dX11_order_21 rfl (lv_at hl 1 rfl) ?_
      obtain ⟨a5, e_a5, hF⟩ := xbd hF
      refine cl_X11_195 C0 hR hS e_a5 t_a4 ⟨(Nat.le_of_ble_eq_true rfl), (Nat.le_of_ble_eq_true rfl)⟩ hl.1 (Nat.le_of_ble_eq_true rfl) ⟨(Nat.le_of_ble_eq_true rfl), (Nat.le_of_ble_eq_true rfl)⟩ dX11_order_22 (fun H locs hR hS => ?_)
      refine lv_goto (tgt := 30) hx hb dX11_order_25 (by decide) ?_
      cases hF
      exact x_iret C0 hR hS dX11_order_30
  · have hF := xel hF c1
    refine lv_iconst (v := (-1)) hx hb dX11_order_4 (by decide) ?_
    cases hF
    exact x_iret C0 hR hS dX11_order_5
theorem xm_X11_order : xMw yX11_order cX11_order 2 (some .int) 1 := ⟨xin 1099 (by decide +kernel) rfl, xin 114 (by decide +kernel) rfl, by decide +kernel⟩
theorem xi_X11_order : Cond.instanceMethod yX11_order ∈ xT := xin 1097 (by decide +kernel) rfl
theorem xe_X11_order : Cond.selects yX11_order.cls yX11_order yX11_order ∈ xT := xin 1098 (by decide +kernel) rfl
theorem dX11_chance_0 : decode cX11_chance 0 = .ok (.iload_n 1, 1) := by decide +kernel
theorem dX11_chance_1 : decode cX11_chance 1 = .ok (.ifCond .lt 10, 3) := by decide +kernel
theorem dX11_chance_4 : decode cX11_chance 4 = .ok (.iload_n 2, 1) := by decide +kernel
theorem dX11_chance_5 : decode cX11_chance 5 = .ok (.invokestatic 191, 3) := by decide +kernel
theorem dX11_chance_8 : decode cX11_chance 8 = .ok (.ifCond .ne 5, 3) := by decide +kernel
theorem dX11_chance_11 : decode cX11_chance 11 = .ok (.iconst (-1), 1) := by decide +kernel
theorem dX11_chance_12 : decode cX11_chance 12 = .ok (.ireturn, 1) := by decide +kernel
theorem dX11_chance_13 : decode cX11_chance 13 = .ok (.aload_n 0, 1) := by decide +kernel
theorem dX11_chance_14 : decode cX11_chance 14 = .ok (.getfield 97, 3) := by decide +kernel
theorem dX11_chance_17 : decode cX11_chance 17 = .ok (.iload_n 1, 1) := by decide +kernel
theorem dX11_chance_18 : decode cX11_chance 18 = .ok (.invokevirtual 295, 3) := by decide +kernel
theorem dX11_chance_21 : decode cX11_chance 21 = .ok (.iconst 0, 1) := by decide +kernel
theorem dX11_chance_22 : decode cX11_chance 22 = .ok (.istore_n 3, 1) := by decide +kernel
theorem dX11_chance_23 : decode cX11_chance 23 = .ok (.iconst 0, 1) := by decide +kernel
theorem dX11_chance_24 : decode cX11_chance 24 = .ok (.istore 4, 2) := by decide +kernel
theorem dX11_chance_26 : decode cX11_chance 26 = .ok (.iload 4, 2) := by decide +kernel
theorem dX11_chance_28 : decode cX11_chance 28 = .ok (.bipush 10, 2) := by decide +kernel
theorem dX11_chance_30 : decode cX11_chance 30 = .ok (.if_icmp .ge 52, 3) := by decide +kernel
theorem dX11_chance_33 : decode cX11_chance 33 = .ok (.aload_n 0, 1) := by decide +kernel
theorem dX11_chance_34 : decode cX11_chance 34 = .ok (.getfield 97, 3) := by decide +kernel
theorem dX11_chance_37 : decode cX11_chance 37 = .ok (.aload_n 0, 1) := by decide +kernel
theorem dX11_chance_38 : decode cX11_chance 38 = .ok (.getfield 20, 3) := by decide +kernel
theorem dX11_chance_41 : decode cX11_chance 41 = .ok (.aload_n 0, 1) := by decide +kernel
theorem dX11_chance_42 : decode cX11_chance 42 = .ok (.getfield 36, 3) := by decide +kernel
theorem dX11_chance_45 : decode cX11_chance 45 = .ok (.invokevirtual 298, 3) := by decide +kernel
theorem dX11_chance_48 : decode cX11_chance 48 = .ok (.ifCond .ne 6, 3) := by decide +kernel
theorem dX11_chance_51 : decode cX11_chance 51 = .ok (.bipush (-2), 2) := by decide +kernel
theorem dX11_chance_53 : decode cX11_chance 53 = .ok (.ireturn, 1) := by decide +kernel
theorem dX11_chance_54 : decode cX11_chance 54 = .ok (.aload_n 0, 1) := by decide +kernel
theorem dX11_chance_55 : decode cX11_chance 55 = .ok (.iload_n 2, 1) := by decide +kernel
theorem dX11_chance_56 : decode cX11_chance 56 = .ok (.aload_n 0, 1) := by decide +kernel
theorem dX11_chance_57 : decode cX11_chance 57 = .ok (.getfield 36, 3) := by decide +kernel
theorem dX11_chance_60 : decode cX11_chance 60 = .ok (.aload_n 0, 1) := by decide +kernel
theorem dX11_chance_61 : decode cX11_chance 61 = .ok (.getfield 55, 3) := by decide +kernel
theorem dX11_chance_64 : decode cX11_chance 64 = .ok (.getfield 198, 3) := by decide +kernel
theorem dX11_chance_67 : decode cX11_chance 67 = .ok (.invokevirtual 201, 3) := by decide +kernel
theorem dX11_chance_70 : decode cX11_chance 70 = .ok (.ifCond .eq 6, 3) := by decide +kernel
theorem dX11_chance_73 : decode cX11_chance 73 = .ok (.iinc 3 1, 3) := by decide +kernel
theorem dX11_chance_76 : decode cX11_chance 76 = .ok (.iinc 4 1, 3) := by decide +kernel
theorem dX11_chance_79 : decode cX11_chance 79 = .ok (.goto (-53), 3) := by decide +kernel
theorem dX11_chance_82 : decode cX11_chance 82 = .ok (.iload_n 3, 1) := by decide +kernel
theorem dX11_chance_83 : decode cX11_chance 83 = .ok (.ireturn, 1) := by decide +kernel
theorem wl_X11_295 : Cond.methodLink RX11 295 yX1_seed ∈ xT := xin 1104 (by decide +kernel) rfl
theorem wl_X11_298 : Cond.methodLink RX11 298 yX1_drawTerm ∈ xT := xin 1108 (by decide +kernel) rfl
theorem wf_X11_97 : Cond.fieldLink RX11 97 "TermShelf" "drawer" "LTermShelf$Drawer;" ∈ xT := xin 473 (by decide +kernel) rfl
section XN_X11_chance
variable {p : Program} {l : Launch} {e : Env} {R : Room} {s : State} {m : MethodId} {args : Array Value} {below : List Frame} {meth : Method} {c : Code} {H H0 : Heap} {locs : List Loc} {cells slots : Nat} {Q : State → Prop} {cc : ByteArray} {nL pc : Nat} {rt : Option FieldType} {ls : Array Slot} {rest : List Value} {D : xD} {ty : xTy} {h : xH}
theorem cl_X11_295 {v0 : Nat} {v1 : Int32} {h9 : xH} (C0 : xC D RX11 cc nL rt p s m args meth c) (hR : xRep D ty h H) (hS : xS ty H0 H locs) (hF : jf_X1_seed ty h v0 v1 = some h9) (t_v0 : ty v0 = some (0, 1)) (hrm : jr_X1_seed.frames + 1 ≤ R.frames ∧ 8 + (2 + 11) + jr_X1_seed.locals ≤ R.locals) (hsz : ls.size = nL) (hW : (rest.map fun v => v.category).sum ≤ 8) (hf : cells ≤ R.cells ∧ slots ≤ R.slots) (hdg : decode cc pc = .ok (.invokevirtual 295, 3)) (kk : ∀ (H1 : Heap) (locs1 : List Loc), xRep D ty h9 H1 → xS ty H0 H1 locs1 → W p l e R s m args below meth c H1 locs1 cells slots Q (F0 m (pc + 3) ls rest)) : W p l e R s m args below meth c H locs cells slots Q (F0 m pc ls (.int v1 :: .ref v0 :: rest)) := x_callV C0 (jc_X1_seed t_v0 hF) xm_X1_seed xi_X1_seed xe_X1_seed wl_X11_295 ⟨rfl, rfl, hrm⟩ (ci := 1) rfl t_v0 hR hS (As := [.int v1]) rfl hsz rfl hW hdg hf kk
theorem cl_X11_298 {v0 : Nat} {v1 : Nat} {v2 : Nat} {r : Int32} {h9 : xH} (C0 : xC D RX11 cc nL rt p s m args meth c) (hR : xRep D ty h H) (hS : xS ty H0 H locs) (hF : jf_X1_drawTerm ty h v0 v1 v2 = some (r, h9)) (t_v0 : ty v0 = some (0, 1)) (t_v1 : ty v1 = some (0, 0)) (t_v2 : ty v2 = some (0, 7)) (hrm : jr_X1_drawTerm.frames + 1 ≤ R.frames ∧ 8 + (8 + 11) + jr_X1_drawTerm.locals ≤ R.locals) (hsz : ls.size = nL) (hW : (rest.map fun v => v.category).sum ≤ 8) (hf : cells ≤ R.cells ∧ slots ≤ R.slots) (hdg : decode cc pc = .ok (.invokevirtual 298, 3)) (kk : ∀ (H1 : Heap) (locs1 : List Loc), xRep D ty h9 H1 → xS ty H0 H1 locs1 → W p l e R s m args below meth c H1 locs1 cells slots Q (F0 m (pc + 3) ls (.int r :: rest))) : W p l e R s m args below meth c H locs cells slots Q (F0 m pc ls (.ref v2 :: .ref v1 :: .ref v0 :: rest)) := x_callV C0 (jc_X1_drawTerm t_v0 t_v1 t_v2 hF) xm_X1_drawTerm xi_X1_drawTerm xe_X1_drawTerm wl_X11_298 ⟨rfl, rfl, hrm⟩ (ci := 1) rfl t_v0 hR hS (As := [.ref v1, .ref v2]) rfl hsz rfl hW hdg hf kk
theorem gf_X11_97 {a : Nat} (C0 : xC D RX11 cc nL rt p s m args meth c) (hR : xRep D ty h H) (ht : ty a = some (0, 11)) {v : Nat} (hv : xR h a 15 = some v) (hdg : decode cc pc = .ok (.getfield 97, 3)) (kk : W p l e R s m args below meth c H locs cells slots Q (F0 m (pc + 3) ls (.ref v :: rest))) : W p l e R s m args below meth c H locs cells slots Q (F0 m pc ls (.ref a :: rest)) := x_get C0 hR (ci := 11) (k := 15) (N := 16) (T := TX11) rfl iX11 (by decide) rfl wf_X11_97 (by show va_rf (xR h a 15) = _; rw [hv]; rfl) ht hdg kk
end XN_X11_chance
set_option maxHeartbeats 4000000 in
set_option maxRecDepth 100000 in
theorem jw_X11_chance_26 {p : Program} {l : Launch} {e : Env} {s : State} {m : MethodId} {args : Array Value} {below : List Frame} {meth : Method} {c : Code} {D : xD} {ty : xTy} (C0 : xC D RX11 cX11_chance 5 (some .int) p s m args meth c) {r : Int32} {h9 : xH} : ∀ n : Nat, ∀ (v0 : Nat) (v2 : Int32) (v3 : Int32) (v4 : Int32) (h : xH), ty v0 = some (0, 11) → jf_X11_chance_26 ty n v0 v2 v3 v4 h = some (r, h9) → ∀ (H : Heap) (locs : List Loc), xRep D ty h H → xS ty s.heap H locs → ∀ ls : Array Slot, lv_has ls 5 [(0, .ref v0), (2, .int v2), (3, .int v3), (4, .int v4)] → W p l e jr_X11_chance s m args below meth c H locs 0 0 (MQ below (xQ D ty (some (.int r)) h9) args s 0 0 (xdom ty)) (F0 m 26 ls []) := by
  have hx := C0.1
  have hb := C0.2.1
  have hown := C0.2.2.2.2.2.1
  have hts := C0.2.2.2.2.2.2.1
  intro n
  induction n with
  | zero =>
    intro v0 v2 v3 v4 h t_v0 hF H locs hR hS ls hl
    cases hF
  | succ n ih =>
    intro v0 v2 v3 v4 h t_v0 hF H locs hR hS ls hl
    rw [jf_X11_chance_26_s] at hF
    refine lv_iload hx hb dX11_chance_26 (lv_at hl 3 rfl) ?_
    refine lv_bipush (v := 10) hx hb dX11_chance_28 (by decide) ?_
    refine lv_icmp_ge (tgt := 82) hx hb dX11_chance_30 (by decide) (fun c1 => ?_) (fun c1 => ?_)
    · have hF := xif hF c1
      refine lv_iload_n hx hb dX11_chance_82 rfl (lv_at hl 2 rfl) ?_
      cases hF
      exact x_iret C0 hR hS dX11_chance_83
    · have hF := xel hF c1
      refine lv_aload_n hx hb dX11_chance_33 rfl (lv_at hl 0 rfl) ?_
      obtain ⟨a2, e_a2, hF⟩ := xbd hF
      obtain ⟨e_a2, t_a2⟩ := xgo_sp e_a2
      refine gf_X11_97 C0 hR t_v0 e_a2 dX11_chance_34 ?_
      refine lv_aload_n hx hb dX11_chance_37 rfl (lv_at hl 0 rfl) ?_
      obtain ⟨a3, e_a3, hF⟩ := xbd hF
      obtain ⟨e_a3, t_a3⟩ := xgo_sp e_a3
      refine gf_X11_20 C0 hR t_v0 e_a3 dX11_chance_38 ?_
      refine lv_aload_n hx hb dX11_chance_41 rfl (lv_at hl 0 rfl) ?_
      obtain ⟨a4, e_a4, hF⟩ := xbd hF
      obtain ⟨e_a4, t_a4⟩ := xgo_sp e_a4
      refine gf_X11_36 C0 hR t_v0 e_a4 dX11_chance_42 ?_
      obtain ⟨a6, h5, e_h5, hF⟩ := xbd2 hF
      refine cl_X11_298 C0 hR hS e_h5 t_a2 t_a3 t_a4 ⟨(Nat.le_of_ble_eq_true rfl), (Nat.le_of_ble_eq_true rfl)⟩ hl.1 (Nat.le_of_ble_eq_true rfl) ⟨(Nat.le_of_ble_eq_true rfl), (Nat.le_of_ble_eq_true rfl)⟩ dX11_chance_45 (fun H locs hR hS => ?_)
      refine lv_if_ne (tgt := 54) hx hb dX11_chance_48 (by decide) (fun c7 => ?_) (fun c7 => ?_)
      · have hF := xel hF c7
        refine lv_aload_n hx hb dX11_chance_54 rfl (lv_at hl 0 rfl) ?_
        refine lv_iload_n hx hb dX11_chance_55 rfl (lv_at hl 1 rfl) ?_
        refine lv_aload_n hx hb dX11_chance_56 rfl (lv_at hl 0 rfl) ?_
        obtain ⟨a8, e_a8, hF⟩ := xbd hF
        obtain ⟨e_a8, t_a8⟩ := xgo_sp e_a8
        refine gf_X11_36 C0 hR t_v0 e_a8 dX11_chance_57 ?_
        refine lv_aload_n hx hb dX11_chance_60 rfl (lv_at hl 0 rfl) ?_
        obtain ⟨a9, e_a9, hF⟩ := xbd hF
        obtain ⟨e_a9, t_a9⟩ := xgo_sp e_a9
        refine gf_X11_55 C0 hR t_v0 e_a9 dX11_chance_61 ?_
        refine gf_X11_198 C0 hR t_a9 dX11_chance_64 ?_
        obtain ⟨a11, h10, e_h10, hF⟩ := xbd2 hF
        refine cl_X11_201 C0 hR hS e_h10 t_v0 t_a8 ⟨(Nat.le_of_ble_eq_true rfl), (Nat.le_of_ble_eq_true rfl)⟩ hl.1 (Nat.le_of_ble_eq_true rfl) ⟨(Nat.le_of_ble_eq_true rfl), (Nat.le_of_ble_eq_true rfl)⟩ dX11_chance_67 (fun H locs hR hS => ?_)
        refine lv_if_eq (tgt := 76) hx hb dX11_chance_70 (by decide) (fun c12 => ?_) (fun c12 => ?_)
        · have hF := xif hF c12
          refine lv_iinc (v := v4 + 1) (lv' := [(4, .int (v4 + 1)), (0, .ref v0), (2, .int v2), (3, .int v3)]) hx hb dX11_chance_76 hl (k := 3) rfl rfl (by decide) rfl (fun ls hl => ?_)
          refine lv_goto (tgt := 26) hx hb dX11_chance_79 (by decide) ?_
          exact ih _ _ _ _ _ t_v0 hF _ _ hR hS _ (lv_sub hl [1, 2, 3, 0] rfl)
        · have hF := xel hF c12
          refine lv_iinc (v := v3 + 1) (lv' := [(3, .int (v3 + 1)), (0, .ref v0), (2, .int v2), (4, .int v4)]) hx hb dX11_chance_73 hl (k := 2) rfl rfl (by decide) rfl (fun ls hl => ?_)
          refine lv_iinc (v := v4 + 1) (lv' := [(4, .int (v4 + 1)), (3, .int (v3 + 1)), (0, .ref v0), (2, .int v2)]) hx hb dX11_chance_76 hl (k := 3) rfl rfl (by decide) rfl (fun ls hl => ?_)
          refine lv_goto (tgt := 26) hx hb dX11_chance_79 (by decide) ?_
          exact ih _ _ _ _ _ t_v0 hF _ _ hR hS _ (lv_sub hl [2, 3, 1, 0] rfl)
      · have hF := xif hF c7
        refine lv_bipush (v := (-2)) hx hb dX11_chance_51 (by decide) ?_
        cases hF
        exact x_iret C0 hR hS dX11_chance_53
set_option maxHeartbeats 4000000 in
set_option maxRecDepth 100000 in
theorem jc_X11_chance {l : Launch} {D : xD} {ty : xTy} {h : xH} {v0 : Nat} {v1 : Int32} {v2 : Int32} {r : Int32} {h9 : xH} (t_v0 : ty v0 = some (0, 11)) (hF : jf_X11_chance ty h v0 v1 v2 = some (r, h9)) : Met l yX11_chance (xws yX11_chance cX11_chance 5 (some .int)) jr_X11_chance (xPc D ty h [.ref v0, .int v1, .int v2]) (xQ D ty (some (.int r)) h9) 0 0 (xdom ty) := by
  refine x_met (by decide) ?_
  intro p e s m below meth c C0 hR
  generalize hargs : ([.ref v0, .int v1, .int v2] : List Value).toArray = args at C0 ⊢
  have hx := C0.1
  have hb := C0.2.1
  have hown := C0.2.2.2.2.2.1
  have hts := C0.2.2.2.2.2.2.1
  have hS : xS ty s.heap s.heap [] := xS.rf
  have hl := lv_entry ([.ref v0, .int v1, .int v2]) (n := 5) (Nat.le_of_ble_eq_true rfl)
  rw [← hargs, lg_entry_eq]
  rw [hargs]
  generalize (lg_sl ([.ref v0, .int v1, .int v2]) ++ List.replicate (5 - (lg_sl ([.ref v0, .int v1, .int v2])).length) Slot.unset).toArray = ls at hl ⊢
  have hl : lv_has ls 5 [(0, .ref v0), (1, .int v1), (2, .int v2)] := hl
  unfold jf_X11_chance at hF
  refine lv_iload_n hx hb dX11_chance_0 rfl (lv_at hl 1 rfl) ?_
  refine lv_if_lt (tgt := 11) hx hb dX11_chance_1 (by decide) (fun c13 => ?_) (fun c13 => ?_)
  · have hF := xif hF c13
    refine lv_iconst (v := (-1)) hx hb dX11_chance_11 (by decide) ?_
    cases hF
    exact x_iret C0 hR hS dX11_chance_12
  · have hF := xel hF c13
    refine lv_iload_n hx hb dX11_chance_4 rfl (lv_at hl 2 rfl) ?_
    obtain ⟨a14, e_a14, hF⟩ := xbd hF
    refine cl_X11_191 C0 hR hS e_a14  ⟨(Nat.le_of_ble_eq_true rfl), (Nat.le_of_ble_eq_true rfl)⟩ hl.1 (Nat.le_of_ble_eq_true rfl) ⟨(Nat.le_of_ble_eq_true rfl), (Nat.le_of_ble_eq_true rfl)⟩ dX11_chance_5 (fun H locs hR hS => ?_)
    refine lv_if_ne (tgt := 13) hx hb dX11_chance_8 (by decide) (fun c15 => ?_) (fun c15 => ?_)
    · have hF := xel hF c15
      refine lv_aload_n hx hb dX11_chance_13 rfl (lv_at hl 0 rfl) ?_
      obtain ⟨a16, e_a16, hF⟩ := xbd hF
      obtain ⟨e_a16, t_a16⟩ := xgo_sp e_a16
      refine gf_X11_97 C0 hR t_v0 e_a16 dX11_chance_14 ?_
      refine lv_iload_n hx hb dX11_chance_17 rfl (lv_at hl 1 rfl) ?_
      obtain ⟨h17, e_h17, hF⟩ := xbd hF
      refine cl_X11_295 C0 hR hS e_h17 t_a16 ⟨(Nat.le_of_ble_eq_true rfl), (Nat.le_of_ble_eq_true rfl)⟩ hl.1 (Nat.le_of_ble_eq_true rfl) ⟨(Nat.le_of_ble_eq_true rfl), (Nat.le_of_ble_eq_true rfl)⟩ dX11_chance_18 (fun H locs hR hS => ?_)
      refine lv_iconst (v := 0) hx hb dX11_chance_21 (by decide) ?_
      refine lv_istore_n (lv' := [(3, .int 0), (0, .ref v0), (1, .int v1), (2, .int v2)]) hx hb dX11_chance_22 rfl hl (by decide) rfl (fun ls hl => ?_)
      refine lv_iconst (v := 0) hx hb dX11_chance_23 (by decide) ?_
      refine lv_istore (lv' := [(4, .int 0), (3, .int 0), (0, .ref v0), (1, .int v1), (2, .int v2)]) hx hb dX11_chance_24 hl (by decide) rfl (fun ls hl => ?_)
      obtain ⟨_, hF⟩ := xlim_sp hF
      exact jw_X11_chance_26 C0 _ _ _ _ _ _ t_v0 hF _ _ hR hS _ (lv_sub hl [2, 4, 1, 0] rfl)
    · have hF := xif hF c15
      refine lv_iconst (v := (-1)) hx hb dX11_chance_11 (by decide) ?_
      cases hF
      exact x_iret C0 hR hS dX11_chance_12
theorem xm_X11_chance : xMw yX11_chance cX11_chance 5 (some .int) 2 := ⟨xin 1103 (by decide +kernel) rfl, xin 114 (by decide +kernel) rfl, by decide +kernel⟩
theorem xi_X11_chance : Cond.instanceMethod yX11_chance ∈ xT := xin 1101 (by decide +kernel) rfl
theorem xe_X11_chance : Cond.selects yX11_chance.cls yX11_chance yX11_chance ∈ xT := xin 1102 (by decide +kernel) rfl
theorem dX11_draw_0 : decode cX11_draw 0 = .ok (.iload_n 1, 1) := by decide +kernel
theorem dX11_draw_1 : decode cX11_draw 1 = .ok (.ifCond .ge 5, 3) := by decide +kernel
theorem dX11_draw_4 : decode cX11_draw 4 = .ok (.iconst (-1), 1) := by decide +kernel
theorem dX11_draw_5 : decode cX11_draw 5 = .ok (.ireturn, 1) := by decide +kernel
theorem dX11_draw_6 : decode cX11_draw 6 = .ok (.aload_n 0, 1) := by decide +kernel
theorem dX11_draw_7 : decode cX11_draw 7 = .ok (.getfield 97, 3) := by decide +kernel
theorem dX11_draw_10 : decode cX11_draw 10 = .ok (.iload_n 1, 1) := by decide +kernel
theorem dX11_draw_11 : decode cX11_draw 11 = .ok (.invokevirtual 295, 3) := by decide +kernel
theorem dX11_draw_14 : decode cX11_draw 14 = .ok (.aload_n 0, 1) := by decide +kernel
theorem dX11_draw_15 : decode cX11_draw 15 = .ok (.getfield 97, 3) := by decide +kernel
theorem dX11_draw_18 : decode cX11_draw 18 = .ok (.aload_n 0, 1) := by decide +kernel
theorem dX11_draw_19 : decode cX11_draw 19 = .ok (.getfield 20, 3) := by decide +kernel
theorem dX11_draw_22 : decode cX11_draw 22 = .ok (.aload_n 0, 1) := by decide +kernel
theorem dX11_draw_23 : decode cX11_draw 23 = .ok (.getfield 36, 3) := by decide +kernel
theorem dX11_draw_26 : decode cX11_draw 26 = .ok (.invokevirtual 298, 3) := by decide +kernel
theorem dX11_draw_29 : decode cX11_draw 29 = .ok (.ifCond .ne 6, 3) := by decide +kernel
theorem dX11_draw_32 : decode cX11_draw 32 = .ok (.bipush (-2), 2) := by decide +kernel
theorem dX11_draw_34 : decode cX11_draw 34 = .ok (.ireturn, 1) := by decide +kernel
theorem dX11_draw_35 : decode cX11_draw 35 = .ok (.aload_n 0, 1) := by decide +kernel
theorem dX11_draw_36 : decode cX11_draw 36 = .ok (.invokevirtual 125, 3) := by decide +kernel
theorem dX11_draw_39 : decode cX11_draw 39 = .ok (.aload_n 0, 1) := by decide +kernel
theorem dX11_draw_40 : decode cX11_draw 40 = .ok (.getfield 32, 3) := by decide +kernel
theorem dX11_draw_43 : decode cX11_draw 43 = .ok (.getfield 128, 3) := by decide +kernel
theorem dX11_draw_46 : decode cX11_draw 46 = .ok (.ireturn, 1) := by decide +kernel
set_option maxHeartbeats 4000000 in
set_option maxRecDepth 100000 in
theorem jc_X11_draw {l : Launch} {D : xD} {ty : xTy} {h : xH} {v0 : Nat} {v1 : Int32} {r : Int32} {h9 : xH} (t_v0 : ty v0 = some (0, 11)) (hF : jf_X11_draw ty h v0 v1 = some (r, h9)) : Met l yX11_draw (xws yX11_draw cX11_draw 2 (some .int)) jr_X11_draw (xPc D ty h [.ref v0, .int v1]) (xQ D ty (some (.int r)) h9) 0 0 (xdom ty) := by
  refine x_met (by decide) ?_
  intro p e s m below meth c C0 hR
  generalize hargs : ([.ref v0, .int v1] : List Value).toArray = args at C0 ⊢
  have hx := C0.1
  have hb := C0.2.1
  have hown := C0.2.2.2.2.2.1
  have hts := C0.2.2.2.2.2.2.1
  have hS : xS ty s.heap s.heap [] := xS.rf
  have hl := lv_entry ([.ref v0, .int v1]) (n := 2) (Nat.le_of_ble_eq_true rfl)
  rw [← hargs, lg_entry_eq]
  rw [hargs]
  generalize (lg_sl ([.ref v0, .int v1]) ++ List.replicate (2 - (lg_sl ([.ref v0, .int v1])).length) Slot.unset).toArray = ls at hl ⊢
  have hl : lv_has ls 2 [(0, .ref v0), (1, .int v1)] := hl
  unfold jf_X11_draw at hF
  refine lv_iload_n hx hb dX11_draw_0 rfl (lv_at hl 1 rfl) ?_
  refine lv_if_ge (tgt := 6) hx hb dX11_draw_1 (by decide) (fun c1 => ?_) (fun c1 => ?_)
  · have hF := xif hF c1
    refine lv_aload_n hx hb dX11_draw_6 rfl (lv_at hl 0 rfl) ?_
    obtain ⟨a2, e_a2, hF⟩ := xbd hF
    obtain ⟨e_a2, t_a2⟩ := xgo_sp e_a2
    refine gf_X11_97 C0 hR t_v0 e_a2 dX11_draw_7 ?_
    refine lv_iload_n hx hb dX11_draw_10 rfl (lv_at hl 1 rfl) ?_
    obtain ⟨h3, e_h3, hF⟩ := xbd hF
    refine cl_X11_295 C0 hR hS e_h3 t_a2 ⟨(Nat.le_of_ble_eq_true rfl), (Nat.le_of_ble_eq_true rfl)⟩ hl.1 (Nat.le_of_ble_eq_true rfl) ⟨(Nat.le_of_ble_eq_true rfl), (Nat.le_of_ble_eq_true rfl)⟩ dX11_draw_11 (fun H locs hR hS => ?_)
    refine lv_aload_n hx hb dX11_draw_14 rfl (lv_at hl 0 rfl) ?_
    obtain ⟨a4, e_a4, hF⟩ := xbd hF
    obtain ⟨e_a4, t_a4⟩ := xgo_sp e_a4
    refine gf_X11_97 C0 hR t_v0 e_a4 dX11_draw_15 ?_
    refine lv_aload_n hx hb dX11_draw_18 rfl (lv_at hl 0 rfl) ?_
    obtain ⟨a5, e_a5, hF⟩ := xbd hF
    obtain ⟨e_a5, t_a5⟩ := xgo_sp e_a5
    refine gf_X11_20 C0 hR t_v0 e_a5 dX11_draw_19 ?_
    refine lv_aload_n hx hb dX11_draw_22 rfl (lv_at hl 0 rfl) ?_
    obtain ⟨a6, e_a6, hF⟩ := xbd hF
    obtain ⟨e_a6, t_a6⟩ := xgo_sp e_a6
    refine gf_X11_36 C0 hR t_v0 e_a6 dX11_draw_23 ?_
    obtain ⟨a8, h7, e_h7, hF⟩ := xbd2 hF
    refine cl_X11_298 C0 hR hS e_h7 t_a4 t_a5 t_a6 ⟨(Nat.le_of_ble_eq_true rfl), (Nat.le_of_ble_eq_true rfl)⟩ hl.1 (Nat.le_of_ble_eq_true rfl) ⟨(Nat.le_of_ble_eq_true rfl), (Nat.le_of_ble_eq_true rfl)⟩ dX11_draw_26 (fun H locs hR hS => ?_)
    refine lv_if_ne (tgt := 35) hx hb dX11_draw_29 (by decide) (fun c9 => ?_) (fun c9 => ?_)
    · have hF := xel hF c9
      refine lv_aload_n hx hb dX11_draw_35 rfl (lv_at hl 0 rfl) ?_
      obtain ⟨h10, e_h10, hF⟩ := xbd hF
      refine cl_X11_125 C0 hR hS e_h10 t_v0 ⟨(Nat.le_of_ble_eq_true rfl), (Nat.le_of_ble_eq_true rfl)⟩ hl.1 (Nat.le_of_ble_eq_true rfl) ⟨(Nat.le_of_ble_eq_true rfl), (Nat.le_of_ble_eq_true rfl)⟩ dX11_draw_36 (fun H locs hR hS => ?_)
      refine lv_aload_n hx hb dX11_draw_39 rfl (lv_at hl 0 rfl) ?_
      obtain ⟨a11, e_a11, hF⟩ := xbd hF
      obtain ⟨e_a11, t_a11⟩ := xgo_sp e_a11
      refine gf_X11_32 C0 hR t_v0 e_a11 dX11_draw_40 ?_
      refine gf_X11_128 C0 hR t_a11 dX11_draw_43 ?_
      cases hF
      exact x_iret C0 hR hS dX11_draw_46
    · have hF := xif hF c9
      refine lv_bipush (v := (-2)) hx hb dX11_draw_32 (by decide) ?_
      cases hF
      exact x_iret C0 hR hS dX11_draw_34
  · have hF := xel hF c1
    refine lv_iconst (v := (-1)) hx hb dX11_draw_4 (by decide) ?_
    cases hF
    exact x_iret C0 hR hS dX11_draw_5
theorem xm_X11_draw : xMw yX11_draw cX11_draw 2 (some .int) 1 := ⟨xin 1130 (by decide +kernel) rfl, xin 114 (by decide +kernel) rfl, by decide +kernel⟩
theorem xi_X11_draw : Cond.instanceMethod yX11_draw ∈ xT := xin 1128 (by decide +kernel) rfl
theorem xe_X11_draw : Cond.selects yX11_draw.cls yX11_draw yX11_draw ∈ xT := xin 1129 (by decide +kernel) rfl
theorem dX11_looseCount_0 : decode cX11_looseCount 0 = .ok (.iconst 0, 1) := by decide +kernel
theorem dX11_looseCount_1 : decode cX11_looseCount 1 = .ok (.istore_n 3, 1) := by decide +kernel
theorem dX11_looseCount_2 : decode cX11_looseCount 2 = .ok (.iconst 0, 1) := by decide +kernel
theorem dX11_looseCount_3 : decode cX11_looseCount 3 = .ok (.istore 4, 2) := by decide +kernel
theorem dX11_looseCount_5 : decode cX11_looseCount 5 = .ok (.iload 4, 2) := by decide +kernel
theorem dX11_looseCount_7 : decode cX11_looseCount 7 = .ok (.aload_n 0, 1) := by decide +kernel
theorem dX11_looseCount_8 : decode cX11_looseCount 8 = .ok (.getfield 62, 3) := by decide +kernel
theorem dX11_looseCount_11 : decode cX11_looseCount 11 = .ok (.getfield 194, 3) := by decide +kernel
theorem dX11_looseCount_14 : decode cX11_looseCount 14 = .ok (.if_icmp .ge 48, 3) := by decide +kernel
theorem dX11_looseCount_17 : decode cX11_looseCount 17 = .ok (.aload_n 0, 1) := by decide +kernel
theorem dX11_looseCount_18 : decode cX11_looseCount 18 = .ok (.getfield 39, 3) := by decide +kernel
theorem dX11_looseCount_21 : decode cX11_looseCount 21 = .ok (.aload_n 0, 1) := by decide +kernel
theorem dX11_looseCount_22 : decode cX11_looseCount 22 = .ok (.getfield 20, 3) := by decide +kernel
theorem dX11_looseCount_25 : decode cX11_looseCount 25 = .ok (.aload_n 0, 1) := by decide +kernel
theorem dX11_looseCount_26 : decode cX11_looseCount 26 = .ok (.getfield 62, 3) := by decide +kernel
theorem dX11_looseCount_29 : decode cX11_looseCount 29 = .ok (.iload 4, 2) := by decide +kernel
theorem dX11_looseCount_31 : decode cX11_looseCount 31 = .ok (.invokevirtual 195, 3) := by decide +kernel
theorem dX11_looseCount_34 : decode cX11_looseCount 34 = .ok (.invokevirtual 155, 3) := by decide +kernel
theorem dX11_looseCount_37 : decode cX11_looseCount 37 = .ok (.invokevirtual 302, 3) := by decide +kernel
theorem dX11_looseCount_40 : decode cX11_looseCount 40 = .ok (.aload_n 0, 1) := by decide +kernel
theorem dX11_looseCount_41 : decode cX11_looseCount 41 = .ok (.iload_n 1, 1) := by decide +kernel
theorem dX11_looseCount_42 : decode cX11_looseCount 42 = .ok (.aload_n 0, 1) := by decide +kernel
theorem dX11_looseCount_43 : decode cX11_looseCount 43 = .ok (.getfield 39, 3) := by decide +kernel
theorem dX11_looseCount_46 : decode cX11_looseCount 46 = .ok (.aload_n 2, 1) := by decide +kernel
theorem dX11_looseCount_47 : decode cX11_looseCount 47 = .ok (.invokevirtual 187, 3) := by decide +kernel
theorem dX11_looseCount_50 : decode cX11_looseCount 50 = .ok (.ifCond .eq 6, 3) := by decide +kernel
theorem dX11_looseCount_53 : decode cX11_looseCount 53 = .ok (.iinc 3 1, 3) := by decide +kernel
theorem dX11_looseCount_56 : decode cX11_looseCount 56 = .ok (.iinc 4 1, 3) := by decide +kernel
theorem dX11_looseCount_59 : decode cX11_looseCount 59 = .ok (.goto (-54), 3) := by decide +kernel
theorem dX11_looseCount_62 : decode cX11_looseCount 62 = .ok (.iload_n 3, 1) := by decide +kernel
theorem dX11_looseCount_63 : decode cX11_looseCount 63 = .ok (.ireturn, 1) := by decide +kernel
theorem wl_X11_302 : Cond.methodLink RX11 302 yX7_copyApart ∈ xT := xin 1135 (by decide +kernel) rfl
theorem wf_X11_39 : Cond.fieldLink RX11 39 "TermShelf" "looseTerm" "LTermShelf$Term;" ∈ xT := xin 464 (by decide +kernel) rfl
section XN_X11_looseCount
variable {p : Program} {l : Launch} {e : Env} {R : Room} {s : State} {m : MethodId} {args : Array Value} {below : List Frame} {meth : Method} {c : Code} {H H0 : Heap} {locs : List Loc} {cells slots : Nat} {Q : State → Prop} {cc : ByteArray} {nL pc : Nat} {rt : Option FieldType} {ls : Array Slot} {rest : List Value} {D : xD} {ty : xTy} {h : xH}
theorem cl_X11_302 {v0 : Nat} {v1 : Nat} {h9 : xH} (C0 : xC D RX11 cc nL rt p s m args meth c) (hR : xRep D ty h H) (hS : xS ty H0 H locs) (hF : jf_X7_copyApart ty h v0 v1 = some h9) (t_v0 : ty v0 = some (0, 7)) (t_v1 : ty v1 = some (0, 7)) (hrm : jr_X7_copyApart.frames + 1 ≤ R.frames ∧ 8 + (4 + 11) + jr_X7_copyApart.locals ≤ R.locals) (hsz : ls.size = nL) (hW : (rest.map fun v => v.category).sum ≤ 8) (hf : cells ≤ R.cells ∧ slots ≤ R.slots) (hdg : decode cc pc = .ok (.invokevirtual 302, 3)) (kk : ∀ (H1 : Heap) (locs1 : List Loc), xRep D ty h9 H1 → xS ty H0 H1 locs1 → W p l e R s m args below meth c H1 locs1 cells slots Q (F0 m (pc + 3) ls rest)) : W p l e R s m args below meth c H locs cells slots Q (F0 m pc ls (.ref v1 :: .ref v0 :: rest)) := x_callV C0 (jc_X7_copyApart t_v0 t_v1 hF) xm_X7_copyApart xi_X7_copyApart xe_X7_copyApart wl_X11_302 ⟨rfl, rfl, hrm⟩ (ci := 7) rfl t_v0 hR hS (As := [.ref v1]) rfl hsz rfl hW hdg hf kk
theorem gf_X11_39 {a : Nat} (C0 : xC D RX11 cc nL rt p s m args meth c) (hR : xRep D ty h H) (ht : ty a = some (0, 11)) {v : Nat} (hv : xR h a 6 = some v) (hdg : decode cc pc = .ok (.getfield 39, 3)) (kk : W p l e R s m args below meth c H locs cells slots Q (F0 m (pc + 3) ls (.ref v :: rest))) : W p l e R s m args below meth c H locs cells slots Q (F0 m pc ls (.ref a :: rest)) := x_get C0 hR (ci := 11) (k := 6) (N := 16) (T := TX11) rfl iX11 (by decide) rfl wf_X11_39 (by show va_rf (xR h a 6) = _; rw [hv]; rfl) ht hdg kk
end XN_X11_looseCount
set_option maxHeartbeats 4000000 in
set_option maxRecDepth 100000 in
theorem jw_X11_looseCount_5 {p : Program} {l : Launch} {e : Env} {s : State} {m : MethodId} {args : Array Value} {below : List Frame} {meth : Method} {c : Code} {D : xD} {ty : xTy} (C0 : xC D RX11 cX11_looseCount 5 (some .int) p s m args meth c) {r : Int32} {h9 : xH} : ∀ n : Nat, ∀ (v0 : Nat) (v1 : Int32) (v2 : Nat) (v3 : Int32) (v4 : Int32) (h : xH), ty v0 = some (0, 11) → ty v2 = some (0, 7) → jf_X11_looseCount_5 ty n v0 v1 v2 v3 v4 h = some (r, h9) → ∀ (H : Heap) (locs : List Loc), xRep D ty h H → xS ty s.heap H locs → ∀ ls : Array Slot, lv_has ls 5 [(0, .ref v0), (1, .int v1), (2, .ref v2), (3, .int v3), (4, .int v4)] → W p l e jr_X11_looseCount s m args below meth c H locs 0 0 (MQ below (xQ D ty (some (.int r)) h9) args s 0 0 (xdom ty)) (F0 m 5 ls []) := by
  have hx := C0.1
  have hb := C0.2.1
  have hown := C0.2.2.2.2.2.1
  have hts := C0.2.2.2.2.2.2.1
  intro n
  induction n with
  | zero =>
    intro v0 v1 v2 v3 v4 h t_v0 t_v2 hF H locs hR hS ls hl
    cases hF
  | succ n ih =>
    intro v0 v1 v2 v3 v4 h t_v0 t_v2 hF H locs hR hS ls hl
    rw [jf_X11_looseCount_5_s] at hF
    refine lv_iload hx hb dX11_looseCount_5 (lv_at hl 4 rfl) ?_
    refine lv_aload_n hx hb dX11_looseCount_7 rfl (lv_at hl 0 rfl) ?_
    obtain ⟨a1, e_a1, hF⟩ := xbd hF
    obtain ⟨e_a1, t_a1⟩ := xgo_sp e_a1
    refine gf_X11_62 C0 hR t_v0 e_a1 dX11_looseCount_8 ?_
    refine gf_X11_194 C0 hR t_a1 dX11_looseCount_11 ?_
    refine lv_icmp_ge (tgt := 62) hx hb dX11_looseCount_14 (by decide) (fun c2 => ?_) (fun c2 => ?_)
    · have hF := xif hF c2
      refine lv_iload_n hx hb dX11_looseCount_62 rfl (lv_at hl 3 rfl) ?_
      cases hF
      exact x_iret C0 hR hS dX11_looseCount_63
    · have hF := xel hF c2
      refine lv_aload_n hx hb dX11_looseCount_17 rfl (lv_at hl 0 rfl) ?_
      obtain ⟨a3, e_a3, hF⟩ := xbd hF
      obtain ⟨e_a3, t_a3⟩ := xgo_sp e_a3
      refine gf_X11_39 C0 hR t_v0 e_a3 dX11_looseCount_18 ?_
      refine lv_aload_n hx hb dX11_looseCount_21 rfl (lv_at hl 0 rfl) ?_
      obtain ⟨a4, e_a4, hF⟩ := xbd hF
      obtain ⟨e_a4, t_a4⟩ := xgo_sp e_a4
      refine gf_X11_20 C0 hR t_v0 e_a4 dX11_looseCount_22 ?_
      refine lv_aload_n hx hb dX11_looseCount_25 rfl (lv_at hl 0 rfl) ?_
      obtain ⟨a5, e_a5, hF⟩ := xbd hF
      obtain ⟨e_a5, t_a5⟩ := xgo_sp e_a5
      refine gf_X11_62 C0 hR t_v0 e_a5 dX11_looseCount_26 ?_
      refine lv_iload hx hb dX11_looseCount_29 (lv_at hl 4 rfl) ?_
      obtain ⟨a6, e_a6, hF⟩ := xbd hF
      refine cl_X11_195 C0 hR hS e_a6 t_a5 ⟨(Nat.le_of_ble_eq_true rfl), (Nat.le_of_ble_eq_true rfl)⟩ hl.1 (Nat.le_of_ble_eq_true rfl) ⟨(Nat.le_of_ble_eq_true rfl), (Nat.le_of_ble_eq_true rfl)⟩ dX11_looseCount_31 (fun H locs hR hS => ?_)
      obtain ⟨a7, e_a7, hF⟩ := xbd hF
      obtain ⟨u8, e_u8, hF⟩ := xbd hF
      have t_a7 := xck_sp e_u8
      refine cl_X11_155 C0 hR hS e_a7 t_a4 ⟨(Nat.le_of_ble_eq_true rfl), (Nat.le_of_ble_eq_true rfl)⟩ hl.1 (Nat.le_of_ble_eq_true rfl) ⟨(Nat.le_of_ble_eq_true rfl), (Nat.le_of_ble_eq_true rfl)⟩ dX11_looseCount_34 (fun H locs hR hS => ?_)
      obtain ⟨h9, e_h9, hF⟩ := xbd hF
      refine cl_X11_302 C0 hR hS e_h9 t_a3 t_a7 ⟨(Nat.le_of_ble_eq_true rfl), (Nat.le_of_ble_eq_true rfl)⟩ hl.1 (Nat.le_of_ble_eq_true rfl) ⟨(Nat.le_of_ble_eq_true rfl), (Nat.le_of_ble_eq_true rfl)⟩ dX11_looseCount_37 (fun H locs hR hS => ?_)
      refine lv_aload_n hx hb dX11_looseCount_40 rfl (lv_at hl 0 rfl) ?_
      refine lv_iload_n hx hb dX11_looseCount_41 rfl (lv_at hl 1 rfl) ?_
      refine lv_aload_n hx hb dX11_looseCount_42 rfl (lv_at hl 0 rfl) ?_
      obtain ⟨a10, e_a10, hF⟩ := xbd hF
      obtain ⟨e_a10, t_a10⟩ := xgo_sp e_a10
      refine gf_X11_39 C0 hR t_v0 e_a10 dX11_looseCount_43 ?_
      refine lv_aload_n hx hb dX11_looseCount_46 rfl (lv_at hl 2 rfl) ?_
      obtain ⟨a12, h11, e_h11, hF⟩ := xbd2 hF
      refine cl_X11_187 C0 hR hS e_h11 t_v0 t_a10 t_v2 ⟨(Nat.le_of_ble_eq_true rfl), (Nat.le_of_ble_eq_true rfl)⟩ hl.1 (Nat.le_of_ble_eq_true rfl) ⟨(Nat.le_of_ble_eq_true rfl), (Nat.le_of_ble_eq_true rfl)⟩ dX11_looseCount_47 (fun H locs hR hS => ?_)
      refine lv_if_eq (tgt := 56) hx hb dX11_looseCount_50 (by decide) (fun c13 => ?_) (fun c13 => ?_)
      · have hF := xif hF c13
        refine lv_iinc (v := v4 + 1) (lv' := [(4, .int (v4 + 1)), (0, .ref v0), (1, .int v1), (2, .ref v2), (3, .int v3)]) hx hb dX11_looseCount_56 hl (k := 4) rfl rfl (by decide) rfl (fun ls hl => ?_)
        refine lv_goto (tgt := 5) hx hb dX11_looseCount_59 (by decide) ?_
        exact ih _ _ _ _ _ _ t_v0 t_v2 hF _ _ hR hS _ (lv_sub hl [1, 2, 3, 4, 0] rfl)
      · have hF := xel hF c13
        refine lv_iinc (v := v3 + 1) (lv' := [(3, .int (v3 + 1)), (0, .ref v0), (1, .int v1), (2, .ref v2), (4, .int v4)]) hx hb dX11_looseCount_53 hl (k := 3) rfl rfl (by decide) rfl (fun ls hl => ?_)
        refine lv_iinc (v := v4 + 1) (lv' := [(4, .int (v4 + 1)), (3, .int (v3 + 1)), (0, .ref v0), (1, .int v1), (2, .ref v2)]) hx hb dX11_looseCount_56 hl (k := 4) rfl rfl (by decide) rfl (fun ls hl => ?_)
        refine lv_goto (tgt := 5) hx hb dX11_looseCount_59 (by decide) ?_
        exact ih _ _ _ _ _ _ t_v0 t_v2 hF _ _ hR hS _ (lv_sub hl [2, 3, 4, 1, 0] rfl)
set_option maxHeartbeats 4000000 in
set_option maxRecDepth 100000 in
theorem jc_X11_looseCount {l : Launch} {D : xD} {ty : xTy} {h : xH} {v0 : Nat} {v1 : Int32} {v2 : Nat} {r : Int32} {h9 : xH} (t_v0 : ty v0 = some (0, 11)) (t_v2 : ty v2 = some (0, 7)) (hF : jf_X11_looseCount ty h v0 v1 v2 = some (r, h9)) : Met l yX11_looseCount (xws yX11_looseCount cX11_looseCount 5 (some .int)) jr_X11_looseCount (xPc D ty h [.ref v0, .int v1, .ref v2]) (xQ D ty (some (.int r)) h9) 0 0 (xdom ty) := by
  refine x_met (by decide) ?_
  intro p e s m below meth c C0 hR
  generalize hargs : ([.ref v0, .int v1, .ref v2] : List Value).toArray = args at C0 ⊢
  have hx := C0.1
  have hb := C0.2.1
  have hown := C0.2.2.2.2.2.1
  have hts := C0.2.2.2.2.2.2.1
  have hS : xS ty s.heap s.heap [] := xS.rf
  have hl := lv_entry ([.ref v0, .int v1, .ref v2]) (n := 5) (Nat.le_of_ble_eq_true rfl)
  rw [← hargs, lg_entry_eq]
  rw [hargs]
  generalize (lg_sl ([.ref v0, .int v1, .ref v2]) ++ List.replicate (5 - (lg_sl ([.ref v0, .int v1, .ref v2])).length) Slot.unset).toArray = ls at hl ⊢
  have hl : lv_has ls 5 [(0, .ref v0), (1, .int v1), (2, .ref v2)] := hl
  unfold jf_X11_looseCount at hF
  refine lv_iconst (v := 0) hx hb dX11_looseCount_0 (by decide) ?_
  refine lv_istore_n (lv' := [(3, .int 0), (0, .ref v0), (1, .int v1), (2, .ref v2)]) hx hb dX11_looseCount_1 rfl hl (by decide) rfl (fun ls hl => ?_)
  refine lv_iconst (v := 0) hx hb dX11_looseCount_2 (by decide) ?_
  refine lv_istore (lv' := [(4, .int 0), (3, .int 0), (0, .ref v0), (1, .int v1), (2, .ref v2)]) hx hb dX11_looseCount_3 hl (by decide) rfl (fun ls hl => ?_)
  obtain ⟨_, hF⟩ := xlim_sp hF
  exact jw_X11_looseCount_5 C0 _ _ _ _ _ _ _ t_v0 t_v2 hF _ _ hR hS _ (lv_sub hl [2, 3, 4, 1, 0] rfl)
theorem xm_X11_looseCount : xMw yX11_looseCount cX11_looseCount 5 (some .int) 2 := ⟨xin 1142 (by decide +kernel) rfl, xin 114 (by decide +kernel) rfl, by decide +kernel⟩
theorem xi_X11_looseCount : Cond.instanceMethod yX11_looseCount ∈ xT := xin 1141 (by decide +kernel) rfl
theorem xe_X11_looseCount : Cond.selects yX11_looseCount.cls yX11_looseCount yX11_looseCount ∈ xT := xin 50 (by decide +kernel) rfl
theorem dX11_tried_0 : decode cX11_tried 0 = .ok (.iload_n 1, 1) := by decide +kernel
theorem dX11_tried_1 : decode cX11_tried 1 = .ok (.ifCond .lt 15, 3) := by decide +kernel
theorem dX11_tried_4 : decode cX11_tried 4 = .ok (.iload_n 1, 1) := by decide +kernel
theorem dX11_tried_5 : decode cX11_tried 5 = .ok (.iconst 4, 1) := by decide +kernel
theorem dX11_tried_6 : decode cX11_tried 6 = .ok (.if_icmp .gt 10, 3) := by decide +kernel
theorem dX11_tried_9 : decode cX11_tried 9 = .ok (.iload_n 2, 1) := by decide +kernel
theorem dX11_tried_10 : decode cX11_tried 10 = .ok (.invokestatic 191, 3) := by decide +kernel
theorem dX11_tried_13 : decode cX11_tried 13 = .ok (.ifCond .ne 5, 3) := by decide +kernel
theorem dX11_tried_16 : decode cX11_tried 16 = .ok (.iconst (-1), 1) := by decide +kernel
theorem dX11_tried_17 : decode cX11_tried 17 = .ok (.ireturn, 1) := by decide +kernel
theorem dX11_tried_18 : decode cX11_tried 18 = .ok (.iload_n 1, 1) := by decide +kernel
theorem dX11_tried_19 : decode cX11_tried 19 = .ok (.iconst 2, 1) := by decide +kernel
theorem dX11_tried_20 : decode cX11_tried 20 = .ok (.if_icmp .ne 17, 3) := by decide +kernel
theorem dX11_tried_23 : decode cX11_tried 23 = .ok (.aload_n 0, 1) := by decide +kernel
theorem dX11_tried_24 : decode cX11_tried 24 = .ok (.getfield 20, 3) := by decide +kernel
theorem dX11_tried_27 : decode cX11_tried 27 = .ok (.iload_n 3, 1) := by decide +kernel
theorem dX11_tried_28 : decode cX11_tried 28 = .ok (.invokevirtual 144, 3) := by decide +kernel
theorem dX11_tried_31 : decode cX11_tried 31 = .ok (.ifCond .ne 12, 3) := by decide +kernel
theorem dX11_tried_34 : decode cX11_tried 34 = .ok (.goto 7, 3) := by decide +kernel
theorem dX11_tried_37 : decode cX11_tried 37 = .ok (.iload_n 3, 1) := by decide +kernel
theorem dX11_tried_38 : decode cX11_tried 38 = .ok (.ifCond .eq 5, 3) := by decide +kernel
theorem dX11_tried_41 : decode cX11_tried 41 = .ok (.iconst (-1), 1) := by decide +kernel
theorem dX11_tried_42 : decode cX11_tried 42 = .ok (.ireturn, 1) := by decide +kernel
theorem dX11_tried_43 : decode cX11_tried 43 = .ok (.aload_n 0, 1) := by decide +kernel
theorem dX11_tried_44 : decode cX11_tried 44 = .ok (.getfield 32, 3) := by decide +kernel
theorem dX11_tried_47 : decode cX11_tried 47 = .ok (.getfield 128, 3) := by decide +kernel
theorem dX11_tried_50 : decode cX11_tried 50 = .ok (.ifCond .ne 6, 3) := by decide +kernel
theorem dX11_tried_53 : decode cX11_tried 53 = .ok (.bipush (-2), 2) := by decide +kernel
theorem dX11_tried_55 : decode cX11_tried 55 = .ok (.ireturn, 1) := by decide +kernel
theorem dX11_tried_56 : decode cX11_tried 56 = .ok (.iload_n 1, 1) := by decide +kernel
theorem dX11_tried_57 : decode cX11_tried 57 = .ok (.tableswitch 104 0 3 #[31, 52, 62, 88], 31) := by decide +kernel
theorem dX11_tried_88 : decode cX11_tried 88 = .ok (.aload_n 0, 1) := by decide +kernel
theorem dX11_tried_89 : decode cX11_tried 89 = .ok (.getfield 42, 3) := by decide +kernel
theorem dX11_tried_92 : decode cX11_tried 92 = .ok (.aload_n 0, 1) := by decide +kernel
theorem dX11_tried_93 : decode cX11_tried 93 = .ok (.getfield 32, 3) := by decide +kernel
theorem dX11_tried_96 : decode cX11_tried 96 = .ok (.invokevirtual 302, 3) := by decide +kernel
theorem dX11_tried_99 : decode cX11_tried 99 = .ok (.aload_n 0, 1) := by decide +kernel
theorem dX11_tried_100 : decode cX11_tried 100 = .ok (.iload_n 2, 1) := by decide +kernel
theorem dX11_tried_101 : decode cX11_tried 101 = .ok (.aload_n 0, 1) := by decide +kernel
theorem dX11_tried_102 : decode cX11_tried 102 = .ok (.getfield 42, 3) := by decide +kernel
theorem dX11_tried_105 : decode cX11_tried 105 = .ok (.invokevirtual 306, 3) := by decide +kernel
theorem dX11_tried_108 : decode cX11_tried 108 = .ok (.ireturn, 1) := by decide +kernel
theorem dX11_tried_109 : decode cX11_tried 109 = .ok (.aload_n 0, 1) := by decide +kernel
theorem dX11_tried_110 : decode cX11_tried 110 = .ok (.iload_n 2, 1) := by decide +kernel
theorem dX11_tried_111 : decode cX11_tried 111 = .ok (.aload_n 0, 1) := by decide +kernel
theorem dX11_tried_112 : decode cX11_tried 112 = .ok (.getfield 32, 3) := by decide +kernel
theorem dX11_tried_115 : decode cX11_tried 115 = .ok (.invokevirtual 306, 3) := by decide +kernel
theorem dX11_tried_118 : decode cX11_tried 118 = .ok (.ireturn, 1) := by decide +kernel
theorem dX11_tried_119 : decode cX11_tried 119 = .ok (.aload_n 0, 1) := by decide +kernel
theorem dX11_tried_120 : decode cX11_tried 120 = .ok (.iload_n 2, 1) := by decide +kernel
theorem dX11_tried_121 : decode cX11_tried 121 = .ok (.aload_n 0, 1) := by decide +kernel
theorem dX11_tried_122 : decode cX11_tried 122 = .ok (.getfield 32, 3) := by decide +kernel
theorem dX11_tried_125 : decode cX11_tried 125 = .ok (.aload_n 0, 1) := by decide +kernel
theorem dX11_tried_126 : decode cX11_tried 126 = .ok (.getfield 55, 3) := by decide +kernel
theorem dX11_tried_129 : decode cX11_tried 129 = .ok (.getfield 198, 3) := by decide +kernel
theorem dX11_tried_132 : decode cX11_tried 132 = .ok (.iconst 1, 1) := by decide +kernel
theorem dX11_tried_133 : decode cX11_tried 133 = .ok (.iload_n 3, 1) := by decide +kernel
theorem dX11_tried_134 : decode cX11_tried 134 = .ok (.ishl, 1) := by decide +kernel
theorem dX11_tried_135 : decode cX11_tried 135 = .ok (.iconst (-1), 1) := by decide +kernel
theorem dX11_tried_136 : decode cX11_tried 136 = .ok (.ixor, 1) := by decide +kernel
theorem dX11_tried_137 : decode cX11_tried 137 = .ok (.iand, 1) := by decide +kernel
theorem dX11_tried_138 : decode cX11_tried 138 = .ok (.invokevirtual 201, 3) := by decide +kernel
theorem dX11_tried_141 : decode cX11_tried 141 = .ok (.invokestatic 205, 3) := by decide +kernel
theorem dX11_tried_144 : decode cX11_tried 144 = .ok (.ireturn, 1) := by decide +kernel
theorem dX11_tried_145 : decode cX11_tried 145 = .ok (.aload_n 0, 1) := by decide +kernel
theorem dX11_tried_146 : decode cX11_tried 146 = .ok (.iload_n 2, 1) := by decide +kernel
theorem dX11_tried_147 : decode cX11_tried 147 = .ok (.aload_n 0, 1) := by decide +kernel
theorem dX11_tried_148 : decode cX11_tried 148 = .ok (.getfield 32, 3) := by decide +kernel
theorem dX11_tried_151 : decode cX11_tried 151 = .ok (.ldc_w 310, 3) := by decide +kernel
theorem dX11_tried_154 : decode cX11_tried 154 = .ok (.invokevirtual 201, 3) := by decide +kernel
theorem dX11_tried_157 : decode cX11_tried 157 = .ok (.invokestatic 205, 3) := by decide +kernel
theorem dX11_tried_160 : decode cX11_tried 160 = .ok (.ireturn, 1) := by decide +kernel
theorem dX11_tried_161 : decode cX11_tried 161 = .ok (.aload_n 0, 1) := by decide +kernel
theorem dX11_tried_162 : decode cX11_tried 162 = .ok (.getfield 42, 3) := by decide +kernel
theorem dX11_tried_165 : decode cX11_tried 165 = .ok (.aload_n 0, 1) := by decide +kernel
theorem dX11_tried_166 : decode cX11_tried 166 = .ok (.getfield 32, 3) := by decide +kernel
theorem dX11_tried_169 : decode cX11_tried 169 = .ok (.invokevirtual 311, 3) := by decide +kernel
theorem dX11_tried_172 : decode cX11_tried 172 = .ok (.aload_n 0, 1) := by decide +kernel
theorem dX11_tried_173 : decode cX11_tried 173 = .ok (.iload_n 2, 1) := by decide +kernel
theorem dX11_tried_174 : decode cX11_tried 174 = .ok (.aload_n 0, 1) := by decide +kernel
theorem dX11_tried_175 : decode cX11_tried 175 = .ok (.getfield 42, 3) := by decide +kernel
theorem dX11_tried_178 : decode cX11_tried 178 = .ok (.aload_n 0, 1) := by decide +kernel
theorem dX11_tried_179 : decode cX11_tried 179 = .ok (.getfield 55, 3) := by decide +kernel
theorem dX11_tried_182 : decode cX11_tried 182 = .ok (.getfield 198, 3) := by decide +kernel
theorem dX11_tried_185 : decode cX11_tried 185 = .ok (.invokevirtual 201, 3) := by decide +kernel
theorem dX11_tried_188 : decode cX11_tried 188 = .ok (.invokestatic 205, 3) := by decide +kernel
theorem dX11_tried_191 : decode cX11_tried 191 = .ok (.ireturn, 1) := by decide +kernel
theorem wl_X11_306 : Cond.methodLink RX11 306 yX11_looseCount ∈ xT := xin 1139 (by decide +kernel) rfl
theorem wl_X11_311 : Cond.methodLink RX11 311 yX7_copyAsOne ∈ xT := xin 1144 (by decide +kernel) rfl
theorem wk_X11_310 : Cond.constant RX11 310 65535 ∈ xT := xin 1143 (by decide +kernel) rfl
theorem wf_X11_42 : Cond.fieldLink RX11 42 "TermShelf" "looseAsking" "LTermShelf$Term;" ∈ xT := xin 465 (by decide +kernel) rfl
section XN_X11_tried
variable {p : Program} {l : Launch} {e : Env} {R : Room} {s : State} {m : MethodId} {args : Array Value} {below : List Frame} {meth : Method} {c : Code} {H H0 : Heap} {locs : List Loc} {cells slots : Nat} {Q : State → Prop} {cc : ByteArray} {nL pc : Nat} {rt : Option FieldType} {ls : Array Slot} {rest : List Value} {D : xD} {ty : xTy} {h : xH}
theorem cl_X11_306 {v0 : Nat} {v1 : Int32} {v2 : Nat} {r : Int32} {h9 : xH} (C0 : xC D RX11 cc nL rt p s m args meth c) (hR : xRep D ty h H) (hS : xS ty H0 H locs) (hF : jf_X11_looseCount ty h v0 v1 v2 = some (r, h9)) (t_v0 : ty v0 = some (0, 11)) (t_v2 : ty v2 = some (0, 7)) (hrm : jr_X11_looseCount.frames + 1 ≤ R.frames ∧ 8 + (5 + 11) + jr_X11_looseCount.locals ≤ R.locals) (hsz : ls.size = nL) (hW : (rest.map fun v => v.category).sum ≤ 8) (hf : cells ≤ R.cells ∧ slots ≤ R.slots) (hdg : decode cc pc = .ok (.invokevirtual 306, 3)) (kk : ∀ (H1 : Heap) (locs1 : List Loc), xRep D ty h9 H1 → xS ty H0 H1 locs1 → W p l e R s m args below meth c H1 locs1 cells slots Q (F0 m (pc + 3) ls (.int r :: rest))) : W p l e R s m args below meth c H locs cells slots Q (F0 m pc ls (.ref v2 :: .int v1 :: .ref v0 :: rest)) := x_callV C0 (jc_X11_looseCount t_v0 t_v2 hF) xm_X11_looseCount xi_X11_looseCount xe_X11_looseCount wl_X11_306 ⟨rfl, rfl, hrm⟩ (ci := 11) rfl t_v0 hR hS (As := [.int v1, .ref v2]) rfl hsz rfl hW hdg hf kk
theorem cl_X11_311 {v0 : Nat} {v1 : Nat} {h9 : xH} (C0 : xC D RX11 cc nL rt p s m args meth c) (hR : xRep D ty h H) (hS : xS ty H0 H locs) (hF : jf_X7_copyAsOne ty h v0 v1 = some h9) (t_v0 : ty v0 = some (0, 7)) (t_v1 : ty v1 = some (0, 7)) (hrm : jr_X7_copyAsOne.frames + 1 ≤ R.frames ∧ 8 + (3 + 11) + jr_X7_copyAsOne.locals ≤ R.locals) (hsz : ls.size = nL) (hW : (rest.map fun v => v.category).sum ≤ 8) (hf : cells ≤ R.cells ∧ slots ≤ R.slots) (hdg : decode cc pc = .ok (.invokevirtual 311, 3)) (kk : ∀ (H1 : Heap) (locs1 : List Loc), xRep D ty h9 H1 → xS ty H0 H1 locs1 → W p l e R s m args below meth c H1 locs1 cells slots Q (F0 m (pc + 3) ls rest)) : W p l e R s m args below meth c H locs cells slots Q (F0 m pc ls (.ref v1 :: .ref v0 :: rest)) := x_callV C0 (jc_X7_copyAsOne t_v0 t_v1 hF) xm_X7_copyAsOne xi_X7_copyAsOne xe_X7_copyAsOne wl_X11_311 ⟨rfl, rfl, hrm⟩ (ci := 7) rfl t_v0 hR hS (As := [.ref v1]) rfl hsz rfl hW hdg hf kk
theorem gf_X11_42 {a : Nat} (C0 : xC D RX11 cc nL rt p s m args meth c) (hR : xRep D ty h H) (ht : ty a = some (0, 11)) {v : Nat} (hv : xR h a 7 = some v) (hdg : decode cc pc = .ok (.getfield 42, 3)) (kk : W p l e R s m args below meth c H locs cells slots Q (F0 m (pc + 3) ls (.ref v :: rest))) : W p l e R s m args below meth c H locs cells slots Q (F0 m pc ls (.ref a :: rest)) := x_get C0 hR (ci := 11) (k := 7) (N := 16) (T := TX11) rfl iX11 (by decide) rfl wf_X11_42 (by show va_rf (xR h a 7) = _; rw [hv]; rfl) ht hdg kk
end XN_X11_tried
set_option maxHeartbeats 4000000 in
set_option maxRecDepth 100000 in
theorem jw_X11_tried_43 {p : Program} {l : Launch} {e : Env} {s : State} {m : MethodId} {args : Array Value} {below : List Frame} {meth : Method} {c : Code} {D : xD} {ty : xTy} (C0 : xC D RX11 cX11_tried 4 (some .int) p s m args meth c) {r : Int32} {h9 : xH} : ∀ (v0 : Nat) (v1 : Int32) (v2 : Int32) (v3 : Int32) (h : xH), ty v0 = some (0, 11) → jf_X11_tried_43 ty v0 v1 v2 v3 h = some (r, h9) → ∀ (H : Heap) (locs : List Loc), xRep D ty h H → xS ty s.heap H locs → ∀ ls : Array Slot, lv_has ls 4 [(0, .ref v0), (1, .int v1), (2, .int v2), (3, .int v3)] → W p l e jr_X11_tried s m args below meth c H locs 0 0 (MQ below (xQ D ty (some (.int r)) h9) args s 0 0 (xdom ty)) (F0 m 43 ls []) := by
  have hx := C0.1
  have hb := C0.2.1
  have hown := C0.2.2.2.2.2.1
  have hts := C0.2.2.2.2.2.2.1
  intro v0 v1 v2 v3 h t_v0 hF H locs hR hS ls hl
  unfold jf_X11_tried_43 at hF
  refine lv_aload_n hx hb dX11_tried_43 rfl (lv_at hl 0 rfl) ?_
  obtain ⟨a1, e_a1, hF⟩ := xbd hF
  obtain ⟨e_a1, t_a1⟩ := xgo_sp e_a1
  refine gf_X11_32 C0 hR t_v0 e_a1 dX11_tried_44 ?_
  refine gf_X11_128 C0 hR t_a1 dX11_tried_47 ?_
  refine lv_if_ne (tgt := 56) hx hb dX11_tried_50 (by decide) (fun c2 => ?_) (fun c2 => ?_)
  · have hF := xel hF c2
    refine lv_iload_n hx hb dX11_tried_56 rfl (lv_at hl 1 rfl) ?_
    by_cases c3 : v1 = 0
    · have hF := xif hF c3
      refine lv_tableIn (tgt := 88) (off := 31) hx hb dX11_tried_57 (by rw [c3]; decide) (by rw [c3]; decide) (by rw [c3]; rfl) (by decide) ?_
      refine lv_aload_n hx hb dX11_tried_88 rfl (lv_at hl 0 rfl) ?_
      obtain ⟨a4, e_a4, hF⟩ := xbd hF
      obtain ⟨e_a4, t_a4⟩ := xgo_sp e_a4
      refine gf_X11_42 C0 hR t_v0 e_a4 dX11_tried_89 ?_
      refine lv_aload_n hx hb dX11_tried_92 rfl (lv_at hl 0 rfl) ?_
      obtain ⟨a5, e_a5, hF⟩ := xbd hF
      obtain ⟨e_a5, t_a5⟩ := xgo_sp e_a5
      refine gf_X11_32 C0 hR t_v0 e_a5 dX11_tried_93 ?_
      obtain ⟨h6, e_h6, hF⟩ := xbd hF
      refine cl_X11_302 C0 hR hS e_h6 t_a4 t_a5 ⟨(Nat.le_of_ble_eq_true rfl), (Nat.le_of_ble_eq_true rfl)⟩ hl.1 (Nat.le_of_ble_eq_true rfl) ⟨(Nat.le_of_ble_eq_true rfl), (Nat.le_of_ble_eq_true rfl)⟩ dX11_tried_96 (fun H locs hR hS => ?_)
      refine lv_aload_n hx hb dX11_tried_99 rfl (lv_at hl 0 rfl) ?_
      refine lv_iload_n hx hb dX11_tried_100 rfl (lv_at hl 2 rfl) ?_
      refine lv_aload_n hx hb dX11_tried_101 rfl (lv_at hl 0 rfl) ?_
      obtain ⟨a7, e_a7, hF⟩ := xbd hF
      obtain ⟨e_a7, t_a7⟩ := xgo_sp e_a7
      refine gf_X11_42 C0 hR t_v0 e_a7 dX11_tried_102 ?_
      obtain ⟨a9, h8, e_h8, hF⟩ := xbd2 hF
      refine cl_X11_306 C0 hR hS e_h8 t_v0 t_a7 ⟨(Nat.le_of_ble_eq_true rfl), (Nat.le_of_ble_eq_true rfl)⟩ hl.1 (Nat.le_of_ble_eq_true rfl) ⟨(Nat.le_of_ble_eq_true rfl), (Nat.le_of_ble_eq_true rfl)⟩ dX11_tried_105 (fun H locs hR hS => ?_)
      cases hF
      exact x_iret C0 hR hS dX11_tried_108
    · have hF := xel hF c3
      by_cases c10 : v1 = 1
      · have hF := xif hF c10
        refine lv_tableIn (tgt := 109) (off := 52) hx hb dX11_tried_57 (by rw [c10]; decide) (by rw [c10]; decide) (by rw [c10]; rfl) (by decide) ?_
        refine lv_aload_n hx hb dX11_tried_109 rfl (lv_at hl 0 rfl) ?_
        refine lv_iload_n hx hb dX11_tried_110 rfl (lv_at hl 2 rfl) ?_
        refine lv_aload_n hx hb dX11_tried_111 rfl (lv_at hl 0 rfl) ?_
        obtain ⟨a11, e_a11, hF⟩ := xbd hF
        obtain ⟨e_a11, t_a11⟩ := xgo_sp e_a11
        refine gf_X11_32 C0 hR t_v0 e_a11 dX11_tried_112 ?_
        obtain ⟨a13, h12, e_h12, hF⟩ := xbd2 hF
        refine cl_X11_306 C0 hR hS e_h12 t_v0 t_a11 ⟨(Nat.le_of_ble_eq_true rfl), (Nat.le_of_ble_eq_true rfl)⟩ hl.1 (Nat.le_of_ble_eq_true rfl) ⟨(Nat.le_of_ble_eq_true rfl), (Nat.le_of_ble_eq_true rfl)⟩ dX11_tried_115 (fun H locs hR hS => ?_)
        cases hF
        exact x_iret C0 hR hS dX11_tried_118
      · have hF := xel hF c10
        by_cases c14 : v1 = 2
        · have hF := xif hF c14
          refine lv_tableIn (tgt := 119) (off := 62) hx hb dX11_tried_57 (by rw [c14]; decide) (by rw [c14]; decide) (by rw [c14]; rfl) (by decide) ?_
          refine lv_aload_n hx hb dX11_tried_119 rfl (lv_at hl 0 rfl) ?_
          refine lv_iload_n hx hb dX11_tried_120 rfl (lv_at hl 2 rfl) ?_
          refine lv_aload_n hx hb dX11_tried_121 rfl (lv_at hl 0 rfl) ?_
          obtain ⟨a15, e_a15, hF⟩ := xbd hF
          obtain ⟨e_a15, t_a15⟩ := xgo_sp e_a15
          refine gf_X11_32 C0 hR t_v0 e_a15 dX11_tried_122 ?_
          refine lv_aload_n hx hb dX11_tried_125 rfl (lv_at hl 0 rfl) ?_
          obtain ⟨a16, e_a16, hF⟩ := xbd hF
          obtain ⟨e_a16, t_a16⟩ := xgo_sp e_a16
          refine gf_X11_55 C0 hR t_v0 e_a16 dX11_tried_126 ?_
          refine gf_X11_198 C0 hR t_a16 dX11_tried_129 ?_
          refine lv_iconst (v := 1) hx hb dX11_tried_132 (by decide) ?_
          refine lv_iload_n hx hb dX11_tried_133 rfl (lv_at hl 3 rfl) ?_
          refine lv_ishl hx hb dX11_tried_134 ?_
          refine lv_iconst (v := (-1)) hx hb dX11_tried_135 (by decide) ?_
          refine lv_ixor hx hb dX11_tried_136 ?_
          refine lv_iand hx hb dX11_tried_137 ?_
          obtain ⟨a18, h17, e_h17, hF⟩ := xbd2 hF
          refine cl_X11_201 C0 hR hS e_h17 t_v0 t_a15 ⟨(Nat.le_of_ble_eq_true rfl), (Nat.le_of_ble_eq_true rfl)⟩ hl.1 (Nat.le_of_ble_eq_true rfl) ⟨(Nat.le_of_ble_eq_true rfl), (Nat.le_of_ble_eq_true rfl)⟩ dX11_tried_138 (fun H locs hR hS => ?_)
          obtain ⟨a19, e_a19, hF⟩ := xbd hF
          refine cl_X11_205 C0 hR hS e_a19  ⟨(Nat.le_of_ble_eq_true rfl), (Nat.le_of_ble_eq_true rfl)⟩ hl.1 (Nat.le_of_ble_eq_true rfl) ⟨(Nat.le_of_ble_eq_true rfl), (Nat.le_of_ble_eq_true rfl)⟩ dX11_tried_141 (fun H locs hR hS => ?_)
          cases hF
          exact x_iret C0 hR hS dX11_tried_144
        · have hF := xel hF c14
          by_cases c20 : v1 = 3
          · have hF := xif hF c20
            refine lv_tableIn (tgt := 145) (off := 88) hx hb dX11_tried_57 (by rw [c20]; decide) (by rw [c20]; decide) (by rw [c20]; rfl) (by decide) ?_
            refine lv_aload_n hx hb dX11_tried_145 rfl (lv_at hl 0 rfl) ?_
            refine lv_iload_n hx hb dX11_tried_146 rfl (lv_at hl 2 rfl) ?_
            refine lv_aload_n hx hb dX11_tried_147 rfl (lv_at hl 0 rfl) ?_
            obtain ⟨a21, e_a21, hF⟩ := xbd hF
            obtain ⟨e_a21, t_a21⟩ := xgo_sp e_a21
            refine gf_X11_32 C0 hR t_v0 e_a21 dX11_tried_148 ?_
            refine lv_ldcw (v := 65535) hx hb hown (hts _ wk_X11_310) dX11_tried_151 ?_
            obtain ⟨a23, h22, e_h22, hF⟩ := xbd2 hF
            refine cl_X11_201 C0 hR hS e_h22 t_v0 t_a21 ⟨(Nat.le_of_ble_eq_true rfl), (Nat.le_of_ble_eq_true rfl)⟩ hl.1 (Nat.le_of_ble_eq_true rfl) ⟨(Nat.le_of_ble_eq_true rfl), (Nat.le_of_ble_eq_true rfl)⟩ dX11_tried_154 (fun H locs hR hS => ?_)
            obtain ⟨a24, e_a24, hF⟩ := xbd hF
            refine cl_X11_205 C0 hR hS e_a24  ⟨(Nat.le_of_ble_eq_true rfl), (Nat.le_of_ble_eq_true rfl)⟩ hl.1 (Nat.le_of_ble_eq_true rfl) ⟨(Nat.le_of_ble_eq_true rfl), (Nat.le_of_ble_eq_true rfl)⟩ dX11_tried_157 (fun H locs hR hS => ?_)
            cases hF
            exact x_iret C0 hR hS dX11_tried_160
          · have hF := xel hF c20
            have g_c3 : ¬ (v1).toInt = 0 := fun z => c3 (Int32.toInt_inj.mp (z.trans (by decide)))
            have g_c10 : ¬ (v1).toInt = 1 := fun z => c10 (Int32.toInt_inj.mp (z.trans (by decide)))
            have g_c14 : ¬ (v1).toInt = 2 := fun z => c14 (Int32.toInt_inj.mp (z.trans (by decide)))
            have g_c20 : ¬ (v1).toInt = 3 := fun z => c20 (Int32.toInt_inj.mp (z.trans (by decide)))
            refine lv_tableOut (tgt := 161) hx hb dX11_tried_57 (by omega) (by decide) ?_
            refine lv_aload_n hx hb dX11_tried_161 rfl (lv_at hl 0 rfl) ?_
            obtain ⟨a25, e_a25, hF⟩ := xbd hF
            obtain ⟨e_a25, t_a25⟩ := xgo_sp e_a25
            refine gf_X11_42 C0 hR t_v0 e_a25 dX11_tried_162 ?_
            refine lv_aload_n hx hb dX11_tried_165 rfl (lv_at hl 0 rfl) ?_
            obtain ⟨a26, e_a26, hF⟩ := xbd hF
            obtain ⟨e_a26, t_a26⟩ := xgo_sp e_a26
            refine gf_X11_32 C0 hR t_v0 e_a26 dX11_tried_166 ?_
            obtain ⟨h27, e_h27, hF⟩ := xbd hF
            refine cl_X11_311 C0 hR hS e_h27 t_a25 t_a26 ⟨(Nat.le_of_ble_eq_true rfl), (Nat.le_of_ble_eq_true rfl)⟩ hl.1 (Nat.le_of_ble_eq_true rfl) ⟨(Nat.le_of_ble_eq_true rfl), (Nat.le_of_ble_eq_true rfl)⟩ dX11_tried_169 (fun H locs hR hS => ?_)
            refine lv_aload_n hx hb dX11_tried_172 rfl (lv_at hl 0 rfl) ?_
            refine lv_iload_n hx hb dX11_tried_173 rfl (lv_at hl 2 rfl) ?_
            refine lv_aload_n hx hb dX11_tried_174 rfl (lv_at hl 0 rfl) ?_
            obtain ⟨a28, e_a28, hF⟩ := xbd hF
            obtain ⟨e_a28, t_a28⟩ := xgo_sp e_a28
            refine gf_X11_42 C0 hR t_v0 e_a28 dX11_tried_175 ?_
            refine lv_aload_n hx hb dX11_tried_178 rfl (lv_at hl 0 rfl) ?_
            obtain ⟨a29, e_a29, hF⟩ := xbd hF
            obtain ⟨e_a29, t_a29⟩ := xgo_sp e_a29
            refine gf_X11_55 C0 hR t_v0 e_a29 dX11_tried_179 ?_
            refine gf_X11_198 C0 hR t_a29 dX11_tried_182 ?_
            obtain ⟨a31, h30, e_h30, hF⟩ := xbd2 hF
            refine cl_X11_201 C0 hR hS e_h30 t_v0 t_a28 ⟨(Nat.le_of_ble_eq_true rfl), (Nat.le_of_ble_eq_true rfl)⟩ hl.1 (Nat.le_of_ble_eq_true rfl) ⟨(Nat.le_of_ble_eq_true rfl), (Nat.le_of_ble_eq_true rfl)⟩ dX11_tried_185 (fun H locs hR hS => ?_)
            obtain ⟨a32, e_a32, hF⟩ := xbd hF
            refine cl_X11_205 C0 hR hS e_a32  ⟨(Nat.le_of_ble_eq_true rfl), (Nat.le_of_ble_eq_true rfl)⟩ hl.1 (Nat.le_of_ble_eq_true rfl) ⟨(Nat.le_of_ble_eq_true rfl), (Nat.le_of_ble_eq_true rfl)⟩ dX11_tried_188 (fun H locs hR hS => ?_)
            cases hF
            exact x_iret C0 hR hS dX11_tried_191
  · have hF := xif hF c2
    refine lv_bipush (v := (-2)) hx hb dX11_tried_53 (by decide) ?_
    cases hF
    exact x_iret C0 hR hS dX11_tried_55
set_option maxHeartbeats 4000000 in
set_option maxRecDepth 100000 in
theorem jc_X11_tried {l : Launch} {D : xD} {ty : xTy} {h : xH} {v0 : Nat} {v1 : Int32} {v2 : Int32} {v3 : Int32} {r : Int32} {h9 : xH} (t_v0 : ty v0 = some (0, 11)) (hF : jf_X11_tried ty h v0 v1 v2 v3 = some (r, h9)) : Met l yX11_tried (xws yX11_tried cX11_tried 4 (some .int)) jr_X11_tried (xPc D ty h [.ref v0, .int v1, .int v2, .int v3]) (xQ D ty (some (.int r)) h9) 0 0 (xdom ty) := by
  refine x_met (by decide) ?_
  intro p e s m below meth c C0 hR
  generalize hargs : ([.ref v0, .int v1, .int v2, .int v3] : List Value).toArray = args at C0 ⊢
  have hx := C0.1
  have hb := C0.2.1
  have hown := C0.2.2.2.2.2.1
  have hts := C0.2.2.2.2.2.2.1
  have hS : xS ty s.heap s.heap [] := xS.rf
  have hl := lv_entry ([.ref v0, .int v1, .int v2, .int v3]) (n := 4) (Nat.le_of_ble_eq_true rfl)
  rw [← hargs, lg_entry_eq]
  rw [hargs]
  generalize (lg_sl ([.ref v0, .int v1, .int v2, .int v3]) ++ List.replicate (4 - (lg_sl ([.ref v0, .int v1, .int v2, .int v3])).length) Slot.unset).toArray = ls at hl ⊢
  have hl : lv_has ls 4 [(0, .ref v0), (1, .int v1), (2, .int v2), (3, .int v3)] := hl
  unfold jf_X11_tried at hF
  refine lv_iload_n hx hb dX11_tried_0 rfl (lv_at hl 1 rfl) ?_
  refine lv_if_lt (tgt := 16) hx hb dX11_tried_1 (by decide) (fun c33 => ?_) (fun c33 => ?_)
  · have hF := xif hF c33
    refine lv_iconst (v := (-1)) hx hb dX11_tried_16 (by decide) ?_
    cases hF
    exact x_iret C0 hR hS dX11_tried_17
  · have hF := xel hF c33
    refine lv_iload_n hx hb dX11_tried_4 rfl (lv_at hl 1 rfl) ?_
    refine lv_iconst (v := 4) hx hb dX11_tried_5 (by decide) ?_
    refine lv_icmp_gt (tgt := 16) hx hb dX11_tried_6 (by decide) (fun c34 => ?_) (fun c34 => ?_)
    · have hF := xif hF c34
      refine lv_iconst (v := (-1)) hx hb dX11_tried_16 (by decide) ?_
      cases hF
      exact x_iret C0 hR hS dX11_tried_17
    · have hF := xel hF c34
      refine lv_iload_n hx hb dX11_tried_9 rfl (lv_at hl 2 rfl) ?_
      obtain ⟨a35, e_a35, hF⟩ := xbd hF
      refine cl_X11_191 C0 hR hS e_a35  ⟨(Nat.le_of_ble_eq_true rfl), (Nat.le_of_ble_eq_true rfl)⟩ hl.1 (Nat.le_of_ble_eq_true rfl) ⟨(Nat.le_of_ble_eq_true rfl), (Nat.le_of_ble_eq_true rfl)⟩ dX11_tried_10 (fun H locs hR hS => ?_)
      refine lv_if_ne (tgt := 18) hx hb dX11_tried_13 (by decide) (fun c36 => ?_) (fun c36 => ?_)
      · have hF := xel hF c36
        refine lv_iload_n hx hb dX11_tried_18 rfl (lv_at hl 1 rfl) ?_
        refine lv_iconst (v := 2) hx hb dX11_tried_19 (by decide) ?_
        refine lv_icmp_ne (tgt := 37) hx hb dX11_tried_20 (by decide) (fun c37 => ?_) (fun c37 => ?_)
        · have hF := xel hF c37
          refine lv_iload_n hx hb dX11_tried_37 rfl (lv_at hl 3 rfl) ?_
          refine lv_if_eq (tgt := 43) hx hb dX11_tried_38 (by decide) (fun c38 => ?_) (fun c38 => ?_)
          · have hF := xif hF c38
            exact jw_X11_tried_43 C0 _ _ _ _ _ t_v0 hF _ _ hR hS _ (lv_sub hl [0, 1, 2, 3] rfl)
          · have hF := xel hF c38
            refine lv_iconst (v := (-1)) hx hb dX11_tried_41 (by decide) ?_
            cases hF
            exact x_iret C0 hR hS dX11_tried_42
        · have hF := xif hF c37
          refine lv_aload_n hx hb dX11_tried_23 rfl (lv_at hl 0 rfl) ?_
          obtain ⟨a39, e_a39, hF⟩ := xbd hF
          obtain ⟨e_a39, t_a39⟩ := xgo_sp e_a39
          refine gf_X11_20 C0 hR t_v0 e_a39 dX11_tried_24 ?_
          refine lv_iload_n hx hb dX11_tried_27 rfl (lv_at hl 3 rfl) ?_
          obtain ⟨a40, e_a40, hF⟩ := xbd hF
          refine cl_X11_144 C0 hR hS e_a40 t_a39 ⟨(Nat.le_of_ble_eq_true rfl), (Nat.le_of_ble_eq_true rfl)⟩ hl.1 (Nat.le_of_ble_eq_true rfl) ⟨(Nat.le_of_ble_eq_true rfl), (Nat.le_of_ble_eq_true rfl)⟩ dX11_tried_28 (fun H locs hR hS => ?_)
          refine lv_if_ne (tgt := 43) hx hb dX11_tried_31 (by decide) (fun c41 => ?_) (fun c41 => ?_)
          · have hF := xel hF c41
            exact jw_X11_tried_43 C0 _ _ _ _ _ t_v0 hF _ _ hR hS _ (lv_sub hl [0, 1, 2, 3] rfl)
          · have hF := xif hF c41
            refine lv_goto (tgt := 41) hx hb dX11_tried_34 (by decide) ?_
            refine lv_iconst (v := (-1)) hx hb dX11_tried_41 (by decide) ?_
            cases hF
            exact x_iret C0 hR hS dX11_tried_42
      · have hF := xif hF c36
        refine lv_iconst (v := (-1)) hx hb dX11_tried_16 (by decide) ?_
        cases hF
        exact x_iret C0 hR hS dX11_tried_17
theorem xm_X11_tried : xMw yX11_tried cX11_tried 4 (some .int) 3 := ⟨xin 1134 (by decide +kernel) rfl, xin 114 (by decide +kernel) rfl, by decide +kernel⟩
theorem xi_X11_tried : Cond.instanceMethod yX11_tried ∈ xT := xin 1132 (by decide +kernel) rfl
theorem xe_X11_tried : Cond.selects yX11_tried.cls yX11_tried yX11_tried ∈ xT := xin 1133 (by decide +kernel) rfl
theorem dX11_undo_0 : decode cX11_undo 0 = .ok (.aload_n 0, 1) := by decide +kernel
theorem dX11_undo_1 : decode cX11_undo 1 = .ok (.getfield 55, 3) := by decide +kernel
theorem dX11_undo_4 : decode cX11_undo 4 = .ok (.invokevirtual 314, 3) := by decide +kernel
theorem dX11_undo_7 : decode cX11_undo 7 = .ok (.ifCond .ne 5, 3) := by decide +kernel
theorem dX11_undo_10 : decode cX11_undo 10 = .ok (.iconst (-1), 1) := by decide +kernel
theorem dX11_undo_11 : decode cX11_undo 11 = .ok (.ireturn, 1) := by decide +kernel
theorem dX11_undo_12 : decode cX11_undo 12 = .ok (.aload_n 0, 1) := by decide +kernel
theorem dX11_undo_13 : decode cX11_undo 13 = .ok (.getfield 62, 3) := by decide +kernel
theorem dX11_undo_16 : decode cX11_undo 16 = .ok (.aload_n 0, 1) := by decide +kernel
theorem dX11_undo_17 : decode cX11_undo 17 = .ok (.getfield 20, 3) := by decide +kernel
theorem dX11_undo_20 : decode cX11_undo 20 = .ok (.aload_n 0, 1) := by decide +kernel
theorem dX11_undo_21 : decode cX11_undo 21 = .ok (.getfield 55, 3) := by decide +kernel
theorem dX11_undo_24 : decode cX11_undo 24 = .ok (.invokevirtual 117, 3) := by decide +kernel
theorem dX11_undo_27 : decode cX11_undo 27 = .ok (.aload_n 0, 1) := by decide +kernel
theorem dX11_undo_28 : decode cX11_undo 28 = .ok (.getfield 55, 3) := by decide +kernel
theorem dX11_undo_31 : decode cX11_undo 31 = .ok (.getfield 317, 3) := by decide +kernel
theorem dX11_undo_34 : decode cX11_undo 34 = .ok (.ireturn, 1) := by decide +kernel
theorem wl_X11_314 : Cond.methodLink RX11 314 yX6_turnLatestBack ∈ xT := xin 1152 (by decide +kernel) rfl
theorem wf_X11_317 : Cond.fieldLink RX11 317 "TermShelf$Standing" "turnCount" "I" ∈ xT := xin 286 (by decide +kernel) rfl
section XN_X11_undo
variable {p : Program} {l : Launch} {e : Env} {R : Room} {s : State} {m : MethodId} {args : Array Value} {below : List Frame} {meth : Method} {c : Code} {H H0 : Heap} {locs : List Loc} {cells slots : Nat} {Q : State → Prop} {cc : ByteArray} {nL pc : Nat} {rt : Option FieldType} {ls : Array Slot} {rest : List Value} {D : xD} {ty : xTy} {h : xH}
theorem cl_X11_314 {v0 : Nat} {r : Int32} {h9 : xH} (C0 : xC D RX11 cc nL rt p s m args meth c) (hR : xRep D ty h H) (hS : xS ty H0 H locs) (hF : jf_X6_turnLatestBack ty h v0 = some (r, h9)) (t_v0 : ty v0 = some (0, 6)) (hrm : jr_X6_turnLatestBack.frames + 1 ≤ R.frames ∧ 8 + (1 + 11) + jr_X6_turnLatestBack.locals ≤ R.locals) (hsz : ls.size = nL) (hW : (rest.map fun v => v.category).sum ≤ 8) (hf : cells ≤ R.cells ∧ slots ≤ R.slots) (hdg : decode cc pc = .ok (.invokevirtual 314, 3)) (kk : ∀ (H1 : Heap) (locs1 : List Loc), xRep D ty h9 H1 → xS ty H0 H1 locs1 → W p l e R s m args below meth c H1 locs1 cells slots Q (F0 m (pc + 3) ls (.int r :: rest))) : W p l e R s m args below meth c H locs cells slots Q (F0 m pc ls (.ref v0 :: rest)) := x_callV C0 (jc_X6_turnLatestBack t_v0 hF) xm_X6_turnLatestBack xi_X6_turnLatestBack xe_X6_turnLatestBack wl_X11_314 ⟨rfl, rfl, hrm⟩ (ci := 6) rfl t_v0 hR hS (As := []) rfl hsz rfl hW hdg hf kk
theorem gf_X11_317 {a : Nat} (C0 : xC D RX11 cc nL rt p s m args meth c) (hR : xRep D ty h H) (ht : ty a = some (0, 6)) (hdg : decode cc pc = .ok (.getfield 317, 3)) (kk : W p l e R s m args below meth c H locs cells slots Q (F0 m (pc + 3) ls (.int (xI h a 3) :: rest))) : W p l e R s m args below meth c H locs cells slots Q (F0 m pc ls (.ref a :: rest)) := x_get C0 hR (ci := 6) (k := 3) (N := 5) (T := TX6) rfl iX6 (by decide) rfl wf_X11_317 rfl ht hdg kk
end XN_X11_undo
set_option maxHeartbeats 4000000 in
set_option maxRecDepth 100000 in
theorem jc_X11_undo {l : Launch} {D : xD} {ty : xTy} {h : xH} {v0 : Nat} {r : Int32} {h9 : xH} (t_v0 : ty v0 = some (0, 11)) (hF : jf_X11_undo ty h v0 = some (r, h9)) : Met l yX11_undo (xws yX11_undo cX11_undo 1 (some .int)) jr_X11_undo (xPc D ty h [.ref v0]) (xQ D ty (some (.int r)) h9) 0 0 (xdom ty) := by
  refine x_met (by decide) ?_
  intro p e s m below meth c C0 hR
  generalize hargs : ([.ref v0] : List Value).toArray = args at C0 ⊢
  have hx := C0.1
  have hb := C0.2.1
  have hown := C0.2.2.2.2.2.1
  have hts := C0.2.2.2.2.2.2.1
  have hS : xS ty s.heap s.heap [] := xS.rf
  have hl := lv_entry ([.ref v0]) (n := 1) (Nat.le_of_ble_eq_true rfl)
  rw [← hargs, lg_entry_eq]
  rw [hargs]
  generalize (lg_sl ([.ref v0]) ++ List.replicate (1 - (lg_sl ([.ref v0])).length) Slot.unset).toArray = ls at hl ⊢
  have hl : lv_has ls 1 [(0, .ref v0)] := hl
  unfold jf_X11_undo at hF
  refine lv_aload_n hx hb dX11_undo_0 rfl (lv_at hl 0 rfl) ?_
  obtain ⟨a1, e_a1, hF⟩ := xbd hF
  obtain ⟨e_a1, t_a1⟩ := xgo_sp e_a1
  refine gf_X11_55 C0 hR t_v0 e_a1 dX11_undo_1 ?_
  obtain ⟨a3, h2, e_h2, hF⟩ := xbd2 hF
  refine cl_X11_314 C0 hR hS e_h2 t_a1 ⟨(Nat.le_of_ble_eq_true rfl), (Nat.le_of_ble_eq_true rfl)⟩ hl.1 (Nat.le_of_ble_eq_true rfl) ⟨(Nat.le_of_ble_eq_true rfl), (Nat.le_of_ble_eq_true rfl)⟩ dX11_undo_4 (fun H locs hR hS => ?_)
  refine lv_if_ne (tgt := 12) hx hb dX11_undo_7 (by decide) (fun c4 => ?_) (fun c4 => ?_)
  · have hF := xel hF c4
    refine lv_aload_n hx hb dX11_undo_12 rfl (lv_at hl 0 rfl) ?_
    obtain ⟨a5, e_a5, hF⟩ := xbd hF
    obtain ⟨e_a5, t_a5⟩ := xgo_sp e_a5
    refine gf_X11_62 C0 hR t_v0 e_a5 dX11_undo_13 ?_
    refine lv_aload_n hx hb dX11_undo_16 rfl (lv_at hl 0 rfl) ?_
    obtain ⟨a6, e_a6, hF⟩ := xbd hF
    obtain ⟨e_a6, t_a6⟩ := xgo_sp e_a6
    refine gf_X11_20 C0 hR t_v0 e_a6 dX11_undo_17 ?_
    refine lv_aload_n hx hb dX11_undo_20 rfl (lv_at hl 0 rfl) ?_
    obtain ⟨a7, e_a7, hF⟩ := xbd hF
    obtain ⟨e_a7, t_a7⟩ := xgo_sp e_a7
    refine gf_X11_55 C0 hR t_v0 e_a7 dX11_undo_21 ?_
    obtain ⟨h8, e_h8, hF⟩ := xbd hF
    refine cl_X11_117 C0 hR hS e_h8 t_a5 t_a6 t_a7 ⟨(Nat.le_of_ble_eq_true rfl), (Nat.le_of_ble_eq_true rfl)⟩ hl.1 (Nat.le_of_ble_eq_true rfl) ⟨(Nat.le_of_ble_eq_true rfl), (Nat.le_of_ble_eq_true rfl)⟩ dX11_undo_24 (fun H locs hR hS => ?_)
    refine lv_aload_n hx hb dX11_undo_27 rfl (lv_at hl 0 rfl) ?_
    obtain ⟨a9, e_a9, hF⟩ := xbd hF
    obtain ⟨e_a9, t_a9⟩ := xgo_sp e_a9
    refine gf_X11_55 C0 hR t_v0 e_a9 dX11_undo_28 ?_
    refine gf_X11_317 C0 hR t_a9 dX11_undo_31 ?_
    cases hF
    exact x_iret C0 hR hS dX11_undo_34
  · have hF := xif hF c4
    refine lv_iconst (v := (-1)) hx hb dX11_undo_10 (by decide) ?_
    cases hF
    exact x_iret C0 hR hS dX11_undo_11
theorem xm_X11_undo : xMw yX11_undo cX11_undo 1 (some .int) 0 := ⟨xin 1151 (by decide +kernel) rfl, xin 114 (by decide +kernel) rfl, by decide +kernel⟩
theorem xi_X11_undo : Cond.instanceMethod yX11_undo ∈ xT := xin 1149 (by decide +kernel) rfl
theorem xe_X11_undo : Cond.selects yX11_undo.cls yX11_undo yX11_undo ∈ xT := xin 1150 (by decide +kernel) rfl
theorem dX11_keep_0 : decode cX11_keep 0 = .ok (.aload_n 0, 1) := by decide +kernel
theorem dX11_keep_1 : decode cX11_keep 1 = .ok (.getfield 55, 3) := by decide +kernel
theorem dX11_keep_4 : decode cX11_keep 4 = .ok (.invokevirtual 320, 3) := by decide +kernel
theorem dX11_keep_7 : decode cX11_keep 7 = .ok (.aload_n 0, 1) := by decide +kernel
theorem dX11_keep_8 : decode cX11_keep 8 = .ok (.getfield 55, 3) := by decide +kernel
theorem dX11_keep_11 : decode cX11_keep 11 = .ok (.getfield 198, 3) := by decide +kernel
theorem dX11_keep_14 : decode cX11_keep 14 = .ok (.invokestatic 205, 3) := by decide +kernel
theorem dX11_keep_17 : decode cX11_keep 17 = .ok (.ireturn, 1) := by decide +kernel
theorem wl_X11_320 : Cond.methodLink RX11 320 yX6_keepImage ∈ xT := xin 1160 (by decide +kernel) rfl
section XN_X11_keep
variable {p : Program} {l : Launch} {e : Env} {R : Room} {s : State} {m : MethodId} {args : Array Value} {below : List Frame} {meth : Method} {c : Code} {H H0 : Heap} {locs : List Loc} {cells slots : Nat} {Q : State → Prop} {cc : ByteArray} {nL pc : Nat} {rt : Option FieldType} {ls : Array Slot} {rest : List Value} {D : xD} {ty : xTy} {h : xH}
theorem cl_X11_320 {v0 : Nat} {h9 : xH} (C0 : xC D RX11 cc nL rt p s m args meth c) (hR : xRep D ty h H) (hS : xS ty H0 H locs) (hF : jf_X6_keepImage ty h v0 = some h9) (t_v0 : ty v0 = some (0, 6)) (hrm : jr_X6_keepImage.frames + 1 ≤ R.frames ∧ 8 + (1 + 11) + jr_X6_keepImage.locals ≤ R.locals) (hsz : ls.size = nL) (hW : (rest.map fun v => v.category).sum ≤ 8) (hf : cells ≤ R.cells ∧ slots ≤ R.slots) (hdg : decode cc pc = .ok (.invokevirtual 320, 3)) (kk : ∀ (H1 : Heap) (locs1 : List Loc), xRep D ty h9 H1 → xS ty H0 H1 locs1 → W p l e R s m args below meth c H1 locs1 cells slots Q (F0 m (pc + 3) ls rest)) : W p l e R s m args below meth c H locs cells slots Q (F0 m pc ls (.ref v0 :: rest)) := x_callV C0 (jc_X6_keepImage t_v0 hF) xm_X6_keepImage xi_X6_keepImage xe_X6_keepImage wl_X11_320 ⟨rfl, rfl, hrm⟩ (ci := 6) rfl t_v0 hR hS (As := []) rfl hsz rfl hW hdg hf kk
end XN_X11_keep
set_option maxHeartbeats 4000000 in
set_option maxRecDepth 100000 in
theorem jc_X11_keep {l : Launch} {D : xD} {ty : xTy} {h : xH} {v0 : Nat} {r : Int32} {h9 : xH} (t_v0 : ty v0 = some (0, 11)) (hF : jf_X11_keep ty h v0 = some (r, h9)) : Met l yX11_keep (xws yX11_keep cX11_keep 1 (some .int)) jr_X11_keep (xPc D ty h [.ref v0]) (xQ D ty (some (.int r)) h9) 0 0 (xdom ty) := by
  refine x_met (by decide) ?_
  intro p e s m below meth c C0 hR
  generalize hargs : ([.ref v0] : List Value).toArray = args at C0 ⊢
  have hx := C0.1
  have hb := C0.2.1
  have hown := C0.2.2.2.2.2.1
  have hts := C0.2.2.2.2.2.2.1
  have hS : xS ty s.heap s.heap [] := xS.rf
  have hl := lv_entry ([.ref v0]) (n := 1) (Nat.le_of_ble_eq_true rfl)
  rw [← hargs, lg_entry_eq]
  rw [hargs]
  generalize (lg_sl ([.ref v0]) ++ List.replicate (1 - (lg_sl ([.ref v0])).length) Slot.unset).toArray = ls at hl ⊢
  have hl : lv_has ls 1 [(0, .ref v0)] := hl
  unfold jf_X11_keep at hF
  refine lv_aload_n hx hb dX11_keep_0 rfl (lv_at hl 0 rfl) ?_
  obtain ⟨a1, e_a1, hF⟩ := xbd hF
  obtain ⟨e_a1, t_a1⟩ := xgo_sp e_a1
  refine gf_X11_55 C0 hR t_v0 e_a1 dX11_keep_1 ?_
  obtain ⟨h2, e_h2, hF⟩ := xbd hF
  refine cl_X11_320 C0 hR hS e_h2 t_a1 ⟨(Nat.le_of_ble_eq_true rfl), (Nat.le_of_ble_eq_true rfl)⟩ hl.1 (Nat.le_of_ble_eq_true rfl) ⟨(Nat.le_of_ble_eq_true rfl), (Nat.le_of_ble_eq_true rfl)⟩ dX11_keep_4 (fun H locs hR hS => ?_)
  refine lv_aload_n hx hb dX11_keep_7 rfl (lv_at hl 0 rfl) ?_
  obtain ⟨a3, e_a3, hF⟩ := xbd hF
  obtain ⟨e_a3, t_a3⟩ := xgo_sp e_a3
  refine gf_X11_55 C0 hR t_v0 e_a3 dX11_keep_8 ?_
  refine gf_X11_198 C0 hR t_a3 dX11_keep_11 ?_
  obtain ⟨a4, e_a4, hF⟩ := xbd hF
  refine cl_X11_205 C0 hR hS e_a4  ⟨(Nat.le_of_ble_eq_true rfl), (Nat.le_of_ble_eq_true rfl)⟩ hl.1 (Nat.le_of_ble_eq_true rfl) ⟨(Nat.le_of_ble_eq_true rfl), (Nat.le_of_ble_eq_true rfl)⟩ dX11_keep_14 (fun H locs hR hS => ?_)
  cases hF
  exact x_iret C0 hR hS dX11_keep_17
theorem xm_X11_keep : xMw yX11_keep cX11_keep 1 (some .int) 0 := ⟨xin 1159 (by decide +kernel) rfl, xin 114 (by decide +kernel) rfl, by decide +kernel⟩
theorem xi_X11_keep : Cond.instanceMethod yX11_keep ∈ xT := xin 1157 (by decide +kernel) rfl
theorem xe_X11_keep : Cond.selects yX11_keep.cls yX11_keep yX11_keep ∈ xT := xin 1158 (by decide +kernel) rfl
theorem dX11_back_0 : decode cX11_back 0 = .ok (.aload_n 0, 1) := by decide +kernel
theorem dX11_back_1 : decode cX11_back 1 = .ok (.getfield 55, 3) := by decide +kernel
theorem dX11_back_4 : decode cX11_back 4 = .ok (.invokevirtual 323, 3) := by decide +kernel
theorem dX11_back_7 : decode cX11_back 7 = .ok (.ifCond .ne 5, 3) := by decide +kernel
theorem dX11_back_10 : decode cX11_back 10 = .ok (.iconst (-1), 1) := by decide +kernel
theorem dX11_back_11 : decode cX11_back 11 = .ok (.ireturn, 1) := by decide +kernel
theorem dX11_back_12 : decode cX11_back 12 = .ok (.aload_n 0, 1) := by decide +kernel
theorem dX11_back_13 : decode cX11_back 13 = .ok (.getfield 62, 3) := by decide +kernel
theorem dX11_back_16 : decode cX11_back 16 = .ok (.aload_n 0, 1) := by decide +kernel
theorem dX11_back_17 : decode cX11_back 17 = .ok (.getfield 20, 3) := by decide +kernel
theorem dX11_back_20 : decode cX11_back 20 = .ok (.aload_n 0, 1) := by decide +kernel
theorem dX11_back_21 : decode cX11_back 21 = .ok (.getfield 55, 3) := by decide +kernel
theorem dX11_back_24 : decode cX11_back 24 = .ok (.invokevirtual 117, 3) := by decide +kernel
theorem dX11_back_27 : decode cX11_back 27 = .ok (.aload_n 0, 1) := by decide +kernel
theorem dX11_back_28 : decode cX11_back 28 = .ok (.getfield 55, 3) := by decide +kernel
theorem dX11_back_31 : decode cX11_back 31 = .ok (.getfield 198, 3) := by decide +kernel
theorem dX11_back_34 : decode cX11_back 34 = .ok (.invokestatic 205, 3) := by decide +kernel
theorem dX11_back_37 : decode cX11_back 37 = .ok (.ireturn, 1) := by decide +kernel
theorem wl_X11_323 : Cond.methodLink RX11 323 yX6_takeImage ∈ xT := xin 1168 (by decide +kernel) rfl
section XN_X11_back
variable {p : Program} {l : Launch} {e : Env} {R : Room} {s : State} {m : MethodId} {args : Array Value} {below : List Frame} {meth : Method} {c : Code} {H H0 : Heap} {locs : List Loc} {cells slots : Nat} {Q : State → Prop} {cc : ByteArray} {nL pc : Nat} {rt : Option FieldType} {ls : Array Slot} {rest : List Value} {D : xD} {ty : xTy} {h : xH}
theorem cl_X11_323 {v0 : Nat} {r : Int32} {h9 : xH} (C0 : xC D RX11 cc nL rt p s m args meth c) (hR : xRep D ty h H) (hS : xS ty H0 H locs) (hF : jf_X6_takeImage ty h v0 = some (r, h9)) (t_v0 : ty v0 = some (0, 6)) (hrm : jr_X6_takeImage.frames + 1 ≤ R.frames ∧ 8 + (1 + 11) + jr_X6_takeImage.locals ≤ R.locals) (hsz : ls.size = nL) (hW : (rest.map fun v => v.category).sum ≤ 8) (hf : cells ≤ R.cells ∧ slots ≤ R.slots) (hdg : decode cc pc = .ok (.invokevirtual 323, 3)) (kk : ∀ (H1 : Heap) (locs1 : List Loc), xRep D ty h9 H1 → xS ty H0 H1 locs1 → W p l e R s m args below meth c H1 locs1 cells slots Q (F0 m (pc + 3) ls (.int r :: rest))) : W p l e R s m args below meth c H locs cells slots Q (F0 m pc ls (.ref v0 :: rest)) := x_callV C0 (jc_X6_takeImage t_v0 hF) xm_X6_takeImage xi_X6_takeImage xe_X6_takeImage wl_X11_323 ⟨rfl, rfl, hrm⟩ (ci := 6) rfl t_v0 hR hS (As := []) rfl hsz rfl hW hdg hf kk
end XN_X11_back
set_option maxHeartbeats 4000000 in
set_option maxRecDepth 100000 in
theorem jc_X11_back {l : Launch} {D : xD} {ty : xTy} {h : xH} {v0 : Nat} {r : Int32} {h9 : xH} (t_v0 : ty v0 = some (0, 11)) (hF : jf_X11_back ty h v0 = some (r, h9)) : Met l yX11_back (xws yX11_back cX11_back 1 (some .int)) jr_X11_back (xPc D ty h [.ref v0]) (xQ D ty (some (.int r)) h9) 0 0 (xdom ty) := by
  refine x_met (by decide) ?_
  intro p e s m below meth c C0 hR
  generalize hargs : ([.ref v0] : List Value).toArray = args at C0 ⊢
  have hx := C0.1
  have hb := C0.2.1
  have hown := C0.2.2.2.2.2.1
  have hts := C0.2.2.2.2.2.2.1
  have hS : xS ty s.heap s.heap [] := xS.rf
  have hl := lv_entry ([.ref v0]) (n := 1) (Nat.le_of_ble_eq_true rfl)
  rw [← hargs, lg_entry_eq]
  rw [hargs]
  generalize (lg_sl ([.ref v0]) ++ List.replicate (1 - (lg_sl ([.ref v0])).length) Slot.unset).toArray = ls at hl ⊢
  have hl : lv_has ls 1 [(0, .ref v0)] := hl
  unfold jf_X11_back at hF
  refine lv_aload_n hx hb dX11_back_0 rfl (lv_at hl 0 rfl) ?_
  obtain ⟨a1, e_a1, hF⟩ := xbd hF
  obtain ⟨e_a1, t_a1⟩ := xgo_sp e_a1
  refine gf_X11_55 C0 hR t_v0 e_a1 dX11_back_1 ?_
  obtain ⟨a3, h2, e_h2, hF⟩ := xbd2 hF
  refine cl_X11_323 C0 hR hS e_h2 t_a1 ⟨(Nat.le_of_ble_eq_true rfl), (Nat.le_of_ble_eq_true rfl)⟩ hl.1 (Nat.le_of_ble_eq_true rfl) ⟨(Nat.le_of_ble_eq_true rfl), (Nat.le_of_ble_eq_true rfl)⟩ dX11_back_4 (fun H locs hR hS => ?_)
  refine lv_if_ne (tgt := 12) hx hb dX11_back_7 (by decide) (fun c4 => ?_) (fun c4 => ?_)
  · have hF := xel hF c4
    refine lv_aload_n hx hb dX11_back_12 rfl (lv_at hl 0 rfl) ?_
    obtain ⟨a5, e_a5, hF⟩ := xbd hF
    obtain ⟨e_a5, t_a5⟩ := xgo_sp e_a5
    refine gf_X11_62 C0 hR t_v0 e_a5 dX11_back_13 ?_
    refine lv_aload_n hx hb dX11_back_16 rfl (lv_at hl 0 rfl) ?_
    obtain ⟨a6, e_a6, hF⟩ := xbd hF
    obtain ⟨e_a6, t_a6⟩ := xgo_sp e_a6
    refine gf_X11_20 C0 hR t_v0 e_a6 dX11_back_17 ?_
    refine lv_aload_n hx hb dX11_back_20 rfl (lv_at hl 0 rfl) ?_
    obtain ⟨a7, e_a7, hF⟩ := xbd hF
    obtain ⟨e_a7, t_a7⟩ := xgo_sp e_a7
    refine gf_X11_55 C0 hR t_v0 e_a7 dX11_back_21 ?_
    obtain ⟨h8, e_h8, hF⟩ := xbd hF
    refine cl_X11_117 C0 hR hS e_h8 t_a5 t_a6 t_a7 ⟨(Nat.le_of_ble_eq_true rfl), (Nat.le_of_ble_eq_true rfl)⟩ hl.1 (Nat.le_of_ble_eq_true rfl) ⟨(Nat.le_of_ble_eq_true rfl), (Nat.le_of_ble_eq_true rfl)⟩ dX11_back_24 (fun H locs hR hS => ?_)
    refine lv_aload_n hx hb dX11_back_27 rfl (lv_at hl 0 rfl) ?_
    obtain ⟨a9, e_a9, hF⟩ := xbd hF
    obtain ⟨e_a9, t_a9⟩ := xgo_sp e_a9
    refine gf_X11_55 C0 hR t_v0 e_a9 dX11_back_28 ?_
    refine gf_X11_198 C0 hR t_a9 dX11_back_31 ?_
    obtain ⟨a10, e_a10, hF⟩ := xbd hF
    refine cl_X11_205 C0 hR hS e_a10  ⟨(Nat.le_of_ble_eq_true rfl), (Nat.le_of_ble_eq_true rfl)⟩ hl.1 (Nat.le_of_ble_eq_true rfl) ⟨(Nat.le_of_ble_eq_true rfl), (Nat.le_of_ble_eq_true rfl)⟩ dX11_back_34 (fun H locs hR hS => ?_)
    cases hF
    exact x_iret C0 hR hS dX11_back_37
  · have hF := xif hF c4
    refine lv_iconst (v := (-1)) hx hb dX11_back_10 (by decide) ?_
    cases hF
    exact x_iret C0 hR hS dX11_back_11
theorem xm_X11_back : xMw yX11_back cX11_back 1 (some .int) 0 := ⟨xin 1167 (by decide +kernel) rfl, xin 114 (by decide +kernel) rfl, by decide +kernel⟩
theorem xi_X11_back : Cond.instanceMethod yX11_back ∈ xT := xin 1165 (by decide +kernel) rfl
theorem xe_X11_back : Cond.selects yX11_back.cls yX11_back yX11_back ∈ xT := xin 1166 (by decide +kernel) rfl
theorem dX11_count_0 : decode cX11_count 0 = .ok (.iload_n 1, 1) := by decide +kernel
theorem dX11_count_1 : decode cX11_count 1 = .ok (.tableswitch 150 0 10 #[59, 67, 75, 83, 94, 102, 110, 118, 126, 134, 142], 59) := by decide +kernel
theorem dX11_count_60 : decode cX11_count 60 = .ok (.aload_n 0, 1) := by decide +kernel
theorem dX11_count_61 : decode cX11_count 61 = .ok (.getfield 20, 3) := by decide +kernel
theorem dX11_count_64 : decode cX11_count 64 = .ok (.getfield 326, 3) := by decide +kernel
theorem dX11_count_67 : decode cX11_count 67 = .ok (.ireturn, 1) := by decide +kernel
theorem dX11_count_68 : decode cX11_count 68 = .ok (.aload_n 0, 1) := by decide +kernel
theorem dX11_count_69 : decode cX11_count 69 = .ok (.getfield 20, 3) := by decide +kernel
theorem dX11_count_72 : decode cX11_count 72 = .ok (.getfield 329, 3) := by decide +kernel
theorem dX11_count_75 : decode cX11_count 75 = .ok (.ireturn, 1) := by decide +kernel
theorem dX11_count_76 : decode cX11_count 76 = .ok (.aload_n 0, 1) := by decide +kernel
theorem dX11_count_77 : decode cX11_count 77 = .ok (.getfield 20, 3) := by decide +kernel
theorem dX11_count_80 : decode cX11_count 80 = .ok (.getfield 111, 3) := by decide +kernel
theorem dX11_count_83 : decode cX11_count 83 = .ok (.ireturn, 1) := by decide +kernel
theorem dX11_count_84 : decode cX11_count 84 = .ok (.aload_n 0, 1) := by decide +kernel
theorem dX11_count_85 : decode cX11_count 85 = .ok (.getfield 55, 3) := by decide +kernel
theorem dX11_count_88 : decode cX11_count 88 = .ok (.getfield 198, 3) := by decide +kernel
theorem dX11_count_91 : decode cX11_count 91 = .ok (.invokestatic 205, 3) := by decide +kernel
theorem dX11_count_94 : decode cX11_count 94 = .ok (.ireturn, 1) := by decide +kernel
theorem dX11_count_95 : decode cX11_count 95 = .ok (.aload_n 0, 1) := by decide +kernel
theorem dX11_count_96 : decode cX11_count 96 = .ok (.getfield 62, 3) := by decide +kernel
theorem dX11_count_99 : decode cX11_count 99 = .ok (.invokevirtual 332, 3) := by decide +kernel
theorem dX11_count_102 : decode cX11_count 102 = .ok (.ireturn, 1) := by decide +kernel
theorem dX11_count_103 : decode cX11_count 103 = .ok (.aload_n 0, 1) := by decide +kernel
theorem dX11_count_104 : decode cX11_count 104 = .ok (.getfield 62, 3) := by decide +kernel
theorem dX11_count_107 : decode cX11_count 107 = .ok (.invokevirtual 335, 3) := by decide +kernel
theorem dX11_count_110 : decode cX11_count 110 = .ok (.ireturn, 1) := by decide +kernel
theorem dX11_count_111 : decode cX11_count 111 = .ok (.aload_n 0, 1) := by decide +kernel
theorem dX11_count_112 : decode cX11_count 112 = .ok (.getfield 20, 3) := by decide +kernel
theorem dX11_count_115 : decode cX11_count 115 = .ok (.invokevirtual 338, 3) := by decide +kernel
theorem dX11_count_118 : decode cX11_count 118 = .ok (.ireturn, 1) := by decide +kernel
theorem dX11_count_119 : decode cX11_count 119 = .ok (.aload_n 0, 1) := by decide +kernel
theorem dX11_count_120 : decode cX11_count 120 = .ok (.getfield 32, 3) := by decide +kernel
theorem dX11_count_123 : decode cX11_count 123 = .ok (.getfield 128, 3) := by decide +kernel
theorem dX11_count_126 : decode cX11_count 126 = .ok (.ireturn, 1) := by decide +kernel
theorem dX11_count_127 : decode cX11_count 127 = .ok (.aload_n 0, 1) := by decide +kernel
theorem dX11_count_128 : decode cX11_count 128 = .ok (.getfield 62, 3) := by decide +kernel
theorem dX11_count_131 : decode cX11_count 131 = .ok (.invokevirtual 341, 3) := by decide +kernel
theorem dX11_count_134 : decode cX11_count 134 = .ok (.ireturn, 1) := by decide +kernel
theorem dX11_count_135 : decode cX11_count 135 = .ok (.aload_n 0, 1) := by decide +kernel
theorem dX11_count_136 : decode cX11_count 136 = .ok (.getfield 62, 3) := by decide +kernel
theorem dX11_count_139 : decode cX11_count 139 = .ok (.invokevirtual 344, 3) := by decide +kernel
theorem dX11_count_142 : decode cX11_count 142 = .ok (.ireturn, 1) := by decide +kernel
theorem dX11_count_143 : decode cX11_count 143 = .ok (.aload_n 0, 1) := by decide +kernel
theorem dX11_count_144 : decode cX11_count 144 = .ok (.getfield 55, 3) := by decide +kernel
theorem dX11_count_147 : decode cX11_count 147 = .ok (.getfield 317, 3) := by decide +kernel
theorem dX11_count_150 : decode cX11_count 150 = .ok (.ireturn, 1) := by decide +kernel
theorem dX11_count_151 : decode cX11_count 151 = .ok (.iconst (-1), 1) := by decide +kernel
theorem dX11_count_152 : decode cX11_count 152 = .ok (.ireturn, 1) := by decide +kernel
theorem wl_X11_335 : Cond.methodLink RX11 335 yX9_leaves ∈ xT := xin 1176 (by decide +kernel) rfl
theorem wl_X11_338 : Cond.methodLink RX11 338 yX0_places ∈ xT := xin 1180 (by decide +kernel) rfl
theorem wl_X11_341 : Cond.methodLink RX11 341 yX9_longestPath ∈ xT := xin 1185 (by decide +kernel) rfl
theorem wl_X11_344 : Cond.methodLink RX11 344 yX9_repeatingRules ∈ xT := xin 1189 (by decide +kernel) rfl
theorem wf_X11_326 : Cond.fieldLink RX11 326 "TermShelf$Book" "signCount" "I" ∈ xT := xin 185 (by decide +kernel) rfl
theorem wf_X11_329 : Cond.fieldLink RX11 329 "TermShelf$Book" "variableCount" "I" ∈ xT := xin 189 (by decide +kernel) rfl
section XN_X11_count
variable {p : Program} {l : Launch} {e : Env} {R : Room} {s : State} {m : MethodId} {args : Array Value} {below : List Frame} {meth : Method} {c : Code} {H H0 : Heap} {locs : List Loc} {cells slots : Nat} {Q : State → Prop} {cc : ByteArray} {nL pc : Nat} {rt : Option FieldType} {ls : Array Slot} {rest : List Value} {D : xD} {ty : xTy} {h : xH}
theorem cl_X11_335 {v0 : Nat} {r : Int32} (C0 : xC D RX11 cc nL rt p s m args meth c) (hR : xRep D ty h H) (hS : xS ty H0 H locs) (hF : jf_X9_leaves ty h v0 = some r) (t_v0 : ty v0 = some (0, 9)) (hrm : jr_X9_leaves.frames + 1 ≤ R.frames ∧ 8 + (3 + 11) + jr_X9_leaves.locals ≤ R.locals) (hsz : ls.size = nL) (hW : (rest.map fun v => v.category).sum ≤ 8) (hf : cells ≤ R.cells ∧ slots ≤ R.slots) (hdg : decode cc pc = .ok (.invokevirtual 335, 3)) (kk : ∀ (H1 : Heap) (locs1 : List Loc), xRep D ty h H1 → xS ty H0 H1 locs1 → W p l e R s m args below meth c H1 locs1 cells slots Q (F0 m (pc + 3) ls (.int r :: rest))) : W p l e R s m args below meth c H locs cells slots Q (F0 m pc ls (.ref v0 :: rest)) := x_callV C0 (jc_X9_leaves t_v0 hF) xm_X9_leaves xi_X9_leaves xe_X9_leaves wl_X11_335 ⟨rfl, rfl, hrm⟩ (ci := 9) rfl t_v0 hR hS (As := []) rfl hsz rfl hW hdg hf kk
theorem cl_X11_338 {v0 : Nat} {r : Int32} (C0 : xC D RX11 cc nL rt p s m args meth c) (hR : xRep D ty h H) (hS : xS ty H0 H locs) (hF : jf_X0_places ty h v0 = some r) (t_v0 : ty v0 = some (0, 0)) (hrm : jr_X0_places.frames + 1 ≤ R.frames ∧ 8 + (3 + 11) + jr_X0_places.locals ≤ R.locals) (hsz : ls.size = nL) (hW : (rest.map fun v => v.category).sum ≤ 8) (hf : cells ≤ R.cells ∧ slots ≤ R.slots) (hdg : decode cc pc = .ok (.invokevirtual 338, 3)) (kk : ∀ (H1 : Heap) (locs1 : List Loc), xRep D ty h H1 → xS ty H0 H1 locs1 → W p l e R s m args below meth c H1 locs1 cells slots Q (F0 m (pc + 3) ls (.int r :: rest))) : W p l e R s m args below meth c H locs cells slots Q (F0 m pc ls (.ref v0 :: rest)) := x_callV C0 (jc_X0_places t_v0 hF) xm_X0_places xi_X0_places xe_X0_places wl_X11_338 ⟨rfl, rfl, hrm⟩ (ci := 0) rfl t_v0 hR hS (As := []) rfl hsz rfl hW hdg hf kk
theorem cl_X11_341 {v0 : Nat} {r : Int32} (C0 : xC D RX11 cc nL rt p s m args meth c) (hR : xRep D ty h H) (hS : xS ty H0 H locs) (hF : jf_X9_longestPath ty h v0 = some r) (t_v0 : ty v0 = some (0, 9)) (hrm : jr_X9_longestPath.frames + 1 ≤ R.frames ∧ 8 + (3 + 11) + jr_X9_longestPath.locals ≤ R.locals) (hsz : ls.size = nL) (hW : (rest.map fun v => v.category).sum ≤ 8) (hf : cells ≤ R.cells ∧ slots ≤ R.slots) (hdg : decode cc pc = .ok (.invokevirtual 341, 3)) (kk : ∀ (H1 : Heap) (locs1 : List Loc), xRep D ty h H1 → xS ty H0 H1 locs1 → W p l e R s m args below meth c H1 locs1 cells slots Q (F0 m (pc + 3) ls (.int r :: rest))) : W p l e R s m args below meth c H locs cells slots Q (F0 m pc ls (.ref v0 :: rest)) := x_callV C0 (jc_X9_longestPath t_v0 hF) xm_X9_longestPath xi_X9_longestPath xe_X9_longestPath wl_X11_341 ⟨rfl, rfl, hrm⟩ (ci := 9) rfl t_v0 hR hS (As := []) rfl hsz rfl hW hdg hf kk
theorem cl_X11_344 {v0 : Nat} {r : Int32} (C0 : xC D RX11 cc nL rt p s m args meth c) (hR : xRep D ty h H) (hS : xS ty H0 H locs) (hF : jf_X9_repeatingRules ty h v0 = some r) (t_v0 : ty v0 = some (0, 9)) (hrm : jr_X9_repeatingRules.frames + 1 ≤ R.frames ∧ 8 + (3 + 11) + jr_X9_repeatingRules.locals ≤ R.locals) (hsz : ls.size = nL) (hW : (rest.map fun v => v.category).sum ≤ 8) (hf : cells ≤ R.cells ∧ slots ≤ R.slots) (hdg : decode cc pc = .ok (.invokevirtual 344, 3)) (kk : ∀ (H1 : Heap) (locs1 : List Loc), xRep D ty h H1 → xS ty H0 H1 locs1 → W p l e R s m args below meth c H1 locs1 cells slots Q (F0 m (pc + 3) ls (.int r :: rest))) : W p l e R s m args below meth c H locs cells slots Q (F0 m pc ls (.ref v0 :: rest)) := x_callV C0 (jc_X9_repeatingRules t_v0 hF) xm_X9_repeatingRules xi_X9_repeatingRules xe_X9_repeatingRules wl_X11_344 ⟨rfl, rfl, hrm⟩ (ci := 9) rfl t_v0 hR hS (As := []) rfl hsz rfl hW hdg hf kk
theorem gf_X11_326 {a : Nat} (C0 : xC D RX11 cc nL rt p s m args meth c) (hR : xRep D ty h H) (ht : ty a = some (0, 0)) (hdg : decode cc pc = .ok (.getfield 326, 3)) (kk : W p l e R s m args below meth c H locs cells slots Q (F0 m (pc + 3) ls (.int (xI h a 7) :: rest))) : W p l e R s m args below meth c H locs cells slots Q (F0 m pc ls (.ref a :: rest)) := x_get C0 hR (ci := 0) (k := 7) (N := 10) (T := TX0) rfl iX0 (by decide) rfl wf_X11_326 rfl ht hdg kk
theorem gf_X11_329 {a : Nat} (C0 : xC D RX11 cc nL rt p s m args meth c) (hR : xRep D ty h H) (ht : ty a = some (0, 0)) (hdg : decode cc pc = .ok (.getfield 329, 3)) (kk : W p l e R s m args below meth c H locs cells slots Q (F0 m (pc + 3) ls (.int (xI h a 8) :: rest))) : W p l e R s m args below meth c H locs cells slots Q (F0 m pc ls (.ref a :: rest)) := x_get C0 hR (ci := 0) (k := 8) (N := 10) (T := TX0) rfl iX0 (by decide) rfl wf_X11_329 rfl ht hdg kk
end XN_X11_count
set_option maxHeartbeats 4000000 in
set_option maxRecDepth 100000 in
theorem jc_X11_count {l : Launch} {D : xD} {ty : xTy} {h : xH} {v0 : Nat} {v1 : Int32} {r : Int32} (t_v0 : ty v0 = some (0, 11)) (hF : jf_X11_count ty h v0 v1 = some r) : Met l yX11_count (xws yX11_count cX11_count 2 (some .int)) jr_X11_count (xPc D ty h [.ref v0, .int v1]) (xQ D ty (some (.int r)) h) 0 0 (xdom ty) := by
  refine x_met (by decide) ?_
  intro p e s m below meth c C0 hR
  generalize hargs : ([.ref v0, .int v1] : List Value).toArray = args at C0 ⊢
  have hx := C0.1
  have hb := C0.2.1
  have hown := C0.2.2.2.2.2.1
  have hts := C0.2.2.2.2.2.2.1
  have hS : xS ty s.heap s.heap [] := xS.rf
  have hl := lv_entry ([.ref v0, .int v1]) (n := 2) (Nat.le_of_ble_eq_true rfl)
  rw [← hargs, lg_entry_eq]
  rw [hargs]
  generalize (lg_sl ([.ref v0, .int v1]) ++ List.replicate (2 - (lg_sl ([.ref v0, .int v1])).length) Slot.unset).toArray = ls at hl ⊢
  have hl : lv_has ls 2 [(0, .ref v0), (1, .int v1)] := hl
  unfold jf_X11_count at hF
  refine lv_iload_n hx hb dX11_count_0 rfl (lv_at hl 1 rfl) ?_
  by_cases c1 : v1 = 0
  · have hF := xif hF c1
    refine lv_tableIn (tgt := 60) (off := 59) hx hb dX11_count_1 (by rw [c1]; decide) (by rw [c1]; decide) (by rw [c1]; rfl) (by decide) ?_
    refine lv_aload_n hx hb dX11_count_60 rfl (lv_at hl 0 rfl) ?_
    obtain ⟨a2, e_a2, hF⟩ := xbd hF
    obtain ⟨e_a2, t_a2⟩ := xgo_sp e_a2
    refine gf_X11_20 C0 hR t_v0 e_a2 dX11_count_61 ?_
    refine gf_X11_326 C0 hR t_a2 dX11_count_64 ?_
    cases hF
    exact x_iret C0 hR hS dX11_count_67
  · have hF := xel hF c1
    by_cases c3 : v1 = 1
    · have hF := xif hF c3
      refine lv_tableIn (tgt := 68) (off := 67) hx hb dX11_count_1 (by rw [c3]; decide) (by rw [c3]; decide) (by rw [c3]; rfl) (by decide) ?_
      refine lv_aload_n hx hb dX11_count_68 rfl (lv_at hl 0 rfl) ?_
      obtain ⟨a4, e_a4, hF⟩ := xbd hF
      obtain ⟨e_a4, t_a4⟩ := xgo_sp e_a4
      refine gf_X11_20 C0 hR t_v0 e_a4 dX11_count_69 ?_
      refine gf_X11_329 C0 hR t_a4 dX11_count_72 ?_
      cases hF
      exact x_iret C0 hR hS dX11_count_75
    · have hF := xel hF c3
      by_cases c5 : v1 = 2
      · have hF := xif hF c5
        refine lv_tableIn (tgt := 76) (off := 75) hx hb dX11_count_1 (by rw [c5]; decide) (by rw [c5]; decide) (by rw [c5]; rfl) (by decide) ?_
        refine lv_aload_n hx hb dX11_count_76 rfl (lv_at hl 0 rfl) ?_
        obtain ⟨a6, e_a6, hF⟩ := xbd hF
        obtain ⟨e_a6, t_a6⟩ := xgo_sp e_a6
        refine gf_X11_20 C0 hR t_v0 e_a6 dX11_count_77 ?_
        refine gf_X11_111 C0 hR t_a6 dX11_count_80 ?_
        cases hF
        exact x_iret C0 hR hS dX11_count_83
      · have hF := xel hF c5
        by_cases c7 : v1 = 3
        · have hF := xif hF c7
          refine lv_tableIn (tgt := 84) (off := 83) hx hb dX11_count_1 (by rw [c7]; decide) (by rw [c7]; decide) (by rw [c7]; rfl) (by decide) ?_
          refine lv_aload_n hx hb dX11_count_84 rfl (lv_at hl 0 rfl) ?_
          obtain ⟨a8, e_a8, hF⟩ := xbd hF
          obtain ⟨e_a8, t_a8⟩ := xgo_sp e_a8
          refine gf_X11_55 C0 hR t_v0 e_a8 dX11_count_85 ?_
          refine gf_X11_198 C0 hR t_a8 dX11_count_88 ?_
          obtain ⟨a9, e_a9, hF⟩ := xbd hF
          refine cl_X11_205 C0 hR hS e_a9  ⟨(Nat.le_of_ble_eq_true rfl), (Nat.le_of_ble_eq_true rfl)⟩ hl.1 (Nat.le_of_ble_eq_true rfl) ⟨(Nat.le_of_ble_eq_true rfl), (Nat.le_of_ble_eq_true rfl)⟩ dX11_count_91 (fun H locs hR hS => ?_)
          cases hF
          exact x_iret C0 hR hS dX11_count_94
        · have hF := xel hF c7
          by_cases c10 : v1 = 4
          · have hF := xif hF c10
            refine lv_tableIn (tgt := 95) (off := 94) hx hb dX11_count_1 (by rw [c10]; decide) (by rw [c10]; decide) (by rw [c10]; rfl) (by decide) ?_
            refine lv_aload_n hx hb dX11_count_95 rfl (lv_at hl 0 rfl) ?_
            obtain ⟨a11, e_a11, hF⟩ := xbd hF
            obtain ⟨e_a11, t_a11⟩ := xgo_sp e_a11
            refine gf_X11_62 C0 hR t_v0 e_a11 dX11_count_96 ?_
            obtain ⟨a12, e_a12, hF⟩ := xbd hF
            refine cl_X11_332 C0 hR hS e_a12 t_a11 ⟨(Nat.le_of_ble_eq_true rfl), (Nat.le_of_ble_eq_true rfl)⟩ hl.1 (Nat.le_of_ble_eq_true rfl) ⟨(Nat.le_of_ble_eq_true rfl), (Nat.le_of_ble_eq_true rfl)⟩ dX11_count_99 (fun H locs hR hS => ?_)
            cases hF
            exact x_iret C0 hR hS dX11_count_102
          · have hF := xel hF c10
            by_cases c13 : v1 = 5
            · have hF := xif hF c13
              refine lv_tableIn (tgt := 103) (off := 102) hx hb dX11_count_1 (by rw [c13]; decide) (by rw [c13]; decide) (by rw [c13]; rfl) (by decide) ?_
              refine lv_aload_n hx hb dX11_count_103 rfl (lv_at hl 0 rfl) ?_
              obtain ⟨a14, e_a14, hF⟩ := xbd hF
              obtain ⟨e_a14, t_a14⟩ := xgo_sp e_a14
              refine gf_X11_62 C0 hR t_v0 e_a14 dX11_count_104 ?_
              obtain ⟨a15, e_a15, hF⟩ := xbd hF
              refine cl_X11_335 C0 hR hS e_a15 t_a14 ⟨(Nat.le_of_ble_eq_true rfl), (Nat.le_of_ble_eq_true rfl)⟩ hl.1 (Nat.le_of_ble_eq_true rfl) ⟨(Nat.le_of_ble_eq_true rfl), (Nat.le_of_ble_eq_true rfl)⟩ dX11_count_107 (fun H locs hR hS => ?_)
              cases hF
              exact x_iret C0 hR hS dX11_count_110
            · have hF := xel hF c13
              by_cases c16 : v1 = 6
              · have hF := xif hF c16
                refine lv_tableIn (tgt := 111) (off := 110) hx hb dX11_count_1 (by rw [c16]; decide) (by rw [c16]; decide) (by rw [c16]; rfl) (by decide) ?_
                refine lv_aload_n hx hb dX11_count_111 rfl (lv_at hl 0 rfl) ?_
                obtain ⟨a17, e_a17, hF⟩ := xbd hF
                obtain ⟨e_a17, t_a17⟩ := xgo_sp e_a17
                refine gf_X11_20 C0 hR t_v0 e_a17 dX11_count_112 ?_
                obtain ⟨a18, e_a18, hF⟩ := xbd hF
                refine cl_X11_338 C0 hR hS e_a18 t_a17 ⟨(Nat.le_of_ble_eq_true rfl), (Nat.le_of_ble_eq_true rfl)⟩ hl.1 (Nat.le_of_ble_eq_true rfl) ⟨(Nat.le_of_ble_eq_true rfl), (Nat.le_of_ble_eq_true rfl)⟩ dX11_count_115 (fun H locs hR hS => ?_)
                cases hF
                exact x_iret C0 hR hS dX11_count_118
              · have hF := xel hF c16
                by_cases c19 : v1 = 7
                · have hF := xif hF c19
                  refine lv_tableIn (tgt := 119) (off := 118) hx hb dX11_count_1 (by rw [c19]; decide) (by rw [c19]; decide) (by rw [c19]; rfl) (by decide) ?_
                  refine lv_aload_n hx hb dX11_count_119 rfl (lv_at hl 0 rfl) ?_
                  obtain ⟨a20, e_a20, hF⟩ := xbd hF
                  obtain ⟨e_a20, t_a20⟩ := xgo_sp e_a20
                  refine gf_X11_32 C0 hR t_v0 e_a20 dX11_count_120 ?_
                  refine gf_X11_128 C0 hR t_a20 dX11_count_123 ?_
                  cases hF
                  exact x_iret C0 hR hS dX11_count_126
                · have hF := xel hF c19
                  by_cases c21 : v1 = 8
                  · have hF := xif hF c21
                    refine lv_tableIn (tgt := 127) (off := 126) hx hb dX11_count_1 (by rw [c21]; decide) (by rw [c21]; decide) (by rw [c21]; rfl) (by decide) ?_
                    refine lv_aload_n hx hb dX11_count_127 rfl (lv_at hl 0 rfl) ?_
                    obtain ⟨a22, e_a22, hF⟩ := xbd hF
                    obtain ⟨e_a22, t_a22⟩ := xgo_sp e_a22
                    refine gf_X11_62 C0 hR t_v0 e_a22 dX11_count_128 ?_
                    obtain ⟨a23, e_a23, hF⟩ := xbd hF
                    refine cl_X11_341 C0 hR hS e_a23 t_a22 ⟨(Nat.le_of_ble_eq_true rfl), (Nat.le_of_ble_eq_true rfl)⟩ hl.1 (Nat.le_of_ble_eq_true rfl) ⟨(Nat.le_of_ble_eq_true rfl), (Nat.le_of_ble_eq_true rfl)⟩ dX11_count_131 (fun H locs hR hS => ?_)
                    cases hF
                    exact x_iret C0 hR hS dX11_count_134
                  · have hF := xel hF c21
                    by_cases c24 : v1 = 9
                    · have hF := xif hF c24
                      refine lv_tableIn (tgt := 135) (off := 134) hx hb dX11_count_1 (by rw [c24]; decide) (by rw [c24]; decide) (by rw [c24]; rfl) (by decide) ?_
                      refine lv_aload_n hx hb dX11_count_135 rfl (lv_at hl 0 rfl) ?_
                      obtain ⟨a25, e_a25, hF⟩ := xbd hF
                      obtain ⟨e_a25, t_a25⟩ := xgo_sp e_a25
                      refine gf_X11_62 C0 hR t_v0 e_a25 dX11_count_136 ?_
                      obtain ⟨a26, e_a26, hF⟩ := xbd hF
                      refine cl_X11_344 C0 hR hS e_a26 t_a25 ⟨(Nat.le_of_ble_eq_true rfl), (Nat.le_of_ble_eq_true rfl)⟩ hl.1 (Nat.le_of_ble_eq_true rfl) ⟨(Nat.le_of_ble_eq_true rfl), (Nat.le_of_ble_eq_true rfl)⟩ dX11_count_139 (fun H locs hR hS => ?_)
                      cases hF
                      exact x_iret C0 hR hS dX11_count_142
                    · have hF := xel hF c24
                      by_cases c27 : v1 = 10
                      · have hF := xif hF c27
                        refine lv_tableIn (tgt := 143) (off := 142) hx hb dX11_count_1 (by rw [c27]; decide) (by rw [c27]; decide) (by rw [c27]; rfl) (by decide) ?_
                        refine lv_aload_n hx hb dX11_count_143 rfl (lv_at hl 0 rfl) ?_
                        obtain ⟨a28, e_a28, hF⟩ := xbd hF
                        obtain ⟨e_a28, t_a28⟩ := xgo_sp e_a28
                        refine gf_X11_55 C0 hR t_v0 e_a28 dX11_count_144 ?_
                        refine gf_X11_317 C0 hR t_a28 dX11_count_147 ?_
                        cases hF
                        exact x_iret C0 hR hS dX11_count_150
                      · have hF := xel hF c27
                        have g_c1 : ¬ (v1).toInt = 0 := fun z => c1 (Int32.toInt_inj.mp (z.trans (by decide)))
                        have g_c3 : ¬ (v1).toInt = 1 := fun z => c3 (Int32.toInt_inj.mp (z.trans (by decide)))
                        have g_c5 : ¬ (v1).toInt = 2 := fun z => c5 (Int32.toInt_inj.mp (z.trans (by decide)))
                        have g_c7 : ¬ (v1).toInt = 3 := fun z => c7 (Int32.toInt_inj.mp (z.trans (by decide)))
                        have g_c10 : ¬ (v1).toInt = 4 := fun z => c10 (Int32.toInt_inj.mp (z.trans (by decide)))
                        have g_c13 : ¬ (v1).toInt = 5 := fun z => c13 (Int32.toInt_inj.mp (z.trans (by decide)))
                        have g_c16 : ¬ (v1).toInt = 6 := fun z => c16 (Int32.toInt_inj.mp (z.trans (by decide)))
                        have g_c19 : ¬ (v1).toInt = 7 := fun z => c19 (Int32.toInt_inj.mp (z.trans (by decide)))
                        have g_c21 : ¬ (v1).toInt = 8 := fun z => c21 (Int32.toInt_inj.mp (z.trans (by decide)))
                        have g_c24 : ¬ (v1).toInt = 9 := fun z => c24 (Int32.toInt_inj.mp (z.trans (by decide)))
                        have g_c27 : ¬ (v1).toInt = 10 := fun z => c27 (Int32.toInt_inj.mp (z.trans (by decide)))
                        refine lv_tableOut (tgt := 151) hx hb dX11_count_1 (by omega) (by decide) ?_
                        refine lv_iconst (v := (-1)) hx hb dX11_count_151 (by decide) ?_
                        cases hF
                        exact x_iret C0 hR hS dX11_count_152
theorem xm_X11_count : xMw yX11_count cX11_count 2 (some .int) 1 := ⟨xin 1175 (by decide +kernel) rfl, xin 114 (by decide +kernel) rfl, by decide +kernel⟩
theorem xi_X11_count : Cond.instanceMethod yX11_count ∈ xT := xin 1173 (by decide +kernel) rfl
theorem xe_X11_count : Cond.selects yX11_count.cls yX11_count yX11_count ∈ xT := xin 1174 (by decide +kernel) rfl
theorem dX12_thrown_0 : decode cX12_thrown 0 = .ok (.aload_n 0, 1) := by decide +kernel
theorem dX12_thrown_1 : decode cX12_thrown 1 = .ok (.getfield 101, 3) := by decide +kernel
theorem dX12_thrown_4 : decode cX12_thrown 4 = .ok (.ireturn, 1) := by decide +kernel
theorem wf_X12_101 : Cond.fieldLink RX12 101 "TermShelfModel" "thrown" "I" ∈ xT := xin 1314 (by decide +kernel) rfl
section XN_X12_thrown
variable {p : Program} {l : Launch} {e : Env} {R : Room} {s : State} {m : MethodId} {args : Array Value} {below : List Frame} {meth : Method} {c : Code} {H H0 : Heap} {locs : List Loc} {cells slots : Nat} {Q : State → Prop} {cc : ByteArray} {nL pc : Nat} {rt : Option FieldType} {ls : Array Slot} {rest : List Value} {D : xD} {ty : xTy} {h : xH}
theorem gf_X12_101 {a : Nat} (C0 : xC D RX12 cc nL rt p s m args meth c) (hR : xRep D ty h H) (ht : ty a = some (0, 12)) (hdg : decode cc pc = .ok (.getfield 101, 3)) (kk : W p l e R s m args below meth c H locs cells slots Q (F0 m (pc + 3) ls (.int (xI h a 2) :: rest))) : W p l e R s m args below meth c H locs cells slots Q (F0 m pc ls (.ref a :: rest)) := x_get C0 hR (ci := 12) (k := 2) (N := 60) (T := TX12) rfl iX12 (by decide) rfl wf_X12_101 rfl ht hdg kk
end XN_X12_thrown
set_option maxHeartbeats 4000000 in
set_option maxRecDepth 100000 in
theorem jc_X12_thrown {l : Launch} {D : xD} {ty : xTy} {h : xH} {v0 : Nat} {r : Int32} (t_v0 : ty v0 = some (0, 12)) (hF : jf_X12_thrown ty h v0 = some r) : Met l yX12_thrown (xws yX12_thrown cX12_thrown 1 (some .int)) jr_X12_thrown (xPc D ty h [.ref v0]) (xQ D ty (some (.int r)) h) 0 0 (xdom ty) := by
  refine x_met (by decide) ?_
  intro p e s m below meth c C0 hR
  generalize hargs : ([.ref v0] : List Value).toArray = args at C0 ⊢
  have hx := C0.1
  have hb := C0.2.1
  have hown := C0.2.2.2.2.2.1
  have hts := C0.2.2.2.2.2.2.1
  have hS : xS ty s.heap s.heap [] := xS.rf
  have hl := lv_entry ([.ref v0]) (n := 1) (Nat.le_of_ble_eq_true rfl)
  rw [← hargs, lg_entry_eq]
  rw [hargs]
  generalize (lg_sl ([.ref v0]) ++ List.replicate (1 - (lg_sl ([.ref v0])).length) Slot.unset).toArray = ls at hl ⊢
  have hl : lv_has ls 1 [(0, .ref v0)] := hl
  unfold jf_X12_thrown at hF
  refine lv_aload_n hx hb dX12_thrown_0 rfl (lv_at hl 0 rfl) ?_
  refine gf_X12_101 C0 hR t_v0 dX12_thrown_1 ?_
  cases hF
  exact x_iret C0 hR hS dX12_thrown_4
theorem xm_X12_thrown : xMw yX12_thrown cX12_thrown 1 (some .int) 0 := ⟨xin 1496 (by decide +kernel) rfl, xin 126 (by decide +kernel) rfl, by decide +kernel⟩
theorem xi_X12_thrown : Cond.instanceMethod yX12_thrown ∈ xT := xin 1494 (by decide +kernel) rfl
theorem xe_X12_thrown : Cond.selects yX12_thrown.cls yX12_thrown yX12_thrown ∈ xT := xin 1495 (by decide +kernel) rfl
theorem dX12_feed_0 : decode cX12_feed 0 = .ok (.aload_n 0, 1) := by decide +kernel
theorem dX12_feed_1 : decode cX12_feed 1 = .ok (.iconst 0, 1) := by decide +kernel
theorem dX12_feed_2 : decode cX12_feed 2 = .ok (.putfield 101, 3) := by decide +kernel
theorem dX12_feed_5 : decode cX12_feed 5 = .ok (.aload_n 0, 1) := by decide +kernel
theorem dX12_feed_6 : decode cX12_feed 6 = .ok (.getfield 104, 3) := by decide +kernel
theorem dX12_feed_9 : decode cX12_feed 9 = .ok (.bipush 20, 2) := by decide +kernel
theorem dX12_feed_11 : decode cX12_feed 11 = .ok (.iadd, 1) := by decide +kernel
theorem dX12_feed_12 : decode cX12_feed 12 = .ok (.sipush 700, 3) := by decide +kernel
theorem dX12_feed_15 : decode cX12_feed 15 = .ok (.if_icmp .le 5, 3) := by decide +kernel
theorem dX12_feed_18 : decode cX12_feed 18 = .ok (.iconst (-1), 1) := by decide +kernel
theorem dX12_feed_19 : decode cX12_feed 19 = .ok (.ireturn, 1) := by decide +kernel
theorem dX12_feed_20 : decode cX12_feed 20 = .ok (.iconst 0, 1) := by decide +kernel
theorem dX12_feed_21 : decode cX12_feed 21 = .ok (.istore 6, 2) := by decide +kernel
theorem dX12_feed_23 : decode cX12_feed 23 = .ok (.iload 6, 2) := by decide +kernel
theorem dX12_feed_25 : decode cX12_feed 25 = .ok (.bipush 20, 2) := by decide +kernel
theorem dX12_feed_27 : decode cX12_feed 27 = .ok (.if_icmp .ge 86, 3) := by decide +kernel
theorem dX12_feed_30 : decode cX12_feed 30 = .ok (.iload 6, 2) := by decide +kernel
theorem dX12_feed_32 : decode cX12_feed 32 = .ok (.iconst 4, 1) := by decide +kernel
theorem dX12_feed_33 : decode cX12_feed 33 = .ok (.if_icmp .ge 7, 3) := by decide +kernel
theorem dX12_feed_36 : decode cX12_feed 36 = .ok (.iload_n 1, 1) := by decide +kernel
theorem dX12_feed_37 : decode cX12_feed 37 = .ok (.goto 39, 3) := by decide +kernel
theorem dX12_feed_40 : decode cX12_feed 40 = .ok (.iload 6, 2) := by decide +kernel
theorem dX12_feed_42 : decode cX12_feed 42 = .ok (.bipush 8, 2) := by decide +kernel
theorem dX12_feed_44 : decode cX12_feed 44 = .ok (.if_icmp .ge 7, 3) := by decide +kernel
theorem dX12_feed_47 : decode cX12_feed 47 = .ok (.iload_n 2, 1) := by decide +kernel
theorem dX12_feed_48 : decode cX12_feed 48 = .ok (.goto 28, 3) := by decide +kernel
theorem dX12_feed_51 : decode cX12_feed 51 = .ok (.iload 6, 2) := by decide +kernel
theorem dX12_feed_53 : decode cX12_feed 53 = .ok (.bipush 12, 2) := by decide +kernel
theorem dX12_feed_55 : decode cX12_feed 55 = .ok (.if_icmp .ge 7, 3) := by decide +kernel
theorem dX12_feed_58 : decode cX12_feed 58 = .ok (.iload_n 3, 1) := by decide +kernel
theorem dX12_feed_59 : decode cX12_feed 59 = .ok (.goto 17, 3) := by decide +kernel
theorem dX12_feed_62 : decode cX12_feed 62 = .ok (.iload 6, 2) := by decide +kernel
theorem dX12_feed_64 : decode cX12_feed 64 = .ok (.bipush 16, 2) := by decide +kernel
theorem dX12_feed_66 : decode cX12_feed 66 = .ok (.if_icmp .ge 8, 3) := by decide +kernel
theorem dX12_feed_69 : decode cX12_feed 69 = .ok (.iload 4, 2) := by decide +kernel
theorem dX12_feed_71 : decode cX12_feed 71 = .ok (.goto 5, 3) := by decide +kernel
theorem dX12_feed_74 : decode cX12_feed 74 = .ok (.iload 5, 2) := by decide +kernel
theorem dX12_feed_76 : decode cX12_feed 76 = .ok (.istore 7, 2) := by decide +kernel
theorem dX12_feed_78 : decode cX12_feed 78 = .ok (.aload_n 0, 1) := by decide +kernel
theorem dX12_feed_79 : decode cX12_feed 79 = .ok (.getfield 7, 3) := by decide +kernel
theorem dX12_feed_82 : decode cX12_feed 82 = .ok (.aload_n 0, 1) := by decide +kernel
theorem dX12_feed_83 : decode cX12_feed 83 = .ok (.getfield 104, 3) := by decide +kernel
theorem dX12_feed_86 : decode cX12_feed 86 = .ok (.iload 6, 2) := by decide +kernel
theorem dX12_feed_88 : decode cX12_feed 88 = .ok (.iadd, 1) := by decide +kernel
theorem dX12_feed_89 : decode cX12_feed 89 = .ok (.iload 7, 2) := by decide +kernel
theorem dX12_feed_91 : decode cX12_feed 91 = .ok (.bipush 24, 2) := by decide +kernel
theorem dX12_feed_93 : decode cX12_feed 93 = .ok (.bipush 8, 2) := by decide +kernel
theorem dX12_feed_95 : decode cX12_feed 95 = .ok (.iload 6, 2) := by decide +kernel
theorem dX12_feed_97 : decode cX12_feed 97 = .ok (.iconst 4, 1) := by decide +kernel
theorem dX12_feed_98 : decode cX12_feed 98 = .ok (.irem, 1) := by decide +kernel
theorem dX12_feed_99 : decode cX12_feed 99 = .ok (.imul, 1) := by decide +kernel
theorem dX12_feed_100 : decode cX12_feed 100 = .ok (.isub, 1) := by decide +kernel
theorem dX12_feed_101 : decode cX12_feed 101 = .ok (.ishr, 1) := by decide +kernel
theorem dX12_feed_102 : decode cX12_feed 102 = .ok (.sipush 255, 3) := by decide +kernel
theorem dX12_feed_105 : decode cX12_feed 105 = .ok (.iand, 1) := by decide +kernel
theorem dX12_feed_106 : decode cX12_feed 106 = .ok (.iastore, 1) := by decide +kernel
theorem dX12_feed_107 : decode cX12_feed 107 = .ok (.iinc 6 1, 3) := by decide +kernel
theorem dX12_feed_110 : decode cX12_feed 110 = .ok (.goto (-87), 3) := by decide +kernel
theorem dX12_feed_113 : decode cX12_feed 113 = .ok (.aload_n 0, 1) := by decide +kernel
theorem dX12_feed_114 : decode cX12_feed 114 = .ok (.dup, 1) := by decide +kernel
theorem dX12_feed_115 : decode cX12_feed 115 = .ok (.getfield 104, 3) := by decide +kernel
theorem dX12_feed_118 : decode cX12_feed 118 = .ok (.bipush 20, 2) := by decide +kernel
theorem dX12_feed_120 : decode cX12_feed 120 = .ok (.iadd, 1) := by decide +kernel
theorem dX12_feed_121 : decode cX12_feed 121 = .ok (.putfield 104, 3) := by decide +kernel
theorem dX12_feed_124 : decode cX12_feed 124 = .ok (.aload_n 0, 1) := by decide +kernel
theorem dX12_feed_125 : decode cX12_feed 125 = .ok (.getfield 104, 3) := by decide +kernel
theorem dX12_feed_128 : decode cX12_feed 128 = .ok (.ireturn, 1) := by decide +kernel
theorem wf_X12_104 : Cond.fieldLink RX12 104 "TermShelfModel" "tapeSize" "I" ∈ xT := xin 1313 (by decide +kernel) rfl
theorem wf_X12_7 : Cond.fieldLink RX12 7 "TermShelfModel" "tape" "[I" ∈ xT := xin 1312 (by decide +kernel) rfl
section XN_X12_feed
variable {p : Program} {l : Launch} {e : Env} {R : Room} {s : State} {m : MethodId} {args : Array Value} {below : List Frame} {meth : Method} {c : Code} {H H0 : Heap} {locs : List Loc} {cells slots : Nat} {Q : State → Prop} {cc : ByteArray} {nL pc : Nat} {rt : Option FieldType} {ls : Array Slot} {rest : List Value} {D : xD} {ty : xTy} {h : xH}
theorem gf_X12_104 {a : Nat} (C0 : xC D RX12 cc nL rt p s m args meth c) (hR : xRep D ty h H) (ht : ty a = some (0, 12)) (hdg : decode cc pc = .ok (.getfield 104, 3)) (kk : W p l e R s m args below meth c H locs cells slots Q (F0 m (pc + 3) ls (.int (xI h a 1) :: rest))) : W p l e R s m args below meth c H locs cells slots Q (F0 m pc ls (.ref a :: rest)) := x_get C0 hR (ci := 12) (k := 1) (N := 60) (T := TX12) rfl iX12 (by decide) rfl wf_X12_104 rfl ht hdg kk
theorem gf_X12_7 {a : Nat} (C0 : xC D RX12 cc nL rt p s m args meth c) (hR : xRep D ty h H) (ht : ty a = some (0, 12)) {v : Nat} (hv : xR h a 0 = some v) (hdg : decode cc pc = .ok (.getfield 7, 3)) (kk : W p l e R s m args below meth c H locs cells slots Q (F0 m (pc + 3) ls (.ref v :: rest))) : W p l e R s m args below meth c H locs cells slots Q (F0 m pc ls (.ref a :: rest)) := x_get C0 hR (ci := 12) (k := 0) (N := 60) (T := TX12) rfl iX12 (by decide) rfl wf_X12_7 (by show va_rf (xR h a 0) = _; rw [hv]; rfl) ht hdg kk
theorem pf_X12_101 {a : Nat} {v : Int32} (C0 : xC D RX12 cc nL rt p s m args meth c) (hR : xRep D ty h H) (hS : xS ty H0 H locs) (ht : ty a = some (0, 12)) (hdg : decode cc pc = .ok (.putfield 101, 3)) (kk : ∀ (H1 : Heap) (locs1 : List Loc), xRep D ty (xsI h a 2 v) H1 → xS ty H0 H1 locs1 → W p l e R s m args below meth c H1 locs1 cells slots Q (F0 m (pc + 3) ls rest)) : W p l e R s m args below meth c H locs cells slots Q (F0 m pc ls (.int v :: .ref a :: rest)) := x_puti C0 hR hS (ci := 12) (k := 2) (N := 60) (T := TX12) rfl iX12 tyX12_ok nmX12 (by decide) rfl rfl wf_X12_101 (Or.inl rfl) rfl rfl ht hdg kk
theorem pf_X12_104 {a : Nat} {v : Int32} (C0 : xC D RX12 cc nL rt p s m args meth c) (hR : xRep D ty h H) (hS : xS ty H0 H locs) (ht : ty a = some (0, 12)) (hdg : decode cc pc = .ok (.putfield 104, 3)) (kk : ∀ (H1 : Heap) (locs1 : List Loc), xRep D ty (xsI h a 1 v) H1 → xS ty H0 H1 locs1 → W p l e R s m args below meth c H1 locs1 cells slots Q (F0 m (pc + 3) ls rest)) : W p l e R s m args below meth c H locs cells slots Q (F0 m pc ls (.int v :: .ref a :: rest)) := x_puti C0 hR hS (ci := 12) (k := 1) (N := 60) (T := TX12) rfl iX12 tyX12_ok nmX12 (by decide) rfl rfl wf_X12_104 (Or.inl rfl) rfl rfl ht hdg kk
end XN_X12_feed
set_option maxHeartbeats 4000000 in
set_option maxRecDepth 100000 in
theorem jw_X12_feed_76 {p : Program} {l : Launch} {e : Env} {s : State} {m : MethodId} {args : Array Value} {below : List Frame} {meth : Method} {c : Code} {D : xD} {ty : xTy} {k23 : Nat → Int32 → Int32 → Int32 → Int32 → Int32 → Int32 → xH → Option (Int32 × xH)} (C0 : xC D RX12 cX12_feed 8 (some .int) p s m args meth c) {r : Int32} {h9 : xH} (hk23 : ∀ (v0 : Nat) (v1 : Int32) (v2 : Int32) (v3 : Int32) (v4 : Int32) (v5 : Int32) (v6 : Int32) (h : xH), ty v0 = some (0, 12) → k23 v0 v1 v2 v3 v4 v5 v6 h = some (r, h9) → ∀ (H : Heap) (locs : List Loc), xRep D ty h H → xS ty s.heap H locs → ∀ ls : Array Slot, lv_has ls 8 [(0, .ref v0), (1, .int v1), (2, .int v2), (3, .int v3), (4, .int v4), (5, .int v5), (6, .int v6)] → W p l e jr_X12_feed s m args below meth c H locs 0 0 (MQ below (xQ D ty (some (.int r)) h9) args s 0 0 (xdom ty)) (F0 m 23 ls [])) : ∀ (v0 : Nat) (v1 : Int32) (v2 : Int32) (v3 : Int32) (v4 : Int32) (v5 : Int32) (v6 : Int32) (s0 : Int32) (h : xH), ty v0 = some (0, 12) → jf_X12_feed_76 ty k23 v0 v1 v2 v3 v4 v5 v6 s0 h = some (r, h9) → ∀ (H : Heap) (locs : List Loc), xRep D ty h H → xS ty s.heap H locs → ∀ ls : Array Slot, lv_has ls 8 [(0, .ref v0), (1, .int v1), (2, .int v2), (3, .int v3), (4, .int v4), (5, .int v5), (6, .int v6)] → W p l e jr_X12_feed s m args below meth c H locs 0 0 (MQ below (xQ D ty (some (.int r)) h9) args s 0 0 (xdom ty)) (F0 m 76 ls [.int s0]) := by
  have hx := C0.1
  have hb := C0.2.1
  have hown := C0.2.2.2.2.2.1
  have hts := C0.2.2.2.2.2.2.1
  intro v0 v1 v2 v3 v4 v5 v6 s0 h t_v0 hF H locs hR hS ls hl
  unfold jf_X12_feed_76 at hF
  refine lv_istore (lv' := [(7, .int s0), (0, .ref v0), (1, .int v1), (2, .int v2), (3, .int v3), (4, .int v4), (5, .int v5), (6, .int v6)]) hx hb dX12_feed_76 hl (by decide) rfl (fun ls hl => ?_)
  refine lv_aload_n hx hb dX12_feed_78 rfl (lv_at hl 1 rfl) ?_
  obtain ⟨a1, e_a1, hF⟩ := xbd hF
  refine gf_X12_7 C0 hR t_v0 e_a1 dX12_feed_79 ?_
  refine lv_aload_n hx hb dX12_feed_82 rfl (lv_at hl 1 rfl) ?_
  refine gf_X12_104 C0 hR t_v0 dX12_feed_83 ?_
  refine lv_iload hx hb dX12_feed_86 (lv_at hl 7 rfl) ?_
  refine lv_iadd hx hb dX12_feed_88 ?_
  refine lv_iload hx hb dX12_feed_89 (lv_at hl 0 rfl) ?_
  refine lv_bipush (v := 24) hx hb dX12_feed_91 (by decide) ?_
  refine lv_bipush (v := 8) hx hb dX12_feed_93 (by decide) ?_
  refine lv_iload hx hb dX12_feed_95 (lv_at hl 7 rfl) ?_
  refine lv_iconst (v := 4) hx hb dX12_feed_97 (by decide) ?_
  obtain ⟨a2, e_a2, hF⟩ := xbd hF
  have n_a2 := (xrm_sp e_a2).1
  refine lv_irem hx hb dX12_feed_98 n_a2 ?_
  refine lv_imul hx hb dX12_feed_99 ?_
  refine lv_isub hx hb dX12_feed_100 ?_
  refine lv_ishr hx hb dX12_feed_101 ?_
  refine lv_sipush (v := 255) hx hb dX12_feed_102 (by decide) ?_
  refine lv_iand hx hb dX12_feed_105 ?_
  obtain ⟨h3, e_h3, hF⟩ := xbd hF
  refine x_iast C0 hR hS e_h3 dX12_feed_106 (fun H locs hR hS => ?_)
  refine lv_iinc (v := v6 + 1) (lv' := [(6, .int (v6 + 1)), (7, .int s0), (0, .ref v0), (1, .int v1), (2, .int v2), (3, .int v3), (4, .int v4), (5, .int v5)]) hx hb dX12_feed_107 hl (k := 7) rfl rfl (by decide) rfl (fun ls hl => ?_)
  refine lv_goto (tgt := 23) hx hb dX12_feed_110 (by decide) ?_
  exact hk23 _ _ _ _ _ _ _ _ t_v0 hF _ _ hR hS _ (lv_sub hl [2, 3, 4, 5, 6, 7, 0] rfl)
set_option maxHeartbeats 4000000 in
set_option maxRecDepth 100000 in
theorem jw_X12_feed_23 {p : Program} {l : Launch} {e : Env} {s : State} {m : MethodId} {args : Array Value} {below : List Frame} {meth : Method} {c : Code} {D : xD} {ty : xTy} (C0 : xC D RX12 cX12_feed 8 (some .int) p s m args meth c) {r : Int32} {h9 : xH} : ∀ n : Nat, ∀ (v0 : Nat) (v1 : Int32) (v2 : Int32) (v3 : Int32) (v4 : Int32) (v5 : Int32) (v6 : Int32) (h : xH), ty v0 = some (0, 12) → jf_X12_feed_23 ty n v0 v1 v2 v3 v4 v5 v6 h = some (r, h9) → ∀ (H : Heap) (locs : List Loc), xRep D ty h H → xS ty s.heap H locs → ∀ ls : Array Slot, lv_has ls 8 [(0, .ref v0), (1, .int v1), (2, .int v2), (3, .int v3), (4, .int v4), (5, .int v5), (6, .int v6)] → W p l e jr_X12_feed s m args below meth c H locs 0 0 (MQ below (xQ D ty (some (.int r)) h9) args s 0 0 (xdom ty)) (F0 m 23 ls []) := by
  have hx := C0.1
  have hb := C0.2.1
  have hown := C0.2.2.2.2.2.1
  have hts := C0.2.2.2.2.2.2.1
  intro n
  induction n with
  | zero =>
    intro v0 v1 v2 v3 v4 v5 v6 h t_v0 hF H locs hR hS ls hl
    cases hF
  | succ n ih =>
    intro v0 v1 v2 v3 v4 v5 v6 h t_v0 hF H locs hR hS ls hl
    rw [jf_X12_feed_23_s] at hF
    refine lv_iload hx hb dX12_feed_23 (lv_at hl 6 rfl) ?_
    refine lv_bipush (v := 20) hx hb dX12_feed_25 (by decide) ?_
    refine lv_icmp_ge (tgt := 113) hx hb dX12_feed_27 (by decide) (fun c4 => ?_) (fun c4 => ?_)
    · have hF := xif hF c4
      refine lv_aload_n hx hb dX12_feed_113 rfl (lv_at hl 0 rfl) ?_
      refine lv_dup hx hb dX12_feed_114 rfl ?_
      refine gf_X12_104 C0 hR t_v0 dX12_feed_115 ?_
      refine lv_bipush (v := 20) hx hb dX12_feed_118 (by decide) ?_
      refine lv_iadd hx hb dX12_feed_120 ?_
      obtain ⟨h5, e_h5, hF⟩ := xbd hF
      refine pf_X12_104 C0 hR hS t_v0 dX12_feed_121 (fun H locs hR hS => ?_)
      rw [Option.some.inj e_h5] at hR
      refine lv_aload_n hx hb dX12_feed_124 rfl (lv_at hl 0 rfl) ?_
      refine gf_X12_104 C0 hR t_v0 dX12_feed_125 ?_
      cases hF
      exact x_iret C0 hR hS dX12_feed_128
    · have hF := xel hF c4
      refine lv_iload hx hb dX12_feed_30 (lv_at hl 6 rfl) ?_
      refine lv_iconst (v := 4) hx hb dX12_feed_32 (by decide) ?_
      refine lv_icmp_ge (tgt := 40) hx hb dX12_feed_33 (by decide) (fun c6 => ?_) (fun c6 => ?_)
      · have hF := xif hF c6
        refine lv_iload hx hb dX12_feed_40 (lv_at hl 6 rfl) ?_
        refine lv_bipush (v := 8) hx hb dX12_feed_42 (by decide) ?_
        refine lv_icmp_ge (tgt := 51) hx hb dX12_feed_44 (by decide) (fun c7 => ?_) (fun c7 => ?_)
        · have hF := xif hF c7
          refine lv_iload hx hb dX12_feed_51 (lv_at hl 6 rfl) ?_
          refine lv_bipush (v := 12) hx hb dX12_feed_53 (by decide) ?_
          refine lv_icmp_ge (tgt := 62) hx hb dX12_feed_55 (by decide) (fun c8 => ?_) (fun c8 => ?_)
          · have hF := xif hF c8
            refine lv_iload hx hb dX12_feed_62 (lv_at hl 6 rfl) ?_
            refine lv_bipush (v := 16) hx hb dX12_feed_64 (by decide) ?_
            refine lv_icmp_ge (tgt := 74) hx hb dX12_feed_66 (by decide) (fun c9 => ?_) (fun c9 => ?_)
            · have hF := xif hF c9
              refine lv_iload hx hb dX12_feed_74 (lv_at hl 5 rfl) ?_
              exact jw_X12_feed_76 C0 ih _ _ _ _ _ _ _ _ _ t_v0 hF _ _ hR hS _ (lv_sub hl [0, 1, 2, 3, 4, 5, 6] rfl)
            · have hF := xel hF c9
              refine lv_iload hx hb dX12_feed_69 (lv_at hl 4 rfl) ?_
              refine lv_goto (tgt := 76) hx hb dX12_feed_71 (by decide) ?_
              exact jw_X12_feed_76 C0 ih _ _ _ _ _ _ _ _ _ t_v0 hF _ _ hR hS _ (lv_sub hl [0, 1, 2, 3, 4, 5, 6] rfl)
          · have hF := xel hF c8
            refine lv_iload_n hx hb dX12_feed_58 rfl (lv_at hl 3 rfl) ?_
            refine lv_goto (tgt := 76) hx hb dX12_feed_59 (by decide) ?_
            exact jw_X12_feed_76 C0 ih _ _ _ _ _ _ _ _ _ t_v0 hF _ _ hR hS _ (lv_sub hl [0, 1, 2, 3, 4, 5, 6] rfl)
        · have hF := xel hF c7
          refine lv_iload_n hx hb dX12_feed_47 rfl (lv_at hl 2 rfl) ?_
          refine lv_goto (tgt := 76) hx hb dX12_feed_48 (by decide) ?_
          exact jw_X12_feed_76 C0 ih _ _ _ _ _ _ _ _ _ t_v0 hF _ _ hR hS _ (lv_sub hl [0, 1, 2, 3, 4, 5, 6] rfl)
      · have hF := xel hF c6
        refine lv_iload_n hx hb dX12_feed_36 rfl (lv_at hl 1 rfl) ?_
        refine lv_goto (tgt := 76) hx hb dX12_feed_37 (by decide) ?_
        exact jw_X12_feed_76 C0 ih _ _ _ _ _ _ _ _ _ t_v0 hF _ _ hR hS _ (lv_sub hl [0, 1, 2, 3, 4, 5, 6] rfl)
set_option maxHeartbeats 4000000 in
set_option maxRecDepth 100000 in
theorem jc_X12_feed {l : Launch} {D : xD} {ty : xTy} {h : xH} {v0 : Nat} {v1 : Int32} {v2 : Int32} {v3 : Int32} {v4 : Int32} {v5 : Int32} {r : Int32} {h9 : xH} (t_v0 : ty v0 = some (0, 12)) (hF : jf_X12_feed ty h v0 v1 v2 v3 v4 v5 = some (r, h9)) : Met l yX12_feed (xws yX12_feed cX12_feed 8 (some .int)) jr_X12_feed (xPc D ty h [.ref v0, .int v1, .int v2, .int v3, .int v4, .int v5]) (xQ D ty (some (.int r)) h9) 0 0 (xdom ty) := by
  refine x_met (by decide) ?_
  intro p e s m below meth c C0 hR
  generalize hargs : ([.ref v0, .int v1, .int v2, .int v3, .int v4, .int v5] : List Value).toArray = args at C0 ⊢
  have hx := C0.1
  have hb := C0.2.1
  have hown := C0.2.2.2.2.2.1
  have hts := C0.2.2.2.2.2.2.1
  have hS : xS ty s.heap s.heap [] := xS.rf
  have hl := lv_entry ([.ref v0, .int v1, .int v2, .int v3, .int v4, .int v5]) (n := 8) (Nat.le_of_ble_eq_true rfl)
  rw [← hargs, lg_entry_eq]
  rw [hargs]
  generalize (lg_sl ([.ref v0, .int v1, .int v2, .int v3, .int v4, .int v5]) ++ List.replicate (8 - (lg_sl ([.ref v0, .int v1, .int v2, .int v3, .int v4, .int v5])).length) Slot.unset).toArray = ls at hl ⊢
  have hl : lv_has ls 8 [(0, .ref v0), (1, .int v1), (2, .int v2), (3, .int v3), (4, .int v4), (5, .int v5)] := hl
  unfold jf_X12_feed at hF
  refine lv_aload_n hx hb dX12_feed_0 rfl (lv_at hl 0 rfl) ?_
  refine lv_iconst (v := 0) hx hb dX12_feed_1 (by decide) ?_
  obtain ⟨h10, e_h10, hF⟩ := xbd hF
  refine pf_X12_101 C0 hR hS t_v0 dX12_feed_2 (fun H locs hR hS => ?_)
  rw [Option.some.inj e_h10] at hR
  refine lv_aload_n hx hb dX12_feed_5 rfl (lv_at hl 0 rfl) ?_
  refine gf_X12_104 C0 hR t_v0 dX12_feed_6 ?_
  refine lv_bipush (v := 20) hx hb dX12_feed_9 (by decide) ?_
  refine lv_iadd hx hb dX12_feed_11 ?_
  refine lv_sipush (v := 700) hx hb dX12_feed_12 (by decide) ?_
  refine lv_icmp_le (tgt := 20) hx hb dX12_feed_15 (by decide) (fun c11 => ?_) (fun c11 => ?_)
  · have hF := xif hF c11
    refine lv_iconst (v := 0) hx hb dX12_feed_20 (by decide) ?_
    refine lv_istore (lv' := [(6, .int 0), (0, .ref v0), (1, .int v1), (2, .int v2), (3, .int v3), (4, .int v4), (5, .int v5)]) hx hb dX12_feed_21 hl (by decide) rfl (fun ls hl => ?_)
    obtain ⟨_, hF⟩ := xlim_sp hF
    exact jw_X12_feed_23 C0 _ _ _ _ _ _ _ _ _ t_v0 hF _ _ hR hS _ (lv_sub hl [1, 2, 3, 4, 5, 6, 0] rfl)
  · have hF := xel hF c11
    refine lv_iconst (v := (-1)) hx hb dX12_feed_18 (by decide) ?_
    cases hF
    exact x_iret C0 hR hS dX12_feed_19
theorem xm_X12_feed : xMw yX12_feed cX12_feed 8 (some .int) 5 := ⟨xin 1500 (by decide +kernel) rfl, xin 126 (by decide +kernel) rfl, by decide +kernel⟩
theorem xi_X12_feed : Cond.instanceMethod yX12_feed ∈ xT := xin 1498 (by decide +kernel) rfl
theorem xe_X12_feed : Cond.selects yX12_feed.cls yX12_feed yX12_feed ∈ xT := xin 1499 (by decide +kernel) rfl
theorem dX12_isIn_0 : decode cX12_isIn 0 = .ok (.iload_n 0, 1) := by decide +kernel
theorem dX12_isIn_1 : decode cX12_isIn 1 = .ok (.iload_n 1, 1) := by decide +kernel
theorem dX12_isIn_2 : decode cX12_isIn 2 = .ok (.if_icmp .lt 12, 3) := by decide +kernel
theorem dX12_isIn_5 : decode cX12_isIn 5 = .ok (.iload_n 0, 1) := by decide +kernel
theorem dX12_isIn_6 : decode cX12_isIn 6 = .ok (.iload_n 2, 1) := by decide +kernel
theorem dX12_isIn_7 : decode cX12_isIn 7 = .ok (.if_icmp .gt 7, 3) := by decide +kernel
theorem dX12_isIn_10 : decode cX12_isIn 10 = .ok (.iconst 1, 1) := by decide +kernel
theorem dX12_isIn_11 : decode cX12_isIn 11 = .ok (.goto 4, 3) := by decide +kernel
theorem dX12_isIn_14 : decode cX12_isIn 14 = .ok (.iconst 0, 1) := by decide +kernel
theorem dX12_isIn_15 : decode cX12_isIn 15 = .ok (.ireturn, 1) := by decide +kernel
set_option maxHeartbeats 4000000 in
set_option maxRecDepth 100000 in
theorem jc_X12_isIn {l : Launch} {D : xD} {ty : xTy} {h : xH} {v0 : Int32} {v1 : Int32} {v2 : Int32} {r : Int32} (hF : jf_X12_isIn v0 v1 v2 = some r) : Met l yX12_isIn (xws yX12_isIn cX12_isIn 3 (some .boolean)) jr_X12_isIn (xPc D ty h [.int v0, .int v1, .int v2]) (xQ D ty (some (.int r)) h) 0 0 (xdom ty) := by
  refine x_met (by decide) ?_
  intro p e s m below meth c C0 hR
  generalize hargs : ([.int v0, .int v1, .int v2] : List Value).toArray = args at C0 ⊢
  have hx := C0.1
  have hb := C0.2.1
  have hown := C0.2.2.2.2.2.1
  have hts := C0.2.2.2.2.2.2.1
  have hS : xS ty s.heap s.heap [] := xS.rf
  have hl := lv_entry ([.int v0, .int v1, .int v2]) (n := 3) (Nat.le_of_ble_eq_true rfl)
  rw [← hargs, lg_entry_eq]
  rw [hargs]
  generalize (lg_sl ([.int v0, .int v1, .int v2]) ++ List.replicate (3 - (lg_sl ([.int v0, .int v1, .int v2])).length) Slot.unset).toArray = ls at hl ⊢
  have hl : lv_has ls 3 [(0, .int v0), (1, .int v1), (2, .int v2)] := hl
  unfold jf_X12_isIn at hF
  refine lv_iload_n hx hb dX12_isIn_0 rfl (lv_at hl 0 rfl) ?_
  refine lv_iload_n hx hb dX12_isIn_1 rfl (lv_at hl 1 rfl) ?_
  refine lv_icmp_lt (tgt := 14) hx hb dX12_isIn_2 (by decide) (fun c1 => ?_) (fun c1 => ?_)
  · have hF := xif hF c1
    refine lv_iconst (v := 0) hx hb dX12_isIn_14 (by decide) ?_
    cases hF
    exact x_zret (w := 0) C0 hR hS (by decide) dX12_isIn_15
  · have hF := xel hF c1
    refine lv_iload_n hx hb dX12_isIn_5 rfl (lv_at hl 0 rfl) ?_
    refine lv_iload_n hx hb dX12_isIn_6 rfl (lv_at hl 2 rfl) ?_
    refine lv_icmp_gt (tgt := 14) hx hb dX12_isIn_7 (by decide) (fun c2 => ?_) (fun c2 => ?_)
    · have hF := xif hF c2
      refine lv_iconst (v := 0) hx hb dX12_isIn_14 (by decide) ?_
      cases hF
      exact x_zret (w := 0) C0 hR hS (by decide) dX12_isIn_15
    · have hF := xel hF c2
      refine lv_iconst (v := 1) hx hb dX12_isIn_10 (by decide) ?_
      refine lv_goto (tgt := 15) hx hb dX12_isIn_11 (by decide) ?_
      cases hF
      exact x_zret (w := 1) C0 hR hS (by decide) dX12_isIn_15
theorem xm_X12_isIn : xMw yX12_isIn cX12_isIn 3 (some .boolean) 3 := ⟨xin 1559 (by decide +kernel) rfl, xin 126 (by decide +kernel) rfl, by decide +kernel⟩
theorem xs_X12_isIn : Cond.static yX12_isIn ∈ xT := xin 1558 (by decide +kernel) rfl
theorem dX12_isOf_0 : decode cX12_isOf 0 = .ok (.iload_n 0, 1) := by decide +kernel
theorem dX12_isOf_1 : decode cX12_isOf 1 = .ok (.iload_n 1, 1) := by decide +kernel
theorem dX12_isOf_2 : decode cX12_isOf 2 = .ok (.ishr, 1) := by decide +kernel
theorem dX12_isOf_3 : decode cX12_isOf 3 = .ok (.iconst 1, 1) := by decide +kernel
theorem dX12_isOf_4 : decode cX12_isOf 4 = .ok (.iand, 1) := by decide +kernel
theorem dX12_isOf_5 : decode cX12_isOf 5 = .ok (.iconst 1, 1) := by decide +kernel
theorem dX12_isOf_6 : decode cX12_isOf 6 = .ok (.if_icmp .ne 7, 3) := by decide +kernel
theorem dX12_isOf_9 : decode cX12_isOf 9 = .ok (.iconst 1, 1) := by decide +kernel
theorem dX12_isOf_10 : decode cX12_isOf 10 = .ok (.goto 4, 3) := by decide +kernel
theorem dX12_isOf_13 : decode cX12_isOf 13 = .ok (.iconst 0, 1) := by decide +kernel
theorem dX12_isOf_14 : decode cX12_isOf 14 = .ok (.ireturn, 1) := by decide +kernel
set_option maxHeartbeats 4000000 in
set_option maxRecDepth 100000 in
theorem jc_X12_isOf {l : Launch} {D : xD} {ty : xTy} {h : xH} {v0 : Int32} {v1 : Int32} {r : Int32} (hF : jf_X12_isOf v0 v1 = some r) : Met l yX12_isOf (xws yX12_isOf cX12_isOf 2 (some .boolean)) jr_X12_isOf (xPc D ty h [.int v0, .int v1]) (xQ D ty (some (.int r)) h) 0 0 (xdom ty) := by
  refine x_met (by decide) ?_
  intro p e s m below meth c C0 hR
  generalize hargs : ([.int v0, .int v1] : List Value).toArray = args at C0 ⊢
  have hx := C0.1
  have hb := C0.2.1
  have hown := C0.2.2.2.2.2.1
  have hts := C0.2.2.2.2.2.2.1
  have hS : xS ty s.heap s.heap [] := xS.rf
  have hl := lv_entry ([.int v0, .int v1]) (n := 2) (Nat.le_of_ble_eq_true rfl)
  rw [← hargs, lg_entry_eq]
  rw [hargs]
  generalize (lg_sl ([.int v0, .int v1]) ++ List.replicate (2 - (lg_sl ([.int v0, .int v1])).length) Slot.unset).toArray = ls at hl ⊢
  have hl : lv_has ls 2 [(0, .int v0), (1, .int v1)] := hl
  unfold jf_X12_isOf at hF
  refine lv_iload_n hx hb dX12_isOf_0 rfl (lv_at hl 0 rfl) ?_
  refine lv_iload_n hx hb dX12_isOf_1 rfl (lv_at hl 1 rfl) ?_
  refine lv_ishr hx hb dX12_isOf_2 ?_
  refine lv_iconst (v := 1) hx hb dX12_isOf_3 (by decide) ?_
  refine lv_iand hx hb dX12_isOf_4 ?_
  refine lv_iconst (v := 1) hx hb dX12_isOf_5 (by decide) ?_
  refine lv_icmp_ne (tgt := 13) hx hb dX12_isOf_6 (by decide) (fun c1 => ?_) (fun c1 => ?_)
  · have hF := xel hF c1
    refine lv_iconst (v := 0) hx hb dX12_isOf_13 (by decide) ?_
    cases hF
    exact x_zret (w := 0) C0 hR hS (by decide) dX12_isOf_14
  · have hF := xif hF c1
    refine lv_iconst (v := 1) hx hb dX12_isOf_9 (by decide) ?_
    refine lv_goto (tgt := 14) hx hb dX12_isOf_10 (by decide) ?_
    cases hF
    exact x_zret (w := 1) C0 hR hS (by decide) dX12_isOf_14
theorem xm_X12_isOf : xMw yX12_isOf cX12_isOf 2 (some .boolean) 2 := ⟨xin 1606 (by decide +kernel) rfl, xin 126 (by decide +kernel) rfl, by decide +kernel⟩
theorem xs_X12_isOf : Cond.static yX12_isOf ∈ xT := xin 1605 (by decide +kernel) rfl
theorem dX12_wrong_0 : decode cX12_wrong 0 = .ok (.aload_n 0, 1) := by decide +kernel
theorem dX12_wrong_1 : decode cX12_wrong 1 = .ok (.iload_n 1, 1) := by decide +kernel
theorem dX12_wrong_2 : decode cX12_wrong 2 = .ok (.putfield 107, 3) := by decide +kernel
theorem dX12_wrong_5 : decode cX12_wrong 5 = .ok (.aload_n 0, 1) := by decide +kernel
theorem dX12_wrong_6 : decode cX12_wrong 6 = .ok (.aload_n 0, 1) := by decide +kernel
theorem dX12_wrong_7 : decode cX12_wrong 7 = .ok (.getfield 110, 3) := by decide +kernel
theorem dX12_wrong_10 : decode cX12_wrong 10 = .ok (.putfield 16, 3) := by decide +kernel
theorem dX12_wrong_13 : decode cX12_wrong 13 = .ok (.iconst 0, 1) := by decide +kernel
theorem dX12_wrong_14 : decode cX12_wrong 14 = .ok (.ireturn, 1) := by decide +kernel
theorem wf_X12_110 : Cond.fieldLink RX12 110 "TermShelfModel" "at" "I" ∈ xT := xin 1322 (by decide +kernel) rfl
theorem wf_X12_107 : Cond.fieldLink RX12 107 "TermShelfModel" "fault" "I" ∈ xT := xin 1316 (by decide +kernel) rfl
theorem wf_X12_16 : Cond.fieldLink RX12 16 "TermShelfModel" "faultPlace" "I" ∈ xT := xin 1317 (by decide +kernel) rfl
section XN_X12_wrong
variable {p : Program} {l : Launch} {e : Env} {R : Room} {s : State} {m : MethodId} {args : Array Value} {below : List Frame} {meth : Method} {c : Code} {H H0 : Heap} {locs : List Loc} {cells slots : Nat} {Q : State → Prop} {cc : ByteArray} {nL pc : Nat} {rt : Option FieldType} {ls : Array Slot} {rest : List Value} {D : xD} {ty : xTy} {h : xH}
theorem gf_X12_110 {a : Nat} (C0 : xC D RX12 cc nL rt p s m args meth c) (hR : xRep D ty h H) (ht : ty a = some (0, 12)) (hdg : decode cc pc = .ok (.getfield 110, 3)) (kk : W p l e R s m args below meth c H locs cells slots Q (F0 m (pc + 3) ls (.int (xI h a 10) :: rest))) : W p l e R s m args below meth c H locs cells slots Q (F0 m pc ls (.ref a :: rest)) := x_get C0 hR (ci := 12) (k := 10) (N := 60) (T := TX12) rfl iX12 (by decide) rfl wf_X12_110 rfl ht hdg kk
theorem pf_X12_107 {a : Nat} {v : Int32} (C0 : xC D RX12 cc nL rt p s m args meth c) (hR : xRep D ty h H) (hS : xS ty H0 H locs) (ht : ty a = some (0, 12)) (hdg : decode cc pc = .ok (.putfield 107, 3)) (kk : ∀ (H1 : Heap) (locs1 : List Loc), xRep D ty (xsI h a 4 v) H1 → xS ty H0 H1 locs1 → W p l e R s m args below meth c H1 locs1 cells slots Q (F0 m (pc + 3) ls rest)) : W p l e R s m args below meth c H locs cells slots Q (F0 m pc ls (.int v :: .ref a :: rest)) := x_puti C0 hR hS (ci := 12) (k := 4) (N := 60) (T := TX12) rfl iX12 tyX12_ok nmX12 (by decide) rfl rfl wf_X12_107 (Or.inl rfl) rfl rfl ht hdg kk
theorem pf_X12_16 {a : Nat} {v : Int32} (C0 : xC D RX12 cc nL rt p s m args meth c) (hR : xRep D ty h H) (hS : xS ty H0 H locs) (ht : ty a = some (0, 12)) (hdg : decode cc pc = .ok (.putfield 16, 3)) (kk : ∀ (H1 : Heap) (locs1 : List Loc), xRep D ty (xsI h a 5 v) H1 → xS ty H0 H1 locs1 → W p l e R s m args below meth c H1 locs1 cells slots Q (F0 m (pc + 3) ls rest)) : W p l e R s m args below meth c H locs cells slots Q (F0 m pc ls (.int v :: .ref a :: rest)) := x_puti C0 hR hS (ci := 12) (k := 5) (N := 60) (T := TX12) rfl iX12 tyX12_ok nmX12 (by decide) rfl rfl wf_X12_16 (Or.inl rfl) rfl rfl ht hdg kk
end XN_X12_wrong
set_option maxHeartbeats 4000000 in
set_option maxRecDepth 100000 in
theorem jc_X12_wrong {l : Launch} {D : xD} {ty : xTy} {h : xH} {v0 : Nat} {v1 : Int32} {r : Int32} {h9 : xH} (t_v0 : ty v0 = some (0, 12)) (hF : jf_X12_wrong ty h v0 v1 = some (r, h9)) : Met l yX12_wrong (xws yX12_wrong cX12_wrong 2 (some .boolean)) jr_X12_wrong (xPc D ty h [.ref v0, .int v1]) (xQ D ty (some (.int r)) h9) 0 0 (xdom ty) := by
  refine x_met (by decide) ?_
  intro p e s m below meth c C0 hR
  generalize hargs : ([.ref v0, .int v1] : List Value).toArray = args at C0 ⊢
  have hx := C0.1
  have hb := C0.2.1
  have hown := C0.2.2.2.2.2.1
  have hts := C0.2.2.2.2.2.2.1
  have hS : xS ty s.heap s.heap [] := xS.rf
  have hl := lv_entry ([.ref v0, .int v1]) (n := 2) (Nat.le_of_ble_eq_true rfl)
  rw [← hargs, lg_entry_eq]
  rw [hargs]
  generalize (lg_sl ([.ref v0, .int v1]) ++ List.replicate (2 - (lg_sl ([.ref v0, .int v1])).length) Slot.unset).toArray = ls at hl ⊢
  have hl : lv_has ls 2 [(0, .ref v0), (1, .int v1)] := hl
  unfold jf_X12_wrong at hF
  refine lv_aload_n hx hb dX12_wrong_0 rfl (lv_at hl 0 rfl) ?_
  refine lv_iload_n hx hb dX12_wrong_1 rfl (lv_at hl 1 rfl) ?_
  obtain ⟨h1, e_h1, hF⟩ := xbd hF
  refine pf_X12_107 C0 hR hS t_v0 dX12_wrong_2 (fun H locs hR hS => ?_)
  rw [Option.some.inj e_h1] at hR
  refine lv_aload_n hx hb dX12_wrong_5 rfl (lv_at hl 0 rfl) ?_
  refine lv_aload_n hx hb dX12_wrong_6 rfl (lv_at hl 0 rfl) ?_
  refine gf_X12_110 C0 hR t_v0 dX12_wrong_7 ?_
  obtain ⟨h2, e_h2, hF⟩ := xbd hF
  refine pf_X12_16 C0 hR hS t_v0 dX12_wrong_10 (fun H locs hR hS => ?_)
  rw [Option.some.inj e_h2] at hR
  refine lv_iconst (v := 0) hx hb dX12_wrong_13 (by decide) ?_
  cases hF
  exact x_zret (w := 0) C0 hR hS (by decide) dX12_wrong_14
theorem xm_X12_wrong : xMw yX12_wrong cX12_wrong 2 (some .boolean) 1 := ⟨xin 1541 (by decide +kernel) rfl, xin 126 (by decide +kernel) rfl, by decide +kernel⟩
theorem xi_X12_wrong : Cond.instanceMethod yX12_wrong ∈ xT := xin 1540 (by decide +kernel) rfl
theorem xe_X12_wrong : Cond.selects yX12_wrong.cls yX12_wrong yX12_wrong ∈ xT := xin 62 (by decide +kernel) rfl
theorem dX12_wordAt_0 : decode cX12_wordAt 0 = .ok (.iconst 0, 1) := by decide +kernel
theorem dX12_wordAt_1 : decode cX12_wordAt 1 = .ok (.istore_n 3, 1) := by decide +kernel
theorem dX12_wordAt_2 : decode cX12_wordAt 2 = .ok (.iconst 0, 1) := by decide +kernel
theorem dX12_wordAt_3 : decode cX12_wordAt 3 = .ok (.istore 4, 2) := by decide +kernel
theorem dX12_wordAt_5 : decode cX12_wordAt 5 = .ok (.iload 4, 2) := by decide +kernel
theorem dX12_wordAt_7 : decode cX12_wordAt 7 = .ok (.aload_n 0, 1) := by decide +kernel
theorem dX12_wordAt_8 : decode cX12_wordAt 8 = .ok (.getfield 13, 3) := by decide +kernel
theorem dX12_wordAt_11 : decode cX12_wordAt 11 = .ok (.arraylength, 1) := by decide +kernel
theorem dX12_wordAt_12 : decode cX12_wordAt 12 = .ok (.if_icmp .ge 114, 3) := by decide +kernel
theorem dX12_wordAt_15 : decode cX12_wordAt 15 = .ok (.iconst 0, 1) := by decide +kernel
theorem dX12_wordAt_16 : decode cX12_wordAt 16 = .ok (.istore 5, 2) := by decide +kernel
theorem dX12_wordAt_18 : decode cX12_wordAt 18 = .ok (.aload_n 0, 1) := by decide +kernel
theorem dX12_wordAt_19 : decode cX12_wordAt 19 = .ok (.getfield 13, 3) := by decide +kernel
theorem dX12_wordAt_22 : decode cX12_wordAt 22 = .ok (.iload 4, 2) := by decide +kernel
theorem dX12_wordAt_24 : decode cX12_wordAt 24 = .ok (.iload 5, 2) := by decide +kernel
theorem dX12_wordAt_26 : decode cX12_wordAt 26 = .ok (.iadd, 1) := by decide +kernel
theorem dX12_wordAt_27 : decode cX12_wordAt 27 = .ok (.iaload, 1) := by decide +kernel
theorem dX12_wordAt_28 : decode cX12_wordAt 28 = .ok (.bipush 32, 2) := by decide +kernel
theorem dX12_wordAt_30 : decode cX12_wordAt 30 = .ok (.if_icmp .eq 9, 3) := by decide +kernel
theorem dX12_wordAt_33 : decode cX12_wordAt 33 = .ok (.iinc 5 1, 3) := by decide +kernel
theorem dX12_wordAt_36 : decode cX12_wordAt 36 = .ok (.goto (-18), 3) := by decide +kernel
theorem dX12_wordAt_39 : decode cX12_wordAt 39 = .ok (.iload 5, 2) := by decide +kernel
theorem dX12_wordAt_41 : decode cX12_wordAt 41 = .ok (.iload_n 2, 1) := by decide +kernel
theorem dX12_wordAt_42 : decode cX12_wordAt 42 = .ok (.iload_n 1, 1) := by decide +kernel
theorem dX12_wordAt_43 : decode cX12_wordAt 43 = .ok (.isub, 1) := by decide +kernel
theorem dX12_wordAt_44 : decode cX12_wordAt 44 = .ok (.if_icmp .ne 7, 3) := by decide +kernel
theorem dX12_wordAt_47 : decode cX12_wordAt 47 = .ok (.iconst 1, 1) := by decide +kernel
theorem dX12_wordAt_48 : decode cX12_wordAt 48 = .ok (.goto 4, 3) := by decide +kernel
theorem dX12_wordAt_51 : decode cX12_wordAt 51 = .ok (.iconst 0, 1) := by decide +kernel
theorem dX12_wordAt_52 : decode cX12_wordAt 52 = .ok (.istore 6, 2) := by decide +kernel
theorem dX12_wordAt_54 : decode cX12_wordAt 54 = .ok (.iconst 0, 1) := by decide +kernel
theorem dX12_wordAt_55 : decode cX12_wordAt 55 = .ok (.istore 7, 2) := by decide +kernel
theorem dX12_wordAt_57 : decode cX12_wordAt 57 = .ok (.iload 7, 2) := by decide +kernel
theorem dX12_wordAt_59 : decode cX12_wordAt 59 = .ok (.iload 5, 2) := by decide +kernel
theorem dX12_wordAt_61 : decode cX12_wordAt 61 = .ok (.if_icmp .ge 43, 3) := by decide +kernel
theorem dX12_wordAt_64 : decode cX12_wordAt 64 = .ok (.iload 6, 2) := by decide +kernel
theorem dX12_wordAt_66 : decode cX12_wordAt 66 = .ok (.ifCond .eq 38, 3) := by decide +kernel
theorem dX12_wordAt_69 : decode cX12_wordAt 69 = .ok (.aload_n 0, 1) := by decide +kernel
theorem dX12_wordAt_70 : decode cX12_wordAt 70 = .ok (.getfield 13, 3) := by decide +kernel
theorem dX12_wordAt_73 : decode cX12_wordAt 73 = .ok (.iload 4, 2) := by decide +kernel
theorem dX12_wordAt_75 : decode cX12_wordAt 75 = .ok (.iload 7, 2) := by decide +kernel
theorem dX12_wordAt_77 : decode cX12_wordAt 77 = .ok (.iadd, 1) := by decide +kernel
theorem dX12_wordAt_78 : decode cX12_wordAt 78 = .ok (.iaload, 1) := by decide +kernel
theorem dX12_wordAt_79 : decode cX12_wordAt 79 = .ok (.aload_n 0, 1) := by decide +kernel
theorem dX12_wordAt_80 : decode cX12_wordAt 80 = .ok (.getfield 7, 3) := by decide +kernel
theorem dX12_wordAt_83 : decode cX12_wordAt 83 = .ok (.iload_n 1, 1) := by decide +kernel
theorem dX12_wordAt_84 : decode cX12_wordAt 84 = .ok (.iload 7, 2) := by decide +kernel
theorem dX12_wordAt_86 : decode cX12_wordAt 86 = .ok (.iadd, 1) := by decide +kernel
theorem dX12_wordAt_87 : decode cX12_wordAt 87 = .ok (.iaload, 1) := by decide +kernel
theorem dX12_wordAt_88 : decode cX12_wordAt 88 = .ok (.if_icmp .ne 7, 3) := by decide +kernel
theorem dX12_wordAt_91 : decode cX12_wordAt 91 = .ok (.iconst 1, 1) := by decide +kernel
theorem dX12_wordAt_92 : decode cX12_wordAt 92 = .ok (.goto 4, 3) := by decide +kernel
theorem dX12_wordAt_95 : decode cX12_wordAt 95 = .ok (.iconst 0, 1) := by decide +kernel
theorem dX12_wordAt_96 : decode cX12_wordAt 96 = .ok (.istore 6, 2) := by decide +kernel
theorem dX12_wordAt_98 : decode cX12_wordAt 98 = .ok (.iinc 7 1, 3) := by decide +kernel
theorem dX12_wordAt_101 : decode cX12_wordAt 101 = .ok (.goto (-44), 3) := by decide +kernel
theorem dX12_wordAt_104 : decode cX12_wordAt 104 = .ok (.iload 6, 2) := by decide +kernel
theorem dX12_wordAt_106 : decode cX12_wordAt 106 = .ok (.ifCond .eq 5, 3) := by decide +kernel
theorem dX12_wordAt_109 : decode cX12_wordAt 109 = .ok (.iload_n 3, 1) := by decide +kernel
theorem dX12_wordAt_110 : decode cX12_wordAt 110 = .ok (.ireturn, 1) := by decide +kernel
theorem dX12_wordAt_111 : decode cX12_wordAt 111 = .ok (.iload 4, 2) := by decide +kernel
theorem dX12_wordAt_113 : decode cX12_wordAt 113 = .ok (.iload 5, 2) := by decide +kernel
theorem dX12_wordAt_115 : decode cX12_wordAt 115 = .ok (.iconst 1, 1) := by decide +kernel
theorem dX12_wordAt_116 : decode cX12_wordAt 116 = .ok (.iadd, 1) := by decide +kernel
theorem dX12_wordAt_117 : decode cX12_wordAt 117 = .ok (.iadd, 1) := by decide +kernel
theorem dX12_wordAt_118 : decode cX12_wordAt 118 = .ok (.istore 4, 2) := by decide +kernel
theorem dX12_wordAt_120 : decode cX12_wordAt 120 = .ok (.iinc 3 1, 3) := by decide +kernel
theorem dX12_wordAt_123 : decode cX12_wordAt 123 = .ok (.goto (-118), 3) := by decide +kernel
theorem dX12_wordAt_126 : decode cX12_wordAt 126 = .ok (.iconst (-1), 1) := by decide +kernel
theorem dX12_wordAt_127 : decode cX12_wordAt 127 = .ok (.ireturn, 1) := by decide +kernel
theorem wf_X12_13 : Cond.fieldLink RX12 13 "TermShelfModel" "words" "[I" ∈ xT := xin 1315 (by decide +kernel) rfl
section XN_X12_wordAt
variable {p : Program} {l : Launch} {e : Env} {R : Room} {s : State} {m : MethodId} {args : Array Value} {below : List Frame} {meth : Method} {c : Code} {H H0 : Heap} {locs : List Loc} {cells slots : Nat} {Q : State → Prop} {cc : ByteArray} {nL pc : Nat} {rt : Option FieldType} {ls : Array Slot} {rest : List Value} {D : xD} {ty : xTy} {h : xH}
theorem gf_X12_13 {a : Nat} (C0 : xC D RX12 cc nL rt p s m args meth c) (hR : xRep D ty h H) (ht : ty a = some (0, 12)) {v : Nat} (hv : xR h a 3 = some v) (hdg : decode cc pc = .ok (.getfield 13, 3)) (kk : W p l e R s m args below meth c H locs cells slots Q (F0 m (pc + 3) ls (.ref v :: rest))) : W p l e R s m args below meth c H locs cells slots Q (F0 m pc ls (.ref a :: rest)) := x_get C0 hR (ci := 12) (k := 3) (N := 60) (T := TX12) rfl iX12 (by decide) rfl wf_X12_13 (by show va_rf (xR h a 3) = _; rw [hv]; rfl) ht hdg kk
end XN_X12_wordAt
set_option maxHeartbeats 4000000 in
set_option maxRecDepth 100000 in
theorem jw_X12_wordAt_57 {p : Program} {l : Launch} {e : Env} {s : State} {m : MethodId} {args : Array Value} {below : List Frame} {meth : Method} {c : Code} {D : xD} {ty : xTy} {h : xH} {k5 : Nat → Int32 → Int32 → Int32 → Int32 → Option (Int32)} (C0 : xC D RX12 cX12_wordAt 8 (some .int) p s m args meth c) {r : Int32} (hk5 : ∀ (v0 : Nat) (v1 : Int32) (v2 : Int32) (v3 : Int32) (v4 : Int32), ty v0 = some (0, 12) → k5 v0 v1 v2 v3 v4 = some r → ∀ (H : Heap) (locs : List Loc), xRep D ty h H → xS ty s.heap H locs → ∀ ls : Array Slot, lv_has ls 8 [(0, .ref v0), (1, .int v1), (2, .int v2), (3, .int v3), (4, .int v4)] → W p l e jr_X12_wordAt s m args below meth c H locs 0 0 (MQ below (xQ D ty (some (.int r)) h) args s 0 0 (xdom ty)) (F0 m 5 ls [])) : ∀ n : Nat, ∀ (v0 : Nat) (v1 : Int32) (v2 : Int32) (v3 : Int32) (v4 : Int32) (v5 : Int32) (v6 : Int32) (v7 : Int32), ty v0 = some (0, 12) → jf_X12_wordAt_57 ty h k5 n v0 v1 v2 v3 v4 v5 v6 v7 = some r → ∀ (H : Heap) (locs : List Loc), xRep D ty h H → xS ty s.heap H locs → ∀ ls : Array Slot, lv_has ls 8 [(0, .ref v0), (1, .int v1), (2, .int v2), (3, .int v3), (4, .int v4), (5, .int v5), (6, .int v6), (7, .int v7)] → W p l e jr_X12_wordAt s m args below meth c H locs 0 0 (MQ below (xQ D ty (some (.int r)) h) args s 0 0 (xdom ty)) (F0 m 57 ls []) := by
  have hx := C0.1
  have hb := C0.2.1
  have hown := C0.2.2.2.2.2.1
  have hts := C0.2.2.2.2.2.2.1
  intro n
  induction n with
  | zero =>
    intro v0 v1 v2 v3 v4 v5 v6 v7 t_v0 hF H locs hR hS ls hl
    cases hF
  | succ n ih =>
    intro v0 v1 v2 v3 v4 v5 v6 v7 t_v0 hF H locs hR hS ls hl
    rw [jf_X12_wordAt_57_s] at hF
    refine lv_iload hx hb dX12_wordAt_57 (lv_at hl 7 rfl) ?_
    refine lv_iload hx hb dX12_wordAt_59 (lv_at hl 5 rfl) ?_
    refine lv_icmp_ge (tgt := 104) hx hb dX12_wordAt_61 (by decide) (fun c1 => ?_) (fun c1 => ?_)
    · have hF := xif hF c1
      refine lv_iload hx hb dX12_wordAt_104 (lv_at hl 6 rfl) ?_
      refine lv_if_eq (tgt := 111) hx hb dX12_wordAt_106 (by decide) (fun c2 => ?_) (fun c2 => ?_)
      · have hF := xif hF c2
        refine lv_iload hx hb dX12_wordAt_111 (lv_at hl 4 rfl) ?_
        refine lv_iload hx hb dX12_wordAt_113 (lv_at hl 5 rfl) ?_
        refine lv_iconst (v := 1) hx hb dX12_wordAt_115 (by decide) ?_
        refine lv_iadd hx hb dX12_wordAt_116 ?_
        refine lv_iadd hx hb dX12_wordAt_117 ?_
        refine lv_istore (lv' := [(4, .int (v4 + (v5 + 1))), (0, .ref v0), (1, .int v1), (2, .int v2), (3, .int v3), (5, .int v5), (6, .int v6), (7, .int v7)]) hx hb dX12_wordAt_118 hl (by decide) rfl (fun ls hl => ?_)
        refine lv_iinc (v := v3 + 1) (lv' := [(3, .int (v3 + 1)), (4, .int (v4 + (v5 + 1))), (0, .ref v0), (1, .int v1), (2, .int v2), (5, .int v5), (6, .int v6), (7, .int v7)]) hx hb dX12_wordAt_120 hl (k := 4) rfl rfl (by decide) rfl (fun ls hl => ?_)
        refine lv_goto (tgt := 5) hx hb dX12_wordAt_123 (by decide) ?_
        exact hk5 _ _ _ _ _ t_v0 hF _ _ hR hS _ (lv_sub hl [2, 3, 4, 0, 1] rfl)
      · have hF := xel hF c2
        refine lv_iload_n hx hb dX12_wordAt_109 rfl (lv_at hl 3 rfl) ?_
        cases hF
        exact x_iret C0 hR hS dX12_wordAt_110
    · have hF := xel hF c1
      refine lv_iload hx hb dX12_wordAt_64 (lv_at hl 6 rfl) ?_
      refine lv_if_eq (tgt := 104) hx hb dX12_wordAt_66 (by decide) (fun c3 => ?_) (fun c3 => ?_)
      · have hF := xif hF c3
        refine lv_iload hx hb dX12_wordAt_104 (lv_at hl 6 rfl) ?_
        refine lv_if_eq (tgt := 111) hx hb dX12_wordAt_106 (by decide) (fun c4 => ?_) (fun c4 => ?_)
        · have hF := xif hF c4
          refine lv_iload hx hb dX12_wordAt_111 (lv_at hl 4 rfl) ?_
          refine lv_iload hx hb dX12_wordAt_113 (lv_at hl 5 rfl) ?_
          refine lv_iconst (v := 1) hx hb dX12_wordAt_115 (by decide) ?_
          refine lv_iadd hx hb dX12_wordAt_116 ?_
          refine lv_iadd hx hb dX12_wordAt_117 ?_
          refine lv_istore (lv' := [(4, .int (v4 + (v5 + 1))), (0, .ref v0), (1, .int v1), (2, .int v2), (3, .int v3), (5, .int v5), (6, .int v6), (7, .int v7)]) hx hb dX12_wordAt_118 hl (by decide) rfl (fun ls hl => ?_)
          refine lv_iinc (v := v3 + 1) (lv' := [(3, .int (v3 + 1)), (4, .int (v4 + (v5 + 1))), (0, .ref v0), (1, .int v1), (2, .int v2), (5, .int v5), (6, .int v6), (7, .int v7)]) hx hb dX12_wordAt_120 hl (k := 4) rfl rfl (by decide) rfl (fun ls hl => ?_)
          refine lv_goto (tgt := 5) hx hb dX12_wordAt_123 (by decide) ?_
          exact hk5 _ _ _ _ _ t_v0 hF _ _ hR hS _ (lv_sub hl [2, 3, 4, 0, 1] rfl)
        · have hF := xel hF c4
          refine lv_iload_n hx hb dX12_wordAt_109 rfl (lv_at hl 3 rfl) ?_
          cases hF
          exact x_iret C0 hR hS dX12_wordAt_110
      · have hF := xel hF c3
        refine lv_aload_n hx hb dX12_wordAt_69 rfl (lv_at hl 0 rfl) ?_
        obtain ⟨a5, e_a5, hF⟩ := xbd hF
        refine gf_X12_13 C0 hR t_v0 e_a5 dX12_wordAt_70 ?_
        refine lv_iload hx hb dX12_wordAt_73 (lv_at hl 4 rfl) ?_
        refine lv_iload hx hb dX12_wordAt_75 (lv_at hl 7 rfl) ?_
        refine lv_iadd hx hb dX12_wordAt_77 ?_
        obtain ⟨a6, e_a6, hF⟩ := xbd hF
        refine x_iald C0 hR e_a6 dX12_wordAt_78 ?_
        refine lv_aload_n hx hb dX12_wordAt_79 rfl (lv_at hl 0 rfl) ?_
        obtain ⟨a7, e_a7, hF⟩ := xbd hF
        refine gf_X12_7 C0 hR t_v0 e_a7 dX12_wordAt_80 ?_
        refine lv_iload_n hx hb dX12_wordAt_83 rfl (lv_at hl 1 rfl) ?_
        refine lv_iload hx hb dX12_wordAt_84 (lv_at hl 7 rfl) ?_
        refine lv_iadd hx hb dX12_wordAt_86 ?_
        obtain ⟨a8, e_a8, hF⟩ := xbd hF
        refine x_iald C0 hR e_a8 dX12_wordAt_87 ?_
        refine lv_icmp_ne (tgt := 95) hx hb dX12_wordAt_88 (by decide) (fun c9 => ?_) (fun c9 => ?_)
        · have hF := xel hF c9
          refine lv_iconst (v := 0) hx hb dX12_wordAt_95 (by decide) ?_
          refine lv_istore (lv' := [(6, .int 0), (0, .ref v0), (1, .int v1), (2, .int v2), (3, .int v3), (4, .int v4), (5, .int v5), (7, .int v7)]) hx hb dX12_wordAt_96 hl (by decide) rfl (fun ls hl => ?_)
          refine lv_iinc (v := v7 + 1) (lv' := [(7, .int (v7 + 1)), (6, .int 0), (0, .ref v0), (1, .int v1), (2, .int v2), (3, .int v3), (4, .int v4), (5, .int v5)]) hx hb dX12_wordAt_98 hl (k := 7) rfl rfl (by decide) rfl (fun ls hl => ?_)
          refine lv_goto (tgt := 57) hx hb dX12_wordAt_101 (by decide) ?_
          exact ih _ _ _ _ _ _ _ _ t_v0 hF _ _ hR hS _ (lv_sub hl [2, 3, 4, 5, 6, 7, 1, 0] rfl)
        · have hF := xif hF c9
          refine lv_iconst (v := 1) hx hb dX12_wordAt_91 (by decide) ?_
          refine lv_goto (tgt := 96) hx hb dX12_wordAt_92 (by decide) ?_
          refine lv_istore (lv' := [(6, .int 1), (0, .ref v0), (1, .int v1), (2, .int v2), (3, .int v3), (4, .int v4), (5, .int v5), (7, .int v7)]) hx hb dX12_wordAt_96 hl (by decide) rfl (fun ls hl => ?_)
          refine lv_iinc (v := v7 + 1) (lv' := [(7, .int (v7 + 1)), (6, .int 1), (0, .ref v0), (1, .int v1), (2, .int v2), (3, .int v3), (4, .int v4), (5, .int v5)]) hx hb dX12_wordAt_98 hl (k := 7) rfl rfl (by decide) rfl (fun ls hl => ?_)
          refine lv_goto (tgt := 57) hx hb dX12_wordAt_101 (by decide) ?_
          exact ih _ _ _ _ _ _ _ _ t_v0 hF _ _ hR hS _ (lv_sub hl [2, 3, 4, 5, 6, 7, 1, 0] rfl)
set_option maxHeartbeats 4000000 in
set_option maxRecDepth 100000 in
theorem jw_X12_wordAt_18 {p : Program} {l : Launch} {e : Env} {s : State} {m : MethodId} {args : Array Value} {below : List Frame} {meth : Method} {c : Code} {D : xD} {ty : xTy} {h : xH} {k5 : Nat → Int32 → Int32 → Int32 → Int32 → Option (Int32)} (C0 : xC D RX12 cX12_wordAt 8 (some .int) p s m args meth c) {r : Int32} (hk5 : ∀ (v0 : Nat) (v1 : Int32) (v2 : Int32) (v3 : Int32) (v4 : Int32), ty v0 = some (0, 12) → k5 v0 v1 v2 v3 v4 = some r → ∀ (H : Heap) (locs : List Loc), xRep D ty h H → xS ty s.heap H locs → ∀ ls : Array Slot, lv_has ls 8 [(0, .ref v0), (1, .int v1), (2, .int v2), (3, .int v3), (4, .int v4)] → W p l e jr_X12_wordAt s m args below meth c H locs 0 0 (MQ below (xQ D ty (some (.int r)) h) args s 0 0 (xdom ty)) (F0 m 5 ls [])) : ∀ n : Nat, ∀ (v0 : Nat) (v1 : Int32) (v2 : Int32) (v3 : Int32) (v4 : Int32) (v5 : Int32), ty v0 = some (0, 12) → jf_X12_wordAt_18 ty h k5 n v0 v1 v2 v3 v4 v5 = some r → ∀ (H : Heap) (locs : List Loc), xRep D ty h H → xS ty s.heap H locs → ∀ ls : Array Slot, lv_has ls 8 [(0, .ref v0), (1, .int v1), (2, .int v2), (3, .int v3), (4, .int v4), (5, .int v5)] → W p l e jr_X12_wordAt s m args below meth c H locs 0 0 (MQ below (xQ D ty (some (.int r)) h) args s 0 0 (xdom ty)) (F0 m 18 ls []) := by
  have hx := C0.1
  have hb := C0.2.1
  have hown := C0.2.2.2.2.2.1
  have hts := C0.2.2.2.2.2.2.1
  intro n
  induction n with
  | zero =>
    intro v0 v1 v2 v3 v4 v5 t_v0 hF H locs hR hS ls hl
    cases hF
  | succ n ih =>
    intro v0 v1 v2 v3 v4 v5 t_v0 hF H locs hR hS ls hl
    rw [jf_X12_wordAt_18_s] at hF
    refine lv_aload_n hx hb dX12_wordAt_18 rfl (lv_at hl 0 rfl) ?_
    obtain ⟨a10, e_a10, hF⟩ := xbd hF
    refine gf_X12_13 C0 hR t_v0 e_a10 dX12_wordAt_19 ?_
    refine lv_iload hx hb dX12_wordAt_22 (lv_at hl 4 rfl) ?_
    refine lv_iload hx hb dX12_wordAt_24 (lv_at hl 5 rfl) ?_
    refine lv_iadd hx hb dX12_wordAt_26 ?_
    obtain ⟨a11, e_a11, hF⟩ := xbd hF
    refine x_iald C0 hR e_a11 dX12_wordAt_27 ?_
    refine lv_bipush (v := 32) hx hb dX12_wordAt_28 (by decide) ?_
    refine lv_icmp_eq (tgt := 39) hx hb dX12_wordAt_30 (by decide) (fun c12 => ?_) (fun c12 => ?_)
    · have hF := xif hF c12
      refine lv_iload hx hb dX12_wordAt_39 (lv_at hl 5 rfl) ?_
      refine lv_iload_n hx hb dX12_wordAt_41 rfl (lv_at hl 2 rfl) ?_
      refine lv_iload_n hx hb dX12_wordAt_42 rfl (lv_at hl 1 rfl) ?_
      refine lv_isub hx hb dX12_wordAt_43 ?_
      refine lv_icmp_ne (tgt := 51) hx hb dX12_wordAt_44 (by decide) (fun c13 => ?_) (fun c13 => ?_)
      · have hF := xel hF c13
        refine lv_iconst (v := 0) hx hb dX12_wordAt_51 (by decide) ?_
        refine lv_istore (lv' := [(6, .int 0), (0, .ref v0), (1, .int v1), (2, .int v2), (3, .int v3), (4, .int v4), (5, .int v5)]) hx hb dX12_wordAt_52 hl (by decide) rfl (fun ls hl => ?_)
        refine lv_iconst (v := 0) hx hb dX12_wordAt_54 (by decide) ?_
        refine lv_istore (lv' := [(7, .int 0), (6, .int 0), (0, .ref v0), (1, .int v1), (2, .int v2), (3, .int v3), (4, .int v4), (5, .int v5)]) hx hb dX12_wordAt_55 hl (by decide) rfl (fun ls hl => ?_)
        obtain ⟨_, hF⟩ := xlim_sp hF
        exact jw_X12_wordAt_57 C0 hk5 _ _ _ _ _ _ _ _ _ t_v0 hF _ _ hR hS _ (lv_sub hl [2, 3, 4, 5, 6, 7, 1, 0] rfl)
      · have hF := xif hF c13
        refine lv_iconst (v := 1) hx hb dX12_wordAt_47 (by decide) ?_
        refine lv_goto (tgt := 52) hx hb dX12_wordAt_48 (by decide) ?_
        refine lv_istore (lv' := [(6, .int 1), (0, .ref v0), (1, .int v1), (2, .int v2), (3, .int v3), (4, .int v4), (5, .int v5)]) hx hb dX12_wordAt_52 hl (by decide) rfl (fun ls hl => ?_)
        refine lv_iconst (v := 0) hx hb dX12_wordAt_54 (by decide) ?_
        refine lv_istore (lv' := [(7, .int 0), (6, .int 1), (0, .ref v0), (1, .int v1), (2, .int v2), (3, .int v3), (4, .int v4), (5, .int v5)]) hx hb dX12_wordAt_55 hl (by decide) rfl (fun ls hl => ?_)
        obtain ⟨_, hF⟩ := xlim_sp hF
        exact jw_X12_wordAt_57 C0 hk5 _ _ _ _ _ _ _ _ _ t_v0 hF _ _ hR hS _ (lv_sub hl [2, 3, 4, 5, 6, 7, 1, 0] rfl)
    · have hF := xel hF c12
      refine lv_iinc (v := v5 + 1) (lv' := [(5, .int (v5 + 1)), (0, .ref v0), (1, .int v1), (2, .int v2), (3, .int v3), (4, .int v4)]) hx hb dX12_wordAt_33 hl (k := 5) rfl rfl (by decide) rfl (fun ls hl => ?_)
      refine lv_goto (tgt := 18) hx hb dX12_wordAt_36 (by decide) ?_
      exact ih _ _ _ _ _ _ t_v0 hF _ _ hR hS _ (lv_sub hl [1, 2, 3, 4, 5, 0] rfl)
set_option maxHeartbeats 4000000 in
set_option maxRecDepth 100000 in
theorem jw_X12_wordAt_5 {p : Program} {l : Launch} {e : Env} {s : State} {m : MethodId} {args : Array Value} {below : List Frame} {meth : Method} {c : Code} {D : xD} {ty : xTy} {h : xH} (C0 : xC D RX12 cX12_wordAt 8 (some .int) p s m args meth c) {r : Int32} : ∀ n : Nat, ∀ (v0 : Nat) (v1 : Int32) (v2 : Int32) (v3 : Int32) (v4 : Int32), ty v0 = some (0, 12) → jf_X12_wordAt_5 ty h n v0 v1 v2 v3 v4 = some r → ∀ (H : Heap) (locs : List Loc), xRep D ty h H → xS ty s.heap H locs → ∀ ls : Array Slot, lv_has ls 8 [(0, .ref v0), (1, .int v1), (2, .int v2), (3, .int v3), (4, .int v4)] → W p l e jr_X12_wordAt s m args below meth c H locs 0 0 (MQ below (xQ D ty (some (.int r)) h) args s 0 0 (xdom ty)) (F0 m 5 ls []) := by
  have hx := C0.1
  have hb := C0.2.1
  have hown := C0.2.2.2.2.2.1
  have hts := C0.2.2.2.2.2.2.1
  intro n
  induction n with
  | zero =>
    intro v0 v1 v2 v3 v4 t_v0 hF H locs hR hS ls hl
    cases hF
  | succ n ih =>
    intro v0 v1 v2 v3 v4 t_v0 hF H locs hR hS ls hl
    rw [jf_X12_wordAt_5_s] at hF
    refine lv_iload hx hb dX12_wordAt_5 (lv_at hl 4 rfl) ?_
    refine lv_aload_n hx hb dX12_wordAt_7 rfl (lv_at hl 0 rfl) ?_
    obtain ⟨a14, e_a14, hF⟩ := xbd hF
    refine gf_X12_13 C0 hR t_v0 e_a14 dX12_wordAt_8 ?_
    obtain ⟨a15, e_a15, hF⟩ := xbd hF
    refine x_len C0 hR e_a15 dX12_wordAt_11 ?_
    refine lv_icmp_ge (tgt := 126) hx hb dX12_wordAt_12 (by decide) (fun c16 => ?_) (fun c16 => ?_)
    · have hF := xif hF c16
      refine lv_iconst (v := (-1)) hx hb dX12_wordAt_126 (by decide) ?_
      cases hF
      exact x_iret C0 hR hS dX12_wordAt_127
    · have hF := xel hF c16
      refine lv_iconst (v := 0) hx hb dX12_wordAt_15 (by decide) ?_
      refine lv_istore (lv' := [(5, .int 0), (0, .ref v0), (1, .int v1), (2, .int v2), (3, .int v3), (4, .int v4)]) hx hb dX12_wordAt_16 hl (by decide) rfl (fun ls hl => ?_)
      obtain ⟨_, hF⟩ := xlim_sp hF
      exact jw_X12_wordAt_18 C0 ih _ _ _ _ _ _ _ t_v0 hF _ _ hR hS _ (lv_sub hl [1, 2, 3, 4, 5, 0] rfl)
set_option maxHeartbeats 4000000 in
set_option maxRecDepth 100000 in
theorem jc_X12_wordAt {l : Launch} {D : xD} {ty : xTy} {h : xH} {v0 : Nat} {v1 : Int32} {v2 : Int32} {r : Int32} (t_v0 : ty v0 = some (0, 12)) (hF : jf_X12_wordAt ty h v0 v1 v2 = some r) : Met l yX12_wordAt (xws yX12_wordAt cX12_wordAt 8 (some .int)) jr_X12_wordAt (xPc D ty h [.ref v0, .int v1, .int v2]) (xQ D ty (some (.int r)) h) 0 0 (xdom ty) := by
  refine x_met (by decide) ?_
  intro p e s m below meth c C0 hR
  generalize hargs : ([.ref v0, .int v1, .int v2] : List Value).toArray = args at C0 ⊢
  have hx := C0.1
  have hb := C0.2.1
  have hown := C0.2.2.2.2.2.1
  have hts := C0.2.2.2.2.2.2.1
  have hS : xS ty s.heap s.heap [] := xS.rf
  have hl := lv_entry ([.ref v0, .int v1, .int v2]) (n := 8) (Nat.le_of_ble_eq_true rfl)
  rw [← hargs, lg_entry_eq]
  rw [hargs]
  generalize (lg_sl ([.ref v0, .int v1, .int v2]) ++ List.replicate (8 - (lg_sl ([.ref v0, .int v1, .int v2])).length) Slot.unset).toArray = ls at hl ⊢
  have hl : lv_has ls 8 [(0, .ref v0), (1, .int v1), (2, .int v2)] := hl
  unfold jf_X12_wordAt at hF
  refine lv_iconst (v := 0) hx hb dX12_wordAt_0 (by decide) ?_
  refine lv_istore_n (lv' := [(3, .int 0), (0, .ref v0), (1, .int v1), (2, .int v2)]) hx hb dX12_wordAt_1 rfl hl (by decide) rfl (fun ls hl => ?_)
  refine lv_iconst (v := 0) hx hb dX12_wordAt_2 (by decide) ?_
  refine lv_istore (lv' := [(4, .int 0), (3, .int 0), (0, .ref v0), (1, .int v1), (2, .int v2)]) hx hb dX12_wordAt_3 hl (by decide) rfl (fun ls hl => ?_)
  obtain ⟨_, hF⟩ := xlim_sp hF
  exact jw_X12_wordAt_5 C0 _ _ _ _ _ _ t_v0 hF _ _ hR hS _ (lv_sub hl [2, 3, 4, 1, 0] rfl)
theorem xm_X12_wordAt : xMw yX12_wordAt cX12_wordAt 8 (some .int) 2 := ⟨xin 1520 (by decide +kernel) rfl, xin 126 (by decide +kernel) rfl, by decide +kernel⟩
theorem xi_X12_wordAt : Cond.instanceMethod yX12_wordAt ∈ xT := xin 1519 (by decide +kernel) rfl
theorem xe_X12_wordAt : Cond.selects yX12_wordAt.cls yX12_wordAt yX12_wordAt ∈ xT := xin 57 (by decide +kernel) rfl
theorem dX12_isSmall_0 : decode cX12_isSmall 0 = .ok (.iload_n 1, 1) := by decide +kernel
theorem dX12_isSmall_1 : decode cX12_isSmall 1 = .ok (.aload_n 0, 1) := by decide +kernel
theorem dX12_isSmall_2 : decode cX12_isSmall 2 = .ok (.getfield 113, 3) := by decide +kernel
theorem dX12_isSmall_5 : decode cX12_isSmall 5 = .ok (.if_icmp .ge 29, 3) := by decide +kernel
theorem dX12_isSmall_8 : decode cX12_isSmall 8 = .ok (.aload_n 0, 1) := by decide +kernel
theorem dX12_isSmall_9 : decode cX12_isSmall 9 = .ok (.getfield 7, 3) := by decide +kernel
theorem dX12_isSmall_12 : decode cX12_isSmall 12 = .ok (.iload_n 1, 1) := by decide +kernel
theorem dX12_isSmall_13 : decode cX12_isSmall 13 = .ok (.iaload, 1) := by decide +kernel
theorem dX12_isSmall_14 : decode cX12_isSmall 14 = .ok (.bipush 97, 2) := by decide +kernel
theorem dX12_isSmall_16 : decode cX12_isSmall 16 = .ok (.if_icmp .lt 18, 3) := by decide +kernel
theorem dX12_isSmall_19 : decode cX12_isSmall 19 = .ok (.aload_n 0, 1) := by decide +kernel
theorem dX12_isSmall_20 : decode cX12_isSmall 20 = .ok (.getfield 7, 3) := by decide +kernel
theorem dX12_isSmall_23 : decode cX12_isSmall 23 = .ok (.iload_n 1, 1) := by decide +kernel
theorem dX12_isSmall_24 : decode cX12_isSmall 24 = .ok (.iaload, 1) := by decide +kernel
theorem dX12_isSmall_25 : decode cX12_isSmall 25 = .ok (.bipush 122, 2) := by decide +kernel
theorem dX12_isSmall_27 : decode cX12_isSmall 27 = .ok (.if_icmp .gt 7, 3) := by decide +kernel
theorem dX12_isSmall_30 : decode cX12_isSmall 30 = .ok (.iconst 1, 1) := by decide +kernel
theorem dX12_isSmall_31 : decode cX12_isSmall 31 = .ok (.goto 4, 3) := by decide +kernel
theorem dX12_isSmall_34 : decode cX12_isSmall 34 = .ok (.iconst 0, 1) := by decide +kernel
theorem dX12_isSmall_35 : decode cX12_isSmall 35 = .ok (.ireturn, 1) := by decide +kernel
theorem wf_X12_113 : Cond.fieldLink RX12 113 "TermShelfModel" "stop" "I" ∈ xT := xin 1318 (by decide +kernel) rfl
section XN_X12_isSmall
variable {p : Program} {l : Launch} {e : Env} {R : Room} {s : State} {m : MethodId} {args : Array Value} {below : List Frame} {meth : Method} {c : Code} {H H0 : Heap} {locs : List Loc} {cells slots : Nat} {Q : State → Prop} {cc : ByteArray} {nL pc : Nat} {rt : Option FieldType} {ls : Array Slot} {rest : List Value} {D : xD} {ty : xTy} {h : xH}
theorem gf_X12_113 {a : Nat} (C0 : xC D RX12 cc nL rt p s m args meth c) (hR : xRep D ty h H) (ht : ty a = some (0, 12)) (hdg : decode cc pc = .ok (.getfield 113, 3)) (kk : W p l e R s m args below meth c H locs cells slots Q (F0 m (pc + 3) ls (.int (xI h a 6) :: rest))) : W p l e R s m args below meth c H locs cells slots Q (F0 m pc ls (.ref a :: rest)) := x_get C0 hR (ci := 12) (k := 6) (N := 60) (T := TX12) rfl iX12 (by decide) rfl wf_X12_113 rfl ht hdg kk
end XN_X12_isSmall
set_option maxHeartbeats 4000000 in
set_option maxRecDepth 100000 in
theorem jc_X12_isSmall {l : Launch} {D : xD} {ty : xTy} {h : xH} {v0 : Nat} {v1 : Int32} {r : Int32} (t_v0 : ty v0 = some (0, 12)) (hF : jf_X12_isSmall ty h v0 v1 = some r) : Met l yX12_isSmall (xws yX12_isSmall cX12_isSmall 2 (some .boolean)) jr_X12_isSmall (xPc D ty h [.ref v0, .int v1]) (xQ D ty (some (.int r)) h) 0 0 (xdom ty) := by
  refine x_met (by decide) ?_
  intro p e s m below meth c C0 hR
  generalize hargs : ([.ref v0, .int v1] : List Value).toArray = args at C0 ⊢
  have hx := C0.1
  have hb := C0.2.1
  have hown := C0.2.2.2.2.2.1
  have hts := C0.2.2.2.2.2.2.1
  have hS : xS ty s.heap s.heap [] := xS.rf
  have hl := lv_entry ([.ref v0, .int v1]) (n := 2) (Nat.le_of_ble_eq_true rfl)
  rw [← hargs, lg_entry_eq]
  rw [hargs]
  generalize (lg_sl ([.ref v0, .int v1]) ++ List.replicate (2 - (lg_sl ([.ref v0, .int v1])).length) Slot.unset).toArray = ls at hl ⊢
  have hl : lv_has ls 2 [(0, .ref v0), (1, .int v1)] := hl
  unfold jf_X12_isSmall at hF
  refine lv_iload_n hx hb dX12_isSmall_0 rfl (lv_at hl 1 rfl) ?_
  refine lv_aload_n hx hb dX12_isSmall_1 rfl (lv_at hl 0 rfl) ?_
  refine gf_X12_113 C0 hR t_v0 dX12_isSmall_2 ?_
  refine lv_icmp_ge (tgt := 34) hx hb dX12_isSmall_5 (by decide) (fun c1 => ?_) (fun c1 => ?_)
  · have hF := xif hF c1
    refine lv_iconst (v := 0) hx hb dX12_isSmall_34 (by decide) ?_
    cases hF
    exact x_zret (w := 0) C0 hR hS (by decide) dX12_isSmall_35
  · have hF := xel hF c1
    refine lv_aload_n hx hb dX12_isSmall_8 rfl (lv_at hl 0 rfl) ?_
    obtain ⟨a2, e_a2, hF⟩ := xbd hF
    refine gf_X12_7 C0 hR t_v0 e_a2 dX12_isSmall_9 ?_
    refine lv_iload_n hx hb dX12_isSmall_12 rfl (lv_at hl 1 rfl) ?_
    obtain ⟨a3, e_a3, hF⟩ := xbd hF
    refine x_iald C0 hR e_a3 dX12_isSmall_13 ?_
    refine lv_bipush (v := 97) hx hb dX12_isSmall_14 (by decide) ?_
    refine lv_icmp_lt (tgt := 34) hx hb dX12_isSmall_16 (by decide) (fun c4 => ?_) (fun c4 => ?_)
    · have hF := xif hF c4
      refine lv_iconst (v := 0) hx hb dX12_isSmall_34 (by decide) ?_
      cases hF
      exact x_zret (w := 0) C0 hR hS (by decide) dX12_isSmall_35
    · have hF := xel hF c4
      refine lv_aload_n hx hb dX12_isSmall_19 rfl (lv_at hl 0 rfl) ?_
      obtain ⟨a5, e_a5, hF⟩ := xbd hF
      refine gf_X12_7 C0 hR t_v0 e_a5 dX12_isSmall_20 ?_
      refine lv_iload_n hx hb dX12_isSmall_23 rfl (lv_at hl 1 rfl) ?_
      obtain ⟨a6, e_a6, hF⟩ := xbd hF
      refine x_iald C0 hR e_a6 dX12_isSmall_24 ?_
      refine lv_bipush (v := 122) hx hb dX12_isSmall_25 (by decide) ?_
      refine lv_icmp_gt (tgt := 34) hx hb dX12_isSmall_27 (by decide) (fun c7 => ?_) (fun c7 => ?_)
      · have hF := xif hF c7
        refine lv_iconst (v := 0) hx hb dX12_isSmall_34 (by decide) ?_
        cases hF
        exact x_zret (w := 0) C0 hR hS (by decide) dX12_isSmall_35
      · have hF := xel hF c7
        refine lv_iconst (v := 1) hx hb dX12_isSmall_30 (by decide) ?_
        refine lv_goto (tgt := 35) hx hb dX12_isSmall_31 (by decide) ?_
        cases hF
        exact x_zret (w := 1) C0 hR hS (by decide) dX12_isSmall_35
theorem xm_X12_isSmall : xMw yX12_isSmall cX12_isSmall 2 (some .boolean) 1 := ⟨xin 1516 (by decide +kernel) rfl, xin 126 (by decide +kernel) rfl, by decide +kernel⟩
theorem xi_X12_isSmall : Cond.instanceMethod yX12_isSmall ∈ xT := xin 1515 (by decide +kernel) rfl
theorem xe_X12_isSmall : Cond.selects yX12_isSmall.cls yX12_isSmall yX12_isSmall ∈ xT := xin 56 (by decide +kernel) rfl
theorem dX12_isDigit_0 : decode cX12_isDigit 0 = .ok (.iload_n 1, 1) := by decide +kernel
theorem dX12_isDigit_1 : decode cX12_isDigit 1 = .ok (.aload_n 0, 1) := by decide +kernel
theorem dX12_isDigit_2 : decode cX12_isDigit 2 = .ok (.getfield 113, 3) := by decide +kernel
theorem dX12_isDigit_5 : decode cX12_isDigit 5 = .ok (.if_icmp .ge 29, 3) := by decide +kernel
theorem dX12_isDigit_8 : decode cX12_isDigit 8 = .ok (.aload_n 0, 1) := by decide +kernel
theorem dX12_isDigit_9 : decode cX12_isDigit 9 = .ok (.getfield 7, 3) := by decide +kernel
theorem dX12_isDigit_12 : decode cX12_isDigit 12 = .ok (.iload_n 1, 1) := by decide +kernel
theorem dX12_isDigit_13 : decode cX12_isDigit 13 = .ok (.iaload, 1) := by decide +kernel
theorem dX12_isDigit_14 : decode cX12_isDigit 14 = .ok (.bipush 48, 2) := by decide +kernel
theorem dX12_isDigit_16 : decode cX12_isDigit 16 = .ok (.if_icmp .lt 18, 3) := by decide +kernel
theorem dX12_isDigit_19 : decode cX12_isDigit 19 = .ok (.aload_n 0, 1) := by decide +kernel
theorem dX12_isDigit_20 : decode cX12_isDigit 20 = .ok (.getfield 7, 3) := by decide +kernel
theorem dX12_isDigit_23 : decode cX12_isDigit 23 = .ok (.iload_n 1, 1) := by decide +kernel
theorem dX12_isDigit_24 : decode cX12_isDigit 24 = .ok (.iaload, 1) := by decide +kernel
theorem dX12_isDigit_25 : decode cX12_isDigit 25 = .ok (.bipush 57, 2) := by decide +kernel
theorem dX12_isDigit_27 : decode cX12_isDigit 27 = .ok (.if_icmp .gt 7, 3) := by decide +kernel
theorem dX12_isDigit_30 : decode cX12_isDigit 30 = .ok (.iconst 1, 1) := by decide +kernel
theorem dX12_isDigit_31 : decode cX12_isDigit 31 = .ok (.goto 4, 3) := by decide +kernel
theorem dX12_isDigit_34 : decode cX12_isDigit 34 = .ok (.iconst 0, 1) := by decide +kernel
theorem dX12_isDigit_35 : decode cX12_isDigit 35 = .ok (.ireturn, 1) := by decide +kernel
set_option maxHeartbeats 4000000 in
set_option maxRecDepth 100000 in
theorem jc_X12_isDigit {l : Launch} {D : xD} {ty : xTy} {h : xH} {v0 : Nat} {v1 : Int32} {r : Int32} (t_v0 : ty v0 = some (0, 12)) (hF : jf_X12_isDigit ty h v0 v1 = some r) : Met l yX12_isDigit (xws yX12_isDigit cX12_isDigit 2 (some .boolean)) jr_X12_isDigit (xPc D ty h [.ref v0, .int v1]) (xQ D ty (some (.int r)) h) 0 0 (xdom ty) := by
  refine x_met (by decide) ?_
  intro p e s m below meth c C0 hR
  generalize hargs : ([.ref v0, .int v1] : List Value).toArray = args at C0 ⊢
  have hx := C0.1
  have hb := C0.2.1
  have hown := C0.2.2.2.2.2.1
  have hts := C0.2.2.2.2.2.2.1
  have hS : xS ty s.heap s.heap [] := xS.rf
  have hl := lv_entry ([.ref v0, .int v1]) (n := 2) (Nat.le_of_ble_eq_true rfl)
  rw [← hargs, lg_entry_eq]
  rw [hargs]
  generalize (lg_sl ([.ref v0, .int v1]) ++ List.replicate (2 - (lg_sl ([.ref v0, .int v1])).length) Slot.unset).toArray = ls at hl ⊢
  have hl : lv_has ls 2 [(0, .ref v0), (1, .int v1)] := hl
  unfold jf_X12_isDigit at hF
  refine lv_iload_n hx hb dX12_isDigit_0 rfl (lv_at hl 1 rfl) ?_
  refine lv_aload_n hx hb dX12_isDigit_1 rfl (lv_at hl 0 rfl) ?_
  refine gf_X12_113 C0 hR t_v0 dX12_isDigit_2 ?_
  refine lv_icmp_ge (tgt := 34) hx hb dX12_isDigit_5 (by decide) (fun c1 => ?_) (fun c1 => ?_)
  · have hF := xif hF c1
    refine lv_iconst (v := 0) hx hb dX12_isDigit_34 (by decide) ?_
    cases hF
    exact x_zret (w := 0) C0 hR hS (by decide) dX12_isDigit_35
  · have hF := xel hF c1
    refine lv_aload_n hx hb dX12_isDigit_8 rfl (lv_at hl 0 rfl) ?_
    obtain ⟨a2, e_a2, hF⟩ := xbd hF
    refine gf_X12_7 C0 hR t_v0 e_a2 dX12_isDigit_9 ?_
    refine lv_iload_n hx hb dX12_isDigit_12 rfl (lv_at hl 1 rfl) ?_
    obtain ⟨a3, e_a3, hF⟩ := xbd hF
    refine x_iald C0 hR e_a3 dX12_isDigit_13 ?_
    refine lv_bipush (v := 48) hx hb dX12_isDigit_14 (by decide) ?_
    refine lv_icmp_lt (tgt := 34) hx hb dX12_isDigit_16 (by decide) (fun c4 => ?_) (fun c4 => ?_)
    · have hF := xif hF c4
      refine lv_iconst (v := 0) hx hb dX12_isDigit_34 (by decide) ?_
      cases hF
      exact x_zret (w := 0) C0 hR hS (by decide) dX12_isDigit_35
    · have hF := xel hF c4
      refine lv_aload_n hx hb dX12_isDigit_19 rfl (lv_at hl 0 rfl) ?_
      obtain ⟨a5, e_a5, hF⟩ := xbd hF
      refine gf_X12_7 C0 hR t_v0 e_a5 dX12_isDigit_20 ?_
      refine lv_iload_n hx hb dX12_isDigit_23 rfl (lv_at hl 1 rfl) ?_
      obtain ⟨a6, e_a6, hF⟩ := xbd hF
      refine x_iald C0 hR e_a6 dX12_isDigit_24 ?_
      refine lv_bipush (v := 57) hx hb dX12_isDigit_25 (by decide) ?_
      refine lv_icmp_gt (tgt := 34) hx hb dX12_isDigit_27 (by decide) (fun c7 => ?_) (fun c7 => ?_)
      · have hF := xif hF c7
        refine lv_iconst (v := 0) hx hb dX12_isDigit_34 (by decide) ?_
        cases hF
        exact x_zret (w := 0) C0 hR hS (by decide) dX12_isDigit_35
      · have hF := xel hF c7
        refine lv_iconst (v := 1) hx hb dX12_isDigit_30 (by decide) ?_
        refine lv_goto (tgt := 35) hx hb dX12_isDigit_31 (by decide) ?_
        cases hF
        exact x_zret (w := 1) C0 hR hS (by decide) dX12_isDigit_35
theorem xm_X12_isDigit : xMw yX12_isDigit cX12_isDigit 2 (some .boolean) 1 := ⟨xin 1528 (by decide +kernel) rfl, xin 126 (by decide +kernel) rfl, by decide +kernel⟩
theorem xi_X12_isDigit : Cond.instanceMethod yX12_isDigit ∈ xT := xin 1527 (by decide +kernel) rfl
theorem xe_X12_isDigit : Cond.selects yX12_isDigit.cls yX12_isDigit yX12_isDigit ∈ xT := xin 59 (by decide +kernel) rfl
theorem dX12_packed_0 : decode cX12_packed 0 = .ok (.iconst 0, 1) := by decide +kernel
theorem dX12_packed_1 : decode cX12_packed 1 = .ok (.istore_n 3, 1) := by decide +kernel
theorem dX12_packed_2 : decode cX12_packed 2 = .ok (.iload_n 1, 1) := by decide +kernel
theorem dX12_packed_3 : decode cX12_packed 3 = .ok (.istore 4, 2) := by decide +kernel
theorem dX12_packed_5 : decode cX12_packed 5 = .ok (.iload 4, 2) := by decide +kernel
theorem dX12_packed_7 : decode cX12_packed 7 = .ok (.iload_n 1, 1) := by decide +kernel
theorem dX12_packed_8 : decode cX12_packed 8 = .ok (.bipush 6, 2) := by decide +kernel
theorem dX12_packed_10 : decode cX12_packed 10 = .ok (.iadd, 1) := by decide +kernel
theorem dX12_packed_11 : decode cX12_packed 11 = .ok (.if_icmp .ge 34, 3) := by decide +kernel
theorem dX12_packed_14 : decode cX12_packed 14 = .ok (.iload_n 3, 1) := by decide +kernel
theorem dX12_packed_15 : decode cX12_packed 15 = .ok (.iconst 5, 1) := by decide +kernel
theorem dX12_packed_16 : decode cX12_packed 16 = .ok (.ishl, 1) := by decide +kernel
theorem dX12_packed_17 : decode cX12_packed 17 = .ok (.iload 4, 2) := by decide +kernel
theorem dX12_packed_19 : decode cX12_packed 19 = .ok (.iload_n 2, 1) := by decide +kernel
theorem dX12_packed_20 : decode cX12_packed 20 = .ok (.if_icmp .ge 16, 3) := by decide +kernel
theorem dX12_packed_23 : decode cX12_packed 23 = .ok (.aload_n 0, 1) := by decide +kernel
theorem dX12_packed_24 : decode cX12_packed 24 = .ok (.getfield 7, 3) := by decide +kernel
theorem dX12_packed_27 : decode cX12_packed 27 = .ok (.iload 4, 2) := by decide +kernel
theorem dX12_packed_29 : decode cX12_packed 29 = .ok (.iaload, 1) := by decide +kernel
theorem dX12_packed_30 : decode cX12_packed 30 = .ok (.bipush 96, 2) := by decide +kernel
theorem dX12_packed_32 : decode cX12_packed 32 = .ok (.isub, 1) := by decide +kernel
theorem dX12_packed_33 : decode cX12_packed 33 = .ok (.goto 4, 3) := by decide +kernel
theorem dX12_packed_36 : decode cX12_packed 36 = .ok (.iconst 0, 1) := by decide +kernel
theorem dX12_packed_37 : decode cX12_packed 37 = .ok (.ior, 1) := by decide +kernel
theorem dX12_packed_38 : decode cX12_packed 38 = .ok (.istore_n 3, 1) := by decide +kernel
theorem dX12_packed_39 : decode cX12_packed 39 = .ok (.iinc 4 1, 3) := by decide +kernel
theorem dX12_packed_42 : decode cX12_packed 42 = .ok (.goto (-37), 3) := by decide +kernel
theorem dX12_packed_45 : decode cX12_packed 45 = .ok (.iload_n 3, 1) := by decide +kernel
theorem dX12_packed_46 : decode cX12_packed 46 = .ok (.ireturn, 1) := by decide +kernel
set_option maxHeartbeats 4000000 in
set_option maxRecDepth 100000 in
theorem jw_X12_packed_5 {p : Program} {l : Launch} {e : Env} {s : State} {m : MethodId} {args : Array Value} {below : List Frame} {meth : Method} {c : Code} {D : xD} {ty : xTy} {h : xH} (C0 : xC D RX12 cX12_packed 5 (some .int) p s m args meth c) {r : Int32} : ∀ n : Nat, ∀ (v0 : Nat) (v1 : Int32) (v2 : Int32) (v3 : Int32) (v4 : Int32), ty v0 = some (0, 12) → jf_X12_packed_5 ty h n v0 v1 v2 v3 v4 = some r → ∀ (H : Heap) (locs : List Loc), xRep D ty h H → xS ty s.heap H locs → ∀ ls : Array Slot, lv_has ls 5 [(0, .ref v0), (1, .int v1), (2, .int v2), (3, .int v3), (4, .int v4)] → W p l e jr_X12_packed s m args below meth c H locs 0 0 (MQ below (xQ D ty (some (.int r)) h) args s 0 0 (xdom ty)) (F0 m 5 ls []) := by
  have hx := C0.1
  have hb := C0.2.1
  have hown := C0.2.2.2.2.2.1
  have hts := C0.2.2.2.2.2.2.1
  intro n
  induction n with
  | zero =>
    intro v0 v1 v2 v3 v4 t_v0 hF H locs hR hS ls hl
    cases hF
  | succ n ih =>
    intro v0 v1 v2 v3 v4 t_v0 hF H locs hR hS ls hl
    rw [jf_X12_packed_5_s] at hF
    refine lv_iload hx hb dX12_packed_5 (lv_at hl 4 rfl) ?_
    refine lv_iload_n hx hb dX12_packed_7 rfl (lv_at hl 1 rfl) ?_
    refine lv_bipush (v := 6) hx hb dX12_packed_8 (by decide) ?_
    refine lv_iadd hx hb dX12_packed_10 ?_
    refine lv_icmp_ge (tgt := 45) hx hb dX12_packed_11 (by decide) (fun c1 => ?_) (fun c1 => ?_)
    · have hF := xif hF c1
      refine lv_iload_n hx hb dX12_packed_45 rfl (lv_at hl 3 rfl) ?_
      cases hF
      exact x_iret C0 hR hS dX12_packed_46
    · have hF := xel hF c1
      refine lv_iload_n hx hb dX12_packed_14 rfl (lv_at hl 3 rfl) ?_
      refine lv_iconst (v := 5) hx hb dX12_packed_15 (by decide) ?_
      refine lv_ishl hx hb dX12_packed_16 ?_
      refine lv_iload hx hb dX12_packed_17 (lv_at hl 4 rfl) ?_
      refine lv_iload_n hx hb dX12_packed_19 rfl (lv_at hl 2 rfl) ?_
      refine lv_icmp_ge (tgt := 36) hx hb dX12_packed_20 (by decide) (fun c2 => ?_) (fun c2 => ?_)
      · have hF := xif hF c2
        refine lv_iconst (v := 0) hx hb dX12_packed_36 (by decide) ?_
        refine lv_ior hx hb dX12_packed_37 ?_
        refine lv_istore_n (lv' := [(3, .int ((v3 <<< (5 &&& 31)) ||| 0)), (0, .ref v0), (1, .int v1), (2, .int v2), (4, .int v4)]) hx hb dX12_packed_38 rfl hl (by decide) rfl (fun ls hl => ?_)
        refine lv_iinc (v := v4 + 1) (lv' := [(4, .int (v4 + 1)), (3, .int ((v3 <<< (5 &&& 31)) ||| 0)), (0, .ref v0), (1, .int v1), (2, .int v2)]) hx hb dX12_packed_39 hl (k := 4) rfl rfl (by decide) rfl (fun ls hl => ?_)
        refine lv_goto (tgt := 5) hx hb dX12_packed_42 (by decide) ?_
        exact ih _ _ _ _ _ t_v0 hF _ _ hR hS _ (lv_sub hl [2, 3, 4, 1, 0] rfl)
      · have hF := xel hF c2
        refine lv_aload_n hx hb dX12_packed_23 rfl (lv_at hl 0 rfl) ?_
        obtain ⟨a3, e_a3, hF⟩ := xbd hF
        refine gf_X12_7 C0 hR t_v0 e_a3 dX12_packed_24 ?_
        refine lv_iload hx hb dX12_packed_27 (lv_at hl 4 rfl) ?_
        obtain ⟨a4, e_a4, hF⟩ := xbd hF
        refine x_iald C0 hR e_a4 dX12_packed_29 ?_
        refine lv_bipush (v := 96) hx hb dX12_packed_30 (by decide) ?_
        refine lv_isub hx hb dX12_packed_32 ?_
        refine lv_goto (tgt := 37) hx hb dX12_packed_33 (by decide) ?_
        refine lv_ior hx hb dX12_packed_37 ?_
        refine lv_istore_n (lv' := [(3, .int ((v3 <<< (5 &&& 31)) ||| (a4 - 96))), (0, .ref v0), (1, .int v1), (2, .int v2), (4, .int v4)]) hx hb dX12_packed_38 rfl hl (by decide) rfl (fun ls hl => ?_)
        refine lv_iinc (v := v4 + 1) (lv' := [(4, .int (v4 + 1)), (3, .int ((v3 <<< (5 &&& 31)) ||| (a4 - 96))), (0, .ref v0), (1, .int v1), (2, .int v2)]) hx hb dX12_packed_39 hl (k := 4) rfl rfl (by decide) rfl (fun ls hl => ?_)
        refine lv_goto (tgt := 5) hx hb dX12_packed_42 (by decide) ?_
        exact ih _ _ _ _ _ t_v0 hF _ _ hR hS _ (lv_sub hl [2, 3, 4, 1, 0] rfl)
set_option maxHeartbeats 4000000 in
set_option maxRecDepth 100000 in
theorem jc_X12_packed {l : Launch} {D : xD} {ty : xTy} {h : xH} {v0 : Nat} {v1 : Int32} {v2 : Int32} {r : Int32} (t_v0 : ty v0 = some (0, 12)) (hF : jf_X12_packed ty h v0 v1 v2 = some r) : Met l yX12_packed (xws yX12_packed cX12_packed 5 (some .int)) jr_X12_packed (xPc D ty h [.ref v0, .int v1, .int v2]) (xQ D ty (some (.int r)) h) 0 0 (xdom ty) := by
  refine x_met (by decide) ?_
  intro p e s m below meth c C0 hR
  generalize hargs : ([.ref v0, .int v1, .int v2] : List Value).toArray = args at C0 ⊢
  have hx := C0.1
  have hb := C0.2.1
  have hown := C0.2.2.2.2.2.1
  have hts := C0.2.2.2.2.2.2.1
  have hS : xS ty s.heap s.heap [] := xS.rf
  have hl := lv_entry ([.ref v0, .int v1, .int v2]) (n := 5) (Nat.le_of_ble_eq_true rfl)
  rw [← hargs, lg_entry_eq]
  rw [hargs]
  generalize (lg_sl ([.ref v0, .int v1, .int v2]) ++ List.replicate (5 - (lg_sl ([.ref v0, .int v1, .int v2])).length) Slot.unset).toArray = ls at hl ⊢
  have hl : lv_has ls 5 [(0, .ref v0), (1, .int v1), (2, .int v2)] := hl
  unfold jf_X12_packed at hF
  refine lv_iconst (v := 0) hx hb dX12_packed_0 (by decide) ?_
  refine lv_istore_n (lv' := [(3, .int 0), (0, .ref v0), (1, .int v1), (2, .int v2)]) hx hb dX12_packed_1 rfl hl (by decide) rfl (fun ls hl => ?_)
  refine lv_iload_n hx hb dX12_packed_2 rfl (lv_at hl 2 rfl) ?_
  refine lv_istore (lv' := [(4, .int v1), (3, .int 0), (0, .ref v0), (1, .int v1), (2, .int v2)]) hx hb dX12_packed_3 hl (by decide) rfl (fun ls hl => ?_)
  obtain ⟨_, hF⟩ := xlim_sp hF
  exact jw_X12_packed_5 C0 _ _ _ _ _ _ t_v0 hF _ _ hR hS _ (lv_sub hl [2, 3, 4, 1, 0] rfl)
theorem xm_X12_packed : xMw yX12_packed cX12_packed 5 (some .int) 2 := ⟨xin 1524 (by decide +kernel) rfl, xin 126 (by decide +kernel) rfl, by decide +kernel⟩
theorem xi_X12_packed : Cond.instanceMethod yX12_packed ∈ xT := xin 1523 (by decide +kernel) rfl
theorem xe_X12_packed : Cond.selects yX12_packed.cls yX12_packed yX12_packed ∈ xT := xin 58 (by decide +kernel) rfl
theorem dX12_signToken_0 : decode cX12_signToken 0 = .ok (.aload_n 0, 1) := by decide +kernel
theorem dX12_signToken_1 : decode cX12_signToken 1 = .ok (.aload_n 0, 1) := by decide +kernel
theorem dX12_signToken_2 : decode cX12_signToken 2 = .ok (.getfield 7, 3) := by decide +kernel
theorem dX12_signToken_5 : decode cX12_signToken 5 = .ok (.aload_n 0, 1) := by decide +kernel
theorem dX12_signToken_6 : decode cX12_signToken 6 = .ok (.getfield 116, 3) := by decide +kernel
theorem dX12_signToken_9 : decode cX12_signToken 9 = .ok (.iaload, 1) := by decide +kernel
theorem dX12_signToken_10 : decode cX12_signToken 10 = .ok (.putfield 130, 3) := by decide +kernel
theorem dX12_signToken_13 : decode cX12_signToken 13 = .ok (.aload_n 0, 1) := by decide +kernel
theorem dX12_signToken_14 : decode cX12_signToken 14 = .ok (.dup, 1) := by decide +kernel
theorem dX12_signToken_15 : decode cX12_signToken 15 = .ok (.getfield 116, 3) := by decide +kernel
theorem dX12_signToken_18 : decode cX12_signToken 18 = .ok (.iconst 1, 1) := by decide +kernel
theorem dX12_signToken_19 : decode cX12_signToken 19 = .ok (.iadd, 1) := by decide +kernel
theorem dX12_signToken_20 : decode cX12_signToken 20 = .ok (.putfield 116, 3) := by decide +kernel
theorem dX12_signToken_23 : decode cX12_signToken 23 = .ok (.aload_n 0, 1) := by decide +kernel
theorem dX12_signToken_24 : decode cX12_signToken 24 = .ok (.getfield 130, 3) := by decide +kernel
theorem dX12_signToken_27 : decode cX12_signToken 27 = .ok (.bipush 60, 2) := by decide +kernel
theorem dX12_signToken_29 : decode cX12_signToken 29 = .ok (.if_icmp .eq 21, 3) := by decide +kernel
theorem dX12_signToken_32 : decode cX12_signToken 32 = .ok (.aload_n 0, 1) := by decide +kernel
theorem dX12_signToken_33 : decode cX12_signToken 33 = .ok (.getfield 130, 3) := by decide +kernel
theorem dX12_signToken_36 : decode cX12_signToken 36 = .ok (.bipush 62, 2) := by decide +kernel
theorem dX12_signToken_38 : decode cX12_signToken 38 = .ok (.if_icmp .eq 12, 3) := by decide +kernel
theorem dX12_signToken_41 : decode cX12_signToken 41 = .ok (.aload_n 0, 1) := by decide +kernel
theorem dX12_signToken_42 : decode cX12_signToken 42 = .ok (.getfield 130, 3) := by decide +kernel
theorem dX12_signToken_45 : decode cX12_signToken 45 = .ok (.bipush 61, 2) := by decide +kernel
theorem dX12_signToken_47 : decode cX12_signToken 47 = .ok (.if_icmp .ne 151, 3) := by decide +kernel
theorem dX12_signToken_50 : decode cX12_signToken 50 = .ok (.aload_n 0, 1) := by decide +kernel
theorem dX12_signToken_51 : decode cX12_signToken 51 = .ok (.getfield 116, 3) := by decide +kernel
theorem dX12_signToken_54 : decode cX12_signToken 54 = .ok (.aload_n 0, 1) := by decide +kernel
theorem dX12_signToken_55 : decode cX12_signToken 55 = .ok (.getfield 113, 3) := by decide +kernel
theorem dX12_signToken_58 : decode cX12_signToken 58 = .ok (.if_icmp .ge 15, 3) := by decide +kernel
theorem dX12_signToken_61 : decode cX12_signToken 61 = .ok (.aload_n 0, 1) := by decide +kernel
theorem dX12_signToken_62 : decode cX12_signToken 62 = .ok (.getfield 7, 3) := by decide +kernel
theorem dX12_signToken_65 : decode cX12_signToken 65 = .ok (.aload_n 0, 1) := by decide +kernel
theorem dX12_signToken_66 : decode cX12_signToken 66 = .ok (.getfield 116, 3) := by decide +kernel
theorem dX12_signToken_69 : decode cX12_signToken 69 = .ok (.iaload, 1) := by decide +kernel
theorem dX12_signToken_70 : decode cX12_signToken 70 = .ok (.goto 4, 3) := by decide +kernel
theorem dX12_signToken_73 : decode cX12_signToken 73 = .ok (.iconst 0, 1) := by decide +kernel
theorem dX12_signToken_74 : decode cX12_signToken 74 = .ok (.istore_n 1, 1) := by decide +kernel
theorem dX12_signToken_75 : decode cX12_signToken 75 = .ok (.aload_n 0, 1) := by decide +kernel
theorem dX12_signToken_76 : decode cX12_signToken 76 = .ok (.getfield 130, 3) := by decide +kernel
theorem dX12_signToken_79 : decode cX12_signToken 79 = .ok (.bipush 61, 2) := by decide +kernel
theorem dX12_signToken_81 : decode cX12_signToken 81 = .ok (.if_icmp .eq 13, 3) := by decide +kernel
theorem dX12_signToken_84 : decode cX12_signToken 84 = .ok (.iload_n 1, 1) := by decide +kernel
theorem dX12_signToken_85 : decode cX12_signToken 85 = .ok (.bipush 61, 2) := by decide +kernel
theorem dX12_signToken_87 : decode cX12_signToken 87 = .ok (.if_icmp .ne 7, 3) := by decide +kernel
theorem dX12_signToken_90 : decode cX12_signToken 90 = .ok (.iconst 1, 1) := by decide +kernel
theorem dX12_signToken_91 : decode cX12_signToken 91 = .ok (.goto 4, 3) := by decide +kernel
theorem dX12_signToken_94 : decode cX12_signToken 94 = .ok (.iconst 0, 1) := by decide +kernel
theorem dX12_signToken_95 : decode cX12_signToken 95 = .ok (.istore_n 2, 1) := by decide +kernel
theorem dX12_signToken_96 : decode cX12_signToken 96 = .ok (.aload_n 0, 1) := by decide +kernel
theorem dX12_signToken_97 : decode cX12_signToken 97 = .ok (.getfield 130, 3) := by decide +kernel
theorem dX12_signToken_100 : decode cX12_signToken 100 = .ok (.bipush 60, 2) := by decide +kernel
theorem dX12_signToken_102 : decode cX12_signToken 102 = .ok (.if_icmp .ne 13, 3) := by decide +kernel
theorem dX12_signToken_105 : decode cX12_signToken 105 = .ok (.iload_n 1, 1) := by decide +kernel
theorem dX12_signToken_106 : decode cX12_signToken 106 = .ok (.bipush 62, 2) := by decide +kernel
theorem dX12_signToken_108 : decode cX12_signToken 108 = .ok (.if_icmp .ne 7, 3) := by decide +kernel
theorem dX12_signToken_111 : decode cX12_signToken 111 = .ok (.iconst 1, 1) := by decide +kernel
theorem dX12_signToken_112 : decode cX12_signToken 112 = .ok (.goto 4, 3) := by decide +kernel
theorem dX12_signToken_115 : decode cX12_signToken 115 = .ok (.iconst 0, 1) := by decide +kernel
theorem dX12_signToken_116 : decode cX12_signToken 116 = .ok (.istore_n 3, 1) := by decide +kernel
theorem dX12_signToken_117 : decode cX12_signToken 117 = .ok (.iload_n 2, 1) := by decide +kernel
theorem dX12_signToken_118 : decode cX12_signToken 118 = .ok (.ifCond .ne 7, 3) := by decide +kernel
theorem dX12_signToken_121 : decode cX12_signToken 121 = .ok (.iload_n 3, 1) := by decide +kernel
theorem dX12_signToken_122 : decode cX12_signToken 122 = .ok (.ifCond .eq 13, 3) := by decide +kernel
theorem dX12_signToken_125 : decode cX12_signToken 125 = .ok (.aload_n 0, 1) := by decide +kernel
theorem dX12_signToken_126 : decode cX12_signToken 126 = .ok (.dup, 1) := by decide +kernel
theorem dX12_signToken_127 : decode cX12_signToken 127 = .ok (.getfield 116, 3) := by decide +kernel
theorem dX12_signToken_130 : decode cX12_signToken 130 = .ok (.iconst 1, 1) := by decide +kernel
theorem dX12_signToken_131 : decode cX12_signToken 131 = .ok (.iadd, 1) := by decide +kernel
theorem dX12_signToken_132 : decode cX12_signToken 132 = .ok (.putfield 116, 3) := by decide +kernel
theorem dX12_signToken_135 : decode cX12_signToken 135 = .ok (.aload_n 0, 1) := by decide +kernel
theorem dX12_signToken_136 : decode cX12_signToken 136 = .ok (.iconst 5, 1) := by decide +kernel
theorem dX12_signToken_137 : decode cX12_signToken 137 = .ok (.putfield 119, 3) := by decide +kernel
theorem dX12_signToken_140 : decode cX12_signToken 140 = .ok (.aload_n 0, 1) := by decide +kernel
theorem dX12_signToken_141 : decode cX12_signToken 141 = .ok (.aload_n 0, 1) := by decide +kernel
theorem dX12_signToken_142 : decode cX12_signToken 142 = .ok (.getfield 130, 3) := by decide +kernel
theorem dX12_signToken_145 : decode cX12_signToken 145 = .ok (.bipush 61, 2) := by decide +kernel
theorem dX12_signToken_147 : decode cX12_signToken 147 = .ok (.if_icmp .ne 7, 3) := by decide +kernel
theorem dX12_signToken_150 : decode cX12_signToken 150 = .ok (.iconst 2, 1) := by decide +kernel
theorem dX12_signToken_151 : decode cX12_signToken 151 = .ok (.goto 41, 3) := by decide +kernel
theorem dX12_signToken_154 : decode cX12_signToken 154 = .ok (.aload_n 0, 1) := by decide +kernel
theorem dX12_signToken_155 : decode cX12_signToken 155 = .ok (.getfield 130, 3) := by decide +kernel
theorem dX12_signToken_158 : decode cX12_signToken 158 = .ok (.bipush 60, 2) := by decide +kernel
theorem dX12_signToken_160 : decode cX12_signToken 160 = .ok (.if_icmp .ne 23, 3) := by decide +kernel
theorem dX12_signToken_163 : decode cX12_signToken 163 = .ok (.iload_n 2, 1) := by decide +kernel
theorem dX12_signToken_164 : decode cX12_signToken 164 = .ok (.ifCond .eq 7, 3) := by decide +kernel
theorem dX12_signToken_167 : decode cX12_signToken 167 = .ok (.iconst 1, 1) := by decide +kernel
theorem dX12_signToken_168 : decode cX12_signToken 168 = .ok (.goto 24, 3) := by decide +kernel
theorem dX12_signToken_171 : decode cX12_signToken 171 = .ok (.iload_n 3, 1) := by decide +kernel
theorem dX12_signToken_172 : decode cX12_signToken 172 = .ok (.ifCond .eq 7, 3) := by decide +kernel
theorem dX12_signToken_175 : decode cX12_signToken 175 = .ok (.iconst 3, 1) := by decide +kernel
theorem dX12_signToken_176 : decode cX12_signToken 176 = .ok (.goto 16, 3) := by decide +kernel
theorem dX12_signToken_179 : decode cX12_signToken 179 = .ok (.iconst 0, 1) := by decide +kernel
theorem dX12_signToken_180 : decode cX12_signToken 180 = .ok (.goto 12, 3) := by decide +kernel
theorem dX12_signToken_183 : decode cX12_signToken 183 = .ok (.iload_n 2, 1) := by decide +kernel
theorem dX12_signToken_184 : decode cX12_signToken 184 = .ok (.ifCond .eq 7, 3) := by decide +kernel
theorem dX12_signToken_187 : decode cX12_signToken 187 = .ok (.iconst 4, 1) := by decide +kernel
theorem dX12_signToken_188 : decode cX12_signToken 188 = .ok (.goto 4, 3) := by decide +kernel
theorem dX12_signToken_191 : decode cX12_signToken 191 = .ok (.iconst 5, 1) := by decide +kernel
theorem dX12_signToken_192 : decode cX12_signToken 192 = .ok (.putfield 130, 3) := by decide +kernel
theorem dX12_signToken_195 : decode cX12_signToken 195 = .ok (.goto 95, 3) := by decide +kernel
theorem dX12_signToken_198 : decode cX12_signToken 198 = .ok (.aload_n 0, 1) := by decide +kernel
theorem dX12_signToken_199 : decode cX12_signToken 199 = .ok (.getfield 130, 3) := by decide +kernel
theorem dX12_signToken_202 : decode cX12_signToken 202 = .ok (.bipush 59, 2) := by decide +kernel
theorem dX12_signToken_204 : decode cX12_signToken 204 = .ok (.if_icmp .eq 66, 3) := by decide +kernel
theorem dX12_signToken_207 : decode cX12_signToken 207 = .ok (.aload_n 0, 1) := by decide +kernel
theorem dX12_signToken_208 : decode cX12_signToken 208 = .ok (.getfield 130, 3) := by decide +kernel
theorem dX12_signToken_211 : decode cX12_signToken 211 = .ok (.bipush 40, 2) := by decide +kernel
theorem dX12_signToken_213 : decode cX12_signToken 213 = .ok (.if_icmp .eq 57, 3) := by decide +kernel
theorem dX12_signToken_216 : decode cX12_signToken 216 = .ok (.aload_n 0, 1) := by decide +kernel
theorem dX12_signToken_217 : decode cX12_signToken 217 = .ok (.getfield 130, 3) := by decide +kernel
theorem dX12_signToken_220 : decode cX12_signToken 220 = .ok (.bipush 41, 2) := by decide +kernel
theorem dX12_signToken_222 : decode cX12_signToken 222 = .ok (.if_icmp .eq 48, 3) := by decide +kernel
theorem dX12_signToken_225 : decode cX12_signToken 225 = .ok (.aload_n 0, 1) := by decide +kernel
theorem dX12_signToken_226 : decode cX12_signToken 226 = .ok (.getfield 130, 3) := by decide +kernel
theorem dX12_signToken_229 : decode cX12_signToken 229 = .ok (.bipush 43, 2) := by decide +kernel
theorem dX12_signToken_231 : decode cX12_signToken 231 = .ok (.if_icmp .eq 39, 3) := by decide +kernel
theorem dX12_signToken_234 : decode cX12_signToken 234 = .ok (.aload_n 0, 1) := by decide +kernel
theorem dX12_signToken_235 : decode cX12_signToken 235 = .ok (.getfield 130, 3) := by decide +kernel
theorem dX12_signToken_238 : decode cX12_signToken 238 = .ok (.bipush 45, 2) := by decide +kernel
theorem dX12_signToken_240 : decode cX12_signToken 240 = .ok (.if_icmp .eq 30, 3) := by decide +kernel
theorem dX12_signToken_243 : decode cX12_signToken 243 = .ok (.aload_n 0, 1) := by decide +kernel
theorem dX12_signToken_244 : decode cX12_signToken 244 = .ok (.getfield 130, 3) := by decide +kernel
theorem dX12_signToken_247 : decode cX12_signToken 247 = .ok (.bipush 42, 2) := by decide +kernel
theorem dX12_signToken_249 : decode cX12_signToken 249 = .ok (.if_icmp .eq 21, 3) := by decide +kernel
theorem dX12_signToken_252 : decode cX12_signToken 252 = .ok (.aload_n 0, 1) := by decide +kernel
theorem dX12_signToken_253 : decode cX12_signToken 253 = .ok (.getfield 130, 3) := by decide +kernel
theorem dX12_signToken_256 : decode cX12_signToken 256 = .ok (.bipush 47, 2) := by decide +kernel
theorem dX12_signToken_258 : decode cX12_signToken 258 = .ok (.if_icmp .eq 12, 3) := by decide +kernel
theorem dX12_signToken_261 : decode cX12_signToken 261 = .ok (.aload_n 0, 1) := by decide +kernel
theorem dX12_signToken_262 : decode cX12_signToken 262 = .ok (.getfield 130, 3) := by decide +kernel
theorem dX12_signToken_265 : decode cX12_signToken 265 = .ok (.bipush 44, 2) := by decide +kernel
theorem dX12_signToken_267 : decode cX12_signToken 267 = .ok (.if_icmp .ne 7, 3) := by decide +kernel
theorem dX12_signToken_270 : decode cX12_signToken 270 = .ok (.iconst 1, 1) := by decide +kernel
theorem dX12_signToken_271 : decode cX12_signToken 271 = .ok (.goto 4, 3) := by decide +kernel
theorem dX12_signToken_274 : decode cX12_signToken 274 = .ok (.iconst 0, 1) := by decide +kernel
theorem dX12_signToken_275 : decode cX12_signToken 275 = .ok (.istore_n 1, 1) := by decide +kernel
theorem dX12_signToken_276 : decode cX12_signToken 276 = .ok (.aload_n 0, 1) := by decide +kernel
theorem dX12_signToken_277 : decode cX12_signToken 277 = .ok (.iload_n 1, 1) := by decide +kernel
theorem dX12_signToken_278 : decode cX12_signToken 278 = .ok (.ifCond .eq 7, 3) := by decide +kernel
theorem dX12_signToken_281 : decode cX12_signToken 281 = .ok (.iconst 4, 1) := by decide +kernel
theorem dX12_signToken_282 : decode cX12_signToken 282 = .ok (.goto 5, 3) := by decide +kernel
theorem dX12_signToken_285 : decode cX12_signToken 285 = .ok (.bipush 6, 2) := by decide +kernel
theorem dX12_signToken_287 : decode cX12_signToken 287 = .ok (.putfield 119, 3) := by decide +kernel
theorem dX12_signToken_290 : decode cX12_signToken 290 = .ok (.return_, 1) := by decide +kernel
theorem wf_X12_116 : Cond.fieldLink RX12 116 "TermShelfModel" "next" "I" ∈ xT := xin 1319 (by decide +kernel) rfl
theorem wf_X12_130 : Cond.fieldLink RX12 130 "TermShelfModel" "which" "I" ∈ xT := xin 1321 (by decide +kernel) rfl
theorem wf_X12_119 : Cond.fieldLink RX12 119 "TermShelfModel" "kind" "I" ∈ xT := xin 1320 (by decide +kernel) rfl
section XN_X12_signToken
variable {p : Program} {l : Launch} {e : Env} {R : Room} {s : State} {m : MethodId} {args : Array Value} {below : List Frame} {meth : Method} {c : Code} {H H0 : Heap} {locs : List Loc} {cells slots : Nat} {Q : State → Prop} {cc : ByteArray} {nL pc : Nat} {rt : Option FieldType} {ls : Array Slot} {rest : List Value} {D : xD} {ty : xTy} {h : xH}
theorem gf_X12_116 {a : Nat} (C0 : xC D RX12 cc nL rt p s m args meth c) (hR : xRep D ty h H) (ht : ty a = some (0, 12)) (hdg : decode cc pc = .ok (.getfield 116, 3)) (kk : W p l e R s m args below meth c H locs cells slots Q (F0 m (pc + 3) ls (.int (xI h a 7) :: rest))) : W p l e R s m args below meth c H locs cells slots Q (F0 m pc ls (.ref a :: rest)) := x_get C0 hR (ci := 12) (k := 7) (N := 60) (T := TX12) rfl iX12 (by decide) rfl wf_X12_116 rfl ht hdg kk
theorem gf_X12_130 {a : Nat} (C0 : xC D RX12 cc nL rt p s m args meth c) (hR : xRep D ty h H) (ht : ty a = some (0, 12)) (hdg : decode cc pc = .ok (.getfield 130, 3)) (kk : W p l e R s m args below meth c H locs cells slots Q (F0 m (pc + 3) ls (.int (xI h a 9) :: rest))) : W p l e R s m args below meth c H locs cells slots Q (F0 m pc ls (.ref a :: rest)) := x_get C0 hR (ci := 12) (k := 9) (N := 60) (T := TX12) rfl iX12 (by decide) rfl wf_X12_130 rfl ht hdg kk
theorem pf_X12_116 {a : Nat} {v : Int32} (C0 : xC D RX12 cc nL rt p s m args meth c) (hR : xRep D ty h H) (hS : xS ty H0 H locs) (ht : ty a = some (0, 12)) (hdg : decode cc pc = .ok (.putfield 116, 3)) (kk : ∀ (H1 : Heap) (locs1 : List Loc), xRep D ty (xsI h a 7 v) H1 → xS ty H0 H1 locs1 → W p l e R s m args below meth c H1 locs1 cells slots Q (F0 m (pc + 3) ls rest)) : W p l e R s m args below meth c H locs cells slots Q (F0 m pc ls (.int v :: .ref a :: rest)) := x_puti C0 hR hS (ci := 12) (k := 7) (N := 60) (T := TX12) rfl iX12 tyX12_ok nmX12 (by decide) rfl rfl wf_X12_116 (Or.inl rfl) rfl rfl ht hdg kk
theorem pf_X12_119 {a : Nat} {v : Int32} (C0 : xC D RX12 cc nL rt p s m args meth c) (hR : xRep D ty h H) (hS : xS ty H0 H locs) (ht : ty a = some (0, 12)) (hdg : decode cc pc = .ok (.putfield 119, 3)) (kk : ∀ (H1 : Heap) (locs1 : List Loc), xRep D ty (xsI h a 8 v) H1 → xS ty H0 H1 locs1 → W p l e R s m args below meth c H1 locs1 cells slots Q (F0 m (pc + 3) ls rest)) : W p l e R s m args below meth c H locs cells slots Q (F0 m pc ls (.int v :: .ref a :: rest)) := x_puti C0 hR hS (ci := 12) (k := 8) (N := 60) (T := TX12) rfl iX12 tyX12_ok nmX12 (by decide) rfl rfl wf_X12_119 (Or.inl rfl) rfl rfl ht hdg kk
theorem pf_X12_130 {a : Nat} {v : Int32} (C0 : xC D RX12 cc nL rt p s m args meth c) (hR : xRep D ty h H) (hS : xS ty H0 H locs) (ht : ty a = some (0, 12)) (hdg : decode cc pc = .ok (.putfield 130, 3)) (kk : ∀ (H1 : Heap) (locs1 : List Loc), xRep D ty (xsI h a 9 v) H1 → xS ty H0 H1 locs1 → W p l e R s m args below meth c H1 locs1 cells slots Q (F0 m (pc + 3) ls rest)) : W p l e R s m args below meth c H locs cells slots Q (F0 m pc ls (.int v :: .ref a :: rest)) := x_puti C0 hR hS (ci := 12) (k := 9) (N := 60) (T := TX12) rfl iX12 tyX12_ok nmX12 (by decide) rfl rfl wf_X12_130 (Or.inl rfl) rfl rfl ht hdg kk
end XN_X12_signToken
set_option maxHeartbeats 4000000 in
set_option maxRecDepth 100000 in
theorem jw_X12_signToken_192 {p : Program} {l : Launch} {e : Env} {s : State} {m : MethodId} {args : Array Value} {below : List Frame} {meth : Method} {c : Code} {D : xD} {ty : xTy} (C0 : xC D RX12 cX12_signToken 4 none p s m args meth c) {h9 : xH} : ∀ (s0 : Nat) (s1 : Int32) (h : xH), ty s0 = some (0, 12) → jf_X12_signToken_192 ty s0 s1 h = some h9 → ∀ (H : Heap) (locs : List Loc), xRep D ty h H → xS ty s.heap H locs → ∀ ls : Array Slot, lv_has ls 4 [] → W p l e jr_X12_signToken s m args below meth c H locs 0 0 (MQ below (xQ D ty none h9) args s 0 0 (xdom ty)) (F0 m 192 ls [.int s1, .ref s0]) := by
  have hx := C0.1
  have hb := C0.2.1
  have hown := C0.2.2.2.2.2.1
  have hts := C0.2.2.2.2.2.2.1
  intro s0 s1 h t_s0 hF H locs hR hS ls hl
  unfold jf_X12_signToken_192 at hF
  obtain ⟨h1, e_h1, hF⟩ := xbd hF
  refine pf_X12_130 C0 hR hS t_s0 dX12_signToken_192 (fun H locs hR hS => ?_)
  rw [Option.some.inj e_h1] at hR
  refine lv_goto (tgt := 290) hx hb dX12_signToken_195 (by decide) ?_
  cases hF
  exact x_vret C0 hR hS dX12_signToken_290
set_option maxHeartbeats 4000000 in
set_option maxRecDepth 100000 in
theorem jw_X12_signToken_135 {p : Program} {l : Launch} {e : Env} {s : State} {m : MethodId} {args : Array Value} {below : List Frame} {meth : Method} {c : Code} {D : xD} {ty : xTy} (C0 : xC D RX12 cX12_signToken 4 none p s m args meth c) {h9 : xH} : ∀ (v0 : Nat) (v2 : Int32) (v3 : Int32) (h : xH), ty v0 = some (0, 12) → jf_X12_signToken_135 ty v0 v2 v3 h = some h9 → ∀ (H : Heap) (locs : List Loc), xRep D ty h H → xS ty s.heap H locs → ∀ ls : Array Slot, lv_has ls 4 [(0, .ref v0), (2, .int v2), (3, .int v3)] → W p l e jr_X12_signToken s m args below meth c H locs 0 0 (MQ below (xQ D ty none h9) args s 0 0 (xdom ty)) (F0 m 135 ls []) := by
  have hx := C0.1
  have hb := C0.2.1
  have hown := C0.2.2.2.2.2.1
  have hts := C0.2.2.2.2.2.2.1
  intro v0 v2 v3 h t_v0 hF H locs hR hS ls hl
  unfold jf_X12_signToken_135 at hF
  refine lv_aload_n hx hb dX12_signToken_135 rfl (lv_at hl 0 rfl) ?_
  refine lv_iconst (v := 5) hx hb dX12_signToken_136 (by decide) ?_
  obtain ⟨h2, e_h2, hF⟩ := xbd hF
  refine pf_X12_119 C0 hR hS t_v0 dX12_signToken_137 (fun H locs hR hS => ?_)
  rw [Option.some.inj e_h2] at hR
  refine lv_aload_n hx hb dX12_signToken_140 rfl (lv_at hl 0 rfl) ?_
  refine lv_aload_n hx hb dX12_signToken_141 rfl (lv_at hl 0 rfl) ?_
  refine gf_X12_130 C0 hR t_v0 dX12_signToken_142 ?_
  refine lv_bipush (v := 61) hx hb dX12_signToken_145 (by decide) ?_
  refine lv_icmp_ne (tgt := 154) hx hb dX12_signToken_147 (by decide) (fun c3 => ?_) (fun c3 => ?_)
  · have hF := xel hF c3
    refine lv_aload_n hx hb dX12_signToken_154 rfl (lv_at hl 0 rfl) ?_
    refine gf_X12_130 C0 hR t_v0 dX12_signToken_155 ?_
    refine lv_bipush (v := 60) hx hb dX12_signToken_158 (by decide) ?_
    refine lv_icmp_ne (tgt := 183) hx hb dX12_signToken_160 (by decide) (fun c4 => ?_) (fun c4 => ?_)
    · have hF := xel hF c4
      refine lv_iload_n hx hb dX12_signToken_183 rfl (lv_at hl 1 rfl) ?_
      refine lv_if_eq (tgt := 191) hx hb dX12_signToken_184 (by decide) (fun c5 => ?_) (fun c5 => ?_)
      · have hF := xif hF c5
        refine lv_iconst (v := 5) hx hb dX12_signToken_191 (by decide) ?_
        exact jw_X12_signToken_192 C0 _ _ _ t_v0 hF _ _ hR hS _ (lv_sub hl [] rfl)
      · have hF := xel hF c5
        refine lv_iconst (v := 4) hx hb dX12_signToken_187 (by decide) ?_
        refine lv_goto (tgt := 192) hx hb dX12_signToken_188 (by decide) ?_
        exact jw_X12_signToken_192 C0 _ _ _ t_v0 hF _ _ hR hS _ (lv_sub hl [] rfl)
    · have hF := xif hF c4
      refine lv_iload_n hx hb dX12_signToken_163 rfl (lv_at hl 1 rfl) ?_
      refine lv_if_eq (tgt := 171) hx hb dX12_signToken_164 (by decide) (fun c6 => ?_) (fun c6 => ?_)
      · have hF := xif hF c6
        refine lv_iload_n hx hb dX12_signToken_171 rfl (lv_at hl 2 rfl) ?_
        refine lv_if_eq (tgt := 179) hx hb dX12_signToken_172 (by decide) (fun c7 => ?_) (fun c7 => ?_)
        · have hF := xif hF c7
          refine lv_iconst (v := 0) hx hb dX12_signToken_179 (by decide) ?_
          refine lv_goto (tgt := 192) hx hb dX12_signToken_180 (by decide) ?_
          exact jw_X12_signToken_192 C0 _ _ _ t_v0 hF _ _ hR hS _ (lv_sub hl [] rfl)
        · have hF := xel hF c7
          refine lv_iconst (v := 3) hx hb dX12_signToken_175 (by decide) ?_
          refine lv_goto (tgt := 192) hx hb dX12_signToken_176 (by decide) ?_
          exact jw_X12_signToken_192 C0 _ _ _ t_v0 hF _ _ hR hS _ (lv_sub hl [] rfl)
      · have hF := xel hF c6
        refine lv_iconst (v := 1) hx hb dX12_signToken_167 (by decide) ?_
        refine lv_goto (tgt := 192) hx hb dX12_signToken_168 (by decide) ?_
        exact jw_X12_signToken_192 C0 _ _ _ t_v0 hF _ _ hR hS _ (lv_sub hl [] rfl)
  · have hF := xif hF c3
    refine lv_iconst (v := 2) hx hb dX12_signToken_150 (by decide) ?_
    refine lv_goto (tgt := 192) hx hb dX12_signToken_151 (by decide) ?_
    exact jw_X12_signToken_192 C0 _ _ _ t_v0 hF _ _ hR hS _ (lv_sub hl [] rfl)
set_option maxHeartbeats 4000000 in
set_option maxRecDepth 100000 in
theorem jw_X12_signToken_116 {p : Program} {l : Launch} {e : Env} {s : State} {m : MethodId} {args : Array Value} {below : List Frame} {meth : Method} {c : Code} {D : xD} {ty : xTy} (C0 : xC D RX12 cX12_signToken 4 none p s m args meth c) {h9 : xH} : ∀ (v0 : Nat) (v2 : Int32) (s0 : Int32) (h : xH), ty v0 = some (0, 12) → jf_X12_signToken_116 ty v0 v2 s0 h = some h9 → ∀ (H : Heap) (locs : List Loc), xRep D ty h H → xS ty s.heap H locs → ∀ ls : Array Slot, lv_has ls 4 [(0, .ref v0), (2, .int v2)] → W p l e jr_X12_signToken s m args below meth c H locs 0 0 (MQ below (xQ D ty none h9) args s 0 0 (xdom ty)) (F0 m 116 ls [.int s0]) := by
  have hx := C0.1
  have hb := C0.2.1
  have hown := C0.2.2.2.2.2.1
  have hts := C0.2.2.2.2.2.2.1
  intro v0 v2 s0 h t_v0 hF H locs hR hS ls hl
  unfold jf_X12_signToken_116 at hF
  refine lv_istore_n (lv' := [(3, .int s0), (0, .ref v0), (2, .int v2)]) hx hb dX12_signToken_116 rfl hl (by decide) rfl (fun ls hl => ?_)
  refine lv_iload_n hx hb dX12_signToken_117 rfl (lv_at hl 2 rfl) ?_
  refine lv_if_ne (tgt := 125) hx hb dX12_signToken_118 (by decide) (fun c8 => ?_) (fun c8 => ?_)
  · have hF := xel hF c8
    refine lv_aload_n hx hb dX12_signToken_125 rfl (lv_at hl 1 rfl) ?_
    refine lv_dup hx hb dX12_signToken_126 rfl ?_
    refine gf_X12_116 C0 hR t_v0 dX12_signToken_127 ?_
    refine lv_iconst (v := 1) hx hb dX12_signToken_130 (by decide) ?_
    refine lv_iadd hx hb dX12_signToken_131 ?_
    obtain ⟨h9, e_h9, hF⟩ := xbd hF
    refine pf_X12_116 C0 hR hS t_v0 dX12_signToken_132 (fun H locs hR hS => ?_)
    rw [Option.some.inj e_h9] at hR
    exact jw_X12_signToken_135 C0 _ _ _ _ t_v0 hF _ _ hR hS _ (lv_sub hl [1, 2, 0] rfl)
  · have hF := xif hF c8
    refine lv_iload_n hx hb dX12_signToken_121 rfl (lv_at hl 0 rfl) ?_
    refine lv_if_eq (tgt := 135) hx hb dX12_signToken_122 (by decide) (fun c10 => ?_) (fun c10 => ?_)
    · have hF := xif hF c10
      exact jw_X12_signToken_135 C0 _ _ _ _ t_v0 hF _ _ hR hS _ (lv_sub hl [1, 2, 0] rfl)
    · have hF := xel hF c10
      refine lv_aload_n hx hb dX12_signToken_125 rfl (lv_at hl 1 rfl) ?_
      refine lv_dup hx hb dX12_signToken_126 rfl ?_
      refine gf_X12_116 C0 hR t_v0 dX12_signToken_127 ?_
      refine lv_iconst (v := 1) hx hb dX12_signToken_130 (by decide) ?_
      refine lv_iadd hx hb dX12_signToken_131 ?_
      obtain ⟨h11, e_h11, hF⟩ := xbd hF
      refine pf_X12_116 C0 hR hS t_v0 dX12_signToken_132 (fun H locs hR hS => ?_)
      rw [Option.some.inj e_h11] at hR
      exact jw_X12_signToken_135 C0 _ _ _ _ t_v0 hF _ _ hR hS _ (lv_sub hl [1, 2, 0] rfl)
set_option maxHeartbeats 4000000 in
set_option maxRecDepth 100000 in
theorem jw_X12_signToken_95 {p : Program} {l : Launch} {e : Env} {s : State} {m : MethodId} {args : Array Value} {below : List Frame} {meth : Method} {c : Code} {D : xD} {ty : xTy} (C0 : xC D RX12 cX12_signToken 4 none p s m args meth c) {h9 : xH} : ∀ (v0 : Nat) (v1 : Int32) (s0 : Int32) (h : xH), ty v0 = some (0, 12) → jf_X12_signToken_95 ty v0 v1 s0 h = some h9 → ∀ (H : Heap) (locs : List Loc), xRep D ty h H → xS ty s.heap H locs → ∀ ls : Array Slot, lv_has ls 4 [(0, .ref v0), (1, .int v1)] → W p l e jr_X12_signToken s m args below meth c H locs 0 0 (MQ below (xQ D ty none h9) args s 0 0 (xdom ty)) (F0 m 95 ls [.int s0]) := by
  have hx := C0.1
  have hb := C0.2.1
  have hown := C0.2.2.2.2.2.1
  have hts := C0.2.2.2.2.2.2.1
  intro v0 v1 s0 h t_v0 hF H locs hR hS ls hl
  unfold jf_X12_signToken_95 at hF
  refine lv_istore_n (lv' := [(2, .int s0), (0, .ref v0), (1, .int v1)]) hx hb dX12_signToken_95 rfl hl (by decide) rfl (fun ls hl => ?_)
  refine lv_aload_n hx hb dX12_signToken_96 rfl (lv_at hl 1 rfl) ?_
  refine gf_X12_130 C0 hR t_v0 dX12_signToken_97 ?_
  refine lv_bipush (v := 60) hx hb dX12_signToken_100 (by decide) ?_
  refine lv_icmp_ne (tgt := 115) hx hb dX12_signToken_102 (by decide) (fun c12 => ?_) (fun c12 => ?_)
  · have hF := xel hF c12
    refine lv_iconst (v := 0) hx hb dX12_signToken_115 (by decide) ?_
    exact jw_X12_signToken_116 C0 _ _ _ _ t_v0 hF _ _ hR hS _ (lv_sub hl [1, 0] rfl)
  · have hF := xif hF c12
    refine lv_iload_n hx hb dX12_signToken_105 rfl (lv_at hl 2 rfl) ?_
    refine lv_bipush (v := 62) hx hb dX12_signToken_106 (by decide) ?_
    refine lv_icmp_ne (tgt := 115) hx hb dX12_signToken_108 (by decide) (fun c13 => ?_) (fun c13 => ?_)
    · have hF := xel hF c13
      refine lv_iconst (v := 0) hx hb dX12_signToken_115 (by decide) ?_
      exact jw_X12_signToken_116 C0 _ _ _ _ t_v0 hF _ _ hR hS _ (lv_sub hl [1, 0] rfl)
    · have hF := xif hF c13
      refine lv_iconst (v := 1) hx hb dX12_signToken_111 (by decide) ?_
      refine lv_goto (tgt := 116) hx hb dX12_signToken_112 (by decide) ?_
      exact jw_X12_signToken_116 C0 _ _ _ _ t_v0 hF _ _ hR hS _ (lv_sub hl [1, 0] rfl)
set_option maxHeartbeats 4000000 in
set_option maxRecDepth 100000 in
theorem jw_X12_signToken_74 {p : Program} {l : Launch} {e : Env} {s : State} {m : MethodId} {args : Array Value} {below : List Frame} {meth : Method} {c : Code} {D : xD} {ty : xTy} (C0 : xC D RX12 cX12_signToken 4 none p s m args meth c) {h9 : xH} : ∀ (v0 : Nat) (s0 : Int32) (h : xH), ty v0 = some (0, 12) → jf_X12_signToken_74 ty v0 s0 h = some h9 → ∀ (H : Heap) (locs : List Loc), xRep D ty h H → xS ty s.heap H locs → ∀ ls : Array Slot, lv_has ls 4 [(0, .ref v0)] → W p l e jr_X12_signToken s m args below meth c H locs 0 0 (MQ below (xQ D ty none h9) args s 0 0 (xdom ty)) (F0 m 74 ls [.int s0]) := by
  have hx := C0.1
  have hb := C0.2.1
  have hown := C0.2.2.2.2.2.1
  have hts := C0.2.2.2.2.2.2.1
  intro v0 s0 h t_v0 hF H locs hR hS ls hl
  unfold jf_X12_signToken_74 at hF
  refine lv_istore_n (lv' := [(1, .int s0), (0, .ref v0)]) hx hb dX12_signToken_74 rfl hl (by decide) rfl (fun ls hl => ?_)
  refine lv_aload_n hx hb dX12_signToken_75 rfl (lv_at hl 1 rfl) ?_
  refine gf_X12_130 C0 hR t_v0 dX12_signToken_76 ?_
  refine lv_bipush (v := 61) hx hb dX12_signToken_79 (by decide) ?_
  refine lv_icmp_eq (tgt := 94) hx hb dX12_signToken_81 (by decide) (fun c14 => ?_) (fun c14 => ?_)
  · have hF := xif hF c14
    refine lv_iconst (v := 0) hx hb dX12_signToken_94 (by decide) ?_
    exact jw_X12_signToken_95 C0 _ _ _ _ t_v0 hF _ _ hR hS _ (lv_sub hl [1, 0] rfl)
  · have hF := xel hF c14
    refine lv_iload_n hx hb dX12_signToken_84 rfl (lv_at hl 0 rfl) ?_
    refine lv_bipush (v := 61) hx hb dX12_signToken_85 (by decide) ?_
    refine lv_icmp_ne (tgt := 94) hx hb dX12_signToken_87 (by decide) (fun c15 => ?_) (fun c15 => ?_)
    · have hF := xel hF c15
      refine lv_iconst (v := 0) hx hb dX12_signToken_94 (by decide) ?_
      exact jw_X12_signToken_95 C0 _ _ _ _ t_v0 hF _ _ hR hS _ (lv_sub hl [1, 0] rfl)
    · have hF := xif hF c15
      refine lv_iconst (v := 1) hx hb dX12_signToken_90 (by decide) ?_
      refine lv_goto (tgt := 95) hx hb dX12_signToken_91 (by decide) ?_
      exact jw_X12_signToken_95 C0 _ _ _ _ t_v0 hF _ _ hR hS _ (lv_sub hl [1, 0] rfl)
set_option maxHeartbeats 4000000 in
set_option maxRecDepth 100000 in
theorem jw_X12_signToken_50 {p : Program} {l : Launch} {e : Env} {s : State} {m : MethodId} {args : Array Value} {below : List Frame} {meth : Method} {c : Code} {D : xD} {ty : xTy} (C0 : xC D RX12 cX12_signToken 4 none p s m args meth c) {h9 : xH} : ∀ (v0 : Nat) (h : xH), ty v0 = some (0, 12) → jf_X12_signToken_50 ty v0 h = some h9 → ∀ (H : Heap) (locs : List Loc), xRep D ty h H → xS ty s.heap H locs → ∀ ls : Array Slot, lv_has ls 4 [(0, .ref v0)] → W p l e jr_X12_signToken s m args below meth c H locs 0 0 (MQ below (xQ D ty none h9) args s 0 0 (xdom ty)) (F0 m 50 ls []) := by
  have hx := C0.1
  have hb := C0.2.1
  have hown := C0.2.2.2.2.2.1
  have hts := C0.2.2.2.2.2.2.1
  intro v0 h t_v0 hF H locs hR hS ls hl
  unfold jf_X12_signToken_50 at hF
  refine lv_aload_n hx hb dX12_signToken_50 rfl (lv_at hl 0 rfl) ?_
  refine gf_X12_116 C0 hR t_v0 dX12_signToken_51 ?_
  refine lv_aload_n hx hb dX12_signToken_54 rfl (lv_at hl 0 rfl) ?_
  refine gf_X12_113 C0 hR t_v0 dX12_signToken_55 ?_
  refine lv_icmp_ge (tgt := 73) hx hb dX12_signToken_58 (by decide) (fun c16 => ?_) (fun c16 => ?_)
  · have hF := xif hF c16
    refine lv_iconst (v := 0) hx hb dX12_signToken_73 (by decide) ?_
    exact jw_X12_signToken_74 C0 _ _ _ t_v0 hF _ _ hR hS _ (lv_sub hl [0] rfl)
  · have hF := xel hF c16
    refine lv_aload_n hx hb dX12_signToken_61 rfl (lv_at hl 0 rfl) ?_
    obtain ⟨a17, e_a17, hF⟩ := xbd hF
    refine gf_X12_7 C0 hR t_v0 e_a17 dX12_signToken_62 ?_
    refine lv_aload_n hx hb dX12_signToken_65 rfl (lv_at hl 0 rfl) ?_
    refine gf_X12_116 C0 hR t_v0 dX12_signToken_66 ?_
    obtain ⟨a18, e_a18, hF⟩ := xbd hF
    refine x_iald C0 hR e_a18 dX12_signToken_69 ?_
    refine lv_goto (tgt := 74) hx hb dX12_signToken_70 (by decide) ?_
    exact jw_X12_signToken_74 C0 _ _ _ t_v0 hF _ _ hR hS _ (lv_sub hl [0] rfl)
set_option maxHeartbeats 4000000 in
set_option maxRecDepth 100000 in
theorem jw_X12_signToken_270 {p : Program} {l : Launch} {e : Env} {s : State} {m : MethodId} {args : Array Value} {below : List Frame} {meth : Method} {c : Code} {D : xD} {ty : xTy} (C0 : xC D RX12 cX12_signToken 4 none p s m args meth c) {h9 : xH} : ∀ (v0 : Nat) (h : xH), ty v0 = some (0, 12) → jf_X12_signToken_270 ty v0 h = some h9 → ∀ (H : Heap) (locs : List Loc), xRep D ty h H → xS ty s.heap H locs → ∀ ls : Array Slot, lv_has ls 4 [(0, .ref v0)] → W p l e jr_X12_signToken s m args below meth c H locs 0 0 (MQ below (xQ D ty none h9) args s 0 0 (xdom ty)) (F0 m 270 ls []) := by
  have hx := C0.1
  have hb := C0.2.1
  have hown := C0.2.2.2.2.2.1
  have hts := C0.2.2.2.2.2.2.1
  intro v0 h t_v0 hF H locs hR hS ls hl
  unfold jf_X12_signToken_270 at hF
  refine lv_iconst (v := 1) hx hb dX12_signToken_270 (by decide) ?_
  refine lv_goto (tgt := 275) hx hb dX12_signToken_271 (by decide) ?_
  refine lv_istore_n (lv' := [(1, .int 1), (0, .ref v0)]) hx hb dX12_signToken_275 rfl hl (by decide) rfl (fun ls hl => ?_)
  refine lv_aload_n hx hb dX12_signToken_276 rfl (lv_at hl 1 rfl) ?_
  refine lv_iload_n hx hb dX12_signToken_277 rfl (lv_at hl 0 rfl) ?_
  refine lv_if_eq (tgt := 285) hx hb dX12_signToken_278 (by decide) (fun c19 => ?_) (fun c19 => ?_)
  · have hF := xif hF c19
    refine lv_bipush (v := 6) hx hb dX12_signToken_285 (by decide) ?_
    obtain ⟨h20, e_h20, hF⟩ := xbd hF
    refine pf_X12_119 C0 hR hS t_v0 dX12_signToken_287 (fun H locs hR hS => ?_)
    rw [Option.some.inj e_h20] at hR
    cases hF
    exact x_vret C0 hR hS dX12_signToken_290
  · have hF := xel hF c19
    refine lv_iconst (v := 4) hx hb dX12_signToken_281 (by decide) ?_
    refine lv_goto (tgt := 287) hx hb dX12_signToken_282 (by decide) ?_
    obtain ⟨h21, e_h21, hF⟩ := xbd hF
    refine pf_X12_119 C0 hR hS t_v0 dX12_signToken_287 (fun H locs hR hS => ?_)
    rw [Option.some.inj e_h21] at hR
    cases hF
    exact x_vret C0 hR hS dX12_signToken_290
set_option maxHeartbeats 4000000 in
set_option maxRecDepth 100000 in
theorem jc_X12_signToken {l : Launch} {D : xD} {ty : xTy} {h : xH} {v0 : Nat} {h9 : xH} (t_v0 : ty v0 = some (0, 12)) (hF : jf_X12_signToken ty h v0 = some h9) : Met l yX12_signToken (xws yX12_signToken cX12_signToken 4 none) jr_X12_signToken (xPc D ty h [.ref v0]) (xQ D ty none h9) 0 0 (xdom ty) := by
  refine x_met (by decide) ?_
  intro p e s m below meth c C0 hR
  generalize hargs : ([.ref v0] : List Value).toArray = args at C0 ⊢
  have hx := C0.1
  have hb := C0.2.1
  have hown := C0.2.2.2.2.2.1
  have hts := C0.2.2.2.2.2.2.1
  have hS : xS ty s.heap s.heap [] := xS.rf
  have hl := lv_entry ([.ref v0]) (n := 4) (Nat.le_of_ble_eq_true rfl)
  rw [← hargs, lg_entry_eq]
  rw [hargs]
  generalize (lg_sl ([.ref v0]) ++ List.replicate (4 - (lg_sl ([.ref v0])).length) Slot.unset).toArray = ls at hl ⊢
  have hl : lv_has ls 4 [(0, .ref v0)] := hl
  unfold jf_X12_signToken at hF
  refine lv_aload_n hx hb dX12_signToken_0 rfl (lv_at hl 0 rfl) ?_
  refine lv_aload_n hx hb dX12_signToken_1 rfl (lv_at hl 0 rfl) ?_
  obtain ⟨a22, e_a22, hF⟩ := xbd hF
  refine gf_X12_7 C0 hR t_v0 e_a22 dX12_signToken_2 ?_
  refine lv_aload_n hx hb dX12_signToken_5 rfl (lv_at hl 0 rfl) ?_
  refine gf_X12_116 C0 hR t_v0 dX12_signToken_6 ?_
  obtain ⟨a23, e_a23, hF⟩ := xbd hF
  refine x_iald C0 hR e_a23 dX12_signToken_9 ?_
  obtain ⟨h24, e_h24, hF⟩ := xbd hF
  refine pf_X12_130 C0 hR hS t_v0 dX12_signToken_10 (fun H locs hR hS => ?_)
  rw [Option.some.inj e_h24] at hR
  refine lv_aload_n hx hb dX12_signToken_13 rfl (lv_at hl 0 rfl) ?_
  refine lv_dup hx hb dX12_signToken_14 rfl ?_
  refine gf_X12_116 C0 hR t_v0 dX12_signToken_15 ?_
  refine lv_iconst (v := 1) hx hb dX12_signToken_18 (by decide) ?_
  refine lv_iadd hx hb dX12_signToken_19 ?_
  obtain ⟨h25, e_h25, hF⟩ := xbd hF
  refine pf_X12_116 C0 hR hS t_v0 dX12_signToken_20 (fun H locs hR hS => ?_)
  rw [Option.some.inj e_h25] at hR
  refine lv_aload_n hx hb dX12_signToken_23 rfl (lv_at hl 0 rfl) ?_
  refine gf_X12_130 C0 hR t_v0 dX12_signToken_24 ?_
  refine lv_bipush (v := 60) hx hb dX12_signToken_27 (by decide) ?_
  refine lv_icmp_eq (tgt := 50) hx hb dX12_signToken_29 (by decide) (fun c26 => ?_) (fun c26 => ?_)
  · have hF := xif hF c26
    exact jw_X12_signToken_50 C0 _ _ t_v0 hF _ _ hR hS _ (lv_sub hl [0] rfl)
  · have hF := xel hF c26
    refine lv_aload_n hx hb dX12_signToken_32 rfl (lv_at hl 0 rfl) ?_
    refine gf_X12_130 C0 hR t_v0 dX12_signToken_33 ?_
    refine lv_bipush (v := 62) hx hb dX12_signToken_36 (by decide) ?_
    refine lv_icmp_eq (tgt := 50) hx hb dX12_signToken_38 (by decide) (fun c27 => ?_) (fun c27 => ?_)
    · have hF := xif hF c27
      exact jw_X12_signToken_50 C0 _ _ t_v0 hF _ _ hR hS _ (lv_sub hl [0] rfl)
    · have hF := xel hF c27
      refine lv_aload_n hx hb dX12_signToken_41 rfl (lv_at hl 0 rfl) ?_
      refine gf_X12_130 C0 hR t_v0 dX12_signToken_42 ?_
      refine lv_bipush (v := 61) hx hb dX12_signToken_45 (by decide) ?_
      refine lv_icmp_ne (tgt := 198) hx hb dX12_signToken_47 (by decide) (fun c28 => ?_) (fun c28 => ?_)
      · have hF := xel hF c28
        refine lv_aload_n hx hb dX12_signToken_198 rfl (lv_at hl 0 rfl) ?_
        refine gf_X12_130 C0 hR t_v0 dX12_signToken_199 ?_
        refine lv_bipush (v := 59) hx hb dX12_signToken_202 (by decide) ?_
        refine lv_icmp_eq (tgt := 270) hx hb dX12_signToken_204 (by decide) (fun c29 => ?_) (fun c29 => ?_)
        · have hF := xif hF c29
          exact jw_X12_signToken_270 C0 _ _ t_v0 hF _ _ hR hS _ (lv_sub hl [0] rfl)
        · have hF := xel hF c29
          refine lv_aload_n hx hb dX12_signToken_207 rfl (lv_at hl 0 rfl) ?_
          refine gf_X12_130 C0 hR t_v0 dX12_signToken_208 ?_
          refine lv_bipush (v := 40) hx hb dX12_signToken_211 (by decide) ?_
          refine lv_icmp_eq (tgt := 270) hx hb dX12_signToken_213 (by decide) (fun c30 => ?_) (fun c30 => ?_)
          · have hF := xif hF c30
            exact jw_X12_signToken_270 C0 _ _ t_v0 hF _ _ hR hS _ (lv_sub hl [0] rfl)
          · have hF := xel hF c30
            refine lv_aload_n hx hb dX12_signToken_216 rfl (lv_at hl 0 rfl) ?_
            refine gf_X12_130 C0 hR t_v0 dX12_signToken_217 ?_
            refine lv_bipush (v := 41) hx hb dX12_signToken_220 (by decide) ?_
            refine lv_icmp_eq (tgt := 270) hx hb dX12_signToken_222 (by decide) (fun c31 => ?_) (fun c31 => ?_)
            · have hF := xif hF c31
              exact jw_X12_signToken_270 C0 _ _ t_v0 hF _ _ hR hS _ (lv_sub hl [0] rfl)
            · have hF := xel hF c31
              refine lv_aload_n hx hb dX12_signToken_225 rfl (lv_at hl 0 rfl) ?_
              refine gf_X12_130 C0 hR t_v0 dX12_signToken_226 ?_
              refine lv_bipush (v := 43) hx hb dX12_signToken_229 (by decide) ?_
              refine lv_icmp_eq (tgt := 270) hx hb dX12_signToken_231 (by decide) (fun c32 => ?_) (fun c32 => ?_)
              · have hF := xif hF c32
                exact jw_X12_signToken_270 C0 _ _ t_v0 hF _ _ hR hS _ (lv_sub hl [0] rfl)
              · have hF := xel hF c32
                refine lv_aload_n hx hb dX12_signToken_234 rfl (lv_at hl 0 rfl) ?_
                refine gf_X12_130 C0 hR t_v0 dX12_signToken_235 ?_
                refine lv_bipush (v := 45) hx hb dX12_signToken_238 (by decide) ?_
                refine lv_icmp_eq (tgt := 270) hx hb dX12_signToken_240 (by decide) (fun c33 => ?_) (fun c33 => ?_)
                · have hF := xif hF c33
                  exact jw_X12_signToken_270 C0 _ _ t_v0 hF _ _ hR hS _ (lv_sub hl [0] rfl)
                · have hF := xel hF c33
                  refine lv_aload_n hx hb dX12_signToken_243 rfl (lv_at hl 0 rfl) ?_
                  refine gf_X12_130 C0 hR t_v0 dX12_signToken_244 ?_
                  refine lv_bipush (v := 42) hx hb dX12_signToken_247 (by decide) ?_
                  refine lv_icmp_eq (tgt := 270) hx hb dX12_signToken_249 (by decide) (fun c34 => ?_) (fun c34 => ?_)
                  · have hF := xif hF c34
                    exact jw_X12_signToken_270 C0 _ _ t_v0 hF _ _ hR hS _ (lv_sub hl [0] rfl)
                  · have hF := xel hF c34
                    refine lv_aload_n hx hb dX12_signToken_252 rfl (lv_at hl 0 rfl) ?_
                    refine gf_X12_130 C0 hR t_v0 dX12_signToken_253 ?_
                    refine lv_bipush (v := 47) hx hb dX12_signToken_256 (by decide) ?_
                    refine lv_icmp_eq (tgt := 270) hx hb dX12_signToken_258 (by decide) (fun c35 => ?_) (fun c35 => ?_)
                    · have hF := xif hF c35
                      exact jw_X12_signToken_270 C0 _ _ t_v0 hF _ _ hR hS _ (lv_sub hl [0] rfl)
                    · have hF := xel hF c35
                      refine lv_aload_n hx hb dX12_signToken_261 rfl (lv_at hl 0 rfl) ?_
                      refine gf_X12_130 C0 hR t_v0 dX12_signToken_262 ?_
                      refine lv_bipush (v := 44) hx hb dX12_signToken_265 (by decide) ?_
                      refine lv_icmp_ne (tgt := 274) hx hb dX12_signToken_267 (by decide) (fun c36 => ?_) (fun c36 => ?_)
                      · have hF := xel hF c36
                        refine lv_iconst (v := 0) hx hb dX12_signToken_274 (by decide) ?_
                        refine lv_istore_n (lv' := [(1, .int 0), (0, .ref v0)]) hx hb dX12_signToken_275 rfl hl (by decide) rfl (fun ls hl => ?_)
                        refine lv_aload_n hx hb dX12_signToken_276 rfl (lv_at hl 1 rfl) ?_
                        refine lv_iload_n hx hb dX12_signToken_277 rfl (lv_at hl 0 rfl) ?_
                        refine lv_if_eq (tgt := 285) hx hb dX12_signToken_278 (by decide) (fun c37 => ?_) (fun c37 => ?_)
                        · have hF := xif hF c37
                          refine lv_bipush (v := 6) hx hb dX12_signToken_285 (by decide) ?_
                          obtain ⟨h38, e_h38, hF⟩ := xbd hF
                          refine pf_X12_119 C0 hR hS t_v0 dX12_signToken_287 (fun H locs hR hS => ?_)
                          rw [Option.some.inj e_h38] at hR
                          cases hF
                          exact x_vret C0 hR hS dX12_signToken_290
                        · have hF := xel hF c37
                          refine lv_iconst (v := 4) hx hb dX12_signToken_281 (by decide) ?_
                          refine lv_goto (tgt := 287) hx hb dX12_signToken_282 (by decide) ?_
                          obtain ⟨h39, e_h39, hF⟩ := xbd hF
                          refine pf_X12_119 C0 hR hS t_v0 dX12_signToken_287 (fun H locs hR hS => ?_)
                          rw [Option.some.inj e_h39] at hR
                          cases hF
                          exact x_vret C0 hR hS dX12_signToken_290
                      · have hF := xif hF c36
                        exact jw_X12_signToken_270 C0 _ _ t_v0 hF _ _ hR hS _ (lv_sub hl [0] rfl)
      · have hF := xif hF c28
        exact jw_X12_signToken_50 C0 _ _ t_v0 hF _ _ hR hS _ (lv_sub hl [0] rfl)
theorem xm_X12_signToken : xMw yX12_signToken cX12_signToken 4 none 0 := ⟨xin 1533 (by decide +kernel) rfl, xin 126 (by decide +kernel) rfl, by decide +kernel⟩
theorem xi_X12_signToken : Cond.instanceMethod yX12_signToken ∈ xT := xin 1532 (by decide +kernel) rfl
theorem xe_X12_signToken : Cond.selects yX12_signToken.cls yX12_signToken yX12_signToken ∈ xT := xin 60 (by decide +kernel) rfl

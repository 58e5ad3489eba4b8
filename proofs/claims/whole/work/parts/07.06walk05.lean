theorem dX11_finding_0 : decode cX11_finding 0 = .ok (.iload_n 1, 1) := by decide +kernel
theorem dX11_finding_1 : decode cX11_finding 1 = .ok (.invokestatic 191, 3) := by decide +kernel
theorem dX11_finding_4 : decode cX11_finding 4 = .ok (.ifCond .eq 22, 3) := by decide +kernel
theorem dX11_finding_7 : decode cX11_finding 7 = .ok (.iload_n 2, 1) := by decide +kernel
theorem dX11_finding_8 : decode cX11_finding 8 = .ok (.ifCond .lt 18, 3) := by decide +kernel
theorem dX11_finding_11 : decode cX11_finding 11 = .ok (.iload_n 2, 1) := by decide +kernel
theorem dX11_finding_12 : decode cX11_finding 12 = .ok (.iconst 2, 1) := by decide +kernel
theorem dX11_finding_13 : decode cX11_finding 13 = .ok (.if_icmp .gt 13, 3) := by decide +kernel
theorem dX11_finding_16 : decode cX11_finding 16 = .ok (.aload_n 0, 1) := by decide +kernel
theorem dX11_finding_17 : decode cX11_finding 17 = .ok (.getfield 32, 3) := by decide +kernel
theorem dX11_finding_20 : decode cX11_finding 20 = .ok (.getfield 128, 3) := by decide +kernel
theorem dX11_finding_23 : decode cX11_finding 23 = .ok (.ifCond .ne 5, 3) := by decide +kernel
theorem dX11_finding_26 : decode cX11_finding 26 = .ok (.iconst (-1), 1) := by decide +kernel
theorem dX11_finding_27 : decode cX11_finding 27 = .ok (.ireturn, 1) := by decide +kernel
theorem dX11_finding_28 : decode cX11_finding 28 = .ok (.iload_n 2, 1) := by decide +kernel
theorem dX11_finding_29 : decode cX11_finding 29 = .ok (.ifCond .ne 23, 3) := by decide +kernel
theorem dX11_finding_32 : decode cX11_finding 32 = .ok (.aload_n 0, 1) := by decide +kernel
theorem dX11_finding_33 : decode cX11_finding 33 = .ok (.iload_n 1, 1) := by decide +kernel
theorem dX11_finding_34 : decode cX11_finding 34 = .ok (.aload_n 0, 1) := by decide +kernel
theorem dX11_finding_35 : decode cX11_finding 35 = .ok (.getfield 32, 3) := by decide +kernel
theorem dX11_finding_38 : decode cX11_finding 38 = .ok (.aload_n 0, 1) := by decide +kernel
theorem dX11_finding_39 : decode cX11_finding 39 = .ok (.getfield 55, 3) := by decide +kernel
theorem dX11_finding_42 : decode cX11_finding 42 = .ok (.getfield 198, 3) := by decide +kernel
theorem dX11_finding_45 : decode cX11_finding 45 = .ok (.invokevirtual 201, 3) := by decide +kernel
theorem dX11_finding_48 : decode cX11_finding 48 = .ok (.invokestatic 205, 3) := by decide +kernel
theorem dX11_finding_51 : decode cX11_finding 51 = .ok (.ireturn, 1) := by decide +kernel
theorem dX11_finding_52 : decode cX11_finding 52 = .ok (.aload_n 0, 1) := by decide +kernel
theorem dX11_finding_53 : decode cX11_finding 53 = .ok (.getfield 62, 3) := by decide +kernel
theorem dX11_finding_56 : decode cX11_finding 56 = .ok (.iload_n 1, 1) := by decide +kernel
theorem dX11_finding_57 : decode cX11_finding 57 = .ok (.aload_n 0, 1) := by decide +kernel
theorem dX11_finding_58 : decode cX11_finding 58 = .ok (.getfield 32, 3) := by decide +kernel
theorem dX11_finding_61 : decode cX11_finding 61 = .ok (.invokevirtual 210, 3) := by decide +kernel
theorem dX11_finding_64 : decode cX11_finding 64 = .ok (.iload_n 2, 1) := by decide +kernel
theorem dX11_finding_65 : decode cX11_finding 65 = .ok (.iconst 1, 1) := by decide +kernel
theorem dX11_finding_66 : decode cX11_finding 66 = .ok (.if_icmp .ne 13, 3) := by decide +kernel
theorem dX11_finding_69 : decode cX11_finding 69 = .ok (.aload_n 0, 1) := by decide +kernel
theorem dX11_finding_70 : decode cX11_finding 70 = .ok (.getfield 62, 3) := by decide +kernel
theorem dX11_finding_73 : decode cX11_finding 73 = .ok (.getfield 214, 3) := by decide +kernel
theorem dX11_finding_76 : decode cX11_finding 76 = .ok (.goto 10, 3) := by decide +kernel
theorem dX11_finding_79 : decode cX11_finding 79 = .ok (.aload_n 0, 1) := by decide +kernel
theorem dX11_finding_80 : decode cX11_finding 80 = .ok (.getfield 62, 3) := by decide +kernel
theorem dX11_finding_83 : decode cX11_finding 83 = .ok (.getfield 217, 3) := by decide +kernel
theorem dX11_finding_86 : decode cX11_finding 86 = .ok (.ireturn, 1) := by decide +kernel
theorem wl_X11_201 : Cond.methodLink RX11 201 yX11_fitBits ∈ xT := xin 878 (by decide +kernel) rfl
theorem wl_X11_205 : Cond.methodLink RX11 205 yJ6_bitCount_0f7a4 ∈ xT := xin 883 (by decide +kernel) rfl
theorem wl_X11_210 : Cond.methodLink RX11 210 yX9_walk ∈ xT := xin 889 (by decide +kernel) rfl
theorem wf_X11_198 : Cond.fieldLink RX11 198 "TermShelf$Standing" "bits" "I" ∈ xT := xin 288 (by decide +kernel) rfl
theorem wf_X11_214 : Cond.fieldLink RX11 214 "TermShelf$Tree" "candidates" "I" ∈ xT := xin 315 (by decide +kernel) rfl
theorem wf_X11_217 : Cond.fieldLink RX11 217 "TermShelf$Tree" "visited" "I" ∈ xT := xin 317 (by decide +kernel) rfl
section XN_X11_finding
variable {p : Program} {l : Launch} {e : Env} {R : Room} {s : State} {m : MethodId} {args : Array Value} {below : List Frame} {meth : Method} {c : Code} {H H0 : Heap} {locs : List Loc} {cells slots : Nat} {Q : State → Prop} {cc : ByteArray} {nL pc : Nat} {rt : Option FieldType} {ls : Array Slot} {rest : List Value} {D : xD} {ty : xTy} {h : xH}
theorem cl_X11_201 {v0 : Nat} {v1 : Int32} {v2 : Nat} {v3 : Int32} {r : Int32} {h9 : xH} (C0 : xC D RX11 cc nL rt p s m args meth c) (hR : xRep D ty h H) (hS : xS ty H0 H locs) (hF : jf_X11_fitBits ty h v0 v1 v2 v3 = some (r, h9)) (t_v0 : ty v0 = some (0, 11)) (t_v2 : ty v2 = some (0, 7)) (hrm : jr_X11_fitBits.frames + 1 ≤ R.frames ∧ 8 + (6 + 11) + jr_X11_fitBits.locals ≤ R.locals) (hsz : ls.size = nL) (hW : (rest.map fun v => v.category).sum ≤ 8) (hf : cells ≤ R.cells ∧ slots ≤ R.slots) (hdg : decode cc pc = .ok (.invokevirtual 201, 3)) (kk : ∀ (H1 : Heap) (locs1 : List Loc), xRep D ty h9 H1 → xS ty H0 H1 locs1 → W p l e R s m args below meth c H1 locs1 cells slots Q (F0 m (pc + 3) ls (.int r :: rest))) : W p l e R s m args below meth c H locs cells slots Q (F0 m pc ls (.int v3 :: .ref v2 :: .int v1 :: .ref v0 :: rest)) := x_callV C0 (jc_X11_fitBits t_v0 t_v2 hF) xm_X11_fitBits xi_X11_fitBits xe_X11_fitBits wl_X11_201 ⟨rfl, rfl, hrm⟩ (ci := 11) rfl t_v0 hR hS (As := [.int v1, .ref v2, .int v3]) rfl hsz rfl hW hdg hf kk
theorem cl_X11_205 {v0 : Int32} {r : Int32} (C0 : xC D RX11 cc nL rt p s m args meth c) (hR : xRep D ty h H) (hS : xS ty H0 H locs) (hF : jf_J6_bitCount_0f7a4 v0 = some r) (hrm : jr_J6_bitCount_0f7a4.frames + 1 ≤ R.frames ∧ 8 + (1 + 11) + jr_J6_bitCount_0f7a4.locals ≤ R.locals) (hsz : ls.size = nL) (hW : (rest.map fun v => v.category).sum ≤ 8) (hf : cells ≤ R.cells ∧ slots ≤ R.slots) (hdg : decode cc pc = .ok (.invokestatic 205, 3)) (kk : ∀ (H1 : Heap) (locs1 : List Loc), xRep D ty h H1 → xS ty H0 H1 locs1 → W p l e R s m args below meth c H1 locs1 cells slots Q (F0 m (pc + 3) ls (.int r :: rest))) : W p l e R s m args below meth c H locs cells slots Q (F0 m pc ls (.int v0 :: rest)) := x_callS C0 (jc_J6_bitCount_0f7a4  hF) xm_J6_bitCount_0f7a4 xs_J6_bitCount_0f7a4 wl_X11_205 ⟨rfl, rfl, hrm⟩ hR hS (As := [.int v0]) rfl hsz rfl hW hdg hf kk
theorem cl_X11_210 {v0 : Nat} {v1 : Int32} {v2 : Nat} {h9 : xH} (C0 : xC D RX11 cc nL rt p s m args meth c) (hR : xRep D ty h H) (hS : xS ty H0 H locs) (hF : jf_X9_walk ty h v0 v1 v2 = some h9) (t_v0 : ty v0 = some (0, 9)) (t_v2 : ty v2 = some (0, 7)) (hrm : jr_X9_walk.frames + 1 ≤ R.frames ∧ 8 + (4 + 11) + jr_X9_walk.locals ≤ R.locals) (hsz : ls.size = nL) (hW : (rest.map fun v => v.category).sum ≤ 8) (hf : cells ≤ R.cells ∧ slots ≤ R.slots) (hdg : decode cc pc = .ok (.invokevirtual 210, 3)) (kk : ∀ (H1 : Heap) (locs1 : List Loc), xRep D ty h9 H1 → xS ty H0 H1 locs1 → W p l e R s m args below meth c H1 locs1 cells slots Q (F0 m (pc + 3) ls rest)) : W p l e R s m args below meth c H locs cells slots Q (F0 m pc ls (.ref v2 :: .int v1 :: .ref v0 :: rest)) := x_callV C0 (jc_X9_walk t_v0 t_v2 hF) xm_X9_walk xi_X9_walk xe_X9_walk wl_X11_210 ⟨rfl, rfl, hrm⟩ (ci := 9) rfl t_v0 hR hS (As := [.int v1, .ref v2]) rfl hsz rfl hW hdg hf kk
theorem gf_X11_198 {a : Nat} (C0 : xC D RX11 cc nL rt p s m args meth c) (hR : xRep D ty h H) (ht : ty a = some (0, 6)) (hdg : decode cc pc = .ok (.getfield 198, 3)) (kk : W p l e R s m args below meth c H locs cells slots Q (F0 m (pc + 3) ls (.int (xI h a 4) :: rest))) : W p l e R s m args below meth c H locs cells slots Q (F0 m pc ls (.ref a :: rest)) := x_get C0 hR (ci := 6) (k := 4) (N := 5) (T := TX6) rfl iX6 (by decide) rfl wf_X11_198 rfl ht hdg kk
theorem gf_X11_214 {a : Nat} (C0 : xC D RX11 cc nL rt p s m args meth c) (hR : xRep D ty h H) (ht : ty a = some (0, 9)) (hdg : decode cc pc = .ok (.getfield 214, 3)) (kk : W p l e R s m args below meth c H locs cells slots Q (F0 m (pc + 3) ls (.int (xI h a 5) :: rest))) : W p l e R s m args below meth c H locs cells slots Q (F0 m pc ls (.ref a :: rest)) := x_get C0 hR (ci := 9) (k := 5) (N := 7) (T := TX9) rfl iX9 (by decide) rfl wf_X11_214 rfl ht hdg kk
theorem gf_X11_217 {a : Nat} (C0 : xC D RX11 cc nL rt p s m args meth c) (hR : xRep D ty h H) (ht : ty a = some (0, 9)) (hdg : decode cc pc = .ok (.getfield 217, 3)) (kk : W p l e R s m args below meth c H locs cells slots Q (F0 m (pc + 3) ls (.int (xI h a 6) :: rest))) : W p l e R s m args below meth c H locs cells slots Q (F0 m pc ls (.ref a :: rest)) := x_get C0 hR (ci := 9) (k := 6) (N := 7) (T := TX9) rfl iX9 (by decide) rfl wf_X11_217 rfl ht hdg kk
end XN_X11_finding
set_option maxHeartbeats 4000000 in
set_option maxRecDepth 100000 in
theorem jc_X11_finding {l : Launch} {D : xD} {ty : xTy} {h : xH} {v0 : Nat} {v1 : Int32} {v2 : Int32} {r : Int32} {h9 : xH} (t_v0 : ty v0 = some (0, 11)) (hF : jf_X11_finding ty h v0 v1 v2 = some (r, h9)) : Met l yX11_finding (xws yX11_finding cX11_finding 3 (some .int)) jr_X11_finding (xPc D ty h [.ref v0, .int v1, .int v2]) (xQ D ty (some (.int r)) h9) 0 0 (xdom ty) := by
  refine x_met (by decide) ?_
  intro p e s m below meth c C0 hR
  generalize hargs : ([.ref v0, .int v1, .int v2] : List Value).toArray = args at C0 ⊢
  have hx := C0.1
  have hb := C0.2.1
  have hown := C0.2.2.2.2.2.1
  have hts := C0.2.2.2.2.2.2.1
  have hS : xS ty s.heap s.heap [] := xS.rf
  have hl := lv_entry ([.ref v0, .int v1, .int v2]) (n := 3) (Nat.le_of_ble_eq_true rfl)
  rw [← hargs, lg_entry_eq]
  rw [hargs]
  generalize (lg_sl ([.ref v0, .int v1, .int v2]) ++ List.replicate (3 - (lg_sl ([.ref v0, .int v1, .int v2])).length) Slot.unset).toArray = ls at hl ⊢
  have hl : lv_has ls 3 [(0, .ref v0), (1, .int v1), (2, .int v2)] := hl
  unfold jf_X11_finding at hF
  refine lv_iload_n hx hb dX11_finding_0 rfl (lv_at hl 1 rfl) ?_
  obtain ⟨a1, e_a1, hF⟩ := xbd hF
  refine cl_X11_191 C0 hR hS e_a1  ⟨(Nat.le_of_ble_eq_true rfl), (Nat.le_of_ble_eq_true rfl)⟩ hl.1 (Nat.le_of_ble_eq_true rfl) ⟨(Nat.le_of_ble_eq_true rfl), (Nat.le_of_ble_eq_true rfl)⟩ dX11_finding_1 (fun H locs hR hS => ?_)
  refine lv_if_eq (tgt := 26) hx hb dX11_finding_4 (by decide) (fun c2 => ?_) (fun c2 => ?_)
  · have hF := xif hF c2
    refine lv_iconst (v := (-1)) hx hb dX11_finding_26 (by decide) ?_
    cases hF
    exact x_iret C0 hR hS dX11_finding_27
  · have hF := xel hF c2
    refine lv_iload_n hx hb dX11_finding_7 rfl (lv_at hl 2 rfl) ?_
    refine lv_if_lt (tgt := 26) hx hb dX11_finding_8 (by decide) (fun c3 => ?_) (fun c3 => ?_)
    · have hF := xif hF c3
      refine lv_iconst (v := (-1)) hx hb dX11_finding_26 (by decide) ?_
      cases hF
      exact x_iret C0 hR hS dX11_finding_27
    · have hF := xel hF c3
      refine lv_iload_n hx hb dX11_finding_11 rfl (lv_at hl 2 rfl) ?_
      refine lv_iconst (v := 2) hx hb dX11_finding_12 (by decide) ?_
      refine lv_icmp_gt (tgt := 26) hx hb dX11_finding_13 (by decide) (fun c4 => ?_) (fun c4 => ?_)
      · have hF := xif hF c4
        refine lv_iconst (v := (-1)) hx hb dX11_finding_26 (by decide) ?_
        cases hF
        exact x_iret C0 hR hS dX11_finding_27
      · have hF := xel hF c4
        refine lv_aload_n hx hb dX11_finding_16 rfl (lv_at hl 0 rfl) ?_
        obtain ⟨a5, e_a5, hF⟩ := xbd hF
        obtain ⟨e_a5, t_a5⟩ := xgo_sp e_a5
        refine gf_X11_32 C0 hR t_v0 e_a5 dX11_finding_17 ?_
        refine gf_X11_128 C0 hR t_a5 dX11_finding_20 ?_
        refine lv_if_ne (tgt := 28) hx hb dX11_finding_23 (by decide) (fun c6 => ?_) (fun c6 => ?_)
        · have hF := xel hF c6
          refine lv_iload_n hx hb dX11_finding_28 rfl (lv_at hl 2 rfl) ?_
          refine lv_if_ne (tgt := 52) hx hb dX11_finding_29 (by decide) (fun c7 => ?_) (fun c7 => ?_)
          · have hF := xel hF c7
            refine lv_aload_n hx hb dX11_finding_52 rfl (lv_at hl 0 rfl) ?_
            obtain ⟨a8, e_a8, hF⟩ := xbd hF
            obtain ⟨e_a8, t_a8⟩ := xgo_sp e_a8
            refine gf_X11_62 C0 hR t_v0 e_a8 dX11_finding_53 ?_
            refine lv_iload_n hx hb dX11_finding_56 rfl (lv_at hl 1 rfl) ?_
            refine lv_aload_n hx hb dX11_finding_57 rfl (lv_at hl 0 rfl) ?_
            obtain ⟨a9, e_a9, hF⟩ := xbd hF
            obtain ⟨e_a9, t_a9⟩ := xgo_sp e_a9
            refine gf_X11_32 C0 hR t_v0 e_a9 dX11_finding_58 ?_
            obtain ⟨h10, e_h10, hF⟩ := xbd hF
            refine cl_X11_210 C0 hR hS e_h10 t_a8 t_a9 ⟨(Nat.le_of_ble_eq_true rfl), (Nat.le_of_ble_eq_true rfl)⟩ hl.1 (Nat.le_of_ble_eq_true rfl) ⟨(Nat.le_of_ble_eq_true rfl), (Nat.le_of_ble_eq_true rfl)⟩ dX11_finding_61 (fun H locs hR hS => ?_)
            refine lv_iload_n hx hb dX11_finding_64 rfl (lv_at hl 2 rfl) ?_
            refine lv_iconst (v := 1) hx hb dX11_finding_65 (by decide) ?_
            refine lv_icmp_ne (tgt := 79) hx hb dX11_finding_66 (by decide) (fun c11 => ?_) (fun c11 => ?_)
            · have hF := xel hF c11
              refine lv_aload_n hx hb dX11_finding_79 rfl (lv_at hl 0 rfl) ?_
              obtain ⟨a12, e_a12, hF⟩ := xbd hF
              obtain ⟨e_a12, t_a12⟩ := xgo_sp e_a12
              refine gf_X11_62 C0 hR t_v0 e_a12 dX11_finding_80 ?_
              refine gf_X11_217 C0 hR t_a12 dX11_finding_83 ?_
              cases hF
              exact x_iret C0 hR hS dX11_finding_86
            · have hF := xif hF c11
              refine lv_aload_n hx hb dX11_finding_69 rfl (lv_at hl 0 rfl) ?_
              obtain ⟨a13, e_a13, hF⟩ := xbd hF
              obtain ⟨e_a13, t_a13⟩ := xgo_sp e_a13
              refine gf_X11_62 C0 hR t_v0 e_a13 dX11_finding_70 ?_
              refine gf_X11_214 C0 hR t_a13 dX11_finding_73 ?_
              refine lv_goto (tgt := 86) hx hb dX11_finding_76 (by decide) ?_
              cases hF
              exact x_iret C0 hR hS dX11_finding_86
          · have hF := xif hF c7
            refine lv_aload_n hx hb dX11_finding_32 rfl (lv_at hl 0 rfl) ?_
            refine lv_iload_n hx hb dX11_finding_33 rfl (lv_at hl 1 rfl) ?_
            refine lv_aload_n hx hb dX11_finding_34 rfl (lv_at hl 0 rfl) ?_
            obtain ⟨a14, e_a14, hF⟩ := xbd hF
            obtain ⟨e_a14, t_a14⟩ := xgo_sp e_a14
            refine gf_X11_32 C0 hR t_v0 e_a14 dX11_finding_35 ?_
            refine lv_aload_n hx hb dX11_finding_38 rfl (lv_at hl 0 rfl) ?_
            obtain ⟨a15, e_a15, hF⟩ := xbd hF
            obtain ⟨e_a15, t_a15⟩ := xgo_sp e_a15
            refine gf_X11_55 C0 hR t_v0 e_a15 dX11_finding_39 ?_
            refine gf_X11_198 C0 hR t_a15 dX11_finding_42 ?_
            obtain ⟨a17, h16, e_h16, hF⟩ := xbd2 hF
            refine cl_X11_201 C0 hR hS e_h16 t_v0 t_a14 ⟨(Nat.le_of_ble_eq_true rfl), (Nat.le_of_ble_eq_true rfl)⟩ hl.1 (Nat.le_of_ble_eq_true rfl) ⟨(Nat.le_of_ble_eq_true rfl), (Nat.le_of_ble_eq_true rfl)⟩ dX11_finding_45 (fun H locs hR hS => ?_)
            obtain ⟨a18, e_a18, hF⟩ := xbd hF
            refine cl_X11_205 C0 hR hS e_a18  ⟨(Nat.le_of_ble_eq_true rfl), (Nat.le_of_ble_eq_true rfl)⟩ hl.1 (Nat.le_of_ble_eq_true rfl) ⟨(Nat.le_of_ble_eq_true rfl), (Nat.le_of_ble_eq_true rfl)⟩ dX11_finding_48 (fun H locs hR hS => ?_)
            cases hF
            exact x_iret C0 hR hS dX11_finding_51
        · have hF := xif hF c6
          refine lv_iconst (v := (-1)) hx hb dX11_finding_26 (by decide) ?_
          cases hF
          exact x_iret C0 hR hS dX11_finding_27
theorem xm_X11_finding : xMw yX11_finding cX11_finding 3 (some .int) 2 := ⟨xin 877 (by decide +kernel) rfl, xin 114 (by decide +kernel) rfl, by decide +kernel⟩
theorem xi_X11_finding : Cond.instanceMethod yX11_finding ∈ xT := xin 875 (by decide +kernel) rfl
theorem xe_X11_finding : Cond.selects yX11_finding.cls yX11_finding yX11_finding ∈ xT := xin 876 (by decide +kernel) rfl
theorem dX11_isAskedRule_0 : decode cX11_isAskedRule 0 = .ok (.aload_n 0, 1) := by decide +kernel
theorem dX11_isAskedRule_1 : decode cX11_isAskedRule 1 = .ok (.getfield 20, 3) := by decide +kernel
theorem dX11_isAskedRule_4 : decode cX11_isAskedRule 4 = .ok (.iload_n 1, 1) := by decide +kernel
theorem dX11_isAskedRule_5 : decode cX11_isAskedRule 5 = .ok (.invokevirtual 144, 3) := by decide +kernel
theorem dX11_isAskedRule_8 : decode cX11_isAskedRule 8 = .ok (.ifCond .eq 28, 3) := by decide +kernel
theorem dX11_isAskedRule_11 : decode cX11_isAskedRule 11 = .ok (.aload_n 0, 1) := by decide +kernel
theorem dX11_isAskedRule_12 : decode cX11_isAskedRule 12 = .ok (.getfield 32, 3) := by decide +kernel
theorem dX11_isAskedRule_15 : decode cX11_isAskedRule 15 = .ok (.getfield 128, 3) := by decide +kernel
theorem dX11_isAskedRule_18 : decode cX11_isAskedRule 18 = .ok (.ifCond .le 18, 3) := by decide +kernel
theorem dX11_isAskedRule_21 : decode cX11_isAskedRule 21 = .ok (.aload_n 0, 1) := by decide +kernel
theorem dX11_isAskedRule_22 : decode cX11_isAskedRule 22 = .ok (.getfield 55, 3) := by decide +kernel
theorem dX11_isAskedRule_25 : decode cX11_isAskedRule 25 = .ok (.iload_n 1, 1) := by decide +kernel
theorem dX11_isAskedRule_26 : decode cX11_isAskedRule 26 = .ok (.invokevirtual 166, 3) := by decide +kernel
theorem dX11_isAskedRule_29 : decode cX11_isAskedRule 29 = .ok (.ifCond .eq 7, 3) := by decide +kernel
theorem dX11_isAskedRule_32 : decode cX11_isAskedRule 32 = .ok (.iconst 1, 1) := by decide +kernel
theorem dX11_isAskedRule_33 : decode cX11_isAskedRule 33 = .ok (.goto 4, 3) := by decide +kernel
theorem dX11_isAskedRule_36 : decode cX11_isAskedRule 36 = .ok (.iconst 0, 1) := by decide +kernel
theorem dX11_isAskedRule_37 : decode cX11_isAskedRule 37 = .ok (.ireturn, 1) := by decide +kernel
set_option maxHeartbeats 4000000 in
set_option maxRecDepth 100000 in
theorem jc_X11_isAskedRule {l : Launch} {D : xD} {ty : xTy} {h : xH} {v0 : Nat} {v1 : Int32} {r : Int32} (t_v0 : ty v0 = some (0, 11)) (hF : jf_X11_isAskedRule ty h v0 v1 = some r) : Met l yX11_isAskedRule (xws yX11_isAskedRule cX11_isAskedRule 2 (some .boolean)) jr_X11_isAskedRule (xPc D ty h [.ref v0, .int v1]) (xQ D ty (some (.int r)) h) 0 0 (xdom ty) := by
  refine x_met (by decide) ?_
  intro p e s m below meth c C0 hR
  generalize hargs : ([.ref v0, .int v1] : List Value).toArray = args at C0 ⊢
  have hx := C0.1
  have hb := C0.2.1
  have hown := C0.2.2.2.2.2.1
  have hts := C0.2.2.2.2.2.2.1
  have hS : xS ty s.heap s.heap [] := xS.rf
  have hl := lv_entry ([.ref v0, .int v1]) (n := 2) (Nat.le_of_ble_eq_true rfl)
  rw [← hargs, lg_entry_eq]
  rw [hargs]
  generalize (lg_sl ([.ref v0, .int v1]) ++ List.replicate (2 - (lg_sl ([.ref v0, .int v1])).length) Slot.unset).toArray = ls at hl ⊢
  have hl : lv_has ls 2 [(0, .ref v0), (1, .int v1)] := hl
  unfold jf_X11_isAskedRule at hF
  refine lv_aload_n hx hb dX11_isAskedRule_0 rfl (lv_at hl 0 rfl) ?_
  obtain ⟨a1, e_a1, hF⟩ := xbd hF
  obtain ⟨e_a1, t_a1⟩ := xgo_sp e_a1
  refine gf_X11_20 C0 hR t_v0 e_a1 dX11_isAskedRule_1 ?_
  refine lv_iload_n hx hb dX11_isAskedRule_4 rfl (lv_at hl 1 rfl) ?_
  obtain ⟨a2, e_a2, hF⟩ := xbd hF
  refine cl_X11_144 C0 hR hS e_a2 t_a1 ⟨(Nat.le_of_ble_eq_true rfl), (Nat.le_of_ble_eq_true rfl)⟩ hl.1 (Nat.le_of_ble_eq_true rfl) ⟨(Nat.le_of_ble_eq_true rfl), (Nat.le_of_ble_eq_true rfl)⟩ dX11_isAskedRule_5 (fun H locs hR hS => ?_)
  refine lv_if_eq (tgt := 36) hx hb dX11_isAskedRule_8 (by decide) (fun c3 => ?_) (fun c3 => ?_)
  · have hF := xif hF c3
    refine lv_iconst (v := 0) hx hb dX11_isAskedRule_36 (by decide) ?_
    cases hF
    exact x_zret (w := 0) C0 hR hS (by decide) dX11_isAskedRule_37
  · have hF := xel hF c3
    refine lv_aload_n hx hb dX11_isAskedRule_11 rfl (lv_at hl 0 rfl) ?_
    obtain ⟨a4, e_a4, hF⟩ := xbd hF
    obtain ⟨e_a4, t_a4⟩ := xgo_sp e_a4
    refine gf_X11_32 C0 hR t_v0 e_a4 dX11_isAskedRule_12 ?_
    refine gf_X11_128 C0 hR t_a4 dX11_isAskedRule_15 ?_
    refine lv_if_le (tgt := 36) hx hb dX11_isAskedRule_18 (by decide) (fun c5 => ?_) (fun c5 => ?_)
    · have hF := xif hF c5
      refine lv_iconst (v := 0) hx hb dX11_isAskedRule_36 (by decide) ?_
      cases hF
      exact x_zret (w := 0) C0 hR hS (by decide) dX11_isAskedRule_37
    · have hF := xel hF c5
      refine lv_aload_n hx hb dX11_isAskedRule_21 rfl (lv_at hl 0 rfl) ?_
      obtain ⟨a6, e_a6, hF⟩ := xbd hF
      obtain ⟨e_a6, t_a6⟩ := xgo_sp e_a6
      refine gf_X11_55 C0 hR t_v0 e_a6 dX11_isAskedRule_22 ?_
      refine lv_iload_n hx hb dX11_isAskedRule_25 rfl (lv_at hl 1 rfl) ?_
      obtain ⟨a7, e_a7, hF⟩ := xbd hF
      refine cl_X11_166 C0 hR hS e_a7 t_a6 ⟨(Nat.le_of_ble_eq_true rfl), (Nat.le_of_ble_eq_true rfl)⟩ hl.1 (Nat.le_of_ble_eq_true rfl) ⟨(Nat.le_of_ble_eq_true rfl), (Nat.le_of_ble_eq_true rfl)⟩ dX11_isAskedRule_26 (fun H locs hR hS => ?_)
      refine lv_if_eq (tgt := 36) hx hb dX11_isAskedRule_29 (by decide) (fun c8 => ?_) (fun c8 => ?_)
      · have hF := xif hF c8
        refine lv_iconst (v := 0) hx hb dX11_isAskedRule_36 (by decide) ?_
        cases hF
        exact x_zret (w := 0) C0 hR hS (by decide) dX11_isAskedRule_37
      · have hF := xel hF c8
        refine lv_iconst (v := 1) hx hb dX11_isAskedRule_32 (by decide) ?_
        refine lv_goto (tgt := 37) hx hb dX11_isAskedRule_33 (by decide) ?_
        cases hF
        exact x_zret (w := 1) C0 hR hS (by decide) dX11_isAskedRule_37
theorem xm_X11_isAskedRule : xMw yX11_isAskedRule cX11_isAskedRule 2 (some .boolean) 1 := ⟨xin 906 (by decide +kernel) rfl, xin 114 (by decide +kernel) rfl, by decide +kernel⟩
theorem xi_X11_isAskedRule : Cond.instanceMethod yX11_isAskedRule ∈ xT := xin 905 (by decide +kernel) rfl
theorem xe_X11_isAskedRule : Cond.selects yX11_isAskedRule.cls yX11_isAskedRule yX11_isAskedRule ∈ xT := xin 36 (by decide +kernel) rfl
theorem dX11_filled_0 : decode cX11_filled 0 = .ok (.iload_n 2, 1) := by decide +kernel
theorem dX11_filled_1 : decode cX11_filled 1 = .ok (.ifCond .lt 20, 3) := by decide +kernel
theorem dX11_filled_4 : decode cX11_filled 4 = .ok (.iload_n 2, 1) := by decide +kernel
theorem dX11_filled_5 : decode cX11_filled 5 = .ok (.iconst 4, 1) := by decide +kernel
theorem dX11_filled_6 : decode cX11_filled 6 = .ok (.if_icmp .ge 15, 3) := by decide +kernel
theorem dX11_filled_9 : decode cX11_filled 9 = .ok (.iload_n 3, 1) := by decide +kernel
theorem dX11_filled_10 : decode cX11_filled 10 = .ok (.ifCond .lt 11, 3) := by decide +kernel
theorem dX11_filled_13 : decode cX11_filled 13 = .ok (.aload_n 0, 1) := by decide +kernel
theorem dX11_filled_14 : decode cX11_filled 14 = .ok (.iload_n 1, 1) := by decide +kernel
theorem dX11_filled_15 : decode cX11_filled 15 = .ok (.invokevirtual 220, 3) := by decide +kernel
theorem dX11_filled_18 : decode cX11_filled 18 = .ok (.ifCond .ne 5, 3) := by decide +kernel
theorem dX11_filled_21 : decode cX11_filled 21 = .ok (.iconst (-1), 1) := by decide +kernel
theorem dX11_filled_22 : decode cX11_filled 22 = .ok (.ireturn, 1) := by decide +kernel
theorem dX11_filled_23 : decode cX11_filled 23 = .ok (.aload_n 0, 1) := by decide +kernel
theorem dX11_filled_24 : decode cX11_filled 24 = .ok (.getfield 69, 3) := by decide +kernel
theorem dX11_filled_27 : decode cX11_filled 27 = .ok (.aload_n 0, 1) := by decide +kernel
theorem dX11_filled_28 : decode cX11_filled 28 = .ok (.getfield 20, 3) := by decide +kernel
theorem dX11_filled_31 : decode cX11_filled 31 = .ok (.iload_n 1, 1) := by decide +kernel
theorem dX11_filled_32 : decode cX11_filled 32 = .ok (.invokevirtual 155, 3) := by decide +kernel
theorem dX11_filled_35 : decode cX11_filled 35 = .ok (.aload_n 0, 1) := by decide +kernel
theorem dX11_filled_36 : decode cX11_filled 36 = .ok (.getfield 32, 3) := by decide +kernel
theorem dX11_filled_39 : decode cX11_filled 39 = .ok (.iconst 0, 1) := by decide +kernel
theorem dX11_filled_40 : decode cX11_filled 40 = .ok (.invokevirtual 223, 3) := by decide +kernel
theorem dX11_filled_43 : decode cX11_filled 43 = .ok (.ifCond .ne 6, 3) := by decide +kernel
theorem dX11_filled_46 : decode cX11_filled 46 = .ok (.bipush (-2), 2) := by decide +kernel
theorem dX11_filled_48 : decode cX11_filled 48 = .ok (.ireturn, 1) := by decide +kernel
theorem dX11_filled_49 : decode cX11_filled 49 = .ok (.aload_n 0, 1) := by decide +kernel
theorem dX11_filled_50 : decode cX11_filled 50 = .ok (.getfield 69, 3) := by decide +kernel
theorem dX11_filled_53 : decode cX11_filled 53 = .ok (.iload_n 2, 1) := by decide +kernel
theorem dX11_filled_54 : decode cX11_filled 54 = .ok (.invokevirtual 227, 3) := by decide +kernel
theorem dX11_filled_57 : decode cX11_filled 57 = .ok (.istore 4, 2) := by decide +kernel
theorem dX11_filled_59 : decode cX11_filled 59 = .ok (.iload 4, 2) := by decide +kernel
theorem dX11_filled_61 : decode cX11_filled 61 = .ok (.ifCond .lt 19, 3) := by decide +kernel
theorem dX11_filled_64 : decode cX11_filled 64 = .ok (.iload_n 3, 1) := by decide +kernel
theorem dX11_filled_65 : decode cX11_filled 65 = .ok (.aload_n 0, 1) := by decide +kernel
theorem dX11_filled_66 : decode cX11_filled 66 = .ok (.getfield 32, 3) := by decide +kernel
theorem dX11_filled_69 : decode cX11_filled 69 = .ok (.iload 4, 2) := by decide +kernel
theorem dX11_filled_71 : decode cX11_filled 71 = .ok (.invokevirtual 181, 3) := by decide +kernel
theorem dX11_filled_74 : decode cX11_filled 74 = .ok (.iload 4, 2) := by decide +kernel
theorem dX11_filled_76 : decode cX11_filled 76 = .ok (.isub, 1) := by decide +kernel
theorem dX11_filled_77 : decode cX11_filled 77 = .ok (.if_icmp .lt 6, 3) := by decide +kernel
theorem dX11_filled_80 : decode cX11_filled 80 = .ok (.bipush (-2), 2) := by decide +kernel
theorem dX11_filled_82 : decode cX11_filled 82 = .ok (.ireturn, 1) := by decide +kernel
theorem dX11_filled_83 : decode cX11_filled 83 = .ok (.aload_n 0, 1) := by decide +kernel
theorem dX11_filled_84 : decode cX11_filled 84 = .ok (.getfield 32, 3) := by decide +kernel
theorem dX11_filled_87 : decode cX11_filled 87 = .ok (.iload 4, 2) := by decide +kernel
theorem dX11_filled_89 : decode cX11_filled 89 = .ok (.iload_n 3, 1) := by decide +kernel
theorem dX11_filled_90 : decode cX11_filled 90 = .ok (.iadd, 1) := by decide +kernel
theorem dX11_filled_91 : decode cX11_filled 91 = .ok (.invokevirtual 178, 3) := by decide +kernel
theorem dX11_filled_94 : decode cX11_filled 94 = .ok (.ireturn, 1) := by decide +kernel
theorem wl_X11_220 : Cond.methodLink RX11 220 yX11_isAskedRule ∈ xT := xin 903 (by decide +kernel) rfl
theorem wl_X11_227 : Cond.methodLink RX11 227 yX3_startOf ∈ xT := xin 907 (by decide +kernel) rfl
section XN_X11_filled
variable {p : Program} {l : Launch} {e : Env} {R : Room} {s : State} {m : MethodId} {args : Array Value} {below : List Frame} {meth : Method} {c : Code} {H H0 : Heap} {locs : List Loc} {cells slots : Nat} {Q : State → Prop} {cc : ByteArray} {nL pc : Nat} {rt : Option FieldType} {ls : Array Slot} {rest : List Value} {D : xD} {ty : xTy} {h : xH}
theorem cl_X11_220 {v0 : Nat} {v1 : Int32} {r : Int32} (C0 : xC D RX11 cc nL rt p s m args meth c) (hR : xRep D ty h H) (hS : xS ty H0 H locs) (hF : jf_X11_isAskedRule ty h v0 v1 = some r) (t_v0 : ty v0 = some (0, 11)) (hrm : jr_X11_isAskedRule.frames + 1 ≤ R.frames ∧ 8 + (2 + 11) + jr_X11_isAskedRule.locals ≤ R.locals) (hsz : ls.size = nL) (hW : (rest.map fun v => v.category).sum ≤ 8) (hf : cells ≤ R.cells ∧ slots ≤ R.slots) (hdg : decode cc pc = .ok (.invokevirtual 220, 3)) (kk : ∀ (H1 : Heap) (locs1 : List Loc), xRep D ty h H1 → xS ty H0 H1 locs1 → W p l e R s m args below meth c H1 locs1 cells slots Q (F0 m (pc + 3) ls (.int r :: rest))) : W p l e R s m args below meth c H locs cells slots Q (F0 m pc ls (.int v1 :: .ref v0 :: rest)) := x_callV C0 (jc_X11_isAskedRule t_v0 hF) xm_X11_isAskedRule xi_X11_isAskedRule xe_X11_isAskedRule wl_X11_220 ⟨rfl, rfl, hrm⟩ (ci := 11) rfl t_v0 hR hS (As := [.int v1]) rfl hsz rfl hW hdg hf kk
theorem cl_X11_227 {v0 : Nat} {v1 : Int32} {r : Int32} (C0 : xC D RX11 cc nL rt p s m args meth c) (hR : xRep D ty h H) (hS : xS ty H0 H locs) (hF : jf_X3_startOf ty h v0 v1 = some r) (t_v0 : ty v0 = some (0, 3)) (hrm : jr_X3_startOf.frames + 1 ≤ R.frames ∧ 8 + (2 + 11) + jr_X3_startOf.locals ≤ R.locals) (hsz : ls.size = nL) (hW : (rest.map fun v => v.category).sum ≤ 8) (hf : cells ≤ R.cells ∧ slots ≤ R.slots) (hdg : decode cc pc = .ok (.invokevirtual 227, 3)) (kk : ∀ (H1 : Heap) (locs1 : List Loc), xRep D ty h H1 → xS ty H0 H1 locs1 → W p l e R s m args below meth c H1 locs1 cells slots Q (F0 m (pc + 3) ls (.int r :: rest))) : W p l e R s m args below meth c H locs cells slots Q (F0 m pc ls (.int v1 :: .ref v0 :: rest)) := x_callV C0 (jc_X3_startOf t_v0 hF) xm_X3_startOf xi_X3_startOf xe_X3_startOf wl_X11_227 ⟨rfl, rfl, hrm⟩ (ci := 3) rfl t_v0 hR hS (As := [.int v1]) rfl hsz rfl hW hdg hf kk
end XN_X11_filled
set_option maxHeartbeats 4000000 in
set_option maxRecDepth 100000 in
theorem jc_X11_filled {l : Launch} {D : xD} {ty : xTy} {h : xH} {v0 : Nat} {v1 : Int32} {v2 : Int32} {v3 : Int32} {r : Int32} {h9 : xH} (t_v0 : ty v0 = some (0, 11)) (hF : jf_X11_filled ty h v0 v1 v2 v3 = some (r, h9)) : Met l yX11_filled (xws yX11_filled cX11_filled 5 (some .int)) jr_X11_filled (xPc D ty h [.ref v0, .int v1, .int v2, .int v3]) (xQ D ty (some (.int r)) h9) 0 0 (xdom ty) := by
  refine x_met (by decide) ?_
  intro p e s m below meth c C0 hR
  generalize hargs : ([.ref v0, .int v1, .int v2, .int v3] : List Value).toArray = args at C0 ⊢
  have hx := C0.1
  have hb := C0.2.1
  have hown := C0.2.2.2.2.2.1
  have hts := C0.2.2.2.2.2.2.1
  have hS : xS ty s.heap s.heap [] := xS.rf
  have hl := lv_entry ([.ref v0, .int v1, .int v2, .int v3]) (n := 5) (Nat.le_of_ble_eq_true rfl)
  rw [← hargs, lg_entry_eq]
  rw [hargs]
  generalize (lg_sl ([.ref v0, .int v1, .int v2, .int v3]) ++ List.replicate (5 - (lg_sl ([.ref v0, .int v1, .int v2, .int v3])).length) Slot.unset).toArray = ls at hl ⊢
  have hl : lv_has ls 5 [(0, .ref v0), (1, .int v1), (2, .int v2), (3, .int v3)] := hl
  unfold jf_X11_filled at hF
  refine lv_iload_n hx hb dX11_filled_0 rfl (lv_at hl 2 rfl) ?_
  refine lv_if_lt (tgt := 21) hx hb dX11_filled_1 (by decide) (fun c1 => ?_) (fun c1 => ?_)
  · have hF := xif hF c1
    refine lv_iconst (v := (-1)) hx hb dX11_filled_21 (by decide) ?_
    cases hF
    exact x_iret C0 hR hS dX11_filled_22
  · have hF := xel hF c1
    refine lv_iload_n hx hb dX11_filled_4 rfl (lv_at hl 2 rfl) ?_
    refine lv_iconst (v := 4) hx hb dX11_filled_5 (by decide) ?_
    refine lv_icmp_ge (tgt := 21) hx hb dX11_filled_6 (by decide) (fun c2 => ?_) (fun c2 => ?_)
    · have hF := xif hF c2
      refine lv_iconst (v := (-1)) hx hb dX11_filled_21 (by decide) ?_
      cases hF
      exact x_iret C0 hR hS dX11_filled_22
    · have hF := xel hF c2
      refine lv_iload_n hx hb dX11_filled_9 rfl (lv_at hl 3 rfl) ?_
      refine lv_if_lt (tgt := 21) hx hb dX11_filled_10 (by decide) (fun c3 => ?_) (fun c3 => ?_)
      · have hF := xif hF c3
        refine lv_iconst (v := (-1)) hx hb dX11_filled_21 (by decide) ?_
        cases hF
        exact x_iret C0 hR hS dX11_filled_22
      · have hF := xel hF c3
        refine lv_aload_n hx hb dX11_filled_13 rfl (lv_at hl 0 rfl) ?_
        refine lv_iload_n hx hb dX11_filled_14 rfl (lv_at hl 1 rfl) ?_
        obtain ⟨a4, e_a4, hF⟩ := xbd hF
        refine cl_X11_220 C0 hR hS e_a4 t_v0 ⟨(Nat.le_of_ble_eq_true rfl), (Nat.le_of_ble_eq_true rfl)⟩ hl.1 (Nat.le_of_ble_eq_true rfl) ⟨(Nat.le_of_ble_eq_true rfl), (Nat.le_of_ble_eq_true rfl)⟩ dX11_filled_15 (fun H locs hR hS => ?_)
        refine lv_if_ne (tgt := 23) hx hb dX11_filled_18 (by decide) (fun c5 => ?_) (fun c5 => ?_)
        · have hF := xel hF c5
          refine lv_aload_n hx hb dX11_filled_23 rfl (lv_at hl 0 rfl) ?_
          obtain ⟨a6, e_a6, hF⟩ := xbd hF
          obtain ⟨e_a6, t_a6⟩ := xgo_sp e_a6
          refine gf_X11_69 C0 hR t_v0 e_a6 dX11_filled_24 ?_
          refine lv_aload_n hx hb dX11_filled_27 rfl (lv_at hl 0 rfl) ?_
          obtain ⟨a7, e_a7, hF⟩ := xbd hF
          obtain ⟨e_a7, t_a7⟩ := xgo_sp e_a7
          refine gf_X11_20 C0 hR t_v0 e_a7 dX11_filled_28 ?_
          refine lv_iload_n hx hb dX11_filled_31 rfl (lv_at hl 1 rfl) ?_
          obtain ⟨a8, e_a8, hF⟩ := xbd hF
          obtain ⟨u9, e_u9, hF⟩ := xbd hF
          have t_a8 := xck_sp e_u9
          refine cl_X11_155 C0 hR hS e_a8 t_a7 ⟨(Nat.le_of_ble_eq_true rfl), (Nat.le_of_ble_eq_true rfl)⟩ hl.1 (Nat.le_of_ble_eq_true rfl) ⟨(Nat.le_of_ble_eq_true rfl), (Nat.le_of_ble_eq_true rfl)⟩ dX11_filled_32 (fun H locs hR hS => ?_)
          refine lv_aload_n hx hb dX11_filled_35 rfl (lv_at hl 0 rfl) ?_
          obtain ⟨a10, e_a10, hF⟩ := xbd hF
          obtain ⟨e_a10, t_a10⟩ := xgo_sp e_a10
          refine gf_X11_32 C0 hR t_v0 e_a10 dX11_filled_36 ?_
          refine lv_iconst (v := 0) hx hb dX11_filled_39 (by decide) ?_
          obtain ⟨a12, h11, e_h11, hF⟩ := xbd2 hF
          refine cl_X11_223 C0 hR hS e_h11 t_a6 t_a8 t_a10 ⟨(Nat.le_of_ble_eq_true rfl), (Nat.le_of_ble_eq_true rfl)⟩ hl.1 (Nat.le_of_ble_eq_true rfl) ⟨(Nat.le_of_ble_eq_true rfl), (Nat.le_of_ble_eq_true rfl)⟩ dX11_filled_40 (fun H locs hR hS => ?_)
          refine lv_if_ne (tgt := 49) hx hb dX11_filled_43 (by decide) (fun c13 => ?_) (fun c13 => ?_)
          · have hF := xel hF c13
            refine lv_aload_n hx hb dX11_filled_49 rfl (lv_at hl 0 rfl) ?_
            obtain ⟨a14, e_a14, hF⟩ := xbd hF
            obtain ⟨e_a14, t_a14⟩ := xgo_sp e_a14
            refine gf_X11_69 C0 hR t_v0 e_a14 dX11_filled_50 ?_
            refine lv_iload_n hx hb dX11_filled_53 rfl (lv_at hl 2 rfl) ?_
            obtain ⟨a15, e_a15, hF⟩ := xbd hF
            refine cl_X11_227 C0 hR hS e_a15 t_a14 ⟨(Nat.le_of_ble_eq_true rfl), (Nat.le_of_ble_eq_true rfl)⟩ hl.1 (Nat.le_of_ble_eq_true rfl) ⟨(Nat.le_of_ble_eq_true rfl), (Nat.le_of_ble_eq_true rfl)⟩ dX11_filled_54 (fun H locs hR hS => ?_)
            refine lv_istore (lv' := [(4, .int a15), (0, .ref v0), (1, .int v1), (2, .int v2), (3, .int v3)]) hx hb dX11_filled_57 hl (by decide) rfl (fun ls hl => ?_)
            refine lv_iload hx hb dX11_filled_59 (lv_at hl 0 rfl) ?_
            refine lv_if_lt (tgt := 80) hx hb dX11_filled_61 (by decide) (fun c16 => ?_) (fun c16 => ?_)
            · have hF := xif hF c16
              refine lv_bipush (v := (-2)) hx hb dX11_filled_80 (by decide) ?_
              cases hF
              exact x_iret C0 hR hS dX11_filled_82
            · have hF := xel hF c16
              refine lv_iload_n hx hb dX11_filled_64 rfl (lv_at hl 4 rfl) ?_
              refine lv_aload_n hx hb dX11_filled_65 rfl (lv_at hl 1 rfl) ?_
              obtain ⟨a17, e_a17, hF⟩ := xbd hF
              obtain ⟨e_a17, t_a17⟩ := xgo_sp e_a17
              refine gf_X11_32 C0 hR t_v0 e_a17 dX11_filled_66 ?_
              refine lv_iload hx hb dX11_filled_69 (lv_at hl 0 rfl) ?_
              obtain ⟨a18, e_a18, hF⟩ := xbd hF
              refine cl_X11_181 C0 hR hS e_a18 t_a17 ⟨(Nat.le_of_ble_eq_true rfl), (Nat.le_of_ble_eq_true rfl)⟩ hl.1 (Nat.le_of_ble_eq_true rfl) ⟨(Nat.le_of_ble_eq_true rfl), (Nat.le_of_ble_eq_true rfl)⟩ dX11_filled_71 (fun H locs hR hS => ?_)
              refine lv_iload hx hb dX11_filled_74 (lv_at hl 0 rfl) ?_
              refine lv_isub hx hb dX11_filled_76 ?_
              refine lv_icmp_lt (tgt := 83) hx hb dX11_filled_77 (by decide) (fun c19 => ?_) (fun c19 => ?_)
              · have hF := xif hF c19
                refine lv_aload_n hx hb dX11_filled_83 rfl (lv_at hl 1 rfl) ?_
                obtain ⟨a20, e_a20, hF⟩ := xbd hF
                obtain ⟨e_a20, t_a20⟩ := xgo_sp e_a20
                refine gf_X11_32 C0 hR t_v0 e_a20 dX11_filled_84 ?_
                refine lv_iload hx hb dX11_filled_87 (lv_at hl 0 rfl) ?_
                refine lv_iload_n hx hb dX11_filled_89 rfl (lv_at hl 4 rfl) ?_
                refine lv_iadd hx hb dX11_filled_90 ?_
                obtain ⟨a21, e_a21, hF⟩ := xbd hF
                refine cl_X11_178 C0 hR hS e_a21 t_a20 ⟨(Nat.le_of_ble_eq_true rfl), (Nat.le_of_ble_eq_true rfl)⟩ hl.1 (Nat.le_of_ble_eq_true rfl) ⟨(Nat.le_of_ble_eq_true rfl), (Nat.le_of_ble_eq_true rfl)⟩ dX11_filled_91 (fun H locs hR hS => ?_)
                cases hF
                exact x_iret C0 hR hS dX11_filled_94
              · have hF := xel hF c19
                refine lv_bipush (v := (-2)) hx hb dX11_filled_80 (by decide) ?_
                cases hF
                exact x_iret C0 hR hS dX11_filled_82
          · have hF := xif hF c13
            refine lv_bipush (v := (-2)) hx hb dX11_filled_46 (by decide) ?_
            cases hF
            exact x_iret C0 hR hS dX11_filled_48
        · have hF := xif hF c5
          refine lv_iconst (v := (-1)) hx hb dX11_filled_21 (by decide) ?_
          cases hF
          exact x_iret C0 hR hS dX11_filled_22
theorem xm_X11_filled : xMw yX11_filled cX11_filled 5 (some .int) 3 := ⟨xin 902 (by decide +kernel) rfl, xin 114 (by decide +kernel) rfl, by decide +kernel⟩
theorem xi_X11_filled : Cond.instanceMethod yX11_filled ∈ xT := xin 900 (by decide +kernel) rfl
theorem xe_X11_filled : Cond.selects yX11_filled.cls yX11_filled yX11_filled ∈ xT := xin 901 (by decide +kernel) rfl
theorem dX11_meeting_0 : decode cX11_meeting 0 = .ok (.iload_n 2, 1) := by decide +kernel
theorem dX11_meeting_1 : decode cX11_meeting 1 = .ok (.ifCond .lt 11, 3) := by decide +kernel
theorem dX11_meeting_4 : decode cX11_meeting 4 = .ok (.aload_n 0, 1) := by decide +kernel
theorem dX11_meeting_5 : decode cX11_meeting 5 = .ok (.iload_n 1, 1) := by decide +kernel
theorem dX11_meeting_6 : decode cX11_meeting 6 = .ok (.invokevirtual 220, 3) := by decide +kernel
theorem dX11_meeting_9 : decode cX11_meeting 9 = .ok (.ifCond .ne 5, 3) := by decide +kernel
theorem dX11_meeting_12 : decode cX11_meeting 12 = .ok (.iconst (-1), 1) := by decide +kernel
theorem dX11_meeting_13 : decode cX11_meeting 13 = .ok (.ireturn, 1) := by decide +kernel
theorem dX11_meeting_14 : decode cX11_meeting 14 = .ok (.aload_n 0, 1) := by decide +kernel
theorem dX11_meeting_15 : decode cX11_meeting 15 = .ok (.getfield 76, 3) := by decide +kernel
theorem dX11_meeting_18 : decode cX11_meeting 18 = .ok (.aload_n 0, 1) := by decide +kernel
theorem dX11_meeting_19 : decode cX11_meeting 19 = .ok (.getfield 20, 3) := by decide +kernel
theorem dX11_meeting_22 : decode cX11_meeting 22 = .ok (.iload_n 1, 1) := by decide +kernel
theorem dX11_meeting_23 : decode cX11_meeting 23 = .ok (.invokevirtual 155, 3) := by decide +kernel
theorem dX11_meeting_26 : decode cX11_meeting 26 = .ok (.iconst 0, 1) := by decide +kernel
theorem dX11_meeting_27 : decode cX11_meeting 27 = .ok (.aload_n 0, 1) := by decide +kernel
theorem dX11_meeting_28 : decode cX11_meeting 28 = .ok (.getfield 32, 3) := by decide +kernel
theorem dX11_meeting_31 : decode cX11_meeting 31 = .ok (.invokevirtual 230, 3) := by decide +kernel
theorem dX11_meeting_34 : decode cX11_meeting 34 = .ok (.ifCond .ne 6, 3) := by decide +kernel
theorem dX11_meeting_37 : decode cX11_meeting 37 = .ok (.bipush (-2), 2) := by decide +kernel
theorem dX11_meeting_39 : decode cX11_meeting 39 = .ok (.ireturn, 1) := by decide +kernel
theorem dX11_meeting_40 : decode cX11_meeting 40 = .ok (.aload_n 0, 1) := by decide +kernel
theorem dX11_meeting_41 : decode cX11_meeting 41 = .ok (.getfield 76, 3) := by decide +kernel
theorem dX11_meeting_44 : decode cX11_meeting 44 = .ok (.invokevirtual 234, 3) := by decide +kernel
theorem dX11_meeting_47 : decode cX11_meeting 47 = .ok (.iload_n 2, 1) := by decide +kernel
theorem dX11_meeting_48 : decode cX11_meeting 48 = .ok (.invokevirtual 178, 3) := by decide +kernel
theorem dX11_meeting_51 : decode cX11_meeting 51 = .ok (.ireturn, 1) := by decide +kernel
theorem wl_X11_234 : Cond.methodLink RX11 234 yX10_unifiedShape ∈ xT := xin 915 (by decide +kernel) rfl
section XN_X11_meeting
variable {p : Program} {l : Launch} {e : Env} {R : Room} {s : State} {m : MethodId} {args : Array Value} {below : List Frame} {meth : Method} {c : Code} {H H0 : Heap} {locs : List Loc} {cells slots : Nat} {Q : State → Prop} {cc : ByteArray} {nL pc : Nat} {rt : Option FieldType} {ls : Array Slot} {rest : List Value} {D : xD} {ty : xTy} {h : xH}
theorem cl_X11_234 {v0 : Nat} {r : Nat} {h9 : xH} (C0 : xC D RX11 cc nL rt p s m args meth c) (hR : xRep D ty h H) (hS : xS ty H0 H locs) (hF : jf_X10_unifiedShape ty h v0 = some (r, h9)) (t_v0 : ty v0 = some (0, 10)) (hrm : jr_X10_unifiedShape.frames + 1 ≤ R.frames ∧ 8 + (2 + 11) + jr_X10_unifiedShape.locals ≤ R.locals) (hsz : ls.size = nL) (hW : (rest.map fun v => v.category).sum ≤ 8) (hf : cells ≤ R.cells ∧ slots ≤ R.slots) (hdg : decode cc pc = .ok (.invokevirtual 234, 3)) (kk : ∀ (H1 : Heap) (locs1 : List Loc), xRep D ty h9 H1 → xS ty H0 H1 locs1 → W p l e R s m args below meth c H1 locs1 cells slots Q (F0 m (pc + 3) ls (.ref r :: rest))) : W p l e R s m args below meth c H locs cells slots Q (F0 m pc ls (.ref v0 :: rest)) := x_callV C0 (jc_X10_unifiedShape t_v0 hF) xm_X10_unifiedShape xi_X10_unifiedShape xe_X10_unifiedShape wl_X11_234 ⟨rfl, rfl, hrm⟩ (ci := 10) rfl t_v0 hR hS (As := []) rfl hsz rfl hW hdg hf kk
end XN_X11_meeting
set_option maxHeartbeats 4000000 in
set_option maxRecDepth 100000 in
theorem jc_X11_meeting {l : Launch} {D : xD} {ty : xTy} {h : xH} {v0 : Nat} {v1 : Int32} {v2 : Int32} {r : Int32} {h9 : xH} (t_v0 : ty v0 = some (0, 11)) (hF : jf_X11_meeting ty h v0 v1 v2 = some (r, h9)) : Met l yX11_meeting (xws yX11_meeting cX11_meeting 3 (some .int)) jr_X11_meeting (xPc D ty h [.ref v0, .int v1, .int v2]) (xQ D ty (some (.int r)) h9) 0 0 (xdom ty) := by
  refine x_met (by decide) ?_
  intro p e s m below meth c C0 hR
  generalize hargs : ([.ref v0, .int v1, .int v2] : List Value).toArray = args at C0 ⊢
  have hx := C0.1
  have hb := C0.2.1
  have hown := C0.2.2.2.2.2.1
  have hts := C0.2.2.2.2.2.2.1
  have hS : xS ty s.heap s.heap [] := xS.rf
  have hl := lv_entry ([.ref v0, .int v1, .int v2]) (n := 3) (Nat.le_of_ble_eq_true rfl)
  rw [← hargs, lg_entry_eq]
  rw [hargs]
  generalize (lg_sl ([.ref v0, .int v1, .int v2]) ++ List.replicate (3 - (lg_sl ([.ref v0, .int v1, .int v2])).length) Slot.unset).toArray = ls at hl ⊢
  have hl : lv_has ls 3 [(0, .ref v0), (1, .int v1), (2, .int v2)] := hl
  unfold jf_X11_meeting at hF
  refine lv_iload_n hx hb dX11_meeting_0 rfl (lv_at hl 2 rfl) ?_
  refine lv_if_lt (tgt := 12) hx hb dX11_meeting_1 (by decide) (fun c1 => ?_) (fun c1 => ?_)
  · have hF := xif hF c1
    refine lv_iconst (v := (-1)) hx hb dX11_meeting_12 (by decide) ?_
    cases hF
    exact x_iret C0 hR hS dX11_meeting_13
  · have hF := xel hF c1
    refine lv_aload_n hx hb dX11_meeting_4 rfl (lv_at hl 0 rfl) ?_
    refine lv_iload_n hx hb dX11_meeting_5 rfl (lv_at hl 1 rfl) ?_
    obtain ⟨a2, e_a2, hF⟩ := xbd hF
    refine cl_X11_220 C0 hR hS e_a2 t_v0 ⟨(Nat.le_of_ble_eq_true rfl), (Nat.le_of_ble_eq_true rfl)⟩ hl.1 (Nat.le_of_ble_eq_true rfl) ⟨(Nat.le_of_ble_eq_true rfl), (Nat.le_of_ble_eq_true rfl)⟩ dX11_meeting_6 (fun H locs hR hS => ?_)
    refine lv_if_ne (tgt := 14) hx hb dX11_meeting_9 (by decide) (fun c3 => ?_) (fun c3 => ?_)
    · have hF := xel hF c3
      refine lv_aload_n hx hb dX11_meeting_14 rfl (lv_at hl 0 rfl) ?_
      obtain ⟨a4, e_a4, hF⟩ := xbd hF
      obtain ⟨e_a4, t_a4⟩ := xgo_sp e_a4
      refine gf_X11_76 C0 hR t_v0 e_a4 dX11_meeting_15 ?_
      refine lv_aload_n hx hb dX11_meeting_18 rfl (lv_at hl 0 rfl) ?_
      obtain ⟨a5, e_a5, hF⟩ := xbd hF
      obtain ⟨e_a5, t_a5⟩ := xgo_sp e_a5
      refine gf_X11_20 C0 hR t_v0 e_a5 dX11_meeting_19 ?_
      refine lv_iload_n hx hb dX11_meeting_22 rfl (lv_at hl 1 rfl) ?_
      obtain ⟨a6, e_a6, hF⟩ := xbd hF
      obtain ⟨u7, e_u7, hF⟩ := xbd hF
      have t_a6 := xck_sp e_u7
      refine cl_X11_155 C0 hR hS e_a6 t_a5 ⟨(Nat.le_of_ble_eq_true rfl), (Nat.le_of_ble_eq_true rfl)⟩ hl.1 (Nat.le_of_ble_eq_true rfl) ⟨(Nat.le_of_ble_eq_true rfl), (Nat.le_of_ble_eq_true rfl)⟩ dX11_meeting_23 (fun H locs hR hS => ?_)
      refine lv_iconst (v := 0) hx hb dX11_meeting_26 (by decide) ?_
      refine lv_aload_n hx hb dX11_meeting_27 rfl (lv_at hl 0 rfl) ?_
      obtain ⟨a8, e_a8, hF⟩ := xbd hF
      obtain ⟨e_a8, t_a8⟩ := xgo_sp e_a8
      refine gf_X11_32 C0 hR t_v0 e_a8 dX11_meeting_28 ?_
      obtain ⟨a10, h9, e_h9, hF⟩ := xbd2 hF
      refine cl_X11_230 C0 hR hS e_h9 t_a4 t_a6 t_a8 ⟨(Nat.le_of_ble_eq_true rfl), (Nat.le_of_ble_eq_true rfl)⟩ hl.1 (Nat.le_of_ble_eq_true rfl) ⟨(Nat.le_of_ble_eq_true rfl), (Nat.le_of_ble_eq_true rfl)⟩ dX11_meeting_31 (fun H locs hR hS => ?_)
      refine lv_if_ne (tgt := 40) hx hb dX11_meeting_34 (by decide) (fun c11 => ?_) (fun c11 => ?_)
      · have hF := xel hF c11
        refine lv_aload_n hx hb dX11_meeting_40 rfl (lv_at hl 0 rfl) ?_
        obtain ⟨a12, e_a12, hF⟩ := xbd hF
        obtain ⟨e_a12, t_a12⟩ := xgo_sp e_a12
        refine gf_X11_76 C0 hR t_v0 e_a12 dX11_meeting_41 ?_
        obtain ⟨a14, h13, e_h13, hF⟩ := xbd2 hF
        obtain ⟨u15, e_u15, hF⟩ := xbd hF
        have t_a14 := xck_sp e_u15
        refine cl_X11_234 C0 hR hS e_h13 t_a12 ⟨(Nat.le_of_ble_eq_true rfl), (Nat.le_of_ble_eq_true rfl)⟩ hl.1 (Nat.le_of_ble_eq_true rfl) ⟨(Nat.le_of_ble_eq_true rfl), (Nat.le_of_ble_eq_true rfl)⟩ dX11_meeting_44 (fun H locs hR hS => ?_)
        refine lv_iload_n hx hb dX11_meeting_47 rfl (lv_at hl 2 rfl) ?_
        obtain ⟨a16, e_a16, hF⟩ := xbd hF
        refine cl_X11_178 C0 hR hS e_a16 t_a14 ⟨(Nat.le_of_ble_eq_true rfl), (Nat.le_of_ble_eq_true rfl)⟩ hl.1 (Nat.le_of_ble_eq_true rfl) ⟨(Nat.le_of_ble_eq_true rfl), (Nat.le_of_ble_eq_true rfl)⟩ dX11_meeting_48 (fun H locs hR hS => ?_)
        cases hF
        exact x_iret C0 hR hS dX11_meeting_51
      · have hF := xif hF c11
        refine lv_bipush (v := (-2)) hx hb dX11_meeting_37 (by decide) ?_
        cases hF
        exact x_iret C0 hR hS dX11_meeting_39
    · have hF := xif hF c3
      refine lv_iconst (v := (-1)) hx hb dX11_meeting_12 (by decide) ?_
      cases hF
      exact x_iret C0 hR hS dX11_meeting_13
theorem xm_X11_meeting : xMw yX11_meeting cX11_meeting 3 (some .int) 2 := ⟨xin 914 (by decide +kernel) rfl, xin 114 (by decide +kernel) rfl, by decide +kernel⟩
theorem xi_X11_meeting : Cond.instanceMethod yX11_meeting ∈ xT := xin 912 (by decide +kernel) rfl
theorem xe_X11_meeting : Cond.selects yX11_meeting.cls yX11_meeting yX11_meeting ∈ xT := xin 913 (by decide +kernel) rfl
theorem dX11_aboveBits_0 : decode cX11_aboveBits 0 = .ok (.iconst 0, 1) := by decide +kernel
theorem dX11_aboveBits_1 : decode cX11_aboveBits 1 = .ok (.istore_n 2, 1) := by decide +kernel
theorem dX11_aboveBits_2 : decode cX11_aboveBits 2 = .ok (.iconst 0, 1) := by decide +kernel
theorem dX11_aboveBits_3 : decode cX11_aboveBits 3 = .ok (.istore_n 3, 1) := by decide +kernel
theorem dX11_aboveBits_4 : decode cX11_aboveBits 4 = .ok (.iload_n 3, 1) := by decide +kernel
theorem dX11_aboveBits_5 : decode cX11_aboveBits 5 = .ok (.aload_n 0, 1) := by decide +kernel
theorem dX11_aboveBits_6 : decode cX11_aboveBits 6 = .ok (.getfield 20, 3) := by decide +kernel
theorem dX11_aboveBits_9 : decode cX11_aboveBits 9 = .ok (.getfield 111, 3) := by decide +kernel
theorem dX11_aboveBits_12 : decode cX11_aboveBits 12 = .ok (.if_icmp .ge 47, 3) := by decide +kernel
theorem dX11_aboveBits_15 : decode cX11_aboveBits 15 = .ok (.iload_n 3, 1) := by decide +kernel
theorem dX11_aboveBits_16 : decode cX11_aboveBits 16 = .ok (.iload_n 1, 1) := by decide +kernel
theorem dX11_aboveBits_17 : decode cX11_aboveBits 17 = .ok (.if_icmp .eq 36, 3) := by decide +kernel
theorem dX11_aboveBits_20 : decode cX11_aboveBits 20 = .ok (.aload_n 0, 1) := by decide +kernel
theorem dX11_aboveBits_21 : decode cX11_aboveBits 21 = .ok (.getfield 69, 3) := by decide +kernel
theorem dX11_aboveBits_24 : decode cX11_aboveBits 24 = .ok (.aload_n 0, 1) := by decide +kernel
theorem dX11_aboveBits_25 : decode cX11_aboveBits 25 = .ok (.getfield 20, 3) := by decide +kernel
theorem dX11_aboveBits_28 : decode cX11_aboveBits 28 = .ok (.iload_n 1, 1) := by decide +kernel
theorem dX11_aboveBits_29 : decode cX11_aboveBits 29 = .ok (.invokevirtual 155, 3) := by decide +kernel
theorem dX11_aboveBits_32 : decode cX11_aboveBits 32 = .ok (.aload_n 0, 1) := by decide +kernel
theorem dX11_aboveBits_33 : decode cX11_aboveBits 33 = .ok (.getfield 20, 3) := by decide +kernel
theorem dX11_aboveBits_36 : decode cX11_aboveBits 36 = .ok (.iload_n 3, 1) := by decide +kernel
theorem dX11_aboveBits_37 : decode cX11_aboveBits 37 = .ok (.invokevirtual 155, 3) := by decide +kernel
theorem dX11_aboveBits_40 : decode cX11_aboveBits 40 = .ok (.iconst 0, 1) := by decide +kernel
theorem dX11_aboveBits_41 : decode cX11_aboveBits 41 = .ok (.invokevirtual 223, 3) := by decide +kernel
theorem dX11_aboveBits_44 : decode cX11_aboveBits 44 = .ok (.ifCond .eq 9, 3) := by decide +kernel
theorem dX11_aboveBits_47 : decode cX11_aboveBits 47 = .ok (.iload_n 2, 1) := by decide +kernel
theorem dX11_aboveBits_48 : decode cX11_aboveBits 48 = .ok (.iconst 1, 1) := by decide +kernel
theorem dX11_aboveBits_49 : decode cX11_aboveBits 49 = .ok (.iload_n 3, 1) := by decide +kernel
theorem dX11_aboveBits_50 : decode cX11_aboveBits 50 = .ok (.ishl, 1) := by decide +kernel
theorem dX11_aboveBits_51 : decode cX11_aboveBits 51 = .ok (.ior, 1) := by decide +kernel
theorem dX11_aboveBits_52 : decode cX11_aboveBits 52 = .ok (.istore_n 2, 1) := by decide +kernel
theorem dX11_aboveBits_53 : decode cX11_aboveBits 53 = .ok (.iinc 3 1, 3) := by decide +kernel
theorem dX11_aboveBits_56 : decode cX11_aboveBits 56 = .ok (.goto (-52), 3) := by decide +kernel
theorem dX11_aboveBits_59 : decode cX11_aboveBits 59 = .ok (.iload_n 2, 1) := by decide +kernel
theorem dX11_aboveBits_60 : decode cX11_aboveBits 60 = .ok (.ireturn, 1) := by decide +kernel
set_option maxHeartbeats 4000000 in
set_option maxRecDepth 100000 in
theorem jw_X11_aboveBits_4 {p : Program} {l : Launch} {e : Env} {s : State} {m : MethodId} {args : Array Value} {below : List Frame} {meth : Method} {c : Code} {D : xD} {ty : xTy} (C0 : xC D RX11 cX11_aboveBits 4 (some .int) p s m args meth c) {r : Int32} {h9 : xH} : ∀ n : Nat, ∀ (v0 : Nat) (v1 : Int32) (v2 : Int32) (v3 : Int32) (h : xH), ty v0 = some (0, 11) → jf_X11_aboveBits_4 ty n v0 v1 v2 v3 h = some (r, h9) → ∀ (H : Heap) (locs : List Loc), xRep D ty h H → xS ty s.heap H locs → ∀ ls : Array Slot, lv_has ls 4 [(0, .ref v0), (1, .int v1), (2, .int v2), (3, .int v3)] → W p l e jr_X11_aboveBits s m args below meth c H locs 0 0 (MQ below (xQ D ty (some (.int r)) h9) args s 0 0 (xdom ty)) (F0 m 4 ls []) := by
  have hx := C0.1
  have hb := C0.2.1
  have hown := C0.2.2.2.2.2.1
  have hts := C0.2.2.2.2.2.2.1
  intro n
  induction n with
  | zero =>
    intro v0 v1 v2 v3 h t_v0 hF H locs hR hS ls hl
    cases hF
  | succ n ih =>
    intro v0 v1 v2 v3 h t_v0 hF H locs hR hS ls hl
    rw [jf_X11_aboveBits_4_s] at hF
    refine lv_iload_n hx hb dX11_aboveBits_4 rfl (lv_at hl 3 rfl) ?_
    refine lv_aload_n hx hb dX11_aboveBits_5 rfl (lv_at hl 0 rfl) ?_
    obtain ⟨a1, e_a1, hF⟩ := xbd hF
    obtain ⟨e_a1, t_a1⟩ := xgo_sp e_a1
    refine gf_X11_20 C0 hR t_v0 e_a1 dX11_aboveBits_6 ?_
    refine gf_X11_111 C0 hR t_a1 dX11_aboveBits_9 ?_
    refine lv_icmp_ge (tgt := 59) hx hb dX11_aboveBits_12 (by decide) (fun c2 => ?_) (fun c2 => ?_)
    · have hF := xif hF c2
      refine lv_iload_n hx hb dX11_aboveBits_59 rfl (lv_at hl 2 rfl) ?_
      cases hF
      exact x_iret C0 hR hS dX11_aboveBits_60
    · have hF := xel hF c2
      refine lv_iload_n hx hb dX11_aboveBits_15 rfl (lv_at hl 3 rfl) ?_
      refine lv_iload_n hx hb dX11_aboveBits_16 rfl (lv_at hl 1 rfl) ?_
      refine lv_icmp_eq (tgt := 53) hx hb dX11_aboveBits_17 (by decide) (fun c3 => ?_) (fun c3 => ?_)
      · have hF := xif hF c3
        refine lv_iinc (v := v3 + 1) (lv' := [(3, .int (v3 + 1)), (0, .ref v0), (1, .int v1), (2, .int v2)]) hx hb dX11_aboveBits_53 hl (k := 3) rfl rfl (by decide) rfl (fun ls hl => ?_)
        refine lv_goto (tgt := 4) hx hb dX11_aboveBits_56 (by decide) ?_
        exact ih _ _ _ _ _ t_v0 hF _ _ hR hS _ (lv_sub hl [1, 2, 3, 0] rfl)
      · have hF := xel hF c3
        refine lv_aload_n hx hb dX11_aboveBits_20 rfl (lv_at hl 0 rfl) ?_
        obtain ⟨a4, e_a4, hF⟩ := xbd hF
        obtain ⟨e_a4, t_a4⟩ := xgo_sp e_a4
        refine gf_X11_69 C0 hR t_v0 e_a4 dX11_aboveBits_21 ?_
        refine lv_aload_n hx hb dX11_aboveBits_24 rfl (lv_at hl 0 rfl) ?_
        obtain ⟨a5, e_a5, hF⟩ := xbd hF
        obtain ⟨e_a5, t_a5⟩ := xgo_sp e_a5
        refine gf_X11_20 C0 hR t_v0 e_a5 dX11_aboveBits_25 ?_
        refine lv_iload_n hx hb dX11_aboveBits_28 rfl (lv_at hl 1 rfl) ?_
        obtain ⟨a6, e_a6, hF⟩ := xbd hF
        obtain ⟨u7, e_u7, hF⟩ := xbd hF
        have t_a6 := xck_sp e_u7
        refine cl_X11_155 C0 hR hS e_a6 t_a5 ⟨(Nat.le_of_ble_eq_true rfl), (Nat.le_of_ble_eq_true rfl)⟩ hl.1 (Nat.le_of_ble_eq_true rfl) ⟨(Nat.le_of_ble_eq_true rfl), (Nat.le_of_ble_eq_true rfl)⟩ dX11_aboveBits_29 (fun H locs hR hS => ?_)
        refine lv_aload_n hx hb dX11_aboveBits_32 rfl (lv_at hl 0 rfl) ?_
        obtain ⟨a8, e_a8, hF⟩ := xbd hF
        obtain ⟨e_a8, t_a8⟩ := xgo_sp e_a8
        refine gf_X11_20 C0 hR t_v0 e_a8 dX11_aboveBits_33 ?_
        refine lv_iload_n hx hb dX11_aboveBits_36 rfl (lv_at hl 3 rfl) ?_
        obtain ⟨a9, e_a9, hF⟩ := xbd hF
        obtain ⟨u10, e_u10, hF⟩ := xbd hF
        have t_a9 := xck_sp e_u10
        refine cl_X11_155 C0 hR hS e_a9 t_a8 ⟨(Nat.le_of_ble_eq_true rfl), (Nat.le_of_ble_eq_true rfl)⟩ hl.1 (Nat.le_of_ble_eq_true rfl) ⟨(Nat.le_of_ble_eq_true rfl), (Nat.le_of_ble_eq_true rfl)⟩ dX11_aboveBits_37 (fun H locs hR hS => ?_)
        refine lv_iconst (v := 0) hx hb dX11_aboveBits_40 (by decide) ?_
        obtain ⟨a12, h11, e_h11, hF⟩ := xbd2 hF
        refine cl_X11_223 C0 hR hS e_h11 t_a4 t_a6 t_a9 ⟨(Nat.le_of_ble_eq_true rfl), (Nat.le_of_ble_eq_true rfl)⟩ hl.1 (Nat.le_of_ble_eq_true rfl) ⟨(Nat.le_of_ble_eq_true rfl), (Nat.le_of_ble_eq_true rfl)⟩ dX11_aboveBits_41 (fun H locs hR hS => ?_)
        refine lv_if_eq (tgt := 53) hx hb dX11_aboveBits_44 (by decide) (fun c13 => ?_) (fun c13 => ?_)
        · have hF := xif hF c13
          refine lv_iinc (v := v3 + 1) (lv' := [(3, .int (v3 + 1)), (0, .ref v0), (1, .int v1), (2, .int v2)]) hx hb dX11_aboveBits_53 hl (k := 3) rfl rfl (by decide) rfl (fun ls hl => ?_)
          refine lv_goto (tgt := 4) hx hb dX11_aboveBits_56 (by decide) ?_
          exact ih _ _ _ _ _ t_v0 hF _ _ hR hS _ (lv_sub hl [1, 2, 3, 0] rfl)
        · have hF := xel hF c13
          refine lv_iload_n hx hb dX11_aboveBits_47 rfl (lv_at hl 2 rfl) ?_
          refine lv_iconst (v := 1) hx hb dX11_aboveBits_48 (by decide) ?_
          refine lv_iload_n hx hb dX11_aboveBits_49 rfl (lv_at hl 3 rfl) ?_
          refine lv_ishl hx hb dX11_aboveBits_50 ?_
          refine lv_ior hx hb dX11_aboveBits_51 ?_
          refine lv_istore_n (lv' := [(2, .int (v2 ||| (1 <<< (v3 &&& 31)))), (0, .ref v0), (1, .int v1), (3, .int v3)]) hx hb dX11_aboveBits_52 rfl hl (by decide) rfl (fun ls hl => ?_)
          refine lv_iinc (v := v3 + 1) (lv' := [(3, .int (v3 + 1)), (2, .int (v2 ||| (1 <<< (v3 &&& 31)))), (0, .ref v0), (1, .int v1)]) hx hb dX11_aboveBits_53 hl (k := 3) rfl rfl (by decide) rfl (fun ls hl => ?_)
          refine lv_goto (tgt := 4) hx hb dX11_aboveBits_56 (by decide) ?_
          exact ih _ _ _ _ _ t_v0 hF _ _ hR hS _ (lv_sub hl [2, 3, 1, 0] rfl)
set_option maxHeartbeats 4000000 in
set_option maxRecDepth 100000 in
theorem jc_X11_aboveBits {l : Launch} {D : xD} {ty : xTy} {h : xH} {v0 : Nat} {v1 : Int32} {r : Int32} {h9 : xH} (t_v0 : ty v0 = some (0, 11)) (hF : jf_X11_aboveBits ty h v0 v1 = some (r, h9)) : Met l yX11_aboveBits (xws yX11_aboveBits cX11_aboveBits 4 (some .int)) jr_X11_aboveBits (xPc D ty h [.ref v0, .int v1]) (xQ D ty (some (.int r)) h9) 0 0 (xdom ty) := by
  refine x_met (by decide) ?_
  intro p e s m below meth c C0 hR
  generalize hargs : ([.ref v0, .int v1] : List Value).toArray = args at C0 ⊢
  have hx := C0.1
  have hb := C0.2.1
  have hown := C0.2.2.2.2.2.1
  have hts := C0.2.2.2.2.2.2.1
  have hS : xS ty s.heap s.heap [] := xS.rf
  have hl := lv_entry ([.ref v0, .int v1]) (n := 4) (Nat.le_of_ble_eq_true rfl)
  rw [← hargs, lg_entry_eq]
  rw [hargs]
  generalize (lg_sl ([.ref v0, .int v1]) ++ List.replicate (4 - (lg_sl ([.ref v0, .int v1])).length) Slot.unset).toArray = ls at hl ⊢
  have hl : lv_has ls 4 [(0, .ref v0), (1, .int v1)] := hl
  unfold jf_X11_aboveBits at hF
  refine lv_iconst (v := 0) hx hb dX11_aboveBits_0 (by decide) ?_
  refine lv_istore_n (lv' := [(2, .int 0), (0, .ref v0), (1, .int v1)]) hx hb dX11_aboveBits_1 rfl hl (by decide) rfl (fun ls hl => ?_)
  refine lv_iconst (v := 0) hx hb dX11_aboveBits_2 (by decide) ?_
  refine lv_istore_n (lv' := [(3, .int 0), (2, .int 0), (0, .ref v0), (1, .int v1)]) hx hb dX11_aboveBits_3 rfl hl (by decide) rfl (fun ls hl => ?_)
  obtain ⟨_, hF⟩ := xlim_sp hF
  exact jw_X11_aboveBits_4 C0 _ _ _ _ _ _ t_v0 hF _ _ hR hS _ (lv_sub hl [2, 3, 1, 0] rfl)
theorem xm_X11_aboveBits : xMw yX11_aboveBits cX11_aboveBits 4 (some .int) 1 := ⟨xin 936 (by decide +kernel) rfl, xin 114 (by decide +kernel) rfl, by decide +kernel⟩
theorem xi_X11_aboveBits : Cond.instanceMethod yX11_aboveBits ∈ xT := xin 935 (by decide +kernel) rfl
theorem xe_X11_aboveBits : Cond.selects yX11_aboveBits.cls yX11_aboveBits yX11_aboveBits ∈ xT := xin 39 (by decide +kernel) rfl
theorem dX11_above_0 : decode cX11_above 0 = .ok (.aload_n 0, 1) := by decide +kernel
theorem dX11_above_1 : decode cX11_above 1 = .ok (.getfield 20, 3) := by decide +kernel
theorem dX11_above_4 : decode cX11_above 4 = .ok (.iload_n 1, 1) := by decide +kernel
theorem dX11_above_5 : decode cX11_above 5 = .ok (.invokevirtual 144, 3) := by decide +kernel
theorem dX11_above_8 : decode cX11_above 8 = .ok (.ifCond .eq 11, 3) := by decide +kernel
theorem dX11_above_11 : decode cX11_above 11 = .ok (.aload_n 0, 1) := by decide +kernel
theorem dX11_above_12 : decode cX11_above 12 = .ok (.iload_n 1, 1) := by decide +kernel
theorem dX11_above_13 : decode cX11_above 13 = .ok (.invokevirtual 238, 3) := by decide +kernel
theorem dX11_above_16 : decode cX11_above 16 = .ok (.goto 4, 3) := by decide +kernel
theorem dX11_above_19 : decode cX11_above 19 = .ok (.iconst (-1), 1) := by decide +kernel
theorem dX11_above_20 : decode cX11_above 20 = .ok (.ireturn, 1) := by decide +kernel
theorem wl_X11_238 : Cond.methodLink RX11 238 yX11_aboveBits ∈ xT := xin 933 (by decide +kernel) rfl
section XN_X11_above
variable {p : Program} {l : Launch} {e : Env} {R : Room} {s : State} {m : MethodId} {args : Array Value} {below : List Frame} {meth : Method} {c : Code} {H H0 : Heap} {locs : List Loc} {cells slots : Nat} {Q : State → Prop} {cc : ByteArray} {nL pc : Nat} {rt : Option FieldType} {ls : Array Slot} {rest : List Value} {D : xD} {ty : xTy} {h : xH}
theorem cl_X11_238 {v0 : Nat} {v1 : Int32} {r : Int32} {h9 : xH} (C0 : xC D RX11 cc nL rt p s m args meth c) (hR : xRep D ty h H) (hS : xS ty H0 H locs) (hF : jf_X11_aboveBits ty h v0 v1 = some (r, h9)) (t_v0 : ty v0 = some (0, 11)) (hrm : jr_X11_aboveBits.frames + 1 ≤ R.frames ∧ 8 + (4 + 11) + jr_X11_aboveBits.locals ≤ R.locals) (hsz : ls.size = nL) (hW : (rest.map fun v => v.category).sum ≤ 8) (hf : cells ≤ R.cells ∧ slots ≤ R.slots) (hdg : decode cc pc = .ok (.invokevirtual 238, 3)) (kk : ∀ (H1 : Heap) (locs1 : List Loc), xRep D ty h9 H1 → xS ty H0 H1 locs1 → W p l e R s m args below meth c H1 locs1 cells slots Q (F0 m (pc + 3) ls (.int r :: rest))) : W p l e R s m args below meth c H locs cells slots Q (F0 m pc ls (.int v1 :: .ref v0 :: rest)) := x_callV C0 (jc_X11_aboveBits t_v0 hF) xm_X11_aboveBits xi_X11_aboveBits xe_X11_aboveBits wl_X11_238 ⟨rfl, rfl, hrm⟩ (ci := 11) rfl t_v0 hR hS (As := [.int v1]) rfl hsz rfl hW hdg hf kk
end XN_X11_above
set_option maxHeartbeats 4000000 in
set_option maxRecDepth 100000 in
theorem jc_X11_above {l : Launch} {D : xD} {ty : xTy} {h : xH} {v0 : Nat} {v1 : Int32} {r : Int32} {h9 : xH} (t_v0 : ty v0 = some (0, 11)) (hF : jf_X11_above ty h v0 v1 = some (r, h9)) : Met l yX11_above (xws yX11_above cX11_above 2 (some .int)) jr_X11_above (xPc D ty h [.ref v0, .int v1]) (xQ D ty (some (.int r)) h9) 0 0 (xdom ty) := by
  refine x_met (by decide) ?_
  intro p e s m below meth c C0 hR
  generalize hargs : ([.ref v0, .int v1] : List Value).toArray = args at C0 ⊢
  have hx := C0.1
  have hb := C0.2.1
  have hown := C0.2.2.2.2.2.1
  have hts := C0.2.2.2.2.2.2.1
  have hS : xS ty s.heap s.heap [] := xS.rf
  have hl := lv_entry ([.ref v0, .int v1]) (n := 2) (Nat.le_of_ble_eq_true rfl)
  rw [← hargs, lg_entry_eq]
  rw [hargs]
  generalize (lg_sl ([.ref v0, .int v1]) ++ List.replicate (2 - (lg_sl ([.ref v0, .int v1])).length) Slot.unset).toArray = ls at hl ⊢
  have hl : lv_has ls 2 [(0, .ref v0), (1, .int v1)] := hl
  unfold jf_X11_above at hF
  refine lv_aload_n hx hb dX11_above_0 rfl (lv_at hl 0 rfl) ?_
  obtain ⟨a1, e_a1, hF⟩ := xbd hF
  obtain ⟨e_a1, t_a1⟩ := xgo_sp e_a1
  refine gf_X11_20 C0 hR t_v0 e_a1 dX11_above_1 ?_
  refine lv_iload_n hx hb dX11_above_4 rfl (lv_at hl 1 rfl) ?_
  obtain ⟨a2, e_a2, hF⟩ := xbd hF
  refine cl_X11_144 C0 hR hS e_a2 t_a1 ⟨(Nat.le_of_ble_eq_true rfl), (Nat.le_of_ble_eq_true rfl)⟩ hl.1 (Nat.le_of_ble_eq_true rfl) ⟨(Nat.le_of_ble_eq_true rfl), (Nat.le_of_ble_eq_true rfl)⟩ dX11_above_5 (fun H locs hR hS => ?_)
  refine lv_if_eq (tgt := 19) hx hb dX11_above_8 (by decide) (fun c3 => ?_) (fun c3 => ?_)
  · have hF := xif hF c3
    refine lv_iconst (v := (-1)) hx hb dX11_above_19 (by decide) ?_
    cases hF
    exact x_iret C0 hR hS dX11_above_20
  · have hF := xel hF c3
    refine lv_aload_n hx hb dX11_above_11 rfl (lv_at hl 0 rfl) ?_
    refine lv_iload_n hx hb dX11_above_12 rfl (lv_at hl 1 rfl) ?_
    obtain ⟨a5, h4, e_h4, hF⟩ := xbd2 hF
    refine cl_X11_238 C0 hR hS e_h4 t_v0 ⟨(Nat.le_of_ble_eq_true rfl), (Nat.le_of_ble_eq_true rfl)⟩ hl.1 (Nat.le_of_ble_eq_true rfl) ⟨(Nat.le_of_ble_eq_true rfl), (Nat.le_of_ble_eq_true rfl)⟩ dX11_above_13 (fun H locs hR hS => ?_)
    refine lv_goto (tgt := 20) hx hb dX11_above_16 (by decide) ?_
    cases hF
    exact x_iret C0 hR hS dX11_above_20
theorem xm_X11_above : xMw yX11_above cX11_above 2 (some .int) 1 := ⟨xin 932 (by decide +kernel) rfl, xin 114 (by decide +kernel) rfl, by decide +kernel⟩
theorem xi_X11_above : Cond.instanceMethod yX11_above ∈ xT := xin 930 (by decide +kernel) rfl
theorem xe_X11_above : Cond.selects yX11_above.cls yX11_above yX11_above ∈ xT := xin 931 (by decide +kernel) rfl
theorem dX11_bitsBehind_0 : decode cX11_bitsBehind 0 = .ok (.bipush (-2), 2) := by decide +kernel
theorem dX11_bitsBehind_2 : decode cX11_bitsBehind 2 = .ok (.iload_n 0, 1) := by decide +kernel
theorem dX11_bitsBehind_3 : decode cX11_bitsBehind 3 = .ok (.ishl, 1) := by decide +kernel
theorem dX11_bitsBehind_4 : decode cX11_bitsBehind 4 = .ok (.ireturn, 1) := by decide +kernel
set_option maxHeartbeats 4000000 in
set_option maxRecDepth 100000 in
theorem jc_X11_bitsBehind {l : Launch} {D : xD} {ty : xTy} {h : xH} {v0 : Int32} {r : Int32} (hF : jf_X11_bitsBehind v0 = some r) : Met l yX11_bitsBehind (xws yX11_bitsBehind cX11_bitsBehind 1 (some .int)) jr_X11_bitsBehind (xPc D ty h [.int v0]) (xQ D ty (some (.int r)) h) 0 0 (xdom ty) := by
  refine x_met (by decide) ?_
  intro p e s m below meth c C0 hR
  generalize hargs : ([.int v0] : List Value).toArray = args at C0 ⊢
  have hx := C0.1
  have hb := C0.2.1
  have hown := C0.2.2.2.2.2.1
  have hts := C0.2.2.2.2.2.2.1
  have hS : xS ty s.heap s.heap [] := xS.rf
  have hl := lv_entry ([.int v0]) (n := 1) (Nat.le_of_ble_eq_true rfl)
  rw [← hargs, lg_entry_eq]
  rw [hargs]
  generalize (lg_sl ([.int v0]) ++ List.replicate (1 - (lg_sl ([.int v0])).length) Slot.unset).toArray = ls at hl ⊢
  have hl : lv_has ls 1 [(0, .int v0)] := hl
  unfold jf_X11_bitsBehind at hF
  refine lv_bipush (v := (-2)) hx hb dX11_bitsBehind_0 (by decide) ?_
  refine lv_iload_n hx hb dX11_bitsBehind_2 rfl (lv_at hl 0 rfl) ?_
  refine lv_ishl hx hb dX11_bitsBehind_3 ?_
  cases hF
  exact x_iret C0 hR hS dX11_bitsBehind_4
theorem xm_X11_bitsBehind : xMw yX11_bitsBehind cX11_bitsBehind 1 (some .int) 1 := ⟨xin 943 (by decide +kernel) rfl, xin 114 (by decide +kernel) rfl, by decide +kernel⟩
theorem xs_X11_bitsBehind : Cond.static yX11_bitsBehind ∈ xT := xin 942 (by decide +kernel) rfl
theorem dX11_shadowed_0 : decode cX11_shadowed 0 = .ok (.iconst 0, 1) := by decide +kernel
theorem dX11_shadowed_1 : decode cX11_shadowed 1 = .ok (.istore_n 1, 1) := by decide +kernel
theorem dX11_shadowed_2 : decode cX11_shadowed 2 = .ok (.iconst 0, 1) := by decide +kernel
theorem dX11_shadowed_3 : decode cX11_shadowed 3 = .ok (.istore_n 2, 1) := by decide +kernel
theorem dX11_shadowed_4 : decode cX11_shadowed 4 = .ok (.iload_n 2, 1) := by decide +kernel
theorem dX11_shadowed_5 : decode cX11_shadowed 5 = .ok (.aload_n 0, 1) := by decide +kernel
theorem dX11_shadowed_6 : decode cX11_shadowed 6 = .ok (.getfield 20, 3) := by decide +kernel
theorem dX11_shadowed_9 : decode cX11_shadowed 9 = .ok (.getfield 111, 3) := by decide +kernel
theorem dX11_shadowed_12 : decode cX11_shadowed 12 = .ok (.if_icmp .ge 33, 3) := by decide +kernel
theorem dX11_shadowed_15 : decode cX11_shadowed 15 = .ok (.aload_n 0, 1) := by decide +kernel
theorem dX11_shadowed_16 : decode cX11_shadowed 16 = .ok (.getfield 55, 3) := by decide +kernel
theorem dX11_shadowed_19 : decode cX11_shadowed 19 = .ok (.iload_n 2, 1) := by decide +kernel
theorem dX11_shadowed_20 : decode cX11_shadowed 20 = .ok (.invokevirtual 166, 3) := by decide +kernel
theorem dX11_shadowed_23 : decode cX11_shadowed 23 = .ok (.ifCond .eq 16, 3) := by decide +kernel
theorem dX11_shadowed_26 : decode cX11_shadowed 26 = .ok (.iload_n 1, 1) := by decide +kernel
theorem dX11_shadowed_27 : decode cX11_shadowed 27 = .ok (.aload_n 0, 1) := by decide +kernel
theorem dX11_shadowed_28 : decode cX11_shadowed 28 = .ok (.iload_n 2, 1) := by decide +kernel
theorem dX11_shadowed_29 : decode cX11_shadowed 29 = .ok (.invokevirtual 238, 3) := by decide +kernel
theorem dX11_shadowed_32 : decode cX11_shadowed 32 = .ok (.iload_n 2, 1) := by decide +kernel
theorem dX11_shadowed_33 : decode cX11_shadowed 33 = .ok (.invokestatic 241, 3) := by decide +kernel
theorem dX11_shadowed_36 : decode cX11_shadowed 36 = .ok (.iand, 1) := by decide +kernel
theorem dX11_shadowed_37 : decode cX11_shadowed 37 = .ok (.ior, 1) := by decide +kernel
theorem dX11_shadowed_38 : decode cX11_shadowed 38 = .ok (.istore_n 1, 1) := by decide +kernel
theorem dX11_shadowed_39 : decode cX11_shadowed 39 = .ok (.iinc 2 1, 3) := by decide +kernel
theorem dX11_shadowed_42 : decode cX11_shadowed 42 = .ok (.goto (-38), 3) := by decide +kernel
theorem dX11_shadowed_45 : decode cX11_shadowed 45 = .ok (.iload_n 1, 1) := by decide +kernel
theorem dX11_shadowed_46 : decode cX11_shadowed 46 = .ok (.aload_n 0, 1) := by decide +kernel
theorem dX11_shadowed_47 : decode cX11_shadowed 47 = .ok (.getfield 55, 3) := by decide +kernel
theorem dX11_shadowed_50 : decode cX11_shadowed 50 = .ok (.getfield 198, 3) := by decide +kernel
theorem dX11_shadowed_53 : decode cX11_shadowed 53 = .ok (.iand, 1) := by decide +kernel
theorem dX11_shadowed_54 : decode cX11_shadowed 54 = .ok (.ireturn, 1) := by decide +kernel
theorem wl_X11_241 : Cond.methodLink RX11 241 yX11_bitsBehind ∈ xT := xin 941 (by decide +kernel) rfl
section XN_X11_shadowed
variable {p : Program} {l : Launch} {e : Env} {R : Room} {s : State} {m : MethodId} {args : Array Value} {below : List Frame} {meth : Method} {c : Code} {H H0 : Heap} {locs : List Loc} {cells slots : Nat} {Q : State → Prop} {cc : ByteArray} {nL pc : Nat} {rt : Option FieldType} {ls : Array Slot} {rest : List Value} {D : xD} {ty : xTy} {h : xH}
theorem cl_X11_241 {v0 : Int32} {r : Int32} (C0 : xC D RX11 cc nL rt p s m args meth c) (hR : xRep D ty h H) (hS : xS ty H0 H locs) (hF : jf_X11_bitsBehind v0 = some r) (hrm : jr_X11_bitsBehind.frames + 1 ≤ R.frames ∧ 8 + (1 + 11) + jr_X11_bitsBehind.locals ≤ R.locals) (hsz : ls.size = nL) (hW : (rest.map fun v => v.category).sum ≤ 8) (hf : cells ≤ R.cells ∧ slots ≤ R.slots) (hdg : decode cc pc = .ok (.invokestatic 241, 3)) (kk : ∀ (H1 : Heap) (locs1 : List Loc), xRep D ty h H1 → xS ty H0 H1 locs1 → W p l e R s m args below meth c H1 locs1 cells slots Q (F0 m (pc + 3) ls (.int r :: rest))) : W p l e R s m args below meth c H locs cells slots Q (F0 m pc ls (.int v0 :: rest)) := x_callS C0 (jc_X11_bitsBehind  hF) xm_X11_bitsBehind xs_X11_bitsBehind wl_X11_241 ⟨rfl, rfl, hrm⟩ hR hS (As := [.int v0]) rfl hsz rfl hW hdg hf kk
end XN_X11_shadowed
set_option maxHeartbeats 4000000 in
set_option maxRecDepth 100000 in
theorem jw_X11_shadowed_4 {p : Program} {l : Launch} {e : Env} {s : State} {m : MethodId} {args : Array Value} {below : List Frame} {meth : Method} {c : Code} {D : xD} {ty : xTy} (C0 : xC D RX11 cX11_shadowed 3 (some .int) p s m args meth c) {r : Int32} {h9 : xH} : ∀ n : Nat, ∀ (v0 : Nat) (v1 : Int32) (v2 : Int32) (h : xH), ty v0 = some (0, 11) → jf_X11_shadowed_4 ty n v0 v1 v2 h = some (r, h9) → ∀ (H : Heap) (locs : List Loc), xRep D ty h H → xS ty s.heap H locs → ∀ ls : Array Slot, lv_has ls 3 [(0, .ref v0), (1, .int v1), (2, .int v2)] → W p l e jr_X11_shadowed s m args below meth c H locs 0 0 (MQ below (xQ D ty (some (.int r)) h9) args s 0 0 (xdom ty)) (F0 m 4 ls []) := by
  have hx := C0.1
  have hb := C0.2.1
  have hown := C0.2.2.2.2.2.1
  have hts := C0.2.2.2.2.2.2.1
  intro n
  induction n with
  | zero =>
    intro v0 v1 v2 h t_v0 hF H locs hR hS ls hl
    cases hF
  | succ n ih =>
    intro v0 v1 v2 h t_v0 hF H locs hR hS ls hl
    rw [jf_X11_shadowed_4_s] at hF
    refine lv_iload_n hx hb dX11_shadowed_4 rfl (lv_at hl 2 rfl) ?_
    refine lv_aload_n hx hb dX11_shadowed_5 rfl (lv_at hl 0 rfl) ?_
    obtain ⟨a1, e_a1, hF⟩ := xbd hF
    obtain ⟨e_a1, t_a1⟩ := xgo_sp e_a1
    refine gf_X11_20 C0 hR t_v0 e_a1 dX11_shadowed_6 ?_
    refine gf_X11_111 C0 hR t_a1 dX11_shadowed_9 ?_
    refine lv_icmp_ge (tgt := 45) hx hb dX11_shadowed_12 (by decide) (fun c2 => ?_) (fun c2 => ?_)
    · have hF := xif hF c2
      refine lv_iload_n hx hb dX11_shadowed_45 rfl (lv_at hl 1 rfl) ?_
      refine lv_aload_n hx hb dX11_shadowed_46 rfl (lv_at hl 0 rfl) ?_
      obtain ⟨a3, e_a3, hF⟩ := xbd hF
      obtain ⟨e_a3, t_a3⟩ := xgo_sp e_a3
      refine gf_X11_55 C0 hR t_v0 e_a3 dX11_shadowed_47 ?_
      refine gf_X11_198 C0 hR t_a3 dX11_shadowed_50 ?_
      refine lv_iand hx hb dX11_shadowed_53 ?_
      cases hF
      exact x_iret C0 hR hS dX11_shadowed_54
    · have hF := xel hF c2
      refine lv_aload_n hx hb dX11_shadowed_15 rfl (lv_at hl 0 rfl) ?_
      obtain ⟨a4, e_a4, hF⟩ := xbd hF
      obtain ⟨e_a4, t_a4⟩ := xgo_sp e_a4
      refine gf_X11_55 C0 hR t_v0 e_a4 dX11_shadowed_16 ?_
      refine lv_iload_n hx hb dX11_shadowed_19 rfl (lv_at hl 2 rfl) ?_
      obtain ⟨a5, e_a5, hF⟩ := xbd hF
      refine cl_X11_166 C0 hR hS e_a5 t_a4 ⟨(Nat.le_of_ble_eq_true rfl), (Nat.le_of_ble_eq_true rfl)⟩ hl.1 (Nat.le_of_ble_eq_true rfl) ⟨(Nat.le_of_ble_eq_true rfl), (Nat.le_of_ble_eq_true rfl)⟩ dX11_shadowed_20 (fun H locs hR hS => ?_)
      refine lv_if_eq (tgt := 39) hx hb dX11_shadowed_23 (by decide) (fun c6 => ?_) (fun c6 => ?_)
      · have hF := xif hF c6
        refine lv_iinc (v := v2 + 1) (lv' := [(2, .int (v2 + 1)), (0, .ref v0), (1, .int v1)]) hx hb dX11_shadowed_39 hl (k := 2) rfl rfl (by decide) rfl (fun ls hl => ?_)
        refine lv_goto (tgt := 4) hx hb dX11_shadowed_42 (by decide) ?_
        exact ih _ _ _ _ t_v0 hF _ _ hR hS _ (lv_sub hl [1, 2, 0] rfl)
      · have hF := xel hF c6
        refine lv_iload_n hx hb dX11_shadowed_26 rfl (lv_at hl 1 rfl) ?_
        refine lv_aload_n hx hb dX11_shadowed_27 rfl (lv_at hl 0 rfl) ?_
        refine lv_iload_n hx hb dX11_shadowed_28 rfl (lv_at hl 2 rfl) ?_
        obtain ⟨a8, h7, e_h7, hF⟩ := xbd2 hF
        refine cl_X11_238 C0 hR hS e_h7 t_v0 ⟨(Nat.le_of_ble_eq_true rfl), (Nat.le_of_ble_eq_true rfl)⟩ hl.1 (Nat.le_of_ble_eq_true rfl) ⟨(Nat.le_of_ble_eq_true rfl), (Nat.le_of_ble_eq_true rfl)⟩ dX11_shadowed_29 (fun H locs hR hS => ?_)
        refine lv_iload_n hx hb dX11_shadowed_32 rfl (lv_at hl 2 rfl) ?_
        obtain ⟨a9, e_a9, hF⟩ := xbd hF
        refine cl_X11_241 C0 hR hS e_a9  ⟨(Nat.le_of_ble_eq_true rfl), (Nat.le_of_ble_eq_true rfl)⟩ hl.1 (Nat.le_of_ble_eq_true rfl) ⟨(Nat.le_of_ble_eq_true rfl), (Nat.le_of_ble_eq_true rfl)⟩ dX11_shadowed_33 (fun H locs hR hS => ?_)
        refine lv_iand hx hb dX11_shadowed_36 ?_
        refine lv_ior hx hb dX11_shadowed_37 ?_
        refine lv_istore_n (lv' := [(1, .int (v1 ||| (a8 &&& a9))), (0, .ref v0), (2, .int v2)]) hx hb dX11_shadowed_38 rfl hl (by decide) rfl (fun ls hl => ?_)
        refine lv_iinc (v := v2 + 1) (lv' := [(2, .int (v2 + 1)), (1, .int (v1 ||| (a8 &&& a9))), (0, .ref v0)]) hx hb dX11_shadowed_39 hl (k := 2) rfl rfl (by decide) rfl (fun ls hl => ?_)
        refine lv_goto (tgt := 4) hx hb dX11_shadowed_42 (by decide) ?_
        exact ih _ _ _ _ t_v0 hF _ _ hR hS _ (lv_sub hl [2, 1, 0] rfl)
set_option maxHeartbeats 4000000 in
set_option maxRecDepth 100000 in
theorem jc_X11_shadowed {l : Launch} {D : xD} {ty : xTy} {h : xH} {v0 : Nat} {r : Int32} {h9 : xH} (t_v0 : ty v0 = some (0, 11)) (hF : jf_X11_shadowed ty h v0 = some (r, h9)) : Met l yX11_shadowed (xws yX11_shadowed cX11_shadowed 3 (some .int)) jr_X11_shadowed (xPc D ty h [.ref v0]) (xQ D ty (some (.int r)) h9) 0 0 (xdom ty) := by
  refine x_met (by decide) ?_
  intro p e s m below meth c C0 hR
  generalize hargs : ([.ref v0] : List Value).toArray = args at C0 ⊢
  have hx := C0.1
  have hb := C0.2.1
  have hown := C0.2.2.2.2.2.1
  have hts := C0.2.2.2.2.2.2.1
  have hS : xS ty s.heap s.heap [] := xS.rf
  have hl := lv_entry ([.ref v0]) (n := 3) (Nat.le_of_ble_eq_true rfl)
  rw [← hargs, lg_entry_eq]
  rw [hargs]
  generalize (lg_sl ([.ref v0]) ++ List.replicate (3 - (lg_sl ([.ref v0])).length) Slot.unset).toArray = ls at hl ⊢
  have hl : lv_has ls 3 [(0, .ref v0)] := hl
  unfold jf_X11_shadowed at hF
  refine lv_iconst (v := 0) hx hb dX11_shadowed_0 (by decide) ?_
  refine lv_istore_n (lv' := [(1, .int 0), (0, .ref v0)]) hx hb dX11_shadowed_1 rfl hl (by decide) rfl (fun ls hl => ?_)
  refine lv_iconst (v := 0) hx hb dX11_shadowed_2 (by decide) ?_
  refine lv_istore_n (lv' := [(2, .int 0), (1, .int 0), (0, .ref v0)]) hx hb dX11_shadowed_3 rfl hl (by decide) rfl (fun ls hl => ?_)
  obtain ⟨_, hF⟩ := xlim_sp hF
  exact jw_X11_shadowed_4 C0 _ _ _ _ _ t_v0 hF _ _ hR hS _ (lv_sub hl [2, 1, 0] rfl)
theorem xm_X11_shadowed : xMw yX11_shadowed cX11_shadowed 3 (some .int) 0 := ⟨xin 940 (by decide +kernel) rfl, xin 114 (by decide +kernel) rfl, by decide +kernel⟩
theorem xi_X11_shadowed : Cond.instanceMethod yX11_shadowed ∈ xT := xin 938 (by decide +kernel) rfl
theorem xe_X11_shadowed : Cond.selects yX11_shadowed.cls yX11_shadowed yX11_shadowed ∈ xT := xin 939 (by decide +kernel) rfl
theorem dX11_joined_0 : decode cX11_joined 0 = .ok (.aload_n 0, 1) := by decide +kernel
theorem dX11_joined_1 : decode cX11_joined 1 = .ok (.getfield 20, 3) := by decide +kernel
theorem dX11_joined_4 : decode cX11_joined 4 = .ok (.iload_n 1, 1) := by decide +kernel
theorem dX11_joined_5 : decode cX11_joined 5 = .ok (.invokevirtual 144, 3) := by decide +kernel
theorem dX11_joined_8 : decode cX11_joined 8 = .ok (.ifCond .eq 18, 3) := by decide +kernel
theorem dX11_joined_11 : decode cX11_joined 11 = .ok (.aload_n 0, 1) := by decide +kernel
theorem dX11_joined_12 : decode cX11_joined 12 = .ok (.getfield 20, 3) := by decide +kernel
theorem dX11_joined_15 : decode cX11_joined 15 = .ok (.iload_n 2, 1) := by decide +kernel
theorem dX11_joined_16 : decode cX11_joined 16 = .ok (.invokevirtual 144, 3) := by decide +kernel
theorem dX11_joined_19 : decode cX11_joined 19 = .ok (.ifCond .eq 7, 3) := by decide +kernel
theorem dX11_joined_22 : decode cX11_joined 22 = .ok (.iload_n 3, 1) := by decide +kernel
theorem dX11_joined_23 : decode cX11_joined 23 = .ok (.ifCond .ge 5, 3) := by decide +kernel
theorem dX11_joined_26 : decode cX11_joined 26 = .ok (.iconst (-1), 1) := by decide +kernel
theorem dX11_joined_27 : decode cX11_joined 27 = .ok (.ireturn, 1) := by decide +kernel
theorem dX11_joined_28 : decode cX11_joined 28 = .ok (.aload_n 0, 1) := by decide +kernel
theorem dX11_joined_29 : decode cX11_joined 29 = .ok (.getfield 83, 3) := by decide +kernel
theorem dX11_joined_32 : decode cX11_joined 32 = .ok (.aload_n 0, 1) := by decide +kernel
theorem dX11_joined_33 : decode cX11_joined 33 = .ok (.getfield 20, 3) := by decide +kernel
theorem dX11_joined_36 : decode cX11_joined 36 = .ok (.iload_n 1, 1) := by decide +kernel
theorem dX11_joined_37 : decode cX11_joined 37 = .ok (.invokevirtual 155, 3) := by decide +kernel
theorem dX11_joined_40 : decode cX11_joined 40 = .ok (.aload_n 0, 1) := by decide +kernel
theorem dX11_joined_41 : decode cX11_joined 41 = .ok (.getfield 20, 3) := by decide +kernel
theorem dX11_joined_44 : decode cX11_joined 44 = .ok (.iload_n 2, 1) := by decide +kernel
theorem dX11_joined_45 : decode cX11_joined 45 = .ok (.invokevirtual 155, 3) := by decide +kernel
theorem dX11_joined_48 : decode cX11_joined 48 = .ok (.invokevirtual 244, 3) := by decide +kernel
theorem dX11_joined_51 : decode cX11_joined 51 = .ok (.iload_n 3, 1) := by decide +kernel
theorem dX11_joined_52 : decode cX11_joined 52 = .ok (.invokevirtual 178, 3) := by decide +kernel
theorem dX11_joined_55 : decode cX11_joined 55 = .ok (.ireturn, 1) := by decide +kernel
theorem wl_X11_244 : Cond.methodLink RX11 244 yX2_joinedShape ∈ xT := xin 948 (by decide +kernel) rfl
theorem wf_X11_83 : Cond.fieldLink RX11 83 "TermShelf" "joiner" "LTermShelf$Joiner;" ∈ xT := xin 471 (by decide +kernel) rfl
section XN_X11_joined
variable {p : Program} {l : Launch} {e : Env} {R : Room} {s : State} {m : MethodId} {args : Array Value} {below : List Frame} {meth : Method} {c : Code} {H H0 : Heap} {locs : List Loc} {cells slots : Nat} {Q : State → Prop} {cc : ByteArray} {nL pc : Nat} {rt : Option FieldType} {ls : Array Slot} {rest : List Value} {D : xD} {ty : xTy} {h : xH}
theorem cl_X11_244 {v0 : Nat} {v1 : Nat} {v2 : Nat} {r : Nat} {h9 : xH} (C0 : xC D RX11 cc nL rt p s m args meth c) (hR : xRep D ty h H) (hS : xS ty H0 H locs) (hF : jf_X2_joinedShape ty h v0 v1 v2 = some (r, h9)) (t_v0 : ty v0 = some (0, 2)) (t_v1 : ty v1 = some (0, 7)) (t_v2 : ty v2 = some (0, 7)) (hrm : jr_X2_joinedShape.frames + 1 ≤ R.frames ∧ 8 + (7 + 11) + jr_X2_joinedShape.locals ≤ R.locals) (hsz : ls.size = nL) (hW : (rest.map fun v => v.category).sum ≤ 8) (hf : cells ≤ R.cells ∧ slots ≤ R.slots) (hdg : decode cc pc = .ok (.invokevirtual 244, 3)) (kk : ∀ (H1 : Heap) (locs1 : List Loc), xRep D ty h9 H1 → xS ty H0 H1 locs1 → W p l e R s m args below meth c H1 locs1 cells slots Q (F0 m (pc + 3) ls (.ref r :: rest))) : W p l e R s m args below meth c H locs cells slots Q (F0 m pc ls (.ref v2 :: .ref v1 :: .ref v0 :: rest)) := x_callV C0 (jc_X2_joinedShape t_v0 t_v1 t_v2 hF) xm_X2_joinedShape xi_X2_joinedShape xe_X2_joinedShape wl_X11_244 ⟨rfl, rfl, hrm⟩ (ci := 2) rfl t_v0 hR hS (As := [.ref v1, .ref v2]) rfl hsz rfl hW hdg hf kk
theorem gf_X11_83 {a : Nat} (C0 : xC D RX11 cc nL rt p s m args meth c) (hR : xRep D ty h H) (ht : ty a = some (0, 11)) {v : Nat} (hv : xR h a 13 = some v) (hdg : decode cc pc = .ok (.getfield 83, 3)) (kk : W p l e R s m args below meth c H locs cells slots Q (F0 m (pc + 3) ls (.ref v :: rest))) : W p l e R s m args below meth c H locs cells slots Q (F0 m pc ls (.ref a :: rest)) := x_get C0 hR (ci := 11) (k := 13) (N := 16) (T := TX11) rfl iX11 (by decide) rfl wf_X11_83 (by show va_rf (xR h a 13) = _; rw [hv]; rfl) ht hdg kk
end XN_X11_joined
set_option maxHeartbeats 4000000 in
set_option maxRecDepth 100000 in
theorem jc_X11_joined {l : Launch} {D : xD} {ty : xTy} {h : xH} {v0 : Nat} {v1 : Int32} {v2 : Int32} {v3 : Int32} {r : Int32} {h9 : xH} (t_v0 : ty v0 = some (0, 11)) (hF : jf_X11_joined ty h v0 v1 v2 v3 = some (r, h9)) : Met l yX11_joined (xws yX11_joined cX11_joined 4 (some .int)) jr_X11_joined (xPc D ty h [.ref v0, .int v1, .int v2, .int v3]) (xQ D ty (some (.int r)) h9) 0 0 (xdom ty) := by
  refine x_met (by decide) ?_
  intro p e s m below meth c C0 hR
  generalize hargs : ([.ref v0, .int v1, .int v2, .int v3] : List Value).toArray = args at C0 ⊢
  have hx := C0.1
  have hb := C0.2.1
  have hown := C0.2.2.2.2.2.1
  have hts := C0.2.2.2.2.2.2.1
  have hS : xS ty s.heap s.heap [] := xS.rf
  have hl := lv_entry ([.ref v0, .int v1, .int v2, .int v3]) (n := 4) (Nat.le_of_ble_eq_true rfl)
  rw [← hargs, lg_entry_eq]
  rw [hargs]
  generalize (lg_sl ([.ref v0, .int v1, .int v2, .int v3]) ++ List.replicate (4 - (lg_sl ([.ref v0, .int v1, .int v2, .int v3])).length) Slot.unset).toArray = ls at hl ⊢
  have hl : lv_has ls 4 [(0, .ref v0), (1, .int v1), (2, .int v2), (3, .int v3)] := hl
  unfold jf_X11_joined at hF
  refine lv_aload_n hx hb dX11_joined_0 rfl (lv_at hl 0 rfl) ?_
  obtain ⟨a1, e_a1, hF⟩ := xbd hF
  obtain ⟨e_a1, t_a1⟩ := xgo_sp e_a1
  refine gf_X11_20 C0 hR t_v0 e_a1 dX11_joined_1 ?_
  refine lv_iload_n hx hb dX11_joined_4 rfl (lv_at hl 1 rfl) ?_
  obtain ⟨a2, e_a2, hF⟩ := xbd hF
  refine cl_X11_144 C0 hR hS e_a2 t_a1 ⟨(Nat.le_of_ble_eq_true rfl), (Nat.le_of_ble_eq_true rfl)⟩ hl.1 (Nat.le_of_ble_eq_true rfl) ⟨(Nat.le_of_ble_eq_true rfl), (Nat.le_of_ble_eq_true rfl)⟩ dX11_joined_5 (fun H locs hR hS => ?_)
  refine lv_if_eq (tgt := 26) hx hb dX11_joined_8 (by decide) (fun c3 => ?_) (fun c3 => ?_)
  · have hF := xif hF c3
    refine lv_iconst (v := (-1)) hx hb dX11_joined_26 (by decide) ?_
    cases hF
    exact x_iret C0 hR hS dX11_joined_27
  · have hF := xel hF c3
    refine lv_aload_n hx hb dX11_joined_11 rfl (lv_at hl 0 rfl) ?_
    obtain ⟨a4, e_a4, hF⟩ := xbd hF
    obtain ⟨e_a4, t_a4⟩ := xgo_sp e_a4
    refine gf_X11_20 C0 hR t_v0 e_a4 dX11_joined_12 ?_
    refine lv_iload_n hx hb dX11_joined_15 rfl (lv_at hl 2 rfl) ?_
    obtain ⟨a5, e_a5, hF⟩ := xbd hF
    refine cl_X11_144 C0 hR hS e_a5 t_a4 ⟨(Nat.le_of_ble_eq_true rfl), (Nat.le_of_ble_eq_true rfl)⟩ hl.1 (Nat.le_of_ble_eq_true rfl) ⟨(Nat.le_of_ble_eq_true rfl), (Nat.le_of_ble_eq_true rfl)⟩ dX11_joined_16 (fun H locs hR hS => ?_)
    refine lv_if_eq (tgt := 26) hx hb dX11_joined_19 (by decide) (fun c6 => ?_) (fun c6 => ?_)
    · have hF := xif hF c6
      refine lv_iconst (v := (-1)) hx hb dX11_joined_26 (by decide) ?_
      cases hF
      exact x_iret C0 hR hS dX11_joined_27
    · have hF := xel hF c6
      refine lv_iload_n hx hb dX11_joined_22 rfl (lv_at hl 3 rfl) ?_
      refine lv_if_ge (tgt := 28) hx hb dX11_joined_23 (by decide) (fun c7 => ?_) (fun c7 => ?_)
      · have hF := xif hF c7
        refine lv_aload_n hx hb dX11_joined_28 rfl (lv_at hl 0 rfl) ?_
        obtain ⟨a8, e_a8, hF⟩ := xbd hF
        obtain ⟨e_a8, t_a8⟩ := xgo_sp e_a8
        refine gf_X11_83 C0 hR t_v0 e_a8 dX11_joined_29 ?_
        refine lv_aload_n hx hb dX11_joined_32 rfl (lv_at hl 0 rfl) ?_
        obtain ⟨a9, e_a9, hF⟩ := xbd hF
        obtain ⟨e_a9, t_a9⟩ := xgo_sp e_a9
        refine gf_X11_20 C0 hR t_v0 e_a9 dX11_joined_33 ?_
        refine lv_iload_n hx hb dX11_joined_36 rfl (lv_at hl 1 rfl) ?_
        obtain ⟨a10, e_a10, hF⟩ := xbd hF
        obtain ⟨u11, e_u11, hF⟩ := xbd hF
        have t_a10 := xck_sp e_u11
        refine cl_X11_155 C0 hR hS e_a10 t_a9 ⟨(Nat.le_of_ble_eq_true rfl), (Nat.le_of_ble_eq_true rfl)⟩ hl.1 (Nat.le_of_ble_eq_true rfl) ⟨(Nat.le_of_ble_eq_true rfl), (Nat.le_of_ble_eq_true rfl)⟩ dX11_joined_37 (fun H locs hR hS => ?_)
        refine lv_aload_n hx hb dX11_joined_40 rfl (lv_at hl 0 rfl) ?_
        obtain ⟨a12, e_a12, hF⟩ := xbd hF
        obtain ⟨e_a12, t_a12⟩ := xgo_sp e_a12
        refine gf_X11_20 C0 hR t_v0 e_a12 dX11_joined_41 ?_
        refine lv_iload_n hx hb dX11_joined_44 rfl (lv_at hl 2 rfl) ?_
        obtain ⟨a13, e_a13, hF⟩ := xbd hF
        obtain ⟨u14, e_u14, hF⟩ := xbd hF
        have t_a13 := xck_sp e_u14
        refine cl_X11_155 C0 hR hS e_a13 t_a12 ⟨(Nat.le_of_ble_eq_true rfl), (Nat.le_of_ble_eq_true rfl)⟩ hl.1 (Nat.le_of_ble_eq_true rfl) ⟨(Nat.le_of_ble_eq_true rfl), (Nat.le_of_ble_eq_true rfl)⟩ dX11_joined_45 (fun H locs hR hS => ?_)
        obtain ⟨a16, h15, e_h15, hF⟩ := xbd2 hF
        obtain ⟨u17, e_u17, hF⟩ := xbd hF
        have t_a16 := xck_sp e_u17
        refine cl_X11_244 C0 hR hS e_h15 t_a8 t_a10 t_a13 ⟨(Nat.le_of_ble_eq_true rfl), (Nat.le_of_ble_eq_true rfl)⟩ hl.1 (Nat.le_of_ble_eq_true rfl) ⟨(Nat.le_of_ble_eq_true rfl), (Nat.le_of_ble_eq_true rfl)⟩ dX11_joined_48 (fun H locs hR hS => ?_)
        refine lv_iload_n hx hb dX11_joined_51 rfl (lv_at hl 3 rfl) ?_
        obtain ⟨a18, e_a18, hF⟩ := xbd hF
        refine cl_X11_178 C0 hR hS e_a18 t_a16 ⟨(Nat.le_of_ble_eq_true rfl), (Nat.le_of_ble_eq_true rfl)⟩ hl.1 (Nat.le_of_ble_eq_true rfl) ⟨(Nat.le_of_ble_eq_true rfl), (Nat.le_of_ble_eq_true rfl)⟩ dX11_joined_52 (fun H locs hR hS => ?_)
        cases hF
        exact x_iret C0 hR hS dX11_joined_55
      · have hF := xel hF c7
        refine lv_iconst (v := (-1)) hx hb dX11_joined_26 (by decide) ?_
        cases hF
        exact x_iret C0 hR hS dX11_joined_27
theorem xm_X11_joined : xMw yX11_joined cX11_joined 4 (some .int) 3 := ⟨xin 947 (by decide +kernel) rfl, xin 114 (by decide +kernel) rfl, by decide +kernel⟩
theorem xi_X11_joined : Cond.instanceMethod yX11_joined ∈ xT := xin 945 (by decide +kernel) rfl
theorem xe_X11_joined : Cond.selects yX11_joined.cls yX11_joined yX11_joined ∈ xT := xin 946 (by decide +kernel) rfl
theorem dX11_overlapsAt_0 : decode cX11_overlapsAt 0 = .ok (.iload_n 1, 1) := by decide +kernel
theorem dX11_overlapsAt_1 : decode cX11_overlapsAt 1 = .ok (.iload_n 2, 1) := by decide +kernel
theorem dX11_overlapsAt_2 : decode cX11_overlapsAt 2 = .ok (.if_icmp .ne 9, 3) := by decide +kernel
theorem dX11_overlapsAt_5 : decode cX11_overlapsAt 5 = .ok (.iload_n 3, 1) := by decide +kernel
theorem dX11_overlapsAt_6 : decode cX11_overlapsAt 6 = .ok (.ifCond .ne 5, 3) := by decide +kernel
theorem dX11_overlapsAt_9 : decode cX11_overlapsAt 9 = .ok (.iconst 0, 1) := by decide +kernel
theorem dX11_overlapsAt_10 : decode cX11_overlapsAt 10 = .ok (.ireturn, 1) := by decide +kernel
theorem dX11_overlapsAt_11 : decode cX11_overlapsAt 11 = .ok (.aload_n 0, 1) := by decide +kernel
theorem dX11_overlapsAt_12 : decode cX11_overlapsAt 12 = .ok (.getfield 20, 3) := by decide +kernel
theorem dX11_overlapsAt_15 : decode cX11_overlapsAt 15 = .ok (.iload_n 1, 1) := by decide +kernel
theorem dX11_overlapsAt_16 : decode cX11_overlapsAt 16 = .ok (.invokevirtual 155, 3) := by decide +kernel
theorem dX11_overlapsAt_19 : decode cX11_overlapsAt 19 = .ok (.astore 4, 2) := by decide +kernel
theorem dX11_overlapsAt_21 : decode cX11_overlapsAt 21 = .ok (.aload 4, 2) := by decide +kernel
theorem dX11_overlapsAt_23 : decode cX11_overlapsAt 23 = .ok (.iload_n 3, 1) := by decide +kernel
theorem dX11_overlapsAt_24 : decode cX11_overlapsAt 24 = .ok (.invokevirtual 355, 3) := by decide +kernel
theorem dX11_overlapsAt_27 : decode cX11_overlapsAt 27 = .ok (.bipush 100, 2) := by decide +kernel
theorem dX11_overlapsAt_29 : decode cX11_overlapsAt 29 = .ok (.if_icmp .ge 28, 3) := by decide +kernel
theorem dX11_overlapsAt_32 : decode cX11_overlapsAt 32 = .ok (.aload_n 0, 1) := by decide +kernel
theorem dX11_overlapsAt_33 : decode cX11_overlapsAt 33 = .ok (.getfield 76, 3) := by decide +kernel
theorem dX11_overlapsAt_36 : decode cX11_overlapsAt 36 = .ok (.aload 4, 2) := by decide +kernel
theorem dX11_overlapsAt_38 : decode cX11_overlapsAt 38 = .ok (.iload_n 3, 1) := by decide +kernel
theorem dX11_overlapsAt_39 : decode cX11_overlapsAt 39 = .ok (.aload_n 0, 1) := by decide +kernel
theorem dX11_overlapsAt_40 : decode cX11_overlapsAt 40 = .ok (.getfield 20, 3) := by decide +kernel
theorem dX11_overlapsAt_43 : decode cX11_overlapsAt 43 = .ok (.iload_n 2, 1) := by decide +kernel
theorem dX11_overlapsAt_44 : decode cX11_overlapsAt 44 = .ok (.invokevirtual 155, 3) := by decide +kernel
theorem dX11_overlapsAt_47 : decode cX11_overlapsAt 47 = .ok (.invokevirtual 230, 3) := by decide +kernel
theorem dX11_overlapsAt_50 : decode cX11_overlapsAt 50 = .ok (.ifCond .eq 7, 3) := by decide +kernel
theorem dX11_overlapsAt_53 : decode cX11_overlapsAt 53 = .ok (.iconst 1, 1) := by decide +kernel
theorem dX11_overlapsAt_54 : decode cX11_overlapsAt 54 = .ok (.goto 4, 3) := by decide +kernel
theorem dX11_overlapsAt_57 : decode cX11_overlapsAt 57 = .ok (.iconst 0, 1) := by decide +kernel
theorem dX11_overlapsAt_58 : decode cX11_overlapsAt 58 = .ok (.ireturn, 1) := by decide +kernel
theorem wl_X11_355 : Cond.methodLink RX11 355 yX7_codeAt ∈ xT := xin 974 (by decide +kernel) rfl
section XN_X11_overlapsAt
variable {p : Program} {l : Launch} {e : Env} {R : Room} {s : State} {m : MethodId} {args : Array Value} {below : List Frame} {meth : Method} {c : Code} {H H0 : Heap} {locs : List Loc} {cells slots : Nat} {Q : State → Prop} {cc : ByteArray} {nL pc : Nat} {rt : Option FieldType} {ls : Array Slot} {rest : List Value} {D : xD} {ty : xTy} {h : xH}
theorem cl_X11_355 {v0 : Nat} {v1 : Int32} {r : Int32} (C0 : xC D RX11 cc nL rt p s m args meth c) (hR : xRep D ty h H) (hS : xS ty H0 H locs) (hF : jf_X7_codeAt ty h v0 v1 = some r) (t_v0 : ty v0 = some (0, 7)) (hrm : jr_X7_codeAt.frames + 1 ≤ R.frames ∧ 8 + (2 + 11) + jr_X7_codeAt.locals ≤ R.locals) (hsz : ls.size = nL) (hW : (rest.map fun v => v.category).sum ≤ 8) (hf : cells ≤ R.cells ∧ slots ≤ R.slots) (hdg : decode cc pc = .ok (.invokevirtual 355, 3)) (kk : ∀ (H1 : Heap) (locs1 : List Loc), xRep D ty h H1 → xS ty H0 H1 locs1 → W p l e R s m args below meth c H1 locs1 cells slots Q (F0 m (pc + 3) ls (.int r :: rest))) : W p l e R s m args below meth c H locs cells slots Q (F0 m pc ls (.int v1 :: .ref v0 :: rest)) := x_callV C0 (jc_X7_codeAt t_v0 hF) xm_X7_codeAt xi_X7_codeAt xe_X7_codeAt wl_X11_355 ⟨rfl, rfl, hrm⟩ (ci := 7) rfl t_v0 hR hS (As := [.int v1]) rfl hsz rfl hW hdg hf kk
end XN_X11_overlapsAt
set_option maxHeartbeats 4000000 in
set_option maxRecDepth 100000 in
theorem jw_X11_overlapsAt_11 {p : Program} {l : Launch} {e : Env} {s : State} {m : MethodId} {args : Array Value} {below : List Frame} {meth : Method} {c : Code} {D : xD} {ty : xTy} (C0 : xC D RX11 cX11_overlapsAt 5 (some .boolean) p s m args meth c) {r : Int32} {h9 : xH} : ∀ (v0 : Nat) (v1 : Int32) (v2 : Int32) (v3 : Int32) (h : xH), ty v0 = some (0, 11) → jf_X11_overlapsAt_11 ty v0 v1 v2 v3 h = some (r, h9) → ∀ (H : Heap) (locs : List Loc), xRep D ty h H → xS ty s.heap H locs → ∀ ls : Array Slot, lv_has ls 5 [(0, .ref v0), (1, .int v1), (2, .int v2), (3, .int v3)] → W p l e jr_X11_overlapsAt s m args below meth c H locs 0 0 (MQ below (xQ D ty (some (.int r)) h9) args s 0 0 (xdom ty)) (F0 m 11 ls []) := by
  have hx := C0.1
  have hb := C0.2.1
  have hown := C0.2.2.2.2.2.1
  have hts := C0.2.2.2.2.2.2.1
  intro v0 v1 v2 v3 h t_v0 hF H locs hR hS ls hl
  unfold jf_X11_overlapsAt_11 at hF
  refine lv_aload_n hx hb dX11_overlapsAt_11 rfl (lv_at hl 0 rfl) ?_
  obtain ⟨a1, e_a1, hF⟩ := xbd hF
  obtain ⟨e_a1, t_a1⟩ := xgo_sp e_a1
  refine gf_X11_20 C0 hR t_v0 e_a1 dX11_overlapsAt_12 ?_
  refine lv_iload_n hx hb dX11_overlapsAt_15 rfl (lv_at hl 1 rfl) ?_
  obtain ⟨a2, e_a2, hF⟩ := xbd hF
  obtain ⟨u3, e_u3, hF⟩ := xbd hF
  have t_a2 := xck_sp e_u3
  refine cl_X11_155 C0 hR hS e_a2 t_a1 ⟨(Nat.le_of_ble_eq_true rfl), (Nat.le_of_ble_eq_true rfl)⟩ hl.1 (Nat.le_of_ble_eq_true rfl) ⟨(Nat.le_of_ble_eq_true rfl), (Nat.le_of_ble_eq_true rfl)⟩ dX11_overlapsAt_16 (fun H locs hR hS => ?_)
  refine lv_astore (lv' := [(4, .ref a2), (0, .ref v0), (1, .int v1), (2, .int v2), (3, .int v3)]) hx hb dX11_overlapsAt_19 hl (by decide) rfl (fun ls hl => ?_)
  refine lv_aload hx hb dX11_overlapsAt_21 (lv_at hl 0 rfl) ?_
  refine lv_iload_n hx hb dX11_overlapsAt_23 rfl (lv_at hl 4 rfl) ?_
  obtain ⟨a4, e_a4, hF⟩ := xbd hF
  refine cl_X11_355 C0 hR hS e_a4 t_a2 ⟨(Nat.le_of_ble_eq_true rfl), (Nat.le_of_ble_eq_true rfl)⟩ hl.1 (Nat.le_of_ble_eq_true rfl) ⟨(Nat.le_of_ble_eq_true rfl), (Nat.le_of_ble_eq_true rfl)⟩ dX11_overlapsAt_24 (fun H locs hR hS => ?_)
  refine lv_bipush (v := 100) hx hb dX11_overlapsAt_27 (by decide) ?_
  refine lv_icmp_ge (tgt := 57) hx hb dX11_overlapsAt_29 (by decide) (fun c5 => ?_) (fun c5 => ?_)
  · have hF := xif hF c5
    refine lv_iconst (v := 0) hx hb dX11_overlapsAt_57 (by decide) ?_
    cases hF
    exact x_zret (w := 0) C0 hR hS (by decide) dX11_overlapsAt_58
  · have hF := xel hF c5
    refine lv_aload_n hx hb dX11_overlapsAt_32 rfl (lv_at hl 1 rfl) ?_
    obtain ⟨a6, e_a6, hF⟩ := xbd hF
    obtain ⟨e_a6, t_a6⟩ := xgo_sp e_a6
    refine gf_X11_76 C0 hR t_v0 e_a6 dX11_overlapsAt_33 ?_
    refine lv_aload hx hb dX11_overlapsAt_36 (lv_at hl 0 rfl) ?_
    refine lv_iload_n hx hb dX11_overlapsAt_38 rfl (lv_at hl 4 rfl) ?_
    refine lv_aload_n hx hb dX11_overlapsAt_39 rfl (lv_at hl 1 rfl) ?_
    obtain ⟨a7, e_a7, hF⟩ := xbd hF
    obtain ⟨e_a7, t_a7⟩ := xgo_sp e_a7
    refine gf_X11_20 C0 hR t_v0 e_a7 dX11_overlapsAt_40 ?_
    refine lv_iload_n hx hb dX11_overlapsAt_43 rfl (lv_at hl 3 rfl) ?_
    obtain ⟨a8, e_a8, hF⟩ := xbd hF
    obtain ⟨u9, e_u9, hF⟩ := xbd hF
    have t_a8 := xck_sp e_u9
    refine cl_X11_155 C0 hR hS e_a8 t_a7 ⟨(Nat.le_of_ble_eq_true rfl), (Nat.le_of_ble_eq_true rfl)⟩ hl.1 (Nat.le_of_ble_eq_true rfl) ⟨(Nat.le_of_ble_eq_true rfl), (Nat.le_of_ble_eq_true rfl)⟩ dX11_overlapsAt_44 (fun H locs hR hS => ?_)
    obtain ⟨a11, h10, e_h10, hF⟩ := xbd2 hF
    refine cl_X11_230 C0 hR hS e_h10 t_a6 t_a2 t_a8 ⟨(Nat.le_of_ble_eq_true rfl), (Nat.le_of_ble_eq_true rfl)⟩ hl.1 (Nat.le_of_ble_eq_true rfl) ⟨(Nat.le_of_ble_eq_true rfl), (Nat.le_of_ble_eq_true rfl)⟩ dX11_overlapsAt_47 (fun H locs hR hS => ?_)
    refine lv_if_eq (tgt := 57) hx hb dX11_overlapsAt_50 (by decide) (fun c12 => ?_) (fun c12 => ?_)
    · have hF := xif hF c12
      refine lv_iconst (v := 0) hx hb dX11_overlapsAt_57 (by decide) ?_
      cases hF
      exact x_zret (w := 0) C0 hR hS (by decide) dX11_overlapsAt_58
    · have hF := xel hF c12
      refine lv_iconst (v := 1) hx hb dX11_overlapsAt_53 (by decide) ?_
      refine lv_goto (tgt := 58) hx hb dX11_overlapsAt_54 (by decide) ?_
      cases hF
      exact x_zret (w := 1) C0 hR hS (by decide) dX11_overlapsAt_58
set_option maxHeartbeats 4000000 in
set_option maxRecDepth 100000 in
theorem jc_X11_overlapsAt {l : Launch} {D : xD} {ty : xTy} {h : xH} {v0 : Nat} {v1 : Int32} {v2 : Int32} {v3 : Int32} {r : Int32} {h9 : xH} (t_v0 : ty v0 = some (0, 11)) (hF : jf_X11_overlapsAt ty h v0 v1 v2 v3 = some (r, h9)) : Met l yX11_overlapsAt (xws yX11_overlapsAt cX11_overlapsAt 5 (some .boolean)) jr_X11_overlapsAt (xPc D ty h [.ref v0, .int v1, .int v2, .int v3]) (xQ D ty (some (.int r)) h9) 0 0 (xdom ty) := by
  refine x_met (by decide) ?_
  intro p e s m below meth c C0 hR
  generalize hargs : ([.ref v0, .int v1, .int v2, .int v3] : List Value).toArray = args at C0 ⊢
  have hx := C0.1
  have hb := C0.2.1
  have hown := C0.2.2.2.2.2.1
  have hts := C0.2.2.2.2.2.2.1
  have hS : xS ty s.heap s.heap [] := xS.rf
  have hl := lv_entry ([.ref v0, .int v1, .int v2, .int v3]) (n := 5) (Nat.le_of_ble_eq_true rfl)
  rw [← hargs, lg_entry_eq]
  rw [hargs]
  generalize (lg_sl ([.ref v0, .int v1, .int v2, .int v3]) ++ List.replicate (5 - (lg_sl ([.ref v0, .int v1, .int v2, .int v3])).length) Slot.unset).toArray = ls at hl ⊢
  have hl : lv_has ls 5 [(0, .ref v0), (1, .int v1), (2, .int v2), (3, .int v3)] := hl
  unfold jf_X11_overlapsAt at hF
  refine lv_iload_n hx hb dX11_overlapsAt_0 rfl (lv_at hl 1 rfl) ?_
  refine lv_iload_n hx hb dX11_overlapsAt_1 rfl (lv_at hl 2 rfl) ?_
  refine lv_icmp_ne (tgt := 11) hx hb dX11_overlapsAt_2 (by decide) (fun c13 => ?_) (fun c13 => ?_)
  · have hF := xel hF c13
    exact jw_X11_overlapsAt_11 C0 _ _ _ _ _ t_v0 hF _ _ hR hS _ (lv_sub hl [0, 1, 2, 3] rfl)
  · have hF := xif hF c13
    refine lv_iload_n hx hb dX11_overlapsAt_5 rfl (lv_at hl 3 rfl) ?_
    refine lv_if_ne (tgt := 11) hx hb dX11_overlapsAt_6 (by decide) (fun c14 => ?_) (fun c14 => ?_)
    · have hF := xel hF c14
      exact jw_X11_overlapsAt_11 C0 _ _ _ _ _ t_v0 hF _ _ hR hS _ (lv_sub hl [0, 1, 2, 3] rfl)
    · have hF := xif hF c14
      refine lv_iconst (v := 0) hx hb dX11_overlapsAt_9 (by decide) ?_
      cases hF
      exact x_zret (w := 0) C0 hR hS (by decide) dX11_overlapsAt_10
theorem xm_X11_overlapsAt : xMw yX11_overlapsAt cX11_overlapsAt 5 (some .boolean) 3 := ⟨xin 973 (by decide +kernel) rfl, xin 114 (by decide +kernel) rfl, by decide +kernel⟩
theorem xi_X11_overlapsAt : Cond.instanceMethod yX11_overlapsAt ∈ xT := xin 972 (by decide +kernel) rfl
theorem xe_X11_overlapsAt : Cond.selects yX11_overlapsAt.cls yX11_overlapsAt yX11_overlapsAt ∈ xT := xin 42 (by decide +kernel) rfl
theorem dX11_overlapBits_0 : decode cX11_overlapBits 0 = .ok (.iconst 0, 1) := by decide +kernel
theorem dX11_overlapBits_1 : decode cX11_overlapBits 1 = .ok (.istore_n 3, 1) := by decide +kernel
theorem dX11_overlapBits_2 : decode cX11_overlapBits 2 = .ok (.aload_n 0, 1) := by decide +kernel
theorem dX11_overlapBits_3 : decode cX11_overlapBits 3 = .ok (.getfield 20, 3) := by decide +kernel
theorem dX11_overlapBits_6 : decode cX11_overlapBits 6 = .ok (.iload_n 1, 1) := by decide +kernel
theorem dX11_overlapBits_7 : decode cX11_overlapBits 7 = .ok (.invokevirtual 155, 3) := by decide +kernel
theorem dX11_overlapBits_10 : decode cX11_overlapBits 10 = .ok (.getfield 128, 3) := by decide +kernel
theorem dX11_overlapBits_13 : decode cX11_overlapBits 13 = .ok (.istore 4, 2) := by decide +kernel
theorem dX11_overlapBits_15 : decode cX11_overlapBits 15 = .ok (.iconst 0, 1) := by decide +kernel
theorem dX11_overlapBits_16 : decode cX11_overlapBits 16 = .ok (.istore 5, 2) := by decide +kernel
theorem dX11_overlapBits_18 : decode cX11_overlapBits 18 = .ok (.iload 5, 2) := by decide +kernel
theorem dX11_overlapBits_20 : decode cX11_overlapBits 20 = .ok (.iload 4, 2) := by decide +kernel
theorem dX11_overlapBits_22 : decode cX11_overlapBits 22 = .ok (.if_icmp .ge 27, 3) := by decide +kernel
theorem dX11_overlapBits_25 : decode cX11_overlapBits 25 = .ok (.aload_n 0, 1) := by decide +kernel
theorem dX11_overlapBits_26 : decode cX11_overlapBits 26 = .ok (.iload_n 1, 1) := by decide +kernel
theorem dX11_overlapBits_27 : decode cX11_overlapBits 27 = .ok (.iload_n 2, 1) := by decide +kernel
theorem dX11_overlapBits_28 : decode cX11_overlapBits 28 = .ok (.iload 5, 2) := by decide +kernel
theorem dX11_overlapBits_30 : decode cX11_overlapBits 30 = .ok (.invokevirtual 256, 3) := by decide +kernel
theorem dX11_overlapBits_33 : decode cX11_overlapBits 33 = .ok (.ifCond .eq 10, 3) := by decide +kernel
theorem dX11_overlapBits_36 : decode cX11_overlapBits 36 = .ok (.iload_n 3, 1) := by decide +kernel
theorem dX11_overlapBits_37 : decode cX11_overlapBits 37 = .ok (.iconst 1, 1) := by decide +kernel
theorem dX11_overlapBits_38 : decode cX11_overlapBits 38 = .ok (.iload 5, 2) := by decide +kernel
theorem dX11_overlapBits_40 : decode cX11_overlapBits 40 = .ok (.ishl, 1) := by decide +kernel
theorem dX11_overlapBits_41 : decode cX11_overlapBits 41 = .ok (.ior, 1) := by decide +kernel
theorem dX11_overlapBits_42 : decode cX11_overlapBits 42 = .ok (.istore_n 3, 1) := by decide +kernel
theorem dX11_overlapBits_43 : decode cX11_overlapBits 43 = .ok (.iinc 5 1, 3) := by decide +kernel
theorem dX11_overlapBits_46 : decode cX11_overlapBits 46 = .ok (.goto (-28), 3) := by decide +kernel
theorem dX11_overlapBits_49 : decode cX11_overlapBits 49 = .ok (.iload_n 3, 1) := by decide +kernel
theorem dX11_overlapBits_50 : decode cX11_overlapBits 50 = .ok (.ireturn, 1) := by decide +kernel
theorem wl_X11_256 : Cond.methodLink RX11 256 yX11_overlapsAt ∈ xT := xin 970 (by decide +kernel) rfl
section XN_X11_overlapBits
variable {p : Program} {l : Launch} {e : Env} {R : Room} {s : State} {m : MethodId} {args : Array Value} {below : List Frame} {meth : Method} {c : Code} {H H0 : Heap} {locs : List Loc} {cells slots : Nat} {Q : State → Prop} {cc : ByteArray} {nL pc : Nat} {rt : Option FieldType} {ls : Array Slot} {rest : List Value} {D : xD} {ty : xTy} {h : xH}
theorem cl_X11_256 {v0 : Nat} {v1 : Int32} {v2 : Int32} {v3 : Int32} {r : Int32} {h9 : xH} (C0 : xC D RX11 cc nL rt p s m args meth c) (hR : xRep D ty h H) (hS : xS ty H0 H locs) (hF : jf_X11_overlapsAt ty h v0 v1 v2 v3 = some (r, h9)) (t_v0 : ty v0 = some (0, 11)) (hrm : jr_X11_overlapsAt.frames + 1 ≤ R.frames ∧ 8 + (5 + 11) + jr_X11_overlapsAt.locals ≤ R.locals) (hsz : ls.size = nL) (hW : (rest.map fun v => v.category).sum ≤ 8) (hf : cells ≤ R.cells ∧ slots ≤ R.slots) (hdg : decode cc pc = .ok (.invokevirtual 256, 3)) (kk : ∀ (H1 : Heap) (locs1 : List Loc), xRep D ty h9 H1 → xS ty H0 H1 locs1 → W p l e R s m args below meth c H1 locs1 cells slots Q (F0 m (pc + 3) ls (.int r :: rest))) : W p l e R s m args below meth c H locs cells slots Q (F0 m pc ls (.int v3 :: .int v2 :: .int v1 :: .ref v0 :: rest)) := x_callV C0 (jc_X11_overlapsAt t_v0 hF) xm_X11_overlapsAt xi_X11_overlapsAt xe_X11_overlapsAt wl_X11_256 ⟨rfl, rfl, hrm⟩ (ci := 11) rfl t_v0 hR hS (As := [.int v1, .int v2, .int v3]) rfl hsz rfl hW hdg hf kk
end XN_X11_overlapBits
set_option maxHeartbeats 4000000 in
set_option maxRecDepth 100000 in
theorem jw_X11_overlapBits_18 {p : Program} {l : Launch} {e : Env} {s : State} {m : MethodId} {args : Array Value} {below : List Frame} {meth : Method} {c : Code} {D : xD} {ty : xTy} (C0 : xC D RX11 cX11_overlapBits 6 (some .int) p s m args meth c) {r : Int32} {h9 : xH} : ∀ n : Nat, ∀ (v0 : Nat) (v1 : Int32) (v2 : Int32) (v3 : Int32) (v4 : Int32) (v5 : Int32) (h : xH), ty v0 = some (0, 11) → jf_X11_overlapBits_18 ty n v0 v1 v2 v3 v4 v5 h = some (r, h9) → ∀ (H : Heap) (locs : List Loc), xRep D ty h H → xS ty s.heap H locs → ∀ ls : Array Slot, lv_has ls 6 [(0, .ref v0), (1, .int v1), (2, .int v2), (3, .int v3), (4, .int v4), (5, .int v5)] → W p l e jr_X11_overlapBits s m args below meth c H locs 0 0 (MQ below (xQ D ty (some (.int r)) h9) args s 0 0 (xdom ty)) (F0 m 18 ls []) := by
  have hx := C0.1
  have hb := C0.2.1
  have hown := C0.2.2.2.2.2.1
  have hts := C0.2.2.2.2.2.2.1
  intro n
  induction n with
  | zero =>
    intro v0 v1 v2 v3 v4 v5 h t_v0 hF H locs hR hS ls hl
    cases hF
  | succ n ih =>
    intro v0 v1 v2 v3 v4 v5 h t_v0 hF H locs hR hS ls hl
    rw [jf_X11_overlapBits_18_s] at hF
    refine lv_iload hx hb dX11_overlapBits_18 (lv_at hl 5 rfl) ?_
    refine lv_iload hx hb dX11_overlapBits_20 (lv_at hl 4 rfl) ?_
    refine lv_icmp_ge (tgt := 49) hx hb dX11_overlapBits_22 (by decide) (fun c1 => ?_) (fun c1 => ?_)
    · have hF := xif hF c1
      refine lv_iload_n hx hb dX11_overlapBits_49 rfl (lv_at hl 3 rfl) ?_
      cases hF
      exact x_iret C0 hR hS dX11_overlapBits_50
    · have hF := xel hF c1
      refine lv_aload_n hx hb dX11_overlapBits_25 rfl (lv_at hl 0 rfl) ?_
      refine lv_iload_n hx hb dX11_overlapBits_26 rfl (lv_at hl 1 rfl) ?_
      refine lv_iload_n hx hb dX11_overlapBits_27 rfl (lv_at hl 2 rfl) ?_
      refine lv_iload hx hb dX11_overlapBits_28 (lv_at hl 5 rfl) ?_
      obtain ⟨a3, h2, e_h2, hF⟩ := xbd2 hF
      refine cl_X11_256 C0 hR hS e_h2 t_v0 ⟨(Nat.le_of_ble_eq_true rfl), (Nat.le_of_ble_eq_true rfl)⟩ hl.1 (Nat.le_of_ble_eq_true rfl) ⟨(Nat.le_of_ble_eq_true rfl), (Nat.le_of_ble_eq_true rfl)⟩ dX11_overlapBits_30 (fun H locs hR hS => ?_)
      refine lv_if_eq (tgt := 43) hx hb dX11_overlapBits_33 (by decide) (fun c4 => ?_) (fun c4 => ?_)
      · have hF := xif hF c4
        refine lv_iinc (v := v5 + 1) (lv' := [(5, .int (v5 + 1)), (0, .ref v0), (1, .int v1), (2, .int v2), (3, .int v3), (4, .int v4)]) hx hb dX11_overlapBits_43 hl (k := 5) rfl rfl (by decide) rfl (fun ls hl => ?_)
        refine lv_goto (tgt := 18) hx hb dX11_overlapBits_46 (by decide) ?_
        exact ih _ _ _ _ _ _ _ t_v0 hF _ _ hR hS _ (lv_sub hl [1, 2, 3, 4, 5, 0] rfl)
      · have hF := xel hF c4
        refine lv_iload_n hx hb dX11_overlapBits_36 rfl (lv_at hl 3 rfl) ?_
        refine lv_iconst (v := 1) hx hb dX11_overlapBits_37 (by decide) ?_
        refine lv_iload hx hb dX11_overlapBits_38 (lv_at hl 5 rfl) ?_
        refine lv_ishl hx hb dX11_overlapBits_40 ?_
        refine lv_ior hx hb dX11_overlapBits_41 ?_
        refine lv_istore_n (lv' := [(3, .int (v3 ||| (1 <<< (v5 &&& 31)))), (0, .ref v0), (1, .int v1), (2, .int v2), (4, .int v4), (5, .int v5)]) hx hb dX11_overlapBits_42 rfl hl (by decide) rfl (fun ls hl => ?_)
        refine lv_iinc (v := v5 + 1) (lv' := [(5, .int (v5 + 1)), (3, .int (v3 ||| (1 <<< (v5 &&& 31)))), (0, .ref v0), (1, .int v1), (2, .int v2), (4, .int v4)]) hx hb dX11_overlapBits_43 hl (k := 5) rfl rfl (by decide) rfl (fun ls hl => ?_)
        refine lv_goto (tgt := 18) hx hb dX11_overlapBits_46 (by decide) ?_
        exact ih _ _ _ _ _ _ _ t_v0 hF _ _ hR hS _ (lv_sub hl [2, 3, 4, 1, 5, 0] rfl)
set_option maxHeartbeats 4000000 in
set_option maxRecDepth 100000 in
theorem jc_X11_overlapBits {l : Launch} {D : xD} {ty : xTy} {h : xH} {v0 : Nat} {v1 : Int32} {v2 : Int32} {r : Int32} {h9 : xH} (t_v0 : ty v0 = some (0, 11)) (hF : jf_X11_overlapBits ty h v0 v1 v2 = some (r, h9)) : Met l yX11_overlapBits (xws yX11_overlapBits cX11_overlapBits 6 (some .int)) jr_X11_overlapBits (xPc D ty h [.ref v0, .int v1, .int v2]) (xQ D ty (some (.int r)) h9) 0 0 (xdom ty) := by
  refine x_met (by decide) ?_
  intro p e s m below meth c C0 hR
  generalize hargs : ([.ref v0, .int v1, .int v2] : List Value).toArray = args at C0 ⊢
  have hx := C0.1
  have hb := C0.2.1
  have hown := C0.2.2.2.2.2.1
  have hts := C0.2.2.2.2.2.2.1
  have hS : xS ty s.heap s.heap [] := xS.rf
  have hl := lv_entry ([.ref v0, .int v1, .int v2]) (n := 6) (Nat.le_of_ble_eq_true rfl)
  rw [← hargs, lg_entry_eq]
  rw [hargs]
  generalize (lg_sl ([.ref v0, .int v1, .int v2]) ++ List.replicate (6 - (lg_sl ([.ref v0, .int v1, .int v2])).length) Slot.unset).toArray = ls at hl ⊢
  have hl : lv_has ls 6 [(0, .ref v0), (1, .int v1), (2, .int v2)] := hl
  unfold jf_X11_overlapBits at hF
  refine lv_iconst (v := 0) hx hb dX11_overlapBits_0 (by decide) ?_
  refine lv_istore_n (lv' := [(3, .int 0), (0, .ref v0), (1, .int v1), (2, .int v2)]) hx hb dX11_overlapBits_1 rfl hl (by decide) rfl (fun ls hl => ?_)
  refine lv_aload_n hx hb dX11_overlapBits_2 rfl (lv_at hl 1 rfl) ?_
  obtain ⟨a5, e_a5, hF⟩ := xbd hF
  obtain ⟨e_a5, t_a5⟩ := xgo_sp e_a5
  refine gf_X11_20 C0 hR t_v0 e_a5 dX11_overlapBits_3 ?_
  refine lv_iload_n hx hb dX11_overlapBits_6 rfl (lv_at hl 2 rfl) ?_
  obtain ⟨a6, e_a6, hF⟩ := xbd hF
  obtain ⟨u7, e_u7, hF⟩ := xbd hF
  have t_a6 := xck_sp e_u7
  refine cl_X11_155 C0 hR hS e_a6 t_a5 ⟨(Nat.le_of_ble_eq_true rfl), (Nat.le_of_ble_eq_true rfl)⟩ hl.1 (Nat.le_of_ble_eq_true rfl) ⟨(Nat.le_of_ble_eq_true rfl), (Nat.le_of_ble_eq_true rfl)⟩ dX11_overlapBits_7 (fun H locs hR hS => ?_)
  refine gf_X11_128 C0 hR t_a6 dX11_overlapBits_10 ?_
  refine lv_istore (lv' := [(4, .int (xI h a6 2)), (3, .int 0), (0, .ref v0), (1, .int v1), (2, .int v2)]) hx hb dX11_overlapBits_13 hl (by decide) rfl (fun ls hl => ?_)
  refine lv_iconst (v := 0) hx hb dX11_overlapBits_15 (by decide) ?_
  refine lv_istore (lv' := [(5, .int 0), (4, .int (xI h a6 2)), (3, .int 0), (0, .ref v0), (1, .int v1), (2, .int v2)]) hx hb dX11_overlapBits_16 hl (by decide) rfl (fun ls hl => ?_)
  obtain ⟨_, hF⟩ := xlim_sp hF
  exact jw_X11_overlapBits_18 C0 _ _ _ _ _ _ _ _ t_v0 hF _ _ hR hS _ (lv_sub hl [3, 4, 5, 2, 1, 0] rfl)
theorem xm_X11_overlapBits : xMw yX11_overlapBits cX11_overlapBits 6 (some .int) 2 := ⟨xin 969 (by decide +kernel) rfl, xin 114 (by decide +kernel) rfl, by decide +kernel⟩
theorem xi_X11_overlapBits : Cond.instanceMethod yX11_overlapBits ∈ xT := xin 968 (by decide +kernel) rfl
theorem xe_X11_overlapBits : Cond.selects yX11_overlapBits.cls yX11_overlapBits yX11_overlapBits ∈ xT := xin 41 (by decide +kernel) rfl
theorem dX11_overlaps_0 : decode cX11_overlaps 0 = .ok (.aload_n 0, 1) := by decide +kernel
theorem dX11_overlaps_1 : decode cX11_overlaps 1 = .ok (.getfield 20, 3) := by decide +kernel
theorem dX11_overlaps_4 : decode cX11_overlaps 4 = .ok (.iload_n 1, 1) := by decide +kernel
theorem dX11_overlaps_5 : decode cX11_overlaps 5 = .ok (.invokevirtual 144, 3) := by decide +kernel
theorem dX11_overlaps_8 : decode cX11_overlaps 8 = .ok (.ifCond .eq 23, 3) := by decide +kernel
theorem dX11_overlaps_11 : decode cX11_overlaps 11 = .ok (.aload_n 0, 1) := by decide +kernel
theorem dX11_overlaps_12 : decode cX11_overlaps 12 = .ok (.getfield 20, 3) := by decide +kernel
theorem dX11_overlaps_15 : decode cX11_overlaps 15 = .ok (.iload_n 2, 1) := by decide +kernel
theorem dX11_overlaps_16 : decode cX11_overlaps 16 = .ok (.invokevirtual 144, 3) := by decide +kernel
theorem dX11_overlaps_19 : decode cX11_overlaps 19 = .ok (.ifCond .eq 12, 3) := by decide +kernel
theorem dX11_overlaps_22 : decode cX11_overlaps 22 = .ok (.aload_n 0, 1) := by decide +kernel
theorem dX11_overlaps_23 : decode cX11_overlaps 23 = .ok (.iload_n 1, 1) := by decide +kernel
theorem dX11_overlaps_24 : decode cX11_overlaps 24 = .ok (.iload_n 2, 1) := by decide +kernel
theorem dX11_overlaps_25 : decode cX11_overlaps 25 = .ok (.invokevirtual 248, 3) := by decide +kernel
theorem dX11_overlaps_28 : decode cX11_overlaps 28 = .ok (.goto 4, 3) := by decide +kernel
theorem dX11_overlaps_31 : decode cX11_overlaps 31 = .ok (.iconst (-1), 1) := by decide +kernel
theorem dX11_overlaps_32 : decode cX11_overlaps 32 = .ok (.ireturn, 1) := by decide +kernel
theorem wl_X11_248 : Cond.methodLink RX11 248 yX11_overlapBits ∈ xT := xin 966 (by decide +kernel) rfl
section XN_X11_overlaps
variable {p : Program} {l : Launch} {e : Env} {R : Room} {s : State} {m : MethodId} {args : Array Value} {below : List Frame} {meth : Method} {c : Code} {H H0 : Heap} {locs : List Loc} {cells slots : Nat} {Q : State → Prop} {cc : ByteArray} {nL pc : Nat} {rt : Option FieldType} {ls : Array Slot} {rest : List Value} {D : xD} {ty : xTy} {h : xH}
theorem cl_X11_248 {v0 : Nat} {v1 : Int32} {v2 : Int32} {r : Int32} {h9 : xH} (C0 : xC D RX11 cc nL rt p s m args meth c) (hR : xRep D ty h H) (hS : xS ty H0 H locs) (hF : jf_X11_overlapBits ty h v0 v1 v2 = some (r, h9)) (t_v0 : ty v0 = some (0, 11)) (hrm : jr_X11_overlapBits.frames + 1 ≤ R.frames ∧ 8 + (6 + 11) + jr_X11_overlapBits.locals ≤ R.locals) (hsz : ls.size = nL) (hW : (rest.map fun v => v.category).sum ≤ 8) (hf : cells ≤ R.cells ∧ slots ≤ R.slots) (hdg : decode cc pc = .ok (.invokevirtual 248, 3)) (kk : ∀ (H1 : Heap) (locs1 : List Loc), xRep D ty h9 H1 → xS ty H0 H1 locs1 → W p l e R s m args below meth c H1 locs1 cells slots Q (F0 m (pc + 3) ls (.int r :: rest))) : W p l e R s m args below meth c H locs cells slots Q (F0 m pc ls (.int v2 :: .int v1 :: .ref v0 :: rest)) := x_callV C0 (jc_X11_overlapBits t_v0 hF) xm_X11_overlapBits xi_X11_overlapBits xe_X11_overlapBits wl_X11_248 ⟨rfl, rfl, hrm⟩ (ci := 11) rfl t_v0 hR hS (As := [.int v1, .int v2]) rfl hsz rfl hW hdg hf kk
end XN_X11_overlaps
set_option maxHeartbeats 4000000 in
set_option maxRecDepth 100000 in
theorem jc_X11_overlaps {l : Launch} {D : xD} {ty : xTy} {h : xH} {v0 : Nat} {v1 : Int32} {v2 : Int32} {r : Int32} {h9 : xH} (t_v0 : ty v0 = some (0, 11)) (hF : jf_X11_overlaps ty h v0 v1 v2 = some (r, h9)) : Met l yX11_overlaps (xws yX11_overlaps cX11_overlaps 3 (some .int)) jr_X11_overlaps (xPc D ty h [.ref v0, .int v1, .int v2]) (xQ D ty (some (.int r)) h9) 0 0 (xdom ty) := by
  refine x_met (by decide) ?_
  intro p e s m below meth c C0 hR
  generalize hargs : ([.ref v0, .int v1, .int v2] : List Value).toArray = args at C0 ⊢
  have hx := C0.1
  have hb := C0.2.1
  have hown := C0.2.2.2.2.2.1
  have hts := C0.2.2.2.2.2.2.1
  have hS : xS ty s.heap s.heap [] := xS.rf
  have hl := lv_entry ([.ref v0, .int v1, .int v2]) (n := 3) (Nat.le_of_ble_eq_true rfl)
  rw [← hargs, lg_entry_eq]
  rw [hargs]
  generalize (lg_sl ([.ref v0, .int v1, .int v2]) ++ List.replicate (3 - (lg_sl ([.ref v0, .int v1, .int v2])).length) Slot.unset).toArray = ls at hl ⊢
  have hl : lv_has ls 3 [(0, .ref v0), (1, .int v1), (2, .int v2)] := hl
  unfold jf_X11_overlaps at hF
  refine lv_aload_n hx hb dX11_overlaps_0 rfl (lv_at hl 0 rfl) ?_
  obtain ⟨a1, e_a1, hF⟩ := xbd hF
  obtain ⟨e_a1, t_a1⟩ := xgo_sp e_a1
  refine gf_X11_20 C0 hR t_v0 e_a1 dX11_overlaps_1 ?_
  refine lv_iload_n hx hb dX11_overlaps_4 rfl (lv_at hl 1 rfl) ?_
  obtain ⟨a2, e_a2, hF⟩ := xbd hF
  refine cl_X11_144 C0 hR hS e_a2 t_a1 ⟨(Nat.le_of_ble_eq_true rfl), (Nat.le_of_ble_eq_true rfl)⟩ hl.1 (Nat.le_of_ble_eq_true rfl) ⟨(Nat.le_of_ble_eq_true rfl), (Nat.le_of_ble_eq_true rfl)⟩ dX11_overlaps_5 (fun H locs hR hS => ?_)
  refine lv_if_eq (tgt := 31) hx hb dX11_overlaps_8 (by decide) (fun c3 => ?_) (fun c3 => ?_)
  · have hF := xif hF c3
    refine lv_iconst (v := (-1)) hx hb dX11_overlaps_31 (by decide) ?_
    cases hF
    exact x_iret C0 hR hS dX11_overlaps_32
  · have hF := xel hF c3
    refine lv_aload_n hx hb dX11_overlaps_11 rfl (lv_at hl 0 rfl) ?_
    obtain ⟨a4, e_a4, hF⟩ := xbd hF
    obtain ⟨e_a4, t_a4⟩ := xgo_sp e_a4
    refine gf_X11_20 C0 hR t_v0 e_a4 dX11_overlaps_12 ?_
    refine lv_iload_n hx hb dX11_overlaps_15 rfl (lv_at hl 2 rfl) ?_
    obtain ⟨a5, e_a5, hF⟩ := xbd hF
    refine cl_X11_144 C0 hR hS e_a5 t_a4 ⟨(Nat.le_of_ble_eq_true rfl), (Nat.le_of_ble_eq_true rfl)⟩ hl.1 (Nat.le_of_ble_eq_true rfl) ⟨(Nat.le_of_ble_eq_true rfl), (Nat.le_of_ble_eq_true rfl)⟩ dX11_overlaps_16 (fun H locs hR hS => ?_)
    refine lv_if_eq (tgt := 31) hx hb dX11_overlaps_19 (by decide) (fun c6 => ?_) (fun c6 => ?_)
    · have hF := xif hF c6
      refine lv_iconst (v := (-1)) hx hb dX11_overlaps_31 (by decide) ?_
      cases hF
      exact x_iret C0 hR hS dX11_overlaps_32
    · have hF := xel hF c6
      refine lv_aload_n hx hb dX11_overlaps_22 rfl (lv_at hl 0 rfl) ?_
      refine lv_iload_n hx hb dX11_overlaps_23 rfl (lv_at hl 1 rfl) ?_
      refine lv_iload_n hx hb dX11_overlaps_24 rfl (lv_at hl 2 rfl) ?_
      obtain ⟨a8, h7, e_h7, hF⟩ := xbd2 hF
      refine cl_X11_248 C0 hR hS e_h7 t_v0 ⟨(Nat.le_of_ble_eq_true rfl), (Nat.le_of_ble_eq_true rfl)⟩ hl.1 (Nat.le_of_ble_eq_true rfl) ⟨(Nat.le_of_ble_eq_true rfl), (Nat.le_of_ble_eq_true rfl)⟩ dX11_overlaps_25 (fun H locs hR hS => ?_)
      refine lv_goto (tgt := 32) hx hb dX11_overlaps_28 (by decide) ?_
      cases hF
      exact x_iret C0 hR hS dX11_overlaps_32
theorem xm_X11_overlaps : xMw yX11_overlaps cX11_overlaps 3 (some .int) 2 := ⟨xin 965 (by decide +kernel) rfl, xin 114 (by decide +kernel) rfl, by decide +kernel⟩
theorem xi_X11_overlaps : Cond.instanceMethod yX11_overlaps ∈ xT := xin 963 (by decide +kernel) rfl
theorem xe_X11_overlaps : Cond.selects yX11_overlaps.cls yX11_overlaps yX11_overlaps ∈ xT := xin 964 (by decide +kernel) rfl
theorem dX11_shared_0 : decode cX11_shared 0 = .ok (.aload_n 0, 1) := by decide +kernel
theorem dX11_shared_1 : decode cX11_shared 1 = .ok (.getfield 20, 3) := by decide +kernel
theorem dX11_shared_4 : decode cX11_shared 4 = .ok (.iload_n 1, 1) := by decide +kernel
theorem dX11_shared_5 : decode cX11_shared 5 = .ok (.invokevirtual 144, 3) := by decide +kernel
theorem dX11_shared_8 : decode cX11_shared 8 = .ok (.ifCond .eq 14, 3) := by decide +kernel
theorem dX11_shared_11 : decode cX11_shared 11 = .ok (.aload_n 0, 1) := by decide +kernel
theorem dX11_shared_12 : decode cX11_shared 12 = .ok (.getfield 20, 3) := by decide +kernel
theorem dX11_shared_15 : decode cX11_shared 15 = .ok (.iload_n 2, 1) := by decide +kernel
theorem dX11_shared_16 : decode cX11_shared 16 = .ok (.invokevirtual 144, 3) := by decide +kernel
theorem dX11_shared_19 : decode cX11_shared 19 = .ok (.ifCond .ne 5, 3) := by decide +kernel
theorem dX11_shared_22 : decode cX11_shared 22 = .ok (.iconst (-1), 1) := by decide +kernel
theorem dX11_shared_23 : decode cX11_shared 23 = .ok (.ireturn, 1) := by decide +kernel
theorem dX11_shared_24 : decode cX11_shared 24 = .ok (.aload_n 0, 1) := by decide +kernel
theorem dX11_shared_25 : decode cX11_shared 25 = .ok (.getfield 20, 3) := by decide +kernel
theorem dX11_shared_28 : decode cX11_shared 28 = .ok (.iload_n 1, 1) := by decide +kernel
theorem dX11_shared_29 : decode cX11_shared 29 = .ok (.invokevirtual 155, 3) := by decide +kernel
theorem dX11_shared_32 : decode cX11_shared 32 = .ok (.aload_n 0, 1) := by decide +kernel
theorem dX11_shared_33 : decode cX11_shared 33 = .ok (.getfield 20, 3) := by decide +kernel
theorem dX11_shared_36 : decode cX11_shared 36 = .ok (.iload_n 2, 1) := by decide +kernel
theorem dX11_shared_37 : decode cX11_shared 37 = .ok (.invokevirtual 155, 3) := by decide +kernel
theorem dX11_shared_40 : decode cX11_shared 40 = .ok (.invokevirtual 252, 3) := by decide +kernel
theorem dX11_shared_43 : decode cX11_shared 43 = .ok (.ireturn, 1) := by decide +kernel
theorem wl_X11_252 : Cond.methodLink RX11 252 yX7_sharedPath ∈ xT := xin 979 (by decide +kernel) rfl
section XN_X11_shared
variable {p : Program} {l : Launch} {e : Env} {R : Room} {s : State} {m : MethodId} {args : Array Value} {below : List Frame} {meth : Method} {c : Code} {H H0 : Heap} {locs : List Loc} {cells slots : Nat} {Q : State → Prop} {cc : ByteArray} {nL pc : Nat} {rt : Option FieldType} {ls : Array Slot} {rest : List Value} {D : xD} {ty : xTy} {h : xH}
theorem cl_X11_252 {v0 : Nat} {v1 : Nat} {r : Int32} (C0 : xC D RX11 cc nL rt p s m args meth c) (hR : xRep D ty h H) (hS : xS ty H0 H locs) (hF : jf_X7_sharedPath ty h v0 v1 = some r) (t_v0 : ty v0 = some (0, 7)) (t_v1 : ty v1 = some (0, 7)) (hrm : jr_X7_sharedPath.frames + 1 ≤ R.frames ∧ 8 + (4 + 11) + jr_X7_sharedPath.locals ≤ R.locals) (hsz : ls.size = nL) (hW : (rest.map fun v => v.category).sum ≤ 8) (hf : cells ≤ R.cells ∧ slots ≤ R.slots) (hdg : decode cc pc = .ok (.invokevirtual 252, 3)) (kk : ∀ (H1 : Heap) (locs1 : List Loc), xRep D ty h H1 → xS ty H0 H1 locs1 → W p l e R s m args below meth c H1 locs1 cells slots Q (F0 m (pc + 3) ls (.int r :: rest))) : W p l e R s m args below meth c H locs cells slots Q (F0 m pc ls (.ref v1 :: .ref v0 :: rest)) := x_callV C0 (jc_X7_sharedPath t_v0 t_v1 hF) xm_X7_sharedPath xi_X7_sharedPath xe_X7_sharedPath wl_X11_252 ⟨rfl, rfl, hrm⟩ (ci := 7) rfl t_v0 hR hS (As := [.ref v1]) rfl hsz rfl hW hdg hf kk
end XN_X11_shared
set_option maxHeartbeats 4000000 in
set_option maxRecDepth 100000 in
theorem jc_X11_shared {l : Launch} {D : xD} {ty : xTy} {h : xH} {v0 : Nat} {v1 : Int32} {v2 : Int32} {r : Int32} (t_v0 : ty v0 = some (0, 11)) (hF : jf_X11_shared ty h v0 v1 v2 = some r) : Met l yX11_shared (xws yX11_shared cX11_shared 3 (some .int)) jr_X11_shared (xPc D ty h [.ref v0, .int v1, .int v2]) (xQ D ty (some (.int r)) h) 0 0 (xdom ty) := by
  refine x_met (by decide) ?_
  intro p e s m below meth c C0 hR
  generalize hargs : ([.ref v0, .int v1, .int v2] : List Value).toArray = args at C0 ⊢
  have hx := C0.1
  have hb := C0.2.1
  have hown := C0.2.2.2.2.2.1
  have hts := C0.2.2.2.2.2.2.1
  have hS : xS ty s.heap s.heap [] := xS.rf
  have hl := lv_entry ([.ref v0, .int v1, .int v2]) (n := 3) (Nat.le_of_ble_eq_true rfl)
  rw [← hargs, lg_entry_eq]
  rw [hargs]
  generalize (lg_sl ([.ref v0, .int v1, .int v2]) ++ List.replicate (3 - (lg_sl ([.ref v0, .int v1, .int v2])).length) Slot.unset).toArray = ls at hl ⊢
  have hl : lv_has ls 3 [(0, .ref v0), (1, .int v1), (2, .int v2)] := hl
  unfold jf_X11_shared at hF
  refine lv_aload_n hx hb dX11_shared_0 rfl (lv_at hl 0 rfl) ?_
  obtain ⟨a1, e_a1, hF⟩ := xbd hF
  obtain ⟨e_a1, t_a1⟩ := xgo_sp e_a1
  refine gf_X11_20 C0 hR t_v0 e_a1 dX11_shared_1 ?_
  refine lv_iload_n hx hb dX11_shared_4 rfl (lv_at hl 1 rfl) ?_
  obtain ⟨a2, e_a2, hF⟩ := xbd hF
  refine cl_X11_144 C0 hR hS e_a2 t_a1 ⟨(Nat.le_of_ble_eq_true rfl), (Nat.le_of_ble_eq_true rfl)⟩ hl.1 (Nat.le_of_ble_eq_true rfl) ⟨(Nat.le_of_ble_eq_true rfl), (Nat.le_of_ble_eq_true rfl)⟩ dX11_shared_5 (fun H locs hR hS => ?_)
  refine lv_if_eq (tgt := 22) hx hb dX11_shared_8 (by decide) (fun c3 => ?_) (fun c3 => ?_)
  · have hF := xif hF c3
    refine lv_iconst (v := (-1)) hx hb dX11_shared_22 (by decide) ?_
    cases hF
    exact x_iret C0 hR hS dX11_shared_23
  · have hF := xel hF c3
    refine lv_aload_n hx hb dX11_shared_11 rfl (lv_at hl 0 rfl) ?_
    obtain ⟨a4, e_a4, hF⟩ := xbd hF
    obtain ⟨e_a4, t_a4⟩ := xgo_sp e_a4
    refine gf_X11_20 C0 hR t_v0 e_a4 dX11_shared_12 ?_
    refine lv_iload_n hx hb dX11_shared_15 rfl (lv_at hl 2 rfl) ?_
    obtain ⟨a5, e_a5, hF⟩ := xbd hF
    refine cl_X11_144 C0 hR hS e_a5 t_a4 ⟨(Nat.le_of_ble_eq_true rfl), (Nat.le_of_ble_eq_true rfl)⟩ hl.1 (Nat.le_of_ble_eq_true rfl) ⟨(Nat.le_of_ble_eq_true rfl), (Nat.le_of_ble_eq_true rfl)⟩ dX11_shared_16 (fun H locs hR hS => ?_)
    refine lv_if_ne (tgt := 24) hx hb dX11_shared_19 (by decide) (fun c6 => ?_) (fun c6 => ?_)
    · have hF := xel hF c6
      refine lv_aload_n hx hb dX11_shared_24 rfl (lv_at hl 0 rfl) ?_
      obtain ⟨a7, e_a7, hF⟩ := xbd hF
      obtain ⟨e_a7, t_a7⟩ := xgo_sp e_a7
      refine gf_X11_20 C0 hR t_v0 e_a7 dX11_shared_25 ?_
      refine lv_iload_n hx hb dX11_shared_28 rfl (lv_at hl 1 rfl) ?_
      obtain ⟨a8, e_a8, hF⟩ := xbd hF
      obtain ⟨u9, e_u9, hF⟩ := xbd hF
      have t_a8 := xck_sp e_u9
      refine cl_X11_155 C0 hR hS e_a8 t_a7 ⟨(Nat.le_of_ble_eq_true rfl), (Nat.le_of_ble_eq_true rfl)⟩ hl.1 (Nat.le_of_ble_eq_true rfl) ⟨(Nat.le_of_ble_eq_true rfl), (Nat.le_of_ble_eq_true rfl)⟩ dX11_shared_29 (fun H locs hR hS => ?_)
      refine lv_aload_n hx hb dX11_shared_32 rfl (lv_at hl 0 rfl) ?_
      obtain ⟨a10, e_a10, hF⟩ := xbd hF
      obtain ⟨e_a10, t_a10⟩ := xgo_sp e_a10
      refine gf_X11_20 C0 hR t_v0 e_a10 dX11_shared_33 ?_
      refine lv_iload_n hx hb dX11_shared_36 rfl (lv_at hl 2 rfl) ?_
      obtain ⟨a11, e_a11, hF⟩ := xbd hF
      obtain ⟨u12, e_u12, hF⟩ := xbd hF
      have t_a11 := xck_sp e_u12
      refine cl_X11_155 C0 hR hS e_a11 t_a10 ⟨(Nat.le_of_ble_eq_true rfl), (Nat.le_of_ble_eq_true rfl)⟩ hl.1 (Nat.le_of_ble_eq_true rfl) ⟨(Nat.le_of_ble_eq_true rfl), (Nat.le_of_ble_eq_true rfl)⟩ dX11_shared_37 (fun H locs hR hS => ?_)
      obtain ⟨a13, e_a13, hF⟩ := xbd hF
      refine cl_X11_252 C0 hR hS e_a13 t_a8 t_a11 ⟨(Nat.le_of_ble_eq_true rfl), (Nat.le_of_ble_eq_true rfl)⟩ hl.1 (Nat.le_of_ble_eq_true rfl) ⟨(Nat.le_of_ble_eq_true rfl), (Nat.le_of_ble_eq_true rfl)⟩ dX11_shared_40 (fun H locs hR hS => ?_)
      cases hF
      exact x_iret C0 hR hS dX11_shared_43
    · have hF := xif hF c6
      refine lv_iconst (v := (-1)) hx hb dX11_shared_22 (by decide) ?_
      cases hF
      exact x_iret C0 hR hS dX11_shared_23
theorem xm_X11_shared : xMw yX11_shared cX11_shared 3 (some .int) 2 := ⟨xin 978 (by decide +kernel) rfl, xin 114 (by decide +kernel) rfl, by decide +kernel⟩
theorem xi_X11_shared : Cond.instanceMethod yX11_shared ∈ xT := xin 976 (by decide +kernel) rfl
theorem xe_X11_shared : Cond.selects yX11_shared.cls yX11_shared yX11_shared ∈ xT := xin 977 (by decide +kernel) rfl
theorem dX11_critical_0 : decode cX11_critical 0 = .ok (.aload_n 0, 1) := by decide +kernel
theorem dX11_critical_1 : decode cX11_critical 1 = .ok (.getfield 20, 3) := by decide +kernel
theorem dX11_critical_4 : decode cX11_critical 4 = .ok (.iload_n 1, 1) := by decide +kernel
theorem dX11_critical_5 : decode cX11_critical 5 = .ok (.invokevirtual 144, 3) := by decide +kernel
theorem dX11_critical_8 : decode cX11_critical 8 = .ok (.ifCond .eq 19, 3) := by decide +kernel
theorem dX11_critical_11 : decode cX11_critical 11 = .ok (.aload_n 0, 1) := by decide +kernel
theorem dX11_critical_12 : decode cX11_critical 12 = .ok (.getfield 20, 3) := by decide +kernel
theorem dX11_critical_15 : decode cX11_critical 15 = .ok (.iload_n 2, 1) := by decide +kernel
theorem dX11_critical_16 : decode cX11_critical 16 = .ok (.invokevirtual 144, 3) := by decide +kernel
theorem dX11_critical_19 : decode cX11_critical 19 = .ok (.ifCond .eq 8, 3) := by decide +kernel
theorem dX11_critical_22 : decode cX11_critical 22 = .ok (.iload 4, 2) := by decide +kernel
theorem dX11_critical_24 : decode cX11_critical 24 = .ok (.ifCond .ge 5, 3) := by decide +kernel
theorem dX11_critical_27 : decode cX11_critical 27 = .ok (.iconst (-1), 1) := by decide +kernel
theorem dX11_critical_28 : decode cX11_critical 28 = .ok (.ireturn, 1) := by decide +kernel
theorem dX11_critical_29 : decode cX11_critical 29 = .ok (.iload_n 3, 1) := by decide +kernel
theorem dX11_critical_30 : decode cX11_critical 30 = .ok (.ifCond .lt 18, 3) := by decide +kernel
theorem dX11_critical_33 : decode cX11_critical 33 = .ok (.iload_n 3, 1) := by decide +kernel
theorem dX11_critical_34 : decode cX11_critical 34 = .ok (.aload_n 0, 1) := by decide +kernel
theorem dX11_critical_35 : decode cX11_critical 35 = .ok (.getfield 20, 3) := by decide +kernel
theorem dX11_critical_38 : decode cX11_critical 38 = .ok (.iload_n 1, 1) := by decide +kernel
theorem dX11_critical_39 : decode cX11_critical 39 = .ok (.invokevirtual 155, 3) := by decide +kernel
theorem dX11_critical_42 : decode cX11_critical 42 = .ok (.getfield 128, 3) := by decide +kernel
theorem dX11_critical_45 : decode cX11_critical 45 = .ok (.if_icmp .lt 5, 3) := by decide +kernel
theorem dX11_critical_48 : decode cX11_critical 48 = .ok (.iconst (-1), 1) := by decide +kernel
theorem dX11_critical_49 : decode cX11_critical 49 = .ok (.ireturn, 1) := by decide +kernel
theorem dX11_critical_50 : decode cX11_critical 50 = .ok (.aload_n 0, 1) := by decide +kernel
theorem dX11_critical_51 : decode cX11_critical 51 = .ok (.iload_n 1, 1) := by decide +kernel
theorem dX11_critical_52 : decode cX11_critical 52 = .ok (.iload_n 2, 1) := by decide +kernel
theorem dX11_critical_53 : decode cX11_critical 53 = .ok (.iload_n 3, 1) := by decide +kernel
theorem dX11_critical_54 : decode cX11_critical 54 = .ok (.invokevirtual 256, 3) := by decide +kernel
theorem dX11_critical_57 : decode cX11_critical 57 = .ok (.ifCond .ne 6, 3) := by decide +kernel
theorem dX11_critical_60 : decode cX11_critical 60 = .ok (.bipush (-2), 2) := by decide +kernel
theorem dX11_critical_62 : decode cX11_critical 62 = .ok (.ireturn, 1) := by decide +kernel
theorem dX11_critical_63 : decode cX11_critical 63 = .ok (.aload_n 0, 1) := by decide +kernel
theorem dX11_critical_64 : decode cX11_critical 64 = .ok (.getfield 76, 3) := by decide +kernel
theorem dX11_critical_67 : decode cX11_critical 67 = .ok (.invokevirtual 234, 3) := by decide +kernel
theorem dX11_critical_70 : decode cX11_critical 70 = .ok (.iload 4, 2) := by decide +kernel
theorem dX11_critical_72 : decode cX11_critical 72 = .ok (.invokevirtual 178, 3) := by decide +kernel
theorem dX11_critical_75 : decode cX11_critical 75 = .ok (.ireturn, 1) := by decide +kernel
set_option maxHeartbeats 4000000 in
set_option maxRecDepth 100000 in
theorem jc_X11_critical {l : Launch} {D : xD} {ty : xTy} {h : xH} {v0 : Nat} {v1 : Int32} {v2 : Int32} {v3 : Int32} {v4 : Int32} {r : Int32} {h9 : xH} (t_v0 : ty v0 = some (0, 11)) (hF : jf_X11_critical ty h v0 v1 v2 v3 v4 = some (r, h9)) : Met l yX11_critical (xws yX11_critical cX11_critical 5 (some .int)) jr_X11_critical (xPc D ty h [.ref v0, .int v1, .int v2, .int v3, .int v4]) (xQ D ty (some (.int r)) h9) 0 0 (xdom ty) := by
  refine x_met (by decide) ?_
  intro p e s m below meth c C0 hR
  generalize hargs : ([.ref v0, .int v1, .int v2, .int v3, .int v4] : List Value).toArray = args at C0 ⊢
  have hx := C0.1
  have hb := C0.2.1
  have hown := C0.2.2.2.2.2.1
  have hts := C0.2.2.2.2.2.2.1
  have hS : xS ty s.heap s.heap [] := xS.rf
  have hl := lv_entry ([.ref v0, .int v1, .int v2, .int v3, .int v4]) (n := 5) (Nat.le_of_ble_eq_true rfl)
  rw [← hargs, lg_entry_eq]
  rw [hargs]
  generalize (lg_sl ([.ref v0, .int v1, .int v2, .int v3, .int v4]) ++ List.replicate (5 - (lg_sl ([.ref v0, .int v1, .int v2, .int v3, .int v4])).length) Slot.unset).toArray = ls at hl ⊢
  have hl : lv_has ls 5 [(0, .ref v0), (1, .int v1), (2, .int v2), (3, .int v3), (4, .int v4)] := hl
  unfold jf_X11_critical at hF
  refine lv_aload_n hx hb dX11_critical_0 rfl (lv_at hl 0 rfl) ?_
  obtain ⟨a1, e_a1, hF⟩ := xbd hF
  obtain ⟨e_a1, t_a1⟩ := xgo_sp e_a1
  refine gf_X11_20 C0 hR t_v0 e_a1 dX11_critical_1 ?_
  refine lv_iload_n hx hb dX11_critical_4 rfl (lv_at hl 1 rfl) ?_
  obtain ⟨a2, e_a2, hF⟩ := xbd hF
  refine cl_X11_144 C0 hR hS e_a2 t_a1 ⟨(Nat.le_of_ble_eq_true rfl), (Nat.le_of_ble_eq_true rfl)⟩ hl.1 (Nat.le_of_ble_eq_true rfl) ⟨(Nat.le_of_ble_eq_true rfl), (Nat.le_of_ble_eq_true rfl)⟩ dX11_critical_5 (fun H locs hR hS => ?_)
  refine lv_if_eq (tgt := 27) hx hb dX11_critical_8 (by decide) (fun c3 => ?_) (fun c3 => ?_)
  · have hF := xif hF c3
    refine lv_iconst (v := (-1)) hx hb dX11_critical_27 (by decide) ?_
    cases hF
    exact x_iret C0 hR hS dX11_critical_28
  · have hF := xel hF c3
    refine lv_aload_n hx hb dX11_critical_11 rfl (lv_at hl 0 rfl) ?_
    obtain ⟨a4, e_a4, hF⟩ := xbd hF
    obtain ⟨e_a4, t_a4⟩ := xgo_sp e_a4
    refine gf_X11_20 C0 hR t_v0 e_a4 dX11_critical_12 ?_
    refine lv_iload_n hx hb dX11_critical_15 rfl (lv_at hl 2 rfl) ?_
    obtain ⟨a5, e_a5, hF⟩ := xbd hF
    refine cl_X11_144 C0 hR hS e_a5 t_a4 ⟨(Nat.le_of_ble_eq_true rfl), (Nat.le_of_ble_eq_true rfl)⟩ hl.1 (Nat.le_of_ble_eq_true rfl) ⟨(Nat.le_of_ble_eq_true rfl), (Nat.le_of_ble_eq_true rfl)⟩ dX11_critical_16 (fun H locs hR hS => ?_)
    refine lv_if_eq (tgt := 27) hx hb dX11_critical_19 (by decide) (fun c6 => ?_) (fun c6 => ?_)
    · have hF := xif hF c6
      refine lv_iconst (v := (-1)) hx hb dX11_critical_27 (by decide) ?_
      cases hF
      exact x_iret C0 hR hS dX11_critical_28
    · have hF := xel hF c6
      refine lv_iload hx hb dX11_critical_22 (lv_at hl 4 rfl) ?_
      refine lv_if_ge (tgt := 29) hx hb dX11_critical_24 (by decide) (fun c7 => ?_) (fun c7 => ?_)
      · have hF := xif hF c7
        refine lv_iload_n hx hb dX11_critical_29 rfl (lv_at hl 3 rfl) ?_
        refine lv_if_lt (tgt := 48) hx hb dX11_critical_30 (by decide) (fun c8 => ?_) (fun c8 => ?_)
        · have hF := xif hF c8
          refine lv_iconst (v := (-1)) hx hb dX11_critical_48 (by decide) ?_
          cases hF
          exact x_iret C0 hR hS dX11_critical_49
        · have hF := xel hF c8
          refine lv_iload_n hx hb dX11_critical_33 rfl (lv_at hl 3 rfl) ?_
          refine lv_aload_n hx hb dX11_critical_34 rfl (lv_at hl 0 rfl) ?_
          obtain ⟨a9, e_a9, hF⟩ := xbd hF
          obtain ⟨e_a9, t_a9⟩ := xgo_sp e_a9
          refine gf_X11_20 C0 hR t_v0 e_a9 dX11_critical_35 ?_
          refine lv_iload_n hx hb dX11_critical_38 rfl (lv_at hl 1 rfl) ?_
          obtain ⟨a10, e_a10, hF⟩ := xbd hF
          obtain ⟨u11, e_u11, hF⟩ := xbd hF
          have t_a10 := xck_sp e_u11
          refine cl_X11_155 C0 hR hS e_a10 t_a9 ⟨(Nat.le_of_ble_eq_true rfl), (Nat.le_of_ble_eq_true rfl)⟩ hl.1 (Nat.le_of_ble_eq_true rfl) ⟨(Nat.le_of_ble_eq_true rfl), (Nat.le_of_ble_eq_true rfl)⟩ dX11_critical_39 (fun H locs hR hS => ?_)
          refine gf_X11_128 C0 hR t_a10 dX11_critical_42 ?_
          refine lv_icmp_lt (tgt := 50) hx hb dX11_critical_45 (by decide) (fun c12 => ?_) (fun c12 => ?_)
          · have hF := xif hF c12
            refine lv_aload_n hx hb dX11_critical_50 rfl (lv_at hl 0 rfl) ?_
            refine lv_iload_n hx hb dX11_critical_51 rfl (lv_at hl 1 rfl) ?_
            refine lv_iload_n hx hb dX11_critical_52 rfl (lv_at hl 2 rfl) ?_
            refine lv_iload_n hx hb dX11_critical_53 rfl (lv_at hl 3 rfl) ?_
            obtain ⟨a14, h13, e_h13, hF⟩ := xbd2 hF
            refine cl_X11_256 C0 hR hS e_h13 t_v0 ⟨(Nat.le_of_ble_eq_true rfl), (Nat.le_of_ble_eq_true rfl)⟩ hl.1 (Nat.le_of_ble_eq_true rfl) ⟨(Nat.le_of_ble_eq_true rfl), (Nat.le_of_ble_eq_true rfl)⟩ dX11_critical_54 (fun H locs hR hS => ?_)
            refine lv_if_ne (tgt := 63) hx hb dX11_critical_57 (by decide) (fun c15 => ?_) (fun c15 => ?_)
            · have hF := xel hF c15
              refine lv_aload_n hx hb dX11_critical_63 rfl (lv_at hl 0 rfl) ?_
              obtain ⟨a16, e_a16, hF⟩ := xbd hF
              obtain ⟨e_a16, t_a16⟩ := xgo_sp e_a16
              refine gf_X11_76 C0 hR t_v0 e_a16 dX11_critical_64 ?_
              obtain ⟨a18, h17, e_h17, hF⟩ := xbd2 hF
              obtain ⟨u19, e_u19, hF⟩ := xbd hF
              have t_a18 := xck_sp e_u19
              refine cl_X11_234 C0 hR hS e_h17 t_a16 ⟨(Nat.le_of_ble_eq_true rfl), (Nat.le_of_ble_eq_true rfl)⟩ hl.1 (Nat.le_of_ble_eq_true rfl) ⟨(Nat.le_of_ble_eq_true rfl), (Nat.le_of_ble_eq_true rfl)⟩ dX11_critical_67 (fun H locs hR hS => ?_)
              refine lv_iload hx hb dX11_critical_70 (lv_at hl 4 rfl) ?_
              obtain ⟨a20, e_a20, hF⟩ := xbd hF
              refine cl_X11_178 C0 hR hS e_a20 t_a18 ⟨(Nat.le_of_ble_eq_true rfl), (Nat.le_of_ble_eq_true rfl)⟩ hl.1 (Nat.le_of_ble_eq_true rfl) ⟨(Nat.le_of_ble_eq_true rfl), (Nat.le_of_ble_eq_true rfl)⟩ dX11_critical_72 (fun H locs hR hS => ?_)
              cases hF
              exact x_iret C0 hR hS dX11_critical_75
            · have hF := xif hF c15
              refine lv_bipush (v := (-2)) hx hb dX11_critical_60 (by decide) ?_
              cases hF
              exact x_iret C0 hR hS dX11_critical_62
          · have hF := xel hF c12
            refine lv_iconst (v := (-1)) hx hb dX11_critical_48 (by decide) ?_
            cases hF
            exact x_iret C0 hR hS dX11_critical_49
      · have hF := xel hF c7
        refine lv_iconst (v := (-1)) hx hb dX11_critical_27 (by decide) ?_
        cases hF
        exact x_iret C0 hR hS dX11_critical_28
theorem xm_X11_critical : xMw yX11_critical cX11_critical 5 (some .int) 4 := ⟨xin 983 (by decide +kernel) rfl, xin 114 (by decide +kernel) rfl, by decide +kernel⟩
theorem xi_X11_critical : Cond.instanceMethod yX11_critical ∈ xT := xin 981 (by decide +kernel) rfl
theorem xe_X11_critical : Cond.selects yX11_critical.cls yX11_critical yX11_critical ∈ xT := xin 982 (by decide +kernel) rfl
theorem dX11_criticals_0 : decode cX11_criticals 0 = .ok (.iconst 0, 1) := by decide +kernel
theorem dX11_criticals_1 : decode cX11_criticals 1 = .ok (.istore_n 1, 1) := by decide +kernel
theorem dX11_criticals_2 : decode cX11_criticals 2 = .ok (.iconst 0, 1) := by decide +kernel
theorem dX11_criticals_3 : decode cX11_criticals 3 = .ok (.istore_n 2, 1) := by decide +kernel
theorem dX11_criticals_4 : decode cX11_criticals 4 = .ok (.iload_n 2, 1) := by decide +kernel
theorem dX11_criticals_5 : decode cX11_criticals 5 = .ok (.aload_n 0, 1) := by decide +kernel
theorem dX11_criticals_6 : decode cX11_criticals 6 = .ok (.getfield 20, 3) := by decide +kernel
theorem dX11_criticals_9 : decode cX11_criticals 9 = .ok (.getfield 111, 3) := by decide +kernel
theorem dX11_criticals_12 : decode cX11_criticals 12 = .ok (.if_icmp .ge 62, 3) := by decide +kernel
theorem dX11_criticals_15 : decode cX11_criticals 15 = .ok (.iconst 0, 1) := by decide +kernel
theorem dX11_criticals_16 : decode cX11_criticals 16 = .ok (.istore_n 3, 1) := by decide +kernel
theorem dX11_criticals_17 : decode cX11_criticals 17 = .ok (.iload_n 3, 1) := by decide +kernel
theorem dX11_criticals_18 : decode cX11_criticals 18 = .ok (.aload_n 0, 1) := by decide +kernel
theorem dX11_criticals_19 : decode cX11_criticals 19 = .ok (.getfield 20, 3) := by decide +kernel
theorem dX11_criticals_22 : decode cX11_criticals 22 = .ok (.getfield 111, 3) := by decide +kernel
theorem dX11_criticals_25 : decode cX11_criticals 25 = .ok (.if_icmp .ge 43, 3) := by decide +kernel
theorem dX11_criticals_28 : decode cX11_criticals 28 = .ok (.aload_n 0, 1) := by decide +kernel
theorem dX11_criticals_29 : decode cX11_criticals 29 = .ok (.getfield 55, 3) := by decide +kernel
theorem dX11_criticals_32 : decode cX11_criticals 32 = .ok (.iload_n 2, 1) := by decide +kernel
theorem dX11_criticals_33 : decode cX11_criticals 33 = .ok (.invokevirtual 166, 3) := by decide +kernel
theorem dX11_criticals_36 : decode cX11_criticals 36 = .ok (.ifCond .eq 26, 3) := by decide +kernel
theorem dX11_criticals_39 : decode cX11_criticals 39 = .ok (.aload_n 0, 1) := by decide +kernel
theorem dX11_criticals_40 : decode cX11_criticals 40 = .ok (.getfield 55, 3) := by decide +kernel
theorem dX11_criticals_43 : decode cX11_criticals 43 = .ok (.iload_n 3, 1) := by decide +kernel
theorem dX11_criticals_44 : decode cX11_criticals 44 = .ok (.invokevirtual 166, 3) := by decide +kernel
theorem dX11_criticals_47 : decode cX11_criticals 47 = .ok (.ifCond .eq 15, 3) := by decide +kernel
theorem dX11_criticals_50 : decode cX11_criticals 50 = .ok (.iload_n 1, 1) := by decide +kernel
theorem dX11_criticals_51 : decode cX11_criticals 51 = .ok (.aload_n 0, 1) := by decide +kernel
theorem dX11_criticals_52 : decode cX11_criticals 52 = .ok (.iload_n 2, 1) := by decide +kernel
theorem dX11_criticals_53 : decode cX11_criticals 53 = .ok (.iload_n 3, 1) := by decide +kernel
theorem dX11_criticals_54 : decode cX11_criticals 54 = .ok (.invokevirtual 248, 3) := by decide +kernel
theorem dX11_criticals_57 : decode cX11_criticals 57 = .ok (.invokestatic 205, 3) := by decide +kernel
theorem dX11_criticals_60 : decode cX11_criticals 60 = .ok (.iadd, 1) := by decide +kernel
theorem dX11_criticals_61 : decode cX11_criticals 61 = .ok (.istore_n 1, 1) := by decide +kernel
theorem dX11_criticals_62 : decode cX11_criticals 62 = .ok (.iinc 3 1, 3) := by decide +kernel
theorem dX11_criticals_65 : decode cX11_criticals 65 = .ok (.goto (-48), 3) := by decide +kernel
theorem dX11_criticals_68 : decode cX11_criticals 68 = .ok (.iinc 2 1, 3) := by decide +kernel
theorem dX11_criticals_71 : decode cX11_criticals 71 = .ok (.goto (-67), 3) := by decide +kernel
theorem dX11_criticals_74 : decode cX11_criticals 74 = .ok (.iload_n 1, 1) := by decide +kernel
theorem dX11_criticals_75 : decode cX11_criticals 75 = .ok (.ireturn, 1) := by decide +kernel
set_option maxHeartbeats 4000000 in
set_option maxRecDepth 100000 in
theorem jw_X11_criticals_17 {p : Program} {l : Launch} {e : Env} {s : State} {m : MethodId} {args : Array Value} {below : List Frame} {meth : Method} {c : Code} {D : xD} {ty : xTy} {k4 : Nat → Int32 → Int32 → xH → Option (Int32 × xH)} (C0 : xC D RX11 cX11_criticals 4 (some .int) p s m args meth c) {r : Int32} {h9 : xH} (hk4 : ∀ (v0 : Nat) (v1 : Int32) (v2 : Int32) (h : xH), ty v0 = some (0, 11) → k4 v0 v1 v2 h = some (r, h9) → ∀ (H : Heap) (locs : List Loc), xRep D ty h H → xS ty s.heap H locs → ∀ ls : Array Slot, lv_has ls 4 [(0, .ref v0), (1, .int v1), (2, .int v2)] → W p l e jr_X11_criticals s m args below meth c H locs 0 0 (MQ below (xQ D ty (some (.int r)) h9) args s 0 0 (xdom ty)) (F0 m 4 ls [])) : ∀ n : Nat, ∀ (v0 : Nat) (v1 : Int32) (v2 : Int32) (v3 : Int32) (h : xH), ty v0 = some (0, 11) → jf_X11_criticals_17 ty k4 n v0 v1 v2 v3 h = some (r, h9) → ∀ (H : Heap) (locs : List Loc), xRep D ty h H → xS ty s.heap H locs → ∀ ls : Array Slot, lv_has ls 4 [(0, .ref v0), (1, .int v1), (2, .int v2), (3, .int v3)] → W p l e jr_X11_criticals s m args below meth c H locs 0 0 (MQ below (xQ D ty (some (.int r)) h9) args s 0 0 (xdom ty)) (F0 m 17 ls []) := by
  have hx := C0.1
  have hb := C0.2.1
  have hown := C0.2.2.2.2.2.1
  have hts := C0.2.2.2.2.2.2.1
  intro n
  induction n with
  | zero =>
    intro v0 v1 v2 v3 h t_v0 hF H locs hR hS ls hl
    cases hF
  | succ n ih =>
    intro v0 v1 v2 v3 h t_v0 hF H locs hR hS ls hl
    rw [jf_X11_criticals_17_s] at hF
    refine lv_iload_n hx hb dX11_criticals_17 rfl (lv_at hl 3 rfl) ?_
    refine lv_aload_n hx hb dX11_criticals_18 rfl (lv_at hl 0 rfl) ?_
    obtain ⟨a1, e_a1, hF⟩ := xbd hF
    obtain ⟨e_a1, t_a1⟩ := xgo_sp e_a1
    refine gf_X11_20 C0 hR t_v0 e_a1 dX11_criticals_19 ?_
    refine gf_X11_111 C0 hR t_a1 dX11_criticals_22 ?_
    refine lv_icmp_ge (tgt := 68) hx hb dX11_criticals_25 (by decide) (fun c2 => ?_) (fun c2 => ?_)
    · have hF := xif hF c2
      refine lv_iinc (v := v2 + 1) (lv' := [(2, .int (v2 + 1)), (0, .ref v0), (1, .int v1), (3, .int v3)]) hx hb dX11_criticals_68 hl (k := 2) rfl rfl (by decide) rfl (fun ls hl => ?_)
      refine lv_goto (tgt := 4) hx hb dX11_criticals_71 (by decide) ?_
      exact hk4 _ _ _ _ t_v0 hF _ _ hR hS _ (lv_sub hl [1, 2, 0] rfl)
    · have hF := xel hF c2
      refine lv_aload_n hx hb dX11_criticals_28 rfl (lv_at hl 0 rfl) ?_
      obtain ⟨a3, e_a3, hF⟩ := xbd hF
      obtain ⟨e_a3, t_a3⟩ := xgo_sp e_a3
      refine gf_X11_55 C0 hR t_v0 e_a3 dX11_criticals_29 ?_
      refine lv_iload_n hx hb dX11_criticals_32 rfl (lv_at hl 2 rfl) ?_
      obtain ⟨a4, e_a4, hF⟩ := xbd hF
      refine cl_X11_166 C0 hR hS e_a4 t_a3 ⟨(Nat.le_of_ble_eq_true rfl), (Nat.le_of_ble_eq_true rfl)⟩ hl.1 (Nat.le_of_ble_eq_true rfl) ⟨(Nat.le_of_ble_eq_true rfl), (Nat.le_of_ble_eq_true rfl)⟩ dX11_criticals_33 (fun H locs hR hS => ?_)
      refine lv_if_eq (tgt := 62) hx hb dX11_criticals_36 (by decide) (fun c5 => ?_) (fun c5 => ?_)
      · have hF := xif hF c5
        refine lv_iinc (v := v3 + 1) (lv' := [(3, .int (v3 + 1)), (0, .ref v0), (1, .int v1), (2, .int v2)]) hx hb dX11_criticals_62 hl (k := 3) rfl rfl (by decide) rfl (fun ls hl => ?_)
        refine lv_goto (tgt := 17) hx hb dX11_criticals_65 (by decide) ?_
        exact ih _ _ _ _ _ t_v0 hF _ _ hR hS _ (lv_sub hl [1, 2, 3, 0] rfl)
      · have hF := xel hF c5
        refine lv_aload_n hx hb dX11_criticals_39 rfl (lv_at hl 0 rfl) ?_
        obtain ⟨a6, e_a6, hF⟩ := xbd hF
        obtain ⟨e_a6, t_a6⟩ := xgo_sp e_a6
        refine gf_X11_55 C0 hR t_v0 e_a6 dX11_criticals_40 ?_
        refine lv_iload_n hx hb dX11_criticals_43 rfl (lv_at hl 3 rfl) ?_
        obtain ⟨a7, e_a7, hF⟩ := xbd hF
        refine cl_X11_166 C0 hR hS e_a7 t_a6 ⟨(Nat.le_of_ble_eq_true rfl), (Nat.le_of_ble_eq_true rfl)⟩ hl.1 (Nat.le_of_ble_eq_true rfl) ⟨(Nat.le_of_ble_eq_true rfl), (Nat.le_of_ble_eq_true rfl)⟩ dX11_criticals_44 (fun H locs hR hS => ?_)
        refine lv_if_eq (tgt := 62) hx hb dX11_criticals_47 (by decide) (fun c8 => ?_) (fun c8 => ?_)
        · have hF := xif hF c8
          refine lv_iinc (v := v3 + 1) (lv' := [(3, .int (v3 + 1)), (0, .ref v0), (1, .int v1), (2, .int v2)]) hx hb dX11_criticals_62 hl (k := 3) rfl rfl (by decide) rfl (fun ls hl => ?_)
          refine lv_goto (tgt := 17) hx hb dX11_criticals_65 (by decide) ?_
          exact ih _ _ _ _ _ t_v0 hF _ _ hR hS _ (lv_sub hl [1, 2, 3, 0] rfl)
        · have hF := xel hF c8
          refine lv_iload_n hx hb dX11_criticals_50 rfl (lv_at hl 1 rfl) ?_
          refine lv_aload_n hx hb dX11_criticals_51 rfl (lv_at hl 0 rfl) ?_
          refine lv_iload_n hx hb dX11_criticals_52 rfl (lv_at hl 2 rfl) ?_
          refine lv_iload_n hx hb dX11_criticals_53 rfl (lv_at hl 3 rfl) ?_
          obtain ⟨a10, h9, e_h9, hF⟩ := xbd2 hF
          refine cl_X11_248 C0 hR hS e_h9 t_v0 ⟨(Nat.le_of_ble_eq_true rfl), (Nat.le_of_ble_eq_true rfl)⟩ hl.1 (Nat.le_of_ble_eq_true rfl) ⟨(Nat.le_of_ble_eq_true rfl), (Nat.le_of_ble_eq_true rfl)⟩ dX11_criticals_54 (fun H locs hR hS => ?_)
          obtain ⟨a11, e_a11, hF⟩ := xbd hF
          refine cl_X11_205 C0 hR hS e_a11  ⟨(Nat.le_of_ble_eq_true rfl), (Nat.le_of_ble_eq_true rfl)⟩ hl.1 (Nat.le_of_ble_eq_true rfl) ⟨(Nat.le_of_ble_eq_true rfl), (Nat.le_of_ble_eq_true rfl)⟩ dX11_criticals_57 (fun H locs hR hS => ?_)
          refine lv_iadd hx hb dX11_criticals_60 ?_
          refine lv_istore_n (lv' := [(1, .int (v1 + a11)), (0, .ref v0), (2, .int v2), (3, .int v3)]) hx hb dX11_criticals_61 rfl hl (by decide) rfl (fun ls hl => ?_)
          refine lv_iinc (v := v3 + 1) (lv' := [(3, .int (v3 + 1)), (1, .int (v1 + a11)), (0, .ref v0), (2, .int v2)]) hx hb dX11_criticals_62 hl (k := 3) rfl rfl (by decide) rfl (fun ls hl => ?_)
          refine lv_goto (tgt := 17) hx hb dX11_criticals_65 (by decide) ?_
          exact ih _ _ _ _ _ t_v0 hF _ _ hR hS _ (lv_sub hl [2, 1, 3, 0] rfl)
set_option maxHeartbeats 4000000 in
set_option maxRecDepth 100000 in
theorem jw_X11_criticals_4 {p : Program} {l : Launch} {e : Env} {s : State} {m : MethodId} {args : Array Value} {below : List Frame} {meth : Method} {c : Code} {D : xD} {ty : xTy} (C0 : xC D RX11 cX11_criticals 4 (some .int) p s m args meth c) {r : Int32} {h9 : xH} : ∀ n : Nat, ∀ (v0 : Nat) (v1 : Int32) (v2 : Int32) (h : xH), ty v0 = some (0, 11) → jf_X11_criticals_4 ty n v0 v1 v2 h = some (r, h9) → ∀ (H : Heap) (locs : List Loc), xRep D ty h H → xS ty s.heap H locs → ∀ ls : Array Slot, lv_has ls 4 [(0, .ref v0), (1, .int v1), (2, .int v2)] → W p l e jr_X11_criticals s m args below meth c H locs 0 0 (MQ below (xQ D ty (some (.int r)) h9) args s 0 0 (xdom ty)) (F0 m 4 ls []) := by
  have hx := C0.1
  have hb := C0.2.1
  have hown := C0.2.2.2.2.2.1
  have hts := C0.2.2.2.2.2.2.1
  intro n
  induction n with
  | zero =>
    intro v0 v1 v2 h t_v0 hF H locs hR hS ls hl
    cases hF
  | succ n ih =>
    intro v0 v1 v2 h t_v0 hF H locs hR hS ls hl
    rw [jf_X11_criticals_4_s] at hF
    refine lv_iload_n hx hb dX11_criticals_4 rfl (lv_at hl 2 rfl) ?_
    refine lv_aload_n hx hb dX11_criticals_5 rfl (lv_at hl 0 rfl) ?_
    obtain ⟨a12, e_a12, hF⟩ := xbd hF
    obtain ⟨e_a12, t_a12⟩ := xgo_sp e_a12
    refine gf_X11_20 C0 hR t_v0 e_a12 dX11_criticals_6 ?_
    refine gf_X11_111 C0 hR t_a12 dX11_criticals_9 ?_
    refine lv_icmp_ge (tgt := 74) hx hb dX11_criticals_12 (by decide) (fun c13 => ?_) (fun c13 => ?_)
    · have hF := xif hF c13
      refine lv_iload_n hx hb dX11_criticals_74 rfl (lv_at hl 1 rfl) ?_
      cases hF
      exact x_iret C0 hR hS dX11_criticals_75
    · have hF := xel hF c13
      refine lv_iconst (v := 0) hx hb dX11_criticals_15 (by decide) ?_
      refine lv_istore_n (lv' := [(3, .int 0), (0, .ref v0), (1, .int v1), (2, .int v2)]) hx hb dX11_criticals_16 rfl hl (by decide) rfl (fun ls hl => ?_)
      obtain ⟨_, hF⟩ := xlim_sp hF
      exact jw_X11_criticals_17 C0 ih _ _ _ _ _ _ t_v0 hF _ _ hR hS _ (lv_sub hl [1, 2, 3, 0] rfl)
set_option maxHeartbeats 4000000 in
set_option maxRecDepth 100000 in
theorem jc_X11_criticals {l : Launch} {D : xD} {ty : xTy} {h : xH} {v0 : Nat} {r : Int32} {h9 : xH} (t_v0 : ty v0 = some (0, 11)) (hF : jf_X11_criticals ty h v0 = some (r, h9)) : Met l yX11_criticals (xws yX11_criticals cX11_criticals 4 (some .int)) jr_X11_criticals (xPc D ty h [.ref v0]) (xQ D ty (some (.int r)) h9) 0 0 (xdom ty) := by
  refine x_met (by decide) ?_
  intro p e s m below meth c C0 hR
  generalize hargs : ([.ref v0] : List Value).toArray = args at C0 ⊢
  have hx := C0.1
  have hb := C0.2.1
  have hown := C0.2.2.2.2.2.1
  have hts := C0.2.2.2.2.2.2.1
  have hS : xS ty s.heap s.heap [] := xS.rf
  have hl := lv_entry ([.ref v0]) (n := 4) (Nat.le_of_ble_eq_true rfl)
  rw [← hargs, lg_entry_eq]
  rw [hargs]
  generalize (lg_sl ([.ref v0]) ++ List.replicate (4 - (lg_sl ([.ref v0])).length) Slot.unset).toArray = ls at hl ⊢
  have hl : lv_has ls 4 [(0, .ref v0)] := hl
  unfold jf_X11_criticals at hF
  refine lv_iconst (v := 0) hx hb dX11_criticals_0 (by decide) ?_
  refine lv_istore_n (lv' := [(1, .int 0), (0, .ref v0)]) hx hb dX11_criticals_1 rfl hl (by decide) rfl (fun ls hl => ?_)
  refine lv_iconst (v := 0) hx hb dX11_criticals_2 (by decide) ?_
  refine lv_istore_n (lv' := [(2, .int 0), (1, .int 0), (0, .ref v0)]) hx hb dX11_criticals_3 rfl hl (by decide) rfl (fun ls hl => ?_)
  obtain ⟨_, hF⟩ := xlim_sp hF
  exact jw_X11_criticals_4 C0 _ _ _ _ _ t_v0 hF _ _ hR hS _ (lv_sub hl [2, 1, 0] rfl)
theorem xm_X11_criticals : xMw yX11_criticals cX11_criticals 4 (some .int) 0 := ⟨xin 987 (by decide +kernel) rfl, xin 114 (by decide +kernel) rfl, by decide +kernel⟩
theorem xi_X11_criticals : Cond.instanceMethod yX11_criticals ∈ xT := xin 985 (by decide +kernel) rfl
theorem xe_X11_criticals : Cond.selects yX11_criticals.cls yX11_criticals yX11_criticals ∈ xT := xin 986 (by decide +kernel) rfl
theorem dX11_depth_0 : decode cX11_depth 0 = .ok (.aload_n 0, 1) := by decide +kernel
theorem dX11_depth_1 : decode cX11_depth 1 = .ok (.getfield 20, 3) := by decide +kernel
theorem dX11_depth_4 : decode cX11_depth 4 = .ok (.iload_n 1, 1) := by decide +kernel
theorem dX11_depth_5 : decode cX11_depth 5 = .ok (.invokevirtual 144, 3) := by decide +kernel
theorem dX11_depth_8 : decode cX11_depth 8 = .ok (.ifCond .eq 17, 3) := by decide +kernel
theorem dX11_depth_11 : decode cX11_depth 11 = .ok (.aload_n 0, 1) := by decide +kernel
theorem dX11_depth_12 : decode cX11_depth 12 = .ok (.getfield 20, 3) := by decide +kernel
theorem dX11_depth_15 : decode cX11_depth 15 = .ok (.iload_n 1, 1) := by decide +kernel
theorem dX11_depth_16 : decode cX11_depth 16 = .ok (.invokevirtual 155, 3) := by decide +kernel
theorem dX11_depth_19 : decode cX11_depth 19 = .ok (.invokevirtual 260, 3) := by decide +kernel
theorem dX11_depth_22 : decode cX11_depth 22 = .ok (.goto 4, 3) := by decide +kernel
theorem dX11_depth_25 : decode cX11_depth 25 = .ok (.iconst (-1), 1) := by decide +kernel
theorem dX11_depth_26 : decode cX11_depth 26 = .ok (.ireturn, 1) := by decide +kernel
theorem wl_X11_260 : Cond.methodLink RX11 260 yX7_levels ∈ xT := xin 992 (by decide +kernel) rfl
section XN_X11_depth
variable {p : Program} {l : Launch} {e : Env} {R : Room} {s : State} {m : MethodId} {args : Array Value} {below : List Frame} {meth : Method} {c : Code} {H H0 : Heap} {locs : List Loc} {cells slots : Nat} {Q : State → Prop} {cc : ByteArray} {nL pc : Nat} {rt : Option FieldType} {ls : Array Slot} {rest : List Value} {D : xD} {ty : xTy} {h : xH}
theorem cl_X11_260 {v0 : Nat} {r : Int32} (C0 : xC D RX11 cc nL rt p s m args meth c) (hR : xRep D ty h H) (hS : xS ty H0 H locs) (hF : jf_X7_levels ty h v0 = some r) (t_v0 : ty v0 = some (0, 7)) (hrm : jr_X7_levels.frames + 1 ≤ R.frames ∧ 8 + (5 + 11) + jr_X7_levels.locals ≤ R.locals) (hsz : ls.size = nL) (hW : (rest.map fun v => v.category).sum ≤ 8) (hf : cells ≤ R.cells ∧ slots ≤ R.slots) (hdg : decode cc pc = .ok (.invokevirtual 260, 3)) (kk : ∀ (H1 : Heap) (locs1 : List Loc), xRep D ty h H1 → xS ty H0 H1 locs1 → W p l e R s m args below meth c H1 locs1 cells slots Q (F0 m (pc + 3) ls (.int r :: rest))) : W p l e R s m args below meth c H locs cells slots Q (F0 m pc ls (.ref v0 :: rest)) := x_callV C0 (jc_X7_levels t_v0 hF) xm_X7_levels xi_X7_levels xe_X7_levels wl_X11_260 ⟨rfl, rfl, hrm⟩ (ci := 7) rfl t_v0 hR hS (As := []) rfl hsz rfl hW hdg hf kk
end XN_X11_depth
set_option maxHeartbeats 4000000 in
set_option maxRecDepth 100000 in
theorem jc_X11_depth {l : Launch} {D : xD} {ty : xTy} {h : xH} {v0 : Nat} {v1 : Int32} {r : Int32} (t_v0 : ty v0 = some (0, 11)) (hF : jf_X11_depth ty h v0 v1 = some r) : Met l yX11_depth (xws yX11_depth cX11_depth 2 (some .int)) jr_X11_depth (xPc D ty h [.ref v0, .int v1]) (xQ D ty (some (.int r)) h) 0 0 (xdom ty) := by
  refine x_met (by decide) ?_
  intro p e s m below meth c C0 hR
  generalize hargs : ([.ref v0, .int v1] : List Value).toArray = args at C0 ⊢
  have hx := C0.1
  have hb := C0.2.1
  have hown := C0.2.2.2.2.2.1
  have hts := C0.2.2.2.2.2.2.1
  have hS : xS ty s.heap s.heap [] := xS.rf
  have hl := lv_entry ([.ref v0, .int v1]) (n := 2) (Nat.le_of_ble_eq_true rfl)
  rw [← hargs, lg_entry_eq]
  rw [hargs]
  generalize (lg_sl ([.ref v0, .int v1]) ++ List.replicate (2 - (lg_sl ([.ref v0, .int v1])).length) Slot.unset).toArray = ls at hl ⊢
  have hl : lv_has ls 2 [(0, .ref v0), (1, .int v1)] := hl
  unfold jf_X11_depth at hF
  refine lv_aload_n hx hb dX11_depth_0 rfl (lv_at hl 0 rfl) ?_
  obtain ⟨a1, e_a1, hF⟩ := xbd hF
  obtain ⟨e_a1, t_a1⟩ := xgo_sp e_a1
  refine gf_X11_20 C0 hR t_v0 e_a1 dX11_depth_1 ?_
  refine lv_iload_n hx hb dX11_depth_4 rfl (lv_at hl 1 rfl) ?_
  obtain ⟨a2, e_a2, hF⟩ := xbd hF
  refine cl_X11_144 C0 hR hS e_a2 t_a1 ⟨(Nat.le_of_ble_eq_true rfl), (Nat.le_of_ble_eq_true rfl)⟩ hl.1 (Nat.le_of_ble_eq_true rfl) ⟨(Nat.le_of_ble_eq_true rfl), (Nat.le_of_ble_eq_true rfl)⟩ dX11_depth_5 (fun H locs hR hS => ?_)
  refine lv_if_eq (tgt := 25) hx hb dX11_depth_8 (by decide) (fun c3 => ?_) (fun c3 => ?_)
  · have hF := xif hF c3
    refine lv_iconst (v := (-1)) hx hb dX11_depth_25 (by decide) ?_
    cases hF
    exact x_iret C0 hR hS dX11_depth_26
  · have hF := xel hF c3
    refine lv_aload_n hx hb dX11_depth_11 rfl (lv_at hl 0 rfl) ?_
    obtain ⟨a4, e_a4, hF⟩ := xbd hF
    obtain ⟨e_a4, t_a4⟩ := xgo_sp e_a4
    refine gf_X11_20 C0 hR t_v0 e_a4 dX11_depth_12 ?_
    refine lv_iload_n hx hb dX11_depth_15 rfl (lv_at hl 1 rfl) ?_
    obtain ⟨a5, e_a5, hF⟩ := xbd hF
    obtain ⟨u6, e_u6, hF⟩ := xbd hF
    have t_a5 := xck_sp e_u6
    refine cl_X11_155 C0 hR hS e_a5 t_a4 ⟨(Nat.le_of_ble_eq_true rfl), (Nat.le_of_ble_eq_true rfl)⟩ hl.1 (Nat.le_of_ble_eq_true rfl) ⟨(Nat.le_of_ble_eq_true rfl), (Nat.le_of_ble_eq_true rfl)⟩ dX11_depth_16 (fun H locs hR hS => ?_)
    obtain ⟨a7, e_a7, hF⟩ := xbd hF
    refine cl_X11_260 C0 hR hS e_a7 t_a5 ⟨(Nat.le_of_ble_eq_true rfl), (Nat.le_of_ble_eq_true rfl)⟩ hl.1 (Nat.le_of_ble_eq_true rfl) ⟨(Nat.le_of_ble_eq_true rfl), (Nat.le_of_ble_eq_true rfl)⟩ dX11_depth_19 (fun H locs hR hS => ?_)
    refine lv_goto (tgt := 26) hx hb dX11_depth_22 (by decide) ?_
    cases hF
    exact x_iret C0 hR hS dX11_depth_26
theorem xm_X11_depth : xMw yX11_depth cX11_depth 2 (some .int) 1 := ⟨xin 991 (by decide +kernel) rfl, xin 114 (by decide +kernel) rfl, by decide +kernel⟩
theorem xi_X11_depth : Cond.instanceMethod yX11_depth ∈ xT := xin 989 (by decide +kernel) rfl
theorem xe_X11_depth : Cond.selects yX11_depth.cls yX11_depth yX11_depth ∈ xT := xin 990 (by decide +kernel) rfl
theorem dJ6_numberOfTrailingZeros_0f7a4_0 : decode cJ6_numberOfTrailingZeros_0f7a4 0 = .ok (.iload_n 0, 1) := by decide +kernel
theorem dJ6_numberOfTrailingZeros_0f7a4_1 : decode cJ6_numberOfTrailingZeros_0f7a4 1 = .ok (.iconst (-1), 1) := by decide +kernel
theorem dJ6_numberOfTrailingZeros_0f7a4_2 : decode cJ6_numberOfTrailingZeros_0f7a4 2 = .ok (.ixor, 1) := by decide +kernel
theorem dJ6_numberOfTrailingZeros_0f7a4_3 : decode cJ6_numberOfTrailingZeros_0f7a4 3 = .ok (.iload_n 0, 1) := by decide +kernel
theorem dJ6_numberOfTrailingZeros_0f7a4_4 : decode cJ6_numberOfTrailingZeros_0f7a4 4 = .ok (.iconst 1, 1) := by decide +kernel
theorem dJ6_numberOfTrailingZeros_0f7a4_5 : decode cJ6_numberOfTrailingZeros_0f7a4 5 = .ok (.isub, 1) := by decide +kernel
theorem dJ6_numberOfTrailingZeros_0f7a4_6 : decode cJ6_numberOfTrailingZeros_0f7a4 6 = .ok (.iand, 1) := by decide +kernel
theorem dJ6_numberOfTrailingZeros_0f7a4_7 : decode cJ6_numberOfTrailingZeros_0f7a4 7 = .ok (.istore_n 0, 1) := by decide +kernel
theorem dJ6_numberOfTrailingZeros_0f7a4_8 : decode cJ6_numberOfTrailingZeros_0f7a4 8 = .ok (.iload_n 0, 1) := by decide +kernel
theorem dJ6_numberOfTrailingZeros_0f7a4_9 : decode cJ6_numberOfTrailingZeros_0f7a4 9 = .ok (.ifCond .gt 8, 3) := by decide +kernel
theorem dJ6_numberOfTrailingZeros_0f7a4_12 : decode cJ6_numberOfTrailingZeros_0f7a4 12 = .ok (.iload_n 0, 1) := by decide +kernel
theorem dJ6_numberOfTrailingZeros_0f7a4_13 : decode cJ6_numberOfTrailingZeros_0f7a4 13 = .ok (.bipush 32, 2) := by decide +kernel
theorem dJ6_numberOfTrailingZeros_0f7a4_15 : decode cJ6_numberOfTrailingZeros_0f7a4 15 = .ok (.iand, 1) := by decide +kernel
theorem dJ6_numberOfTrailingZeros_0f7a4_16 : decode cJ6_numberOfTrailingZeros_0f7a4 16 = .ok (.ireturn, 1) := by decide +kernel
theorem dJ6_numberOfTrailingZeros_0f7a4_17 : decode cJ6_numberOfTrailingZeros_0f7a4 17 = .ok (.iconst 1, 1) := by decide +kernel
theorem dJ6_numberOfTrailingZeros_0f7a4_18 : decode cJ6_numberOfTrailingZeros_0f7a4 18 = .ok (.istore_n 1, 1) := by decide +kernel
theorem dJ6_numberOfTrailingZeros_0f7a4_19 : decode cJ6_numberOfTrailingZeros_0f7a4 19 = .ok (.iload_n 0, 1) := by decide +kernel
theorem dJ6_numberOfTrailingZeros_0f7a4_20 : decode cJ6_numberOfTrailingZeros_0f7a4 20 = .ok (.ldc_w 264, 3) := by decide +kernel
theorem dJ6_numberOfTrailingZeros_0f7a4_23 : decode cJ6_numberOfTrailingZeros_0f7a4 23 = .ok (.if_icmp .le 11, 3) := by decide +kernel
theorem dJ6_numberOfTrailingZeros_0f7a4_26 : decode cJ6_numberOfTrailingZeros_0f7a4 26 = .ok (.iinc 1 16, 3) := by decide +kernel
theorem dJ6_numberOfTrailingZeros_0f7a4_29 : decode cJ6_numberOfTrailingZeros_0f7a4 29 = .ok (.iload_n 0, 1) := by decide +kernel
theorem dJ6_numberOfTrailingZeros_0f7a4_30 : decode cJ6_numberOfTrailingZeros_0f7a4 30 = .ok (.bipush 16, 2) := by decide +kernel
theorem dJ6_numberOfTrailingZeros_0f7a4_32 : decode cJ6_numberOfTrailingZeros_0f7a4 32 = .ok (.iushr, 1) := by decide +kernel
theorem dJ6_numberOfTrailingZeros_0f7a4_33 : decode cJ6_numberOfTrailingZeros_0f7a4 33 = .ok (.istore_n 0, 1) := by decide +kernel
theorem dJ6_numberOfTrailingZeros_0f7a4_34 : decode cJ6_numberOfTrailingZeros_0f7a4 34 = .ok (.iload_n 0, 1) := by decide +kernel
theorem dJ6_numberOfTrailingZeros_0f7a4_35 : decode cJ6_numberOfTrailingZeros_0f7a4 35 = .ok (.sipush 256, 3) := by decide +kernel
theorem dJ6_numberOfTrailingZeros_0f7a4_38 : decode cJ6_numberOfTrailingZeros_0f7a4 38 = .ok (.if_icmp .le 11, 3) := by decide +kernel
theorem dJ6_numberOfTrailingZeros_0f7a4_41 : decode cJ6_numberOfTrailingZeros_0f7a4 41 = .ok (.iinc 1 8, 3) := by decide +kernel
theorem dJ6_numberOfTrailingZeros_0f7a4_44 : decode cJ6_numberOfTrailingZeros_0f7a4 44 = .ok (.iload_n 0, 1) := by decide +kernel
theorem dJ6_numberOfTrailingZeros_0f7a4_45 : decode cJ6_numberOfTrailingZeros_0f7a4 45 = .ok (.bipush 8, 2) := by decide +kernel
theorem dJ6_numberOfTrailingZeros_0f7a4_47 : decode cJ6_numberOfTrailingZeros_0f7a4 47 = .ok (.iushr, 1) := by decide +kernel
theorem dJ6_numberOfTrailingZeros_0f7a4_48 : decode cJ6_numberOfTrailingZeros_0f7a4 48 = .ok (.istore_n 0, 1) := by decide +kernel
theorem dJ6_numberOfTrailingZeros_0f7a4_49 : decode cJ6_numberOfTrailingZeros_0f7a4 49 = .ok (.iload_n 0, 1) := by decide +kernel
theorem dJ6_numberOfTrailingZeros_0f7a4_50 : decode cJ6_numberOfTrailingZeros_0f7a4 50 = .ok (.bipush 16, 2) := by decide +kernel
theorem dJ6_numberOfTrailingZeros_0f7a4_52 : decode cJ6_numberOfTrailingZeros_0f7a4 52 = .ok (.if_icmp .le 10, 3) := by decide +kernel
theorem dJ6_numberOfTrailingZeros_0f7a4_55 : decode cJ6_numberOfTrailingZeros_0f7a4 55 = .ok (.iinc 1 4, 3) := by decide +kernel
theorem dJ6_numberOfTrailingZeros_0f7a4_58 : decode cJ6_numberOfTrailingZeros_0f7a4 58 = .ok (.iload_n 0, 1) := by decide +kernel
theorem dJ6_numberOfTrailingZeros_0f7a4_59 : decode cJ6_numberOfTrailingZeros_0f7a4 59 = .ok (.iconst 4, 1) := by decide +kernel
theorem dJ6_numberOfTrailingZeros_0f7a4_60 : decode cJ6_numberOfTrailingZeros_0f7a4 60 = .ok (.iushr, 1) := by decide +kernel
theorem dJ6_numberOfTrailingZeros_0f7a4_61 : decode cJ6_numberOfTrailingZeros_0f7a4 61 = .ok (.istore_n 0, 1) := by decide +kernel
theorem dJ6_numberOfTrailingZeros_0f7a4_62 : decode cJ6_numberOfTrailingZeros_0f7a4 62 = .ok (.iload_n 0, 1) := by decide +kernel
theorem dJ6_numberOfTrailingZeros_0f7a4_63 : decode cJ6_numberOfTrailingZeros_0f7a4 63 = .ok (.iconst 4, 1) := by decide +kernel
theorem dJ6_numberOfTrailingZeros_0f7a4_64 : decode cJ6_numberOfTrailingZeros_0f7a4 64 = .ok (.if_icmp .le 10, 3) := by decide +kernel
theorem dJ6_numberOfTrailingZeros_0f7a4_67 : decode cJ6_numberOfTrailingZeros_0f7a4 67 = .ok (.iinc 1 2, 3) := by decide +kernel
theorem dJ6_numberOfTrailingZeros_0f7a4_70 : decode cJ6_numberOfTrailingZeros_0f7a4 70 = .ok (.iload_n 0, 1) := by decide +kernel
theorem dJ6_numberOfTrailingZeros_0f7a4_71 : decode cJ6_numberOfTrailingZeros_0f7a4 71 = .ok (.iconst 2, 1) := by decide +kernel
theorem dJ6_numberOfTrailingZeros_0f7a4_72 : decode cJ6_numberOfTrailingZeros_0f7a4 72 = .ok (.iushr, 1) := by decide +kernel
theorem dJ6_numberOfTrailingZeros_0f7a4_73 : decode cJ6_numberOfTrailingZeros_0f7a4 73 = .ok (.istore_n 0, 1) := by decide +kernel
theorem dJ6_numberOfTrailingZeros_0f7a4_74 : decode cJ6_numberOfTrailingZeros_0f7a4 74 = .ok (.iload_n 1, 1) := by decide +kernel
theorem dJ6_numberOfTrailingZeros_0f7a4_75 : decode cJ6_numberOfTrailingZeros_0f7a4 75 = .ok (.iload_n 0, 1) := by decide +kernel
theorem dJ6_numberOfTrailingZeros_0f7a4_76 : decode cJ6_numberOfTrailingZeros_0f7a4 76 = .ok (.iconst 1, 1) := by decide +kernel
theorem dJ6_numberOfTrailingZeros_0f7a4_77 : decode cJ6_numberOfTrailingZeros_0f7a4 77 = .ok (.iushr, 1) := by decide +kernel
theorem dJ6_numberOfTrailingZeros_0f7a4_78 : decode cJ6_numberOfTrailingZeros_0f7a4 78 = .ok (.iadd, 1) := by decide +kernel
theorem dJ6_numberOfTrailingZeros_0f7a4_79 : decode cJ6_numberOfTrailingZeros_0f7a4 79 = .ok (.ireturn, 1) := by decide +kernel
theorem wk_J6_264 : Cond.constant RJ6 264 65536 ∈ xT := xin 1006 (by decide +kernel) rfl
set_option maxHeartbeats 4000000 in
set_option maxRecDepth 100000 in
theorem jw_J6_numberOfTrailingZeros_0f7a4_62 {p : Program} {l : Launch} {e : Env} {s : State} {m : MethodId} {args : Array Value} {below : List Frame} {meth : Method} {c : Code} {D : xD} {ty : xTy} {h : xH} (C0 : xC D RJ6 cJ6_numberOfTrailingZeros_0f7a4 2 (some .int) p s m args meth c) {r : Int32} : ∀ (v0 : Int32) (v1 : Int32), jf_J6_numberOfTrailingZeros_0f7a4_62 ty h v0 v1 = some r → ∀ (H : Heap) (locs : List Loc), xRep D ty h H → xS ty s.heap H locs → ∀ ls : Array Slot, lv_has ls 2 [(0, .int v0), (1, .int v1)] → W p l e jr_J6_numberOfTrailingZeros_0f7a4 s m args below meth c H locs 0 0 (MQ below (xQ D ty (some (.int r)) h) args s 0 0 (xdom ty)) (F0 m 62 ls []) := by
  have hx := C0.1
  have hb := C0.2.1
  have hown := C0.2.2.2.2.2.1
  have hts := C0.2.2.2.2.2.2.1
  intro v0 v1 hF H locs hR hS ls hl
  unfold jf_J6_numberOfTrailingZeros_0f7a4_62 at hF
  refine lv_iload_n hx hb dJ6_numberOfTrailingZeros_0f7a4_62 rfl (lv_at hl 0 rfl) ?_
  refine lv_iconst (v := 4) hx hb dJ6_numberOfTrailingZeros_0f7a4_63 (by decide) ?_
  refine lv_icmp_le (tgt := 74) hx hb dJ6_numberOfTrailingZeros_0f7a4_64 (by decide) (fun c1 => ?_) (fun c1 => ?_)
  · have hF := xif hF c1
    refine lv_iload_n hx hb dJ6_numberOfTrailingZeros_0f7a4_74 rfl (lv_at hl 1 rfl) ?_
    refine lv_iload_n hx hb dJ6_numberOfTrailingZeros_0f7a4_75 rfl (lv_at hl 0 rfl) ?_
    refine lv_iconst (v := 1) hx hb dJ6_numberOfTrailingZeros_0f7a4_76 (by decide) ?_
    refine lv_iushr (v := xush v0 1) hx hb dJ6_numberOfTrailingZeros_0f7a4_77 rfl ?_
    refine lv_iadd hx hb dJ6_numberOfTrailingZeros_0f7a4_78 ?_
    cases hF
    exact x_iret C0 hR hS dJ6_numberOfTrailingZeros_0f7a4_79
  · have hF := xel hF c1
    refine lv_iinc (v := v1 + 2) (lv' := [(1, .int (v1 + 2)), (0, .int v0)]) hx hb dJ6_numberOfTrailingZeros_0f7a4_67 hl (k := 1) rfl rfl (by decide) rfl (fun ls hl => ?_)
    refine lv_iload_n hx hb dJ6_numberOfTrailingZeros_0f7a4_70 rfl (lv_at hl 1 rfl) ?_
    refine lv_iconst (v := 2) hx hb dJ6_numberOfTrailingZeros_0f7a4_71 (by decide) ?_
    refine lv_iushr (v := xush v0 2) hx hb dJ6_numberOfTrailingZeros_0f7a4_72 rfl ?_
    refine lv_istore_n (lv' := [(0, .int (xush v0 2)), (1, .int (v1 + 2))]) hx hb dJ6_numberOfTrailingZeros_0f7a4_73 rfl hl (by decide) rfl (fun ls hl => ?_)
    refine lv_iload_n hx hb dJ6_numberOfTrailingZeros_0f7a4_74 rfl (lv_at hl 1 rfl) ?_
    refine lv_iload_n hx hb dJ6_numberOfTrailingZeros_0f7a4_75 rfl (lv_at hl 0 rfl) ?_
    refine lv_iconst (v := 1) hx hb dJ6_numberOfTrailingZeros_0f7a4_76 (by decide) ?_
    refine lv_iushr (v := xush (xush v0 2) 1) hx hb dJ6_numberOfTrailingZeros_0f7a4_77 rfl ?_
    refine lv_iadd hx hb dJ6_numberOfTrailingZeros_0f7a4_78 ?_
    cases hF
    exact x_iret C0 hR hS dJ6_numberOfTrailingZeros_0f7a4_79
set_option maxHeartbeats 4000000 in
set_option maxRecDepth 100000 in
theorem jw_J6_numberOfTrailingZeros_0f7a4_34 {p : Program} {l : Launch} {e : Env} {s : State} {m : MethodId} {args : Array Value} {below : List Frame} {meth : Method} {c : Code} {D : xD} {ty : xTy} {h : xH} (C0 : xC D RJ6 cJ6_numberOfTrailingZeros_0f7a4 2 (some .int) p s m args meth c) {r : Int32} : ∀ (v0 : Int32) (v1 : Int32), jf_J6_numberOfTrailingZeros_0f7a4_34 ty h v0 v1 = some r → ∀ (H : Heap) (locs : List Loc), xRep D ty h H → xS ty s.heap H locs → ∀ ls : Array Slot, lv_has ls 2 [(0, .int v0), (1, .int v1)] → W p l e jr_J6_numberOfTrailingZeros_0f7a4 s m args below meth c H locs 0 0 (MQ below (xQ D ty (some (.int r)) h) args s 0 0 (xdom ty)) (F0 m 34 ls []) := by
  have hx := C0.1
  have hb := C0.2.1
  have hown := C0.2.2.2.2.2.1
  have hts := C0.2.2.2.2.2.2.1
  intro v0 v1 hF H locs hR hS ls hl
  unfold jf_J6_numberOfTrailingZeros_0f7a4_34 at hF
  refine lv_iload_n hx hb dJ6_numberOfTrailingZeros_0f7a4_34 rfl (lv_at hl 0 rfl) ?_
  refine lv_sipush (v := 256) hx hb dJ6_numberOfTrailingZeros_0f7a4_35 (by decide) ?_
  refine lv_icmp_le (tgt := 49) hx hb dJ6_numberOfTrailingZeros_0f7a4_38 (by decide) (fun c2 => ?_) (fun c2 => ?_)
  · have hF := xif hF c2
    refine lv_iload_n hx hb dJ6_numberOfTrailingZeros_0f7a4_49 rfl (lv_at hl 0 rfl) ?_
    refine lv_bipush (v := 16) hx hb dJ6_numberOfTrailingZeros_0f7a4_50 (by decide) ?_
    refine lv_icmp_le (tgt := 62) hx hb dJ6_numberOfTrailingZeros_0f7a4_52 (by decide) (fun c3 => ?_) (fun c3 => ?_)
    · have hF := xif hF c3
      exact jw_J6_numberOfTrailingZeros_0f7a4_62 C0 _ _ hF _ _ hR hS _ (lv_sub hl [0, 1] rfl)
    · have hF := xel hF c3
      refine lv_iinc (v := v1 + 4) (lv' := [(1, .int (v1 + 4)), (0, .int v0)]) hx hb dJ6_numberOfTrailingZeros_0f7a4_55 hl (k := 1) rfl rfl (by decide) rfl (fun ls hl => ?_)
      refine lv_iload_n hx hb dJ6_numberOfTrailingZeros_0f7a4_58 rfl (lv_at hl 1 rfl) ?_
      refine lv_iconst (v := 4) hx hb dJ6_numberOfTrailingZeros_0f7a4_59 (by decide) ?_
      refine lv_iushr (v := xush v0 4) hx hb dJ6_numberOfTrailingZeros_0f7a4_60 rfl ?_
      refine lv_istore_n (lv' := [(0, .int (xush v0 4)), (1, .int (v1 + 4))]) hx hb dJ6_numberOfTrailingZeros_0f7a4_61 rfl hl (by decide) rfl (fun ls hl => ?_)
      exact jw_J6_numberOfTrailingZeros_0f7a4_62 C0 _ _ hF _ _ hR hS _ (lv_sub hl [0, 1] rfl)
  · have hF := xel hF c2
    refine lv_iinc (v := v1 + 8) (lv' := [(1, .int (v1 + 8)), (0, .int v0)]) hx hb dJ6_numberOfTrailingZeros_0f7a4_41 hl (k := 1) rfl rfl (by decide) rfl (fun ls hl => ?_)
    refine lv_iload_n hx hb dJ6_numberOfTrailingZeros_0f7a4_44 rfl (lv_at hl 1 rfl) ?_
    refine lv_bipush (v := 8) hx hb dJ6_numberOfTrailingZeros_0f7a4_45 (by decide) ?_
    refine lv_iushr (v := xush v0 8) hx hb dJ6_numberOfTrailingZeros_0f7a4_47 rfl ?_
    refine lv_istore_n (lv' := [(0, .int (xush v0 8)), (1, .int (v1 + 8))]) hx hb dJ6_numberOfTrailingZeros_0f7a4_48 rfl hl (by decide) rfl (fun ls hl => ?_)
    refine lv_iload_n hx hb dJ6_numberOfTrailingZeros_0f7a4_49 rfl (lv_at hl 0 rfl) ?_
    refine lv_bipush (v := 16) hx hb dJ6_numberOfTrailingZeros_0f7a4_50 (by decide) ?_
    refine lv_icmp_le (tgt := 62) hx hb dJ6_numberOfTrailingZeros_0f7a4_52 (by decide) (fun c4 => ?_) (fun c4 => ?_)
    · have hF := xif hF c4
      exact jw_J6_numberOfTrailingZeros_0f7a4_62 C0 _ _ hF _ _ hR hS _ (lv_sub hl [0, 1] rfl)
    · have hF := xel hF c4
      refine lv_iinc (v := (v1 + 8) + 4) (lv' := [(1, .int ((v1 + 8) + 4)), (0, .int (xush v0 8))]) hx hb dJ6_numberOfTrailingZeros_0f7a4_55 hl (k := 1) rfl rfl (by decide) rfl (fun ls hl => ?_)
      refine lv_iload_n hx hb dJ6_numberOfTrailingZeros_0f7a4_58 rfl (lv_at hl 1 rfl) ?_
      refine lv_iconst (v := 4) hx hb dJ6_numberOfTrailingZeros_0f7a4_59 (by decide) ?_
      refine lv_iushr (v := xush (xush v0 8) 4) hx hb dJ6_numberOfTrailingZeros_0f7a4_60 rfl ?_
      refine lv_istore_n (lv' := [(0, .int (xush (xush v0 8) 4)), (1, .int ((v1 + 8) + 4))]) hx hb dJ6_numberOfTrailingZeros_0f7a4_61 rfl hl (by decide) rfl (fun ls hl => ?_)
      exact jw_J6_numberOfTrailingZeros_0f7a4_62 C0 _ _ hF _ _ hR hS _ (lv_sub hl [0, 1] rfl)
set_option maxHeartbeats 4000000 in
set_option maxRecDepth 100000 in
theorem jc_J6_numberOfTrailingZeros_0f7a4 {l : Launch} {D : xD} {ty : xTy} {h : xH} {v0 : Int32} {r : Int32} (hF : jf_J6_numberOfTrailingZeros_0f7a4 ty h v0 = some r) : Met l yJ6_numberOfTrailingZeros_0f7a4 (xws yJ6_numberOfTrailingZeros_0f7a4 cJ6_numberOfTrailingZeros_0f7a4 2 (some .int)) jr_J6_numberOfTrailingZeros_0f7a4 (xPc D ty h [.int v0]) (xQ D ty (some (.int r)) h) 0 0 (xdom ty) := by
  refine x_met (by decide) ?_
  intro p e s m below meth c C0 hR
  generalize hargs : ([.int v0] : List Value).toArray = args at C0 ⊢
  have hx := C0.1
  have hb := C0.2.1
  have hown := C0.2.2.2.2.2.1
  have hts := C0.2.2.2.2.2.2.1
  have hS : xS ty s.heap s.heap [] := xS.rf
  have hl := lv_entry ([.int v0]) (n := 2) (Nat.le_of_ble_eq_true rfl)
  rw [← hargs, lg_entry_eq]
  rw [hargs]
  generalize (lg_sl ([.int v0]) ++ List.replicate (2 - (lg_sl ([.int v0])).length) Slot.unset).toArray = ls at hl ⊢
  have hl : lv_has ls 2 [(0, .int v0)] := hl
  unfold jf_J6_numberOfTrailingZeros_0f7a4 at hF
  refine lv_iload_n hx hb dJ6_numberOfTrailingZeros_0f7a4_0 rfl (lv_at hl 0 rfl) ?_
  refine lv_iconst (v := (-1)) hx hb dJ6_numberOfTrailingZeros_0f7a4_1 (by decide) ?_
  refine lv_ixor hx hb dJ6_numberOfTrailingZeros_0f7a4_2 ?_
  refine lv_iload_n hx hb dJ6_numberOfTrailingZeros_0f7a4_3 rfl (lv_at hl 0 rfl) ?_
  refine lv_iconst (v := 1) hx hb dJ6_numberOfTrailingZeros_0f7a4_4 (by decide) ?_
  refine lv_isub hx hb dJ6_numberOfTrailingZeros_0f7a4_5 ?_
  refine lv_iand hx hb dJ6_numberOfTrailingZeros_0f7a4_6 ?_
  refine lv_istore_n (lv' := [(0, .int ((v0 ^^^ (-1)) &&& (v0 - 1)))]) hx hb dJ6_numberOfTrailingZeros_0f7a4_7 rfl hl (by decide) rfl (fun ls hl => ?_)
  refine lv_iload_n hx hb dJ6_numberOfTrailingZeros_0f7a4_8 rfl (lv_at hl 0 rfl) ?_
  refine lv_if_gt (tgt := 17) hx hb dJ6_numberOfTrailingZeros_0f7a4_9 (by decide) (fun c5 => ?_) (fun c5 => ?_)
  · have hF := xif hF c5
    refine lv_iconst (v := 1) hx hb dJ6_numberOfTrailingZeros_0f7a4_17 (by decide) ?_
    refine lv_istore_n (lv' := [(1, .int 1), (0, .int ((v0 ^^^ (-1)) &&& (v0 - 1)))]) hx hb dJ6_numberOfTrailingZeros_0f7a4_18 rfl hl (by decide) rfl (fun ls hl => ?_)
    refine lv_iload_n hx hb dJ6_numberOfTrailingZeros_0f7a4_19 rfl (lv_at hl 1 rfl) ?_
    refine lv_ldcw (v := 65536) hx hb hown (hts _ wk_J6_264) dJ6_numberOfTrailingZeros_0f7a4_20 ?_
    refine lv_icmp_le (tgt := 34) hx hb dJ6_numberOfTrailingZeros_0f7a4_23 (by decide) (fun c6 => ?_) (fun c6 => ?_)
    · have hF := xif hF c6
      exact jw_J6_numberOfTrailingZeros_0f7a4_34 C0 _ _ hF _ _ hR hS _ (lv_sub hl [1, 0] rfl)
    · have hF := xel hF c6
      refine lv_iinc (v := 1 + 16) (lv' := [(1, .int (1 + 16)), (0, .int ((v0 ^^^ (-1)) &&& (v0 - 1)))]) hx hb dJ6_numberOfTrailingZeros_0f7a4_26 hl (k := 0) rfl rfl (by decide) rfl (fun ls hl => ?_)
      refine lv_iload_n hx hb dJ6_numberOfTrailingZeros_0f7a4_29 rfl (lv_at hl 1 rfl) ?_
      refine lv_bipush (v := 16) hx hb dJ6_numberOfTrailingZeros_0f7a4_30 (by decide) ?_
      refine lv_iushr (v := xush ((v0 ^^^ (-1)) &&& (v0 - 1)) 16) hx hb dJ6_numberOfTrailingZeros_0f7a4_32 rfl ?_
      refine lv_istore_n (lv' := [(0, .int (xush ((v0 ^^^ (-1)) &&& (v0 - 1)) 16)), (1, .int (1 + 16))]) hx hb dJ6_numberOfTrailingZeros_0f7a4_33 rfl hl (by decide) rfl (fun ls hl => ?_)
      exact jw_J6_numberOfTrailingZeros_0f7a4_34 C0 _ _ hF _ _ hR hS _ (lv_sub hl [0, 1] rfl)
  · have hF := xel hF c5
    refine lv_iload_n hx hb dJ6_numberOfTrailingZeros_0f7a4_12 rfl (lv_at hl 0 rfl) ?_
    refine lv_bipush (v := 32) hx hb dJ6_numberOfTrailingZeros_0f7a4_13 (by decide) ?_
    refine lv_iand hx hb dJ6_numberOfTrailingZeros_0f7a4_15 ?_
    cases hF
    exact x_iret C0 hR hS dJ6_numberOfTrailingZeros_0f7a4_16
theorem xm_J6_numberOfTrailingZeros_0f7a4 : xMw yJ6_numberOfTrailingZeros_0f7a4 cJ6_numberOfTrailingZeros_0f7a4 2 (some .int) 1 := ⟨xin 1005 (by decide +kernel) rfl, xin 133 (by decide +kernel) rfl, by decide +kernel⟩
theorem xs_J6_numberOfTrailingZeros_0f7a4 : Cond.static yJ6_numberOfTrailingZeros_0f7a4 ∈ xT := xin 1004 (by decide +kernel) rfl
theorem dX11_specific_0 : decode cX11_specific 0 = .ok (.iload_n 1, 1) := by decide +kernel
theorem dX11_specific_1 : decode cX11_specific 1 = .ok (.invokestatic 191, 3) := by decide +kernel
theorem dX11_specific_4 : decode cX11_specific 4 = .ok (.ifCond .eq 13, 3) := by decide +kernel
theorem dX11_specific_7 : decode cX11_specific 7 = .ok (.aload_n 0, 1) := by decide +kernel
theorem dX11_specific_8 : decode cX11_specific 8 = .ok (.getfield 32, 3) := by decide +kernel
theorem dX11_specific_11 : decode cX11_specific 11 = .ok (.getfield 128, 3) := by decide +kernel
theorem dX11_specific_14 : decode cX11_specific 14 = .ok (.ifCond .ne 5, 3) := by decide +kernel
theorem dX11_specific_17 : decode cX11_specific 17 = .ok (.iconst (-1), 1) := by decide +kernel
theorem dX11_specific_18 : decode cX11_specific 18 = .ok (.ireturn, 1) := by decide +kernel
theorem dX11_specific_19 : decode cX11_specific 19 = .ok (.aload_n 0, 1) := by decide +kernel
theorem dX11_specific_20 : decode cX11_specific 20 = .ok (.iload_n 1, 1) := by decide +kernel
theorem dX11_specific_21 : decode cX11_specific 21 = .ok (.aload_n 0, 1) := by decide +kernel
theorem dX11_specific_22 : decode cX11_specific 22 = .ok (.getfield 32, 3) := by decide +kernel
theorem dX11_specific_25 : decode cX11_specific 25 = .ok (.aload_n 0, 1) := by decide +kernel
theorem dX11_specific_26 : decode cX11_specific 26 = .ok (.getfield 55, 3) := by decide +kernel
theorem dX11_specific_29 : decode cX11_specific 29 = .ok (.getfield 198, 3) := by decide +kernel
theorem dX11_specific_32 : decode cX11_specific 32 = .ok (.invokevirtual 201, 3) := by decide +kernel
theorem dX11_specific_35 : decode cX11_specific 35 = .ok (.istore_n 2, 1) := by decide +kernel
theorem dX11_specific_36 : decode cX11_specific 36 = .ok (.iload_n 2, 1) := by decide +kernel
theorem dX11_specific_37 : decode cX11_specific 37 = .ok (.ifCond .ne 6, 3) := by decide +kernel
theorem dX11_specific_40 : decode cX11_specific 40 = .ok (.bipush (-2), 2) := by decide +kernel
theorem dX11_specific_42 : decode cX11_specific 42 = .ok (.ireturn, 1) := by decide +kernel
theorem dX11_specific_43 : decode cX11_specific 43 = .ok (.iconst 0, 1) := by decide +kernel
theorem dX11_specific_44 : decode cX11_specific 44 = .ok (.istore_n 3, 1) := by decide +kernel
theorem dX11_specific_45 : decode cX11_specific 45 = .ok (.iload_n 3, 1) := by decide +kernel
theorem dX11_specific_46 : decode cX11_specific 46 = .ok (.aload_n 0, 1) := by decide +kernel
theorem dX11_specific_47 : decode cX11_specific 47 = .ok (.getfield 20, 3) := by decide +kernel
theorem dX11_specific_50 : decode cX11_specific 50 = .ok (.getfield 111, 3) := by decide +kernel
theorem dX11_specific_53 : decode cX11_specific 53 = .ok (.if_icmp .ge 29, 3) := by decide +kernel
theorem dX11_specific_56 : decode cX11_specific 56 = .ok (.iload_n 2, 1) := by decide +kernel
theorem dX11_specific_57 : decode cX11_specific 57 = .ok (.iload_n 3, 1) := by decide +kernel
theorem dX11_specific_58 : decode cX11_specific 58 = .ok (.invokestatic 263, 3) := by decide +kernel
theorem dX11_specific_61 : decode cX11_specific 61 = .ok (.ifCond .eq 15, 3) := by decide +kernel
theorem dX11_specific_64 : decode cX11_specific 64 = .ok (.aload_n 0, 1) := by decide +kernel
theorem dX11_specific_65 : decode cX11_specific 65 = .ok (.iload_n 3, 1) := by decide +kernel
theorem dX11_specific_66 : decode cX11_specific 66 = .ok (.invokevirtual 238, 3) := by decide +kernel
theorem dX11_specific_69 : decode cX11_specific 69 = .ok (.iload_n 2, 1) := by decide +kernel
theorem dX11_specific_70 : decode cX11_specific 70 = .ok (.iand, 1) := by decide +kernel
theorem dX11_specific_71 : decode cX11_specific 71 = .ok (.ifCond .ne 5, 3) := by decide +kernel
theorem dX11_specific_74 : decode cX11_specific 74 = .ok (.iload_n 3, 1) := by decide +kernel
theorem dX11_specific_75 : decode cX11_specific 75 = .ok (.ireturn, 1) := by decide +kernel
theorem dX11_specific_76 : decode cX11_specific 76 = .ok (.iinc 3 1, 3) := by decide +kernel
theorem dX11_specific_79 : decode cX11_specific 79 = .ok (.goto (-34), 3) := by decide +kernel
theorem dX11_specific_82 : decode cX11_specific 82 = .ok (.iload_n 2, 1) := by decide +kernel
theorem dX11_specific_83 : decode cX11_specific 83 = .ok (.invokestatic 267, 3) := by decide +kernel
theorem dX11_specific_86 : decode cX11_specific 86 = .ok (.ireturn, 1) := by decide +kernel
theorem wl_X11_267 : Cond.methodLink RX11 267 yJ6_numberOfTrailingZeros_0f7a4 ∈ xT := xin 1003 (by decide +kernel) rfl
section XN_X11_specific
variable {p : Program} {l : Launch} {e : Env} {R : Room} {s : State} {m : MethodId} {args : Array Value} {below : List Frame} {meth : Method} {c : Code} {H H0 : Heap} {locs : List Loc} {cells slots : Nat} {Q : State → Prop} {cc : ByteArray} {nL pc : Nat} {rt : Option FieldType} {ls : Array Slot} {rest : List Value} {D : xD} {ty : xTy} {h : xH}
theorem cl_X11_267 {v0 : Int32} {r : Int32} (C0 : xC D RX11 cc nL rt p s m args meth c) (hR : xRep D ty h H) (hS : xS ty H0 H locs) (hF : jf_J6_numberOfTrailingZeros_0f7a4 ty h v0 = some r) (hrm : jr_J6_numberOfTrailingZeros_0f7a4.frames + 1 ≤ R.frames ∧ 8 + (2 + 11) + jr_J6_numberOfTrailingZeros_0f7a4.locals ≤ R.locals) (hsz : ls.size = nL) (hW : (rest.map fun v => v.category).sum ≤ 8) (hf : cells ≤ R.cells ∧ slots ≤ R.slots) (hdg : decode cc pc = .ok (.invokestatic 267, 3)) (kk : ∀ (H1 : Heap) (locs1 : List Loc), xRep D ty h H1 → xS ty H0 H1 locs1 → W p l e R s m args below meth c H1 locs1 cells slots Q (F0 m (pc + 3) ls (.int r :: rest))) : W p l e R s m args below meth c H locs cells slots Q (F0 m pc ls (.int v0 :: rest)) := x_callS C0 (jc_J6_numberOfTrailingZeros_0f7a4  hF) xm_J6_numberOfTrailingZeros_0f7a4 xs_J6_numberOfTrailingZeros_0f7a4 wl_X11_267 ⟨rfl, rfl, hrm⟩ hR hS (As := [.int v0]) rfl hsz rfl hW hdg hf kk
end XN_X11_specific
set_option maxHeartbeats 4000000 in
set_option maxRecDepth 100000 in
theorem jw_X11_specific_45 {p : Program} {l : Launch} {e : Env} {s : State} {m : MethodId} {args : Array Value} {below : List Frame} {meth : Method} {c : Code} {D : xD} {ty : xTy} (C0 : xC D RX11 cX11_specific 4 (some .int) p s m args meth c) {r : Int32} {h9 : xH} : ∀ n : Nat, ∀ (v0 : Nat) (v2 : Int32) (v3 : Int32) (h : xH), ty v0 = some (0, 11) → jf_X11_specific_45 ty n v0 v2 v3 h = some (r, h9) → ∀ (H : Heap) (locs : List Loc), xRep D ty h H → xS ty s.heap H locs → ∀ ls : Array Slot, lv_has ls 4 [(0, .ref v0), (2, .int v2), (3, .int v3)] → W p l e jr_X11_specific s m args below meth c H locs 0 0 (MQ below (xQ D ty (some (.int r)) h9) args s 0 0 (xdom ty)) (F0 m 45 ls []) := by
  have hx := C0.1
  have hb := C0.2.1
  have hown := C0.2.2.2.2.2.1
  have hts := C0.2.2.2.2.2.2.1
  intro n
  induction n with
  | zero =>
    intro v0 v2 v3 h t_v0 hF H locs hR hS ls hl
    cases hF
  | succ n ih =>
    intro v0 v2 v3 h t_v0 hF H locs hR hS ls hl
    rw [jf_X11_specific_45_s] at hF
    refine lv_iload_n hx hb dX11_specific_45 rfl (lv_at hl 2 rfl) ?_
    refine lv_aload_n hx hb dX11_specific_46 rfl (lv_at hl 0 rfl) ?_
    obtain ⟨a1, e_a1, hF⟩ := xbd hF
    obtain ⟨e_a1, t_a1⟩ := xgo_sp e_a1
    refine gf_X11_20 C0 hR t_v0 e_a1 dX11_specific_47 ?_
    refine gf_X11_111 C0 hR t_a1 dX11_specific_50 ?_
    refine lv_icmp_ge (tgt := 82) hx hb dX11_specific_53 (by decide) (fun c2 => ?_) (fun c2 => ?_)
    · have hF := xif hF c2
      refine lv_iload_n hx hb dX11_specific_82 rfl (lv_at hl 1 rfl) ?_
      obtain ⟨a3, e_a3, hF⟩ := xbd hF
      refine cl_X11_267 C0 hR hS e_a3  ⟨(Nat.le_of_ble_eq_true rfl), (Nat.le_of_ble_eq_true rfl)⟩ hl.1 (Nat.le_of_ble_eq_true rfl) ⟨(Nat.le_of_ble_eq_true rfl), (Nat.le_of_ble_eq_true rfl)⟩ dX11_specific_83 (fun H locs hR hS => ?_)
      cases hF
      exact x_iret C0 hR hS dX11_specific_86
    · have hF := xel hF c2
      refine lv_iload_n hx hb dX11_specific_56 rfl (lv_at hl 1 rfl) ?_
      refine lv_iload_n hx hb dX11_specific_57 rfl (lv_at hl 2 rfl) ?_
      obtain ⟨a4, e_a4, hF⟩ := xbd hF
      refine cl_X11_263 C0 hR hS e_a4  ⟨(Nat.le_of_ble_eq_true rfl), (Nat.le_of_ble_eq_true rfl)⟩ hl.1 (Nat.le_of_ble_eq_true rfl) ⟨(Nat.le_of_ble_eq_true rfl), (Nat.le_of_ble_eq_true rfl)⟩ dX11_specific_58 (fun H locs hR hS => ?_)
      refine lv_if_eq (tgt := 76) hx hb dX11_specific_61 (by decide) (fun c5 => ?_) (fun c5 => ?_)
      · have hF := xif hF c5
        refine lv_iinc (v := v3 + 1) (lv' := [(3, .int (v3 + 1)), (0, .ref v0), (2, .int v2)]) hx hb dX11_specific_76 hl (k := 2) rfl rfl (by decide) rfl (fun ls hl => ?_)
        refine lv_goto (tgt := 45) hx hb dX11_specific_79 (by decide) ?_
        exact ih _ _ _ _ t_v0 hF _ _ hR hS _ (lv_sub hl [1, 2, 0] rfl)
      · have hF := xel hF c5
        refine lv_aload_n hx hb dX11_specific_64 rfl (lv_at hl 0 rfl) ?_
        refine lv_iload_n hx hb dX11_specific_65 rfl (lv_at hl 2 rfl) ?_
        obtain ⟨a7, h6, e_h6, hF⟩ := xbd2 hF
        refine cl_X11_238 C0 hR hS e_h6 t_v0 ⟨(Nat.le_of_ble_eq_true rfl), (Nat.le_of_ble_eq_true rfl)⟩ hl.1 (Nat.le_of_ble_eq_true rfl) ⟨(Nat.le_of_ble_eq_true rfl), (Nat.le_of_ble_eq_true rfl)⟩ dX11_specific_66 (fun H locs hR hS => ?_)
        refine lv_iload_n hx hb dX11_specific_69 rfl (lv_at hl 1 rfl) ?_
        refine lv_iand hx hb dX11_specific_70 ?_
        refine lv_if_ne (tgt := 76) hx hb dX11_specific_71 (by decide) (fun c8 => ?_) (fun c8 => ?_)
        · have hF := xel hF c8
          refine lv_iinc (v := v3 + 1) (lv' := [(3, .int (v3 + 1)), (0, .ref v0), (2, .int v2)]) hx hb dX11_specific_76 hl (k := 2) rfl rfl (by decide) rfl (fun ls hl => ?_)
          refine lv_goto (tgt := 45) hx hb dX11_specific_79 (by decide) ?_
          exact ih _ _ _ _ t_v0 hF _ _ hR hS _ (lv_sub hl [1, 2, 0] rfl)
        · have hF := xif hF c8
          refine lv_iload_n hx hb dX11_specific_74 rfl (lv_at hl 2 rfl) ?_
          cases hF
          exact x_iret C0 hR hS dX11_specific_75
set_option maxHeartbeats 4000000 in
set_option maxRecDepth 100000 in
theorem jc_X11_specific {l : Launch} {D : xD} {ty : xTy} {h : xH} {v0 : Nat} {v1 : Int32} {r : Int32} {h9 : xH} (t_v0 : ty v0 = some (0, 11)) (hF : jf_X11_specific ty h v0 v1 = some (r, h9)) : Met l yX11_specific (xws yX11_specific cX11_specific 4 (some .int)) jr_X11_specific (xPc D ty h [.ref v0, .int v1]) (xQ D ty (some (.int r)) h9) 0 0 (xdom ty) := by
  refine x_met (by decide) ?_
  intro p e s m below meth c C0 hR
  generalize hargs : ([.ref v0, .int v1] : List Value).toArray = args at C0 ⊢
  have hx := C0.1
  have hb := C0.2.1
  have hown := C0.2.2.2.2.2.1
  have hts := C0.2.2.2.2.2.2.1
  have hS : xS ty s.heap s.heap [] := xS.rf
  have hl := lv_entry ([.ref v0, .int v1]) (n := 4) (Nat.le_of_ble_eq_true rfl)
  rw [← hargs, lg_entry_eq]
  rw [hargs]
  generalize (lg_sl ([.ref v0, .int v1]) ++ List.replicate (4 - (lg_sl ([.ref v0, .int v1])).length) Slot.unset).toArray = ls at hl ⊢
  have hl : lv_has ls 4 [(0, .ref v0), (1, .int v1)] := hl
  unfold jf_X11_specific at hF
  refine lv_iload_n hx hb dX11_specific_0 rfl (lv_at hl 1 rfl) ?_
  obtain ⟨a9, e_a9, hF⟩ := xbd hF
  refine cl_X11_191 C0 hR hS e_a9  ⟨(Nat.le_of_ble_eq_true rfl), (Nat.le_of_ble_eq_true rfl)⟩ hl.1 (Nat.le_of_ble_eq_true rfl) ⟨(Nat.le_of_ble_eq_true rfl), (Nat.le_of_ble_eq_true rfl)⟩ dX11_specific_1 (fun H locs hR hS => ?_)
  refine lv_if_eq (tgt := 17) hx hb dX11_specific_4 (by decide) (fun c10 => ?_) (fun c10 => ?_)
  · have hF := xif hF c10
    refine lv_iconst (v := (-1)) hx hb dX11_specific_17 (by decide) ?_
    cases hF
    exact x_iret C0 hR hS dX11_specific_18
  · have hF := xel hF c10
    refine lv_aload_n hx hb dX11_specific_7 rfl (lv_at hl 0 rfl) ?_
    obtain ⟨a11, e_a11, hF⟩ := xbd hF
    obtain ⟨e_a11, t_a11⟩ := xgo_sp e_a11
    refine gf_X11_32 C0 hR t_v0 e_a11 dX11_specific_8 ?_
    refine gf_X11_128 C0 hR t_a11 dX11_specific_11 ?_
    refine lv_if_ne (tgt := 19) hx hb dX11_specific_14 (by decide) (fun c12 => ?_) (fun c12 => ?_)
    · have hF := xel hF c12
      refine lv_aload_n hx hb dX11_specific_19 rfl (lv_at hl 0 rfl) ?_
      refine lv_iload_n hx hb dX11_specific_20 rfl (lv_at hl 1 rfl) ?_
      refine lv_aload_n hx hb dX11_specific_21 rfl (lv_at hl 0 rfl) ?_
      obtain ⟨a13, e_a13, hF⟩ := xbd hF
      obtain ⟨e_a13, t_a13⟩ := xgo_sp e_a13
      refine gf_X11_32 C0 hR t_v0 e_a13 dX11_specific_22 ?_
      refine lv_aload_n hx hb dX11_specific_25 rfl (lv_at hl 0 rfl) ?_
      obtain ⟨a14, e_a14, hF⟩ := xbd hF
      obtain ⟨e_a14, t_a14⟩ := xgo_sp e_a14
      refine gf_X11_55 C0 hR t_v0 e_a14 dX11_specific_26 ?_
      refine gf_X11_198 C0 hR t_a14 dX11_specific_29 ?_
      obtain ⟨a16, h15, e_h15, hF⟩ := xbd2 hF
      refine cl_X11_201 C0 hR hS e_h15 t_v0 t_a13 ⟨(Nat.le_of_ble_eq_true rfl), (Nat.le_of_ble_eq_true rfl)⟩ hl.1 (Nat.le_of_ble_eq_true rfl) ⟨(Nat.le_of_ble_eq_true rfl), (Nat.le_of_ble_eq_true rfl)⟩ dX11_specific_32 (fun H locs hR hS => ?_)
      refine lv_istore_n (lv' := [(2, .int a16), (0, .ref v0), (1, .int v1)]) hx hb dX11_specific_35 rfl hl (by decide) rfl (fun ls hl => ?_)
      refine lv_iload_n hx hb dX11_specific_36 rfl (lv_at hl 0 rfl) ?_
      refine lv_if_ne (tgt := 43) hx hb dX11_specific_37 (by decide) (fun c17 => ?_) (fun c17 => ?_)
      · have hF := xel hF c17
        refine lv_iconst (v := 0) hx hb dX11_specific_43 (by decide) ?_
        refine lv_istore_n (lv' := [(3, .int 0), (2, .int a16), (0, .ref v0), (1, .int v1)]) hx hb dX11_specific_44 rfl hl (by decide) rfl (fun ls hl => ?_)
        obtain ⟨_, hF⟩ := xlim_sp hF
        exact jw_X11_specific_45 C0 _ _ _ _ _ t_v0 hF _ _ hR hS _ (lv_sub hl [2, 1, 0] rfl)
      · have hF := xif hF c17
        refine lv_bipush (v := (-2)) hx hb dX11_specific_40 (by decide) ?_
        cases hF
        exact x_iret C0 hR hS dX11_specific_42
    · have hF := xif hF c12
      refine lv_iconst (v := (-1)) hx hb dX11_specific_17 (by decide) ?_
      cases hF
      exact x_iret C0 hR hS dX11_specific_18
theorem xm_X11_specific : xMw yX11_specific cX11_specific 4 (some .int) 1 := ⟨xin 1002 (by decide +kernel) rfl, xin 114 (by decide +kernel) rfl, by decide +kernel⟩
theorem xi_X11_specific : Cond.instanceMethod yX11_specific ∈ xT := xin 1000 (by decide +kernel) rfl
theorem xe_X11_specific : Cond.selects yX11_specific.cls yX11_specific yX11_specific ∈ xT := xin 1001 (by decide +kernel) rfl
theorem dX11_branch_0 : decode cX11_branch 0 = .ok (.iload_n 1, 1) := by decide +kernel
theorem dX11_branch_1 : decode cX11_branch 1 = .ok (.iconst 1, 1) := by decide +kernel
theorem dX11_branch_2 : decode cX11_branch 2 = .ok (.if_icmp .lt 13, 3) := by decide +kernel
theorem dX11_branch_5 : decode cX11_branch 5 = .ok (.iload_n 1, 1) := by decide +kernel
theorem dX11_branch_6 : decode cX11_branch 6 = .ok (.bipush 12, 2) := by decide +kernel
theorem dX11_branch_8 : decode cX11_branch 8 = .ok (.if_icmp .gt 7, 3) := by decide +kernel
theorem dX11_branch_11 : decode cX11_branch 11 = .ok (.iload_n 2, 1) := by decide +kernel
theorem dX11_branch_12 : decode cX11_branch 12 = .ok (.ifCond .ge 5, 3) := by decide +kernel
theorem dX11_branch_15 : decode cX11_branch 15 = .ok (.iconst (-1), 1) := by decide +kernel
theorem dX11_branch_16 : decode cX11_branch 16 = .ok (.ireturn, 1) := by decide +kernel
theorem dX11_branch_17 : decode cX11_branch 17 = .ok (.aload_n 0, 1) := by decide +kernel
theorem dX11_branch_18 : decode cX11_branch 18 = .ok (.getfield 62, 3) := by decide +kernel
theorem dX11_branch_21 : decode cX11_branch 21 = .ok (.iload_n 1, 1) := by decide +kernel
theorem dX11_branch_22 : decode cX11_branch 22 = .ok (.iload_n 2, 1) := by decide +kernel
theorem dX11_branch_23 : decode cX11_branch 23 = .ok (.invokevirtual 270, 3) := by decide +kernel
theorem dX11_branch_26 : decode cX11_branch 26 = .ok (.ireturn, 1) := by decide +kernel
theorem wl_X11_270 : Cond.methodLink RX11 270 yX9_branchCode ∈ xT := xin 1011 (by decide +kernel) rfl
section XN_X11_branch
variable {p : Program} {l : Launch} {e : Env} {R : Room} {s : State} {m : MethodId} {args : Array Value} {below : List Frame} {meth : Method} {c : Code} {H H0 : Heap} {locs : List Loc} {cells slots : Nat} {Q : State → Prop} {cc : ByteArray} {nL pc : Nat} {rt : Option FieldType} {ls : Array Slot} {rest : List Value} {D : xD} {ty : xTy} {h : xH}
theorem cl_X11_270 {v0 : Nat} {v1 : Int32} {v2 : Int32} {r : Int32} (C0 : xC D RX11 cc nL rt p s m args meth c) (hR : xRep D ty h H) (hS : xS ty H0 H locs) (hF : jf_X9_branchCode ty h v0 v1 v2 = some r) (t_v0 : ty v0 = some (0, 9)) (hrm : jr_X9_branchCode.frames + 1 ≤ R.frames ∧ 8 + (5 + 11) + jr_X9_branchCode.locals ≤ R.locals) (hsz : ls.size = nL) (hW : (rest.map fun v => v.category).sum ≤ 8) (hf : cells ≤ R.cells ∧ slots ≤ R.slots) (hdg : decode cc pc = .ok (.invokevirtual 270, 3)) (kk : ∀ (H1 : Heap) (locs1 : List Loc), xRep D ty h H1 → xS ty H0 H1 locs1 → W p l e R s m args below meth c H1 locs1 cells slots Q (F0 m (pc + 3) ls (.int r :: rest))) : W p l e R s m args below meth c H locs cells slots Q (F0 m pc ls (.int v2 :: .int v1 :: .ref v0 :: rest)) := x_callV C0 (jc_X9_branchCode t_v0 hF) xm_X9_branchCode xi_X9_branchCode xe_X9_branchCode wl_X11_270 ⟨rfl, rfl, hrm⟩ (ci := 9) rfl t_v0 hR hS (As := [.int v1, .int v2]) rfl hsz rfl hW hdg hf kk
end XN_X11_branch
set_option maxHeartbeats 4000000 in
set_option maxRecDepth 100000 in
theorem jc_X11_branch {l : Launch} {D : xD} {ty : xTy} {h : xH} {v0 : Nat} {v1 : Int32} {v2 : Int32} {r : Int32} (t_v0 : ty v0 = some (0, 11)) (hF : jf_X11_branch ty h v0 v1 v2 = some r) : Met l yX11_branch (xws yX11_branch cX11_branch 3 (some .int)) jr_X11_branch (xPc D ty h [.ref v0, .int v1, .int v2]) (xQ D ty (some (.int r)) h) 0 0 (xdom ty) := by
  refine x_met (by decide) ?_
  intro p e s m below meth c C0 hR
  generalize hargs : ([.ref v0, .int v1, .int v2] : List Value).toArray = args at C0 ⊢
  have hx := C0.1
  have hb := C0.2.1
  have hown := C0.2.2.2.2.2.1
  have hts := C0.2.2.2.2.2.2.1
  have hS : xS ty s.heap s.heap [] := xS.rf
  have hl := lv_entry ([.ref v0, .int v1, .int v2]) (n := 3) (Nat.le_of_ble_eq_true rfl)
  rw [← hargs, lg_entry_eq]
  rw [hargs]
  generalize (lg_sl ([.ref v0, .int v1, .int v2]) ++ List.replicate (3 - (lg_sl ([.ref v0, .int v1, .int v2])).length) Slot.unset).toArray = ls at hl ⊢
  have hl : lv_has ls 3 [(0, .ref v0), (1, .int v1), (2, .int v2)] := hl
  unfold jf_X11_branch at hF
  refine lv_iload_n hx hb dX11_branch_0 rfl (lv_at hl 1 rfl) ?_
  refine lv_iconst (v := 1) hx hb dX11_branch_1 (by decide) ?_
  refine lv_icmp_lt (tgt := 15) hx hb dX11_branch_2 (by decide) (fun c1 => ?_) (fun c1 => ?_)
  · have hF := xif hF c1
    refine lv_iconst (v := (-1)) hx hb dX11_branch_15 (by decide) ?_
    cases hF
    exact x_iret C0 hR hS dX11_branch_16
  · have hF := xel hF c1
    refine lv_iload_n hx hb dX11_branch_5 rfl (lv_at hl 1 rfl) ?_
    refine lv_bipush (v := 12) hx hb dX11_branch_6 (by decide) ?_
    refine lv_icmp_gt (tgt := 15) hx hb dX11_branch_8 (by decide) (fun c2 => ?_) (fun c2 => ?_)
    · have hF := xif hF c2
      refine lv_iconst (v := (-1)) hx hb dX11_branch_15 (by decide) ?_
      cases hF
      exact x_iret C0 hR hS dX11_branch_16
    · have hF := xel hF c2
      refine lv_iload_n hx hb dX11_branch_11 rfl (lv_at hl 2 rfl) ?_
      refine lv_if_ge (tgt := 17) hx hb dX11_branch_12 (by decide) (fun c3 => ?_) (fun c3 => ?_)
      · have hF := xif hF c3
        refine lv_aload_n hx hb dX11_branch_17 rfl (lv_at hl 0 rfl) ?_
        obtain ⟨a4, e_a4, hF⟩ := xbd hF
        obtain ⟨e_a4, t_a4⟩ := xgo_sp e_a4
        refine gf_X11_62 C0 hR t_v0 e_a4 dX11_branch_18 ?_
        refine lv_iload_n hx hb dX11_branch_21 rfl (lv_at hl 1 rfl) ?_
        refine lv_iload_n hx hb dX11_branch_22 rfl (lv_at hl 2 rfl) ?_
        obtain ⟨a5, e_a5, hF⟩ := xbd hF
        refine cl_X11_270 C0 hR hS e_a5 t_a4 ⟨(Nat.le_of_ble_eq_true rfl), (Nat.le_of_ble_eq_true rfl)⟩ hl.1 (Nat.le_of_ble_eq_true rfl) ⟨(Nat.le_of_ble_eq_true rfl), (Nat.le_of_ble_eq_true rfl)⟩ dX11_branch_23 (fun H locs hR hS => ?_)
        cases hF
        exact x_iret C0 hR hS dX11_branch_26
      · have hF := xel hF c3
        refine lv_iconst (v := (-1)) hx hb dX11_branch_15 (by decide) ?_
        cases hF
        exact x_iret C0 hR hS dX11_branch_16
theorem xm_X11_branch : xMw yX11_branch cX11_branch 3 (some .int) 2 := ⟨xin 1010 (by decide +kernel) rfl, xin 114 (by decide +kernel) rfl, by decide +kernel⟩
theorem xi_X11_branch : Cond.instanceMethod yX11_branch ∈ xT := xin 1008 (by decide +kernel) rfl
theorem xe_X11_branch : Cond.selects yX11_branch.cls yX11_branch yX11_branch ∈ xT := xin 1009 (by decide +kernel) rfl
theorem dX11_isTop_0 : decode cX11_isTop 0 = .ok (.aload_n 0, 1) := by decide +kernel
theorem dX11_isTop_1 : decode cX11_isTop 1 = .ok (.getfield 20, 3) := by decide +kernel
theorem dX11_isTop_4 : decode cX11_isTop 4 = .ok (.iload_n 1, 1) := by decide +kernel
theorem dX11_isTop_5 : decode cX11_isTop 5 = .ok (.invokevirtual 155, 3) := by decide +kernel
theorem dX11_isTop_8 : decode cX11_isTop 8 = .ok (.astore_n 2, 1) := by decide +kernel
theorem dX11_isTop_9 : decode cX11_isTop 9 = .ok (.iconst 0, 1) := by decide +kernel
theorem dX11_isTop_10 : decode cX11_isTop 10 = .ok (.istore_n 3, 1) := by decide +kernel
theorem dX11_isTop_11 : decode cX11_isTop 11 = .ok (.iload_n 3, 1) := by decide +kernel
theorem dX11_isTop_12 : decode cX11_isTop 12 = .ok (.aload_n 0, 1) := by decide +kernel
theorem dX11_isTop_13 : decode cX11_isTop 13 = .ok (.getfield 20, 3) := by decide +kernel
theorem dX11_isTop_16 : decode cX11_isTop 16 = .ok (.getfield 111, 3) := by decide +kernel
theorem dX11_isTop_19 : decode cX11_isTop 19 = .ok (.if_icmp .ge 67, 3) := by decide +kernel
theorem dX11_isTop_22 : decode cX11_isTop 22 = .ok (.iload_n 3, 1) := by decide +kernel
theorem dX11_isTop_23 : decode cX11_isTop 23 = .ok (.iload_n 1, 1) := by decide +kernel
theorem dX11_isTop_24 : decode cX11_isTop 24 = .ok (.if_icmp .eq 56, 3) := by decide +kernel
theorem dX11_isTop_27 : decode cX11_isTop 27 = .ok (.aload_n 0, 1) := by decide +kernel
theorem dX11_isTop_28 : decode cX11_isTop 28 = .ok (.getfield 55, 3) := by decide +kernel
theorem dX11_isTop_31 : decode cX11_isTop 31 = .ok (.iload_n 3, 1) := by decide +kernel
theorem dX11_isTop_32 : decode cX11_isTop 32 = .ok (.invokevirtual 166, 3) := by decide +kernel
theorem dX11_isTop_35 : decode cX11_isTop 35 = .ok (.ifCond .eq 45, 3) := by decide +kernel
theorem dX11_isTop_38 : decode cX11_isTop 38 = .ok (.aload_n 0, 1) := by decide +kernel
theorem dX11_isTop_39 : decode cX11_isTop 39 = .ok (.getfield 69, 3) := by decide +kernel
theorem dX11_isTop_42 : decode cX11_isTop 42 = .ok (.aload_n 0, 1) := by decide +kernel
theorem dX11_isTop_43 : decode cX11_isTop 43 = .ok (.getfield 20, 3) := by decide +kernel
theorem dX11_isTop_46 : decode cX11_isTop 46 = .ok (.iload_n 3, 1) := by decide +kernel
theorem dX11_isTop_47 : decode cX11_isTop 47 = .ok (.invokevirtual 155, 3) := by decide +kernel
theorem dX11_isTop_50 : decode cX11_isTop 50 = .ok (.aload_n 2, 1) := by decide +kernel
theorem dX11_isTop_51 : decode cX11_isTop 51 = .ok (.iconst 0, 1) := by decide +kernel
theorem dX11_isTop_52 : decode cX11_isTop 52 = .ok (.invokevirtual 223, 3) := by decide +kernel
theorem dX11_isTop_55 : decode cX11_isTop 55 = .ok (.ifCond .eq 25, 3) := by decide +kernel
theorem dX11_isTop_58 : decode cX11_isTop 58 = .ok (.aload_n 0, 1) := by decide +kernel
theorem dX11_isTop_59 : decode cX11_isTop 59 = .ok (.getfield 69, 3) := by decide +kernel
theorem dX11_isTop_62 : decode cX11_isTop 62 = .ok (.aload_n 2, 1) := by decide +kernel
theorem dX11_isTop_63 : decode cX11_isTop 63 = .ok (.aload_n 0, 1) := by decide +kernel
theorem dX11_isTop_64 : decode cX11_isTop 64 = .ok (.getfield 20, 3) := by decide +kernel
theorem dX11_isTop_67 : decode cX11_isTop 67 = .ok (.iload_n 3, 1) := by decide +kernel
theorem dX11_isTop_68 : decode cX11_isTop 68 = .ok (.invokevirtual 155, 3) := by decide +kernel
theorem dX11_isTop_71 : decode cX11_isTop 71 = .ok (.iconst 0, 1) := by decide +kernel
theorem dX11_isTop_72 : decode cX11_isTop 72 = .ok (.invokevirtual 223, 3) := by decide +kernel
theorem dX11_isTop_75 : decode cX11_isTop 75 = .ok (.ifCond .ne 5, 3) := by decide +kernel
theorem dX11_isTop_78 : decode cX11_isTop 78 = .ok (.iconst 0, 1) := by decide +kernel
theorem dX11_isTop_79 : decode cX11_isTop 79 = .ok (.ireturn, 1) := by decide +kernel
theorem dX11_isTop_80 : decode cX11_isTop 80 = .ok (.iinc 3 1, 3) := by decide +kernel
theorem dX11_isTop_83 : decode cX11_isTop 83 = .ok (.goto (-72), 3) := by decide +kernel
theorem dX11_isTop_86 : decode cX11_isTop 86 = .ok (.iconst 1, 1) := by decide +kernel
theorem dX11_isTop_87 : decode cX11_isTop 87 = .ok (.ireturn, 1) := by decide +kernel
set_option maxHeartbeats 4000000 in
set_option maxRecDepth 100000 in
theorem jw_X11_isTop_11 {p : Program} {l : Launch} {e : Env} {s : State} {m : MethodId} {args : Array Value} {below : List Frame} {meth : Method} {c : Code} {D : xD} {ty : xTy} (C0 : xC D RX11 cX11_isTop 4 (some .boolean) p s m args meth c) {r : Int32} {h9 : xH} : ∀ n : Nat, ∀ (v0 : Nat) (v1 : Int32) (v2 : Nat) (v3 : Int32) (h : xH), ty v0 = some (0, 11) → ty v2 = some (0, 7) → jf_X11_isTop_11 ty n v0 v1 v2 v3 h = some (r, h9) → ∀ (H : Heap) (locs : List Loc), xRep D ty h H → xS ty s.heap H locs → ∀ ls : Array Slot, lv_has ls 4 [(0, .ref v0), (1, .int v1), (2, .ref v2), (3, .int v3)] → W p l e jr_X11_isTop s m args below meth c H locs 0 0 (MQ below (xQ D ty (some (.int r)) h9) args s 0 0 (xdom ty)) (F0 m 11 ls []) := by
  have hx := C0.1
  have hb := C0.2.1
  have hown := C0.2.2.2.2.2.1
  have hts := C0.2.2.2.2.2.2.1
  intro n
  induction n with
  | zero =>
    intro v0 v1 v2 v3 h t_v0 t_v2 hF H locs hR hS ls hl
    cases hF
  | succ n ih =>
    intro v0 v1 v2 v3 h t_v0 t_v2 hF H locs hR hS ls hl
    rw [jf_X11_isTop_11_s] at hF
    refine lv_iload_n hx hb dX11_isTop_11 rfl (lv_at hl 3 rfl) ?_
    refine lv_aload_n hx hb dX11_isTop_12 rfl (lv_at hl 0 rfl) ?_
    obtain ⟨a1, e_a1, hF⟩ := xbd hF
    obtain ⟨e_a1, t_a1⟩ := xgo_sp e_a1
    refine gf_X11_20 C0 hR t_v0 e_a1 dX11_isTop_13 ?_
    refine gf_X11_111 C0 hR t_a1 dX11_isTop_16 ?_
    refine lv_icmp_ge (tgt := 86) hx hb dX11_isTop_19 (by decide) (fun c2 => ?_) (fun c2 => ?_)
    · have hF := xif hF c2
      refine lv_iconst (v := 1) hx hb dX11_isTop_86 (by decide) ?_
      cases hF
      exact x_zret (w := 1) C0 hR hS (by decide) dX11_isTop_87
    · have hF := xel hF c2
      refine lv_iload_n hx hb dX11_isTop_22 rfl (lv_at hl 3 rfl) ?_
      refine lv_iload_n hx hb dX11_isTop_23 rfl (lv_at hl 1 rfl) ?_
      refine lv_icmp_eq (tgt := 80) hx hb dX11_isTop_24 (by decide) (fun c3 => ?_) (fun c3 => ?_)
      · have hF := xif hF c3
        refine lv_iinc (v := v3 + 1) (lv' := [(3, .int (v3 + 1)), (0, .ref v0), (1, .int v1), (2, .ref v2)]) hx hb dX11_isTop_80 hl (k := 3) rfl rfl (by decide) rfl (fun ls hl => ?_)
        refine lv_goto (tgt := 11) hx hb dX11_isTop_83 (by decide) ?_
        exact ih _ _ _ _ _ t_v0 t_v2 hF _ _ hR hS _ (lv_sub hl [1, 2, 3, 0] rfl)
      · have hF := xel hF c3
        refine lv_aload_n hx hb dX11_isTop_27 rfl (lv_at hl 0 rfl) ?_
        obtain ⟨a4, e_a4, hF⟩ := xbd hF
        obtain ⟨e_a4, t_a4⟩ := xgo_sp e_a4
        refine gf_X11_55 C0 hR t_v0 e_a4 dX11_isTop_28 ?_
        refine lv_iload_n hx hb dX11_isTop_31 rfl (lv_at hl 3 rfl) ?_
        obtain ⟨a5, e_a5, hF⟩ := xbd hF
        refine cl_X11_166 C0 hR hS e_a5 t_a4 ⟨(Nat.le_of_ble_eq_true rfl), (Nat.le_of_ble_eq_true rfl)⟩ hl.1 (Nat.le_of_ble_eq_true rfl) ⟨(Nat.le_of_ble_eq_true rfl), (Nat.le_of_ble_eq_true rfl)⟩ dX11_isTop_32 (fun H locs hR hS => ?_)
        refine lv_if_eq (tgt := 80) hx hb dX11_isTop_35 (by decide) (fun c6 => ?_) (fun c6 => ?_)
        · have hF := xif hF c6
          refine lv_iinc (v := v3 + 1) (lv' := [(3, .int (v3 + 1)), (0, .ref v0), (1, .int v1), (2, .ref v2)]) hx hb dX11_isTop_80 hl (k := 3) rfl rfl (by decide) rfl (fun ls hl => ?_)
          refine lv_goto (tgt := 11) hx hb dX11_isTop_83 (by decide) ?_
          exact ih _ _ _ _ _ t_v0 t_v2 hF _ _ hR hS _ (lv_sub hl [1, 2, 3, 0] rfl)
        · have hF := xel hF c6
          refine lv_aload_n hx hb dX11_isTop_38 rfl (lv_at hl 0 rfl) ?_
          obtain ⟨a7, e_a7, hF⟩ := xbd hF
          obtain ⟨e_a7, t_a7⟩ := xgo_sp e_a7
          refine gf_X11_69 C0 hR t_v0 e_a7 dX11_isTop_39 ?_
          refine lv_aload_n hx hb dX11_isTop_42 rfl (lv_at hl 0 rfl) ?_
          obtain ⟨a8, e_a8, hF⟩ := xbd hF
          obtain ⟨e_a8, t_a8⟩ := xgo_sp e_a8
          refine gf_X11_20 C0 hR t_v0 e_a8 dX11_isTop_43 ?_
          refine lv_iload_n hx hb dX11_isTop_46 rfl (lv_at hl 3 rfl) ?_
          obtain ⟨a9, e_a9, hF⟩ := xbd hF
          obtain ⟨u10, e_u10, hF⟩ := xbd hF
          have t_a9 := xck_sp e_u10
          refine cl_X11_155 C0 hR hS e_a9 t_a8 ⟨(Nat.le_of_ble_eq_true rfl), (Nat.le_of_ble_eq_true rfl)⟩ hl.1 (Nat.le_of_ble_eq_true rfl) ⟨(Nat.le_of_ble_eq_true rfl), (Nat.le_of_ble_eq_true rfl)⟩ dX11_isTop_47 (fun H locs hR hS => ?_)
          refine lv_aload_n hx hb dX11_isTop_50 rfl (lv_at hl 2 rfl) ?_
          refine lv_iconst (v := 0) hx hb dX11_isTop_51 (by decide) ?_
          obtain ⟨a12, h11, e_h11, hF⟩ := xbd2 hF
          refine cl_X11_223 C0 hR hS e_h11 t_a7 t_a9 t_v2 ⟨(Nat.le_of_ble_eq_true rfl), (Nat.le_of_ble_eq_true rfl)⟩ hl.1 (Nat.le_of_ble_eq_true rfl) ⟨(Nat.le_of_ble_eq_true rfl), (Nat.le_of_ble_eq_true rfl)⟩ dX11_isTop_52 (fun H locs hR hS => ?_)
          refine lv_if_eq (tgt := 80) hx hb dX11_isTop_55 (by decide) (fun c13 => ?_) (fun c13 => ?_)
          · have hF := xif hF c13
            refine lv_iinc (v := v3 + 1) (lv' := [(3, .int (v3 + 1)), (0, .ref v0), (1, .int v1), (2, .ref v2)]) hx hb dX11_isTop_80 hl (k := 3) rfl rfl (by decide) rfl (fun ls hl => ?_)
            refine lv_goto (tgt := 11) hx hb dX11_isTop_83 (by decide) ?_
            exact ih _ _ _ _ _ t_v0 t_v2 hF _ _ hR hS _ (lv_sub hl [1, 2, 3, 0] rfl)
          · have hF := xel hF c13
            refine lv_aload_n hx hb dX11_isTop_58 rfl (lv_at hl 0 rfl) ?_
            obtain ⟨a14, e_a14, hF⟩ := xbd hF
            obtain ⟨e_a14, t_a14⟩ := xgo_sp e_a14
            refine gf_X11_69 C0 hR t_v0 e_a14 dX11_isTop_59 ?_
            refine lv_aload_n hx hb dX11_isTop_62 rfl (lv_at hl 2 rfl) ?_
            refine lv_aload_n hx hb dX11_isTop_63 rfl (lv_at hl 0 rfl) ?_
            obtain ⟨a15, e_a15, hF⟩ := xbd hF
            obtain ⟨e_a15, t_a15⟩ := xgo_sp e_a15
            refine gf_X11_20 C0 hR t_v0 e_a15 dX11_isTop_64 ?_
            refine lv_iload_n hx hb dX11_isTop_67 rfl (lv_at hl 3 rfl) ?_
            obtain ⟨a16, e_a16, hF⟩ := xbd hF
            obtain ⟨u17, e_u17, hF⟩ := xbd hF
            have t_a16 := xck_sp e_u17
            refine cl_X11_155 C0 hR hS e_a16 t_a15 ⟨(Nat.le_of_ble_eq_true rfl), (Nat.le_of_ble_eq_true rfl)⟩ hl.1 (Nat.le_of_ble_eq_true rfl) ⟨(Nat.le_of_ble_eq_true rfl), (Nat.le_of_ble_eq_true rfl)⟩ dX11_isTop_68 (fun H locs hR hS => ?_)
            refine lv_iconst (v := 0) hx hb dX11_isTop_71 (by decide) ?_
            obtain ⟨a19, h18, e_h18, hF⟩ := xbd2 hF
            refine cl_X11_223 C0 hR hS e_h18 t_a14 t_v2 t_a16 ⟨(Nat.le_of_ble_eq_true rfl), (Nat.le_of_ble_eq_true rfl)⟩ hl.1 (Nat.le_of_ble_eq_true rfl) ⟨(Nat.le_of_ble_eq_true rfl), (Nat.le_of_ble_eq_true rfl)⟩ dX11_isTop_72 (fun H locs hR hS => ?_)
            refine lv_if_ne (tgt := 80) hx hb dX11_isTop_75 (by decide) (fun c20 => ?_) (fun c20 => ?_)
            · have hF := xel hF c20
              refine lv_iinc (v := v3 + 1) (lv' := [(3, .int (v3 + 1)), (0, .ref v0), (1, .int v1), (2, .ref v2)]) hx hb dX11_isTop_80 hl (k := 3) rfl rfl (by decide) rfl (fun ls hl => ?_)
              refine lv_goto (tgt := 11) hx hb dX11_isTop_83 (by decide) ?_
              exact ih _ _ _ _ _ t_v0 t_v2 hF _ _ hR hS _ (lv_sub hl [1, 2, 3, 0] rfl)
            · have hF := xif hF c20
              refine lv_iconst (v := 0) hx hb dX11_isTop_78 (by decide) ?_
              cases hF
              exact x_zret (w := 0) C0 hR hS (by decide) dX11_isTop_79
set_option maxHeartbeats 4000000 in
set_option maxRecDepth 100000 in
theorem jc_X11_isTop {l : Launch} {D : xD} {ty : xTy} {h : xH} {v0 : Nat} {v1 : Int32} {r : Int32} {h9 : xH} (t_v0 : ty v0 = some (0, 11)) (hF : jf_X11_isTop ty h v0 v1 = some (r, h9)) : Met l yX11_isTop (xws yX11_isTop cX11_isTop 4 (some .boolean)) jr_X11_isTop (xPc D ty h [.ref v0, .int v1]) (xQ D ty (some (.int r)) h9) 0 0 (xdom ty) := by
  refine x_met (by decide) ?_
  intro p e s m below meth c C0 hR
  generalize hargs : ([.ref v0, .int v1] : List Value).toArray = args at C0 ⊢
  have hx := C0.1
  have hb := C0.2.1
  have hown := C0.2.2.2.2.2.1
  have hts := C0.2.2.2.2.2.2.1
  have hS : xS ty s.heap s.heap [] := xS.rf
  have hl := lv_entry ([.ref v0, .int v1]) (n := 4) (Nat.le_of_ble_eq_true rfl)
  rw [← hargs, lg_entry_eq]
  rw [hargs]
  generalize (lg_sl ([.ref v0, .int v1]) ++ List.replicate (4 - (lg_sl ([.ref v0, .int v1])).length) Slot.unset).toArray = ls at hl ⊢
  have hl : lv_has ls 4 [(0, .ref v0), (1, .int v1)] := hl
  unfold jf_X11_isTop at hF
  refine lv_aload_n hx hb dX11_isTop_0 rfl (lv_at hl 0 rfl) ?_
  obtain ⟨a21, e_a21, hF⟩ := xbd hF
  obtain ⟨e_a21, t_a21⟩ := xgo_sp e_a21
  refine gf_X11_20 C0 hR t_v0 e_a21 dX11_isTop_1 ?_
  refine lv_iload_n hx hb dX11_isTop_4 rfl (lv_at hl 1 rfl) ?_
  obtain ⟨a22, e_a22, hF⟩ := xbd hF
  obtain ⟨u23, e_u23, hF⟩ := xbd hF
  have t_a22 := xck_sp e_u23
  refine cl_X11_155 C0 hR hS e_a22 t_a21 ⟨(Nat.le_of_ble_eq_true rfl), (Nat.le_of_ble_eq_true rfl)⟩ hl.1 (Nat.le_of_ble_eq_true rfl) ⟨(Nat.le_of_ble_eq_true rfl), (Nat.le_of_ble_eq_true rfl)⟩ dX11_isTop_5 (fun H locs hR hS => ?_)
  refine lv_astore_n (lv' := [(2, .ref a22), (0, .ref v0), (1, .int v1)]) hx hb dX11_isTop_8 rfl hl (by decide) rfl (fun ls hl => ?_)
  refine lv_iconst (v := 0) hx hb dX11_isTop_9 (by decide) ?_
  refine lv_istore_n (lv' := [(3, .int 0), (2, .ref a22), (0, .ref v0), (1, .int v1)]) hx hb dX11_isTop_10 rfl hl (by decide) rfl (fun ls hl => ?_)
  obtain ⟨_, hF⟩ := xlim_sp hF
  exact jw_X11_isTop_11 C0 _ _ _ _ _ _ t_v0 t_a22 hF _ _ hR hS _ (lv_sub hl [2, 3, 1, 0] rfl)
theorem xm_X11_isTop : xMw yX11_isTop cX11_isTop 4 (some .boolean) 1 := ⟨xin 1023 (by decide +kernel) rfl, xin 114 (by decide +kernel) rfl, by decide +kernel⟩
theorem xi_X11_isTop : Cond.instanceMethod yX11_isTop ∈ xT := xin 1022 (by decide +kernel) rfl
theorem xe_X11_isTop : Cond.selects yX11_isTop.cls yX11_isTop yX11_isTop ∈ xT := xin 43 (by decide +kernel) rfl
theorem dX11_tops_0 : decode cX11_tops 0 = .ok (.iconst 0, 1) := by decide +kernel
theorem dX11_tops_1 : decode cX11_tops 1 = .ok (.istore_n 1, 1) := by decide +kernel
theorem dX11_tops_2 : decode cX11_tops 2 = .ok (.iconst 0, 1) := by decide +kernel
theorem dX11_tops_3 : decode cX11_tops 3 = .ok (.istore_n 2, 1) := by decide +kernel
theorem dX11_tops_4 : decode cX11_tops 4 = .ok (.iload_n 2, 1) := by decide +kernel
theorem dX11_tops_5 : decode cX11_tops 5 = .ok (.aload_n 0, 1) := by decide +kernel
theorem dX11_tops_6 : decode cX11_tops 6 = .ok (.getfield 20, 3) := by decide +kernel
theorem dX11_tops_9 : decode cX11_tops 9 = .ok (.getfield 111, 3) := by decide +kernel
theorem dX11_tops_12 : decode cX11_tops 12 = .ok (.if_icmp .ge 34, 3) := by decide +kernel
theorem dX11_tops_15 : decode cX11_tops 15 = .ok (.aload_n 0, 1) := by decide +kernel
theorem dX11_tops_16 : decode cX11_tops 16 = .ok (.getfield 55, 3) := by decide +kernel
theorem dX11_tops_19 : decode cX11_tops 19 = .ok (.iload_n 2, 1) := by decide +kernel
theorem dX11_tops_20 : decode cX11_tops 20 = .ok (.invokevirtual 166, 3) := by decide +kernel
theorem dX11_tops_23 : decode cX11_tops 23 = .ok (.ifCond .eq 17, 3) := by decide +kernel
theorem dX11_tops_26 : decode cX11_tops 26 = .ok (.aload_n 0, 1) := by decide +kernel
theorem dX11_tops_27 : decode cX11_tops 27 = .ok (.iload_n 2, 1) := by decide +kernel
theorem dX11_tops_28 : decode cX11_tops 28 = .ok (.invokevirtual 273, 3) := by decide +kernel
theorem dX11_tops_31 : decode cX11_tops 31 = .ok (.ifCond .eq 9, 3) := by decide +kernel
theorem dX11_tops_34 : decode cX11_tops 34 = .ok (.iload_n 1, 1) := by decide +kernel
theorem dX11_tops_35 : decode cX11_tops 35 = .ok (.iconst 1, 1) := by decide +kernel
theorem dX11_tops_36 : decode cX11_tops 36 = .ok (.iload_n 2, 1) := by decide +kernel
theorem dX11_tops_37 : decode cX11_tops 37 = .ok (.ishl, 1) := by decide +kernel
theorem dX11_tops_38 : decode cX11_tops 38 = .ok (.ior, 1) := by decide +kernel
theorem dX11_tops_39 : decode cX11_tops 39 = .ok (.istore_n 1, 1) := by decide +kernel
theorem dX11_tops_40 : decode cX11_tops 40 = .ok (.iinc 2 1, 3) := by decide +kernel
theorem dX11_tops_43 : decode cX11_tops 43 = .ok (.goto (-39), 3) := by decide +kernel
theorem dX11_tops_46 : decode cX11_tops 46 = .ok (.iload_n 1, 1) := by decide +kernel
theorem dX11_tops_47 : decode cX11_tops 47 = .ok (.ireturn, 1) := by decide +kernel
theorem wl_X11_273 : Cond.methodLink RX11 273 yX11_isTop ∈ xT := xin 1020 (by decide +kernel) rfl
section XN_X11_tops
variable {p : Program} {l : Launch} {e : Env} {R : Room} {s : State} {m : MethodId} {args : Array Value} {below : List Frame} {meth : Method} {c : Code} {H H0 : Heap} {locs : List Loc} {cells slots : Nat} {Q : State → Prop} {cc : ByteArray} {nL pc : Nat} {rt : Option FieldType} {ls : Array Slot} {rest : List Value} {D : xD} {ty : xTy} {h : xH}
theorem cl_X11_273 {v0 : Nat} {v1 : Int32} {r : Int32} {h9 : xH} (C0 : xC D RX11 cc nL rt p s m args meth c) (hR : xRep D ty h H) (hS : xS ty H0 H locs) (hF : jf_X11_isTop ty h v0 v1 = some (r, h9)) (t_v0 : ty v0 = some (0, 11)) (hrm : jr_X11_isTop.frames + 1 ≤ R.frames ∧ 8 + (4 + 11) + jr_X11_isTop.locals ≤ R.locals) (hsz : ls.size = nL) (hW : (rest.map fun v => v.category).sum ≤ 8) (hf : cells ≤ R.cells ∧ slots ≤ R.slots) (hdg : decode cc pc = .ok (.invokevirtual 273, 3)) (kk : ∀ (H1 : Heap) (locs1 : List Loc), xRep D ty h9 H1 → xS ty H0 H1 locs1 → W p l e R s m args below meth c H1 locs1 cells slots Q (F0 m (pc + 3) ls (.int r :: rest))) : W p l e R s m args below meth c H locs cells slots Q (F0 m pc ls (.int v1 :: .ref v0 :: rest)) := x_callV C0 (jc_X11_isTop t_v0 hF) xm_X11_isTop xi_X11_isTop xe_X11_isTop wl_X11_273 ⟨rfl, rfl, hrm⟩ (ci := 11) rfl t_v0 hR hS (As := [.int v1]) rfl hsz rfl hW hdg hf kk
end XN_X11_tops
set_option maxHeartbeats 4000000 in
set_option maxRecDepth 100000 in
theorem jw_X11_tops_4 {p : Program} {l : Launch} {e : Env} {s : State} {m : MethodId} {args : Array Value} {below : List Frame} {meth : Method} {c : Code} {D : xD} {ty : xTy} (C0 : xC D RX11 cX11_tops 3 (some .int) p s m args meth c) {r : Int32} {h9 : xH} : ∀ n : Nat, ∀ (v0 : Nat) (v1 : Int32) (v2 : Int32) (h : xH), ty v0 = some (0, 11) → jf_X11_tops_4 ty n v0 v1 v2 h = some (r, h9) → ∀ (H : Heap) (locs : List Loc), xRep D ty h H → xS ty s.heap H locs → ∀ ls : Array Slot, lv_has ls 3 [(0, .ref v0), (1, .int v1), (2, .int v2)] → W p l e jr_X11_tops s m args below meth c H locs 0 0 (MQ below (xQ D ty (some (.int r)) h9) args s 0 0 (xdom ty)) (F0 m 4 ls []) := by
  have hx := C0.1
  have hb := C0.2.1
  have hown := C0.2.2.2.2.2.1
  have hts := C0.2.2.2.2.2.2.1
  intro n
  induction n with
  | zero =>
    intro v0 v1 v2 h t_v0 hF H locs hR hS ls hl
    cases hF
  | succ n ih =>
    intro v0 v1 v2 h t_v0 hF H locs hR hS ls hl
    rw [jf_X11_tops_4_s] at hF
    refine lv_iload_n hx hb dX11_tops_4 rfl (lv_at hl 2 rfl) ?_
    refine lv_aload_n hx hb dX11_tops_5 rfl (lv_at hl 0 rfl) ?_
    obtain ⟨a1, e_a1, hF⟩ := xbd hF
    obtain ⟨e_a1, t_a1⟩ := xgo_sp e_a1
    refine gf_X11_20 C0 hR t_v0 e_a1 dX11_tops_6 ?_
    refine gf_X11_111 C0 hR t_a1 dX11_tops_9 ?_
    refine lv_icmp_ge (tgt := 46) hx hb dX11_tops_12 (by decide) (fun c2 => ?_) (fun c2 => ?_)
    · have hF := xif hF c2
      refine lv_iload_n hx hb dX11_tops_46 rfl (lv_at hl 1 rfl) ?_
      cases hF
      exact x_iret C0 hR hS dX11_tops_47
    · have hF := xel hF c2
      refine lv_aload_n hx hb dX11_tops_15 rfl (lv_at hl 0 rfl) ?_
      obtain ⟨a3, e_a3, hF⟩ := xbd hF
      obtain ⟨e_a3, t_a3⟩ := xgo_sp e_a3
      refine gf_X11_55 C0 hR t_v0 e_a3 dX11_tops_16 ?_
      refine lv_iload_n hx hb dX11_tops_19 rfl (lv_at hl 2 rfl) ?_
      obtain ⟨a4, e_a4, hF⟩ := xbd hF
      refine cl_X11_166 C0 hR hS e_a4 t_a3 ⟨(Nat.le_of_ble_eq_true rfl), (Nat.le_of_ble_eq_true rfl)⟩ hl.1 (Nat.le_of_ble_eq_true rfl) ⟨(Nat.le_of_ble_eq_true rfl), (Nat.le_of_ble_eq_true rfl)⟩ dX11_tops_20 (fun H locs hR hS => ?_)
      refine lv_if_eq (tgt := 40) hx hb dX11_tops_23 (by decide) (fun c5 => ?_) (fun c5 => ?_)
      · have hF := xif hF c5
        refine lv_iinc (v := v2 + 1) (lv' := [(2, .int (v2 + 1)), (0, .ref v0), (1, .int v1)]) hx hb dX11_tops_40 hl (k := 2) rfl rfl (by decide) rfl (fun ls hl => ?_)
        refine lv_goto (tgt := 4) hx hb dX11_tops_43 (by decide) ?_
        exact ih _ _ _ _ t_v0 hF _ _ hR hS _ (lv_sub hl [1, 2, 0] rfl)
      · have hF := xel hF c5
        refine lv_aload_n hx hb dX11_tops_26 rfl (lv_at hl 0 rfl) ?_
        refine lv_iload_n hx hb dX11_tops_27 rfl (lv_at hl 2 rfl) ?_
        obtain ⟨a7, h6, e_h6, hF⟩ := xbd2 hF
        refine cl_X11_273 C0 hR hS e_h6 t_v0 ⟨(Nat.le_of_ble_eq_true rfl), (Nat.le_of_ble_eq_true rfl)⟩ hl.1 (Nat.le_of_ble_eq_true rfl) ⟨(Nat.le_of_ble_eq_true rfl), (Nat.le_of_ble_eq_true rfl)⟩ dX11_tops_28 (fun H locs hR hS => ?_)
        refine lv_if_eq (tgt := 40) hx hb dX11_tops_31 (by decide) (fun c8 => ?_) (fun c8 => ?_)
        · have hF := xif hF c8
          refine lv_iinc (v := v2 + 1) (lv' := [(2, .int (v2 + 1)), (0, .ref v0), (1, .int v1)]) hx hb dX11_tops_40 hl (k := 2) rfl rfl (by decide) rfl (fun ls hl => ?_)
          refine lv_goto (tgt := 4) hx hb dX11_tops_43 (by decide) ?_
          exact ih _ _ _ _ t_v0 hF _ _ hR hS _ (lv_sub hl [1, 2, 0] rfl)
        · have hF := xel hF c8
          refine lv_iload_n hx hb dX11_tops_34 rfl (lv_at hl 1 rfl) ?_
          refine lv_iconst (v := 1) hx hb dX11_tops_35 (by decide) ?_
          refine lv_iload_n hx hb dX11_tops_36 rfl (lv_at hl 2 rfl) ?_
          refine lv_ishl hx hb dX11_tops_37 ?_
          refine lv_ior hx hb dX11_tops_38 ?_
          refine lv_istore_n (lv' := [(1, .int (v1 ||| (1 <<< (v2 &&& 31)))), (0, .ref v0), (2, .int v2)]) hx hb dX11_tops_39 rfl hl (by decide) rfl (fun ls hl => ?_)
          refine lv_iinc (v := v2 + 1) (lv' := [(2, .int (v2 + 1)), (1, .int (v1 ||| (1 <<< (v2 &&& 31)))), (0, .ref v0)]) hx hb dX11_tops_40 hl (k := 2) rfl rfl (by decide) rfl (fun ls hl => ?_)
          refine lv_goto (tgt := 4) hx hb dX11_tops_43 (by decide) ?_
          exact ih _ _ _ _ t_v0 hF _ _ hR hS _ (lv_sub hl [2, 1, 0] rfl)
set_option maxHeartbeats 4000000 in
set_option maxRecDepth 100000 in
theorem jc_X11_tops {l : Launch} {D : xD} {ty : xTy} {h : xH} {v0 : Nat} {r : Int32} {h9 : xH} (t_v0 : ty v0 = some (0, 11)) (hF : jf_X11_tops ty h v0 = some (r, h9)) : Met l yX11_tops (xws yX11_tops cX11_tops 3 (some .int)) jr_X11_tops (xPc D ty h [.ref v0]) (xQ D ty (some (.int r)) h9) 0 0 (xdom ty) := by
  refine x_met (by decide) ?_
  intro p e s m below meth c C0 hR
  generalize hargs : ([.ref v0] : List Value).toArray = args at C0 ⊢
  have hx := C0.1
  have hb := C0.2.1
  have hown := C0.2.2.2.2.2.1
  have hts := C0.2.2.2.2.2.2.1
  have hS : xS ty s.heap s.heap [] := xS.rf
  have hl := lv_entry ([.ref v0]) (n := 3) (Nat.le_of_ble_eq_true rfl)
  rw [← hargs, lg_entry_eq]
  rw [hargs]
  generalize (lg_sl ([.ref v0]) ++ List.replicate (3 - (lg_sl ([.ref v0])).length) Slot.unset).toArray = ls at hl ⊢
  have hl : lv_has ls 3 [(0, .ref v0)] := hl
  unfold jf_X11_tops at hF
  refine lv_iconst (v := 0) hx hb dX11_tops_0 (by decide) ?_
  refine lv_istore_n (lv' := [(1, .int 0), (0, .ref v0)]) hx hb dX11_tops_1 rfl hl (by decide) rfl (fun ls hl => ?_)
  refine lv_iconst (v := 0) hx hb dX11_tops_2 (by decide) ?_
  refine lv_istore_n (lv' := [(2, .int 0), (1, .int 0), (0, .ref v0)]) hx hb dX11_tops_3 rfl hl (by decide) rfl (fun ls hl => ?_)
  obtain ⟨_, hF⟩ := xlim_sp hF
  exact jw_X11_tops_4 C0 _ _ _ _ _ t_v0 hF _ _ hR hS _ (lv_sub hl [2, 1, 0] rfl)
theorem xm_X11_tops : xMw yX11_tops cX11_tops 3 (some .int) 0 := ⟨xin 1019 (by decide +kernel) rfl, xin 114 (by decide +kernel) rfl, by decide +kernel⟩
theorem xi_X11_tops : Cond.instanceMethod yX11_tops ∈ xT := xin 1017 (by decide +kernel) rfl
theorem xe_X11_tops : Cond.selects yX11_tops.cls yX11_tops yX11_tops ∈ xT := xin 1018 (by decide +kernel) rfl
theorem dX11_beside_0 : decode cX11_beside 0 = .ok (.aload_n 0, 1) := by decide +kernel
theorem dX11_beside_1 : decode cX11_beside 1 = .ok (.getfield 20, 3) := by decide +kernel
theorem dX11_beside_4 : decode cX11_beside 4 = .ok (.iload_n 1, 1) := by decide +kernel
theorem dX11_beside_5 : decode cX11_beside 5 = .ok (.invokevirtual 144, 3) := by decide +kernel
theorem dX11_beside_8 : decode cX11_beside 8 = .ok (.ifCond .eq 23, 3) := by decide +kernel
theorem dX11_beside_11 : decode cX11_beside 11 = .ok (.aload_n 0, 1) := by decide +kernel
theorem dX11_beside_12 : decode cX11_beside 12 = .ok (.getfield 20, 3) := by decide +kernel
theorem dX11_beside_15 : decode cX11_beside 15 = .ok (.iload_n 2, 1) := by decide +kernel
theorem dX11_beside_16 : decode cX11_beside 16 = .ok (.invokevirtual 144, 3) := by decide +kernel
theorem dX11_beside_19 : decode cX11_beside 19 = .ok (.ifCond .eq 12, 3) := by decide +kernel
theorem dX11_beside_22 : decode cX11_beside 22 = .ok (.iload_n 3, 1) := by decide +kernel
theorem dX11_beside_23 : decode cX11_beside 23 = .ok (.ifCond .lt 8, 3) := by decide +kernel
theorem dX11_beside_26 : decode cX11_beside 26 = .ok (.iload_n 3, 1) := by decide +kernel
theorem dX11_beside_27 : decode cX11_beside 27 = .ok (.iconst 1, 1) := by decide +kernel
theorem dX11_beside_28 : decode cX11_beside 28 = .ok (.if_icmp .le 5, 3) := by decide +kernel
theorem dX11_beside_31 : decode cX11_beside 31 = .ok (.iconst (-1), 1) := by decide +kernel
theorem dX11_beside_32 : decode cX11_beside 32 = .ok (.ireturn, 1) := by decide +kernel
theorem dX11_beside_33 : decode cX11_beside 33 = .ok (.iload_n 3, 1) := by decide +kernel
theorem dX11_beside_34 : decode cX11_beside 34 = .ok (.ifCond .ne 7, 3) := by decide +kernel
theorem dX11_beside_37 : decode cX11_beside 37 = .ok (.iconst 3, 1) := by decide +kernel
theorem dX11_beside_38 : decode cX11_beside 38 = .ok (.goto 4, 3) := by decide +kernel
theorem dX11_beside_41 : decode cX11_beside 41 = .ok (.iconst 2, 1) := by decide +kernel
theorem dX11_beside_42 : decode cX11_beside 42 = .ok (.istore 4, 2) := by decide +kernel
theorem dX11_beside_44 : decode cX11_beside 44 = .ok (.aload_n 0, 1) := by decide +kernel
theorem dX11_beside_45 : decode cX11_beside 45 = .ok (.iload 4, 2) := by decide +kernel
theorem dX11_beside_47 : decode cX11_beside 47 = .ok (.aload_n 0, 1) := by decide +kernel
theorem dX11_beside_48 : decode cX11_beside 48 = .ok (.getfield 20, 3) := by decide +kernel
theorem dX11_beside_51 : decode cX11_beside 51 = .ok (.iload_n 1, 1) := by decide +kernel
theorem dX11_beside_52 : decode cX11_beside 52 = .ok (.invokevirtual 155, 3) := by decide +kernel
theorem dX11_beside_55 : decode cX11_beside 55 = .ok (.aload_n 0, 1) := by decide +kernel
theorem dX11_beside_56 : decode cX11_beside 56 = .ok (.getfield 20, 3) := by decide +kernel
theorem dX11_beside_59 : decode cX11_beside 59 = .ok (.iload_n 2, 1) := by decide +kernel
theorem dX11_beside_60 : decode cX11_beside 60 = .ok (.invokevirtual 155, 3) := by decide +kernel
theorem dX11_beside_63 : decode cX11_beside 63 = .ok (.invokevirtual 187, 3) := by decide +kernel
theorem dX11_beside_66 : decode cX11_beside 66 = .ok (.ifCond .eq 7, 3) := by decide +kernel
theorem dX11_beside_69 : decode cX11_beside 69 = .ok (.iconst 1, 1) := by decide +kernel
theorem dX11_beside_70 : decode cX11_beside 70 = .ok (.goto 4, 3) := by decide +kernel
theorem dX11_beside_73 : decode cX11_beside 73 = .ok (.iconst 0, 1) := by decide +kernel
theorem dX11_beside_74 : decode cX11_beside 74 = .ok (.ireturn, 1) := by decide +kernel
set_option maxHeartbeats 4000000 in
set_option maxRecDepth 100000 in
theorem jw_X11_beside_42 {p : Program} {l : Launch} {e : Env} {s : State} {m : MethodId} {args : Array Value} {below : List Frame} {meth : Method} {c : Code} {D : xD} {ty : xTy} (C0 : xC D RX11 cX11_beside 5 (some .int) p s m args meth c) {r : Int32} {h9 : xH} : ∀ (v0 : Nat) (v1 : Int32) (v2 : Int32) (s0 : Int32) (h : xH), ty v0 = some (0, 11) → jf_X11_beside_42 ty v0 v1 v2 s0 h = some (r, h9) → ∀ (H : Heap) (locs : List Loc), xRep D ty h H → xS ty s.heap H locs → ∀ ls : Array Slot, lv_has ls 5 [(0, .ref v0), (1, .int v1), (2, .int v2)] → W p l e jr_X11_beside s m args below meth c H locs 0 0 (MQ below (xQ D ty (some (.int r)) h9) args s 0 0 (xdom ty)) (F0 m 42 ls [.int s0]) := by
  have hx := C0.1
  have hb := C0.2.1
  have hown := C0.2.2.2.2.2.1
  have hts := C0.2.2.2.2.2.2.1
  intro v0 v1 v2 s0 h t_v0 hF H locs hR hS ls hl
  unfold jf_X11_beside_42 at hF
  refine lv_istore (lv' := [(4, .int s0), (0, .ref v0), (1, .int v1), (2, .int v2)]) hx hb dX11_beside_42 hl (by decide) rfl (fun ls hl => ?_)
  refine lv_aload_n hx hb dX11_beside_44 rfl (lv_at hl 1 rfl) ?_
  refine lv_iload hx hb dX11_beside_45 (lv_at hl 0 rfl) ?_
  refine lv_aload_n hx hb dX11_beside_47 rfl (lv_at hl 1 rfl) ?_
  obtain ⟨a1, e_a1, hF⟩ := xbd hF
  obtain ⟨e_a1, t_a1⟩ := xgo_sp e_a1
  refine gf_X11_20 C0 hR t_v0 e_a1 dX11_beside_48 ?_
  refine lv_iload_n hx hb dX11_beside_51 rfl (lv_at hl 2 rfl) ?_
  obtain ⟨a2, e_a2, hF⟩ := xbd hF
  obtain ⟨u3, e_u3, hF⟩ := xbd hF
  have t_a2 := xck_sp e_u3
  refine cl_X11_155 C0 hR hS e_a2 t_a1 ⟨(Nat.le_of_ble_eq_true rfl), (Nat.le_of_ble_eq_true rfl)⟩ hl.1 (Nat.le_of_ble_eq_true rfl) ⟨(Nat.le_of_ble_eq_true rfl), (Nat.le_of_ble_eq_true rfl)⟩ dX11_beside_52 (fun H locs hR hS => ?_)
  refine lv_aload_n hx hb dX11_beside_55 rfl (lv_at hl 1 rfl) ?_
  obtain ⟨a4, e_a4, hF⟩ := xbd hF
  obtain ⟨e_a4, t_a4⟩ := xgo_sp e_a4
  refine gf_X11_20 C0 hR t_v0 e_a4 dX11_beside_56 ?_
  refine lv_iload_n hx hb dX11_beside_59 rfl (lv_at hl 3 rfl) ?_
  obtain ⟨a5, e_a5, hF⟩ := xbd hF
  obtain ⟨u6, e_u6, hF⟩ := xbd hF
  have t_a5 := xck_sp e_u6
  refine cl_X11_155 C0 hR hS e_a5 t_a4 ⟨(Nat.le_of_ble_eq_true rfl), (Nat.le_of_ble_eq_true rfl)⟩ hl.1 (Nat.le_of_ble_eq_true rfl) ⟨(Nat.le_of_ble_eq_true rfl), (Nat.le_of_ble_eq_true rfl)⟩ dX11_beside_60 (fun H locs hR hS => ?_)
  obtain ⟨a8, h7, e_h7, hF⟩ := xbd2 hF
  refine cl_X11_187 C0 hR hS e_h7 t_v0 t_a2 t_a5 ⟨(Nat.le_of_ble_eq_true rfl), (Nat.le_of_ble_eq_true rfl)⟩ hl.1 (Nat.le_of_ble_eq_true rfl) ⟨(Nat.le_of_ble_eq_true rfl), (Nat.le_of_ble_eq_true rfl)⟩ dX11_beside_63 (fun H locs hR hS => ?_)
  refine lv_if_eq (tgt := 73) hx hb dX11_beside_66 (by decide) (fun c9 => ?_) (fun c9 => ?_)
  · have hF := xif hF c9
    refine lv_iconst (v := 0) hx hb dX11_beside_73 (by decide) ?_
    cases hF
    exact x_iret C0 hR hS dX11_beside_74
  · have hF := xel hF c9
    refine lv_iconst (v := 1) hx hb dX11_beside_69 (by decide) ?_
    refine lv_goto (tgt := 74) hx hb dX11_beside_70 (by decide) ?_
    cases hF
    exact x_iret C0 hR hS dX11_beside_74
set_option maxHeartbeats 4000000 in
set_option maxRecDepth 100000 in
theorem jc_X11_beside {l : Launch} {D : xD} {ty : xTy} {h : xH} {v0 : Nat} {v1 : Int32} {v2 : Int32} {v3 : Int32} {r : Int32} {h9 : xH} (t_v0 : ty v0 = some (0, 11)) (hF : jf_X11_beside ty h v0 v1 v2 v3 = some (r, h9)) : Met l yX11_beside (xws yX11_beside cX11_beside 5 (some .int)) jr_X11_beside (xPc D ty h [.ref v0, .int v1, .int v2, .int v3]) (xQ D ty (some (.int r)) h9) 0 0 (xdom ty) := by
  refine x_met (by decide) ?_
  intro p e s m below meth c C0 hR
  generalize hargs : ([.ref v0, .int v1, .int v2, .int v3] : List Value).toArray = args at C0 ⊢
  have hx := C0.1
  have hb := C0.2.1
  have hown := C0.2.2.2.2.2.1
  have hts := C0.2.2.2.2.2.2.1
  have hS : xS ty s.heap s.heap [] := xS.rf
  have hl := lv_entry ([.ref v0, .int v1, .int v2, .int v3]) (n := 5) (Nat.le_of_ble_eq_true rfl)
  rw [← hargs, lg_entry_eq]
  rw [hargs]
  generalize (lg_sl ([.ref v0, .int v1, .int v2, .int v3]) ++ List.replicate (5 - (lg_sl ([.ref v0, .int v1, .int v2, .int v3])).length) Slot.unset).toArray = ls at hl ⊢
  have hl : lv_has ls 5 [(0, .ref v0), (1, .int v1), (2, .int v2), (3, .int v3)] := hl
  unfold jf_X11_beside at hF
  refine lv_aload_n hx hb dX11_beside_0 rfl (lv_at hl 0 rfl) ?_
  obtain ⟨a10, e_a10, hF⟩ := xbd hF
  obtain ⟨e_a10, t_a10⟩ := xgo_sp e_a10
  refine gf_X11_20 C0 hR t_v0 e_a10 dX11_beside_1 ?_
  refine lv_iload_n hx hb dX11_beside_4 rfl (lv_at hl 1 rfl) ?_
  obtain ⟨a11, e_a11, hF⟩ := xbd hF
  refine cl_X11_144 C0 hR hS e_a11 t_a10 ⟨(Nat.le_of_ble_eq_true rfl), (Nat.le_of_ble_eq_true rfl)⟩ hl.1 (Nat.le_of_ble_eq_true rfl) ⟨(Nat.le_of_ble_eq_true rfl), (Nat.le_of_ble_eq_true rfl)⟩ dX11_beside_5 (fun H locs hR hS => ?_)
  refine lv_if_eq (tgt := 31) hx hb dX11_beside_8 (by decide) (fun c12 => ?_) (fun c12 => ?_)
  · have hF := xif hF c12
    refine lv_iconst (v := (-1)) hx hb dX11_beside_31 (by decide) ?_
    cases hF
    exact x_iret C0 hR hS dX11_beside_32
  · have hF := xel hF c12
    refine lv_aload_n hx hb dX11_beside_11 rfl (lv_at hl 0 rfl) ?_
    obtain ⟨a13, e_a13, hF⟩ := xbd hF
    obtain ⟨e_a13, t_a13⟩ := xgo_sp e_a13
    refine gf_X11_20 C0 hR t_v0 e_a13 dX11_beside_12 ?_
    refine lv_iload_n hx hb dX11_beside_15 rfl (lv_at hl 2 rfl) ?_
    obtain ⟨a14, e_a14, hF⟩ := xbd hF
    refine cl_X11_144 C0 hR hS e_a14 t_a13 ⟨(Nat.le_of_ble_eq_true rfl), (Nat.le_of_ble_eq_true rfl)⟩ hl.1 (Nat.le_of_ble_eq_true rfl) ⟨(Nat.le_of_ble_eq_true rfl), (Nat.le_of_ble_eq_true rfl)⟩ dX11_beside_16 (fun H locs hR hS => ?_)
    refine lv_if_eq (tgt := 31) hx hb dX11_beside_19 (by decide) (fun c15 => ?_) (fun c15 => ?_)
    · have hF := xif hF c15
      refine lv_iconst (v := (-1)) hx hb dX11_beside_31 (by decide) ?_
      cases hF
      exact x_iret C0 hR hS dX11_beside_32
    · have hF := xel hF c15
      refine lv_iload_n hx hb dX11_beside_22 rfl (lv_at hl 3 rfl) ?_
      refine lv_if_lt (tgt := 31) hx hb dX11_beside_23 (by decide) (fun c16 => ?_) (fun c16 => ?_)
      · have hF := xif hF c16
        refine lv_iconst (v := (-1)) hx hb dX11_beside_31 (by decide) ?_
        cases hF
        exact x_iret C0 hR hS dX11_beside_32
      · have hF := xel hF c16
        refine lv_iload_n hx hb dX11_beside_26 rfl (lv_at hl 3 rfl) ?_
        refine lv_iconst (v := 1) hx hb dX11_beside_27 (by decide) ?_
        refine lv_icmp_le (tgt := 33) hx hb dX11_beside_28 (by decide) (fun c17 => ?_) (fun c17 => ?_)
        · have hF := xif hF c17
          refine lv_iload_n hx hb dX11_beside_33 rfl (lv_at hl 3 rfl) ?_
          refine lv_if_ne (tgt := 41) hx hb dX11_beside_34 (by decide) (fun c18 => ?_) (fun c18 => ?_)
          · have hF := xel hF c18
            refine lv_iconst (v := 2) hx hb dX11_beside_41 (by decide) ?_
            exact jw_X11_beside_42 C0 _ _ _ _ _ t_v0 hF _ _ hR hS _ (lv_sub hl [0, 1, 2] rfl)
          · have hF := xif hF c18
            refine lv_iconst (v := 3) hx hb dX11_beside_37 (by decide) ?_
            refine lv_goto (tgt := 42) hx hb dX11_beside_38 (by decide) ?_
            exact jw_X11_beside_42 C0 _ _ _ _ _ t_v0 hF _ _ hR hS _ (lv_sub hl [0, 1, 2] rfl)
        · have hF := xel hF c17
          refine lv_iconst (v := (-1)) hx hb dX11_beside_31 (by decide) ?_
          cases hF
          exact x_iret C0 hR hS dX11_beside_32
theorem xm_X11_beside : xMw yX11_beside cX11_beside 5 (some .int) 3 := ⟨xin 1027 (by decide +kernel) rfl, xin 114 (by decide +kernel) rfl, by decide +kernel⟩
theorem xi_X11_beside : Cond.instanceMethod yX11_beside ∈ xT := xin 1025 (by decide +kernel) rfl
theorem xe_X11_beside : Cond.selects yX11_beside.cls yX11_beside yX11_beside ∈ xT := xin 1026 (by decide +kernel) rfl
theorem dX11_steps_0 : decode cX11_steps 0 = .ok (.iload_n 1, 1) := by decide +kernel
theorem dX11_steps_1 : decode cX11_steps 1 = .ok (.ifCond .lt 18, 3) := by decide +kernel
theorem dX11_steps_4 : decode cX11_steps 4 = .ok (.iload_n 1, 1) := by decide +kernel
theorem dX11_steps_5 : decode cX11_steps 5 = .ok (.iconst 2, 1) := by decide +kernel
theorem dX11_steps_6 : decode cX11_steps 6 = .ok (.if_icmp .gt 13, 3) := by decide +kernel
theorem dX11_steps_9 : decode cX11_steps 9 = .ok (.aload_n 0, 1) := by decide +kernel
theorem dX11_steps_10 : decode cX11_steps 10 = .ok (.getfield 32, 3) := by decide +kernel
theorem dX11_steps_13 : decode cX11_steps 13 = .ok (.getfield 128, 3) := by decide +kernel
theorem dX11_steps_16 : decode cX11_steps 16 = .ok (.ifCond .ne 5, 3) := by decide +kernel
theorem dX11_steps_19 : decode cX11_steps 19 = .ok (.iconst (-1), 1) := by decide +kernel
theorem dX11_steps_20 : decode cX11_steps 20 = .ok (.ireturn, 1) := by decide +kernel
theorem dX11_steps_21 : decode cX11_steps 21 = .ok (.aload_n 0, 1) := by decide +kernel
theorem dX11_steps_22 : decode cX11_steps 22 = .ok (.getfield 90, 3) := by decide +kernel
theorem dX11_steps_25 : decode cX11_steps 25 = .ok (.aload_n 0, 1) := by decide +kernel
theorem dX11_steps_26 : decode cX11_steps 26 = .ok (.getfield 20, 3) := by decide +kernel
theorem dX11_steps_29 : decode cX11_steps 29 = .ok (.aload_n 0, 1) := by decide +kernel
theorem dX11_steps_30 : decode cX11_steps 30 = .ok (.getfield 55, 3) := by decide +kernel
theorem dX11_steps_33 : decode cX11_steps 33 = .ok (.aload_n 0, 1) := by decide +kernel
theorem dX11_steps_34 : decode cX11_steps 34 = .ok (.getfield 32, 3) := by decide +kernel
theorem dX11_steps_37 : decode cX11_steps 37 = .ok (.invokevirtual 276, 3) := by decide +kernel
theorem dX11_steps_40 : decode cX11_steps 40 = .ok (.iload_n 1, 1) := by decide +kernel
theorem dX11_steps_41 : decode cX11_steps 41 = .ok (.ifCond .ne 11, 3) := by decide +kernel
theorem dX11_steps_44 : decode cX11_steps 44 = .ok (.aload_n 0, 1) := by decide +kernel
theorem dX11_steps_45 : decode cX11_steps 45 = .ok (.getfield 90, 3) := by decide +kernel
theorem dX11_steps_48 : decode cX11_steps 48 = .ok (.getfield 280, 3) := by decide +kernel
theorem dX11_steps_51 : decode cX11_steps 51 = .ok (.ireturn, 1) := by decide +kernel
theorem dX11_steps_52 : decode cX11_steps 52 = .ok (.iload_n 1, 1) := by decide +kernel
theorem dX11_steps_53 : decode cX11_steps 53 = .ok (.iconst 1, 1) := by decide +kernel
theorem dX11_steps_54 : decode cX11_steps 54 = .ok (.if_icmp .ne 16, 3) := by decide +kernel
theorem dX11_steps_57 : decode cX11_steps 57 = .ok (.aload_n 0, 1) := by decide +kernel
theorem dX11_steps_58 : decode cX11_steps 58 = .ok (.getfield 90, 3) := by decide +kernel
theorem dX11_steps_61 : decode cX11_steps 61 = .ok (.getfield 283, 3) := by decide +kernel
theorem dX11_steps_64 : decode cX11_steps 64 = .ok (.getfield 128, 3) := by decide +kernel
theorem dX11_steps_67 : decode cX11_steps 67 = .ok (.goto 10, 3) := by decide +kernel
theorem dX11_steps_70 : decode cX11_steps 70 = .ok (.aload_n 0, 1) := by decide +kernel
theorem dX11_steps_71 : decode cX11_steps 71 = .ok (.getfield 90, 3) := by decide +kernel
theorem dX11_steps_74 : decode cX11_steps 74 = .ok (.getfield 286, 3) := by decide +kernel
theorem dX11_steps_77 : decode cX11_steps 77 = .ok (.ireturn, 1) := by decide +kernel
theorem wl_X11_276 : Cond.methodLink RX11 276 yX5_rewrite ∈ xT := xin 1032 (by decide +kernel) rfl
theorem wf_X11_280 : Cond.fieldLink RX11 280 "TermShelf$Rewriter" "done" "I" ∈ xT := xin 434 (by decide +kernel) rfl
theorem wf_X11_283 : Cond.fieldLink RX11 283 "TermShelf$Rewriter" "now" "LTermShelf$Term;" ∈ xT := xin 432 (by decide +kernel) rfl
theorem wf_X11_286 : Cond.fieldLink RX11 286 "TermShelf$Rewriter" "firstRule" "I" ∈ xT := xin 436 (by decide +kernel) rfl
theorem wf_X11_90 : Cond.fieldLink RX11 90 "TermShelf" "rewriter" "LTermShelf$Rewriter;" ∈ xT := xin 472 (by decide +kernel) rfl
section XN_X11_steps
variable {p : Program} {l : Launch} {e : Env} {R : Room} {s : State} {m : MethodId} {args : Array Value} {below : List Frame} {meth : Method} {c : Code} {H H0 : Heap} {locs : List Loc} {cells slots : Nat} {Q : State → Prop} {cc : ByteArray} {nL pc : Nat} {rt : Option FieldType} {ls : Array Slot} {rest : List Value} {D : xD} {ty : xTy} {h : xH}
theorem cl_X11_276 {v0 : Nat} {v1 : Nat} {v2 : Nat} {v3 : Nat} {h9 : xH} (C0 : xC D RX11 cc nL rt p s m args meth c) (hR : xRep D ty h H) (hS : xS ty H0 H locs) (hF : jf_X5_rewrite ty h v0 v1 v2 v3 = some h9) (t_v0 : ty v0 = some (0, 5)) (t_v1 : ty v1 = some (0, 0)) (t_v2 : ty v2 = some (0, 6)) (t_v3 : ty v3 = some (0, 7)) (hrm : jr_X5_rewrite.frames + 1 ≤ R.frames ∧ 8 + (6 + 11) + jr_X5_rewrite.locals ≤ R.locals) (hsz : ls.size = nL) (hW : (rest.map fun v => v.category).sum ≤ 8) (hf : cells ≤ R.cells ∧ slots ≤ R.slots) (hdg : decode cc pc = .ok (.invokevirtual 276, 3)) (kk : ∀ (H1 : Heap) (locs1 : List Loc), xRep D ty h9 H1 → xS ty H0 H1 locs1 → W p l e R s m args below meth c H1 locs1 cells slots Q (F0 m (pc + 3) ls rest)) : W p l e R s m args below meth c H locs cells slots Q (F0 m pc ls (.ref v3 :: .ref v2 :: .ref v1 :: .ref v0 :: rest)) := x_callV C0 (jc_X5_rewrite t_v0 t_v1 t_v2 t_v3 hF) xm_X5_rewrite xi_X5_rewrite xe_X5_rewrite wl_X11_276 ⟨rfl, rfl, hrm⟩ (ci := 5) rfl t_v0 hR hS (As := [.ref v1, .ref v2, .ref v3]) rfl hsz rfl hW hdg hf kk
theorem gf_X11_280 {a : Nat} (C0 : xC D RX11 cc nL rt p s m args meth c) (hR : xRep D ty h H) (ht : ty a = some (0, 5)) (hdg : decode cc pc = .ok (.getfield 280, 3)) (kk : W p l e R s m args below meth c H locs cells slots Q (F0 m (pc + 3) ls (.int (xI h a 3) :: rest))) : W p l e R s m args below meth c H locs cells slots Q (F0 m pc ls (.ref a :: rest)) := x_get C0 hR (ci := 5) (k := 3) (N := 5) (T := TX5) rfl iX5 (by decide) rfl wf_X11_280 rfl ht hdg kk
theorem gf_X11_283 {a : Nat} (C0 : xC D RX11 cc nL rt p s m args meth c) (hR : xRep D ty h H) (ht : ty a = some (0, 5)) {v : Nat} (hv : xR h a 2 = some v) (hdg : decode cc pc = .ok (.getfield 283, 3)) (kk : W p l e R s m args below meth c H locs cells slots Q (F0 m (pc + 3) ls (.ref v :: rest))) : W p l e R s m args below meth c H locs cells slots Q (F0 m pc ls (.ref a :: rest)) := x_get C0 hR (ci := 5) (k := 2) (N := 5) (T := TX5) rfl iX5 (by decide) rfl wf_X11_283 (by show va_rf (xR h a 2) = _; rw [hv]; rfl) ht hdg kk
theorem gf_X11_286 {a : Nat} (C0 : xC D RX11 cc nL rt p s m args meth c) (hR : xRep D ty h H) (ht : ty a = some (0, 5)) (hdg : decode cc pc = .ok (.getfield 286, 3)) (kk : W p l e R s m args below meth c H locs cells slots Q (F0 m (pc + 3) ls (.int (xI h a 4) :: rest))) : W p l e R s m args below meth c H locs cells slots Q (F0 m pc ls (.ref a :: rest)) := x_get C0 hR (ci := 5) (k := 4) (N := 5) (T := TX5) rfl iX5 (by decide) rfl wf_X11_286 rfl ht hdg kk
theorem gf_X11_90 {a : Nat} (C0 : xC D RX11 cc nL rt p s m args meth c) (hR : xRep D ty h H) (ht : ty a = some (0, 11)) {v : Nat} (hv : xR h a 14 = some v) (hdg : decode cc pc = .ok (.getfield 90, 3)) (kk : W p l e R s m args below meth c H locs cells slots Q (F0 m (pc + 3) ls (.ref v :: rest))) : W p l e R s m args below meth c H locs cells slots Q (F0 m pc ls (.ref a :: rest)) := x_get C0 hR (ci := 11) (k := 14) (N := 16) (T := TX11) rfl iX11 (by decide) rfl wf_X11_90 (by show va_rf (xR h a 14) = _; rw [hv]; rfl) ht hdg kk
end XN_X11_steps
set_option maxHeartbeats 4000000 in
set_option maxRecDepth 100000 in
theorem jc_X11_steps {l : Launch} {D : xD} {ty : xTy} {h : xH} {v0 : Nat} {v1 : Int32} {r : Int32} {h9 : xH} (t_v0 : ty v0 = some (0, 11)) (hF : jf_X11_steps ty h v0 v1 = some (r, h9)) : Met l yX11_steps (xws yX11_steps cX11_steps 2 (some .int)) jr_X11_steps (xPc D ty h [.ref v0, .int v1]) (xQ D ty (some (.int r)) h9) 0 0 (xdom ty) := by
  refine x_met (by decide) ?_
  intro p e s m below meth c C0 hR
  generalize hargs : ([.ref v0, .int v1] : List Value).toArray = args at C0 ⊢
  have hx := C0.1
  have hb := C0.2.1
  have hown := C0.2.2.2.2.2.1
  have hts := C0.2.2.2.2.2.2.1
  have hS : xS ty s.heap s.heap [] := xS.rf
  have hl := lv_entry ([.ref v0, .int v1]) (n := 2) (Nat.le_of_ble_eq_true rfl)
  rw [← hargs, lg_entry_eq]
  rw [hargs]
  generalize (lg_sl ([.ref v0, .int v1]) ++ List.replicate (2 - (lg_sl ([.ref v0, .int v1])).length) Slot.unset).toArray = ls at hl ⊢
  have hl : lv_has ls 2 [(0, .ref v0), (1, .int v1)] := hl
  unfold jf_X11_steps at hF
  refine lv_iload_n hx hb dX11_steps_0 rfl (lv_at hl 1 rfl) ?_
  refine lv_if_lt (tgt := 19) hx hb dX11_steps_1 (by decide) (fun c1 => ?_) (fun c1 => ?_)
  · have hF := xif hF c1
    refine lv_iconst (v := (-1)) hx hb dX11_steps_19 (by decide) ?_
    cases hF
    exact x_iret C0 hR hS dX11_steps_20
  · have hF := xel hF c1
    refine lv_iload_n hx hb dX11_steps_4 rfl (lv_at hl 1 rfl) ?_
    refine lv_iconst (v := 2) hx hb dX11_steps_5 (by decide) ?_
    refine lv_icmp_gt (tgt := 19) hx hb dX11_steps_6 (by decide) (fun c2 => ?_) (fun c2 => ?_)
    · have hF := xif hF c2
      refine lv_iconst (v := (-1)) hx hb dX11_steps_19 (by decide) ?_
      cases hF
      exact x_iret C0 hR hS dX11_steps_20
    · have hF := xel hF c2
      refine lv_aload_n hx hb dX11_steps_9 rfl (lv_at hl 0 rfl) ?_
      obtain ⟨a3, e_a3, hF⟩ := xbd hF
      obtain ⟨e_a3, t_a3⟩ := xgo_sp e_a3
      refine gf_X11_32 C0 hR t_v0 e_a3 dX11_steps_10 ?_
      refine gf_X11_128 C0 hR t_a3 dX11_steps_13 ?_
      refine lv_if_ne (tgt := 21) hx hb dX11_steps_16 (by decide) (fun c4 => ?_) (fun c4 => ?_)
      · have hF := xel hF c4
        refine lv_aload_n hx hb dX11_steps_21 rfl (lv_at hl 0 rfl) ?_
        obtain ⟨a5, e_a5, hF⟩ := xbd hF
        obtain ⟨e_a5, t_a5⟩ := xgo_sp e_a5
        refine gf_X11_90 C0 hR t_v0 e_a5 dX11_steps_22 ?_
        refine lv_aload_n hx hb dX11_steps_25 rfl (lv_at hl 0 rfl) ?_
        obtain ⟨a6, e_a6, hF⟩ := xbd hF
        obtain ⟨e_a6, t_a6⟩ := xgo_sp e_a6
        refine gf_X11_20 C0 hR t_v0 e_a6 dX11_steps_26 ?_
        refine lv_aload_n hx hb dX11_steps_29 rfl (lv_at hl 0 rfl) ?_
        obtain ⟨a7, e_a7, hF⟩ := xbd hF
        obtain ⟨e_a7, t_a7⟩ := xgo_sp e_a7
        refine gf_X11_55 C0 hR t_v0 e_a7 dX11_steps_30 ?_
        refine lv_aload_n hx hb dX11_steps_33 rfl (lv_at hl 0 rfl) ?_
        obtain ⟨a8, e_a8, hF⟩ := xbd hF
        obtain ⟨e_a8, t_a8⟩ := xgo_sp e_a8
        refine gf_X11_32 C0 hR t_v0 e_a8 dX11_steps_34 ?_
        obtain ⟨h9, e_h9, hF⟩ := xbd hF
        refine cl_X11_276 C0 hR hS e_h9 t_a5 t_a6 t_a7 t_a8 ⟨(Nat.le_of_ble_eq_true rfl), (Nat.le_of_ble_eq_true rfl)⟩ hl.1 (Nat.le_of_ble_eq_true rfl) ⟨(Nat.le_of_ble_eq_true rfl), (Nat.le_of_ble_eq_true rfl)⟩ dX11_steps_37 (fun H locs hR hS => ?_)
        refine lv_iload_n hx hb dX11_steps_40 rfl (lv_at hl 1 rfl) ?_
        refine lv_if_ne (tgt := 52) hx hb dX11_steps_41 (by decide) (fun c10 => ?_) (fun c10 => ?_)
        · have hF := xel hF c10
          refine lv_iload_n hx hb dX11_steps_52 rfl (lv_at hl 1 rfl) ?_
          refine lv_iconst (v := 1) hx hb dX11_steps_53 (by decide) ?_
          refine lv_icmp_ne (tgt := 70) hx hb dX11_steps_54 (by decide) (fun c11 => ?_) (fun c11 => ?_)
          · have hF := xel hF c11
            refine lv_aload_n hx hb dX11_steps_70 rfl (lv_at hl 0 rfl) ?_
            obtain ⟨a12, e_a12, hF⟩ := xbd hF
            obtain ⟨e_a12, t_a12⟩ := xgo_sp e_a12
            refine gf_X11_90 C0 hR t_v0 e_a12 dX11_steps_71 ?_
            refine gf_X11_286 C0 hR t_a12 dX11_steps_74 ?_
            cases hF
            exact x_iret C0 hR hS dX11_steps_77
          · have hF := xif hF c11
            refine lv_aload_n hx hb dX11_steps_57 rfl (lv_at hl 0 rfl) ?_
            obtain ⟨a13, e_a13, hF⟩ := xbd hF
            obtain ⟨e_a13, t_a13⟩ := xgo_sp e_a13
            refine gf_X11_90 C0 hR t_v0 e_a13 dX11_steps_58 ?_
            obtain ⟨a14, e_a14, hF⟩ := xbd hF
            obtain ⟨e_a14, t_a14⟩ := xgo_sp e_a14
            refine gf_X11_283 C0 hR t_a13 e_a14 dX11_steps_61 ?_
            refine gf_X11_128 C0 hR t_a14 dX11_steps_64 ?_
            refine lv_goto (tgt := 77) hx hb dX11_steps_67 (by decide) ?_
            cases hF
            exact x_iret C0 hR hS dX11_steps_77
        · have hF := xif hF c10
          refine lv_aload_n hx hb dX11_steps_44 rfl (lv_at hl 0 rfl) ?_
          obtain ⟨a15, e_a15, hF⟩ := xbd hF
          obtain ⟨e_a15, t_a15⟩ := xgo_sp e_a15
          refine gf_X11_90 C0 hR t_v0 e_a15 dX11_steps_45 ?_
          refine gf_X11_280 C0 hR t_a15 dX11_steps_48 ?_
          cases hF
          exact x_iret C0 hR hS dX11_steps_51
      · have hF := xif hF c4
        refine lv_iconst (v := (-1)) hx hb dX11_steps_19 (by decide) ?_
        cases hF
        exact x_iret C0 hR hS dX11_steps_20
theorem xm_X11_steps : xMw yX11_steps cX11_steps 2 (some .int) 1 := ⟨xin 1031 (by decide +kernel) rfl, xin 114 (by decide +kernel) rfl, by decide +kernel⟩
theorem xi_X11_steps : Cond.instanceMethod yX11_steps ∈ xT := xin 1029 (by decide +kernel) rfl
theorem xe_X11_steps : Cond.selects yX11_steps.cls yX11_steps yX11_steps ∈ xT := xin 1030 (by decide +kernel) rfl

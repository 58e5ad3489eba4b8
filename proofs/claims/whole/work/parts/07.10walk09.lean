theorem dX12_putsQuery_0 : decode cX12_putsQuery 0 = .ok (.aload_n 0, 1) := by decide +kernel
theorem dX12_putsQuery_1 : decode cX12_putsQuery 1 = .ok (.aload_n 0, 1) := by decide +kernel
theorem dX12_putsQuery_2 : decode cX12_putsQuery 2 = .ok (.getfield 44, 3) := by decide +kernel
theorem dX12_putsQuery_5 : decode cX12_putsQuery 5 = .ok (.iconst 0, 1) := by decide +kernel
theorem dX12_putsQuery_6 : decode cX12_putsQuery 6 = .ok (.aload_n 0, 1) := by decide +kernel
theorem dX12_putsQuery_7 : decode cX12_putsQuery 7 = .ok (.getfield 188, 3) := by decide +kernel
theorem dX12_putsQuery_10 : decode cX12_putsQuery 10 = .ok (.aload_n 0, 1) := by decide +kernel
theorem dX12_putsQuery_11 : decode cX12_putsQuery 11 = .ok (.getfield 260, 3) := by decide +kernel
theorem dX12_putsQuery_14 : decode cX12_putsQuery 14 = .ok (.iconst 1, 1) := by decide +kernel
theorem dX12_putsQuery_15 : decode cX12_putsQuery 15 = .ok (.if_icmp .ne 8, 3) := by decide +kernel
theorem dX12_putsQuery_18 : decode cX12_putsQuery 18 = .ok (.bipush 28, 2) := by decide +kernel
theorem dX12_putsQuery_20 : decode cX12_putsQuery 20 = .ok (.goto 16, 3) := by decide +kernel
theorem dX12_putsQuery_23 : decode cX12_putsQuery 23 = .ok (.aload_n 0, 1) := by decide +kernel
theorem dX12_putsQuery_24 : decode cX12_putsQuery 24 = .ok (.getfield 260, 3) := by decide +kernel
theorem dX12_putsQuery_27 : decode cX12_putsQuery 27 = .ok (.iconst 3, 1) := by decide +kernel
theorem dX12_putsQuery_28 : decode cX12_putsQuery 28 = .ok (.if_icmp .ne 7, 3) := by decide +kernel
theorem dX12_putsQuery_31 : decode cX12_putsQuery 31 = .ok (.iconst (-1), 1) := by decide +kernel
theorem dX12_putsQuery_32 : decode cX12_putsQuery 32 = .ok (.goto 4, 3) := by decide +kernel
theorem dX12_putsQuery_35 : decode cX12_putsQuery 35 = .ok (.iconst 0, 1) := by decide +kernel
theorem dX12_putsQuery_36 : decode cX12_putsQuery 36 = .ok (.invokevirtual 238, 3) := by decide +kernel
theorem dX12_putsQuery_39 : decode cX12_putsQuery 39 = .ok (.ireturn, 1) := by decide +kernel
theorem wf_X12_260 : Cond.fieldLink RX12 260 "TermShelfModel" "triedNow" "I" ∈ xT := xin 1353 (by decide +kernel) rfl
section XN_X12_putsQuery
variable {p : Program} {l : Launch} {e : Env} {R : Room} {s : State} {m : MethodId} {args : Array Value} {below : List Frame} {meth : Method} {c : Code} {H H0 : Heap} {locs : List Loc} {cells slots : Nat} {Q : State → Prop} {cc : ByteArray} {nL pc : Nat} {rt : Option FieldType} {ls : Array Slot} {rest : List Value} {D : xD} {ty : xTy} {h : xH}
theorem gf_X12_260 {a : Nat} (C0 : xC D RX12 cc nL rt p s m args meth c) (hR : xRep D ty h H) (ht : ty a = some (0, 12)) (hdg : decode cc pc = .ok (.getfield 260, 3)) (kk : W p l e R s m args below meth c H locs cells slots Q (F0 m (pc + 3) ls (.int (xI h a 41) :: rest))) : W p l e R s m args below meth c H locs cells slots Q (F0 m pc ls (.ref a :: rest)) := x_get C0 hR (ci := 12) (k := 41) (N := 60) (T := TX12) rfl iX12 (by decide) rfl wf_X12_260 rfl ht hdg kk
end XN_X12_putsQuery
set_option maxHeartbeats 4000000 in
set_option maxRecDepth 100000 in
theorem jc_X12_putsQuery {l : Launch} {D : xD} {ty : xTy} {h : xH} {v0 : Nat} {r : Int32} {h9 : xH} (t_v0 : ty v0 = some (0, 12)) (hF : jf_X12_putsQuery ty h v0 = some (r, h9)) : Met l yX12_putsQuery (xws yX12_putsQuery cX12_putsQuery 1 (some .int)) jr_X12_putsQuery (xPc D ty h [.ref v0]) (xQ D ty (some (.int r)) h9) 0 0 (xdom ty) := by
  refine x_met (by decide) ?_
  intro p e s m below meth c C0 hR
  generalize hargs : ([.ref v0] : List Value).toArray = args at C0 ⊢
  have hx := C0.1
  have hb := C0.2.1
  have hown := C0.2.2.2.2.2.1
  have hts := C0.2.2.2.2.2.2.1
  have hS : xS ty s.heap s.heap [] := xS.rf
  have hl := lv_entry ([.ref v0]) (n := 1) (Nat.le_of_ble_eq_true rfl)
  rw [← hargs, lg_entry_eq]
  rw [hargs]
  generalize (lg_sl ([.ref v0]) ++ List.replicate (1 - (lg_sl ([.ref v0])).length) Slot.unset).toArray = ls at hl ⊢
  have hl : lv_has ls 1 [(0, .ref v0)] := hl
  unfold jf_X12_putsQuery at hF
  refine lv_aload_n hx hb dX12_putsQuery_0 rfl (lv_at hl 0 rfl) ?_
  refine lv_aload_n hx hb dX12_putsQuery_1 rfl (lv_at hl 0 rfl) ?_
  obtain ⟨a1, e_a1, hF⟩ := xbd hF
  refine gf_X12_44 C0 hR t_v0 e_a1 dX12_putsQuery_2 ?_
  refine lv_iconst (v := 0) hx hb dX12_putsQuery_5 (by decide) ?_
  refine lv_aload_n hx hb dX12_putsQuery_6 rfl (lv_at hl 0 rfl) ?_
  refine gf_X12_188 C0 hR t_v0 dX12_putsQuery_7 ?_
  refine lv_aload_n hx hb dX12_putsQuery_10 rfl (lv_at hl 0 rfl) ?_
  refine gf_X12_260 C0 hR t_v0 dX12_putsQuery_11 ?_
  refine lv_iconst (v := 1) hx hb dX12_putsQuery_14 (by decide) ?_
  refine lv_icmp_ne (tgt := 23) hx hb dX12_putsQuery_15 (by decide) (fun c2 => ?_) (fun c2 => ?_)
  · have hF := xel hF c2
    refine lv_aload_n hx hb dX12_putsQuery_23 rfl (lv_at hl 0 rfl) ?_
    refine gf_X12_260 C0 hR t_v0 dX12_putsQuery_24 ?_
    refine lv_iconst (v := 3) hx hb dX12_putsQuery_27 (by decide) ?_
    refine lv_icmp_ne (tgt := 35) hx hb dX12_putsQuery_28 (by decide) (fun c3 => ?_) (fun c3 => ?_)
    · have hF := xel hF c3
      refine lv_iconst (v := 0) hx hb dX12_putsQuery_35 (by decide) ?_
      obtain ⟨a5, h4, e_h4, hF⟩ := xbd2 hF
      refine cl_X12_238 C0 hR hS e_h4 t_v0 ⟨(Nat.le_of_ble_eq_true rfl), (Nat.le_of_ble_eq_true rfl)⟩ hl.1 (Nat.le_of_ble_eq_true rfl) ⟨(Nat.le_of_ble_eq_true rfl), (Nat.le_of_ble_eq_true rfl)⟩ dX12_putsQuery_36 (fun H locs hR hS => ?_)
      cases hF
      exact x_iret C0 hR hS dX12_putsQuery_39
    · have hF := xif hF c3
      refine lv_iconst (v := (-1)) hx hb dX12_putsQuery_31 (by decide) ?_
      refine lv_goto (tgt := 36) hx hb dX12_putsQuery_32 (by decide) ?_
      obtain ⟨a7, h6, e_h6, hF⟩ := xbd2 hF
      refine cl_X12_238 C0 hR hS e_h6 t_v0 ⟨(Nat.le_of_ble_eq_true rfl), (Nat.le_of_ble_eq_true rfl)⟩ hl.1 (Nat.le_of_ble_eq_true rfl) ⟨(Nat.le_of_ble_eq_true rfl), (Nat.le_of_ble_eq_true rfl)⟩ dX12_putsQuery_36 (fun H locs hR hS => ?_)
      cases hF
      exact x_iret C0 hR hS dX12_putsQuery_39
  · have hF := xif hF c2
    refine lv_bipush (v := 28) hx hb dX12_putsQuery_18 (by decide) ?_
    refine lv_goto (tgt := 36) hx hb dX12_putsQuery_20 (by decide) ?_
    obtain ⟨a9, h8, e_h8, hF⟩ := xbd2 hF
    refine cl_X12_238 C0 hR hS e_h8 t_v0 ⟨(Nat.le_of_ble_eq_true rfl), (Nat.le_of_ble_eq_true rfl)⟩ hl.1 (Nat.le_of_ble_eq_true rfl) ⟨(Nat.le_of_ble_eq_true rfl), (Nat.le_of_ble_eq_true rfl)⟩ dX12_putsQuery_36 (fun H locs hR hS => ?_)
    cases hF
    exact x_iret C0 hR hS dX12_putsQuery_39
theorem xm_X12_putsQuery : xMw yX12_putsQuery cX12_putsQuery 1 (some .int) 0 := ⟨xin 1618 (by decide +kernel) rfl, xin 126 (by decide +kernel) rfl, by decide +kernel⟩
theorem xi_X12_putsQuery : Cond.instanceMethod yX12_putsQuery ∈ xT := xin 1617 (by decide +kernel) rfl
theorem xe_X12_putsQuery : Cond.selects yX12_putsQuery.cls yX12_putsQuery yX12_putsQuery ∈ xT := xin 75 (by decide +kernel) rfl
theorem dX12_isFit_0 : decode cX12_isFit 0 = .ok (.aload_n 0, 1) := by decide +kernel
theorem dX12_isFit_1 : decode cX12_isFit 1 = .ok (.invokevirtual 263, 3) := by decide +kernel
theorem dX12_isFit_4 : decode cX12_isFit 4 = .ok (.aload_n 0, 1) := by decide +kernel
theorem dX12_isFit_5 : decode cX12_isFit 5 = .ok (.invokevirtual 266, 3) := by decide +kernel
theorem dX12_isFit_8 : decode cX12_isFit 8 = .ok (.istore_n 3, 1) := by decide +kernel
theorem dX12_isFit_9 : decode cX12_isFit 9 = .ok (.aload_n 0, 1) := by decide +kernel
theorem dX12_isFit_10 : decode cX12_isFit 10 = .ok (.iload_n 2, 1) := by decide +kernel
theorem dX12_isFit_11 : decode cX12_isFit 11 = .ok (.aload_n 0, 1) := by decide +kernel
theorem dX12_isFit_12 : decode cX12_isFit 12 = .ok (.getfield 260, 3) := by decide +kernel
theorem dX12_isFit_15 : decode cX12_isFit 15 = .ok (.iconst 1, 1) := by decide +kernel
theorem dX12_isFit_16 : decode cX12_isFit 16 = .ok (.if_icmp .eq 11, 3) := by decide +kernel
theorem dX12_isFit_19 : decode cX12_isFit 19 = .ok (.aload_n 0, 1) := by decide +kernel
theorem dX12_isFit_20 : decode cX12_isFit 20 = .ok (.getfield 260, 3) := by decide +kernel
theorem dX12_isFit_23 : decode cX12_isFit 23 = .ok (.iconst 2, 1) := by decide +kernel
theorem dX12_isFit_24 : decode cX12_isFit 24 = .ok (.if_icmp .ne 8, 3) := by decide +kernel
theorem dX12_isFit_27 : decode cX12_isFit 27 = .ok (.bipush 16, 2) := by decide +kernel
theorem dX12_isFit_29 : decode cX12_isFit 29 = .ok (.goto 4, 3) := by decide +kernel
theorem dX12_isFit_32 : decode cX12_isFit 32 = .ok (.iconst 4, 1) := by decide +kernel
theorem dX12_isFit_33 : decode cX12_isFit 33 = .ok (.invokevirtual 270, 3) := by decide +kernel
theorem dX12_isFit_36 : decode cX12_isFit 36 = .ok (.istore 4, 2) := by decide +kernel
theorem dX12_isFit_38 : decode cX12_isFit 38 = .ok (.iload_n 1, 1) := by decide +kernel
theorem dX12_isFit_39 : decode cX12_isFit 39 = .ok (.ifCond .ne 13, 3) := by decide +kernel
theorem dX12_isFit_42 : decode cX12_isFit 42 = .ok (.aload_n 0, 1) := by decide +kernel
theorem dX12_isFit_43 : decode cX12_isFit 43 = .ok (.iload 4, 2) := by decide +kernel
theorem dX12_isFit_45 : decode cX12_isFit 45 = .ok (.iload_n 3, 1) := by decide +kernel
theorem dX12_isFit_46 : decode cX12_isFit 46 = .ok (.invokevirtual 273, 3) := by decide +kernel
theorem dX12_isFit_49 : decode cX12_isFit 49 = .ok (.goto 25, 3) := by decide +kernel
theorem dX12_isFit_52 : decode cX12_isFit 52 = .ok (.iload_n 1, 1) := by decide +kernel
theorem dX12_isFit_53 : decode cX12_isFit 53 = .ok (.iconst 1, 1) := by decide +kernel
theorem dX12_isFit_54 : decode cX12_isFit 54 = .ok (.if_icmp .ne 13, 3) := by decide +kernel
theorem dX12_isFit_57 : decode cX12_isFit 57 = .ok (.aload_n 0, 1) := by decide +kernel
theorem dX12_isFit_58 : decode cX12_isFit 58 = .ok (.iload_n 3, 1) := by decide +kernel
theorem dX12_isFit_59 : decode cX12_isFit 59 = .ok (.iload 4, 2) := by decide +kernel
theorem dX12_isFit_61 : decode cX12_isFit 61 = .ok (.invokevirtual 273, 3) := by decide +kernel
theorem dX12_isFit_64 : decode cX12_isFit 64 = .ok (.goto 10, 3) := by decide +kernel
theorem dX12_isFit_67 : decode cX12_isFit 67 = .ok (.aload_n 0, 1) := by decide +kernel
theorem dX12_isFit_68 : decode cX12_isFit 68 = .ok (.iload_n 3, 1) := by decide +kernel
theorem dX12_isFit_69 : decode cX12_isFit 69 = .ok (.iload 4, 2) := by decide +kernel
theorem dX12_isFit_71 : decode cX12_isFit 71 = .ok (.invokevirtual 276, 3) := by decide +kernel
theorem dX12_isFit_74 : decode cX12_isFit 74 = .ok (.ireturn, 1) := by decide +kernel
theorem wl_X12_263 : Cond.methodLink RX12 263 yX12_clears ∈ xT := xin 1611 (by decide +kernel) rfl
theorem wl_X12_266 : Cond.methodLink RX12 266 yX12_putsQuery ∈ xT := xin 1615 (by decide +kernel) rfl
theorem wl_X12_270 : Cond.methodLink RX12 270 yX12_putsRule ∈ xT := xin 1623 (by decide +kernel) rfl
theorem wl_X12_273 : Cond.methodLink RX12 273 yX12_isMade ∈ xT := xin 1627 (by decide +kernel) rfl
theorem wl_X12_276 : Cond.methodLink RX12 276 yX12_isUnified ∈ xT := xin 1642 (by decide +kernel) rfl
section XN_X12_isFit
variable {p : Program} {l : Launch} {e : Env} {R : Room} {s : State} {m : MethodId} {args : Array Value} {below : List Frame} {meth : Method} {c : Code} {H H0 : Heap} {locs : List Loc} {cells slots : Nat} {Q : State → Prop} {cc : ByteArray} {nL pc : Nat} {rt : Option FieldType} {ls : Array Slot} {rest : List Value} {D : xD} {ty : xTy} {h : xH}
theorem cl_X12_263 {v0 : Nat} {h9 : xH} (C0 : xC D RX12 cc nL rt p s m args meth c) (hR : xRep D ty h H) (hS : xS ty H0 H locs) (hF : jf_X12_clears ty h v0 = some h9) (t_v0 : ty v0 = some (0, 12)) (hrm : jr_X12_clears.frames + 1 ≤ R.frames ∧ 8 + (2 + 11) + jr_X12_clears.locals ≤ R.locals) (hsz : ls.size = nL) (hW : (rest.map fun v => v.category).sum ≤ 8) (hf : cells ≤ R.cells ∧ slots ≤ R.slots) (hdg : decode cc pc = .ok (.invokevirtual 263, 3)) (kk : ∀ (H1 : Heap) (locs1 : List Loc), xRep D ty h9 H1 → xS ty H0 H1 locs1 → W p l e R s m args below meth c H1 locs1 cells slots Q (F0 m (pc + 3) ls rest)) : W p l e R s m args below meth c H locs cells slots Q (F0 m pc ls (.ref v0 :: rest)) := x_callV C0 (jc_X12_clears t_v0 hF) xm_X12_clears xi_X12_clears xe_X12_clears wl_X12_263 ⟨rfl, rfl, hrm⟩ (ci := 12) rfl t_v0 hR hS (As := []) rfl hsz rfl hW hdg hf kk
theorem cl_X12_266 {v0 : Nat} {r : Int32} {h9 : xH} (C0 : xC D RX12 cc nL rt p s m args meth c) (hR : xRep D ty h H) (hS : xS ty H0 H locs) (hF : jf_X12_putsQuery ty h v0 = some (r, h9)) (t_v0 : ty v0 = some (0, 12)) (hrm : jr_X12_putsQuery.frames + 1 ≤ R.frames ∧ 8 + (1 + 11) + jr_X12_putsQuery.locals ≤ R.locals) (hsz : ls.size = nL) (hW : (rest.map fun v => v.category).sum ≤ 8) (hf : cells ≤ R.cells ∧ slots ≤ R.slots) (hdg : decode cc pc = .ok (.invokevirtual 266, 3)) (kk : ∀ (H1 : Heap) (locs1 : List Loc), xRep D ty h9 H1 → xS ty H0 H1 locs1 → W p l e R s m args below meth c H1 locs1 cells slots Q (F0 m (pc + 3) ls (.int r :: rest))) : W p l e R s m args below meth c H locs cells slots Q (F0 m pc ls (.ref v0 :: rest)) := x_callV C0 (jc_X12_putsQuery t_v0 hF) xm_X12_putsQuery xi_X12_putsQuery xe_X12_putsQuery wl_X12_266 ⟨rfl, rfl, hrm⟩ (ci := 12) rfl t_v0 hR hS (As := []) rfl hsz rfl hW hdg hf kk
theorem cl_X12_270 {v0 : Nat} {v1 : Int32} {v2 : Int32} {r : Int32} {h9 : xH} (C0 : xC D RX12 cc nL rt p s m args meth c) (hR : xRep D ty h H) (hS : xS ty H0 H locs) (hF : jf_X12_putsRule ty h v0 v1 v2 = some (r, h9)) (t_v0 : ty v0 = some (0, 12)) (hrm : jr_X12_putsRule.frames + 1 ≤ R.frames ∧ 8 + (3 + 11) + jr_X12_putsRule.locals ≤ R.locals) (hsz : ls.size = nL) (hW : (rest.map fun v => v.category).sum ≤ 8) (hf : cells ≤ R.cells ∧ slots ≤ R.slots) (hdg : decode cc pc = .ok (.invokevirtual 270, 3)) (kk : ∀ (H1 : Heap) (locs1 : List Loc), xRep D ty h9 H1 → xS ty H0 H1 locs1 → W p l e R s m args below meth c H1 locs1 cells slots Q (F0 m (pc + 3) ls (.int r :: rest))) : W p l e R s m args below meth c H locs cells slots Q (F0 m pc ls (.int v2 :: .int v1 :: .ref v0 :: rest)) := x_callV C0 (jc_X12_putsRule t_v0 hF) xm_X12_putsRule xi_X12_putsRule xe_X12_putsRule wl_X12_270 ⟨rfl, rfl, hrm⟩ (ci := 12) rfl t_v0 hR hS (As := [.int v1, .int v2]) rfl hsz rfl hW hdg hf kk
theorem cl_X12_273 {v0 : Nat} {v1 : Int32} {v2 : Int32} {r : Int32} {h9 : xH} (C0 : xC D RX12 cc nL rt p s m args meth c) (hR : xRep D ty h H) (hS : xS ty H0 H locs) (hF : jf_X12_isMade ty h v0 v1 v2 = some (r, h9)) (t_v0 : ty v0 = some (0, 12)) (hrm : jr_X12_isMade.frames + 1 ≤ R.frames ∧ 8 + (7 + 11) + jr_X12_isMade.locals ≤ R.locals) (hsz : ls.size = nL) (hW : (rest.map fun v => v.category).sum ≤ 8) (hf : cells ≤ R.cells ∧ slots ≤ R.slots) (hdg : decode cc pc = .ok (.invokevirtual 273, 3)) (kk : ∀ (H1 : Heap) (locs1 : List Loc), xRep D ty h9 H1 → xS ty H0 H1 locs1 → W p l e R s m args below meth c H1 locs1 cells slots Q (F0 m (pc + 3) ls (.int r :: rest))) : W p l e R s m args below meth c H locs cells slots Q (F0 m pc ls (.int v2 :: .int v1 :: .ref v0 :: rest)) := x_callV C0 (jc_X12_isMade t_v0 hF) xm_X12_isMade xi_X12_isMade xe_X12_isMade wl_X12_273 ⟨rfl, rfl, hrm⟩ (ci := 12) rfl t_v0 hR hS (As := [.int v1, .int v2]) rfl hsz rfl hW hdg hf kk
theorem cl_X12_276 {v0 : Nat} {v1 : Int32} {v2 : Int32} {r : Int32} {h9 : xH} (C0 : xC D RX12 cc nL rt p s m args meth c) (hR : xRep D ty h H) (hS : xS ty H0 H locs) (hF : jf_X12_isUnified ty h v0 v1 v2 = some (r, h9)) (t_v0 : ty v0 = some (0, 12)) (hrm : jr_X12_isUnified.frames + 1 ≤ R.frames ∧ 8 + (9 + 11) + jr_X12_isUnified.locals ≤ R.locals) (hsz : ls.size = nL) (hW : (rest.map fun v => v.category).sum ≤ 8) (hf : cells ≤ R.cells ∧ slots ≤ R.slots) (hdg : decode cc pc = .ok (.invokevirtual 276, 3)) (kk : ∀ (H1 : Heap) (locs1 : List Loc), xRep D ty h9 H1 → xS ty H0 H1 locs1 → W p l e R s m args below meth c H1 locs1 cells slots Q (F0 m (pc + 3) ls (.int r :: rest))) : W p l e R s m args below meth c H locs cells slots Q (F0 m pc ls (.int v2 :: .int v1 :: .ref v0 :: rest)) := x_callV C0 (jc_X12_isUnified t_v0 hF) xm_X12_isUnified xi_X12_isUnified xe_X12_isUnified wl_X12_276 ⟨rfl, rfl, hrm⟩ (ci := 12) rfl t_v0 hR hS (As := [.int v1, .int v2]) rfl hsz rfl hW hdg hf kk
end XN_X12_isFit
set_option maxHeartbeats 4000000 in
set_option maxRecDepth 100000 in
theorem jw_X12_isFit_33 {p : Program} {l : Launch} {e : Env} {s : State} {m : MethodId} {args : Array Value} {below : List Frame} {meth : Method} {c : Code} {D : xD} {ty : xTy} (C0 : xC D RX12 cX12_isFit 5 (some .boolean) p s m args meth c) {r : Int32} {h9 : xH} : ∀ (v0 : Nat) (v1 : Int32) (v3 : Int32) (s0 : Nat) (s1 : Int32) (s2 : Int32) (h : xH), ty v0 = some (0, 12) → ty s0 = some (0, 12) → jf_X12_isFit_33 ty v0 v1 v3 s0 s1 s2 h = some (r, h9) → ∀ (H : Heap) (locs : List Loc), xRep D ty h H → xS ty s.heap H locs → ∀ ls : Array Slot, lv_has ls 5 [(0, .ref v0), (1, .int v1), (3, .int v3)] → W p l e jr_X12_isFit s m args below meth c H locs 0 0 (MQ below (xQ D ty (some (.int r)) h9) args s 0 0 (xdom ty)) (F0 m 33 ls [.int s2, .int s1, .ref s0]) := by
  have hx := C0.1
  have hb := C0.2.1
  have hown := C0.2.2.2.2.2.1
  have hts := C0.2.2.2.2.2.2.1
  intro v0 v1 v3 s0 s1 s2 h t_v0 t_s0 hF H locs hR hS ls hl
  unfold jf_X12_isFit_33 at hF
  obtain ⟨a2, h1, e_h1, hF⟩ := xbd2 hF
  refine cl_X12_270 C0 hR hS e_h1 t_s0 ⟨(Nat.le_of_ble_eq_true rfl), (Nat.le_of_ble_eq_true rfl)⟩ hl.1 (Nat.le_of_ble_eq_true rfl) ⟨(Nat.le_of_ble_eq_true rfl), (Nat.le_of_ble_eq_true rfl)⟩ dX12_isFit_33 (fun H locs hR hS => ?_)
  refine lv_istore (lv' := [(4, .int a2), (0, .ref v0), (1, .int v1), (3, .int v3)]) hx hb dX12_isFit_36 hl (by decide) rfl (fun ls hl => ?_)
  refine lv_iload_n hx hb dX12_isFit_38 rfl (lv_at hl 2 rfl) ?_
  refine lv_if_ne (tgt := 52) hx hb dX12_isFit_39 (by decide) (fun c3 => ?_) (fun c3 => ?_)
  · have hF := xel hF c3
    refine lv_iload_n hx hb dX12_isFit_52 rfl (lv_at hl 2 rfl) ?_
    refine lv_iconst (v := 1) hx hb dX12_isFit_53 (by decide) ?_
    refine lv_icmp_ne (tgt := 67) hx hb dX12_isFit_54 (by decide) (fun c4 => ?_) (fun c4 => ?_)
    · have hF := xel hF c4
      refine lv_aload_n hx hb dX12_isFit_67 rfl (lv_at hl 1 rfl) ?_
      refine lv_iload_n hx hb dX12_isFit_68 rfl (lv_at hl 3 rfl) ?_
      refine lv_iload hx hb dX12_isFit_69 (lv_at hl 0 rfl) ?_
      obtain ⟨a6, h5, e_h5, hF⟩ := xbd2 hF
      refine cl_X12_276 C0 hR hS e_h5 t_v0 ⟨(Nat.le_of_ble_eq_true rfl), (Nat.le_of_ble_eq_true rfl)⟩ hl.1 (Nat.le_of_ble_eq_true rfl) ⟨(Nat.le_of_ble_eq_true rfl), (Nat.le_of_ble_eq_true rfl)⟩ dX12_isFit_71 (fun H locs hR hS => ?_)
      obtain ⟨w7, e_w7, hF⟩ := xbd hF
      cases hF
      exact x_zret C0 hR hS e_w7 dX12_isFit_74
    · have hF := xif hF c4
      refine lv_aload_n hx hb dX12_isFit_57 rfl (lv_at hl 1 rfl) ?_
      refine lv_iload_n hx hb dX12_isFit_58 rfl (lv_at hl 3 rfl) ?_
      refine lv_iload hx hb dX12_isFit_59 (lv_at hl 0 rfl) ?_
      obtain ⟨a9, h8, e_h8, hF⟩ := xbd2 hF
      refine cl_X12_273 C0 hR hS e_h8 t_v0 ⟨(Nat.le_of_ble_eq_true rfl), (Nat.le_of_ble_eq_true rfl)⟩ hl.1 (Nat.le_of_ble_eq_true rfl) ⟨(Nat.le_of_ble_eq_true rfl), (Nat.le_of_ble_eq_true rfl)⟩ dX12_isFit_61 (fun H locs hR hS => ?_)
      refine lv_goto (tgt := 74) hx hb dX12_isFit_64 (by decide) ?_
      obtain ⟨w10, e_w10, hF⟩ := xbd hF
      cases hF
      exact x_zret C0 hR hS e_w10 dX12_isFit_74
  · have hF := xif hF c3
    refine lv_aload_n hx hb dX12_isFit_42 rfl (lv_at hl 1 rfl) ?_
    refine lv_iload hx hb dX12_isFit_43 (lv_at hl 0 rfl) ?_
    refine lv_iload_n hx hb dX12_isFit_45 rfl (lv_at hl 3 rfl) ?_
    obtain ⟨a12, h11, e_h11, hF⟩ := xbd2 hF
    refine cl_X12_273 C0 hR hS e_h11 t_v0 ⟨(Nat.le_of_ble_eq_true rfl), (Nat.le_of_ble_eq_true rfl)⟩ hl.1 (Nat.le_of_ble_eq_true rfl) ⟨(Nat.le_of_ble_eq_true rfl), (Nat.le_of_ble_eq_true rfl)⟩ dX12_isFit_46 (fun H locs hR hS => ?_)
    refine lv_goto (tgt := 74) hx hb dX12_isFit_49 (by decide) ?_
    obtain ⟨w13, e_w13, hF⟩ := xbd hF
    cases hF
    exact x_zret C0 hR hS e_w13 dX12_isFit_74
set_option maxHeartbeats 4000000 in
set_option maxRecDepth 100000 in
theorem jc_X12_isFit {l : Launch} {D : xD} {ty : xTy} {h : xH} {v0 : Nat} {v1 : Int32} {v2 : Int32} {r : Int32} {h9 : xH} (t_v0 : ty v0 = some (0, 12)) (hF : jf_X12_isFit ty h v0 v1 v2 = some (r, h9)) : Met l yX12_isFit (xws yX12_isFit cX12_isFit 5 (some .boolean)) jr_X12_isFit (xPc D ty h [.ref v0, .int v1, .int v2]) (xQ D ty (some (.int r)) h9) 0 0 (xdom ty) := by
  refine x_met (by decide) ?_
  intro p e s m below meth c C0 hR
  generalize hargs : ([.ref v0, .int v1, .int v2] : List Value).toArray = args at C0 ⊢
  have hx := C0.1
  have hb := C0.2.1
  have hown := C0.2.2.2.2.2.1
  have hts := C0.2.2.2.2.2.2.1
  have hS : xS ty s.heap s.heap [] := xS.rf
  have hl := lv_entry ([.ref v0, .int v1, .int v2]) (n := 5) (Nat.le_of_ble_eq_true rfl)
  rw [← hargs, lg_entry_eq]
  rw [hargs]
  generalize (lg_sl ([.ref v0, .int v1, .int v2]) ++ List.replicate (5 - (lg_sl ([.ref v0, .int v1, .int v2])).length) Slot.unset).toArray = ls at hl ⊢
  have hl : lv_has ls 5 [(0, .ref v0), (1, .int v1), (2, .int v2)] := hl
  unfold jf_X12_isFit at hF
  refine lv_aload_n hx hb dX12_isFit_0 rfl (lv_at hl 0 rfl) ?_
  obtain ⟨h14, e_h14, hF⟩ := xbd hF
  refine cl_X12_263 C0 hR hS e_h14 t_v0 ⟨(Nat.le_of_ble_eq_true rfl), (Nat.le_of_ble_eq_true rfl)⟩ hl.1 (Nat.le_of_ble_eq_true rfl) ⟨(Nat.le_of_ble_eq_true rfl), (Nat.le_of_ble_eq_true rfl)⟩ dX12_isFit_1 (fun H locs hR hS => ?_)
  refine lv_aload_n hx hb dX12_isFit_4 rfl (lv_at hl 0 rfl) ?_
  obtain ⟨a16, h15, e_h15, hF⟩ := xbd2 hF
  refine cl_X12_266 C0 hR hS e_h15 t_v0 ⟨(Nat.le_of_ble_eq_true rfl), (Nat.le_of_ble_eq_true rfl)⟩ hl.1 (Nat.le_of_ble_eq_true rfl) ⟨(Nat.le_of_ble_eq_true rfl), (Nat.le_of_ble_eq_true rfl)⟩ dX12_isFit_5 (fun H locs hR hS => ?_)
  refine lv_istore_n (lv' := [(3, .int a16), (0, .ref v0), (1, .int v1), (2, .int v2)]) hx hb dX12_isFit_8 rfl hl (by decide) rfl (fun ls hl => ?_)
  refine lv_aload_n hx hb dX12_isFit_9 rfl (lv_at hl 1 rfl) ?_
  refine lv_iload_n hx hb dX12_isFit_10 rfl (lv_at hl 3 rfl) ?_
  refine lv_aload_n hx hb dX12_isFit_11 rfl (lv_at hl 1 rfl) ?_
  refine gf_X12_260 C0 hR t_v0 dX12_isFit_12 ?_
  refine lv_iconst (v := 1) hx hb dX12_isFit_15 (by decide) ?_
  refine lv_icmp_eq (tgt := 27) hx hb dX12_isFit_16 (by decide) (fun c17 => ?_) (fun c17 => ?_)
  · have hF := xif hF c17
    refine lv_bipush (v := 16) hx hb dX12_isFit_27 (by decide) ?_
    refine lv_goto (tgt := 33) hx hb dX12_isFit_29 (by decide) ?_
    exact jw_X12_isFit_33 C0 _ _ _ _ _ _ _ t_v0 t_v0 hF _ _ hR hS _ (lv_sub hl [1, 2, 0] rfl)
  · have hF := xel hF c17
    refine lv_aload_n hx hb dX12_isFit_19 rfl (lv_at hl 1 rfl) ?_
    refine gf_X12_260 C0 hR t_v0 dX12_isFit_20 ?_
    refine lv_iconst (v := 2) hx hb dX12_isFit_23 (by decide) ?_
    refine lv_icmp_ne (tgt := 32) hx hb dX12_isFit_24 (by decide) (fun c18 => ?_) (fun c18 => ?_)
    · have hF := xel hF c18
      refine lv_iconst (v := 4) hx hb dX12_isFit_32 (by decide) ?_
      exact jw_X12_isFit_33 C0 _ _ _ _ _ _ _ t_v0 t_v0 hF _ _ hR hS _ (lv_sub hl [1, 2, 0] rfl)
    · have hF := xif hF c18
      refine lv_bipush (v := 16) hx hb dX12_isFit_27 (by decide) ?_
      refine lv_goto (tgt := 33) hx hb dX12_isFit_29 (by decide) ?_
      exact jw_X12_isFit_33 C0 _ _ _ _ _ _ _ t_v0 t_v0 hF _ _ hR hS _ (lv_sub hl [1, 2, 0] rfl)
theorem xm_X12_isFit : xMw yX12_isFit cX12_isFit 5 (some .boolean) 2 := ⟨xin 1610 (by decide +kernel) rfl, xin 126 (by decide +kernel) rfl, by decide +kernel⟩
theorem xi_X12_isFit : Cond.instanceMethod yX12_isFit ∈ xT := xin 1609 (by decide +kernel) rfl
theorem xe_X12_isFit : Cond.selects yX12_isFit.cls yX12_isFit yX12_isFit ∈ xT := xin 73 (by decide +kernel) rfl
theorem dX12_isRule_0 : decode cX12_isRule 0 = .ok (.iload_n 1, 1) := by decide +kernel
theorem dX12_isRule_1 : decode cX12_isRule 1 = .ok (.ifCond .lt 15, 3) := by decide +kernel
theorem dX12_isRule_4 : decode cX12_isRule 4 = .ok (.iload_n 1, 1) := by decide +kernel
theorem dX12_isRule_5 : decode cX12_isRule 5 = .ok (.aload_n 0, 1) := by decide +kernel
theorem dX12_isRule_6 : decode cX12_isRule 6 = .ok (.getfield 178, 3) := by decide +kernel
theorem dX12_isRule_9 : decode cX12_isRule 9 = .ok (.if_icmp .ge 7, 3) := by decide +kernel
theorem dX12_isRule_12 : decode cX12_isRule 12 = .ok (.iconst 1, 1) := by decide +kernel
theorem dX12_isRule_13 : decode cX12_isRule 13 = .ok (.goto 4, 3) := by decide +kernel
theorem dX12_isRule_16 : decode cX12_isRule 16 = .ok (.iconst 0, 1) := by decide +kernel
theorem dX12_isRule_17 : decode cX12_isRule 17 = .ok (.ireturn, 1) := by decide +kernel
set_option maxHeartbeats 4000000 in
set_option maxRecDepth 100000 in
theorem jc_X12_isRule {l : Launch} {D : xD} {ty : xTy} {h : xH} {v0 : Nat} {v1 : Int32} {r : Int32} (t_v0 : ty v0 = some (0, 12)) (hF : jf_X12_isRule ty h v0 v1 = some r) : Met l yX12_isRule (xws yX12_isRule cX12_isRule 2 (some .boolean)) jr_X12_isRule (xPc D ty h [.ref v0, .int v1]) (xQ D ty (some (.int r)) h) 0 0 (xdom ty) := by
  refine x_met (by decide) ?_
  intro p e s m below meth c C0 hR
  generalize hargs : ([.ref v0, .int v1] : List Value).toArray = args at C0 ⊢
  have hx := C0.1
  have hb := C0.2.1
  have hown := C0.2.2.2.2.2.1
  have hts := C0.2.2.2.2.2.2.1
  have hS : xS ty s.heap s.heap [] := xS.rf
  have hl := lv_entry ([.ref v0, .int v1]) (n := 2) (Nat.le_of_ble_eq_true rfl)
  rw [← hargs, lg_entry_eq]
  rw [hargs]
  generalize (lg_sl ([.ref v0, .int v1]) ++ List.replicate (2 - (lg_sl ([.ref v0, .int v1])).length) Slot.unset).toArray = ls at hl ⊢
  have hl : lv_has ls 2 [(0, .ref v0), (1, .int v1)] := hl
  unfold jf_X12_isRule at hF
  refine lv_iload_n hx hb dX12_isRule_0 rfl (lv_at hl 1 rfl) ?_
  refine lv_if_lt (tgt := 16) hx hb dX12_isRule_1 (by decide) (fun c1 => ?_) (fun c1 => ?_)
  · have hF := xif hF c1
    refine lv_iconst (v := 0) hx hb dX12_isRule_16 (by decide) ?_
    cases hF
    exact x_zret (w := 0) C0 hR hS (by decide) dX12_isRule_17
  · have hF := xel hF c1
    refine lv_iload_n hx hb dX12_isRule_4 rfl (lv_at hl 1 rfl) ?_
    refine lv_aload_n hx hb dX12_isRule_5 rfl (lv_at hl 0 rfl) ?_
    refine gf_X12_178 C0 hR t_v0 dX12_isRule_6 ?_
    refine lv_icmp_ge (tgt := 16) hx hb dX12_isRule_9 (by decide) (fun c2 => ?_) (fun c2 => ?_)
    · have hF := xif hF c2
      refine lv_iconst (v := 0) hx hb dX12_isRule_16 (by decide) ?_
      cases hF
      exact x_zret (w := 0) C0 hR hS (by decide) dX12_isRule_17
    · have hF := xel hF c2
      refine lv_iconst (v := 1) hx hb dX12_isRule_12 (by decide) ?_
      refine lv_goto (tgt := 17) hx hb dX12_isRule_13 (by decide) ?_
      cases hF
      exact x_zret (w := 1) C0 hR hS (by decide) dX12_isRule_17
theorem xm_X12_isRule : xMw yX12_isRule cX12_isRule 2 (some .boolean) 1 := ⟨xin 1599 (by decide +kernel) rfl, xin 126 (by decide +kernel) rfl, by decide +kernel⟩
theorem xi_X12_isRule : Cond.instanceMethod yX12_isRule ∈ xT := xin 1598 (by decide +kernel) rfl
theorem xe_X12_isRule : Cond.selects yX12_isRule.cls yX12_isRule yX12_isRule ∈ xT := xin 71 (by decide +kernel) rfl
theorem dX12_isInNow_0 : decode cX12_isInNow 0 = .ok (.aload_n 0, 1) := by decide +kernel
theorem dX12_isInNow_1 : decode cX12_isInNow 1 = .ok (.getfield 185, 3) := by decide +kernel
theorem dX12_isInNow_4 : decode cX12_isInNow 4 = .ok (.iload_n 1, 1) := by decide +kernel
theorem dX12_isInNow_5 : decode cX12_isInNow 5 = .ok (.invokestatic 279, 3) := by decide +kernel
theorem dX12_isInNow_8 : decode cX12_isInNow 8 = .ok (.ireturn, 1) := by decide +kernel
theorem wl_X12_279 : Cond.methodLink RX12 279 yX12_isOf ∈ xT := xin 1604 (by decide +kernel) rfl
section XN_X12_isInNow
variable {p : Program} {l : Launch} {e : Env} {R : Room} {s : State} {m : MethodId} {args : Array Value} {below : List Frame} {meth : Method} {c : Code} {H H0 : Heap} {locs : List Loc} {cells slots : Nat} {Q : State → Prop} {cc : ByteArray} {nL pc : Nat} {rt : Option FieldType} {ls : Array Slot} {rest : List Value} {D : xD} {ty : xTy} {h : xH}
theorem cl_X12_279 {v0 : Int32} {v1 : Int32} {r : Int32} (C0 : xC D RX12 cc nL rt p s m args meth c) (hR : xRep D ty h H) (hS : xS ty H0 H locs) (hF : jf_X12_isOf v0 v1 = some r) (hrm : jr_X12_isOf.frames + 1 ≤ R.frames ∧ 8 + (2 + 11) + jr_X12_isOf.locals ≤ R.locals) (hsz : ls.size = nL) (hW : (rest.map fun v => v.category).sum ≤ 8) (hf : cells ≤ R.cells ∧ slots ≤ R.slots) (hdg : decode cc pc = .ok (.invokestatic 279, 3)) (kk : ∀ (H1 : Heap) (locs1 : List Loc), xRep D ty h H1 → xS ty H0 H1 locs1 → W p l e R s m args below meth c H1 locs1 cells slots Q (F0 m (pc + 3) ls (.int r :: rest))) : W p l e R s m args below meth c H locs cells slots Q (F0 m pc ls (.int v1 :: .int v0 :: rest)) := x_callS C0 (jc_X12_isOf  hF) xm_X12_isOf xs_X12_isOf wl_X12_279 ⟨rfl, rfl, hrm⟩ hR hS (As := [.int v0, .int v1]) rfl hsz rfl hW hdg hf kk
theorem gf_X12_185 {a : Nat} (C0 : xC D RX12 cc nL rt p s m args meth c) (hR : xRep D ty h H) (ht : ty a = some (0, 12)) (hdg : decode cc pc = .ok (.getfield 185, 3)) (kk : W p l e R s m args below meth c H locs cells slots Q (F0 m (pc + 3) ls (.int (xI h a 26) :: rest))) : W p l e R s m args below meth c H locs cells slots Q (F0 m pc ls (.ref a :: rest)) := x_get C0 hR (ci := 12) (k := 26) (N := 60) (T := TX12) rfl iX12 (by decide) rfl wf_X12_185 rfl ht hdg kk
end XN_X12_isInNow
set_option maxHeartbeats 4000000 in
set_option maxRecDepth 100000 in
theorem jc_X12_isInNow {l : Launch} {D : xD} {ty : xTy} {h : xH} {v0 : Nat} {v1 : Int32} {r : Int32} (t_v0 : ty v0 = some (0, 12)) (hF : jf_X12_isInNow ty h v0 v1 = some r) : Met l yX12_isInNow (xws yX12_isInNow cX12_isInNow 2 (some .boolean)) jr_X12_isInNow (xPc D ty h [.ref v0, .int v1]) (xQ D ty (some (.int r)) h) 0 0 (xdom ty) := by
  refine x_met (by decide) ?_
  intro p e s m below meth c C0 hR
  generalize hargs : ([.ref v0, .int v1] : List Value).toArray = args at C0 ⊢
  have hx := C0.1
  have hb := C0.2.1
  have hown := C0.2.2.2.2.2.1
  have hts := C0.2.2.2.2.2.2.1
  have hS : xS ty s.heap s.heap [] := xS.rf
  have hl := lv_entry ([.ref v0, .int v1]) (n := 2) (Nat.le_of_ble_eq_true rfl)
  rw [← hargs, lg_entry_eq]
  rw [hargs]
  generalize (lg_sl ([.ref v0, .int v1]) ++ List.replicate (2 - (lg_sl ([.ref v0, .int v1])).length) Slot.unset).toArray = ls at hl ⊢
  have hl : lv_has ls 2 [(0, .ref v0), (1, .int v1)] := hl
  unfold jf_X12_isInNow at hF
  refine lv_aload_n hx hb dX12_isInNow_0 rfl (lv_at hl 0 rfl) ?_
  refine gf_X12_185 C0 hR t_v0 dX12_isInNow_1 ?_
  refine lv_iload_n hx hb dX12_isInNow_4 rfl (lv_at hl 1 rfl) ?_
  obtain ⟨a1, e_a1, hF⟩ := xbd hF
  refine cl_X12_279 C0 hR hS e_a1  ⟨(Nat.le_of_ble_eq_true rfl), (Nat.le_of_ble_eq_true rfl)⟩ hl.1 (Nat.le_of_ble_eq_true rfl) ⟨(Nat.le_of_ble_eq_true rfl), (Nat.le_of_ble_eq_true rfl)⟩ dX12_isInNow_5 (fun H locs hR hS => ?_)
  exact x_zret C0 hR hS hF dX12_isInNow_8
theorem xm_X12_isInNow : xMw yX12_isInNow cX12_isInNow 2 (some .boolean) 1 := ⟨xin 1603 (by decide +kernel) rfl, xin 126 (by decide +kernel) rfl, by decide +kernel⟩
theorem xi_X12_isInNow : Cond.instanceMethod yX12_isInNow ∈ xT := xin 1602 (by decide +kernel) rfl
theorem xe_X12_isInNow : Cond.selects yX12_isInNow.cls yX12_isInNow yX12_isInNow ∈ xT := xin 72 (by decide +kernel) rfl
theorem dX12_fits_0 : decode cX12_fits 0 = .ok (.aload_n 0, 1) := by decide +kernel
theorem dX12_fits_1 : decode cX12_fits 1 = .ok (.iconst 0, 1) := by decide +kernel
theorem dX12_fits_2 : decode cX12_fits 2 = .ok (.putfield 101, 3) := by decide +kernel
theorem dX12_fits_5 : decode cX12_fits 5 = .ok (.iload_n 1, 1) := by decide +kernel
theorem dX12_fits_6 : decode cX12_fits 6 = .ok (.iconst 0, 1) := by decide +kernel
theorem dX12_fits_7 : decode cX12_fits 7 = .ok (.iconst 3, 1) := by decide +kernel
theorem dX12_fits_8 : decode cX12_fits 8 = .ok (.invokestatic 146, 3) := by decide +kernel
theorem dX12_fits_11 : decode cX12_fits 11 = .ok (.ifCond .eq 18, 3) := by decide +kernel
theorem dX12_fits_14 : decode cX12_fits 14 = .ok (.aload_n 0, 1) := by decide +kernel
theorem dX12_fits_15 : decode cX12_fits 15 = .ok (.iload_n 2, 1) := by decide +kernel
theorem dX12_fits_16 : decode cX12_fits 16 = .ok (.invokevirtual 282, 3) := by decide +kernel
theorem dX12_fits_19 : decode cX12_fits 19 = .ok (.ifCond .eq 10, 3) := by decide +kernel
theorem dX12_fits_22 : decode cX12_fits 22 = .ok (.aload_n 0, 1) := by decide +kernel
theorem dX12_fits_23 : decode cX12_fits 23 = .ok (.getfield 188, 3) := by decide +kernel
theorem dX12_fits_26 : decode cX12_fits 26 = .ok (.ifCond .ne 5, 3) := by decide +kernel
theorem dX12_fits_29 : decode cX12_fits 29 = .ok (.iconst (-1), 1) := by decide +kernel
theorem dX12_fits_30 : decode cX12_fits 30 = .ok (.ireturn, 1) := by decide +kernel
theorem dX12_fits_31 : decode cX12_fits 31 = .ok (.aload_n 0, 1) := by decide +kernel
theorem dX12_fits_32 : decode cX12_fits 32 = .ok (.iload_n 2, 1) := by decide +kernel
theorem dX12_fits_33 : decode cX12_fits 33 = .ok (.invokevirtual 285, 3) := by decide +kernel
theorem dX12_fits_36 : decode cX12_fits 36 = .ok (.ifCond .ne 6, 3) := by decide +kernel
theorem dX12_fits_39 : decode cX12_fits 39 = .ok (.bipush (-2), 2) := by decide +kernel
theorem dX12_fits_41 : decode cX12_fits 41 = .ok (.ireturn, 1) := by decide +kernel
theorem dX12_fits_42 : decode cX12_fits 42 = .ok (.iload_n 1, 1) := by decide +kernel
theorem dX12_fits_43 : decode cX12_fits 43 = .ok (.iconst 3, 1) := by decide +kernel
theorem dX12_fits_44 : decode cX12_fits 44 = .ok (.if_icmp .ge 12, 3) := by decide +kernel
theorem dX12_fits_47 : decode cX12_fits 47 = .ok (.aload_n 0, 1) := by decide +kernel
theorem dX12_fits_48 : decode cX12_fits 48 = .ok (.iload_n 1, 1) := by decide +kernel
theorem dX12_fits_49 : decode cX12_fits 49 = .ok (.iload_n 2, 1) := by decide +kernel
theorem dX12_fits_50 : decode cX12_fits 50 = .ok (.invokevirtual 288, 3) := by decide +kernel
theorem dX12_fits_53 : decode cX12_fits 53 = .ok (.goto 26, 3) := by decide +kernel
theorem dX12_fits_56 : decode cX12_fits 56 = .ok (.aload_n 0, 1) := by decide +kernel
theorem dX12_fits_57 : decode cX12_fits 57 = .ok (.iconst 0, 1) := by decide +kernel
theorem dX12_fits_58 : decode cX12_fits 58 = .ok (.iload_n 2, 1) := by decide +kernel
theorem dX12_fits_59 : decode cX12_fits 59 = .ok (.invokevirtual 288, 3) := by decide +kernel
theorem dX12_fits_62 : decode cX12_fits 62 = .ok (.ifCond .eq 16, 3) := by decide +kernel
theorem dX12_fits_65 : decode cX12_fits 65 = .ok (.aload_n 0, 1) := by decide +kernel
theorem dX12_fits_66 : decode cX12_fits 66 = .ok (.iconst 1, 1) := by decide +kernel
theorem dX12_fits_67 : decode cX12_fits 67 = .ok (.iload_n 2, 1) := by decide +kernel
theorem dX12_fits_68 : decode cX12_fits 68 = .ok (.invokevirtual 288, 3) := by decide +kernel
theorem dX12_fits_71 : decode cX12_fits 71 = .ok (.ifCond .eq 7, 3) := by decide +kernel
theorem dX12_fits_74 : decode cX12_fits 74 = .ok (.iconst 1, 1) := by decide +kernel
theorem dX12_fits_75 : decode cX12_fits 75 = .ok (.goto 4, 3) := by decide +kernel
theorem dX12_fits_78 : decode cX12_fits 78 = .ok (.iconst 0, 1) := by decide +kernel
theorem dX12_fits_79 : decode cX12_fits 79 = .ok (.istore_n 3, 1) := by decide +kernel
theorem dX12_fits_80 : decode cX12_fits 80 = .ok (.iload_n 3, 1) := by decide +kernel
theorem dX12_fits_81 : decode cX12_fits 81 = .ok (.ifCond .eq 7, 3) := by decide +kernel
theorem dX12_fits_84 : decode cX12_fits 84 = .ok (.iconst 1, 1) := by decide +kernel
theorem dX12_fits_85 : decode cX12_fits 85 = .ok (.goto 4, 3) := by decide +kernel
theorem dX12_fits_88 : decode cX12_fits 88 = .ok (.iconst 0, 1) := by decide +kernel
theorem dX12_fits_89 : decode cX12_fits 89 = .ok (.ireturn, 1) := by decide +kernel
theorem wl_X12_282 : Cond.methodLink RX12 282 yX12_isRule ∈ xT := xin 1596 (by decide +kernel) rfl
theorem wl_X12_285 : Cond.methodLink RX12 285 yX12_isInNow ∈ xT := xin 1600 (by decide +kernel) rfl
theorem wl_X12_288 : Cond.methodLink RX12 288 yX12_isFit ∈ xT := xin 1607 (by decide +kernel) rfl
section XN_X12_fits
variable {p : Program} {l : Launch} {e : Env} {R : Room} {s : State} {m : MethodId} {args : Array Value} {below : List Frame} {meth : Method} {c : Code} {H H0 : Heap} {locs : List Loc} {cells slots : Nat} {Q : State → Prop} {cc : ByteArray} {nL pc : Nat} {rt : Option FieldType} {ls : Array Slot} {rest : List Value} {D : xD} {ty : xTy} {h : xH}
theorem cl_X12_282 {v0 : Nat} {v1 : Int32} {r : Int32} (C0 : xC D RX12 cc nL rt p s m args meth c) (hR : xRep D ty h H) (hS : xS ty H0 H locs) (hF : jf_X12_isRule ty h v0 v1 = some r) (t_v0 : ty v0 = some (0, 12)) (hrm : jr_X12_isRule.frames + 1 ≤ R.frames ∧ 8 + (2 + 11) + jr_X12_isRule.locals ≤ R.locals) (hsz : ls.size = nL) (hW : (rest.map fun v => v.category).sum ≤ 8) (hf : cells ≤ R.cells ∧ slots ≤ R.slots) (hdg : decode cc pc = .ok (.invokevirtual 282, 3)) (kk : ∀ (H1 : Heap) (locs1 : List Loc), xRep D ty h H1 → xS ty H0 H1 locs1 → W p l e R s m args below meth c H1 locs1 cells slots Q (F0 m (pc + 3) ls (.int r :: rest))) : W p l e R s m args below meth c H locs cells slots Q (F0 m pc ls (.int v1 :: .ref v0 :: rest)) := x_callV C0 (jc_X12_isRule t_v0 hF) xm_X12_isRule xi_X12_isRule xe_X12_isRule wl_X12_282 ⟨rfl, rfl, hrm⟩ (ci := 12) rfl t_v0 hR hS (As := [.int v1]) rfl hsz rfl hW hdg hf kk
theorem cl_X12_285 {v0 : Nat} {v1 : Int32} {r : Int32} (C0 : xC D RX12 cc nL rt p s m args meth c) (hR : xRep D ty h H) (hS : xS ty H0 H locs) (hF : jf_X12_isInNow ty h v0 v1 = some r) (t_v0 : ty v0 = some (0, 12)) (hrm : jr_X12_isInNow.frames + 1 ≤ R.frames ∧ 8 + (2 + 11) + jr_X12_isInNow.locals ≤ R.locals) (hsz : ls.size = nL) (hW : (rest.map fun v => v.category).sum ≤ 8) (hf : cells ≤ R.cells ∧ slots ≤ R.slots) (hdg : decode cc pc = .ok (.invokevirtual 285, 3)) (kk : ∀ (H1 : Heap) (locs1 : List Loc), xRep D ty h H1 → xS ty H0 H1 locs1 → W p l e R s m args below meth c H1 locs1 cells slots Q (F0 m (pc + 3) ls (.int r :: rest))) : W p l e R s m args below meth c H locs cells slots Q (F0 m pc ls (.int v1 :: .ref v0 :: rest)) := x_callV C0 (jc_X12_isInNow t_v0 hF) xm_X12_isInNow xi_X12_isInNow xe_X12_isInNow wl_X12_285 ⟨rfl, rfl, hrm⟩ (ci := 12) rfl t_v0 hR hS (As := [.int v1]) rfl hsz rfl hW hdg hf kk
theorem cl_X12_288 {v0 : Nat} {v1 : Int32} {v2 : Int32} {r : Int32} {h9 : xH} (C0 : xC D RX12 cc nL rt p s m args meth c) (hR : xRep D ty h H) (hS : xS ty H0 H locs) (hF : jf_X12_isFit ty h v0 v1 v2 = some (r, h9)) (t_v0 : ty v0 = some (0, 12)) (hrm : jr_X12_isFit.frames + 1 ≤ R.frames ∧ 8 + (5 + 11) + jr_X12_isFit.locals ≤ R.locals) (hsz : ls.size = nL) (hW : (rest.map fun v => v.category).sum ≤ 8) (hf : cells ≤ R.cells ∧ slots ≤ R.slots) (hdg : decode cc pc = .ok (.invokevirtual 288, 3)) (kk : ∀ (H1 : Heap) (locs1 : List Loc), xRep D ty h9 H1 → xS ty H0 H1 locs1 → W p l e R s m args below meth c H1 locs1 cells slots Q (F0 m (pc + 3) ls (.int r :: rest))) : W p l e R s m args below meth c H locs cells slots Q (F0 m pc ls (.int v2 :: .int v1 :: .ref v0 :: rest)) := x_callV C0 (jc_X12_isFit t_v0 hF) xm_X12_isFit xi_X12_isFit xe_X12_isFit wl_X12_288 ⟨rfl, rfl, hrm⟩ (ci := 12) rfl t_v0 hR hS (As := [.int v1, .int v2]) rfl hsz rfl hW hdg hf kk
end XN_X12_fits
set_option maxHeartbeats 4000000 in
set_option maxRecDepth 100000 in
theorem jw_X12_fits_79 {p : Program} {l : Launch} {e : Env} {s : State} {m : MethodId} {args : Array Value} {below : List Frame} {meth : Method} {c : Code} {D : xD} {ty : xTy} (C0 : xC D RX12 cX12_fits 4 (some .int) p s m args meth c) {r : Int32} {h9 : xH} : ∀ (s0 : Int32) (h : xH), jf_X12_fits_79 ty s0 h = some (r, h9) → ∀ (H : Heap) (locs : List Loc), xRep D ty h H → xS ty s.heap H locs → ∀ ls : Array Slot, lv_has ls 4 [] → W p l e jr_X12_fits s m args below meth c H locs 0 0 (MQ below (xQ D ty (some (.int r)) h9) args s 0 0 (xdom ty)) (F0 m 79 ls [.int s0]) := by
  have hx := C0.1
  have hb := C0.2.1
  have hown := C0.2.2.2.2.2.1
  have hts := C0.2.2.2.2.2.2.1
  intro s0 h hF H locs hR hS ls hl
  unfold jf_X12_fits_79 at hF
  refine lv_istore_n (lv' := [(3, .int s0)]) hx hb dX12_fits_79 rfl hl (by decide) rfl (fun ls hl => ?_)
  refine lv_iload_n hx hb dX12_fits_80 rfl (lv_at hl 0 rfl) ?_
  refine lv_if_eq (tgt := 88) hx hb dX12_fits_81 (by decide) (fun c1 => ?_) (fun c1 => ?_)
  · have hF := xif hF c1
    refine lv_iconst (v := 0) hx hb dX12_fits_88 (by decide) ?_
    cases hF
    exact x_iret C0 hR hS dX12_fits_89
  · have hF := xel hF c1
    refine lv_iconst (v := 1) hx hb dX12_fits_84 (by decide) ?_
    refine lv_goto (tgt := 89) hx hb dX12_fits_85 (by decide) ?_
    cases hF
    exact x_iret C0 hR hS dX12_fits_89
set_option maxHeartbeats 4000000 in
set_option maxRecDepth 100000 in
theorem jc_X12_fits {l : Launch} {D : xD} {ty : xTy} {h : xH} {v0 : Nat} {v1 : Int32} {v2 : Int32} {r : Int32} {h9 : xH} (t_v0 : ty v0 = some (0, 12)) (hF : jf_X12_fits ty h v0 v1 v2 = some (r, h9)) : Met l yX12_fits (xws yX12_fits cX12_fits 4 (some .int)) jr_X12_fits (xPc D ty h [.ref v0, .int v1, .int v2]) (xQ D ty (some (.int r)) h9) 0 0 (xdom ty) := by
  refine x_met (by decide) ?_
  intro p e s m below meth c C0 hR
  generalize hargs : ([.ref v0, .int v1, .int v2] : List Value).toArray = args at C0 ⊢
  have hx := C0.1
  have hb := C0.2.1
  have hown := C0.2.2.2.2.2.1
  have hts := C0.2.2.2.2.2.2.1
  have hS : xS ty s.heap s.heap [] := xS.rf
  have hl := lv_entry ([.ref v0, .int v1, .int v2]) (n := 4) (Nat.le_of_ble_eq_true rfl)
  rw [← hargs, lg_entry_eq]
  rw [hargs]
  generalize (lg_sl ([.ref v0, .int v1, .int v2]) ++ List.replicate (4 - (lg_sl ([.ref v0, .int v1, .int v2])).length) Slot.unset).toArray = ls at hl ⊢
  have hl : lv_has ls 4 [(0, .ref v0), (1, .int v1), (2, .int v2)] := hl
  unfold jf_X12_fits at hF
  refine lv_aload_n hx hb dX12_fits_0 rfl (lv_at hl 0 rfl) ?_
  refine lv_iconst (v := 0) hx hb dX12_fits_1 (by decide) ?_
  obtain ⟨h2, e_h2, hF⟩ := xbd hF
  refine pf_X12_101 C0 hR hS t_v0 dX12_fits_2 (fun H locs hR hS => ?_)
  rw [Option.some.inj e_h2] at hR
  refine lv_iload_n hx hb dX12_fits_5 rfl (lv_at hl 1 rfl) ?_
  refine lv_iconst (v := 0) hx hb dX12_fits_6 (by decide) ?_
  refine lv_iconst (v := 3) hx hb dX12_fits_7 (by decide) ?_
  obtain ⟨a3, e_a3, hF⟩ := xbd hF
  refine cl_X12_146 C0 hR hS e_a3  ⟨(Nat.le_of_ble_eq_true rfl), (Nat.le_of_ble_eq_true rfl)⟩ hl.1 (Nat.le_of_ble_eq_true rfl) ⟨(Nat.le_of_ble_eq_true rfl), (Nat.le_of_ble_eq_true rfl)⟩ dX12_fits_8 (fun H locs hR hS => ?_)
  refine lv_if_eq (tgt := 29) hx hb dX12_fits_11 (by decide) (fun c4 => ?_) (fun c4 => ?_)
  · have hF := xif hF c4
    refine lv_iconst (v := (-1)) hx hb dX12_fits_29 (by decide) ?_
    cases hF
    exact x_iret C0 hR hS dX12_fits_30
  · have hF := xel hF c4
    refine lv_aload_n hx hb dX12_fits_14 rfl (lv_at hl 0 rfl) ?_
    refine lv_iload_n hx hb dX12_fits_15 rfl (lv_at hl 2 rfl) ?_
    obtain ⟨a5, e_a5, hF⟩ := xbd hF
    refine cl_X12_282 C0 hR hS e_a5 t_v0 ⟨(Nat.le_of_ble_eq_true rfl), (Nat.le_of_ble_eq_true rfl)⟩ hl.1 (Nat.le_of_ble_eq_true rfl) ⟨(Nat.le_of_ble_eq_true rfl), (Nat.le_of_ble_eq_true rfl)⟩ dX12_fits_16 (fun H locs hR hS => ?_)
    refine lv_if_eq (tgt := 29) hx hb dX12_fits_19 (by decide) (fun c6 => ?_) (fun c6 => ?_)
    · have hF := xif hF c6
      refine lv_iconst (v := (-1)) hx hb dX12_fits_29 (by decide) ?_
      cases hF
      exact x_iret C0 hR hS dX12_fits_30
    · have hF := xel hF c6
      refine lv_aload_n hx hb dX12_fits_22 rfl (lv_at hl 0 rfl) ?_
      refine gf_X12_188 C0 hR t_v0 dX12_fits_23 ?_
      refine lv_if_ne (tgt := 31) hx hb dX12_fits_26 (by decide) (fun c7 => ?_) (fun c7 => ?_)
      · have hF := xel hF c7
        refine lv_aload_n hx hb dX12_fits_31 rfl (lv_at hl 0 rfl) ?_
        refine lv_iload_n hx hb dX12_fits_32 rfl (lv_at hl 2 rfl) ?_
        obtain ⟨a8, e_a8, hF⟩ := xbd hF
        refine cl_X12_285 C0 hR hS e_a8 t_v0 ⟨(Nat.le_of_ble_eq_true rfl), (Nat.le_of_ble_eq_true rfl)⟩ hl.1 (Nat.le_of_ble_eq_true rfl) ⟨(Nat.le_of_ble_eq_true rfl), (Nat.le_of_ble_eq_true rfl)⟩ dX12_fits_33 (fun H locs hR hS => ?_)
        refine lv_if_ne (tgt := 42) hx hb dX12_fits_36 (by decide) (fun c9 => ?_) (fun c9 => ?_)
        · have hF := xel hF c9
          refine lv_iload_n hx hb dX12_fits_42 rfl (lv_at hl 1 rfl) ?_
          refine lv_iconst (v := 3) hx hb dX12_fits_43 (by decide) ?_
          refine lv_icmp_ge (tgt := 56) hx hb dX12_fits_44 (by decide) (fun c10 => ?_) (fun c10 => ?_)
          · have hF := xif hF c10
            refine lv_aload_n hx hb dX12_fits_56 rfl (lv_at hl 0 rfl) ?_
            refine lv_iconst (v := 0) hx hb dX12_fits_57 (by decide) ?_
            refine lv_iload_n hx hb dX12_fits_58 rfl (lv_at hl 2 rfl) ?_
            obtain ⟨a12, h11, e_h11, hF⟩ := xbd2 hF
            refine cl_X12_288 C0 hR hS e_h11 t_v0 ⟨(Nat.le_of_ble_eq_true rfl), (Nat.le_of_ble_eq_true rfl)⟩ hl.1 (Nat.le_of_ble_eq_true rfl) ⟨(Nat.le_of_ble_eq_true rfl), (Nat.le_of_ble_eq_true rfl)⟩ dX12_fits_59 (fun H locs hR hS => ?_)
            refine lv_if_eq (tgt := 78) hx hb dX12_fits_62 (by decide) (fun c13 => ?_) (fun c13 => ?_)
            · have hF := xif hF c13
              refine lv_iconst (v := 0) hx hb dX12_fits_78 (by decide) ?_
              exact jw_X12_fits_79 C0 _ _ hF _ _ hR hS _ (lv_sub hl [] rfl)
            · have hF := xel hF c13
              refine lv_aload_n hx hb dX12_fits_65 rfl (lv_at hl 0 rfl) ?_
              refine lv_iconst (v := 1) hx hb dX12_fits_66 (by decide) ?_
              refine lv_iload_n hx hb dX12_fits_67 rfl (lv_at hl 2 rfl) ?_
              obtain ⟨a15, h14, e_h14, hF⟩ := xbd2 hF
              refine cl_X12_288 C0 hR hS e_h14 t_v0 ⟨(Nat.le_of_ble_eq_true rfl), (Nat.le_of_ble_eq_true rfl)⟩ hl.1 (Nat.le_of_ble_eq_true rfl) ⟨(Nat.le_of_ble_eq_true rfl), (Nat.le_of_ble_eq_true rfl)⟩ dX12_fits_68 (fun H locs hR hS => ?_)
              refine lv_if_eq (tgt := 78) hx hb dX12_fits_71 (by decide) (fun c16 => ?_) (fun c16 => ?_)
              · have hF := xif hF c16
                refine lv_iconst (v := 0) hx hb dX12_fits_78 (by decide) ?_
                exact jw_X12_fits_79 C0 _ _ hF _ _ hR hS _ (lv_sub hl [] rfl)
              · have hF := xel hF c16
                refine lv_iconst (v := 1) hx hb dX12_fits_74 (by decide) ?_
                refine lv_goto (tgt := 79) hx hb dX12_fits_75 (by decide) ?_
                exact jw_X12_fits_79 C0 _ _ hF _ _ hR hS _ (lv_sub hl [] rfl)
          · have hF := xel hF c10
            refine lv_aload_n hx hb dX12_fits_47 rfl (lv_at hl 0 rfl) ?_
            refine lv_iload_n hx hb dX12_fits_48 rfl (lv_at hl 1 rfl) ?_
            refine lv_iload_n hx hb dX12_fits_49 rfl (lv_at hl 2 rfl) ?_
            obtain ⟨a18, h17, e_h17, hF⟩ := xbd2 hF
            refine cl_X12_288 C0 hR hS e_h17 t_v0 ⟨(Nat.le_of_ble_eq_true rfl), (Nat.le_of_ble_eq_true rfl)⟩ hl.1 (Nat.le_of_ble_eq_true rfl) ⟨(Nat.le_of_ble_eq_true rfl), (Nat.le_of_ble_eq_true rfl)⟩ dX12_fits_50 (fun H locs hR hS => ?_)
            refine lv_goto (tgt := 79) hx hb dX12_fits_53 (by decide) ?_
            exact jw_X12_fits_79 C0 _ _ hF _ _ hR hS _ (lv_sub hl [] rfl)
        · have hF := xif hF c9
          refine lv_bipush (v := (-2)) hx hb dX12_fits_39 (by decide) ?_
          cases hF
          exact x_iret C0 hR hS dX12_fits_41
      · have hF := xif hF c7
        refine lv_iconst (v := (-1)) hx hb dX12_fits_29 (by decide) ?_
        cases hF
        exact x_iret C0 hR hS dX12_fits_30
theorem xm_X12_fits : xMw yX12_fits cX12_fits 4 (some .int) 2 := ⟨xin 1595 (by decide +kernel) rfl, xin 126 (by decide +kernel) rfl, by decide +kernel⟩
theorem xi_X12_fits : Cond.instanceMethod yX12_fits ∈ xT := xin 1593 (by decide +kernel) rfl
theorem xe_X12_fits : Cond.selects yX12_fits.cls yX12_fits yX12_fits ∈ xT := xin 1594 (by decide +kernel) rfl
theorem dX12_stepAt_0 : decode cX12_stepAt 0 = .ok (.iload_n 2, 1) := by decide +kernel
theorem dX12_stepAt_1 : decode cX12_stepAt 1 = .ok (.aload_n 0, 1) := by decide +kernel
theorem dX12_stepAt_2 : decode cX12_stepAt 2 = .ok (.getfield 32, 3) := by decide +kernel
theorem dX12_stepAt_5 : decode cX12_stepAt 5 = .ok (.iload_n 1, 1) := by decide +kernel
theorem dX12_stepAt_6 : decode cX12_stepAt 6 = .ok (.iaload, 1) := by decide +kernel
theorem dX12_stepAt_7 : decode cX12_stepAt 7 = .ok (.if_icmp .lt 8, 3) := by decide +kernel
theorem dX12_stepAt_10 : decode cX12_stepAt 10 = .ok (.bipush 99, 2) := by decide +kernel
theorem dX12_stepAt_12 : decode cX12_stepAt 12 = .ok (.goto 35, 3) := by decide +kernel
theorem dX12_stepAt_15 : decode cX12_stepAt 15 = .ok (.aload_n 0, 1) := by decide +kernel
theorem dX12_stepAt_16 : decode cX12_stepAt 16 = .ok (.getfield 35, 3) := by decide +kernel
theorem dX12_stepAt_19 : decode cX12_stepAt 19 = .ok (.bipush 12, 2) := by decide +kernel
theorem dX12_stepAt_21 : decode cX12_stepAt 21 = .ok (.iload_n 1, 1) := by decide +kernel
theorem dX12_stepAt_22 : decode cX12_stepAt 22 = .ok (.imul, 1) := by decide +kernel
theorem dX12_stepAt_23 : decode cX12_stepAt 23 = .ok (.iload_n 2, 1) := by decide +kernel
theorem dX12_stepAt_24 : decode cX12_stepAt 24 = .ok (.iadd, 1) := by decide +kernel
theorem dX12_stepAt_25 : decode cX12_stepAt 25 = .ok (.iaload, 1) := by decide +kernel
theorem dX12_stepAt_26 : decode cX12_stepAt 26 = .ok (.bipush 100, 2) := by decide +kernel
theorem dX12_stepAt_28 : decode cX12_stepAt 28 = .ok (.if_icmp .lt 8, 3) := by decide +kernel
theorem dX12_stepAt_31 : decode cX12_stepAt 31 = .ok (.bipush 100, 2) := by decide +kernel
theorem dX12_stepAt_33 : decode cX12_stepAt 33 = .ok (.goto 14, 3) := by decide +kernel
theorem dX12_stepAt_36 : decode cX12_stepAt 36 = .ok (.aload_n 0, 1) := by decide +kernel
theorem dX12_stepAt_37 : decode cX12_stepAt 37 = .ok (.getfield 35, 3) := by decide +kernel
theorem dX12_stepAt_40 : decode cX12_stepAt 40 = .ok (.bipush 12, 2) := by decide +kernel
theorem dX12_stepAt_42 : decode cX12_stepAt 42 = .ok (.iload_n 1, 1) := by decide +kernel
theorem dX12_stepAt_43 : decode cX12_stepAt 43 = .ok (.imul, 1) := by decide +kernel
theorem dX12_stepAt_44 : decode cX12_stepAt 44 = .ok (.iload_n 2, 1) := by decide +kernel
theorem dX12_stepAt_45 : decode cX12_stepAt 45 = .ok (.iadd, 1) := by decide +kernel
theorem dX12_stepAt_46 : decode cX12_stepAt 46 = .ok (.iaload, 1) := by decide +kernel
theorem dX12_stepAt_47 : decode cX12_stepAt 47 = .ok (.ireturn, 1) := by decide +kernel
set_option maxHeartbeats 4000000 in
set_option maxRecDepth 100000 in
theorem jc_X12_stepAt {l : Launch} {D : xD} {ty : xTy} {h : xH} {v0 : Nat} {v1 : Int32} {v2 : Int32} {r : Int32} (t_v0 : ty v0 = some (0, 12)) (hF : jf_X12_stepAt ty h v0 v1 v2 = some r) : Met l yX12_stepAt (xws yX12_stepAt cX12_stepAt 3 (some .int)) jr_X12_stepAt (xPc D ty h [.ref v0, .int v1, .int v2]) (xQ D ty (some (.int r)) h) 0 0 (xdom ty) := by
  refine x_met (by decide) ?_
  intro p e s m below meth c C0 hR
  generalize hargs : ([.ref v0, .int v1, .int v2] : List Value).toArray = args at C0 ⊢
  have hx := C0.1
  have hb := C0.2.1
  have hown := C0.2.2.2.2.2.1
  have hts := C0.2.2.2.2.2.2.1
  have hS : xS ty s.heap s.heap [] := xS.rf
  have hl := lv_entry ([.ref v0, .int v1, .int v2]) (n := 3) (Nat.le_of_ble_eq_true rfl)
  rw [← hargs, lg_entry_eq]
  rw [hargs]
  generalize (lg_sl ([.ref v0, .int v1, .int v2]) ++ List.replicate (3 - (lg_sl ([.ref v0, .int v1, .int v2])).length) Slot.unset).toArray = ls at hl ⊢
  have hl : lv_has ls 3 [(0, .ref v0), (1, .int v1), (2, .int v2)] := hl
  unfold jf_X12_stepAt at hF
  refine lv_iload_n hx hb dX12_stepAt_0 rfl (lv_at hl 2 rfl) ?_
  refine lv_aload_n hx hb dX12_stepAt_1 rfl (lv_at hl 0 rfl) ?_
  obtain ⟨a1, e_a1, hF⟩ := xbd hF
  refine gf_X12_32 C0 hR t_v0 e_a1 dX12_stepAt_2 ?_
  refine lv_iload_n hx hb dX12_stepAt_5 rfl (lv_at hl 1 rfl) ?_
  obtain ⟨a2, e_a2, hF⟩ := xbd hF
  refine x_iald C0 hR e_a2 dX12_stepAt_6 ?_
  refine lv_icmp_lt (tgt := 15) hx hb dX12_stepAt_7 (by decide) (fun c3 => ?_) (fun c3 => ?_)
  · have hF := xif hF c3
    refine lv_aload_n hx hb dX12_stepAt_15 rfl (lv_at hl 0 rfl) ?_
    obtain ⟨a4, e_a4, hF⟩ := xbd hF
    refine gf_X12_35 C0 hR t_v0 e_a4 dX12_stepAt_16 ?_
    refine lv_bipush (v := 12) hx hb dX12_stepAt_19 (by decide) ?_
    refine lv_iload_n hx hb dX12_stepAt_21 rfl (lv_at hl 1 rfl) ?_
    refine lv_imul hx hb dX12_stepAt_22 ?_
    refine lv_iload_n hx hb dX12_stepAt_23 rfl (lv_at hl 2 rfl) ?_
    refine lv_iadd hx hb dX12_stepAt_24 ?_
    obtain ⟨a5, e_a5, hF⟩ := xbd hF
    refine x_iald C0 hR e_a5 dX12_stepAt_25 ?_
    refine lv_bipush (v := 100) hx hb dX12_stepAt_26 (by decide) ?_
    refine lv_icmp_lt (tgt := 36) hx hb dX12_stepAt_28 (by decide) (fun c6 => ?_) (fun c6 => ?_)
    · have hF := xif hF c6
      refine lv_aload_n hx hb dX12_stepAt_36 rfl (lv_at hl 0 rfl) ?_
      obtain ⟨a7, e_a7, hF⟩ := xbd hF
      refine gf_X12_35 C0 hR t_v0 e_a7 dX12_stepAt_37 ?_
      refine lv_bipush (v := 12) hx hb dX12_stepAt_40 (by decide) ?_
      refine lv_iload_n hx hb dX12_stepAt_42 rfl (lv_at hl 1 rfl) ?_
      refine lv_imul hx hb dX12_stepAt_43 ?_
      refine lv_iload_n hx hb dX12_stepAt_44 rfl (lv_at hl 2 rfl) ?_
      refine lv_iadd hx hb dX12_stepAt_45 ?_
      obtain ⟨a8, e_a8, hF⟩ := xbd hF
      refine x_iald C0 hR e_a8 dX12_stepAt_46 ?_
      cases hF
      exact x_iret C0 hR hS dX12_stepAt_47
    · have hF := xel hF c6
      refine lv_bipush (v := 100) hx hb dX12_stepAt_31 (by decide) ?_
      refine lv_goto (tgt := 47) hx hb dX12_stepAt_33 (by decide) ?_
      cases hF
      exact x_iret C0 hR hS dX12_stepAt_47
  · have hF := xel hF c3
    refine lv_bipush (v := 99) hx hb dX12_stepAt_10 (by decide) ?_
    refine lv_goto (tgt := 47) hx hb dX12_stepAt_12 (by decide) ?_
    cases hF
    exact x_iret C0 hR hS dX12_stepAt_47
theorem xm_X12_stepAt : xMw yX12_stepAt cX12_stepAt 3 (some .int) 2 := ⟨xin 1681 (by decide +kernel) rfl, xin 126 (by decide +kernel) rfl, by decide +kernel⟩
theorem xi_X12_stepAt : Cond.instanceMethod yX12_stepAt ∈ xT := xin 1680 (by decide +kernel) rfl
theorem xe_X12_stepAt : Cond.selects yX12_stepAt.cls yX12_stepAt yX12_stepAt ∈ xT := xin 89 (by decide +kernel) rfl
theorem dX12_sharedBy_0 : decode cX12_sharedBy 0 = .ok (.iconst 0, 1) := by decide +kernel
theorem dX12_sharedBy_1 : decode cX12_sharedBy 1 = .ok (.istore_n 3, 1) := by decide +kernel
theorem dX12_sharedBy_2 : decode cX12_sharedBy 2 = .ok (.iload_n 3, 1) := by decide +kernel
theorem dX12_sharedBy_3 : decode cX12_sharedBy 3 = .ok (.aload_n 0, 1) := by decide +kernel
theorem dX12_sharedBy_4 : decode cX12_sharedBy 4 = .ok (.getfield 32, 3) := by decide +kernel
theorem dX12_sharedBy_7 : decode cX12_sharedBy 7 = .ok (.iload_n 1, 1) := by decide +kernel
theorem dX12_sharedBy_8 : decode cX12_sharedBy 8 = .ok (.iaload, 1) := by decide +kernel
theorem dX12_sharedBy_9 : decode cX12_sharedBy 9 = .ok (.if_icmp .ge 34, 3) := by decide +kernel
theorem dX12_sharedBy_12 : decode cX12_sharedBy 12 = .ok (.iload_n 3, 1) := by decide +kernel
theorem dX12_sharedBy_13 : decode cX12_sharedBy 13 = .ok (.aload_n 0, 1) := by decide +kernel
theorem dX12_sharedBy_14 : decode cX12_sharedBy 14 = .ok (.getfield 32, 3) := by decide +kernel
theorem dX12_sharedBy_17 : decode cX12_sharedBy 17 = .ok (.iload_n 2, 1) := by decide +kernel
theorem dX12_sharedBy_18 : decode cX12_sharedBy 18 = .ok (.iaload, 1) := by decide +kernel
theorem dX12_sharedBy_19 : decode cX12_sharedBy 19 = .ok (.if_icmp .ge 24, 3) := by decide +kernel
theorem dX12_sharedBy_22 : decode cX12_sharedBy 22 = .ok (.aload_n 0, 1) := by decide +kernel
theorem dX12_sharedBy_23 : decode cX12_sharedBy 23 = .ok (.iload_n 1, 1) := by decide +kernel
theorem dX12_sharedBy_24 : decode cX12_sharedBy 24 = .ok (.iload_n 3, 1) := by decide +kernel
theorem dX12_sharedBy_25 : decode cX12_sharedBy 25 = .ok (.invokevirtual 291, 3) := by decide +kernel
theorem dX12_sharedBy_28 : decode cX12_sharedBy 28 = .ok (.aload_n 0, 1) := by decide +kernel
theorem dX12_sharedBy_29 : decode cX12_sharedBy 29 = .ok (.iload_n 2, 1) := by decide +kernel
theorem dX12_sharedBy_30 : decode cX12_sharedBy 30 = .ok (.iload_n 3, 1) := by decide +kernel
theorem dX12_sharedBy_31 : decode cX12_sharedBy 31 = .ok (.invokevirtual 291, 3) := by decide +kernel
theorem dX12_sharedBy_34 : decode cX12_sharedBy 34 = .ok (.if_icmp .ne 9, 3) := by decide +kernel
theorem dX12_sharedBy_37 : decode cX12_sharedBy 37 = .ok (.iinc 3 1, 3) := by decide +kernel
theorem dX12_sharedBy_40 : decode cX12_sharedBy 40 = .ok (.goto (-38), 3) := by decide +kernel
theorem dX12_sharedBy_43 : decode cX12_sharedBy 43 = .ok (.iload_n 3, 1) := by decide +kernel
theorem dX12_sharedBy_44 : decode cX12_sharedBy 44 = .ok (.ireturn, 1) := by decide +kernel
theorem wl_X12_291 : Cond.methodLink RX12 291 yX12_stepAt ∈ xT := xin 1678 (by decide +kernel) rfl
section XN_X12_sharedBy
variable {p : Program} {l : Launch} {e : Env} {R : Room} {s : State} {m : MethodId} {args : Array Value} {below : List Frame} {meth : Method} {c : Code} {H H0 : Heap} {locs : List Loc} {cells slots : Nat} {Q : State → Prop} {cc : ByteArray} {nL pc : Nat} {rt : Option FieldType} {ls : Array Slot} {rest : List Value} {D : xD} {ty : xTy} {h : xH}
theorem cl_X12_291 {v0 : Nat} {v1 : Int32} {v2 : Int32} {r : Int32} (C0 : xC D RX12 cc nL rt p s m args meth c) (hR : xRep D ty h H) (hS : xS ty H0 H locs) (hF : jf_X12_stepAt ty h v0 v1 v2 = some r) (t_v0 : ty v0 = some (0, 12)) (hrm : jr_X12_stepAt.frames + 1 ≤ R.frames ∧ 8 + (3 + 11) + jr_X12_stepAt.locals ≤ R.locals) (hsz : ls.size = nL) (hW : (rest.map fun v => v.category).sum ≤ 8) (hf : cells ≤ R.cells ∧ slots ≤ R.slots) (hdg : decode cc pc = .ok (.invokevirtual 291, 3)) (kk : ∀ (H1 : Heap) (locs1 : List Loc), xRep D ty h H1 → xS ty H0 H1 locs1 → W p l e R s m args below meth c H1 locs1 cells slots Q (F0 m (pc + 3) ls (.int r :: rest))) : W p l e R s m args below meth c H locs cells slots Q (F0 m pc ls (.int v2 :: .int v1 :: .ref v0 :: rest)) := x_callV C0 (jc_X12_stepAt t_v0 hF) xm_X12_stepAt xi_X12_stepAt xe_X12_stepAt wl_X12_291 ⟨rfl, rfl, hrm⟩ (ci := 12) rfl t_v0 hR hS (As := [.int v1, .int v2]) rfl hsz rfl hW hdg hf kk
end XN_X12_sharedBy
set_option maxHeartbeats 4000000 in
set_option maxRecDepth 100000 in
theorem jw_X12_sharedBy_2 {p : Program} {l : Launch} {e : Env} {s : State} {m : MethodId} {args : Array Value} {below : List Frame} {meth : Method} {c : Code} {D : xD} {ty : xTy} {h : xH} (C0 : xC D RX12 cX12_sharedBy 4 (some .int) p s m args meth c) {r : Int32} : ∀ n : Nat, ∀ (v0 : Nat) (v1 : Int32) (v2 : Int32) (v3 : Int32), ty v0 = some (0, 12) → jf_X12_sharedBy_2 ty h n v0 v1 v2 v3 = some r → ∀ (H : Heap) (locs : List Loc), xRep D ty h H → xS ty s.heap H locs → ∀ ls : Array Slot, lv_has ls 4 [(0, .ref v0), (1, .int v1), (2, .int v2), (3, .int v3)] → W p l e jr_X12_sharedBy s m args below meth c H locs 0 0 (MQ below (xQ D ty (some (.int r)) h) args s 0 0 (xdom ty)) (F0 m 2 ls []) := by
  have hx := C0.1
  have hb := C0.2.1
  have hown := C0.2.2.2.2.2.1
  have hts := C0.2.2.2.2.2.2.1
  intro n
  induction n with
  | zero =>
    intro v0 v1 v2 v3 t_v0 hF H locs hR hS ls hl
    cases hF
  | succ n ih =>
    intro v0 v1 v2 v3 t_v0 hF H locs hR hS ls hl
    rw [jf_X12_sharedBy_2_s] at hF
    refine lv_iload_n hx hb dX12_sharedBy_2 rfl (lv_at hl 3 rfl) ?_
    refine lv_aload_n hx hb dX12_sharedBy_3 rfl (lv_at hl 0 rfl) ?_
    obtain ⟨a1, e_a1, hF⟩ := xbd hF
    refine gf_X12_32 C0 hR t_v0 e_a1 dX12_sharedBy_4 ?_
    refine lv_iload_n hx hb dX12_sharedBy_7 rfl (lv_at hl 1 rfl) ?_
    obtain ⟨a2, e_a2, hF⟩ := xbd hF
    refine x_iald C0 hR e_a2 dX12_sharedBy_8 ?_
    refine lv_icmp_ge (tgt := 43) hx hb dX12_sharedBy_9 (by decide) (fun c3 => ?_) (fun c3 => ?_)
    · have hF := xif hF c3
      refine lv_iload_n hx hb dX12_sharedBy_43 rfl (lv_at hl 3 rfl) ?_
      cases hF
      exact x_iret C0 hR hS dX12_sharedBy_44
    · have hF := xel hF c3
      refine lv_iload_n hx hb dX12_sharedBy_12 rfl (lv_at hl 3 rfl) ?_
      refine lv_aload_n hx hb dX12_sharedBy_13 rfl (lv_at hl 0 rfl) ?_
      obtain ⟨a4, e_a4, hF⟩ := xbd hF
      refine gf_X12_32 C0 hR t_v0 e_a4 dX12_sharedBy_14 ?_
      refine lv_iload_n hx hb dX12_sharedBy_17 rfl (lv_at hl 2 rfl) ?_
      obtain ⟨a5, e_a5, hF⟩ := xbd hF
      refine x_iald C0 hR e_a5 dX12_sharedBy_18 ?_
      refine lv_icmp_ge (tgt := 43) hx hb dX12_sharedBy_19 (by decide) (fun c6 => ?_) (fun c6 => ?_)
      · have hF := xif hF c6
        refine lv_iload_n hx hb dX12_sharedBy_43 rfl (lv_at hl 3 rfl) ?_
        cases hF
        exact x_iret C0 hR hS dX12_sharedBy_44
      · have hF := xel hF c6
        refine lv_aload_n hx hb dX12_sharedBy_22 rfl (lv_at hl 0 rfl) ?_
        refine lv_iload_n hx hb dX12_sharedBy_23 rfl (lv_at hl 1 rfl) ?_
        refine lv_iload_n hx hb dX12_sharedBy_24 rfl (lv_at hl 3 rfl) ?_
        obtain ⟨a7, e_a7, hF⟩ := xbd hF
        refine cl_X12_291 C0 hR hS e_a7 t_v0 ⟨(Nat.le_of_ble_eq_true rfl), (Nat.le_of_ble_eq_true rfl)⟩ hl.1 (Nat.le_of_ble_eq_true rfl) ⟨(Nat.le_of_ble_eq_true rfl), (Nat.le_of_ble_eq_true rfl)⟩ dX12_sharedBy_25 (fun H locs hR hS => ?_)
        refine lv_aload_n hx hb dX12_sharedBy_28 rfl (lv_at hl 0 rfl) ?_
        refine lv_iload_n hx hb dX12_sharedBy_29 rfl (lv_at hl 2 rfl) ?_
        refine lv_iload_n hx hb dX12_sharedBy_30 rfl (lv_at hl 3 rfl) ?_
        obtain ⟨a8, e_a8, hF⟩ := xbd hF
        refine cl_X12_291 C0 hR hS e_a8 t_v0 ⟨(Nat.le_of_ble_eq_true rfl), (Nat.le_of_ble_eq_true rfl)⟩ hl.1 (Nat.le_of_ble_eq_true rfl) ⟨(Nat.le_of_ble_eq_true rfl), (Nat.le_of_ble_eq_true rfl)⟩ dX12_sharedBy_31 (fun H locs hR hS => ?_)
        refine lv_icmp_ne (tgt := 43) hx hb dX12_sharedBy_34 (by decide) (fun c9 => ?_) (fun c9 => ?_)
        · have hF := xel hF c9
          refine lv_iload_n hx hb dX12_sharedBy_43 rfl (lv_at hl 3 rfl) ?_
          cases hF
          exact x_iret C0 hR hS dX12_sharedBy_44
        · have hF := xif hF c9
          refine lv_iinc (v := v3 + 1) (lv' := [(3, .int (v3 + 1)), (0, .ref v0), (1, .int v1), (2, .int v2)]) hx hb dX12_sharedBy_37 hl (k := 3) rfl rfl (by decide) rfl (fun ls hl => ?_)
          refine lv_goto (tgt := 2) hx hb dX12_sharedBy_40 (by decide) ?_
          exact ih _ _ _ _ t_v0 hF _ _ hR hS _ (lv_sub hl [1, 2, 3, 0] rfl)
set_option maxHeartbeats 4000000 in
set_option maxRecDepth 100000 in
theorem jc_X12_sharedBy {l : Launch} {D : xD} {ty : xTy} {h : xH} {v0 : Nat} {v1 : Int32} {v2 : Int32} {r : Int32} (t_v0 : ty v0 = some (0, 12)) (hF : jf_X12_sharedBy ty h v0 v1 v2 = some r) : Met l yX12_sharedBy (xws yX12_sharedBy cX12_sharedBy 4 (some .int)) jr_X12_sharedBy (xPc D ty h [.ref v0, .int v1, .int v2]) (xQ D ty (some (.int r)) h) 0 0 (xdom ty) := by
  refine x_met (by decide) ?_
  intro p e s m below meth c C0 hR
  generalize hargs : ([.ref v0, .int v1, .int v2] : List Value).toArray = args at C0 ⊢
  have hx := C0.1
  have hb := C0.2.1
  have hown := C0.2.2.2.2.2.1
  have hts := C0.2.2.2.2.2.2.1
  have hS : xS ty s.heap s.heap [] := xS.rf
  have hl := lv_entry ([.ref v0, .int v1, .int v2]) (n := 4) (Nat.le_of_ble_eq_true rfl)
  rw [← hargs, lg_entry_eq]
  rw [hargs]
  generalize (lg_sl ([.ref v0, .int v1, .int v2]) ++ List.replicate (4 - (lg_sl ([.ref v0, .int v1, .int v2])).length) Slot.unset).toArray = ls at hl ⊢
  have hl : lv_has ls 4 [(0, .ref v0), (1, .int v1), (2, .int v2)] := hl
  unfold jf_X12_sharedBy at hF
  refine lv_iconst (v := 0) hx hb dX12_sharedBy_0 (by decide) ?_
  refine lv_istore_n (lv' := [(3, .int 0), (0, .ref v0), (1, .int v1), (2, .int v2)]) hx hb dX12_sharedBy_1 rfl hl (by decide) rfl (fun ls hl => ?_)
  obtain ⟨_, hF⟩ := xlim_sp hF
  exact jw_X12_sharedBy_2 C0 _ _ _ _ _ t_v0 hF _ _ hR hS _ (lv_sub hl [1, 2, 3, 0] rfl)
theorem xm_X12_sharedBy : xMw yX12_sharedBy cX12_sharedBy 4 (some .int) 2 := ⟨xin 1677 (by decide +kernel) rfl, xin 126 (by decide +kernel) rfl, by decide +kernel⟩
theorem xi_X12_sharedBy : Cond.instanceMethod yX12_sharedBy ∈ xT := xin 1676 (by decide +kernel) rfl
theorem xe_X12_sharedBy : Cond.selects yX12_sharedBy.cls yX12_sharedBy yX12_sharedBy ∈ xT := xin 88 (by decide +kernel) rfl
theorem dX12_rankOf_0 : decode cX12_rankOf 0 = .ok (.iload_n 0, 1) := by decide +kernel
theorem dX12_rankOf_1 : decode cX12_rankOf 1 = .ok (.bipush 100, 2) := by decide +kernel
theorem dX12_rankOf_3 : decode cX12_rankOf 3 = .ok (.if_icmp .ne 7, 3) := by decide +kernel
theorem dX12_rankOf_6 : decode cX12_rankOf 6 = .ok (.iconst 0, 1) := by decide +kernel
theorem dX12_rankOf_7 : decode cX12_rankOf 7 = .ok (.goto 6, 3) := by decide +kernel
theorem dX12_rankOf_10 : decode cX12_rankOf 10 = .ok (.iconst 1, 1) := by decide +kernel
theorem dX12_rankOf_11 : decode cX12_rankOf 11 = .ok (.iload_n 0, 1) := by decide +kernel
theorem dX12_rankOf_12 : decode cX12_rankOf 12 = .ok (.iadd, 1) := by decide +kernel
theorem dX12_rankOf_13 : decode cX12_rankOf 13 = .ok (.ireturn, 1) := by decide +kernel
set_option maxHeartbeats 4000000 in
set_option maxRecDepth 100000 in
theorem jc_X12_rankOf {l : Launch} {D : xD} {ty : xTy} {h : xH} {v0 : Int32} {r : Int32} (hF : jf_X12_rankOf v0 = some r) : Met l yX12_rankOf (xws yX12_rankOf cX12_rankOf 1 (some .int)) jr_X12_rankOf (xPc D ty h [.int v0]) (xQ D ty (some (.int r)) h) 0 0 (xdom ty) := by
  refine x_met (by decide) ?_
  intro p e s m below meth c C0 hR
  generalize hargs : ([.int v0] : List Value).toArray = args at C0 ⊢
  have hx := C0.1
  have hb := C0.2.1
  have hown := C0.2.2.2.2.2.1
  have hts := C0.2.2.2.2.2.2.1
  have hS : xS ty s.heap s.heap [] := xS.rf
  have hl := lv_entry ([.int v0]) (n := 1) (Nat.le_of_ble_eq_true rfl)
  rw [← hargs, lg_entry_eq]
  rw [hargs]
  generalize (lg_sl ([.int v0]) ++ List.replicate (1 - (lg_sl ([.int v0])).length) Slot.unset).toArray = ls at hl ⊢
  have hl : lv_has ls 1 [(0, .int v0)] := hl
  unfold jf_X12_rankOf at hF
  refine lv_iload_n hx hb dX12_rankOf_0 rfl (lv_at hl 0 rfl) ?_
  refine lv_bipush (v := 100) hx hb dX12_rankOf_1 (by decide) ?_
  refine lv_icmp_ne (tgt := 10) hx hb dX12_rankOf_3 (by decide) (fun c1 => ?_) (fun c1 => ?_)
  · have hF := xel hF c1
    refine lv_iconst (v := 1) hx hb dX12_rankOf_10 (by decide) ?_
    refine lv_iload_n hx hb dX12_rankOf_11 rfl (lv_at hl 0 rfl) ?_
    refine lv_iadd hx hb dX12_rankOf_12 ?_
    cases hF
    exact x_iret C0 hR hS dX12_rankOf_13
  · have hF := xif hF c1
    refine lv_iconst (v := 0) hx hb dX12_rankOf_6 (by decide) ?_
    refine lv_goto (tgt := 13) hx hb dX12_rankOf_7 (by decide) ?_
    cases hF
    exact x_iret C0 hR hS dX12_rankOf_13
theorem xm_X12_rankOf : xMw yX12_rankOf cX12_rankOf 1 (some .int) 1 := ⟨xin 1684 (by decide +kernel) rfl, xin 126 (by decide +kernel) rfl, by decide +kernel⟩
theorem xs_X12_rankOf : Cond.static yX12_rankOf ∈ xT := xin 1683 (by decide +kernel) rfl
theorem dX12_isAhead_0 : decode cX12_isAhead 0 = .ok (.aload_n 0, 1) := by decide +kernel
theorem dX12_isAhead_1 : decode cX12_isAhead 1 = .ok (.iload_n 1, 1) := by decide +kernel
theorem dX12_isAhead_2 : decode cX12_isAhead 2 = .ok (.iload_n 2, 1) := by decide +kernel
theorem dX12_isAhead_3 : decode cX12_isAhead 3 = .ok (.invokevirtual 294, 3) := by decide +kernel
theorem dX12_isAhead_6 : decode cX12_isAhead 6 = .ok (.istore_n 3, 1) := by decide +kernel
theorem dX12_isAhead_7 : decode cX12_isAhead 7 = .ok (.iload_n 3, 1) := by decide +kernel
theorem dX12_isAhead_8 : decode cX12_isAhead 8 = .ok (.aload_n 0, 1) := by decide +kernel
theorem dX12_isAhead_9 : decode cX12_isAhead 9 = .ok (.getfield 32, 3) := by decide +kernel
theorem dX12_isAhead_12 : decode cX12_isAhead 12 = .ok (.iload_n 1, 1) := by decide +kernel
theorem dX12_isAhead_13 : decode cX12_isAhead 13 = .ok (.iaload, 1) := by decide +kernel
theorem dX12_isAhead_14 : decode cX12_isAhead 14 = .ok (.if_icmp .eq 13, 3) := by decide +kernel
theorem dX12_isAhead_17 : decode cX12_isAhead 17 = .ok (.iload_n 3, 1) := by decide +kernel
theorem dX12_isAhead_18 : decode cX12_isAhead 18 = .ok (.aload_n 0, 1) := by decide +kernel
theorem dX12_isAhead_19 : decode cX12_isAhead 19 = .ok (.getfield 32, 3) := by decide +kernel
theorem dX12_isAhead_22 : decode cX12_isAhead 22 = .ok (.iload_n 2, 1) := by decide +kernel
theorem dX12_isAhead_23 : decode cX12_isAhead 23 = .ok (.iaload, 1) := by decide +kernel
theorem dX12_isAhead_24 : decode cX12_isAhead 24 = .ok (.if_icmp .ne 14, 3) := by decide +kernel
theorem dX12_isAhead_27 : decode cX12_isAhead 27 = .ok (.iload_n 1, 1) := by decide +kernel
theorem dX12_isAhead_28 : decode cX12_isAhead 28 = .ok (.iload_n 2, 1) := by decide +kernel
theorem dX12_isAhead_29 : decode cX12_isAhead 29 = .ok (.if_icmp .ge 7, 3) := by decide +kernel
theorem dX12_isAhead_32 : decode cX12_isAhead 32 = .ok (.iconst 1, 1) := by decide +kernel
theorem dX12_isAhead_33 : decode cX12_isAhead 33 = .ok (.goto 4, 3) := by decide +kernel
theorem dX12_isAhead_36 : decode cX12_isAhead 36 = .ok (.iconst 0, 1) := by decide +kernel
theorem dX12_isAhead_37 : decode cX12_isAhead 37 = .ok (.ireturn, 1) := by decide +kernel
theorem dX12_isAhead_38 : decode cX12_isAhead 38 = .ok (.aload_n 0, 1) := by decide +kernel
theorem dX12_isAhead_39 : decode cX12_isAhead 39 = .ok (.iload_n 1, 1) := by decide +kernel
theorem dX12_isAhead_40 : decode cX12_isAhead 40 = .ok (.iload_n 3, 1) := by decide +kernel
theorem dX12_isAhead_41 : decode cX12_isAhead 41 = .ok (.invokevirtual 291, 3) := by decide +kernel
theorem dX12_isAhead_44 : decode cX12_isAhead 44 = .ok (.invokestatic 297, 3) := by decide +kernel
theorem dX12_isAhead_47 : decode cX12_isAhead 47 = .ok (.aload_n 0, 1) := by decide +kernel
theorem dX12_isAhead_48 : decode cX12_isAhead 48 = .ok (.iload_n 2, 1) := by decide +kernel
theorem dX12_isAhead_49 : decode cX12_isAhead 49 = .ok (.iload_n 3, 1) := by decide +kernel
theorem dX12_isAhead_50 : decode cX12_isAhead 50 = .ok (.invokevirtual 291, 3) := by decide +kernel
theorem dX12_isAhead_53 : decode cX12_isAhead 53 = .ok (.invokestatic 297, 3) := by decide +kernel
theorem dX12_isAhead_56 : decode cX12_isAhead 56 = .ok (.if_icmp .ge 7, 3) := by decide +kernel
theorem dX12_isAhead_59 : decode cX12_isAhead 59 = .ok (.iconst 1, 1) := by decide +kernel
theorem dX12_isAhead_60 : decode cX12_isAhead 60 = .ok (.goto 4, 3) := by decide +kernel
theorem dX12_isAhead_63 : decode cX12_isAhead 63 = .ok (.iconst 0, 1) := by decide +kernel
theorem dX12_isAhead_64 : decode cX12_isAhead 64 = .ok (.ireturn, 1) := by decide +kernel
theorem wl_X12_294 : Cond.methodLink RX12 294 yX12_sharedBy ∈ xT := xin 1674 (by decide +kernel) rfl
theorem wl_X12_297 : Cond.methodLink RX12 297 yX12_rankOf ∈ xT := xin 1682 (by decide +kernel) rfl
section XN_X12_isAhead
variable {p : Program} {l : Launch} {e : Env} {R : Room} {s : State} {m : MethodId} {args : Array Value} {below : List Frame} {meth : Method} {c : Code} {H H0 : Heap} {locs : List Loc} {cells slots : Nat} {Q : State → Prop} {cc : ByteArray} {nL pc : Nat} {rt : Option FieldType} {ls : Array Slot} {rest : List Value} {D : xD} {ty : xTy} {h : xH}
theorem cl_X12_294 {v0 : Nat} {v1 : Int32} {v2 : Int32} {r : Int32} (C0 : xC D RX12 cc nL rt p s m args meth c) (hR : xRep D ty h H) (hS : xS ty H0 H locs) (hF : jf_X12_sharedBy ty h v0 v1 v2 = some r) (t_v0 : ty v0 = some (0, 12)) (hrm : jr_X12_sharedBy.frames + 1 ≤ R.frames ∧ 8 + (4 + 11) + jr_X12_sharedBy.locals ≤ R.locals) (hsz : ls.size = nL) (hW : (rest.map fun v => v.category).sum ≤ 8) (hf : cells ≤ R.cells ∧ slots ≤ R.slots) (hdg : decode cc pc = .ok (.invokevirtual 294, 3)) (kk : ∀ (H1 : Heap) (locs1 : List Loc), xRep D ty h H1 → xS ty H0 H1 locs1 → W p l e R s m args below meth c H1 locs1 cells slots Q (F0 m (pc + 3) ls (.int r :: rest))) : W p l e R s m args below meth c H locs cells slots Q (F0 m pc ls (.int v2 :: .int v1 :: .ref v0 :: rest)) := x_callV C0 (jc_X12_sharedBy t_v0 hF) xm_X12_sharedBy xi_X12_sharedBy xe_X12_sharedBy wl_X12_294 ⟨rfl, rfl, hrm⟩ (ci := 12) rfl t_v0 hR hS (As := [.int v1, .int v2]) rfl hsz rfl hW hdg hf kk
theorem cl_X12_297 {v0 : Int32} {r : Int32} (C0 : xC D RX12 cc nL rt p s m args meth c) (hR : xRep D ty h H) (hS : xS ty H0 H locs) (hF : jf_X12_rankOf v0 = some r) (hrm : jr_X12_rankOf.frames + 1 ≤ R.frames ∧ 8 + (1 + 11) + jr_X12_rankOf.locals ≤ R.locals) (hsz : ls.size = nL) (hW : (rest.map fun v => v.category).sum ≤ 8) (hf : cells ≤ R.cells ∧ slots ≤ R.slots) (hdg : decode cc pc = .ok (.invokestatic 297, 3)) (kk : ∀ (H1 : Heap) (locs1 : List Loc), xRep D ty h H1 → xS ty H0 H1 locs1 → W p l e R s m args below meth c H1 locs1 cells slots Q (F0 m (pc + 3) ls (.int r :: rest))) : W p l e R s m args below meth c H locs cells slots Q (F0 m pc ls (.int v0 :: rest)) := x_callS C0 (jc_X12_rankOf  hF) xm_X12_rankOf xs_X12_rankOf wl_X12_297 ⟨rfl, rfl, hrm⟩ hR hS (As := [.int v0]) rfl hsz rfl hW hdg hf kk
end XN_X12_isAhead
set_option maxHeartbeats 4000000 in
set_option maxRecDepth 100000 in
theorem jc_X12_isAhead {l : Launch} {D : xD} {ty : xTy} {h : xH} {v0 : Nat} {v1 : Int32} {v2 : Int32} {r : Int32} (t_v0 : ty v0 = some (0, 12)) (hF : jf_X12_isAhead ty h v0 v1 v2 = some r) : Met l yX12_isAhead (xws yX12_isAhead cX12_isAhead 4 (some .boolean)) jr_X12_isAhead (xPc D ty h [.ref v0, .int v1, .int v2]) (xQ D ty (some (.int r)) h) 0 0 (xdom ty) := by
  refine x_met (by decide) ?_
  intro p e s m below meth c C0 hR
  generalize hargs : ([.ref v0, .int v1, .int v2] : List Value).toArray = args at C0 ⊢
  have hx := C0.1
  have hb := C0.2.1
  have hown := C0.2.2.2.2.2.1
  have hts := C0.2.2.2.2.2.2.1
  have hS : xS ty s.heap s.heap [] := xS.rf
  have hl := lv_entry ([.ref v0, .int v1, .int v2]) (n := 4) (Nat.le_of_ble_eq_true rfl)
  rw [← hargs, lg_entry_eq]
  rw [hargs]
  generalize (lg_sl ([.ref v0, .int v1, .int v2]) ++ List.replicate (4 - (lg_sl ([.ref v0, .int v1, .int v2])).length) Slot.unset).toArray = ls at hl ⊢
  have hl : lv_has ls 4 [(0, .ref v0), (1, .int v1), (2, .int v2)] := hl
  unfold jf_X12_isAhead at hF
  refine lv_aload_n hx hb dX12_isAhead_0 rfl (lv_at hl 0 rfl) ?_
  refine lv_iload_n hx hb dX12_isAhead_1 rfl (lv_at hl 1 rfl) ?_
  refine lv_iload_n hx hb dX12_isAhead_2 rfl (lv_at hl 2 rfl) ?_
  obtain ⟨a1, e_a1, hF⟩ := xbd hF
  refine cl_X12_294 C0 hR hS e_a1 t_v0 ⟨(Nat.le_of_ble_eq_true rfl), (Nat.le_of_ble_eq_true rfl)⟩ hl.1 (Nat.le_of_ble_eq_true rfl) ⟨(Nat.le_of_ble_eq_true rfl), (Nat.le_of_ble_eq_true rfl)⟩ dX12_isAhead_3 (fun H locs hR hS => ?_)
  refine lv_istore_n (lv' := [(3, .int a1), (0, .ref v0), (1, .int v1), (2, .int v2)]) hx hb dX12_isAhead_6 rfl hl (by decide) rfl (fun ls hl => ?_)
  refine lv_iload_n hx hb dX12_isAhead_7 rfl (lv_at hl 0 rfl) ?_
  refine lv_aload_n hx hb dX12_isAhead_8 rfl (lv_at hl 1 rfl) ?_
  obtain ⟨a2, e_a2, hF⟩ := xbd hF
  refine gf_X12_32 C0 hR t_v0 e_a2 dX12_isAhead_9 ?_
  refine lv_iload_n hx hb dX12_isAhead_12 rfl (lv_at hl 2 rfl) ?_
  obtain ⟨a3, e_a3, hF⟩ := xbd hF
  refine x_iald C0 hR e_a3 dX12_isAhead_13 ?_
  refine lv_icmp_eq (tgt := 27) hx hb dX12_isAhead_14 (by decide) (fun c4 => ?_) (fun c4 => ?_)
  · have hF := xif hF c4
    refine lv_iload_n hx hb dX12_isAhead_27 rfl (lv_at hl 2 rfl) ?_
    refine lv_iload_n hx hb dX12_isAhead_28 rfl (lv_at hl 3 rfl) ?_
    refine lv_icmp_ge (tgt := 36) hx hb dX12_isAhead_29 (by decide) (fun c5 => ?_) (fun c5 => ?_)
    · have hF := xif hF c5
      refine lv_iconst (v := 0) hx hb dX12_isAhead_36 (by decide) ?_
      cases hF
      exact x_zret (w := 0) C0 hR hS (by decide) dX12_isAhead_37
    · have hF := xel hF c5
      refine lv_iconst (v := 1) hx hb dX12_isAhead_32 (by decide) ?_
      refine lv_goto (tgt := 37) hx hb dX12_isAhead_33 (by decide) ?_
      cases hF
      exact x_zret (w := 1) C0 hR hS (by decide) dX12_isAhead_37
  · have hF := xel hF c4
    refine lv_iload_n hx hb dX12_isAhead_17 rfl (lv_at hl 0 rfl) ?_
    refine lv_aload_n hx hb dX12_isAhead_18 rfl (lv_at hl 1 rfl) ?_
    obtain ⟨a6, e_a6, hF⟩ := xbd hF
    refine gf_X12_32 C0 hR t_v0 e_a6 dX12_isAhead_19 ?_
    refine lv_iload_n hx hb dX12_isAhead_22 rfl (lv_at hl 3 rfl) ?_
    obtain ⟨a7, e_a7, hF⟩ := xbd hF
    refine x_iald C0 hR e_a7 dX12_isAhead_23 ?_
    refine lv_icmp_ne (tgt := 38) hx hb dX12_isAhead_24 (by decide) (fun c8 => ?_) (fun c8 => ?_)
    · have hF := xel hF c8
      refine lv_aload_n hx hb dX12_isAhead_38 rfl (lv_at hl 1 rfl) ?_
      refine lv_iload_n hx hb dX12_isAhead_39 rfl (lv_at hl 2 rfl) ?_
      refine lv_iload_n hx hb dX12_isAhead_40 rfl (lv_at hl 0 rfl) ?_
      obtain ⟨a9, e_a9, hF⟩ := xbd hF
      refine cl_X12_291 C0 hR hS e_a9 t_v0 ⟨(Nat.le_of_ble_eq_true rfl), (Nat.le_of_ble_eq_true rfl)⟩ hl.1 (Nat.le_of_ble_eq_true rfl) ⟨(Nat.le_of_ble_eq_true rfl), (Nat.le_of_ble_eq_true rfl)⟩ dX12_isAhead_41 (fun H locs hR hS => ?_)
      obtain ⟨a10, e_a10, hF⟩ := xbd hF
      refine cl_X12_297 C0 hR hS e_a10  ⟨(Nat.le_of_ble_eq_true rfl), (Nat.le_of_ble_eq_true rfl)⟩ hl.1 (Nat.le_of_ble_eq_true rfl) ⟨(Nat.le_of_ble_eq_true rfl), (Nat.le_of_ble_eq_true rfl)⟩ dX12_isAhead_44 (fun H locs hR hS => ?_)
      refine lv_aload_n hx hb dX12_isAhead_47 rfl (lv_at hl 1 rfl) ?_
      refine lv_iload_n hx hb dX12_isAhead_48 rfl (lv_at hl 3 rfl) ?_
      refine lv_iload_n hx hb dX12_isAhead_49 rfl (lv_at hl 0 rfl) ?_
      obtain ⟨a11, e_a11, hF⟩ := xbd hF
      refine cl_X12_291 C0 hR hS e_a11 t_v0 ⟨(Nat.le_of_ble_eq_true rfl), (Nat.le_of_ble_eq_true rfl)⟩ hl.1 (Nat.le_of_ble_eq_true rfl) ⟨(Nat.le_of_ble_eq_true rfl), (Nat.le_of_ble_eq_true rfl)⟩ dX12_isAhead_50 (fun H locs hR hS => ?_)
      obtain ⟨a12, e_a12, hF⟩ := xbd hF
      refine cl_X12_297 C0 hR hS e_a12  ⟨(Nat.le_of_ble_eq_true rfl), (Nat.le_of_ble_eq_true rfl)⟩ hl.1 (Nat.le_of_ble_eq_true rfl) ⟨(Nat.le_of_ble_eq_true rfl), (Nat.le_of_ble_eq_true rfl)⟩ dX12_isAhead_53 (fun H locs hR hS => ?_)
      refine lv_icmp_ge (tgt := 63) hx hb dX12_isAhead_56 (by decide) (fun c13 => ?_) (fun c13 => ?_)
      · have hF := xif hF c13
        refine lv_iconst (v := 0) hx hb dX12_isAhead_63 (by decide) ?_
        cases hF
        exact x_zret (w := 0) C0 hR hS (by decide) dX12_isAhead_64
      · have hF := xel hF c13
        refine lv_iconst (v := 1) hx hb dX12_isAhead_59 (by decide) ?_
        refine lv_goto (tgt := 64) hx hb dX12_isAhead_60 (by decide) ?_
        cases hF
        exact x_zret (w := 1) C0 hR hS (by decide) dX12_isAhead_64
    · have hF := xif hF c8
      refine lv_iload_n hx hb dX12_isAhead_27 rfl (lv_at hl 2 rfl) ?_
      refine lv_iload_n hx hb dX12_isAhead_28 rfl (lv_at hl 3 rfl) ?_
      refine lv_icmp_ge (tgt := 36) hx hb dX12_isAhead_29 (by decide) (fun c14 => ?_) (fun c14 => ?_)
      · have hF := xif hF c14
        refine lv_iconst (v := 0) hx hb dX12_isAhead_36 (by decide) ?_
        cases hF
        exact x_zret (w := 0) C0 hR hS (by decide) dX12_isAhead_37
      · have hF := xel hF c14
        refine lv_iconst (v := 1) hx hb dX12_isAhead_32 (by decide) ?_
        refine lv_goto (tgt := 37) hx hb dX12_isAhead_33 (by decide) ?_
        cases hF
        exact x_zret (w := 1) C0 hR hS (by decide) dX12_isAhead_37
theorem xm_X12_isAhead : xMw yX12_isAhead cX12_isAhead 4 (some .boolean) 2 := ⟨xin 1673 (by decide +kernel) rfl, xin 126 (by decide +kernel) rfl, by decide +kernel⟩
theorem xi_X12_isAhead : Cond.instanceMethod yX12_isAhead ∈ xT := xin 1672 (by decide +kernel) rfl
theorem xe_X12_isAhead : Cond.selects yX12_isAhead.cls yX12_isAhead yX12_isAhead ∈ xT := xin 87 (by decide +kernel) rfl
theorem dX12_placeOf_0 : decode cX12_placeOf 0 = .ok (.iconst 0, 1) := by decide +kernel
theorem dX12_placeOf_1 : decode cX12_placeOf 1 = .ok (.istore_n 2, 1) := by decide +kernel
theorem dX12_placeOf_2 : decode cX12_placeOf 2 = .ok (.iconst 0, 1) := by decide +kernel
theorem dX12_placeOf_3 : decode cX12_placeOf 3 = .ok (.istore_n 3, 1) := by decide +kernel
theorem dX12_placeOf_4 : decode cX12_placeOf 4 = .ok (.iload_n 3, 1) := by decide +kernel
theorem dX12_placeOf_5 : decode cX12_placeOf 5 = .ok (.aload_n 0, 1) := by decide +kernel
theorem dX12_placeOf_6 : decode cX12_placeOf 6 = .ok (.getfield 178, 3) := by decide +kernel
theorem dX12_placeOf_9 : decode cX12_placeOf 9 = .ok (.if_icmp .ge 39, 3) := by decide +kernel
theorem dX12_placeOf_12 : decode cX12_placeOf 12 = .ok (.iload_n 2, 1) := by decide +kernel
theorem dX12_placeOf_13 : decode cX12_placeOf 13 = .ok (.iload_n 3, 1) := by decide +kernel
theorem dX12_placeOf_14 : decode cX12_placeOf 14 = .ok (.iload_n 1, 1) := by decide +kernel
theorem dX12_placeOf_15 : decode cX12_placeOf 15 = .ok (.if_icmp .eq 24, 3) := by decide +kernel
theorem dX12_placeOf_18 : decode cX12_placeOf 18 = .ok (.aload_n 0, 1) := by decide +kernel
theorem dX12_placeOf_19 : decode cX12_placeOf 19 = .ok (.iload_n 3, 1) := by decide +kernel
theorem dX12_placeOf_20 : decode cX12_placeOf 20 = .ok (.invokevirtual 285, 3) := by decide +kernel
theorem dX12_placeOf_23 : decode cX12_placeOf 23 = .ok (.ifCond .eq 16, 3) := by decide +kernel
theorem dX12_placeOf_26 : decode cX12_placeOf 26 = .ok (.aload_n 0, 1) := by decide +kernel
theorem dX12_placeOf_27 : decode cX12_placeOf 27 = .ok (.iload_n 3, 1) := by decide +kernel
theorem dX12_placeOf_28 : decode cX12_placeOf 28 = .ok (.iload_n 1, 1) := by decide +kernel
theorem dX12_placeOf_29 : decode cX12_placeOf 29 = .ok (.invokevirtual 300, 3) := by decide +kernel
theorem dX12_placeOf_32 : decode cX12_placeOf 32 = .ok (.ifCond .eq 7, 3) := by decide +kernel
theorem dX12_placeOf_35 : decode cX12_placeOf 35 = .ok (.iconst 1, 1) := by decide +kernel
theorem dX12_placeOf_36 : decode cX12_placeOf 36 = .ok (.goto 4, 3) := by decide +kernel
theorem dX12_placeOf_39 : decode cX12_placeOf 39 = .ok (.iconst 0, 1) := by decide +kernel
theorem dX12_placeOf_40 : decode cX12_placeOf 40 = .ok (.iadd, 1) := by decide +kernel
theorem dX12_placeOf_41 : decode cX12_placeOf 41 = .ok (.istore_n 2, 1) := by decide +kernel
theorem dX12_placeOf_42 : decode cX12_placeOf 42 = .ok (.iinc 3 1, 3) := by decide +kernel
theorem dX12_placeOf_45 : decode cX12_placeOf 45 = .ok (.goto (-41), 3) := by decide +kernel
theorem dX12_placeOf_48 : decode cX12_placeOf 48 = .ok (.iload_n 2, 1) := by decide +kernel
theorem dX12_placeOf_49 : decode cX12_placeOf 49 = .ok (.ireturn, 1) := by decide +kernel
theorem wl_X12_300 : Cond.methodLink RX12 300 yX12_isAhead ∈ xT := xin 1670 (by decide +kernel) rfl
section XN_X12_placeOf
variable {p : Program} {l : Launch} {e : Env} {R : Room} {s : State} {m : MethodId} {args : Array Value} {below : List Frame} {meth : Method} {c : Code} {H H0 : Heap} {locs : List Loc} {cells slots : Nat} {Q : State → Prop} {cc : ByteArray} {nL pc : Nat} {rt : Option FieldType} {ls : Array Slot} {rest : List Value} {D : xD} {ty : xTy} {h : xH}
theorem cl_X12_300 {v0 : Nat} {v1 : Int32} {v2 : Int32} {r : Int32} (C0 : xC D RX12 cc nL rt p s m args meth c) (hR : xRep D ty h H) (hS : xS ty H0 H locs) (hF : jf_X12_isAhead ty h v0 v1 v2 = some r) (t_v0 : ty v0 = some (0, 12)) (hrm : jr_X12_isAhead.frames + 1 ≤ R.frames ∧ 8 + (4 + 11) + jr_X12_isAhead.locals ≤ R.locals) (hsz : ls.size = nL) (hW : (rest.map fun v => v.category).sum ≤ 8) (hf : cells ≤ R.cells ∧ slots ≤ R.slots) (hdg : decode cc pc = .ok (.invokevirtual 300, 3)) (kk : ∀ (H1 : Heap) (locs1 : List Loc), xRep D ty h H1 → xS ty H0 H1 locs1 → W p l e R s m args below meth c H1 locs1 cells slots Q (F0 m (pc + 3) ls (.int r :: rest))) : W p l e R s m args below meth c H locs cells slots Q (F0 m pc ls (.int v2 :: .int v1 :: .ref v0 :: rest)) := x_callV C0 (jc_X12_isAhead t_v0 hF) xm_X12_isAhead xi_X12_isAhead xe_X12_isAhead wl_X12_300 ⟨rfl, rfl, hrm⟩ (ci := 12) rfl t_v0 hR hS (As := [.int v1, .int v2]) rfl hsz rfl hW hdg hf kk
end XN_X12_placeOf
set_option maxHeartbeats 4000000 in
set_option maxRecDepth 100000 in
theorem jw_X12_placeOf_4 {p : Program} {l : Launch} {e : Env} {s : State} {m : MethodId} {args : Array Value} {below : List Frame} {meth : Method} {c : Code} {D : xD} {ty : xTy} {h : xH} (C0 : xC D RX12 cX12_placeOf 4 (some .int) p s m args meth c) {r : Int32} : ∀ n : Nat, ∀ (v0 : Nat) (v1 : Int32) (v2 : Int32) (v3 : Int32), ty v0 = some (0, 12) → jf_X12_placeOf_4 ty h n v0 v1 v2 v3 = some r → ∀ (H : Heap) (locs : List Loc), xRep D ty h H → xS ty s.heap H locs → ∀ ls : Array Slot, lv_has ls 4 [(0, .ref v0), (1, .int v1), (2, .int v2), (3, .int v3)] → W p l e jr_X12_placeOf s m args below meth c H locs 0 0 (MQ below (xQ D ty (some (.int r)) h) args s 0 0 (xdom ty)) (F0 m 4 ls []) := by
  have hx := C0.1
  have hb := C0.2.1
  have hown := C0.2.2.2.2.2.1
  have hts := C0.2.2.2.2.2.2.1
  intro n
  induction n with
  | zero =>
    intro v0 v1 v2 v3 t_v0 hF H locs hR hS ls hl
    cases hF
  | succ n ih =>
    intro v0 v1 v2 v3 t_v0 hF H locs hR hS ls hl
    rw [jf_X12_placeOf_4_s] at hF
    refine lv_iload_n hx hb dX12_placeOf_4 rfl (lv_at hl 3 rfl) ?_
    refine lv_aload_n hx hb dX12_placeOf_5 rfl (lv_at hl 0 rfl) ?_
    refine gf_X12_178 C0 hR t_v0 dX12_placeOf_6 ?_
    refine lv_icmp_ge (tgt := 48) hx hb dX12_placeOf_9 (by decide) (fun c1 => ?_) (fun c1 => ?_)
    · have hF := xif hF c1
      refine lv_iload_n hx hb dX12_placeOf_48 rfl (lv_at hl 2 rfl) ?_
      cases hF
      exact x_iret C0 hR hS dX12_placeOf_49
    · have hF := xel hF c1
      refine lv_iload_n hx hb dX12_placeOf_12 rfl (lv_at hl 2 rfl) ?_
      refine lv_iload_n hx hb dX12_placeOf_13 rfl (lv_at hl 3 rfl) ?_
      refine lv_iload_n hx hb dX12_placeOf_14 rfl (lv_at hl 1 rfl) ?_
      refine lv_icmp_eq (tgt := 39) hx hb dX12_placeOf_15 (by decide) (fun c2 => ?_) (fun c2 => ?_)
      · have hF := xif hF c2
        refine lv_iconst (v := 0) hx hb dX12_placeOf_39 (by decide) ?_
        refine lv_iadd hx hb dX12_placeOf_40 ?_
        refine lv_istore_n (lv' := [(2, .int (v2 + 0)), (0, .ref v0), (1, .int v1), (3, .int v3)]) hx hb dX12_placeOf_41 rfl hl (by decide) rfl (fun ls hl => ?_)
        refine lv_iinc (v := v3 + 1) (lv' := [(3, .int (v3 + 1)), (2, .int (v2 + 0)), (0, .ref v0), (1, .int v1)]) hx hb dX12_placeOf_42 hl (k := 3) rfl rfl (by decide) rfl (fun ls hl => ?_)
        refine lv_goto (tgt := 4) hx hb dX12_placeOf_45 (by decide) ?_
        exact ih _ _ _ _ t_v0 hF _ _ hR hS _ (lv_sub hl [2, 3, 1, 0] rfl)
      · have hF := xel hF c2
        refine lv_aload_n hx hb dX12_placeOf_18 rfl (lv_at hl 0 rfl) ?_
        refine lv_iload_n hx hb dX12_placeOf_19 rfl (lv_at hl 3 rfl) ?_
        obtain ⟨a3, e_a3, hF⟩ := xbd hF
        refine cl_X12_285 C0 hR hS e_a3 t_v0 ⟨(Nat.le_of_ble_eq_true rfl), (Nat.le_of_ble_eq_true rfl)⟩ hl.1 (Nat.le_of_ble_eq_true rfl) ⟨(Nat.le_of_ble_eq_true rfl), (Nat.le_of_ble_eq_true rfl)⟩ dX12_placeOf_20 (fun H locs hR hS => ?_)
        refine lv_if_eq (tgt := 39) hx hb dX12_placeOf_23 (by decide) (fun c4 => ?_) (fun c4 => ?_)
        · have hF := xif hF c4
          refine lv_iconst (v := 0) hx hb dX12_placeOf_39 (by decide) ?_
          refine lv_iadd hx hb dX12_placeOf_40 ?_
          refine lv_istore_n (lv' := [(2, .int (v2 + 0)), (0, .ref v0), (1, .int v1), (3, .int v3)]) hx hb dX12_placeOf_41 rfl hl (by decide) rfl (fun ls hl => ?_)
          refine lv_iinc (v := v3 + 1) (lv' := [(3, .int (v3 + 1)), (2, .int (v2 + 0)), (0, .ref v0), (1, .int v1)]) hx hb dX12_placeOf_42 hl (k := 3) rfl rfl (by decide) rfl (fun ls hl => ?_)
          refine lv_goto (tgt := 4) hx hb dX12_placeOf_45 (by decide) ?_
          exact ih _ _ _ _ t_v0 hF _ _ hR hS _ (lv_sub hl [2, 3, 1, 0] rfl)
        · have hF := xel hF c4
          refine lv_aload_n hx hb dX12_placeOf_26 rfl (lv_at hl 0 rfl) ?_
          refine lv_iload_n hx hb dX12_placeOf_27 rfl (lv_at hl 3 rfl) ?_
          refine lv_iload_n hx hb dX12_placeOf_28 rfl (lv_at hl 1 rfl) ?_
          obtain ⟨a5, e_a5, hF⟩ := xbd hF
          refine cl_X12_300 C0 hR hS e_a5 t_v0 ⟨(Nat.le_of_ble_eq_true rfl), (Nat.le_of_ble_eq_true rfl)⟩ hl.1 (Nat.le_of_ble_eq_true rfl) ⟨(Nat.le_of_ble_eq_true rfl), (Nat.le_of_ble_eq_true rfl)⟩ dX12_placeOf_29 (fun H locs hR hS => ?_)
          refine lv_if_eq (tgt := 39) hx hb dX12_placeOf_32 (by decide) (fun c6 => ?_) (fun c6 => ?_)
          · have hF := xif hF c6
            refine lv_iconst (v := 0) hx hb dX12_placeOf_39 (by decide) ?_
            refine lv_iadd hx hb dX12_placeOf_40 ?_
            refine lv_istore_n (lv' := [(2, .int (v2 + 0)), (0, .ref v0), (1, .int v1), (3, .int v3)]) hx hb dX12_placeOf_41 rfl hl (by decide) rfl (fun ls hl => ?_)
            refine lv_iinc (v := v3 + 1) (lv' := [(3, .int (v3 + 1)), (2, .int (v2 + 0)), (0, .ref v0), (1, .int v1)]) hx hb dX12_placeOf_42 hl (k := 3) rfl rfl (by decide) rfl (fun ls hl => ?_)
            refine lv_goto (tgt := 4) hx hb dX12_placeOf_45 (by decide) ?_
            exact ih _ _ _ _ t_v0 hF _ _ hR hS _ (lv_sub hl [2, 3, 1, 0] rfl)
          · have hF := xel hF c6
            refine lv_iconst (v := 1) hx hb dX12_placeOf_35 (by decide) ?_
            refine lv_goto (tgt := 40) hx hb dX12_placeOf_36 (by decide) ?_
            refine lv_iadd hx hb dX12_placeOf_40 ?_
            refine lv_istore_n (lv' := [(2, .int (v2 + 1)), (0, .ref v0), (1, .int v1), (3, .int v3)]) hx hb dX12_placeOf_41 rfl hl (by decide) rfl (fun ls hl => ?_)
            refine lv_iinc (v := v3 + 1) (lv' := [(3, .int (v3 + 1)), (2, .int (v2 + 1)), (0, .ref v0), (1, .int v1)]) hx hb dX12_placeOf_42 hl (k := 3) rfl rfl (by decide) rfl (fun ls hl => ?_)
            refine lv_goto (tgt := 4) hx hb dX12_placeOf_45 (by decide) ?_
            exact ih _ _ _ _ t_v0 hF _ _ hR hS _ (lv_sub hl [2, 3, 1, 0] rfl)
set_option maxHeartbeats 4000000 in
set_option maxRecDepth 100000 in
theorem jc_X12_placeOf {l : Launch} {D : xD} {ty : xTy} {h : xH} {v0 : Nat} {v1 : Int32} {r : Int32} (t_v0 : ty v0 = some (0, 12)) (hF : jf_X12_placeOf ty h v0 v1 = some r) : Met l yX12_placeOf (xws yX12_placeOf cX12_placeOf 4 (some .int)) jr_X12_placeOf (xPc D ty h [.ref v0, .int v1]) (xQ D ty (some (.int r)) h) 0 0 (xdom ty) := by
  refine x_met (by decide) ?_
  intro p e s m below meth c C0 hR
  generalize hargs : ([.ref v0, .int v1] : List Value).toArray = args at C0 ⊢
  have hx := C0.1
  have hb := C0.2.1
  have hown := C0.2.2.2.2.2.1
  have hts := C0.2.2.2.2.2.2.1
  have hS : xS ty s.heap s.heap [] := xS.rf
  have hl := lv_entry ([.ref v0, .int v1]) (n := 4) (Nat.le_of_ble_eq_true rfl)
  rw [← hargs, lg_entry_eq]
  rw [hargs]
  generalize (lg_sl ([.ref v0, .int v1]) ++ List.replicate (4 - (lg_sl ([.ref v0, .int v1])).length) Slot.unset).toArray = ls at hl ⊢
  have hl : lv_has ls 4 [(0, .ref v0), (1, .int v1)] := hl
  unfold jf_X12_placeOf at hF
  refine lv_iconst (v := 0) hx hb dX12_placeOf_0 (by decide) ?_
  refine lv_istore_n (lv' := [(2, .int 0), (0, .ref v0), (1, .int v1)]) hx hb dX12_placeOf_1 rfl hl (by decide) rfl (fun ls hl => ?_)
  refine lv_iconst (v := 0) hx hb dX12_placeOf_2 (by decide) ?_
  refine lv_istore_n (lv' := [(3, .int 0), (2, .int 0), (0, .ref v0), (1, .int v1)]) hx hb dX12_placeOf_3 rfl hl (by decide) rfl (fun ls hl => ?_)
  obtain ⟨_, hF⟩ := xlim_sp hF
  exact jw_X12_placeOf_4 C0 _ _ _ _ _ t_v0 hF _ _ hR hS _ (lv_sub hl [2, 3, 1, 0] rfl)
theorem xm_X12_placeOf : xMw yX12_placeOf cX12_placeOf 4 (some .int) 1 := ⟨xin 1669 (by decide +kernel) rfl, xin 126 (by decide +kernel) rfl, by decide +kernel⟩
theorem xi_X12_placeOf : Cond.instanceMethod yX12_placeOf ∈ xT := xin 1668 (by decide +kernel) rfl
theorem xe_X12_placeOf : Cond.selects yX12_placeOf.cls yX12_placeOf yX12_placeOf ∈ xT := xin 86 (by decide +kernel) rfl
theorem dX12_isFirstOf_0 : decode cX12_isFirstOf 0 = .ok (.iconst 0, 1) := by decide +kernel
theorem dX12_isFirstOf_1 : decode cX12_isFirstOf 1 = .ok (.istore_n 3, 1) := by decide +kernel
theorem dX12_isFirstOf_2 : decode cX12_isFirstOf 2 = .ok (.iload_n 3, 1) := by decide +kernel
theorem dX12_isFirstOf_3 : decode cX12_isFirstOf 3 = .ok (.iload_n 1, 1) := by decide +kernel
theorem dX12_isFirstOf_4 : decode cX12_isFirstOf 4 = .ok (.if_icmp .ge 29, 3) := by decide +kernel
theorem dX12_isFirstOf_7 : decode cX12_isFirstOf 7 = .ok (.aload_n 0, 1) := by decide +kernel
theorem dX12_isFirstOf_8 : decode cX12_isFirstOf 8 = .ok (.iload_n 3, 1) := by decide +kernel
theorem dX12_isFirstOf_9 : decode cX12_isFirstOf 9 = .ok (.invokevirtual 285, 3) := by decide +kernel
theorem dX12_isFirstOf_12 : decode cX12_isFirstOf 12 = .ok (.ifCond .eq 15, 3) := by decide +kernel
theorem dX12_isFirstOf_15 : decode cX12_isFirstOf 15 = .ok (.aload_n 0, 1) := by decide +kernel
theorem dX12_isFirstOf_16 : decode cX12_isFirstOf 16 = .ok (.iload_n 3, 1) := by decide +kernel
theorem dX12_isFirstOf_17 : decode cX12_isFirstOf 17 = .ok (.iload_n 1, 1) := by decide +kernel
theorem dX12_isFirstOf_18 : decode cX12_isFirstOf 18 = .ok (.invokevirtual 294, 3) := by decide +kernel
theorem dX12_isFirstOf_21 : decode cX12_isFirstOf 21 = .ok (.iload_n 2, 1) := by decide +kernel
theorem dX12_isFirstOf_22 : decode cX12_isFirstOf 22 = .ok (.if_icmp .lt 5, 3) := by decide +kernel
theorem dX12_isFirstOf_25 : decode cX12_isFirstOf 25 = .ok (.iconst 0, 1) := by decide +kernel
theorem dX12_isFirstOf_26 : decode cX12_isFirstOf 26 = .ok (.ireturn, 1) := by decide +kernel
theorem dX12_isFirstOf_27 : decode cX12_isFirstOf 27 = .ok (.iinc 3 1, 3) := by decide +kernel
theorem dX12_isFirstOf_30 : decode cX12_isFirstOf 30 = .ok (.goto (-28), 3) := by decide +kernel
theorem dX12_isFirstOf_33 : decode cX12_isFirstOf 33 = .ok (.iconst 1, 1) := by decide +kernel
theorem dX12_isFirstOf_34 : decode cX12_isFirstOf 34 = .ok (.ireturn, 1) := by decide +kernel
set_option maxHeartbeats 4000000 in
set_option maxRecDepth 100000 in
theorem jw_X12_isFirstOf_2 {p : Program} {l : Launch} {e : Env} {s : State} {m : MethodId} {args : Array Value} {below : List Frame} {meth : Method} {c : Code} {D : xD} {ty : xTy} {h : xH} (C0 : xC D RX12 cX12_isFirstOf 4 (some .boolean) p s m args meth c) {r : Int32} : ∀ n : Nat, ∀ (v0 : Nat) (v1 : Int32) (v2 : Int32) (v3 : Int32), ty v0 = some (0, 12) → jf_X12_isFirstOf_2 ty h n v0 v1 v2 v3 = some r → ∀ (H : Heap) (locs : List Loc), xRep D ty h H → xS ty s.heap H locs → ∀ ls : Array Slot, lv_has ls 4 [(0, .ref v0), (1, .int v1), (2, .int v2), (3, .int v3)] → W p l e jr_X12_isFirstOf s m args below meth c H locs 0 0 (MQ below (xQ D ty (some (.int r)) h) args s 0 0 (xdom ty)) (F0 m 2 ls []) := by
  have hx := C0.1
  have hb := C0.2.1
  have hown := C0.2.2.2.2.2.1
  have hts := C0.2.2.2.2.2.2.1
  intro n
  induction n with
  | zero =>
    intro v0 v1 v2 v3 t_v0 hF H locs hR hS ls hl
    cases hF
  | succ n ih =>
    intro v0 v1 v2 v3 t_v0 hF H locs hR hS ls hl
    rw [jf_X12_isFirstOf_2_s] at hF
    refine lv_iload_n hx hb dX12_isFirstOf_2 rfl (lv_at hl 3 rfl) ?_
    refine lv_iload_n hx hb dX12_isFirstOf_3 rfl (lv_at hl 1 rfl) ?_
    refine lv_icmp_ge (tgt := 33) hx hb dX12_isFirstOf_4 (by decide) (fun c1 => ?_) (fun c1 => ?_)
    · have hF := xif hF c1
      refine lv_iconst (v := 1) hx hb dX12_isFirstOf_33 (by decide) ?_
      cases hF
      exact x_zret (w := 1) C0 hR hS (by decide) dX12_isFirstOf_34
    · have hF := xel hF c1
      refine lv_aload_n hx hb dX12_isFirstOf_7 rfl (lv_at hl 0 rfl) ?_
      refine lv_iload_n hx hb dX12_isFirstOf_8 rfl (lv_at hl 3 rfl) ?_
      obtain ⟨a2, e_a2, hF⟩ := xbd hF
      refine cl_X12_285 C0 hR hS e_a2 t_v0 ⟨(Nat.le_of_ble_eq_true rfl), (Nat.le_of_ble_eq_true rfl)⟩ hl.1 (Nat.le_of_ble_eq_true rfl) ⟨(Nat.le_of_ble_eq_true rfl), (Nat.le_of_ble_eq_true rfl)⟩ dX12_isFirstOf_9 (fun H locs hR hS => ?_)
      refine lv_if_eq (tgt := 27) hx hb dX12_isFirstOf_12 (by decide) (fun c3 => ?_) (fun c3 => ?_)
      · have hF := xif hF c3
        refine lv_iinc (v := v3 + 1) (lv' := [(3, .int (v3 + 1)), (0, .ref v0), (1, .int v1), (2, .int v2)]) hx hb dX12_isFirstOf_27 hl (k := 3) rfl rfl (by decide) rfl (fun ls hl => ?_)
        refine lv_goto (tgt := 2) hx hb dX12_isFirstOf_30 (by decide) ?_
        exact ih _ _ _ _ t_v0 hF _ _ hR hS _ (lv_sub hl [1, 2, 3, 0] rfl)
      · have hF := xel hF c3
        refine lv_aload_n hx hb dX12_isFirstOf_15 rfl (lv_at hl 0 rfl) ?_
        refine lv_iload_n hx hb dX12_isFirstOf_16 rfl (lv_at hl 3 rfl) ?_
        refine lv_iload_n hx hb dX12_isFirstOf_17 rfl (lv_at hl 1 rfl) ?_
        obtain ⟨a4, e_a4, hF⟩ := xbd hF
        refine cl_X12_294 C0 hR hS e_a4 t_v0 ⟨(Nat.le_of_ble_eq_true rfl), (Nat.le_of_ble_eq_true rfl)⟩ hl.1 (Nat.le_of_ble_eq_true rfl) ⟨(Nat.le_of_ble_eq_true rfl), (Nat.le_of_ble_eq_true rfl)⟩ dX12_isFirstOf_18 (fun H locs hR hS => ?_)
        refine lv_iload_n hx hb dX12_isFirstOf_21 rfl (lv_at hl 2 rfl) ?_
        refine lv_icmp_lt (tgt := 27) hx hb dX12_isFirstOf_22 (by decide) (fun c5 => ?_) (fun c5 => ?_)
        · have hF := xif hF c5
          refine lv_iinc (v := v3 + 1) (lv' := [(3, .int (v3 + 1)), (0, .ref v0), (1, .int v1), (2, .int v2)]) hx hb dX12_isFirstOf_27 hl (k := 3) rfl rfl (by decide) rfl (fun ls hl => ?_)
          refine lv_goto (tgt := 2) hx hb dX12_isFirstOf_30 (by decide) ?_
          exact ih _ _ _ _ t_v0 hF _ _ hR hS _ (lv_sub hl [1, 2, 3, 0] rfl)
        · have hF := xel hF c5
          refine lv_iconst (v := 0) hx hb dX12_isFirstOf_25 (by decide) ?_
          cases hF
          exact x_zret (w := 0) C0 hR hS (by decide) dX12_isFirstOf_26
set_option maxHeartbeats 4000000 in
set_option maxRecDepth 100000 in
theorem jc_X12_isFirstOf {l : Launch} {D : xD} {ty : xTy} {h : xH} {v0 : Nat} {v1 : Int32} {v2 : Int32} {r : Int32} (t_v0 : ty v0 = some (0, 12)) (hF : jf_X12_isFirstOf ty h v0 v1 v2 = some r) : Met l yX12_isFirstOf (xws yX12_isFirstOf cX12_isFirstOf 4 (some .boolean)) jr_X12_isFirstOf (xPc D ty h [.ref v0, .int v1, .int v2]) (xQ D ty (some (.int r)) h) 0 0 (xdom ty) := by
  refine x_met (by decide) ?_
  intro p e s m below meth c C0 hR
  generalize hargs : ([.ref v0, .int v1, .int v2] : List Value).toArray = args at C0 ⊢
  have hx := C0.1
  have hb := C0.2.1
  have hown := C0.2.2.2.2.2.1
  have hts := C0.2.2.2.2.2.2.1
  have hS : xS ty s.heap s.heap [] := xS.rf
  have hl := lv_entry ([.ref v0, .int v1, .int v2]) (n := 4) (Nat.le_of_ble_eq_true rfl)
  rw [← hargs, lg_entry_eq]
  rw [hargs]
  generalize (lg_sl ([.ref v0, .int v1, .int v2]) ++ List.replicate (4 - (lg_sl ([.ref v0, .int v1, .int v2])).length) Slot.unset).toArray = ls at hl ⊢
  have hl : lv_has ls 4 [(0, .ref v0), (1, .int v1), (2, .int v2)] := hl
  unfold jf_X12_isFirstOf at hF
  refine lv_iconst (v := 0) hx hb dX12_isFirstOf_0 (by decide) ?_
  refine lv_istore_n (lv' := [(3, .int 0), (0, .ref v0), (1, .int v1), (2, .int v2)]) hx hb dX12_isFirstOf_1 rfl hl (by decide) rfl (fun ls hl => ?_)
  obtain ⟨_, hF⟩ := xlim_sp hF
  exact jw_X12_isFirstOf_2 C0 _ _ _ _ _ t_v0 hF _ _ hR hS _ (lv_sub hl [1, 2, 3, 0] rfl)
theorem xm_X12_isFirstOf : xMw yX12_isFirstOf cX12_isFirstOf 4 (some .boolean) 2 := ⟨xin 1700 (by decide +kernel) rfl, xin 126 (by decide +kernel) rfl, by decide +kernel⟩
theorem xi_X12_isFirstOf : Cond.instanceMethod yX12_isFirstOf ∈ xT := xin 1699 (by decide +kernel) rfl
theorem xe_X12_isFirstOf : Cond.selects yX12_isFirstOf.cls yX12_isFirstOf yX12_isFirstOf ∈ xT := xin 92 (by decide +kernel) rfl
theorem dX12_nodesOf_0 : decode cX12_nodesOf 0 = .ok (.iconst 0, 1) := by decide +kernel
theorem dX12_nodesOf_1 : decode cX12_nodesOf 1 = .ok (.istore_n 2, 1) := by decide +kernel
theorem dX12_nodesOf_2 : decode cX12_nodesOf 2 = .ok (.iconst 0, 1) := by decide +kernel
theorem dX12_nodesOf_3 : decode cX12_nodesOf 3 = .ok (.istore_n 3, 1) := by decide +kernel
theorem dX12_nodesOf_4 : decode cX12_nodesOf 4 = .ok (.iload_n 3, 1) := by decide +kernel
theorem dX12_nodesOf_5 : decode cX12_nodesOf 5 = .ok (.aload_n 0, 1) := by decide +kernel
theorem dX12_nodesOf_6 : decode cX12_nodesOf 6 = .ok (.getfield 178, 3) := by decide +kernel
theorem dX12_nodesOf_9 : decode cX12_nodesOf 9 = .ok (.if_icmp .ge 44, 3) := by decide +kernel
theorem dX12_nodesOf_12 : decode cX12_nodesOf 12 = .ok (.iload_n 2, 1) := by decide +kernel
theorem dX12_nodesOf_13 : decode cX12_nodesOf 13 = .ok (.aload_n 0, 1) := by decide +kernel
theorem dX12_nodesOf_14 : decode cX12_nodesOf 14 = .ok (.iload_n 3, 1) := by decide +kernel
theorem dX12_nodesOf_15 : decode cX12_nodesOf 15 = .ok (.invokevirtual 285, 3) := by decide +kernel
theorem dX12_nodesOf_18 : decode cX12_nodesOf 18 = .ok (.ifCond .eq 26, 3) := by decide +kernel
theorem dX12_nodesOf_21 : decode cX12_nodesOf 21 = .ok (.aload_n 0, 1) := by decide +kernel
theorem dX12_nodesOf_22 : decode cX12_nodesOf 22 = .ok (.getfield 32, 3) := by decide +kernel
theorem dX12_nodesOf_25 : decode cX12_nodesOf 25 = .ok (.iload_n 3, 1) := by decide +kernel
theorem dX12_nodesOf_26 : decode cX12_nodesOf 26 = .ok (.iaload, 1) := by decide +kernel
theorem dX12_nodesOf_27 : decode cX12_nodesOf 27 = .ok (.iload_n 1, 1) := by decide +kernel
theorem dX12_nodesOf_28 : decode cX12_nodesOf 28 = .ok (.if_icmp .lt 16, 3) := by decide +kernel
theorem dX12_nodesOf_31 : decode cX12_nodesOf 31 = .ok (.aload_n 0, 1) := by decide +kernel
theorem dX12_nodesOf_32 : decode cX12_nodesOf 32 = .ok (.iload_n 3, 1) := by decide +kernel
theorem dX12_nodesOf_33 : decode cX12_nodesOf 33 = .ok (.iload_n 1, 1) := by decide +kernel
theorem dX12_nodesOf_34 : decode cX12_nodesOf 34 = .ok (.invokevirtual 303, 3) := by decide +kernel
theorem dX12_nodesOf_37 : decode cX12_nodesOf 37 = .ok (.ifCond .eq 7, 3) := by decide +kernel
theorem dX12_nodesOf_40 : decode cX12_nodesOf 40 = .ok (.iconst 1, 1) := by decide +kernel
theorem dX12_nodesOf_41 : decode cX12_nodesOf 41 = .ok (.goto 4, 3) := by decide +kernel
theorem dX12_nodesOf_44 : decode cX12_nodesOf 44 = .ok (.iconst 0, 1) := by decide +kernel
theorem dX12_nodesOf_45 : decode cX12_nodesOf 45 = .ok (.iadd, 1) := by decide +kernel
theorem dX12_nodesOf_46 : decode cX12_nodesOf 46 = .ok (.istore_n 2, 1) := by decide +kernel
theorem dX12_nodesOf_47 : decode cX12_nodesOf 47 = .ok (.iinc 3 1, 3) := by decide +kernel
theorem dX12_nodesOf_50 : decode cX12_nodesOf 50 = .ok (.goto (-46), 3) := by decide +kernel
theorem dX12_nodesOf_53 : decode cX12_nodesOf 53 = .ok (.iload_n 2, 1) := by decide +kernel
theorem dX12_nodesOf_54 : decode cX12_nodesOf 54 = .ok (.ireturn, 1) := by decide +kernel
theorem wl_X12_303 : Cond.methodLink RX12 303 yX12_isFirstOf ∈ xT := xin 1697 (by decide +kernel) rfl
section XN_X12_nodesOf
variable {p : Program} {l : Launch} {e : Env} {R : Room} {s : State} {m : MethodId} {args : Array Value} {below : List Frame} {meth : Method} {c : Code} {H H0 : Heap} {locs : List Loc} {cells slots : Nat} {Q : State → Prop} {cc : ByteArray} {nL pc : Nat} {rt : Option FieldType} {ls : Array Slot} {rest : List Value} {D : xD} {ty : xTy} {h : xH}
theorem cl_X12_303 {v0 : Nat} {v1 : Int32} {v2 : Int32} {r : Int32} (C0 : xC D RX12 cc nL rt p s m args meth c) (hR : xRep D ty h H) (hS : xS ty H0 H locs) (hF : jf_X12_isFirstOf ty h v0 v1 v2 = some r) (t_v0 : ty v0 = some (0, 12)) (hrm : jr_X12_isFirstOf.frames + 1 ≤ R.frames ∧ 8 + (4 + 11) + jr_X12_isFirstOf.locals ≤ R.locals) (hsz : ls.size = nL) (hW : (rest.map fun v => v.category).sum ≤ 8) (hf : cells ≤ R.cells ∧ slots ≤ R.slots) (hdg : decode cc pc = .ok (.invokevirtual 303, 3)) (kk : ∀ (H1 : Heap) (locs1 : List Loc), xRep D ty h H1 → xS ty H0 H1 locs1 → W p l e R s m args below meth c H1 locs1 cells slots Q (F0 m (pc + 3) ls (.int r :: rest))) : W p l e R s m args below meth c H locs cells slots Q (F0 m pc ls (.int v2 :: .int v1 :: .ref v0 :: rest)) := x_callV C0 (jc_X12_isFirstOf t_v0 hF) xm_X12_isFirstOf xi_X12_isFirstOf xe_X12_isFirstOf wl_X12_303 ⟨rfl, rfl, hrm⟩ (ci := 12) rfl t_v0 hR hS (As := [.int v1, .int v2]) rfl hsz rfl hW hdg hf kk
end XN_X12_nodesOf
set_option maxHeartbeats 4000000 in
set_option maxRecDepth 100000 in
theorem jw_X12_nodesOf_4 {p : Program} {l : Launch} {e : Env} {s : State} {m : MethodId} {args : Array Value} {below : List Frame} {meth : Method} {c : Code} {D : xD} {ty : xTy} {h : xH} (C0 : xC D RX12 cX12_nodesOf 4 (some .int) p s m args meth c) {r : Int32} : ∀ n : Nat, ∀ (v0 : Nat) (v1 : Int32) (v2 : Int32) (v3 : Int32), ty v0 = some (0, 12) → jf_X12_nodesOf_4 ty h n v0 v1 v2 v3 = some r → ∀ (H : Heap) (locs : List Loc), xRep D ty h H → xS ty s.heap H locs → ∀ ls : Array Slot, lv_has ls 4 [(0, .ref v0), (1, .int v1), (2, .int v2), (3, .int v3)] → W p l e jr_X12_nodesOf s m args below meth c H locs 0 0 (MQ below (xQ D ty (some (.int r)) h) args s 0 0 (xdom ty)) (F0 m 4 ls []) := by
  have hx := C0.1
  have hb := C0.2.1
  have hown := C0.2.2.2.2.2.1
  have hts := C0.2.2.2.2.2.2.1
  intro n
  induction n with
  | zero =>
    intro v0 v1 v2 v3 t_v0 hF H locs hR hS ls hl
    cases hF
  | succ n ih =>
    intro v0 v1 v2 v3 t_v0 hF H locs hR hS ls hl
    rw [jf_X12_nodesOf_4_s] at hF
    refine lv_iload_n hx hb dX12_nodesOf_4 rfl (lv_at hl 3 rfl) ?_
    refine lv_aload_n hx hb dX12_nodesOf_5 rfl (lv_at hl 0 rfl) ?_
    refine gf_X12_178 C0 hR t_v0 dX12_nodesOf_6 ?_
    refine lv_icmp_ge (tgt := 53) hx hb dX12_nodesOf_9 (by decide) (fun c1 => ?_) (fun c1 => ?_)
    · have hF := xif hF c1
      refine lv_iload_n hx hb dX12_nodesOf_53 rfl (lv_at hl 2 rfl) ?_
      cases hF
      exact x_iret C0 hR hS dX12_nodesOf_54
    · have hF := xel hF c1
      refine lv_iload_n hx hb dX12_nodesOf_12 rfl (lv_at hl 2 rfl) ?_
      refine lv_aload_n hx hb dX12_nodesOf_13 rfl (lv_at hl 0 rfl) ?_
      refine lv_iload_n hx hb dX12_nodesOf_14 rfl (lv_at hl 3 rfl) ?_
      obtain ⟨a2, e_a2, hF⟩ := xbd hF
      refine cl_X12_285 C0 hR hS e_a2 t_v0 ⟨(Nat.le_of_ble_eq_true rfl), (Nat.le_of_ble_eq_true rfl)⟩ hl.1 (Nat.le_of_ble_eq_true rfl) ⟨(Nat.le_of_ble_eq_true rfl), (Nat.le_of_ble_eq_true rfl)⟩ dX12_nodesOf_15 (fun H locs hR hS => ?_)
      refine lv_if_eq (tgt := 44) hx hb dX12_nodesOf_18 (by decide) (fun c3 => ?_) (fun c3 => ?_)
      · have hF := xif hF c3
        refine lv_iconst (v := 0) hx hb dX12_nodesOf_44 (by decide) ?_
        refine lv_iadd hx hb dX12_nodesOf_45 ?_
        refine lv_istore_n (lv' := [(2, .int (v2 + 0)), (0, .ref v0), (1, .int v1), (3, .int v3)]) hx hb dX12_nodesOf_46 rfl hl (by decide) rfl (fun ls hl => ?_)
        refine lv_iinc (v := v3 + 1) (lv' := [(3, .int (v3 + 1)), (2, .int (v2 + 0)), (0, .ref v0), (1, .int v1)]) hx hb dX12_nodesOf_47 hl (k := 3) rfl rfl (by decide) rfl (fun ls hl => ?_)
        refine lv_goto (tgt := 4) hx hb dX12_nodesOf_50 (by decide) ?_
        exact ih _ _ _ _ t_v0 hF _ _ hR hS _ (lv_sub hl [2, 3, 1, 0] rfl)
      · have hF := xel hF c3
        refine lv_aload_n hx hb dX12_nodesOf_21 rfl (lv_at hl 0 rfl) ?_
        obtain ⟨a4, e_a4, hF⟩ := xbd hF
        refine gf_X12_32 C0 hR t_v0 e_a4 dX12_nodesOf_22 ?_
        refine lv_iload_n hx hb dX12_nodesOf_25 rfl (lv_at hl 3 rfl) ?_
        obtain ⟨a5, e_a5, hF⟩ := xbd hF
        refine x_iald C0 hR e_a5 dX12_nodesOf_26 ?_
        refine lv_iload_n hx hb dX12_nodesOf_27 rfl (lv_at hl 1 rfl) ?_
        refine lv_icmp_lt (tgt := 44) hx hb dX12_nodesOf_28 (by decide) (fun c6 => ?_) (fun c6 => ?_)
        · have hF := xif hF c6
          refine lv_iconst (v := 0) hx hb dX12_nodesOf_44 (by decide) ?_
          refine lv_iadd hx hb dX12_nodesOf_45 ?_
          refine lv_istore_n (lv' := [(2, .int (v2 + 0)), (0, .ref v0), (1, .int v1), (3, .int v3)]) hx hb dX12_nodesOf_46 rfl hl (by decide) rfl (fun ls hl => ?_)
          refine lv_iinc (v := v3 + 1) (lv' := [(3, .int (v3 + 1)), (2, .int (v2 + 0)), (0, .ref v0), (1, .int v1)]) hx hb dX12_nodesOf_47 hl (k := 3) rfl rfl (by decide) rfl (fun ls hl => ?_)
          refine lv_goto (tgt := 4) hx hb dX12_nodesOf_50 (by decide) ?_
          exact ih _ _ _ _ t_v0 hF _ _ hR hS _ (lv_sub hl [2, 3, 1, 0] rfl)
        · have hF := xel hF c6
          refine lv_aload_n hx hb dX12_nodesOf_31 rfl (lv_at hl 0 rfl) ?_
          refine lv_iload_n hx hb dX12_nodesOf_32 rfl (lv_at hl 3 rfl) ?_
          refine lv_iload_n hx hb dX12_nodesOf_33 rfl (lv_at hl 1 rfl) ?_
          obtain ⟨a7, e_a7, hF⟩ := xbd hF
          refine cl_X12_303 C0 hR hS e_a7 t_v0 ⟨(Nat.le_of_ble_eq_true rfl), (Nat.le_of_ble_eq_true rfl)⟩ hl.1 (Nat.le_of_ble_eq_true rfl) ⟨(Nat.le_of_ble_eq_true rfl), (Nat.le_of_ble_eq_true rfl)⟩ dX12_nodesOf_34 (fun H locs hR hS => ?_)
          refine lv_if_eq (tgt := 44) hx hb dX12_nodesOf_37 (by decide) (fun c8 => ?_) (fun c8 => ?_)
          · have hF := xif hF c8
            refine lv_iconst (v := 0) hx hb dX12_nodesOf_44 (by decide) ?_
            refine lv_iadd hx hb dX12_nodesOf_45 ?_
            refine lv_istore_n (lv' := [(2, .int (v2 + 0)), (0, .ref v0), (1, .int v1), (3, .int v3)]) hx hb dX12_nodesOf_46 rfl hl (by decide) rfl (fun ls hl => ?_)
            refine lv_iinc (v := v3 + 1) (lv' := [(3, .int (v3 + 1)), (2, .int (v2 + 0)), (0, .ref v0), (1, .int v1)]) hx hb dX12_nodesOf_47 hl (k := 3) rfl rfl (by decide) rfl (fun ls hl => ?_)
            refine lv_goto (tgt := 4) hx hb dX12_nodesOf_50 (by decide) ?_
            exact ih _ _ _ _ t_v0 hF _ _ hR hS _ (lv_sub hl [2, 3, 1, 0] rfl)
          · have hF := xel hF c8
            refine lv_iconst (v := 1) hx hb dX12_nodesOf_40 (by decide) ?_
            refine lv_goto (tgt := 45) hx hb dX12_nodesOf_41 (by decide) ?_
            refine lv_iadd hx hb dX12_nodesOf_45 ?_
            refine lv_istore_n (lv' := [(2, .int (v2 + 1)), (0, .ref v0), (1, .int v1), (3, .int v3)]) hx hb dX12_nodesOf_46 rfl hl (by decide) rfl (fun ls hl => ?_)
            refine lv_iinc (v := v3 + 1) (lv' := [(3, .int (v3 + 1)), (2, .int (v2 + 1)), (0, .ref v0), (1, .int v1)]) hx hb dX12_nodesOf_47 hl (k := 3) rfl rfl (by decide) rfl (fun ls hl => ?_)
            refine lv_goto (tgt := 4) hx hb dX12_nodesOf_50 (by decide) ?_
            exact ih _ _ _ _ t_v0 hF _ _ hR hS _ (lv_sub hl [2, 3, 1, 0] rfl)
set_option maxHeartbeats 4000000 in
set_option maxRecDepth 100000 in
theorem jc_X12_nodesOf {l : Launch} {D : xD} {ty : xTy} {h : xH} {v0 : Nat} {v1 : Int32} {r : Int32} (t_v0 : ty v0 = some (0, 12)) (hF : jf_X12_nodesOf ty h v0 v1 = some r) : Met l yX12_nodesOf (xws yX12_nodesOf cX12_nodesOf 4 (some .int)) jr_X12_nodesOf (xPc D ty h [.ref v0, .int v1]) (xQ D ty (some (.int r)) h) 0 0 (xdom ty) := by
  refine x_met (by decide) ?_
  intro p e s m below meth c C0 hR
  generalize hargs : ([.ref v0, .int v1] : List Value).toArray = args at C0 ⊢
  have hx := C0.1
  have hb := C0.2.1
  have hown := C0.2.2.2.2.2.1
  have hts := C0.2.2.2.2.2.2.1
  have hS : xS ty s.heap s.heap [] := xS.rf
  have hl := lv_entry ([.ref v0, .int v1]) (n := 4) (Nat.le_of_ble_eq_true rfl)
  rw [← hargs, lg_entry_eq]
  rw [hargs]
  generalize (lg_sl ([.ref v0, .int v1]) ++ List.replicate (4 - (lg_sl ([.ref v0, .int v1])).length) Slot.unset).toArray = ls at hl ⊢
  have hl : lv_has ls 4 [(0, .ref v0), (1, .int v1)] := hl
  unfold jf_X12_nodesOf at hF
  refine lv_iconst (v := 0) hx hb dX12_nodesOf_0 (by decide) ?_
  refine lv_istore_n (lv' := [(2, .int 0), (0, .ref v0), (1, .int v1)]) hx hb dX12_nodesOf_1 rfl hl (by decide) rfl (fun ls hl => ?_)
  refine lv_iconst (v := 0) hx hb dX12_nodesOf_2 (by decide) ?_
  refine lv_istore_n (lv' := [(3, .int 0), (2, .int 0), (0, .ref v0), (1, .int v1)]) hx hb dX12_nodesOf_3 rfl hl (by decide) rfl (fun ls hl => ?_)
  obtain ⟨_, hF⟩ := xlim_sp hF
  exact jw_X12_nodesOf_4 C0 _ _ _ _ _ t_v0 hF _ _ hR hS _ (lv_sub hl [2, 3, 1, 0] rfl)
theorem xm_X12_nodesOf : xMw yX12_nodesOf cX12_nodesOf 4 (some .int) 1 := ⟨xin 1816 (by decide +kernel) rfl, xin 126 (by decide +kernel) rfl, by decide +kernel⟩
theorem xi_X12_nodesOf : Cond.instanceMethod yX12_nodesOf ∈ xT := xin 1815 (by decide +kernel) rfl
theorem xe_X12_nodesOf : Cond.selects yX12_nodesOf.cls yX12_nodesOf yX12_nodesOf ∈ xT := xin 103 (by decide +kernel) rfl
theorem dX12_nodesAll_0 : decode cX12_nodesAll 0 = .ok (.iconst 0, 1) := by decide +kernel
theorem dX12_nodesAll_1 : decode cX12_nodesAll 1 = .ok (.istore_n 1, 1) := by decide +kernel
theorem dX12_nodesAll_2 : decode cX12_nodesAll 2 = .ok (.iconst 1, 1) := by decide +kernel
theorem dX12_nodesAll_3 : decode cX12_nodesAll 3 = .ok (.istore_n 2, 1) := by decide +kernel
theorem dX12_nodesAll_4 : decode cX12_nodesAll 4 = .ok (.iload_n 2, 1) := by decide +kernel
theorem dX12_nodesAll_5 : decode cX12_nodesAll 5 = .ok (.bipush 13, 2) := by decide +kernel
theorem dX12_nodesAll_7 : decode cX12_nodesAll 7 = .ok (.if_icmp .ge 17, 3) := by decide +kernel
theorem dX12_nodesAll_10 : decode cX12_nodesAll 10 = .ok (.iload_n 1, 1) := by decide +kernel
theorem dX12_nodesAll_11 : decode cX12_nodesAll 11 = .ok (.aload_n 0, 1) := by decide +kernel
theorem dX12_nodesAll_12 : decode cX12_nodesAll 12 = .ok (.iload_n 2, 1) := by decide +kernel
theorem dX12_nodesAll_13 : decode cX12_nodesAll 13 = .ok (.invokevirtual 306, 3) := by decide +kernel
theorem dX12_nodesAll_16 : decode cX12_nodesAll 16 = .ok (.iadd, 1) := by decide +kernel
theorem dX12_nodesAll_17 : decode cX12_nodesAll 17 = .ok (.istore_n 1, 1) := by decide +kernel
theorem dX12_nodesAll_18 : decode cX12_nodesAll 18 = .ok (.iinc 2 1, 3) := by decide +kernel
theorem dX12_nodesAll_21 : decode cX12_nodesAll 21 = .ok (.goto (-17), 3) := by decide +kernel
theorem dX12_nodesAll_24 : decode cX12_nodesAll 24 = .ok (.iload_n 1, 1) := by decide +kernel
theorem dX12_nodesAll_25 : decode cX12_nodesAll 25 = .ok (.ireturn, 1) := by decide +kernel
theorem wl_X12_306 : Cond.methodLink RX12 306 yX12_nodesOf ∈ xT := xin 1813 (by decide +kernel) rfl
section XN_X12_nodesAll
variable {p : Program} {l : Launch} {e : Env} {R : Room} {s : State} {m : MethodId} {args : Array Value} {below : List Frame} {meth : Method} {c : Code} {H H0 : Heap} {locs : List Loc} {cells slots : Nat} {Q : State → Prop} {cc : ByteArray} {nL pc : Nat} {rt : Option FieldType} {ls : Array Slot} {rest : List Value} {D : xD} {ty : xTy} {h : xH}
theorem cl_X12_306 {v0 : Nat} {v1 : Int32} {r : Int32} (C0 : xC D RX12 cc nL rt p s m args meth c) (hR : xRep D ty h H) (hS : xS ty H0 H locs) (hF : jf_X12_nodesOf ty h v0 v1 = some r) (t_v0 : ty v0 = some (0, 12)) (hrm : jr_X12_nodesOf.frames + 1 ≤ R.frames ∧ 8 + (4 + 11) + jr_X12_nodesOf.locals ≤ R.locals) (hsz : ls.size = nL) (hW : (rest.map fun v => v.category).sum ≤ 8) (hf : cells ≤ R.cells ∧ slots ≤ R.slots) (hdg : decode cc pc = .ok (.invokevirtual 306, 3)) (kk : ∀ (H1 : Heap) (locs1 : List Loc), xRep D ty h H1 → xS ty H0 H1 locs1 → W p l e R s m args below meth c H1 locs1 cells slots Q (F0 m (pc + 3) ls (.int r :: rest))) : W p l e R s m args below meth c H locs cells slots Q (F0 m pc ls (.int v1 :: .ref v0 :: rest)) := x_callV C0 (jc_X12_nodesOf t_v0 hF) xm_X12_nodesOf xi_X12_nodesOf xe_X12_nodesOf wl_X12_306 ⟨rfl, rfl, hrm⟩ (ci := 12) rfl t_v0 hR hS (As := [.int v1]) rfl hsz rfl hW hdg hf kk
end XN_X12_nodesAll
set_option maxHeartbeats 4000000 in
set_option maxRecDepth 100000 in
theorem jw_X12_nodesAll_4 {p : Program} {l : Launch} {e : Env} {s : State} {m : MethodId} {args : Array Value} {below : List Frame} {meth : Method} {c : Code} {D : xD} {ty : xTy} {h : xH} (C0 : xC D RX12 cX12_nodesAll 3 (some .int) p s m args meth c) {r : Int32} : ∀ n : Nat, ∀ (v0 : Nat) (v1 : Int32) (v2 : Int32), ty v0 = some (0, 12) → jf_X12_nodesAll_4 ty h n v0 v1 v2 = some r → ∀ (H : Heap) (locs : List Loc), xRep D ty h H → xS ty s.heap H locs → ∀ ls : Array Slot, lv_has ls 3 [(0, .ref v0), (1, .int v1), (2, .int v2)] → W p l e jr_X12_nodesAll s m args below meth c H locs 0 0 (MQ below (xQ D ty (some (.int r)) h) args s 0 0 (xdom ty)) (F0 m 4 ls []) := by
  have hx := C0.1
  have hb := C0.2.1
  have hown := C0.2.2.2.2.2.1
  have hts := C0.2.2.2.2.2.2.1
  intro n
  induction n with
  | zero =>
    intro v0 v1 v2 t_v0 hF H locs hR hS ls hl
    cases hF
  | succ n ih =>
    intro v0 v1 v2 t_v0 hF H locs hR hS ls hl
    rw [jf_X12_nodesAll_4_s] at hF
    refine lv_iload_n hx hb dX12_nodesAll_4 rfl (lv_at hl 2 rfl) ?_
    refine lv_bipush (v := 13) hx hb dX12_nodesAll_5 (by decide) ?_
    refine lv_icmp_ge (tgt := 24) hx hb dX12_nodesAll_7 (by decide) (fun c1 => ?_) (fun c1 => ?_)
    · have hF := xif hF c1
      refine lv_iload_n hx hb dX12_nodesAll_24 rfl (lv_at hl 1 rfl) ?_
      cases hF
      exact x_iret C0 hR hS dX12_nodesAll_25
    · have hF := xel hF c1
      refine lv_iload_n hx hb dX12_nodesAll_10 rfl (lv_at hl 1 rfl) ?_
      refine lv_aload_n hx hb dX12_nodesAll_11 rfl (lv_at hl 0 rfl) ?_
      refine lv_iload_n hx hb dX12_nodesAll_12 rfl (lv_at hl 2 rfl) ?_
      obtain ⟨a2, e_a2, hF⟩ := xbd hF
      refine cl_X12_306 C0 hR hS e_a2 t_v0 ⟨(Nat.le_of_ble_eq_true rfl), (Nat.le_of_ble_eq_true rfl)⟩ hl.1 (Nat.le_of_ble_eq_true rfl) ⟨(Nat.le_of_ble_eq_true rfl), (Nat.le_of_ble_eq_true rfl)⟩ dX12_nodesAll_13 (fun H locs hR hS => ?_)
      refine lv_iadd hx hb dX12_nodesAll_16 ?_
      refine lv_istore_n (lv' := [(1, .int (v1 + a2)), (0, .ref v0), (2, .int v2)]) hx hb dX12_nodesAll_17 rfl hl (by decide) rfl (fun ls hl => ?_)
      refine lv_iinc (v := v2 + 1) (lv' := [(2, .int (v2 + 1)), (1, .int (v1 + a2)), (0, .ref v0)]) hx hb dX12_nodesAll_18 hl (k := 2) rfl rfl (by decide) rfl (fun ls hl => ?_)
      refine lv_goto (tgt := 4) hx hb dX12_nodesAll_21 (by decide) ?_
      exact ih _ _ _ t_v0 hF _ _ hR hS _ (lv_sub hl [2, 1, 0] rfl)
set_option maxHeartbeats 4000000 in
set_option maxRecDepth 100000 in
theorem jc_X12_nodesAll {l : Launch} {D : xD} {ty : xTy} {h : xH} {v0 : Nat} {r : Int32} (t_v0 : ty v0 = some (0, 12)) (hF : jf_X12_nodesAll ty h v0 = some r) : Met l yX12_nodesAll (xws yX12_nodesAll cX12_nodesAll 3 (some .int)) jr_X12_nodesAll (xPc D ty h [.ref v0]) (xQ D ty (some (.int r)) h) 0 0 (xdom ty) := by
  refine x_met (by decide) ?_
  intro p e s m below meth c C0 hR
  generalize hargs : ([.ref v0] : List Value).toArray = args at C0 ⊢
  have hx := C0.1
  have hb := C0.2.1
  have hown := C0.2.2.2.2.2.1
  have hts := C0.2.2.2.2.2.2.1
  have hS : xS ty s.heap s.heap [] := xS.rf
  have hl := lv_entry ([.ref v0]) (n := 3) (Nat.le_of_ble_eq_true rfl)
  rw [← hargs, lg_entry_eq]
  rw [hargs]
  generalize (lg_sl ([.ref v0]) ++ List.replicate (3 - (lg_sl ([.ref v0])).length) Slot.unset).toArray = ls at hl ⊢
  have hl : lv_has ls 3 [(0, .ref v0)] := hl
  unfold jf_X12_nodesAll at hF
  refine lv_iconst (v := 0) hx hb dX12_nodesAll_0 (by decide) ?_
  refine lv_istore_n (lv' := [(1, .int 0), (0, .ref v0)]) hx hb dX12_nodesAll_1 rfl hl (by decide) rfl (fun ls hl => ?_)
  refine lv_iconst (v := 1) hx hb dX12_nodesAll_2 (by decide) ?_
  refine lv_istore_n (lv' := [(2, .int 1), (1, .int 0), (0, .ref v0)]) hx hb dX12_nodesAll_3 rfl hl (by decide) rfl (fun ls hl => ?_)
  obtain ⟨_, hF⟩ := xlim_sp hF
  exact jw_X12_nodesAll_4 C0 _ _ _ _ t_v0 hF _ _ hR hS _ (lv_sub hl [2, 1, 0] rfl)
theorem xm_X12_nodesAll : xMw yX12_nodesAll cX12_nodesAll 3 (some .int) 0 := ⟨xin 1812 (by decide +kernel) rfl, xin 126 (by decide +kernel) rfl, by decide +kernel⟩
theorem xi_X12_nodesAll : Cond.instanceMethod yX12_nodesAll ∈ xT := xin 1811 (by decide +kernel) rfl
theorem xe_X12_nodesAll : Cond.selects yX12_nodesAll.cls yX12_nodesAll yX12_nodesAll ∈ xT := xin 102 (by decide +kernel) rfl
theorem dX12_follows_0 : decode cX12_follows 0 = .ok (.iconst 0, 1) := by decide +kernel
theorem dX12_follows_1 : decode cX12_follows 1 = .ok (.istore_n 3, 1) := by decide +kernel
theorem dX12_follows_2 : decode cX12_follows 2 = .ok (.iconst 0, 1) := by decide +kernel
theorem dX12_follows_3 : decode cX12_follows 3 = .ok (.istore 4, 2) := by decide +kernel
theorem dX12_follows_5 : decode cX12_follows 5 = .ok (.iload_n 3, 1) := by decide +kernel
theorem dX12_follows_6 : decode cX12_follows 6 = .ok (.aload_n 0, 1) := by decide +kernel
theorem dX12_follows_7 : decode cX12_follows 7 = .ok (.getfield 32, 3) := by decide +kernel
theorem dX12_follows_10 : decode cX12_follows 10 = .ok (.iload_n 2, 1) := by decide +kernel
theorem dX12_follows_11 : decode cX12_follows 11 = .ok (.iaload, 1) := by decide +kernel
theorem dX12_follows_12 : decode cX12_follows 12 = .ok (.if_icmp .ge 188, 3) := by decide +kernel
theorem dX12_follows_15 : decode cX12_follows 15 = .ok (.iload 4, 2) := by decide +kernel
theorem dX12_follows_17 : decode cX12_follows 17 = .ok (.aload_n 0, 1) := by decide +kernel
theorem dX12_follows_18 : decode cX12_follows 18 = .ok (.getfield 188, 3) := by decide +kernel
theorem dX12_follows_21 : decode cX12_follows 21 = .ok (.if_icmp .ge 179, 3) := by decide +kernel
theorem dX12_follows_24 : decode cX12_follows 24 = .ok (.aload_n 0, 1) := by decide +kernel
theorem dX12_follows_25 : decode cX12_follows 25 = .ok (.iload_n 2, 1) := by decide +kernel
theorem dX12_follows_26 : decode cX12_follows 26 = .ok (.iload_n 3, 1) := by decide +kernel
theorem dX12_follows_27 : decode cX12_follows 27 = .ok (.invokevirtual 291, 3) := by decide +kernel
theorem dX12_follows_30 : decode cX12_follows 30 = .ok (.istore 5, 2) := by decide +kernel
theorem dX12_follows_32 : decode cX12_follows 32 = .ok (.aload_n 0, 1) := by decide +kernel
theorem dX12_follows_33 : decode cX12_follows 33 = .ok (.getfield 44, 3) := by decide +kernel
theorem dX12_follows_36 : decode cX12_follows 36 = .ok (.iload 4, 2) := by decide +kernel
theorem dX12_follows_38 : decode cX12_follows 38 = .ok (.iaload, 1) := by decide +kernel
theorem dX12_follows_39 : decode cX12_follows 39 = .ok (.bipush 100, 2) := by decide +kernel
theorem dX12_follows_41 : decode cX12_follows 41 = .ok (.if_icmp .lt 7, 3) := by decide +kernel
theorem dX12_follows_44 : decode cX12_follows 44 = .ok (.iconst 1, 1) := by decide +kernel
theorem dX12_follows_45 : decode cX12_follows 45 = .ok (.goto 4, 3) := by decide +kernel
theorem dX12_follows_48 : decode cX12_follows 48 = .ok (.iconst 0, 1) := by decide +kernel
theorem dX12_follows_49 : decode cX12_follows 49 = .ok (.istore 6, 2) := by decide +kernel
theorem dX12_follows_51 : decode cX12_follows 51 = .ok (.iload 6, 2) := by decide +kernel
theorem dX12_follows_53 : decode cX12_follows 53 = .ok (.ifCond .eq 17, 3) := by decide +kernel
theorem dX12_follows_56 : decode cX12_follows 56 = .ok (.iload_n 1, 1) := by decide +kernel
theorem dX12_follows_57 : decode cX12_follows 57 = .ok (.ifCond .ne 41, 3) := by decide +kernel
theorem dX12_follows_60 : decode cX12_follows 60 = .ok (.iload 5, 2) := by decide +kernel
theorem dX12_follows_62 : decode cX12_follows 62 = .ok (.bipush 100, 2) := by decide +kernel
theorem dX12_follows_64 : decode cX12_follows 64 = .ok (.if_icmp .eq 34, 3) := by decide +kernel
theorem dX12_follows_67 : decode cX12_follows 67 = .ok (.goto 30, 3) := by decide +kernel
theorem dX12_follows_70 : decode cX12_follows 70 = .ok (.iload 5, 2) := by decide +kernel
theorem dX12_follows_72 : decode cX12_follows 72 = .ok (.bipush 100, 2) := by decide +kernel
theorem dX12_follows_74 : decode cX12_follows 74 = .ok (.if_icmp .ne 11, 3) := by decide +kernel
theorem dX12_follows_77 : decode cX12_follows 77 = .ok (.iload_n 1, 1) := by decide +kernel
theorem dX12_follows_78 : decode cX12_follows 78 = .ok (.iconst 1, 1) := by decide +kernel
theorem dX12_follows_79 : decode cX12_follows 79 = .ok (.if_icmp .ne 19, 3) := by decide +kernel
theorem dX12_follows_82 : decode cX12_follows 82 = .ok (.goto 15, 3) := by decide +kernel
theorem dX12_follows_85 : decode cX12_follows 85 = .ok (.iload 5, 2) := by decide +kernel
theorem dX12_follows_87 : decode cX12_follows 87 = .ok (.aload_n 0, 1) := by decide +kernel
theorem dX12_follows_88 : decode cX12_follows 88 = .ok (.getfield 44, 3) := by decide +kernel
theorem dX12_follows_91 : decode cX12_follows 91 = .ok (.iload 4, 2) := by decide +kernel
theorem dX12_follows_93 : decode cX12_follows 93 = .ok (.iaload, 1) := by decide +kernel
theorem dX12_follows_94 : decode cX12_follows 94 = .ok (.if_icmp .eq 4, 3) := by decide +kernel
theorem dX12_follows_97 : decode cX12_follows 97 = .ok (.return_, 1) := by decide +kernel
theorem dX12_follows_98 : decode cX12_follows 98 = .ok (.iload 6, 2) := by decide +kernel
theorem dX12_follows_100 : decode cX12_follows 100 = .ok (.ifCond .ne 26, 3) := by decide +kernel
theorem dX12_follows_103 : decode cX12_follows 103 = .ok (.iload 5, 2) := by decide +kernel
theorem dX12_follows_105 : decode cX12_follows 105 = .ok (.bipush 100, 2) := by decide +kernel
theorem dX12_follows_107 : decode cX12_follows 107 = .ok (.if_icmp .ne 19, 3) := by decide +kernel
theorem dX12_follows_110 : decode cX12_follows 110 = .ok (.aload_n 0, 1) := by decide +kernel
theorem dX12_follows_111 : decode cX12_follows 111 = .ok (.getfield 44, 3) := by decide +kernel
theorem dX12_follows_114 : decode cX12_follows 114 = .ok (.iload 4, 2) := by decide +kernel
theorem dX12_follows_116 : decode cX12_follows 116 = .ok (.aload_n 0, 1) := by decide +kernel
theorem dX12_follows_117 : decode cX12_follows 117 = .ok (.getfield 23, 3) := by decide +kernel
theorem dX12_follows_120 : decode cX12_follows 120 = .ok (.invokestatic 231, 3) := by decide +kernel
theorem dX12_follows_123 : decode cX12_follows 123 = .ok (.goto 7, 3) := by decide +kernel
theorem dX12_follows_126 : decode cX12_follows 126 = .ok (.iload 4, 2) := by decide +kernel
theorem dX12_follows_128 : decode cX12_follows 128 = .ok (.iconst 1, 1) := by decide +kernel
theorem dX12_follows_129 : decode cX12_follows 129 = .ok (.iadd, 1) := by decide +kernel
theorem dX12_follows_130 : decode cX12_follows 130 = .ok (.istore 7, 2) := by decide +kernel
theorem dX12_follows_132 : decode cX12_follows 132 = .ok (.iload 6, 2) := by decide +kernel
theorem dX12_follows_134 : decode cX12_follows 134 = .ok (.ifCond .eq 32, 3) := by decide +kernel
theorem dX12_follows_137 : decode cX12_follows 137 = .ok (.iload_n 1, 1) := by decide +kernel
theorem dX12_follows_138 : decode cX12_follows 138 = .ok (.ifCond .le 28, 3) := by decide +kernel
theorem dX12_follows_141 : decode cX12_follows 141 = .ok (.aload_n 0, 1) := by decide +kernel
theorem dX12_follows_142 : decode cX12_follows 142 = .ok (.getfield 35, 3) := by decide +kernel
theorem dX12_follows_145 : decode cX12_follows 145 = .ok (.bipush 12, 2) := by decide +kernel
theorem dX12_follows_147 : decode cX12_follows 147 = .ok (.iload_n 2, 1) := by decide +kernel
theorem dX12_follows_148 : decode cX12_follows 148 = .ok (.imul, 1) := by decide +kernel
theorem dX12_follows_149 : decode cX12_follows 149 = .ok (.iload_n 3, 1) := by decide +kernel
theorem dX12_follows_150 : decode cX12_follows 150 = .ok (.iadd, 1) := by decide +kernel
theorem dX12_follows_151 : decode cX12_follows 151 = .ok (.aload_n 0, 1) := by decide +kernel
theorem dX12_follows_152 : decode cX12_follows 152 = .ok (.getfield 23, 3) := by decide +kernel
theorem dX12_follows_155 : decode cX12_follows 155 = .ok (.invokestatic 231, 3) := by decide +kernel
theorem dX12_follows_158 : decode cX12_follows 158 = .ok (.bipush 12, 2) := by decide +kernel
theorem dX12_follows_160 : decode cX12_follows 160 = .ok (.iload_n 2, 1) := by decide +kernel
theorem dX12_follows_161 : decode cX12_follows 161 = .ok (.imul, 1) := by decide +kernel
theorem dX12_follows_162 : decode cX12_follows 162 = .ok (.isub, 1) := by decide +kernel
theorem dX12_follows_163 : decode cX12_follows 163 = .ok (.goto 6, 3) := by decide +kernel
theorem dX12_follows_166 : decode cX12_follows 166 = .ok (.iload_n 3, 1) := by decide +kernel
theorem dX12_follows_167 : decode cX12_follows 167 = .ok (.iconst 1, 1) := by decide +kernel
theorem dX12_follows_168 : decode cX12_follows 168 = .ok (.iadd, 1) := by decide +kernel
theorem dX12_follows_169 : decode cX12_follows 169 = .ok (.istore_n 3, 1) := by decide +kernel
theorem dX12_follows_170 : decode cX12_follows 170 = .ok (.iload 7, 2) := by decide +kernel
theorem dX12_follows_172 : decode cX12_follows 172 = .ok (.istore 4, 2) := by decide +kernel
theorem dX12_follows_174 : decode cX12_follows 174 = .ok (.aload_n 0, 1) := by decide +kernel
theorem dX12_follows_175 : decode cX12_follows 175 = .ok (.dup, 1) := by decide +kernel
theorem dX12_follows_176 : decode cX12_follows 176 = .ok (.getfield 309, 3) := by decide +kernel
theorem dX12_follows_179 : decode cX12_follows 179 = .ok (.aload_n 0, 1) := by decide +kernel
theorem dX12_follows_180 : decode cX12_follows 180 = .ok (.iload_n 2, 1) := by decide +kernel
theorem dX12_follows_181 : decode cX12_follows 181 = .ok (.iload_n 3, 1) := by decide +kernel
theorem dX12_follows_182 : decode cX12_follows 182 = .ok (.invokevirtual 303, 3) := by decide +kernel
theorem dX12_follows_185 : decode cX12_follows 185 = .ok (.ifCond .eq 7, 3) := by decide +kernel
theorem dX12_follows_188 : decode cX12_follows 188 = .ok (.iconst 1, 1) := by decide +kernel
theorem dX12_follows_189 : decode cX12_follows 189 = .ok (.goto 4, 3) := by decide +kernel
theorem dX12_follows_192 : decode cX12_follows 192 = .ok (.iconst 0, 1) := by decide +kernel
theorem dX12_follows_193 : decode cX12_follows 193 = .ok (.iadd, 1) := by decide +kernel
theorem dX12_follows_194 : decode cX12_follows 194 = .ok (.putfield 309, 3) := by decide +kernel
theorem dX12_follows_197 : decode cX12_follows 197 = .ok (.goto (-192), 3) := by decide +kernel
theorem dX12_follows_200 : decode cX12_follows 200 = .ok (.aload_n 0, 1) := by decide +kernel
theorem dX12_follows_201 : decode cX12_follows 201 = .ok (.dup, 1) := by decide +kernel
theorem dX12_follows_202 : decode cX12_follows 202 = .ok (.getfield 312, 3) := by decide +kernel
theorem dX12_follows_205 : decode cX12_follows 205 = .ok (.iconst 1, 1) := by decide +kernel
theorem dX12_follows_206 : decode cX12_follows 206 = .ok (.iadd, 1) := by decide +kernel
theorem dX12_follows_207 : decode cX12_follows 207 = .ok (.putfield 312, 3) := by decide +kernel
theorem dX12_follows_210 : decode cX12_follows 210 = .ok (.return_, 1) := by decide +kernel
theorem wf_X12_309 : Cond.fieldLink RX12 309 "TermShelfModel" "visited" "I" ∈ xT := xin 1354 (by decide +kernel) rfl
theorem wf_X12_312 : Cond.fieldLink RX12 312 "TermShelfModel" "candidates" "I" ∈ xT := xin 1355 (by decide +kernel) rfl
section XN_X12_follows
variable {p : Program} {l : Launch} {e : Env} {R : Room} {s : State} {m : MethodId} {args : Array Value} {below : List Frame} {meth : Method} {c : Code} {H H0 : Heap} {locs : List Loc} {cells slots : Nat} {Q : State → Prop} {cc : ByteArray} {nL pc : Nat} {rt : Option FieldType} {ls : Array Slot} {rest : List Value} {D : xD} {ty : xTy} {h : xH}
theorem gf_X12_309 {a : Nat} (C0 : xC D RX12 cc nL rt p s m args meth c) (hR : xRep D ty h H) (ht : ty a = some (0, 12)) (hdg : decode cc pc = .ok (.getfield 309, 3)) (kk : W p l e R s m args below meth c H locs cells slots Q (F0 m (pc + 3) ls (.int (xI h a 42) :: rest))) : W p l e R s m args below meth c H locs cells slots Q (F0 m pc ls (.ref a :: rest)) := x_get C0 hR (ci := 12) (k := 42) (N := 60) (T := TX12) rfl iX12 (by decide) rfl wf_X12_309 rfl ht hdg kk
theorem gf_X12_312 {a : Nat} (C0 : xC D RX12 cc nL rt p s m args meth c) (hR : xRep D ty h H) (ht : ty a = some (0, 12)) (hdg : decode cc pc = .ok (.getfield 312, 3)) (kk : W p l e R s m args below meth c H locs cells slots Q (F0 m (pc + 3) ls (.int (xI h a 43) :: rest))) : W p l e R s m args below meth c H locs cells slots Q (F0 m pc ls (.ref a :: rest)) := x_get C0 hR (ci := 12) (k := 43) (N := 60) (T := TX12) rfl iX12 (by decide) rfl wf_X12_312 rfl ht hdg kk
theorem pf_X12_309 {a : Nat} {v : Int32} (C0 : xC D RX12 cc nL rt p s m args meth c) (hR : xRep D ty h H) (hS : xS ty H0 H locs) (ht : ty a = some (0, 12)) (hdg : decode cc pc = .ok (.putfield 309, 3)) (kk : ∀ (H1 : Heap) (locs1 : List Loc), xRep D ty (xsI h a 42 v) H1 → xS ty H0 H1 locs1 → W p l e R s m args below meth c H1 locs1 cells slots Q (F0 m (pc + 3) ls rest)) : W p l e R s m args below meth c H locs cells slots Q (F0 m pc ls (.int v :: .ref a :: rest)) := x_puti C0 hR hS (ci := 12) (k := 42) (N := 60) (T := TX12) rfl iX12 tyX12_ok nmX12 (by decide) rfl rfl wf_X12_309 (Or.inl rfl) rfl rfl ht hdg kk
theorem pf_X12_312 {a : Nat} {v : Int32} (C0 : xC D RX12 cc nL rt p s m args meth c) (hR : xRep D ty h H) (hS : xS ty H0 H locs) (ht : ty a = some (0, 12)) (hdg : decode cc pc = .ok (.putfield 312, 3)) (kk : ∀ (H1 : Heap) (locs1 : List Loc), xRep D ty (xsI h a 43 v) H1 → xS ty H0 H1 locs1 → W p l e R s m args below meth c H1 locs1 cells slots Q (F0 m (pc + 3) ls rest)) : W p l e R s m args below meth c H locs cells slots Q (F0 m pc ls (.int v :: .ref a :: rest)) := x_puti C0 hR hS (ci := 12) (k := 43) (N := 60) (T := TX12) rfl iX12 tyX12_ok nmX12 (by decide) rfl rfl wf_X12_312 (Or.inl rfl) rfl rfl ht hdg kk
end XN_X12_follows
set_option maxHeartbeats 4000000 in
set_option maxRecDepth 100000 in
theorem jw_X12_follows_169 {p : Program} {l : Launch} {e : Env} {s : State} {m : MethodId} {args : Array Value} {below : List Frame} {meth : Method} {c : Code} {D : xD} {ty : xTy} {k5 : Nat → Int32 → Int32 → Int32 → Int32 → xH → Option (xH)} (C0 : xC D RX12 cX12_follows 8 none p s m args meth c) {h9 : xH} (hk5 : ∀ (v0 : Nat) (v1 : Int32) (v2 : Int32) (v3 : Int32) (v4 : Int32) (h : xH), ty v0 = some (0, 12) → k5 v0 v1 v2 v3 v4 h = some h9 → ∀ (H : Heap) (locs : List Loc), xRep D ty h H → xS ty s.heap H locs → ∀ ls : Array Slot, lv_has ls 8 [(0, .ref v0), (1, .int v1), (2, .int v2), (3, .int v3), (4, .int v4)] → W p l e jr_X12_follows s m args below meth c H locs 0 0 (MQ below (xQ D ty none h9) args s 0 0 (xdom ty)) (F0 m 5 ls [])) : ∀ (v0 : Nat) (v1 : Int32) (v2 : Int32) (v7 : Int32) (s0 : Int32) (h : xH), ty v0 = some (0, 12) → jf_X12_follows_169 ty k5 v0 v1 v2 v7 s0 h = some h9 → ∀ (H : Heap) (locs : List Loc), xRep D ty h H → xS ty s.heap H locs → ∀ ls : Array Slot, lv_has ls 8 [(0, .ref v0), (1, .int v1), (2, .int v2), (7, .int v7)] → W p l e jr_X12_follows s m args below meth c H locs 0 0 (MQ below (xQ D ty none h9) args s 0 0 (xdom ty)) (F0 m 169 ls [.int s0]) := by
  have hx := C0.1
  have hb := C0.2.1
  have hown := C0.2.2.2.2.2.1
  have hts := C0.2.2.2.2.2.2.1
  intro v0 v1 v2 v7 s0 h t_v0 hF H locs hR hS ls hl
  unfold jf_X12_follows_169 at hF
  refine lv_istore_n (lv' := [(3, .int s0), (0, .ref v0), (1, .int v1), (2, .int v2), (7, .int v7)]) hx hb dX12_follows_169 rfl hl (by decide) rfl (fun ls hl => ?_)
  refine lv_iload hx hb dX12_follows_170 (lv_at hl 4 rfl) ?_
  refine lv_istore (lv' := [(4, .int v7), (3, .int s0), (0, .ref v0), (1, .int v1), (2, .int v2), (7, .int v7)]) hx hb dX12_follows_172 hl (by decide) rfl (fun ls hl => ?_)
  refine lv_aload_n hx hb dX12_follows_174 rfl (lv_at hl 2 rfl) ?_
  refine lv_dup hx hb dX12_follows_175 rfl ?_
  refine gf_X12_309 C0 hR t_v0 dX12_follows_176 ?_
  refine lv_aload_n hx hb dX12_follows_179 rfl (lv_at hl 2 rfl) ?_
  refine lv_iload_n hx hb dX12_follows_180 rfl (lv_at hl 4 rfl) ?_
  refine lv_iload_n hx hb dX12_follows_181 rfl (lv_at hl 1 rfl) ?_
  obtain ⟨a1, e_a1, hF⟩ := xbd hF
  refine cl_X12_303 C0 hR hS e_a1 t_v0 ⟨(Nat.le_of_ble_eq_true rfl), (Nat.le_of_ble_eq_true rfl)⟩ hl.1 (Nat.le_of_ble_eq_true rfl) ⟨(Nat.le_of_ble_eq_true rfl), (Nat.le_of_ble_eq_true rfl)⟩ dX12_follows_182 (fun H locs hR hS => ?_)
  refine lv_if_eq (tgt := 192) hx hb dX12_follows_185 (by decide) (fun c2 => ?_) (fun c2 => ?_)
  · have hF := xif hF c2
    refine lv_iconst (v := 0) hx hb dX12_follows_192 (by decide) ?_
    refine lv_iadd hx hb dX12_follows_193 ?_
    obtain ⟨h3, e_h3, hF⟩ := xbd hF
    refine pf_X12_309 C0 hR hS t_v0 dX12_follows_194 (fun H locs hR hS => ?_)
    rw [Option.some.inj e_h3] at hR
    refine lv_goto (tgt := 5) hx hb dX12_follows_197 (by decide) ?_
    exact hk5 _ _ _ _ _ _ t_v0 hF _ _ hR hS _ (lv_sub hl [2, 3, 4, 1, 0] rfl)
  · have hF := xel hF c2
    refine lv_iconst (v := 1) hx hb dX12_follows_188 (by decide) ?_
    refine lv_goto (tgt := 193) hx hb dX12_follows_189 (by decide) ?_
    refine lv_iadd hx hb dX12_follows_193 ?_
    obtain ⟨h4, e_h4, hF⟩ := xbd hF
    refine pf_X12_309 C0 hR hS t_v0 dX12_follows_194 (fun H locs hR hS => ?_)
    rw [Option.some.inj e_h4] at hR
    refine lv_goto (tgt := 5) hx hb dX12_follows_197 (by decide) ?_
    exact hk5 _ _ _ _ _ _ t_v0 hF _ _ hR hS _ (lv_sub hl [2, 3, 4, 1, 0] rfl)
set_option maxHeartbeats 4000000 in
set_option maxRecDepth 100000 in
theorem jw_X12_follows_130 {p : Program} {l : Launch} {e : Env} {s : State} {m : MethodId} {args : Array Value} {below : List Frame} {meth : Method} {c : Code} {D : xD} {ty : xTy} {k5 : Nat → Int32 → Int32 → Int32 → Int32 → xH → Option (xH)} (C0 : xC D RX12 cX12_follows 8 none p s m args meth c) {h9 : xH} (hk5 : ∀ (v0 : Nat) (v1 : Int32) (v2 : Int32) (v3 : Int32) (v4 : Int32) (h : xH), ty v0 = some (0, 12) → k5 v0 v1 v2 v3 v4 h = some h9 → ∀ (H : Heap) (locs : List Loc), xRep D ty h H → xS ty s.heap H locs → ∀ ls : Array Slot, lv_has ls 8 [(0, .ref v0), (1, .int v1), (2, .int v2), (3, .int v3), (4, .int v4)] → W p l e jr_X12_follows s m args below meth c H locs 0 0 (MQ below (xQ D ty none h9) args s 0 0 (xdom ty)) (F0 m 5 ls [])) : ∀ (v0 : Nat) (v1 : Int32) (v2 : Int32) (v3 : Int32) (v6 : Int32) (s0 : Int32) (h : xH), ty v0 = some (0, 12) → jf_X12_follows_130 ty k5 v0 v1 v2 v3 v6 s0 h = some h9 → ∀ (H : Heap) (locs : List Loc), xRep D ty h H → xS ty s.heap H locs → ∀ ls : Array Slot, lv_has ls 8 [(0, .ref v0), (1, .int v1), (2, .int v2), (3, .int v3), (6, .int v6)] → W p l e jr_X12_follows s m args below meth c H locs 0 0 (MQ below (xQ D ty none h9) args s 0 0 (xdom ty)) (F0 m 130 ls [.int s0]) := by
  have hx := C0.1
  have hb := C0.2.1
  have hown := C0.2.2.2.2.2.1
  have hts := C0.2.2.2.2.2.2.1
  intro v0 v1 v2 v3 v6 s0 h t_v0 hF H locs hR hS ls hl
  unfold jf_X12_follows_130 at hF
  refine lv_istore (lv' := [(7, .int s0), (0, .ref v0), (1, .int v1), (2, .int v2), (3, .int v3), (6, .int v6)]) hx hb dX12_follows_130 hl (by decide) rfl (fun ls hl => ?_)
  refine lv_iload hx hb dX12_follows_132 (lv_at hl 5 rfl) ?_
  refine lv_if_eq (tgt := 166) hx hb dX12_follows_134 (by decide) (fun c5 => ?_) (fun c5 => ?_)
  · have hF := xif hF c5
    refine lv_iload_n hx hb dX12_follows_166 rfl (lv_at hl 4 rfl) ?_
    refine lv_iconst (v := 1) hx hb dX12_follows_167 (by decide) ?_
    refine lv_iadd hx hb dX12_follows_168 ?_
    exact jw_X12_follows_169 C0 hk5 _ _ _ _ _ _ t_v0 hF _ _ hR hS _ (lv_sub hl [1, 2, 3, 0] rfl)
  · have hF := xel hF c5
    refine lv_iload_n hx hb dX12_follows_137 rfl (lv_at hl 2 rfl) ?_
    refine lv_if_le (tgt := 166) hx hb dX12_follows_138 (by decide) (fun c6 => ?_) (fun c6 => ?_)
    · have hF := xif hF c6
      refine lv_iload_n hx hb dX12_follows_166 rfl (lv_at hl 4 rfl) ?_
      refine lv_iconst (v := 1) hx hb dX12_follows_167 (by decide) ?_
      refine lv_iadd hx hb dX12_follows_168 ?_
      exact jw_X12_follows_169 C0 hk5 _ _ _ _ _ _ t_v0 hF _ _ hR hS _ (lv_sub hl [1, 2, 3, 0] rfl)
    · have hF := xel hF c6
      refine lv_aload_n hx hb dX12_follows_141 rfl (lv_at hl 1 rfl) ?_
      obtain ⟨a7, e_a7, hF⟩ := xbd hF
      refine gf_X12_35 C0 hR t_v0 e_a7 dX12_follows_142 ?_
      refine lv_bipush (v := 12) hx hb dX12_follows_145 (by decide) ?_
      refine lv_iload_n hx hb dX12_follows_147 rfl (lv_at hl 3 rfl) ?_
      refine lv_imul hx hb dX12_follows_148 ?_
      refine lv_iload_n hx hb dX12_follows_149 rfl (lv_at hl 4 rfl) ?_
      refine lv_iadd hx hb dX12_follows_150 ?_
      refine lv_aload_n hx hb dX12_follows_151 rfl (lv_at hl 1 rfl) ?_
      obtain ⟨a8, e_a8, hF⟩ := xbd hF
      refine gf_X12_23 C0 hR t_v0 e_a8 dX12_follows_152 ?_
      obtain ⟨a9, e_a9, hF⟩ := xbd hF
      refine cl_X12_231 C0 hR hS e_a9  ⟨(Nat.le_of_ble_eq_true rfl), (Nat.le_of_ble_eq_true rfl)⟩ hl.1 (Nat.le_of_ble_eq_true rfl) ⟨(Nat.le_of_ble_eq_true rfl), (Nat.le_of_ble_eq_true rfl)⟩ dX12_follows_155 (fun H locs hR hS => ?_)
      refine lv_bipush (v := 12) hx hb dX12_follows_158 (by decide) ?_
      refine lv_iload_n hx hb dX12_follows_160 rfl (lv_at hl 3 rfl) ?_
      refine lv_imul hx hb dX12_follows_161 ?_
      refine lv_isub hx hb dX12_follows_162 ?_
      refine lv_goto (tgt := 169) hx hb dX12_follows_163 (by decide) ?_
      exact jw_X12_follows_169 C0 hk5 _ _ _ _ _ _ t_v0 hF _ _ hR hS _ (lv_sub hl [1, 2, 3, 0] rfl)
set_option maxHeartbeats 4000000 in
set_option maxRecDepth 100000 in
theorem jw_X12_follows_98 {p : Program} {l : Launch} {e : Env} {s : State} {m : MethodId} {args : Array Value} {below : List Frame} {meth : Method} {c : Code} {D : xD} {ty : xTy} {k5 : Nat → Int32 → Int32 → Int32 → Int32 → xH → Option (xH)} (C0 : xC D RX12 cX12_follows 8 none p s m args meth c) {h9 : xH} (hk5 : ∀ (v0 : Nat) (v1 : Int32) (v2 : Int32) (v3 : Int32) (v4 : Int32) (h : xH), ty v0 = some (0, 12) → k5 v0 v1 v2 v3 v4 h = some h9 → ∀ (H : Heap) (locs : List Loc), xRep D ty h H → xS ty s.heap H locs → ∀ ls : Array Slot, lv_has ls 8 [(0, .ref v0), (1, .int v1), (2, .int v2), (3, .int v3), (4, .int v4)] → W p l e jr_X12_follows s m args below meth c H locs 0 0 (MQ below (xQ D ty none h9) args s 0 0 (xdom ty)) (F0 m 5 ls [])) : ∀ (v0 : Nat) (v1 : Int32) (v2 : Int32) (v3 : Int32) (v4 : Int32) (v5 : Int32) (v6 : Int32) (h : xH), ty v0 = some (0, 12) → jf_X12_follows_98 ty k5 v0 v1 v2 v3 v4 v5 v6 h = some h9 → ∀ (H : Heap) (locs : List Loc), xRep D ty h H → xS ty s.heap H locs → ∀ ls : Array Slot, lv_has ls 8 [(0, .ref v0), (1, .int v1), (2, .int v2), (3, .int v3), (4, .int v4), (5, .int v5), (6, .int v6)] → W p l e jr_X12_follows s m args below meth c H locs 0 0 (MQ below (xQ D ty none h9) args s 0 0 (xdom ty)) (F0 m 98 ls []) := by
  have hx := C0.1
  have hb := C0.2.1
  have hown := C0.2.2.2.2.2.1
  have hts := C0.2.2.2.2.2.2.1
  intro v0 v1 v2 v3 v4 v5 v6 h t_v0 hF H locs hR hS ls hl
  unfold jf_X12_follows_98 at hF
  refine lv_iload hx hb dX12_follows_98 (lv_at hl 6 rfl) ?_
  refine lv_if_ne (tgt := 126) hx hb dX12_follows_100 (by decide) (fun c10 => ?_) (fun c10 => ?_)
  · have hF := xel hF c10
    refine lv_iload hx hb dX12_follows_126 (lv_at hl 4 rfl) ?_
    refine lv_iconst (v := 1) hx hb dX12_follows_128 (by decide) ?_
    refine lv_iadd hx hb dX12_follows_129 ?_
    exact jw_X12_follows_130 C0 hk5 _ _ _ _ _ _ _ t_v0 hF _ _ hR hS _ (lv_sub hl [0, 1, 2, 3, 6] rfl)
  · have hF := xif hF c10
    refine lv_iload hx hb dX12_follows_103 (lv_at hl 5 rfl) ?_
    refine lv_bipush (v := 100) hx hb dX12_follows_105 (by decide) ?_
    refine lv_icmp_ne (tgt := 126) hx hb dX12_follows_107 (by decide) (fun c11 => ?_) (fun c11 => ?_)
    · have hF := xel hF c11
      refine lv_iload hx hb dX12_follows_126 (lv_at hl 4 rfl) ?_
      refine lv_iconst (v := 1) hx hb dX12_follows_128 (by decide) ?_
      refine lv_iadd hx hb dX12_follows_129 ?_
      exact jw_X12_follows_130 C0 hk5 _ _ _ _ _ _ _ t_v0 hF _ _ hR hS _ (lv_sub hl [0, 1, 2, 3, 6] rfl)
    · have hF := xif hF c11
      refine lv_aload_n hx hb dX12_follows_110 rfl (lv_at hl 0 rfl) ?_
      obtain ⟨a12, e_a12, hF⟩ := xbd hF
      refine gf_X12_44 C0 hR t_v0 e_a12 dX12_follows_111 ?_
      refine lv_iload hx hb dX12_follows_114 (lv_at hl 4 rfl) ?_
      refine lv_aload_n hx hb dX12_follows_116 rfl (lv_at hl 0 rfl) ?_
      obtain ⟨a13, e_a13, hF⟩ := xbd hF
      refine gf_X12_23 C0 hR t_v0 e_a13 dX12_follows_117 ?_
      obtain ⟨a14, e_a14, hF⟩ := xbd hF
      refine cl_X12_231 C0 hR hS e_a14  ⟨(Nat.le_of_ble_eq_true rfl), (Nat.le_of_ble_eq_true rfl)⟩ hl.1 (Nat.le_of_ble_eq_true rfl) ⟨(Nat.le_of_ble_eq_true rfl), (Nat.le_of_ble_eq_true rfl)⟩ dX12_follows_120 (fun H locs hR hS => ?_)
      refine lv_goto (tgt := 130) hx hb dX12_follows_123 (by decide) ?_
      exact jw_X12_follows_130 C0 hk5 _ _ _ _ _ _ _ t_v0 hF _ _ hR hS _ (lv_sub hl [0, 1, 2, 3, 6] rfl)
set_option maxHeartbeats 4000000 in
set_option maxRecDepth 100000 in
theorem jw_X12_follows_49 {p : Program} {l : Launch} {e : Env} {s : State} {m : MethodId} {args : Array Value} {below : List Frame} {meth : Method} {c : Code} {D : xD} {ty : xTy} {k5 : Nat → Int32 → Int32 → Int32 → Int32 → xH → Option (xH)} (C0 : xC D RX12 cX12_follows 8 none p s m args meth c) {h9 : xH} (hk5 : ∀ (v0 : Nat) (v1 : Int32) (v2 : Int32) (v3 : Int32) (v4 : Int32) (h : xH), ty v0 = some (0, 12) → k5 v0 v1 v2 v3 v4 h = some h9 → ∀ (H : Heap) (locs : List Loc), xRep D ty h H → xS ty s.heap H locs → ∀ ls : Array Slot, lv_has ls 8 [(0, .ref v0), (1, .int v1), (2, .int v2), (3, .int v3), (4, .int v4)] → W p l e jr_X12_follows s m args below meth c H locs 0 0 (MQ below (xQ D ty none h9) args s 0 0 (xdom ty)) (F0 m 5 ls [])) : ∀ (v0 : Nat) (v1 : Int32) (v2 : Int32) (v3 : Int32) (v4 : Int32) (v5 : Int32) (s0 : Int32) (h : xH), ty v0 = some (0, 12) → jf_X12_follows_49 ty k5 v0 v1 v2 v3 v4 v5 s0 h = some h9 → ∀ (H : Heap) (locs : List Loc), xRep D ty h H → xS ty s.heap H locs → ∀ ls : Array Slot, lv_has ls 8 [(0, .ref v0), (1, .int v1), (2, .int v2), (3, .int v3), (4, .int v4), (5, .int v5)] → W p l e jr_X12_follows s m args below meth c H locs 0 0 (MQ below (xQ D ty none h9) args s 0 0 (xdom ty)) (F0 m 49 ls [.int s0]) := by
  have hx := C0.1
  have hb := C0.2.1
  have hown := C0.2.2.2.2.2.1
  have hts := C0.2.2.2.2.2.2.1
  intro v0 v1 v2 v3 v4 v5 s0 h t_v0 hF H locs hR hS ls hl
  unfold jf_X12_follows_49 at hF
  refine lv_istore (lv' := [(6, .int s0), (0, .ref v0), (1, .int v1), (2, .int v2), (3, .int v3), (4, .int v4), (5, .int v5)]) hx hb dX12_follows_49 hl (by decide) rfl (fun ls hl => ?_)
  refine lv_iload hx hb dX12_follows_51 (lv_at hl 0 rfl) ?_
  refine lv_if_eq (tgt := 70) hx hb dX12_follows_53 (by decide) (fun c15 => ?_) (fun c15 => ?_)
  · have hF := xif hF c15
    refine lv_iload hx hb dX12_follows_70 (lv_at hl 6 rfl) ?_
    refine lv_bipush (v := 100) hx hb dX12_follows_72 (by decide) ?_
    refine lv_icmp_ne (tgt := 85) hx hb dX12_follows_74 (by decide) (fun c16 => ?_) (fun c16 => ?_)
    · have hF := xel hF c16
      refine lv_iload hx hb dX12_follows_85 (lv_at hl 6 rfl) ?_
      refine lv_aload_n hx hb dX12_follows_87 rfl (lv_at hl 1 rfl) ?_
      obtain ⟨a17, e_a17, hF⟩ := xbd hF
      refine gf_X12_44 C0 hR t_v0 e_a17 dX12_follows_88 ?_
      refine lv_iload hx hb dX12_follows_91 (lv_at hl 5 rfl) ?_
      obtain ⟨a18, e_a18, hF⟩ := xbd hF
      refine x_iald C0 hR e_a18 dX12_follows_93 ?_
      refine lv_icmp_eq (tgt := 98) hx hb dX12_follows_94 (by decide) (fun c19 => ?_) (fun c19 => ?_)
      · have hF := xif hF c19
        exact jw_X12_follows_98 C0 hk5 _ _ _ _ _ _ _ _ t_v0 hF _ _ hR hS _ (lv_sub hl [1, 2, 3, 4, 5, 6, 0] rfl)
      · have hF := xel hF c19
        cases hF
        exact x_vret C0 hR hS dX12_follows_97
    · have hF := xif hF c16
      refine lv_iload_n hx hb dX12_follows_77 rfl (lv_at hl 2 rfl) ?_
      refine lv_iconst (v := 1) hx hb dX12_follows_78 (by decide) ?_
      refine lv_icmp_ne (tgt := 98) hx hb dX12_follows_79 (by decide) (fun c20 => ?_) (fun c20 => ?_)
      · have hF := xel hF c20
        exact jw_X12_follows_98 C0 hk5 _ _ _ _ _ _ _ _ t_v0 hF _ _ hR hS _ (lv_sub hl [1, 2, 3, 4, 5, 6, 0] rfl)
      · have hF := xif hF c20
        refine lv_goto (tgt := 97) hx hb dX12_follows_82 (by decide) ?_
        cases hF
        exact x_vret C0 hR hS dX12_follows_97
  · have hF := xel hF c15
    refine lv_iload_n hx hb dX12_follows_56 rfl (lv_at hl 2 rfl) ?_
    refine lv_if_ne (tgt := 98) hx hb dX12_follows_57 (by decide) (fun c21 => ?_) (fun c21 => ?_)
    · have hF := xel hF c21
      exact jw_X12_follows_98 C0 hk5 _ _ _ _ _ _ _ _ t_v0 hF _ _ hR hS _ (lv_sub hl [1, 2, 3, 4, 5, 6, 0] rfl)
    · have hF := xif hF c21
      refine lv_iload hx hb dX12_follows_60 (lv_at hl 6 rfl) ?_
      refine lv_bipush (v := 100) hx hb dX12_follows_62 (by decide) ?_
      refine lv_icmp_eq (tgt := 98) hx hb dX12_follows_64 (by decide) (fun c22 => ?_) (fun c22 => ?_)
      · have hF := xif hF c22
        exact jw_X12_follows_98 C0 hk5 _ _ _ _ _ _ _ _ t_v0 hF _ _ hR hS _ (lv_sub hl [1, 2, 3, 4, 5, 6, 0] rfl)
      · have hF := xel hF c22
        refine lv_goto (tgt := 97) hx hb dX12_follows_67 (by decide) ?_
        cases hF
        exact x_vret C0 hR hS dX12_follows_97
set_option maxHeartbeats 4000000 in
set_option maxRecDepth 100000 in
theorem jw_X12_follows_5 {p : Program} {l : Launch} {e : Env} {s : State} {m : MethodId} {args : Array Value} {below : List Frame} {meth : Method} {c : Code} {D : xD} {ty : xTy} (C0 : xC D RX12 cX12_follows 8 none p s m args meth c) {h9 : xH} : ∀ n : Nat, ∀ (v0 : Nat) (v1 : Int32) (v2 : Int32) (v3 : Int32) (v4 : Int32) (h : xH), ty v0 = some (0, 12) → jf_X12_follows_5 ty n v0 v1 v2 v3 v4 h = some h9 → ∀ (H : Heap) (locs : List Loc), xRep D ty h H → xS ty s.heap H locs → ∀ ls : Array Slot, lv_has ls 8 [(0, .ref v0), (1, .int v1), (2, .int v2), (3, .int v3), (4, .int v4)] → W p l e jr_X12_follows s m args below meth c H locs 0 0 (MQ below (xQ D ty none h9) args s 0 0 (xdom ty)) (F0 m 5 ls []) := by
  have hx := C0.1
  have hb := C0.2.1
  have hown := C0.2.2.2.2.2.1
  have hts := C0.2.2.2.2.2.2.1
  intro n
  induction n with
  | zero =>
    intro v0 v1 v2 v3 v4 h t_v0 hF H locs hR hS ls hl
    cases hF
  | succ n ih =>
    intro v0 v1 v2 v3 v4 h t_v0 hF H locs hR hS ls hl
    rw [jf_X12_follows_5_s] at hF
    refine lv_iload_n hx hb dX12_follows_5 rfl (lv_at hl 3 rfl) ?_
    refine lv_aload_n hx hb dX12_follows_6 rfl (lv_at hl 0 rfl) ?_
    obtain ⟨a23, e_a23, hF⟩ := xbd hF
    refine gf_X12_32 C0 hR t_v0 e_a23 dX12_follows_7 ?_
    refine lv_iload_n hx hb dX12_follows_10 rfl (lv_at hl 2 rfl) ?_
    obtain ⟨a24, e_a24, hF⟩ := xbd hF
    refine x_iald C0 hR e_a24 dX12_follows_11 ?_
    refine lv_icmp_ge (tgt := 200) hx hb dX12_follows_12 (by decide) (fun c25 => ?_) (fun c25 => ?_)
    · have hF := xif hF c25
      refine lv_aload_n hx hb dX12_follows_200 rfl (lv_at hl 0 rfl) ?_
      refine lv_dup hx hb dX12_follows_201 rfl ?_
      refine gf_X12_312 C0 hR t_v0 dX12_follows_202 ?_
      refine lv_iconst (v := 1) hx hb dX12_follows_205 (by decide) ?_
      refine lv_iadd hx hb dX12_follows_206 ?_
      obtain ⟨h26, e_h26, hF⟩ := xbd hF
      refine pf_X12_312 C0 hR hS t_v0 dX12_follows_207 (fun H locs hR hS => ?_)
      rw [Option.some.inj e_h26] at hR
      cases hF
      exact x_vret C0 hR hS dX12_follows_210
    · have hF := xel hF c25
      refine lv_iload hx hb dX12_follows_15 (lv_at hl 4 rfl) ?_
      refine lv_aload_n hx hb dX12_follows_17 rfl (lv_at hl 0 rfl) ?_
      refine gf_X12_188 C0 hR t_v0 dX12_follows_18 ?_
      refine lv_icmp_ge (tgt := 200) hx hb dX12_follows_21 (by decide) (fun c27 => ?_) (fun c27 => ?_)
      · have hF := xif hF c27
        refine lv_aload_n hx hb dX12_follows_200 rfl (lv_at hl 0 rfl) ?_
        refine lv_dup hx hb dX12_follows_201 rfl ?_
        refine gf_X12_312 C0 hR t_v0 dX12_follows_202 ?_
        refine lv_iconst (v := 1) hx hb dX12_follows_205 (by decide) ?_
        refine lv_iadd hx hb dX12_follows_206 ?_
        obtain ⟨h28, e_h28, hF⟩ := xbd hF
        refine pf_X12_312 C0 hR hS t_v0 dX12_follows_207 (fun H locs hR hS => ?_)
        rw [Option.some.inj e_h28] at hR
        cases hF
        exact x_vret C0 hR hS dX12_follows_210
      · have hF := xel hF c27
        refine lv_aload_n hx hb dX12_follows_24 rfl (lv_at hl 0 rfl) ?_
        refine lv_iload_n hx hb dX12_follows_25 rfl (lv_at hl 2 rfl) ?_
        refine lv_iload_n hx hb dX12_follows_26 rfl (lv_at hl 3 rfl) ?_
        obtain ⟨a29, e_a29, hF⟩ := xbd hF
        refine cl_X12_291 C0 hR hS e_a29 t_v0 ⟨(Nat.le_of_ble_eq_true rfl), (Nat.le_of_ble_eq_true rfl)⟩ hl.1 (Nat.le_of_ble_eq_true rfl) ⟨(Nat.le_of_ble_eq_true rfl), (Nat.le_of_ble_eq_true rfl)⟩ dX12_follows_27 (fun H locs hR hS => ?_)
        refine lv_istore (lv' := [(5, .int a29), (0, .ref v0), (1, .int v1), (2, .int v2), (3, .int v3), (4, .int v4)]) hx hb dX12_follows_30 hl (by decide) rfl (fun ls hl => ?_)
        refine lv_aload_n hx hb dX12_follows_32 rfl (lv_at hl 1 rfl) ?_
        obtain ⟨a30, e_a30, hF⟩ := xbd hF
        refine gf_X12_44 C0 hR t_v0 e_a30 dX12_follows_33 ?_
        refine lv_iload hx hb dX12_follows_36 (lv_at hl 5 rfl) ?_
        obtain ⟨a31, e_a31, hF⟩ := xbd hF
        refine x_iald C0 hR e_a31 dX12_follows_38 ?_
        refine lv_bipush (v := 100) hx hb dX12_follows_39 (by decide) ?_
        refine lv_icmp_lt (tgt := 48) hx hb dX12_follows_41 (by decide) (fun c32 => ?_) (fun c32 => ?_)
        · have hF := xif hF c32
          refine lv_iconst (v := 0) hx hb dX12_follows_48 (by decide) ?_
          exact jw_X12_follows_49 C0 ih _ _ _ _ _ _ _ _ t_v0 hF _ _ hR hS _ (lv_sub hl [1, 2, 3, 4, 5, 0] rfl)
        · have hF := xel hF c32
          refine lv_iconst (v := 1) hx hb dX12_follows_44 (by decide) ?_
          refine lv_goto (tgt := 49) hx hb dX12_follows_45 (by decide) ?_
          exact jw_X12_follows_49 C0 ih _ _ _ _ _ _ _ _ t_v0 hF _ _ hR hS _ (lv_sub hl [1, 2, 3, 4, 5, 0] rfl)
set_option maxHeartbeats 4000000 in
set_option maxRecDepth 100000 in
theorem jc_X12_follows {l : Launch} {D : xD} {ty : xTy} {h : xH} {v0 : Nat} {v1 : Int32} {v2 : Int32} {h9 : xH} (t_v0 : ty v0 = some (0, 12)) (hF : jf_X12_follows ty h v0 v1 v2 = some h9) : Met l yX12_follows (xws yX12_follows cX12_follows 8 none) jr_X12_follows (xPc D ty h [.ref v0, .int v1, .int v2]) (xQ D ty none h9) 0 0 (xdom ty) := by
  refine x_met (by decide) ?_
  intro p e s m below meth c C0 hR
  generalize hargs : ([.ref v0, .int v1, .int v2] : List Value).toArray = args at C0 ⊢
  have hx := C0.1
  have hb := C0.2.1
  have hown := C0.2.2.2.2.2.1
  have hts := C0.2.2.2.2.2.2.1
  have hS : xS ty s.heap s.heap [] := xS.rf
  have hl := lv_entry ([.ref v0, .int v1, .int v2]) (n := 8) (Nat.le_of_ble_eq_true rfl)
  rw [← hargs, lg_entry_eq]
  rw [hargs]
  generalize (lg_sl ([.ref v0, .int v1, .int v2]) ++ List.replicate (8 - (lg_sl ([.ref v0, .int v1, .int v2])).length) Slot.unset).toArray = ls at hl ⊢
  have hl : lv_has ls 8 [(0, .ref v0), (1, .int v1), (2, .int v2)] := hl
  unfold jf_X12_follows at hF
  refine lv_iconst (v := 0) hx hb dX12_follows_0 (by decide) ?_
  refine lv_istore_n (lv' := [(3, .int 0), (0, .ref v0), (1, .int v1), (2, .int v2)]) hx hb dX12_follows_1 rfl hl (by decide) rfl (fun ls hl => ?_)
  refine lv_iconst (v := 0) hx hb dX12_follows_2 (by decide) ?_
  refine lv_istore (lv' := [(4, .int 0), (3, .int 0), (0, .ref v0), (1, .int v1), (2, .int v2)]) hx hb dX12_follows_3 hl (by decide) rfl (fun ls hl => ?_)
  obtain ⟨_, hF⟩ := xlim_sp hF
  exact jw_X12_follows_5 C0 _ _ _ _ _ _ _ t_v0 hF _ _ hR hS _ (lv_sub hl [2, 3, 4, 1, 0] rfl)
theorem xm_X12_follows : xMw yX12_follows cX12_follows 8 none 2 := ⟨xin 1696 (by decide +kernel) rfl, xin 126 (by decide +kernel) rfl, by decide +kernel⟩
theorem xi_X12_follows : Cond.instanceMethod yX12_follows ∈ xT := xin 1695 (by decide +kernel) rfl
theorem xe_X12_follows : Cond.selects yX12_follows.cls yX12_follows yX12_follows ∈ xT := xin 91 (by decide +kernel) rfl
theorem dX12_finds_0 : decode cX12_finds 0 = .ok (.aload_n 0, 1) := by decide +kernel
theorem dX12_finds_1 : decode cX12_finds 1 = .ok (.iconst 0, 1) := by decide +kernel
theorem dX12_finds_2 : decode cX12_finds 2 = .ok (.putfield 309, 3) := by decide +kernel
theorem dX12_finds_5 : decode cX12_finds 5 = .ok (.aload_n 0, 1) := by decide +kernel
theorem dX12_finds_6 : decode cX12_finds 6 = .ok (.iconst 0, 1) := by decide +kernel
theorem dX12_finds_7 : decode cX12_finds 7 = .ok (.putfield 312, 3) := by decide +kernel
theorem dX12_finds_10 : decode cX12_finds 10 = .ok (.iconst 0, 1) := by decide +kernel
theorem dX12_finds_11 : decode cX12_finds 11 = .ok (.istore_n 2, 1) := by decide +kernel
theorem dX12_finds_12 : decode cX12_finds 12 = .ok (.iload_n 2, 1) := by decide +kernel
theorem dX12_finds_13 : decode cX12_finds 13 = .ok (.aload_n 0, 1) := by decide +kernel
theorem dX12_finds_14 : decode cX12_finds 14 = .ok (.getfield 178, 3) := by decide +kernel
theorem dX12_finds_17 : decode cX12_finds 17 = .ok (.if_icmp .ge 23, 3) := by decide +kernel
theorem dX12_finds_20 : decode cX12_finds 20 = .ok (.aload_n 0, 1) := by decide +kernel
theorem dX12_finds_21 : decode cX12_finds 21 = .ok (.iload_n 2, 1) := by decide +kernel
theorem dX12_finds_22 : decode cX12_finds 22 = .ok (.invokevirtual 285, 3) := by decide +kernel
theorem dX12_finds_25 : decode cX12_finds 25 = .ok (.ifCond .eq 9, 3) := by decide +kernel
theorem dX12_finds_28 : decode cX12_finds 28 = .ok (.aload_n 0, 1) := by decide +kernel
theorem dX12_finds_29 : decode cX12_finds 29 = .ok (.iload_n 1, 1) := by decide +kernel
theorem dX12_finds_30 : decode cX12_finds 30 = .ok (.iload_n 2, 1) := by decide +kernel
theorem dX12_finds_31 : decode cX12_finds 31 = .ok (.invokevirtual 315, 3) := by decide +kernel
theorem dX12_finds_34 : decode cX12_finds 34 = .ok (.iinc 2 1, 3) := by decide +kernel
theorem dX12_finds_37 : decode cX12_finds 37 = .ok (.goto (-25), 3) := by decide +kernel
theorem dX12_finds_40 : decode cX12_finds 40 = .ok (.return_, 1) := by decide +kernel
theorem wl_X12_315 : Cond.methodLink RX12 315 yX12_follows ∈ xT := xin 1693 (by decide +kernel) rfl
section XN_X12_finds
variable {p : Program} {l : Launch} {e : Env} {R : Room} {s : State} {m : MethodId} {args : Array Value} {below : List Frame} {meth : Method} {c : Code} {H H0 : Heap} {locs : List Loc} {cells slots : Nat} {Q : State → Prop} {cc : ByteArray} {nL pc : Nat} {rt : Option FieldType} {ls : Array Slot} {rest : List Value} {D : xD} {ty : xTy} {h : xH}
theorem cl_X12_315 {v0 : Nat} {v1 : Int32} {v2 : Int32} {h9 : xH} (C0 : xC D RX12 cc nL rt p s m args meth c) (hR : xRep D ty h H) (hS : xS ty H0 H locs) (hF : jf_X12_follows ty h v0 v1 v2 = some h9) (t_v0 : ty v0 = some (0, 12)) (hrm : jr_X12_follows.frames + 1 ≤ R.frames ∧ 8 + (8 + 11) + jr_X12_follows.locals ≤ R.locals) (hsz : ls.size = nL) (hW : (rest.map fun v => v.category).sum ≤ 8) (hf : cells ≤ R.cells ∧ slots ≤ R.slots) (hdg : decode cc pc = .ok (.invokevirtual 315, 3)) (kk : ∀ (H1 : Heap) (locs1 : List Loc), xRep D ty h9 H1 → xS ty H0 H1 locs1 → W p l e R s m args below meth c H1 locs1 cells slots Q (F0 m (pc + 3) ls rest)) : W p l e R s m args below meth c H locs cells slots Q (F0 m pc ls (.int v2 :: .int v1 :: .ref v0 :: rest)) := x_callV C0 (jc_X12_follows t_v0 hF) xm_X12_follows xi_X12_follows xe_X12_follows wl_X12_315 ⟨rfl, rfl, hrm⟩ (ci := 12) rfl t_v0 hR hS (As := [.int v1, .int v2]) rfl hsz rfl hW hdg hf kk
end XN_X12_finds
set_option maxHeartbeats 4000000 in
set_option maxRecDepth 100000 in
theorem jw_X12_finds_12 {p : Program} {l : Launch} {e : Env} {s : State} {m : MethodId} {args : Array Value} {below : List Frame} {meth : Method} {c : Code} {D : xD} {ty : xTy} (C0 : xC D RX12 cX12_finds 3 none p s m args meth c) {h9 : xH} : ∀ n : Nat, ∀ (v0 : Nat) (v1 : Int32) (v2 : Int32) (h : xH), ty v0 = some (0, 12) → jf_X12_finds_12 ty n v0 v1 v2 h = some h9 → ∀ (H : Heap) (locs : List Loc), xRep D ty h H → xS ty s.heap H locs → ∀ ls : Array Slot, lv_has ls 3 [(0, .ref v0), (1, .int v1), (2, .int v2)] → W p l e jr_X12_finds s m args below meth c H locs 0 0 (MQ below (xQ D ty none h9) args s 0 0 (xdom ty)) (F0 m 12 ls []) := by
  have hx := C0.1
  have hb := C0.2.1
  have hown := C0.2.2.2.2.2.1
  have hts := C0.2.2.2.2.2.2.1
  intro n
  induction n with
  | zero =>
    intro v0 v1 v2 h t_v0 hF H locs hR hS ls hl
    cases hF
  | succ n ih =>
    intro v0 v1 v2 h t_v0 hF H locs hR hS ls hl
    rw [jf_X12_finds_12_s] at hF
    refine lv_iload_n hx hb dX12_finds_12 rfl (lv_at hl 2 rfl) ?_
    refine lv_aload_n hx hb dX12_finds_13 rfl (lv_at hl 0 rfl) ?_
    refine gf_X12_178 C0 hR t_v0 dX12_finds_14 ?_
    refine lv_icmp_ge (tgt := 40) hx hb dX12_finds_17 (by decide) (fun c1 => ?_) (fun c1 => ?_)
    · have hF := xif hF c1
      cases hF
      exact x_vret C0 hR hS dX12_finds_40
    · have hF := xel hF c1
      refine lv_aload_n hx hb dX12_finds_20 rfl (lv_at hl 0 rfl) ?_
      refine lv_iload_n hx hb dX12_finds_21 rfl (lv_at hl 2 rfl) ?_
      obtain ⟨a2, e_a2, hF⟩ := xbd hF
      refine cl_X12_285 C0 hR hS e_a2 t_v0 ⟨(Nat.le_of_ble_eq_true rfl), (Nat.le_of_ble_eq_true rfl)⟩ hl.1 (Nat.le_of_ble_eq_true rfl) ⟨(Nat.le_of_ble_eq_true rfl), (Nat.le_of_ble_eq_true rfl)⟩ dX12_finds_22 (fun H locs hR hS => ?_)
      refine lv_if_eq (tgt := 34) hx hb dX12_finds_25 (by decide) (fun c3 => ?_) (fun c3 => ?_)
      · have hF := xif hF c3
        refine lv_iinc (v := v2 + 1) (lv' := [(2, .int (v2 + 1)), (0, .ref v0), (1, .int v1)]) hx hb dX12_finds_34 hl (k := 2) rfl rfl (by decide) rfl (fun ls hl => ?_)
        refine lv_goto (tgt := 12) hx hb dX12_finds_37 (by decide) ?_
        exact ih _ _ _ _ t_v0 hF _ _ hR hS _ (lv_sub hl [1, 2, 0] rfl)
      · have hF := xel hF c3
        refine lv_aload_n hx hb dX12_finds_28 rfl (lv_at hl 0 rfl) ?_
        refine lv_iload_n hx hb dX12_finds_29 rfl (lv_at hl 1 rfl) ?_
        refine lv_iload_n hx hb dX12_finds_30 rfl (lv_at hl 2 rfl) ?_
        obtain ⟨h4, e_h4, hF⟩ := xbd hF
        refine cl_X12_315 C0 hR hS e_h4 t_v0 ⟨(Nat.le_of_ble_eq_true rfl), (Nat.le_of_ble_eq_true rfl)⟩ hl.1 (Nat.le_of_ble_eq_true rfl) ⟨(Nat.le_of_ble_eq_true rfl), (Nat.le_of_ble_eq_true rfl)⟩ dX12_finds_31 (fun H locs hR hS => ?_)
        refine lv_iinc (v := v2 + 1) (lv' := [(2, .int (v2 + 1)), (0, .ref v0), (1, .int v1)]) hx hb dX12_finds_34 hl (k := 2) rfl rfl (by decide) rfl (fun ls hl => ?_)
        refine lv_goto (tgt := 12) hx hb dX12_finds_37 (by decide) ?_
        exact ih _ _ _ _ t_v0 hF _ _ hR hS _ (lv_sub hl [1, 2, 0] rfl)
set_option maxHeartbeats 4000000 in
set_option maxRecDepth 100000 in
theorem jc_X12_finds {l : Launch} {D : xD} {ty : xTy} {h : xH} {v0 : Nat} {v1 : Int32} {h9 : xH} (t_v0 : ty v0 = some (0, 12)) (hF : jf_X12_finds ty h v0 v1 = some h9) : Met l yX12_finds (xws yX12_finds cX12_finds 3 none) jr_X12_finds (xPc D ty h [.ref v0, .int v1]) (xQ D ty none h9) 0 0 (xdom ty) := by
  refine x_met (by decide) ?_
  intro p e s m below meth c C0 hR
  generalize hargs : ([.ref v0, .int v1] : List Value).toArray = args at C0 ⊢
  have hx := C0.1
  have hb := C0.2.1
  have hown := C0.2.2.2.2.2.1
  have hts := C0.2.2.2.2.2.2.1
  have hS : xS ty s.heap s.heap [] := xS.rf
  have hl := lv_entry ([.ref v0, .int v1]) (n := 3) (Nat.le_of_ble_eq_true rfl)
  rw [← hargs, lg_entry_eq]
  rw [hargs]
  generalize (lg_sl ([.ref v0, .int v1]) ++ List.replicate (3 - (lg_sl ([.ref v0, .int v1])).length) Slot.unset).toArray = ls at hl ⊢
  have hl : lv_has ls 3 [(0, .ref v0), (1, .int v1)] := hl
  unfold jf_X12_finds at hF
  refine lv_aload_n hx hb dX12_finds_0 rfl (lv_at hl 0 rfl) ?_
  refine lv_iconst (v := 0) hx hb dX12_finds_1 (by decide) ?_
  obtain ⟨h5, e_h5, hF⟩ := xbd hF
  refine pf_X12_309 C0 hR hS t_v0 dX12_finds_2 (fun H locs hR hS => ?_)
  rw [Option.some.inj e_h5] at hR
  refine lv_aload_n hx hb dX12_finds_5 rfl (lv_at hl 0 rfl) ?_
  refine lv_iconst (v := 0) hx hb dX12_finds_6 (by decide) ?_
  obtain ⟨h6, e_h6, hF⟩ := xbd hF
  refine pf_X12_312 C0 hR hS t_v0 dX12_finds_7 (fun H locs hR hS => ?_)
  rw [Option.some.inj e_h6] at hR
  refine lv_iconst (v := 0) hx hb dX12_finds_10 (by decide) ?_
  refine lv_istore_n (lv' := [(2, .int 0), (0, .ref v0), (1, .int v1)]) hx hb dX12_finds_11 rfl hl (by decide) rfl (fun ls hl => ?_)
  obtain ⟨_, hF⟩ := xlim_sp hF
  exact jw_X12_finds_12 C0 _ _ _ _ _ t_v0 hF _ _ hR hS _ (lv_sub hl [1, 2, 0] rfl)
theorem xm_X12_finds : xMw yX12_finds cX12_finds 3 none 1 := ⟨xin 1692 (by decide +kernel) rfl, xin 126 (by decide +kernel) rfl, by decide +kernel⟩
theorem xi_X12_finds : Cond.instanceMethod yX12_finds ∈ xT := xin 1691 (by decide +kernel) rfl
theorem xe_X12_finds : Cond.selects yX12_finds.cls yX12_finds yX12_finds ∈ xT := xin 90 (by decide +kernel) rfl
theorem dX12_layFound_0 : decode cX12_layFound 0 = .ok (.aload_n 0, 1) := by decide +kernel
theorem dX12_layFound_1 : decode cX12_layFound 1 = .ok (.iconst 0, 1) := by decide +kernel
theorem dX12_layFound_2 : decode cX12_layFound 2 = .ok (.putfield 319, 3) := by decide +kernel
theorem dX12_layFound_5 : decode cX12_layFound 5 = .ok (.iconst 0, 1) := by decide +kernel
theorem dX12_layFound_6 : decode cX12_layFound 6 = .ok (.istore_n 2, 1) := by decide +kernel
theorem dX12_layFound_7 : decode cX12_layFound 7 = .ok (.iload_n 2, 1) := by decide +kernel
theorem dX12_layFound_8 : decode cX12_layFound 8 = .ok (.bipush 16, 2) := by decide +kernel
theorem dX12_layFound_10 : decode cX12_layFound 10 = .ok (.if_icmp .ge 74, 3) := by decide +kernel
theorem dX12_layFound_13 : decode cX12_layFound 13 = .ok (.iconst 0, 1) := by decide +kernel
theorem dX12_layFound_14 : decode cX12_layFound 14 = .ok (.istore_n 3, 1) := by decide +kernel
theorem dX12_layFound_15 : decode cX12_layFound 15 = .ok (.iload_n 3, 1) := by decide +kernel
theorem dX12_layFound_16 : decode cX12_layFound 16 = .ok (.aload_n 0, 1) := by decide +kernel
theorem dX12_layFound_17 : decode cX12_layFound 17 = .ok (.getfield 178, 3) := by decide +kernel
theorem dX12_layFound_20 : decode cX12_layFound 20 = .ok (.if_icmp .ge 58, 3) := by decide +kernel
theorem dX12_layFound_23 : decode cX12_layFound 23 = .ok (.aload_n 0, 1) := by decide +kernel
theorem dX12_layFound_24 : decode cX12_layFound 24 = .ok (.iload_n 3, 1) := by decide +kernel
theorem dX12_layFound_25 : decode cX12_layFound 25 = .ok (.invokevirtual 285, 3) := by decide +kernel
theorem dX12_layFound_28 : decode cX12_layFound 28 = .ok (.ifCond .eq 44, 3) := by decide +kernel
theorem dX12_layFound_31 : decode cX12_layFound 31 = .ok (.aload_n 0, 1) := by decide +kernel
theorem dX12_layFound_32 : decode cX12_layFound 32 = .ok (.iload_n 3, 1) := by decide +kernel
theorem dX12_layFound_33 : decode cX12_layFound 33 = .ok (.invokevirtual 322, 3) := by decide +kernel
theorem dX12_layFound_36 : decode cX12_layFound 36 = .ok (.iload_n 2, 1) := by decide +kernel
theorem dX12_layFound_37 : decode cX12_layFound 37 = .ok (.if_icmp .ne 35, 3) := by decide +kernel
theorem dX12_layFound_40 : decode cX12_layFound 40 = .ok (.aload_n 0, 1) := by decide +kernel
theorem dX12_layFound_41 : decode cX12_layFound 41 = .ok (.iload_n 1, 1) := by decide +kernel
theorem dX12_layFound_42 : decode cX12_layFound 42 = .ok (.iload_n 3, 1) := by decide +kernel
theorem dX12_layFound_43 : decode cX12_layFound 43 = .ok (.invokevirtual 288, 3) := by decide +kernel
theorem dX12_layFound_46 : decode cX12_layFound 46 = .ok (.ifCond .ne 6, 3) := by decide +kernel
theorem dX12_layFound_49 : decode cX12_layFound 49 = .ok (.goto 23, 3) := by decide +kernel
theorem dX12_layFound_52 : decode cX12_layFound 52 = .ok (.aload_n 0, 1) := by decide +kernel
theorem dX12_layFound_53 : decode cX12_layFound 53 = .ok (.getfield 74, 3) := by decide +kernel
theorem dX12_layFound_56 : decode cX12_layFound 56 = .ok (.aload_n 0, 1) := by decide +kernel
theorem dX12_layFound_57 : decode cX12_layFound 57 = .ok (.getfield 319, 3) := by decide +kernel
theorem dX12_layFound_60 : decode cX12_layFound 60 = .ok (.iload_n 3, 1) := by decide +kernel
theorem dX12_layFound_61 : decode cX12_layFound 61 = .ok (.iastore, 1) := by decide +kernel
theorem dX12_layFound_62 : decode cX12_layFound 62 = .ok (.aload_n 0, 1) := by decide +kernel
theorem dX12_layFound_63 : decode cX12_layFound 63 = .ok (.dup, 1) := by decide +kernel
theorem dX12_layFound_64 : decode cX12_layFound 64 = .ok (.getfield 319, 3) := by decide +kernel
theorem dX12_layFound_67 : decode cX12_layFound 67 = .ok (.iconst 1, 1) := by decide +kernel
theorem dX12_layFound_68 : decode cX12_layFound 68 = .ok (.iadd, 1) := by decide +kernel
theorem dX12_layFound_69 : decode cX12_layFound 69 = .ok (.putfield 319, 3) := by decide +kernel
theorem dX12_layFound_72 : decode cX12_layFound 72 = .ok (.iinc 3 1, 3) := by decide +kernel
theorem dX12_layFound_75 : decode cX12_layFound 75 = .ok (.goto (-60), 3) := by decide +kernel
theorem dX12_layFound_78 : decode cX12_layFound 78 = .ok (.iinc 2 1, 3) := by decide +kernel
theorem dX12_layFound_81 : decode cX12_layFound 81 = .ok (.goto (-74), 3) := by decide +kernel
theorem dX12_layFound_84 : decode cX12_layFound 84 = .ok (.return_, 1) := by decide +kernel
theorem wl_X12_322 : Cond.methodLink RX12 322 yX12_placeOf ∈ xT := xin 1666 (by decide +kernel) rfl
theorem wf_X12_319 : Cond.fieldLink RX12 319 "TermShelfModel" "foundMany" "I" ∈ xT := xin 1357 (by decide +kernel) rfl
theorem wf_X12_74 : Cond.fieldLink RX12 74 "TermShelfModel" "foundRow" "[I" ∈ xT := xin 1356 (by decide +kernel) rfl
section XN_X12_layFound
variable {p : Program} {l : Launch} {e : Env} {R : Room} {s : State} {m : MethodId} {args : Array Value} {below : List Frame} {meth : Method} {c : Code} {H H0 : Heap} {locs : List Loc} {cells slots : Nat} {Q : State → Prop} {cc : ByteArray} {nL pc : Nat} {rt : Option FieldType} {ls : Array Slot} {rest : List Value} {D : xD} {ty : xTy} {h : xH}
theorem cl_X12_322 {v0 : Nat} {v1 : Int32} {r : Int32} (C0 : xC D RX12 cc nL rt p s m args meth c) (hR : xRep D ty h H) (hS : xS ty H0 H locs) (hF : jf_X12_placeOf ty h v0 v1 = some r) (t_v0 : ty v0 = some (0, 12)) (hrm : jr_X12_placeOf.frames + 1 ≤ R.frames ∧ 8 + (4 + 11) + jr_X12_placeOf.locals ≤ R.locals) (hsz : ls.size = nL) (hW : (rest.map fun v => v.category).sum ≤ 8) (hf : cells ≤ R.cells ∧ slots ≤ R.slots) (hdg : decode cc pc = .ok (.invokevirtual 322, 3)) (kk : ∀ (H1 : Heap) (locs1 : List Loc), xRep D ty h H1 → xS ty H0 H1 locs1 → W p l e R s m args below meth c H1 locs1 cells slots Q (F0 m (pc + 3) ls (.int r :: rest))) : W p l e R s m args below meth c H locs cells slots Q (F0 m pc ls (.int v1 :: .ref v0 :: rest)) := x_callV C0 (jc_X12_placeOf t_v0 hF) xm_X12_placeOf xi_X12_placeOf xe_X12_placeOf wl_X12_322 ⟨rfl, rfl, hrm⟩ (ci := 12) rfl t_v0 hR hS (As := [.int v1]) rfl hsz rfl hW hdg hf kk
theorem gf_X12_319 {a : Nat} (C0 : xC D RX12 cc nL rt p s m args meth c) (hR : xRep D ty h H) (ht : ty a = some (0, 12)) (hdg : decode cc pc = .ok (.getfield 319, 3)) (kk : W p l e R s m args below meth c H locs cells slots Q (F0 m (pc + 3) ls (.int (xI h a 45) :: rest))) : W p l e R s m args below meth c H locs cells slots Q (F0 m pc ls (.ref a :: rest)) := x_get C0 hR (ci := 12) (k := 45) (N := 60) (T := TX12) rfl iX12 (by decide) rfl wf_X12_319 rfl ht hdg kk
theorem gf_X12_74 {a : Nat} (C0 : xC D RX12 cc nL rt p s m args meth c) (hR : xRep D ty h H) (ht : ty a = some (0, 12)) {v : Nat} (hv : xR h a 44 = some v) (hdg : decode cc pc = .ok (.getfield 74, 3)) (kk : W p l e R s m args below meth c H locs cells slots Q (F0 m (pc + 3) ls (.ref v :: rest))) : W p l e R s m args below meth c H locs cells slots Q (F0 m pc ls (.ref a :: rest)) := x_get C0 hR (ci := 12) (k := 44) (N := 60) (T := TX12) rfl iX12 (by decide) rfl wf_X12_74 (by show va_rf (xR h a 44) = _; rw [hv]; rfl) ht hdg kk
theorem pf_X12_319 {a : Nat} {v : Int32} (C0 : xC D RX12 cc nL rt p s m args meth c) (hR : xRep D ty h H) (hS : xS ty H0 H locs) (ht : ty a = some (0, 12)) (hdg : decode cc pc = .ok (.putfield 319, 3)) (kk : ∀ (H1 : Heap) (locs1 : List Loc), xRep D ty (xsI h a 45 v) H1 → xS ty H0 H1 locs1 → W p l e R s m args below meth c H1 locs1 cells slots Q (F0 m (pc + 3) ls rest)) : W p l e R s m args below meth c H locs cells slots Q (F0 m pc ls (.int v :: .ref a :: rest)) := x_puti C0 hR hS (ci := 12) (k := 45) (N := 60) (T := TX12) rfl iX12 tyX12_ok nmX12 (by decide) rfl rfl wf_X12_319 (Or.inl rfl) rfl rfl ht hdg kk
end XN_X12_layFound
set_option maxHeartbeats 4000000 in
set_option maxRecDepth 100000 in
theorem jw_X12_layFound_15 {p : Program} {l : Launch} {e : Env} {s : State} {m : MethodId} {args : Array Value} {below : List Frame} {meth : Method} {c : Code} {D : xD} {ty : xTy} {k7 : Nat → Int32 → Int32 → xH → Option (xH)} (C0 : xC D RX12 cX12_layFound 4 none p s m args meth c) {h9 : xH} (hk7 : ∀ (v0 : Nat) (v1 : Int32) (v2 : Int32) (h : xH), ty v0 = some (0, 12) → k7 v0 v1 v2 h = some h9 → ∀ (H : Heap) (locs : List Loc), xRep D ty h H → xS ty s.heap H locs → ∀ ls : Array Slot, lv_has ls 4 [(0, .ref v0), (1, .int v1), (2, .int v2)] → W p l e jr_X12_layFound s m args below meth c H locs 0 0 (MQ below (xQ D ty none h9) args s 0 0 (xdom ty)) (F0 m 7 ls [])) : ∀ n : Nat, ∀ (v0 : Nat) (v1 : Int32) (v2 : Int32) (v3 : Int32) (h : xH), ty v0 = some (0, 12) → jf_X12_layFound_15 ty k7 n v0 v1 v2 v3 h = some h9 → ∀ (H : Heap) (locs : List Loc), xRep D ty h H → xS ty s.heap H locs → ∀ ls : Array Slot, lv_has ls 4 [(0, .ref v0), (1, .int v1), (2, .int v2), (3, .int v3)] → W p l e jr_X12_layFound s m args below meth c H locs 0 0 (MQ below (xQ D ty none h9) args s 0 0 (xdom ty)) (F0 m 15 ls []) := by
  have hx := C0.1
  have hb := C0.2.1
  have hown := C0.2.2.2.2.2.1
  have hts := C0.2.2.2.2.2.2.1
  intro n
  induction n with
  | zero =>
    intro v0 v1 v2 v3 h t_v0 hF H locs hR hS ls hl
    cases hF
  | succ n ih =>
    intro v0 v1 v2 v3 h t_v0 hF H locs hR hS ls hl
    rw [jf_X12_layFound_15_s] at hF
    refine lv_iload_n hx hb dX12_layFound_15 rfl (lv_at hl 3 rfl) ?_
    refine lv_aload_n hx hb dX12_layFound_16 rfl (lv_at hl 0 rfl) ?_
    refine gf_X12_178 C0 hR t_v0 dX12_layFound_17 ?_
    refine lv_icmp_ge (tgt := 78) hx hb dX12_layFound_20 (by decide) (fun c1 => ?_) (fun c1 => ?_)
    · have hF := xif hF c1
      refine lv_iinc (v := v2 + 1) (lv' := [(2, .int (v2 + 1)), (0, .ref v0), (1, .int v1), (3, .int v3)]) hx hb dX12_layFound_78 hl (k := 2) rfl rfl (by decide) rfl (fun ls hl => ?_)
      refine lv_goto (tgt := 7) hx hb dX12_layFound_81 (by decide) ?_
      exact hk7 _ _ _ _ t_v0 hF _ _ hR hS _ (lv_sub hl [1, 2, 0] rfl)
    · have hF := xel hF c1
      refine lv_aload_n hx hb dX12_layFound_23 rfl (lv_at hl 0 rfl) ?_
      refine lv_iload_n hx hb dX12_layFound_24 rfl (lv_at hl 3 rfl) ?_
      obtain ⟨a2, e_a2, hF⟩ := xbd hF
      refine cl_X12_285 C0 hR hS e_a2 t_v0 ⟨(Nat.le_of_ble_eq_true rfl), (Nat.le_of_ble_eq_true rfl)⟩ hl.1 (Nat.le_of_ble_eq_true rfl) ⟨(Nat.le_of_ble_eq_true rfl), (Nat.le_of_ble_eq_true rfl)⟩ dX12_layFound_25 (fun H locs hR hS => ?_)
      refine lv_if_eq (tgt := 72) hx hb dX12_layFound_28 (by decide) (fun c3 => ?_) (fun c3 => ?_)
      · have hF := xif hF c3
        refine lv_iinc (v := v3 + 1) (lv' := [(3, .int (v3 + 1)), (0, .ref v0), (1, .int v1), (2, .int v2)]) hx hb dX12_layFound_72 hl (k := 3) rfl rfl (by decide) rfl (fun ls hl => ?_)
        refine lv_goto (tgt := 15) hx hb dX12_layFound_75 (by decide) ?_
        exact ih _ _ _ _ _ t_v0 hF _ _ hR hS _ (lv_sub hl [1, 2, 3, 0] rfl)
      · have hF := xel hF c3
        refine lv_aload_n hx hb dX12_layFound_31 rfl (lv_at hl 0 rfl) ?_
        refine lv_iload_n hx hb dX12_layFound_32 rfl (lv_at hl 3 rfl) ?_
        obtain ⟨a4, e_a4, hF⟩ := xbd hF
        refine cl_X12_322 C0 hR hS e_a4 t_v0 ⟨(Nat.le_of_ble_eq_true rfl), (Nat.le_of_ble_eq_true rfl)⟩ hl.1 (Nat.le_of_ble_eq_true rfl) ⟨(Nat.le_of_ble_eq_true rfl), (Nat.le_of_ble_eq_true rfl)⟩ dX12_layFound_33 (fun H locs hR hS => ?_)
        refine lv_iload_n hx hb dX12_layFound_36 rfl (lv_at hl 2 rfl) ?_
        refine lv_icmp_ne (tgt := 72) hx hb dX12_layFound_37 (by decide) (fun c5 => ?_) (fun c5 => ?_)
        · have hF := xel hF c5
          refine lv_iinc (v := v3 + 1) (lv' := [(3, .int (v3 + 1)), (0, .ref v0), (1, .int v1), (2, .int v2)]) hx hb dX12_layFound_72 hl (k := 3) rfl rfl (by decide) rfl (fun ls hl => ?_)
          refine lv_goto (tgt := 15) hx hb dX12_layFound_75 (by decide) ?_
          exact ih _ _ _ _ _ t_v0 hF _ _ hR hS _ (lv_sub hl [1, 2, 3, 0] rfl)
        · have hF := xif hF c5
          refine lv_aload_n hx hb dX12_layFound_40 rfl (lv_at hl 0 rfl) ?_
          refine lv_iload_n hx hb dX12_layFound_41 rfl (lv_at hl 1 rfl) ?_
          refine lv_iload_n hx hb dX12_layFound_42 rfl (lv_at hl 3 rfl) ?_
          obtain ⟨a7, h6, e_h6, hF⟩ := xbd2 hF
          refine cl_X12_288 C0 hR hS e_h6 t_v0 ⟨(Nat.le_of_ble_eq_true rfl), (Nat.le_of_ble_eq_true rfl)⟩ hl.1 (Nat.le_of_ble_eq_true rfl) ⟨(Nat.le_of_ble_eq_true rfl), (Nat.le_of_ble_eq_true rfl)⟩ dX12_layFound_43 (fun H locs hR hS => ?_)
          refine lv_if_ne (tgt := 52) hx hb dX12_layFound_46 (by decide) (fun c8 => ?_) (fun c8 => ?_)
          · have hF := xel hF c8
            refine lv_aload_n hx hb dX12_layFound_52 rfl (lv_at hl 0 rfl) ?_
            obtain ⟨a9, e_a9, hF⟩ := xbd hF
            refine gf_X12_74 C0 hR t_v0 e_a9 dX12_layFound_53 ?_
            refine lv_aload_n hx hb dX12_layFound_56 rfl (lv_at hl 0 rfl) ?_
            refine gf_X12_319 C0 hR t_v0 dX12_layFound_57 ?_
            refine lv_iload_n hx hb dX12_layFound_60 rfl (lv_at hl 3 rfl) ?_
            obtain ⟨h10, e_h10, hF⟩ := xbd hF
            refine x_iast C0 hR hS e_h10 dX12_layFound_61 (fun H locs hR hS => ?_)
            refine lv_aload_n hx hb dX12_layFound_62 rfl (lv_at hl 0 rfl) ?_
            refine lv_dup hx hb dX12_layFound_63 rfl ?_
            refine gf_X12_319 C0 hR t_v0 dX12_layFound_64 ?_
            refine lv_iconst (v := 1) hx hb dX12_layFound_67 (by decide) ?_
            refine lv_iadd hx hb dX12_layFound_68 ?_
            obtain ⟨h11, e_h11, hF⟩ := xbd hF
            refine pf_X12_319 C0 hR hS t_v0 dX12_layFound_69 (fun H locs hR hS => ?_)
            rw [Option.some.inj e_h11] at hR
            refine lv_iinc (v := v3 + 1) (lv' := [(3, .int (v3 + 1)), (0, .ref v0), (1, .int v1), (2, .int v2)]) hx hb dX12_layFound_72 hl (k := 3) rfl rfl (by decide) rfl (fun ls hl => ?_)
            refine lv_goto (tgt := 15) hx hb dX12_layFound_75 (by decide) ?_
            exact ih _ _ _ _ _ t_v0 hF _ _ hR hS _ (lv_sub hl [1, 2, 3, 0] rfl)
          · have hF := xif hF c8
            refine lv_goto (tgt := 72) hx hb dX12_layFound_49 (by decide) ?_
            refine lv_iinc (v := v3 + 1) (lv' := [(3, .int (v3 + 1)), (0, .ref v0), (1, .int v1), (2, .int v2)]) hx hb dX12_layFound_72 hl (k := 3) rfl rfl (by decide) rfl (fun ls hl => ?_)
            refine lv_goto (tgt := 15) hx hb dX12_layFound_75 (by decide) ?_
            exact ih _ _ _ _ _ t_v0 hF _ _ hR hS _ (lv_sub hl [1, 2, 3, 0] rfl)
set_option maxHeartbeats 4000000 in
set_option maxRecDepth 100000 in
theorem jw_X12_layFound_7 {p : Program} {l : Launch} {e : Env} {s : State} {m : MethodId} {args : Array Value} {below : List Frame} {meth : Method} {c : Code} {D : xD} {ty : xTy} (C0 : xC D RX12 cX12_layFound 4 none p s m args meth c) {h9 : xH} : ∀ n : Nat, ∀ (v0 : Nat) (v1 : Int32) (v2 : Int32) (h : xH), ty v0 = some (0, 12) → jf_X12_layFound_7 ty n v0 v1 v2 h = some h9 → ∀ (H : Heap) (locs : List Loc), xRep D ty h H → xS ty s.heap H locs → ∀ ls : Array Slot, lv_has ls 4 [(0, .ref v0), (1, .int v1), (2, .int v2)] → W p l e jr_X12_layFound s m args below meth c H locs 0 0 (MQ below (xQ D ty none h9) args s 0 0 (xdom ty)) (F0 m 7 ls []) := by
  have hx := C0.1
  have hb := C0.2.1
  have hown := C0.2.2.2.2.2.1
  have hts := C0.2.2.2.2.2.2.1
  intro n
  induction n with
  | zero =>
    intro v0 v1 v2 h t_v0 hF H locs hR hS ls hl
    cases hF
  | succ n ih =>
    intro v0 v1 v2 h t_v0 hF H locs hR hS ls hl
    rw [jf_X12_layFound_7_s] at hF
    refine lv_iload_n hx hb dX12_layFound_7 rfl (lv_at hl 2 rfl) ?_
    refine lv_bipush (v := 16) hx hb dX12_layFound_8 (by decide) ?_
    refine lv_icmp_ge (tgt := 84) hx hb dX12_layFound_10 (by decide) (fun c12 => ?_) (fun c12 => ?_)
    · have hF := xif hF c12
      cases hF
      exact x_vret C0 hR hS dX12_layFound_84
    · have hF := xel hF c12
      refine lv_iconst (v := 0) hx hb dX12_layFound_13 (by decide) ?_
      refine lv_istore_n (lv' := [(3, .int 0), (0, .ref v0), (1, .int v1), (2, .int v2)]) hx hb dX12_layFound_14 rfl hl (by decide) rfl (fun ls hl => ?_)
      obtain ⟨_, hF⟩ := xlim_sp hF
      exact jw_X12_layFound_15 C0 ih _ _ _ _ _ _ t_v0 hF _ _ hR hS _ (lv_sub hl [1, 2, 3, 0] rfl)
set_option maxHeartbeats 4000000 in
set_option maxRecDepth 100000 in
theorem jc_X12_layFound {l : Launch} {D : xD} {ty : xTy} {h : xH} {v0 : Nat} {v1 : Int32} {h9 : xH} (t_v0 : ty v0 = some (0, 12)) (hF : jf_X12_layFound ty h v0 v1 = some h9) : Met l yX12_layFound (xws yX12_layFound cX12_layFound 4 none) jr_X12_layFound (xPc D ty h [.ref v0, .int v1]) (xQ D ty none h9) 0 0 (xdom ty) := by
  refine x_met (by decide) ?_
  intro p e s m below meth c C0 hR
  generalize hargs : ([.ref v0, .int v1] : List Value).toArray = args at C0 ⊢
  have hx := C0.1
  have hb := C0.2.1
  have hown := C0.2.2.2.2.2.1
  have hts := C0.2.2.2.2.2.2.1
  have hS : xS ty s.heap s.heap [] := xS.rf
  have hl := lv_entry ([.ref v0, .int v1]) (n := 4) (Nat.le_of_ble_eq_true rfl)
  rw [← hargs, lg_entry_eq]
  rw [hargs]
  generalize (lg_sl ([.ref v0, .int v1]) ++ List.replicate (4 - (lg_sl ([.ref v0, .int v1])).length) Slot.unset).toArray = ls at hl ⊢
  have hl : lv_has ls 4 [(0, .ref v0), (1, .int v1)] := hl
  unfold jf_X12_layFound at hF
  refine lv_aload_n hx hb dX12_layFound_0 rfl (lv_at hl 0 rfl) ?_
  refine lv_iconst (v := 0) hx hb dX12_layFound_1 (by decide) ?_
  obtain ⟨h13, e_h13, hF⟩ := xbd hF
  refine pf_X12_319 C0 hR hS t_v0 dX12_layFound_2 (fun H locs hR hS => ?_)
  rw [Option.some.inj e_h13] at hR
  refine lv_iconst (v := 0) hx hb dX12_layFound_5 (by decide) ?_
  refine lv_istore_n (lv' := [(2, .int 0), (0, .ref v0), (1, .int v1)]) hx hb dX12_layFound_6 rfl hl (by decide) rfl (fun ls hl => ?_)
  obtain ⟨_, hF⟩ := xlim_sp hF
  exact jw_X12_layFound_7 C0 _ _ _ _ _ t_v0 hF _ _ hR hS _ (lv_sub hl [1, 2, 0] rfl)
theorem xm_X12_layFound : xMw yX12_layFound cX12_layFound 4 none 1 := ⟨xin 1665 (by decide +kernel) rfl, xin 126 (by decide +kernel) rfl, by decide +kernel⟩
theorem xi_X12_layFound : Cond.instanceMethod yX12_layFound ∈ xT := xin 1664 (by decide +kernel) rfl
theorem xe_X12_layFound : Cond.selects yX12_layFound.cls yX12_layFound yX12_layFound ∈ xT := xin 85 (by decide +kernel) rfl
theorem dX12_found_0 : decode cX12_found 0 = .ok (.aload_n 0, 1) := by decide +kernel
theorem dX12_found_1 : decode cX12_found 1 = .ok (.iconst 0, 1) := by decide +kernel
theorem dX12_found_2 : decode cX12_found 2 = .ok (.putfield 101, 3) := by decide +kernel
theorem dX12_found_5 : decode cX12_found 5 = .ok (.iload_n 1, 1) := by decide +kernel
theorem dX12_found_6 : decode cX12_found 6 = .ok (.iconst 0, 1) := by decide +kernel
theorem dX12_found_7 : decode cX12_found 7 = .ok (.iconst 2, 1) := by decide +kernel
theorem dX12_found_8 : decode cX12_found 8 = .ok (.invokestatic 146, 3) := by decide +kernel
theorem dX12_found_11 : decode cX12_found 11 = .ok (.ifCond .eq 14, 3) := by decide +kernel
theorem dX12_found_14 : decode cX12_found 14 = .ok (.iload_n 2, 1) := by decide +kernel
theorem dX12_found_15 : decode cX12_found 15 = .ok (.ifCond .lt 10, 3) := by decide +kernel
theorem dX12_found_18 : decode cX12_found 18 = .ok (.aload_n 0, 1) := by decide +kernel
theorem dX12_found_19 : decode cX12_found 19 = .ok (.getfield 188, 3) := by decide +kernel
theorem dX12_found_22 : decode cX12_found 22 = .ok (.ifCond .ne 5, 3) := by decide +kernel
theorem dX12_found_25 : decode cX12_found 25 = .ok (.iconst (-1), 1) := by decide +kernel
theorem dX12_found_26 : decode cX12_found 26 = .ok (.ireturn, 1) := by decide +kernel
theorem dX12_found_27 : decode cX12_found 27 = .ok (.aload_n 0, 1) := by decide +kernel
theorem dX12_found_28 : decode cX12_found 28 = .ok (.iload_n 1, 1) := by decide +kernel
theorem dX12_found_29 : decode cX12_found 29 = .ok (.invokevirtual 325, 3) := by decide +kernel
theorem dX12_found_32 : decode cX12_found 32 = .ok (.iload_n 2, 1) := by decide +kernel
theorem dX12_found_33 : decode cX12_found 33 = .ok (.aload_n 0, 1) := by decide +kernel
theorem dX12_found_34 : decode cX12_found 34 = .ok (.getfield 319, 3) := by decide +kernel
theorem dX12_found_37 : decode cX12_found 37 = .ok (.if_icmp .ge 12, 3) := by decide +kernel
theorem dX12_found_40 : decode cX12_found 40 = .ok (.aload_n 0, 1) := by decide +kernel
theorem dX12_found_41 : decode cX12_found 41 = .ok (.getfield 74, 3) := by decide +kernel
theorem dX12_found_44 : decode cX12_found 44 = .ok (.iload_n 2, 1) := by decide +kernel
theorem dX12_found_45 : decode cX12_found 45 = .ok (.iaload, 1) := by decide +kernel
theorem dX12_found_46 : decode cX12_found 46 = .ok (.goto 5, 3) := by decide +kernel
theorem dX12_found_49 : decode cX12_found 49 = .ok (.bipush (-2), 2) := by decide +kernel
theorem dX12_found_51 : decode cX12_found 51 = .ok (.ireturn, 1) := by decide +kernel
theorem wl_X12_325 : Cond.methodLink RX12 325 yX12_layFound ∈ xT := xin 1662 (by decide +kernel) rfl
section XN_X12_found
variable {p : Program} {l : Launch} {e : Env} {R : Room} {s : State} {m : MethodId} {args : Array Value} {below : List Frame} {meth : Method} {c : Code} {H H0 : Heap} {locs : List Loc} {cells slots : Nat} {Q : State → Prop} {cc : ByteArray} {nL pc : Nat} {rt : Option FieldType} {ls : Array Slot} {rest : List Value} {D : xD} {ty : xTy} {h : xH}
theorem cl_X12_325 {v0 : Nat} {v1 : Int32} {h9 : xH} (C0 : xC D RX12 cc nL rt p s m args meth c) (hR : xRep D ty h H) (hS : xS ty H0 H locs) (hF : jf_X12_layFound ty h v0 v1 = some h9) (t_v0 : ty v0 = some (0, 12)) (hrm : jr_X12_layFound.frames + 1 ≤ R.frames ∧ 8 + (4 + 11) + jr_X12_layFound.locals ≤ R.locals) (hsz : ls.size = nL) (hW : (rest.map fun v => v.category).sum ≤ 8) (hf : cells ≤ R.cells ∧ slots ≤ R.slots) (hdg : decode cc pc = .ok (.invokevirtual 325, 3)) (kk : ∀ (H1 : Heap) (locs1 : List Loc), xRep D ty h9 H1 → xS ty H0 H1 locs1 → W p l e R s m args below meth c H1 locs1 cells slots Q (F0 m (pc + 3) ls rest)) : W p l e R s m args below meth c H locs cells slots Q (F0 m pc ls (.int v1 :: .ref v0 :: rest)) := x_callV C0 (jc_X12_layFound t_v0 hF) xm_X12_layFound xi_X12_layFound xe_X12_layFound wl_X12_325 ⟨rfl, rfl, hrm⟩ (ci := 12) rfl t_v0 hR hS (As := [.int v1]) rfl hsz rfl hW hdg hf kk
end XN_X12_found
set_option maxHeartbeats 4000000 in
set_option maxRecDepth 100000 in
theorem jc_X12_found {l : Launch} {D : xD} {ty : xTy} {h : xH} {v0 : Nat} {v1 : Int32} {v2 : Int32} {r : Int32} {h9 : xH} (t_v0 : ty v0 = some (0, 12)) (hF : jf_X12_found ty h v0 v1 v2 = some (r, h9)) : Met l yX12_found (xws yX12_found cX12_found 3 (some .int)) jr_X12_found (xPc D ty h [.ref v0, .int v1, .int v2]) (xQ D ty (some (.int r)) h9) 0 0 (xdom ty) := by
  refine x_met (by decide) ?_
  intro p e s m below meth c C0 hR
  generalize hargs : ([.ref v0, .int v1, .int v2] : List Value).toArray = args at C0 ⊢
  have hx := C0.1
  have hb := C0.2.1
  have hown := C0.2.2.2.2.2.1
  have hts := C0.2.2.2.2.2.2.1
  have hS : xS ty s.heap s.heap [] := xS.rf
  have hl := lv_entry ([.ref v0, .int v1, .int v2]) (n := 3) (Nat.le_of_ble_eq_true rfl)
  rw [← hargs, lg_entry_eq]
  rw [hargs]
  generalize (lg_sl ([.ref v0, .int v1, .int v2]) ++ List.replicate (3 - (lg_sl ([.ref v0, .int v1, .int v2])).length) Slot.unset).toArray = ls at hl ⊢
  have hl : lv_has ls 3 [(0, .ref v0), (1, .int v1), (2, .int v2)] := hl
  unfold jf_X12_found at hF
  refine lv_aload_n hx hb dX12_found_0 rfl (lv_at hl 0 rfl) ?_
  refine lv_iconst (v := 0) hx hb dX12_found_1 (by decide) ?_
  obtain ⟨h1, e_h1, hF⟩ := xbd hF
  refine pf_X12_101 C0 hR hS t_v0 dX12_found_2 (fun H locs hR hS => ?_)
  rw [Option.some.inj e_h1] at hR
  refine lv_iload_n hx hb dX12_found_5 rfl (lv_at hl 1 rfl) ?_
  refine lv_iconst (v := 0) hx hb dX12_found_6 (by decide) ?_
  refine lv_iconst (v := 2) hx hb dX12_found_7 (by decide) ?_
  obtain ⟨a2, e_a2, hF⟩ := xbd hF
  refine cl_X12_146 C0 hR hS e_a2  ⟨(Nat.le_of_ble_eq_true rfl), (Nat.le_of_ble_eq_true rfl)⟩ hl.1 (Nat.le_of_ble_eq_true rfl) ⟨(Nat.le_of_ble_eq_true rfl), (Nat.le_of_ble_eq_true rfl)⟩ dX12_found_8 (fun H locs hR hS => ?_)
  refine lv_if_eq (tgt := 25) hx hb dX12_found_11 (by decide) (fun c3 => ?_) (fun c3 => ?_)
  · have hF := xif hF c3
    refine lv_iconst (v := (-1)) hx hb dX12_found_25 (by decide) ?_
    cases hF
    exact x_iret C0 hR hS dX12_found_26
  · have hF := xel hF c3
    refine lv_iload_n hx hb dX12_found_14 rfl (lv_at hl 2 rfl) ?_
    refine lv_if_lt (tgt := 25) hx hb dX12_found_15 (by decide) (fun c4 => ?_) (fun c4 => ?_)
    · have hF := xif hF c4
      refine lv_iconst (v := (-1)) hx hb dX12_found_25 (by decide) ?_
      cases hF
      exact x_iret C0 hR hS dX12_found_26
    · have hF := xel hF c4
      refine lv_aload_n hx hb dX12_found_18 rfl (lv_at hl 0 rfl) ?_
      refine gf_X12_188 C0 hR t_v0 dX12_found_19 ?_
      refine lv_if_ne (tgt := 27) hx hb dX12_found_22 (by decide) (fun c5 => ?_) (fun c5 => ?_)
      · have hF := xel hF c5
        refine lv_aload_n hx hb dX12_found_27 rfl (lv_at hl 0 rfl) ?_
        refine lv_iload_n hx hb dX12_found_28 rfl (lv_at hl 1 rfl) ?_
        obtain ⟨h6, e_h6, hF⟩ := xbd hF
        refine cl_X12_325 C0 hR hS e_h6 t_v0 ⟨(Nat.le_of_ble_eq_true rfl), (Nat.le_of_ble_eq_true rfl)⟩ hl.1 (Nat.le_of_ble_eq_true rfl) ⟨(Nat.le_of_ble_eq_true rfl), (Nat.le_of_ble_eq_true rfl)⟩ dX12_found_29 (fun H locs hR hS => ?_)
        refine lv_iload_n hx hb dX12_found_32 rfl (lv_at hl 2 rfl) ?_
        refine lv_aload_n hx hb dX12_found_33 rfl (lv_at hl 0 rfl) ?_
        refine gf_X12_319 C0 hR t_v0 dX12_found_34 ?_
        refine lv_icmp_ge (tgt := 49) hx hb dX12_found_37 (by decide) (fun c7 => ?_) (fun c7 => ?_)
        · have hF := xif hF c7
          refine lv_bipush (v := (-2)) hx hb dX12_found_49 (by decide) ?_
          cases hF
          exact x_iret C0 hR hS dX12_found_51
        · have hF := xel hF c7
          refine lv_aload_n hx hb dX12_found_40 rfl (lv_at hl 0 rfl) ?_
          obtain ⟨a8, e_a8, hF⟩ := xbd hF
          refine gf_X12_74 C0 hR t_v0 e_a8 dX12_found_41 ?_
          refine lv_iload_n hx hb dX12_found_44 rfl (lv_at hl 2 rfl) ?_
          obtain ⟨a9, e_a9, hF⟩ := xbd hF
          refine x_iald C0 hR e_a9 dX12_found_45 ?_
          refine lv_goto (tgt := 51) hx hb dX12_found_46 (by decide) ?_
          cases hF
          exact x_iret C0 hR hS dX12_found_51
      · have hF := xif hF c5
        refine lv_iconst (v := (-1)) hx hb dX12_found_25 (by decide) ?_
        cases hF
        exact x_iret C0 hR hS dX12_found_26
theorem xm_X12_found : xMw yX12_found cX12_found 3 (some .int) 2 := ⟨xin 1661 (by decide +kernel) rfl, xin 126 (by decide +kernel) rfl, by decide +kernel⟩
theorem xi_X12_found : Cond.instanceMethod yX12_found ∈ xT := xin 1659 (by decide +kernel) rfl
theorem xe_X12_found : Cond.selects yX12_found.cls yX12_found yX12_found ∈ xT := xin 1660 (by decide +kernel) rfl
theorem dX12_finding_0 : decode cX12_finding 0 = .ok (.aload_n 0, 1) := by decide +kernel
theorem dX12_finding_1 : decode cX12_finding 1 = .ok (.iconst 0, 1) := by decide +kernel
theorem dX12_finding_2 : decode cX12_finding 2 = .ok (.putfield 101, 3) := by decide +kernel
theorem dX12_finding_5 : decode cX12_finding 5 = .ok (.iload_n 1, 1) := by decide +kernel
theorem dX12_finding_6 : decode cX12_finding 6 = .ok (.iconst 0, 1) := by decide +kernel
theorem dX12_finding_7 : decode cX12_finding 7 = .ok (.iconst 2, 1) := by decide +kernel
theorem dX12_finding_8 : decode cX12_finding 8 = .ok (.invokestatic 146, 3) := by decide +kernel
theorem dX12_finding_11 : decode cX12_finding 11 = .ok (.ifCond .eq 19, 3) := by decide +kernel
theorem dX12_finding_14 : decode cX12_finding 14 = .ok (.iload_n 2, 1) := by decide +kernel
theorem dX12_finding_15 : decode cX12_finding 15 = .ok (.iconst 0, 1) := by decide +kernel
theorem dX12_finding_16 : decode cX12_finding 16 = .ok (.iconst 2, 1) := by decide +kernel
theorem dX12_finding_17 : decode cX12_finding 17 = .ok (.invokestatic 146, 3) := by decide +kernel
theorem dX12_finding_20 : decode cX12_finding 20 = .ok (.ifCond .eq 10, 3) := by decide +kernel
theorem dX12_finding_23 : decode cX12_finding 23 = .ok (.aload_n 0, 1) := by decide +kernel
theorem dX12_finding_24 : decode cX12_finding 24 = .ok (.getfield 188, 3) := by decide +kernel
theorem dX12_finding_27 : decode cX12_finding 27 = .ok (.ifCond .ne 5, 3) := by decide +kernel
theorem dX12_finding_30 : decode cX12_finding 30 = .ok (.iconst (-1), 1) := by decide +kernel
theorem dX12_finding_31 : decode cX12_finding 31 = .ok (.ireturn, 1) := by decide +kernel
theorem dX12_finding_32 : decode cX12_finding 32 = .ok (.iload_n 2, 1) := by decide +kernel
theorem dX12_finding_33 : decode cX12_finding 33 = .ok (.ifCond .ne 13, 3) := by decide +kernel
theorem dX12_finding_36 : decode cX12_finding 36 = .ok (.aload_n 0, 1) := by decide +kernel
theorem dX12_finding_37 : decode cX12_finding 37 = .ok (.iload_n 1, 1) := by decide +kernel
theorem dX12_finding_38 : decode cX12_finding 38 = .ok (.invokevirtual 325, 3) := by decide +kernel
theorem dX12_finding_41 : decode cX12_finding 41 = .ok (.aload_n 0, 1) := by decide +kernel
theorem dX12_finding_42 : decode cX12_finding 42 = .ok (.getfield 319, 3) := by decide +kernel
theorem dX12_finding_45 : decode cX12_finding 45 = .ok (.ireturn, 1) := by decide +kernel
theorem dX12_finding_46 : decode cX12_finding 46 = .ok (.aload_n 0, 1) := by decide +kernel
theorem dX12_finding_47 : decode cX12_finding 47 = .ok (.iload_n 1, 1) := by decide +kernel
theorem dX12_finding_48 : decode cX12_finding 48 = .ok (.invokevirtual 328, 3) := by decide +kernel
theorem dX12_finding_51 : decode cX12_finding 51 = .ok (.iload_n 2, 1) := by decide +kernel
theorem dX12_finding_52 : decode cX12_finding 52 = .ok (.iconst 1, 1) := by decide +kernel
theorem dX12_finding_53 : decode cX12_finding 53 = .ok (.if_icmp .ne 10, 3) := by decide +kernel
theorem dX12_finding_56 : decode cX12_finding 56 = .ok (.aload_n 0, 1) := by decide +kernel
theorem dX12_finding_57 : decode cX12_finding 57 = .ok (.getfield 312, 3) := by decide +kernel
theorem dX12_finding_60 : decode cX12_finding 60 = .ok (.goto 7, 3) := by decide +kernel
theorem dX12_finding_63 : decode cX12_finding 63 = .ok (.aload_n 0, 1) := by decide +kernel
theorem dX12_finding_64 : decode cX12_finding 64 = .ok (.getfield 309, 3) := by decide +kernel
theorem dX12_finding_67 : decode cX12_finding 67 = .ok (.ireturn, 1) := by decide +kernel
theorem wl_X12_328 : Cond.methodLink RX12 328 yX12_finds ∈ xT := xin 1689 (by decide +kernel) rfl
section XN_X12_finding
variable {p : Program} {l : Launch} {e : Env} {R : Room} {s : State} {m : MethodId} {args : Array Value} {below : List Frame} {meth : Method} {c : Code} {H H0 : Heap} {locs : List Loc} {cells slots : Nat} {Q : State → Prop} {cc : ByteArray} {nL pc : Nat} {rt : Option FieldType} {ls : Array Slot} {rest : List Value} {D : xD} {ty : xTy} {h : xH}
theorem cl_X12_328 {v0 : Nat} {v1 : Int32} {h9 : xH} (C0 : xC D RX12 cc nL rt p s m args meth c) (hR : xRep D ty h H) (hS : xS ty H0 H locs) (hF : jf_X12_finds ty h v0 v1 = some h9) (t_v0 : ty v0 = some (0, 12)) (hrm : jr_X12_finds.frames + 1 ≤ R.frames ∧ 8 + (3 + 11) + jr_X12_finds.locals ≤ R.locals) (hsz : ls.size = nL) (hW : (rest.map fun v => v.category).sum ≤ 8) (hf : cells ≤ R.cells ∧ slots ≤ R.slots) (hdg : decode cc pc = .ok (.invokevirtual 328, 3)) (kk : ∀ (H1 : Heap) (locs1 : List Loc), xRep D ty h9 H1 → xS ty H0 H1 locs1 → W p l e R s m args below meth c H1 locs1 cells slots Q (F0 m (pc + 3) ls rest)) : W p l e R s m args below meth c H locs cells slots Q (F0 m pc ls (.int v1 :: .ref v0 :: rest)) := x_callV C0 (jc_X12_finds t_v0 hF) xm_X12_finds xi_X12_finds xe_X12_finds wl_X12_328 ⟨rfl, rfl, hrm⟩ (ci := 12) rfl t_v0 hR hS (As := [.int v1]) rfl hsz rfl hW hdg hf kk
end XN_X12_finding
set_option maxHeartbeats 4000000 in
set_option maxRecDepth 100000 in
theorem jc_X12_finding {l : Launch} {D : xD} {ty : xTy} {h : xH} {v0 : Nat} {v1 : Int32} {v2 : Int32} {r : Int32} {h9 : xH} (t_v0 : ty v0 = some (0, 12)) (hF : jf_X12_finding ty h v0 v1 v2 = some (r, h9)) : Met l yX12_finding (xws yX12_finding cX12_finding 3 (some .int)) jr_X12_finding (xPc D ty h [.ref v0, .int v1, .int v2]) (xQ D ty (some (.int r)) h9) 0 0 (xdom ty) := by
  refine x_met (by decide) ?_
  intro p e s m below meth c C0 hR
  generalize hargs : ([.ref v0, .int v1, .int v2] : List Value).toArray = args at C0 ⊢
  have hx := C0.1
  have hb := C0.2.1
  have hown := C0.2.2.2.2.2.1
  have hts := C0.2.2.2.2.2.2.1
  have hS : xS ty s.heap s.heap [] := xS.rf
  have hl := lv_entry ([.ref v0, .int v1, .int v2]) (n := 3) (Nat.le_of_ble_eq_true rfl)
  rw [← hargs, lg_entry_eq]
  rw [hargs]
  generalize (lg_sl ([.ref v0, .int v1, .int v2]) ++ List.replicate (3 - (lg_sl ([.ref v0, .int v1, .int v2])).length) Slot.unset).toArray = ls at hl ⊢
  have hl : lv_has ls 3 [(0, .ref v0), (1, .int v1), (2, .int v2)] := hl
  unfold jf_X12_finding at hF
  refine lv_aload_n hx hb dX12_finding_0 rfl (lv_at hl 0 rfl) ?_
  refine lv_iconst (v := 0) hx hb dX12_finding_1 (by decide) ?_
  obtain ⟨h1, e_h1, hF⟩ := xbd hF
  refine pf_X12_101 C0 hR hS t_v0 dX12_finding_2 (fun H locs hR hS => ?_)
  rw [Option.some.inj e_h1] at hR
  refine lv_iload_n hx hb dX12_finding_5 rfl (lv_at hl 1 rfl) ?_
  refine lv_iconst (v := 0) hx hb dX12_finding_6 (by decide) ?_
  refine lv_iconst (v := 2) hx hb dX12_finding_7 (by decide) ?_
  obtain ⟨a2, e_a2, hF⟩ := xbd hF
  refine cl_X12_146 C0 hR hS e_a2  ⟨(Nat.le_of_ble_eq_true rfl), (Nat.le_of_ble_eq_true rfl)⟩ hl.1 (Nat.le_of_ble_eq_true rfl) ⟨(Nat.le_of_ble_eq_true rfl), (Nat.le_of_ble_eq_true rfl)⟩ dX12_finding_8 (fun H locs hR hS => ?_)
  refine lv_if_eq (tgt := 30) hx hb dX12_finding_11 (by decide) (fun c3 => ?_) (fun c3 => ?_)
  · have hF := xif hF c3
    refine lv_iconst (v := (-1)) hx hb dX12_finding_30 (by decide) ?_
    cases hF
    exact x_iret C0 hR hS dX12_finding_31
  · have hF := xel hF c3
    refine lv_iload_n hx hb dX12_finding_14 rfl (lv_at hl 2 rfl) ?_
    refine lv_iconst (v := 0) hx hb dX12_finding_15 (by decide) ?_
    refine lv_iconst (v := 2) hx hb dX12_finding_16 (by decide) ?_
    obtain ⟨a4, e_a4, hF⟩ := xbd hF
    refine cl_X12_146 C0 hR hS e_a4  ⟨(Nat.le_of_ble_eq_true rfl), (Nat.le_of_ble_eq_true rfl)⟩ hl.1 (Nat.le_of_ble_eq_true rfl) ⟨(Nat.le_of_ble_eq_true rfl), (Nat.le_of_ble_eq_true rfl)⟩ dX12_finding_17 (fun H locs hR hS => ?_)
    refine lv_if_eq (tgt := 30) hx hb dX12_finding_20 (by decide) (fun c5 => ?_) (fun c5 => ?_)
    · have hF := xif hF c5
      refine lv_iconst (v := (-1)) hx hb dX12_finding_30 (by decide) ?_
      cases hF
      exact x_iret C0 hR hS dX12_finding_31
    · have hF := xel hF c5
      refine lv_aload_n hx hb dX12_finding_23 rfl (lv_at hl 0 rfl) ?_
      refine gf_X12_188 C0 hR t_v0 dX12_finding_24 ?_
      refine lv_if_ne (tgt := 32) hx hb dX12_finding_27 (by decide) (fun c6 => ?_) (fun c6 => ?_)
      · have hF := xel hF c6
        refine lv_iload_n hx hb dX12_finding_32 rfl (lv_at hl 2 rfl) ?_
        refine lv_if_ne (tgt := 46) hx hb dX12_finding_33 (by decide) (fun c7 => ?_) (fun c7 => ?_)
        · have hF := xel hF c7
          refine lv_aload_n hx hb dX12_finding_46 rfl (lv_at hl 0 rfl) ?_
          refine lv_iload_n hx hb dX12_finding_47 rfl (lv_at hl 1 rfl) ?_
          obtain ⟨h8, e_h8, hF⟩ := xbd hF
          refine cl_X12_328 C0 hR hS e_h8 t_v0 ⟨(Nat.le_of_ble_eq_true rfl), (Nat.le_of_ble_eq_true rfl)⟩ hl.1 (Nat.le_of_ble_eq_true rfl) ⟨(Nat.le_of_ble_eq_true rfl), (Nat.le_of_ble_eq_true rfl)⟩ dX12_finding_48 (fun H locs hR hS => ?_)
          refine lv_iload_n hx hb dX12_finding_51 rfl (lv_at hl 2 rfl) ?_
          refine lv_iconst (v := 1) hx hb dX12_finding_52 (by decide) ?_
          refine lv_icmp_ne (tgt := 63) hx hb dX12_finding_53 (by decide) (fun c9 => ?_) (fun c9 => ?_)
          · have hF := xel hF c9
            refine lv_aload_n hx hb dX12_finding_63 rfl (lv_at hl 0 rfl) ?_
            refine gf_X12_309 C0 hR t_v0 dX12_finding_64 ?_
            cases hF
            exact x_iret C0 hR hS dX12_finding_67
          · have hF := xif hF c9
            refine lv_aload_n hx hb dX12_finding_56 rfl (lv_at hl 0 rfl) ?_
            refine gf_X12_312 C0 hR t_v0 dX12_finding_57 ?_
            refine lv_goto (tgt := 67) hx hb dX12_finding_60 (by decide) ?_
            cases hF
            exact x_iret C0 hR hS dX12_finding_67
        · have hF := xif hF c7
          refine lv_aload_n hx hb dX12_finding_36 rfl (lv_at hl 0 rfl) ?_
          refine lv_iload_n hx hb dX12_finding_37 rfl (lv_at hl 1 rfl) ?_
          obtain ⟨h10, e_h10, hF⟩ := xbd hF
          refine cl_X12_325 C0 hR hS e_h10 t_v0 ⟨(Nat.le_of_ble_eq_true rfl), (Nat.le_of_ble_eq_true rfl)⟩ hl.1 (Nat.le_of_ble_eq_true rfl) ⟨(Nat.le_of_ble_eq_true rfl), (Nat.le_of_ble_eq_true rfl)⟩ dX12_finding_38 (fun H locs hR hS => ?_)
          refine lv_aload_n hx hb dX12_finding_41 rfl (lv_at hl 0 rfl) ?_
          refine gf_X12_319 C0 hR t_v0 dX12_finding_42 ?_
          cases hF
          exact x_iret C0 hR hS dX12_finding_45
      · have hF := xif hF c6
        refine lv_iconst (v := (-1)) hx hb dX12_finding_30 (by decide) ?_
        cases hF
        exact x_iret C0 hR hS dX12_finding_31
theorem xm_X12_finding : xMw yX12_finding cX12_finding 3 (some .int) 2 := ⟨xin 1688 (by decide +kernel) rfl, xin 126 (by decide +kernel) rfl, by decide +kernel⟩
theorem xi_X12_finding : Cond.instanceMethod yX12_finding ∈ xT := xin 1686 (by decide +kernel) rfl
theorem xe_X12_finding : Cond.selects yX12_finding.cls yX12_finding yX12_finding ∈ xT := xin 1687 (by decide +kernel) rfl
theorem dX12_isAbove_0 : decode cX12_isAbove 0 = .ok (.aload_n 0, 1) := by decide +kernel
theorem dX12_isAbove_1 : decode cX12_isAbove 1 = .ok (.invokevirtual 263, 3) := by decide +kernel
theorem dX12_isAbove_4 : decode cX12_isAbove 4 = .ok (.aload_n 0, 1) := by decide +kernel
theorem dX12_isAbove_5 : decode cX12_isAbove 5 = .ok (.iload_n 2, 1) := by decide +kernel
theorem dX12_isAbove_6 : decode cX12_isAbove 6 = .ok (.bipush 8, 2) := by decide +kernel
theorem dX12_isAbove_8 : decode cX12_isAbove 8 = .ok (.invokevirtual 270, 3) := by decide +kernel
theorem dX12_isAbove_11 : decode cX12_isAbove 11 = .ok (.istore_n 3, 1) := by decide +kernel
theorem dX12_isAbove_12 : decode cX12_isAbove 12 = .ok (.aload_n 0, 1) := by decide +kernel
theorem dX12_isAbove_13 : decode cX12_isAbove 13 = .ok (.aload_n 0, 1) := by decide +kernel
theorem dX12_isAbove_14 : decode cX12_isAbove 14 = .ok (.iload_n 1, 1) := by decide +kernel
theorem dX12_isAbove_15 : decode cX12_isAbove 15 = .ok (.iconst 4, 1) := by decide +kernel
theorem dX12_isAbove_16 : decode cX12_isAbove 16 = .ok (.invokevirtual 270, 3) := by decide +kernel
theorem dX12_isAbove_19 : decode cX12_isAbove 19 = .ok (.iload_n 3, 1) := by decide +kernel
theorem dX12_isAbove_20 : decode cX12_isAbove 20 = .ok (.invokevirtual 273, 3) := by decide +kernel
theorem dX12_isAbove_23 : decode cX12_isAbove 23 = .ok (.ireturn, 1) := by decide +kernel
set_option maxHeartbeats 4000000 in
set_option maxRecDepth 100000 in
theorem jc_X12_isAbove {l : Launch} {D : xD} {ty : xTy} {h : xH} {v0 : Nat} {v1 : Int32} {v2 : Int32} {r : Int32} {h9 : xH} (t_v0 : ty v0 = some (0, 12)) (hF : jf_X12_isAbove ty h v0 v1 v2 = some (r, h9)) : Met l yX12_isAbove (xws yX12_isAbove cX12_isAbove 4 (some .boolean)) jr_X12_isAbove (xPc D ty h [.ref v0, .int v1, .int v2]) (xQ D ty (some (.int r)) h9) 0 0 (xdom ty) := by
  refine x_met (by decide) ?_
  intro p e s m below meth c C0 hR
  generalize hargs : ([.ref v0, .int v1, .int v2] : List Value).toArray = args at C0 ⊢
  have hx := C0.1
  have hb := C0.2.1
  have hown := C0.2.2.2.2.2.1
  have hts := C0.2.2.2.2.2.2.1
  have hS : xS ty s.heap s.heap [] := xS.rf
  have hl := lv_entry ([.ref v0, .int v1, .int v2]) (n := 4) (Nat.le_of_ble_eq_true rfl)
  rw [← hargs, lg_entry_eq]
  rw [hargs]
  generalize (lg_sl ([.ref v0, .int v1, .int v2]) ++ List.replicate (4 - (lg_sl ([.ref v0, .int v1, .int v2])).length) Slot.unset).toArray = ls at hl ⊢
  have hl : lv_has ls 4 [(0, .ref v0), (1, .int v1), (2, .int v2)] := hl
  unfold jf_X12_isAbove at hF
  refine lv_aload_n hx hb dX12_isAbove_0 rfl (lv_at hl 0 rfl) ?_
  obtain ⟨h1, e_h1, hF⟩ := xbd hF
  refine cl_X12_263 C0 hR hS e_h1 t_v0 ⟨(Nat.le_of_ble_eq_true rfl), (Nat.le_of_ble_eq_true rfl)⟩ hl.1 (Nat.le_of_ble_eq_true rfl) ⟨(Nat.le_of_ble_eq_true rfl), (Nat.le_of_ble_eq_true rfl)⟩ dX12_isAbove_1 (fun H locs hR hS => ?_)
  refine lv_aload_n hx hb dX12_isAbove_4 rfl (lv_at hl 0 rfl) ?_
  refine lv_iload_n hx hb dX12_isAbove_5 rfl (lv_at hl 2 rfl) ?_
  refine lv_bipush (v := 8) hx hb dX12_isAbove_6 (by decide) ?_
  obtain ⟨a3, h2, e_h2, hF⟩ := xbd2 hF
  refine cl_X12_270 C0 hR hS e_h2 t_v0 ⟨(Nat.le_of_ble_eq_true rfl), (Nat.le_of_ble_eq_true rfl)⟩ hl.1 (Nat.le_of_ble_eq_true rfl) ⟨(Nat.le_of_ble_eq_true rfl), (Nat.le_of_ble_eq_true rfl)⟩ dX12_isAbove_8 (fun H locs hR hS => ?_)
  refine lv_istore_n (lv' := [(3, .int a3), (0, .ref v0), (1, .int v1), (2, .int v2)]) hx hb dX12_isAbove_11 rfl hl (by decide) rfl (fun ls hl => ?_)
  refine lv_aload_n hx hb dX12_isAbove_12 rfl (lv_at hl 1 rfl) ?_
  refine lv_aload_n hx hb dX12_isAbove_13 rfl (lv_at hl 1 rfl) ?_
  refine lv_iload_n hx hb dX12_isAbove_14 rfl (lv_at hl 2 rfl) ?_
  refine lv_iconst (v := 4) hx hb dX12_isAbove_15 (by decide) ?_
  obtain ⟨a5, h4, e_h4, hF⟩ := xbd2 hF
  refine cl_X12_270 C0 hR hS e_h4 t_v0 ⟨(Nat.le_of_ble_eq_true rfl), (Nat.le_of_ble_eq_true rfl)⟩ hl.1 (Nat.le_of_ble_eq_true rfl) ⟨(Nat.le_of_ble_eq_true rfl), (Nat.le_of_ble_eq_true rfl)⟩ dX12_isAbove_16 (fun H locs hR hS => ?_)
  refine lv_iload_n hx hb dX12_isAbove_19 rfl (lv_at hl 0 rfl) ?_
  obtain ⟨a7, h6, e_h6, hF⟩ := xbd2 hF
  refine cl_X12_273 C0 hR hS e_h6 t_v0 ⟨(Nat.le_of_ble_eq_true rfl), (Nat.le_of_ble_eq_true rfl)⟩ hl.1 (Nat.le_of_ble_eq_true rfl) ⟨(Nat.le_of_ble_eq_true rfl), (Nat.le_of_ble_eq_true rfl)⟩ dX12_isAbove_20 (fun H locs hR hS => ?_)
  obtain ⟨w8, e_w8, hF⟩ := xbd hF
  cases hF
  exact x_zret C0 hR hS e_w8 dX12_isAbove_23
theorem xm_X12_isAbove : xMw yX12_isAbove cX12_isAbove 4 (some .boolean) 2 := ⟨xin 1712 (by decide +kernel) rfl, xin 126 (by decide +kernel) rfl, by decide +kernel⟩
theorem xi_X12_isAbove : Cond.instanceMethod yX12_isAbove ∈ xT := xin 1711 (by decide +kernel) rfl
theorem xe_X12_isAbove : Cond.selects yX12_isAbove.cls yX12_isAbove yX12_isAbove ∈ xT := xin 94 (by decide +kernel) rfl
theorem dX12_aboveBits_0 : decode cX12_aboveBits 0 = .ok (.iconst 0, 1) := by decide +kernel
theorem dX12_aboveBits_1 : decode cX12_aboveBits 1 = .ok (.istore_n 2, 1) := by decide +kernel
theorem dX12_aboveBits_2 : decode cX12_aboveBits 2 = .ok (.iconst 0, 1) := by decide +kernel
theorem dX12_aboveBits_3 : decode cX12_aboveBits 3 = .ok (.istore_n 3, 1) := by decide +kernel
theorem dX12_aboveBits_4 : decode cX12_aboveBits 4 = .ok (.iload_n 3, 1) := by decide +kernel
theorem dX12_aboveBits_5 : decode cX12_aboveBits 5 = .ok (.aload_n 0, 1) := by decide +kernel
theorem dX12_aboveBits_6 : decode cX12_aboveBits 6 = .ok (.getfield 178, 3) := by decide +kernel
theorem dX12_aboveBits_9 : decode cX12_aboveBits 9 = .ok (.if_icmp .ge 33, 3) := by decide +kernel
theorem dX12_aboveBits_12 : decode cX12_aboveBits 12 = .ok (.iload_n 2, 1) := by decide +kernel
theorem dX12_aboveBits_13 : decode cX12_aboveBits 13 = .ok (.iload_n 3, 1) := by decide +kernel
theorem dX12_aboveBits_14 : decode cX12_aboveBits 14 = .ok (.iload_n 1, 1) := by decide +kernel
theorem dX12_aboveBits_15 : decode cX12_aboveBits 15 = .ok (.if_icmp .eq 18, 3) := by decide +kernel
theorem dX12_aboveBits_18 : decode cX12_aboveBits 18 = .ok (.aload_n 0, 1) := by decide +kernel
theorem dX12_aboveBits_19 : decode cX12_aboveBits 19 = .ok (.iload_n 1, 1) := by decide +kernel
theorem dX12_aboveBits_20 : decode cX12_aboveBits 20 = .ok (.iload_n 3, 1) := by decide +kernel
theorem dX12_aboveBits_21 : decode cX12_aboveBits 21 = .ok (.invokevirtual 337, 3) := by decide +kernel
theorem dX12_aboveBits_24 : decode cX12_aboveBits 24 = .ok (.ifCond .eq 9, 3) := by decide +kernel
theorem dX12_aboveBits_27 : decode cX12_aboveBits 27 = .ok (.iconst 1, 1) := by decide +kernel
theorem dX12_aboveBits_28 : decode cX12_aboveBits 28 = .ok (.iload_n 3, 1) := by decide +kernel
theorem dX12_aboveBits_29 : decode cX12_aboveBits 29 = .ok (.ishl, 1) := by decide +kernel
theorem dX12_aboveBits_30 : decode cX12_aboveBits 30 = .ok (.goto 4, 3) := by decide +kernel
theorem dX12_aboveBits_33 : decode cX12_aboveBits 33 = .ok (.iconst 0, 1) := by decide +kernel
theorem dX12_aboveBits_34 : decode cX12_aboveBits 34 = .ok (.ior, 1) := by decide +kernel
theorem dX12_aboveBits_35 : decode cX12_aboveBits 35 = .ok (.istore_n 2, 1) := by decide +kernel
theorem dX12_aboveBits_36 : decode cX12_aboveBits 36 = .ok (.iinc 3 1, 3) := by decide +kernel
theorem dX12_aboveBits_39 : decode cX12_aboveBits 39 = .ok (.goto (-35), 3) := by decide +kernel
theorem dX12_aboveBits_42 : decode cX12_aboveBits 42 = .ok (.iload_n 2, 1) := by decide +kernel
theorem dX12_aboveBits_43 : decode cX12_aboveBits 43 = .ok (.ireturn, 1) := by decide +kernel
theorem wl_X12_337 : Cond.methodLink RX12 337 yX12_isAbove ∈ xT := xin 1709 (by decide +kernel) rfl
section XN_X12_aboveBits
variable {p : Program} {l : Launch} {e : Env} {R : Room} {s : State} {m : MethodId} {args : Array Value} {below : List Frame} {meth : Method} {c : Code} {H H0 : Heap} {locs : List Loc} {cells slots : Nat} {Q : State → Prop} {cc : ByteArray} {nL pc : Nat} {rt : Option FieldType} {ls : Array Slot} {rest : List Value} {D : xD} {ty : xTy} {h : xH}
theorem cl_X12_337 {v0 : Nat} {v1 : Int32} {v2 : Int32} {r : Int32} {h9 : xH} (C0 : xC D RX12 cc nL rt p s m args meth c) (hR : xRep D ty h H) (hS : xS ty H0 H locs) (hF : jf_X12_isAbove ty h v0 v1 v2 = some (r, h9)) (t_v0 : ty v0 = some (0, 12)) (hrm : jr_X12_isAbove.frames + 1 ≤ R.frames ∧ 8 + (4 + 11) + jr_X12_isAbove.locals ≤ R.locals) (hsz : ls.size = nL) (hW : (rest.map fun v => v.category).sum ≤ 8) (hf : cells ≤ R.cells ∧ slots ≤ R.slots) (hdg : decode cc pc = .ok (.invokevirtual 337, 3)) (kk : ∀ (H1 : Heap) (locs1 : List Loc), xRep D ty h9 H1 → xS ty H0 H1 locs1 → W p l e R s m args below meth c H1 locs1 cells slots Q (F0 m (pc + 3) ls (.int r :: rest))) : W p l e R s m args below meth c H locs cells slots Q (F0 m pc ls (.int v2 :: .int v1 :: .ref v0 :: rest)) := x_callV C0 (jc_X12_isAbove t_v0 hF) xm_X12_isAbove xi_X12_isAbove xe_X12_isAbove wl_X12_337 ⟨rfl, rfl, hrm⟩ (ci := 12) rfl t_v0 hR hS (As := [.int v1, .int v2]) rfl hsz rfl hW hdg hf kk
end XN_X12_aboveBits
set_option maxHeartbeats 4000000 in
set_option maxRecDepth 100000 in
theorem jw_X12_aboveBits_4 {p : Program} {l : Launch} {e : Env} {s : State} {m : MethodId} {args : Array Value} {below : List Frame} {meth : Method} {c : Code} {D : xD} {ty : xTy} (C0 : xC D RX12 cX12_aboveBits 4 (some .int) p s m args meth c) {r : Int32} {h9 : xH} : ∀ n : Nat, ∀ (v0 : Nat) (v1 : Int32) (v2 : Int32) (v3 : Int32) (h : xH), ty v0 = some (0, 12) → jf_X12_aboveBits_4 ty n v0 v1 v2 v3 h = some (r, h9) → ∀ (H : Heap) (locs : List Loc), xRep D ty h H → xS ty s.heap H locs → ∀ ls : Array Slot, lv_has ls 4 [(0, .ref v0), (1, .int v1), (2, .int v2), (3, .int v3)] → W p l e jr_X12_aboveBits s m args below meth c H locs 0 0 (MQ below (xQ D ty (some (.int r)) h9) args s 0 0 (xdom ty)) (F0 m 4 ls []) := by
  have hx := C0.1
  have hb := C0.2.1
  have hown := C0.2.2.2.2.2.1
  have hts := C0.2.2.2.2.2.2.1
  intro n
  induction n with
  | zero =>
    intro v0 v1 v2 v3 h t_v0 hF H locs hR hS ls hl
    cases hF
  | succ n ih =>
    intro v0 v1 v2 v3 h t_v0 hF H locs hR hS ls hl
    rw [jf_X12_aboveBits_4_s] at hF
    refine lv_iload_n hx hb dX12_aboveBits_4 rfl (lv_at hl 3 rfl) ?_
    refine lv_aload_n hx hb dX12_aboveBits_5 rfl (lv_at hl 0 rfl) ?_
    refine gf_X12_178 C0 hR t_v0 dX12_aboveBits_6 ?_
    refine lv_icmp_ge (tgt := 42) hx hb dX12_aboveBits_9 (by decide) (fun c1 => ?_) (fun c1 => ?_)
    · have hF := xif hF c1
      refine lv_iload_n hx hb dX12_aboveBits_42 rfl (lv_at hl 2 rfl) ?_
      cases hF
      exact x_iret C0 hR hS dX12_aboveBits_43
    · have hF := xel hF c1
      refine lv_iload_n hx hb dX12_aboveBits_12 rfl (lv_at hl 2 rfl) ?_
      refine lv_iload_n hx hb dX12_aboveBits_13 rfl (lv_at hl 3 rfl) ?_
      refine lv_iload_n hx hb dX12_aboveBits_14 rfl (lv_at hl 1 rfl) ?_
      refine lv_icmp_eq (tgt := 33) hx hb dX12_aboveBits_15 (by decide) (fun c2 => ?_) (fun c2 => ?_)
      · have hF := xif hF c2
        refine lv_iconst (v := 0) hx hb dX12_aboveBits_33 (by decide) ?_
        refine lv_ior hx hb dX12_aboveBits_34 ?_
        refine lv_istore_n (lv' := [(2, .int (v2 ||| 0)), (0, .ref v0), (1, .int v1), (3, .int v3)]) hx hb dX12_aboveBits_35 rfl hl (by decide) rfl (fun ls hl => ?_)
        refine lv_iinc (v := v3 + 1) (lv' := [(3, .int (v3 + 1)), (2, .int (v2 ||| 0)), (0, .ref v0), (1, .int v1)]) hx hb dX12_aboveBits_36 hl (k := 3) rfl rfl (by decide) rfl (fun ls hl => ?_)
        refine lv_goto (tgt := 4) hx hb dX12_aboveBits_39 (by decide) ?_
        exact ih _ _ _ _ _ t_v0 hF _ _ hR hS _ (lv_sub hl [2, 3, 1, 0] rfl)
      · have hF := xel hF c2
        refine lv_aload_n hx hb dX12_aboveBits_18 rfl (lv_at hl 0 rfl) ?_
        refine lv_iload_n hx hb dX12_aboveBits_19 rfl (lv_at hl 1 rfl) ?_
        refine lv_iload_n hx hb dX12_aboveBits_20 rfl (lv_at hl 3 rfl) ?_
        obtain ⟨a4, h3, e_h3, hF⟩ := xbd2 hF
        refine cl_X12_337 C0 hR hS e_h3 t_v0 ⟨(Nat.le_of_ble_eq_true rfl), (Nat.le_of_ble_eq_true rfl)⟩ hl.1 (Nat.le_of_ble_eq_true rfl) ⟨(Nat.le_of_ble_eq_true rfl), (Nat.le_of_ble_eq_true rfl)⟩ dX12_aboveBits_21 (fun H locs hR hS => ?_)
        refine lv_if_eq (tgt := 33) hx hb dX12_aboveBits_24 (by decide) (fun c5 => ?_) (fun c5 => ?_)
        · have hF := xif hF c5
          refine lv_iconst (v := 0) hx hb dX12_aboveBits_33 (by decide) ?_
          refine lv_ior hx hb dX12_aboveBits_34 ?_
          refine lv_istore_n (lv' := [(2, .int (v2 ||| 0)), (0, .ref v0), (1, .int v1), (3, .int v3)]) hx hb dX12_aboveBits_35 rfl hl (by decide) rfl (fun ls hl => ?_)
          refine lv_iinc (v := v3 + 1) (lv' := [(3, .int (v3 + 1)), (2, .int (v2 ||| 0)), (0, .ref v0), (1, .int v1)]) hx hb dX12_aboveBits_36 hl (k := 3) rfl rfl (by decide) rfl (fun ls hl => ?_)
          refine lv_goto (tgt := 4) hx hb dX12_aboveBits_39 (by decide) ?_
          exact ih _ _ _ _ _ t_v0 hF _ _ hR hS _ (lv_sub hl [2, 3, 1, 0] rfl)
        · have hF := xel hF c5
          refine lv_iconst (v := 1) hx hb dX12_aboveBits_27 (by decide) ?_
          refine lv_iload_n hx hb dX12_aboveBits_28 rfl (lv_at hl 3 rfl) ?_
          refine lv_ishl hx hb dX12_aboveBits_29 ?_
          refine lv_goto (tgt := 34) hx hb dX12_aboveBits_30 (by decide) ?_
          refine lv_ior hx hb dX12_aboveBits_34 ?_
          refine lv_istore_n (lv' := [(2, .int (v2 ||| (1 <<< (v3 &&& 31)))), (0, .ref v0), (1, .int v1), (3, .int v3)]) hx hb dX12_aboveBits_35 rfl hl (by decide) rfl (fun ls hl => ?_)
          refine lv_iinc (v := v3 + 1) (lv' := [(3, .int (v3 + 1)), (2, .int (v2 ||| (1 <<< (v3 &&& 31)))), (0, .ref v0), (1, .int v1)]) hx hb dX12_aboveBits_36 hl (k := 3) rfl rfl (by decide) rfl (fun ls hl => ?_)
          refine lv_goto (tgt := 4) hx hb dX12_aboveBits_39 (by decide) ?_
          exact ih _ _ _ _ _ t_v0 hF _ _ hR hS _ (lv_sub hl [2, 3, 1, 0] rfl)
set_option maxHeartbeats 4000000 in
set_option maxRecDepth 100000 in
theorem jc_X12_aboveBits {l : Launch} {D : xD} {ty : xTy} {h : xH} {v0 : Nat} {v1 : Int32} {r : Int32} {h9 : xH} (t_v0 : ty v0 = some (0, 12)) (hF : jf_X12_aboveBits ty h v0 v1 = some (r, h9)) : Met l yX12_aboveBits (xws yX12_aboveBits cX12_aboveBits 4 (some .int)) jr_X12_aboveBits (xPc D ty h [.ref v0, .int v1]) (xQ D ty (some (.int r)) h9) 0 0 (xdom ty) := by
  refine x_met (by decide) ?_
  intro p e s m below meth c C0 hR
  generalize hargs : ([.ref v0, .int v1] : List Value).toArray = args at C0 ⊢
  have hx := C0.1
  have hb := C0.2.1
  have hown := C0.2.2.2.2.2.1
  have hts := C0.2.2.2.2.2.2.1
  have hS : xS ty s.heap s.heap [] := xS.rf
  have hl := lv_entry ([.ref v0, .int v1]) (n := 4) (Nat.le_of_ble_eq_true rfl)
  rw [← hargs, lg_entry_eq]
  rw [hargs]
  generalize (lg_sl ([.ref v0, .int v1]) ++ List.replicate (4 - (lg_sl ([.ref v0, .int v1])).length) Slot.unset).toArray = ls at hl ⊢
  have hl : lv_has ls 4 [(0, .ref v0), (1, .int v1)] := hl
  unfold jf_X12_aboveBits at hF
  refine lv_iconst (v := 0) hx hb dX12_aboveBits_0 (by decide) ?_
  refine lv_istore_n (lv' := [(2, .int 0), (0, .ref v0), (1, .int v1)]) hx hb dX12_aboveBits_1 rfl hl (by decide) rfl (fun ls hl => ?_)
  refine lv_iconst (v := 0) hx hb dX12_aboveBits_2 (by decide) ?_
  refine lv_istore_n (lv' := [(3, .int 0), (2, .int 0), (0, .ref v0), (1, .int v1)]) hx hb dX12_aboveBits_3 rfl hl (by decide) rfl (fun ls hl => ?_)
  obtain ⟨_, hF⟩ := xlim_sp hF
  exact jw_X12_aboveBits_4 C0 _ _ _ _ _ _ t_v0 hF _ _ hR hS _ (lv_sub hl [2, 3, 1, 0] rfl)
theorem xm_X12_aboveBits : xMw yX12_aboveBits cX12_aboveBits 4 (some .int) 1 := ⟨xin 1708 (by decide +kernel) rfl, xin 126 (by decide +kernel) rfl, by decide +kernel⟩
theorem xi_X12_aboveBits : Cond.instanceMethod yX12_aboveBits ∈ xT := xin 1707 (by decide +kernel) rfl
theorem xe_X12_aboveBits : Cond.selects yX12_aboveBits.cls yX12_aboveBits yX12_aboveBits ∈ xT := xin 93 (by decide +kernel) rfl
theorem dX12_specific_0 : decode cX12_specific 0 = .ok (.aload_n 0, 1) := by decide +kernel
theorem dX12_specific_1 : decode cX12_specific 1 = .ok (.iconst 0, 1) := by decide +kernel
theorem dX12_specific_2 : decode cX12_specific 2 = .ok (.putfield 101, 3) := by decide +kernel
theorem dX12_specific_5 : decode cX12_specific 5 = .ok (.iload_n 1, 1) := by decide +kernel
theorem dX12_specific_6 : decode cX12_specific 6 = .ok (.iconst 0, 1) := by decide +kernel
theorem dX12_specific_7 : decode cX12_specific 7 = .ok (.iconst 2, 1) := by decide +kernel
theorem dX12_specific_8 : decode cX12_specific 8 = .ok (.invokestatic 146, 3) := by decide +kernel
theorem dX12_specific_11 : decode cX12_specific 11 = .ok (.ifCond .eq 10, 3) := by decide +kernel
theorem dX12_specific_14 : decode cX12_specific 14 = .ok (.aload_n 0, 1) := by decide +kernel
theorem dX12_specific_15 : decode cX12_specific 15 = .ok (.getfield 188, 3) := by decide +kernel
theorem dX12_specific_18 : decode cX12_specific 18 = .ok (.ifCond .ne 5, 3) := by decide +kernel
theorem dX12_specific_21 : decode cX12_specific 21 = .ok (.iconst (-1), 1) := by decide +kernel
theorem dX12_specific_22 : decode cX12_specific 22 = .ok (.ireturn, 1) := by decide +kernel
theorem dX12_specific_23 : decode cX12_specific 23 = .ok (.iconst 0, 1) := by decide +kernel
theorem dX12_specific_24 : decode cX12_specific 24 = .ok (.istore_n 2, 1) := by decide +kernel
theorem dX12_specific_25 : decode cX12_specific 25 = .ok (.iconst 0, 1) := by decide +kernel
theorem dX12_specific_26 : decode cX12_specific 26 = .ok (.istore_n 3, 1) := by decide +kernel
theorem dX12_specific_27 : decode cX12_specific 27 = .ok (.iload_n 3, 1) := by decide +kernel
theorem dX12_specific_28 : decode cX12_specific 28 = .ok (.aload_n 0, 1) := by decide +kernel
theorem dX12_specific_29 : decode cX12_specific 29 = .ok (.getfield 178, 3) := by decide +kernel
theorem dX12_specific_32 : decode cX12_specific 32 = .ok (.if_icmp .ge 36, 3) := by decide +kernel
theorem dX12_specific_35 : decode cX12_specific 35 = .ok (.iload_n 2, 1) := by decide +kernel
theorem dX12_specific_36 : decode cX12_specific 36 = .ok (.aload_n 0, 1) := by decide +kernel
theorem dX12_specific_37 : decode cX12_specific 37 = .ok (.iload_n 3, 1) := by decide +kernel
theorem dX12_specific_38 : decode cX12_specific 38 = .ok (.invokevirtual 285, 3) := by decide +kernel
theorem dX12_specific_41 : decode cX12_specific 41 = .ok (.ifCond .eq 18, 3) := by decide +kernel
theorem dX12_specific_44 : decode cX12_specific 44 = .ok (.aload_n 0, 1) := by decide +kernel
theorem dX12_specific_45 : decode cX12_specific 45 = .ok (.iload_n 1, 1) := by decide +kernel
theorem dX12_specific_46 : decode cX12_specific 46 = .ok (.iload_n 3, 1) := by decide +kernel
theorem dX12_specific_47 : decode cX12_specific 47 = .ok (.invokevirtual 288, 3) := by decide +kernel
theorem dX12_specific_50 : decode cX12_specific 50 = .ok (.ifCond .eq 9, 3) := by decide +kernel
theorem dX12_specific_53 : decode cX12_specific 53 = .ok (.iconst 1, 1) := by decide +kernel
theorem dX12_specific_54 : decode cX12_specific 54 = .ok (.iload_n 3, 1) := by decide +kernel
theorem dX12_specific_55 : decode cX12_specific 55 = .ok (.ishl, 1) := by decide +kernel
theorem dX12_specific_56 : decode cX12_specific 56 = .ok (.goto 4, 3) := by decide +kernel
theorem dX12_specific_59 : decode cX12_specific 59 = .ok (.iconst 0, 1) := by decide +kernel
theorem dX12_specific_60 : decode cX12_specific 60 = .ok (.ior, 1) := by decide +kernel
theorem dX12_specific_61 : decode cX12_specific 61 = .ok (.istore_n 2, 1) := by decide +kernel
theorem dX12_specific_62 : decode cX12_specific 62 = .ok (.iinc 3 1, 3) := by decide +kernel
theorem dX12_specific_65 : decode cX12_specific 65 = .ok (.goto (-38), 3) := by decide +kernel
theorem dX12_specific_68 : decode cX12_specific 68 = .ok (.bipush (-2), 2) := by decide +kernel
theorem dX12_specific_70 : decode cX12_specific 70 = .ok (.istore_n 3, 1) := by decide +kernel
theorem dX12_specific_71 : decode cX12_specific 71 = .ok (.aload_n 0, 1) := by decide +kernel
theorem dX12_specific_72 : decode cX12_specific 72 = .ok (.getfield 178, 3) := by decide +kernel
theorem dX12_specific_75 : decode cX12_specific 75 = .ok (.iconst 1, 1) := by decide +kernel
theorem dX12_specific_76 : decode cX12_specific 76 = .ok (.isub, 1) := by decide +kernel
theorem dX12_specific_77 : decode cX12_specific 77 = .ok (.istore 4, 2) := by decide +kernel
theorem dX12_specific_79 : decode cX12_specific 79 = .ok (.iload 4, 2) := by decide +kernel
theorem dX12_specific_81 : decode cX12_specific 81 = .ok (.ifCond .lt 25, 3) := by decide +kernel
theorem dX12_specific_84 : decode cX12_specific 84 = .ok (.iload_n 2, 1) := by decide +kernel
theorem dX12_specific_85 : decode cX12_specific 85 = .ok (.iload 4, 2) := by decide +kernel
theorem dX12_specific_87 : decode cX12_specific 87 = .ok (.invokestatic 279, 3) := by decide +kernel
theorem dX12_specific_90 : decode cX12_specific 90 = .ok (.ifCond .eq 8, 3) := by decide +kernel
theorem dX12_specific_93 : decode cX12_specific 93 = .ok (.iload 4, 2) := by decide +kernel
theorem dX12_specific_95 : decode cX12_specific 95 = .ok (.goto 4, 3) := by decide +kernel
theorem dX12_specific_98 : decode cX12_specific 98 = .ok (.iload_n 3, 1) := by decide +kernel
theorem dX12_specific_99 : decode cX12_specific 99 = .ok (.istore_n 3, 1) := by decide +kernel
theorem dX12_specific_100 : decode cX12_specific 100 = .ok (.iinc 4 (-1), 3) := by decide +kernel
theorem dX12_specific_103 : decode cX12_specific 103 = .ok (.goto (-24), 3) := by decide +kernel
theorem dX12_specific_106 : decode cX12_specific 106 = .ok (.iconst 0, 1) := by decide +kernel
theorem dX12_specific_107 : decode cX12_specific 107 = .ok (.istore 4, 2) := by decide +kernel
theorem dX12_specific_109 : decode cX12_specific 109 = .ok (.iload 4, 2) := by decide +kernel
theorem dX12_specific_111 : decode cX12_specific 111 = .ok (.aload_n 0, 1) := by decide +kernel
theorem dX12_specific_112 : decode cX12_specific 112 = .ok (.getfield 178, 3) := by decide +kernel
theorem dX12_specific_115 : decode cX12_specific 115 = .ok (.if_icmp .ge 32, 3) := by decide +kernel
theorem dX12_specific_118 : decode cX12_specific 118 = .ok (.iload_n 2, 1) := by decide +kernel
theorem dX12_specific_119 : decode cX12_specific 119 = .ok (.iload 4, 2) := by decide +kernel
theorem dX12_specific_121 : decode cX12_specific 121 = .ok (.invokestatic 279, 3) := by decide +kernel
theorem dX12_specific_124 : decode cX12_specific 124 = .ok (.ifCond .eq 17, 3) := by decide +kernel
theorem dX12_specific_127 : decode cX12_specific 127 = .ok (.aload_n 0, 1) := by decide +kernel
theorem dX12_specific_128 : decode cX12_specific 128 = .ok (.iload 4, 2) := by decide +kernel
theorem dX12_specific_130 : decode cX12_specific 130 = .ok (.invokevirtual 331, 3) := by decide +kernel
theorem dX12_specific_133 : decode cX12_specific 133 = .ok (.iload_n 2, 1) := by decide +kernel
theorem dX12_specific_134 : decode cX12_specific 134 = .ok (.iand, 1) := by decide +kernel
theorem dX12_specific_135 : decode cX12_specific 135 = .ok (.ifCond .ne 6, 3) := by decide +kernel
theorem dX12_specific_138 : decode cX12_specific 138 = .ok (.iload 4, 2) := by decide +kernel
theorem dX12_specific_140 : decode cX12_specific 140 = .ok (.ireturn, 1) := by decide +kernel
theorem dX12_specific_141 : decode cX12_specific 141 = .ok (.iinc 4 1, 3) := by decide +kernel
theorem dX12_specific_144 : decode cX12_specific 144 = .ok (.goto (-35), 3) := by decide +kernel
theorem dX12_specific_147 : decode cX12_specific 147 = .ok (.iload_n 3, 1) := by decide +kernel
theorem dX12_specific_148 : decode cX12_specific 148 = .ok (.ireturn, 1) := by decide +kernel
theorem wl_X12_331 : Cond.methodLink RX12 331 yX12_aboveBits ∈ xT := xin 1705 (by decide +kernel) rfl
section XN_X12_specific
variable {p : Program} {l : Launch} {e : Env} {R : Room} {s : State} {m : MethodId} {args : Array Value} {below : List Frame} {meth : Method} {c : Code} {H H0 : Heap} {locs : List Loc} {cells slots : Nat} {Q : State → Prop} {cc : ByteArray} {nL pc : Nat} {rt : Option FieldType} {ls : Array Slot} {rest : List Value} {D : xD} {ty : xTy} {h : xH}
theorem cl_X12_331 {v0 : Nat} {v1 : Int32} {r : Int32} {h9 : xH} (C0 : xC D RX12 cc nL rt p s m args meth c) (hR : xRep D ty h H) (hS : xS ty H0 H locs) (hF : jf_X12_aboveBits ty h v0 v1 = some (r, h9)) (t_v0 : ty v0 = some (0, 12)) (hrm : jr_X12_aboveBits.frames + 1 ≤ R.frames ∧ 8 + (4 + 11) + jr_X12_aboveBits.locals ≤ R.locals) (hsz : ls.size = nL) (hW : (rest.map fun v => v.category).sum ≤ 8) (hf : cells ≤ R.cells ∧ slots ≤ R.slots) (hdg : decode cc pc = .ok (.invokevirtual 331, 3)) (kk : ∀ (H1 : Heap) (locs1 : List Loc), xRep D ty h9 H1 → xS ty H0 H1 locs1 → W p l e R s m args below meth c H1 locs1 cells slots Q (F0 m (pc + 3) ls (.int r :: rest))) : W p l e R s m args below meth c H locs cells slots Q (F0 m pc ls (.int v1 :: .ref v0 :: rest)) := x_callV C0 (jc_X12_aboveBits t_v0 hF) xm_X12_aboveBits xi_X12_aboveBits xe_X12_aboveBits wl_X12_331 ⟨rfl, rfl, hrm⟩ (ci := 12) rfl t_v0 hR hS (As := [.int v1]) rfl hsz rfl hW hdg hf kk
end XN_X12_specific
set_option maxHeartbeats 4000000 in
set_option maxRecDepth 100000 in
theorem jw_X12_specific_109 {p : Program} {l : Launch} {e : Env} {s : State} {m : MethodId} {args : Array Value} {below : List Frame} {meth : Method} {c : Code} {D : xD} {ty : xTy} (C0 : xC D RX12 cX12_specific 5 (some .int) p s m args meth c) {r : Int32} {h9 : xH} : ∀ n : Nat, ∀ (v0 : Nat) (v2 : Int32) (v3 : Int32) (v4 : Int32) (h : xH), ty v0 = some (0, 12) → jf_X12_specific_109 ty n v0 v2 v3 v4 h = some (r, h9) → ∀ (H : Heap) (locs : List Loc), xRep D ty h H → xS ty s.heap H locs → ∀ ls : Array Slot, lv_has ls 5 [(0, .ref v0), (2, .int v2), (3, .int v3), (4, .int v4)] → W p l e jr_X12_specific s m args below meth c H locs 0 0 (MQ below (xQ D ty (some (.int r)) h9) args s 0 0 (xdom ty)) (F0 m 109 ls []) := by
  have hx := C0.1
  have hb := C0.2.1
  have hown := C0.2.2.2.2.2.1
  have hts := C0.2.2.2.2.2.2.1
  intro n
  induction n with
  | zero =>
    intro v0 v2 v3 v4 h t_v0 hF H locs hR hS ls hl
    cases hF
  | succ n ih =>
    intro v0 v2 v3 v4 h t_v0 hF H locs hR hS ls hl
    rw [jf_X12_specific_109_s] at hF
    refine lv_iload hx hb dX12_specific_109 (lv_at hl 3 rfl) ?_
    refine lv_aload_n hx hb dX12_specific_111 rfl (lv_at hl 0 rfl) ?_
    refine gf_X12_178 C0 hR t_v0 dX12_specific_112 ?_
    refine lv_icmp_ge (tgt := 147) hx hb dX12_specific_115 (by decide) (fun c1 => ?_) (fun c1 => ?_)
    · have hF := xif hF c1
      refine lv_iload_n hx hb dX12_specific_147 rfl (lv_at hl 2 rfl) ?_
      cases hF
      exact x_iret C0 hR hS dX12_specific_148
    · have hF := xel hF c1
      refine lv_iload_n hx hb dX12_specific_118 rfl (lv_at hl 1 rfl) ?_
      refine lv_iload hx hb dX12_specific_119 (lv_at hl 3 rfl) ?_
      obtain ⟨a2, e_a2, hF⟩ := xbd hF
      refine cl_X12_279 C0 hR hS e_a2  ⟨(Nat.le_of_ble_eq_true rfl), (Nat.le_of_ble_eq_true rfl)⟩ hl.1 (Nat.le_of_ble_eq_true rfl) ⟨(Nat.le_of_ble_eq_true rfl), (Nat.le_of_ble_eq_true rfl)⟩ dX12_specific_121 (fun H locs hR hS => ?_)
      refine lv_if_eq (tgt := 141) hx hb dX12_specific_124 (by decide) (fun c3 => ?_) (fun c3 => ?_)
      · have hF := xif hF c3
        refine lv_iinc (v := v4 + 1) (lv' := [(4, .int (v4 + 1)), (0, .ref v0), (2, .int v2), (3, .int v3)]) hx hb dX12_specific_141 hl (k := 3) rfl rfl (by decide) rfl (fun ls hl => ?_)
        refine lv_goto (tgt := 109) hx hb dX12_specific_144 (by decide) ?_
        exact ih _ _ _ _ _ t_v0 hF _ _ hR hS _ (lv_sub hl [1, 2, 3, 0] rfl)
      · have hF := xel hF c3
        refine lv_aload_n hx hb dX12_specific_127 rfl (lv_at hl 0 rfl) ?_
        refine lv_iload hx hb dX12_specific_128 (lv_at hl 3 rfl) ?_
        obtain ⟨a5, h4, e_h4, hF⟩ := xbd2 hF
        refine cl_X12_331 C0 hR hS e_h4 t_v0 ⟨(Nat.le_of_ble_eq_true rfl), (Nat.le_of_ble_eq_true rfl)⟩ hl.1 (Nat.le_of_ble_eq_true rfl) ⟨(Nat.le_of_ble_eq_true rfl), (Nat.le_of_ble_eq_true rfl)⟩ dX12_specific_130 (fun H locs hR hS => ?_)
        refine lv_iload_n hx hb dX12_specific_133 rfl (lv_at hl 1 rfl) ?_
        refine lv_iand hx hb dX12_specific_134 ?_
        refine lv_if_ne (tgt := 141) hx hb dX12_specific_135 (by decide) (fun c6 => ?_) (fun c6 => ?_)
        · have hF := xel hF c6
          refine lv_iinc (v := v4 + 1) (lv' := [(4, .int (v4 + 1)), (0, .ref v0), (2, .int v2), (3, .int v3)]) hx hb dX12_specific_141 hl (k := 3) rfl rfl (by decide) rfl (fun ls hl => ?_)
          refine lv_goto (tgt := 109) hx hb dX12_specific_144 (by decide) ?_
          exact ih _ _ _ _ _ t_v0 hF _ _ hR hS _ (lv_sub hl [1, 2, 3, 0] rfl)
        · have hF := xif hF c6
          refine lv_iload hx hb dX12_specific_138 (lv_at hl 3 rfl) ?_
          cases hF
          exact x_iret C0 hR hS dX12_specific_140
set_option maxHeartbeats 4000000 in
set_option maxRecDepth 100000 in
theorem jw_X12_specific_79 {p : Program} {l : Launch} {e : Env} {s : State} {m : MethodId} {args : Array Value} {below : List Frame} {meth : Method} {c : Code} {D : xD} {ty : xTy} (C0 : xC D RX12 cX12_specific 5 (some .int) p s m args meth c) {r : Int32} {h9 : xH} : ∀ n : Nat, ∀ (v0 : Nat) (v2 : Int32) (v3 : Int32) (v4 : Int32) (h : xH), ty v0 = some (0, 12) → jf_X12_specific_79 ty n v0 v2 v3 v4 h = some (r, h9) → ∀ (H : Heap) (locs : List Loc), xRep D ty h H → xS ty s.heap H locs → ∀ ls : Array Slot, lv_has ls 5 [(0, .ref v0), (2, .int v2), (3, .int v3), (4, .int v4)] → W p l e jr_X12_specific s m args below meth c H locs 0 0 (MQ below (xQ D ty (some (.int r)) h9) args s 0 0 (xdom ty)) (F0 m 79 ls []) := by
  have hx := C0.1
  have hb := C0.2.1
  have hown := C0.2.2.2.2.2.1
  have hts := C0.2.2.2.2.2.2.1
  intro n
  induction n with
  | zero =>
    intro v0 v2 v3 v4 h t_v0 hF H locs hR hS ls hl
    cases hF
  | succ n ih =>
    intro v0 v2 v3 v4 h t_v0 hF H locs hR hS ls hl
    rw [jf_X12_specific_79_s] at hF
    refine lv_iload hx hb dX12_specific_79 (lv_at hl 3 rfl) ?_
    refine lv_if_lt (tgt := 106) hx hb dX12_specific_81 (by decide) (fun c7 => ?_) (fun c7 => ?_)
    · have hF := xif hF c7
      refine lv_iconst (v := 0) hx hb dX12_specific_106 (by decide) ?_
      refine lv_istore (lv' := [(4, .int 0), (0, .ref v0), (2, .int v2), (3, .int v3)]) hx hb dX12_specific_107 hl (by decide) rfl (fun ls hl => ?_)
      obtain ⟨_, hF⟩ := xlim_sp hF
      exact jw_X12_specific_109 C0 _ _ _ _ _ _ t_v0 hF _ _ hR hS _ (lv_sub hl [1, 2, 3, 0] rfl)
    · have hF := xel hF c7
      refine lv_iload_n hx hb dX12_specific_84 rfl (lv_at hl 1 rfl) ?_
      refine lv_iload hx hb dX12_specific_85 (lv_at hl 3 rfl) ?_
      obtain ⟨a8, e_a8, hF⟩ := xbd hF
      refine cl_X12_279 C0 hR hS e_a8  ⟨(Nat.le_of_ble_eq_true rfl), (Nat.le_of_ble_eq_true rfl)⟩ hl.1 (Nat.le_of_ble_eq_true rfl) ⟨(Nat.le_of_ble_eq_true rfl), (Nat.le_of_ble_eq_true rfl)⟩ dX12_specific_87 (fun H locs hR hS => ?_)
      refine lv_if_eq (tgt := 98) hx hb dX12_specific_90 (by decide) (fun c9 => ?_) (fun c9 => ?_)
      · have hF := xif hF c9
        refine lv_iload_n hx hb dX12_specific_98 rfl (lv_at hl 2 rfl) ?_
        refine lv_istore_n (lv' := [(3, .int v3), (0, .ref v0), (2, .int v2), (4, .int v4)]) hx hb dX12_specific_99 rfl hl (by decide) rfl (fun ls hl => ?_)
        refine lv_iinc (v := v4 + (-1)) (lv' := [(4, .int (v4 + (-1))), (3, .int v3), (0, .ref v0), (2, .int v2)]) hx hb dX12_specific_100 hl (k := 3) rfl rfl (by decide) rfl (fun ls hl => ?_)
        refine lv_goto (tgt := 79) hx hb dX12_specific_103 (by decide) ?_
        exact ih _ _ _ _ _ t_v0 hF _ _ hR hS _ (lv_sub hl [2, 3, 1, 0] rfl)
      · have hF := xel hF c9
        refine lv_iload hx hb dX12_specific_93 (lv_at hl 3 rfl) ?_
        refine lv_goto (tgt := 99) hx hb dX12_specific_95 (by decide) ?_
        refine lv_istore_n (lv' := [(3, .int v4), (0, .ref v0), (2, .int v2), (4, .int v4)]) hx hb dX12_specific_99 rfl hl (by decide) rfl (fun ls hl => ?_)
        refine lv_iinc (v := v4 + (-1)) (lv' := [(4, .int (v4 + (-1))), (3, .int v4), (0, .ref v0), (2, .int v2)]) hx hb dX12_specific_100 hl (k := 3) rfl rfl (by decide) rfl (fun ls hl => ?_)
        refine lv_goto (tgt := 79) hx hb dX12_specific_103 (by decide) ?_
        exact ih _ _ _ _ _ t_v0 hF _ _ hR hS _ (lv_sub hl [2, 3, 1, 0] rfl)
set_option maxHeartbeats 4000000 in
set_option maxRecDepth 100000 in
theorem jw_X12_specific_27 {p : Program} {l : Launch} {e : Env} {s : State} {m : MethodId} {args : Array Value} {below : List Frame} {meth : Method} {c : Code} {D : xD} {ty : xTy} (C0 : xC D RX12 cX12_specific 5 (some .int) p s m args meth c) {r : Int32} {h9 : xH} : ∀ n : Nat, ∀ (v0 : Nat) (v1 : Int32) (v2 : Int32) (v3 : Int32) (h : xH), ty v0 = some (0, 12) → jf_X12_specific_27 ty n v0 v1 v2 v3 h = some (r, h9) → ∀ (H : Heap) (locs : List Loc), xRep D ty h H → xS ty s.heap H locs → ∀ ls : Array Slot, lv_has ls 5 [(0, .ref v0), (1, .int v1), (2, .int v2), (3, .int v3)] → W p l e jr_X12_specific s m args below meth c H locs 0 0 (MQ below (xQ D ty (some (.int r)) h9) args s 0 0 (xdom ty)) (F0 m 27 ls []) := by
  have hx := C0.1
  have hb := C0.2.1
  have hown := C0.2.2.2.2.2.1
  have hts := C0.2.2.2.2.2.2.1
  intro n
  induction n with
  | zero =>
    intro v0 v1 v2 v3 h t_v0 hF H locs hR hS ls hl
    cases hF
  | succ n ih =>
    intro v0 v1 v2 v3 h t_v0 hF H locs hR hS ls hl
    rw [jf_X12_specific_27_s] at hF
    refine lv_iload_n hx hb dX12_specific_27 rfl (lv_at hl 3 rfl) ?_
    refine lv_aload_n hx hb dX12_specific_28 rfl (lv_at hl 0 rfl) ?_
    refine gf_X12_178 C0 hR t_v0 dX12_specific_29 ?_
    refine lv_icmp_ge (tgt := 68) hx hb dX12_specific_32 (by decide) (fun c10 => ?_) (fun c10 => ?_)
    · have hF := xif hF c10
      refine lv_bipush (v := (-2)) hx hb dX12_specific_68 (by decide) ?_
      refine lv_istore_n (lv' := [(3, .int (-2)), (0, .ref v0), (1, .int v1), (2, .int v2)]) hx hb dX12_specific_70 rfl hl (by decide) rfl (fun ls hl => ?_)
      refine lv_aload_n hx hb dX12_specific_71 rfl (lv_at hl 1 rfl) ?_
      refine gf_X12_178 C0 hR t_v0 dX12_specific_72 ?_
      refine lv_iconst (v := 1) hx hb dX12_specific_75 (by decide) ?_
      refine lv_isub hx hb dX12_specific_76 ?_
      refine lv_istore (lv' := [(4, .int ((xI h v0 14) - 1)), (3, .int (-2)), (0, .ref v0), (1, .int v1), (2, .int v2)]) hx hb dX12_specific_77 hl (by decide) rfl (fun ls hl => ?_)
      obtain ⟨_, hF⟩ := xlim_sp hF
      exact jw_X12_specific_79 C0 _ _ _ _ _ _ t_v0 hF _ _ hR hS _ (lv_sub hl [2, 4, 1, 0] rfl)
    · have hF := xel hF c10
      refine lv_iload_n hx hb dX12_specific_35 rfl (lv_at hl 2 rfl) ?_
      refine lv_aload_n hx hb dX12_specific_36 rfl (lv_at hl 0 rfl) ?_
      refine lv_iload_n hx hb dX12_specific_37 rfl (lv_at hl 3 rfl) ?_
      obtain ⟨a11, e_a11, hF⟩ := xbd hF
      refine cl_X12_285 C0 hR hS e_a11 t_v0 ⟨(Nat.le_of_ble_eq_true rfl), (Nat.le_of_ble_eq_true rfl)⟩ hl.1 (Nat.le_of_ble_eq_true rfl) ⟨(Nat.le_of_ble_eq_true rfl), (Nat.le_of_ble_eq_true rfl)⟩ dX12_specific_38 (fun H locs hR hS => ?_)
      refine lv_if_eq (tgt := 59) hx hb dX12_specific_41 (by decide) (fun c12 => ?_) (fun c12 => ?_)
      · have hF := xif hF c12
        refine lv_iconst (v := 0) hx hb dX12_specific_59 (by decide) ?_
        refine lv_ior hx hb dX12_specific_60 ?_
        refine lv_istore_n (lv' := [(2, .int (v2 ||| 0)), (0, .ref v0), (1, .int v1), (3, .int v3)]) hx hb dX12_specific_61 rfl hl (by decide) rfl (fun ls hl => ?_)
        refine lv_iinc (v := v3 + 1) (lv' := [(3, .int (v3 + 1)), (2, .int (v2 ||| 0)), (0, .ref v0), (1, .int v1)]) hx hb dX12_specific_62 hl (k := 3) rfl rfl (by decide) rfl (fun ls hl => ?_)
        refine lv_goto (tgt := 27) hx hb dX12_specific_65 (by decide) ?_
        exact ih _ _ _ _ _ t_v0 hF _ _ hR hS _ (lv_sub hl [2, 3, 1, 0] rfl)
      · have hF := xel hF c12
        refine lv_aload_n hx hb dX12_specific_44 rfl (lv_at hl 0 rfl) ?_
        refine lv_iload_n hx hb dX12_specific_45 rfl (lv_at hl 1 rfl) ?_
        refine lv_iload_n hx hb dX12_specific_46 rfl (lv_at hl 3 rfl) ?_
        obtain ⟨a14, h13, e_h13, hF⟩ := xbd2 hF
        refine cl_X12_288 C0 hR hS e_h13 t_v0 ⟨(Nat.le_of_ble_eq_true rfl), (Nat.le_of_ble_eq_true rfl)⟩ hl.1 (Nat.le_of_ble_eq_true rfl) ⟨(Nat.le_of_ble_eq_true rfl), (Nat.le_of_ble_eq_true rfl)⟩ dX12_specific_47 (fun H locs hR hS => ?_)
        refine lv_if_eq (tgt := 59) hx hb dX12_specific_50 (by decide) (fun c15 => ?_) (fun c15 => ?_)
        · have hF := xif hF c15
          refine lv_iconst (v := 0) hx hb dX12_specific_59 (by decide) ?_
          refine lv_ior hx hb dX12_specific_60 ?_
          refine lv_istore_n (lv' := [(2, .int (v2 ||| 0)), (0, .ref v0), (1, .int v1), (3, .int v3)]) hx hb dX12_specific_61 rfl hl (by decide) rfl (fun ls hl => ?_)
          refine lv_iinc (v := v3 + 1) (lv' := [(3, .int (v3 + 1)), (2, .int (v2 ||| 0)), (0, .ref v0), (1, .int v1)]) hx hb dX12_specific_62 hl (k := 3) rfl rfl (by decide) rfl (fun ls hl => ?_)
          refine lv_goto (tgt := 27) hx hb dX12_specific_65 (by decide) ?_
          exact ih _ _ _ _ _ t_v0 hF _ _ hR hS _ (lv_sub hl [2, 3, 1, 0] rfl)
        · have hF := xel hF c15
          refine lv_iconst (v := 1) hx hb dX12_specific_53 (by decide) ?_
          refine lv_iload_n hx hb dX12_specific_54 rfl (lv_at hl 3 rfl) ?_
          refine lv_ishl hx hb dX12_specific_55 ?_
          refine lv_goto (tgt := 60) hx hb dX12_specific_56 (by decide) ?_
          refine lv_ior hx hb dX12_specific_60 ?_
          refine lv_istore_n (lv' := [(2, .int (v2 ||| (1 <<< (v3 &&& 31)))), (0, .ref v0), (1, .int v1), (3, .int v3)]) hx hb dX12_specific_61 rfl hl (by decide) rfl (fun ls hl => ?_)
          refine lv_iinc (v := v3 + 1) (lv' := [(3, .int (v3 + 1)), (2, .int (v2 ||| (1 <<< (v3 &&& 31)))), (0, .ref v0), (1, .int v1)]) hx hb dX12_specific_62 hl (k := 3) rfl rfl (by decide) rfl (fun ls hl => ?_)
          refine lv_goto (tgt := 27) hx hb dX12_specific_65 (by decide) ?_
          exact ih _ _ _ _ _ t_v0 hF _ _ hR hS _ (lv_sub hl [2, 3, 1, 0] rfl)
set_option maxHeartbeats 4000000 in
set_option maxRecDepth 100000 in
theorem jc_X12_specific {l : Launch} {D : xD} {ty : xTy} {h : xH} {v0 : Nat} {v1 : Int32} {r : Int32} {h9 : xH} (t_v0 : ty v0 = some (0, 12)) (hF : jf_X12_specific ty h v0 v1 = some (r, h9)) : Met l yX12_specific (xws yX12_specific cX12_specific 5 (some .int)) jr_X12_specific (xPc D ty h [.ref v0, .int v1]) (xQ D ty (some (.int r)) h9) 0 0 (xdom ty) := by
  refine x_met (by decide) ?_
  intro p e s m below meth c C0 hR
  generalize hargs : ([.ref v0, .int v1] : List Value).toArray = args at C0 ⊢
  have hx := C0.1
  have hb := C0.2.1
  have hown := C0.2.2.2.2.2.1
  have hts := C0.2.2.2.2.2.2.1
  have hS : xS ty s.heap s.heap [] := xS.rf
  have hl := lv_entry ([.ref v0, .int v1]) (n := 5) (Nat.le_of_ble_eq_true rfl)
  rw [← hargs, lg_entry_eq]
  rw [hargs]
  generalize (lg_sl ([.ref v0, .int v1]) ++ List.replicate (5 - (lg_sl ([.ref v0, .int v1])).length) Slot.unset).toArray = ls at hl ⊢
  have hl : lv_has ls 5 [(0, .ref v0), (1, .int v1)] := hl
  unfold jf_X12_specific at hF
  refine lv_aload_n hx hb dX12_specific_0 rfl (lv_at hl 0 rfl) ?_
  refine lv_iconst (v := 0) hx hb dX12_specific_1 (by decide) ?_
  obtain ⟨h16, e_h16, hF⟩ := xbd hF
  refine pf_X12_101 C0 hR hS t_v0 dX12_specific_2 (fun H locs hR hS => ?_)
  rw [Option.some.inj e_h16] at hR
  refine lv_iload_n hx hb dX12_specific_5 rfl (lv_at hl 1 rfl) ?_
  refine lv_iconst (v := 0) hx hb dX12_specific_6 (by decide) ?_
  refine lv_iconst (v := 2) hx hb dX12_specific_7 (by decide) ?_
  obtain ⟨a17, e_a17, hF⟩ := xbd hF
  refine cl_X12_146 C0 hR hS e_a17  ⟨(Nat.le_of_ble_eq_true rfl), (Nat.le_of_ble_eq_true rfl)⟩ hl.1 (Nat.le_of_ble_eq_true rfl) ⟨(Nat.le_of_ble_eq_true rfl), (Nat.le_of_ble_eq_true rfl)⟩ dX12_specific_8 (fun H locs hR hS => ?_)
  refine lv_if_eq (tgt := 21) hx hb dX12_specific_11 (by decide) (fun c18 => ?_) (fun c18 => ?_)
  · have hF := xif hF c18
    refine lv_iconst (v := (-1)) hx hb dX12_specific_21 (by decide) ?_
    cases hF
    exact x_iret C0 hR hS dX12_specific_22
  · have hF := xel hF c18
    refine lv_aload_n hx hb dX12_specific_14 rfl (lv_at hl 0 rfl) ?_
    refine gf_X12_188 C0 hR t_v0 dX12_specific_15 ?_
    refine lv_if_ne (tgt := 23) hx hb dX12_specific_18 (by decide) (fun c19 => ?_) (fun c19 => ?_)
    · have hF := xel hF c19
      refine lv_iconst (v := 0) hx hb dX12_specific_23 (by decide) ?_
      refine lv_istore_n (lv' := [(2, .int 0), (0, .ref v0), (1, .int v1)]) hx hb dX12_specific_24 rfl hl (by decide) rfl (fun ls hl => ?_)
      refine lv_iconst (v := 0) hx hb dX12_specific_25 (by decide) ?_
      refine lv_istore_n (lv' := [(3, .int 0), (2, .int 0), (0, .ref v0), (1, .int v1)]) hx hb dX12_specific_26 rfl hl (by decide) rfl (fun ls hl => ?_)
      obtain ⟨_, hF⟩ := xlim_sp hF
      exact jw_X12_specific_27 C0 _ _ _ _ _ _ t_v0 hF _ _ hR hS _ (lv_sub hl [2, 3, 1, 0] rfl)
    · have hF := xif hF c19
      refine lv_iconst (v := (-1)) hx hb dX12_specific_21 (by decide) ?_
      cases hF
      exact x_iret C0 hR hS dX12_specific_22
theorem xm_X12_specific : xMw yX12_specific cX12_specific 5 (some .int) 1 := ⟨xin 1704 (by decide +kernel) rfl, xin 126 (by decide +kernel) rfl, by decide +kernel⟩
theorem xi_X12_specific : Cond.instanceMethod yX12_specific ∈ xT := xin 1702 (by decide +kernel) rfl
theorem xe_X12_specific : Cond.selects yX12_specific.cls yX12_specific yX12_specific ∈ xT := xin 1703 (by decide +kernel) rfl

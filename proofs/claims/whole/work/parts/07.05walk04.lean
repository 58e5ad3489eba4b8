theorem dX10_unifies_0 : decode cX10_unifies 0 = .ok (.aload_n 1, 1) := by decide +kernel
theorem dX10_unifies_1 : decode cX10_unifies 1 = .ok (.iload_n 2, 1) := by decide +kernel
theorem dX10_unifies_2 : decode cX10_unifies 2 = .ok (.invokevirtual 65, 3) := by decide +kernel
theorem dX10_unifies_5 : decode cX10_unifies 5 = .ok (.istore 4, 2) := by decide +kernel
theorem dX10_unifies_7 : decode cX10_unifies 7 = .ok (.aload_n 3, 1) := by decide +kernel
theorem dX10_unifies_8 : decode cX10_unifies 8 = .ok (.iconst 0, 1) := by decide +kernel
theorem dX10_unifies_9 : decode cX10_unifies 9 = .ok (.invokevirtual 65, 3) := by decide +kernel
theorem dX10_unifies_12 : decode cX10_unifies 12 = .ok (.istore 5, 2) := by decide +kernel
theorem dX10_unifies_14 : decode cX10_unifies 14 = .ok (.iload 4, 2) := by decide +kernel
theorem dX10_unifies_16 : decode cX10_unifies 16 = .ok (.bipush 100, 2) := by decide +kernel
theorem dX10_unifies_18 : decode cX10_unifies 18 = .ok (.if_icmp .ge 19, 3) := by decide +kernel
theorem dX10_unifies_21 : decode cX10_unifies 21 = .ok (.iload 5, 2) := by decide +kernel
theorem dX10_unifies_23 : decode cX10_unifies 23 = .ok (.bipush 100, 2) := by decide +kernel
theorem dX10_unifies_25 : decode cX10_unifies 25 = .ok (.if_icmp .ge 12, 3) := by decide +kernel
theorem dX10_unifies_28 : decode cX10_unifies 28 = .ok (.iload 4, 2) := by decide +kernel
theorem dX10_unifies_30 : decode cX10_unifies 30 = .ok (.iload 5, 2) := by decide +kernel
theorem dX10_unifies_32 : decode cX10_unifies 32 = .ok (.if_icmp .eq 5, 3) := by decide +kernel
theorem dX10_unifies_35 : decode cX10_unifies 35 = .ok (.iconst 0, 1) := by decide +kernel
theorem dX10_unifies_36 : decode cX10_unifies 36 = .ok (.ireturn, 1) := by decide +kernel
theorem dX10_unifies_37 : decode cX10_unifies 37 = .ok (.aload_n 0, 1) := by decide +kernel
theorem dX10_unifies_38 : decode cX10_unifies 38 = .ok (.iconst 0, 1) := by decide +kernel
theorem dX10_unifies_39 : decode cX10_unifies 39 = .ok (.putfield 52, 3) := by decide +kernel
theorem dX10_unifies_42 : decode cX10_unifies 42 = .ok (.aload_n 0, 1) := by decide +kernel
theorem dX10_unifies_43 : decode cX10_unifies 43 = .ok (.aload_n 1, 1) := by decide +kernel
theorem dX10_unifies_44 : decode cX10_unifies 44 = .ok (.invokevirtual 69, 3) := by decide +kernel
theorem dX10_unifies_47 : decode cX10_unifies 47 = .ok (.aload_n 0, 1) := by decide +kernel
theorem dX10_unifies_48 : decode cX10_unifies 48 = .ok (.getfield 52, 3) := by decide +kernel
theorem dX10_unifies_51 : decode cX10_unifies 51 = .ok (.istore 6, 2) := by decide +kernel
theorem dX10_unifies_53 : decode cX10_unifies 53 = .ok (.aload_n 0, 1) := by decide +kernel
theorem dX10_unifies_54 : decode cX10_unifies 54 = .ok (.aload_n 3, 1) := by decide +kernel
theorem dX10_unifies_55 : decode cX10_unifies 55 = .ok (.invokevirtual 69, 3) := by decide +kernel
theorem dX10_unifies_58 : decode cX10_unifies 58 = .ok (.aload_n 0, 1) := by decide +kernel
theorem dX10_unifies_59 : decode cX10_unifies 59 = .ok (.getfield 34, 3) := by decide +kernel
theorem dX10_unifies_62 : decode cX10_unifies 62 = .ok (.iconst 0, 1) := by decide +kernel
theorem dX10_unifies_63 : decode cX10_unifies 63 = .ok (.iload_n 2, 1) := by decide +kernel
theorem dX10_unifies_64 : decode cX10_unifies 64 = .ok (.iastore, 1) := by decide +kernel
theorem dX10_unifies_65 : decode cX10_unifies 65 = .ok (.aload_n 0, 1) := by decide +kernel
theorem dX10_unifies_66 : decode cX10_unifies 66 = .ok (.getfield 37, 3) := by decide +kernel
theorem dX10_unifies_69 : decode cX10_unifies 69 = .ok (.iconst 0, 1) := by decide +kernel
theorem dX10_unifies_70 : decode cX10_unifies 70 = .ok (.iload 6, 2) := by decide +kernel
theorem dX10_unifies_72 : decode cX10_unifies 72 = .ok (.iastore, 1) := by decide +kernel
theorem dX10_unifies_73 : decode cX10_unifies 73 = .ok (.aload_n 0, 1) := by decide +kernel
theorem dX10_unifies_74 : decode cX10_unifies 74 = .ok (.iconst 1, 1) := by decide +kernel
theorem dX10_unifies_75 : decode cX10_unifies 75 = .ok (.putfield 56, 3) := by decide +kernel
theorem dX10_unifies_78 : decode cX10_unifies 78 = .ok (.aload_n 0, 1) := by decide +kernel
theorem dX10_unifies_79 : decode cX10_unifies 79 = .ok (.invokevirtual 73, 3) := by decide +kernel
theorem dX10_unifies_82 : decode cX10_unifies 82 = .ok (.ifCond .eq 14, 3) := by decide +kernel
theorem dX10_unifies_85 : decode cX10_unifies 85 = .ok (.aload_n 0, 1) := by decide +kernel
theorem dX10_unifies_86 : decode cX10_unifies 86 = .ok (.invokevirtual 77, 3) := by decide +kernel
theorem dX10_unifies_89 : decode cX10_unifies 89 = .ok (.ifCond .eq 7, 3) := by decide +kernel
theorem dX10_unifies_92 : decode cX10_unifies 92 = .ok (.iconst 1, 1) := by decide +kernel
theorem dX10_unifies_93 : decode cX10_unifies 93 = .ok (.goto 4, 3) := by decide +kernel
theorem dX10_unifies_96 : decode cX10_unifies 96 = .ok (.iconst 0, 1) := by decide +kernel
theorem dX10_unifies_97 : decode cX10_unifies 97 = .ok (.ireturn, 1) := by decide +kernel
theorem wl_X10_69 : Cond.methodLink RX10 69 yX10_load ∈ xT := xin 824 (by decide +kernel) rfl
theorem wl_X10_73 : Cond.methodLink RX10 73 yX10_uniteAll ∈ xT := xin 831 (by decide +kernel) rfl
theorem wl_X10_77 : Cond.methodLink RX10 77 yX10_hasNoCircle ∈ xT := xin 851 (by decide +kernel) rfl
section XN_X10_unifies
variable {p : Program} {l : Launch} {e : Env} {R : Room} {s : State} {m : MethodId} {args : Array Value} {below : List Frame} {meth : Method} {c : Code} {H H0 : Heap} {locs : List Loc} {cells slots : Nat} {Q : State → Prop} {cc : ByteArray} {nL pc : Nat} {rt : Option FieldType} {ls : Array Slot} {rest : List Value} {D : xD} {ty : xTy} {h : xH}
theorem cl_X10_69 {v0 : Nat} {v1 : Nat} {h9 : xH} (C0 : xC D RX10 cc nL rt p s m args meth c) (hR : xRep D ty h H) (hS : xS ty H0 H locs) (hF : jf_X10_load ty h v0 v1 = some h9) (t_v0 : ty v0 = some (0, 10)) (t_v1 : ty v1 = some (0, 7)) (hrm : jr_X10_load.frames + 1 ≤ R.frames ∧ 8 + (5 + 11) + jr_X10_load.locals ≤ R.locals) (hsz : ls.size = nL) (hW : (rest.map fun v => v.category).sum ≤ 8) (hf : cells ≤ R.cells ∧ slots ≤ R.slots) (hdg : decode cc pc = .ok (.invokevirtual 69, 3)) (kk : ∀ (H1 : Heap) (locs1 : List Loc), xRep D ty h9 H1 → xS ty H0 H1 locs1 → W p l e R s m args below meth c H1 locs1 cells slots Q (F0 m (pc + 3) ls rest)) : W p l e R s m args below meth c H locs cells slots Q (F0 m pc ls (.ref v1 :: .ref v0 :: rest)) := x_callV C0 (jc_X10_load t_v0 t_v1 hF) xm_X10_load xi_X10_load xe_X10_load wl_X10_69 ⟨rfl, rfl, hrm⟩ (ci := 10) rfl t_v0 hR hS (As := [.ref v1]) rfl hsz rfl hW hdg hf kk
theorem cl_X10_73 {v0 : Nat} {r : Int32} {h9 : xH} (C0 : xC D RX10 cc nL rt p s m args meth c) (hR : xRep D ty h H) (hS : xS ty H0 H locs) (hF : jf_X10_uniteAll ty h v0 = some (r, h9)) (t_v0 : ty v0 = some (0, 10)) (hrm : jr_X10_uniteAll.frames + 1 ≤ R.frames ∧ 8 + (4 + 11) + jr_X10_uniteAll.locals ≤ R.locals) (hsz : ls.size = nL) (hW : (rest.map fun v => v.category).sum ≤ 8) (hf : cells ≤ R.cells ∧ slots ≤ R.slots) (hdg : decode cc pc = .ok (.invokevirtual 73, 3)) (kk : ∀ (H1 : Heap) (locs1 : List Loc), xRep D ty h9 H1 → xS ty H0 H1 locs1 → W p l e R s m args below meth c H1 locs1 cells slots Q (F0 m (pc + 3) ls (.int r :: rest))) : W p l e R s m args below meth c H locs cells slots Q (F0 m pc ls (.ref v0 :: rest)) := x_callV C0 (jc_X10_uniteAll t_v0 hF) xm_X10_uniteAll xi_X10_uniteAll xe_X10_uniteAll wl_X10_73 ⟨rfl, rfl, hrm⟩ (ci := 10) rfl t_v0 hR hS (As := []) rfl hsz rfl hW hdg hf kk
theorem cl_X10_77 {v0 : Nat} {r : Int32} {h9 : xH} (C0 : xC D RX10 cc nL rt p s m args meth c) (hR : xRep D ty h H) (hS : xS ty H0 H locs) (hF : jf_X10_hasNoCircle ty h v0 = some (r, h9)) (t_v0 : ty v0 = some (0, 10)) (hrm : jr_X10_hasNoCircle.frames + 1 ≤ R.frames ∧ 8 + (5 + 11) + jr_X10_hasNoCircle.locals ≤ R.locals) (hsz : ls.size = nL) (hW : (rest.map fun v => v.category).sum ≤ 8) (hf : cells ≤ R.cells ∧ slots ≤ R.slots) (hdg : decode cc pc = .ok (.invokevirtual 77, 3)) (kk : ∀ (H1 : Heap) (locs1 : List Loc), xRep D ty h9 H1 → xS ty H0 H1 locs1 → W p l e R s m args below meth c H1 locs1 cells slots Q (F0 m (pc + 3) ls (.int r :: rest))) : W p l e R s m args below meth c H locs cells slots Q (F0 m pc ls (.ref v0 :: rest)) := x_callV C0 (jc_X10_hasNoCircle t_v0 hF) xm_X10_hasNoCircle xi_X10_hasNoCircle xe_X10_hasNoCircle wl_X10_77 ⟨rfl, rfl, hrm⟩ (ci := 10) rfl t_v0 hR hS (As := []) rfl hsz rfl hW hdg hf kk
end XN_X10_unifies
set_option maxHeartbeats 4000000 in
set_option maxRecDepth 100000 in
theorem jw_X10_unifies_37 {p : Program} {l : Launch} {e : Env} {s : State} {m : MethodId} {args : Array Value} {below : List Frame} {meth : Method} {c : Code} {D : xD} {ty : xTy} (C0 : xC D RX10 cX10_unifies 7 (some .boolean) p s m args meth c) {r : Int32} {h9 : xH} : ∀ (v0 : Nat) (v1 : Nat) (v2 : Int32) (v3 : Nat) (h : xH), ty v0 = some (0, 10) → ty v1 = some (0, 7) → ty v3 = some (0, 7) → jf_X10_unifies_37 ty v0 v1 v2 v3 h = some (r, h9) → ∀ (H : Heap) (locs : List Loc), xRep D ty h H → xS ty s.heap H locs → ∀ ls : Array Slot, lv_has ls 7 [(0, .ref v0), (1, .ref v1), (2, .int v2), (3, .ref v3)] → W p l e jr_X10_unifies s m args below meth c H locs 0 0 (MQ below (xQ D ty (some (.int r)) h9) args s 0 0 (xdom ty)) (F0 m 37 ls []) := by
  have hx := C0.1
  have hb := C0.2.1
  have hown := C0.2.2.2.2.2.1
  have hts := C0.2.2.2.2.2.2.1
  intro v0 v1 v2 v3 h t_v0 t_v1 t_v3 hF H locs hR hS ls hl
  unfold jf_X10_unifies_37 at hF
  refine lv_aload_n hx hb dX10_unifies_37 rfl (lv_at hl 0 rfl) ?_
  refine lv_iconst (v := 0) hx hb dX10_unifies_38 (by decide) ?_
  obtain ⟨h1, e_h1, hF⟩ := xbd hF
  refine pf_X10_52 C0 hR hS t_v0 dX10_unifies_39 (fun H locs hR hS => ?_)
  rw [Option.some.inj e_h1] at hR
  refine lv_aload_n hx hb dX10_unifies_42 rfl (lv_at hl 0 rfl) ?_
  refine lv_aload_n hx hb dX10_unifies_43 rfl (lv_at hl 1 rfl) ?_
  obtain ⟨h2, e_h2, hF⟩ := xbd hF
  refine cl_X10_69 C0 hR hS e_h2 t_v0 t_v1 ⟨(Nat.le_of_ble_eq_true rfl), (Nat.le_of_ble_eq_true rfl)⟩ hl.1 (Nat.le_of_ble_eq_true rfl) ⟨(Nat.le_of_ble_eq_true rfl), (Nat.le_of_ble_eq_true rfl)⟩ dX10_unifies_44 (fun H locs hR hS => ?_)
  refine lv_aload_n hx hb dX10_unifies_47 rfl (lv_at hl 0 rfl) ?_
  refine gf_X10_52 C0 hR t_v0 dX10_unifies_48 ?_
  refine lv_istore (lv' := [(6, .int (xI h2 v0 11)), (0, .ref v0), (1, .ref v1), (2, .int v2), (3, .ref v3)]) hx hb dX10_unifies_51 hl (by decide) rfl (fun ls hl => ?_)
  refine lv_aload_n hx hb dX10_unifies_53 rfl (lv_at hl 1 rfl) ?_
  refine lv_aload_n hx hb dX10_unifies_54 rfl (lv_at hl 4 rfl) ?_
  obtain ⟨h3, e_h3, hF⟩ := xbd hF
  refine cl_X10_69 C0 hR hS e_h3 t_v0 t_v3 ⟨(Nat.le_of_ble_eq_true rfl), (Nat.le_of_ble_eq_true rfl)⟩ hl.1 (Nat.le_of_ble_eq_true rfl) ⟨(Nat.le_of_ble_eq_true rfl), (Nat.le_of_ble_eq_true rfl)⟩ dX10_unifies_55 (fun H locs hR hS => ?_)
  refine lv_aload_n hx hb dX10_unifies_58 rfl (lv_at hl 1 rfl) ?_
  obtain ⟨a4, e_a4, hF⟩ := xbd hF
  refine gf_X10_34 C0 hR t_v0 e_a4 dX10_unifies_59 ?_
  refine lv_iconst (v := 0) hx hb dX10_unifies_62 (by decide) ?_
  refine lv_iload_n hx hb dX10_unifies_63 rfl (lv_at hl 3 rfl) ?_
  obtain ⟨h5, e_h5, hF⟩ := xbd hF
  refine x_iast C0 hR hS e_h5 dX10_unifies_64 (fun H locs hR hS => ?_)
  refine lv_aload_n hx hb dX10_unifies_65 rfl (lv_at hl 1 rfl) ?_
  obtain ⟨a6, e_a6, hF⟩ := xbd hF
  refine gf_X10_37 C0 hR t_v0 e_a6 dX10_unifies_66 ?_
  refine lv_iconst (v := 0) hx hb dX10_unifies_69 (by decide) ?_
  refine lv_iload hx hb dX10_unifies_70 (lv_at hl 0 rfl) ?_
  obtain ⟨h7, e_h7, hF⟩ := xbd hF
  refine x_iast C0 hR hS e_h7 dX10_unifies_72 (fun H locs hR hS => ?_)
  refine lv_aload_n hx hb dX10_unifies_73 rfl (lv_at hl 1 rfl) ?_
  refine lv_iconst (v := 1) hx hb dX10_unifies_74 (by decide) ?_
  obtain ⟨h8, e_h8, hF⟩ := xbd hF
  refine pf_X10_56 C0 hR hS t_v0 dX10_unifies_75 (fun H locs hR hS => ?_)
  rw [Option.some.inj e_h8] at hR
  refine lv_aload_n hx hb dX10_unifies_78 rfl (lv_at hl 1 rfl) ?_
  obtain ⟨a10, h9, e_h9, hF⟩ := xbd2 hF
  refine cl_X10_73 C0 hR hS e_h9 t_v0 ⟨(Nat.le_of_ble_eq_true rfl), (Nat.le_of_ble_eq_true rfl)⟩ hl.1 (Nat.le_of_ble_eq_true rfl) ⟨(Nat.le_of_ble_eq_true rfl), (Nat.le_of_ble_eq_true rfl)⟩ dX10_unifies_79 (fun H locs hR hS => ?_)
  refine lv_if_eq (tgt := 96) hx hb dX10_unifies_82 (by decide) (fun c11 => ?_) (fun c11 => ?_)
  · have hF := xif hF c11
    refine lv_iconst (v := 0) hx hb dX10_unifies_96 (by decide) ?_
    cases hF
    exact x_zret (w := 0) C0 hR hS (by decide) dX10_unifies_97
  · have hF := xel hF c11
    refine lv_aload_n hx hb dX10_unifies_85 rfl (lv_at hl 1 rfl) ?_
    obtain ⟨a13, h12, e_h12, hF⟩ := xbd2 hF
    refine cl_X10_77 C0 hR hS e_h12 t_v0 ⟨(Nat.le_of_ble_eq_true rfl), (Nat.le_of_ble_eq_true rfl)⟩ hl.1 (Nat.le_of_ble_eq_true rfl) ⟨(Nat.le_of_ble_eq_true rfl), (Nat.le_of_ble_eq_true rfl)⟩ dX10_unifies_86 (fun H locs hR hS => ?_)
    refine lv_if_eq (tgt := 96) hx hb dX10_unifies_89 (by decide) (fun c14 => ?_) (fun c14 => ?_)
    · have hF := xif hF c14
      refine lv_iconst (v := 0) hx hb dX10_unifies_96 (by decide) ?_
      cases hF
      exact x_zret (w := 0) C0 hR hS (by decide) dX10_unifies_97
    · have hF := xel hF c14
      refine lv_iconst (v := 1) hx hb dX10_unifies_92 (by decide) ?_
      refine lv_goto (tgt := 97) hx hb dX10_unifies_93 (by decide) ?_
      cases hF
      exact x_zret (w := 1) C0 hR hS (by decide) dX10_unifies_97
set_option maxHeartbeats 4000000 in
set_option maxRecDepth 100000 in
theorem jc_X10_unifies {l : Launch} {D : xD} {ty : xTy} {h : xH} {v0 : Nat} {v1 : Nat} {v2 : Int32} {v3 : Nat} {r : Int32} {h9 : xH} (t_v0 : ty v0 = some (0, 10)) (t_v1 : ty v1 = some (0, 7)) (t_v3 : ty v3 = some (0, 7)) (hF : jf_X10_unifies ty h v0 v1 v2 v3 = some (r, h9)) : Met l yX10_unifies (xws yX10_unifies cX10_unifies 7 (some .boolean)) jr_X10_unifies (xPc D ty h [.ref v0, .ref v1, .int v2, .ref v3]) (xQ D ty (some (.int r)) h9) 0 0 (xdom ty) := by
  refine x_met (by decide) ?_
  intro p e s m below meth c C0 hR
  generalize hargs : ([.ref v0, .ref v1, .int v2, .ref v3] : List Value).toArray = args at C0 ⊢
  have hx := C0.1
  have hb := C0.2.1
  have hown := C0.2.2.2.2.2.1
  have hts := C0.2.2.2.2.2.2.1
  have hS : xS ty s.heap s.heap [] := xS.rf
  have hl := lv_entry ([.ref v0, .ref v1, .int v2, .ref v3]) (n := 7) (Nat.le_of_ble_eq_true rfl)
  rw [← hargs, lg_entry_eq]
  rw [hargs]
  generalize (lg_sl ([.ref v0, .ref v1, .int v2, .ref v3]) ++ List.replicate (7 - (lg_sl ([.ref v0, .ref v1, .int v2, .ref v3])).length) Slot.unset).toArray = ls at hl ⊢
  have hl : lv_has ls 7 [(0, .ref v0), (1, .ref v1), (2, .int v2), (3, .ref v3)] := hl
  unfold jf_X10_unifies at hF
  refine lv_aload_n hx hb dX10_unifies_0 rfl (lv_at hl 1 rfl) ?_
  refine lv_iload_n hx hb dX10_unifies_1 rfl (lv_at hl 2 rfl) ?_
  obtain ⟨a15, e_a15, hF⟩ := xbd hF
  refine cl_X10_65 C0 hR hS e_a15 t_v1 ⟨(Nat.le_of_ble_eq_true rfl), (Nat.le_of_ble_eq_true rfl)⟩ hl.1 (Nat.le_of_ble_eq_true rfl) ⟨(Nat.le_of_ble_eq_true rfl), (Nat.le_of_ble_eq_true rfl)⟩ dX10_unifies_2 (fun H locs hR hS => ?_)
  refine lv_istore (lv' := [(4, .int a15), (0, .ref v0), (1, .ref v1), (2, .int v2), (3, .ref v3)]) hx hb dX10_unifies_5 hl (by decide) rfl (fun ls hl => ?_)
  refine lv_aload_n hx hb dX10_unifies_7 rfl (lv_at hl 4 rfl) ?_
  refine lv_iconst (v := 0) hx hb dX10_unifies_8 (by decide) ?_
  obtain ⟨a16, e_a16, hF⟩ := xbd hF
  refine cl_X10_65 C0 hR hS e_a16 t_v3 ⟨(Nat.le_of_ble_eq_true rfl), (Nat.le_of_ble_eq_true rfl)⟩ hl.1 (Nat.le_of_ble_eq_true rfl) ⟨(Nat.le_of_ble_eq_true rfl), (Nat.le_of_ble_eq_true rfl)⟩ dX10_unifies_9 (fun H locs hR hS => ?_)
  refine lv_istore (lv' := [(5, .int a16), (4, .int a15), (0, .ref v0), (1, .ref v1), (2, .int v2), (3, .ref v3)]) hx hb dX10_unifies_12 hl (by decide) rfl (fun ls hl => ?_)
  refine lv_iload hx hb dX10_unifies_14 (lv_at hl 1 rfl) ?_
  refine lv_bipush (v := 100) hx hb dX10_unifies_16 (by decide) ?_
  refine lv_icmp_ge (tgt := 37) hx hb dX10_unifies_18 (by decide) (fun c17 => ?_) (fun c17 => ?_)
  · have hF := xif hF c17
    exact jw_X10_unifies_37 C0 _ _ _ _ _ t_v0 t_v1 t_v3 hF _ _ hR hS _ (lv_sub hl [2, 3, 4, 5] rfl)
  · have hF := xel hF c17
    refine lv_iload hx hb dX10_unifies_21 (lv_at hl 0 rfl) ?_
    refine lv_bipush (v := 100) hx hb dX10_unifies_23 (by decide) ?_
    refine lv_icmp_ge (tgt := 37) hx hb dX10_unifies_25 (by decide) (fun c18 => ?_) (fun c18 => ?_)
    · have hF := xif hF c18
      exact jw_X10_unifies_37 C0 _ _ _ _ _ t_v0 t_v1 t_v3 hF _ _ hR hS _ (lv_sub hl [2, 3, 4, 5] rfl)
    · have hF := xel hF c18
      refine lv_iload hx hb dX10_unifies_28 (lv_at hl 1 rfl) ?_
      refine lv_iload hx hb dX10_unifies_30 (lv_at hl 0 rfl) ?_
      refine lv_icmp_eq (tgt := 37) hx hb dX10_unifies_32 (by decide) (fun c19 => ?_) (fun c19 => ?_)
      · have hF := xif hF c19
        exact jw_X10_unifies_37 C0 _ _ _ _ _ t_v0 t_v1 t_v3 hF _ _ hR hS _ (lv_sub hl [2, 3, 4, 5] rfl)
      · have hF := xel hF c19
        refine lv_iconst (v := 0) hx hb dX10_unifies_35 (by decide) ?_
        cases hF
        exact x_zret (w := 0) C0 hR hS (by decide) dX10_unifies_36
theorem xm_X10_unifies : xMw yX10_unifies cX10_unifies 7 (some .boolean) 3 := ⟨xin 822 (by decide +kernel) rfl, xin 122 (by decide +kernel) rfl, by decide +kernel⟩
theorem xi_X10_unifies : Cond.instanceMethod yX10_unifies ∈ xT := xin 820 (by decide +kernel) rfl
theorem xe_X10_unifies : Cond.selects yX10_unifies.cls yX10_unifies yX10_unifies ∈ xT := xin 821 (by decide +kernel) rfl
theorem dX10_awaitArguments_0 : decode cX10_awaitArguments 0 = .ok (.iload_n 1, 1) := by decide +kernel
theorem dX10_awaitArguments_1 : decode cX10_awaitArguments 1 = .ok (.iconst 1, 1) := by decide +kernel
theorem dX10_awaitArguments_2 : decode cX10_awaitArguments 2 = .ok (.iadd, 1) := by decide +kernel
theorem dX10_awaitArguments_3 : decode cX10_awaitArguments 3 = .ok (.istore_n 2, 1) := by decide +kernel
theorem dX10_awaitArguments_4 : decode cX10_awaitArguments 4 = .ok (.aload_n 0, 1) := by decide +kernel
theorem dX10_awaitArguments_5 : decode cX10_awaitArguments 5 = .ok (.getfield 59, 3) := by decide +kernel
theorem dX10_awaitArguments_8 : decode cX10_awaitArguments 8 = .ok (.aload_n 0, 1) := by decide +kernel
theorem dX10_awaitArguments_9 : decode cX10_awaitArguments 9 = .ok (.getfield 15, 3) := by decide +kernel
theorem dX10_awaitArguments_12 : decode cX10_awaitArguments 12 = .ok (.iload_n 1, 1) := by decide +kernel
theorem dX10_awaitArguments_13 : decode cX10_awaitArguments 13 = .ok (.iaload, 1) := by decide +kernel
theorem dX10_awaitArguments_14 : decode cX10_awaitArguments 14 = .ok (.iadd, 1) := by decide +kernel
theorem dX10_awaitArguments_15 : decode cX10_awaitArguments 15 = .ok (.istore_n 3, 1) := by decide +kernel
theorem dX10_awaitArguments_16 : decode cX10_awaitArguments 16 = .ok (.iload_n 3, 1) := by decide +kernel
theorem dX10_awaitArguments_17 : decode cX10_awaitArguments 17 = .ok (.sipush 181, 3) := by decide +kernel
theorem dX10_awaitArguments_20 : decode cX10_awaitArguments 20 = .ok (.if_icmp .le 4, 3) := by decide +kernel
theorem dX10_awaitArguments_23 : decode cX10_awaitArguments 23 = .ok (.return_, 1) := by decide +kernel
theorem dX10_awaitArguments_24 : decode cX10_awaitArguments 24 = .ok (.iload_n 3, 1) := by decide +kernel
theorem dX10_awaitArguments_25 : decode cX10_awaitArguments 25 = .ok (.iconst 1, 1) := by decide +kernel
theorem dX10_awaitArguments_26 : decode cX10_awaitArguments 26 = .ok (.isub, 1) := by decide +kernel
theorem dX10_awaitArguments_27 : decode cX10_awaitArguments 27 = .ok (.istore 4, 2) := by decide +kernel
theorem dX10_awaitArguments_29 : decode cX10_awaitArguments 29 = .ok (.iload 4, 2) := by decide +kernel
theorem dX10_awaitArguments_31 : decode cX10_awaitArguments 31 = .ok (.aload_n 0, 1) := by decide +kernel
theorem dX10_awaitArguments_32 : decode cX10_awaitArguments 32 = .ok (.getfield 59, 3) := by decide +kernel
theorem dX10_awaitArguments_35 : decode cX10_awaitArguments 35 = .ok (.if_icmp .lt 32, 3) := by decide +kernel
theorem dX10_awaitArguments_38 : decode cX10_awaitArguments 38 = .ok (.aload_n 0, 1) := by decide +kernel
theorem dX10_awaitArguments_39 : decode cX10_awaitArguments 39 = .ok (.iload_n 2, 1) := by decide +kernel
theorem dX10_awaitArguments_40 : decode cX10_awaitArguments 40 = .ok (.invokevirtual 96, 3) := by decide +kernel
theorem dX10_awaitArguments_43 : decode cX10_awaitArguments 43 = .ok (.ifCond .eq 24, 3) := by decide +kernel
theorem dX10_awaitArguments_46 : decode cX10_awaitArguments 46 = .ok (.aload_n 0, 1) := by decide +kernel
theorem dX10_awaitArguments_47 : decode cX10_awaitArguments 47 = .ok (.getfield 40, 3) := by decide +kernel
theorem dX10_awaitArguments_50 : decode cX10_awaitArguments 50 = .ok (.iload 4, 2) := by decide +kernel
theorem dX10_awaitArguments_52 : decode cX10_awaitArguments 52 = .ok (.iload_n 2, 1) := by decide +kernel
theorem dX10_awaitArguments_53 : decode cX10_awaitArguments 53 = .ok (.iastore, 1) := by decide +kernel
theorem dX10_awaitArguments_54 : decode cX10_awaitArguments 54 = .ok (.aload_n 0, 1) := by decide +kernel
theorem dX10_awaitArguments_55 : decode cX10_awaitArguments 55 = .ok (.getfield 18, 3) := by decide +kernel
theorem dX10_awaitArguments_58 : decode cX10_awaitArguments 58 = .ok (.iload_n 2, 1) := by decide +kernel
theorem dX10_awaitArguments_59 : decode cX10_awaitArguments 59 = .ok (.iaload, 1) := by decide +kernel
theorem dX10_awaitArguments_60 : decode cX10_awaitArguments 60 = .ok (.istore_n 2, 1) := by decide +kernel
theorem dX10_awaitArguments_61 : decode cX10_awaitArguments 61 = .ok (.iinc 4 (-1), 3) := by decide +kernel
theorem dX10_awaitArguments_64 : decode cX10_awaitArguments 64 = .ok (.goto (-35), 3) := by decide +kernel
theorem dX10_awaitArguments_67 : decode cX10_awaitArguments 67 = .ok (.aload_n 0, 1) := by decide +kernel
theorem dX10_awaitArguments_68 : decode cX10_awaitArguments 68 = .ok (.iload_n 3, 1) := by decide +kernel
theorem dX10_awaitArguments_69 : decode cX10_awaitArguments 69 = .ok (.putfield 59, 3) := by decide +kernel
theorem dX10_awaitArguments_72 : decode cX10_awaitArguments 72 = .ok (.return_, 1) := by decide +kernel
theorem wf_X10_40 : Cond.fieldLink RX10 40 "TermShelf$Unifier" "pending" "[I" ∈ xT := xin 360 (by decide +kernel) rfl
theorem wf_X10_59 : Cond.fieldLink RX10 59 "TermShelf$Unifier" "waiting" "I" ∈ xT := xin 364 (by decide +kernel) rfl
section XN_X10_awaitArguments
variable {p : Program} {l : Launch} {e : Env} {R : Room} {s : State} {m : MethodId} {args : Array Value} {below : List Frame} {meth : Method} {c : Code} {H H0 : Heap} {locs : List Loc} {cells slots : Nat} {Q : State → Prop} {cc : ByteArray} {nL pc : Nat} {rt : Option FieldType} {ls : Array Slot} {rest : List Value} {D : xD} {ty : xTy} {h : xH}
theorem gf_X10_40 {a : Nat} (C0 : xC D RX10 cc nL rt p s m args meth c) (hR : xRep D ty h H) (ht : ty a = some (0, 10)) {v : Nat} (hv : xR h a 9 = some v) (hdg : decode cc pc = .ok (.getfield 40, 3)) (kk : W p l e R s m args below meth c H locs cells slots Q (F0 m (pc + 3) ls (.ref v :: rest))) : W p l e R s m args below meth c H locs cells slots Q (F0 m pc ls (.ref a :: rest)) := x_get C0 hR (ci := 10) (k := 9) (N := 15) (T := TX10) rfl iX10 (by decide) rfl wf_X10_40 (by show va_rf (xR h a 9) = _; rw [hv]; rfl) ht hdg kk
theorem gf_X10_59 {a : Nat} (C0 : xC D RX10 cc nL rt p s m args meth c) (hR : xRep D ty h H) (ht : ty a = some (0, 10)) (hdg : decode cc pc = .ok (.getfield 59, 3)) (kk : W p l e R s m args below meth c H locs cells slots Q (F0 m (pc + 3) ls (.int (xI h a 13) :: rest))) : W p l e R s m args below meth c H locs cells slots Q (F0 m pc ls (.ref a :: rest)) := x_get C0 hR (ci := 10) (k := 13) (N := 15) (T := TX10) rfl iX10 (by decide) rfl wf_X10_59 rfl ht hdg kk
theorem pf_X10_59 {a : Nat} {v : Int32} (C0 : xC D RX10 cc nL rt p s m args meth c) (hR : xRep D ty h H) (hS : xS ty H0 H locs) (ht : ty a = some (0, 10)) (hdg : decode cc pc = .ok (.putfield 59, 3)) (kk : ∀ (H1 : Heap) (locs1 : List Loc), xRep D ty (xsI h a 13 v) H1 → xS ty H0 H1 locs1 → W p l e R s m args below meth c H1 locs1 cells slots Q (F0 m (pc + 3) ls rest)) : W p l e R s m args below meth c H locs cells slots Q (F0 m pc ls (.int v :: .ref a :: rest)) := x_puti C0 hR hS (ci := 10) (k := 13) (N := 15) (T := TX10) rfl iX10 tyX10_ok nmX10 (by decide) rfl rfl wf_X10_59 (Or.inl rfl) rfl rfl ht hdg kk
end XN_X10_awaitArguments
set_option maxHeartbeats 4000000 in
set_option maxRecDepth 100000 in
theorem jw_X10_awaitArguments_29 {p : Program} {l : Launch} {e : Env} {s : State} {m : MethodId} {args : Array Value} {below : List Frame} {meth : Method} {c : Code} {D : xD} {ty : xTy} (C0 : xC D RX10 cX10_awaitArguments 5 none p s m args meth c) {h9 : xH} : ∀ n : Nat, ∀ (v0 : Nat) (v2 : Int32) (v3 : Int32) (v4 : Int32) (h : xH), ty v0 = some (0, 10) → jf_X10_awaitArguments_29 ty n v0 v2 v3 v4 h = some h9 → ∀ (H : Heap) (locs : List Loc), xRep D ty h H → xS ty s.heap H locs → ∀ ls : Array Slot, lv_has ls 5 [(0, .ref v0), (2, .int v2), (3, .int v3), (4, .int v4)] → W p l e jr_X10_awaitArguments s m args below meth c H locs 0 0 (MQ below (xQ D ty none h9) args s 0 0 (xdom ty)) (F0 m 29 ls []) := by
  have hx := C0.1
  have hb := C0.2.1
  have hown := C0.2.2.2.2.2.1
  have hts := C0.2.2.2.2.2.2.1
  intro n
  induction n with
  | zero =>
    intro v0 v2 v3 v4 h t_v0 hF H locs hR hS ls hl
    cases hF
  | succ n ih =>
    intro v0 v2 v3 v4 h t_v0 hF H locs hR hS ls hl
    rw [jf_X10_awaitArguments_29_s] at hF
    refine lv_iload hx hb dX10_awaitArguments_29 (lv_at hl 3 rfl) ?_
    refine lv_aload_n hx hb dX10_awaitArguments_31 rfl (lv_at hl 0 rfl) ?_
    refine gf_X10_59 C0 hR t_v0 dX10_awaitArguments_32 ?_
    refine lv_icmp_lt (tgt := 67) hx hb dX10_awaitArguments_35 (by decide) (fun c1 => ?_) (fun c1 => ?_)
    · have hF := xif hF c1
      refine lv_aload_n hx hb dX10_awaitArguments_67 rfl (lv_at hl 0 rfl) ?_
      refine lv_iload_n hx hb dX10_awaitArguments_68 rfl (lv_at hl 2 rfl) ?_
      obtain ⟨h2, e_h2, hF⟩ := xbd hF
      refine pf_X10_59 C0 hR hS t_v0 dX10_awaitArguments_69 (fun H locs hR hS => ?_)
      rw [Option.some.inj e_h2] at hR
      cases hF
      exact x_vret C0 hR hS dX10_awaitArguments_72
    · have hF := xel hF c1
      refine lv_aload_n hx hb dX10_awaitArguments_38 rfl (lv_at hl 0 rfl) ?_
      refine lv_iload_n hx hb dX10_awaitArguments_39 rfl (lv_at hl 1 rfl) ?_
      obtain ⟨a3, e_a3, hF⟩ := xbd hF
      refine cl_X10_96 C0 hR hS e_a3 t_v0 ⟨(Nat.le_of_ble_eq_true rfl), (Nat.le_of_ble_eq_true rfl)⟩ hl.1 (Nat.le_of_ble_eq_true rfl) ⟨(Nat.le_of_ble_eq_true rfl), (Nat.le_of_ble_eq_true rfl)⟩ dX10_awaitArguments_40 (fun H locs hR hS => ?_)
      refine lv_if_eq (tgt := 67) hx hb dX10_awaitArguments_43 (by decide) (fun c4 => ?_) (fun c4 => ?_)
      · have hF := xif hF c4
        refine lv_aload_n hx hb dX10_awaitArguments_67 rfl (lv_at hl 0 rfl) ?_
        refine lv_iload_n hx hb dX10_awaitArguments_68 rfl (lv_at hl 2 rfl) ?_
        obtain ⟨h5, e_h5, hF⟩ := xbd hF
        refine pf_X10_59 C0 hR hS t_v0 dX10_awaitArguments_69 (fun H locs hR hS => ?_)
        rw [Option.some.inj e_h5] at hR
        cases hF
        exact x_vret C0 hR hS dX10_awaitArguments_72
      · have hF := xel hF c4
        refine lv_aload_n hx hb dX10_awaitArguments_46 rfl (lv_at hl 0 rfl) ?_
        obtain ⟨a6, e_a6, hF⟩ := xbd hF
        refine gf_X10_40 C0 hR t_v0 e_a6 dX10_awaitArguments_47 ?_
        refine lv_iload hx hb dX10_awaitArguments_50 (lv_at hl 3 rfl) ?_
        refine lv_iload_n hx hb dX10_awaitArguments_52 rfl (lv_at hl 1 rfl) ?_
        obtain ⟨h7, e_h7, hF⟩ := xbd hF
        refine x_iast C0 hR hS e_h7 dX10_awaitArguments_53 (fun H locs hR hS => ?_)
        refine lv_aload_n hx hb dX10_awaitArguments_54 rfl (lv_at hl 0 rfl) ?_
        obtain ⟨a8, e_a8, hF⟩ := xbd hF
        refine gf_X10_18 C0 hR t_v0 e_a8 dX10_awaitArguments_55 ?_
        refine lv_iload_n hx hb dX10_awaitArguments_58 rfl (lv_at hl 1 rfl) ?_
        obtain ⟨a9, e_a9, hF⟩ := xbd hF
        refine x_iald C0 hR e_a9 dX10_awaitArguments_59 ?_
        refine lv_istore_n (lv' := [(2, .int a9), (0, .ref v0), (3, .int v3), (4, .int v4)]) hx hb dX10_awaitArguments_60 rfl hl (by decide) rfl (fun ls hl => ?_)
        refine lv_iinc (v := v4 + (-1)) (lv' := [(4, .int (v4 + (-1))), (2, .int a9), (0, .ref v0), (3, .int v3)]) hx hb dX10_awaitArguments_61 hl (k := 3) rfl rfl (by decide) rfl (fun ls hl => ?_)
        refine lv_goto (tgt := 29) hx hb dX10_awaitArguments_64 (by decide) ?_
        exact ih _ _ _ _ _ t_v0 hF _ _ hR hS _ (lv_sub hl [2, 1, 3, 0] rfl)
set_option maxHeartbeats 4000000 in
set_option maxRecDepth 100000 in
theorem jc_X10_awaitArguments {l : Launch} {D : xD} {ty : xTy} {h : xH} {v0 : Nat} {v1 : Int32} {h9 : xH} (t_v0 : ty v0 = some (0, 10)) (hF : jf_X10_awaitArguments ty h v0 v1 = some h9) : Met l yX10_awaitArguments (xws yX10_awaitArguments cX10_awaitArguments 5 none) jr_X10_awaitArguments (xPc D ty h [.ref v0, .int v1]) (xQ D ty none h9) 0 0 (xdom ty) := by
  refine x_met (by decide) ?_
  intro p e s m below meth c C0 hR
  generalize hargs : ([.ref v0, .int v1] : List Value).toArray = args at C0 ⊢
  have hx := C0.1
  have hb := C0.2.1
  have hown := C0.2.2.2.2.2.1
  have hts := C0.2.2.2.2.2.2.1
  have hS : xS ty s.heap s.heap [] := xS.rf
  have hl := lv_entry ([.ref v0, .int v1]) (n := 5) (Nat.le_of_ble_eq_true rfl)
  rw [← hargs, lg_entry_eq]
  rw [hargs]
  generalize (lg_sl ([.ref v0, .int v1]) ++ List.replicate (5 - (lg_sl ([.ref v0, .int v1])).length) Slot.unset).toArray = ls at hl ⊢
  have hl : lv_has ls 5 [(0, .ref v0), (1, .int v1)] := hl
  unfold jf_X10_awaitArguments at hF
  refine lv_iload_n hx hb dX10_awaitArguments_0 rfl (lv_at hl 1 rfl) ?_
  refine lv_iconst (v := 1) hx hb dX10_awaitArguments_1 (by decide) ?_
  refine lv_iadd hx hb dX10_awaitArguments_2 ?_
  refine lv_istore_n (lv' := [(2, .int (v1 + 1)), (0, .ref v0), (1, .int v1)]) hx hb dX10_awaitArguments_3 rfl hl (by decide) rfl (fun ls hl => ?_)
  refine lv_aload_n hx hb dX10_awaitArguments_4 rfl (lv_at hl 1 rfl) ?_
  refine gf_X10_59 C0 hR t_v0 dX10_awaitArguments_5 ?_
  refine lv_aload_n hx hb dX10_awaitArguments_8 rfl (lv_at hl 1 rfl) ?_
  obtain ⟨a10, e_a10, hF⟩ := xbd hF
  refine gf_X10_15 C0 hR t_v0 e_a10 dX10_awaitArguments_9 ?_
  refine lv_iload_n hx hb dX10_awaitArguments_12 rfl (lv_at hl 2 rfl) ?_
  obtain ⟨a11, e_a11, hF⟩ := xbd hF
  refine x_iald C0 hR e_a11 dX10_awaitArguments_13 ?_
  refine lv_iadd hx hb dX10_awaitArguments_14 ?_
  refine lv_istore_n (lv' := [(3, .int ((xI h v0 13) + a11)), (2, .int (v1 + 1)), (0, .ref v0), (1, .int v1)]) hx hb dX10_awaitArguments_15 rfl hl (by decide) rfl (fun ls hl => ?_)
  refine lv_iload_n hx hb dX10_awaitArguments_16 rfl (lv_at hl 0 rfl) ?_
  refine lv_sipush (v := 181) hx hb dX10_awaitArguments_17 (by decide) ?_
  refine lv_icmp_le (tgt := 24) hx hb dX10_awaitArguments_20 (by decide) (fun c12 => ?_) (fun c12 => ?_)
  · have hF := xif hF c12
    refine lv_iload_n hx hb dX10_awaitArguments_24 rfl (lv_at hl 0 rfl) ?_
    refine lv_iconst (v := 1) hx hb dX10_awaitArguments_25 (by decide) ?_
    refine lv_isub hx hb dX10_awaitArguments_26 ?_
    refine lv_istore (lv' := [(4, .int (((xI h v0 13) + a11) - 1)), (3, .int ((xI h v0 13) + a11)), (2, .int (v1 + 1)), (0, .ref v0), (1, .int v1)]) hx hb dX10_awaitArguments_27 hl (by decide) rfl (fun ls hl => ?_)
    obtain ⟨_, hF⟩ := xlim_sp hF
    exact jw_X10_awaitArguments_29 C0 _ _ _ _ _ _ t_v0 hF _ _ hR hS _ (lv_sub hl [3, 2, 1, 0] rfl)
  · have hF := xel hF c12
    cases hF
    exact x_vret C0 hR hS dX10_awaitArguments_23
theorem xm_X10_awaitArguments : xMw yX10_awaitArguments cX10_awaitArguments 5 none 1 := ⟨xin 928 (by decide +kernel) rfl, xin 122 (by decide +kernel) rfl, by decide +kernel⟩
theorem xi_X10_awaitArguments : Cond.instanceMethod yX10_awaitArguments ∈ xT := xin 927 (by decide +kernel) rfl
theorem xe_X10_awaitArguments : Cond.selects yX10_awaitArguments.cls yX10_awaitArguments yX10_awaitArguments ∈ xT := xin 38 (by decide +kernel) rfl
theorem dX10_writeClass_0 : decode cX10_writeClass 0 = .ok (.aload_n 0, 1) := by decide +kernel
theorem dX10_writeClass_1 : decode cX10_writeClass 1 = .ok (.getfield 24, 3) := by decide +kernel
theorem dX10_writeClass_4 : decode cX10_writeClass 4 = .ok (.iload_n 1, 1) := by decide +kernel
theorem dX10_writeClass_5 : decode cX10_writeClass 5 = .ok (.iaload, 1) := by decide +kernel
theorem dX10_writeClass_6 : decode cX10_writeClass 6 = .ok (.istore_n 2, 1) := by decide +kernel
theorem dX10_writeClass_7 : decode cX10_writeClass 7 = .ok (.aload_n 0, 1) := by decide +kernel
theorem dX10_writeClass_8 : decode cX10_writeClass 8 = .ok (.iload_n 2, 1) := by decide +kernel
theorem dX10_writeClass_9 : decode cX10_writeClass 9 = .ok (.invokevirtual 96, 3) := by decide +kernel
theorem dX10_writeClass_12 : decode cX10_writeClass 12 = .ok (.ifCond .eq 29, 3) := by decide +kernel
theorem dX10_writeClass_15 : decode cX10_writeClass 15 = .ok (.aload_n 0, 1) := by decide +kernel
theorem dX10_writeClass_16 : decode cX10_writeClass 16 = .ok (.getfield 48, 3) := by decide +kernel
theorem dX10_writeClass_19 : decode cX10_writeClass 19 = .ok (.aload_n 0, 1) := by decide +kernel
theorem dX10_writeClass_20 : decode cX10_writeClass 20 = .ok (.getfield 11, 3) := by decide +kernel
theorem dX10_writeClass_23 : decode cX10_writeClass 23 = .ok (.iload_n 2, 1) := by decide +kernel
theorem dX10_writeClass_24 : decode cX10_writeClass 24 = .ok (.iaload, 1) := by decide +kernel
theorem dX10_writeClass_25 : decode cX10_writeClass 25 = .ok (.aload_n 0, 1) := by decide +kernel
theorem dX10_writeClass_26 : decode cX10_writeClass 26 = .ok (.getfield 15, 3) := by decide +kernel
theorem dX10_writeClass_29 : decode cX10_writeClass 29 = .ok (.iload_n 2, 1) := by decide +kernel
theorem dX10_writeClass_30 : decode cX10_writeClass 30 = .ok (.iaload, 1) := by decide +kernel
theorem dX10_writeClass_31 : decode cX10_writeClass 31 = .ok (.invokevirtual 117, 3) := by decide +kernel
theorem dX10_writeClass_34 : decode cX10_writeClass 34 = .ok (.pop, 1) := by decide +kernel
theorem dX10_writeClass_35 : decode cX10_writeClass 35 = .ok (.aload_n 0, 1) := by decide +kernel
theorem dX10_writeClass_36 : decode cX10_writeClass 36 = .ok (.iload_n 2, 1) := by decide +kernel
theorem dX10_writeClass_37 : decode cX10_writeClass 37 = .ok (.invokevirtual 120, 3) := by decide +kernel
theorem dX10_writeClass_40 : decode cX10_writeClass 40 = .ok (.return_, 1) := by decide +kernel
theorem dX10_writeClass_41 : decode cX10_writeClass 41 = .ok (.aload_n 0, 1) := by decide +kernel
theorem dX10_writeClass_42 : decode cX10_writeClass 42 = .ok (.getfield 27, 3) := by decide +kernel
theorem dX10_writeClass_45 : decode cX10_writeClass 45 = .ok (.iload_n 1, 1) := by decide +kernel
theorem dX10_writeClass_46 : decode cX10_writeClass 46 = .ok (.iaload, 1) := by decide +kernel
theorem dX10_writeClass_47 : decode cX10_writeClass 47 = .ok (.iconst (-1), 1) := by decide +kernel
theorem dX10_writeClass_48 : decode cX10_writeClass 48 = .ok (.if_icmp .ne 26, 3) := by decide +kernel
theorem dX10_writeClass_51 : decode cX10_writeClass 51 = .ok (.aload_n 0, 1) := by decide +kernel
theorem dX10_writeClass_52 : decode cX10_writeClass 52 = .ok (.getfield 27, 3) := by decide +kernel
theorem dX10_writeClass_55 : decode cX10_writeClass 55 = .ok (.iload_n 1, 1) := by decide +kernel
theorem dX10_writeClass_56 : decode cX10_writeClass 56 = .ok (.bipush 100, 2) := by decide +kernel
theorem dX10_writeClass_58 : decode cX10_writeClass 58 = .ok (.aload_n 0, 1) := by decide +kernel
theorem dX10_writeClass_59 : decode cX10_writeClass 59 = .ok (.getfield 62, 3) := by decide +kernel
theorem dX10_writeClass_62 : decode cX10_writeClass 62 = .ok (.iadd, 1) := by decide +kernel
theorem dX10_writeClass_63 : decode cX10_writeClass 63 = .ok (.iastore, 1) := by decide +kernel
theorem dX10_writeClass_64 : decode cX10_writeClass 64 = .ok (.aload_n 0, 1) := by decide +kernel
theorem dX10_writeClass_65 : decode cX10_writeClass 65 = .ok (.dup, 1) := by decide +kernel
theorem dX10_writeClass_66 : decode cX10_writeClass 66 = .ok (.getfield 62, 3) := by decide +kernel
theorem dX10_writeClass_69 : decode cX10_writeClass 69 = .ok (.iconst 1, 1) := by decide +kernel
theorem dX10_writeClass_70 : decode cX10_writeClass 70 = .ok (.iadd, 1) := by decide +kernel
theorem dX10_writeClass_71 : decode cX10_writeClass 71 = .ok (.putfield 62, 3) := by decide +kernel
theorem dX10_writeClass_74 : decode cX10_writeClass 74 = .ok (.aload_n 0, 1) := by decide +kernel
theorem dX10_writeClass_75 : decode cX10_writeClass 75 = .ok (.getfield 48, 3) := by decide +kernel
theorem dX10_writeClass_78 : decode cX10_writeClass 78 = .ok (.aload_n 0, 1) := by decide +kernel
theorem dX10_writeClass_79 : decode cX10_writeClass 79 = .ok (.getfield 27, 3) := by decide +kernel
theorem dX10_writeClass_82 : decode cX10_writeClass 82 = .ok (.iload_n 1, 1) := by decide +kernel
theorem dX10_writeClass_83 : decode cX10_writeClass 83 = .ok (.iaload, 1) := by decide +kernel
theorem dX10_writeClass_84 : decode cX10_writeClass 84 = .ok (.iconst 0, 1) := by decide +kernel
theorem dX10_writeClass_85 : decode cX10_writeClass 85 = .ok (.invokevirtual 117, 3) := by decide +kernel
theorem dX10_writeClass_88 : decode cX10_writeClass 88 = .ok (.pop, 1) := by decide +kernel
theorem dX10_writeClass_89 : decode cX10_writeClass 89 = .ok (.return_, 1) := by decide +kernel
theorem wl_X10_117 : Cond.methodLink RX10 117 yX7_add ∈ xT := xin 924 (by decide +kernel) rfl
theorem wl_X10_120 : Cond.methodLink RX10 120 yX10_awaitArguments ∈ xT := xin 925 (by decide +kernel) rfl
theorem wf_X10_27 : Cond.fieldLink RX10 27 "TermShelf$Unifier" "numbers" "[I" ∈ xT := xin 356 (by decide +kernel) rfl
theorem wf_X10_48 : Cond.fieldLink RX10 48 "TermShelf$Unifier" "shape" "LTermShelf$Term;" ∈ xT := xin 361 (by decide +kernel) rfl
theorem wf_X10_62 : Cond.fieldLink RX10 62 "TermShelf$Unifier" "numbered" "I" ∈ xT := xin 365 (by decide +kernel) rfl
section XN_X10_writeClass
variable {p : Program} {l : Launch} {e : Env} {R : Room} {s : State} {m : MethodId} {args : Array Value} {below : List Frame} {meth : Method} {c : Code} {H H0 : Heap} {locs : List Loc} {cells slots : Nat} {Q : State → Prop} {cc : ByteArray} {nL pc : Nat} {rt : Option FieldType} {ls : Array Slot} {rest : List Value} {D : xD} {ty : xTy} {h : xH}
theorem cl_X10_117 {v0 : Nat} {v1 : Int32} {v2 : Int32} {r : Int32} {h9 : xH} (C0 : xC D RX10 cc nL rt p s m args meth c) (hR : xRep D ty h H) (hS : xS ty H0 H locs) (hF : jf_X7_add ty h v0 v1 v2 = some (r, h9)) (t_v0 : ty v0 = some (0, 7)) (hrm : jr_X7_add.frames + 1 ≤ R.frames ∧ 8 + (3 + 11) + jr_X7_add.locals ≤ R.locals) (hsz : ls.size = nL) (hW : (rest.map fun v => v.category).sum ≤ 8) (hf : cells ≤ R.cells ∧ slots ≤ R.slots) (hdg : decode cc pc = .ok (.invokevirtual 117, 3)) (kk : ∀ (H1 : Heap) (locs1 : List Loc), xRep D ty h9 H1 → xS ty H0 H1 locs1 → W p l e R s m args below meth c H1 locs1 cells slots Q (F0 m (pc + 3) ls (.int r :: rest))) : W p l e R s m args below meth c H locs cells slots Q (F0 m pc ls (.int v2 :: .int v1 :: .ref v0 :: rest)) := x_callV C0 (jc_X7_add t_v0 hF) xm_X7_add xi_X7_add xe_X7_add wl_X10_117 ⟨rfl, rfl, hrm⟩ (ci := 7) rfl t_v0 hR hS (As := [.int v1, .int v2]) rfl hsz rfl hW hdg hf kk
theorem cl_X10_120 {v0 : Nat} {v1 : Int32} {h9 : xH} (C0 : xC D RX10 cc nL rt p s m args meth c) (hR : xRep D ty h H) (hS : xS ty H0 H locs) (hF : jf_X10_awaitArguments ty h v0 v1 = some h9) (t_v0 : ty v0 = some (0, 10)) (hrm : jr_X10_awaitArguments.frames + 1 ≤ R.frames ∧ 8 + (5 + 11) + jr_X10_awaitArguments.locals ≤ R.locals) (hsz : ls.size = nL) (hW : (rest.map fun v => v.category).sum ≤ 8) (hf : cells ≤ R.cells ∧ slots ≤ R.slots) (hdg : decode cc pc = .ok (.invokevirtual 120, 3)) (kk : ∀ (H1 : Heap) (locs1 : List Loc), xRep D ty h9 H1 → xS ty H0 H1 locs1 → W p l e R s m args below meth c H1 locs1 cells slots Q (F0 m (pc + 3) ls rest)) : W p l e R s m args below meth c H locs cells slots Q (F0 m pc ls (.int v1 :: .ref v0 :: rest)) := x_callV C0 (jc_X10_awaitArguments t_v0 hF) xm_X10_awaitArguments xi_X10_awaitArguments xe_X10_awaitArguments wl_X10_120 ⟨rfl, rfl, hrm⟩ (ci := 10) rfl t_v0 hR hS (As := [.int v1]) rfl hsz rfl hW hdg hf kk
theorem gf_X10_27 {a : Nat} (C0 : xC D RX10 cc nL rt p s m args meth c) (hR : xRep D ty h H) (ht : ty a = some (0, 10)) {v : Nat} (hv : xR h a 5 = some v) (hdg : decode cc pc = .ok (.getfield 27, 3)) (kk : W p l e R s m args below meth c H locs cells slots Q (F0 m (pc + 3) ls (.ref v :: rest))) : W p l e R s m args below meth c H locs cells slots Q (F0 m pc ls (.ref a :: rest)) := x_get C0 hR (ci := 10) (k := 5) (N := 15) (T := TX10) rfl iX10 (by decide) rfl wf_X10_27 (by show va_rf (xR h a 5) = _; rw [hv]; rfl) ht hdg kk
theorem gf_X10_48 {a : Nat} (C0 : xC D RX10 cc nL rt p s m args meth c) (hR : xRep D ty h H) (ht : ty a = some (0, 10)) {v : Nat} (hv : xR h a 10 = some v) (hdg : decode cc pc = .ok (.getfield 48, 3)) (kk : W p l e R s m args below meth c H locs cells slots Q (F0 m (pc + 3) ls (.ref v :: rest))) : W p l e R s m args below meth c H locs cells slots Q (F0 m pc ls (.ref a :: rest)) := x_get C0 hR (ci := 10) (k := 10) (N := 15) (T := TX10) rfl iX10 (by decide) rfl wf_X10_48 (by show va_rf (xR h a 10) = _; rw [hv]; rfl) ht hdg kk
theorem gf_X10_62 {a : Nat} (C0 : xC D RX10 cc nL rt p s m args meth c) (hR : xRep D ty h H) (ht : ty a = some (0, 10)) (hdg : decode cc pc = .ok (.getfield 62, 3)) (kk : W p l e R s m args below meth c H locs cells slots Q (F0 m (pc + 3) ls (.int (xI h a 14) :: rest))) : W p l e R s m args below meth c H locs cells slots Q (F0 m pc ls (.ref a :: rest)) := x_get C0 hR (ci := 10) (k := 14) (N := 15) (T := TX10) rfl iX10 (by decide) rfl wf_X10_62 rfl ht hdg kk
theorem pf_X10_62 {a : Nat} {v : Int32} (C0 : xC D RX10 cc nL rt p s m args meth c) (hR : xRep D ty h H) (hS : xS ty H0 H locs) (ht : ty a = some (0, 10)) (hdg : decode cc pc = .ok (.putfield 62, 3)) (kk : ∀ (H1 : Heap) (locs1 : List Loc), xRep D ty (xsI h a 14 v) H1 → xS ty H0 H1 locs1 → W p l e R s m args below meth c H1 locs1 cells slots Q (F0 m (pc + 3) ls rest)) : W p l e R s m args below meth c H locs cells slots Q (F0 m pc ls (.int v :: .ref a :: rest)) := x_puti C0 hR hS (ci := 10) (k := 14) (N := 15) (T := TX10) rfl iX10 tyX10_ok nmX10 (by decide) rfl rfl wf_X10_62 (Or.inl rfl) rfl rfl ht hdg kk
end XN_X10_writeClass
set_option maxHeartbeats 4000000 in
set_option maxRecDepth 100000 in
theorem jc_X10_writeClass {l : Launch} {D : xD} {ty : xTy} {h : xH} {v0 : Nat} {v1 : Int32} {h9 : xH} (t_v0 : ty v0 = some (0, 10)) (hF : jf_X10_writeClass ty h v0 v1 = some h9) : Met l yX10_writeClass (xws yX10_writeClass cX10_writeClass 3 none) jr_X10_writeClass (xPc D ty h [.ref v0, .int v1]) (xQ D ty none h9) 0 0 (xdom ty) := by
  refine x_met (by decide) ?_
  intro p e s m below meth c C0 hR
  generalize hargs : ([.ref v0, .int v1] : List Value).toArray = args at C0 ⊢
  have hx := C0.1
  have hb := C0.2.1
  have hown := C0.2.2.2.2.2.1
  have hts := C0.2.2.2.2.2.2.1
  have hS : xS ty s.heap s.heap [] := xS.rf
  have hl := lv_entry ([.ref v0, .int v1]) (n := 3) (Nat.le_of_ble_eq_true rfl)
  rw [← hargs, lg_entry_eq]
  rw [hargs]
  generalize (lg_sl ([.ref v0, .int v1]) ++ List.replicate (3 - (lg_sl ([.ref v0, .int v1])).length) Slot.unset).toArray = ls at hl ⊢
  have hl : lv_has ls 3 [(0, .ref v0), (1, .int v1)] := hl
  unfold jf_X10_writeClass at hF
  refine lv_aload_n hx hb dX10_writeClass_0 rfl (lv_at hl 0 rfl) ?_
  obtain ⟨a1, e_a1, hF⟩ := xbd hF
  refine gf_X10_24 C0 hR t_v0 e_a1 dX10_writeClass_1 ?_
  refine lv_iload_n hx hb dX10_writeClass_4 rfl (lv_at hl 1 rfl) ?_
  obtain ⟨a2, e_a2, hF⟩ := xbd hF
  refine x_iald C0 hR e_a2 dX10_writeClass_5 ?_
  refine lv_istore_n (lv' := [(2, .int a2), (0, .ref v0), (1, .int v1)]) hx hb dX10_writeClass_6 rfl hl (by decide) rfl (fun ls hl => ?_)
  refine lv_aload_n hx hb dX10_writeClass_7 rfl (lv_at hl 1 rfl) ?_
  refine lv_iload_n hx hb dX10_writeClass_8 rfl (lv_at hl 0 rfl) ?_
  obtain ⟨a3, e_a3, hF⟩ := xbd hF
  refine cl_X10_96 C0 hR hS e_a3 t_v0 ⟨(Nat.le_of_ble_eq_true rfl), (Nat.le_of_ble_eq_true rfl)⟩ hl.1 (Nat.le_of_ble_eq_true rfl) ⟨(Nat.le_of_ble_eq_true rfl), (Nat.le_of_ble_eq_true rfl)⟩ dX10_writeClass_9 (fun H locs hR hS => ?_)
  refine lv_if_eq (tgt := 41) hx hb dX10_writeClass_12 (by decide) (fun c4 => ?_) (fun c4 => ?_)
  · have hF := xif hF c4
    refine lv_aload_n hx hb dX10_writeClass_41 rfl (lv_at hl 1 rfl) ?_
    obtain ⟨a5, e_a5, hF⟩ := xbd hF
    refine gf_X10_27 C0 hR t_v0 e_a5 dX10_writeClass_42 ?_
    refine lv_iload_n hx hb dX10_writeClass_45 rfl (lv_at hl 2 rfl) ?_
    obtain ⟨a6, e_a6, hF⟩ := xbd hF
    refine x_iald C0 hR e_a6 dX10_writeClass_46 ?_
    refine lv_iconst (v := (-1)) hx hb dX10_writeClass_47 (by decide) ?_
    refine lv_icmp_ne (tgt := 74) hx hb dX10_writeClass_48 (by decide) (fun c7 => ?_) (fun c7 => ?_)
    · have hF := xel hF c7
      refine lv_aload_n hx hb dX10_writeClass_74 rfl (lv_at hl 1 rfl) ?_
      obtain ⟨a8, e_a8, hF⟩ := xbd hF
      obtain ⟨e_a8, t_a8⟩ := xgo_sp e_a8
      refine gf_X10_48 C0 hR t_v0 e_a8 dX10_writeClass_75 ?_
      refine lv_aload_n hx hb dX10_writeClass_78 rfl (lv_at hl 1 rfl) ?_
      obtain ⟨a9, e_a9, hF⟩ := xbd hF
      refine gf_X10_27 C0 hR t_v0 e_a9 dX10_writeClass_79 ?_
      refine lv_iload_n hx hb dX10_writeClass_82 rfl (lv_at hl 2 rfl) ?_
      obtain ⟨a10, e_a10, hF⟩ := xbd hF
      refine x_iald C0 hR e_a10 dX10_writeClass_83 ?_
      refine lv_iconst (v := 0) hx hb dX10_writeClass_84 (by decide) ?_
      obtain ⟨a12, h11, e_h11, hF⟩ := xbd2 hF
      refine cl_X10_117 C0 hR hS e_h11 t_a8 ⟨(Nat.le_of_ble_eq_true rfl), (Nat.le_of_ble_eq_true rfl)⟩ hl.1 (Nat.le_of_ble_eq_true rfl) ⟨(Nat.le_of_ble_eq_true rfl), (Nat.le_of_ble_eq_true rfl)⟩ dX10_writeClass_85 (fun H locs hR hS => ?_)
      refine lv_pop hx hb dX10_writeClass_88 rfl ?_
      cases hF
      exact x_vret C0 hR hS dX10_writeClass_89
    · have hF := xif hF c7
      refine lv_aload_n hx hb dX10_writeClass_51 rfl (lv_at hl 1 rfl) ?_
      obtain ⟨a13, e_a13, hF⟩ := xbd hF
      refine gf_X10_27 C0 hR t_v0 e_a13 dX10_writeClass_52 ?_
      refine lv_iload_n hx hb dX10_writeClass_55 rfl (lv_at hl 2 rfl) ?_
      refine lv_bipush (v := 100) hx hb dX10_writeClass_56 (by decide) ?_
      refine lv_aload_n hx hb dX10_writeClass_58 rfl (lv_at hl 1 rfl) ?_
      refine gf_X10_62 C0 hR t_v0 dX10_writeClass_59 ?_
      refine lv_iadd hx hb dX10_writeClass_62 ?_
      obtain ⟨h14, e_h14, hF⟩ := xbd hF
      refine x_iast C0 hR hS e_h14 dX10_writeClass_63 (fun H locs hR hS => ?_)
      refine lv_aload_n hx hb dX10_writeClass_64 rfl (lv_at hl 1 rfl) ?_
      refine lv_dup hx hb dX10_writeClass_65 rfl ?_
      refine gf_X10_62 C0 hR t_v0 dX10_writeClass_66 ?_
      refine lv_iconst (v := 1) hx hb dX10_writeClass_69 (by decide) ?_
      refine lv_iadd hx hb dX10_writeClass_70 ?_
      obtain ⟨h15, e_h15, hF⟩ := xbd hF
      refine pf_X10_62 C0 hR hS t_v0 dX10_writeClass_71 (fun H locs hR hS => ?_)
      rw [Option.some.inj e_h15] at hR
      refine lv_aload_n hx hb dX10_writeClass_74 rfl (lv_at hl 1 rfl) ?_
      obtain ⟨a16, e_a16, hF⟩ := xbd hF
      obtain ⟨e_a16, t_a16⟩ := xgo_sp e_a16
      refine gf_X10_48 C0 hR t_v0 e_a16 dX10_writeClass_75 ?_
      refine lv_aload_n hx hb dX10_writeClass_78 rfl (lv_at hl 1 rfl) ?_
      obtain ⟨a17, e_a17, hF⟩ := xbd hF
      refine gf_X10_27 C0 hR t_v0 e_a17 dX10_writeClass_79 ?_
      refine lv_iload_n hx hb dX10_writeClass_82 rfl (lv_at hl 2 rfl) ?_
      obtain ⟨a18, e_a18, hF⟩ := xbd hF
      refine x_iald C0 hR e_a18 dX10_writeClass_83 ?_
      refine lv_iconst (v := 0) hx hb dX10_writeClass_84 (by decide) ?_
      obtain ⟨a20, h19, e_h19, hF⟩ := xbd2 hF
      refine cl_X10_117 C0 hR hS e_h19 t_a16 ⟨(Nat.le_of_ble_eq_true rfl), (Nat.le_of_ble_eq_true rfl)⟩ hl.1 (Nat.le_of_ble_eq_true rfl) ⟨(Nat.le_of_ble_eq_true rfl), (Nat.le_of_ble_eq_true rfl)⟩ dX10_writeClass_85 (fun H locs hR hS => ?_)
      refine lv_pop hx hb dX10_writeClass_88 rfl ?_
      cases hF
      exact x_vret C0 hR hS dX10_writeClass_89
  · have hF := xel hF c4
    refine lv_aload_n hx hb dX10_writeClass_15 rfl (lv_at hl 1 rfl) ?_
    obtain ⟨a21, e_a21, hF⟩ := xbd hF
    obtain ⟨e_a21, t_a21⟩ := xgo_sp e_a21
    refine gf_X10_48 C0 hR t_v0 e_a21 dX10_writeClass_16 ?_
    refine lv_aload_n hx hb dX10_writeClass_19 rfl (lv_at hl 1 rfl) ?_
    obtain ⟨a22, e_a22, hF⟩ := xbd hF
    refine gf_X10_11 C0 hR t_v0 e_a22 dX10_writeClass_20 ?_
    refine lv_iload_n hx hb dX10_writeClass_23 rfl (lv_at hl 0 rfl) ?_
    obtain ⟨a23, e_a23, hF⟩ := xbd hF
    refine x_iald C0 hR e_a23 dX10_writeClass_24 ?_
    refine lv_aload_n hx hb dX10_writeClass_25 rfl (lv_at hl 1 rfl) ?_
    obtain ⟨a24, e_a24, hF⟩ := xbd hF
    refine gf_X10_15 C0 hR t_v0 e_a24 dX10_writeClass_26 ?_
    refine lv_iload_n hx hb dX10_writeClass_29 rfl (lv_at hl 0 rfl) ?_
    obtain ⟨a25, e_a25, hF⟩ := xbd hF
    refine x_iald C0 hR e_a25 dX10_writeClass_30 ?_
    obtain ⟨a27, h26, e_h26, hF⟩ := xbd2 hF
    refine cl_X10_117 C0 hR hS e_h26 t_a21 ⟨(Nat.le_of_ble_eq_true rfl), (Nat.le_of_ble_eq_true rfl)⟩ hl.1 (Nat.le_of_ble_eq_true rfl) ⟨(Nat.le_of_ble_eq_true rfl), (Nat.le_of_ble_eq_true rfl)⟩ dX10_writeClass_31 (fun H locs hR hS => ?_)
    refine lv_pop hx hb dX10_writeClass_34 rfl ?_
    refine lv_aload_n hx hb dX10_writeClass_35 rfl (lv_at hl 1 rfl) ?_
    refine lv_iload_n hx hb dX10_writeClass_36 rfl (lv_at hl 0 rfl) ?_
    obtain ⟨h28, e_h28, hF⟩ := xbd hF
    refine cl_X10_120 C0 hR hS e_h28 t_v0 ⟨(Nat.le_of_ble_eq_true rfl), (Nat.le_of_ble_eq_true rfl)⟩ hl.1 (Nat.le_of_ble_eq_true rfl) ⟨(Nat.le_of_ble_eq_true rfl), (Nat.le_of_ble_eq_true rfl)⟩ dX10_writeClass_37 (fun H locs hR hS => ?_)
    cases hF
    exact x_vret C0 hR hS dX10_writeClass_40
theorem xm_X10_writeClass : xMw yX10_writeClass cX10_writeClass 3 none 1 := ⟨xin 923 (by decide +kernel) rfl, xin 122 (by decide +kernel) rfl, by decide +kernel⟩
theorem xi_X10_writeClass : Cond.instanceMethod yX10_writeClass ∈ xT := xin 922 (by decide +kernel) rfl
theorem xe_X10_writeClass : Cond.selects yX10_writeClass.cls yX10_writeClass yX10_writeClass ∈ xT := xin 37 (by decide +kernel) rfl
theorem dX10_unifiedShape_0 : decode cX10_unifiedShape 0 = .ok (.aload_n 0, 1) := by decide +kernel
theorem dX10_unifiedShape_1 : decode cX10_unifiedShape 1 = .ok (.getfield 48, 3) := by decide +kernel
theorem dX10_unifiedShape_4 : decode cX10_unifiedShape 4 = .ok (.invokevirtual 111, 3) := by decide +kernel
theorem dX10_unifiedShape_7 : decode cX10_unifiedShape 7 = .ok (.aload_n 0, 1) := by decide +kernel
theorem dX10_unifiedShape_8 : decode cX10_unifiedShape 8 = .ok (.iconst 0, 1) := by decide +kernel
theorem dX10_unifiedShape_9 : decode cX10_unifiedShape 9 = .ok (.putfield 62, 3) := by decide +kernel
theorem dX10_unifiedShape_12 : decode cX10_unifiedShape 12 = .ok (.iconst 0, 1) := by decide +kernel
theorem dX10_unifiedShape_13 : decode cX10_unifiedShape 13 = .ok (.istore_n 1, 1) := by decide +kernel
theorem dX10_unifiedShape_14 : decode cX10_unifiedShape 14 = .ok (.iload_n 1, 1) := by decide +kernel
theorem dX10_unifiedShape_15 : decode cX10_unifiedShape 15 = .ok (.aload_n 0, 1) := by decide +kernel
theorem dX10_unifiedShape_16 : decode cX10_unifiedShape 16 = .ok (.getfield 52, 3) := by decide +kernel
theorem dX10_unifiedShape_19 : decode cX10_unifiedShape 19 = .ok (.if_icmp .ge 16, 3) := by decide +kernel
theorem dX10_unifiedShape_22 : decode cX10_unifiedShape 22 = .ok (.aload_n 0, 1) := by decide +kernel
theorem dX10_unifiedShape_23 : decode cX10_unifiedShape 23 = .ok (.getfield 27, 3) := by decide +kernel
theorem dX10_unifiedShape_26 : decode cX10_unifiedShape 26 = .ok (.iload_n 1, 1) := by decide +kernel
theorem dX10_unifiedShape_27 : decode cX10_unifiedShape 27 = .ok (.iconst (-1), 1) := by decide +kernel
theorem dX10_unifiedShape_28 : decode cX10_unifiedShape 28 = .ok (.iastore, 1) := by decide +kernel
theorem dX10_unifiedShape_29 : decode cX10_unifiedShape 29 = .ok (.iinc 1 1, 3) := by decide +kernel
theorem dX10_unifiedShape_32 : decode cX10_unifiedShape 32 = .ok (.goto (-18), 3) := by decide +kernel
theorem dX10_unifiedShape_35 : decode cX10_unifiedShape 35 = .ok (.aload_n 0, 1) := by decide +kernel
theorem dX10_unifiedShape_36 : decode cX10_unifiedShape 36 = .ok (.getfield 40, 3) := by decide +kernel
theorem dX10_unifiedShape_39 : decode cX10_unifiedShape 39 = .ok (.iconst 0, 1) := by decide +kernel
theorem dX10_unifiedShape_40 : decode cX10_unifiedShape 40 = .ok (.iconst 0, 1) := by decide +kernel
theorem dX10_unifiedShape_41 : decode cX10_unifiedShape 41 = .ok (.iastore, 1) := by decide +kernel
theorem dX10_unifiedShape_42 : decode cX10_unifiedShape 42 = .ok (.aload_n 0, 1) := by decide +kernel
theorem dX10_unifiedShape_43 : decode cX10_unifiedShape 43 = .ok (.iconst 1, 1) := by decide +kernel
theorem dX10_unifiedShape_44 : decode cX10_unifiedShape 44 = .ok (.putfield 59, 3) := by decide +kernel
theorem dX10_unifiedShape_47 : decode cX10_unifiedShape 47 = .ok (.iconst 0, 1) := by decide +kernel
theorem dX10_unifiedShape_48 : decode cX10_unifiedShape 48 = .ok (.istore_n 1, 1) := by decide +kernel
theorem dX10_unifiedShape_49 : decode cX10_unifiedShape 49 = .ok (.iload_n 1, 1) := by decide +kernel
theorem dX10_unifiedShape_50 : decode cX10_unifiedShape 50 = .ok (.bipush 60, 2) := by decide +kernel
theorem dX10_unifiedShape_52 : decode cX10_unifiedShape 52 = .ok (.if_icmp .ge 43, 3) := by decide +kernel
theorem dX10_unifiedShape_55 : decode cX10_unifiedShape 55 = .ok (.aload_n 0, 1) := by decide +kernel
theorem dX10_unifiedShape_56 : decode cX10_unifiedShape 56 = .ok (.getfield 59, 3) := by decide +kernel
theorem dX10_unifiedShape_59 : decode cX10_unifiedShape 59 = .ok (.ifCond .le 36, 3) := by decide +kernel
theorem dX10_unifiedShape_62 : decode cX10_unifiedShape 62 = .ok (.aload_n 0, 1) := by decide +kernel
theorem dX10_unifiedShape_63 : decode cX10_unifiedShape 63 = .ok (.dup, 1) := by decide +kernel
theorem dX10_unifiedShape_64 : decode cX10_unifiedShape 64 = .ok (.getfield 59, 3) := by decide +kernel
theorem dX10_unifiedShape_67 : decode cX10_unifiedShape 67 = .ok (.iconst 1, 1) := by decide +kernel
theorem dX10_unifiedShape_68 : decode cX10_unifiedShape 68 = .ok (.isub, 1) := by decide +kernel
theorem dX10_unifiedShape_69 : decode cX10_unifiedShape 69 = .ok (.putfield 59, 3) := by decide +kernel
theorem dX10_unifiedShape_72 : decode cX10_unifiedShape 72 = .ok (.aload_n 0, 1) := by decide +kernel
theorem dX10_unifiedShape_73 : decode cX10_unifiedShape 73 = .ok (.aload_n 0, 1) := by decide +kernel
theorem dX10_unifiedShape_74 : decode cX10_unifiedShape 74 = .ok (.aload_n 0, 1) := by decide +kernel
theorem dX10_unifiedShape_75 : decode cX10_unifiedShape 75 = .ok (.getfield 40, 3) := by decide +kernel
theorem dX10_unifiedShape_78 : decode cX10_unifiedShape 78 = .ok (.aload_n 0, 1) := by decide +kernel
theorem dX10_unifiedShape_79 : decode cX10_unifiedShape 79 = .ok (.getfield 59, 3) := by decide +kernel
theorem dX10_unifiedShape_82 : decode cX10_unifiedShape 82 = .ok (.iaload, 1) := by decide +kernel
theorem dX10_unifiedShape_83 : decode cX10_unifiedShape 83 = .ok (.invokevirtual 89, 3) := by decide +kernel
theorem dX10_unifiedShape_86 : decode cX10_unifiedShape 86 = .ok (.invokevirtual 114, 3) := by decide +kernel
theorem dX10_unifiedShape_89 : decode cX10_unifiedShape 89 = .ok (.iinc 1 1, 3) := by decide +kernel
theorem dX10_unifiedShape_92 : decode cX10_unifiedShape 92 = .ok (.goto (-43), 3) := by decide +kernel
theorem dX10_unifiedShape_95 : decode cX10_unifiedShape 95 = .ok (.aload_n 0, 1) := by decide +kernel
theorem dX10_unifiedShape_96 : decode cX10_unifiedShape 96 = .ok (.getfield 59, 3) := by decide +kernel
theorem dX10_unifiedShape_99 : decode cX10_unifiedShape 99 = .ok (.ifCond .le 10, 3) := by decide +kernel
theorem dX10_unifiedShape_102 : decode cX10_unifiedShape 102 = .ok (.aload_n 0, 1) := by decide +kernel
theorem dX10_unifiedShape_103 : decode cX10_unifiedShape 103 = .ok (.getfield 48, 3) := by decide +kernel
theorem dX10_unifiedShape_106 : decode cX10_unifiedShape 106 = .ok (.invokevirtual 111, 3) := by decide +kernel
theorem dX10_unifiedShape_109 : decode cX10_unifiedShape 109 = .ok (.aload_n 0, 1) := by decide +kernel
theorem dX10_unifiedShape_110 : decode cX10_unifiedShape 110 = .ok (.getfield 48, 3) := by decide +kernel
theorem dX10_unifiedShape_113 : decode cX10_unifiedShape 113 = .ok (.areturn, 1) := by decide +kernel
theorem wl_X10_111 : Cond.methodLink RX10 111 yX7_clear ∈ xT := xin 919 (by decide +kernel) rfl
theorem wl_X10_114 : Cond.methodLink RX10 114 yX10_writeClass ∈ xT := xin 920 (by decide +kernel) rfl
section XN_X10_unifiedShape
variable {p : Program} {l : Launch} {e : Env} {R : Room} {s : State} {m : MethodId} {args : Array Value} {below : List Frame} {meth : Method} {c : Code} {H H0 : Heap} {locs : List Loc} {cells slots : Nat} {Q : State → Prop} {cc : ByteArray} {nL pc : Nat} {rt : Option FieldType} {ls : Array Slot} {rest : List Value} {D : xD} {ty : xTy} {h : xH}
theorem cl_X10_111 {v0 : Nat} {h9 : xH} (C0 : xC D RX10 cc nL rt p s m args meth c) (hR : xRep D ty h H) (hS : xS ty H0 H locs) (hF : jf_X7_clear ty h v0 = some h9) (t_v0 : ty v0 = some (0, 7)) (hrm : jr_X7_clear.frames + 1 ≤ R.frames ∧ 8 + (1 + 11) + jr_X7_clear.locals ≤ R.locals) (hsz : ls.size = nL) (hW : (rest.map fun v => v.category).sum ≤ 8) (hf : cells ≤ R.cells ∧ slots ≤ R.slots) (hdg : decode cc pc = .ok (.invokevirtual 111, 3)) (kk : ∀ (H1 : Heap) (locs1 : List Loc), xRep D ty h9 H1 → xS ty H0 H1 locs1 → W p l e R s m args below meth c H1 locs1 cells slots Q (F0 m (pc + 3) ls rest)) : W p l e R s m args below meth c H locs cells slots Q (F0 m pc ls (.ref v0 :: rest)) := x_callV C0 (jc_X7_clear t_v0 hF) xm_X7_clear xi_X7_clear xe_X7_clear wl_X10_111 ⟨rfl, rfl, hrm⟩ (ci := 7) rfl t_v0 hR hS (As := []) rfl hsz rfl hW hdg hf kk
theorem cl_X10_114 {v0 : Nat} {v1 : Int32} {h9 : xH} (C0 : xC D RX10 cc nL rt p s m args meth c) (hR : xRep D ty h H) (hS : xS ty H0 H locs) (hF : jf_X10_writeClass ty h v0 v1 = some h9) (t_v0 : ty v0 = some (0, 10)) (hrm : jr_X10_writeClass.frames + 1 ≤ R.frames ∧ 8 + (3 + 11) + jr_X10_writeClass.locals ≤ R.locals) (hsz : ls.size = nL) (hW : (rest.map fun v => v.category).sum ≤ 8) (hf : cells ≤ R.cells ∧ slots ≤ R.slots) (hdg : decode cc pc = .ok (.invokevirtual 114, 3)) (kk : ∀ (H1 : Heap) (locs1 : List Loc), xRep D ty h9 H1 → xS ty H0 H1 locs1 → W p l e R s m args below meth c H1 locs1 cells slots Q (F0 m (pc + 3) ls rest)) : W p l e R s m args below meth c H locs cells slots Q (F0 m pc ls (.int v1 :: .ref v0 :: rest)) := x_callV C0 (jc_X10_writeClass t_v0 hF) xm_X10_writeClass xi_X10_writeClass xe_X10_writeClass wl_X10_114 ⟨rfl, rfl, hrm⟩ (ci := 10) rfl t_v0 hR hS (As := [.int v1]) rfl hsz rfl hW hdg hf kk
end XN_X10_unifiedShape
set_option maxHeartbeats 4000000 in
set_option maxRecDepth 100000 in
theorem jw_X10_unifiedShape_49 {p : Program} {l : Launch} {e : Env} {s : State} {m : MethodId} {args : Array Value} {below : List Frame} {meth : Method} {c : Code} {D : xD} {ty : xTy} (C0 : xC D RX10 cX10_unifiedShape 2 (some (.object "TermShelf$Term")) p s m args meth c) {r : Nat} {h9 : xH} : ∀ n : Nat, ∀ (v0 : Nat) (v1 : Int32) (h : xH), ty v0 = some (0, 10) → jf_X10_unifiedShape_49 ty n v0 v1 h = some (r, h9) → ∀ (H : Heap) (locs : List Loc), xRep D ty h H → xS ty s.heap H locs → ∀ ls : Array Slot, lv_has ls 2 [(0, .ref v0), (1, .int v1)] → W p l e jr_X10_unifiedShape s m args below meth c H locs 0 0 (MQ below (xQ D ty (some (.ref r)) h9) args s 0 0 (xdom ty)) (F0 m 49 ls []) := by
  have hx := C0.1
  have hb := C0.2.1
  have hown := C0.2.2.2.2.2.1
  have hts := C0.2.2.2.2.2.2.1
  intro n
  induction n with
  | zero =>
    intro v0 v1 h t_v0 hF H locs hR hS ls hl
    cases hF
  | succ n ih =>
    intro v0 v1 h t_v0 hF H locs hR hS ls hl
    rw [jf_X10_unifiedShape_49_s] at hF
    refine lv_iload_n hx hb dX10_unifiedShape_49 rfl (lv_at hl 1 rfl) ?_
    refine lv_bipush (v := 60) hx hb dX10_unifiedShape_50 (by decide) ?_
    refine lv_icmp_ge (tgt := 95) hx hb dX10_unifiedShape_52 (by decide) (fun c1 => ?_) (fun c1 => ?_)
    · have hF := xif hF c1
      refine lv_aload_n hx hb dX10_unifiedShape_95 rfl (lv_at hl 0 rfl) ?_
      refine gf_X10_59 C0 hR t_v0 dX10_unifiedShape_96 ?_
      refine lv_if_le (tgt := 109) hx hb dX10_unifiedShape_99 (by decide) (fun c2 => ?_) (fun c2 => ?_)
      · have hF := xif hF c2
        refine lv_aload_n hx hb dX10_unifiedShape_109 rfl (lv_at hl 0 rfl) ?_
        obtain ⟨a3, e_a3, hF⟩ := xbd hF
        obtain ⟨e_a3, t_a3⟩ := xgo_sp e_a3
        refine gf_X10_48 C0 hR t_v0 e_a3 dX10_unifiedShape_110 ?_
        cases hF
        exact x_aret C0 hR hS dX10_unifiedShape_113
      · have hF := xel hF c2
        refine lv_aload_n hx hb dX10_unifiedShape_102 rfl (lv_at hl 0 rfl) ?_
        obtain ⟨a4, e_a4, hF⟩ := xbd hF
        obtain ⟨e_a4, t_a4⟩ := xgo_sp e_a4
        refine gf_X10_48 C0 hR t_v0 e_a4 dX10_unifiedShape_103 ?_
        obtain ⟨h5, e_h5, hF⟩ := xbd hF
        refine cl_X10_111 C0 hR hS e_h5 t_a4 ⟨(Nat.le_of_ble_eq_true rfl), (Nat.le_of_ble_eq_true rfl)⟩ hl.1 (Nat.le_of_ble_eq_true rfl) ⟨(Nat.le_of_ble_eq_true rfl), (Nat.le_of_ble_eq_true rfl)⟩ dX10_unifiedShape_106 (fun H locs hR hS => ?_)
        refine lv_aload_n hx hb dX10_unifiedShape_109 rfl (lv_at hl 0 rfl) ?_
        obtain ⟨a6, e_a6, hF⟩ := xbd hF
        obtain ⟨e_a6, t_a6⟩ := xgo_sp e_a6
        refine gf_X10_48 C0 hR t_v0 e_a6 dX10_unifiedShape_110 ?_
        cases hF
        exact x_aret C0 hR hS dX10_unifiedShape_113
    · have hF := xel hF c1
      refine lv_aload_n hx hb dX10_unifiedShape_55 rfl (lv_at hl 0 rfl) ?_
      refine gf_X10_59 C0 hR t_v0 dX10_unifiedShape_56 ?_
      refine lv_if_le (tgt := 95) hx hb dX10_unifiedShape_59 (by decide) (fun c7 => ?_) (fun c7 => ?_)
      · have hF := xif hF c7
        refine lv_aload_n hx hb dX10_unifiedShape_95 rfl (lv_at hl 0 rfl) ?_
        refine gf_X10_59 C0 hR t_v0 dX10_unifiedShape_96 ?_
        refine lv_if_le (tgt := 109) hx hb dX10_unifiedShape_99 (by decide) (fun c8 => ?_) (fun c8 => ?_)
        · have hF := xif hF c8
          refine lv_aload_n hx hb dX10_unifiedShape_109 rfl (lv_at hl 0 rfl) ?_
          obtain ⟨a9, e_a9, hF⟩ := xbd hF
          obtain ⟨e_a9, t_a9⟩ := xgo_sp e_a9
          refine gf_X10_48 C0 hR t_v0 e_a9 dX10_unifiedShape_110 ?_
          cases hF
          exact x_aret C0 hR hS dX10_unifiedShape_113
        · have hF := xel hF c8
          refine lv_aload_n hx hb dX10_unifiedShape_102 rfl (lv_at hl 0 rfl) ?_
          obtain ⟨a10, e_a10, hF⟩ := xbd hF
          obtain ⟨e_a10, t_a10⟩ := xgo_sp e_a10
          refine gf_X10_48 C0 hR t_v0 e_a10 dX10_unifiedShape_103 ?_
          obtain ⟨h11, e_h11, hF⟩ := xbd hF
          refine cl_X10_111 C0 hR hS e_h11 t_a10 ⟨(Nat.le_of_ble_eq_true rfl), (Nat.le_of_ble_eq_true rfl)⟩ hl.1 (Nat.le_of_ble_eq_true rfl) ⟨(Nat.le_of_ble_eq_true rfl), (Nat.le_of_ble_eq_true rfl)⟩ dX10_unifiedShape_106 (fun H locs hR hS => ?_)
          refine lv_aload_n hx hb dX10_unifiedShape_109 rfl (lv_at hl 0 rfl) ?_
          obtain ⟨a12, e_a12, hF⟩ := xbd hF
          obtain ⟨e_a12, t_a12⟩ := xgo_sp e_a12
          refine gf_X10_48 C0 hR t_v0 e_a12 dX10_unifiedShape_110 ?_
          cases hF
          exact x_aret C0 hR hS dX10_unifiedShape_113
      · have hF := xel hF c7
        refine lv_aload_n hx hb dX10_unifiedShape_62 rfl (lv_at hl 0 rfl) ?_
        refine lv_dup hx hb dX10_unifiedShape_63 rfl ?_
        refine gf_X10_59 C0 hR t_v0 dX10_unifiedShape_64 ?_
        refine lv_iconst (v := 1) hx hb dX10_unifiedShape_67 (by decide) ?_
        refine lv_isub hx hb dX10_unifiedShape_68 ?_
        obtain ⟨h13, e_h13, hF⟩ := xbd hF
        refine pf_X10_59 C0 hR hS t_v0 dX10_unifiedShape_69 (fun H locs hR hS => ?_)
        rw [Option.some.inj e_h13] at hR
        refine lv_aload_n hx hb dX10_unifiedShape_72 rfl (lv_at hl 0 rfl) ?_
        refine lv_aload_n hx hb dX10_unifiedShape_73 rfl (lv_at hl 0 rfl) ?_
        refine lv_aload_n hx hb dX10_unifiedShape_74 rfl (lv_at hl 0 rfl) ?_
        obtain ⟨a14, e_a14, hF⟩ := xbd hF
        refine gf_X10_40 C0 hR t_v0 e_a14 dX10_unifiedShape_75 ?_
        refine lv_aload_n hx hb dX10_unifiedShape_78 rfl (lv_at hl 0 rfl) ?_
        refine gf_X10_59 C0 hR t_v0 dX10_unifiedShape_79 ?_
        obtain ⟨a15, e_a15, hF⟩ := xbd hF
        refine x_iald C0 hR e_a15 dX10_unifiedShape_82 ?_
        obtain ⟨a16, e_a16, hF⟩ := xbd hF
        refine cl_X10_89 C0 hR hS e_a16 t_v0 ⟨(Nat.le_of_ble_eq_true rfl), (Nat.le_of_ble_eq_true rfl)⟩ hl.1 (Nat.le_of_ble_eq_true rfl) ⟨(Nat.le_of_ble_eq_true rfl), (Nat.le_of_ble_eq_true rfl)⟩ dX10_unifiedShape_83 (fun H locs hR hS => ?_)
        obtain ⟨h17, e_h17, hF⟩ := xbd hF
        refine cl_X10_114 C0 hR hS e_h17 t_v0 ⟨(Nat.le_of_ble_eq_true rfl), (Nat.le_of_ble_eq_true rfl)⟩ hl.1 (Nat.le_of_ble_eq_true rfl) ⟨(Nat.le_of_ble_eq_true rfl), (Nat.le_of_ble_eq_true rfl)⟩ dX10_unifiedShape_86 (fun H locs hR hS => ?_)
        refine lv_iinc (v := v1 + 1) (lv' := [(1, .int (v1 + 1)), (0, .ref v0)]) hx hb dX10_unifiedShape_89 hl (k := 1) rfl rfl (by decide) rfl (fun ls hl => ?_)
        refine lv_goto (tgt := 49) hx hb dX10_unifiedShape_92 (by decide) ?_
        exact ih _ _ _ t_v0 hF _ _ hR hS _ (lv_sub hl [1, 0] rfl)
set_option maxHeartbeats 4000000 in
set_option maxRecDepth 100000 in
theorem jw_X10_unifiedShape_14 {p : Program} {l : Launch} {e : Env} {s : State} {m : MethodId} {args : Array Value} {below : List Frame} {meth : Method} {c : Code} {D : xD} {ty : xTy} (C0 : xC D RX10 cX10_unifiedShape 2 (some (.object "TermShelf$Term")) p s m args meth c) {r : Nat} {h9 : xH} : ∀ n : Nat, ∀ (v0 : Nat) (v1 : Int32) (h : xH), ty v0 = some (0, 10) → jf_X10_unifiedShape_14 ty n v0 v1 h = some (r, h9) → ∀ (H : Heap) (locs : List Loc), xRep D ty h H → xS ty s.heap H locs → ∀ ls : Array Slot, lv_has ls 2 [(0, .ref v0), (1, .int v1)] → W p l e jr_X10_unifiedShape s m args below meth c H locs 0 0 (MQ below (xQ D ty (some (.ref r)) h9) args s 0 0 (xdom ty)) (F0 m 14 ls []) := by
  have hx := C0.1
  have hb := C0.2.1
  have hown := C0.2.2.2.2.2.1
  have hts := C0.2.2.2.2.2.2.1
  intro n
  induction n with
  | zero =>
    intro v0 v1 h t_v0 hF H locs hR hS ls hl
    cases hF
  | succ n ih =>
    intro v0 v1 h t_v0 hF H locs hR hS ls hl
    rw [jf_X10_unifiedShape_14_s] at hF
    refine lv_iload_n hx hb dX10_unifiedShape_14 rfl (lv_at hl 1 rfl) ?_
    refine lv_aload_n hx hb dX10_unifiedShape_15 rfl (lv_at hl 0 rfl) ?_
    refine gf_X10_52 C0 hR t_v0 dX10_unifiedShape_16 ?_
    refine lv_icmp_ge (tgt := 35) hx hb dX10_unifiedShape_19 (by decide) (fun c18 => ?_) (fun c18 => ?_)
    · have hF := xif hF c18
      refine lv_aload_n hx hb dX10_unifiedShape_35 rfl (lv_at hl 0 rfl) ?_
      obtain ⟨a19, e_a19, hF⟩ := xbd hF
      refine gf_X10_40 C0 hR t_v0 e_a19 dX10_unifiedShape_36 ?_
      refine lv_iconst (v := 0) hx hb dX10_unifiedShape_39 (by decide) ?_
      refine lv_iconst (v := 0) hx hb dX10_unifiedShape_40 (by decide) ?_
      obtain ⟨h20, e_h20, hF⟩ := xbd hF
      refine x_iast C0 hR hS e_h20 dX10_unifiedShape_41 (fun H locs hR hS => ?_)
      refine lv_aload_n hx hb dX10_unifiedShape_42 rfl (lv_at hl 0 rfl) ?_
      refine lv_iconst (v := 1) hx hb dX10_unifiedShape_43 (by decide) ?_
      obtain ⟨h21, e_h21, hF⟩ := xbd hF
      refine pf_X10_59 C0 hR hS t_v0 dX10_unifiedShape_44 (fun H locs hR hS => ?_)
      rw [Option.some.inj e_h21] at hR
      refine lv_iconst (v := 0) hx hb dX10_unifiedShape_47 (by decide) ?_
      refine lv_istore_n (lv' := [(1, .int 0), (0, .ref v0)]) hx hb dX10_unifiedShape_48 rfl hl (by decide) rfl (fun ls hl => ?_)
      obtain ⟨_, hF⟩ := xlim_sp hF
      exact jw_X10_unifiedShape_49 C0 _ _ _ _ t_v0 hF _ _ hR hS _ (lv_sub hl [1, 0] rfl)
    · have hF := xel hF c18
      refine lv_aload_n hx hb dX10_unifiedShape_22 rfl (lv_at hl 0 rfl) ?_
      obtain ⟨a22, e_a22, hF⟩ := xbd hF
      refine gf_X10_27 C0 hR t_v0 e_a22 dX10_unifiedShape_23 ?_
      refine lv_iload_n hx hb dX10_unifiedShape_26 rfl (lv_at hl 1 rfl) ?_
      refine lv_iconst (v := (-1)) hx hb dX10_unifiedShape_27 (by decide) ?_
      obtain ⟨h23, e_h23, hF⟩ := xbd hF
      refine x_iast C0 hR hS e_h23 dX10_unifiedShape_28 (fun H locs hR hS => ?_)
      refine lv_iinc (v := v1 + 1) (lv' := [(1, .int (v1 + 1)), (0, .ref v0)]) hx hb dX10_unifiedShape_29 hl (k := 1) rfl rfl (by decide) rfl (fun ls hl => ?_)
      refine lv_goto (tgt := 14) hx hb dX10_unifiedShape_32 (by decide) ?_
      exact ih _ _ _ t_v0 hF _ _ hR hS _ (lv_sub hl [1, 0] rfl)
set_option maxHeartbeats 4000000 in
set_option maxRecDepth 100000 in
theorem jc_X10_unifiedShape {l : Launch} {D : xD} {ty : xTy} {h : xH} {v0 : Nat} {r : Nat} {h9 : xH} (t_v0 : ty v0 = some (0, 10)) (hF : jf_X10_unifiedShape ty h v0 = some (r, h9)) : Met l yX10_unifiedShape (xws yX10_unifiedShape cX10_unifiedShape 2 (some (.object "TermShelf$Term"))) jr_X10_unifiedShape (xPc D ty h [.ref v0]) (xQ D ty (some (.ref r)) h9) 0 0 (xdom ty) := by
  refine x_met (by decide) ?_
  intro p e s m below meth c C0 hR
  generalize hargs : ([.ref v0] : List Value).toArray = args at C0 ⊢
  have hx := C0.1
  have hb := C0.2.1
  have hown := C0.2.2.2.2.2.1
  have hts := C0.2.2.2.2.2.2.1
  have hS : xS ty s.heap s.heap [] := xS.rf
  have hl := lv_entry ([.ref v0]) (n := 2) (Nat.le_of_ble_eq_true rfl)
  rw [← hargs, lg_entry_eq]
  rw [hargs]
  generalize (lg_sl ([.ref v0]) ++ List.replicate (2 - (lg_sl ([.ref v0])).length) Slot.unset).toArray = ls at hl ⊢
  have hl : lv_has ls 2 [(0, .ref v0)] := hl
  unfold jf_X10_unifiedShape at hF
  refine lv_aload_n hx hb dX10_unifiedShape_0 rfl (lv_at hl 0 rfl) ?_
  obtain ⟨a24, e_a24, hF⟩ := xbd hF
  obtain ⟨e_a24, t_a24⟩ := xgo_sp e_a24
  refine gf_X10_48 C0 hR t_v0 e_a24 dX10_unifiedShape_1 ?_
  obtain ⟨h25, e_h25, hF⟩ := xbd hF
  refine cl_X10_111 C0 hR hS e_h25 t_a24 ⟨(Nat.le_of_ble_eq_true rfl), (Nat.le_of_ble_eq_true rfl)⟩ hl.1 (Nat.le_of_ble_eq_true rfl) ⟨(Nat.le_of_ble_eq_true rfl), (Nat.le_of_ble_eq_true rfl)⟩ dX10_unifiedShape_4 (fun H locs hR hS => ?_)
  refine lv_aload_n hx hb dX10_unifiedShape_7 rfl (lv_at hl 0 rfl) ?_
  refine lv_iconst (v := 0) hx hb dX10_unifiedShape_8 (by decide) ?_
  obtain ⟨h26, e_h26, hF⟩ := xbd hF
  refine pf_X10_62 C0 hR hS t_v0 dX10_unifiedShape_9 (fun H locs hR hS => ?_)
  rw [Option.some.inj e_h26] at hR
  refine lv_iconst (v := 0) hx hb dX10_unifiedShape_12 (by decide) ?_
  refine lv_istore_n (lv' := [(1, .int 0), (0, .ref v0)]) hx hb dX10_unifiedShape_13 rfl hl (by decide) rfl (fun ls hl => ?_)
  obtain ⟨_, hF⟩ := xlim_sp hF
  exact jw_X10_unifiedShape_14 C0 _ _ _ _ t_v0 hF _ _ hR hS _ (lv_sub hl [1, 0] rfl)
theorem xm_X10_unifiedShape : xMw yX10_unifiedShape cX10_unifiedShape 2 (some (.object "TermShelf$Term")) 0 := ⟨xin 918 (by decide +kernel) rfl, xin 122 (by decide +kernel) rfl, by decide +kernel⟩
theorem xi_X10_unifiedShape : Cond.instanceMethod yX10_unifiedShape ∈ xT := xin 916 (by decide +kernel) rfl
theorem xe_X10_unifiedShape : Cond.selects yX10_unifiedShape.cls yX10_unifiedShape yX10_unifiedShape ∈ xT := xin 917 (by decide +kernel) rfl
theorem dX11_tapeNumber_0 : decode cX11_tapeNumber 0 = .ok (.bipush 24, 2) := by decide +kernel
theorem dX11_tapeNumber_2 : decode cX11_tapeNumber 2 = .ok (.istore_n 2, 1) := by decide +kernel
theorem dX11_tapeNumber_3 : decode cX11_tapeNumber 3 = .ok (.iload_n 2, 1) := by decide +kernel
theorem dX11_tapeNumber_4 : decode cX11_tapeNumber 4 = .ok (.ifCond .lt 52, 3) := by decide +kernel
theorem dX11_tapeNumber_7 : decode cX11_tapeNumber 7 = .ok (.aload_n 0, 1) := by decide +kernel
theorem dX11_tapeNumber_8 : decode cX11_tapeNumber 8 = .ok (.getfield 13, 3) := by decide +kernel
theorem dX11_tapeNumber_11 : decode cX11_tapeNumber 11 = .ok (.ifCond .lt 39, 3) := by decide +kernel
theorem dX11_tapeNumber_14 : decode cX11_tapeNumber 14 = .ok (.aload_n 0, 1) := by decide +kernel
theorem dX11_tapeNumber_15 : decode cX11_tapeNumber 15 = .ok (.getfield 13, 3) := by decide +kernel
theorem dX11_tapeNumber_18 : decode cX11_tapeNumber 18 = .ok (.sipush 700, 3) := by decide +kernel
theorem dX11_tapeNumber_21 : decode cX11_tapeNumber 21 = .ok (.if_icmp .ge 29, 3) := by decide +kernel
theorem dX11_tapeNumber_24 : decode cX11_tapeNumber 24 = .ok (.aload_n 0, 1) := by decide +kernel
theorem dX11_tapeNumber_25 : decode cX11_tapeNumber 25 = .ok (.getfield 9, 3) := by decide +kernel
theorem dX11_tapeNumber_28 : decode cX11_tapeNumber 28 = .ok (.aload_n 0, 1) := by decide +kernel
theorem dX11_tapeNumber_29 : decode cX11_tapeNumber 29 = .ok (.getfield 13, 3) := by decide +kernel
theorem dX11_tapeNumber_32 : decode cX11_tapeNumber 32 = .ok (.iload_n 1, 1) := by decide +kernel
theorem dX11_tapeNumber_33 : decode cX11_tapeNumber 33 = .ok (.iload_n 2, 1) := by decide +kernel
theorem dX11_tapeNumber_34 : decode cX11_tapeNumber 34 = .ok (.iushr, 1) := by decide +kernel
theorem dX11_tapeNumber_35 : decode cX11_tapeNumber 35 = .ok (.sipush 255, 3) := by decide +kernel
theorem dX11_tapeNumber_38 : decode cX11_tapeNumber 38 = .ok (.iand, 1) := by decide +kernel
theorem dX11_tapeNumber_39 : decode cX11_tapeNumber 39 = .ok (.iastore, 1) := by decide +kernel
theorem dX11_tapeNumber_40 : decode cX11_tapeNumber 40 = .ok (.aload_n 0, 1) := by decide +kernel
theorem dX11_tapeNumber_41 : decode cX11_tapeNumber 41 = .ok (.dup, 1) := by decide +kernel
theorem dX11_tapeNumber_42 : decode cX11_tapeNumber 42 = .ok (.getfield 13, 3) := by decide +kernel
theorem dX11_tapeNumber_45 : decode cX11_tapeNumber 45 = .ok (.iconst 1, 1) := by decide +kernel
theorem dX11_tapeNumber_46 : decode cX11_tapeNumber 46 = .ok (.iadd, 1) := by decide +kernel
theorem dX11_tapeNumber_47 : decode cX11_tapeNumber 47 = .ok (.putfield 13, 3) := by decide +kernel
theorem dX11_tapeNumber_50 : decode cX11_tapeNumber 50 = .ok (.iinc 2 (-8), 3) := by decide +kernel
theorem dX11_tapeNumber_53 : decode cX11_tapeNumber 53 = .ok (.goto (-50), 3) := by decide +kernel
theorem dX11_tapeNumber_56 : decode cX11_tapeNumber 56 = .ok (.return_, 1) := by decide +kernel
theorem wf_X11_13 : Cond.fieldLink RX11 13 "TermShelf" "taped" "I" ∈ xT := xin 459 (by decide +kernel) rfl
theorem wf_X11_9 : Cond.fieldLink RX11 9 "TermShelf" "tape" "[I" ∈ xT := xin 458 (by decide +kernel) rfl
section XN_X11_tapeNumber
variable {p : Program} {l : Launch} {e : Env} {R : Room} {s : State} {m : MethodId} {args : Array Value} {below : List Frame} {meth : Method} {c : Code} {H H0 : Heap} {locs : List Loc} {cells slots : Nat} {Q : State → Prop} {cc : ByteArray} {nL pc : Nat} {rt : Option FieldType} {ls : Array Slot} {rest : List Value} {D : xD} {ty : xTy} {h : xH}
theorem gf_X11_13 {a : Nat} (C0 : xC D RX11 cc nL rt p s m args meth c) (hR : xRep D ty h H) (ht : ty a = some (0, 11)) (hdg : decode cc pc = .ok (.getfield 13, 3)) (kk : W p l e R s m args below meth c H locs cells slots Q (F0 m (pc + 3) ls (.int (xI h a 1) :: rest))) : W p l e R s m args below meth c H locs cells slots Q (F0 m pc ls (.ref a :: rest)) := x_get C0 hR (ci := 11) (k := 1) (N := 16) (T := TX11) rfl iX11 (by decide) rfl wf_X11_13 rfl ht hdg kk
theorem gf_X11_9 {a : Nat} (C0 : xC D RX11 cc nL rt p s m args meth c) (hR : xRep D ty h H) (ht : ty a = some (0, 11)) {v : Nat} (hv : xR h a 0 = some v) (hdg : decode cc pc = .ok (.getfield 9, 3)) (kk : W p l e R s m args below meth c H locs cells slots Q (F0 m (pc + 3) ls (.ref v :: rest))) : W p l e R s m args below meth c H locs cells slots Q (F0 m pc ls (.ref a :: rest)) := x_get C0 hR (ci := 11) (k := 0) (N := 16) (T := TX11) rfl iX11 (by decide) rfl wf_X11_9 (by show va_rf (xR h a 0) = _; rw [hv]; rfl) ht hdg kk
theorem pf_X11_13 {a : Nat} {v : Int32} (C0 : xC D RX11 cc nL rt p s m args meth c) (hR : xRep D ty h H) (hS : xS ty H0 H locs) (ht : ty a = some (0, 11)) (hdg : decode cc pc = .ok (.putfield 13, 3)) (kk : ∀ (H1 : Heap) (locs1 : List Loc), xRep D ty (xsI h a 1 v) H1 → xS ty H0 H1 locs1 → W p l e R s m args below meth c H1 locs1 cells slots Q (F0 m (pc + 3) ls rest)) : W p l e R s m args below meth c H locs cells slots Q (F0 m pc ls (.int v :: .ref a :: rest)) := x_puti C0 hR hS (ci := 11) (k := 1) (N := 16) (T := TX11) rfl iX11 tyX11_ok nmX11 (by decide) rfl rfl wf_X11_13 (Or.inl rfl) rfl rfl ht hdg kk
end XN_X11_tapeNumber
set_option maxHeartbeats 4000000 in
set_option maxRecDepth 100000 in
theorem jw_X11_tapeNumber_3 {p : Program} {l : Launch} {e : Env} {s : State} {m : MethodId} {args : Array Value} {below : List Frame} {meth : Method} {c : Code} {D : xD} {ty : xTy} (C0 : xC D RX11 cX11_tapeNumber 3 none p s m args meth c) {h9 : xH} : ∀ n : Nat, ∀ (v0 : Nat) (v1 : Int32) (v2 : Int32) (h : xH), ty v0 = some (0, 11) → jf_X11_tapeNumber_3 ty n v0 v1 v2 h = some h9 → ∀ (H : Heap) (locs : List Loc), xRep D ty h H → xS ty s.heap H locs → ∀ ls : Array Slot, lv_has ls 3 [(0, .ref v0), (1, .int v1), (2, .int v2)] → W p l e jr_X11_tapeNumber s m args below meth c H locs 0 0 (MQ below (xQ D ty none h9) args s 0 0 (xdom ty)) (F0 m 3 ls []) := by
  have hx := C0.1
  have hb := C0.2.1
  have hown := C0.2.2.2.2.2.1
  have hts := C0.2.2.2.2.2.2.1
  intro n
  induction n with
  | zero =>
    intro v0 v1 v2 h t_v0 hF H locs hR hS ls hl
    cases hF
  | succ n ih =>
    intro v0 v1 v2 h t_v0 hF H locs hR hS ls hl
    rw [jf_X11_tapeNumber_3_s] at hF
    refine lv_iload_n hx hb dX11_tapeNumber_3 rfl (lv_at hl 2 rfl) ?_
    refine lv_if_lt (tgt := 56) hx hb dX11_tapeNumber_4 (by decide) (fun c1 => ?_) (fun c1 => ?_)
    · have hF := xif hF c1
      cases hF
      exact x_vret C0 hR hS dX11_tapeNumber_56
    · have hF := xel hF c1
      refine lv_aload_n hx hb dX11_tapeNumber_7 rfl (lv_at hl 0 rfl) ?_
      refine gf_X11_13 C0 hR t_v0 dX11_tapeNumber_8 ?_
      refine lv_if_lt (tgt := 50) hx hb dX11_tapeNumber_11 (by decide) (fun c2 => ?_) (fun c2 => ?_)
      · have hF := xif hF c2
        refine lv_iinc (v := v2 + (-8)) (lv' := [(2, .int (v2 + (-8))), (0, .ref v0), (1, .int v1)]) hx hb dX11_tapeNumber_50 hl (k := 2) rfl rfl (by decide) rfl (fun ls hl => ?_)
        refine lv_goto (tgt := 3) hx hb dX11_tapeNumber_53 (by decide) ?_
        exact ih _ _ _ _ t_v0 hF _ _ hR hS _ (lv_sub hl [1, 2, 0] rfl)
      · have hF := xel hF c2
        refine lv_aload_n hx hb dX11_tapeNumber_14 rfl (lv_at hl 0 rfl) ?_
        refine gf_X11_13 C0 hR t_v0 dX11_tapeNumber_15 ?_
        refine lv_sipush (v := 700) hx hb dX11_tapeNumber_18 (by decide) ?_
        refine lv_icmp_ge (tgt := 50) hx hb dX11_tapeNumber_21 (by decide) (fun c3 => ?_) (fun c3 => ?_)
        · have hF := xif hF c3
          refine lv_iinc (v := v2 + (-8)) (lv' := [(2, .int (v2 + (-8))), (0, .ref v0), (1, .int v1)]) hx hb dX11_tapeNumber_50 hl (k := 2) rfl rfl (by decide) rfl (fun ls hl => ?_)
          refine lv_goto (tgt := 3) hx hb dX11_tapeNumber_53 (by decide) ?_
          exact ih _ _ _ _ t_v0 hF _ _ hR hS _ (lv_sub hl [1, 2, 0] rfl)
        · have hF := xel hF c3
          refine lv_aload_n hx hb dX11_tapeNumber_24 rfl (lv_at hl 0 rfl) ?_
          obtain ⟨a4, e_a4, hF⟩ := xbd hF
          refine gf_X11_9 C0 hR t_v0 e_a4 dX11_tapeNumber_25 ?_
          refine lv_aload_n hx hb dX11_tapeNumber_28 rfl (lv_at hl 0 rfl) ?_
          refine gf_X11_13 C0 hR t_v0 dX11_tapeNumber_29 ?_
          refine lv_iload_n hx hb dX11_tapeNumber_32 rfl (lv_at hl 1 rfl) ?_
          refine lv_iload_n hx hb dX11_tapeNumber_33 rfl (lv_at hl 2 rfl) ?_
          refine lv_iushr (v := xush v1 v2) hx hb dX11_tapeNumber_34 rfl ?_
          refine lv_sipush (v := 255) hx hb dX11_tapeNumber_35 (by decide) ?_
          refine lv_iand hx hb dX11_tapeNumber_38 ?_
          obtain ⟨h5, e_h5, hF⟩ := xbd hF
          refine x_iast C0 hR hS e_h5 dX11_tapeNumber_39 (fun H locs hR hS => ?_)
          refine lv_aload_n hx hb dX11_tapeNumber_40 rfl (lv_at hl 0 rfl) ?_
          refine lv_dup hx hb dX11_tapeNumber_41 rfl ?_
          refine gf_X11_13 C0 hR t_v0 dX11_tapeNumber_42 ?_
          refine lv_iconst (v := 1) hx hb dX11_tapeNumber_45 (by decide) ?_
          refine lv_iadd hx hb dX11_tapeNumber_46 ?_
          obtain ⟨h6, e_h6, hF⟩ := xbd hF
          refine pf_X11_13 C0 hR hS t_v0 dX11_tapeNumber_47 (fun H locs hR hS => ?_)
          rw [Option.some.inj e_h6] at hR
          refine lv_iinc (v := v2 + (-8)) (lv' := [(2, .int (v2 + (-8))), (0, .ref v0), (1, .int v1)]) hx hb dX11_tapeNumber_50 hl (k := 2) rfl rfl (by decide) rfl (fun ls hl => ?_)
          refine lv_goto (tgt := 3) hx hb dX11_tapeNumber_53 (by decide) ?_
          exact ih _ _ _ _ t_v0 hF _ _ hR hS _ (lv_sub hl [1, 2, 0] rfl)
set_option maxHeartbeats 4000000 in
set_option maxRecDepth 100000 in
theorem jc_X11_tapeNumber {l : Launch} {D : xD} {ty : xTy} {h : xH} {v0 : Nat} {v1 : Int32} {h9 : xH} (t_v0 : ty v0 = some (0, 11)) (hF : jf_X11_tapeNumber ty h v0 v1 = some h9) : Met l yX11_tapeNumber (xws yX11_tapeNumber cX11_tapeNumber 3 none) jr_X11_tapeNumber (xPc D ty h [.ref v0, .int v1]) (xQ D ty none h9) 0 0 (xdom ty) := by
  refine x_met (by decide) ?_
  intro p e s m below meth c C0 hR
  generalize hargs : ([.ref v0, .int v1] : List Value).toArray = args at C0 ⊢
  have hx := C0.1
  have hb := C0.2.1
  have hown := C0.2.2.2.2.2.1
  have hts := C0.2.2.2.2.2.2.1
  have hS : xS ty s.heap s.heap [] := xS.rf
  have hl := lv_entry ([.ref v0, .int v1]) (n := 3) (Nat.le_of_ble_eq_true rfl)
  rw [← hargs, lg_entry_eq]
  rw [hargs]
  generalize (lg_sl ([.ref v0, .int v1]) ++ List.replicate (3 - (lg_sl ([.ref v0, .int v1])).length) Slot.unset).toArray = ls at hl ⊢
  have hl : lv_has ls 3 [(0, .ref v0), (1, .int v1)] := hl
  unfold jf_X11_tapeNumber at hF
  refine lv_bipush (v := 24) hx hb dX11_tapeNumber_0 (by decide) ?_
  refine lv_istore_n (lv' := [(2, .int 24), (0, .ref v0), (1, .int v1)]) hx hb dX11_tapeNumber_2 rfl hl (by decide) rfl (fun ls hl => ?_)
  obtain ⟨_, hF⟩ := xlim_sp hF
  exact jw_X11_tapeNumber_3 C0 _ _ _ _ _ t_v0 hF _ _ hR hS _ (lv_sub hl [1, 2, 0] rfl)
theorem xm_X11_tapeNumber : xMw yX11_tapeNumber cX11_tapeNumber 3 none 1 := ⟨xin 514 (by decide +kernel) rfl, xin 114 (by decide +kernel) rfl, by decide +kernel⟩
theorem xi_X11_tapeNumber : Cond.instanceMethod yX11_tapeNumber ∈ xT := xin 513 (by decide +kernel) rfl
theorem xe_X11_tapeNumber : Cond.selects yX11_tapeNumber.cls yX11_tapeNumber yX11_tapeNumber ∈ xT := xin 0 (by decide +kernel) rfl
theorem dX11_feed_0 : decode cX11_feed 0 = .ok (.aload_n 0, 1) := by decide +kernel
theorem dX11_feed_1 : decode cX11_feed 1 = .ok (.getfield 13, 3) := by decide +kernel
theorem dX11_feed_4 : decode cX11_feed 4 = .ok (.sipush 680, 3) := by decide +kernel
theorem dX11_feed_7 : decode cX11_feed 7 = .ok (.if_icmp .le 5, 3) := by decide +kernel
theorem dX11_feed_10 : decode cX11_feed 10 = .ok (.iconst (-1), 1) := by decide +kernel
theorem dX11_feed_11 : decode cX11_feed 11 = .ok (.ireturn, 1) := by decide +kernel
theorem dX11_feed_12 : decode cX11_feed 12 = .ok (.aload_n 0, 1) := by decide +kernel
theorem dX11_feed_13 : decode cX11_feed 13 = .ok (.iload_n 1, 1) := by decide +kernel
theorem dX11_feed_14 : decode cX11_feed 14 = .ok (.invokevirtual 101, 3) := by decide +kernel
theorem dX11_feed_17 : decode cX11_feed 17 = .ok (.aload_n 0, 1) := by decide +kernel
theorem dX11_feed_18 : decode cX11_feed 18 = .ok (.iload_n 2, 1) := by decide +kernel
theorem dX11_feed_19 : decode cX11_feed 19 = .ok (.invokevirtual 101, 3) := by decide +kernel
theorem dX11_feed_22 : decode cX11_feed 22 = .ok (.aload_n 0, 1) := by decide +kernel
theorem dX11_feed_23 : decode cX11_feed 23 = .ok (.iload_n 3, 1) := by decide +kernel
theorem dX11_feed_24 : decode cX11_feed 24 = .ok (.invokevirtual 101, 3) := by decide +kernel
theorem dX11_feed_27 : decode cX11_feed 27 = .ok (.aload_n 0, 1) := by decide +kernel
theorem dX11_feed_28 : decode cX11_feed 28 = .ok (.iload 4, 2) := by decide +kernel
theorem dX11_feed_30 : decode cX11_feed 30 = .ok (.invokevirtual 101, 3) := by decide +kernel
theorem dX11_feed_33 : decode cX11_feed 33 = .ok (.aload_n 0, 1) := by decide +kernel
theorem dX11_feed_34 : decode cX11_feed 34 = .ok (.iload 5, 2) := by decide +kernel
theorem dX11_feed_36 : decode cX11_feed 36 = .ok (.invokevirtual 101, 3) := by decide +kernel
theorem dX11_feed_39 : decode cX11_feed 39 = .ok (.aload_n 0, 1) := by decide +kernel
theorem dX11_feed_40 : decode cX11_feed 40 = .ok (.getfield 13, 3) := by decide +kernel
theorem dX11_feed_43 : decode cX11_feed 43 = .ok (.ireturn, 1) := by decide +kernel
theorem wl_X11_101 : Cond.methodLink RX11 101 yX11_tapeNumber ∈ xT := xin 511 (by decide +kernel) rfl
section XN_X11_feed
variable {p : Program} {l : Launch} {e : Env} {R : Room} {s : State} {m : MethodId} {args : Array Value} {below : List Frame} {meth : Method} {c : Code} {H H0 : Heap} {locs : List Loc} {cells slots : Nat} {Q : State → Prop} {cc : ByteArray} {nL pc : Nat} {rt : Option FieldType} {ls : Array Slot} {rest : List Value} {D : xD} {ty : xTy} {h : xH}
theorem cl_X11_101 {v0 : Nat} {v1 : Int32} {h9 : xH} (C0 : xC D RX11 cc nL rt p s m args meth c) (hR : xRep D ty h H) (hS : xS ty H0 H locs) (hF : jf_X11_tapeNumber ty h v0 v1 = some h9) (t_v0 : ty v0 = some (0, 11)) (hrm : jr_X11_tapeNumber.frames + 1 ≤ R.frames ∧ 8 + (3 + 11) + jr_X11_tapeNumber.locals ≤ R.locals) (hsz : ls.size = nL) (hW : (rest.map fun v => v.category).sum ≤ 8) (hf : cells ≤ R.cells ∧ slots ≤ R.slots) (hdg : decode cc pc = .ok (.invokevirtual 101, 3)) (kk : ∀ (H1 : Heap) (locs1 : List Loc), xRep D ty h9 H1 → xS ty H0 H1 locs1 → W p l e R s m args below meth c H1 locs1 cells slots Q (F0 m (pc + 3) ls rest)) : W p l e R s m args below meth c H locs cells slots Q (F0 m pc ls (.int v1 :: .ref v0 :: rest)) := x_callV C0 (jc_X11_tapeNumber t_v0 hF) xm_X11_tapeNumber xi_X11_tapeNumber xe_X11_tapeNumber wl_X11_101 ⟨rfl, rfl, hrm⟩ (ci := 11) rfl t_v0 hR hS (As := [.int v1]) rfl hsz rfl hW hdg hf kk
end XN_X11_feed
set_option maxHeartbeats 4000000 in
set_option maxRecDepth 100000 in
theorem jc_X11_feed {l : Launch} {D : xD} {ty : xTy} {h : xH} {v0 : Nat} {v1 : Int32} {v2 : Int32} {v3 : Int32} {v4 : Int32} {v5 : Int32} {r : Int32} {h9 : xH} (t_v0 : ty v0 = some (0, 11)) (hF : jf_X11_feed ty h v0 v1 v2 v3 v4 v5 = some (r, h9)) : Met l yX11_feed (xws yX11_feed cX11_feed 6 (some .int)) jr_X11_feed (xPc D ty h [.ref v0, .int v1, .int v2, .int v3, .int v4, .int v5]) (xQ D ty (some (.int r)) h9) 0 0 (xdom ty) := by
  refine x_met (by decide) ?_
  intro p e s m below meth c C0 hR
  generalize hargs : ([.ref v0, .int v1, .int v2, .int v3, .int v4, .int v5] : List Value).toArray = args at C0 ⊢
  have hx := C0.1
  have hb := C0.2.1
  have hown := C0.2.2.2.2.2.1
  have hts := C0.2.2.2.2.2.2.1
  have hS : xS ty s.heap s.heap [] := xS.rf
  have hl := lv_entry ([.ref v0, .int v1, .int v2, .int v3, .int v4, .int v5]) (n := 6) (Nat.le_of_ble_eq_true rfl)
  rw [← hargs, lg_entry_eq]
  rw [hargs]
  generalize (lg_sl ([.ref v0, .int v1, .int v2, .int v3, .int v4, .int v5]) ++ List.replicate (6 - (lg_sl ([.ref v0, .int v1, .int v2, .int v3, .int v4, .int v5])).length) Slot.unset).toArray = ls at hl ⊢
  have hl : lv_has ls 6 [(0, .ref v0), (1, .int v1), (2, .int v2), (3, .int v3), (4, .int v4), (5, .int v5)] := hl
  unfold jf_X11_feed at hF
  refine lv_aload_n hx hb dX11_feed_0 rfl (lv_at hl 0 rfl) ?_
  refine gf_X11_13 C0 hR t_v0 dX11_feed_1 ?_
  refine lv_sipush (v := 680) hx hb dX11_feed_4 (by decide) ?_
  refine lv_icmp_le (tgt := 12) hx hb dX11_feed_7 (by decide) (fun c1 => ?_) (fun c1 => ?_)
  · have hF := xif hF c1
    refine lv_aload_n hx hb dX11_feed_12 rfl (lv_at hl 0 rfl) ?_
    refine lv_iload_n hx hb dX11_feed_13 rfl (lv_at hl 1 rfl) ?_
    obtain ⟨h2, e_h2, hF⟩ := xbd hF
    refine cl_X11_101 C0 hR hS e_h2 t_v0 ⟨(Nat.le_of_ble_eq_true rfl), (Nat.le_of_ble_eq_true rfl)⟩ hl.1 (Nat.le_of_ble_eq_true rfl) ⟨(Nat.le_of_ble_eq_true rfl), (Nat.le_of_ble_eq_true rfl)⟩ dX11_feed_14 (fun H locs hR hS => ?_)
    refine lv_aload_n hx hb dX11_feed_17 rfl (lv_at hl 0 rfl) ?_
    refine lv_iload_n hx hb dX11_feed_18 rfl (lv_at hl 2 rfl) ?_
    obtain ⟨h3, e_h3, hF⟩ := xbd hF
    refine cl_X11_101 C0 hR hS e_h3 t_v0 ⟨(Nat.le_of_ble_eq_true rfl), (Nat.le_of_ble_eq_true rfl)⟩ hl.1 (Nat.le_of_ble_eq_true rfl) ⟨(Nat.le_of_ble_eq_true rfl), (Nat.le_of_ble_eq_true rfl)⟩ dX11_feed_19 (fun H locs hR hS => ?_)
    refine lv_aload_n hx hb dX11_feed_22 rfl (lv_at hl 0 rfl) ?_
    refine lv_iload_n hx hb dX11_feed_23 rfl (lv_at hl 3 rfl) ?_
    obtain ⟨h4, e_h4, hF⟩ := xbd hF
    refine cl_X11_101 C0 hR hS e_h4 t_v0 ⟨(Nat.le_of_ble_eq_true rfl), (Nat.le_of_ble_eq_true rfl)⟩ hl.1 (Nat.le_of_ble_eq_true rfl) ⟨(Nat.le_of_ble_eq_true rfl), (Nat.le_of_ble_eq_true rfl)⟩ dX11_feed_24 (fun H locs hR hS => ?_)
    refine lv_aload_n hx hb dX11_feed_27 rfl (lv_at hl 0 rfl) ?_
    refine lv_iload hx hb dX11_feed_28 (lv_at hl 4 rfl) ?_
    obtain ⟨h5, e_h5, hF⟩ := xbd hF
    refine cl_X11_101 C0 hR hS e_h5 t_v0 ⟨(Nat.le_of_ble_eq_true rfl), (Nat.le_of_ble_eq_true rfl)⟩ hl.1 (Nat.le_of_ble_eq_true rfl) ⟨(Nat.le_of_ble_eq_true rfl), (Nat.le_of_ble_eq_true rfl)⟩ dX11_feed_30 (fun H locs hR hS => ?_)
    refine lv_aload_n hx hb dX11_feed_33 rfl (lv_at hl 0 rfl) ?_
    refine lv_iload hx hb dX11_feed_34 (lv_at hl 5 rfl) ?_
    obtain ⟨h6, e_h6, hF⟩ := xbd hF
    refine cl_X11_101 C0 hR hS e_h6 t_v0 ⟨(Nat.le_of_ble_eq_true rfl), (Nat.le_of_ble_eq_true rfl)⟩ hl.1 (Nat.le_of_ble_eq_true rfl) ⟨(Nat.le_of_ble_eq_true rfl), (Nat.le_of_ble_eq_true rfl)⟩ dX11_feed_36 (fun H locs hR hS => ?_)
    refine lv_aload_n hx hb dX11_feed_39 rfl (lv_at hl 0 rfl) ?_
    refine gf_X11_13 C0 hR t_v0 dX11_feed_40 ?_
    cases hF
    exact x_iret C0 hR hS dX11_feed_43
  · have hF := xel hF c1
    refine lv_iconst (v := (-1)) hx hb dX11_feed_10 (by decide) ?_
    cases hF
    exact x_iret C0 hR hS dX11_feed_11
theorem xm_X11_feed : xMw yX11_feed cX11_feed 6 (some .int) 5 := ⟨xin 510 (by decide +kernel) rfl, xin 114 (by decide +kernel) rfl, by decide +kernel⟩
theorem xi_X11_feed : Cond.instanceMethod yX11_feed ∈ xT := xin 508 (by decide +kernel) rfl
theorem xe_X11_feed : Cond.selects yX11_feed.cls yX11_feed yX11_feed ∈ xT := xin 509 (by decide +kernel) rfl
theorem dX11_text_0 : decode cX11_text 0 = .ok (.iload_n 1, 1) := by decide +kernel
theorem dX11_text_1 : decode cX11_text 1 = .ok (.ifCond .lt 11, 3) := by decide +kernel
theorem dX11_text_4 : decode cX11_text 4 = .ok (.iload_n 1, 1) := by decide +kernel
theorem dX11_text_5 : decode cX11_text 5 = .ok (.aload_n 0, 1) := by decide +kernel
theorem dX11_text_6 : decode cX11_text 6 = .ok (.getfield 13, 3) := by decide +kernel
theorem dX11_text_9 : decode cX11_text 9 = .ok (.if_icmp .le 6, 3) := by decide +kernel
theorem dX11_text_12 : decode cX11_text 12 = .ok (.bipush (-2), 2) := by decide +kernel
theorem dX11_text_14 : decode cX11_text 14 = .ok (.ireturn, 1) := by decide +kernel
theorem dX11_text_15 : decode cX11_text 15 = .ok (.aload_n 0, 1) := by decide +kernel
theorem dX11_text_16 : decode cX11_text 16 = .ok (.iconst 0, 1) := by decide +kernel
theorem dX11_text_17 : decode cX11_text 17 = .ok (.putfield 13, 3) := by decide +kernel
theorem dX11_text_20 : decode cX11_text 20 = .ok (.aload_n 0, 1) := by decide +kernel
theorem dX11_text_21 : decode cX11_text 21 = .ok (.getfield 48, 3) := by decide +kernel
theorem dX11_text_24 : decode cX11_text 24 = .ok (.aload_n 0, 1) := by decide +kernel
theorem dX11_text_25 : decode cX11_text 25 = .ok (.getfield 9, 3) := by decide +kernel
theorem dX11_text_28 : decode cX11_text 28 = .ok (.iload_n 1, 1) := by decide +kernel
theorem dX11_text_29 : decode cX11_text 29 = .ok (.aload_n 0, 1) := by decide +kernel
theorem dX11_text_30 : decode cX11_text 30 = .ok (.getfield 24, 3) := by decide +kernel
theorem dX11_text_33 : decode cX11_text 33 = .ok (.invokevirtual 104, 3) := by decide +kernel
theorem dX11_text_36 : decode cX11_text 36 = .ok (.istore_n 2, 1) := by decide +kernel
theorem dX11_text_37 : decode cX11_text 37 = .ok (.iload_n 2, 1) := by decide +kernel
theorem dX11_text_38 : decode cX11_text 38 = .ok (.ifCond .ge 5, 3) := by decide +kernel
theorem dX11_text_41 : decode cX11_text 41 = .ok (.iconst (-1), 1) := by decide +kernel
theorem dX11_text_42 : decode cX11_text 42 = .ok (.ireturn, 1) := by decide +kernel
theorem dX11_text_43 : decode cX11_text 43 = .ok (.aload_n 0, 1) := by decide +kernel
theorem dX11_text_44 : decode cX11_text 44 = .ok (.getfield 20, 3) := by decide +kernel
theorem dX11_text_47 : decode cX11_text 47 = .ok (.astore_n 3, 1) := by decide +kernel
theorem dX11_text_48 : decode cX11_text 48 = .ok (.aload_n 0, 1) := by decide +kernel
theorem dX11_text_49 : decode cX11_text 49 = .ok (.aload_n 0, 1) := by decide +kernel
theorem dX11_text_50 : decode cX11_text 50 = .ok (.getfield 24, 3) := by decide +kernel
theorem dX11_text_53 : decode cX11_text 53 = .ok (.putfield 20, 3) := by decide +kernel
theorem dX11_text_56 : decode cX11_text 56 = .ok (.aload_n 0, 1) := by decide +kernel
theorem dX11_text_57 : decode cX11_text 57 = .ok (.aload_n 3, 1) := by decide +kernel
theorem dX11_text_58 : decode cX11_text 58 = .ok (.putfield 24, 3) := by decide +kernel
theorem dX11_text_61 : decode cX11_text 61 = .ok (.aload_n 0, 1) := by decide +kernel
theorem dX11_text_62 : decode cX11_text 62 = .ok (.getfield 32, 3) := by decide +kernel
theorem dX11_text_65 : decode cX11_text 65 = .ok (.invokevirtual 108, 3) := by decide +kernel
theorem dX11_text_68 : decode cX11_text 68 = .ok (.aload_n 0, 1) := by decide +kernel
theorem dX11_text_69 : decode cX11_text 69 = .ok (.getfield 55, 3) := by decide +kernel
theorem dX11_text_72 : decode cX11_text 72 = .ok (.aload_n 0, 1) := by decide +kernel
theorem dX11_text_73 : decode cX11_text 73 = .ok (.getfield 20, 3) := by decide +kernel
theorem dX11_text_76 : decode cX11_text 76 = .ok (.getfield 111, 3) := by decide +kernel
theorem dX11_text_79 : decode cX11_text 79 = .ok (.invokevirtual 114, 3) := by decide +kernel
theorem dX11_text_82 : decode cX11_text 82 = .ok (.aload_n 0, 1) := by decide +kernel
theorem dX11_text_83 : decode cX11_text 83 = .ok (.getfield 62, 3) := by decide +kernel
theorem dX11_text_86 : decode cX11_text 86 = .ok (.aload_n 0, 1) := by decide +kernel
theorem dX11_text_87 : decode cX11_text 87 = .ok (.getfield 20, 3) := by decide +kernel
theorem dX11_text_90 : decode cX11_text 90 = .ok (.aload_n 0, 1) := by decide +kernel
theorem dX11_text_91 : decode cX11_text 91 = .ok (.getfield 55, 3) := by decide +kernel
theorem dX11_text_94 : decode cX11_text 94 = .ok (.invokevirtual 117, 3) := by decide +kernel
theorem dX11_text_97 : decode cX11_text 97 = .ok (.iload_n 2, 1) := by decide +kernel
theorem dX11_text_98 : decode cX11_text 98 = .ok (.ireturn, 1) := by decide +kernel
theorem wl_X11_104 : Cond.methodLink RX11 104 yX4_readLines ∈ xT := xin 519 (by decide +kernel) rfl
theorem wl_X11_108 : Cond.methodLink RX11 108 yX7_clear ∈ xT := xin 673 (by decide +kernel) rfl
theorem wl_X11_114 : Cond.methodLink RX11 114 yX6_startAnew ∈ xT := xin 674 (by decide +kernel) rfl
theorem wl_X11_117 : Cond.methodLink RX11 117 yX9_plant ∈ xT := xin 678 (by decide +kernel) rfl
theorem wf_X11_111 : Cond.fieldLink RX11 111 "TermShelf$Book" "ruleCount" "I" ∈ xT := xin 192 (by decide +kernel) rfl
theorem wf_X11_20 : Cond.fieldLink RX11 20 "TermShelf" "book" "LTermShelf$Book;" ∈ xT := xin 460 (by decide +kernel) rfl
theorem wf_X11_24 : Cond.fieldLink RX11 24 "TermShelf" "spareBook" "LTermShelf$Book;" ∈ xT := xin 461 (by decide +kernel) rfl
theorem wf_X11_32 : Cond.fieldLink RX11 32 "TermShelf" "asking" "LTermShelf$Term;" ∈ xT := xin 462 (by decide +kernel) rfl
theorem wf_X11_48 : Cond.fieldLink RX11 48 "TermShelf" "reader" "LTermShelf$Reader;" ∈ xT := xin 466 (by decide +kernel) rfl
theorem wf_X11_55 : Cond.fieldLink RX11 55 "TermShelf" "standing" "LTermShelf$Standing;" ∈ xT := xin 467 (by decide +kernel) rfl
theorem wf_X11_62 : Cond.fieldLink RX11 62 "TermShelf" "tree" "LTermShelf$Tree;" ∈ xT := xin 468 (by decide +kernel) rfl
section XN_X11_text
variable {p : Program} {l : Launch} {e : Env} {R : Room} {s : State} {m : MethodId} {args : Array Value} {below : List Frame} {meth : Method} {c : Code} {H H0 : Heap} {locs : List Loc} {cells slots : Nat} {Q : State → Prop} {cc : ByteArray} {nL pc : Nat} {rt : Option FieldType} {ls : Array Slot} {rest : List Value} {D : xD} {ty : xTy} {h : xH}
theorem cl_X11_104 {v0 : Nat} {v1 : Nat} {v2 : Int32} {v3 : Nat} {r : Int32} {h9 : xH} (C0 : xC D RX11 cc nL rt p s m args meth c) (hR : xRep D ty h H) (hS : xS ty H0 H locs) (hF : jf_X4_readLines ty h v0 v1 v2 v3 = some (r, h9)) (t_v0 : ty v0 = some (0, 4)) (t_v3 : ty v3 = some (0, 0)) (hrm : jr_X4_readLines.frames + 1 ≤ R.frames ∧ 8 + (5 + 11) + jr_X4_readLines.locals ≤ R.locals) (hsz : ls.size = nL) (hW : (rest.map fun v => v.category).sum ≤ 8) (hf : cells ≤ R.cells ∧ slots ≤ R.slots) (hdg : decode cc pc = .ok (.invokevirtual 104, 3)) (kk : ∀ (H1 : Heap) (locs1 : List Loc), xRep D ty h9 H1 → xS ty H0 H1 locs1 → W p l e R s m args below meth c H1 locs1 cells slots Q (F0 m (pc + 3) ls (.int r :: rest))) : W p l e R s m args below meth c H locs cells slots Q (F0 m pc ls (.ref v3 :: .int v2 :: .ref v1 :: .ref v0 :: rest)) := x_callV C0 (jc_X4_readLines t_v0 t_v3 hF) xm_X4_readLines xi_X4_readLines xe_X4_readLines wl_X11_104 ⟨rfl, rfl, hrm⟩ (ci := 4) rfl t_v0 hR hS (As := [.ref v1, .int v2, .ref v3]) rfl hsz rfl hW hdg hf kk
theorem cl_X11_108 {v0 : Nat} {h9 : xH} (C0 : xC D RX11 cc nL rt p s m args meth c) (hR : xRep D ty h H) (hS : xS ty H0 H locs) (hF : jf_X7_clear ty h v0 = some h9) (t_v0 : ty v0 = some (0, 7)) (hrm : jr_X7_clear.frames + 1 ≤ R.frames ∧ 8 + (1 + 11) + jr_X7_clear.locals ≤ R.locals) (hsz : ls.size = nL) (hW : (rest.map fun v => v.category).sum ≤ 8) (hf : cells ≤ R.cells ∧ slots ≤ R.slots) (hdg : decode cc pc = .ok (.invokevirtual 108, 3)) (kk : ∀ (H1 : Heap) (locs1 : List Loc), xRep D ty h9 H1 → xS ty H0 H1 locs1 → W p l e R s m args below meth c H1 locs1 cells slots Q (F0 m (pc + 3) ls rest)) : W p l e R s m args below meth c H locs cells slots Q (F0 m pc ls (.ref v0 :: rest)) := x_callV C0 (jc_X7_clear t_v0 hF) xm_X7_clear xi_X7_clear xe_X7_clear wl_X11_108 ⟨rfl, rfl, hrm⟩ (ci := 7) rfl t_v0 hR hS (As := []) rfl hsz rfl hW hdg hf kk
theorem cl_X11_114 {v0 : Nat} {v1 : Int32} {h9 : xH} (C0 : xC D RX11 cc nL rt p s m args meth c) (hR : xRep D ty h H) (hS : xS ty H0 H locs) (hF : jf_X6_startAnew ty h v0 v1 = some h9) (t_v0 : ty v0 = some (0, 6)) (hrm : jr_X6_startAnew.frames + 1 ≤ R.frames ∧ 8 + (2 + 11) + jr_X6_startAnew.locals ≤ R.locals) (hsz : ls.size = nL) (hW : (rest.map fun v => v.category).sum ≤ 8) (hf : cells ≤ R.cells ∧ slots ≤ R.slots) (hdg : decode cc pc = .ok (.invokevirtual 114, 3)) (kk : ∀ (H1 : Heap) (locs1 : List Loc), xRep D ty h9 H1 → xS ty H0 H1 locs1 → W p l e R s m args below meth c H1 locs1 cells slots Q (F0 m (pc + 3) ls rest)) : W p l e R s m args below meth c H locs cells slots Q (F0 m pc ls (.int v1 :: .ref v0 :: rest)) := x_callV C0 (jc_X6_startAnew t_v0 hF) xm_X6_startAnew xi_X6_startAnew xe_X6_startAnew wl_X11_114 ⟨rfl, rfl, hrm⟩ (ci := 6) rfl t_v0 hR hS (As := [.int v1]) rfl hsz rfl hW hdg hf kk
theorem cl_X11_117 {v0 : Nat} {v1 : Nat} {v2 : Nat} {h9 : xH} (C0 : xC D RX11 cc nL rt p s m args meth c) (hR : xRep D ty h H) (hS : xS ty H0 H locs) (hF : jf_X9_plant ty h v0 v1 v2 = some h9) (t_v0 : ty v0 = some (0, 9)) (t_v1 : ty v1 = some (0, 0)) (t_v2 : ty v2 = some (0, 6)) (hrm : jr_X9_plant.frames + 1 ≤ R.frames ∧ 8 + (4 + 11) + jr_X9_plant.locals ≤ R.locals) (hsz : ls.size = nL) (hW : (rest.map fun v => v.category).sum ≤ 8) (hf : cells ≤ R.cells ∧ slots ≤ R.slots) (hdg : decode cc pc = .ok (.invokevirtual 117, 3)) (kk : ∀ (H1 : Heap) (locs1 : List Loc), xRep D ty h9 H1 → xS ty H0 H1 locs1 → W p l e R s m args below meth c H1 locs1 cells slots Q (F0 m (pc + 3) ls rest)) : W p l e R s m args below meth c H locs cells slots Q (F0 m pc ls (.ref v2 :: .ref v1 :: .ref v0 :: rest)) := x_callV C0 (jc_X9_plant t_v0 t_v1 t_v2 hF) xm_X9_plant xi_X9_plant xe_X9_plant wl_X11_117 ⟨rfl, rfl, hrm⟩ (ci := 9) rfl t_v0 hR hS (As := [.ref v1, .ref v2]) rfl hsz rfl hW hdg hf kk
theorem gf_X11_111 {a : Nat} (C0 : xC D RX11 cc nL rt p s m args meth c) (hR : xRep D ty h H) (ht : ty a = some (0, 0)) (hdg : decode cc pc = .ok (.getfield 111, 3)) (kk : W p l e R s m args below meth c H locs cells slots Q (F0 m (pc + 3) ls (.int (xI h a 9) :: rest))) : W p l e R s m args below meth c H locs cells slots Q (F0 m pc ls (.ref a :: rest)) := x_get C0 hR (ci := 0) (k := 9) (N := 10) (T := TX0) rfl iX0 (by decide) rfl wf_X11_111 rfl ht hdg kk
theorem gf_X11_20 {a : Nat} (C0 : xC D RX11 cc nL rt p s m args meth c) (hR : xRep D ty h H) (ht : ty a = some (0, 11)) {v : Nat} (hv : xR h a 2 = some v) (hdg : decode cc pc = .ok (.getfield 20, 3)) (kk : W p l e R s m args below meth c H locs cells slots Q (F0 m (pc + 3) ls (.ref v :: rest))) : W p l e R s m args below meth c H locs cells slots Q (F0 m pc ls (.ref a :: rest)) := x_get C0 hR (ci := 11) (k := 2) (N := 16) (T := TX11) rfl iX11 (by decide) rfl wf_X11_20 (by show va_rf (xR h a 2) = _; rw [hv]; rfl) ht hdg kk
theorem gf_X11_24 {a : Nat} (C0 : xC D RX11 cc nL rt p s m args meth c) (hR : xRep D ty h H) (ht : ty a = some (0, 11)) {v : Nat} (hv : xR h a 3 = some v) (hdg : decode cc pc = .ok (.getfield 24, 3)) (kk : W p l e R s m args below meth c H locs cells slots Q (F0 m (pc + 3) ls (.ref v :: rest))) : W p l e R s m args below meth c H locs cells slots Q (F0 m pc ls (.ref a :: rest)) := x_get C0 hR (ci := 11) (k := 3) (N := 16) (T := TX11) rfl iX11 (by decide) rfl wf_X11_24 (by show va_rf (xR h a 3) = _; rw [hv]; rfl) ht hdg kk
theorem gf_X11_32 {a : Nat} (C0 : xC D RX11 cc nL rt p s m args meth c) (hR : xRep D ty h H) (ht : ty a = some (0, 11)) {v : Nat} (hv : xR h a 4 = some v) (hdg : decode cc pc = .ok (.getfield 32, 3)) (kk : W p l e R s m args below meth c H locs cells slots Q (F0 m (pc + 3) ls (.ref v :: rest))) : W p l e R s m args below meth c H locs cells slots Q (F0 m pc ls (.ref a :: rest)) := x_get C0 hR (ci := 11) (k := 4) (N := 16) (T := TX11) rfl iX11 (by decide) rfl wf_X11_32 (by show va_rf (xR h a 4) = _; rw [hv]; rfl) ht hdg kk
theorem gf_X11_48 {a : Nat} (C0 : xC D RX11 cc nL rt p s m args meth c) (hR : xRep D ty h H) (ht : ty a = some (0, 11)) {v : Nat} (hv : xR h a 8 = some v) (hdg : decode cc pc = .ok (.getfield 48, 3)) (kk : W p l e R s m args below meth c H locs cells slots Q (F0 m (pc + 3) ls (.ref v :: rest))) : W p l e R s m args below meth c H locs cells slots Q (F0 m pc ls (.ref a :: rest)) := x_get C0 hR (ci := 11) (k := 8) (N := 16) (T := TX11) rfl iX11 (by decide) rfl wf_X11_48 (by show va_rf (xR h a 8) = _; rw [hv]; rfl) ht hdg kk
theorem gf_X11_55 {a : Nat} (C0 : xC D RX11 cc nL rt p s m args meth c) (hR : xRep D ty h H) (ht : ty a = some (0, 11)) {v : Nat} (hv : xR h a 9 = some v) (hdg : decode cc pc = .ok (.getfield 55, 3)) (kk : W p l e R s m args below meth c H locs cells slots Q (F0 m (pc + 3) ls (.ref v :: rest))) : W p l e R s m args below meth c H locs cells slots Q (F0 m pc ls (.ref a :: rest)) := x_get C0 hR (ci := 11) (k := 9) (N := 16) (T := TX11) rfl iX11 (by decide) rfl wf_X11_55 (by show va_rf (xR h a 9) = _; rw [hv]; rfl) ht hdg kk
theorem gf_X11_62 {a : Nat} (C0 : xC D RX11 cc nL rt p s m args meth c) (hR : xRep D ty h H) (ht : ty a = some (0, 11)) {v : Nat} (hv : xR h a 10 = some v) (hdg : decode cc pc = .ok (.getfield 62, 3)) (kk : W p l e R s m args below meth c H locs cells slots Q (F0 m (pc + 3) ls (.ref v :: rest))) : W p l e R s m args below meth c H locs cells slots Q (F0 m pc ls (.ref a :: rest)) := x_get C0 hR (ci := 11) (k := 10) (N := 16) (T := TX11) rfl iX11 (by decide) rfl wf_X11_62 (by show va_rf (xR h a 10) = _; rw [hv]; rfl) ht hdg kk
theorem pf_X11_20 {a : Nat} {v : Nat} (C0 : xC D RX11 cc nL rt p s m args meth c) (hR : xRep D ty h H) (hS : xS ty H0 H locs) (ht : ty a = some (0, 11)) (hdg : decode cc pc = .ok (.putfield 20, 3)) (kk : ∀ (H1 : Heap) (locs1 : List Loc), xRep D ty (xsR h a 2 (some v)) H1 → xS ty H0 H1 locs1 → W p l e R s m args below meth c H1 locs1 cells slots Q (F0 m (pc + 3) ls rest)) : W p l e R s m args below meth c H locs cells slots Q (F0 m pc ls (.ref v :: .ref a :: rest)) := x_putr C0 hR hS (ci := 11) (k := 2) (N := 16) (T := TX11) rfl iX11 tyX11_ok nmX11 (by decide) rfl rfl wf_X11_20 rfl ht hdg kk
theorem pf_X11_24 {a : Nat} {v : Nat} (C0 : xC D RX11 cc nL rt p s m args meth c) (hR : xRep D ty h H) (hS : xS ty H0 H locs) (ht : ty a = some (0, 11)) (hdg : decode cc pc = .ok (.putfield 24, 3)) (kk : ∀ (H1 : Heap) (locs1 : List Loc), xRep D ty (xsR h a 3 (some v)) H1 → xS ty H0 H1 locs1 → W p l e R s m args below meth c H1 locs1 cells slots Q (F0 m (pc + 3) ls rest)) : W p l e R s m args below meth c H locs cells slots Q (F0 m pc ls (.ref v :: .ref a :: rest)) := x_putr C0 hR hS (ci := 11) (k := 3) (N := 16) (T := TX11) rfl iX11 tyX11_ok nmX11 (by decide) rfl rfl wf_X11_24 rfl ht hdg kk
end XN_X11_text
set_option maxHeartbeats 4000000 in
set_option maxRecDepth 100000 in
theorem jc_X11_text {l : Launch} {D : xD} {ty : xTy} {h : xH} {v0 : Nat} {v1 : Int32} {r : Int32} {h9 : xH} (t_v0 : ty v0 = some (0, 11)) (hF : jf_X11_text ty h v0 v1 = some (r, h9)) : Met l yX11_text (xws yX11_text cX11_text 4 (some .int)) jr_X11_text (xPc D ty h [.ref v0, .int v1]) (xQ D ty (some (.int r)) h9) 0 0 (xdom ty) := by
  refine x_met (by decide) ?_
  intro p e s m below meth c C0 hR
  generalize hargs : ([.ref v0, .int v1] : List Value).toArray = args at C0 ⊢
  have hx := C0.1
  have hb := C0.2.1
  have hown := C0.2.2.2.2.2.1
  have hts := C0.2.2.2.2.2.2.1
  have hS : xS ty s.heap s.heap [] := xS.rf
  have hl := lv_entry ([.ref v0, .int v1]) (n := 4) (Nat.le_of_ble_eq_true rfl)
  rw [← hargs, lg_entry_eq]
  rw [hargs]
  generalize (lg_sl ([.ref v0, .int v1]) ++ List.replicate (4 - (lg_sl ([.ref v0, .int v1])).length) Slot.unset).toArray = ls at hl ⊢
  have hl : lv_has ls 4 [(0, .ref v0), (1, .int v1)] := hl
  unfold jf_X11_text at hF
  refine lv_iload_n hx hb dX11_text_0 rfl (lv_at hl 1 rfl) ?_
  refine lv_if_lt (tgt := 12) hx hb dX11_text_1 (by decide) (fun c1 => ?_) (fun c1 => ?_)
  · have hF := xif hF c1
    refine lv_bipush (v := (-2)) hx hb dX11_text_12 (by decide) ?_
    cases hF
    exact x_iret C0 hR hS dX11_text_14
  · have hF := xel hF c1
    refine lv_iload_n hx hb dX11_text_4 rfl (lv_at hl 1 rfl) ?_
    refine lv_aload_n hx hb dX11_text_5 rfl (lv_at hl 0 rfl) ?_
    refine gf_X11_13 C0 hR t_v0 dX11_text_6 ?_
    refine lv_icmp_le (tgt := 15) hx hb dX11_text_9 (by decide) (fun c2 => ?_) (fun c2 => ?_)
    · have hF := xif hF c2
      refine lv_aload_n hx hb dX11_text_15 rfl (lv_at hl 0 rfl) ?_
      refine lv_iconst (v := 0) hx hb dX11_text_16 (by decide) ?_
      obtain ⟨h3, e_h3, hF⟩ := xbd hF
      refine pf_X11_13 C0 hR hS t_v0 dX11_text_17 (fun H locs hR hS => ?_)
      rw [Option.some.inj e_h3] at hR
      refine lv_aload_n hx hb dX11_text_20 rfl (lv_at hl 0 rfl) ?_
      obtain ⟨a4, e_a4, hF⟩ := xbd hF
      obtain ⟨e_a4, t_a4⟩ := xgo_sp e_a4
      refine gf_X11_48 C0 hR t_v0 e_a4 dX11_text_21 ?_
      refine lv_aload_n hx hb dX11_text_24 rfl (lv_at hl 0 rfl) ?_
      obtain ⟨a5, e_a5, hF⟩ := xbd hF
      refine gf_X11_9 C0 hR t_v0 e_a5 dX11_text_25 ?_
      refine lv_iload_n hx hb dX11_text_28 rfl (lv_at hl 1 rfl) ?_
      refine lv_aload_n hx hb dX11_text_29 rfl (lv_at hl 0 rfl) ?_
      obtain ⟨a6, e_a6, hF⟩ := xbd hF
      obtain ⟨e_a6, t_a6⟩ := xgo_sp e_a6
      refine gf_X11_24 C0 hR t_v0 e_a6 dX11_text_30 ?_
      obtain ⟨a8, h7, e_h7, hF⟩ := xbd2 hF
      refine cl_X11_104 C0 hR hS e_h7 t_a4 t_a6 ⟨(Nat.le_of_ble_eq_true rfl), (Nat.le_of_ble_eq_true rfl)⟩ hl.1 (Nat.le_of_ble_eq_true rfl) ⟨(Nat.le_of_ble_eq_true rfl), (Nat.le_of_ble_eq_true rfl)⟩ dX11_text_33 (fun H locs hR hS => ?_)
      refine lv_istore_n (lv' := [(2, .int a8), (0, .ref v0), (1, .int v1)]) hx hb dX11_text_36 rfl hl (by decide) rfl (fun ls hl => ?_)
      refine lv_iload_n hx hb dX11_text_37 rfl (lv_at hl 0 rfl) ?_
      refine lv_if_ge (tgt := 43) hx hb dX11_text_38 (by decide) (fun c9 => ?_) (fun c9 => ?_)
      · have hF := xif hF c9
        refine lv_aload_n hx hb dX11_text_43 rfl (lv_at hl 1 rfl) ?_
        obtain ⟨a10, e_a10, hF⟩ := xbd hF
        obtain ⟨e_a10, t_a10⟩ := xgo_sp e_a10
        refine gf_X11_20 C0 hR t_v0 e_a10 dX11_text_44 ?_
        refine lv_astore_n (lv' := [(3, .ref a10), (2, .int a8), (0, .ref v0), (1, .int v1)]) hx hb dX11_text_47 rfl hl (by decide) rfl (fun ls hl => ?_)
        refine lv_aload_n hx hb dX11_text_48 rfl (lv_at hl 2 rfl) ?_
        refine lv_aload_n hx hb dX11_text_49 rfl (lv_at hl 2 rfl) ?_
        obtain ⟨a11, e_a11, hF⟩ := xbd hF
        obtain ⟨e_a11, t_a11⟩ := xgo_sp e_a11
        refine gf_X11_24 C0 hR t_v0 e_a11 dX11_text_50 ?_
        obtain ⟨h12, e_h12, hF⟩ := xbd hF
        refine pf_X11_20 C0 hR hS t_v0 dX11_text_53 (fun H locs hR hS => ?_)
        rw [Option.some.inj e_h12] at hR
        refine lv_aload_n hx hb dX11_text_56 rfl (lv_at hl 2 rfl) ?_
        refine lv_aload_n hx hb dX11_text_57 rfl (lv_at hl 0 rfl) ?_
        obtain ⟨h13, e_h13, hF⟩ := xbd hF
        refine pf_X11_24 C0 hR hS t_v0 dX11_text_58 (fun H locs hR hS => ?_)
        rw [Option.some.inj e_h13] at hR
        refine lv_aload_n hx hb dX11_text_61 rfl (lv_at hl 2 rfl) ?_
        obtain ⟨a14, e_a14, hF⟩ := xbd hF
        obtain ⟨e_a14, t_a14⟩ := xgo_sp e_a14
        refine gf_X11_32 C0 hR t_v0 e_a14 dX11_text_62 ?_
        obtain ⟨h15, e_h15, hF⟩ := xbd hF
        refine cl_X11_108 C0 hR hS e_h15 t_a14 ⟨(Nat.le_of_ble_eq_true rfl), (Nat.le_of_ble_eq_true rfl)⟩ hl.1 (Nat.le_of_ble_eq_true rfl) ⟨(Nat.le_of_ble_eq_true rfl), (Nat.le_of_ble_eq_true rfl)⟩ dX11_text_65 (fun H locs hR hS => ?_)
        refine lv_aload_n hx hb dX11_text_68 rfl (lv_at hl 2 rfl) ?_
        obtain ⟨a16, e_a16, hF⟩ := xbd hF
        obtain ⟨e_a16, t_a16⟩ := xgo_sp e_a16
        refine gf_X11_55 C0 hR t_v0 e_a16 dX11_text_69 ?_
        refine lv_aload_n hx hb dX11_text_72 rfl (lv_at hl 2 rfl) ?_
        obtain ⟨a17, e_a17, hF⟩ := xbd hF
        obtain ⟨e_a17, t_a17⟩ := xgo_sp e_a17
        refine gf_X11_20 C0 hR t_v0 e_a17 dX11_text_73 ?_
        refine gf_X11_111 C0 hR t_a17 dX11_text_76 ?_
        obtain ⟨h18, e_h18, hF⟩ := xbd hF
        refine cl_X11_114 C0 hR hS e_h18 t_a16 ⟨(Nat.le_of_ble_eq_true rfl), (Nat.le_of_ble_eq_true rfl)⟩ hl.1 (Nat.le_of_ble_eq_true rfl) ⟨(Nat.le_of_ble_eq_true rfl), (Nat.le_of_ble_eq_true rfl)⟩ dX11_text_79 (fun H locs hR hS => ?_)
        refine lv_aload_n hx hb dX11_text_82 rfl (lv_at hl 2 rfl) ?_
        obtain ⟨a19, e_a19, hF⟩ := xbd hF
        obtain ⟨e_a19, t_a19⟩ := xgo_sp e_a19
        refine gf_X11_62 C0 hR t_v0 e_a19 dX11_text_83 ?_
        refine lv_aload_n hx hb dX11_text_86 rfl (lv_at hl 2 rfl) ?_
        obtain ⟨a20, e_a20, hF⟩ := xbd hF
        obtain ⟨e_a20, t_a20⟩ := xgo_sp e_a20
        refine gf_X11_20 C0 hR t_v0 e_a20 dX11_text_87 ?_
        refine lv_aload_n hx hb dX11_text_90 rfl (lv_at hl 2 rfl) ?_
        obtain ⟨a21, e_a21, hF⟩ := xbd hF
        obtain ⟨e_a21, t_a21⟩ := xgo_sp e_a21
        refine gf_X11_55 C0 hR t_v0 e_a21 dX11_text_91 ?_
        obtain ⟨h22, e_h22, hF⟩ := xbd hF
        refine cl_X11_117 C0 hR hS e_h22 t_a19 t_a20 t_a21 ⟨(Nat.le_of_ble_eq_true rfl), (Nat.le_of_ble_eq_true rfl)⟩ hl.1 (Nat.le_of_ble_eq_true rfl) ⟨(Nat.le_of_ble_eq_true rfl), (Nat.le_of_ble_eq_true rfl)⟩ dX11_text_94 (fun H locs hR hS => ?_)
        refine lv_iload_n hx hb dX11_text_97 rfl (lv_at hl 1 rfl) ?_
        cases hF
        exact x_iret C0 hR hS dX11_text_98
      · have hF := xel hF c9
        refine lv_iconst (v := (-1)) hx hb dX11_text_41 (by decide) ?_
        cases hF
        exact x_iret C0 hR hS dX11_text_42
    · have hF := xel hF c2
      refine lv_bipush (v := (-2)) hx hb dX11_text_12 (by decide) ?_
      cases hF
      exact x_iret C0 hR hS dX11_text_14
theorem xm_X11_text : xMw yX11_text cX11_text 4 (some .int) 1 := ⟨xin 518 (by decide +kernel) rfl, xin 114 (by decide +kernel) rfl, by decide +kernel⟩
theorem xi_X11_text : Cond.instanceMethod yX11_text ∈ xT := xin 516 (by decide +kernel) rfl
theorem xe_X11_text : Cond.selects yX11_text.cls yX11_text yX11_text ∈ xT := xin 517 (by decide +kernel) rfl
theorem dX11_askSpareTerm_0 : decode cX11_askSpareTerm 0 = .ok (.aload_n 0, 1) := by decide +kernel
theorem dX11_askSpareTerm_1 : decode cX11_askSpareTerm 1 = .ok (.getfield 32, 3) := by decide +kernel
theorem dX11_askSpareTerm_4 : decode cX11_askSpareTerm 4 = .ok (.astore_n 1, 1) := by decide +kernel
theorem dX11_askSpareTerm_5 : decode cX11_askSpareTerm 5 = .ok (.aload_n 0, 1) := by decide +kernel
theorem dX11_askSpareTerm_6 : decode cX11_askSpareTerm 6 = .ok (.aload_n 0, 1) := by decide +kernel
theorem dX11_askSpareTerm_7 : decode cX11_askSpareTerm 7 = .ok (.getfield 36, 3) := by decide +kernel
theorem dX11_askSpareTerm_10 : decode cX11_askSpareTerm 10 = .ok (.putfield 32, 3) := by decide +kernel
theorem dX11_askSpareTerm_13 : decode cX11_askSpareTerm 13 = .ok (.aload_n 0, 1) := by decide +kernel
theorem dX11_askSpareTerm_14 : decode cX11_askSpareTerm 14 = .ok (.aload_n 1, 1) := by decide +kernel
theorem dX11_askSpareTerm_15 : decode cX11_askSpareTerm 15 = .ok (.putfield 36, 3) := by decide +kernel
theorem dX11_askSpareTerm_18 : decode cX11_askSpareTerm 18 = .ok (.return_, 1) := by decide +kernel
theorem wf_X11_36 : Cond.fieldLink RX11 36 "TermShelf" "spareTerm" "LTermShelf$Term;" ∈ xT := xin 463 (by decide +kernel) rfl
section XN_X11_askSpareTerm
variable {p : Program} {l : Launch} {e : Env} {R : Room} {s : State} {m : MethodId} {args : Array Value} {below : List Frame} {meth : Method} {c : Code} {H H0 : Heap} {locs : List Loc} {cells slots : Nat} {Q : State → Prop} {cc : ByteArray} {nL pc : Nat} {rt : Option FieldType} {ls : Array Slot} {rest : List Value} {D : xD} {ty : xTy} {h : xH}
theorem gf_X11_36 {a : Nat} (C0 : xC D RX11 cc nL rt p s m args meth c) (hR : xRep D ty h H) (ht : ty a = some (0, 11)) {v : Nat} (hv : xR h a 5 = some v) (hdg : decode cc pc = .ok (.getfield 36, 3)) (kk : W p l e R s m args below meth c H locs cells slots Q (F0 m (pc + 3) ls (.ref v :: rest))) : W p l e R s m args below meth c H locs cells slots Q (F0 m pc ls (.ref a :: rest)) := x_get C0 hR (ci := 11) (k := 5) (N := 16) (T := TX11) rfl iX11 (by decide) rfl wf_X11_36 (by show va_rf (xR h a 5) = _; rw [hv]; rfl) ht hdg kk
theorem pf_X11_32 {a : Nat} {v : Nat} (C0 : xC D RX11 cc nL rt p s m args meth c) (hR : xRep D ty h H) (hS : xS ty H0 H locs) (ht : ty a = some (0, 11)) (hdg : decode cc pc = .ok (.putfield 32, 3)) (kk : ∀ (H1 : Heap) (locs1 : List Loc), xRep D ty (xsR h a 4 (some v)) H1 → xS ty H0 H1 locs1 → W p l e R s m args below meth c H1 locs1 cells slots Q (F0 m (pc + 3) ls rest)) : W p l e R s m args below meth c H locs cells slots Q (F0 m pc ls (.ref v :: .ref a :: rest)) := x_putr C0 hR hS (ci := 11) (k := 4) (N := 16) (T := TX11) rfl iX11 tyX11_ok nmX11 (by decide) rfl rfl wf_X11_32 rfl ht hdg kk
theorem pf_X11_36 {a : Nat} {v : Nat} (C0 : xC D RX11 cc nL rt p s m args meth c) (hR : xRep D ty h H) (hS : xS ty H0 H locs) (ht : ty a = some (0, 11)) (hdg : decode cc pc = .ok (.putfield 36, 3)) (kk : ∀ (H1 : Heap) (locs1 : List Loc), xRep D ty (xsR h a 5 (some v)) H1 → xS ty H0 H1 locs1 → W p l e R s m args below meth c H1 locs1 cells slots Q (F0 m (pc + 3) ls rest)) : W p l e R s m args below meth c H locs cells slots Q (F0 m pc ls (.ref v :: .ref a :: rest)) := x_putr C0 hR hS (ci := 11) (k := 5) (N := 16) (T := TX11) rfl iX11 tyX11_ok nmX11 (by decide) rfl rfl wf_X11_36 rfl ht hdg kk
end XN_X11_askSpareTerm
set_option maxHeartbeats 4000000 in
set_option maxRecDepth 100000 in
theorem jc_X11_askSpareTerm {l : Launch} {D : xD} {ty : xTy} {h : xH} {v0 : Nat} {h9 : xH} (t_v0 : ty v0 = some (0, 11)) (hF : jf_X11_askSpareTerm ty h v0 = some h9) : Met l yX11_askSpareTerm (xws yX11_askSpareTerm cX11_askSpareTerm 2 none) jr_X11_askSpareTerm (xPc D ty h [.ref v0]) (xQ D ty none h9) 0 0 (xdom ty) := by
  refine x_met (by decide) ?_
  intro p e s m below meth c C0 hR
  generalize hargs : ([.ref v0] : List Value).toArray = args at C0 ⊢
  have hx := C0.1
  have hb := C0.2.1
  have hown := C0.2.2.2.2.2.1
  have hts := C0.2.2.2.2.2.2.1
  have hS : xS ty s.heap s.heap [] := xS.rf
  have hl := lv_entry ([.ref v0]) (n := 2) (Nat.le_of_ble_eq_true rfl)
  rw [← hargs, lg_entry_eq]
  rw [hargs]
  generalize (lg_sl ([.ref v0]) ++ List.replicate (2 - (lg_sl ([.ref v0])).length) Slot.unset).toArray = ls at hl ⊢
  have hl : lv_has ls 2 [(0, .ref v0)] := hl
  unfold jf_X11_askSpareTerm at hF
  refine lv_aload_n hx hb dX11_askSpareTerm_0 rfl (lv_at hl 0 rfl) ?_
  obtain ⟨a1, e_a1, hF⟩ := xbd hF
  obtain ⟨e_a1, t_a1⟩ := xgo_sp e_a1
  refine gf_X11_32 C0 hR t_v0 e_a1 dX11_askSpareTerm_1 ?_
  refine lv_astore_n (lv' := [(1, .ref a1), (0, .ref v0)]) hx hb dX11_askSpareTerm_4 rfl hl (by decide) rfl (fun ls hl => ?_)
  refine lv_aload_n hx hb dX11_askSpareTerm_5 rfl (lv_at hl 1 rfl) ?_
  refine lv_aload_n hx hb dX11_askSpareTerm_6 rfl (lv_at hl 1 rfl) ?_
  obtain ⟨a2, e_a2, hF⟩ := xbd hF
  obtain ⟨e_a2, t_a2⟩ := xgo_sp e_a2
  refine gf_X11_36 C0 hR t_v0 e_a2 dX11_askSpareTerm_7 ?_
  obtain ⟨h3, e_h3, hF⟩ := xbd hF
  refine pf_X11_32 C0 hR hS t_v0 dX11_askSpareTerm_10 (fun H locs hR hS => ?_)
  rw [Option.some.inj e_h3] at hR
  refine lv_aload_n hx hb dX11_askSpareTerm_13 rfl (lv_at hl 1 rfl) ?_
  refine lv_aload_n hx hb dX11_askSpareTerm_14 rfl (lv_at hl 0 rfl) ?_
  obtain ⟨h4, e_h4, hF⟩ := xbd hF
  refine pf_X11_36 C0 hR hS t_v0 dX11_askSpareTerm_15 (fun H locs hR hS => ?_)
  rw [Option.some.inj e_h4] at hR
  cases hF
  exact x_vret C0 hR hS dX11_askSpareTerm_18
theorem xm_X11_askSpareTerm : xMw yX11_askSpareTerm cX11_askSpareTerm 2 none 0 := ⟨xin 723 (by decide +kernel) rfl, xin 114 (by decide +kernel) rfl, by decide +kernel⟩
theorem xi_X11_askSpareTerm : Cond.instanceMethod yX11_askSpareTerm ∈ xT := xin 722 (by decide +kernel) rfl
theorem xe_X11_askSpareTerm : Cond.selects yX11_askSpareTerm.cls yX11_askSpareTerm yX11_askSpareTerm ∈ xT := xin 19 (by decide +kernel) rfl
theorem dX11_query_0 : decode cX11_query 0 = .ok (.iload_n 1, 1) := by decide +kernel
theorem dX11_query_1 : decode cX11_query 1 = .ok (.ifCond .lt 11, 3) := by decide +kernel
theorem dX11_query_4 : decode cX11_query 4 = .ok (.iload_n 1, 1) := by decide +kernel
theorem dX11_query_5 : decode cX11_query 5 = .ok (.aload_n 0, 1) := by decide +kernel
theorem dX11_query_6 : decode cX11_query 6 = .ok (.getfield 13, 3) := by decide +kernel
theorem dX11_query_9 : decode cX11_query 9 = .ok (.if_icmp .le 6, 3) := by decide +kernel
theorem dX11_query_12 : decode cX11_query 12 = .ok (.bipush (-2), 2) := by decide +kernel
theorem dX11_query_14 : decode cX11_query 14 = .ok (.ireturn, 1) := by decide +kernel
theorem dX11_query_15 : decode cX11_query 15 = .ok (.aload_n 0, 1) := by decide +kernel
theorem dX11_query_16 : decode cX11_query 16 = .ok (.iconst 0, 1) := by decide +kernel
theorem dX11_query_17 : decode cX11_query 17 = .ok (.putfield 13, 3) := by decide +kernel
theorem dX11_query_20 : decode cX11_query 20 = .ok (.aload_n 0, 1) := by decide +kernel
theorem dX11_query_21 : decode cX11_query 21 = .ok (.getfield 48, 3) := by decide +kernel
theorem dX11_query_24 : decode cX11_query 24 = .ok (.aload_n 0, 1) := by decide +kernel
theorem dX11_query_25 : decode cX11_query 25 = .ok (.getfield 9, 3) := by decide +kernel
theorem dX11_query_28 : decode cX11_query 28 = .ok (.iload_n 1, 1) := by decide +kernel
theorem dX11_query_29 : decode cX11_query 29 = .ok (.aload_n 0, 1) := by decide +kernel
theorem dX11_query_30 : decode cX11_query 30 = .ok (.getfield 20, 3) := by decide +kernel
theorem dX11_query_33 : decode cX11_query 33 = .ok (.aload_n 0, 1) := by decide +kernel
theorem dX11_query_34 : decode cX11_query 34 = .ok (.getfield 36, 3) := by decide +kernel
theorem dX11_query_37 : decode cX11_query 37 = .ok (.invokevirtual 121, 3) := by decide +kernel
theorem dX11_query_40 : decode cX11_query 40 = .ok (.ifCond .ne 5, 3) := by decide +kernel
theorem dX11_query_43 : decode cX11_query 43 = .ok (.iconst (-1), 1) := by decide +kernel
theorem dX11_query_44 : decode cX11_query 44 = .ok (.ireturn, 1) := by decide +kernel
theorem dX11_query_45 : decode cX11_query 45 = .ok (.aload_n 0, 1) := by decide +kernel
theorem dX11_query_46 : decode cX11_query 46 = .ok (.invokevirtual 125, 3) := by decide +kernel
theorem dX11_query_49 : decode cX11_query 49 = .ok (.aload_n 0, 1) := by decide +kernel
theorem dX11_query_50 : decode cX11_query 50 = .ok (.getfield 32, 3) := by decide +kernel
theorem dX11_query_53 : decode cX11_query 53 = .ok (.getfield 128, 3) := by decide +kernel
theorem dX11_query_56 : decode cX11_query 56 = .ok (.ireturn, 1) := by decide +kernel
theorem wl_X11_121 : Cond.methodLink RX11 121 yX4_readAlone ∈ xT := xin 716 (by decide +kernel) rfl
theorem wl_X11_125 : Cond.methodLink RX11 125 yX11_askSpareTerm ∈ xT := xin 720 (by decide +kernel) rfl
theorem wf_X11_128 : Cond.fieldLink RX11 128 "TermShelf$Term" "size" "I" ∈ xT := xin 162 (by decide +kernel) rfl
section XN_X11_query
variable {p : Program} {l : Launch} {e : Env} {R : Room} {s : State} {m : MethodId} {args : Array Value} {below : List Frame} {meth : Method} {c : Code} {H H0 : Heap} {locs : List Loc} {cells slots : Nat} {Q : State → Prop} {cc : ByteArray} {nL pc : Nat} {rt : Option FieldType} {ls : Array Slot} {rest : List Value} {D : xD} {ty : xTy} {h : xH}
theorem cl_X11_121 {v0 : Nat} {v1 : Nat} {v2 : Int32} {v3 : Nat} {v4 : Nat} {r : Int32} {h9 : xH} (C0 : xC D RX11 cc nL rt p s m args meth c) (hR : xRep D ty h H) (hS : xS ty H0 H locs) (hF : jf_X4_readAlone ty h v0 v1 v2 v3 v4 = some (r, h9)) (t_v0 : ty v0 = some (0, 4)) (t_v3 : ty v3 = some (0, 0)) (t_v4 : ty v4 = some (0, 7)) (hrm : jr_X4_readAlone.frames + 1 ≤ R.frames ∧ 8 + (5 + 11) + jr_X4_readAlone.locals ≤ R.locals) (hsz : ls.size = nL) (hW : (rest.map fun v => v.category).sum ≤ 8) (hf : cells ≤ R.cells ∧ slots ≤ R.slots) (hdg : decode cc pc = .ok (.invokevirtual 121, 3)) (kk : ∀ (H1 : Heap) (locs1 : List Loc), xRep D ty h9 H1 → xS ty H0 H1 locs1 → W p l e R s m args below meth c H1 locs1 cells slots Q (F0 m (pc + 3) ls (.int r :: rest))) : W p l e R s m args below meth c H locs cells slots Q (F0 m pc ls (.ref v4 :: .ref v3 :: .int v2 :: .ref v1 :: .ref v0 :: rest)) := x_callV C0 (jc_X4_readAlone t_v0 t_v3 t_v4 hF) xm_X4_readAlone xi_X4_readAlone xe_X4_readAlone wl_X11_121 ⟨rfl, rfl, hrm⟩ (ci := 4) rfl t_v0 hR hS (As := [.ref v1, .int v2, .ref v3, .ref v4]) rfl hsz rfl hW hdg hf kk
theorem cl_X11_125 {v0 : Nat} {h9 : xH} (C0 : xC D RX11 cc nL rt p s m args meth c) (hR : xRep D ty h H) (hS : xS ty H0 H locs) (hF : jf_X11_askSpareTerm ty h v0 = some h9) (t_v0 : ty v0 = some (0, 11)) (hrm : jr_X11_askSpareTerm.frames + 1 ≤ R.frames ∧ 8 + (2 + 11) + jr_X11_askSpareTerm.locals ≤ R.locals) (hsz : ls.size = nL) (hW : (rest.map fun v => v.category).sum ≤ 8) (hf : cells ≤ R.cells ∧ slots ≤ R.slots) (hdg : decode cc pc = .ok (.invokevirtual 125, 3)) (kk : ∀ (H1 : Heap) (locs1 : List Loc), xRep D ty h9 H1 → xS ty H0 H1 locs1 → W p l e R s m args below meth c H1 locs1 cells slots Q (F0 m (pc + 3) ls rest)) : W p l e R s m args below meth c H locs cells slots Q (F0 m pc ls (.ref v0 :: rest)) := x_callV C0 (jc_X11_askSpareTerm t_v0 hF) xm_X11_askSpareTerm xi_X11_askSpareTerm xe_X11_askSpareTerm wl_X11_125 ⟨rfl, rfl, hrm⟩ (ci := 11) rfl t_v0 hR hS (As := []) rfl hsz rfl hW hdg hf kk
theorem gf_X11_128 {a : Nat} (C0 : xC D RX11 cc nL rt p s m args meth c) (hR : xRep D ty h H) (ht : ty a = some (0, 7)) (hdg : decode cc pc = .ok (.getfield 128, 3)) (kk : W p l e R s m args below meth c H locs cells slots Q (F0 m (pc + 3) ls (.int (xI h a 2) :: rest))) : W p l e R s m args below meth c H locs cells slots Q (F0 m pc ls (.ref a :: rest)) := x_get C0 hR (ci := 7) (k := 2) (N := 3) (T := TX7) rfl iX7 (by decide) rfl wf_X11_128 rfl ht hdg kk
end XN_X11_query
set_option maxHeartbeats 4000000 in
set_option maxRecDepth 100000 in
theorem jc_X11_query {l : Launch} {D : xD} {ty : xTy} {h : xH} {v0 : Nat} {v1 : Int32} {r : Int32} {h9 : xH} (t_v0 : ty v0 = some (0, 11)) (hF : jf_X11_query ty h v0 v1 = some (r, h9)) : Met l yX11_query (xws yX11_query cX11_query 2 (some .int)) jr_X11_query (xPc D ty h [.ref v0, .int v1]) (xQ D ty (some (.int r)) h9) 0 0 (xdom ty) := by
  refine x_met (by decide) ?_
  intro p e s m below meth c C0 hR
  generalize hargs : ([.ref v0, .int v1] : List Value).toArray = args at C0 ⊢
  have hx := C0.1
  have hb := C0.2.1
  have hown := C0.2.2.2.2.2.1
  have hts := C0.2.2.2.2.2.2.1
  have hS : xS ty s.heap s.heap [] := xS.rf
  have hl := lv_entry ([.ref v0, .int v1]) (n := 2) (Nat.le_of_ble_eq_true rfl)
  rw [← hargs, lg_entry_eq]
  rw [hargs]
  generalize (lg_sl ([.ref v0, .int v1]) ++ List.replicate (2 - (lg_sl ([.ref v0, .int v1])).length) Slot.unset).toArray = ls at hl ⊢
  have hl : lv_has ls 2 [(0, .ref v0), (1, .int v1)] := hl
  unfold jf_X11_query at hF
  refine lv_iload_n hx hb dX11_query_0 rfl (lv_at hl 1 rfl) ?_
  refine lv_if_lt (tgt := 12) hx hb dX11_query_1 (by decide) (fun c1 => ?_) (fun c1 => ?_)
  · have hF := xif hF c1
    refine lv_bipush (v := (-2)) hx hb dX11_query_12 (by decide) ?_
    cases hF
    exact x_iret C0 hR hS dX11_query_14
  · have hF := xel hF c1
    refine lv_iload_n hx hb dX11_query_4 rfl (lv_at hl 1 rfl) ?_
    refine lv_aload_n hx hb dX11_query_5 rfl (lv_at hl 0 rfl) ?_
    refine gf_X11_13 C0 hR t_v0 dX11_query_6 ?_
    refine lv_icmp_le (tgt := 15) hx hb dX11_query_9 (by decide) (fun c2 => ?_) (fun c2 => ?_)
    · have hF := xif hF c2
      refine lv_aload_n hx hb dX11_query_15 rfl (lv_at hl 0 rfl) ?_
      refine lv_iconst (v := 0) hx hb dX11_query_16 (by decide) ?_
      obtain ⟨h3, e_h3, hF⟩ := xbd hF
      refine pf_X11_13 C0 hR hS t_v0 dX11_query_17 (fun H locs hR hS => ?_)
      rw [Option.some.inj e_h3] at hR
      refine lv_aload_n hx hb dX11_query_20 rfl (lv_at hl 0 rfl) ?_
      obtain ⟨a4, e_a4, hF⟩ := xbd hF
      obtain ⟨e_a4, t_a4⟩ := xgo_sp e_a4
      refine gf_X11_48 C0 hR t_v0 e_a4 dX11_query_21 ?_
      refine lv_aload_n hx hb dX11_query_24 rfl (lv_at hl 0 rfl) ?_
      obtain ⟨a5, e_a5, hF⟩ := xbd hF
      refine gf_X11_9 C0 hR t_v0 e_a5 dX11_query_25 ?_
      refine lv_iload_n hx hb dX11_query_28 rfl (lv_at hl 1 rfl) ?_
      refine lv_aload_n hx hb dX11_query_29 rfl (lv_at hl 0 rfl) ?_
      obtain ⟨a6, e_a6, hF⟩ := xbd hF
      obtain ⟨e_a6, t_a6⟩ := xgo_sp e_a6
      refine gf_X11_20 C0 hR t_v0 e_a6 dX11_query_30 ?_
      refine lv_aload_n hx hb dX11_query_33 rfl (lv_at hl 0 rfl) ?_
      obtain ⟨a7, e_a7, hF⟩ := xbd hF
      obtain ⟨e_a7, t_a7⟩ := xgo_sp e_a7
      refine gf_X11_36 C0 hR t_v0 e_a7 dX11_query_34 ?_
      obtain ⟨a9, h8, e_h8, hF⟩ := xbd2 hF
      refine cl_X11_121 C0 hR hS e_h8 t_a4 t_a6 t_a7 ⟨(Nat.le_of_ble_eq_true rfl), (Nat.le_of_ble_eq_true rfl)⟩ hl.1 (Nat.le_of_ble_eq_true rfl) ⟨(Nat.le_of_ble_eq_true rfl), (Nat.le_of_ble_eq_true rfl)⟩ dX11_query_37 (fun H locs hR hS => ?_)
      refine lv_if_ne (tgt := 45) hx hb dX11_query_40 (by decide) (fun c10 => ?_) (fun c10 => ?_)
      · have hF := xel hF c10
        refine lv_aload_n hx hb dX11_query_45 rfl (lv_at hl 0 rfl) ?_
        obtain ⟨h11, e_h11, hF⟩ := xbd hF
        refine cl_X11_125 C0 hR hS e_h11 t_v0 ⟨(Nat.le_of_ble_eq_true rfl), (Nat.le_of_ble_eq_true rfl)⟩ hl.1 (Nat.le_of_ble_eq_true rfl) ⟨(Nat.le_of_ble_eq_true rfl), (Nat.le_of_ble_eq_true rfl)⟩ dX11_query_46 (fun H locs hR hS => ?_)
        refine lv_aload_n hx hb dX11_query_49 rfl (lv_at hl 0 rfl) ?_
        obtain ⟨a12, e_a12, hF⟩ := xbd hF
        obtain ⟨e_a12, t_a12⟩ := xgo_sp e_a12
        refine gf_X11_32 C0 hR t_v0 e_a12 dX11_query_50 ?_
        refine gf_X11_128 C0 hR t_a12 dX11_query_53 ?_
        cases hF
        exact x_iret C0 hR hS dX11_query_56
      · have hF := xif hF c10
        refine lv_iconst (v := (-1)) hx hb dX11_query_43 (by decide) ?_
        cases hF
        exact x_iret C0 hR hS dX11_query_44
    · have hF := xel hF c2
      refine lv_bipush (v := (-2)) hx hb dX11_query_12 (by decide) ?_
      cases hF
      exact x_iret C0 hR hS dX11_query_14
theorem xm_X11_query : xMw yX11_query cX11_query 2 (some .int) 1 := ⟨xin 715 (by decide +kernel) rfl, xin 114 (by decide +kernel) rfl, by decide +kernel⟩
theorem xi_X11_query : Cond.instanceMethod yX11_query ∈ xT := xin 713 (by decide +kernel) rfl
theorem xe_X11_query : Cond.selects yX11_query.cls yX11_query yX11_query ∈ xT := xin 714 (by decide +kernel) rfl
theorem dX11_fault_0 : decode cX11_fault 0 = .ok (.iload_n 1, 1) := by decide +kernel
theorem dX11_fault_1 : decode cX11_fault 1 = .ok (.ifCond .ne 11, 3) := by decide +kernel
theorem dX11_fault_4 : decode cX11_fault 4 = .ok (.aload_n 0, 1) := by decide +kernel
theorem dX11_fault_5 : decode cX11_fault 5 = .ok (.getfield 48, 3) := by decide +kernel
theorem dX11_fault_8 : decode cX11_fault 8 = .ok (.getfield 131, 3) := by decide +kernel
theorem dX11_fault_11 : decode cX11_fault 11 = .ok (.ireturn, 1) := by decide +kernel
theorem dX11_fault_12 : decode cX11_fault 12 = .ok (.iload_n 1, 1) := by decide +kernel
theorem dX11_fault_13 : decode cX11_fault 13 = .ok (.iconst 1, 1) := by decide +kernel
theorem dX11_fault_14 : decode cX11_fault 14 = .ok (.if_icmp .ne 13, 3) := by decide +kernel
theorem dX11_fault_17 : decode cX11_fault 17 = .ok (.aload_n 0, 1) := by decide +kernel
theorem dX11_fault_18 : decode cX11_fault 18 = .ok (.getfield 48, 3) := by decide +kernel
theorem dX11_fault_21 : decode cX11_fault 21 = .ok (.getfield 134, 3) := by decide +kernel
theorem dX11_fault_24 : decode cX11_fault 24 = .ok (.goto 4, 3) := by decide +kernel
theorem dX11_fault_27 : decode cX11_fault 27 = .ok (.iconst (-1), 1) := by decide +kernel
theorem dX11_fault_28 : decode cX11_fault 28 = .ok (.ireturn, 1) := by decide +kernel
theorem wf_X11_131 : Cond.fieldLink RX11 131 "TermShelf$Reader" "fault" "I" ∈ xT := xin 262 (by decide +kernel) rfl
theorem wf_X11_134 : Cond.fieldLink RX11 134 "TermShelf$Reader" "faultPlace" "I" ∈ xT := xin 264 (by decide +kernel) rfl
section XN_X11_fault
variable {p : Program} {l : Launch} {e : Env} {R : Room} {s : State} {m : MethodId} {args : Array Value} {below : List Frame} {meth : Method} {c : Code} {H H0 : Heap} {locs : List Loc} {cells slots : Nat} {Q : State → Prop} {cc : ByteArray} {nL pc : Nat} {rt : Option FieldType} {ls : Array Slot} {rest : List Value} {D : xD} {ty : xTy} {h : xH}
theorem gf_X11_131 {a : Nat} (C0 : xC D RX11 cc nL rt p s m args meth c) (hR : xRep D ty h H) (ht : ty a = some (0, 4)) (hdg : decode cc pc = .ok (.getfield 131, 3)) (kk : W p l e R s m args below meth c H locs cells slots Q (F0 m (pc + 3) ls (.int (xI h a 3) :: rest))) : W p l e R s m args below meth c H locs cells slots Q (F0 m pc ls (.ref a :: rest)) := x_get C0 hR (ci := 4) (k := 3) (N := 5) (T := TX4) rfl iX4 (by decide) rfl wf_X11_131 rfl ht hdg kk
theorem gf_X11_134 {a : Nat} (C0 : xC D RX11 cc nL rt p s m args meth c) (hR : xRep D ty h H) (ht : ty a = some (0, 4)) (hdg : decode cc pc = .ok (.getfield 134, 3)) (kk : W p l e R s m args below meth c H locs cells slots Q (F0 m (pc + 3) ls (.int (xI h a 4) :: rest))) : W p l e R s m args below meth c H locs cells slots Q (F0 m pc ls (.ref a :: rest)) := x_get C0 hR (ci := 4) (k := 4) (N := 5) (T := TX4) rfl iX4 (by decide) rfl wf_X11_134 rfl ht hdg kk
end XN_X11_fault
set_option maxHeartbeats 4000000 in
set_option maxRecDepth 100000 in
theorem jc_X11_fault {l : Launch} {D : xD} {ty : xTy} {h : xH} {v0 : Nat} {v1 : Int32} {r : Int32} (t_v0 : ty v0 = some (0, 11)) (hF : jf_X11_fault ty h v0 v1 = some r) : Met l yX11_fault (xws yX11_fault cX11_fault 2 (some .int)) jr_X11_fault (xPc D ty h [.ref v0, .int v1]) (xQ D ty (some (.int r)) h) 0 0 (xdom ty) := by
  refine x_met (by decide) ?_
  intro p e s m below meth c C0 hR
  generalize hargs : ([.ref v0, .int v1] : List Value).toArray = args at C0 ⊢
  have hx := C0.1
  have hb := C0.2.1
  have hown := C0.2.2.2.2.2.1
  have hts := C0.2.2.2.2.2.2.1
  have hS : xS ty s.heap s.heap [] := xS.rf
  have hl := lv_entry ([.ref v0, .int v1]) (n := 2) (Nat.le_of_ble_eq_true rfl)
  rw [← hargs, lg_entry_eq]
  rw [hargs]
  generalize (lg_sl ([.ref v0, .int v1]) ++ List.replicate (2 - (lg_sl ([.ref v0, .int v1])).length) Slot.unset).toArray = ls at hl ⊢
  have hl : lv_has ls 2 [(0, .ref v0), (1, .int v1)] := hl
  unfold jf_X11_fault at hF
  refine lv_iload_n hx hb dX11_fault_0 rfl (lv_at hl 1 rfl) ?_
  refine lv_if_ne (tgt := 12) hx hb dX11_fault_1 (by decide) (fun c1 => ?_) (fun c1 => ?_)
  · have hF := xel hF c1
    refine lv_iload_n hx hb dX11_fault_12 rfl (lv_at hl 1 rfl) ?_
    refine lv_iconst (v := 1) hx hb dX11_fault_13 (by decide) ?_
    refine lv_icmp_ne (tgt := 27) hx hb dX11_fault_14 (by decide) (fun c2 => ?_) (fun c2 => ?_)
    · have hF := xel hF c2
      refine lv_iconst (v := (-1)) hx hb dX11_fault_27 (by decide) ?_
      cases hF
      exact x_iret C0 hR hS dX11_fault_28
    · have hF := xif hF c2
      refine lv_aload_n hx hb dX11_fault_17 rfl (lv_at hl 0 rfl) ?_
      obtain ⟨a3, e_a3, hF⟩ := xbd hF
      obtain ⟨e_a3, t_a3⟩ := xgo_sp e_a3
      refine gf_X11_48 C0 hR t_v0 e_a3 dX11_fault_18 ?_
      refine gf_X11_134 C0 hR t_a3 dX11_fault_21 ?_
      refine lv_goto (tgt := 28) hx hb dX11_fault_24 (by decide) ?_
      cases hF
      exact x_iret C0 hR hS dX11_fault_28
  · have hF := xif hF c1
    refine lv_aload_n hx hb dX11_fault_4 rfl (lv_at hl 0 rfl) ?_
    obtain ⟨a4, e_a4, hF⟩ := xbd hF
    obtain ⟨e_a4, t_a4⟩ := xgo_sp e_a4
    refine gf_X11_48 C0 hR t_v0 e_a4 dX11_fault_5 ?_
    refine gf_X11_131 C0 hR t_a4 dX11_fault_8 ?_
    cases hF
    exact x_iret C0 hR hS dX11_fault_11
theorem xm_X11_fault : xMw yX11_fault cX11_fault 2 (some .int) 1 := ⟨xin 727 (by decide +kernel) rfl, xin 114 (by decide +kernel) rfl, by decide +kernel⟩
theorem xi_X11_fault : Cond.instanceMethod yX11_fault ∈ xT := xin 725 (by decide +kernel) rfl
theorem xe_X11_fault : Cond.selects yX11_fault.cls yX11_fault yX11_fault ∈ xT := xin 726 (by decide +kernel) rfl
theorem dX11_named_0 : decode cX11_named 0 = .ok (.iload_n 1, 1) := by decide +kernel
theorem dX11_named_1 : decode cX11_named 1 = .ok (.ifCond .ne 12, 3) := by decide +kernel
theorem dX11_named_4 : decode cX11_named 4 = .ok (.aload_n 0, 1) := by decide +kernel
theorem dX11_named_5 : decode cX11_named 5 = .ok (.getfield 20, 3) := by decide +kernel
theorem dX11_named_8 : decode cX11_named 8 = .ok (.iload_n 2, 1) := by decide +kernel
theorem dX11_named_9 : decode cX11_named 9 = .ok (.invokevirtual 137, 3) := by decide +kernel
theorem dX11_named_12 : decode cX11_named 12 = .ok (.ireturn, 1) := by decide +kernel
theorem dX11_named_13 : decode cX11_named 13 = .ok (.iload_n 1, 1) := by decide +kernel
theorem dX11_named_14 : decode cX11_named 14 = .ok (.iconst 1, 1) := by decide +kernel
theorem dX11_named_15 : decode cX11_named 15 = .ok (.if_icmp .ne 14, 3) := by decide +kernel
theorem dX11_named_18 : decode cX11_named 18 = .ok (.aload_n 0, 1) := by decide +kernel
theorem dX11_named_19 : decode cX11_named 19 = .ok (.getfield 20, 3) := by decide +kernel
theorem dX11_named_22 : decode cX11_named 22 = .ok (.iload_n 2, 1) := by decide +kernel
theorem dX11_named_23 : decode cX11_named 23 = .ok (.invokevirtual 141, 3) := by decide +kernel
theorem dX11_named_26 : decode cX11_named 26 = .ok (.goto 4, 3) := by decide +kernel
theorem dX11_named_29 : decode cX11_named 29 = .ok (.iconst (-1), 1) := by decide +kernel
theorem dX11_named_30 : decode cX11_named 30 = .ok (.ireturn, 1) := by decide +kernel
theorem wl_X11_137 : Cond.methodLink RX11 137 yX0_codeNamed ∈ xT := xin 732 (by decide +kernel) rfl
theorem wl_X11_141 : Cond.methodLink RX11 141 yX0_ruleNamed ∈ xT := xin 733 (by decide +kernel) rfl
section XN_X11_named
variable {p : Program} {l : Launch} {e : Env} {R : Room} {s : State} {m : MethodId} {args : Array Value} {below : List Frame} {meth : Method} {c : Code} {H H0 : Heap} {locs : List Loc} {cells slots : Nat} {Q : State → Prop} {cc : ByteArray} {nL pc : Nat} {rt : Option FieldType} {ls : Array Slot} {rest : List Value} {D : xD} {ty : xTy} {h : xH}
theorem cl_X11_137 {v0 : Nat} {v1 : Int32} {r : Int32} (C0 : xC D RX11 cc nL rt p s m args meth c) (hR : xRep D ty h H) (hS : xS ty H0 H locs) (hF : jf_X0_codeNamed ty h v0 v1 = some r) (t_v0 : ty v0 = some (0, 0)) (hrm : jr_X0_codeNamed.frames + 1 ≤ R.frames ∧ 8 + (4 + 11) + jr_X0_codeNamed.locals ≤ R.locals) (hsz : ls.size = nL) (hW : (rest.map fun v => v.category).sum ≤ 8) (hf : cells ≤ R.cells ∧ slots ≤ R.slots) (hdg : decode cc pc = .ok (.invokevirtual 137, 3)) (kk : ∀ (H1 : Heap) (locs1 : List Loc), xRep D ty h H1 → xS ty H0 H1 locs1 → W p l e R s m args below meth c H1 locs1 cells slots Q (F0 m (pc + 3) ls (.int r :: rest))) : W p l e R s m args below meth c H locs cells slots Q (F0 m pc ls (.int v1 :: .ref v0 :: rest)) := x_callV C0 (jc_X0_codeNamed t_v0 hF) xm_X0_codeNamed xi_X0_codeNamed xe_X0_codeNamed wl_X11_137 ⟨rfl, rfl, hrm⟩ (ci := 0) rfl t_v0 hR hS (As := [.int v1]) rfl hsz rfl hW hdg hf kk
theorem cl_X11_141 {v0 : Nat} {v1 : Int32} {r : Int32} (C0 : xC D RX11 cc nL rt p s m args meth c) (hR : xRep D ty h H) (hS : xS ty H0 H locs) (hF : jf_X0_ruleNamed ty h v0 v1 = some r) (t_v0 : ty v0 = some (0, 0)) (hrm : jr_X0_ruleNamed.frames + 1 ≤ R.frames ∧ 8 + (2 + 11) + jr_X0_ruleNamed.locals ≤ R.locals) (hsz : ls.size = nL) (hW : (rest.map fun v => v.category).sum ≤ 8) (hf : cells ≤ R.cells ∧ slots ≤ R.slots) (hdg : decode cc pc = .ok (.invokevirtual 141, 3)) (kk : ∀ (H1 : Heap) (locs1 : List Loc), xRep D ty h H1 → xS ty H0 H1 locs1 → W p l e R s m args below meth c H1 locs1 cells slots Q (F0 m (pc + 3) ls (.int r :: rest))) : W p l e R s m args below meth c H locs cells slots Q (F0 m pc ls (.int v1 :: .ref v0 :: rest)) := x_callV C0 (jc_X0_ruleNamed t_v0 hF) xm_X0_ruleNamed xi_X0_ruleNamed xe_X0_ruleNamed wl_X11_141 ⟨rfl, rfl, hrm⟩ (ci := 0) rfl t_v0 hR hS (As := [.int v1]) rfl hsz rfl hW hdg hf kk
end XN_X11_named
set_option maxHeartbeats 4000000 in
set_option maxRecDepth 100000 in
theorem jc_X11_named {l : Launch} {D : xD} {ty : xTy} {h : xH} {v0 : Nat} {v1 : Int32} {v2 : Int32} {r : Int32} (t_v0 : ty v0 = some (0, 11)) (hF : jf_X11_named ty h v0 v1 v2 = some r) : Met l yX11_named (xws yX11_named cX11_named 3 (some .int)) jr_X11_named (xPc D ty h [.ref v0, .int v1, .int v2]) (xQ D ty (some (.int r)) h) 0 0 (xdom ty) := by
  refine x_met (by decide) ?_
  intro p e s m below meth c C0 hR
  generalize hargs : ([.ref v0, .int v1, .int v2] : List Value).toArray = args at C0 ⊢
  have hx := C0.1
  have hb := C0.2.1
  have hown := C0.2.2.2.2.2.1
  have hts := C0.2.2.2.2.2.2.1
  have hS : xS ty s.heap s.heap [] := xS.rf
  have hl := lv_entry ([.ref v0, .int v1, .int v2]) (n := 3) (Nat.le_of_ble_eq_true rfl)
  rw [← hargs, lg_entry_eq]
  rw [hargs]
  generalize (lg_sl ([.ref v0, .int v1, .int v2]) ++ List.replicate (3 - (lg_sl ([.ref v0, .int v1, .int v2])).length) Slot.unset).toArray = ls at hl ⊢
  have hl : lv_has ls 3 [(0, .ref v0), (1, .int v1), (2, .int v2)] := hl
  unfold jf_X11_named at hF
  refine lv_iload_n hx hb dX11_named_0 rfl (lv_at hl 1 rfl) ?_
  refine lv_if_ne (tgt := 13) hx hb dX11_named_1 (by decide) (fun c1 => ?_) (fun c1 => ?_)
  · have hF := xel hF c1
    refine lv_iload_n hx hb dX11_named_13 rfl (lv_at hl 1 rfl) ?_
    refine lv_iconst (v := 1) hx hb dX11_named_14 (by decide) ?_
    refine lv_icmp_ne (tgt := 29) hx hb dX11_named_15 (by decide) (fun c2 => ?_) (fun c2 => ?_)
    · have hF := xel hF c2
      refine lv_iconst (v := (-1)) hx hb dX11_named_29 (by decide) ?_
      cases hF
      exact x_iret C0 hR hS dX11_named_30
    · have hF := xif hF c2
      refine lv_aload_n hx hb dX11_named_18 rfl (lv_at hl 0 rfl) ?_
      obtain ⟨a3, e_a3, hF⟩ := xbd hF
      obtain ⟨e_a3, t_a3⟩ := xgo_sp e_a3
      refine gf_X11_20 C0 hR t_v0 e_a3 dX11_named_19 ?_
      refine lv_iload_n hx hb dX11_named_22 rfl (lv_at hl 2 rfl) ?_
      obtain ⟨a4, e_a4, hF⟩ := xbd hF
      refine cl_X11_141 C0 hR hS e_a4 t_a3 ⟨(Nat.le_of_ble_eq_true rfl), (Nat.le_of_ble_eq_true rfl)⟩ hl.1 (Nat.le_of_ble_eq_true rfl) ⟨(Nat.le_of_ble_eq_true rfl), (Nat.le_of_ble_eq_true rfl)⟩ dX11_named_23 (fun H locs hR hS => ?_)
      refine lv_goto (tgt := 30) hx hb dX11_named_26 (by decide) ?_
      cases hF
      exact x_iret C0 hR hS dX11_named_30
  · have hF := xif hF c1
    refine lv_aload_n hx hb dX11_named_4 rfl (lv_at hl 0 rfl) ?_
    obtain ⟨a5, e_a5, hF⟩ := xbd hF
    obtain ⟨e_a5, t_a5⟩ := xgo_sp e_a5
    refine gf_X11_20 C0 hR t_v0 e_a5 dX11_named_5 ?_
    refine lv_iload_n hx hb dX11_named_8 rfl (lv_at hl 2 rfl) ?_
    obtain ⟨a6, e_a6, hF⟩ := xbd hF
    refine cl_X11_137 C0 hR hS e_a6 t_a5 ⟨(Nat.le_of_ble_eq_true rfl), (Nat.le_of_ble_eq_true rfl)⟩ hl.1 (Nat.le_of_ble_eq_true rfl) ⟨(Nat.le_of_ble_eq_true rfl), (Nat.le_of_ble_eq_true rfl)⟩ dX11_named_9 (fun H locs hR hS => ?_)
    cases hF
    exact x_iret C0 hR hS dX11_named_12
theorem xm_X11_named : xMw yX11_named cX11_named 3 (some .int) 2 := ⟨xin 731 (by decide +kernel) rfl, xin 114 (by decide +kernel) rfl, by decide +kernel⟩
theorem xi_X11_named : Cond.instanceMethod yX11_named ∈ xT := xin 729 (by decide +kernel) rfl
theorem xe_X11_named : Cond.selects yX11_named.cls yX11_named yX11_named ∈ xT := xin 730 (by decide +kernel) rfl
theorem dX11_code_0 : decode cX11_code 0 = .ok (.aload_n 0, 1) := by decide +kernel
theorem dX11_code_1 : decode cX11_code 1 = .ok (.getfield 20, 3) := by decide +kernel
theorem dX11_code_4 : decode cX11_code 4 = .ok (.iload_n 1, 1) := by decide +kernel
theorem dX11_code_5 : decode cX11_code 5 = .ok (.invokevirtual 144, 3) := by decide +kernel
theorem dX11_code_8 : decode cX11_code 8 = .ok (.ifCond .eq 7, 3) := by decide +kernel
theorem dX11_code_11 : decode cX11_code 11 = .ok (.iload_n 2, 1) := by decide +kernel
theorem dX11_code_12 : decode cX11_code 12 = .ok (.ifCond .ge 5, 3) := by decide +kernel
theorem dX11_code_15 : decode cX11_code 15 = .ok (.iconst (-1), 1) := by decide +kernel
theorem dX11_code_16 : decode cX11_code 16 = .ok (.ireturn, 1) := by decide +kernel
theorem dX11_code_17 : decode cX11_code 17 = .ok (.iload_n 3, 1) := by decide +kernel
theorem dX11_code_18 : decode cX11_code 18 = .ok (.ifCond .eq 14, 3) := by decide +kernel
theorem dX11_code_21 : decode cX11_code 21 = .ok (.aload_n 0, 1) := by decide +kernel
theorem dX11_code_22 : decode cX11_code 22 = .ok (.getfield 20, 3) := by decide +kernel
theorem dX11_code_25 : decode cX11_code 25 = .ok (.iload_n 1, 1) := by decide +kernel
theorem dX11_code_26 : decode cX11_code 26 = .ok (.invokevirtual 159, 3) := by decide +kernel
theorem dX11_code_29 : decode cX11_code 29 = .ok (.goto 11, 3) := by decide +kernel
theorem dX11_code_32 : decode cX11_code 32 = .ok (.aload_n 0, 1) := by decide +kernel
theorem dX11_code_33 : decode cX11_code 33 = .ok (.getfield 20, 3) := by decide +kernel
theorem dX11_code_36 : decode cX11_code 36 = .ok (.iload_n 1, 1) := by decide +kernel
theorem dX11_code_37 : decode cX11_code 37 = .ok (.invokevirtual 155, 3) := by decide +kernel
theorem dX11_code_40 : decode cX11_code 40 = .ok (.astore 4, 2) := by decide +kernel
theorem dX11_code_42 : decode cX11_code 42 = .ok (.aload 4, 2) := by decide +kernel
theorem dX11_code_44 : decode cX11_code 44 = .ok (.iload_n 2, 1) := by decide +kernel
theorem dX11_code_45 : decode cX11_code 45 = .ok (.invokevirtual 178, 3) := by decide +kernel
theorem dX11_code_48 : decode cX11_code 48 = .ok (.ireturn, 1) := by decide +kernel
theorem wl_X11_144 : Cond.methodLink RX11 144 yX0_hasRule ∈ xT := xin 738 (by decide +kernel) rfl
theorem wl_X11_155 : Cond.methodLink RX11 155 yX0_termOf ∈ xT := xin 743 (by decide +kernel) rfl
theorem wl_X11_159 : Cond.methodLink RX11 159 yX0_rightOf ∈ xT := xin 742 (by decide +kernel) rfl
theorem wl_X11_178 : Cond.methodLink RX11 178 yX7_codeOrMissing ∈ xT := xin 744 (by decide +kernel) rfl
section XN_X11_code
variable {p : Program} {l : Launch} {e : Env} {R : Room} {s : State} {m : MethodId} {args : Array Value} {below : List Frame} {meth : Method} {c : Code} {H H0 : Heap} {locs : List Loc} {cells slots : Nat} {Q : State → Prop} {cc : ByteArray} {nL pc : Nat} {rt : Option FieldType} {ls : Array Slot} {rest : List Value} {D : xD} {ty : xTy} {h : xH}
theorem cl_X11_144 {v0 : Nat} {v1 : Int32} {r : Int32} (C0 : xC D RX11 cc nL rt p s m args meth c) (hR : xRep D ty h H) (hS : xS ty H0 H locs) (hF : jf_X0_hasRule ty h v0 v1 = some r) (t_v0 : ty v0 = some (0, 0)) (hrm : jr_X0_hasRule.frames + 1 ≤ R.frames ∧ 8 + (2 + 11) + jr_X0_hasRule.locals ≤ R.locals) (hsz : ls.size = nL) (hW : (rest.map fun v => v.category).sum ≤ 8) (hf : cells ≤ R.cells ∧ slots ≤ R.slots) (hdg : decode cc pc = .ok (.invokevirtual 144, 3)) (kk : ∀ (H1 : Heap) (locs1 : List Loc), xRep D ty h H1 → xS ty H0 H1 locs1 → W p l e R s m args below meth c H1 locs1 cells slots Q (F0 m (pc + 3) ls (.int r :: rest))) : W p l e R s m args below meth c H locs cells slots Q (F0 m pc ls (.int v1 :: .ref v0 :: rest)) := x_callV C0 (jc_X0_hasRule t_v0 hF) xm_X0_hasRule xi_X0_hasRule xe_X0_hasRule wl_X11_144 ⟨rfl, rfl, hrm⟩ (ci := 0) rfl t_v0 hR hS (As := [.int v1]) rfl hsz rfl hW hdg hf kk
theorem cl_X11_155 {v0 : Nat} {v1 : Int32} {r : Nat} (C0 : xC D RX11 cc nL rt p s m args meth c) (hR : xRep D ty h H) (hS : xS ty H0 H locs) (hF : jf_X0_termOf ty h v0 v1 = some r) (t_v0 : ty v0 = some (0, 0)) (hrm : jr_X0_termOf.frames + 1 ≤ R.frames ∧ 8 + (2 + 11) + jr_X0_termOf.locals ≤ R.locals) (hsz : ls.size = nL) (hW : (rest.map fun v => v.category).sum ≤ 8) (hf : cells ≤ R.cells ∧ slots ≤ R.slots) (hdg : decode cc pc = .ok (.invokevirtual 155, 3)) (kk : ∀ (H1 : Heap) (locs1 : List Loc), xRep D ty h H1 → xS ty H0 H1 locs1 → W p l e R s m args below meth c H1 locs1 cells slots Q (F0 m (pc + 3) ls (.ref r :: rest))) : W p l e R s m args below meth c H locs cells slots Q (F0 m pc ls (.int v1 :: .ref v0 :: rest)) := x_callV C0 (jc_X0_termOf t_v0 hF) xm_X0_termOf xi_X0_termOf xe_X0_termOf wl_X11_155 ⟨rfl, rfl, hrm⟩ (ci := 0) rfl t_v0 hR hS (As := [.int v1]) rfl hsz rfl hW hdg hf kk
theorem cl_X11_159 {v0 : Nat} {v1 : Int32} {r : Nat} (C0 : xC D RX11 cc nL rt p s m args meth c) (hR : xRep D ty h H) (hS : xS ty H0 H locs) (hF : jf_X0_rightOf ty h v0 v1 = some r) (t_v0 : ty v0 = some (0, 0)) (hrm : jr_X0_rightOf.frames + 1 ≤ R.frames ∧ 8 + (2 + 11) + jr_X0_rightOf.locals ≤ R.locals) (hsz : ls.size = nL) (hW : (rest.map fun v => v.category).sum ≤ 8) (hf : cells ≤ R.cells ∧ slots ≤ R.slots) (hdg : decode cc pc = .ok (.invokevirtual 159, 3)) (kk : ∀ (H1 : Heap) (locs1 : List Loc), xRep D ty h H1 → xS ty H0 H1 locs1 → W p l e R s m args below meth c H1 locs1 cells slots Q (F0 m (pc + 3) ls (.ref r :: rest))) : W p l e R s m args below meth c H locs cells slots Q (F0 m pc ls (.int v1 :: .ref v0 :: rest)) := x_callV C0 (jc_X0_rightOf t_v0 hF) xm_X0_rightOf xi_X0_rightOf xe_X0_rightOf wl_X11_159 ⟨rfl, rfl, hrm⟩ (ci := 0) rfl t_v0 hR hS (As := [.int v1]) rfl hsz rfl hW hdg hf kk
theorem cl_X11_178 {v0 : Nat} {v1 : Int32} {r : Int32} (C0 : xC D RX11 cc nL rt p s m args meth c) (hR : xRep D ty h H) (hS : xS ty H0 H locs) (hF : jf_X7_codeOrMissing ty h v0 v1 = some r) (t_v0 : ty v0 = some (0, 7)) (hrm : jr_X7_codeOrMissing.frames + 1 ≤ R.frames ∧ 8 + (2 + 11) + jr_X7_codeOrMissing.locals ≤ R.locals) (hsz : ls.size = nL) (hW : (rest.map fun v => v.category).sum ≤ 8) (hf : cells ≤ R.cells ∧ slots ≤ R.slots) (hdg : decode cc pc = .ok (.invokevirtual 178, 3)) (kk : ∀ (H1 : Heap) (locs1 : List Loc), xRep D ty h H1 → xS ty H0 H1 locs1 → W p l e R s m args below meth c H1 locs1 cells slots Q (F0 m (pc + 3) ls (.int r :: rest))) : W p l e R s m args below meth c H locs cells slots Q (F0 m pc ls (.int v1 :: .ref v0 :: rest)) := x_callV C0 (jc_X7_codeOrMissing t_v0 hF) xm_X7_codeOrMissing xi_X7_codeOrMissing xe_X7_codeOrMissing wl_X11_178 ⟨rfl, rfl, hrm⟩ (ci := 7) rfl t_v0 hR hS (As := [.int v1]) rfl hsz rfl hW hdg hf kk
end XN_X11_code
set_option maxHeartbeats 4000000 in
set_option maxRecDepth 100000 in
theorem jc_X11_code {l : Launch} {D : xD} {ty : xTy} {h : xH} {v0 : Nat} {v1 : Int32} {v2 : Int32} {v3 : Int32} {r : Int32} (t_v0 : ty v0 = some (0, 11)) (hF : jf_X11_code ty h v0 v1 v2 v3 = some r) : Met l yX11_code (xws yX11_code cX11_code 5 (some .int)) jr_X11_code (xPc D ty h [.ref v0, .int v1, .int v2, .int v3]) (xQ D ty (some (.int r)) h) 0 0 (xdom ty) := by
  refine x_met (by decide) ?_
  intro p e s m below meth c C0 hR
  generalize hargs : ([.ref v0, .int v1, .int v2, .int v3] : List Value).toArray = args at C0 ⊢
  have hx := C0.1
  have hb := C0.2.1
  have hown := C0.2.2.2.2.2.1
  have hts := C0.2.2.2.2.2.2.1
  have hS : xS ty s.heap s.heap [] := xS.rf
  have hl := lv_entry ([.ref v0, .int v1, .int v2, .int v3]) (n := 5) (Nat.le_of_ble_eq_true rfl)
  rw [← hargs, lg_entry_eq]
  rw [hargs]
  generalize (lg_sl ([.ref v0, .int v1, .int v2, .int v3]) ++ List.replicate (5 - (lg_sl ([.ref v0, .int v1, .int v2, .int v3])).length) Slot.unset).toArray = ls at hl ⊢
  have hl : lv_has ls 5 [(0, .ref v0), (1, .int v1), (2, .int v2), (3, .int v3)] := hl
  unfold jf_X11_code at hF
  refine lv_aload_n hx hb dX11_code_0 rfl (lv_at hl 0 rfl) ?_
  obtain ⟨a1, e_a1, hF⟩ := xbd hF
  obtain ⟨e_a1, t_a1⟩ := xgo_sp e_a1
  refine gf_X11_20 C0 hR t_v0 e_a1 dX11_code_1 ?_
  refine lv_iload_n hx hb dX11_code_4 rfl (lv_at hl 1 rfl) ?_
  obtain ⟨a2, e_a2, hF⟩ := xbd hF
  refine cl_X11_144 C0 hR hS e_a2 t_a1 ⟨(Nat.le_of_ble_eq_true rfl), (Nat.le_of_ble_eq_true rfl)⟩ hl.1 (Nat.le_of_ble_eq_true rfl) ⟨(Nat.le_of_ble_eq_true rfl), (Nat.le_of_ble_eq_true rfl)⟩ dX11_code_5 (fun H locs hR hS => ?_)
  refine lv_if_eq (tgt := 15) hx hb dX11_code_8 (by decide) (fun c3 => ?_) (fun c3 => ?_)
  · have hF := xif hF c3
    refine lv_iconst (v := (-1)) hx hb dX11_code_15 (by decide) ?_
    cases hF
    exact x_iret C0 hR hS dX11_code_16
  · have hF := xel hF c3
    refine lv_iload_n hx hb dX11_code_11 rfl (lv_at hl 2 rfl) ?_
    refine lv_if_ge (tgt := 17) hx hb dX11_code_12 (by decide) (fun c4 => ?_) (fun c4 => ?_)
    · have hF := xif hF c4
      refine lv_iload_n hx hb dX11_code_17 rfl (lv_at hl 3 rfl) ?_
      refine lv_if_eq (tgt := 32) hx hb dX11_code_18 (by decide) (fun c5 => ?_) (fun c5 => ?_)
      · have hF := xif hF c5
        refine lv_aload_n hx hb dX11_code_32 rfl (lv_at hl 0 rfl) ?_
        obtain ⟨a6, e_a6, hF⟩ := xbd hF
        obtain ⟨e_a6, t_a6⟩ := xgo_sp e_a6
        refine gf_X11_20 C0 hR t_v0 e_a6 dX11_code_33 ?_
        refine lv_iload_n hx hb dX11_code_36 rfl (lv_at hl 1 rfl) ?_
        obtain ⟨a7, e_a7, hF⟩ := xbd hF
        obtain ⟨u8, e_u8, hF⟩ := xbd hF
        have t_a7 := xck_sp e_u8
        refine cl_X11_155 C0 hR hS e_a7 t_a6 ⟨(Nat.le_of_ble_eq_true rfl), (Nat.le_of_ble_eq_true rfl)⟩ hl.1 (Nat.le_of_ble_eq_true rfl) ⟨(Nat.le_of_ble_eq_true rfl), (Nat.le_of_ble_eq_true rfl)⟩ dX11_code_37 (fun H locs hR hS => ?_)
        refine lv_astore (lv' := [(4, .ref a7), (0, .ref v0), (1, .int v1), (2, .int v2), (3, .int v3)]) hx hb dX11_code_40 hl (by decide) rfl (fun ls hl => ?_)
        refine lv_aload hx hb dX11_code_42 (lv_at hl 0 rfl) ?_
        refine lv_iload_n hx hb dX11_code_44 rfl (lv_at hl 3 rfl) ?_
        obtain ⟨a9, e_a9, hF⟩ := xbd hF
        refine cl_X11_178 C0 hR hS e_a9 t_a7 ⟨(Nat.le_of_ble_eq_true rfl), (Nat.le_of_ble_eq_true rfl)⟩ hl.1 (Nat.le_of_ble_eq_true rfl) ⟨(Nat.le_of_ble_eq_true rfl), (Nat.le_of_ble_eq_true rfl)⟩ dX11_code_45 (fun H locs hR hS => ?_)
        cases hF
        exact x_iret C0 hR hS dX11_code_48
      · have hF := xel hF c5
        refine lv_aload_n hx hb dX11_code_21 rfl (lv_at hl 0 rfl) ?_
        obtain ⟨a10, e_a10, hF⟩ := xbd hF
        obtain ⟨e_a10, t_a10⟩ := xgo_sp e_a10
        refine gf_X11_20 C0 hR t_v0 e_a10 dX11_code_22 ?_
        refine lv_iload_n hx hb dX11_code_25 rfl (lv_at hl 1 rfl) ?_
        obtain ⟨a11, e_a11, hF⟩ := xbd hF
        obtain ⟨u12, e_u12, hF⟩ := xbd hF
        have t_a11 := xck_sp e_u12
        refine cl_X11_159 C0 hR hS e_a11 t_a10 ⟨(Nat.le_of_ble_eq_true rfl), (Nat.le_of_ble_eq_true rfl)⟩ hl.1 (Nat.le_of_ble_eq_true rfl) ⟨(Nat.le_of_ble_eq_true rfl), (Nat.le_of_ble_eq_true rfl)⟩ dX11_code_26 (fun H locs hR hS => ?_)
        refine lv_goto (tgt := 40) hx hb dX11_code_29 (by decide) ?_
        refine lv_astore (lv' := [(4, .ref a11), (0, .ref v0), (1, .int v1), (2, .int v2), (3, .int v3)]) hx hb dX11_code_40 hl (by decide) rfl (fun ls hl => ?_)
        refine lv_aload hx hb dX11_code_42 (lv_at hl 0 rfl) ?_
        refine lv_iload_n hx hb dX11_code_44 rfl (lv_at hl 3 rfl) ?_
        obtain ⟨a13, e_a13, hF⟩ := xbd hF
        refine cl_X11_178 C0 hR hS e_a13 t_a11 ⟨(Nat.le_of_ble_eq_true rfl), (Nat.le_of_ble_eq_true rfl)⟩ hl.1 (Nat.le_of_ble_eq_true rfl) ⟨(Nat.le_of_ble_eq_true rfl), (Nat.le_of_ble_eq_true rfl)⟩ dX11_code_45 (fun H locs hR hS => ?_)
        cases hF
        exact x_iret C0 hR hS dX11_code_48
    · have hF := xel hF c4
      refine lv_iconst (v := (-1)) hx hb dX11_code_15 (by decide) ?_
      cases hF
      exact x_iret C0 hR hS dX11_code_16
theorem xm_X11_code : xMw yX11_code cX11_code 5 (some .int) 3 := ⟨xin 737 (by decide +kernel) rfl, xin 114 (by decide +kernel) rfl, by decide +kernel⟩
theorem xi_X11_code : Cond.instanceMethod yX11_code ∈ xT := xin 735 (by decide +kernel) rfl
theorem xe_X11_code : Cond.selects yX11_code.cls yX11_code yX11_code ∈ xT := xin 736 (by decide +kernel) rfl
theorem dX11_skip_0 : decode cX11_skip 0 = .ok (.aload_n 0, 1) := by decide +kernel
theorem dX11_skip_1 : decode cX11_skip 1 = .ok (.getfield 20, 3) := by decide +kernel
theorem dX11_skip_4 : decode cX11_skip 4 = .ok (.iload_n 1, 1) := by decide +kernel
theorem dX11_skip_5 : decode cX11_skip 5 = .ok (.invokevirtual 144, 3) := by decide +kernel
theorem dX11_skip_8 : decode cX11_skip 8 = .ok (.ifCond .eq 7, 3) := by decide +kernel
theorem dX11_skip_11 : decode cX11_skip 11 = .ok (.iload_n 2, 1) := by decide +kernel
theorem dX11_skip_12 : decode cX11_skip 12 = .ok (.ifCond .ge 5, 3) := by decide +kernel
theorem dX11_skip_15 : decode cX11_skip 15 = .ok (.iconst (-1), 1) := by decide +kernel
theorem dX11_skip_16 : decode cX11_skip 16 = .ok (.ireturn, 1) := by decide +kernel
theorem dX11_skip_17 : decode cX11_skip 17 = .ok (.aload_n 0, 1) := by decide +kernel
theorem dX11_skip_18 : decode cX11_skip 18 = .ok (.getfield 20, 3) := by decide +kernel
theorem dX11_skip_21 : decode cX11_skip 21 = .ok (.iload_n 1, 1) := by decide +kernel
theorem dX11_skip_22 : decode cX11_skip 22 = .ok (.invokevirtual 155, 3) := by decide +kernel
theorem dX11_skip_25 : decode cX11_skip 25 = .ok (.astore_n 3, 1) := by decide +kernel
theorem dX11_skip_26 : decode cX11_skip 26 = .ok (.iload_n 2, 1) := by decide +kernel
theorem dX11_skip_27 : decode cX11_skip 27 = .ok (.aload_n 3, 1) := by decide +kernel
theorem dX11_skip_28 : decode cX11_skip 28 = .ok (.getfield 128, 3) := by decide +kernel
theorem dX11_skip_31 : decode cX11_skip 31 = .ok (.if_icmp .ge 11, 3) := by decide +kernel
theorem dX11_skip_34 : decode cX11_skip 34 = .ok (.aload_n 3, 1) := by decide +kernel
theorem dX11_skip_35 : decode cX11_skip 35 = .ok (.iload_n 2, 1) := by decide +kernel
theorem dX11_skip_36 : decode cX11_skip 36 = .ok (.invokevirtual 181, 3) := by decide +kernel
theorem dX11_skip_39 : decode cX11_skip 39 = .ok (.goto 5, 3) := by decide +kernel
theorem dX11_skip_42 : decode cX11_skip 42 = .ok (.bipush (-2), 2) := by decide +kernel
theorem dX11_skip_44 : decode cX11_skip 44 = .ok (.ireturn, 1) := by decide +kernel
theorem wl_X11_181 : Cond.methodLink RX11 181 yX7_behind ∈ xT := xin 752 (by decide +kernel) rfl
section XN_X11_skip
variable {p : Program} {l : Launch} {e : Env} {R : Room} {s : State} {m : MethodId} {args : Array Value} {below : List Frame} {meth : Method} {c : Code} {H H0 : Heap} {locs : List Loc} {cells slots : Nat} {Q : State → Prop} {cc : ByteArray} {nL pc : Nat} {rt : Option FieldType} {ls : Array Slot} {rest : List Value} {D : xD} {ty : xTy} {h : xH}
theorem cl_X11_181 {v0 : Nat} {v1 : Int32} {r : Int32} (C0 : xC D RX11 cc nL rt p s m args meth c) (hR : xRep D ty h H) (hS : xS ty H0 H locs) (hF : jf_X7_behind ty h v0 v1 = some r) (t_v0 : ty v0 = some (0, 7)) (hrm : jr_X7_behind.frames + 1 ≤ R.frames ∧ 8 + (4 + 11) + jr_X7_behind.locals ≤ R.locals) (hsz : ls.size = nL) (hW : (rest.map fun v => v.category).sum ≤ 8) (hf : cells ≤ R.cells ∧ slots ≤ R.slots) (hdg : decode cc pc = .ok (.invokevirtual 181, 3)) (kk : ∀ (H1 : Heap) (locs1 : List Loc), xRep D ty h H1 → xS ty H0 H1 locs1 → W p l e R s m args below meth c H1 locs1 cells slots Q (F0 m (pc + 3) ls (.int r :: rest))) : W p l e R s m args below meth c H locs cells slots Q (F0 m pc ls (.int v1 :: .ref v0 :: rest)) := x_callV C0 (jc_X7_behind t_v0 hF) xm_X7_behind xi_X7_behind xe_X7_behind wl_X11_181 ⟨rfl, rfl, hrm⟩ (ci := 7) rfl t_v0 hR hS (As := [.int v1]) rfl hsz rfl hW hdg hf kk
end XN_X11_skip
set_option maxHeartbeats 4000000 in
set_option maxRecDepth 100000 in
theorem jc_X11_skip {l : Launch} {D : xD} {ty : xTy} {h : xH} {v0 : Nat} {v1 : Int32} {v2 : Int32} {r : Int32} (t_v0 : ty v0 = some (0, 11)) (hF : jf_X11_skip ty h v0 v1 v2 = some r) : Met l yX11_skip (xws yX11_skip cX11_skip 4 (some .int)) jr_X11_skip (xPc D ty h [.ref v0, .int v1, .int v2]) (xQ D ty (some (.int r)) h) 0 0 (xdom ty) := by
  refine x_met (by decide) ?_
  intro p e s m below meth c C0 hR
  generalize hargs : ([.ref v0, .int v1, .int v2] : List Value).toArray = args at C0 ⊢
  have hx := C0.1
  have hb := C0.2.1
  have hown := C0.2.2.2.2.2.1
  have hts := C0.2.2.2.2.2.2.1
  have hS : xS ty s.heap s.heap [] := xS.rf
  have hl := lv_entry ([.ref v0, .int v1, .int v2]) (n := 4) (Nat.le_of_ble_eq_true rfl)
  rw [← hargs, lg_entry_eq]
  rw [hargs]
  generalize (lg_sl ([.ref v0, .int v1, .int v2]) ++ List.replicate (4 - (lg_sl ([.ref v0, .int v1, .int v2])).length) Slot.unset).toArray = ls at hl ⊢
  have hl : lv_has ls 4 [(0, .ref v0), (1, .int v1), (2, .int v2)] := hl
  unfold jf_X11_skip at hF
  refine lv_aload_n hx hb dX11_skip_0 rfl (lv_at hl 0 rfl) ?_
  obtain ⟨a1, e_a1, hF⟩ := xbd hF
  obtain ⟨e_a1, t_a1⟩ := xgo_sp e_a1
  refine gf_X11_20 C0 hR t_v0 e_a1 dX11_skip_1 ?_
  refine lv_iload_n hx hb dX11_skip_4 rfl (lv_at hl 1 rfl) ?_
  obtain ⟨a2, e_a2, hF⟩ := xbd hF
  refine cl_X11_144 C0 hR hS e_a2 t_a1 ⟨(Nat.le_of_ble_eq_true rfl), (Nat.le_of_ble_eq_true rfl)⟩ hl.1 (Nat.le_of_ble_eq_true rfl) ⟨(Nat.le_of_ble_eq_true rfl), (Nat.le_of_ble_eq_true rfl)⟩ dX11_skip_5 (fun H locs hR hS => ?_)
  refine lv_if_eq (tgt := 15) hx hb dX11_skip_8 (by decide) (fun c3 => ?_) (fun c3 => ?_)
  · have hF := xif hF c3
    refine lv_iconst (v := (-1)) hx hb dX11_skip_15 (by decide) ?_
    cases hF
    exact x_iret C0 hR hS dX11_skip_16
  · have hF := xel hF c3
    refine lv_iload_n hx hb dX11_skip_11 rfl (lv_at hl 2 rfl) ?_
    refine lv_if_ge (tgt := 17) hx hb dX11_skip_12 (by decide) (fun c4 => ?_) (fun c4 => ?_)
    · have hF := xif hF c4
      refine lv_aload_n hx hb dX11_skip_17 rfl (lv_at hl 0 rfl) ?_
      obtain ⟨a5, e_a5, hF⟩ := xbd hF
      obtain ⟨e_a5, t_a5⟩ := xgo_sp e_a5
      refine gf_X11_20 C0 hR t_v0 e_a5 dX11_skip_18 ?_
      refine lv_iload_n hx hb dX11_skip_21 rfl (lv_at hl 1 rfl) ?_
      obtain ⟨a6, e_a6, hF⟩ := xbd hF
      obtain ⟨u7, e_u7, hF⟩ := xbd hF
      have t_a6 := xck_sp e_u7
      refine cl_X11_155 C0 hR hS e_a6 t_a5 ⟨(Nat.le_of_ble_eq_true rfl), (Nat.le_of_ble_eq_true rfl)⟩ hl.1 (Nat.le_of_ble_eq_true rfl) ⟨(Nat.le_of_ble_eq_true rfl), (Nat.le_of_ble_eq_true rfl)⟩ dX11_skip_22 (fun H locs hR hS => ?_)
      refine lv_astore_n (lv' := [(3, .ref a6), (0, .ref v0), (1, .int v1), (2, .int v2)]) hx hb dX11_skip_25 rfl hl (by decide) rfl (fun ls hl => ?_)
      refine lv_iload_n hx hb dX11_skip_26 rfl (lv_at hl 3 rfl) ?_
      refine lv_aload_n hx hb dX11_skip_27 rfl (lv_at hl 0 rfl) ?_
      refine gf_X11_128 C0 hR t_a6 dX11_skip_28 ?_
      refine lv_icmp_ge (tgt := 42) hx hb dX11_skip_31 (by decide) (fun c8 => ?_) (fun c8 => ?_)
      · have hF := xif hF c8
        refine lv_bipush (v := (-2)) hx hb dX11_skip_42 (by decide) ?_
        cases hF
        exact x_iret C0 hR hS dX11_skip_44
      · have hF := xel hF c8
        refine lv_aload_n hx hb dX11_skip_34 rfl (lv_at hl 0 rfl) ?_
        refine lv_iload_n hx hb dX11_skip_35 rfl (lv_at hl 3 rfl) ?_
        obtain ⟨a9, e_a9, hF⟩ := xbd hF
        refine cl_X11_181 C0 hR hS e_a9 t_a6 ⟨(Nat.le_of_ble_eq_true rfl), (Nat.le_of_ble_eq_true rfl)⟩ hl.1 (Nat.le_of_ble_eq_true rfl) ⟨(Nat.le_of_ble_eq_true rfl), (Nat.le_of_ble_eq_true rfl)⟩ dX11_skip_36 (fun H locs hR hS => ?_)
        refine lv_goto (tgt := 44) hx hb dX11_skip_39 (by decide) ?_
        cases hF
        exact x_iret C0 hR hS dX11_skip_44
    · have hF := xel hF c4
      refine lv_iconst (v := (-1)) hx hb dX11_skip_15 (by decide) ?_
      cases hF
      exact x_iret C0 hR hS dX11_skip_16
theorem xm_X11_skip : xMw yX11_skip cX11_skip 4 (some .int) 2 := ⟨xin 751 (by decide +kernel) rfl, xin 114 (by decide +kernel) rfl, by decide +kernel⟩
theorem xi_X11_skip : Cond.instanceMethod yX11_skip ∈ xT := xin 749 (by decide +kernel) rfl
theorem xe_X11_skip : Cond.selects yX11_skip.cls yX11_skip yX11_skip ∈ xT := xin 750 (by decide +kernel) rfl
theorem dX11_asked_0 : decode cX11_asked 0 = .ok (.iload_n 1, 1) := by decide +kernel
theorem dX11_asked_1 : decode cX11_asked 1 = .ok (.ifCond .ge 7, 3) := by decide +kernel
theorem dX11_asked_4 : decode cX11_asked 4 = .ok (.iconst (-1), 1) := by decide +kernel
theorem dX11_asked_5 : decode cX11_asked 5 = .ok (.goto 11, 3) := by decide +kernel
theorem dX11_asked_8 : decode cX11_asked 8 = .ok (.aload_n 0, 1) := by decide +kernel
theorem dX11_asked_9 : decode cX11_asked 9 = .ok (.getfield 32, 3) := by decide +kernel
theorem dX11_asked_12 : decode cX11_asked 12 = .ok (.iload_n 1, 1) := by decide +kernel
theorem dX11_asked_13 : decode cX11_asked 13 = .ok (.invokevirtual 178, 3) := by decide +kernel
theorem dX11_asked_16 : decode cX11_asked 16 = .ok (.ireturn, 1) := by decide +kernel
set_option maxHeartbeats 4000000 in
set_option maxRecDepth 100000 in
theorem jc_X11_asked {l : Launch} {D : xD} {ty : xTy} {h : xH} {v0 : Nat} {v1 : Int32} {r : Int32} (t_v0 : ty v0 = some (0, 11)) (hF : jf_X11_asked ty h v0 v1 = some r) : Met l yX11_asked (xws yX11_asked cX11_asked 2 (some .int)) jr_X11_asked (xPc D ty h [.ref v0, .int v1]) (xQ D ty (some (.int r)) h) 0 0 (xdom ty) := by
  refine x_met (by decide) ?_
  intro p e s m below meth c C0 hR
  generalize hargs : ([.ref v0, .int v1] : List Value).toArray = args at C0 ⊢
  have hx := C0.1
  have hb := C0.2.1
  have hown := C0.2.2.2.2.2.1
  have hts := C0.2.2.2.2.2.2.1
  have hS : xS ty s.heap s.heap [] := xS.rf
  have hl := lv_entry ([.ref v0, .int v1]) (n := 2) (Nat.le_of_ble_eq_true rfl)
  rw [← hargs, lg_entry_eq]
  rw [hargs]
  generalize (lg_sl ([.ref v0, .int v1]) ++ List.replicate (2 - (lg_sl ([.ref v0, .int v1])).length) Slot.unset).toArray = ls at hl ⊢
  have hl : lv_has ls 2 [(0, .ref v0), (1, .int v1)] := hl
  unfold jf_X11_asked at hF
  refine lv_iload_n hx hb dX11_asked_0 rfl (lv_at hl 1 rfl) ?_
  refine lv_if_ge (tgt := 8) hx hb dX11_asked_1 (by decide) (fun c1 => ?_) (fun c1 => ?_)
  · have hF := xif hF c1
    refine lv_aload_n hx hb dX11_asked_8 rfl (lv_at hl 0 rfl) ?_
    obtain ⟨a2, e_a2, hF⟩ := xbd hF
    obtain ⟨e_a2, t_a2⟩ := xgo_sp e_a2
    refine gf_X11_32 C0 hR t_v0 e_a2 dX11_asked_9 ?_
    refine lv_iload_n hx hb dX11_asked_12 rfl (lv_at hl 1 rfl) ?_
    obtain ⟨a3, e_a3, hF⟩ := xbd hF
    refine cl_X11_178 C0 hR hS e_a3 t_a2 ⟨(Nat.le_of_ble_eq_true rfl), (Nat.le_of_ble_eq_true rfl)⟩ hl.1 (Nat.le_of_ble_eq_true rfl) ⟨(Nat.le_of_ble_eq_true rfl), (Nat.le_of_ble_eq_true rfl)⟩ dX11_asked_13 (fun H locs hR hS => ?_)
    cases hF
    exact x_iret C0 hR hS dX11_asked_16
  · have hF := xel hF c1
    refine lv_iconst (v := (-1)) hx hb dX11_asked_4 (by decide) ?_
    refine lv_goto (tgt := 16) hx hb dX11_asked_5 (by decide) ?_
    cases hF
    exact x_iret C0 hR hS dX11_asked_16
theorem xm_X11_asked : xMw yX11_asked cX11_asked 2 (some .int) 1 := ⟨xin 759 (by decide +kernel) rfl, xin 114 (by decide +kernel) rfl, by decide +kernel⟩
theorem xi_X11_asked : Cond.instanceMethod yX11_asked ∈ xT := xin 757 (by decide +kernel) rfl
theorem xe_X11_asked : Cond.selects yX11_asked.cls yX11_asked yX11_asked ∈ xT := xin 758 (by decide +kernel) rfl
theorem dX11_turnedNodes_0 : decode cX11_turnedNodes 0 = .ok (.aload_n 0, 1) := by decide +kernel
theorem dX11_turnedNodes_1 : decode cX11_turnedNodes 1 = .ok (.getfield 62, 3) := by decide +kernel
theorem dX11_turnedNodes_4 : decode cX11_turnedNodes 4 = .ok (.invokevirtual 332, 3) := by decide +kernel
theorem dX11_turnedNodes_7 : decode cX11_turnedNodes 7 = .ok (.istore_n 2, 1) := by decide +kernel
theorem dX11_turnedNodes_8 : decode cX11_turnedNodes 8 = .ok (.aload_n 0, 1) := by decide +kernel
theorem dX11_turnedNodes_9 : decode cX11_turnedNodes 9 = .ok (.getfield 55, 3) := by decide +kernel
theorem dX11_turnedNodes_12 : decode cX11_turnedNodes 12 = .ok (.iload_n 1, 1) := by decide +kernel
theorem dX11_turnedNodes_13 : decode cX11_turnedNodes 13 = .ok (.invokevirtual 347, 3) := by decide +kernel
theorem dX11_turnedNodes_16 : decode cX11_turnedNodes 16 = .ok (.aload_n 0, 1) := by decide +kernel
theorem dX11_turnedNodes_17 : decode cX11_turnedNodes 17 = .ok (.getfield 62, 3) := by decide +kernel
theorem dX11_turnedNodes_20 : decode cX11_turnedNodes 20 = .ok (.aload_n 0, 1) := by decide +kernel
theorem dX11_turnedNodes_21 : decode cX11_turnedNodes 21 = .ok (.getfield 20, 3) := by decide +kernel
theorem dX11_turnedNodes_24 : decode cX11_turnedNodes 24 = .ok (.aload_n 0, 1) := by decide +kernel
theorem dX11_turnedNodes_25 : decode cX11_turnedNodes 25 = .ok (.getfield 55, 3) := by decide +kernel
theorem dX11_turnedNodes_28 : decode cX11_turnedNodes 28 = .ok (.invokevirtual 117, 3) := by decide +kernel
theorem dX11_turnedNodes_31 : decode cX11_turnedNodes 31 = .ok (.aload_n 0, 1) := by decide +kernel
theorem dX11_turnedNodes_32 : decode cX11_turnedNodes 32 = .ok (.getfield 62, 3) := by decide +kernel
theorem dX11_turnedNodes_35 : decode cX11_turnedNodes 35 = .ok (.invokevirtual 332, 3) := by decide +kernel
theorem dX11_turnedNodes_38 : decode cX11_turnedNodes 38 = .ok (.iload_n 2, 1) := by decide +kernel
theorem dX11_turnedNodes_39 : decode cX11_turnedNodes 39 = .ok (.isub, 1) := by decide +kernel
theorem dX11_turnedNodes_40 : decode cX11_turnedNodes 40 = .ok (.invokestatic 350, 3) := by decide +kernel
theorem dX11_turnedNodes_43 : decode cX11_turnedNodes 43 = .ok (.ireturn, 1) := by decide +kernel
theorem wl_X11_332 : Cond.methodLink RX11 332 yX9_nodes ∈ xT := xin 769 (by decide +kernel) rfl
theorem wl_X11_347 : Cond.methodLink RX11 347 yX6_turn ∈ xT := xin 781 (by decide +kernel) rfl
theorem wm_X11_350 : Cond.methodLink RX11 350 Lib.Math.abs.name ∈ xT := xin 789 (by decide +kernel) rfl
section XN_X11_turnedNodes
variable {p : Program} {l : Launch} {e : Env} {R : Room} {s : State} {m : MethodId} {args : Array Value} {below : List Frame} {meth : Method} {c : Code} {H H0 : Heap} {locs : List Loc} {cells slots : Nat} {Q : State → Prop} {cc : ByteArray} {nL pc : Nat} {rt : Option FieldType} {ls : Array Slot} {rest : List Value} {D : xD} {ty : xTy} {h : xH}
theorem cl_X11_332 {v0 : Nat} {r : Int32} (C0 : xC D RX11 cc nL rt p s m args meth c) (hR : xRep D ty h H) (hS : xS ty H0 H locs) (hF : jf_X9_nodes ty h v0 = some r) (t_v0 : ty v0 = some (0, 9)) (hrm : jr_X9_nodes.frames + 1 ≤ R.frames ∧ 8 + (3 + 11) + jr_X9_nodes.locals ≤ R.locals) (hsz : ls.size = nL) (hW : (rest.map fun v => v.category).sum ≤ 8) (hf : cells ≤ R.cells ∧ slots ≤ R.slots) (hdg : decode cc pc = .ok (.invokevirtual 332, 3)) (kk : ∀ (H1 : Heap) (locs1 : List Loc), xRep D ty h H1 → xS ty H0 H1 locs1 → W p l e R s m args below meth c H1 locs1 cells slots Q (F0 m (pc + 3) ls (.int r :: rest))) : W p l e R s m args below meth c H locs cells slots Q (F0 m pc ls (.ref v0 :: rest)) := x_callV C0 (jc_X9_nodes t_v0 hF) xm_X9_nodes xi_X9_nodes xe_X9_nodes wl_X11_332 ⟨rfl, rfl, hrm⟩ (ci := 9) rfl t_v0 hR hS (As := []) rfl hsz rfl hW hdg hf kk
theorem cl_X11_347 {v0 : Nat} {v1 : Int32} {h9 : xH} (C0 : xC D RX11 cc nL rt p s m args meth c) (hR : xRep D ty h H) (hS : xS ty H0 H locs) (hF : jf_X6_turn ty h v0 v1 = some h9) (t_v0 : ty v0 = some (0, 6)) (hrm : jr_X6_turn.frames + 1 ≤ R.frames ∧ 8 + (2 + 11) + jr_X6_turn.locals ≤ R.locals) (hsz : ls.size = nL) (hW : (rest.map fun v => v.category).sum ≤ 8) (hf : cells ≤ R.cells ∧ slots ≤ R.slots) (hdg : decode cc pc = .ok (.invokevirtual 347, 3)) (kk : ∀ (H1 : Heap) (locs1 : List Loc), xRep D ty h9 H1 → xS ty H0 H1 locs1 → W p l e R s m args below meth c H1 locs1 cells slots Q (F0 m (pc + 3) ls rest)) : W p l e R s m args below meth c H locs cells slots Q (F0 m pc ls (.int v1 :: .ref v0 :: rest)) := x_callV C0 (jc_X6_turn t_v0 hF) xm_X6_turn xi_X6_turn xe_X6_turn wl_X11_347 ⟨rfl, rfl, hrm⟩ (ci := 6) rfl t_v0 hR hS (As := [.int v1]) rfl hsz rfl hW hdg hf kk
theorem mm_X11_350 {x : Int32} (C0 : xC D RX11 cc nL rt p s m args meth c) (hsz : ls.size = nL) (h1 : 1 ≤ R.frames) (h2 : (rest.map fun v => v.category).sum + 13 ≤ R.locals) (hf : cells ≤ R.cells ∧ slots ≤ R.slots) (hdg : decode cc pc = .ok (.invokestatic 350, 3)) (kk : W p l e R s m args below meth c H locs cells slots Q (F0 m (pc + 3) ls (.int (xabs x) :: rest))) : W p l e R s m args below meth c H locs cells slots Q (F0 m pc ls (.int x :: rest)) := va_mabs C0.1 C0.2.1 (C0.2.2.1.trans hsz.symm) C0.2.2.2.2.2.1 (C0.2.2.2.2.2.2.1 _ wm_X11_350) (C0.2.2.2.2.2.2.1 _ ms_abs) (C0.2.2.2.2.2.2.1 _ ms_init) (C0.2.2.2.2.2.2.1 _ mc_abs) h1 h2 hf.1 hf.2 hdg kk
end XN_X11_turnedNodes
set_option maxHeartbeats 4000000 in
set_option maxRecDepth 100000 in
theorem jc_X11_turnedNodes {l : Launch} {D : xD} {ty : xTy} {h : xH} {v0 : Nat} {v1 : Int32} {r : Int32} {h9 : xH} (t_v0 : ty v0 = some (0, 11)) (hF : jf_X11_turnedNodes ty h v0 v1 = some (r, h9)) : Met l yX11_turnedNodes (xws yX11_turnedNodes cX11_turnedNodes 3 (some .int)) jr_X11_turnedNodes (xPc D ty h [.ref v0, .int v1]) (xQ D ty (some (.int r)) h9) 0 0 (xdom ty) := by
  refine x_met (by decide) ?_
  intro p e s m below meth c C0 hR
  generalize hargs : ([.ref v0, .int v1] : List Value).toArray = args at C0 ⊢
  have hx := C0.1
  have hb := C0.2.1
  have hown := C0.2.2.2.2.2.1
  have hts := C0.2.2.2.2.2.2.1
  have hS : xS ty s.heap s.heap [] := xS.rf
  have hl := lv_entry ([.ref v0, .int v1]) (n := 3) (Nat.le_of_ble_eq_true rfl)
  rw [← hargs, lg_entry_eq]
  rw [hargs]
  generalize (lg_sl ([.ref v0, .int v1]) ++ List.replicate (3 - (lg_sl ([.ref v0, .int v1])).length) Slot.unset).toArray = ls at hl ⊢
  have hl : lv_has ls 3 [(0, .ref v0), (1, .int v1)] := hl
  unfold jf_X11_turnedNodes at hF
  refine lv_aload_n hx hb dX11_turnedNodes_0 rfl (lv_at hl 0 rfl) ?_
  obtain ⟨a1, e_a1, hF⟩ := xbd hF
  obtain ⟨e_a1, t_a1⟩ := xgo_sp e_a1
  refine gf_X11_62 C0 hR t_v0 e_a1 dX11_turnedNodes_1 ?_
  obtain ⟨a2, e_a2, hF⟩ := xbd hF
  refine cl_X11_332 C0 hR hS e_a2 t_a1 ⟨(Nat.le_of_ble_eq_true rfl), (Nat.le_of_ble_eq_true rfl)⟩ hl.1 (Nat.le_of_ble_eq_true rfl) ⟨(Nat.le_of_ble_eq_true rfl), (Nat.le_of_ble_eq_true rfl)⟩ dX11_turnedNodes_4 (fun H locs hR hS => ?_)
  refine lv_istore_n (lv' := [(2, .int a2), (0, .ref v0), (1, .int v1)]) hx hb dX11_turnedNodes_7 rfl hl (by decide) rfl (fun ls hl => ?_)
  refine lv_aload_n hx hb dX11_turnedNodes_8 rfl (lv_at hl 1 rfl) ?_
  obtain ⟨a3, e_a3, hF⟩ := xbd hF
  obtain ⟨e_a3, t_a3⟩ := xgo_sp e_a3
  refine gf_X11_55 C0 hR t_v0 e_a3 dX11_turnedNodes_9 ?_
  refine lv_iload_n hx hb dX11_turnedNodes_12 rfl (lv_at hl 2 rfl) ?_
  obtain ⟨h4, e_h4, hF⟩ := xbd hF
  refine cl_X11_347 C0 hR hS e_h4 t_a3 ⟨(Nat.le_of_ble_eq_true rfl), (Nat.le_of_ble_eq_true rfl)⟩ hl.1 (Nat.le_of_ble_eq_true rfl) ⟨(Nat.le_of_ble_eq_true rfl), (Nat.le_of_ble_eq_true rfl)⟩ dX11_turnedNodes_13 (fun H locs hR hS => ?_)
  refine lv_aload_n hx hb dX11_turnedNodes_16 rfl (lv_at hl 1 rfl) ?_
  obtain ⟨a5, e_a5, hF⟩ := xbd hF
  obtain ⟨e_a5, t_a5⟩ := xgo_sp e_a5
  refine gf_X11_62 C0 hR t_v0 e_a5 dX11_turnedNodes_17 ?_
  refine lv_aload_n hx hb dX11_turnedNodes_20 rfl (lv_at hl 1 rfl) ?_
  obtain ⟨a6, e_a6, hF⟩ := xbd hF
  obtain ⟨e_a6, t_a6⟩ := xgo_sp e_a6
  refine gf_X11_20 C0 hR t_v0 e_a6 dX11_turnedNodes_21 ?_
  refine lv_aload_n hx hb dX11_turnedNodes_24 rfl (lv_at hl 1 rfl) ?_
  obtain ⟨a7, e_a7, hF⟩ := xbd hF
  obtain ⟨e_a7, t_a7⟩ := xgo_sp e_a7
  refine gf_X11_55 C0 hR t_v0 e_a7 dX11_turnedNodes_25 ?_
  obtain ⟨h8, e_h8, hF⟩ := xbd hF
  refine cl_X11_117 C0 hR hS e_h8 t_a5 t_a6 t_a7 ⟨(Nat.le_of_ble_eq_true rfl), (Nat.le_of_ble_eq_true rfl)⟩ hl.1 (Nat.le_of_ble_eq_true rfl) ⟨(Nat.le_of_ble_eq_true rfl), (Nat.le_of_ble_eq_true rfl)⟩ dX11_turnedNodes_28 (fun H locs hR hS => ?_)
  refine lv_aload_n hx hb dX11_turnedNodes_31 rfl (lv_at hl 1 rfl) ?_
  obtain ⟨a9, e_a9, hF⟩ := xbd hF
  obtain ⟨e_a9, t_a9⟩ := xgo_sp e_a9
  refine gf_X11_62 C0 hR t_v0 e_a9 dX11_turnedNodes_32 ?_
  obtain ⟨a10, e_a10, hF⟩ := xbd hF
  refine cl_X11_332 C0 hR hS e_a10 t_a9 ⟨(Nat.le_of_ble_eq_true rfl), (Nat.le_of_ble_eq_true rfl)⟩ hl.1 (Nat.le_of_ble_eq_true rfl) ⟨(Nat.le_of_ble_eq_true rfl), (Nat.le_of_ble_eq_true rfl)⟩ dX11_turnedNodes_35 (fun H locs hR hS => ?_)
  refine lv_iload_n hx hb dX11_turnedNodes_38 rfl (lv_at hl 0 rfl) ?_
  refine lv_isub hx hb dX11_turnedNodes_39 ?_
  refine mm_X11_350 C0 hl.1 (Nat.le_of_ble_eq_true rfl) (Nat.le_of_ble_eq_true rfl) ⟨Nat.le_of_ble_eq_true rfl, Nat.le_of_ble_eq_true rfl⟩ dX11_turnedNodes_40 ?_
  cases hF
  exact x_iret C0 hR hS dX11_turnedNodes_43
theorem xm_X11_turnedNodes : xMw yX11_turnedNodes cX11_turnedNodes 3 (some .int) 1 := ⟨xin 768 (by decide +kernel) rfl, xin 114 (by decide +kernel) rfl, by decide +kernel⟩
theorem xi_X11_turnedNodes : Cond.instanceMethod yX11_turnedNodes ∈ xT := xin 767 (by decide +kernel) rfl
theorem xe_X11_turnedNodes : Cond.selects yX11_turnedNodes.cls yX11_turnedNodes yX11_turnedNodes ∈ xT := xin 20 (by decide +kernel) rfl
theorem dX11_take_0 : decode cX11_take 0 = .ok (.aload_n 0, 1) := by decide +kernel
theorem dX11_take_1 : decode cX11_take 1 = .ok (.getfield 20, 3) := by decide +kernel
theorem dX11_take_4 : decode cX11_take 4 = .ok (.iload_n 1, 1) := by decide +kernel
theorem dX11_take_5 : decode cX11_take 5 = .ok (.invokevirtual 144, 3) := by decide +kernel
theorem dX11_take_8 : decode cX11_take 8 = .ok (.ifCond .ne 5, 3) := by decide +kernel
theorem dX11_take_11 : decode cX11_take 11 = .ok (.iconst (-1), 1) := by decide +kernel
theorem dX11_take_12 : decode cX11_take 12 = .ok (.ireturn, 1) := by decide +kernel
theorem dX11_take_13 : decode cX11_take 13 = .ok (.aload_n 0, 1) := by decide +kernel
theorem dX11_take_14 : decode cX11_take 14 = .ok (.getfield 55, 3) := by decide +kernel
theorem dX11_take_17 : decode cX11_take 17 = .ok (.iload_n 1, 1) := by decide +kernel
theorem dX11_take_18 : decode cX11_take 18 = .ok (.invokevirtual 166, 3) := by decide +kernel
theorem dX11_take_21 : decode cX11_take 21 = .ok (.ifCond .eq 11, 3) := by decide +kernel
theorem dX11_take_24 : decode cX11_take 24 = .ok (.aload_n 0, 1) := by decide +kernel
theorem dX11_take_25 : decode cX11_take 25 = .ok (.iload_n 1, 1) := by decide +kernel
theorem dX11_take_26 : decode cX11_take 26 = .ok (.invokevirtual 184, 3) := by decide +kernel
theorem dX11_take_29 : decode cX11_take 29 = .ok (.goto 5, 3) := by decide +kernel
theorem dX11_take_32 : decode cX11_take 32 = .ok (.bipush (-2), 2) := by decide +kernel
theorem dX11_take_34 : decode cX11_take 34 = .ok (.ireturn, 1) := by decide +kernel
theorem wl_X11_166 : Cond.methodLink RX11 166 yX6_isIn ∈ xT := xin 764 (by decide +kernel) rfl
theorem wl_X11_184 : Cond.methodLink RX11 184 yX11_turnedNodes ∈ xT := xin 765 (by decide +kernel) rfl
section XN_X11_take
variable {p : Program} {l : Launch} {e : Env} {R : Room} {s : State} {m : MethodId} {args : Array Value} {below : List Frame} {meth : Method} {c : Code} {H H0 : Heap} {locs : List Loc} {cells slots : Nat} {Q : State → Prop} {cc : ByteArray} {nL pc : Nat} {rt : Option FieldType} {ls : Array Slot} {rest : List Value} {D : xD} {ty : xTy} {h : xH}
theorem cl_X11_166 {v0 : Nat} {v1 : Int32} {r : Int32} (C0 : xC D RX11 cc nL rt p s m args meth c) (hR : xRep D ty h H) (hS : xS ty H0 H locs) (hF : jf_X6_isIn ty h v0 v1 = some r) (t_v0 : ty v0 = some (0, 6)) (hrm : jr_X6_isIn.frames + 1 ≤ R.frames ∧ 8 + (2 + 11) + jr_X6_isIn.locals ≤ R.locals) (hsz : ls.size = nL) (hW : (rest.map fun v => v.category).sum ≤ 8) (hf : cells ≤ R.cells ∧ slots ≤ R.slots) (hdg : decode cc pc = .ok (.invokevirtual 166, 3)) (kk : ∀ (H1 : Heap) (locs1 : List Loc), xRep D ty h H1 → xS ty H0 H1 locs1 → W p l e R s m args below meth c H1 locs1 cells slots Q (F0 m (pc + 3) ls (.int r :: rest))) : W p l e R s m args below meth c H locs cells slots Q (F0 m pc ls (.int v1 :: .ref v0 :: rest)) := x_callV C0 (jc_X6_isIn t_v0 hF) xm_X6_isIn xi_X6_isIn xe_X6_isIn wl_X11_166 ⟨rfl, rfl, hrm⟩ (ci := 6) rfl t_v0 hR hS (As := [.int v1]) rfl hsz rfl hW hdg hf kk
theorem cl_X11_184 {v0 : Nat} {v1 : Int32} {r : Int32} {h9 : xH} (C0 : xC D RX11 cc nL rt p s m args meth c) (hR : xRep D ty h H) (hS : xS ty H0 H locs) (hF : jf_X11_turnedNodes ty h v0 v1 = some (r, h9)) (t_v0 : ty v0 = some (0, 11)) (hrm : jr_X11_turnedNodes.frames + 1 ≤ R.frames ∧ 8 + (3 + 11) + jr_X11_turnedNodes.locals ≤ R.locals) (hsz : ls.size = nL) (hW : (rest.map fun v => v.category).sum ≤ 8) (hf : cells ≤ R.cells ∧ slots ≤ R.slots) (hdg : decode cc pc = .ok (.invokevirtual 184, 3)) (kk : ∀ (H1 : Heap) (locs1 : List Loc), xRep D ty h9 H1 → xS ty H0 H1 locs1 → W p l e R s m args below meth c H1 locs1 cells slots Q (F0 m (pc + 3) ls (.int r :: rest))) : W p l e R s m args below meth c H locs cells slots Q (F0 m pc ls (.int v1 :: .ref v0 :: rest)) := x_callV C0 (jc_X11_turnedNodes t_v0 hF) xm_X11_turnedNodes xi_X11_turnedNodes xe_X11_turnedNodes wl_X11_184 ⟨rfl, rfl, hrm⟩ (ci := 11) rfl t_v0 hR hS (As := [.int v1]) rfl hsz rfl hW hdg hf kk
end XN_X11_take
set_option maxHeartbeats 4000000 in
set_option maxRecDepth 100000 in
theorem jc_X11_take {l : Launch} {D : xD} {ty : xTy} {h : xH} {v0 : Nat} {v1 : Int32} {r : Int32} {h9 : xH} (t_v0 : ty v0 = some (0, 11)) (hF : jf_X11_take ty h v0 v1 = some (r, h9)) : Met l yX11_take (xws yX11_take cX11_take 2 (some .int)) jr_X11_take (xPc D ty h [.ref v0, .int v1]) (xQ D ty (some (.int r)) h9) 0 0 (xdom ty) := by
  refine x_met (by decide) ?_
  intro p e s m below meth c C0 hR
  generalize hargs : ([.ref v0, .int v1] : List Value).toArray = args at C0 ⊢
  have hx := C0.1
  have hb := C0.2.1
  have hown := C0.2.2.2.2.2.1
  have hts := C0.2.2.2.2.2.2.1
  have hS : xS ty s.heap s.heap [] := xS.rf
  have hl := lv_entry ([.ref v0, .int v1]) (n := 2) (Nat.le_of_ble_eq_true rfl)
  rw [← hargs, lg_entry_eq]
  rw [hargs]
  generalize (lg_sl ([.ref v0, .int v1]) ++ List.replicate (2 - (lg_sl ([.ref v0, .int v1])).length) Slot.unset).toArray = ls at hl ⊢
  have hl : lv_has ls 2 [(0, .ref v0), (1, .int v1)] := hl
  unfold jf_X11_take at hF
  refine lv_aload_n hx hb dX11_take_0 rfl (lv_at hl 0 rfl) ?_
  obtain ⟨a1, e_a1, hF⟩ := xbd hF
  obtain ⟨e_a1, t_a1⟩ := xgo_sp e_a1
  refine gf_X11_20 C0 hR t_v0 e_a1 dX11_take_1 ?_
  refine lv_iload_n hx hb dX11_take_4 rfl (lv_at hl 1 rfl) ?_
  obtain ⟨a2, e_a2, hF⟩ := xbd hF
  refine cl_X11_144 C0 hR hS e_a2 t_a1 ⟨(Nat.le_of_ble_eq_true rfl), (Nat.le_of_ble_eq_true rfl)⟩ hl.1 (Nat.le_of_ble_eq_true rfl) ⟨(Nat.le_of_ble_eq_true rfl), (Nat.le_of_ble_eq_true rfl)⟩ dX11_take_5 (fun H locs hR hS => ?_)
  refine lv_if_ne (tgt := 13) hx hb dX11_take_8 (by decide) (fun c3 => ?_) (fun c3 => ?_)
  · have hF := xel hF c3
    refine lv_aload_n hx hb dX11_take_13 rfl (lv_at hl 0 rfl) ?_
    obtain ⟨a4, e_a4, hF⟩ := xbd hF
    obtain ⟨e_a4, t_a4⟩ := xgo_sp e_a4
    refine gf_X11_55 C0 hR t_v0 e_a4 dX11_take_14 ?_
    refine lv_iload_n hx hb dX11_take_17 rfl (lv_at hl 1 rfl) ?_
    obtain ⟨a5, e_a5, hF⟩ := xbd hF
    refine cl_X11_166 C0 hR hS e_a5 t_a4 ⟨(Nat.le_of_ble_eq_true rfl), (Nat.le_of_ble_eq_true rfl)⟩ hl.1 (Nat.le_of_ble_eq_true rfl) ⟨(Nat.le_of_ble_eq_true rfl), (Nat.le_of_ble_eq_true rfl)⟩ dX11_take_18 (fun H locs hR hS => ?_)
    refine lv_if_eq (tgt := 32) hx hb dX11_take_21 (by decide) (fun c6 => ?_) (fun c6 => ?_)
    · have hF := xif hF c6
      refine lv_bipush (v := (-2)) hx hb dX11_take_32 (by decide) ?_
      cases hF
      exact x_iret C0 hR hS dX11_take_34
    · have hF := xel hF c6
      refine lv_aload_n hx hb dX11_take_24 rfl (lv_at hl 0 rfl) ?_
      refine lv_iload_n hx hb dX11_take_25 rfl (lv_at hl 1 rfl) ?_
      obtain ⟨a8, h7, e_h7, hF⟩ := xbd2 hF
      refine cl_X11_184 C0 hR hS e_h7 t_v0 ⟨(Nat.le_of_ble_eq_true rfl), (Nat.le_of_ble_eq_true rfl)⟩ hl.1 (Nat.le_of_ble_eq_true rfl) ⟨(Nat.le_of_ble_eq_true rfl), (Nat.le_of_ble_eq_true rfl)⟩ dX11_take_26 (fun H locs hR hS => ?_)
      refine lv_goto (tgt := 34) hx hb dX11_take_29 (by decide) ?_
      cases hF
      exact x_iret C0 hR hS dX11_take_34
  · have hF := xif hF c3
    refine lv_iconst (v := (-1)) hx hb dX11_take_11 (by decide) ?_
    cases hF
    exact x_iret C0 hR hS dX11_take_12
theorem xm_X11_take : xMw yX11_take cX11_take 2 (some .int) 1 := ⟨xin 763 (by decide +kernel) rfl, xin 114 (by decide +kernel) rfl, by decide +kernel⟩
theorem xi_X11_take : Cond.instanceMethod yX11_take ∈ xT := xin 761 (by decide +kernel) rfl
theorem xe_X11_take : Cond.selects yX11_take.cls yX11_take yX11_take ∈ xT := xin 762 (by decide +kernel) rfl
theorem dX11_put_0 : decode cX11_put 0 = .ok (.aload_n 0, 1) := by decide +kernel
theorem dX11_put_1 : decode cX11_put 1 = .ok (.getfield 20, 3) := by decide +kernel
theorem dX11_put_4 : decode cX11_put 4 = .ok (.iload_n 1, 1) := by decide +kernel
theorem dX11_put_5 : decode cX11_put 5 = .ok (.invokevirtual 144, 3) := by decide +kernel
theorem dX11_put_8 : decode cX11_put 8 = .ok (.ifCond .ne 5, 3) := by decide +kernel
theorem dX11_put_11 : decode cX11_put 11 = .ok (.iconst (-1), 1) := by decide +kernel
theorem dX11_put_12 : decode cX11_put 12 = .ok (.ireturn, 1) := by decide +kernel
theorem dX11_put_13 : decode cX11_put 13 = .ok (.aload_n 0, 1) := by decide +kernel
theorem dX11_put_14 : decode cX11_put 14 = .ok (.getfield 55, 3) := by decide +kernel
theorem dX11_put_17 : decode cX11_put 17 = .ok (.iload_n 1, 1) := by decide +kernel
theorem dX11_put_18 : decode cX11_put 18 = .ok (.invokevirtual 166, 3) := by decide +kernel
theorem dX11_put_21 : decode cX11_put 21 = .ok (.ifCond .eq 8, 3) := by decide +kernel
theorem dX11_put_24 : decode cX11_put 24 = .ok (.bipush (-2), 2) := by decide +kernel
theorem dX11_put_26 : decode cX11_put 26 = .ok (.goto 8, 3) := by decide +kernel
theorem dX11_put_29 : decode cX11_put 29 = .ok (.aload_n 0, 1) := by decide +kernel
theorem dX11_put_30 : decode cX11_put 30 = .ok (.iload_n 1, 1) := by decide +kernel
theorem dX11_put_31 : decode cX11_put 31 = .ok (.invokevirtual 184, 3) := by decide +kernel
theorem dX11_put_34 : decode cX11_put 34 = .ok (.ireturn, 1) := by decide +kernel
set_option maxHeartbeats 4000000 in
set_option maxRecDepth 100000 in
theorem jc_X11_put {l : Launch} {D : xD} {ty : xTy} {h : xH} {v0 : Nat} {v1 : Int32} {r : Int32} {h9 : xH} (t_v0 : ty v0 = some (0, 11)) (hF : jf_X11_put ty h v0 v1 = some (r, h9)) : Met l yX11_put (xws yX11_put cX11_put 2 (some .int)) jr_X11_put (xPc D ty h [.ref v0, .int v1]) (xQ D ty (some (.int r)) h9) 0 0 (xdom ty) := by
  refine x_met (by decide) ?_
  intro p e s m below meth c C0 hR
  generalize hargs : ([.ref v0, .int v1] : List Value).toArray = args at C0 ⊢
  have hx := C0.1
  have hb := C0.2.1
  have hown := C0.2.2.2.2.2.1
  have hts := C0.2.2.2.2.2.2.1
  have hS : xS ty s.heap s.heap [] := xS.rf
  have hl := lv_entry ([.ref v0, .int v1]) (n := 2) (Nat.le_of_ble_eq_true rfl)
  rw [← hargs, lg_entry_eq]
  rw [hargs]
  generalize (lg_sl ([.ref v0, .int v1]) ++ List.replicate (2 - (lg_sl ([.ref v0, .int v1])).length) Slot.unset).toArray = ls at hl ⊢
  have hl : lv_has ls 2 [(0, .ref v0), (1, .int v1)] := hl
  unfold jf_X11_put at hF
  refine lv_aload_n hx hb dX11_put_0 rfl (lv_at hl 0 rfl) ?_
  obtain ⟨a1, e_a1, hF⟩ := xbd hF
  obtain ⟨e_a1, t_a1⟩ := xgo_sp e_a1
  refine gf_X11_20 C0 hR t_v0 e_a1 dX11_put_1 ?_
  refine lv_iload_n hx hb dX11_put_4 rfl (lv_at hl 1 rfl) ?_
  obtain ⟨a2, e_a2, hF⟩ := xbd hF
  refine cl_X11_144 C0 hR hS e_a2 t_a1 ⟨(Nat.le_of_ble_eq_true rfl), (Nat.le_of_ble_eq_true rfl)⟩ hl.1 (Nat.le_of_ble_eq_true rfl) ⟨(Nat.le_of_ble_eq_true rfl), (Nat.le_of_ble_eq_true rfl)⟩ dX11_put_5 (fun H locs hR hS => ?_)
  refine lv_if_ne (tgt := 13) hx hb dX11_put_8 (by decide) (fun c3 => ?_) (fun c3 => ?_)
  · have hF := xel hF c3
    refine lv_aload_n hx hb dX11_put_13 rfl (lv_at hl 0 rfl) ?_
    obtain ⟨a4, e_a4, hF⟩ := xbd hF
    obtain ⟨e_a4, t_a4⟩ := xgo_sp e_a4
    refine gf_X11_55 C0 hR t_v0 e_a4 dX11_put_14 ?_
    refine lv_iload_n hx hb dX11_put_17 rfl (lv_at hl 1 rfl) ?_
    obtain ⟨a5, e_a5, hF⟩ := xbd hF
    refine cl_X11_166 C0 hR hS e_a5 t_a4 ⟨(Nat.le_of_ble_eq_true rfl), (Nat.le_of_ble_eq_true rfl)⟩ hl.1 (Nat.le_of_ble_eq_true rfl) ⟨(Nat.le_of_ble_eq_true rfl), (Nat.le_of_ble_eq_true rfl)⟩ dX11_put_18 (fun H locs hR hS => ?_)
    refine lv_if_eq (tgt := 29) hx hb dX11_put_21 (by decide) (fun c6 => ?_) (fun c6 => ?_)
    · have hF := xif hF c6
      refine lv_aload_n hx hb dX11_put_29 rfl (lv_at hl 0 rfl) ?_
      refine lv_iload_n hx hb dX11_put_30 rfl (lv_at hl 1 rfl) ?_
      obtain ⟨a8, h7, e_h7, hF⟩ := xbd2 hF
      refine cl_X11_184 C0 hR hS e_h7 t_v0 ⟨(Nat.le_of_ble_eq_true rfl), (Nat.le_of_ble_eq_true rfl)⟩ hl.1 (Nat.le_of_ble_eq_true rfl) ⟨(Nat.le_of_ble_eq_true rfl), (Nat.le_of_ble_eq_true rfl)⟩ dX11_put_31 (fun H locs hR hS => ?_)
      cases hF
      exact x_iret C0 hR hS dX11_put_34
    · have hF := xel hF c6
      refine lv_bipush (v := (-2)) hx hb dX11_put_24 (by decide) ?_
      refine lv_goto (tgt := 34) hx hb dX11_put_26 (by decide) ?_
      cases hF
      exact x_iret C0 hR hS dX11_put_34
  · have hF := xif hF c3
    refine lv_iconst (v := (-1)) hx hb dX11_put_11 (by decide) ?_
    cases hF
    exact x_iret C0 hR hS dX11_put_12
theorem xm_X11_put : xMw yX11_put cX11_put 2 (some .int) 1 := ⟨xin 795 (by decide +kernel) rfl, xin 114 (by decide +kernel) rfl, by decide +kernel⟩
theorem xi_X11_put : Cond.instanceMethod yX11_put ∈ xT := xin 793 (by decide +kernel) rfl
theorem xe_X11_put : Cond.selects yX11_put.cls yX11_put yX11_put ∈ xT := xin 794 (by decide +kernel) rfl
theorem dX11_fitsTerms_0 : decode cX11_fitsTerms 0 = .ok (.iload_n 1, 1) := by decide +kernel
theorem dX11_fitsTerms_1 : decode cX11_fitsTerms 1 = .ok (.tableswitch 60 0 2 #[27, 38, 49], 27) := by decide +kernel
theorem dX11_fitsTerms_28 : decode cX11_fitsTerms 28 = .ok (.aload_n 0, 1) := by decide +kernel
theorem dX11_fitsTerms_29 : decode cX11_fitsTerms 29 = .ok (.getfield 69, 3) := by decide +kernel
theorem dX11_fitsTerms_32 : decode cX11_fitsTerms 32 = .ok (.aload_n 2, 1) := by decide +kernel
theorem dX11_fitsTerms_33 : decode cX11_fitsTerms 33 = .ok (.aload_n 3, 1) := by decide +kernel
theorem dX11_fitsTerms_34 : decode cX11_fitsTerms 34 = .ok (.iconst 0, 1) := by decide +kernel
theorem dX11_fitsTerms_35 : decode cX11_fitsTerms 35 = .ok (.invokevirtual 223, 3) := by decide +kernel
theorem dX11_fitsTerms_38 : decode cX11_fitsTerms 38 = .ok (.ireturn, 1) := by decide +kernel
theorem dX11_fitsTerms_39 : decode cX11_fitsTerms 39 = .ok (.aload_n 0, 1) := by decide +kernel
theorem dX11_fitsTerms_40 : decode cX11_fitsTerms 40 = .ok (.getfield 69, 3) := by decide +kernel
theorem dX11_fitsTerms_43 : decode cX11_fitsTerms 43 = .ok (.aload_n 3, 1) := by decide +kernel
theorem dX11_fitsTerms_44 : decode cX11_fitsTerms 44 = .ok (.aload_n 2, 1) := by decide +kernel
theorem dX11_fitsTerms_45 : decode cX11_fitsTerms 45 = .ok (.iconst 0, 1) := by decide +kernel
theorem dX11_fitsTerms_46 : decode cX11_fitsTerms 46 = .ok (.invokevirtual 223, 3) := by decide +kernel
theorem dX11_fitsTerms_49 : decode cX11_fitsTerms 49 = .ok (.ireturn, 1) := by decide +kernel
theorem dX11_fitsTerms_50 : decode cX11_fitsTerms 50 = .ok (.aload_n 0, 1) := by decide +kernel
theorem dX11_fitsTerms_51 : decode cX11_fitsTerms 51 = .ok (.getfield 76, 3) := by decide +kernel
theorem dX11_fitsTerms_54 : decode cX11_fitsTerms 54 = .ok (.aload_n 2, 1) := by decide +kernel
theorem dX11_fitsTerms_55 : decode cX11_fitsTerms 55 = .ok (.iconst 0, 1) := by decide +kernel
theorem dX11_fitsTerms_56 : decode cX11_fitsTerms 56 = .ok (.aload_n 3, 1) := by decide +kernel
theorem dX11_fitsTerms_57 : decode cX11_fitsTerms 57 = .ok (.invokevirtual 230, 3) := by decide +kernel
theorem dX11_fitsTerms_60 : decode cX11_fitsTerms 60 = .ok (.ireturn, 1) := by decide +kernel
theorem dX11_fitsTerms_61 : decode cX11_fitsTerms 61 = .ok (.aload_n 0, 1) := by decide +kernel
theorem dX11_fitsTerms_62 : decode cX11_fitsTerms 62 = .ok (.getfield 69, 3) := by decide +kernel
theorem dX11_fitsTerms_65 : decode cX11_fitsTerms 65 = .ok (.aload_n 2, 1) := by decide +kernel
theorem dX11_fitsTerms_66 : decode cX11_fitsTerms 66 = .ok (.aload_n 3, 1) := by decide +kernel
theorem dX11_fitsTerms_67 : decode cX11_fitsTerms 67 = .ok (.iconst 0, 1) := by decide +kernel
theorem dX11_fitsTerms_68 : decode cX11_fitsTerms 68 = .ok (.invokevirtual 223, 3) := by decide +kernel
theorem dX11_fitsTerms_71 : decode cX11_fitsTerms 71 = .ok (.ifCond .eq 20, 3) := by decide +kernel
theorem dX11_fitsTerms_74 : decode cX11_fitsTerms 74 = .ok (.aload_n 0, 1) := by decide +kernel
theorem dX11_fitsTerms_75 : decode cX11_fitsTerms 75 = .ok (.getfield 69, 3) := by decide +kernel
theorem dX11_fitsTerms_78 : decode cX11_fitsTerms 78 = .ok (.aload_n 3, 1) := by decide +kernel
theorem dX11_fitsTerms_79 : decode cX11_fitsTerms 79 = .ok (.aload_n 2, 1) := by decide +kernel
theorem dX11_fitsTerms_80 : decode cX11_fitsTerms 80 = .ok (.iconst 0, 1) := by decide +kernel
theorem dX11_fitsTerms_81 : decode cX11_fitsTerms 81 = .ok (.invokevirtual 223, 3) := by decide +kernel
theorem dX11_fitsTerms_84 : decode cX11_fitsTerms 84 = .ok (.ifCond .eq 7, 3) := by decide +kernel
theorem dX11_fitsTerms_87 : decode cX11_fitsTerms 87 = .ok (.iconst 1, 1) := by decide +kernel
theorem dX11_fitsTerms_88 : decode cX11_fitsTerms 88 = .ok (.goto 4, 3) := by decide +kernel
theorem dX11_fitsTerms_91 : decode cX11_fitsTerms 91 = .ok (.iconst 0, 1) := by decide +kernel
theorem dX11_fitsTerms_92 : decode cX11_fitsTerms 92 = .ok (.ireturn, 1) := by decide +kernel
theorem wl_X11_223 : Cond.methodLink RX11 223 yX3_matches ∈ xT := xin 804 (by decide +kernel) rfl
theorem wl_X11_230 : Cond.methodLink RX11 230 yX10_unifies ∈ xT := xin 819 (by decide +kernel) rfl
theorem wf_X11_69 : Cond.fieldLink RX11 69 "TermShelf" "matcher" "LTermShelf$Matcher;" ∈ xT := xin 469 (by decide +kernel) rfl
theorem wf_X11_76 : Cond.fieldLink RX11 76 "TermShelf" "unifier" "LTermShelf$Unifier;" ∈ xT := xin 470 (by decide +kernel) rfl
section XN_X11_fitsTerms
variable {p : Program} {l : Launch} {e : Env} {R : Room} {s : State} {m : MethodId} {args : Array Value} {below : List Frame} {meth : Method} {c : Code} {H H0 : Heap} {locs : List Loc} {cells slots : Nat} {Q : State → Prop} {cc : ByteArray} {nL pc : Nat} {rt : Option FieldType} {ls : Array Slot} {rest : List Value} {D : xD} {ty : xTy} {h : xH}
theorem cl_X11_223 {v0 : Nat} {v1 : Nat} {v2 : Nat} {v3 : Int32} {r : Int32} {h9 : xH} (C0 : xC D RX11 cc nL rt p s m args meth c) (hR : xRep D ty h H) (hS : xS ty H0 H locs) (hF : jf_X3_matches ty h v0 v1 v2 v3 = some (r, h9)) (t_v0 : ty v0 = some (0, 3)) (t_v1 : ty v1 = some (0, 7)) (t_v2 : ty v2 = some (0, 7)) (hrm : jr_X3_matches.frames + 1 ≤ R.frames ∧ 8 + (7 + 11) + jr_X3_matches.locals ≤ R.locals) (hsz : ls.size = nL) (hW : (rest.map fun v => v.category).sum ≤ 8) (hf : cells ≤ R.cells ∧ slots ≤ R.slots) (hdg : decode cc pc = .ok (.invokevirtual 223, 3)) (kk : ∀ (H1 : Heap) (locs1 : List Loc), xRep D ty h9 H1 → xS ty H0 H1 locs1 → W p l e R s m args below meth c H1 locs1 cells slots Q (F0 m (pc + 3) ls (.int r :: rest))) : W p l e R s m args below meth c H locs cells slots Q (F0 m pc ls (.int v3 :: .ref v2 :: .ref v1 :: .ref v0 :: rest)) := x_callV C0 (jc_X3_matches t_v0 t_v1 t_v2 hF) xm_X3_matches xi_X3_matches xe_X3_matches wl_X11_223 ⟨rfl, rfl, hrm⟩ (ci := 3) rfl t_v0 hR hS (As := [.ref v1, .ref v2, .int v3]) rfl hsz rfl hW hdg hf kk
theorem cl_X11_230 {v0 : Nat} {v1 : Nat} {v2 : Int32} {v3 : Nat} {r : Int32} {h9 : xH} (C0 : xC D RX11 cc nL rt p s m args meth c) (hR : xRep D ty h H) (hS : xS ty H0 H locs) (hF : jf_X10_unifies ty h v0 v1 v2 v3 = some (r, h9)) (t_v0 : ty v0 = some (0, 10)) (t_v1 : ty v1 = some (0, 7)) (t_v3 : ty v3 = some (0, 7)) (hrm : jr_X10_unifies.frames + 1 ≤ R.frames ∧ 8 + (7 + 11) + jr_X10_unifies.locals ≤ R.locals) (hsz : ls.size = nL) (hW : (rest.map fun v => v.category).sum ≤ 8) (hf : cells ≤ R.cells ∧ slots ≤ R.slots) (hdg : decode cc pc = .ok (.invokevirtual 230, 3)) (kk : ∀ (H1 : Heap) (locs1 : List Loc), xRep D ty h9 H1 → xS ty H0 H1 locs1 → W p l e R s m args below meth c H1 locs1 cells slots Q (F0 m (pc + 3) ls (.int r :: rest))) : W p l e R s m args below meth c H locs cells slots Q (F0 m pc ls (.ref v3 :: .int v2 :: .ref v1 :: .ref v0 :: rest)) := x_callV C0 (jc_X10_unifies t_v0 t_v1 t_v3 hF) xm_X10_unifies xi_X10_unifies xe_X10_unifies wl_X11_230 ⟨rfl, rfl, hrm⟩ (ci := 10) rfl t_v0 hR hS (As := [.ref v1, .int v2, .ref v3]) rfl hsz rfl hW hdg hf kk
theorem gf_X11_69 {a : Nat} (C0 : xC D RX11 cc nL rt p s m args meth c) (hR : xRep D ty h H) (ht : ty a = some (0, 11)) {v : Nat} (hv : xR h a 11 = some v) (hdg : decode cc pc = .ok (.getfield 69, 3)) (kk : W p l e R s m args below meth c H locs cells slots Q (F0 m (pc + 3) ls (.ref v :: rest))) : W p l e R s m args below meth c H locs cells slots Q (F0 m pc ls (.ref a :: rest)) := x_get C0 hR (ci := 11) (k := 11) (N := 16) (T := TX11) rfl iX11 (by decide) rfl wf_X11_69 (by show va_rf (xR h a 11) = _; rw [hv]; rfl) ht hdg kk
theorem gf_X11_76 {a : Nat} (C0 : xC D RX11 cc nL rt p s m args meth c) (hR : xRep D ty h H) (ht : ty a = some (0, 11)) {v : Nat} (hv : xR h a 12 = some v) (hdg : decode cc pc = .ok (.getfield 76, 3)) (kk : W p l e R s m args below meth c H locs cells slots Q (F0 m (pc + 3) ls (.ref v :: rest))) : W p l e R s m args below meth c H locs cells slots Q (F0 m pc ls (.ref a :: rest)) := x_get C0 hR (ci := 11) (k := 12) (N := 16) (T := TX11) rfl iX11 (by decide) rfl wf_X11_76 (by show va_rf (xR h a 12) = _; rw [hv]; rfl) ht hdg kk
end XN_X11_fitsTerms
set_option maxHeartbeats 4000000 in
set_option maxRecDepth 100000 in
theorem jc_X11_fitsTerms {l : Launch} {D : xD} {ty : xTy} {h : xH} {v0 : Nat} {v1 : Int32} {v2 : Nat} {v3 : Nat} {r : Int32} {h9 : xH} (t_v0 : ty v0 = some (0, 11)) (t_v2 : ty v2 = some (0, 7)) (t_v3 : ty v3 = some (0, 7)) (hF : jf_X11_fitsTerms ty h v0 v1 v2 v3 = some (r, h9)) : Met l yX11_fitsTerms (xws yX11_fitsTerms cX11_fitsTerms 4 (some .boolean)) jr_X11_fitsTerms (xPc D ty h [.ref v0, .int v1, .ref v2, .ref v3]) (xQ D ty (some (.int r)) h9) 0 0 (xdom ty) := by
  refine x_met (by decide) ?_
  intro p e s m below meth c C0 hR
  generalize hargs : ([.ref v0, .int v1, .ref v2, .ref v3] : List Value).toArray = args at C0 ⊢
  have hx := C0.1
  have hb := C0.2.1
  have hown := C0.2.2.2.2.2.1
  have hts := C0.2.2.2.2.2.2.1
  have hS : xS ty s.heap s.heap [] := xS.rf
  have hl := lv_entry ([.ref v0, .int v1, .ref v2, .ref v3]) (n := 4) (Nat.le_of_ble_eq_true rfl)
  rw [← hargs, lg_entry_eq]
  rw [hargs]
  generalize (lg_sl ([.ref v0, .int v1, .ref v2, .ref v3]) ++ List.replicate (4 - (lg_sl ([.ref v0, .int v1, .ref v2, .ref v3])).length) Slot.unset).toArray = ls at hl ⊢
  have hl : lv_has ls 4 [(0, .ref v0), (1, .int v1), (2, .ref v2), (3, .ref v3)] := hl
  unfold jf_X11_fitsTerms at hF
  refine lv_iload_n hx hb dX11_fitsTerms_0 rfl (lv_at hl 1 rfl) ?_
  by_cases c1 : v1 = 0
  · have hF := xif hF c1
    refine lv_tableIn (tgt := 28) (off := 27) hx hb dX11_fitsTerms_1 (by rw [c1]; decide) (by rw [c1]; decide) (by rw [c1]; rfl) (by decide) ?_
    refine lv_aload_n hx hb dX11_fitsTerms_28 rfl (lv_at hl 0 rfl) ?_
    obtain ⟨a2, e_a2, hF⟩ := xbd hF
    obtain ⟨e_a2, t_a2⟩ := xgo_sp e_a2
    refine gf_X11_69 C0 hR t_v0 e_a2 dX11_fitsTerms_29 ?_
    refine lv_aload_n hx hb dX11_fitsTerms_32 rfl (lv_at hl 2 rfl) ?_
    refine lv_aload_n hx hb dX11_fitsTerms_33 rfl (lv_at hl 3 rfl) ?_
    refine lv_iconst (v := 0) hx hb dX11_fitsTerms_34 (by decide) ?_
    obtain ⟨a4, h3, e_h3, hF⟩ := xbd2 hF
    refine cl_X11_223 C0 hR hS e_h3 t_a2 t_v2 t_v3 ⟨(Nat.le_of_ble_eq_true rfl), (Nat.le_of_ble_eq_true rfl)⟩ hl.1 (Nat.le_of_ble_eq_true rfl) ⟨(Nat.le_of_ble_eq_true rfl), (Nat.le_of_ble_eq_true rfl)⟩ dX11_fitsTerms_35 (fun H locs hR hS => ?_)
    obtain ⟨w5, e_w5, hF⟩ := xbd hF
    cases hF
    exact x_zret C0 hR hS e_w5 dX11_fitsTerms_38
  · have hF := xel hF c1
    by_cases c6 : v1 = 1
    · have hF := xif hF c6
      refine lv_tableIn (tgt := 39) (off := 38) hx hb dX11_fitsTerms_1 (by rw [c6]; decide) (by rw [c6]; decide) (by rw [c6]; rfl) (by decide) ?_
      refine lv_aload_n hx hb dX11_fitsTerms_39 rfl (lv_at hl 0 rfl) ?_
      obtain ⟨a7, e_a7, hF⟩ := xbd hF
      obtain ⟨e_a7, t_a7⟩ := xgo_sp e_a7
      refine gf_X11_69 C0 hR t_v0 e_a7 dX11_fitsTerms_40 ?_
      refine lv_aload_n hx hb dX11_fitsTerms_43 rfl (lv_at hl 3 rfl) ?_
      refine lv_aload_n hx hb dX11_fitsTerms_44 rfl (lv_at hl 2 rfl) ?_
      refine lv_iconst (v := 0) hx hb dX11_fitsTerms_45 (by decide) ?_
      obtain ⟨a9, h8, e_h8, hF⟩ := xbd2 hF
      refine cl_X11_223 C0 hR hS e_h8 t_a7 t_v3 t_v2 ⟨(Nat.le_of_ble_eq_true rfl), (Nat.le_of_ble_eq_true rfl)⟩ hl.1 (Nat.le_of_ble_eq_true rfl) ⟨(Nat.le_of_ble_eq_true rfl), (Nat.le_of_ble_eq_true rfl)⟩ dX11_fitsTerms_46 (fun H locs hR hS => ?_)
      obtain ⟨w10, e_w10, hF⟩ := xbd hF
      cases hF
      exact x_zret C0 hR hS e_w10 dX11_fitsTerms_49
    · have hF := xel hF c6
      by_cases c11 : v1 = 2
      · have hF := xif hF c11
        refine lv_tableIn (tgt := 50) (off := 49) hx hb dX11_fitsTerms_1 (by rw [c11]; decide) (by rw [c11]; decide) (by rw [c11]; rfl) (by decide) ?_
        refine lv_aload_n hx hb dX11_fitsTerms_50 rfl (lv_at hl 0 rfl) ?_
        obtain ⟨a12, e_a12, hF⟩ := xbd hF
        obtain ⟨e_a12, t_a12⟩ := xgo_sp e_a12
        refine gf_X11_76 C0 hR t_v0 e_a12 dX11_fitsTerms_51 ?_
        refine lv_aload_n hx hb dX11_fitsTerms_54 rfl (lv_at hl 2 rfl) ?_
        refine lv_iconst (v := 0) hx hb dX11_fitsTerms_55 (by decide) ?_
        refine lv_aload_n hx hb dX11_fitsTerms_56 rfl (lv_at hl 3 rfl) ?_
        obtain ⟨a14, h13, e_h13, hF⟩ := xbd2 hF
        refine cl_X11_230 C0 hR hS e_h13 t_a12 t_v2 t_v3 ⟨(Nat.le_of_ble_eq_true rfl), (Nat.le_of_ble_eq_true rfl)⟩ hl.1 (Nat.le_of_ble_eq_true rfl) ⟨(Nat.le_of_ble_eq_true rfl), (Nat.le_of_ble_eq_true rfl)⟩ dX11_fitsTerms_57 (fun H locs hR hS => ?_)
        obtain ⟨w15, e_w15, hF⟩ := xbd hF
        cases hF
        exact x_zret C0 hR hS e_w15 dX11_fitsTerms_60
      · have hF := xel hF c11
        have g_c1 : ¬ (v1).toInt = 0 := fun z => c1 (Int32.toInt_inj.mp (z.trans (by decide)))
        have g_c6 : ¬ (v1).toInt = 1 := fun z => c6 (Int32.toInt_inj.mp (z.trans (by decide)))
        have g_c11 : ¬ (v1).toInt = 2 := fun z => c11 (Int32.toInt_inj.mp (z.trans (by decide)))
        refine lv_tableOut (tgt := 61) hx hb dX11_fitsTerms_1 (by omega) (by decide) ?_
        refine lv_aload_n hx hb dX11_fitsTerms_61 rfl (lv_at hl 0 rfl) ?_
        obtain ⟨a16, e_a16, hF⟩ := xbd hF
        obtain ⟨e_a16, t_a16⟩ := xgo_sp e_a16
        refine gf_X11_69 C0 hR t_v0 e_a16 dX11_fitsTerms_62 ?_
        refine lv_aload_n hx hb dX11_fitsTerms_65 rfl (lv_at hl 2 rfl) ?_
        refine lv_aload_n hx hb dX11_fitsTerms_66 rfl (lv_at hl 3 rfl) ?_
        refine lv_iconst (v := 0) hx hb dX11_fitsTerms_67 (by decide) ?_
        obtain ⟨a18, h17, e_h17, hF⟩ := xbd2 hF
        refine cl_X11_223 C0 hR hS e_h17 t_a16 t_v2 t_v3 ⟨(Nat.le_of_ble_eq_true rfl), (Nat.le_of_ble_eq_true rfl)⟩ hl.1 (Nat.le_of_ble_eq_true rfl) ⟨(Nat.le_of_ble_eq_true rfl), (Nat.le_of_ble_eq_true rfl)⟩ dX11_fitsTerms_68 (fun H locs hR hS => ?_)
        refine lv_if_eq (tgt := 91) hx hb dX11_fitsTerms_71 (by decide) (fun c19 => ?_) (fun c19 => ?_)
        · have hF := xif hF c19
          refine lv_iconst (v := 0) hx hb dX11_fitsTerms_91 (by decide) ?_
          cases hF
          exact x_zret (w := 0) C0 hR hS (by decide) dX11_fitsTerms_92
        · have hF := xel hF c19
          refine lv_aload_n hx hb dX11_fitsTerms_74 rfl (lv_at hl 0 rfl) ?_
          obtain ⟨a20, e_a20, hF⟩ := xbd hF
          obtain ⟨e_a20, t_a20⟩ := xgo_sp e_a20
          refine gf_X11_69 C0 hR t_v0 e_a20 dX11_fitsTerms_75 ?_
          refine lv_aload_n hx hb dX11_fitsTerms_78 rfl (lv_at hl 3 rfl) ?_
          refine lv_aload_n hx hb dX11_fitsTerms_79 rfl (lv_at hl 2 rfl) ?_
          refine lv_iconst (v := 0) hx hb dX11_fitsTerms_80 (by decide) ?_
          obtain ⟨a22, h21, e_h21, hF⟩ := xbd2 hF
          refine cl_X11_223 C0 hR hS e_h21 t_a20 t_v3 t_v2 ⟨(Nat.le_of_ble_eq_true rfl), (Nat.le_of_ble_eq_true rfl)⟩ hl.1 (Nat.le_of_ble_eq_true rfl) ⟨(Nat.le_of_ble_eq_true rfl), (Nat.le_of_ble_eq_true rfl)⟩ dX11_fitsTerms_81 (fun H locs hR hS => ?_)
          refine lv_if_eq (tgt := 91) hx hb dX11_fitsTerms_84 (by decide) (fun c23 => ?_) (fun c23 => ?_)
          · have hF := xif hF c23
            refine lv_iconst (v := 0) hx hb dX11_fitsTerms_91 (by decide) ?_
            cases hF
            exact x_zret (w := 0) C0 hR hS (by decide) dX11_fitsTerms_92
          · have hF := xel hF c23
            refine lv_iconst (v := 1) hx hb dX11_fitsTerms_87 (by decide) ?_
            refine lv_goto (tgt := 92) hx hb dX11_fitsTerms_88 (by decide) ?_
            cases hF
            exact x_zret (w := 1) C0 hR hS (by decide) dX11_fitsTerms_92
theorem xm_X11_fitsTerms : xMw yX11_fitsTerms cX11_fitsTerms 4 (some .boolean) 3 := ⟨xin 803 (by decide +kernel) rfl, xin 114 (by decide +kernel) rfl, by decide +kernel⟩
theorem xi_X11_fitsTerms : Cond.instanceMethod yX11_fitsTerms ∈ xT := xin 802 (by decide +kernel) rfl
theorem xe_X11_fitsTerms : Cond.selects yX11_fitsTerms.cls yX11_fitsTerms yX11_fitsTerms ∈ xT := xin 23 (by decide +kernel) rfl
theorem dX11_fits_0 : decode cX11_fits 0 = .ok (.iload_n 1, 1) := by decide +kernel
theorem dX11_fits_1 : decode cX11_fits 1 = .ok (.ifCond .lt 29, 3) := by decide +kernel
theorem dX11_fits_4 : decode cX11_fits 4 = .ok (.iload_n 1, 1) := by decide +kernel
theorem dX11_fits_5 : decode cX11_fits 5 = .ok (.iconst 3, 1) := by decide +kernel
theorem dX11_fits_6 : decode cX11_fits 6 = .ok (.if_icmp .gt 24, 3) := by decide +kernel
theorem dX11_fits_9 : decode cX11_fits 9 = .ok (.aload_n 0, 1) := by decide +kernel
theorem dX11_fits_10 : decode cX11_fits 10 = .ok (.getfield 20, 3) := by decide +kernel
theorem dX11_fits_13 : decode cX11_fits 13 = .ok (.iload_n 2, 1) := by decide +kernel
theorem dX11_fits_14 : decode cX11_fits 14 = .ok (.invokevirtual 144, 3) := by decide +kernel
theorem dX11_fits_17 : decode cX11_fits 17 = .ok (.ifCond .eq 13, 3) := by decide +kernel
theorem dX11_fits_20 : decode cX11_fits 20 = .ok (.aload_n 0, 1) := by decide +kernel
theorem dX11_fits_21 : decode cX11_fits 21 = .ok (.getfield 32, 3) := by decide +kernel
theorem dX11_fits_24 : decode cX11_fits 24 = .ok (.getfield 128, 3) := by decide +kernel
theorem dX11_fits_27 : decode cX11_fits 27 = .ok (.ifCond .ne 5, 3) := by decide +kernel
theorem dX11_fits_30 : decode cX11_fits 30 = .ok (.iconst (-1), 1) := by decide +kernel
theorem dX11_fits_31 : decode cX11_fits 31 = .ok (.ireturn, 1) := by decide +kernel
theorem dX11_fits_32 : decode cX11_fits 32 = .ok (.aload_n 0, 1) := by decide +kernel
theorem dX11_fits_33 : decode cX11_fits 33 = .ok (.getfield 55, 3) := by decide +kernel
theorem dX11_fits_36 : decode cX11_fits 36 = .ok (.iload_n 2, 1) := by decide +kernel
theorem dX11_fits_37 : decode cX11_fits 37 = .ok (.invokevirtual 166, 3) := by decide +kernel
theorem dX11_fits_40 : decode cX11_fits 40 = .ok (.ifCond .ne 6, 3) := by decide +kernel
theorem dX11_fits_43 : decode cX11_fits 43 = .ok (.bipush (-2), 2) := by decide +kernel
theorem dX11_fits_45 : decode cX11_fits 45 = .ok (.ireturn, 1) := by decide +kernel
theorem dX11_fits_46 : decode cX11_fits 46 = .ok (.aload_n 0, 1) := by decide +kernel
theorem dX11_fits_47 : decode cX11_fits 47 = .ok (.iload_n 1, 1) := by decide +kernel
theorem dX11_fits_48 : decode cX11_fits 48 = .ok (.aload_n 0, 1) := by decide +kernel
theorem dX11_fits_49 : decode cX11_fits 49 = .ok (.getfield 20, 3) := by decide +kernel
theorem dX11_fits_52 : decode cX11_fits 52 = .ok (.iload_n 2, 1) := by decide +kernel
theorem dX11_fits_53 : decode cX11_fits 53 = .ok (.invokevirtual 155, 3) := by decide +kernel
theorem dX11_fits_56 : decode cX11_fits 56 = .ok (.aload_n 0, 1) := by decide +kernel
theorem dX11_fits_57 : decode cX11_fits 57 = .ok (.getfield 32, 3) := by decide +kernel
theorem dX11_fits_60 : decode cX11_fits 60 = .ok (.invokevirtual 187, 3) := by decide +kernel
theorem dX11_fits_63 : decode cX11_fits 63 = .ok (.ifCond .eq 7, 3) := by decide +kernel
theorem dX11_fits_66 : decode cX11_fits 66 = .ok (.iconst 1, 1) := by decide +kernel
theorem dX11_fits_67 : decode cX11_fits 67 = .ok (.goto 4, 3) := by decide +kernel
theorem dX11_fits_70 : decode cX11_fits 70 = .ok (.iconst 0, 1) := by decide +kernel
theorem dX11_fits_71 : decode cX11_fits 71 = .ok (.ireturn, 1) := by decide +kernel
theorem wl_X11_187 : Cond.methodLink RX11 187 yX11_fitsTerms ∈ xT := xin 800 (by decide +kernel) rfl
section XN_X11_fits
variable {p : Program} {l : Launch} {e : Env} {R : Room} {s : State} {m : MethodId} {args : Array Value} {below : List Frame} {meth : Method} {c : Code} {H H0 : Heap} {locs : List Loc} {cells slots : Nat} {Q : State → Prop} {cc : ByteArray} {nL pc : Nat} {rt : Option FieldType} {ls : Array Slot} {rest : List Value} {D : xD} {ty : xTy} {h : xH}
theorem cl_X11_187 {v0 : Nat} {v1 : Int32} {v2 : Nat} {v3 : Nat} {r : Int32} {h9 : xH} (C0 : xC D RX11 cc nL rt p s m args meth c) (hR : xRep D ty h H) (hS : xS ty H0 H locs) (hF : jf_X11_fitsTerms ty h v0 v1 v2 v3 = some (r, h9)) (t_v0 : ty v0 = some (0, 11)) (t_v2 : ty v2 = some (0, 7)) (t_v3 : ty v3 = some (0, 7)) (hrm : jr_X11_fitsTerms.frames + 1 ≤ R.frames ∧ 8 + (4 + 11) + jr_X11_fitsTerms.locals ≤ R.locals) (hsz : ls.size = nL) (hW : (rest.map fun v => v.category).sum ≤ 8) (hf : cells ≤ R.cells ∧ slots ≤ R.slots) (hdg : decode cc pc = .ok (.invokevirtual 187, 3)) (kk : ∀ (H1 : Heap) (locs1 : List Loc), xRep D ty h9 H1 → xS ty H0 H1 locs1 → W p l e R s m args below meth c H1 locs1 cells slots Q (F0 m (pc + 3) ls (.int r :: rest))) : W p l e R s m args below meth c H locs cells slots Q (F0 m pc ls (.ref v3 :: .ref v2 :: .int v1 :: .ref v0 :: rest)) := x_callV C0 (jc_X11_fitsTerms t_v0 t_v2 t_v3 hF) xm_X11_fitsTerms xi_X11_fitsTerms xe_X11_fitsTerms wl_X11_187 ⟨rfl, rfl, hrm⟩ (ci := 11) rfl t_v0 hR hS (As := [.int v1, .ref v2, .ref v3]) rfl hsz rfl hW hdg hf kk
end XN_X11_fits
set_option maxHeartbeats 4000000 in
set_option maxRecDepth 100000 in
theorem jc_X11_fits {l : Launch} {D : xD} {ty : xTy} {h : xH} {v0 : Nat} {v1 : Int32} {v2 : Int32} {r : Int32} {h9 : xH} (t_v0 : ty v0 = some (0, 11)) (hF : jf_X11_fits ty h v0 v1 v2 = some (r, h9)) : Met l yX11_fits (xws yX11_fits cX11_fits 3 (some .int)) jr_X11_fits (xPc D ty h [.ref v0, .int v1, .int v2]) (xQ D ty (some (.int r)) h9) 0 0 (xdom ty) := by
  refine x_met (by decide) ?_
  intro p e s m below meth c C0 hR
  generalize hargs : ([.ref v0, .int v1, .int v2] : List Value).toArray = args at C0 ⊢
  have hx := C0.1
  have hb := C0.2.1
  have hown := C0.2.2.2.2.2.1
  have hts := C0.2.2.2.2.2.2.1
  have hS : xS ty s.heap s.heap [] := xS.rf
  have hl := lv_entry ([.ref v0, .int v1, .int v2]) (n := 3) (Nat.le_of_ble_eq_true rfl)
  rw [← hargs, lg_entry_eq]
  rw [hargs]
  generalize (lg_sl ([.ref v0, .int v1, .int v2]) ++ List.replicate (3 - (lg_sl ([.ref v0, .int v1, .int v2])).length) Slot.unset).toArray = ls at hl ⊢
  have hl : lv_has ls 3 [(0, .ref v0), (1, .int v1), (2, .int v2)] := hl
  unfold jf_X11_fits at hF
  refine lv_iload_n hx hb dX11_fits_0 rfl (lv_at hl 1 rfl) ?_
  refine lv_if_lt (tgt := 30) hx hb dX11_fits_1 (by decide) (fun c1 => ?_) (fun c1 => ?_)
  · have hF := xif hF c1
    refine lv_iconst (v := (-1)) hx hb dX11_fits_30 (by decide) ?_
    cases hF
    exact x_iret C0 hR hS dX11_fits_31
  · have hF := xel hF c1
    refine lv_iload_n hx hb dX11_fits_4 rfl (lv_at hl 1 rfl) ?_
    refine lv_iconst (v := 3) hx hb dX11_fits_5 (by decide) ?_
    refine lv_icmp_gt (tgt := 30) hx hb dX11_fits_6 (by decide) (fun c2 => ?_) (fun c2 => ?_)
    · have hF := xif hF c2
      refine lv_iconst (v := (-1)) hx hb dX11_fits_30 (by decide) ?_
      cases hF
      exact x_iret C0 hR hS dX11_fits_31
    · have hF := xel hF c2
      refine lv_aload_n hx hb dX11_fits_9 rfl (lv_at hl 0 rfl) ?_
      obtain ⟨a3, e_a3, hF⟩ := xbd hF
      obtain ⟨e_a3, t_a3⟩ := xgo_sp e_a3
      refine gf_X11_20 C0 hR t_v0 e_a3 dX11_fits_10 ?_
      refine lv_iload_n hx hb dX11_fits_13 rfl (lv_at hl 2 rfl) ?_
      obtain ⟨a4, e_a4, hF⟩ := xbd hF
      refine cl_X11_144 C0 hR hS e_a4 t_a3 ⟨(Nat.le_of_ble_eq_true rfl), (Nat.le_of_ble_eq_true rfl)⟩ hl.1 (Nat.le_of_ble_eq_true rfl) ⟨(Nat.le_of_ble_eq_true rfl), (Nat.le_of_ble_eq_true rfl)⟩ dX11_fits_14 (fun H locs hR hS => ?_)
      refine lv_if_eq (tgt := 30) hx hb dX11_fits_17 (by decide) (fun c5 => ?_) (fun c5 => ?_)
      · have hF := xif hF c5
        refine lv_iconst (v := (-1)) hx hb dX11_fits_30 (by decide) ?_
        cases hF
        exact x_iret C0 hR hS dX11_fits_31
      · have hF := xel hF c5
        refine lv_aload_n hx hb dX11_fits_20 rfl (lv_at hl 0 rfl) ?_
        obtain ⟨a6, e_a6, hF⟩ := xbd hF
        obtain ⟨e_a6, t_a6⟩ := xgo_sp e_a6
        refine gf_X11_32 C0 hR t_v0 e_a6 dX11_fits_21 ?_
        refine gf_X11_128 C0 hR t_a6 dX11_fits_24 ?_
        refine lv_if_ne (tgt := 32) hx hb dX11_fits_27 (by decide) (fun c7 => ?_) (fun c7 => ?_)
        · have hF := xel hF c7
          refine lv_aload_n hx hb dX11_fits_32 rfl (lv_at hl 0 rfl) ?_
          obtain ⟨a8, e_a8, hF⟩ := xbd hF
          obtain ⟨e_a8, t_a8⟩ := xgo_sp e_a8
          refine gf_X11_55 C0 hR t_v0 e_a8 dX11_fits_33 ?_
          refine lv_iload_n hx hb dX11_fits_36 rfl (lv_at hl 2 rfl) ?_
          obtain ⟨a9, e_a9, hF⟩ := xbd hF
          refine cl_X11_166 C0 hR hS e_a9 t_a8 ⟨(Nat.le_of_ble_eq_true rfl), (Nat.le_of_ble_eq_true rfl)⟩ hl.1 (Nat.le_of_ble_eq_true rfl) ⟨(Nat.le_of_ble_eq_true rfl), (Nat.le_of_ble_eq_true rfl)⟩ dX11_fits_37 (fun H locs hR hS => ?_)
          refine lv_if_ne (tgt := 46) hx hb dX11_fits_40 (by decide) (fun c10 => ?_) (fun c10 => ?_)
          · have hF := xel hF c10
            refine lv_aload_n hx hb dX11_fits_46 rfl (lv_at hl 0 rfl) ?_
            refine lv_iload_n hx hb dX11_fits_47 rfl (lv_at hl 1 rfl) ?_
            refine lv_aload_n hx hb dX11_fits_48 rfl (lv_at hl 0 rfl) ?_
            obtain ⟨a11, e_a11, hF⟩ := xbd hF
            obtain ⟨e_a11, t_a11⟩ := xgo_sp e_a11
            refine gf_X11_20 C0 hR t_v0 e_a11 dX11_fits_49 ?_
            refine lv_iload_n hx hb dX11_fits_52 rfl (lv_at hl 2 rfl) ?_
            obtain ⟨a12, e_a12, hF⟩ := xbd hF
            obtain ⟨u13, e_u13, hF⟩ := xbd hF
            have t_a12 := xck_sp e_u13
            refine cl_X11_155 C0 hR hS e_a12 t_a11 ⟨(Nat.le_of_ble_eq_true rfl), (Nat.le_of_ble_eq_true rfl)⟩ hl.1 (Nat.le_of_ble_eq_true rfl) ⟨(Nat.le_of_ble_eq_true rfl), (Nat.le_of_ble_eq_true rfl)⟩ dX11_fits_53 (fun H locs hR hS => ?_)
            refine lv_aload_n hx hb dX11_fits_56 rfl (lv_at hl 0 rfl) ?_
            obtain ⟨a14, e_a14, hF⟩ := xbd hF
            obtain ⟨e_a14, t_a14⟩ := xgo_sp e_a14
            refine gf_X11_32 C0 hR t_v0 e_a14 dX11_fits_57 ?_
            obtain ⟨a16, h15, e_h15, hF⟩ := xbd2 hF
            refine cl_X11_187 C0 hR hS e_h15 t_v0 t_a12 t_a14 ⟨(Nat.le_of_ble_eq_true rfl), (Nat.le_of_ble_eq_true rfl)⟩ hl.1 (Nat.le_of_ble_eq_true rfl) ⟨(Nat.le_of_ble_eq_true rfl), (Nat.le_of_ble_eq_true rfl)⟩ dX11_fits_60 (fun H locs hR hS => ?_)
            refine lv_if_eq (tgt := 70) hx hb dX11_fits_63 (by decide) (fun c17 => ?_) (fun c17 => ?_)
            · have hF := xif hF c17
              refine lv_iconst (v := 0) hx hb dX11_fits_70 (by decide) ?_
              cases hF
              exact x_iret C0 hR hS dX11_fits_71
            · have hF := xel hF c17
              refine lv_iconst (v := 1) hx hb dX11_fits_66 (by decide) ?_
              refine lv_goto (tgt := 71) hx hb dX11_fits_67 (by decide) ?_
              cases hF
              exact x_iret C0 hR hS dX11_fits_71
          · have hF := xif hF c10
            refine lv_bipush (v := (-2)) hx hb dX11_fits_43 (by decide) ?_
            cases hF
            exact x_iret C0 hR hS dX11_fits_45
        · have hF := xif hF c7
          refine lv_iconst (v := (-1)) hx hb dX11_fits_30 (by decide) ?_
          cases hF
          exact x_iret C0 hR hS dX11_fits_31
theorem xm_X11_fits : xMw yX11_fits cX11_fits 3 (some .int) 2 := ⟨xin 799 (by decide +kernel) rfl, xin 114 (by decide +kernel) rfl, by decide +kernel⟩
theorem xi_X11_fits : Cond.instanceMethod yX11_fits ∈ xT := xin 797 (by decide +kernel) rfl
theorem xe_X11_fits : Cond.selects yX11_fits.cls yX11_fits yX11_fits ∈ xT := xin 798 (by decide +kernel) rfl
theorem dX11_isWay_0 : decode cX11_isWay 0 = .ok (.iload_n 0, 1) := by decide +kernel
theorem dX11_isWay_1 : decode cX11_isWay 1 = .ok (.ifCond .lt 12, 3) := by decide +kernel
theorem dX11_isWay_4 : decode cX11_isWay 4 = .ok (.iload_n 0, 1) := by decide +kernel
theorem dX11_isWay_5 : decode cX11_isWay 5 = .ok (.iconst 2, 1) := by decide +kernel
theorem dX11_isWay_6 : decode cX11_isWay 6 = .ok (.if_icmp .gt 7, 3) := by decide +kernel
theorem dX11_isWay_9 : decode cX11_isWay 9 = .ok (.iconst 1, 1) := by decide +kernel
theorem dX11_isWay_10 : decode cX11_isWay 10 = .ok (.goto 4, 3) := by decide +kernel
theorem dX11_isWay_13 : decode cX11_isWay 13 = .ok (.iconst 0, 1) := by decide +kernel
theorem dX11_isWay_14 : decode cX11_isWay 14 = .ok (.ireturn, 1) := by decide +kernel
set_option maxHeartbeats 4000000 in
set_option maxRecDepth 100000 in
theorem jc_X11_isWay {l : Launch} {D : xD} {ty : xTy} {h : xH} {v0 : Int32} {r : Int32} (hF : jf_X11_isWay v0 = some r) : Met l yX11_isWay (xws yX11_isWay cX11_isWay 1 (some .boolean)) jr_X11_isWay (xPc D ty h [.int v0]) (xQ D ty (some (.int r)) h) 0 0 (xdom ty) := by
  refine x_met (by decide) ?_
  intro p e s m below meth c C0 hR
  generalize hargs : ([.int v0] : List Value).toArray = args at C0 ⊢
  have hx := C0.1
  have hb := C0.2.1
  have hown := C0.2.2.2.2.2.1
  have hts := C0.2.2.2.2.2.2.1
  have hS : xS ty s.heap s.heap [] := xS.rf
  have hl := lv_entry ([.int v0]) (n := 1) (Nat.le_of_ble_eq_true rfl)
  rw [← hargs, lg_entry_eq]
  rw [hargs]
  generalize (lg_sl ([.int v0]) ++ List.replicate (1 - (lg_sl ([.int v0])).length) Slot.unset).toArray = ls at hl ⊢
  have hl : lv_has ls 1 [(0, .int v0)] := hl
  unfold jf_X11_isWay at hF
  refine lv_iload_n hx hb dX11_isWay_0 rfl (lv_at hl 0 rfl) ?_
  refine lv_if_lt (tgt := 13) hx hb dX11_isWay_1 (by decide) (fun c1 => ?_) (fun c1 => ?_)
  · have hF := xif hF c1
    refine lv_iconst (v := 0) hx hb dX11_isWay_13 (by decide) ?_
    cases hF
    exact x_zret (w := 0) C0 hR hS (by decide) dX11_isWay_14
  · have hF := xel hF c1
    refine lv_iload_n hx hb dX11_isWay_4 rfl (lv_at hl 0 rfl) ?_
    refine lv_iconst (v := 2) hx hb dX11_isWay_5 (by decide) ?_
    refine lv_icmp_gt (tgt := 13) hx hb dX11_isWay_6 (by decide) (fun c2 => ?_) (fun c2 => ?_)
    · have hF := xif hF c2
      refine lv_iconst (v := 0) hx hb dX11_isWay_13 (by decide) ?_
      cases hF
      exact x_zret (w := 0) C0 hR hS (by decide) dX11_isWay_14
    · have hF := xel hF c2
      refine lv_iconst (v := 1) hx hb dX11_isWay_9 (by decide) ?_
      refine lv_goto (tgt := 14) hx hb dX11_isWay_10 (by decide) ?_
      cases hF
      exact x_zret (w := 1) C0 hR hS (by decide) dX11_isWay_14
theorem xm_X11_isWay : xMw yX11_isWay cX11_isWay 1 (some .boolean) 1 := ⟨xin 869 (by decide +kernel) rfl, xin 114 (by decide +kernel) rfl, by decide +kernel⟩
theorem xs_X11_isWay : Cond.static yX11_isWay ∈ xT := xin 868 (by decide +kernel) rfl
theorem dX11_found_0 : decode cX11_found 0 = .ok (.iload_n 1, 1) := by decide +kernel
theorem dX11_found_1 : decode cX11_found 1 = .ok (.invokestatic 191, 3) := by decide +kernel
theorem dX11_found_4 : decode cX11_found 4 = .ok (.ifCond .eq 17, 3) := by decide +kernel
theorem dX11_found_7 : decode cX11_found 7 = .ok (.iload_n 2, 1) := by decide +kernel
theorem dX11_found_8 : decode cX11_found 8 = .ok (.ifCond .lt 13, 3) := by decide +kernel
theorem dX11_found_11 : decode cX11_found 11 = .ok (.aload_n 0, 1) := by decide +kernel
theorem dX11_found_12 : decode cX11_found 12 = .ok (.getfield 32, 3) := by decide +kernel
theorem dX11_found_15 : decode cX11_found 15 = .ok (.getfield 128, 3) := by decide +kernel
theorem dX11_found_18 : decode cX11_found 18 = .ok (.ifCond .ne 5, 3) := by decide +kernel
theorem dX11_found_21 : decode cX11_found 21 = .ok (.iconst (-1), 1) := by decide +kernel
theorem dX11_found_22 : decode cX11_found 22 = .ok (.ireturn, 1) := by decide +kernel
theorem dX11_found_23 : decode cX11_found 23 = .ok (.iconst 0, 1) := by decide +kernel
theorem dX11_found_24 : decode cX11_found 24 = .ok (.istore_n 3, 1) := by decide +kernel
theorem dX11_found_25 : decode cX11_found 25 = .ok (.iconst 0, 1) := by decide +kernel
theorem dX11_found_26 : decode cX11_found 26 = .ok (.istore 4, 2) := by decide +kernel
theorem dX11_found_28 : decode cX11_found 28 = .ok (.iload 4, 2) := by decide +kernel
theorem dX11_found_30 : decode cX11_found 30 = .ok (.aload_n 0, 1) := by decide +kernel
theorem dX11_found_31 : decode cX11_found 31 = .ok (.getfield 62, 3) := by decide +kernel
theorem dX11_found_34 : decode cX11_found 34 = .ok (.getfield 194, 3) := by decide +kernel
theorem dX11_found_37 : decode cX11_found 37 = .ok (.if_icmp .ge 52, 3) := by decide +kernel
theorem dX11_found_40 : decode cX11_found 40 = .ok (.aload_n 0, 1) := by decide +kernel
theorem dX11_found_41 : decode cX11_found 41 = .ok (.getfield 62, 3) := by decide +kernel
theorem dX11_found_44 : decode cX11_found 44 = .ok (.iload 4, 2) := by decide +kernel
theorem dX11_found_46 : decode cX11_found 46 = .ok (.invokevirtual 195, 3) := by decide +kernel
theorem dX11_found_49 : decode cX11_found 49 = .ok (.istore 5, 2) := by decide +kernel
theorem dX11_found_51 : decode cX11_found 51 = .ok (.aload_n 0, 1) := by decide +kernel
theorem dX11_found_52 : decode cX11_found 52 = .ok (.iload_n 1, 1) := by decide +kernel
theorem dX11_found_53 : decode cX11_found 53 = .ok (.aload_n 0, 1) := by decide +kernel
theorem dX11_found_54 : decode cX11_found 54 = .ok (.getfield 20, 3) := by decide +kernel
theorem dX11_found_57 : decode cX11_found 57 = .ok (.iload 5, 2) := by decide +kernel
theorem dX11_found_59 : decode cX11_found 59 = .ok (.invokevirtual 155, 3) := by decide +kernel
theorem dX11_found_62 : decode cX11_found 62 = .ok (.aload_n 0, 1) := by decide +kernel
theorem dX11_found_63 : decode cX11_found 63 = .ok (.getfield 32, 3) := by decide +kernel
theorem dX11_found_66 : decode cX11_found 66 = .ok (.invokevirtual 187, 3) := by decide +kernel
theorem dX11_found_69 : decode cX11_found 69 = .ok (.ifCond .eq 14, 3) := by decide +kernel
theorem dX11_found_72 : decode cX11_found 72 = .ok (.iload_n 3, 1) := by decide +kernel
theorem dX11_found_73 : decode cX11_found 73 = .ok (.iload_n 2, 1) := by decide +kernel
theorem dX11_found_74 : decode cX11_found 74 = .ok (.if_icmp .ne 6, 3) := by decide +kernel
theorem dX11_found_77 : decode cX11_found 77 = .ok (.iload 5, 2) := by decide +kernel
theorem dX11_found_79 : decode cX11_found 79 = .ok (.ireturn, 1) := by decide +kernel
theorem dX11_found_80 : decode cX11_found 80 = .ok (.iinc 3 1, 3) := by decide +kernel
theorem dX11_found_83 : decode cX11_found 83 = .ok (.iinc 4 1, 3) := by decide +kernel
theorem dX11_found_86 : decode cX11_found 86 = .ok (.goto (-58), 3) := by decide +kernel
theorem dX11_found_89 : decode cX11_found 89 = .ok (.bipush (-2), 2) := by decide +kernel
theorem dX11_found_91 : decode cX11_found 91 = .ok (.ireturn, 1) := by decide +kernel
theorem wl_X11_191 : Cond.methodLink RX11 191 yX11_isWay ∈ xT := xin 867 (by decide +kernel) rfl
theorem wl_X11_195 : Cond.methodLink RX11 195 yX9_ruleAt ∈ xT := xin 870 (by decide +kernel) rfl
theorem wf_X11_194 : Cond.fieldLink RX11 194 "TermShelf$Tree" "size" "I" ∈ xT := xin 313 (by decide +kernel) rfl
section XN_X11_found
variable {p : Program} {l : Launch} {e : Env} {R : Room} {s : State} {m : MethodId} {args : Array Value} {below : List Frame} {meth : Method} {c : Code} {H H0 : Heap} {locs : List Loc} {cells slots : Nat} {Q : State → Prop} {cc : ByteArray} {nL pc : Nat} {rt : Option FieldType} {ls : Array Slot} {rest : List Value} {D : xD} {ty : xTy} {h : xH}
theorem cl_X11_191 {v0 : Int32} {r : Int32} (C0 : xC D RX11 cc nL rt p s m args meth c) (hR : xRep D ty h H) (hS : xS ty H0 H locs) (hF : jf_X11_isWay v0 = some r) (hrm : jr_X11_isWay.frames + 1 ≤ R.frames ∧ 8 + (1 + 11) + jr_X11_isWay.locals ≤ R.locals) (hsz : ls.size = nL) (hW : (rest.map fun v => v.category).sum ≤ 8) (hf : cells ≤ R.cells ∧ slots ≤ R.slots) (hdg : decode cc pc = .ok (.invokestatic 191, 3)) (kk : ∀ (H1 : Heap) (locs1 : List Loc), xRep D ty h H1 → xS ty H0 H1 locs1 → W p l e R s m args below meth c H1 locs1 cells slots Q (F0 m (pc + 3) ls (.int r :: rest))) : W p l e R s m args below meth c H locs cells slots Q (F0 m pc ls (.int v0 :: rest)) := x_callS C0 (jc_X11_isWay  hF) xm_X11_isWay xs_X11_isWay wl_X11_191 ⟨rfl, rfl, hrm⟩ hR hS (As := [.int v0]) rfl hsz rfl hW hdg hf kk
theorem cl_X11_195 {v0 : Nat} {v1 : Int32} {r : Int32} (C0 : xC D RX11 cc nL rt p s m args meth c) (hR : xRep D ty h H) (hS : xS ty H0 H locs) (hF : jf_X9_ruleAt ty h v0 v1 = some r) (t_v0 : ty v0 = some (0, 9)) (hrm : jr_X9_ruleAt.frames + 1 ≤ R.frames ∧ 8 + (2 + 11) + jr_X9_ruleAt.locals ≤ R.locals) (hsz : ls.size = nL) (hW : (rest.map fun v => v.category).sum ≤ 8) (hf : cells ≤ R.cells ∧ slots ≤ R.slots) (hdg : decode cc pc = .ok (.invokevirtual 195, 3)) (kk : ∀ (H1 : Heap) (locs1 : List Loc), xRep D ty h H1 → xS ty H0 H1 locs1 → W p l e R s m args below meth c H1 locs1 cells slots Q (F0 m (pc + 3) ls (.int r :: rest))) : W p l e R s m args below meth c H locs cells slots Q (F0 m pc ls (.int v1 :: .ref v0 :: rest)) := x_callV C0 (jc_X9_ruleAt t_v0 hF) xm_X9_ruleAt xi_X9_ruleAt xe_X9_ruleAt wl_X11_195 ⟨rfl, rfl, hrm⟩ (ci := 9) rfl t_v0 hR hS (As := [.int v1]) rfl hsz rfl hW hdg hf kk
theorem gf_X11_194 {a : Nat} (C0 : xC D RX11 cc nL rt p s m args meth c) (hR : xRep D ty h H) (ht : ty a = some (0, 9)) (hdg : decode cc pc = .ok (.getfield 194, 3)) (kk : W p l e R s m args below meth c H locs cells slots Q (F0 m (pc + 3) ls (.int (xI h a 4) :: rest))) : W p l e R s m args below meth c H locs cells slots Q (F0 m pc ls (.ref a :: rest)) := x_get C0 hR (ci := 9) (k := 4) (N := 7) (T := TX9) rfl iX9 (by decide) rfl wf_X11_194 rfl ht hdg kk
end XN_X11_found
set_option maxHeartbeats 4000000 in
set_option maxRecDepth 100000 in
theorem jw_X11_found_28 {p : Program} {l : Launch} {e : Env} {s : State} {m : MethodId} {args : Array Value} {below : List Frame} {meth : Method} {c : Code} {D : xD} {ty : xTy} (C0 : xC D RX11 cX11_found 6 (some .int) p s m args meth c) {r : Int32} {h9 : xH} : ∀ n : Nat, ∀ (v0 : Nat) (v1 : Int32) (v2 : Int32) (v3 : Int32) (v4 : Int32) (h : xH), ty v0 = some (0, 11) → jf_X11_found_28 ty n v0 v1 v2 v3 v4 h = some (r, h9) → ∀ (H : Heap) (locs : List Loc), xRep D ty h H → xS ty s.heap H locs → ∀ ls : Array Slot, lv_has ls 6 [(0, .ref v0), (1, .int v1), (2, .int v2), (3, .int v3), (4, .int v4)] → W p l e jr_X11_found s m args below meth c H locs 0 0 (MQ below (xQ D ty (some (.int r)) h9) args s 0 0 (xdom ty)) (F0 m 28 ls []) := by
  have hx := C0.1
  have hb := C0.2.1
  have hown := C0.2.2.2.2.2.1
  have hts := C0.2.2.2.2.2.2.1
  intro n
  induction n with
  | zero =>
    intro v0 v1 v2 v3 v4 h t_v0 hF H locs hR hS ls hl
    cases hF
  | succ n ih =>
    intro v0 v1 v2 v3 v4 h t_v0 hF H locs hR hS ls hl
    rw [jf_X11_found_28_s] at hF
    refine lv_iload hx hb dX11_found_28 (lv_at hl 4 rfl) ?_
    refine lv_aload_n hx hb dX11_found_30 rfl (lv_at hl 0 rfl) ?_
    obtain ⟨a1, e_a1, hF⟩ := xbd hF
    obtain ⟨e_a1, t_a1⟩ := xgo_sp e_a1
    refine gf_X11_62 C0 hR t_v0 e_a1 dX11_found_31 ?_
    refine gf_X11_194 C0 hR t_a1 dX11_found_34 ?_
    refine lv_icmp_ge (tgt := 89) hx hb dX11_found_37 (by decide) (fun c2 => ?_) (fun c2 => ?_)
    · have hF := xif hF c2
      refine lv_bipush (v := (-2)) hx hb dX11_found_89 (by decide) ?_
      cases hF
      exact x_iret C0 hR hS dX11_found_91
    · have hF := xel hF c2
      refine lv_aload_n hx hb dX11_found_40 rfl (lv_at hl 0 rfl) ?_
      obtain ⟨a3, e_a3, hF⟩ := xbd hF
      obtain ⟨e_a3, t_a3⟩ := xgo_sp e_a3
      refine gf_X11_62 C0 hR t_v0 e_a3 dX11_found_41 ?_
      refine lv_iload hx hb dX11_found_44 (lv_at hl 4 rfl) ?_
      obtain ⟨a4, e_a4, hF⟩ := xbd hF
      refine cl_X11_195 C0 hR hS e_a4 t_a3 ⟨(Nat.le_of_ble_eq_true rfl), (Nat.le_of_ble_eq_true rfl)⟩ hl.1 (Nat.le_of_ble_eq_true rfl) ⟨(Nat.le_of_ble_eq_true rfl), (Nat.le_of_ble_eq_true rfl)⟩ dX11_found_46 (fun H locs hR hS => ?_)
      refine lv_istore (lv' := [(5, .int a4), (0, .ref v0), (1, .int v1), (2, .int v2), (3, .int v3), (4, .int v4)]) hx hb dX11_found_49 hl (by decide) rfl (fun ls hl => ?_)
      refine lv_aload_n hx hb dX11_found_51 rfl (lv_at hl 1 rfl) ?_
      refine lv_iload_n hx hb dX11_found_52 rfl (lv_at hl 2 rfl) ?_
      refine lv_aload_n hx hb dX11_found_53 rfl (lv_at hl 1 rfl) ?_
      obtain ⟨a5, e_a5, hF⟩ := xbd hF
      obtain ⟨e_a5, t_a5⟩ := xgo_sp e_a5
      refine gf_X11_20 C0 hR t_v0 e_a5 dX11_found_54 ?_
      refine lv_iload hx hb dX11_found_57 (lv_at hl 0 rfl) ?_
      obtain ⟨a6, e_a6, hF⟩ := xbd hF
      obtain ⟨u7, e_u7, hF⟩ := xbd hF
      have t_a6 := xck_sp e_u7
      refine cl_X11_155 C0 hR hS e_a6 t_a5 ⟨(Nat.le_of_ble_eq_true rfl), (Nat.le_of_ble_eq_true rfl)⟩ hl.1 (Nat.le_of_ble_eq_true rfl) ⟨(Nat.le_of_ble_eq_true rfl), (Nat.le_of_ble_eq_true rfl)⟩ dX11_found_59 (fun H locs hR hS => ?_)
      refine lv_aload_n hx hb dX11_found_62 rfl (lv_at hl 1 rfl) ?_
      obtain ⟨a8, e_a8, hF⟩ := xbd hF
      obtain ⟨e_a8, t_a8⟩ := xgo_sp e_a8
      refine gf_X11_32 C0 hR t_v0 e_a8 dX11_found_63 ?_
      obtain ⟨a10, h9, e_h9, hF⟩ := xbd2 hF
      refine cl_X11_187 C0 hR hS e_h9 t_v0 t_a6 t_a8 ⟨(Nat.le_of_ble_eq_true rfl), (Nat.le_of_ble_eq_true rfl)⟩ hl.1 (Nat.le_of_ble_eq_true rfl) ⟨(Nat.le_of_ble_eq_true rfl), (Nat.le_of_ble_eq_true rfl)⟩ dX11_found_66 (fun H locs hR hS => ?_)
      refine lv_if_eq (tgt := 83) hx hb dX11_found_69 (by decide) (fun c11 => ?_) (fun c11 => ?_)
      · have hF := xif hF c11
        refine lv_iinc (v := v4 + 1) (lv' := [(4, .int (v4 + 1)), (5, .int a4), (0, .ref v0), (1, .int v1), (2, .int v2), (3, .int v3)]) hx hb dX11_found_83 hl (k := 5) rfl rfl (by decide) rfl (fun ls hl => ?_)
        refine lv_goto (tgt := 28) hx hb dX11_found_86 (by decide) ?_
        exact ih _ _ _ _ _ _ t_v0 hF _ _ hR hS _ (lv_sub hl [2, 3, 4, 5, 0] rfl)
      · have hF := xel hF c11
        refine lv_iload_n hx hb dX11_found_72 rfl (lv_at hl 4 rfl) ?_
        refine lv_iload_n hx hb dX11_found_73 rfl (lv_at hl 3 rfl) ?_
        refine lv_icmp_ne (tgt := 80) hx hb dX11_found_74 (by decide) (fun c12 => ?_) (fun c12 => ?_)
        · have hF := xel hF c12
          refine lv_iinc (v := v3 + 1) (lv' := [(3, .int (v3 + 1)), (5, .int a4), (0, .ref v0), (1, .int v1), (2, .int v2), (4, .int v4)]) hx hb dX11_found_80 hl (k := 4) rfl rfl (by decide) rfl (fun ls hl => ?_)
          refine lv_iinc (v := v4 + 1) (lv' := [(4, .int (v4 + 1)), (3, .int (v3 + 1)), (5, .int a4), (0, .ref v0), (1, .int v1), (2, .int v2)]) hx hb dX11_found_83 hl (k := 5) rfl rfl (by decide) rfl (fun ls hl => ?_)
          refine lv_goto (tgt := 28) hx hb dX11_found_86 (by decide) ?_
          exact ih _ _ _ _ _ _ t_v0 hF _ _ hR hS _ (lv_sub hl [3, 4, 5, 1, 0] rfl)
        · have hF := xif hF c12
          refine lv_iload hx hb dX11_found_77 (lv_at hl 0 rfl) ?_
          cases hF
          exact x_iret C0 hR hS dX11_found_79
set_option maxHeartbeats 4000000 in
set_option maxRecDepth 100000 in
theorem jc_X11_found {l : Launch} {D : xD} {ty : xTy} {h : xH} {v0 : Nat} {v1 : Int32} {v2 : Int32} {r : Int32} {h9 : xH} (t_v0 : ty v0 = some (0, 11)) (hF : jf_X11_found ty h v0 v1 v2 = some (r, h9)) : Met l yX11_found (xws yX11_found cX11_found 6 (some .int)) jr_X11_found (xPc D ty h [.ref v0, .int v1, .int v2]) (xQ D ty (some (.int r)) h9) 0 0 (xdom ty) := by
  refine x_met (by decide) ?_
  intro p e s m below meth c C0 hR
  generalize hargs : ([.ref v0, .int v1, .int v2] : List Value).toArray = args at C0 ⊢
  have hx := C0.1
  have hb := C0.2.1
  have hown := C0.2.2.2.2.2.1
  have hts := C0.2.2.2.2.2.2.1
  have hS : xS ty s.heap s.heap [] := xS.rf
  have hl := lv_entry ([.ref v0, .int v1, .int v2]) (n := 6) (Nat.le_of_ble_eq_true rfl)
  rw [← hargs, lg_entry_eq]
  rw [hargs]
  generalize (lg_sl ([.ref v0, .int v1, .int v2]) ++ List.replicate (6 - (lg_sl ([.ref v0, .int v1, .int v2])).length) Slot.unset).toArray = ls at hl ⊢
  have hl : lv_has ls 6 [(0, .ref v0), (1, .int v1), (2, .int v2)] := hl
  unfold jf_X11_found at hF
  refine lv_iload_n hx hb dX11_found_0 rfl (lv_at hl 1 rfl) ?_
  obtain ⟨a13, e_a13, hF⟩ := xbd hF
  refine cl_X11_191 C0 hR hS e_a13  ⟨(Nat.le_of_ble_eq_true rfl), (Nat.le_of_ble_eq_true rfl)⟩ hl.1 (Nat.le_of_ble_eq_true rfl) ⟨(Nat.le_of_ble_eq_true rfl), (Nat.le_of_ble_eq_true rfl)⟩ dX11_found_1 (fun H locs hR hS => ?_)
  refine lv_if_eq (tgt := 21) hx hb dX11_found_4 (by decide) (fun c14 => ?_) (fun c14 => ?_)
  · have hF := xif hF c14
    refine lv_iconst (v := (-1)) hx hb dX11_found_21 (by decide) ?_
    cases hF
    exact x_iret C0 hR hS dX11_found_22
  · have hF := xel hF c14
    refine lv_iload_n hx hb dX11_found_7 rfl (lv_at hl 2 rfl) ?_
    refine lv_if_lt (tgt := 21) hx hb dX11_found_8 (by decide) (fun c15 => ?_) (fun c15 => ?_)
    · have hF := xif hF c15
      refine lv_iconst (v := (-1)) hx hb dX11_found_21 (by decide) ?_
      cases hF
      exact x_iret C0 hR hS dX11_found_22
    · have hF := xel hF c15
      refine lv_aload_n hx hb dX11_found_11 rfl (lv_at hl 0 rfl) ?_
      obtain ⟨a16, e_a16, hF⟩ := xbd hF
      obtain ⟨e_a16, t_a16⟩ := xgo_sp e_a16
      refine gf_X11_32 C0 hR t_v0 e_a16 dX11_found_12 ?_
      refine gf_X11_128 C0 hR t_a16 dX11_found_15 ?_
      refine lv_if_ne (tgt := 23) hx hb dX11_found_18 (by decide) (fun c17 => ?_) (fun c17 => ?_)
      · have hF := xel hF c17
        refine lv_iconst (v := 0) hx hb dX11_found_23 (by decide) ?_
        refine lv_istore_n (lv' := [(3, .int 0), (0, .ref v0), (1, .int v1), (2, .int v2)]) hx hb dX11_found_24 rfl hl (by decide) rfl (fun ls hl => ?_)
        refine lv_iconst (v := 0) hx hb dX11_found_25 (by decide) ?_
        refine lv_istore (lv' := [(4, .int 0), (3, .int 0), (0, .ref v0), (1, .int v1), (2, .int v2)]) hx hb dX11_found_26 hl (by decide) rfl (fun ls hl => ?_)
        obtain ⟨_, hF⟩ := xlim_sp hF
        exact jw_X11_found_28 C0 _ _ _ _ _ _ _ t_v0 hF _ _ hR hS _ (lv_sub hl [2, 3, 4, 1, 0] rfl)
      · have hF := xif hF c17
        refine lv_iconst (v := (-1)) hx hb dX11_found_21 (by decide) ?_
        cases hF
        exact x_iret C0 hR hS dX11_found_22
theorem xm_X11_found : xMw yX11_found cX11_found 6 (some .int) 2 := ⟨xin 866 (by decide +kernel) rfl, xin 114 (by decide +kernel) rfl, by decide +kernel⟩
theorem xi_X11_found : Cond.instanceMethod yX11_found ∈ xT := xin 864 (by decide +kernel) rfl
theorem xe_X11_found : Cond.selects yX11_found.cls yX11_found yX11_found ∈ xT := xin 865 (by decide +kernel) rfl
theorem dX11_fitBits_0 : decode cX11_fitBits 0 = .ok (.iconst 0, 1) := by decide +kernel
theorem dX11_fitBits_1 : decode cX11_fitBits 1 = .ok (.istore 4, 2) := by decide +kernel
theorem dX11_fitBits_3 : decode cX11_fitBits 3 = .ok (.iconst 0, 1) := by decide +kernel
theorem dX11_fitBits_4 : decode cX11_fitBits 4 = .ok (.istore 5, 2) := by decide +kernel
theorem dX11_fitBits_6 : decode cX11_fitBits 6 = .ok (.iload 5, 2) := by decide +kernel
theorem dX11_fitBits_8 : decode cX11_fitBits 8 = .ok (.aload_n 0, 1) := by decide +kernel
theorem dX11_fitBits_9 : decode cX11_fitBits 9 = .ok (.getfield 20, 3) := by decide +kernel
theorem dX11_fitBits_12 : decode cX11_fitBits 12 = .ok (.getfield 111, 3) := by decide +kernel
theorem dX11_fitBits_15 : decode cX11_fitBits 15 = .ok (.if_icmp .ge 45, 3) := by decide +kernel
theorem dX11_fitBits_18 : decode cX11_fitBits 18 = .ok (.iload_n 3, 1) := by decide +kernel
theorem dX11_fitBits_19 : decode cX11_fitBits 19 = .ok (.iload 5, 2) := by decide +kernel
theorem dX11_fitBits_21 : decode cX11_fitBits 21 = .ok (.invokestatic 263, 3) := by decide +kernel
theorem dX11_fitBits_24 : decode cX11_fitBits 24 = .ok (.ifCond .eq 30, 3) := by decide +kernel
theorem dX11_fitBits_27 : decode cX11_fitBits 27 = .ok (.aload_n 0, 1) := by decide +kernel
theorem dX11_fitBits_28 : decode cX11_fitBits 28 = .ok (.iload_n 1, 1) := by decide +kernel
theorem dX11_fitBits_29 : decode cX11_fitBits 29 = .ok (.aload_n 0, 1) := by decide +kernel
theorem dX11_fitBits_30 : decode cX11_fitBits 30 = .ok (.getfield 20, 3) := by decide +kernel
theorem dX11_fitBits_33 : decode cX11_fitBits 33 = .ok (.iload 5, 2) := by decide +kernel
theorem dX11_fitBits_35 : decode cX11_fitBits 35 = .ok (.invokevirtual 155, 3) := by decide +kernel
theorem dX11_fitBits_38 : decode cX11_fitBits 38 = .ok (.aload_n 2, 1) := by decide +kernel
theorem dX11_fitBits_39 : decode cX11_fitBits 39 = .ok (.invokevirtual 187, 3) := by decide +kernel
theorem dX11_fitBits_42 : decode cX11_fitBits 42 = .ok (.ifCond .eq 12, 3) := by decide +kernel
theorem dX11_fitBits_45 : decode cX11_fitBits 45 = .ok (.iload 4, 2) := by decide +kernel
theorem dX11_fitBits_47 : decode cX11_fitBits 47 = .ok (.iconst 1, 1) := by decide +kernel
theorem dX11_fitBits_48 : decode cX11_fitBits 48 = .ok (.iload 5, 2) := by decide +kernel
theorem dX11_fitBits_50 : decode cX11_fitBits 50 = .ok (.ishl, 1) := by decide +kernel
theorem dX11_fitBits_51 : decode cX11_fitBits 51 = .ok (.ior, 1) := by decide +kernel
theorem dX11_fitBits_52 : decode cX11_fitBits 52 = .ok (.istore 4, 2) := by decide +kernel
theorem dX11_fitBits_54 : decode cX11_fitBits 54 = .ok (.iinc 5 1, 3) := by decide +kernel
theorem dX11_fitBits_57 : decode cX11_fitBits 57 = .ok (.goto (-51), 3) := by decide +kernel
theorem dX11_fitBits_60 : decode cX11_fitBits 60 = .ok (.iload 4, 2) := by decide +kernel
theorem dX11_fitBits_62 : decode cX11_fitBits 62 = .ok (.ireturn, 1) := by decide +kernel
theorem wl_X11_263 : Cond.methodLink RX11 263 yX11_hasBit ∈ xT := xin 882 (by decide +kernel) rfl
section XN_X11_fitBits
variable {p : Program} {l : Launch} {e : Env} {R : Room} {s : State} {m : MethodId} {args : Array Value} {below : List Frame} {meth : Method} {c : Code} {H H0 : Heap} {locs : List Loc} {cells slots : Nat} {Q : State → Prop} {cc : ByteArray} {nL pc : Nat} {rt : Option FieldType} {ls : Array Slot} {rest : List Value} {D : xD} {ty : xTy} {h : xH}
theorem cl_X11_263 {v0 : Int32} {v1 : Int32} {r : Int32} (C0 : xC D RX11 cc nL rt p s m args meth c) (hR : xRep D ty h H) (hS : xS ty H0 H locs) (hF : jf_X11_hasBit v0 v1 = some r) (hrm : jr_X11_hasBit.frames + 1 ≤ R.frames ∧ 8 + (2 + 11) + jr_X11_hasBit.locals ≤ R.locals) (hsz : ls.size = nL) (hW : (rest.map fun v => v.category).sum ≤ 8) (hf : cells ≤ R.cells ∧ slots ≤ R.slots) (hdg : decode cc pc = .ok (.invokestatic 263, 3)) (kk : ∀ (H1 : Heap) (locs1 : List Loc), xRep D ty h H1 → xS ty H0 H1 locs1 → W p l e R s m args below meth c H1 locs1 cells slots Q (F0 m (pc + 3) ls (.int r :: rest))) : W p l e R s m args below meth c H locs cells slots Q (F0 m pc ls (.int v1 :: .int v0 :: rest)) := x_callS C0 (jc_X11_hasBit  hF) xm_X11_hasBit xs_X11_hasBit wl_X11_263 ⟨rfl, rfl, hrm⟩ hR hS (As := [.int v0, .int v1]) rfl hsz rfl hW hdg hf kk
end XN_X11_fitBits
set_option maxHeartbeats 4000000 in
set_option maxRecDepth 100000 in
theorem jw_X11_fitBits_6 {p : Program} {l : Launch} {e : Env} {s : State} {m : MethodId} {args : Array Value} {below : List Frame} {meth : Method} {c : Code} {D : xD} {ty : xTy} (C0 : xC D RX11 cX11_fitBits 6 (some .int) p s m args meth c) {r : Int32} {h9 : xH} : ∀ n : Nat, ∀ (v0 : Nat) (v1 : Int32) (v2 : Nat) (v3 : Int32) (v4 : Int32) (v5 : Int32) (h : xH), ty v0 = some (0, 11) → ty v2 = some (0, 7) → jf_X11_fitBits_6 ty n v0 v1 v2 v3 v4 v5 h = some (r, h9) → ∀ (H : Heap) (locs : List Loc), xRep D ty h H → xS ty s.heap H locs → ∀ ls : Array Slot, lv_has ls 6 [(0, .ref v0), (1, .int v1), (2, .ref v2), (3, .int v3), (4, .int v4), (5, .int v5)] → W p l e jr_X11_fitBits s m args below meth c H locs 0 0 (MQ below (xQ D ty (some (.int r)) h9) args s 0 0 (xdom ty)) (F0 m 6 ls []) := by
  have hx := C0.1
  have hb := C0.2.1
  have hown := C0.2.2.2.2.2.1
  have hts := C0.2.2.2.2.2.2.1
  intro n
  induction n with
  | zero =>
    intro v0 v1 v2 v3 v4 v5 h t_v0 t_v2 hF H locs hR hS ls hl
    cases hF
  | succ n ih =>
    intro v0 v1 v2 v3 v4 v5 h t_v0 t_v2 hF H locs hR hS ls hl
    rw [jf_X11_fitBits_6_s] at hF
    refine lv_iload hx hb dX11_fitBits_6 (lv_at hl 5 rfl) ?_
    refine lv_aload_n hx hb dX11_fitBits_8 rfl (lv_at hl 0 rfl) ?_
    obtain ⟨a1, e_a1, hF⟩ := xbd hF
    obtain ⟨e_a1, t_a1⟩ := xgo_sp e_a1
    refine gf_X11_20 C0 hR t_v0 e_a1 dX11_fitBits_9 ?_
    refine gf_X11_111 C0 hR t_a1 dX11_fitBits_12 ?_
    refine lv_icmp_ge (tgt := 60) hx hb dX11_fitBits_15 (by decide) (fun c2 => ?_) (fun c2 => ?_)
    · have hF := xif hF c2
      refine lv_iload hx hb dX11_fitBits_60 (lv_at hl 4 rfl) ?_
      cases hF
      exact x_iret C0 hR hS dX11_fitBits_62
    · have hF := xel hF c2
      refine lv_iload_n hx hb dX11_fitBits_18 rfl (lv_at hl 3 rfl) ?_
      refine lv_iload hx hb dX11_fitBits_19 (lv_at hl 5 rfl) ?_
      obtain ⟨a3, e_a3, hF⟩ := xbd hF
      refine cl_X11_263 C0 hR hS e_a3  ⟨(Nat.le_of_ble_eq_true rfl), (Nat.le_of_ble_eq_true rfl)⟩ hl.1 (Nat.le_of_ble_eq_true rfl) ⟨(Nat.le_of_ble_eq_true rfl), (Nat.le_of_ble_eq_true rfl)⟩ dX11_fitBits_21 (fun H locs hR hS => ?_)
      refine lv_if_eq (tgt := 54) hx hb dX11_fitBits_24 (by decide) (fun c4 => ?_) (fun c4 => ?_)
      · have hF := xif hF c4
        refine lv_iinc (v := v5 + 1) (lv' := [(5, .int (v5 + 1)), (0, .ref v0), (1, .int v1), (2, .ref v2), (3, .int v3), (4, .int v4)]) hx hb dX11_fitBits_54 hl (k := 5) rfl rfl (by decide) rfl (fun ls hl => ?_)
        refine lv_goto (tgt := 6) hx hb dX11_fitBits_57 (by decide) ?_
        exact ih _ _ _ _ _ _ _ t_v0 t_v2 hF _ _ hR hS _ (lv_sub hl [1, 2, 3, 4, 5, 0] rfl)
      · have hF := xel hF c4
        refine lv_aload_n hx hb dX11_fitBits_27 rfl (lv_at hl 0 rfl) ?_
        refine lv_iload_n hx hb dX11_fitBits_28 rfl (lv_at hl 1 rfl) ?_
        refine lv_aload_n hx hb dX11_fitBits_29 rfl (lv_at hl 0 rfl) ?_
        obtain ⟨a5, e_a5, hF⟩ := xbd hF
        obtain ⟨e_a5, t_a5⟩ := xgo_sp e_a5
        refine gf_X11_20 C0 hR t_v0 e_a5 dX11_fitBits_30 ?_
        refine lv_iload hx hb dX11_fitBits_33 (lv_at hl 5 rfl) ?_
        obtain ⟨a6, e_a6, hF⟩ := xbd hF
        obtain ⟨u7, e_u7, hF⟩ := xbd hF
        have t_a6 := xck_sp e_u7
        refine cl_X11_155 C0 hR hS e_a6 t_a5 ⟨(Nat.le_of_ble_eq_true rfl), (Nat.le_of_ble_eq_true rfl)⟩ hl.1 (Nat.le_of_ble_eq_true rfl) ⟨(Nat.le_of_ble_eq_true rfl), (Nat.le_of_ble_eq_true rfl)⟩ dX11_fitBits_35 (fun H locs hR hS => ?_)
        refine lv_aload_n hx hb dX11_fitBits_38 rfl (lv_at hl 2 rfl) ?_
        obtain ⟨a9, h8, e_h8, hF⟩ := xbd2 hF
        refine cl_X11_187 C0 hR hS e_h8 t_v0 t_a6 t_v2 ⟨(Nat.le_of_ble_eq_true rfl), (Nat.le_of_ble_eq_true rfl)⟩ hl.1 (Nat.le_of_ble_eq_true rfl) ⟨(Nat.le_of_ble_eq_true rfl), (Nat.le_of_ble_eq_true rfl)⟩ dX11_fitBits_39 (fun H locs hR hS => ?_)
        refine lv_if_eq (tgt := 54) hx hb dX11_fitBits_42 (by decide) (fun c10 => ?_) (fun c10 => ?_)
        · have hF := xif hF c10
          refine lv_iinc (v := v5 + 1) (lv' := [(5, .int (v5 + 1)), (0, .ref v0), (1, .int v1), (2, .ref v2), (3, .int v3), (4, .int v4)]) hx hb dX11_fitBits_54 hl (k := 5) rfl rfl (by decide) rfl (fun ls hl => ?_)
          refine lv_goto (tgt := 6) hx hb dX11_fitBits_57 (by decide) ?_
          exact ih _ _ _ _ _ _ _ t_v0 t_v2 hF _ _ hR hS _ (lv_sub hl [1, 2, 3, 4, 5, 0] rfl)
        · have hF := xel hF c10
          refine lv_iload hx hb dX11_fitBits_45 (lv_at hl 4 rfl) ?_
          refine lv_iconst (v := 1) hx hb dX11_fitBits_47 (by decide) ?_
          refine lv_iload hx hb dX11_fitBits_48 (lv_at hl 5 rfl) ?_
          refine lv_ishl hx hb dX11_fitBits_50 ?_
          refine lv_ior hx hb dX11_fitBits_51 ?_
          refine lv_istore (lv' := [(4, .int (v4 ||| (1 <<< (v5 &&& 31)))), (0, .ref v0), (1, .int v1), (2, .ref v2), (3, .int v3), (5, .int v5)]) hx hb dX11_fitBits_52 hl (by decide) rfl (fun ls hl => ?_)
          refine lv_iinc (v := v5 + 1) (lv' := [(5, .int (v5 + 1)), (4, .int (v4 ||| (1 <<< (v5 &&& 31)))), (0, .ref v0), (1, .int v1), (2, .ref v2), (3, .int v3)]) hx hb dX11_fitBits_54 hl (k := 5) rfl rfl (by decide) rfl (fun ls hl => ?_)
          refine lv_goto (tgt := 6) hx hb dX11_fitBits_57 (by decide) ?_
          exact ih _ _ _ _ _ _ _ t_v0 t_v2 hF _ _ hR hS _ (lv_sub hl [2, 3, 4, 5, 1, 0] rfl)
set_option maxHeartbeats 4000000 in
set_option maxRecDepth 100000 in
theorem jc_X11_fitBits {l : Launch} {D : xD} {ty : xTy} {h : xH} {v0 : Nat} {v1 : Int32} {v2 : Nat} {v3 : Int32} {r : Int32} {h9 : xH} (t_v0 : ty v0 = some (0, 11)) (t_v2 : ty v2 = some (0, 7)) (hF : jf_X11_fitBits ty h v0 v1 v2 v3 = some (r, h9)) : Met l yX11_fitBits (xws yX11_fitBits cX11_fitBits 6 (some .int)) jr_X11_fitBits (xPc D ty h [.ref v0, .int v1, .ref v2, .int v3]) (xQ D ty (some (.int r)) h9) 0 0 (xdom ty) := by
  refine x_met (by decide) ?_
  intro p e s m below meth c C0 hR
  generalize hargs : ([.ref v0, .int v1, .ref v2, .int v3] : List Value).toArray = args at C0 ⊢
  have hx := C0.1
  have hb := C0.2.1
  have hown := C0.2.2.2.2.2.1
  have hts := C0.2.2.2.2.2.2.1
  have hS : xS ty s.heap s.heap [] := xS.rf
  have hl := lv_entry ([.ref v0, .int v1, .ref v2, .int v3]) (n := 6) (Nat.le_of_ble_eq_true rfl)
  rw [← hargs, lg_entry_eq]
  rw [hargs]
  generalize (lg_sl ([.ref v0, .int v1, .ref v2, .int v3]) ++ List.replicate (6 - (lg_sl ([.ref v0, .int v1, .ref v2, .int v3])).length) Slot.unset).toArray = ls at hl ⊢
  have hl : lv_has ls 6 [(0, .ref v0), (1, .int v1), (2, .ref v2), (3, .int v3)] := hl
  unfold jf_X11_fitBits at hF
  refine lv_iconst (v := 0) hx hb dX11_fitBits_0 (by decide) ?_
  refine lv_istore (lv' := [(4, .int 0), (0, .ref v0), (1, .int v1), (2, .ref v2), (3, .int v3)]) hx hb dX11_fitBits_1 hl (by decide) rfl (fun ls hl => ?_)
  refine lv_iconst (v := 0) hx hb dX11_fitBits_3 (by decide) ?_
  refine lv_istore (lv' := [(5, .int 0), (4, .int 0), (0, .ref v0), (1, .int v1), (2, .ref v2), (3, .int v3)]) hx hb dX11_fitBits_4 hl (by decide) rfl (fun ls hl => ?_)
  obtain ⟨_, hF⟩ := xlim_sp hF
  exact jw_X11_fitBits_6 C0 _ _ _ _ _ _ _ _ t_v0 t_v2 hF _ _ hR hS _ (lv_sub hl [2, 3, 4, 5, 1, 0] rfl)
theorem xm_X11_fitBits : xMw yX11_fitBits cX11_fitBits 6 (some .int) 3 := ⟨xin 881 (by decide +kernel) rfl, xin 114 (by decide +kernel) rfl, by decide +kernel⟩
theorem xi_X11_fitBits : Cond.instanceMethod yX11_fitBits ∈ xT := xin 880 (by decide +kernel) rfl
theorem xe_X11_fitBits : Cond.selects yX11_fitBits.cls yX11_fitBits yX11_fitBits ∈ xT := xin 34 (by decide +kernel) rfl
theorem dJ6_bitCount_0f7a4_0 : decode cJ6_bitCount_0f7a4 0 = .ok (.iload_n 0, 1) := by decide +kernel
theorem dJ6_bitCount_0f7a4_1 : decode cJ6_bitCount_0f7a4 1 = .ok (.iload_n 0, 1) := by decide +kernel
theorem dJ6_bitCount_0f7a4_2 : decode cJ6_bitCount_0f7a4 2 = .ok (.iconst 1, 1) := by decide +kernel
theorem dJ6_bitCount_0f7a4_3 : decode cJ6_bitCount_0f7a4 3 = .ok (.iushr, 1) := by decide +kernel
theorem dJ6_bitCount_0f7a4_4 : decode cJ6_bitCount_0f7a4 4 = .ok (.ldc_w 265, 3) := by decide +kernel
theorem dJ6_bitCount_0f7a4_7 : decode cJ6_bitCount_0f7a4 7 = .ok (.iand, 1) := by decide +kernel
theorem dJ6_bitCount_0f7a4_8 : decode cJ6_bitCount_0f7a4 8 = .ok (.isub, 1) := by decide +kernel
theorem dJ6_bitCount_0f7a4_9 : decode cJ6_bitCount_0f7a4 9 = .ok (.istore_n 0, 1) := by decide +kernel
theorem dJ6_bitCount_0f7a4_10 : decode cJ6_bitCount_0f7a4 10 = .ok (.iload_n 0, 1) := by decide +kernel
theorem dJ6_bitCount_0f7a4_11 : decode cJ6_bitCount_0f7a4 11 = .ok (.ldc_w 266, 3) := by decide +kernel
theorem dJ6_bitCount_0f7a4_14 : decode cJ6_bitCount_0f7a4 14 = .ok (.iand, 1) := by decide +kernel
theorem dJ6_bitCount_0f7a4_15 : decode cJ6_bitCount_0f7a4 15 = .ok (.iload_n 0, 1) := by decide +kernel
theorem dJ6_bitCount_0f7a4_16 : decode cJ6_bitCount_0f7a4 16 = .ok (.iconst 2, 1) := by decide +kernel
theorem dJ6_bitCount_0f7a4_17 : decode cJ6_bitCount_0f7a4 17 = .ok (.iushr, 1) := by decide +kernel
theorem dJ6_bitCount_0f7a4_18 : decode cJ6_bitCount_0f7a4 18 = .ok (.ldc_w 266, 3) := by decide +kernel
theorem dJ6_bitCount_0f7a4_21 : decode cJ6_bitCount_0f7a4 21 = .ok (.iand, 1) := by decide +kernel
theorem dJ6_bitCount_0f7a4_22 : decode cJ6_bitCount_0f7a4 22 = .ok (.iadd, 1) := by decide +kernel
theorem dJ6_bitCount_0f7a4_23 : decode cJ6_bitCount_0f7a4 23 = .ok (.istore_n 0, 1) := by decide +kernel
theorem dJ6_bitCount_0f7a4_24 : decode cJ6_bitCount_0f7a4 24 = .ok (.iload_n 0, 1) := by decide +kernel
theorem dJ6_bitCount_0f7a4_25 : decode cJ6_bitCount_0f7a4 25 = .ok (.iload_n 0, 1) := by decide +kernel
theorem dJ6_bitCount_0f7a4_26 : decode cJ6_bitCount_0f7a4 26 = .ok (.iconst 4, 1) := by decide +kernel
theorem dJ6_bitCount_0f7a4_27 : decode cJ6_bitCount_0f7a4 27 = .ok (.iushr, 1) := by decide +kernel
theorem dJ6_bitCount_0f7a4_28 : decode cJ6_bitCount_0f7a4 28 = .ok (.iadd, 1) := by decide +kernel
theorem dJ6_bitCount_0f7a4_29 : decode cJ6_bitCount_0f7a4 29 = .ok (.ldc_w 267, 3) := by decide +kernel
theorem dJ6_bitCount_0f7a4_32 : decode cJ6_bitCount_0f7a4 32 = .ok (.iand, 1) := by decide +kernel
theorem dJ6_bitCount_0f7a4_33 : decode cJ6_bitCount_0f7a4 33 = .ok (.istore_n 0, 1) := by decide +kernel
theorem dJ6_bitCount_0f7a4_34 : decode cJ6_bitCount_0f7a4 34 = .ok (.iload_n 0, 1) := by decide +kernel
theorem dJ6_bitCount_0f7a4_35 : decode cJ6_bitCount_0f7a4 35 = .ok (.iload_n 0, 1) := by decide +kernel
theorem dJ6_bitCount_0f7a4_36 : decode cJ6_bitCount_0f7a4 36 = .ok (.bipush 8, 2) := by decide +kernel
theorem dJ6_bitCount_0f7a4_38 : decode cJ6_bitCount_0f7a4 38 = .ok (.iushr, 1) := by decide +kernel
theorem dJ6_bitCount_0f7a4_39 : decode cJ6_bitCount_0f7a4 39 = .ok (.iadd, 1) := by decide +kernel
theorem dJ6_bitCount_0f7a4_40 : decode cJ6_bitCount_0f7a4 40 = .ok (.istore_n 0, 1) := by decide +kernel
theorem dJ6_bitCount_0f7a4_41 : decode cJ6_bitCount_0f7a4 41 = .ok (.iload_n 0, 1) := by decide +kernel
theorem dJ6_bitCount_0f7a4_42 : decode cJ6_bitCount_0f7a4 42 = .ok (.iload_n 0, 1) := by decide +kernel
theorem dJ6_bitCount_0f7a4_43 : decode cJ6_bitCount_0f7a4 43 = .ok (.bipush 16, 2) := by decide +kernel
theorem dJ6_bitCount_0f7a4_45 : decode cJ6_bitCount_0f7a4 45 = .ok (.iushr, 1) := by decide +kernel
theorem dJ6_bitCount_0f7a4_46 : decode cJ6_bitCount_0f7a4 46 = .ok (.iadd, 1) := by decide +kernel
theorem dJ6_bitCount_0f7a4_47 : decode cJ6_bitCount_0f7a4 47 = .ok (.istore_n 0, 1) := by decide +kernel
theorem dJ6_bitCount_0f7a4_48 : decode cJ6_bitCount_0f7a4 48 = .ok (.iload_n 0, 1) := by decide +kernel
theorem dJ6_bitCount_0f7a4_49 : decode cJ6_bitCount_0f7a4 49 = .ok (.bipush 63, 2) := by decide +kernel
theorem dJ6_bitCount_0f7a4_51 : decode cJ6_bitCount_0f7a4 51 = .ok (.iand, 1) := by decide +kernel
theorem dJ6_bitCount_0f7a4_52 : decode cJ6_bitCount_0f7a4 52 = .ok (.ireturn, 1) := by decide +kernel
theorem wk_J6_265 : Cond.constant RJ6 265 1431655765 ∈ xT := xin 886 (by decide +kernel) rfl
theorem wk_J6_266 : Cond.constant RJ6 266 858993459 ∈ xT := xin 887 (by decide +kernel) rfl
theorem wk_J6_267 : Cond.constant RJ6 267 252645135 ∈ xT := xin 888 (by decide +kernel) rfl
set_option maxHeartbeats 4000000 in
set_option maxRecDepth 100000 in
theorem jc_J6_bitCount_0f7a4 {l : Launch} {D : xD} {ty : xTy} {h : xH} {v0 : Int32} {r : Int32} (hF : jf_J6_bitCount_0f7a4 v0 = some r) : Met l yJ6_bitCount_0f7a4 (xws yJ6_bitCount_0f7a4 cJ6_bitCount_0f7a4 1 (some .int)) jr_J6_bitCount_0f7a4 (xPc D ty h [.int v0]) (xQ D ty (some (.int r)) h) 0 0 (xdom ty) := by
  refine x_met (by decide) ?_
  intro p e s m below meth c C0 hR
  generalize hargs : ([.int v0] : List Value).toArray = args at C0 ⊢
  have hx := C0.1
  have hb := C0.2.1
  have hown := C0.2.2.2.2.2.1
  have hts := C0.2.2.2.2.2.2.1
  have hS : xS ty s.heap s.heap [] := xS.rf
  have hl := lv_entry ([.int v0]) (n := 1) (Nat.le_of_ble_eq_true rfl)
  rw [← hargs, lg_entry_eq]
  rw [hargs]
  generalize (lg_sl ([.int v0]) ++ List.replicate (1 - (lg_sl ([.int v0])).length) Slot.unset).toArray = ls at hl ⊢
  have hl : lv_has ls 1 [(0, .int v0)] := hl
  unfold jf_J6_bitCount_0f7a4 at hF
  refine lv_iload_n hx hb dJ6_bitCount_0f7a4_0 rfl (lv_at hl 0 rfl) ?_
  refine lv_iload_n hx hb dJ6_bitCount_0f7a4_1 rfl (lv_at hl 0 rfl) ?_
  refine lv_iconst (v := 1) hx hb dJ6_bitCount_0f7a4_2 (by decide) ?_
  refine lv_iushr (v := xush v0 1) hx hb dJ6_bitCount_0f7a4_3 rfl ?_
  refine lv_ldcw (v := 1431655765) hx hb hown (hts _ wk_J6_265) dJ6_bitCount_0f7a4_4 ?_
  refine lv_iand hx hb dJ6_bitCount_0f7a4_7 ?_
  refine lv_isub hx hb dJ6_bitCount_0f7a4_8 ?_
  refine lv_istore_n (lv' := [(0, .int (v0 - ((xush v0 1) &&& 1431655765)))]) hx hb dJ6_bitCount_0f7a4_9 rfl hl (by decide) rfl (fun ls hl => ?_)
  refine lv_iload_n hx hb dJ6_bitCount_0f7a4_10 rfl (lv_at hl 0 rfl) ?_
  refine lv_ldcw (v := 858993459) hx hb hown (hts _ wk_J6_266) dJ6_bitCount_0f7a4_11 ?_
  refine lv_iand hx hb dJ6_bitCount_0f7a4_14 ?_
  refine lv_iload_n hx hb dJ6_bitCount_0f7a4_15 rfl (lv_at hl 0 rfl) ?_
  refine lv_iconst (v := 2) hx hb dJ6_bitCount_0f7a4_16 (by decide) ?_
  refine lv_iushr (v := xush (v0 - ((xush v0 1) &&& 1431655765)) 2) hx hb dJ6_bitCount_0f7a4_17 rfl ?_
  refine lv_ldcw (v := 858993459) hx hb hown (hts _ wk_J6_266) dJ6_bitCount_0f7a4_18 ?_
  refine lv_iand hx hb dJ6_bitCount_0f7a4_21 ?_
  refine lv_iadd hx hb dJ6_bitCount_0f7a4_22 ?_
  refine lv_istore_n (lv' := [(0, .int (((v0 - ((xush v0 1) &&& 1431655765)) &&& 858993459) + ((xush (v0 - ((xush v0 1) &&& 1431655765)) 2) &&& 858993459)))]) hx hb dJ6_bitCount_0f7a4_23 rfl hl (by decide) rfl (fun ls hl => ?_)
  refine lv_iload_n hx hb dJ6_bitCount_0f7a4_24 rfl (lv_at hl 0 rfl) ?_
  refine lv_iload_n hx hb dJ6_bitCount_0f7a4_25 rfl (lv_at hl 0 rfl) ?_
  refine lv_iconst (v := 4) hx hb dJ6_bitCount_0f7a4_26 (by decide) ?_
  refine lv_iushr (v := xush (((v0 - ((xush v0 1) &&& 1431655765)) &&& 858993459) + ((xush (v0 - ((xush v0 1) &&& 1431655765)) 2) &&& 858993459)) 4) hx hb dJ6_bitCount_0f7a4_27 rfl ?_
  refine lv_iadd hx hb dJ6_bitCount_0f7a4_28 ?_
  refine lv_ldcw (v := 252645135) hx hb hown (hts _ wk_J6_267) dJ6_bitCount_0f7a4_29 ?_
  refine lv_iand hx hb dJ6_bitCount_0f7a4_32 ?_
  refine lv_istore_n (lv' := [(0, .int (((((v0 - ((xush v0 1) &&& 1431655765)) &&& 858993459) + ((xush (v0 - ((xush v0 1) &&& 1431655765)) 2) &&& 858993459)) + (xush (((v0 - ((xush v0 1) &&& 1431655765)) &&& 858993459) + ((xush (v0 - ((xush v0 1) &&& 1431655765)) 2) &&& 858993459)) 4)) &&& 252645135))]) hx hb dJ6_bitCount_0f7a4_33 rfl hl (by decide) rfl (fun ls hl => ?_)
  refine lv_iload_n hx hb dJ6_bitCount_0f7a4_34 rfl (lv_at hl 0 rfl) ?_
  refine lv_iload_n hx hb dJ6_bitCount_0f7a4_35 rfl (lv_at hl 0 rfl) ?_
  refine lv_bipush (v := 8) hx hb dJ6_bitCount_0f7a4_36 (by decide) ?_
  refine lv_iushr (v := xush (((((v0 - ((xush v0 1) &&& 1431655765)) &&& 858993459) + ((xush (v0 - ((xush v0 1) &&& 1431655765)) 2) &&& 858993459)) + (xush (((v0 - ((xush v0 1) &&& 1431655765)) &&& 858993459) + ((xush (v0 - ((xush v0 1) &&& 1431655765)) 2) &&& 858993459)) 4)) &&& 252645135) 8) hx hb dJ6_bitCount_0f7a4_38 rfl ?_
  refine lv_iadd hx hb dJ6_bitCount_0f7a4_39 ?_
  refine lv_istore_n (lv' := [(0, .int ((((((v0 - ((xush v0 1) &&& 1431655765)) &&& 858993459) + ((xush (v0 - ((xush v0 1) &&& 1431655765)) 2) &&& 858993459)) + (xush (((v0 - ((xush v0 1) &&& 1431655765)) &&& 858993459) + ((xush (v0 - ((xush v0 1) &&& 1431655765)) 2) &&& 858993459)) 4)) &&& 252645135) + (xush (((((v0 - ((xush v0 1) &&& 1431655765)) &&& 858993459) + ((xush (v0 - ((xush v0 1) &&& 1431655765)) 2) &&& 858993459)) + (xush (((v0 - ((xush v0 1) &&& 1431655765)) &&& 858993459) + ((xush (v0 - ((xush v0 1) &&& 1431655765)) 2) &&& 858993459)) 4)) &&& 252645135) 8)))]) hx hb dJ6_bitCount_0f7a4_40 rfl hl (by decide) rfl (fun ls hl => ?_)
  refine lv_iload_n hx hb dJ6_bitCount_0f7a4_41 rfl (lv_at hl 0 rfl) ?_
  refine lv_iload_n hx hb dJ6_bitCount_0f7a4_42 rfl (lv_at hl 0 rfl) ?_
  refine lv_bipush (v := 16) hx hb dJ6_bitCount_0f7a4_43 (by decide) ?_
  refine lv_iushr (v := xush ((((((v0 - ((xush v0 1) &&& 1431655765)) &&& 858993459) + ((xush (v0 - ((xush v0 1) &&& 1431655765)) 2) &&& 858993459)) + (xush (((v0 - ((xush v0 1) &&& 1431655765)) &&& 858993459) + ((xush (v0 - ((xush v0 1) &&& 1431655765)) 2) &&& 858993459)) 4)) &&& 252645135) + (xush (((((v0 - ((xush v0 1) &&& 1431655765)) &&& 858993459) + ((xush (v0 - ((xush v0 1) &&& 1431655765)) 2) &&& 858993459)) + (xush (((v0 - ((xush v0 1) &&& 1431655765)) &&& 858993459) + ((xush (v0 - ((xush v0 1) &&& 1431655765)) 2) &&& 858993459)) 4)) &&& 252645135) 8)) 16) hx hb dJ6_bitCount_0f7a4_45 rfl ?_
  refine lv_iadd hx hb dJ6_bitCount_0f7a4_46 ?_
  refine lv_istore_n (lv' := [(0, .int (((((((v0 - ((xush v0 1) &&& 1431655765)) &&& 858993459) + ((xush (v0 - ((xush v0 1) &&& 1431655765)) 2) &&& 858993459)) + (xush (((v0 - ((xush v0 1) &&& 1431655765)) &&& 858993459) + ((xush (v0 - ((xush v0 1) &&& 1431655765)) 2) &&& 858993459)) 4)) &&& 252645135) + (xush (((((v0 - ((xush v0 1) &&& 1431655765)) &&& 858993459) + ((xush (v0 - ((xush v0 1) &&& 1431655765)) 2) &&& 858993459)) + (xush (((v0 - ((xush v0 1) &&& 1431655765)) &&& 858993459) + ((xush (v0 - ((xush v0 1) &&& 1431655765)) 2) &&& 858993459)) 4)) &&& 252645135) 8)) + (xush ((((((v0 - ((xush v0 1) &&& 1431655765)) &&& 858993459) + ((xush (v0 - ((xush v0 1) &&& 1431655765)) 2) &&& 858993459)) + (xush (((v0 - ((xush v0 1) &&& 1431655765)) &&& 858993459) + ((xush (v0 - ((xush v0 1) &&& 1431655765)) 2) &&& 858993459)) 4)) &&& 252645135) + (xush (((((v0 - ((xush v0 1) &&& 1431655765)) &&& 858993459) + ((xush (v0 - ((xush v0 1) &&& 1431655765)) 2) &&& 858993459)) + (xush (((v0 - ((xush v0 1) &&& 1431655765)) &&& 858993459) + ((xush (v0 - ((xush v0 1) &&& 1431655765)) 2) &&& 858993459)) 4)) &&& 252645135) 8)) 16)))]) hx hb dJ6_bitCount_0f7a4_47 rfl hl (by decide) rfl (fun ls hl => ?_)
  refine lv_iload_n hx hb dJ6_bitCount_0f7a4_48 rfl (lv_at hl 0 rfl) ?_
  refine lv_bipush (v := 63) hx hb dJ6_bitCount_0f7a4_49 (by decide) ?_
  refine lv_iand hx hb dJ6_bitCount_0f7a4_51 ?_
  cases hF
  exact x_iret C0 hR hS dJ6_bitCount_0f7a4_52
theorem xm_J6_bitCount_0f7a4 : xMw yJ6_bitCount_0f7a4 cJ6_bitCount_0f7a4 1 (some .int) 1 := ⟨xin 885 (by decide +kernel) rfl, xin 133 (by decide +kernel) rfl, by decide +kernel⟩
theorem xs_J6_bitCount_0f7a4 : Cond.static yJ6_bitCount_0f7a4 ∈ xT := xin 884 (by decide +kernel) rfl

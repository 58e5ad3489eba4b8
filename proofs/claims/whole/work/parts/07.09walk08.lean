theorem dX12_lineRead_0 : decode cX12_lineRead 0 = .ok (.aload_n 0, 1) := by decide +kernel
theorem dX12_lineRead_1 : decode cX12_lineRead 1 = .ok (.getfield 119, 3) := by decide +kernel
theorem dX12_lineRead_4 : decode cX12_lineRead 4 = .ok (.iconst 1, 1) := by decide +kernel
theorem dX12_lineRead_5 : decode cX12_lineRead 5 = .ok (.if_icmp .eq 9, 3) := by decide +kernel
theorem dX12_lineRead_8 : decode cX12_lineRead 8 = .ok (.aload_n 0, 1) := by decide +kernel
theorem dX12_lineRead_9 : decode cX12_lineRead 9 = .ok (.iconst 1, 1) := by decide +kernel
theorem dX12_lineRead_10 : decode cX12_lineRead 10 = .ok (.invokevirtual 143, 3) := by decide +kernel
theorem dX12_lineRead_13 : decode cX12_lineRead 13 = .ok (.ireturn, 1) := by decide +kernel
theorem dX12_lineRead_14 : decode cX12_lineRead 14 = .ok (.aload_n 0, 1) := by decide +kernel
theorem dX12_lineRead_15 : decode cX12_lineRead 15 = .ok (.getfield 130, 3) := by decide +kernel
theorem dX12_lineRead_18 : decode cX12_lineRead 18 = .ok (.lookupswitch 42 #[(0, 26), (1, 34)], 26) := by decide +kernel
theorem dX12_lineRead_44 : decode cX12_lineRead 44 = .ok (.aload_n 0, 1) := by decide +kernel
theorem dX12_lineRead_45 : decode cX12_lineRead 45 = .ok (.invokevirtual 211, 3) := by decide +kernel
theorem dX12_lineRead_48 : decode cX12_lineRead 48 = .ok (.istore_n 1, 1) := by decide +kernel
theorem dX12_lineRead_49 : decode cX12_lineRead 49 = .ok (.goto 16, 3) := by decide +kernel
theorem dX12_lineRead_52 : decode cX12_lineRead 52 = .ok (.aload_n 0, 1) := by decide +kernel
theorem dX12_lineRead_53 : decode cX12_lineRead 53 = .ok (.invokevirtual 215, 3) := by decide +kernel
theorem dX12_lineRead_56 : decode cX12_lineRead 56 = .ok (.istore_n 1, 1) := by decide +kernel
theorem dX12_lineRead_57 : decode cX12_lineRead 57 = .ok (.goto 8, 3) := by decide +kernel
theorem dX12_lineRead_60 : decode cX12_lineRead 60 = .ok (.aload_n 0, 1) := by decide +kernel
theorem dX12_lineRead_61 : decode cX12_lineRead 61 = .ok (.invokevirtual 218, 3) := by decide +kernel
theorem dX12_lineRead_64 : decode cX12_lineRead 64 = .ok (.istore_n 1, 1) := by decide +kernel
theorem dX12_lineRead_65 : decode cX12_lineRead 65 = .ok (.iload_n 1, 1) := by decide +kernel
theorem dX12_lineRead_66 : decode cX12_lineRead 66 = .ok (.ifCond .ne 5, 3) := by decide +kernel
theorem dX12_lineRead_69 : decode cX12_lineRead 69 = .ok (.iconst 0, 1) := by decide +kernel
theorem dX12_lineRead_70 : decode cX12_lineRead 70 = .ok (.ireturn, 1) := by decide +kernel
theorem dX12_lineRead_71 : decode cX12_lineRead 71 = .ok (.aload_n 0, 1) := by decide +kernel
theorem dX12_lineRead_72 : decode cX12_lineRead 72 = .ok (.bipush 59, 2) := by decide +kernel
theorem dX12_lineRead_74 : decode cX12_lineRead 74 = .ok (.invokevirtual 156, 3) := by decide +kernel
theorem dX12_lineRead_77 : decode cX12_lineRead 77 = .ok (.ifCond .ne 9, 3) := by decide +kernel
theorem dX12_lineRead_80 : decode cX12_lineRead 80 = .ok (.aload_n 0, 1) := by decide +kernel
theorem dX12_lineRead_81 : decode cX12_lineRead 81 = .ok (.iconst 1, 1) := by decide +kernel
theorem dX12_lineRead_82 : decode cX12_lineRead 82 = .ok (.invokevirtual 143, 3) := by decide +kernel
theorem dX12_lineRead_85 : decode cX12_lineRead 85 = .ok (.ireturn, 1) := by decide +kernel
theorem dX12_lineRead_86 : decode cX12_lineRead 86 = .ok (.aload_n 0, 1) := by decide +kernel
theorem dX12_lineRead_87 : decode cX12_lineRead 87 = .ok (.invokevirtual 153, 3) := by decide +kernel
theorem dX12_lineRead_90 : decode cX12_lineRead 90 = .ok (.iconst 1, 1) := by decide +kernel
theorem dX12_lineRead_91 : decode cX12_lineRead 91 = .ok (.ireturn, 1) := by decide +kernel
theorem wl_X12_211 : Cond.methodLink RX12 211 yX12_signLine ∈ xT := xin 1542 (by decide +kernel) rfl
theorem wl_X12_215 : Cond.methodLink RX12 215 yX12_varLine ∈ xT := xin 1560 (by decide +kernel) rfl
theorem wl_X12_218 : Cond.methodLink RX12 218 yX12_ruleLine ∈ xT := xin 1564 (by decide +kernel) rfl
section XN_X12_lineRead
variable {p : Program} {l : Launch} {e : Env} {R : Room} {s : State} {m : MethodId} {args : Array Value} {below : List Frame} {meth : Method} {c : Code} {H H0 : Heap} {locs : List Loc} {cells slots : Nat} {Q : State → Prop} {cc : ByteArray} {nL pc : Nat} {rt : Option FieldType} {ls : Array Slot} {rest : List Value} {D : xD} {ty : xTy} {h : xH}
theorem cl_X12_211 {v0 : Nat} {r : Int32} {h9 : xH} (C0 : xC D RX12 cc nL rt p s m args meth c) (hR : xRep D ty h H) (hS : xS ty H0 H locs) (hF : jf_X12_signLine ty h v0 = some (r, h9)) (t_v0 : ty v0 = some (0, 12)) (hrm : jr_X12_signLine.frames + 1 ≤ R.frames ∧ 8 + (1 + 11) + jr_X12_signLine.locals ≤ R.locals) (hsz : ls.size = nL) (hW : (rest.map fun v => v.category).sum ≤ 8) (hf : cells ≤ R.cells ∧ slots ≤ R.slots) (hdg : decode cc pc = .ok (.invokevirtual 211, 3)) (kk : ∀ (H1 : Heap) (locs1 : List Loc), xRep D ty h9 H1 → xS ty H0 H1 locs1 → W p l e R s m args below meth c H1 locs1 cells slots Q (F0 m (pc + 3) ls (.int r :: rest))) : W p l e R s m args below meth c H locs cells slots Q (F0 m pc ls (.ref v0 :: rest)) := x_callV C0 (jc_X12_signLine t_v0 hF) xm_X12_signLine xi_X12_signLine xe_X12_signLine wl_X12_211 ⟨rfl, rfl, hrm⟩ (ci := 12) rfl t_v0 hR hS (As := []) rfl hsz rfl hW hdg hf kk
theorem cl_X12_215 {v0 : Nat} {r : Int32} {h9 : xH} (C0 : xC D RX12 cc nL rt p s m args meth c) (hR : xRep D ty h H) (hS : xS ty H0 H locs) (hF : jf_X12_varLine ty h v0 = some (r, h9)) (t_v0 : ty v0 = some (0, 12)) (hrm : jr_X12_varLine.frames + 1 ≤ R.frames ∧ 8 + (1 + 11) + jr_X12_varLine.locals ≤ R.locals) (hsz : ls.size = nL) (hW : (rest.map fun v => v.category).sum ≤ 8) (hf : cells ≤ R.cells ∧ slots ≤ R.slots) (hdg : decode cc pc = .ok (.invokevirtual 215, 3)) (kk : ∀ (H1 : Heap) (locs1 : List Loc), xRep D ty h9 H1 → xS ty H0 H1 locs1 → W p l e R s m args below meth c H1 locs1 cells slots Q (F0 m (pc + 3) ls (.int r :: rest))) : W p l e R s m args below meth c H locs cells slots Q (F0 m pc ls (.ref v0 :: rest)) := x_callV C0 (jc_X12_varLine t_v0 hF) xm_X12_varLine xi_X12_varLine xe_X12_varLine wl_X12_215 ⟨rfl, rfl, hrm⟩ (ci := 12) rfl t_v0 hR hS (As := []) rfl hsz rfl hW hdg hf kk
theorem cl_X12_218 {v0 : Nat} {r : Int32} {h9 : xH} (C0 : xC D RX12 cc nL rt p s m args meth c) (hR : xRep D ty h H) (hS : xS ty H0 H locs) (hF : jf_X12_ruleLine ty h v0 = some (r, h9)) (t_v0 : ty v0 = some (0, 12)) (hrm : jr_X12_ruleLine.frames + 1 ≤ R.frames ∧ 8 + (3 + 11) + jr_X12_ruleLine.locals ≤ R.locals) (hsz : ls.size = nL) (hW : (rest.map fun v => v.category).sum ≤ 8) (hf : cells ≤ R.cells ∧ slots ≤ R.slots) (hdg : decode cc pc = .ok (.invokevirtual 218, 3)) (kk : ∀ (H1 : Heap) (locs1 : List Loc), xRep D ty h9 H1 → xS ty H0 H1 locs1 → W p l e R s m args below meth c H1 locs1 cells slots Q (F0 m (pc + 3) ls (.int r :: rest))) : W p l e R s m args below meth c H locs cells slots Q (F0 m pc ls (.ref v0 :: rest)) := x_callV C0 (jc_X12_ruleLine t_v0 hF) xm_X12_ruleLine xi_X12_ruleLine xe_X12_ruleLine wl_X12_218 ⟨rfl, rfl, hrm⟩ (ci := 12) rfl t_v0 hR hS (As := []) rfl hsz rfl hW hdg hf kk
end XN_X12_lineRead
set_option maxHeartbeats 4000000 in
set_option maxRecDepth 100000 in
theorem jw_X12_lineRead_65 {p : Program} {l : Launch} {e : Env} {s : State} {m : MethodId} {args : Array Value} {below : List Frame} {meth : Method} {c : Code} {D : xD} {ty : xTy} (C0 : xC D RX12 cX12_lineRead 2 (some .boolean) p s m args meth c) {r : Int32} {h9 : xH} : ∀ (v0 : Nat) (v1 : Int32) (h : xH), ty v0 = some (0, 12) → jf_X12_lineRead_65 ty v0 v1 h = some (r, h9) → ∀ (H : Heap) (locs : List Loc), xRep D ty h H → xS ty s.heap H locs → ∀ ls : Array Slot, lv_has ls 2 [(0, .ref v0), (1, .int v1)] → W p l e jr_X12_lineRead s m args below meth c H locs 0 0 (MQ below (xQ D ty (some (.int r)) h9) args s 0 0 (xdom ty)) (F0 m 65 ls []) := by
  have hx := C0.1
  have hb := C0.2.1
  have hown := C0.2.2.2.2.2.1
  have hts := C0.2.2.2.2.2.2.1
  intro v0 v1 h t_v0 hF H locs hR hS ls hl
  unfold jf_X12_lineRead_65 at hF
  refine lv_iload_n hx hb dX12_lineRead_65 rfl (lv_at hl 1 rfl) ?_
  refine lv_if_ne (tgt := 71) hx hb dX12_lineRead_66 (by decide) (fun c1 => ?_) (fun c1 => ?_)
  · have hF := xel hF c1
    refine lv_aload_n hx hb dX12_lineRead_71 rfl (lv_at hl 0 rfl) ?_
    refine lv_bipush (v := 59) hx hb dX12_lineRead_72 (by decide) ?_
    obtain ⟨a2, e_a2, hF⟩ := xbd hF
    refine cl_X12_156 C0 hR hS e_a2 t_v0 ⟨(Nat.le_of_ble_eq_true rfl), (Nat.le_of_ble_eq_true rfl)⟩ hl.1 (Nat.le_of_ble_eq_true rfl) ⟨(Nat.le_of_ble_eq_true rfl), (Nat.le_of_ble_eq_true rfl)⟩ dX12_lineRead_74 (fun H locs hR hS => ?_)
    refine lv_if_ne (tgt := 86) hx hb dX12_lineRead_77 (by decide) (fun c3 => ?_) (fun c3 => ?_)
    · have hF := xel hF c3
      refine lv_aload_n hx hb dX12_lineRead_86 rfl (lv_at hl 0 rfl) ?_
      obtain ⟨h4, e_h4, hF⟩ := xbd hF
      refine cl_X12_153 C0 hR hS e_h4 t_v0 ⟨(Nat.le_of_ble_eq_true rfl), (Nat.le_of_ble_eq_true rfl)⟩ hl.1 (Nat.le_of_ble_eq_true rfl) ⟨(Nat.le_of_ble_eq_true rfl), (Nat.le_of_ble_eq_true rfl)⟩ dX12_lineRead_87 (fun H locs hR hS => ?_)
      refine lv_iconst (v := 1) hx hb dX12_lineRead_90 (by decide) ?_
      cases hF
      exact x_zret (w := 1) C0 hR hS (by decide) dX12_lineRead_91
    · have hF := xif hF c3
      refine lv_aload_n hx hb dX12_lineRead_80 rfl (lv_at hl 0 rfl) ?_
      refine lv_iconst (v := 1) hx hb dX12_lineRead_81 (by decide) ?_
      obtain ⟨a6, h5, e_h5, hF⟩ := xbd2 hF
      refine cl_X12_143 C0 hR hS e_h5 t_v0 ⟨(Nat.le_of_ble_eq_true rfl), (Nat.le_of_ble_eq_true rfl)⟩ hl.1 (Nat.le_of_ble_eq_true rfl) ⟨(Nat.le_of_ble_eq_true rfl), (Nat.le_of_ble_eq_true rfl)⟩ dX12_lineRead_82 (fun H locs hR hS => ?_)
      obtain ⟨w7, e_w7, hF⟩ := xbd hF
      cases hF
      exact x_zret C0 hR hS e_w7 dX12_lineRead_85
  · have hF := xif hF c1
    refine lv_iconst (v := 0) hx hb dX12_lineRead_69 (by decide) ?_
    cases hF
    exact x_zret (w := 0) C0 hR hS (by decide) dX12_lineRead_70
set_option maxHeartbeats 4000000 in
set_option maxRecDepth 100000 in
theorem jc_X12_lineRead {l : Launch} {D : xD} {ty : xTy} {h : xH} {v0 : Nat} {r : Int32} {h9 : xH} (t_v0 : ty v0 = some (0, 12)) (hF : jf_X12_lineRead ty h v0 = some (r, h9)) : Met l yX12_lineRead (xws yX12_lineRead cX12_lineRead 2 (some .boolean)) jr_X12_lineRead (xPc D ty h [.ref v0]) (xQ D ty (some (.int r)) h9) 0 0 (xdom ty) := by
  refine x_met (by decide) ?_
  intro p e s m below meth c C0 hR
  generalize hargs : ([.ref v0] : List Value).toArray = args at C0 ⊢
  have hx := C0.1
  have hb := C0.2.1
  have hown := C0.2.2.2.2.2.1
  have hts := C0.2.2.2.2.2.2.1
  have hS : xS ty s.heap s.heap [] := xS.rf
  have hl := lv_entry ([.ref v0]) (n := 2) (Nat.le_of_ble_eq_true rfl)
  rw [← hargs, lg_entry_eq]
  rw [hargs]
  generalize (lg_sl ([.ref v0]) ++ List.replicate (2 - (lg_sl ([.ref v0])).length) Slot.unset).toArray = ls at hl ⊢
  have hl : lv_has ls 2 [(0, .ref v0)] := hl
  unfold jf_X12_lineRead at hF
  refine lv_aload_n hx hb dX12_lineRead_0 rfl (lv_at hl 0 rfl) ?_
  refine gf_X12_119 C0 hR t_v0 dX12_lineRead_1 ?_
  refine lv_iconst (v := 1) hx hb dX12_lineRead_4 (by decide) ?_
  refine lv_icmp_eq (tgt := 14) hx hb dX12_lineRead_5 (by decide) (fun c8 => ?_) (fun c8 => ?_)
  · have hF := xif hF c8
    refine lv_aload_n hx hb dX12_lineRead_14 rfl (lv_at hl 0 rfl) ?_
    refine gf_X12_130 C0 hR t_v0 dX12_lineRead_15 ?_
    by_cases c9 : (xI h v0 9) = 0
    · have hF := xif hF c9
      refine lv_lookup (tgt := 44) (off := 26) hx hb dX12_lineRead_18 (by decide) (by rw [c9]; decide) (by decide) ?_
      refine lv_aload_n hx hb dX12_lineRead_44 rfl (lv_at hl 0 rfl) ?_
      obtain ⟨a11, h10, e_h10, hF⟩ := xbd2 hF
      refine cl_X12_211 C0 hR hS e_h10 t_v0 ⟨(Nat.le_of_ble_eq_true rfl), (Nat.le_of_ble_eq_true rfl)⟩ hl.1 (Nat.le_of_ble_eq_true rfl) ⟨(Nat.le_of_ble_eq_true rfl), (Nat.le_of_ble_eq_true rfl)⟩ dX12_lineRead_45 (fun H locs hR hS => ?_)
      refine lv_istore_n (lv' := [(1, .int a11), (0, .ref v0)]) hx hb dX12_lineRead_48 rfl hl (by decide) rfl (fun ls hl => ?_)
      refine lv_goto (tgt := 65) hx hb dX12_lineRead_49 (by decide) ?_
      exact jw_X12_lineRead_65 C0 _ _ _ t_v0 hF _ _ hR hS _ (lv_sub hl [1, 0] rfl)
    · have hF := xel hF c9
      by_cases c12 : (xI h v0 9) = 1
      · have hF := xif hF c12
        refine lv_lookup (tgt := 52) (off := 34) hx hb dX12_lineRead_18 (by decide) (by rw [c12]; decide) (by decide) ?_
        refine lv_aload_n hx hb dX12_lineRead_52 rfl (lv_at hl 0 rfl) ?_
        obtain ⟨a14, h13, e_h13, hF⟩ := xbd2 hF
        refine cl_X12_215 C0 hR hS e_h13 t_v0 ⟨(Nat.le_of_ble_eq_true rfl), (Nat.le_of_ble_eq_true rfl)⟩ hl.1 (Nat.le_of_ble_eq_true rfl) ⟨(Nat.le_of_ble_eq_true rfl), (Nat.le_of_ble_eq_true rfl)⟩ dX12_lineRead_53 (fun H locs hR hS => ?_)
        refine lv_istore_n (lv' := [(1, .int a14), (0, .ref v0)]) hx hb dX12_lineRead_56 rfl hl (by decide) rfl (fun ls hl => ?_)
        refine lv_goto (tgt := 65) hx hb dX12_lineRead_57 (by decide) ?_
        exact jw_X12_lineRead_65 C0 _ _ _ t_v0 hF _ _ hR hS _ (lv_sub hl [1, 0] rfl)
      · have hF := xel hF c12
        have g_c9 : ¬ (xI h v0 9).toInt = 0 := fun z => c9 (Int32.toInt_inj.mp (z.trans (by decide)))
        have g_c12 : ¬ (xI h v0 9).toInt = 1 := fun z => c12 (Int32.toInt_inj.mp (z.trans (by decide)))
        refine lv_lookup (tgt := 60) (off := 42) hx hb dX12_lineRead_18 (by decide) (by show Op.lookupswitch.offset [(0, 26), (1, 34)] 42 _ = _; rw [Op.lookupswitch.offset_cons, if_neg (fun z => g_c9 z.symm), Op.lookupswitch.offset_cons, if_neg (fun z => g_c12 z.symm)]; rfl) (by decide) ?_
        refine lv_aload_n hx hb dX12_lineRead_60 rfl (lv_at hl 0 rfl) ?_
        obtain ⟨a16, h15, e_h15, hF⟩ := xbd2 hF
        refine cl_X12_218 C0 hR hS e_h15 t_v0 ⟨(Nat.le_of_ble_eq_true rfl), (Nat.le_of_ble_eq_true rfl)⟩ hl.1 (Nat.le_of_ble_eq_true rfl) ⟨(Nat.le_of_ble_eq_true rfl), (Nat.le_of_ble_eq_true rfl)⟩ dX12_lineRead_61 (fun H locs hR hS => ?_)
        refine lv_istore_n (lv' := [(1, .int a16), (0, .ref v0)]) hx hb dX12_lineRead_64 rfl hl (by decide) rfl (fun ls hl => ?_)
        exact jw_X12_lineRead_65 C0 _ _ _ t_v0 hF _ _ hR hS _ (lv_sub hl [1, 0] rfl)
  · have hF := xel hF c8
    refine lv_aload_n hx hb dX12_lineRead_8 rfl (lv_at hl 0 rfl) ?_
    refine lv_iconst (v := 1) hx hb dX12_lineRead_9 (by decide) ?_
    obtain ⟨a18, h17, e_h17, hF⟩ := xbd2 hF
    refine cl_X12_143 C0 hR hS e_h17 t_v0 ⟨(Nat.le_of_ble_eq_true rfl), (Nat.le_of_ble_eq_true rfl)⟩ hl.1 (Nat.le_of_ble_eq_true rfl) ⟨(Nat.le_of_ble_eq_true rfl), (Nat.le_of_ble_eq_true rfl)⟩ dX12_lineRead_10 (fun H locs hR hS => ?_)
    obtain ⟨w19, e_w19, hF⟩ := xbd hF
    cases hF
    exact x_zret C0 hR hS e_w19 dX12_lineRead_13
theorem xm_X12_lineRead : xMw yX12_lineRead cX12_lineRead 2 (some .boolean) 0 := ⟨xin 1537 (by decide +kernel) rfl, xin 126 (by decide +kernel) rfl, by decide +kernel⟩
theorem xi_X12_lineRead : Cond.instanceMethod yX12_lineRead ∈ xT := xin 1536 (by decide +kernel) rfl
theorem xe_X12_lineRead : Cond.selects yX12_lineRead.cls yX12_lineRead yX12_lineRead ∈ xT := xin 61 (by decide +kernel) rfl
theorem dX12_starts_0 : decode cX12_starts 0 = .ok (.aload_n 0, 1) := by decide +kernel
theorem dX12_starts_1 : decode cX12_starts 1 = .ok (.iload_n 1, 1) := by decide +kernel
theorem dX12_starts_2 : decode cX12_starts 2 = .ok (.putfield 113, 3) := by decide +kernel
theorem dX12_starts_5 : decode cX12_starts 5 = .ok (.aload_n 0, 1) := by decide +kernel
theorem dX12_starts_6 : decode cX12_starts 6 = .ok (.iconst 0, 1) := by decide +kernel
theorem dX12_starts_7 : decode cX12_starts 7 = .ok (.putfield 104, 3) := by decide +kernel
theorem dX12_starts_10 : decode cX12_starts 10 = .ok (.aload_n 0, 1) := by decide +kernel
theorem dX12_starts_11 : decode cX12_starts 11 = .ok (.iconst 0, 1) := by decide +kernel
theorem dX12_starts_12 : decode cX12_starts 12 = .ok (.putfield 107, 3) := by decide +kernel
theorem dX12_starts_15 : decode cX12_starts 15 = .ok (.aload_n 0, 1) := by decide +kernel
theorem dX12_starts_16 : decode cX12_starts 16 = .ok (.iconst (-1), 1) := by decide +kernel
theorem dX12_starts_17 : decode cX12_starts 17 = .ok (.putfield 16, 3) := by decide +kernel
theorem dX12_starts_20 : decode cX12_starts 20 = .ok (.aload_n 0, 1) := by decide +kernel
theorem dX12_starts_21 : decode cX12_starts 21 = .ok (.iconst 0, 1) := by decide +kernel
theorem dX12_starts_22 : decode cX12_starts 22 = .ok (.putfield 116, 3) := by decide +kernel
theorem dX12_starts_25 : decode cX12_starts 25 = .ok (.aload_n 0, 1) := by decide +kernel
theorem dX12_starts_26 : decode cX12_starts 26 = .ok (.invokevirtual 153, 3) := by decide +kernel
theorem dX12_starts_29 : decode cX12_starts 29 = .ok (.return_, 1) := by decide +kernel
section XN_X12_starts
variable {p : Program} {l : Launch} {e : Env} {R : Room} {s : State} {m : MethodId} {args : Array Value} {below : List Frame} {meth : Method} {c : Code} {H H0 : Heap} {locs : List Loc} {cells slots : Nat} {Q : State → Prop} {cc : ByteArray} {nL pc : Nat} {rt : Option FieldType} {ls : Array Slot} {rest : List Value} {D : xD} {ty : xTy} {h : xH}
theorem pf_X12_113 {a : Nat} {v : Int32} (C0 : xC D RX12 cc nL rt p s m args meth c) (hR : xRep D ty h H) (hS : xS ty H0 H locs) (ht : ty a = some (0, 12)) (hdg : decode cc pc = .ok (.putfield 113, 3)) (kk : ∀ (H1 : Heap) (locs1 : List Loc), xRep D ty (xsI h a 6 v) H1 → xS ty H0 H1 locs1 → W p l e R s m args below meth c H1 locs1 cells slots Q (F0 m (pc + 3) ls rest)) : W p l e R s m args below meth c H locs cells slots Q (F0 m pc ls (.int v :: .ref a :: rest)) := x_puti C0 hR hS (ci := 12) (k := 6) (N := 60) (T := TX12) rfl iX12 tyX12_ok nmX12 (by decide) rfl rfl wf_X12_113 (Or.inl rfl) rfl rfl ht hdg kk
end XN_X12_starts
set_option maxHeartbeats 4000000 in
set_option maxRecDepth 100000 in
theorem jc_X12_starts {l : Launch} {D : xD} {ty : xTy} {h : xH} {v0 : Nat} {v1 : Int32} {h9 : xH} (t_v0 : ty v0 = some (0, 12)) (hF : jf_X12_starts ty h v0 v1 = some h9) : Met l yX12_starts (xws yX12_starts cX12_starts 2 none) jr_X12_starts (xPc D ty h [.ref v0, .int v1]) (xQ D ty none h9) 0 0 (xdom ty) := by
  refine x_met (by decide) ?_
  intro p e s m below meth c C0 hR
  generalize hargs : ([.ref v0, .int v1] : List Value).toArray = args at C0 ⊢
  have hx := C0.1
  have hb := C0.2.1
  have hown := C0.2.2.2.2.2.1
  have hts := C0.2.2.2.2.2.2.1
  have hS : xS ty s.heap s.heap [] := xS.rf
  have hl := lv_entry ([.ref v0, .int v1]) (n := 2) (Nat.le_of_ble_eq_true rfl)
  rw [← hargs, lg_entry_eq]
  rw [hargs]
  generalize (lg_sl ([.ref v0, .int v1]) ++ List.replicate (2 - (lg_sl ([.ref v0, .int v1])).length) Slot.unset).toArray = ls at hl ⊢
  have hl : lv_has ls 2 [(0, .ref v0), (1, .int v1)] := hl
  unfold jf_X12_starts at hF
  refine lv_aload_n hx hb dX12_starts_0 rfl (lv_at hl 0 rfl) ?_
  refine lv_iload_n hx hb dX12_starts_1 rfl (lv_at hl 1 rfl) ?_
  obtain ⟨h1, e_h1, hF⟩ := xbd hF
  refine pf_X12_113 C0 hR hS t_v0 dX12_starts_2 (fun H locs hR hS => ?_)
  rw [Option.some.inj e_h1] at hR
  refine lv_aload_n hx hb dX12_starts_5 rfl (lv_at hl 0 rfl) ?_
  refine lv_iconst (v := 0) hx hb dX12_starts_6 (by decide) ?_
  obtain ⟨h2, e_h2, hF⟩ := xbd hF
  refine pf_X12_104 C0 hR hS t_v0 dX12_starts_7 (fun H locs hR hS => ?_)
  rw [Option.some.inj e_h2] at hR
  refine lv_aload_n hx hb dX12_starts_10 rfl (lv_at hl 0 rfl) ?_
  refine lv_iconst (v := 0) hx hb dX12_starts_11 (by decide) ?_
  obtain ⟨h3, e_h3, hF⟩ := xbd hF
  refine pf_X12_107 C0 hR hS t_v0 dX12_starts_12 (fun H locs hR hS => ?_)
  rw [Option.some.inj e_h3] at hR
  refine lv_aload_n hx hb dX12_starts_15 rfl (lv_at hl 0 rfl) ?_
  refine lv_iconst (v := (-1)) hx hb dX12_starts_16 (by decide) ?_
  obtain ⟨h4, e_h4, hF⟩ := xbd hF
  refine pf_X12_16 C0 hR hS t_v0 dX12_starts_17 (fun H locs hR hS => ?_)
  rw [Option.some.inj e_h4] at hR
  refine lv_aload_n hx hb dX12_starts_20 rfl (lv_at hl 0 rfl) ?_
  refine lv_iconst (v := 0) hx hb dX12_starts_21 (by decide) ?_
  obtain ⟨h5, e_h5, hF⟩ := xbd hF
  refine pf_X12_116 C0 hR hS t_v0 dX12_starts_22 (fun H locs hR hS => ?_)
  rw [Option.some.inj e_h5] at hR
  refine lv_aload_n hx hb dX12_starts_25 rfl (lv_at hl 0 rfl) ?_
  obtain ⟨h6, e_h6, hF⟩ := xbd hF
  refine cl_X12_153 C0 hR hS e_h6 t_v0 ⟨(Nat.le_of_ble_eq_true rfl), (Nat.le_of_ble_eq_true rfl)⟩ hl.1 (Nat.le_of_ble_eq_true rfl) ⟨(Nat.le_of_ble_eq_true rfl), (Nat.le_of_ble_eq_true rfl)⟩ dX12_starts_26 (fun H locs hR hS => ?_)
  cases hF
  exact x_vret C0 hR hS dX12_starts_29
theorem xm_X12_starts : xMw yX12_starts cX12_starts 2 none 1 := ⟨xin 1508 (by decide +kernel) rfl, xin 126 (by decide +kernel) rfl, by decide +kernel⟩
theorem xi_X12_starts : Cond.instanceMethod yX12_starts ∈ xT := xin 1507 (by decide +kernel) rfl
theorem xe_X12_starts : Cond.selects yX12_starts.cls yX12_starts yX12_starts ∈ xT := xin 54 (by decide +kernel) rfl
theorem dX12_text_0 : decode cX12_text 0 = .ok (.aload_n 0, 1) := by decide +kernel
theorem dX12_text_1 : decode cX12_text 1 = .ok (.iconst 0, 1) := by decide +kernel
theorem dX12_text_2 : decode cX12_text 2 = .ok (.putfield 101, 3) := by decide +kernel
theorem dX12_text_5 : decode cX12_text 5 = .ok (.iload_n 1, 1) := by decide +kernel
theorem dX12_text_6 : decode cX12_text 6 = .ok (.ifCond .lt 11, 3) := by decide +kernel
theorem dX12_text_9 : decode cX12_text 9 = .ok (.iload_n 1, 1) := by decide +kernel
theorem dX12_text_10 : decode cX12_text 10 = .ok (.aload_n 0, 1) := by decide +kernel
theorem dX12_text_11 : decode cX12_text 11 = .ok (.getfield 104, 3) := by decide +kernel
theorem dX12_text_14 : decode cX12_text 14 = .ok (.if_icmp .le 6, 3) := by decide +kernel
theorem dX12_text_17 : decode cX12_text 17 = .ok (.bipush (-2), 2) := by decide +kernel
theorem dX12_text_19 : decode cX12_text 19 = .ok (.ireturn, 1) := by decide +kernel
theorem dX12_text_20 : decode cX12_text 20 = .ok (.aload_n 0, 1) := by decide +kernel
theorem dX12_text_21 : decode cX12_text 21 = .ok (.invokevirtual 95, 3) := by decide +kernel
theorem dX12_text_24 : decode cX12_text 24 = .ok (.aload_n 0, 1) := by decide +kernel
theorem dX12_text_25 : decode cX12_text 25 = .ok (.iload_n 1, 1) := by decide +kernel
theorem dX12_text_26 : decode cX12_text 26 = .ok (.invokevirtual 221, 3) := by decide +kernel
theorem dX12_text_29 : decode cX12_text 29 = .ok (.iconst 0, 1) := by decide +kernel
theorem dX12_text_30 : decode cX12_text 30 = .ok (.istore_n 2, 1) := by decide +kernel
theorem dX12_text_31 : decode cX12_text 31 = .ok (.aload_n 0, 1) := by decide +kernel
theorem dX12_text_32 : decode cX12_text 32 = .ok (.getfield 119, 3) := by decide +kernel
theorem dX12_text_35 : decode cX12_text 35 = .ok (.ifCond .eq 18, 3) := by decide +kernel
theorem dX12_text_38 : decode cX12_text 38 = .ok (.aload_n 0, 1) := by decide +kernel
theorem dX12_text_39 : decode cX12_text 39 = .ok (.invokevirtual 225, 3) := by decide +kernel
theorem dX12_text_42 : decode cX12_text 42 = .ok (.ifCond .ne 5, 3) := by decide +kernel
theorem dX12_text_45 : decode cX12_text 45 = .ok (.iconst (-1), 1) := by decide +kernel
theorem dX12_text_46 : decode cX12_text 46 = .ok (.ireturn, 1) := by decide +kernel
theorem dX12_text_47 : decode cX12_text 47 = .ok (.iinc 2 1, 3) := by decide +kernel
theorem dX12_text_50 : decode cX12_text 50 = .ok (.goto (-19), 3) := by decide +kernel
theorem dX12_text_53 : decode cX12_text 53 = .ok (.aload_n 0, 1) := by decide +kernel
theorem dX12_text_54 : decode cX12_text 54 = .ok (.invokevirtual 98, 3) := by decide +kernel
theorem dX12_text_57 : decode cX12_text 57 = .ok (.iload_n 2, 1) := by decide +kernel
theorem dX12_text_58 : decode cX12_text 58 = .ok (.ireturn, 1) := by decide +kernel
theorem wl_X12_221 : Cond.methodLink RX12 221 yX12_starts ∈ xT := xin 1505 (by decide +kernel) rfl
theorem wl_X12_225 : Cond.methodLink RX12 225 yX12_lineRead ∈ xT := xin 1534 (by decide +kernel) rfl
theorem wl_X12_95 : Cond.methodLink RX12 95 yX12_plain ∈ xT := xin 1301 (by decide +kernel) rfl
theorem wl_X12_98 : Cond.methodLink RX12 98 yX12_keepText ∈ xT := xin 1305 (by decide +kernel) rfl
section XN_X12_text
variable {p : Program} {l : Launch} {e : Env} {R : Room} {s : State} {m : MethodId} {args : Array Value} {below : List Frame} {meth : Method} {c : Code} {H H0 : Heap} {locs : List Loc} {cells slots : Nat} {Q : State → Prop} {cc : ByteArray} {nL pc : Nat} {rt : Option FieldType} {ls : Array Slot} {rest : List Value} {D : xD} {ty : xTy} {h : xH}
theorem cl_X12_221 {v0 : Nat} {v1 : Int32} {h9 : xH} (C0 : xC D RX12 cc nL rt p s m args meth c) (hR : xRep D ty h H) (hS : xS ty H0 H locs) (hF : jf_X12_starts ty h v0 v1 = some h9) (t_v0 : ty v0 = some (0, 12)) (hrm : jr_X12_starts.frames + 1 ≤ R.frames ∧ 8 + (2 + 11) + jr_X12_starts.locals ≤ R.locals) (hsz : ls.size = nL) (hW : (rest.map fun v => v.category).sum ≤ 8) (hf : cells ≤ R.cells ∧ slots ≤ R.slots) (hdg : decode cc pc = .ok (.invokevirtual 221, 3)) (kk : ∀ (H1 : Heap) (locs1 : List Loc), xRep D ty h9 H1 → xS ty H0 H1 locs1 → W p l e R s m args below meth c H1 locs1 cells slots Q (F0 m (pc + 3) ls rest)) : W p l e R s m args below meth c H locs cells slots Q (F0 m pc ls (.int v1 :: .ref v0 :: rest)) := x_callV C0 (jc_X12_starts t_v0 hF) xm_X12_starts xi_X12_starts xe_X12_starts wl_X12_221 ⟨rfl, rfl, hrm⟩ (ci := 12) rfl t_v0 hR hS (As := [.int v1]) rfl hsz rfl hW hdg hf kk
theorem cl_X12_225 {v0 : Nat} {r : Int32} {h9 : xH} (C0 : xC D RX12 cc nL rt p s m args meth c) (hR : xRep D ty h H) (hS : xS ty H0 H locs) (hF : jf_X12_lineRead ty h v0 = some (r, h9)) (t_v0 : ty v0 = some (0, 12)) (hrm : jr_X12_lineRead.frames + 1 ≤ R.frames ∧ 8 + (2 + 11) + jr_X12_lineRead.locals ≤ R.locals) (hsz : ls.size = nL) (hW : (rest.map fun v => v.category).sum ≤ 8) (hf : cells ≤ R.cells ∧ slots ≤ R.slots) (hdg : decode cc pc = .ok (.invokevirtual 225, 3)) (kk : ∀ (H1 : Heap) (locs1 : List Loc), xRep D ty h9 H1 → xS ty H0 H1 locs1 → W p l e R s m args below meth c H1 locs1 cells slots Q (F0 m (pc + 3) ls (.int r :: rest))) : W p l e R s m args below meth c H locs cells slots Q (F0 m pc ls (.ref v0 :: rest)) := x_callV C0 (jc_X12_lineRead t_v0 hF) xm_X12_lineRead xi_X12_lineRead xe_X12_lineRead wl_X12_225 ⟨rfl, rfl, hrm⟩ (ci := 12) rfl t_v0 hR hS (As := []) rfl hsz rfl hW hdg hf kk
theorem cl_X12_95 {v0 : Nat} {h9 : xH} (C0 : xC D RX12 cc nL rt p s m args meth c) (hR : xRep D ty h H) (hS : xS ty H0 H locs) (hF : jf_X12_plain ty h v0 = some h9) (t_v0 : ty v0 = some (0, 12)) (hrm : jr_X12_plain.frames + 1 ≤ R.frames ∧ 8 + (1 + 11) + jr_X12_plain.locals ≤ R.locals) (hsz : ls.size = nL) (hW : (rest.map fun v => v.category).sum ≤ 8) (hf : cells ≤ R.cells ∧ slots ≤ R.slots) (hdg : decode cc pc = .ok (.invokevirtual 95, 3)) (kk : ∀ (H1 : Heap) (locs1 : List Loc), xRep D ty h9 H1 → xS ty H0 H1 locs1 → W p l e R s m args below meth c H1 locs1 cells slots Q (F0 m (pc + 3) ls rest)) : W p l e R s m args below meth c H locs cells slots Q (F0 m pc ls (.ref v0 :: rest)) := x_callV C0 (jc_X12_plain t_v0 hF) xm_X12_plain xi_X12_plain xe_X12_plain wl_X12_95 ⟨rfl, rfl, hrm⟩ (ci := 12) rfl t_v0 hR hS (As := []) rfl hsz rfl hW hdg hf kk
theorem cl_X12_98 {v0 : Nat} {h9 : xH} (C0 : xC D RX12 cc nL rt p s m args meth c) (hR : xRep D ty h H) (hS : xS ty H0 H locs) (hF : jf_X12_keepText ty h v0 = some h9) (t_v0 : ty v0 = some (0, 12)) (hrm : jr_X12_keepText.frames + 1 ≤ R.frames ∧ 8 + (1 + 11) + jr_X12_keepText.locals ≤ R.locals) (hsz : ls.size = nL) (hW : (rest.map fun v => v.category).sum ≤ 8) (hf : cells ≤ R.cells ∧ slots ≤ R.slots) (hdg : decode cc pc = .ok (.invokevirtual 98, 3)) (kk : ∀ (H1 : Heap) (locs1 : List Loc), xRep D ty h9 H1 → xS ty H0 H1 locs1 → W p l e R s m args below meth c H1 locs1 cells slots Q (F0 m (pc + 3) ls rest)) : W p l e R s m args below meth c H locs cells slots Q (F0 m pc ls (.ref v0 :: rest)) := x_callV C0 (jc_X12_keepText t_v0 hF) xm_X12_keepText xi_X12_keepText xe_X12_keepText wl_X12_98 ⟨rfl, rfl, hrm⟩ (ci := 12) rfl t_v0 hR hS (As := []) rfl hsz rfl hW hdg hf kk
end XN_X12_text
set_option maxHeartbeats 4000000 in
set_option maxRecDepth 100000 in
theorem jw_X12_text_31 {p : Program} {l : Launch} {e : Env} {s : State} {m : MethodId} {args : Array Value} {below : List Frame} {meth : Method} {c : Code} {D : xD} {ty : xTy} (C0 : xC D RX12 cX12_text 3 (some .int) p s m args meth c) {r : Int32} {h9 : xH} : ∀ n : Nat, ∀ (v0 : Nat) (v2 : Int32) (h : xH), ty v0 = some (0, 12) → jf_X12_text_31 ty n v0 v2 h = some (r, h9) → ∀ (H : Heap) (locs : List Loc), xRep D ty h H → xS ty s.heap H locs → ∀ ls : Array Slot, lv_has ls 3 [(0, .ref v0), (2, .int v2)] → W p l e jr_X12_text s m args below meth c H locs 0 0 (MQ below (xQ D ty (some (.int r)) h9) args s 0 0 (xdom ty)) (F0 m 31 ls []) := by
  have hx := C0.1
  have hb := C0.2.1
  have hown := C0.2.2.2.2.2.1
  have hts := C0.2.2.2.2.2.2.1
  intro n
  induction n with
  | zero =>
    intro v0 v2 h t_v0 hF H locs hR hS ls hl
    cases hF
  | succ n ih =>
    intro v0 v2 h t_v0 hF H locs hR hS ls hl
    rw [jf_X12_text_31_s] at hF
    refine lv_aload_n hx hb dX12_text_31 rfl (lv_at hl 0 rfl) ?_
    refine gf_X12_119 C0 hR t_v0 dX12_text_32 ?_
    refine lv_if_eq (tgt := 53) hx hb dX12_text_35 (by decide) (fun c1 => ?_) (fun c1 => ?_)
    · have hF := xif hF c1
      refine lv_aload_n hx hb dX12_text_53 rfl (lv_at hl 0 rfl) ?_
      obtain ⟨h2, e_h2, hF⟩ := xbd hF
      refine cl_X12_98 C0 hR hS e_h2 t_v0 ⟨(Nat.le_of_ble_eq_true rfl), (Nat.le_of_ble_eq_true rfl)⟩ hl.1 (Nat.le_of_ble_eq_true rfl) ⟨(Nat.le_of_ble_eq_true rfl), (Nat.le_of_ble_eq_true rfl)⟩ dX12_text_54 (fun H locs hR hS => ?_)
      refine lv_iload_n hx hb dX12_text_57 rfl (lv_at hl 1 rfl) ?_
      cases hF
      exact x_iret C0 hR hS dX12_text_58
    · have hF := xel hF c1
      refine lv_aload_n hx hb dX12_text_38 rfl (lv_at hl 0 rfl) ?_
      obtain ⟨a4, h3, e_h3, hF⟩ := xbd2 hF
      refine cl_X12_225 C0 hR hS e_h3 t_v0 ⟨(Nat.le_of_ble_eq_true rfl), (Nat.le_of_ble_eq_true rfl)⟩ hl.1 (Nat.le_of_ble_eq_true rfl) ⟨(Nat.le_of_ble_eq_true rfl), (Nat.le_of_ble_eq_true rfl)⟩ dX12_text_39 (fun H locs hR hS => ?_)
      refine lv_if_ne (tgt := 47) hx hb dX12_text_42 (by decide) (fun c5 => ?_) (fun c5 => ?_)
      · have hF := xel hF c5
        refine lv_iinc (v := v2 + 1) (lv' := [(2, .int (v2 + 1)), (0, .ref v0)]) hx hb dX12_text_47 hl (k := 1) rfl rfl (by decide) rfl (fun ls hl => ?_)
        refine lv_goto (tgt := 31) hx hb dX12_text_50 (by decide) ?_
        exact ih _ _ _ t_v0 hF _ _ hR hS _ (lv_sub hl [1, 0] rfl)
      · have hF := xif hF c5
        refine lv_iconst (v := (-1)) hx hb dX12_text_45 (by decide) ?_
        cases hF
        exact x_iret C0 hR hS dX12_text_46
set_option maxHeartbeats 4000000 in
set_option maxRecDepth 100000 in
theorem jc_X12_text {l : Launch} {D : xD} {ty : xTy} {h : xH} {v0 : Nat} {v1 : Int32} {r : Int32} {h9 : xH} (t_v0 : ty v0 = some (0, 12)) (hF : jf_X12_text ty h v0 v1 = some (r, h9)) : Met l yX12_text (xws yX12_text cX12_text 3 (some .int)) jr_X12_text (xPc D ty h [.ref v0, .int v1]) (xQ D ty (some (.int r)) h9) 0 0 (xdom ty) := by
  refine x_met (by decide) ?_
  intro p e s m below meth c C0 hR
  generalize hargs : ([.ref v0, .int v1] : List Value).toArray = args at C0 ⊢
  have hx := C0.1
  have hb := C0.2.1
  have hown := C0.2.2.2.2.2.1
  have hts := C0.2.2.2.2.2.2.1
  have hS : xS ty s.heap s.heap [] := xS.rf
  have hl := lv_entry ([.ref v0, .int v1]) (n := 3) (Nat.le_of_ble_eq_true rfl)
  rw [← hargs, lg_entry_eq]
  rw [hargs]
  generalize (lg_sl ([.ref v0, .int v1]) ++ List.replicate (3 - (lg_sl ([.ref v0, .int v1])).length) Slot.unset).toArray = ls at hl ⊢
  have hl : lv_has ls 3 [(0, .ref v0), (1, .int v1)] := hl
  unfold jf_X12_text at hF
  refine lv_aload_n hx hb dX12_text_0 rfl (lv_at hl 0 rfl) ?_
  refine lv_iconst (v := 0) hx hb dX12_text_1 (by decide) ?_
  obtain ⟨h6, e_h6, hF⟩ := xbd hF
  refine pf_X12_101 C0 hR hS t_v0 dX12_text_2 (fun H locs hR hS => ?_)
  rw [Option.some.inj e_h6] at hR
  refine lv_iload_n hx hb dX12_text_5 rfl (lv_at hl 1 rfl) ?_
  refine lv_if_lt (tgt := 17) hx hb dX12_text_6 (by decide) (fun c7 => ?_) (fun c7 => ?_)
  · have hF := xif hF c7
    refine lv_bipush (v := (-2)) hx hb dX12_text_17 (by decide) ?_
    cases hF
    exact x_iret C0 hR hS dX12_text_19
  · have hF := xel hF c7
    refine lv_iload_n hx hb dX12_text_9 rfl (lv_at hl 1 rfl) ?_
    refine lv_aload_n hx hb dX12_text_10 rfl (lv_at hl 0 rfl) ?_
    refine gf_X12_104 C0 hR t_v0 dX12_text_11 ?_
    refine lv_icmp_le (tgt := 20) hx hb dX12_text_14 (by decide) (fun c8 => ?_) (fun c8 => ?_)
    · have hF := xif hF c8
      refine lv_aload_n hx hb dX12_text_20 rfl (lv_at hl 0 rfl) ?_
      obtain ⟨h9, e_h9, hF⟩ := xbd hF
      refine cl_X12_95 C0 hR hS e_h9 t_v0 ⟨(Nat.le_of_ble_eq_true rfl), (Nat.le_of_ble_eq_true rfl)⟩ hl.1 (Nat.le_of_ble_eq_true rfl) ⟨(Nat.le_of_ble_eq_true rfl), (Nat.le_of_ble_eq_true rfl)⟩ dX12_text_21 (fun H locs hR hS => ?_)
      refine lv_aload_n hx hb dX12_text_24 rfl (lv_at hl 0 rfl) ?_
      refine lv_iload_n hx hb dX12_text_25 rfl (lv_at hl 1 rfl) ?_
      obtain ⟨h10, e_h10, hF⟩ := xbd hF
      refine cl_X12_221 C0 hR hS e_h10 t_v0 ⟨(Nat.le_of_ble_eq_true rfl), (Nat.le_of_ble_eq_true rfl)⟩ hl.1 (Nat.le_of_ble_eq_true rfl) ⟨(Nat.le_of_ble_eq_true rfl), (Nat.le_of_ble_eq_true rfl)⟩ dX12_text_26 (fun H locs hR hS => ?_)
      refine lv_iconst (v := 0) hx hb dX12_text_29 (by decide) ?_
      refine lv_istore_n (lv' := [(2, .int 0), (0, .ref v0), (1, .int v1)]) hx hb dX12_text_30 rfl hl (by decide) rfl (fun ls hl => ?_)
      obtain ⟨_, hF⟩ := xlim_sp hF
      exact jw_X12_text_31 C0 _ _ _ _ t_v0 hF _ _ hR hS _ (lv_sub hl [1, 0] rfl)
    · have hF := xel hF c8
      refine lv_bipush (v := (-2)) hx hb dX12_text_17 (by decide) ?_
      cases hF
      exact x_iret C0 hR hS dX12_text_19
theorem xm_X12_text : xMw yX12_text cX12_text 3 (some .int) 1 := ⟨xin 1504 (by decide +kernel) rfl, xin 126 (by decide +kernel) rfl, by decide +kernel⟩
theorem xi_X12_text : Cond.instanceMethod yX12_text ∈ xT := xin 1502 (by decide +kernel) rfl
theorem xe_X12_text : Cond.selects yX12_text.cls yX12_text yX12_text ∈ xT := xin 1503 (by decide +kernel) rfl
theorem dX12_asks_0 : decode cX12_asks 0 = .ok (.iconst 0, 1) := by decide +kernel
theorem dX12_asks_1 : decode cX12_asks 1 = .ok (.istore_n 1, 1) := by decide +kernel
theorem dX12_asks_2 : decode cX12_asks 2 = .ok (.iload_n 1, 1) := by decide +kernel
theorem dX12_asks_3 : decode cX12_asks 3 = .ok (.aload_n 0, 1) := by decide +kernel
theorem dX12_asks_4 : decode cX12_asks 4 = .ok (.getfield 205, 3) := by decide +kernel
theorem dX12_asks_7 : decode cX12_asks 7 = .ok (.if_icmp .ge 21, 3) := by decide +kernel
theorem dX12_asks_10 : decode cX12_asks 10 = .ok (.aload_n 0, 1) := by decide +kernel
theorem dX12_asks_11 : decode cX12_asks 11 = .ok (.getfield 44, 3) := by decide +kernel
theorem dX12_asks_14 : decode cX12_asks 14 = .ok (.iload_n 1, 1) := by decide +kernel
theorem dX12_asks_15 : decode cX12_asks 15 = .ok (.aload_n 0, 1) := by decide +kernel
theorem dX12_asks_16 : decode cX12_asks 16 = .ok (.getfield 47, 3) := by decide +kernel
theorem dX12_asks_19 : decode cX12_asks 19 = .ok (.iload_n 1, 1) := by decide +kernel
theorem dX12_asks_20 : decode cX12_asks 20 = .ok (.iaload, 1) := by decide +kernel
theorem dX12_asks_21 : decode cX12_asks 21 = .ok (.iastore, 1) := by decide +kernel
theorem dX12_asks_22 : decode cX12_asks 22 = .ok (.iinc 1 1, 3) := by decide +kernel
theorem dX12_asks_25 : decode cX12_asks 25 = .ok (.goto (-23), 3) := by decide +kernel
theorem dX12_asks_28 : decode cX12_asks 28 = .ok (.aload_n 0, 1) := by decide +kernel
theorem dX12_asks_29 : decode cX12_asks 29 = .ok (.aload_n 0, 1) := by decide +kernel
theorem dX12_asks_30 : decode cX12_asks 30 = .ok (.getfield 205, 3) := by decide +kernel
theorem dX12_asks_33 : decode cX12_asks 33 = .ok (.putfield 188, 3) := by decide +kernel
theorem dX12_asks_36 : decode cX12_asks 36 = .ok (.return_, 1) := by decide +kernel
theorem wf_X12_44 : Cond.fieldLink RX12 44 "TermShelfModel" "queryRow" "[I" ∈ xT := xin 1339 (by decide +kernel) rfl
section XN_X12_asks
variable {p : Program} {l : Launch} {e : Env} {R : Room} {s : State} {m : MethodId} {args : Array Value} {below : List Frame} {meth : Method} {c : Code} {H H0 : Heap} {locs : List Loc} {cells slots : Nat} {Q : State → Prop} {cc : ByteArray} {nL pc : Nat} {rt : Option FieldType} {ls : Array Slot} {rest : List Value} {D : xD} {ty : xTy} {h : xH}
theorem gf_X12_44 {a : Nat} (C0 : xC D RX12 cc nL rt p s m args meth c) (hR : xRep D ty h H) (ht : ty a = some (0, 12)) {v : Nat} (hv : xR h a 27 = some v) (hdg : decode cc pc = .ok (.getfield 44, 3)) (kk : W p l e R s m args below meth c H locs cells slots Q (F0 m (pc + 3) ls (.ref v :: rest))) : W p l e R s m args below meth c H locs cells slots Q (F0 m pc ls (.ref a :: rest)) := x_get C0 hR (ci := 12) (k := 27) (N := 60) (T := TX12) rfl iX12 (by decide) rfl wf_X12_44 (by show va_rf (xR h a 27) = _; rw [hv]; rfl) ht hdg kk
end XN_X12_asks
set_option maxHeartbeats 4000000 in
set_option maxRecDepth 100000 in
theorem jw_X12_asks_2 {p : Program} {l : Launch} {e : Env} {s : State} {m : MethodId} {args : Array Value} {below : List Frame} {meth : Method} {c : Code} {D : xD} {ty : xTy} (C0 : xC D RX12 cX12_asks 2 none p s m args meth c) {h9 : xH} : ∀ n : Nat, ∀ (v0 : Nat) (v1 : Int32) (h : xH), ty v0 = some (0, 12) → jf_X12_asks_2 ty n v0 v1 h = some h9 → ∀ (H : Heap) (locs : List Loc), xRep D ty h H → xS ty s.heap H locs → ∀ ls : Array Slot, lv_has ls 2 [(0, .ref v0), (1, .int v1)] → W p l e jr_X12_asks s m args below meth c H locs 0 0 (MQ below (xQ D ty none h9) args s 0 0 (xdom ty)) (F0 m 2 ls []) := by
  have hx := C0.1
  have hb := C0.2.1
  have hown := C0.2.2.2.2.2.1
  have hts := C0.2.2.2.2.2.2.1
  intro n
  induction n with
  | zero =>
    intro v0 v1 h t_v0 hF H locs hR hS ls hl
    cases hF
  | succ n ih =>
    intro v0 v1 h t_v0 hF H locs hR hS ls hl
    rw [jf_X12_asks_2_s] at hF
    refine lv_iload_n hx hb dX12_asks_2 rfl (lv_at hl 1 rfl) ?_
    refine lv_aload_n hx hb dX12_asks_3 rfl (lv_at hl 0 rfl) ?_
    refine gf_X12_205 C0 hR t_v0 dX12_asks_4 ?_
    refine lv_icmp_ge (tgt := 28) hx hb dX12_asks_7 (by decide) (fun c1 => ?_) (fun c1 => ?_)
    · have hF := xif hF c1
      refine lv_aload_n hx hb dX12_asks_28 rfl (lv_at hl 0 rfl) ?_
      refine lv_aload_n hx hb dX12_asks_29 rfl (lv_at hl 0 rfl) ?_
      refine gf_X12_205 C0 hR t_v0 dX12_asks_30 ?_
      obtain ⟨h2, e_h2, hF⟩ := xbd hF
      refine pf_X12_188 C0 hR hS t_v0 dX12_asks_33 (fun H locs hR hS => ?_)
      rw [Option.some.inj e_h2] at hR
      cases hF
      exact x_vret C0 hR hS dX12_asks_36
    · have hF := xel hF c1
      refine lv_aload_n hx hb dX12_asks_10 rfl (lv_at hl 0 rfl) ?_
      obtain ⟨a3, e_a3, hF⟩ := xbd hF
      refine gf_X12_44 C0 hR t_v0 e_a3 dX12_asks_11 ?_
      refine lv_iload_n hx hb dX12_asks_14 rfl (lv_at hl 1 rfl) ?_
      refine lv_aload_n hx hb dX12_asks_15 rfl (lv_at hl 0 rfl) ?_
      obtain ⟨a4, e_a4, hF⟩ := xbd hF
      refine gf_X12_47 C0 hR t_v0 e_a4 dX12_asks_16 ?_
      refine lv_iload_n hx hb dX12_asks_19 rfl (lv_at hl 1 rfl) ?_
      obtain ⟨a5, e_a5, hF⟩ := xbd hF
      refine x_iald C0 hR e_a5 dX12_asks_20 ?_
      obtain ⟨h6, e_h6, hF⟩ := xbd hF
      refine x_iast C0 hR hS e_h6 dX12_asks_21 (fun H locs hR hS => ?_)
      refine lv_iinc (v := v1 + 1) (lv' := [(1, .int (v1 + 1)), (0, .ref v0)]) hx hb dX12_asks_22 hl (k := 1) rfl rfl (by decide) rfl (fun ls hl => ?_)
      refine lv_goto (tgt := 2) hx hb dX12_asks_25 (by decide) ?_
      exact ih _ _ _ t_v0 hF _ _ hR hS _ (lv_sub hl [1, 0] rfl)
set_option maxHeartbeats 4000000 in
set_option maxRecDepth 100000 in
theorem jc_X12_asks {l : Launch} {D : xD} {ty : xTy} {h : xH} {v0 : Nat} {h9 : xH} (t_v0 : ty v0 = some (0, 12)) (hF : jf_X12_asks ty h v0 = some h9) : Met l yX12_asks (xws yX12_asks cX12_asks 2 none) jr_X12_asks (xPc D ty h [.ref v0]) (xQ D ty none h9) 0 0 (xdom ty) := by
  refine x_met (by decide) ?_
  intro p e s m below meth c C0 hR
  generalize hargs : ([.ref v0] : List Value).toArray = args at C0 ⊢
  have hx := C0.1
  have hb := C0.2.1
  have hown := C0.2.2.2.2.2.1
  have hts := C0.2.2.2.2.2.2.1
  have hS : xS ty s.heap s.heap [] := xS.rf
  have hl := lv_entry ([.ref v0]) (n := 2) (Nat.le_of_ble_eq_true rfl)
  rw [← hargs, lg_entry_eq]
  rw [hargs]
  generalize (lg_sl ([.ref v0]) ++ List.replicate (2 - (lg_sl ([.ref v0])).length) Slot.unset).toArray = ls at hl ⊢
  have hl : lv_has ls 2 [(0, .ref v0)] := hl
  unfold jf_X12_asks at hF
  refine lv_iconst (v := 0) hx hb dX12_asks_0 (by decide) ?_
  refine lv_istore_n (lv' := [(1, .int 0), (0, .ref v0)]) hx hb dX12_asks_1 rfl hl (by decide) rfl (fun ls hl => ?_)
  obtain ⟨_, hF⟩ := xlim_sp hF
  exact jw_X12_asks_2 C0 _ _ _ _ t_v0 hF _ _ hR hS _ (lv_sub hl [1, 0] rfl)
theorem xm_X12_asks : xMw yX12_asks cX12_asks 2 none 0 := ⟨xin 1583 (by decide +kernel) rfl, xin 126 (by decide +kernel) rfl, by decide +kernel⟩
theorem xi_X12_asks : Cond.instanceMethod yX12_asks ∈ xT := xin 1582 (by decide +kernel) rfl
theorem xe_X12_asks : Cond.selects yX12_asks.cls yX12_asks yX12_asks ∈ xT := xin 70 (by decide +kernel) rfl
theorem dX12_query_0 : decode cX12_query 0 = .ok (.aload_n 0, 1) := by decide +kernel
theorem dX12_query_1 : decode cX12_query 1 = .ok (.iconst 0, 1) := by decide +kernel
theorem dX12_query_2 : decode cX12_query 2 = .ok (.putfield 101, 3) := by decide +kernel
theorem dX12_query_5 : decode cX12_query 5 = .ok (.iload_n 1, 1) := by decide +kernel
theorem dX12_query_6 : decode cX12_query 6 = .ok (.ifCond .lt 11, 3) := by decide +kernel
theorem dX12_query_9 : decode cX12_query 9 = .ok (.iload_n 1, 1) := by decide +kernel
theorem dX12_query_10 : decode cX12_query 10 = .ok (.aload_n 0, 1) := by decide +kernel
theorem dX12_query_11 : decode cX12_query 11 = .ok (.getfield 104, 3) := by decide +kernel
theorem dX12_query_14 : decode cX12_query 14 = .ok (.if_icmp .le 6, 3) := by decide +kernel
theorem dX12_query_17 : decode cX12_query 17 = .ok (.bipush (-2), 2) := by decide +kernel
theorem dX12_query_19 : decode cX12_query 19 = .ok (.ireturn, 1) := by decide +kernel
theorem dX12_query_20 : decode cX12_query 20 = .ok (.aload_n 0, 1) := by decide +kernel
theorem dX12_query_21 : decode cX12_query 21 = .ok (.iload_n 1, 1) := by decide +kernel
theorem dX12_query_22 : decode cX12_query 22 = .ok (.invokevirtual 221, 3) := by decide +kernel
theorem dX12_query_25 : decode cX12_query 25 = .ok (.aload_n 0, 1) := by decide +kernel
theorem dX12_query_26 : decode cX12_query 26 = .ok (.iconst 0, 1) := by decide +kernel
theorem dX12_query_27 : decode cX12_query 27 = .ok (.iconst (-1), 1) := by decide +kernel
theorem dX12_query_28 : decode cX12_query 28 = .ok (.invokevirtual 208, 3) := by decide +kernel
theorem dX12_query_31 : decode cX12_query 31 = .ok (.ifCond .ne 5, 3) := by decide +kernel
theorem dX12_query_34 : decode cX12_query 34 = .ok (.iconst (-1), 1) := by decide +kernel
theorem dX12_query_35 : decode cX12_query 35 = .ok (.ireturn, 1) := by decide +kernel
theorem dX12_query_36 : decode cX12_query 36 = .ok (.aload_n 0, 1) := by decide +kernel
theorem dX12_query_37 : decode cX12_query 37 = .ok (.getfield 119, 3) := by decide +kernel
theorem dX12_query_40 : decode cX12_query 40 = .ok (.ifCond .eq 11, 3) := by decide +kernel
theorem dX12_query_43 : decode cX12_query 43 = .ok (.aload_n 0, 1) := by decide +kernel
theorem dX12_query_44 : decode cX12_query 44 = .ok (.iconst 1, 1) := by decide +kernel
theorem dX12_query_45 : decode cX12_query 45 = .ok (.invokevirtual 143, 3) := by decide +kernel
theorem dX12_query_48 : decode cX12_query 48 = .ok (.pop, 1) := by decide +kernel
theorem dX12_query_49 : decode cX12_query 49 = .ok (.iconst (-1), 1) := by decide +kernel
theorem dX12_query_50 : decode cX12_query 50 = .ok (.ireturn, 1) := by decide +kernel
theorem dX12_query_51 : decode cX12_query 51 = .ok (.aload_n 0, 1) := by decide +kernel
theorem dX12_query_52 : decode cX12_query 52 = .ok (.invokevirtual 228, 3) := by decide +kernel
theorem dX12_query_55 : decode cX12_query 55 = .ok (.aload_n 0, 1) := by decide +kernel
theorem dX12_query_56 : decode cX12_query 56 = .ok (.getfield 188, 3) := by decide +kernel
theorem dX12_query_59 : decode cX12_query 59 = .ok (.ireturn, 1) := by decide +kernel
theorem wl_X12_228 : Cond.methodLink RX12 228 yX12_asks ∈ xT := xin 1580 (by decide +kernel) rfl
section XN_X12_query
variable {p : Program} {l : Launch} {e : Env} {R : Room} {s : State} {m : MethodId} {args : Array Value} {below : List Frame} {meth : Method} {c : Code} {H H0 : Heap} {locs : List Loc} {cells slots : Nat} {Q : State → Prop} {cc : ByteArray} {nL pc : Nat} {rt : Option FieldType} {ls : Array Slot} {rest : List Value} {D : xD} {ty : xTy} {h : xH}
theorem cl_X12_228 {v0 : Nat} {h9 : xH} (C0 : xC D RX12 cc nL rt p s m args meth c) (hR : xRep D ty h H) (hS : xS ty H0 H locs) (hF : jf_X12_asks ty h v0 = some h9) (t_v0 : ty v0 = some (0, 12)) (hrm : jr_X12_asks.frames + 1 ≤ R.frames ∧ 8 + (2 + 11) + jr_X12_asks.locals ≤ R.locals) (hsz : ls.size = nL) (hW : (rest.map fun v => v.category).sum ≤ 8) (hf : cells ≤ R.cells ∧ slots ≤ R.slots) (hdg : decode cc pc = .ok (.invokevirtual 228, 3)) (kk : ∀ (H1 : Heap) (locs1 : List Loc), xRep D ty h9 H1 → xS ty H0 H1 locs1 → W p l e R s m args below meth c H1 locs1 cells slots Q (F0 m (pc + 3) ls rest)) : W p l e R s m args below meth c H locs cells slots Q (F0 m pc ls (.ref v0 :: rest)) := x_callV C0 (jc_X12_asks t_v0 hF) xm_X12_asks xi_X12_asks xe_X12_asks wl_X12_228 ⟨rfl, rfl, hrm⟩ (ci := 12) rfl t_v0 hR hS (As := []) rfl hsz rfl hW hdg hf kk
theorem gf_X12_188 {a : Nat} (C0 : xC D RX12 cc nL rt p s m args meth c) (hR : xRep D ty h H) (ht : ty a = some (0, 12)) (hdg : decode cc pc = .ok (.getfield 188, 3)) (kk : W p l e R s m args below meth c H locs cells slots Q (F0 m (pc + 3) ls (.int (xI h a 28) :: rest))) : W p l e R s m args below meth c H locs cells slots Q (F0 m pc ls (.ref a :: rest)) := x_get C0 hR (ci := 12) (k := 28) (N := 60) (T := TX12) rfl iX12 (by decide) rfl wf_X12_188 rfl ht hdg kk
end XN_X12_query
set_option maxHeartbeats 4000000 in
set_option maxRecDepth 100000 in
theorem jc_X12_query {l : Launch} {D : xD} {ty : xTy} {h : xH} {v0 : Nat} {v1 : Int32} {r : Int32} {h9 : xH} (t_v0 : ty v0 = some (0, 12)) (hF : jf_X12_query ty h v0 v1 = some (r, h9)) : Met l yX12_query (xws yX12_query cX12_query 2 (some .int)) jr_X12_query (xPc D ty h [.ref v0, .int v1]) (xQ D ty (some (.int r)) h9) 0 0 (xdom ty) := by
  refine x_met (by decide) ?_
  intro p e s m below meth c C0 hR
  generalize hargs : ([.ref v0, .int v1] : List Value).toArray = args at C0 ⊢
  have hx := C0.1
  have hb := C0.2.1
  have hown := C0.2.2.2.2.2.1
  have hts := C0.2.2.2.2.2.2.1
  have hS : xS ty s.heap s.heap [] := xS.rf
  have hl := lv_entry ([.ref v0, .int v1]) (n := 2) (Nat.le_of_ble_eq_true rfl)
  rw [← hargs, lg_entry_eq]
  rw [hargs]
  generalize (lg_sl ([.ref v0, .int v1]) ++ List.replicate (2 - (lg_sl ([.ref v0, .int v1])).length) Slot.unset).toArray = ls at hl ⊢
  have hl : lv_has ls 2 [(0, .ref v0), (1, .int v1)] := hl
  unfold jf_X12_query at hF
  refine lv_aload_n hx hb dX12_query_0 rfl (lv_at hl 0 rfl) ?_
  refine lv_iconst (v := 0) hx hb dX12_query_1 (by decide) ?_
  obtain ⟨h1, e_h1, hF⟩ := xbd hF
  refine pf_X12_101 C0 hR hS t_v0 dX12_query_2 (fun H locs hR hS => ?_)
  rw [Option.some.inj e_h1] at hR
  refine lv_iload_n hx hb dX12_query_5 rfl (lv_at hl 1 rfl) ?_
  refine lv_if_lt (tgt := 17) hx hb dX12_query_6 (by decide) (fun c2 => ?_) (fun c2 => ?_)
  · have hF := xif hF c2
    refine lv_bipush (v := (-2)) hx hb dX12_query_17 (by decide) ?_
    cases hF
    exact x_iret C0 hR hS dX12_query_19
  · have hF := xel hF c2
    refine lv_iload_n hx hb dX12_query_9 rfl (lv_at hl 1 rfl) ?_
    refine lv_aload_n hx hb dX12_query_10 rfl (lv_at hl 0 rfl) ?_
    refine gf_X12_104 C0 hR t_v0 dX12_query_11 ?_
    refine lv_icmp_le (tgt := 20) hx hb dX12_query_14 (by decide) (fun c3 => ?_) (fun c3 => ?_)
    · have hF := xif hF c3
      refine lv_aload_n hx hb dX12_query_20 rfl (lv_at hl 0 rfl) ?_
      refine lv_iload_n hx hb dX12_query_21 rfl (lv_at hl 1 rfl) ?_
      obtain ⟨h4, e_h4, hF⟩ := xbd hF
      refine cl_X12_221 C0 hR hS e_h4 t_v0 ⟨(Nat.le_of_ble_eq_true rfl), (Nat.le_of_ble_eq_true rfl)⟩ hl.1 (Nat.le_of_ble_eq_true rfl) ⟨(Nat.le_of_ble_eq_true rfl), (Nat.le_of_ble_eq_true rfl)⟩ dX12_query_22 (fun H locs hR hS => ?_)
      refine lv_aload_n hx hb dX12_query_25 rfl (lv_at hl 0 rfl) ?_
      refine lv_iconst (v := 0) hx hb dX12_query_26 (by decide) ?_
      refine lv_iconst (v := (-1)) hx hb dX12_query_27 (by decide) ?_
      obtain ⟨a6, h5, e_h5, hF⟩ := xbd2 hF
      refine cl_X12_208 C0 hR hS e_h5 t_v0 ⟨(Nat.le_of_ble_eq_true rfl), (Nat.le_of_ble_eq_true rfl)⟩ hl.1 (Nat.le_of_ble_eq_true rfl) ⟨(Nat.le_of_ble_eq_true rfl), (Nat.le_of_ble_eq_true rfl)⟩ dX12_query_28 (fun H locs hR hS => ?_)
      refine lv_if_ne (tgt := 36) hx hb dX12_query_31 (by decide) (fun c7 => ?_) (fun c7 => ?_)
      · have hF := xel hF c7
        refine lv_aload_n hx hb dX12_query_36 rfl (lv_at hl 0 rfl) ?_
        refine gf_X12_119 C0 hR t_v0 dX12_query_37 ?_
        refine lv_if_eq (tgt := 51) hx hb dX12_query_40 (by decide) (fun c8 => ?_) (fun c8 => ?_)
        · have hF := xif hF c8
          refine lv_aload_n hx hb dX12_query_51 rfl (lv_at hl 0 rfl) ?_
          obtain ⟨h9, e_h9, hF⟩ := xbd hF
          refine cl_X12_228 C0 hR hS e_h9 t_v0 ⟨(Nat.le_of_ble_eq_true rfl), (Nat.le_of_ble_eq_true rfl)⟩ hl.1 (Nat.le_of_ble_eq_true rfl) ⟨(Nat.le_of_ble_eq_true rfl), (Nat.le_of_ble_eq_true rfl)⟩ dX12_query_52 (fun H locs hR hS => ?_)
          refine lv_aload_n hx hb dX12_query_55 rfl (lv_at hl 0 rfl) ?_
          refine gf_X12_188 C0 hR t_v0 dX12_query_56 ?_
          cases hF
          exact x_iret C0 hR hS dX12_query_59
        · have hF := xel hF c8
          refine lv_aload_n hx hb dX12_query_43 rfl (lv_at hl 0 rfl) ?_
          refine lv_iconst (v := 1) hx hb dX12_query_44 (by decide) ?_
          obtain ⟨a11, h10, e_h10, hF⟩ := xbd2 hF
          refine cl_X12_143 C0 hR hS e_h10 t_v0 ⟨(Nat.le_of_ble_eq_true rfl), (Nat.le_of_ble_eq_true rfl)⟩ hl.1 (Nat.le_of_ble_eq_true rfl) ⟨(Nat.le_of_ble_eq_true rfl), (Nat.le_of_ble_eq_true rfl)⟩ dX12_query_45 (fun H locs hR hS => ?_)
          refine lv_pop hx hb dX12_query_48 rfl ?_
          refine lv_iconst (v := (-1)) hx hb dX12_query_49 (by decide) ?_
          cases hF
          exact x_iret C0 hR hS dX12_query_50
      · have hF := xif hF c7
        refine lv_iconst (v := (-1)) hx hb dX12_query_34 (by decide) ?_
        cases hF
        exact x_iret C0 hR hS dX12_query_35
    · have hF := xel hF c3
      refine lv_bipush (v := (-2)) hx hb dX12_query_17 (by decide) ?_
      cases hF
      exact x_iret C0 hR hS dX12_query_19
theorem xm_X12_query : xMw yX12_query cX12_query 2 (some .int) 1 := ⟨xin 1579 (by decide +kernel) rfl, xin 126 (by decide +kernel) rfl, by decide +kernel⟩
theorem xi_X12_query : Cond.instanceMethod yX12_query ∈ xT := xin 1577 (by decide +kernel) rfl
theorem xe_X12_query : Cond.selects yX12_query.cls yX12_query yX12_query ∈ xT := xin 1578 (by decide +kernel) rfl
theorem dX12_fault_0 : decode cX12_fault 0 = .ok (.aload_n 0, 1) := by decide +kernel
theorem dX12_fault_1 : decode cX12_fault 1 = .ok (.iconst 0, 1) := by decide +kernel
theorem dX12_fault_2 : decode cX12_fault 2 = .ok (.putfield 101, 3) := by decide +kernel
theorem dX12_fault_5 : decode cX12_fault 5 = .ok (.iload_n 1, 1) := by decide +kernel
theorem dX12_fault_6 : decode cX12_fault 6 = .ok (.ifCond .ne 10, 3) := by decide +kernel
theorem dX12_fault_9 : decode cX12_fault 9 = .ok (.aload_n 0, 1) := by decide +kernel
theorem dX12_fault_10 : decode cX12_fault 10 = .ok (.getfield 107, 3) := by decide +kernel
theorem dX12_fault_13 : decode cX12_fault 13 = .ok (.goto 16, 3) := by decide +kernel
theorem dX12_fault_16 : decode cX12_fault 16 = .ok (.iload_n 1, 1) := by decide +kernel
theorem dX12_fault_17 : decode cX12_fault 17 = .ok (.iconst 1, 1) := by decide +kernel
theorem dX12_fault_18 : decode cX12_fault 18 = .ok (.if_icmp .ne 10, 3) := by decide +kernel
theorem dX12_fault_21 : decode cX12_fault 21 = .ok (.aload_n 0, 1) := by decide +kernel
theorem dX12_fault_22 : decode cX12_fault 22 = .ok (.getfield 16, 3) := by decide +kernel
theorem dX12_fault_25 : decode cX12_fault 25 = .ok (.goto 4, 3) := by decide +kernel
theorem dX12_fault_28 : decode cX12_fault 28 = .ok (.iconst (-1), 1) := by decide +kernel
theorem dX12_fault_29 : decode cX12_fault 29 = .ok (.ireturn, 1) := by decide +kernel
section XN_X12_fault
variable {p : Program} {l : Launch} {e : Env} {R : Room} {s : State} {m : MethodId} {args : Array Value} {below : List Frame} {meth : Method} {c : Code} {H H0 : Heap} {locs : List Loc} {cells slots : Nat} {Q : State → Prop} {cc : ByteArray} {nL pc : Nat} {rt : Option FieldType} {ls : Array Slot} {rest : List Value} {D : xD} {ty : xTy} {h : xH}
theorem gf_X12_107 {a : Nat} (C0 : xC D RX12 cc nL rt p s m args meth c) (hR : xRep D ty h H) (ht : ty a = some (0, 12)) (hdg : decode cc pc = .ok (.getfield 107, 3)) (kk : W p l e R s m args below meth c H locs cells slots Q (F0 m (pc + 3) ls (.int (xI h a 4) :: rest))) : W p l e R s m args below meth c H locs cells slots Q (F0 m pc ls (.ref a :: rest)) := x_get C0 hR (ci := 12) (k := 4) (N := 60) (T := TX12) rfl iX12 (by decide) rfl wf_X12_107 rfl ht hdg kk
theorem gf_X12_16 {a : Nat} (C0 : xC D RX12 cc nL rt p s m args meth c) (hR : xRep D ty h H) (ht : ty a = some (0, 12)) (hdg : decode cc pc = .ok (.getfield 16, 3)) (kk : W p l e R s m args below meth c H locs cells slots Q (F0 m (pc + 3) ls (.int (xI h a 5) :: rest))) : W p l e R s m args below meth c H locs cells slots Q (F0 m pc ls (.ref a :: rest)) := x_get C0 hR (ci := 12) (k := 5) (N := 60) (T := TX12) rfl iX12 (by decide) rfl wf_X12_16 rfl ht hdg kk
end XN_X12_fault
set_option maxHeartbeats 4000000 in
set_option maxRecDepth 100000 in
theorem jc_X12_fault {l : Launch} {D : xD} {ty : xTy} {h : xH} {v0 : Nat} {v1 : Int32} {r : Int32} {h9 : xH} (t_v0 : ty v0 = some (0, 12)) (hF : jf_X12_fault ty h v0 v1 = some (r, h9)) : Met l yX12_fault (xws yX12_fault cX12_fault 2 (some .int)) jr_X12_fault (xPc D ty h [.ref v0, .int v1]) (xQ D ty (some (.int r)) h9) 0 0 (xdom ty) := by
  refine x_met (by decide) ?_
  intro p e s m below meth c C0 hR
  generalize hargs : ([.ref v0, .int v1] : List Value).toArray = args at C0 ⊢
  have hx := C0.1
  have hb := C0.2.1
  have hown := C0.2.2.2.2.2.1
  have hts := C0.2.2.2.2.2.2.1
  have hS : xS ty s.heap s.heap [] := xS.rf
  have hl := lv_entry ([.ref v0, .int v1]) (n := 2) (Nat.le_of_ble_eq_true rfl)
  rw [← hargs, lg_entry_eq]
  rw [hargs]
  generalize (lg_sl ([.ref v0, .int v1]) ++ List.replicate (2 - (lg_sl ([.ref v0, .int v1])).length) Slot.unset).toArray = ls at hl ⊢
  have hl : lv_has ls 2 [(0, .ref v0), (1, .int v1)] := hl
  unfold jf_X12_fault at hF
  refine lv_aload_n hx hb dX12_fault_0 rfl (lv_at hl 0 rfl) ?_
  refine lv_iconst (v := 0) hx hb dX12_fault_1 (by decide) ?_
  obtain ⟨h1, e_h1, hF⟩ := xbd hF
  refine pf_X12_101 C0 hR hS t_v0 dX12_fault_2 (fun H locs hR hS => ?_)
  rw [Option.some.inj e_h1] at hR
  refine lv_iload_n hx hb dX12_fault_5 rfl (lv_at hl 1 rfl) ?_
  refine lv_if_ne (tgt := 16) hx hb dX12_fault_6 (by decide) (fun c2 => ?_) (fun c2 => ?_)
  · have hF := xel hF c2
    refine lv_iload_n hx hb dX12_fault_16 rfl (lv_at hl 1 rfl) ?_
    refine lv_iconst (v := 1) hx hb dX12_fault_17 (by decide) ?_
    refine lv_icmp_ne (tgt := 28) hx hb dX12_fault_18 (by decide) (fun c3 => ?_) (fun c3 => ?_)
    · have hF := xel hF c3
      refine lv_iconst (v := (-1)) hx hb dX12_fault_28 (by decide) ?_
      cases hF
      exact x_iret C0 hR hS dX12_fault_29
    · have hF := xif hF c3
      refine lv_aload_n hx hb dX12_fault_21 rfl (lv_at hl 0 rfl) ?_
      refine gf_X12_16 C0 hR t_v0 dX12_fault_22 ?_
      refine lv_goto (tgt := 29) hx hb dX12_fault_25 (by decide) ?_
      cases hF
      exact x_iret C0 hR hS dX12_fault_29
  · have hF := xif hF c2
    refine lv_aload_n hx hb dX12_fault_9 rfl (lv_at hl 0 rfl) ?_
    refine gf_X12_107 C0 hR t_v0 dX12_fault_10 ?_
    refine lv_goto (tgt := 29) hx hb dX12_fault_13 (by decide) ?_
    cases hF
    exact x_iret C0 hR hS dX12_fault_29
theorem xm_X12_fault : xMw yX12_fault cX12_fault 2 (some .int) 1 := ⟨xin 1587 (by decide +kernel) rfl, xin 126 (by decide +kernel) rfl, by decide +kernel⟩
theorem xi_X12_fault : Cond.instanceMethod yX12_fault ∈ xT := xin 1585 (by decide +kernel) rfl
theorem xe_X12_fault : Cond.selects yX12_fault.cls yX12_fault yX12_fault ∈ xT := xin 1586 (by decide +kernel) rfl
theorem dX12_named_0 : decode cX12_named 0 = .ok (.aload_n 0, 1) := by decide +kernel
theorem dX12_named_1 : decode cX12_named 1 = .ok (.iconst 0, 1) := by decide +kernel
theorem dX12_named_2 : decode cX12_named 2 = .ok (.putfield 101, 3) := by decide +kernel
theorem dX12_named_5 : decode cX12_named 5 = .ok (.iload_n 1, 1) := by decide +kernel
theorem dX12_named_6 : decode cX12_named 6 = .ok (.ifCond .ne 12, 3) := by decide +kernel
theorem dX12_named_9 : decode cX12_named 9 = .ok (.aload_n 0, 1) := by decide +kernel
theorem dX12_named_10 : decode cX12_named 10 = .ok (.iconst 0, 1) := by decide +kernel
theorem dX12_named_11 : decode cX12_named 11 = .ok (.iload_n 2, 1) := by decide +kernel
theorem dX12_named_12 : decode cX12_named 12 = .ok (.invokevirtual 202, 3) := by decide +kernel
theorem dX12_named_15 : decode cX12_named 15 = .ok (.goto 25, 3) := by decide +kernel
theorem dX12_named_18 : decode cX12_named 18 = .ok (.iload_n 1, 1) := by decide +kernel
theorem dX12_named_19 : decode cX12_named 19 = .ok (.iconst 1, 1) := by decide +kernel
theorem dX12_named_20 : decode cX12_named 20 = .ok (.if_icmp .ne 19, 3) := by decide +kernel
theorem dX12_named_23 : decode cX12_named 23 = .ok (.aload_n 0, 1) := by decide +kernel
theorem dX12_named_24 : decode cX12_named 24 = .ok (.getfield 29, 3) := by decide +kernel
theorem dX12_named_27 : decode cX12_named 27 = .ok (.iconst 0, 1) := by decide +kernel
theorem dX12_named_28 : decode cX12_named 28 = .ok (.aload_n 0, 1) := by decide +kernel
theorem dX12_named_29 : decode cX12_named 29 = .ok (.getfield 178, 3) := by decide +kernel
theorem dX12_named_32 : decode cX12_named 32 = .ok (.iload_n 2, 1) := by decide +kernel
theorem dX12_named_33 : decode cX12_named 33 = .ok (.invokestatic 198, 3) := by decide +kernel
theorem dX12_named_36 : decode cX12_named 36 = .ok (.goto 4, 3) := by decide +kernel
theorem dX12_named_39 : decode cX12_named 39 = .ok (.iconst (-1), 1) := by decide +kernel
theorem dX12_named_40 : decode cX12_named 40 = .ok (.ireturn, 1) := by decide +kernel
set_option maxHeartbeats 4000000 in
set_option maxRecDepth 100000 in
theorem jc_X12_named {l : Launch} {D : xD} {ty : xTy} {h : xH} {v0 : Nat} {v1 : Int32} {v2 : Int32} {r : Int32} {h9 : xH} (t_v0 : ty v0 = some (0, 12)) (hF : jf_X12_named ty h v0 v1 v2 = some (r, h9)) : Met l yX12_named (xws yX12_named cX12_named 3 (some .int)) jr_X12_named (xPc D ty h [.ref v0, .int v1, .int v2]) (xQ D ty (some (.int r)) h9) 0 0 (xdom ty) := by
  refine x_met (by decide) ?_
  intro p e s m below meth c C0 hR
  generalize hargs : ([.ref v0, .int v1, .int v2] : List Value).toArray = args at C0 ⊢
  have hx := C0.1
  have hb := C0.2.1
  have hown := C0.2.2.2.2.2.1
  have hts := C0.2.2.2.2.2.2.1
  have hS : xS ty s.heap s.heap [] := xS.rf
  have hl := lv_entry ([.ref v0, .int v1, .int v2]) (n := 3) (Nat.le_of_ble_eq_true rfl)
  rw [← hargs, lg_entry_eq]
  rw [hargs]
  generalize (lg_sl ([.ref v0, .int v1, .int v2]) ++ List.replicate (3 - (lg_sl ([.ref v0, .int v1, .int v2])).length) Slot.unset).toArray = ls at hl ⊢
  have hl : lv_has ls 3 [(0, .ref v0), (1, .int v1), (2, .int v2)] := hl
  unfold jf_X12_named at hF
  refine lv_aload_n hx hb dX12_named_0 rfl (lv_at hl 0 rfl) ?_
  refine lv_iconst (v := 0) hx hb dX12_named_1 (by decide) ?_
  obtain ⟨h1, e_h1, hF⟩ := xbd hF
  refine pf_X12_101 C0 hR hS t_v0 dX12_named_2 (fun H locs hR hS => ?_)
  rw [Option.some.inj e_h1] at hR
  refine lv_iload_n hx hb dX12_named_5 rfl (lv_at hl 1 rfl) ?_
  refine lv_if_ne (tgt := 18) hx hb dX12_named_6 (by decide) (fun c2 => ?_) (fun c2 => ?_)
  · have hF := xel hF c2
    refine lv_iload_n hx hb dX12_named_18 rfl (lv_at hl 1 rfl) ?_
    refine lv_iconst (v := 1) hx hb dX12_named_19 (by decide) ?_
    refine lv_icmp_ne (tgt := 39) hx hb dX12_named_20 (by decide) (fun c3 => ?_) (fun c3 => ?_)
    · have hF := xel hF c3
      refine lv_iconst (v := (-1)) hx hb dX12_named_39 (by decide) ?_
      cases hF
      exact x_iret C0 hR hS dX12_named_40
    · have hF := xif hF c3
      refine lv_aload_n hx hb dX12_named_23 rfl (lv_at hl 0 rfl) ?_
      obtain ⟨a4, e_a4, hF⟩ := xbd hF
      refine gf_X12_29 C0 hR t_v0 e_a4 dX12_named_24 ?_
      refine lv_iconst (v := 0) hx hb dX12_named_27 (by decide) ?_
      refine lv_aload_n hx hb dX12_named_28 rfl (lv_at hl 0 rfl) ?_
      refine gf_X12_178 C0 hR t_v0 dX12_named_29 ?_
      refine lv_iload_n hx hb dX12_named_32 rfl (lv_at hl 2 rfl) ?_
      obtain ⟨a5, e_a5, hF⟩ := xbd hF
      refine cl_X12_198 C0 hR hS e_a5  ⟨(Nat.le_of_ble_eq_true rfl), (Nat.le_of_ble_eq_true rfl)⟩ hl.1 (Nat.le_of_ble_eq_true rfl) ⟨(Nat.le_of_ble_eq_true rfl), (Nat.le_of_ble_eq_true rfl)⟩ dX12_named_33 (fun H locs hR hS => ?_)
      refine lv_goto (tgt := 40) hx hb dX12_named_36 (by decide) ?_
      cases hF
      exact x_iret C0 hR hS dX12_named_40
  · have hF := xif hF c2
    refine lv_aload_n hx hb dX12_named_9 rfl (lv_at hl 0 rfl) ?_
    refine lv_iconst (v := 0) hx hb dX12_named_10 (by decide) ?_
    refine lv_iload_n hx hb dX12_named_11 rfl (lv_at hl 2 rfl) ?_
    obtain ⟨a6, e_a6, hF⟩ := xbd hF
    refine cl_X12_202 C0 hR hS e_a6 t_v0 ⟨(Nat.le_of_ble_eq_true rfl), (Nat.le_of_ble_eq_true rfl)⟩ hl.1 (Nat.le_of_ble_eq_true rfl) ⟨(Nat.le_of_ble_eq_true rfl), (Nat.le_of_ble_eq_true rfl)⟩ dX12_named_12 (fun H locs hR hS => ?_)
    refine lv_goto (tgt := 40) hx hb dX12_named_15 (by decide) ?_
    cases hF
    exact x_iret C0 hR hS dX12_named_40
theorem xm_X12_named : xMw yX12_named cX12_named 3 (some .int) 2 := ⟨xin 1591 (by decide +kernel) rfl, xin 126 (by decide +kernel) rfl, by decide +kernel⟩
theorem xi_X12_named : Cond.instanceMethod yX12_named ∈ xT := xin 1589 (by decide +kernel) rfl
theorem xe_X12_named : Cond.selects yX12_named.cls yX12_named yX12_named ∈ xT := xin 1590 (by decide +kernel) rfl
theorem dX12_manyOf_0 : decode cX12_manyOf 0 = .ok (.iload_n 1, 1) := by decide +kernel
theorem dX12_manyOf_1 : decode cX12_manyOf 1 = .ok (.bipush 100, 2) := by decide +kernel
theorem dX12_manyOf_3 : decode cX12_manyOf 3 = .ok (.if_icmp .ge 12, 3) := by decide +kernel
theorem dX12_manyOf_6 : decode cX12_manyOf 6 = .ok (.aload_n 0, 1) := by decide +kernel
theorem dX12_manyOf_7 : decode cX12_manyOf 7 = .ok (.getfield 23, 3) := by decide +kernel
theorem dX12_manyOf_10 : decode cX12_manyOf 10 = .ok (.iload_n 1, 1) := by decide +kernel
theorem dX12_manyOf_11 : decode cX12_manyOf 11 = .ok (.iaload, 1) := by decide +kernel
theorem dX12_manyOf_12 : decode cX12_manyOf 12 = .ok (.goto 4, 3) := by decide +kernel
theorem dX12_manyOf_15 : decode cX12_manyOf 15 = .ok (.iconst 0, 1) := by decide +kernel
theorem dX12_manyOf_16 : decode cX12_manyOf 16 = .ok (.ireturn, 1) := by decide +kernel
set_option maxHeartbeats 4000000 in
set_option maxRecDepth 100000 in
theorem jc_X12_manyOf {l : Launch} {D : xD} {ty : xTy} {h : xH} {v0 : Nat} {v1 : Int32} {r : Int32} (t_v0 : ty v0 = some (0, 12)) (hF : jf_X12_manyOf ty h v0 v1 = some r) : Met l yX12_manyOf (xws yX12_manyOf cX12_manyOf 2 (some .int)) jr_X12_manyOf (xPc D ty h [.ref v0, .int v1]) (xQ D ty (some (.int r)) h) 0 0 (xdom ty) := by
  refine x_met (by decide) ?_
  intro p e s m below meth c C0 hR
  generalize hargs : ([.ref v0, .int v1] : List Value).toArray = args at C0 ⊢
  have hx := C0.1
  have hb := C0.2.1
  have hown := C0.2.2.2.2.2.1
  have hts := C0.2.2.2.2.2.2.1
  have hS : xS ty s.heap s.heap [] := xS.rf
  have hl := lv_entry ([.ref v0, .int v1]) (n := 2) (Nat.le_of_ble_eq_true rfl)
  rw [← hargs, lg_entry_eq]
  rw [hargs]
  generalize (lg_sl ([.ref v0, .int v1]) ++ List.replicate (2 - (lg_sl ([.ref v0, .int v1])).length) Slot.unset).toArray = ls at hl ⊢
  have hl : lv_has ls 2 [(0, .ref v0), (1, .int v1)] := hl
  unfold jf_X12_manyOf at hF
  refine lv_iload_n hx hb dX12_manyOf_0 rfl (lv_at hl 1 rfl) ?_
  refine lv_bipush (v := 100) hx hb dX12_manyOf_1 (by decide) ?_
  refine lv_icmp_ge (tgt := 15) hx hb dX12_manyOf_3 (by decide) (fun c1 => ?_) (fun c1 => ?_)
  · have hF := xif hF c1
    refine lv_iconst (v := 0) hx hb dX12_manyOf_15 (by decide) ?_
    cases hF
    exact x_iret C0 hR hS dX12_manyOf_16
  · have hF := xel hF c1
    refine lv_aload_n hx hb dX12_manyOf_6 rfl (lv_at hl 0 rfl) ?_
    obtain ⟨a2, e_a2, hF⟩ := xbd hF
    refine gf_X12_23 C0 hR t_v0 e_a2 dX12_manyOf_7 ?_
    refine lv_iload_n hx hb dX12_manyOf_10 rfl (lv_at hl 1 rfl) ?_
    obtain ⟨a3, e_a3, hF⟩ := xbd hF
    refine x_iald C0 hR e_a3 dX12_manyOf_11 ?_
    refine lv_goto (tgt := 16) hx hb dX12_manyOf_12 (by decide) ?_
    cases hF
    exact x_iret C0 hR hS dX12_manyOf_16
theorem xm_X12_manyOf : xMw yX12_manyOf cX12_manyOf 2 (some .int) 1 := ⟨xin 1657 (by decide +kernel) rfl, xin 126 (by decide +kernel) rfl, by decide +kernel⟩
theorem xi_X12_manyOf : Cond.instanceMethod yX12_manyOf ∈ xT := xin 1656 (by decide +kernel) rfl
theorem xe_X12_manyOf : Cond.selects yX12_manyOf.cls yX12_manyOf yX12_manyOf ∈ xT := xin 84 (by decide +kernel) rfl
theorem dX12_endOf_0 : decode cX12_endOf 0 = .ok (.iconst 1, 1) := by decide +kernel
theorem dX12_endOf_1 : decode cX12_endOf 1 = .ok (.istore_n 3, 1) := by decide +kernel
theorem dX12_endOf_2 : decode cX12_endOf 2 = .ok (.iload_n 1, 1) := by decide +kernel
theorem dX12_endOf_3 : decode cX12_endOf 3 = .ok (.istore 4, 2) := by decide +kernel
theorem dX12_endOf_5 : decode cX12_endOf 5 = .ok (.iload_n 3, 1) := by decide +kernel
theorem dX12_endOf_6 : decode cX12_endOf 6 = .ok (.ifCond .le 35, 3) := by decide +kernel
theorem dX12_endOf_9 : decode cX12_endOf 9 = .ok (.aload_n 0, 1) := by decide +kernel
theorem dX12_endOf_10 : decode cX12_endOf 10 = .ok (.iload 4, 2) := by decide +kernel
theorem dX12_endOf_12 : decode cX12_endOf 12 = .ok (.iaload, 1) := by decide +kernel
theorem dX12_endOf_13 : decode cX12_endOf 13 = .ok (.istore 5, 2) := by decide +kernel
theorem dX12_endOf_15 : decode cX12_endOf 15 = .ok (.iload_n 3, 1) := by decide +kernel
theorem dX12_endOf_16 : decode cX12_endOf 16 = .ok (.iload 5, 2) := by decide +kernel
theorem dX12_endOf_18 : decode cX12_endOf 18 = .ok (.bipush 100, 2) := by decide +kernel
theorem dX12_endOf_20 : decode cX12_endOf 20 = .ok (.if_icmp .ge 10, 3) := by decide +kernel
theorem dX12_endOf_23 : decode cX12_endOf 23 = .ok (.aload_n 2, 1) := by decide +kernel
theorem dX12_endOf_24 : decode cX12_endOf 24 = .ok (.iload 5, 2) := by decide +kernel
theorem dX12_endOf_26 : decode cX12_endOf 26 = .ok (.iaload, 1) := by decide +kernel
theorem dX12_endOf_27 : decode cX12_endOf 27 = .ok (.goto 4, 3) := by decide +kernel
theorem dX12_endOf_30 : decode cX12_endOf 30 = .ok (.iconst 0, 1) := by decide +kernel
theorem dX12_endOf_31 : decode cX12_endOf 31 = .ok (.iconst 1, 1) := by decide +kernel
theorem dX12_endOf_32 : decode cX12_endOf 32 = .ok (.isub, 1) := by decide +kernel
theorem dX12_endOf_33 : decode cX12_endOf 33 = .ok (.iadd, 1) := by decide +kernel
theorem dX12_endOf_34 : decode cX12_endOf 34 = .ok (.istore_n 3, 1) := by decide +kernel
theorem dX12_endOf_35 : decode cX12_endOf 35 = .ok (.iinc 4 1, 3) := by decide +kernel
theorem dX12_endOf_38 : decode cX12_endOf 38 = .ok (.goto (-33), 3) := by decide +kernel
theorem dX12_endOf_41 : decode cX12_endOf 41 = .ok (.iload 4, 2) := by decide +kernel
theorem dX12_endOf_43 : decode cX12_endOf 43 = .ok (.ireturn, 1) := by decide +kernel
set_option maxHeartbeats 4000000 in
set_option maxRecDepth 100000 in
theorem jw_X12_endOf_5 {p : Program} {l : Launch} {e : Env} {s : State} {m : MethodId} {args : Array Value} {below : List Frame} {meth : Method} {c : Code} {D : xD} {ty : xTy} {h : xH} (C0 : xC D RX12 cX12_endOf 6 (some .int) p s m args meth c) {r : Int32} : ∀ n : Nat, ∀ (v0 : Nat) (v2 : Nat) (v3 : Int32) (v4 : Int32), jf_X12_endOf_5 ty h n v0 v2 v3 v4 = some r → ∀ (H : Heap) (locs : List Loc), xRep D ty h H → xS ty s.heap H locs → ∀ ls : Array Slot, lv_has ls 6 [(0, .ref v0), (2, .ref v2), (3, .int v3), (4, .int v4)] → W p l e jr_X12_endOf s m args below meth c H locs 0 0 (MQ below (xQ D ty (some (.int r)) h) args s 0 0 (xdom ty)) (F0 m 5 ls []) := by
  have hx := C0.1
  have hb := C0.2.1
  have hown := C0.2.2.2.2.2.1
  have hts := C0.2.2.2.2.2.2.1
  intro n
  induction n with
  | zero =>
    intro v0 v2 v3 v4 hF H locs hR hS ls hl
    cases hF
  | succ n ih =>
    intro v0 v2 v3 v4 hF H locs hR hS ls hl
    rw [jf_X12_endOf_5_s] at hF
    refine lv_iload_n hx hb dX12_endOf_5 rfl (lv_at hl 2 rfl) ?_
    refine lv_if_le (tgt := 41) hx hb dX12_endOf_6 (by decide) (fun c1 => ?_) (fun c1 => ?_)
    · have hF := xif hF c1
      refine lv_iload hx hb dX12_endOf_41 (lv_at hl 3 rfl) ?_
      cases hF
      exact x_iret C0 hR hS dX12_endOf_43
    · have hF := xel hF c1
      refine lv_aload_n hx hb dX12_endOf_9 rfl (lv_at hl 0 rfl) ?_
      refine lv_iload hx hb dX12_endOf_10 (lv_at hl 3 rfl) ?_
      obtain ⟨a2, e_a2, hF⟩ := xbd hF
      refine x_iald C0 hR e_a2 dX12_endOf_12 ?_
      refine lv_istore (lv' := [(5, .int a2), (0, .ref v0), (2, .ref v2), (3, .int v3), (4, .int v4)]) hx hb dX12_endOf_13 hl (by decide) rfl (fun ls hl => ?_)
      refine lv_iload_n hx hb dX12_endOf_15 rfl (lv_at hl 3 rfl) ?_
      refine lv_iload hx hb dX12_endOf_16 (lv_at hl 0 rfl) ?_
      refine lv_bipush (v := 100) hx hb dX12_endOf_18 (by decide) ?_
      refine lv_icmp_ge (tgt := 30) hx hb dX12_endOf_20 (by decide) (fun c3 => ?_) (fun c3 => ?_)
      · have hF := xif hF c3
        refine lv_iconst (v := 0) hx hb dX12_endOf_30 (by decide) ?_
        refine lv_iconst (v := 1) hx hb dX12_endOf_31 (by decide) ?_
        refine lv_isub hx hb dX12_endOf_32 ?_
        refine lv_iadd hx hb dX12_endOf_33 ?_
        refine lv_istore_n (lv' := [(3, .int (v3 + (0 - 1))), (5, .int a2), (0, .ref v0), (2, .ref v2), (4, .int v4)]) hx hb dX12_endOf_34 rfl hl (by decide) rfl (fun ls hl => ?_)
        refine lv_iinc (v := v4 + 1) (lv' := [(4, .int (v4 + 1)), (3, .int (v3 + (0 - 1))), (5, .int a2), (0, .ref v0), (2, .ref v2)]) hx hb dX12_endOf_35 hl (k := 4) rfl rfl (by decide) rfl (fun ls hl => ?_)
        refine lv_goto (tgt := 5) hx hb dX12_endOf_38 (by decide) ?_
        exact ih _ _ _ _ hF _ _ hR hS _ (lv_sub hl [3, 4, 1, 0] rfl)
      · have hF := xel hF c3
        refine lv_aload_n hx hb dX12_endOf_23 rfl (lv_at hl 2 rfl) ?_
        refine lv_iload hx hb dX12_endOf_24 (lv_at hl 0 rfl) ?_
        obtain ⟨a4, e_a4, hF⟩ := xbd hF
        refine x_iald C0 hR e_a4 dX12_endOf_26 ?_
        refine lv_goto (tgt := 31) hx hb dX12_endOf_27 (by decide) ?_
        refine lv_iconst (v := 1) hx hb dX12_endOf_31 (by decide) ?_
        refine lv_isub hx hb dX12_endOf_32 ?_
        refine lv_iadd hx hb dX12_endOf_33 ?_
        refine lv_istore_n (lv' := [(3, .int (v3 + (a4 - 1))), (5, .int a2), (0, .ref v0), (2, .ref v2), (4, .int v4)]) hx hb dX12_endOf_34 rfl hl (by decide) rfl (fun ls hl => ?_)
        refine lv_iinc (v := v4 + 1) (lv' := [(4, .int (v4 + 1)), (3, .int (v3 + (a4 - 1))), (5, .int a2), (0, .ref v0), (2, .ref v2)]) hx hb dX12_endOf_35 hl (k := 4) rfl rfl (by decide) rfl (fun ls hl => ?_)
        refine lv_goto (tgt := 5) hx hb dX12_endOf_38 (by decide) ?_
        exact ih _ _ _ _ hF _ _ hR hS _ (lv_sub hl [3, 4, 1, 0] rfl)
set_option maxHeartbeats 4000000 in
set_option maxRecDepth 100000 in
theorem jc_X12_endOf {l : Launch} {D : xD} {ty : xTy} {h : xH} {v0 : Nat} {v1 : Int32} {v2 : Nat} {r : Int32} (hF : jf_X12_endOf ty h v0 v1 v2 = some r) : Met l yX12_endOf (xws yX12_endOf cX12_endOf 6 (some .int)) jr_X12_endOf (xPc D ty h [.ref v0, .int v1, .ref v2]) (xQ D ty (some (.int r)) h) 0 0 (xdom ty) := by
  refine x_met (by decide) ?_
  intro p e s m below meth c C0 hR
  generalize hargs : ([.ref v0, .int v1, .ref v2] : List Value).toArray = args at C0 ⊢
  have hx := C0.1
  have hb := C0.2.1
  have hown := C0.2.2.2.2.2.1
  have hts := C0.2.2.2.2.2.2.1
  have hS : xS ty s.heap s.heap [] := xS.rf
  have hl := lv_entry ([.ref v0, .int v1, .ref v2]) (n := 6) (Nat.le_of_ble_eq_true rfl)
  rw [← hargs, lg_entry_eq]
  rw [hargs]
  generalize (lg_sl ([.ref v0, .int v1, .ref v2]) ++ List.replicate (6 - (lg_sl ([.ref v0, .int v1, .ref v2])).length) Slot.unset).toArray = ls at hl ⊢
  have hl : lv_has ls 6 [(0, .ref v0), (1, .int v1), (2, .ref v2)] := hl
  unfold jf_X12_endOf at hF
  refine lv_iconst (v := 1) hx hb dX12_endOf_0 (by decide) ?_
  refine lv_istore_n (lv' := [(3, .int 1), (0, .ref v0), (1, .int v1), (2, .ref v2)]) hx hb dX12_endOf_1 rfl hl (by decide) rfl (fun ls hl => ?_)
  refine lv_iload_n hx hb dX12_endOf_2 rfl (lv_at hl 2 rfl) ?_
  refine lv_istore (lv' := [(4, .int v1), (3, .int 1), (0, .ref v0), (1, .int v1), (2, .ref v2)]) hx hb dX12_endOf_3 hl (by decide) rfl (fun ls hl => ?_)
  obtain ⟨_, hF⟩ := xlim_sp hF
  exact jw_X12_endOf_5 C0 _ _ _ _ _ hF _ _ hR hS _ (lv_sub hl [2, 4, 1, 0] rfl)
theorem xm_X12_endOf : xMw yX12_endOf cX12_endOf 6 (some .int) 3 := ⟨xin 1637 (by decide +kernel) rfl, xin 126 (by decide +kernel) rfl, by decide +kernel⟩
theorem xs_X12_endOf : Cond.static yX12_endOf ∈ xT := xin 1636 (by decide +kernel) rfl
theorem dX12_endAt_0 : decode cX12_endAt 0 = .ok (.aload_n 0, 1) := by decide +kernel
theorem dX12_endAt_1 : decode cX12_endAt 1 = .ok (.getfield 53, 3) := by decide +kernel
theorem dX12_endAt_4 : decode cX12_endAt 4 = .ok (.iload_n 1, 1) := by decide +kernel
theorem dX12_endAt_5 : decode cX12_endAt 5 = .ok (.aload_n 0, 1) := by decide +kernel
theorem dX12_endAt_6 : decode cX12_endAt 6 = .ok (.getfield 23, 3) := by decide +kernel
theorem dX12_endAt_9 : decode cX12_endAt 9 = .ok (.invokestatic 231, 3) := by decide +kernel
theorem dX12_endAt_12 : decode cX12_endAt 12 = .ok (.ireturn, 1) := by decide +kernel
theorem wl_X12_231 : Cond.methodLink RX12 231 yX12_endOf ∈ xT := xin 1635 (by decide +kernel) rfl
theorem wf_X12_53 : Cond.fieldLink RX12 53 "TermShelfModel" "heap" "[I" ∈ xT := xin 1344 (by decide +kernel) rfl
section XN_X12_endAt
variable {p : Program} {l : Launch} {e : Env} {R : Room} {s : State} {m : MethodId} {args : Array Value} {below : List Frame} {meth : Method} {c : Code} {H H0 : Heap} {locs : List Loc} {cells slots : Nat} {Q : State → Prop} {cc : ByteArray} {nL pc : Nat} {rt : Option FieldType} {ls : Array Slot} {rest : List Value} {D : xD} {ty : xTy} {h : xH}
theorem cl_X12_231 {v0 : Nat} {v1 : Int32} {v2 : Nat} {r : Int32} (C0 : xC D RX12 cc nL rt p s m args meth c) (hR : xRep D ty h H) (hS : xS ty H0 H locs) (hF : jf_X12_endOf ty h v0 v1 v2 = some r) (hrm : jr_X12_endOf.frames + 1 ≤ R.frames ∧ 8 + (6 + 11) + jr_X12_endOf.locals ≤ R.locals) (hsz : ls.size = nL) (hW : (rest.map fun v => v.category).sum ≤ 8) (hf : cells ≤ R.cells ∧ slots ≤ R.slots) (hdg : decode cc pc = .ok (.invokestatic 231, 3)) (kk : ∀ (H1 : Heap) (locs1 : List Loc), xRep D ty h H1 → xS ty H0 H1 locs1 → W p l e R s m args below meth c H1 locs1 cells slots Q (F0 m (pc + 3) ls (.int r :: rest))) : W p l e R s m args below meth c H locs cells slots Q (F0 m pc ls (.ref v2 :: .int v1 :: .ref v0 :: rest)) := x_callS C0 (jc_X12_endOf  hF) xm_X12_endOf xs_X12_endOf wl_X12_231 ⟨rfl, rfl, hrm⟩ hR hS (As := [.ref v0, .int v1, .ref v2]) rfl hsz rfl hW hdg hf kk
theorem gf_X12_53 {a : Nat} (C0 : xC D RX12 cc nL rt p s m args meth c) (hR : xRep D ty h H) (ht : ty a = some (0, 12)) {v : Nat} (hv : xR h a 32 = some v) (hdg : decode cc pc = .ok (.getfield 53, 3)) (kk : W p l e R s m args below meth c H locs cells slots Q (F0 m (pc + 3) ls (.ref v :: rest))) : W p l e R s m args below meth c H locs cells slots Q (F0 m pc ls (.ref a :: rest)) := x_get C0 hR (ci := 12) (k := 32) (N := 60) (T := TX12) rfl iX12 (by decide) rfl wf_X12_53 (by show va_rf (xR h a 32) = _; rw [hv]; rfl) ht hdg kk
end XN_X12_endAt
set_option maxHeartbeats 4000000 in
set_option maxRecDepth 100000 in
theorem jc_X12_endAt {l : Launch} {D : xD} {ty : xTy} {h : xH} {v0 : Nat} {v1 : Int32} {r : Int32} (t_v0 : ty v0 = some (0, 12)) (hF : jf_X12_endAt ty h v0 v1 = some r) : Met l yX12_endAt (xws yX12_endAt cX12_endAt 2 (some .int)) jr_X12_endAt (xPc D ty h [.ref v0, .int v1]) (xQ D ty (some (.int r)) h) 0 0 (xdom ty) := by
  refine x_met (by decide) ?_
  intro p e s m below meth c C0 hR
  generalize hargs : ([.ref v0, .int v1] : List Value).toArray = args at C0 ⊢
  have hx := C0.1
  have hb := C0.2.1
  have hown := C0.2.2.2.2.2.1
  have hts := C0.2.2.2.2.2.2.1
  have hS : xS ty s.heap s.heap [] := xS.rf
  have hl := lv_entry ([.ref v0, .int v1]) (n := 2) (Nat.le_of_ble_eq_true rfl)
  rw [← hargs, lg_entry_eq]
  rw [hargs]
  generalize (lg_sl ([.ref v0, .int v1]) ++ List.replicate (2 - (lg_sl ([.ref v0, .int v1])).length) Slot.unset).toArray = ls at hl ⊢
  have hl : lv_has ls 2 [(0, .ref v0), (1, .int v1)] := hl
  unfold jf_X12_endAt at hF
  refine lv_aload_n hx hb dX12_endAt_0 rfl (lv_at hl 0 rfl) ?_
  obtain ⟨a1, e_a1, hF⟩ := xbd hF
  refine gf_X12_53 C0 hR t_v0 e_a1 dX12_endAt_1 ?_
  refine lv_iload_n hx hb dX12_endAt_4 rfl (lv_at hl 1 rfl) ?_
  refine lv_aload_n hx hb dX12_endAt_5 rfl (lv_at hl 0 rfl) ?_
  obtain ⟨a2, e_a2, hF⟩ := xbd hF
  refine gf_X12_23 C0 hR t_v0 e_a2 dX12_endAt_6 ?_
  obtain ⟨a3, e_a3, hF⟩ := xbd hF
  refine cl_X12_231 C0 hR hS e_a3  ⟨(Nat.le_of_ble_eq_true rfl), (Nat.le_of_ble_eq_true rfl)⟩ hl.1 (Nat.le_of_ble_eq_true rfl) ⟨(Nat.le_of_ble_eq_true rfl), (Nat.le_of_ble_eq_true rfl)⟩ dX12_endAt_9 (fun H locs hR hS => ?_)
  cases hF
  exact x_iret C0 hR hS dX12_endAt_12
theorem xm_X12_endAt : xMw yX12_endAt cX12_endAt 2 (some .int) 1 := ⟨xin 1634 (by decide +kernel) rfl, xin 126 (by decide +kernel) rfl, by decide +kernel⟩
theorem xi_X12_endAt : Cond.instanceMethod yX12_endAt ∈ xT := xin 1633 (by decide +kernel) rfl
theorem xe_X12_endAt : Cond.selects yX12_endAt.cls yX12_endAt yX12_endAt ∈ xT := xin 79 (by decide +kernel) rfl
theorem dX12_clears_0 : decode cX12_clears 0 = .ok (.aload_n 0, 1) := by decide +kernel
theorem dX12_clears_1 : decode cX12_clears 1 = .ok (.iconst 0, 1) := by decide +kernel
theorem dX12_clears_2 : decode cX12_clears 2 = .ok (.putfield 235, 3) := by decide +kernel
theorem dX12_clears_5 : decode cX12_clears 5 = .ok (.iconst 0, 1) := by decide +kernel
theorem dX12_clears_6 : decode cX12_clears 6 = .ok (.istore_n 1, 1) := by decide +kernel
theorem dX12_clears_7 : decode cX12_clears 7 = .ok (.iload_n 1, 1) := by decide +kernel
theorem dX12_clears_8 : decode cX12_clears 8 = .ok (.bipush 48, 2) := by decide +kernel
theorem dX12_clears_10 : decode cX12_clears 10 = .ok (.if_icmp .ge 16, 3) := by decide +kernel
theorem dX12_clears_13 : decode cX12_clears 13 = .ok (.aload_n 0, 1) := by decide +kernel
theorem dX12_clears_14 : decode cX12_clears 14 = .ok (.getfield 56, 3) := by decide +kernel
theorem dX12_clears_17 : decode cX12_clears 17 = .ok (.iload_n 1, 1) := by decide +kernel
theorem dX12_clears_18 : decode cX12_clears 18 = .ok (.iconst (-1), 1) := by decide +kernel
theorem dX12_clears_19 : decode cX12_clears 19 = .ok (.iastore, 1) := by decide +kernel
theorem dX12_clears_20 : decode cX12_clears 20 = .ok (.iinc 1 1, 3) := by decide +kernel
theorem dX12_clears_23 : decode cX12_clears 23 = .ok (.goto (-16), 3) := by decide +kernel
theorem dX12_clears_26 : decode cX12_clears 26 = .ok (.return_, 1) := by decide +kernel
theorem wf_X12_56 : Cond.fieldLink RX12 56 "TermShelfModel" "bound" "[I" ∈ xT := xin 1346 (by decide +kernel) rfl
theorem wf_X12_235 : Cond.fieldLink RX12 235 "TermShelfModel" "heapTop" "I" ∈ xT := xin 1345 (by decide +kernel) rfl
section XN_X12_clears
variable {p : Program} {l : Launch} {e : Env} {R : Room} {s : State} {m : MethodId} {args : Array Value} {below : List Frame} {meth : Method} {c : Code} {H H0 : Heap} {locs : List Loc} {cells slots : Nat} {Q : State → Prop} {cc : ByteArray} {nL pc : Nat} {rt : Option FieldType} {ls : Array Slot} {rest : List Value} {D : xD} {ty : xTy} {h : xH}
theorem gf_X12_56 {a : Nat} (C0 : xC D RX12 cc nL rt p s m args meth c) (hR : xRep D ty h H) (ht : ty a = some (0, 12)) {v : Nat} (hv : xR h a 34 = some v) (hdg : decode cc pc = .ok (.getfield 56, 3)) (kk : W p l e R s m args below meth c H locs cells slots Q (F0 m (pc + 3) ls (.ref v :: rest))) : W p l e R s m args below meth c H locs cells slots Q (F0 m pc ls (.ref a :: rest)) := x_get C0 hR (ci := 12) (k := 34) (N := 60) (T := TX12) rfl iX12 (by decide) rfl wf_X12_56 (by show va_rf (xR h a 34) = _; rw [hv]; rfl) ht hdg kk
theorem pf_X12_235 {a : Nat} {v : Int32} (C0 : xC D RX12 cc nL rt p s m args meth c) (hR : xRep D ty h H) (hS : xS ty H0 H locs) (ht : ty a = some (0, 12)) (hdg : decode cc pc = .ok (.putfield 235, 3)) (kk : ∀ (H1 : Heap) (locs1 : List Loc), xRep D ty (xsI h a 33 v) H1 → xS ty H0 H1 locs1 → W p l e R s m args below meth c H1 locs1 cells slots Q (F0 m (pc + 3) ls rest)) : W p l e R s m args below meth c H locs cells slots Q (F0 m pc ls (.int v :: .ref a :: rest)) := x_puti C0 hR hS (ci := 12) (k := 33) (N := 60) (T := TX12) rfl iX12 tyX12_ok nmX12 (by decide) rfl rfl wf_X12_235 (Or.inl rfl) rfl rfl ht hdg kk
end XN_X12_clears
set_option maxHeartbeats 4000000 in
set_option maxRecDepth 100000 in
theorem jw_X12_clears_7 {p : Program} {l : Launch} {e : Env} {s : State} {m : MethodId} {args : Array Value} {below : List Frame} {meth : Method} {c : Code} {D : xD} {ty : xTy} (C0 : xC D RX12 cX12_clears 2 none p s m args meth c) {h9 : xH} : ∀ n : Nat, ∀ (v0 : Nat) (v1 : Int32) (h : xH), ty v0 = some (0, 12) → jf_X12_clears_7 ty n v0 v1 h = some h9 → ∀ (H : Heap) (locs : List Loc), xRep D ty h H → xS ty s.heap H locs → ∀ ls : Array Slot, lv_has ls 2 [(0, .ref v0), (1, .int v1)] → W p l e jr_X12_clears s m args below meth c H locs 0 0 (MQ below (xQ D ty none h9) args s 0 0 (xdom ty)) (F0 m 7 ls []) := by
  have hx := C0.1
  have hb := C0.2.1
  have hown := C0.2.2.2.2.2.1
  have hts := C0.2.2.2.2.2.2.1
  intro n
  induction n with
  | zero =>
    intro v0 v1 h t_v0 hF H locs hR hS ls hl
    cases hF
  | succ n ih =>
    intro v0 v1 h t_v0 hF H locs hR hS ls hl
    rw [jf_X12_clears_7_s] at hF
    refine lv_iload_n hx hb dX12_clears_7 rfl (lv_at hl 1 rfl) ?_
    refine lv_bipush (v := 48) hx hb dX12_clears_8 (by decide) ?_
    refine lv_icmp_ge (tgt := 26) hx hb dX12_clears_10 (by decide) (fun c1 => ?_) (fun c1 => ?_)
    · have hF := xif hF c1
      cases hF
      exact x_vret C0 hR hS dX12_clears_26
    · have hF := xel hF c1
      refine lv_aload_n hx hb dX12_clears_13 rfl (lv_at hl 0 rfl) ?_
      obtain ⟨a2, e_a2, hF⟩ := xbd hF
      refine gf_X12_56 C0 hR t_v0 e_a2 dX12_clears_14 ?_
      refine lv_iload_n hx hb dX12_clears_17 rfl (lv_at hl 1 rfl) ?_
      refine lv_iconst (v := (-1)) hx hb dX12_clears_18 (by decide) ?_
      obtain ⟨h3, e_h3, hF⟩ := xbd hF
      refine x_iast C0 hR hS e_h3 dX12_clears_19 (fun H locs hR hS => ?_)
      refine lv_iinc (v := v1 + 1) (lv' := [(1, .int (v1 + 1)), (0, .ref v0)]) hx hb dX12_clears_20 hl (k := 1) rfl rfl (by decide) rfl (fun ls hl => ?_)
      refine lv_goto (tgt := 7) hx hb dX12_clears_23 (by decide) ?_
      exact ih _ _ _ t_v0 hF _ _ hR hS _ (lv_sub hl [1, 0] rfl)
set_option maxHeartbeats 4000000 in
set_option maxRecDepth 100000 in
theorem jc_X12_clears {l : Launch} {D : xD} {ty : xTy} {h : xH} {v0 : Nat} {h9 : xH} (t_v0 : ty v0 = some (0, 12)) (hF : jf_X12_clears ty h v0 = some h9) : Met l yX12_clears (xws yX12_clears cX12_clears 2 none) jr_X12_clears (xPc D ty h [.ref v0]) (xQ D ty none h9) 0 0 (xdom ty) := by
  refine x_met (by decide) ?_
  intro p e s m below meth c C0 hR
  generalize hargs : ([.ref v0] : List Value).toArray = args at C0 ⊢
  have hx := C0.1
  have hb := C0.2.1
  have hown := C0.2.2.2.2.2.1
  have hts := C0.2.2.2.2.2.2.1
  have hS : xS ty s.heap s.heap [] := xS.rf
  have hl := lv_entry ([.ref v0]) (n := 2) (Nat.le_of_ble_eq_true rfl)
  rw [← hargs, lg_entry_eq]
  rw [hargs]
  generalize (lg_sl ([.ref v0]) ++ List.replicate (2 - (lg_sl ([.ref v0])).length) Slot.unset).toArray = ls at hl ⊢
  have hl : lv_has ls 2 [(0, .ref v0)] := hl
  unfold jf_X12_clears at hF
  refine lv_aload_n hx hb dX12_clears_0 rfl (lv_at hl 0 rfl) ?_
  refine lv_iconst (v := 0) hx hb dX12_clears_1 (by decide) ?_
  obtain ⟨h4, e_h4, hF⟩ := xbd hF
  refine pf_X12_235 C0 hR hS t_v0 dX12_clears_2 (fun H locs hR hS => ?_)
  rw [Option.some.inj e_h4] at hR
  refine lv_iconst (v := 0) hx hb dX12_clears_5 (by decide) ?_
  refine lv_istore_n (lv' := [(1, .int 0), (0, .ref v0)]) hx hb dX12_clears_6 rfl hl (by decide) rfl (fun ls hl => ?_)
  obtain ⟨_, hF⟩ := xlim_sp hF
  exact jw_X12_clears_7 C0 _ _ _ _ t_v0 hF _ _ hR hS _ (lv_sub hl [1, 0] rfl)
theorem xm_X12_clears : xMw yX12_clears cX12_clears 2 none 0 := ⟨xin 1614 (by decide +kernel) rfl, xin 126 (by decide +kernel) rfl, by decide +kernel⟩
theorem xi_X12_clears : Cond.instanceMethod yX12_clears ∈ xT := xin 1613 (by decide +kernel) rfl
theorem xe_X12_clears : Cond.selects yX12_clears.cls yX12_clears yX12_clears ∈ xT := xin 74 (by decide +kernel) rfl
theorem dX12_puts_0 : decode cX12_puts 0 = .ok (.aload_n 0, 1) := by decide +kernel
theorem dX12_puts_1 : decode cX12_puts 1 = .ok (.getfield 235, 3) := by decide +kernel
theorem dX12_puts_4 : decode cX12_puts 4 = .ok (.istore 5, 2) := by decide +kernel
theorem dX12_puts_6 : decode cX12_puts 6 = .ok (.iconst 0, 1) := by decide +kernel
theorem dX12_puts_7 : decode cX12_puts 7 = .ok (.istore 6, 2) := by decide +kernel
theorem dX12_puts_9 : decode cX12_puts 9 = .ok (.iload 6, 2) := by decide +kernel
theorem dX12_puts_11 : decode cX12_puts 11 = .ok (.iload_n 3, 1) := by decide +kernel
theorem dX12_puts_12 : decode cX12_puts 12 = .ok (.if_icmp .ge 71, 3) := by decide +kernel
theorem dX12_puts_15 : decode cX12_puts 15 = .ok (.aload_n 1, 1) := by decide +kernel
theorem dX12_puts_16 : decode cX12_puts 16 = .ok (.iload_n 2, 1) := by decide +kernel
theorem dX12_puts_17 : decode cX12_puts 17 = .ok (.iload 6, 2) := by decide +kernel
theorem dX12_puts_19 : decode cX12_puts 19 = .ok (.iadd, 1) := by decide +kernel
theorem dX12_puts_20 : decode cX12_puts 20 = .ok (.iaload, 1) := by decide +kernel
theorem dX12_puts_21 : decode cX12_puts 21 = .ok (.istore 7, 2) := by decide +kernel
theorem dX12_puts_23 : decode cX12_puts 23 = .ok (.aload_n 0, 1) := by decide +kernel
theorem dX12_puts_24 : decode cX12_puts 24 = .ok (.getfield 53, 3) := by decide +kernel
theorem dX12_puts_27 : decode cX12_puts 27 = .ok (.iload 5, 2) := by decide +kernel
theorem dX12_puts_29 : decode cX12_puts 29 = .ok (.iload 6, 2) := by decide +kernel
theorem dX12_puts_31 : decode cX12_puts 31 = .ok (.iadd, 1) := by decide +kernel
theorem dX12_puts_32 : decode cX12_puts 32 = .ok (.iload 7, 2) := by decide +kernel
theorem dX12_puts_34 : decode cX12_puts 34 = .ok (.bipush 100, 2) := by decide +kernel
theorem dX12_puts_36 : decode cX12_puts 36 = .ok (.if_icmp .ge 8, 3) := by decide +kernel
theorem dX12_puts_39 : decode cX12_puts 39 = .ok (.iload 7, 2) := by decide +kernel
theorem dX12_puts_41 : decode cX12_puts 41 = .ok (.goto 35, 3) := by decide +kernel
theorem dX12_puts_44 : decode cX12_puts 44 = .ok (.bipush 100, 2) := by decide +kernel
theorem dX12_puts_46 : decode cX12_puts 46 = .ok (.iload 4, 2) := by decide +kernel
theorem dX12_puts_48 : decode cX12_puts 48 = .ok (.iadd, 1) := by decide +kernel
theorem dX12_puts_49 : decode cX12_puts 49 = .ok (.iload 4, 2) := by decide +kernel
theorem dX12_puts_51 : decode cX12_puts 51 = .ok (.bipush 16, 2) := by decide +kernel
theorem dX12_puts_53 : decode cX12_puts 53 = .ok (.if_icmp .lt 8, 3) := by decide +kernel
theorem dX12_puts_56 : decode cX12_puts 56 = .ok (.iload 6, 2) := by decide +kernel
theorem dX12_puts_58 : decode cX12_puts 58 = .ok (.goto 17, 3) := by decide +kernel
theorem dX12_puts_61 : decode cX12_puts 61 = .ok (.iload 4, 2) := by decide +kernel
theorem dX12_puts_63 : decode cX12_puts 63 = .ok (.ifCond .ge 7, 3) := by decide +kernel
theorem dX12_puts_66 : decode cX12_puts 66 = .ok (.iconst 1, 1) := by decide +kernel
theorem dX12_puts_67 : decode cX12_puts 67 = .ok (.goto 8, 3) := by decide +kernel
theorem dX12_puts_70 : decode cX12_puts 70 = .ok (.iload 7, 2) := by decide +kernel
theorem dX12_puts_72 : decode cX12_puts 72 = .ok (.bipush 100, 2) := by decide +kernel
theorem dX12_puts_74 : decode cX12_puts 74 = .ok (.isub, 1) := by decide +kernel
theorem dX12_puts_75 : decode cX12_puts 75 = .ok (.iadd, 1) := by decide +kernel
theorem dX12_puts_76 : decode cX12_puts 76 = .ok (.iastore, 1) := by decide +kernel
theorem dX12_puts_77 : decode cX12_puts 77 = .ok (.iinc 6 1, 3) := by decide +kernel
theorem dX12_puts_80 : decode cX12_puts 80 = .ok (.goto (-71), 3) := by decide +kernel
theorem dX12_puts_83 : decode cX12_puts 83 = .ok (.aload_n 0, 1) := by decide +kernel
theorem dX12_puts_84 : decode cX12_puts 84 = .ok (.iload 5, 2) := by decide +kernel
theorem dX12_puts_86 : decode cX12_puts 86 = .ok (.iload_n 3, 1) := by decide +kernel
theorem dX12_puts_87 : decode cX12_puts 87 = .ok (.iadd, 1) := by decide +kernel
theorem dX12_puts_88 : decode cX12_puts 88 = .ok (.putfield 235, 3) := by decide +kernel
theorem dX12_puts_91 : decode cX12_puts 91 = .ok (.iload 5, 2) := by decide +kernel
theorem dX12_puts_93 : decode cX12_puts 93 = .ok (.ireturn, 1) := by decide +kernel
section XN_X12_puts
variable {p : Program} {l : Launch} {e : Env} {R : Room} {s : State} {m : MethodId} {args : Array Value} {below : List Frame} {meth : Method} {c : Code} {H H0 : Heap} {locs : List Loc} {cells slots : Nat} {Q : State → Prop} {cc : ByteArray} {nL pc : Nat} {rt : Option FieldType} {ls : Array Slot} {rest : List Value} {D : xD} {ty : xTy} {h : xH}
theorem gf_X12_235 {a : Nat} (C0 : xC D RX12 cc nL rt p s m args meth c) (hR : xRep D ty h H) (ht : ty a = some (0, 12)) (hdg : decode cc pc = .ok (.getfield 235, 3)) (kk : W p l e R s m args below meth c H locs cells slots Q (F0 m (pc + 3) ls (.int (xI h a 33) :: rest))) : W p l e R s m args below meth c H locs cells slots Q (F0 m pc ls (.ref a :: rest)) := x_get C0 hR (ci := 12) (k := 33) (N := 60) (T := TX12) rfl iX12 (by decide) rfl wf_X12_235 rfl ht hdg kk
end XN_X12_puts
set_option maxHeartbeats 4000000 in
set_option maxRecDepth 100000 in
theorem jw_X12_puts_9 {p : Program} {l : Launch} {e : Env} {s : State} {m : MethodId} {args : Array Value} {below : List Frame} {meth : Method} {c : Code} {D : xD} {ty : xTy} (C0 : xC D RX12 cX12_puts 8 (some .int) p s m args meth c) {r : Int32} {h9 : xH} : ∀ n : Nat, ∀ (v0 : Nat) (v1 : Nat) (v2 : Int32) (v3 : Int32) (v4 : Int32) (v5 : Int32) (v6 : Int32) (h : xH), ty v0 = some (0, 12) → jf_X12_puts_9 ty n v0 v1 v2 v3 v4 v5 v6 h = some (r, h9) → ∀ (H : Heap) (locs : List Loc), xRep D ty h H → xS ty s.heap H locs → ∀ ls : Array Slot, lv_has ls 8 [(0, .ref v0), (1, .ref v1), (2, .int v2), (3, .int v3), (4, .int v4), (5, .int v5), (6, .int v6)] → W p l e jr_X12_puts s m args below meth c H locs 0 0 (MQ below (xQ D ty (some (.int r)) h9) args s 0 0 (xdom ty)) (F0 m 9 ls []) := by
  have hx := C0.1
  have hb := C0.2.1
  have hown := C0.2.2.2.2.2.1
  have hts := C0.2.2.2.2.2.2.1
  intro n
  induction n with
  | zero =>
    intro v0 v1 v2 v3 v4 v5 v6 h t_v0 hF H locs hR hS ls hl
    cases hF
  | succ n ih =>
    intro v0 v1 v2 v3 v4 v5 v6 h t_v0 hF H locs hR hS ls hl
    rw [jf_X12_puts_9_s] at hF
    refine lv_iload hx hb dX12_puts_9 (lv_at hl 6 rfl) ?_
    refine lv_iload_n hx hb dX12_puts_11 rfl (lv_at hl 3 rfl) ?_
    refine lv_icmp_ge (tgt := 83) hx hb dX12_puts_12 (by decide) (fun c1 => ?_) (fun c1 => ?_)
    · have hF := xif hF c1
      refine lv_aload_n hx hb dX12_puts_83 rfl (lv_at hl 0 rfl) ?_
      refine lv_iload hx hb dX12_puts_84 (lv_at hl 5 rfl) ?_
      refine lv_iload_n hx hb dX12_puts_86 rfl (lv_at hl 3 rfl) ?_
      refine lv_iadd hx hb dX12_puts_87 ?_
      obtain ⟨h2, e_h2, hF⟩ := xbd hF
      refine pf_X12_235 C0 hR hS t_v0 dX12_puts_88 (fun H locs hR hS => ?_)
      rw [Option.some.inj e_h2] at hR
      refine lv_iload hx hb dX12_puts_91 (lv_at hl 5 rfl) ?_
      cases hF
      exact x_iret C0 hR hS dX12_puts_93
    · have hF := xel hF c1
      refine lv_aload_n hx hb dX12_puts_15 rfl (lv_at hl 1 rfl) ?_
      refine lv_iload_n hx hb dX12_puts_16 rfl (lv_at hl 2 rfl) ?_
      refine lv_iload hx hb dX12_puts_17 (lv_at hl 6 rfl) ?_
      refine lv_iadd hx hb dX12_puts_19 ?_
      obtain ⟨a3, e_a3, hF⟩ := xbd hF
      refine x_iald C0 hR e_a3 dX12_puts_20 ?_
      refine lv_istore (lv' := [(7, .int a3), (0, .ref v0), (1, .ref v1), (2, .int v2), (3, .int v3), (4, .int v4), (5, .int v5), (6, .int v6)]) hx hb dX12_puts_21 hl (by decide) rfl (fun ls hl => ?_)
      refine lv_aload_n hx hb dX12_puts_23 rfl (lv_at hl 1 rfl) ?_
      obtain ⟨a4, e_a4, hF⟩ := xbd hF
      refine gf_X12_53 C0 hR t_v0 e_a4 dX12_puts_24 ?_
      refine lv_iload hx hb dX12_puts_27 (lv_at hl 6 rfl) ?_
      refine lv_iload hx hb dX12_puts_29 (lv_at hl 7 rfl) ?_
      refine lv_iadd hx hb dX12_puts_31 ?_
      refine lv_iload hx hb dX12_puts_32 (lv_at hl 0 rfl) ?_
      refine lv_bipush (v := 100) hx hb dX12_puts_34 (by decide) ?_
      refine lv_icmp_ge (tgt := 44) hx hb dX12_puts_36 (by decide) (fun c5 => ?_) (fun c5 => ?_)
      · have hF := xif hF c5
        refine lv_bipush (v := 100) hx hb dX12_puts_44 (by decide) ?_
        refine lv_iload hx hb dX12_puts_46 (lv_at hl 5 rfl) ?_
        refine lv_iadd hx hb dX12_puts_48 ?_
        refine lv_iload hx hb dX12_puts_49 (lv_at hl 5 rfl) ?_
        refine lv_bipush (v := 16) hx hb dX12_puts_51 (by decide) ?_
        refine lv_icmp_lt (tgt := 61) hx hb dX12_puts_53 (by decide) (fun c6 => ?_) (fun c6 => ?_)
        · have hF := xif hF c6
          refine lv_iload hx hb dX12_puts_61 (lv_at hl 5 rfl) ?_
          refine lv_if_ge (tgt := 70) hx hb dX12_puts_63 (by decide) (fun c7 => ?_) (fun c7 => ?_)
          · have hF := xif hF c7
            refine lv_iload hx hb dX12_puts_70 (lv_at hl 0 rfl) ?_
            refine lv_bipush (v := 100) hx hb dX12_puts_72 (by decide) ?_
            refine lv_isub hx hb dX12_puts_74 ?_
            refine lv_iadd hx hb dX12_puts_75 ?_
            obtain ⟨h8, e_h8, hF⟩ := xbd hF
            refine x_iast C0 hR hS e_h8 dX12_puts_76 (fun H locs hR hS => ?_)
            refine lv_iinc (v := v6 + 1) (lv' := [(6, .int (v6 + 1)), (7, .int a3), (0, .ref v0), (1, .ref v1), (2, .int v2), (3, .int v3), (4, .int v4), (5, .int v5)]) hx hb dX12_puts_77 hl (k := 7) rfl rfl (by decide) rfl (fun ls hl => ?_)
            refine lv_goto (tgt := 9) hx hb dX12_puts_80 (by decide) ?_
            exact ih _ _ _ _ _ _ _ _ t_v0 hF _ _ hR hS _ (lv_sub hl [2, 3, 4, 5, 6, 7, 0] rfl)
          · have hF := xel hF c7
            refine lv_iconst (v := 1) hx hb dX12_puts_66 (by decide) ?_
            refine lv_goto (tgt := 75) hx hb dX12_puts_67 (by decide) ?_
            refine lv_iadd hx hb dX12_puts_75 ?_
            obtain ⟨h9, e_h9, hF⟩ := xbd hF
            refine x_iast C0 hR hS e_h9 dX12_puts_76 (fun H locs hR hS => ?_)
            refine lv_iinc (v := v6 + 1) (lv' := [(6, .int (v6 + 1)), (7, .int a3), (0, .ref v0), (1, .ref v1), (2, .int v2), (3, .int v3), (4, .int v4), (5, .int v5)]) hx hb dX12_puts_77 hl (k := 7) rfl rfl (by decide) rfl (fun ls hl => ?_)
            refine lv_goto (tgt := 9) hx hb dX12_puts_80 (by decide) ?_
            exact ih _ _ _ _ _ _ _ _ t_v0 hF _ _ hR hS _ (lv_sub hl [2, 3, 4, 5, 6, 7, 0] rfl)
        · have hF := xel hF c6
          refine lv_iload hx hb dX12_puts_56 (lv_at hl 7 rfl) ?_
          refine lv_goto (tgt := 75) hx hb dX12_puts_58 (by decide) ?_
          refine lv_iadd hx hb dX12_puts_75 ?_
          obtain ⟨h10, e_h10, hF⟩ := xbd hF
          refine x_iast C0 hR hS e_h10 dX12_puts_76 (fun H locs hR hS => ?_)
          refine lv_iinc (v := v6 + 1) (lv' := [(6, .int (v6 + 1)), (7, .int a3), (0, .ref v0), (1, .ref v1), (2, .int v2), (3, .int v3), (4, .int v4), (5, .int v5)]) hx hb dX12_puts_77 hl (k := 7) rfl rfl (by decide) rfl (fun ls hl => ?_)
          refine lv_goto (tgt := 9) hx hb dX12_puts_80 (by decide) ?_
          exact ih _ _ _ _ _ _ _ _ t_v0 hF _ _ hR hS _ (lv_sub hl [2, 3, 4, 5, 6, 7, 0] rfl)
      · have hF := xel hF c5
        refine lv_iload hx hb dX12_puts_39 (lv_at hl 0 rfl) ?_
        refine lv_goto (tgt := 76) hx hb dX12_puts_41 (by decide) ?_
        obtain ⟨h11, e_h11, hF⟩ := xbd hF
        refine x_iast C0 hR hS e_h11 dX12_puts_76 (fun H locs hR hS => ?_)
        refine lv_iinc (v := v6 + 1) (lv' := [(6, .int (v6 + 1)), (7, .int a3), (0, .ref v0), (1, .ref v1), (2, .int v2), (3, .int v3), (4, .int v4), (5, .int v5)]) hx hb dX12_puts_77 hl (k := 7) rfl rfl (by decide) rfl (fun ls hl => ?_)
        refine lv_goto (tgt := 9) hx hb dX12_puts_80 (by decide) ?_
        exact ih _ _ _ _ _ _ _ _ t_v0 hF _ _ hR hS _ (lv_sub hl [2, 3, 4, 5, 6, 7, 0] rfl)
set_option maxHeartbeats 4000000 in
set_option maxRecDepth 100000 in
theorem jc_X12_puts {l : Launch} {D : xD} {ty : xTy} {h : xH} {v0 : Nat} {v1 : Nat} {v2 : Int32} {v3 : Int32} {v4 : Int32} {r : Int32} {h9 : xH} (t_v0 : ty v0 = some (0, 12)) (hF : jf_X12_puts ty h v0 v1 v2 v3 v4 = some (r, h9)) : Met l yX12_puts (xws yX12_puts cX12_puts 8 (some .int)) jr_X12_puts (xPc D ty h [.ref v0, .ref v1, .int v2, .int v3, .int v4]) (xQ D ty (some (.int r)) h9) 0 0 (xdom ty) := by
  refine x_met (by decide) ?_
  intro p e s m below meth c C0 hR
  generalize hargs : ([.ref v0, .ref v1, .int v2, .int v3, .int v4] : List Value).toArray = args at C0 ⊢
  have hx := C0.1
  have hb := C0.2.1
  have hown := C0.2.2.2.2.2.1
  have hts := C0.2.2.2.2.2.2.1
  have hS : xS ty s.heap s.heap [] := xS.rf
  have hl := lv_entry ([.ref v0, .ref v1, .int v2, .int v3, .int v4]) (n := 8) (Nat.le_of_ble_eq_true rfl)
  rw [← hargs, lg_entry_eq]
  rw [hargs]
  generalize (lg_sl ([.ref v0, .ref v1, .int v2, .int v3, .int v4]) ++ List.replicate (8 - (lg_sl ([.ref v0, .ref v1, .int v2, .int v3, .int v4])).length) Slot.unset).toArray = ls at hl ⊢
  have hl : lv_has ls 8 [(0, .ref v0), (1, .ref v1), (2, .int v2), (3, .int v3), (4, .int v4)] := hl
  unfold jf_X12_puts at hF
  refine lv_aload_n hx hb dX12_puts_0 rfl (lv_at hl 0 rfl) ?_
  refine gf_X12_235 C0 hR t_v0 dX12_puts_1 ?_
  refine lv_istore (lv' := [(5, .int (xI h v0 33)), (0, .ref v0), (1, .ref v1), (2, .int v2), (3, .int v3), (4, .int v4)]) hx hb dX12_puts_4 hl (by decide) rfl (fun ls hl => ?_)
  refine lv_iconst (v := 0) hx hb dX12_puts_6 (by decide) ?_
  refine lv_istore (lv' := [(6, .int 0), (5, .int (xI h v0 33)), (0, .ref v0), (1, .ref v1), (2, .int v2), (3, .int v3), (4, .int v4)]) hx hb dX12_puts_7 hl (by decide) rfl (fun ls hl => ?_)
  obtain ⟨_, hF⟩ := xlim_sp hF
  exact jw_X12_puts_9 C0 _ _ _ _ _ _ _ _ _ t_v0 hF _ _ hR hS _ (lv_sub hl [2, 3, 4, 5, 6, 1, 0] rfl)
theorem xm_X12_puts : xMw yX12_puts cX12_puts 8 (some .int) 4 := ⟨xin 1622 (by decide +kernel) rfl, xin 126 (by decide +kernel) rfl, by decide +kernel⟩
theorem xi_X12_puts : Cond.instanceMethod yX12_puts ∈ xT := xin 1621 (by decide +kernel) rfl
theorem xe_X12_puts : Cond.selects yX12_puts.cls yX12_puts yX12_puts ∈ xT := xin 76 (by decide +kernel) rfl
theorem dX12_putsRule_0 : decode cX12_putsRule 0 = .ok (.aload_n 0, 1) := by decide +kernel
theorem dX12_putsRule_1 : decode cX12_putsRule 1 = .ok (.aload_n 0, 1) := by decide +kernel
theorem dX12_putsRule_2 : decode cX12_putsRule 2 = .ok (.getfield 35, 3) := by decide +kernel
theorem dX12_putsRule_5 : decode cX12_putsRule 5 = .ok (.bipush 12, 2) := by decide +kernel
theorem dX12_putsRule_7 : decode cX12_putsRule 7 = .ok (.iload_n 1, 1) := by decide +kernel
theorem dX12_putsRule_8 : decode cX12_putsRule 8 = .ok (.imul, 1) := by decide +kernel
theorem dX12_putsRule_9 : decode cX12_putsRule 9 = .ok (.aload_n 0, 1) := by decide +kernel
theorem dX12_putsRule_10 : decode cX12_putsRule 10 = .ok (.getfield 32, 3) := by decide +kernel
theorem dX12_putsRule_13 : decode cX12_putsRule 13 = .ok (.iload_n 1, 1) := by decide +kernel
theorem dX12_putsRule_14 : decode cX12_putsRule 14 = .ok (.iaload, 1) := by decide +kernel
theorem dX12_putsRule_15 : decode cX12_putsRule 15 = .ok (.iload_n 2, 1) := by decide +kernel
theorem dX12_putsRule_16 : decode cX12_putsRule 16 = .ok (.invokevirtual 238, 3) := by decide +kernel
theorem dX12_putsRule_19 : decode cX12_putsRule 19 = .ok (.ireturn, 1) := by decide +kernel
theorem wl_X12_238 : Cond.methodLink RX12 238 yX12_puts ∈ xT := xin 1619 (by decide +kernel) rfl
section XN_X12_putsRule
variable {p : Program} {l : Launch} {e : Env} {R : Room} {s : State} {m : MethodId} {args : Array Value} {below : List Frame} {meth : Method} {c : Code} {H H0 : Heap} {locs : List Loc} {cells slots : Nat} {Q : State → Prop} {cc : ByteArray} {nL pc : Nat} {rt : Option FieldType} {ls : Array Slot} {rest : List Value} {D : xD} {ty : xTy} {h : xH}
theorem cl_X12_238 {v0 : Nat} {v1 : Nat} {v2 : Int32} {v3 : Int32} {v4 : Int32} {r : Int32} {h9 : xH} (C0 : xC D RX12 cc nL rt p s m args meth c) (hR : xRep D ty h H) (hS : xS ty H0 H locs) (hF : jf_X12_puts ty h v0 v1 v2 v3 v4 = some (r, h9)) (t_v0 : ty v0 = some (0, 12)) (hrm : jr_X12_puts.frames + 1 ≤ R.frames ∧ 8 + (8 + 11) + jr_X12_puts.locals ≤ R.locals) (hsz : ls.size = nL) (hW : (rest.map fun v => v.category).sum ≤ 8) (hf : cells ≤ R.cells ∧ slots ≤ R.slots) (hdg : decode cc pc = .ok (.invokevirtual 238, 3)) (kk : ∀ (H1 : Heap) (locs1 : List Loc), xRep D ty h9 H1 → xS ty H0 H1 locs1 → W p l e R s m args below meth c H1 locs1 cells slots Q (F0 m (pc + 3) ls (.int r :: rest))) : W p l e R s m args below meth c H locs cells slots Q (F0 m pc ls (.int v4 :: .int v3 :: .int v2 :: .ref v1 :: .ref v0 :: rest)) := x_callV C0 (jc_X12_puts t_v0 hF) xm_X12_puts xi_X12_puts xe_X12_puts wl_X12_238 ⟨rfl, rfl, hrm⟩ (ci := 12) rfl t_v0 hR hS (As := [.ref v1, .int v2, .int v3, .int v4]) rfl hsz rfl hW hdg hf kk
end XN_X12_putsRule
set_option maxHeartbeats 4000000 in
set_option maxRecDepth 100000 in
theorem jc_X12_putsRule {l : Launch} {D : xD} {ty : xTy} {h : xH} {v0 : Nat} {v1 : Int32} {v2 : Int32} {r : Int32} {h9 : xH} (t_v0 : ty v0 = some (0, 12)) (hF : jf_X12_putsRule ty h v0 v1 v2 = some (r, h9)) : Met l yX12_putsRule (xws yX12_putsRule cX12_putsRule 3 (some .int)) jr_X12_putsRule (xPc D ty h [.ref v0, .int v1, .int v2]) (xQ D ty (some (.int r)) h9) 0 0 (xdom ty) := by
  refine x_met (by decide) ?_
  intro p e s m below meth c C0 hR
  generalize hargs : ([.ref v0, .int v1, .int v2] : List Value).toArray = args at C0 ⊢
  have hx := C0.1
  have hb := C0.2.1
  have hown := C0.2.2.2.2.2.1
  have hts := C0.2.2.2.2.2.2.1
  have hS : xS ty s.heap s.heap [] := xS.rf
  have hl := lv_entry ([.ref v0, .int v1, .int v2]) (n := 3) (Nat.le_of_ble_eq_true rfl)
  rw [← hargs, lg_entry_eq]
  rw [hargs]
  generalize (lg_sl ([.ref v0, .int v1, .int v2]) ++ List.replicate (3 - (lg_sl ([.ref v0, .int v1, .int v2])).length) Slot.unset).toArray = ls at hl ⊢
  have hl : lv_has ls 3 [(0, .ref v0), (1, .int v1), (2, .int v2)] := hl
  unfold jf_X12_putsRule at hF
  refine lv_aload_n hx hb dX12_putsRule_0 rfl (lv_at hl 0 rfl) ?_
  refine lv_aload_n hx hb dX12_putsRule_1 rfl (lv_at hl 0 rfl) ?_
  obtain ⟨a1, e_a1, hF⟩ := xbd hF
  refine gf_X12_35 C0 hR t_v0 e_a1 dX12_putsRule_2 ?_
  refine lv_bipush (v := 12) hx hb dX12_putsRule_5 (by decide) ?_
  refine lv_iload_n hx hb dX12_putsRule_7 rfl (lv_at hl 1 rfl) ?_
  refine lv_imul hx hb dX12_putsRule_8 ?_
  refine lv_aload_n hx hb dX12_putsRule_9 rfl (lv_at hl 0 rfl) ?_
  obtain ⟨a2, e_a2, hF⟩ := xbd hF
  refine gf_X12_32 C0 hR t_v0 e_a2 dX12_putsRule_10 ?_
  refine lv_iload_n hx hb dX12_putsRule_13 rfl (lv_at hl 1 rfl) ?_
  obtain ⟨a3, e_a3, hF⟩ := xbd hF
  refine x_iald C0 hR e_a3 dX12_putsRule_14 ?_
  refine lv_iload_n hx hb dX12_putsRule_15 rfl (lv_at hl 2 rfl) ?_
  obtain ⟨a5, h4, e_h4, hF⟩ := xbd2 hF
  refine cl_X12_238 C0 hR hS e_h4 t_v0 ⟨(Nat.le_of_ble_eq_true rfl), (Nat.le_of_ble_eq_true rfl)⟩ hl.1 (Nat.le_of_ble_eq_true rfl) ⟨(Nat.le_of_ble_eq_true rfl), (Nat.le_of_ble_eq_true rfl)⟩ dX12_putsRule_16 (fun H locs hR hS => ?_)
  cases hF
  exact x_iret C0 hR hS dX12_putsRule_19
theorem xm_X12_putsRule : xMw yX12_putsRule cX12_putsRule 3 (some .int) 2 := ⟨xin 1626 (by decide +kernel) rfl, xin 126 (by decide +kernel) rfl, by decide +kernel⟩
theorem xi_X12_putsRule : Cond.instanceMethod yX12_putsRule ∈ xT := xin 1625 (by decide +kernel) rfl
theorem xe_X12_putsRule : Cond.selects yX12_putsRule.cls yX12_putsRule yX12_putsRule ∈ xT := xin 77 (by decide +kernel) rfl
theorem dX12_isAlike_0 : decode cX12_isAlike 0 = .ok (.aload_n 0, 1) := by decide +kernel
theorem dX12_isAlike_1 : decode cX12_isAlike 1 = .ok (.iload_n 1, 1) := by decide +kernel
theorem dX12_isAlike_2 : decode cX12_isAlike 2 = .ok (.invokevirtual 241, 3) := by decide +kernel
theorem dX12_isAlike_5 : decode cX12_isAlike 5 = .ok (.iload_n 1, 1) := by decide +kernel
theorem dX12_isAlike_6 : decode cX12_isAlike 6 = .ok (.isub, 1) := by decide +kernel
theorem dX12_isAlike_7 : decode cX12_isAlike 7 = .ok (.istore_n 3, 1) := by decide +kernel
theorem dX12_isAlike_8 : decode cX12_isAlike 8 = .ok (.aload_n 0, 1) := by decide +kernel
theorem dX12_isAlike_9 : decode cX12_isAlike 9 = .ok (.iload_n 2, 1) := by decide +kernel
theorem dX12_isAlike_10 : decode cX12_isAlike 10 = .ok (.invokevirtual 241, 3) := by decide +kernel
theorem dX12_isAlike_13 : decode cX12_isAlike 13 = .ok (.iload_n 2, 1) := by decide +kernel
theorem dX12_isAlike_14 : decode cX12_isAlike 14 = .ok (.isub, 1) := by decide +kernel
theorem dX12_isAlike_15 : decode cX12_isAlike 15 = .ok (.iload_n 3, 1) := by decide +kernel
theorem dX12_isAlike_16 : decode cX12_isAlike 16 = .ok (.if_icmp .eq 5, 3) := by decide +kernel
theorem dX12_isAlike_19 : decode cX12_isAlike 19 = .ok (.iconst 0, 1) := by decide +kernel
theorem dX12_isAlike_20 : decode cX12_isAlike 20 = .ok (.ireturn, 1) := by decide +kernel
theorem dX12_isAlike_21 : decode cX12_isAlike 21 = .ok (.iconst 0, 1) := by decide +kernel
theorem dX12_isAlike_22 : decode cX12_isAlike 22 = .ok (.istore 4, 2) := by decide +kernel
theorem dX12_isAlike_24 : decode cX12_isAlike 24 = .ok (.iload 4, 2) := by decide +kernel
theorem dX12_isAlike_26 : decode cX12_isAlike 26 = .ok (.iload_n 3, 1) := by decide +kernel
theorem dX12_isAlike_27 : decode cX12_isAlike 27 = .ok (.if_icmp .ge 32, 3) := by decide +kernel
theorem dX12_isAlike_30 : decode cX12_isAlike 30 = .ok (.aload_n 0, 1) := by decide +kernel
theorem dX12_isAlike_31 : decode cX12_isAlike 31 = .ok (.getfield 53, 3) := by decide +kernel
theorem dX12_isAlike_34 : decode cX12_isAlike 34 = .ok (.iload_n 1, 1) := by decide +kernel
theorem dX12_isAlike_35 : decode cX12_isAlike 35 = .ok (.iload 4, 2) := by decide +kernel
theorem dX12_isAlike_37 : decode cX12_isAlike 37 = .ok (.iadd, 1) := by decide +kernel
theorem dX12_isAlike_38 : decode cX12_isAlike 38 = .ok (.iaload, 1) := by decide +kernel
theorem dX12_isAlike_39 : decode cX12_isAlike 39 = .ok (.aload_n 0, 1) := by decide +kernel
theorem dX12_isAlike_40 : decode cX12_isAlike 40 = .ok (.getfield 53, 3) := by decide +kernel
theorem dX12_isAlike_43 : decode cX12_isAlike 43 = .ok (.iload_n 2, 1) := by decide +kernel
theorem dX12_isAlike_44 : decode cX12_isAlike 44 = .ok (.iload 4, 2) := by decide +kernel
theorem dX12_isAlike_46 : decode cX12_isAlike 46 = .ok (.iadd, 1) := by decide +kernel
theorem dX12_isAlike_47 : decode cX12_isAlike 47 = .ok (.iaload, 1) := by decide +kernel
theorem dX12_isAlike_48 : decode cX12_isAlike 48 = .ok (.if_icmp .eq 5, 3) := by decide +kernel
theorem dX12_isAlike_51 : decode cX12_isAlike 51 = .ok (.iconst 0, 1) := by decide +kernel
theorem dX12_isAlike_52 : decode cX12_isAlike 52 = .ok (.ireturn, 1) := by decide +kernel
theorem dX12_isAlike_53 : decode cX12_isAlike 53 = .ok (.iinc 4 1, 3) := by decide +kernel
theorem dX12_isAlike_56 : decode cX12_isAlike 56 = .ok (.goto (-32), 3) := by decide +kernel
theorem dX12_isAlike_59 : decode cX12_isAlike 59 = .ok (.iconst 1, 1) := by decide +kernel
theorem dX12_isAlike_60 : decode cX12_isAlike 60 = .ok (.ireturn, 1) := by decide +kernel
theorem wl_X12_241 : Cond.methodLink RX12 241 yX12_endAt ∈ xT := xin 1631 (by decide +kernel) rfl
section XN_X12_isAlike
variable {p : Program} {l : Launch} {e : Env} {R : Room} {s : State} {m : MethodId} {args : Array Value} {below : List Frame} {meth : Method} {c : Code} {H H0 : Heap} {locs : List Loc} {cells slots : Nat} {Q : State → Prop} {cc : ByteArray} {nL pc : Nat} {rt : Option FieldType} {ls : Array Slot} {rest : List Value} {D : xD} {ty : xTy} {h : xH}
theorem cl_X12_241 {v0 : Nat} {v1 : Int32} {r : Int32} (C0 : xC D RX12 cc nL rt p s m args meth c) (hR : xRep D ty h H) (hS : xS ty H0 H locs) (hF : jf_X12_endAt ty h v0 v1 = some r) (t_v0 : ty v0 = some (0, 12)) (hrm : jr_X12_endAt.frames + 1 ≤ R.frames ∧ 8 + (2 + 11) + jr_X12_endAt.locals ≤ R.locals) (hsz : ls.size = nL) (hW : (rest.map fun v => v.category).sum ≤ 8) (hf : cells ≤ R.cells ∧ slots ≤ R.slots) (hdg : decode cc pc = .ok (.invokevirtual 241, 3)) (kk : ∀ (H1 : Heap) (locs1 : List Loc), xRep D ty h H1 → xS ty H0 H1 locs1 → W p l e R s m args below meth c H1 locs1 cells slots Q (F0 m (pc + 3) ls (.int r :: rest))) : W p l e R s m args below meth c H locs cells slots Q (F0 m pc ls (.int v1 :: .ref v0 :: rest)) := x_callV C0 (jc_X12_endAt t_v0 hF) xm_X12_endAt xi_X12_endAt xe_X12_endAt wl_X12_241 ⟨rfl, rfl, hrm⟩ (ci := 12) rfl t_v0 hR hS (As := [.int v1]) rfl hsz rfl hW hdg hf kk
end XN_X12_isAlike
set_option maxHeartbeats 4000000 in
set_option maxRecDepth 100000 in
theorem jw_X12_isAlike_24 {p : Program} {l : Launch} {e : Env} {s : State} {m : MethodId} {args : Array Value} {below : List Frame} {meth : Method} {c : Code} {D : xD} {ty : xTy} {h : xH} (C0 : xC D RX12 cX12_isAlike 5 (some .boolean) p s m args meth c) {r : Int32} : ∀ n : Nat, ∀ (v0 : Nat) (v1 : Int32) (v2 : Int32) (v3 : Int32) (v4 : Int32), ty v0 = some (0, 12) → jf_X12_isAlike_24 ty h n v0 v1 v2 v3 v4 = some r → ∀ (H : Heap) (locs : List Loc), xRep D ty h H → xS ty s.heap H locs → ∀ ls : Array Slot, lv_has ls 5 [(0, .ref v0), (1, .int v1), (2, .int v2), (3, .int v3), (4, .int v4)] → W p l e jr_X12_isAlike s m args below meth c H locs 0 0 (MQ below (xQ D ty (some (.int r)) h) args s 0 0 (xdom ty)) (F0 m 24 ls []) := by
  have hx := C0.1
  have hb := C0.2.1
  have hown := C0.2.2.2.2.2.1
  have hts := C0.2.2.2.2.2.2.1
  intro n
  induction n with
  | zero =>
    intro v0 v1 v2 v3 v4 t_v0 hF H locs hR hS ls hl
    cases hF
  | succ n ih =>
    intro v0 v1 v2 v3 v4 t_v0 hF H locs hR hS ls hl
    rw [jf_X12_isAlike_24_s] at hF
    refine lv_iload hx hb dX12_isAlike_24 (lv_at hl 4 rfl) ?_
    refine lv_iload_n hx hb dX12_isAlike_26 rfl (lv_at hl 3 rfl) ?_
    refine lv_icmp_ge (tgt := 59) hx hb dX12_isAlike_27 (by decide) (fun c1 => ?_) (fun c1 => ?_)
    · have hF := xif hF c1
      refine lv_iconst (v := 1) hx hb dX12_isAlike_59 (by decide) ?_
      cases hF
      exact x_zret (w := 1) C0 hR hS (by decide) dX12_isAlike_60
    · have hF := xel hF c1
      refine lv_aload_n hx hb dX12_isAlike_30 rfl (lv_at hl 0 rfl) ?_
      obtain ⟨a2, e_a2, hF⟩ := xbd hF
      refine gf_X12_53 C0 hR t_v0 e_a2 dX12_isAlike_31 ?_
      refine lv_iload_n hx hb dX12_isAlike_34 rfl (lv_at hl 1 rfl) ?_
      refine lv_iload hx hb dX12_isAlike_35 (lv_at hl 4 rfl) ?_
      refine lv_iadd hx hb dX12_isAlike_37 ?_
      obtain ⟨a3, e_a3, hF⟩ := xbd hF
      refine x_iald C0 hR e_a3 dX12_isAlike_38 ?_
      refine lv_aload_n hx hb dX12_isAlike_39 rfl (lv_at hl 0 rfl) ?_
      obtain ⟨a4, e_a4, hF⟩ := xbd hF
      refine gf_X12_53 C0 hR t_v0 e_a4 dX12_isAlike_40 ?_
      refine lv_iload_n hx hb dX12_isAlike_43 rfl (lv_at hl 2 rfl) ?_
      refine lv_iload hx hb dX12_isAlike_44 (lv_at hl 4 rfl) ?_
      refine lv_iadd hx hb dX12_isAlike_46 ?_
      obtain ⟨a5, e_a5, hF⟩ := xbd hF
      refine x_iald C0 hR e_a5 dX12_isAlike_47 ?_
      refine lv_icmp_eq (tgt := 53) hx hb dX12_isAlike_48 (by decide) (fun c6 => ?_) (fun c6 => ?_)
      · have hF := xif hF c6
        refine lv_iinc (v := v4 + 1) (lv' := [(4, .int (v4 + 1)), (0, .ref v0), (1, .int v1), (2, .int v2), (3, .int v3)]) hx hb dX12_isAlike_53 hl (k := 4) rfl rfl (by decide) rfl (fun ls hl => ?_)
        refine lv_goto (tgt := 24) hx hb dX12_isAlike_56 (by decide) ?_
        exact ih _ _ _ _ _ t_v0 hF _ _ hR hS _ (lv_sub hl [1, 2, 3, 4, 0] rfl)
      · have hF := xel hF c6
        refine lv_iconst (v := 0) hx hb dX12_isAlike_51 (by decide) ?_
        cases hF
        exact x_zret (w := 0) C0 hR hS (by decide) dX12_isAlike_52
set_option maxHeartbeats 4000000 in
set_option maxRecDepth 100000 in
theorem jc_X12_isAlike {l : Launch} {D : xD} {ty : xTy} {h : xH} {v0 : Nat} {v1 : Int32} {v2 : Int32} {r : Int32} (t_v0 : ty v0 = some (0, 12)) (hF : jf_X12_isAlike ty h v0 v1 v2 = some r) : Met l yX12_isAlike (xws yX12_isAlike cX12_isAlike 5 (some .boolean)) jr_X12_isAlike (xPc D ty h [.ref v0, .int v1, .int v2]) (xQ D ty (some (.int r)) h) 0 0 (xdom ty) := by
  refine x_met (by decide) ?_
  intro p e s m below meth c C0 hR
  generalize hargs : ([.ref v0, .int v1, .int v2] : List Value).toArray = args at C0 ⊢
  have hx := C0.1
  have hb := C0.2.1
  have hown := C0.2.2.2.2.2.1
  have hts := C0.2.2.2.2.2.2.1
  have hS : xS ty s.heap s.heap [] := xS.rf
  have hl := lv_entry ([.ref v0, .int v1, .int v2]) (n := 5) (Nat.le_of_ble_eq_true rfl)
  rw [← hargs, lg_entry_eq]
  rw [hargs]
  generalize (lg_sl ([.ref v0, .int v1, .int v2]) ++ List.replicate (5 - (lg_sl ([.ref v0, .int v1, .int v2])).length) Slot.unset).toArray = ls at hl ⊢
  have hl : lv_has ls 5 [(0, .ref v0), (1, .int v1), (2, .int v2)] := hl
  unfold jf_X12_isAlike at hF
  refine lv_aload_n hx hb dX12_isAlike_0 rfl (lv_at hl 0 rfl) ?_
  refine lv_iload_n hx hb dX12_isAlike_1 rfl (lv_at hl 1 rfl) ?_
  obtain ⟨a7, e_a7, hF⟩ := xbd hF
  refine cl_X12_241 C0 hR hS e_a7 t_v0 ⟨(Nat.le_of_ble_eq_true rfl), (Nat.le_of_ble_eq_true rfl)⟩ hl.1 (Nat.le_of_ble_eq_true rfl) ⟨(Nat.le_of_ble_eq_true rfl), (Nat.le_of_ble_eq_true rfl)⟩ dX12_isAlike_2 (fun H locs hR hS => ?_)
  refine lv_iload_n hx hb dX12_isAlike_5 rfl (lv_at hl 1 rfl) ?_
  refine lv_isub hx hb dX12_isAlike_6 ?_
  refine lv_istore_n (lv' := [(3, .int (a7 - v1)), (0, .ref v0), (1, .int v1), (2, .int v2)]) hx hb dX12_isAlike_7 rfl hl (by decide) rfl (fun ls hl => ?_)
  refine lv_aload_n hx hb dX12_isAlike_8 rfl (lv_at hl 1 rfl) ?_
  refine lv_iload_n hx hb dX12_isAlike_9 rfl (lv_at hl 3 rfl) ?_
  obtain ⟨a8, e_a8, hF⟩ := xbd hF
  refine cl_X12_241 C0 hR hS e_a8 t_v0 ⟨(Nat.le_of_ble_eq_true rfl), (Nat.le_of_ble_eq_true rfl)⟩ hl.1 (Nat.le_of_ble_eq_true rfl) ⟨(Nat.le_of_ble_eq_true rfl), (Nat.le_of_ble_eq_true rfl)⟩ dX12_isAlike_10 (fun H locs hR hS => ?_)
  refine lv_iload_n hx hb dX12_isAlike_13 rfl (lv_at hl 3 rfl) ?_
  refine lv_isub hx hb dX12_isAlike_14 ?_
  refine lv_iload_n hx hb dX12_isAlike_15 rfl (lv_at hl 0 rfl) ?_
  refine lv_icmp_eq (tgt := 21) hx hb dX12_isAlike_16 (by decide) (fun c9 => ?_) (fun c9 => ?_)
  · have hF := xif hF c9
    refine lv_iconst (v := 0) hx hb dX12_isAlike_21 (by decide) ?_
    refine lv_istore (lv' := [(4, .int 0), (3, .int (a7 - v1)), (0, .ref v0), (1, .int v1), (2, .int v2)]) hx hb dX12_isAlike_22 hl (by decide) rfl (fun ls hl => ?_)
    obtain ⟨_, hF⟩ := xlim_sp hF
    exact jw_X12_isAlike_24 C0 _ _ _ _ _ _ t_v0 hF _ _ hR hS _ (lv_sub hl [2, 3, 4, 1, 0] rfl)
  · have hF := xel hF c9
    refine lv_iconst (v := 0) hx hb dX12_isAlike_19 (by decide) ?_
    cases hF
    exact x_zret (w := 0) C0 hR hS (by decide) dX12_isAlike_20
theorem xm_X12_isAlike : xMw yX12_isAlike cX12_isAlike 5 (some .boolean) 2 := ⟨xin 1641 (by decide +kernel) rfl, xin 126 (by decide +kernel) rfl, by decide +kernel⟩
theorem xi_X12_isAlike : Cond.instanceMethod yX12_isAlike ∈ xT := xin 1640 (by decide +kernel) rfl
theorem xe_X12_isAlike : Cond.selects yX12_isAlike.cls yX12_isAlike yX12_isAlike ∈ xT := xin 80 (by decide +kernel) rfl
theorem dX12_isMade_0 : decode cX12_isMade 0 = .ok (.aload_n 0, 1) := by decide +kernel
theorem dX12_isMade_1 : decode cX12_isMade 1 = .ok (.iload_n 1, 1) := by decide +kernel
theorem dX12_isMade_2 : decode cX12_isMade 2 = .ok (.invokevirtual 241, 3) := by decide +kernel
theorem dX12_isMade_5 : decode cX12_isMade 5 = .ok (.istore_n 3, 1) := by decide +kernel
theorem dX12_isMade_6 : decode cX12_isMade 6 = .ok (.iload_n 2, 1) := by decide +kernel
theorem dX12_isMade_7 : decode cX12_isMade 7 = .ok (.istore 4, 2) := by decide +kernel
theorem dX12_isMade_9 : decode cX12_isMade 9 = .ok (.iload_n 1, 1) := by decide +kernel
theorem dX12_isMade_10 : decode cX12_isMade 10 = .ok (.istore 5, 2) := by decide +kernel
theorem dX12_isMade_12 : decode cX12_isMade 12 = .ok (.iload 5, 2) := by decide +kernel
theorem dX12_isMade_14 : decode cX12_isMade 14 = .ok (.iload_n 3, 1) := by decide +kernel
theorem dX12_isMade_15 : decode cX12_isMade 15 = .ok (.if_icmp .ge 99, 3) := by decide +kernel
theorem dX12_isMade_18 : decode cX12_isMade 18 = .ok (.aload_n 0, 1) := by decide +kernel
theorem dX12_isMade_19 : decode cX12_isMade 19 = .ok (.getfield 53, 3) := by decide +kernel
theorem dX12_isMade_22 : decode cX12_isMade 22 = .ok (.iload 5, 2) := by decide +kernel
theorem dX12_isMade_24 : decode cX12_isMade 24 = .ok (.iaload, 1) := by decide +kernel
theorem dX12_isMade_25 : decode cX12_isMade 25 = .ok (.istore 6, 2) := by decide +kernel
theorem dX12_isMade_27 : decode cX12_isMade 27 = .ok (.iload 6, 2) := by decide +kernel
theorem dX12_isMade_29 : decode cX12_isMade 29 = .ok (.bipush 100, 2) := by decide +kernel
theorem dX12_isMade_31 : decode cX12_isMade 31 = .ok (.if_icmp .ge 23, 3) := by decide +kernel
theorem dX12_isMade_34 : decode cX12_isMade 34 = .ok (.aload_n 0, 1) := by decide +kernel
theorem dX12_isMade_35 : decode cX12_isMade 35 = .ok (.getfield 53, 3) := by decide +kernel
theorem dX12_isMade_38 : decode cX12_isMade 38 = .ok (.iload 4, 2) := by decide +kernel
theorem dX12_isMade_40 : decode cX12_isMade 40 = .ok (.iaload, 1) := by decide +kernel
theorem dX12_isMade_41 : decode cX12_isMade 41 = .ok (.iload 6, 2) := by decide +kernel
theorem dX12_isMade_43 : decode cX12_isMade 43 = .ok (.if_icmp .eq 5, 3) := by decide +kernel
theorem dX12_isMade_46 : decode cX12_isMade 46 = .ok (.iconst 0, 1) := by decide +kernel
theorem dX12_isMade_47 : decode cX12_isMade 47 = .ok (.ireturn, 1) := by decide +kernel
theorem dX12_isMade_48 : decode cX12_isMade 48 = .ok (.iinc 4 1, 3) := by decide +kernel
theorem dX12_isMade_51 : decode cX12_isMade 51 = .ok (.goto 57, 3) := by decide +kernel
theorem dX12_isMade_54 : decode cX12_isMade 54 = .ok (.aload_n 0, 1) := by decide +kernel
theorem dX12_isMade_55 : decode cX12_isMade 55 = .ok (.getfield 56, 3) := by decide +kernel
theorem dX12_isMade_58 : decode cX12_isMade 58 = .ok (.iload 6, 2) := by decide +kernel
theorem dX12_isMade_60 : decode cX12_isMade 60 = .ok (.bipush 100, 2) := by decide +kernel
theorem dX12_isMade_62 : decode cX12_isMade 62 = .ok (.isub, 1) := by decide +kernel
theorem dX12_isMade_63 : decode cX12_isMade 63 = .ok (.iaload, 1) := by decide +kernel
theorem dX12_isMade_64 : decode cX12_isMade 64 = .ok (.ifCond .lt 24, 3) := by decide +kernel
theorem dX12_isMade_67 : decode cX12_isMade 67 = .ok (.aload_n 0, 1) := by decide +kernel
theorem dX12_isMade_68 : decode cX12_isMade 68 = .ok (.aload_n 0, 1) := by decide +kernel
theorem dX12_isMade_69 : decode cX12_isMade 69 = .ok (.getfield 56, 3) := by decide +kernel
theorem dX12_isMade_72 : decode cX12_isMade 72 = .ok (.iload 6, 2) := by decide +kernel
theorem dX12_isMade_74 : decode cX12_isMade 74 = .ok (.bipush 100, 2) := by decide +kernel
theorem dX12_isMade_76 : decode cX12_isMade 76 = .ok (.isub, 1) := by decide +kernel
theorem dX12_isMade_77 : decode cX12_isMade 77 = .ok (.iaload, 1) := by decide +kernel
theorem dX12_isMade_78 : decode cX12_isMade 78 = .ok (.iload 4, 2) := by decide +kernel
theorem dX12_isMade_80 : decode cX12_isMade 80 = .ok (.invokevirtual 245, 3) := by decide +kernel
theorem dX12_isMade_83 : decode cX12_isMade 83 = .ok (.ifCond .ne 5, 3) := by decide +kernel
theorem dX12_isMade_86 : decode cX12_isMade 86 = .ok (.iconst 0, 1) := by decide +kernel
theorem dX12_isMade_87 : decode cX12_isMade 87 = .ok (.ireturn, 1) := by decide +kernel
theorem dX12_isMade_88 : decode cX12_isMade 88 = .ok (.aload_n 0, 1) := by decide +kernel
theorem dX12_isMade_89 : decode cX12_isMade 89 = .ok (.getfield 56, 3) := by decide +kernel
theorem dX12_isMade_92 : decode cX12_isMade 92 = .ok (.iload 6, 2) := by decide +kernel
theorem dX12_isMade_94 : decode cX12_isMade 94 = .ok (.bipush 100, 2) := by decide +kernel
theorem dX12_isMade_96 : decode cX12_isMade 96 = .ok (.isub, 1) := by decide +kernel
theorem dX12_isMade_97 : decode cX12_isMade 97 = .ok (.iload 4, 2) := by decide +kernel
theorem dX12_isMade_99 : decode cX12_isMade 99 = .ok (.iastore, 1) := by decide +kernel
theorem dX12_isMade_100 : decode cX12_isMade 100 = .ok (.aload_n 0, 1) := by decide +kernel
theorem dX12_isMade_101 : decode cX12_isMade 101 = .ok (.iload 4, 2) := by decide +kernel
theorem dX12_isMade_103 : decode cX12_isMade 103 = .ok (.invokevirtual 241, 3) := by decide +kernel
theorem dX12_isMade_106 : decode cX12_isMade 106 = .ok (.istore 4, 2) := by decide +kernel
theorem dX12_isMade_108 : decode cX12_isMade 108 = .ok (.iinc 5 1, 3) := by decide +kernel
theorem dX12_isMade_111 : decode cX12_isMade 111 = .ok (.goto (-99), 3) := by decide +kernel
theorem dX12_isMade_114 : decode cX12_isMade 114 = .ok (.iconst 1, 1) := by decide +kernel
theorem dX12_isMade_115 : decode cX12_isMade 115 = .ok (.ireturn, 1) := by decide +kernel
theorem wl_X12_245 : Cond.methodLink RX12 245 yX12_isAlike ∈ xT := xin 1638 (by decide +kernel) rfl
section XN_X12_isMade
variable {p : Program} {l : Launch} {e : Env} {R : Room} {s : State} {m : MethodId} {args : Array Value} {below : List Frame} {meth : Method} {c : Code} {H H0 : Heap} {locs : List Loc} {cells slots : Nat} {Q : State → Prop} {cc : ByteArray} {nL pc : Nat} {rt : Option FieldType} {ls : Array Slot} {rest : List Value} {D : xD} {ty : xTy} {h : xH}
theorem cl_X12_245 {v0 : Nat} {v1 : Int32} {v2 : Int32} {r : Int32} (C0 : xC D RX12 cc nL rt p s m args meth c) (hR : xRep D ty h H) (hS : xS ty H0 H locs) (hF : jf_X12_isAlike ty h v0 v1 v2 = some r) (t_v0 : ty v0 = some (0, 12)) (hrm : jr_X12_isAlike.frames + 1 ≤ R.frames ∧ 8 + (5 + 11) + jr_X12_isAlike.locals ≤ R.locals) (hsz : ls.size = nL) (hW : (rest.map fun v => v.category).sum ≤ 8) (hf : cells ≤ R.cells ∧ slots ≤ R.slots) (hdg : decode cc pc = .ok (.invokevirtual 245, 3)) (kk : ∀ (H1 : Heap) (locs1 : List Loc), xRep D ty h H1 → xS ty H0 H1 locs1 → W p l e R s m args below meth c H1 locs1 cells slots Q (F0 m (pc + 3) ls (.int r :: rest))) : W p l e R s m args below meth c H locs cells slots Q (F0 m pc ls (.int v2 :: .int v1 :: .ref v0 :: rest)) := x_callV C0 (jc_X12_isAlike t_v0 hF) xm_X12_isAlike xi_X12_isAlike xe_X12_isAlike wl_X12_245 ⟨rfl, rfl, hrm⟩ (ci := 12) rfl t_v0 hR hS (As := [.int v1, .int v2]) rfl hsz rfl hW hdg hf kk
end XN_X12_isMade
set_option maxHeartbeats 4000000 in
set_option maxRecDepth 100000 in
theorem jw_X12_isMade_12 {p : Program} {l : Launch} {e : Env} {s : State} {m : MethodId} {args : Array Value} {below : List Frame} {meth : Method} {c : Code} {D : xD} {ty : xTy} (C0 : xC D RX12 cX12_isMade 7 (some .boolean) p s m args meth c) {r : Int32} {h9 : xH} : ∀ n : Nat, ∀ (v0 : Nat) (v3 : Int32) (v4 : Int32) (v5 : Int32) (h : xH), ty v0 = some (0, 12) → jf_X12_isMade_12 ty n v0 v3 v4 v5 h = some (r, h9) → ∀ (H : Heap) (locs : List Loc), xRep D ty h H → xS ty s.heap H locs → ∀ ls : Array Slot, lv_has ls 7 [(0, .ref v0), (3, .int v3), (4, .int v4), (5, .int v5)] → W p l e jr_X12_isMade s m args below meth c H locs 0 0 (MQ below (xQ D ty (some (.int r)) h9) args s 0 0 (xdom ty)) (F0 m 12 ls []) := by
  have hx := C0.1
  have hb := C0.2.1
  have hown := C0.2.2.2.2.2.1
  have hts := C0.2.2.2.2.2.2.1
  intro n
  induction n with
  | zero =>
    intro v0 v3 v4 v5 h t_v0 hF H locs hR hS ls hl
    cases hF
  | succ n ih =>
    intro v0 v3 v4 v5 h t_v0 hF H locs hR hS ls hl
    rw [jf_X12_isMade_12_s] at hF
    refine lv_iload hx hb dX12_isMade_12 (lv_at hl 3 rfl) ?_
    refine lv_iload_n hx hb dX12_isMade_14 rfl (lv_at hl 1 rfl) ?_
    refine lv_icmp_ge (tgt := 114) hx hb dX12_isMade_15 (by decide) (fun c1 => ?_) (fun c1 => ?_)
    · have hF := xif hF c1
      refine lv_iconst (v := 1) hx hb dX12_isMade_114 (by decide) ?_
      cases hF
      exact x_zret (w := 1) C0 hR hS (by decide) dX12_isMade_115
    · have hF := xel hF c1
      refine lv_aload_n hx hb dX12_isMade_18 rfl (lv_at hl 0 rfl) ?_
      obtain ⟨a2, e_a2, hF⟩ := xbd hF
      refine gf_X12_53 C0 hR t_v0 e_a2 dX12_isMade_19 ?_
      refine lv_iload hx hb dX12_isMade_22 (lv_at hl 3 rfl) ?_
      obtain ⟨a3, e_a3, hF⟩ := xbd hF
      refine x_iald C0 hR e_a3 dX12_isMade_24 ?_
      refine lv_istore (lv' := [(6, .int a3), (0, .ref v0), (3, .int v3), (4, .int v4), (5, .int v5)]) hx hb dX12_isMade_25 hl (by decide) rfl (fun ls hl => ?_)
      refine lv_iload hx hb dX12_isMade_27 (lv_at hl 0 rfl) ?_
      refine lv_bipush (v := 100) hx hb dX12_isMade_29 (by decide) ?_
      refine lv_icmp_ge (tgt := 54) hx hb dX12_isMade_31 (by decide) (fun c4 => ?_) (fun c4 => ?_)
      · have hF := xif hF c4
        refine lv_aload_n hx hb dX12_isMade_54 rfl (lv_at hl 1 rfl) ?_
        obtain ⟨a5, e_a5, hF⟩ := xbd hF
        refine gf_X12_56 C0 hR t_v0 e_a5 dX12_isMade_55 ?_
        refine lv_iload hx hb dX12_isMade_58 (lv_at hl 0 rfl) ?_
        refine lv_bipush (v := 100) hx hb dX12_isMade_60 (by decide) ?_
        refine lv_isub hx hb dX12_isMade_62 ?_
        obtain ⟨a6, e_a6, hF⟩ := xbd hF
        refine x_iald C0 hR e_a6 dX12_isMade_63 ?_
        refine lv_if_lt (tgt := 88) hx hb dX12_isMade_64 (by decide) (fun c7 => ?_) (fun c7 => ?_)
        · have hF := xif hF c7
          refine lv_aload_n hx hb dX12_isMade_88 rfl (lv_at hl 1 rfl) ?_
          obtain ⟨a8, e_a8, hF⟩ := xbd hF
          refine gf_X12_56 C0 hR t_v0 e_a8 dX12_isMade_89 ?_
          refine lv_iload hx hb dX12_isMade_92 (lv_at hl 0 rfl) ?_
          refine lv_bipush (v := 100) hx hb dX12_isMade_94 (by decide) ?_
          refine lv_isub hx hb dX12_isMade_96 ?_
          refine lv_iload hx hb dX12_isMade_97 (lv_at hl 3 rfl) ?_
          obtain ⟨h9, e_h9, hF⟩ := xbd hF
          refine x_iast C0 hR hS e_h9 dX12_isMade_99 (fun H locs hR hS => ?_)
          refine lv_aload_n hx hb dX12_isMade_100 rfl (lv_at hl 1 rfl) ?_
          refine lv_iload hx hb dX12_isMade_101 (lv_at hl 3 rfl) ?_
          obtain ⟨a10, e_a10, hF⟩ := xbd hF
          refine cl_X12_241 C0 hR hS e_a10 t_v0 ⟨(Nat.le_of_ble_eq_true rfl), (Nat.le_of_ble_eq_true rfl)⟩ hl.1 (Nat.le_of_ble_eq_true rfl) ⟨(Nat.le_of_ble_eq_true rfl), (Nat.le_of_ble_eq_true rfl)⟩ dX12_isMade_103 (fun H locs hR hS => ?_)
          refine lv_istore (lv' := [(4, .int a10), (6, .int a3), (0, .ref v0), (3, .int v3), (5, .int v5)]) hx hb dX12_isMade_106 hl (by decide) rfl (fun ls hl => ?_)
          refine lv_iinc (v := v5 + 1) (lv' := [(5, .int (v5 + 1)), (4, .int a10), (6, .int a3), (0, .ref v0), (3, .int v3)]) hx hb dX12_isMade_108 hl (k := 4) rfl rfl (by decide) rfl (fun ls hl => ?_)
          refine lv_goto (tgt := 12) hx hb dX12_isMade_111 (by decide) ?_
          exact ih _ _ _ _ _ t_v0 hF _ _ hR hS _ (lv_sub hl [3, 4, 1, 0] rfl)
        · have hF := xel hF c7
          refine lv_aload_n hx hb dX12_isMade_67 rfl (lv_at hl 1 rfl) ?_
          refine lv_aload_n hx hb dX12_isMade_68 rfl (lv_at hl 1 rfl) ?_
          obtain ⟨a11, e_a11, hF⟩ := xbd hF
          refine gf_X12_56 C0 hR t_v0 e_a11 dX12_isMade_69 ?_
          refine lv_iload hx hb dX12_isMade_72 (lv_at hl 0 rfl) ?_
          refine lv_bipush (v := 100) hx hb dX12_isMade_74 (by decide) ?_
          refine lv_isub hx hb dX12_isMade_76 ?_
          obtain ⟨a12, e_a12, hF⟩ := xbd hF
          refine x_iald C0 hR e_a12 dX12_isMade_77 ?_
          refine lv_iload hx hb dX12_isMade_78 (lv_at hl 3 rfl) ?_
          obtain ⟨a13, e_a13, hF⟩ := xbd hF
          refine cl_X12_245 C0 hR hS e_a13 t_v0 ⟨(Nat.le_of_ble_eq_true rfl), (Nat.le_of_ble_eq_true rfl)⟩ hl.1 (Nat.le_of_ble_eq_true rfl) ⟨(Nat.le_of_ble_eq_true rfl), (Nat.le_of_ble_eq_true rfl)⟩ dX12_isMade_80 (fun H locs hR hS => ?_)
          refine lv_if_ne (tgt := 88) hx hb dX12_isMade_83 (by decide) (fun c14 => ?_) (fun c14 => ?_)
          · have hF := xel hF c14
            refine lv_aload_n hx hb dX12_isMade_88 rfl (lv_at hl 1 rfl) ?_
            obtain ⟨a15, e_a15, hF⟩ := xbd hF
            refine gf_X12_56 C0 hR t_v0 e_a15 dX12_isMade_89 ?_
            refine lv_iload hx hb dX12_isMade_92 (lv_at hl 0 rfl) ?_
            refine lv_bipush (v := 100) hx hb dX12_isMade_94 (by decide) ?_
            refine lv_isub hx hb dX12_isMade_96 ?_
            refine lv_iload hx hb dX12_isMade_97 (lv_at hl 3 rfl) ?_
            obtain ⟨h16, e_h16, hF⟩ := xbd hF
            refine x_iast C0 hR hS e_h16 dX12_isMade_99 (fun H locs hR hS => ?_)
            refine lv_aload_n hx hb dX12_isMade_100 rfl (lv_at hl 1 rfl) ?_
            refine lv_iload hx hb dX12_isMade_101 (lv_at hl 3 rfl) ?_
            obtain ⟨a17, e_a17, hF⟩ := xbd hF
            refine cl_X12_241 C0 hR hS e_a17 t_v0 ⟨(Nat.le_of_ble_eq_true rfl), (Nat.le_of_ble_eq_true rfl)⟩ hl.1 (Nat.le_of_ble_eq_true rfl) ⟨(Nat.le_of_ble_eq_true rfl), (Nat.le_of_ble_eq_true rfl)⟩ dX12_isMade_103 (fun H locs hR hS => ?_)
            refine lv_istore (lv' := [(4, .int a17), (6, .int a3), (0, .ref v0), (3, .int v3), (5, .int v5)]) hx hb dX12_isMade_106 hl (by decide) rfl (fun ls hl => ?_)
            refine lv_iinc (v := v5 + 1) (lv' := [(5, .int (v5 + 1)), (4, .int a17), (6, .int a3), (0, .ref v0), (3, .int v3)]) hx hb dX12_isMade_108 hl (k := 4) rfl rfl (by decide) rfl (fun ls hl => ?_)
            refine lv_goto (tgt := 12) hx hb dX12_isMade_111 (by decide) ?_
            exact ih _ _ _ _ _ t_v0 hF _ _ hR hS _ (lv_sub hl [3, 4, 1, 0] rfl)
          · have hF := xif hF c14
            refine lv_iconst (v := 0) hx hb dX12_isMade_86 (by decide) ?_
            cases hF
            exact x_zret (w := 0) C0 hR hS (by decide) dX12_isMade_87
      · have hF := xel hF c4
        refine lv_aload_n hx hb dX12_isMade_34 rfl (lv_at hl 1 rfl) ?_
        obtain ⟨a18, e_a18, hF⟩ := xbd hF
        refine gf_X12_53 C0 hR t_v0 e_a18 dX12_isMade_35 ?_
        refine lv_iload hx hb dX12_isMade_38 (lv_at hl 3 rfl) ?_
        obtain ⟨a19, e_a19, hF⟩ := xbd hF
        refine x_iald C0 hR e_a19 dX12_isMade_40 ?_
        refine lv_iload hx hb dX12_isMade_41 (lv_at hl 0 rfl) ?_
        refine lv_icmp_eq (tgt := 48) hx hb dX12_isMade_43 (by decide) (fun c20 => ?_) (fun c20 => ?_)
        · have hF := xif hF c20
          refine lv_iinc (v := v4 + 1) (lv' := [(4, .int (v4 + 1)), (6, .int a3), (0, .ref v0), (3, .int v3), (5, .int v5)]) hx hb dX12_isMade_48 hl (k := 3) rfl rfl (by decide) rfl (fun ls hl => ?_)
          refine lv_goto (tgt := 108) hx hb dX12_isMade_51 (by decide) ?_
          refine lv_iinc (v := v5 + 1) (lv' := [(5, .int (v5 + 1)), (4, .int (v4 + 1)), (6, .int a3), (0, .ref v0), (3, .int v3)]) hx hb dX12_isMade_108 hl (k := 4) rfl rfl (by decide) rfl (fun ls hl => ?_)
          refine lv_goto (tgt := 12) hx hb dX12_isMade_111 (by decide) ?_
          exact ih _ _ _ _ _ t_v0 hF _ _ hR hS _ (lv_sub hl [3, 4, 1, 0] rfl)
        · have hF := xel hF c20
          refine lv_iconst (v := 0) hx hb dX12_isMade_46 (by decide) ?_
          cases hF
          exact x_zret (w := 0) C0 hR hS (by decide) dX12_isMade_47
set_option maxHeartbeats 4000000 in
set_option maxRecDepth 100000 in
theorem jc_X12_isMade {l : Launch} {D : xD} {ty : xTy} {h : xH} {v0 : Nat} {v1 : Int32} {v2 : Int32} {r : Int32} {h9 : xH} (t_v0 : ty v0 = some (0, 12)) (hF : jf_X12_isMade ty h v0 v1 v2 = some (r, h9)) : Met l yX12_isMade (xws yX12_isMade cX12_isMade 7 (some .boolean)) jr_X12_isMade (xPc D ty h [.ref v0, .int v1, .int v2]) (xQ D ty (some (.int r)) h9) 0 0 (xdom ty) := by
  refine x_met (by decide) ?_
  intro p e s m below meth c C0 hR
  generalize hargs : ([.ref v0, .int v1, .int v2] : List Value).toArray = args at C0 ⊢
  have hx := C0.1
  have hb := C0.2.1
  have hown := C0.2.2.2.2.2.1
  have hts := C0.2.2.2.2.2.2.1
  have hS : xS ty s.heap s.heap [] := xS.rf
  have hl := lv_entry ([.ref v0, .int v1, .int v2]) (n := 7) (Nat.le_of_ble_eq_true rfl)
  rw [← hargs, lg_entry_eq]
  rw [hargs]
  generalize (lg_sl ([.ref v0, .int v1, .int v2]) ++ List.replicate (7 - (lg_sl ([.ref v0, .int v1, .int v2])).length) Slot.unset).toArray = ls at hl ⊢
  have hl : lv_has ls 7 [(0, .ref v0), (1, .int v1), (2, .int v2)] := hl
  unfold jf_X12_isMade at hF
  refine lv_aload_n hx hb dX12_isMade_0 rfl (lv_at hl 0 rfl) ?_
  refine lv_iload_n hx hb dX12_isMade_1 rfl (lv_at hl 1 rfl) ?_
  obtain ⟨a21, e_a21, hF⟩ := xbd hF
  refine cl_X12_241 C0 hR hS e_a21 t_v0 ⟨(Nat.le_of_ble_eq_true rfl), (Nat.le_of_ble_eq_true rfl)⟩ hl.1 (Nat.le_of_ble_eq_true rfl) ⟨(Nat.le_of_ble_eq_true rfl), (Nat.le_of_ble_eq_true rfl)⟩ dX12_isMade_2 (fun H locs hR hS => ?_)
  refine lv_istore_n (lv' := [(3, .int a21), (0, .ref v0), (1, .int v1), (2, .int v2)]) hx hb dX12_isMade_5 rfl hl (by decide) rfl (fun ls hl => ?_)
  refine lv_iload_n hx hb dX12_isMade_6 rfl (lv_at hl 3 rfl) ?_
  refine lv_istore (lv' := [(4, .int v2), (3, .int a21), (0, .ref v0), (1, .int v1), (2, .int v2)]) hx hb dX12_isMade_7 hl (by decide) rfl (fun ls hl => ?_)
  refine lv_iload_n hx hb dX12_isMade_9 rfl (lv_at hl 3 rfl) ?_
  refine lv_istore (lv' := [(5, .int v1), (4, .int v2), (3, .int a21), (0, .ref v0), (1, .int v1), (2, .int v2)]) hx hb dX12_isMade_10 hl (by decide) rfl (fun ls hl => ?_)
  obtain ⟨_, hF⟩ := xlim_sp hF
  exact jw_X12_isMade_12 C0 _ _ _ _ _ _ t_v0 hF _ _ hR hS _ (lv_sub hl [3, 2, 1, 0] rfl)
theorem xm_X12_isMade : xMw yX12_isMade cX12_isMade 7 (some .boolean) 2 := ⟨xin 1630 (by decide +kernel) rfl, xin 126 (by decide +kernel) rfl, by decide +kernel⟩
theorem xi_X12_isMade : Cond.instanceMethod yX12_isMade ∈ xT := xin 1629 (by decide +kernel) rfl
theorem xe_X12_isMade : Cond.selects yX12_isMade.cls yX12_isMade yX12_isMade ∈ xT := xin 78 (by decide +kernel) rfl
theorem dX12_led_0 : decode cX12_led 0 = .ok (.iload_n 1, 1) := by decide +kernel
theorem dX12_led_1 : decode cX12_led 1 = .ok (.istore_n 2, 1) := by decide +kernel
theorem dX12_led_2 : decode cX12_led 2 = .ok (.aload_n 0, 1) := by decide +kernel
theorem dX12_led_3 : decode cX12_led 3 = .ok (.getfield 53, 3) := by decide +kernel
theorem dX12_led_6 : decode cX12_led 6 = .ok (.iload_n 2, 1) := by decide +kernel
theorem dX12_led_7 : decode cX12_led 7 = .ok (.iaload, 1) := by decide +kernel
theorem dX12_led_8 : decode cX12_led 8 = .ok (.bipush 100, 2) := by decide +kernel
theorem dX12_led_10 : decode cX12_led 10 = .ok (.if_icmp .lt 38, 3) := by decide +kernel
theorem dX12_led_13 : decode cX12_led 13 = .ok (.aload_n 0, 1) := by decide +kernel
theorem dX12_led_14 : decode cX12_led 14 = .ok (.getfield 56, 3) := by decide +kernel
theorem dX12_led_17 : decode cX12_led 17 = .ok (.aload_n 0, 1) := by decide +kernel
theorem dX12_led_18 : decode cX12_led 18 = .ok (.getfield 53, 3) := by decide +kernel
theorem dX12_led_21 : decode cX12_led 21 = .ok (.iload_n 2, 1) := by decide +kernel
theorem dX12_led_22 : decode cX12_led 22 = .ok (.iaload, 1) := by decide +kernel
theorem dX12_led_23 : decode cX12_led 23 = .ok (.bipush 100, 2) := by decide +kernel
theorem dX12_led_25 : decode cX12_led 25 = .ok (.isub, 1) := by decide +kernel
theorem dX12_led_26 : decode cX12_led 26 = .ok (.iaload, 1) := by decide +kernel
theorem dX12_led_27 : decode cX12_led 27 = .ok (.ifCond .lt 21, 3) := by decide +kernel
theorem dX12_led_30 : decode cX12_led 30 = .ok (.aload_n 0, 1) := by decide +kernel
theorem dX12_led_31 : decode cX12_led 31 = .ok (.getfield 56, 3) := by decide +kernel
theorem dX12_led_34 : decode cX12_led 34 = .ok (.aload_n 0, 1) := by decide +kernel
theorem dX12_led_35 : decode cX12_led 35 = .ok (.getfield 53, 3) := by decide +kernel
theorem dX12_led_38 : decode cX12_led 38 = .ok (.iload_n 2, 1) := by decide +kernel
theorem dX12_led_39 : decode cX12_led 39 = .ok (.iaload, 1) := by decide +kernel
theorem dX12_led_40 : decode cX12_led 40 = .ok (.bipush 100, 2) := by decide +kernel
theorem dX12_led_42 : decode cX12_led 42 = .ok (.isub, 1) := by decide +kernel
theorem dX12_led_43 : decode cX12_led 43 = .ok (.iaload, 1) := by decide +kernel
theorem dX12_led_44 : decode cX12_led 44 = .ok (.istore_n 2, 1) := by decide +kernel
theorem dX12_led_45 : decode cX12_led 45 = .ok (.goto (-43), 3) := by decide +kernel
theorem dX12_led_48 : decode cX12_led 48 = .ok (.iload_n 2, 1) := by decide +kernel
theorem dX12_led_49 : decode cX12_led 49 = .ok (.ireturn, 1) := by decide +kernel
set_option maxHeartbeats 4000000 in
set_option maxRecDepth 100000 in
theorem jw_X12_led_2 {p : Program} {l : Launch} {e : Env} {s : State} {m : MethodId} {args : Array Value} {below : List Frame} {meth : Method} {c : Code} {D : xD} {ty : xTy} {h : xH} (C0 : xC D RX12 cX12_led 3 (some .int) p s m args meth c) {r : Int32} : ∀ n : Nat, ∀ (v0 : Nat) (v2 : Int32), ty v0 = some (0, 12) → jf_X12_led_2 ty h n v0 v2 = some r → ∀ (H : Heap) (locs : List Loc), xRep D ty h H → xS ty s.heap H locs → ∀ ls : Array Slot, lv_has ls 3 [(0, .ref v0), (2, .int v2)] → W p l e jr_X12_led s m args below meth c H locs 0 0 (MQ below (xQ D ty (some (.int r)) h) args s 0 0 (xdom ty)) (F0 m 2 ls []) := by
  have hx := C0.1
  have hb := C0.2.1
  have hown := C0.2.2.2.2.2.1
  have hts := C0.2.2.2.2.2.2.1
  intro n
  induction n with
  | zero =>
    intro v0 v2 t_v0 hF H locs hR hS ls hl
    cases hF
  | succ n ih =>
    intro v0 v2 t_v0 hF H locs hR hS ls hl
    rw [jf_X12_led_2_s] at hF
    refine lv_aload_n hx hb dX12_led_2 rfl (lv_at hl 0 rfl) ?_
    obtain ⟨a1, e_a1, hF⟩ := xbd hF
    refine gf_X12_53 C0 hR t_v0 e_a1 dX12_led_3 ?_
    refine lv_iload_n hx hb dX12_led_6 rfl (lv_at hl 1 rfl) ?_
    obtain ⟨a2, e_a2, hF⟩ := xbd hF
    refine x_iald C0 hR e_a2 dX12_led_7 ?_
    refine lv_bipush (v := 100) hx hb dX12_led_8 (by decide) ?_
    refine lv_icmp_lt (tgt := 48) hx hb dX12_led_10 (by decide) (fun c3 => ?_) (fun c3 => ?_)
    · have hF := xif hF c3
      refine lv_iload_n hx hb dX12_led_48 rfl (lv_at hl 1 rfl) ?_
      cases hF
      exact x_iret C0 hR hS dX12_led_49
    · have hF := xel hF c3
      refine lv_aload_n hx hb dX12_led_13 rfl (lv_at hl 0 rfl) ?_
      obtain ⟨a4, e_a4, hF⟩ := xbd hF
      refine gf_X12_56 C0 hR t_v0 e_a4 dX12_led_14 ?_
      refine lv_aload_n hx hb dX12_led_17 rfl (lv_at hl 0 rfl) ?_
      obtain ⟨a5, e_a5, hF⟩ := xbd hF
      refine gf_X12_53 C0 hR t_v0 e_a5 dX12_led_18 ?_
      refine lv_iload_n hx hb dX12_led_21 rfl (lv_at hl 1 rfl) ?_
      obtain ⟨a6, e_a6, hF⟩ := xbd hF
      refine x_iald C0 hR e_a6 dX12_led_22 ?_
      refine lv_bipush (v := 100) hx hb dX12_led_23 (by decide) ?_
      refine lv_isub hx hb dX12_led_25 ?_
      obtain ⟨a7, e_a7, hF⟩ := xbd hF
      refine x_iald C0 hR e_a7 dX12_led_26 ?_
      refine lv_if_lt (tgt := 48) hx hb dX12_led_27 (by decide) (fun c8 => ?_) (fun c8 => ?_)
      · have hF := xif hF c8
        refine lv_iload_n hx hb dX12_led_48 rfl (lv_at hl 1 rfl) ?_
        cases hF
        exact x_iret C0 hR hS dX12_led_49
      · have hF := xel hF c8
        refine lv_aload_n hx hb dX12_led_30 rfl (lv_at hl 0 rfl) ?_
        obtain ⟨a9, e_a9, hF⟩ := xbd hF
        refine gf_X12_56 C0 hR t_v0 e_a9 dX12_led_31 ?_
        refine lv_aload_n hx hb dX12_led_34 rfl (lv_at hl 0 rfl) ?_
        obtain ⟨a10, e_a10, hF⟩ := xbd hF
        refine gf_X12_53 C0 hR t_v0 e_a10 dX12_led_35 ?_
        refine lv_iload_n hx hb dX12_led_38 rfl (lv_at hl 1 rfl) ?_
        obtain ⟨a11, e_a11, hF⟩ := xbd hF
        refine x_iald C0 hR e_a11 dX12_led_39 ?_
        refine lv_bipush (v := 100) hx hb dX12_led_40 (by decide) ?_
        refine lv_isub hx hb dX12_led_42 ?_
        obtain ⟨a12, e_a12, hF⟩ := xbd hF
        refine x_iald C0 hR e_a12 dX12_led_43 ?_
        refine lv_istore_n (lv' := [(2, .int a12), (0, .ref v0)]) hx hb dX12_led_44 rfl hl (by decide) rfl (fun ls hl => ?_)
        refine lv_goto (tgt := 2) hx hb dX12_led_45 (by decide) ?_
        exact ih _ _ t_v0 hF _ _ hR hS _ (lv_sub hl [1, 0] rfl)
set_option maxHeartbeats 4000000 in
set_option maxRecDepth 100000 in
theorem jc_X12_led {l : Launch} {D : xD} {ty : xTy} {h : xH} {v0 : Nat} {v1 : Int32} {r : Int32} (t_v0 : ty v0 = some (0, 12)) (hF : jf_X12_led ty h v0 v1 = some r) : Met l yX12_led (xws yX12_led cX12_led 3 (some .int)) jr_X12_led (xPc D ty h [.ref v0, .int v1]) (xQ D ty (some (.int r)) h) 0 0 (xdom ty) := by
  refine x_met (by decide) ?_
  intro p e s m below meth c C0 hR
  generalize hargs : ([.ref v0, .int v1] : List Value).toArray = args at C0 ⊢
  have hx := C0.1
  have hb := C0.2.1
  have hown := C0.2.2.2.2.2.1
  have hts := C0.2.2.2.2.2.2.1
  have hS : xS ty s.heap s.heap [] := xS.rf
  have hl := lv_entry ([.ref v0, .int v1]) (n := 3) (Nat.le_of_ble_eq_true rfl)
  rw [← hargs, lg_entry_eq]
  rw [hargs]
  generalize (lg_sl ([.ref v0, .int v1]) ++ List.replicate (3 - (lg_sl ([.ref v0, .int v1])).length) Slot.unset).toArray = ls at hl ⊢
  have hl : lv_has ls 3 [(0, .ref v0), (1, .int v1)] := hl
  unfold jf_X12_led at hF
  refine lv_iload_n hx hb dX12_led_0 rfl (lv_at hl 1 rfl) ?_
  refine lv_istore_n (lv' := [(2, .int v1), (0, .ref v0), (1, .int v1)]) hx hb dX12_led_1 rfl hl (by decide) rfl (fun ls hl => ?_)
  obtain ⟨_, hF⟩ := xlim_sp hF
  exact jw_X12_led_2 C0 _ _ _ t_v0 hF _ _ hR hS _ (lv_sub hl [1, 0] rfl)
theorem xm_X12_led : xMw yX12_led cX12_led 3 (some .int) 1 := ⟨xin 1649 (by decide +kernel) rfl, xin 126 (by decide +kernel) rfl, by decide +kernel⟩
theorem xi_X12_led : Cond.instanceMethod yX12_led ∈ xT := xin 1648 (by decide +kernel) rfl
theorem xe_X12_led : Cond.selects yX12_led.cls yX12_led yX12_led ∈ xT := xin 82 (by decide +kernel) rfl
theorem dX12_isWithin_0 : decode cX12_isWithin 0 = .ok (.iconst 1, 1) := by decide +kernel
theorem dX12_isWithin_1 : decode cX12_isWithin 1 = .ok (.istore_n 3, 1) := by decide +kernel
theorem dX12_isWithin_2 : decode cX12_isWithin 2 = .ok (.aload_n 0, 1) := by decide +kernel
theorem dX12_isWithin_3 : decode cX12_isWithin 3 = .ok (.getfield 65, 3) := by decide +kernel
theorem dX12_isWithin_6 : decode cX12_isWithin 6 = .ok (.iconst 0, 1) := by decide +kernel
theorem dX12_isWithin_7 : decode cX12_isWithin 7 = .ok (.iload_n 2, 1) := by decide +kernel
theorem dX12_isWithin_8 : decode cX12_isWithin 8 = .ok (.iastore, 1) := by decide +kernel
theorem dX12_isWithin_9 : decode cX12_isWithin 9 = .ok (.iload_n 3, 1) := by decide +kernel
theorem dX12_isWithin_10 : decode cX12_isWithin 10 = .ok (.ifCond .le 84, 3) := by decide +kernel
theorem dX12_isWithin_13 : decode cX12_isWithin 13 = .ok (.iinc 3 (-1), 3) := by decide +kernel
theorem dX12_isWithin_16 : decode cX12_isWithin 16 = .ok (.aload_n 0, 1) := by decide +kernel
theorem dX12_isWithin_17 : decode cX12_isWithin 17 = .ok (.aload_n 0, 1) := by decide +kernel
theorem dX12_isWithin_18 : decode cX12_isWithin 18 = .ok (.getfield 65, 3) := by decide +kernel
theorem dX12_isWithin_21 : decode cX12_isWithin 21 = .ok (.iload_n 3, 1) := by decide +kernel
theorem dX12_isWithin_22 : decode cX12_isWithin 22 = .ok (.iaload, 1) := by decide +kernel
theorem dX12_isWithin_23 : decode cX12_isWithin 23 = .ok (.invokevirtual 248, 3) := by decide +kernel
theorem dX12_isWithin_26 : decode cX12_isWithin 26 = .ok (.istore 4, 2) := by decide +kernel
theorem dX12_isWithin_28 : decode cX12_isWithin 28 = .ok (.aload_n 0, 1) := by decide +kernel
theorem dX12_isWithin_29 : decode cX12_isWithin 29 = .ok (.getfield 53, 3) := by decide +kernel
theorem dX12_isWithin_32 : decode cX12_isWithin 32 = .ok (.iload 4, 2) := by decide +kernel
theorem dX12_isWithin_34 : decode cX12_isWithin 34 = .ok (.iaload, 1) := by decide +kernel
theorem dX12_isWithin_35 : decode cX12_isWithin 35 = .ok (.iload_n 1, 1) := by decide +kernel
theorem dX12_isWithin_36 : decode cX12_isWithin 36 = .ok (.if_icmp .ne 5, 3) := by decide +kernel
theorem dX12_isWithin_39 : decode cX12_isWithin 39 = .ok (.iconst 1, 1) := by decide +kernel
theorem dX12_isWithin_40 : decode cX12_isWithin 40 = .ok (.ireturn, 1) := by decide +kernel
theorem dX12_isWithin_41 : decode cX12_isWithin 41 = .ok (.iload 4, 2) := by decide +kernel
theorem dX12_isWithin_43 : decode cX12_isWithin 43 = .ok (.iconst 1, 1) := by decide +kernel
theorem dX12_isWithin_44 : decode cX12_isWithin 44 = .ok (.iadd, 1) := by decide +kernel
theorem dX12_isWithin_45 : decode cX12_isWithin 45 = .ok (.istore 5, 2) := by decide +kernel
theorem dX12_isWithin_47 : decode cX12_isWithin 47 = .ok (.iconst 0, 1) := by decide +kernel
theorem dX12_isWithin_48 : decode cX12_isWithin 48 = .ok (.istore 6, 2) := by decide +kernel
theorem dX12_isWithin_50 : decode cX12_isWithin 50 = .ok (.iload 6, 2) := by decide +kernel
theorem dX12_isWithin_52 : decode cX12_isWithin 52 = .ok (.aload_n 0, 1) := by decide +kernel
theorem dX12_isWithin_53 : decode cX12_isWithin 53 = .ok (.aload_n 0, 1) := by decide +kernel
theorem dX12_isWithin_54 : decode cX12_isWithin 54 = .ok (.getfield 53, 3) := by decide +kernel
theorem dX12_isWithin_57 : decode cX12_isWithin 57 = .ok (.iload 4, 2) := by decide +kernel
theorem dX12_isWithin_59 : decode cX12_isWithin 59 = .ok (.iaload, 1) := by decide +kernel
theorem dX12_isWithin_60 : decode cX12_isWithin 60 = .ok (.invokevirtual 251, 3) := by decide +kernel
theorem dX12_isWithin_63 : decode cX12_isWithin 63 = .ok (.if_icmp .ge 28, 3) := by decide +kernel
theorem dX12_isWithin_66 : decode cX12_isWithin 66 = .ok (.aload_n 0, 1) := by decide +kernel
theorem dX12_isWithin_67 : decode cX12_isWithin 67 = .ok (.getfield 65, 3) := by decide +kernel
theorem dX12_isWithin_70 : decode cX12_isWithin 70 = .ok (.iload_n 3, 1) := by decide +kernel
theorem dX12_isWithin_71 : decode cX12_isWithin 71 = .ok (.iload 5, 2) := by decide +kernel
theorem dX12_isWithin_73 : decode cX12_isWithin 73 = .ok (.iastore, 1) := by decide +kernel
theorem dX12_isWithin_74 : decode cX12_isWithin 74 = .ok (.iinc 3 1, 3) := by decide +kernel
theorem dX12_isWithin_77 : decode cX12_isWithin 77 = .ok (.aload_n 0, 1) := by decide +kernel
theorem dX12_isWithin_78 : decode cX12_isWithin 78 = .ok (.iload 5, 2) := by decide +kernel
theorem dX12_isWithin_80 : decode cX12_isWithin 80 = .ok (.invokevirtual 241, 3) := by decide +kernel
theorem dX12_isWithin_83 : decode cX12_isWithin 83 = .ok (.istore 5, 2) := by decide +kernel
theorem dX12_isWithin_85 : decode cX12_isWithin 85 = .ok (.iinc 6 1, 3) := by decide +kernel
theorem dX12_isWithin_88 : decode cX12_isWithin 88 = .ok (.goto (-38), 3) := by decide +kernel
theorem dX12_isWithin_91 : decode cX12_isWithin 91 = .ok (.goto (-82), 3) := by decide +kernel
theorem dX12_isWithin_94 : decode cX12_isWithin 94 = .ok (.iconst 0, 1) := by decide +kernel
theorem dX12_isWithin_95 : decode cX12_isWithin 95 = .ok (.ireturn, 1) := by decide +kernel
theorem wl_X12_248 : Cond.methodLink RX12 248 yX12_led ∈ xT := xin 1646 (by decide +kernel) rfl
theorem wl_X12_251 : Cond.methodLink RX12 251 yX12_manyOf ∈ xT := xin 1654 (by decide +kernel) rfl
theorem wf_X12_65 : Cond.fieldLink RX12 65 "TermShelfModel" "waitC" "[I" ∈ xT := xin 1349 (by decide +kernel) rfl
section XN_X12_isWithin
variable {p : Program} {l : Launch} {e : Env} {R : Room} {s : State} {m : MethodId} {args : Array Value} {below : List Frame} {meth : Method} {c : Code} {H H0 : Heap} {locs : List Loc} {cells slots : Nat} {Q : State → Prop} {cc : ByteArray} {nL pc : Nat} {rt : Option FieldType} {ls : Array Slot} {rest : List Value} {D : xD} {ty : xTy} {h : xH}
theorem cl_X12_248 {v0 : Nat} {v1 : Int32} {r : Int32} (C0 : xC D RX12 cc nL rt p s m args meth c) (hR : xRep D ty h H) (hS : xS ty H0 H locs) (hF : jf_X12_led ty h v0 v1 = some r) (t_v0 : ty v0 = some (0, 12)) (hrm : jr_X12_led.frames + 1 ≤ R.frames ∧ 8 + (3 + 11) + jr_X12_led.locals ≤ R.locals) (hsz : ls.size = nL) (hW : (rest.map fun v => v.category).sum ≤ 8) (hf : cells ≤ R.cells ∧ slots ≤ R.slots) (hdg : decode cc pc = .ok (.invokevirtual 248, 3)) (kk : ∀ (H1 : Heap) (locs1 : List Loc), xRep D ty h H1 → xS ty H0 H1 locs1 → W p l e R s m args below meth c H1 locs1 cells slots Q (F0 m (pc + 3) ls (.int r :: rest))) : W p l e R s m args below meth c H locs cells slots Q (F0 m pc ls (.int v1 :: .ref v0 :: rest)) := x_callV C0 (jc_X12_led t_v0 hF) xm_X12_led xi_X12_led xe_X12_led wl_X12_248 ⟨rfl, rfl, hrm⟩ (ci := 12) rfl t_v0 hR hS (As := [.int v1]) rfl hsz rfl hW hdg hf kk
theorem cl_X12_251 {v0 : Nat} {v1 : Int32} {r : Int32} (C0 : xC D RX12 cc nL rt p s m args meth c) (hR : xRep D ty h H) (hS : xS ty H0 H locs) (hF : jf_X12_manyOf ty h v0 v1 = some r) (t_v0 : ty v0 = some (0, 12)) (hrm : jr_X12_manyOf.frames + 1 ≤ R.frames ∧ 8 + (2 + 11) + jr_X12_manyOf.locals ≤ R.locals) (hsz : ls.size = nL) (hW : (rest.map fun v => v.category).sum ≤ 8) (hf : cells ≤ R.cells ∧ slots ≤ R.slots) (hdg : decode cc pc = .ok (.invokevirtual 251, 3)) (kk : ∀ (H1 : Heap) (locs1 : List Loc), xRep D ty h H1 → xS ty H0 H1 locs1 → W p l e R s m args below meth c H1 locs1 cells slots Q (F0 m (pc + 3) ls (.int r :: rest))) : W p l e R s m args below meth c H locs cells slots Q (F0 m pc ls (.int v1 :: .ref v0 :: rest)) := x_callV C0 (jc_X12_manyOf t_v0 hF) xm_X12_manyOf xi_X12_manyOf xe_X12_manyOf wl_X12_251 ⟨rfl, rfl, hrm⟩ (ci := 12) rfl t_v0 hR hS (As := [.int v1]) rfl hsz rfl hW hdg hf kk
theorem gf_X12_65 {a : Nat} (C0 : xC D RX12 cc nL rt p s m args meth c) (hR : xRep D ty h H) (ht : ty a = some (0, 12)) {v : Nat} (hv : xR h a 37 = some v) (hdg : decode cc pc = .ok (.getfield 65, 3)) (kk : W p l e R s m args below meth c H locs cells slots Q (F0 m (pc + 3) ls (.ref v :: rest))) : W p l e R s m args below meth c H locs cells slots Q (F0 m pc ls (.ref a :: rest)) := x_get C0 hR (ci := 12) (k := 37) (N := 60) (T := TX12) rfl iX12 (by decide) rfl wf_X12_65 (by show va_rf (xR h a 37) = _; rw [hv]; rfl) ht hdg kk
end XN_X12_isWithin
set_option maxHeartbeats 4000000 in
set_option maxRecDepth 100000 in
theorem jw_X12_isWithin_50 {p : Program} {l : Launch} {e : Env} {s : State} {m : MethodId} {args : Array Value} {below : List Frame} {meth : Method} {c : Code} {D : xD} {ty : xTy} {k9 : Nat → Int32 → Int32 → xH → Option (Int32 × xH)} (C0 : xC D RX12 cX12_isWithin 7 (some .boolean) p s m args meth c) {r : Int32} {h9 : xH} (hk9 : ∀ (v0 : Nat) (v1 : Int32) (v3 : Int32) (h : xH), ty v0 = some (0, 12) → k9 v0 v1 v3 h = some (r, h9) → ∀ (H : Heap) (locs : List Loc), xRep D ty h H → xS ty s.heap H locs → ∀ ls : Array Slot, lv_has ls 7 [(0, .ref v0), (1, .int v1), (3, .int v3)] → W p l e jr_X12_isWithin s m args below meth c H locs 0 0 (MQ below (xQ D ty (some (.int r)) h9) args s 0 0 (xdom ty)) (F0 m 9 ls [])) : ∀ n : Nat, ∀ (v0 : Nat) (v1 : Int32) (v3 : Int32) (v4 : Int32) (v5 : Int32) (v6 : Int32) (h : xH), ty v0 = some (0, 12) → jf_X12_isWithin_50 ty k9 n v0 v1 v3 v4 v5 v6 h = some (r, h9) → ∀ (H : Heap) (locs : List Loc), xRep D ty h H → xS ty s.heap H locs → ∀ ls : Array Slot, lv_has ls 7 [(0, .ref v0), (1, .int v1), (3, .int v3), (4, .int v4), (5, .int v5), (6, .int v6)] → W p l e jr_X12_isWithin s m args below meth c H locs 0 0 (MQ below (xQ D ty (some (.int r)) h9) args s 0 0 (xdom ty)) (F0 m 50 ls []) := by
  have hx := C0.1
  have hb := C0.2.1
  have hown := C0.2.2.2.2.2.1
  have hts := C0.2.2.2.2.2.2.1
  intro n
  induction n with
  | zero =>
    intro v0 v1 v3 v4 v5 v6 h t_v0 hF H locs hR hS ls hl
    cases hF
  | succ n ih =>
    intro v0 v1 v3 v4 v5 v6 h t_v0 hF H locs hR hS ls hl
    rw [jf_X12_isWithin_50_s] at hF
    refine lv_iload hx hb dX12_isWithin_50 (lv_at hl 5 rfl) ?_
    refine lv_aload_n hx hb dX12_isWithin_52 rfl (lv_at hl 0 rfl) ?_
    refine lv_aload_n hx hb dX12_isWithin_53 rfl (lv_at hl 0 rfl) ?_
    obtain ⟨a1, e_a1, hF⟩ := xbd hF
    refine gf_X12_53 C0 hR t_v0 e_a1 dX12_isWithin_54 ?_
    refine lv_iload hx hb dX12_isWithin_57 (lv_at hl 3 rfl) ?_
    obtain ⟨a2, e_a2, hF⟩ := xbd hF
    refine x_iald C0 hR e_a2 dX12_isWithin_59 ?_
    obtain ⟨a3, e_a3, hF⟩ := xbd hF
    refine cl_X12_251 C0 hR hS e_a3 t_v0 ⟨(Nat.le_of_ble_eq_true rfl), (Nat.le_of_ble_eq_true rfl)⟩ hl.1 (Nat.le_of_ble_eq_true rfl) ⟨(Nat.le_of_ble_eq_true rfl), (Nat.le_of_ble_eq_true rfl)⟩ dX12_isWithin_60 (fun H locs hR hS => ?_)
    refine lv_icmp_ge (tgt := 91) hx hb dX12_isWithin_63 (by decide) (fun c4 => ?_) (fun c4 => ?_)
    · have hF := xif hF c4
      refine lv_goto (tgt := 9) hx hb dX12_isWithin_91 (by decide) ?_
      exact hk9 _ _ _ _ t_v0 hF _ _ hR hS _ (lv_sub hl [0, 1, 2] rfl)
    · have hF := xel hF c4
      refine lv_aload_n hx hb dX12_isWithin_66 rfl (lv_at hl 0 rfl) ?_
      obtain ⟨a5, e_a5, hF⟩ := xbd hF
      refine gf_X12_65 C0 hR t_v0 e_a5 dX12_isWithin_67 ?_
      refine lv_iload_n hx hb dX12_isWithin_70 rfl (lv_at hl 2 rfl) ?_
      refine lv_iload hx hb dX12_isWithin_71 (lv_at hl 4 rfl) ?_
      obtain ⟨h6, e_h6, hF⟩ := xbd hF
      refine x_iast C0 hR hS e_h6 dX12_isWithin_73 (fun H locs hR hS => ?_)
      refine lv_iinc (v := v3 + 1) (lv' := [(3, .int (v3 + 1)), (0, .ref v0), (1, .int v1), (4, .int v4), (5, .int v5), (6, .int v6)]) hx hb dX12_isWithin_74 hl (k := 2) rfl rfl (by decide) rfl (fun ls hl => ?_)
      refine lv_aload_n hx hb dX12_isWithin_77 rfl (lv_at hl 1 rfl) ?_
      refine lv_iload hx hb dX12_isWithin_78 (lv_at hl 4 rfl) ?_
      obtain ⟨a7, e_a7, hF⟩ := xbd hF
      refine cl_X12_241 C0 hR hS e_a7 t_v0 ⟨(Nat.le_of_ble_eq_true rfl), (Nat.le_of_ble_eq_true rfl)⟩ hl.1 (Nat.le_of_ble_eq_true rfl) ⟨(Nat.le_of_ble_eq_true rfl), (Nat.le_of_ble_eq_true rfl)⟩ dX12_isWithin_80 (fun H locs hR hS => ?_)
      refine lv_istore (lv' := [(5, .int a7), (3, .int (v3 + 1)), (0, .ref v0), (1, .int v1), (4, .int v4), (6, .int v6)]) hx hb dX12_isWithin_83 hl (by decide) rfl (fun ls hl => ?_)
      refine lv_iinc (v := v6 + 1) (lv' := [(6, .int (v6 + 1)), (5, .int a7), (3, .int (v3 + 1)), (0, .ref v0), (1, .int v1), (4, .int v4)]) hx hb dX12_isWithin_85 hl (k := 5) rfl rfl (by decide) rfl (fun ls hl => ?_)
      refine lv_goto (tgt := 50) hx hb dX12_isWithin_88 (by decide) ?_
      exact ih _ _ _ _ _ _ _ t_v0 hF _ _ hR hS _ (lv_sub hl [3, 4, 2, 5, 1, 0] rfl)
set_option maxHeartbeats 4000000 in
set_option maxRecDepth 100000 in
theorem jw_X12_isWithin_9 {p : Program} {l : Launch} {e : Env} {s : State} {m : MethodId} {args : Array Value} {below : List Frame} {meth : Method} {c : Code} {D : xD} {ty : xTy} (C0 : xC D RX12 cX12_isWithin 7 (some .boolean) p s m args meth c) {r : Int32} {h9 : xH} : ∀ n : Nat, ∀ (v0 : Nat) (v1 : Int32) (v3 : Int32) (h : xH), ty v0 = some (0, 12) → jf_X12_isWithin_9 ty n v0 v1 v3 h = some (r, h9) → ∀ (H : Heap) (locs : List Loc), xRep D ty h H → xS ty s.heap H locs → ∀ ls : Array Slot, lv_has ls 7 [(0, .ref v0), (1, .int v1), (3, .int v3)] → W p l e jr_X12_isWithin s m args below meth c H locs 0 0 (MQ below (xQ D ty (some (.int r)) h9) args s 0 0 (xdom ty)) (F0 m 9 ls []) := by
  have hx := C0.1
  have hb := C0.2.1
  have hown := C0.2.2.2.2.2.1
  have hts := C0.2.2.2.2.2.2.1
  intro n
  induction n with
  | zero =>
    intro v0 v1 v3 h t_v0 hF H locs hR hS ls hl
    cases hF
  | succ n ih =>
    intro v0 v1 v3 h t_v0 hF H locs hR hS ls hl
    rw [jf_X12_isWithin_9_s] at hF
    refine lv_iload_n hx hb dX12_isWithin_9 rfl (lv_at hl 2 rfl) ?_
    refine lv_if_le (tgt := 94) hx hb dX12_isWithin_10 (by decide) (fun c8 => ?_) (fun c8 => ?_)
    · have hF := xif hF c8
      refine lv_iconst (v := 0) hx hb dX12_isWithin_94 (by decide) ?_
      cases hF
      exact x_zret (w := 0) C0 hR hS (by decide) dX12_isWithin_95
    · have hF := xel hF c8
      refine lv_iinc (v := v3 + (-1)) (lv' := [(3, .int (v3 + (-1))), (0, .ref v0), (1, .int v1)]) hx hb dX12_isWithin_13 hl (k := 2) rfl rfl (by decide) rfl (fun ls hl => ?_)
      refine lv_aload_n hx hb dX12_isWithin_16 rfl (lv_at hl 1 rfl) ?_
      refine lv_aload_n hx hb dX12_isWithin_17 rfl (lv_at hl 1 rfl) ?_
      obtain ⟨a9, e_a9, hF⟩ := xbd hF
      refine gf_X12_65 C0 hR t_v0 e_a9 dX12_isWithin_18 ?_
      refine lv_iload_n hx hb dX12_isWithin_21 rfl (lv_at hl 0 rfl) ?_
      obtain ⟨a10, e_a10, hF⟩ := xbd hF
      refine x_iald C0 hR e_a10 dX12_isWithin_22 ?_
      obtain ⟨a11, e_a11, hF⟩ := xbd hF
      refine cl_X12_248 C0 hR hS e_a11 t_v0 ⟨(Nat.le_of_ble_eq_true rfl), (Nat.le_of_ble_eq_true rfl)⟩ hl.1 (Nat.le_of_ble_eq_true rfl) ⟨(Nat.le_of_ble_eq_true rfl), (Nat.le_of_ble_eq_true rfl)⟩ dX12_isWithin_23 (fun H locs hR hS => ?_)
      refine lv_istore (lv' := [(4, .int a11), (3, .int (v3 + (-1))), (0, .ref v0), (1, .int v1)]) hx hb dX12_isWithin_26 hl (by decide) rfl (fun ls hl => ?_)
      refine lv_aload_n hx hb dX12_isWithin_28 rfl (lv_at hl 2 rfl) ?_
      obtain ⟨a12, e_a12, hF⟩ := xbd hF
      refine gf_X12_53 C0 hR t_v0 e_a12 dX12_isWithin_29 ?_
      refine lv_iload hx hb dX12_isWithin_32 (lv_at hl 0 rfl) ?_
      obtain ⟨a13, e_a13, hF⟩ := xbd hF
      refine x_iald C0 hR e_a13 dX12_isWithin_34 ?_
      refine lv_iload_n hx hb dX12_isWithin_35 rfl (lv_at hl 3 rfl) ?_
      refine lv_icmp_ne (tgt := 41) hx hb dX12_isWithin_36 (by decide) (fun c14 => ?_) (fun c14 => ?_)
      · have hF := xel hF c14
        refine lv_iload hx hb dX12_isWithin_41 (lv_at hl 0 rfl) ?_
        refine lv_iconst (v := 1) hx hb dX12_isWithin_43 (by decide) ?_
        refine lv_iadd hx hb dX12_isWithin_44 ?_
        refine lv_istore (lv' := [(5, .int (a11 + 1)), (4, .int a11), (3, .int (v3 + (-1))), (0, .ref v0), (1, .int v1)]) hx hb dX12_isWithin_45 hl (by decide) rfl (fun ls hl => ?_)
        refine lv_iconst (v := 0) hx hb dX12_isWithin_47 (by decide) ?_
        refine lv_istore (lv' := [(6, .int 0), (5, .int (a11 + 1)), (4, .int a11), (3, .int (v3 + (-1))), (0, .ref v0), (1, .int v1)]) hx hb dX12_isWithin_48 hl (by decide) rfl (fun ls hl => ?_)
        obtain ⟨_, hF⟩ := xlim_sp hF
        exact jw_X12_isWithin_50 C0 ih _ _ _ _ _ _ _ _ t_v0 hF _ _ hR hS _ (lv_sub hl [4, 5, 3, 2, 1, 0] rfl)
      · have hF := xif hF c14
        refine lv_iconst (v := 1) hx hb dX12_isWithin_39 (by decide) ?_
        cases hF
        exact x_zret (w := 1) C0 hR hS (by decide) dX12_isWithin_40
set_option maxHeartbeats 4000000 in
set_option maxRecDepth 100000 in
theorem jc_X12_isWithin {l : Launch} {D : xD} {ty : xTy} {h : xH} {v0 : Nat} {v1 : Int32} {v2 : Int32} {r : Int32} {h9 : xH} (t_v0 : ty v0 = some (0, 12)) (hF : jf_X12_isWithin ty h v0 v1 v2 = some (r, h9)) : Met l yX12_isWithin (xws yX12_isWithin cX12_isWithin 7 (some .boolean)) jr_X12_isWithin (xPc D ty h [.ref v0, .int v1, .int v2]) (xQ D ty (some (.int r)) h9) 0 0 (xdom ty) := by
  refine x_met (by decide) ?_
  intro p e s m below meth c C0 hR
  generalize hargs : ([.ref v0, .int v1, .int v2] : List Value).toArray = args at C0 ⊢
  have hx := C0.1
  have hb := C0.2.1
  have hown := C0.2.2.2.2.2.1
  have hts := C0.2.2.2.2.2.2.1
  have hS : xS ty s.heap s.heap [] := xS.rf
  have hl := lv_entry ([.ref v0, .int v1, .int v2]) (n := 7) (Nat.le_of_ble_eq_true rfl)
  rw [← hargs, lg_entry_eq]
  rw [hargs]
  generalize (lg_sl ([.ref v0, .int v1, .int v2]) ++ List.replicate (7 - (lg_sl ([.ref v0, .int v1, .int v2])).length) Slot.unset).toArray = ls at hl ⊢
  have hl : lv_has ls 7 [(0, .ref v0), (1, .int v1), (2, .int v2)] := hl
  unfold jf_X12_isWithin at hF
  refine lv_iconst (v := 1) hx hb dX12_isWithin_0 (by decide) ?_
  refine lv_istore_n (lv' := [(3, .int 1), (0, .ref v0), (1, .int v1), (2, .int v2)]) hx hb dX12_isWithin_1 rfl hl (by decide) rfl (fun ls hl => ?_)
  refine lv_aload_n hx hb dX12_isWithin_2 rfl (lv_at hl 1 rfl) ?_
  obtain ⟨a15, e_a15, hF⟩ := xbd hF
  refine gf_X12_65 C0 hR t_v0 e_a15 dX12_isWithin_3 ?_
  refine lv_iconst (v := 0) hx hb dX12_isWithin_6 (by decide) ?_
  refine lv_iload_n hx hb dX12_isWithin_7 rfl (lv_at hl 3 rfl) ?_
  obtain ⟨h16, e_h16, hF⟩ := xbd hF
  refine x_iast C0 hR hS e_h16 dX12_isWithin_8 (fun H locs hR hS => ?_)
  obtain ⟨_, hF⟩ := xlim_sp hF
  exact jw_X12_isWithin_9 C0 _ _ _ _ _ t_v0 hF _ _ hR hS _ (lv_sub hl [1, 2, 0] rfl)
theorem xm_X12_isWithin : xMw yX12_isWithin cX12_isWithin 7 (some .boolean) 2 := ⟨xin 1653 (by decide +kernel) rfl, xin 126 (by decide +kernel) rfl, by decide +kernel⟩
theorem xi_X12_isWithin : Cond.instanceMethod yX12_isWithin ∈ xT := xin 1652 (by decide +kernel) rfl
theorem xe_X12_isWithin : Cond.selects yX12_isWithin.cls yX12_isWithin yX12_isWithin ∈ xT := xin 83 (by decide +kernel) rfl
theorem dX12_isUnified_0 : decode cX12_isUnified 0 = .ok (.iconst 1, 1) := by decide +kernel
theorem dX12_isUnified_1 : decode cX12_isUnified 1 = .ok (.istore_n 3, 1) := by decide +kernel
theorem dX12_isUnified_2 : decode cX12_isUnified 2 = .ok (.aload_n 0, 1) := by decide +kernel
theorem dX12_isUnified_3 : decode cX12_isUnified 3 = .ok (.getfield 59, 3) := by decide +kernel
theorem dX12_isUnified_6 : decode cX12_isUnified 6 = .ok (.iconst 0, 1) := by decide +kernel
theorem dX12_isUnified_7 : decode cX12_isUnified 7 = .ok (.iload_n 1, 1) := by decide +kernel
theorem dX12_isUnified_8 : decode cX12_isUnified 8 = .ok (.iastore, 1) := by decide +kernel
theorem dX12_isUnified_9 : decode cX12_isUnified 9 = .ok (.aload_n 0, 1) := by decide +kernel
theorem dX12_isUnified_10 : decode cX12_isUnified 10 = .ok (.getfield 62, 3) := by decide +kernel
theorem dX12_isUnified_13 : decode cX12_isUnified 13 = .ok (.iconst 0, 1) := by decide +kernel
theorem dX12_isUnified_14 : decode cX12_isUnified 14 = .ok (.iload_n 2, 1) := by decide +kernel
theorem dX12_isUnified_15 : decode cX12_isUnified 15 = .ok (.iastore, 1) := by decide +kernel
theorem dX12_isUnified_16 : decode cX12_isUnified 16 = .ok (.iload_n 3, 1) := by decide +kernel
theorem dX12_isUnified_17 : decode cX12_isUnified 17 = .ok (.ifCond .le 242, 3) := by decide +kernel
theorem dX12_isUnified_20 : decode cX12_isUnified 20 = .ok (.iinc 3 (-1), 3) := by decide +kernel
theorem dX12_isUnified_23 : decode cX12_isUnified 23 = .ok (.aload_n 0, 1) := by decide +kernel
theorem dX12_isUnified_24 : decode cX12_isUnified 24 = .ok (.aload_n 0, 1) := by decide +kernel
theorem dX12_isUnified_25 : decode cX12_isUnified 25 = .ok (.getfield 59, 3) := by decide +kernel
theorem dX12_isUnified_28 : decode cX12_isUnified 28 = .ok (.iload_n 3, 1) := by decide +kernel
theorem dX12_isUnified_29 : decode cX12_isUnified 29 = .ok (.iaload, 1) := by decide +kernel
theorem dX12_isUnified_30 : decode cX12_isUnified 30 = .ok (.invokevirtual 248, 3) := by decide +kernel
theorem dX12_isUnified_33 : decode cX12_isUnified 33 = .ok (.istore 4, 2) := by decide +kernel
theorem dX12_isUnified_35 : decode cX12_isUnified 35 = .ok (.aload_n 0, 1) := by decide +kernel
theorem dX12_isUnified_36 : decode cX12_isUnified 36 = .ok (.aload_n 0, 1) := by decide +kernel
theorem dX12_isUnified_37 : decode cX12_isUnified 37 = .ok (.getfield 62, 3) := by decide +kernel
theorem dX12_isUnified_40 : decode cX12_isUnified 40 = .ok (.iload_n 3, 1) := by decide +kernel
theorem dX12_isUnified_41 : decode cX12_isUnified 41 = .ok (.iaload, 1) := by decide +kernel
theorem dX12_isUnified_42 : decode cX12_isUnified 42 = .ok (.invokevirtual 248, 3) := by decide +kernel
theorem dX12_isUnified_45 : decode cX12_isUnified 45 = .ok (.istore 5, 2) := by decide +kernel
theorem dX12_isUnified_47 : decode cX12_isUnified 47 = .ok (.aload_n 0, 1) := by decide +kernel
theorem dX12_isUnified_48 : decode cX12_isUnified 48 = .ok (.getfield 53, 3) := by decide +kernel
theorem dX12_isUnified_51 : decode cX12_isUnified 51 = .ok (.iload 4, 2) := by decide +kernel
theorem dX12_isUnified_53 : decode cX12_isUnified 53 = .ok (.iaload, 1) := by decide +kernel
theorem dX12_isUnified_54 : decode cX12_isUnified 54 = .ok (.aload_n 0, 1) := by decide +kernel
theorem dX12_isUnified_55 : decode cX12_isUnified 55 = .ok (.getfield 53, 3) := by decide +kernel
theorem dX12_isUnified_58 : decode cX12_isUnified 58 = .ok (.iload 5, 2) := by decide +kernel
theorem dX12_isUnified_60 : decode cX12_isUnified 60 = .ok (.iaload, 1) := by decide +kernel
theorem dX12_isUnified_61 : decode cX12_isUnified 61 = .ok (.if_icmp .ne 18, 3) := by decide +kernel
theorem dX12_isUnified_64 : decode cX12_isUnified 64 = .ok (.aload_n 0, 1) := by decide +kernel
theorem dX12_isUnified_65 : decode cX12_isUnified 65 = .ok (.getfield 53, 3) := by decide +kernel
theorem dX12_isUnified_68 : decode cX12_isUnified 68 = .ok (.iload 4, 2) := by decide +kernel
theorem dX12_isUnified_70 : decode cX12_isUnified 70 = .ok (.iaload, 1) := by decide +kernel
theorem dX12_isUnified_71 : decode cX12_isUnified 71 = .ok (.bipush 100, 2) := by decide +kernel
theorem dX12_isUnified_73 : decode cX12_isUnified 73 = .ok (.if_icmp .lt 6, 3) := by decide +kernel
theorem dX12_isUnified_76 : decode cX12_isUnified 76 = .ok (.goto (-60), 3) := by decide +kernel
theorem dX12_isUnified_79 : decode cX12_isUnified 79 = .ok (.aload_n 0, 1) := by decide +kernel
theorem dX12_isUnified_80 : decode cX12_isUnified 80 = .ok (.getfield 53, 3) := by decide +kernel
theorem dX12_isUnified_83 : decode cX12_isUnified 83 = .ok (.iload 4, 2) := by decide +kernel
theorem dX12_isUnified_85 : decode cX12_isUnified 85 = .ok (.iaload, 1) := by decide +kernel
theorem dX12_isUnified_86 : decode cX12_isUnified 86 = .ok (.bipush 100, 2) := by decide +kernel
theorem dX12_isUnified_88 : decode cX12_isUnified 88 = .ok (.if_icmp .ge 27, 3) := by decide +kernel
theorem dX12_isUnified_91 : decode cX12_isUnified 91 = .ok (.aload_n 0, 1) := by decide +kernel
theorem dX12_isUnified_92 : decode cX12_isUnified 92 = .ok (.getfield 53, 3) := by decide +kernel
theorem dX12_isUnified_95 : decode cX12_isUnified 95 = .ok (.iload 5, 2) := by decide +kernel
theorem dX12_isUnified_97 : decode cX12_isUnified 97 = .ok (.iaload, 1) := by decide +kernel
theorem dX12_isUnified_98 : decode cX12_isUnified 98 = .ok (.bipush 100, 2) := by decide +kernel
theorem dX12_isUnified_100 : decode cX12_isUnified 100 = .ok (.if_icmp .lt 15, 3) := by decide +kernel
theorem dX12_isUnified_103 : decode cX12_isUnified 103 = .ok (.iload 4, 2) := by decide +kernel
theorem dX12_isUnified_105 : decode cX12_isUnified 105 = .ok (.istore 6, 2) := by decide +kernel
theorem dX12_isUnified_107 : decode cX12_isUnified 107 = .ok (.iload 5, 2) := by decide +kernel
theorem dX12_isUnified_109 : decode cX12_isUnified 109 = .ok (.istore 4, 2) := by decide +kernel
theorem dX12_isUnified_111 : decode cX12_isUnified 111 = .ok (.iload 6, 2) := by decide +kernel
theorem dX12_isUnified_113 : decode cX12_isUnified 113 = .ok (.istore 5, 2) := by decide +kernel
theorem dX12_isUnified_115 : decode cX12_isUnified 115 = .ok (.aload_n 0, 1) := by decide +kernel
theorem dX12_isUnified_116 : decode cX12_isUnified 116 = .ok (.getfield 53, 3) := by decide +kernel
theorem dX12_isUnified_119 : decode cX12_isUnified 119 = .ok (.iload 4, 2) := by decide +kernel
theorem dX12_isUnified_121 : decode cX12_isUnified 121 = .ok (.iaload, 1) := by decide +kernel
theorem dX12_isUnified_122 : decode cX12_isUnified 122 = .ok (.bipush 100, 2) := by decide +kernel
theorem dX12_isUnified_124 : decode cX12_isUnified 124 = .ok (.if_icmp .lt 41, 3) := by decide +kernel
theorem dX12_isUnified_127 : decode cX12_isUnified 127 = .ok (.aload_n 0, 1) := by decide +kernel
theorem dX12_isUnified_128 : decode cX12_isUnified 128 = .ok (.aload_n 0, 1) := by decide +kernel
theorem dX12_isUnified_129 : decode cX12_isUnified 129 = .ok (.getfield 53, 3) := by decide +kernel
theorem dX12_isUnified_132 : decode cX12_isUnified 132 = .ok (.iload 4, 2) := by decide +kernel
theorem dX12_isUnified_134 : decode cX12_isUnified 134 = .ok (.iaload, 1) := by decide +kernel
theorem dX12_isUnified_135 : decode cX12_isUnified 135 = .ok (.iload 5, 2) := by decide +kernel
theorem dX12_isUnified_137 : decode cX12_isUnified 137 = .ok (.invokevirtual 254, 3) := by decide +kernel
theorem dX12_isUnified_140 : decode cX12_isUnified 140 = .ok (.ifCond .eq 5, 3) := by decide +kernel
theorem dX12_isUnified_143 : decode cX12_isUnified 143 = .ok (.iconst 0, 1) := by decide +kernel
theorem dX12_isUnified_144 : decode cX12_isUnified 144 = .ok (.ireturn, 1) := by decide +kernel
theorem dX12_isUnified_145 : decode cX12_isUnified 145 = .ok (.aload_n 0, 1) := by decide +kernel
theorem dX12_isUnified_146 : decode cX12_isUnified 146 = .ok (.getfield 56, 3) := by decide +kernel
theorem dX12_isUnified_149 : decode cX12_isUnified 149 = .ok (.aload_n 0, 1) := by decide +kernel
theorem dX12_isUnified_150 : decode cX12_isUnified 150 = .ok (.getfield 53, 3) := by decide +kernel
theorem dX12_isUnified_153 : decode cX12_isUnified 153 = .ok (.iload 4, 2) := by decide +kernel
theorem dX12_isUnified_155 : decode cX12_isUnified 155 = .ok (.iaload, 1) := by decide +kernel
theorem dX12_isUnified_156 : decode cX12_isUnified 156 = .ok (.bipush 100, 2) := by decide +kernel
theorem dX12_isUnified_158 : decode cX12_isUnified 158 = .ok (.isub, 1) := by decide +kernel
theorem dX12_isUnified_159 : decode cX12_isUnified 159 = .ok (.iload 5, 2) := by decide +kernel
theorem dX12_isUnified_161 : decode cX12_isUnified 161 = .ok (.iastore, 1) := by decide +kernel
theorem dX12_isUnified_162 : decode cX12_isUnified 162 = .ok (.goto (-146), 3) := by decide +kernel
theorem dX12_isUnified_165 : decode cX12_isUnified 165 = .ok (.aload_n 0, 1) := by decide +kernel
theorem dX12_isUnified_166 : decode cX12_isUnified 166 = .ok (.getfield 53, 3) := by decide +kernel
theorem dX12_isUnified_169 : decode cX12_isUnified 169 = .ok (.iload 4, 2) := by decide +kernel
theorem dX12_isUnified_171 : decode cX12_isUnified 171 = .ok (.iaload, 1) := by decide +kernel
theorem dX12_isUnified_172 : decode cX12_isUnified 172 = .ok (.aload_n 0, 1) := by decide +kernel
theorem dX12_isUnified_173 : decode cX12_isUnified 173 = .ok (.getfield 53, 3) := by decide +kernel
theorem dX12_isUnified_176 : decode cX12_isUnified 176 = .ok (.iload 5, 2) := by decide +kernel
theorem dX12_isUnified_178 : decode cX12_isUnified 178 = .ok (.iaload, 1) := by decide +kernel
theorem dX12_isUnified_179 : decode cX12_isUnified 179 = .ok (.if_icmp .eq 5, 3) := by decide +kernel
theorem dX12_isUnified_182 : decode cX12_isUnified 182 = .ok (.iconst 0, 1) := by decide +kernel
theorem dX12_isUnified_183 : decode cX12_isUnified 183 = .ok (.ireturn, 1) := by decide +kernel
theorem dX12_isUnified_184 : decode cX12_isUnified 184 = .ok (.iload 4, 2) := by decide +kernel
theorem dX12_isUnified_186 : decode cX12_isUnified 186 = .ok (.iconst 1, 1) := by decide +kernel
theorem dX12_isUnified_187 : decode cX12_isUnified 187 = .ok (.iadd, 1) := by decide +kernel
theorem dX12_isUnified_188 : decode cX12_isUnified 188 = .ok (.istore 6, 2) := by decide +kernel
theorem dX12_isUnified_190 : decode cX12_isUnified 190 = .ok (.iload 5, 2) := by decide +kernel
theorem dX12_isUnified_192 : decode cX12_isUnified 192 = .ok (.iconst 1, 1) := by decide +kernel
theorem dX12_isUnified_193 : decode cX12_isUnified 193 = .ok (.iadd, 1) := by decide +kernel
theorem dX12_isUnified_194 : decode cX12_isUnified 194 = .ok (.istore 7, 2) := by decide +kernel
theorem dX12_isUnified_196 : decode cX12_isUnified 196 = .ok (.iconst 0, 1) := by decide +kernel
theorem dX12_isUnified_197 : decode cX12_isUnified 197 = .ok (.istore 8, 2) := by decide +kernel
theorem dX12_isUnified_199 : decode cX12_isUnified 199 = .ok (.iload 8, 2) := by decide +kernel
theorem dX12_isUnified_201 : decode cX12_isUnified 201 = .ok (.aload_n 0, 1) := by decide +kernel
theorem dX12_isUnified_202 : decode cX12_isUnified 202 = .ok (.aload_n 0, 1) := by decide +kernel
theorem dX12_isUnified_203 : decode cX12_isUnified 203 = .ok (.getfield 53, 3) := by decide +kernel
theorem dX12_isUnified_206 : decode cX12_isUnified 206 = .ok (.iload 4, 2) := by decide +kernel
theorem dX12_isUnified_208 : decode cX12_isUnified 208 = .ok (.iaload, 1) := by decide +kernel
theorem dX12_isUnified_209 : decode cX12_isUnified 209 = .ok (.invokevirtual 251, 3) := by decide +kernel
theorem dX12_isUnified_212 : decode cX12_isUnified 212 = .ok (.if_icmp .ge 44, 3) := by decide +kernel
theorem dX12_isUnified_215 : decode cX12_isUnified 215 = .ok (.aload_n 0, 1) := by decide +kernel
theorem dX12_isUnified_216 : decode cX12_isUnified 216 = .ok (.getfield 59, 3) := by decide +kernel
theorem dX12_isUnified_219 : decode cX12_isUnified 219 = .ok (.iload_n 3, 1) := by decide +kernel
theorem dX12_isUnified_220 : decode cX12_isUnified 220 = .ok (.iload 6, 2) := by decide +kernel
theorem dX12_isUnified_222 : decode cX12_isUnified 222 = .ok (.iastore, 1) := by decide +kernel
theorem dX12_isUnified_223 : decode cX12_isUnified 223 = .ok (.aload_n 0, 1) := by decide +kernel
theorem dX12_isUnified_224 : decode cX12_isUnified 224 = .ok (.getfield 62, 3) := by decide +kernel
theorem dX12_isUnified_227 : decode cX12_isUnified 227 = .ok (.iload_n 3, 1) := by decide +kernel
theorem dX12_isUnified_228 : decode cX12_isUnified 228 = .ok (.iload 7, 2) := by decide +kernel
theorem dX12_isUnified_230 : decode cX12_isUnified 230 = .ok (.iastore, 1) := by decide +kernel
theorem dX12_isUnified_231 : decode cX12_isUnified 231 = .ok (.iinc 3 1, 3) := by decide +kernel
theorem dX12_isUnified_234 : decode cX12_isUnified 234 = .ok (.aload_n 0, 1) := by decide +kernel
theorem dX12_isUnified_235 : decode cX12_isUnified 235 = .ok (.iload 6, 2) := by decide +kernel
theorem dX12_isUnified_237 : decode cX12_isUnified 237 = .ok (.invokevirtual 241, 3) := by decide +kernel
theorem dX12_isUnified_240 : decode cX12_isUnified 240 = .ok (.istore 6, 2) := by decide +kernel
theorem dX12_isUnified_242 : decode cX12_isUnified 242 = .ok (.aload_n 0, 1) := by decide +kernel
theorem dX12_isUnified_243 : decode cX12_isUnified 243 = .ok (.iload 7, 2) := by decide +kernel
theorem dX12_isUnified_245 : decode cX12_isUnified 245 = .ok (.invokevirtual 241, 3) := by decide +kernel
theorem dX12_isUnified_248 : decode cX12_isUnified 248 = .ok (.istore 7, 2) := by decide +kernel
theorem dX12_isUnified_250 : decode cX12_isUnified 250 = .ok (.iinc 8 1, 3) := by decide +kernel
theorem dX12_isUnified_253 : decode cX12_isUnified 253 = .ok (.goto (-54), 3) := by decide +kernel
theorem dX12_isUnified_256 : decode cX12_isUnified 256 = .ok (.goto (-240), 3) := by decide +kernel
theorem dX12_isUnified_259 : decode cX12_isUnified 259 = .ok (.iconst 1, 1) := by decide +kernel
theorem dX12_isUnified_260 : decode cX12_isUnified 260 = .ok (.ireturn, 1) := by decide +kernel
theorem wl_X12_254 : Cond.methodLink RX12 254 yX12_isWithin ∈ xT := xin 1650 (by decide +kernel) rfl
theorem wf_X12_59 : Cond.fieldLink RX12 59 "TermShelfModel" "waitA" "[I" ∈ xT := xin 1347 (by decide +kernel) rfl
theorem wf_X12_62 : Cond.fieldLink RX12 62 "TermShelfModel" "waitB" "[I" ∈ xT := xin 1348 (by decide +kernel) rfl
section XN_X12_isUnified
variable {p : Program} {l : Launch} {e : Env} {R : Room} {s : State} {m : MethodId} {args : Array Value} {below : List Frame} {meth : Method} {c : Code} {H H0 : Heap} {locs : List Loc} {cells slots : Nat} {Q : State → Prop} {cc : ByteArray} {nL pc : Nat} {rt : Option FieldType} {ls : Array Slot} {rest : List Value} {D : xD} {ty : xTy} {h : xH}
theorem cl_X12_254 {v0 : Nat} {v1 : Int32} {v2 : Int32} {r : Int32} {h9 : xH} (C0 : xC D RX12 cc nL rt p s m args meth c) (hR : xRep D ty h H) (hS : xS ty H0 H locs) (hF : jf_X12_isWithin ty h v0 v1 v2 = some (r, h9)) (t_v0 : ty v0 = some (0, 12)) (hrm : jr_X12_isWithin.frames + 1 ≤ R.frames ∧ 8 + (7 + 11) + jr_X12_isWithin.locals ≤ R.locals) (hsz : ls.size = nL) (hW : (rest.map fun v => v.category).sum ≤ 8) (hf : cells ≤ R.cells ∧ slots ≤ R.slots) (hdg : decode cc pc = .ok (.invokevirtual 254, 3)) (kk : ∀ (H1 : Heap) (locs1 : List Loc), xRep D ty h9 H1 → xS ty H0 H1 locs1 → W p l e R s m args below meth c H1 locs1 cells slots Q (F0 m (pc + 3) ls (.int r :: rest))) : W p l e R s m args below meth c H locs cells slots Q (F0 m pc ls (.int v2 :: .int v1 :: .ref v0 :: rest)) := x_callV C0 (jc_X12_isWithin t_v0 hF) xm_X12_isWithin xi_X12_isWithin xe_X12_isWithin wl_X12_254 ⟨rfl, rfl, hrm⟩ (ci := 12) rfl t_v0 hR hS (As := [.int v1, .int v2]) rfl hsz rfl hW hdg hf kk
theorem gf_X12_59 {a : Nat} (C0 : xC D RX12 cc nL rt p s m args meth c) (hR : xRep D ty h H) (ht : ty a = some (0, 12)) {v : Nat} (hv : xR h a 35 = some v) (hdg : decode cc pc = .ok (.getfield 59, 3)) (kk : W p l e R s m args below meth c H locs cells slots Q (F0 m (pc + 3) ls (.ref v :: rest))) : W p l e R s m args below meth c H locs cells slots Q (F0 m pc ls (.ref a :: rest)) := x_get C0 hR (ci := 12) (k := 35) (N := 60) (T := TX12) rfl iX12 (by decide) rfl wf_X12_59 (by show va_rf (xR h a 35) = _; rw [hv]; rfl) ht hdg kk
theorem gf_X12_62 {a : Nat} (C0 : xC D RX12 cc nL rt p s m args meth c) (hR : xRep D ty h H) (ht : ty a = some (0, 12)) {v : Nat} (hv : xR h a 36 = some v) (hdg : decode cc pc = .ok (.getfield 62, 3)) (kk : W p l e R s m args below meth c H locs cells slots Q (F0 m (pc + 3) ls (.ref v :: rest))) : W p l e R s m args below meth c H locs cells slots Q (F0 m pc ls (.ref a :: rest)) := x_get C0 hR (ci := 12) (k := 36) (N := 60) (T := TX12) rfl iX12 (by decide) rfl wf_X12_62 (by show va_rf (xR h a 36) = _; rw [hv]; rfl) ht hdg kk
end XN_X12_isUnified
set_option maxHeartbeats 4000000 in
set_option maxRecDepth 100000 in
theorem jw_X12_isUnified_199 {p : Program} {l : Launch} {e : Env} {s : State} {m : MethodId} {args : Array Value} {below : List Frame} {meth : Method} {c : Code} {D : xD} {ty : xTy} {k16 : Nat → Int32 → xH → Option (Int32 × xH)} (C0 : xC D RX12 cX12_isUnified 9 (some .boolean) p s m args meth c) {r : Int32} {h9 : xH} (hk16 : ∀ (v0 : Nat) (v3 : Int32) (h : xH), ty v0 = some (0, 12) → k16 v0 v3 h = some (r, h9) → ∀ (H : Heap) (locs : List Loc), xRep D ty h H → xS ty s.heap H locs → ∀ ls : Array Slot, lv_has ls 9 [(0, .ref v0), (3, .int v3)] → W p l e jr_X12_isUnified s m args below meth c H locs 0 0 (MQ below (xQ D ty (some (.int r)) h9) args s 0 0 (xdom ty)) (F0 m 16 ls [])) : ∀ n : Nat, ∀ (v0 : Nat) (v3 : Int32) (v4 : Int32) (v6 : Int32) (v7 : Int32) (v8 : Int32) (h : xH), ty v0 = some (0, 12) → jf_X12_isUnified_199 ty k16 n v0 v3 v4 v6 v7 v8 h = some (r, h9) → ∀ (H : Heap) (locs : List Loc), xRep D ty h H → xS ty s.heap H locs → ∀ ls : Array Slot, lv_has ls 9 [(0, .ref v0), (3, .int v3), (4, .int v4), (6, .int v6), (7, .int v7), (8, .int v8)] → W p l e jr_X12_isUnified s m args below meth c H locs 0 0 (MQ below (xQ D ty (some (.int r)) h9) args s 0 0 (xdom ty)) (F0 m 199 ls []) := by
  have hx := C0.1
  have hb := C0.2.1
  have hown := C0.2.2.2.2.2.1
  have hts := C0.2.2.2.2.2.2.1
  intro n
  induction n with
  | zero =>
    intro v0 v3 v4 v6 v7 v8 h t_v0 hF H locs hR hS ls hl
    cases hF
  | succ n ih =>
    intro v0 v3 v4 v6 v7 v8 h t_v0 hF H locs hR hS ls hl
    rw [jf_X12_isUnified_199_s] at hF
    refine lv_iload hx hb dX12_isUnified_199 (lv_at hl 5 rfl) ?_
    refine lv_aload_n hx hb dX12_isUnified_201 rfl (lv_at hl 0 rfl) ?_
    refine lv_aload_n hx hb dX12_isUnified_202 rfl (lv_at hl 0 rfl) ?_
    obtain ⟨a1, e_a1, hF⟩ := xbd hF
    refine gf_X12_53 C0 hR t_v0 e_a1 dX12_isUnified_203 ?_
    refine lv_iload hx hb dX12_isUnified_206 (lv_at hl 2 rfl) ?_
    obtain ⟨a2, e_a2, hF⟩ := xbd hF
    refine x_iald C0 hR e_a2 dX12_isUnified_208 ?_
    obtain ⟨a3, e_a3, hF⟩ := xbd hF
    refine cl_X12_251 C0 hR hS e_a3 t_v0 ⟨(Nat.le_of_ble_eq_true rfl), (Nat.le_of_ble_eq_true rfl)⟩ hl.1 (Nat.le_of_ble_eq_true rfl) ⟨(Nat.le_of_ble_eq_true rfl), (Nat.le_of_ble_eq_true rfl)⟩ dX12_isUnified_209 (fun H locs hR hS => ?_)
    refine lv_icmp_ge (tgt := 256) hx hb dX12_isUnified_212 (by decide) (fun c4 => ?_) (fun c4 => ?_)
    · have hF := xif hF c4
      refine lv_goto (tgt := 16) hx hb dX12_isUnified_256 (by decide) ?_
      exact hk16 _ _ _ t_v0 hF _ _ hR hS _ (lv_sub hl [0, 1] rfl)
    · have hF := xel hF c4
      refine lv_aload_n hx hb dX12_isUnified_215 rfl (lv_at hl 0 rfl) ?_
      obtain ⟨a5, e_a5, hF⟩ := xbd hF
      refine gf_X12_59 C0 hR t_v0 e_a5 dX12_isUnified_216 ?_
      refine lv_iload_n hx hb dX12_isUnified_219 rfl (lv_at hl 1 rfl) ?_
      refine lv_iload hx hb dX12_isUnified_220 (lv_at hl 3 rfl) ?_
      obtain ⟨h6, e_h6, hF⟩ := xbd hF
      refine x_iast C0 hR hS e_h6 dX12_isUnified_222 (fun H locs hR hS => ?_)
      refine lv_aload_n hx hb dX12_isUnified_223 rfl (lv_at hl 0 rfl) ?_
      obtain ⟨a7, e_a7, hF⟩ := xbd hF
      refine gf_X12_62 C0 hR t_v0 e_a7 dX12_isUnified_224 ?_
      refine lv_iload_n hx hb dX12_isUnified_227 rfl (lv_at hl 1 rfl) ?_
      refine lv_iload hx hb dX12_isUnified_228 (lv_at hl 4 rfl) ?_
      obtain ⟨h8, e_h8, hF⟩ := xbd hF
      refine x_iast C0 hR hS e_h8 dX12_isUnified_230 (fun H locs hR hS => ?_)
      refine lv_iinc (v := v3 + 1) (lv' := [(3, .int (v3 + 1)), (0, .ref v0), (4, .int v4), (6, .int v6), (7, .int v7), (8, .int v8)]) hx hb dX12_isUnified_231 hl (k := 1) rfl rfl (by decide) rfl (fun ls hl => ?_)
      refine lv_aload_n hx hb dX12_isUnified_234 rfl (lv_at hl 1 rfl) ?_
      refine lv_iload hx hb dX12_isUnified_235 (lv_at hl 3 rfl) ?_
      obtain ⟨a9, e_a9, hF⟩ := xbd hF
      refine cl_X12_241 C0 hR hS e_a9 t_v0 ⟨(Nat.le_of_ble_eq_true rfl), (Nat.le_of_ble_eq_true rfl)⟩ hl.1 (Nat.le_of_ble_eq_true rfl) ⟨(Nat.le_of_ble_eq_true rfl), (Nat.le_of_ble_eq_true rfl)⟩ dX12_isUnified_237 (fun H locs hR hS => ?_)
      refine lv_istore (lv' := [(6, .int a9), (3, .int (v3 + 1)), (0, .ref v0), (4, .int v4), (7, .int v7), (8, .int v8)]) hx hb dX12_isUnified_240 hl (by decide) rfl (fun ls hl => ?_)
      refine lv_aload_n hx hb dX12_isUnified_242 rfl (lv_at hl 2 rfl) ?_
      refine lv_iload hx hb dX12_isUnified_243 (lv_at hl 4 rfl) ?_
      obtain ⟨a10, e_a10, hF⟩ := xbd hF
      refine cl_X12_241 C0 hR hS e_a10 t_v0 ⟨(Nat.le_of_ble_eq_true rfl), (Nat.le_of_ble_eq_true rfl)⟩ hl.1 (Nat.le_of_ble_eq_true rfl) ⟨(Nat.le_of_ble_eq_true rfl), (Nat.le_of_ble_eq_true rfl)⟩ dX12_isUnified_245 (fun H locs hR hS => ?_)
      refine lv_istore (lv' := [(7, .int a10), (6, .int a9), (3, .int (v3 + 1)), (0, .ref v0), (4, .int v4), (8, .int v8)]) hx hb dX12_isUnified_248 hl (by decide) rfl (fun ls hl => ?_)
      refine lv_iinc (v := v8 + 1) (lv' := [(8, .int (v8 + 1)), (7, .int a10), (6, .int a9), (3, .int (v3 + 1)), (0, .ref v0), (4, .int v4)]) hx hb dX12_isUnified_250 hl (k := 5) rfl rfl (by decide) rfl (fun ls hl => ?_)
      refine lv_goto (tgt := 199) hx hb dX12_isUnified_253 (by decide) ?_
      exact ih _ _ _ _ _ _ _ t_v0 hF _ _ hR hS _ (lv_sub hl [4, 3, 5, 2, 1, 0] rfl)
set_option maxHeartbeats 4000000 in
set_option maxRecDepth 100000 in
theorem jw_X12_isUnified_115 {p : Program} {l : Launch} {e : Env} {s : State} {m : MethodId} {args : Array Value} {below : List Frame} {meth : Method} {c : Code} {D : xD} {ty : xTy} {k16 : Nat → Int32 → xH → Option (Int32 × xH)} (C0 : xC D RX12 cX12_isUnified 9 (some .boolean) p s m args meth c) {r : Int32} {h9 : xH} (hk16 : ∀ (v0 : Nat) (v3 : Int32) (h : xH), ty v0 = some (0, 12) → k16 v0 v3 h = some (r, h9) → ∀ (H : Heap) (locs : List Loc), xRep D ty h H → xS ty s.heap H locs → ∀ ls : Array Slot, lv_has ls 9 [(0, .ref v0), (3, .int v3)] → W p l e jr_X12_isUnified s m args below meth c H locs 0 0 (MQ below (xQ D ty (some (.int r)) h9) args s 0 0 (xdom ty)) (F0 m 16 ls [])) : ∀ (v0 : Nat) (v3 : Int32) (v4 : Int32) (v5 : Int32) (h : xH), ty v0 = some (0, 12) → jf_X12_isUnified_115 ty k16 v0 v3 v4 v5 h = some (r, h9) → ∀ (H : Heap) (locs : List Loc), xRep D ty h H → xS ty s.heap H locs → ∀ ls : Array Slot, lv_has ls 9 [(0, .ref v0), (3, .int v3), (4, .int v4), (5, .int v5)] → W p l e jr_X12_isUnified s m args below meth c H locs 0 0 (MQ below (xQ D ty (some (.int r)) h9) args s 0 0 (xdom ty)) (F0 m 115 ls []) := by
  have hx := C0.1
  have hb := C0.2.1
  have hown := C0.2.2.2.2.2.1
  have hts := C0.2.2.2.2.2.2.1
  intro v0 v3 v4 v5 h t_v0 hF H locs hR hS ls hl
  unfold jf_X12_isUnified_115 at hF
  refine lv_aload_n hx hb dX12_isUnified_115 rfl (lv_at hl 0 rfl) ?_
  obtain ⟨a11, e_a11, hF⟩ := xbd hF
  refine gf_X12_53 C0 hR t_v0 e_a11 dX12_isUnified_116 ?_
  refine lv_iload hx hb dX12_isUnified_119 (lv_at hl 2 rfl) ?_
  obtain ⟨a12, e_a12, hF⟩ := xbd hF
  refine x_iald C0 hR e_a12 dX12_isUnified_121 ?_
  refine lv_bipush (v := 100) hx hb dX12_isUnified_122 (by decide) ?_
  refine lv_icmp_lt (tgt := 165) hx hb dX12_isUnified_124 (by decide) (fun c13 => ?_) (fun c13 => ?_)
  · have hF := xif hF c13
    refine lv_aload_n hx hb dX12_isUnified_165 rfl (lv_at hl 0 rfl) ?_
    obtain ⟨a14, e_a14, hF⟩ := xbd hF
    refine gf_X12_53 C0 hR t_v0 e_a14 dX12_isUnified_166 ?_
    refine lv_iload hx hb dX12_isUnified_169 (lv_at hl 2 rfl) ?_
    obtain ⟨a15, e_a15, hF⟩ := xbd hF
    refine x_iald C0 hR e_a15 dX12_isUnified_171 ?_
    refine lv_aload_n hx hb dX12_isUnified_172 rfl (lv_at hl 0 rfl) ?_
    obtain ⟨a16, e_a16, hF⟩ := xbd hF
    refine gf_X12_53 C0 hR t_v0 e_a16 dX12_isUnified_173 ?_
    refine lv_iload hx hb dX12_isUnified_176 (lv_at hl 3 rfl) ?_
    obtain ⟨a17, e_a17, hF⟩ := xbd hF
    refine x_iald C0 hR e_a17 dX12_isUnified_178 ?_
    refine lv_icmp_eq (tgt := 184) hx hb dX12_isUnified_179 (by decide) (fun c18 => ?_) (fun c18 => ?_)
    · have hF := xif hF c18
      refine lv_iload hx hb dX12_isUnified_184 (lv_at hl 2 rfl) ?_
      refine lv_iconst (v := 1) hx hb dX12_isUnified_186 (by decide) ?_
      refine lv_iadd hx hb dX12_isUnified_187 ?_
      refine lv_istore (lv' := [(6, .int (v4 + 1)), (0, .ref v0), (3, .int v3), (4, .int v4), (5, .int v5)]) hx hb dX12_isUnified_188 hl (by decide) rfl (fun ls hl => ?_)
      refine lv_iload hx hb dX12_isUnified_190 (lv_at hl 4 rfl) ?_
      refine lv_iconst (v := 1) hx hb dX12_isUnified_192 (by decide) ?_
      refine lv_iadd hx hb dX12_isUnified_193 ?_
      refine lv_istore (lv' := [(7, .int (v5 + 1)), (6, .int (v4 + 1)), (0, .ref v0), (3, .int v3), (4, .int v4), (5, .int v5)]) hx hb dX12_isUnified_194 hl (by decide) rfl (fun ls hl => ?_)
      refine lv_iconst (v := 0) hx hb dX12_isUnified_196 (by decide) ?_
      refine lv_istore (lv' := [(8, .int 0), (7, .int (v5 + 1)), (6, .int (v4 + 1)), (0, .ref v0), (3, .int v3), (4, .int v4), (5, .int v5)]) hx hb dX12_isUnified_197 hl (by decide) rfl (fun ls hl => ?_)
      obtain ⟨_, hF⟩ := xlim_sp hF
      exact jw_X12_isUnified_199 C0 hk16 _ _ _ _ _ _ _ _ t_v0 hF _ _ hR hS _ (lv_sub hl [3, 4, 5, 2, 1, 0] rfl)
    · have hF := xel hF c18
      refine lv_iconst (v := 0) hx hb dX12_isUnified_182 (by decide) ?_
      cases hF
      exact x_zret (w := 0) C0 hR hS (by decide) dX12_isUnified_183
  · have hF := xel hF c13
    refine lv_aload_n hx hb dX12_isUnified_127 rfl (lv_at hl 0 rfl) ?_
    refine lv_aload_n hx hb dX12_isUnified_128 rfl (lv_at hl 0 rfl) ?_
    obtain ⟨a19, e_a19, hF⟩ := xbd hF
    refine gf_X12_53 C0 hR t_v0 e_a19 dX12_isUnified_129 ?_
    refine lv_iload hx hb dX12_isUnified_132 (lv_at hl 2 rfl) ?_
    obtain ⟨a20, e_a20, hF⟩ := xbd hF
    refine x_iald C0 hR e_a20 dX12_isUnified_134 ?_
    refine lv_iload hx hb dX12_isUnified_135 (lv_at hl 3 rfl) ?_
    obtain ⟨a22, h21, e_h21, hF⟩ := xbd2 hF
    refine cl_X12_254 C0 hR hS e_h21 t_v0 ⟨(Nat.le_of_ble_eq_true rfl), (Nat.le_of_ble_eq_true rfl)⟩ hl.1 (Nat.le_of_ble_eq_true rfl) ⟨(Nat.le_of_ble_eq_true rfl), (Nat.le_of_ble_eq_true rfl)⟩ dX12_isUnified_137 (fun H locs hR hS => ?_)
    refine lv_if_eq (tgt := 145) hx hb dX12_isUnified_140 (by decide) (fun c23 => ?_) (fun c23 => ?_)
    · have hF := xif hF c23
      refine lv_aload_n hx hb dX12_isUnified_145 rfl (lv_at hl 0 rfl) ?_
      obtain ⟨a24, e_a24, hF⟩ := xbd hF
      refine gf_X12_56 C0 hR t_v0 e_a24 dX12_isUnified_146 ?_
      refine lv_aload_n hx hb dX12_isUnified_149 rfl (lv_at hl 0 rfl) ?_
      obtain ⟨a25, e_a25, hF⟩ := xbd hF
      refine gf_X12_53 C0 hR t_v0 e_a25 dX12_isUnified_150 ?_
      refine lv_iload hx hb dX12_isUnified_153 (lv_at hl 2 rfl) ?_
      obtain ⟨a26, e_a26, hF⟩ := xbd hF
      refine x_iald C0 hR e_a26 dX12_isUnified_155 ?_
      refine lv_bipush (v := 100) hx hb dX12_isUnified_156 (by decide) ?_
      refine lv_isub hx hb dX12_isUnified_158 ?_
      refine lv_iload hx hb dX12_isUnified_159 (lv_at hl 3 rfl) ?_
      obtain ⟨h27, e_h27, hF⟩ := xbd hF
      refine x_iast C0 hR hS e_h27 dX12_isUnified_161 (fun H locs hR hS => ?_)
      refine lv_goto (tgt := 16) hx hb dX12_isUnified_162 (by decide) ?_
      exact hk16 _ _ _ t_v0 hF _ _ hR hS _ (lv_sub hl [0, 1] rfl)
    · have hF := xel hF c23
      refine lv_iconst (v := 0) hx hb dX12_isUnified_143 (by decide) ?_
      cases hF
      exact x_zret (w := 0) C0 hR hS (by decide) dX12_isUnified_144
set_option maxHeartbeats 4000000 in
set_option maxRecDepth 100000 in
theorem jw_X12_isUnified_79 {p : Program} {l : Launch} {e : Env} {s : State} {m : MethodId} {args : Array Value} {below : List Frame} {meth : Method} {c : Code} {D : xD} {ty : xTy} {k16 : Nat → Int32 → xH → Option (Int32 × xH)} (C0 : xC D RX12 cX12_isUnified 9 (some .boolean) p s m args meth c) {r : Int32} {h9 : xH} (hk16 : ∀ (v0 : Nat) (v3 : Int32) (h : xH), ty v0 = some (0, 12) → k16 v0 v3 h = some (r, h9) → ∀ (H : Heap) (locs : List Loc), xRep D ty h H → xS ty s.heap H locs → ∀ ls : Array Slot, lv_has ls 9 [(0, .ref v0), (3, .int v3)] → W p l e jr_X12_isUnified s m args below meth c H locs 0 0 (MQ below (xQ D ty (some (.int r)) h9) args s 0 0 (xdom ty)) (F0 m 16 ls [])) : ∀ (v0 : Nat) (v3 : Int32) (v4 : Int32) (v5 : Int32) (h : xH), ty v0 = some (0, 12) → jf_X12_isUnified_79 ty k16 v0 v3 v4 v5 h = some (r, h9) → ∀ (H : Heap) (locs : List Loc), xRep D ty h H → xS ty s.heap H locs → ∀ ls : Array Slot, lv_has ls 9 [(0, .ref v0), (3, .int v3), (4, .int v4), (5, .int v5)] → W p l e jr_X12_isUnified s m args below meth c H locs 0 0 (MQ below (xQ D ty (some (.int r)) h9) args s 0 0 (xdom ty)) (F0 m 79 ls []) := by
  have hx := C0.1
  have hb := C0.2.1
  have hown := C0.2.2.2.2.2.1
  have hts := C0.2.2.2.2.2.2.1
  intro v0 v3 v4 v5 h t_v0 hF H locs hR hS ls hl
  unfold jf_X12_isUnified_79 at hF
  refine lv_aload_n hx hb dX12_isUnified_79 rfl (lv_at hl 0 rfl) ?_
  obtain ⟨a28, e_a28, hF⟩ := xbd hF
  refine gf_X12_53 C0 hR t_v0 e_a28 dX12_isUnified_80 ?_
  refine lv_iload hx hb dX12_isUnified_83 (lv_at hl 2 rfl) ?_
  obtain ⟨a29, e_a29, hF⟩ := xbd hF
  refine x_iald C0 hR e_a29 dX12_isUnified_85 ?_
  refine lv_bipush (v := 100) hx hb dX12_isUnified_86 (by decide) ?_
  refine lv_icmp_ge (tgt := 115) hx hb dX12_isUnified_88 (by decide) (fun c30 => ?_) (fun c30 => ?_)
  · have hF := xif hF c30
    exact jw_X12_isUnified_115 C0 hk16 _ _ _ _ _ t_v0 hF _ _ hR hS _ (lv_sub hl [0, 1, 2, 3] rfl)
  · have hF := xel hF c30
    refine lv_aload_n hx hb dX12_isUnified_91 rfl (lv_at hl 0 rfl) ?_
    obtain ⟨a31, e_a31, hF⟩ := xbd hF
    refine gf_X12_53 C0 hR t_v0 e_a31 dX12_isUnified_92 ?_
    refine lv_iload hx hb dX12_isUnified_95 (lv_at hl 3 rfl) ?_
    obtain ⟨a32, e_a32, hF⟩ := xbd hF
    refine x_iald C0 hR e_a32 dX12_isUnified_97 ?_
    refine lv_bipush (v := 100) hx hb dX12_isUnified_98 (by decide) ?_
    refine lv_icmp_lt (tgt := 115) hx hb dX12_isUnified_100 (by decide) (fun c33 => ?_) (fun c33 => ?_)
    · have hF := xif hF c33
      exact jw_X12_isUnified_115 C0 hk16 _ _ _ _ _ t_v0 hF _ _ hR hS _ (lv_sub hl [0, 1, 2, 3] rfl)
    · have hF := xel hF c33
      refine lv_iload hx hb dX12_isUnified_103 (lv_at hl 2 rfl) ?_
      refine lv_istore (lv' := [(6, .int v4), (0, .ref v0), (3, .int v3), (4, .int v4), (5, .int v5)]) hx hb dX12_isUnified_105 hl (by decide) rfl (fun ls hl => ?_)
      refine lv_iload hx hb dX12_isUnified_107 (lv_at hl 4 rfl) ?_
      refine lv_istore (lv' := [(4, .int v5), (6, .int v4), (0, .ref v0), (3, .int v3), (5, .int v5)]) hx hb dX12_isUnified_109 hl (by decide) rfl (fun ls hl => ?_)
      refine lv_iload hx hb dX12_isUnified_111 (lv_at hl 1 rfl) ?_
      refine lv_istore (lv' := [(5, .int v4), (4, .int v5), (6, .int v4), (0, .ref v0), (3, .int v3)]) hx hb dX12_isUnified_113 hl (by decide) rfl (fun ls hl => ?_)
      exact jw_X12_isUnified_115 C0 hk16 _ _ _ _ _ t_v0 hF _ _ hR hS _ (lv_sub hl [3, 4, 1, 0] rfl)
set_option maxHeartbeats 4000000 in
set_option maxRecDepth 100000 in
theorem jw_X12_isUnified_16 {p : Program} {l : Launch} {e : Env} {s : State} {m : MethodId} {args : Array Value} {below : List Frame} {meth : Method} {c : Code} {D : xD} {ty : xTy} (C0 : xC D RX12 cX12_isUnified 9 (some .boolean) p s m args meth c) {r : Int32} {h9 : xH} : ∀ n : Nat, ∀ (v0 : Nat) (v3 : Int32) (h : xH), ty v0 = some (0, 12) → jf_X12_isUnified_16 ty n v0 v3 h = some (r, h9) → ∀ (H : Heap) (locs : List Loc), xRep D ty h H → xS ty s.heap H locs → ∀ ls : Array Slot, lv_has ls 9 [(0, .ref v0), (3, .int v3)] → W p l e jr_X12_isUnified s m args below meth c H locs 0 0 (MQ below (xQ D ty (some (.int r)) h9) args s 0 0 (xdom ty)) (F0 m 16 ls []) := by
  have hx := C0.1
  have hb := C0.2.1
  have hown := C0.2.2.2.2.2.1
  have hts := C0.2.2.2.2.2.2.1
  intro n
  induction n with
  | zero =>
    intro v0 v3 h t_v0 hF H locs hR hS ls hl
    cases hF
  | succ n ih =>
    intro v0 v3 h t_v0 hF H locs hR hS ls hl
    rw [jf_X12_isUnified_16_s] at hF
    refine lv_iload_n hx hb dX12_isUnified_16 rfl (lv_at hl 1 rfl) ?_
    refine lv_if_le (tgt := 259) hx hb dX12_isUnified_17 (by decide) (fun c34 => ?_) (fun c34 => ?_)
    · have hF := xif hF c34
      refine lv_iconst (v := 1) hx hb dX12_isUnified_259 (by decide) ?_
      cases hF
      exact x_zret (w := 1) C0 hR hS (by decide) dX12_isUnified_260
    · have hF := xel hF c34
      refine lv_iinc (v := v3 + (-1)) (lv' := [(3, .int (v3 + (-1))), (0, .ref v0)]) hx hb dX12_isUnified_20 hl (k := 1) rfl rfl (by decide) rfl (fun ls hl => ?_)
      refine lv_aload_n hx hb dX12_isUnified_23 rfl (lv_at hl 1 rfl) ?_
      refine lv_aload_n hx hb dX12_isUnified_24 rfl (lv_at hl 1 rfl) ?_
      obtain ⟨a35, e_a35, hF⟩ := xbd hF
      refine gf_X12_59 C0 hR t_v0 e_a35 dX12_isUnified_25 ?_
      refine lv_iload_n hx hb dX12_isUnified_28 rfl (lv_at hl 0 rfl) ?_
      obtain ⟨a36, e_a36, hF⟩ := xbd hF
      refine x_iald C0 hR e_a36 dX12_isUnified_29 ?_
      obtain ⟨a37, e_a37, hF⟩ := xbd hF
      refine cl_X12_248 C0 hR hS e_a37 t_v0 ⟨(Nat.le_of_ble_eq_true rfl), (Nat.le_of_ble_eq_true rfl)⟩ hl.1 (Nat.le_of_ble_eq_true rfl) ⟨(Nat.le_of_ble_eq_true rfl), (Nat.le_of_ble_eq_true rfl)⟩ dX12_isUnified_30 (fun H locs hR hS => ?_)
      refine lv_istore (lv' := [(4, .int a37), (3, .int (v3 + (-1))), (0, .ref v0)]) hx hb dX12_isUnified_33 hl (by decide) rfl (fun ls hl => ?_)
      refine lv_aload_n hx hb dX12_isUnified_35 rfl (lv_at hl 2 rfl) ?_
      refine lv_aload_n hx hb dX12_isUnified_36 rfl (lv_at hl 2 rfl) ?_
      obtain ⟨a38, e_a38, hF⟩ := xbd hF
      refine gf_X12_62 C0 hR t_v0 e_a38 dX12_isUnified_37 ?_
      refine lv_iload_n hx hb dX12_isUnified_40 rfl (lv_at hl 1 rfl) ?_
      obtain ⟨a39, e_a39, hF⟩ := xbd hF
      refine x_iald C0 hR e_a39 dX12_isUnified_41 ?_
      obtain ⟨a40, e_a40, hF⟩ := xbd hF
      refine cl_X12_248 C0 hR hS e_a40 t_v0 ⟨(Nat.le_of_ble_eq_true rfl), (Nat.le_of_ble_eq_true rfl)⟩ hl.1 (Nat.le_of_ble_eq_true rfl) ⟨(Nat.le_of_ble_eq_true rfl), (Nat.le_of_ble_eq_true rfl)⟩ dX12_isUnified_42 (fun H locs hR hS => ?_)
      refine lv_istore (lv' := [(5, .int a40), (4, .int a37), (3, .int (v3 + (-1))), (0, .ref v0)]) hx hb dX12_isUnified_45 hl (by decide) rfl (fun ls hl => ?_)
      refine lv_aload_n hx hb dX12_isUnified_47 rfl (lv_at hl 3 rfl) ?_
      obtain ⟨a41, e_a41, hF⟩ := xbd hF
      refine gf_X12_53 C0 hR t_v0 e_a41 dX12_isUnified_48 ?_
      refine lv_iload hx hb dX12_isUnified_51 (lv_at hl 1 rfl) ?_
      obtain ⟨a42, e_a42, hF⟩ := xbd hF
      refine x_iald C0 hR e_a42 dX12_isUnified_53 ?_
      refine lv_aload_n hx hb dX12_isUnified_54 rfl (lv_at hl 3 rfl) ?_
      obtain ⟨a43, e_a43, hF⟩ := xbd hF
      refine gf_X12_53 C0 hR t_v0 e_a43 dX12_isUnified_55 ?_
      refine lv_iload hx hb dX12_isUnified_58 (lv_at hl 0 rfl) ?_
      obtain ⟨a44, e_a44, hF⟩ := xbd hF
      refine x_iald C0 hR e_a44 dX12_isUnified_60 ?_
      refine lv_icmp_ne (tgt := 79) hx hb dX12_isUnified_61 (by decide) (fun c45 => ?_) (fun c45 => ?_)
      · have hF := xel hF c45
        exact jw_X12_isUnified_79 C0 ih _ _ _ _ _ t_v0 hF _ _ hR hS _ (lv_sub hl [3, 2, 1, 0] rfl)
      · have hF := xif hF c45
        refine lv_aload_n hx hb dX12_isUnified_64 rfl (lv_at hl 3 rfl) ?_
        obtain ⟨a46, e_a46, hF⟩ := xbd hF
        refine gf_X12_53 C0 hR t_v0 e_a46 dX12_isUnified_65 ?_
        refine lv_iload hx hb dX12_isUnified_68 (lv_at hl 1 rfl) ?_
        obtain ⟨a47, e_a47, hF⟩ := xbd hF
        refine x_iald C0 hR e_a47 dX12_isUnified_70 ?_
        refine lv_bipush (v := 100) hx hb dX12_isUnified_71 (by decide) ?_
        refine lv_icmp_lt (tgt := 79) hx hb dX12_isUnified_73 (by decide) (fun c48 => ?_) (fun c48 => ?_)
        · have hF := xif hF c48
          exact jw_X12_isUnified_79 C0 ih _ _ _ _ _ t_v0 hF _ _ hR hS _ (lv_sub hl [3, 2, 1, 0] rfl)
        · have hF := xel hF c48
          refine lv_goto (tgt := 16) hx hb dX12_isUnified_76 (by decide) ?_
          exact ih _ _ _ t_v0 hF _ _ hR hS _ (lv_sub hl [3, 2] rfl)
set_option maxHeartbeats 4000000 in
set_option maxRecDepth 100000 in
theorem jc_X12_isUnified {l : Launch} {D : xD} {ty : xTy} {h : xH} {v0 : Nat} {v1 : Int32} {v2 : Int32} {r : Int32} {h9 : xH} (t_v0 : ty v0 = some (0, 12)) (hF : jf_X12_isUnified ty h v0 v1 v2 = some (r, h9)) : Met l yX12_isUnified (xws yX12_isUnified cX12_isUnified 9 (some .boolean)) jr_X12_isUnified (xPc D ty h [.ref v0, .int v1, .int v2]) (xQ D ty (some (.int r)) h9) 0 0 (xdom ty) := by
  refine x_met (by decide) ?_
  intro p e s m below meth c C0 hR
  generalize hargs : ([.ref v0, .int v1, .int v2] : List Value).toArray = args at C0 ⊢
  have hx := C0.1
  have hb := C0.2.1
  have hown := C0.2.2.2.2.2.1
  have hts := C0.2.2.2.2.2.2.1
  have hS : xS ty s.heap s.heap [] := xS.rf
  have hl := lv_entry ([.ref v0, .int v1, .int v2]) (n := 9) (Nat.le_of_ble_eq_true rfl)
  rw [← hargs, lg_entry_eq]
  rw [hargs]
  generalize (lg_sl ([.ref v0, .int v1, .int v2]) ++ List.replicate (9 - (lg_sl ([.ref v0, .int v1, .int v2])).length) Slot.unset).toArray = ls at hl ⊢
  have hl : lv_has ls 9 [(0, .ref v0), (1, .int v1), (2, .int v2)] := hl
  unfold jf_X12_isUnified at hF
  refine lv_iconst (v := 1) hx hb dX12_isUnified_0 (by decide) ?_
  refine lv_istore_n (lv' := [(3, .int 1), (0, .ref v0), (1, .int v1), (2, .int v2)]) hx hb dX12_isUnified_1 rfl hl (by decide) rfl (fun ls hl => ?_)
  refine lv_aload_n hx hb dX12_isUnified_2 rfl (lv_at hl 1 rfl) ?_
  obtain ⟨a49, e_a49, hF⟩ := xbd hF
  refine gf_X12_59 C0 hR t_v0 e_a49 dX12_isUnified_3 ?_
  refine lv_iconst (v := 0) hx hb dX12_isUnified_6 (by decide) ?_
  refine lv_iload_n hx hb dX12_isUnified_7 rfl (lv_at hl 2 rfl) ?_
  obtain ⟨h50, e_h50, hF⟩ := xbd hF
  refine x_iast C0 hR hS e_h50 dX12_isUnified_8 (fun H locs hR hS => ?_)
  refine lv_aload_n hx hb dX12_isUnified_9 rfl (lv_at hl 1 rfl) ?_
  obtain ⟨a51, e_a51, hF⟩ := xbd hF
  refine gf_X12_62 C0 hR t_v0 e_a51 dX12_isUnified_10 ?_
  refine lv_iconst (v := 0) hx hb dX12_isUnified_13 (by decide) ?_
  refine lv_iload_n hx hb dX12_isUnified_14 rfl (lv_at hl 3 rfl) ?_
  obtain ⟨h52, e_h52, hF⟩ := xbd hF
  refine x_iast C0 hR hS e_h52 dX12_isUnified_15 (fun H locs hR hS => ?_)
  obtain ⟨_, hF⟩ := xlim_sp hF
  exact jw_X12_isUnified_16 C0 _ _ _ _ t_v0 hF _ _ hR hS _ (lv_sub hl [1, 0] rfl)
theorem xm_X12_isUnified : xMw yX12_isUnified cX12_isUnified 9 (some .boolean) 2 := ⟨xin 1645 (by decide +kernel) rfl, xin 126 (by decide +kernel) rfl, by decide +kernel⟩
theorem xi_X12_isUnified : Cond.instanceMethod yX12_isUnified ∈ xT := xin 1644 (by decide +kernel) rfl
theorem xe_X12_isUnified : Cond.selects yX12_isUnified.cls yX12_isUnified yX12_isUnified ∈ xT := xin 81 (by decide +kernel) rfl
theorem dX12_isShaped_0 : decode cX12_isShaped 0 = .ok (.iconst 1, 1) := by decide +kernel
theorem dX12_isShaped_1 : decode cX12_isShaped 1 = .ok (.istore_n 2, 1) := by decide +kernel
theorem dX12_isShaped_2 : decode cX12_isShaped 2 = .ok (.iconst 0, 1) := by decide +kernel
theorem dX12_isShaped_3 : decode cX12_isShaped 3 = .ok (.istore_n 3, 1) := by decide +kernel
theorem dX12_isShaped_4 : decode cX12_isShaped 4 = .ok (.aload_n 0, 1) := by decide +kernel
theorem dX12_isShaped_5 : decode cX12_isShaped 5 = .ok (.iconst 0, 1) := by decide +kernel
theorem dX12_isShaped_6 : decode cX12_isShaped 6 = .ok (.putfield 257, 3) := by decide +kernel
theorem dX12_isShaped_9 : decode cX12_isShaped 9 = .ok (.aload_n 0, 1) := by decide +kernel
theorem dX12_isShaped_10 : decode cX12_isShaped 10 = .ok (.getfield 65, 3) := by decide +kernel
theorem dX12_isShaped_13 : decode cX12_isShaped 13 = .ok (.iconst 0, 1) := by decide +kernel
theorem dX12_isShaped_14 : decode cX12_isShaped 14 = .ok (.iload_n 1, 1) := by decide +kernel
theorem dX12_isShaped_15 : decode cX12_isShaped 15 = .ok (.iastore, 1) := by decide +kernel
theorem dX12_isShaped_16 : decode cX12_isShaped 16 = .ok (.iconst 0, 1) := by decide +kernel
theorem dX12_isShaped_17 : decode cX12_isShaped 17 = .ok (.istore 4, 2) := by decide +kernel
theorem dX12_isShaped_19 : decode cX12_isShaped 19 = .ok (.iload 4, 2) := by decide +kernel
theorem dX12_isShaped_21 : decode cX12_isShaped 21 = .ok (.bipush 48, 2) := by decide +kernel
theorem dX12_isShaped_23 : decode cX12_isShaped 23 = .ok (.if_icmp .ge 17, 3) := by decide +kernel
theorem dX12_isShaped_26 : decode cX12_isShaped 26 = .ok (.aload_n 0, 1) := by decide +kernel
theorem dX12_isShaped_27 : decode cX12_isShaped 27 = .ok (.getfield 71, 3) := by decide +kernel
theorem dX12_isShaped_30 : decode cX12_isShaped 30 = .ok (.iload 4, 2) := by decide +kernel
theorem dX12_isShaped_32 : decode cX12_isShaped 32 = .ok (.iconst (-1), 1) := by decide +kernel
theorem dX12_isShaped_33 : decode cX12_isShaped 33 = .ok (.iastore, 1) := by decide +kernel
theorem dX12_isShaped_34 : decode cX12_isShaped 34 = .ok (.iinc 4 1, 3) := by decide +kernel
theorem dX12_isShaped_37 : decode cX12_isShaped 37 = .ok (.goto (-18), 3) := by decide +kernel
theorem dX12_isShaped_40 : decode cX12_isShaped 40 = .ok (.iload_n 2, 1) := by decide +kernel
theorem dX12_isShaped_41 : decode cX12_isShaped 41 = .ok (.ifCond .le 173, 3) := by decide +kernel
theorem dX12_isShaped_44 : decode cX12_isShaped 44 = .ok (.iinc 2 (-1), 3) := by decide +kernel
theorem dX12_isShaped_47 : decode cX12_isShaped 47 = .ok (.aload_n 0, 1) := by decide +kernel
theorem dX12_isShaped_48 : decode cX12_isShaped 48 = .ok (.aload_n 0, 1) := by decide +kernel
theorem dX12_isShaped_49 : decode cX12_isShaped 49 = .ok (.getfield 65, 3) := by decide +kernel
theorem dX12_isShaped_52 : decode cX12_isShaped 52 = .ok (.iload_n 2, 1) := by decide +kernel
theorem dX12_isShaped_53 : decode cX12_isShaped 53 = .ok (.iaload, 1) := by decide +kernel
theorem dX12_isShaped_54 : decode cX12_isShaped 54 = .ok (.invokevirtual 248, 3) := by decide +kernel
theorem dX12_isShaped_57 : decode cX12_isShaped 57 = .ok (.istore 4, 2) := by decide +kernel
theorem dX12_isShaped_59 : decode cX12_isShaped 59 = .ok (.aload_n 0, 1) := by decide +kernel
theorem dX12_isShaped_60 : decode cX12_isShaped 60 = .ok (.getfield 257, 3) := by decide +kernel
theorem dX12_isShaped_63 : decode cX12_isShaped 63 = .ok (.bipush 60, 2) := by decide +kernel
theorem dX12_isShaped_65 : decode cX12_isShaped 65 = .ok (.if_icmp .ne 5, 3) := by decide +kernel
theorem dX12_isShaped_68 : decode cX12_isShaped 68 = .ok (.iconst 0, 1) := by decide +kernel
theorem dX12_isShaped_69 : decode cX12_isShaped 69 = .ok (.ireturn, 1) := by decide +kernel
theorem dX12_isShaped_70 : decode cX12_isShaped 70 = .ok (.aload_n 0, 1) := by decide +kernel
theorem dX12_isShaped_71 : decode cX12_isShaped 71 = .ok (.getfield 53, 3) := by decide +kernel
theorem dX12_isShaped_74 : decode cX12_isShaped 74 = .ok (.iload 4, 2) := by decide +kernel
theorem dX12_isShaped_76 : decode cX12_isShaped 76 = .ok (.iaload, 1) := by decide +kernel
theorem dX12_isShaped_77 : decode cX12_isShaped 77 = .ok (.istore 5, 2) := by decide +kernel
theorem dX12_isShaped_79 : decode cX12_isShaped 79 = .ok (.iload 5, 2) := by decide +kernel
theorem dX12_isShaped_81 : decode cX12_isShaped 81 = .ok (.bipush 100, 2) := by decide +kernel
theorem dX12_isShaped_83 : decode cX12_isShaped 83 = .ok (.if_icmp .lt 30, 3) := by decide +kernel
theorem dX12_isShaped_86 : decode cX12_isShaped 86 = .ok (.aload_n 0, 1) := by decide +kernel
theorem dX12_isShaped_87 : decode cX12_isShaped 87 = .ok (.getfield 71, 3) := by decide +kernel
theorem dX12_isShaped_90 : decode cX12_isShaped 90 = .ok (.iload 5, 2) := by decide +kernel
theorem dX12_isShaped_92 : decode cX12_isShaped 92 = .ok (.bipush 100, 2) := by decide +kernel
theorem dX12_isShaped_94 : decode cX12_isShaped 94 = .ok (.isub, 1) := by decide +kernel
theorem dX12_isShaped_95 : decode cX12_isShaped 95 = .ok (.iaload, 1) := by decide +kernel
theorem dX12_isShaped_96 : decode cX12_isShaped 96 = .ok (.ifCond .ge 17, 3) := by decide +kernel
theorem dX12_isShaped_99 : decode cX12_isShaped 99 = .ok (.aload_n 0, 1) := by decide +kernel
theorem dX12_isShaped_100 : decode cX12_isShaped 100 = .ok (.getfield 71, 3) := by decide +kernel
theorem dX12_isShaped_103 : decode cX12_isShaped 103 = .ok (.iload 5, 2) := by decide +kernel
theorem dX12_isShaped_105 : decode cX12_isShaped 105 = .ok (.bipush 100, 2) := by decide +kernel
theorem dX12_isShaped_107 : decode cX12_isShaped 107 = .ok (.isub, 1) := by decide +kernel
theorem dX12_isShaped_108 : decode cX12_isShaped 108 = .ok (.iload_n 3, 1) := by decide +kernel
theorem dX12_isShaped_109 : decode cX12_isShaped 109 = .ok (.iastore, 1) := by decide +kernel
theorem dX12_isShaped_110 : decode cX12_isShaped 110 = .ok (.iinc 3 1, 3) := by decide +kernel
theorem dX12_isShaped_113 : decode cX12_isShaped 113 = .ok (.aload_n 0, 1) := by decide +kernel
theorem dX12_isShaped_114 : decode cX12_isShaped 114 = .ok (.getfield 68, 3) := by decide +kernel
theorem dX12_isShaped_117 : decode cX12_isShaped 117 = .ok (.aload_n 0, 1) := by decide +kernel
theorem dX12_isShaped_118 : decode cX12_isShaped 118 = .ok (.getfield 257, 3) := by decide +kernel
theorem dX12_isShaped_121 : decode cX12_isShaped 121 = .ok (.iload 5, 2) := by decide +kernel
theorem dX12_isShaped_123 : decode cX12_isShaped 123 = .ok (.bipush 100, 2) := by decide +kernel
theorem dX12_isShaped_125 : decode cX12_isShaped 125 = .ok (.if_icmp .ge 8, 3) := by decide +kernel
theorem dX12_isShaped_128 : decode cX12_isShaped 128 = .ok (.iload 5, 2) := by decide +kernel
theorem dX12_isShaped_130 : decode cX12_isShaped 130 = .ok (.goto 16, 3) := by decide +kernel
theorem dX12_isShaped_133 : decode cX12_isShaped 133 = .ok (.bipush 100, 2) := by decide +kernel
theorem dX12_isShaped_135 : decode cX12_isShaped 135 = .ok (.aload_n 0, 1) := by decide +kernel
theorem dX12_isShaped_136 : decode cX12_isShaped 136 = .ok (.getfield 71, 3) := by decide +kernel
theorem dX12_isShaped_139 : decode cX12_isShaped 139 = .ok (.iload 5, 2) := by decide +kernel
theorem dX12_isShaped_141 : decode cX12_isShaped 141 = .ok (.bipush 100, 2) := by decide +kernel
theorem dX12_isShaped_143 : decode cX12_isShaped 143 = .ok (.isub, 1) := by decide +kernel
theorem dX12_isShaped_144 : decode cX12_isShaped 144 = .ok (.iaload, 1) := by decide +kernel
theorem dX12_isShaped_145 : decode cX12_isShaped 145 = .ok (.iadd, 1) := by decide +kernel
theorem dX12_isShaped_146 : decode cX12_isShaped 146 = .ok (.iastore, 1) := by decide +kernel
theorem dX12_isShaped_147 : decode cX12_isShaped 147 = .ok (.aload_n 0, 1) := by decide +kernel
theorem dX12_isShaped_148 : decode cX12_isShaped 148 = .ok (.dup, 1) := by decide +kernel
theorem dX12_isShaped_149 : decode cX12_isShaped 149 = .ok (.getfield 257, 3) := by decide +kernel
theorem dX12_isShaped_152 : decode cX12_isShaped 152 = .ok (.iconst 1, 1) := by decide +kernel
theorem dX12_isShaped_153 : decode cX12_isShaped 153 = .ok (.iadd, 1) := by decide +kernel
theorem dX12_isShaped_154 : decode cX12_isShaped 154 = .ok (.putfield 257, 3) := by decide +kernel
theorem dX12_isShaped_157 : decode cX12_isShaped 157 = .ok (.aload_n 0, 1) := by decide +kernel
theorem dX12_isShaped_158 : decode cX12_isShaped 158 = .ok (.iload 5, 2) := by decide +kernel
theorem dX12_isShaped_160 : decode cX12_isShaped 160 = .ok (.invokevirtual 251, 3) := by decide +kernel
theorem dX12_isShaped_163 : decode cX12_isShaped 163 = .ok (.istore 6, 2) := by decide +kernel
theorem dX12_isShaped_165 : decode cX12_isShaped 165 = .ok (.iload_n 2, 1) := by decide +kernel
theorem dX12_isShaped_166 : decode cX12_isShaped 166 = .ok (.iload 6, 2) := by decide +kernel
theorem dX12_isShaped_168 : decode cX12_isShaped 168 = .ok (.iadd, 1) := by decide +kernel
theorem dX12_isShaped_169 : decode cX12_isShaped 169 = .ok (.istore_n 2, 1) := by decide +kernel
theorem dX12_isShaped_170 : decode cX12_isShaped 170 = .ok (.iload 4, 2) := by decide +kernel
theorem dX12_isShaped_172 : decode cX12_isShaped 172 = .ok (.iconst 1, 1) := by decide +kernel
theorem dX12_isShaped_173 : decode cX12_isShaped 173 = .ok (.iadd, 1) := by decide +kernel
theorem dX12_isShaped_174 : decode cX12_isShaped 174 = .ok (.istore 7, 2) := by decide +kernel
theorem dX12_isShaped_176 : decode cX12_isShaped 176 = .ok (.iconst 1, 1) := by decide +kernel
theorem dX12_isShaped_177 : decode cX12_isShaped 177 = .ok (.istore 8, 2) := by decide +kernel
theorem dX12_isShaped_179 : decode cX12_isShaped 179 = .ok (.iload 8, 2) := by decide +kernel
theorem dX12_isShaped_181 : decode cX12_isShaped 181 = .ok (.iload 6, 2) := by decide +kernel
theorem dX12_isShaped_183 : decode cX12_isShaped 183 = .ok (.if_icmp .gt 28, 3) := by decide +kernel
theorem dX12_isShaped_186 : decode cX12_isShaped 186 = .ok (.aload_n 0, 1) := by decide +kernel
theorem dX12_isShaped_187 : decode cX12_isShaped 187 = .ok (.getfield 65, 3) := by decide +kernel
theorem dX12_isShaped_190 : decode cX12_isShaped 190 = .ok (.iload_n 2, 1) := by decide +kernel
theorem dX12_isShaped_191 : decode cX12_isShaped 191 = .ok (.iload 8, 2) := by decide +kernel
theorem dX12_isShaped_193 : decode cX12_isShaped 193 = .ok (.isub, 1) := by decide +kernel
theorem dX12_isShaped_194 : decode cX12_isShaped 194 = .ok (.iload 7, 2) := by decide +kernel
theorem dX12_isShaped_196 : decode cX12_isShaped 196 = .ok (.iastore, 1) := by decide +kernel
theorem dX12_isShaped_197 : decode cX12_isShaped 197 = .ok (.aload_n 0, 1) := by decide +kernel
theorem dX12_isShaped_198 : decode cX12_isShaped 198 = .ok (.iload 7, 2) := by decide +kernel
theorem dX12_isShaped_200 : decode cX12_isShaped 200 = .ok (.invokevirtual 241, 3) := by decide +kernel
theorem dX12_isShaped_203 : decode cX12_isShaped 203 = .ok (.istore 7, 2) := by decide +kernel
theorem dX12_isShaped_205 : decode cX12_isShaped 205 = .ok (.iinc 8 1, 3) := by decide +kernel
theorem dX12_isShaped_208 : decode cX12_isShaped 208 = .ok (.goto (-29), 3) := by decide +kernel
theorem dX12_isShaped_211 : decode cX12_isShaped 211 = .ok (.goto (-171), 3) := by decide +kernel
theorem dX12_isShaped_214 : decode cX12_isShaped 214 = .ok (.iconst 1, 1) := by decide +kernel
theorem dX12_isShaped_215 : decode cX12_isShaped 215 = .ok (.ireturn, 1) := by decide +kernel
theorem wf_X12_257 : Cond.fieldLink RX12 257 "TermShelfModel" "shapeLong" "I" ∈ xT := xin 1351 (by decide +kernel) rfl
theorem wf_X12_68 : Cond.fieldLink RX12 68 "TermShelfModel" "shape" "[I" ∈ xT := xin 1350 (by decide +kernel) rfl
theorem wf_X12_71 : Cond.fieldLink RX12 71 "TermShelfModel" "numberOf" "[I" ∈ xT := xin 1352 (by decide +kernel) rfl
section XN_X12_isShaped
variable {p : Program} {l : Launch} {e : Env} {R : Room} {s : State} {m : MethodId} {args : Array Value} {below : List Frame} {meth : Method} {c : Code} {H H0 : Heap} {locs : List Loc} {cells slots : Nat} {Q : State → Prop} {cc : ByteArray} {nL pc : Nat} {rt : Option FieldType} {ls : Array Slot} {rest : List Value} {D : xD} {ty : xTy} {h : xH}
theorem gf_X12_257 {a : Nat} (C0 : xC D RX12 cc nL rt p s m args meth c) (hR : xRep D ty h H) (ht : ty a = some (0, 12)) (hdg : decode cc pc = .ok (.getfield 257, 3)) (kk : W p l e R s m args below meth c H locs cells slots Q (F0 m (pc + 3) ls (.int (xI h a 39) :: rest))) : W p l e R s m args below meth c H locs cells slots Q (F0 m pc ls (.ref a :: rest)) := x_get C0 hR (ci := 12) (k := 39) (N := 60) (T := TX12) rfl iX12 (by decide) rfl wf_X12_257 rfl ht hdg kk
theorem gf_X12_68 {a : Nat} (C0 : xC D RX12 cc nL rt p s m args meth c) (hR : xRep D ty h H) (ht : ty a = some (0, 12)) {v : Nat} (hv : xR h a 38 = some v) (hdg : decode cc pc = .ok (.getfield 68, 3)) (kk : W p l e R s m args below meth c H locs cells slots Q (F0 m (pc + 3) ls (.ref v :: rest))) : W p l e R s m args below meth c H locs cells slots Q (F0 m pc ls (.ref a :: rest)) := x_get C0 hR (ci := 12) (k := 38) (N := 60) (T := TX12) rfl iX12 (by decide) rfl wf_X12_68 (by show va_rf (xR h a 38) = _; rw [hv]; rfl) ht hdg kk
theorem gf_X12_71 {a : Nat} (C0 : xC D RX12 cc nL rt p s m args meth c) (hR : xRep D ty h H) (ht : ty a = some (0, 12)) {v : Nat} (hv : xR h a 40 = some v) (hdg : decode cc pc = .ok (.getfield 71, 3)) (kk : W p l e R s m args below meth c H locs cells slots Q (F0 m (pc + 3) ls (.ref v :: rest))) : W p l e R s m args below meth c H locs cells slots Q (F0 m pc ls (.ref a :: rest)) := x_get C0 hR (ci := 12) (k := 40) (N := 60) (T := TX12) rfl iX12 (by decide) rfl wf_X12_71 (by show va_rf (xR h a 40) = _; rw [hv]; rfl) ht hdg kk
theorem pf_X12_257 {a : Nat} {v : Int32} (C0 : xC D RX12 cc nL rt p s m args meth c) (hR : xRep D ty h H) (hS : xS ty H0 H locs) (ht : ty a = some (0, 12)) (hdg : decode cc pc = .ok (.putfield 257, 3)) (kk : ∀ (H1 : Heap) (locs1 : List Loc), xRep D ty (xsI h a 39 v) H1 → xS ty H0 H1 locs1 → W p l e R s m args below meth c H1 locs1 cells slots Q (F0 m (pc + 3) ls rest)) : W p l e R s m args below meth c H locs cells slots Q (F0 m pc ls (.int v :: .ref a :: rest)) := x_puti C0 hR hS (ci := 12) (k := 39) (N := 60) (T := TX12) rfl iX12 tyX12_ok nmX12 (by decide) rfl rfl wf_X12_257 (Or.inl rfl) rfl rfl ht hdg kk
end XN_X12_isShaped
set_option maxHeartbeats 4000000 in
set_option maxRecDepth 100000 in
theorem jw_X12_isShaped_179 {p : Program} {l : Launch} {e : Env} {s : State} {m : MethodId} {args : Array Value} {below : List Frame} {meth : Method} {c : Code} {D : xD} {ty : xTy} {k40 : Nat → Int32 → Int32 → xH → Option (Int32 × xH)} (C0 : xC D RX12 cX12_isShaped 9 (some .boolean) p s m args meth c) {r : Int32} {h9 : xH} (hk40 : ∀ (v0 : Nat) (v2 : Int32) (v3 : Int32) (h : xH), ty v0 = some (0, 12) → k40 v0 v2 v3 h = some (r, h9) → ∀ (H : Heap) (locs : List Loc), xRep D ty h H → xS ty s.heap H locs → ∀ ls : Array Slot, lv_has ls 9 [(0, .ref v0), (2, .int v2), (3, .int v3)] → W p l e jr_X12_isShaped s m args below meth c H locs 0 0 (MQ below (xQ D ty (some (.int r)) h9) args s 0 0 (xdom ty)) (F0 m 40 ls [])) : ∀ n : Nat, ∀ (v0 : Nat) (v2 : Int32) (v3 : Int32) (v6 : Int32) (v7 : Int32) (v8 : Int32) (h : xH), ty v0 = some (0, 12) → jf_X12_isShaped_179 ty k40 n v0 v2 v3 v6 v7 v8 h = some (r, h9) → ∀ (H : Heap) (locs : List Loc), xRep D ty h H → xS ty s.heap H locs → ∀ ls : Array Slot, lv_has ls 9 [(0, .ref v0), (2, .int v2), (3, .int v3), (6, .int v6), (7, .int v7), (8, .int v8)] → W p l e jr_X12_isShaped s m args below meth c H locs 0 0 (MQ below (xQ D ty (some (.int r)) h9) args s 0 0 (xdom ty)) (F0 m 179 ls []) := by
  have hx := C0.1
  have hb := C0.2.1
  have hown := C0.2.2.2.2.2.1
  have hts := C0.2.2.2.2.2.2.1
  intro n
  induction n with
  | zero =>
    intro v0 v2 v3 v6 v7 v8 h t_v0 hF H locs hR hS ls hl
    cases hF
  | succ n ih =>
    intro v0 v2 v3 v6 v7 v8 h t_v0 hF H locs hR hS ls hl
    rw [jf_X12_isShaped_179_s] at hF
    refine lv_iload hx hb dX12_isShaped_179 (lv_at hl 5 rfl) ?_
    refine lv_iload hx hb dX12_isShaped_181 (lv_at hl 3 rfl) ?_
    refine lv_icmp_gt (tgt := 211) hx hb dX12_isShaped_183 (by decide) (fun c1 => ?_) (fun c1 => ?_)
    · have hF := xif hF c1
      refine lv_goto (tgt := 40) hx hb dX12_isShaped_211 (by decide) ?_
      exact hk40 _ _ _ _ t_v0 hF _ _ hR hS _ (lv_sub hl [0, 1, 2] rfl)
    · have hF := xel hF c1
      refine lv_aload_n hx hb dX12_isShaped_186 rfl (lv_at hl 0 rfl) ?_
      obtain ⟨a2, e_a2, hF⟩ := xbd hF
      refine gf_X12_65 C0 hR t_v0 e_a2 dX12_isShaped_187 ?_
      refine lv_iload_n hx hb dX12_isShaped_190 rfl (lv_at hl 1 rfl) ?_
      refine lv_iload hx hb dX12_isShaped_191 (lv_at hl 5 rfl) ?_
      refine lv_isub hx hb dX12_isShaped_193 ?_
      refine lv_iload hx hb dX12_isShaped_194 (lv_at hl 4 rfl) ?_
      obtain ⟨h3, e_h3, hF⟩ := xbd hF
      refine x_iast C0 hR hS e_h3 dX12_isShaped_196 (fun H locs hR hS => ?_)
      refine lv_aload_n hx hb dX12_isShaped_197 rfl (lv_at hl 0 rfl) ?_
      refine lv_iload hx hb dX12_isShaped_198 (lv_at hl 4 rfl) ?_
      obtain ⟨a4, e_a4, hF⟩ := xbd hF
      refine cl_X12_241 C0 hR hS e_a4 t_v0 ⟨(Nat.le_of_ble_eq_true rfl), (Nat.le_of_ble_eq_true rfl)⟩ hl.1 (Nat.le_of_ble_eq_true rfl) ⟨(Nat.le_of_ble_eq_true rfl), (Nat.le_of_ble_eq_true rfl)⟩ dX12_isShaped_200 (fun H locs hR hS => ?_)
      refine lv_istore (lv' := [(7, .int a4), (0, .ref v0), (2, .int v2), (3, .int v3), (6, .int v6), (8, .int v8)]) hx hb dX12_isShaped_203 hl (by decide) rfl (fun ls hl => ?_)
      refine lv_iinc (v := v8 + 1) (lv' := [(8, .int (v8 + 1)), (7, .int a4), (0, .ref v0), (2, .int v2), (3, .int v3), (6, .int v6)]) hx hb dX12_isShaped_205 hl (k := 5) rfl rfl (by decide) rfl (fun ls hl => ?_)
      refine lv_goto (tgt := 179) hx hb dX12_isShaped_208 (by decide) ?_
      exact ih _ _ _ _ _ _ _ t_v0 hF _ _ hR hS _ (lv_sub hl [2, 3, 4, 5, 1, 0] rfl)
set_option maxHeartbeats 4000000 in
set_option maxRecDepth 100000 in
theorem jw_X12_isShaped_146 {p : Program} {l : Launch} {e : Env} {s : State} {m : MethodId} {args : Array Value} {below : List Frame} {meth : Method} {c : Code} {D : xD} {ty : xTy} {k40 : Nat → Int32 → Int32 → xH → Option (Int32 × xH)} (C0 : xC D RX12 cX12_isShaped 9 (some .boolean) p s m args meth c) {r : Int32} {h9 : xH} (hk40 : ∀ (v0 : Nat) (v2 : Int32) (v3 : Int32) (h : xH), ty v0 = some (0, 12) → k40 v0 v2 v3 h = some (r, h9) → ∀ (H : Heap) (locs : List Loc), xRep D ty h H → xS ty s.heap H locs → ∀ ls : Array Slot, lv_has ls 9 [(0, .ref v0), (2, .int v2), (3, .int v3)] → W p l e jr_X12_isShaped s m args below meth c H locs 0 0 (MQ below (xQ D ty (some (.int r)) h9) args s 0 0 (xdom ty)) (F0 m 40 ls [])) : ∀ (v0 : Nat) (v2 : Int32) (v3 : Int32) (v4 : Int32) (v5 : Int32) (s0 : Nat) (s1 : Int32) (s2 : Int32) (h : xH), ty v0 = some (0, 12) → jf_X12_isShaped_146 ty k40 v0 v2 v3 v4 v5 s0 s1 s2 h = some (r, h9) → ∀ (H : Heap) (locs : List Loc), xRep D ty h H → xS ty s.heap H locs → ∀ ls : Array Slot, lv_has ls 9 [(0, .ref v0), (2, .int v2), (3, .int v3), (4, .int v4), (5, .int v5)] → W p l e jr_X12_isShaped s m args below meth c H locs 0 0 (MQ below (xQ D ty (some (.int r)) h9) args s 0 0 (xdom ty)) (F0 m 146 ls [.int s2, .int s1, .ref s0]) := by
  have hx := C0.1
  have hb := C0.2.1
  have hown := C0.2.2.2.2.2.1
  have hts := C0.2.2.2.2.2.2.1
  intro v0 v2 v3 v4 v5 s0 s1 s2 h t_v0 hF H locs hR hS ls hl
  unfold jf_X12_isShaped_146 at hF
  obtain ⟨h5, e_h5, hF⟩ := xbd hF
  refine x_iast C0 hR hS e_h5 dX12_isShaped_146 (fun H locs hR hS => ?_)
  refine lv_aload_n hx hb dX12_isShaped_147 rfl (lv_at hl 0 rfl) ?_
  refine lv_dup hx hb dX12_isShaped_148 rfl ?_
  refine gf_X12_257 C0 hR t_v0 dX12_isShaped_149 ?_
  refine lv_iconst (v := 1) hx hb dX12_isShaped_152 (by decide) ?_
  refine lv_iadd hx hb dX12_isShaped_153 ?_
  obtain ⟨h6, e_h6, hF⟩ := xbd hF
  refine pf_X12_257 C0 hR hS t_v0 dX12_isShaped_154 (fun H locs hR hS => ?_)
  rw [Option.some.inj e_h6] at hR
  refine lv_aload_n hx hb dX12_isShaped_157 rfl (lv_at hl 0 rfl) ?_
  refine lv_iload hx hb dX12_isShaped_158 (lv_at hl 4 rfl) ?_
  obtain ⟨a7, e_a7, hF⟩ := xbd hF
  refine cl_X12_251 C0 hR hS e_a7 t_v0 ⟨(Nat.le_of_ble_eq_true rfl), (Nat.le_of_ble_eq_true rfl)⟩ hl.1 (Nat.le_of_ble_eq_true rfl) ⟨(Nat.le_of_ble_eq_true rfl), (Nat.le_of_ble_eq_true rfl)⟩ dX12_isShaped_160 (fun H locs hR hS => ?_)
  refine lv_istore (lv' := [(6, .int a7), (0, .ref v0), (2, .int v2), (3, .int v3), (4, .int v4), (5, .int v5)]) hx hb dX12_isShaped_163 hl (by decide) rfl (fun ls hl => ?_)
  refine lv_iload_n hx hb dX12_isShaped_165 rfl (lv_at hl 2 rfl) ?_
  refine lv_iload hx hb dX12_isShaped_166 (lv_at hl 0 rfl) ?_
  refine lv_iadd hx hb dX12_isShaped_168 ?_
  refine lv_istore_n (lv' := [(2, .int (v2 + a7)), (6, .int a7), (0, .ref v0), (3, .int v3), (4, .int v4), (5, .int v5)]) hx hb dX12_isShaped_169 rfl hl (by decide) rfl (fun ls hl => ?_)
  refine lv_iload hx hb dX12_isShaped_170 (lv_at hl 4 rfl) ?_
  refine lv_iconst (v := 1) hx hb dX12_isShaped_172 (by decide) ?_
  refine lv_iadd hx hb dX12_isShaped_173 ?_
  refine lv_istore (lv' := [(7, .int (v4 + 1)), (2, .int (v2 + a7)), (6, .int a7), (0, .ref v0), (3, .int v3), (4, .int v4), (5, .int v5)]) hx hb dX12_isShaped_174 hl (by decide) rfl (fun ls hl => ?_)
  refine lv_iconst (v := 1) hx hb dX12_isShaped_176 (by decide) ?_
  refine lv_istore (lv' := [(8, .int 1), (7, .int (v4 + 1)), (2, .int (v2 + a7)), (6, .int a7), (0, .ref v0), (3, .int v3), (4, .int v4), (5, .int v5)]) hx hb dX12_isShaped_177 hl (by decide) rfl (fun ls hl => ?_)
  obtain ⟨_, hF⟩ := xlim_sp hF
  exact jw_X12_isShaped_179 C0 hk40 _ _ _ _ _ _ _ _ t_v0 hF _ _ hR hS _ (lv_sub hl [4, 2, 5, 3, 1, 0] rfl)
set_option maxHeartbeats 4000000 in
set_option maxRecDepth 100000 in
theorem jw_X12_isShaped_113 {p : Program} {l : Launch} {e : Env} {s : State} {m : MethodId} {args : Array Value} {below : List Frame} {meth : Method} {c : Code} {D : xD} {ty : xTy} {k40 : Nat → Int32 → Int32 → xH → Option (Int32 × xH)} (C0 : xC D RX12 cX12_isShaped 9 (some .boolean) p s m args meth c) {r : Int32} {h9 : xH} (hk40 : ∀ (v0 : Nat) (v2 : Int32) (v3 : Int32) (h : xH), ty v0 = some (0, 12) → k40 v0 v2 v3 h = some (r, h9) → ∀ (H : Heap) (locs : List Loc), xRep D ty h H → xS ty s.heap H locs → ∀ ls : Array Slot, lv_has ls 9 [(0, .ref v0), (2, .int v2), (3, .int v3)] → W p l e jr_X12_isShaped s m args below meth c H locs 0 0 (MQ below (xQ D ty (some (.int r)) h9) args s 0 0 (xdom ty)) (F0 m 40 ls [])) : ∀ (v0 : Nat) (v2 : Int32) (v3 : Int32) (v4 : Int32) (v5 : Int32) (h : xH), ty v0 = some (0, 12) → jf_X12_isShaped_113 ty k40 v0 v2 v3 v4 v5 h = some (r, h9) → ∀ (H : Heap) (locs : List Loc), xRep D ty h H → xS ty s.heap H locs → ∀ ls : Array Slot, lv_has ls 9 [(0, .ref v0), (2, .int v2), (3, .int v3), (4, .int v4), (5, .int v5)] → W p l e jr_X12_isShaped s m args below meth c H locs 0 0 (MQ below (xQ D ty (some (.int r)) h9) args s 0 0 (xdom ty)) (F0 m 113 ls []) := by
  have hx := C0.1
  have hb := C0.2.1
  have hown := C0.2.2.2.2.2.1
  have hts := C0.2.2.2.2.2.2.1
  intro v0 v2 v3 v4 v5 h t_v0 hF H locs hR hS ls hl
  unfold jf_X12_isShaped_113 at hF
  refine lv_aload_n hx hb dX12_isShaped_113 rfl (lv_at hl 0 rfl) ?_
  obtain ⟨a8, e_a8, hF⟩ := xbd hF
  refine gf_X12_68 C0 hR t_v0 e_a8 dX12_isShaped_114 ?_
  refine lv_aload_n hx hb dX12_isShaped_117 rfl (lv_at hl 0 rfl) ?_
  refine gf_X12_257 C0 hR t_v0 dX12_isShaped_118 ?_
  refine lv_iload hx hb dX12_isShaped_121 (lv_at hl 4 rfl) ?_
  refine lv_bipush (v := 100) hx hb dX12_isShaped_123 (by decide) ?_
  refine lv_icmp_ge (tgt := 133) hx hb dX12_isShaped_125 (by decide) (fun c9 => ?_) (fun c9 => ?_)
  · have hF := xif hF c9
    refine lv_bipush (v := 100) hx hb dX12_isShaped_133 (by decide) ?_
    refine lv_aload_n hx hb dX12_isShaped_135 rfl (lv_at hl 0 rfl) ?_
    obtain ⟨a10, e_a10, hF⟩ := xbd hF
    refine gf_X12_71 C0 hR t_v0 e_a10 dX12_isShaped_136 ?_
    refine lv_iload hx hb dX12_isShaped_139 (lv_at hl 4 rfl) ?_
    refine lv_bipush (v := 100) hx hb dX12_isShaped_141 (by decide) ?_
    refine lv_isub hx hb dX12_isShaped_143 ?_
    obtain ⟨a11, e_a11, hF⟩ := xbd hF
    refine x_iald C0 hR e_a11 dX12_isShaped_144 ?_
    refine lv_iadd hx hb dX12_isShaped_145 ?_
    exact jw_X12_isShaped_146 C0 hk40 _ _ _ _ _ _ _ _ _ t_v0 hF _ _ hR hS _ (lv_sub hl [0, 1, 2, 3, 4] rfl)
  · have hF := xel hF c9
    refine lv_iload hx hb dX12_isShaped_128 (lv_at hl 4 rfl) ?_
    refine lv_goto (tgt := 146) hx hb dX12_isShaped_130 (by decide) ?_
    exact jw_X12_isShaped_146 C0 hk40 _ _ _ _ _ _ _ _ _ t_v0 hF _ _ hR hS _ (lv_sub hl [0, 1, 2, 3, 4] rfl)
set_option maxHeartbeats 4000000 in
set_option maxRecDepth 100000 in
theorem jw_X12_isShaped_40 {p : Program} {l : Launch} {e : Env} {s : State} {m : MethodId} {args : Array Value} {below : List Frame} {meth : Method} {c : Code} {D : xD} {ty : xTy} (C0 : xC D RX12 cX12_isShaped 9 (some .boolean) p s m args meth c) {r : Int32} {h9 : xH} : ∀ n : Nat, ∀ (v0 : Nat) (v2 : Int32) (v3 : Int32) (h : xH), ty v0 = some (0, 12) → jf_X12_isShaped_40 ty n v0 v2 v3 h = some (r, h9) → ∀ (H : Heap) (locs : List Loc), xRep D ty h H → xS ty s.heap H locs → ∀ ls : Array Slot, lv_has ls 9 [(0, .ref v0), (2, .int v2), (3, .int v3)] → W p l e jr_X12_isShaped s m args below meth c H locs 0 0 (MQ below (xQ D ty (some (.int r)) h9) args s 0 0 (xdom ty)) (F0 m 40 ls []) := by
  have hx := C0.1
  have hb := C0.2.1
  have hown := C0.2.2.2.2.2.1
  have hts := C0.2.2.2.2.2.2.1
  intro n
  induction n with
  | zero =>
    intro v0 v2 v3 h t_v0 hF H locs hR hS ls hl
    cases hF
  | succ n ih =>
    intro v0 v2 v3 h t_v0 hF H locs hR hS ls hl
    rw [jf_X12_isShaped_40_s] at hF
    refine lv_iload_n hx hb dX12_isShaped_40 rfl (lv_at hl 1 rfl) ?_
    refine lv_if_le (tgt := 214) hx hb dX12_isShaped_41 (by decide) (fun c12 => ?_) (fun c12 => ?_)
    · have hF := xif hF c12
      refine lv_iconst (v := 1) hx hb dX12_isShaped_214 (by decide) ?_
      cases hF
      exact x_zret (w := 1) C0 hR hS (by decide) dX12_isShaped_215
    · have hF := xel hF c12
      refine lv_iinc (v := v2 + (-1)) (lv' := [(2, .int (v2 + (-1))), (0, .ref v0), (3, .int v3)]) hx hb dX12_isShaped_44 hl (k := 1) rfl rfl (by decide) rfl (fun ls hl => ?_)
      refine lv_aload_n hx hb dX12_isShaped_47 rfl (lv_at hl 1 rfl) ?_
      refine lv_aload_n hx hb dX12_isShaped_48 rfl (lv_at hl 1 rfl) ?_
      obtain ⟨a13, e_a13, hF⟩ := xbd hF
      refine gf_X12_65 C0 hR t_v0 e_a13 dX12_isShaped_49 ?_
      refine lv_iload_n hx hb dX12_isShaped_52 rfl (lv_at hl 0 rfl) ?_
      obtain ⟨a14, e_a14, hF⟩ := xbd hF
      refine x_iald C0 hR e_a14 dX12_isShaped_53 ?_
      obtain ⟨a15, e_a15, hF⟩ := xbd hF
      refine cl_X12_248 C0 hR hS e_a15 t_v0 ⟨(Nat.le_of_ble_eq_true rfl), (Nat.le_of_ble_eq_true rfl)⟩ hl.1 (Nat.le_of_ble_eq_true rfl) ⟨(Nat.le_of_ble_eq_true rfl), (Nat.le_of_ble_eq_true rfl)⟩ dX12_isShaped_54 (fun H locs hR hS => ?_)
      refine lv_istore (lv' := [(4, .int a15), (2, .int (v2 + (-1))), (0, .ref v0), (3, .int v3)]) hx hb dX12_isShaped_57 hl (by decide) rfl (fun ls hl => ?_)
      refine lv_aload_n hx hb dX12_isShaped_59 rfl (lv_at hl 2 rfl) ?_
      refine gf_X12_257 C0 hR t_v0 dX12_isShaped_60 ?_
      refine lv_bipush (v := 60) hx hb dX12_isShaped_63 (by decide) ?_
      refine lv_icmp_ne (tgt := 70) hx hb dX12_isShaped_65 (by decide) (fun c16 => ?_) (fun c16 => ?_)
      · have hF := xel hF c16
        refine lv_aload_n hx hb dX12_isShaped_70 rfl (lv_at hl 2 rfl) ?_
        obtain ⟨a17, e_a17, hF⟩ := xbd hF
        refine gf_X12_53 C0 hR t_v0 e_a17 dX12_isShaped_71 ?_
        refine lv_iload hx hb dX12_isShaped_74 (lv_at hl 0 rfl) ?_
        obtain ⟨a18, e_a18, hF⟩ := xbd hF
        refine x_iald C0 hR e_a18 dX12_isShaped_76 ?_
        refine lv_istore (lv' := [(5, .int a18), (4, .int a15), (2, .int (v2 + (-1))), (0, .ref v0), (3, .int v3)]) hx hb dX12_isShaped_77 hl (by decide) rfl (fun ls hl => ?_)
        refine lv_iload hx hb dX12_isShaped_79 (lv_at hl 0 rfl) ?_
        refine lv_bipush (v := 100) hx hb dX12_isShaped_81 (by decide) ?_
        refine lv_icmp_lt (tgt := 113) hx hb dX12_isShaped_83 (by decide) (fun c19 => ?_) (fun c19 => ?_)
        · have hF := xif hF c19
          exact jw_X12_isShaped_113 C0 ih _ _ _ _ _ _ t_v0 hF _ _ hR hS _ (lv_sub hl [3, 2, 4, 1, 0] rfl)
        · have hF := xel hF c19
          refine lv_aload_n hx hb dX12_isShaped_86 rfl (lv_at hl 3 rfl) ?_
          obtain ⟨a20, e_a20, hF⟩ := xbd hF
          refine gf_X12_71 C0 hR t_v0 e_a20 dX12_isShaped_87 ?_
          refine lv_iload hx hb dX12_isShaped_90 (lv_at hl 0 rfl) ?_
          refine lv_bipush (v := 100) hx hb dX12_isShaped_92 (by decide) ?_
          refine lv_isub hx hb dX12_isShaped_94 ?_
          obtain ⟨a21, e_a21, hF⟩ := xbd hF
          refine x_iald C0 hR e_a21 dX12_isShaped_95 ?_
          refine lv_if_ge (tgt := 113) hx hb dX12_isShaped_96 (by decide) (fun c22 => ?_) (fun c22 => ?_)
          · have hF := xif hF c22
            exact jw_X12_isShaped_113 C0 ih _ _ _ _ _ _ t_v0 hF _ _ hR hS _ (lv_sub hl [3, 2, 4, 1, 0] rfl)
          · have hF := xel hF c22
            refine lv_aload_n hx hb dX12_isShaped_99 rfl (lv_at hl 3 rfl) ?_
            obtain ⟨a23, e_a23, hF⟩ := xbd hF
            refine gf_X12_71 C0 hR t_v0 e_a23 dX12_isShaped_100 ?_
            refine lv_iload hx hb dX12_isShaped_103 (lv_at hl 0 rfl) ?_
            refine lv_bipush (v := 100) hx hb dX12_isShaped_105 (by decide) ?_
            refine lv_isub hx hb dX12_isShaped_107 ?_
            refine lv_iload_n hx hb dX12_isShaped_108 rfl (lv_at hl 4 rfl) ?_
            obtain ⟨h24, e_h24, hF⟩ := xbd hF
            refine x_iast C0 hR hS e_h24 dX12_isShaped_109 (fun H locs hR hS => ?_)
            refine lv_iinc (v := v3 + 1) (lv' := [(3, .int (v3 + 1)), (5, .int a18), (4, .int a15), (2, .int (v2 + (-1))), (0, .ref v0)]) hx hb dX12_isShaped_110 hl (k := 4) rfl rfl (by decide) rfl (fun ls hl => ?_)
            exact jw_X12_isShaped_113 C0 ih _ _ _ _ _ _ t_v0 hF _ _ hR hS _ (lv_sub hl [4, 3, 0, 2, 1] rfl)
      · have hF := xif hF c16
        refine lv_iconst (v := 0) hx hb dX12_isShaped_68 (by decide) ?_
        cases hF
        exact x_zret (w := 0) C0 hR hS (by decide) dX12_isShaped_69
set_option maxHeartbeats 4000000 in
set_option maxRecDepth 100000 in
theorem jw_X12_isShaped_19 {p : Program} {l : Launch} {e : Env} {s : State} {m : MethodId} {args : Array Value} {below : List Frame} {meth : Method} {c : Code} {D : xD} {ty : xTy} (C0 : xC D RX12 cX12_isShaped 9 (some .boolean) p s m args meth c) {r : Int32} {h9 : xH} : ∀ n : Nat, ∀ (v0 : Nat) (v2 : Int32) (v3 : Int32) (v4 : Int32) (h : xH), ty v0 = some (0, 12) → jf_X12_isShaped_19 ty n v0 v2 v3 v4 h = some (r, h9) → ∀ (H : Heap) (locs : List Loc), xRep D ty h H → xS ty s.heap H locs → ∀ ls : Array Slot, lv_has ls 9 [(0, .ref v0), (2, .int v2), (3, .int v3), (4, .int v4)] → W p l e jr_X12_isShaped s m args below meth c H locs 0 0 (MQ below (xQ D ty (some (.int r)) h9) args s 0 0 (xdom ty)) (F0 m 19 ls []) := by
  have hx := C0.1
  have hb := C0.2.1
  have hown := C0.2.2.2.2.2.1
  have hts := C0.2.2.2.2.2.2.1
  intro n
  induction n with
  | zero =>
    intro v0 v2 v3 v4 h t_v0 hF H locs hR hS ls hl
    cases hF
  | succ n ih =>
    intro v0 v2 v3 v4 h t_v0 hF H locs hR hS ls hl
    rw [jf_X12_isShaped_19_s] at hF
    refine lv_iload hx hb dX12_isShaped_19 (lv_at hl 3 rfl) ?_
    refine lv_bipush (v := 48) hx hb dX12_isShaped_21 (by decide) ?_
    refine lv_icmp_ge (tgt := 40) hx hb dX12_isShaped_23 (by decide) (fun c25 => ?_) (fun c25 => ?_)
    · have hF := xif hF c25
      obtain ⟨_, hF⟩ := xlim_sp hF
      exact jw_X12_isShaped_40 C0 _ _ _ _ _ t_v0 hF _ _ hR hS _ (lv_sub hl [0, 1, 2] rfl)
    · have hF := xel hF c25
      refine lv_aload_n hx hb dX12_isShaped_26 rfl (lv_at hl 0 rfl) ?_
      obtain ⟨a26, e_a26, hF⟩ := xbd hF
      refine gf_X12_71 C0 hR t_v0 e_a26 dX12_isShaped_27 ?_
      refine lv_iload hx hb dX12_isShaped_30 (lv_at hl 3 rfl) ?_
      refine lv_iconst (v := (-1)) hx hb dX12_isShaped_32 (by decide) ?_
      obtain ⟨h27, e_h27, hF⟩ := xbd hF
      refine x_iast C0 hR hS e_h27 dX12_isShaped_33 (fun H locs hR hS => ?_)
      refine lv_iinc (v := v4 + 1) (lv' := [(4, .int (v4 + 1)), (0, .ref v0), (2, .int v2), (3, .int v3)]) hx hb dX12_isShaped_34 hl (k := 3) rfl rfl (by decide) rfl (fun ls hl => ?_)
      refine lv_goto (tgt := 19) hx hb dX12_isShaped_37 (by decide) ?_
      exact ih _ _ _ _ _ t_v0 hF _ _ hR hS _ (lv_sub hl [1, 2, 3, 0] rfl)
set_option maxHeartbeats 4000000 in
set_option maxRecDepth 100000 in
theorem jc_X12_isShaped {l : Launch} {D : xD} {ty : xTy} {h : xH} {v0 : Nat} {v1 : Int32} {r : Int32} {h9 : xH} (t_v0 : ty v0 = some (0, 12)) (hF : jf_X12_isShaped ty h v0 v1 = some (r, h9)) : Met l yX12_isShaped (xws yX12_isShaped cX12_isShaped 9 (some .boolean)) jr_X12_isShaped (xPc D ty h [.ref v0, .int v1]) (xQ D ty (some (.int r)) h9) 0 0 (xdom ty) := by
  refine x_met (by decide) ?_
  intro p e s m below meth c C0 hR
  generalize hargs : ([.ref v0, .int v1] : List Value).toArray = args at C0 ⊢
  have hx := C0.1
  have hb := C0.2.1
  have hown := C0.2.2.2.2.2.1
  have hts := C0.2.2.2.2.2.2.1
  have hS : xS ty s.heap s.heap [] := xS.rf
  have hl := lv_entry ([.ref v0, .int v1]) (n := 9) (Nat.le_of_ble_eq_true rfl)
  rw [← hargs, lg_entry_eq]
  rw [hargs]
  generalize (lg_sl ([.ref v0, .int v1]) ++ List.replicate (9 - (lg_sl ([.ref v0, .int v1])).length) Slot.unset).toArray = ls at hl ⊢
  have hl : lv_has ls 9 [(0, .ref v0), (1, .int v1)] := hl
  unfold jf_X12_isShaped at hF
  refine lv_iconst (v := 1) hx hb dX12_isShaped_0 (by decide) ?_
  refine lv_istore_n (lv' := [(2, .int 1), (0, .ref v0), (1, .int v1)]) hx hb dX12_isShaped_1 rfl hl (by decide) rfl (fun ls hl => ?_)
  refine lv_iconst (v := 0) hx hb dX12_isShaped_2 (by decide) ?_
  refine lv_istore_n (lv' := [(3, .int 0), (2, .int 1), (0, .ref v0), (1, .int v1)]) hx hb dX12_isShaped_3 rfl hl (by decide) rfl (fun ls hl => ?_)
  refine lv_aload_n hx hb dX12_isShaped_4 rfl (lv_at hl 2 rfl) ?_
  refine lv_iconst (v := 0) hx hb dX12_isShaped_5 (by decide) ?_
  obtain ⟨h28, e_h28, hF⟩ := xbd hF
  refine pf_X12_257 C0 hR hS t_v0 dX12_isShaped_6 (fun H locs hR hS => ?_)
  rw [Option.some.inj e_h28] at hR
  refine lv_aload_n hx hb dX12_isShaped_9 rfl (lv_at hl 2 rfl) ?_
  obtain ⟨a29, e_a29, hF⟩ := xbd hF
  refine gf_X12_65 C0 hR t_v0 e_a29 dX12_isShaped_10 ?_
  refine lv_iconst (v := 0) hx hb dX12_isShaped_13 (by decide) ?_
  refine lv_iload_n hx hb dX12_isShaped_14 rfl (lv_at hl 3 rfl) ?_
  obtain ⟨h30, e_h30, hF⟩ := xbd hF
  refine x_iast C0 hR hS e_h30 dX12_isShaped_15 (fun H locs hR hS => ?_)
  refine lv_iconst (v := 0) hx hb dX12_isShaped_16 (by decide) ?_
  refine lv_istore (lv' := [(4, .int 0), (3, .int 0), (2, .int 1), (0, .ref v0), (1, .int v1)]) hx hb dX12_isShaped_17 hl (by decide) rfl (fun ls hl => ?_)
  obtain ⟨_, hF⟩ := xlim_sp hF
  exact jw_X12_isShaped_19 C0 _ _ _ _ _ _ t_v0 hF _ _ hR hS _ (lv_sub hl [3, 2, 1, 0] rfl)
theorem xm_X12_isShaped : xMw yX12_isShaped cX12_isShaped 9 (some .boolean) 1 := ⟨xin 1724 (by decide +kernel) rfl, xin 126 (by decide +kernel) rfl, by decide +kernel⟩
theorem xi_X12_isShaped : Cond.instanceMethod yX12_isShaped ∈ xT := xin 1723 (by decide +kernel) rfl
theorem xe_X12_isShaped : Cond.selects yX12_isShaped.cls yX12_isShaped yX12_isShaped ∈ xT := xin 95 (by decide +kernel) rfl

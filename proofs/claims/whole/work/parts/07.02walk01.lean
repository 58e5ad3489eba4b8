theorem dX8_wordKind_0 : decode cX8_wordKind 0 = .ok (.iload_n 0, 1) := by decide +kernel
theorem dX8_wordKind_1 : decode cX8_wordKind 1 = .ok (.lookupswitch 41 #[(626398208, 39), (647215104, 35), (739835904, 37)], 35) := by decide +kernel
theorem dX8_wordKind_36 : decode cX8_wordKind 36 = .ok (.iconst 3, 1) := by decide +kernel
theorem dX8_wordKind_37 : decode cX8_wordKind 37 = .ok (.ireturn, 1) := by decide +kernel
theorem dX8_wordKind_38 : decode cX8_wordKind 38 = .ok (.iconst 4, 1) := by decide +kernel
theorem dX8_wordKind_39 : decode cX8_wordKind 39 = .ok (.ireturn, 1) := by decide +kernel
theorem dX8_wordKind_40 : decode cX8_wordKind 40 = .ok (.iconst 5, 1) := by decide +kernel
theorem dX8_wordKind_41 : decode cX8_wordKind 41 = .ok (.ireturn, 1) := by decide +kernel
theorem dX8_wordKind_42 : decode cX8_wordKind 42 = .ok (.iconst 2, 1) := by decide +kernel
theorem dX8_wordKind_43 : decode cX8_wordKind 43 = .ok (.ireturn, 1) := by decide +kernel
set_option maxHeartbeats 4000000 in
set_option maxRecDepth 100000 in
theorem jc_X8_wordKind {l : Launch} {D : xD} {ty : xTy} {h : xH} {v0 : Int32} {r : Int32} (hF : jf_X8_wordKind v0 = some r) : Met l yX8_wordKind (xws yX8_wordKind cX8_wordKind 1 (some .int)) jr_X8_wordKind (xPc D ty h [.int v0]) (xQ D ty (some (.int r)) h) 0 0 (xdom ty) := by
  refine x_met (by decide) ?_
  intro p e s m below meth c C0 hR
  generalize hargs : ([.int v0] : List Value).toArray = args at C0 ⊢
  have hx := C0.1
  have hb := C0.2.1
  have hown := C0.2.2.2.2.2.1
  have hts := C0.2.2.2.2.2.2.1
  have hS : xS ty s.heap s.heap [] := xS.rf
  have hl := lv_entry ([.int v0]) (n := 1) (Nat.le_of_ble_eq_true rfl)
  rw [← hargs, lg_entry_eq]
  rw [hargs]
  generalize (lg_sl ([.int v0]) ++ List.replicate (1 - (lg_sl ([.int v0])).length) Slot.unset).toArray = ls at hl ⊢
  have hl : lv_has ls 1 [(0, .int v0)] := hl
  unfold jf_X8_wordKind at hF
  refine lv_iload_n hx hb dX8_wordKind_0 rfl (lv_at hl 0 rfl) ?_
  by_cases c1 : v0 = 626398208
  · have hF := xif hF c1
    refine lv_lookup (tgt := 40) (off := 39) hx hb dX8_wordKind_1 (by decide) (by rw [c1]; decide) (by decide) ?_
    refine lv_iconst (v := 5) hx hb dX8_wordKind_40 (by decide) ?_
    cases hF
    exact x_iret C0 hR hS dX8_wordKind_41
  · have hF := xel hF c1
    by_cases c2 : v0 = 647215104
    · have hF := xif hF c2
      refine lv_lookup (tgt := 36) (off := 35) hx hb dX8_wordKind_1 (by decide) (by rw [c2]; decide) (by decide) ?_
      refine lv_iconst (v := 3) hx hb dX8_wordKind_36 (by decide) ?_
      cases hF
      exact x_iret C0 hR hS dX8_wordKind_37
    · have hF := xel hF c2
      by_cases c3 : v0 = 739835904
      · have hF := xif hF c3
        refine lv_lookup (tgt := 38) (off := 37) hx hb dX8_wordKind_1 (by decide) (by rw [c3]; decide) (by decide) ?_
        refine lv_iconst (v := 4) hx hb dX8_wordKind_38 (by decide) ?_
        cases hF
        exact x_iret C0 hR hS dX8_wordKind_39
      · have hF := xel hF c3
        have g_c1 : ¬ (v0).toInt = 626398208 := fun z => c1 (Int32.toInt_inj.mp (z.trans (by decide)))
        have g_c2 : ¬ (v0).toInt = 647215104 := fun z => c2 (Int32.toInt_inj.mp (z.trans (by decide)))
        have g_c3 : ¬ (v0).toInt = 739835904 := fun z => c3 (Int32.toInt_inj.mp (z.trans (by decide)))
        refine lv_lookup (tgt := 42) (off := 41) hx hb dX8_wordKind_1 (by decide) (by show Op.lookupswitch.offset [(626398208, 39), (647215104, 35), (739835904, 37)] 41 _ = _; rw [Op.lookupswitch.offset_cons, if_neg (fun z => g_c1 z.symm), Op.lookupswitch.offset_cons, if_neg (fun z => g_c2 z.symm), Op.lookupswitch.offset_cons, if_neg (fun z => g_c3 z.symm)]; rfl) (by decide) ?_
        refine lv_iconst (v := 2) hx hb dX8_wordKind_42 (by decide) ?_
        cases hF
        exact x_iret C0 hR hS dX8_wordKind_43
theorem xm_X8_wordKind : xMw yX8_wordKind cX8_wordKind 1 (some .int) 1 := ⟨xin 547 (by decide +kernel) rfl, xin 118 (by decide +kernel) rfl, by decide +kernel⟩
theorem xs_X8_wordKind : Cond.static yX8_wordKind ∈ xT := xin 546 (by decide +kernel) rfl
theorem dX8_takeWord_0 : decode cX8_takeWord 0 = .ok (.iconst 0, 1) := by decide +kernel
theorem dX8_takeWord_1 : decode cX8_takeWord 1 = .ok (.istore 4, 2) := by decide +kernel
theorem dX8_takeWord_3 : decode cX8_takeWord 3 = .ok (.iload_n 2, 1) := by decide +kernel
theorem dX8_takeWord_4 : decode cX8_takeWord 4 = .ok (.istore 5, 2) := by decide +kernel
theorem dX8_takeWord_6 : decode cX8_takeWord 6 = .ok (.iload 5, 2) := by decide +kernel
theorem dX8_takeWord_8 : decode cX8_takeWord 8 = .ok (.iload_n 3, 1) := by decide +kernel
theorem dX8_takeWord_9 : decode cX8_takeWord 9 = .ok (.if_icmp .ge 57, 3) := by decide +kernel
theorem dX8_takeWord_12 : decode cX8_takeWord 12 = .ok (.aload_n 1, 1) := by decide +kernel
theorem dX8_takeWord_13 : decode cX8_takeWord 13 = .ok (.iload 5, 2) := by decide +kernel
theorem dX8_takeWord_15 : decode cX8_takeWord 15 = .ok (.iaload, 1) := by decide +kernel
theorem dX8_takeWord_16 : decode cX8_takeWord 16 = .ok (.invokestatic 54, 3) := by decide +kernel
theorem dX8_takeWord_19 : decode cX8_takeWord 19 = .ok (.ifCond .eq 47, 3) := by decide +kernel
theorem dX8_takeWord_22 : decode cX8_takeWord 22 = .ok (.iload 5, 2) := by decide +kernel
theorem dX8_takeWord_24 : decode cX8_takeWord 24 = .ok (.iload_n 2, 1) := by decide +kernel
theorem dX8_takeWord_25 : decode cX8_takeWord 25 = .ok (.isub, 1) := by decide +kernel
theorem dX8_takeWord_26 : decode cX8_takeWord 26 = .ok (.istore 6, 2) := by decide +kernel
theorem dX8_takeWord_28 : decode cX8_takeWord 28 = .ok (.iload 6, 2) := by decide +kernel
theorem dX8_takeWord_30 : decode cX8_takeWord 30 = .ok (.bipush 6, 2) := by decide +kernel
theorem dX8_takeWord_32 : decode cX8_takeWord 32 = .ok (.if_icmp .ge 28, 3) := by decide +kernel
theorem dX8_takeWord_35 : decode cX8_takeWord 35 = .ok (.iconst 5, 1) := by decide +kernel
theorem dX8_takeWord_36 : decode cX8_takeWord 36 = .ok (.iconst 5, 1) := by decide +kernel
theorem dX8_takeWord_37 : decode cX8_takeWord 37 = .ok (.iload 6, 2) := by decide +kernel
theorem dX8_takeWord_39 : decode cX8_takeWord 39 = .ok (.isub, 1) := by decide +kernel
theorem dX8_takeWord_40 : decode cX8_takeWord 40 = .ok (.imul, 1) := by decide +kernel
theorem dX8_takeWord_41 : decode cX8_takeWord 41 = .ok (.istore 7, 2) := by decide +kernel
theorem dX8_takeWord_43 : decode cX8_takeWord 43 = .ok (.iload 4, 2) := by decide +kernel
theorem dX8_takeWord_45 : decode cX8_takeWord 45 = .ok (.aload_n 1, 1) := by decide +kernel
theorem dX8_takeWord_46 : decode cX8_takeWord 46 = .ok (.iload 5, 2) := by decide +kernel
theorem dX8_takeWord_48 : decode cX8_takeWord 48 = .ok (.iaload, 1) := by decide +kernel
theorem dX8_takeWord_49 : decode cX8_takeWord 49 = .ok (.bipush 97, 2) := by decide +kernel
theorem dX8_takeWord_51 : decode cX8_takeWord 51 = .ok (.isub, 1) := by decide +kernel
theorem dX8_takeWord_52 : decode cX8_takeWord 52 = .ok (.iconst 1, 1) := by decide +kernel
theorem dX8_takeWord_53 : decode cX8_takeWord 53 = .ok (.iadd, 1) := by decide +kernel
theorem dX8_takeWord_54 : decode cX8_takeWord 54 = .ok (.iload 7, 2) := by decide +kernel
theorem dX8_takeWord_56 : decode cX8_takeWord 56 = .ok (.ishl, 1) := by decide +kernel
theorem dX8_takeWord_57 : decode cX8_takeWord 57 = .ok (.ior, 1) := by decide +kernel
theorem dX8_takeWord_58 : decode cX8_takeWord 58 = .ok (.istore 4, 2) := by decide +kernel
theorem dX8_takeWord_60 : decode cX8_takeWord 60 = .ok (.iinc 5 1, 3) := by decide +kernel
theorem dX8_takeWord_63 : decode cX8_takeWord 63 = .ok (.goto (-57), 3) := by decide +kernel
theorem dX8_takeWord_66 : decode cX8_takeWord 66 = .ok (.aload_n 0, 1) := by decide +kernel
theorem dX8_takeWord_67 : decode cX8_takeWord 67 = .ok (.iload 5, 2) := by decide +kernel
theorem dX8_takeWord_69 : decode cX8_takeWord 69 = .ok (.iload_n 2, 1) := by decide +kernel
theorem dX8_takeWord_70 : decode cX8_takeWord 70 = .ok (.isub, 1) := by decide +kernel
theorem dX8_takeWord_71 : decode cX8_takeWord 71 = .ok (.bipush 6, 2) := by decide +kernel
theorem dX8_takeWord_73 : decode cX8_takeWord 73 = .ok (.if_icmp .le 7, 3) := by decide +kernel
theorem dX8_takeWord_76 : decode cX8_takeWord 76 = .ok (.iconst 1, 1) := by decide +kernel
theorem dX8_takeWord_77 : decode cX8_takeWord 77 = .ok (.goto 8, 3) := by decide +kernel
theorem dX8_takeWord_80 : decode cX8_takeWord 80 = .ok (.iload 4, 2) := by decide +kernel
theorem dX8_takeWord_82 : decode cX8_takeWord 82 = .ok (.invokestatic 74, 3) := by decide +kernel
theorem dX8_takeWord_85 : decode cX8_takeWord 85 = .ok (.iload_n 2, 1) := by decide +kernel
theorem dX8_takeWord_86 : decode cX8_takeWord 86 = .ok (.iload 4, 2) := by decide +kernel
theorem dX8_takeWord_88 : decode cX8_takeWord 88 = .ok (.invokevirtual 47, 3) := by decide +kernel
theorem dX8_takeWord_91 : decode cX8_takeWord 91 = .ok (.iload 5, 2) := by decide +kernel
theorem dX8_takeWord_93 : decode cX8_takeWord 93 = .ok (.ireturn, 1) := by decide +kernel
theorem wl_X8_47 : Cond.methodLink RX8 47 yX8_append ∈ xT := xin 548 (by decide +kernel) rfl
theorem wl_X8_54 : Cond.methodLink RX8 54 yX8_isLetter ∈ xT := xin 538 (by decide +kernel) rfl
theorem wl_X8_74 : Cond.methodLink RX8 74 yX8_wordKind ∈ xT := xin 545 (by decide +kernel) rfl
section XN_X8_takeWord
variable {p : Program} {l : Launch} {e : Env} {R : Room} {s : State} {m : MethodId} {args : Array Value} {below : List Frame} {meth : Method} {c : Code} {H H0 : Heap} {locs : List Loc} {cells slots : Nat} {Q : State → Prop} {cc : ByteArray} {nL pc : Nat} {rt : Option FieldType} {ls : Array Slot} {rest : List Value} {D : xD} {ty : xTy} {h : xH}
theorem cl_X8_47 {v0 : Nat} {v1 : Int32} {v2 : Int32} {v3 : Int32} {h9 : xH} (C0 : xC D RX8 cc nL rt p s m args meth c) (hR : xRep D ty h H) (hS : xS ty H0 H locs) (hF : jf_X8_append ty h v0 v1 v2 v3 = some h9) (t_v0 : ty v0 = some (0, 8)) (hrm : jr_X8_append.frames + 1 ≤ R.frames ∧ 8 + (4 + 11) + jr_X8_append.locals ≤ R.locals) (hsz : ls.size = nL) (hW : (rest.map fun v => v.category).sum ≤ 8) (hf : cells ≤ R.cells ∧ slots ≤ R.slots) (hdg : decode cc pc = .ok (.invokevirtual 47, 3)) (kk : ∀ (H1 : Heap) (locs1 : List Loc), xRep D ty h9 H1 → xS ty H0 H1 locs1 → W p l e R s m args below meth c H1 locs1 cells slots Q (F0 m (pc + 3) ls rest)) : W p l e R s m args below meth c H locs cells slots Q (F0 m pc ls (.int v3 :: .int v2 :: .int v1 :: .ref v0 :: rest)) := x_callV C0 (jc_X8_append t_v0 hF) xm_X8_append xi_X8_append xe_X8_append wl_X8_47 ⟨rfl, rfl, hrm⟩ (ci := 8) rfl t_v0 hR hS (As := [.int v1, .int v2, .int v3]) rfl hsz rfl hW hdg hf kk
theorem cl_X8_54 {v0 : Int32} {r : Int32} (C0 : xC D RX8 cc nL rt p s m args meth c) (hR : xRep D ty h H) (hS : xS ty H0 H locs) (hF : jf_X8_isLetter v0 = some r) (hrm : jr_X8_isLetter.frames + 1 ≤ R.frames ∧ 8 + (1 + 11) + jr_X8_isLetter.locals ≤ R.locals) (hsz : ls.size = nL) (hW : (rest.map fun v => v.category).sum ≤ 8) (hf : cells ≤ R.cells ∧ slots ≤ R.slots) (hdg : decode cc pc = .ok (.invokestatic 54, 3)) (kk : ∀ (H1 : Heap) (locs1 : List Loc), xRep D ty h H1 → xS ty H0 H1 locs1 → W p l e R s m args below meth c H1 locs1 cells slots Q (F0 m (pc + 3) ls (.int r :: rest))) : W p l e R s m args below meth c H locs cells slots Q (F0 m pc ls (.int v0 :: rest)) := x_callS C0 (jc_X8_isLetter  hF) xm_X8_isLetter xs_X8_isLetter wl_X8_54 ⟨rfl, rfl, hrm⟩ hR hS (As := [.int v0]) rfl hsz rfl hW hdg hf kk
theorem cl_X8_74 {v0 : Int32} {r : Int32} (C0 : xC D RX8 cc nL rt p s m args meth c) (hR : xRep D ty h H) (hS : xS ty H0 H locs) (hF : jf_X8_wordKind v0 = some r) (hrm : jr_X8_wordKind.frames + 1 ≤ R.frames ∧ 8 + (1 + 11) + jr_X8_wordKind.locals ≤ R.locals) (hsz : ls.size = nL) (hW : (rest.map fun v => v.category).sum ≤ 8) (hf : cells ≤ R.cells ∧ slots ≤ R.slots) (hdg : decode cc pc = .ok (.invokestatic 74, 3)) (kk : ∀ (H1 : Heap) (locs1 : List Loc), xRep D ty h H1 → xS ty H0 H1 locs1 → W p l e R s m args below meth c H1 locs1 cells slots Q (F0 m (pc + 3) ls (.int r :: rest))) : W p l e R s m args below meth c H locs cells slots Q (F0 m pc ls (.int v0 :: rest)) := x_callS C0 (jc_X8_wordKind  hF) xm_X8_wordKind xs_X8_wordKind wl_X8_74 ⟨rfl, rfl, hrm⟩ hR hS (As := [.int v0]) rfl hsz rfl hW hdg hf kk
end XN_X8_takeWord
set_option maxHeartbeats 4000000 in
set_option maxRecDepth 100000 in
theorem jw_X8_takeWord_66 {p : Program} {l : Launch} {e : Env} {s : State} {m : MethodId} {args : Array Value} {below : List Frame} {meth : Method} {c : Code} {D : xD} {ty : xTy} (C0 : xC D RX8 cX8_takeWord 8 (some .int) p s m args meth c) {r : Int32} {h9 : xH} : ∀ (v0 : Nat) (v2 : Int32) (v4 : Int32) (v5 : Int32) (h : xH), ty v0 = some (0, 8) → jf_X8_takeWord_66 ty v0 v2 v4 v5 h = some (r, h9) → ∀ (H : Heap) (locs : List Loc), xRep D ty h H → xS ty s.heap H locs → ∀ ls : Array Slot, lv_has ls 8 [(0, .ref v0), (2, .int v2), (4, .int v4), (5, .int v5)] → W p l e jr_X8_takeWord s m args below meth c H locs 0 0 (MQ below (xQ D ty (some (.int r)) h9) args s 0 0 (xdom ty)) (F0 m 66 ls []) := by
  have hx := C0.1
  have hb := C0.2.1
  have hown := C0.2.2.2.2.2.1
  have hts := C0.2.2.2.2.2.2.1
  intro v0 v2 v4 v5 h t_v0 hF H locs hR hS ls hl
  unfold jf_X8_takeWord_66 at hF
  refine lv_aload_n hx hb dX8_takeWord_66 rfl (lv_at hl 0 rfl) ?_
  refine lv_iload hx hb dX8_takeWord_67 (lv_at hl 3 rfl) ?_
  refine lv_iload_n hx hb dX8_takeWord_69 rfl (lv_at hl 1 rfl) ?_
  refine lv_isub hx hb dX8_takeWord_70 ?_
  refine lv_bipush (v := 6) hx hb dX8_takeWord_71 (by decide) ?_
  refine lv_icmp_le (tgt := 80) hx hb dX8_takeWord_73 (by decide) (fun c1 => ?_) (fun c1 => ?_)
  · have hF := xif hF c1
    refine lv_iload hx hb dX8_takeWord_80 (lv_at hl 2 rfl) ?_
    obtain ⟨a2, e_a2, hF⟩ := xbd hF
    refine cl_X8_74 C0 hR hS e_a2  ⟨(Nat.le_of_ble_eq_true rfl), (Nat.le_of_ble_eq_true rfl)⟩ hl.1 (Nat.le_of_ble_eq_true rfl) ⟨(Nat.le_of_ble_eq_true rfl), (Nat.le_of_ble_eq_true rfl)⟩ dX8_takeWord_82 (fun H locs hR hS => ?_)
    refine lv_iload_n hx hb dX8_takeWord_85 rfl (lv_at hl 1 rfl) ?_
    refine lv_iload hx hb dX8_takeWord_86 (lv_at hl 2 rfl) ?_
    obtain ⟨h3, e_h3, hF⟩ := xbd hF
    refine cl_X8_47 C0 hR hS e_h3 t_v0 ⟨(Nat.le_of_ble_eq_true rfl), (Nat.le_of_ble_eq_true rfl)⟩ hl.1 (Nat.le_of_ble_eq_true rfl) ⟨(Nat.le_of_ble_eq_true rfl), (Nat.le_of_ble_eq_true rfl)⟩ dX8_takeWord_88 (fun H locs hR hS => ?_)
    refine lv_iload hx hb dX8_takeWord_91 (lv_at hl 3 rfl) ?_
    cases hF
    exact x_iret C0 hR hS dX8_takeWord_93
  · have hF := xel hF c1
    refine lv_iconst (v := 1) hx hb dX8_takeWord_76 (by decide) ?_
    refine lv_goto (tgt := 85) hx hb dX8_takeWord_77 (by decide) ?_
    refine lv_iload_n hx hb dX8_takeWord_85 rfl (lv_at hl 1 rfl) ?_
    refine lv_iload hx hb dX8_takeWord_86 (lv_at hl 2 rfl) ?_
    obtain ⟨h4, e_h4, hF⟩ := xbd hF
    refine cl_X8_47 C0 hR hS e_h4 t_v0 ⟨(Nat.le_of_ble_eq_true rfl), (Nat.le_of_ble_eq_true rfl)⟩ hl.1 (Nat.le_of_ble_eq_true rfl) ⟨(Nat.le_of_ble_eq_true rfl), (Nat.le_of_ble_eq_true rfl)⟩ dX8_takeWord_88 (fun H locs hR hS => ?_)
    refine lv_iload hx hb dX8_takeWord_91 (lv_at hl 3 rfl) ?_
    cases hF
    exact x_iret C0 hR hS dX8_takeWord_93
set_option maxHeartbeats 4000000 in
set_option maxRecDepth 100000 in
theorem jw_X8_takeWord_6 {p : Program} {l : Launch} {e : Env} {s : State} {m : MethodId} {args : Array Value} {below : List Frame} {meth : Method} {c : Code} {D : xD} {ty : xTy} (C0 : xC D RX8 cX8_takeWord 8 (some .int) p s m args meth c) {r : Int32} {h9 : xH} : ∀ n : Nat, ∀ (v0 : Nat) (v1 : Nat) (v2 : Int32) (v3 : Int32) (v4 : Int32) (v5 : Int32) (h : xH), ty v0 = some (0, 8) → jf_X8_takeWord_6 ty n v0 v1 v2 v3 v4 v5 h = some (r, h9) → ∀ (H : Heap) (locs : List Loc), xRep D ty h H → xS ty s.heap H locs → ∀ ls : Array Slot, lv_has ls 8 [(0, .ref v0), (1, .ref v1), (2, .int v2), (3, .int v3), (4, .int v4), (5, .int v5)] → W p l e jr_X8_takeWord s m args below meth c H locs 0 0 (MQ below (xQ D ty (some (.int r)) h9) args s 0 0 (xdom ty)) (F0 m 6 ls []) := by
  have hx := C0.1
  have hb := C0.2.1
  have hown := C0.2.2.2.2.2.1
  have hts := C0.2.2.2.2.2.2.1
  intro n
  induction n with
  | zero =>
    intro v0 v1 v2 v3 v4 v5 h t_v0 hF H locs hR hS ls hl
    cases hF
  | succ n ih =>
    intro v0 v1 v2 v3 v4 v5 h t_v0 hF H locs hR hS ls hl
    rw [jf_X8_takeWord_6_s] at hF
    refine lv_iload hx hb dX8_takeWord_6 (lv_at hl 5 rfl) ?_
    refine lv_iload_n hx hb dX8_takeWord_8 rfl (lv_at hl 3 rfl) ?_
    refine lv_icmp_ge (tgt := 66) hx hb dX8_takeWord_9 (by decide) (fun c5 => ?_) (fun c5 => ?_)
    · have hF := xif hF c5
      exact jw_X8_takeWord_66 C0 _ _ _ _ _ t_v0 hF _ _ hR hS _ (lv_sub hl [0, 2, 4, 5] rfl)
    · have hF := xel hF c5
      refine lv_aload_n hx hb dX8_takeWord_12 rfl (lv_at hl 1 rfl) ?_
      refine lv_iload hx hb dX8_takeWord_13 (lv_at hl 5 rfl) ?_
      obtain ⟨a6, e_a6, hF⟩ := xbd hF
      refine x_iald C0 hR e_a6 dX8_takeWord_15 ?_
      obtain ⟨a7, e_a7, hF⟩ := xbd hF
      refine cl_X8_54 C0 hR hS e_a7  ⟨(Nat.le_of_ble_eq_true rfl), (Nat.le_of_ble_eq_true rfl)⟩ hl.1 (Nat.le_of_ble_eq_true rfl) ⟨(Nat.le_of_ble_eq_true rfl), (Nat.le_of_ble_eq_true rfl)⟩ dX8_takeWord_16 (fun H locs hR hS => ?_)
      refine lv_if_eq (tgt := 66) hx hb dX8_takeWord_19 (by decide) (fun c8 => ?_) (fun c8 => ?_)
      · have hF := xif hF c8
        exact jw_X8_takeWord_66 C0 _ _ _ _ _ t_v0 hF _ _ hR hS _ (lv_sub hl [0, 2, 4, 5] rfl)
      · have hF := xel hF c8
        refine lv_iload hx hb dX8_takeWord_22 (lv_at hl 5 rfl) ?_
        refine lv_iload_n hx hb dX8_takeWord_24 rfl (lv_at hl 2 rfl) ?_
        refine lv_isub hx hb dX8_takeWord_25 ?_
        refine lv_istore (lv' := [(6, .int (v5 - v2)), (0, .ref v0), (1, .ref v1), (2, .int v2), (3, .int v3), (4, .int v4), (5, .int v5)]) hx hb dX8_takeWord_26 hl (by decide) rfl (fun ls hl => ?_)
        refine lv_iload hx hb dX8_takeWord_28 (lv_at hl 0 rfl) ?_
        refine lv_bipush (v := 6) hx hb dX8_takeWord_30 (by decide) ?_
        refine lv_icmp_ge (tgt := 60) hx hb dX8_takeWord_32 (by decide) (fun c9 => ?_) (fun c9 => ?_)
        · have hF := xif hF c9
          refine lv_iinc (v := v5 + 1) (lv' := [(5, .int (v5 + 1)), (6, .int (v5 - v2)), (0, .ref v0), (1, .ref v1), (2, .int v2), (3, .int v3), (4, .int v4)]) hx hb dX8_takeWord_60 hl (k := 6) rfl rfl (by decide) rfl (fun ls hl => ?_)
          refine lv_goto (tgt := 6) hx hb dX8_takeWord_63 (by decide) ?_
          exact ih _ _ _ _ _ _ _ t_v0 hF _ _ hR hS _ (lv_sub hl [2, 3, 4, 5, 6, 0] rfl)
        · have hF := xel hF c9
          refine lv_iconst (v := 5) hx hb dX8_takeWord_35 (by decide) ?_
          refine lv_iconst (v := 5) hx hb dX8_takeWord_36 (by decide) ?_
          refine lv_iload hx hb dX8_takeWord_37 (lv_at hl 0 rfl) ?_
          refine lv_isub hx hb dX8_takeWord_39 ?_
          refine lv_imul hx hb dX8_takeWord_40 ?_
          refine lv_istore (lv' := [(7, .int (5 * (5 - (v5 - v2)))), (6, .int (v5 - v2)), (0, .ref v0), (1, .ref v1), (2, .int v2), (3, .int v3), (4, .int v4), (5, .int v5)]) hx hb dX8_takeWord_41 hl (by decide) rfl (fun ls hl => ?_)
          refine lv_iload hx hb dX8_takeWord_43 (lv_at hl 6 rfl) ?_
          refine lv_aload_n hx hb dX8_takeWord_45 rfl (lv_at hl 3 rfl) ?_
          refine lv_iload hx hb dX8_takeWord_46 (lv_at hl 7 rfl) ?_
          obtain ⟨a10, e_a10, hF⟩ := xbd hF
          refine x_iald C0 hR e_a10 dX8_takeWord_48 ?_
          refine lv_bipush (v := 97) hx hb dX8_takeWord_49 (by decide) ?_
          refine lv_isub hx hb dX8_takeWord_51 ?_
          refine lv_iconst (v := 1) hx hb dX8_takeWord_52 (by decide) ?_
          refine lv_iadd hx hb dX8_takeWord_53 ?_
          refine lv_iload hx hb dX8_takeWord_54 (lv_at hl 0 rfl) ?_
          refine lv_ishl hx hb dX8_takeWord_56 ?_
          refine lv_ior hx hb dX8_takeWord_57 ?_
          refine lv_istore (lv' := [(4, .int (v4 ||| (((a10 - 97) + 1) <<< ((5 * (5 - (v5 - v2))) &&& 31)))), (7, .int (5 * (5 - (v5 - v2)))), (6, .int (v5 - v2)), (0, .ref v0), (1, .ref v1), (2, .int v2), (3, .int v3), (5, .int v5)]) hx hb dX8_takeWord_58 hl (by decide) rfl (fun ls hl => ?_)
          refine lv_iinc (v := v5 + 1) (lv' := [(5, .int (v5 + 1)), (4, .int (v4 ||| (((a10 - 97) + 1) <<< ((5 * (5 - (v5 - v2))) &&& 31)))), (7, .int (5 * (5 - (v5 - v2)))), (6, .int (v5 - v2)), (0, .ref v0), (1, .ref v1), (2, .int v2), (3, .int v3)]) hx hb dX8_takeWord_60 hl (k := 7) rfl rfl (by decide) rfl (fun ls hl => ?_)
          refine lv_goto (tgt := 6) hx hb dX8_takeWord_63 (by decide) ?_
          exact ih _ _ _ _ _ _ _ t_v0 hF _ _ hR hS _ (lv_sub hl [4, 5, 6, 7, 1, 0] rfl)
set_option maxHeartbeats 4000000 in
set_option maxRecDepth 100000 in
theorem jc_X8_takeWord {l : Launch} {D : xD} {ty : xTy} {h : xH} {v0 : Nat} {v1 : Nat} {v2 : Int32} {v3 : Int32} {r : Int32} {h9 : xH} (t_v0 : ty v0 = some (0, 8)) (hF : jf_X8_takeWord ty h v0 v1 v2 v3 = some (r, h9)) : Met l yX8_takeWord (xws yX8_takeWord cX8_takeWord 8 (some .int)) jr_X8_takeWord (xPc D ty h [.ref v0, .ref v1, .int v2, .int v3]) (xQ D ty (some (.int r)) h9) 0 0 (xdom ty) := by
  refine x_met (by decide) ?_
  intro p e s m below meth c C0 hR
  generalize hargs : ([.ref v0, .ref v1, .int v2, .int v3] : List Value).toArray = args at C0 ⊢
  have hx := C0.1
  have hb := C0.2.1
  have hown := C0.2.2.2.2.2.1
  have hts := C0.2.2.2.2.2.2.1
  have hS : xS ty s.heap s.heap [] := xS.rf
  have hl := lv_entry ([.ref v0, .ref v1, .int v2, .int v3]) (n := 8) (Nat.le_of_ble_eq_true rfl)
  rw [← hargs, lg_entry_eq]
  rw [hargs]
  generalize (lg_sl ([.ref v0, .ref v1, .int v2, .int v3]) ++ List.replicate (8 - (lg_sl ([.ref v0, .ref v1, .int v2, .int v3])).length) Slot.unset).toArray = ls at hl ⊢
  have hl : lv_has ls 8 [(0, .ref v0), (1, .ref v1), (2, .int v2), (3, .int v3)] := hl
  unfold jf_X8_takeWord at hF
  refine lv_iconst (v := 0) hx hb dX8_takeWord_0 (by decide) ?_
  refine lv_istore (lv' := [(4, .int 0), (0, .ref v0), (1, .ref v1), (2, .int v2), (3, .int v3)]) hx hb dX8_takeWord_1 hl (by decide) rfl (fun ls hl => ?_)
  refine lv_iload_n hx hb dX8_takeWord_3 rfl (lv_at hl 3 rfl) ?_
  refine lv_istore (lv' := [(5, .int v2), (4, .int 0), (0, .ref v0), (1, .ref v1), (2, .int v2), (3, .int v3)]) hx hb dX8_takeWord_4 hl (by decide) rfl (fun ls hl => ?_)
  obtain ⟨_, hF⟩ := xlim_sp hF
  exact jw_X8_takeWord_6 C0 _ _ _ _ _ _ _ _ t_v0 hF _ _ hR hS _ (lv_sub hl [2, 3, 4, 5, 1, 0] rfl)
theorem xm_X8_takeWord : xMw yX8_takeWord cX8_takeWord 8 (some .int) 3 := ⟨xin 544 (by decide +kernel) rfl, xin 118 (by decide +kernel) rfl, by decide +kernel⟩
theorem xi_X8_takeWord : Cond.instanceMethod yX8_takeWord ∈ xT := xin 543 (by decide +kernel) rfl
theorem xe_X8_takeWord : Cond.selects yX8_takeWord.cls yX8_takeWord yX8_takeWord ∈ xT := xin 3 (by decide +kernel) rfl
theorem dX8_isDigit_0 : decode cX8_isDigit 0 = .ok (.iload_n 0, 1) := by decide +kernel
theorem dX8_isDigit_1 : decode cX8_isDigit 1 = .ok (.bipush 48, 2) := by decide +kernel
theorem dX8_isDigit_3 : decode cX8_isDigit 3 = .ok (.if_icmp .lt 13, 3) := by decide +kernel
theorem dX8_isDigit_6 : decode cX8_isDigit 6 = .ok (.iload_n 0, 1) := by decide +kernel
theorem dX8_isDigit_7 : decode cX8_isDigit 7 = .ok (.bipush 57, 2) := by decide +kernel
theorem dX8_isDigit_9 : decode cX8_isDigit 9 = .ok (.if_icmp .gt 7, 3) := by decide +kernel
theorem dX8_isDigit_12 : decode cX8_isDigit 12 = .ok (.iconst 1, 1) := by decide +kernel
theorem dX8_isDigit_13 : decode cX8_isDigit 13 = .ok (.goto 4, 3) := by decide +kernel
theorem dX8_isDigit_16 : decode cX8_isDigit 16 = .ok (.iconst 0, 1) := by decide +kernel
theorem dX8_isDigit_17 : decode cX8_isDigit 17 = .ok (.ireturn, 1) := by decide +kernel
set_option maxHeartbeats 4000000 in
set_option maxRecDepth 100000 in
theorem jc_X8_isDigit {l : Launch} {D : xD} {ty : xTy} {h : xH} {v0 : Int32} {r : Int32} (hF : jf_X8_isDigit v0 = some r) : Met l yX8_isDigit (xws yX8_isDigit cX8_isDigit 1 (some .boolean)) jr_X8_isDigit (xPc D ty h [.int v0]) (xQ D ty (some (.int r)) h) 0 0 (xdom ty) := by
  refine x_met (by decide) ?_
  intro p e s m below meth c C0 hR
  generalize hargs : ([.int v0] : List Value).toArray = args at C0 ⊢
  have hx := C0.1
  have hb := C0.2.1
  have hown := C0.2.2.2.2.2.1
  have hts := C0.2.2.2.2.2.2.1
  have hS : xS ty s.heap s.heap [] := xS.rf
  have hl := lv_entry ([.int v0]) (n := 1) (Nat.le_of_ble_eq_true rfl)
  rw [← hargs, lg_entry_eq]
  rw [hargs]
  generalize (lg_sl ([.int v0]) ++ List.replicate (1 - (lg_sl ([.int v0])).length) Slot.unset).toArray = ls at hl ⊢
  have hl : lv_has ls 1 [(0, .int v0)] := hl
  unfold jf_X8_isDigit at hF
  refine lv_iload_n hx hb dX8_isDigit_0 rfl (lv_at hl 0 rfl) ?_
  refine lv_bipush (v := 48) hx hb dX8_isDigit_1 (by decide) ?_
  refine lv_icmp_lt (tgt := 16) hx hb dX8_isDigit_3 (by decide) (fun c1 => ?_) (fun c1 => ?_)
  · have hF := xif hF c1
    refine lv_iconst (v := 0) hx hb dX8_isDigit_16 (by decide) ?_
    cases hF
    exact x_zret (w := 0) C0 hR hS (by decide) dX8_isDigit_17
  · have hF := xel hF c1
    refine lv_iload_n hx hb dX8_isDigit_6 rfl (lv_at hl 0 rfl) ?_
    refine lv_bipush (v := 57) hx hb dX8_isDigit_7 (by decide) ?_
    refine lv_icmp_gt (tgt := 16) hx hb dX8_isDigit_9 (by decide) (fun c2 => ?_) (fun c2 => ?_)
    · have hF := xif hF c2
      refine lv_iconst (v := 0) hx hb dX8_isDigit_16 (by decide) ?_
      cases hF
      exact x_zret (w := 0) C0 hR hS (by decide) dX8_isDigit_17
    · have hF := xel hF c2
      refine lv_iconst (v := 1) hx hb dX8_isDigit_12 (by decide) ?_
      refine lv_goto (tgt := 17) hx hb dX8_isDigit_13 (by decide) ?_
      cases hF
      exact x_zret (w := 1) C0 hR hS (by decide) dX8_isDigit_17
theorem xm_X8_isDigit : xMw yX8_isDigit cX8_isDigit 1 (some .boolean) 1 := ⟨xin 554 (by decide +kernel) rfl, xin 118 (by decide +kernel) rfl, by decide +kernel⟩
theorem xs_X8_isDigit : Cond.static yX8_isDigit ∈ xT := xin 553 (by decide +kernel) rfl
theorem dX8_takeNumber_0 : decode cX8_takeNumber 0 = .ok (.iconst 0, 1) := by decide +kernel
theorem dX8_takeNumber_1 : decode cX8_takeNumber 1 = .ok (.istore 4, 2) := by decide +kernel
theorem dX8_takeNumber_3 : decode cX8_takeNumber 3 = .ok (.iload_n 2, 1) := by decide +kernel
theorem dX8_takeNumber_4 : decode cX8_takeNumber 4 = .ok (.istore 5, 2) := by decide +kernel
theorem dX8_takeNumber_6 : decode cX8_takeNumber 6 = .ok (.iload 5, 2) := by decide +kernel
theorem dX8_takeNumber_8 : decode cX8_takeNumber 8 = .ok (.iload_n 3, 1) := by decide +kernel
theorem dX8_takeNumber_9 : decode cX8_takeNumber 9 = .ok (.if_icmp .ge 40, 3) := by decide +kernel
theorem dX8_takeNumber_12 : decode cX8_takeNumber 12 = .ok (.aload_n 1, 1) := by decide +kernel
theorem dX8_takeNumber_13 : decode cX8_takeNumber 13 = .ok (.iload 5, 2) := by decide +kernel
theorem dX8_takeNumber_15 : decode cX8_takeNumber 15 = .ok (.iaload, 1) := by decide +kernel
theorem dX8_takeNumber_16 : decode cX8_takeNumber 16 = .ok (.invokestatic 61, 3) := by decide +kernel
theorem dX8_takeNumber_19 : decode cX8_takeNumber 19 = .ok (.ifCond .eq 30, 3) := by decide +kernel
theorem dX8_takeNumber_22 : decode cX8_takeNumber 22 = .ok (.sipush 1000, 3) := by decide +kernel
theorem dX8_takeNumber_25 : decode cX8_takeNumber 25 = .ok (.iload 4, 2) := by decide +kernel
theorem dX8_takeNumber_27 : decode cX8_takeNumber 27 = .ok (.bipush 10, 2) := by decide +kernel
theorem dX8_takeNumber_29 : decode cX8_takeNumber 29 = .ok (.imul, 1) := by decide +kernel
theorem dX8_takeNumber_30 : decode cX8_takeNumber 30 = .ok (.aload_n 1, 1) := by decide +kernel
theorem dX8_takeNumber_31 : decode cX8_takeNumber 31 = .ok (.iload 5, 2) := by decide +kernel
theorem dX8_takeNumber_33 : decode cX8_takeNumber 33 = .ok (.iaload, 1) := by decide +kernel
theorem dX8_takeNumber_34 : decode cX8_takeNumber 34 = .ok (.iadd, 1) := by decide +kernel
theorem dX8_takeNumber_35 : decode cX8_takeNumber 35 = .ok (.bipush 48, 2) := by decide +kernel
theorem dX8_takeNumber_37 : decode cX8_takeNumber 37 = .ok (.isub, 1) := by decide +kernel
theorem dX8_takeNumber_38 : decode cX8_takeNumber 38 = .ok (.invokestatic 37, 3) := by decide +kernel
theorem dX8_takeNumber_41 : decode cX8_takeNumber 41 = .ok (.istore 4, 2) := by decide +kernel
theorem dX8_takeNumber_43 : decode cX8_takeNumber 43 = .ok (.iinc 5 1, 3) := by decide +kernel
theorem dX8_takeNumber_46 : decode cX8_takeNumber 46 = .ok (.goto (-40), 3) := by decide +kernel
theorem dX8_takeNumber_49 : decode cX8_takeNumber 49 = .ok (.aload_n 0, 1) := by decide +kernel
theorem dX8_takeNumber_50 : decode cX8_takeNumber 50 = .ok (.bipush 6, 2) := by decide +kernel
theorem dX8_takeNumber_52 : decode cX8_takeNumber 52 = .ok (.iload_n 2, 1) := by decide +kernel
theorem dX8_takeNumber_53 : decode cX8_takeNumber 53 = .ok (.iload 4, 2) := by decide +kernel
theorem dX8_takeNumber_55 : decode cX8_takeNumber 55 = .ok (.invokevirtual 47, 3) := by decide +kernel
theorem dX8_takeNumber_58 : decode cX8_takeNumber 58 = .ok (.iload 5, 2) := by decide +kernel
theorem dX8_takeNumber_60 : decode cX8_takeNumber 60 = .ok (.ireturn, 1) := by decide +kernel
theorem wl_X8_61 : Cond.methodLink RX8 61 yX8_isDigit ∈ xT := xin 552 (by decide +kernel) rfl
theorem wm_X8_37 : Cond.methodLink RX8 37 Lib.Math.min.name ∈ xT := xin 531 (by decide +kernel) rfl
section XN_X8_takeNumber
variable {p : Program} {l : Launch} {e : Env} {R : Room} {s : State} {m : MethodId} {args : Array Value} {below : List Frame} {meth : Method} {c : Code} {H H0 : Heap} {locs : List Loc} {cells slots : Nat} {Q : State → Prop} {cc : ByteArray} {nL pc : Nat} {rt : Option FieldType} {ls : Array Slot} {rest : List Value} {D : xD} {ty : xTy} {h : xH}
theorem cl_X8_61 {v0 : Int32} {r : Int32} (C0 : xC D RX8 cc nL rt p s m args meth c) (hR : xRep D ty h H) (hS : xS ty H0 H locs) (hF : jf_X8_isDigit v0 = some r) (hrm : jr_X8_isDigit.frames + 1 ≤ R.frames ∧ 8 + (1 + 11) + jr_X8_isDigit.locals ≤ R.locals) (hsz : ls.size = nL) (hW : (rest.map fun v => v.category).sum ≤ 8) (hf : cells ≤ R.cells ∧ slots ≤ R.slots) (hdg : decode cc pc = .ok (.invokestatic 61, 3)) (kk : ∀ (H1 : Heap) (locs1 : List Loc), xRep D ty h H1 → xS ty H0 H1 locs1 → W p l e R s m args below meth c H1 locs1 cells slots Q (F0 m (pc + 3) ls (.int r :: rest))) : W p l e R s m args below meth c H locs cells slots Q (F0 m pc ls (.int v0 :: rest)) := x_callS C0 (jc_X8_isDigit  hF) xm_X8_isDigit xs_X8_isDigit wl_X8_61 ⟨rfl, rfl, hrm⟩ hR hS (As := [.int v0]) rfl hsz rfl hW hdg hf kk
theorem mm_X8_37 {x y : Int32} (C0 : xC D RX8 cc nL rt p s m args meth c) (hsz : ls.size = nL) (h1 : 1 ≤ R.frames) (h2 : (rest.map fun v => v.category).sum + 13 ≤ R.locals) (hf : cells ≤ R.cells ∧ slots ≤ R.slots) (hdg : decode cc pc = .ok (.invokestatic 37, 3)) (kk : W p l e R s m args below meth c H locs cells slots Q (F0 m (pc + 3) ls (.int (xmin x y) :: rest))) : W p l e R s m args below meth c H locs cells slots Q (F0 m pc ls (.int y :: .int x :: rest)) := va_mmin C0.1 C0.2.1 (C0.2.2.1.trans hsz.symm) C0.2.2.2.2.2.1 (C0.2.2.2.2.2.2.1 _ wm_X8_37) (C0.2.2.2.2.2.2.1 _ ms_min) (C0.2.2.2.2.2.2.1 _ ms_init) (C0.2.2.2.2.2.2.1 _ mc_min) h1 h2 hf.1 hf.2 hdg kk
end XN_X8_takeNumber
set_option maxHeartbeats 4000000 in
set_option maxRecDepth 100000 in
theorem jw_X8_takeNumber_6 {p : Program} {l : Launch} {e : Env} {s : State} {m : MethodId} {args : Array Value} {below : List Frame} {meth : Method} {c : Code} {D : xD} {ty : xTy} (C0 : xC D RX8 cX8_takeNumber 6 (some .int) p s m args meth c) {r : Int32} {h9 : xH} : ∀ n : Nat, ∀ (v0 : Nat) (v1 : Nat) (v2 : Int32) (v3 : Int32) (v4 : Int32) (v5 : Int32) (h : xH), ty v0 = some (0, 8) → jf_X8_takeNumber_6 ty n v0 v1 v2 v3 v4 v5 h = some (r, h9) → ∀ (H : Heap) (locs : List Loc), xRep D ty h H → xS ty s.heap H locs → ∀ ls : Array Slot, lv_has ls 6 [(0, .ref v0), (1, .ref v1), (2, .int v2), (3, .int v3), (4, .int v4), (5, .int v5)] → W p l e jr_X8_takeNumber s m args below meth c H locs 0 0 (MQ below (xQ D ty (some (.int r)) h9) args s 0 0 (xdom ty)) (F0 m 6 ls []) := by
  have hx := C0.1
  have hb := C0.2.1
  have hown := C0.2.2.2.2.2.1
  have hts := C0.2.2.2.2.2.2.1
  intro n
  induction n with
  | zero =>
    intro v0 v1 v2 v3 v4 v5 h t_v0 hF H locs hR hS ls hl
    cases hF
  | succ n ih =>
    intro v0 v1 v2 v3 v4 v5 h t_v0 hF H locs hR hS ls hl
    rw [jf_X8_takeNumber_6_s] at hF
    refine lv_iload hx hb dX8_takeNumber_6 (lv_at hl 5 rfl) ?_
    refine lv_iload_n hx hb dX8_takeNumber_8 rfl (lv_at hl 3 rfl) ?_
    refine lv_icmp_ge (tgt := 49) hx hb dX8_takeNumber_9 (by decide) (fun c1 => ?_) (fun c1 => ?_)
    · have hF := xif hF c1
      refine lv_aload_n hx hb dX8_takeNumber_49 rfl (lv_at hl 0 rfl) ?_
      refine lv_bipush (v := 6) hx hb dX8_takeNumber_50 (by decide) ?_
      refine lv_iload_n hx hb dX8_takeNumber_52 rfl (lv_at hl 2 rfl) ?_
      refine lv_iload hx hb dX8_takeNumber_53 (lv_at hl 4 rfl) ?_
      obtain ⟨h2, e_h2, hF⟩ := xbd hF
      refine cl_X8_47 C0 hR hS e_h2 t_v0 ⟨(Nat.le_of_ble_eq_true rfl), (Nat.le_of_ble_eq_true rfl)⟩ hl.1 (Nat.le_of_ble_eq_true rfl) ⟨(Nat.le_of_ble_eq_true rfl), (Nat.le_of_ble_eq_true rfl)⟩ dX8_takeNumber_55 (fun H locs hR hS => ?_)
      refine lv_iload hx hb dX8_takeNumber_58 (lv_at hl 5 rfl) ?_
      cases hF
      exact x_iret C0 hR hS dX8_takeNumber_60
    · have hF := xel hF c1
      refine lv_aload_n hx hb dX8_takeNumber_12 rfl (lv_at hl 1 rfl) ?_
      refine lv_iload hx hb dX8_takeNumber_13 (lv_at hl 5 rfl) ?_
      obtain ⟨a3, e_a3, hF⟩ := xbd hF
      refine x_iald C0 hR e_a3 dX8_takeNumber_15 ?_
      obtain ⟨a4, e_a4, hF⟩ := xbd hF
      refine cl_X8_61 C0 hR hS e_a4  ⟨(Nat.le_of_ble_eq_true rfl), (Nat.le_of_ble_eq_true rfl)⟩ hl.1 (Nat.le_of_ble_eq_true rfl) ⟨(Nat.le_of_ble_eq_true rfl), (Nat.le_of_ble_eq_true rfl)⟩ dX8_takeNumber_16 (fun H locs hR hS => ?_)
      refine lv_if_eq (tgt := 49) hx hb dX8_takeNumber_19 (by decide) (fun c5 => ?_) (fun c5 => ?_)
      · have hF := xif hF c5
        refine lv_aload_n hx hb dX8_takeNumber_49 rfl (lv_at hl 0 rfl) ?_
        refine lv_bipush (v := 6) hx hb dX8_takeNumber_50 (by decide) ?_
        refine lv_iload_n hx hb dX8_takeNumber_52 rfl (lv_at hl 2 rfl) ?_
        refine lv_iload hx hb dX8_takeNumber_53 (lv_at hl 4 rfl) ?_
        obtain ⟨h6, e_h6, hF⟩ := xbd hF
        refine cl_X8_47 C0 hR hS e_h6 t_v0 ⟨(Nat.le_of_ble_eq_true rfl), (Nat.le_of_ble_eq_true rfl)⟩ hl.1 (Nat.le_of_ble_eq_true rfl) ⟨(Nat.le_of_ble_eq_true rfl), (Nat.le_of_ble_eq_true rfl)⟩ dX8_takeNumber_55 (fun H locs hR hS => ?_)
        refine lv_iload hx hb dX8_takeNumber_58 (lv_at hl 5 rfl) ?_
        cases hF
        exact x_iret C0 hR hS dX8_takeNumber_60
      · have hF := xel hF c5
        refine lv_sipush (v := 1000) hx hb dX8_takeNumber_22 (by decide) ?_
        refine lv_iload hx hb dX8_takeNumber_25 (lv_at hl 4 rfl) ?_
        refine lv_bipush (v := 10) hx hb dX8_takeNumber_27 (by decide) ?_
        refine lv_imul hx hb dX8_takeNumber_29 ?_
        refine lv_aload_n hx hb dX8_takeNumber_30 rfl (lv_at hl 1 rfl) ?_
        refine lv_iload hx hb dX8_takeNumber_31 (lv_at hl 5 rfl) ?_
        obtain ⟨a7, e_a7, hF⟩ := xbd hF
        refine x_iald C0 hR e_a7 dX8_takeNumber_33 ?_
        refine lv_iadd hx hb dX8_takeNumber_34 ?_
        refine lv_bipush (v := 48) hx hb dX8_takeNumber_35 (by decide) ?_
        refine lv_isub hx hb dX8_takeNumber_37 ?_
        refine mm_X8_37 C0 hl.1 (Nat.le_of_ble_eq_true rfl) (Nat.le_of_ble_eq_true rfl) ⟨Nat.le_of_ble_eq_true rfl, Nat.le_of_ble_eq_true rfl⟩ dX8_takeNumber_38 ?_
        refine lv_istore (lv' := [(4, .int (xmin 1000 (((v4 * 10) + a7) - 48))), (0, .ref v0), (1, .ref v1), (2, .int v2), (3, .int v3), (5, .int v5)]) hx hb dX8_takeNumber_41 hl (by decide) rfl (fun ls hl => ?_)
        refine lv_iinc (v := v5 + 1) (lv' := [(5, .int (v5 + 1)), (4, .int (xmin 1000 (((v4 * 10) + a7) - 48))), (0, .ref v0), (1, .ref v1), (2, .int v2), (3, .int v3)]) hx hb dX8_takeNumber_43 hl (k := 5) rfl rfl (by decide) rfl (fun ls hl => ?_)
        refine lv_goto (tgt := 6) hx hb dX8_takeNumber_46 (by decide) ?_
        exact ih _ _ _ _ _ _ _ t_v0 hF _ _ hR hS _ (lv_sub hl [2, 3, 4, 5, 1, 0] rfl)
set_option maxHeartbeats 4000000 in
set_option maxRecDepth 100000 in
theorem jc_X8_takeNumber {l : Launch} {D : xD} {ty : xTy} {h : xH} {v0 : Nat} {v1 : Nat} {v2 : Int32} {v3 : Int32} {r : Int32} {h9 : xH} (t_v0 : ty v0 = some (0, 8)) (hF : jf_X8_takeNumber ty h v0 v1 v2 v3 = some (r, h9)) : Met l yX8_takeNumber (xws yX8_takeNumber cX8_takeNumber 6 (some .int)) jr_X8_takeNumber (xPc D ty h [.ref v0, .ref v1, .int v2, .int v3]) (xQ D ty (some (.int r)) h9) 0 0 (xdom ty) := by
  refine x_met (by decide) ?_
  intro p e s m below meth c C0 hR
  generalize hargs : ([.ref v0, .ref v1, .int v2, .int v3] : List Value).toArray = args at C0 ⊢
  have hx := C0.1
  have hb := C0.2.1
  have hown := C0.2.2.2.2.2.1
  have hts := C0.2.2.2.2.2.2.1
  have hS : xS ty s.heap s.heap [] := xS.rf
  have hl := lv_entry ([.ref v0, .ref v1, .int v2, .int v3]) (n := 6) (Nat.le_of_ble_eq_true rfl)
  rw [← hargs, lg_entry_eq]
  rw [hargs]
  generalize (lg_sl ([.ref v0, .ref v1, .int v2, .int v3]) ++ List.replicate (6 - (lg_sl ([.ref v0, .ref v1, .int v2, .int v3])).length) Slot.unset).toArray = ls at hl ⊢
  have hl : lv_has ls 6 [(0, .ref v0), (1, .ref v1), (2, .int v2), (3, .int v3)] := hl
  unfold jf_X8_takeNumber at hF
  refine lv_iconst (v := 0) hx hb dX8_takeNumber_0 (by decide) ?_
  refine lv_istore (lv' := [(4, .int 0), (0, .ref v0), (1, .ref v1), (2, .int v2), (3, .int v3)]) hx hb dX8_takeNumber_1 hl (by decide) rfl (fun ls hl => ?_)
  refine lv_iload_n hx hb dX8_takeNumber_3 rfl (lv_at hl 3 rfl) ?_
  refine lv_istore (lv' := [(5, .int v2), (4, .int 0), (0, .ref v0), (1, .ref v1), (2, .int v2), (3, .int v3)]) hx hb dX8_takeNumber_4 hl (by decide) rfl (fun ls hl => ?_)
  obtain ⟨_, hF⟩ := xlim_sp hF
  exact jw_X8_takeNumber_6 C0 _ _ _ _ _ _ _ _ t_v0 hF _ _ hR hS _ (lv_sub hl [2, 3, 4, 5, 1, 0] rfl)
theorem xm_X8_takeNumber : xMw yX8_takeNumber cX8_takeNumber 6 (some .int) 3 := ⟨xin 558 (by decide +kernel) rfl, xin 118 (by decide +kernel) rfl, by decide +kernel⟩
theorem xi_X8_takeNumber : Cond.instanceMethod yX8_takeNumber ∈ xT := xin 557 (by decide +kernel) rfl
theorem xe_X8_takeNumber : Cond.selects yX8_takeNumber.cls yX8_takeNumber yX8_takeNumber ∈ xT := xin 5 (by decide +kernel) rfl
theorem dX8_isBlank_0 : decode cX8_isBlank 0 = .ok (.iload_n 0, 1) := by decide +kernel
theorem dX8_isBlank_1 : decode cX8_isBlank 1 = .ok (.bipush 10, 2) := by decide +kernel
theorem dX8_isBlank_3 : decode cX8_isBlank 3 = .ok (.if_icmp .eq 9, 3) := by decide +kernel
theorem dX8_isBlank_6 : decode cX8_isBlank 6 = .ok (.iload_n 0, 1) := by decide +kernel
theorem dX8_isBlank_7 : decode cX8_isBlank 7 = .ok (.bipush 32, 2) := by decide +kernel
theorem dX8_isBlank_9 : decode cX8_isBlank 9 = .ok (.if_icmp .ne 7, 3) := by decide +kernel
theorem dX8_isBlank_12 : decode cX8_isBlank 12 = .ok (.iconst 1, 1) := by decide +kernel
theorem dX8_isBlank_13 : decode cX8_isBlank 13 = .ok (.goto 4, 3) := by decide +kernel
theorem dX8_isBlank_16 : decode cX8_isBlank 16 = .ok (.iconst 0, 1) := by decide +kernel
theorem dX8_isBlank_17 : decode cX8_isBlank 17 = .ok (.ireturn, 1) := by decide +kernel
set_option maxHeartbeats 4000000 in
set_option maxRecDepth 100000 in
theorem jc_X8_isBlank {l : Launch} {D : xD} {ty : xTy} {h : xH} {v0 : Int32} {r : Int32} (hF : jf_X8_isBlank v0 = some r) : Met l yX8_isBlank (xws yX8_isBlank cX8_isBlank 1 (some .boolean)) jr_X8_isBlank (xPc D ty h [.int v0]) (xQ D ty (some (.int r)) h) 0 0 (xdom ty) := by
  refine x_met (by decide) ?_
  intro p e s m below meth c C0 hR
  generalize hargs : ([.int v0] : List Value).toArray = args at C0 ⊢
  have hx := C0.1
  have hb := C0.2.1
  have hown := C0.2.2.2.2.2.1
  have hts := C0.2.2.2.2.2.2.1
  have hS : xS ty s.heap s.heap [] := xS.rf
  have hl := lv_entry ([.int v0]) (n := 1) (Nat.le_of_ble_eq_true rfl)
  rw [← hargs, lg_entry_eq]
  rw [hargs]
  generalize (lg_sl ([.int v0]) ++ List.replicate (1 - (lg_sl ([.int v0])).length) Slot.unset).toArray = ls at hl ⊢
  have hl : lv_has ls 1 [(0, .int v0)] := hl
  unfold jf_X8_isBlank at hF
  refine lv_iload_n hx hb dX8_isBlank_0 rfl (lv_at hl 0 rfl) ?_
  refine lv_bipush (v := 10) hx hb dX8_isBlank_1 (by decide) ?_
  refine lv_icmp_eq (tgt := 12) hx hb dX8_isBlank_3 (by decide) (fun c1 => ?_) (fun c1 => ?_)
  · have hF := xif hF c1
    refine lv_iconst (v := 1) hx hb dX8_isBlank_12 (by decide) ?_
    refine lv_goto (tgt := 17) hx hb dX8_isBlank_13 (by decide) ?_
    cases hF
    exact x_zret (w := 1) C0 hR hS (by decide) dX8_isBlank_17
  · have hF := xel hF c1
    refine lv_iload_n hx hb dX8_isBlank_6 rfl (lv_at hl 0 rfl) ?_
    refine lv_bipush (v := 32) hx hb dX8_isBlank_7 (by decide) ?_
    refine lv_icmp_ne (tgt := 16) hx hb dX8_isBlank_9 (by decide) (fun c2 => ?_) (fun c2 => ?_)
    · have hF := xel hF c2
      refine lv_iconst (v := 0) hx hb dX8_isBlank_16 (by decide) ?_
      cases hF
      exact x_zret (w := 0) C0 hR hS (by decide) dX8_isBlank_17
    · have hF := xif hF c2
      refine lv_iconst (v := 1) hx hb dX8_isBlank_12 (by decide) ?_
      refine lv_goto (tgt := 17) hx hb dX8_isBlank_13 (by decide) ?_
      cases hF
      exact x_zret (w := 1) C0 hR hS (by decide) dX8_isBlank_17
theorem xm_X8_isBlank : xMw yX8_isBlank cX8_isBlank 1 (some .boolean) 1 := ⟨xin 561 (by decide +kernel) rfl, xin 118 (by decide +kernel) rfl, by decide +kernel⟩
theorem xs_X8_isBlank : Cond.static yX8_isBlank ∈ xT := xin 560 (by decide +kernel) rfl
theorem dX8_markKind_0 : decode cX8_markKind 0 = .ok (.iload_n 0, 1) := by decide +kernel
theorem dX8_markKind_1 : decode cX8_markKind 1 = .ok (.bipush 59, 2) := by decide +kernel
theorem dX8_markKind_3 : decode cX8_markKind 3 = .ok (.if_icmp .eq 27, 3) := by decide +kernel
theorem dX8_markKind_6 : decode cX8_markKind 6 = .ok (.iload_n 0, 1) := by decide +kernel
theorem dX8_markKind_7 : decode cX8_markKind 7 = .ok (.bipush 61, 2) := by decide +kernel
theorem dX8_markKind_9 : decode cX8_markKind 9 = .ok (.if_icmp .eq 21, 3) := by decide +kernel
theorem dX8_markKind_12 : decode cX8_markKind 12 = .ok (.iload_n 0, 1) := by decide +kernel
theorem dX8_markKind_13 : decode cX8_markKind 13 = .ok (.bipush 44, 2) := by decide +kernel
theorem dX8_markKind_15 : decode cX8_markKind 15 = .ok (.if_icmp .eq 15, 3) := by decide +kernel
theorem dX8_markKind_18 : decode cX8_markKind 18 = .ok (.iload_n 0, 1) := by decide +kernel
theorem dX8_markKind_19 : decode cX8_markKind 19 = .ok (.bipush 40, 2) := by decide +kernel
theorem dX8_markKind_21 : decode cX8_markKind 21 = .ok (.if_icmp .eq 9, 3) := by decide +kernel
theorem dX8_markKind_24 : decode cX8_markKind 24 = .ok (.iload_n 0, 1) := by decide +kernel
theorem dX8_markKind_25 : decode cX8_markKind 25 = .ok (.bipush 41, 2) := by decide +kernel
theorem dX8_markKind_27 : decode cX8_markKind 27 = .ok (.if_icmp .ne 7, 3) := by decide +kernel
theorem dX8_markKind_30 : decode cX8_markKind 30 = .ok (.iconst 1, 1) := by decide +kernel
theorem dX8_markKind_31 : decode cX8_markKind 31 = .ok (.goto 4, 3) := by decide +kernel
theorem dX8_markKind_34 : decode cX8_markKind 34 = .ok (.iconst 0, 1) := by decide +kernel
theorem dX8_markKind_35 : decode cX8_markKind 35 = .ok (.istore_n 1, 1) := by decide +kernel
theorem dX8_markKind_36 : decode cX8_markKind 36 = .ok (.iload_n 1, 1) := by decide +kernel
theorem dX8_markKind_37 : decode cX8_markKind 37 = .ok (.ifCond .eq 7, 3) := by decide +kernel
theorem dX8_markKind_40 : decode cX8_markKind 40 = .ok (.iload_n 0, 1) := by decide +kernel
theorem dX8_markKind_41 : decode cX8_markKind 41 = .ok (.goto 4, 3) := by decide +kernel
theorem dX8_markKind_44 : decode cX8_markKind 44 = .ok (.iconst 1, 1) := by decide +kernel
theorem dX8_markKind_45 : decode cX8_markKind 45 = .ok (.ireturn, 1) := by decide +kernel
set_option maxHeartbeats 4000000 in
set_option maxRecDepth 100000 in
theorem jw_X8_markKind_30 {p : Program} {l : Launch} {e : Env} {s : State} {m : MethodId} {args : Array Value} {below : List Frame} {meth : Method} {c : Code} {D : xD} {ty : xTy} {h : xH} (C0 : xC D RX8 cX8_markKind 2 (some .int) p s m args meth c) {r : Int32} : ∀ (v0 : Int32), jf_X8_markKind_30 ty h v0 = some r → ∀ (H : Heap) (locs : List Loc), xRep D ty h H → xS ty s.heap H locs → ∀ ls : Array Slot, lv_has ls 2 [(0, .int v0)] → W p l e jr_X8_markKind s m args below meth c H locs 0 0 (MQ below (xQ D ty (some (.int r)) h) args s 0 0 (xdom ty)) (F0 m 30 ls []) := by
  have hx := C0.1
  have hb := C0.2.1
  have hown := C0.2.2.2.2.2.1
  have hts := C0.2.2.2.2.2.2.1
  intro v0 hF H locs hR hS ls hl
  unfold jf_X8_markKind_30 at hF
  refine lv_iconst (v := 1) hx hb dX8_markKind_30 (by decide) ?_
  refine lv_goto (tgt := 35) hx hb dX8_markKind_31 (by decide) ?_
  refine lv_istore_n (lv' := [(1, .int 1), (0, .int v0)]) hx hb dX8_markKind_35 rfl hl (by decide) rfl (fun ls hl => ?_)
  refine lv_iload_n hx hb dX8_markKind_36 rfl (lv_at hl 0 rfl) ?_
  refine lv_if_eq (tgt := 44) hx hb dX8_markKind_37 (by decide) (fun c1 => ?_) (fun c1 => ?_)
  · have hF := xif hF c1
    refine lv_iconst (v := 1) hx hb dX8_markKind_44 (by decide) ?_
    cases hF
    exact x_iret C0 hR hS dX8_markKind_45
  · have hF := xel hF c1
    refine lv_iload_n hx hb dX8_markKind_40 rfl (lv_at hl 1 rfl) ?_
    refine lv_goto (tgt := 45) hx hb dX8_markKind_41 (by decide) ?_
    cases hF
    exact x_iret C0 hR hS dX8_markKind_45
set_option maxHeartbeats 4000000 in
set_option maxRecDepth 100000 in
theorem jc_X8_markKind {l : Launch} {D : xD} {ty : xTy} {h : xH} {v0 : Int32} {r : Int32} (hF : jf_X8_markKind ty h v0 = some r) : Met l yX8_markKind (xws yX8_markKind cX8_markKind 2 (some .int)) jr_X8_markKind (xPc D ty h [.int v0]) (xQ D ty (some (.int r)) h) 0 0 (xdom ty) := by
  refine x_met (by decide) ?_
  intro p e s m below meth c C0 hR
  generalize hargs : ([.int v0] : List Value).toArray = args at C0 ⊢
  have hx := C0.1
  have hb := C0.2.1
  have hown := C0.2.2.2.2.2.1
  have hts := C0.2.2.2.2.2.2.1
  have hS : xS ty s.heap s.heap [] := xS.rf
  have hl := lv_entry ([.int v0]) (n := 2) (Nat.le_of_ble_eq_true rfl)
  rw [← hargs, lg_entry_eq]
  rw [hargs]
  generalize (lg_sl ([.int v0]) ++ List.replicate (2 - (lg_sl ([.int v0])).length) Slot.unset).toArray = ls at hl ⊢
  have hl : lv_has ls 2 [(0, .int v0)] := hl
  unfold jf_X8_markKind at hF
  refine lv_iload_n hx hb dX8_markKind_0 rfl (lv_at hl 0 rfl) ?_
  refine lv_bipush (v := 59) hx hb dX8_markKind_1 (by decide) ?_
  refine lv_icmp_eq (tgt := 30) hx hb dX8_markKind_3 (by decide) (fun c2 => ?_) (fun c2 => ?_)
  · have hF := xif hF c2
    exact jw_X8_markKind_30 C0 _ hF _ _ hR hS _ (lv_sub hl [0] rfl)
  · have hF := xel hF c2
    refine lv_iload_n hx hb dX8_markKind_6 rfl (lv_at hl 0 rfl) ?_
    refine lv_bipush (v := 61) hx hb dX8_markKind_7 (by decide) ?_
    refine lv_icmp_eq (tgt := 30) hx hb dX8_markKind_9 (by decide) (fun c3 => ?_) (fun c3 => ?_)
    · have hF := xif hF c3
      exact jw_X8_markKind_30 C0 _ hF _ _ hR hS _ (lv_sub hl [0] rfl)
    · have hF := xel hF c3
      refine lv_iload_n hx hb dX8_markKind_12 rfl (lv_at hl 0 rfl) ?_
      refine lv_bipush (v := 44) hx hb dX8_markKind_13 (by decide) ?_
      refine lv_icmp_eq (tgt := 30) hx hb dX8_markKind_15 (by decide) (fun c4 => ?_) (fun c4 => ?_)
      · have hF := xif hF c4
        exact jw_X8_markKind_30 C0 _ hF _ _ hR hS _ (lv_sub hl [0] rfl)
      · have hF := xel hF c4
        refine lv_iload_n hx hb dX8_markKind_18 rfl (lv_at hl 0 rfl) ?_
        refine lv_bipush (v := 40) hx hb dX8_markKind_19 (by decide) ?_
        refine lv_icmp_eq (tgt := 30) hx hb dX8_markKind_21 (by decide) (fun c5 => ?_) (fun c5 => ?_)
        · have hF := xif hF c5
          exact jw_X8_markKind_30 C0 _ hF _ _ hR hS _ (lv_sub hl [0] rfl)
        · have hF := xel hF c5
          refine lv_iload_n hx hb dX8_markKind_24 rfl (lv_at hl 0 rfl) ?_
          refine lv_bipush (v := 41) hx hb dX8_markKind_25 (by decide) ?_
          refine lv_icmp_ne (tgt := 34) hx hb dX8_markKind_27 (by decide) (fun c6 => ?_) (fun c6 => ?_)
          · have hF := xel hF c6
            refine lv_iconst (v := 0) hx hb dX8_markKind_34 (by decide) ?_
            refine lv_istore_n (lv' := [(1, .int 0), (0, .int v0)]) hx hb dX8_markKind_35 rfl hl (by decide) rfl (fun ls hl => ?_)
            refine lv_iload_n hx hb dX8_markKind_36 rfl (lv_at hl 0 rfl) ?_
            refine lv_if_eq (tgt := 44) hx hb dX8_markKind_37 (by decide) (fun c7 => ?_) (fun c7 => ?_)
            · have hF := xif hF c7
              refine lv_iconst (v := 1) hx hb dX8_markKind_44 (by decide) ?_
              cases hF
              exact x_iret C0 hR hS dX8_markKind_45
            · have hF := xel hF c7
              refine lv_iload_n hx hb dX8_markKind_40 rfl (lv_at hl 1 rfl) ?_
              refine lv_goto (tgt := 45) hx hb dX8_markKind_41 (by decide) ?_
              cases hF
              exact x_iret C0 hR hS dX8_markKind_45
          · have hF := xif hF c6
            exact jw_X8_markKind_30 C0 _ hF _ _ hR hS _ (lv_sub hl [0] rfl)
theorem xm_X8_markKind : xMw yX8_markKind cX8_markKind 2 (some .int) 1 := ⟨xin 564 (by decide +kernel) rfl, xin 118 (by decide +kernel) rfl, by decide +kernel⟩
theorem xs_X8_markKind : Cond.static yX8_markKind ∈ xT := xin 563 (by decide +kernel) rfl
theorem dX8_takeToken_0 : decode cX8_takeToken 0 = .ok (.aload_n 1, 1) := by decide +kernel
theorem dX8_takeToken_1 : decode cX8_takeToken 1 = .ok (.iload_n 2, 1) := by decide +kernel
theorem dX8_takeToken_2 : decode cX8_takeToken 2 = .ok (.iaload, 1) := by decide +kernel
theorem dX8_takeToken_3 : decode cX8_takeToken 3 = .ok (.istore 4, 2) := by decide +kernel
theorem dX8_takeToken_5 : decode cX8_takeToken 5 = .ok (.iload 4, 2) := by decide +kernel
theorem dX8_takeToken_7 : decode cX8_takeToken 7 = .ok (.invokestatic 54, 3) := by decide +kernel
theorem dX8_takeToken_10 : decode cX8_takeToken 10 = .ok (.ifCond .eq 11, 3) := by decide +kernel
theorem dX8_takeToken_13 : decode cX8_takeToken 13 = .ok (.aload_n 0, 1) := by decide +kernel
theorem dX8_takeToken_14 : decode cX8_takeToken 14 = .ok (.aload_n 1, 1) := by decide +kernel
theorem dX8_takeToken_15 : decode cX8_takeToken 15 = .ok (.iload_n 2, 1) := by decide +kernel
theorem dX8_takeToken_16 : decode cX8_takeToken 16 = .ok (.iload_n 3, 1) := by decide +kernel
theorem dX8_takeToken_17 : decode cX8_takeToken 17 = .ok (.invokevirtual 58, 3) := by decide +kernel
theorem dX8_takeToken_20 : decode cX8_takeToken 20 = .ok (.ireturn, 1) := by decide +kernel
theorem dX8_takeToken_21 : decode cX8_takeToken 21 = .ok (.iload 4, 2) := by decide +kernel
theorem dX8_takeToken_23 : decode cX8_takeToken 23 = .ok (.invokestatic 61, 3) := by decide +kernel
theorem dX8_takeToken_26 : decode cX8_takeToken 26 = .ok (.ifCond .eq 11, 3) := by decide +kernel
theorem dX8_takeToken_29 : decode cX8_takeToken 29 = .ok (.aload_n 0, 1) := by decide +kernel
theorem dX8_takeToken_30 : decode cX8_takeToken 30 = .ok (.aload_n 1, 1) := by decide +kernel
theorem dX8_takeToken_31 : decode cX8_takeToken 31 = .ok (.iload_n 2, 1) := by decide +kernel
theorem dX8_takeToken_32 : decode cX8_takeToken 32 = .ok (.iload_n 3, 1) := by decide +kernel
theorem dX8_takeToken_33 : decode cX8_takeToken 33 = .ok (.invokevirtual 64, 3) := by decide +kernel
theorem dX8_takeToken_36 : decode cX8_takeToken 36 = .ok (.ireturn, 1) := by decide +kernel
theorem dX8_takeToken_37 : decode cX8_takeToken 37 = .ok (.iload 4, 2) := by decide +kernel
theorem dX8_takeToken_39 : decode cX8_takeToken 39 = .ok (.invokestatic 67, 3) := by decide +kernel
theorem dX8_takeToken_42 : decode cX8_takeToken 42 = .ok (.ifCond .ne 14, 3) := by decide +kernel
theorem dX8_takeToken_45 : decode cX8_takeToken 45 = .ok (.aload_n 0, 1) := by decide +kernel
theorem dX8_takeToken_46 : decode cX8_takeToken 46 = .ok (.iload 4, 2) := by decide +kernel
theorem dX8_takeToken_48 : decode cX8_takeToken 48 = .ok (.invokestatic 70, 3) := by decide +kernel
theorem dX8_takeToken_51 : decode cX8_takeToken 51 = .ok (.iload_n 2, 1) := by decide +kernel
theorem dX8_takeToken_52 : decode cX8_takeToken 52 = .ok (.iconst 0, 1) := by decide +kernel
theorem dX8_takeToken_53 : decode cX8_takeToken 53 = .ok (.invokevirtual 47, 3) := by decide +kernel
theorem dX8_takeToken_56 : decode cX8_takeToken 56 = .ok (.iload_n 2, 1) := by decide +kernel
theorem dX8_takeToken_57 : decode cX8_takeToken 57 = .ok (.iconst 1, 1) := by decide +kernel
theorem dX8_takeToken_58 : decode cX8_takeToken 58 = .ok (.iadd, 1) := by decide +kernel
theorem dX8_takeToken_59 : decode cX8_takeToken 59 = .ok (.ireturn, 1) := by decide +kernel
theorem wl_X8_58 : Cond.methodLink RX8 58 yX8_takeWord ∈ xT := xin 541 (by decide +kernel) rfl
theorem wl_X8_64 : Cond.methodLink RX8 64 yX8_takeNumber ∈ xT := xin 555 (by decide +kernel) rfl
theorem wl_X8_67 : Cond.methodLink RX8 67 yX8_isBlank ∈ xT := xin 559 (by decide +kernel) rfl
theorem wl_X8_70 : Cond.methodLink RX8 70 yX8_markKind ∈ xT := xin 562 (by decide +kernel) rfl
section XN_X8_takeToken
variable {p : Program} {l : Launch} {e : Env} {R : Room} {s : State} {m : MethodId} {args : Array Value} {below : List Frame} {meth : Method} {c : Code} {H H0 : Heap} {locs : List Loc} {cells slots : Nat} {Q : State → Prop} {cc : ByteArray} {nL pc : Nat} {rt : Option FieldType} {ls : Array Slot} {rest : List Value} {D : xD} {ty : xTy} {h : xH}
theorem cl_X8_58 {v0 : Nat} {v1 : Nat} {v2 : Int32} {v3 : Int32} {r : Int32} {h9 : xH} (C0 : xC D RX8 cc nL rt p s m args meth c) (hR : xRep D ty h H) (hS : xS ty H0 H locs) (hF : jf_X8_takeWord ty h v0 v1 v2 v3 = some (r, h9)) (t_v0 : ty v0 = some (0, 8)) (hrm : jr_X8_takeWord.frames + 1 ≤ R.frames ∧ 8 + (8 + 11) + jr_X8_takeWord.locals ≤ R.locals) (hsz : ls.size = nL) (hW : (rest.map fun v => v.category).sum ≤ 8) (hf : cells ≤ R.cells ∧ slots ≤ R.slots) (hdg : decode cc pc = .ok (.invokevirtual 58, 3)) (kk : ∀ (H1 : Heap) (locs1 : List Loc), xRep D ty h9 H1 → xS ty H0 H1 locs1 → W p l e R s m args below meth c H1 locs1 cells slots Q (F0 m (pc + 3) ls (.int r :: rest))) : W p l e R s m args below meth c H locs cells slots Q (F0 m pc ls (.int v3 :: .int v2 :: .ref v1 :: .ref v0 :: rest)) := x_callV C0 (jc_X8_takeWord t_v0 hF) xm_X8_takeWord xi_X8_takeWord xe_X8_takeWord wl_X8_58 ⟨rfl, rfl, hrm⟩ (ci := 8) rfl t_v0 hR hS (As := [.ref v1, .int v2, .int v3]) rfl hsz rfl hW hdg hf kk
theorem cl_X8_64 {v0 : Nat} {v1 : Nat} {v2 : Int32} {v3 : Int32} {r : Int32} {h9 : xH} (C0 : xC D RX8 cc nL rt p s m args meth c) (hR : xRep D ty h H) (hS : xS ty H0 H locs) (hF : jf_X8_takeNumber ty h v0 v1 v2 v3 = some (r, h9)) (t_v0 : ty v0 = some (0, 8)) (hrm : jr_X8_takeNumber.frames + 1 ≤ R.frames ∧ 8 + (6 + 11) + jr_X8_takeNumber.locals ≤ R.locals) (hsz : ls.size = nL) (hW : (rest.map fun v => v.category).sum ≤ 8) (hf : cells ≤ R.cells ∧ slots ≤ R.slots) (hdg : decode cc pc = .ok (.invokevirtual 64, 3)) (kk : ∀ (H1 : Heap) (locs1 : List Loc), xRep D ty h9 H1 → xS ty H0 H1 locs1 → W p l e R s m args below meth c H1 locs1 cells slots Q (F0 m (pc + 3) ls (.int r :: rest))) : W p l e R s m args below meth c H locs cells slots Q (F0 m pc ls (.int v3 :: .int v2 :: .ref v1 :: .ref v0 :: rest)) := x_callV C0 (jc_X8_takeNumber t_v0 hF) xm_X8_takeNumber xi_X8_takeNumber xe_X8_takeNumber wl_X8_64 ⟨rfl, rfl, hrm⟩ (ci := 8) rfl t_v0 hR hS (As := [.ref v1, .int v2, .int v3]) rfl hsz rfl hW hdg hf kk
theorem cl_X8_67 {v0 : Int32} {r : Int32} (C0 : xC D RX8 cc nL rt p s m args meth c) (hR : xRep D ty h H) (hS : xS ty H0 H locs) (hF : jf_X8_isBlank v0 = some r) (hrm : jr_X8_isBlank.frames + 1 ≤ R.frames ∧ 8 + (1 + 11) + jr_X8_isBlank.locals ≤ R.locals) (hsz : ls.size = nL) (hW : (rest.map fun v => v.category).sum ≤ 8) (hf : cells ≤ R.cells ∧ slots ≤ R.slots) (hdg : decode cc pc = .ok (.invokestatic 67, 3)) (kk : ∀ (H1 : Heap) (locs1 : List Loc), xRep D ty h H1 → xS ty H0 H1 locs1 → W p l e R s m args below meth c H1 locs1 cells slots Q (F0 m (pc + 3) ls (.int r :: rest))) : W p l e R s m args below meth c H locs cells slots Q (F0 m pc ls (.int v0 :: rest)) := x_callS C0 (jc_X8_isBlank  hF) xm_X8_isBlank xs_X8_isBlank wl_X8_67 ⟨rfl, rfl, hrm⟩ hR hS (As := [.int v0]) rfl hsz rfl hW hdg hf kk
theorem cl_X8_70 {v0 : Int32} {r : Int32} (C0 : xC D RX8 cc nL rt p s m args meth c) (hR : xRep D ty h H) (hS : xS ty H0 H locs) (hF : jf_X8_markKind ty h v0 = some r) (hrm : jr_X8_markKind.frames + 1 ≤ R.frames ∧ 8 + (2 + 11) + jr_X8_markKind.locals ≤ R.locals) (hsz : ls.size = nL) (hW : (rest.map fun v => v.category).sum ≤ 8) (hf : cells ≤ R.cells ∧ slots ≤ R.slots) (hdg : decode cc pc = .ok (.invokestatic 70, 3)) (kk : ∀ (H1 : Heap) (locs1 : List Loc), xRep D ty h H1 → xS ty H0 H1 locs1 → W p l e R s m args below meth c H1 locs1 cells slots Q (F0 m (pc + 3) ls (.int r :: rest))) : W p l e R s m args below meth c H locs cells slots Q (F0 m pc ls (.int v0 :: rest)) := x_callS C0 (jc_X8_markKind  hF) xm_X8_markKind xs_X8_markKind wl_X8_70 ⟨rfl, rfl, hrm⟩ hR hS (As := [.int v0]) rfl hsz rfl hW hdg hf kk
end XN_X8_takeToken
set_option maxHeartbeats 4000000 in
set_option maxRecDepth 100000 in
theorem jc_X8_takeToken {l : Launch} {D : xD} {ty : xTy} {h : xH} {v0 : Nat} {v1 : Nat} {v2 : Int32} {v3 : Int32} {r : Int32} {h9 : xH} (t_v0 : ty v0 = some (0, 8)) (hF : jf_X8_takeToken ty h v0 v1 v2 v3 = some (r, h9)) : Met l yX8_takeToken (xws yX8_takeToken cX8_takeToken 5 (some .int)) jr_X8_takeToken (xPc D ty h [.ref v0, .ref v1, .int v2, .int v3]) (xQ D ty (some (.int r)) h9) 0 0 (xdom ty) := by
  refine x_met (by decide) ?_
  intro p e s m below meth c C0 hR
  generalize hargs : ([.ref v0, .ref v1, .int v2, .int v3] : List Value).toArray = args at C0 ⊢
  have hx := C0.1
  have hb := C0.2.1
  have hown := C0.2.2.2.2.2.1
  have hts := C0.2.2.2.2.2.2.1
  have hS : xS ty s.heap s.heap [] := xS.rf
  have hl := lv_entry ([.ref v0, .ref v1, .int v2, .int v3]) (n := 5) (Nat.le_of_ble_eq_true rfl)
  rw [← hargs, lg_entry_eq]
  rw [hargs]
  generalize (lg_sl ([.ref v0, .ref v1, .int v2, .int v3]) ++ List.replicate (5 - (lg_sl ([.ref v0, .ref v1, .int v2, .int v3])).length) Slot.unset).toArray = ls at hl ⊢
  have hl : lv_has ls 5 [(0, .ref v0), (1, .ref v1), (2, .int v2), (3, .int v3)] := hl
  unfold jf_X8_takeToken at hF
  refine lv_aload_n hx hb dX8_takeToken_0 rfl (lv_at hl 1 rfl) ?_
  refine lv_iload_n hx hb dX8_takeToken_1 rfl (lv_at hl 2 rfl) ?_
  obtain ⟨a1, e_a1, hF⟩ := xbd hF
  refine x_iald C0 hR e_a1 dX8_takeToken_2 ?_
  refine lv_istore (lv' := [(4, .int a1), (0, .ref v0), (1, .ref v1), (2, .int v2), (3, .int v3)]) hx hb dX8_takeToken_3 hl (by decide) rfl (fun ls hl => ?_)
  refine lv_iload hx hb dX8_takeToken_5 (lv_at hl 0 rfl) ?_
  obtain ⟨a2, e_a2, hF⟩ := xbd hF
  refine cl_X8_54 C0 hR hS e_a2  ⟨(Nat.le_of_ble_eq_true rfl), (Nat.le_of_ble_eq_true rfl)⟩ hl.1 (Nat.le_of_ble_eq_true rfl) ⟨(Nat.le_of_ble_eq_true rfl), (Nat.le_of_ble_eq_true rfl)⟩ dX8_takeToken_7 (fun H locs hR hS => ?_)
  refine lv_if_eq (tgt := 21) hx hb dX8_takeToken_10 (by decide) (fun c3 => ?_) (fun c3 => ?_)
  · have hF := xif hF c3
    refine lv_iload hx hb dX8_takeToken_21 (lv_at hl 0 rfl) ?_
    obtain ⟨a4, e_a4, hF⟩ := xbd hF
    refine cl_X8_61 C0 hR hS e_a4  ⟨(Nat.le_of_ble_eq_true rfl), (Nat.le_of_ble_eq_true rfl)⟩ hl.1 (Nat.le_of_ble_eq_true rfl) ⟨(Nat.le_of_ble_eq_true rfl), (Nat.le_of_ble_eq_true rfl)⟩ dX8_takeToken_23 (fun H locs hR hS => ?_)
    refine lv_if_eq (tgt := 37) hx hb dX8_takeToken_26 (by decide) (fun c5 => ?_) (fun c5 => ?_)
    · have hF := xif hF c5
      refine lv_iload hx hb dX8_takeToken_37 (lv_at hl 0 rfl) ?_
      obtain ⟨a6, e_a6, hF⟩ := xbd hF
      refine cl_X8_67 C0 hR hS e_a6  ⟨(Nat.le_of_ble_eq_true rfl), (Nat.le_of_ble_eq_true rfl)⟩ hl.1 (Nat.le_of_ble_eq_true rfl) ⟨(Nat.le_of_ble_eq_true rfl), (Nat.le_of_ble_eq_true rfl)⟩ dX8_takeToken_39 (fun H locs hR hS => ?_)
      refine lv_if_ne (tgt := 56) hx hb dX8_takeToken_42 (by decide) (fun c7 => ?_) (fun c7 => ?_)
      · have hF := xel hF c7
        refine lv_iload_n hx hb dX8_takeToken_56 rfl (lv_at hl 3 rfl) ?_
        refine lv_iconst (v := 1) hx hb dX8_takeToken_57 (by decide) ?_
        refine lv_iadd hx hb dX8_takeToken_58 ?_
        cases hF
        exact x_iret C0 hR hS dX8_takeToken_59
      · have hF := xif hF c7
        refine lv_aload_n hx hb dX8_takeToken_45 rfl (lv_at hl 1 rfl) ?_
        refine lv_iload hx hb dX8_takeToken_46 (lv_at hl 0 rfl) ?_
        obtain ⟨a8, e_a8, hF⟩ := xbd hF
        refine cl_X8_70 C0 hR hS e_a8  ⟨(Nat.le_of_ble_eq_true rfl), (Nat.le_of_ble_eq_true rfl)⟩ hl.1 (Nat.le_of_ble_eq_true rfl) ⟨(Nat.le_of_ble_eq_true rfl), (Nat.le_of_ble_eq_true rfl)⟩ dX8_takeToken_48 (fun H locs hR hS => ?_)
        refine lv_iload_n hx hb dX8_takeToken_51 rfl (lv_at hl 3 rfl) ?_
        refine lv_iconst (v := 0) hx hb dX8_takeToken_52 (by decide) ?_
        obtain ⟨h9, e_h9, hF⟩ := xbd hF
        refine cl_X8_47 C0 hR hS e_h9 t_v0 ⟨(Nat.le_of_ble_eq_true rfl), (Nat.le_of_ble_eq_true rfl)⟩ hl.1 (Nat.le_of_ble_eq_true rfl) ⟨(Nat.le_of_ble_eq_true rfl), (Nat.le_of_ble_eq_true rfl)⟩ dX8_takeToken_53 (fun H locs hR hS => ?_)
        refine lv_iload_n hx hb dX8_takeToken_56 rfl (lv_at hl 3 rfl) ?_
        refine lv_iconst (v := 1) hx hb dX8_takeToken_57 (by decide) ?_
        refine lv_iadd hx hb dX8_takeToken_58 ?_
        cases hF
        exact x_iret C0 hR hS dX8_takeToken_59
    · have hF := xel hF c5
      refine lv_aload_n hx hb dX8_takeToken_29 rfl (lv_at hl 1 rfl) ?_
      refine lv_aload_n hx hb dX8_takeToken_30 rfl (lv_at hl 2 rfl) ?_
      refine lv_iload_n hx hb dX8_takeToken_31 rfl (lv_at hl 3 rfl) ?_
      refine lv_iload_n hx hb dX8_takeToken_32 rfl (lv_at hl 4 rfl) ?_
      obtain ⟨a11, h10, e_h10, hF⟩ := xbd2 hF
      refine cl_X8_64 C0 hR hS e_h10 t_v0 ⟨(Nat.le_of_ble_eq_true rfl), (Nat.le_of_ble_eq_true rfl)⟩ hl.1 (Nat.le_of_ble_eq_true rfl) ⟨(Nat.le_of_ble_eq_true rfl), (Nat.le_of_ble_eq_true rfl)⟩ dX8_takeToken_33 (fun H locs hR hS => ?_)
      cases hF
      exact x_iret C0 hR hS dX8_takeToken_36
  · have hF := xel hF c3
    refine lv_aload_n hx hb dX8_takeToken_13 rfl (lv_at hl 1 rfl) ?_
    refine lv_aload_n hx hb dX8_takeToken_14 rfl (lv_at hl 2 rfl) ?_
    refine lv_iload_n hx hb dX8_takeToken_15 rfl (lv_at hl 3 rfl) ?_
    refine lv_iload_n hx hb dX8_takeToken_16 rfl (lv_at hl 4 rfl) ?_
    obtain ⟨a13, h12, e_h12, hF⟩ := xbd2 hF
    refine cl_X8_58 C0 hR hS e_h12 t_v0 ⟨(Nat.le_of_ble_eq_true rfl), (Nat.le_of_ble_eq_true rfl)⟩ hl.1 (Nat.le_of_ble_eq_true rfl) ⟨(Nat.le_of_ble_eq_true rfl), (Nat.le_of_ble_eq_true rfl)⟩ dX8_takeToken_17 (fun H locs hR hS => ?_)
    cases hF
    exact x_iret C0 hR hS dX8_takeToken_20
theorem xm_X8_takeToken : xMw yX8_takeToken cX8_takeToken 5 (some .int) 3 := ⟨xin 537 (by decide +kernel) rfl, xin 118 (by decide +kernel) rfl, by decide +kernel⟩
theorem xi_X8_takeToken : Cond.instanceMethod yX8_takeToken ∈ xT := xin 536 (by decide +kernel) rfl
theorem xe_X8_takeToken : Cond.selects yX8_takeToken.cls yX8_takeToken yX8_takeToken ∈ xT := xin 2 (by decide +kernel) rfl
theorem dX8_advance_0 : decode cX8_advance 0 = .ok (.aload_n 0, 1) := by decide +kernel
theorem dX8_advance_1 : decode cX8_advance 1 = .ok (.getfield 25, 3) := by decide +kernel
theorem dX8_advance_4 : decode cX8_advance 4 = .ok (.ifCond .lt 73, 3) := by decide +kernel
theorem dX8_advance_7 : decode cX8_advance 7 = .ok (.aload_n 0, 1) := by decide +kernel
theorem dX8_advance_8 : decode cX8_advance 8 = .ok (.getfield 25, 3) := by decide +kernel
theorem dX8_advance_11 : decode cX8_advance 11 = .ok (.aload_n 0, 1) := by decide +kernel
theorem dX8_advance_12 : decode cX8_advance 12 = .ok (.getfield 21, 3) := by decide +kernel
theorem dX8_advance_15 : decode cX8_advance 15 = .ok (.if_icmp .ge 62, 3) := by decide +kernel
theorem dX8_advance_18 : decode cX8_advance 18 = .ok (.aload_n 0, 1) := by decide +kernel
theorem dX8_advance_19 : decode cX8_advance 19 = .ok (.getfield 25, 3) := by decide +kernel
theorem dX8_advance_22 : decode cX8_advance 22 = .ok (.sipush 700, 3) := by decide +kernel
theorem dX8_advance_25 : decode cX8_advance 25 = .ok (.if_icmp .gt 52, 3) := by decide +kernel
theorem dX8_advance_28 : decode cX8_advance 28 = .ok (.aload_n 0, 1) := by decide +kernel
theorem dX8_advance_29 : decode cX8_advance 29 = .ok (.aload_n 0, 1) := by decide +kernel
theorem dX8_advance_30 : decode cX8_advance 30 = .ok (.getfield 9, 3) := by decide +kernel
theorem dX8_advance_33 : decode cX8_advance 33 = .ok (.aload_n 0, 1) := by decide +kernel
theorem dX8_advance_34 : decode cX8_advance 34 = .ok (.getfield 25, 3) := by decide +kernel
theorem dX8_advance_37 : decode cX8_advance 37 = .ok (.iaload, 1) := by decide +kernel
theorem dX8_advance_38 : decode cX8_advance 38 = .ok (.putfield 28, 3) := by decide +kernel
theorem dX8_advance_41 : decode cX8_advance 41 = .ok (.aload_n 0, 1) := by decide +kernel
theorem dX8_advance_42 : decode cX8_advance 42 = .ok (.aload_n 0, 1) := by decide +kernel
theorem dX8_advance_43 : decode cX8_advance 43 = .ok (.getfield 15, 3) := by decide +kernel
theorem dX8_advance_46 : decode cX8_advance 46 = .ok (.aload_n 0, 1) := by decide +kernel
theorem dX8_advance_47 : decode cX8_advance 47 = .ok (.getfield 25, 3) := by decide +kernel
theorem dX8_advance_50 : decode cX8_advance 50 = .ok (.iaload, 1) := by decide +kernel
theorem dX8_advance_51 : decode cX8_advance 51 = .ok (.putfield 31, 3) := by decide +kernel
theorem dX8_advance_54 : decode cX8_advance 54 = .ok (.aload_n 0, 1) := by decide +kernel
theorem dX8_advance_55 : decode cX8_advance 55 = .ok (.aload_n 0, 1) := by decide +kernel
theorem dX8_advance_56 : decode cX8_advance 56 = .ok (.getfield 18, 3) := by decide +kernel
theorem dX8_advance_59 : decode cX8_advance 59 = .ok (.aload_n 0, 1) := by decide +kernel
theorem dX8_advance_60 : decode cX8_advance 60 = .ok (.getfield 25, 3) := by decide +kernel
theorem dX8_advance_63 : decode cX8_advance 63 = .ok (.iaload, 1) := by decide +kernel
theorem dX8_advance_64 : decode cX8_advance 64 = .ok (.putfield 34, 3) := by decide +kernel
theorem dX8_advance_67 : decode cX8_advance 67 = .ok (.aload_n 0, 1) := by decide +kernel
theorem dX8_advance_68 : decode cX8_advance 68 = .ok (.dup, 1) := by decide +kernel
theorem dX8_advance_69 : decode cX8_advance 69 = .ok (.getfield 25, 3) := by decide +kernel
theorem dX8_advance_72 : decode cX8_advance 72 = .ok (.iconst 1, 1) := by decide +kernel
theorem dX8_advance_73 : decode cX8_advance 73 = .ok (.iadd, 1) := by decide +kernel
theorem dX8_advance_74 : decode cX8_advance 74 = .ok (.putfield 25, 3) := by decide +kernel
theorem dX8_advance_77 : decode cX8_advance 77 = .ok (.return_, 1) := by decide +kernel
theorem wf_X8_25 : Cond.fieldLink RX8 25 "TermShelf$Tokens" "next" "I" ∈ xT := xin 234 (by decide +kernel) rfl
theorem wf_X8_28 : Cond.fieldLink RX8 28 "TermShelf$Tokens" "kind" "I" ∈ xT := xin 235 (by decide +kernel) rfl
theorem wf_X8_31 : Cond.fieldLink RX8 31 "TermShelf$Tokens" "start" "I" ∈ xT := xin 237 (by decide +kernel) rfl
theorem wf_X8_34 : Cond.fieldLink RX8 34 "TermShelf$Tokens" "value" "I" ∈ xT := xin 239 (by decide +kernel) rfl
section XN_X8_advance
variable {p : Program} {l : Launch} {e : Env} {R : Room} {s : State} {m : MethodId} {args : Array Value} {below : List Frame} {meth : Method} {c : Code} {H H0 : Heap} {locs : List Loc} {cells slots : Nat} {Q : State → Prop} {cc : ByteArray} {nL pc : Nat} {rt : Option FieldType} {ls : Array Slot} {rest : List Value} {D : xD} {ty : xTy} {h : xH}
theorem gf_X8_25 {a : Nat} (C0 : xC D RX8 cc nL rt p s m args meth c) (hR : xRep D ty h H) (ht : ty a = some (0, 8)) (hdg : decode cc pc = .ok (.getfield 25, 3)) (kk : W p l e R s m args below meth c H locs cells slots Q (F0 m (pc + 3) ls (.int (xI h a 4) :: rest))) : W p l e R s m args below meth c H locs cells slots Q (F0 m pc ls (.ref a :: rest)) := x_get C0 hR (ci := 8) (k := 4) (N := 8) (T := TX8) rfl iX8 (by decide) rfl wf_X8_25 rfl ht hdg kk
theorem pf_X8_25 {a : Nat} {v : Int32} (C0 : xC D RX8 cc nL rt p s m args meth c) (hR : xRep D ty h H) (hS : xS ty H0 H locs) (ht : ty a = some (0, 8)) (hdg : decode cc pc = .ok (.putfield 25, 3)) (kk : ∀ (H1 : Heap) (locs1 : List Loc), xRep D ty (xsI h a 4 v) H1 → xS ty H0 H1 locs1 → W p l e R s m args below meth c H1 locs1 cells slots Q (F0 m (pc + 3) ls rest)) : W p l e R s m args below meth c H locs cells slots Q (F0 m pc ls (.int v :: .ref a :: rest)) := x_puti C0 hR hS (ci := 8) (k := 4) (N := 8) (T := TX8) rfl iX8 tyX8_ok nmX8 (by decide) rfl rfl wf_X8_25 (Or.inl rfl) rfl rfl ht hdg kk
theorem pf_X8_28 {a : Nat} {v : Int32} (C0 : xC D RX8 cc nL rt p s m args meth c) (hR : xRep D ty h H) (hS : xS ty H0 H locs) (ht : ty a = some (0, 8)) (hdg : decode cc pc = .ok (.putfield 28, 3)) (kk : ∀ (H1 : Heap) (locs1 : List Loc), xRep D ty (xsI h a 5 v) H1 → xS ty H0 H1 locs1 → W p l e R s m args below meth c H1 locs1 cells slots Q (F0 m (pc + 3) ls rest)) : W p l e R s m args below meth c H locs cells slots Q (F0 m pc ls (.int v :: .ref a :: rest)) := x_puti C0 hR hS (ci := 8) (k := 5) (N := 8) (T := TX8) rfl iX8 tyX8_ok nmX8 (by decide) rfl rfl wf_X8_28 (Or.inl rfl) rfl rfl ht hdg kk
theorem pf_X8_31 {a : Nat} {v : Int32} (C0 : xC D RX8 cc nL rt p s m args meth c) (hR : xRep D ty h H) (hS : xS ty H0 H locs) (ht : ty a = some (0, 8)) (hdg : decode cc pc = .ok (.putfield 31, 3)) (kk : ∀ (H1 : Heap) (locs1 : List Loc), xRep D ty (xsI h a 6 v) H1 → xS ty H0 H1 locs1 → W p l e R s m args below meth c H1 locs1 cells slots Q (F0 m (pc + 3) ls rest)) : W p l e R s m args below meth c H locs cells slots Q (F0 m pc ls (.int v :: .ref a :: rest)) := x_puti C0 hR hS (ci := 8) (k := 6) (N := 8) (T := TX8) rfl iX8 tyX8_ok nmX8 (by decide) rfl rfl wf_X8_31 (Or.inl rfl) rfl rfl ht hdg kk
theorem pf_X8_34 {a : Nat} {v : Int32} (C0 : xC D RX8 cc nL rt p s m args meth c) (hR : xRep D ty h H) (hS : xS ty H0 H locs) (ht : ty a = some (0, 8)) (hdg : decode cc pc = .ok (.putfield 34, 3)) (kk : ∀ (H1 : Heap) (locs1 : List Loc), xRep D ty (xsI h a 7 v) H1 → xS ty H0 H1 locs1 → W p l e R s m args below meth c H1 locs1 cells slots Q (F0 m (pc + 3) ls rest)) : W p l e R s m args below meth c H locs cells slots Q (F0 m pc ls (.int v :: .ref a :: rest)) := x_puti C0 hR hS (ci := 8) (k := 7) (N := 8) (T := TX8) rfl iX8 tyX8_ok nmX8 (by decide) rfl rfl wf_X8_34 (Or.inl rfl) rfl rfl ht hdg kk
end XN_X8_advance
set_option maxHeartbeats 4000000 in
set_option maxRecDepth 100000 in
theorem jc_X8_advance {l : Launch} {D : xD} {ty : xTy} {h : xH} {v0 : Nat} {h9 : xH} (t_v0 : ty v0 = some (0, 8)) (hF : jf_X8_advance ty h v0 = some h9) : Met l yX8_advance (xws yX8_advance cX8_advance 1 none) jr_X8_advance (xPc D ty h [.ref v0]) (xQ D ty none h9) 0 0 (xdom ty) := by
  refine x_met (by decide) ?_
  intro p e s m below meth c C0 hR
  generalize hargs : ([.ref v0] : List Value).toArray = args at C0 ⊢
  have hx := C0.1
  have hb := C0.2.1
  have hown := C0.2.2.2.2.2.1
  have hts := C0.2.2.2.2.2.2.1
  have hS : xS ty s.heap s.heap [] := xS.rf
  have hl := lv_entry ([.ref v0]) (n := 1) (Nat.le_of_ble_eq_true rfl)
  rw [← hargs, lg_entry_eq]
  rw [hargs]
  generalize (lg_sl ([.ref v0]) ++ List.replicate (1 - (lg_sl ([.ref v0])).length) Slot.unset).toArray = ls at hl ⊢
  have hl : lv_has ls 1 [(0, .ref v0)] := hl
  unfold jf_X8_advance at hF
  refine lv_aload_n hx hb dX8_advance_0 rfl (lv_at hl 0 rfl) ?_
  refine gf_X8_25 C0 hR t_v0 dX8_advance_1 ?_
  refine lv_if_lt (tgt := 77) hx hb dX8_advance_4 (by decide) (fun c1 => ?_) (fun c1 => ?_)
  · have hF := xif hF c1
    cases hF
    exact x_vret C0 hR hS dX8_advance_77
  · have hF := xel hF c1
    refine lv_aload_n hx hb dX8_advance_7 rfl (lv_at hl 0 rfl) ?_
    refine gf_X8_25 C0 hR t_v0 dX8_advance_8 ?_
    refine lv_aload_n hx hb dX8_advance_11 rfl (lv_at hl 0 rfl) ?_
    refine gf_X8_21 C0 hR t_v0 dX8_advance_12 ?_
    refine lv_icmp_ge (tgt := 77) hx hb dX8_advance_15 (by decide) (fun c2 => ?_) (fun c2 => ?_)
    · have hF := xif hF c2
      cases hF
      exact x_vret C0 hR hS dX8_advance_77
    · have hF := xel hF c2
      refine lv_aload_n hx hb dX8_advance_18 rfl (lv_at hl 0 rfl) ?_
      refine gf_X8_25 C0 hR t_v0 dX8_advance_19 ?_
      refine lv_sipush (v := 700) hx hb dX8_advance_22 (by decide) ?_
      refine lv_icmp_gt (tgt := 77) hx hb dX8_advance_25 (by decide) (fun c3 => ?_) (fun c3 => ?_)
      · have hF := xif hF c3
        cases hF
        exact x_vret C0 hR hS dX8_advance_77
      · have hF := xel hF c3
        refine lv_aload_n hx hb dX8_advance_28 rfl (lv_at hl 0 rfl) ?_
        refine lv_aload_n hx hb dX8_advance_29 rfl (lv_at hl 0 rfl) ?_
        obtain ⟨a4, e_a4, hF⟩ := xbd hF
        refine gf_X8_9 C0 hR t_v0 e_a4 dX8_advance_30 ?_
        refine lv_aload_n hx hb dX8_advance_33 rfl (lv_at hl 0 rfl) ?_
        refine gf_X8_25 C0 hR t_v0 dX8_advance_34 ?_
        obtain ⟨a5, e_a5, hF⟩ := xbd hF
        refine x_iald C0 hR e_a5 dX8_advance_37 ?_
        obtain ⟨h6, e_h6, hF⟩ := xbd hF
        refine pf_X8_28 C0 hR hS t_v0 dX8_advance_38 (fun H locs hR hS => ?_)
        rw [Option.some.inj e_h6] at hR
        refine lv_aload_n hx hb dX8_advance_41 rfl (lv_at hl 0 rfl) ?_
        refine lv_aload_n hx hb dX8_advance_42 rfl (lv_at hl 0 rfl) ?_
        obtain ⟨a7, e_a7, hF⟩ := xbd hF
        refine gf_X8_15 C0 hR t_v0 e_a7 dX8_advance_43 ?_
        refine lv_aload_n hx hb dX8_advance_46 rfl (lv_at hl 0 rfl) ?_
        refine gf_X8_25 C0 hR t_v0 dX8_advance_47 ?_
        obtain ⟨a8, e_a8, hF⟩ := xbd hF
        refine x_iald C0 hR e_a8 dX8_advance_50 ?_
        obtain ⟨h9, e_h9, hF⟩ := xbd hF
        refine pf_X8_31 C0 hR hS t_v0 dX8_advance_51 (fun H locs hR hS => ?_)
        rw [Option.some.inj e_h9] at hR
        refine lv_aload_n hx hb dX8_advance_54 rfl (lv_at hl 0 rfl) ?_
        refine lv_aload_n hx hb dX8_advance_55 rfl (lv_at hl 0 rfl) ?_
        obtain ⟨a10, e_a10, hF⟩ := xbd hF
        refine gf_X8_18 C0 hR t_v0 e_a10 dX8_advance_56 ?_
        refine lv_aload_n hx hb dX8_advance_59 rfl (lv_at hl 0 rfl) ?_
        refine gf_X8_25 C0 hR t_v0 dX8_advance_60 ?_
        obtain ⟨a11, e_a11, hF⟩ := xbd hF
        refine x_iald C0 hR e_a11 dX8_advance_63 ?_
        obtain ⟨h12, e_h12, hF⟩ := xbd hF
        refine pf_X8_34 C0 hR hS t_v0 dX8_advance_64 (fun H locs hR hS => ?_)
        rw [Option.some.inj e_h12] at hR
        refine lv_aload_n hx hb dX8_advance_67 rfl (lv_at hl 0 rfl) ?_
        refine lv_dup hx hb dX8_advance_68 rfl ?_
        refine gf_X8_25 C0 hR t_v0 dX8_advance_69 ?_
        refine lv_iconst (v := 1) hx hb dX8_advance_72 (by decide) ?_
        refine lv_iadd hx hb dX8_advance_73 ?_
        obtain ⟨h13, e_h13, hF⟩ := xbd hF
        refine pf_X8_25 C0 hR hS t_v0 dX8_advance_74 (fun H locs hR hS => ?_)
        rw [Option.some.inj e_h13] at hR
        cases hF
        exact x_vret C0 hR hS dX8_advance_77
theorem xm_X8_advance : xMw yX8_advance cX8_advance 1 none 0 := ⟨xin 568 (by decide +kernel) rfl, xin 118 (by decide +kernel) rfl, by decide +kernel⟩
theorem xi_X8_advance : Cond.instanceMethod yX8_advance ∈ xT := xin 566 (by decide +kernel) rfl
theorem xe_X8_advance : Cond.selects yX8_advance.cls yX8_advance yX8_advance ∈ xT := xin 567 (by decide +kernel) rfl
theorem dX8_startOn_0 : decode cX8_startOn 0 = .ok (.aload_n 0, 1) := by decide +kernel
theorem dX8_startOn_1 : decode cX8_startOn 1 = .ok (.iconst 0, 1) := by decide +kernel
theorem dX8_startOn_2 : decode cX8_startOn 2 = .ok (.putfield 21, 3) := by decide +kernel
theorem dX8_startOn_5 : decode cX8_startOn 5 = .ok (.iload_n 2, 1) := by decide +kernel
theorem dX8_startOn_6 : decode cX8_startOn 6 = .ok (.aload_n 1, 1) := by decide +kernel
theorem dX8_startOn_7 : decode cX8_startOn 7 = .ok (.arraylength, 1) := by decide +kernel
theorem dX8_startOn_8 : decode cX8_startOn 8 = .ok (.sipush 700, 3) := by decide +kernel
theorem dX8_startOn_11 : decode cX8_startOn 11 = .ok (.invokestatic 37, 3) := by decide +kernel
theorem dX8_startOn_14 : decode cX8_startOn 14 = .ok (.invokestatic 37, 3) := by decide +kernel
theorem dX8_startOn_17 : decode cX8_startOn 17 = .ok (.istore_n 3, 1) := by decide +kernel
theorem dX8_startOn_18 : decode cX8_startOn 18 = .ok (.iconst 0, 1) := by decide +kernel
theorem dX8_startOn_19 : decode cX8_startOn 19 = .ok (.istore 4, 2) := by decide +kernel
theorem dX8_startOn_21 : decode cX8_startOn 21 = .ok (.iconst 0, 1) := by decide +kernel
theorem dX8_startOn_22 : decode cX8_startOn 22 = .ok (.istore 5, 2) := by decide +kernel
theorem dX8_startOn_24 : decode cX8_startOn 24 = .ok (.iload 5, 2) := by decide +kernel
theorem dX8_startOn_26 : decode cX8_startOn 26 = .ok (.iload_n 3, 1) := by decide +kernel
theorem dX8_startOn_27 : decode cX8_startOn 27 = .ok (.if_icmp .ge 26, 3) := by decide +kernel
theorem dX8_startOn_30 : decode cX8_startOn 30 = .ok (.iload 5, 2) := by decide +kernel
theorem dX8_startOn_32 : decode cX8_startOn 32 = .ok (.iload 4, 2) := by decide +kernel
theorem dX8_startOn_34 : decode cX8_startOn 34 = .ok (.if_icmp .lt 13, 3) := by decide +kernel
theorem dX8_startOn_37 : decode cX8_startOn 37 = .ok (.aload_n 0, 1) := by decide +kernel
theorem dX8_startOn_38 : decode cX8_startOn 38 = .ok (.aload_n 1, 1) := by decide +kernel
theorem dX8_startOn_39 : decode cX8_startOn 39 = .ok (.iload 5, 2) := by decide +kernel
theorem dX8_startOn_41 : decode cX8_startOn 41 = .ok (.iload_n 3, 1) := by decide +kernel
theorem dX8_startOn_42 : decode cX8_startOn 42 = .ok (.invokevirtual 43, 3) := by decide +kernel
theorem dX8_startOn_45 : decode cX8_startOn 45 = .ok (.istore 4, 2) := by decide +kernel
theorem dX8_startOn_47 : decode cX8_startOn 47 = .ok (.iinc 5 1, 3) := by decide +kernel
theorem dX8_startOn_50 : decode cX8_startOn 50 = .ok (.goto (-26), 3) := by decide +kernel
theorem dX8_startOn_53 : decode cX8_startOn 53 = .ok (.aload_n 0, 1) := by decide +kernel
theorem dX8_startOn_54 : decode cX8_startOn 54 = .ok (.iconst 0, 1) := by decide +kernel
theorem dX8_startOn_55 : decode cX8_startOn 55 = .ok (.iload_n 3, 1) := by decide +kernel
theorem dX8_startOn_56 : decode cX8_startOn 56 = .ok (.iconst 0, 1) := by decide +kernel
theorem dX8_startOn_57 : decode cX8_startOn 57 = .ok (.invokevirtual 47, 3) := by decide +kernel
theorem dX8_startOn_60 : decode cX8_startOn 60 = .ok (.aload_n 0, 1) := by decide +kernel
theorem dX8_startOn_61 : decode cX8_startOn 61 = .ok (.iconst 0, 1) := by decide +kernel
theorem dX8_startOn_62 : decode cX8_startOn 62 = .ok (.putfield 25, 3) := by decide +kernel
theorem dX8_startOn_65 : decode cX8_startOn 65 = .ok (.aload_n 0, 1) := by decide +kernel
theorem dX8_startOn_66 : decode cX8_startOn 66 = .ok (.invokevirtual 51, 3) := by decide +kernel
theorem dX8_startOn_69 : decode cX8_startOn 69 = .ok (.return_, 1) := by decide +kernel
theorem wl_X8_43 : Cond.methodLink RX8 43 yX8_takeToken ∈ xT := xin 534 (by decide +kernel) rfl
theorem wl_X8_51 : Cond.methodLink RX8 51 yX8_advance ∈ xT := xin 565 (by decide +kernel) rfl
section XN_X8_startOn
variable {p : Program} {l : Launch} {e : Env} {R : Room} {s : State} {m : MethodId} {args : Array Value} {below : List Frame} {meth : Method} {c : Code} {H H0 : Heap} {locs : List Loc} {cells slots : Nat} {Q : State → Prop} {cc : ByteArray} {nL pc : Nat} {rt : Option FieldType} {ls : Array Slot} {rest : List Value} {D : xD} {ty : xTy} {h : xH}
theorem cl_X8_43 {v0 : Nat} {v1 : Nat} {v2 : Int32} {v3 : Int32} {r : Int32} {h9 : xH} (C0 : xC D RX8 cc nL rt p s m args meth c) (hR : xRep D ty h H) (hS : xS ty H0 H locs) (hF : jf_X8_takeToken ty h v0 v1 v2 v3 = some (r, h9)) (t_v0 : ty v0 = some (0, 8)) (hrm : jr_X8_takeToken.frames + 1 ≤ R.frames ∧ 8 + (5 + 11) + jr_X8_takeToken.locals ≤ R.locals) (hsz : ls.size = nL) (hW : (rest.map fun v => v.category).sum ≤ 8) (hf : cells ≤ R.cells ∧ slots ≤ R.slots) (hdg : decode cc pc = .ok (.invokevirtual 43, 3)) (kk : ∀ (H1 : Heap) (locs1 : List Loc), xRep D ty h9 H1 → xS ty H0 H1 locs1 → W p l e R s m args below meth c H1 locs1 cells slots Q (F0 m (pc + 3) ls (.int r :: rest))) : W p l e R s m args below meth c H locs cells slots Q (F0 m pc ls (.int v3 :: .int v2 :: .ref v1 :: .ref v0 :: rest)) := x_callV C0 (jc_X8_takeToken t_v0 hF) xm_X8_takeToken xi_X8_takeToken xe_X8_takeToken wl_X8_43 ⟨rfl, rfl, hrm⟩ (ci := 8) rfl t_v0 hR hS (As := [.ref v1, .int v2, .int v3]) rfl hsz rfl hW hdg hf kk
theorem cl_X8_51 {v0 : Nat} {h9 : xH} (C0 : xC D RX8 cc nL rt p s m args meth c) (hR : xRep D ty h H) (hS : xS ty H0 H locs) (hF : jf_X8_advance ty h v0 = some h9) (t_v0 : ty v0 = some (0, 8)) (hrm : jr_X8_advance.frames + 1 ≤ R.frames ∧ 8 + (1 + 11) + jr_X8_advance.locals ≤ R.locals) (hsz : ls.size = nL) (hW : (rest.map fun v => v.category).sum ≤ 8) (hf : cells ≤ R.cells ∧ slots ≤ R.slots) (hdg : decode cc pc = .ok (.invokevirtual 51, 3)) (kk : ∀ (H1 : Heap) (locs1 : List Loc), xRep D ty h9 H1 → xS ty H0 H1 locs1 → W p l e R s m args below meth c H1 locs1 cells slots Q (F0 m (pc + 3) ls rest)) : W p l e R s m args below meth c H locs cells slots Q (F0 m pc ls (.ref v0 :: rest)) := x_callV C0 (jc_X8_advance t_v0 hF) xm_X8_advance xi_X8_advance xe_X8_advance wl_X8_51 ⟨rfl, rfl, hrm⟩ (ci := 8) rfl t_v0 hR hS (As := []) rfl hsz rfl hW hdg hf kk
end XN_X8_startOn
set_option maxHeartbeats 4000000 in
set_option maxRecDepth 100000 in
theorem jw_X8_startOn_24 {p : Program} {l : Launch} {e : Env} {s : State} {m : MethodId} {args : Array Value} {below : List Frame} {meth : Method} {c : Code} {D : xD} {ty : xTy} (C0 : xC D RX8 cX8_startOn 6 none p s m args meth c) {h9 : xH} : ∀ n : Nat, ∀ (v0 : Nat) (v1 : Nat) (v3 : Int32) (v4 : Int32) (v5 : Int32) (h : xH), ty v0 = some (0, 8) → jf_X8_startOn_24 ty n v0 v1 v3 v4 v5 h = some h9 → ∀ (H : Heap) (locs : List Loc), xRep D ty h H → xS ty s.heap H locs → ∀ ls : Array Slot, lv_has ls 6 [(0, .ref v0), (1, .ref v1), (3, .int v3), (4, .int v4), (5, .int v5)] → W p l e jr_X8_startOn s m args below meth c H locs 0 0 (MQ below (xQ D ty none h9) args s 0 0 (xdom ty)) (F0 m 24 ls []) := by
  have hx := C0.1
  have hb := C0.2.1
  have hown := C0.2.2.2.2.2.1
  have hts := C0.2.2.2.2.2.2.1
  intro n
  induction n with
  | zero =>
    intro v0 v1 v3 v4 v5 h t_v0 hF H locs hR hS ls hl
    cases hF
  | succ n ih =>
    intro v0 v1 v3 v4 v5 h t_v0 hF H locs hR hS ls hl
    rw [jf_X8_startOn_24_s] at hF
    refine lv_iload hx hb dX8_startOn_24 (lv_at hl 4 rfl) ?_
    refine lv_iload_n hx hb dX8_startOn_26 rfl (lv_at hl 2 rfl) ?_
    refine lv_icmp_ge (tgt := 53) hx hb dX8_startOn_27 (by decide) (fun c1 => ?_) (fun c1 => ?_)
    · have hF := xif hF c1
      refine lv_aload_n hx hb dX8_startOn_53 rfl (lv_at hl 0 rfl) ?_
      refine lv_iconst (v := 0) hx hb dX8_startOn_54 (by decide) ?_
      refine lv_iload_n hx hb dX8_startOn_55 rfl (lv_at hl 2 rfl) ?_
      refine lv_iconst (v := 0) hx hb dX8_startOn_56 (by decide) ?_
      obtain ⟨h2, e_h2, hF⟩ := xbd hF
      refine cl_X8_47 C0 hR hS e_h2 t_v0 ⟨(Nat.le_of_ble_eq_true rfl), (Nat.le_of_ble_eq_true rfl)⟩ hl.1 (Nat.le_of_ble_eq_true rfl) ⟨(Nat.le_of_ble_eq_true rfl), (Nat.le_of_ble_eq_true rfl)⟩ dX8_startOn_57 (fun H locs hR hS => ?_)
      refine lv_aload_n hx hb dX8_startOn_60 rfl (lv_at hl 0 rfl) ?_
      refine lv_iconst (v := 0) hx hb dX8_startOn_61 (by decide) ?_
      obtain ⟨h3, e_h3, hF⟩ := xbd hF
      refine pf_X8_25 C0 hR hS t_v0 dX8_startOn_62 (fun H locs hR hS => ?_)
      rw [Option.some.inj e_h3] at hR
      refine lv_aload_n hx hb dX8_startOn_65 rfl (lv_at hl 0 rfl) ?_
      obtain ⟨h4, e_h4, hF⟩ := xbd hF
      refine cl_X8_51 C0 hR hS e_h4 t_v0 ⟨(Nat.le_of_ble_eq_true rfl), (Nat.le_of_ble_eq_true rfl)⟩ hl.1 (Nat.le_of_ble_eq_true rfl) ⟨(Nat.le_of_ble_eq_true rfl), (Nat.le_of_ble_eq_true rfl)⟩ dX8_startOn_66 (fun H locs hR hS => ?_)
      cases hF
      exact x_vret C0 hR hS dX8_startOn_69
    · have hF := xel hF c1
      refine lv_iload hx hb dX8_startOn_30 (lv_at hl 4 rfl) ?_
      refine lv_iload hx hb dX8_startOn_32 (lv_at hl 3 rfl) ?_
      refine lv_icmp_lt (tgt := 47) hx hb dX8_startOn_34 (by decide) (fun c5 => ?_) (fun c5 => ?_)
      · have hF := xif hF c5
        refine lv_iinc (v := v5 + 1) (lv' := [(5, .int (v5 + 1)), (0, .ref v0), (1, .ref v1), (3, .int v3), (4, .int v4)]) hx hb dX8_startOn_47 hl (k := 4) rfl rfl (by decide) rfl (fun ls hl => ?_)
        refine lv_goto (tgt := 24) hx hb dX8_startOn_50 (by decide) ?_
        exact ih _ _ _ _ _ _ t_v0 hF _ _ hR hS _ (lv_sub hl [1, 2, 3, 4, 0] rfl)
      · have hF := xel hF c5
        refine lv_aload_n hx hb dX8_startOn_37 rfl (lv_at hl 0 rfl) ?_
        refine lv_aload_n hx hb dX8_startOn_38 rfl (lv_at hl 1 rfl) ?_
        refine lv_iload hx hb dX8_startOn_39 (lv_at hl 4 rfl) ?_
        refine lv_iload_n hx hb dX8_startOn_41 rfl (lv_at hl 2 rfl) ?_
        obtain ⟨a7, h6, e_h6, hF⟩ := xbd2 hF
        refine cl_X8_43 C0 hR hS e_h6 t_v0 ⟨(Nat.le_of_ble_eq_true rfl), (Nat.le_of_ble_eq_true rfl)⟩ hl.1 (Nat.le_of_ble_eq_true rfl) ⟨(Nat.le_of_ble_eq_true rfl), (Nat.le_of_ble_eq_true rfl)⟩ dX8_startOn_42 (fun H locs hR hS => ?_)
        refine lv_istore (lv' := [(4, .int a7), (0, .ref v0), (1, .ref v1), (3, .int v3), (5, .int v5)]) hx hb dX8_startOn_45 hl (by decide) rfl (fun ls hl => ?_)
        refine lv_iinc (v := v5 + 1) (lv' := [(5, .int (v5 + 1)), (4, .int a7), (0, .ref v0), (1, .ref v1), (3, .int v3)]) hx hb dX8_startOn_47 hl (k := 4) rfl rfl (by decide) rfl (fun ls hl => ?_)
        refine lv_goto (tgt := 24) hx hb dX8_startOn_50 (by decide) ?_
        exact ih _ _ _ _ _ _ t_v0 hF _ _ hR hS _ (lv_sub hl [2, 3, 4, 1, 0] rfl)
set_option maxHeartbeats 4000000 in
set_option maxRecDepth 100000 in
theorem jc_X8_startOn {l : Launch} {D : xD} {ty : xTy} {h : xH} {v0 : Nat} {v1 : Nat} {v2 : Int32} {h9 : xH} (t_v0 : ty v0 = some (0, 8)) (hF : jf_X8_startOn ty h v0 v1 v2 = some h9) : Met l yX8_startOn (xws yX8_startOn cX8_startOn 6 none) jr_X8_startOn (xPc D ty h [.ref v0, .ref v1, .int v2]) (xQ D ty none h9) 0 0 (xdom ty) := by
  refine x_met (by decide) ?_
  intro p e s m below meth c C0 hR
  generalize hargs : ([.ref v0, .ref v1, .int v2] : List Value).toArray = args at C0 ⊢
  have hx := C0.1
  have hb := C0.2.1
  have hown := C0.2.2.2.2.2.1
  have hts := C0.2.2.2.2.2.2.1
  have hS : xS ty s.heap s.heap [] := xS.rf
  have hl := lv_entry ([.ref v0, .ref v1, .int v2]) (n := 6) (Nat.le_of_ble_eq_true rfl)
  rw [← hargs, lg_entry_eq]
  rw [hargs]
  generalize (lg_sl ([.ref v0, .ref v1, .int v2]) ++ List.replicate (6 - (lg_sl ([.ref v0, .ref v1, .int v2])).length) Slot.unset).toArray = ls at hl ⊢
  have hl : lv_has ls 6 [(0, .ref v0), (1, .ref v1), (2, .int v2)] := hl
  unfold jf_X8_startOn at hF
  refine lv_aload_n hx hb dX8_startOn_0 rfl (lv_at hl 0 rfl) ?_
  refine lv_iconst (v := 0) hx hb dX8_startOn_1 (by decide) ?_
  obtain ⟨h8, e_h8, hF⟩ := xbd hF
  refine pf_X8_21 C0 hR hS t_v0 dX8_startOn_2 (fun H locs hR hS => ?_)
  rw [Option.some.inj e_h8] at hR
  refine lv_iload_n hx hb dX8_startOn_5 rfl (lv_at hl 2 rfl) ?_
  refine lv_aload_n hx hb dX8_startOn_6 rfl (lv_at hl 1 rfl) ?_
  obtain ⟨a9, e_a9, hF⟩ := xbd hF
  refine x_len C0 hR e_a9 dX8_startOn_7 ?_
  refine lv_sipush (v := 700) hx hb dX8_startOn_8 (by decide) ?_
  refine mm_X8_37 C0 hl.1 (Nat.le_of_ble_eq_true rfl) (Nat.le_of_ble_eq_true rfl) ⟨Nat.le_of_ble_eq_true rfl, Nat.le_of_ble_eq_true rfl⟩ dX8_startOn_11 ?_
  refine mm_X8_37 C0 hl.1 (Nat.le_of_ble_eq_true rfl) (Nat.le_of_ble_eq_true rfl) ⟨Nat.le_of_ble_eq_true rfl, Nat.le_of_ble_eq_true rfl⟩ dX8_startOn_14 ?_
  refine lv_istore_n (lv' := [(3, .int (xmin v2 (xmin a9 700))), (0, .ref v0), (1, .ref v1), (2, .int v2)]) hx hb dX8_startOn_17 rfl hl (by decide) rfl (fun ls hl => ?_)
  refine lv_iconst (v := 0) hx hb dX8_startOn_18 (by decide) ?_
  refine lv_istore (lv' := [(4, .int 0), (3, .int (xmin v2 (xmin a9 700))), (0, .ref v0), (1, .ref v1), (2, .int v2)]) hx hb dX8_startOn_19 hl (by decide) rfl (fun ls hl => ?_)
  refine lv_iconst (v := 0) hx hb dX8_startOn_21 (by decide) ?_
  refine lv_istore (lv' := [(5, .int 0), (4, .int 0), (3, .int (xmin v2 (xmin a9 700))), (0, .ref v0), (1, .ref v1), (2, .int v2)]) hx hb dX8_startOn_22 hl (by decide) rfl (fun ls hl => ?_)
  obtain ⟨_, hF⟩ := xlim_sp hF
  exact jw_X8_startOn_24 C0 _ _ _ _ _ _ _ t_v0 hF _ _ hR hS _ (lv_sub hl [3, 4, 2, 1, 0] rfl)
theorem xm_X8_startOn : xMw yX8_startOn cX8_startOn 6 none 2 := ⟨xin 530 (by decide +kernel) rfl, xin 118 (by decide +kernel) rfl, by decide +kernel⟩
theorem xi_X8_startOn : Cond.instanceMethod yX8_startOn ∈ xT := xin 528 (by decide +kernel) rfl
theorem xe_X8_startOn : Cond.selects yX8_startOn.cls yX8_startOn yX8_startOn ∈ xT := xin 529 (by decide +kernel) rfl
theorem dX4_begin_0 : decode cX4_begin 0 = .ok (.aload_n 0, 1) := by decide +kernel
theorem dX4_begin_1 : decode cX4_begin 1 = .ok (.iconst 0, 1) := by decide +kernel
theorem dX4_begin_2 : decode cX4_begin 2 = .ok (.putfield 26, 3) := by decide +kernel
theorem dX4_begin_5 : decode cX4_begin 5 = .ok (.aload_n 0, 1) := by decide +kernel
theorem dX4_begin_6 : decode cX4_begin 6 = .ok (.iconst (-1), 1) := by decide +kernel
theorem dX4_begin_7 : decode cX4_begin 7 = .ok (.putfield 29, 3) := by decide +kernel
theorem dX4_begin_10 : decode cX4_begin 10 = .ok (.aload_n 0, 1) := by decide +kernel
theorem dX4_begin_11 : decode cX4_begin 11 = .ok (.getfield 12, 3) := by decide +kernel
theorem dX4_begin_14 : decode cX4_begin 14 = .ok (.aload_n 1, 1) := by decide +kernel
theorem dX4_begin_15 : decode cX4_begin 15 = .ok (.iload_n 2, 1) := by decide +kernel
theorem dX4_begin_16 : decode cX4_begin 16 = .ok (.invokevirtual 59, 3) := by decide +kernel
theorem dX4_begin_19 : decode cX4_begin 19 = .ok (.return_, 1) := by decide +kernel
theorem wl_X4_59 : Cond.methodLink RX4 59 yX8_startOn ∈ xT := xin 527 (by decide +kernel) rfl
theorem wf_X4_12 : Cond.fieldLink RX4 12 "TermShelf$Reader" "tokens" "LTermShelf$Tokens;" ∈ xT := xin 258 (by decide +kernel) rfl
theorem wf_X4_26 : Cond.fieldLink RX4 26 "TermShelf$Reader" "fault" "I" ∈ xT := xin 261 (by decide +kernel) rfl
theorem wf_X4_29 : Cond.fieldLink RX4 29 "TermShelf$Reader" "faultPlace" "I" ∈ xT := xin 263 (by decide +kernel) rfl
section XN_X4_begin
variable {p : Program} {l : Launch} {e : Env} {R : Room} {s : State} {m : MethodId} {args : Array Value} {below : List Frame} {meth : Method} {c : Code} {H H0 : Heap} {locs : List Loc} {cells slots : Nat} {Q : State → Prop} {cc : ByteArray} {nL pc : Nat} {rt : Option FieldType} {ls : Array Slot} {rest : List Value} {D : xD} {ty : xTy} {h : xH}
theorem cl_X4_59 {v0 : Nat} {v1 : Nat} {v2 : Int32} {h9 : xH} (C0 : xC D RX4 cc nL rt p s m args meth c) (hR : xRep D ty h H) (hS : xS ty H0 H locs) (hF : jf_X8_startOn ty h v0 v1 v2 = some h9) (t_v0 : ty v0 = some (0, 8)) (hrm : jr_X8_startOn.frames + 1 ≤ R.frames ∧ 8 + (6 + 11) + jr_X8_startOn.locals ≤ R.locals) (hsz : ls.size = nL) (hW : (rest.map fun v => v.category).sum ≤ 8) (hf : cells ≤ R.cells ∧ slots ≤ R.slots) (hdg : decode cc pc = .ok (.invokevirtual 59, 3)) (kk : ∀ (H1 : Heap) (locs1 : List Loc), xRep D ty h9 H1 → xS ty H0 H1 locs1 → W p l e R s m args below meth c H1 locs1 cells slots Q (F0 m (pc + 3) ls rest)) : W p l e R s m args below meth c H locs cells slots Q (F0 m pc ls (.int v2 :: .ref v1 :: .ref v0 :: rest)) := x_callV C0 (jc_X8_startOn t_v0 hF) xm_X8_startOn xi_X8_startOn xe_X8_startOn wl_X4_59 ⟨rfl, rfl, hrm⟩ (ci := 8) rfl t_v0 hR hS (As := [.ref v1, .int v2]) rfl hsz rfl hW hdg hf kk
theorem gf_X4_12 {a : Nat} (C0 : xC D RX4 cc nL rt p s m args meth c) (hR : xRep D ty h H) (ht : ty a = some (0, 4)) {v : Nat} (hv : xR h a 0 = some v) (hdg : decode cc pc = .ok (.getfield 12, 3)) (kk : W p l e R s m args below meth c H locs cells slots Q (F0 m (pc + 3) ls (.ref v :: rest))) : W p l e R s m args below meth c H locs cells slots Q (F0 m pc ls (.ref a :: rest)) := x_get C0 hR (ci := 4) (k := 0) (N := 5) (T := TX4) rfl iX4 (by decide) rfl wf_X4_12 (by show va_rf (xR h a 0) = _; rw [hv]; rfl) ht hdg kk
theorem pf_X4_26 {a : Nat} {v : Int32} (C0 : xC D RX4 cc nL rt p s m args meth c) (hR : xRep D ty h H) (hS : xS ty H0 H locs) (ht : ty a = some (0, 4)) (hdg : decode cc pc = .ok (.putfield 26, 3)) (kk : ∀ (H1 : Heap) (locs1 : List Loc), xRep D ty (xsI h a 3 v) H1 → xS ty H0 H1 locs1 → W p l e R s m args below meth c H1 locs1 cells slots Q (F0 m (pc + 3) ls rest)) : W p l e R s m args below meth c H locs cells slots Q (F0 m pc ls (.int v :: .ref a :: rest)) := x_puti C0 hR hS (ci := 4) (k := 3) (N := 5) (T := TX4) rfl iX4 tyX4_ok nmX4 (by decide) rfl rfl wf_X4_26 (Or.inl rfl) rfl rfl ht hdg kk
theorem pf_X4_29 {a : Nat} {v : Int32} (C0 : xC D RX4 cc nL rt p s m args meth c) (hR : xRep D ty h H) (hS : xS ty H0 H locs) (ht : ty a = some (0, 4)) (hdg : decode cc pc = .ok (.putfield 29, 3)) (kk : ∀ (H1 : Heap) (locs1 : List Loc), xRep D ty (xsI h a 4 v) H1 → xS ty H0 H1 locs1 → W p l e R s m args below meth c H1 locs1 cells slots Q (F0 m (pc + 3) ls rest)) : W p l e R s m args below meth c H locs cells slots Q (F0 m pc ls (.int v :: .ref a :: rest)) := x_puti C0 hR hS (ci := 4) (k := 4) (N := 5) (T := TX4) rfl iX4 tyX4_ok nmX4 (by decide) rfl rfl wf_X4_29 (Or.inl rfl) rfl rfl ht hdg kk
end XN_X4_begin
set_option maxHeartbeats 4000000 in
set_option maxRecDepth 100000 in
theorem jc_X4_begin {l : Launch} {D : xD} {ty : xTy} {h : xH} {v0 : Nat} {v1 : Nat} {v2 : Int32} {h9 : xH} (t_v0 : ty v0 = some (0, 4)) (hF : jf_X4_begin ty h v0 v1 v2 = some h9) : Met l yX4_begin (xws yX4_begin cX4_begin 3 none) jr_X4_begin (xPc D ty h [.ref v0, .ref v1, .int v2]) (xQ D ty none h9) 0 0 (xdom ty) := by
  refine x_met (by decide) ?_
  intro p e s m below meth c C0 hR
  generalize hargs : ([.ref v0, .ref v1, .int v2] : List Value).toArray = args at C0 ⊢
  have hx := C0.1
  have hb := C0.2.1
  have hown := C0.2.2.2.2.2.1
  have hts := C0.2.2.2.2.2.2.1
  have hS : xS ty s.heap s.heap [] := xS.rf
  have hl := lv_entry ([.ref v0, .ref v1, .int v2]) (n := 3) (Nat.le_of_ble_eq_true rfl)
  rw [← hargs, lg_entry_eq]
  rw [hargs]
  generalize (lg_sl ([.ref v0, .ref v1, .int v2]) ++ List.replicate (3 - (lg_sl ([.ref v0, .ref v1, .int v2])).length) Slot.unset).toArray = ls at hl ⊢
  have hl : lv_has ls 3 [(0, .ref v0), (1, .ref v1), (2, .int v2)] := hl
  unfold jf_X4_begin at hF
  refine lv_aload_n hx hb dX4_begin_0 rfl (lv_at hl 0 rfl) ?_
  refine lv_iconst (v := 0) hx hb dX4_begin_1 (by decide) ?_
  obtain ⟨h1, e_h1, hF⟩ := xbd hF
  refine pf_X4_26 C0 hR hS t_v0 dX4_begin_2 (fun H locs hR hS => ?_)
  rw [Option.some.inj e_h1] at hR
  refine lv_aload_n hx hb dX4_begin_5 rfl (lv_at hl 0 rfl) ?_
  refine lv_iconst (v := (-1)) hx hb dX4_begin_6 (by decide) ?_
  obtain ⟨h2, e_h2, hF⟩ := xbd hF
  refine pf_X4_29 C0 hR hS t_v0 dX4_begin_7 (fun H locs hR hS => ?_)
  rw [Option.some.inj e_h2] at hR
  refine lv_aload_n hx hb dX4_begin_10 rfl (lv_at hl 0 rfl) ?_
  obtain ⟨a3, e_a3, hF⟩ := xbd hF
  obtain ⟨e_a3, t_a3⟩ := xgo_sp e_a3
  refine gf_X4_12 C0 hR t_v0 e_a3 dX4_begin_11 ?_
  refine lv_aload_n hx hb dX4_begin_14 rfl (lv_at hl 1 rfl) ?_
  refine lv_iload_n hx hb dX4_begin_15 rfl (lv_at hl 2 rfl) ?_
  obtain ⟨h4, e_h4, hF⟩ := xbd hF
  refine cl_X4_59 C0 hR hS e_h4 t_a3 ⟨(Nat.le_of_ble_eq_true rfl), (Nat.le_of_ble_eq_true rfl)⟩ hl.1 (Nat.le_of_ble_eq_true rfl) ⟨(Nat.le_of_ble_eq_true rfl), (Nat.le_of_ble_eq_true rfl)⟩ dX4_begin_16 (fun H locs hR hS => ?_)
  cases hF
  exact x_vret C0 hR hS dX4_begin_19
theorem xm_X4_begin : xMw yX4_begin cX4_begin 3 none 2 := ⟨xin 526 (by decide +kernel) rfl, xin 117 (by decide +kernel) rfl, by decide +kernel⟩
theorem xi_X4_begin : Cond.instanceMethod yX4_begin ∈ xT := xin 525 (by decide +kernel) rfl
theorem xe_X4_begin : Cond.selects yX4_begin.cls yX4_begin yX4_begin ∈ xT := xin 1 (by decide +kernel) rfl
theorem dX4_fail_0 : decode cX4_fail 0 = .ok (.aload_n 0, 1) := by decide +kernel
theorem dX4_fail_1 : decode cX4_fail 1 = .ok (.iload_n 1, 1) := by decide +kernel
theorem dX4_fail_2 : decode cX4_fail 2 = .ok (.putfield 26, 3) := by decide +kernel
theorem dX4_fail_5 : decode cX4_fail 5 = .ok (.aload_n 0, 1) := by decide +kernel
theorem dX4_fail_6 : decode cX4_fail 6 = .ok (.aload_n 0, 1) := by decide +kernel
theorem dX4_fail_7 : decode cX4_fail 7 = .ok (.getfield 12, 3) := by decide +kernel
theorem dX4_fail_10 : decode cX4_fail 10 = .ok (.getfield 62, 3) := by decide +kernel
theorem dX4_fail_13 : decode cX4_fail 13 = .ok (.putfield 29, 3) := by decide +kernel
theorem dX4_fail_16 : decode cX4_fail 16 = .ok (.iconst 0, 1) := by decide +kernel
theorem dX4_fail_17 : decode cX4_fail 17 = .ok (.ireturn, 1) := by decide +kernel
theorem wf_X4_62 : Cond.fieldLink RX4 62 "TermShelf$Tokens" "start" "I" ∈ xT := xin 238 (by decide +kernel) rfl
section XN_X4_fail
variable {p : Program} {l : Launch} {e : Env} {R : Room} {s : State} {m : MethodId} {args : Array Value} {below : List Frame} {meth : Method} {c : Code} {H H0 : Heap} {locs : List Loc} {cells slots : Nat} {Q : State → Prop} {cc : ByteArray} {nL pc : Nat} {rt : Option FieldType} {ls : Array Slot} {rest : List Value} {D : xD} {ty : xTy} {h : xH}
theorem gf_X4_62 {a : Nat} (C0 : xC D RX4 cc nL rt p s m args meth c) (hR : xRep D ty h H) (ht : ty a = some (0, 8)) (hdg : decode cc pc = .ok (.getfield 62, 3)) (kk : W p l e R s m args below meth c H locs cells slots Q (F0 m (pc + 3) ls (.int (xI h a 6) :: rest))) : W p l e R s m args below meth c H locs cells slots Q (F0 m pc ls (.ref a :: rest)) := x_get C0 hR (ci := 8) (k := 6) (N := 8) (T := TX8) rfl iX8 (by decide) rfl wf_X4_62 rfl ht hdg kk
end XN_X4_fail
set_option maxHeartbeats 4000000 in
set_option maxRecDepth 100000 in
theorem jc_X4_fail {l : Launch} {D : xD} {ty : xTy} {h : xH} {v0 : Nat} {v1 : Int32} {r : Int32} {h9 : xH} (t_v0 : ty v0 = some (0, 4)) (hF : jf_X4_fail ty h v0 v1 = some (r, h9)) : Met l yX4_fail (xws yX4_fail cX4_fail 2 (some .boolean)) jr_X4_fail (xPc D ty h [.ref v0, .int v1]) (xQ D ty (some (.int r)) h9) 0 0 (xdom ty) := by
  refine x_met (by decide) ?_
  intro p e s m below meth c C0 hR
  generalize hargs : ([.ref v0, .int v1] : List Value).toArray = args at C0 ⊢
  have hx := C0.1
  have hb := C0.2.1
  have hown := C0.2.2.2.2.2.1
  have hts := C0.2.2.2.2.2.2.1
  have hS : xS ty s.heap s.heap [] := xS.rf
  have hl := lv_entry ([.ref v0, .int v1]) (n := 2) (Nat.le_of_ble_eq_true rfl)
  rw [← hargs, lg_entry_eq]
  rw [hargs]
  generalize (lg_sl ([.ref v0, .int v1]) ++ List.replicate (2 - (lg_sl ([.ref v0, .int v1])).length) Slot.unset).toArray = ls at hl ⊢
  have hl : lv_has ls 2 [(0, .ref v0), (1, .int v1)] := hl
  unfold jf_X4_fail at hF
  refine lv_aload_n hx hb dX4_fail_0 rfl (lv_at hl 0 rfl) ?_
  refine lv_iload_n hx hb dX4_fail_1 rfl (lv_at hl 1 rfl) ?_
  obtain ⟨h1, e_h1, hF⟩ := xbd hF
  refine pf_X4_26 C0 hR hS t_v0 dX4_fail_2 (fun H locs hR hS => ?_)
  rw [Option.some.inj e_h1] at hR
  refine lv_aload_n hx hb dX4_fail_5 rfl (lv_at hl 0 rfl) ?_
  refine lv_aload_n hx hb dX4_fail_6 rfl (lv_at hl 0 rfl) ?_
  obtain ⟨a2, e_a2, hF⟩ := xbd hF
  obtain ⟨e_a2, t_a2⟩ := xgo_sp e_a2
  refine gf_X4_12 C0 hR t_v0 e_a2 dX4_fail_7 ?_
  refine gf_X4_62 C0 hR t_a2 dX4_fail_10 ?_
  obtain ⟨h3, e_h3, hF⟩ := xbd hF
  refine pf_X4_29 C0 hR hS t_v0 dX4_fail_13 (fun H locs hR hS => ?_)
  rw [Option.some.inj e_h3] at hR
  refine lv_iconst (v := 0) hx hb dX4_fail_16 (by decide) ?_
  cases hF
  exact x_zret (w := 0) C0 hR hS (by decide) dX4_fail_17
theorem xm_X4_fail : xMw yX4_fail cX4_fail 2 (some .boolean) 1 := ⟨xin 584 (by decide +kernel) rfl, xin 117 (by decide +kernel) rfl, by decide +kernel⟩
theorem xi_X4_fail : Cond.instanceMethod yX4_fail ∈ xT := xin 583 (by decide +kernel) rfl
theorem xe_X4_fail : Cond.selects yX4_fail.cls yX4_fail yX4_fail ∈ xT := xin 8 (by decide +kernel) rfl
theorem dX4_pass_0 : decode cX4_pass 0 = .ok (.aload_n 0, 1) := by decide +kernel
theorem dX4_pass_1 : decode cX4_pass 1 = .ok (.getfield 12, 3) := by decide +kernel
theorem dX4_pass_4 : decode cX4_pass 4 = .ok (.getfield 41, 3) := by decide +kernel
theorem dX4_pass_7 : decode cX4_pass 7 = .ok (.iload_n 1, 1) := by decide +kernel
theorem dX4_pass_8 : decode cX4_pass 8 = .ok (.if_icmp .eq 9, 3) := by decide +kernel
theorem dX4_pass_11 : decode cX4_pass 11 = .ok (.aload_n 0, 1) := by decide +kernel
theorem dX4_pass_12 : decode cX4_pass 12 = .ok (.iconst 1, 1) := by decide +kernel
theorem dX4_pass_13 : decode cX4_pass 13 = .ok (.invokevirtual 56, 3) := by decide +kernel
theorem dX4_pass_16 : decode cX4_pass 16 = .ok (.ireturn, 1) := by decide +kernel
theorem dX4_pass_17 : decode cX4_pass 17 = .ok (.aload_n 0, 1) := by decide +kernel
theorem dX4_pass_18 : decode cX4_pass 18 = .ok (.getfield 12, 3) := by decide +kernel
theorem dX4_pass_21 : decode cX4_pass 21 = .ok (.invokevirtual 65, 3) := by decide +kernel
theorem dX4_pass_24 : decode cX4_pass 24 = .ok (.iconst 1, 1) := by decide +kernel
theorem dX4_pass_25 : decode cX4_pass 25 = .ok (.ireturn, 1) := by decide +kernel
theorem wl_X4_56 : Cond.methodLink RX4 56 yX4_fail ∈ xT := xin 581 (by decide +kernel) rfl
theorem wl_X4_65 : Cond.methodLink RX4 65 yX8_advance ∈ xT := xin 585 (by decide +kernel) rfl
theorem wf_X4_41 : Cond.fieldLink RX4 41 "TermShelf$Tokens" "kind" "I" ∈ xT := xin 236 (by decide +kernel) rfl
section XN_X4_pass
variable {p : Program} {l : Launch} {e : Env} {R : Room} {s : State} {m : MethodId} {args : Array Value} {below : List Frame} {meth : Method} {c : Code} {H H0 : Heap} {locs : List Loc} {cells slots : Nat} {Q : State → Prop} {cc : ByteArray} {nL pc : Nat} {rt : Option FieldType} {ls : Array Slot} {rest : List Value} {D : xD} {ty : xTy} {h : xH}
theorem cl_X4_56 {v0 : Nat} {v1 : Int32} {r : Int32} {h9 : xH} (C0 : xC D RX4 cc nL rt p s m args meth c) (hR : xRep D ty h H) (hS : xS ty H0 H locs) (hF : jf_X4_fail ty h v0 v1 = some (r, h9)) (t_v0 : ty v0 = some (0, 4)) (hrm : jr_X4_fail.frames + 1 ≤ R.frames ∧ 8 + (2 + 11) + jr_X4_fail.locals ≤ R.locals) (hsz : ls.size = nL) (hW : (rest.map fun v => v.category).sum ≤ 8) (hf : cells ≤ R.cells ∧ slots ≤ R.slots) (hdg : decode cc pc = .ok (.invokevirtual 56, 3)) (kk : ∀ (H1 : Heap) (locs1 : List Loc), xRep D ty h9 H1 → xS ty H0 H1 locs1 → W p l e R s m args below meth c H1 locs1 cells slots Q (F0 m (pc + 3) ls (.int r :: rest))) : W p l e R s m args below meth c H locs cells slots Q (F0 m pc ls (.int v1 :: .ref v0 :: rest)) := x_callV C0 (jc_X4_fail t_v0 hF) xm_X4_fail xi_X4_fail xe_X4_fail wl_X4_56 ⟨rfl, rfl, hrm⟩ (ci := 4) rfl t_v0 hR hS (As := [.int v1]) rfl hsz rfl hW hdg hf kk
theorem cl_X4_65 {v0 : Nat} {h9 : xH} (C0 : xC D RX4 cc nL rt p s m args meth c) (hR : xRep D ty h H) (hS : xS ty H0 H locs) (hF : jf_X8_advance ty h v0 = some h9) (t_v0 : ty v0 = some (0, 8)) (hrm : jr_X8_advance.frames + 1 ≤ R.frames ∧ 8 + (1 + 11) + jr_X8_advance.locals ≤ R.locals) (hsz : ls.size = nL) (hW : (rest.map fun v => v.category).sum ≤ 8) (hf : cells ≤ R.cells ∧ slots ≤ R.slots) (hdg : decode cc pc = .ok (.invokevirtual 65, 3)) (kk : ∀ (H1 : Heap) (locs1 : List Loc), xRep D ty h9 H1 → xS ty H0 H1 locs1 → W p l e R s m args below meth c H1 locs1 cells slots Q (F0 m (pc + 3) ls rest)) : W p l e R s m args below meth c H locs cells slots Q (F0 m pc ls (.ref v0 :: rest)) := x_callV C0 (jc_X8_advance t_v0 hF) xm_X8_advance xi_X8_advance xe_X8_advance wl_X4_65 ⟨rfl, rfl, hrm⟩ (ci := 8) rfl t_v0 hR hS (As := []) rfl hsz rfl hW hdg hf kk
theorem gf_X4_41 {a : Nat} (C0 : xC D RX4 cc nL rt p s m args meth c) (hR : xRep D ty h H) (ht : ty a = some (0, 8)) (hdg : decode cc pc = .ok (.getfield 41, 3)) (kk : W p l e R s m args below meth c H locs cells slots Q (F0 m (pc + 3) ls (.int (xI h a 5) :: rest))) : W p l e R s m args below meth c H locs cells slots Q (F0 m pc ls (.ref a :: rest)) := x_get C0 hR (ci := 8) (k := 5) (N := 8) (T := TX8) rfl iX8 (by decide) rfl wf_X4_41 rfl ht hdg kk
end XN_X4_pass
set_option maxHeartbeats 4000000 in
set_option maxRecDepth 100000 in
theorem jc_X4_pass {l : Launch} {D : xD} {ty : xTy} {h : xH} {v0 : Nat} {v1 : Int32} {r : Int32} {h9 : xH} (t_v0 : ty v0 = some (0, 4)) (hF : jf_X4_pass ty h v0 v1 = some (r, h9)) : Met l yX4_pass (xws yX4_pass cX4_pass 2 (some .boolean)) jr_X4_pass (xPc D ty h [.ref v0, .int v1]) (xQ D ty (some (.int r)) h9) 0 0 (xdom ty) := by
  refine x_met (by decide) ?_
  intro p e s m below meth c C0 hR
  generalize hargs : ([.ref v0, .int v1] : List Value).toArray = args at C0 ⊢
  have hx := C0.1
  have hb := C0.2.1
  have hown := C0.2.2.2.2.2.1
  have hts := C0.2.2.2.2.2.2.1
  have hS : xS ty s.heap s.heap [] := xS.rf
  have hl := lv_entry ([.ref v0, .int v1]) (n := 2) (Nat.le_of_ble_eq_true rfl)
  rw [← hargs, lg_entry_eq]
  rw [hargs]
  generalize (lg_sl ([.ref v0, .int v1]) ++ List.replicate (2 - (lg_sl ([.ref v0, .int v1])).length) Slot.unset).toArray = ls at hl ⊢
  have hl : lv_has ls 2 [(0, .ref v0), (1, .int v1)] := hl
  unfold jf_X4_pass at hF
  refine lv_aload_n hx hb dX4_pass_0 rfl (lv_at hl 0 rfl) ?_
  obtain ⟨a1, e_a1, hF⟩ := xbd hF
  obtain ⟨e_a1, t_a1⟩ := xgo_sp e_a1
  refine gf_X4_12 C0 hR t_v0 e_a1 dX4_pass_1 ?_
  refine gf_X4_41 C0 hR t_a1 dX4_pass_4 ?_
  refine lv_iload_n hx hb dX4_pass_7 rfl (lv_at hl 1 rfl) ?_
  refine lv_icmp_eq (tgt := 17) hx hb dX4_pass_8 (by decide) (fun c2 => ?_) (fun c2 => ?_)
  · have hF := xif hF c2
    refine lv_aload_n hx hb dX4_pass_17 rfl (lv_at hl 0 rfl) ?_
    obtain ⟨a3, e_a3, hF⟩ := xbd hF
    obtain ⟨e_a3, t_a3⟩ := xgo_sp e_a3
    refine gf_X4_12 C0 hR t_v0 e_a3 dX4_pass_18 ?_
    obtain ⟨h4, e_h4, hF⟩ := xbd hF
    refine cl_X4_65 C0 hR hS e_h4 t_a3 ⟨(Nat.le_of_ble_eq_true rfl), (Nat.le_of_ble_eq_true rfl)⟩ hl.1 (Nat.le_of_ble_eq_true rfl) ⟨(Nat.le_of_ble_eq_true rfl), (Nat.le_of_ble_eq_true rfl)⟩ dX4_pass_21 (fun H locs hR hS => ?_)
    refine lv_iconst (v := 1) hx hb dX4_pass_24 (by decide) ?_
    cases hF
    exact x_zret (w := 1) C0 hR hS (by decide) dX4_pass_25
  · have hF := xel hF c2
    refine lv_aload_n hx hb dX4_pass_11 rfl (lv_at hl 0 rfl) ?_
    refine lv_iconst (v := 1) hx hb dX4_pass_12 (by decide) ?_
    obtain ⟨a6, h5, e_h5, hF⟩ := xbd2 hF
    refine cl_X4_56 C0 hR hS e_h5 t_v0 ⟨(Nat.le_of_ble_eq_true rfl), (Nat.le_of_ble_eq_true rfl)⟩ hl.1 (Nat.le_of_ble_eq_true rfl) ⟨(Nat.le_of_ble_eq_true rfl), (Nat.le_of_ble_eq_true rfl)⟩ dX4_pass_13 (fun H locs hR hS => ?_)
    obtain ⟨w7, e_w7, hF⟩ := xbd hF
    cases hF
    exact x_zret C0 hR hS e_w7 dX4_pass_16
theorem xm_X4_pass : xMw yX4_pass cX4_pass 2 (some .boolean) 1 := ⟨xin 600 (by decide +kernel) rfl, xin 117 (by decide +kernel) rfl, by decide +kernel⟩
theorem xi_X4_pass : Cond.instanceMethod yX4_pass ∈ xT := xin 599 (by decide +kernel) rfl
theorem xe_X4_pass : Cond.selects yX4_pass.cls yX4_pass yX4_pass ∈ xT := xin 10 (by decide +kernel) rfl
theorem dX4_passNewName_0 : decode cX4_passNewName 0 = .ok (.aload_n 0, 1) := by decide +kernel
theorem dX4_passNewName_1 : decode cX4_passNewName 1 = .ok (.getfield 12, 3) := by decide +kernel
theorem dX4_passNewName_4 : decode cX4_passNewName 4 = .ok (.getfield 41, 3) := by decide +kernel
theorem dX4_passNewName_7 : decode cX4_passNewName 7 = .ok (.iconst 2, 1) := by decide +kernel
theorem dX4_passNewName_8 : decode cX4_passNewName 8 = .ok (.if_icmp .ne 14, 3) := by decide +kernel
theorem dX4_passNewName_11 : decode cX4_passNewName 11 = .ok (.iload_n 1, 1) := by decide +kernel
theorem dX4_passNewName_12 : decode cX4_passNewName 12 = .ok (.iconst (-1), 1) := by decide +kernel
theorem dX4_passNewName_13 : decode cX4_passNewName 13 = .ok (.if_icmp .eq 9, 3) := by decide +kernel
theorem dX4_passNewName_16 : decode cX4_passNewName 16 = .ok (.aload_n 0, 1) := by decide +kernel
theorem dX4_passNewName_17 : decode cX4_passNewName 17 = .ok (.iconst 3, 1) := by decide +kernel
theorem dX4_passNewName_18 : decode cX4_passNewName 18 = .ok (.invokevirtual 56, 3) := by decide +kernel
theorem dX4_passNewName_21 : decode cX4_passNewName 21 = .ok (.ireturn, 1) := by decide +kernel
theorem dX4_passNewName_22 : decode cX4_passNewName 22 = .ok (.aload_n 0, 1) := by decide +kernel
theorem dX4_passNewName_23 : decode cX4_passNewName 23 = .ok (.iconst 2, 1) := by decide +kernel
theorem dX4_passNewName_24 : decode cX4_passNewName 24 = .ok (.invokevirtual 48, 3) := by decide +kernel
theorem dX4_passNewName_27 : decode cX4_passNewName 27 = .ok (.ireturn, 1) := by decide +kernel
theorem wl_X4_48 : Cond.methodLink RX4 48 yX4_pass ∈ xT := xin 597 (by decide +kernel) rfl
section XN_X4_passNewName
variable {p : Program} {l : Launch} {e : Env} {R : Room} {s : State} {m : MethodId} {args : Array Value} {below : List Frame} {meth : Method} {c : Code} {H H0 : Heap} {locs : List Loc} {cells slots : Nat} {Q : State → Prop} {cc : ByteArray} {nL pc : Nat} {rt : Option FieldType} {ls : Array Slot} {rest : List Value} {D : xD} {ty : xTy} {h : xH}
theorem cl_X4_48 {v0 : Nat} {v1 : Int32} {r : Int32} {h9 : xH} (C0 : xC D RX4 cc nL rt p s m args meth c) (hR : xRep D ty h H) (hS : xS ty H0 H locs) (hF : jf_X4_pass ty h v0 v1 = some (r, h9)) (t_v0 : ty v0 = some (0, 4)) (hrm : jr_X4_pass.frames + 1 ≤ R.frames ∧ 8 + (2 + 11) + jr_X4_pass.locals ≤ R.locals) (hsz : ls.size = nL) (hW : (rest.map fun v => v.category).sum ≤ 8) (hf : cells ≤ R.cells ∧ slots ≤ R.slots) (hdg : decode cc pc = .ok (.invokevirtual 48, 3)) (kk : ∀ (H1 : Heap) (locs1 : List Loc), xRep D ty h9 H1 → xS ty H0 H1 locs1 → W p l e R s m args below meth c H1 locs1 cells slots Q (F0 m (pc + 3) ls (.int r :: rest))) : W p l e R s m args below meth c H locs cells slots Q (F0 m pc ls (.int v1 :: .ref v0 :: rest)) := x_callV C0 (jc_X4_pass t_v0 hF) xm_X4_pass xi_X4_pass xe_X4_pass wl_X4_48 ⟨rfl, rfl, hrm⟩ (ci := 4) rfl t_v0 hR hS (As := [.int v1]) rfl hsz rfl hW hdg hf kk
end XN_X4_passNewName
set_option maxHeartbeats 4000000 in
set_option maxRecDepth 100000 in
theorem jc_X4_passNewName {l : Launch} {D : xD} {ty : xTy} {h : xH} {v0 : Nat} {v1 : Int32} {r : Int32} {h9 : xH} (t_v0 : ty v0 = some (0, 4)) (hF : jf_X4_passNewName ty h v0 v1 = some (r, h9)) : Met l yX4_passNewName (xws yX4_passNewName cX4_passNewName 2 (some .boolean)) jr_X4_passNewName (xPc D ty h [.ref v0, .int v1]) (xQ D ty (some (.int r)) h9) 0 0 (xdom ty) := by
  refine x_met (by decide) ?_
  intro p e s m below meth c C0 hR
  generalize hargs : ([.ref v0, .int v1] : List Value).toArray = args at C0 ⊢
  have hx := C0.1
  have hb := C0.2.1
  have hown := C0.2.2.2.2.2.1
  have hts := C0.2.2.2.2.2.2.1
  have hS : xS ty s.heap s.heap [] := xS.rf
  have hl := lv_entry ([.ref v0, .int v1]) (n := 2) (Nat.le_of_ble_eq_true rfl)
  rw [← hargs, lg_entry_eq]
  rw [hargs]
  generalize (lg_sl ([.ref v0, .int v1]) ++ List.replicate (2 - (lg_sl ([.ref v0, .int v1])).length) Slot.unset).toArray = ls at hl ⊢
  have hl : lv_has ls 2 [(0, .ref v0), (1, .int v1)] := hl
  unfold jf_X4_passNewName at hF
  refine lv_aload_n hx hb dX4_passNewName_0 rfl (lv_at hl 0 rfl) ?_
  obtain ⟨a1, e_a1, hF⟩ := xbd hF
  obtain ⟨e_a1, t_a1⟩ := xgo_sp e_a1
  refine gf_X4_12 C0 hR t_v0 e_a1 dX4_passNewName_1 ?_
  refine gf_X4_41 C0 hR t_a1 dX4_passNewName_4 ?_
  refine lv_iconst (v := 2) hx hb dX4_passNewName_7 (by decide) ?_
  refine lv_icmp_ne (tgt := 22) hx hb dX4_passNewName_8 (by decide) (fun c2 => ?_) (fun c2 => ?_)
  · have hF := xel hF c2
    refine lv_aload_n hx hb dX4_passNewName_22 rfl (lv_at hl 0 rfl) ?_
    refine lv_iconst (v := 2) hx hb dX4_passNewName_23 (by decide) ?_
    obtain ⟨a4, h3, e_h3, hF⟩ := xbd2 hF
    refine cl_X4_48 C0 hR hS e_h3 t_v0 ⟨(Nat.le_of_ble_eq_true rfl), (Nat.le_of_ble_eq_true rfl)⟩ hl.1 (Nat.le_of_ble_eq_true rfl) ⟨(Nat.le_of_ble_eq_true rfl), (Nat.le_of_ble_eq_true rfl)⟩ dX4_passNewName_24 (fun H locs hR hS => ?_)
    obtain ⟨w5, e_w5, hF⟩ := xbd hF
    cases hF
    exact x_zret C0 hR hS e_w5 dX4_passNewName_27
  · have hF := xif hF c2
    refine lv_iload_n hx hb dX4_passNewName_11 rfl (lv_at hl 1 rfl) ?_
    refine lv_iconst (v := (-1)) hx hb dX4_passNewName_12 (by decide) ?_
    refine lv_icmp_eq (tgt := 22) hx hb dX4_passNewName_13 (by decide) (fun c6 => ?_) (fun c6 => ?_)
    · have hF := xif hF c6
      refine lv_aload_n hx hb dX4_passNewName_22 rfl (lv_at hl 0 rfl) ?_
      refine lv_iconst (v := 2) hx hb dX4_passNewName_23 (by decide) ?_
      obtain ⟨a8, h7, e_h7, hF⟩ := xbd2 hF
      refine cl_X4_48 C0 hR hS e_h7 t_v0 ⟨(Nat.le_of_ble_eq_true rfl), (Nat.le_of_ble_eq_true rfl)⟩ hl.1 (Nat.le_of_ble_eq_true rfl) ⟨(Nat.le_of_ble_eq_true rfl), (Nat.le_of_ble_eq_true rfl)⟩ dX4_passNewName_24 (fun H locs hR hS => ?_)
      obtain ⟨w9, e_w9, hF⟩ := xbd hF
      cases hF
      exact x_zret C0 hR hS e_w9 dX4_passNewName_27
    · have hF := xel hF c6
      refine lv_aload_n hx hb dX4_passNewName_16 rfl (lv_at hl 0 rfl) ?_
      refine lv_iconst (v := 3) hx hb dX4_passNewName_17 (by decide) ?_
      obtain ⟨a11, h10, e_h10, hF⟩ := xbd2 hF
      refine cl_X4_56 C0 hR hS e_h10 t_v0 ⟨(Nat.le_of_ble_eq_true rfl), (Nat.le_of_ble_eq_true rfl)⟩ hl.1 (Nat.le_of_ble_eq_true rfl) ⟨(Nat.le_of_ble_eq_true rfl), (Nat.le_of_ble_eq_true rfl)⟩ dX4_passNewName_18 (fun H locs hR hS => ?_)
      obtain ⟨w12, e_w12, hF⟩ := xbd hF
      cases hF
      exact x_zret C0 hR hS e_w12 dX4_passNewName_21
theorem xm_X4_passNewName : xMw yX4_passNewName cX4_passNewName 2 (some .boolean) 1 := ⟨xin 596 (by decide +kernel) rfl, xin 117 (by decide +kernel) rfl, by decide +kernel⟩
theorem xi_X4_passNewName : Cond.instanceMethod yX4_passNewName ∈ xT := xin 595 (by decide +kernel) rfl
theorem xe_X4_passNewName : Cond.selects yX4_passNewName.cls yX4_passNewName yX4_passNewName ∈ xT := xin 9 (by decide +kernel) rfl
theorem dX7_firstPlace_0 : decode cX7_firstPlace 0 = .ok (.iconst 0, 1) := by decide +kernel
theorem dX7_firstPlace_1 : decode cX7_firstPlace 1 = .ok (.istore_n 2, 1) := by decide +kernel
theorem dX7_firstPlace_2 : decode cX7_firstPlace 2 = .ok (.iload_n 2, 1) := by decide +kernel
theorem dX7_firstPlace_3 : decode cX7_firstPlace 3 = .ok (.aload_n 0, 1) := by decide +kernel
theorem dX7_firstPlace_4 : decode cX7_firstPlace 4 = .ok (.getfield 9, 3) := by decide +kernel
theorem dX7_firstPlace_7 : decode cX7_firstPlace 7 = .ok (.if_icmp .ge 20, 3) := by decide +kernel
theorem dX7_firstPlace_10 : decode cX7_firstPlace 10 = .ok (.aload_n 0, 1) := by decide +kernel
theorem dX7_firstPlace_11 : decode cX7_firstPlace 11 = .ok (.iload_n 2, 1) := by decide +kernel
theorem dX7_firstPlace_12 : decode cX7_firstPlace 12 = .ok (.invokevirtual 22, 3) := by decide +kernel
theorem dX7_firstPlace_15 : decode cX7_firstPlace 15 = .ok (.iload_n 1, 1) := by decide +kernel
theorem dX7_firstPlace_16 : decode cX7_firstPlace 16 = .ok (.if_icmp .ne 5, 3) := by decide +kernel
theorem dX7_firstPlace_19 : decode cX7_firstPlace 19 = .ok (.iload_n 2, 1) := by decide +kernel
theorem dX7_firstPlace_20 : decode cX7_firstPlace 20 = .ok (.ireturn, 1) := by decide +kernel
theorem dX7_firstPlace_21 : decode cX7_firstPlace 21 = .ok (.iinc 2 1, 3) := by decide +kernel
theorem dX7_firstPlace_24 : decode cX7_firstPlace 24 = .ok (.goto (-22), 3) := by decide +kernel
theorem dX7_firstPlace_27 : decode cX7_firstPlace 27 = .ok (.aload_n 0, 1) := by decide +kernel
theorem dX7_firstPlace_28 : decode cX7_firstPlace 28 = .ok (.getfield 9, 3) := by decide +kernel
theorem dX7_firstPlace_31 : decode cX7_firstPlace 31 = .ok (.ireturn, 1) := by decide +kernel
set_option maxHeartbeats 4000000 in
set_option maxRecDepth 100000 in
theorem jw_X7_firstPlace_2 {p : Program} {l : Launch} {e : Env} {s : State} {m : MethodId} {args : Array Value} {below : List Frame} {meth : Method} {c : Code} {D : xD} {ty : xTy} {h : xH} (C0 : xC D RX7 cX7_firstPlace 3 (some .int) p s m args meth c) {r : Int32} : ∀ n : Nat, ∀ (v0 : Nat) (v1 : Int32) (v2 : Int32), ty v0 = some (0, 7) → jf_X7_firstPlace_2 ty h n v0 v1 v2 = some r → ∀ (H : Heap) (locs : List Loc), xRep D ty h H → xS ty s.heap H locs → ∀ ls : Array Slot, lv_has ls 3 [(0, .ref v0), (1, .int v1), (2, .int v2)] → W p l e jr_X7_firstPlace s m args below meth c H locs 0 0 (MQ below (xQ D ty (some (.int r)) h) args s 0 0 (xdom ty)) (F0 m 2 ls []) := by
  have hx := C0.1
  have hb := C0.2.1
  have hown := C0.2.2.2.2.2.1
  have hts := C0.2.2.2.2.2.2.1
  intro n
  induction n with
  | zero =>
    intro v0 v1 v2 t_v0 hF H locs hR hS ls hl
    cases hF
  | succ n ih =>
    intro v0 v1 v2 t_v0 hF H locs hR hS ls hl
    rw [jf_X7_firstPlace_2_s] at hF
    refine lv_iload_n hx hb dX7_firstPlace_2 rfl (lv_at hl 2 rfl) ?_
    refine lv_aload_n hx hb dX7_firstPlace_3 rfl (lv_at hl 0 rfl) ?_
    refine gf_X7_9 C0 hR t_v0 dX7_firstPlace_4 ?_
    refine lv_icmp_ge (tgt := 27) hx hb dX7_firstPlace_7 (by decide) (fun c1 => ?_) (fun c1 => ?_)
    · have hF := xif hF c1
      refine lv_aload_n hx hb dX7_firstPlace_27 rfl (lv_at hl 0 rfl) ?_
      refine gf_X7_9 C0 hR t_v0 dX7_firstPlace_28 ?_
      cases hF
      exact x_iret C0 hR hS dX7_firstPlace_31
    · have hF := xel hF c1
      refine lv_aload_n hx hb dX7_firstPlace_10 rfl (lv_at hl 0 rfl) ?_
      refine lv_iload_n hx hb dX7_firstPlace_11 rfl (lv_at hl 2 rfl) ?_
      obtain ⟨a2, e_a2, hF⟩ := xbd hF
      refine cl_X7_22 C0 hR hS e_a2 t_v0 ⟨(Nat.le_of_ble_eq_true rfl), (Nat.le_of_ble_eq_true rfl)⟩ hl.1 (Nat.le_of_ble_eq_true rfl) ⟨(Nat.le_of_ble_eq_true rfl), (Nat.le_of_ble_eq_true rfl)⟩ dX7_firstPlace_12 (fun H locs hR hS => ?_)
      refine lv_iload_n hx hb dX7_firstPlace_15 rfl (lv_at hl 1 rfl) ?_
      refine lv_icmp_ne (tgt := 21) hx hb dX7_firstPlace_16 (by decide) (fun c3 => ?_) (fun c3 => ?_)
      · have hF := xel hF c3
        refine lv_iinc (v := v2 + 1) (lv' := [(2, .int (v2 + 1)), (0, .ref v0), (1, .int v1)]) hx hb dX7_firstPlace_21 hl (k := 2) rfl rfl (by decide) rfl (fun ls hl => ?_)
        refine lv_goto (tgt := 2) hx hb dX7_firstPlace_24 (by decide) ?_
        exact ih _ _ _ t_v0 hF _ _ hR hS _ (lv_sub hl [1, 2, 0] rfl)
      · have hF := xif hF c3
        refine lv_iload_n hx hb dX7_firstPlace_19 rfl (lv_at hl 2 rfl) ?_
        cases hF
        exact x_iret C0 hR hS dX7_firstPlace_20
set_option maxHeartbeats 4000000 in
set_option maxRecDepth 100000 in
theorem jc_X7_firstPlace {l : Launch} {D : xD} {ty : xTy} {h : xH} {v0 : Nat} {v1 : Int32} {r : Int32} (t_v0 : ty v0 = some (0, 7)) (hF : jf_X7_firstPlace ty h v0 v1 = some r) : Met l yX7_firstPlace (xws yX7_firstPlace cX7_firstPlace 3 (some .int)) jr_X7_firstPlace (xPc D ty h [.ref v0, .int v1]) (xQ D ty (some (.int r)) h) 0 0 (xdom ty) := by
  refine x_met (by decide) ?_
  intro p e s m below meth c C0 hR
  generalize hargs : ([.ref v0, .int v1] : List Value).toArray = args at C0 ⊢
  have hx := C0.1
  have hb := C0.2.1
  have hown := C0.2.2.2.2.2.1
  have hts := C0.2.2.2.2.2.2.1
  have hS : xS ty s.heap s.heap [] := xS.rf
  have hl := lv_entry ([.ref v0, .int v1]) (n := 3) (Nat.le_of_ble_eq_true rfl)
  rw [← hargs, lg_entry_eq]
  rw [hargs]
  generalize (lg_sl ([.ref v0, .int v1]) ++ List.replicate (3 - (lg_sl ([.ref v0, .int v1])).length) Slot.unset).toArray = ls at hl ⊢
  have hl : lv_has ls 3 [(0, .ref v0), (1, .int v1)] := hl
  unfold jf_X7_firstPlace at hF
  refine lv_iconst (v := 0) hx hb dX7_firstPlace_0 (by decide) ?_
  refine lv_istore_n (lv' := [(2, .int 0), (0, .ref v0), (1, .int v1)]) hx hb dX7_firstPlace_1 rfl hl (by decide) rfl (fun ls hl => ?_)
  obtain ⟨_, hF⟩ := xlim_sp hF
  exact jw_X7_firstPlace_2 C0 _ _ _ _ t_v0 hF _ _ hR hS _ (lv_sub hl [1, 2, 0] rfl)
theorem xm_X7_firstPlace : xMw yX7_firstPlace cX7_firstPlace 3 (some .int) 1 := ⟨xin 644 (by decide +kernel) rfl, xin 116 (by decide +kernel) rfl, by decide +kernel⟩
theorem xi_X7_firstPlace : Cond.instanceMethod yX7_firstPlace ∈ xT := xin 642 (by decide +kernel) rfl
theorem xe_X7_firstPlace : Cond.selects yX7_firstPlace.cls yX7_firstPlace yX7_firstPlace ∈ xT := xin 643 (by decide +kernel) rfl
theorem dX4_readPlace_0 : decode cX4_readPlace 0 = .ok (.aload_n 0, 1) := by decide +kernel
theorem dX4_readPlace_1 : decode cX4_readPlace 1 = .ok (.getfield 12, 3) := by decide +kernel
theorem dX4_readPlace_4 : decode cX4_readPlace 4 = .ok (.getfield 41, 3) := by decide +kernel
theorem dX4_readPlace_7 : decode cX4_readPlace 7 = .ok (.iconst 2, 1) := by decide +kernel
theorem dX4_readPlace_8 : decode cX4_readPlace 8 = .ok (.if_icmp .eq 9, 3) := by decide +kernel
theorem dX4_readPlace_11 : decode cX4_readPlace 11 = .ok (.aload_n 0, 1) := by decide +kernel
theorem dX4_readPlace_12 : decode cX4_readPlace 12 = .ok (.iconst 1, 1) := by decide +kernel
theorem dX4_readPlace_13 : decode cX4_readPlace 13 = .ok (.invokevirtual 56, 3) := by decide +kernel
theorem dX4_readPlace_16 : decode cX4_readPlace 16 = .ok (.ireturn, 1) := by decide +kernel
theorem dX4_readPlace_17 : decode cX4_readPlace 17 = .ok (.aload_n 2, 1) := by decide +kernel
theorem dX4_readPlace_18 : decode cX4_readPlace 18 = .ok (.getfield 127, 3) := by decide +kernel
theorem dX4_readPlace_21 : decode cX4_readPlace 21 = .ok (.bipush 12, 2) := by decide +kernel
theorem dX4_readPlace_23 : decode cX4_readPlace 23 = .ok (.if_icmp .lt 9, 3) := by decide +kernel
theorem dX4_readPlace_26 : decode cX4_readPlace 26 = .ok (.aload_n 0, 1) := by decide +kernel
theorem dX4_readPlace_27 : decode cX4_readPlace 27 = .ok (.iconst 2, 1) := by decide +kernel
theorem dX4_readPlace_28 : decode cX4_readPlace 28 = .ok (.invokevirtual 56, 3) := by decide +kernel
theorem dX4_readPlace_31 : decode cX4_readPlace 31 = .ok (.ireturn, 1) := by decide +kernel
theorem dX4_readPlace_32 : decode cX4_readPlace 32 = .ok (.aload_n 1, 1) := by decide +kernel
theorem dX4_readPlace_33 : decode cX4_readPlace 33 = .ok (.aload_n 0, 1) := by decide +kernel
theorem dX4_readPlace_34 : decode cX4_readPlace 34 = .ok (.getfield 12, 3) := by decide +kernel
theorem dX4_readPlace_37 : decode cX4_readPlace 37 = .ok (.getfield 80, 3) := by decide +kernel
theorem dX4_readPlace_40 : decode cX4_readPlace 40 = .ok (.invokevirtual 83, 3) := by decide +kernel
theorem dX4_readPlace_43 : decode cX4_readPlace 43 = .ok (.istore 5, 2) := by decide +kernel
theorem dX4_readPlace_45 : decode cX4_readPlace 45 = .ok (.iload 5, 2) := by decide +kernel
theorem dX4_readPlace_47 : decode cX4_readPlace 47 = .ok (.iconst (-1), 1) := by decide +kernel
theorem dX4_readPlace_48 : decode cX4_readPlace 48 = .ok (.if_icmp .ne 9, 3) := by decide +kernel
theorem dX4_readPlace_51 : decode cX4_readPlace 51 = .ok (.aload_n 0, 1) := by decide +kernel
theorem dX4_readPlace_52 : decode cX4_readPlace 52 = .ok (.iconst 4, 1) := by decide +kernel
theorem dX4_readPlace_53 : decode cX4_readPlace 53 = .ok (.invokevirtual 56, 3) := by decide +kernel
theorem dX4_readPlace_56 : decode cX4_readPlace 56 = .ok (.ireturn, 1) := by decide +kernel
theorem dX4_readPlace_57 : decode cX4_readPlace 57 = .ok (.iload 4, 2) := by decide +kernel
theorem dX4_readPlace_59 : decode cX4_readPlace 59 = .ok (.ifCond .eq 29, 3) := by decide +kernel
theorem dX4_readPlace_62 : decode cX4_readPlace 62 = .ok (.iload 5, 2) := by decide +kernel
theorem dX4_readPlace_64 : decode cX4_readPlace 64 = .ok (.bipush 100, 2) := by decide +kernel
theorem dX4_readPlace_66 : decode cX4_readPlace 66 = .ok (.if_icmp .lt 22, 3) := by decide +kernel
theorem dX4_readPlace_69 : decode cX4_readPlace 69 = .ok (.aload_n 3, 1) := by decide +kernel
theorem dX4_readPlace_70 : decode cX4_readPlace 70 = .ok (.iload 5, 2) := by decide +kernel
theorem dX4_readPlace_72 : decode cX4_readPlace 72 = .ok (.invokevirtual 130, 3) := by decide +kernel
theorem dX4_readPlace_75 : decode cX4_readPlace 75 = .ok (.aload_n 3, 1) := by decide +kernel
theorem dX4_readPlace_76 : decode cX4_readPlace 76 = .ok (.getfield 127, 3) := by decide +kernel
theorem dX4_readPlace_79 : decode cX4_readPlace 79 = .ok (.if_icmp .lt 9, 3) := by decide +kernel
theorem dX4_readPlace_82 : decode cX4_readPlace 82 = .ok (.aload_n 0, 1) := by decide +kernel
theorem dX4_readPlace_83 : decode cX4_readPlace 83 = .ok (.iconst 5, 1) := by decide +kernel
theorem dX4_readPlace_84 : decode cX4_readPlace 84 = .ok (.invokevirtual 56, 3) := by decide +kernel
theorem dX4_readPlace_87 : decode cX4_readPlace 87 = .ok (.ireturn, 1) := by decide +kernel
theorem dX4_readPlace_88 : decode cX4_readPlace 88 = .ok (.aload_n 0, 1) := by decide +kernel
theorem dX4_readPlace_89 : decode cX4_readPlace 89 = .ok (.getfield 12, 3) := by decide +kernel
theorem dX4_readPlace_92 : decode cX4_readPlace 92 = .ok (.invokevirtual 65, 3) := by decide +kernel
theorem dX4_readPlace_95 : decode cX4_readPlace 95 = .ok (.aload_n 2, 1) := by decide +kernel
theorem dX4_readPlace_96 : decode cX4_readPlace 96 = .ok (.iload 5, 2) := by decide +kernel
theorem dX4_readPlace_98 : decode cX4_readPlace 98 = .ok (.aload_n 1, 1) := by decide +kernel
theorem dX4_readPlace_99 : decode cX4_readPlace 99 = .ok (.iload 5, 2) := by decide +kernel
theorem dX4_readPlace_101 : decode cX4_readPlace 101 = .ok (.invokevirtual 133, 3) := by decide +kernel
theorem dX4_readPlace_104 : decode cX4_readPlace 104 = .ok (.invokevirtual 136, 3) := by decide +kernel
theorem dX4_readPlace_107 : decode cX4_readPlace 107 = .ok (.ireturn, 1) := by decide +kernel
theorem wl_X4_130 : Cond.methodLink RX4 130 yX7_firstPlace ∈ xT := xin 641 (by decide +kernel) rfl
theorem wl_X4_133 : Cond.methodLink RX4 133 yX0_arityOf ∈ xT := xin 649 (by decide +kernel) rfl
theorem wl_X4_136 : Cond.methodLink RX4 136 yX7_add ∈ xT := xin 653 (by decide +kernel) rfl
theorem wl_X4_83 : Cond.methodLink RX4 83 yX0_codeNamed ∈ xT := xin 586 (by decide +kernel) rfl
theorem wf_X4_127 : Cond.fieldLink RX4 127 "TermShelf$Term" "size" "I" ∈ xT := xin 165 (by decide +kernel) rfl
theorem wf_X4_80 : Cond.fieldLink RX4 80 "TermShelf$Tokens" "value" "I" ∈ xT := xin 240 (by decide +kernel) rfl
section XN_X4_readPlace
variable {p : Program} {l : Launch} {e : Env} {R : Room} {s : State} {m : MethodId} {args : Array Value} {below : List Frame} {meth : Method} {c : Code} {H H0 : Heap} {locs : List Loc} {cells slots : Nat} {Q : State → Prop} {cc : ByteArray} {nL pc : Nat} {rt : Option FieldType} {ls : Array Slot} {rest : List Value} {D : xD} {ty : xTy} {h : xH}
theorem cl_X4_130 {v0 : Nat} {v1 : Int32} {r : Int32} (C0 : xC D RX4 cc nL rt p s m args meth c) (hR : xRep D ty h H) (hS : xS ty H0 H locs) (hF : jf_X7_firstPlace ty h v0 v1 = some r) (t_v0 : ty v0 = some (0, 7)) (hrm : jr_X7_firstPlace.frames + 1 ≤ R.frames ∧ 8 + (3 + 11) + jr_X7_firstPlace.locals ≤ R.locals) (hsz : ls.size = nL) (hW : (rest.map fun v => v.category).sum ≤ 8) (hf : cells ≤ R.cells ∧ slots ≤ R.slots) (hdg : decode cc pc = .ok (.invokevirtual 130, 3)) (kk : ∀ (H1 : Heap) (locs1 : List Loc), xRep D ty h H1 → xS ty H0 H1 locs1 → W p l e R s m args below meth c H1 locs1 cells slots Q (F0 m (pc + 3) ls (.int r :: rest))) : W p l e R s m args below meth c H locs cells slots Q (F0 m pc ls (.int v1 :: .ref v0 :: rest)) := x_callV C0 (jc_X7_firstPlace t_v0 hF) xm_X7_firstPlace xi_X7_firstPlace xe_X7_firstPlace wl_X4_130 ⟨rfl, rfl, hrm⟩ (ci := 7) rfl t_v0 hR hS (As := [.int v1]) rfl hsz rfl hW hdg hf kk
theorem cl_X4_133 {v0 : Nat} {v1 : Int32} {r : Int32} (C0 : xC D RX4 cc nL rt p s m args meth c) (hR : xRep D ty h H) (hS : xS ty H0 H locs) (hF : jf_X0_arityOf ty h v0 v1 = some r) (t_v0 : ty v0 = some (0, 0)) (hrm : jr_X0_arityOf.frames + 1 ≤ R.frames ∧ 8 + (2 + 11) + jr_X0_arityOf.locals ≤ R.locals) (hsz : ls.size = nL) (hW : (rest.map fun v => v.category).sum ≤ 8) (hf : cells ≤ R.cells ∧ slots ≤ R.slots) (hdg : decode cc pc = .ok (.invokevirtual 133, 3)) (kk : ∀ (H1 : Heap) (locs1 : List Loc), xRep D ty h H1 → xS ty H0 H1 locs1 → W p l e R s m args below meth c H1 locs1 cells slots Q (F0 m (pc + 3) ls (.int r :: rest))) : W p l e R s m args below meth c H locs cells slots Q (F0 m pc ls (.int v1 :: .ref v0 :: rest)) := x_callV C0 (jc_X0_arityOf t_v0 hF) xm_X0_arityOf xi_X0_arityOf xe_X0_arityOf wl_X4_133 ⟨rfl, rfl, hrm⟩ (ci := 0) rfl t_v0 hR hS (As := [.int v1]) rfl hsz rfl hW hdg hf kk
theorem cl_X4_136 {v0 : Nat} {v1 : Int32} {v2 : Int32} {r : Int32} {h9 : xH} (C0 : xC D RX4 cc nL rt p s m args meth c) (hR : xRep D ty h H) (hS : xS ty H0 H locs) (hF : jf_X7_add ty h v0 v1 v2 = some (r, h9)) (t_v0 : ty v0 = some (0, 7)) (hrm : jr_X7_add.frames + 1 ≤ R.frames ∧ 8 + (3 + 11) + jr_X7_add.locals ≤ R.locals) (hsz : ls.size = nL) (hW : (rest.map fun v => v.category).sum ≤ 8) (hf : cells ≤ R.cells ∧ slots ≤ R.slots) (hdg : decode cc pc = .ok (.invokevirtual 136, 3)) (kk : ∀ (H1 : Heap) (locs1 : List Loc), xRep D ty h9 H1 → xS ty H0 H1 locs1 → W p l e R s m args below meth c H1 locs1 cells slots Q (F0 m (pc + 3) ls (.int r :: rest))) : W p l e R s m args below meth c H locs cells slots Q (F0 m pc ls (.int v2 :: .int v1 :: .ref v0 :: rest)) := x_callV C0 (jc_X7_add t_v0 hF) xm_X7_add xi_X7_add xe_X7_add wl_X4_136 ⟨rfl, rfl, hrm⟩ (ci := 7) rfl t_v0 hR hS (As := [.int v1, .int v2]) rfl hsz rfl hW hdg hf kk
theorem cl_X4_83 {v0 : Nat} {v1 : Int32} {r : Int32} (C0 : xC D RX4 cc nL rt p s m args meth c) (hR : xRep D ty h H) (hS : xS ty H0 H locs) (hF : jf_X0_codeNamed ty h v0 v1 = some r) (t_v0 : ty v0 = some (0, 0)) (hrm : jr_X0_codeNamed.frames + 1 ≤ R.frames ∧ 8 + (4 + 11) + jr_X0_codeNamed.locals ≤ R.locals) (hsz : ls.size = nL) (hW : (rest.map fun v => v.category).sum ≤ 8) (hf : cells ≤ R.cells ∧ slots ≤ R.slots) (hdg : decode cc pc = .ok (.invokevirtual 83, 3)) (kk : ∀ (H1 : Heap) (locs1 : List Loc), xRep D ty h H1 → xS ty H0 H1 locs1 → W p l e R s m args below meth c H1 locs1 cells slots Q (F0 m (pc + 3) ls (.int r :: rest))) : W p l e R s m args below meth c H locs cells slots Q (F0 m pc ls (.int v1 :: .ref v0 :: rest)) := x_callV C0 (jc_X0_codeNamed t_v0 hF) xm_X0_codeNamed xi_X0_codeNamed xe_X0_codeNamed wl_X4_83 ⟨rfl, rfl, hrm⟩ (ci := 0) rfl t_v0 hR hS (As := [.int v1]) rfl hsz rfl hW hdg hf kk
theorem gf_X4_127 {a : Nat} (C0 : xC D RX4 cc nL rt p s m args meth c) (hR : xRep D ty h H) (ht : ty a = some (0, 7)) (hdg : decode cc pc = .ok (.getfield 127, 3)) (kk : W p l e R s m args below meth c H locs cells slots Q (F0 m (pc + 3) ls (.int (xI h a 2) :: rest))) : W p l e R s m args below meth c H locs cells slots Q (F0 m pc ls (.ref a :: rest)) := x_get C0 hR (ci := 7) (k := 2) (N := 3) (T := TX7) rfl iX7 (by decide) rfl wf_X4_127 rfl ht hdg kk
theorem gf_X4_80 {a : Nat} (C0 : xC D RX4 cc nL rt p s m args meth c) (hR : xRep D ty h H) (ht : ty a = some (0, 8)) (hdg : decode cc pc = .ok (.getfield 80, 3)) (kk : W p l e R s m args below meth c H locs cells slots Q (F0 m (pc + 3) ls (.int (xI h a 7) :: rest))) : W p l e R s m args below meth c H locs cells slots Q (F0 m pc ls (.ref a :: rest)) := x_get C0 hR (ci := 8) (k := 7) (N := 8) (T := TX8) rfl iX8 (by decide) rfl wf_X4_80 rfl ht hdg kk
end XN_X4_readPlace
set_option maxHeartbeats 4000000 in
set_option maxRecDepth 100000 in
theorem jw_X4_readPlace_88 {p : Program} {l : Launch} {e : Env} {s : State} {m : MethodId} {args : Array Value} {below : List Frame} {meth : Method} {c : Code} {D : xD} {ty : xTy} (C0 : xC D RX4 cX4_readPlace 6 (some .boolean) p s m args meth c) {r : Int32} {h9 : xH} : ∀ (v0 : Nat) (v1 : Nat) (v2 : Nat) (v5 : Int32) (h : xH), ty v0 = some (0, 4) → ty v1 = some (0, 0) → ty v2 = some (0, 7) → jf_X4_readPlace_88 ty v0 v1 v2 v5 h = some (r, h9) → ∀ (H : Heap) (locs : List Loc), xRep D ty h H → xS ty s.heap H locs → ∀ ls : Array Slot, lv_has ls 6 [(0, .ref v0), (1, .ref v1), (2, .ref v2), (5, .int v5)] → W p l e jr_X4_readPlace s m args below meth c H locs 0 0 (MQ below (xQ D ty (some (.int r)) h9) args s 0 0 (xdom ty)) (F0 m 88 ls []) := by
  have hx := C0.1
  have hb := C0.2.1
  have hown := C0.2.2.2.2.2.1
  have hts := C0.2.2.2.2.2.2.1
  intro v0 v1 v2 v5 h t_v0 t_v1 t_v2 hF H locs hR hS ls hl
  unfold jf_X4_readPlace_88 at hF
  refine lv_aload_n hx hb dX4_readPlace_88 rfl (lv_at hl 0 rfl) ?_
  obtain ⟨a1, e_a1, hF⟩ := xbd hF
  obtain ⟨e_a1, t_a1⟩ := xgo_sp e_a1
  refine gf_X4_12 C0 hR t_v0 e_a1 dX4_readPlace_89 ?_
  obtain ⟨h2, e_h2, hF⟩ := xbd hF
  refine cl_X4_65 C0 hR hS e_h2 t_a1 ⟨(Nat.le_of_ble_eq_true rfl), (Nat.le_of_ble_eq_true rfl)⟩ hl.1 (Nat.le_of_ble_eq_true rfl) ⟨(Nat.le_of_ble_eq_true rfl), (Nat.le_of_ble_eq_true rfl)⟩ dX4_readPlace_92 (fun H locs hR hS => ?_)
  refine lv_aload_n hx hb dX4_readPlace_95 rfl (lv_at hl 2 rfl) ?_
  refine lv_iload hx hb dX4_readPlace_96 (lv_at hl 3 rfl) ?_
  refine lv_aload_n hx hb dX4_readPlace_98 rfl (lv_at hl 1 rfl) ?_
  refine lv_iload hx hb dX4_readPlace_99 (lv_at hl 3 rfl) ?_
  obtain ⟨a3, e_a3, hF⟩ := xbd hF
  refine cl_X4_133 C0 hR hS e_a3 t_v1 ⟨(Nat.le_of_ble_eq_true rfl), (Nat.le_of_ble_eq_true rfl)⟩ hl.1 (Nat.le_of_ble_eq_true rfl) ⟨(Nat.le_of_ble_eq_true rfl), (Nat.le_of_ble_eq_true rfl)⟩ dX4_readPlace_101 (fun H locs hR hS => ?_)
  obtain ⟨a5, h4, e_h4, hF⟩ := xbd2 hF
  refine cl_X4_136 C0 hR hS e_h4 t_v2 ⟨(Nat.le_of_ble_eq_true rfl), (Nat.le_of_ble_eq_true rfl)⟩ hl.1 (Nat.le_of_ble_eq_true rfl) ⟨(Nat.le_of_ble_eq_true rfl), (Nat.le_of_ble_eq_true rfl)⟩ dX4_readPlace_104 (fun H locs hR hS => ?_)
  obtain ⟨w6, e_w6, hF⟩ := xbd hF
  cases hF
  exact x_zret C0 hR hS e_w6 dX4_readPlace_107
set_option maxHeartbeats 4000000 in
set_option maxRecDepth 100000 in
theorem jc_X4_readPlace {l : Launch} {D : xD} {ty : xTy} {h : xH} {v0 : Nat} {v1 : Nat} {v2 : Nat} {v3 : Nat} {v4 : Int32} {r : Int32} {h9 : xH} (t_v0 : ty v0 = some (0, 4)) (t_v1 : ty v1 = some (0, 0)) (t_v2 : ty v2 = some (0, 7)) (t_v3 : ty v3 = some (0, 7)) (hF : jf_X4_readPlace ty h v0 v1 v2 v3 v4 = some (r, h9)) : Met l yX4_readPlace (xws yX4_readPlace cX4_readPlace 6 (some .boolean)) jr_X4_readPlace (xPc D ty h [.ref v0, .ref v1, .ref v2, .ref v3, .int v4]) (xQ D ty (some (.int r)) h9) 0 0 (xdom ty) := by
  refine x_met (by decide) ?_
  intro p e s m below meth c C0 hR
  generalize hargs : ([.ref v0, .ref v1, .ref v2, .ref v3, .int v4] : List Value).toArray = args at C0 ⊢
  have hx := C0.1
  have hb := C0.2.1
  have hown := C0.2.2.2.2.2.1
  have hts := C0.2.2.2.2.2.2.1
  have hS : xS ty s.heap s.heap [] := xS.rf
  have hl := lv_entry ([.ref v0, .ref v1, .ref v2, .ref v3, .int v4]) (n := 6) (Nat.le_of_ble_eq_true rfl)
  rw [← hargs, lg_entry_eq]
  rw [hargs]
  generalize (lg_sl ([.ref v0, .ref v1, .ref v2, .ref v3, .int v4]) ++ List.replicate (6 - (lg_sl ([.ref v0, .ref v1, .ref v2, .ref v3, .int v4])).length) Slot.unset).toArray = ls at hl ⊢
  have hl : lv_has ls 6 [(0, .ref v0), (1, .ref v1), (2, .ref v2), (3, .ref v3), (4, .int v4)] := hl
  unfold jf_X4_readPlace at hF
  refine lv_aload_n hx hb dX4_readPlace_0 rfl (lv_at hl 0 rfl) ?_
  obtain ⟨a7, e_a7, hF⟩ := xbd hF
  obtain ⟨e_a7, t_a7⟩ := xgo_sp e_a7
  refine gf_X4_12 C0 hR t_v0 e_a7 dX4_readPlace_1 ?_
  refine gf_X4_41 C0 hR t_a7 dX4_readPlace_4 ?_
  refine lv_iconst (v := 2) hx hb dX4_readPlace_7 (by decide) ?_
  refine lv_icmp_eq (tgt := 17) hx hb dX4_readPlace_8 (by decide) (fun c8 => ?_) (fun c8 => ?_)
  · have hF := xif hF c8
    refine lv_aload_n hx hb dX4_readPlace_17 rfl (lv_at hl 2 rfl) ?_
    refine gf_X4_127 C0 hR t_v2 dX4_readPlace_18 ?_
    refine lv_bipush (v := 12) hx hb dX4_readPlace_21 (by decide) ?_
    refine lv_icmp_lt (tgt := 32) hx hb dX4_readPlace_23 (by decide) (fun c9 => ?_) (fun c9 => ?_)
    · have hF := xif hF c9
      refine lv_aload_n hx hb dX4_readPlace_32 rfl (lv_at hl 1 rfl) ?_
      refine lv_aload_n hx hb dX4_readPlace_33 rfl (lv_at hl 0 rfl) ?_
      obtain ⟨a10, e_a10, hF⟩ := xbd hF
      obtain ⟨e_a10, t_a10⟩ := xgo_sp e_a10
      refine gf_X4_12 C0 hR t_v0 e_a10 dX4_readPlace_34 ?_
      refine gf_X4_80 C0 hR t_a10 dX4_readPlace_37 ?_
      obtain ⟨a11, e_a11, hF⟩ := xbd hF
      refine cl_X4_83 C0 hR hS e_a11 t_v1 ⟨(Nat.le_of_ble_eq_true rfl), (Nat.le_of_ble_eq_true rfl)⟩ hl.1 (Nat.le_of_ble_eq_true rfl) ⟨(Nat.le_of_ble_eq_true rfl), (Nat.le_of_ble_eq_true rfl)⟩ dX4_readPlace_40 (fun H locs hR hS => ?_)
      refine lv_istore (lv' := [(5, .int a11), (0, .ref v0), (1, .ref v1), (2, .ref v2), (3, .ref v3), (4, .int v4)]) hx hb dX4_readPlace_43 hl (by decide) rfl (fun ls hl => ?_)
      refine lv_iload hx hb dX4_readPlace_45 (lv_at hl 0 rfl) ?_
      refine lv_iconst (v := (-1)) hx hb dX4_readPlace_47 (by decide) ?_
      refine lv_icmp_ne (tgt := 57) hx hb dX4_readPlace_48 (by decide) (fun c12 => ?_) (fun c12 => ?_)
      · have hF := xel hF c12
        refine lv_iload hx hb dX4_readPlace_57 (lv_at hl 5 rfl) ?_
        refine lv_if_eq (tgt := 88) hx hb dX4_readPlace_59 (by decide) (fun c13 => ?_) (fun c13 => ?_)
        · have hF := xif hF c13
          exact jw_X4_readPlace_88 C0 _ _ _ _ _ t_v0 t_v1 t_v2 hF _ _ hR hS _ (lv_sub hl [1, 2, 3, 0] rfl)
        · have hF := xel hF c13
          refine lv_iload hx hb dX4_readPlace_62 (lv_at hl 0 rfl) ?_
          refine lv_bipush (v := 100) hx hb dX4_readPlace_64 (by decide) ?_
          refine lv_icmp_lt (tgt := 88) hx hb dX4_readPlace_66 (by decide) (fun c14 => ?_) (fun c14 => ?_)
          · have hF := xif hF c14
            exact jw_X4_readPlace_88 C0 _ _ _ _ _ t_v0 t_v1 t_v2 hF _ _ hR hS _ (lv_sub hl [1, 2, 3, 0] rfl)
          · have hF := xel hF c14
            refine lv_aload_n hx hb dX4_readPlace_69 rfl (lv_at hl 4 rfl) ?_
            refine lv_iload hx hb dX4_readPlace_70 (lv_at hl 0 rfl) ?_
            obtain ⟨a15, e_a15, hF⟩ := xbd hF
            refine cl_X4_130 C0 hR hS e_a15 t_v3 ⟨(Nat.le_of_ble_eq_true rfl), (Nat.le_of_ble_eq_true rfl)⟩ hl.1 (Nat.le_of_ble_eq_true rfl) ⟨(Nat.le_of_ble_eq_true rfl), (Nat.le_of_ble_eq_true rfl)⟩ dX4_readPlace_72 (fun H locs hR hS => ?_)
            refine lv_aload_n hx hb dX4_readPlace_75 rfl (lv_at hl 4 rfl) ?_
            refine gf_X4_127 C0 hR t_v3 dX4_readPlace_76 ?_
            refine lv_icmp_lt (tgt := 88) hx hb dX4_readPlace_79 (by decide) (fun c16 => ?_) (fun c16 => ?_)
            · have hF := xif hF c16
              exact jw_X4_readPlace_88 C0 _ _ _ _ _ t_v0 t_v1 t_v2 hF _ _ hR hS _ (lv_sub hl [1, 2, 3, 0] rfl)
            · have hF := xel hF c16
              refine lv_aload_n hx hb dX4_readPlace_82 rfl (lv_at hl 1 rfl) ?_
              refine lv_iconst (v := 5) hx hb dX4_readPlace_83 (by decide) ?_
              obtain ⟨a18, h17, e_h17, hF⟩ := xbd2 hF
              refine cl_X4_56 C0 hR hS e_h17 t_v0 ⟨(Nat.le_of_ble_eq_true rfl), (Nat.le_of_ble_eq_true rfl)⟩ hl.1 (Nat.le_of_ble_eq_true rfl) ⟨(Nat.le_of_ble_eq_true rfl), (Nat.le_of_ble_eq_true rfl)⟩ dX4_readPlace_84 (fun H locs hR hS => ?_)
              obtain ⟨w19, e_w19, hF⟩ := xbd hF
              cases hF
              exact x_zret C0 hR hS e_w19 dX4_readPlace_87
      · have hF := xif hF c12
        refine lv_aload_n hx hb dX4_readPlace_51 rfl (lv_at hl 1 rfl) ?_
        refine lv_iconst (v := 4) hx hb dX4_readPlace_52 (by decide) ?_
        obtain ⟨a21, h20, e_h20, hF⟩ := xbd2 hF
        refine cl_X4_56 C0 hR hS e_h20 t_v0 ⟨(Nat.le_of_ble_eq_true rfl), (Nat.le_of_ble_eq_true rfl)⟩ hl.1 (Nat.le_of_ble_eq_true rfl) ⟨(Nat.le_of_ble_eq_true rfl), (Nat.le_of_ble_eq_true rfl)⟩ dX4_readPlace_53 (fun H locs hR hS => ?_)
        obtain ⟨w22, e_w22, hF⟩ := xbd hF
        cases hF
        exact x_zret C0 hR hS e_w22 dX4_readPlace_56
    · have hF := xel hF c9
      refine lv_aload_n hx hb dX4_readPlace_26 rfl (lv_at hl 0 rfl) ?_
      refine lv_iconst (v := 2) hx hb dX4_readPlace_27 (by decide) ?_
      obtain ⟨a24, h23, e_h23, hF⟩ := xbd2 hF
      refine cl_X4_56 C0 hR hS e_h23 t_v0 ⟨(Nat.le_of_ble_eq_true rfl), (Nat.le_of_ble_eq_true rfl)⟩ hl.1 (Nat.le_of_ble_eq_true rfl) ⟨(Nat.le_of_ble_eq_true rfl), (Nat.le_of_ble_eq_true rfl)⟩ dX4_readPlace_28 (fun H locs hR hS => ?_)
      obtain ⟨w25, e_w25, hF⟩ := xbd hF
      cases hF
      exact x_zret C0 hR hS e_w25 dX4_readPlace_31
  · have hF := xel hF c8
    refine lv_aload_n hx hb dX4_readPlace_11 rfl (lv_at hl 0 rfl) ?_
    refine lv_iconst (v := 1) hx hb dX4_readPlace_12 (by decide) ?_
    obtain ⟨a27, h26, e_h26, hF⟩ := xbd2 hF
    refine cl_X4_56 C0 hR hS e_h26 t_v0 ⟨(Nat.le_of_ble_eq_true rfl), (Nat.le_of_ble_eq_true rfl)⟩ hl.1 (Nat.le_of_ble_eq_true rfl) ⟨(Nat.le_of_ble_eq_true rfl), (Nat.le_of_ble_eq_true rfl)⟩ dX4_readPlace_13 (fun H locs hR hS => ?_)
    obtain ⟨w28, e_w28, hF⟩ := xbd hF
    cases hF
    exact x_zret C0 hR hS e_w28 dX4_readPlace_16
theorem xm_X4_readPlace : xMw yX4_readPlace cX4_readPlace 6 (some .boolean) 4 := ⟨xin 640 (by decide +kernel) rfl, xin 117 (by decide +kernel) rfl, by decide +kernel⟩
theorem xi_X4_readPlace : Cond.instanceMethod yX4_readPlace ∈ xT := xin 639 (by decide +kernel) rfl
theorem xe_X4_readPlace : Cond.selects yX4_readPlace.cls yX4_readPlace yX4_readPlace ∈ xT := xin 14 (by decide +kernel) rfl
theorem dX4_openBracket_0 : decode cX4_openBracket 0 = .ok (.aload_n 0, 1) := by decide +kernel
theorem dX4_openBracket_1 : decode cX4_openBracket 1 = .ok (.getfield 22, 3) := by decide +kernel
theorem dX4_openBracket_4 : decode cX4_openBracket 4 = .ok (.ifCond .lt 12, 3) := by decide +kernel
theorem dX4_openBracket_7 : decode cX4_openBracket 7 = .ok (.aload_n 0, 1) := by decide +kernel
theorem dX4_openBracket_8 : decode cX4_openBracket 8 = .ok (.getfield 22, 3) := by decide +kernel
theorem dX4_openBracket_11 : decode cX4_openBracket 11 = .ok (.bipush 12, 2) := by decide +kernel
theorem dX4_openBracket_13 : decode cX4_openBracket 13 = .ok (.if_icmp .lt 5, 3) := by decide +kernel
theorem dX4_openBracket_16 : decode cX4_openBracket 16 = .ok (.iconst 0, 1) := by decide +kernel
theorem dX4_openBracket_17 : decode cX4_openBracket 17 = .ok (.ireturn, 1) := by decide +kernel
theorem dX4_openBracket_18 : decode cX4_openBracket 18 = .ok (.aload_n 0, 1) := by decide +kernel
theorem dX4_openBracket_19 : decode cX4_openBracket 19 = .ok (.getfield 18, 3) := by decide +kernel
theorem dX4_openBracket_22 : decode cX4_openBracket 22 = .ok (.aload_n 0, 1) := by decide +kernel
theorem dX4_openBracket_23 : decode cX4_openBracket 23 = .ok (.getfield 22, 3) := by decide +kernel
theorem dX4_openBracket_26 : decode cX4_openBracket 26 = .ok (.iload_n 1, 1) := by decide +kernel
theorem dX4_openBracket_27 : decode cX4_openBracket 27 = .ok (.iastore, 1) := by decide +kernel
theorem dX4_openBracket_28 : decode cX4_openBracket 28 = .ok (.aload_n 0, 1) := by decide +kernel
theorem dX4_openBracket_29 : decode cX4_openBracket 29 = .ok (.dup, 1) := by decide +kernel
theorem dX4_openBracket_30 : decode cX4_openBracket 30 = .ok (.getfield 22, 3) := by decide +kernel
theorem dX4_openBracket_33 : decode cX4_openBracket 33 = .ok (.iconst 1, 1) := by decide +kernel
theorem dX4_openBracket_34 : decode cX4_openBracket 34 = .ok (.iadd, 1) := by decide +kernel
theorem dX4_openBracket_35 : decode cX4_openBracket 35 = .ok (.putfield 22, 3) := by decide +kernel
theorem dX4_openBracket_38 : decode cX4_openBracket 38 = .ok (.iconst 1, 1) := by decide +kernel
theorem dX4_openBracket_39 : decode cX4_openBracket 39 = .ok (.ireturn, 1) := by decide +kernel
theorem wf_X4_18 : Cond.fieldLink RX4 18 "TermShelf$Reader" "wanted" "[I" ∈ xT := xin 259 (by decide +kernel) rfl
theorem wf_X4_22 : Cond.fieldLink RX4 22 "TermShelf$Reader" "open" "I" ∈ xT := xin 260 (by decide +kernel) rfl
section XN_X4_openBracket
variable {p : Program} {l : Launch} {e : Env} {R : Room} {s : State} {m : MethodId} {args : Array Value} {below : List Frame} {meth : Method} {c : Code} {H H0 : Heap} {locs : List Loc} {cells slots : Nat} {Q : State → Prop} {cc : ByteArray} {nL pc : Nat} {rt : Option FieldType} {ls : Array Slot} {rest : List Value} {D : xD} {ty : xTy} {h : xH}
theorem gf_X4_18 {a : Nat} (C0 : xC D RX4 cc nL rt p s m args meth c) (hR : xRep D ty h H) (ht : ty a = some (0, 4)) {v : Nat} (hv : xR h a 1 = some v) (hdg : decode cc pc = .ok (.getfield 18, 3)) (kk : W p l e R s m args below meth c H locs cells slots Q (F0 m (pc + 3) ls (.ref v :: rest))) : W p l e R s m args below meth c H locs cells slots Q (F0 m pc ls (.ref a :: rest)) := x_get C0 hR (ci := 4) (k := 1) (N := 5) (T := TX4) rfl iX4 (by decide) rfl wf_X4_18 (by show va_rf (xR h a 1) = _; rw [hv]; rfl) ht hdg kk
theorem gf_X4_22 {a : Nat} (C0 : xC D RX4 cc nL rt p s m args meth c) (hR : xRep D ty h H) (ht : ty a = some (0, 4)) (hdg : decode cc pc = .ok (.getfield 22, 3)) (kk : W p l e R s m args below meth c H locs cells slots Q (F0 m (pc + 3) ls (.int (xI h a 2) :: rest))) : W p l e R s m args below meth c H locs cells slots Q (F0 m pc ls (.ref a :: rest)) := x_get C0 hR (ci := 4) (k := 2) (N := 5) (T := TX4) rfl iX4 (by decide) rfl wf_X4_22 rfl ht hdg kk
theorem pf_X4_22 {a : Nat} {v : Int32} (C0 : xC D RX4 cc nL rt p s m args meth c) (hR : xRep D ty h H) (hS : xS ty H0 H locs) (ht : ty a = some (0, 4)) (hdg : decode cc pc = .ok (.putfield 22, 3)) (kk : ∀ (H1 : Heap) (locs1 : List Loc), xRep D ty (xsI h a 2 v) H1 → xS ty H0 H1 locs1 → W p l e R s m args below meth c H1 locs1 cells slots Q (F0 m (pc + 3) ls rest)) : W p l e R s m args below meth c H locs cells slots Q (F0 m pc ls (.int v :: .ref a :: rest)) := x_puti C0 hR hS (ci := 4) (k := 2) (N := 5) (T := TX4) rfl iX4 tyX4_ok nmX4 (by decide) rfl rfl wf_X4_22 (Or.inl rfl) rfl rfl ht hdg kk
end XN_X4_openBracket
set_option maxHeartbeats 4000000 in
set_option maxRecDepth 100000 in
theorem jc_X4_openBracket {l : Launch} {D : xD} {ty : xTy} {h : xH} {v0 : Nat} {v1 : Int32} {r : Int32} {h9 : xH} (t_v0 : ty v0 = some (0, 4)) (hF : jf_X4_openBracket ty h v0 v1 = some (r, h9)) : Met l yX4_openBracket (xws yX4_openBracket cX4_openBracket 2 (some .boolean)) jr_X4_openBracket (xPc D ty h [.ref v0, .int v1]) (xQ D ty (some (.int r)) h9) 0 0 (xdom ty) := by
  refine x_met (by decide) ?_
  intro p e s m below meth c C0 hR
  generalize hargs : ([.ref v0, .int v1] : List Value).toArray = args at C0 ⊢
  have hx := C0.1
  have hb := C0.2.1
  have hown := C0.2.2.2.2.2.1
  have hts := C0.2.2.2.2.2.2.1
  have hS : xS ty s.heap s.heap [] := xS.rf
  have hl := lv_entry ([.ref v0, .int v1]) (n := 2) (Nat.le_of_ble_eq_true rfl)
  rw [← hargs, lg_entry_eq]
  rw [hargs]
  generalize (lg_sl ([.ref v0, .int v1]) ++ List.replicate (2 - (lg_sl ([.ref v0, .int v1])).length) Slot.unset).toArray = ls at hl ⊢
  have hl : lv_has ls 2 [(0, .ref v0), (1, .int v1)] := hl
  unfold jf_X4_openBracket at hF
  refine lv_aload_n hx hb dX4_openBracket_0 rfl (lv_at hl 0 rfl) ?_
  refine gf_X4_22 C0 hR t_v0 dX4_openBracket_1 ?_
  refine lv_if_lt (tgt := 16) hx hb dX4_openBracket_4 (by decide) (fun c1 => ?_) (fun c1 => ?_)
  · have hF := xif hF c1
    refine lv_iconst (v := 0) hx hb dX4_openBracket_16 (by decide) ?_
    cases hF
    exact x_zret (w := 0) C0 hR hS (by decide) dX4_openBracket_17
  · have hF := xel hF c1
    refine lv_aload_n hx hb dX4_openBracket_7 rfl (lv_at hl 0 rfl) ?_
    refine gf_X4_22 C0 hR t_v0 dX4_openBracket_8 ?_
    refine lv_bipush (v := 12) hx hb dX4_openBracket_11 (by decide) ?_
    refine lv_icmp_lt (tgt := 18) hx hb dX4_openBracket_13 (by decide) (fun c2 => ?_) (fun c2 => ?_)
    · have hF := xif hF c2
      refine lv_aload_n hx hb dX4_openBracket_18 rfl (lv_at hl 0 rfl) ?_
      obtain ⟨a3, e_a3, hF⟩ := xbd hF
      refine gf_X4_18 C0 hR t_v0 e_a3 dX4_openBracket_19 ?_
      refine lv_aload_n hx hb dX4_openBracket_22 rfl (lv_at hl 0 rfl) ?_
      refine gf_X4_22 C0 hR t_v0 dX4_openBracket_23 ?_
      refine lv_iload_n hx hb dX4_openBracket_26 rfl (lv_at hl 1 rfl) ?_
      obtain ⟨h4, e_h4, hF⟩ := xbd hF
      refine x_iast C0 hR hS e_h4 dX4_openBracket_27 (fun H locs hR hS => ?_)
      refine lv_aload_n hx hb dX4_openBracket_28 rfl (lv_at hl 0 rfl) ?_
      refine lv_dup hx hb dX4_openBracket_29 rfl ?_
      refine gf_X4_22 C0 hR t_v0 dX4_openBracket_30 ?_
      refine lv_iconst (v := 1) hx hb dX4_openBracket_33 (by decide) ?_
      refine lv_iadd hx hb dX4_openBracket_34 ?_
      obtain ⟨h5, e_h5, hF⟩ := xbd hF
      refine pf_X4_22 C0 hR hS t_v0 dX4_openBracket_35 (fun H locs hR hS => ?_)
      rw [Option.some.inj e_h5] at hR
      refine lv_iconst (v := 1) hx hb dX4_openBracket_38 (by decide) ?_
      cases hF
      exact x_zret (w := 1) C0 hR hS (by decide) dX4_openBracket_39
    · have hF := xel hF c2
      refine lv_iconst (v := 0) hx hb dX4_openBracket_16 (by decide) ?_
      cases hF
      exact x_zret (w := 0) C0 hR hS (by decide) dX4_openBracket_17
theorem xm_X4_openBracket : xMw yX4_openBracket cX4_openBracket 2 (some .boolean) 1 := ⟨xin 668 (by decide +kernel) rfl, xin 117 (by decide +kernel) rfl, by decide +kernel⟩
theorem xi_X4_openBracket : Cond.instanceMethod yX4_openBracket ∈ xT := xin 667 (by decide +kernel) rfl
theorem xe_X4_openBracket : Cond.selects yX4_openBracket.cls yX4_openBracket yX4_openBracket ∈ xT := xin 16 (by decide +kernel) rfl
theorem dX4_closeBrackets_0 : decode cX4_closeBrackets 0 = .ok (.aload_n 1, 1) := by decide +kernel
theorem dX4_closeBrackets_1 : decode cX4_closeBrackets 1 = .ok (.aload_n 1, 1) := by decide +kernel
theorem dX4_closeBrackets_2 : decode cX4_closeBrackets 2 = .ok (.getfield 127, 3) := by decide +kernel
theorem dX4_closeBrackets_5 : decode cX4_closeBrackets 5 = .ok (.iconst 1, 1) := by decide +kernel
theorem dX4_closeBrackets_6 : decode cX4_closeBrackets 6 = .ok (.isub, 1) := by decide +kernel
theorem dX4_closeBrackets_7 : decode cX4_closeBrackets 7 = .ok (.invokevirtual 140, 3) := by decide +kernel
theorem dX4_closeBrackets_10 : decode cX4_closeBrackets 10 = .ok (.istore_n 2, 1) := by decide +kernel
theorem dX4_closeBrackets_11 : decode cX4_closeBrackets 11 = .ok (.iload_n 2, 1) := by decide +kernel
theorem dX4_closeBrackets_12 : decode cX4_closeBrackets 12 = .ok (.ifCond .le 26, 3) := by decide +kernel
theorem dX4_closeBrackets_15 : decode cX4_closeBrackets 15 = .ok (.aload_n 0, 1) := by decide +kernel
theorem dX4_closeBrackets_16 : decode cX4_closeBrackets 16 = .ok (.bipush 40, 2) := by decide +kernel
theorem dX4_closeBrackets_18 : decode cX4_closeBrackets 18 = .ok (.invokevirtual 48, 3) := by decide +kernel
theorem dX4_closeBrackets_21 : decode cX4_closeBrackets 21 = .ok (.ifCond .eq 15, 3) := by decide +kernel
theorem dX4_closeBrackets_24 : decode cX4_closeBrackets 24 = .ok (.aload_n 0, 1) := by decide +kernel
theorem dX4_closeBrackets_25 : decode cX4_closeBrackets 25 = .ok (.iload_n 2, 1) := by decide +kernel
theorem dX4_closeBrackets_26 : decode cX4_closeBrackets 26 = .ok (.invokevirtual 143, 3) := by decide +kernel
theorem dX4_closeBrackets_29 : decode cX4_closeBrackets 29 = .ok (.ifCond .eq 7, 3) := by decide +kernel
theorem dX4_closeBrackets_32 : decode cX4_closeBrackets 32 = .ok (.iconst 1, 1) := by decide +kernel
theorem dX4_closeBrackets_33 : decode cX4_closeBrackets 33 = .ok (.goto 4, 3) := by decide +kernel
theorem dX4_closeBrackets_36 : decode cX4_closeBrackets 36 = .ok (.iconst 0, 1) := by decide +kernel
theorem dX4_closeBrackets_37 : decode cX4_closeBrackets 37 = .ok (.ireturn, 1) := by decide +kernel
theorem dX4_closeBrackets_38 : decode cX4_closeBrackets 38 = .ok (.aload_n 0, 1) := by decide +kernel
theorem dX4_closeBrackets_39 : decode cX4_closeBrackets 39 = .ok (.getfield 22, 3) := by decide +kernel
theorem dX4_closeBrackets_42 : decode cX4_closeBrackets 42 = .ok (.ifCond .le 72, 3) := by decide +kernel
theorem dX4_closeBrackets_45 : decode cX4_closeBrackets 45 = .ok (.aload_n 0, 1) := by decide +kernel
theorem dX4_closeBrackets_46 : decode cX4_closeBrackets 46 = .ok (.getfield 22, 3) := by decide +kernel
theorem dX4_closeBrackets_49 : decode cX4_closeBrackets 49 = .ok (.bipush 12, 2) := by decide +kernel
theorem dX4_closeBrackets_51 : decode cX4_closeBrackets 51 = .ok (.if_icmp .gt 63, 3) := by decide +kernel
theorem dX4_closeBrackets_54 : decode cX4_closeBrackets 54 = .ok (.aload_n 0, 1) := by decide +kernel
theorem dX4_closeBrackets_55 : decode cX4_closeBrackets 55 = .ok (.getfield 18, 3) := by decide +kernel
theorem dX4_closeBrackets_58 : decode cX4_closeBrackets 58 = .ok (.aload_n 0, 1) := by decide +kernel
theorem dX4_closeBrackets_59 : decode cX4_closeBrackets 59 = .ok (.getfield 22, 3) := by decide +kernel
theorem dX4_closeBrackets_62 : decode cX4_closeBrackets 62 = .ok (.iconst 1, 1) := by decide +kernel
theorem dX4_closeBrackets_63 : decode cX4_closeBrackets 63 = .ok (.isub, 1) := by decide +kernel
theorem dX4_closeBrackets_64 : decode cX4_closeBrackets 64 = .ok (.dup2, 1) := by decide +kernel
theorem dX4_closeBrackets_65 : decode cX4_closeBrackets 65 = .ok (.iaload, 1) := by decide +kernel
theorem dX4_closeBrackets_66 : decode cX4_closeBrackets 66 = .ok (.iconst 1, 1) := by decide +kernel
theorem dX4_closeBrackets_67 : decode cX4_closeBrackets 67 = .ok (.isub, 1) := by decide +kernel
theorem dX4_closeBrackets_68 : decode cX4_closeBrackets 68 = .ok (.iastore, 1) := by decide +kernel
theorem dX4_closeBrackets_69 : decode cX4_closeBrackets 69 = .ok (.aload_n 0, 1) := by decide +kernel
theorem dX4_closeBrackets_70 : decode cX4_closeBrackets 70 = .ok (.getfield 18, 3) := by decide +kernel
theorem dX4_closeBrackets_73 : decode cX4_closeBrackets 73 = .ok (.aload_n 0, 1) := by decide +kernel
theorem dX4_closeBrackets_74 : decode cX4_closeBrackets 74 = .ok (.getfield 22, 3) := by decide +kernel
theorem dX4_closeBrackets_77 : decode cX4_closeBrackets 77 = .ok (.iconst 1, 1) := by decide +kernel
theorem dX4_closeBrackets_78 : decode cX4_closeBrackets 78 = .ok (.isub, 1) := by decide +kernel
theorem dX4_closeBrackets_79 : decode cX4_closeBrackets 79 = .ok (.iaload, 1) := by decide +kernel
theorem dX4_closeBrackets_80 : decode cX4_closeBrackets 80 = .ok (.ifCond .le 10, 3) := by decide +kernel
theorem dX4_closeBrackets_83 : decode cX4_closeBrackets 83 = .ok (.aload_n 0, 1) := by decide +kernel
theorem dX4_closeBrackets_84 : decode cX4_closeBrackets 84 = .ok (.bipush 44, 2) := by decide +kernel
theorem dX4_closeBrackets_86 : decode cX4_closeBrackets 86 = .ok (.invokevirtual 48, 3) := by decide +kernel
theorem dX4_closeBrackets_89 : decode cX4_closeBrackets 89 = .ok (.ireturn, 1) := by decide +kernel
theorem dX4_closeBrackets_90 : decode cX4_closeBrackets 90 = .ok (.aload_n 0, 1) := by decide +kernel
theorem dX4_closeBrackets_91 : decode cX4_closeBrackets 91 = .ok (.bipush 41, 2) := by decide +kernel
theorem dX4_closeBrackets_93 : decode cX4_closeBrackets 93 = .ok (.invokevirtual 48, 3) := by decide +kernel
theorem dX4_closeBrackets_96 : decode cX4_closeBrackets 96 = .ok (.ifCond .ne 5, 3) := by decide +kernel
theorem dX4_closeBrackets_99 : decode cX4_closeBrackets 99 = .ok (.iconst 0, 1) := by decide +kernel
theorem dX4_closeBrackets_100 : decode cX4_closeBrackets 100 = .ok (.ireturn, 1) := by decide +kernel
theorem dX4_closeBrackets_101 : decode cX4_closeBrackets 101 = .ok (.aload_n 0, 1) := by decide +kernel
theorem dX4_closeBrackets_102 : decode cX4_closeBrackets 102 = .ok (.dup, 1) := by decide +kernel
theorem dX4_closeBrackets_103 : decode cX4_closeBrackets 103 = .ok (.getfield 22, 3) := by decide +kernel
theorem dX4_closeBrackets_106 : decode cX4_closeBrackets 106 = .ok (.iconst 1, 1) := by decide +kernel
theorem dX4_closeBrackets_107 : decode cX4_closeBrackets 107 = .ok (.isub, 1) := by decide +kernel
theorem dX4_closeBrackets_108 : decode cX4_closeBrackets 108 = .ok (.putfield 22, 3) := by decide +kernel
theorem dX4_closeBrackets_111 : decode cX4_closeBrackets 111 = .ok (.goto (-73), 3) := by decide +kernel
theorem dX4_closeBrackets_114 : decode cX4_closeBrackets 114 = .ok (.iconst 1, 1) := by decide +kernel
theorem dX4_closeBrackets_115 : decode cX4_closeBrackets 115 = .ok (.ireturn, 1) := by decide +kernel
theorem wl_X4_140 : Cond.methodLink RX4 140 yX7_arityAt ∈ xT := xin 661 (by decide +kernel) rfl
theorem wl_X4_143 : Cond.methodLink RX4 143 yX4_openBracket ∈ xT := xin 665 (by decide +kernel) rfl
section XN_X4_closeBrackets
variable {p : Program} {l : Launch} {e : Env} {R : Room} {s : State} {m : MethodId} {args : Array Value} {below : List Frame} {meth : Method} {c : Code} {H H0 : Heap} {locs : List Loc} {cells slots : Nat} {Q : State → Prop} {cc : ByteArray} {nL pc : Nat} {rt : Option FieldType} {ls : Array Slot} {rest : List Value} {D : xD} {ty : xTy} {h : xH}
theorem cl_X4_140 {v0 : Nat} {v1 : Int32} {r : Int32} (C0 : xC D RX4 cc nL rt p s m args meth c) (hR : xRep D ty h H) (hS : xS ty H0 H locs) (hF : jf_X7_arityAt ty h v0 v1 = some r) (t_v0 : ty v0 = some (0, 7)) (hrm : jr_X7_arityAt.frames + 1 ≤ R.frames ∧ 8 + (2 + 11) + jr_X7_arityAt.locals ≤ R.locals) (hsz : ls.size = nL) (hW : (rest.map fun v => v.category).sum ≤ 8) (hf : cells ≤ R.cells ∧ slots ≤ R.slots) (hdg : decode cc pc = .ok (.invokevirtual 140, 3)) (kk : ∀ (H1 : Heap) (locs1 : List Loc), xRep D ty h H1 → xS ty H0 H1 locs1 → W p l e R s m args below meth c H1 locs1 cells slots Q (F0 m (pc + 3) ls (.int r :: rest))) : W p l e R s m args below meth c H locs cells slots Q (F0 m pc ls (.int v1 :: .ref v0 :: rest)) := x_callV C0 (jc_X7_arityAt t_v0 hF) xm_X7_arityAt xi_X7_arityAt xe_X7_arityAt wl_X4_140 ⟨rfl, rfl, hrm⟩ (ci := 7) rfl t_v0 hR hS (As := [.int v1]) rfl hsz rfl hW hdg hf kk
theorem cl_X4_143 {v0 : Nat} {v1 : Int32} {r : Int32} {h9 : xH} (C0 : xC D RX4 cc nL rt p s m args meth c) (hR : xRep D ty h H) (hS : xS ty H0 H locs) (hF : jf_X4_openBracket ty h v0 v1 = some (r, h9)) (t_v0 : ty v0 = some (0, 4)) (hrm : jr_X4_openBracket.frames + 1 ≤ R.frames ∧ 8 + (2 + 11) + jr_X4_openBracket.locals ≤ R.locals) (hsz : ls.size = nL) (hW : (rest.map fun v => v.category).sum ≤ 8) (hf : cells ≤ R.cells ∧ slots ≤ R.slots) (hdg : decode cc pc = .ok (.invokevirtual 143, 3)) (kk : ∀ (H1 : Heap) (locs1 : List Loc), xRep D ty h9 H1 → xS ty H0 H1 locs1 → W p l e R s m args below meth c H1 locs1 cells slots Q (F0 m (pc + 3) ls (.int r :: rest))) : W p l e R s m args below meth c H locs cells slots Q (F0 m pc ls (.int v1 :: .ref v0 :: rest)) := x_callV C0 (jc_X4_openBracket t_v0 hF) xm_X4_openBracket xi_X4_openBracket xe_X4_openBracket wl_X4_143 ⟨rfl, rfl, hrm⟩ (ci := 4) rfl t_v0 hR hS (As := [.int v1]) rfl hsz rfl hW hdg hf kk
end XN_X4_closeBrackets
set_option maxHeartbeats 4000000 in
set_option maxRecDepth 100000 in
theorem jw_X4_closeBrackets_38 {p : Program} {l : Launch} {e : Env} {s : State} {m : MethodId} {args : Array Value} {below : List Frame} {meth : Method} {c : Code} {D : xD} {ty : xTy} (C0 : xC D RX4 cX4_closeBrackets 3 (some .boolean) p s m args meth c) {r : Int32} {h9 : xH} : ∀ n : Nat, ∀ (v0 : Nat) (h : xH), ty v0 = some (0, 4) → jf_X4_closeBrackets_38 ty n v0 h = some (r, h9) → ∀ (H : Heap) (locs : List Loc), xRep D ty h H → xS ty s.heap H locs → ∀ ls : Array Slot, lv_has ls 3 [(0, .ref v0)] → W p l e jr_X4_closeBrackets s m args below meth c H locs 0 0 (MQ below (xQ D ty (some (.int r)) h9) args s 0 0 (xdom ty)) (F0 m 38 ls []) := by
  have hx := C0.1
  have hb := C0.2.1
  have hown := C0.2.2.2.2.2.1
  have hts := C0.2.2.2.2.2.2.1
  intro n
  induction n with
  | zero =>
    intro v0 h t_v0 hF H locs hR hS ls hl
    cases hF
  | succ n ih =>
    intro v0 h t_v0 hF H locs hR hS ls hl
    rw [jf_X4_closeBrackets_38_s] at hF
    refine lv_aload_n hx hb dX4_closeBrackets_38 rfl (lv_at hl 0 rfl) ?_
    refine gf_X4_22 C0 hR t_v0 dX4_closeBrackets_39 ?_
    refine lv_if_le (tgt := 114) hx hb dX4_closeBrackets_42 (by decide) (fun c1 => ?_) (fun c1 => ?_)
    · have hF := xif hF c1
      refine lv_iconst (v := 1) hx hb dX4_closeBrackets_114 (by decide) ?_
      cases hF
      exact x_zret (w := 1) C0 hR hS (by decide) dX4_closeBrackets_115
    · have hF := xel hF c1
      refine lv_aload_n hx hb dX4_closeBrackets_45 rfl (lv_at hl 0 rfl) ?_
      refine gf_X4_22 C0 hR t_v0 dX4_closeBrackets_46 ?_
      refine lv_bipush (v := 12) hx hb dX4_closeBrackets_49 (by decide) ?_
      refine lv_icmp_gt (tgt := 114) hx hb dX4_closeBrackets_51 (by decide) (fun c2 => ?_) (fun c2 => ?_)
      · have hF := xif hF c2
        refine lv_iconst (v := 1) hx hb dX4_closeBrackets_114 (by decide) ?_
        cases hF
        exact x_zret (w := 1) C0 hR hS (by decide) dX4_closeBrackets_115
      · have hF := xel hF c2
        refine lv_aload_n hx hb dX4_closeBrackets_54 rfl (lv_at hl 0 rfl) ?_
        obtain ⟨a3, e_a3, hF⟩ := xbd hF
        refine gf_X4_18 C0 hR t_v0 e_a3 dX4_closeBrackets_55 ?_
        refine lv_aload_n hx hb dX4_closeBrackets_58 rfl (lv_at hl 0 rfl) ?_
        refine gf_X4_22 C0 hR t_v0 dX4_closeBrackets_59 ?_
        refine lv_iconst (v := 1) hx hb dX4_closeBrackets_62 (by decide) ?_
        refine lv_isub hx hb dX4_closeBrackets_63 ?_
        refine lv_dup2_11 hx hb dX4_closeBrackets_64 rfl rfl ?_
        obtain ⟨a4, e_a4, hF⟩ := xbd hF
        refine x_iald C0 hR e_a4 dX4_closeBrackets_65 ?_
        refine lv_iconst (v := 1) hx hb dX4_closeBrackets_66 (by decide) ?_
        refine lv_isub hx hb dX4_closeBrackets_67 ?_
        obtain ⟨h5, e_h5, hF⟩ := xbd hF
        refine x_iast C0 hR hS e_h5 dX4_closeBrackets_68 (fun H locs hR hS => ?_)
        refine lv_aload_n hx hb dX4_closeBrackets_69 rfl (lv_at hl 0 rfl) ?_
        obtain ⟨a6, e_a6, hF⟩ := xbd hF
        refine gf_X4_18 C0 hR t_v0 e_a6 dX4_closeBrackets_70 ?_
        refine lv_aload_n hx hb dX4_closeBrackets_73 rfl (lv_at hl 0 rfl) ?_
        refine gf_X4_22 C0 hR t_v0 dX4_closeBrackets_74 ?_
        refine lv_iconst (v := 1) hx hb dX4_closeBrackets_77 (by decide) ?_
        refine lv_isub hx hb dX4_closeBrackets_78 ?_
        obtain ⟨a7, e_a7, hF⟩ := xbd hF
        refine x_iald C0 hR e_a7 dX4_closeBrackets_79 ?_
        refine lv_if_le (tgt := 90) hx hb dX4_closeBrackets_80 (by decide) (fun c8 => ?_) (fun c8 => ?_)
        · have hF := xif hF c8
          refine lv_aload_n hx hb dX4_closeBrackets_90 rfl (lv_at hl 0 rfl) ?_
          refine lv_bipush (v := 41) hx hb dX4_closeBrackets_91 (by decide) ?_
          obtain ⟨a10, h9, e_h9, hF⟩ := xbd2 hF
          refine cl_X4_48 C0 hR hS e_h9 t_v0 ⟨(Nat.le_of_ble_eq_true rfl), (Nat.le_of_ble_eq_true rfl)⟩ hl.1 (Nat.le_of_ble_eq_true rfl) ⟨(Nat.le_of_ble_eq_true rfl), (Nat.le_of_ble_eq_true rfl)⟩ dX4_closeBrackets_93 (fun H locs hR hS => ?_)
          refine lv_if_ne (tgt := 101) hx hb dX4_closeBrackets_96 (by decide) (fun c11 => ?_) (fun c11 => ?_)
          · have hF := xel hF c11
            refine lv_aload_n hx hb dX4_closeBrackets_101 rfl (lv_at hl 0 rfl) ?_
            refine lv_dup hx hb dX4_closeBrackets_102 rfl ?_
            refine gf_X4_22 C0 hR t_v0 dX4_closeBrackets_103 ?_
            refine lv_iconst (v := 1) hx hb dX4_closeBrackets_106 (by decide) ?_
            refine lv_isub hx hb dX4_closeBrackets_107 ?_
            obtain ⟨h12, e_h12, hF⟩ := xbd hF
            refine pf_X4_22 C0 hR hS t_v0 dX4_closeBrackets_108 (fun H locs hR hS => ?_)
            rw [Option.some.inj e_h12] at hR
            refine lv_goto (tgt := 38) hx hb dX4_closeBrackets_111 (by decide) ?_
            exact ih _ _ t_v0 hF _ _ hR hS _ (lv_sub hl [0] rfl)
          · have hF := xif hF c11
            refine lv_iconst (v := 0) hx hb dX4_closeBrackets_99 (by decide) ?_
            cases hF
            exact x_zret (w := 0) C0 hR hS (by decide) dX4_closeBrackets_100
        · have hF := xel hF c8
          refine lv_aload_n hx hb dX4_closeBrackets_83 rfl (lv_at hl 0 rfl) ?_
          refine lv_bipush (v := 44) hx hb dX4_closeBrackets_84 (by decide) ?_
          obtain ⟨a14, h13, e_h13, hF⟩ := xbd2 hF
          refine cl_X4_48 C0 hR hS e_h13 t_v0 ⟨(Nat.le_of_ble_eq_true rfl), (Nat.le_of_ble_eq_true rfl)⟩ hl.1 (Nat.le_of_ble_eq_true rfl) ⟨(Nat.le_of_ble_eq_true rfl), (Nat.le_of_ble_eq_true rfl)⟩ dX4_closeBrackets_86 (fun H locs hR hS => ?_)
          obtain ⟨w15, e_w15, hF⟩ := xbd hF
          cases hF
          exact x_zret C0 hR hS e_w15 dX4_closeBrackets_89
set_option maxHeartbeats 4000000 in
set_option maxRecDepth 100000 in
theorem jc_X4_closeBrackets {l : Launch} {D : xD} {ty : xTy} {h : xH} {v0 : Nat} {v1 : Nat} {r : Int32} {h9 : xH} (t_v0 : ty v0 = some (0, 4)) (t_v1 : ty v1 = some (0, 7)) (hF : jf_X4_closeBrackets ty h v0 v1 = some (r, h9)) : Met l yX4_closeBrackets (xws yX4_closeBrackets cX4_closeBrackets 3 (some .boolean)) jr_X4_closeBrackets (xPc D ty h [.ref v0, .ref v1]) (xQ D ty (some (.int r)) h9) 0 0 (xdom ty) := by
  refine x_met (by decide) ?_
  intro p e s m below meth c C0 hR
  generalize hargs : ([.ref v0, .ref v1] : List Value).toArray = args at C0 ⊢
  have hx := C0.1
  have hb := C0.2.1
  have hown := C0.2.2.2.2.2.1
  have hts := C0.2.2.2.2.2.2.1
  have hS : xS ty s.heap s.heap [] := xS.rf
  have hl := lv_entry ([.ref v0, .ref v1]) (n := 3) (Nat.le_of_ble_eq_true rfl)
  rw [← hargs, lg_entry_eq]
  rw [hargs]
  generalize (lg_sl ([.ref v0, .ref v1]) ++ List.replicate (3 - (lg_sl ([.ref v0, .ref v1])).length) Slot.unset).toArray = ls at hl ⊢
  have hl : lv_has ls 3 [(0, .ref v0), (1, .ref v1)] := hl
  unfold jf_X4_closeBrackets at hF
  refine lv_aload_n hx hb dX4_closeBrackets_0 rfl (lv_at hl 1 rfl) ?_
  refine lv_aload_n hx hb dX4_closeBrackets_1 rfl (lv_at hl 1 rfl) ?_
  refine gf_X4_127 C0 hR t_v1 dX4_closeBrackets_2 ?_
  refine lv_iconst (v := 1) hx hb dX4_closeBrackets_5 (by decide) ?_
  refine lv_isub hx hb dX4_closeBrackets_6 ?_
  obtain ⟨a16, e_a16, hF⟩ := xbd hF
  refine cl_X4_140 C0 hR hS e_a16 t_v1 ⟨(Nat.le_of_ble_eq_true rfl), (Nat.le_of_ble_eq_true rfl)⟩ hl.1 (Nat.le_of_ble_eq_true rfl) ⟨(Nat.le_of_ble_eq_true rfl), (Nat.le_of_ble_eq_true rfl)⟩ dX4_closeBrackets_7 (fun H locs hR hS => ?_)
  refine lv_istore_n (lv' := [(2, .int a16), (0, .ref v0), (1, .ref v1)]) hx hb dX4_closeBrackets_10 rfl hl (by decide) rfl (fun ls hl => ?_)
  refine lv_iload_n hx hb dX4_closeBrackets_11 rfl (lv_at hl 0 rfl) ?_
  refine lv_if_le (tgt := 38) hx hb dX4_closeBrackets_12 (by decide) (fun c17 => ?_) (fun c17 => ?_)
  · have hF := xif hF c17
    obtain ⟨_, hF⟩ := xlim_sp hF
    exact jw_X4_closeBrackets_38 C0 _ _ _ t_v0 hF _ _ hR hS _ (lv_sub hl [1] rfl)
  · have hF := xel hF c17
    refine lv_aload_n hx hb dX4_closeBrackets_15 rfl (lv_at hl 1 rfl) ?_
    refine lv_bipush (v := 40) hx hb dX4_closeBrackets_16 (by decide) ?_
    obtain ⟨a19, h18, e_h18, hF⟩ := xbd2 hF
    refine cl_X4_48 C0 hR hS e_h18 t_v0 ⟨(Nat.le_of_ble_eq_true rfl), (Nat.le_of_ble_eq_true rfl)⟩ hl.1 (Nat.le_of_ble_eq_true rfl) ⟨(Nat.le_of_ble_eq_true rfl), (Nat.le_of_ble_eq_true rfl)⟩ dX4_closeBrackets_18 (fun H locs hR hS => ?_)
    refine lv_if_eq (tgt := 36) hx hb dX4_closeBrackets_21 (by decide) (fun c20 => ?_) (fun c20 => ?_)
    · have hF := xif hF c20
      refine lv_iconst (v := 0) hx hb dX4_closeBrackets_36 (by decide) ?_
      cases hF
      exact x_zret (w := 0) C0 hR hS (by decide) dX4_closeBrackets_37
    · have hF := xel hF c20
      refine lv_aload_n hx hb dX4_closeBrackets_24 rfl (lv_at hl 1 rfl) ?_
      refine lv_iload_n hx hb dX4_closeBrackets_25 rfl (lv_at hl 0 rfl) ?_
      obtain ⟨a22, h21, e_h21, hF⟩ := xbd2 hF
      refine cl_X4_143 C0 hR hS e_h21 t_v0 ⟨(Nat.le_of_ble_eq_true rfl), (Nat.le_of_ble_eq_true rfl)⟩ hl.1 (Nat.le_of_ble_eq_true rfl) ⟨(Nat.le_of_ble_eq_true rfl), (Nat.le_of_ble_eq_true rfl)⟩ dX4_closeBrackets_26 (fun H locs hR hS => ?_)
      refine lv_if_eq (tgt := 36) hx hb dX4_closeBrackets_29 (by decide) (fun c23 => ?_) (fun c23 => ?_)
      · have hF := xif hF c23
        refine lv_iconst (v := 0) hx hb dX4_closeBrackets_36 (by decide) ?_
        cases hF
        exact x_zret (w := 0) C0 hR hS (by decide) dX4_closeBrackets_37
      · have hF := xel hF c23
        refine lv_iconst (v := 1) hx hb dX4_closeBrackets_32 (by decide) ?_
        refine lv_goto (tgt := 37) hx hb dX4_closeBrackets_33 (by decide) ?_
        cases hF
        exact x_zret (w := 1) C0 hR hS (by decide) dX4_closeBrackets_37
theorem xm_X4_closeBrackets : xMw yX4_closeBrackets cX4_closeBrackets 3 (some .boolean) 1 := ⟨xin 660 (by decide +kernel) rfl, xin 117 (by decide +kernel) rfl, by decide +kernel⟩
theorem xi_X4_closeBrackets : Cond.instanceMethod yX4_closeBrackets ∈ xT := xin 659 (by decide +kernel) rfl
theorem xe_X4_closeBrackets : Cond.selects yX4_closeBrackets.cls yX4_closeBrackets yX4_closeBrackets ∈ xT := xin 15 (by decide +kernel) rfl
theorem dX4_readTerm_0 : decode cX4_readTerm 0 = .ok (.aload_n 2, 1) := by decide +kernel
theorem dX4_readTerm_1 : decode cX4_readTerm 1 = .ok (.invokevirtual 114, 3) := by decide +kernel
theorem dX4_readTerm_4 : decode cX4_readTerm 4 = .ok (.aload_n 0, 1) := by decide +kernel
theorem dX4_readTerm_5 : decode cX4_readTerm 5 = .ok (.iconst 0, 1) := by decide +kernel
theorem dX4_readTerm_6 : decode cX4_readTerm 6 = .ok (.putfield 22, 3) := by decide +kernel
theorem dX4_readTerm_9 : decode cX4_readTerm 9 = .ok (.iconst 1, 1) := by decide +kernel
theorem dX4_readTerm_10 : decode cX4_readTerm 10 = .ok (.istore 5, 2) := by decide +kernel
theorem dX4_readTerm_12 : decode cX4_readTerm 12 = .ok (.iconst 0, 1) := by decide +kernel
theorem dX4_readTerm_13 : decode cX4_readTerm 13 = .ok (.istore 6, 2) := by decide +kernel
theorem dX4_readTerm_15 : decode cX4_readTerm 15 = .ok (.iload 6, 2) := by decide +kernel
theorem dX4_readTerm_17 : decode cX4_readTerm 17 = .ok (.bipush 12, 2) := by decide +kernel
theorem dX4_readTerm_19 : decode cX4_readTerm 19 = .ok (.if_icmp .gt 50, 3) := by decide +kernel
theorem dX4_readTerm_22 : decode cX4_readTerm 22 = .ok (.iload 5, 2) := by decide +kernel
theorem dX4_readTerm_24 : decode cX4_readTerm 24 = .ok (.ifCond .eq 45, 3) := by decide +kernel
theorem dX4_readTerm_27 : decode cX4_readTerm 27 = .ok (.aload_n 0, 1) := by decide +kernel
theorem dX4_readTerm_28 : decode cX4_readTerm 28 = .ok (.aload_n 1, 1) := by decide +kernel
theorem dX4_readTerm_29 : decode cX4_readTerm 29 = .ok (.aload_n 2, 1) := by decide +kernel
theorem dX4_readTerm_30 : decode cX4_readTerm 30 = .ok (.aload_n 3, 1) := by decide +kernel
theorem dX4_readTerm_31 : decode cX4_readTerm 31 = .ok (.iload 4, 2) := by decide +kernel
theorem dX4_readTerm_33 : decode cX4_readTerm 33 = .ok (.invokevirtual 120, 3) := by decide +kernel
theorem dX4_readTerm_36 : decode cX4_readTerm 36 = .ok (.ifCond .eq 11, 3) := by decide +kernel
theorem dX4_readTerm_39 : decode cX4_readTerm 39 = .ok (.aload_n 0, 1) := by decide +kernel
theorem dX4_readTerm_40 : decode cX4_readTerm 40 = .ok (.aload_n 2, 1) := by decide +kernel
theorem dX4_readTerm_41 : decode cX4_readTerm 41 = .ok (.invokevirtual 123, 3) := by decide +kernel
theorem dX4_readTerm_44 : decode cX4_readTerm 44 = .ok (.ifCond .ne 5, 3) := by decide +kernel
theorem dX4_readTerm_47 : decode cX4_readTerm 47 = .ok (.iconst 0, 1) := by decide +kernel
theorem dX4_readTerm_48 : decode cX4_readTerm 48 = .ok (.ireturn, 1) := by decide +kernel
theorem dX4_readTerm_49 : decode cX4_readTerm 49 = .ok (.aload_n 0, 1) := by decide +kernel
theorem dX4_readTerm_50 : decode cX4_readTerm 50 = .ok (.getfield 22, 3) := by decide +kernel
theorem dX4_readTerm_53 : decode cX4_readTerm 53 = .ok (.ifCond .le 7, 3) := by decide +kernel
theorem dX4_readTerm_56 : decode cX4_readTerm 56 = .ok (.iconst 1, 1) := by decide +kernel
theorem dX4_readTerm_57 : decode cX4_readTerm 57 = .ok (.goto 4, 3) := by decide +kernel
theorem dX4_readTerm_60 : decode cX4_readTerm 60 = .ok (.iconst 0, 1) := by decide +kernel
theorem dX4_readTerm_61 : decode cX4_readTerm 61 = .ok (.istore 5, 2) := by decide +kernel
theorem dX4_readTerm_63 : decode cX4_readTerm 63 = .ok (.iinc 6 1, 3) := by decide +kernel
theorem dX4_readTerm_66 : decode cX4_readTerm 66 = .ok (.goto (-51), 3) := by decide +kernel
theorem dX4_readTerm_69 : decode cX4_readTerm 69 = .ok (.iconst 1, 1) := by decide +kernel
theorem dX4_readTerm_70 : decode cX4_readTerm 70 = .ok (.ireturn, 1) := by decide +kernel
theorem wl_X4_114 : Cond.methodLink RX4 114 yX7_clear ∈ xT := xin 629 (by decide +kernel) rfl
theorem wl_X4_120 : Cond.methodLink RX4 120 yX4_readPlace ∈ xT := xin 637 (by decide +kernel) rfl
theorem wl_X4_123 : Cond.methodLink RX4 123 yX4_closeBrackets ∈ xT := xin 657 (by decide +kernel) rfl
section XN_X4_readTerm
variable {p : Program} {l : Launch} {e : Env} {R : Room} {s : State} {m : MethodId} {args : Array Value} {below : List Frame} {meth : Method} {c : Code} {H H0 : Heap} {locs : List Loc} {cells slots : Nat} {Q : State → Prop} {cc : ByteArray} {nL pc : Nat} {rt : Option FieldType} {ls : Array Slot} {rest : List Value} {D : xD} {ty : xTy} {h : xH}
theorem cl_X4_114 {v0 : Nat} {h9 : xH} (C0 : xC D RX4 cc nL rt p s m args meth c) (hR : xRep D ty h H) (hS : xS ty H0 H locs) (hF : jf_X7_clear ty h v0 = some h9) (t_v0 : ty v0 = some (0, 7)) (hrm : jr_X7_clear.frames + 1 ≤ R.frames ∧ 8 + (1 + 11) + jr_X7_clear.locals ≤ R.locals) (hsz : ls.size = nL) (hW : (rest.map fun v => v.category).sum ≤ 8) (hf : cells ≤ R.cells ∧ slots ≤ R.slots) (hdg : decode cc pc = .ok (.invokevirtual 114, 3)) (kk : ∀ (H1 : Heap) (locs1 : List Loc), xRep D ty h9 H1 → xS ty H0 H1 locs1 → W p l e R s m args below meth c H1 locs1 cells slots Q (F0 m (pc + 3) ls rest)) : W p l e R s m args below meth c H locs cells slots Q (F0 m pc ls (.ref v0 :: rest)) := x_callV C0 (jc_X7_clear t_v0 hF) xm_X7_clear xi_X7_clear xe_X7_clear wl_X4_114 ⟨rfl, rfl, hrm⟩ (ci := 7) rfl t_v0 hR hS (As := []) rfl hsz rfl hW hdg hf kk
theorem cl_X4_120 {v0 : Nat} {v1 : Nat} {v2 : Nat} {v3 : Nat} {v4 : Int32} {r : Int32} {h9 : xH} (C0 : xC D RX4 cc nL rt p s m args meth c) (hR : xRep D ty h H) (hS : xS ty H0 H locs) (hF : jf_X4_readPlace ty h v0 v1 v2 v3 v4 = some (r, h9)) (t_v0 : ty v0 = some (0, 4)) (t_v1 : ty v1 = some (0, 0)) (t_v2 : ty v2 = some (0, 7)) (t_v3 : ty v3 = some (0, 7)) (hrm : jr_X4_readPlace.frames + 1 ≤ R.frames ∧ 8 + (6 + 11) + jr_X4_readPlace.locals ≤ R.locals) (hsz : ls.size = nL) (hW : (rest.map fun v => v.category).sum ≤ 8) (hf : cells ≤ R.cells ∧ slots ≤ R.slots) (hdg : decode cc pc = .ok (.invokevirtual 120, 3)) (kk : ∀ (H1 : Heap) (locs1 : List Loc), xRep D ty h9 H1 → xS ty H0 H1 locs1 → W p l e R s m args below meth c H1 locs1 cells slots Q (F0 m (pc + 3) ls (.int r :: rest))) : W p l e R s m args below meth c H locs cells slots Q (F0 m pc ls (.int v4 :: .ref v3 :: .ref v2 :: .ref v1 :: .ref v0 :: rest)) := x_callV C0 (jc_X4_readPlace t_v0 t_v1 t_v2 t_v3 hF) xm_X4_readPlace xi_X4_readPlace xe_X4_readPlace wl_X4_120 ⟨rfl, rfl, hrm⟩ (ci := 4) rfl t_v0 hR hS (As := [.ref v1, .ref v2, .ref v3, .int v4]) rfl hsz rfl hW hdg hf kk
theorem cl_X4_123 {v0 : Nat} {v1 : Nat} {r : Int32} {h9 : xH} (C0 : xC D RX4 cc nL rt p s m args meth c) (hR : xRep D ty h H) (hS : xS ty H0 H locs) (hF : jf_X4_closeBrackets ty h v0 v1 = some (r, h9)) (t_v0 : ty v0 = some (0, 4)) (t_v1 : ty v1 = some (0, 7)) (hrm : jr_X4_closeBrackets.frames + 1 ≤ R.frames ∧ 8 + (3 + 11) + jr_X4_closeBrackets.locals ≤ R.locals) (hsz : ls.size = nL) (hW : (rest.map fun v => v.category).sum ≤ 8) (hf : cells ≤ R.cells ∧ slots ≤ R.slots) (hdg : decode cc pc = .ok (.invokevirtual 123, 3)) (kk : ∀ (H1 : Heap) (locs1 : List Loc), xRep D ty h9 H1 → xS ty H0 H1 locs1 → W p l e R s m args below meth c H1 locs1 cells slots Q (F0 m (pc + 3) ls (.int r :: rest))) : W p l e R s m args below meth c H locs cells slots Q (F0 m pc ls (.ref v1 :: .ref v0 :: rest)) := x_callV C0 (jc_X4_closeBrackets t_v0 t_v1 hF) xm_X4_closeBrackets xi_X4_closeBrackets xe_X4_closeBrackets wl_X4_123 ⟨rfl, rfl, hrm⟩ (ci := 4) rfl t_v0 hR hS (As := [.ref v1]) rfl hsz rfl hW hdg hf kk
end XN_X4_readTerm
set_option maxHeartbeats 4000000 in
set_option maxRecDepth 100000 in
theorem jw_X4_readTerm_15 {p : Program} {l : Launch} {e : Env} {s : State} {m : MethodId} {args : Array Value} {below : List Frame} {meth : Method} {c : Code} {D : xD} {ty : xTy} (C0 : xC D RX4 cX4_readTerm 7 (some .boolean) p s m args meth c) {r : Int32} {h9 : xH} : ∀ n : Nat, ∀ (v0 : Nat) (v1 : Nat) (v2 : Nat) (v3 : Nat) (v4 : Int32) (v5 : Int32) (v6 : Int32) (h : xH), ty v0 = some (0, 4) → ty v1 = some (0, 0) → ty v2 = some (0, 7) → ty v3 = some (0, 7) → jf_X4_readTerm_15 ty n v0 v1 v2 v3 v4 v5 v6 h = some (r, h9) → ∀ (H : Heap) (locs : List Loc), xRep D ty h H → xS ty s.heap H locs → ∀ ls : Array Slot, lv_has ls 7 [(0, .ref v0), (1, .ref v1), (2, .ref v2), (3, .ref v3), (4, .int v4), (5, .int v5), (6, .int v6)] → W p l e jr_X4_readTerm s m args below meth c H locs 0 0 (MQ below (xQ D ty (some (.int r)) h9) args s 0 0 (xdom ty)) (F0 m 15 ls []) := by
  have hx := C0.1
  have hb := C0.2.1
  have hown := C0.2.2.2.2.2.1
  have hts := C0.2.2.2.2.2.2.1
  intro n
  induction n with
  | zero =>
    intro v0 v1 v2 v3 v4 v5 v6 h t_v0 t_v1 t_v2 t_v3 hF H locs hR hS ls hl
    cases hF
  | succ n ih =>
    intro v0 v1 v2 v3 v4 v5 v6 h t_v0 t_v1 t_v2 t_v3 hF H locs hR hS ls hl
    rw [jf_X4_readTerm_15_s] at hF
    refine lv_iload hx hb dX4_readTerm_15 (lv_at hl 6 rfl) ?_
    refine lv_bipush (v := 12) hx hb dX4_readTerm_17 (by decide) ?_
    refine lv_icmp_gt (tgt := 69) hx hb dX4_readTerm_19 (by decide) (fun c1 => ?_) (fun c1 => ?_)
    · have hF := xif hF c1
      refine lv_iconst (v := 1) hx hb dX4_readTerm_69 (by decide) ?_
      cases hF
      exact x_zret (w := 1) C0 hR hS (by decide) dX4_readTerm_70
    · have hF := xel hF c1
      refine lv_iload hx hb dX4_readTerm_22 (lv_at hl 5 rfl) ?_
      refine lv_if_eq (tgt := 69) hx hb dX4_readTerm_24 (by decide) (fun c2 => ?_) (fun c2 => ?_)
      · have hF := xif hF c2
        refine lv_iconst (v := 1) hx hb dX4_readTerm_69 (by decide) ?_
        cases hF
        exact x_zret (w := 1) C0 hR hS (by decide) dX4_readTerm_70
      · have hF := xel hF c2
        refine lv_aload_n hx hb dX4_readTerm_27 rfl (lv_at hl 0 rfl) ?_
        refine lv_aload_n hx hb dX4_readTerm_28 rfl (lv_at hl 1 rfl) ?_
        refine lv_aload_n hx hb dX4_readTerm_29 rfl (lv_at hl 2 rfl) ?_
        refine lv_aload_n hx hb dX4_readTerm_30 rfl (lv_at hl 3 rfl) ?_
        refine lv_iload hx hb dX4_readTerm_31 (lv_at hl 4 rfl) ?_
        obtain ⟨a4, h3, e_h3, hF⟩ := xbd2 hF
        refine cl_X4_120 C0 hR hS e_h3 t_v0 t_v1 t_v2 t_v3 ⟨(Nat.le_of_ble_eq_true rfl), (Nat.le_of_ble_eq_true rfl)⟩ hl.1 (Nat.le_of_ble_eq_true rfl) ⟨(Nat.le_of_ble_eq_true rfl), (Nat.le_of_ble_eq_true rfl)⟩ dX4_readTerm_33 (fun H locs hR hS => ?_)
        refine lv_if_eq (tgt := 47) hx hb dX4_readTerm_36 (by decide) (fun c5 => ?_) (fun c5 => ?_)
        · have hF := xif hF c5
          refine lv_iconst (v := 0) hx hb dX4_readTerm_47 (by decide) ?_
          cases hF
          exact x_zret (w := 0) C0 hR hS (by decide) dX4_readTerm_48
        · have hF := xel hF c5
          refine lv_aload_n hx hb dX4_readTerm_39 rfl (lv_at hl 0 rfl) ?_
          refine lv_aload_n hx hb dX4_readTerm_40 rfl (lv_at hl 2 rfl) ?_
          obtain ⟨a7, h6, e_h6, hF⟩ := xbd2 hF
          refine cl_X4_123 C0 hR hS e_h6 t_v0 t_v2 ⟨(Nat.le_of_ble_eq_true rfl), (Nat.le_of_ble_eq_true rfl)⟩ hl.1 (Nat.le_of_ble_eq_true rfl) ⟨(Nat.le_of_ble_eq_true rfl), (Nat.le_of_ble_eq_true rfl)⟩ dX4_readTerm_41 (fun H locs hR hS => ?_)
          refine lv_if_ne (tgt := 49) hx hb dX4_readTerm_44 (by decide) (fun c8 => ?_) (fun c8 => ?_)
          · have hF := xel hF c8
            refine lv_aload_n hx hb dX4_readTerm_49 rfl (lv_at hl 0 rfl) ?_
            refine gf_X4_22 C0 hR t_v0 dX4_readTerm_50 ?_
            refine lv_if_le (tgt := 60) hx hb dX4_readTerm_53 (by decide) (fun c9 => ?_) (fun c9 => ?_)
            · have hF := xif hF c9
              refine lv_iconst (v := 0) hx hb dX4_readTerm_60 (by decide) ?_
              refine lv_istore (lv' := [(5, .int 0), (0, .ref v0), (1, .ref v1), (2, .ref v2), (3, .ref v3), (4, .int v4), (6, .int v6)]) hx hb dX4_readTerm_61 hl (by decide) rfl (fun ls hl => ?_)
              refine lv_iinc (v := v6 + 1) (lv' := [(6, .int (v6 + 1)), (5, .int 0), (0, .ref v0), (1, .ref v1), (2, .ref v2), (3, .ref v3), (4, .int v4)]) hx hb dX4_readTerm_63 hl (k := 6) rfl rfl (by decide) rfl (fun ls hl => ?_)
              refine lv_goto (tgt := 15) hx hb dX4_readTerm_66 (by decide) ?_
              exact ih _ _ _ _ _ _ _ _ t_v0 t_v1 t_v2 t_v3 hF _ _ hR hS _ (lv_sub hl [2, 3, 4, 5, 6, 1, 0] rfl)
            · have hF := xel hF c9
              refine lv_iconst (v := 1) hx hb dX4_readTerm_56 (by decide) ?_
              refine lv_goto (tgt := 61) hx hb dX4_readTerm_57 (by decide) ?_
              refine lv_istore (lv' := [(5, .int 1), (0, .ref v0), (1, .ref v1), (2, .ref v2), (3, .ref v3), (4, .int v4), (6, .int v6)]) hx hb dX4_readTerm_61 hl (by decide) rfl (fun ls hl => ?_)
              refine lv_iinc (v := v6 + 1) (lv' := [(6, .int (v6 + 1)), (5, .int 1), (0, .ref v0), (1, .ref v1), (2, .ref v2), (3, .ref v3), (4, .int v4)]) hx hb dX4_readTerm_63 hl (k := 6) rfl rfl (by decide) rfl (fun ls hl => ?_)
              refine lv_goto (tgt := 15) hx hb dX4_readTerm_66 (by decide) ?_
              exact ih _ _ _ _ _ _ _ _ t_v0 t_v1 t_v2 t_v3 hF _ _ hR hS _ (lv_sub hl [2, 3, 4, 5, 6, 1, 0] rfl)
          · have hF := xif hF c8
            refine lv_iconst (v := 0) hx hb dX4_readTerm_47 (by decide) ?_
            cases hF
            exact x_zret (w := 0) C0 hR hS (by decide) dX4_readTerm_48
set_option maxHeartbeats 4000000 in
set_option maxRecDepth 100000 in
theorem jc_X4_readTerm {l : Launch} {D : xD} {ty : xTy} {h : xH} {v0 : Nat} {v1 : Nat} {v2 : Nat} {v3 : Nat} {v4 : Int32} {r : Int32} {h9 : xH} (t_v0 : ty v0 = some (0, 4)) (t_v1 : ty v1 = some (0, 0)) (t_v2 : ty v2 = some (0, 7)) (t_v3 : ty v3 = some (0, 7)) (hF : jf_X4_readTerm ty h v0 v1 v2 v3 v4 = some (r, h9)) : Met l yX4_readTerm (xws yX4_readTerm cX4_readTerm 7 (some .boolean)) jr_X4_readTerm (xPc D ty h [.ref v0, .ref v1, .ref v2, .ref v3, .int v4]) (xQ D ty (some (.int r)) h9) 0 0 (xdom ty) := by
  refine x_met (by decide) ?_
  intro p e s m below meth c C0 hR
  generalize hargs : ([.ref v0, .ref v1, .ref v2, .ref v3, .int v4] : List Value).toArray = args at C0 ⊢
  have hx := C0.1
  have hb := C0.2.1
  have hown := C0.2.2.2.2.2.1
  have hts := C0.2.2.2.2.2.2.1
  have hS : xS ty s.heap s.heap [] := xS.rf
  have hl := lv_entry ([.ref v0, .ref v1, .ref v2, .ref v3, .int v4]) (n := 7) (Nat.le_of_ble_eq_true rfl)
  rw [← hargs, lg_entry_eq]
  rw [hargs]
  generalize (lg_sl ([.ref v0, .ref v1, .ref v2, .ref v3, .int v4]) ++ List.replicate (7 - (lg_sl ([.ref v0, .ref v1, .ref v2, .ref v3, .int v4])).length) Slot.unset).toArray = ls at hl ⊢
  have hl : lv_has ls 7 [(0, .ref v0), (1, .ref v1), (2, .ref v2), (3, .ref v3), (4, .int v4)] := hl
  unfold jf_X4_readTerm at hF
  refine lv_aload_n hx hb dX4_readTerm_0 rfl (lv_at hl 2 rfl) ?_
  obtain ⟨h10, e_h10, hF⟩ := xbd hF
  refine cl_X4_114 C0 hR hS e_h10 t_v2 ⟨(Nat.le_of_ble_eq_true rfl), (Nat.le_of_ble_eq_true rfl)⟩ hl.1 (Nat.le_of_ble_eq_true rfl) ⟨(Nat.le_of_ble_eq_true rfl), (Nat.le_of_ble_eq_true rfl)⟩ dX4_readTerm_1 (fun H locs hR hS => ?_)
  refine lv_aload_n hx hb dX4_readTerm_4 rfl (lv_at hl 0 rfl) ?_
  refine lv_iconst (v := 0) hx hb dX4_readTerm_5 (by decide) ?_
  obtain ⟨h11, e_h11, hF⟩ := xbd hF
  refine pf_X4_22 C0 hR hS t_v0 dX4_readTerm_6 (fun H locs hR hS => ?_)
  rw [Option.some.inj e_h11] at hR
  refine lv_iconst (v := 1) hx hb dX4_readTerm_9 (by decide) ?_
  refine lv_istore (lv' := [(5, .int 1), (0, .ref v0), (1, .ref v1), (2, .ref v2), (3, .ref v3), (4, .int v4)]) hx hb dX4_readTerm_10 hl (by decide) rfl (fun ls hl => ?_)
  refine lv_iconst (v := 0) hx hb dX4_readTerm_12 (by decide) ?_
  refine lv_istore (lv' := [(6, .int 0), (5, .int 1), (0, .ref v0), (1, .ref v1), (2, .ref v2), (3, .ref v3), (4, .int v4)]) hx hb dX4_readTerm_13 hl (by decide) rfl (fun ls hl => ?_)
  obtain ⟨_, hF⟩ := xlim_sp hF
  exact jw_X4_readTerm_15 C0 _ _ _ _ _ _ _ _ _ t_v0 t_v1 t_v2 t_v3 hF _ _ hR hS _ (lv_sub hl [2, 3, 4, 5, 6, 1, 0] rfl)
theorem xm_X4_readTerm : xMw yX4_readTerm cX4_readTerm 7 (some .boolean) 4 := ⟨xin 636 (by decide +kernel) rfl, xin 117 (by decide +kernel) rfl, by decide +kernel⟩
theorem xi_X4_readTerm : Cond.instanceMethod yX4_readTerm ∈ xT := xin 635 (by decide +kernel) rfl
theorem xe_X4_readTerm : Cond.selects yX4_readTerm.cls yX4_readTerm yX4_readTerm ∈ xT := xin 13 (by decide +kernel) rfl
theorem dX4_readRule_0 : decode cX4_readRule 0 = .ok (.aload_n 1, 1) := by decide +kernel
theorem dX4_readRule_1 : decode cX4_readRule 1 = .ok (.getfield 101, 3) := by decide +kernel
theorem dX4_readRule_4 : decode cX4_readRule 4 = .ok (.bipush 16, 2) := by decide +kernel
theorem dX4_readRule_6 : decode cX4_readRule 6 = .ok (.if_icmp .lt 9, 3) := by decide +kernel
theorem dX4_readRule_9 : decode cX4_readRule 9 = .ok (.aload_n 0, 1) := by decide +kernel
theorem dX4_readRule_10 : decode cX4_readRule 10 = .ok (.iconst 2, 1) := by decide +kernel
theorem dX4_readRule_11 : decode cX4_readRule 11 = .ok (.invokevirtual 56, 3) := by decide +kernel
theorem dX4_readRule_14 : decode cX4_readRule 14 = .ok (.ireturn, 1) := by decide +kernel
theorem dX4_readRule_15 : decode cX4_readRule 15 = .ok (.aload_n 0, 1) := by decide +kernel
theorem dX4_readRule_16 : decode cX4_readRule 16 = .ok (.getfield 12, 3) := by decide +kernel
theorem dX4_readRule_19 : decode cX4_readRule 19 = .ok (.invokevirtual 65, 3) := by decide +kernel
theorem dX4_readRule_22 : decode cX4_readRule 22 = .ok (.aload_n 0, 1) := by decide +kernel
theorem dX4_readRule_23 : decode cX4_readRule 23 = .ok (.getfield 12, 3) := by decide +kernel
theorem dX4_readRule_26 : decode cX4_readRule 26 = .ok (.getfield 80, 3) := by decide +kernel
theorem dX4_readRule_29 : decode cX4_readRule 29 = .ok (.istore_n 2, 1) := by decide +kernel
theorem dX4_readRule_30 : decode cX4_readRule 30 = .ok (.aload_n 0, 1) := by decide +kernel
theorem dX4_readRule_31 : decode cX4_readRule 31 = .ok (.aload_n 1, 1) := by decide +kernel
theorem dX4_readRule_32 : decode cX4_readRule 32 = .ok (.iload_n 2, 1) := by decide +kernel
theorem dX4_readRule_33 : decode cX4_readRule 33 = .ok (.invokevirtual 104, 3) := by decide +kernel
theorem dX4_readRule_36 : decode cX4_readRule 36 = .ok (.invokevirtual 87, 3) := by decide +kernel
theorem dX4_readRule_39 : decode cX4_readRule 39 = .ok (.ifCond .ne 5, 3) := by decide +kernel
theorem dX4_readRule_42 : decode cX4_readRule 42 = .ok (.iconst 0, 1) := by decide +kernel
theorem dX4_readRule_43 : decode cX4_readRule 43 = .ok (.ireturn, 1) := by decide +kernel
theorem dX4_readRule_44 : decode cX4_readRule 44 = .ok (.aload_n 1, 1) := by decide +kernel
theorem dX4_readRule_45 : decode cX4_readRule 45 = .ok (.aload_n 1, 1) := by decide +kernel
theorem dX4_readRule_46 : decode cX4_readRule 46 = .ok (.getfield 101, 3) := by decide +kernel
theorem dX4_readRule_49 : decode cX4_readRule 49 = .ok (.invokevirtual 107, 3) := by decide +kernel
theorem dX4_readRule_52 : decode cX4_readRule 52 = .ok (.astore_n 3, 1) := by decide +kernel
theorem dX4_readRule_53 : decode cX4_readRule 53 = .ok (.aload_n 1, 1) := by decide +kernel
theorem dX4_readRule_54 : decode cX4_readRule 54 = .ok (.aload_n 1, 1) := by decide +kernel
theorem dX4_readRule_55 : decode cX4_readRule 55 = .ok (.getfield 101, 3) := by decide +kernel
theorem dX4_readRule_58 : decode cX4_readRule 58 = .ok (.invokevirtual 111, 3) := by decide +kernel
theorem dX4_readRule_61 : decode cX4_readRule 61 = .ok (.astore 4, 2) := by decide +kernel
theorem dX4_readRule_63 : decode cX4_readRule 63 = .ok (.aload 4, 2) := by decide +kernel
theorem dX4_readRule_65 : decode cX4_readRule 65 = .ok (.invokevirtual 114, 3) := by decide +kernel
theorem dX4_readRule_68 : decode cX4_readRule 68 = .ok (.aload_n 0, 1) := by decide +kernel
theorem dX4_readRule_69 : decode cX4_readRule 69 = .ok (.aload_n 1, 1) := by decide +kernel
theorem dX4_readRule_70 : decode cX4_readRule 70 = .ok (.aload_n 3, 1) := by decide +kernel
theorem dX4_readRule_71 : decode cX4_readRule 71 = .ok (.aload_n 3, 1) := by decide +kernel
theorem dX4_readRule_72 : decode cX4_readRule 72 = .ok (.iconst 0, 1) := by decide +kernel
theorem dX4_readRule_73 : decode cX4_readRule 73 = .ok (.invokevirtual 52, 3) := by decide +kernel
theorem dX4_readRule_76 : decode cX4_readRule 76 = .ok (.ifCond .ne 5, 3) := by decide +kernel
theorem dX4_readRule_79 : decode cX4_readRule 79 = .ok (.iconst 0, 1) := by decide +kernel
theorem dX4_readRule_80 : decode cX4_readRule 80 = .ok (.ireturn, 1) := by decide +kernel
theorem dX4_readRule_81 : decode cX4_readRule 81 = .ok (.aload_n 0, 1) := by decide +kernel
theorem dX4_readRule_82 : decode cX4_readRule 82 = .ok (.getfield 12, 3) := by decide +kernel
theorem dX4_readRule_85 : decode cX4_readRule 85 = .ok (.getfield 41, 3) := by decide +kernel
theorem dX4_readRule_88 : decode cX4_readRule 88 = .ok (.bipush 61, 2) := by decide +kernel
theorem dX4_readRule_90 : decode cX4_readRule 90 = .ok (.if_icmp .ne 24, 3) := by decide +kernel
theorem dX4_readRule_93 : decode cX4_readRule 93 = .ok (.aload_n 0, 1) := by decide +kernel
theorem dX4_readRule_94 : decode cX4_readRule 94 = .ok (.getfield 12, 3) := by decide +kernel
theorem dX4_readRule_97 : decode cX4_readRule 97 = .ok (.invokevirtual 65, 3) := by decide +kernel
theorem dX4_readRule_100 : decode cX4_readRule 100 = .ok (.aload_n 0, 1) := by decide +kernel
theorem dX4_readRule_101 : decode cX4_readRule 101 = .ok (.aload_n 1, 1) := by decide +kernel
theorem dX4_readRule_102 : decode cX4_readRule 102 = .ok (.aload 4, 2) := by decide +kernel
theorem dX4_readRule_104 : decode cX4_readRule 104 = .ok (.aload_n 3, 1) := by decide +kernel
theorem dX4_readRule_105 : decode cX4_readRule 105 = .ok (.iconst 1, 1) := by decide +kernel
theorem dX4_readRule_106 : decode cX4_readRule 106 = .ok (.invokevirtual 52, 3) := by decide +kernel
theorem dX4_readRule_109 : decode cX4_readRule 109 = .ok (.ifCond .ne 5, 3) := by decide +kernel
theorem dX4_readRule_112 : decode cX4_readRule 112 = .ok (.iconst 0, 1) := by decide +kernel
theorem dX4_readRule_113 : decode cX4_readRule 113 = .ok (.ireturn, 1) := by decide +kernel
theorem dX4_readRule_114 : decode cX4_readRule 114 = .ok (.aload_n 1, 1) := by decide +kernel
theorem dX4_readRule_115 : decode cX4_readRule 115 = .ok (.iload_n 2, 1) := by decide +kernel
theorem dX4_readRule_116 : decode cX4_readRule 116 = .ok (.invokevirtual 117, 3) := by decide +kernel
theorem dX4_readRule_119 : decode cX4_readRule 119 = .ok (.iconst 1, 1) := by decide +kernel
theorem dX4_readRule_120 : decode cX4_readRule 120 = .ok (.ireturn, 1) := by decide +kernel
theorem wl_X4_104 : Cond.methodLink RX4 104 yX0_ruleNamed ∈ xT := xin 617 (by decide +kernel) rfl
theorem wl_X4_107 : Cond.methodLink RX4 107 yX0_termOf ∈ xT := xin 621 (by decide +kernel) rfl
theorem wl_X4_111 : Cond.methodLink RX4 111 yX0_rightOf ∈ xT := xin 625 (by decide +kernel) rfl
theorem wl_X4_117 : Cond.methodLink RX4 117 yX0_addRule ∈ xT := xin 669 (by decide +kernel) rfl
theorem wl_X4_52 : Cond.methodLink RX4 52 yX4_readTerm ∈ xT := xin 633 (by decide +kernel) rfl
theorem wl_X4_87 : Cond.methodLink RX4 87 yX4_passNewName ∈ xT := xin 593 (by decide +kernel) rfl
theorem wf_X4_101 : Cond.fieldLink RX4 101 "TermShelf$Book" "ruleCount" "I" ∈ xT := xin 194 (by decide +kernel) rfl
section XN_X4_readRule
variable {p : Program} {l : Launch} {e : Env} {R : Room} {s : State} {m : MethodId} {args : Array Value} {below : List Frame} {meth : Method} {c : Code} {H H0 : Heap} {locs : List Loc} {cells slots : Nat} {Q : State → Prop} {cc : ByteArray} {nL pc : Nat} {rt : Option FieldType} {ls : Array Slot} {rest : List Value} {D : xD} {ty : xTy} {h : xH}
theorem cl_X4_104 {v0 : Nat} {v1 : Int32} {r : Int32} (C0 : xC D RX4 cc nL rt p s m args meth c) (hR : xRep D ty h H) (hS : xS ty H0 H locs) (hF : jf_X0_ruleNamed ty h v0 v1 = some r) (t_v0 : ty v0 = some (0, 0)) (hrm : jr_X0_ruleNamed.frames + 1 ≤ R.frames ∧ 8 + (2 + 11) + jr_X0_ruleNamed.locals ≤ R.locals) (hsz : ls.size = nL) (hW : (rest.map fun v => v.category).sum ≤ 8) (hf : cells ≤ R.cells ∧ slots ≤ R.slots) (hdg : decode cc pc = .ok (.invokevirtual 104, 3)) (kk : ∀ (H1 : Heap) (locs1 : List Loc), xRep D ty h H1 → xS ty H0 H1 locs1 → W p l e R s m args below meth c H1 locs1 cells slots Q (F0 m (pc + 3) ls (.int r :: rest))) : W p l e R s m args below meth c H locs cells slots Q (F0 m pc ls (.int v1 :: .ref v0 :: rest)) := x_callV C0 (jc_X0_ruleNamed t_v0 hF) xm_X0_ruleNamed xi_X0_ruleNamed xe_X0_ruleNamed wl_X4_104 ⟨rfl, rfl, hrm⟩ (ci := 0) rfl t_v0 hR hS (As := [.int v1]) rfl hsz rfl hW hdg hf kk
theorem cl_X4_107 {v0 : Nat} {v1 : Int32} {r : Nat} (C0 : xC D RX4 cc nL rt p s m args meth c) (hR : xRep D ty h H) (hS : xS ty H0 H locs) (hF : jf_X0_termOf ty h v0 v1 = some r) (t_v0 : ty v0 = some (0, 0)) (hrm : jr_X0_termOf.frames + 1 ≤ R.frames ∧ 8 + (2 + 11) + jr_X0_termOf.locals ≤ R.locals) (hsz : ls.size = nL) (hW : (rest.map fun v => v.category).sum ≤ 8) (hf : cells ≤ R.cells ∧ slots ≤ R.slots) (hdg : decode cc pc = .ok (.invokevirtual 107, 3)) (kk : ∀ (H1 : Heap) (locs1 : List Loc), xRep D ty h H1 → xS ty H0 H1 locs1 → W p l e R s m args below meth c H1 locs1 cells slots Q (F0 m (pc + 3) ls (.ref r :: rest))) : W p l e R s m args below meth c H locs cells slots Q (F0 m pc ls (.int v1 :: .ref v0 :: rest)) := x_callV C0 (jc_X0_termOf t_v0 hF) xm_X0_termOf xi_X0_termOf xe_X0_termOf wl_X4_107 ⟨rfl, rfl, hrm⟩ (ci := 0) rfl t_v0 hR hS (As := [.int v1]) rfl hsz rfl hW hdg hf kk
theorem cl_X4_111 {v0 : Nat} {v1 : Int32} {r : Nat} (C0 : xC D RX4 cc nL rt p s m args meth c) (hR : xRep D ty h H) (hS : xS ty H0 H locs) (hF : jf_X0_rightOf ty h v0 v1 = some r) (t_v0 : ty v0 = some (0, 0)) (hrm : jr_X0_rightOf.frames + 1 ≤ R.frames ∧ 8 + (2 + 11) + jr_X0_rightOf.locals ≤ R.locals) (hsz : ls.size = nL) (hW : (rest.map fun v => v.category).sum ≤ 8) (hf : cells ≤ R.cells ∧ slots ≤ R.slots) (hdg : decode cc pc = .ok (.invokevirtual 111, 3)) (kk : ∀ (H1 : Heap) (locs1 : List Loc), xRep D ty h H1 → xS ty H0 H1 locs1 → W p l e R s m args below meth c H1 locs1 cells slots Q (F0 m (pc + 3) ls (.ref r :: rest))) : W p l e R s m args below meth c H locs cells slots Q (F0 m pc ls (.int v1 :: .ref v0 :: rest)) := x_callV C0 (jc_X0_rightOf t_v0 hF) xm_X0_rightOf xi_X0_rightOf xe_X0_rightOf wl_X4_111 ⟨rfl, rfl, hrm⟩ (ci := 0) rfl t_v0 hR hS (As := [.int v1]) rfl hsz rfl hW hdg hf kk
theorem cl_X4_117 {v0 : Nat} {v1 : Int32} {h9 : xH} (C0 : xC D RX4 cc nL rt p s m args meth c) (hR : xRep D ty h H) (hS : xS ty H0 H locs) (hF : jf_X0_addRule ty h v0 v1 = some h9) (t_v0 : ty v0 = some (0, 0)) (hrm : jr_X0_addRule.frames + 1 ≤ R.frames ∧ 8 + (2 + 11) + jr_X0_addRule.locals ≤ R.locals) (hsz : ls.size = nL) (hW : (rest.map fun v => v.category).sum ≤ 8) (hf : cells ≤ R.cells ∧ slots ≤ R.slots) (hdg : decode cc pc = .ok (.invokevirtual 117, 3)) (kk : ∀ (H1 : Heap) (locs1 : List Loc), xRep D ty h9 H1 → xS ty H0 H1 locs1 → W p l e R s m args below meth c H1 locs1 cells slots Q (F0 m (pc + 3) ls rest)) : W p l e R s m args below meth c H locs cells slots Q (F0 m pc ls (.int v1 :: .ref v0 :: rest)) := x_callV C0 (jc_X0_addRule t_v0 hF) xm_X0_addRule xi_X0_addRule xe_X0_addRule wl_X4_117 ⟨rfl, rfl, hrm⟩ (ci := 0) rfl t_v0 hR hS (As := [.int v1]) rfl hsz rfl hW hdg hf kk
theorem cl_X4_52 {v0 : Nat} {v1 : Nat} {v2 : Nat} {v3 : Nat} {v4 : Int32} {r : Int32} {h9 : xH} (C0 : xC D RX4 cc nL rt p s m args meth c) (hR : xRep D ty h H) (hS : xS ty H0 H locs) (hF : jf_X4_readTerm ty h v0 v1 v2 v3 v4 = some (r, h9)) (t_v0 : ty v0 = some (0, 4)) (t_v1 : ty v1 = some (0, 0)) (t_v2 : ty v2 = some (0, 7)) (t_v3 : ty v3 = some (0, 7)) (hrm : jr_X4_readTerm.frames + 1 ≤ R.frames ∧ 8 + (7 + 11) + jr_X4_readTerm.locals ≤ R.locals) (hsz : ls.size = nL) (hW : (rest.map fun v => v.category).sum ≤ 8) (hf : cells ≤ R.cells ∧ slots ≤ R.slots) (hdg : decode cc pc = .ok (.invokevirtual 52, 3)) (kk : ∀ (H1 : Heap) (locs1 : List Loc), xRep D ty h9 H1 → xS ty H0 H1 locs1 → W p l e R s m args below meth c H1 locs1 cells slots Q (F0 m (pc + 3) ls (.int r :: rest))) : W p l e R s m args below meth c H locs cells slots Q (F0 m pc ls (.int v4 :: .ref v3 :: .ref v2 :: .ref v1 :: .ref v0 :: rest)) := x_callV C0 (jc_X4_readTerm t_v0 t_v1 t_v2 t_v3 hF) xm_X4_readTerm xi_X4_readTerm xe_X4_readTerm wl_X4_52 ⟨rfl, rfl, hrm⟩ (ci := 4) rfl t_v0 hR hS (As := [.ref v1, .ref v2, .ref v3, .int v4]) rfl hsz rfl hW hdg hf kk
theorem cl_X4_87 {v0 : Nat} {v1 : Int32} {r : Int32} {h9 : xH} (C0 : xC D RX4 cc nL rt p s m args meth c) (hR : xRep D ty h H) (hS : xS ty H0 H locs) (hF : jf_X4_passNewName ty h v0 v1 = some (r, h9)) (t_v0 : ty v0 = some (0, 4)) (hrm : jr_X4_passNewName.frames + 1 ≤ R.frames ∧ 8 + (2 + 11) + jr_X4_passNewName.locals ≤ R.locals) (hsz : ls.size = nL) (hW : (rest.map fun v => v.category).sum ≤ 8) (hf : cells ≤ R.cells ∧ slots ≤ R.slots) (hdg : decode cc pc = .ok (.invokevirtual 87, 3)) (kk : ∀ (H1 : Heap) (locs1 : List Loc), xRep D ty h9 H1 → xS ty H0 H1 locs1 → W p l e R s m args below meth c H1 locs1 cells slots Q (F0 m (pc + 3) ls (.int r :: rest))) : W p l e R s m args below meth c H locs cells slots Q (F0 m pc ls (.int v1 :: .ref v0 :: rest)) := x_callV C0 (jc_X4_passNewName t_v0 hF) xm_X4_passNewName xi_X4_passNewName xe_X4_passNewName wl_X4_87 ⟨rfl, rfl, hrm⟩ (ci := 4) rfl t_v0 hR hS (As := [.int v1]) rfl hsz rfl hW hdg hf kk
theorem gf_X4_101 {a : Nat} (C0 : xC D RX4 cc nL rt p s m args meth c) (hR : xRep D ty h H) (ht : ty a = some (0, 0)) (hdg : decode cc pc = .ok (.getfield 101, 3)) (kk : W p l e R s m args below meth c H locs cells slots Q (F0 m (pc + 3) ls (.int (xI h a 9) :: rest))) : W p l e R s m args below meth c H locs cells slots Q (F0 m pc ls (.ref a :: rest)) := x_get C0 hR (ci := 0) (k := 9) (N := 10) (T := TX0) rfl iX0 (by decide) rfl wf_X4_101 rfl ht hdg kk
end XN_X4_readRule
set_option maxHeartbeats 4000000 in
set_option maxRecDepth 100000 in
theorem jc_X4_readRule {l : Launch} {D : xD} {ty : xTy} {h : xH} {v0 : Nat} {v1 : Nat} {r : Int32} {h9 : xH} (t_v0 : ty v0 = some (0, 4)) (t_v1 : ty v1 = some (0, 0)) (hF : jf_X4_readRule ty h v0 v1 = some (r, h9)) : Met l yX4_readRule (xws yX4_readRule cX4_readRule 5 (some .boolean)) jr_X4_readRule (xPc D ty h [.ref v0, .ref v1]) (xQ D ty (some (.int r)) h9) 0 0 (xdom ty) := by
  refine x_met (by decide) ?_
  intro p e s m below meth c C0 hR
  generalize hargs : ([.ref v0, .ref v1] : List Value).toArray = args at C0 ⊢
  have hx := C0.1
  have hb := C0.2.1
  have hown := C0.2.2.2.2.2.1
  have hts := C0.2.2.2.2.2.2.1
  have hS : xS ty s.heap s.heap [] := xS.rf
  have hl := lv_entry ([.ref v0, .ref v1]) (n := 5) (Nat.le_of_ble_eq_true rfl)
  rw [← hargs, lg_entry_eq]
  rw [hargs]
  generalize (lg_sl ([.ref v0, .ref v1]) ++ List.replicate (5 - (lg_sl ([.ref v0, .ref v1])).length) Slot.unset).toArray = ls at hl ⊢
  have hl : lv_has ls 5 [(0, .ref v0), (1, .ref v1)] := hl
  unfold jf_X4_readRule at hF
  refine lv_aload_n hx hb dX4_readRule_0 rfl (lv_at hl 1 rfl) ?_
  refine gf_X4_101 C0 hR t_v1 dX4_readRule_1 ?_
  refine lv_bipush (v := 16) hx hb dX4_readRule_4 (by decide) ?_
  refine lv_icmp_lt (tgt := 15) hx hb dX4_readRule_6 (by decide) (fun c1 => ?_) (fun c1 => ?_)
  · have hF := xif hF c1
    refine lv_aload_n hx hb dX4_readRule_15 rfl (lv_at hl 0 rfl) ?_
    obtain ⟨a2, e_a2, hF⟩ := xbd hF
    obtain ⟨e_a2, t_a2⟩ := xgo_sp e_a2
    refine gf_X4_12 C0 hR t_v0 e_a2 dX4_readRule_16 ?_
    obtain ⟨h3, e_h3, hF⟩ := xbd hF
    refine cl_X4_65 C0 hR hS e_h3 t_a2 ⟨(Nat.le_of_ble_eq_true rfl), (Nat.le_of_ble_eq_true rfl)⟩ hl.1 (Nat.le_of_ble_eq_true rfl) ⟨(Nat.le_of_ble_eq_true rfl), (Nat.le_of_ble_eq_true rfl)⟩ dX4_readRule_19 (fun H locs hR hS => ?_)
    refine lv_aload_n hx hb dX4_readRule_22 rfl (lv_at hl 0 rfl) ?_
    obtain ⟨a4, e_a4, hF⟩ := xbd hF
    obtain ⟨e_a4, t_a4⟩ := xgo_sp e_a4
    refine gf_X4_12 C0 hR t_v0 e_a4 dX4_readRule_23 ?_
    refine gf_X4_80 C0 hR t_a4 dX4_readRule_26 ?_
    refine lv_istore_n (lv' := [(2, .int (xI h3 a4 7)), (0, .ref v0), (1, .ref v1)]) hx hb dX4_readRule_29 rfl hl (by decide) rfl (fun ls hl => ?_)
    refine lv_aload_n hx hb dX4_readRule_30 rfl (lv_at hl 1 rfl) ?_
    refine lv_aload_n hx hb dX4_readRule_31 rfl (lv_at hl 2 rfl) ?_
    refine lv_iload_n hx hb dX4_readRule_32 rfl (lv_at hl 0 rfl) ?_
    obtain ⟨a5, e_a5, hF⟩ := xbd hF
    refine cl_X4_104 C0 hR hS e_a5 t_v1 ⟨(Nat.le_of_ble_eq_true rfl), (Nat.le_of_ble_eq_true rfl)⟩ hl.1 (Nat.le_of_ble_eq_true rfl) ⟨(Nat.le_of_ble_eq_true rfl), (Nat.le_of_ble_eq_true rfl)⟩ dX4_readRule_33 (fun H locs hR hS => ?_)
    obtain ⟨a7, h6, e_h6, hF⟩ := xbd2 hF
    refine cl_X4_87 C0 hR hS e_h6 t_v0 ⟨(Nat.le_of_ble_eq_true rfl), (Nat.le_of_ble_eq_true rfl)⟩ hl.1 (Nat.le_of_ble_eq_true rfl) ⟨(Nat.le_of_ble_eq_true rfl), (Nat.le_of_ble_eq_true rfl)⟩ dX4_readRule_36 (fun H locs hR hS => ?_)
    refine lv_if_ne (tgt := 44) hx hb dX4_readRule_39 (by decide) (fun c8 => ?_) (fun c8 => ?_)
    · have hF := xel hF c8
      refine lv_aload_n hx hb dX4_readRule_44 rfl (lv_at hl 2 rfl) ?_
      refine lv_aload_n hx hb dX4_readRule_45 rfl (lv_at hl 2 rfl) ?_
      refine gf_X4_101 C0 hR t_v1 dX4_readRule_46 ?_
      obtain ⟨a9, e_a9, hF⟩ := xbd hF
      obtain ⟨u10, e_u10, hF⟩ := xbd hF
      have t_a9 := xck_sp e_u10
      refine cl_X4_107 C0 hR hS e_a9 t_v1 ⟨(Nat.le_of_ble_eq_true rfl), (Nat.le_of_ble_eq_true rfl)⟩ hl.1 (Nat.le_of_ble_eq_true rfl) ⟨(Nat.le_of_ble_eq_true rfl), (Nat.le_of_ble_eq_true rfl)⟩ dX4_readRule_49 (fun H locs hR hS => ?_)
      refine lv_astore_n (lv' := [(3, .ref a9), (2, .int (xI h3 a4 7)), (0, .ref v0), (1, .ref v1)]) hx hb dX4_readRule_52 rfl hl (by decide) rfl (fun ls hl => ?_)
      refine lv_aload_n hx hb dX4_readRule_53 rfl (lv_at hl 3 rfl) ?_
      refine lv_aload_n hx hb dX4_readRule_54 rfl (lv_at hl 3 rfl) ?_
      refine gf_X4_101 C0 hR t_v1 dX4_readRule_55 ?_
      obtain ⟨a11, e_a11, hF⟩ := xbd hF
      obtain ⟨u12, e_u12, hF⟩ := xbd hF
      have t_a11 := xck_sp e_u12
      refine cl_X4_111 C0 hR hS e_a11 t_v1 ⟨(Nat.le_of_ble_eq_true rfl), (Nat.le_of_ble_eq_true rfl)⟩ hl.1 (Nat.le_of_ble_eq_true rfl) ⟨(Nat.le_of_ble_eq_true rfl), (Nat.le_of_ble_eq_true rfl)⟩ dX4_readRule_58 (fun H locs hR hS => ?_)
      refine lv_astore (lv' := [(4, .ref a11), (3, .ref a9), (2, .int (xI h3 a4 7)), (0, .ref v0), (1, .ref v1)]) hx hb dX4_readRule_61 hl (by decide) rfl (fun ls hl => ?_)
      refine lv_aload hx hb dX4_readRule_63 (lv_at hl 0 rfl) ?_
      obtain ⟨h13, e_h13, hF⟩ := xbd hF
      refine cl_X4_114 C0 hR hS e_h13 t_a11 ⟨(Nat.le_of_ble_eq_true rfl), (Nat.le_of_ble_eq_true rfl)⟩ hl.1 (Nat.le_of_ble_eq_true rfl) ⟨(Nat.le_of_ble_eq_true rfl), (Nat.le_of_ble_eq_true rfl)⟩ dX4_readRule_65 (fun H locs hR hS => ?_)
      refine lv_aload_n hx hb dX4_readRule_68 rfl (lv_at hl 3 rfl) ?_
      refine lv_aload_n hx hb dX4_readRule_69 rfl (lv_at hl 4 rfl) ?_
      refine lv_aload_n hx hb dX4_readRule_70 rfl (lv_at hl 1 rfl) ?_
      refine lv_aload_n hx hb dX4_readRule_71 rfl (lv_at hl 1 rfl) ?_
      refine lv_iconst (v := 0) hx hb dX4_readRule_72 (by decide) ?_
      obtain ⟨a15, h14, e_h14, hF⟩ := xbd2 hF
      refine cl_X4_52 C0 hR hS e_h14 t_v0 t_v1 t_a9 t_a9 ⟨(Nat.le_of_ble_eq_true rfl), (Nat.le_of_ble_eq_true rfl)⟩ hl.1 (Nat.le_of_ble_eq_true rfl) ⟨(Nat.le_of_ble_eq_true rfl), (Nat.le_of_ble_eq_true rfl)⟩ dX4_readRule_73 (fun H locs hR hS => ?_)
      refine lv_if_ne (tgt := 81) hx hb dX4_readRule_76 (by decide) (fun c16 => ?_) (fun c16 => ?_)
      · have hF := xel hF c16
        refine lv_aload_n hx hb dX4_readRule_81 rfl (lv_at hl 3 rfl) ?_
        obtain ⟨a17, e_a17, hF⟩ := xbd hF
        obtain ⟨e_a17, t_a17⟩ := xgo_sp e_a17
        refine gf_X4_12 C0 hR t_v0 e_a17 dX4_readRule_82 ?_
        refine gf_X4_41 C0 hR t_a17 dX4_readRule_85 ?_
        refine lv_bipush (v := 61) hx hb dX4_readRule_88 (by decide) ?_
        refine lv_icmp_ne (tgt := 114) hx hb dX4_readRule_90 (by decide) (fun c18 => ?_) (fun c18 => ?_)
        · have hF := xel hF c18
          refine lv_aload_n hx hb dX4_readRule_114 rfl (lv_at hl 4 rfl) ?_
          refine lv_iload_n hx hb dX4_readRule_115 rfl (lv_at hl 2 rfl) ?_
          obtain ⟨h19, e_h19, hF⟩ := xbd hF
          refine cl_X4_117 C0 hR hS e_h19 t_v1 ⟨(Nat.le_of_ble_eq_true rfl), (Nat.le_of_ble_eq_true rfl)⟩ hl.1 (Nat.le_of_ble_eq_true rfl) ⟨(Nat.le_of_ble_eq_true rfl), (Nat.le_of_ble_eq_true rfl)⟩ dX4_readRule_116 (fun H locs hR hS => ?_)
          refine lv_iconst (v := 1) hx hb dX4_readRule_119 (by decide) ?_
          cases hF
          exact x_zret (w := 1) C0 hR hS (by decide) dX4_readRule_120
        · have hF := xif hF c18
          refine lv_aload_n hx hb dX4_readRule_93 rfl (lv_at hl 3 rfl) ?_
          obtain ⟨a20, e_a20, hF⟩ := xbd hF
          obtain ⟨e_a20, t_a20⟩ := xgo_sp e_a20
          refine gf_X4_12 C0 hR t_v0 e_a20 dX4_readRule_94 ?_
          obtain ⟨h21, e_h21, hF⟩ := xbd hF
          refine cl_X4_65 C0 hR hS e_h21 t_a20 ⟨(Nat.le_of_ble_eq_true rfl), (Nat.le_of_ble_eq_true rfl)⟩ hl.1 (Nat.le_of_ble_eq_true rfl) ⟨(Nat.le_of_ble_eq_true rfl), (Nat.le_of_ble_eq_true rfl)⟩ dX4_readRule_97 (fun H locs hR hS => ?_)
          refine lv_aload_n hx hb dX4_readRule_100 rfl (lv_at hl 3 rfl) ?_
          refine lv_aload_n hx hb dX4_readRule_101 rfl (lv_at hl 4 rfl) ?_
          refine lv_aload hx hb dX4_readRule_102 (lv_at hl 0 rfl) ?_
          refine lv_aload_n hx hb dX4_readRule_104 rfl (lv_at hl 1 rfl) ?_
          refine lv_iconst (v := 1) hx hb dX4_readRule_105 (by decide) ?_
          obtain ⟨a23, h22, e_h22, hF⟩ := xbd2 hF
          refine cl_X4_52 C0 hR hS e_h22 t_v0 t_v1 t_a11 t_a9 ⟨(Nat.le_of_ble_eq_true rfl), (Nat.le_of_ble_eq_true rfl)⟩ hl.1 (Nat.le_of_ble_eq_true rfl) ⟨(Nat.le_of_ble_eq_true rfl), (Nat.le_of_ble_eq_true rfl)⟩ dX4_readRule_106 (fun H locs hR hS => ?_)
          refine lv_if_ne (tgt := 114) hx hb dX4_readRule_109 (by decide) (fun c24 => ?_) (fun c24 => ?_)
          · have hF := xel hF c24
            refine lv_aload_n hx hb dX4_readRule_114 rfl (lv_at hl 4 rfl) ?_
            refine lv_iload_n hx hb dX4_readRule_115 rfl (lv_at hl 2 rfl) ?_
            obtain ⟨h25, e_h25, hF⟩ := xbd hF
            refine cl_X4_117 C0 hR hS e_h25 t_v1 ⟨(Nat.le_of_ble_eq_true rfl), (Nat.le_of_ble_eq_true rfl)⟩ hl.1 (Nat.le_of_ble_eq_true rfl) ⟨(Nat.le_of_ble_eq_true rfl), (Nat.le_of_ble_eq_true rfl)⟩ dX4_readRule_116 (fun H locs hR hS => ?_)
            refine lv_iconst (v := 1) hx hb dX4_readRule_119 (by decide) ?_
            cases hF
            exact x_zret (w := 1) C0 hR hS (by decide) dX4_readRule_120
          · have hF := xif hF c24
            refine lv_iconst (v := 0) hx hb dX4_readRule_112 (by decide) ?_
            cases hF
            exact x_zret (w := 0) C0 hR hS (by decide) dX4_readRule_113
      · have hF := xif hF c16
        refine lv_iconst (v := 0) hx hb dX4_readRule_79 (by decide) ?_
        cases hF
        exact x_zret (w := 0) C0 hR hS (by decide) dX4_readRule_80
    · have hF := xif hF c8
      refine lv_iconst (v := 0) hx hb dX4_readRule_42 (by decide) ?_
      cases hF
      exact x_zret (w := 0) C0 hR hS (by decide) dX4_readRule_43
  · have hF := xel hF c1
    refine lv_aload_n hx hb dX4_readRule_9 rfl (lv_at hl 0 rfl) ?_
    refine lv_iconst (v := 2) hx hb dX4_readRule_10 (by decide) ?_
    obtain ⟨a27, h26, e_h26, hF⟩ := xbd2 hF
    refine cl_X4_56 C0 hR hS e_h26 t_v0 ⟨(Nat.le_of_ble_eq_true rfl), (Nat.le_of_ble_eq_true rfl)⟩ hl.1 (Nat.le_of_ble_eq_true rfl) ⟨(Nat.le_of_ble_eq_true rfl), (Nat.le_of_ble_eq_true rfl)⟩ dX4_readRule_11 (fun H locs hR hS => ?_)
    obtain ⟨w28, e_w28, hF⟩ := xbd hF
    cases hF
    exact x_zret C0 hR hS e_w28 dX4_readRule_14
theorem xm_X4_readRule : xMw yX4_readRule cX4_readRule 5 (some .boolean) 1 := ⟨xin 616 (by decide +kernel) rfl, xin 117 (by decide +kernel) rfl, by decide +kernel⟩
theorem xi_X4_readRule : Cond.instanceMethod yX4_readRule ∈ xT := xin 615 (by decide +kernel) rfl
theorem xe_X4_readRule : Cond.selects yX4_readRule.cls yX4_readRule yX4_readRule ∈ xT := xin 12 (by decide +kernel) rfl
theorem dX4_readVariable_0 : decode cX4_readVariable 0 = .ok (.aload_n 1, 1) := by decide +kernel
theorem dX4_readVariable_1 : decode cX4_readVariable 1 = .ok (.getfield 94, 3) := by decide +kernel
theorem dX4_readVariable_4 : decode cX4_readVariable 4 = .ok (.iconst 4, 1) := by decide +kernel
theorem dX4_readVariable_5 : decode cX4_readVariable 5 = .ok (.if_icmp .lt 9, 3) := by decide +kernel
theorem dX4_readVariable_8 : decode cX4_readVariable 8 = .ok (.aload_n 0, 1) := by decide +kernel
theorem dX4_readVariable_9 : decode cX4_readVariable 9 = .ok (.iconst 2, 1) := by decide +kernel
theorem dX4_readVariable_10 : decode cX4_readVariable 10 = .ok (.invokevirtual 56, 3) := by decide +kernel
theorem dX4_readVariable_13 : decode cX4_readVariable 13 = .ok (.ireturn, 1) := by decide +kernel
theorem dX4_readVariable_14 : decode cX4_readVariable 14 = .ok (.aload_n 0, 1) := by decide +kernel
theorem dX4_readVariable_15 : decode cX4_readVariable 15 = .ok (.getfield 12, 3) := by decide +kernel
theorem dX4_readVariable_18 : decode cX4_readVariable 18 = .ok (.invokevirtual 65, 3) := by decide +kernel
theorem dX4_readVariable_21 : decode cX4_readVariable 21 = .ok (.aload_n 0, 1) := by decide +kernel
theorem dX4_readVariable_22 : decode cX4_readVariable 22 = .ok (.getfield 12, 3) := by decide +kernel
theorem dX4_readVariable_25 : decode cX4_readVariable 25 = .ok (.getfield 80, 3) := by decide +kernel
theorem dX4_readVariable_28 : decode cX4_readVariable 28 = .ok (.istore_n 2, 1) := by decide +kernel
theorem dX4_readVariable_29 : decode cX4_readVariable 29 = .ok (.aload_n 0, 1) := by decide +kernel
theorem dX4_readVariable_30 : decode cX4_readVariable 30 = .ok (.aload_n 1, 1) := by decide +kernel
theorem dX4_readVariable_31 : decode cX4_readVariable 31 = .ok (.iload_n 2, 1) := by decide +kernel
theorem dX4_readVariable_32 : decode cX4_readVariable 32 = .ok (.invokevirtual 83, 3) := by decide +kernel
theorem dX4_readVariable_35 : decode cX4_readVariable 35 = .ok (.invokevirtual 87, 3) := by decide +kernel
theorem dX4_readVariable_38 : decode cX4_readVariable 38 = .ok (.ifCond .ne 5, 3) := by decide +kernel
theorem dX4_readVariable_41 : decode cX4_readVariable 41 = .ok (.iconst 0, 1) := by decide +kernel
theorem dX4_readVariable_42 : decode cX4_readVariable 42 = .ok (.ireturn, 1) := by decide +kernel
theorem dX4_readVariable_43 : decode cX4_readVariable 43 = .ok (.aload_n 1, 1) := by decide +kernel
theorem dX4_readVariable_44 : decode cX4_readVariable 44 = .ok (.iload_n 2, 1) := by decide +kernel
theorem dX4_readVariable_45 : decode cX4_readVariable 45 = .ok (.invokevirtual 97, 3) := by decide +kernel
theorem dX4_readVariable_48 : decode cX4_readVariable 48 = .ok (.iconst 1, 1) := by decide +kernel
theorem dX4_readVariable_49 : decode cX4_readVariable 49 = .ok (.ireturn, 1) := by decide +kernel
theorem wl_X4_97 : Cond.methodLink RX4 97 yX0_addVariable ∈ xT := xin 609 (by decide +kernel) rfl
theorem wf_X4_94 : Cond.fieldLink RX4 94 "TermShelf$Book" "variableCount" "I" ∈ xT := xin 188 (by decide +kernel) rfl
section XN_X4_readVariable
variable {p : Program} {l : Launch} {e : Env} {R : Room} {s : State} {m : MethodId} {args : Array Value} {below : List Frame} {meth : Method} {c : Code} {H H0 : Heap} {locs : List Loc} {cells slots : Nat} {Q : State → Prop} {cc : ByteArray} {nL pc : Nat} {rt : Option FieldType} {ls : Array Slot} {rest : List Value} {D : xD} {ty : xTy} {h : xH}
theorem cl_X4_97 {v0 : Nat} {v1 : Int32} {h9 : xH} (C0 : xC D RX4 cc nL rt p s m args meth c) (hR : xRep D ty h H) (hS : xS ty H0 H locs) (hF : jf_X0_addVariable ty h v0 v1 = some h9) (t_v0 : ty v0 = some (0, 0)) (hrm : jr_X0_addVariable.frames + 1 ≤ R.frames ∧ 8 + (2 + 11) + jr_X0_addVariable.locals ≤ R.locals) (hsz : ls.size = nL) (hW : (rest.map fun v => v.category).sum ≤ 8) (hf : cells ≤ R.cells ∧ slots ≤ R.slots) (hdg : decode cc pc = .ok (.invokevirtual 97, 3)) (kk : ∀ (H1 : Heap) (locs1 : List Loc), xRep D ty h9 H1 → xS ty H0 H1 locs1 → W p l e R s m args below meth c H1 locs1 cells slots Q (F0 m (pc + 3) ls rest)) : W p l e R s m args below meth c H locs cells slots Q (F0 m pc ls (.int v1 :: .ref v0 :: rest)) := x_callV C0 (jc_X0_addVariable t_v0 hF) xm_X0_addVariable xi_X0_addVariable xe_X0_addVariable wl_X4_97 ⟨rfl, rfl, hrm⟩ (ci := 0) rfl t_v0 hR hS (As := [.int v1]) rfl hsz rfl hW hdg hf kk
theorem gf_X4_94 {a : Nat} (C0 : xC D RX4 cc nL rt p s m args meth c) (hR : xRep D ty h H) (ht : ty a = some (0, 0)) (hdg : decode cc pc = .ok (.getfield 94, 3)) (kk : W p l e R s m args below meth c H locs cells slots Q (F0 m (pc + 3) ls (.int (xI h a 8) :: rest))) : W p l e R s m args below meth c H locs cells slots Q (F0 m pc ls (.ref a :: rest)) := x_get C0 hR (ci := 0) (k := 8) (N := 10) (T := TX0) rfl iX0 (by decide) rfl wf_X4_94 rfl ht hdg kk
end XN_X4_readVariable
set_option maxHeartbeats 4000000 in
set_option maxRecDepth 100000 in
theorem jc_X4_readVariable {l : Launch} {D : xD} {ty : xTy} {h : xH} {v0 : Nat} {v1 : Nat} {r : Int32} {h9 : xH} (t_v0 : ty v0 = some (0, 4)) (t_v1 : ty v1 = some (0, 0)) (hF : jf_X4_readVariable ty h v0 v1 = some (r, h9)) : Met l yX4_readVariable (xws yX4_readVariable cX4_readVariable 3 (some .boolean)) jr_X4_readVariable (xPc D ty h [.ref v0, .ref v1]) (xQ D ty (some (.int r)) h9) 0 0 (xdom ty) := by
  refine x_met (by decide) ?_
  intro p e s m below meth c C0 hR
  generalize hargs : ([.ref v0, .ref v1] : List Value).toArray = args at C0 ⊢
  have hx := C0.1
  have hb := C0.2.1
  have hown := C0.2.2.2.2.2.1
  have hts := C0.2.2.2.2.2.2.1
  have hS : xS ty s.heap s.heap [] := xS.rf
  have hl := lv_entry ([.ref v0, .ref v1]) (n := 3) (Nat.le_of_ble_eq_true rfl)
  rw [← hargs, lg_entry_eq]
  rw [hargs]
  generalize (lg_sl ([.ref v0, .ref v1]) ++ List.replicate (3 - (lg_sl ([.ref v0, .ref v1])).length) Slot.unset).toArray = ls at hl ⊢
  have hl : lv_has ls 3 [(0, .ref v0), (1, .ref v1)] := hl
  unfold jf_X4_readVariable at hF
  refine lv_aload_n hx hb dX4_readVariable_0 rfl (lv_at hl 1 rfl) ?_
  refine gf_X4_94 C0 hR t_v1 dX4_readVariable_1 ?_
  refine lv_iconst (v := 4) hx hb dX4_readVariable_4 (by decide) ?_
  refine lv_icmp_lt (tgt := 14) hx hb dX4_readVariable_5 (by decide) (fun c1 => ?_) (fun c1 => ?_)
  · have hF := xif hF c1
    refine lv_aload_n hx hb dX4_readVariable_14 rfl (lv_at hl 0 rfl) ?_
    obtain ⟨a2, e_a2, hF⟩ := xbd hF
    obtain ⟨e_a2, t_a2⟩ := xgo_sp e_a2
    refine gf_X4_12 C0 hR t_v0 e_a2 dX4_readVariable_15 ?_
    obtain ⟨h3, e_h3, hF⟩ := xbd hF
    refine cl_X4_65 C0 hR hS e_h3 t_a2 ⟨(Nat.le_of_ble_eq_true rfl), (Nat.le_of_ble_eq_true rfl)⟩ hl.1 (Nat.le_of_ble_eq_true rfl) ⟨(Nat.le_of_ble_eq_true rfl), (Nat.le_of_ble_eq_true rfl)⟩ dX4_readVariable_18 (fun H locs hR hS => ?_)
    refine lv_aload_n hx hb dX4_readVariable_21 rfl (lv_at hl 0 rfl) ?_
    obtain ⟨a4, e_a4, hF⟩ := xbd hF
    obtain ⟨e_a4, t_a4⟩ := xgo_sp e_a4
    refine gf_X4_12 C0 hR t_v0 e_a4 dX4_readVariable_22 ?_
    refine gf_X4_80 C0 hR t_a4 dX4_readVariable_25 ?_
    refine lv_istore_n (lv' := [(2, .int (xI h3 a4 7)), (0, .ref v0), (1, .ref v1)]) hx hb dX4_readVariable_28 rfl hl (by decide) rfl (fun ls hl => ?_)
    refine lv_aload_n hx hb dX4_readVariable_29 rfl (lv_at hl 1 rfl) ?_
    refine lv_aload_n hx hb dX4_readVariable_30 rfl (lv_at hl 2 rfl) ?_
    refine lv_iload_n hx hb dX4_readVariable_31 rfl (lv_at hl 0 rfl) ?_
    obtain ⟨a5, e_a5, hF⟩ := xbd hF
    refine cl_X4_83 C0 hR hS e_a5 t_v1 ⟨(Nat.le_of_ble_eq_true rfl), (Nat.le_of_ble_eq_true rfl)⟩ hl.1 (Nat.le_of_ble_eq_true rfl) ⟨(Nat.le_of_ble_eq_true rfl), (Nat.le_of_ble_eq_true rfl)⟩ dX4_readVariable_32 (fun H locs hR hS => ?_)
    obtain ⟨a7, h6, e_h6, hF⟩ := xbd2 hF
    refine cl_X4_87 C0 hR hS e_h6 t_v0 ⟨(Nat.le_of_ble_eq_true rfl), (Nat.le_of_ble_eq_true rfl)⟩ hl.1 (Nat.le_of_ble_eq_true rfl) ⟨(Nat.le_of_ble_eq_true rfl), (Nat.le_of_ble_eq_true rfl)⟩ dX4_readVariable_35 (fun H locs hR hS => ?_)
    refine lv_if_ne (tgt := 43) hx hb dX4_readVariable_38 (by decide) (fun c8 => ?_) (fun c8 => ?_)
    · have hF := xel hF c8
      refine lv_aload_n hx hb dX4_readVariable_43 rfl (lv_at hl 2 rfl) ?_
      refine lv_iload_n hx hb dX4_readVariable_44 rfl (lv_at hl 0 rfl) ?_
      obtain ⟨h9, e_h9, hF⟩ := xbd hF
      refine cl_X4_97 C0 hR hS e_h9 t_v1 ⟨(Nat.le_of_ble_eq_true rfl), (Nat.le_of_ble_eq_true rfl)⟩ hl.1 (Nat.le_of_ble_eq_true rfl) ⟨(Nat.le_of_ble_eq_true rfl), (Nat.le_of_ble_eq_true rfl)⟩ dX4_readVariable_45 (fun H locs hR hS => ?_)
      refine lv_iconst (v := 1) hx hb dX4_readVariable_48 (by decide) ?_
      cases hF
      exact x_zret (w := 1) C0 hR hS (by decide) dX4_readVariable_49
    · have hF := xif hF c8
      refine lv_iconst (v := 0) hx hb dX4_readVariable_41 (by decide) ?_
      cases hF
      exact x_zret (w := 0) C0 hR hS (by decide) dX4_readVariable_42
  · have hF := xel hF c1
    refine lv_aload_n hx hb dX4_readVariable_8 rfl (lv_at hl 0 rfl) ?_
    refine lv_iconst (v := 2) hx hb dX4_readVariable_9 (by decide) ?_
    obtain ⟨a11, h10, e_h10, hF⟩ := xbd2 hF
    refine cl_X4_56 C0 hR hS e_h10 t_v0 ⟨(Nat.le_of_ble_eq_true rfl), (Nat.le_of_ble_eq_true rfl)⟩ hl.1 (Nat.le_of_ble_eq_true rfl) ⟨(Nat.le_of_ble_eq_true rfl), (Nat.le_of_ble_eq_true rfl)⟩ dX4_readVariable_10 (fun H locs hR hS => ?_)
    obtain ⟨w12, e_w12, hF⟩ := xbd hF
    cases hF
    exact x_zret C0 hR hS e_w12 dX4_readVariable_13
theorem xm_X4_readVariable : xMw yX4_readVariable cX4_readVariable 3 (some .boolean) 1 := ⟨xin 608 (by decide +kernel) rfl, xin 117 (by decide +kernel) rfl, by decide +kernel⟩
theorem xi_X4_readVariable : Cond.instanceMethod yX4_readVariable ∈ xT := xin 607 (by decide +kernel) rfl
theorem xe_X4_readVariable : Cond.selects yX4_readVariable.cls yX4_readVariable yX4_readVariable ∈ xT := xin 11 (by decide +kernel) rfl
theorem dX4_readSign_0 : decode cX4_readSign 0 = .ok (.aload_n 1, 1) := by decide +kernel
theorem dX4_readSign_1 : decode cX4_readSign 1 = .ok (.getfield 77, 3) := by decide +kernel
theorem dX4_readSign_4 : decode cX4_readSign 4 = .ok (.bipush 8, 2) := by decide +kernel
theorem dX4_readSign_6 : decode cX4_readSign 6 = .ok (.if_icmp .lt 9, 3) := by decide +kernel
theorem dX4_readSign_9 : decode cX4_readSign 9 = .ok (.aload_n 0, 1) := by decide +kernel
theorem dX4_readSign_10 : decode cX4_readSign 10 = .ok (.iconst 2, 1) := by decide +kernel
theorem dX4_readSign_11 : decode cX4_readSign 11 = .ok (.invokevirtual 56, 3) := by decide +kernel
theorem dX4_readSign_14 : decode cX4_readSign 14 = .ok (.ireturn, 1) := by decide +kernel
theorem dX4_readSign_15 : decode cX4_readSign 15 = .ok (.aload_n 0, 1) := by decide +kernel
theorem dX4_readSign_16 : decode cX4_readSign 16 = .ok (.getfield 12, 3) := by decide +kernel
theorem dX4_readSign_19 : decode cX4_readSign 19 = .ok (.invokevirtual 65, 3) := by decide +kernel
theorem dX4_readSign_22 : decode cX4_readSign 22 = .ok (.aload_n 0, 1) := by decide +kernel
theorem dX4_readSign_23 : decode cX4_readSign 23 = .ok (.getfield 12, 3) := by decide +kernel
theorem dX4_readSign_26 : decode cX4_readSign 26 = .ok (.getfield 80, 3) := by decide +kernel
theorem dX4_readSign_29 : decode cX4_readSign 29 = .ok (.istore_n 2, 1) := by decide +kernel
theorem dX4_readSign_30 : decode cX4_readSign 30 = .ok (.aload_n 0, 1) := by decide +kernel
theorem dX4_readSign_31 : decode cX4_readSign 31 = .ok (.aload_n 1, 1) := by decide +kernel
theorem dX4_readSign_32 : decode cX4_readSign 32 = .ok (.iload_n 2, 1) := by decide +kernel
theorem dX4_readSign_33 : decode cX4_readSign 33 = .ok (.invokevirtual 83, 3) := by decide +kernel
theorem dX4_readSign_36 : decode cX4_readSign 36 = .ok (.invokevirtual 87, 3) := by decide +kernel
theorem dX4_readSign_39 : decode cX4_readSign 39 = .ok (.ifCond .ne 5, 3) := by decide +kernel
theorem dX4_readSign_42 : decode cX4_readSign 42 = .ok (.iconst 0, 1) := by decide +kernel
theorem dX4_readSign_43 : decode cX4_readSign 43 = .ok (.ireturn, 1) := by decide +kernel
theorem dX4_readSign_44 : decode cX4_readSign 44 = .ok (.aload_n 0, 1) := by decide +kernel
theorem dX4_readSign_45 : decode cX4_readSign 45 = .ok (.getfield 12, 3) := by decide +kernel
theorem dX4_readSign_48 : decode cX4_readSign 48 = .ok (.getfield 41, 3) := by decide +kernel
theorem dX4_readSign_51 : decode cX4_readSign 51 = .ok (.bipush 6, 2) := by decide +kernel
theorem dX4_readSign_53 : decode cX4_readSign 53 = .ok (.if_icmp .ne 20, 3) := by decide +kernel
theorem dX4_readSign_56 : decode cX4_readSign 56 = .ok (.aload_n 0, 1) := by decide +kernel
theorem dX4_readSign_57 : decode cX4_readSign 57 = .ok (.getfield 12, 3) := by decide +kernel
theorem dX4_readSign_60 : decode cX4_readSign 60 = .ok (.getfield 80, 3) := by decide +kernel
theorem dX4_readSign_63 : decode cX4_readSign 63 = .ok (.iconst 3, 1) := by decide +kernel
theorem dX4_readSign_64 : decode cX4_readSign 64 = .ok (.if_icmp .le 9, 3) := by decide +kernel
theorem dX4_readSign_67 : decode cX4_readSign 67 = .ok (.aload_n 0, 1) := by decide +kernel
theorem dX4_readSign_68 : decode cX4_readSign 68 = .ok (.iconst 2, 1) := by decide +kernel
theorem dX4_readSign_69 : decode cX4_readSign 69 = .ok (.invokevirtual 56, 3) := by decide +kernel
theorem dX4_readSign_72 : decode cX4_readSign 72 = .ok (.ireturn, 1) := by decide +kernel
theorem dX4_readSign_73 : decode cX4_readSign 73 = .ok (.aload_n 0, 1) := by decide +kernel
theorem dX4_readSign_74 : decode cX4_readSign 74 = .ok (.getfield 12, 3) := by decide +kernel
theorem dX4_readSign_77 : decode cX4_readSign 77 = .ok (.getfield 80, 3) := by decide +kernel
theorem dX4_readSign_80 : decode cX4_readSign 80 = .ok (.istore_n 3, 1) := by decide +kernel
theorem dX4_readSign_81 : decode cX4_readSign 81 = .ok (.aload_n 0, 1) := by decide +kernel
theorem dX4_readSign_82 : decode cX4_readSign 82 = .ok (.bipush 6, 2) := by decide +kernel
theorem dX4_readSign_84 : decode cX4_readSign 84 = .ok (.invokevirtual 48, 3) := by decide +kernel
theorem dX4_readSign_87 : decode cX4_readSign 87 = .ok (.ifCond .ne 5, 3) := by decide +kernel
theorem dX4_readSign_90 : decode cX4_readSign 90 = .ok (.iconst 0, 1) := by decide +kernel
theorem dX4_readSign_91 : decode cX4_readSign 91 = .ok (.ireturn, 1) := by decide +kernel
theorem dX4_readSign_92 : decode cX4_readSign 92 = .ok (.aload_n 1, 1) := by decide +kernel
theorem dX4_readSign_93 : decode cX4_readSign 93 = .ok (.iload_n 2, 1) := by decide +kernel
theorem dX4_readSign_94 : decode cX4_readSign 94 = .ok (.iload_n 3, 1) := by decide +kernel
theorem dX4_readSign_95 : decode cX4_readSign 95 = .ok (.invokevirtual 90, 3) := by decide +kernel
theorem dX4_readSign_98 : decode cX4_readSign 98 = .ok (.iconst 1, 1) := by decide +kernel
theorem dX4_readSign_99 : decode cX4_readSign 99 = .ok (.ireturn, 1) := by decide +kernel
theorem wl_X4_90 : Cond.methodLink RX4 90 yX0_addSign ∈ xT := xin 601 (by decide +kernel) rfl
theorem wf_X4_77 : Cond.fieldLink RX4 77 "TermShelf$Book" "signCount" "I" ∈ xT := xin 184 (by decide +kernel) rfl
section XN_X4_readSign
variable {p : Program} {l : Launch} {e : Env} {R : Room} {s : State} {m : MethodId} {args : Array Value} {below : List Frame} {meth : Method} {c : Code} {H H0 : Heap} {locs : List Loc} {cells slots : Nat} {Q : State → Prop} {cc : ByteArray} {nL pc : Nat} {rt : Option FieldType} {ls : Array Slot} {rest : List Value} {D : xD} {ty : xTy} {h : xH}
theorem cl_X4_90 {v0 : Nat} {v1 : Int32} {v2 : Int32} {h9 : xH} (C0 : xC D RX4 cc nL rt p s m args meth c) (hR : xRep D ty h H) (hS : xS ty H0 H locs) (hF : jf_X0_addSign ty h v0 v1 v2 = some h9) (t_v0 : ty v0 = some (0, 0)) (hrm : jr_X0_addSign.frames + 1 ≤ R.frames ∧ 8 + (3 + 11) + jr_X0_addSign.locals ≤ R.locals) (hsz : ls.size = nL) (hW : (rest.map fun v => v.category).sum ≤ 8) (hf : cells ≤ R.cells ∧ slots ≤ R.slots) (hdg : decode cc pc = .ok (.invokevirtual 90, 3)) (kk : ∀ (H1 : Heap) (locs1 : List Loc), xRep D ty h9 H1 → xS ty H0 H1 locs1 → W p l e R s m args below meth c H1 locs1 cells slots Q (F0 m (pc + 3) ls rest)) : W p l e R s m args below meth c H locs cells slots Q (F0 m pc ls (.int v2 :: .int v1 :: .ref v0 :: rest)) := x_callV C0 (jc_X0_addSign t_v0 hF) xm_X0_addSign xi_X0_addSign xe_X0_addSign wl_X4_90 ⟨rfl, rfl, hrm⟩ (ci := 0) rfl t_v0 hR hS (As := [.int v1, .int v2]) rfl hsz rfl hW hdg hf kk
theorem gf_X4_77 {a : Nat} (C0 : xC D RX4 cc nL rt p s m args meth c) (hR : xRep D ty h H) (ht : ty a = some (0, 0)) (hdg : decode cc pc = .ok (.getfield 77, 3)) (kk : W p l e R s m args below meth c H locs cells slots Q (F0 m (pc + 3) ls (.int (xI h a 7) :: rest))) : W p l e R s m args below meth c H locs cells slots Q (F0 m pc ls (.ref a :: rest)) := x_get C0 hR (ci := 0) (k := 7) (N := 10) (T := TX0) rfl iX0 (by decide) rfl wf_X4_77 rfl ht hdg kk
end XN_X4_readSign
set_option maxHeartbeats 4000000 in
set_option maxRecDepth 100000 in
theorem jw_X4_readSign_73 {p : Program} {l : Launch} {e : Env} {s : State} {m : MethodId} {args : Array Value} {below : List Frame} {meth : Method} {c : Code} {D : xD} {ty : xTy} (C0 : xC D RX4 cX4_readSign 4 (some .boolean) p s m args meth c) {r : Int32} {h9 : xH} : ∀ (v0 : Nat) (v1 : Nat) (v2 : Int32) (h : xH), ty v0 = some (0, 4) → ty v1 = some (0, 0) → jf_X4_readSign_73 ty v0 v1 v2 h = some (r, h9) → ∀ (H : Heap) (locs : List Loc), xRep D ty h H → xS ty s.heap H locs → ∀ ls : Array Slot, lv_has ls 4 [(0, .ref v0), (1, .ref v1), (2, .int v2)] → W p l e jr_X4_readSign s m args below meth c H locs 0 0 (MQ below (xQ D ty (some (.int r)) h9) args s 0 0 (xdom ty)) (F0 m 73 ls []) := by
  have hx := C0.1
  have hb := C0.2.1
  have hown := C0.2.2.2.2.2.1
  have hts := C0.2.2.2.2.2.2.1
  intro v0 v1 v2 h t_v0 t_v1 hF H locs hR hS ls hl
  unfold jf_X4_readSign_73 at hF
  refine lv_aload_n hx hb dX4_readSign_73 rfl (lv_at hl 0 rfl) ?_
  obtain ⟨a1, e_a1, hF⟩ := xbd hF
  obtain ⟨e_a1, t_a1⟩ := xgo_sp e_a1
  refine gf_X4_12 C0 hR t_v0 e_a1 dX4_readSign_74 ?_
  refine gf_X4_80 C0 hR t_a1 dX4_readSign_77 ?_
  refine lv_istore_n (lv' := [(3, .int (xI h a1 7)), (0, .ref v0), (1, .ref v1), (2, .int v2)]) hx hb dX4_readSign_80 rfl hl (by decide) rfl (fun ls hl => ?_)
  refine lv_aload_n hx hb dX4_readSign_81 rfl (lv_at hl 1 rfl) ?_
  refine lv_bipush (v := 6) hx hb dX4_readSign_82 (by decide) ?_
  obtain ⟨a3, h2, e_h2, hF⟩ := xbd2 hF
  refine cl_X4_48 C0 hR hS e_h2 t_v0 ⟨(Nat.le_of_ble_eq_true rfl), (Nat.le_of_ble_eq_true rfl)⟩ hl.1 (Nat.le_of_ble_eq_true rfl) ⟨(Nat.le_of_ble_eq_true rfl), (Nat.le_of_ble_eq_true rfl)⟩ dX4_readSign_84 (fun H locs hR hS => ?_)
  refine lv_if_ne (tgt := 92) hx hb dX4_readSign_87 (by decide) (fun c4 => ?_) (fun c4 => ?_)
  · have hF := xel hF c4
    refine lv_aload_n hx hb dX4_readSign_92 rfl (lv_at hl 2 rfl) ?_
    refine lv_iload_n hx hb dX4_readSign_93 rfl (lv_at hl 3 rfl) ?_
    refine lv_iload_n hx hb dX4_readSign_94 rfl (lv_at hl 0 rfl) ?_
    obtain ⟨h5, e_h5, hF⟩ := xbd hF
    refine cl_X4_90 C0 hR hS e_h5 t_v1 ⟨(Nat.le_of_ble_eq_true rfl), (Nat.le_of_ble_eq_true rfl)⟩ hl.1 (Nat.le_of_ble_eq_true rfl) ⟨(Nat.le_of_ble_eq_true rfl), (Nat.le_of_ble_eq_true rfl)⟩ dX4_readSign_95 (fun H locs hR hS => ?_)
    refine lv_iconst (v := 1) hx hb dX4_readSign_98 (by decide) ?_
    cases hF
    exact x_zret (w := 1) C0 hR hS (by decide) dX4_readSign_99
  · have hF := xif hF c4
    refine lv_iconst (v := 0) hx hb dX4_readSign_90 (by decide) ?_
    cases hF
    exact x_zret (w := 0) C0 hR hS (by decide) dX4_readSign_91
set_option maxHeartbeats 4000000 in
set_option maxRecDepth 100000 in
theorem jc_X4_readSign {l : Launch} {D : xD} {ty : xTy} {h : xH} {v0 : Nat} {v1 : Nat} {r : Int32} {h9 : xH} (t_v0 : ty v0 = some (0, 4)) (t_v1 : ty v1 = some (0, 0)) (hF : jf_X4_readSign ty h v0 v1 = some (r, h9)) : Met l yX4_readSign (xws yX4_readSign cX4_readSign 4 (some .boolean)) jr_X4_readSign (xPc D ty h [.ref v0, .ref v1]) (xQ D ty (some (.int r)) h9) 0 0 (xdom ty) := by
  refine x_met (by decide) ?_
  intro p e s m below meth c C0 hR
  generalize hargs : ([.ref v0, .ref v1] : List Value).toArray = args at C0 ⊢
  have hx := C0.1
  have hb := C0.2.1
  have hown := C0.2.2.2.2.2.1
  have hts := C0.2.2.2.2.2.2.1
  have hS : xS ty s.heap s.heap [] := xS.rf
  have hl := lv_entry ([.ref v0, .ref v1]) (n := 4) (Nat.le_of_ble_eq_true rfl)
  rw [← hargs, lg_entry_eq]
  rw [hargs]
  generalize (lg_sl ([.ref v0, .ref v1]) ++ List.replicate (4 - (lg_sl ([.ref v0, .ref v1])).length) Slot.unset).toArray = ls at hl ⊢
  have hl : lv_has ls 4 [(0, .ref v0), (1, .ref v1)] := hl
  unfold jf_X4_readSign at hF
  refine lv_aload_n hx hb dX4_readSign_0 rfl (lv_at hl 1 rfl) ?_
  refine gf_X4_77 C0 hR t_v1 dX4_readSign_1 ?_
  refine lv_bipush (v := 8) hx hb dX4_readSign_4 (by decide) ?_
  refine lv_icmp_lt (tgt := 15) hx hb dX4_readSign_6 (by decide) (fun c6 => ?_) (fun c6 => ?_)
  · have hF := xif hF c6
    refine lv_aload_n hx hb dX4_readSign_15 rfl (lv_at hl 0 rfl) ?_
    obtain ⟨a7, e_a7, hF⟩ := xbd hF
    obtain ⟨e_a7, t_a7⟩ := xgo_sp e_a7
    refine gf_X4_12 C0 hR t_v0 e_a7 dX4_readSign_16 ?_
    obtain ⟨h8, e_h8, hF⟩ := xbd hF
    refine cl_X4_65 C0 hR hS e_h8 t_a7 ⟨(Nat.le_of_ble_eq_true rfl), (Nat.le_of_ble_eq_true rfl)⟩ hl.1 (Nat.le_of_ble_eq_true rfl) ⟨(Nat.le_of_ble_eq_true rfl), (Nat.le_of_ble_eq_true rfl)⟩ dX4_readSign_19 (fun H locs hR hS => ?_)
    refine lv_aload_n hx hb dX4_readSign_22 rfl (lv_at hl 0 rfl) ?_
    obtain ⟨a9, e_a9, hF⟩ := xbd hF
    obtain ⟨e_a9, t_a9⟩ := xgo_sp e_a9
    refine gf_X4_12 C0 hR t_v0 e_a9 dX4_readSign_23 ?_
    refine gf_X4_80 C0 hR t_a9 dX4_readSign_26 ?_
    refine lv_istore_n (lv' := [(2, .int (xI h8 a9 7)), (0, .ref v0), (1, .ref v1)]) hx hb dX4_readSign_29 rfl hl (by decide) rfl (fun ls hl => ?_)
    refine lv_aload_n hx hb dX4_readSign_30 rfl (lv_at hl 1 rfl) ?_
    refine lv_aload_n hx hb dX4_readSign_31 rfl (lv_at hl 2 rfl) ?_
    refine lv_iload_n hx hb dX4_readSign_32 rfl (lv_at hl 0 rfl) ?_
    obtain ⟨a10, e_a10, hF⟩ := xbd hF
    refine cl_X4_83 C0 hR hS e_a10 t_v1 ⟨(Nat.le_of_ble_eq_true rfl), (Nat.le_of_ble_eq_true rfl)⟩ hl.1 (Nat.le_of_ble_eq_true rfl) ⟨(Nat.le_of_ble_eq_true rfl), (Nat.le_of_ble_eq_true rfl)⟩ dX4_readSign_33 (fun H locs hR hS => ?_)
    obtain ⟨a12, h11, e_h11, hF⟩ := xbd2 hF
    refine cl_X4_87 C0 hR hS e_h11 t_v0 ⟨(Nat.le_of_ble_eq_true rfl), (Nat.le_of_ble_eq_true rfl)⟩ hl.1 (Nat.le_of_ble_eq_true rfl) ⟨(Nat.le_of_ble_eq_true rfl), (Nat.le_of_ble_eq_true rfl)⟩ dX4_readSign_36 (fun H locs hR hS => ?_)
    refine lv_if_ne (tgt := 44) hx hb dX4_readSign_39 (by decide) (fun c13 => ?_) (fun c13 => ?_)
    · have hF := xel hF c13
      refine lv_aload_n hx hb dX4_readSign_44 rfl (lv_at hl 1 rfl) ?_
      obtain ⟨a14, e_a14, hF⟩ := xbd hF
      obtain ⟨e_a14, t_a14⟩ := xgo_sp e_a14
      refine gf_X4_12 C0 hR t_v0 e_a14 dX4_readSign_45 ?_
      refine gf_X4_41 C0 hR t_a14 dX4_readSign_48 ?_
      refine lv_bipush (v := 6) hx hb dX4_readSign_51 (by decide) ?_
      refine lv_icmp_ne (tgt := 73) hx hb dX4_readSign_53 (by decide) (fun c15 => ?_) (fun c15 => ?_)
      · have hF := xel hF c15
        exact jw_X4_readSign_73 C0 _ _ _ _ t_v0 t_v1 hF _ _ hR hS _ (lv_sub hl [1, 2, 0] rfl)
      · have hF := xif hF c15
        refine lv_aload_n hx hb dX4_readSign_56 rfl (lv_at hl 1 rfl) ?_
        obtain ⟨a16, e_a16, hF⟩ := xbd hF
        obtain ⟨e_a16, t_a16⟩ := xgo_sp e_a16
        refine gf_X4_12 C0 hR t_v0 e_a16 dX4_readSign_57 ?_
        refine gf_X4_80 C0 hR t_a16 dX4_readSign_60 ?_
        refine lv_iconst (v := 3) hx hb dX4_readSign_63 (by decide) ?_
        refine lv_icmp_le (tgt := 73) hx hb dX4_readSign_64 (by decide) (fun c17 => ?_) (fun c17 => ?_)
        · have hF := xif hF c17
          exact jw_X4_readSign_73 C0 _ _ _ _ t_v0 t_v1 hF _ _ hR hS _ (lv_sub hl [1, 2, 0] rfl)
        · have hF := xel hF c17
          refine lv_aload_n hx hb dX4_readSign_67 rfl (lv_at hl 1 rfl) ?_
          refine lv_iconst (v := 2) hx hb dX4_readSign_68 (by decide) ?_
          obtain ⟨a19, h18, e_h18, hF⟩ := xbd2 hF
          refine cl_X4_56 C0 hR hS e_h18 t_v0 ⟨(Nat.le_of_ble_eq_true rfl), (Nat.le_of_ble_eq_true rfl)⟩ hl.1 (Nat.le_of_ble_eq_true rfl) ⟨(Nat.le_of_ble_eq_true rfl), (Nat.le_of_ble_eq_true rfl)⟩ dX4_readSign_69 (fun H locs hR hS => ?_)
          obtain ⟨w20, e_w20, hF⟩ := xbd hF
          cases hF
          exact x_zret C0 hR hS e_w20 dX4_readSign_72
    · have hF := xif hF c13
      refine lv_iconst (v := 0) hx hb dX4_readSign_42 (by decide) ?_
      cases hF
      exact x_zret (w := 0) C0 hR hS (by decide) dX4_readSign_43
  · have hF := xel hF c6
    refine lv_aload_n hx hb dX4_readSign_9 rfl (lv_at hl 0 rfl) ?_
    refine lv_iconst (v := 2) hx hb dX4_readSign_10 (by decide) ?_
    obtain ⟨a22, h21, e_h21, hF⟩ := xbd2 hF
    refine cl_X4_56 C0 hR hS e_h21 t_v0 ⟨(Nat.le_of_ble_eq_true rfl), (Nat.le_of_ble_eq_true rfl)⟩ hl.1 (Nat.le_of_ble_eq_true rfl) ⟨(Nat.le_of_ble_eq_true rfl), (Nat.le_of_ble_eq_true rfl)⟩ dX4_readSign_11 (fun H locs hR hS => ?_)
    obtain ⟨w23, e_w23, hF⟩ := xbd hF
    cases hF
    exact x_zret C0 hR hS e_w23 dX4_readSign_14
theorem xm_X4_readSign : xMw yX4_readSign cX4_readSign 4 (some .boolean) 1 := ⟨xin 580 (by decide +kernel) rfl, xin 117 (by decide +kernel) rfl, by decide +kernel⟩
theorem xi_X4_readSign : Cond.instanceMethod yX4_readSign ∈ xT := xin 579 (by decide +kernel) rfl
theorem xe_X4_readSign : Cond.selects yX4_readSign.cls yX4_readSign yX4_readSign ∈ xT := xin 7 (by decide +kernel) rfl
theorem dX4_readLine_0 : decode cX4_readLine 0 = .ok (.aload_n 0, 1) := by decide +kernel
theorem dX4_readLine_1 : decode cX4_readLine 1 = .ok (.getfield 12, 3) := by decide +kernel
theorem dX4_readLine_4 : decode cX4_readLine 4 = .ok (.getfield 41, 3) := by decide +kernel
theorem dX4_readLine_7 : decode cX4_readLine 7 = .ok (.tableswitch 43 3 5 #[25, 31, 37], 25) := by decide +kernel
theorem dX4_readLine_32 : decode cX4_readLine 32 = .ok (.aload_n 0, 1) := by decide +kernel
theorem dX4_readLine_33 : decode cX4_readLine 33 = .ok (.aload_n 1, 1) := by decide +kernel
theorem dX4_readLine_34 : decode cX4_readLine 34 = .ok (.invokevirtual 68, 3) := by decide +kernel
theorem dX4_readLine_37 : decode cX4_readLine 37 = .ok (.ireturn, 1) := by decide +kernel
theorem dX4_readLine_38 : decode cX4_readLine 38 = .ok (.aload_n 0, 1) := by decide +kernel
theorem dX4_readLine_39 : decode cX4_readLine 39 = .ok (.aload_n 1, 1) := by decide +kernel
theorem dX4_readLine_40 : decode cX4_readLine 40 = .ok (.invokevirtual 71, 3) := by decide +kernel
theorem dX4_readLine_43 : decode cX4_readLine 43 = .ok (.ireturn, 1) := by decide +kernel
theorem dX4_readLine_44 : decode cX4_readLine 44 = .ok (.aload_n 0, 1) := by decide +kernel
theorem dX4_readLine_45 : decode cX4_readLine 45 = .ok (.aload_n 1, 1) := by decide +kernel
theorem dX4_readLine_46 : decode cX4_readLine 46 = .ok (.invokevirtual 74, 3) := by decide +kernel
theorem dX4_readLine_49 : decode cX4_readLine 49 = .ok (.ireturn, 1) := by decide +kernel
theorem dX4_readLine_50 : decode cX4_readLine 50 = .ok (.aload_n 0, 1) := by decide +kernel
theorem dX4_readLine_51 : decode cX4_readLine 51 = .ok (.iconst 1, 1) := by decide +kernel
theorem dX4_readLine_52 : decode cX4_readLine 52 = .ok (.invokevirtual 56, 3) := by decide +kernel
theorem dX4_readLine_55 : decode cX4_readLine 55 = .ok (.ireturn, 1) := by decide +kernel
theorem wl_X4_68 : Cond.methodLink RX4 68 yX4_readSign ∈ xT := xin 577 (by decide +kernel) rfl
theorem wl_X4_71 : Cond.methodLink RX4 71 yX4_readVariable ∈ xT := xin 605 (by decide +kernel) rfl
theorem wl_X4_74 : Cond.methodLink RX4 74 yX4_readRule ∈ xT := xin 613 (by decide +kernel) rfl
section XN_X4_readLine
variable {p : Program} {l : Launch} {e : Env} {R : Room} {s : State} {m : MethodId} {args : Array Value} {below : List Frame} {meth : Method} {c : Code} {H H0 : Heap} {locs : List Loc} {cells slots : Nat} {Q : State → Prop} {cc : ByteArray} {nL pc : Nat} {rt : Option FieldType} {ls : Array Slot} {rest : List Value} {D : xD} {ty : xTy} {h : xH}
theorem cl_X4_68 {v0 : Nat} {v1 : Nat} {r : Int32} {h9 : xH} (C0 : xC D RX4 cc nL rt p s m args meth c) (hR : xRep D ty h H) (hS : xS ty H0 H locs) (hF : jf_X4_readSign ty h v0 v1 = some (r, h9)) (t_v0 : ty v0 = some (0, 4)) (t_v1 : ty v1 = some (0, 0)) (hrm : jr_X4_readSign.frames + 1 ≤ R.frames ∧ 8 + (4 + 11) + jr_X4_readSign.locals ≤ R.locals) (hsz : ls.size = nL) (hW : (rest.map fun v => v.category).sum ≤ 8) (hf : cells ≤ R.cells ∧ slots ≤ R.slots) (hdg : decode cc pc = .ok (.invokevirtual 68, 3)) (kk : ∀ (H1 : Heap) (locs1 : List Loc), xRep D ty h9 H1 → xS ty H0 H1 locs1 → W p l e R s m args below meth c H1 locs1 cells slots Q (F0 m (pc + 3) ls (.int r :: rest))) : W p l e R s m args below meth c H locs cells slots Q (F0 m pc ls (.ref v1 :: .ref v0 :: rest)) := x_callV C0 (jc_X4_readSign t_v0 t_v1 hF) xm_X4_readSign xi_X4_readSign xe_X4_readSign wl_X4_68 ⟨rfl, rfl, hrm⟩ (ci := 4) rfl t_v0 hR hS (As := [.ref v1]) rfl hsz rfl hW hdg hf kk
theorem cl_X4_71 {v0 : Nat} {v1 : Nat} {r : Int32} {h9 : xH} (C0 : xC D RX4 cc nL rt p s m args meth c) (hR : xRep D ty h H) (hS : xS ty H0 H locs) (hF : jf_X4_readVariable ty h v0 v1 = some (r, h9)) (t_v0 : ty v0 = some (0, 4)) (t_v1 : ty v1 = some (0, 0)) (hrm : jr_X4_readVariable.frames + 1 ≤ R.frames ∧ 8 + (3 + 11) + jr_X4_readVariable.locals ≤ R.locals) (hsz : ls.size = nL) (hW : (rest.map fun v => v.category).sum ≤ 8) (hf : cells ≤ R.cells ∧ slots ≤ R.slots) (hdg : decode cc pc = .ok (.invokevirtual 71, 3)) (kk : ∀ (H1 : Heap) (locs1 : List Loc), xRep D ty h9 H1 → xS ty H0 H1 locs1 → W p l e R s m args below meth c H1 locs1 cells slots Q (F0 m (pc + 3) ls (.int r :: rest))) : W p l e R s m args below meth c H locs cells slots Q (F0 m pc ls (.ref v1 :: .ref v0 :: rest)) := x_callV C0 (jc_X4_readVariable t_v0 t_v1 hF) xm_X4_readVariable xi_X4_readVariable xe_X4_readVariable wl_X4_71 ⟨rfl, rfl, hrm⟩ (ci := 4) rfl t_v0 hR hS (As := [.ref v1]) rfl hsz rfl hW hdg hf kk
theorem cl_X4_74 {v0 : Nat} {v1 : Nat} {r : Int32} {h9 : xH} (C0 : xC D RX4 cc nL rt p s m args meth c) (hR : xRep D ty h H) (hS : xS ty H0 H locs) (hF : jf_X4_readRule ty h v0 v1 = some (r, h9)) (t_v0 : ty v0 = some (0, 4)) (t_v1 : ty v1 = some (0, 0)) (hrm : jr_X4_readRule.frames + 1 ≤ R.frames ∧ 8 + (5 + 11) + jr_X4_readRule.locals ≤ R.locals) (hsz : ls.size = nL) (hW : (rest.map fun v => v.category).sum ≤ 8) (hf : cells ≤ R.cells ∧ slots ≤ R.slots) (hdg : decode cc pc = .ok (.invokevirtual 74, 3)) (kk : ∀ (H1 : Heap) (locs1 : List Loc), xRep D ty h9 H1 → xS ty H0 H1 locs1 → W p l e R s m args below meth c H1 locs1 cells slots Q (F0 m (pc + 3) ls (.int r :: rest))) : W p l e R s m args below meth c H locs cells slots Q (F0 m pc ls (.ref v1 :: .ref v0 :: rest)) := x_callV C0 (jc_X4_readRule t_v0 t_v1 hF) xm_X4_readRule xi_X4_readRule xe_X4_readRule wl_X4_74 ⟨rfl, rfl, hrm⟩ (ci := 4) rfl t_v0 hR hS (As := [.ref v1]) rfl hsz rfl hW hdg hf kk
end XN_X4_readLine
set_option maxHeartbeats 4000000 in
set_option maxRecDepth 100000 in
theorem jc_X4_readLine {l : Launch} {D : xD} {ty : xTy} {h : xH} {v0 : Nat} {v1 : Nat} {r : Int32} {h9 : xH} (t_v0 : ty v0 = some (0, 4)) (t_v1 : ty v1 = some (0, 0)) (hF : jf_X4_readLine ty h v0 v1 = some (r, h9)) : Met l yX4_readLine (xws yX4_readLine cX4_readLine 2 (some .boolean)) jr_X4_readLine (xPc D ty h [.ref v0, .ref v1]) (xQ D ty (some (.int r)) h9) 0 0 (xdom ty) := by
  refine x_met (by decide) ?_
  intro p e s m below meth c C0 hR
  generalize hargs : ([.ref v0, .ref v1] : List Value).toArray = args at C0 ⊢
  have hx := C0.1
  have hb := C0.2.1
  have hown := C0.2.2.2.2.2.1
  have hts := C0.2.2.2.2.2.2.1
  have hS : xS ty s.heap s.heap [] := xS.rf
  have hl := lv_entry ([.ref v0, .ref v1]) (n := 2) (Nat.le_of_ble_eq_true rfl)
  rw [← hargs, lg_entry_eq]
  rw [hargs]
  generalize (lg_sl ([.ref v0, .ref v1]) ++ List.replicate (2 - (lg_sl ([.ref v0, .ref v1])).length) Slot.unset).toArray = ls at hl ⊢
  have hl : lv_has ls 2 [(0, .ref v0), (1, .ref v1)] := hl
  unfold jf_X4_readLine at hF
  refine lv_aload_n hx hb dX4_readLine_0 rfl (lv_at hl 0 rfl) ?_
  obtain ⟨a1, e_a1, hF⟩ := xbd hF
  obtain ⟨e_a1, t_a1⟩ := xgo_sp e_a1
  refine gf_X4_12 C0 hR t_v0 e_a1 dX4_readLine_1 ?_
  refine gf_X4_41 C0 hR t_a1 dX4_readLine_4 ?_
  by_cases c2 : (xI h a1 5) = 3
  · have hF := xif hF c2
    refine lv_tableIn (tgt := 32) (off := 25) hx hb dX4_readLine_7 (by rw [c2]; decide) (by rw [c2]; decide) (by rw [c2]; rfl) (by decide) ?_
    refine lv_aload_n hx hb dX4_readLine_32 rfl (lv_at hl 0 rfl) ?_
    refine lv_aload_n hx hb dX4_readLine_33 rfl (lv_at hl 1 rfl) ?_
    obtain ⟨a4, h3, e_h3, hF⟩ := xbd2 hF
    refine cl_X4_68 C0 hR hS e_h3 t_v0 t_v1 ⟨(Nat.le_of_ble_eq_true rfl), (Nat.le_of_ble_eq_true rfl)⟩ hl.1 (Nat.le_of_ble_eq_true rfl) ⟨(Nat.le_of_ble_eq_true rfl), (Nat.le_of_ble_eq_true rfl)⟩ dX4_readLine_34 (fun H locs hR hS => ?_)
    obtain ⟨w5, e_w5, hF⟩ := xbd hF
    cases hF
    exact x_zret C0 hR hS e_w5 dX4_readLine_37
  · have hF := xel hF c2
    by_cases c6 : (xI h a1 5) = 4
    · have hF := xif hF c6
      refine lv_tableIn (tgt := 38) (off := 31) hx hb dX4_readLine_7 (by rw [c6]; decide) (by rw [c6]; decide) (by rw [c6]; rfl) (by decide) ?_
      refine lv_aload_n hx hb dX4_readLine_38 rfl (lv_at hl 0 rfl) ?_
      refine lv_aload_n hx hb dX4_readLine_39 rfl (lv_at hl 1 rfl) ?_
      obtain ⟨a8, h7, e_h7, hF⟩ := xbd2 hF
      refine cl_X4_71 C0 hR hS e_h7 t_v0 t_v1 ⟨(Nat.le_of_ble_eq_true rfl), (Nat.le_of_ble_eq_true rfl)⟩ hl.1 (Nat.le_of_ble_eq_true rfl) ⟨(Nat.le_of_ble_eq_true rfl), (Nat.le_of_ble_eq_true rfl)⟩ dX4_readLine_40 (fun H locs hR hS => ?_)
      obtain ⟨w9, e_w9, hF⟩ := xbd hF
      cases hF
      exact x_zret C0 hR hS e_w9 dX4_readLine_43
    · have hF := xel hF c6
      by_cases c10 : (xI h a1 5) = 5
      · have hF := xif hF c10
        refine lv_tableIn (tgt := 44) (off := 37) hx hb dX4_readLine_7 (by rw [c10]; decide) (by rw [c10]; decide) (by rw [c10]; rfl) (by decide) ?_
        refine lv_aload_n hx hb dX4_readLine_44 rfl (lv_at hl 0 rfl) ?_
        refine lv_aload_n hx hb dX4_readLine_45 rfl (lv_at hl 1 rfl) ?_
        obtain ⟨a12, h11, e_h11, hF⟩ := xbd2 hF
        refine cl_X4_74 C0 hR hS e_h11 t_v0 t_v1 ⟨(Nat.le_of_ble_eq_true rfl), (Nat.le_of_ble_eq_true rfl)⟩ hl.1 (Nat.le_of_ble_eq_true rfl) ⟨(Nat.le_of_ble_eq_true rfl), (Nat.le_of_ble_eq_true rfl)⟩ dX4_readLine_46 (fun H locs hR hS => ?_)
        obtain ⟨w13, e_w13, hF⟩ := xbd hF
        cases hF
        exact x_zret C0 hR hS e_w13 dX4_readLine_49
      · have hF := xel hF c10
        have g_c2 : ¬ (xI h a1 5).toInt = 3 := fun z => c2 (Int32.toInt_inj.mp (z.trans (by decide)))
        have g_c6 : ¬ (xI h a1 5).toInt = 4 := fun z => c6 (Int32.toInt_inj.mp (z.trans (by decide)))
        have g_c10 : ¬ (xI h a1 5).toInt = 5 := fun z => c10 (Int32.toInt_inj.mp (z.trans (by decide)))
        refine lv_tableOut (tgt := 50) hx hb dX4_readLine_7 (by omega) (by decide) ?_
        refine lv_aload_n hx hb dX4_readLine_50 rfl (lv_at hl 0 rfl) ?_
        refine lv_iconst (v := 1) hx hb dX4_readLine_51 (by decide) ?_
        obtain ⟨a15, h14, e_h14, hF⟩ := xbd2 hF
        refine cl_X4_56 C0 hR hS e_h14 t_v0 ⟨(Nat.le_of_ble_eq_true rfl), (Nat.le_of_ble_eq_true rfl)⟩ hl.1 (Nat.le_of_ble_eq_true rfl) ⟨(Nat.le_of_ble_eq_true rfl), (Nat.le_of_ble_eq_true rfl)⟩ dX4_readLine_52 (fun H locs hR hS => ?_)
        obtain ⟨w16, e_w16, hF⟩ := xbd hF
        cases hF
        exact x_zret C0 hR hS e_w16 dX4_readLine_55
theorem xm_X4_readLine : xMw yX4_readLine cX4_readLine 2 (some .boolean) 1 := ⟨xin 576 (by decide +kernel) rfl, xin 117 (by decide +kernel) rfl, by decide +kernel⟩
theorem xi_X4_readLine : Cond.instanceMethod yX4_readLine ∈ xT := xin 575 (by decide +kernel) rfl
theorem xe_X4_readLine : Cond.selects yX4_readLine.cls yX4_readLine yX4_readLine ∈ xT := xin 6 (by decide +kernel) rfl
theorem dX4_readLines_0 : decode cX4_readLines 0 = .ok (.aload_n 0, 1) := by decide +kernel
theorem dX4_readLines_1 : decode cX4_readLines 1 = .ok (.aload_n 1, 1) := by decide +kernel
theorem dX4_readLines_2 : decode cX4_readLines 2 = .ok (.iload_n 2, 1) := by decide +kernel
theorem dX4_readLines_3 : decode cX4_readLines 3 = .ok (.invokevirtual 32, 3) := by decide +kernel
theorem dX4_readLines_6 : decode cX4_readLines 6 = .ok (.aload_n 3, 1) := by decide +kernel
theorem dX4_readLines_7 : decode cX4_readLines 7 = .ok (.invokevirtual 36, 3) := by decide +kernel
theorem dX4_readLines_10 : decode cX4_readLines 10 = .ok (.iconst 0, 1) := by decide +kernel
theorem dX4_readLines_11 : decode cX4_readLines 11 = .ok (.istore 4, 2) := by decide +kernel
theorem dX4_readLines_13 : decode cX4_readLines 13 = .ok (.iload 4, 2) := by decide +kernel
theorem dX4_readLines_15 : decode cX4_readLines 15 = .ok (.sipush 700, 3) := by decide +kernel
theorem dX4_readLines_18 : decode cX4_readLines 18 = .ok (.if_icmp .gt 38, 3) := by decide +kernel
theorem dX4_readLines_21 : decode cX4_readLines 21 = .ok (.aload_n 0, 1) := by decide +kernel
theorem dX4_readLines_22 : decode cX4_readLines 22 = .ok (.getfield 12, 3) := by decide +kernel
theorem dX4_readLines_25 : decode cX4_readLines 25 = .ok (.getfield 41, 3) := by decide +kernel
theorem dX4_readLines_28 : decode cX4_readLines 28 = .ok (.ifCond .eq 28, 3) := by decide +kernel
theorem dX4_readLines_31 : decode cX4_readLines 31 = .ok (.aload_n 0, 1) := by decide +kernel
theorem dX4_readLines_32 : decode cX4_readLines 32 = .ok (.aload_n 3, 1) := by decide +kernel
theorem dX4_readLines_33 : decode cX4_readLines 33 = .ok (.invokevirtual 44, 3) := by decide +kernel
theorem dX4_readLines_36 : decode cX4_readLines 36 = .ok (.ifCond .eq 12, 3) := by decide +kernel
theorem dX4_readLines_39 : decode cX4_readLines 39 = .ok (.aload_n 0, 1) := by decide +kernel
theorem dX4_readLines_40 : decode cX4_readLines 40 = .ok (.bipush 59, 2) := by decide +kernel
theorem dX4_readLines_42 : decode cX4_readLines 42 = .ok (.invokevirtual 48, 3) := by decide +kernel
theorem dX4_readLines_45 : decode cX4_readLines 45 = .ok (.ifCond .ne 5, 3) := by decide +kernel
theorem dX4_readLines_48 : decode cX4_readLines 48 = .ok (.iconst (-1), 1) := by decide +kernel
theorem dX4_readLines_49 : decode cX4_readLines 49 = .ok (.ireturn, 1) := by decide +kernel
theorem dX4_readLines_50 : decode cX4_readLines 50 = .ok (.iinc 4 1, 3) := by decide +kernel
theorem dX4_readLines_53 : decode cX4_readLines 53 = .ok (.goto (-40), 3) := by decide +kernel
theorem dX4_readLines_56 : decode cX4_readLines 56 = .ok (.iload 4, 2) := by decide +kernel
theorem dX4_readLines_58 : decode cX4_readLines 58 = .ok (.ireturn, 1) := by decide +kernel
theorem wl_X4_32 : Cond.methodLink RX4 32 yX4_begin ∈ xT := xin 523 (by decide +kernel) rfl
theorem wl_X4_36 : Cond.methodLink RX4 36 yX0_clear ∈ xT := xin 569 (by decide +kernel) rfl
theorem wl_X4_44 : Cond.methodLink RX4 44 yX4_readLine ∈ xT := xin 573 (by decide +kernel) rfl
section XN_X4_readLines
variable {p : Program} {l : Launch} {e : Env} {R : Room} {s : State} {m : MethodId} {args : Array Value} {below : List Frame} {meth : Method} {c : Code} {H H0 : Heap} {locs : List Loc} {cells slots : Nat} {Q : State → Prop} {cc : ByteArray} {nL pc : Nat} {rt : Option FieldType} {ls : Array Slot} {rest : List Value} {D : xD} {ty : xTy} {h : xH}
theorem cl_X4_32 {v0 : Nat} {v1 : Nat} {v2 : Int32} {h9 : xH} (C0 : xC D RX4 cc nL rt p s m args meth c) (hR : xRep D ty h H) (hS : xS ty H0 H locs) (hF : jf_X4_begin ty h v0 v1 v2 = some h9) (t_v0 : ty v0 = some (0, 4)) (hrm : jr_X4_begin.frames + 1 ≤ R.frames ∧ 8 + (3 + 11) + jr_X4_begin.locals ≤ R.locals) (hsz : ls.size = nL) (hW : (rest.map fun v => v.category).sum ≤ 8) (hf : cells ≤ R.cells ∧ slots ≤ R.slots) (hdg : decode cc pc = .ok (.invokevirtual 32, 3)) (kk : ∀ (H1 : Heap) (locs1 : List Loc), xRep D ty h9 H1 → xS ty H0 H1 locs1 → W p l e R s m args below meth c H1 locs1 cells slots Q (F0 m (pc + 3) ls rest)) : W p l e R s m args below meth c H locs cells slots Q (F0 m pc ls (.int v2 :: .ref v1 :: .ref v0 :: rest)) := x_callV C0 (jc_X4_begin t_v0 hF) xm_X4_begin xi_X4_begin xe_X4_begin wl_X4_32 ⟨rfl, rfl, hrm⟩ (ci := 4) rfl t_v0 hR hS (As := [.ref v1, .int v2]) rfl hsz rfl hW hdg hf kk
theorem cl_X4_36 {v0 : Nat} {h9 : xH} (C0 : xC D RX4 cc nL rt p s m args meth c) (hR : xRep D ty h H) (hS : xS ty H0 H locs) (hF : jf_X0_clear ty h v0 = some h9) (t_v0 : ty v0 = some (0, 0)) (hrm : jr_X0_clear.frames + 1 ≤ R.frames ∧ 8 + (1 + 11) + jr_X0_clear.locals ≤ R.locals) (hsz : ls.size = nL) (hW : (rest.map fun v => v.category).sum ≤ 8) (hf : cells ≤ R.cells ∧ slots ≤ R.slots) (hdg : decode cc pc = .ok (.invokevirtual 36, 3)) (kk : ∀ (H1 : Heap) (locs1 : List Loc), xRep D ty h9 H1 → xS ty H0 H1 locs1 → W p l e R s m args below meth c H1 locs1 cells slots Q (F0 m (pc + 3) ls rest)) : W p l e R s m args below meth c H locs cells slots Q (F0 m pc ls (.ref v0 :: rest)) := x_callV C0 (jc_X0_clear t_v0 hF) xm_X0_clear xi_X0_clear xe_X0_clear wl_X4_36 ⟨rfl, rfl, hrm⟩ (ci := 0) rfl t_v0 hR hS (As := []) rfl hsz rfl hW hdg hf kk
theorem cl_X4_44 {v0 : Nat} {v1 : Nat} {r : Int32} {h9 : xH} (C0 : xC D RX4 cc nL rt p s m args meth c) (hR : xRep D ty h H) (hS : xS ty H0 H locs) (hF : jf_X4_readLine ty h v0 v1 = some (r, h9)) (t_v0 : ty v0 = some (0, 4)) (t_v1 : ty v1 = some (0, 0)) (hrm : jr_X4_readLine.frames + 1 ≤ R.frames ∧ 8 + (2 + 11) + jr_X4_readLine.locals ≤ R.locals) (hsz : ls.size = nL) (hW : (rest.map fun v => v.category).sum ≤ 8) (hf : cells ≤ R.cells ∧ slots ≤ R.slots) (hdg : decode cc pc = .ok (.invokevirtual 44, 3)) (kk : ∀ (H1 : Heap) (locs1 : List Loc), xRep D ty h9 H1 → xS ty H0 H1 locs1 → W p l e R s m args below meth c H1 locs1 cells slots Q (F0 m (pc + 3) ls (.int r :: rest))) : W p l e R s m args below meth c H locs cells slots Q (F0 m pc ls (.ref v1 :: .ref v0 :: rest)) := x_callV C0 (jc_X4_readLine t_v0 t_v1 hF) xm_X4_readLine xi_X4_readLine xe_X4_readLine wl_X4_44 ⟨rfl, rfl, hrm⟩ (ci := 4) rfl t_v0 hR hS (As := [.ref v1]) rfl hsz rfl hW hdg hf kk
end XN_X4_readLines
set_option maxHeartbeats 4000000 in
set_option maxRecDepth 100000 in
theorem jw_X4_readLines_13 {p : Program} {l : Launch} {e : Env} {s : State} {m : MethodId} {args : Array Value} {below : List Frame} {meth : Method} {c : Code} {D : xD} {ty : xTy} (C0 : xC D RX4 cX4_readLines 5 (some .int) p s m args meth c) {r : Int32} {h9 : xH} : ∀ n : Nat, ∀ (v0 : Nat) (v3 : Nat) (v4 : Int32) (h : xH), ty v0 = some (0, 4) → ty v3 = some (0, 0) → jf_X4_readLines_13 ty n v0 v3 v4 h = some (r, h9) → ∀ (H : Heap) (locs : List Loc), xRep D ty h H → xS ty s.heap H locs → ∀ ls : Array Slot, lv_has ls 5 [(0, .ref v0), (3, .ref v3), (4, .int v4)] → W p l e jr_X4_readLines s m args below meth c H locs 0 0 (MQ below (xQ D ty (some (.int r)) h9) args s 0 0 (xdom ty)) (F0 m 13 ls []) := by
  have hx := C0.1
  have hb := C0.2.1
  have hown := C0.2.2.2.2.2.1
  have hts := C0.2.2.2.2.2.2.1
  intro n
  induction n with
  | zero =>
    intro v0 v3 v4 h t_v0 t_v3 hF H locs hR hS ls hl
    cases hF
  | succ n ih =>
    intro v0 v3 v4 h t_v0 t_v3 hF H locs hR hS ls hl
    rw [jf_X4_readLines_13_s] at hF
    refine lv_iload hx hb dX4_readLines_13 (lv_at hl 2 rfl) ?_
    refine lv_sipush (v := 700) hx hb dX4_readLines_15 (by decide) ?_
    refine lv_icmp_gt (tgt := 56) hx hb dX4_readLines_18 (by decide) (fun c1 => ?_) (fun c1 => ?_)
    · have hF := xif hF c1
      refine lv_iload hx hb dX4_readLines_56 (lv_at hl 2 rfl) ?_
      cases hF
      exact x_iret C0 hR hS dX4_readLines_58
    · have hF := xel hF c1
      refine lv_aload_n hx hb dX4_readLines_21 rfl (lv_at hl 0 rfl) ?_
      obtain ⟨a2, e_a2, hF⟩ := xbd hF
      obtain ⟨e_a2, t_a2⟩ := xgo_sp e_a2
      refine gf_X4_12 C0 hR t_v0 e_a2 dX4_readLines_22 ?_
      refine gf_X4_41 C0 hR t_a2 dX4_readLines_25 ?_
      refine lv_if_eq (tgt := 56) hx hb dX4_readLines_28 (by decide) (fun c3 => ?_) (fun c3 => ?_)
      · have hF := xif hF c3
        refine lv_iload hx hb dX4_readLines_56 (lv_at hl 2 rfl) ?_
        cases hF
        exact x_iret C0 hR hS dX4_readLines_58
      · have hF := xel hF c3
        refine lv_aload_n hx hb dX4_readLines_31 rfl (lv_at hl 0 rfl) ?_
        refine lv_aload_n hx hb dX4_readLines_32 rfl (lv_at hl 1 rfl) ?_
        obtain ⟨a5, h4, e_h4, hF⟩ := xbd2 hF
        refine cl_X4_44 C0 hR hS e_h4 t_v0 t_v3 ⟨(Nat.le_of_ble_eq_true rfl), (Nat.le_of_ble_eq_true rfl)⟩ hl.1 (Nat.le_of_ble_eq_true rfl) ⟨(Nat.le_of_ble_eq_true rfl), (Nat.le_of_ble_eq_true rfl)⟩ dX4_readLines_33 (fun H locs hR hS => ?_)
        refine lv_if_eq (tgt := 48) hx hb dX4_readLines_36 (by decide) (fun c6 => ?_) (fun c6 => ?_)
        · have hF := xif hF c6
          refine lv_iconst (v := (-1)) hx hb dX4_readLines_48 (by decide) ?_
          cases hF
          exact x_iret C0 hR hS dX4_readLines_49
        · have hF := xel hF c6
          refine lv_aload_n hx hb dX4_readLines_39 rfl (lv_at hl 0 rfl) ?_
          refine lv_bipush (v := 59) hx hb dX4_readLines_40 (by decide) ?_
          obtain ⟨a8, h7, e_h7, hF⟩ := xbd2 hF
          refine cl_X4_48 C0 hR hS e_h7 t_v0 ⟨(Nat.le_of_ble_eq_true rfl), (Nat.le_of_ble_eq_true rfl)⟩ hl.1 (Nat.le_of_ble_eq_true rfl) ⟨(Nat.le_of_ble_eq_true rfl), (Nat.le_of_ble_eq_true rfl)⟩ dX4_readLines_42 (fun H locs hR hS => ?_)
          refine lv_if_ne (tgt := 50) hx hb dX4_readLines_45 (by decide) (fun c9 => ?_) (fun c9 => ?_)
          · have hF := xel hF c9
            refine lv_iinc (v := v4 + 1) (lv' := [(4, .int (v4 + 1)), (0, .ref v0), (3, .ref v3)]) hx hb dX4_readLines_50 hl (k := 2) rfl rfl (by decide) rfl (fun ls hl => ?_)
            refine lv_goto (tgt := 13) hx hb dX4_readLines_53 (by decide) ?_
            exact ih _ _ _ _ t_v0 t_v3 hF _ _ hR hS _ (lv_sub hl [1, 2, 0] rfl)
          · have hF := xif hF c9
            refine lv_iconst (v := (-1)) hx hb dX4_readLines_48 (by decide) ?_
            cases hF
            exact x_iret C0 hR hS dX4_readLines_49
set_option maxHeartbeats 4000000 in
set_option maxRecDepth 100000 in
theorem jc_X4_readLines {l : Launch} {D : xD} {ty : xTy} {h : xH} {v0 : Nat} {v1 : Nat} {v2 : Int32} {v3 : Nat} {r : Int32} {h9 : xH} (t_v0 : ty v0 = some (0, 4)) (t_v3 : ty v3 = some (0, 0)) (hF : jf_X4_readLines ty h v0 v1 v2 v3 = some (r, h9)) : Met l yX4_readLines (xws yX4_readLines cX4_readLines 5 (some .int)) jr_X4_readLines (xPc D ty h [.ref v0, .ref v1, .int v2, .ref v3]) (xQ D ty (some (.int r)) h9) 0 0 (xdom ty) := by
  refine x_met (by decide) ?_
  intro p e s m below meth c C0 hR
  generalize hargs : ([.ref v0, .ref v1, .int v2, .ref v3] : List Value).toArray = args at C0 ⊢
  have hx := C0.1
  have hb := C0.2.1
  have hown := C0.2.2.2.2.2.1
  have hts := C0.2.2.2.2.2.2.1
  have hS : xS ty s.heap s.heap [] := xS.rf
  have hl := lv_entry ([.ref v0, .ref v1, .int v2, .ref v3]) (n := 5) (Nat.le_of_ble_eq_true rfl)
  rw [← hargs, lg_entry_eq]
  rw [hargs]
  generalize (lg_sl ([.ref v0, .ref v1, .int v2, .ref v3]) ++ List.replicate (5 - (lg_sl ([.ref v0, .ref v1, .int v2, .ref v3])).length) Slot.unset).toArray = ls at hl ⊢
  have hl : lv_has ls 5 [(0, .ref v0), (1, .ref v1), (2, .int v2), (3, .ref v3)] := hl
  unfold jf_X4_readLines at hF
  refine lv_aload_n hx hb dX4_readLines_0 rfl (lv_at hl 0 rfl) ?_
  refine lv_aload_n hx hb dX4_readLines_1 rfl (lv_at hl 1 rfl) ?_
  refine lv_iload_n hx hb dX4_readLines_2 rfl (lv_at hl 2 rfl) ?_
  obtain ⟨h10, e_h10, hF⟩ := xbd hF
  refine cl_X4_32 C0 hR hS e_h10 t_v0 ⟨(Nat.le_of_ble_eq_true rfl), (Nat.le_of_ble_eq_true rfl)⟩ hl.1 (Nat.le_of_ble_eq_true rfl) ⟨(Nat.le_of_ble_eq_true rfl), (Nat.le_of_ble_eq_true rfl)⟩ dX4_readLines_3 (fun H locs hR hS => ?_)
  refine lv_aload_n hx hb dX4_readLines_6 rfl (lv_at hl 3 rfl) ?_
  obtain ⟨h11, e_h11, hF⟩ := xbd hF
  refine cl_X4_36 C0 hR hS e_h11 t_v3 ⟨(Nat.le_of_ble_eq_true rfl), (Nat.le_of_ble_eq_true rfl)⟩ hl.1 (Nat.le_of_ble_eq_true rfl) ⟨(Nat.le_of_ble_eq_true rfl), (Nat.le_of_ble_eq_true rfl)⟩ dX4_readLines_7 (fun H locs hR hS => ?_)
  refine lv_iconst (v := 0) hx hb dX4_readLines_10 (by decide) ?_
  refine lv_istore (lv' := [(4, .int 0), (0, .ref v0), (1, .ref v1), (2, .int v2), (3, .ref v3)]) hx hb dX4_readLines_11 hl (by decide) rfl (fun ls hl => ?_)
  obtain ⟨_, hF⟩ := xlim_sp hF
  exact jw_X4_readLines_13 C0 _ _ _ _ _ t_v0 t_v3 hF _ _ hR hS _ (lv_sub hl [1, 4, 0] rfl)
theorem xm_X4_readLines : xMw yX4_readLines cX4_readLines 5 (some .int) 3 := ⟨xin 522 (by decide +kernel) rfl, xin 117 (by decide +kernel) rfl, by decide +kernel⟩
theorem xi_X4_readLines : Cond.instanceMethod yX4_readLines ∈ xT := xin 520 (by decide +kernel) rfl
theorem xe_X4_readLines : Cond.selects yX4_readLines.cls yX4_readLines yX4_readLines ∈ xT := xin 521 (by decide +kernel) rfl

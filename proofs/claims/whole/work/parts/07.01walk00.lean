theorem dX0_clear_0 : decode cX0_clear 0 = .ok (.aload_n 0, 1) := by decide +kernel
theorem dX0_clear_1 : decode cX0_clear 1 = .ok (.iconst 0, 1) := by decide +kernel
theorem dX0_clear_2 : decode cX0_clear 2 = .ok (.putfield 40, 3) := by decide +kernel
theorem dX0_clear_5 : decode cX0_clear 5 = .ok (.aload_n 0, 1) := by decide +kernel
theorem dX0_clear_6 : decode cX0_clear 6 = .ok (.iconst 0, 1) := by decide +kernel
theorem dX0_clear_7 : decode cX0_clear 7 = .ok (.putfield 44, 3) := by decide +kernel
theorem dX0_clear_10 : decode cX0_clear 10 = .ok (.aload_n 0, 1) := by decide +kernel
theorem dX0_clear_11 : decode cX0_clear 11 = .ok (.iconst 0, 1) := by decide +kernel
theorem dX0_clear_12 : decode cX0_clear 12 = .ok (.putfield 47, 3) := by decide +kernel
theorem dX0_clear_15 : decode cX0_clear 15 = .ok (.return_, 1) := by decide +kernel
theorem wf_X0_40 : Cond.fieldLink RX0 40 "TermShelf$Book" "signCount" "I" ∈ xT := xin 182 (by decide +kernel) rfl
theorem wf_X0_44 : Cond.fieldLink RX0 44 "TermShelf$Book" "variableCount" "I" ∈ xT := xin 186 (by decide +kernel) rfl
theorem wf_X0_47 : Cond.fieldLink RX0 47 "TermShelf$Book" "ruleCount" "I" ∈ xT := xin 190 (by decide +kernel) rfl
section XN_X0_clear
variable {p : Program} {l : Launch} {e : Env} {R : Room} {s : State} {m : MethodId} {args : Array Value} {below : List Frame} {meth : Method} {c : Code} {H H0 : Heap} {locs : List Loc} {cells slots : Nat} {Q : State → Prop} {cc : ByteArray} {nL pc : Nat} {rt : Option FieldType} {ls : Array Slot} {rest : List Value} {D : xD} {ty : xTy} {h : xH}
theorem pf_X0_40 {a : Nat} {v : Int32} (C0 : xC D RX0 cc nL rt p s m args meth c) (hR : xRep D ty h H) (hS : xS ty H0 H locs) (ht : ty a = some (0, 0)) (hdg : decode cc pc = .ok (.putfield 40, 3)) (kk : ∀ (H1 : Heap) (locs1 : List Loc), xRep D ty (xsI h a 7 v) H1 → xS ty H0 H1 locs1 → W p l e R s m args below meth c H1 locs1 cells slots Q (F0 m (pc + 3) ls rest)) : W p l e R s m args below meth c H locs cells slots Q (F0 m pc ls (.int v :: .ref a :: rest)) := x_puti C0 hR hS (ci := 0) (k := 7) (N := 10) (T := TX0) rfl iX0 tyX0_ok nmX0 (by decide) rfl rfl wf_X0_40 (Or.inl rfl) rfl rfl ht hdg kk
theorem pf_X0_44 {a : Nat} {v : Int32} (C0 : xC D RX0 cc nL rt p s m args meth c) (hR : xRep D ty h H) (hS : xS ty H0 H locs) (ht : ty a = some (0, 0)) (hdg : decode cc pc = .ok (.putfield 44, 3)) (kk : ∀ (H1 : Heap) (locs1 : List Loc), xRep D ty (xsI h a 8 v) H1 → xS ty H0 H1 locs1 → W p l e R s m args below meth c H1 locs1 cells slots Q (F0 m (pc + 3) ls rest)) : W p l e R s m args below meth c H locs cells slots Q (F0 m pc ls (.int v :: .ref a :: rest)) := x_puti C0 hR hS (ci := 0) (k := 8) (N := 10) (T := TX0) rfl iX0 tyX0_ok nmX0 (by decide) rfl rfl wf_X0_44 (Or.inl rfl) rfl rfl ht hdg kk
theorem pf_X0_47 {a : Nat} {v : Int32} (C0 : xC D RX0 cc nL rt p s m args meth c) (hR : xRep D ty h H) (hS : xS ty H0 H locs) (ht : ty a = some (0, 0)) (hdg : decode cc pc = .ok (.putfield 47, 3)) (kk : ∀ (H1 : Heap) (locs1 : List Loc), xRep D ty (xsI h a 9 v) H1 → xS ty H0 H1 locs1 → W p l e R s m args below meth c H1 locs1 cells slots Q (F0 m (pc + 3) ls rest)) : W p l e R s m args below meth c H locs cells slots Q (F0 m pc ls (.int v :: .ref a :: rest)) := x_puti C0 hR hS (ci := 0) (k := 9) (N := 10) (T := TX0) rfl iX0 tyX0_ok nmX0 (by decide) rfl rfl wf_X0_47 (Or.inl rfl) rfl rfl ht hdg kk
end XN_X0_clear
set_option maxHeartbeats 4000000 in
set_option maxRecDepth 100000 in
theorem jc_X0_clear {l : Launch} {D : xD} {ty : xTy} {h : xH} {v0 : Nat} {h9 : xH} (t_v0 : ty v0 = some (0, 0)) (hF : jf_X0_clear ty h v0 = some h9) : Met l yX0_clear (xws yX0_clear cX0_clear 1 none) jr_X0_clear (xPc D ty h [.ref v0]) (xQ D ty none h9) 0 0 (xdom ty) := by
  refine x_met (by decide) ?_
  intro p e s m below meth c C0 hR
  generalize hargs : ([.ref v0] : List Value).toArray = args at C0 ⊢
  have hx := C0.1
  have hb := C0.2.1
  have hown := C0.2.2.2.2.2.1
  have hts := C0.2.2.2.2.2.2.1
  have hS : xS ty s.heap s.heap [] := xS.rf
  have hl := lv_entry ([.ref v0]) (n := 1) (Nat.le_of_ble_eq_true rfl)
  rw [← hargs, lg_entry_eq]
  rw [hargs]
  generalize (lg_sl ([.ref v0]) ++ List.replicate (1 - (lg_sl ([.ref v0])).length) Slot.unset).toArray = ls at hl ⊢
  have hl : lv_has ls 1 [(0, .ref v0)] := hl
  unfold jf_X0_clear at hF
  refine lv_aload_n hx hb dX0_clear_0 rfl (lv_at hl 0 rfl) ?_
  refine lv_iconst (v := 0) hx hb dX0_clear_1 (by decide) ?_
  obtain ⟨h1, e_h1, hF⟩ := xbd hF
  refine pf_X0_40 C0 hR hS t_v0 dX0_clear_2 (fun H locs hR hS => ?_)
  rw [Option.some.inj e_h1] at hR
  refine lv_aload_n hx hb dX0_clear_5 rfl (lv_at hl 0 rfl) ?_
  refine lv_iconst (v := 0) hx hb dX0_clear_6 (by decide) ?_
  obtain ⟨h2, e_h2, hF⟩ := xbd hF
  refine pf_X0_44 C0 hR hS t_v0 dX0_clear_7 (fun H locs hR hS => ?_)
  rw [Option.some.inj e_h2] at hR
  refine lv_aload_n hx hb dX0_clear_10 rfl (lv_at hl 0 rfl) ?_
  refine lv_iconst (v := 0) hx hb dX0_clear_11 (by decide) ?_
  obtain ⟨h3, e_h3, hF⟩ := xbd hF
  refine pf_X0_47 C0 hR hS t_v0 dX0_clear_12 (fun H locs hR hS => ?_)
  rw [Option.some.inj e_h3] at hR
  cases hF
  exact x_vret C0 hR hS dX0_clear_15
theorem xm_X0_clear : xMw yX0_clear cX0_clear 1 none 0 := ⟨xin 572 (by decide +kernel) rfl, xin 115 (by decide +kernel) rfl, by decide +kernel⟩
theorem xi_X0_clear : Cond.instanceMethod yX0_clear ∈ xT := xin 570 (by decide +kernel) rfl
theorem xe_X0_clear : Cond.selects yX0_clear.cls yX0_clear yX0_clear ∈ xT := xin 571 (by decide +kernel) rfl
theorem dX0_addSign_0 : decode cX0_addSign 0 = .ok (.aload_n 0, 1) := by decide +kernel
theorem dX0_addSign_1 : decode cX0_addSign 1 = .ok (.getfield 40, 3) := by decide +kernel
theorem dX0_addSign_4 : decode cX0_addSign 4 = .ok (.ifCond .lt 42, 3) := by decide +kernel
theorem dX0_addSign_7 : decode cX0_addSign 7 = .ok (.aload_n 0, 1) := by decide +kernel
theorem dX0_addSign_8 : decode cX0_addSign 8 = .ok (.getfield 40, 3) := by decide +kernel
theorem dX0_addSign_11 : decode cX0_addSign 11 = .ok (.bipush 8, 2) := by decide +kernel
theorem dX0_addSign_13 : decode cX0_addSign 13 = .ok (.if_icmp .ge 33, 3) := by decide +kernel
theorem dX0_addSign_16 : decode cX0_addSign 16 = .ok (.aload_n 0, 1) := by decide +kernel
theorem dX0_addSign_17 : decode cX0_addSign 17 = .ok (.getfield 9, 3) := by decide +kernel
theorem dX0_addSign_20 : decode cX0_addSign 20 = .ok (.aload_n 0, 1) := by decide +kernel
theorem dX0_addSign_21 : decode cX0_addSign 21 = .ok (.getfield 40, 3) := by decide +kernel
theorem dX0_addSign_24 : decode cX0_addSign 24 = .ok (.iload_n 1, 1) := by decide +kernel
theorem dX0_addSign_25 : decode cX0_addSign 25 = .ok (.iastore, 1) := by decide +kernel
theorem dX0_addSign_26 : decode cX0_addSign 26 = .ok (.aload_n 0, 1) := by decide +kernel
theorem dX0_addSign_27 : decode cX0_addSign 27 = .ok (.getfield 15, 3) := by decide +kernel
theorem dX0_addSign_30 : decode cX0_addSign 30 = .ok (.aload_n 0, 1) := by decide +kernel
theorem dX0_addSign_31 : decode cX0_addSign 31 = .ok (.getfield 40, 3) := by decide +kernel
theorem dX0_addSign_34 : decode cX0_addSign 34 = .ok (.iload_n 2, 1) := by decide +kernel
theorem dX0_addSign_35 : decode cX0_addSign 35 = .ok (.iastore, 1) := by decide +kernel
theorem dX0_addSign_36 : decode cX0_addSign 36 = .ok (.aload_n 0, 1) := by decide +kernel
theorem dX0_addSign_37 : decode cX0_addSign 37 = .ok (.dup, 1) := by decide +kernel
theorem dX0_addSign_38 : decode cX0_addSign 38 = .ok (.getfield 40, 3) := by decide +kernel
theorem dX0_addSign_41 : decode cX0_addSign 41 = .ok (.iconst 1, 1) := by decide +kernel
theorem dX0_addSign_42 : decode cX0_addSign 42 = .ok (.iadd, 1) := by decide +kernel
theorem dX0_addSign_43 : decode cX0_addSign 43 = .ok (.putfield 40, 3) := by decide +kernel
theorem dX0_addSign_46 : decode cX0_addSign 46 = .ok (.return_, 1) := by decide +kernel
theorem wf_X0_15 : Cond.fieldLink RX0 15 "TermShelf$Book" "signArities" "[I" ∈ xT := xin 176 (by decide +kernel) rfl
theorem wf_X0_9 : Cond.fieldLink RX0 9 "TermShelf$Book" "signNames" "[I" ∈ xT := xin 175 (by decide +kernel) rfl
section XN_X0_addSign
variable {p : Program} {l : Launch} {e : Env} {R : Room} {s : State} {m : MethodId} {args : Array Value} {below : List Frame} {meth : Method} {c : Code} {H H0 : Heap} {locs : List Loc} {cells slots : Nat} {Q : State → Prop} {cc : ByteArray} {nL pc : Nat} {rt : Option FieldType} {ls : Array Slot} {rest : List Value} {D : xD} {ty : xTy} {h : xH}
theorem gf_X0_15 {a : Nat} (C0 : xC D RX0 cc nL rt p s m args meth c) (hR : xRep D ty h H) (ht : ty a = some (0, 0)) {v : Nat} (hv : xR h a 1 = some v) (hdg : decode cc pc = .ok (.getfield 15, 3)) (kk : W p l e R s m args below meth c H locs cells slots Q (F0 m (pc + 3) ls (.ref v :: rest))) : W p l e R s m args below meth c H locs cells slots Q (F0 m pc ls (.ref a :: rest)) := x_get C0 hR (ci := 0) (k := 1) (N := 10) (T := TX0) rfl iX0 (by decide) rfl wf_X0_15 (by show va_rf (xR h a 1) = _; rw [hv]; rfl) ht hdg kk
theorem gf_X0_40 {a : Nat} (C0 : xC D RX0 cc nL rt p s m args meth c) (hR : xRep D ty h H) (ht : ty a = some (0, 0)) (hdg : decode cc pc = .ok (.getfield 40, 3)) (kk : W p l e R s m args below meth c H locs cells slots Q (F0 m (pc + 3) ls (.int (xI h a 7) :: rest))) : W p l e R s m args below meth c H locs cells slots Q (F0 m pc ls (.ref a :: rest)) := x_get C0 hR (ci := 0) (k := 7) (N := 10) (T := TX0) rfl iX0 (by decide) rfl wf_X0_40 rfl ht hdg kk
theorem gf_X0_9 {a : Nat} (C0 : xC D RX0 cc nL rt p s m args meth c) (hR : xRep D ty h H) (ht : ty a = some (0, 0)) {v : Nat} (hv : xR h a 0 = some v) (hdg : decode cc pc = .ok (.getfield 9, 3)) (kk : W p l e R s m args below meth c H locs cells slots Q (F0 m (pc + 3) ls (.ref v :: rest))) : W p l e R s m args below meth c H locs cells slots Q (F0 m pc ls (.ref a :: rest)) := x_get C0 hR (ci := 0) (k := 0) (N := 10) (T := TX0) rfl iX0 (by decide) rfl wf_X0_9 (by show va_rf (xR h a 0) = _; rw [hv]; rfl) ht hdg kk
end XN_X0_addSign
set_option maxHeartbeats 4000000 in
set_option maxRecDepth 100000 in
theorem jc_X0_addSign {l : Launch} {D : xD} {ty : xTy} {h : xH} {v0 : Nat} {v1 : Int32} {v2 : Int32} {h9 : xH} (t_v0 : ty v0 = some (0, 0)) (hF : jf_X0_addSign ty h v0 v1 v2 = some h9) : Met l yX0_addSign (xws yX0_addSign cX0_addSign 3 none) jr_X0_addSign (xPc D ty h [.ref v0, .int v1, .int v2]) (xQ D ty none h9) 0 0 (xdom ty) := by
  refine x_met (by decide) ?_
  intro p e s m below meth c C0 hR
  generalize hargs : ([.ref v0, .int v1, .int v2] : List Value).toArray = args at C0 ⊢
  have hx := C0.1
  have hb := C0.2.1
  have hown := C0.2.2.2.2.2.1
  have hts := C0.2.2.2.2.2.2.1
  have hS : xS ty s.heap s.heap [] := xS.rf
  have hl := lv_entry ([.ref v0, .int v1, .int v2]) (n := 3) (Nat.le_of_ble_eq_true rfl)
  rw [← hargs, lg_entry_eq]
  rw [hargs]
  generalize (lg_sl ([.ref v0, .int v1, .int v2]) ++ List.replicate (3 - (lg_sl ([.ref v0, .int v1, .int v2])).length) Slot.unset).toArray = ls at hl ⊢
  have hl : lv_has ls 3 [(0, .ref v0), (1, .int v1), (2, .int v2)] := hl
  unfold jf_X0_addSign at hF
  refine lv_aload_n hx hb dX0_addSign_0 rfl (lv_at hl 0 rfl) ?_
  refine gf_X0_40 C0 hR t_v0 dX0_addSign_1 ?_
  refine lv_if_lt (tgt := 46) hx hb dX0_addSign_4 (by decide) (fun c1 => ?_) (fun c1 => ?_)
  · have hF := xif hF c1
    cases hF
    exact x_vret C0 hR hS dX0_addSign_46
  · have hF := xel hF c1
    refine lv_aload_n hx hb dX0_addSign_7 rfl (lv_at hl 0 rfl) ?_
    refine gf_X0_40 C0 hR t_v0 dX0_addSign_8 ?_
    refine lv_bipush (v := 8) hx hb dX0_addSign_11 (by decide) ?_
    refine lv_icmp_ge (tgt := 46) hx hb dX0_addSign_13 (by decide) (fun c2 => ?_) (fun c2 => ?_)
    · have hF := xif hF c2
      cases hF
      exact x_vret C0 hR hS dX0_addSign_46
    · have hF := xel hF c2
      refine lv_aload_n hx hb dX0_addSign_16 rfl (lv_at hl 0 rfl) ?_
      obtain ⟨a3, e_a3, hF⟩ := xbd hF
      refine gf_X0_9 C0 hR t_v0 e_a3 dX0_addSign_17 ?_
      refine lv_aload_n hx hb dX0_addSign_20 rfl (lv_at hl 0 rfl) ?_
      refine gf_X0_40 C0 hR t_v0 dX0_addSign_21 ?_
      refine lv_iload_n hx hb dX0_addSign_24 rfl (lv_at hl 1 rfl) ?_
      obtain ⟨h4, e_h4, hF⟩ := xbd hF
      refine x_iast C0 hR hS e_h4 dX0_addSign_25 (fun H locs hR hS => ?_)
      refine lv_aload_n hx hb dX0_addSign_26 rfl (lv_at hl 0 rfl) ?_
      obtain ⟨a5, e_a5, hF⟩ := xbd hF
      refine gf_X0_15 C0 hR t_v0 e_a5 dX0_addSign_27 ?_
      refine lv_aload_n hx hb dX0_addSign_30 rfl (lv_at hl 0 rfl) ?_
      refine gf_X0_40 C0 hR t_v0 dX0_addSign_31 ?_
      refine lv_iload_n hx hb dX0_addSign_34 rfl (lv_at hl 2 rfl) ?_
      obtain ⟨h6, e_h6, hF⟩ := xbd hF
      refine x_iast C0 hR hS e_h6 dX0_addSign_35 (fun H locs hR hS => ?_)
      refine lv_aload_n hx hb dX0_addSign_36 rfl (lv_at hl 0 rfl) ?_
      refine lv_dup hx hb dX0_addSign_37 rfl ?_
      refine gf_X0_40 C0 hR t_v0 dX0_addSign_38 ?_
      refine lv_iconst (v := 1) hx hb dX0_addSign_41 (by decide) ?_
      refine lv_iadd hx hb dX0_addSign_42 ?_
      obtain ⟨h7, e_h7, hF⟩ := xbd hF
      refine pf_X0_40 C0 hR hS t_v0 dX0_addSign_43 (fun H locs hR hS => ?_)
      rw [Option.some.inj e_h7] at hR
      cases hF
      exact x_vret C0 hR hS dX0_addSign_46
theorem xm_X0_addSign : xMw yX0_addSign cX0_addSign 3 none 2 := ⟨xin 604 (by decide +kernel) rfl, xin 115 (by decide +kernel) rfl, by decide +kernel⟩
theorem xi_X0_addSign : Cond.instanceMethod yX0_addSign ∈ xT := xin 602 (by decide +kernel) rfl
theorem xe_X0_addSign : Cond.selects yX0_addSign.cls yX0_addSign yX0_addSign ∈ xT := xin 603 (by decide +kernel) rfl
theorem dX0_addVariable_0 : decode cX0_addVariable 0 = .ok (.aload_n 0, 1) := by decide +kernel
theorem dX0_addVariable_1 : decode cX0_addVariable 1 = .ok (.getfield 44, 3) := by decide +kernel
theorem dX0_addVariable_4 : decode cX0_addVariable 4 = .ok (.ifCond .lt 31, 3) := by decide +kernel
theorem dX0_addVariable_7 : decode cX0_addVariable 7 = .ok (.aload_n 0, 1) := by decide +kernel
theorem dX0_addVariable_8 : decode cX0_addVariable 8 = .ok (.getfield 44, 3) := by decide +kernel
theorem dX0_addVariable_11 : decode cX0_addVariable 11 = .ok (.iconst 4, 1) := by decide +kernel
theorem dX0_addVariable_12 : decode cX0_addVariable 12 = .ok (.if_icmp .ge 23, 3) := by decide +kernel
theorem dX0_addVariable_15 : decode cX0_addVariable 15 = .ok (.aload_n 0, 1) := by decide +kernel
theorem dX0_addVariable_16 : decode cX0_addVariable 16 = .ok (.getfield 18, 3) := by decide +kernel
theorem dX0_addVariable_19 : decode cX0_addVariable 19 = .ok (.aload_n 0, 1) := by decide +kernel
theorem dX0_addVariable_20 : decode cX0_addVariable 20 = .ok (.getfield 44, 3) := by decide +kernel
theorem dX0_addVariable_23 : decode cX0_addVariable 23 = .ok (.iload_n 1, 1) := by decide +kernel
theorem dX0_addVariable_24 : decode cX0_addVariable 24 = .ok (.iastore, 1) := by decide +kernel
theorem dX0_addVariable_25 : decode cX0_addVariable 25 = .ok (.aload_n 0, 1) := by decide +kernel
theorem dX0_addVariable_26 : decode cX0_addVariable 26 = .ok (.dup, 1) := by decide +kernel
theorem dX0_addVariable_27 : decode cX0_addVariable 27 = .ok (.getfield 44, 3) := by decide +kernel
theorem dX0_addVariable_30 : decode cX0_addVariable 30 = .ok (.iconst 1, 1) := by decide +kernel
theorem dX0_addVariable_31 : decode cX0_addVariable 31 = .ok (.iadd, 1) := by decide +kernel
theorem dX0_addVariable_32 : decode cX0_addVariable 32 = .ok (.putfield 44, 3) := by decide +kernel
theorem dX0_addVariable_35 : decode cX0_addVariable 35 = .ok (.return_, 1) := by decide +kernel
theorem wf_X0_18 : Cond.fieldLink RX0 18 "TermShelf$Book" "variableNames" "[I" ∈ xT := xin 177 (by decide +kernel) rfl
section XN_X0_addVariable
variable {p : Program} {l : Launch} {e : Env} {R : Room} {s : State} {m : MethodId} {args : Array Value} {below : List Frame} {meth : Method} {c : Code} {H H0 : Heap} {locs : List Loc} {cells slots : Nat} {Q : State → Prop} {cc : ByteArray} {nL pc : Nat} {rt : Option FieldType} {ls : Array Slot} {rest : List Value} {D : xD} {ty : xTy} {h : xH}
theorem gf_X0_18 {a : Nat} (C0 : xC D RX0 cc nL rt p s m args meth c) (hR : xRep D ty h H) (ht : ty a = some (0, 0)) {v : Nat} (hv : xR h a 2 = some v) (hdg : decode cc pc = .ok (.getfield 18, 3)) (kk : W p l e R s m args below meth c H locs cells slots Q (F0 m (pc + 3) ls (.ref v :: rest))) : W p l e R s m args below meth c H locs cells slots Q (F0 m pc ls (.ref a :: rest)) := x_get C0 hR (ci := 0) (k := 2) (N := 10) (T := TX0) rfl iX0 (by decide) rfl wf_X0_18 (by show va_rf (xR h a 2) = _; rw [hv]; rfl) ht hdg kk
theorem gf_X0_44 {a : Nat} (C0 : xC D RX0 cc nL rt p s m args meth c) (hR : xRep D ty h H) (ht : ty a = some (0, 0)) (hdg : decode cc pc = .ok (.getfield 44, 3)) (kk : W p l e R s m args below meth c H locs cells slots Q (F0 m (pc + 3) ls (.int (xI h a 8) :: rest))) : W p l e R s m args below meth c H locs cells slots Q (F0 m pc ls (.ref a :: rest)) := x_get C0 hR (ci := 0) (k := 8) (N := 10) (T := TX0) rfl iX0 (by decide) rfl wf_X0_44 rfl ht hdg kk
end XN_X0_addVariable
set_option maxHeartbeats 4000000 in
set_option maxRecDepth 100000 in
theorem jc_X0_addVariable {l : Launch} {D : xD} {ty : xTy} {h : xH} {v0 : Nat} {v1 : Int32} {h9 : xH} (t_v0 : ty v0 = some (0, 0)) (hF : jf_X0_addVariable ty h v0 v1 = some h9) : Met l yX0_addVariable (xws yX0_addVariable cX0_addVariable 2 none) jr_X0_addVariable (xPc D ty h [.ref v0, .int v1]) (xQ D ty none h9) 0 0 (xdom ty) := by
  refine x_met (by decide) ?_
  intro p e s m below meth c C0 hR
  generalize hargs : ([.ref v0, .int v1] : List Value).toArray = args at C0 ⊢
  have hx := C0.1
  have hb := C0.2.1
  have hown := C0.2.2.2.2.2.1
  have hts := C0.2.2.2.2.2.2.1
  have hS : xS ty s.heap s.heap [] := xS.rf
  have hl := lv_entry ([.ref v0, .int v1]) (n := 2) (Nat.le_of_ble_eq_true rfl)
  rw [← hargs, lg_entry_eq]
  rw [hargs]
  generalize (lg_sl ([.ref v0, .int v1]) ++ List.replicate (2 - (lg_sl ([.ref v0, .int v1])).length) Slot.unset).toArray = ls at hl ⊢
  have hl : lv_has ls 2 [(0, .ref v0), (1, .int v1)] := hl
  unfold jf_X0_addVariable at hF
  refine lv_aload_n hx hb dX0_addVariable_0 rfl (lv_at hl 0 rfl) ?_
  refine gf_X0_44 C0 hR t_v0 dX0_addVariable_1 ?_
  refine lv_if_lt (tgt := 35) hx hb dX0_addVariable_4 (by decide) (fun c1 => ?_) (fun c1 => ?_)
  · have hF := xif hF c1
    cases hF
    exact x_vret C0 hR hS dX0_addVariable_35
  · have hF := xel hF c1
    refine lv_aload_n hx hb dX0_addVariable_7 rfl (lv_at hl 0 rfl) ?_
    refine gf_X0_44 C0 hR t_v0 dX0_addVariable_8 ?_
    refine lv_iconst (v := 4) hx hb dX0_addVariable_11 (by decide) ?_
    refine lv_icmp_ge (tgt := 35) hx hb dX0_addVariable_12 (by decide) (fun c2 => ?_) (fun c2 => ?_)
    · have hF := xif hF c2
      cases hF
      exact x_vret C0 hR hS dX0_addVariable_35
    · have hF := xel hF c2
      refine lv_aload_n hx hb dX0_addVariable_15 rfl (lv_at hl 0 rfl) ?_
      obtain ⟨a3, e_a3, hF⟩ := xbd hF
      refine gf_X0_18 C0 hR t_v0 e_a3 dX0_addVariable_16 ?_
      refine lv_aload_n hx hb dX0_addVariable_19 rfl (lv_at hl 0 rfl) ?_
      refine gf_X0_44 C0 hR t_v0 dX0_addVariable_20 ?_
      refine lv_iload_n hx hb dX0_addVariable_23 rfl (lv_at hl 1 rfl) ?_
      obtain ⟨h4, e_h4, hF⟩ := xbd hF
      refine x_iast C0 hR hS e_h4 dX0_addVariable_24 (fun H locs hR hS => ?_)
      refine lv_aload_n hx hb dX0_addVariable_25 rfl (lv_at hl 0 rfl) ?_
      refine lv_dup hx hb dX0_addVariable_26 rfl ?_
      refine gf_X0_44 C0 hR t_v0 dX0_addVariable_27 ?_
      refine lv_iconst (v := 1) hx hb dX0_addVariable_30 (by decide) ?_
      refine lv_iadd hx hb dX0_addVariable_31 ?_
      obtain ⟨h5, e_h5, hF⟩ := xbd hF
      refine pf_X0_44 C0 hR hS t_v0 dX0_addVariable_32 (fun H locs hR hS => ?_)
      rw [Option.some.inj e_h5] at hR
      cases hF
      exact x_vret C0 hR hS dX0_addVariable_35
theorem xm_X0_addVariable : xMw yX0_addVariable cX0_addVariable 2 none 1 := ⟨xin 612 (by decide +kernel) rfl, xin 115 (by decide +kernel) rfl, by decide +kernel⟩
theorem xi_X0_addVariable : Cond.instanceMethod yX0_addVariable ∈ xT := xin 610 (by decide +kernel) rfl
theorem xe_X0_addVariable : Cond.selects yX0_addVariable.cls yX0_addVariable yX0_addVariable ∈ xT := xin 611 (by decide +kernel) rfl
theorem dX0_addRule_0 : decode cX0_addRule 0 = .ok (.aload_n 0, 1) := by decide +kernel
theorem dX0_addRule_1 : decode cX0_addRule 1 = .ok (.getfield 47, 3) := by decide +kernel
theorem dX0_addRule_4 : decode cX0_addRule 4 = .ok (.ifCond .lt 32, 3) := by decide +kernel
theorem dX0_addRule_7 : decode cX0_addRule 7 = .ok (.aload_n 0, 1) := by decide +kernel
theorem dX0_addRule_8 : decode cX0_addRule 8 = .ok (.getfield 47, 3) := by decide +kernel
theorem dX0_addRule_11 : decode cX0_addRule 11 = .ok (.bipush 16, 2) := by decide +kernel
theorem dX0_addRule_13 : decode cX0_addRule 13 = .ok (.if_icmp .ge 23, 3) := by decide +kernel
theorem dX0_addRule_16 : decode cX0_addRule 16 = .ok (.aload_n 0, 1) := by decide +kernel
theorem dX0_addRule_17 : decode cX0_addRule 17 = .ok (.getfield 21, 3) := by decide +kernel
theorem dX0_addRule_20 : decode cX0_addRule 20 = .ok (.aload_n 0, 1) := by decide +kernel
theorem dX0_addRule_21 : decode cX0_addRule 21 = .ok (.getfield 47, 3) := by decide +kernel
theorem dX0_addRule_24 : decode cX0_addRule 24 = .ok (.iload_n 1, 1) := by decide +kernel
theorem dX0_addRule_25 : decode cX0_addRule 25 = .ok (.iastore, 1) := by decide +kernel
theorem dX0_addRule_26 : decode cX0_addRule 26 = .ok (.aload_n 0, 1) := by decide +kernel
theorem dX0_addRule_27 : decode cX0_addRule 27 = .ok (.dup, 1) := by decide +kernel
theorem dX0_addRule_28 : decode cX0_addRule 28 = .ok (.getfield 47, 3) := by decide +kernel
theorem dX0_addRule_31 : decode cX0_addRule 31 = .ok (.iconst 1, 1) := by decide +kernel
theorem dX0_addRule_32 : decode cX0_addRule 32 = .ok (.iadd, 1) := by decide +kernel
theorem dX0_addRule_33 : decode cX0_addRule 33 = .ok (.putfield 47, 3) := by decide +kernel
theorem dX0_addRule_36 : decode cX0_addRule 36 = .ok (.return_, 1) := by decide +kernel
theorem wf_X0_21 : Cond.fieldLink RX0 21 "TermShelf$Book" "ruleNames" "[I" ∈ xT := xin 178 (by decide +kernel) rfl
section XN_X0_addRule
variable {p : Program} {l : Launch} {e : Env} {R : Room} {s : State} {m : MethodId} {args : Array Value} {below : List Frame} {meth : Method} {c : Code} {H H0 : Heap} {locs : List Loc} {cells slots : Nat} {Q : State → Prop} {cc : ByteArray} {nL pc : Nat} {rt : Option FieldType} {ls : Array Slot} {rest : List Value} {D : xD} {ty : xTy} {h : xH}
theorem gf_X0_21 {a : Nat} (C0 : xC D RX0 cc nL rt p s m args meth c) (hR : xRep D ty h H) (ht : ty a = some (0, 0)) {v : Nat} (hv : xR h a 3 = some v) (hdg : decode cc pc = .ok (.getfield 21, 3)) (kk : W p l e R s m args below meth c H locs cells slots Q (F0 m (pc + 3) ls (.ref v :: rest))) : W p l e R s m args below meth c H locs cells slots Q (F0 m pc ls (.ref a :: rest)) := x_get C0 hR (ci := 0) (k := 3) (N := 10) (T := TX0) rfl iX0 (by decide) rfl wf_X0_21 (by show va_rf (xR h a 3) = _; rw [hv]; rfl) ht hdg kk
theorem gf_X0_47 {a : Nat} (C0 : xC D RX0 cc nL rt p s m args meth c) (hR : xRep D ty h H) (ht : ty a = some (0, 0)) (hdg : decode cc pc = .ok (.getfield 47, 3)) (kk : W p l e R s m args below meth c H locs cells slots Q (F0 m (pc + 3) ls (.int (xI h a 9) :: rest))) : W p l e R s m args below meth c H locs cells slots Q (F0 m pc ls (.ref a :: rest)) := x_get C0 hR (ci := 0) (k := 9) (N := 10) (T := TX0) rfl iX0 (by decide) rfl wf_X0_47 rfl ht hdg kk
end XN_X0_addRule
set_option maxHeartbeats 4000000 in
set_option maxRecDepth 100000 in
theorem jc_X0_addRule {l : Launch} {D : xD} {ty : xTy} {h : xH} {v0 : Nat} {v1 : Int32} {h9 : xH} (t_v0 : ty v0 = some (0, 0)) (hF : jf_X0_addRule ty h v0 v1 = some h9) : Met l yX0_addRule (xws yX0_addRule cX0_addRule 2 none) jr_X0_addRule (xPc D ty h [.ref v0, .int v1]) (xQ D ty none h9) 0 0 (xdom ty) := by
  refine x_met (by decide) ?_
  intro p e s m below meth c C0 hR
  generalize hargs : ([.ref v0, .int v1] : List Value).toArray = args at C0 ⊢
  have hx := C0.1
  have hb := C0.2.1
  have hown := C0.2.2.2.2.2.1
  have hts := C0.2.2.2.2.2.2.1
  have hS : xS ty s.heap s.heap [] := xS.rf
  have hl := lv_entry ([.ref v0, .int v1]) (n := 2) (Nat.le_of_ble_eq_true rfl)
  rw [← hargs, lg_entry_eq]
  rw [hargs]
  generalize (lg_sl ([.ref v0, .int v1]) ++ List.replicate (2 - (lg_sl ([.ref v0, .int v1])).length) Slot.unset).toArray = ls at hl ⊢
  have hl : lv_has ls 2 [(0, .ref v0), (1, .int v1)] := hl
  unfold jf_X0_addRule at hF
  refine lv_aload_n hx hb dX0_addRule_0 rfl (lv_at hl 0 rfl) ?_
  refine gf_X0_47 C0 hR t_v0 dX0_addRule_1 ?_
  refine lv_if_lt (tgt := 36) hx hb dX0_addRule_4 (by decide) (fun c1 => ?_) (fun c1 => ?_)
  · have hF := xif hF c1
    cases hF
    exact x_vret C0 hR hS dX0_addRule_36
  · have hF := xel hF c1
    refine lv_aload_n hx hb dX0_addRule_7 rfl (lv_at hl 0 rfl) ?_
    refine gf_X0_47 C0 hR t_v0 dX0_addRule_8 ?_
    refine lv_bipush (v := 16) hx hb dX0_addRule_11 (by decide) ?_
    refine lv_icmp_ge (tgt := 36) hx hb dX0_addRule_13 (by decide) (fun c2 => ?_) (fun c2 => ?_)
    · have hF := xif hF c2
      cases hF
      exact x_vret C0 hR hS dX0_addRule_36
    · have hF := xel hF c2
      refine lv_aload_n hx hb dX0_addRule_16 rfl (lv_at hl 0 rfl) ?_
      obtain ⟨a3, e_a3, hF⟩ := xbd hF
      refine gf_X0_21 C0 hR t_v0 e_a3 dX0_addRule_17 ?_
      refine lv_aload_n hx hb dX0_addRule_20 rfl (lv_at hl 0 rfl) ?_
      refine gf_X0_47 C0 hR t_v0 dX0_addRule_21 ?_
      refine lv_iload_n hx hb dX0_addRule_24 rfl (lv_at hl 1 rfl) ?_
      obtain ⟨h4, e_h4, hF⟩ := xbd hF
      refine x_iast C0 hR hS e_h4 dX0_addRule_25 (fun H locs hR hS => ?_)
      refine lv_aload_n hx hb dX0_addRule_26 rfl (lv_at hl 0 rfl) ?_
      refine lv_dup hx hb dX0_addRule_27 rfl ?_
      refine gf_X0_47 C0 hR t_v0 dX0_addRule_28 ?_
      refine lv_iconst (v := 1) hx hb dX0_addRule_31 (by decide) ?_
      refine lv_iadd hx hb dX0_addRule_32 ?_
      obtain ⟨h5, e_h5, hF⟩ := xbd hF
      refine pf_X0_47 C0 hR hS t_v0 dX0_addRule_33 (fun H locs hR hS => ?_)
      rw [Option.some.inj e_h5] at hR
      cases hF
      exact x_vret C0 hR hS dX0_addRule_36
theorem xm_X0_addRule : xMw yX0_addRule cX0_addRule 2 none 1 := ⟨xin 672 (by decide +kernel) rfl, xin 115 (by decide +kernel) rfl, by decide +kernel⟩
theorem xi_X0_addRule : Cond.instanceMethod yX0_addRule ∈ xT := xin 670 (by decide +kernel) rfl
theorem xe_X0_addRule : Cond.selects yX0_addRule.cls yX0_addRule yX0_addRule ∈ xT := xin 671 (by decide +kernel) rfl
theorem dX0_hasRule_0 : decode cX0_hasRule 0 = .ok (.iload_n 1, 1) := by decide +kernel
theorem dX0_hasRule_1 : decode cX0_hasRule 1 = .ok (.ifCond .lt 15, 3) := by decide +kernel
theorem dX0_hasRule_4 : decode cX0_hasRule 4 = .ok (.iload_n 1, 1) := by decide +kernel
theorem dX0_hasRule_5 : decode cX0_hasRule 5 = .ok (.aload_n 0, 1) := by decide +kernel
theorem dX0_hasRule_6 : decode cX0_hasRule 6 = .ok (.getfield 47, 3) := by decide +kernel
theorem dX0_hasRule_9 : decode cX0_hasRule 9 = .ok (.if_icmp .ge 7, 3) := by decide +kernel
theorem dX0_hasRule_12 : decode cX0_hasRule 12 = .ok (.iconst 1, 1) := by decide +kernel
theorem dX0_hasRule_13 : decode cX0_hasRule 13 = .ok (.goto 4, 3) := by decide +kernel
theorem dX0_hasRule_16 : decode cX0_hasRule 16 = .ok (.iconst 0, 1) := by decide +kernel
theorem dX0_hasRule_17 : decode cX0_hasRule 17 = .ok (.ireturn, 1) := by decide +kernel
set_option maxHeartbeats 4000000 in
set_option maxRecDepth 100000 in
theorem jc_X0_hasRule {l : Launch} {D : xD} {ty : xTy} {h : xH} {v0 : Nat} {v1 : Int32} {r : Int32} (t_v0 : ty v0 = some (0, 0)) (hF : jf_X0_hasRule ty h v0 v1 = some r) : Met l yX0_hasRule (xws yX0_hasRule cX0_hasRule 2 (some .boolean)) jr_X0_hasRule (xPc D ty h [.ref v0, .int v1]) (xQ D ty (some (.int r)) h) 0 0 (xdom ty) := by
  refine x_met (by decide) ?_
  intro p e s m below meth c C0 hR
  generalize hargs : ([.ref v0, .int v1] : List Value).toArray = args at C0 ⊢
  have hx := C0.1
  have hb := C0.2.1
  have hown := C0.2.2.2.2.2.1
  have hts := C0.2.2.2.2.2.2.1
  have hS : xS ty s.heap s.heap [] := xS.rf
  have hl := lv_entry ([.ref v0, .int v1]) (n := 2) (Nat.le_of_ble_eq_true rfl)
  rw [← hargs, lg_entry_eq]
  rw [hargs]
  generalize (lg_sl ([.ref v0, .int v1]) ++ List.replicate (2 - (lg_sl ([.ref v0, .int v1])).length) Slot.unset).toArray = ls at hl ⊢
  have hl : lv_has ls 2 [(0, .ref v0), (1, .int v1)] := hl
  unfold jf_X0_hasRule at hF
  refine lv_iload_n hx hb dX0_hasRule_0 rfl (lv_at hl 1 rfl) ?_
  refine lv_if_lt (tgt := 16) hx hb dX0_hasRule_1 (by decide) (fun c1 => ?_) (fun c1 => ?_)
  · have hF := xif hF c1
    refine lv_iconst (v := 0) hx hb dX0_hasRule_16 (by decide) ?_
    cases hF
    exact x_zret (w := 0) C0 hR hS (by decide) dX0_hasRule_17
  · have hF := xel hF c1
    refine lv_iload_n hx hb dX0_hasRule_4 rfl (lv_at hl 1 rfl) ?_
    refine lv_aload_n hx hb dX0_hasRule_5 rfl (lv_at hl 0 rfl) ?_
    refine gf_X0_47 C0 hR t_v0 dX0_hasRule_6 ?_
    refine lv_icmp_ge (tgt := 16) hx hb dX0_hasRule_9 (by decide) (fun c2 => ?_) (fun c2 => ?_)
    · have hF := xif hF c2
      refine lv_iconst (v := 0) hx hb dX0_hasRule_16 (by decide) ?_
      cases hF
      exact x_zret (w := 0) C0 hR hS (by decide) dX0_hasRule_17
    · have hF := xel hF c2
      refine lv_iconst (v := 1) hx hb dX0_hasRule_12 (by decide) ?_
      refine lv_goto (tgt := 17) hx hb dX0_hasRule_13 (by decide) ?_
      cases hF
      exact x_zret (w := 1) C0 hR hS (by decide) dX0_hasRule_17
theorem xm_X0_hasRule : xMw yX0_hasRule cX0_hasRule 2 (some .boolean) 1 := ⟨xin 741 (by decide +kernel) rfl, xin 115 (by decide +kernel) rfl, by decide +kernel⟩
theorem xi_X0_hasRule : Cond.instanceMethod yX0_hasRule ∈ xT := xin 739 (by decide +kernel) rfl
theorem xe_X0_hasRule : Cond.selects yX0_hasRule.cls yX0_hasRule yX0_hasRule ∈ xT := xin 740 (by decide +kernel) rfl
theorem dX0_termOf_0 : decode cX0_termOf 0 = .ok (.iload_n 1, 1) := by decide +kernel
theorem dX0_termOf_1 : decode cX0_termOf 1 = .ok (.ifCond .lt 18, 3) := by decide +kernel
theorem dX0_termOf_4 : decode cX0_termOf 4 = .ok (.iload_n 1, 1) := by decide +kernel
theorem dX0_termOf_5 : decode cX0_termOf 5 = .ok (.bipush 16, 2) := by decide +kernel
theorem dX0_termOf_7 : decode cX0_termOf 7 = .ok (.if_icmp .ge 12, 3) := by decide +kernel
theorem dX0_termOf_10 : decode cX0_termOf 10 = .ok (.aload_n 0, 1) := by decide +kernel
theorem dX0_termOf_11 : decode cX0_termOf 11 = .ok (.getfield 26, 3) := by decide +kernel
theorem dX0_termOf_14 : decode cX0_termOf 14 = .ok (.iload_n 1, 1) := by decide +kernel
theorem dX0_termOf_15 : decode cX0_termOf 15 = .ok (.aaload, 1) := by decide +kernel
theorem dX0_termOf_16 : decode cX0_termOf 16 = .ok (.goto 7, 3) := by decide +kernel
theorem dX0_termOf_19 : decode cX0_termOf 19 = .ok (.aload_n 0, 1) := by decide +kernel
theorem dX0_termOf_20 : decode cX0_termOf 20 = .ok (.getfield 36, 3) := by decide +kernel
theorem dX0_termOf_23 : decode cX0_termOf 23 = .ok (.areturn, 1) := by decide +kernel
theorem wf_X0_26 : Cond.fieldLink RX0 26 "TermShelf$Book" "terms" "[LTermShelf$Term;" ∈ xT := xin 179 (by decide +kernel) rfl
theorem wf_X0_36 : Cond.fieldLink RX0 36 "TermShelf$Book" "noTerm" "LTermShelf$Term;" ∈ xT := xin 181 (by decide +kernel) rfl
section XN_X0_termOf
variable {p : Program} {l : Launch} {e : Env} {R : Room} {s : State} {m : MethodId} {args : Array Value} {below : List Frame} {meth : Method} {c : Code} {H H0 : Heap} {locs : List Loc} {cells slots : Nat} {Q : State → Prop} {cc : ByteArray} {nL pc : Nat} {rt : Option FieldType} {ls : Array Slot} {rest : List Value} {D : xD} {ty : xTy} {h : xH}
theorem gf_X0_26 {a : Nat} (C0 : xC D RX0 cc nL rt p s m args meth c) (hR : xRep D ty h H) (ht : ty a = some (0, 0)) {v : Nat} (hv : xR h a 4 = some v) (hdg : decode cc pc = .ok (.getfield 26, 3)) (kk : W p l e R s m args below meth c H locs cells slots Q (F0 m (pc + 3) ls (.ref v :: rest))) : W p l e R s m args below meth c H locs cells slots Q (F0 m pc ls (.ref a :: rest)) := x_get C0 hR (ci := 0) (k := 4) (N := 10) (T := TX0) rfl iX0 (by decide) rfl wf_X0_26 (by show va_rf (xR h a 4) = _; rw [hv]; rfl) ht hdg kk
theorem gf_X0_36 {a : Nat} (C0 : xC D RX0 cc nL rt p s m args meth c) (hR : xRep D ty h H) (ht : ty a = some (0, 0)) {v : Nat} (hv : xR h a 6 = some v) (hdg : decode cc pc = .ok (.getfield 36, 3)) (kk : W p l e R s m args below meth c H locs cells slots Q (F0 m (pc + 3) ls (.ref v :: rest))) : W p l e R s m args below meth c H locs cells slots Q (F0 m pc ls (.ref a :: rest)) := x_get C0 hR (ci := 0) (k := 6) (N := 10) (T := TX0) rfl iX0 (by decide) rfl wf_X0_36 (by show va_rf (xR h a 6) = _; rw [hv]; rfl) ht hdg kk
end XN_X0_termOf
set_option maxHeartbeats 4000000 in
set_option maxRecDepth 100000 in
theorem jc_X0_termOf {l : Launch} {D : xD} {ty : xTy} {h : xH} {v0 : Nat} {v1 : Int32} {r : Nat} (t_v0 : ty v0 = some (0, 0)) (hF : jf_X0_termOf ty h v0 v1 = some r) : Met l yX0_termOf (xws yX0_termOf cX0_termOf 2 (some (.object "TermShelf$Term"))) jr_X0_termOf (xPc D ty h [.ref v0, .int v1]) (xQ D ty (some (.ref r)) h) 0 0 (xdom ty) := by
  refine x_met (by decide) ?_
  intro p e s m below meth c C0 hR
  generalize hargs : ([.ref v0, .int v1] : List Value).toArray = args at C0 ⊢
  have hx := C0.1
  have hb := C0.2.1
  have hown := C0.2.2.2.2.2.1
  have hts := C0.2.2.2.2.2.2.1
  have hS : xS ty s.heap s.heap [] := xS.rf
  have hl := lv_entry ([.ref v0, .int v1]) (n := 2) (Nat.le_of_ble_eq_true rfl)
  rw [← hargs, lg_entry_eq]
  rw [hargs]
  generalize (lg_sl ([.ref v0, .int v1]) ++ List.replicate (2 - (lg_sl ([.ref v0, .int v1])).length) Slot.unset).toArray = ls at hl ⊢
  have hl : lv_has ls 2 [(0, .ref v0), (1, .int v1)] := hl
  unfold jf_X0_termOf at hF
  refine lv_iload_n hx hb dX0_termOf_0 rfl (lv_at hl 1 rfl) ?_
  refine lv_if_lt (tgt := 19) hx hb dX0_termOf_1 (by decide) (fun c1 => ?_) (fun c1 => ?_)
  · have hF := xif hF c1
    refine lv_aload_n hx hb dX0_termOf_19 rfl (lv_at hl 0 rfl) ?_
    obtain ⟨a2, e_a2, hF⟩ := xbd hF
    obtain ⟨e_a2, t_a2⟩ := xgo_sp e_a2
    refine gf_X0_36 C0 hR t_v0 e_a2 dX0_termOf_20 ?_
    cases hF
    exact x_aret C0 hR hS dX0_termOf_23
  · have hF := xel hF c1
    refine lv_iload_n hx hb dX0_termOf_4 rfl (lv_at hl 1 rfl) ?_
    refine lv_bipush (v := 16) hx hb dX0_termOf_5 (by decide) ?_
    refine lv_icmp_ge (tgt := 19) hx hb dX0_termOf_7 (by decide) (fun c3 => ?_) (fun c3 => ?_)
    · have hF := xif hF c3
      refine lv_aload_n hx hb dX0_termOf_19 rfl (lv_at hl 0 rfl) ?_
      obtain ⟨a4, e_a4, hF⟩ := xbd hF
      obtain ⟨e_a4, t_a4⟩ := xgo_sp e_a4
      refine gf_X0_36 C0 hR t_v0 e_a4 dX0_termOf_20 ?_
      cases hF
      exact x_aret C0 hR hS dX0_termOf_23
    · have hF := xel hF c3
      refine lv_aload_n hx hb dX0_termOf_10 rfl (lv_at hl 0 rfl) ?_
      obtain ⟨a5, e_a5, hF⟩ := xbd hF
      refine gf_X0_26 C0 hR t_v0 e_a5 dX0_termOf_11 ?_
      refine lv_iload_n hx hb dX0_termOf_14 rfl (lv_at hl 1 rfl) ?_
      obtain ⟨a6, e_a6, hF⟩ := xbd hF
      refine x_ald C0 hR e_a6 dX0_termOf_15 (fun t_a6 => ?_)
      refine lv_goto (tgt := 23) hx hb dX0_termOf_16 (by decide) ?_
      cases hF
      exact x_aret C0 hR hS dX0_termOf_23
theorem xm_X0_termOf : xMw yX0_termOf cX0_termOf 2 (some (.object "TermShelf$Term")) 1 := ⟨xin 624 (by decide +kernel) rfl, xin 115 (by decide +kernel) rfl, by decide +kernel⟩
theorem xi_X0_termOf : Cond.instanceMethod yX0_termOf ∈ xT := xin 622 (by decide +kernel) rfl
theorem xe_X0_termOf : Cond.selects yX0_termOf.cls yX0_termOf yX0_termOf ∈ xT := xin 623 (by decide +kernel) rfl
theorem dX0_rightOf_0 : decode cX0_rightOf 0 = .ok (.iload_n 1, 1) := by decide +kernel
theorem dX0_rightOf_1 : decode cX0_rightOf 1 = .ok (.ifCond .lt 18, 3) := by decide +kernel
theorem dX0_rightOf_4 : decode cX0_rightOf 4 = .ok (.iload_n 1, 1) := by decide +kernel
theorem dX0_rightOf_5 : decode cX0_rightOf 5 = .ok (.bipush 16, 2) := by decide +kernel
theorem dX0_rightOf_7 : decode cX0_rightOf 7 = .ok (.if_icmp .ge 12, 3) := by decide +kernel
theorem dX0_rightOf_10 : decode cX0_rightOf 10 = .ok (.aload_n 0, 1) := by decide +kernel
theorem dX0_rightOf_11 : decode cX0_rightOf 11 = .ok (.getfield 30, 3) := by decide +kernel
theorem dX0_rightOf_14 : decode cX0_rightOf 14 = .ok (.iload_n 1, 1) := by decide +kernel
theorem dX0_rightOf_15 : decode cX0_rightOf 15 = .ok (.aaload, 1) := by decide +kernel
theorem dX0_rightOf_16 : decode cX0_rightOf 16 = .ok (.goto 7, 3) := by decide +kernel
theorem dX0_rightOf_19 : decode cX0_rightOf 19 = .ok (.aload_n 0, 1) := by decide +kernel
theorem dX0_rightOf_20 : decode cX0_rightOf 20 = .ok (.getfield 36, 3) := by decide +kernel
theorem dX0_rightOf_23 : decode cX0_rightOf 23 = .ok (.areturn, 1) := by decide +kernel
theorem wf_X0_30 : Cond.fieldLink RX0 30 "TermShelf$Book" "rights" "[LTermShelf$Term;" ∈ xT := xin 180 (by decide +kernel) rfl
section XN_X0_rightOf
variable {p : Program} {l : Launch} {e : Env} {R : Room} {s : State} {m : MethodId} {args : Array Value} {below : List Frame} {meth : Method} {c : Code} {H H0 : Heap} {locs : List Loc} {cells slots : Nat} {Q : State → Prop} {cc : ByteArray} {nL pc : Nat} {rt : Option FieldType} {ls : Array Slot} {rest : List Value} {D : xD} {ty : xTy} {h : xH}
theorem gf_X0_30 {a : Nat} (C0 : xC D RX0 cc nL rt p s m args meth c) (hR : xRep D ty h H) (ht : ty a = some (0, 0)) {v : Nat} (hv : xR h a 5 = some v) (hdg : decode cc pc = .ok (.getfield 30, 3)) (kk : W p l e R s m args below meth c H locs cells slots Q (F0 m (pc + 3) ls (.ref v :: rest))) : W p l e R s m args below meth c H locs cells slots Q (F0 m pc ls (.ref a :: rest)) := x_get C0 hR (ci := 0) (k := 5) (N := 10) (T := TX0) rfl iX0 (by decide) rfl wf_X0_30 (by show va_rf (xR h a 5) = _; rw [hv]; rfl) ht hdg kk
end XN_X0_rightOf
set_option maxHeartbeats 4000000 in
set_option maxRecDepth 100000 in
theorem jc_X0_rightOf {l : Launch} {D : xD} {ty : xTy} {h : xH} {v0 : Nat} {v1 : Int32} {r : Nat} (t_v0 : ty v0 = some (0, 0)) (hF : jf_X0_rightOf ty h v0 v1 = some r) : Met l yX0_rightOf (xws yX0_rightOf cX0_rightOf 2 (some (.object "TermShelf$Term"))) jr_X0_rightOf (xPc D ty h [.ref v0, .int v1]) (xQ D ty (some (.ref r)) h) 0 0 (xdom ty) := by
  refine x_met (by decide) ?_
  intro p e s m below meth c C0 hR
  generalize hargs : ([.ref v0, .int v1] : List Value).toArray = args at C0 ⊢
  have hx := C0.1
  have hb := C0.2.1
  have hown := C0.2.2.2.2.2.1
  have hts := C0.2.2.2.2.2.2.1
  have hS : xS ty s.heap s.heap [] := xS.rf
  have hl := lv_entry ([.ref v0, .int v1]) (n := 2) (Nat.le_of_ble_eq_true rfl)
  rw [← hargs, lg_entry_eq]
  rw [hargs]
  generalize (lg_sl ([.ref v0, .int v1]) ++ List.replicate (2 - (lg_sl ([.ref v0, .int v1])).length) Slot.unset).toArray = ls at hl ⊢
  have hl : lv_has ls 2 [(0, .ref v0), (1, .int v1)] := hl
  unfold jf_X0_rightOf at hF
  refine lv_iload_n hx hb dX0_rightOf_0 rfl (lv_at hl 1 rfl) ?_
  refine lv_if_lt (tgt := 19) hx hb dX0_rightOf_1 (by decide) (fun c1 => ?_) (fun c1 => ?_)
  · have hF := xif hF c1
    refine lv_aload_n hx hb dX0_rightOf_19 rfl (lv_at hl 0 rfl) ?_
    obtain ⟨a2, e_a2, hF⟩ := xbd hF
    obtain ⟨e_a2, t_a2⟩ := xgo_sp e_a2
    refine gf_X0_36 C0 hR t_v0 e_a2 dX0_rightOf_20 ?_
    cases hF
    exact x_aret C0 hR hS dX0_rightOf_23
  · have hF := xel hF c1
    refine lv_iload_n hx hb dX0_rightOf_4 rfl (lv_at hl 1 rfl) ?_
    refine lv_bipush (v := 16) hx hb dX0_rightOf_5 (by decide) ?_
    refine lv_icmp_ge (tgt := 19) hx hb dX0_rightOf_7 (by decide) (fun c3 => ?_) (fun c3 => ?_)
    · have hF := xif hF c3
      refine lv_aload_n hx hb dX0_rightOf_19 rfl (lv_at hl 0 rfl) ?_
      obtain ⟨a4, e_a4, hF⟩ := xbd hF
      obtain ⟨e_a4, t_a4⟩ := xgo_sp e_a4
      refine gf_X0_36 C0 hR t_v0 e_a4 dX0_rightOf_20 ?_
      cases hF
      exact x_aret C0 hR hS dX0_rightOf_23
    · have hF := xel hF c3
      refine lv_aload_n hx hb dX0_rightOf_10 rfl (lv_at hl 0 rfl) ?_
      obtain ⟨a5, e_a5, hF⟩ := xbd hF
      refine gf_X0_30 C0 hR t_v0 e_a5 dX0_rightOf_11 ?_
      refine lv_iload_n hx hb dX0_rightOf_14 rfl (lv_at hl 1 rfl) ?_
      obtain ⟨a6, e_a6, hF⟩ := xbd hF
      refine x_ald C0 hR e_a6 dX0_rightOf_15 (fun t_a6 => ?_)
      refine lv_goto (tgt := 23) hx hb dX0_rightOf_16 (by decide) ?_
      cases hF
      exact x_aret C0 hR hS dX0_rightOf_23
theorem xm_X0_rightOf : xMw yX0_rightOf cX0_rightOf 2 (some (.object "TermShelf$Term")) 1 := ⟨xin 628 (by decide +kernel) rfl, xin 115 (by decide +kernel) rfl, by decide +kernel⟩
theorem xi_X0_rightOf : Cond.instanceMethod yX0_rightOf ∈ xT := xin 626 (by decide +kernel) rfl
theorem xe_X0_rightOf : Cond.selects yX0_rightOf.cls yX0_rightOf yX0_rightOf ∈ xT := xin 627 (by decide +kernel) rfl
theorem dX0_placeOf_0 : decode cX0_placeOf 0 = .ok (.iconst 0, 1) := by decide +kernel
theorem dX0_placeOf_1 : decode cX0_placeOf 1 = .ok (.istore_n 3, 1) := by decide +kernel
theorem dX0_placeOf_2 : decode cX0_placeOf 2 = .ok (.iload_n 3, 1) := by decide +kernel
theorem dX0_placeOf_3 : decode cX0_placeOf 3 = .ok (.iload_n 1, 1) := by decide +kernel
theorem dX0_placeOf_4 : decode cX0_placeOf 4 = .ok (.if_icmp .ge 24, 3) := by decide +kernel
theorem dX0_placeOf_7 : decode cX0_placeOf 7 = .ok (.iload_n 3, 1) := by decide +kernel
theorem dX0_placeOf_8 : decode cX0_placeOf 8 = .ok (.aload_n 0, 1) := by decide +kernel
theorem dX0_placeOf_9 : decode cX0_placeOf 9 = .ok (.arraylength, 1) := by decide +kernel
theorem dX0_placeOf_10 : decode cX0_placeOf 10 = .ok (.if_icmp .ge 18, 3) := by decide +kernel
theorem dX0_placeOf_13 : decode cX0_placeOf 13 = .ok (.aload_n 0, 1) := by decide +kernel
theorem dX0_placeOf_14 : decode cX0_placeOf 14 = .ok (.iload_n 3, 1) := by decide +kernel
theorem dX0_placeOf_15 : decode cX0_placeOf 15 = .ok (.iaload, 1) := by decide +kernel
theorem dX0_placeOf_16 : decode cX0_placeOf 16 = .ok (.iload_n 2, 1) := by decide +kernel
theorem dX0_placeOf_17 : decode cX0_placeOf 17 = .ok (.if_icmp .ne 5, 3) := by decide +kernel
theorem dX0_placeOf_20 : decode cX0_placeOf 20 = .ok (.iload_n 3, 1) := by decide +kernel
theorem dX0_placeOf_21 : decode cX0_placeOf 21 = .ok (.ireturn, 1) := by decide +kernel
theorem dX0_placeOf_22 : decode cX0_placeOf 22 = .ok (.iinc 3 1, 3) := by decide +kernel
theorem dX0_placeOf_25 : decode cX0_placeOf 25 = .ok (.goto (-23), 3) := by decide +kernel
theorem dX0_placeOf_28 : decode cX0_placeOf 28 = .ok (.iconst (-1), 1) := by decide +kernel
theorem dX0_placeOf_29 : decode cX0_placeOf 29 = .ok (.ireturn, 1) := by decide +kernel
set_option maxHeartbeats 4000000 in
set_option maxRecDepth 100000 in
theorem jw_X0_placeOf_2 {p : Program} {l : Launch} {e : Env} {s : State} {m : MethodId} {args : Array Value} {below : List Frame} {meth : Method} {c : Code} {D : xD} {ty : xTy} {h : xH} (C0 : xC D RX0 cX0_placeOf 4 (some .int) p s m args meth c) {r : Int32} : ∀ n : Nat, ∀ (v0 : Nat) (v1 : Int32) (v2 : Int32) (v3 : Int32), jf_X0_placeOf_2 ty h n v0 v1 v2 v3 = some r → ∀ (H : Heap) (locs : List Loc), xRep D ty h H → xS ty s.heap H locs → ∀ ls : Array Slot, lv_has ls 4 [(0, .ref v0), (1, .int v1), (2, .int v2), (3, .int v3)] → W p l e jr_X0_placeOf s m args below meth c H locs 0 0 (MQ below (xQ D ty (some (.int r)) h) args s 0 0 (xdom ty)) (F0 m 2 ls []) := by
  have hx := C0.1
  have hb := C0.2.1
  have hown := C0.2.2.2.2.2.1
  have hts := C0.2.2.2.2.2.2.1
  intro n
  induction n with
  | zero =>
    intro v0 v1 v2 v3 hF H locs hR hS ls hl
    cases hF
  | succ n ih =>
    intro v0 v1 v2 v3 hF H locs hR hS ls hl
    rw [jf_X0_placeOf_2_s] at hF
    refine lv_iload_n hx hb dX0_placeOf_2 rfl (lv_at hl 3 rfl) ?_
    refine lv_iload_n hx hb dX0_placeOf_3 rfl (lv_at hl 1 rfl) ?_
    refine lv_icmp_ge (tgt := 28) hx hb dX0_placeOf_4 (by decide) (fun c1 => ?_) (fun c1 => ?_)
    · have hF := xif hF c1
      refine lv_iconst (v := (-1)) hx hb dX0_placeOf_28 (by decide) ?_
      cases hF
      exact x_iret C0 hR hS dX0_placeOf_29
    · have hF := xel hF c1
      refine lv_iload_n hx hb dX0_placeOf_7 rfl (lv_at hl 3 rfl) ?_
      refine lv_aload_n hx hb dX0_placeOf_8 rfl (lv_at hl 0 rfl) ?_
      obtain ⟨a2, e_a2, hF⟩ := xbd hF
      refine x_len C0 hR e_a2 dX0_placeOf_9 ?_
      refine lv_icmp_ge (tgt := 28) hx hb dX0_placeOf_10 (by decide) (fun c3 => ?_) (fun c3 => ?_)
      · have hF := xif hF c3
        refine lv_iconst (v := (-1)) hx hb dX0_placeOf_28 (by decide) ?_
        cases hF
        exact x_iret C0 hR hS dX0_placeOf_29
      · have hF := xel hF c3
        refine lv_aload_n hx hb dX0_placeOf_13 rfl (lv_at hl 0 rfl) ?_
        refine lv_iload_n hx hb dX0_placeOf_14 rfl (lv_at hl 3 rfl) ?_
        obtain ⟨a4, e_a4, hF⟩ := xbd hF
        refine x_iald C0 hR e_a4 dX0_placeOf_15 ?_
        refine lv_iload_n hx hb dX0_placeOf_16 rfl (lv_at hl 2 rfl) ?_
        refine lv_icmp_ne (tgt := 22) hx hb dX0_placeOf_17 (by decide) (fun c5 => ?_) (fun c5 => ?_)
        · have hF := xel hF c5
          refine lv_iinc (v := v3 + 1) (lv' := [(3, .int (v3 + 1)), (0, .ref v0), (1, .int v1), (2, .int v2)]) hx hb dX0_placeOf_22 hl (k := 3) rfl rfl (by decide) rfl (fun ls hl => ?_)
          refine lv_goto (tgt := 2) hx hb dX0_placeOf_25 (by decide) ?_
          exact ih _ _ _ _ hF _ _ hR hS _ (lv_sub hl [1, 2, 3, 0] rfl)
        · have hF := xif hF c5
          refine lv_iload_n hx hb dX0_placeOf_20 rfl (lv_at hl 3 rfl) ?_
          cases hF
          exact x_iret C0 hR hS dX0_placeOf_21
set_option maxHeartbeats 4000000 in
set_option maxRecDepth 100000 in
theorem jc_X0_placeOf {l : Launch} {D : xD} {ty : xTy} {h : xH} {v0 : Nat} {v1 : Int32} {v2 : Int32} {r : Int32} (hF : jf_X0_placeOf ty h v0 v1 v2 = some r) : Met l yX0_placeOf (xws yX0_placeOf cX0_placeOf 4 (some .int)) jr_X0_placeOf (xPc D ty h [.ref v0, .int v1, .int v2]) (xQ D ty (some (.int r)) h) 0 0 (xdom ty) := by
  refine x_met (by decide) ?_
  intro p e s m below meth c C0 hR
  generalize hargs : ([.ref v0, .int v1, .int v2] : List Value).toArray = args at C0 ⊢
  have hx := C0.1
  have hb := C0.2.1
  have hown := C0.2.2.2.2.2.1
  have hts := C0.2.2.2.2.2.2.1
  have hS : xS ty s.heap s.heap [] := xS.rf
  have hl := lv_entry ([.ref v0, .int v1, .int v2]) (n := 4) (Nat.le_of_ble_eq_true rfl)
  rw [← hargs, lg_entry_eq]
  rw [hargs]
  generalize (lg_sl ([.ref v0, .int v1, .int v2]) ++ List.replicate (4 - (lg_sl ([.ref v0, .int v1, .int v2])).length) Slot.unset).toArray = ls at hl ⊢
  have hl : lv_has ls 4 [(0, .ref v0), (1, .int v1), (2, .int v2)] := hl
  unfold jf_X0_placeOf at hF
  refine lv_iconst (v := 0) hx hb dX0_placeOf_0 (by decide) ?_
  refine lv_istore_n (lv' := [(3, .int 0), (0, .ref v0), (1, .int v1), (2, .int v2)]) hx hb dX0_placeOf_1 rfl hl (by decide) rfl (fun ls hl => ?_)
  obtain ⟨_, hF⟩ := xlim_sp hF
  exact jw_X0_placeOf_2 C0 _ _ _ _ _ hF _ _ hR hS _ (lv_sub hl [1, 2, 3, 0] rfl)
theorem xm_X0_placeOf : xMw yX0_placeOf cX0_placeOf 4 (some .int) 3 := ⟨xin 592 (by decide +kernel) rfl, xin 115 (by decide +kernel) rfl, by decide +kernel⟩
theorem xs_X0_placeOf : Cond.static yX0_placeOf ∈ xT := xin 591 (by decide +kernel) rfl
theorem dX0_codeNamed_0 : decode cX0_codeNamed 0 = .ok (.aload_n 0, 1) := by decide +kernel
theorem dX0_codeNamed_1 : decode cX0_codeNamed 1 = .ok (.getfield 9, 3) := by decide +kernel
theorem dX0_codeNamed_4 : decode cX0_codeNamed 4 = .ok (.aload_n 0, 1) := by decide +kernel
theorem dX0_codeNamed_5 : decode cX0_codeNamed 5 = .ok (.getfield 40, 3) := by decide +kernel
theorem dX0_codeNamed_8 : decode cX0_codeNamed 8 = .ok (.iload_n 1, 1) := by decide +kernel
theorem dX0_codeNamed_9 : decode cX0_codeNamed 9 = .ok (.invokestatic 50, 3) := by decide +kernel
theorem dX0_codeNamed_12 : decode cX0_codeNamed 12 = .ok (.istore_n 2, 1) := by decide +kernel
theorem dX0_codeNamed_13 : decode cX0_codeNamed 13 = .ok (.iload_n 2, 1) := by decide +kernel
theorem dX0_codeNamed_14 : decode cX0_codeNamed 14 = .ok (.ifCond .lt 5, 3) := by decide +kernel
theorem dX0_codeNamed_17 : decode cX0_codeNamed 17 = .ok (.iload_n 2, 1) := by decide +kernel
theorem dX0_codeNamed_18 : decode cX0_codeNamed 18 = .ok (.ireturn, 1) := by decide +kernel
theorem dX0_codeNamed_19 : decode cX0_codeNamed 19 = .ok (.aload_n 0, 1) := by decide +kernel
theorem dX0_codeNamed_20 : decode cX0_codeNamed 20 = .ok (.getfield 18, 3) := by decide +kernel
theorem dX0_codeNamed_23 : decode cX0_codeNamed 23 = .ok (.aload_n 0, 1) := by decide +kernel
theorem dX0_codeNamed_24 : decode cX0_codeNamed 24 = .ok (.getfield 44, 3) := by decide +kernel
theorem dX0_codeNamed_27 : decode cX0_codeNamed 27 = .ok (.iload_n 1, 1) := by decide +kernel
theorem dX0_codeNamed_28 : decode cX0_codeNamed 28 = .ok (.invokestatic 50, 3) := by decide +kernel
theorem dX0_codeNamed_31 : decode cX0_codeNamed 31 = .ok (.istore_n 3, 1) := by decide +kernel
theorem dX0_codeNamed_32 : decode cX0_codeNamed 32 = .ok (.iload_n 3, 1) := by decide +kernel
theorem dX0_codeNamed_33 : decode cX0_codeNamed 33 = .ok (.ifCond .lt 10, 3) := by decide +kernel
theorem dX0_codeNamed_36 : decode cX0_codeNamed 36 = .ok (.bipush 100, 2) := by decide +kernel
theorem dX0_codeNamed_38 : decode cX0_codeNamed 38 = .ok (.iload_n 3, 1) := by decide +kernel
theorem dX0_codeNamed_39 : decode cX0_codeNamed 39 = .ok (.iadd, 1) := by decide +kernel
theorem dX0_codeNamed_40 : decode cX0_codeNamed 40 = .ok (.goto 4, 3) := by decide +kernel
theorem dX0_codeNamed_43 : decode cX0_codeNamed 43 = .ok (.iconst (-1), 1) := by decide +kernel
theorem dX0_codeNamed_44 : decode cX0_codeNamed 44 = .ok (.ireturn, 1) := by decide +kernel
theorem wl_X0_50 : Cond.methodLink RX0 50 yX0_placeOf ∈ xT := xin 590 (by decide +kernel) rfl
section XN_X0_codeNamed
variable {p : Program} {l : Launch} {e : Env} {R : Room} {s : State} {m : MethodId} {args : Array Value} {below : List Frame} {meth : Method} {c : Code} {H H0 : Heap} {locs : List Loc} {cells slots : Nat} {Q : State → Prop} {cc : ByteArray} {nL pc : Nat} {rt : Option FieldType} {ls : Array Slot} {rest : List Value} {D : xD} {ty : xTy} {h : xH}
theorem cl_X0_50 {v0 : Nat} {v1 : Int32} {v2 : Int32} {r : Int32} (C0 : xC D RX0 cc nL rt p s m args meth c) (hR : xRep D ty h H) (hS : xS ty H0 H locs) (hF : jf_X0_placeOf ty h v0 v1 v2 = some r) (hrm : jr_X0_placeOf.frames + 1 ≤ R.frames ∧ 8 + (4 + 11) + jr_X0_placeOf.locals ≤ R.locals) (hsz : ls.size = nL) (hW : (rest.map fun v => v.category).sum ≤ 8) (hf : cells ≤ R.cells ∧ slots ≤ R.slots) (hdg : decode cc pc = .ok (.invokestatic 50, 3)) (kk : ∀ (H1 : Heap) (locs1 : List Loc), xRep D ty h H1 → xS ty H0 H1 locs1 → W p l e R s m args below meth c H1 locs1 cells slots Q (F0 m (pc + 3) ls (.int r :: rest))) : W p l e R s m args below meth c H locs cells slots Q (F0 m pc ls (.int v2 :: .int v1 :: .ref v0 :: rest)) := x_callS C0 (jc_X0_placeOf  hF) xm_X0_placeOf xs_X0_placeOf wl_X0_50 ⟨rfl, rfl, hrm⟩ hR hS (As := [.ref v0, .int v1, .int v2]) rfl hsz rfl hW hdg hf kk
end XN_X0_codeNamed
set_option maxHeartbeats 4000000 in
set_option maxRecDepth 100000 in
theorem jc_X0_codeNamed {l : Launch} {D : xD} {ty : xTy} {h : xH} {v0 : Nat} {v1 : Int32} {r : Int32} (t_v0 : ty v0 = some (0, 0)) (hF : jf_X0_codeNamed ty h v0 v1 = some r) : Met l yX0_codeNamed (xws yX0_codeNamed cX0_codeNamed 4 (some .int)) jr_X0_codeNamed (xPc D ty h [.ref v0, .int v1]) (xQ D ty (some (.int r)) h) 0 0 (xdom ty) := by
  refine x_met (by decide) ?_
  intro p e s m below meth c C0 hR
  generalize hargs : ([.ref v0, .int v1] : List Value).toArray = args at C0 ⊢
  have hx := C0.1
  have hb := C0.2.1
  have hown := C0.2.2.2.2.2.1
  have hts := C0.2.2.2.2.2.2.1
  have hS : xS ty s.heap s.heap [] := xS.rf
  have hl := lv_entry ([.ref v0, .int v1]) (n := 4) (Nat.le_of_ble_eq_true rfl)
  rw [← hargs, lg_entry_eq]
  rw [hargs]
  generalize (lg_sl ([.ref v0, .int v1]) ++ List.replicate (4 - (lg_sl ([.ref v0, .int v1])).length) Slot.unset).toArray = ls at hl ⊢
  have hl : lv_has ls 4 [(0, .ref v0), (1, .int v1)] := hl
  unfold jf_X0_codeNamed at hF
  refine lv_aload_n hx hb dX0_codeNamed_0 rfl (lv_at hl 0 rfl) ?_
  obtain ⟨a1, e_a1, hF⟩ := xbd hF
  refine gf_X0_9 C0 hR t_v0 e_a1 dX0_codeNamed_1 ?_
  refine lv_aload_n hx hb dX0_codeNamed_4 rfl (lv_at hl 0 rfl) ?_
  refine gf_X0_40 C0 hR t_v0 dX0_codeNamed_5 ?_
  refine lv_iload_n hx hb dX0_codeNamed_8 rfl (lv_at hl 1 rfl) ?_
  obtain ⟨a2, e_a2, hF⟩ := xbd hF
  refine cl_X0_50 C0 hR hS e_a2  ⟨(Nat.le_of_ble_eq_true rfl), (Nat.le_of_ble_eq_true rfl)⟩ hl.1 (Nat.le_of_ble_eq_true rfl) ⟨(Nat.le_of_ble_eq_true rfl), (Nat.le_of_ble_eq_true rfl)⟩ dX0_codeNamed_9 (fun H locs hR hS => ?_)
  refine lv_istore_n (lv' := [(2, .int a2), (0, .ref v0), (1, .int v1)]) hx hb dX0_codeNamed_12 rfl hl (by decide) rfl (fun ls hl => ?_)
  refine lv_iload_n hx hb dX0_codeNamed_13 rfl (lv_at hl 0 rfl) ?_
  refine lv_if_lt (tgt := 19) hx hb dX0_codeNamed_14 (by decide) (fun c3 => ?_) (fun c3 => ?_)
  · have hF := xif hF c3
    refine lv_aload_n hx hb dX0_codeNamed_19 rfl (lv_at hl 1 rfl) ?_
    obtain ⟨a4, e_a4, hF⟩ := xbd hF
    refine gf_X0_18 C0 hR t_v0 e_a4 dX0_codeNamed_20 ?_
    refine lv_aload_n hx hb dX0_codeNamed_23 rfl (lv_at hl 1 rfl) ?_
    refine gf_X0_44 C0 hR t_v0 dX0_codeNamed_24 ?_
    refine lv_iload_n hx hb dX0_codeNamed_27 rfl (lv_at hl 2 rfl) ?_
    obtain ⟨a5, e_a5, hF⟩ := xbd hF
    refine cl_X0_50 C0 hR hS e_a5  ⟨(Nat.le_of_ble_eq_true rfl), (Nat.le_of_ble_eq_true rfl)⟩ hl.1 (Nat.le_of_ble_eq_true rfl) ⟨(Nat.le_of_ble_eq_true rfl), (Nat.le_of_ble_eq_true rfl)⟩ dX0_codeNamed_28 (fun H locs hR hS => ?_)
    refine lv_istore_n (lv' := [(3, .int a5), (2, .int a2), (0, .ref v0), (1, .int v1)]) hx hb dX0_codeNamed_31 rfl hl (by decide) rfl (fun ls hl => ?_)
    refine lv_iload_n hx hb dX0_codeNamed_32 rfl (lv_at hl 0 rfl) ?_
    refine lv_if_lt (tgt := 43) hx hb dX0_codeNamed_33 (by decide) (fun c6 => ?_) (fun c6 => ?_)
    · have hF := xif hF c6
      refine lv_iconst (v := (-1)) hx hb dX0_codeNamed_43 (by decide) ?_
      cases hF
      exact x_iret C0 hR hS dX0_codeNamed_44
    · have hF := xel hF c6
      refine lv_bipush (v := 100) hx hb dX0_codeNamed_36 (by decide) ?_
      refine lv_iload_n hx hb dX0_codeNamed_38 rfl (lv_at hl 0 rfl) ?_
      refine lv_iadd hx hb dX0_codeNamed_39 ?_
      refine lv_goto (tgt := 44) hx hb dX0_codeNamed_40 (by decide) ?_
      cases hF
      exact x_iret C0 hR hS dX0_codeNamed_44
  · have hF := xel hF c3
    refine lv_iload_n hx hb dX0_codeNamed_17 rfl (lv_at hl 0 rfl) ?_
    cases hF
    exact x_iret C0 hR hS dX0_codeNamed_18
theorem xm_X0_codeNamed : xMw yX0_codeNamed cX0_codeNamed 4 (some .int) 1 := ⟨xin 589 (by decide +kernel) rfl, xin 115 (by decide +kernel) rfl, by decide +kernel⟩
theorem xi_X0_codeNamed : Cond.instanceMethod yX0_codeNamed ∈ xT := xin 587 (by decide +kernel) rfl
theorem xe_X0_codeNamed : Cond.selects yX0_codeNamed.cls yX0_codeNamed yX0_codeNamed ∈ xT := xin 588 (by decide +kernel) rfl
theorem dX0_ruleNamed_0 : decode cX0_ruleNamed 0 = .ok (.aload_n 0, 1) := by decide +kernel
theorem dX0_ruleNamed_1 : decode cX0_ruleNamed 1 = .ok (.getfield 21, 3) := by decide +kernel
theorem dX0_ruleNamed_4 : decode cX0_ruleNamed 4 = .ok (.aload_n 0, 1) := by decide +kernel
theorem dX0_ruleNamed_5 : decode cX0_ruleNamed 5 = .ok (.getfield 47, 3) := by decide +kernel
theorem dX0_ruleNamed_8 : decode cX0_ruleNamed 8 = .ok (.iload_n 1, 1) := by decide +kernel
theorem dX0_ruleNamed_9 : decode cX0_ruleNamed 9 = .ok (.invokestatic 50, 3) := by decide +kernel
theorem dX0_ruleNamed_12 : decode cX0_ruleNamed 12 = .ok (.ireturn, 1) := by decide +kernel
set_option maxHeartbeats 4000000 in
set_option maxRecDepth 100000 in
theorem jc_X0_ruleNamed {l : Launch} {D : xD} {ty : xTy} {h : xH} {v0 : Nat} {v1 : Int32} {r : Int32} (t_v0 : ty v0 = some (0, 0)) (hF : jf_X0_ruleNamed ty h v0 v1 = some r) : Met l yX0_ruleNamed (xws yX0_ruleNamed cX0_ruleNamed 2 (some .int)) jr_X0_ruleNamed (xPc D ty h [.ref v0, .int v1]) (xQ D ty (some (.int r)) h) 0 0 (xdom ty) := by
  refine x_met (by decide) ?_
  intro p e s m below meth c C0 hR
  generalize hargs : ([.ref v0, .int v1] : List Value).toArray = args at C0 ⊢
  have hx := C0.1
  have hb := C0.2.1
  have hown := C0.2.2.2.2.2.1
  have hts := C0.2.2.2.2.2.2.1
  have hS : xS ty s.heap s.heap [] := xS.rf
  have hl := lv_entry ([.ref v0, .int v1]) (n := 2) (Nat.le_of_ble_eq_true rfl)
  rw [← hargs, lg_entry_eq]
  rw [hargs]
  generalize (lg_sl ([.ref v0, .int v1]) ++ List.replicate (2 - (lg_sl ([.ref v0, .int v1])).length) Slot.unset).toArray = ls at hl ⊢
  have hl : lv_has ls 2 [(0, .ref v0), (1, .int v1)] := hl
  unfold jf_X0_ruleNamed at hF
  refine lv_aload_n hx hb dX0_ruleNamed_0 rfl (lv_at hl 0 rfl) ?_
  obtain ⟨a1, e_a1, hF⟩ := xbd hF
  refine gf_X0_21 C0 hR t_v0 e_a1 dX0_ruleNamed_1 ?_
  refine lv_aload_n hx hb dX0_ruleNamed_4 rfl (lv_at hl 0 rfl) ?_
  refine gf_X0_47 C0 hR t_v0 dX0_ruleNamed_5 ?_
  refine lv_iload_n hx hb dX0_ruleNamed_8 rfl (lv_at hl 1 rfl) ?_
  obtain ⟨a2, e_a2, hF⟩ := xbd hF
  refine cl_X0_50 C0 hR hS e_a2  ⟨(Nat.le_of_ble_eq_true rfl), (Nat.le_of_ble_eq_true rfl)⟩ hl.1 (Nat.le_of_ble_eq_true rfl) ⟨(Nat.le_of_ble_eq_true rfl), (Nat.le_of_ble_eq_true rfl)⟩ dX0_ruleNamed_9 (fun H locs hR hS => ?_)
  cases hF
  exact x_iret C0 hR hS dX0_ruleNamed_12
theorem xm_X0_ruleNamed : xMw yX0_ruleNamed cX0_ruleNamed 2 (some .int) 1 := ⟨xin 620 (by decide +kernel) rfl, xin 115 (by decide +kernel) rfl, by decide +kernel⟩
theorem xi_X0_ruleNamed : Cond.instanceMethod yX0_ruleNamed ∈ xT := xin 618 (by decide +kernel) rfl
theorem xe_X0_ruleNamed : Cond.selects yX0_ruleNamed.cls yX0_ruleNamed yX0_ruleNamed ∈ xT := xin 619 (by decide +kernel) rfl
theorem dX0_arityOf_0 : decode cX0_arityOf 0 = .ok (.iload_n 1, 1) := by decide +kernel
theorem dX0_arityOf_1 : decode cX0_arityOf 1 = .ok (.ifCond .lt 26, 3) := by decide +kernel
theorem dX0_arityOf_4 : decode cX0_arityOf 4 = .ok (.iload_n 1, 1) := by decide +kernel
theorem dX0_arityOf_5 : decode cX0_arityOf 5 = .ok (.aload_n 0, 1) := by decide +kernel
theorem dX0_arityOf_6 : decode cX0_arityOf 6 = .ok (.getfield 40, 3) := by decide +kernel
theorem dX0_arityOf_9 : decode cX0_arityOf 9 = .ok (.if_icmp .ge 18, 3) := by decide +kernel
theorem dX0_arityOf_12 : decode cX0_arityOf 12 = .ok (.iload_n 1, 1) := by decide +kernel
theorem dX0_arityOf_13 : decode cX0_arityOf 13 = .ok (.bipush 8, 2) := by decide +kernel
theorem dX0_arityOf_15 : decode cX0_arityOf 15 = .ok (.if_icmp .ge 12, 3) := by decide +kernel
theorem dX0_arityOf_18 : decode cX0_arityOf 18 = .ok (.aload_n 0, 1) := by decide +kernel
theorem dX0_arityOf_19 : decode cX0_arityOf 19 = .ok (.getfield 15, 3) := by decide +kernel
theorem dX0_arityOf_22 : decode cX0_arityOf 22 = .ok (.iload_n 1, 1) := by decide +kernel
theorem dX0_arityOf_23 : decode cX0_arityOf 23 = .ok (.iaload, 1) := by decide +kernel
theorem dX0_arityOf_24 : decode cX0_arityOf 24 = .ok (.goto 4, 3) := by decide +kernel
theorem dX0_arityOf_27 : decode cX0_arityOf 27 = .ok (.iconst 0, 1) := by decide +kernel
theorem dX0_arityOf_28 : decode cX0_arityOf 28 = .ok (.ireturn, 1) := by decide +kernel
set_option maxHeartbeats 4000000 in
set_option maxRecDepth 100000 in
theorem jc_X0_arityOf {l : Launch} {D : xD} {ty : xTy} {h : xH} {v0 : Nat} {v1 : Int32} {r : Int32} (t_v0 : ty v0 = some (0, 0)) (hF : jf_X0_arityOf ty h v0 v1 = some r) : Met l yX0_arityOf (xws yX0_arityOf cX0_arityOf 2 (some .int)) jr_X0_arityOf (xPc D ty h [.ref v0, .int v1]) (xQ D ty (some (.int r)) h) 0 0 (xdom ty) := by
  refine x_met (by decide) ?_
  intro p e s m below meth c C0 hR
  generalize hargs : ([.ref v0, .int v1] : List Value).toArray = args at C0 ⊢
  have hx := C0.1
  have hb := C0.2.1
  have hown := C0.2.2.2.2.2.1
  have hts := C0.2.2.2.2.2.2.1
  have hS : xS ty s.heap s.heap [] := xS.rf
  have hl := lv_entry ([.ref v0, .int v1]) (n := 2) (Nat.le_of_ble_eq_true rfl)
  rw [← hargs, lg_entry_eq]
  rw [hargs]
  generalize (lg_sl ([.ref v0, .int v1]) ++ List.replicate (2 - (lg_sl ([.ref v0, .int v1])).length) Slot.unset).toArray = ls at hl ⊢
  have hl : lv_has ls 2 [(0, .ref v0), (1, .int v1)] := hl
  unfold jf_X0_arityOf at hF
  refine lv_iload_n hx hb dX0_arityOf_0 rfl (lv_at hl 1 rfl) ?_
  refine lv_if_lt (tgt := 27) hx hb dX0_arityOf_1 (by decide) (fun c1 => ?_) (fun c1 => ?_)
  · have hF := xif hF c1
    refine lv_iconst (v := 0) hx hb dX0_arityOf_27 (by decide) ?_
    cases hF
    exact x_iret C0 hR hS dX0_arityOf_28
  · have hF := xel hF c1
    refine lv_iload_n hx hb dX0_arityOf_4 rfl (lv_at hl 1 rfl) ?_
    refine lv_aload_n hx hb dX0_arityOf_5 rfl (lv_at hl 0 rfl) ?_
    refine gf_X0_40 C0 hR t_v0 dX0_arityOf_6 ?_
    refine lv_icmp_ge (tgt := 27) hx hb dX0_arityOf_9 (by decide) (fun c2 => ?_) (fun c2 => ?_)
    · have hF := xif hF c2
      refine lv_iconst (v := 0) hx hb dX0_arityOf_27 (by decide) ?_
      cases hF
      exact x_iret C0 hR hS dX0_arityOf_28
    · have hF := xel hF c2
      refine lv_iload_n hx hb dX0_arityOf_12 rfl (lv_at hl 1 rfl) ?_
      refine lv_bipush (v := 8) hx hb dX0_arityOf_13 (by decide) ?_
      refine lv_icmp_ge (tgt := 27) hx hb dX0_arityOf_15 (by decide) (fun c3 => ?_) (fun c3 => ?_)
      · have hF := xif hF c3
        refine lv_iconst (v := 0) hx hb dX0_arityOf_27 (by decide) ?_
        cases hF
        exact x_iret C0 hR hS dX0_arityOf_28
      · have hF := xel hF c3
        refine lv_aload_n hx hb dX0_arityOf_18 rfl (lv_at hl 0 rfl) ?_
        obtain ⟨a4, e_a4, hF⟩ := xbd hF
        refine gf_X0_15 C0 hR t_v0 e_a4 dX0_arityOf_19 ?_
        refine lv_iload_n hx hb dX0_arityOf_22 rfl (lv_at hl 1 rfl) ?_
        obtain ⟨a5, e_a5, hF⟩ := xbd hF
        refine x_iald C0 hR e_a5 dX0_arityOf_23 ?_
        refine lv_goto (tgt := 28) hx hb dX0_arityOf_24 (by decide) ?_
        cases hF
        exact x_iret C0 hR hS dX0_arityOf_28
theorem xm_X0_arityOf : xMw yX0_arityOf cX0_arityOf 2 (some .int) 1 := ⟨xin 652 (by decide +kernel) rfl, xin 115 (by decide +kernel) rfl, by decide +kernel⟩
theorem xi_X0_arityOf : Cond.instanceMethod yX0_arityOf ∈ xT := xin 650 (by decide +kernel) rfl
theorem xe_X0_arityOf : Cond.selects yX0_arityOf.cls yX0_arityOf yX0_arityOf ∈ xT := xin 651 (by decide +kernel) rfl
theorem dX0_plainCode_0 : decode cX0_plainCode 0 = .ok (.iconst 0, 1) := by decide +kernel
theorem dX0_plainCode_1 : decode cX0_plainCode 1 = .ok (.istore_n 1, 1) := by decide +kernel
theorem dX0_plainCode_2 : decode cX0_plainCode 2 = .ok (.iload_n 1, 1) := by decide +kernel
theorem dX0_plainCode_3 : decode cX0_plainCode 3 = .ok (.aload_n 0, 1) := by decide +kernel
theorem dX0_plainCode_4 : decode cX0_plainCode 4 = .ok (.getfield 40, 3) := by decide +kernel
theorem dX0_plainCode_7 : decode cX0_plainCode 7 = .ok (.if_icmp .ge 19, 3) := by decide +kernel
theorem dX0_plainCode_10 : decode cX0_plainCode 10 = .ok (.aload_n 0, 1) := by decide +kernel
theorem dX0_plainCode_11 : decode cX0_plainCode 11 = .ok (.iload_n 1, 1) := by decide +kernel
theorem dX0_plainCode_12 : decode cX0_plainCode 12 = .ok (.invokevirtual 54, 3) := by decide +kernel
theorem dX0_plainCode_15 : decode cX0_plainCode 15 = .ok (.ifCond .ne 5, 3) := by decide +kernel
theorem dX0_plainCode_18 : decode cX0_plainCode 18 = .ok (.iload_n 1, 1) := by decide +kernel
theorem dX0_plainCode_19 : decode cX0_plainCode 19 = .ok (.ireturn, 1) := by decide +kernel
theorem dX0_plainCode_20 : decode cX0_plainCode 20 = .ok (.iinc 1 1, 3) := by decide +kernel
theorem dX0_plainCode_23 : decode cX0_plainCode 23 = .ok (.goto (-21), 3) := by decide +kernel
theorem dX0_plainCode_26 : decode cX0_plainCode 26 = .ok (.aload_n 0, 1) := by decide +kernel
theorem dX0_plainCode_27 : decode cX0_plainCode 27 = .ok (.getfield 44, 3) := by decide +kernel
theorem dX0_plainCode_30 : decode cX0_plainCode 30 = .ok (.ifCond .le 8, 3) := by decide +kernel
theorem dX0_plainCode_33 : decode cX0_plainCode 33 = .ok (.bipush 100, 2) := by decide +kernel
theorem dX0_plainCode_35 : decode cX0_plainCode 35 = .ok (.goto 4, 3) := by decide +kernel
theorem dX0_plainCode_38 : decode cX0_plainCode 38 = .ok (.iconst (-1), 1) := by decide +kernel
theorem dX0_plainCode_39 : decode cX0_plainCode 39 = .ok (.ireturn, 1) := by decide +kernel
theorem wl_X0_54 : Cond.methodLink RX0 54 yX0_arityOf ∈ xT := xin 1125 (by decide +kernel) rfl
section XN_X0_plainCode
variable {p : Program} {l : Launch} {e : Env} {R : Room} {s : State} {m : MethodId} {args : Array Value} {below : List Frame} {meth : Method} {c : Code} {H H0 : Heap} {locs : List Loc} {cells slots : Nat} {Q : State → Prop} {cc : ByteArray} {nL pc : Nat} {rt : Option FieldType} {ls : Array Slot} {rest : List Value} {D : xD} {ty : xTy} {h : xH}
theorem cl_X0_54 {v0 : Nat} {v1 : Int32} {r : Int32} (C0 : xC D RX0 cc nL rt p s m args meth c) (hR : xRep D ty h H) (hS : xS ty H0 H locs) (hF : jf_X0_arityOf ty h v0 v1 = some r) (t_v0 : ty v0 = some (0, 0)) (hrm : jr_X0_arityOf.frames + 1 ≤ R.frames ∧ 8 + (2 + 11) + jr_X0_arityOf.locals ≤ R.locals) (hsz : ls.size = nL) (hW : (rest.map fun v => v.category).sum ≤ 8) (hf : cells ≤ R.cells ∧ slots ≤ R.slots) (hdg : decode cc pc = .ok (.invokevirtual 54, 3)) (kk : ∀ (H1 : Heap) (locs1 : List Loc), xRep D ty h H1 → xS ty H0 H1 locs1 → W p l e R s m args below meth c H1 locs1 cells slots Q (F0 m (pc + 3) ls (.int r :: rest))) : W p l e R s m args below meth c H locs cells slots Q (F0 m pc ls (.int v1 :: .ref v0 :: rest)) := x_callV C0 (jc_X0_arityOf t_v0 hF) xm_X0_arityOf xi_X0_arityOf xe_X0_arityOf wl_X0_54 ⟨rfl, rfl, hrm⟩ (ci := 0) rfl t_v0 hR hS (As := [.int v1]) rfl hsz rfl hW hdg hf kk
end XN_X0_plainCode
set_option maxHeartbeats 4000000 in
set_option maxRecDepth 100000 in
theorem jw_X0_plainCode_2 {p : Program} {l : Launch} {e : Env} {s : State} {m : MethodId} {args : Array Value} {below : List Frame} {meth : Method} {c : Code} {D : xD} {ty : xTy} {h : xH} (C0 : xC D RX0 cX0_plainCode 2 (some .int) p s m args meth c) {r : Int32} : ∀ n : Nat, ∀ (v0 : Nat) (v1 : Int32), ty v0 = some (0, 0) → jf_X0_plainCode_2 ty h n v0 v1 = some r → ∀ (H : Heap) (locs : List Loc), xRep D ty h H → xS ty s.heap H locs → ∀ ls : Array Slot, lv_has ls 2 [(0, .ref v0), (1, .int v1)] → W p l e jr_X0_plainCode s m args below meth c H locs 0 0 (MQ below (xQ D ty (some (.int r)) h) args s 0 0 (xdom ty)) (F0 m 2 ls []) := by
  have hx := C0.1
  have hb := C0.2.1
  have hown := C0.2.2.2.2.2.1
  have hts := C0.2.2.2.2.2.2.1
  intro n
  induction n with
  | zero =>
    intro v0 v1 t_v0 hF H locs hR hS ls hl
    cases hF
  | succ n ih =>
    intro v0 v1 t_v0 hF H locs hR hS ls hl
    rw [jf_X0_plainCode_2_s] at hF
    refine lv_iload_n hx hb dX0_plainCode_2 rfl (lv_at hl 1 rfl) ?_
    refine lv_aload_n hx hb dX0_plainCode_3 rfl (lv_at hl 0 rfl) ?_
    refine gf_X0_40 C0 hR t_v0 dX0_plainCode_4 ?_
    refine lv_icmp_ge (tgt := 26) hx hb dX0_plainCode_7 (by decide) (fun c1 => ?_) (fun c1 => ?_)
    · have hF := xif hF c1
      refine lv_aload_n hx hb dX0_plainCode_26 rfl (lv_at hl 0 rfl) ?_
      refine gf_X0_44 C0 hR t_v0 dX0_plainCode_27 ?_
      refine lv_if_le (tgt := 38) hx hb dX0_plainCode_30 (by decide) (fun c2 => ?_) (fun c2 => ?_)
      · have hF := xif hF c2
        refine lv_iconst (v := (-1)) hx hb dX0_plainCode_38 (by decide) ?_
        cases hF
        exact x_iret C0 hR hS dX0_plainCode_39
      · have hF := xel hF c2
        refine lv_bipush (v := 100) hx hb dX0_plainCode_33 (by decide) ?_
        refine lv_goto (tgt := 39) hx hb dX0_plainCode_35 (by decide) ?_
        cases hF
        exact x_iret C0 hR hS dX0_plainCode_39
    · have hF := xel hF c1
      refine lv_aload_n hx hb dX0_plainCode_10 rfl (lv_at hl 0 rfl) ?_
      refine lv_iload_n hx hb dX0_plainCode_11 rfl (lv_at hl 1 rfl) ?_
      obtain ⟨a3, e_a3, hF⟩ := xbd hF
      refine cl_X0_54 C0 hR hS e_a3 t_v0 ⟨(Nat.le_of_ble_eq_true rfl), (Nat.le_of_ble_eq_true rfl)⟩ hl.1 (Nat.le_of_ble_eq_true rfl) ⟨(Nat.le_of_ble_eq_true rfl), (Nat.le_of_ble_eq_true rfl)⟩ dX0_plainCode_12 (fun H locs hR hS => ?_)
      refine lv_if_ne (tgt := 20) hx hb dX0_plainCode_15 (by decide) (fun c4 => ?_) (fun c4 => ?_)
      · have hF := xel hF c4
        refine lv_iinc (v := v1 + 1) (lv' := [(1, .int (v1 + 1)), (0, .ref v0)]) hx hb dX0_plainCode_20 hl (k := 1) rfl rfl (by decide) rfl (fun ls hl => ?_)
        refine lv_goto (tgt := 2) hx hb dX0_plainCode_23 (by decide) ?_
        exact ih _ _ t_v0 hF _ _ hR hS _ (lv_sub hl [1, 0] rfl)
      · have hF := xif hF c4
        refine lv_iload_n hx hb dX0_plainCode_18 rfl (lv_at hl 1 rfl) ?_
        cases hF
        exact x_iret C0 hR hS dX0_plainCode_19
set_option maxHeartbeats 4000000 in
set_option maxRecDepth 100000 in
theorem jc_X0_plainCode {l : Launch} {D : xD} {ty : xTy} {h : xH} {v0 : Nat} {r : Int32} (t_v0 : ty v0 = some (0, 0)) (hF : jf_X0_plainCode ty h v0 = some r) : Met l yX0_plainCode (xws yX0_plainCode cX0_plainCode 2 (some .int)) jr_X0_plainCode (xPc D ty h [.ref v0]) (xQ D ty (some (.int r)) h) 0 0 (xdom ty) := by
  refine x_met (by decide) ?_
  intro p e s m below meth c C0 hR
  generalize hargs : ([.ref v0] : List Value).toArray = args at C0 ⊢
  have hx := C0.1
  have hb := C0.2.1
  have hown := C0.2.2.2.2.2.1
  have hts := C0.2.2.2.2.2.2.1
  have hS : xS ty s.heap s.heap [] := xS.rf
  have hl := lv_entry ([.ref v0]) (n := 2) (Nat.le_of_ble_eq_true rfl)
  rw [← hargs, lg_entry_eq]
  rw [hargs]
  generalize (lg_sl ([.ref v0]) ++ List.replicate (2 - (lg_sl ([.ref v0])).length) Slot.unset).toArray = ls at hl ⊢
  have hl : lv_has ls 2 [(0, .ref v0)] := hl
  unfold jf_X0_plainCode at hF
  refine lv_iconst (v := 0) hx hb dX0_plainCode_0 (by decide) ?_
  refine lv_istore_n (lv' := [(1, .int 0), (0, .ref v0)]) hx hb dX0_plainCode_1 rfl hl (by decide) rfl (fun ls hl => ?_)
  obtain ⟨_, hF⟩ := xlim_sp hF
  exact jw_X0_plainCode_2 C0 _ _ _ t_v0 hF _ _ hR hS _ (lv_sub hl [1, 0] rfl)
theorem xm_X0_plainCode : xMw yX0_plainCode cX0_plainCode 2 (some .int) 0 := ⟨xin 1124 (by decide +kernel) rfl, xin 115 (by decide +kernel) rfl, by decide +kernel⟩
theorem xi_X0_plainCode : Cond.instanceMethod yX0_plainCode ∈ xT := xin 1122 (by decide +kernel) rfl
theorem xe_X0_plainCode : Cond.selects yX0_plainCode.cls yX0_plainCode yX0_plainCode ∈ xT := xin 1123 (by decide +kernel) rfl
theorem dX0_places_0 : decode cX0_places 0 = .ok (.iconst 0, 1) := by decide +kernel
theorem dX0_places_1 : decode cX0_places 1 = .ok (.istore_n 1, 1) := by decide +kernel
theorem dX0_places_2 : decode cX0_places 2 = .ok (.iconst 0, 1) := by decide +kernel
theorem dX0_places_3 : decode cX0_places 3 = .ok (.istore_n 2, 1) := by decide +kernel
theorem dX0_places_4 : decode cX0_places 4 = .ok (.iload_n 2, 1) := by decide +kernel
theorem dX0_places_5 : decode cX0_places 5 = .ok (.aload_n 0, 1) := by decide +kernel
theorem dX0_places_6 : decode cX0_places 6 = .ok (.getfield 47, 3) := by decide +kernel
theorem dX0_places_9 : decode cX0_places 9 = .ok (.if_icmp .ge 20, 3) := by decide +kernel
theorem dX0_places_12 : decode cX0_places 12 = .ok (.iload_n 1, 1) := by decide +kernel
theorem dX0_places_13 : decode cX0_places 13 = .ok (.aload_n 0, 1) := by decide +kernel
theorem dX0_places_14 : decode cX0_places 14 = .ok (.iload_n 2, 1) := by decide +kernel
theorem dX0_places_15 : decode cX0_places 15 = .ok (.invokevirtual 58, 3) := by decide +kernel
theorem dX0_places_18 : decode cX0_places 18 = .ok (.getfield 62, 3) := by decide +kernel
theorem dX0_places_21 : decode cX0_places 21 = .ok (.iadd, 1) := by decide +kernel
theorem dX0_places_22 : decode cX0_places 22 = .ok (.istore_n 1, 1) := by decide +kernel
theorem dX0_places_23 : decode cX0_places 23 = .ok (.iinc 2 1, 3) := by decide +kernel
theorem dX0_places_26 : decode cX0_places 26 = .ok (.goto (-22), 3) := by decide +kernel
theorem dX0_places_29 : decode cX0_places 29 = .ok (.iload_n 1, 1) := by decide +kernel
theorem dX0_places_30 : decode cX0_places 30 = .ok (.ireturn, 1) := by decide +kernel
theorem wl_X0_58 : Cond.methodLink RX0 58 yX0_termOf ∈ xT := xin 1184 (by decide +kernel) rfl
theorem wf_X0_62 : Cond.fieldLink RX0 62 "TermShelf$Term" "size" "I" ∈ xT := xin 166 (by decide +kernel) rfl
section XN_X0_places
variable {p : Program} {l : Launch} {e : Env} {R : Room} {s : State} {m : MethodId} {args : Array Value} {below : List Frame} {meth : Method} {c : Code} {H H0 : Heap} {locs : List Loc} {cells slots : Nat} {Q : State → Prop} {cc : ByteArray} {nL pc : Nat} {rt : Option FieldType} {ls : Array Slot} {rest : List Value} {D : xD} {ty : xTy} {h : xH}
theorem cl_X0_58 {v0 : Nat} {v1 : Int32} {r : Nat} (C0 : xC D RX0 cc nL rt p s m args meth c) (hR : xRep D ty h H) (hS : xS ty H0 H locs) (hF : jf_X0_termOf ty h v0 v1 = some r) (t_v0 : ty v0 = some (0, 0)) (hrm : jr_X0_termOf.frames + 1 ≤ R.frames ∧ 8 + (2 + 11) + jr_X0_termOf.locals ≤ R.locals) (hsz : ls.size = nL) (hW : (rest.map fun v => v.category).sum ≤ 8) (hf : cells ≤ R.cells ∧ slots ≤ R.slots) (hdg : decode cc pc = .ok (.invokevirtual 58, 3)) (kk : ∀ (H1 : Heap) (locs1 : List Loc), xRep D ty h H1 → xS ty H0 H1 locs1 → W p l e R s m args below meth c H1 locs1 cells slots Q (F0 m (pc + 3) ls (.ref r :: rest))) : W p l e R s m args below meth c H locs cells slots Q (F0 m pc ls (.int v1 :: .ref v0 :: rest)) := x_callV C0 (jc_X0_termOf t_v0 hF) xm_X0_termOf xi_X0_termOf xe_X0_termOf wl_X0_58 ⟨rfl, rfl, hrm⟩ (ci := 0) rfl t_v0 hR hS (As := [.int v1]) rfl hsz rfl hW hdg hf kk
theorem gf_X0_62 {a : Nat} (C0 : xC D RX0 cc nL rt p s m args meth c) (hR : xRep D ty h H) (ht : ty a = some (0, 7)) (hdg : decode cc pc = .ok (.getfield 62, 3)) (kk : W p l e R s m args below meth c H locs cells slots Q (F0 m (pc + 3) ls (.int (xI h a 2) :: rest))) : W p l e R s m args below meth c H locs cells slots Q (F0 m pc ls (.ref a :: rest)) := x_get C0 hR (ci := 7) (k := 2) (N := 3) (T := TX7) rfl iX7 (by decide) rfl wf_X0_62 rfl ht hdg kk
end XN_X0_places
set_option maxHeartbeats 4000000 in
set_option maxRecDepth 100000 in
theorem jw_X0_places_4 {p : Program} {l : Launch} {e : Env} {s : State} {m : MethodId} {args : Array Value} {below : List Frame} {meth : Method} {c : Code} {D : xD} {ty : xTy} {h : xH} (C0 : xC D RX0 cX0_places 3 (some .int) p s m args meth c) {r : Int32} : ∀ n : Nat, ∀ (v0 : Nat) (v1 : Int32) (v2 : Int32), ty v0 = some (0, 0) → jf_X0_places_4 ty h n v0 v1 v2 = some r → ∀ (H : Heap) (locs : List Loc), xRep D ty h H → xS ty s.heap H locs → ∀ ls : Array Slot, lv_has ls 3 [(0, .ref v0), (1, .int v1), (2, .int v2)] → W p l e jr_X0_places s m args below meth c H locs 0 0 (MQ below (xQ D ty (some (.int r)) h) args s 0 0 (xdom ty)) (F0 m 4 ls []) := by
  have hx := C0.1
  have hb := C0.2.1
  have hown := C0.2.2.2.2.2.1
  have hts := C0.2.2.2.2.2.2.1
  intro n
  induction n with
  | zero =>
    intro v0 v1 v2 t_v0 hF H locs hR hS ls hl
    cases hF
  | succ n ih =>
    intro v0 v1 v2 t_v0 hF H locs hR hS ls hl
    rw [jf_X0_places_4_s] at hF
    refine lv_iload_n hx hb dX0_places_4 rfl (lv_at hl 2 rfl) ?_
    refine lv_aload_n hx hb dX0_places_5 rfl (lv_at hl 0 rfl) ?_
    refine gf_X0_47 C0 hR t_v0 dX0_places_6 ?_
    refine lv_icmp_ge (tgt := 29) hx hb dX0_places_9 (by decide) (fun c1 => ?_) (fun c1 => ?_)
    · have hF := xif hF c1
      refine lv_iload_n hx hb dX0_places_29 rfl (lv_at hl 1 rfl) ?_
      cases hF
      exact x_iret C0 hR hS dX0_places_30
    · have hF := xel hF c1
      refine lv_iload_n hx hb dX0_places_12 rfl (lv_at hl 1 rfl) ?_
      refine lv_aload_n hx hb dX0_places_13 rfl (lv_at hl 0 rfl) ?_
      refine lv_iload_n hx hb dX0_places_14 rfl (lv_at hl 2 rfl) ?_
      obtain ⟨a2, e_a2, hF⟩ := xbd hF
      obtain ⟨u3, e_u3, hF⟩ := xbd hF
      have t_a2 := xck_sp e_u3
      refine cl_X0_58 C0 hR hS e_a2 t_v0 ⟨(Nat.le_of_ble_eq_true rfl), (Nat.le_of_ble_eq_true rfl)⟩ hl.1 (Nat.le_of_ble_eq_true rfl) ⟨(Nat.le_of_ble_eq_true rfl), (Nat.le_of_ble_eq_true rfl)⟩ dX0_places_15 (fun H locs hR hS => ?_)
      refine gf_X0_62 C0 hR t_a2 dX0_places_18 ?_
      refine lv_iadd hx hb dX0_places_21 ?_
      refine lv_istore_n (lv' := [(1, .int (v1 + (xI h a2 2))), (0, .ref v0), (2, .int v2)]) hx hb dX0_places_22 rfl hl (by decide) rfl (fun ls hl => ?_)
      refine lv_iinc (v := v2 + 1) (lv' := [(2, .int (v2 + 1)), (1, .int (v1 + (xI h a2 2))), (0, .ref v0)]) hx hb dX0_places_23 hl (k := 2) rfl rfl (by decide) rfl (fun ls hl => ?_)
      refine lv_goto (tgt := 4) hx hb dX0_places_26 (by decide) ?_
      exact ih _ _ _ t_v0 hF _ _ hR hS _ (lv_sub hl [2, 1, 0] rfl)
set_option maxHeartbeats 4000000 in
set_option maxRecDepth 100000 in
theorem jc_X0_places {l : Launch} {D : xD} {ty : xTy} {h : xH} {v0 : Nat} {r : Int32} (t_v0 : ty v0 = some (0, 0)) (hF : jf_X0_places ty h v0 = some r) : Met l yX0_places (xws yX0_places cX0_places 3 (some .int)) jr_X0_places (xPc D ty h [.ref v0]) (xQ D ty (some (.int r)) h) 0 0 (xdom ty) := by
  refine x_met (by decide) ?_
  intro p e s m below meth c C0 hR
  generalize hargs : ([.ref v0] : List Value).toArray = args at C0 ⊢
  have hx := C0.1
  have hb := C0.2.1
  have hown := C0.2.2.2.2.2.1
  have hts := C0.2.2.2.2.2.2.1
  have hS : xS ty s.heap s.heap [] := xS.rf
  have hl := lv_entry ([.ref v0]) (n := 3) (Nat.le_of_ble_eq_true rfl)
  rw [← hargs, lg_entry_eq]
  rw [hargs]
  generalize (lg_sl ([.ref v0]) ++ List.replicate (3 - (lg_sl ([.ref v0])).length) Slot.unset).toArray = ls at hl ⊢
  have hl : lv_has ls 3 [(0, .ref v0)] := hl
  unfold jf_X0_places at hF
  refine lv_iconst (v := 0) hx hb dX0_places_0 (by decide) ?_
  refine lv_istore_n (lv' := [(1, .int 0), (0, .ref v0)]) hx hb dX0_places_1 rfl hl (by decide) rfl (fun ls hl => ?_)
  refine lv_iconst (v := 0) hx hb dX0_places_2 (by decide) ?_
  refine lv_istore_n (lv' := [(2, .int 0), (1, .int 0), (0, .ref v0)]) hx hb dX0_places_3 rfl hl (by decide) rfl (fun ls hl => ?_)
  obtain ⟨_, hF⟩ := xlim_sp hF
  exact jw_X0_places_4 C0 _ _ _ _ t_v0 hF _ _ hR hS _ (lv_sub hl [2, 1, 0] rfl)
theorem xm_X0_places : xMw yX0_places cX0_places 3 (some .int) 0 := ⟨xin 1183 (by decide +kernel) rfl, xin 115 (by decide +kernel) rfl, by decide +kernel⟩
theorem xi_X0_places : Cond.instanceMethod yX0_places ∈ xT := xin 1181 (by decide +kernel) rfl
theorem xe_X0_places : Cond.selects yX0_places.cls yX0_places yX0_places ∈ xT := xin 1182 (by decide +kernel) rfl
theorem dX1_seed_0 : decode cX1_seed 0 = .ok (.aload_n 0, 1) := by decide +kernel
theorem dX1_seed_1 : decode cX1_seed 1 = .ok (.iload_n 1, 1) := by decide +kernel
theorem dX1_seed_2 : decode cX1_seed 2 = .ok (.putfield 9, 3) := by decide +kernel
theorem dX1_seed_5 : decode cX1_seed 5 = .ok (.return_, 1) := by decide +kernel
theorem wf_X1_9 : Cond.fieldLink RX1 9 "TermShelf$Drawer" "last" "I" ∈ xT := xin 454 (by decide +kernel) rfl
section XN_X1_seed
variable {p : Program} {l : Launch} {e : Env} {R : Room} {s : State} {m : MethodId} {args : Array Value} {below : List Frame} {meth : Method} {c : Code} {H H0 : Heap} {locs : List Loc} {cells slots : Nat} {Q : State → Prop} {cc : ByteArray} {nL pc : Nat} {rt : Option FieldType} {ls : Array Slot} {rest : List Value} {D : xD} {ty : xTy} {h : xH}
theorem pf_X1_9 {a : Nat} {v : Int32} (C0 : xC D RX1 cc nL rt p s m args meth c) (hR : xRep D ty h H) (hS : xS ty H0 H locs) (ht : ty a = some (0, 1)) (hdg : decode cc pc = .ok (.putfield 9, 3)) (kk : ∀ (H1 : Heap) (locs1 : List Loc), xRep D ty (xsI h a 0 v) H1 → xS ty H0 H1 locs1 → W p l e R s m args below meth c H1 locs1 cells slots Q (F0 m (pc + 3) ls rest)) : W p l e R s m args below meth c H locs cells slots Q (F0 m pc ls (.int v :: .ref a :: rest)) := x_puti C0 hR hS (ci := 1) (k := 0) (N := 1) (T := TX1) rfl iX1 tyX1_ok nmX1 (by decide) rfl rfl wf_X1_9 (Or.inl rfl) rfl rfl ht hdg kk
end XN_X1_seed
set_option maxHeartbeats 4000000 in
set_option maxRecDepth 100000 in
theorem jc_X1_seed {l : Launch} {D : xD} {ty : xTy} {h : xH} {v0 : Nat} {v1 : Int32} {h9 : xH} (t_v0 : ty v0 = some (0, 1)) (hF : jf_X1_seed ty h v0 v1 = some h9) : Met l yX1_seed (xws yX1_seed cX1_seed 2 none) jr_X1_seed (xPc D ty h [.ref v0, .int v1]) (xQ D ty none h9) 0 0 (xdom ty) := by
  refine x_met (by decide) ?_
  intro p e s m below meth c C0 hR
  generalize hargs : ([.ref v0, .int v1] : List Value).toArray = args at C0 ⊢
  have hx := C0.1
  have hb := C0.2.1
  have hown := C0.2.2.2.2.2.1
  have hts := C0.2.2.2.2.2.2.1
  have hS : xS ty s.heap s.heap [] := xS.rf
  have hl := lv_entry ([.ref v0, .int v1]) (n := 2) (Nat.le_of_ble_eq_true rfl)
  rw [← hargs, lg_entry_eq]
  rw [hargs]
  generalize (lg_sl ([.ref v0, .int v1]) ++ List.replicate (2 - (lg_sl ([.ref v0, .int v1])).length) Slot.unset).toArray = ls at hl ⊢
  have hl : lv_has ls 2 [(0, .ref v0), (1, .int v1)] := hl
  unfold jf_X1_seed at hF
  refine lv_aload_n hx hb dX1_seed_0 rfl (lv_at hl 0 rfl) ?_
  refine lv_iload_n hx hb dX1_seed_1 rfl (lv_at hl 1 rfl) ?_
  obtain ⟨h1, e_h1, hF⟩ := xbd hF
  refine pf_X1_9 C0 hR hS t_v0 dX1_seed_2 (fun H locs hR hS => ?_)
  rw [Option.some.inj e_h1] at hR
  cases hF
  exact x_vret C0 hR hS dX1_seed_5
theorem xm_X1_seed : xMw yX1_seed cX1_seed 2 none 1 := ⟨xin 1107 (by decide +kernel) rfl, xin 125 (by decide +kernel) rfl, by decide +kernel⟩
theorem xi_X1_seed : Cond.instanceMethod yX1_seed ∈ xT := xin 1105 (by decide +kernel) rfl
theorem xe_X1_seed : Cond.selects yX1_seed.cls yX1_seed yX1_seed ∈ xT := xin 1106 (by decide +kernel) rfl
theorem dX1_number_0 : decode cX1_number 0 = .ok (.aload_n 0, 1) := by decide +kernel
theorem dX1_number_1 : decode cX1_number 1 = .ok (.aload_n 0, 1) := by decide +kernel
theorem dX1_number_2 : decode cX1_number 2 = .ok (.getfield 9, 3) := by decide +kernel
theorem dX1_number_5 : decode cX1_number 5 = .ok (.ldc 15, 2) := by decide +kernel
theorem dX1_number_7 : decode cX1_number 7 = .ok (.imul, 1) := by decide +kernel
theorem dX1_number_8 : decode cX1_number 8 = .ok (.sipush 12345, 3) := by decide +kernel
theorem dX1_number_11 : decode cX1_number 11 = .ok (.iadd, 1) := by decide +kernel
theorem dX1_number_12 : decode cX1_number 12 = .ok (.ldc 16, 2) := by decide +kernel
theorem dX1_number_14 : decode cX1_number 14 = .ok (.iand, 1) := by decide +kernel
theorem dX1_number_15 : decode cX1_number 15 = .ok (.putfield 9, 3) := by decide +kernel
theorem dX1_number_18 : decode cX1_number 18 = .ok (.aload_n 0, 1) := by decide +kernel
theorem dX1_number_19 : decode cX1_number 19 = .ok (.getfield 9, 3) := by decide +kernel
theorem dX1_number_22 : decode cX1_number 22 = .ok (.ldc 17, 2) := by decide +kernel
theorem dX1_number_24 : decode cX1_number 24 = .ok (.idiv, 1) := by decide +kernel
theorem dX1_number_25 : decode cX1_number 25 = .ok (.ireturn, 1) := by decide +kernel
theorem wk_X1_15 : Cond.constant RX1 15 1103515245 ∈ xT := xin 1117 (by decide +kernel) rfl
theorem wk_X1_16 : Cond.constant RX1 16 2147483647 ∈ xT := xin 1118 (by decide +kernel) rfl
theorem wk_X1_17 : Cond.constant RX1 17 65536 ∈ xT := xin 1119 (by decide +kernel) rfl
section XN_X1_number
variable {p : Program} {l : Launch} {e : Env} {R : Room} {s : State} {m : MethodId} {args : Array Value} {below : List Frame} {meth : Method} {c : Code} {H H0 : Heap} {locs : List Loc} {cells slots : Nat} {Q : State → Prop} {cc : ByteArray} {nL pc : Nat} {rt : Option FieldType} {ls : Array Slot} {rest : List Value} {D : xD} {ty : xTy} {h : xH}
theorem gf_X1_9 {a : Nat} (C0 : xC D RX1 cc nL rt p s m args meth c) (hR : xRep D ty h H) (ht : ty a = some (0, 1)) (hdg : decode cc pc = .ok (.getfield 9, 3)) (kk : W p l e R s m args below meth c H locs cells slots Q (F0 m (pc + 3) ls (.int (xI h a 0) :: rest))) : W p l e R s m args below meth c H locs cells slots Q (F0 m pc ls (.ref a :: rest)) := x_get C0 hR (ci := 1) (k := 0) (N := 1) (T := TX1) rfl iX1 (by decide) rfl wf_X1_9 rfl ht hdg kk
end XN_X1_number
set_option maxHeartbeats 4000000 in
set_option maxRecDepth 100000 in
theorem jc_X1_number {l : Launch} {D : xD} {ty : xTy} {h : xH} {v0 : Nat} {r : Int32} {h9 : xH} (t_v0 : ty v0 = some (0, 1)) (hF : jf_X1_number ty h v0 = some (r, h9)) : Met l yX1_number (xws yX1_number cX1_number 1 (some .int)) jr_X1_number (xPc D ty h [.ref v0]) (xQ D ty (some (.int r)) h9) 0 0 (xdom ty) := by
  refine x_met (by decide) ?_
  intro p e s m below meth c C0 hR
  generalize hargs : ([.ref v0] : List Value).toArray = args at C0 ⊢
  have hx := C0.1
  have hb := C0.2.1
  have hown := C0.2.2.2.2.2.1
  have hts := C0.2.2.2.2.2.2.1
  have hS : xS ty s.heap s.heap [] := xS.rf
  have hl := lv_entry ([.ref v0]) (n := 1) (Nat.le_of_ble_eq_true rfl)
  rw [← hargs, lg_entry_eq]
  rw [hargs]
  generalize (lg_sl ([.ref v0]) ++ List.replicate (1 - (lg_sl ([.ref v0])).length) Slot.unset).toArray = ls at hl ⊢
  have hl : lv_has ls 1 [(0, .ref v0)] := hl
  unfold jf_X1_number at hF
  refine lv_aload_n hx hb dX1_number_0 rfl (lv_at hl 0 rfl) ?_
  refine lv_aload_n hx hb dX1_number_1 rfl (lv_at hl 0 rfl) ?_
  refine gf_X1_9 C0 hR t_v0 dX1_number_2 ?_
  refine lv_ldc (v := 1103515245) hx hb hown (hts _ wk_X1_15) dX1_number_5 ?_
  refine lv_imul hx hb dX1_number_7 ?_
  refine lv_sipush (v := 12345) hx hb dX1_number_8 (by decide) ?_
  refine lv_iadd hx hb dX1_number_11 ?_
  refine lv_ldc (v := 2147483647) hx hb hown (hts _ wk_X1_16) dX1_number_12 ?_
  refine lv_iand hx hb dX1_number_14 ?_
  obtain ⟨h1, e_h1, hF⟩ := xbd hF
  refine pf_X1_9 C0 hR hS t_v0 dX1_number_15 (fun H locs hR hS => ?_)
  rw [Option.some.inj e_h1] at hR
  refine lv_aload_n hx hb dX1_number_18 rfl (lv_at hl 0 rfl) ?_
  refine gf_X1_9 C0 hR t_v0 dX1_number_19 ?_
  refine lv_ldc (v := 65536) hx hb hown (hts _ wk_X1_17) dX1_number_22 ?_
  obtain ⟨a2, e_a2, hF⟩ := xbd hF
  have n_a2 := (xdv_sp e_a2).1
  refine lv_idiv hx hb dX1_number_24 n_a2 ?_
  cases hF
  exact x_iret C0 hR hS dX1_number_25
theorem xm_X1_number : xMw yX1_number cX1_number 1 (some .int) 0 := ⟨xin 1116 (by decide +kernel) rfl, xin 125 (by decide +kernel) rfl, by decide +kernel⟩
theorem xi_X1_number : Cond.instanceMethod yX1_number ∈ xT := xin 1115 (by decide +kernel) rfl
theorem xe_X1_number : Cond.selects yX1_number.cls yX1_number yX1_number ∈ xT := xin 49 (by decide +kernel) rfl
theorem dX7_clear_0 : decode cX7_clear 0 = .ok (.aload_n 0, 1) := by decide +kernel
theorem dX7_clear_1 : decode cX7_clear 1 = .ok (.iconst 0, 1) := by decide +kernel
theorem dX7_clear_2 : decode cX7_clear 2 = .ok (.putfield 9, 3) := by decide +kernel
theorem dX7_clear_5 : decode cX7_clear 5 = .ok (.return_, 1) := by decide +kernel
theorem wf_X7_9 : Cond.fieldLink RX7 9 "TermShelf$Term" "size" "I" ∈ xT := xin 157 (by decide +kernel) rfl
section XN_X7_clear
variable {p : Program} {l : Launch} {e : Env} {R : Room} {s : State} {m : MethodId} {args : Array Value} {below : List Frame} {meth : Method} {c : Code} {H H0 : Heap} {locs : List Loc} {cells slots : Nat} {Q : State → Prop} {cc : ByteArray} {nL pc : Nat} {rt : Option FieldType} {ls : Array Slot} {rest : List Value} {D : xD} {ty : xTy} {h : xH}
theorem pf_X7_9 {a : Nat} {v : Int32} (C0 : xC D RX7 cc nL rt p s m args meth c) (hR : xRep D ty h H) (hS : xS ty H0 H locs) (ht : ty a = some (0, 7)) (hdg : decode cc pc = .ok (.putfield 9, 3)) (kk : ∀ (H1 : Heap) (locs1 : List Loc), xRep D ty (xsI h a 2 v) H1 → xS ty H0 H1 locs1 → W p l e R s m args below meth c H1 locs1 cells slots Q (F0 m (pc + 3) ls rest)) : W p l e R s m args below meth c H locs cells slots Q (F0 m pc ls (.int v :: .ref a :: rest)) := x_puti C0 hR hS (ci := 7) (k := 2) (N := 3) (T := TX7) rfl iX7 tyX7_ok nmX7 (by decide) rfl rfl wf_X7_9 (Or.inl rfl) rfl rfl ht hdg kk
end XN_X7_clear
set_option maxHeartbeats 4000000 in
set_option maxRecDepth 100000 in
theorem jc_X7_clear {l : Launch} {D : xD} {ty : xTy} {h : xH} {v0 : Nat} {h9 : xH} (t_v0 : ty v0 = some (0, 7)) (hF : jf_X7_clear ty h v0 = some h9) : Met l yX7_clear (xws yX7_clear cX7_clear 1 none) jr_X7_clear (xPc D ty h [.ref v0]) (xQ D ty none h9) 0 0 (xdom ty) := by
  refine x_met (by decide) ?_
  intro p e s m below meth c C0 hR
  generalize hargs : ([.ref v0] : List Value).toArray = args at C0 ⊢
  have hx := C0.1
  have hb := C0.2.1
  have hown := C0.2.2.2.2.2.1
  have hts := C0.2.2.2.2.2.2.1
  have hS : xS ty s.heap s.heap [] := xS.rf
  have hl := lv_entry ([.ref v0]) (n := 1) (Nat.le_of_ble_eq_true rfl)
  rw [← hargs, lg_entry_eq]
  rw [hargs]
  generalize (lg_sl ([.ref v0]) ++ List.replicate (1 - (lg_sl ([.ref v0])).length) Slot.unset).toArray = ls at hl ⊢
  have hl : lv_has ls 1 [(0, .ref v0)] := hl
  unfold jf_X7_clear at hF
  refine lv_aload_n hx hb dX7_clear_0 rfl (lv_at hl 0 rfl) ?_
  refine lv_iconst (v := 0) hx hb dX7_clear_1 (by decide) ?_
  obtain ⟨h1, e_h1, hF⟩ := xbd hF
  refine pf_X7_9 C0 hR hS t_v0 dX7_clear_2 (fun H locs hR hS => ?_)
  rw [Option.some.inj e_h1] at hR
  cases hF
  exact x_vret C0 hR hS dX7_clear_5
theorem xm_X7_clear : xMw yX7_clear cX7_clear 1 none 0 := ⟨xin 632 (by decide +kernel) rfl, xin 116 (by decide +kernel) rfl, by decide +kernel⟩
theorem xi_X7_clear : Cond.instanceMethod yX7_clear ∈ xT := xin 630 (by decide +kernel) rfl
theorem xe_X7_clear : Cond.selects yX7_clear.cls yX7_clear yX7_clear ∈ xT := xin 631 (by decide +kernel) rfl
theorem dX7_add_0 : decode cX7_add 0 = .ok (.aload_n 0, 1) := by decide +kernel
theorem dX7_add_1 : decode cX7_add 1 = .ok (.getfield 9, 3) := by decide +kernel
theorem dX7_add_4 : decode cX7_add 4 = .ok (.ifCond .lt 15, 3) := by decide +kernel
theorem dX7_add_7 : decode cX7_add 7 = .ok (.aload_n 0, 1) := by decide +kernel
theorem dX7_add_8 : decode cX7_add 8 = .ok (.getfield 9, 3) := by decide +kernel
theorem dX7_add_11 : decode cX7_add 11 = .ok (.aload_n 0, 1) := by decide +kernel
theorem dX7_add_12 : decode cX7_add 12 = .ok (.getfield 15, 3) := by decide +kernel
theorem dX7_add_15 : decode cX7_add 15 = .ok (.arraylength, 1) := by decide +kernel
theorem dX7_add_16 : decode cX7_add 16 = .ok (.if_icmp .lt 5, 3) := by decide +kernel
theorem dX7_add_19 : decode cX7_add 19 = .ok (.iconst 0, 1) := by decide +kernel
theorem dX7_add_20 : decode cX7_add 20 = .ok (.ireturn, 1) := by decide +kernel
theorem dX7_add_21 : decode cX7_add 21 = .ok (.aload_n 0, 1) := by decide +kernel
theorem dX7_add_22 : decode cX7_add 22 = .ok (.getfield 15, 3) := by decide +kernel
theorem dX7_add_25 : decode cX7_add 25 = .ok (.aload_n 0, 1) := by decide +kernel
theorem dX7_add_26 : decode cX7_add 26 = .ok (.getfield 9, 3) := by decide +kernel
theorem dX7_add_29 : decode cX7_add 29 = .ok (.iload_n 1, 1) := by decide +kernel
theorem dX7_add_30 : decode cX7_add 30 = .ok (.iastore, 1) := by decide +kernel
theorem dX7_add_31 : decode cX7_add 31 = .ok (.aload_n 0, 1) := by decide +kernel
theorem dX7_add_32 : decode cX7_add 32 = .ok (.getfield 19, 3) := by decide +kernel
theorem dX7_add_35 : decode cX7_add 35 = .ok (.aload_n 0, 1) := by decide +kernel
theorem dX7_add_36 : decode cX7_add 36 = .ok (.getfield 9, 3) := by decide +kernel
theorem dX7_add_39 : decode cX7_add 39 = .ok (.iload_n 2, 1) := by decide +kernel
theorem dX7_add_40 : decode cX7_add 40 = .ok (.iastore, 1) := by decide +kernel
theorem dX7_add_41 : decode cX7_add 41 = .ok (.aload_n 0, 1) := by decide +kernel
theorem dX7_add_42 : decode cX7_add 42 = .ok (.dup, 1) := by decide +kernel
theorem dX7_add_43 : decode cX7_add 43 = .ok (.getfield 9, 3) := by decide +kernel
theorem dX7_add_46 : decode cX7_add 46 = .ok (.iconst 1, 1) := by decide +kernel
theorem dX7_add_47 : decode cX7_add 47 = .ok (.iadd, 1) := by decide +kernel
theorem dX7_add_48 : decode cX7_add 48 = .ok (.putfield 9, 3) := by decide +kernel
theorem dX7_add_51 : decode cX7_add 51 = .ok (.iconst 1, 1) := by decide +kernel
theorem dX7_add_52 : decode cX7_add 52 = .ok (.ireturn, 1) := by decide +kernel
theorem wf_X7_15 : Cond.fieldLink RX7 15 "TermShelf$Term" "codes" "[I" ∈ xT := xin 155 (by decide +kernel) rfl
theorem wf_X7_19 : Cond.fieldLink RX7 19 "TermShelf$Term" "arities" "[I" ∈ xT := xin 156 (by decide +kernel) rfl
section XN_X7_add
variable {p : Program} {l : Launch} {e : Env} {R : Room} {s : State} {m : MethodId} {args : Array Value} {below : List Frame} {meth : Method} {c : Code} {H H0 : Heap} {locs : List Loc} {cells slots : Nat} {Q : State → Prop} {cc : ByteArray} {nL pc : Nat} {rt : Option FieldType} {ls : Array Slot} {rest : List Value} {D : xD} {ty : xTy} {h : xH}
theorem gf_X7_15 {a : Nat} (C0 : xC D RX7 cc nL rt p s m args meth c) (hR : xRep D ty h H) (ht : ty a = some (0, 7)) {v : Nat} (hv : xR h a 0 = some v) (hdg : decode cc pc = .ok (.getfield 15, 3)) (kk : W p l e R s m args below meth c H locs cells slots Q (F0 m (pc + 3) ls (.ref v :: rest))) : W p l e R s m args below meth c H locs cells slots Q (F0 m pc ls (.ref a :: rest)) := x_get C0 hR (ci := 7) (k := 0) (N := 3) (T := TX7) rfl iX7 (by decide) rfl wf_X7_15 (by show va_rf (xR h a 0) = _; rw [hv]; rfl) ht hdg kk
theorem gf_X7_19 {a : Nat} (C0 : xC D RX7 cc nL rt p s m args meth c) (hR : xRep D ty h H) (ht : ty a = some (0, 7)) {v : Nat} (hv : xR h a 1 = some v) (hdg : decode cc pc = .ok (.getfield 19, 3)) (kk : W p l e R s m args below meth c H locs cells slots Q (F0 m (pc + 3) ls (.ref v :: rest))) : W p l e R s m args below meth c H locs cells slots Q (F0 m pc ls (.ref a :: rest)) := x_get C0 hR (ci := 7) (k := 1) (N := 3) (T := TX7) rfl iX7 (by decide) rfl wf_X7_19 (by show va_rf (xR h a 1) = _; rw [hv]; rfl) ht hdg kk
theorem gf_X7_9 {a : Nat} (C0 : xC D RX7 cc nL rt p s m args meth c) (hR : xRep D ty h H) (ht : ty a = some (0, 7)) (hdg : decode cc pc = .ok (.getfield 9, 3)) (kk : W p l e R s m args below meth c H locs cells slots Q (F0 m (pc + 3) ls (.int (xI h a 2) :: rest))) : W p l e R s m args below meth c H locs cells slots Q (F0 m pc ls (.ref a :: rest)) := x_get C0 hR (ci := 7) (k := 2) (N := 3) (T := TX7) rfl iX7 (by decide) rfl wf_X7_9 rfl ht hdg kk
end XN_X7_add
set_option maxHeartbeats 4000000 in
set_option maxRecDepth 100000 in
theorem jc_X7_add {l : Launch} {D : xD} {ty : xTy} {h : xH} {v0 : Nat} {v1 : Int32} {v2 : Int32} {r : Int32} {h9 : xH} (t_v0 : ty v0 = some (0, 7)) (hF : jf_X7_add ty h v0 v1 v2 = some (r, h9)) : Met l yX7_add (xws yX7_add cX7_add 3 (some .boolean)) jr_X7_add (xPc D ty h [.ref v0, .int v1, .int v2]) (xQ D ty (some (.int r)) h9) 0 0 (xdom ty) := by
  refine x_met (by decide) ?_
  intro p e s m below meth c C0 hR
  generalize hargs : ([.ref v0, .int v1, .int v2] : List Value).toArray = args at C0 ⊢
  have hx := C0.1
  have hb := C0.2.1
  have hown := C0.2.2.2.2.2.1
  have hts := C0.2.2.2.2.2.2.1
  have hS : xS ty s.heap s.heap [] := xS.rf
  have hl := lv_entry ([.ref v0, .int v1, .int v2]) (n := 3) (Nat.le_of_ble_eq_true rfl)
  rw [← hargs, lg_entry_eq]
  rw [hargs]
  generalize (lg_sl ([.ref v0, .int v1, .int v2]) ++ List.replicate (3 - (lg_sl ([.ref v0, .int v1, .int v2])).length) Slot.unset).toArray = ls at hl ⊢
  have hl : lv_has ls 3 [(0, .ref v0), (1, .int v1), (2, .int v2)] := hl
  unfold jf_X7_add at hF
  refine lv_aload_n hx hb dX7_add_0 rfl (lv_at hl 0 rfl) ?_
  refine gf_X7_9 C0 hR t_v0 dX7_add_1 ?_
  refine lv_if_lt (tgt := 19) hx hb dX7_add_4 (by decide) (fun c1 => ?_) (fun c1 => ?_)
  · have hF := xif hF c1
    refine lv_iconst (v := 0) hx hb dX7_add_19 (by decide) ?_
    cases hF
    exact x_zret (w := 0) C0 hR hS (by decide) dX7_add_20
  · have hF := xel hF c1
    refine lv_aload_n hx hb dX7_add_7 rfl (lv_at hl 0 rfl) ?_
    refine gf_X7_9 C0 hR t_v0 dX7_add_8 ?_
    refine lv_aload_n hx hb dX7_add_11 rfl (lv_at hl 0 rfl) ?_
    obtain ⟨a2, e_a2, hF⟩ := xbd hF
    refine gf_X7_15 C0 hR t_v0 e_a2 dX7_add_12 ?_
    obtain ⟨a3, e_a3, hF⟩ := xbd hF
    refine x_len C0 hR e_a3 dX7_add_15 ?_
    refine lv_icmp_lt (tgt := 21) hx hb dX7_add_16 (by decide) (fun c4 => ?_) (fun c4 => ?_)
    · have hF := xif hF c4
      refine lv_aload_n hx hb dX7_add_21 rfl (lv_at hl 0 rfl) ?_
      obtain ⟨a5, e_a5, hF⟩ := xbd hF
      refine gf_X7_15 C0 hR t_v0 e_a5 dX7_add_22 ?_
      refine lv_aload_n hx hb dX7_add_25 rfl (lv_at hl 0 rfl) ?_
      refine gf_X7_9 C0 hR t_v0 dX7_add_26 ?_
      refine lv_iload_n hx hb dX7_add_29 rfl (lv_at hl 1 rfl) ?_
      obtain ⟨h6, e_h6, hF⟩ := xbd hF
      refine x_iast C0 hR hS e_h6 dX7_add_30 (fun H locs hR hS => ?_)
      refine lv_aload_n hx hb dX7_add_31 rfl (lv_at hl 0 rfl) ?_
      obtain ⟨a7, e_a7, hF⟩ := xbd hF
      refine gf_X7_19 C0 hR t_v0 e_a7 dX7_add_32 ?_
      refine lv_aload_n hx hb dX7_add_35 rfl (lv_at hl 0 rfl) ?_
      refine gf_X7_9 C0 hR t_v0 dX7_add_36 ?_
      refine lv_iload_n hx hb dX7_add_39 rfl (lv_at hl 2 rfl) ?_
      obtain ⟨h8, e_h8, hF⟩ := xbd hF
      refine x_iast C0 hR hS e_h8 dX7_add_40 (fun H locs hR hS => ?_)
      refine lv_aload_n hx hb dX7_add_41 rfl (lv_at hl 0 rfl) ?_
      refine lv_dup hx hb dX7_add_42 rfl ?_
      refine gf_X7_9 C0 hR t_v0 dX7_add_43 ?_
      refine lv_iconst (v := 1) hx hb dX7_add_46 (by decide) ?_
      refine lv_iadd hx hb dX7_add_47 ?_
      obtain ⟨h9, e_h9, hF⟩ := xbd hF
      refine pf_X7_9 C0 hR hS t_v0 dX7_add_48 (fun H locs hR hS => ?_)
      rw [Option.some.inj e_h9] at hR
      refine lv_iconst (v := 1) hx hb dX7_add_51 (by decide) ?_
      cases hF
      exact x_zret (w := 1) C0 hR hS (by decide) dX7_add_52
    · have hF := xel hF c4
      refine lv_iconst (v := 0) hx hb dX7_add_19 (by decide) ?_
      cases hF
      exact x_zret (w := 0) C0 hR hS (by decide) dX7_add_20
theorem xm_X7_add : xMw yX7_add cX7_add 3 (some .boolean) 2 := ⟨xin 656 (by decide +kernel) rfl, xin 116 (by decide +kernel) rfl, by decide +kernel⟩
theorem xi_X7_add : Cond.instanceMethod yX7_add ∈ xT := xin 654 (by decide +kernel) rfl
theorem xe_X7_add : Cond.selects yX7_add.cls yX7_add yX7_add ∈ xT := xin 655 (by decide +kernel) rfl
theorem dX1_drawTerm_0 : decode cX1_drawTerm 0 = .ok (.aload_n 2, 1) := by decide +kernel
theorem dX1_drawTerm_1 : decode cX1_drawTerm 1 = .ok (.invokevirtual 18, 3) := by decide +kernel
theorem dX1_drawTerm_4 : decode cX1_drawTerm 4 = .ok (.aload_n 1, 1) := by decide +kernel
theorem dX1_drawTerm_5 : decode cX1_drawTerm 5 = .ok (.getfield 23, 3) := by decide +kernel
theorem dX1_drawTerm_8 : decode cX1_drawTerm 8 = .ok (.aload_n 1, 1) := by decide +kernel
theorem dX1_drawTerm_9 : decode cX1_drawTerm 9 = .ok (.getfield 28, 3) := by decide +kernel
theorem dX1_drawTerm_12 : decode cX1_drawTerm 12 = .ok (.iadd, 1) := by decide +kernel
theorem dX1_drawTerm_13 : decode cX1_drawTerm 13 = .ok (.istore_n 3, 1) := by decide +kernel
theorem dX1_drawTerm_14 : decode cX1_drawTerm 14 = .ok (.iload_n 3, 1) := by decide +kernel
theorem dX1_drawTerm_15 : decode cX1_drawTerm 15 = .ok (.ifCond .gt 5, 3) := by decide +kernel
theorem dX1_drawTerm_18 : decode cX1_drawTerm 18 = .ok (.iconst 0, 1) := by decide +kernel
theorem dX1_drawTerm_19 : decode cX1_drawTerm 19 = .ok (.ireturn, 1) := by decide +kernel
theorem dX1_drawTerm_20 : decode cX1_drawTerm 20 = .ok (.iconst 1, 1) := by decide +kernel
theorem dX1_drawTerm_21 : decode cX1_drawTerm 21 = .ok (.istore 4, 2) := by decide +kernel
theorem dX1_drawTerm_23 : decode cX1_drawTerm 23 = .ok (.iconst 0, 1) := by decide +kernel
theorem dX1_drawTerm_24 : decode cX1_drawTerm 24 = .ok (.istore 5, 2) := by decide +kernel
theorem dX1_drawTerm_26 : decode cX1_drawTerm 26 = .ok (.iload 5, 2) := by decide +kernel
theorem dX1_drawTerm_28 : decode cX1_drawTerm 28 = .ok (.bipush 12, 2) := by decide +kernel
theorem dX1_drawTerm_30 : decode cX1_drawTerm 30 = .ok (.if_icmp .ge 107, 3) := by decide +kernel
theorem dX1_drawTerm_33 : decode cX1_drawTerm 33 = .ok (.iload 4, 2) := by decide +kernel
theorem dX1_drawTerm_35 : decode cX1_drawTerm 35 = .ok (.ifCond .le 102, 3) := by decide +kernel
theorem dX1_drawTerm_38 : decode cX1_drawTerm 38 = .ok (.aload_n 0, 1) := by decide +kernel
theorem dX1_drawTerm_39 : decode cX1_drawTerm 39 = .ok (.invokevirtual 31, 3) := by decide +kernel
theorem dX1_drawTerm_42 : decode cX1_drawTerm 42 = .ok (.iload_n 3, 1) := by decide +kernel
theorem dX1_drawTerm_43 : decode cX1_drawTerm 43 = .ok (.irem, 1) := by decide +kernel
theorem dX1_drawTerm_44 : decode cX1_drawTerm 44 = .ok (.istore 6, 2) := by decide +kernel
theorem dX1_drawTerm_46 : decode cX1_drawTerm 46 = .ok (.iload 6, 2) := by decide +kernel
theorem dX1_drawTerm_48 : decode cX1_drawTerm 48 = .ok (.aload_n 1, 1) := by decide +kernel
theorem dX1_drawTerm_49 : decode cX1_drawTerm 49 = .ok (.getfield 23, 3) := by decide +kernel
theorem dX1_drawTerm_52 : decode cX1_drawTerm 52 = .ok (.if_icmp .ge 8, 3) := by decide +kernel
theorem dX1_drawTerm_55 : decode cX1_drawTerm 55 = .ok (.iload 6, 2) := by decide +kernel
theorem dX1_drawTerm_57 : decode cX1_drawTerm 57 = .ok (.goto 13, 3) := by decide +kernel
theorem dX1_drawTerm_60 : decode cX1_drawTerm 60 = .ok (.bipush 100, 2) := by decide +kernel
theorem dX1_drawTerm_62 : decode cX1_drawTerm 62 = .ok (.iload 6, 2) := by decide +kernel
theorem dX1_drawTerm_64 : decode cX1_drawTerm 64 = .ok (.iadd, 1) := by decide +kernel
theorem dX1_drawTerm_65 : decode cX1_drawTerm 65 = .ok (.aload_n 1, 1) := by decide +kernel
theorem dX1_drawTerm_66 : decode cX1_drawTerm 66 = .ok (.getfield 23, 3) := by decide +kernel
theorem dX1_drawTerm_69 : decode cX1_drawTerm 69 = .ok (.isub, 1) := by decide +kernel
theorem dX1_drawTerm_70 : decode cX1_drawTerm 70 = .ok (.istore 7, 2) := by decide +kernel
theorem dX1_drawTerm_72 : decode cX1_drawTerm 72 = .ok (.aload_n 2, 1) := by decide +kernel
theorem dX1_drawTerm_73 : decode cX1_drawTerm 73 = .ok (.getfield 35, 3) := by decide +kernel
theorem dX1_drawTerm_76 : decode cX1_drawTerm 76 = .ok (.iload 4, 2) := by decide +kernel
theorem dX1_drawTerm_78 : decode cX1_drawTerm 78 = .ok (.iadd, 1) := by decide +kernel
theorem dX1_drawTerm_79 : decode cX1_drawTerm 79 = .ok (.aload_n 1, 1) := by decide +kernel
theorem dX1_drawTerm_80 : decode cX1_drawTerm 80 = .ok (.iload 7, 2) := by decide +kernel
theorem dX1_drawTerm_82 : decode cX1_drawTerm 82 = .ok (.invokevirtual 38, 3) := by decide +kernel
theorem dX1_drawTerm_85 : decode cX1_drawTerm 85 = .ok (.iadd, 1) := by decide +kernel
theorem dX1_drawTerm_86 : decode cX1_drawTerm 86 = .ok (.bipush 12, 2) := by decide +kernel
theorem dX1_drawTerm_88 : decode cX1_drawTerm 88 = .ok (.if_icmp .le 9, 3) := by decide +kernel
theorem dX1_drawTerm_91 : decode cX1_drawTerm 91 = .ok (.aload_n 1, 1) := by decide +kernel
theorem dX1_drawTerm_92 : decode cX1_drawTerm 92 = .ok (.invokevirtual 42, 3) := by decide +kernel
theorem dX1_drawTerm_95 : decode cX1_drawTerm 95 = .ok (.istore 7, 2) := by decide +kernel
theorem dX1_drawTerm_97 : decode cX1_drawTerm 97 = .ok (.iload 7, 2) := by decide +kernel
theorem dX1_drawTerm_99 : decode cX1_drawTerm 99 = .ok (.iconst (-1), 1) := by decide +kernel
theorem dX1_drawTerm_100 : decode cX1_drawTerm 100 = .ok (.if_icmp .ne 5, 3) := by decide +kernel
theorem dX1_drawTerm_103 : decode cX1_drawTerm 103 = .ok (.iconst 0, 1) := by decide +kernel
theorem dX1_drawTerm_104 : decode cX1_drawTerm 104 = .ok (.ireturn, 1) := by decide +kernel
theorem dX1_drawTerm_105 : decode cX1_drawTerm 105 = .ok (.aload_n 2, 1) := by decide +kernel
theorem dX1_drawTerm_106 : decode cX1_drawTerm 106 = .ok (.iload 7, 2) := by decide +kernel
theorem dX1_drawTerm_108 : decode cX1_drawTerm 108 = .ok (.aload_n 1, 1) := by decide +kernel
theorem dX1_drawTerm_109 : decode cX1_drawTerm 109 = .ok (.iload 7, 2) := by decide +kernel
theorem dX1_drawTerm_111 : decode cX1_drawTerm 111 = .ok (.invokevirtual 38, 3) := by decide +kernel
theorem dX1_drawTerm_114 : decode cX1_drawTerm 114 = .ok (.invokevirtual 45, 3) := by decide +kernel
theorem dX1_drawTerm_117 : decode cX1_drawTerm 117 = .ok (.pop, 1) := by decide +kernel
theorem dX1_drawTerm_118 : decode cX1_drawTerm 118 = .ok (.iload 4, 2) := by decide +kernel
theorem dX1_drawTerm_120 : decode cX1_drawTerm 120 = .ok (.aload_n 1, 1) := by decide +kernel
theorem dX1_drawTerm_121 : decode cX1_drawTerm 121 = .ok (.iload 7, 2) := by decide +kernel
theorem dX1_drawTerm_123 : decode cX1_drawTerm 123 = .ok (.invokevirtual 38, 3) := by decide +kernel
theorem dX1_drawTerm_126 : decode cX1_drawTerm 126 = .ok (.iconst 1, 1) := by decide +kernel
theorem dX1_drawTerm_127 : decode cX1_drawTerm 127 = .ok (.isub, 1) := by decide +kernel
theorem dX1_drawTerm_128 : decode cX1_drawTerm 128 = .ok (.iadd, 1) := by decide +kernel
theorem dX1_drawTerm_129 : decode cX1_drawTerm 129 = .ok (.istore 4, 2) := by decide +kernel
theorem dX1_drawTerm_131 : decode cX1_drawTerm 131 = .ok (.iinc 5 1, 3) := by decide +kernel
theorem dX1_drawTerm_134 : decode cX1_drawTerm 134 = .ok (.goto (-108), 3) := by decide +kernel
theorem dX1_drawTerm_137 : decode cX1_drawTerm 137 = .ok (.iload 4, 2) := by decide +kernel
theorem dX1_drawTerm_139 : decode cX1_drawTerm 139 = .ok (.ifCond .ne 7, 3) := by decide +kernel
theorem dX1_drawTerm_142 : decode cX1_drawTerm 142 = .ok (.iconst 1, 1) := by decide +kernel
theorem dX1_drawTerm_143 : decode cX1_drawTerm 143 = .ok (.goto 4, 3) := by decide +kernel
theorem dX1_drawTerm_146 : decode cX1_drawTerm 146 = .ok (.iconst 0, 1) := by decide +kernel
theorem dX1_drawTerm_147 : decode cX1_drawTerm 147 = .ok (.ireturn, 1) := by decide +kernel
theorem wl_X1_18 : Cond.methodLink RX1 18 yX7_clear ∈ xT := xin 1112 (by decide +kernel) rfl
theorem wl_X1_31 : Cond.methodLink RX1 31 yX1_number ∈ xT := xin 1113 (by decide +kernel) rfl
theorem wl_X1_38 : Cond.methodLink RX1 38 yX0_arityOf ∈ xT := xin 1120 (by decide +kernel) rfl
theorem wl_X1_42 : Cond.methodLink RX1 42 yX0_plainCode ∈ xT := xin 1121 (by decide +kernel) rfl
theorem wl_X1_45 : Cond.methodLink RX1 45 yX7_add ∈ xT := xin 1126 (by decide +kernel) rfl
theorem wf_X1_23 : Cond.fieldLink RX1 23 "TermShelf$Book" "signCount" "I" ∈ xT := xin 183 (by decide +kernel) rfl
theorem wf_X1_28 : Cond.fieldLink RX1 28 "TermShelf$Book" "variableCount" "I" ∈ xT := xin 187 (by decide +kernel) rfl
theorem wf_X1_35 : Cond.fieldLink RX1 35 "TermShelf$Term" "size" "I" ∈ xT := xin 163 (by decide +kernel) rfl
section XN_X1_drawTerm
variable {p : Program} {l : Launch} {e : Env} {R : Room} {s : State} {m : MethodId} {args : Array Value} {below : List Frame} {meth : Method} {c : Code} {H H0 : Heap} {locs : List Loc} {cells slots : Nat} {Q : State → Prop} {cc : ByteArray} {nL pc : Nat} {rt : Option FieldType} {ls : Array Slot} {rest : List Value} {D : xD} {ty : xTy} {h : xH}
theorem cl_X1_18 {v0 : Nat} {h9 : xH} (C0 : xC D RX1 cc nL rt p s m args meth c) (hR : xRep D ty h H) (hS : xS ty H0 H locs) (hF : jf_X7_clear ty h v0 = some h9) (t_v0 : ty v0 = some (0, 7)) (hrm : jr_X7_clear.frames + 1 ≤ R.frames ∧ 8 + (1 + 11) + jr_X7_clear.locals ≤ R.locals) (hsz : ls.size = nL) (hW : (rest.map fun v => v.category).sum ≤ 8) (hf : cells ≤ R.cells ∧ slots ≤ R.slots) (hdg : decode cc pc = .ok (.invokevirtual 18, 3)) (kk : ∀ (H1 : Heap) (locs1 : List Loc), xRep D ty h9 H1 → xS ty H0 H1 locs1 → W p l e R s m args below meth c H1 locs1 cells slots Q (F0 m (pc + 3) ls rest)) : W p l e R s m args below meth c H locs cells slots Q (F0 m pc ls (.ref v0 :: rest)) := x_callV C0 (jc_X7_clear t_v0 hF) xm_X7_clear xi_X7_clear xe_X7_clear wl_X1_18 ⟨rfl, rfl, hrm⟩ (ci := 7) rfl t_v0 hR hS (As := []) rfl hsz rfl hW hdg hf kk
theorem cl_X1_31 {v0 : Nat} {r : Int32} {h9 : xH} (C0 : xC D RX1 cc nL rt p s m args meth c) (hR : xRep D ty h H) (hS : xS ty H0 H locs) (hF : jf_X1_number ty h v0 = some (r, h9)) (t_v0 : ty v0 = some (0, 1)) (hrm : jr_X1_number.frames + 1 ≤ R.frames ∧ 8 + (1 + 11) + jr_X1_number.locals ≤ R.locals) (hsz : ls.size = nL) (hW : (rest.map fun v => v.category).sum ≤ 8) (hf : cells ≤ R.cells ∧ slots ≤ R.slots) (hdg : decode cc pc = .ok (.invokevirtual 31, 3)) (kk : ∀ (H1 : Heap) (locs1 : List Loc), xRep D ty h9 H1 → xS ty H0 H1 locs1 → W p l e R s m args below meth c H1 locs1 cells slots Q (F0 m (pc + 3) ls (.int r :: rest))) : W p l e R s m args below meth c H locs cells slots Q (F0 m pc ls (.ref v0 :: rest)) := x_callV C0 (jc_X1_number t_v0 hF) xm_X1_number xi_X1_number xe_X1_number wl_X1_31 ⟨rfl, rfl, hrm⟩ (ci := 1) rfl t_v0 hR hS (As := []) rfl hsz rfl hW hdg hf kk
theorem cl_X1_38 {v0 : Nat} {v1 : Int32} {r : Int32} (C0 : xC D RX1 cc nL rt p s m args meth c) (hR : xRep D ty h H) (hS : xS ty H0 H locs) (hF : jf_X0_arityOf ty h v0 v1 = some r) (t_v0 : ty v0 = some (0, 0)) (hrm : jr_X0_arityOf.frames + 1 ≤ R.frames ∧ 8 + (2 + 11) + jr_X0_arityOf.locals ≤ R.locals) (hsz : ls.size = nL) (hW : (rest.map fun v => v.category).sum ≤ 8) (hf : cells ≤ R.cells ∧ slots ≤ R.slots) (hdg : decode cc pc = .ok (.invokevirtual 38, 3)) (kk : ∀ (H1 : Heap) (locs1 : List Loc), xRep D ty h H1 → xS ty H0 H1 locs1 → W p l e R s m args below meth c H1 locs1 cells slots Q (F0 m (pc + 3) ls (.int r :: rest))) : W p l e R s m args below meth c H locs cells slots Q (F0 m pc ls (.int v1 :: .ref v0 :: rest)) := x_callV C0 (jc_X0_arityOf t_v0 hF) xm_X0_arityOf xi_X0_arityOf xe_X0_arityOf wl_X1_38 ⟨rfl, rfl, hrm⟩ (ci := 0) rfl t_v0 hR hS (As := [.int v1]) rfl hsz rfl hW hdg hf kk
theorem cl_X1_42 {v0 : Nat} {r : Int32} (C0 : xC D RX1 cc nL rt p s m args meth c) (hR : xRep D ty h H) (hS : xS ty H0 H locs) (hF : jf_X0_plainCode ty h v0 = some r) (t_v0 : ty v0 = some (0, 0)) (hrm : jr_X0_plainCode.frames + 1 ≤ R.frames ∧ 8 + (2 + 11) + jr_X0_plainCode.locals ≤ R.locals) (hsz : ls.size = nL) (hW : (rest.map fun v => v.category).sum ≤ 8) (hf : cells ≤ R.cells ∧ slots ≤ R.slots) (hdg : decode cc pc = .ok (.invokevirtual 42, 3)) (kk : ∀ (H1 : Heap) (locs1 : List Loc), xRep D ty h H1 → xS ty H0 H1 locs1 → W p l e R s m args below meth c H1 locs1 cells slots Q (F0 m (pc + 3) ls (.int r :: rest))) : W p l e R s m args below meth c H locs cells slots Q (F0 m pc ls (.ref v0 :: rest)) := x_callV C0 (jc_X0_plainCode t_v0 hF) xm_X0_plainCode xi_X0_plainCode xe_X0_plainCode wl_X1_42 ⟨rfl, rfl, hrm⟩ (ci := 0) rfl t_v0 hR hS (As := []) rfl hsz rfl hW hdg hf kk
theorem cl_X1_45 {v0 : Nat} {v1 : Int32} {v2 : Int32} {r : Int32} {h9 : xH} (C0 : xC D RX1 cc nL rt p s m args meth c) (hR : xRep D ty h H) (hS : xS ty H0 H locs) (hF : jf_X7_add ty h v0 v1 v2 = some (r, h9)) (t_v0 : ty v0 = some (0, 7)) (hrm : jr_X7_add.frames + 1 ≤ R.frames ∧ 8 + (3 + 11) + jr_X7_add.locals ≤ R.locals) (hsz : ls.size = nL) (hW : (rest.map fun v => v.category).sum ≤ 8) (hf : cells ≤ R.cells ∧ slots ≤ R.slots) (hdg : decode cc pc = .ok (.invokevirtual 45, 3)) (kk : ∀ (H1 : Heap) (locs1 : List Loc), xRep D ty h9 H1 → xS ty H0 H1 locs1 → W p l e R s m args below meth c H1 locs1 cells slots Q (F0 m (pc + 3) ls (.int r :: rest))) : W p l e R s m args below meth c H locs cells slots Q (F0 m pc ls (.int v2 :: .int v1 :: .ref v0 :: rest)) := x_callV C0 (jc_X7_add t_v0 hF) xm_X7_add xi_X7_add xe_X7_add wl_X1_45 ⟨rfl, rfl, hrm⟩ (ci := 7) rfl t_v0 hR hS (As := [.int v1, .int v2]) rfl hsz rfl hW hdg hf kk
theorem gf_X1_23 {a : Nat} (C0 : xC D RX1 cc nL rt p s m args meth c) (hR : xRep D ty h H) (ht : ty a = some (0, 0)) (hdg : decode cc pc = .ok (.getfield 23, 3)) (kk : W p l e R s m args below meth c H locs cells slots Q (F0 m (pc + 3) ls (.int (xI h a 7) :: rest))) : W p l e R s m args below meth c H locs cells slots Q (F0 m pc ls (.ref a :: rest)) := x_get C0 hR (ci := 0) (k := 7) (N := 10) (T := TX0) rfl iX0 (by decide) rfl wf_X1_23 rfl ht hdg kk
theorem gf_X1_28 {a : Nat} (C0 : xC D RX1 cc nL rt p s m args meth c) (hR : xRep D ty h H) (ht : ty a = some (0, 0)) (hdg : decode cc pc = .ok (.getfield 28, 3)) (kk : W p l e R s m args below meth c H locs cells slots Q (F0 m (pc + 3) ls (.int (xI h a 8) :: rest))) : W p l e R s m args below meth c H locs cells slots Q (F0 m pc ls (.ref a :: rest)) := x_get C0 hR (ci := 0) (k := 8) (N := 10) (T := TX0) rfl iX0 (by decide) rfl wf_X1_28 rfl ht hdg kk
theorem gf_X1_35 {a : Nat} (C0 : xC D RX1 cc nL rt p s m args meth c) (hR : xRep D ty h H) (ht : ty a = some (0, 7)) (hdg : decode cc pc = .ok (.getfield 35, 3)) (kk : W p l e R s m args below meth c H locs cells slots Q (F0 m (pc + 3) ls (.int (xI h a 2) :: rest))) : W p l e R s m args below meth c H locs cells slots Q (F0 m pc ls (.ref a :: rest)) := x_get C0 hR (ci := 7) (k := 2) (N := 3) (T := TX7) rfl iX7 (by decide) rfl wf_X1_35 rfl ht hdg kk
end XN_X1_drawTerm
set_option maxHeartbeats 4000000 in
set_option maxRecDepth 100000 in
theorem jw_X1_drawTerm_97 {p : Program} {l : Launch} {e : Env} {s : State} {m : MethodId} {args : Array Value} {below : List Frame} {meth : Method} {c : Code} {D : xD} {ty : xTy} {k26 : Nat → Nat → Nat → Int32 → Int32 → Int32 → xH → Option (Int32 × xH)} (C0 : xC D RX1 cX1_drawTerm 8 (some .boolean) p s m args meth c) {r : Int32} {h9 : xH} (hk26 : ∀ (v0 : Nat) (v1 : Nat) (v2 : Nat) (v3 : Int32) (v4 : Int32) (v5 : Int32) (h : xH), ty v0 = some (0, 1) → ty v1 = some (0, 0) → ty v2 = some (0, 7) → k26 v0 v1 v2 v3 v4 v5 h = some (r, h9) → ∀ (H : Heap) (locs : List Loc), xRep D ty h H → xS ty s.heap H locs → ∀ ls : Array Slot, lv_has ls 8 [(0, .ref v0), (1, .ref v1), (2, .ref v2), (3, .int v3), (4, .int v4), (5, .int v5)] → W p l e jr_X1_drawTerm s m args below meth c H locs 0 0 (MQ below (xQ D ty (some (.int r)) h9) args s 0 0 (xdom ty)) (F0 m 26 ls [])) : ∀ (v0 : Nat) (v1 : Nat) (v2 : Nat) (v3 : Int32) (v4 : Int32) (v5 : Int32) (v7 : Int32) (h : xH), ty v0 = some (0, 1) → ty v1 = some (0, 0) → ty v2 = some (0, 7) → jf_X1_drawTerm_97 ty k26 v0 v1 v2 v3 v4 v5 v7 h = some (r, h9) → ∀ (H : Heap) (locs : List Loc), xRep D ty h H → xS ty s.heap H locs → ∀ ls : Array Slot, lv_has ls 8 [(0, .ref v0), (1, .ref v1), (2, .ref v2), (3, .int v3), (4, .int v4), (5, .int v5), (7, .int v7)] → W p l e jr_X1_drawTerm s m args below meth c H locs 0 0 (MQ below (xQ D ty (some (.int r)) h9) args s 0 0 (xdom ty)) (F0 m 97 ls []) := by
  have hx := C0.1
  have hb := C0.2.1
  have hown := C0.2.2.2.2.2.1
  have hts := C0.2.2.2.2.2.2.1
  intro v0 v1 v2 v3 v4 v5 v7 h t_v0 t_v1 t_v2 hF H locs hR hS ls hl
  unfold jf_X1_drawTerm_97 at hF
  refine lv_iload hx hb dX1_drawTerm_97 (lv_at hl 6 rfl) ?_
  refine lv_iconst (v := (-1)) hx hb dX1_drawTerm_99 (by decide) ?_
  refine lv_icmp_ne (tgt := 105) hx hb dX1_drawTerm_100 (by decide) (fun c1 => ?_) (fun c1 => ?_)
  · have hF := xel hF c1
    refine lv_aload_n hx hb dX1_drawTerm_105 rfl (lv_at hl 2 rfl) ?_
    refine lv_iload hx hb dX1_drawTerm_106 (lv_at hl 6 rfl) ?_
    refine lv_aload_n hx hb dX1_drawTerm_108 rfl (lv_at hl 1 rfl) ?_
    refine lv_iload hx hb dX1_drawTerm_109 (lv_at hl 6 rfl) ?_
    obtain ⟨a2, e_a2, hF⟩ := xbd hF
    refine cl_X1_38 C0 hR hS e_a2 t_v1 ⟨(Nat.le_of_ble_eq_true rfl), (Nat.le_of_ble_eq_true rfl)⟩ hl.1 (Nat.le_of_ble_eq_true rfl) ⟨(Nat.le_of_ble_eq_true rfl), (Nat.le_of_ble_eq_true rfl)⟩ dX1_drawTerm_111 (fun H locs hR hS => ?_)
    obtain ⟨a4, h3, e_h3, hF⟩ := xbd2 hF
    refine cl_X1_45 C0 hR hS e_h3 t_v2 ⟨(Nat.le_of_ble_eq_true rfl), (Nat.le_of_ble_eq_true rfl)⟩ hl.1 (Nat.le_of_ble_eq_true rfl) ⟨(Nat.le_of_ble_eq_true rfl), (Nat.le_of_ble_eq_true rfl)⟩ dX1_drawTerm_114 (fun H locs hR hS => ?_)
    refine lv_pop hx hb dX1_drawTerm_117 rfl ?_
    refine lv_iload hx hb dX1_drawTerm_118 (lv_at hl 4 rfl) ?_
    refine lv_aload_n hx hb dX1_drawTerm_120 rfl (lv_at hl 1 rfl) ?_
    refine lv_iload hx hb dX1_drawTerm_121 (lv_at hl 6 rfl) ?_
    obtain ⟨a5, e_a5, hF⟩ := xbd hF
    refine cl_X1_38 C0 hR hS e_a5 t_v1 ⟨(Nat.le_of_ble_eq_true rfl), (Nat.le_of_ble_eq_true rfl)⟩ hl.1 (Nat.le_of_ble_eq_true rfl) ⟨(Nat.le_of_ble_eq_true rfl), (Nat.le_of_ble_eq_true rfl)⟩ dX1_drawTerm_123 (fun H locs hR hS => ?_)
    refine lv_iconst (v := 1) hx hb dX1_drawTerm_126 (by decide) ?_
    refine lv_isub hx hb dX1_drawTerm_127 ?_
    refine lv_iadd hx hb dX1_drawTerm_128 ?_
    refine lv_istore (lv' := [(4, .int (v4 + (a5 - 1))), (0, .ref v0), (1, .ref v1), (2, .ref v2), (3, .int v3), (5, .int v5), (7, .int v7)]) hx hb dX1_drawTerm_129 hl (by decide) rfl (fun ls hl => ?_)
    refine lv_iinc (v := v5 + 1) (lv' := [(5, .int (v5 + 1)), (4, .int (v4 + (a5 - 1))), (0, .ref v0), (1, .ref v1), (2, .ref v2), (3, .int v3), (7, .int v7)]) hx hb dX1_drawTerm_131 hl (k := 5) rfl rfl (by decide) rfl (fun ls hl => ?_)
    refine lv_goto (tgt := 26) hx hb dX1_drawTerm_134 (by decide) ?_
    exact hk26 _ _ _ _ _ _ _ t_v0 t_v1 t_v2 hF _ _ hR hS _ (lv_sub hl [2, 3, 4, 5, 1, 0] rfl)
  · have hF := xif hF c1
    refine lv_iconst (v := 0) hx hb dX1_drawTerm_103 (by decide) ?_
    cases hF
    exact x_zret (w := 0) C0 hR hS (by decide) dX1_drawTerm_104
set_option maxHeartbeats 4000000 in
set_option maxRecDepth 100000 in
theorem jw_X1_drawTerm_70 {p : Program} {l : Launch} {e : Env} {s : State} {m : MethodId} {args : Array Value} {below : List Frame} {meth : Method} {c : Code} {D : xD} {ty : xTy} {k26 : Nat → Nat → Nat → Int32 → Int32 → Int32 → xH → Option (Int32 × xH)} (C0 : xC D RX1 cX1_drawTerm 8 (some .boolean) p s m args meth c) {r : Int32} {h9 : xH} (hk26 : ∀ (v0 : Nat) (v1 : Nat) (v2 : Nat) (v3 : Int32) (v4 : Int32) (v5 : Int32) (h : xH), ty v0 = some (0, 1) → ty v1 = some (0, 0) → ty v2 = some (0, 7) → k26 v0 v1 v2 v3 v4 v5 h = some (r, h9) → ∀ (H : Heap) (locs : List Loc), xRep D ty h H → xS ty s.heap H locs → ∀ ls : Array Slot, lv_has ls 8 [(0, .ref v0), (1, .ref v1), (2, .ref v2), (3, .int v3), (4, .int v4), (5, .int v5)] → W p l e jr_X1_drawTerm s m args below meth c H locs 0 0 (MQ below (xQ D ty (some (.int r)) h9) args s 0 0 (xdom ty)) (F0 m 26 ls [])) : ∀ (v0 : Nat) (v1 : Nat) (v2 : Nat) (v3 : Int32) (v4 : Int32) (v5 : Int32) (s0 : Int32) (h : xH), ty v0 = some (0, 1) → ty v1 = some (0, 0) → ty v2 = some (0, 7) → jf_X1_drawTerm_70 ty k26 v0 v1 v2 v3 v4 v5 s0 h = some (r, h9) → ∀ (H : Heap) (locs : List Loc), xRep D ty h H → xS ty s.heap H locs → ∀ ls : Array Slot, lv_has ls 8 [(0, .ref v0), (1, .ref v1), (2, .ref v2), (3, .int v3), (4, .int v4), (5, .int v5)] → W p l e jr_X1_drawTerm s m args below meth c H locs 0 0 (MQ below (xQ D ty (some (.int r)) h9) args s 0 0 (xdom ty)) (F0 m 70 ls [.int s0]) := by
  have hx := C0.1
  have hb := C0.2.1
  have hown := C0.2.2.2.2.2.1
  have hts := C0.2.2.2.2.2.2.1
  intro v0 v1 v2 v3 v4 v5 s0 h t_v0 t_v1 t_v2 hF H locs hR hS ls hl
  unfold jf_X1_drawTerm_70 at hF
  refine lv_istore (lv' := [(7, .int s0), (0, .ref v0), (1, .ref v1), (2, .ref v2), (3, .int v3), (4, .int v4), (5, .int v5)]) hx hb dX1_drawTerm_70 hl (by decide) rfl (fun ls hl => ?_)
  refine lv_aload_n hx hb dX1_drawTerm_72 rfl (lv_at hl 3 rfl) ?_
  refine gf_X1_35 C0 hR t_v2 dX1_drawTerm_73 ?_
  refine lv_iload hx hb dX1_drawTerm_76 (lv_at hl 5 rfl) ?_
  refine lv_iadd hx hb dX1_drawTerm_78 ?_
  refine lv_aload_n hx hb dX1_drawTerm_79 rfl (lv_at hl 2 rfl) ?_
  refine lv_iload hx hb dX1_drawTerm_80 (lv_at hl 0 rfl) ?_
  obtain ⟨a6, e_a6, hF⟩ := xbd hF
  refine cl_X1_38 C0 hR hS e_a6 t_v1 ⟨(Nat.le_of_ble_eq_true rfl), (Nat.le_of_ble_eq_true rfl)⟩ hl.1 (Nat.le_of_ble_eq_true rfl) ⟨(Nat.le_of_ble_eq_true rfl), (Nat.le_of_ble_eq_true rfl)⟩ dX1_drawTerm_82 (fun H locs hR hS => ?_)
  refine lv_iadd hx hb dX1_drawTerm_85 ?_
  refine lv_bipush (v := 12) hx hb dX1_drawTerm_86 (by decide) ?_
  refine lv_icmp_le (tgt := 97) hx hb dX1_drawTerm_88 (by decide) (fun c7 => ?_) (fun c7 => ?_)
  · have hF := xif hF c7
    exact jw_X1_drawTerm_97 C0 hk26 _ _ _ _ _ _ _ _ t_v0 t_v1 t_v2 hF _ _ hR hS _ (lv_sub hl [1, 2, 3, 4, 5, 6, 0] rfl)
  · have hF := xel hF c7
    refine lv_aload_n hx hb dX1_drawTerm_91 rfl (lv_at hl 2 rfl) ?_
    obtain ⟨a8, e_a8, hF⟩ := xbd hF
    refine cl_X1_42 C0 hR hS e_a8 t_v1 ⟨(Nat.le_of_ble_eq_true rfl), (Nat.le_of_ble_eq_true rfl)⟩ hl.1 (Nat.le_of_ble_eq_true rfl) ⟨(Nat.le_of_ble_eq_true rfl), (Nat.le_of_ble_eq_true rfl)⟩ dX1_drawTerm_92 (fun H locs hR hS => ?_)
    refine lv_istore (lv' := [(7, .int a8), (0, .ref v0), (1, .ref v1), (2, .ref v2), (3, .int v3), (4, .int v4), (5, .int v5)]) hx hb dX1_drawTerm_95 hl (by decide) rfl (fun ls hl => ?_)
    exact jw_X1_drawTerm_97 C0 hk26 _ _ _ _ _ _ _ _ t_v0 t_v1 t_v2 hF _ _ hR hS _ (lv_sub hl [1, 2, 3, 4, 5, 6, 0] rfl)
set_option maxHeartbeats 4000000 in
set_option maxRecDepth 100000 in
theorem jw_X1_drawTerm_26 {p : Program} {l : Launch} {e : Env} {s : State} {m : MethodId} {args : Array Value} {below : List Frame} {meth : Method} {c : Code} {D : xD} {ty : xTy} (C0 : xC D RX1 cX1_drawTerm 8 (some .boolean) p s m args meth c) {r : Int32} {h9 : xH} : ∀ n : Nat, ∀ (v0 : Nat) (v1 : Nat) (v2 : Nat) (v3 : Int32) (v4 : Int32) (v5 : Int32) (h : xH), ty v0 = some (0, 1) → ty v1 = some (0, 0) → ty v2 = some (0, 7) → jf_X1_drawTerm_26 ty n v0 v1 v2 v3 v4 v5 h = some (r, h9) → ∀ (H : Heap) (locs : List Loc), xRep D ty h H → xS ty s.heap H locs → ∀ ls : Array Slot, lv_has ls 8 [(0, .ref v0), (1, .ref v1), (2, .ref v2), (3, .int v3), (4, .int v4), (5, .int v5)] → W p l e jr_X1_drawTerm s m args below meth c H locs 0 0 (MQ below (xQ D ty (some (.int r)) h9) args s 0 0 (xdom ty)) (F0 m 26 ls []) := by
  have hx := C0.1
  have hb := C0.2.1
  have hown := C0.2.2.2.2.2.1
  have hts := C0.2.2.2.2.2.2.1
  intro n
  induction n with
  | zero =>
    intro v0 v1 v2 v3 v4 v5 h t_v0 t_v1 t_v2 hF H locs hR hS ls hl
    cases hF
  | succ n ih =>
    intro v0 v1 v2 v3 v4 v5 h t_v0 t_v1 t_v2 hF H locs hR hS ls hl
    rw [jf_X1_drawTerm_26_s] at hF
    refine lv_iload hx hb dX1_drawTerm_26 (lv_at hl 5 rfl) ?_
    refine lv_bipush (v := 12) hx hb dX1_drawTerm_28 (by decide) ?_
    refine lv_icmp_ge (tgt := 137) hx hb dX1_drawTerm_30 (by decide) (fun c9 => ?_) (fun c9 => ?_)
    · have hF := xif hF c9
      refine lv_iload hx hb dX1_drawTerm_137 (lv_at hl 4 rfl) ?_
      refine lv_if_ne (tgt := 146) hx hb dX1_drawTerm_139 (by decide) (fun c10 => ?_) (fun c10 => ?_)
      · have hF := xel hF c10
        refine lv_iconst (v := 0) hx hb dX1_drawTerm_146 (by decide) ?_
        cases hF
        exact x_zret (w := 0) C0 hR hS (by decide) dX1_drawTerm_147
      · have hF := xif hF c10
        refine lv_iconst (v := 1) hx hb dX1_drawTerm_142 (by decide) ?_
        refine lv_goto (tgt := 147) hx hb dX1_drawTerm_143 (by decide) ?_
        cases hF
        exact x_zret (w := 1) C0 hR hS (by decide) dX1_drawTerm_147
    · have hF := xel hF c9
      refine lv_iload hx hb dX1_drawTerm_33 (lv_at hl 4 rfl) ?_
      refine lv_if_le (tgt := 137) hx hb dX1_drawTerm_35 (by decide) (fun c11 => ?_) (fun c11 => ?_)
      · have hF := xif hF c11
        refine lv_iload hx hb dX1_drawTerm_137 (lv_at hl 4 rfl) ?_
        refine lv_if_ne (tgt := 146) hx hb dX1_drawTerm_139 (by decide) (fun c12 => ?_) (fun c12 => ?_)
        · have hF := xel hF c12
          refine lv_iconst (v := 0) hx hb dX1_drawTerm_146 (by decide) ?_
          cases hF
          exact x_zret (w := 0) C0 hR hS (by decide) dX1_drawTerm_147
        · have hF := xif hF c12
          refine lv_iconst (v := 1) hx hb dX1_drawTerm_142 (by decide) ?_
          refine lv_goto (tgt := 147) hx hb dX1_drawTerm_143 (by decide) ?_
          cases hF
          exact x_zret (w := 1) C0 hR hS (by decide) dX1_drawTerm_147
      · have hF := xel hF c11
        refine lv_aload_n hx hb dX1_drawTerm_38 rfl (lv_at hl 0 rfl) ?_
        obtain ⟨a14, h13, e_h13, hF⟩ := xbd2 hF
        refine cl_X1_31 C0 hR hS e_h13 t_v0 ⟨(Nat.le_of_ble_eq_true rfl), (Nat.le_of_ble_eq_true rfl)⟩ hl.1 (Nat.le_of_ble_eq_true rfl) ⟨(Nat.le_of_ble_eq_true rfl), (Nat.le_of_ble_eq_true rfl)⟩ dX1_drawTerm_39 (fun H locs hR hS => ?_)
        refine lv_iload_n hx hb dX1_drawTerm_42 rfl (lv_at hl 3 rfl) ?_
        obtain ⟨a15, e_a15, hF⟩ := xbd hF
        have n_a15 := (xrm_sp e_a15).1
        refine lv_irem hx hb dX1_drawTerm_43 n_a15 ?_
        refine lv_istore (lv' := [(6, .int (a14 - a14 / v3 * v3)), (0, .ref v0), (1, .ref v1), (2, .ref v2), (3, .int v3), (4, .int v4), (5, .int v5)]) hx hb dX1_drawTerm_44 hl (by decide) rfl (fun ls hl => ?_)
        refine lv_iload hx hb dX1_drawTerm_46 (lv_at hl 0 rfl) ?_
        refine lv_aload_n hx hb dX1_drawTerm_48 rfl (lv_at hl 2 rfl) ?_
        refine gf_X1_23 C0 hR t_v1 dX1_drawTerm_49 ?_
        refine lv_icmp_ge (tgt := 60) hx hb dX1_drawTerm_52 (by decide) (fun c16 => ?_) (fun c16 => ?_)
        · have hF := xif hF c16
          refine lv_bipush (v := 100) hx hb dX1_drawTerm_60 (by decide) ?_
          refine lv_iload hx hb dX1_drawTerm_62 (lv_at hl 0 rfl) ?_
          refine lv_iadd hx hb dX1_drawTerm_64 ?_
          refine lv_aload_n hx hb dX1_drawTerm_65 rfl (lv_at hl 2 rfl) ?_
          refine gf_X1_23 C0 hR t_v1 dX1_drawTerm_66 ?_
          refine lv_isub hx hb dX1_drawTerm_69 ?_
          exact jw_X1_drawTerm_70 C0 ih _ _ _ _ _ _ _ _ t_v0 t_v1 t_v2 hF _ _ hR hS _ (lv_sub hl [1, 2, 3, 4, 5, 6] rfl)
        · have hF := xel hF c16
          refine lv_iload hx hb dX1_drawTerm_55 (lv_at hl 0 rfl) ?_
          refine lv_goto (tgt := 70) hx hb dX1_drawTerm_57 (by decide) ?_
          exact jw_X1_drawTerm_70 C0 ih _ _ _ _ _ _ _ _ t_v0 t_v1 t_v2 hF _ _ hR hS _ (lv_sub hl [1, 2, 3, 4, 5, 6] rfl)
set_option maxHeartbeats 4000000 in
set_option maxRecDepth 100000 in
theorem jc_X1_drawTerm {l : Launch} {D : xD} {ty : xTy} {h : xH} {v0 : Nat} {v1 : Nat} {v2 : Nat} {r : Int32} {h9 : xH} (t_v0 : ty v0 = some (0, 1)) (t_v1 : ty v1 = some (0, 0)) (t_v2 : ty v2 = some (0, 7)) (hF : jf_X1_drawTerm ty h v0 v1 v2 = some (r, h9)) : Met l yX1_drawTerm (xws yX1_drawTerm cX1_drawTerm 8 (some .boolean)) jr_X1_drawTerm (xPc D ty h [.ref v0, .ref v1, .ref v2]) (xQ D ty (some (.int r)) h9) 0 0 (xdom ty) := by
  refine x_met (by decide) ?_
  intro p e s m below meth c C0 hR
  generalize hargs : ([.ref v0, .ref v1, .ref v2] : List Value).toArray = args at C0 ⊢
  have hx := C0.1
  have hb := C0.2.1
  have hown := C0.2.2.2.2.2.1
  have hts := C0.2.2.2.2.2.2.1
  have hS : xS ty s.heap s.heap [] := xS.rf
  have hl := lv_entry ([.ref v0, .ref v1, .ref v2]) (n := 8) (Nat.le_of_ble_eq_true rfl)
  rw [← hargs, lg_entry_eq]
  rw [hargs]
  generalize (lg_sl ([.ref v0, .ref v1, .ref v2]) ++ List.replicate (8 - (lg_sl ([.ref v0, .ref v1, .ref v2])).length) Slot.unset).toArray = ls at hl ⊢
  have hl : lv_has ls 8 [(0, .ref v0), (1, .ref v1), (2, .ref v2)] := hl
  unfold jf_X1_drawTerm at hF
  refine lv_aload_n hx hb dX1_drawTerm_0 rfl (lv_at hl 2 rfl) ?_
  obtain ⟨h17, e_h17, hF⟩ := xbd hF
  refine cl_X1_18 C0 hR hS e_h17 t_v2 ⟨(Nat.le_of_ble_eq_true rfl), (Nat.le_of_ble_eq_true rfl)⟩ hl.1 (Nat.le_of_ble_eq_true rfl) ⟨(Nat.le_of_ble_eq_true rfl), (Nat.le_of_ble_eq_true rfl)⟩ dX1_drawTerm_1 (fun H locs hR hS => ?_)
  refine lv_aload_n hx hb dX1_drawTerm_4 rfl (lv_at hl 1 rfl) ?_
  refine gf_X1_23 C0 hR t_v1 dX1_drawTerm_5 ?_
  refine lv_aload_n hx hb dX1_drawTerm_8 rfl (lv_at hl 1 rfl) ?_
  refine gf_X1_28 C0 hR t_v1 dX1_drawTerm_9 ?_
  refine lv_iadd hx hb dX1_drawTerm_12 ?_
  refine lv_istore_n (lv' := [(3, .int ((xI h17 v1 7) + (xI h17 v1 8))), (0, .ref v0), (1, .ref v1), (2, .ref v2)]) hx hb dX1_drawTerm_13 rfl hl (by decide) rfl (fun ls hl => ?_)
  refine lv_iload_n hx hb dX1_drawTerm_14 rfl (lv_at hl 0 rfl) ?_
  refine lv_if_gt (tgt := 20) hx hb dX1_drawTerm_15 (by decide) (fun c18 => ?_) (fun c18 => ?_)
  · have hF := xif hF c18
    refine lv_iconst (v := 1) hx hb dX1_drawTerm_20 (by decide) ?_
    refine lv_istore (lv' := [(4, .int 1), (3, .int ((xI h17 v1 7) + (xI h17 v1 8))), (0, .ref v0), (1, .ref v1), (2, .ref v2)]) hx hb dX1_drawTerm_21 hl (by decide) rfl (fun ls hl => ?_)
    refine lv_iconst (v := 0) hx hb dX1_drawTerm_23 (by decide) ?_
    refine lv_istore (lv' := [(5, .int 0), (4, .int 1), (3, .int ((xI h17 v1 7) + (xI h17 v1 8))), (0, .ref v0), (1, .ref v1), (2, .ref v2)]) hx hb dX1_drawTerm_24 hl (by decide) rfl (fun ls hl => ?_)
    obtain ⟨_, hF⟩ := xlim_sp hF
    exact jw_X1_drawTerm_26 C0 _ _ _ _ _ _ _ _ t_v0 t_v1 t_v2 hF _ _ hR hS _ (lv_sub hl [3, 4, 5, 2, 1, 0] rfl)
  · have hF := xel hF c18
    refine lv_iconst (v := 0) hx hb dX1_drawTerm_18 (by decide) ?_
    cases hF
    exact x_zret (w := 0) C0 hR hS (by decide) dX1_drawTerm_19
theorem xm_X1_drawTerm : xMw yX1_drawTerm cX1_drawTerm 8 (some .boolean) 2 := ⟨xin 1111 (by decide +kernel) rfl, xin 125 (by decide +kernel) rfl, by decide +kernel⟩
theorem xi_X1_drawTerm : Cond.instanceMethod yX1_drawTerm ∈ xT := xin 1109 (by decide +kernel) rfl
theorem xe_X1_drawTerm : Cond.selects yX1_drawTerm.cls yX1_drawTerm yX1_drawTerm ∈ xT := xin 1110 (by decide +kernel) rfl
theorem dX7_codeAt_0 : decode cX7_codeAt 0 = .ok (.iload_n 1, 1) := by decide +kernel
theorem dX7_codeAt_1 : decode cX7_codeAt 1 = .ok (.ifCond .lt 20, 3) := by decide +kernel
theorem dX7_codeAt_4 : decode cX7_codeAt 4 = .ok (.iload_n 1, 1) := by decide +kernel
theorem dX7_codeAt_5 : decode cX7_codeAt 5 = .ok (.aload_n 0, 1) := by decide +kernel
theorem dX7_codeAt_6 : decode cX7_codeAt 6 = .ok (.getfield 9, 3) := by decide +kernel
theorem dX7_codeAt_9 : decode cX7_codeAt 9 = .ok (.if_icmp .ge 12, 3) := by decide +kernel
theorem dX7_codeAt_12 : decode cX7_codeAt 12 = .ok (.aload_n 0, 1) := by decide +kernel
theorem dX7_codeAt_13 : decode cX7_codeAt 13 = .ok (.getfield 15, 3) := by decide +kernel
theorem dX7_codeAt_16 : decode cX7_codeAt 16 = .ok (.iload_n 1, 1) := by decide +kernel
theorem dX7_codeAt_17 : decode cX7_codeAt 17 = .ok (.iaload, 1) := by decide +kernel
theorem dX7_codeAt_18 : decode cX7_codeAt 18 = .ok (.goto 4, 3) := by decide +kernel
theorem dX7_codeAt_21 : decode cX7_codeAt 21 = .ok (.iconst (-1), 1) := by decide +kernel
theorem dX7_codeAt_22 : decode cX7_codeAt 22 = .ok (.ireturn, 1) := by decide +kernel
set_option maxHeartbeats 4000000 in
set_option maxRecDepth 100000 in
theorem jc_X7_codeAt {l : Launch} {D : xD} {ty : xTy} {h : xH} {v0 : Nat} {v1 : Int32} {r : Int32} (t_v0 : ty v0 = some (0, 7)) (hF : jf_X7_codeAt ty h v0 v1 = some r) : Met l yX7_codeAt (xws yX7_codeAt cX7_codeAt 2 (some .int)) jr_X7_codeAt (xPc D ty h [.ref v0, .int v1]) (xQ D ty (some (.int r)) h) 0 0 (xdom ty) := by
  refine x_met (by decide) ?_
  intro p e s m below meth c C0 hR
  generalize hargs : ([.ref v0, .int v1] : List Value).toArray = args at C0 ⊢
  have hx := C0.1
  have hb := C0.2.1
  have hown := C0.2.2.2.2.2.1
  have hts := C0.2.2.2.2.2.2.1
  have hS : xS ty s.heap s.heap [] := xS.rf
  have hl := lv_entry ([.ref v0, .int v1]) (n := 2) (Nat.le_of_ble_eq_true rfl)
  rw [← hargs, lg_entry_eq]
  rw [hargs]
  generalize (lg_sl ([.ref v0, .int v1]) ++ List.replicate (2 - (lg_sl ([.ref v0, .int v1])).length) Slot.unset).toArray = ls at hl ⊢
  have hl : lv_has ls 2 [(0, .ref v0), (1, .int v1)] := hl
  unfold jf_X7_codeAt at hF
  refine lv_iload_n hx hb dX7_codeAt_0 rfl (lv_at hl 1 rfl) ?_
  refine lv_if_lt (tgt := 21) hx hb dX7_codeAt_1 (by decide) (fun c1 => ?_) (fun c1 => ?_)
  · have hF := xif hF c1
    refine lv_iconst (v := (-1)) hx hb dX7_codeAt_21 (by decide) ?_
    cases hF
    exact x_iret C0 hR hS dX7_codeAt_22
  · have hF := xel hF c1
    refine lv_iload_n hx hb dX7_codeAt_4 rfl (lv_at hl 1 rfl) ?_
    refine lv_aload_n hx hb dX7_codeAt_5 rfl (lv_at hl 0 rfl) ?_
    refine gf_X7_9 C0 hR t_v0 dX7_codeAt_6 ?_
    refine lv_icmp_ge (tgt := 21) hx hb dX7_codeAt_9 (by decide) (fun c2 => ?_) (fun c2 => ?_)
    · have hF := xif hF c2
      refine lv_iconst (v := (-1)) hx hb dX7_codeAt_21 (by decide) ?_
      cases hF
      exact x_iret C0 hR hS dX7_codeAt_22
    · have hF := xel hF c2
      refine lv_aload_n hx hb dX7_codeAt_12 rfl (lv_at hl 0 rfl) ?_
      obtain ⟨a3, e_a3, hF⟩ := xbd hF
      refine gf_X7_15 C0 hR t_v0 e_a3 dX7_codeAt_13 ?_
      refine lv_iload_n hx hb dX7_codeAt_16 rfl (lv_at hl 1 rfl) ?_
      obtain ⟨a4, e_a4, hF⟩ := xbd hF
      refine x_iald C0 hR e_a4 dX7_codeAt_17 ?_
      refine lv_goto (tgt := 22) hx hb dX7_codeAt_18 (by decide) ?_
      cases hF
      exact x_iret C0 hR hS dX7_codeAt_22
theorem xm_X7_codeAt : xMw yX7_codeAt cX7_codeAt 2 (some .int) 1 := ⟨xin 648 (by decide +kernel) rfl, xin 116 (by decide +kernel) rfl, by decide +kernel⟩
theorem xi_X7_codeAt : Cond.instanceMethod yX7_codeAt ∈ xT := xin 646 (by decide +kernel) rfl
theorem xe_X7_codeAt : Cond.selects yX7_codeAt.cls yX7_codeAt yX7_codeAt ∈ xT := xin 647 (by decide +kernel) rfl
theorem dX7_arityAt_0 : decode cX7_arityAt 0 = .ok (.iload_n 1, 1) := by decide +kernel
theorem dX7_arityAt_1 : decode cX7_arityAt 1 = .ok (.ifCond .lt 20, 3) := by decide +kernel
theorem dX7_arityAt_4 : decode cX7_arityAt 4 = .ok (.iload_n 1, 1) := by decide +kernel
theorem dX7_arityAt_5 : decode cX7_arityAt 5 = .ok (.aload_n 0, 1) := by decide +kernel
theorem dX7_arityAt_6 : decode cX7_arityAt 6 = .ok (.getfield 9, 3) := by decide +kernel
theorem dX7_arityAt_9 : decode cX7_arityAt 9 = .ok (.if_icmp .ge 12, 3) := by decide +kernel
theorem dX7_arityAt_12 : decode cX7_arityAt 12 = .ok (.aload_n 0, 1) := by decide +kernel
theorem dX7_arityAt_13 : decode cX7_arityAt 13 = .ok (.getfield 19, 3) := by decide +kernel
theorem dX7_arityAt_16 : decode cX7_arityAt 16 = .ok (.iload_n 1, 1) := by decide +kernel
theorem dX7_arityAt_17 : decode cX7_arityAt 17 = .ok (.iaload, 1) := by decide +kernel
theorem dX7_arityAt_18 : decode cX7_arityAt 18 = .ok (.goto 4, 3) := by decide +kernel
theorem dX7_arityAt_21 : decode cX7_arityAt 21 = .ok (.iconst 0, 1) := by decide +kernel
theorem dX7_arityAt_22 : decode cX7_arityAt 22 = .ok (.ireturn, 1) := by decide +kernel
set_option maxHeartbeats 4000000 in
set_option maxRecDepth 100000 in
theorem jc_X7_arityAt {l : Launch} {D : xD} {ty : xTy} {h : xH} {v0 : Nat} {v1 : Int32} {r : Int32} (t_v0 : ty v0 = some (0, 7)) (hF : jf_X7_arityAt ty h v0 v1 = some r) : Met l yX7_arityAt (xws yX7_arityAt cX7_arityAt 2 (some .int)) jr_X7_arityAt (xPc D ty h [.ref v0, .int v1]) (xQ D ty (some (.int r)) h) 0 0 (xdom ty) := by
  refine x_met (by decide) ?_
  intro p e s m below meth c C0 hR
  generalize hargs : ([.ref v0, .int v1] : List Value).toArray = args at C0 ⊢
  have hx := C0.1
  have hb := C0.2.1
  have hown := C0.2.2.2.2.2.1
  have hts := C0.2.2.2.2.2.2.1
  have hS : xS ty s.heap s.heap [] := xS.rf
  have hl := lv_entry ([.ref v0, .int v1]) (n := 2) (Nat.le_of_ble_eq_true rfl)
  rw [← hargs, lg_entry_eq]
  rw [hargs]
  generalize (lg_sl ([.ref v0, .int v1]) ++ List.replicate (2 - (lg_sl ([.ref v0, .int v1])).length) Slot.unset).toArray = ls at hl ⊢
  have hl : lv_has ls 2 [(0, .ref v0), (1, .int v1)] := hl
  unfold jf_X7_arityAt at hF
  refine lv_iload_n hx hb dX7_arityAt_0 rfl (lv_at hl 1 rfl) ?_
  refine lv_if_lt (tgt := 21) hx hb dX7_arityAt_1 (by decide) (fun c1 => ?_) (fun c1 => ?_)
  · have hF := xif hF c1
    refine lv_iconst (v := 0) hx hb dX7_arityAt_21 (by decide) ?_
    cases hF
    exact x_iret C0 hR hS dX7_arityAt_22
  · have hF := xel hF c1
    refine lv_iload_n hx hb dX7_arityAt_4 rfl (lv_at hl 1 rfl) ?_
    refine lv_aload_n hx hb dX7_arityAt_5 rfl (lv_at hl 0 rfl) ?_
    refine gf_X7_9 C0 hR t_v0 dX7_arityAt_6 ?_
    refine lv_icmp_ge (tgt := 21) hx hb dX7_arityAt_9 (by decide) (fun c2 => ?_) (fun c2 => ?_)
    · have hF := xif hF c2
      refine lv_iconst (v := 0) hx hb dX7_arityAt_21 (by decide) ?_
      cases hF
      exact x_iret C0 hR hS dX7_arityAt_22
    · have hF := xel hF c2
      refine lv_aload_n hx hb dX7_arityAt_12 rfl (lv_at hl 0 rfl) ?_
      obtain ⟨a3, e_a3, hF⟩ := xbd hF
      refine gf_X7_19 C0 hR t_v0 e_a3 dX7_arityAt_13 ?_
      refine lv_iload_n hx hb dX7_arityAt_16 rfl (lv_at hl 1 rfl) ?_
      obtain ⟨a4, e_a4, hF⟩ := xbd hF
      refine x_iald C0 hR e_a4 dX7_arityAt_17 ?_
      refine lv_goto (tgt := 22) hx hb dX7_arityAt_18 (by decide) ?_
      cases hF
      exact x_iret C0 hR hS dX7_arityAt_22
theorem xm_X7_arityAt : xMw yX7_arityAt cX7_arityAt 2 (some .int) 1 := ⟨xin 664 (by decide +kernel) rfl, xin 116 (by decide +kernel) rfl, by decide +kernel⟩
theorem xi_X7_arityAt : Cond.instanceMethod yX7_arityAt ∈ xT := xin 662 (by decide +kernel) rfl
theorem xe_X7_arityAt : Cond.selects yX7_arityAt.cls yX7_arityAt yX7_arityAt ∈ xT := xin 663 (by decide +kernel) rfl
theorem dX7_behind_0 : decode cX7_behind 0 = .ok (.iconst 1, 1) := by decide +kernel
theorem dX7_behind_1 : decode cX7_behind 1 = .ok (.istore_n 2, 1) := by decide +kernel
theorem dX7_behind_2 : decode cX7_behind 2 = .ok (.iload_n 1, 1) := by decide +kernel
theorem dX7_behind_3 : decode cX7_behind 3 = .ok (.istore_n 3, 1) := by decide +kernel
theorem dX7_behind_4 : decode cX7_behind 4 = .ok (.iload_n 2, 1) := by decide +kernel
theorem dX7_behind_5 : decode cX7_behind 5 = .ok (.ifCond .le 32, 3) := by decide +kernel
theorem dX7_behind_8 : decode cX7_behind 8 = .ok (.iload_n 3, 1) := by decide +kernel
theorem dX7_behind_9 : decode cX7_behind 9 = .ok (.ifCond .lt 28, 3) := by decide +kernel
theorem dX7_behind_12 : decode cX7_behind 12 = .ok (.iload_n 3, 1) := by decide +kernel
theorem dX7_behind_13 : decode cX7_behind 13 = .ok (.aload_n 0, 1) := by decide +kernel
theorem dX7_behind_14 : decode cX7_behind 14 = .ok (.getfield 9, 3) := by decide +kernel
theorem dX7_behind_17 : decode cX7_behind 17 = .ok (.if_icmp .ge 20, 3) := by decide +kernel
theorem dX7_behind_20 : decode cX7_behind 20 = .ok (.iload_n 2, 1) := by decide +kernel
theorem dX7_behind_21 : decode cX7_behind 21 = .ok (.aload_n 0, 1) := by decide +kernel
theorem dX7_behind_22 : decode cX7_behind 22 = .ok (.getfield 19, 3) := by decide +kernel
theorem dX7_behind_25 : decode cX7_behind 25 = .ok (.iload_n 3, 1) := by decide +kernel
theorem dX7_behind_26 : decode cX7_behind 26 = .ok (.iaload, 1) := by decide +kernel
theorem dX7_behind_27 : decode cX7_behind 27 = .ok (.iconst 1, 1) := by decide +kernel
theorem dX7_behind_28 : decode cX7_behind 28 = .ok (.isub, 1) := by decide +kernel
theorem dX7_behind_29 : decode cX7_behind 29 = .ok (.iadd, 1) := by decide +kernel
theorem dX7_behind_30 : decode cX7_behind 30 = .ok (.istore_n 2, 1) := by decide +kernel
theorem dX7_behind_31 : decode cX7_behind 31 = .ok (.iinc 3 1, 3) := by decide +kernel
theorem dX7_behind_34 : decode cX7_behind 34 = .ok (.goto (-30), 3) := by decide +kernel
theorem dX7_behind_37 : decode cX7_behind 37 = .ok (.iload_n 3, 1) := by decide +kernel
theorem dX7_behind_38 : decode cX7_behind 38 = .ok (.ireturn, 1) := by decide +kernel
set_option maxHeartbeats 4000000 in
set_option maxRecDepth 100000 in
theorem jw_X7_behind_4 {p : Program} {l : Launch} {e : Env} {s : State} {m : MethodId} {args : Array Value} {below : List Frame} {meth : Method} {c : Code} {D : xD} {ty : xTy} {h : xH} (C0 : xC D RX7 cX7_behind 4 (some .int) p s m args meth c) {r : Int32} : ∀ n : Nat, ∀ (v0 : Nat) (v2 : Int32) (v3 : Int32), ty v0 = some (0, 7) → jf_X7_behind_4 ty h n v0 v2 v3 = some r → ∀ (H : Heap) (locs : List Loc), xRep D ty h H → xS ty s.heap H locs → ∀ ls : Array Slot, lv_has ls 4 [(0, .ref v0), (2, .int v2), (3, .int v3)] → W p l e jr_X7_behind s m args below meth c H locs 0 0 (MQ below (xQ D ty (some (.int r)) h) args s 0 0 (xdom ty)) (F0 m 4 ls []) := by
  have hx := C0.1
  have hb := C0.2.1
  have hown := C0.2.2.2.2.2.1
  have hts := C0.2.2.2.2.2.2.1
  intro n
  induction n with
  | zero =>
    intro v0 v2 v3 t_v0 hF H locs hR hS ls hl
    cases hF
  | succ n ih =>
    intro v0 v2 v3 t_v0 hF H locs hR hS ls hl
    rw [jf_X7_behind_4_s] at hF
    refine lv_iload_n hx hb dX7_behind_4 rfl (lv_at hl 1 rfl) ?_
    refine lv_if_le (tgt := 37) hx hb dX7_behind_5 (by decide) (fun c1 => ?_) (fun c1 => ?_)
    · have hF := xif hF c1
      refine lv_iload_n hx hb dX7_behind_37 rfl (lv_at hl 2 rfl) ?_
      cases hF
      exact x_iret C0 hR hS dX7_behind_38
    · have hF := xel hF c1
      refine lv_iload_n hx hb dX7_behind_8 rfl (lv_at hl 2 rfl) ?_
      refine lv_if_lt (tgt := 37) hx hb dX7_behind_9 (by decide) (fun c2 => ?_) (fun c2 => ?_)
      · have hF := xif hF c2
        refine lv_iload_n hx hb dX7_behind_37 rfl (lv_at hl 2 rfl) ?_
        cases hF
        exact x_iret C0 hR hS dX7_behind_38
      · have hF := xel hF c2
        refine lv_iload_n hx hb dX7_behind_12 rfl (lv_at hl 2 rfl) ?_
        refine lv_aload_n hx hb dX7_behind_13 rfl (lv_at hl 0 rfl) ?_
        refine gf_X7_9 C0 hR t_v0 dX7_behind_14 ?_
        refine lv_icmp_ge (tgt := 37) hx hb dX7_behind_17 (by decide) (fun c3 => ?_) (fun c3 => ?_)
        · have hF := xif hF c3
          refine lv_iload_n hx hb dX7_behind_37 rfl (lv_at hl 2 rfl) ?_
          cases hF
          exact x_iret C0 hR hS dX7_behind_38
        · have hF := xel hF c3
          refine lv_iload_n hx hb dX7_behind_20 rfl (lv_at hl 1 rfl) ?_
          refine lv_aload_n hx hb dX7_behind_21 rfl (lv_at hl 0 rfl) ?_
          obtain ⟨a4, e_a4, hF⟩ := xbd hF
          refine gf_X7_19 C0 hR t_v0 e_a4 dX7_behind_22 ?_
          refine lv_iload_n hx hb dX7_behind_25 rfl (lv_at hl 2 rfl) ?_
          obtain ⟨a5, e_a5, hF⟩ := xbd hF
          refine x_iald C0 hR e_a5 dX7_behind_26 ?_
          refine lv_iconst (v := 1) hx hb dX7_behind_27 (by decide) ?_
          refine lv_isub hx hb dX7_behind_28 ?_
          refine lv_iadd hx hb dX7_behind_29 ?_
          refine lv_istore_n (lv' := [(2, .int (v2 + (a5 - 1))), (0, .ref v0), (3, .int v3)]) hx hb dX7_behind_30 rfl hl (by decide) rfl (fun ls hl => ?_)
          refine lv_iinc (v := v3 + 1) (lv' := [(3, .int (v3 + 1)), (2, .int (v2 + (a5 - 1))), (0, .ref v0)]) hx hb dX7_behind_31 hl (k := 2) rfl rfl (by decide) rfl (fun ls hl => ?_)
          refine lv_goto (tgt := 4) hx hb dX7_behind_34 (by decide) ?_
          exact ih _ _ _ t_v0 hF _ _ hR hS _ (lv_sub hl [2, 1, 0] rfl)
set_option maxHeartbeats 4000000 in
set_option maxRecDepth 100000 in
theorem jc_X7_behind {l : Launch} {D : xD} {ty : xTy} {h : xH} {v0 : Nat} {v1 : Int32} {r : Int32} (t_v0 : ty v0 = some (0, 7)) (hF : jf_X7_behind ty h v0 v1 = some r) : Met l yX7_behind (xws yX7_behind cX7_behind 4 (some .int)) jr_X7_behind (xPc D ty h [.ref v0, .int v1]) (xQ D ty (some (.int r)) h) 0 0 (xdom ty) := by
  refine x_met (by decide) ?_
  intro p e s m below meth c C0 hR
  generalize hargs : ([.ref v0, .int v1] : List Value).toArray = args at C0 ⊢
  have hx := C0.1
  have hb := C0.2.1
  have hown := C0.2.2.2.2.2.1
  have hts := C0.2.2.2.2.2.2.1
  have hS : xS ty s.heap s.heap [] := xS.rf
  have hl := lv_entry ([.ref v0, .int v1]) (n := 4) (Nat.le_of_ble_eq_true rfl)
  rw [← hargs, lg_entry_eq]
  rw [hargs]
  generalize (lg_sl ([.ref v0, .int v1]) ++ List.replicate (4 - (lg_sl ([.ref v0, .int v1])).length) Slot.unset).toArray = ls at hl ⊢
  have hl : lv_has ls 4 [(0, .ref v0), (1, .int v1)] := hl
  unfold jf_X7_behind at hF
  refine lv_iconst (v := 1) hx hb dX7_behind_0 (by decide) ?_
  refine lv_istore_n (lv' := [(2, .int 1), (0, .ref v0), (1, .int v1)]) hx hb dX7_behind_1 rfl hl (by decide) rfl (fun ls hl => ?_)
  refine lv_iload_n hx hb dX7_behind_2 rfl (lv_at hl 2 rfl) ?_
  refine lv_istore_n (lv' := [(3, .int v1), (2, .int 1), (0, .ref v0), (1, .int v1)]) hx hb dX7_behind_3 rfl hl (by decide) rfl (fun ls hl => ?_)
  obtain ⟨_, hF⟩ := xlim_sp hF
  exact jw_X7_behind_4 C0 _ _ _ _ t_v0 hF _ _ hR hS _ (lv_sub hl [2, 1, 0] rfl)
theorem xm_X7_behind : xMw yX7_behind cX7_behind 4 (some .int) 1 := ⟨xin 755 (by decide +kernel) rfl, xin 116 (by decide +kernel) rfl, by decide +kernel⟩
theorem xi_X7_behind : Cond.instanceMethod yX7_behind ∈ xT := xin 753 (by decide +kernel) rfl
theorem xe_X7_behind : Cond.selects yX7_behind.cls yX7_behind yX7_behind ∈ xT := xin 754 (by decide +kernel) rfl
theorem dX7_isAlike_0 : decode cX7_isAlike 0 = .ok (.aload_n 0, 1) := by decide +kernel
theorem dX7_isAlike_1 : decode cX7_isAlike 1 = .ok (.iload_n 1, 1) := by decide +kernel
theorem dX7_isAlike_2 : decode cX7_isAlike 2 = .ok (.invokevirtual 49, 3) := by decide +kernel
theorem dX7_isAlike_5 : decode cX7_isAlike 5 = .ok (.iload_n 1, 1) := by decide +kernel
theorem dX7_isAlike_6 : decode cX7_isAlike 6 = .ok (.isub, 1) := by decide +kernel
theorem dX7_isAlike_7 : decode cX7_isAlike 7 = .ok (.istore_n 3, 1) := by decide +kernel
theorem dX7_isAlike_8 : decode cX7_isAlike 8 = .ok (.iconst 0, 1) := by decide +kernel
theorem dX7_isAlike_9 : decode cX7_isAlike 9 = .ok (.istore 4, 2) := by decide +kernel
theorem dX7_isAlike_11 : decode cX7_isAlike 11 = .ok (.iload 4, 2) := by decide +kernel
theorem dX7_isAlike_13 : decode cX7_isAlike 13 = .ok (.iload_n 3, 1) := by decide +kernel
theorem dX7_isAlike_14 : decode cX7_isAlike 14 = .ok (.if_icmp .ge 30, 3) := by decide +kernel
theorem dX7_isAlike_17 : decode cX7_isAlike 17 = .ok (.aload_n 0, 1) := by decide +kernel
theorem dX7_isAlike_18 : decode cX7_isAlike 18 = .ok (.iload_n 1, 1) := by decide +kernel
theorem dX7_isAlike_19 : decode cX7_isAlike 19 = .ok (.iload 4, 2) := by decide +kernel
theorem dX7_isAlike_21 : decode cX7_isAlike 21 = .ok (.iadd, 1) := by decide +kernel
theorem dX7_isAlike_22 : decode cX7_isAlike 22 = .ok (.invokevirtual 22, 3) := by decide +kernel
theorem dX7_isAlike_25 : decode cX7_isAlike 25 = .ok (.aload_n 0, 1) := by decide +kernel
theorem dX7_isAlike_26 : decode cX7_isAlike 26 = .ok (.iload_n 2, 1) := by decide +kernel
theorem dX7_isAlike_27 : decode cX7_isAlike 27 = .ok (.iload 4, 2) := by decide +kernel
theorem dX7_isAlike_29 : decode cX7_isAlike 29 = .ok (.iadd, 1) := by decide +kernel
theorem dX7_isAlike_30 : decode cX7_isAlike 30 = .ok (.invokevirtual 22, 3) := by decide +kernel
theorem dX7_isAlike_33 : decode cX7_isAlike 33 = .ok (.if_icmp .eq 5, 3) := by decide +kernel
theorem dX7_isAlike_36 : decode cX7_isAlike 36 = .ok (.iconst 0, 1) := by decide +kernel
theorem dX7_isAlike_37 : decode cX7_isAlike 37 = .ok (.ireturn, 1) := by decide +kernel
theorem dX7_isAlike_38 : decode cX7_isAlike 38 = .ok (.iinc 4 1, 3) := by decide +kernel
theorem dX7_isAlike_41 : decode cX7_isAlike 41 = .ok (.goto (-30), 3) := by decide +kernel
theorem dX7_isAlike_44 : decode cX7_isAlike 44 = .ok (.iconst 1, 1) := by decide +kernel
theorem dX7_isAlike_45 : decode cX7_isAlike 45 = .ok (.ireturn, 1) := by decide +kernel
theorem wl_X7_22 : Cond.methodLink RX7 22 yX7_codeAt ∈ xT := xin 645 (by decide +kernel) rfl
theorem wl_X7_49 : Cond.methodLink RX7 49 yX7_behind ∈ xT := xin 817 (by decide +kernel) rfl
section XN_X7_isAlike
variable {p : Program} {l : Launch} {e : Env} {R : Room} {s : State} {m : MethodId} {args : Array Value} {below : List Frame} {meth : Method} {c : Code} {H H0 : Heap} {locs : List Loc} {cells slots : Nat} {Q : State → Prop} {cc : ByteArray} {nL pc : Nat} {rt : Option FieldType} {ls : Array Slot} {rest : List Value} {D : xD} {ty : xTy} {h : xH}
theorem cl_X7_22 {v0 : Nat} {v1 : Int32} {r : Int32} (C0 : xC D RX7 cc nL rt p s m args meth c) (hR : xRep D ty h H) (hS : xS ty H0 H locs) (hF : jf_X7_codeAt ty h v0 v1 = some r) (t_v0 : ty v0 = some (0, 7)) (hrm : jr_X7_codeAt.frames + 1 ≤ R.frames ∧ 8 + (2 + 11) + jr_X7_codeAt.locals ≤ R.locals) (hsz : ls.size = nL) (hW : (rest.map fun v => v.category).sum ≤ 8) (hf : cells ≤ R.cells ∧ slots ≤ R.slots) (hdg : decode cc pc = .ok (.invokevirtual 22, 3)) (kk : ∀ (H1 : Heap) (locs1 : List Loc), xRep D ty h H1 → xS ty H0 H1 locs1 → W p l e R s m args below meth c H1 locs1 cells slots Q (F0 m (pc + 3) ls (.int r :: rest))) : W p l e R s m args below meth c H locs cells slots Q (F0 m pc ls (.int v1 :: .ref v0 :: rest)) := x_callV C0 (jc_X7_codeAt t_v0 hF) xm_X7_codeAt xi_X7_codeAt xe_X7_codeAt wl_X7_22 ⟨rfl, rfl, hrm⟩ (ci := 7) rfl t_v0 hR hS (As := [.int v1]) rfl hsz rfl hW hdg hf kk
theorem cl_X7_49 {v0 : Nat} {v1 : Int32} {r : Int32} (C0 : xC D RX7 cc nL rt p s m args meth c) (hR : xRep D ty h H) (hS : xS ty H0 H locs) (hF : jf_X7_behind ty h v0 v1 = some r) (t_v0 : ty v0 = some (0, 7)) (hrm : jr_X7_behind.frames + 1 ≤ R.frames ∧ 8 + (4 + 11) + jr_X7_behind.locals ≤ R.locals) (hsz : ls.size = nL) (hW : (rest.map fun v => v.category).sum ≤ 8) (hf : cells ≤ R.cells ∧ slots ≤ R.slots) (hdg : decode cc pc = .ok (.invokevirtual 49, 3)) (kk : ∀ (H1 : Heap) (locs1 : List Loc), xRep D ty h H1 → xS ty H0 H1 locs1 → W p l e R s m args below meth c H1 locs1 cells slots Q (F0 m (pc + 3) ls (.int r :: rest))) : W p l e R s m args below meth c H locs cells slots Q (F0 m pc ls (.int v1 :: .ref v0 :: rest)) := x_callV C0 (jc_X7_behind t_v0 hF) xm_X7_behind xi_X7_behind xe_X7_behind wl_X7_49 ⟨rfl, rfl, hrm⟩ (ci := 7) rfl t_v0 hR hS (As := [.int v1]) rfl hsz rfl hW hdg hf kk
end XN_X7_isAlike
set_option maxHeartbeats 4000000 in
set_option maxRecDepth 100000 in
theorem jw_X7_isAlike_11 {p : Program} {l : Launch} {e : Env} {s : State} {m : MethodId} {args : Array Value} {below : List Frame} {meth : Method} {c : Code} {D : xD} {ty : xTy} {h : xH} (C0 : xC D RX7 cX7_isAlike 5 (some .boolean) p s m args meth c) {r : Int32} : ∀ n : Nat, ∀ (v0 : Nat) (v1 : Int32) (v2 : Int32) (v3 : Int32) (v4 : Int32), ty v0 = some (0, 7) → jf_X7_isAlike_11 ty h n v0 v1 v2 v3 v4 = some r → ∀ (H : Heap) (locs : List Loc), xRep D ty h H → xS ty s.heap H locs → ∀ ls : Array Slot, lv_has ls 5 [(0, .ref v0), (1, .int v1), (2, .int v2), (3, .int v3), (4, .int v4)] → W p l e jr_X7_isAlike s m args below meth c H locs 0 0 (MQ below (xQ D ty (some (.int r)) h) args s 0 0 (xdom ty)) (F0 m 11 ls []) := by
  have hx := C0.1
  have hb := C0.2.1
  have hown := C0.2.2.2.2.2.1
  have hts := C0.2.2.2.2.2.2.1
  intro n
  induction n with
  | zero =>
    intro v0 v1 v2 v3 v4 t_v0 hF H locs hR hS ls hl
    cases hF
  | succ n ih =>
    intro v0 v1 v2 v3 v4 t_v0 hF H locs hR hS ls hl
    rw [jf_X7_isAlike_11_s] at hF
    refine lv_iload hx hb dX7_isAlike_11 (lv_at hl 4 rfl) ?_
    refine lv_iload_n hx hb dX7_isAlike_13 rfl (lv_at hl 3 rfl) ?_
    refine lv_icmp_ge (tgt := 44) hx hb dX7_isAlike_14 (by decide) (fun c1 => ?_) (fun c1 => ?_)
    · have hF := xif hF c1
      refine lv_iconst (v := 1) hx hb dX7_isAlike_44 (by decide) ?_
      cases hF
      exact x_zret (w := 1) C0 hR hS (by decide) dX7_isAlike_45
    · have hF := xel hF c1
      refine lv_aload_n hx hb dX7_isAlike_17 rfl (lv_at hl 0 rfl) ?_
      refine lv_iload_n hx hb dX7_isAlike_18 rfl (lv_at hl 1 rfl) ?_
      refine lv_iload hx hb dX7_isAlike_19 (lv_at hl 4 rfl) ?_
      refine lv_iadd hx hb dX7_isAlike_21 ?_
      obtain ⟨a2, e_a2, hF⟩ := xbd hF
      refine cl_X7_22 C0 hR hS e_a2 t_v0 ⟨(Nat.le_of_ble_eq_true rfl), (Nat.le_of_ble_eq_true rfl)⟩ hl.1 (Nat.le_of_ble_eq_true rfl) ⟨(Nat.le_of_ble_eq_true rfl), (Nat.le_of_ble_eq_true rfl)⟩ dX7_isAlike_22 (fun H locs hR hS => ?_)
      refine lv_aload_n hx hb dX7_isAlike_25 rfl (lv_at hl 0 rfl) ?_
      refine lv_iload_n hx hb dX7_isAlike_26 rfl (lv_at hl 2 rfl) ?_
      refine lv_iload hx hb dX7_isAlike_27 (lv_at hl 4 rfl) ?_
      refine lv_iadd hx hb dX7_isAlike_29 ?_
      obtain ⟨a3, e_a3, hF⟩ := xbd hF
      refine cl_X7_22 C0 hR hS e_a3 t_v0 ⟨(Nat.le_of_ble_eq_true rfl), (Nat.le_of_ble_eq_true rfl)⟩ hl.1 (Nat.le_of_ble_eq_true rfl) ⟨(Nat.le_of_ble_eq_true rfl), (Nat.le_of_ble_eq_true rfl)⟩ dX7_isAlike_30 (fun H locs hR hS => ?_)
      refine lv_icmp_eq (tgt := 38) hx hb dX7_isAlike_33 (by decide) (fun c4 => ?_) (fun c4 => ?_)
      · have hF := xif hF c4
        refine lv_iinc (v := v4 + 1) (lv' := [(4, .int (v4 + 1)), (0, .ref v0), (1, .int v1), (2, .int v2), (3, .int v3)]) hx hb dX7_isAlike_38 hl (k := 4) rfl rfl (by decide) rfl (fun ls hl => ?_)
        refine lv_goto (tgt := 11) hx hb dX7_isAlike_41 (by decide) ?_
        exact ih _ _ _ _ _ t_v0 hF _ _ hR hS _ (lv_sub hl [1, 2, 3, 4, 0] rfl)
      · have hF := xel hF c4
        refine lv_iconst (v := 0) hx hb dX7_isAlike_36 (by decide) ?_
        cases hF
        exact x_zret (w := 0) C0 hR hS (by decide) dX7_isAlike_37
set_option maxHeartbeats 4000000 in
set_option maxRecDepth 100000 in
theorem jc_X7_isAlike {l : Launch} {D : xD} {ty : xTy} {h : xH} {v0 : Nat} {v1 : Int32} {v2 : Int32} {r : Int32} (t_v0 : ty v0 = some (0, 7)) (hF : jf_X7_isAlike ty h v0 v1 v2 = some r) : Met l yX7_isAlike (xws yX7_isAlike cX7_isAlike 5 (some .boolean)) jr_X7_isAlike (xPc D ty h [.ref v0, .int v1, .int v2]) (xQ D ty (some (.int r)) h) 0 0 (xdom ty) := by
  refine x_met (by decide) ?_
  intro p e s m below meth c C0 hR
  generalize hargs : ([.ref v0, .int v1, .int v2] : List Value).toArray = args at C0 ⊢
  have hx := C0.1
  have hb := C0.2.1
  have hown := C0.2.2.2.2.2.1
  have hts := C0.2.2.2.2.2.2.1
  have hS : xS ty s.heap s.heap [] := xS.rf
  have hl := lv_entry ([.ref v0, .int v1, .int v2]) (n := 5) (Nat.le_of_ble_eq_true rfl)
  rw [← hargs, lg_entry_eq]
  rw [hargs]
  generalize (lg_sl ([.ref v0, .int v1, .int v2]) ++ List.replicate (5 - (lg_sl ([.ref v0, .int v1, .int v2])).length) Slot.unset).toArray = ls at hl ⊢
  have hl : lv_has ls 5 [(0, .ref v0), (1, .int v1), (2, .int v2)] := hl
  unfold jf_X7_isAlike at hF
  refine lv_aload_n hx hb dX7_isAlike_0 rfl (lv_at hl 0 rfl) ?_
  refine lv_iload_n hx hb dX7_isAlike_1 rfl (lv_at hl 1 rfl) ?_
  obtain ⟨a5, e_a5, hF⟩ := xbd hF
  refine cl_X7_49 C0 hR hS e_a5 t_v0 ⟨(Nat.le_of_ble_eq_true rfl), (Nat.le_of_ble_eq_true rfl)⟩ hl.1 (Nat.le_of_ble_eq_true rfl) ⟨(Nat.le_of_ble_eq_true rfl), (Nat.le_of_ble_eq_true rfl)⟩ dX7_isAlike_2 (fun H locs hR hS => ?_)
  refine lv_iload_n hx hb dX7_isAlike_5 rfl (lv_at hl 1 rfl) ?_
  refine lv_isub hx hb dX7_isAlike_6 ?_
  refine lv_istore_n (lv' := [(3, .int (a5 - v1)), (0, .ref v0), (1, .int v1), (2, .int v2)]) hx hb dX7_isAlike_7 rfl hl (by decide) rfl (fun ls hl => ?_)
  refine lv_iconst (v := 0) hx hb dX7_isAlike_8 (by decide) ?_
  refine lv_istore (lv' := [(4, .int 0), (3, .int (a5 - v1)), (0, .ref v0), (1, .int v1), (2, .int v2)]) hx hb dX7_isAlike_9 hl (by decide) rfl (fun ls hl => ?_)
  obtain ⟨_, hF⟩ := xlim_sp hF
  exact jw_X7_isAlike_11 C0 _ _ _ _ _ _ t_v0 hF _ _ hR hS _ (lv_sub hl [2, 3, 4, 1, 0] rfl)
theorem xm_X7_isAlike : xMw yX7_isAlike cX7_isAlike 5 (some .boolean) 2 := ⟨xin 816 (by decide +kernel) rfl, xin 116 (by decide +kernel) rfl, by decide +kernel⟩
theorem xi_X7_isAlike : Cond.instanceMethod yX7_isAlike ∈ xT := xin 814 (by decide +kernel) rfl
theorem xe_X7_isAlike : Cond.selects yX7_isAlike.cls yX7_isAlike yX7_isAlike ∈ xT := xin 815 (by decide +kernel) rfl
theorem dX2_pairNumber_0 : decode cX2_pairNumber 0 = .ok (.iconst 0, 1) := by decide +kernel
theorem dX2_pairNumber_1 : decode cX2_pairNumber 1 = .ok (.istore 5, 2) := by decide +kernel
theorem dX2_pairNumber_3 : decode cX2_pairNumber 3 = .ok (.iload 5, 2) := by decide +kernel
theorem dX2_pairNumber_5 : decode cX2_pairNumber 5 = .ok (.aload_n 0, 1) := by decide +kernel
theorem dX2_pairNumber_6 : decode cX2_pairNumber 6 = .ok (.getfield 27, 3) := by decide +kernel
theorem dX2_pairNumber_9 : decode cX2_pairNumber 9 = .ok (.if_icmp .ge 43, 3) := by decide +kernel
theorem dX2_pairNumber_12 : decode cX2_pairNumber 12 = .ok (.aload_n 1, 1) := by decide +kernel
theorem dX2_pairNumber_13 : decode cX2_pairNumber 13 = .ok (.aload_n 0, 1) := by decide +kernel
theorem dX2_pairNumber_14 : decode cX2_pairNumber 14 = .ok (.getfield 9, 3) := by decide +kernel
theorem dX2_pairNumber_17 : decode cX2_pairNumber 17 = .ok (.iload 5, 2) := by decide +kernel
theorem dX2_pairNumber_19 : decode cX2_pairNumber 19 = .ok (.iaload, 1) := by decide +kernel
theorem dX2_pairNumber_20 : decode cX2_pairNumber 20 = .ok (.iload_n 2, 1) := by decide +kernel
theorem dX2_pairNumber_21 : decode cX2_pairNumber 21 = .ok (.invokevirtual 55, 3) := by decide +kernel
theorem dX2_pairNumber_24 : decode cX2_pairNumber 24 = .ok (.ifCond .eq 22, 3) := by decide +kernel
theorem dX2_pairNumber_27 : decode cX2_pairNumber 27 = .ok (.aload_n 3, 1) := by decide +kernel
theorem dX2_pairNumber_28 : decode cX2_pairNumber 28 = .ok (.aload_n 0, 1) := by decide +kernel
theorem dX2_pairNumber_29 : decode cX2_pairNumber 29 = .ok (.getfield 15, 3) := by decide +kernel
theorem dX2_pairNumber_32 : decode cX2_pairNumber 32 = .ok (.iload 5, 2) := by decide +kernel
theorem dX2_pairNumber_34 : decode cX2_pairNumber 34 = .ok (.iaload, 1) := by decide +kernel
theorem dX2_pairNumber_35 : decode cX2_pairNumber 35 = .ok (.iload 4, 2) := by decide +kernel
theorem dX2_pairNumber_37 : decode cX2_pairNumber 37 = .ok (.invokevirtual 55, 3) := by decide +kernel
theorem dX2_pairNumber_40 : decode cX2_pairNumber 40 = .ok (.ifCond .eq 6, 3) := by decide +kernel
theorem dX2_pairNumber_43 : decode cX2_pairNumber 43 = .ok (.iload 5, 2) := by decide +kernel
theorem dX2_pairNumber_45 : decode cX2_pairNumber 45 = .ok (.ireturn, 1) := by decide +kernel
theorem dX2_pairNumber_46 : decode cX2_pairNumber 46 = .ok (.iinc 5 1, 3) := by decide +kernel
theorem dX2_pairNumber_49 : decode cX2_pairNumber 49 = .ok (.goto (-46), 3) := by decide +kernel
theorem dX2_pairNumber_52 : decode cX2_pairNumber 52 = .ok (.aload_n 0, 1) := by decide +kernel
theorem dX2_pairNumber_53 : decode cX2_pairNumber 53 = .ok (.getfield 27, 3) := by decide +kernel
theorem dX2_pairNumber_56 : decode cX2_pairNumber 56 = .ok (.ifCond .lt 12, 3) := by decide +kernel
theorem dX2_pairNumber_59 : decode cX2_pairNumber 59 = .ok (.aload_n 0, 1) := by decide +kernel
theorem dX2_pairNumber_60 : decode cX2_pairNumber 60 = .ok (.getfield 27, 3) := by decide +kernel
theorem dX2_pairNumber_63 : decode cX2_pairNumber 63 = .ok (.bipush 12, 2) := by decide +kernel
theorem dX2_pairNumber_65 : decode cX2_pairNumber 65 = .ok (.if_icmp .lt 5, 3) := by decide +kernel
theorem dX2_pairNumber_68 : decode cX2_pairNumber 68 = .ok (.iconst 0, 1) := by decide +kernel
theorem dX2_pairNumber_69 : decode cX2_pairNumber 69 = .ok (.ireturn, 1) := by decide +kernel
theorem dX2_pairNumber_70 : decode cX2_pairNumber 70 = .ok (.aload_n 0, 1) := by decide +kernel
theorem dX2_pairNumber_71 : decode cX2_pairNumber 71 = .ok (.getfield 9, 3) := by decide +kernel
theorem dX2_pairNumber_74 : decode cX2_pairNumber 74 = .ok (.aload_n 0, 1) := by decide +kernel
theorem dX2_pairNumber_75 : decode cX2_pairNumber 75 = .ok (.getfield 27, 3) := by decide +kernel
theorem dX2_pairNumber_78 : decode cX2_pairNumber 78 = .ok (.iload_n 2, 1) := by decide +kernel
theorem dX2_pairNumber_79 : decode cX2_pairNumber 79 = .ok (.iastore, 1) := by decide +kernel
theorem dX2_pairNumber_80 : decode cX2_pairNumber 80 = .ok (.aload_n 0, 1) := by decide +kernel
theorem dX2_pairNumber_81 : decode cX2_pairNumber 81 = .ok (.getfield 15, 3) := by decide +kernel
theorem dX2_pairNumber_84 : decode cX2_pairNumber 84 = .ok (.aload_n 0, 1) := by decide +kernel
theorem dX2_pairNumber_85 : decode cX2_pairNumber 85 = .ok (.getfield 27, 3) := by decide +kernel
theorem dX2_pairNumber_88 : decode cX2_pairNumber 88 = .ok (.iload 4, 2) := by decide +kernel
theorem dX2_pairNumber_90 : decode cX2_pairNumber 90 = .ok (.iastore, 1) := by decide +kernel
theorem dX2_pairNumber_91 : decode cX2_pairNumber 91 = .ok (.aload_n 0, 1) := by decide +kernel
theorem dX2_pairNumber_92 : decode cX2_pairNumber 92 = .ok (.dup, 1) := by decide +kernel
theorem dX2_pairNumber_93 : decode cX2_pairNumber 93 = .ok (.getfield 27, 3) := by decide +kernel
theorem dX2_pairNumber_96 : decode cX2_pairNumber 96 = .ok (.iconst 1, 1) := by decide +kernel
theorem dX2_pairNumber_97 : decode cX2_pairNumber 97 = .ok (.iadd, 1) := by decide +kernel
theorem dX2_pairNumber_98 : decode cX2_pairNumber 98 = .ok (.putfield 27, 3) := by decide +kernel
theorem dX2_pairNumber_101 : decode cX2_pairNumber 101 = .ok (.aload_n 0, 1) := by decide +kernel
theorem dX2_pairNumber_102 : decode cX2_pairNumber 102 = .ok (.getfield 27, 3) := by decide +kernel
theorem dX2_pairNumber_105 : decode cX2_pairNumber 105 = .ok (.iconst 1, 1) := by decide +kernel
theorem dX2_pairNumber_106 : decode cX2_pairNumber 106 = .ok (.isub, 1) := by decide +kernel
theorem dX2_pairNumber_107 : decode cX2_pairNumber 107 = .ok (.ireturn, 1) := by decide +kernel
theorem wl_X2_55 : Cond.methodLink RX2 55 yX7_isAlike ∈ xT := xin 960 (by decide +kernel) rfl
theorem wf_X2_15 : Cond.fieldLink RX2 15 "TermShelf$Joiner" "others" "[I" ∈ xT := xin 407 (by decide +kernel) rfl
theorem wf_X2_27 : Cond.fieldLink RX2 27 "TermShelf$Joiner" "pairs" "I" ∈ xT := xin 409 (by decide +kernel) rfl
theorem wf_X2_9 : Cond.fieldLink RX2 9 "TermShelf$Joiner" "ones" "[I" ∈ xT := xin 406 (by decide +kernel) rfl
section XN_X2_pairNumber
variable {p : Program} {l : Launch} {e : Env} {R : Room} {s : State} {m : MethodId} {args : Array Value} {below : List Frame} {meth : Method} {c : Code} {H H0 : Heap} {locs : List Loc} {cells slots : Nat} {Q : State → Prop} {cc : ByteArray} {nL pc : Nat} {rt : Option FieldType} {ls : Array Slot} {rest : List Value} {D : xD} {ty : xTy} {h : xH}
theorem cl_X2_55 {v0 : Nat} {v1 : Int32} {v2 : Int32} {r : Int32} (C0 : xC D RX2 cc nL rt p s m args meth c) (hR : xRep D ty h H) (hS : xS ty H0 H locs) (hF : jf_X7_isAlike ty h v0 v1 v2 = some r) (t_v0 : ty v0 = some (0, 7)) (hrm : jr_X7_isAlike.frames + 1 ≤ R.frames ∧ 8 + (5 + 11) + jr_X7_isAlike.locals ≤ R.locals) (hsz : ls.size = nL) (hW : (rest.map fun v => v.category).sum ≤ 8) (hf : cells ≤ R.cells ∧ slots ≤ R.slots) (hdg : decode cc pc = .ok (.invokevirtual 55, 3)) (kk : ∀ (H1 : Heap) (locs1 : List Loc), xRep D ty h H1 → xS ty H0 H1 locs1 → W p l e R s m args below meth c H1 locs1 cells slots Q (F0 m (pc + 3) ls (.int r :: rest))) : W p l e R s m args below meth c H locs cells slots Q (F0 m pc ls (.int v2 :: .int v1 :: .ref v0 :: rest)) := x_callV C0 (jc_X7_isAlike t_v0 hF) xm_X7_isAlike xi_X7_isAlike xe_X7_isAlike wl_X2_55 ⟨rfl, rfl, hrm⟩ (ci := 7) rfl t_v0 hR hS (As := [.int v1, .int v2]) rfl hsz rfl hW hdg hf kk
theorem gf_X2_15 {a : Nat} (C0 : xC D RX2 cc nL rt p s m args meth c) (hR : xRep D ty h H) (ht : ty a = some (0, 2)) {v : Nat} (hv : xR h a 1 = some v) (hdg : decode cc pc = .ok (.getfield 15, 3)) (kk : W p l e R s m args below meth c H locs cells slots Q (F0 m (pc + 3) ls (.ref v :: rest))) : W p l e R s m args below meth c H locs cells slots Q (F0 m pc ls (.ref a :: rest)) := x_get C0 hR (ci := 2) (k := 1) (N := 4) (T := TX2) rfl iX2 (by decide) rfl wf_X2_15 (by show va_rf (xR h a 1) = _; rw [hv]; rfl) ht hdg kk
theorem gf_X2_27 {a : Nat} (C0 : xC D RX2 cc nL rt p s m args meth c) (hR : xRep D ty h H) (ht : ty a = some (0, 2)) (hdg : decode cc pc = .ok (.getfield 27, 3)) (kk : W p l e R s m args below meth c H locs cells slots Q (F0 m (pc + 3) ls (.int (xI h a 3) :: rest))) : W p l e R s m args below meth c H locs cells slots Q (F0 m pc ls (.ref a :: rest)) := x_get C0 hR (ci := 2) (k := 3) (N := 4) (T := TX2) rfl iX2 (by decide) rfl wf_X2_27 rfl ht hdg kk
theorem gf_X2_9 {a : Nat} (C0 : xC D RX2 cc nL rt p s m args meth c) (hR : xRep D ty h H) (ht : ty a = some (0, 2)) {v : Nat} (hv : xR h a 0 = some v) (hdg : decode cc pc = .ok (.getfield 9, 3)) (kk : W p l e R s m args below meth c H locs cells slots Q (F0 m (pc + 3) ls (.ref v :: rest))) : W p l e R s m args below meth c H locs cells slots Q (F0 m pc ls (.ref a :: rest)) := x_get C0 hR (ci := 2) (k := 0) (N := 4) (T := TX2) rfl iX2 (by decide) rfl wf_X2_9 (by show va_rf (xR h a 0) = _; rw [hv]; rfl) ht hdg kk
theorem pf_X2_27 {a : Nat} {v : Int32} (C0 : xC D RX2 cc nL rt p s m args meth c) (hR : xRep D ty h H) (hS : xS ty H0 H locs) (ht : ty a = some (0, 2)) (hdg : decode cc pc = .ok (.putfield 27, 3)) (kk : ∀ (H1 : Heap) (locs1 : List Loc), xRep D ty (xsI h a 3 v) H1 → xS ty H0 H1 locs1 → W p l e R s m args below meth c H1 locs1 cells slots Q (F0 m (pc + 3) ls rest)) : W p l e R s m args below meth c H locs cells slots Q (F0 m pc ls (.int v :: .ref a :: rest)) := x_puti C0 hR hS (ci := 2) (k := 3) (N := 4) (T := TX2) rfl iX2 tyX2_ok nmX2 (by decide) rfl rfl wf_X2_27 (Or.inl rfl) rfl rfl ht hdg kk
end XN_X2_pairNumber
set_option maxHeartbeats 4000000 in
set_option maxRecDepth 100000 in
theorem jw_X2_pairNumber_3 {p : Program} {l : Launch} {e : Env} {s : State} {m : MethodId} {args : Array Value} {below : List Frame} {meth : Method} {c : Code} {D : xD} {ty : xTy} (C0 : xC D RX2 cX2_pairNumber 6 (some .int) p s m args meth c) {r : Int32} {h9 : xH} : ∀ n : Nat, ∀ (v0 : Nat) (v1 : Nat) (v2 : Int32) (v3 : Nat) (v4 : Int32) (v5 : Int32) (h : xH), ty v0 = some (0, 2) → ty v1 = some (0, 7) → ty v3 = some (0, 7) → jf_X2_pairNumber_3 ty n v0 v1 v2 v3 v4 v5 h = some (r, h9) → ∀ (H : Heap) (locs : List Loc), xRep D ty h H → xS ty s.heap H locs → ∀ ls : Array Slot, lv_has ls 6 [(0, .ref v0), (1, .ref v1), (2, .int v2), (3, .ref v3), (4, .int v4), (5, .int v5)] → W p l e jr_X2_pairNumber s m args below meth c H locs 0 0 (MQ below (xQ D ty (some (.int r)) h9) args s 0 0 (xdom ty)) (F0 m 3 ls []) := by
  have hx := C0.1
  have hb := C0.2.1
  have hown := C0.2.2.2.2.2.1
  have hts := C0.2.2.2.2.2.2.1
  intro n
  induction n with
  | zero =>
    intro v0 v1 v2 v3 v4 v5 h t_v0 t_v1 t_v3 hF H locs hR hS ls hl
    cases hF
  | succ n ih =>
    intro v0 v1 v2 v3 v4 v5 h t_v0 t_v1 t_v3 hF H locs hR hS ls hl
    rw [jf_X2_pairNumber_3_s] at hF
    refine lv_iload hx hb dX2_pairNumber_3 (lv_at hl 5 rfl) ?_
    refine lv_aload_n hx hb dX2_pairNumber_5 rfl (lv_at hl 0 rfl) ?_
    refine gf_X2_27 C0 hR t_v0 dX2_pairNumber_6 ?_
    refine lv_icmp_ge (tgt := 52) hx hb dX2_pairNumber_9 (by decide) (fun c1 => ?_) (fun c1 => ?_)
    · have hF := xif hF c1
      refine lv_aload_n hx hb dX2_pairNumber_52 rfl (lv_at hl 0 rfl) ?_
      refine gf_X2_27 C0 hR t_v0 dX2_pairNumber_53 ?_
      refine lv_if_lt (tgt := 68) hx hb dX2_pairNumber_56 (by decide) (fun c2 => ?_) (fun c2 => ?_)
      · have hF := xif hF c2
        refine lv_iconst (v := 0) hx hb dX2_pairNumber_68 (by decide) ?_
        cases hF
        exact x_iret C0 hR hS dX2_pairNumber_69
      · have hF := xel hF c2
        refine lv_aload_n hx hb dX2_pairNumber_59 rfl (lv_at hl 0 rfl) ?_
        refine gf_X2_27 C0 hR t_v0 dX2_pairNumber_60 ?_
        refine lv_bipush (v := 12) hx hb dX2_pairNumber_63 (by decide) ?_
        refine lv_icmp_lt (tgt := 70) hx hb dX2_pairNumber_65 (by decide) (fun c3 => ?_) (fun c3 => ?_)
        · have hF := xif hF c3
          refine lv_aload_n hx hb dX2_pairNumber_70 rfl (lv_at hl 0 rfl) ?_
          obtain ⟨a4, e_a4, hF⟩ := xbd hF
          refine gf_X2_9 C0 hR t_v0 e_a4 dX2_pairNumber_71 ?_
          refine lv_aload_n hx hb dX2_pairNumber_74 rfl (lv_at hl 0 rfl) ?_
          refine gf_X2_27 C0 hR t_v0 dX2_pairNumber_75 ?_
          refine lv_iload_n hx hb dX2_pairNumber_78 rfl (lv_at hl 2 rfl) ?_
          obtain ⟨h5, e_h5, hF⟩ := xbd hF
          refine x_iast C0 hR hS e_h5 dX2_pairNumber_79 (fun H locs hR hS => ?_)
          refine lv_aload_n hx hb dX2_pairNumber_80 rfl (lv_at hl 0 rfl) ?_
          obtain ⟨a6, e_a6, hF⟩ := xbd hF
          refine gf_X2_15 C0 hR t_v0 e_a6 dX2_pairNumber_81 ?_
          refine lv_aload_n hx hb dX2_pairNumber_84 rfl (lv_at hl 0 rfl) ?_
          refine gf_X2_27 C0 hR t_v0 dX2_pairNumber_85 ?_
          refine lv_iload hx hb dX2_pairNumber_88 (lv_at hl 4 rfl) ?_
          obtain ⟨h7, e_h7, hF⟩ := xbd hF
          refine x_iast C0 hR hS e_h7 dX2_pairNumber_90 (fun H locs hR hS => ?_)
          refine lv_aload_n hx hb dX2_pairNumber_91 rfl (lv_at hl 0 rfl) ?_
          refine lv_dup hx hb dX2_pairNumber_92 rfl ?_
          refine gf_X2_27 C0 hR t_v0 dX2_pairNumber_93 ?_
          refine lv_iconst (v := 1) hx hb dX2_pairNumber_96 (by decide) ?_
          refine lv_iadd hx hb dX2_pairNumber_97 ?_
          obtain ⟨h8, e_h8, hF⟩ := xbd hF
          refine pf_X2_27 C0 hR hS t_v0 dX2_pairNumber_98 (fun H locs hR hS => ?_)
          rw [Option.some.inj e_h8] at hR
          refine lv_aload_n hx hb dX2_pairNumber_101 rfl (lv_at hl 0 rfl) ?_
          refine gf_X2_27 C0 hR t_v0 dX2_pairNumber_102 ?_
          refine lv_iconst (v := 1) hx hb dX2_pairNumber_105 (by decide) ?_
          refine lv_isub hx hb dX2_pairNumber_106 ?_
          cases hF
          exact x_iret C0 hR hS dX2_pairNumber_107
        · have hF := xel hF c3
          refine lv_iconst (v := 0) hx hb dX2_pairNumber_68 (by decide) ?_
          cases hF
          exact x_iret C0 hR hS dX2_pairNumber_69
    · have hF := xel hF c1
      refine lv_aload_n hx hb dX2_pairNumber_12 rfl (lv_at hl 1 rfl) ?_
      refine lv_aload_n hx hb dX2_pairNumber_13 rfl (lv_at hl 0 rfl) ?_
      obtain ⟨a9, e_a9, hF⟩ := xbd hF
      refine gf_X2_9 C0 hR t_v0 e_a9 dX2_pairNumber_14 ?_
      refine lv_iload hx hb dX2_pairNumber_17 (lv_at hl 5 rfl) ?_
      obtain ⟨a10, e_a10, hF⟩ := xbd hF
      refine x_iald C0 hR e_a10 dX2_pairNumber_19 ?_
      refine lv_iload_n hx hb dX2_pairNumber_20 rfl (lv_at hl 2 rfl) ?_
      obtain ⟨a11, e_a11, hF⟩ := xbd hF
      refine cl_X2_55 C0 hR hS e_a11 t_v1 ⟨(Nat.le_of_ble_eq_true rfl), (Nat.le_of_ble_eq_true rfl)⟩ hl.1 (Nat.le_of_ble_eq_true rfl) ⟨(Nat.le_of_ble_eq_true rfl), (Nat.le_of_ble_eq_true rfl)⟩ dX2_pairNumber_21 (fun H locs hR hS => ?_)
      refine lv_if_eq (tgt := 46) hx hb dX2_pairNumber_24 (by decide) (fun c12 => ?_) (fun c12 => ?_)
      · have hF := xif hF c12
        refine lv_iinc (v := v5 + 1) (lv' := [(5, .int (v5 + 1)), (0, .ref v0), (1, .ref v1), (2, .int v2), (3, .ref v3), (4, .int v4)]) hx hb dX2_pairNumber_46 hl (k := 5) rfl rfl (by decide) rfl (fun ls hl => ?_)
        refine lv_goto (tgt := 3) hx hb dX2_pairNumber_49 (by decide) ?_
        exact ih _ _ _ _ _ _ _ t_v0 t_v1 t_v3 hF _ _ hR hS _ (lv_sub hl [1, 2, 3, 4, 5, 0] rfl)
      · have hF := xel hF c12
        refine lv_aload_n hx hb dX2_pairNumber_27 rfl (lv_at hl 3 rfl) ?_
        refine lv_aload_n hx hb dX2_pairNumber_28 rfl (lv_at hl 0 rfl) ?_
        obtain ⟨a13, e_a13, hF⟩ := xbd hF
        refine gf_X2_15 C0 hR t_v0 e_a13 dX2_pairNumber_29 ?_
        refine lv_iload hx hb dX2_pairNumber_32 (lv_at hl 5 rfl) ?_
        obtain ⟨a14, e_a14, hF⟩ := xbd hF
        refine x_iald C0 hR e_a14 dX2_pairNumber_34 ?_
        refine lv_iload hx hb dX2_pairNumber_35 (lv_at hl 4 rfl) ?_
        obtain ⟨a15, e_a15, hF⟩ := xbd hF
        refine cl_X2_55 C0 hR hS e_a15 t_v3 ⟨(Nat.le_of_ble_eq_true rfl), (Nat.le_of_ble_eq_true rfl)⟩ hl.1 (Nat.le_of_ble_eq_true rfl) ⟨(Nat.le_of_ble_eq_true rfl), (Nat.le_of_ble_eq_true rfl)⟩ dX2_pairNumber_37 (fun H locs hR hS => ?_)
        refine lv_if_eq (tgt := 46) hx hb dX2_pairNumber_40 (by decide) (fun c16 => ?_) (fun c16 => ?_)
        · have hF := xif hF c16
          refine lv_iinc (v := v5 + 1) (lv' := [(5, .int (v5 + 1)), (0, .ref v0), (1, .ref v1), (2, .int v2), (3, .ref v3), (4, .int v4)]) hx hb dX2_pairNumber_46 hl (k := 5) rfl rfl (by decide) rfl (fun ls hl => ?_)
          refine lv_goto (tgt := 3) hx hb dX2_pairNumber_49 (by decide) ?_
          exact ih _ _ _ _ _ _ _ t_v0 t_v1 t_v3 hF _ _ hR hS _ (lv_sub hl [1, 2, 3, 4, 5, 0] rfl)
        · have hF := xel hF c16
          refine lv_iload hx hb dX2_pairNumber_43 (lv_at hl 5 rfl) ?_
          cases hF
          exact x_iret C0 hR hS dX2_pairNumber_45
set_option maxHeartbeats 4000000 in
set_option maxRecDepth 100000 in
theorem jc_X2_pairNumber {l : Launch} {D : xD} {ty : xTy} {h : xH} {v0 : Nat} {v1 : Nat} {v2 : Int32} {v3 : Nat} {v4 : Int32} {r : Int32} {h9 : xH} (t_v0 : ty v0 = some (0, 2)) (t_v1 : ty v1 = some (0, 7)) (t_v3 : ty v3 = some (0, 7)) (hF : jf_X2_pairNumber ty h v0 v1 v2 v3 v4 = some (r, h9)) : Met l yX2_pairNumber (xws yX2_pairNumber cX2_pairNumber 6 (some .int)) jr_X2_pairNumber (xPc D ty h [.ref v0, .ref v1, .int v2, .ref v3, .int v4]) (xQ D ty (some (.int r)) h9) 0 0 (xdom ty) := by
  refine x_met (by decide) ?_
  intro p e s m below meth c C0 hR
  generalize hargs : ([.ref v0, .ref v1, .int v2, .ref v3, .int v4] : List Value).toArray = args at C0 ⊢
  have hx := C0.1
  have hb := C0.2.1
  have hown := C0.2.2.2.2.2.1
  have hts := C0.2.2.2.2.2.2.1
  have hS : xS ty s.heap s.heap [] := xS.rf
  have hl := lv_entry ([.ref v0, .ref v1, .int v2, .ref v3, .int v4]) (n := 6) (Nat.le_of_ble_eq_true rfl)
  rw [← hargs, lg_entry_eq]
  rw [hargs]
  generalize (lg_sl ([.ref v0, .ref v1, .int v2, .ref v3, .int v4]) ++ List.replicate (6 - (lg_sl ([.ref v0, .ref v1, .int v2, .ref v3, .int v4])).length) Slot.unset).toArray = ls at hl ⊢
  have hl : lv_has ls 6 [(0, .ref v0), (1, .ref v1), (2, .int v2), (3, .ref v3), (4, .int v4)] := hl
  unfold jf_X2_pairNumber at hF
  refine lv_iconst (v := 0) hx hb dX2_pairNumber_0 (by decide) ?_
  refine lv_istore (lv' := [(5, .int 0), (0, .ref v0), (1, .ref v1), (2, .int v2), (3, .ref v3), (4, .int v4)]) hx hb dX2_pairNumber_1 hl (by decide) rfl (fun ls hl => ?_)
  obtain ⟨_, hF⟩ := xlim_sp hF
  exact jw_X2_pairNumber_3 C0 _ _ _ _ _ _ _ _ t_v0 t_v1 t_v3 hF _ _ hR hS _ (lv_sub hl [1, 2, 3, 4, 5, 0] rfl)
theorem xm_X2_pairNumber : xMw yX2_pairNumber cX2_pairNumber 6 (some .int) 4 := ⟨xin 959 (by decide +kernel) rfl, xin 123 (by decide +kernel) rfl, by decide +kernel⟩
theorem xi_X2_pairNumber : Cond.instanceMethod yX2_pairNumber ∈ xT := xin 958 (by decide +kernel) rfl
theorem xe_X2_pairNumber : Cond.selects yX2_pairNumber.cls yX2_pairNumber yX2_pairNumber ∈ xT := xin 40 (by decide +kernel) rfl
theorem dX2_joinedShape_0 : decode cX2_joinedShape 0 = .ok (.aload_n 0, 1) := by decide +kernel
theorem dX2_joinedShape_1 : decode cX2_joinedShape 1 = .ok (.getfield 23, 3) := by decide +kernel
theorem dX2_joinedShape_4 : decode cX2_joinedShape 4 = .ok (.invokevirtual 31, 3) := by decide +kernel
theorem dX2_joinedShape_7 : decode cX2_joinedShape 7 = .ok (.aload_n 0, 1) := by decide +kernel
theorem dX2_joinedShape_8 : decode cX2_joinedShape 8 = .ok (.iconst 0, 1) := by decide +kernel
theorem dX2_joinedShape_9 : decode cX2_joinedShape 9 = .ok (.putfield 27, 3) := by decide +kernel
theorem dX2_joinedShape_12 : decode cX2_joinedShape 12 = .ok (.iconst 0, 1) := by decide +kernel
theorem dX2_joinedShape_13 : decode cX2_joinedShape 13 = .ok (.istore_n 3, 1) := by decide +kernel
theorem dX2_joinedShape_14 : decode cX2_joinedShape 14 = .ok (.iconst 0, 1) := by decide +kernel
theorem dX2_joinedShape_15 : decode cX2_joinedShape 15 = .ok (.istore 4, 2) := by decide +kernel
theorem dX2_joinedShape_17 : decode cX2_joinedShape 17 = .ok (.iconst 0, 1) := by decide +kernel
theorem dX2_joinedShape_18 : decode cX2_joinedShape 18 = .ok (.istore 5, 2) := by decide +kernel
theorem dX2_joinedShape_20 : decode cX2_joinedShape 20 = .ok (.iload 5, 2) := by decide +kernel
theorem dX2_joinedShape_22 : decode cX2_joinedShape 22 = .ok (.bipush 12, 2) := by decide +kernel
theorem dX2_joinedShape_24 : decode cX2_joinedShape 24 = .ok (.if_icmp .ge 101, 3) := by decide +kernel
theorem dX2_joinedShape_27 : decode cX2_joinedShape 27 = .ok (.iload_n 3, 1) := by decide +kernel
theorem dX2_joinedShape_28 : decode cX2_joinedShape 28 = .ok (.aload_n 1, 1) := by decide +kernel
theorem dX2_joinedShape_29 : decode cX2_joinedShape 29 = .ok (.getfield 34, 3) := by decide +kernel
theorem dX2_joinedShape_32 : decode cX2_joinedShape 32 = .ok (.if_icmp .ge 93, 3) := by decide +kernel
theorem dX2_joinedShape_35 : decode cX2_joinedShape 35 = .ok (.aload_n 1, 1) := by decide +kernel
theorem dX2_joinedShape_36 : decode cX2_joinedShape 36 = .ok (.iload_n 3, 1) := by decide +kernel
theorem dX2_joinedShape_37 : decode cX2_joinedShape 37 = .ok (.invokevirtual 37, 3) := by decide +kernel
theorem dX2_joinedShape_40 : decode cX2_joinedShape 40 = .ok (.istore 6, 2) := by decide +kernel
theorem dX2_joinedShape_42 : decode cX2_joinedShape 42 = .ok (.iload 6, 2) := by decide +kernel
theorem dX2_joinedShape_44 : decode cX2_joinedShape 44 = .ok (.bipush 100, 2) := by decide +kernel
theorem dX2_joinedShape_46 : decode cX2_joinedShape 46 = .ok (.if_icmp .ge 38, 3) := by decide +kernel
theorem dX2_joinedShape_49 : decode cX2_joinedShape 49 = .ok (.iload 6, 2) := by decide +kernel
theorem dX2_joinedShape_51 : decode cX2_joinedShape 51 = .ok (.aload_n 2, 1) := by decide +kernel
theorem dX2_joinedShape_52 : decode cX2_joinedShape 52 = .ok (.iload 4, 2) := by decide +kernel
theorem dX2_joinedShape_54 : decode cX2_joinedShape 54 = .ok (.invokevirtual 37, 3) := by decide +kernel
theorem dX2_joinedShape_57 : decode cX2_joinedShape 57 = .ok (.if_icmp .ne 27, 3) := by decide +kernel
theorem dX2_joinedShape_60 : decode cX2_joinedShape 60 = .ok (.aload_n 0, 1) := by decide +kernel
theorem dX2_joinedShape_61 : decode cX2_joinedShape 61 = .ok (.getfield 23, 3) := by decide +kernel
theorem dX2_joinedShape_64 : decode cX2_joinedShape 64 = .ok (.iload 6, 2) := by decide +kernel
theorem dX2_joinedShape_66 : decode cX2_joinedShape 66 = .ok (.aload_n 1, 1) := by decide +kernel
theorem dX2_joinedShape_67 : decode cX2_joinedShape 67 = .ok (.iload_n 3, 1) := by decide +kernel
theorem dX2_joinedShape_68 : decode cX2_joinedShape 68 = .ok (.invokevirtual 41, 3) := by decide +kernel
theorem dX2_joinedShape_71 : decode cX2_joinedShape 71 = .ok (.invokevirtual 44, 3) := by decide +kernel
theorem dX2_joinedShape_74 : decode cX2_joinedShape 74 = .ok (.pop, 1) := by decide +kernel
theorem dX2_joinedShape_75 : decode cX2_joinedShape 75 = .ok (.iinc 3 1, 3) := by decide +kernel
theorem dX2_joinedShape_78 : decode cX2_joinedShape 78 = .ok (.iinc 4 1, 3) := by decide +kernel
theorem dX2_joinedShape_81 : decode cX2_joinedShape 81 = .ok (.goto 38, 3) := by decide +kernel
theorem dX2_joinedShape_84 : decode cX2_joinedShape 84 = .ok (.aload_n 0, 1) := by decide +kernel
theorem dX2_joinedShape_85 : decode cX2_joinedShape 85 = .ok (.getfield 23, 3) := by decide +kernel
theorem dX2_joinedShape_88 : decode cX2_joinedShape 88 = .ok (.bipush 100, 2) := by decide +kernel
theorem dX2_joinedShape_90 : decode cX2_joinedShape 90 = .ok (.aload_n 0, 1) := by decide +kernel
theorem dX2_joinedShape_91 : decode cX2_joinedShape 91 = .ok (.aload_n 1, 1) := by decide +kernel
theorem dX2_joinedShape_92 : decode cX2_joinedShape 92 = .ok (.iload_n 3, 1) := by decide +kernel
theorem dX2_joinedShape_93 : decode cX2_joinedShape 93 = .ok (.aload_n 2, 1) := by decide +kernel
theorem dX2_joinedShape_94 : decode cX2_joinedShape 94 = .ok (.iload 4, 2) := by decide +kernel
theorem dX2_joinedShape_96 : decode cX2_joinedShape 96 = .ok (.invokevirtual 48, 3) := by decide +kernel
theorem dX2_joinedShape_99 : decode cX2_joinedShape 99 = .ok (.iadd, 1) := by decide +kernel
theorem dX2_joinedShape_100 : decode cX2_joinedShape 100 = .ok (.iconst 0, 1) := by decide +kernel
theorem dX2_joinedShape_101 : decode cX2_joinedShape 101 = .ok (.invokevirtual 44, 3) := by decide +kernel
theorem dX2_joinedShape_104 : decode cX2_joinedShape 104 = .ok (.pop, 1) := by decide +kernel
theorem dX2_joinedShape_105 : decode cX2_joinedShape 105 = .ok (.aload_n 1, 1) := by decide +kernel
theorem dX2_joinedShape_106 : decode cX2_joinedShape 106 = .ok (.iload_n 3, 1) := by decide +kernel
theorem dX2_joinedShape_107 : decode cX2_joinedShape 107 = .ok (.invokevirtual 52, 3) := by decide +kernel
theorem dX2_joinedShape_110 : decode cX2_joinedShape 110 = .ok (.istore_n 3, 1) := by decide +kernel
theorem dX2_joinedShape_111 : decode cX2_joinedShape 111 = .ok (.aload_n 2, 1) := by decide +kernel
theorem dX2_joinedShape_112 : decode cX2_joinedShape 112 = .ok (.iload 4, 2) := by decide +kernel
theorem dX2_joinedShape_114 : decode cX2_joinedShape 114 = .ok (.invokevirtual 52, 3) := by decide +kernel
theorem dX2_joinedShape_117 : decode cX2_joinedShape 117 = .ok (.istore 4, 2) := by decide +kernel
theorem dX2_joinedShape_119 : decode cX2_joinedShape 119 = .ok (.iinc 5 1, 3) := by decide +kernel
theorem dX2_joinedShape_122 : decode cX2_joinedShape 122 = .ok (.goto (-102), 3) := by decide +kernel
theorem dX2_joinedShape_125 : decode cX2_joinedShape 125 = .ok (.aload_n 0, 1) := by decide +kernel
theorem dX2_joinedShape_126 : decode cX2_joinedShape 126 = .ok (.getfield 23, 3) := by decide +kernel
theorem dX2_joinedShape_129 : decode cX2_joinedShape 129 = .ok (.areturn, 1) := by decide +kernel
theorem wl_X2_31 : Cond.methodLink RX2 31 yX7_clear ∈ xT := xin 952 (by decide +kernel) rfl
theorem wl_X2_37 : Cond.methodLink RX2 37 yX7_codeAt ∈ xT := xin 953 (by decide +kernel) rfl
theorem wl_X2_41 : Cond.methodLink RX2 41 yX7_arityAt ∈ xT := xin 954 (by decide +kernel) rfl
theorem wl_X2_44 : Cond.methodLink RX2 44 yX7_add ∈ xT := xin 955 (by decide +kernel) rfl
theorem wl_X2_48 : Cond.methodLink RX2 48 yX2_pairNumber ∈ xT := xin 956 (by decide +kernel) rfl
theorem wl_X2_52 : Cond.methodLink RX2 52 yX7_behind ∈ xT := xin 961 (by decide +kernel) rfl
theorem wf_X2_23 : Cond.fieldLink RX2 23 "TermShelf$Joiner" "shape" "LTermShelf$Term;" ∈ xT := xin 408 (by decide +kernel) rfl
theorem wf_X2_34 : Cond.fieldLink RX2 34 "TermShelf$Term" "size" "I" ∈ xT := xin 158 (by decide +kernel) rfl
section XN_X2_joinedShape
variable {p : Program} {l : Launch} {e : Env} {R : Room} {s : State} {m : MethodId} {args : Array Value} {below : List Frame} {meth : Method} {c : Code} {H H0 : Heap} {locs : List Loc} {cells slots : Nat} {Q : State → Prop} {cc : ByteArray} {nL pc : Nat} {rt : Option FieldType} {ls : Array Slot} {rest : List Value} {D : xD} {ty : xTy} {h : xH}
theorem cl_X2_31 {v0 : Nat} {h9 : xH} (C0 : xC D RX2 cc nL rt p s m args meth c) (hR : xRep D ty h H) (hS : xS ty H0 H locs) (hF : jf_X7_clear ty h v0 = some h9) (t_v0 : ty v0 = some (0, 7)) (hrm : jr_X7_clear.frames + 1 ≤ R.frames ∧ 8 + (1 + 11) + jr_X7_clear.locals ≤ R.locals) (hsz : ls.size = nL) (hW : (rest.map fun v => v.category).sum ≤ 8) (hf : cells ≤ R.cells ∧ slots ≤ R.slots) (hdg : decode cc pc = .ok (.invokevirtual 31, 3)) (kk : ∀ (H1 : Heap) (locs1 : List Loc), xRep D ty h9 H1 → xS ty H0 H1 locs1 → W p l e R s m args below meth c H1 locs1 cells slots Q (F0 m (pc + 3) ls rest)) : W p l e R s m args below meth c H locs cells slots Q (F0 m pc ls (.ref v0 :: rest)) := x_callV C0 (jc_X7_clear t_v0 hF) xm_X7_clear xi_X7_clear xe_X7_clear wl_X2_31 ⟨rfl, rfl, hrm⟩ (ci := 7) rfl t_v0 hR hS (As := []) rfl hsz rfl hW hdg hf kk
theorem cl_X2_37 {v0 : Nat} {v1 : Int32} {r : Int32} (C0 : xC D RX2 cc nL rt p s m args meth c) (hR : xRep D ty h H) (hS : xS ty H0 H locs) (hF : jf_X7_codeAt ty h v0 v1 = some r) (t_v0 : ty v0 = some (0, 7)) (hrm : jr_X7_codeAt.frames + 1 ≤ R.frames ∧ 8 + (2 + 11) + jr_X7_codeAt.locals ≤ R.locals) (hsz : ls.size = nL) (hW : (rest.map fun v => v.category).sum ≤ 8) (hf : cells ≤ R.cells ∧ slots ≤ R.slots) (hdg : decode cc pc = .ok (.invokevirtual 37, 3)) (kk : ∀ (H1 : Heap) (locs1 : List Loc), xRep D ty h H1 → xS ty H0 H1 locs1 → W p l e R s m args below meth c H1 locs1 cells slots Q (F0 m (pc + 3) ls (.int r :: rest))) : W p l e R s m args below meth c H locs cells slots Q (F0 m pc ls (.int v1 :: .ref v0 :: rest)) := x_callV C0 (jc_X7_codeAt t_v0 hF) xm_X7_codeAt xi_X7_codeAt xe_X7_codeAt wl_X2_37 ⟨rfl, rfl, hrm⟩ (ci := 7) rfl t_v0 hR hS (As := [.int v1]) rfl hsz rfl hW hdg hf kk
theorem cl_X2_41 {v0 : Nat} {v1 : Int32} {r : Int32} (C0 : xC D RX2 cc nL rt p s m args meth c) (hR : xRep D ty h H) (hS : xS ty H0 H locs) (hF : jf_X7_arityAt ty h v0 v1 = some r) (t_v0 : ty v0 = some (0, 7)) (hrm : jr_X7_arityAt.frames + 1 ≤ R.frames ∧ 8 + (2 + 11) + jr_X7_arityAt.locals ≤ R.locals) (hsz : ls.size = nL) (hW : (rest.map fun v => v.category).sum ≤ 8) (hf : cells ≤ R.cells ∧ slots ≤ R.slots) (hdg : decode cc pc = .ok (.invokevirtual 41, 3)) (kk : ∀ (H1 : Heap) (locs1 : List Loc), xRep D ty h H1 → xS ty H0 H1 locs1 → W p l e R s m args below meth c H1 locs1 cells slots Q (F0 m (pc + 3) ls (.int r :: rest))) : W p l e R s m args below meth c H locs cells slots Q (F0 m pc ls (.int v1 :: .ref v0 :: rest)) := x_callV C0 (jc_X7_arityAt t_v0 hF) xm_X7_arityAt xi_X7_arityAt xe_X7_arityAt wl_X2_41 ⟨rfl, rfl, hrm⟩ (ci := 7) rfl t_v0 hR hS (As := [.int v1]) rfl hsz rfl hW hdg hf kk
theorem cl_X2_44 {v0 : Nat} {v1 : Int32} {v2 : Int32} {r : Int32} {h9 : xH} (C0 : xC D RX2 cc nL rt p s m args meth c) (hR : xRep D ty h H) (hS : xS ty H0 H locs) (hF : jf_X7_add ty h v0 v1 v2 = some (r, h9)) (t_v0 : ty v0 = some (0, 7)) (hrm : jr_X7_add.frames + 1 ≤ R.frames ∧ 8 + (3 + 11) + jr_X7_add.locals ≤ R.locals) (hsz : ls.size = nL) (hW : (rest.map fun v => v.category).sum ≤ 8) (hf : cells ≤ R.cells ∧ slots ≤ R.slots) (hdg : decode cc pc = .ok (.invokevirtual 44, 3)) (kk : ∀ (H1 : Heap) (locs1 : List Loc), xRep D ty h9 H1 → xS ty H0 H1 locs1 → W p l e R s m args below meth c H1 locs1 cells slots Q (F0 m (pc + 3) ls (.int r :: rest))) : W p l e R s m args below meth c H locs cells slots Q (F0 m pc ls (.int v2 :: .int v1 :: .ref v0 :: rest)) := x_callV C0 (jc_X7_add t_v0 hF) xm_X7_add xi_X7_add xe_X7_add wl_X2_44 ⟨rfl, rfl, hrm⟩ (ci := 7) rfl t_v0 hR hS (As := [.int v1, .int v2]) rfl hsz rfl hW hdg hf kk
theorem cl_X2_48 {v0 : Nat} {v1 : Nat} {v2 : Int32} {v3 : Nat} {v4 : Int32} {r : Int32} {h9 : xH} (C0 : xC D RX2 cc nL rt p s m args meth c) (hR : xRep D ty h H) (hS : xS ty H0 H locs) (hF : jf_X2_pairNumber ty h v0 v1 v2 v3 v4 = some (r, h9)) (t_v0 : ty v0 = some (0, 2)) (t_v1 : ty v1 = some (0, 7)) (t_v3 : ty v3 = some (0, 7)) (hrm : jr_X2_pairNumber.frames + 1 ≤ R.frames ∧ 8 + (6 + 11) + jr_X2_pairNumber.locals ≤ R.locals) (hsz : ls.size = nL) (hW : (rest.map fun v => v.category).sum ≤ 8) (hf : cells ≤ R.cells ∧ slots ≤ R.slots) (hdg : decode cc pc = .ok (.invokevirtual 48, 3)) (kk : ∀ (H1 : Heap) (locs1 : List Loc), xRep D ty h9 H1 → xS ty H0 H1 locs1 → W p l e R s m args below meth c H1 locs1 cells slots Q (F0 m (pc + 3) ls (.int r :: rest))) : W p l e R s m args below meth c H locs cells slots Q (F0 m pc ls (.int v4 :: .ref v3 :: .int v2 :: .ref v1 :: .ref v0 :: rest)) := x_callV C0 (jc_X2_pairNumber t_v0 t_v1 t_v3 hF) xm_X2_pairNumber xi_X2_pairNumber xe_X2_pairNumber wl_X2_48 ⟨rfl, rfl, hrm⟩ (ci := 2) rfl t_v0 hR hS (As := [.ref v1, .int v2, .ref v3, .int v4]) rfl hsz rfl hW hdg hf kk
theorem cl_X2_52 {v0 : Nat} {v1 : Int32} {r : Int32} (C0 : xC D RX2 cc nL rt p s m args meth c) (hR : xRep D ty h H) (hS : xS ty H0 H locs) (hF : jf_X7_behind ty h v0 v1 = some r) (t_v0 : ty v0 = some (0, 7)) (hrm : jr_X7_behind.frames + 1 ≤ R.frames ∧ 8 + (4 + 11) + jr_X7_behind.locals ≤ R.locals) (hsz : ls.size = nL) (hW : (rest.map fun v => v.category).sum ≤ 8) (hf : cells ≤ R.cells ∧ slots ≤ R.slots) (hdg : decode cc pc = .ok (.invokevirtual 52, 3)) (kk : ∀ (H1 : Heap) (locs1 : List Loc), xRep D ty h H1 → xS ty H0 H1 locs1 → W p l e R s m args below meth c H1 locs1 cells slots Q (F0 m (pc + 3) ls (.int r :: rest))) : W p l e R s m args below meth c H locs cells slots Q (F0 m pc ls (.int v1 :: .ref v0 :: rest)) := x_callV C0 (jc_X7_behind t_v0 hF) xm_X7_behind xi_X7_behind xe_X7_behind wl_X2_52 ⟨rfl, rfl, hrm⟩ (ci := 7) rfl t_v0 hR hS (As := [.int v1]) rfl hsz rfl hW hdg hf kk
theorem gf_X2_23 {a : Nat} (C0 : xC D RX2 cc nL rt p s m args meth c) (hR : xRep D ty h H) (ht : ty a = some (0, 2)) {v : Nat} (hv : xR h a 2 = some v) (hdg : decode cc pc = .ok (.getfield 23, 3)) (kk : W p l e R s m args below meth c H locs cells slots Q (F0 m (pc + 3) ls (.ref v :: rest))) : W p l e R s m args below meth c H locs cells slots Q (F0 m pc ls (.ref a :: rest)) := x_get C0 hR (ci := 2) (k := 2) (N := 4) (T := TX2) rfl iX2 (by decide) rfl wf_X2_23 (by show va_rf (xR h a 2) = _; rw [hv]; rfl) ht hdg kk
theorem gf_X2_34 {a : Nat} (C0 : xC D RX2 cc nL rt p s m args meth c) (hR : xRep D ty h H) (ht : ty a = some (0, 7)) (hdg : decode cc pc = .ok (.getfield 34, 3)) (kk : W p l e R s m args below meth c H locs cells slots Q (F0 m (pc + 3) ls (.int (xI h a 2) :: rest))) : W p l e R s m args below meth c H locs cells slots Q (F0 m pc ls (.ref a :: rest)) := x_get C0 hR (ci := 7) (k := 2) (N := 3) (T := TX7) rfl iX7 (by decide) rfl wf_X2_34 rfl ht hdg kk
end XN_X2_joinedShape
set_option maxHeartbeats 4000000 in
set_option maxRecDepth 100000 in
theorem jw_X2_joinedShape_84 {p : Program} {l : Launch} {e : Env} {s : State} {m : MethodId} {args : Array Value} {below : List Frame} {meth : Method} {c : Code} {D : xD} {ty : xTy} {k20 : Nat → Nat → Nat → Int32 → Int32 → Int32 → xH → Option (Nat × xH)} (C0 : xC D RX2 cX2_joinedShape 7 (some (.object "TermShelf$Term")) p s m args meth c) {r : Nat} {h9 : xH} (hk20 : ∀ (v0 : Nat) (v1 : Nat) (v2 : Nat) (v3 : Int32) (v4 : Int32) (v5 : Int32) (h : xH), ty v0 = some (0, 2) → ty v1 = some (0, 7) → ty v2 = some (0, 7) → k20 v0 v1 v2 v3 v4 v5 h = some (r, h9) → ∀ (H : Heap) (locs : List Loc), xRep D ty h H → xS ty s.heap H locs → ∀ ls : Array Slot, lv_has ls 7 [(0, .ref v0), (1, .ref v1), (2, .ref v2), (3, .int v3), (4, .int v4), (5, .int v5)] → W p l e jr_X2_joinedShape s m args below meth c H locs 0 0 (MQ below (xQ D ty (some (.ref r)) h9) args s 0 0 (xdom ty)) (F0 m 20 ls [])) : ∀ (v0 : Nat) (v1 : Nat) (v2 : Nat) (v3 : Int32) (v4 : Int32) (v5 : Int32) (h : xH), ty v0 = some (0, 2) → ty v1 = some (0, 7) → ty v2 = some (0, 7) → jf_X2_joinedShape_84 ty k20 v0 v1 v2 v3 v4 v5 h = some (r, h9) → ∀ (H : Heap) (locs : List Loc), xRep D ty h H → xS ty s.heap H locs → ∀ ls : Array Slot, lv_has ls 7 [(0, .ref v0), (1, .ref v1), (2, .ref v2), (3, .int v3), (4, .int v4), (5, .int v5)] → W p l e jr_X2_joinedShape s m args below meth c H locs 0 0 (MQ below (xQ D ty (some (.ref r)) h9) args s 0 0 (xdom ty)) (F0 m 84 ls []) := by
  have hx := C0.1
  have hb := C0.2.1
  have hown := C0.2.2.2.2.2.1
  have hts := C0.2.2.2.2.2.2.1
  intro v0 v1 v2 v3 v4 v5 h t_v0 t_v1 t_v2 hF H locs hR hS ls hl
  unfold jf_X2_joinedShape_84 at hF
  refine lv_aload_n hx hb dX2_joinedShape_84 rfl (lv_at hl 0 rfl) ?_
  obtain ⟨a1, e_a1, hF⟩ := xbd hF
  obtain ⟨e_a1, t_a1⟩ := xgo_sp e_a1
  refine gf_X2_23 C0 hR t_v0 e_a1 dX2_joinedShape_85 ?_
  refine lv_bipush (v := 100) hx hb dX2_joinedShape_88 (by decide) ?_
  refine lv_aload_n hx hb dX2_joinedShape_90 rfl (lv_at hl 0 rfl) ?_
  refine lv_aload_n hx hb dX2_joinedShape_91 rfl (lv_at hl 1 rfl) ?_
  refine lv_iload_n hx hb dX2_joinedShape_92 rfl (lv_at hl 3 rfl) ?_
  refine lv_aload_n hx hb dX2_joinedShape_93 rfl (lv_at hl 2 rfl) ?_
  refine lv_iload hx hb dX2_joinedShape_94 (lv_at hl 4 rfl) ?_
  obtain ⟨a3, h2, e_h2, hF⟩ := xbd2 hF
  refine cl_X2_48 C0 hR hS e_h2 t_v0 t_v1 t_v2 ⟨(Nat.le_of_ble_eq_true rfl), (Nat.le_of_ble_eq_true rfl)⟩ hl.1 (Nat.le_of_ble_eq_true rfl) ⟨(Nat.le_of_ble_eq_true rfl), (Nat.le_of_ble_eq_true rfl)⟩ dX2_joinedShape_96 (fun H locs hR hS => ?_)
  refine lv_iadd hx hb dX2_joinedShape_99 ?_
  refine lv_iconst (v := 0) hx hb dX2_joinedShape_100 (by decide) ?_
  obtain ⟨a5, h4, e_h4, hF⟩ := xbd2 hF
  refine cl_X2_44 C0 hR hS e_h4 t_a1 ⟨(Nat.le_of_ble_eq_true rfl), (Nat.le_of_ble_eq_true rfl)⟩ hl.1 (Nat.le_of_ble_eq_true rfl) ⟨(Nat.le_of_ble_eq_true rfl), (Nat.le_of_ble_eq_true rfl)⟩ dX2_joinedShape_101 (fun H locs hR hS => ?_)
  refine lv_pop hx hb dX2_joinedShape_104 rfl ?_
  refine lv_aload_n hx hb dX2_joinedShape_105 rfl (lv_at hl 1 rfl) ?_
  refine lv_iload_n hx hb dX2_joinedShape_106 rfl (lv_at hl 3 rfl) ?_
  obtain ⟨a6, e_a6, hF⟩ := xbd hF
  refine cl_X2_52 C0 hR hS e_a6 t_v1 ⟨(Nat.le_of_ble_eq_true rfl), (Nat.le_of_ble_eq_true rfl)⟩ hl.1 (Nat.le_of_ble_eq_true rfl) ⟨(Nat.le_of_ble_eq_true rfl), (Nat.le_of_ble_eq_true rfl)⟩ dX2_joinedShape_107 (fun H locs hR hS => ?_)
  refine lv_istore_n (lv' := [(3, .int a6), (0, .ref v0), (1, .ref v1), (2, .ref v2), (4, .int v4), (5, .int v5)]) hx hb dX2_joinedShape_110 rfl hl (by decide) rfl (fun ls hl => ?_)
  refine lv_aload_n hx hb dX2_joinedShape_111 rfl (lv_at hl 3 rfl) ?_
  refine lv_iload hx hb dX2_joinedShape_112 (lv_at hl 4 rfl) ?_
  obtain ⟨a7, e_a7, hF⟩ := xbd hF
  refine cl_X2_52 C0 hR hS e_a7 t_v2 ⟨(Nat.le_of_ble_eq_true rfl), (Nat.le_of_ble_eq_true rfl)⟩ hl.1 (Nat.le_of_ble_eq_true rfl) ⟨(Nat.le_of_ble_eq_true rfl), (Nat.le_of_ble_eq_true rfl)⟩ dX2_joinedShape_114 (fun H locs hR hS => ?_)
  refine lv_istore (lv' := [(4, .int a7), (3, .int a6), (0, .ref v0), (1, .ref v1), (2, .ref v2), (5, .int v5)]) hx hb dX2_joinedShape_117 hl (by decide) rfl (fun ls hl => ?_)
  refine lv_iinc (v := v5 + 1) (lv' := [(5, .int (v5 + 1)), (4, .int a7), (3, .int a6), (0, .ref v0), (1, .ref v1), (2, .ref v2)]) hx hb dX2_joinedShape_119 hl (k := 5) rfl rfl (by decide) rfl (fun ls hl => ?_)
  refine lv_goto (tgt := 20) hx hb dX2_joinedShape_122 (by decide) ?_
  exact hk20 _ _ _ _ _ _ _ t_v0 t_v1 t_v2 hF _ _ hR hS _ (lv_sub hl [3, 4, 5, 2, 1, 0] rfl)
set_option maxHeartbeats 4000000 in
set_option maxRecDepth 100000 in
theorem jw_X2_joinedShape_20 {p : Program} {l : Launch} {e : Env} {s : State} {m : MethodId} {args : Array Value} {below : List Frame} {meth : Method} {c : Code} {D : xD} {ty : xTy} (C0 : xC D RX2 cX2_joinedShape 7 (some (.object "TermShelf$Term")) p s m args meth c) {r : Nat} {h9 : xH} : ∀ n : Nat, ∀ (v0 : Nat) (v1 : Nat) (v2 : Nat) (v3 : Int32) (v4 : Int32) (v5 : Int32) (h : xH), ty v0 = some (0, 2) → ty v1 = some (0, 7) → ty v2 = some (0, 7) → jf_X2_joinedShape_20 ty n v0 v1 v2 v3 v4 v5 h = some (r, h9) → ∀ (H : Heap) (locs : List Loc), xRep D ty h H → xS ty s.heap H locs → ∀ ls : Array Slot, lv_has ls 7 [(0, .ref v0), (1, .ref v1), (2, .ref v2), (3, .int v3), (4, .int v4), (5, .int v5)] → W p l e jr_X2_joinedShape s m args below meth c H locs 0 0 (MQ below (xQ D ty (some (.ref r)) h9) args s 0 0 (xdom ty)) (F0 m 20 ls []) := by
  have hx := C0.1
  have hb := C0.2.1
  have hown := C0.2.2.2.2.2.1
  have hts := C0.2.2.2.2.2.2.1
  intro n
  induction n with
  | zero =>
    intro v0 v1 v2 v3 v4 v5 h t_v0 t_v1 t_v2 hF H locs hR hS ls hl
    cases hF
  | succ n ih =>
    intro v0 v1 v2 v3 v4 v5 h t_v0 t_v1 t_v2 hF H locs hR hS ls hl
    rw [jf_X2_joinedShape_20_s] at hF
    refine lv_iload hx hb dX2_joinedShape_20 (lv_at hl 5 rfl) ?_
    refine lv_bipush (v := 12) hx hb dX2_joinedShape_22 (by decide) ?_
    refine lv_icmp_ge (tgt := 125) hx hb dX2_joinedShape_24 (by decide) (fun c8 => ?_) (fun c8 => ?_)
    · have hF := xif hF c8
      refine lv_aload_n hx hb dX2_joinedShape_125 rfl (lv_at hl 0 rfl) ?_
      obtain ⟨a9, e_a9, hF⟩ := xbd hF
      obtain ⟨e_a9, t_a9⟩ := xgo_sp e_a9
      refine gf_X2_23 C0 hR t_v0 e_a9 dX2_joinedShape_126 ?_
      cases hF
      exact x_aret C0 hR hS dX2_joinedShape_129
    · have hF := xel hF c8
      refine lv_iload_n hx hb dX2_joinedShape_27 rfl (lv_at hl 3 rfl) ?_
      refine lv_aload_n hx hb dX2_joinedShape_28 rfl (lv_at hl 1 rfl) ?_
      refine gf_X2_34 C0 hR t_v1 dX2_joinedShape_29 ?_
      refine lv_icmp_ge (tgt := 125) hx hb dX2_joinedShape_32 (by decide) (fun c10 => ?_) (fun c10 => ?_)
      · have hF := xif hF c10
        refine lv_aload_n hx hb dX2_joinedShape_125 rfl (lv_at hl 0 rfl) ?_
        obtain ⟨a11, e_a11, hF⟩ := xbd hF
        obtain ⟨e_a11, t_a11⟩ := xgo_sp e_a11
        refine gf_X2_23 C0 hR t_v0 e_a11 dX2_joinedShape_126 ?_
        cases hF
        exact x_aret C0 hR hS dX2_joinedShape_129
      · have hF := xel hF c10
        refine lv_aload_n hx hb dX2_joinedShape_35 rfl (lv_at hl 1 rfl) ?_
        refine lv_iload_n hx hb dX2_joinedShape_36 rfl (lv_at hl 3 rfl) ?_
        obtain ⟨a12, e_a12, hF⟩ := xbd hF
        refine cl_X2_37 C0 hR hS e_a12 t_v1 ⟨(Nat.le_of_ble_eq_true rfl), (Nat.le_of_ble_eq_true rfl)⟩ hl.1 (Nat.le_of_ble_eq_true rfl) ⟨(Nat.le_of_ble_eq_true rfl), (Nat.le_of_ble_eq_true rfl)⟩ dX2_joinedShape_37 (fun H locs hR hS => ?_)
        refine lv_istore (lv' := [(6, .int a12), (0, .ref v0), (1, .ref v1), (2, .ref v2), (3, .int v3), (4, .int v4), (5, .int v5)]) hx hb dX2_joinedShape_40 hl (by decide) rfl (fun ls hl => ?_)
        refine lv_iload hx hb dX2_joinedShape_42 (lv_at hl 0 rfl) ?_
        refine lv_bipush (v := 100) hx hb dX2_joinedShape_44 (by decide) ?_
        refine lv_icmp_ge (tgt := 84) hx hb dX2_joinedShape_46 (by decide) (fun c13 => ?_) (fun c13 => ?_)
        · have hF := xif hF c13
          exact jw_X2_joinedShape_84 C0 ih _ _ _ _ _ _ _ t_v0 t_v1 t_v2 hF _ _ hR hS _ (lv_sub hl [1, 2, 3, 4, 5, 6] rfl)
        · have hF := xel hF c13
          refine lv_iload hx hb dX2_joinedShape_49 (lv_at hl 0 rfl) ?_
          refine lv_aload_n hx hb dX2_joinedShape_51 rfl (lv_at hl 3 rfl) ?_
          refine lv_iload hx hb dX2_joinedShape_52 (lv_at hl 5 rfl) ?_
          obtain ⟨a14, e_a14, hF⟩ := xbd hF
          refine cl_X2_37 C0 hR hS e_a14 t_v2 ⟨(Nat.le_of_ble_eq_true rfl), (Nat.le_of_ble_eq_true rfl)⟩ hl.1 (Nat.le_of_ble_eq_true rfl) ⟨(Nat.le_of_ble_eq_true rfl), (Nat.le_of_ble_eq_true rfl)⟩ dX2_joinedShape_54 (fun H locs hR hS => ?_)
          refine lv_icmp_ne (tgt := 84) hx hb dX2_joinedShape_57 (by decide) (fun c15 => ?_) (fun c15 => ?_)
          · have hF := xel hF c15
            exact jw_X2_joinedShape_84 C0 ih _ _ _ _ _ _ _ t_v0 t_v1 t_v2 hF _ _ hR hS _ (lv_sub hl [1, 2, 3, 4, 5, 6] rfl)
          · have hF := xif hF c15
            refine lv_aload_n hx hb dX2_joinedShape_60 rfl (lv_at hl 1 rfl) ?_
            obtain ⟨a16, e_a16, hF⟩ := xbd hF
            obtain ⟨e_a16, t_a16⟩ := xgo_sp e_a16
            refine gf_X2_23 C0 hR t_v0 e_a16 dX2_joinedShape_61 ?_
            refine lv_iload hx hb dX2_joinedShape_64 (lv_at hl 0 rfl) ?_
            refine lv_aload_n hx hb dX2_joinedShape_66 rfl (lv_at hl 2 rfl) ?_
            refine lv_iload_n hx hb dX2_joinedShape_67 rfl (lv_at hl 4 rfl) ?_
            obtain ⟨a17, e_a17, hF⟩ := xbd hF
            refine cl_X2_41 C0 hR hS e_a17 t_v1 ⟨(Nat.le_of_ble_eq_true rfl), (Nat.le_of_ble_eq_true rfl)⟩ hl.1 (Nat.le_of_ble_eq_true rfl) ⟨(Nat.le_of_ble_eq_true rfl), (Nat.le_of_ble_eq_true rfl)⟩ dX2_joinedShape_68 (fun H locs hR hS => ?_)
            obtain ⟨a19, h18, e_h18, hF⟩ := xbd2 hF
            refine cl_X2_44 C0 hR hS e_h18 t_a16 ⟨(Nat.le_of_ble_eq_true rfl), (Nat.le_of_ble_eq_true rfl)⟩ hl.1 (Nat.le_of_ble_eq_true rfl) ⟨(Nat.le_of_ble_eq_true rfl), (Nat.le_of_ble_eq_true rfl)⟩ dX2_joinedShape_71 (fun H locs hR hS => ?_)
            refine lv_pop hx hb dX2_joinedShape_74 rfl ?_
            refine lv_iinc (v := v3 + 1) (lv' := [(3, .int (v3 + 1)), (6, .int a12), (0, .ref v0), (1, .ref v1), (2, .ref v2), (4, .int v4), (5, .int v5)]) hx hb dX2_joinedShape_75 hl (k := 4) rfl rfl (by decide) rfl (fun ls hl => ?_)
            refine lv_iinc (v := v4 + 1) (lv' := [(4, .int (v4 + 1)), (3, .int (v3 + 1)), (6, .int a12), (0, .ref v0), (1, .ref v1), (2, .ref v2), (5, .int v5)]) hx hb dX2_joinedShape_78 hl (k := 5) rfl rfl (by decide) rfl (fun ls hl => ?_)
            refine lv_goto (tgt := 119) hx hb dX2_joinedShape_81 (by decide) ?_
            refine lv_iinc (v := v5 + 1) (lv' := [(5, .int (v5 + 1)), (4, .int (v4 + 1)), (3, .int (v3 + 1)), (6, .int a12), (0, .ref v0), (1, .ref v1), (2, .ref v2)]) hx hb dX2_joinedShape_119 hl (k := 6) rfl rfl (by decide) rfl (fun ls hl => ?_)
            refine lv_goto (tgt := 20) hx hb dX2_joinedShape_122 (by decide) ?_
            exact ih _ _ _ _ _ _ _ t_v0 t_v1 t_v2 hF _ _ hR hS _ (lv_sub hl [4, 5, 6, 2, 1, 0] rfl)
set_option maxHeartbeats 4000000 in
set_option maxRecDepth 100000 in
theorem jc_X2_joinedShape {l : Launch} {D : xD} {ty : xTy} {h : xH} {v0 : Nat} {v1 : Nat} {v2 : Nat} {r : Nat} {h9 : xH} (t_v0 : ty v0 = some (0, 2)) (t_v1 : ty v1 = some (0, 7)) (t_v2 : ty v2 = some (0, 7)) (hF : jf_X2_joinedShape ty h v0 v1 v2 = some (r, h9)) : Met l yX2_joinedShape (xws yX2_joinedShape cX2_joinedShape 7 (some (.object "TermShelf$Term"))) jr_X2_joinedShape (xPc D ty h [.ref v0, .ref v1, .ref v2]) (xQ D ty (some (.ref r)) h9) 0 0 (xdom ty) := by
  refine x_met (by decide) ?_
  intro p e s m below meth c C0 hR
  generalize hargs : ([.ref v0, .ref v1, .ref v2] : List Value).toArray = args at C0 ⊢
  have hx := C0.1
  have hb := C0.2.1
  have hown := C0.2.2.2.2.2.1
  have hts := C0.2.2.2.2.2.2.1
  have hS : xS ty s.heap s.heap [] := xS.rf
  have hl := lv_entry ([.ref v0, .ref v1, .ref v2]) (n := 7) (Nat.le_of_ble_eq_true rfl)
  rw [← hargs, lg_entry_eq]
  rw [hargs]
  generalize (lg_sl ([.ref v0, .ref v1, .ref v2]) ++ List.replicate (7 - (lg_sl ([.ref v0, .ref v1, .ref v2])).length) Slot.unset).toArray = ls at hl ⊢
  have hl : lv_has ls 7 [(0, .ref v0), (1, .ref v1), (2, .ref v2)] := hl
  unfold jf_X2_joinedShape at hF
  refine lv_aload_n hx hb dX2_joinedShape_0 rfl (lv_at hl 0 rfl) ?_
  obtain ⟨a20, e_a20, hF⟩ := xbd hF
  obtain ⟨e_a20, t_a20⟩ := xgo_sp e_a20
  refine gf_X2_23 C0 hR t_v0 e_a20 dX2_joinedShape_1 ?_
  obtain ⟨h21, e_h21, hF⟩ := xbd hF
  refine cl_X2_31 C0 hR hS e_h21 t_a20 ⟨(Nat.le_of_ble_eq_true rfl), (Nat.le_of_ble_eq_true rfl)⟩ hl.1 (Nat.le_of_ble_eq_true rfl) ⟨(Nat.le_of_ble_eq_true rfl), (Nat.le_of_ble_eq_true rfl)⟩ dX2_joinedShape_4 (fun H locs hR hS => ?_)
  refine lv_aload_n hx hb dX2_joinedShape_7 rfl (lv_at hl 0 rfl) ?_
  refine lv_iconst (v := 0) hx hb dX2_joinedShape_8 (by decide) ?_
  obtain ⟨h22, e_h22, hF⟩ := xbd hF
  refine pf_X2_27 C0 hR hS t_v0 dX2_joinedShape_9 (fun H locs hR hS => ?_)
  rw [Option.some.inj e_h22] at hR
  refine lv_iconst (v := 0) hx hb dX2_joinedShape_12 (by decide) ?_
  refine lv_istore_n (lv' := [(3, .int 0), (0, .ref v0), (1, .ref v1), (2, .ref v2)]) hx hb dX2_joinedShape_13 rfl hl (by decide) rfl (fun ls hl => ?_)
  refine lv_iconst (v := 0) hx hb dX2_joinedShape_14 (by decide) ?_
  refine lv_istore (lv' := [(4, .int 0), (3, .int 0), (0, .ref v0), (1, .ref v1), (2, .ref v2)]) hx hb dX2_joinedShape_15 hl (by decide) rfl (fun ls hl => ?_)
  refine lv_iconst (v := 0) hx hb dX2_joinedShape_17 (by decide) ?_
  refine lv_istore (lv' := [(5, .int 0), (4, .int 0), (3, .int 0), (0, .ref v0), (1, .ref v1), (2, .ref v2)]) hx hb dX2_joinedShape_18 hl (by decide) rfl (fun ls hl => ?_)
  obtain ⟨_, hF⟩ := xlim_sp hF
  exact jw_X2_joinedShape_20 C0 _ _ _ _ _ _ _ _ t_v0 t_v1 t_v2 hF _ _ hR hS _ (lv_sub hl [3, 4, 5, 2, 1, 0] rfl)
theorem xm_X2_joinedShape : xMw yX2_joinedShape cX2_joinedShape 7 (some (.object "TermShelf$Term")) 2 := ⟨xin 951 (by decide +kernel) rfl, xin 123 (by decide +kernel) rfl, by decide +kernel⟩
theorem xi_X2_joinedShape : Cond.instanceMethod yX2_joinedShape ∈ xT := xin 949 (by decide +kernel) rfl
theorem xe_X2_joinedShape : Cond.selects yX2_joinedShape.cls yX2_joinedShape yX2_joinedShape ∈ xT := xin 950 (by decide +kernel) rfl
theorem dX3_fill_0 : decode cX3_fill 0 = .ok (.iload_n 1, 1) := by decide +kernel
theorem dX3_fill_1 : decode cX3_fill 1 = .ok (.ifCond .lt 9, 3) := by decide +kernel
theorem dX3_fill_4 : decode cX3_fill 4 = .ok (.iload_n 1, 1) := by decide +kernel
theorem dX3_fill_5 : decode cX3_fill 5 = .ok (.bipush 12, 2) := by decide +kernel
theorem dX3_fill_7 : decode cX3_fill 7 = .ok (.if_icmp .lt 5, 3) := by decide +kernel
theorem dX3_fill_10 : decode cX3_fill 10 = .ok (.iconst 0, 1) := by decide +kernel
theorem dX3_fill_11 : decode cX3_fill 11 = .ok (.ireturn, 1) := by decide +kernel
theorem dX3_fill_12 : decode cX3_fill 12 = .ok (.aload_n 0, 1) := by decide +kernel
theorem dX3_fill_13 : decode cX3_fill 13 = .ok (.getfield 9, 3) := by decide +kernel
theorem dX3_fill_16 : decode cX3_fill 16 = .ok (.iload_n 1, 1) := by decide +kernel
theorem dX3_fill_17 : decode cX3_fill 17 = .ok (.iaload, 1) := by decide +kernel
theorem dX3_fill_18 : decode cX3_fill 18 = .ok (.iconst (-1), 1) := by decide +kernel
theorem dX3_fill_19 : decode cX3_fill 19 = .ok (.if_icmp .ne 12, 3) := by decide +kernel
theorem dX3_fill_22 : decode cX3_fill 22 = .ok (.aload_n 0, 1) := by decide +kernel
theorem dX3_fill_23 : decode cX3_fill 23 = .ok (.getfield 9, 3) := by decide +kernel
theorem dX3_fill_26 : decode cX3_fill 26 = .ok (.iload_n 1, 1) := by decide +kernel
theorem dX3_fill_27 : decode cX3_fill 27 = .ok (.iload_n 3, 1) := by decide +kernel
theorem dX3_fill_28 : decode cX3_fill 28 = .ok (.iastore, 1) := by decide +kernel
theorem dX3_fill_29 : decode cX3_fill 29 = .ok (.iconst 1, 1) := by decide +kernel
theorem dX3_fill_30 : decode cX3_fill 30 = .ok (.ireturn, 1) := by decide +kernel
theorem dX3_fill_31 : decode cX3_fill 31 = .ok (.aload_n 2, 1) := by decide +kernel
theorem dX3_fill_32 : decode cX3_fill 32 = .ok (.aload_n 0, 1) := by decide +kernel
theorem dX3_fill_33 : decode cX3_fill 33 = .ok (.getfield 9, 3) := by decide +kernel
theorem dX3_fill_36 : decode cX3_fill 36 = .ok (.iload_n 1, 1) := by decide +kernel
theorem dX3_fill_37 : decode cX3_fill 37 = .ok (.iaload, 1) := by decide +kernel
theorem dX3_fill_38 : decode cX3_fill 38 = .ok (.iload_n 3, 1) := by decide +kernel
theorem dX3_fill_39 : decode cX3_fill 39 = .ok (.invokevirtual 32, 3) := by decide +kernel
theorem dX3_fill_42 : decode cX3_fill 42 = .ok (.ireturn, 1) := by decide +kernel
theorem wl_X3_32 : Cond.methodLink RX3 32 yX7_isAlike ∈ xT := xin 813 (by decide +kernel) rfl
theorem wf_X3_9 : Cond.fieldLink RX3 9 "TermShelf$Matcher" "starts" "[I" ∈ xT := xin 339 (by decide +kernel) rfl
section XN_X3_fill
variable {p : Program} {l : Launch} {e : Env} {R : Room} {s : State} {m : MethodId} {args : Array Value} {below : List Frame} {meth : Method} {c : Code} {H H0 : Heap} {locs : List Loc} {cells slots : Nat} {Q : State → Prop} {cc : ByteArray} {nL pc : Nat} {rt : Option FieldType} {ls : Array Slot} {rest : List Value} {D : xD} {ty : xTy} {h : xH}
theorem cl_X3_32 {v0 : Nat} {v1 : Int32} {v2 : Int32} {r : Int32} (C0 : xC D RX3 cc nL rt p s m args meth c) (hR : xRep D ty h H) (hS : xS ty H0 H locs) (hF : jf_X7_isAlike ty h v0 v1 v2 = some r) (t_v0 : ty v0 = some (0, 7)) (hrm : jr_X7_isAlike.frames + 1 ≤ R.frames ∧ 8 + (5 + 11) + jr_X7_isAlike.locals ≤ R.locals) (hsz : ls.size = nL) (hW : (rest.map fun v => v.category).sum ≤ 8) (hf : cells ≤ R.cells ∧ slots ≤ R.slots) (hdg : decode cc pc = .ok (.invokevirtual 32, 3)) (kk : ∀ (H1 : Heap) (locs1 : List Loc), xRep D ty h H1 → xS ty H0 H1 locs1 → W p l e R s m args below meth c H1 locs1 cells slots Q (F0 m (pc + 3) ls (.int r :: rest))) : W p l e R s m args below meth c H locs cells slots Q (F0 m pc ls (.int v2 :: .int v1 :: .ref v0 :: rest)) := x_callV C0 (jc_X7_isAlike t_v0 hF) xm_X7_isAlike xi_X7_isAlike xe_X7_isAlike wl_X3_32 ⟨rfl, rfl, hrm⟩ (ci := 7) rfl t_v0 hR hS (As := [.int v1, .int v2]) rfl hsz rfl hW hdg hf kk
theorem gf_X3_9 {a : Nat} (C0 : xC D RX3 cc nL rt p s m args meth c) (hR : xRep D ty h H) (ht : ty a = some (0, 3)) {v : Nat} (hv : xR h a 0 = some v) (hdg : decode cc pc = .ok (.getfield 9, 3)) (kk : W p l e R s m args below meth c H locs cells slots Q (F0 m (pc + 3) ls (.ref v :: rest))) : W p l e R s m args below meth c H locs cells slots Q (F0 m pc ls (.ref a :: rest)) := x_get C0 hR (ci := 3) (k := 0) (N := 1) (T := TX3) rfl iX3 (by decide) rfl wf_X3_9 (by show va_rf (xR h a 0) = _; rw [hv]; rfl) ht hdg kk
end XN_X3_fill
set_option maxHeartbeats 4000000 in
set_option maxRecDepth 100000 in
theorem jc_X3_fill {l : Launch} {D : xD} {ty : xTy} {h : xH} {v0 : Nat} {v1 : Int32} {v2 : Nat} {v3 : Int32} {r : Int32} {h9 : xH} (t_v0 : ty v0 = some (0, 3)) (t_v2 : ty v2 = some (0, 7)) (hF : jf_X3_fill ty h v0 v1 v2 v3 = some (r, h9)) : Met l yX3_fill (xws yX3_fill cX3_fill 4 (some .boolean)) jr_X3_fill (xPc D ty h [.ref v0, .int v1, .ref v2, .int v3]) (xQ D ty (some (.int r)) h9) 0 0 (xdom ty) := by
  refine x_met (by decide) ?_
  intro p e s m below meth c C0 hR
  generalize hargs : ([.ref v0, .int v1, .ref v2, .int v3] : List Value).toArray = args at C0 ⊢
  have hx := C0.1
  have hb := C0.2.1
  have hown := C0.2.2.2.2.2.1
  have hts := C0.2.2.2.2.2.2.1
  have hS : xS ty s.heap s.heap [] := xS.rf
  have hl := lv_entry ([.ref v0, .int v1, .ref v2, .int v3]) (n := 4) (Nat.le_of_ble_eq_true rfl)
  rw [← hargs, lg_entry_eq]
  rw [hargs]
  generalize (lg_sl ([.ref v0, .int v1, .ref v2, .int v3]) ++ List.replicate (4 - (lg_sl ([.ref v0, .int v1, .ref v2, .int v3])).length) Slot.unset).toArray = ls at hl ⊢
  have hl : lv_has ls 4 [(0, .ref v0), (1, .int v1), (2, .ref v2), (3, .int v3)] := hl
  unfold jf_X3_fill at hF
  refine lv_iload_n hx hb dX3_fill_0 rfl (lv_at hl 1 rfl) ?_
  refine lv_if_lt (tgt := 10) hx hb dX3_fill_1 (by decide) (fun c1 => ?_) (fun c1 => ?_)
  · have hF := xif hF c1
    refine lv_iconst (v := 0) hx hb dX3_fill_10 (by decide) ?_
    cases hF
    exact x_zret (w := 0) C0 hR hS (by decide) dX3_fill_11
  · have hF := xel hF c1
    refine lv_iload_n hx hb dX3_fill_4 rfl (lv_at hl 1 rfl) ?_
    refine lv_bipush (v := 12) hx hb dX3_fill_5 (by decide) ?_
    refine lv_icmp_lt (tgt := 12) hx hb dX3_fill_7 (by decide) (fun c2 => ?_) (fun c2 => ?_)
    · have hF := xif hF c2
      refine lv_aload_n hx hb dX3_fill_12 rfl (lv_at hl 0 rfl) ?_
      obtain ⟨a3, e_a3, hF⟩ := xbd hF
      refine gf_X3_9 C0 hR t_v0 e_a3 dX3_fill_13 ?_
      refine lv_iload_n hx hb dX3_fill_16 rfl (lv_at hl 1 rfl) ?_
      obtain ⟨a4, e_a4, hF⟩ := xbd hF
      refine x_iald C0 hR e_a4 dX3_fill_17 ?_
      refine lv_iconst (v := (-1)) hx hb dX3_fill_18 (by decide) ?_
      refine lv_icmp_ne (tgt := 31) hx hb dX3_fill_19 (by decide) (fun c5 => ?_) (fun c5 => ?_)
      · have hF := xel hF c5
        refine lv_aload_n hx hb dX3_fill_31 rfl (lv_at hl 2 rfl) ?_
        refine lv_aload_n hx hb dX3_fill_32 rfl (lv_at hl 0 rfl) ?_
        obtain ⟨a6, e_a6, hF⟩ := xbd hF
        refine gf_X3_9 C0 hR t_v0 e_a6 dX3_fill_33 ?_
        refine lv_iload_n hx hb dX3_fill_36 rfl (lv_at hl 1 rfl) ?_
        obtain ⟨a7, e_a7, hF⟩ := xbd hF
        refine x_iald C0 hR e_a7 dX3_fill_37 ?_
        refine lv_iload_n hx hb dX3_fill_38 rfl (lv_at hl 3 rfl) ?_
        obtain ⟨a8, e_a8, hF⟩ := xbd hF
        refine cl_X3_32 C0 hR hS e_a8 t_v2 ⟨(Nat.le_of_ble_eq_true rfl), (Nat.le_of_ble_eq_true rfl)⟩ hl.1 (Nat.le_of_ble_eq_true rfl) ⟨(Nat.le_of_ble_eq_true rfl), (Nat.le_of_ble_eq_true rfl)⟩ dX3_fill_39 (fun H locs hR hS => ?_)
        obtain ⟨w9, e_w9, hF⟩ := xbd hF
        cases hF
        exact x_zret C0 hR hS e_w9 dX3_fill_42
      · have hF := xif hF c5
        refine lv_aload_n hx hb dX3_fill_22 rfl (lv_at hl 0 rfl) ?_
        obtain ⟨a10, e_a10, hF⟩ := xbd hF
        refine gf_X3_9 C0 hR t_v0 e_a10 dX3_fill_23 ?_
        refine lv_iload_n hx hb dX3_fill_26 rfl (lv_at hl 1 rfl) ?_
        refine lv_iload_n hx hb dX3_fill_27 rfl (lv_at hl 3 rfl) ?_
        obtain ⟨h11, e_h11, hF⟩ := xbd hF
        refine x_iast C0 hR hS e_h11 dX3_fill_28 (fun H locs hR hS => ?_)
        refine lv_iconst (v := 1) hx hb dX3_fill_29 (by decide) ?_
        cases hF
        exact x_zret (w := 1) C0 hR hS (by decide) dX3_fill_30
    · have hF := xel hF c2
      refine lv_iconst (v := 0) hx hb dX3_fill_10 (by decide) ?_
      cases hF
      exact x_zret (w := 0) C0 hR hS (by decide) dX3_fill_11
theorem xm_X3_fill : xMw yX3_fill cX3_fill 4 (some .boolean) 3 := ⟨xin 812 (by decide +kernel) rfl, xin 121 (by decide +kernel) rfl, by decide +kernel⟩
theorem xi_X3_fill : Cond.instanceMethod yX3_fill ∈ xT := xin 811 (by decide +kernel) rfl
theorem xe_X3_fill : Cond.selects yX3_fill.cls yX3_fill yX3_fill ∈ xT := xin 24 (by decide +kernel) rfl
theorem dX3_matches_0 : decode cX3_matches 0 = .ok (.iconst 0, 1) := by decide +kernel
theorem dX3_matches_1 : decode cX3_matches 1 = .ok (.istore 4, 2) := by decide +kernel
theorem dX3_matches_3 : decode cX3_matches 3 = .ok (.iload 4, 2) := by decide +kernel
theorem dX3_matches_5 : decode cX3_matches 5 = .ok (.bipush 12, 2) := by decide +kernel
theorem dX3_matches_7 : decode cX3_matches 7 = .ok (.if_icmp .ge 17, 3) := by decide +kernel
theorem dX3_matches_10 : decode cX3_matches 10 = .ok (.aload_n 0, 1) := by decide +kernel
theorem dX3_matches_11 : decode cX3_matches 11 = .ok (.getfield 9, 3) := by decide +kernel
theorem dX3_matches_14 : decode cX3_matches 14 = .ok (.iload 4, 2) := by decide +kernel
theorem dX3_matches_16 : decode cX3_matches 16 = .ok (.iconst (-1), 1) := by decide +kernel
theorem dX3_matches_17 : decode cX3_matches 17 = .ok (.iastore, 1) := by decide +kernel
theorem dX3_matches_18 : decode cX3_matches 18 = .ok (.iinc 4 1, 3) := by decide +kernel
theorem dX3_matches_21 : decode cX3_matches 21 = .ok (.goto (-18), 3) := by decide +kernel
theorem dX3_matches_24 : decode cX3_matches 24 = .ok (.iload_n 3, 1) := by decide +kernel
theorem dX3_matches_25 : decode cX3_matches 25 = .ok (.istore 4, 2) := by decide +kernel
theorem dX3_matches_27 : decode cX3_matches 27 = .ok (.iconst 0, 1) := by decide +kernel
theorem dX3_matches_28 : decode cX3_matches 28 = .ok (.istore 5, 2) := by decide +kernel
theorem dX3_matches_30 : decode cX3_matches 30 = .ok (.iload 5, 2) := by decide +kernel
theorem dX3_matches_32 : decode cX3_matches 32 = .ok (.aload_n 1, 1) := by decide +kernel
theorem dX3_matches_33 : decode cX3_matches 33 = .ok (.getfield 15, 3) := by decide +kernel
theorem dX3_matches_36 : decode cX3_matches 36 = .ok (.if_icmp .ge 82, 3) := by decide +kernel
theorem dX3_matches_39 : decode cX3_matches 39 = .ok (.aload_n 1, 1) := by decide +kernel
theorem dX3_matches_40 : decode cX3_matches 40 = .ok (.iload 5, 2) := by decide +kernel
theorem dX3_matches_42 : decode cX3_matches 42 = .ok (.invokevirtual 21, 3) := by decide +kernel
theorem dX3_matches_45 : decode cX3_matches 45 = .ok (.istore 6, 2) := by decide +kernel
theorem dX3_matches_47 : decode cX3_matches 47 = .ok (.iload 4, 2) := by decide +kernel
theorem dX3_matches_49 : decode cX3_matches 49 = .ok (.aload_n 2, 1) := by decide +kernel
theorem dX3_matches_50 : decode cX3_matches 50 = .ok (.getfield 15, 3) := by decide +kernel
theorem dX3_matches_53 : decode cX3_matches 53 = .ok (.if_icmp .lt 5, 3) := by decide +kernel
theorem dX3_matches_56 : decode cX3_matches 56 = .ok (.iconst 0, 1) := by decide +kernel
theorem dX3_matches_57 : decode cX3_matches 57 = .ok (.ireturn, 1) := by decide +kernel
theorem dX3_matches_58 : decode cX3_matches 58 = .ok (.iload 6, 2) := by decide +kernel
theorem dX3_matches_60 : decode cX3_matches 60 = .ok (.bipush 100, 2) := by decide +kernel
theorem dX3_matches_62 : decode cX3_matches 62 = .ok (.if_icmp .lt 31, 3) := by decide +kernel
theorem dX3_matches_65 : decode cX3_matches 65 = .ok (.aload_n 0, 1) := by decide +kernel
theorem dX3_matches_66 : decode cX3_matches 66 = .ok (.iload 6, 2) := by decide +kernel
theorem dX3_matches_68 : decode cX3_matches 68 = .ok (.bipush 100, 2) := by decide +kernel
theorem dX3_matches_70 : decode cX3_matches 70 = .ok (.isub, 1) := by decide +kernel
theorem dX3_matches_71 : decode cX3_matches 71 = .ok (.aload_n 2, 1) := by decide +kernel
theorem dX3_matches_72 : decode cX3_matches 72 = .ok (.iload 4, 2) := by decide +kernel
theorem dX3_matches_74 : decode cX3_matches 74 = .ok (.invokevirtual 25, 3) := by decide +kernel
theorem dX3_matches_77 : decode cX3_matches 77 = .ok (.ifCond .ne 5, 3) := by decide +kernel
theorem dX3_matches_80 : decode cX3_matches 80 = .ok (.iconst 0, 1) := by decide +kernel
theorem dX3_matches_81 : decode cX3_matches 81 = .ok (.ireturn, 1) := by decide +kernel
theorem dX3_matches_82 : decode cX3_matches 82 = .ok (.aload_n 2, 1) := by decide +kernel
theorem dX3_matches_83 : decode cX3_matches 83 = .ok (.iload 4, 2) := by decide +kernel
theorem dX3_matches_85 : decode cX3_matches 85 = .ok (.invokevirtual 29, 3) := by decide +kernel
theorem dX3_matches_88 : decode cX3_matches 88 = .ok (.istore 4, 2) := by decide +kernel
theorem dX3_matches_90 : decode cX3_matches 90 = .ok (.goto 22, 3) := by decide +kernel
theorem dX3_matches_93 : decode cX3_matches 93 = .ok (.iload 6, 2) := by decide +kernel
theorem dX3_matches_95 : decode cX3_matches 95 = .ok (.aload_n 2, 1) := by decide +kernel
theorem dX3_matches_96 : decode cX3_matches 96 = .ok (.iload 4, 2) := by decide +kernel
theorem dX3_matches_98 : decode cX3_matches 98 = .ok (.invokevirtual 21, 3) := by decide +kernel
theorem dX3_matches_101 : decode cX3_matches 101 = .ok (.if_icmp .ne 9, 3) := by decide +kernel
theorem dX3_matches_104 : decode cX3_matches 104 = .ok (.iinc 4 1, 3) := by decide +kernel
theorem dX3_matches_107 : decode cX3_matches 107 = .ok (.goto 5, 3) := by decide +kernel
theorem dX3_matches_110 : decode cX3_matches 110 = .ok (.iconst 0, 1) := by decide +kernel
theorem dX3_matches_111 : decode cX3_matches 111 = .ok (.ireturn, 1) := by decide +kernel
theorem dX3_matches_112 : decode cX3_matches 112 = .ok (.iinc 5 1, 3) := by decide +kernel
theorem dX3_matches_115 : decode cX3_matches 115 = .ok (.goto (-85), 3) := by decide +kernel
theorem dX3_matches_118 : decode cX3_matches 118 = .ok (.iconst 1, 1) := by decide +kernel
theorem dX3_matches_119 : decode cX3_matches 119 = .ok (.ireturn, 1) := by decide +kernel
theorem wl_X3_21 : Cond.methodLink RX3 21 yX7_codeAt ∈ xT := xin 808 (by decide +kernel) rfl
theorem wl_X3_25 : Cond.methodLink RX3 25 yX3_fill ∈ xT := xin 809 (by decide +kernel) rfl
theorem wl_X3_29 : Cond.methodLink RX3 29 yX7_behind ∈ xT := xin 818 (by decide +kernel) rfl
theorem wf_X3_15 : Cond.fieldLink RX3 15 "TermShelf$Term" "size" "I" ∈ xT := xin 159 (by decide +kernel) rfl
section XN_X3_matches
variable {p : Program} {l : Launch} {e : Env} {R : Room} {s : State} {m : MethodId} {args : Array Value} {below : List Frame} {meth : Method} {c : Code} {H H0 : Heap} {locs : List Loc} {cells slots : Nat} {Q : State → Prop} {cc : ByteArray} {nL pc : Nat} {rt : Option FieldType} {ls : Array Slot} {rest : List Value} {D : xD} {ty : xTy} {h : xH}
theorem cl_X3_21 {v0 : Nat} {v1 : Int32} {r : Int32} (C0 : xC D RX3 cc nL rt p s m args meth c) (hR : xRep D ty h H) (hS : xS ty H0 H locs) (hF : jf_X7_codeAt ty h v0 v1 = some r) (t_v0 : ty v0 = some (0, 7)) (hrm : jr_X7_codeAt.frames + 1 ≤ R.frames ∧ 8 + (2 + 11) + jr_X7_codeAt.locals ≤ R.locals) (hsz : ls.size = nL) (hW : (rest.map fun v => v.category).sum ≤ 8) (hf : cells ≤ R.cells ∧ slots ≤ R.slots) (hdg : decode cc pc = .ok (.invokevirtual 21, 3)) (kk : ∀ (H1 : Heap) (locs1 : List Loc), xRep D ty h H1 → xS ty H0 H1 locs1 → W p l e R s m args below meth c H1 locs1 cells slots Q (F0 m (pc + 3) ls (.int r :: rest))) : W p l e R s m args below meth c H locs cells slots Q (F0 m pc ls (.int v1 :: .ref v0 :: rest)) := x_callV C0 (jc_X7_codeAt t_v0 hF) xm_X7_codeAt xi_X7_codeAt xe_X7_codeAt wl_X3_21 ⟨rfl, rfl, hrm⟩ (ci := 7) rfl t_v0 hR hS (As := [.int v1]) rfl hsz rfl hW hdg hf kk
theorem cl_X3_25 {v0 : Nat} {v1 : Int32} {v2 : Nat} {v3 : Int32} {r : Int32} {h9 : xH} (C0 : xC D RX3 cc nL rt p s m args meth c) (hR : xRep D ty h H) (hS : xS ty H0 H locs) (hF : jf_X3_fill ty h v0 v1 v2 v3 = some (r, h9)) (t_v0 : ty v0 = some (0, 3)) (t_v2 : ty v2 = some (0, 7)) (hrm : jr_X3_fill.frames + 1 ≤ R.frames ∧ 8 + (4 + 11) + jr_X3_fill.locals ≤ R.locals) (hsz : ls.size = nL) (hW : (rest.map fun v => v.category).sum ≤ 8) (hf : cells ≤ R.cells ∧ slots ≤ R.slots) (hdg : decode cc pc = .ok (.invokevirtual 25, 3)) (kk : ∀ (H1 : Heap) (locs1 : List Loc), xRep D ty h9 H1 → xS ty H0 H1 locs1 → W p l e R s m args below meth c H1 locs1 cells slots Q (F0 m (pc + 3) ls (.int r :: rest))) : W p l e R s m args below meth c H locs cells slots Q (F0 m pc ls (.int v3 :: .ref v2 :: .int v1 :: .ref v0 :: rest)) := x_callV C0 (jc_X3_fill t_v0 t_v2 hF) xm_X3_fill xi_X3_fill xe_X3_fill wl_X3_25 ⟨rfl, rfl, hrm⟩ (ci := 3) rfl t_v0 hR hS (As := [.int v1, .ref v2, .int v3]) rfl hsz rfl hW hdg hf kk
theorem cl_X3_29 {v0 : Nat} {v1 : Int32} {r : Int32} (C0 : xC D RX3 cc nL rt p s m args meth c) (hR : xRep D ty h H) (hS : xS ty H0 H locs) (hF : jf_X7_behind ty h v0 v1 = some r) (t_v0 : ty v0 = some (0, 7)) (hrm : jr_X7_behind.frames + 1 ≤ R.frames ∧ 8 + (4 + 11) + jr_X7_behind.locals ≤ R.locals) (hsz : ls.size = nL) (hW : (rest.map fun v => v.category).sum ≤ 8) (hf : cells ≤ R.cells ∧ slots ≤ R.slots) (hdg : decode cc pc = .ok (.invokevirtual 29, 3)) (kk : ∀ (H1 : Heap) (locs1 : List Loc), xRep D ty h H1 → xS ty H0 H1 locs1 → W p l e R s m args below meth c H1 locs1 cells slots Q (F0 m (pc + 3) ls (.int r :: rest))) : W p l e R s m args below meth c H locs cells slots Q (F0 m pc ls (.int v1 :: .ref v0 :: rest)) := x_callV C0 (jc_X7_behind t_v0 hF) xm_X7_behind xi_X7_behind xe_X7_behind wl_X3_29 ⟨rfl, rfl, hrm⟩ (ci := 7) rfl t_v0 hR hS (As := [.int v1]) rfl hsz rfl hW hdg hf kk
theorem gf_X3_15 {a : Nat} (C0 : xC D RX3 cc nL rt p s m args meth c) (hR : xRep D ty h H) (ht : ty a = some (0, 7)) (hdg : decode cc pc = .ok (.getfield 15, 3)) (kk : W p l e R s m args below meth c H locs cells slots Q (F0 m (pc + 3) ls (.int (xI h a 2) :: rest))) : W p l e R s m args below meth c H locs cells slots Q (F0 m pc ls (.ref a :: rest)) := x_get C0 hR (ci := 7) (k := 2) (N := 3) (T := TX7) rfl iX7 (by decide) rfl wf_X3_15 rfl ht hdg kk
end XN_X3_matches
set_option maxHeartbeats 4000000 in
set_option maxRecDepth 100000 in
theorem jw_X3_matches_30 {p : Program} {l : Launch} {e : Env} {s : State} {m : MethodId} {args : Array Value} {below : List Frame} {meth : Method} {c : Code} {D : xD} {ty : xTy} (C0 : xC D RX3 cX3_matches 7 (some .boolean) p s m args meth c) {r : Int32} {h9 : xH} : ∀ n : Nat, ∀ (v0 : Nat) (v1 : Nat) (v2 : Nat) (v4 : Int32) (v5 : Int32) (h : xH), ty v0 = some (0, 3) → ty v1 = some (0, 7) → ty v2 = some (0, 7) → jf_X3_matches_30 ty n v0 v1 v2 v4 v5 h = some (r, h9) → ∀ (H : Heap) (locs : List Loc), xRep D ty h H → xS ty s.heap H locs → ∀ ls : Array Slot, lv_has ls 7 [(0, .ref v0), (1, .ref v1), (2, .ref v2), (4, .int v4), (5, .int v5)] → W p l e jr_X3_matches s m args below meth c H locs 0 0 (MQ below (xQ D ty (some (.int r)) h9) args s 0 0 (xdom ty)) (F0 m 30 ls []) := by
  have hx := C0.1
  have hb := C0.2.1
  have hown := C0.2.2.2.2.2.1
  have hts := C0.2.2.2.2.2.2.1
  intro n
  induction n with
  | zero =>
    intro v0 v1 v2 v4 v5 h t_v0 t_v1 t_v2 hF H locs hR hS ls hl
    cases hF
  | succ n ih =>
    intro v0 v1 v2 v4 v5 h t_v0 t_v1 t_v2 hF H locs hR hS ls hl
    rw [jf_X3_matches_30_s] at hF
    refine lv_iload hx hb dX3_matches_30 (lv_at hl 4 rfl) ?_
    refine lv_aload_n hx hb dX3_matches_32 rfl (lv_at hl 1 rfl) ?_
    refine gf_X3_15 C0 hR t_v1 dX3_matches_33 ?_
    refine lv_icmp_ge (tgt := 118) hx hb dX3_matches_36 (by decide) (fun c1 => ?_) (fun c1 => ?_)
    · have hF := xif hF c1
      refine lv_iconst (v := 1) hx hb dX3_matches_118 (by decide) ?_
      cases hF
      exact x_zret (w := 1) C0 hR hS (by decide) dX3_matches_119
    · have hF := xel hF c1
      refine lv_aload_n hx hb dX3_matches_39 rfl (lv_at hl 1 rfl) ?_
      refine lv_iload hx hb dX3_matches_40 (lv_at hl 4 rfl) ?_
      obtain ⟨a2, e_a2, hF⟩ := xbd hF
      refine cl_X3_21 C0 hR hS e_a2 t_v1 ⟨(Nat.le_of_ble_eq_true rfl), (Nat.le_of_ble_eq_true rfl)⟩ hl.1 (Nat.le_of_ble_eq_true rfl) ⟨(Nat.le_of_ble_eq_true rfl), (Nat.le_of_ble_eq_true rfl)⟩ dX3_matches_42 (fun H locs hR hS => ?_)
      refine lv_istore (lv' := [(6, .int a2), (0, .ref v0), (1, .ref v1), (2, .ref v2), (4, .int v4), (5, .int v5)]) hx hb dX3_matches_45 hl (by decide) rfl (fun ls hl => ?_)
      refine lv_iload hx hb dX3_matches_47 (lv_at hl 4 rfl) ?_
      refine lv_aload_n hx hb dX3_matches_49 rfl (lv_at hl 3 rfl) ?_
      refine gf_X3_15 C0 hR t_v2 dX3_matches_50 ?_
      refine lv_icmp_lt (tgt := 58) hx hb dX3_matches_53 (by decide) (fun c3 => ?_) (fun c3 => ?_)
      · have hF := xif hF c3
        refine lv_iload hx hb dX3_matches_58 (lv_at hl 0 rfl) ?_
        refine lv_bipush (v := 100) hx hb dX3_matches_60 (by decide) ?_
        refine lv_icmp_lt (tgt := 93) hx hb dX3_matches_62 (by decide) (fun c4 => ?_) (fun c4 => ?_)
        · have hF := xif hF c4
          refine lv_iload hx hb dX3_matches_93 (lv_at hl 0 rfl) ?_
          refine lv_aload_n hx hb dX3_matches_95 rfl (lv_at hl 3 rfl) ?_
          refine lv_iload hx hb dX3_matches_96 (lv_at hl 4 rfl) ?_
          obtain ⟨a5, e_a5, hF⟩ := xbd hF
          refine cl_X3_21 C0 hR hS e_a5 t_v2 ⟨(Nat.le_of_ble_eq_true rfl), (Nat.le_of_ble_eq_true rfl)⟩ hl.1 (Nat.le_of_ble_eq_true rfl) ⟨(Nat.le_of_ble_eq_true rfl), (Nat.le_of_ble_eq_true rfl)⟩ dX3_matches_98 (fun H locs hR hS => ?_)
          refine lv_icmp_ne (tgt := 110) hx hb dX3_matches_101 (by decide) (fun c6 => ?_) (fun c6 => ?_)
          · have hF := xel hF c6
            refine lv_iconst (v := 0) hx hb dX3_matches_110 (by decide) ?_
            cases hF
            exact x_zret (w := 0) C0 hR hS (by decide) dX3_matches_111
          · have hF := xif hF c6
            refine lv_iinc (v := v4 + 1) (lv' := [(4, .int (v4 + 1)), (6, .int a2), (0, .ref v0), (1, .ref v1), (2, .ref v2), (5, .int v5)]) hx hb dX3_matches_104 hl (k := 4) rfl rfl (by decide) rfl (fun ls hl => ?_)
            refine lv_goto (tgt := 112) hx hb dX3_matches_107 (by decide) ?_
            refine lv_iinc (v := v5 + 1) (lv' := [(5, .int (v5 + 1)), (4, .int (v4 + 1)), (6, .int a2), (0, .ref v0), (1, .ref v1), (2, .ref v2)]) hx hb dX3_matches_112 hl (k := 5) rfl rfl (by decide) rfl (fun ls hl => ?_)
            refine lv_goto (tgt := 30) hx hb dX3_matches_115 (by decide) ?_
            exact ih _ _ _ _ _ _ t_v0 t_v1 t_v2 hF _ _ hR hS _ (lv_sub hl [3, 4, 5, 1, 0] rfl)
        · have hF := xel hF c4
          refine lv_aload_n hx hb dX3_matches_65 rfl (lv_at hl 1 rfl) ?_
          refine lv_iload hx hb dX3_matches_66 (lv_at hl 0 rfl) ?_
          refine lv_bipush (v := 100) hx hb dX3_matches_68 (by decide) ?_
          refine lv_isub hx hb dX3_matches_70 ?_
          refine lv_aload_n hx hb dX3_matches_71 rfl (lv_at hl 3 rfl) ?_
          refine lv_iload hx hb dX3_matches_72 (lv_at hl 4 rfl) ?_
          obtain ⟨a8, h7, e_h7, hF⟩ := xbd2 hF
          refine cl_X3_25 C0 hR hS e_h7 t_v0 t_v2 ⟨(Nat.le_of_ble_eq_true rfl), (Nat.le_of_ble_eq_true rfl)⟩ hl.1 (Nat.le_of_ble_eq_true rfl) ⟨(Nat.le_of_ble_eq_true rfl), (Nat.le_of_ble_eq_true rfl)⟩ dX3_matches_74 (fun H locs hR hS => ?_)
          refine lv_if_ne (tgt := 82) hx hb dX3_matches_77 (by decide) (fun c9 => ?_) (fun c9 => ?_)
          · have hF := xel hF c9
            refine lv_aload_n hx hb dX3_matches_82 rfl (lv_at hl 3 rfl) ?_
            refine lv_iload hx hb dX3_matches_83 (lv_at hl 4 rfl) ?_
            obtain ⟨a10, e_a10, hF⟩ := xbd hF
            refine cl_X3_29 C0 hR hS e_a10 t_v2 ⟨(Nat.le_of_ble_eq_true rfl), (Nat.le_of_ble_eq_true rfl)⟩ hl.1 (Nat.le_of_ble_eq_true rfl) ⟨(Nat.le_of_ble_eq_true rfl), (Nat.le_of_ble_eq_true rfl)⟩ dX3_matches_85 (fun H locs hR hS => ?_)
            refine lv_istore (lv' := [(4, .int a10), (6, .int a2), (0, .ref v0), (1, .ref v1), (2, .ref v2), (5, .int v5)]) hx hb dX3_matches_88 hl (by decide) rfl (fun ls hl => ?_)
            refine lv_goto (tgt := 112) hx hb dX3_matches_90 (by decide) ?_
            refine lv_iinc (v := v5 + 1) (lv' := [(5, .int (v5 + 1)), (4, .int a10), (6, .int a2), (0, .ref v0), (1, .ref v1), (2, .ref v2)]) hx hb dX3_matches_112 hl (k := 5) rfl rfl (by decide) rfl (fun ls hl => ?_)
            refine lv_goto (tgt := 30) hx hb dX3_matches_115 (by decide) ?_
            exact ih _ _ _ _ _ _ t_v0 t_v1 t_v2 hF _ _ hR hS _ (lv_sub hl [3, 4, 5, 1, 0] rfl)
          · have hF := xif hF c9
            refine lv_iconst (v := 0) hx hb dX3_matches_80 (by decide) ?_
            cases hF
            exact x_zret (w := 0) C0 hR hS (by decide) dX3_matches_81
      · have hF := xel hF c3
        refine lv_iconst (v := 0) hx hb dX3_matches_56 (by decide) ?_
        cases hF
        exact x_zret (w := 0) C0 hR hS (by decide) dX3_matches_57
set_option maxHeartbeats 4000000 in
set_option maxRecDepth 100000 in
theorem jw_X3_matches_3 {p : Program} {l : Launch} {e : Env} {s : State} {m : MethodId} {args : Array Value} {below : List Frame} {meth : Method} {c : Code} {D : xD} {ty : xTy} (C0 : xC D RX3 cX3_matches 7 (some .boolean) p s m args meth c) {r : Int32} {h9 : xH} : ∀ n : Nat, ∀ (v0 : Nat) (v1 : Nat) (v2 : Nat) (v3 : Int32) (v4 : Int32) (h : xH), ty v0 = some (0, 3) → ty v1 = some (0, 7) → ty v2 = some (0, 7) → jf_X3_matches_3 ty n v0 v1 v2 v3 v4 h = some (r, h9) → ∀ (H : Heap) (locs : List Loc), xRep D ty h H → xS ty s.heap H locs → ∀ ls : Array Slot, lv_has ls 7 [(0, .ref v0), (1, .ref v1), (2, .ref v2), (3, .int v3), (4, .int v4)] → W p l e jr_X3_matches s m args below meth c H locs 0 0 (MQ below (xQ D ty (some (.int r)) h9) args s 0 0 (xdom ty)) (F0 m 3 ls []) := by
  have hx := C0.1
  have hb := C0.2.1
  have hown := C0.2.2.2.2.2.1
  have hts := C0.2.2.2.2.2.2.1
  intro n
  induction n with
  | zero =>
    intro v0 v1 v2 v3 v4 h t_v0 t_v1 t_v2 hF H locs hR hS ls hl
    cases hF
  | succ n ih =>
    intro v0 v1 v2 v3 v4 h t_v0 t_v1 t_v2 hF H locs hR hS ls hl
    rw [jf_X3_matches_3_s] at hF
    refine lv_iload hx hb dX3_matches_3 (lv_at hl 4 rfl) ?_
    refine lv_bipush (v := 12) hx hb dX3_matches_5 (by decide) ?_
    refine lv_icmp_ge (tgt := 24) hx hb dX3_matches_7 (by decide) (fun c11 => ?_) (fun c11 => ?_)
    · have hF := xif hF c11
      refine lv_iload_n hx hb dX3_matches_24 rfl (lv_at hl 3 rfl) ?_
      refine lv_istore (lv' := [(4, .int v3), (0, .ref v0), (1, .ref v1), (2, .ref v2), (3, .int v3)]) hx hb dX3_matches_25 hl (by decide) rfl (fun ls hl => ?_)
      refine lv_iconst (v := 0) hx hb dX3_matches_27 (by decide) ?_
      refine lv_istore (lv' := [(5, .int 0), (4, .int v3), (0, .ref v0), (1, .ref v1), (2, .ref v2), (3, .int v3)]) hx hb dX3_matches_28 hl (by decide) rfl (fun ls hl => ?_)
      obtain ⟨_, hF⟩ := xlim_sp hF
      exact jw_X3_matches_30 C0 _ _ _ _ _ _ _ t_v0 t_v1 t_v2 hF _ _ hR hS _ (lv_sub hl [2, 3, 4, 1, 0] rfl)
    · have hF := xel hF c11
      refine lv_aload_n hx hb dX3_matches_10 rfl (lv_at hl 0 rfl) ?_
      obtain ⟨a12, e_a12, hF⟩ := xbd hF
      refine gf_X3_9 C0 hR t_v0 e_a12 dX3_matches_11 ?_
      refine lv_iload hx hb dX3_matches_14 (lv_at hl 4 rfl) ?_
      refine lv_iconst (v := (-1)) hx hb dX3_matches_16 (by decide) ?_
      obtain ⟨h13, e_h13, hF⟩ := xbd hF
      refine x_iast C0 hR hS e_h13 dX3_matches_17 (fun H locs hR hS => ?_)
      refine lv_iinc (v := v4 + 1) (lv' := [(4, .int (v4 + 1)), (0, .ref v0), (1, .ref v1), (2, .ref v2), (3, .int v3)]) hx hb dX3_matches_18 hl (k := 4) rfl rfl (by decide) rfl (fun ls hl => ?_)
      refine lv_goto (tgt := 3) hx hb dX3_matches_21 (by decide) ?_
      exact ih _ _ _ _ _ _ t_v0 t_v1 t_v2 hF _ _ hR hS _ (lv_sub hl [1, 2, 3, 4, 0] rfl)
set_option maxHeartbeats 4000000 in
set_option maxRecDepth 100000 in
theorem jc_X3_matches {l : Launch} {D : xD} {ty : xTy} {h : xH} {v0 : Nat} {v1 : Nat} {v2 : Nat} {v3 : Int32} {r : Int32} {h9 : xH} (t_v0 : ty v0 = some (0, 3)) (t_v1 : ty v1 = some (0, 7)) (t_v2 : ty v2 = some (0, 7)) (hF : jf_X3_matches ty h v0 v1 v2 v3 = some (r, h9)) : Met l yX3_matches (xws yX3_matches cX3_matches 7 (some .boolean)) jr_X3_matches (xPc D ty h [.ref v0, .ref v1, .ref v2, .int v3]) (xQ D ty (some (.int r)) h9) 0 0 (xdom ty) := by
  refine x_met (by decide) ?_
  intro p e s m below meth c C0 hR
  generalize hargs : ([.ref v0, .ref v1, .ref v2, .int v3] : List Value).toArray = args at C0 ⊢
  have hx := C0.1
  have hb := C0.2.1
  have hown := C0.2.2.2.2.2.1
  have hts := C0.2.2.2.2.2.2.1
  have hS : xS ty s.heap s.heap [] := xS.rf
  have hl := lv_entry ([.ref v0, .ref v1, .ref v2, .int v3]) (n := 7) (Nat.le_of_ble_eq_true rfl)
  rw [← hargs, lg_entry_eq]
  rw [hargs]
  generalize (lg_sl ([.ref v0, .ref v1, .ref v2, .int v3]) ++ List.replicate (7 - (lg_sl ([.ref v0, .ref v1, .ref v2, .int v3])).length) Slot.unset).toArray = ls at hl ⊢
  have hl : lv_has ls 7 [(0, .ref v0), (1, .ref v1), (2, .ref v2), (3, .int v3)] := hl
  unfold jf_X3_matches at hF
  refine lv_iconst (v := 0) hx hb dX3_matches_0 (by decide) ?_
  refine lv_istore (lv' := [(4, .int 0), (0, .ref v0), (1, .ref v1), (2, .ref v2), (3, .int v3)]) hx hb dX3_matches_1 hl (by decide) rfl (fun ls hl => ?_)
  obtain ⟨_, hF⟩ := xlim_sp hF
  exact jw_X3_matches_3 C0 _ _ _ _ _ _ _ t_v0 t_v1 t_v2 hF _ _ hR hS _ (lv_sub hl [1, 2, 3, 4, 0] rfl)
theorem xm_X3_matches : xMw yX3_matches cX3_matches 7 (some .boolean) 3 := ⟨xin 807 (by decide +kernel) rfl, xin 121 (by decide +kernel) rfl, by decide +kernel⟩
theorem xi_X3_matches : Cond.instanceMethod yX3_matches ∈ xT := xin 805 (by decide +kernel) rfl
theorem xe_X3_matches : Cond.selects yX3_matches.cls yX3_matches yX3_matches ∈ xT := xin 806 (by decide +kernel) rfl
theorem dX3_startOf_0 : decode cX3_startOf 0 = .ok (.iload_n 1, 1) := by decide +kernel
theorem dX3_startOf_1 : decode cX3_startOf 1 = .ok (.ifCond .lt 18, 3) := by decide +kernel
theorem dX3_startOf_4 : decode cX3_startOf 4 = .ok (.iload_n 1, 1) := by decide +kernel
theorem dX3_startOf_5 : decode cX3_startOf 5 = .ok (.bipush 12, 2) := by decide +kernel
theorem dX3_startOf_7 : decode cX3_startOf 7 = .ok (.if_icmp .ge 12, 3) := by decide +kernel
theorem dX3_startOf_10 : decode cX3_startOf 10 = .ok (.aload_n 0, 1) := by decide +kernel
theorem dX3_startOf_11 : decode cX3_startOf 11 = .ok (.getfield 9, 3) := by decide +kernel
theorem dX3_startOf_14 : decode cX3_startOf 14 = .ok (.iload_n 1, 1) := by decide +kernel
theorem dX3_startOf_15 : decode cX3_startOf 15 = .ok (.iaload, 1) := by decide +kernel
theorem dX3_startOf_16 : decode cX3_startOf 16 = .ok (.goto 4, 3) := by decide +kernel
theorem dX3_startOf_19 : decode cX3_startOf 19 = .ok (.iconst (-1), 1) := by decide +kernel
theorem dX3_startOf_20 : decode cX3_startOf 20 = .ok (.ireturn, 1) := by decide +kernel
set_option maxHeartbeats 4000000 in
set_option maxRecDepth 100000 in
theorem jc_X3_startOf {l : Launch} {D : xD} {ty : xTy} {h : xH} {v0 : Nat} {v1 : Int32} {r : Int32} (t_v0 : ty v0 = some (0, 3)) (hF : jf_X3_startOf ty h v0 v1 = some r) : Met l yX3_startOf (xws yX3_startOf cX3_startOf 2 (some .int)) jr_X3_startOf (xPc D ty h [.ref v0, .int v1]) (xQ D ty (some (.int r)) h) 0 0 (xdom ty) := by
  refine x_met (by decide) ?_
  intro p e s m below meth c C0 hR
  generalize hargs : ([.ref v0, .int v1] : List Value).toArray = args at C0 ⊢
  have hx := C0.1
  have hb := C0.2.1
  have hown := C0.2.2.2.2.2.1
  have hts := C0.2.2.2.2.2.2.1
  have hS : xS ty s.heap s.heap [] := xS.rf
  have hl := lv_entry ([.ref v0, .int v1]) (n := 2) (Nat.le_of_ble_eq_true rfl)
  rw [← hargs, lg_entry_eq]
  rw [hargs]
  generalize (lg_sl ([.ref v0, .int v1]) ++ List.replicate (2 - (lg_sl ([.ref v0, .int v1])).length) Slot.unset).toArray = ls at hl ⊢
  have hl : lv_has ls 2 [(0, .ref v0), (1, .int v1)] := hl
  unfold jf_X3_startOf at hF
  refine lv_iload_n hx hb dX3_startOf_0 rfl (lv_at hl 1 rfl) ?_
  refine lv_if_lt (tgt := 19) hx hb dX3_startOf_1 (by decide) (fun c1 => ?_) (fun c1 => ?_)
  · have hF := xif hF c1
    refine lv_iconst (v := (-1)) hx hb dX3_startOf_19 (by decide) ?_
    cases hF
    exact x_iret C0 hR hS dX3_startOf_20
  · have hF := xel hF c1
    refine lv_iload_n hx hb dX3_startOf_4 rfl (lv_at hl 1 rfl) ?_
    refine lv_bipush (v := 12) hx hb dX3_startOf_5 (by decide) ?_
    refine lv_icmp_ge (tgt := 19) hx hb dX3_startOf_7 (by decide) (fun c2 => ?_) (fun c2 => ?_)
    · have hF := xif hF c2
      refine lv_iconst (v := (-1)) hx hb dX3_startOf_19 (by decide) ?_
      cases hF
      exact x_iret C0 hR hS dX3_startOf_20
    · have hF := xel hF c2
      refine lv_aload_n hx hb dX3_startOf_10 rfl (lv_at hl 0 rfl) ?_
      obtain ⟨a3, e_a3, hF⟩ := xbd hF
      refine gf_X3_9 C0 hR t_v0 e_a3 dX3_startOf_11 ?_
      refine lv_iload_n hx hb dX3_startOf_14 rfl (lv_at hl 1 rfl) ?_
      obtain ⟨a4, e_a4, hF⟩ := xbd hF
      refine x_iald C0 hR e_a4 dX3_startOf_15 ?_
      refine lv_goto (tgt := 20) hx hb dX3_startOf_16 (by decide) ?_
      cases hF
      exact x_iret C0 hR hS dX3_startOf_20
theorem xm_X3_startOf : xMw yX3_startOf cX3_startOf 2 (some .int) 1 := ⟨xin 910 (by decide +kernel) rfl, xin 121 (by decide +kernel) rfl, by decide +kernel⟩
theorem xi_X3_startOf : Cond.instanceMethod yX3_startOf ∈ xT := xin 908 (by decide +kernel) rfl
theorem xe_X3_startOf : Cond.selects yX3_startOf.cls yX3_startOf yX3_startOf ∈ xT := xin 909 (by decide +kernel) rfl
theorem dX8_isLetter_0 : decode cX8_isLetter 0 = .ok (.iload_n 0, 1) := by decide +kernel
theorem dX8_isLetter_1 : decode cX8_isLetter 1 = .ok (.bipush 97, 2) := by decide +kernel
theorem dX8_isLetter_3 : decode cX8_isLetter 3 = .ok (.if_icmp .lt 13, 3) := by decide +kernel
theorem dX8_isLetter_6 : decode cX8_isLetter 6 = .ok (.iload_n 0, 1) := by decide +kernel
theorem dX8_isLetter_7 : decode cX8_isLetter 7 = .ok (.bipush 122, 2) := by decide +kernel
theorem dX8_isLetter_9 : decode cX8_isLetter 9 = .ok (.if_icmp .gt 7, 3) := by decide +kernel
theorem dX8_isLetter_12 : decode cX8_isLetter 12 = .ok (.iconst 1, 1) := by decide +kernel
theorem dX8_isLetter_13 : decode cX8_isLetter 13 = .ok (.goto 4, 3) := by decide +kernel
theorem dX8_isLetter_16 : decode cX8_isLetter 16 = .ok (.iconst 0, 1) := by decide +kernel
theorem dX8_isLetter_17 : decode cX8_isLetter 17 = .ok (.ireturn, 1) := by decide +kernel
set_option maxHeartbeats 4000000 in
set_option maxRecDepth 100000 in
theorem jc_X8_isLetter {l : Launch} {D : xD} {ty : xTy} {h : xH} {v0 : Int32} {r : Int32} (hF : jf_X8_isLetter v0 = some r) : Met l yX8_isLetter (xws yX8_isLetter cX8_isLetter 1 (some .boolean)) jr_X8_isLetter (xPc D ty h [.int v0]) (xQ D ty (some (.int r)) h) 0 0 (xdom ty) := by
  refine x_met (by decide) ?_
  intro p e s m below meth c C0 hR
  generalize hargs : ([.int v0] : List Value).toArray = args at C0 ⊢
  have hx := C0.1
  have hb := C0.2.1
  have hown := C0.2.2.2.2.2.1
  have hts := C0.2.2.2.2.2.2.1
  have hS : xS ty s.heap s.heap [] := xS.rf
  have hl := lv_entry ([.int v0]) (n := 1) (Nat.le_of_ble_eq_true rfl)
  rw [← hargs, lg_entry_eq]
  rw [hargs]
  generalize (lg_sl ([.int v0]) ++ List.replicate (1 - (lg_sl ([.int v0])).length) Slot.unset).toArray = ls at hl ⊢
  have hl : lv_has ls 1 [(0, .int v0)] := hl
  unfold jf_X8_isLetter at hF
  refine lv_iload_n hx hb dX8_isLetter_0 rfl (lv_at hl 0 rfl) ?_
  refine lv_bipush (v := 97) hx hb dX8_isLetter_1 (by decide) ?_
  refine lv_icmp_lt (tgt := 16) hx hb dX8_isLetter_3 (by decide) (fun c1 => ?_) (fun c1 => ?_)
  · have hF := xif hF c1
    refine lv_iconst (v := 0) hx hb dX8_isLetter_16 (by decide) ?_
    cases hF
    exact x_zret (w := 0) C0 hR hS (by decide) dX8_isLetter_17
  · have hF := xel hF c1
    refine lv_iload_n hx hb dX8_isLetter_6 rfl (lv_at hl 0 rfl) ?_
    refine lv_bipush (v := 122) hx hb dX8_isLetter_7 (by decide) ?_
    refine lv_icmp_gt (tgt := 16) hx hb dX8_isLetter_9 (by decide) (fun c2 => ?_) (fun c2 => ?_)
    · have hF := xif hF c2
      refine lv_iconst (v := 0) hx hb dX8_isLetter_16 (by decide) ?_
      cases hF
      exact x_zret (w := 0) C0 hR hS (by decide) dX8_isLetter_17
    · have hF := xel hF c2
      refine lv_iconst (v := 1) hx hb dX8_isLetter_12 (by decide) ?_
      refine lv_goto (tgt := 17) hx hb dX8_isLetter_13 (by decide) ?_
      cases hF
      exact x_zret (w := 1) C0 hR hS (by decide) dX8_isLetter_17
theorem xm_X8_isLetter : xMw yX8_isLetter cX8_isLetter 1 (some .boolean) 1 := ⟨xin 540 (by decide +kernel) rfl, xin 118 (by decide +kernel) rfl, by decide +kernel⟩
theorem xs_X8_isLetter : Cond.static yX8_isLetter ∈ xT := xin 539 (by decide +kernel) rfl
theorem dX8_append_0 : decode cX8_append 0 = .ok (.aload_n 0, 1) := by decide +kernel
theorem dX8_append_1 : decode cX8_append 1 = .ok (.getfield 21, 3) := by decide +kernel
theorem dX8_append_4 : decode cX8_append 4 = .ok (.ifCond .lt 53, 3) := by decide +kernel
theorem dX8_append_7 : decode cX8_append 7 = .ok (.aload_n 0, 1) := by decide +kernel
theorem dX8_append_8 : decode cX8_append 8 = .ok (.getfield 21, 3) := by decide +kernel
theorem dX8_append_11 : decode cX8_append 11 = .ok (.sipush 700, 3) := by decide +kernel
theorem dX8_append_14 : decode cX8_append 14 = .ok (.if_icmp .gt 43, 3) := by decide +kernel
theorem dX8_append_17 : decode cX8_append 17 = .ok (.aload_n 0, 1) := by decide +kernel
theorem dX8_append_18 : decode cX8_append 18 = .ok (.getfield 9, 3) := by decide +kernel
theorem dX8_append_21 : decode cX8_append 21 = .ok (.aload_n 0, 1) := by decide +kernel
theorem dX8_append_22 : decode cX8_append 22 = .ok (.getfield 21, 3) := by decide +kernel
theorem dX8_append_25 : decode cX8_append 25 = .ok (.iload_n 1, 1) := by decide +kernel
theorem dX8_append_26 : decode cX8_append 26 = .ok (.iastore, 1) := by decide +kernel
theorem dX8_append_27 : decode cX8_append 27 = .ok (.aload_n 0, 1) := by decide +kernel
theorem dX8_append_28 : decode cX8_append 28 = .ok (.getfield 15, 3) := by decide +kernel
theorem dX8_append_31 : decode cX8_append 31 = .ok (.aload_n 0, 1) := by decide +kernel
theorem dX8_append_32 : decode cX8_append 32 = .ok (.getfield 21, 3) := by decide +kernel
theorem dX8_append_35 : decode cX8_append 35 = .ok (.iload_n 2, 1) := by decide +kernel
theorem dX8_append_36 : decode cX8_append 36 = .ok (.iastore, 1) := by decide +kernel
theorem dX8_append_37 : decode cX8_append 37 = .ok (.aload_n 0, 1) := by decide +kernel
theorem dX8_append_38 : decode cX8_append 38 = .ok (.getfield 18, 3) := by decide +kernel
theorem dX8_append_41 : decode cX8_append 41 = .ok (.aload_n 0, 1) := by decide +kernel
theorem dX8_append_42 : decode cX8_append 42 = .ok (.getfield 21, 3) := by decide +kernel
theorem dX8_append_45 : decode cX8_append 45 = .ok (.iload_n 3, 1) := by decide +kernel
theorem dX8_append_46 : decode cX8_append 46 = .ok (.iastore, 1) := by decide +kernel
theorem dX8_append_47 : decode cX8_append 47 = .ok (.aload_n 0, 1) := by decide +kernel
theorem dX8_append_48 : decode cX8_append 48 = .ok (.dup, 1) := by decide +kernel
theorem dX8_append_49 : decode cX8_append 49 = .ok (.getfield 21, 3) := by decide +kernel
theorem dX8_append_52 : decode cX8_append 52 = .ok (.iconst 1, 1) := by decide +kernel
theorem dX8_append_53 : decode cX8_append 53 = .ok (.iadd, 1) := by decide +kernel
theorem dX8_append_54 : decode cX8_append 54 = .ok (.putfield 21, 3) := by decide +kernel
theorem dX8_append_57 : decode cX8_append 57 = .ok (.return_, 1) := by decide +kernel
theorem wf_X8_15 : Cond.fieldLink RX8 15 "TermShelf$Tokens" "starts" "[I" ∈ xT := xin 231 (by decide +kernel) rfl
theorem wf_X8_18 : Cond.fieldLink RX8 18 "TermShelf$Tokens" "values" "[I" ∈ xT := xin 232 (by decide +kernel) rfl
theorem wf_X8_21 : Cond.fieldLink RX8 21 "TermShelf$Tokens" "size" "I" ∈ xT := xin 233 (by decide +kernel) rfl
theorem wf_X8_9 : Cond.fieldLink RX8 9 "TermShelf$Tokens" "kinds" "[I" ∈ xT := xin 230 (by decide +kernel) rfl
section XN_X8_append
variable {p : Program} {l : Launch} {e : Env} {R : Room} {s : State} {m : MethodId} {args : Array Value} {below : List Frame} {meth : Method} {c : Code} {H H0 : Heap} {locs : List Loc} {cells slots : Nat} {Q : State → Prop} {cc : ByteArray} {nL pc : Nat} {rt : Option FieldType} {ls : Array Slot} {rest : List Value} {D : xD} {ty : xTy} {h : xH}
theorem gf_X8_15 {a : Nat} (C0 : xC D RX8 cc nL rt p s m args meth c) (hR : xRep D ty h H) (ht : ty a = some (0, 8)) {v : Nat} (hv : xR h a 1 = some v) (hdg : decode cc pc = .ok (.getfield 15, 3)) (kk : W p l e R s m args below meth c H locs cells slots Q (F0 m (pc + 3) ls (.ref v :: rest))) : W p l e R s m args below meth c H locs cells slots Q (F0 m pc ls (.ref a :: rest)) := x_get C0 hR (ci := 8) (k := 1) (N := 8) (T := TX8) rfl iX8 (by decide) rfl wf_X8_15 (by show va_rf (xR h a 1) = _; rw [hv]; rfl) ht hdg kk
theorem gf_X8_18 {a : Nat} (C0 : xC D RX8 cc nL rt p s m args meth c) (hR : xRep D ty h H) (ht : ty a = some (0, 8)) {v : Nat} (hv : xR h a 2 = some v) (hdg : decode cc pc = .ok (.getfield 18, 3)) (kk : W p l e R s m args below meth c H locs cells slots Q (F0 m (pc + 3) ls (.ref v :: rest))) : W p l e R s m args below meth c H locs cells slots Q (F0 m pc ls (.ref a :: rest)) := x_get C0 hR (ci := 8) (k := 2) (N := 8) (T := TX8) rfl iX8 (by decide) rfl wf_X8_18 (by show va_rf (xR h a 2) = _; rw [hv]; rfl) ht hdg kk
theorem gf_X8_21 {a : Nat} (C0 : xC D RX8 cc nL rt p s m args meth c) (hR : xRep D ty h H) (ht : ty a = some (0, 8)) (hdg : decode cc pc = .ok (.getfield 21, 3)) (kk : W p l e R s m args below meth c H locs cells slots Q (F0 m (pc + 3) ls (.int (xI h a 3) :: rest))) : W p l e R s m args below meth c H locs cells slots Q (F0 m pc ls (.ref a :: rest)) := x_get C0 hR (ci := 8) (k := 3) (N := 8) (T := TX8) rfl iX8 (by decide) rfl wf_X8_21 rfl ht hdg kk
theorem gf_X8_9 {a : Nat} (C0 : xC D RX8 cc nL rt p s m args meth c) (hR : xRep D ty h H) (ht : ty a = some (0, 8)) {v : Nat} (hv : xR h a 0 = some v) (hdg : decode cc pc = .ok (.getfield 9, 3)) (kk : W p l e R s m args below meth c H locs cells slots Q (F0 m (pc + 3) ls (.ref v :: rest))) : W p l e R s m args below meth c H locs cells slots Q (F0 m pc ls (.ref a :: rest)) := x_get C0 hR (ci := 8) (k := 0) (N := 8) (T := TX8) rfl iX8 (by decide) rfl wf_X8_9 (by show va_rf (xR h a 0) = _; rw [hv]; rfl) ht hdg kk
theorem pf_X8_21 {a : Nat} {v : Int32} (C0 : xC D RX8 cc nL rt p s m args meth c) (hR : xRep D ty h H) (hS : xS ty H0 H locs) (ht : ty a = some (0, 8)) (hdg : decode cc pc = .ok (.putfield 21, 3)) (kk : ∀ (H1 : Heap) (locs1 : List Loc), xRep D ty (xsI h a 3 v) H1 → xS ty H0 H1 locs1 → W p l e R s m args below meth c H1 locs1 cells slots Q (F0 m (pc + 3) ls rest)) : W p l e R s m args below meth c H locs cells slots Q (F0 m pc ls (.int v :: .ref a :: rest)) := x_puti C0 hR hS (ci := 8) (k := 3) (N := 8) (T := TX8) rfl iX8 tyX8_ok nmX8 (by decide) rfl rfl wf_X8_21 (Or.inl rfl) rfl rfl ht hdg kk
end XN_X8_append
set_option maxHeartbeats 4000000 in
set_option maxRecDepth 100000 in
theorem jc_X8_append {l : Launch} {D : xD} {ty : xTy} {h : xH} {v0 : Nat} {v1 : Int32} {v2 : Int32} {v3 : Int32} {h9 : xH} (t_v0 : ty v0 = some (0, 8)) (hF : jf_X8_append ty h v0 v1 v2 v3 = some h9) : Met l yX8_append (xws yX8_append cX8_append 4 none) jr_X8_append (xPc D ty h [.ref v0, .int v1, .int v2, .int v3]) (xQ D ty none h9) 0 0 (xdom ty) := by
  refine x_met (by decide) ?_
  intro p e s m below meth c C0 hR
  generalize hargs : ([.ref v0, .int v1, .int v2, .int v3] : List Value).toArray = args at C0 ⊢
  have hx := C0.1
  have hb := C0.2.1
  have hown := C0.2.2.2.2.2.1
  have hts := C0.2.2.2.2.2.2.1
  have hS : xS ty s.heap s.heap [] := xS.rf
  have hl := lv_entry ([.ref v0, .int v1, .int v2, .int v3]) (n := 4) (Nat.le_of_ble_eq_true rfl)
  rw [← hargs, lg_entry_eq]
  rw [hargs]
  generalize (lg_sl ([.ref v0, .int v1, .int v2, .int v3]) ++ List.replicate (4 - (lg_sl ([.ref v0, .int v1, .int v2, .int v3])).length) Slot.unset).toArray = ls at hl ⊢
  have hl : lv_has ls 4 [(0, .ref v0), (1, .int v1), (2, .int v2), (3, .int v3)] := hl
  unfold jf_X8_append at hF
  refine lv_aload_n hx hb dX8_append_0 rfl (lv_at hl 0 rfl) ?_
  refine gf_X8_21 C0 hR t_v0 dX8_append_1 ?_
  refine lv_if_lt (tgt := 57) hx hb dX8_append_4 (by decide) (fun c1 => ?_) (fun c1 => ?_)
  · have hF := xif hF c1
    cases hF
    exact x_vret C0 hR hS dX8_append_57
  · have hF := xel hF c1
    refine lv_aload_n hx hb dX8_append_7 rfl (lv_at hl 0 rfl) ?_
    refine gf_X8_21 C0 hR t_v0 dX8_append_8 ?_
    refine lv_sipush (v := 700) hx hb dX8_append_11 (by decide) ?_
    refine lv_icmp_gt (tgt := 57) hx hb dX8_append_14 (by decide) (fun c2 => ?_) (fun c2 => ?_)
    · have hF := xif hF c2
      cases hF
      exact x_vret C0 hR hS dX8_append_57
    · have hF := xel hF c2
      refine lv_aload_n hx hb dX8_append_17 rfl (lv_at hl 0 rfl) ?_
      obtain ⟨a3, e_a3, hF⟩ := xbd hF
      refine gf_X8_9 C0 hR t_v0 e_a3 dX8_append_18 ?_
      refine lv_aload_n hx hb dX8_append_21 rfl (lv_at hl 0 rfl) ?_
      refine gf_X8_21 C0 hR t_v0 dX8_append_22 ?_
      refine lv_iload_n hx hb dX8_append_25 rfl (lv_at hl 1 rfl) ?_
      obtain ⟨h4, e_h4, hF⟩ := xbd hF
      refine x_iast C0 hR hS e_h4 dX8_append_26 (fun H locs hR hS => ?_)
      refine lv_aload_n hx hb dX8_append_27 rfl (lv_at hl 0 rfl) ?_
      obtain ⟨a5, e_a5, hF⟩ := xbd hF
      refine gf_X8_15 C0 hR t_v0 e_a5 dX8_append_28 ?_
      refine lv_aload_n hx hb dX8_append_31 rfl (lv_at hl 0 rfl) ?_
      refine gf_X8_21 C0 hR t_v0 dX8_append_32 ?_
      refine lv_iload_n hx hb dX8_append_35 rfl (lv_at hl 2 rfl) ?_
      obtain ⟨h6, e_h6, hF⟩ := xbd hF
      refine x_iast C0 hR hS e_h6 dX8_append_36 (fun H locs hR hS => ?_)
      refine lv_aload_n hx hb dX8_append_37 rfl (lv_at hl 0 rfl) ?_
      obtain ⟨a7, e_a7, hF⟩ := xbd hF
      refine gf_X8_18 C0 hR t_v0 e_a7 dX8_append_38 ?_
      refine lv_aload_n hx hb dX8_append_41 rfl (lv_at hl 0 rfl) ?_
      refine gf_X8_21 C0 hR t_v0 dX8_append_42 ?_
      refine lv_iload_n hx hb dX8_append_45 rfl (lv_at hl 3 rfl) ?_
      obtain ⟨h8, e_h8, hF⟩ := xbd hF
      refine x_iast C0 hR hS e_h8 dX8_append_46 (fun H locs hR hS => ?_)
      refine lv_aload_n hx hb dX8_append_47 rfl (lv_at hl 0 rfl) ?_
      refine lv_dup hx hb dX8_append_48 rfl ?_
      refine gf_X8_21 C0 hR t_v0 dX8_append_49 ?_
      refine lv_iconst (v := 1) hx hb dX8_append_52 (by decide) ?_
      refine lv_iadd hx hb dX8_append_53 ?_
      obtain ⟨h9, e_h9, hF⟩ := xbd hF
      refine pf_X8_21 C0 hR hS t_v0 dX8_append_54 (fun H locs hR hS => ?_)
      rw [Option.some.inj e_h9] at hR
      cases hF
      exact x_vret C0 hR hS dX8_append_57
theorem xm_X8_append : xMw yX8_append cX8_append 4 none 3 := ⟨xin 551 (by decide +kernel) rfl, xin 118 (by decide +kernel) rfl, by decide +kernel⟩
theorem xi_X8_append : Cond.instanceMethod yX8_append ∈ xT := xin 550 (by decide +kernel) rfl
theorem xe_X8_append : Cond.selects yX8_append.cls yX8_append yX8_append ∈ xT := xin 4 (by decide +kernel) rfl

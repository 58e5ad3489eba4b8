theorem dX9_ruleAt_0 : decode cX9_ruleAt 0 = .ok (.iload_n 1, 1) := by decide +kernel
theorem dX9_ruleAt_1 : decode cX9_ruleAt 1 = .ok (.ifCond .lt 20, 3) := by decide +kernel
theorem dX9_ruleAt_4 : decode cX9_ruleAt 4 = .ok (.iload_n 1, 1) := by decide +kernel
theorem dX9_ruleAt_5 : decode cX9_ruleAt 5 = .ok (.aload_n 0, 1) := by decide +kernel
theorem dX9_ruleAt_6 : decode cX9_ruleAt 6 = .ok (.getfield 31, 3) := by decide +kernel
theorem dX9_ruleAt_9 : decode cX9_ruleAt 9 = .ok (.if_icmp .ge 12, 3) := by decide +kernel
theorem dX9_ruleAt_12 : decode cX9_ruleAt 12 = .ok (.aload_n 0, 1) := by decide +kernel
theorem dX9_ruleAt_13 : decode cX9_ruleAt 13 = .ok (.getfield 9, 3) := by decide +kernel
theorem dX9_ruleAt_16 : decode cX9_ruleAt 16 = .ok (.iload_n 1, 1) := by decide +kernel
theorem dX9_ruleAt_17 : decode cX9_ruleAt 17 = .ok (.iaload, 1) := by decide +kernel
theorem dX9_ruleAt_18 : decode cX9_ruleAt 18 = .ok (.goto 4, 3) := by decide +kernel
theorem dX9_ruleAt_21 : decode cX9_ruleAt 21 = .ok (.iconst (-1), 1) := by decide +kernel
theorem dX9_ruleAt_22 : decode cX9_ruleAt 22 = .ok (.ireturn, 1) := by decide +kernel
set_option maxHeartbeats 4000000 in
set_option maxRecDepth 100000 in
theorem jc_X9_ruleAt {l : Launch} {D : xD} {ty : xTy} {h : xH} {v0 : Nat} {v1 : Int32} {r : Int32} (t_v0 : ty v0 = some (0, 9)) (hF : jf_X9_ruleAt ty h v0 v1 = some r) : Met l yX9_ruleAt (xws yX9_ruleAt cX9_ruleAt 2 (some .int)) jr_X9_ruleAt (xPc D ty h [.ref v0, .int v1]) (xQ D ty (some (.int r)) h) 0 0 (xdom ty) := by
  refine x_met (by decide) ?_
  intro p e s m below meth c C0 hR
  generalize hargs : ([.ref v0, .int v1] : List Value).toArray = args at C0 ⊢
  have hx := C0.1
  have hb := C0.2.1
  have hown := C0.2.2.2.2.2.1
  have hts := C0.2.2.2.2.2.2.1
  have hS : xS ty s.heap s.heap [] := xS.rf
  have hl := lv_entry ([.ref v0, .int v1]) (n := 2) (Nat.le_of_ble_eq_true rfl)
  rw [← hargs, lg_entry_eq]
  rw [hargs]
  generalize (lg_sl ([.ref v0, .int v1]) ++ List.replicate (2 - (lg_sl ([.ref v0, .int v1])).length) Slot.unset).toArray = ls at hl ⊢
  have hl : lv_has ls 2 [(0, .ref v0), (1, .int v1)] := hl
  unfold jf_X9_ruleAt at hF
  refine lv_iload_n hx hb dX9_ruleAt_0 rfl (lv_at hl 1 rfl) ?_
  refine lv_if_lt (tgt := 21) hx hb dX9_ruleAt_1 (by decide) (fun c1 => ?_) (fun c1 => ?_)
  · have hF := xif hF c1
    refine lv_iconst (v := (-1)) hx hb dX9_ruleAt_21 (by decide) ?_
    cases hF
    exact x_iret C0 hR hS dX9_ruleAt_22
  · have hF := xel hF c1
    refine lv_iload_n hx hb dX9_ruleAt_4 rfl (lv_at hl 1 rfl) ?_
    refine lv_aload_n hx hb dX9_ruleAt_5 rfl (lv_at hl 0 rfl) ?_
    refine gf_X9_31 C0 hR t_v0 dX9_ruleAt_6 ?_
    refine lv_icmp_ge (tgt := 21) hx hb dX9_ruleAt_9 (by decide) (fun c2 => ?_) (fun c2 => ?_)
    · have hF := xif hF c2
      refine lv_iconst (v := (-1)) hx hb dX9_ruleAt_21 (by decide) ?_
      cases hF
      exact x_iret C0 hR hS dX9_ruleAt_22
    · have hF := xel hF c2
      refine lv_aload_n hx hb dX9_ruleAt_12 rfl (lv_at hl 0 rfl) ?_
      obtain ⟨a3, e_a3, hF⟩ := xbd hF
      refine gf_X9_9 C0 hR t_v0 e_a3 dX9_ruleAt_13 ?_
      refine lv_iload_n hx hb dX9_ruleAt_16 rfl (lv_at hl 1 rfl) ?_
      obtain ⟨a4, e_a4, hF⟩ := xbd hF
      refine x_iald C0 hR e_a4 dX9_ruleAt_17 ?_
      refine lv_goto (tgt := 22) hx hb dX9_ruleAt_18 (by decide) ?_
      cases hF
      exact x_iret C0 hR hS dX9_ruleAt_22
theorem xm_X9_ruleAt : xMw yX9_ruleAt cX9_ruleAt 2 (some .int) 1 := ⟨xin 873 (by decide +kernel) rfl, xin 120 (by decide +kernel) rfl, by decide +kernel⟩
theorem xi_X9_ruleAt : Cond.instanceMethod yX9_ruleAt ∈ xT := xin 871 (by decide +kernel) rfl
theorem xe_X9_ruleAt : Cond.selects yX9_ruleAt.cls yX9_ruleAt yX9_ruleAt ∈ xT := xin 872 (by decide +kernel) rfl
theorem dX9_bringsNode_0 : decode cX9_bringsNode 0 = .ok (.iload_n 1, 1) := by decide +kernel
theorem dX9_bringsNode_1 : decode cX9_bringsNode 1 = .ok (.ifCond .lt 37, 3) := by decide +kernel
theorem dX9_bringsNode_4 : decode cX9_bringsNode 4 = .ok (.iload_n 1, 1) := by decide +kernel
theorem dX9_bringsNode_5 : decode cX9_bringsNode 5 = .ok (.aload_n 0, 1) := by decide +kernel
theorem dX9_bringsNode_6 : decode cX9_bringsNode 6 = .ok (.getfield 31, 3) := by decide +kernel
theorem dX9_bringsNode_9 : decode cX9_bringsNode 9 = .ok (.if_icmp .ge 29, 3) := by decide +kernel
theorem dX9_bringsNode_12 : decode cX9_bringsNode 12 = .ok (.iload_n 2, 1) := by decide +kernel
theorem dX9_bringsNode_13 : decode cX9_bringsNode 13 = .ok (.aload_n 0, 1) := by decide +kernel
theorem dX9_bringsNode_14 : decode cX9_bringsNode 14 = .ok (.getfield 21, 3) := by decide +kernel
theorem dX9_bringsNode_17 : decode cX9_bringsNode 17 = .ok (.iload_n 1, 1) := by decide +kernel
theorem dX9_bringsNode_18 : decode cX9_bringsNode 18 = .ok (.iaload, 1) := by decide +kernel
theorem dX9_bringsNode_19 : decode cX9_bringsNode 19 = .ok (.if_icmp .le 19, 3) := by decide +kernel
theorem dX9_bringsNode_22 : decode cX9_bringsNode 22 = .ok (.iload_n 2, 1) := by decide +kernel
theorem dX9_bringsNode_23 : decode cX9_bringsNode 23 = .ok (.aload_n 0, 1) := by decide +kernel
theorem dX9_bringsNode_24 : decode cX9_bringsNode 24 = .ok (.iload_n 1, 1) := by decide +kernel
theorem dX9_bringsNode_25 : decode cX9_bringsNode 25 = .ok (.invokevirtual 60, 3) := by decide +kernel
theorem dX9_bringsNode_28 : decode cX9_bringsNode 28 = .ok (.getfield 71, 3) := by decide +kernel
theorem dX9_bringsNode_31 : decode cX9_bringsNode 31 = .ok (.if_icmp .gt 7, 3) := by decide +kernel
theorem dX9_bringsNode_34 : decode cX9_bringsNode 34 = .ok (.iconst 1, 1) := by decide +kernel
theorem dX9_bringsNode_35 : decode cX9_bringsNode 35 = .ok (.goto 4, 3) := by decide +kernel
theorem dX9_bringsNode_38 : decode cX9_bringsNode 38 = .ok (.iconst 0, 1) := by decide +kernel
theorem dX9_bringsNode_39 : decode cX9_bringsNode 39 = .ok (.ireturn, 1) := by decide +kernel
theorem wf_X9_71 : Cond.fieldLink RX9 71 "TermShelf$Term" "size" "I" ∈ xT := xin 164 (by decide +kernel) rfl
section XN_X9_bringsNode
variable {p : Program} {l : Launch} {e : Env} {R : Room} {s : State} {m : MethodId} {args : Array Value} {below : List Frame} {meth : Method} {c : Code} {H H0 : Heap} {locs : List Loc} {cells slots : Nat} {Q : State → Prop} {cc : ByteArray} {nL pc : Nat} {rt : Option FieldType} {ls : Array Slot} {rest : List Value} {D : xD} {ty : xTy} {h : xH}
theorem gf_X9_71 {a : Nat} (C0 : xC D RX9 cc nL rt p s m args meth c) (hR : xRep D ty h H) (ht : ty a = some (0, 7)) (hdg : decode cc pc = .ok (.getfield 71, 3)) (kk : W p l e R s m args below meth c H locs cells slots Q (F0 m (pc + 3) ls (.int (xI h a 2) :: rest))) : W p l e R s m args below meth c H locs cells slots Q (F0 m pc ls (.ref a :: rest)) := x_get C0 hR (ci := 7) (k := 2) (N := 3) (T := TX7) rfl iX7 (by decide) rfl wf_X9_71 rfl ht hdg kk
end XN_X9_bringsNode
set_option maxHeartbeats 4000000 in
set_option maxRecDepth 100000 in
theorem jc_X9_bringsNode {l : Launch} {D : xD} {ty : xTy} {h : xH} {v0 : Nat} {v1 : Int32} {v2 : Int32} {r : Int32} (t_v0 : ty v0 = some (0, 9)) (hF : jf_X9_bringsNode ty h v0 v1 v2 = some r) : Met l yX9_bringsNode (xws yX9_bringsNode cX9_bringsNode 3 (some .boolean)) jr_X9_bringsNode (xPc D ty h [.ref v0, .int v1, .int v2]) (xQ D ty (some (.int r)) h) 0 0 (xdom ty) := by
  refine x_met (by decide) ?_
  intro p e s m below meth c C0 hR
  generalize hargs : ([.ref v0, .int v1, .int v2] : List Value).toArray = args at C0 ⊢
  have hx := C0.1
  have hb := C0.2.1
  have hown := C0.2.2.2.2.2.1
  have hts := C0.2.2.2.2.2.2.1
  have hS : xS ty s.heap s.heap [] := xS.rf
  have hl := lv_entry ([.ref v0, .int v1, .int v2]) (n := 3) (Nat.le_of_ble_eq_true rfl)
  rw [← hargs, lg_entry_eq]
  rw [hargs]
  generalize (lg_sl ([.ref v0, .int v1, .int v2]) ++ List.replicate (3 - (lg_sl ([.ref v0, .int v1, .int v2])).length) Slot.unset).toArray = ls at hl ⊢
  have hl : lv_has ls 3 [(0, .ref v0), (1, .int v1), (2, .int v2)] := hl
  unfold jf_X9_bringsNode at hF
  refine lv_iload_n hx hb dX9_bringsNode_0 rfl (lv_at hl 1 rfl) ?_
  refine lv_if_lt (tgt := 38) hx hb dX9_bringsNode_1 (by decide) (fun c1 => ?_) (fun c1 => ?_)
  · have hF := xif hF c1
    refine lv_iconst (v := 0) hx hb dX9_bringsNode_38 (by decide) ?_
    cases hF
    exact x_zret (w := 0) C0 hR hS (by decide) dX9_bringsNode_39
  · have hF := xel hF c1
    refine lv_iload_n hx hb dX9_bringsNode_4 rfl (lv_at hl 1 rfl) ?_
    refine lv_aload_n hx hb dX9_bringsNode_5 rfl (lv_at hl 0 rfl) ?_
    refine gf_X9_31 C0 hR t_v0 dX9_bringsNode_6 ?_
    refine lv_icmp_ge (tgt := 38) hx hb dX9_bringsNode_9 (by decide) (fun c2 => ?_) (fun c2 => ?_)
    · have hF := xif hF c2
      refine lv_iconst (v := 0) hx hb dX9_bringsNode_38 (by decide) ?_
      cases hF
      exact x_zret (w := 0) C0 hR hS (by decide) dX9_bringsNode_39
    · have hF := xel hF c2
      refine lv_iload_n hx hb dX9_bringsNode_12 rfl (lv_at hl 2 rfl) ?_
      refine lv_aload_n hx hb dX9_bringsNode_13 rfl (lv_at hl 0 rfl) ?_
      obtain ⟨a3, e_a3, hF⟩ := xbd hF
      refine gf_X9_21 C0 hR t_v0 e_a3 dX9_bringsNode_14 ?_
      refine lv_iload_n hx hb dX9_bringsNode_17 rfl (lv_at hl 1 rfl) ?_
      obtain ⟨a4, e_a4, hF⟩ := xbd hF
      refine x_iald C0 hR e_a4 dX9_bringsNode_18 ?_
      refine lv_icmp_le (tgt := 38) hx hb dX9_bringsNode_19 (by decide) (fun c5 => ?_) (fun c5 => ?_)
      · have hF := xif hF c5
        refine lv_iconst (v := 0) hx hb dX9_bringsNode_38 (by decide) ?_
        cases hF
        exact x_zret (w := 0) C0 hR hS (by decide) dX9_bringsNode_39
      · have hF := xel hF c5
        refine lv_iload_n hx hb dX9_bringsNode_22 rfl (lv_at hl 2 rfl) ?_
        refine lv_aload_n hx hb dX9_bringsNode_23 rfl (lv_at hl 0 rfl) ?_
        refine lv_iload_n hx hb dX9_bringsNode_24 rfl (lv_at hl 1 rfl) ?_
        obtain ⟨a6, e_a6, hF⟩ := xbd hF
        obtain ⟨u7, e_u7, hF⟩ := xbd hF
        have t_a6 := xck_sp e_u7
        refine cl_X9_60 C0 hR hS e_a6 t_v0 ⟨(Nat.le_of_ble_eq_true rfl), (Nat.le_of_ble_eq_true rfl)⟩ hl.1 (Nat.le_of_ble_eq_true rfl) ⟨(Nat.le_of_ble_eq_true rfl), (Nat.le_of_ble_eq_true rfl)⟩ dX9_bringsNode_25 (fun H locs hR hS => ?_)
        refine gf_X9_71 C0 hR t_a6 dX9_bringsNode_28 ?_
        refine lv_icmp_gt (tgt := 38) hx hb dX9_bringsNode_31 (by decide) (fun c8 => ?_) (fun c8 => ?_)
        · have hF := xif hF c8
          refine lv_iconst (v := 0) hx hb dX9_bringsNode_38 (by decide) ?_
          cases hF
          exact x_zret (w := 0) C0 hR hS (by decide) dX9_bringsNode_39
        · have hF := xel hF c8
          refine lv_iconst (v := 1) hx hb dX9_bringsNode_34 (by decide) ?_
          refine lv_goto (tgt := 39) hx hb dX9_bringsNode_35 (by decide) ?_
          cases hF
          exact x_zret (w := 1) C0 hR hS (by decide) dX9_bringsNode_39
theorem xm_X9_bringsNode : xMw yX9_bringsNode cX9_bringsNode 3 (some .boolean) 2 := ⟨xin 780 (by decide +kernel) rfl, xin 120 (by decide +kernel) rfl, by decide +kernel⟩
theorem xi_X9_bringsNode : Cond.instanceMethod yX9_bringsNode ∈ xT := xin 779 (by decide +kernel) rfl
theorem xe_X9_bringsNode : Cond.selects yX9_bringsNode.cls yX9_bringsNode yX9_bringsNode ∈ xT := xin 21 (by decide +kernel) rfl
theorem dX9_nodesOfLength_0 : decode cX9_nodesOfLength 0 = .ok (.iconst 0, 1) := by decide +kernel
theorem dX9_nodesOfLength_1 : decode cX9_nodesOfLength 1 = .ok (.istore_n 2, 1) := by decide +kernel
theorem dX9_nodesOfLength_2 : decode cX9_nodesOfLength 2 = .ok (.iconst 0, 1) := by decide +kernel
theorem dX9_nodesOfLength_3 : decode cX9_nodesOfLength 3 = .ok (.istore_n 3, 1) := by decide +kernel
theorem dX9_nodesOfLength_4 : decode cX9_nodesOfLength 4 = .ok (.iload_n 3, 1) := by decide +kernel
theorem dX9_nodesOfLength_5 : decode cX9_nodesOfLength 5 = .ok (.aload_n 0, 1) := by decide +kernel
theorem dX9_nodesOfLength_6 : decode cX9_nodesOfLength 6 = .ok (.getfield 31, 3) := by decide +kernel
theorem dX9_nodesOfLength_9 : decode cX9_nodesOfLength 9 = .ok (.if_icmp .ge 21, 3) := by decide +kernel
theorem dX9_nodesOfLength_12 : decode cX9_nodesOfLength 12 = .ok (.aload_n 0, 1) := by decide +kernel
theorem dX9_nodesOfLength_13 : decode cX9_nodesOfLength 13 = .ok (.iload_n 3, 1) := by decide +kernel
theorem dX9_nodesOfLength_14 : decode cX9_nodesOfLength 14 = .ok (.iload_n 1, 1) := by decide +kernel
theorem dX9_nodesOfLength_15 : decode cX9_nodesOfLength 15 = .ok (.invokevirtual 72, 3) := by decide +kernel
theorem dX9_nodesOfLength_18 : decode cX9_nodesOfLength 18 = .ok (.ifCond .eq 6, 3) := by decide +kernel
theorem dX9_nodesOfLength_21 : decode cX9_nodesOfLength 21 = .ok (.iinc 2 1, 3) := by decide +kernel
theorem dX9_nodesOfLength_24 : decode cX9_nodesOfLength 24 = .ok (.iinc 3 1, 3) := by decide +kernel
theorem dX9_nodesOfLength_27 : decode cX9_nodesOfLength 27 = .ok (.goto (-23), 3) := by decide +kernel
theorem dX9_nodesOfLength_30 : decode cX9_nodesOfLength 30 = .ok (.iload_n 2, 1) := by decide +kernel
theorem dX9_nodesOfLength_31 : decode cX9_nodesOfLength 31 = .ok (.ireturn, 1) := by decide +kernel
theorem wl_X9_72 : Cond.methodLink RX9 72 yX9_bringsNode ∈ xT := xin 777 (by decide +kernel) rfl
section XN_X9_nodesOfLength
variable {p : Program} {l : Launch} {e : Env} {R : Room} {s : State} {m : MethodId} {args : Array Value} {below : List Frame} {meth : Method} {c : Code} {H H0 : Heap} {locs : List Loc} {cells slots : Nat} {Q : State → Prop} {cc : ByteArray} {nL pc : Nat} {rt : Option FieldType} {ls : Array Slot} {rest : List Value} {D : xD} {ty : xTy} {h : xH}
theorem cl_X9_72 {v0 : Nat} {v1 : Int32} {v2 : Int32} {r : Int32} (C0 : xC D RX9 cc nL rt p s m args meth c) (hR : xRep D ty h H) (hS : xS ty H0 H locs) (hF : jf_X9_bringsNode ty h v0 v1 v2 = some r) (t_v0 : ty v0 = some (0, 9)) (hrm : jr_X9_bringsNode.frames + 1 ≤ R.frames ∧ 8 + (3 + 11) + jr_X9_bringsNode.locals ≤ R.locals) (hsz : ls.size = nL) (hW : (rest.map fun v => v.category).sum ≤ 8) (hf : cells ≤ R.cells ∧ slots ≤ R.slots) (hdg : decode cc pc = .ok (.invokevirtual 72, 3)) (kk : ∀ (H1 : Heap) (locs1 : List Loc), xRep D ty h H1 → xS ty H0 H1 locs1 → W p l e R s m args below meth c H1 locs1 cells slots Q (F0 m (pc + 3) ls (.int r :: rest))) : W p l e R s m args below meth c H locs cells slots Q (F0 m pc ls (.int v2 :: .int v1 :: .ref v0 :: rest)) := x_callV C0 (jc_X9_bringsNode t_v0 hF) xm_X9_bringsNode xi_X9_bringsNode xe_X9_bringsNode wl_X9_72 ⟨rfl, rfl, hrm⟩ (ci := 9) rfl t_v0 hR hS (As := [.int v1, .int v2]) rfl hsz rfl hW hdg hf kk
end XN_X9_nodesOfLength
set_option maxHeartbeats 4000000 in
set_option maxRecDepth 100000 in
theorem jw_X9_nodesOfLength_4 {p : Program} {l : Launch} {e : Env} {s : State} {m : MethodId} {args : Array Value} {below : List Frame} {meth : Method} {c : Code} {D : xD} {ty : xTy} {h : xH} (C0 : xC D RX9 cX9_nodesOfLength 4 (some .int) p s m args meth c) {r : Int32} : ∀ n : Nat, ∀ (v0 : Nat) (v1 : Int32) (v2 : Int32) (v3 : Int32), ty v0 = some (0, 9) → jf_X9_nodesOfLength_4 ty h n v0 v1 v2 v3 = some r → ∀ (H : Heap) (locs : List Loc), xRep D ty h H → xS ty s.heap H locs → ∀ ls : Array Slot, lv_has ls 4 [(0, .ref v0), (1, .int v1), (2, .int v2), (3, .int v3)] → W p l e jr_X9_nodesOfLength s m args below meth c H locs 0 0 (MQ below (xQ D ty (some (.int r)) h) args s 0 0 (xdom ty)) (F0 m 4 ls []) := by
  have hx := C0.1
  have hb := C0.2.1
  have hown := C0.2.2.2.2.2.1
  have hts := C0.2.2.2.2.2.2.1
  intro n
  induction n with
  | zero =>
    intro v0 v1 v2 v3 t_v0 hF H locs hR hS ls hl
    cases hF
  | succ n ih =>
    intro v0 v1 v2 v3 t_v0 hF H locs hR hS ls hl
    rw [jf_X9_nodesOfLength_4_s] at hF
    refine lv_iload_n hx hb dX9_nodesOfLength_4 rfl (lv_at hl 3 rfl) ?_
    refine lv_aload_n hx hb dX9_nodesOfLength_5 rfl (lv_at hl 0 rfl) ?_
    refine gf_X9_31 C0 hR t_v0 dX9_nodesOfLength_6 ?_
    refine lv_icmp_ge (tgt := 30) hx hb dX9_nodesOfLength_9 (by decide) (fun c1 => ?_) (fun c1 => ?_)
    · have hF := xif hF c1
      refine lv_iload_n hx hb dX9_nodesOfLength_30 rfl (lv_at hl 2 rfl) ?_
      cases hF
      exact x_iret C0 hR hS dX9_nodesOfLength_31
    · have hF := xel hF c1
      refine lv_aload_n hx hb dX9_nodesOfLength_12 rfl (lv_at hl 0 rfl) ?_
      refine lv_iload_n hx hb dX9_nodesOfLength_13 rfl (lv_at hl 3 rfl) ?_
      refine lv_iload_n hx hb dX9_nodesOfLength_14 rfl (lv_at hl 1 rfl) ?_
      obtain ⟨a2, e_a2, hF⟩ := xbd hF
      refine cl_X9_72 C0 hR hS e_a2 t_v0 ⟨(Nat.le_of_ble_eq_true rfl), (Nat.le_of_ble_eq_true rfl)⟩ hl.1 (Nat.le_of_ble_eq_true rfl) ⟨(Nat.le_of_ble_eq_true rfl), (Nat.le_of_ble_eq_true rfl)⟩ dX9_nodesOfLength_15 (fun H locs hR hS => ?_)
      refine lv_if_eq (tgt := 24) hx hb dX9_nodesOfLength_18 (by decide) (fun c3 => ?_) (fun c3 => ?_)
      · have hF := xif hF c3
        refine lv_iinc (v := v3 + 1) (lv' := [(3, .int (v3 + 1)), (0, .ref v0), (1, .int v1), (2, .int v2)]) hx hb dX9_nodesOfLength_24 hl (k := 3) rfl rfl (by decide) rfl (fun ls hl => ?_)
        refine lv_goto (tgt := 4) hx hb dX9_nodesOfLength_27 (by decide) ?_
        exact ih _ _ _ _ t_v0 hF _ _ hR hS _ (lv_sub hl [1, 2, 3, 0] rfl)
      · have hF := xel hF c3
        refine lv_iinc (v := v2 + 1) (lv' := [(2, .int (v2 + 1)), (0, .ref v0), (1, .int v1), (3, .int v3)]) hx hb dX9_nodesOfLength_21 hl (k := 2) rfl rfl (by decide) rfl (fun ls hl => ?_)
        refine lv_iinc (v := v3 + 1) (lv' := [(3, .int (v3 + 1)), (2, .int (v2 + 1)), (0, .ref v0), (1, .int v1)]) hx hb dX9_nodesOfLength_24 hl (k := 3) rfl rfl (by decide) rfl (fun ls hl => ?_)
        refine lv_goto (tgt := 4) hx hb dX9_nodesOfLength_27 (by decide) ?_
        exact ih _ _ _ _ t_v0 hF _ _ hR hS _ (lv_sub hl [2, 3, 1, 0] rfl)
set_option maxHeartbeats 4000000 in
set_option maxRecDepth 100000 in
theorem jc_X9_nodesOfLength {l : Launch} {D : xD} {ty : xTy} {h : xH} {v0 : Nat} {v1 : Int32} {r : Int32} (t_v0 : ty v0 = some (0, 9)) (hF : jf_X9_nodesOfLength ty h v0 v1 = some r) : Met l yX9_nodesOfLength (xws yX9_nodesOfLength cX9_nodesOfLength 4 (some .int)) jr_X9_nodesOfLength (xPc D ty h [.ref v0, .int v1]) (xQ D ty (some (.int r)) h) 0 0 (xdom ty) := by
  refine x_met (by decide) ?_
  intro p e s m below meth c C0 hR
  generalize hargs : ([.ref v0, .int v1] : List Value).toArray = args at C0 ⊢
  have hx := C0.1
  have hb := C0.2.1
  have hown := C0.2.2.2.2.2.1
  have hts := C0.2.2.2.2.2.2.1
  have hS : xS ty s.heap s.heap [] := xS.rf
  have hl := lv_entry ([.ref v0, .int v1]) (n := 4) (Nat.le_of_ble_eq_true rfl)
  rw [← hargs, lg_entry_eq]
  rw [hargs]
  generalize (lg_sl ([.ref v0, .int v1]) ++ List.replicate (4 - (lg_sl ([.ref v0, .int v1])).length) Slot.unset).toArray = ls at hl ⊢
  have hl : lv_has ls 4 [(0, .ref v0), (1, .int v1)] := hl
  unfold jf_X9_nodesOfLength at hF
  refine lv_iconst (v := 0) hx hb dX9_nodesOfLength_0 (by decide) ?_
  refine lv_istore_n (lv' := [(2, .int 0), (0, .ref v0), (1, .int v1)]) hx hb dX9_nodesOfLength_1 rfl hl (by decide) rfl (fun ls hl => ?_)
  refine lv_iconst (v := 0) hx hb dX9_nodesOfLength_2 (by decide) ?_
  refine lv_istore_n (lv' := [(3, .int 0), (2, .int 0), (0, .ref v0), (1, .int v1)]) hx hb dX9_nodesOfLength_3 rfl hl (by decide) rfl (fun ls hl => ?_)
  obtain ⟨_, hF⟩ := xlim_sp hF
  exact jw_X9_nodesOfLength_4 C0 _ _ _ _ _ t_v0 hF _ _ hR hS _ (lv_sub hl [2, 3, 1, 0] rfl)
theorem xm_X9_nodesOfLength : xMw yX9_nodesOfLength cX9_nodesOfLength 4 (some .int) 1 := ⟨xin 776 (by decide +kernel) rfl, xin 120 (by decide +kernel) rfl, by decide +kernel⟩
theorem xi_X9_nodesOfLength : Cond.instanceMethod yX9_nodesOfLength ∈ xT := xin 774 (by decide +kernel) rfl
theorem xe_X9_nodesOfLength : Cond.selects yX9_nodesOfLength.cls yX9_nodesOfLength yX9_nodesOfLength ∈ xT := xin 775 (by decide +kernel) rfl
theorem dX9_nodes_0 : decode cX9_nodes 0 = .ok (.iconst 0, 1) := by decide +kernel
theorem dX9_nodes_1 : decode cX9_nodes 1 = .ok (.istore_n 1, 1) := by decide +kernel
theorem dX9_nodes_2 : decode cX9_nodes 2 = .ok (.iconst 1, 1) := by decide +kernel
theorem dX9_nodes_3 : decode cX9_nodes 3 = .ok (.istore_n 2, 1) := by decide +kernel
theorem dX9_nodes_4 : decode cX9_nodes 4 = .ok (.iload_n 2, 1) := by decide +kernel
theorem dX9_nodes_5 : decode cX9_nodes 5 = .ok (.bipush 12, 2) := by decide +kernel
theorem dX9_nodes_7 : decode cX9_nodes 7 = .ok (.if_icmp .gt 17, 3) := by decide +kernel
theorem dX9_nodes_10 : decode cX9_nodes 10 = .ok (.iload_n 1, 1) := by decide +kernel
theorem dX9_nodes_11 : decode cX9_nodes 11 = .ok (.aload_n 0, 1) := by decide +kernel
theorem dX9_nodes_12 : decode cX9_nodes 12 = .ok (.iload_n 2, 1) := by decide +kernel
theorem dX9_nodes_13 : decode cX9_nodes 13 = .ok (.invokevirtual 76, 3) := by decide +kernel
theorem dX9_nodes_16 : decode cX9_nodes 16 = .ok (.iadd, 1) := by decide +kernel
theorem dX9_nodes_17 : decode cX9_nodes 17 = .ok (.istore_n 1, 1) := by decide +kernel
theorem dX9_nodes_18 : decode cX9_nodes 18 = .ok (.iinc 2 1, 3) := by decide +kernel
theorem dX9_nodes_21 : decode cX9_nodes 21 = .ok (.goto (-17), 3) := by decide +kernel
theorem dX9_nodes_24 : decode cX9_nodes 24 = .ok (.iload_n 1, 1) := by decide +kernel
theorem dX9_nodes_25 : decode cX9_nodes 25 = .ok (.ireturn, 1) := by decide +kernel
theorem wl_X9_76 : Cond.methodLink RX9 76 yX9_nodesOfLength ∈ xT := xin 773 (by decide +kernel) rfl
section XN_X9_nodes
variable {p : Program} {l : Launch} {e : Env} {R : Room} {s : State} {m : MethodId} {args : Array Value} {below : List Frame} {meth : Method} {c : Code} {H H0 : Heap} {locs : List Loc} {cells slots : Nat} {Q : State → Prop} {cc : ByteArray} {nL pc : Nat} {rt : Option FieldType} {ls : Array Slot} {rest : List Value} {D : xD} {ty : xTy} {h : xH}
theorem cl_X9_76 {v0 : Nat} {v1 : Int32} {r : Int32} (C0 : xC D RX9 cc nL rt p s m args meth c) (hR : xRep D ty h H) (hS : xS ty H0 H locs) (hF : jf_X9_nodesOfLength ty h v0 v1 = some r) (t_v0 : ty v0 = some (0, 9)) (hrm : jr_X9_nodesOfLength.frames + 1 ≤ R.frames ∧ 8 + (4 + 11) + jr_X9_nodesOfLength.locals ≤ R.locals) (hsz : ls.size = nL) (hW : (rest.map fun v => v.category).sum ≤ 8) (hf : cells ≤ R.cells ∧ slots ≤ R.slots) (hdg : decode cc pc = .ok (.invokevirtual 76, 3)) (kk : ∀ (H1 : Heap) (locs1 : List Loc), xRep D ty h H1 → xS ty H0 H1 locs1 → W p l e R s m args below meth c H1 locs1 cells slots Q (F0 m (pc + 3) ls (.int r :: rest))) : W p l e R s m args below meth c H locs cells slots Q (F0 m pc ls (.int v1 :: .ref v0 :: rest)) := x_callV C0 (jc_X9_nodesOfLength t_v0 hF) xm_X9_nodesOfLength xi_X9_nodesOfLength xe_X9_nodesOfLength wl_X9_76 ⟨rfl, rfl, hrm⟩ (ci := 9) rfl t_v0 hR hS (As := [.int v1]) rfl hsz rfl hW hdg hf kk
end XN_X9_nodes
set_option maxHeartbeats 4000000 in
set_option maxRecDepth 100000 in
theorem jw_X9_nodes_4 {p : Program} {l : Launch} {e : Env} {s : State} {m : MethodId} {args : Array Value} {below : List Frame} {meth : Method} {c : Code} {D : xD} {ty : xTy} {h : xH} (C0 : xC D RX9 cX9_nodes 3 (some .int) p s m args meth c) {r : Int32} : ∀ n : Nat, ∀ (v0 : Nat) (v1 : Int32) (v2 : Int32), ty v0 = some (0, 9) → jf_X9_nodes_4 ty h n v0 v1 v2 = some r → ∀ (H : Heap) (locs : List Loc), xRep D ty h H → xS ty s.heap H locs → ∀ ls : Array Slot, lv_has ls 3 [(0, .ref v0), (1, .int v1), (2, .int v2)] → W p l e jr_X9_nodes s m args below meth c H locs 0 0 (MQ below (xQ D ty (some (.int r)) h) args s 0 0 (xdom ty)) (F0 m 4 ls []) := by
  have hx := C0.1
  have hb := C0.2.1
  have hown := C0.2.2.2.2.2.1
  have hts := C0.2.2.2.2.2.2.1
  intro n
  induction n with
  | zero =>
    intro v0 v1 v2 t_v0 hF H locs hR hS ls hl
    cases hF
  | succ n ih =>
    intro v0 v1 v2 t_v0 hF H locs hR hS ls hl
    rw [jf_X9_nodes_4_s] at hF
    refine lv_iload_n hx hb dX9_nodes_4 rfl (lv_at hl 2 rfl) ?_
    refine lv_bipush (v := 12) hx hb dX9_nodes_5 (by decide) ?_
    refine lv_icmp_gt (tgt := 24) hx hb dX9_nodes_7 (by decide) (fun c1 => ?_) (fun c1 => ?_)
    · have hF := xif hF c1
      refine lv_iload_n hx hb dX9_nodes_24 rfl (lv_at hl 1 rfl) ?_
      cases hF
      exact x_iret C0 hR hS dX9_nodes_25
    · have hF := xel hF c1
      refine lv_iload_n hx hb dX9_nodes_10 rfl (lv_at hl 1 rfl) ?_
      refine lv_aload_n hx hb dX9_nodes_11 rfl (lv_at hl 0 rfl) ?_
      refine lv_iload_n hx hb dX9_nodes_12 rfl (lv_at hl 2 rfl) ?_
      obtain ⟨a2, e_a2, hF⟩ := xbd hF
      refine cl_X9_76 C0 hR hS e_a2 t_v0 ⟨(Nat.le_of_ble_eq_true rfl), (Nat.le_of_ble_eq_true rfl)⟩ hl.1 (Nat.le_of_ble_eq_true rfl) ⟨(Nat.le_of_ble_eq_true rfl), (Nat.le_of_ble_eq_true rfl)⟩ dX9_nodes_13 (fun H locs hR hS => ?_)
      refine lv_iadd hx hb dX9_nodes_16 ?_
      refine lv_istore_n (lv' := [(1, .int (v1 + a2)), (0, .ref v0), (2, .int v2)]) hx hb dX9_nodes_17 rfl hl (by decide) rfl (fun ls hl => ?_)
      refine lv_iinc (v := v2 + 1) (lv' := [(2, .int (v2 + 1)), (1, .int (v1 + a2)), (0, .ref v0)]) hx hb dX9_nodes_18 hl (k := 2) rfl rfl (by decide) rfl (fun ls hl => ?_)
      refine lv_goto (tgt := 4) hx hb dX9_nodes_21 (by decide) ?_
      exact ih _ _ _ t_v0 hF _ _ hR hS _ (lv_sub hl [2, 1, 0] rfl)
set_option maxHeartbeats 4000000 in
set_option maxRecDepth 100000 in
theorem jc_X9_nodes {l : Launch} {D : xD} {ty : xTy} {h : xH} {v0 : Nat} {r : Int32} (t_v0 : ty v0 = some (0, 9)) (hF : jf_X9_nodes ty h v0 = some r) : Met l yX9_nodes (xws yX9_nodes cX9_nodes 3 (some .int)) jr_X9_nodes (xPc D ty h [.ref v0]) (xQ D ty (some (.int r)) h) 0 0 (xdom ty) := by
  refine x_met (by decide) ?_
  intro p e s m below meth c C0 hR
  generalize hargs : ([.ref v0] : List Value).toArray = args at C0 ⊢
  have hx := C0.1
  have hb := C0.2.1
  have hown := C0.2.2.2.2.2.1
  have hts := C0.2.2.2.2.2.2.1
  have hS : xS ty s.heap s.heap [] := xS.rf
  have hl := lv_entry ([.ref v0]) (n := 3) (Nat.le_of_ble_eq_true rfl)
  rw [← hargs, lg_entry_eq]
  rw [hargs]
  generalize (lg_sl ([.ref v0]) ++ List.replicate (3 - (lg_sl ([.ref v0])).length) Slot.unset).toArray = ls at hl ⊢
  have hl : lv_has ls 3 [(0, .ref v0)] := hl
  unfold jf_X9_nodes at hF
  refine lv_iconst (v := 0) hx hb dX9_nodes_0 (by decide) ?_
  refine lv_istore_n (lv' := [(1, .int 0), (0, .ref v0)]) hx hb dX9_nodes_1 rfl hl (by decide) rfl (fun ls hl => ?_)
  refine lv_iconst (v := 1) hx hb dX9_nodes_2 (by decide) ?_
  refine lv_istore_n (lv' := [(2, .int 1), (1, .int 0), (0, .ref v0)]) hx hb dX9_nodes_3 rfl hl (by decide) rfl (fun ls hl => ?_)
  obtain ⟨_, hF⟩ := xlim_sp hF
  exact jw_X9_nodes_4 C0 _ _ _ _ t_v0 hF _ _ hR hS _ (lv_sub hl [2, 1, 0] rfl)
theorem xm_X9_nodes : xMw yX9_nodes cX9_nodes 3 (some .int) 0 := ⟨xin 772 (by decide +kernel) rfl, xin 120 (by decide +kernel) rfl, by decide +kernel⟩
theorem xi_X9_nodes : Cond.instanceMethod yX9_nodes ∈ xT := xin 770 (by decide +kernel) rfl
theorem xe_X9_nodes : Cond.selects yX9_nodes.cls yX9_nodes yX9_nodes ∈ xT := xin 771 (by decide +kernel) rfl
theorem dX9_leaves_0 : decode cX9_leaves 0 = .ok (.iconst 0, 1) := by decide +kernel
theorem dX9_leaves_1 : decode cX9_leaves 1 = .ok (.istore_n 1, 1) := by decide +kernel
theorem dX9_leaves_2 : decode cX9_leaves 2 = .ok (.iconst 0, 1) := by decide +kernel
theorem dX9_leaves_3 : decode cX9_leaves 3 = .ok (.istore_n 2, 1) := by decide +kernel
theorem dX9_leaves_4 : decode cX9_leaves 4 = .ok (.iload_n 2, 1) := by decide +kernel
theorem dX9_leaves_5 : decode cX9_leaves 5 = .ok (.aload_n 0, 1) := by decide +kernel
theorem dX9_leaves_6 : decode cX9_leaves 6 = .ok (.getfield 31, 3) := by decide +kernel
theorem dX9_leaves_9 : decode cX9_leaves 9 = .ok (.if_icmp .ge 28, 3) := by decide +kernel
theorem dX9_leaves_12 : decode cX9_leaves 12 = .ok (.aload_n 0, 1) := by decide +kernel
theorem dX9_leaves_13 : decode cX9_leaves 13 = .ok (.iload_n 2, 1) := by decide +kernel
theorem dX9_leaves_14 : decode cX9_leaves 14 = .ok (.aload_n 0, 1) := by decide +kernel
theorem dX9_leaves_15 : decode cX9_leaves 15 = .ok (.iload_n 2, 1) := by decide +kernel
theorem dX9_leaves_16 : decode cX9_leaves 16 = .ok (.invokevirtual 60, 3) := by decide +kernel
theorem dX9_leaves_19 : decode cX9_leaves 19 = .ok (.getfield 71, 3) := by decide +kernel
theorem dX9_leaves_22 : decode cX9_leaves 22 = .ok (.invokevirtual 72, 3) := by decide +kernel
theorem dX9_leaves_25 : decode cX9_leaves 25 = .ok (.ifCond .eq 6, 3) := by decide +kernel
theorem dX9_leaves_28 : decode cX9_leaves 28 = .ok (.iinc 1 1, 3) := by decide +kernel
theorem dX9_leaves_31 : decode cX9_leaves 31 = .ok (.iinc 2 1, 3) := by decide +kernel
theorem dX9_leaves_34 : decode cX9_leaves 34 = .ok (.goto (-30), 3) := by decide +kernel
theorem dX9_leaves_37 : decode cX9_leaves 37 = .ok (.iload_n 1, 1) := by decide +kernel
theorem dX9_leaves_38 : decode cX9_leaves 38 = .ok (.ireturn, 1) := by decide +kernel
set_option maxHeartbeats 4000000 in
set_option maxRecDepth 100000 in
theorem jw_X9_leaves_4 {p : Program} {l : Launch} {e : Env} {s : State} {m : MethodId} {args : Array Value} {below : List Frame} {meth : Method} {c : Code} {D : xD} {ty : xTy} {h : xH} (C0 : xC D RX9 cX9_leaves 3 (some .int) p s m args meth c) {r : Int32} : ∀ n : Nat, ∀ (v0 : Nat) (v1 : Int32) (v2 : Int32), ty v0 = some (0, 9) → jf_X9_leaves_4 ty h n v0 v1 v2 = some r → ∀ (H : Heap) (locs : List Loc), xRep D ty h H → xS ty s.heap H locs → ∀ ls : Array Slot, lv_has ls 3 [(0, .ref v0), (1, .int v1), (2, .int v2)] → W p l e jr_X9_leaves s m args below meth c H locs 0 0 (MQ below (xQ D ty (some (.int r)) h) args s 0 0 (xdom ty)) (F0 m 4 ls []) := by
  have hx := C0.1
  have hb := C0.2.1
  have hown := C0.2.2.2.2.2.1
  have hts := C0.2.2.2.2.2.2.1
  intro n
  induction n with
  | zero =>
    intro v0 v1 v2 t_v0 hF H locs hR hS ls hl
    cases hF
  | succ n ih =>
    intro v0 v1 v2 t_v0 hF H locs hR hS ls hl
    rw [jf_X9_leaves_4_s] at hF
    refine lv_iload_n hx hb dX9_leaves_4 rfl (lv_at hl 2 rfl) ?_
    refine lv_aload_n hx hb dX9_leaves_5 rfl (lv_at hl 0 rfl) ?_
    refine gf_X9_31 C0 hR t_v0 dX9_leaves_6 ?_
    refine lv_icmp_ge (tgt := 37) hx hb dX9_leaves_9 (by decide) (fun c1 => ?_) (fun c1 => ?_)
    · have hF := xif hF c1
      refine lv_iload_n hx hb dX9_leaves_37 rfl (lv_at hl 1 rfl) ?_
      cases hF
      exact x_iret C0 hR hS dX9_leaves_38
    · have hF := xel hF c1
      refine lv_aload_n hx hb dX9_leaves_12 rfl (lv_at hl 0 rfl) ?_
      refine lv_iload_n hx hb dX9_leaves_13 rfl (lv_at hl 2 rfl) ?_
      refine lv_aload_n hx hb dX9_leaves_14 rfl (lv_at hl 0 rfl) ?_
      refine lv_iload_n hx hb dX9_leaves_15 rfl (lv_at hl 2 rfl) ?_
      obtain ⟨a2, e_a2, hF⟩ := xbd hF
      obtain ⟨u3, e_u3, hF⟩ := xbd hF
      have t_a2 := xck_sp e_u3
      refine cl_X9_60 C0 hR hS e_a2 t_v0 ⟨(Nat.le_of_ble_eq_true rfl), (Nat.le_of_ble_eq_true rfl)⟩ hl.1 (Nat.le_of_ble_eq_true rfl) ⟨(Nat.le_of_ble_eq_true rfl), (Nat.le_of_ble_eq_true rfl)⟩ dX9_leaves_16 (fun H locs hR hS => ?_)
      refine gf_X9_71 C0 hR t_a2 dX9_leaves_19 ?_
      obtain ⟨a4, e_a4, hF⟩ := xbd hF
      refine cl_X9_72 C0 hR hS e_a4 t_v0 ⟨(Nat.le_of_ble_eq_true rfl), (Nat.le_of_ble_eq_true rfl)⟩ hl.1 (Nat.le_of_ble_eq_true rfl) ⟨(Nat.le_of_ble_eq_true rfl), (Nat.le_of_ble_eq_true rfl)⟩ dX9_leaves_22 (fun H locs hR hS => ?_)
      refine lv_if_eq (tgt := 31) hx hb dX9_leaves_25 (by decide) (fun c5 => ?_) (fun c5 => ?_)
      · have hF := xif hF c5
        refine lv_iinc (v := v2 + 1) (lv' := [(2, .int (v2 + 1)), (0, .ref v0), (1, .int v1)]) hx hb dX9_leaves_31 hl (k := 2) rfl rfl (by decide) rfl (fun ls hl => ?_)
        refine lv_goto (tgt := 4) hx hb dX9_leaves_34 (by decide) ?_
        exact ih _ _ _ t_v0 hF _ _ hR hS _ (lv_sub hl [1, 2, 0] rfl)
      · have hF := xel hF c5
        refine lv_iinc (v := v1 + 1) (lv' := [(1, .int (v1 + 1)), (0, .ref v0), (2, .int v2)]) hx hb dX9_leaves_28 hl (k := 1) rfl rfl (by decide) rfl (fun ls hl => ?_)
        refine lv_iinc (v := v2 + 1) (lv' := [(2, .int (v2 + 1)), (1, .int (v1 + 1)), (0, .ref v0)]) hx hb dX9_leaves_31 hl (k := 2) rfl rfl (by decide) rfl (fun ls hl => ?_)
        refine lv_goto (tgt := 4) hx hb dX9_leaves_34 (by decide) ?_
        exact ih _ _ _ t_v0 hF _ _ hR hS _ (lv_sub hl [2, 1, 0] rfl)
set_option maxHeartbeats 4000000 in
set_option maxRecDepth 100000 in
theorem jc_X9_leaves {l : Launch} {D : xD} {ty : xTy} {h : xH} {v0 : Nat} {r : Int32} (t_v0 : ty v0 = some (0, 9)) (hF : jf_X9_leaves ty h v0 = some r) : Met l yX9_leaves (xws yX9_leaves cX9_leaves 3 (some .int)) jr_X9_leaves (xPc D ty h [.ref v0]) (xQ D ty (some (.int r)) h) 0 0 (xdom ty) := by
  refine x_met (by decide) ?_
  intro p e s m below meth c C0 hR
  generalize hargs : ([.ref v0] : List Value).toArray = args at C0 ⊢
  have hx := C0.1
  have hb := C0.2.1
  have hown := C0.2.2.2.2.2.1
  have hts := C0.2.2.2.2.2.2.1
  have hS : xS ty s.heap s.heap [] := xS.rf
  have hl := lv_entry ([.ref v0]) (n := 3) (Nat.le_of_ble_eq_true rfl)
  rw [← hargs, lg_entry_eq]
  rw [hargs]
  generalize (lg_sl ([.ref v0]) ++ List.replicate (3 - (lg_sl ([.ref v0])).length) Slot.unset).toArray = ls at hl ⊢
  have hl : lv_has ls 3 [(0, .ref v0)] := hl
  unfold jf_X9_leaves at hF
  refine lv_iconst (v := 0) hx hb dX9_leaves_0 (by decide) ?_
  refine lv_istore_n (lv' := [(1, .int 0), (0, .ref v0)]) hx hb dX9_leaves_1 rfl hl (by decide) rfl (fun ls hl => ?_)
  refine lv_iconst (v := 0) hx hb dX9_leaves_2 (by decide) ?_
  refine lv_istore_n (lv' := [(2, .int 0), (1, .int 0), (0, .ref v0)]) hx hb dX9_leaves_3 rfl hl (by decide) rfl (fun ls hl => ?_)
  obtain ⟨_, hF⟩ := xlim_sp hF
  exact jw_X9_leaves_4 C0 _ _ _ _ t_v0 hF _ _ hR hS _ (lv_sub hl [2, 1, 0] rfl)
theorem xm_X9_leaves : xMw yX9_leaves cX9_leaves 3 (some .int) 0 := ⟨xin 1179 (by decide +kernel) rfl, xin 120 (by decide +kernel) rfl, by decide +kernel⟩
theorem xi_X9_leaves : Cond.instanceMethod yX9_leaves ∈ xT := xin 1177 (by decide +kernel) rfl
theorem xe_X9_leaves : Cond.selects yX9_leaves.cls yX9_leaves yX9_leaves ∈ xT := xin 1178 (by decide +kernel) rfl
theorem dX9_branchCode_0 : decode cX9_branchCode 0 = .ok (.iconst 0, 1) := by decide +kernel
theorem dX9_branchCode_1 : decode cX9_branchCode 1 = .ok (.istore_n 3, 1) := by decide +kernel
theorem dX9_branchCode_2 : decode cX9_branchCode 2 = .ok (.iconst 0, 1) := by decide +kernel
theorem dX9_branchCode_3 : decode cX9_branchCode 3 = .ok (.istore 4, 2) := by decide +kernel
theorem dX9_branchCode_5 : decode cX9_branchCode 5 = .ok (.iload 4, 2) := by decide +kernel
theorem dX9_branchCode_7 : decode cX9_branchCode 7 = .ok (.aload_n 0, 1) := by decide +kernel
theorem dX9_branchCode_8 : decode cX9_branchCode 8 = .ok (.getfield 31, 3) := by decide +kernel
theorem dX9_branchCode_11 : decode cX9_branchCode 11 = .ok (.if_icmp .ge 40, 3) := by decide +kernel
theorem dX9_branchCode_14 : decode cX9_branchCode 14 = .ok (.aload_n 0, 1) := by decide +kernel
theorem dX9_branchCode_15 : decode cX9_branchCode 15 = .ok (.iload 4, 2) := by decide +kernel
theorem dX9_branchCode_17 : decode cX9_branchCode 17 = .ok (.iload_n 1, 1) := by decide +kernel
theorem dX9_branchCode_18 : decode cX9_branchCode 18 = .ok (.invokevirtual 72, 3) := by decide +kernel
theorem dX9_branchCode_21 : decode cX9_branchCode 21 = .ok (.ifCond .eq 24, 3) := by decide +kernel
theorem dX9_branchCode_24 : decode cX9_branchCode 24 = .ok (.iload_n 3, 1) := by decide +kernel
theorem dX9_branchCode_25 : decode cX9_branchCode 25 = .ok (.iload_n 2, 1) := by decide +kernel
theorem dX9_branchCode_26 : decode cX9_branchCode 26 = .ok (.if_icmp .ne 16, 3) := by decide +kernel
theorem dX9_branchCode_29 : decode cX9_branchCode 29 = .ok (.aload_n 0, 1) := by decide +kernel
theorem dX9_branchCode_30 : decode cX9_branchCode 30 = .ok (.iload 4, 2) := by decide +kernel
theorem dX9_branchCode_32 : decode cX9_branchCode 32 = .ok (.invokevirtual 60, 3) := by decide +kernel
theorem dX9_branchCode_35 : decode cX9_branchCode 35 = .ok (.iload_n 1, 1) := by decide +kernel
theorem dX9_branchCode_36 : decode cX9_branchCode 36 = .ok (.iconst 1, 1) := by decide +kernel
theorem dX9_branchCode_37 : decode cX9_branchCode 37 = .ok (.isub, 1) := by decide +kernel
theorem dX9_branchCode_38 : decode cX9_branchCode 38 = .ok (.invokevirtual 80, 3) := by decide +kernel
theorem dX9_branchCode_41 : decode cX9_branchCode 41 = .ok (.ireturn, 1) := by decide +kernel
theorem dX9_branchCode_42 : decode cX9_branchCode 42 = .ok (.iinc 3 1, 3) := by decide +kernel
theorem dX9_branchCode_45 : decode cX9_branchCode 45 = .ok (.iinc 4 1, 3) := by decide +kernel
theorem dX9_branchCode_48 : decode cX9_branchCode 48 = .ok (.goto (-43), 3) := by decide +kernel
theorem dX9_branchCode_51 : decode cX9_branchCode 51 = .ok (.bipush (-2), 2) := by decide +kernel
theorem dX9_branchCode_53 : decode cX9_branchCode 53 = .ok (.ireturn, 1) := by decide +kernel
theorem wl_X9_80 : Cond.methodLink RX9 80 yX7_pathCode ∈ xT := xin 1015 (by decide +kernel) rfl
section XN_X9_branchCode
variable {p : Program} {l : Launch} {e : Env} {R : Room} {s : State} {m : MethodId} {args : Array Value} {below : List Frame} {meth : Method} {c : Code} {H H0 : Heap} {locs : List Loc} {cells slots : Nat} {Q : State → Prop} {cc : ByteArray} {nL pc : Nat} {rt : Option FieldType} {ls : Array Slot} {rest : List Value} {D : xD} {ty : xTy} {h : xH}
theorem cl_X9_80 {v0 : Nat} {v1 : Int32} {r : Int32} (C0 : xC D RX9 cc nL rt p s m args meth c) (hR : xRep D ty h H) (hS : xS ty H0 H locs) (hF : jf_X7_pathCode ty h v0 v1 = some r) (t_v0 : ty v0 = some (0, 7)) (hrm : jr_X7_pathCode.frames + 1 ≤ R.frames ∧ 8 + (2 + 11) + jr_X7_pathCode.locals ≤ R.locals) (hsz : ls.size = nL) (hW : (rest.map fun v => v.category).sum ≤ 8) (hf : cells ≤ R.cells ∧ slots ≤ R.slots) (hdg : decode cc pc = .ok (.invokevirtual 80, 3)) (kk : ∀ (H1 : Heap) (locs1 : List Loc), xRep D ty h H1 → xS ty H0 H1 locs1 → W p l e R s m args below meth c H1 locs1 cells slots Q (F0 m (pc + 3) ls (.int r :: rest))) : W p l e R s m args below meth c H locs cells slots Q (F0 m pc ls (.int v1 :: .ref v0 :: rest)) := x_callV C0 (jc_X7_pathCode t_v0 hF) xm_X7_pathCode xi_X7_pathCode xe_X7_pathCode wl_X9_80 ⟨rfl, rfl, hrm⟩ (ci := 7) rfl t_v0 hR hS (As := [.int v1]) rfl hsz rfl hW hdg hf kk
end XN_X9_branchCode
set_option maxHeartbeats 4000000 in
set_option maxRecDepth 100000 in
theorem jw_X9_branchCode_5 {p : Program} {l : Launch} {e : Env} {s : State} {m : MethodId} {args : Array Value} {below : List Frame} {meth : Method} {c : Code} {D : xD} {ty : xTy} {h : xH} (C0 : xC D RX9 cX9_branchCode 5 (some .int) p s m args meth c) {r : Int32} : ∀ n : Nat, ∀ (v0 : Nat) (v1 : Int32) (v2 : Int32) (v3 : Int32) (v4 : Int32), ty v0 = some (0, 9) → jf_X9_branchCode_5 ty h n v0 v1 v2 v3 v4 = some r → ∀ (H : Heap) (locs : List Loc), xRep D ty h H → xS ty s.heap H locs → ∀ ls : Array Slot, lv_has ls 5 [(0, .ref v0), (1, .int v1), (2, .int v2), (3, .int v3), (4, .int v4)] → W p l e jr_X9_branchCode s m args below meth c H locs 0 0 (MQ below (xQ D ty (some (.int r)) h) args s 0 0 (xdom ty)) (F0 m 5 ls []) := by
  have hx := C0.1
  have hb := C0.2.1
  have hown := C0.2.2.2.2.2.1
  have hts := C0.2.2.2.2.2.2.1
  intro n
  induction n with
  | zero =>
    intro v0 v1 v2 v3 v4 t_v0 hF H locs hR hS ls hl
    cases hF
  | succ n ih =>
    intro v0 v1 v2 v3 v4 t_v0 hF H locs hR hS ls hl
    rw [jf_X9_branchCode_5_s] at hF
    refine lv_iload hx hb dX9_branchCode_5 (lv_at hl 4 rfl) ?_
    refine lv_aload_n hx hb dX9_branchCode_7 rfl (lv_at hl 0 rfl) ?_
    refine gf_X9_31 C0 hR t_v0 dX9_branchCode_8 ?_
    refine lv_icmp_ge (tgt := 51) hx hb dX9_branchCode_11 (by decide) (fun c1 => ?_) (fun c1 => ?_)
    · have hF := xif hF c1
      refine lv_bipush (v := (-2)) hx hb dX9_branchCode_51 (by decide) ?_
      cases hF
      exact x_iret C0 hR hS dX9_branchCode_53
    · have hF := xel hF c1
      refine lv_aload_n hx hb dX9_branchCode_14 rfl (lv_at hl 0 rfl) ?_
      refine lv_iload hx hb dX9_branchCode_15 (lv_at hl 4 rfl) ?_
      refine lv_iload_n hx hb dX9_branchCode_17 rfl (lv_at hl 1 rfl) ?_
      obtain ⟨a2, e_a2, hF⟩ := xbd hF
      refine cl_X9_72 C0 hR hS e_a2 t_v0 ⟨(Nat.le_of_ble_eq_true rfl), (Nat.le_of_ble_eq_true rfl)⟩ hl.1 (Nat.le_of_ble_eq_true rfl) ⟨(Nat.le_of_ble_eq_true rfl), (Nat.le_of_ble_eq_true rfl)⟩ dX9_branchCode_18 (fun H locs hR hS => ?_)
      refine lv_if_eq (tgt := 45) hx hb dX9_branchCode_21 (by decide) (fun c3 => ?_) (fun c3 => ?_)
      · have hF := xif hF c3
        refine lv_iinc (v := v4 + 1) (lv' := [(4, .int (v4 + 1)), (0, .ref v0), (1, .int v1), (2, .int v2), (3, .int v3)]) hx hb dX9_branchCode_45 hl (k := 4) rfl rfl (by decide) rfl (fun ls hl => ?_)
        refine lv_goto (tgt := 5) hx hb dX9_branchCode_48 (by decide) ?_
        exact ih _ _ _ _ _ t_v0 hF _ _ hR hS _ (lv_sub hl [1, 2, 3, 4, 0] rfl)
      · have hF := xel hF c3
        refine lv_iload_n hx hb dX9_branchCode_24 rfl (lv_at hl 3 rfl) ?_
        refine lv_iload_n hx hb dX9_branchCode_25 rfl (lv_at hl 2 rfl) ?_
        refine lv_icmp_ne (tgt := 42) hx hb dX9_branchCode_26 (by decide) (fun c4 => ?_) (fun c4 => ?_)
        · have hF := xel hF c4
          refine lv_iinc (v := v3 + 1) (lv' := [(3, .int (v3 + 1)), (0, .ref v0), (1, .int v1), (2, .int v2), (4, .int v4)]) hx hb dX9_branchCode_42 hl (k := 3) rfl rfl (by decide) rfl (fun ls hl => ?_)
          refine lv_iinc (v := v4 + 1) (lv' := [(4, .int (v4 + 1)), (3, .int (v3 + 1)), (0, .ref v0), (1, .int v1), (2, .int v2)]) hx hb dX9_branchCode_45 hl (k := 4) rfl rfl (by decide) rfl (fun ls hl => ?_)
          refine lv_goto (tgt := 5) hx hb dX9_branchCode_48 (by decide) ?_
          exact ih _ _ _ _ _ t_v0 hF _ _ hR hS _ (lv_sub hl [2, 3, 4, 1, 0] rfl)
        · have hF := xif hF c4
          refine lv_aload_n hx hb dX9_branchCode_29 rfl (lv_at hl 0 rfl) ?_
          refine lv_iload hx hb dX9_branchCode_30 (lv_at hl 4 rfl) ?_
          obtain ⟨a5, e_a5, hF⟩ := xbd hF
          obtain ⟨u6, e_u6, hF⟩ := xbd hF
          have t_a5 := xck_sp e_u6
          refine cl_X9_60 C0 hR hS e_a5 t_v0 ⟨(Nat.le_of_ble_eq_true rfl), (Nat.le_of_ble_eq_true rfl)⟩ hl.1 (Nat.le_of_ble_eq_true rfl) ⟨(Nat.le_of_ble_eq_true rfl), (Nat.le_of_ble_eq_true rfl)⟩ dX9_branchCode_32 (fun H locs hR hS => ?_)
          refine lv_iload_n hx hb dX9_branchCode_35 rfl (lv_at hl 1 rfl) ?_
          refine lv_iconst (v := 1) hx hb dX9_branchCode_36 (by decide) ?_
          refine lv_isub hx hb dX9_branchCode_37 ?_
          obtain ⟨a7, e_a7, hF⟩ := xbd hF
          refine cl_X9_80 C0 hR hS e_a7 t_a5 ⟨(Nat.le_of_ble_eq_true rfl), (Nat.le_of_ble_eq_true rfl)⟩ hl.1 (Nat.le_of_ble_eq_true rfl) ⟨(Nat.le_of_ble_eq_true rfl), (Nat.le_of_ble_eq_true rfl)⟩ dX9_branchCode_38 (fun H locs hR hS => ?_)
          cases hF
          exact x_iret C0 hR hS dX9_branchCode_41
set_option maxHeartbeats 4000000 in
set_option maxRecDepth 100000 in
theorem jc_X9_branchCode {l : Launch} {D : xD} {ty : xTy} {h : xH} {v0 : Nat} {v1 : Int32} {v2 : Int32} {r : Int32} (t_v0 : ty v0 = some (0, 9)) (hF : jf_X9_branchCode ty h v0 v1 v2 = some r) : Met l yX9_branchCode (xws yX9_branchCode cX9_branchCode 5 (some .int)) jr_X9_branchCode (xPc D ty h [.ref v0, .int v1, .int v2]) (xQ D ty (some (.int r)) h) 0 0 (xdom ty) := by
  refine x_met (by decide) ?_
  intro p e s m below meth c C0 hR
  generalize hargs : ([.ref v0, .int v1, .int v2] : List Value).toArray = args at C0 ⊢
  have hx := C0.1
  have hb := C0.2.1
  have hown := C0.2.2.2.2.2.1
  have hts := C0.2.2.2.2.2.2.1
  have hS : xS ty s.heap s.heap [] := xS.rf
  have hl := lv_entry ([.ref v0, .int v1, .int v2]) (n := 5) (Nat.le_of_ble_eq_true rfl)
  rw [← hargs, lg_entry_eq]
  rw [hargs]
  generalize (lg_sl ([.ref v0, .int v1, .int v2]) ++ List.replicate (5 - (lg_sl ([.ref v0, .int v1, .int v2])).length) Slot.unset).toArray = ls at hl ⊢
  have hl : lv_has ls 5 [(0, .ref v0), (1, .int v1), (2, .int v2)] := hl
  unfold jf_X9_branchCode at hF
  refine lv_iconst (v := 0) hx hb dX9_branchCode_0 (by decide) ?_
  refine lv_istore_n (lv' := [(3, .int 0), (0, .ref v0), (1, .int v1), (2, .int v2)]) hx hb dX9_branchCode_1 rfl hl (by decide) rfl (fun ls hl => ?_)
  refine lv_iconst (v := 0) hx hb dX9_branchCode_2 (by decide) ?_
  refine lv_istore (lv' := [(4, .int 0), (3, .int 0), (0, .ref v0), (1, .int v1), (2, .int v2)]) hx hb dX9_branchCode_3 hl (by decide) rfl (fun ls hl => ?_)
  obtain ⟨_, hF⟩ := xlim_sp hF
  exact jw_X9_branchCode_5 C0 _ _ _ _ _ _ t_v0 hF _ _ hR hS _ (lv_sub hl [2, 3, 4, 1, 0] rfl)
theorem xm_X9_branchCode : xMw yX9_branchCode cX9_branchCode 5 (some .int) 2 := ⟨xin 1014 (by decide +kernel) rfl, xin 120 (by decide +kernel) rfl, by decide +kernel⟩
theorem xi_X9_branchCode : Cond.instanceMethod yX9_branchCode ∈ xT := xin 1012 (by decide +kernel) rfl
theorem xe_X9_branchCode : Cond.selects yX9_branchCode.cls yX9_branchCode yX9_branchCode ∈ xT := xin 1013 (by decide +kernel) rfl
theorem dX9_longestPath_0 : decode cX9_longestPath 0 = .ok (.iconst 0, 1) := by decide +kernel
theorem dX9_longestPath_1 : decode cX9_longestPath 1 = .ok (.istore_n 1, 1) := by decide +kernel
theorem dX9_longestPath_2 : decode cX9_longestPath 2 = .ok (.iconst 0, 1) := by decide +kernel
theorem dX9_longestPath_3 : decode cX9_longestPath 3 = .ok (.istore_n 2, 1) := by decide +kernel
theorem dX9_longestPath_4 : decode cX9_longestPath 4 = .ok (.iload_n 2, 1) := by decide +kernel
theorem dX9_longestPath_5 : decode cX9_longestPath 5 = .ok (.aload_n 0, 1) := by decide +kernel
theorem dX9_longestPath_6 : decode cX9_longestPath 6 = .ok (.getfield 31, 3) := by decide +kernel
theorem dX9_longestPath_9 : decode cX9_longestPath 9 = .ok (.if_icmp .ge 22, 3) := by decide +kernel
theorem dX9_longestPath_12 : decode cX9_longestPath 12 = .ok (.iload_n 1, 1) := by decide +kernel
theorem dX9_longestPath_13 : decode cX9_longestPath 13 = .ok (.aload_n 0, 1) := by decide +kernel
theorem dX9_longestPath_14 : decode cX9_longestPath 14 = .ok (.iload_n 2, 1) := by decide +kernel
theorem dX9_longestPath_15 : decode cX9_longestPath 15 = .ok (.invokevirtual 60, 3) := by decide +kernel
theorem dX9_longestPath_18 : decode cX9_longestPath 18 = .ok (.getfield 71, 3) := by decide +kernel
theorem dX9_longestPath_21 : decode cX9_longestPath 21 = .ok (.invokestatic 83, 3) := by decide +kernel
theorem dX9_longestPath_24 : decode cX9_longestPath 24 = .ok (.istore_n 1, 1) := by decide +kernel
theorem dX9_longestPath_25 : decode cX9_longestPath 25 = .ok (.iinc 2 1, 3) := by decide +kernel
theorem dX9_longestPath_28 : decode cX9_longestPath 28 = .ok (.goto (-24), 3) := by decide +kernel
theorem dX9_longestPath_31 : decode cX9_longestPath 31 = .ok (.iload_n 1, 1) := by decide +kernel
theorem dX9_longestPath_32 : decode cX9_longestPath 32 = .ok (.ireturn, 1) := by decide +kernel
theorem wm_X9_83 : Cond.methodLink RX9 83 Lib.Math.max.name ∈ xT := xin 1090 (by decide +kernel) rfl
section XN_X9_longestPath
variable {p : Program} {l : Launch} {e : Env} {R : Room} {s : State} {m : MethodId} {args : Array Value} {below : List Frame} {meth : Method} {c : Code} {H H0 : Heap} {locs : List Loc} {cells slots : Nat} {Q : State → Prop} {cc : ByteArray} {nL pc : Nat} {rt : Option FieldType} {ls : Array Slot} {rest : List Value} {D : xD} {ty : xTy} {h : xH}
theorem mm_X9_83 {x y : Int32} (C0 : xC D RX9 cc nL rt p s m args meth c) (hsz : ls.size = nL) (h1 : 1 ≤ R.frames) (h2 : (rest.map fun v => v.category).sum + 13 ≤ R.locals) (hf : cells ≤ R.cells ∧ slots ≤ R.slots) (hdg : decode cc pc = .ok (.invokestatic 83, 3)) (kk : W p l e R s m args below meth c H locs cells slots Q (F0 m (pc + 3) ls (.int (xmax x y) :: rest))) : W p l e R s m args below meth c H locs cells slots Q (F0 m pc ls (.int y :: .int x :: rest)) := va_mmax C0.1 C0.2.1 (C0.2.2.1.trans hsz.symm) C0.2.2.2.2.2.1 (C0.2.2.2.2.2.2.1 _ wm_X9_83) (C0.2.2.2.2.2.2.1 _ ms_max) (C0.2.2.2.2.2.2.1 _ ms_init) (C0.2.2.2.2.2.2.1 _ mc_max) h1 h2 hf.1 hf.2 hdg kk
end XN_X9_longestPath
set_option maxHeartbeats 4000000 in
set_option maxRecDepth 100000 in
theorem jw_X9_longestPath_4 {p : Program} {l : Launch} {e : Env} {s : State} {m : MethodId} {args : Array Value} {below : List Frame} {meth : Method} {c : Code} {D : xD} {ty : xTy} {h : xH} (C0 : xC D RX9 cX9_longestPath 3 (some .int) p s m args meth c) {r : Int32} : ∀ n : Nat, ∀ (v0 : Nat) (v1 : Int32) (v2 : Int32), ty v0 = some (0, 9) → jf_X9_longestPath_4 ty h n v0 v1 v2 = some r → ∀ (H : Heap) (locs : List Loc), xRep D ty h H → xS ty s.heap H locs → ∀ ls : Array Slot, lv_has ls 3 [(0, .ref v0), (1, .int v1), (2, .int v2)] → W p l e jr_X9_longestPath s m args below meth c H locs 0 0 (MQ below (xQ D ty (some (.int r)) h) args s 0 0 (xdom ty)) (F0 m 4 ls []) := by
  have hx := C0.1
  have hb := C0.2.1
  have hown := C0.2.2.2.2.2.1
  have hts := C0.2.2.2.2.2.2.1
  intro n
  induction n with
  | zero =>
    intro v0 v1 v2 t_v0 hF H locs hR hS ls hl
    cases hF
  | succ n ih =>
    intro v0 v1 v2 t_v0 hF H locs hR hS ls hl
    rw [jf_X9_longestPath_4_s] at hF
    refine lv_iload_n hx hb dX9_longestPath_4 rfl (lv_at hl 2 rfl) ?_
    refine lv_aload_n hx hb dX9_longestPath_5 rfl (lv_at hl 0 rfl) ?_
    refine gf_X9_31 C0 hR t_v0 dX9_longestPath_6 ?_
    refine lv_icmp_ge (tgt := 31) hx hb dX9_longestPath_9 (by decide) (fun c1 => ?_) (fun c1 => ?_)
    · have hF := xif hF c1
      refine lv_iload_n hx hb dX9_longestPath_31 rfl (lv_at hl 1 rfl) ?_
      cases hF
      exact x_iret C0 hR hS dX9_longestPath_32
    · have hF := xel hF c1
      refine lv_iload_n hx hb dX9_longestPath_12 rfl (lv_at hl 1 rfl) ?_
      refine lv_aload_n hx hb dX9_longestPath_13 rfl (lv_at hl 0 rfl) ?_
      refine lv_iload_n hx hb dX9_longestPath_14 rfl (lv_at hl 2 rfl) ?_
      obtain ⟨a2, e_a2, hF⟩ := xbd hF
      obtain ⟨u3, e_u3, hF⟩ := xbd hF
      have t_a2 := xck_sp e_u3
      refine cl_X9_60 C0 hR hS e_a2 t_v0 ⟨(Nat.le_of_ble_eq_true rfl), (Nat.le_of_ble_eq_true rfl)⟩ hl.1 (Nat.le_of_ble_eq_true rfl) ⟨(Nat.le_of_ble_eq_true rfl), (Nat.le_of_ble_eq_true rfl)⟩ dX9_longestPath_15 (fun H locs hR hS => ?_)
      refine gf_X9_71 C0 hR t_a2 dX9_longestPath_18 ?_
      refine mm_X9_83 C0 hl.1 (Nat.le_of_ble_eq_true rfl) (Nat.le_of_ble_eq_true rfl) ⟨Nat.le_of_ble_eq_true rfl, Nat.le_of_ble_eq_true rfl⟩ dX9_longestPath_21 ?_
      refine lv_istore_n (lv' := [(1, .int (xmax v1 (xI h a2 2))), (0, .ref v0), (2, .int v2)]) hx hb dX9_longestPath_24 rfl hl (by decide) rfl (fun ls hl => ?_)
      refine lv_iinc (v := v2 + 1) (lv' := [(2, .int (v2 + 1)), (1, .int (xmax v1 (xI h a2 2))), (0, .ref v0)]) hx hb dX9_longestPath_25 hl (k := 2) rfl rfl (by decide) rfl (fun ls hl => ?_)
      refine lv_goto (tgt := 4) hx hb dX9_longestPath_28 (by decide) ?_
      exact ih _ _ _ t_v0 hF _ _ hR hS _ (lv_sub hl [2, 1, 0] rfl)
set_option maxHeartbeats 4000000 in
set_option maxRecDepth 100000 in
theorem jc_X9_longestPath {l : Launch} {D : xD} {ty : xTy} {h : xH} {v0 : Nat} {r : Int32} (t_v0 : ty v0 = some (0, 9)) (hF : jf_X9_longestPath ty h v0 = some r) : Met l yX9_longestPath (xws yX9_longestPath cX9_longestPath 3 (some .int)) jr_X9_longestPath (xPc D ty h [.ref v0]) (xQ D ty (some (.int r)) h) 0 0 (xdom ty) := by
  refine x_met (by decide) ?_
  intro p e s m below meth c C0 hR
  generalize hargs : ([.ref v0] : List Value).toArray = args at C0 ⊢
  have hx := C0.1
  have hb := C0.2.1
  have hown := C0.2.2.2.2.2.1
  have hts := C0.2.2.2.2.2.2.1
  have hS : xS ty s.heap s.heap [] := xS.rf
  have hl := lv_entry ([.ref v0]) (n := 3) (Nat.le_of_ble_eq_true rfl)
  rw [← hargs, lg_entry_eq]
  rw [hargs]
  generalize (lg_sl ([.ref v0]) ++ List.replicate (3 - (lg_sl ([.ref v0])).length) Slot.unset).toArray = ls at hl ⊢
  have hl : lv_has ls 3 [(0, .ref v0)] := hl
  unfold jf_X9_longestPath at hF
  refine lv_iconst (v := 0) hx hb dX9_longestPath_0 (by decide) ?_
  refine lv_istore_n (lv' := [(1, .int 0), (0, .ref v0)]) hx hb dX9_longestPath_1 rfl hl (by decide) rfl (fun ls hl => ?_)
  refine lv_iconst (v := 0) hx hb dX9_longestPath_2 (by decide) ?_
  refine lv_istore_n (lv' := [(2, .int 0), (1, .int 0), (0, .ref v0)]) hx hb dX9_longestPath_3 rfl hl (by decide) rfl (fun ls hl => ?_)
  obtain ⟨_, hF⟩ := xlim_sp hF
  exact jw_X9_longestPath_4 C0 _ _ _ _ t_v0 hF _ _ hR hS _ (lv_sub hl [2, 1, 0] rfl)
theorem xm_X9_longestPath : xMw yX9_longestPath cX9_longestPath 3 (some .int) 0 := ⟨xin 1188 (by decide +kernel) rfl, xin 120 (by decide +kernel) rfl, by decide +kernel⟩
theorem xi_X9_longestPath : Cond.instanceMethod yX9_longestPath ∈ xT := xin 1186 (by decide +kernel) rfl
theorem xe_X9_longestPath : Cond.selects yX9_longestPath.cls yX9_longestPath yX9_longestPath ∈ xT := xin 1187 (by decide +kernel) rfl
theorem dX9_repeatingRules_0 : decode cX9_repeatingRules 0 = .ok (.iconst 0, 1) := by decide +kernel
theorem dX9_repeatingRules_1 : decode cX9_repeatingRules 1 = .ok (.istore_n 1, 1) := by decide +kernel
theorem dX9_repeatingRules_2 : decode cX9_repeatingRules 2 = .ok (.iconst 0, 1) := by decide +kernel
theorem dX9_repeatingRules_3 : decode cX9_repeatingRules 3 = .ok (.istore_n 2, 1) := by decide +kernel
theorem dX9_repeatingRules_4 : decode cX9_repeatingRules 4 = .ok (.iload_n 2, 1) := by decide +kernel
theorem dX9_repeatingRules_5 : decode cX9_repeatingRules 5 = .ok (.aload_n 0, 1) := by decide +kernel
theorem dX9_repeatingRules_6 : decode cX9_repeatingRules 6 = .ok (.getfield 31, 3) := by decide +kernel
theorem dX9_repeatingRules_9 : decode cX9_repeatingRules 9 = .ok (.if_icmp .ge 23, 3) := by decide +kernel
theorem dX9_repeatingRules_12 : decode cX9_repeatingRules 12 = .ok (.aload_n 0, 1) := by decide +kernel
theorem dX9_repeatingRules_13 : decode cX9_repeatingRules 13 = .ok (.iload_n 2, 1) := by decide +kernel
theorem dX9_repeatingRules_14 : decode cX9_repeatingRules 14 = .ok (.invokevirtual 60, 3) := by decide +kernel
theorem dX9_repeatingRules_17 : decode cX9_repeatingRules 17 = .ok (.invokevirtual 89, 3) := by decide +kernel
theorem dX9_repeatingRules_20 : decode cX9_repeatingRules 20 = .ok (.ifCond .eq 6, 3) := by decide +kernel
theorem dX9_repeatingRules_23 : decode cX9_repeatingRules 23 = .ok (.iinc 1 1, 3) := by decide +kernel
theorem dX9_repeatingRules_26 : decode cX9_repeatingRules 26 = .ok (.iinc 2 1, 3) := by decide +kernel
theorem dX9_repeatingRules_29 : decode cX9_repeatingRules 29 = .ok (.goto (-25), 3) := by decide +kernel
theorem dX9_repeatingRules_32 : decode cX9_repeatingRules 32 = .ok (.iload_n 1, 1) := by decide +kernel
theorem dX9_repeatingRules_33 : decode cX9_repeatingRules 33 = .ok (.ireturn, 1) := by decide +kernel
theorem wl_X9_89 : Cond.methodLink RX9 89 yX7_repeatsVariable ∈ xT := xin 1193 (by decide +kernel) rfl
section XN_X9_repeatingRules
variable {p : Program} {l : Launch} {e : Env} {R : Room} {s : State} {m : MethodId} {args : Array Value} {below : List Frame} {meth : Method} {c : Code} {H H0 : Heap} {locs : List Loc} {cells slots : Nat} {Q : State → Prop} {cc : ByteArray} {nL pc : Nat} {rt : Option FieldType} {ls : Array Slot} {rest : List Value} {D : xD} {ty : xTy} {h : xH}
theorem cl_X9_89 {v0 : Nat} {r : Int32} (C0 : xC D RX9 cc nL rt p s m args meth c) (hR : xRep D ty h H) (hS : xS ty H0 H locs) (hF : jf_X7_repeatsVariable ty h v0 = some r) (t_v0 : ty v0 = some (0, 7)) (hrm : jr_X7_repeatsVariable.frames + 1 ≤ R.frames ∧ 8 + (2 + 11) + jr_X7_repeatsVariable.locals ≤ R.locals) (hsz : ls.size = nL) (hW : (rest.map fun v => v.category).sum ≤ 8) (hf : cells ≤ R.cells ∧ slots ≤ R.slots) (hdg : decode cc pc = .ok (.invokevirtual 89, 3)) (kk : ∀ (H1 : Heap) (locs1 : List Loc), xRep D ty h H1 → xS ty H0 H1 locs1 → W p l e R s m args below meth c H1 locs1 cells slots Q (F0 m (pc + 3) ls (.int r :: rest))) : W p l e R s m args below meth c H locs cells slots Q (F0 m pc ls (.ref v0 :: rest)) := x_callV C0 (jc_X7_repeatsVariable t_v0 hF) xm_X7_repeatsVariable xi_X7_repeatsVariable xe_X7_repeatsVariable wl_X9_89 ⟨rfl, rfl, hrm⟩ (ci := 7) rfl t_v0 hR hS (As := []) rfl hsz rfl hW hdg hf kk
end XN_X9_repeatingRules
set_option maxHeartbeats 4000000 in
set_option maxRecDepth 100000 in
theorem jw_X9_repeatingRules_4 {p : Program} {l : Launch} {e : Env} {s : State} {m : MethodId} {args : Array Value} {below : List Frame} {meth : Method} {c : Code} {D : xD} {ty : xTy} {h : xH} (C0 : xC D RX9 cX9_repeatingRules 3 (some .int) p s m args meth c) {r : Int32} : ∀ n : Nat, ∀ (v0 : Nat) (v1 : Int32) (v2 : Int32), ty v0 = some (0, 9) → jf_X9_repeatingRules_4 ty h n v0 v1 v2 = some r → ∀ (H : Heap) (locs : List Loc), xRep D ty h H → xS ty s.heap H locs → ∀ ls : Array Slot, lv_has ls 3 [(0, .ref v0), (1, .int v1), (2, .int v2)] → W p l e jr_X9_repeatingRules s m args below meth c H locs 0 0 (MQ below (xQ D ty (some (.int r)) h) args s 0 0 (xdom ty)) (F0 m 4 ls []) := by
  have hx := C0.1
  have hb := C0.2.1
  have hown := C0.2.2.2.2.2.1
  have hts := C0.2.2.2.2.2.2.1
  intro n
  induction n with
  | zero =>
    intro v0 v1 v2 t_v0 hF H locs hR hS ls hl
    cases hF
  | succ n ih =>
    intro v0 v1 v2 t_v0 hF H locs hR hS ls hl
    rw [jf_X9_repeatingRules_4_s] at hF
    refine lv_iload_n hx hb dX9_repeatingRules_4 rfl (lv_at hl 2 rfl) ?_
    refine lv_aload_n hx hb dX9_repeatingRules_5 rfl (lv_at hl 0 rfl) ?_
    refine gf_X9_31 C0 hR t_v0 dX9_repeatingRules_6 ?_
    refine lv_icmp_ge (tgt := 32) hx hb dX9_repeatingRules_9 (by decide) (fun c1 => ?_) (fun c1 => ?_)
    · have hF := xif hF c1
      refine lv_iload_n hx hb dX9_repeatingRules_32 rfl (lv_at hl 1 rfl) ?_
      cases hF
      exact x_iret C0 hR hS dX9_repeatingRules_33
    · have hF := xel hF c1
      refine lv_aload_n hx hb dX9_repeatingRules_12 rfl (lv_at hl 0 rfl) ?_
      refine lv_iload_n hx hb dX9_repeatingRules_13 rfl (lv_at hl 2 rfl) ?_
      obtain ⟨a2, e_a2, hF⟩ := xbd hF
      obtain ⟨u3, e_u3, hF⟩ := xbd hF
      have t_a2 := xck_sp e_u3
      refine cl_X9_60 C0 hR hS e_a2 t_v0 ⟨(Nat.le_of_ble_eq_true rfl), (Nat.le_of_ble_eq_true rfl)⟩ hl.1 (Nat.le_of_ble_eq_true rfl) ⟨(Nat.le_of_ble_eq_true rfl), (Nat.le_of_ble_eq_true rfl)⟩ dX9_repeatingRules_14 (fun H locs hR hS => ?_)
      obtain ⟨a4, e_a4, hF⟩ := xbd hF
      refine cl_X9_89 C0 hR hS e_a4 t_a2 ⟨(Nat.le_of_ble_eq_true rfl), (Nat.le_of_ble_eq_true rfl)⟩ hl.1 (Nat.le_of_ble_eq_true rfl) ⟨(Nat.le_of_ble_eq_true rfl), (Nat.le_of_ble_eq_true rfl)⟩ dX9_repeatingRules_17 (fun H locs hR hS => ?_)
      refine lv_if_eq (tgt := 26) hx hb dX9_repeatingRules_20 (by decide) (fun c5 => ?_) (fun c5 => ?_)
      · have hF := xif hF c5
        refine lv_iinc (v := v2 + 1) (lv' := [(2, .int (v2 + 1)), (0, .ref v0), (1, .int v1)]) hx hb dX9_repeatingRules_26 hl (k := 2) rfl rfl (by decide) rfl (fun ls hl => ?_)
        refine lv_goto (tgt := 4) hx hb dX9_repeatingRules_29 (by decide) ?_
        exact ih _ _ _ t_v0 hF _ _ hR hS _ (lv_sub hl [1, 2, 0] rfl)
      · have hF := xel hF c5
        refine lv_iinc (v := v1 + 1) (lv' := [(1, .int (v1 + 1)), (0, .ref v0), (2, .int v2)]) hx hb dX9_repeatingRules_23 hl (k := 1) rfl rfl (by decide) rfl (fun ls hl => ?_)
        refine lv_iinc (v := v2 + 1) (lv' := [(2, .int (v2 + 1)), (1, .int (v1 + 1)), (0, .ref v0)]) hx hb dX9_repeatingRules_26 hl (k := 2) rfl rfl (by decide) rfl (fun ls hl => ?_)
        refine lv_goto (tgt := 4) hx hb dX9_repeatingRules_29 (by decide) ?_
        exact ih _ _ _ t_v0 hF _ _ hR hS _ (lv_sub hl [2, 1, 0] rfl)
set_option maxHeartbeats 4000000 in
set_option maxRecDepth 100000 in
theorem jc_X9_repeatingRules {l : Launch} {D : xD} {ty : xTy} {h : xH} {v0 : Nat} {r : Int32} (t_v0 : ty v0 = some (0, 9)) (hF : jf_X9_repeatingRules ty h v0 = some r) : Met l yX9_repeatingRules (xws yX9_repeatingRules cX9_repeatingRules 3 (some .int)) jr_X9_repeatingRules (xPc D ty h [.ref v0]) (xQ D ty (some (.int r)) h) 0 0 (xdom ty) := by
  refine x_met (by decide) ?_
  intro p e s m below meth c C0 hR
  generalize hargs : ([.ref v0] : List Value).toArray = args at C0 ⊢
  have hx := C0.1
  have hb := C0.2.1
  have hown := C0.2.2.2.2.2.1
  have hts := C0.2.2.2.2.2.2.1
  have hS : xS ty s.heap s.heap [] := xS.rf
  have hl := lv_entry ([.ref v0]) (n := 3) (Nat.le_of_ble_eq_true rfl)
  rw [← hargs, lg_entry_eq]
  rw [hargs]
  generalize (lg_sl ([.ref v0]) ++ List.replicate (3 - (lg_sl ([.ref v0])).length) Slot.unset).toArray = ls at hl ⊢
  have hl : lv_has ls 3 [(0, .ref v0)] := hl
  unfold jf_X9_repeatingRules at hF
  refine lv_iconst (v := 0) hx hb dX9_repeatingRules_0 (by decide) ?_
  refine lv_istore_n (lv' := [(1, .int 0), (0, .ref v0)]) hx hb dX9_repeatingRules_1 rfl hl (by decide) rfl (fun ls hl => ?_)
  refine lv_iconst (v := 0) hx hb dX9_repeatingRules_2 (by decide) ?_
  refine lv_istore_n (lv' := [(2, .int 0), (1, .int 0), (0, .ref v0)]) hx hb dX9_repeatingRules_3 rfl hl (by decide) rfl (fun ls hl => ?_)
  obtain ⟨_, hF⟩ := xlim_sp hF
  exact jw_X9_repeatingRules_4 C0 _ _ _ _ t_v0 hF _ _ hR hS _ (lv_sub hl [2, 1, 0] rfl)
theorem xm_X9_repeatingRules : xMw yX9_repeatingRules cX9_repeatingRules 3 (some .int) 0 := ⟨xin 1192 (by decide +kernel) rfl, xin 120 (by decide +kernel) rfl, by decide +kernel⟩
theorem xi_X9_repeatingRules : Cond.instanceMethod yX9_repeatingRules ∈ xT := xin 1190 (by decide +kernel) rfl
theorem xe_X9_repeatingRules : Cond.selects yX9_repeatingRules.cls yX9_repeatingRules yX9_repeatingRules ∈ xT := xin 1191 (by decide +kernel) rfl
theorem dX9_classCode_0 : decode cX9_classCode 0 = .ok (.aload_n 0, 1) := by decide +kernel
theorem dX9_classCode_1 : decode cX9_classCode 1 = .ok (.iload_n 1, 1) := by decide +kernel
theorem dX9_classCode_2 : decode cX9_classCode 2 = .ok (.invokevirtual 60, 3) := by decide +kernel
theorem dX9_classCode_5 : decode cX9_classCode 5 = .ok (.astore_n 3, 1) := by decide +kernel
theorem dX9_classCode_6 : decode cX9_classCode 6 = .ok (.iload_n 2, 1) := by decide +kernel
theorem dX9_classCode_7 : decode cX9_classCode 7 = .ok (.aload_n 3, 1) := by decide +kernel
theorem dX9_classCode_8 : decode cX9_classCode 8 = .ok (.getfield 71, 3) := by decide +kernel
theorem dX9_classCode_11 : decode cX9_classCode 11 = .ok (.if_icmp .ge 11, 3) := by decide +kernel
theorem dX9_classCode_14 : decode cX9_classCode 14 = .ok (.aload_n 3, 1) := by decide +kernel
theorem dX9_classCode_15 : decode cX9_classCode 15 = .ok (.iload_n 2, 1) := by decide +kernel
theorem dX9_classCode_16 : decode cX9_classCode 16 = .ok (.invokevirtual 80, 3) := by decide +kernel
theorem dX9_classCode_19 : decode cX9_classCode 19 = .ok (.goto 5, 3) := by decide +kernel
theorem dX9_classCode_22 : decode cX9_classCode 22 = .ok (.bipush 99, 2) := by decide +kernel
theorem dX9_classCode_24 : decode cX9_classCode 24 = .ok (.ireturn, 1) := by decide +kernel
set_option maxHeartbeats 4000000 in
set_option maxRecDepth 100000 in
theorem jc_X9_classCode {l : Launch} {D : xD} {ty : xTy} {h : xH} {v0 : Nat} {v1 : Int32} {v2 : Int32} {r : Int32} (t_v0 : ty v0 = some (0, 9)) (hF : jf_X9_classCode ty h v0 v1 v2 = some r) : Met l yX9_classCode (xws yX9_classCode cX9_classCode 4 (some .int)) jr_X9_classCode (xPc D ty h [.ref v0, .int v1, .int v2]) (xQ D ty (some (.int r)) h) 0 0 (xdom ty) := by
  refine x_met (by decide) ?_
  intro p e s m below meth c C0 hR
  generalize hargs : ([.ref v0, .int v1, .int v2] : List Value).toArray = args at C0 ⊢
  have hx := C0.1
  have hb := C0.2.1
  have hown := C0.2.2.2.2.2.1
  have hts := C0.2.2.2.2.2.2.1
  have hS : xS ty s.heap s.heap [] := xS.rf
  have hl := lv_entry ([.ref v0, .int v1, .int v2]) (n := 4) (Nat.le_of_ble_eq_true rfl)
  rw [← hargs, lg_entry_eq]
  rw [hargs]
  generalize (lg_sl ([.ref v0, .int v1, .int v2]) ++ List.replicate (4 - (lg_sl ([.ref v0, .int v1, .int v2])).length) Slot.unset).toArray = ls at hl ⊢
  have hl : lv_has ls 4 [(0, .ref v0), (1, .int v1), (2, .int v2)] := hl
  unfold jf_X9_classCode at hF
  refine lv_aload_n hx hb dX9_classCode_0 rfl (lv_at hl 0 rfl) ?_
  refine lv_iload_n hx hb dX9_classCode_1 rfl (lv_at hl 1 rfl) ?_
  obtain ⟨a1, e_a1, hF⟩ := xbd hF
  obtain ⟨u2, e_u2, hF⟩ := xbd hF
  have t_a1 := xck_sp e_u2
  refine cl_X9_60 C0 hR hS e_a1 t_v0 ⟨(Nat.le_of_ble_eq_true rfl), (Nat.le_of_ble_eq_true rfl)⟩ hl.1 (Nat.le_of_ble_eq_true rfl) ⟨(Nat.le_of_ble_eq_true rfl), (Nat.le_of_ble_eq_true rfl)⟩ dX9_classCode_2 (fun H locs hR hS => ?_)
  refine lv_astore_n (lv' := [(3, .ref a1), (0, .ref v0), (1, .int v1), (2, .int v2)]) hx hb dX9_classCode_5 rfl hl (by decide) rfl (fun ls hl => ?_)
  refine lv_iload_n hx hb dX9_classCode_6 rfl (lv_at hl 3 rfl) ?_
  refine lv_aload_n hx hb dX9_classCode_7 rfl (lv_at hl 0 rfl) ?_
  refine gf_X9_71 C0 hR t_a1 dX9_classCode_8 ?_
  refine lv_icmp_ge (tgt := 22) hx hb dX9_classCode_11 (by decide) (fun c3 => ?_) (fun c3 => ?_)
  · have hF := xif hF c3
    refine lv_bipush (v := 99) hx hb dX9_classCode_22 (by decide) ?_
    cases hF
    exact x_iret C0 hR hS dX9_classCode_24
  · have hF := xel hF c3
    refine lv_aload_n hx hb dX9_classCode_14 rfl (lv_at hl 0 rfl) ?_
    refine lv_iload_n hx hb dX9_classCode_15 rfl (lv_at hl 3 rfl) ?_
    obtain ⟨a4, e_a4, hF⟩ := xbd hF
    refine cl_X9_80 C0 hR hS e_a4 t_a1 ⟨(Nat.le_of_ble_eq_true rfl), (Nat.le_of_ble_eq_true rfl)⟩ hl.1 (Nat.le_of_ble_eq_true rfl) ⟨(Nat.le_of_ble_eq_true rfl), (Nat.le_of_ble_eq_true rfl)⟩ dX9_classCode_16 (fun H locs hR hS => ?_)
    refine lv_goto (tgt := 24) hx hb dX9_classCode_19 (by decide) ?_
    cases hF
    exact x_iret C0 hR hS dX9_classCode_24
theorem xm_X9_classCode : xMw yX9_classCode cX9_classCode 4 (some .int) 2 := ⟨xin 1089 (by decide +kernel) rfl, xin 120 (by decide +kernel) rfl, by decide +kernel⟩
theorem xi_X9_classCode : Cond.instanceMethod yX9_classCode ∈ xT := xin 1088 (by decide +kernel) rfl
theorem xe_X9_classCode : Cond.selects yX9_classCode.cls yX9_classCode yX9_classCode ∈ xT := xin 48 (by decide +kernel) rfl
theorem dX9_largestClass_0 : decode cX9_largestClass 0 = .ok (.iconst 0, 1) := by decide +kernel
theorem dX9_largestClass_1 : decode cX9_largestClass 1 = .ok (.istore_n 2, 1) := by decide +kernel
theorem dX9_largestClass_2 : decode cX9_largestClass 2 = .ok (.iconst 0, 1) := by decide +kernel
theorem dX9_largestClass_3 : decode cX9_largestClass 3 = .ok (.istore_n 3, 1) := by decide +kernel
theorem dX9_largestClass_4 : decode cX9_largestClass 4 = .ok (.iload_n 3, 1) := by decide +kernel
theorem dX9_largestClass_5 : decode cX9_largestClass 5 = .ok (.aload_n 0, 1) := by decide +kernel
theorem dX9_largestClass_6 : decode cX9_largestClass 6 = .ok (.getfield 31, 3) := by decide +kernel
theorem dX9_largestClass_9 : decode cX9_largestClass 9 = .ok (.if_icmp .ge 56, 3) := by decide +kernel
theorem dX9_largestClass_12 : decode cX9_largestClass 12 = .ok (.iconst 0, 1) := by decide +kernel
theorem dX9_largestClass_13 : decode cX9_largestClass 13 = .ok (.istore 4, 2) := by decide +kernel
theorem dX9_largestClass_15 : decode cX9_largestClass 15 = .ok (.iconst 0, 1) := by decide +kernel
theorem dX9_largestClass_16 : decode cX9_largestClass 16 = .ok (.istore 5, 2) := by decide +kernel
theorem dX9_largestClass_18 : decode cX9_largestClass 18 = .ok (.iload 5, 2) := by decide +kernel
theorem dX9_largestClass_20 : decode cX9_largestClass 20 = .ok (.aload_n 0, 1) := by decide +kernel
theorem dX9_largestClass_21 : decode cX9_largestClass 21 = .ok (.getfield 31, 3) := by decide +kernel
theorem dX9_largestClass_24 : decode cX9_largestClass 24 = .ok (.if_icmp .ge 28, 3) := by decide +kernel
theorem dX9_largestClass_27 : decode cX9_largestClass 27 = .ok (.aload_n 0, 1) := by decide +kernel
theorem dX9_largestClass_28 : decode cX9_largestClass 28 = .ok (.iload_n 3, 1) := by decide +kernel
theorem dX9_largestClass_29 : decode cX9_largestClass 29 = .ok (.iload_n 1, 1) := by decide +kernel
theorem dX9_largestClass_30 : decode cX9_largestClass 30 = .ok (.invokevirtual 93, 3) := by decide +kernel
theorem dX9_largestClass_33 : decode cX9_largestClass 33 = .ok (.aload_n 0, 1) := by decide +kernel
theorem dX9_largestClass_34 : decode cX9_largestClass 34 = .ok (.iload 5, 2) := by decide +kernel
theorem dX9_largestClass_36 : decode cX9_largestClass 36 = .ok (.iload_n 1, 1) := by decide +kernel
theorem dX9_largestClass_37 : decode cX9_largestClass 37 = .ok (.invokevirtual 93, 3) := by decide +kernel
theorem dX9_largestClass_40 : decode cX9_largestClass 40 = .ok (.if_icmp .ne 6, 3) := by decide +kernel
theorem dX9_largestClass_43 : decode cX9_largestClass 43 = .ok (.iinc 4 1, 3) := by decide +kernel
theorem dX9_largestClass_46 : decode cX9_largestClass 46 = .ok (.iinc 5 1, 3) := by decide +kernel
theorem dX9_largestClass_49 : decode cX9_largestClass 49 = .ok (.goto (-31), 3) := by decide +kernel
theorem dX9_largestClass_52 : decode cX9_largestClass 52 = .ok (.iload_n 2, 1) := by decide +kernel
theorem dX9_largestClass_53 : decode cX9_largestClass 53 = .ok (.iload 4, 2) := by decide +kernel
theorem dX9_largestClass_55 : decode cX9_largestClass 55 = .ok (.invokestatic 83, 3) := by decide +kernel
theorem dX9_largestClass_58 : decode cX9_largestClass 58 = .ok (.istore_n 2, 1) := by decide +kernel
theorem dX9_largestClass_59 : decode cX9_largestClass 59 = .ok (.iinc 3 1, 3) := by decide +kernel
theorem dX9_largestClass_62 : decode cX9_largestClass 62 = .ok (.goto (-58), 3) := by decide +kernel
theorem dX9_largestClass_65 : decode cX9_largestClass 65 = .ok (.iload_n 2, 1) := by decide +kernel
theorem dX9_largestClass_66 : decode cX9_largestClass 66 = .ok (.ireturn, 1) := by decide +kernel
theorem wl_X9_93 : Cond.methodLink RX9 93 yX9_classCode ∈ xT := xin 1086 (by decide +kernel) rfl
section XN_X9_largestClass
variable {p : Program} {l : Launch} {e : Env} {R : Room} {s : State} {m : MethodId} {args : Array Value} {below : List Frame} {meth : Method} {c : Code} {H H0 : Heap} {locs : List Loc} {cells slots : Nat} {Q : State → Prop} {cc : ByteArray} {nL pc : Nat} {rt : Option FieldType} {ls : Array Slot} {rest : List Value} {D : xD} {ty : xTy} {h : xH}
theorem cl_X9_93 {v0 : Nat} {v1 : Int32} {v2 : Int32} {r : Int32} (C0 : xC D RX9 cc nL rt p s m args meth c) (hR : xRep D ty h H) (hS : xS ty H0 H locs) (hF : jf_X9_classCode ty h v0 v1 v2 = some r) (t_v0 : ty v0 = some (0, 9)) (hrm : jr_X9_classCode.frames + 1 ≤ R.frames ∧ 8 + (4 + 11) + jr_X9_classCode.locals ≤ R.locals) (hsz : ls.size = nL) (hW : (rest.map fun v => v.category).sum ≤ 8) (hf : cells ≤ R.cells ∧ slots ≤ R.slots) (hdg : decode cc pc = .ok (.invokevirtual 93, 3)) (kk : ∀ (H1 : Heap) (locs1 : List Loc), xRep D ty h H1 → xS ty H0 H1 locs1 → W p l e R s m args below meth c H1 locs1 cells slots Q (F0 m (pc + 3) ls (.int r :: rest))) : W p l e R s m args below meth c H locs cells slots Q (F0 m pc ls (.int v2 :: .int v1 :: .ref v0 :: rest)) := x_callV C0 (jc_X9_classCode t_v0 hF) xm_X9_classCode xi_X9_classCode xe_X9_classCode wl_X9_93 ⟨rfl, rfl, hrm⟩ (ci := 9) rfl t_v0 hR hS (As := [.int v1, .int v2]) rfl hsz rfl hW hdg hf kk
end XN_X9_largestClass
set_option maxHeartbeats 4000000 in
set_option maxRecDepth 100000 in
theorem jw_X9_largestClass_18 {p : Program} {l : Launch} {e : Env} {s : State} {m : MethodId} {args : Array Value} {below : List Frame} {meth : Method} {c : Code} {D : xD} {ty : xTy} {h : xH} {k4 : Nat → Int32 → Int32 → Int32 → Option (Int32)} (C0 : xC D RX9 cX9_largestClass 6 (some .int) p s m args meth c) {r : Int32} (hk4 : ∀ (v0 : Nat) (v1 : Int32) (v2 : Int32) (v3 : Int32), ty v0 = some (0, 9) → k4 v0 v1 v2 v3 = some r → ∀ (H : Heap) (locs : List Loc), xRep D ty h H → xS ty s.heap H locs → ∀ ls : Array Slot, lv_has ls 6 [(0, .ref v0), (1, .int v1), (2, .int v2), (3, .int v3)] → W p l e jr_X9_largestClass s m args below meth c H locs 0 0 (MQ below (xQ D ty (some (.int r)) h) args s 0 0 (xdom ty)) (F0 m 4 ls [])) : ∀ n : Nat, ∀ (v0 : Nat) (v1 : Int32) (v2 : Int32) (v3 : Int32) (v4 : Int32) (v5 : Int32), ty v0 = some (0, 9) → jf_X9_largestClass_18 ty h k4 n v0 v1 v2 v3 v4 v5 = some r → ∀ (H : Heap) (locs : List Loc), xRep D ty h H → xS ty s.heap H locs → ∀ ls : Array Slot, lv_has ls 6 [(0, .ref v0), (1, .int v1), (2, .int v2), (3, .int v3), (4, .int v4), (5, .int v5)] → W p l e jr_X9_largestClass s m args below meth c H locs 0 0 (MQ below (xQ D ty (some (.int r)) h) args s 0 0 (xdom ty)) (F0 m 18 ls []) := by
  have hx := C0.1
  have hb := C0.2.1
  have hown := C0.2.2.2.2.2.1
  have hts := C0.2.2.2.2.2.2.1
  intro n
  induction n with
  | zero =>
    intro v0 v1 v2 v3 v4 v5 t_v0 hF H locs hR hS ls hl
    cases hF
  | succ n ih =>
    intro v0 v1 v2 v3 v4 v5 t_v0 hF H locs hR hS ls hl
    rw [jf_X9_largestClass_18_s] at hF
    refine lv_iload hx hb dX9_largestClass_18 (lv_at hl 5 rfl) ?_
    refine lv_aload_n hx hb dX9_largestClass_20 rfl (lv_at hl 0 rfl) ?_
    refine gf_X9_31 C0 hR t_v0 dX9_largestClass_21 ?_
    refine lv_icmp_ge (tgt := 52) hx hb dX9_largestClass_24 (by decide) (fun c1 => ?_) (fun c1 => ?_)
    · have hF := xif hF c1
      refine lv_iload_n hx hb dX9_largestClass_52 rfl (lv_at hl 2 rfl) ?_
      refine lv_iload hx hb dX9_largestClass_53 (lv_at hl 4 rfl) ?_
      refine mm_X9_83 C0 hl.1 (Nat.le_of_ble_eq_true rfl) (Nat.le_of_ble_eq_true rfl) ⟨Nat.le_of_ble_eq_true rfl, Nat.le_of_ble_eq_true rfl⟩ dX9_largestClass_55 ?_
      refine lv_istore_n (lv' := [(2, .int (xmax v2 v4)), (0, .ref v0), (1, .int v1), (3, .int v3), (4, .int v4), (5, .int v5)]) hx hb dX9_largestClass_58 rfl hl (by decide) rfl (fun ls hl => ?_)
      refine lv_iinc (v := v3 + 1) (lv' := [(3, .int (v3 + 1)), (2, .int (xmax v2 v4)), (0, .ref v0), (1, .int v1), (4, .int v4), (5, .int v5)]) hx hb dX9_largestClass_59 hl (k := 3) rfl rfl (by decide) rfl (fun ls hl => ?_)
      refine lv_goto (tgt := 4) hx hb dX9_largestClass_62 (by decide) ?_
      exact hk4 _ _ _ _ t_v0 hF _ _ hR hS _ (lv_sub hl [2, 3, 1, 0] rfl)
    · have hF := xel hF c1
      refine lv_aload_n hx hb dX9_largestClass_27 rfl (lv_at hl 0 rfl) ?_
      refine lv_iload_n hx hb dX9_largestClass_28 rfl (lv_at hl 3 rfl) ?_
      refine lv_iload_n hx hb dX9_largestClass_29 rfl (lv_at hl 1 rfl) ?_
      obtain ⟨a2, e_a2, hF⟩ := xbd hF
      refine cl_X9_93 C0 hR hS e_a2 t_v0 ⟨(Nat.le_of_ble_eq_true rfl), (Nat.le_of_ble_eq_true rfl)⟩ hl.1 (Nat.le_of_ble_eq_true rfl) ⟨(Nat.le_of_ble_eq_true rfl), (Nat.le_of_ble_eq_true rfl)⟩ dX9_largestClass_30 (fun H locs hR hS => ?_)
      refine lv_aload_n hx hb dX9_largestClass_33 rfl (lv_at hl 0 rfl) ?_
      refine lv_iload hx hb dX9_largestClass_34 (lv_at hl 5 rfl) ?_
      refine lv_iload_n hx hb dX9_largestClass_36 rfl (lv_at hl 1 rfl) ?_
      obtain ⟨a3, e_a3, hF⟩ := xbd hF
      refine cl_X9_93 C0 hR hS e_a3 t_v0 ⟨(Nat.le_of_ble_eq_true rfl), (Nat.le_of_ble_eq_true rfl)⟩ hl.1 (Nat.le_of_ble_eq_true rfl) ⟨(Nat.le_of_ble_eq_true rfl), (Nat.le_of_ble_eq_true rfl)⟩ dX9_largestClass_37 (fun H locs hR hS => ?_)
      refine lv_icmp_ne (tgt := 46) hx hb dX9_largestClass_40 (by decide) (fun c4 => ?_) (fun c4 => ?_)
      · have hF := xel hF c4
        refine lv_iinc (v := v5 + 1) (lv' := [(5, .int (v5 + 1)), (0, .ref v0), (1, .int v1), (2, .int v2), (3, .int v3), (4, .int v4)]) hx hb dX9_largestClass_46 hl (k := 5) rfl rfl (by decide) rfl (fun ls hl => ?_)
        refine lv_goto (tgt := 18) hx hb dX9_largestClass_49 (by decide) ?_
        exact ih _ _ _ _ _ _ t_v0 hF _ _ hR hS _ (lv_sub hl [1, 2, 3, 4, 5, 0] rfl)
      · have hF := xif hF c4
        refine lv_iinc (v := v4 + 1) (lv' := [(4, .int (v4 + 1)), (0, .ref v0), (1, .int v1), (2, .int v2), (3, .int v3), (5, .int v5)]) hx hb dX9_largestClass_43 hl (k := 4) rfl rfl (by decide) rfl (fun ls hl => ?_)
        refine lv_iinc (v := v5 + 1) (lv' := [(5, .int (v5 + 1)), (4, .int (v4 + 1)), (0, .ref v0), (1, .int v1), (2, .int v2), (3, .int v3)]) hx hb dX9_largestClass_46 hl (k := 5) rfl rfl (by decide) rfl (fun ls hl => ?_)
        refine lv_goto (tgt := 18) hx hb dX9_largestClass_49 (by decide) ?_
        exact ih _ _ _ _ _ _ t_v0 hF _ _ hR hS _ (lv_sub hl [2, 3, 4, 5, 1, 0] rfl)
set_option maxHeartbeats 4000000 in
set_option maxRecDepth 100000 in
theorem jw_X9_largestClass_4 {p : Program} {l : Launch} {e : Env} {s : State} {m : MethodId} {args : Array Value} {below : List Frame} {meth : Method} {c : Code} {D : xD} {ty : xTy} {h : xH} (C0 : xC D RX9 cX9_largestClass 6 (some .int) p s m args meth c) {r : Int32} : ∀ n : Nat, ∀ (v0 : Nat) (v1 : Int32) (v2 : Int32) (v3 : Int32), ty v0 = some (0, 9) → jf_X9_largestClass_4 ty h n v0 v1 v2 v3 = some r → ∀ (H : Heap) (locs : List Loc), xRep D ty h H → xS ty s.heap H locs → ∀ ls : Array Slot, lv_has ls 6 [(0, .ref v0), (1, .int v1), (2, .int v2), (3, .int v3)] → W p l e jr_X9_largestClass s m args below meth c H locs 0 0 (MQ below (xQ D ty (some (.int r)) h) args s 0 0 (xdom ty)) (F0 m 4 ls []) := by
  have hx := C0.1
  have hb := C0.2.1
  have hown := C0.2.2.2.2.2.1
  have hts := C0.2.2.2.2.2.2.1
  intro n
  induction n with
  | zero =>
    intro v0 v1 v2 v3 t_v0 hF H locs hR hS ls hl
    cases hF
  | succ n ih =>
    intro v0 v1 v2 v3 t_v0 hF H locs hR hS ls hl
    rw [jf_X9_largestClass_4_s] at hF
    refine lv_iload_n hx hb dX9_largestClass_4 rfl (lv_at hl 3 rfl) ?_
    refine lv_aload_n hx hb dX9_largestClass_5 rfl (lv_at hl 0 rfl) ?_
    refine gf_X9_31 C0 hR t_v0 dX9_largestClass_6 ?_
    refine lv_icmp_ge (tgt := 65) hx hb dX9_largestClass_9 (by decide) (fun c5 => ?_) (fun c5 => ?_)
    · have hF := xif hF c5
      refine lv_iload_n hx hb dX9_largestClass_65 rfl (lv_at hl 2 rfl) ?_
      cases hF
      exact x_iret C0 hR hS dX9_largestClass_66
    · have hF := xel hF c5
      refine lv_iconst (v := 0) hx hb dX9_largestClass_12 (by decide) ?_
      refine lv_istore (lv' := [(4, .int 0), (0, .ref v0), (1, .int v1), (2, .int v2), (3, .int v3)]) hx hb dX9_largestClass_13 hl (by decide) rfl (fun ls hl => ?_)
      refine lv_iconst (v := 0) hx hb dX9_largestClass_15 (by decide) ?_
      refine lv_istore (lv' := [(5, .int 0), (4, .int 0), (0, .ref v0), (1, .int v1), (2, .int v2), (3, .int v3)]) hx hb dX9_largestClass_16 hl (by decide) rfl (fun ls hl => ?_)
      obtain ⟨_, hF⟩ := xlim_sp hF
      exact jw_X9_largestClass_18 C0 ih _ _ _ _ _ _ _ t_v0 hF _ _ hR hS _ (lv_sub hl [2, 3, 4, 5, 1, 0] rfl)
set_option maxHeartbeats 4000000 in
set_option maxRecDepth 100000 in
theorem jc_X9_largestClass {l : Launch} {D : xD} {ty : xTy} {h : xH} {v0 : Nat} {v1 : Int32} {r : Int32} (t_v0 : ty v0 = some (0, 9)) (hF : jf_X9_largestClass ty h v0 v1 = some r) : Met l yX9_largestClass (xws yX9_largestClass cX9_largestClass 6 (some .int)) jr_X9_largestClass (xPc D ty h [.ref v0, .int v1]) (xQ D ty (some (.int r)) h) 0 0 (xdom ty) := by
  refine x_met (by decide) ?_
  intro p e s m below meth c C0 hR
  generalize hargs : ([.ref v0, .int v1] : List Value).toArray = args at C0 ⊢
  have hx := C0.1
  have hb := C0.2.1
  have hown := C0.2.2.2.2.2.1
  have hts := C0.2.2.2.2.2.2.1
  have hS : xS ty s.heap s.heap [] := xS.rf
  have hl := lv_entry ([.ref v0, .int v1]) (n := 6) (Nat.le_of_ble_eq_true rfl)
  rw [← hargs, lg_entry_eq]
  rw [hargs]
  generalize (lg_sl ([.ref v0, .int v1]) ++ List.replicate (6 - (lg_sl ([.ref v0, .int v1])).length) Slot.unset).toArray = ls at hl ⊢
  have hl : lv_has ls 6 [(0, .ref v0), (1, .int v1)] := hl
  unfold jf_X9_largestClass at hF
  refine lv_iconst (v := 0) hx hb dX9_largestClass_0 (by decide) ?_
  refine lv_istore_n (lv' := [(2, .int 0), (0, .ref v0), (1, .int v1)]) hx hb dX9_largestClass_1 rfl hl (by decide) rfl (fun ls hl => ?_)
  refine lv_iconst (v := 0) hx hb dX9_largestClass_2 (by decide) ?_
  refine lv_istore_n (lv' := [(3, .int 0), (2, .int 0), (0, .ref v0), (1, .int v1)]) hx hb dX9_largestClass_3 rfl hl (by decide) rfl (fun ls hl => ?_)
  obtain ⟨_, hF⟩ := xlim_sp hF
  exact jw_X9_largestClass_4 C0 _ _ _ _ _ t_v0 hF _ _ hR hS _ (lv_sub hl [2, 3, 1, 0] rfl)
theorem xm_X9_largestClass : xMw yX9_largestClass cX9_largestClass 6 (some .int) 1 := ⟨xin 1085 (by decide +kernel) rfl, xin 120 (by decide +kernel) rfl, by decide +kernel⟩
theorem xi_X9_largestClass : Cond.instanceMethod yX9_largestClass ∈ xT := xin 1083 (by decide +kernel) rfl
theorem xe_X9_largestClass : Cond.selects yX9_largestClass.cls yX9_largestClass yX9_largestClass ∈ xT := xin 1084 (by decide +kernel) rfl
theorem dX9_walkPath_0 : decode cX9_walkPath 0 = .ok (.aload_n 0, 1) := by decide +kernel
theorem dX9_walkPath_1 : decode cX9_walkPath 1 = .ok (.iload_n 1, 1) := by decide +kernel
theorem dX9_walkPath_2 : decode cX9_walkPath 2 = .ok (.invokevirtual 60, 3) := by decide +kernel
theorem dX9_walkPath_5 : decode cX9_walkPath 5 = .ok (.astore 4, 2) := by decide +kernel
theorem dX9_walkPath_7 : decode cX9_walkPath 7 = .ok (.iconst 0, 1) := by decide +kernel
theorem dX9_walkPath_8 : decode cX9_walkPath 8 = .ok (.istore 5, 2) := by decide +kernel
theorem dX9_walkPath_10 : decode cX9_walkPath 10 = .ok (.iconst 0, 1) := by decide +kernel
theorem dX9_walkPath_11 : decode cX9_walkPath 11 = .ok (.istore 6, 2) := by decide +kernel
theorem dX9_walkPath_13 : decode cX9_walkPath 13 = .ok (.iconst 0, 1) := by decide +kernel
theorem dX9_walkPath_14 : decode cX9_walkPath 14 = .ok (.istore 7, 2) := by decide +kernel
theorem dX9_walkPath_16 : decode cX9_walkPath 16 = .ok (.iload 7, 2) := by decide +kernel
theorem dX9_walkPath_18 : decode cX9_walkPath 18 = .ok (.bipush 12, 2) := by decide +kernel
theorem dX9_walkPath_20 : decode cX9_walkPath 20 = .ok (.if_icmp .ge 170, 3) := by decide +kernel
theorem dX9_walkPath_23 : decode cX9_walkPath 23 = .ok (.iload 6, 2) := by decide +kernel
theorem dX9_walkPath_25 : decode cX9_walkPath 25 = .ok (.aload_n 3, 1) := by decide +kernel
theorem dX9_walkPath_26 : decode cX9_walkPath 26 = .ok (.getfield 71, 3) := by decide +kernel
theorem dX9_walkPath_29 : decode cX9_walkPath 29 = .ok (.if_icmp .ge 161, 3) := by decide +kernel
theorem dX9_walkPath_32 : decode cX9_walkPath 32 = .ok (.aload 4, 2) := by decide +kernel
theorem dX9_walkPath_34 : decode cX9_walkPath 34 = .ok (.iload 5, 2) := by decide +kernel
theorem dX9_walkPath_36 : decode cX9_walkPath 36 = .ok (.invokevirtual 100, 3) := by decide +kernel
theorem dX9_walkPath_39 : decode cX9_walkPath 39 = .ok (.bipush 100, 2) := by decide +kernel
theorem dX9_walkPath_41 : decode cX9_walkPath 41 = .ok (.if_icmp .lt 7, 3) := by decide +kernel
theorem dX9_walkPath_44 : decode cX9_walkPath 44 = .ok (.iconst 1, 1) := by decide +kernel
theorem dX9_walkPath_45 : decode cX9_walkPath 45 = .ok (.goto 4, 3) := by decide +kernel
theorem dX9_walkPath_48 : decode cX9_walkPath 48 = .ok (.iconst 0, 1) := by decide +kernel
theorem dX9_walkPath_49 : decode cX9_walkPath 49 = .ok (.istore 8, 2) := by decide +kernel
theorem dX9_walkPath_51 : decode cX9_walkPath 51 = .ok (.aload_n 3, 1) := by decide +kernel
theorem dX9_walkPath_52 : decode cX9_walkPath 52 = .ok (.iload 6, 2) := by decide +kernel
theorem dX9_walkPath_54 : decode cX9_walkPath 54 = .ok (.invokevirtual 100, 3) := by decide +kernel
theorem dX9_walkPath_57 : decode cX9_walkPath 57 = .ok (.bipush 100, 2) := by decide +kernel
theorem dX9_walkPath_59 : decode cX9_walkPath 59 = .ok (.if_icmp .lt 7, 3) := by decide +kernel
theorem dX9_walkPath_62 : decode cX9_walkPath 62 = .ok (.iconst 1, 1) := by decide +kernel
theorem dX9_walkPath_63 : decode cX9_walkPath 63 = .ok (.goto 4, 3) := by decide +kernel
theorem dX9_walkPath_66 : decode cX9_walkPath 66 = .ok (.iconst 0, 1) := by decide +kernel
theorem dX9_walkPath_67 : decode cX9_walkPath 67 = .ok (.istore 9, 2) := by decide +kernel
theorem dX9_walkPath_69 : decode cX9_walkPath 69 = .ok (.iload 9, 2) := by decide +kernel
theorem dX9_walkPath_71 : decode cX9_walkPath 71 = .ok (.ifCond .eq 27, 3) := by decide +kernel
theorem dX9_walkPath_74 : decode cX9_walkPath 74 = .ok (.iload 8, 2) := by decide +kernel
theorem dX9_walkPath_76 : decode cX9_walkPath 76 = .ok (.ifCond .ne 7, 3) := by decide +kernel
theorem dX9_walkPath_79 : decode cX9_walkPath 79 = .ok (.iload_n 2, 1) := by decide +kernel
theorem dX9_walkPath_80 : decode cX9_walkPath 80 = .ok (.ifCond .eq 18, 3) := by decide +kernel
theorem dX9_walkPath_83 : decode cX9_walkPath 83 = .ok (.aload 4, 2) := by decide +kernel
theorem dX9_walkPath_85 : decode cX9_walkPath 85 = .ok (.iload 5, 2) := by decide +kernel
theorem dX9_walkPath_87 : decode cX9_walkPath 87 = .ok (.invokevirtual 103, 3) := by decide +kernel
theorem dX9_walkPath_90 : decode cX9_walkPath 90 = .ok (.istore 5, 2) := by decide +kernel
theorem dX9_walkPath_92 : decode cX9_walkPath 92 = .ok (.iinc 6 1, 3) := by decide +kernel
theorem dX9_walkPath_95 : decode cX9_walkPath 95 = .ok (.goto 69, 3) := by decide +kernel
theorem dX9_walkPath_98 : decode cX9_walkPath 98 = .ok (.iload 9, 2) := by decide +kernel
theorem dX9_walkPath_100 : decode cX9_walkPath 100 = .ok (.ifCond .ne 27, 3) := by decide +kernel
theorem dX9_walkPath_103 : decode cX9_walkPath 103 = .ok (.iload 8, 2) := by decide +kernel
theorem dX9_walkPath_105 : decode cX9_walkPath 105 = .ok (.ifCond .eq 22, 3) := by decide +kernel
theorem dX9_walkPath_108 : decode cX9_walkPath 108 = .ok (.iload_n 2, 1) := by decide +kernel
theorem dX9_walkPath_109 : decode cX9_walkPath 109 = .ok (.iconst 1, 1) := by decide +kernel
theorem dX9_walkPath_110 : decode cX9_walkPath 110 = .ok (.if_icmp .eq 17, 3) := by decide +kernel
theorem dX9_walkPath_113 : decode cX9_walkPath 113 = .ok (.iinc 5 1, 3) := by decide +kernel
theorem dX9_walkPath_116 : decode cX9_walkPath 116 = .ok (.aload_n 3, 1) := by decide +kernel
theorem dX9_walkPath_117 : decode cX9_walkPath 117 = .ok (.iload 6, 2) := by decide +kernel
theorem dX9_walkPath_119 : decode cX9_walkPath 119 = .ok (.invokevirtual 103, 3) := by decide +kernel
theorem dX9_walkPath_122 : decode cX9_walkPath 122 = .ok (.istore 6, 2) := by decide +kernel
theorem dX9_walkPath_124 : decode cX9_walkPath 124 = .ok (.goto 40, 3) := by decide +kernel
theorem dX9_walkPath_127 : decode cX9_walkPath 127 = .ok (.iload 9, 2) := by decide +kernel
theorem dX9_walkPath_129 : decode cX9_walkPath 129 = .ok (.ifCond .ne 33, 3) := by decide +kernel
theorem dX9_walkPath_132 : decode cX9_walkPath 132 = .ok (.iload 8, 2) := by decide +kernel
theorem dX9_walkPath_134 : decode cX9_walkPath 134 = .ok (.ifCond .ne 28, 3) := by decide +kernel
theorem dX9_walkPath_137 : decode cX9_walkPath 137 = .ok (.aload 4, 2) := by decide +kernel
theorem dX9_walkPath_139 : decode cX9_walkPath 139 = .ok (.iload 5, 2) := by decide +kernel
theorem dX9_walkPath_141 : decode cX9_walkPath 141 = .ok (.invokevirtual 100, 3) := by decide +kernel
theorem dX9_walkPath_144 : decode cX9_walkPath 144 = .ok (.aload_n 3, 1) := by decide +kernel
theorem dX9_walkPath_145 : decode cX9_walkPath 145 = .ok (.iload 6, 2) := by decide +kernel
theorem dX9_walkPath_147 : decode cX9_walkPath 147 = .ok (.invokevirtual 100, 3) := by decide +kernel
theorem dX9_walkPath_150 : decode cX9_walkPath 150 = .ok (.if_icmp .ne 12, 3) := by decide +kernel
theorem dX9_walkPath_153 : decode cX9_walkPath 153 = .ok (.iinc 5 1, 3) := by decide +kernel
theorem dX9_walkPath_156 : decode cX9_walkPath 156 = .ok (.iinc 6 1, 3) := by decide +kernel
theorem dX9_walkPath_159 : decode cX9_walkPath 159 = .ok (.goto 5, 3) := by decide +kernel
theorem dX9_walkPath_162 : decode cX9_walkPath 162 = .ok (.iconst 0, 1) := by decide +kernel
theorem dX9_walkPath_163 : decode cX9_walkPath 163 = .ok (.ireturn, 1) := by decide +kernel
theorem dX9_walkPath_164 : decode cX9_walkPath 164 = .ok (.aload_n 0, 1) := by decide +kernel
theorem dX9_walkPath_165 : decode cX9_walkPath 165 = .ok (.iload_n 1, 1) := by decide +kernel
theorem dX9_walkPath_166 : decode cX9_walkPath 166 = .ok (.iload 5, 2) := by decide +kernel
theorem dX9_walkPath_168 : decode cX9_walkPath 168 = .ok (.invokevirtual 72, 3) := by decide +kernel
theorem dX9_walkPath_171 : decode cX9_walkPath 171 = .ok (.ifCond .eq 13, 3) := by decide +kernel
theorem dX9_walkPath_174 : decode cX9_walkPath 174 = .ok (.aload_n 0, 1) := by decide +kernel
theorem dX9_walkPath_175 : decode cX9_walkPath 175 = .ok (.dup, 1) := by decide +kernel
theorem dX9_walkPath_176 : decode cX9_walkPath 176 = .ok (.getfield 38, 3) := by decide +kernel
theorem dX9_walkPath_179 : decode cX9_walkPath 179 = .ok (.iconst 1, 1) := by decide +kernel
theorem dX9_walkPath_180 : decode cX9_walkPath 180 = .ok (.iadd, 1) := by decide +kernel
theorem dX9_walkPath_181 : decode cX9_walkPath 181 = .ok (.putfield 38, 3) := by decide +kernel
theorem dX9_walkPath_184 : decode cX9_walkPath 184 = .ok (.iinc 7 1, 3) := by decide +kernel
theorem dX9_walkPath_187 : decode cX9_walkPath 187 = .ok (.goto (-171), 3) := by decide +kernel
theorem dX9_walkPath_190 : decode cX9_walkPath 190 = .ok (.iload 5, 2) := by decide +kernel
theorem dX9_walkPath_192 : decode cX9_walkPath 192 = .ok (.aload 4, 2) := by decide +kernel
theorem dX9_walkPath_194 : decode cX9_walkPath 194 = .ok (.getfield 71, 3) := by decide +kernel
theorem dX9_walkPath_197 : decode cX9_walkPath 197 = .ok (.if_icmp .lt 16, 3) := by decide +kernel
theorem dX9_walkPath_200 : decode cX9_walkPath 200 = .ok (.iload 6, 2) := by decide +kernel
theorem dX9_walkPath_202 : decode cX9_walkPath 202 = .ok (.aload_n 3, 1) := by decide +kernel
theorem dX9_walkPath_203 : decode cX9_walkPath 203 = .ok (.getfield 71, 3) := by decide +kernel
theorem dX9_walkPath_206 : decode cX9_walkPath 206 = .ok (.if_icmp .lt 7, 3) := by decide +kernel
theorem dX9_walkPath_209 : decode cX9_walkPath 209 = .ok (.iconst 1, 1) := by decide +kernel
theorem dX9_walkPath_210 : decode cX9_walkPath 210 = .ok (.goto 4, 3) := by decide +kernel
theorem dX9_walkPath_213 : decode cX9_walkPath 213 = .ok (.iconst 0, 1) := by decide +kernel
theorem dX9_walkPath_214 : decode cX9_walkPath 214 = .ok (.ireturn, 1) := by decide +kernel
theorem wl_X9_100 : Cond.methodLink RX9 100 yX7_codeAt ∈ xT := xin 897 (by decide +kernel) rfl
theorem wl_X9_103 : Cond.methodLink RX9 103 yX7_behind ∈ xT := xin 898 (by decide +kernel) rfl
theorem wf_X9_38 : Cond.fieldLink RX9 38 "TermShelf$Tree" "visited" "I" ∈ xT := xin 316 (by decide +kernel) rfl
section XN_X9_walkPath
variable {p : Program} {l : Launch} {e : Env} {R : Room} {s : State} {m : MethodId} {args : Array Value} {below : List Frame} {meth : Method} {c : Code} {H H0 : Heap} {locs : List Loc} {cells slots : Nat} {Q : State → Prop} {cc : ByteArray} {nL pc : Nat} {rt : Option FieldType} {ls : Array Slot} {rest : List Value} {D : xD} {ty : xTy} {h : xH}
theorem cl_X9_100 {v0 : Nat} {v1 : Int32} {r : Int32} (C0 : xC D RX9 cc nL rt p s m args meth c) (hR : xRep D ty h H) (hS : xS ty H0 H locs) (hF : jf_X7_codeAt ty h v0 v1 = some r) (t_v0 : ty v0 = some (0, 7)) (hrm : jr_X7_codeAt.frames + 1 ≤ R.frames ∧ 8 + (2 + 11) + jr_X7_codeAt.locals ≤ R.locals) (hsz : ls.size = nL) (hW : (rest.map fun v => v.category).sum ≤ 8) (hf : cells ≤ R.cells ∧ slots ≤ R.slots) (hdg : decode cc pc = .ok (.invokevirtual 100, 3)) (kk : ∀ (H1 : Heap) (locs1 : List Loc), xRep D ty h H1 → xS ty H0 H1 locs1 → W p l e R s m args below meth c H1 locs1 cells slots Q (F0 m (pc + 3) ls (.int r :: rest))) : W p l e R s m args below meth c H locs cells slots Q (F0 m pc ls (.int v1 :: .ref v0 :: rest)) := x_callV C0 (jc_X7_codeAt t_v0 hF) xm_X7_codeAt xi_X7_codeAt xe_X7_codeAt wl_X9_100 ⟨rfl, rfl, hrm⟩ (ci := 7) rfl t_v0 hR hS (As := [.int v1]) rfl hsz rfl hW hdg hf kk
theorem cl_X9_103 {v0 : Nat} {v1 : Int32} {r : Int32} (C0 : xC D RX9 cc nL rt p s m args meth c) (hR : xRep D ty h H) (hS : xS ty H0 H locs) (hF : jf_X7_behind ty h v0 v1 = some r) (t_v0 : ty v0 = some (0, 7)) (hrm : jr_X7_behind.frames + 1 ≤ R.frames ∧ 8 + (4 + 11) + jr_X7_behind.locals ≤ R.locals) (hsz : ls.size = nL) (hW : (rest.map fun v => v.category).sum ≤ 8) (hf : cells ≤ R.cells ∧ slots ≤ R.slots) (hdg : decode cc pc = .ok (.invokevirtual 103, 3)) (kk : ∀ (H1 : Heap) (locs1 : List Loc), xRep D ty h H1 → xS ty H0 H1 locs1 → W p l e R s m args below meth c H1 locs1 cells slots Q (F0 m (pc + 3) ls (.int r :: rest))) : W p l e R s m args below meth c H locs cells slots Q (F0 m pc ls (.int v1 :: .ref v0 :: rest)) := x_callV C0 (jc_X7_behind t_v0 hF) xm_X7_behind xi_X7_behind xe_X7_behind wl_X9_103 ⟨rfl, rfl, hrm⟩ (ci := 7) rfl t_v0 hR hS (As := [.int v1]) rfl hsz rfl hW hdg hf kk
theorem gf_X9_38 {a : Nat} (C0 : xC D RX9 cc nL rt p s m args meth c) (hR : xRep D ty h H) (ht : ty a = some (0, 9)) (hdg : decode cc pc = .ok (.getfield 38, 3)) (kk : W p l e R s m args below meth c H locs cells slots Q (F0 m (pc + 3) ls (.int (xI h a 6) :: rest))) : W p l e R s m args below meth c H locs cells slots Q (F0 m pc ls (.ref a :: rest)) := x_get C0 hR (ci := 9) (k := 6) (N := 7) (T := TX9) rfl iX9 (by decide) rfl wf_X9_38 rfl ht hdg kk
theorem pf_X9_38 {a : Nat} {v : Int32} (C0 : xC D RX9 cc nL rt p s m args meth c) (hR : xRep D ty h H) (hS : xS ty H0 H locs) (ht : ty a = some (0, 9)) (hdg : decode cc pc = .ok (.putfield 38, 3)) (kk : ∀ (H1 : Heap) (locs1 : List Loc), xRep D ty (xsI h a 6 v) H1 → xS ty H0 H1 locs1 → W p l e R s m args below meth c H1 locs1 cells slots Q (F0 m (pc + 3) ls rest)) : W p l e R s m args below meth c H locs cells slots Q (F0 m pc ls (.int v :: .ref a :: rest)) := x_puti C0 hR hS (ci := 9) (k := 6) (N := 7) (T := TX9) rfl iX9 tyX9_ok nmX9 (by decide) rfl rfl wf_X9_38 (Or.inl rfl) rfl rfl ht hdg kk
end XN_X9_walkPath
set_option maxHeartbeats 4000000 in
set_option maxRecDepth 100000 in
theorem jw_X9_walkPath_190 {p : Program} {l : Launch} {e : Env} {s : State} {m : MethodId} {args : Array Value} {below : List Frame} {meth : Method} {c : Code} {D : xD} {ty : xTy} (C0 : xC D RX9 cX9_walkPath 10 (some .boolean) p s m args meth c) {r : Int32} {h9 : xH} : ∀ (v3 : Nat) (v4 : Nat) (v5 : Int32) (v6 : Int32) (h : xH), ty v3 = some (0, 7) → ty v4 = some (0, 7) → jf_X9_walkPath_190 ty v3 v4 v5 v6 h = some (r, h9) → ∀ (H : Heap) (locs : List Loc), xRep D ty h H → xS ty s.heap H locs → ∀ ls : Array Slot, lv_has ls 10 [(3, .ref v3), (4, .ref v4), (5, .int v5), (6, .int v6)] → W p l e jr_X9_walkPath s m args below meth c H locs 0 0 (MQ below (xQ D ty (some (.int r)) h9) args s 0 0 (xdom ty)) (F0 m 190 ls []) := by
  have hx := C0.1
  have hb := C0.2.1
  have hown := C0.2.2.2.2.2.1
  have hts := C0.2.2.2.2.2.2.1
  intro v3 v4 v5 v6 h t_v3 t_v4 hF H locs hR hS ls hl
  unfold jf_X9_walkPath_190 at hF
  refine lv_iload hx hb dX9_walkPath_190 (lv_at hl 2 rfl) ?_
  refine lv_aload hx hb dX9_walkPath_192 (lv_at hl 1 rfl) ?_
  refine gf_X9_71 C0 hR t_v4 dX9_walkPath_194 ?_
  refine lv_icmp_lt (tgt := 213) hx hb dX9_walkPath_197 (by decide) (fun c1 => ?_) (fun c1 => ?_)
  · have hF := xif hF c1
    refine lv_iconst (v := 0) hx hb dX9_walkPath_213 (by decide) ?_
    cases hF
    exact x_zret (w := 0) C0 hR hS (by decide) dX9_walkPath_214
  · have hF := xel hF c1
    refine lv_iload hx hb dX9_walkPath_200 (lv_at hl 3 rfl) ?_
    refine lv_aload_n hx hb dX9_walkPath_202 rfl (lv_at hl 0 rfl) ?_
    refine gf_X9_71 C0 hR t_v3 dX9_walkPath_203 ?_
    refine lv_icmp_lt (tgt := 213) hx hb dX9_walkPath_206 (by decide) (fun c2 => ?_) (fun c2 => ?_)
    · have hF := xif hF c2
      refine lv_iconst (v := 0) hx hb dX9_walkPath_213 (by decide) ?_
      cases hF
      exact x_zret (w := 0) C0 hR hS (by decide) dX9_walkPath_214
    · have hF := xel hF c2
      refine lv_iconst (v := 1) hx hb dX9_walkPath_209 (by decide) ?_
      refine lv_goto (tgt := 214) hx hb dX9_walkPath_210 (by decide) ?_
      cases hF
      exact x_zret (w := 1) C0 hR hS (by decide) dX9_walkPath_214
set_option maxHeartbeats 4000000 in
set_option maxRecDepth 100000 in
theorem jw_X9_walkPath_164 {p : Program} {l : Launch} {e : Env} {s : State} {m : MethodId} {args : Array Value} {below : List Frame} {meth : Method} {c : Code} {D : xD} {ty : xTy} {k16 : Nat → Int32 → Int32 → Nat → Nat → Int32 → Int32 → Int32 → xH → Option (Int32 × xH)} (C0 : xC D RX9 cX9_walkPath 10 (some .boolean) p s m args meth c) {r : Int32} {h9 : xH} (hk16 : ∀ (v0 : Nat) (v1 : Int32) (v2 : Int32) (v3 : Nat) (v4 : Nat) (v5 : Int32) (v6 : Int32) (v7 : Int32) (h : xH), ty v0 = some (0, 9) → ty v3 = some (0, 7) → ty v4 = some (0, 7) → k16 v0 v1 v2 v3 v4 v5 v6 v7 h = some (r, h9) → ∀ (H : Heap) (locs : List Loc), xRep D ty h H → xS ty s.heap H locs → ∀ ls : Array Slot, lv_has ls 10 [(0, .ref v0), (1, .int v1), (2, .int v2), (3, .ref v3), (4, .ref v4), (5, .int v5), (6, .int v6), (7, .int v7)] → W p l e jr_X9_walkPath s m args below meth c H locs 0 0 (MQ below (xQ D ty (some (.int r)) h9) args s 0 0 (xdom ty)) (F0 m 16 ls [])) : ∀ (v0 : Nat) (v1 : Int32) (v2 : Int32) (v3 : Nat) (v4 : Nat) (v5 : Int32) (v6 : Int32) (v7 : Int32) (h : xH), ty v0 = some (0, 9) → ty v3 = some (0, 7) → ty v4 = some (0, 7) → jf_X9_walkPath_164 ty k16 v0 v1 v2 v3 v4 v5 v6 v7 h = some (r, h9) → ∀ (H : Heap) (locs : List Loc), xRep D ty h H → xS ty s.heap H locs → ∀ ls : Array Slot, lv_has ls 10 [(0, .ref v0), (1, .int v1), (2, .int v2), (3, .ref v3), (4, .ref v4), (5, .int v5), (6, .int v6), (7, .int v7)] → W p l e jr_X9_walkPath s m args below meth c H locs 0 0 (MQ below (xQ D ty (some (.int r)) h9) args s 0 0 (xdom ty)) (F0 m 164 ls []) := by
  have hx := C0.1
  have hb := C0.2.1
  have hown := C0.2.2.2.2.2.1
  have hts := C0.2.2.2.2.2.2.1
  intro v0 v1 v2 v3 v4 v5 v6 v7 h t_v0 t_v3 t_v4 hF H locs hR hS ls hl
  unfold jf_X9_walkPath_164 at hF
  refine lv_aload_n hx hb dX9_walkPath_164 rfl (lv_at hl 0 rfl) ?_
  refine lv_iload_n hx hb dX9_walkPath_165 rfl (lv_at hl 1 rfl) ?_
  refine lv_iload hx hb dX9_walkPath_166 (lv_at hl 5 rfl) ?_
  obtain ⟨a3, e_a3, hF⟩ := xbd hF
  refine cl_X9_72 C0 hR hS e_a3 t_v0 ⟨(Nat.le_of_ble_eq_true rfl), (Nat.le_of_ble_eq_true rfl)⟩ hl.1 (Nat.le_of_ble_eq_true rfl) ⟨(Nat.le_of_ble_eq_true rfl), (Nat.le_of_ble_eq_true rfl)⟩ dX9_walkPath_168 (fun H locs hR hS => ?_)
  refine lv_if_eq (tgt := 184) hx hb dX9_walkPath_171 (by decide) (fun c4 => ?_) (fun c4 => ?_)
  · have hF := xif hF c4
    refine lv_iinc (v := v7 + 1) (lv' := [(7, .int (v7 + 1)), (0, .ref v0), (1, .int v1), (2, .int v2), (3, .ref v3), (4, .ref v4), (5, .int v5), (6, .int v6)]) hx hb dX9_walkPath_184 hl (k := 7) rfl rfl (by decide) rfl (fun ls hl => ?_)
    refine lv_goto (tgt := 16) hx hb dX9_walkPath_187 (by decide) ?_
    exact hk16 _ _ _ _ _ _ _ _ _ t_v0 t_v3 t_v4 hF _ _ hR hS _ (lv_sub hl [1, 2, 3, 4, 5, 6, 7, 0] rfl)
  · have hF := xel hF c4
    refine lv_aload_n hx hb dX9_walkPath_174 rfl (lv_at hl 0 rfl) ?_
    refine lv_dup hx hb dX9_walkPath_175 rfl ?_
    refine gf_X9_38 C0 hR t_v0 dX9_walkPath_176 ?_
    refine lv_iconst (v := 1) hx hb dX9_walkPath_179 (by decide) ?_
    refine lv_iadd hx hb dX9_walkPath_180 ?_
    obtain ⟨h5, e_h5, hF⟩ := xbd hF
    refine pf_X9_38 C0 hR hS t_v0 dX9_walkPath_181 (fun H locs hR hS => ?_)
    rw [Option.some.inj e_h5] at hR
    refine lv_iinc (v := v7 + 1) (lv' := [(7, .int (v7 + 1)), (0, .ref v0), (1, .int v1), (2, .int v2), (3, .ref v3), (4, .ref v4), (5, .int v5), (6, .int v6)]) hx hb dX9_walkPath_184 hl (k := 7) rfl rfl (by decide) rfl (fun ls hl => ?_)
    refine lv_goto (tgt := 16) hx hb dX9_walkPath_187 (by decide) ?_
    exact hk16 _ _ _ _ _ _ _ _ _ t_v0 t_v3 t_v4 hF _ _ hR hS _ (lv_sub hl [1, 2, 3, 4, 5, 6, 7, 0] rfl)
set_option maxHeartbeats 4000000 in
set_option maxRecDepth 100000 in
theorem jw_X9_walkPath_127 {p : Program} {l : Launch} {e : Env} {s : State} {m : MethodId} {args : Array Value} {below : List Frame} {meth : Method} {c : Code} {D : xD} {ty : xTy} {k16 : Nat → Int32 → Int32 → Nat → Nat → Int32 → Int32 → Int32 → xH → Option (Int32 × xH)} (C0 : xC D RX9 cX9_walkPath 10 (some .boolean) p s m args meth c) {r : Int32} {h9 : xH} (hk16 : ∀ (v0 : Nat) (v1 : Int32) (v2 : Int32) (v3 : Nat) (v4 : Nat) (v5 : Int32) (v6 : Int32) (v7 : Int32) (h : xH), ty v0 = some (0, 9) → ty v3 = some (0, 7) → ty v4 = some (0, 7) → k16 v0 v1 v2 v3 v4 v5 v6 v7 h = some (r, h9) → ∀ (H : Heap) (locs : List Loc), xRep D ty h H → xS ty s.heap H locs → ∀ ls : Array Slot, lv_has ls 10 [(0, .ref v0), (1, .int v1), (2, .int v2), (3, .ref v3), (4, .ref v4), (5, .int v5), (6, .int v6), (7, .int v7)] → W p l e jr_X9_walkPath s m args below meth c H locs 0 0 (MQ below (xQ D ty (some (.int r)) h9) args s 0 0 (xdom ty)) (F0 m 16 ls [])) : ∀ (v0 : Nat) (v1 : Int32) (v2 : Int32) (v3 : Nat) (v4 : Nat) (v5 : Int32) (v6 : Int32) (v7 : Int32) (v8 : Int32) (v9 : Int32) (h : xH), ty v0 = some (0, 9) → ty v3 = some (0, 7) → ty v4 = some (0, 7) → jf_X9_walkPath_127 ty k16 v0 v1 v2 v3 v4 v5 v6 v7 v8 v9 h = some (r, h9) → ∀ (H : Heap) (locs : List Loc), xRep D ty h H → xS ty s.heap H locs → ∀ ls : Array Slot, lv_has ls 10 [(0, .ref v0), (1, .int v1), (2, .int v2), (3, .ref v3), (4, .ref v4), (5, .int v5), (6, .int v6), (7, .int v7), (8, .int v8), (9, .int v9)] → W p l e jr_X9_walkPath s m args below meth c H locs 0 0 (MQ below (xQ D ty (some (.int r)) h9) args s 0 0 (xdom ty)) (F0 m 127 ls []) := by
  have hx := C0.1
  have hb := C0.2.1
  have hown := C0.2.2.2.2.2.1
  have hts := C0.2.2.2.2.2.2.1
  intro v0 v1 v2 v3 v4 v5 v6 v7 v8 v9 h t_v0 t_v3 t_v4 hF H locs hR hS ls hl
  unfold jf_X9_walkPath_127 at hF
  refine lv_iload hx hb dX9_walkPath_127 (lv_at hl 9 rfl) ?_
  refine lv_if_ne (tgt := 162) hx hb dX9_walkPath_129 (by decide) (fun c6 => ?_) (fun c6 => ?_)
  · have hF := xel hF c6
    refine lv_iconst (v := 0) hx hb dX9_walkPath_162 (by decide) ?_
    cases hF
    exact x_zret (w := 0) C0 hR hS (by decide) dX9_walkPath_163
  · have hF := xif hF c6
    refine lv_iload hx hb dX9_walkPath_132 (lv_at hl 8 rfl) ?_
    refine lv_if_ne (tgt := 162) hx hb dX9_walkPath_134 (by decide) (fun c7 => ?_) (fun c7 => ?_)
    · have hF := xel hF c7
      refine lv_iconst (v := 0) hx hb dX9_walkPath_162 (by decide) ?_
      cases hF
      exact x_zret (w := 0) C0 hR hS (by decide) dX9_walkPath_163
    · have hF := xif hF c7
      refine lv_aload hx hb dX9_walkPath_137 (lv_at hl 4 rfl) ?_
      refine lv_iload hx hb dX9_walkPath_139 (lv_at hl 5 rfl) ?_
      obtain ⟨a8, e_a8, hF⟩ := xbd hF
      refine cl_X9_100 C0 hR hS e_a8 t_v4 ⟨(Nat.le_of_ble_eq_true rfl), (Nat.le_of_ble_eq_true rfl)⟩ hl.1 (Nat.le_of_ble_eq_true rfl) ⟨(Nat.le_of_ble_eq_true rfl), (Nat.le_of_ble_eq_true rfl)⟩ dX9_walkPath_141 (fun H locs hR hS => ?_)
      refine lv_aload_n hx hb dX9_walkPath_144 rfl (lv_at hl 3 rfl) ?_
      refine lv_iload hx hb dX9_walkPath_145 (lv_at hl 6 rfl) ?_
      obtain ⟨a9, e_a9, hF⟩ := xbd hF
      refine cl_X9_100 C0 hR hS e_a9 t_v3 ⟨(Nat.le_of_ble_eq_true rfl), (Nat.le_of_ble_eq_true rfl)⟩ hl.1 (Nat.le_of_ble_eq_true rfl) ⟨(Nat.le_of_ble_eq_true rfl), (Nat.le_of_ble_eq_true rfl)⟩ dX9_walkPath_147 (fun H locs hR hS => ?_)
      refine lv_icmp_ne (tgt := 162) hx hb dX9_walkPath_150 (by decide) (fun c10 => ?_) (fun c10 => ?_)
      · have hF := xel hF c10
        refine lv_iconst (v := 0) hx hb dX9_walkPath_162 (by decide) ?_
        cases hF
        exact x_zret (w := 0) C0 hR hS (by decide) dX9_walkPath_163
      · have hF := xif hF c10
        refine lv_iinc (v := v5 + 1) (lv' := [(5, .int (v5 + 1)), (0, .ref v0), (1, .int v1), (2, .int v2), (3, .ref v3), (4, .ref v4), (6, .int v6), (7, .int v7), (8, .int v8), (9, .int v9)]) hx hb dX9_walkPath_153 hl (k := 5) rfl rfl (by decide) rfl (fun ls hl => ?_)
        refine lv_iinc (v := v6 + 1) (lv' := [(6, .int (v6 + 1)), (5, .int (v5 + 1)), (0, .ref v0), (1, .int v1), (2, .int v2), (3, .ref v3), (4, .ref v4), (7, .int v7), (8, .int v8), (9, .int v9)]) hx hb dX9_walkPath_156 hl (k := 6) rfl rfl (by decide) rfl (fun ls hl => ?_)
        refine lv_goto (tgt := 164) hx hb dX9_walkPath_159 (by decide) ?_
        exact jw_X9_walkPath_164 C0 hk16 _ _ _ _ _ _ _ _ _ t_v0 t_v3 t_v4 hF _ _ hR hS _ (lv_sub hl [2, 3, 4, 5, 6, 1, 0, 7] rfl)
set_option maxHeartbeats 4000000 in
set_option maxRecDepth 100000 in
theorem jw_X9_walkPath_98 {p : Program} {l : Launch} {e : Env} {s : State} {m : MethodId} {args : Array Value} {below : List Frame} {meth : Method} {c : Code} {D : xD} {ty : xTy} {k16 : Nat → Int32 → Int32 → Nat → Nat → Int32 → Int32 → Int32 → xH → Option (Int32 × xH)} (C0 : xC D RX9 cX9_walkPath 10 (some .boolean) p s m args meth c) {r : Int32} {h9 : xH} (hk16 : ∀ (v0 : Nat) (v1 : Int32) (v2 : Int32) (v3 : Nat) (v4 : Nat) (v5 : Int32) (v6 : Int32) (v7 : Int32) (h : xH), ty v0 = some (0, 9) → ty v3 = some (0, 7) → ty v4 = some (0, 7) → k16 v0 v1 v2 v3 v4 v5 v6 v7 h = some (r, h9) → ∀ (H : Heap) (locs : List Loc), xRep D ty h H → xS ty s.heap H locs → ∀ ls : Array Slot, lv_has ls 10 [(0, .ref v0), (1, .int v1), (2, .int v2), (3, .ref v3), (4, .ref v4), (5, .int v5), (6, .int v6), (7, .int v7)] → W p l e jr_X9_walkPath s m args below meth c H locs 0 0 (MQ below (xQ D ty (some (.int r)) h9) args s 0 0 (xdom ty)) (F0 m 16 ls [])) : ∀ (v0 : Nat) (v1 : Int32) (v2 : Int32) (v3 : Nat) (v4 : Nat) (v5 : Int32) (v6 : Int32) (v7 : Int32) (v8 : Int32) (v9 : Int32) (h : xH), ty v0 = some (0, 9) → ty v3 = some (0, 7) → ty v4 = some (0, 7) → jf_X9_walkPath_98 ty k16 v0 v1 v2 v3 v4 v5 v6 v7 v8 v9 h = some (r, h9) → ∀ (H : Heap) (locs : List Loc), xRep D ty h H → xS ty s.heap H locs → ∀ ls : Array Slot, lv_has ls 10 [(0, .ref v0), (1, .int v1), (2, .int v2), (3, .ref v3), (4, .ref v4), (5, .int v5), (6, .int v6), (7, .int v7), (8, .int v8), (9, .int v9)] → W p l e jr_X9_walkPath s m args below meth c H locs 0 0 (MQ below (xQ D ty (some (.int r)) h9) args s 0 0 (xdom ty)) (F0 m 98 ls []) := by
  have hx := C0.1
  have hb := C0.2.1
  have hown := C0.2.2.2.2.2.1
  have hts := C0.2.2.2.2.2.2.1
  intro v0 v1 v2 v3 v4 v5 v6 v7 v8 v9 h t_v0 t_v3 t_v4 hF H locs hR hS ls hl
  unfold jf_X9_walkPath_98 at hF
  refine lv_iload hx hb dX9_walkPath_98 (lv_at hl 9 rfl) ?_
  refine lv_if_ne (tgt := 127) hx hb dX9_walkPath_100 (by decide) (fun c11 => ?_) (fun c11 => ?_)
  · have hF := xel hF c11
    exact jw_X9_walkPath_127 C0 hk16 _ _ _ _ _ _ _ _ _ _ _ t_v0 t_v3 t_v4 hF _ _ hR hS _ (lv_sub hl [0, 1, 2, 3, 4, 5, 6, 7, 8, 9] rfl)
  · have hF := xif hF c11
    refine lv_iload hx hb dX9_walkPath_103 (lv_at hl 8 rfl) ?_
    refine lv_if_eq (tgt := 127) hx hb dX9_walkPath_105 (by decide) (fun c12 => ?_) (fun c12 => ?_)
    · have hF := xif hF c12
      exact jw_X9_walkPath_127 C0 hk16 _ _ _ _ _ _ _ _ _ _ _ t_v0 t_v3 t_v4 hF _ _ hR hS _ (lv_sub hl [0, 1, 2, 3, 4, 5, 6, 7, 8, 9] rfl)
    · have hF := xel hF c12
      refine lv_iload_n hx hb dX9_walkPath_108 rfl (lv_at hl 2 rfl) ?_
      refine lv_iconst (v := 1) hx hb dX9_walkPath_109 (by decide) ?_
      refine lv_icmp_eq (tgt := 127) hx hb dX9_walkPath_110 (by decide) (fun c13 => ?_) (fun c13 => ?_)
      · have hF := xif hF c13
        exact jw_X9_walkPath_127 C0 hk16 _ _ _ _ _ _ _ _ _ _ _ t_v0 t_v3 t_v4 hF _ _ hR hS _ (lv_sub hl [0, 1, 2, 3, 4, 5, 6, 7, 8, 9] rfl)
      · have hF := xel hF c13
        refine lv_iinc (v := v5 + 1) (lv' := [(5, .int (v5 + 1)), (0, .ref v0), (1, .int v1), (2, .int v2), (3, .ref v3), (4, .ref v4), (6, .int v6), (7, .int v7), (8, .int v8), (9, .int v9)]) hx hb dX9_walkPath_113 hl (k := 5) rfl rfl (by decide) rfl (fun ls hl => ?_)
        refine lv_aload_n hx hb dX9_walkPath_116 rfl (lv_at hl 4 rfl) ?_
        refine lv_iload hx hb dX9_walkPath_117 (lv_at hl 6 rfl) ?_
        obtain ⟨a14, e_a14, hF⟩ := xbd hF
        refine cl_X9_103 C0 hR hS e_a14 t_v3 ⟨(Nat.le_of_ble_eq_true rfl), (Nat.le_of_ble_eq_true rfl)⟩ hl.1 (Nat.le_of_ble_eq_true rfl) ⟨(Nat.le_of_ble_eq_true rfl), (Nat.le_of_ble_eq_true rfl)⟩ dX9_walkPath_119 (fun H locs hR hS => ?_)
        refine lv_istore (lv' := [(6, .int a14), (5, .int (v5 + 1)), (0, .ref v0), (1, .int v1), (2, .int v2), (3, .ref v3), (4, .ref v4), (7, .int v7), (8, .int v8), (9, .int v9)]) hx hb dX9_walkPath_122 hl (by decide) rfl (fun ls hl => ?_)
        refine lv_goto (tgt := 164) hx hb dX9_walkPath_124 (by decide) ?_
        exact jw_X9_walkPath_164 C0 hk16 _ _ _ _ _ _ _ _ _ t_v0 t_v3 t_v4 hF _ _ hR hS _ (lv_sub hl [2, 3, 4, 5, 6, 1, 0, 7] rfl)
set_option maxHeartbeats 4000000 in
set_option maxRecDepth 100000 in
theorem jw_X9_walkPath_67 {p : Program} {l : Launch} {e : Env} {s : State} {m : MethodId} {args : Array Value} {below : List Frame} {meth : Method} {c : Code} {D : xD} {ty : xTy} {k16 : Nat → Int32 → Int32 → Nat → Nat → Int32 → Int32 → Int32 → xH → Option (Int32 × xH)} (C0 : xC D RX9 cX9_walkPath 10 (some .boolean) p s m args meth c) {r : Int32} {h9 : xH} (hk16 : ∀ (v0 : Nat) (v1 : Int32) (v2 : Int32) (v3 : Nat) (v4 : Nat) (v5 : Int32) (v6 : Int32) (v7 : Int32) (h : xH), ty v0 = some (0, 9) → ty v3 = some (0, 7) → ty v4 = some (0, 7) → k16 v0 v1 v2 v3 v4 v5 v6 v7 h = some (r, h9) → ∀ (H : Heap) (locs : List Loc), xRep D ty h H → xS ty s.heap H locs → ∀ ls : Array Slot, lv_has ls 10 [(0, .ref v0), (1, .int v1), (2, .int v2), (3, .ref v3), (4, .ref v4), (5, .int v5), (6, .int v6), (7, .int v7)] → W p l e jr_X9_walkPath s m args below meth c H locs 0 0 (MQ below (xQ D ty (some (.int r)) h9) args s 0 0 (xdom ty)) (F0 m 16 ls [])) : ∀ (v0 : Nat) (v1 : Int32) (v2 : Int32) (v3 : Nat) (v4 : Nat) (v5 : Int32) (v6 : Int32) (v7 : Int32) (v8 : Int32) (s0 : Int32) (h : xH), ty v0 = some (0, 9) → ty v3 = some (0, 7) → ty v4 = some (0, 7) → jf_X9_walkPath_67 ty k16 v0 v1 v2 v3 v4 v5 v6 v7 v8 s0 h = some (r, h9) → ∀ (H : Heap) (locs : List Loc), xRep D ty h H → xS ty s.heap H locs → ∀ ls : Array Slot, lv_has ls 10 [(0, .ref v0), (1, .int v1), (2, .int v2), (3, .ref v3), (4, .ref v4), (5, .int v5), (6, .int v6), (7, .int v7), (8, .int v8)] → W p l e jr_X9_walkPath s m args below meth c H locs 0 0 (MQ below (xQ D ty (some (.int r)) h9) args s 0 0 (xdom ty)) (F0 m 67 ls [.int s0]) := by
  have hx := C0.1
  have hb := C0.2.1
  have hown := C0.2.2.2.2.2.1
  have hts := C0.2.2.2.2.2.2.1
  intro v0 v1 v2 v3 v4 v5 v6 v7 v8 s0 h t_v0 t_v3 t_v4 hF H locs hR hS ls hl
  unfold jf_X9_walkPath_67 at hF
  refine lv_istore (lv' := [(9, .int s0), (0, .ref v0), (1, .int v1), (2, .int v2), (3, .ref v3), (4, .ref v4), (5, .int v5), (6, .int v6), (7, .int v7), (8, .int v8)]) hx hb dX9_walkPath_67 hl (by decide) rfl (fun ls hl => ?_)
  refine lv_iload hx hb dX9_walkPath_69 (lv_at hl 0 rfl) ?_
  refine lv_if_eq (tgt := 98) hx hb dX9_walkPath_71 (by decide) (fun c15 => ?_) (fun c15 => ?_)
  · have hF := xif hF c15
    exact jw_X9_walkPath_98 C0 hk16 _ _ _ _ _ _ _ _ _ _ _ t_v0 t_v3 t_v4 hF _ _ hR hS _ (lv_sub hl [1, 2, 3, 4, 5, 6, 7, 8, 9, 0] rfl)
  · have hF := xel hF c15
    refine lv_iload hx hb dX9_walkPath_74 (lv_at hl 9 rfl) ?_
    refine lv_if_ne (tgt := 83) hx hb dX9_walkPath_76 (by decide) (fun c16 => ?_) (fun c16 => ?_)
    · have hF := xel hF c16
      refine lv_aload hx hb dX9_walkPath_83 (lv_at hl 5 rfl) ?_
      refine lv_iload hx hb dX9_walkPath_85 (lv_at hl 6 rfl) ?_
      obtain ⟨a17, e_a17, hF⟩ := xbd hF
      refine cl_X9_103 C0 hR hS e_a17 t_v4 ⟨(Nat.le_of_ble_eq_true rfl), (Nat.le_of_ble_eq_true rfl)⟩ hl.1 (Nat.le_of_ble_eq_true rfl) ⟨(Nat.le_of_ble_eq_true rfl), (Nat.le_of_ble_eq_true rfl)⟩ dX9_walkPath_87 (fun H locs hR hS => ?_)
      refine lv_istore (lv' := [(5, .int a17), (9, .int s0), (0, .ref v0), (1, .int v1), (2, .int v2), (3, .ref v3), (4, .ref v4), (6, .int v6), (7, .int v7), (8, .int v8)]) hx hb dX9_walkPath_90 hl (by decide) rfl (fun ls hl => ?_)
      refine lv_iinc (v := v6 + 1) (lv' := [(6, .int (v6 + 1)), (5, .int a17), (9, .int s0), (0, .ref v0), (1, .int v1), (2, .int v2), (3, .ref v3), (4, .ref v4), (7, .int v7), (8, .int v8)]) hx hb dX9_walkPath_92 hl (k := 7) rfl rfl (by decide) rfl (fun ls hl => ?_)
      refine lv_goto (tgt := 164) hx hb dX9_walkPath_95 (by decide) ?_
      exact jw_X9_walkPath_164 C0 hk16 _ _ _ _ _ _ _ _ _ t_v0 t_v3 t_v4 hF _ _ hR hS _ (lv_sub hl [3, 4, 5, 6, 7, 1, 0, 8] rfl)
    · have hF := xif hF c16
      refine lv_iload_n hx hb dX9_walkPath_79 rfl (lv_at hl 3 rfl) ?_
      refine lv_if_eq (tgt := 98) hx hb dX9_walkPath_80 (by decide) (fun c18 => ?_) (fun c18 => ?_)
      · have hF := xif hF c18
        exact jw_X9_walkPath_98 C0 hk16 _ _ _ _ _ _ _ _ _ _ _ t_v0 t_v3 t_v4 hF _ _ hR hS _ (lv_sub hl [1, 2, 3, 4, 5, 6, 7, 8, 9, 0] rfl)
      · have hF := xel hF c18
        refine lv_aload hx hb dX9_walkPath_83 (lv_at hl 5 rfl) ?_
        refine lv_iload hx hb dX9_walkPath_85 (lv_at hl 6 rfl) ?_
        obtain ⟨a19, e_a19, hF⟩ := xbd hF
        refine cl_X9_103 C0 hR hS e_a19 t_v4 ⟨(Nat.le_of_ble_eq_true rfl), (Nat.le_of_ble_eq_true rfl)⟩ hl.1 (Nat.le_of_ble_eq_true rfl) ⟨(Nat.le_of_ble_eq_true rfl), (Nat.le_of_ble_eq_true rfl)⟩ dX9_walkPath_87 (fun H locs hR hS => ?_)
        refine lv_istore (lv' := [(5, .int a19), (9, .int s0), (0, .ref v0), (1, .int v1), (2, .int v2), (3, .ref v3), (4, .ref v4), (6, .int v6), (7, .int v7), (8, .int v8)]) hx hb dX9_walkPath_90 hl (by decide) rfl (fun ls hl => ?_)
        refine lv_iinc (v := v6 + 1) (lv' := [(6, .int (v6 + 1)), (5, .int a19), (9, .int s0), (0, .ref v0), (1, .int v1), (2, .int v2), (3, .ref v3), (4, .ref v4), (7, .int v7), (8, .int v8)]) hx hb dX9_walkPath_92 hl (k := 7) rfl rfl (by decide) rfl (fun ls hl => ?_)
        refine lv_goto (tgt := 164) hx hb dX9_walkPath_95 (by decide) ?_
        exact jw_X9_walkPath_164 C0 hk16 _ _ _ _ _ _ _ _ _ t_v0 t_v3 t_v4 hF _ _ hR hS _ (lv_sub hl [3, 4, 5, 6, 7, 1, 0, 8] rfl)
set_option maxHeartbeats 4000000 in
set_option maxRecDepth 100000 in
theorem jw_X9_walkPath_16 {p : Program} {l : Launch} {e : Env} {s : State} {m : MethodId} {args : Array Value} {below : List Frame} {meth : Method} {c : Code} {D : xD} {ty : xTy} (C0 : xC D RX9 cX9_walkPath 10 (some .boolean) p s m args meth c) {r : Int32} {h9 : xH} : ∀ n : Nat, ∀ (v0 : Nat) (v1 : Int32) (v2 : Int32) (v3 : Nat) (v4 : Nat) (v5 : Int32) (v6 : Int32) (v7 : Int32) (h : xH), ty v0 = some (0, 9) → ty v3 = some (0, 7) → ty v4 = some (0, 7) → jf_X9_walkPath_16 ty n v0 v1 v2 v3 v4 v5 v6 v7 h = some (r, h9) → ∀ (H : Heap) (locs : List Loc), xRep D ty h H → xS ty s.heap H locs → ∀ ls : Array Slot, lv_has ls 10 [(0, .ref v0), (1, .int v1), (2, .int v2), (3, .ref v3), (4, .ref v4), (5, .int v5), (6, .int v6), (7, .int v7)] → W p l e jr_X9_walkPath s m args below meth c H locs 0 0 (MQ below (xQ D ty (some (.int r)) h9) args s 0 0 (xdom ty)) (F0 m 16 ls []) := by
  have hx := C0.1
  have hb := C0.2.1
  have hown := C0.2.2.2.2.2.1
  have hts := C0.2.2.2.2.2.2.1
  intro n
  induction n with
  | zero =>
    intro v0 v1 v2 v3 v4 v5 v6 v7 h t_v0 t_v3 t_v4 hF H locs hR hS ls hl
    cases hF
  | succ n ih =>
    intro v0 v1 v2 v3 v4 v5 v6 v7 h t_v0 t_v3 t_v4 hF H locs hR hS ls hl
    rw [jf_X9_walkPath_16_s] at hF
    refine lv_iload hx hb dX9_walkPath_16 (lv_at hl 7 rfl) ?_
    refine lv_bipush (v := 12) hx hb dX9_walkPath_18 (by decide) ?_
    refine lv_icmp_ge (tgt := 190) hx hb dX9_walkPath_20 (by decide) (fun c20 => ?_) (fun c20 => ?_)
    · have hF := xif hF c20
      exact jw_X9_walkPath_190 C0 _ _ _ _ _ t_v3 t_v4 hF _ _ hR hS _ (lv_sub hl [3, 4, 5, 6] rfl)
    · have hF := xel hF c20
      refine lv_iload hx hb dX9_walkPath_23 (lv_at hl 6 rfl) ?_
      refine lv_aload_n hx hb dX9_walkPath_25 rfl (lv_at hl 3 rfl) ?_
      refine gf_X9_71 C0 hR t_v3 dX9_walkPath_26 ?_
      refine lv_icmp_ge (tgt := 190) hx hb dX9_walkPath_29 (by decide) (fun c21 => ?_) (fun c21 => ?_)
      · have hF := xif hF c21
        exact jw_X9_walkPath_190 C0 _ _ _ _ _ t_v3 t_v4 hF _ _ hR hS _ (lv_sub hl [3, 4, 5, 6] rfl)
      · have hF := xel hF c21
        refine lv_aload hx hb dX9_walkPath_32 (lv_at hl 4 rfl) ?_
        refine lv_iload hx hb dX9_walkPath_34 (lv_at hl 5 rfl) ?_
        obtain ⟨a22, e_a22, hF⟩ := xbd hF
        refine cl_X9_100 C0 hR hS e_a22 t_v4 ⟨(Nat.le_of_ble_eq_true rfl), (Nat.le_of_ble_eq_true rfl)⟩ hl.1 (Nat.le_of_ble_eq_true rfl) ⟨(Nat.le_of_ble_eq_true rfl), (Nat.le_of_ble_eq_true rfl)⟩ dX9_walkPath_36 (fun H locs hR hS => ?_)
        refine lv_bipush (v := 100) hx hb dX9_walkPath_39 (by decide) ?_
        refine lv_icmp_lt (tgt := 48) hx hb dX9_walkPath_41 (by decide) (fun c23 => ?_) (fun c23 => ?_)
        · have hF := xif hF c23
          refine lv_iconst (v := 0) hx hb dX9_walkPath_48 (by decide) ?_
          refine lv_istore (lv' := [(8, .int 0), (0, .ref v0), (1, .int v1), (2, .int v2), (3, .ref v3), (4, .ref v4), (5, .int v5), (6, .int v6), (7, .int v7)]) hx hb dX9_walkPath_49 hl (by decide) rfl (fun ls hl => ?_)
          refine lv_aload_n hx hb dX9_walkPath_51 rfl (lv_at hl 4 rfl) ?_
          refine lv_iload hx hb dX9_walkPath_52 (lv_at hl 7 rfl) ?_
          obtain ⟨a24, e_a24, hF⟩ := xbd hF
          refine cl_X9_100 C0 hR hS e_a24 t_v3 ⟨(Nat.le_of_ble_eq_true rfl), (Nat.le_of_ble_eq_true rfl)⟩ hl.1 (Nat.le_of_ble_eq_true rfl) ⟨(Nat.le_of_ble_eq_true rfl), (Nat.le_of_ble_eq_true rfl)⟩ dX9_walkPath_54 (fun H locs hR hS => ?_)
          refine lv_bipush (v := 100) hx hb dX9_walkPath_57 (by decide) ?_
          refine lv_icmp_lt (tgt := 66) hx hb dX9_walkPath_59 (by decide) (fun c25 => ?_) (fun c25 => ?_)
          · have hF := xif hF c25
            refine lv_iconst (v := 0) hx hb dX9_walkPath_66 (by decide) ?_
            exact jw_X9_walkPath_67 C0 ih _ _ _ _ _ _ _ _ _ _ _ t_v0 t_v3 t_v4 hF _ _ hR hS _ (lv_sub hl [1, 2, 3, 4, 5, 6, 7, 8, 0] rfl)
          · have hF := xel hF c25
            refine lv_iconst (v := 1) hx hb dX9_walkPath_62 (by decide) ?_
            refine lv_goto (tgt := 67) hx hb dX9_walkPath_63 (by decide) ?_
            exact jw_X9_walkPath_67 C0 ih _ _ _ _ _ _ _ _ _ _ _ t_v0 t_v3 t_v4 hF _ _ hR hS _ (lv_sub hl [1, 2, 3, 4, 5, 6, 7, 8, 0] rfl)
        · have hF := xel hF c23
          refine lv_iconst (v := 1) hx hb dX9_walkPath_44 (by decide) ?_
          refine lv_goto (tgt := 49) hx hb dX9_walkPath_45 (by decide) ?_
          refine lv_istore (lv' := [(8, .int 1), (0, .ref v0), (1, .int v1), (2, .int v2), (3, .ref v3), (4, .ref v4), (5, .int v5), (6, .int v6), (7, .int v7)]) hx hb dX9_walkPath_49 hl (by decide) rfl (fun ls hl => ?_)
          refine lv_aload_n hx hb dX9_walkPath_51 rfl (lv_at hl 4 rfl) ?_
          refine lv_iload hx hb dX9_walkPath_52 (lv_at hl 7 rfl) ?_
          obtain ⟨a26, e_a26, hF⟩ := xbd hF
          refine cl_X9_100 C0 hR hS e_a26 t_v3 ⟨(Nat.le_of_ble_eq_true rfl), (Nat.le_of_ble_eq_true rfl)⟩ hl.1 (Nat.le_of_ble_eq_true rfl) ⟨(Nat.le_of_ble_eq_true rfl), (Nat.le_of_ble_eq_true rfl)⟩ dX9_walkPath_54 (fun H locs hR hS => ?_)
          refine lv_bipush (v := 100) hx hb dX9_walkPath_57 (by decide) ?_
          refine lv_icmp_lt (tgt := 66) hx hb dX9_walkPath_59 (by decide) (fun c27 => ?_) (fun c27 => ?_)
          · have hF := xif hF c27
            refine lv_iconst (v := 0) hx hb dX9_walkPath_66 (by decide) ?_
            exact jw_X9_walkPath_67 C0 ih _ _ _ _ _ _ _ _ _ _ _ t_v0 t_v3 t_v4 hF _ _ hR hS _ (lv_sub hl [1, 2, 3, 4, 5, 6, 7, 8, 0] rfl)
          · have hF := xel hF c27
            refine lv_iconst (v := 1) hx hb dX9_walkPath_62 (by decide) ?_
            refine lv_goto (tgt := 67) hx hb dX9_walkPath_63 (by decide) ?_
            exact jw_X9_walkPath_67 C0 ih _ _ _ _ _ _ _ _ _ _ _ t_v0 t_v3 t_v4 hF _ _ hR hS _ (lv_sub hl [1, 2, 3, 4, 5, 6, 7, 8, 0] rfl)
set_option maxHeartbeats 4000000 in
set_option maxRecDepth 100000 in
theorem jc_X9_walkPath {l : Launch} {D : xD} {ty : xTy} {h : xH} {v0 : Nat} {v1 : Int32} {v2 : Int32} {v3 : Nat} {r : Int32} {h9 : xH} (t_v0 : ty v0 = some (0, 9)) (t_v3 : ty v3 = some (0, 7)) (hF : jf_X9_walkPath ty h v0 v1 v2 v3 = some (r, h9)) : Met l yX9_walkPath (xws yX9_walkPath cX9_walkPath 10 (some .boolean)) jr_X9_walkPath (xPc D ty h [.ref v0, .int v1, .int v2, .ref v3]) (xQ D ty (some (.int r)) h9) 0 0 (xdom ty) := by
  refine x_met (by decide) ?_
  intro p e s m below meth c C0 hR
  generalize hargs : ([.ref v0, .int v1, .int v2, .ref v3] : List Value).toArray = args at C0 ⊢
  have hx := C0.1
  have hb := C0.2.1
  have hown := C0.2.2.2.2.2.1
  have hts := C0.2.2.2.2.2.2.1
  have hS : xS ty s.heap s.heap [] := xS.rf
  have hl := lv_entry ([.ref v0, .int v1, .int v2, .ref v3]) (n := 10) (Nat.le_of_ble_eq_true rfl)
  rw [← hargs, lg_entry_eq]
  rw [hargs]
  generalize (lg_sl ([.ref v0, .int v1, .int v2, .ref v3]) ++ List.replicate (10 - (lg_sl ([.ref v0, .int v1, .int v2, .ref v3])).length) Slot.unset).toArray = ls at hl ⊢
  have hl : lv_has ls 10 [(0, .ref v0), (1, .int v1), (2, .int v2), (3, .ref v3)] := hl
  unfold jf_X9_walkPath at hF
  refine lv_aload_n hx hb dX9_walkPath_0 rfl (lv_at hl 0 rfl) ?_
  refine lv_iload_n hx hb dX9_walkPath_1 rfl (lv_at hl 1 rfl) ?_
  obtain ⟨a28, e_a28, hF⟩ := xbd hF
  obtain ⟨u29, e_u29, hF⟩ := xbd hF
  have t_a28 := xck_sp e_u29
  refine cl_X9_60 C0 hR hS e_a28 t_v0 ⟨(Nat.le_of_ble_eq_true rfl), (Nat.le_of_ble_eq_true rfl)⟩ hl.1 (Nat.le_of_ble_eq_true rfl) ⟨(Nat.le_of_ble_eq_true rfl), (Nat.le_of_ble_eq_true rfl)⟩ dX9_walkPath_2 (fun H locs hR hS => ?_)
  refine lv_astore (lv' := [(4, .ref a28), (0, .ref v0), (1, .int v1), (2, .int v2), (3, .ref v3)]) hx hb dX9_walkPath_5 hl (by decide) rfl (fun ls hl => ?_)
  refine lv_iconst (v := 0) hx hb dX9_walkPath_7 (by decide) ?_
  refine lv_istore (lv' := [(5, .int 0), (4, .ref a28), (0, .ref v0), (1, .int v1), (2, .int v2), (3, .ref v3)]) hx hb dX9_walkPath_8 hl (by decide) rfl (fun ls hl => ?_)
  refine lv_iconst (v := 0) hx hb dX9_walkPath_10 (by decide) ?_
  refine lv_istore (lv' := [(6, .int 0), (5, .int 0), (4, .ref a28), (0, .ref v0), (1, .int v1), (2, .int v2), (3, .ref v3)]) hx hb dX9_walkPath_11 hl (by decide) rfl (fun ls hl => ?_)
  refine lv_iconst (v := 0) hx hb dX9_walkPath_13 (by decide) ?_
  refine lv_istore (lv' := [(7, .int 0), (6, .int 0), (5, .int 0), (4, .ref a28), (0, .ref v0), (1, .int v1), (2, .int v2), (3, .ref v3)]) hx hb dX9_walkPath_14 hl (by decide) rfl (fun ls hl => ?_)
  obtain ⟨_, hF⟩ := xlim_sp hF
  exact jw_X9_walkPath_16 C0 _ _ _ _ _ _ _ _ _ _ t_v0 t_v3 t_a28 hF _ _ hR hS _ (lv_sub hl [4, 5, 6, 7, 3, 2, 1, 0] rfl)
theorem xm_X9_walkPath : xMw yX9_walkPath cX9_walkPath 10 (some .boolean) 3 := ⟨xin 896 (by decide +kernel) rfl, xin 120 (by decide +kernel) rfl, by decide +kernel⟩
theorem xi_X9_walkPath : Cond.instanceMethod yX9_walkPath ∈ xT := xin 895 (by decide +kernel) rfl
theorem xe_X9_walkPath : Cond.selects yX9_walkPath.cls yX9_walkPath yX9_walkPath ∈ xT := xin 35 (by decide +kernel) rfl
theorem dX9_walk_0 : decode cX9_walk 0 = .ok (.aload_n 0, 1) := by decide +kernel
theorem dX9_walk_1 : decode cX9_walk 1 = .ok (.iconst 0, 1) := by decide +kernel
theorem dX9_walk_2 : decode cX9_walk 2 = .ok (.putfield 35, 3) := by decide +kernel
theorem dX9_walk_5 : decode cX9_walk 5 = .ok (.aload_n 0, 1) := by decide +kernel
theorem dX9_walk_6 : decode cX9_walk 6 = .ok (.iconst 0, 1) := by decide +kernel
theorem dX9_walk_7 : decode cX9_walk 7 = .ok (.putfield 38, 3) := by decide +kernel
theorem dX9_walk_10 : decode cX9_walk 10 = .ok (.iconst 0, 1) := by decide +kernel
theorem dX9_walk_11 : decode cX9_walk 11 = .ok (.istore_n 3, 1) := by decide +kernel
theorem dX9_walk_12 : decode cX9_walk 12 = .ok (.iload_n 3, 1) := by decide +kernel
theorem dX9_walk_13 : decode cX9_walk 13 = .ok (.aload_n 0, 1) := by decide +kernel
theorem dX9_walk_14 : decode cX9_walk 14 = .ok (.getfield 31, 3) := by decide +kernel
theorem dX9_walk_17 : decode cX9_walk 17 = .ok (.if_icmp .ge 29, 3) := by decide +kernel
theorem dX9_walk_20 : decode cX9_walk 20 = .ok (.aload_n 0, 1) := by decide +kernel
theorem dX9_walk_21 : decode cX9_walk 21 = .ok (.iload_n 3, 1) := by decide +kernel
theorem dX9_walk_22 : decode cX9_walk 22 = .ok (.iload_n 1, 1) := by decide +kernel
theorem dX9_walk_23 : decode cX9_walk 23 = .ok (.aload_n 2, 1) := by decide +kernel
theorem dX9_walk_24 : decode cX9_walk 24 = .ok (.invokevirtual 96, 3) := by decide +kernel
theorem dX9_walk_27 : decode cX9_walk 27 = .ok (.ifCond .eq 13, 3) := by decide +kernel
theorem dX9_walk_30 : decode cX9_walk 30 = .ok (.aload_n 0, 1) := by decide +kernel
theorem dX9_walk_31 : decode cX9_walk 31 = .ok (.dup, 1) := by decide +kernel
theorem dX9_walk_32 : decode cX9_walk 32 = .ok (.getfield 35, 3) := by decide +kernel
theorem dX9_walk_35 : decode cX9_walk 35 = .ok (.iconst 1, 1) := by decide +kernel
theorem dX9_walk_36 : decode cX9_walk 36 = .ok (.iadd, 1) := by decide +kernel
theorem dX9_walk_37 : decode cX9_walk 37 = .ok (.putfield 35, 3) := by decide +kernel
theorem dX9_walk_40 : decode cX9_walk 40 = .ok (.iinc 3 1, 3) := by decide +kernel
theorem dX9_walk_43 : decode cX9_walk 43 = .ok (.goto (-31), 3) := by decide +kernel
theorem dX9_walk_46 : decode cX9_walk 46 = .ok (.return_, 1) := by decide +kernel
theorem wl_X9_96 : Cond.methodLink RX9 96 yX9_walkPath ∈ xT := xin 893 (by decide +kernel) rfl
theorem wf_X9_35 : Cond.fieldLink RX9 35 "TermShelf$Tree" "candidates" "I" ∈ xT := xin 314 (by decide +kernel) rfl
section XN_X9_walk
variable {p : Program} {l : Launch} {e : Env} {R : Room} {s : State} {m : MethodId} {args : Array Value} {below : List Frame} {meth : Method} {c : Code} {H H0 : Heap} {locs : List Loc} {cells slots : Nat} {Q : State → Prop} {cc : ByteArray} {nL pc : Nat} {rt : Option FieldType} {ls : Array Slot} {rest : List Value} {D : xD} {ty : xTy} {h : xH}
theorem cl_X9_96 {v0 : Nat} {v1 : Int32} {v2 : Int32} {v3 : Nat} {r : Int32} {h9 : xH} (C0 : xC D RX9 cc nL rt p s m args meth c) (hR : xRep D ty h H) (hS : xS ty H0 H locs) (hF : jf_X9_walkPath ty h v0 v1 v2 v3 = some (r, h9)) (t_v0 : ty v0 = some (0, 9)) (t_v3 : ty v3 = some (0, 7)) (hrm : jr_X9_walkPath.frames + 1 ≤ R.frames ∧ 8 + (10 + 11) + jr_X9_walkPath.locals ≤ R.locals) (hsz : ls.size = nL) (hW : (rest.map fun v => v.category).sum ≤ 8) (hf : cells ≤ R.cells ∧ slots ≤ R.slots) (hdg : decode cc pc = .ok (.invokevirtual 96, 3)) (kk : ∀ (H1 : Heap) (locs1 : List Loc), xRep D ty h9 H1 → xS ty H0 H1 locs1 → W p l e R s m args below meth c H1 locs1 cells slots Q (F0 m (pc + 3) ls (.int r :: rest))) : W p l e R s m args below meth c H locs cells slots Q (F0 m pc ls (.ref v3 :: .int v2 :: .int v1 :: .ref v0 :: rest)) := x_callV C0 (jc_X9_walkPath t_v0 t_v3 hF) xm_X9_walkPath xi_X9_walkPath xe_X9_walkPath wl_X9_96 ⟨rfl, rfl, hrm⟩ (ci := 9) rfl t_v0 hR hS (As := [.int v1, .int v2, .ref v3]) rfl hsz rfl hW hdg hf kk
theorem gf_X9_35 {a : Nat} (C0 : xC D RX9 cc nL rt p s m args meth c) (hR : xRep D ty h H) (ht : ty a = some (0, 9)) (hdg : decode cc pc = .ok (.getfield 35, 3)) (kk : W p l e R s m args below meth c H locs cells slots Q (F0 m (pc + 3) ls (.int (xI h a 5) :: rest))) : W p l e R s m args below meth c H locs cells slots Q (F0 m pc ls (.ref a :: rest)) := x_get C0 hR (ci := 9) (k := 5) (N := 7) (T := TX9) rfl iX9 (by decide) rfl wf_X9_35 rfl ht hdg kk
theorem pf_X9_35 {a : Nat} {v : Int32} (C0 : xC D RX9 cc nL rt p s m args meth c) (hR : xRep D ty h H) (hS : xS ty H0 H locs) (ht : ty a = some (0, 9)) (hdg : decode cc pc = .ok (.putfield 35, 3)) (kk : ∀ (H1 : Heap) (locs1 : List Loc), xRep D ty (xsI h a 5 v) H1 → xS ty H0 H1 locs1 → W p l e R s m args below meth c H1 locs1 cells slots Q (F0 m (pc + 3) ls rest)) : W p l e R s m args below meth c H locs cells slots Q (F0 m pc ls (.int v :: .ref a :: rest)) := x_puti C0 hR hS (ci := 9) (k := 5) (N := 7) (T := TX9) rfl iX9 tyX9_ok nmX9 (by decide) rfl rfl wf_X9_35 (Or.inl rfl) rfl rfl ht hdg kk
end XN_X9_walk
set_option maxHeartbeats 4000000 in
set_option maxRecDepth 100000 in
theorem jw_X9_walk_12 {p : Program} {l : Launch} {e : Env} {s : State} {m : MethodId} {args : Array Value} {below : List Frame} {meth : Method} {c : Code} {D : xD} {ty : xTy} (C0 : xC D RX9 cX9_walk 4 none p s m args meth c) {h9 : xH} : ∀ n : Nat, ∀ (v0 : Nat) (v1 : Int32) (v2 : Nat) (v3 : Int32) (h : xH), ty v0 = some (0, 9) → ty v2 = some (0, 7) → jf_X9_walk_12 ty n v0 v1 v2 v3 h = some h9 → ∀ (H : Heap) (locs : List Loc), xRep D ty h H → xS ty s.heap H locs → ∀ ls : Array Slot, lv_has ls 4 [(0, .ref v0), (1, .int v1), (2, .ref v2), (3, .int v3)] → W p l e jr_X9_walk s m args below meth c H locs 0 0 (MQ below (xQ D ty none h9) args s 0 0 (xdom ty)) (F0 m 12 ls []) := by
  have hx := C0.1
  have hb := C0.2.1
  have hown := C0.2.2.2.2.2.1
  have hts := C0.2.2.2.2.2.2.1
  intro n
  induction n with
  | zero =>
    intro v0 v1 v2 v3 h t_v0 t_v2 hF H locs hR hS ls hl
    cases hF
  | succ n ih =>
    intro v0 v1 v2 v3 h t_v0 t_v2 hF H locs hR hS ls hl
    rw [jf_X9_walk_12_s] at hF
    refine lv_iload_n hx hb dX9_walk_12 rfl (lv_at hl 3 rfl) ?_
    refine lv_aload_n hx hb dX9_walk_13 rfl (lv_at hl 0 rfl) ?_
    refine gf_X9_31 C0 hR t_v0 dX9_walk_14 ?_
    refine lv_icmp_ge (tgt := 46) hx hb dX9_walk_17 (by decide) (fun c1 => ?_) (fun c1 => ?_)
    · have hF := xif hF c1
      cases hF
      exact x_vret C0 hR hS dX9_walk_46
    · have hF := xel hF c1
      refine lv_aload_n hx hb dX9_walk_20 rfl (lv_at hl 0 rfl) ?_
      refine lv_iload_n hx hb dX9_walk_21 rfl (lv_at hl 3 rfl) ?_
      refine lv_iload_n hx hb dX9_walk_22 rfl (lv_at hl 1 rfl) ?_
      refine lv_aload_n hx hb dX9_walk_23 rfl (lv_at hl 2 rfl) ?_
      obtain ⟨a3, h2, e_h2, hF⟩ := xbd2 hF
      refine cl_X9_96 C0 hR hS e_h2 t_v0 t_v2 ⟨(Nat.le_of_ble_eq_true rfl), (Nat.le_of_ble_eq_true rfl)⟩ hl.1 (Nat.le_of_ble_eq_true rfl) ⟨(Nat.le_of_ble_eq_true rfl), (Nat.le_of_ble_eq_true rfl)⟩ dX9_walk_24 (fun H locs hR hS => ?_)
      refine lv_if_eq (tgt := 40) hx hb dX9_walk_27 (by decide) (fun c4 => ?_) (fun c4 => ?_)
      · have hF := xif hF c4
        refine lv_iinc (v := v3 + 1) (lv' := [(3, .int (v3 + 1)), (0, .ref v0), (1, .int v1), (2, .ref v2)]) hx hb dX9_walk_40 hl (k := 3) rfl rfl (by decide) rfl (fun ls hl => ?_)
        refine lv_goto (tgt := 12) hx hb dX9_walk_43 (by decide) ?_
        exact ih _ _ _ _ _ t_v0 t_v2 hF _ _ hR hS _ (lv_sub hl [1, 2, 3, 0] rfl)
      · have hF := xel hF c4
        refine lv_aload_n hx hb dX9_walk_30 rfl (lv_at hl 0 rfl) ?_
        refine lv_dup hx hb dX9_walk_31 rfl ?_
        refine gf_X9_35 C0 hR t_v0 dX9_walk_32 ?_
        refine lv_iconst (v := 1) hx hb dX9_walk_35 (by decide) ?_
        refine lv_iadd hx hb dX9_walk_36 ?_
        obtain ⟨h5, e_h5, hF⟩ := xbd hF
        refine pf_X9_35 C0 hR hS t_v0 dX9_walk_37 (fun H locs hR hS => ?_)
        rw [Option.some.inj e_h5] at hR
        refine lv_iinc (v := v3 + 1) (lv' := [(3, .int (v3 + 1)), (0, .ref v0), (1, .int v1), (2, .ref v2)]) hx hb dX9_walk_40 hl (k := 3) rfl rfl (by decide) rfl (fun ls hl => ?_)
        refine lv_goto (tgt := 12) hx hb dX9_walk_43 (by decide) ?_
        exact ih _ _ _ _ _ t_v0 t_v2 hF _ _ hR hS _ (lv_sub hl [1, 2, 3, 0] rfl)
set_option maxHeartbeats 4000000 in
set_option maxRecDepth 100000 in
theorem jc_X9_walk {l : Launch} {D : xD} {ty : xTy} {h : xH} {v0 : Nat} {v1 : Int32} {v2 : Nat} {h9 : xH} (t_v0 : ty v0 = some (0, 9)) (t_v2 : ty v2 = some (0, 7)) (hF : jf_X9_walk ty h v0 v1 v2 = some h9) : Met l yX9_walk (xws yX9_walk cX9_walk 4 none) jr_X9_walk (xPc D ty h [.ref v0, .int v1, .ref v2]) (xQ D ty none h9) 0 0 (xdom ty) := by
  refine x_met (by decide) ?_
  intro p e s m below meth c C0 hR
  generalize hargs : ([.ref v0, .int v1, .ref v2] : List Value).toArray = args at C0 ⊢
  have hx := C0.1
  have hb := C0.2.1
  have hown := C0.2.2.2.2.2.1
  have hts := C0.2.2.2.2.2.2.1
  have hS : xS ty s.heap s.heap [] := xS.rf
  have hl := lv_entry ([.ref v0, .int v1, .ref v2]) (n := 4) (Nat.le_of_ble_eq_true rfl)
  rw [← hargs, lg_entry_eq]
  rw [hargs]
  generalize (lg_sl ([.ref v0, .int v1, .ref v2]) ++ List.replicate (4 - (lg_sl ([.ref v0, .int v1, .ref v2])).length) Slot.unset).toArray = ls at hl ⊢
  have hl : lv_has ls 4 [(0, .ref v0), (1, .int v1), (2, .ref v2)] := hl
  unfold jf_X9_walk at hF
  refine lv_aload_n hx hb dX9_walk_0 rfl (lv_at hl 0 rfl) ?_
  refine lv_iconst (v := 0) hx hb dX9_walk_1 (by decide) ?_
  obtain ⟨h6, e_h6, hF⟩ := xbd hF
  refine pf_X9_35 C0 hR hS t_v0 dX9_walk_2 (fun H locs hR hS => ?_)
  rw [Option.some.inj e_h6] at hR
  refine lv_aload_n hx hb dX9_walk_5 rfl (lv_at hl 0 rfl) ?_
  refine lv_iconst (v := 0) hx hb dX9_walk_6 (by decide) ?_
  obtain ⟨h7, e_h7, hF⟩ := xbd hF
  refine pf_X9_38 C0 hR hS t_v0 dX9_walk_7 (fun H locs hR hS => ?_)
  rw [Option.some.inj e_h7] at hR
  refine lv_iconst (v := 0) hx hb dX9_walk_10 (by decide) ?_
  refine lv_istore_n (lv' := [(3, .int 0), (0, .ref v0), (1, .int v1), (2, .ref v2)]) hx hb dX9_walk_11 rfl hl (by decide) rfl (fun ls hl => ?_)
  obtain ⟨_, hF⟩ := xlim_sp hF
  exact jw_X9_walk_12 C0 _ _ _ _ _ _ t_v0 t_v2 hF _ _ hR hS _ (lv_sub hl [1, 2, 3, 0] rfl)
theorem xm_X9_walk : xMw yX9_walk cX9_walk 4 none 2 := ⟨xin 892 (by decide +kernel) rfl, xin 120 (by decide +kernel) rfl, by decide +kernel⟩
theorem xi_X9_walk : Cond.instanceMethod yX9_walk ∈ xT := xin 890 (by decide +kernel) rfl
theorem xe_X9_walk : Cond.selects yX9_walk.cls yX9_walk yX9_walk ∈ xT := xin 891 (by decide +kernel) rfl
theorem dX10_load_0 : decode cX10_load 0 = .ok (.aload_n 0, 1) := by decide +kernel
theorem dX10_load_1 : decode cX10_load 1 = .ok (.getfield 52, 3) := by decide +kernel
theorem dX10_load_4 : decode cX10_load 4 = .ok (.istore_n 2, 1) := by decide +kernel
theorem dX10_load_5 : decode cX10_load 5 = .ok (.iconst 0, 1) := by decide +kernel
theorem dX10_load_6 : decode cX10_load 6 = .ok (.istore_n 3, 1) := by decide +kernel
theorem dX10_load_7 : decode cX10_load 7 = .ok (.iload_n 3, 1) := by decide +kernel
theorem dX10_load_8 : decode cX10_load 8 = .ok (.aload_n 1, 1) := by decide +kernel
theorem dX10_load_9 : decode cX10_load 9 = .ok (.getfield 80, 3) := by decide +kernel
theorem dX10_load_12 : decode cX10_load 12 = .ok (.if_icmp .ge 131, 3) := by decide +kernel
theorem dX10_load_15 : decode cX10_load 15 = .ok (.aload_n 0, 1) := by decide +kernel
theorem dX10_load_16 : decode cX10_load 16 = .ok (.getfield 52, 3) := by decide +kernel
theorem dX10_load_19 : decode cX10_load 19 = .ok (.bipush 24, 2) := by decide +kernel
theorem dX10_load_21 : decode cX10_load 21 = .ok (.if_icmp .ge 122, 3) := by decide +kernel
theorem dX10_load_24 : decode cX10_load 24 = .ok (.aload_n 1, 1) := by decide +kernel
theorem dX10_load_25 : decode cX10_load 25 = .ok (.iload_n 3, 1) := by decide +kernel
theorem dX10_load_26 : decode cX10_load 26 = .ok (.invokevirtual 65, 3) := by decide +kernel
theorem dX10_load_29 : decode cX10_load 29 = .ok (.istore 4, 2) := by decide +kernel
theorem dX10_load_31 : decode cX10_load 31 = .ok (.aload_n 0, 1) := by decide +kernel
theorem dX10_load_32 : decode cX10_load 32 = .ok (.getfield 11, 3) := by decide +kernel
theorem dX10_load_35 : decode cX10_load 35 = .ok (.aload_n 0, 1) := by decide +kernel
theorem dX10_load_36 : decode cX10_load 36 = .ok (.getfield 52, 3) := by decide +kernel
theorem dX10_load_39 : decode cX10_load 39 = .ok (.iload 4, 2) := by decide +kernel
theorem dX10_load_41 : decode cX10_load 41 = .ok (.iastore, 1) := by decide +kernel
theorem dX10_load_42 : decode cX10_load 42 = .ok (.aload_n 0, 1) := by decide +kernel
theorem dX10_load_43 : decode cX10_load 43 = .ok (.getfield 15, 3) := by decide +kernel
theorem dX10_load_46 : decode cX10_load 46 = .ok (.aload_n 0, 1) := by decide +kernel
theorem dX10_load_47 : decode cX10_load 47 = .ok (.getfield 52, 3) := by decide +kernel
theorem dX10_load_50 : decode cX10_load 50 = .ok (.aload_n 1, 1) := by decide +kernel
theorem dX10_load_51 : decode cX10_load 51 = .ok (.iload_n 3, 1) := by decide +kernel
theorem dX10_load_52 : decode cX10_load 52 = .ok (.invokevirtual 81, 3) := by decide +kernel
theorem dX10_load_55 : decode cX10_load 55 = .ok (.iastore, 1) := by decide +kernel
theorem dX10_load_56 : decode cX10_load 56 = .ok (.aload_n 0, 1) := by decide +kernel
theorem dX10_load_57 : decode cX10_load 57 = .ok (.getfield 18, 3) := by decide +kernel
theorem dX10_load_60 : decode cX10_load 60 = .ok (.aload_n 0, 1) := by decide +kernel
theorem dX10_load_61 : decode cX10_load 61 = .ok (.getfield 52, 3) := by decide +kernel
theorem dX10_load_64 : decode cX10_load 64 = .ok (.iload_n 2, 1) := by decide +kernel
theorem dX10_load_65 : decode cX10_load 65 = .ok (.aload_n 1, 1) := by decide +kernel
theorem dX10_load_66 : decode cX10_load 66 = .ok (.iload_n 3, 1) := by decide +kernel
theorem dX10_load_67 : decode cX10_load 67 = .ok (.invokevirtual 84, 3) := by decide +kernel
theorem dX10_load_70 : decode cX10_load 70 = .ok (.iadd, 1) := by decide +kernel
theorem dX10_load_71 : decode cX10_load 71 = .ok (.iastore, 1) := by decide +kernel
theorem dX10_load_72 : decode cX10_load 72 = .ok (.aload_n 0, 1) := by decide +kernel
theorem dX10_load_73 : decode cX10_load 73 = .ok (.getfield 21, 3) := by decide +kernel
theorem dX10_load_76 : decode cX10_load 76 = .ok (.aload_n 0, 1) := by decide +kernel
theorem dX10_load_77 : decode cX10_load 77 = .ok (.getfield 52, 3) := by decide +kernel
theorem dX10_load_80 : decode cX10_load 80 = .ok (.iload 4, 2) := by decide +kernel
theorem dX10_load_82 : decode cX10_load 82 = .ok (.bipush 100, 2) := by decide +kernel
theorem dX10_load_84 : decode cX10_load 84 = .ok (.if_icmp .ge 10, 3) := by decide +kernel
theorem dX10_load_87 : decode cX10_load 87 = .ok (.aload_n 0, 1) := by decide +kernel
theorem dX10_load_88 : decode cX10_load 88 = .ok (.getfield 52, 3) := by decide +kernel
theorem dX10_load_91 : decode cX10_load 91 = .ok (.goto 11, 3) := by decide +kernel
theorem dX10_load_94 : decode cX10_load 94 = .ok (.iload_n 2, 1) := by decide +kernel
theorem dX10_load_95 : decode cX10_load 95 = .ok (.aload_n 1, 1) := by decide +kernel
theorem dX10_load_96 : decode cX10_load 96 = .ok (.iload 4, 2) := by decide +kernel
theorem dX10_load_98 : decode cX10_load 98 = .ok (.invokevirtual 86, 3) := by decide +kernel
theorem dX10_load_101 : decode cX10_load 101 = .ok (.iadd, 1) := by decide +kernel
theorem dX10_load_102 : decode cX10_load 102 = .ok (.iastore, 1) := by decide +kernel
theorem dX10_load_103 : decode cX10_load 103 = .ok (.aload_n 0, 1) := by decide +kernel
theorem dX10_load_104 : decode cX10_load 104 = .ok (.getfield 24, 3) := by decide +kernel
theorem dX10_load_107 : decode cX10_load 107 = .ok (.aload_n 0, 1) := by decide +kernel
theorem dX10_load_108 : decode cX10_load 108 = .ok (.getfield 52, 3) := by decide +kernel
theorem dX10_load_111 : decode cX10_load 111 = .ok (.iload 4, 2) := by decide +kernel
theorem dX10_load_113 : decode cX10_load 113 = .ok (.bipush 100, 2) := by decide +kernel
theorem dX10_load_115 : decode cX10_load 115 = .ok (.if_icmp .ge 10, 3) := by decide +kernel
theorem dX10_load_118 : decode cX10_load 118 = .ok (.aload_n 0, 1) := by decide +kernel
theorem dX10_load_119 : decode cX10_load 119 = .ok (.getfield 52, 3) := by decide +kernel
theorem dX10_load_122 : decode cX10_load 122 = .ok (.goto 4, 3) := by decide +kernel
theorem dX10_load_125 : decode cX10_load 125 = .ok (.iconst (-1), 1) := by decide +kernel
theorem dX10_load_126 : decode cX10_load 126 = .ok (.iastore, 1) := by decide +kernel
theorem dX10_load_127 : decode cX10_load 127 = .ok (.aload_n 0, 1) := by decide +kernel
theorem dX10_load_128 : decode cX10_load 128 = .ok (.dup, 1) := by decide +kernel
theorem dX10_load_129 : decode cX10_load 129 = .ok (.getfield 52, 3) := by decide +kernel
theorem dX10_load_132 : decode cX10_load 132 = .ok (.iconst 1, 1) := by decide +kernel
theorem dX10_load_133 : decode cX10_load 133 = .ok (.iadd, 1) := by decide +kernel
theorem dX10_load_134 : decode cX10_load 134 = .ok (.putfield 52, 3) := by decide +kernel
theorem dX10_load_137 : decode cX10_load 137 = .ok (.iinc 3 1, 3) := by decide +kernel
theorem dX10_load_140 : decode cX10_load 140 = .ok (.goto (-133), 3) := by decide +kernel
theorem dX10_load_143 : decode cX10_load 143 = .ok (.return_, 1) := by decide +kernel
theorem wl_X10_65 : Cond.methodLink RX10 65 yX7_codeAt ∈ xT := xin 823 (by decide +kernel) rfl
theorem wl_X10_81 : Cond.methodLink RX10 81 yX7_arityAt ∈ xT := xin 828 (by decide +kernel) rfl
theorem wl_X10_84 : Cond.methodLink RX10 84 yX7_behind ∈ xT := xin 829 (by decide +kernel) rfl
theorem wl_X10_86 : Cond.methodLink RX10 86 yX7_firstPlace ∈ xT := xin 830 (by decide +kernel) rfl
theorem wf_X10_11 : Cond.fieldLink RX10 11 "TermShelf$Unifier" "codes" "[I" ∈ xT := xin 351 (by decide +kernel) rfl
theorem wf_X10_15 : Cond.fieldLink RX10 15 "TermShelf$Unifier" "arities" "[I" ∈ xT := xin 352 (by decide +kernel) rfl
theorem wf_X10_18 : Cond.fieldLink RX10 18 "TermShelf$Unifier" "behind" "[I" ∈ xT := xin 353 (by decide +kernel) rfl
theorem wf_X10_21 : Cond.fieldLink RX10 21 "TermShelf$Unifier" "parents" "[I" ∈ xT := xin 354 (by decide +kernel) rfl
theorem wf_X10_24 : Cond.fieldLink RX10 24 "TermShelf$Unifier" "signs" "[I" ∈ xT := xin 355 (by decide +kernel) rfl
theorem wf_X10_52 : Cond.fieldLink RX10 52 "TermShelf$Unifier" "size" "I" ∈ xT := xin 362 (by decide +kernel) rfl
theorem wf_X10_80 : Cond.fieldLink RX10 80 "TermShelf$Term" "size" "I" ∈ xT := xin 161 (by decide +kernel) rfl
section XN_X10_load
variable {p : Program} {l : Launch} {e : Env} {R : Room} {s : State} {m : MethodId} {args : Array Value} {below : List Frame} {meth : Method} {c : Code} {H H0 : Heap} {locs : List Loc} {cells slots : Nat} {Q : State → Prop} {cc : ByteArray} {nL pc : Nat} {rt : Option FieldType} {ls : Array Slot} {rest : List Value} {D : xD} {ty : xTy} {h : xH}
theorem cl_X10_65 {v0 : Nat} {v1 : Int32} {r : Int32} (C0 : xC D RX10 cc nL rt p s m args meth c) (hR : xRep D ty h H) (hS : xS ty H0 H locs) (hF : jf_X7_codeAt ty h v0 v1 = some r) (t_v0 : ty v0 = some (0, 7)) (hrm : jr_X7_codeAt.frames + 1 ≤ R.frames ∧ 8 + (2 + 11) + jr_X7_codeAt.locals ≤ R.locals) (hsz : ls.size = nL) (hW : (rest.map fun v => v.category).sum ≤ 8) (hf : cells ≤ R.cells ∧ slots ≤ R.slots) (hdg : decode cc pc = .ok (.invokevirtual 65, 3)) (kk : ∀ (H1 : Heap) (locs1 : List Loc), xRep D ty h H1 → xS ty H0 H1 locs1 → W p l e R s m args below meth c H1 locs1 cells slots Q (F0 m (pc + 3) ls (.int r :: rest))) : W p l e R s m args below meth c H locs cells slots Q (F0 m pc ls (.int v1 :: .ref v0 :: rest)) := x_callV C0 (jc_X7_codeAt t_v0 hF) xm_X7_codeAt xi_X7_codeAt xe_X7_codeAt wl_X10_65 ⟨rfl, rfl, hrm⟩ (ci := 7) rfl t_v0 hR hS (As := [.int v1]) rfl hsz rfl hW hdg hf kk
theorem cl_X10_81 {v0 : Nat} {v1 : Int32} {r : Int32} (C0 : xC D RX10 cc nL rt p s m args meth c) (hR : xRep D ty h H) (hS : xS ty H0 H locs) (hF : jf_X7_arityAt ty h v0 v1 = some r) (t_v0 : ty v0 = some (0, 7)) (hrm : jr_X7_arityAt.frames + 1 ≤ R.frames ∧ 8 + (2 + 11) + jr_X7_arityAt.locals ≤ R.locals) (hsz : ls.size = nL) (hW : (rest.map fun v => v.category).sum ≤ 8) (hf : cells ≤ R.cells ∧ slots ≤ R.slots) (hdg : decode cc pc = .ok (.invokevirtual 81, 3)) (kk : ∀ (H1 : Heap) (locs1 : List Loc), xRep D ty h H1 → xS ty H0 H1 locs1 → W p l e R s m args below meth c H1 locs1 cells slots Q (F0 m (pc + 3) ls (.int r :: rest))) : W p l e R s m args below meth c H locs cells slots Q (F0 m pc ls (.int v1 :: .ref v0 :: rest)) := x_callV C0 (jc_X7_arityAt t_v0 hF) xm_X7_arityAt xi_X7_arityAt xe_X7_arityAt wl_X10_81 ⟨rfl, rfl, hrm⟩ (ci := 7) rfl t_v0 hR hS (As := [.int v1]) rfl hsz rfl hW hdg hf kk
theorem cl_X10_84 {v0 : Nat} {v1 : Int32} {r : Int32} (C0 : xC D RX10 cc nL rt p s m args meth c) (hR : xRep D ty h H) (hS : xS ty H0 H locs) (hF : jf_X7_behind ty h v0 v1 = some r) (t_v0 : ty v0 = some (0, 7)) (hrm : jr_X7_behind.frames + 1 ≤ R.frames ∧ 8 + (4 + 11) + jr_X7_behind.locals ≤ R.locals) (hsz : ls.size = nL) (hW : (rest.map fun v => v.category).sum ≤ 8) (hf : cells ≤ R.cells ∧ slots ≤ R.slots) (hdg : decode cc pc = .ok (.invokevirtual 84, 3)) (kk : ∀ (H1 : Heap) (locs1 : List Loc), xRep D ty h H1 → xS ty H0 H1 locs1 → W p l e R s m args below meth c H1 locs1 cells slots Q (F0 m (pc + 3) ls (.int r :: rest))) : W p l e R s m args below meth c H locs cells slots Q (F0 m pc ls (.int v1 :: .ref v0 :: rest)) := x_callV C0 (jc_X7_behind t_v0 hF) xm_X7_behind xi_X7_behind xe_X7_behind wl_X10_84 ⟨rfl, rfl, hrm⟩ (ci := 7) rfl t_v0 hR hS (As := [.int v1]) rfl hsz rfl hW hdg hf kk
theorem cl_X10_86 {v0 : Nat} {v1 : Int32} {r : Int32} (C0 : xC D RX10 cc nL rt p s m args meth c) (hR : xRep D ty h H) (hS : xS ty H0 H locs) (hF : jf_X7_firstPlace ty h v0 v1 = some r) (t_v0 : ty v0 = some (0, 7)) (hrm : jr_X7_firstPlace.frames + 1 ≤ R.frames ∧ 8 + (3 + 11) + jr_X7_firstPlace.locals ≤ R.locals) (hsz : ls.size = nL) (hW : (rest.map fun v => v.category).sum ≤ 8) (hf : cells ≤ R.cells ∧ slots ≤ R.slots) (hdg : decode cc pc = .ok (.invokevirtual 86, 3)) (kk : ∀ (H1 : Heap) (locs1 : List Loc), xRep D ty h H1 → xS ty H0 H1 locs1 → W p l e R s m args below meth c H1 locs1 cells slots Q (F0 m (pc + 3) ls (.int r :: rest))) : W p l e R s m args below meth c H locs cells slots Q (F0 m pc ls (.int v1 :: .ref v0 :: rest)) := x_callV C0 (jc_X7_firstPlace t_v0 hF) xm_X7_firstPlace xi_X7_firstPlace xe_X7_firstPlace wl_X10_86 ⟨rfl, rfl, hrm⟩ (ci := 7) rfl t_v0 hR hS (As := [.int v1]) rfl hsz rfl hW hdg hf kk
theorem gf_X10_11 {a : Nat} (C0 : xC D RX10 cc nL rt p s m args meth c) (hR : xRep D ty h H) (ht : ty a = some (0, 10)) {v : Nat} (hv : xR h a 0 = some v) (hdg : decode cc pc = .ok (.getfield 11, 3)) (kk : W p l e R s m args below meth c H locs cells slots Q (F0 m (pc + 3) ls (.ref v :: rest))) : W p l e R s m args below meth c H locs cells slots Q (F0 m pc ls (.ref a :: rest)) := x_get C0 hR (ci := 10) (k := 0) (N := 15) (T := TX10) rfl iX10 (by decide) rfl wf_X10_11 (by show va_rf (xR h a 0) = _; rw [hv]; rfl) ht hdg kk
theorem gf_X10_15 {a : Nat} (C0 : xC D RX10 cc nL rt p s m args meth c) (hR : xRep D ty h H) (ht : ty a = some (0, 10)) {v : Nat} (hv : xR h a 1 = some v) (hdg : decode cc pc = .ok (.getfield 15, 3)) (kk : W p l e R s m args below meth c H locs cells slots Q (F0 m (pc + 3) ls (.ref v :: rest))) : W p l e R s m args below meth c H locs cells slots Q (F0 m pc ls (.ref a :: rest)) := x_get C0 hR (ci := 10) (k := 1) (N := 15) (T := TX10) rfl iX10 (by decide) rfl wf_X10_15 (by show va_rf (xR h a 1) = _; rw [hv]; rfl) ht hdg kk
theorem gf_X10_18 {a : Nat} (C0 : xC D RX10 cc nL rt p s m args meth c) (hR : xRep D ty h H) (ht : ty a = some (0, 10)) {v : Nat} (hv : xR h a 2 = some v) (hdg : decode cc pc = .ok (.getfield 18, 3)) (kk : W p l e R s m args below meth c H locs cells slots Q (F0 m (pc + 3) ls (.ref v :: rest))) : W p l e R s m args below meth c H locs cells slots Q (F0 m pc ls (.ref a :: rest)) := x_get C0 hR (ci := 10) (k := 2) (N := 15) (T := TX10) rfl iX10 (by decide) rfl wf_X10_18 (by show va_rf (xR h a 2) = _; rw [hv]; rfl) ht hdg kk
theorem gf_X10_21 {a : Nat} (C0 : xC D RX10 cc nL rt p s m args meth c) (hR : xRep D ty h H) (ht : ty a = some (0, 10)) {v : Nat} (hv : xR h a 3 = some v) (hdg : decode cc pc = .ok (.getfield 21, 3)) (kk : W p l e R s m args below meth c H locs cells slots Q (F0 m (pc + 3) ls (.ref v :: rest))) : W p l e R s m args below meth c H locs cells slots Q (F0 m pc ls (.ref a :: rest)) := x_get C0 hR (ci := 10) (k := 3) (N := 15) (T := TX10) rfl iX10 (by decide) rfl wf_X10_21 (by show va_rf (xR h a 3) = _; rw [hv]; rfl) ht hdg kk
theorem gf_X10_24 {a : Nat} (C0 : xC D RX10 cc nL rt p s m args meth c) (hR : xRep D ty h H) (ht : ty a = some (0, 10)) {v : Nat} (hv : xR h a 4 = some v) (hdg : decode cc pc = .ok (.getfield 24, 3)) (kk : W p l e R s m args below meth c H locs cells slots Q (F0 m (pc + 3) ls (.ref v :: rest))) : W p l e R s m args below meth c H locs cells slots Q (F0 m pc ls (.ref a :: rest)) := x_get C0 hR (ci := 10) (k := 4) (N := 15) (T := TX10) rfl iX10 (by decide) rfl wf_X10_24 (by show va_rf (xR h a 4) = _; rw [hv]; rfl) ht hdg kk
theorem gf_X10_52 {a : Nat} (C0 : xC D RX10 cc nL rt p s m args meth c) (hR : xRep D ty h H) (ht : ty a = some (0, 10)) (hdg : decode cc pc = .ok (.getfield 52, 3)) (kk : W p l e R s m args below meth c H locs cells slots Q (F0 m (pc + 3) ls (.int (xI h a 11) :: rest))) : W p l e R s m args below meth c H locs cells slots Q (F0 m pc ls (.ref a :: rest)) := x_get C0 hR (ci := 10) (k := 11) (N := 15) (T := TX10) rfl iX10 (by decide) rfl wf_X10_52 rfl ht hdg kk
theorem gf_X10_80 {a : Nat} (C0 : xC D RX10 cc nL rt p s m args meth c) (hR : xRep D ty h H) (ht : ty a = some (0, 7)) (hdg : decode cc pc = .ok (.getfield 80, 3)) (kk : W p l e R s m args below meth c H locs cells slots Q (F0 m (pc + 3) ls (.int (xI h a 2) :: rest))) : W p l e R s m args below meth c H locs cells slots Q (F0 m pc ls (.ref a :: rest)) := x_get C0 hR (ci := 7) (k := 2) (N := 3) (T := TX7) rfl iX7 (by decide) rfl wf_X10_80 rfl ht hdg kk
theorem pf_X10_52 {a : Nat} {v : Int32} (C0 : xC D RX10 cc nL rt p s m args meth c) (hR : xRep D ty h H) (hS : xS ty H0 H locs) (ht : ty a = some (0, 10)) (hdg : decode cc pc = .ok (.putfield 52, 3)) (kk : ∀ (H1 : Heap) (locs1 : List Loc), xRep D ty (xsI h a 11 v) H1 → xS ty H0 H1 locs1 → W p l e R s m args below meth c H1 locs1 cells slots Q (F0 m (pc + 3) ls rest)) : W p l e R s m args below meth c H locs cells slots Q (F0 m pc ls (.int v :: .ref a :: rest)) := x_puti C0 hR hS (ci := 10) (k := 11) (N := 15) (T := TX10) rfl iX10 tyX10_ok nmX10 (by decide) rfl rfl wf_X10_52 (Or.inl rfl) rfl rfl ht hdg kk
end XN_X10_load
set_option maxHeartbeats 4000000 in
set_option maxRecDepth 100000 in
theorem jw_X10_load_102 {p : Program} {l : Launch} {e : Env} {s : State} {m : MethodId} {args : Array Value} {below : List Frame} {meth : Method} {c : Code} {D : xD} {ty : xTy} {k7 : Nat → Nat → Int32 → Int32 → xH → Option (xH)} (C0 : xC D RX10 cX10_load 5 none p s m args meth c) {h9 : xH} (hk7 : ∀ (v0 : Nat) (v1 : Nat) (v2 : Int32) (v3 : Int32) (h : xH), ty v0 = some (0, 10) → ty v1 = some (0, 7) → k7 v0 v1 v2 v3 h = some h9 → ∀ (H : Heap) (locs : List Loc), xRep D ty h H → xS ty s.heap H locs → ∀ ls : Array Slot, lv_has ls 5 [(0, .ref v0), (1, .ref v1), (2, .int v2), (3, .int v3)] → W p l e jr_X10_load s m args below meth c H locs 0 0 (MQ below (xQ D ty none h9) args s 0 0 (xdom ty)) (F0 m 7 ls [])) : ∀ (v0 : Nat) (v1 : Nat) (v2 : Int32) (v3 : Int32) (v4 : Int32) (s0 : Nat) (s1 : Int32) (s2 : Int32) (h : xH), ty v0 = some (0, 10) → ty v1 = some (0, 7) → jf_X10_load_102 ty k7 v0 v1 v2 v3 v4 s0 s1 s2 h = some h9 → ∀ (H : Heap) (locs : List Loc), xRep D ty h H → xS ty s.heap H locs → ∀ ls : Array Slot, lv_has ls 5 [(0, .ref v0), (1, .ref v1), (2, .int v2), (3, .int v3), (4, .int v4)] → W p l e jr_X10_load s m args below meth c H locs 0 0 (MQ below (xQ D ty none h9) args s 0 0 (xdom ty)) (F0 m 102 ls [.int s2, .int s1, .ref s0]) := by
  have hx := C0.1
  have hb := C0.2.1
  have hown := C0.2.2.2.2.2.1
  have hts := C0.2.2.2.2.2.2.1
  intro v0 v1 v2 v3 v4 s0 s1 s2 h t_v0 t_v1 hF H locs hR hS ls hl
  unfold jf_X10_load_102 at hF
  obtain ⟨h1, e_h1, hF⟩ := xbd hF
  refine x_iast C0 hR hS e_h1 dX10_load_102 (fun H locs hR hS => ?_)
  refine lv_aload_n hx hb dX10_load_103 rfl (lv_at hl 0 rfl) ?_
  obtain ⟨a2, e_a2, hF⟩ := xbd hF
  refine gf_X10_24 C0 hR t_v0 e_a2 dX10_load_104 ?_
  refine lv_aload_n hx hb dX10_load_107 rfl (lv_at hl 0 rfl) ?_
  refine gf_X10_52 C0 hR t_v0 dX10_load_108 ?_
  refine lv_iload hx hb dX10_load_111 (lv_at hl 4 rfl) ?_
  refine lv_bipush (v := 100) hx hb dX10_load_113 (by decide) ?_
  refine lv_icmp_ge (tgt := 125) hx hb dX10_load_115 (by decide) (fun c3 => ?_) (fun c3 => ?_)
  · have hF := xif hF c3
    refine lv_iconst (v := (-1)) hx hb dX10_load_125 (by decide) ?_
    obtain ⟨h4, e_h4, hF⟩ := xbd hF
    refine x_iast C0 hR hS e_h4 dX10_load_126 (fun H locs hR hS => ?_)
    refine lv_aload_n hx hb dX10_load_127 rfl (lv_at hl 0 rfl) ?_
    refine lv_dup hx hb dX10_load_128 rfl ?_
    refine gf_X10_52 C0 hR t_v0 dX10_load_129 ?_
    refine lv_iconst (v := 1) hx hb dX10_load_132 (by decide) ?_
    refine lv_iadd hx hb dX10_load_133 ?_
    obtain ⟨h5, e_h5, hF⟩ := xbd hF
    refine pf_X10_52 C0 hR hS t_v0 dX10_load_134 (fun H locs hR hS => ?_)
    rw [Option.some.inj e_h5] at hR
    refine lv_iinc (v := v3 + 1) (lv' := [(3, .int (v3 + 1)), (0, .ref v0), (1, .ref v1), (2, .int v2), (4, .int v4)]) hx hb dX10_load_137 hl (k := 3) rfl rfl (by decide) rfl (fun ls hl => ?_)
    refine lv_goto (tgt := 7) hx hb dX10_load_140 (by decide) ?_
    exact hk7 _ _ _ _ _ t_v0 t_v1 hF _ _ hR hS _ (lv_sub hl [1, 2, 3, 0] rfl)
  · have hF := xel hF c3
    refine lv_aload_n hx hb dX10_load_118 rfl (lv_at hl 0 rfl) ?_
    refine gf_X10_52 C0 hR t_v0 dX10_load_119 ?_
    refine lv_goto (tgt := 126) hx hb dX10_load_122 (by decide) ?_
    obtain ⟨h6, e_h6, hF⟩ := xbd hF
    refine x_iast C0 hR hS e_h6 dX10_load_126 (fun H locs hR hS => ?_)
    refine lv_aload_n hx hb dX10_load_127 rfl (lv_at hl 0 rfl) ?_
    refine lv_dup hx hb dX10_load_128 rfl ?_
    refine gf_X10_52 C0 hR t_v0 dX10_load_129 ?_
    refine lv_iconst (v := 1) hx hb dX10_load_132 (by decide) ?_
    refine lv_iadd hx hb dX10_load_133 ?_
    obtain ⟨h7, e_h7, hF⟩ := xbd hF
    refine pf_X10_52 C0 hR hS t_v0 dX10_load_134 (fun H locs hR hS => ?_)
    rw [Option.some.inj e_h7] at hR
    refine lv_iinc (v := v3 + 1) (lv' := [(3, .int (v3 + 1)), (0, .ref v0), (1, .ref v1), (2, .int v2), (4, .int v4)]) hx hb dX10_load_137 hl (k := 3) rfl rfl (by decide) rfl (fun ls hl => ?_)
    refine lv_goto (tgt := 7) hx hb dX10_load_140 (by decide) ?_
    exact hk7 _ _ _ _ _ t_v0 t_v1 hF _ _ hR hS _ (lv_sub hl [1, 2, 3, 0] rfl)
set_option maxHeartbeats 4000000 in
set_option maxRecDepth 100000 in
theorem jw_X10_load_7 {p : Program} {l : Launch} {e : Env} {s : State} {m : MethodId} {args : Array Value} {below : List Frame} {meth : Method} {c : Code} {D : xD} {ty : xTy} (C0 : xC D RX10 cX10_load 5 none p s m args meth c) {h9 : xH} : ∀ n : Nat, ∀ (v0 : Nat) (v1 : Nat) (v2 : Int32) (v3 : Int32) (h : xH), ty v0 = some (0, 10) → ty v1 = some (0, 7) → jf_X10_load_7 ty n v0 v1 v2 v3 h = some h9 → ∀ (H : Heap) (locs : List Loc), xRep D ty h H → xS ty s.heap H locs → ∀ ls : Array Slot, lv_has ls 5 [(0, .ref v0), (1, .ref v1), (2, .int v2), (3, .int v3)] → W p l e jr_X10_load s m args below meth c H locs 0 0 (MQ below (xQ D ty none h9) args s 0 0 (xdom ty)) (F0 m 7 ls []) := by
  have hx := C0.1
  have hb := C0.2.1
  have hown := C0.2.2.2.2.2.1
  have hts := C0.2.2.2.2.2.2.1
  intro n
  induction n with
  | zero =>
    intro v0 v1 v2 v3 h t_v0 t_v1 hF H locs hR hS ls hl
    cases hF
  | succ n ih =>
    intro v0 v1 v2 v3 h t_v0 t_v1 hF H locs hR hS ls hl
    rw [jf_X10_load_7_s] at hF
    refine lv_iload_n hx hb dX10_load_7 rfl (lv_at hl 3 rfl) ?_
    refine lv_aload_n hx hb dX10_load_8 rfl (lv_at hl 1 rfl) ?_
    refine gf_X10_80 C0 hR t_v1 dX10_load_9 ?_
    refine lv_icmp_ge (tgt := 143) hx hb dX10_load_12 (by decide) (fun c8 => ?_) (fun c8 => ?_)
    · have hF := xif hF c8
      cases hF
      exact x_vret C0 hR hS dX10_load_143
    · have hF := xel hF c8
      refine lv_aload_n hx hb dX10_load_15 rfl (lv_at hl 0 rfl) ?_
      refine gf_X10_52 C0 hR t_v0 dX10_load_16 ?_
      refine lv_bipush (v := 24) hx hb dX10_load_19 (by decide) ?_
      refine lv_icmp_ge (tgt := 143) hx hb dX10_load_21 (by decide) (fun c9 => ?_) (fun c9 => ?_)
      · have hF := xif hF c9
        cases hF
        exact x_vret C0 hR hS dX10_load_143
      · have hF := xel hF c9
        refine lv_aload_n hx hb dX10_load_24 rfl (lv_at hl 1 rfl) ?_
        refine lv_iload_n hx hb dX10_load_25 rfl (lv_at hl 3 rfl) ?_
        obtain ⟨a10, e_a10, hF⟩ := xbd hF
        refine cl_X10_65 C0 hR hS e_a10 t_v1 ⟨(Nat.le_of_ble_eq_true rfl), (Nat.le_of_ble_eq_true rfl)⟩ hl.1 (Nat.le_of_ble_eq_true rfl) ⟨(Nat.le_of_ble_eq_true rfl), (Nat.le_of_ble_eq_true rfl)⟩ dX10_load_26 (fun H locs hR hS => ?_)
        refine lv_istore (lv' := [(4, .int a10), (0, .ref v0), (1, .ref v1), (2, .int v2), (3, .int v3)]) hx hb dX10_load_29 hl (by decide) rfl (fun ls hl => ?_)
        refine lv_aload_n hx hb dX10_load_31 rfl (lv_at hl 1 rfl) ?_
        obtain ⟨a11, e_a11, hF⟩ := xbd hF
        refine gf_X10_11 C0 hR t_v0 e_a11 dX10_load_32 ?_
        refine lv_aload_n hx hb dX10_load_35 rfl (lv_at hl 1 rfl) ?_
        refine gf_X10_52 C0 hR t_v0 dX10_load_36 ?_
        refine lv_iload hx hb dX10_load_39 (lv_at hl 0 rfl) ?_
        obtain ⟨h12, e_h12, hF⟩ := xbd hF
        refine x_iast C0 hR hS e_h12 dX10_load_41 (fun H locs hR hS => ?_)
        refine lv_aload_n hx hb dX10_load_42 rfl (lv_at hl 1 rfl) ?_
        obtain ⟨a13, e_a13, hF⟩ := xbd hF
        refine gf_X10_15 C0 hR t_v0 e_a13 dX10_load_43 ?_
        refine lv_aload_n hx hb dX10_load_46 rfl (lv_at hl 1 rfl) ?_
        refine gf_X10_52 C0 hR t_v0 dX10_load_47 ?_
        refine lv_aload_n hx hb dX10_load_50 rfl (lv_at hl 2 rfl) ?_
        refine lv_iload_n hx hb dX10_load_51 rfl (lv_at hl 4 rfl) ?_
        obtain ⟨a14, e_a14, hF⟩ := xbd hF
        refine cl_X10_81 C0 hR hS e_a14 t_v1 ⟨(Nat.le_of_ble_eq_true rfl), (Nat.le_of_ble_eq_true rfl)⟩ hl.1 (Nat.le_of_ble_eq_true rfl) ⟨(Nat.le_of_ble_eq_true rfl), (Nat.le_of_ble_eq_true rfl)⟩ dX10_load_52 (fun H locs hR hS => ?_)
        obtain ⟨h15, e_h15, hF⟩ := xbd hF
        refine x_iast C0 hR hS e_h15 dX10_load_55 (fun H locs hR hS => ?_)
        refine lv_aload_n hx hb dX10_load_56 rfl (lv_at hl 1 rfl) ?_
        obtain ⟨a16, e_a16, hF⟩ := xbd hF
        refine gf_X10_18 C0 hR t_v0 e_a16 dX10_load_57 ?_
        refine lv_aload_n hx hb dX10_load_60 rfl (lv_at hl 1 rfl) ?_
        refine gf_X10_52 C0 hR t_v0 dX10_load_61 ?_
        refine lv_iload_n hx hb dX10_load_64 rfl (lv_at hl 3 rfl) ?_
        refine lv_aload_n hx hb dX10_load_65 rfl (lv_at hl 2 rfl) ?_
        refine lv_iload_n hx hb dX10_load_66 rfl (lv_at hl 4 rfl) ?_
        obtain ⟨a17, e_a17, hF⟩ := xbd hF
        refine cl_X10_84 C0 hR hS e_a17 t_v1 ⟨(Nat.le_of_ble_eq_true rfl), (Nat.le_of_ble_eq_true rfl)⟩ hl.1 (Nat.le_of_ble_eq_true rfl) ⟨(Nat.le_of_ble_eq_true rfl), (Nat.le_of_ble_eq_true rfl)⟩ dX10_load_67 (fun H locs hR hS => ?_)
        refine lv_iadd hx hb dX10_load_70 ?_
        obtain ⟨h18, e_h18, hF⟩ := xbd hF
        refine x_iast C0 hR hS e_h18 dX10_load_71 (fun H locs hR hS => ?_)
        refine lv_aload_n hx hb dX10_load_72 rfl (lv_at hl 1 rfl) ?_
        obtain ⟨a19, e_a19, hF⟩ := xbd hF
        refine gf_X10_21 C0 hR t_v0 e_a19 dX10_load_73 ?_
        refine lv_aload_n hx hb dX10_load_76 rfl (lv_at hl 1 rfl) ?_
        refine gf_X10_52 C0 hR t_v0 dX10_load_77 ?_
        refine lv_iload hx hb dX10_load_80 (lv_at hl 0 rfl) ?_
        refine lv_bipush (v := 100) hx hb dX10_load_82 (by decide) ?_
        refine lv_icmp_ge (tgt := 94) hx hb dX10_load_84 (by decide) (fun c20 => ?_) (fun c20 => ?_)
        · have hF := xif hF c20
          refine lv_iload_n hx hb dX10_load_94 rfl (lv_at hl 3 rfl) ?_
          refine lv_aload_n hx hb dX10_load_95 rfl (lv_at hl 2 rfl) ?_
          refine lv_iload hx hb dX10_load_96 (lv_at hl 0 rfl) ?_
          obtain ⟨a21, e_a21, hF⟩ := xbd hF
          refine cl_X10_86 C0 hR hS e_a21 t_v1 ⟨(Nat.le_of_ble_eq_true rfl), (Nat.le_of_ble_eq_true rfl)⟩ hl.1 (Nat.le_of_ble_eq_true rfl) ⟨(Nat.le_of_ble_eq_true rfl), (Nat.le_of_ble_eq_true rfl)⟩ dX10_load_98 (fun H locs hR hS => ?_)
          refine lv_iadd hx hb dX10_load_101 ?_
          exact jw_X10_load_102 C0 ih _ _ _ _ _ _ _ _ _ t_v0 t_v1 hF _ _ hR hS _ (lv_sub hl [1, 2, 3, 4, 0] rfl)
        · have hF := xel hF c20
          refine lv_aload_n hx hb dX10_load_87 rfl (lv_at hl 1 rfl) ?_
          refine gf_X10_52 C0 hR t_v0 dX10_load_88 ?_
          refine lv_goto (tgt := 102) hx hb dX10_load_91 (by decide) ?_
          exact jw_X10_load_102 C0 ih _ _ _ _ _ _ _ _ _ t_v0 t_v1 hF _ _ hR hS _ (lv_sub hl [1, 2, 3, 4, 0] rfl)
set_option maxHeartbeats 4000000 in
set_option maxRecDepth 100000 in
theorem jc_X10_load {l : Launch} {D : xD} {ty : xTy} {h : xH} {v0 : Nat} {v1 : Nat} {h9 : xH} (t_v0 : ty v0 = some (0, 10)) (t_v1 : ty v1 = some (0, 7)) (hF : jf_X10_load ty h v0 v1 = some h9) : Met l yX10_load (xws yX10_load cX10_load 5 none) jr_X10_load (xPc D ty h [.ref v0, .ref v1]) (xQ D ty none h9) 0 0 (xdom ty) := by
  refine x_met (by decide) ?_
  intro p e s m below meth c C0 hR
  generalize hargs : ([.ref v0, .ref v1] : List Value).toArray = args at C0 ⊢
  have hx := C0.1
  have hb := C0.2.1
  have hown := C0.2.2.2.2.2.1
  have hts := C0.2.2.2.2.2.2.1
  have hS : xS ty s.heap s.heap [] := xS.rf
  have hl := lv_entry ([.ref v0, .ref v1]) (n := 5) (Nat.le_of_ble_eq_true rfl)
  rw [← hargs, lg_entry_eq]
  rw [hargs]
  generalize (lg_sl ([.ref v0, .ref v1]) ++ List.replicate (5 - (lg_sl ([.ref v0, .ref v1])).length) Slot.unset).toArray = ls at hl ⊢
  have hl : lv_has ls 5 [(0, .ref v0), (1, .ref v1)] := hl
  unfold jf_X10_load at hF
  refine lv_aload_n hx hb dX10_load_0 rfl (lv_at hl 0 rfl) ?_
  refine gf_X10_52 C0 hR t_v0 dX10_load_1 ?_
  refine lv_istore_n (lv' := [(2, .int (xI h v0 11)), (0, .ref v0), (1, .ref v1)]) hx hb dX10_load_4 rfl hl (by decide) rfl (fun ls hl => ?_)
  refine lv_iconst (v := 0) hx hb dX10_load_5 (by decide) ?_
  refine lv_istore_n (lv' := [(3, .int 0), (2, .int (xI h v0 11)), (0, .ref v0), (1, .ref v1)]) hx hb dX10_load_6 rfl hl (by decide) rfl (fun ls hl => ?_)
  obtain ⟨_, hF⟩ := xlim_sp hF
  exact jw_X10_load_7 C0 _ _ _ _ _ _ t_v0 t_v1 hF _ _ hR hS _ (lv_sub hl [2, 3, 1, 0] rfl)
theorem xm_X10_load : xMw yX10_load cX10_load 5 none 1 := ⟨xin 827 (by decide +kernel) rfl, xin 122 (by decide +kernel) rfl, by decide +kernel⟩
theorem xi_X10_load : Cond.instanceMethod yX10_load ∈ xT := xin 826 (by decide +kernel) rfl
theorem xe_X10_load : Cond.selects yX10_load.cls yX10_load yX10_load ∈ xT := xin 25 (by decide +kernel) rfl
theorem dX10_isNode_0 : decode cX10_isNode 0 = .ok (.iload_n 1, 1) := by decide +kernel
theorem dX10_isNode_1 : decode cX10_isNode 1 = .ok (.ifCond .lt 21, 3) := by decide +kernel
theorem dX10_isNode_4 : decode cX10_isNode 4 = .ok (.iload_n 1, 1) := by decide +kernel
theorem dX10_isNode_5 : decode cX10_isNode 5 = .ok (.aload_n 0, 1) := by decide +kernel
theorem dX10_isNode_6 : decode cX10_isNode 6 = .ok (.getfield 52, 3) := by decide +kernel
theorem dX10_isNode_9 : decode cX10_isNode 9 = .ok (.if_icmp .ge 13, 3) := by decide +kernel
theorem dX10_isNode_12 : decode cX10_isNode 12 = .ok (.iload_n 1, 1) := by decide +kernel
theorem dX10_isNode_13 : decode cX10_isNode 13 = .ok (.bipush 24, 2) := by decide +kernel
theorem dX10_isNode_15 : decode cX10_isNode 15 = .ok (.if_icmp .ge 7, 3) := by decide +kernel
theorem dX10_isNode_18 : decode cX10_isNode 18 = .ok (.iconst 1, 1) := by decide +kernel
theorem dX10_isNode_19 : decode cX10_isNode 19 = .ok (.goto 4, 3) := by decide +kernel
theorem dX10_isNode_22 : decode cX10_isNode 22 = .ok (.iconst 0, 1) := by decide +kernel
theorem dX10_isNode_23 : decode cX10_isNode 23 = .ok (.ireturn, 1) := by decide +kernel
set_option maxHeartbeats 4000000 in
set_option maxRecDepth 100000 in
theorem jc_X10_isNode {l : Launch} {D : xD} {ty : xTy} {h : xH} {v0 : Nat} {v1 : Int32} {r : Int32} (t_v0 : ty v0 = some (0, 10)) (hF : jf_X10_isNode ty h v0 v1 = some r) : Met l yX10_isNode (xws yX10_isNode cX10_isNode 2 (some .boolean)) jr_X10_isNode (xPc D ty h [.ref v0, .int v1]) (xQ D ty (some (.int r)) h) 0 0 (xdom ty) := by
  refine x_met (by decide) ?_
  intro p e s m below meth c C0 hR
  generalize hargs : ([.ref v0, .int v1] : List Value).toArray = args at C0 ⊢
  have hx := C0.1
  have hb := C0.2.1
  have hown := C0.2.2.2.2.2.1
  have hts := C0.2.2.2.2.2.2.1
  have hS : xS ty s.heap s.heap [] := xS.rf
  have hl := lv_entry ([.ref v0, .int v1]) (n := 2) (Nat.le_of_ble_eq_true rfl)
  rw [← hargs, lg_entry_eq]
  rw [hargs]
  generalize (lg_sl ([.ref v0, .int v1]) ++ List.replicate (2 - (lg_sl ([.ref v0, .int v1])).length) Slot.unset).toArray = ls at hl ⊢
  have hl : lv_has ls 2 [(0, .ref v0), (1, .int v1)] := hl
  unfold jf_X10_isNode at hF
  refine lv_iload_n hx hb dX10_isNode_0 rfl (lv_at hl 1 rfl) ?_
  refine lv_if_lt (tgt := 22) hx hb dX10_isNode_1 (by decide) (fun c1 => ?_) (fun c1 => ?_)
  · have hF := xif hF c1
    refine lv_iconst (v := 0) hx hb dX10_isNode_22 (by decide) ?_
    cases hF
    exact x_zret (w := 0) C0 hR hS (by decide) dX10_isNode_23
  · have hF := xel hF c1
    refine lv_iload_n hx hb dX10_isNode_4 rfl (lv_at hl 1 rfl) ?_
    refine lv_aload_n hx hb dX10_isNode_5 rfl (lv_at hl 0 rfl) ?_
    refine gf_X10_52 C0 hR t_v0 dX10_isNode_6 ?_
    refine lv_icmp_ge (tgt := 22) hx hb dX10_isNode_9 (by decide) (fun c2 => ?_) (fun c2 => ?_)
    · have hF := xif hF c2
      refine lv_iconst (v := 0) hx hb dX10_isNode_22 (by decide) ?_
      cases hF
      exact x_zret (w := 0) C0 hR hS (by decide) dX10_isNode_23
    · have hF := xel hF c2
      refine lv_iload_n hx hb dX10_isNode_12 rfl (lv_at hl 1 rfl) ?_
      refine lv_bipush (v := 24) hx hb dX10_isNode_13 (by decide) ?_
      refine lv_icmp_ge (tgt := 22) hx hb dX10_isNode_15 (by decide) (fun c3 => ?_) (fun c3 => ?_)
      · have hF := xif hF c3
        refine lv_iconst (v := 0) hx hb dX10_isNode_22 (by decide) ?_
        cases hF
        exact x_zret (w := 0) C0 hR hS (by decide) dX10_isNode_23
      · have hF := xel hF c3
        refine lv_iconst (v := 1) hx hb dX10_isNode_18 (by decide) ?_
        refine lv_goto (tgt := 23) hx hb dX10_isNode_19 (by decide) ?_
        cases hF
        exact x_zret (w := 1) C0 hR hS (by decide) dX10_isNode_23
theorem xm_X10_isNode : xMw yX10_isNode cX10_isNode 2 (some .boolean) 1 := ⟨xin 842 (by decide +kernel) rfl, xin 122 (by decide +kernel) rfl, by decide +kernel⟩
theorem xi_X10_isNode : Cond.instanceMethod yX10_isNode ∈ xT := xin 841 (by decide +kernel) rfl
theorem xe_X10_isNode : Cond.selects yX10_isNode.cls yX10_isNode yX10_isNode ∈ xT := xin 28 (by decide +kernel) rfl
theorem dX10_classOf_0 : decode cX10_classOf 0 = .ok (.iload_n 1, 1) := by decide +kernel
theorem dX10_classOf_1 : decode cX10_classOf 1 = .ok (.istore_n 2, 1) := by decide +kernel
theorem dX10_classOf_2 : decode cX10_classOf 2 = .ok (.iconst 0, 1) := by decide +kernel
theorem dX10_classOf_3 : decode cX10_classOf 3 = .ok (.istore_n 3, 1) := by decide +kernel
theorem dX10_classOf_4 : decode cX10_classOf 4 = .ok (.iload_n 3, 1) := by decide +kernel
theorem dX10_classOf_5 : decode cX10_classOf 5 = .ok (.aload_n 0, 1) := by decide +kernel
theorem dX10_classOf_6 : decode cX10_classOf 6 = .ok (.getfield 52, 3) := by decide +kernel
theorem dX10_classOf_9 : decode cX10_classOf 9 = .ok (.if_icmp .ge 34, 3) := by decide +kernel
theorem dX10_classOf_12 : decode cX10_classOf 12 = .ok (.aload_n 0, 1) := by decide +kernel
theorem dX10_classOf_13 : decode cX10_classOf 13 = .ok (.iload_n 2, 1) := by decide +kernel
theorem dX10_classOf_14 : decode cX10_classOf 14 = .ok (.invokevirtual 96, 3) := by decide +kernel
theorem dX10_classOf_17 : decode cX10_classOf 17 = .ok (.ifCond .eq 26, 3) := by decide +kernel
theorem dX10_classOf_20 : decode cX10_classOf 20 = .ok (.aload_n 0, 1) := by decide +kernel
theorem dX10_classOf_21 : decode cX10_classOf 21 = .ok (.getfield 21, 3) := by decide +kernel
theorem dX10_classOf_24 : decode cX10_classOf 24 = .ok (.iload_n 2, 1) := by decide +kernel
theorem dX10_classOf_25 : decode cX10_classOf 25 = .ok (.iaload, 1) := by decide +kernel
theorem dX10_classOf_26 : decode cX10_classOf 26 = .ok (.iload_n 2, 1) := by decide +kernel
theorem dX10_classOf_27 : decode cX10_classOf 27 = .ok (.if_icmp .eq 16, 3) := by decide +kernel
theorem dX10_classOf_30 : decode cX10_classOf 30 = .ok (.aload_n 0, 1) := by decide +kernel
theorem dX10_classOf_31 : decode cX10_classOf 31 = .ok (.getfield 21, 3) := by decide +kernel
theorem dX10_classOf_34 : decode cX10_classOf 34 = .ok (.iload_n 2, 1) := by decide +kernel
theorem dX10_classOf_35 : decode cX10_classOf 35 = .ok (.iaload, 1) := by decide +kernel
theorem dX10_classOf_36 : decode cX10_classOf 36 = .ok (.istore_n 2, 1) := by decide +kernel
theorem dX10_classOf_37 : decode cX10_classOf 37 = .ok (.iinc 3 1, 3) := by decide +kernel
theorem dX10_classOf_40 : decode cX10_classOf 40 = .ok (.goto (-36), 3) := by decide +kernel
theorem dX10_classOf_43 : decode cX10_classOf 43 = .ok (.aload_n 0, 1) := by decide +kernel
theorem dX10_classOf_44 : decode cX10_classOf 44 = .ok (.iload_n 2, 1) := by decide +kernel
theorem dX10_classOf_45 : decode cX10_classOf 45 = .ok (.invokevirtual 96, 3) := by decide +kernel
theorem dX10_classOf_48 : decode cX10_classOf 48 = .ok (.ifCond .eq 7, 3) := by decide +kernel
theorem dX10_classOf_51 : decode cX10_classOf 51 = .ok (.iload_n 2, 1) := by decide +kernel
theorem dX10_classOf_52 : decode cX10_classOf 52 = .ok (.goto 4, 3) := by decide +kernel
theorem dX10_classOf_55 : decode cX10_classOf 55 = .ok (.iconst 0, 1) := by decide +kernel
theorem dX10_classOf_56 : decode cX10_classOf 56 = .ok (.ireturn, 1) := by decide +kernel
theorem wl_X10_96 : Cond.methodLink RX10 96 yX10_isNode ∈ xT := xin 839 (by decide +kernel) rfl
section XN_X10_classOf
variable {p : Program} {l : Launch} {e : Env} {R : Room} {s : State} {m : MethodId} {args : Array Value} {below : List Frame} {meth : Method} {c : Code} {H H0 : Heap} {locs : List Loc} {cells slots : Nat} {Q : State → Prop} {cc : ByteArray} {nL pc : Nat} {rt : Option FieldType} {ls : Array Slot} {rest : List Value} {D : xD} {ty : xTy} {h : xH}
theorem cl_X10_96 {v0 : Nat} {v1 : Int32} {r : Int32} (C0 : xC D RX10 cc nL rt p s m args meth c) (hR : xRep D ty h H) (hS : xS ty H0 H locs) (hF : jf_X10_isNode ty h v0 v1 = some r) (t_v0 : ty v0 = some (0, 10)) (hrm : jr_X10_isNode.frames + 1 ≤ R.frames ∧ 8 + (2 + 11) + jr_X10_isNode.locals ≤ R.locals) (hsz : ls.size = nL) (hW : (rest.map fun v => v.category).sum ≤ 8) (hf : cells ≤ R.cells ∧ slots ≤ R.slots) (hdg : decode cc pc = .ok (.invokevirtual 96, 3)) (kk : ∀ (H1 : Heap) (locs1 : List Loc), xRep D ty h H1 → xS ty H0 H1 locs1 → W p l e R s m args below meth c H1 locs1 cells slots Q (F0 m (pc + 3) ls (.int r :: rest))) : W p l e R s m args below meth c H locs cells slots Q (F0 m pc ls (.int v1 :: .ref v0 :: rest)) := x_callV C0 (jc_X10_isNode t_v0 hF) xm_X10_isNode xi_X10_isNode xe_X10_isNode wl_X10_96 ⟨rfl, rfl, hrm⟩ (ci := 10) rfl t_v0 hR hS (As := [.int v1]) rfl hsz rfl hW hdg hf kk
end XN_X10_classOf
set_option maxHeartbeats 4000000 in
set_option maxRecDepth 100000 in
theorem jw_X10_classOf_43 {p : Program} {l : Launch} {e : Env} {s : State} {m : MethodId} {args : Array Value} {below : List Frame} {meth : Method} {c : Code} {D : xD} {ty : xTy} {h : xH} (C0 : xC D RX10 cX10_classOf 4 (some .int) p s m args meth c) {r : Int32} : ∀ (v0 : Nat) (v2 : Int32), ty v0 = some (0, 10) → jf_X10_classOf_43 ty h v0 v2 = some r → ∀ (H : Heap) (locs : List Loc), xRep D ty h H → xS ty s.heap H locs → ∀ ls : Array Slot, lv_has ls 4 [(0, .ref v0), (2, .int v2)] → W p l e jr_X10_classOf s m args below meth c H locs 0 0 (MQ below (xQ D ty (some (.int r)) h) args s 0 0 (xdom ty)) (F0 m 43 ls []) := by
  have hx := C0.1
  have hb := C0.2.1
  have hown := C0.2.2.2.2.2.1
  have hts := C0.2.2.2.2.2.2.1
  intro v0 v2 t_v0 hF H locs hR hS ls hl
  unfold jf_X10_classOf_43 at hF
  refine lv_aload_n hx hb dX10_classOf_43 rfl (lv_at hl 0 rfl) ?_
  refine lv_iload_n hx hb dX10_classOf_44 rfl (lv_at hl 1 rfl) ?_
  obtain ⟨a1, e_a1, hF⟩ := xbd hF
  refine cl_X10_96 C0 hR hS e_a1 t_v0 ⟨(Nat.le_of_ble_eq_true rfl), (Nat.le_of_ble_eq_true rfl)⟩ hl.1 (Nat.le_of_ble_eq_true rfl) ⟨(Nat.le_of_ble_eq_true rfl), (Nat.le_of_ble_eq_true rfl)⟩ dX10_classOf_45 (fun H locs hR hS => ?_)
  refine lv_if_eq (tgt := 55) hx hb dX10_classOf_48 (by decide) (fun c2 => ?_) (fun c2 => ?_)
  · have hF := xif hF c2
    refine lv_iconst (v := 0) hx hb dX10_classOf_55 (by decide) ?_
    cases hF
    exact x_iret C0 hR hS dX10_classOf_56
  · have hF := xel hF c2
    refine lv_iload_n hx hb dX10_classOf_51 rfl (lv_at hl 1 rfl) ?_
    refine lv_goto (tgt := 56) hx hb dX10_classOf_52 (by decide) ?_
    cases hF
    exact x_iret C0 hR hS dX10_classOf_56
set_option maxHeartbeats 4000000 in
set_option maxRecDepth 100000 in
theorem jw_X10_classOf_4 {p : Program} {l : Launch} {e : Env} {s : State} {m : MethodId} {args : Array Value} {below : List Frame} {meth : Method} {c : Code} {D : xD} {ty : xTy} {h : xH} (C0 : xC D RX10 cX10_classOf 4 (some .int) p s m args meth c) {r : Int32} : ∀ n : Nat, ∀ (v0 : Nat) (v2 : Int32) (v3 : Int32), ty v0 = some (0, 10) → jf_X10_classOf_4 ty h n v0 v2 v3 = some r → ∀ (H : Heap) (locs : List Loc), xRep D ty h H → xS ty s.heap H locs → ∀ ls : Array Slot, lv_has ls 4 [(0, .ref v0), (2, .int v2), (3, .int v3)] → W p l e jr_X10_classOf s m args below meth c H locs 0 0 (MQ below (xQ D ty (some (.int r)) h) args s 0 0 (xdom ty)) (F0 m 4 ls []) := by
  have hx := C0.1
  have hb := C0.2.1
  have hown := C0.2.2.2.2.2.1
  have hts := C0.2.2.2.2.2.2.1
  intro n
  induction n with
  | zero =>
    intro v0 v2 v3 t_v0 hF H locs hR hS ls hl
    cases hF
  | succ n ih =>
    intro v0 v2 v3 t_v0 hF H locs hR hS ls hl
    rw [jf_X10_classOf_4_s] at hF
    refine lv_iload_n hx hb dX10_classOf_4 rfl (lv_at hl 2 rfl) ?_
    refine lv_aload_n hx hb dX10_classOf_5 rfl (lv_at hl 0 rfl) ?_
    refine gf_X10_52 C0 hR t_v0 dX10_classOf_6 ?_
    refine lv_icmp_ge (tgt := 43) hx hb dX10_classOf_9 (by decide) (fun c3 => ?_) (fun c3 => ?_)
    · have hF := xif hF c3
      exact jw_X10_classOf_43 C0 _ _ t_v0 hF _ _ hR hS _ (lv_sub hl [0, 1] rfl)
    · have hF := xel hF c3
      refine lv_aload_n hx hb dX10_classOf_12 rfl (lv_at hl 0 rfl) ?_
      refine lv_iload_n hx hb dX10_classOf_13 rfl (lv_at hl 1 rfl) ?_
      obtain ⟨a4, e_a4, hF⟩ := xbd hF
      refine cl_X10_96 C0 hR hS e_a4 t_v0 ⟨(Nat.le_of_ble_eq_true rfl), (Nat.le_of_ble_eq_true rfl)⟩ hl.1 (Nat.le_of_ble_eq_true rfl) ⟨(Nat.le_of_ble_eq_true rfl), (Nat.le_of_ble_eq_true rfl)⟩ dX10_classOf_14 (fun H locs hR hS => ?_)
      refine lv_if_eq (tgt := 43) hx hb dX10_classOf_17 (by decide) (fun c5 => ?_) (fun c5 => ?_)
      · have hF := xif hF c5
        exact jw_X10_classOf_43 C0 _ _ t_v0 hF _ _ hR hS _ (lv_sub hl [0, 1] rfl)
      · have hF := xel hF c5
        refine lv_aload_n hx hb dX10_classOf_20 rfl (lv_at hl 0 rfl) ?_
        obtain ⟨a6, e_a6, hF⟩ := xbd hF
        refine gf_X10_21 C0 hR t_v0 e_a6 dX10_classOf_21 ?_
        refine lv_iload_n hx hb dX10_classOf_24 rfl (lv_at hl 1 rfl) ?_
        obtain ⟨a7, e_a7, hF⟩ := xbd hF
        refine x_iald C0 hR e_a7 dX10_classOf_25 ?_
        refine lv_iload_n hx hb dX10_classOf_26 rfl (lv_at hl 1 rfl) ?_
        refine lv_icmp_eq (tgt := 43) hx hb dX10_classOf_27 (by decide) (fun c8 => ?_) (fun c8 => ?_)
        · have hF := xif hF c8
          exact jw_X10_classOf_43 C0 _ _ t_v0 hF _ _ hR hS _ (lv_sub hl [0, 1] rfl)
        · have hF := xel hF c8
          refine lv_aload_n hx hb dX10_classOf_30 rfl (lv_at hl 0 rfl) ?_
          obtain ⟨a9, e_a9, hF⟩ := xbd hF
          refine gf_X10_21 C0 hR t_v0 e_a9 dX10_classOf_31 ?_
          refine lv_iload_n hx hb dX10_classOf_34 rfl (lv_at hl 1 rfl) ?_
          obtain ⟨a10, e_a10, hF⟩ := xbd hF
          refine x_iald C0 hR e_a10 dX10_classOf_35 ?_
          refine lv_istore_n (lv' := [(2, .int a10), (0, .ref v0), (3, .int v3)]) hx hb dX10_classOf_36 rfl hl (by decide) rfl (fun ls hl => ?_)
          refine lv_iinc (v := v3 + 1) (lv' := [(3, .int (v3 + 1)), (2, .int a10), (0, .ref v0)]) hx hb dX10_classOf_37 hl (k := 2) rfl rfl (by decide) rfl (fun ls hl => ?_)
          refine lv_goto (tgt := 4) hx hb dX10_classOf_40 (by decide) ?_
          exact ih _ _ _ t_v0 hF _ _ hR hS _ (lv_sub hl [2, 1, 0] rfl)
set_option maxHeartbeats 4000000 in
set_option maxRecDepth 100000 in
theorem jc_X10_classOf {l : Launch} {D : xD} {ty : xTy} {h : xH} {v0 : Nat} {v1 : Int32} {r : Int32} (t_v0 : ty v0 = some (0, 10)) (hF : jf_X10_classOf ty h v0 v1 = some r) : Met l yX10_classOf (xws yX10_classOf cX10_classOf 4 (some .int)) jr_X10_classOf (xPc D ty h [.ref v0, .int v1]) (xQ D ty (some (.int r)) h) 0 0 (xdom ty) := by
  refine x_met (by decide) ?_
  intro p e s m below meth c C0 hR
  generalize hargs : ([.ref v0, .int v1] : List Value).toArray = args at C0 ⊢
  have hx := C0.1
  have hb := C0.2.1
  have hown := C0.2.2.2.2.2.1
  have hts := C0.2.2.2.2.2.2.1
  have hS : xS ty s.heap s.heap [] := xS.rf
  have hl := lv_entry ([.ref v0, .int v1]) (n := 4) (Nat.le_of_ble_eq_true rfl)
  rw [← hargs, lg_entry_eq]
  rw [hargs]
  generalize (lg_sl ([.ref v0, .int v1]) ++ List.replicate (4 - (lg_sl ([.ref v0, .int v1])).length) Slot.unset).toArray = ls at hl ⊢
  have hl : lv_has ls 4 [(0, .ref v0), (1, .int v1)] := hl
  unfold jf_X10_classOf at hF
  refine lv_iload_n hx hb dX10_classOf_0 rfl (lv_at hl 1 rfl) ?_
  refine lv_istore_n (lv' := [(2, .int v1), (0, .ref v0), (1, .int v1)]) hx hb dX10_classOf_1 rfl hl (by decide) rfl (fun ls hl => ?_)
  refine lv_iconst (v := 0) hx hb dX10_classOf_2 (by decide) ?_
  refine lv_istore_n (lv' := [(3, .int 0), (2, .int v1), (0, .ref v0), (1, .int v1)]) hx hb dX10_classOf_3 rfl hl (by decide) rfl (fun ls hl => ?_)
  obtain ⟨_, hF⟩ := xlim_sp hF
  exact jw_X10_classOf_4 C0 _ _ _ _ t_v0 hF _ _ hR hS _ (lv_sub hl [2, 1, 0] rfl)
theorem xm_X10_classOf : xMw yX10_classOf cX10_classOf 4 (some .int) 1 := ⟨xin 838 (by decide +kernel) rfl, xin 122 (by decide +kernel) rfl, by decide +kernel⟩
theorem xi_X10_classOf : Cond.instanceMethod yX10_classOf ∈ xT := xin 837 (by decide +kernel) rfl
theorem xe_X10_classOf : Cond.selects yX10_classOf.cls yX10_classOf yX10_classOf ∈ xT := xin 27 (by decide +kernel) rfl
theorem dX10_pairArguments_0 : decode cX10_pairArguments 0 = .ok (.iload_n 1, 1) := by decide +kernel
theorem dX10_pairArguments_1 : decode cX10_pairArguments 1 = .ok (.iconst 1, 1) := by decide +kernel
theorem dX10_pairArguments_2 : decode cX10_pairArguments 2 = .ok (.iadd, 1) := by decide +kernel
theorem dX10_pairArguments_3 : decode cX10_pairArguments 3 = .ok (.istore_n 3, 1) := by decide +kernel
theorem dX10_pairArguments_4 : decode cX10_pairArguments 4 = .ok (.iload_n 2, 1) := by decide +kernel
theorem dX10_pairArguments_5 : decode cX10_pairArguments 5 = .ok (.iconst 1, 1) := by decide +kernel
theorem dX10_pairArguments_6 : decode cX10_pairArguments 6 = .ok (.iadd, 1) := by decide +kernel
theorem dX10_pairArguments_7 : decode cX10_pairArguments 7 = .ok (.istore 4, 2) := by decide +kernel
theorem dX10_pairArguments_9 : decode cX10_pairArguments 9 = .ok (.iconst 0, 1) := by decide +kernel
theorem dX10_pairArguments_10 : decode cX10_pairArguments 10 = .ok (.istore 5, 2) := by decide +kernel
theorem dX10_pairArguments_12 : decode cX10_pairArguments 12 = .ok (.iload 5, 2) := by decide +kernel
theorem dX10_pairArguments_14 : decode cX10_pairArguments 14 = .ok (.aload_n 0, 1) := by decide +kernel
theorem dX10_pairArguments_15 : decode cX10_pairArguments 15 = .ok (.getfield 15, 3) := by decide +kernel
theorem dX10_pairArguments_18 : decode cX10_pairArguments 18 = .ok (.iload_n 1, 1) := by decide +kernel
theorem dX10_pairArguments_19 : decode cX10_pairArguments 19 = .ok (.iaload, 1) := by decide +kernel
theorem dX10_pairArguments_20 : decode cX10_pairArguments 20 = .ok (.if_icmp .ge 90, 3) := by decide +kernel
theorem dX10_pairArguments_23 : decode cX10_pairArguments 23 = .ok (.aload_n 0, 1) := by decide +kernel
theorem dX10_pairArguments_24 : decode cX10_pairArguments 24 = .ok (.iload_n 3, 1) := by decide +kernel
theorem dX10_pairArguments_25 : decode cX10_pairArguments 25 = .ok (.invokevirtual 96, 3) := by decide +kernel
theorem dX10_pairArguments_28 : decode cX10_pairArguments 28 = .ok (.ifCond .eq 82, 3) := by decide +kernel
theorem dX10_pairArguments_31 : decode cX10_pairArguments 31 = .ok (.aload_n 0, 1) := by decide +kernel
theorem dX10_pairArguments_32 : decode cX10_pairArguments 32 = .ok (.iload 4, 2) := by decide +kernel
theorem dX10_pairArguments_34 : decode cX10_pairArguments 34 = .ok (.invokevirtual 96, 3) := by decide +kernel
theorem dX10_pairArguments_37 : decode cX10_pairArguments 37 = .ok (.ifCond .eq 73, 3) := by decide +kernel
theorem dX10_pairArguments_40 : decode cX10_pairArguments 40 = .ok (.aload_n 0, 1) := by decide +kernel
theorem dX10_pairArguments_41 : decode cX10_pairArguments 41 = .ok (.getfield 56, 3) := by decide +kernel
theorem dX10_pairArguments_44 : decode cX10_pairArguments 44 = .ok (.ifCond .lt 12, 3) := by decide +kernel
theorem dX10_pairArguments_47 : decode cX10_pairArguments 47 = .ok (.aload_n 0, 1) := by decide +kernel
theorem dX10_pairArguments_48 : decode cX10_pairArguments 48 = .ok (.getfield 56, 3) := by decide +kernel
theorem dX10_pairArguments_51 : decode cX10_pairArguments 51 = .ok (.bipush 73, 2) := by decide +kernel
theorem dX10_pairArguments_53 : decode cX10_pairArguments 53 = .ok (.if_icmp .lt 4, 3) := by decide +kernel
theorem dX10_pairArguments_56 : decode cX10_pairArguments 56 = .ok (.return_, 1) := by decide +kernel
theorem dX10_pairArguments_57 : decode cX10_pairArguments 57 = .ok (.aload_n 0, 1) := by decide +kernel
theorem dX10_pairArguments_58 : decode cX10_pairArguments 58 = .ok (.getfield 34, 3) := by decide +kernel
theorem dX10_pairArguments_61 : decode cX10_pairArguments 61 = .ok (.aload_n 0, 1) := by decide +kernel
theorem dX10_pairArguments_62 : decode cX10_pairArguments 62 = .ok (.getfield 56, 3) := by decide +kernel
theorem dX10_pairArguments_65 : decode cX10_pairArguments 65 = .ok (.iload_n 3, 1) := by decide +kernel
theorem dX10_pairArguments_66 : decode cX10_pairArguments 66 = .ok (.iastore, 1) := by decide +kernel
theorem dX10_pairArguments_67 : decode cX10_pairArguments 67 = .ok (.aload_n 0, 1) := by decide +kernel
theorem dX10_pairArguments_68 : decode cX10_pairArguments 68 = .ok (.getfield 37, 3) := by decide +kernel
theorem dX10_pairArguments_71 : decode cX10_pairArguments 71 = .ok (.aload_n 0, 1) := by decide +kernel
theorem dX10_pairArguments_72 : decode cX10_pairArguments 72 = .ok (.getfield 56, 3) := by decide +kernel
theorem dX10_pairArguments_75 : decode cX10_pairArguments 75 = .ok (.iload 4, 2) := by decide +kernel
theorem dX10_pairArguments_77 : decode cX10_pairArguments 77 = .ok (.iastore, 1) := by decide +kernel
theorem dX10_pairArguments_78 : decode cX10_pairArguments 78 = .ok (.aload_n 0, 1) := by decide +kernel
theorem dX10_pairArguments_79 : decode cX10_pairArguments 79 = .ok (.dup, 1) := by decide +kernel
theorem dX10_pairArguments_80 : decode cX10_pairArguments 80 = .ok (.getfield 56, 3) := by decide +kernel
theorem dX10_pairArguments_83 : decode cX10_pairArguments 83 = .ok (.iconst 1, 1) := by decide +kernel
theorem dX10_pairArguments_84 : decode cX10_pairArguments 84 = .ok (.iadd, 1) := by decide +kernel
theorem dX10_pairArguments_85 : decode cX10_pairArguments 85 = .ok (.putfield 56, 3) := by decide +kernel
theorem dX10_pairArguments_88 : decode cX10_pairArguments 88 = .ok (.aload_n 0, 1) := by decide +kernel
theorem dX10_pairArguments_89 : decode cX10_pairArguments 89 = .ok (.getfield 18, 3) := by decide +kernel
theorem dX10_pairArguments_92 : decode cX10_pairArguments 92 = .ok (.iload_n 3, 1) := by decide +kernel
theorem dX10_pairArguments_93 : decode cX10_pairArguments 93 = .ok (.iaload, 1) := by decide +kernel
theorem dX10_pairArguments_94 : decode cX10_pairArguments 94 = .ok (.istore_n 3, 1) := by decide +kernel
theorem dX10_pairArguments_95 : decode cX10_pairArguments 95 = .ok (.aload_n 0, 1) := by decide +kernel
theorem dX10_pairArguments_96 : decode cX10_pairArguments 96 = .ok (.getfield 18, 3) := by decide +kernel
theorem dX10_pairArguments_99 : decode cX10_pairArguments 99 = .ok (.iload 4, 2) := by decide +kernel
theorem dX10_pairArguments_101 : decode cX10_pairArguments 101 = .ok (.iaload, 1) := by decide +kernel
theorem dX10_pairArguments_102 : decode cX10_pairArguments 102 = .ok (.istore 4, 2) := by decide +kernel
theorem dX10_pairArguments_104 : decode cX10_pairArguments 104 = .ok (.iinc 5 1, 3) := by decide +kernel
theorem dX10_pairArguments_107 : decode cX10_pairArguments 107 = .ok (.goto (-95), 3) := by decide +kernel
theorem dX10_pairArguments_110 : decode cX10_pairArguments 110 = .ok (.return_, 1) := by decide +kernel
theorem wf_X10_34 : Cond.fieldLink RX10 34 "TermShelf$Unifier" "ones" "[I" ∈ xT := xin 358 (by decide +kernel) rfl
theorem wf_X10_37 : Cond.fieldLink RX10 37 "TermShelf$Unifier" "others" "[I" ∈ xT := xin 359 (by decide +kernel) rfl
theorem wf_X10_56 : Cond.fieldLink RX10 56 "TermShelf$Unifier" "pairs" "I" ∈ xT := xin 363 (by decide +kernel) rfl
section XN_X10_pairArguments
variable {p : Program} {l : Launch} {e : Env} {R : Room} {s : State} {m : MethodId} {args : Array Value} {below : List Frame} {meth : Method} {c : Code} {H H0 : Heap} {locs : List Loc} {cells slots : Nat} {Q : State → Prop} {cc : ByteArray} {nL pc : Nat} {rt : Option FieldType} {ls : Array Slot} {rest : List Value} {D : xD} {ty : xTy} {h : xH}
theorem gf_X10_34 {a : Nat} (C0 : xC D RX10 cc nL rt p s m args meth c) (hR : xRep D ty h H) (ht : ty a = some (0, 10)) {v : Nat} (hv : xR h a 7 = some v) (hdg : decode cc pc = .ok (.getfield 34, 3)) (kk : W p l e R s m args below meth c H locs cells slots Q (F0 m (pc + 3) ls (.ref v :: rest))) : W p l e R s m args below meth c H locs cells slots Q (F0 m pc ls (.ref a :: rest)) := x_get C0 hR (ci := 10) (k := 7) (N := 15) (T := TX10) rfl iX10 (by decide) rfl wf_X10_34 (by show va_rf (xR h a 7) = _; rw [hv]; rfl) ht hdg kk
theorem gf_X10_37 {a : Nat} (C0 : xC D RX10 cc nL rt p s m args meth c) (hR : xRep D ty h H) (ht : ty a = some (0, 10)) {v : Nat} (hv : xR h a 8 = some v) (hdg : decode cc pc = .ok (.getfield 37, 3)) (kk : W p l e R s m args below meth c H locs cells slots Q (F0 m (pc + 3) ls (.ref v :: rest))) : W p l e R s m args below meth c H locs cells slots Q (F0 m pc ls (.ref a :: rest)) := x_get C0 hR (ci := 10) (k := 8) (N := 15) (T := TX10) rfl iX10 (by decide) rfl wf_X10_37 (by show va_rf (xR h a 8) = _; rw [hv]; rfl) ht hdg kk
theorem gf_X10_56 {a : Nat} (C0 : xC D RX10 cc nL rt p s m args meth c) (hR : xRep D ty h H) (ht : ty a = some (0, 10)) (hdg : decode cc pc = .ok (.getfield 56, 3)) (kk : W p l e R s m args below meth c H locs cells slots Q (F0 m (pc + 3) ls (.int (xI h a 12) :: rest))) : W p l e R s m args below meth c H locs cells slots Q (F0 m pc ls (.ref a :: rest)) := x_get C0 hR (ci := 10) (k := 12) (N := 15) (T := TX10) rfl iX10 (by decide) rfl wf_X10_56 rfl ht hdg kk
theorem pf_X10_56 {a : Nat} {v : Int32} (C0 : xC D RX10 cc nL rt p s m args meth c) (hR : xRep D ty h H) (hS : xS ty H0 H locs) (ht : ty a = some (0, 10)) (hdg : decode cc pc = .ok (.putfield 56, 3)) (kk : ∀ (H1 : Heap) (locs1 : List Loc), xRep D ty (xsI h a 12 v) H1 → xS ty H0 H1 locs1 → W p l e R s m args below meth c H1 locs1 cells slots Q (F0 m (pc + 3) ls rest)) : W p l e R s m args below meth c H locs cells slots Q (F0 m pc ls (.int v :: .ref a :: rest)) := x_puti C0 hR hS (ci := 10) (k := 12) (N := 15) (T := TX10) rfl iX10 tyX10_ok nmX10 (by decide) rfl rfl wf_X10_56 (Or.inl rfl) rfl rfl ht hdg kk
end XN_X10_pairArguments
set_option maxHeartbeats 4000000 in
set_option maxRecDepth 100000 in
theorem jw_X10_pairArguments_12 {p : Program} {l : Launch} {e : Env} {s : State} {m : MethodId} {args : Array Value} {below : List Frame} {meth : Method} {c : Code} {D : xD} {ty : xTy} (C0 : xC D RX10 cX10_pairArguments 6 none p s m args meth c) {h9 : xH} : ∀ n : Nat, ∀ (v0 : Nat) (v1 : Int32) (v3 : Int32) (v4 : Int32) (v5 : Int32) (h : xH), ty v0 = some (0, 10) → jf_X10_pairArguments_12 ty n v0 v1 v3 v4 v5 h = some h9 → ∀ (H : Heap) (locs : List Loc), xRep D ty h H → xS ty s.heap H locs → ∀ ls : Array Slot, lv_has ls 6 [(0, .ref v0), (1, .int v1), (3, .int v3), (4, .int v4), (5, .int v5)] → W p l e jr_X10_pairArguments s m args below meth c H locs 0 0 (MQ below (xQ D ty none h9) args s 0 0 (xdom ty)) (F0 m 12 ls []) := by
  have hx := C0.1
  have hb := C0.2.1
  have hown := C0.2.2.2.2.2.1
  have hts := C0.2.2.2.2.2.2.1
  intro n
  induction n with
  | zero =>
    intro v0 v1 v3 v4 v5 h t_v0 hF H locs hR hS ls hl
    cases hF
  | succ n ih =>
    intro v0 v1 v3 v4 v5 h t_v0 hF H locs hR hS ls hl
    rw [jf_X10_pairArguments_12_s] at hF
    refine lv_iload hx hb dX10_pairArguments_12 (lv_at hl 4 rfl) ?_
    refine lv_aload_n hx hb dX10_pairArguments_14 rfl (lv_at hl 0 rfl) ?_
    obtain ⟨a1, e_a1, hF⟩ := xbd hF
    refine gf_X10_15 C0 hR t_v0 e_a1 dX10_pairArguments_15 ?_
    refine lv_iload_n hx hb dX10_pairArguments_18 rfl (lv_at hl 1 rfl) ?_
    obtain ⟨a2, e_a2, hF⟩ := xbd hF
    refine x_iald C0 hR e_a2 dX10_pairArguments_19 ?_
    refine lv_icmp_ge (tgt := 110) hx hb dX10_pairArguments_20 (by decide) (fun c3 => ?_) (fun c3 => ?_)
    · have hF := xif hF c3
      cases hF
      exact x_vret C0 hR hS dX10_pairArguments_110
    · have hF := xel hF c3
      refine lv_aload_n hx hb dX10_pairArguments_23 rfl (lv_at hl 0 rfl) ?_
      refine lv_iload_n hx hb dX10_pairArguments_24 rfl (lv_at hl 2 rfl) ?_
      obtain ⟨a4, e_a4, hF⟩ := xbd hF
      refine cl_X10_96 C0 hR hS e_a4 t_v0 ⟨(Nat.le_of_ble_eq_true rfl), (Nat.le_of_ble_eq_true rfl)⟩ hl.1 (Nat.le_of_ble_eq_true rfl) ⟨(Nat.le_of_ble_eq_true rfl), (Nat.le_of_ble_eq_true rfl)⟩ dX10_pairArguments_25 (fun H locs hR hS => ?_)
      refine lv_if_eq (tgt := 110) hx hb dX10_pairArguments_28 (by decide) (fun c5 => ?_) (fun c5 => ?_)
      · have hF := xif hF c5
        cases hF
        exact x_vret C0 hR hS dX10_pairArguments_110
      · have hF := xel hF c5
        refine lv_aload_n hx hb dX10_pairArguments_31 rfl (lv_at hl 0 rfl) ?_
        refine lv_iload hx hb dX10_pairArguments_32 (lv_at hl 3 rfl) ?_
        obtain ⟨a6, e_a6, hF⟩ := xbd hF
        refine cl_X10_96 C0 hR hS e_a6 t_v0 ⟨(Nat.le_of_ble_eq_true rfl), (Nat.le_of_ble_eq_true rfl)⟩ hl.1 (Nat.le_of_ble_eq_true rfl) ⟨(Nat.le_of_ble_eq_true rfl), (Nat.le_of_ble_eq_true rfl)⟩ dX10_pairArguments_34 (fun H locs hR hS => ?_)
        refine lv_if_eq (tgt := 110) hx hb dX10_pairArguments_37 (by decide) (fun c7 => ?_) (fun c7 => ?_)
        · have hF := xif hF c7
          cases hF
          exact x_vret C0 hR hS dX10_pairArguments_110
        · have hF := xel hF c7
          refine lv_aload_n hx hb dX10_pairArguments_40 rfl (lv_at hl 0 rfl) ?_
          refine gf_X10_56 C0 hR t_v0 dX10_pairArguments_41 ?_
          refine lv_if_lt (tgt := 56) hx hb dX10_pairArguments_44 (by decide) (fun c8 => ?_) (fun c8 => ?_)
          · have hF := xif hF c8
            cases hF
            exact x_vret C0 hR hS dX10_pairArguments_56
          · have hF := xel hF c8
            refine lv_aload_n hx hb dX10_pairArguments_47 rfl (lv_at hl 0 rfl) ?_
            refine gf_X10_56 C0 hR t_v0 dX10_pairArguments_48 ?_
            refine lv_bipush (v := 73) hx hb dX10_pairArguments_51 (by decide) ?_
            refine lv_icmp_lt (tgt := 57) hx hb dX10_pairArguments_53 (by decide) (fun c9 => ?_) (fun c9 => ?_)
            · have hF := xif hF c9
              refine lv_aload_n hx hb dX10_pairArguments_57 rfl (lv_at hl 0 rfl) ?_
              obtain ⟨a10, e_a10, hF⟩ := xbd hF
              refine gf_X10_34 C0 hR t_v0 e_a10 dX10_pairArguments_58 ?_
              refine lv_aload_n hx hb dX10_pairArguments_61 rfl (lv_at hl 0 rfl) ?_
              refine gf_X10_56 C0 hR t_v0 dX10_pairArguments_62 ?_
              refine lv_iload_n hx hb dX10_pairArguments_65 rfl (lv_at hl 2 rfl) ?_
              obtain ⟨h11, e_h11, hF⟩ := xbd hF
              refine x_iast C0 hR hS e_h11 dX10_pairArguments_66 (fun H locs hR hS => ?_)
              refine lv_aload_n hx hb dX10_pairArguments_67 rfl (lv_at hl 0 rfl) ?_
              obtain ⟨a12, e_a12, hF⟩ := xbd hF
              refine gf_X10_37 C0 hR t_v0 e_a12 dX10_pairArguments_68 ?_
              refine lv_aload_n hx hb dX10_pairArguments_71 rfl (lv_at hl 0 rfl) ?_
              refine gf_X10_56 C0 hR t_v0 dX10_pairArguments_72 ?_
              refine lv_iload hx hb dX10_pairArguments_75 (lv_at hl 3 rfl) ?_
              obtain ⟨h13, e_h13, hF⟩ := xbd hF
              refine x_iast C0 hR hS e_h13 dX10_pairArguments_77 (fun H locs hR hS => ?_)
              refine lv_aload_n hx hb dX10_pairArguments_78 rfl (lv_at hl 0 rfl) ?_
              refine lv_dup hx hb dX10_pairArguments_79 rfl ?_
              refine gf_X10_56 C0 hR t_v0 dX10_pairArguments_80 ?_
              refine lv_iconst (v := 1) hx hb dX10_pairArguments_83 (by decide) ?_
              refine lv_iadd hx hb dX10_pairArguments_84 ?_
              obtain ⟨h14, e_h14, hF⟩ := xbd hF
              refine pf_X10_56 C0 hR hS t_v0 dX10_pairArguments_85 (fun H locs hR hS => ?_)
              rw [Option.some.inj e_h14] at hR
              refine lv_aload_n hx hb dX10_pairArguments_88 rfl (lv_at hl 0 rfl) ?_
              obtain ⟨a15, e_a15, hF⟩ := xbd hF
              refine gf_X10_18 C0 hR t_v0 e_a15 dX10_pairArguments_89 ?_
              refine lv_iload_n hx hb dX10_pairArguments_92 rfl (lv_at hl 2 rfl) ?_
              obtain ⟨a16, e_a16, hF⟩ := xbd hF
              refine x_iald C0 hR e_a16 dX10_pairArguments_93 ?_
              refine lv_istore_n (lv' := [(3, .int a16), (0, .ref v0), (1, .int v1), (4, .int v4), (5, .int v5)]) hx hb dX10_pairArguments_94 rfl hl (by decide) rfl (fun ls hl => ?_)
              refine lv_aload_n hx hb dX10_pairArguments_95 rfl (lv_at hl 1 rfl) ?_
              obtain ⟨a17, e_a17, hF⟩ := xbd hF
              refine gf_X10_18 C0 hR t_v0 e_a17 dX10_pairArguments_96 ?_
              refine lv_iload hx hb dX10_pairArguments_99 (lv_at hl 3 rfl) ?_
              obtain ⟨a18, e_a18, hF⟩ := xbd hF
              refine x_iald C0 hR e_a18 dX10_pairArguments_101 ?_
              refine lv_istore (lv' := [(4, .int a18), (3, .int a16), (0, .ref v0), (1, .int v1), (5, .int v5)]) hx hb dX10_pairArguments_102 hl (by decide) rfl (fun ls hl => ?_)
              refine lv_iinc (v := v5 + 1) (lv' := [(5, .int (v5 + 1)), (4, .int a18), (3, .int a16), (0, .ref v0), (1, .int v1)]) hx hb dX10_pairArguments_104 hl (k := 4) rfl rfl (by decide) rfl (fun ls hl => ?_)
              refine lv_goto (tgt := 12) hx hb dX10_pairArguments_107 (by decide) ?_
              exact ih _ _ _ _ _ _ t_v0 hF _ _ hR hS _ (lv_sub hl [3, 4, 2, 1, 0] rfl)
            · have hF := xel hF c9
              cases hF
              exact x_vret C0 hR hS dX10_pairArguments_56
set_option maxHeartbeats 4000000 in
set_option maxRecDepth 100000 in
theorem jc_X10_pairArguments {l : Launch} {D : xD} {ty : xTy} {h : xH} {v0 : Nat} {v1 : Int32} {v2 : Int32} {h9 : xH} (t_v0 : ty v0 = some (0, 10)) (hF : jf_X10_pairArguments ty h v0 v1 v2 = some h9) : Met l yX10_pairArguments (xws yX10_pairArguments cX10_pairArguments 6 none) jr_X10_pairArguments (xPc D ty h [.ref v0, .int v1, .int v2]) (xQ D ty none h9) 0 0 (xdom ty) := by
  refine x_met (by decide) ?_
  intro p e s m below meth c C0 hR
  generalize hargs : ([.ref v0, .int v1, .int v2] : List Value).toArray = args at C0 ⊢
  have hx := C0.1
  have hb := C0.2.1
  have hown := C0.2.2.2.2.2.1
  have hts := C0.2.2.2.2.2.2.1
  have hS : xS ty s.heap s.heap [] := xS.rf
  have hl := lv_entry ([.ref v0, .int v1, .int v2]) (n := 6) (Nat.le_of_ble_eq_true rfl)
  rw [← hargs, lg_entry_eq]
  rw [hargs]
  generalize (lg_sl ([.ref v0, .int v1, .int v2]) ++ List.replicate (6 - (lg_sl ([.ref v0, .int v1, .int v2])).length) Slot.unset).toArray = ls at hl ⊢
  have hl : lv_has ls 6 [(0, .ref v0), (1, .int v1), (2, .int v2)] := hl
  unfold jf_X10_pairArguments at hF
  refine lv_iload_n hx hb dX10_pairArguments_0 rfl (lv_at hl 1 rfl) ?_
  refine lv_iconst (v := 1) hx hb dX10_pairArguments_1 (by decide) ?_
  refine lv_iadd hx hb dX10_pairArguments_2 ?_
  refine lv_istore_n (lv' := [(3, .int (v1 + 1)), (0, .ref v0), (1, .int v1), (2, .int v2)]) hx hb dX10_pairArguments_3 rfl hl (by decide) rfl (fun ls hl => ?_)
  refine lv_iload_n hx hb dX10_pairArguments_4 rfl (lv_at hl 3 rfl) ?_
  refine lv_iconst (v := 1) hx hb dX10_pairArguments_5 (by decide) ?_
  refine lv_iadd hx hb dX10_pairArguments_6 ?_
  refine lv_istore (lv' := [(4, .int (v2 + 1)), (3, .int (v1 + 1)), (0, .ref v0), (1, .int v1), (2, .int v2)]) hx hb dX10_pairArguments_7 hl (by decide) rfl (fun ls hl => ?_)
  refine lv_iconst (v := 0) hx hb dX10_pairArguments_9 (by decide) ?_
  refine lv_istore (lv' := [(5, .int 0), (4, .int (v2 + 1)), (3, .int (v1 + 1)), (0, .ref v0), (1, .int v1), (2, .int v2)]) hx hb dX10_pairArguments_10 hl (by decide) rfl (fun ls hl => ?_)
  obtain ⟨_, hF⟩ := xlim_sp hF
  exact jw_X10_pairArguments_12 C0 _ _ _ _ _ _ _ t_v0 hF _ _ hR hS _ (lv_sub hl [3, 4, 2, 1, 0] rfl)
theorem xm_X10_pairArguments : xMw yX10_pairArguments cX10_pairArguments 6 none 2 := ⟨xin 850 (by decide +kernel) rfl, xin 122 (by decide +kernel) rfl, by decide +kernel⟩
theorem xi_X10_pairArguments : Cond.instanceMethod yX10_pairArguments ∈ xT := xin 849 (by decide +kernel) rfl
theorem xe_X10_pairArguments : Cond.selects yX10_pairArguments.cls yX10_pairArguments yX10_pairArguments ∈ xT := xin 30 (by decide +kernel) rfl
theorem dX10_unite_0 : decode cX10_unite 0 = .ok (.aload_n 0, 1) := by decide +kernel
theorem dX10_unite_1 : decode cX10_unite 1 = .ok (.getfield 24, 3) := by decide +kernel
theorem dX10_unite_4 : decode cX10_unite 4 = .ok (.iload_n 1, 1) := by decide +kernel
theorem dX10_unite_5 : decode cX10_unite 5 = .ok (.iaload, 1) := by decide +kernel
theorem dX10_unite_6 : decode cX10_unite 6 = .ok (.istore_n 3, 1) := by decide +kernel
theorem dX10_unite_7 : decode cX10_unite 7 = .ok (.aload_n 0, 1) := by decide +kernel
theorem dX10_unite_8 : decode cX10_unite 8 = .ok (.getfield 24, 3) := by decide +kernel
theorem dX10_unite_11 : decode cX10_unite 11 = .ok (.iload_n 2, 1) := by decide +kernel
theorem dX10_unite_12 : decode cX10_unite 12 = .ok (.iaload, 1) := by decide +kernel
theorem dX10_unite_13 : decode cX10_unite 13 = .ok (.istore 4, 2) := by decide +kernel
theorem dX10_unite_15 : decode cX10_unite 15 = .ok (.aload_n 0, 1) := by decide +kernel
theorem dX10_unite_16 : decode cX10_unite 16 = .ok (.getfield 21, 3) := by decide +kernel
theorem dX10_unite_19 : decode cX10_unite 19 = .ok (.iload_n 1, 1) := by decide +kernel
theorem dX10_unite_20 : decode cX10_unite 20 = .ok (.iload_n 2, 1) := by decide +kernel
theorem dX10_unite_21 : decode cX10_unite 21 = .ok (.iastore, 1) := by decide +kernel
theorem dX10_unite_22 : decode cX10_unite 22 = .ok (.aload_n 0, 1) := by decide +kernel
theorem dX10_unite_23 : decode cX10_unite 23 = .ok (.iload_n 3, 1) := by decide +kernel
theorem dX10_unite_24 : decode cX10_unite 24 = .ok (.invokevirtual 96, 3) := by decide +kernel
theorem dX10_unite_27 : decode cX10_unite 27 = .ok (.ifCond .ne 5, 3) := by decide +kernel
theorem dX10_unite_30 : decode cX10_unite 30 = .ok (.iconst 1, 1) := by decide +kernel
theorem dX10_unite_31 : decode cX10_unite 31 = .ok (.ireturn, 1) := by decide +kernel
theorem dX10_unite_32 : decode cX10_unite 32 = .ok (.aload_n 0, 1) := by decide +kernel
theorem dX10_unite_33 : decode cX10_unite 33 = .ok (.iload 4, 2) := by decide +kernel
theorem dX10_unite_35 : decode cX10_unite 35 = .ok (.invokevirtual 96, 3) := by decide +kernel
theorem dX10_unite_38 : decode cX10_unite 38 = .ok (.ifCond .ne 12, 3) := by decide +kernel
theorem dX10_unite_41 : decode cX10_unite 41 = .ok (.aload_n 0, 1) := by decide +kernel
theorem dX10_unite_42 : decode cX10_unite 42 = .ok (.getfield 24, 3) := by decide +kernel
theorem dX10_unite_45 : decode cX10_unite 45 = .ok (.iload_n 2, 1) := by decide +kernel
theorem dX10_unite_46 : decode cX10_unite 46 = .ok (.iload_n 3, 1) := by decide +kernel
theorem dX10_unite_47 : decode cX10_unite 47 = .ok (.iastore, 1) := by decide +kernel
theorem dX10_unite_48 : decode cX10_unite 48 = .ok (.iconst 1, 1) := by decide +kernel
theorem dX10_unite_49 : decode cX10_unite 49 = .ok (.ireturn, 1) := by decide +kernel
theorem dX10_unite_50 : decode cX10_unite 50 = .ok (.aload_n 0, 1) := by decide +kernel
theorem dX10_unite_51 : decode cX10_unite 51 = .ok (.getfield 11, 3) := by decide +kernel
theorem dX10_unite_54 : decode cX10_unite 54 = .ok (.iload_n 3, 1) := by decide +kernel
theorem dX10_unite_55 : decode cX10_unite 55 = .ok (.iaload, 1) := by decide +kernel
theorem dX10_unite_56 : decode cX10_unite 56 = .ok (.aload_n 0, 1) := by decide +kernel
theorem dX10_unite_57 : decode cX10_unite 57 = .ok (.getfield 11, 3) := by decide +kernel
theorem dX10_unite_60 : decode cX10_unite 60 = .ok (.iload 4, 2) := by decide +kernel
theorem dX10_unite_62 : decode cX10_unite 62 = .ok (.iaload, 1) := by decide +kernel
theorem dX10_unite_63 : decode cX10_unite 63 = .ok (.if_icmp .eq 5, 3) := by decide +kernel
theorem dX10_unite_66 : decode cX10_unite 66 = .ok (.iconst 0, 1) := by decide +kernel
theorem dX10_unite_67 : decode cX10_unite 67 = .ok (.ireturn, 1) := by decide +kernel
theorem dX10_unite_68 : decode cX10_unite 68 = .ok (.aload_n 0, 1) := by decide +kernel
theorem dX10_unite_69 : decode cX10_unite 69 = .ok (.iload_n 3, 1) := by decide +kernel
theorem dX10_unite_70 : decode cX10_unite 70 = .ok (.iload 4, 2) := by decide +kernel
theorem dX10_unite_72 : decode cX10_unite 72 = .ok (.invokevirtual 100, 3) := by decide +kernel
theorem dX10_unite_75 : decode cX10_unite 75 = .ok (.iconst 1, 1) := by decide +kernel
theorem dX10_unite_76 : decode cX10_unite 76 = .ok (.ireturn, 1) := by decide +kernel
theorem wl_X10_100 : Cond.methodLink RX10 100 yX10_pairArguments ∈ xT := xin 847 (by decide +kernel) rfl
section XN_X10_unite
variable {p : Program} {l : Launch} {e : Env} {R : Room} {s : State} {m : MethodId} {args : Array Value} {below : List Frame} {meth : Method} {c : Code} {H H0 : Heap} {locs : List Loc} {cells slots : Nat} {Q : State → Prop} {cc : ByteArray} {nL pc : Nat} {rt : Option FieldType} {ls : Array Slot} {rest : List Value} {D : xD} {ty : xTy} {h : xH}
theorem cl_X10_100 {v0 : Nat} {v1 : Int32} {v2 : Int32} {h9 : xH} (C0 : xC D RX10 cc nL rt p s m args meth c) (hR : xRep D ty h H) (hS : xS ty H0 H locs) (hF : jf_X10_pairArguments ty h v0 v1 v2 = some h9) (t_v0 : ty v0 = some (0, 10)) (hrm : jr_X10_pairArguments.frames + 1 ≤ R.frames ∧ 8 + (6 + 11) + jr_X10_pairArguments.locals ≤ R.locals) (hsz : ls.size = nL) (hW : (rest.map fun v => v.category).sum ≤ 8) (hf : cells ≤ R.cells ∧ slots ≤ R.slots) (hdg : decode cc pc = .ok (.invokevirtual 100, 3)) (kk : ∀ (H1 : Heap) (locs1 : List Loc), xRep D ty h9 H1 → xS ty H0 H1 locs1 → W p l e R s m args below meth c H1 locs1 cells slots Q (F0 m (pc + 3) ls rest)) : W p l e R s m args below meth c H locs cells slots Q (F0 m pc ls (.int v2 :: .int v1 :: .ref v0 :: rest)) := x_callV C0 (jc_X10_pairArguments t_v0 hF) xm_X10_pairArguments xi_X10_pairArguments xe_X10_pairArguments wl_X10_100 ⟨rfl, rfl, hrm⟩ (ci := 10) rfl t_v0 hR hS (As := [.int v1, .int v2]) rfl hsz rfl hW hdg hf kk
end XN_X10_unite
set_option maxHeartbeats 4000000 in
set_option maxRecDepth 100000 in
theorem jc_X10_unite {l : Launch} {D : xD} {ty : xTy} {h : xH} {v0 : Nat} {v1 : Int32} {v2 : Int32} {r : Int32} {h9 : xH} (t_v0 : ty v0 = some (0, 10)) (hF : jf_X10_unite ty h v0 v1 v2 = some (r, h9)) : Met l yX10_unite (xws yX10_unite cX10_unite 5 (some .boolean)) jr_X10_unite (xPc D ty h [.ref v0, .int v1, .int v2]) (xQ D ty (some (.int r)) h9) 0 0 (xdom ty) := by
  refine x_met (by decide) ?_
  intro p e s m below meth c C0 hR
  generalize hargs : ([.ref v0, .int v1, .int v2] : List Value).toArray = args at C0 ⊢
  have hx := C0.1
  have hb := C0.2.1
  have hown := C0.2.2.2.2.2.1
  have hts := C0.2.2.2.2.2.2.1
  have hS : xS ty s.heap s.heap [] := xS.rf
  have hl := lv_entry ([.ref v0, .int v1, .int v2]) (n := 5) (Nat.le_of_ble_eq_true rfl)
  rw [← hargs, lg_entry_eq]
  rw [hargs]
  generalize (lg_sl ([.ref v0, .int v1, .int v2]) ++ List.replicate (5 - (lg_sl ([.ref v0, .int v1, .int v2])).length) Slot.unset).toArray = ls at hl ⊢
  have hl : lv_has ls 5 [(0, .ref v0), (1, .int v1), (2, .int v2)] := hl
  unfold jf_X10_unite at hF
  refine lv_aload_n hx hb dX10_unite_0 rfl (lv_at hl 0 rfl) ?_
  obtain ⟨a1, e_a1, hF⟩ := xbd hF
  refine gf_X10_24 C0 hR t_v0 e_a1 dX10_unite_1 ?_
  refine lv_iload_n hx hb dX10_unite_4 rfl (lv_at hl 1 rfl) ?_
  obtain ⟨a2, e_a2, hF⟩ := xbd hF
  refine x_iald C0 hR e_a2 dX10_unite_5 ?_
  refine lv_istore_n (lv' := [(3, .int a2), (0, .ref v0), (1, .int v1), (2, .int v2)]) hx hb dX10_unite_6 rfl hl (by decide) rfl (fun ls hl => ?_)
  refine lv_aload_n hx hb dX10_unite_7 rfl (lv_at hl 1 rfl) ?_
  obtain ⟨a3, e_a3, hF⟩ := xbd hF
  refine gf_X10_24 C0 hR t_v0 e_a3 dX10_unite_8 ?_
  refine lv_iload_n hx hb dX10_unite_11 rfl (lv_at hl 3 rfl) ?_
  obtain ⟨a4, e_a4, hF⟩ := xbd hF
  refine x_iald C0 hR e_a4 dX10_unite_12 ?_
  refine lv_istore (lv' := [(4, .int a4), (3, .int a2), (0, .ref v0), (1, .int v1), (2, .int v2)]) hx hb dX10_unite_13 hl (by decide) rfl (fun ls hl => ?_)
  refine lv_aload_n hx hb dX10_unite_15 rfl (lv_at hl 2 rfl) ?_
  obtain ⟨a5, e_a5, hF⟩ := xbd hF
  refine gf_X10_21 C0 hR t_v0 e_a5 dX10_unite_16 ?_
  refine lv_iload_n hx hb dX10_unite_19 rfl (lv_at hl 3 rfl) ?_
  refine lv_iload_n hx hb dX10_unite_20 rfl (lv_at hl 4 rfl) ?_
  obtain ⟨h6, e_h6, hF⟩ := xbd hF
  refine x_iast C0 hR hS e_h6 dX10_unite_21 (fun H locs hR hS => ?_)
  refine lv_aload_n hx hb dX10_unite_22 rfl (lv_at hl 2 rfl) ?_
  refine lv_iload_n hx hb dX10_unite_23 rfl (lv_at hl 1 rfl) ?_
  obtain ⟨a7, e_a7, hF⟩ := xbd hF
  refine cl_X10_96 C0 hR hS e_a7 t_v0 ⟨(Nat.le_of_ble_eq_true rfl), (Nat.le_of_ble_eq_true rfl)⟩ hl.1 (Nat.le_of_ble_eq_true rfl) ⟨(Nat.le_of_ble_eq_true rfl), (Nat.le_of_ble_eq_true rfl)⟩ dX10_unite_24 (fun H locs hR hS => ?_)
  refine lv_if_ne (tgt := 32) hx hb dX10_unite_27 (by decide) (fun c8 => ?_) (fun c8 => ?_)
  · have hF := xel hF c8
    refine lv_aload_n hx hb dX10_unite_32 rfl (lv_at hl 2 rfl) ?_
    refine lv_iload hx hb dX10_unite_33 (lv_at hl 0 rfl) ?_
    obtain ⟨a9, e_a9, hF⟩ := xbd hF
    refine cl_X10_96 C0 hR hS e_a9 t_v0 ⟨(Nat.le_of_ble_eq_true rfl), (Nat.le_of_ble_eq_true rfl)⟩ hl.1 (Nat.le_of_ble_eq_true rfl) ⟨(Nat.le_of_ble_eq_true rfl), (Nat.le_of_ble_eq_true rfl)⟩ dX10_unite_35 (fun H locs hR hS => ?_)
    refine lv_if_ne (tgt := 50) hx hb dX10_unite_38 (by decide) (fun c10 => ?_) (fun c10 => ?_)
    · have hF := xel hF c10
      refine lv_aload_n hx hb dX10_unite_50 rfl (lv_at hl 2 rfl) ?_
      obtain ⟨a11, e_a11, hF⟩ := xbd hF
      refine gf_X10_11 C0 hR t_v0 e_a11 dX10_unite_51 ?_
      refine lv_iload_n hx hb dX10_unite_54 rfl (lv_at hl 1 rfl) ?_
      obtain ⟨a12, e_a12, hF⟩ := xbd hF
      refine x_iald C0 hR e_a12 dX10_unite_55 ?_
      refine lv_aload_n hx hb dX10_unite_56 rfl (lv_at hl 2 rfl) ?_
      obtain ⟨a13, e_a13, hF⟩ := xbd hF
      refine gf_X10_11 C0 hR t_v0 e_a13 dX10_unite_57 ?_
      refine lv_iload hx hb dX10_unite_60 (lv_at hl 0 rfl) ?_
      obtain ⟨a14, e_a14, hF⟩ := xbd hF
      refine x_iald C0 hR e_a14 dX10_unite_62 ?_
      refine lv_icmp_eq (tgt := 68) hx hb dX10_unite_63 (by decide) (fun c15 => ?_) (fun c15 => ?_)
      · have hF := xif hF c15
        refine lv_aload_n hx hb dX10_unite_68 rfl (lv_at hl 2 rfl) ?_
        refine lv_iload_n hx hb dX10_unite_69 rfl (lv_at hl 1 rfl) ?_
        refine lv_iload hx hb dX10_unite_70 (lv_at hl 0 rfl) ?_
        obtain ⟨h16, e_h16, hF⟩ := xbd hF
        refine cl_X10_100 C0 hR hS e_h16 t_v0 ⟨(Nat.le_of_ble_eq_true rfl), (Nat.le_of_ble_eq_true rfl)⟩ hl.1 (Nat.le_of_ble_eq_true rfl) ⟨(Nat.le_of_ble_eq_true rfl), (Nat.le_of_ble_eq_true rfl)⟩ dX10_unite_72 (fun H locs hR hS => ?_)
        refine lv_iconst (v := 1) hx hb dX10_unite_75 (by decide) ?_
        cases hF
        exact x_zret (w := 1) C0 hR hS (by decide) dX10_unite_76
      · have hF := xel hF c15
        refine lv_iconst (v := 0) hx hb dX10_unite_66 (by decide) ?_
        cases hF
        exact x_zret (w := 0) C0 hR hS (by decide) dX10_unite_67
    · have hF := xif hF c10
      refine lv_aload_n hx hb dX10_unite_41 rfl (lv_at hl 2 rfl) ?_
      obtain ⟨a17, e_a17, hF⟩ := xbd hF
      refine gf_X10_24 C0 hR t_v0 e_a17 dX10_unite_42 ?_
      refine lv_iload_n hx hb dX10_unite_45 rfl (lv_at hl 4 rfl) ?_
      refine lv_iload_n hx hb dX10_unite_46 rfl (lv_at hl 1 rfl) ?_
      obtain ⟨h18, e_h18, hF⟩ := xbd hF
      refine x_iast C0 hR hS e_h18 dX10_unite_47 (fun H locs hR hS => ?_)
      refine lv_iconst (v := 1) hx hb dX10_unite_48 (by decide) ?_
      cases hF
      exact x_zret (w := 1) C0 hR hS (by decide) dX10_unite_49
  · have hF := xif hF c8
    refine lv_iconst (v := 1) hx hb dX10_unite_30 (by decide) ?_
    cases hF
    exact x_zret (w := 1) C0 hR hS (by decide) dX10_unite_31
theorem xm_X10_unite : xMw yX10_unite cX10_unite 5 (some .boolean) 2 := ⟨xin 846 (by decide +kernel) rfl, xin 122 (by decide +kernel) rfl, by decide +kernel⟩
theorem xi_X10_unite : Cond.instanceMethod yX10_unite ∈ xT := xin 845 (by decide +kernel) rfl
theorem xe_X10_unite : Cond.selects yX10_unite.cls yX10_unite yX10_unite ∈ xT := xin 29 (by decide +kernel) rfl
theorem dX10_uniteAll_0 : decode cX10_uniteAll 0 = .ok (.iconst 0, 1) := by decide +kernel
theorem dX10_uniteAll_1 : decode cX10_uniteAll 1 = .ok (.istore_n 1, 1) := by decide +kernel
theorem dX10_uniteAll_2 : decode cX10_uniteAll 2 = .ok (.iload_n 1, 1) := by decide +kernel
theorem dX10_uniteAll_3 : decode cX10_uniteAll 3 = .ok (.bipush 73, 2) := by decide +kernel
theorem dX10_uniteAll_5 : decode cX10_uniteAll 5 = .ok (.if_icmp .ge 70, 3) := by decide +kernel
theorem dX10_uniteAll_8 : decode cX10_uniteAll 8 = .ok (.aload_n 0, 1) := by decide +kernel
theorem dX10_uniteAll_9 : decode cX10_uniteAll 9 = .ok (.getfield 56, 3) := by decide +kernel
theorem dX10_uniteAll_12 : decode cX10_uniteAll 12 = .ok (.ifCond .le 63, 3) := by decide +kernel
theorem dX10_uniteAll_15 : decode cX10_uniteAll 15 = .ok (.aload_n 0, 1) := by decide +kernel
theorem dX10_uniteAll_16 : decode cX10_uniteAll 16 = .ok (.dup, 1) := by decide +kernel
theorem dX10_uniteAll_17 : decode cX10_uniteAll 17 = .ok (.getfield 56, 3) := by decide +kernel
theorem dX10_uniteAll_20 : decode cX10_uniteAll 20 = .ok (.iconst 1, 1) := by decide +kernel
theorem dX10_uniteAll_21 : decode cX10_uniteAll 21 = .ok (.isub, 1) := by decide +kernel
theorem dX10_uniteAll_22 : decode cX10_uniteAll 22 = .ok (.putfield 56, 3) := by decide +kernel
theorem dX10_uniteAll_25 : decode cX10_uniteAll 25 = .ok (.aload_n 0, 1) := by decide +kernel
theorem dX10_uniteAll_26 : decode cX10_uniteAll 26 = .ok (.aload_n 0, 1) := by decide +kernel
theorem dX10_uniteAll_27 : decode cX10_uniteAll 27 = .ok (.getfield 34, 3) := by decide +kernel
theorem dX10_uniteAll_30 : decode cX10_uniteAll 30 = .ok (.aload_n 0, 1) := by decide +kernel
theorem dX10_uniteAll_31 : decode cX10_uniteAll 31 = .ok (.getfield 56, 3) := by decide +kernel
theorem dX10_uniteAll_34 : decode cX10_uniteAll 34 = .ok (.iaload, 1) := by decide +kernel
theorem dX10_uniteAll_35 : decode cX10_uniteAll 35 = .ok (.invokevirtual 89, 3) := by decide +kernel
theorem dX10_uniteAll_38 : decode cX10_uniteAll 38 = .ok (.istore_n 2, 1) := by decide +kernel
theorem dX10_uniteAll_39 : decode cX10_uniteAll 39 = .ok (.aload_n 0, 1) := by decide +kernel
theorem dX10_uniteAll_40 : decode cX10_uniteAll 40 = .ok (.aload_n 0, 1) := by decide +kernel
theorem dX10_uniteAll_41 : decode cX10_uniteAll 41 = .ok (.getfield 37, 3) := by decide +kernel
theorem dX10_uniteAll_44 : decode cX10_uniteAll 44 = .ok (.aload_n 0, 1) := by decide +kernel
theorem dX10_uniteAll_45 : decode cX10_uniteAll 45 = .ok (.getfield 56, 3) := by decide +kernel
theorem dX10_uniteAll_48 : decode cX10_uniteAll 48 = .ok (.iaload, 1) := by decide +kernel
theorem dX10_uniteAll_49 : decode cX10_uniteAll 49 = .ok (.invokevirtual 89, 3) := by decide +kernel
theorem dX10_uniteAll_52 : decode cX10_uniteAll 52 = .ok (.istore_n 3, 1) := by decide +kernel
theorem dX10_uniteAll_53 : decode cX10_uniteAll 53 = .ok (.iload_n 2, 1) := by decide +kernel
theorem dX10_uniteAll_54 : decode cX10_uniteAll 54 = .ok (.iload_n 3, 1) := by decide +kernel
theorem dX10_uniteAll_55 : decode cX10_uniteAll 55 = .ok (.if_icmp .eq 14, 3) := by decide +kernel
theorem dX10_uniteAll_58 : decode cX10_uniteAll 58 = .ok (.aload_n 0, 1) := by decide +kernel
theorem dX10_uniteAll_59 : decode cX10_uniteAll 59 = .ok (.iload_n 2, 1) := by decide +kernel
theorem dX10_uniteAll_60 : decode cX10_uniteAll 60 = .ok (.iload_n 3, 1) := by decide +kernel
theorem dX10_uniteAll_61 : decode cX10_uniteAll 61 = .ok (.invokevirtual 92, 3) := by decide +kernel
theorem dX10_uniteAll_64 : decode cX10_uniteAll 64 = .ok (.ifCond .ne 5, 3) := by decide +kernel
theorem dX10_uniteAll_67 : decode cX10_uniteAll 67 = .ok (.iconst 0, 1) := by decide +kernel
theorem dX10_uniteAll_68 : decode cX10_uniteAll 68 = .ok (.ireturn, 1) := by decide +kernel
theorem dX10_uniteAll_69 : decode cX10_uniteAll 69 = .ok (.iinc 1 1, 3) := by decide +kernel
theorem dX10_uniteAll_72 : decode cX10_uniteAll 72 = .ok (.goto (-70), 3) := by decide +kernel
theorem dX10_uniteAll_75 : decode cX10_uniteAll 75 = .ok (.iconst 1, 1) := by decide +kernel
theorem dX10_uniteAll_76 : decode cX10_uniteAll 76 = .ok (.ireturn, 1) := by decide +kernel
theorem wl_X10_89 : Cond.methodLink RX10 89 yX10_classOf ∈ xT := xin 835 (by decide +kernel) rfl
theorem wl_X10_92 : Cond.methodLink RX10 92 yX10_unite ∈ xT := xin 843 (by decide +kernel) rfl
section XN_X10_uniteAll
variable {p : Program} {l : Launch} {e : Env} {R : Room} {s : State} {m : MethodId} {args : Array Value} {below : List Frame} {meth : Method} {c : Code} {H H0 : Heap} {locs : List Loc} {cells slots : Nat} {Q : State → Prop} {cc : ByteArray} {nL pc : Nat} {rt : Option FieldType} {ls : Array Slot} {rest : List Value} {D : xD} {ty : xTy} {h : xH}
theorem cl_X10_89 {v0 : Nat} {v1 : Int32} {r : Int32} (C0 : xC D RX10 cc nL rt p s m args meth c) (hR : xRep D ty h H) (hS : xS ty H0 H locs) (hF : jf_X10_classOf ty h v0 v1 = some r) (t_v0 : ty v0 = some (0, 10)) (hrm : jr_X10_classOf.frames + 1 ≤ R.frames ∧ 8 + (4 + 11) + jr_X10_classOf.locals ≤ R.locals) (hsz : ls.size = nL) (hW : (rest.map fun v => v.category).sum ≤ 8) (hf : cells ≤ R.cells ∧ slots ≤ R.slots) (hdg : decode cc pc = .ok (.invokevirtual 89, 3)) (kk : ∀ (H1 : Heap) (locs1 : List Loc), xRep D ty h H1 → xS ty H0 H1 locs1 → W p l e R s m args below meth c H1 locs1 cells slots Q (F0 m (pc + 3) ls (.int r :: rest))) : W p l e R s m args below meth c H locs cells slots Q (F0 m pc ls (.int v1 :: .ref v0 :: rest)) := x_callV C0 (jc_X10_classOf t_v0 hF) xm_X10_classOf xi_X10_classOf xe_X10_classOf wl_X10_89 ⟨rfl, rfl, hrm⟩ (ci := 10) rfl t_v0 hR hS (As := [.int v1]) rfl hsz rfl hW hdg hf kk
theorem cl_X10_92 {v0 : Nat} {v1 : Int32} {v2 : Int32} {r : Int32} {h9 : xH} (C0 : xC D RX10 cc nL rt p s m args meth c) (hR : xRep D ty h H) (hS : xS ty H0 H locs) (hF : jf_X10_unite ty h v0 v1 v2 = some (r, h9)) (t_v0 : ty v0 = some (0, 10)) (hrm : jr_X10_unite.frames + 1 ≤ R.frames ∧ 8 + (5 + 11) + jr_X10_unite.locals ≤ R.locals) (hsz : ls.size = nL) (hW : (rest.map fun v => v.category).sum ≤ 8) (hf : cells ≤ R.cells ∧ slots ≤ R.slots) (hdg : decode cc pc = .ok (.invokevirtual 92, 3)) (kk : ∀ (H1 : Heap) (locs1 : List Loc), xRep D ty h9 H1 → xS ty H0 H1 locs1 → W p l e R s m args below meth c H1 locs1 cells slots Q (F0 m (pc + 3) ls (.int r :: rest))) : W p l e R s m args below meth c H locs cells slots Q (F0 m pc ls (.int v2 :: .int v1 :: .ref v0 :: rest)) := x_callV C0 (jc_X10_unite t_v0 hF) xm_X10_unite xi_X10_unite xe_X10_unite wl_X10_92 ⟨rfl, rfl, hrm⟩ (ci := 10) rfl t_v0 hR hS (As := [.int v1, .int v2]) rfl hsz rfl hW hdg hf kk
end XN_X10_uniteAll
set_option maxHeartbeats 4000000 in
set_option maxRecDepth 100000 in
theorem jw_X10_uniteAll_2 {p : Program} {l : Launch} {e : Env} {s : State} {m : MethodId} {args : Array Value} {below : List Frame} {meth : Method} {c : Code} {D : xD} {ty : xTy} (C0 : xC D RX10 cX10_uniteAll 4 (some .boolean) p s m args meth c) {r : Int32} {h9 : xH} : ∀ n : Nat, ∀ (v0 : Nat) (v1 : Int32) (h : xH), ty v0 = some (0, 10) → jf_X10_uniteAll_2 ty n v0 v1 h = some (r, h9) → ∀ (H : Heap) (locs : List Loc), xRep D ty h H → xS ty s.heap H locs → ∀ ls : Array Slot, lv_has ls 4 [(0, .ref v0), (1, .int v1)] → W p l e jr_X10_uniteAll s m args below meth c H locs 0 0 (MQ below (xQ D ty (some (.int r)) h9) args s 0 0 (xdom ty)) (F0 m 2 ls []) := by
  have hx := C0.1
  have hb := C0.2.1
  have hown := C0.2.2.2.2.2.1
  have hts := C0.2.2.2.2.2.2.1
  intro n
  induction n with
  | zero =>
    intro v0 v1 h t_v0 hF H locs hR hS ls hl
    cases hF
  | succ n ih =>
    intro v0 v1 h t_v0 hF H locs hR hS ls hl
    rw [jf_X10_uniteAll_2_s] at hF
    refine lv_iload_n hx hb dX10_uniteAll_2 rfl (lv_at hl 1 rfl) ?_
    refine lv_bipush (v := 73) hx hb dX10_uniteAll_3 (by decide) ?_
    refine lv_icmp_ge (tgt := 75) hx hb dX10_uniteAll_5 (by decide) (fun c1 => ?_) (fun c1 => ?_)
    · have hF := xif hF c1
      refine lv_iconst (v := 1) hx hb dX10_uniteAll_75 (by decide) ?_
      cases hF
      exact x_zret (w := 1) C0 hR hS (by decide) dX10_uniteAll_76
    · have hF := xel hF c1
      refine lv_aload_n hx hb dX10_uniteAll_8 rfl (lv_at hl 0 rfl) ?_
      refine gf_X10_56 C0 hR t_v0 dX10_uniteAll_9 ?_
      refine lv_if_le (tgt := 75) hx hb dX10_uniteAll_12 (by decide) (fun c2 => ?_) (fun c2 => ?_)
      · have hF := xif hF c2
        refine lv_iconst (v := 1) hx hb dX10_uniteAll_75 (by decide) ?_
        cases hF
        exact x_zret (w := 1) C0 hR hS (by decide) dX10_uniteAll_76
      · have hF := xel hF c2
        refine lv_aload_n hx hb dX10_uniteAll_15 rfl (lv_at hl 0 rfl) ?_
        refine lv_dup hx hb dX10_uniteAll_16 rfl ?_
        refine gf_X10_56 C0 hR t_v0 dX10_uniteAll_17 ?_
        refine lv_iconst (v := 1) hx hb dX10_uniteAll_20 (by decide) ?_
        refine lv_isub hx hb dX10_uniteAll_21 ?_
        obtain ⟨h3, e_h3, hF⟩ := xbd hF
        refine pf_X10_56 C0 hR hS t_v0 dX10_uniteAll_22 (fun H locs hR hS => ?_)
        rw [Option.some.inj e_h3] at hR
        refine lv_aload_n hx hb dX10_uniteAll_25 rfl (lv_at hl 0 rfl) ?_
        refine lv_aload_n hx hb dX10_uniteAll_26 rfl (lv_at hl 0 rfl) ?_
        obtain ⟨a4, e_a4, hF⟩ := xbd hF
        refine gf_X10_34 C0 hR t_v0 e_a4 dX10_uniteAll_27 ?_
        refine lv_aload_n hx hb dX10_uniteAll_30 rfl (lv_at hl 0 rfl) ?_
        refine gf_X10_56 C0 hR t_v0 dX10_uniteAll_31 ?_
        obtain ⟨a5, e_a5, hF⟩ := xbd hF
        refine x_iald C0 hR e_a5 dX10_uniteAll_34 ?_
        obtain ⟨a6, e_a6, hF⟩ := xbd hF
        refine cl_X10_89 C0 hR hS e_a6 t_v0 ⟨(Nat.le_of_ble_eq_true rfl), (Nat.le_of_ble_eq_true rfl)⟩ hl.1 (Nat.le_of_ble_eq_true rfl) ⟨(Nat.le_of_ble_eq_true rfl), (Nat.le_of_ble_eq_true rfl)⟩ dX10_uniteAll_35 (fun H locs hR hS => ?_)
        refine lv_istore_n (lv' := [(2, .int a6), (0, .ref v0), (1, .int v1)]) hx hb dX10_uniteAll_38 rfl hl (by decide) rfl (fun ls hl => ?_)
        refine lv_aload_n hx hb dX10_uniteAll_39 rfl (lv_at hl 1 rfl) ?_
        refine lv_aload_n hx hb dX10_uniteAll_40 rfl (lv_at hl 1 rfl) ?_
        obtain ⟨a7, e_a7, hF⟩ := xbd hF
        refine gf_X10_37 C0 hR t_v0 e_a7 dX10_uniteAll_41 ?_
        refine lv_aload_n hx hb dX10_uniteAll_44 rfl (lv_at hl 1 rfl) ?_
        refine gf_X10_56 C0 hR t_v0 dX10_uniteAll_45 ?_
        obtain ⟨a8, e_a8, hF⟩ := xbd hF
        refine x_iald C0 hR e_a8 dX10_uniteAll_48 ?_
        obtain ⟨a9, e_a9, hF⟩ := xbd hF
        refine cl_X10_89 C0 hR hS e_a9 t_v0 ⟨(Nat.le_of_ble_eq_true rfl), (Nat.le_of_ble_eq_true rfl)⟩ hl.1 (Nat.le_of_ble_eq_true rfl) ⟨(Nat.le_of_ble_eq_true rfl), (Nat.le_of_ble_eq_true rfl)⟩ dX10_uniteAll_49 (fun H locs hR hS => ?_)
        refine lv_istore_n (lv' := [(3, .int a9), (2, .int a6), (0, .ref v0), (1, .int v1)]) hx hb dX10_uniteAll_52 rfl hl (by decide) rfl (fun ls hl => ?_)
        refine lv_iload_n hx hb dX10_uniteAll_53 rfl (lv_at hl 1 rfl) ?_
        refine lv_iload_n hx hb dX10_uniteAll_54 rfl (lv_at hl 0 rfl) ?_
        refine lv_icmp_eq (tgt := 69) hx hb dX10_uniteAll_55 (by decide) (fun c10 => ?_) (fun c10 => ?_)
        · have hF := xif hF c10
          refine lv_iinc (v := v1 + 1) (lv' := [(1, .int (v1 + 1)), (3, .int a9), (2, .int a6), (0, .ref v0)]) hx hb dX10_uniteAll_69 hl (k := 3) rfl rfl (by decide) rfl (fun ls hl => ?_)
          refine lv_goto (tgt := 2) hx hb dX10_uniteAll_72 (by decide) ?_
          exact ih _ _ _ t_v0 hF _ _ hR hS _ (lv_sub hl [3, 0] rfl)
        · have hF := xel hF c10
          refine lv_aload_n hx hb dX10_uniteAll_58 rfl (lv_at hl 2 rfl) ?_
          refine lv_iload_n hx hb dX10_uniteAll_59 rfl (lv_at hl 1 rfl) ?_
          refine lv_iload_n hx hb dX10_uniteAll_60 rfl (lv_at hl 0 rfl) ?_
          obtain ⟨a12, h11, e_h11, hF⟩ := xbd2 hF
          refine cl_X10_92 C0 hR hS e_h11 t_v0 ⟨(Nat.le_of_ble_eq_true rfl), (Nat.le_of_ble_eq_true rfl)⟩ hl.1 (Nat.le_of_ble_eq_true rfl) ⟨(Nat.le_of_ble_eq_true rfl), (Nat.le_of_ble_eq_true rfl)⟩ dX10_uniteAll_61 (fun H locs hR hS => ?_)
          refine lv_if_ne (tgt := 69) hx hb dX10_uniteAll_64 (by decide) (fun c13 => ?_) (fun c13 => ?_)
          · have hF := xel hF c13
            refine lv_iinc (v := v1 + 1) (lv' := [(1, .int (v1 + 1)), (3, .int a9), (2, .int a6), (0, .ref v0)]) hx hb dX10_uniteAll_69 hl (k := 3) rfl rfl (by decide) rfl (fun ls hl => ?_)
            refine lv_goto (tgt := 2) hx hb dX10_uniteAll_72 (by decide) ?_
            exact ih _ _ _ t_v0 hF _ _ hR hS _ (lv_sub hl [3, 0] rfl)
          · have hF := xif hF c13
            refine lv_iconst (v := 0) hx hb dX10_uniteAll_67 (by decide) ?_
            cases hF
            exact x_zret (w := 0) C0 hR hS (by decide) dX10_uniteAll_68
set_option maxHeartbeats 4000000 in
set_option maxRecDepth 100000 in
theorem jc_X10_uniteAll {l : Launch} {D : xD} {ty : xTy} {h : xH} {v0 : Nat} {r : Int32} {h9 : xH} (t_v0 : ty v0 = some (0, 10)) (hF : jf_X10_uniteAll ty h v0 = some (r, h9)) : Met l yX10_uniteAll (xws yX10_uniteAll cX10_uniteAll 4 (some .boolean)) jr_X10_uniteAll (xPc D ty h [.ref v0]) (xQ D ty (some (.int r)) h9) 0 0 (xdom ty) := by
  refine x_met (by decide) ?_
  intro p e s m below meth c C0 hR
  generalize hargs : ([.ref v0] : List Value).toArray = args at C0 ⊢
  have hx := C0.1
  have hb := C0.2.1
  have hown := C0.2.2.2.2.2.1
  have hts := C0.2.2.2.2.2.2.1
  have hS : xS ty s.heap s.heap [] := xS.rf
  have hl := lv_entry ([.ref v0]) (n := 4) (Nat.le_of_ble_eq_true rfl)
  rw [← hargs, lg_entry_eq]
  rw [hargs]
  generalize (lg_sl ([.ref v0]) ++ List.replicate (4 - (lg_sl ([.ref v0])).length) Slot.unset).toArray = ls at hl ⊢
  have hl : lv_has ls 4 [(0, .ref v0)] := hl
  unfold jf_X10_uniteAll at hF
  refine lv_iconst (v := 0) hx hb dX10_uniteAll_0 (by decide) ?_
  refine lv_istore_n (lv' := [(1, .int 0), (0, .ref v0)]) hx hb dX10_uniteAll_1 rfl hl (by decide) rfl (fun ls hl => ?_)
  obtain ⟨_, hF⟩ := xlim_sp hF
  exact jw_X10_uniteAll_2 C0 _ _ _ _ t_v0 hF _ _ hR hS _ (lv_sub hl [1, 0] rfl)
theorem xm_X10_uniteAll : xMw yX10_uniteAll cX10_uniteAll 4 (some .boolean) 0 := ⟨xin 834 (by decide +kernel) rfl, xin 122 (by decide +kernel) rfl, by decide +kernel⟩
theorem xi_X10_uniteAll : Cond.instanceMethod yX10_uniteAll ∈ xT := xin 833 (by decide +kernel) rfl
theorem xe_X10_uniteAll : Cond.selects yX10_uniteAll.cls yX10_uniteAll yX10_uniteAll ∈ xT := xin 26 (by decide +kernel) rfl
theorem dX10_isSettling_0 : decode cX10_isSettling 0 = .ok (.aload_n 0, 1) := by decide +kernel
theorem dX10_isSettling_1 : decode cX10_isSettling 1 = .ok (.getfield 24, 3) := by decide +kernel
theorem dX10_isSettling_4 : decode cX10_isSettling 4 = .ok (.iload_n 1, 1) := by decide +kernel
theorem dX10_isSettling_5 : decode cX10_isSettling 5 = .ok (.iaload, 1) := by decide +kernel
theorem dX10_isSettling_6 : decode cX10_isSettling 6 = .ok (.istore_n 2, 1) := by decide +kernel
theorem dX10_isSettling_7 : decode cX10_isSettling 7 = .ok (.aload_n 0, 1) := by decide +kernel
theorem dX10_isSettling_8 : decode cX10_isSettling 8 = .ok (.iload_n 2, 1) := by decide +kernel
theorem dX10_isSettling_9 : decode cX10_isSettling 9 = .ok (.invokevirtual 96, 3) := by decide +kernel
theorem dX10_isSettling_12 : decode cX10_isSettling 12 = .ok (.ifCond .ne 5, 3) := by decide +kernel
theorem dX10_isSettling_15 : decode cX10_isSettling 15 = .ok (.iconst 1, 1) := by decide +kernel
theorem dX10_isSettling_16 : decode cX10_isSettling 16 = .ok (.ireturn, 1) := by decide +kernel
theorem dX10_isSettling_17 : decode cX10_isSettling 17 = .ok (.iload_n 2, 1) := by decide +kernel
theorem dX10_isSettling_18 : decode cX10_isSettling 18 = .ok (.iconst 1, 1) := by decide +kernel
theorem dX10_isSettling_19 : decode cX10_isSettling 19 = .ok (.iadd, 1) := by decide +kernel
theorem dX10_isSettling_20 : decode cX10_isSettling 20 = .ok (.istore_n 3, 1) := by decide +kernel
theorem dX10_isSettling_21 : decode cX10_isSettling 21 = .ok (.iconst 0, 1) := by decide +kernel
theorem dX10_isSettling_22 : decode cX10_isSettling 22 = .ok (.istore 4, 2) := by decide +kernel
theorem dX10_isSettling_24 : decode cX10_isSettling 24 = .ok (.iload 4, 2) := by decide +kernel
theorem dX10_isSettling_26 : decode cX10_isSettling 26 = .ok (.aload_n 0, 1) := by decide +kernel
theorem dX10_isSettling_27 : decode cX10_isSettling 27 = .ok (.getfield 15, 3) := by decide +kernel
theorem dX10_isSettling_30 : decode cX10_isSettling 30 = .ok (.iload_n 2, 1) := by decide +kernel
theorem dX10_isSettling_31 : decode cX10_isSettling 31 = .ok (.iaload, 1) := by decide +kernel
theorem dX10_isSettling_32 : decode cX10_isSettling 32 = .ok (.if_icmp .ge 35, 3) := by decide +kernel
theorem dX10_isSettling_35 : decode cX10_isSettling 35 = .ok (.aload_n 0, 1) := by decide +kernel
theorem dX10_isSettling_36 : decode cX10_isSettling 36 = .ok (.iload_n 3, 1) := by decide +kernel
theorem dX10_isSettling_37 : decode cX10_isSettling 37 = .ok (.invokevirtual 96, 3) := by decide +kernel
theorem dX10_isSettling_40 : decode cX10_isSettling 40 = .ok (.ifCond .eq 27, 3) := by decide +kernel
theorem dX10_isSettling_43 : decode cX10_isSettling 43 = .ok (.aload_n 0, 1) := by decide +kernel
theorem dX10_isSettling_44 : decode cX10_isSettling 44 = .ok (.getfield 30, 3) := by decide +kernel
theorem dX10_isSettling_47 : decode cX10_isSettling 47 = .ok (.iload_n 3, 1) := by decide +kernel
theorem dX10_isSettling_48 : decode cX10_isSettling 48 = .ok (.baload, 1) := by decide +kernel
theorem dX10_isSettling_49 : decode cX10_isSettling 49 = .ok (.ifCond .ne 5, 3) := by decide +kernel
theorem dX10_isSettling_52 : decode cX10_isSettling 52 = .ok (.iconst 0, 1) := by decide +kernel
theorem dX10_isSettling_53 : decode cX10_isSettling 53 = .ok (.ireturn, 1) := by decide +kernel
theorem dX10_isSettling_54 : decode cX10_isSettling 54 = .ok (.aload_n 0, 1) := by decide +kernel
theorem dX10_isSettling_55 : decode cX10_isSettling 55 = .ok (.getfield 18, 3) := by decide +kernel
theorem dX10_isSettling_58 : decode cX10_isSettling 58 = .ok (.iload_n 3, 1) := by decide +kernel
theorem dX10_isSettling_59 : decode cX10_isSettling 59 = .ok (.iaload, 1) := by decide +kernel
theorem dX10_isSettling_60 : decode cX10_isSettling 60 = .ok (.istore_n 3, 1) := by decide +kernel
theorem dX10_isSettling_61 : decode cX10_isSettling 61 = .ok (.iinc 4 1, 3) := by decide +kernel
theorem dX10_isSettling_64 : decode cX10_isSettling 64 = .ok (.goto (-40), 3) := by decide +kernel
theorem dX10_isSettling_67 : decode cX10_isSettling 67 = .ok (.iconst 1, 1) := by decide +kernel
theorem dX10_isSettling_68 : decode cX10_isSettling 68 = .ok (.ireturn, 1) := by decide +kernel
theorem wf_X10_30 : Cond.fieldLink RX10 30 "TermShelf$Unifier" "settled" "[Z" ∈ xT := xin 357 (by decide +kernel) rfl
section XN_X10_isSettling
variable {p : Program} {l : Launch} {e : Env} {R : Room} {s : State} {m : MethodId} {args : Array Value} {below : List Frame} {meth : Method} {c : Code} {H H0 : Heap} {locs : List Loc} {cells slots : Nat} {Q : State → Prop} {cc : ByteArray} {nL pc : Nat} {rt : Option FieldType} {ls : Array Slot} {rest : List Value} {D : xD} {ty : xTy} {h : xH}
theorem gf_X10_30 {a : Nat} (C0 : xC D RX10 cc nL rt p s m args meth c) (hR : xRep D ty h H) (ht : ty a = some (0, 10)) {v : Nat} (hv : xR h a 6 = some v) (hdg : decode cc pc = .ok (.getfield 30, 3)) (kk : W p l e R s m args below meth c H locs cells slots Q (F0 m (pc + 3) ls (.ref v :: rest))) : W p l e R s m args below meth c H locs cells slots Q (F0 m pc ls (.ref a :: rest)) := x_get C0 hR (ci := 10) (k := 6) (N := 15) (T := TX10) rfl iX10 (by decide) rfl wf_X10_30 (by show va_rf (xR h a 6) = _; rw [hv]; rfl) ht hdg kk
end XN_X10_isSettling
set_option maxHeartbeats 4000000 in
set_option maxRecDepth 100000 in
theorem jw_X10_isSettling_24 {p : Program} {l : Launch} {e : Env} {s : State} {m : MethodId} {args : Array Value} {below : List Frame} {meth : Method} {c : Code} {D : xD} {ty : xTy} {h : xH} (C0 : xC D RX10 cX10_isSettling 5 (some .boolean) p s m args meth c) {r : Int32} : ∀ n : Nat, ∀ (v0 : Nat) (v2 : Int32) (v3 : Int32) (v4 : Int32), ty v0 = some (0, 10) → jf_X10_isSettling_24 ty h n v0 v2 v3 v4 = some r → ∀ (H : Heap) (locs : List Loc), xRep D ty h H → xS ty s.heap H locs → ∀ ls : Array Slot, lv_has ls 5 [(0, .ref v0), (2, .int v2), (3, .int v3), (4, .int v4)] → W p l e jr_X10_isSettling s m args below meth c H locs 0 0 (MQ below (xQ D ty (some (.int r)) h) args s 0 0 (xdom ty)) (F0 m 24 ls []) := by
  have hx := C0.1
  have hb := C0.2.1
  have hown := C0.2.2.2.2.2.1
  have hts := C0.2.2.2.2.2.2.1
  intro n
  induction n with
  | zero =>
    intro v0 v2 v3 v4 t_v0 hF H locs hR hS ls hl
    cases hF
  | succ n ih =>
    intro v0 v2 v3 v4 t_v0 hF H locs hR hS ls hl
    rw [jf_X10_isSettling_24_s] at hF
    refine lv_iload hx hb dX10_isSettling_24 (lv_at hl 3 rfl) ?_
    refine lv_aload_n hx hb dX10_isSettling_26 rfl (lv_at hl 0 rfl) ?_
    obtain ⟨a1, e_a1, hF⟩ := xbd hF
    refine gf_X10_15 C0 hR t_v0 e_a1 dX10_isSettling_27 ?_
    refine lv_iload_n hx hb dX10_isSettling_30 rfl (lv_at hl 1 rfl) ?_
    obtain ⟨a2, e_a2, hF⟩ := xbd hF
    refine x_iald C0 hR e_a2 dX10_isSettling_31 ?_
    refine lv_icmp_ge (tgt := 67) hx hb dX10_isSettling_32 (by decide) (fun c3 => ?_) (fun c3 => ?_)
    · have hF := xif hF c3
      refine lv_iconst (v := 1) hx hb dX10_isSettling_67 (by decide) ?_
      cases hF
      exact x_zret (w := 1) C0 hR hS (by decide) dX10_isSettling_68
    · have hF := xel hF c3
      refine lv_aload_n hx hb dX10_isSettling_35 rfl (lv_at hl 0 rfl) ?_
      refine lv_iload_n hx hb dX10_isSettling_36 rfl (lv_at hl 2 rfl) ?_
      obtain ⟨a4, e_a4, hF⟩ := xbd hF
      refine cl_X10_96 C0 hR hS e_a4 t_v0 ⟨(Nat.le_of_ble_eq_true rfl), (Nat.le_of_ble_eq_true rfl)⟩ hl.1 (Nat.le_of_ble_eq_true rfl) ⟨(Nat.le_of_ble_eq_true rfl), (Nat.le_of_ble_eq_true rfl)⟩ dX10_isSettling_37 (fun H locs hR hS => ?_)
      refine lv_if_eq (tgt := 67) hx hb dX10_isSettling_40 (by decide) (fun c5 => ?_) (fun c5 => ?_)
      · have hF := xif hF c5
        refine lv_iconst (v := 1) hx hb dX10_isSettling_67 (by decide) ?_
        cases hF
        exact x_zret (w := 1) C0 hR hS (by decide) dX10_isSettling_68
      · have hF := xel hF c5
        refine lv_aload_n hx hb dX10_isSettling_43 rfl (lv_at hl 0 rfl) ?_
        obtain ⟨a6, e_a6, hF⟩ := xbd hF
        refine gf_X10_30 C0 hR t_v0 e_a6 dX10_isSettling_44 ?_
        refine lv_iload_n hx hb dX10_isSettling_47 rfl (lv_at hl 2 rfl) ?_
        obtain ⟨a7, e_a7, hF⟩ := xbd hF
        refine x_zald C0 hR e_a7 dX10_isSettling_48 ?_
        refine lv_if_ne (tgt := 54) hx hb dX10_isSettling_49 (by decide) (fun c8 => ?_) (fun c8 => ?_)
        · have hF := xel hF c8
          refine lv_aload_n hx hb dX10_isSettling_54 rfl (lv_at hl 0 rfl) ?_
          obtain ⟨a9, e_a9, hF⟩ := xbd hF
          refine gf_X10_18 C0 hR t_v0 e_a9 dX10_isSettling_55 ?_
          refine lv_iload_n hx hb dX10_isSettling_58 rfl (lv_at hl 2 rfl) ?_
          obtain ⟨a10, e_a10, hF⟩ := xbd hF
          refine x_iald C0 hR e_a10 dX10_isSettling_59 ?_
          refine lv_istore_n (lv' := [(3, .int a10), (0, .ref v0), (2, .int v2), (4, .int v4)]) hx hb dX10_isSettling_60 rfl hl (by decide) rfl (fun ls hl => ?_)
          refine lv_iinc (v := v4 + 1) (lv' := [(4, .int (v4 + 1)), (3, .int a10), (0, .ref v0), (2, .int v2)]) hx hb dX10_isSettling_61 hl (k := 3) rfl rfl (by decide) rfl (fun ls hl => ?_)
          refine lv_goto (tgt := 24) hx hb dX10_isSettling_64 (by decide) ?_
          exact ih _ _ _ _ t_v0 hF _ _ hR hS _ (lv_sub hl [2, 3, 1, 0] rfl)
        · have hF := xif hF c8
          refine lv_iconst (v := 0) hx hb dX10_isSettling_52 (by decide) ?_
          cases hF
          exact x_zret (w := 0) C0 hR hS (by decide) dX10_isSettling_53
set_option maxHeartbeats 4000000 in
set_option maxRecDepth 100000 in
theorem jc_X10_isSettling {l : Launch} {D : xD} {ty : xTy} {h : xH} {v0 : Nat} {v1 : Int32} {r : Int32} (t_v0 : ty v0 = some (0, 10)) (hF : jf_X10_isSettling ty h v0 v1 = some r) : Met l yX10_isSettling (xws yX10_isSettling cX10_isSettling 5 (some .boolean)) jr_X10_isSettling (xPc D ty h [.ref v0, .int v1]) (xQ D ty (some (.int r)) h) 0 0 (xdom ty) := by
  refine x_met (by decide) ?_
  intro p e s m below meth c C0 hR
  generalize hargs : ([.ref v0, .int v1] : List Value).toArray = args at C0 ⊢
  have hx := C0.1
  have hb := C0.2.1
  have hown := C0.2.2.2.2.2.1
  have hts := C0.2.2.2.2.2.2.1
  have hS : xS ty s.heap s.heap [] := xS.rf
  have hl := lv_entry ([.ref v0, .int v1]) (n := 5) (Nat.le_of_ble_eq_true rfl)
  rw [← hargs, lg_entry_eq]
  rw [hargs]
  generalize (lg_sl ([.ref v0, .int v1]) ++ List.replicate (5 - (lg_sl ([.ref v0, .int v1])).length) Slot.unset).toArray = ls at hl ⊢
  have hl : lv_has ls 5 [(0, .ref v0), (1, .int v1)] := hl
  unfold jf_X10_isSettling at hF
  refine lv_aload_n hx hb dX10_isSettling_0 rfl (lv_at hl 0 rfl) ?_
  obtain ⟨a11, e_a11, hF⟩ := xbd hF
  refine gf_X10_24 C0 hR t_v0 e_a11 dX10_isSettling_1 ?_
  refine lv_iload_n hx hb dX10_isSettling_4 rfl (lv_at hl 1 rfl) ?_
  obtain ⟨a12, e_a12, hF⟩ := xbd hF
  refine x_iald C0 hR e_a12 dX10_isSettling_5 ?_
  refine lv_istore_n (lv' := [(2, .int a12), (0, .ref v0), (1, .int v1)]) hx hb dX10_isSettling_6 rfl hl (by decide) rfl (fun ls hl => ?_)
  refine lv_aload_n hx hb dX10_isSettling_7 rfl (lv_at hl 1 rfl) ?_
  refine lv_iload_n hx hb dX10_isSettling_8 rfl (lv_at hl 0 rfl) ?_
  obtain ⟨a13, e_a13, hF⟩ := xbd hF
  refine cl_X10_96 C0 hR hS e_a13 t_v0 ⟨(Nat.le_of_ble_eq_true rfl), (Nat.le_of_ble_eq_true rfl)⟩ hl.1 (Nat.le_of_ble_eq_true rfl) ⟨(Nat.le_of_ble_eq_true rfl), (Nat.le_of_ble_eq_true rfl)⟩ dX10_isSettling_9 (fun H locs hR hS => ?_)
  refine lv_if_ne (tgt := 17) hx hb dX10_isSettling_12 (by decide) (fun c14 => ?_) (fun c14 => ?_)
  · have hF := xel hF c14
    refine lv_iload_n hx hb dX10_isSettling_17 rfl (lv_at hl 0 rfl) ?_
    refine lv_iconst (v := 1) hx hb dX10_isSettling_18 (by decide) ?_
    refine lv_iadd hx hb dX10_isSettling_19 ?_
    refine lv_istore_n (lv' := [(3, .int (a12 + 1)), (2, .int a12), (0, .ref v0), (1, .int v1)]) hx hb dX10_isSettling_20 rfl hl (by decide) rfl (fun ls hl => ?_)
    refine lv_iconst (v := 0) hx hb dX10_isSettling_21 (by decide) ?_
    refine lv_istore (lv' := [(4, .int 0), (3, .int (a12 + 1)), (2, .int a12), (0, .ref v0), (1, .int v1)]) hx hb dX10_isSettling_22 hl (by decide) rfl (fun ls hl => ?_)
    obtain ⟨_, hF⟩ := xlim_sp hF
    exact jw_X10_isSettling_24 C0 _ _ _ _ _ t_v0 hF _ _ hR hS _ (lv_sub hl [3, 2, 1, 0] rfl)
  · have hF := xif hF c14
    refine lv_iconst (v := 1) hx hb dX10_isSettling_15 (by decide) ?_
    cases hF
    exact x_zret (w := 1) C0 hR hS (by decide) dX10_isSettling_16
theorem xm_X10_isSettling : xMw yX10_isSettling cX10_isSettling 5 (some .boolean) 1 := ⟨xin 862 (by decide +kernel) rfl, xin 122 (by decide +kernel) rfl, by decide +kernel⟩
theorem xi_X10_isSettling : Cond.instanceMethod yX10_isSettling ∈ xT := xin 861 (by decide +kernel) rfl
theorem xe_X10_isSettling : Cond.selects yX10_isSettling.cls yX10_isSettling yX10_isSettling ∈ xT := xin 33 (by decide +kernel) rfl
theorem dX10_settleMore_0 : decode cX10_settleMore 0 = .ok (.iconst 0, 1) := by decide +kernel
theorem dX10_settleMore_1 : decode cX10_settleMore 1 = .ok (.istore_n 1, 1) := by decide +kernel
theorem dX10_settleMore_2 : decode cX10_settleMore 2 = .ok (.aload_n 0, 1) := by decide +kernel
theorem dX10_settleMore_3 : decode cX10_settleMore 3 = .ok (.getfield 52, 3) := by decide +kernel
theorem dX10_settleMore_6 : decode cX10_settleMore 6 = .ok (.iconst 1, 1) := by decide +kernel
theorem dX10_settleMore_7 : decode cX10_settleMore 7 = .ok (.isub, 1) := by decide +kernel
theorem dX10_settleMore_8 : decode cX10_settleMore 8 = .ok (.istore_n 2, 1) := by decide +kernel
theorem dX10_settleMore_9 : decode cX10_settleMore 9 = .ok (.iload_n 2, 1) := by decide +kernel
theorem dX10_settleMore_10 : decode cX10_settleMore 10 = .ok (.ifCond .lt 40, 3) := by decide +kernel
theorem dX10_settleMore_13 : decode cX10_settleMore 13 = .ok (.aload_n 0, 1) := by decide +kernel
theorem dX10_settleMore_14 : decode cX10_settleMore 14 = .ok (.getfield 30, 3) := by decide +kernel
theorem dX10_settleMore_17 : decode cX10_settleMore 17 = .ok (.iload_n 2, 1) := by decide +kernel
theorem dX10_settleMore_18 : decode cX10_settleMore 18 = .ok (.baload, 1) := by decide +kernel
theorem dX10_settleMore_19 : decode cX10_settleMore 19 = .ok (.ifCond .ne 25, 3) := by decide +kernel
theorem dX10_settleMore_22 : decode cX10_settleMore 22 = .ok (.aload_n 0, 1) := by decide +kernel
theorem dX10_settleMore_23 : decode cX10_settleMore 23 = .ok (.aload_n 0, 1) := by decide +kernel
theorem dX10_settleMore_24 : decode cX10_settleMore 24 = .ok (.iload_n 2, 1) := by decide +kernel
theorem dX10_settleMore_25 : decode cX10_settleMore 25 = .ok (.invokevirtual 89, 3) := by decide +kernel
theorem dX10_settleMore_28 : decode cX10_settleMore 28 = .ok (.invokevirtual 108, 3) := by decide +kernel
theorem dX10_settleMore_31 : decode cX10_settleMore 31 = .ok (.ifCond .eq 13, 3) := by decide +kernel
theorem dX10_settleMore_34 : decode cX10_settleMore 34 = .ok (.aload_n 0, 1) := by decide +kernel
theorem dX10_settleMore_35 : decode cX10_settleMore 35 = .ok (.getfield 30, 3) := by decide +kernel
theorem dX10_settleMore_38 : decode cX10_settleMore 38 = .ok (.iload_n 2, 1) := by decide +kernel
theorem dX10_settleMore_39 : decode cX10_settleMore 39 = .ok (.iconst 1, 1) := by decide +kernel
theorem dX10_settleMore_40 : decode cX10_settleMore 40 = .ok (.bastore, 1) := by decide +kernel
theorem dX10_settleMore_41 : decode cX10_settleMore 41 = .ok (.iinc 1 1, 3) := by decide +kernel
theorem dX10_settleMore_44 : decode cX10_settleMore 44 = .ok (.iinc 2 (-1), 3) := by decide +kernel
theorem dX10_settleMore_47 : decode cX10_settleMore 47 = .ok (.goto (-38), 3) := by decide +kernel
theorem dX10_settleMore_50 : decode cX10_settleMore 50 = .ok (.iload_n 1, 1) := by decide +kernel
theorem dX10_settleMore_51 : decode cX10_settleMore 51 = .ok (.ireturn, 1) := by decide +kernel
theorem wl_X10_108 : Cond.methodLink RX10 108 yX10_isSettling ∈ xT := xin 859 (by decide +kernel) rfl
section XN_X10_settleMore
variable {p : Program} {l : Launch} {e : Env} {R : Room} {s : State} {m : MethodId} {args : Array Value} {below : List Frame} {meth : Method} {c : Code} {H H0 : Heap} {locs : List Loc} {cells slots : Nat} {Q : State → Prop} {cc : ByteArray} {nL pc : Nat} {rt : Option FieldType} {ls : Array Slot} {rest : List Value} {D : xD} {ty : xTy} {h : xH}
theorem cl_X10_108 {v0 : Nat} {v1 : Int32} {r : Int32} (C0 : xC D RX10 cc nL rt p s m args meth c) (hR : xRep D ty h H) (hS : xS ty H0 H locs) (hF : jf_X10_isSettling ty h v0 v1 = some r) (t_v0 : ty v0 = some (0, 10)) (hrm : jr_X10_isSettling.frames + 1 ≤ R.frames ∧ 8 + (5 + 11) + jr_X10_isSettling.locals ≤ R.locals) (hsz : ls.size = nL) (hW : (rest.map fun v => v.category).sum ≤ 8) (hf : cells ≤ R.cells ∧ slots ≤ R.slots) (hdg : decode cc pc = .ok (.invokevirtual 108, 3)) (kk : ∀ (H1 : Heap) (locs1 : List Loc), xRep D ty h H1 → xS ty H0 H1 locs1 → W p l e R s m args below meth c H1 locs1 cells slots Q (F0 m (pc + 3) ls (.int r :: rest))) : W p l e R s m args below meth c H locs cells slots Q (F0 m pc ls (.int v1 :: .ref v0 :: rest)) := x_callV C0 (jc_X10_isSettling t_v0 hF) xm_X10_isSettling xi_X10_isSettling xe_X10_isSettling wl_X10_108 ⟨rfl, rfl, hrm⟩ (ci := 10) rfl t_v0 hR hS (As := [.int v1]) rfl hsz rfl hW hdg hf kk
end XN_X10_settleMore
set_option maxHeartbeats 4000000 in
set_option maxRecDepth 100000 in
theorem jw_X10_settleMore_9 {p : Program} {l : Launch} {e : Env} {s : State} {m : MethodId} {args : Array Value} {below : List Frame} {meth : Method} {c : Code} {D : xD} {ty : xTy} (C0 : xC D RX10 cX10_settleMore 3 (some .int) p s m args meth c) {r : Int32} {h9 : xH} : ∀ n : Nat, ∀ (v0 : Nat) (v1 : Int32) (v2 : Int32) (h : xH), ty v0 = some (0, 10) → jf_X10_settleMore_9 ty n v0 v1 v2 h = some (r, h9) → ∀ (H : Heap) (locs : List Loc), xRep D ty h H → xS ty s.heap H locs → ∀ ls : Array Slot, lv_has ls 3 [(0, .ref v0), (1, .int v1), (2, .int v2)] → W p l e jr_X10_settleMore s m args below meth c H locs 0 0 (MQ below (xQ D ty (some (.int r)) h9) args s 0 0 (xdom ty)) (F0 m 9 ls []) := by
  have hx := C0.1
  have hb := C0.2.1
  have hown := C0.2.2.2.2.2.1
  have hts := C0.2.2.2.2.2.2.1
  intro n
  induction n with
  | zero =>
    intro v0 v1 v2 h t_v0 hF H locs hR hS ls hl
    cases hF
  | succ n ih =>
    intro v0 v1 v2 h t_v0 hF H locs hR hS ls hl
    rw [jf_X10_settleMore_9_s] at hF
    refine lv_iload_n hx hb dX10_settleMore_9 rfl (lv_at hl 2 rfl) ?_
    refine lv_if_lt (tgt := 50) hx hb dX10_settleMore_10 (by decide) (fun c1 => ?_) (fun c1 => ?_)
    · have hF := xif hF c1
      refine lv_iload_n hx hb dX10_settleMore_50 rfl (lv_at hl 1 rfl) ?_
      cases hF
      exact x_iret C0 hR hS dX10_settleMore_51
    · have hF := xel hF c1
      refine lv_aload_n hx hb dX10_settleMore_13 rfl (lv_at hl 0 rfl) ?_
      obtain ⟨a2, e_a2, hF⟩ := xbd hF
      refine gf_X10_30 C0 hR t_v0 e_a2 dX10_settleMore_14 ?_
      refine lv_iload_n hx hb dX10_settleMore_17 rfl (lv_at hl 2 rfl) ?_
      obtain ⟨a3, e_a3, hF⟩ := xbd hF
      refine x_zald C0 hR e_a3 dX10_settleMore_18 ?_
      refine lv_if_ne (tgt := 44) hx hb dX10_settleMore_19 (by decide) (fun c4 => ?_) (fun c4 => ?_)
      · have hF := xel hF c4
        refine lv_iinc (v := v2 + (-1)) (lv' := [(2, .int (v2 + (-1))), (0, .ref v0), (1, .int v1)]) hx hb dX10_settleMore_44 hl (k := 2) rfl rfl (by decide) rfl (fun ls hl => ?_)
        refine lv_goto (tgt := 9) hx hb dX10_settleMore_47 (by decide) ?_
        exact ih _ _ _ _ t_v0 hF _ _ hR hS _ (lv_sub hl [1, 2, 0] rfl)
      · have hF := xif hF c4
        refine lv_aload_n hx hb dX10_settleMore_22 rfl (lv_at hl 0 rfl) ?_
        refine lv_aload_n hx hb dX10_settleMore_23 rfl (lv_at hl 0 rfl) ?_
        refine lv_iload_n hx hb dX10_settleMore_24 rfl (lv_at hl 2 rfl) ?_
        obtain ⟨a5, e_a5, hF⟩ := xbd hF
        refine cl_X10_89 C0 hR hS e_a5 t_v0 ⟨(Nat.le_of_ble_eq_true rfl), (Nat.le_of_ble_eq_true rfl)⟩ hl.1 (Nat.le_of_ble_eq_true rfl) ⟨(Nat.le_of_ble_eq_true rfl), (Nat.le_of_ble_eq_true rfl)⟩ dX10_settleMore_25 (fun H locs hR hS => ?_)
        obtain ⟨a6, e_a6, hF⟩ := xbd hF
        refine cl_X10_108 C0 hR hS e_a6 t_v0 ⟨(Nat.le_of_ble_eq_true rfl), (Nat.le_of_ble_eq_true rfl)⟩ hl.1 (Nat.le_of_ble_eq_true rfl) ⟨(Nat.le_of_ble_eq_true rfl), (Nat.le_of_ble_eq_true rfl)⟩ dX10_settleMore_28 (fun H locs hR hS => ?_)
        refine lv_if_eq (tgt := 44) hx hb dX10_settleMore_31 (by decide) (fun c7 => ?_) (fun c7 => ?_)
        · have hF := xif hF c7
          refine lv_iinc (v := v2 + (-1)) (lv' := [(2, .int (v2 + (-1))), (0, .ref v0), (1, .int v1)]) hx hb dX10_settleMore_44 hl (k := 2) rfl rfl (by decide) rfl (fun ls hl => ?_)
          refine lv_goto (tgt := 9) hx hb dX10_settleMore_47 (by decide) ?_
          exact ih _ _ _ _ t_v0 hF _ _ hR hS _ (lv_sub hl [1, 2, 0] rfl)
        · have hF := xel hF c7
          refine lv_aload_n hx hb dX10_settleMore_34 rfl (lv_at hl 0 rfl) ?_
          obtain ⟨a8, e_a8, hF⟩ := xbd hF
          refine gf_X10_30 C0 hR t_v0 e_a8 dX10_settleMore_35 ?_
          refine lv_iload_n hx hb dX10_settleMore_38 rfl (lv_at hl 2 rfl) ?_
          refine lv_iconst (v := 1) hx hb dX10_settleMore_39 (by decide) ?_
          obtain ⟨h9, e_h9, hF⟩ := xbd hF
          refine x_zast C0 hR hS (by decide) e_h9 dX10_settleMore_40 (fun H locs hR hS => ?_)
          refine lv_iinc (v := v1 + 1) (lv' := [(1, .int (v1 + 1)), (0, .ref v0), (2, .int v2)]) hx hb dX10_settleMore_41 hl (k := 1) rfl rfl (by decide) rfl (fun ls hl => ?_)
          refine lv_iinc (v := v2 + (-1)) (lv' := [(2, .int (v2 + (-1))), (1, .int (v1 + 1)), (0, .ref v0)]) hx hb dX10_settleMore_44 hl (k := 2) rfl rfl (by decide) rfl (fun ls hl => ?_)
          refine lv_goto (tgt := 9) hx hb dX10_settleMore_47 (by decide) ?_
          exact ih _ _ _ _ t_v0 hF _ _ hR hS _ (lv_sub hl [2, 1, 0] rfl)
set_option maxHeartbeats 4000000 in
set_option maxRecDepth 100000 in
theorem jc_X10_settleMore {l : Launch} {D : xD} {ty : xTy} {h : xH} {v0 : Nat} {r : Int32} {h9 : xH} (t_v0 : ty v0 = some (0, 10)) (hF : jf_X10_settleMore ty h v0 = some (r, h9)) : Met l yX10_settleMore (xws yX10_settleMore cX10_settleMore 3 (some .int)) jr_X10_settleMore (xPc D ty h [.ref v0]) (xQ D ty (some (.int r)) h9) 0 0 (xdom ty) := by
  refine x_met (by decide) ?_
  intro p e s m below meth c C0 hR
  generalize hargs : ([.ref v0] : List Value).toArray = args at C0 ⊢
  have hx := C0.1
  have hb := C0.2.1
  have hown := C0.2.2.2.2.2.1
  have hts := C0.2.2.2.2.2.2.1
  have hS : xS ty s.heap s.heap [] := xS.rf
  have hl := lv_entry ([.ref v0]) (n := 3) (Nat.le_of_ble_eq_true rfl)
  rw [← hargs, lg_entry_eq]
  rw [hargs]
  generalize (lg_sl ([.ref v0]) ++ List.replicate (3 - (lg_sl ([.ref v0])).length) Slot.unset).toArray = ls at hl ⊢
  have hl : lv_has ls 3 [(0, .ref v0)] := hl
  unfold jf_X10_settleMore at hF
  refine lv_iconst (v := 0) hx hb dX10_settleMore_0 (by decide) ?_
  refine lv_istore_n (lv' := [(1, .int 0), (0, .ref v0)]) hx hb dX10_settleMore_1 rfl hl (by decide) rfl (fun ls hl => ?_)
  refine lv_aload_n hx hb dX10_settleMore_2 rfl (lv_at hl 1 rfl) ?_
  refine gf_X10_52 C0 hR t_v0 dX10_settleMore_3 ?_
  refine lv_iconst (v := 1) hx hb dX10_settleMore_6 (by decide) ?_
  refine lv_isub hx hb dX10_settleMore_7 ?_
  refine lv_istore_n (lv' := [(2, .int ((xI h v0 11) - 1)), (1, .int 0), (0, .ref v0)]) hx hb dX10_settleMore_8 rfl hl (by decide) rfl (fun ls hl => ?_)
  obtain ⟨_, hF⟩ := xlim_sp hF
  exact jw_X10_settleMore_9 C0 _ _ _ _ _ t_v0 hF _ _ hR hS _ (lv_sub hl [2, 1, 0] rfl)
theorem xm_X10_settleMore : xMw yX10_settleMore cX10_settleMore 3 (some .int) 0 := ⟨xin 858 (by decide +kernel) rfl, xin 122 (by decide +kernel) rfl, by decide +kernel⟩
theorem xi_X10_settleMore : Cond.instanceMethod yX10_settleMore ∈ xT := xin 857 (by decide +kernel) rfl
theorem xe_X10_settleMore : Cond.selects yX10_settleMore.cls yX10_settleMore yX10_settleMore ∈ xT := xin 32 (by decide +kernel) rfl
theorem dX10_hasNoCircle_0 : decode cX10_hasNoCircle 0 = .ok (.iconst 0, 1) := by decide +kernel
theorem dX10_hasNoCircle_1 : decode cX10_hasNoCircle 1 = .ok (.istore_n 1, 1) := by decide +kernel
theorem dX10_hasNoCircle_2 : decode cX10_hasNoCircle 2 = .ok (.iload_n 1, 1) := by decide +kernel
theorem dX10_hasNoCircle_3 : decode cX10_hasNoCircle 3 = .ok (.aload_n 0, 1) := by decide +kernel
theorem dX10_hasNoCircle_4 : decode cX10_hasNoCircle 4 = .ok (.getfield 52, 3) := by decide +kernel
theorem dX10_hasNoCircle_7 : decode cX10_hasNoCircle 7 = .ok (.if_icmp .ge 16, 3) := by decide +kernel
theorem dX10_hasNoCircle_10 : decode cX10_hasNoCircle 10 = .ok (.aload_n 0, 1) := by decide +kernel
theorem dX10_hasNoCircle_11 : decode cX10_hasNoCircle 11 = .ok (.getfield 30, 3) := by decide +kernel
theorem dX10_hasNoCircle_14 : decode cX10_hasNoCircle 14 = .ok (.iload_n 1, 1) := by decide +kernel
theorem dX10_hasNoCircle_15 : decode cX10_hasNoCircle 15 = .ok (.iconst 0, 1) := by decide +kernel
theorem dX10_hasNoCircle_16 : decode cX10_hasNoCircle 16 = .ok (.bastore, 1) := by decide +kernel
theorem dX10_hasNoCircle_17 : decode cX10_hasNoCircle 17 = .ok (.iinc 1 1, 3) := by decide +kernel
theorem dX10_hasNoCircle_20 : decode cX10_hasNoCircle 20 = .ok (.goto (-18), 3) := by decide +kernel
theorem dX10_hasNoCircle_23 : decode cX10_hasNoCircle 23 = .ok (.aload_n 0, 1) := by decide +kernel
theorem dX10_hasNoCircle_24 : decode cX10_hasNoCircle 24 = .ok (.getfield 52, 3) := by decide +kernel
theorem dX10_hasNoCircle_27 : decode cX10_hasNoCircle 27 = .ok (.istore_n 1, 1) := by decide +kernel
theorem dX10_hasNoCircle_28 : decode cX10_hasNoCircle 28 = .ok (.iconst 1, 1) := by decide +kernel
theorem dX10_hasNoCircle_29 : decode cX10_hasNoCircle 29 = .ok (.istore_n 2, 1) := by decide +kernel
theorem dX10_hasNoCircle_30 : decode cX10_hasNoCircle 30 = .ok (.iconst 0, 1) := by decide +kernel
theorem dX10_hasNoCircle_31 : decode cX10_hasNoCircle 31 = .ok (.istore_n 3, 1) := by decide +kernel
theorem dX10_hasNoCircle_32 : decode cX10_hasNoCircle 32 = .ok (.iload_n 3, 1) := by decide +kernel
theorem dX10_hasNoCircle_33 : decode cX10_hasNoCircle 33 = .ok (.aload_n 0, 1) := by decide +kernel
theorem dX10_hasNoCircle_34 : decode cX10_hasNoCircle 34 = .ok (.getfield 52, 3) := by decide +kernel
theorem dX10_hasNoCircle_37 : decode cX10_hasNoCircle 37 = .ok (.if_icmp .ge 35, 3) := by decide +kernel
theorem dX10_hasNoCircle_40 : decode cX10_hasNoCircle 40 = .ok (.iload_n 2, 1) := by decide +kernel
theorem dX10_hasNoCircle_41 : decode cX10_hasNoCircle 41 = .ok (.ifCond .eq 31, 3) := by decide +kernel
theorem dX10_hasNoCircle_44 : decode cX10_hasNoCircle 44 = .ok (.aload_n 0, 1) := by decide +kernel
theorem dX10_hasNoCircle_45 : decode cX10_hasNoCircle 45 = .ok (.invokevirtual 104, 3) := by decide +kernel
theorem dX10_hasNoCircle_48 : decode cX10_hasNoCircle 48 = .ok (.istore 4, 2) := by decide +kernel
theorem dX10_hasNoCircle_50 : decode cX10_hasNoCircle 50 = .ok (.iload_n 1, 1) := by decide +kernel
theorem dX10_hasNoCircle_51 : decode cX10_hasNoCircle 51 = .ok (.iload 4, 2) := by decide +kernel
theorem dX10_hasNoCircle_53 : decode cX10_hasNoCircle 53 = .ok (.isub, 1) := by decide +kernel
theorem dX10_hasNoCircle_54 : decode cX10_hasNoCircle 54 = .ok (.istore_n 1, 1) := by decide +kernel
theorem dX10_hasNoCircle_55 : decode cX10_hasNoCircle 55 = .ok (.iload 4, 2) := by decide +kernel
theorem dX10_hasNoCircle_57 : decode cX10_hasNoCircle 57 = .ok (.ifCond .le 7, 3) := by decide +kernel
theorem dX10_hasNoCircle_60 : decode cX10_hasNoCircle 60 = .ok (.iconst 1, 1) := by decide +kernel
theorem dX10_hasNoCircle_61 : decode cX10_hasNoCircle 61 = .ok (.goto 4, 3) := by decide +kernel
theorem dX10_hasNoCircle_64 : decode cX10_hasNoCircle 64 = .ok (.iconst 0, 1) := by decide +kernel
theorem dX10_hasNoCircle_65 : decode cX10_hasNoCircle 65 = .ok (.istore_n 2, 1) := by decide +kernel
theorem dX10_hasNoCircle_66 : decode cX10_hasNoCircle 66 = .ok (.iinc 3 1, 3) := by decide +kernel
theorem dX10_hasNoCircle_69 : decode cX10_hasNoCircle 69 = .ok (.goto (-37), 3) := by decide +kernel
theorem dX10_hasNoCircle_72 : decode cX10_hasNoCircle 72 = .ok (.iload_n 1, 1) := by decide +kernel
theorem dX10_hasNoCircle_73 : decode cX10_hasNoCircle 73 = .ok (.ifCond .ne 7, 3) := by decide +kernel
theorem dX10_hasNoCircle_76 : decode cX10_hasNoCircle 76 = .ok (.iconst 1, 1) := by decide +kernel
theorem dX10_hasNoCircle_77 : decode cX10_hasNoCircle 77 = .ok (.goto 4, 3) := by decide +kernel
theorem dX10_hasNoCircle_80 : decode cX10_hasNoCircle 80 = .ok (.iconst 0, 1) := by decide +kernel
theorem dX10_hasNoCircle_81 : decode cX10_hasNoCircle 81 = .ok (.ireturn, 1) := by decide +kernel
theorem wl_X10_104 : Cond.methodLink RX10 104 yX10_settleMore ∈ xT := xin 855 (by decide +kernel) rfl
section XN_X10_hasNoCircle
variable {p : Program} {l : Launch} {e : Env} {R : Room} {s : State} {m : MethodId} {args : Array Value} {below : List Frame} {meth : Method} {c : Code} {H H0 : Heap} {locs : List Loc} {cells slots : Nat} {Q : State → Prop} {cc : ByteArray} {nL pc : Nat} {rt : Option FieldType} {ls : Array Slot} {rest : List Value} {D : xD} {ty : xTy} {h : xH}
theorem cl_X10_104 {v0 : Nat} {r : Int32} {h9 : xH} (C0 : xC D RX10 cc nL rt p s m args meth c) (hR : xRep D ty h H) (hS : xS ty H0 H locs) (hF : jf_X10_settleMore ty h v0 = some (r, h9)) (t_v0 : ty v0 = some (0, 10)) (hrm : jr_X10_settleMore.frames + 1 ≤ R.frames ∧ 8 + (3 + 11) + jr_X10_settleMore.locals ≤ R.locals) (hsz : ls.size = nL) (hW : (rest.map fun v => v.category).sum ≤ 8) (hf : cells ≤ R.cells ∧ slots ≤ R.slots) (hdg : decode cc pc = .ok (.invokevirtual 104, 3)) (kk : ∀ (H1 : Heap) (locs1 : List Loc), xRep D ty h9 H1 → xS ty H0 H1 locs1 → W p l e R s m args below meth c H1 locs1 cells slots Q (F0 m (pc + 3) ls (.int r :: rest))) : W p l e R s m args below meth c H locs cells slots Q (F0 m pc ls (.ref v0 :: rest)) := x_callV C0 (jc_X10_settleMore t_v0 hF) xm_X10_settleMore xi_X10_settleMore xe_X10_settleMore wl_X10_104 ⟨rfl, rfl, hrm⟩ (ci := 10) rfl t_v0 hR hS (As := []) rfl hsz rfl hW hdg hf kk
end XN_X10_hasNoCircle
set_option maxHeartbeats 4000000 in
set_option maxRecDepth 100000 in
theorem jw_X10_hasNoCircle_32 {p : Program} {l : Launch} {e : Env} {s : State} {m : MethodId} {args : Array Value} {below : List Frame} {meth : Method} {c : Code} {D : xD} {ty : xTy} (C0 : xC D RX10 cX10_hasNoCircle 5 (some .boolean) p s m args meth c) {r : Int32} {h9 : xH} : ∀ n : Nat, ∀ (v0 : Nat) (v1 : Int32) (v2 : Int32) (v3 : Int32) (h : xH), ty v0 = some (0, 10) → jf_X10_hasNoCircle_32 ty n v0 v1 v2 v3 h = some (r, h9) → ∀ (H : Heap) (locs : List Loc), xRep D ty h H → xS ty s.heap H locs → ∀ ls : Array Slot, lv_has ls 5 [(0, .ref v0), (1, .int v1), (2, .int v2), (3, .int v3)] → W p l e jr_X10_hasNoCircle s m args below meth c H locs 0 0 (MQ below (xQ D ty (some (.int r)) h9) args s 0 0 (xdom ty)) (F0 m 32 ls []) := by
  have hx := C0.1
  have hb := C0.2.1
  have hown := C0.2.2.2.2.2.1
  have hts := C0.2.2.2.2.2.2.1
  intro n
  induction n with
  | zero =>
    intro v0 v1 v2 v3 h t_v0 hF H locs hR hS ls hl
    cases hF
  | succ n ih =>
    intro v0 v1 v2 v3 h t_v0 hF H locs hR hS ls hl
    rw [jf_X10_hasNoCircle_32_s] at hF
    refine lv_iload_n hx hb dX10_hasNoCircle_32 rfl (lv_at hl 3 rfl) ?_
    refine lv_aload_n hx hb dX10_hasNoCircle_33 rfl (lv_at hl 0 rfl) ?_
    refine gf_X10_52 C0 hR t_v0 dX10_hasNoCircle_34 ?_
    refine lv_icmp_ge (tgt := 72) hx hb dX10_hasNoCircle_37 (by decide) (fun c1 => ?_) (fun c1 => ?_)
    · have hF := xif hF c1
      refine lv_iload_n hx hb dX10_hasNoCircle_72 rfl (lv_at hl 1 rfl) ?_
      refine lv_if_ne (tgt := 80) hx hb dX10_hasNoCircle_73 (by decide) (fun c2 => ?_) (fun c2 => ?_)
      · have hF := xel hF c2
        refine lv_iconst (v := 0) hx hb dX10_hasNoCircle_80 (by decide) ?_
        cases hF
        exact x_zret (w := 0) C0 hR hS (by decide) dX10_hasNoCircle_81
      · have hF := xif hF c2
        refine lv_iconst (v := 1) hx hb dX10_hasNoCircle_76 (by decide) ?_
        refine lv_goto (tgt := 81) hx hb dX10_hasNoCircle_77 (by decide) ?_
        cases hF
        exact x_zret (w := 1) C0 hR hS (by decide) dX10_hasNoCircle_81
    · have hF := xel hF c1
      refine lv_iload_n hx hb dX10_hasNoCircle_40 rfl (lv_at hl 2 rfl) ?_
      refine lv_if_eq (tgt := 72) hx hb dX10_hasNoCircle_41 (by decide) (fun c3 => ?_) (fun c3 => ?_)
      · have hF := xif hF c3
        refine lv_iload_n hx hb dX10_hasNoCircle_72 rfl (lv_at hl 1 rfl) ?_
        refine lv_if_ne (tgt := 80) hx hb dX10_hasNoCircle_73 (by decide) (fun c4 => ?_) (fun c4 => ?_)
        · have hF := xel hF c4
          refine lv_iconst (v := 0) hx hb dX10_hasNoCircle_80 (by decide) ?_
          cases hF
          exact x_zret (w := 0) C0 hR hS (by decide) dX10_hasNoCircle_81
        · have hF := xif hF c4
          refine lv_iconst (v := 1) hx hb dX10_hasNoCircle_76 (by decide) ?_
          refine lv_goto (tgt := 81) hx hb dX10_hasNoCircle_77 (by decide) ?_
          cases hF
          exact x_zret (w := 1) C0 hR hS (by decide) dX10_hasNoCircle_81
      · have hF := xel hF c3
        refine lv_aload_n hx hb dX10_hasNoCircle_44 rfl (lv_at hl 0 rfl) ?_
        obtain ⟨a6, h5, e_h5, hF⟩ := xbd2 hF
        refine cl_X10_104 C0 hR hS e_h5 t_v0 ⟨(Nat.le_of_ble_eq_true rfl), (Nat.le_of_ble_eq_true rfl)⟩ hl.1 (Nat.le_of_ble_eq_true rfl) ⟨(Nat.le_of_ble_eq_true rfl), (Nat.le_of_ble_eq_true rfl)⟩ dX10_hasNoCircle_45 (fun H locs hR hS => ?_)
        refine lv_istore (lv' := [(4, .int a6), (0, .ref v0), (1, .int v1), (2, .int v2), (3, .int v3)]) hx hb dX10_hasNoCircle_48 hl (by decide) rfl (fun ls hl => ?_)
        refine lv_iload_n hx hb dX10_hasNoCircle_50 rfl (lv_at hl 2 rfl) ?_
        refine lv_iload hx hb dX10_hasNoCircle_51 (lv_at hl 0 rfl) ?_
        refine lv_isub hx hb dX10_hasNoCircle_53 ?_
        refine lv_istore_n (lv' := [(1, .int (v1 - a6)), (4, .int a6), (0, .ref v0), (2, .int v2), (3, .int v3)]) hx hb dX10_hasNoCircle_54 rfl hl (by decide) rfl (fun ls hl => ?_)
        refine lv_iload hx hb dX10_hasNoCircle_55 (lv_at hl 1 rfl) ?_
        refine lv_if_le (tgt := 64) hx hb dX10_hasNoCircle_57 (by decide) (fun c7 => ?_) (fun c7 => ?_)
        · have hF := xif hF c7
          refine lv_iconst (v := 0) hx hb dX10_hasNoCircle_64 (by decide) ?_
          refine lv_istore_n (lv' := [(2, .int 0), (1, .int (v1 - a6)), (4, .int a6), (0, .ref v0), (3, .int v3)]) hx hb dX10_hasNoCircle_65 rfl hl (by decide) rfl (fun ls hl => ?_)
          refine lv_iinc (v := v3 + 1) (lv' := [(3, .int (v3 + 1)), (2, .int 0), (1, .int (v1 - a6)), (4, .int a6), (0, .ref v0)]) hx hb dX10_hasNoCircle_66 hl (k := 4) rfl rfl (by decide) rfl (fun ls hl => ?_)
          refine lv_goto (tgt := 32) hx hb dX10_hasNoCircle_69 (by decide) ?_
          exact ih _ _ _ _ _ t_v0 hF _ _ hR hS _ (lv_sub hl [4, 2, 1, 0] rfl)
        · have hF := xel hF c7
          refine lv_iconst (v := 1) hx hb dX10_hasNoCircle_60 (by decide) ?_
          refine lv_goto (tgt := 65) hx hb dX10_hasNoCircle_61 (by decide) ?_
          refine lv_istore_n (lv' := [(2, .int 1), (1, .int (v1 - a6)), (4, .int a6), (0, .ref v0), (3, .int v3)]) hx hb dX10_hasNoCircle_65 rfl hl (by decide) rfl (fun ls hl => ?_)
          refine lv_iinc (v := v3 + 1) (lv' := [(3, .int (v3 + 1)), (2, .int 1), (1, .int (v1 - a6)), (4, .int a6), (0, .ref v0)]) hx hb dX10_hasNoCircle_66 hl (k := 4) rfl rfl (by decide) rfl (fun ls hl => ?_)
          refine lv_goto (tgt := 32) hx hb dX10_hasNoCircle_69 (by decide) ?_
          exact ih _ _ _ _ _ t_v0 hF _ _ hR hS _ (lv_sub hl [4, 2, 1, 0] rfl)
set_option maxHeartbeats 4000000 in
set_option maxRecDepth 100000 in
theorem jw_X10_hasNoCircle_2 {p : Program} {l : Launch} {e : Env} {s : State} {m : MethodId} {args : Array Value} {below : List Frame} {meth : Method} {c : Code} {D : xD} {ty : xTy} (C0 : xC D RX10 cX10_hasNoCircle 5 (some .boolean) p s m args meth c) {r : Int32} {h9 : xH} : ∀ n : Nat, ∀ (v0 : Nat) (v1 : Int32) (h : xH), ty v0 = some (0, 10) → jf_X10_hasNoCircle_2 ty n v0 v1 h = some (r, h9) → ∀ (H : Heap) (locs : List Loc), xRep D ty h H → xS ty s.heap H locs → ∀ ls : Array Slot, lv_has ls 5 [(0, .ref v0), (1, .int v1)] → W p l e jr_X10_hasNoCircle s m args below meth c H locs 0 0 (MQ below (xQ D ty (some (.int r)) h9) args s 0 0 (xdom ty)) (F0 m 2 ls []) := by
  have hx := C0.1
  have hb := C0.2.1
  have hown := C0.2.2.2.2.2.1
  have hts := C0.2.2.2.2.2.2.1
  intro n
  induction n with
  | zero =>
    intro v0 v1 h t_v0 hF H locs hR hS ls hl
    cases hF
  | succ n ih =>
    intro v0 v1 h t_v0 hF H locs hR hS ls hl
    rw [jf_X10_hasNoCircle_2_s] at hF
    refine lv_iload_n hx hb dX10_hasNoCircle_2 rfl (lv_at hl 1 rfl) ?_
    refine lv_aload_n hx hb dX10_hasNoCircle_3 rfl (lv_at hl 0 rfl) ?_
    refine gf_X10_52 C0 hR t_v0 dX10_hasNoCircle_4 ?_
    refine lv_icmp_ge (tgt := 23) hx hb dX10_hasNoCircle_7 (by decide) (fun c8 => ?_) (fun c8 => ?_)
    · have hF := xif hF c8
      refine lv_aload_n hx hb dX10_hasNoCircle_23 rfl (lv_at hl 0 rfl) ?_
      refine gf_X10_52 C0 hR t_v0 dX10_hasNoCircle_24 ?_
      refine lv_istore_n (lv' := [(1, .int (xI h v0 11)), (0, .ref v0)]) hx hb dX10_hasNoCircle_27 rfl hl (by decide) rfl (fun ls hl => ?_)
      refine lv_iconst (v := 1) hx hb dX10_hasNoCircle_28 (by decide) ?_
      refine lv_istore_n (lv' := [(2, .int 1), (1, .int (xI h v0 11)), (0, .ref v0)]) hx hb dX10_hasNoCircle_29 rfl hl (by decide) rfl (fun ls hl => ?_)
      refine lv_iconst (v := 0) hx hb dX10_hasNoCircle_30 (by decide) ?_
      refine lv_istore_n (lv' := [(3, .int 0), (2, .int 1), (1, .int (xI h v0 11)), (0, .ref v0)]) hx hb dX10_hasNoCircle_31 rfl hl (by decide) rfl (fun ls hl => ?_)
      obtain ⟨_, hF⟩ := xlim_sp hF
      exact jw_X10_hasNoCircle_32 C0 _ _ _ _ _ _ t_v0 hF _ _ hR hS _ (lv_sub hl [3, 2, 1, 0] rfl)
    · have hF := xel hF c8
      refine lv_aload_n hx hb dX10_hasNoCircle_10 rfl (lv_at hl 0 rfl) ?_
      obtain ⟨a9, e_a9, hF⟩ := xbd hF
      refine gf_X10_30 C0 hR t_v0 e_a9 dX10_hasNoCircle_11 ?_
      refine lv_iload_n hx hb dX10_hasNoCircle_14 rfl (lv_at hl 1 rfl) ?_
      refine lv_iconst (v := 0) hx hb dX10_hasNoCircle_15 (by decide) ?_
      obtain ⟨h10, e_h10, hF⟩ := xbd hF
      refine x_zast C0 hR hS (by decide) e_h10 dX10_hasNoCircle_16 (fun H locs hR hS => ?_)
      refine lv_iinc (v := v1 + 1) (lv' := [(1, .int (v1 + 1)), (0, .ref v0)]) hx hb dX10_hasNoCircle_17 hl (k := 1) rfl rfl (by decide) rfl (fun ls hl => ?_)
      refine lv_goto (tgt := 2) hx hb dX10_hasNoCircle_20 (by decide) ?_
      exact ih _ _ _ t_v0 hF _ _ hR hS _ (lv_sub hl [1, 0] rfl)
set_option maxHeartbeats 4000000 in
set_option maxRecDepth 100000 in
theorem jc_X10_hasNoCircle {l : Launch} {D : xD} {ty : xTy} {h : xH} {v0 : Nat} {r : Int32} {h9 : xH} (t_v0 : ty v0 = some (0, 10)) (hF : jf_X10_hasNoCircle ty h v0 = some (r, h9)) : Met l yX10_hasNoCircle (xws yX10_hasNoCircle cX10_hasNoCircle 5 (some .boolean)) jr_X10_hasNoCircle (xPc D ty h [.ref v0]) (xQ D ty (some (.int r)) h9) 0 0 (xdom ty) := by
  refine x_met (by decide) ?_
  intro p e s m below meth c C0 hR
  generalize hargs : ([.ref v0] : List Value).toArray = args at C0 ⊢
  have hx := C0.1
  have hb := C0.2.1
  have hown := C0.2.2.2.2.2.1
  have hts := C0.2.2.2.2.2.2.1
  have hS : xS ty s.heap s.heap [] := xS.rf
  have hl := lv_entry ([.ref v0]) (n := 5) (Nat.le_of_ble_eq_true rfl)
  rw [← hargs, lg_entry_eq]
  rw [hargs]
  generalize (lg_sl ([.ref v0]) ++ List.replicate (5 - (lg_sl ([.ref v0])).length) Slot.unset).toArray = ls at hl ⊢
  have hl : lv_has ls 5 [(0, .ref v0)] := hl
  unfold jf_X10_hasNoCircle at hF
  refine lv_iconst (v := 0) hx hb dX10_hasNoCircle_0 (by decide) ?_
  refine lv_istore_n (lv' := [(1, .int 0), (0, .ref v0)]) hx hb dX10_hasNoCircle_1 rfl hl (by decide) rfl (fun ls hl => ?_)
  obtain ⟨_, hF⟩ := xlim_sp hF
  exact jw_X10_hasNoCircle_2 C0 _ _ _ _ t_v0 hF _ _ hR hS _ (lv_sub hl [1, 0] rfl)
theorem xm_X10_hasNoCircle : xMw yX10_hasNoCircle cX10_hasNoCircle 5 (some .boolean) 0 := ⟨xin 854 (by decide +kernel) rfl, xin 122 (by decide +kernel) rfl, by decide +kernel⟩
theorem xi_X10_hasNoCircle : Cond.instanceMethod yX10_hasNoCircle ∈ xT := xin 853 (by decide +kernel) rfl
theorem xe_X10_hasNoCircle : Cond.selects yX10_hasNoCircle.cls yX10_hasNoCircle yX10_hasNoCircle ∈ xT := xin 31 (by decide +kernel) rfl

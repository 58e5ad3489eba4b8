/-! THE CONSTRUCTORS (written by gen2.py) -/
def okT : FieldType → Bool
  | .int => true
  | .boolean => true
  | .long => true
  | .object _ => true
  | .array _ => true
  | _ => false
theorem df_of {ci M : Nat} (hok : ∀ k, k < M → okT (xty ci k) = true) : ∀ k, k < M → ∀ (h : xH) (q : Nat), xI h q k = 0 → xR h q k = none → xJ h q k = 0 → defaultValue (xty ci k) = xval (xty ci k) h q k := by
  intro k hk h q h1 h2 h3
  have h4 := hok k hk
  generalize xty ci k = t at h4 ⊢
  cases t <;> first | (cases h4; done) | (simp [xval, defaultValue, h1, h2, h3, va_rf])
theorem sub_of {L L2 : List (Nat × Nat)} {d : Nat} (h : (L.drop d).take L2.length = L2) : ∀ (j : Nat) (t : Nat × Nat), L2[j]? = some t → L[d + j]? = some t := by
  intro j t hj
  rw [← h] at hj
  rw [List.getElem?_take] at hj
  split at hj
  · rw [List.getElem?_drop] at hj; exact hj
  · cases hj
theorem sub_ty {ty : xTy} {N b d : Nat} {L L2 : List (Nat × Nat)} (h : ∀ (j : Nat) (t : Nat × Nat), L[j]? = some t → ty (N + (b + j)) = some t) (hs : (L.drop d).take L2.length = L2) : ∀ (j : Nat) (t : Nat × Nat), L2[j]? = some t → ty (N + (b + d + j)) = some t := fun j t hj => by
  rw [Nat.add_assoc b d j]
  exact h (d + j) t (sub_of hs j t hj)
theorem dX7_init_0 : decode cX7_init 0 = .ok (.aload_n 0, 1) := by decide +kernel
theorem dX7_init_1 : decode cX7_init 1 = .ok (.invokespecial 3, 3) := by decide +kernel
theorem wj_X7_3 : Cond.methodLink RX7 3 Lib.objectInit ∈ xT := xin 154 (by decide +kernel) rfl
theorem dX7_init_4 : decode cX7_init 4 = .ok (.aload_n 0, 1) := by decide +kernel
theorem dX7_init_5 : decode cX7_init 5 = .ok (.iconst 0, 1) := by decide +kernel
theorem dX7_init_6 : decode cX7_init 6 = .ok (.putfield 9, 3) := by decide +kernel
theorem dX7_init_9 : decode cX7_init 9 = .ok (.aload_n 0, 1) := by decide +kernel
theorem dX7_init_10 : decode cX7_init 10 = .ok (.iload_n 1, 1) := by decide +kernel
theorem dX7_init_11 : decode cX7_init 11 = .ok (.newarray .int, 2) := by decide +kernel
theorem dX7_init_13 : decode cX7_init 13 = .ok (.putfield 15, 3) := by decide +kernel
theorem dX7_init_16 : decode cX7_init 16 = .ok (.aload_n 0, 1) := by decide +kernel
theorem dX7_init_17 : decode cX7_init 17 = .ok (.iload_n 1, 1) := by decide +kernel
theorem dX7_init_18 : decode cX7_init 18 = .ok (.newarray .int, 2) := by decide +kernel
theorem dX7_init_20 : decode cX7_init 20 = .ok (.putfield 19, 3) := by decide +kernel
theorem dX7_init_23 : decode cX7_init 23 = .ok (.return_, 1) := by decide +kernel
theorem xm_X7_init : xMw yX7_init cX7_init 2 none 1 := ⟨xin 153 (by decide +kernel) rfl, xin 116 (by decide +kernel) rfl, by decide +kernel⟩
theorem xi_X7_init : Cond.instanceMethod yX7_init ∈ xT := xin 152 (by decide +kernel) rfl
section GN_X7_init
variable {p : Program} {l : Launch} {e : Env} {R : Room} {s : State} {m : MethodId} {args : Array Value} {below : List Frame} {meth : Method} {c : Code} {H H0 : Heap} {locs : List Loc} {cells slots : Nat} {Q : State → Prop} {cc : ByteArray} {nL pc : Nat} {rt : Option FieldType} {ls : Array Slot} {rest : List Value} {D : xD} {ty : xTy} {N n : Nat} {tR tP : List (Nat × Nat × Nat)} {tI tA : List (Nat × Nat × Int)}
theorem pn_X7_9 {q : Nat} {v : Int} {w : Int32} (C0 : xC D RX7 cc nL rt p s m args meth c) (hG : xG D ty N n tR tI tP tA H) (hS : xL ty N n H0 H locs) (hw : w = i32 v) (hq : q < n) (ht : ty (N + q) = some (0, 7)) (hdg : decode cc pc = .ok (.putfield 9, 3)) (kk : ∀ (H1 : Heap) (locs1 : List Loc), xG D ty N n tR ((q, 2, v) :: tI) tP tA H1 → xL ty N n H0 H1 locs1 → W p l e R s m args below meth c H1 locs1 cells slots Q (F0 m (pc + 3) ls rest)) : W p l e R s m args below meth c H locs cells slots Q (F0 m pc ls (.int w :: .ref (N + q) :: rest)) := g_puti C0 hG hS (ci := 7) (k := 2) (M := 3) (T := TX7) rfl iX7 tyX7_ok nmX7 (by decide) rfl rfl wf_X7_9 (Or.inl rfl) hw rfl rfl hq ht hdg kk
theorem pn_X7_15 {q v : Nat} (C0 : xC D RX7 cc nL rt p s m args meth c) (hG : xG D ty N n tR tI tP tA H) (hS : xL ty N n H0 H locs) (hin2 : meth.name = "<init>") (hq : q < n) (ht : ty (N + q) = some (0, 7)) (hdg : decode cc pc = .ok (.putfield 15, 3)) (kk : ∀ (H1 : Heap) (locs1 : List Loc), xG D ty N n ((q, 0, v) :: tR) tI tP tA H1 → xL ty N n H0 H1 locs1 → W p l e R s m args below meth c H1 locs1 cells slots Q (F0 m (pc + 3) ls rest)) : W p l e R s m args below meth c H locs cells slots Q (F0 m pc ls (.ref (N + v) :: .ref (N + q) :: rest)) := g_putrF C0 hG hS (ci := 7) (k := 0) (M := 3) (T := TX7) rfl iX7 tyX7_ok nmX7 (by decide) rfl rfl rfl wf_X7_15 rfl hin2 hq ht hdg kk
theorem pn_X7_19 {q v : Nat} (C0 : xC D RX7 cc nL rt p s m args meth c) (hG : xG D ty N n tR tI tP tA H) (hS : xL ty N n H0 H locs) (hin2 : meth.name = "<init>") (hq : q < n) (ht : ty (N + q) = some (0, 7)) (hdg : decode cc pc = .ok (.putfield 19, 3)) (kk : ∀ (H1 : Heap) (locs1 : List Loc), xG D ty N n ((q, 1, v) :: tR) tI tP tA H1 → xL ty N n H0 H1 locs1 → W p l e R s m args below meth c H1 locs1 cells slots Q (F0 m (pc + 3) ls rest)) : W p l e R s m args below meth c H locs cells slots Q (F0 m pc ls (.ref (N + v) :: .ref (N + q) :: rest)) := g_putrF C0 hG hS (ci := 7) (k := 1) (M := 3) (T := TX7) rfl iX7 tyX7_ok nmX7 (by decide) rfl rfl rfl wf_X7_19 rfl hin2 hq ht hdg kk
end GN_X7_init
def sh_X7 (k : Nat) : List (Nat × Nat) := [(0, 7), (1, k), (1, k)]
abbrev jnr_X7 (k : Nat) : Room := { frames := 1, cells := 2, slots := k + k, locals := 12 }
set_option maxHeartbeats 4000000 in
set_option maxRecDepth 100000 in
theorem jn_X7 {l : Launch} {D : xD} {ty : xTy} {N b : Nat} {tR tP : List (Nat × Nat × Nat)} {tI tA : List (Nat × Nat × Int)} {k : Nat} {v : Int32} (hv0 : ¬ v < 0) (hv : v.toNatClampNeg = k) (hby : k * 4 ≤ 536870912) (hT : ∀ (j : Nat) (t : Nat × Nat), (sh_X7 k)[j]? = some t → ty (N + (b + j)) = some t) : Met l yX7_init (xws yX7_init cX7_init 2 none) (jnr_X7 k) (xPn D ty N (b + 1) tR tI tP tA [.ref (N + b), .int v]) (xQn D ty N (b + 3) ((b, 1, b + 2) :: (b, 0, b + 1) :: tR) ((b, 2, 0) :: tI) tP tA) 2 (k + k) (xdom (tyN ty (N + (b + 3)))) := by
  refine g_met (by decide) rfl ?_
  intro p e s m below meth c C0 hnm hAO hG
  generalize hargs : ([.ref (N + b), .int v] : List Value).toArray = args at C0 ⊢
  have hx := C0.1
  have hb := C0.2.1
  have hS : xL ty N (b + 1) s.heap s.heap [] := ⟨fun _ _ => rfl, fun _ h => absurd h List.not_mem_nil⟩
  have hl := lv_entry ([.ref (N + b), .int v]) (n := 2) (Nat.le_of_ble_eq_true rfl)
  rw [← hargs, lg_entry_eq]
  rw [hargs]
  generalize (lg_sl ([.ref (N + b), .int v]) ++ List.replicate (2 - (lg_sl ([.ref (N + b), .int v])).length) Slot.unset).toArray = ls at hl ⊢
  have hl : lv_has ls 2 [(0, .ref (N + b)), (1, .int v)] := hl
  refine lv_aload_n hx hb dX7_init_0 rfl (lv_at hl 0 rfl) ?_
  refine g_obj C0 wj_X7_3 hl.1 (Nat.le_of_ble_eq_true rfl) (Nat.le_of_ble_eq_true rfl) dX7_init_1 ?_
  refine lv_aload_n hx hb dX7_init_4 rfl (lv_at hl 0 rfl) ?_
  refine lv_iconst (v := 0) hx hb dX7_init_5 (by decide) ?_
  refine pn_X7_9 (q := b) (v := 0) C0 hG hS (by decide) (by omega) (hT 0 _ rfl) dX7_init_6 (fun H locs hG hS => ?_)
  refine lv_aload_n hx hb dX7_init_9 rfl (lv_at hl 0 rfl) ?_
  refine lv_iload_n hx hb dX7_init_10 rfl (lv_at hl 1 rfl) ?_
  refine g_newi (n1 := b + 2) (c1 := 1) (s1 := k) C0 hG hS rfl rfl (Nat.zero_add k).symm (hT 1 _ rfl) hv0 hv hby (Nat.le_of_ble_eq_true rfl) (Nat.le_add_left k k) dX7_init_11 (fun H hG hS => ?_)
  refine pn_X7_15 (q := b) (v := b + 1) C0 hG hS hnm (by omega) (hT 0 _ rfl) dX7_init_13 (fun H locs hG hS => ?_)
  refine lv_aload_n hx hb dX7_init_16 rfl (lv_at hl 0 rfl) ?_
  refine lv_iload_n hx hb dX7_init_17 rfl (lv_at hl 1 rfl) ?_
  refine g_newi (n1 := b + 3) (c1 := 2) (s1 := k + k) C0 hG hS rfl rfl rfl (hT 2 _ rfl) hv0 hv hby (Nat.le_of_ble_eq_true rfl) (Nat.le_refl _) dX7_init_18 (fun H hG hS => ?_)
  refine pn_X7_19 (q := b) (v := b + 2) C0 hG hS hnm (by omega) (hT 0 _ rfl) dX7_init_20 (fun H locs hG hS => ?_)
  exact g_vret C0 hG hS dX7_init_23
theorem dX3_init_0 : decode cX3_init 0 = .ok (.aload_n 0, 1) := by decide +kernel
theorem dX3_init_1 : decode cX3_init 1 = .ok (.invokespecial 3, 3) := by decide +kernel
theorem wj_X3_3 : Cond.methodLink RX3 3 Lib.objectInit ∈ xT := xin 338 (by decide +kernel) rfl
theorem dX3_init_4 : decode cX3_init 4 = .ok (.aload_n 0, 1) := by decide +kernel
theorem dX3_init_5 : decode cX3_init 5 = .ok (.bipush 12, 2) := by decide +kernel
theorem dX3_init_7 : decode cX3_init 7 = .ok (.newarray .int, 2) := by decide +kernel
theorem dX3_init_9 : decode cX3_init 9 = .ok (.putfield 9, 3) := by decide +kernel
theorem dX3_init_12 : decode cX3_init 12 = .ok (.return_, 1) := by decide +kernel
theorem xm_X3_init : xMw yX3_init cX3_init 1 none 0 := ⟨xin 337 (by decide +kernel) rfl, xin 121 (by decide +kernel) rfl, by decide +kernel⟩
theorem xi_X3_init : Cond.instanceMethod yX3_init ∈ xT := xin 336 (by decide +kernel) rfl
section GN_X3_init
variable {p : Program} {l : Launch} {e : Env} {R : Room} {s : State} {m : MethodId} {args : Array Value} {below : List Frame} {meth : Method} {c : Code} {H H0 : Heap} {locs : List Loc} {cells slots : Nat} {Q : State → Prop} {cc : ByteArray} {nL pc : Nat} {rt : Option FieldType} {ls : Array Slot} {rest : List Value} {D : xD} {ty : xTy} {N n : Nat} {tR tP : List (Nat × Nat × Nat)} {tI tA : List (Nat × Nat × Int)}
theorem pn_X3_9 {q v : Nat} (C0 : xC D RX3 cc nL rt p s m args meth c) (hG : xG D ty N n tR tI tP tA H) (hS : xL ty N n H0 H locs) (hin2 : meth.name = "<init>") (hq : q < n) (ht : ty (N + q) = some (0, 3)) (hdg : decode cc pc = .ok (.putfield 9, 3)) (kk : ∀ (H1 : Heap) (locs1 : List Loc), xG D ty N n ((q, 0, v) :: tR) tI tP tA H1 → xL ty N n H0 H1 locs1 → W p l e R s m args below meth c H1 locs1 cells slots Q (F0 m (pc + 3) ls rest)) : W p l e R s m args below meth c H locs cells slots Q (F0 m pc ls (.ref (N + v) :: .ref (N + q) :: rest)) := g_putrF C0 hG hS (ci := 3) (k := 0) (M := 1) (T := TX3) rfl iX3 tyX3_ok nmX3 (by decide) rfl rfl rfl wf_X3_9 rfl hin2 hq ht hdg kk
end GN_X3_init
def sh_X3 : List (Nat × Nat) := [(0, 3), (1, 12)]
abbrev jnr_X3 : Room := { frames := 1, cells := 1, slots := 12, locals := 12 }
def nr_X3 (b : Nat) : List (Nat × Nat × Nat) := (b, 0, b + 1) :: []
def ni_X3 (b : Nat) : List (Nat × Nat × Int) := []
set_option maxHeartbeats 4000000 in
set_option maxRecDepth 100000 in
theorem jn_X3 {l : Launch} {D : xD} {ty : xTy} {N b : Nat} {tR tP : List (Nat × Nat × Nat)} {tI tA : List (Nat × Nat × Int)} (hT : ∀ (j : Nat) (t : Nat × Nat), sh_X3[j]? = some t → ty (N + (b + j)) = some t) : Met l yX3_init (xws yX3_init cX3_init 1 none) jnr_X3 (xPn D ty N (b + 1) tR tI tP tA [.ref (N + b)]) (xQn D ty N (b + 2) (nr_X3 b ++ tR) (ni_X3 b ++ tI) (tP) tA) 1 12 (xdom (tyN ty (N + (b + 2)))) := by
  refine g_met (by decide) rfl ?_
  intro p e s m below meth c C0 hnm hAO hG
  generalize hargs : ([.ref (N + b)] : List Value).toArray = args at C0 ⊢
  have hx := C0.1
  have hb := C0.2.1
  have hS : xL ty N (b + 1) s.heap s.heap [] := ⟨fun _ _ => rfl, fun _ h => absurd h List.not_mem_nil⟩
  have hl := lv_entry ([.ref (N + b)]) (n := 1) (Nat.le_of_ble_eq_true rfl)
  rw [← hargs, lg_entry_eq]
  rw [hargs]
  generalize (lg_sl ([.ref (N + b)]) ++ List.replicate (1 - (lg_sl ([.ref (N + b)])).length) Slot.unset).toArray = ls at hl ⊢
  have hl : lv_has ls 1 [(0, .ref (N + b))] := hl
  refine lv_aload_n hx hb dX3_init_0 rfl (lv_at hl 0 rfl) ?_
  refine g_obj C0 wj_X3_3 hl.1 (Nat.le_of_ble_eq_true rfl) (Nat.le_of_ble_eq_true rfl) dX3_init_1 ?_
  refine lv_aload_n hx hb dX3_init_4 rfl (lv_at hl 0 rfl) ?_
  refine lv_bipush (v := 12) hx hb dX3_init_5 (by decide) ?_
  refine g_newi (n1 := b + 2) (c1 := 1) (s1 := 12) C0 hG hS rfl rfl rfl (hT 1 _ rfl) (by decide) (by decide) (Nat.le_of_ble_eq_true rfl) (Nat.le_of_ble_eq_true rfl) (Nat.le_of_ble_eq_true rfl) dX3_init_7 (fun H hG hS => ?_)
  refine pn_X3_9 (q := b) (v := b + 1) C0 hG hS hnm (by omega) (hT 0 _ rfl) dX3_init_9 (fun H locs hG hS => ?_)
  have hG : xG D ty N (b + 2) (nr_X3 b ++ tR) (ni_X3 b ++ tI) (tP) tA H := hG
  exact g_vret C0 hG hS dX3_init_12
theorem dX8_init_0 : decode cX8_init 0 = .ok (.aload_n 0, 1) := by decide +kernel
theorem dX8_init_1 : decode cX8_init 1 = .ok (.invokespecial 3, 3) := by decide +kernel
theorem wj_X8_3 : Cond.methodLink RX8 3 Lib.objectInit ∈ xT := xin 229 (by decide +kernel) rfl
theorem dX8_init_4 : decode cX8_init 4 = .ok (.aload_n 0, 1) := by decide +kernel
theorem dX8_init_5 : decode cX8_init 5 = .ok (.sipush 701, 3) := by decide +kernel
theorem dX8_init_8 : decode cX8_init 8 = .ok (.newarray .int, 2) := by decide +kernel
theorem dX8_init_10 : decode cX8_init 10 = .ok (.putfield 9, 3) := by decide +kernel
theorem dX8_init_13 : decode cX8_init 13 = .ok (.aload_n 0, 1) := by decide +kernel
theorem dX8_init_14 : decode cX8_init 14 = .ok (.sipush 701, 3) := by decide +kernel
theorem dX8_init_17 : decode cX8_init 17 = .ok (.newarray .int, 2) := by decide +kernel
theorem dX8_init_19 : decode cX8_init 19 = .ok (.putfield 15, 3) := by decide +kernel
theorem dX8_init_22 : decode cX8_init 22 = .ok (.aload_n 0, 1) := by decide +kernel
theorem dX8_init_23 : decode cX8_init 23 = .ok (.sipush 701, 3) := by decide +kernel
theorem dX8_init_26 : decode cX8_init 26 = .ok (.newarray .int, 2) := by decide +kernel
theorem dX8_init_28 : decode cX8_init 28 = .ok (.putfield 18, 3) := by decide +kernel
theorem dX8_init_31 : decode cX8_init 31 = .ok (.aload_n 0, 1) := by decide +kernel
theorem dX8_init_32 : decode cX8_init 32 = .ok (.iconst 0, 1) := by decide +kernel
theorem dX8_init_33 : decode cX8_init 33 = .ok (.putfield 21, 3) := by decide +kernel
theorem dX8_init_36 : decode cX8_init 36 = .ok (.aload_n 0, 1) := by decide +kernel
theorem dX8_init_37 : decode cX8_init 37 = .ok (.iconst 0, 1) := by decide +kernel
theorem dX8_init_38 : decode cX8_init 38 = .ok (.putfield 25, 3) := by decide +kernel
theorem dX8_init_41 : decode cX8_init 41 = .ok (.aload_n 0, 1) := by decide +kernel
theorem dX8_init_42 : decode cX8_init 42 = .ok (.iconst 0, 1) := by decide +kernel
theorem dX8_init_43 : decode cX8_init 43 = .ok (.putfield 28, 3) := by decide +kernel
theorem dX8_init_46 : decode cX8_init 46 = .ok (.aload_n 0, 1) := by decide +kernel
theorem dX8_init_47 : decode cX8_init 47 = .ok (.iconst 0, 1) := by decide +kernel
theorem dX8_init_48 : decode cX8_init 48 = .ok (.putfield 31, 3) := by decide +kernel
theorem dX8_init_51 : decode cX8_init 51 = .ok (.aload_n 0, 1) := by decide +kernel
theorem dX8_init_52 : decode cX8_init 52 = .ok (.iconst 0, 1) := by decide +kernel
theorem dX8_init_53 : decode cX8_init 53 = .ok (.putfield 34, 3) := by decide +kernel
theorem dX8_init_56 : decode cX8_init 56 = .ok (.return_, 1) := by decide +kernel
theorem xm_X8_init : xMw yX8_init cX8_init 1 none 0 := ⟨xin 228 (by decide +kernel) rfl, xin 118 (by decide +kernel) rfl, by decide +kernel⟩
theorem xi_X8_init : Cond.instanceMethod yX8_init ∈ xT := xin 227 (by decide +kernel) rfl
section GN_X8_init
variable {p : Program} {l : Launch} {e : Env} {R : Room} {s : State} {m : MethodId} {args : Array Value} {below : List Frame} {meth : Method} {c : Code} {H H0 : Heap} {locs : List Loc} {cells slots : Nat} {Q : State → Prop} {cc : ByteArray} {nL pc : Nat} {rt : Option FieldType} {ls : Array Slot} {rest : List Value} {D : xD} {ty : xTy} {N n : Nat} {tR tP : List (Nat × Nat × Nat)} {tI tA : List (Nat × Nat × Int)}
theorem pn_X8_9 {q v : Nat} (C0 : xC D RX8 cc nL rt p s m args meth c) (hG : xG D ty N n tR tI tP tA H) (hS : xL ty N n H0 H locs) (hin2 : meth.name = "<init>") (hq : q < n) (ht : ty (N + q) = some (0, 8)) (hdg : decode cc pc = .ok (.putfield 9, 3)) (kk : ∀ (H1 : Heap) (locs1 : List Loc), xG D ty N n ((q, 0, v) :: tR) tI tP tA H1 → xL ty N n H0 H1 locs1 → W p l e R s m args below meth c H1 locs1 cells slots Q (F0 m (pc + 3) ls rest)) : W p l e R s m args below meth c H locs cells slots Q (F0 m pc ls (.ref (N + v) :: .ref (N + q) :: rest)) := g_putrF C0 hG hS (ci := 8) (k := 0) (M := 8) (T := TX8) rfl iX8 tyX8_ok nmX8 (by decide) rfl rfl rfl wf_X8_9 rfl hin2 hq ht hdg kk
theorem pn_X8_15 {q v : Nat} (C0 : xC D RX8 cc nL rt p s m args meth c) (hG : xG D ty N n tR tI tP tA H) (hS : xL ty N n H0 H locs) (hin2 : meth.name = "<init>") (hq : q < n) (ht : ty (N + q) = some (0, 8)) (hdg : decode cc pc = .ok (.putfield 15, 3)) (kk : ∀ (H1 : Heap) (locs1 : List Loc), xG D ty N n ((q, 1, v) :: tR) tI tP tA H1 → xL ty N n H0 H1 locs1 → W p l e R s m args below meth c H1 locs1 cells slots Q (F0 m (pc + 3) ls rest)) : W p l e R s m args below meth c H locs cells slots Q (F0 m pc ls (.ref (N + v) :: .ref (N + q) :: rest)) := g_putrF C0 hG hS (ci := 8) (k := 1) (M := 8) (T := TX8) rfl iX8 tyX8_ok nmX8 (by decide) rfl rfl rfl wf_X8_15 rfl hin2 hq ht hdg kk
theorem pn_X8_18 {q v : Nat} (C0 : xC D RX8 cc nL rt p s m args meth c) (hG : xG D ty N n tR tI tP tA H) (hS : xL ty N n H0 H locs) (hin2 : meth.name = "<init>") (hq : q < n) (ht : ty (N + q) = some (0, 8)) (hdg : decode cc pc = .ok (.putfield 18, 3)) (kk : ∀ (H1 : Heap) (locs1 : List Loc), xG D ty N n ((q, 2, v) :: tR) tI tP tA H1 → xL ty N n H0 H1 locs1 → W p l e R s m args below meth c H1 locs1 cells slots Q (F0 m (pc + 3) ls rest)) : W p l e R s m args below meth c H locs cells slots Q (F0 m pc ls (.ref (N + v) :: .ref (N + q) :: rest)) := g_putrF C0 hG hS (ci := 8) (k := 2) (M := 8) (T := TX8) rfl iX8 tyX8_ok nmX8 (by decide) rfl rfl rfl wf_X8_18 rfl hin2 hq ht hdg kk
theorem pn_X8_21 {q : Nat} {v : Int} {w : Int32} (C0 : xC D RX8 cc nL rt p s m args meth c) (hG : xG D ty N n tR tI tP tA H) (hS : xL ty N n H0 H locs) (hw : w = i32 v) (hq : q < n) (ht : ty (N + q) = some (0, 8)) (hdg : decode cc pc = .ok (.putfield 21, 3)) (kk : ∀ (H1 : Heap) (locs1 : List Loc), xG D ty N n tR ((q, 3, v) :: tI) tP tA H1 → xL ty N n H0 H1 locs1 → W p l e R s m args below meth c H1 locs1 cells slots Q (F0 m (pc + 3) ls rest)) : W p l e R s m args below meth c H locs cells slots Q (F0 m pc ls (.int w :: .ref (N + q) :: rest)) := g_puti C0 hG hS (ci := 8) (k := 3) (M := 8) (T := TX8) rfl iX8 tyX8_ok nmX8 (by decide) rfl rfl wf_X8_21 (Or.inl rfl) hw rfl rfl hq ht hdg kk
theorem pn_X8_25 {q : Nat} {v : Int} {w : Int32} (C0 : xC D RX8 cc nL rt p s m args meth c) (hG : xG D ty N n tR tI tP tA H) (hS : xL ty N n H0 H locs) (hw : w = i32 v) (hq : q < n) (ht : ty (N + q) = some (0, 8)) (hdg : decode cc pc = .ok (.putfield 25, 3)) (kk : ∀ (H1 : Heap) (locs1 : List Loc), xG D ty N n tR ((q, 4, v) :: tI) tP tA H1 → xL ty N n H0 H1 locs1 → W p l e R s m args below meth c H1 locs1 cells slots Q (F0 m (pc + 3) ls rest)) : W p l e R s m args below meth c H locs cells slots Q (F0 m pc ls (.int w :: .ref (N + q) :: rest)) := g_puti C0 hG hS (ci := 8) (k := 4) (M := 8) (T := TX8) rfl iX8 tyX8_ok nmX8 (by decide) rfl rfl wf_X8_25 (Or.inl rfl) hw rfl rfl hq ht hdg kk
theorem pn_X8_28 {q : Nat} {v : Int} {w : Int32} (C0 : xC D RX8 cc nL rt p s m args meth c) (hG : xG D ty N n tR tI tP tA H) (hS : xL ty N n H0 H locs) (hw : w = i32 v) (hq : q < n) (ht : ty (N + q) = some (0, 8)) (hdg : decode cc pc = .ok (.putfield 28, 3)) (kk : ∀ (H1 : Heap) (locs1 : List Loc), xG D ty N n tR ((q, 5, v) :: tI) tP tA H1 → xL ty N n H0 H1 locs1 → W p l e R s m args below meth c H1 locs1 cells slots Q (F0 m (pc + 3) ls rest)) : W p l e R s m args below meth c H locs cells slots Q (F0 m pc ls (.int w :: .ref (N + q) :: rest)) := g_puti C0 hG hS (ci := 8) (k := 5) (M := 8) (T := TX8) rfl iX8 tyX8_ok nmX8 (by decide) rfl rfl wf_X8_28 (Or.inl rfl) hw rfl rfl hq ht hdg kk
theorem pn_X8_31 {q : Nat} {v : Int} {w : Int32} (C0 : xC D RX8 cc nL rt p s m args meth c) (hG : xG D ty N n tR tI tP tA H) (hS : xL ty N n H0 H locs) (hw : w = i32 v) (hq : q < n) (ht : ty (N + q) = some (0, 8)) (hdg : decode cc pc = .ok (.putfield 31, 3)) (kk : ∀ (H1 : Heap) (locs1 : List Loc), xG D ty N n tR ((q, 6, v) :: tI) tP tA H1 → xL ty N n H0 H1 locs1 → W p l e R s m args below meth c H1 locs1 cells slots Q (F0 m (pc + 3) ls rest)) : W p l e R s m args below meth c H locs cells slots Q (F0 m pc ls (.int w :: .ref (N + q) :: rest)) := g_puti C0 hG hS (ci := 8) (k := 6) (M := 8) (T := TX8) rfl iX8 tyX8_ok nmX8 (by decide) rfl rfl wf_X8_31 (Or.inl rfl) hw rfl rfl hq ht hdg kk
theorem pn_X8_34 {q : Nat} {v : Int} {w : Int32} (C0 : xC D RX8 cc nL rt p s m args meth c) (hG : xG D ty N n tR tI tP tA H) (hS : xL ty N n H0 H locs) (hw : w = i32 v) (hq : q < n) (ht : ty (N + q) = some (0, 8)) (hdg : decode cc pc = .ok (.putfield 34, 3)) (kk : ∀ (H1 : Heap) (locs1 : List Loc), xG D ty N n tR ((q, 7, v) :: tI) tP tA H1 → xL ty N n H0 H1 locs1 → W p l e R s m args below meth c H1 locs1 cells slots Q (F0 m (pc + 3) ls rest)) : W p l e R s m args below meth c H locs cells slots Q (F0 m pc ls (.int w :: .ref (N + q) :: rest)) := g_puti C0 hG hS (ci := 8) (k := 7) (M := 8) (T := TX8) rfl iX8 tyX8_ok nmX8 (by decide) rfl rfl wf_X8_34 (Or.inl rfl) hw rfl rfl hq ht hdg kk
end GN_X8_init
def sh_X8 : List (Nat × Nat) := [(0, 8), (1, 701), (1, 701), (1, 701)]
abbrev jnr_X8 : Room := { frames := 1, cells := 3, slots := 2103, locals := 12 }
def nr_X8 (b : Nat) : List (Nat × Nat × Nat) := (b, 2, b + 3) :: (b, 1, b + 2) :: (b, 0, b + 1) :: []
def ni_X8 (b : Nat) : List (Nat × Nat × Int) := (b, 7, 0) :: (b, 6, 0) :: (b, 5, 0) :: (b, 4, 0) :: (b, 3, 0) :: []
set_option maxHeartbeats 4000000 in
set_option maxRecDepth 100000 in
theorem jn_X8 {l : Launch} {D : xD} {ty : xTy} {N b : Nat} {tR tP : List (Nat × Nat × Nat)} {tI tA : List (Nat × Nat × Int)} (hT : ∀ (j : Nat) (t : Nat × Nat), sh_X8[j]? = some t → ty (N + (b + j)) = some t) : Met l yX8_init (xws yX8_init cX8_init 1 none) jnr_X8 (xPn D ty N (b + 1) tR tI tP tA [.ref (N + b)]) (xQn D ty N (b + 4) (nr_X8 b ++ tR) (ni_X8 b ++ tI) (tP) tA) 3 2103 (xdom (tyN ty (N + (b + 4)))) := by
  refine g_met (by decide) rfl ?_
  intro p e s m below meth c C0 hnm hAO hG
  generalize hargs : ([.ref (N + b)] : List Value).toArray = args at C0 ⊢
  have hx := C0.1
  have hb := C0.2.1
  have hS : xL ty N (b + 1) s.heap s.heap [] := ⟨fun _ _ => rfl, fun _ h => absurd h List.not_mem_nil⟩
  have hl := lv_entry ([.ref (N + b)]) (n := 1) (Nat.le_of_ble_eq_true rfl)
  rw [← hargs, lg_entry_eq]
  rw [hargs]
  generalize (lg_sl ([.ref (N + b)]) ++ List.replicate (1 - (lg_sl ([.ref (N + b)])).length) Slot.unset).toArray = ls at hl ⊢
  have hl : lv_has ls 1 [(0, .ref (N + b))] := hl
  refine lv_aload_n hx hb dX8_init_0 rfl (lv_at hl 0 rfl) ?_
  refine g_obj C0 wj_X8_3 hl.1 (Nat.le_of_ble_eq_true rfl) (Nat.le_of_ble_eq_true rfl) dX8_init_1 ?_
  refine lv_aload_n hx hb dX8_init_4 rfl (lv_at hl 0 rfl) ?_
  refine lv_sipush (v := 701) hx hb dX8_init_5 (by decide) ?_
  refine g_newi (n1 := b + 2) (c1 := 1) (s1 := 701) C0 hG hS rfl rfl rfl (hT 1 _ rfl) (by decide) (by decide) (Nat.le_of_ble_eq_true rfl) (Nat.le_of_ble_eq_true rfl) (Nat.le_of_ble_eq_true rfl) dX8_init_8 (fun H hG hS => ?_)
  refine pn_X8_9 (q := b) (v := b + 1) C0 hG hS hnm (by omega) (hT 0 _ rfl) dX8_init_10 (fun H locs hG hS => ?_)
  refine lv_aload_n hx hb dX8_init_13 rfl (lv_at hl 0 rfl) ?_
  refine lv_sipush (v := 701) hx hb dX8_init_14 (by decide) ?_
  refine g_newi (n1 := b + 3) (c1 := 2) (s1 := 1402) C0 hG hS rfl rfl rfl (hT 2 _ rfl) (by decide) (by decide) (Nat.le_of_ble_eq_true rfl) (Nat.le_of_ble_eq_true rfl) (Nat.le_of_ble_eq_true rfl) dX8_init_17 (fun H hG hS => ?_)
  refine pn_X8_15 (q := b) (v := b + 2) C0 hG hS hnm (by omega) (hT 0 _ rfl) dX8_init_19 (fun H locs hG hS => ?_)
  refine lv_aload_n hx hb dX8_init_22 rfl (lv_at hl 0 rfl) ?_
  refine lv_sipush (v := 701) hx hb dX8_init_23 (by decide) ?_
  refine g_newi (n1 := b + 4) (c1 := 3) (s1 := 2103) C0 hG hS rfl rfl rfl (hT 3 _ rfl) (by decide) (by decide) (Nat.le_of_ble_eq_true rfl) (Nat.le_of_ble_eq_true rfl) (Nat.le_of_ble_eq_true rfl) dX8_init_26 (fun H hG hS => ?_)
  refine pn_X8_18 (q := b) (v := b + 3) C0 hG hS hnm (by omega) (hT 0 _ rfl) dX8_init_28 (fun H locs hG hS => ?_)
  refine lv_aload_n hx hb dX8_init_31 rfl (lv_at hl 0 rfl) ?_
  refine lv_iconst (v := 0) hx hb dX8_init_32 (by decide) ?_
  refine pn_X8_21 (q := b) (v := 0) C0 hG hS (by decide) (by omega) (hT 0 _ rfl) dX8_init_33 (fun H locs hG hS => ?_)
  refine lv_aload_n hx hb dX8_init_36 rfl (lv_at hl 0 rfl) ?_
  refine lv_iconst (v := 0) hx hb dX8_init_37 (by decide) ?_
  refine pn_X8_25 (q := b) (v := 0) C0 hG hS (by decide) (by omega) (hT 0 _ rfl) dX8_init_38 (fun H locs hG hS => ?_)
  refine lv_aload_n hx hb dX8_init_41 rfl (lv_at hl 0 rfl) ?_
  refine lv_iconst (v := 0) hx hb dX8_init_42 (by decide) ?_
  refine pn_X8_28 (q := b) (v := 0) C0 hG hS (by decide) (by omega) (hT 0 _ rfl) dX8_init_43 (fun H locs hG hS => ?_)
  refine lv_aload_n hx hb dX8_init_46 rfl (lv_at hl 0 rfl) ?_
  refine lv_iconst (v := 0) hx hb dX8_init_47 (by decide) ?_
  refine pn_X8_31 (q := b) (v := 0) C0 hG hS (by decide) (by omega) (hT 0 _ rfl) dX8_init_48 (fun H locs hG hS => ?_)
  refine lv_aload_n hx hb dX8_init_51 rfl (lv_at hl 0 rfl) ?_
  refine lv_iconst (v := 0) hx hb dX8_init_52 (by decide) ?_
  refine pn_X8_34 (q := b) (v := 0) C0 hG hS (by decide) (by omega) (hT 0 _ rfl) dX8_init_53 (fun H locs hG hS => ?_)
  have hG : xG D ty N (b + 4) (nr_X8 b ++ tR) (ni_X8 b ++ tI) (tP) tA H := hG
  exact g_vret C0 hG hS dX8_init_56
theorem dX1_init_0 : decode cX1_init 0 = .ok (.aload_n 0, 1) := by decide +kernel
theorem dX1_init_1 : decode cX1_init 1 = .ok (.invokespecial 3, 3) := by decide +kernel
theorem wj_X1_3 : Cond.methodLink RX1 3 Lib.objectInit ∈ xT := xin 453 (by decide +kernel) rfl
theorem dX1_init_4 : decode cX1_init 4 = .ok (.aload_n 0, 1) := by decide +kernel
theorem dX1_init_5 : decode cX1_init 5 = .ok (.iconst 0, 1) := by decide +kernel
theorem dX1_init_6 : decode cX1_init 6 = .ok (.putfield 9, 3) := by decide +kernel
theorem dX1_init_9 : decode cX1_init 9 = .ok (.return_, 1) := by decide +kernel
theorem xm_X1_init : xMw yX1_init cX1_init 1 none 0 := ⟨xin 452 (by decide +kernel) rfl, xin 125 (by decide +kernel) rfl, by decide +kernel⟩
theorem xi_X1_init : Cond.instanceMethod yX1_init ∈ xT := xin 451 (by decide +kernel) rfl
section GN_X1_init
variable {p : Program} {l : Launch} {e : Env} {R : Room} {s : State} {m : MethodId} {args : Array Value} {below : List Frame} {meth : Method} {c : Code} {H H0 : Heap} {locs : List Loc} {cells slots : Nat} {Q : State → Prop} {cc : ByteArray} {nL pc : Nat} {rt : Option FieldType} {ls : Array Slot} {rest : List Value} {D : xD} {ty : xTy} {N n : Nat} {tR tP : List (Nat × Nat × Nat)} {tI tA : List (Nat × Nat × Int)}
theorem pn_X1_9 {q : Nat} {v : Int} {w : Int32} (C0 : xC D RX1 cc nL rt p s m args meth c) (hG : xG D ty N n tR tI tP tA H) (hS : xL ty N n H0 H locs) (hw : w = i32 v) (hq : q < n) (ht : ty (N + q) = some (0, 1)) (hdg : decode cc pc = .ok (.putfield 9, 3)) (kk : ∀ (H1 : Heap) (locs1 : List Loc), xG D ty N n tR ((q, 0, v) :: tI) tP tA H1 → xL ty N n H0 H1 locs1 → W p l e R s m args below meth c H1 locs1 cells slots Q (F0 m (pc + 3) ls rest)) : W p l e R s m args below meth c H locs cells slots Q (F0 m pc ls (.int w :: .ref (N + q) :: rest)) := g_puti C0 hG hS (ci := 1) (k := 0) (M := 1) (T := TX1) rfl iX1 tyX1_ok nmX1 (by decide) rfl rfl wf_X1_9 (Or.inl rfl) hw rfl rfl hq ht hdg kk
end GN_X1_init
def sh_X1 : List (Nat × Nat) := [(0, 1)]
abbrev jnr_X1 : Room := { frames := 1, cells := 0, slots := 0, locals := 12 }
def nr_X1 (b : Nat) : List (Nat × Nat × Nat) := []
def ni_X1 (b : Nat) : List (Nat × Nat × Int) := (b, 0, 0) :: []
set_option maxHeartbeats 4000000 in
set_option maxRecDepth 100000 in
theorem jn_X1 {l : Launch} {D : xD} {ty : xTy} {N b : Nat} {tR tP : List (Nat × Nat × Nat)} {tI tA : List (Nat × Nat × Int)} (hT : ∀ (j : Nat) (t : Nat × Nat), sh_X1[j]? = some t → ty (N + (b + j)) = some t) : Met l yX1_init (xws yX1_init cX1_init 1 none) jnr_X1 (xPn D ty N (b + 1) tR tI tP tA [.ref (N + b)]) (xQn D ty N (b + 1) (nr_X1 b ++ tR) (ni_X1 b ++ tI) (tP) tA) 0 0 (xdom (tyN ty (N + (b + 1)))) := by
  refine g_met (by decide) rfl ?_
  intro p e s m below meth c C0 hnm hAO hG
  generalize hargs : ([.ref (N + b)] : List Value).toArray = args at C0 ⊢
  have hx := C0.1
  have hb := C0.2.1
  have hS : xL ty N (b + 1) s.heap s.heap [] := ⟨fun _ _ => rfl, fun _ h => absurd h List.not_mem_nil⟩
  have hl := lv_entry ([.ref (N + b)]) (n := 1) (Nat.le_of_ble_eq_true rfl)
  rw [← hargs, lg_entry_eq]
  rw [hargs]
  generalize (lg_sl ([.ref (N + b)]) ++ List.replicate (1 - (lg_sl ([.ref (N + b)])).length) Slot.unset).toArray = ls at hl ⊢
  have hl : lv_has ls 1 [(0, .ref (N + b))] := hl
  refine lv_aload_n hx hb dX1_init_0 rfl (lv_at hl 0 rfl) ?_
  refine g_obj C0 wj_X1_3 hl.1 (Nat.le_of_ble_eq_true rfl) (Nat.le_of_ble_eq_true rfl) dX1_init_1 ?_
  refine lv_aload_n hx hb dX1_init_4 rfl (lv_at hl 0 rfl) ?_
  refine lv_iconst (v := 0) hx hb dX1_init_5 (by decide) ?_
  refine pn_X1_9 (q := b) (v := 0) C0 hG hS (by decide) (by omega) (hT 0 _ rfl) dX1_init_6 (fun H locs hG hS => ?_)
  have hG : xG D ty N (b + 1) (nr_X1 b ++ tR) (ni_X1 b ++ tI) (tP) tA H := hG
  exact g_vret C0 hG hS dX1_init_9
theorem dX2_init_0 : decode cX2_init 0 = .ok (.aload_n 0, 1) := by decide +kernel
theorem dX2_init_1 : decode cX2_init 1 = .ok (.invokespecial 3, 3) := by decide +kernel
theorem wj_X2_3 : Cond.methodLink RX2 3 Lib.objectInit ∈ xT := xin 403 (by decide +kernel) rfl
theorem dX2_init_4 : decode cX2_init 4 = .ok (.aload_n 0, 1) := by decide +kernel
theorem dX2_init_5 : decode cX2_init 5 = .ok (.bipush 12, 2) := by decide +kernel
theorem dX2_init_7 : decode cX2_init 7 = .ok (.newarray .int, 2) := by decide +kernel
theorem dX2_init_9 : decode cX2_init 9 = .ok (.putfield 9, 3) := by decide +kernel
theorem dX2_init_12 : decode cX2_init 12 = .ok (.aload_n 0, 1) := by decide +kernel
theorem dX2_init_13 : decode cX2_init 13 = .ok (.bipush 12, 2) := by decide +kernel
theorem dX2_init_15 : decode cX2_init 15 = .ok (.newarray .int, 2) := by decide +kernel
theorem dX2_init_17 : decode cX2_init 17 = .ok (.putfield 15, 3) := by decide +kernel
theorem dX2_init_20 : decode cX2_init 20 = .ok (.aload_n 0, 1) := by decide +kernel
theorem dX2_init_21 : decode cX2_init 21 = .ok (.new 18, 3) := by decide +kernel
theorem wc_X2_18 : Cond.classLink RX2 18 RX7 ∈ xT := xin 404 (by decide +kernel) rfl
theorem wn_X7 : Cond.instantiable RX7 3 ∈ xT := xin 150 (by decide +kernel) rfl
theorem wi_X7 : Cond.initialized RX7 ∈ xT := xin 116 (by decide +kernel) rfl
theorem df_X7 : ∀ k, k < 3 → ∀ (h : xH) (q : Nat), xI h q k = 0 → xR h q k = none → xJ h q k = 0 → defaultValue (xty 7 k) = xval (xty 7 k) h q k := df_of (by decide)
theorem dX2_init_24 : decode cX2_init 24 = .ok (.dup, 1) := by decide +kernel
theorem dX2_init_25 : decode cX2_init 25 = .ok (.bipush 12, 2) := by decide +kernel
theorem dX2_init_27 : decode cX2_init 27 = .ok (.invokespecial 20, 3) := by decide +kernel
theorem wl_X2_20 : Cond.methodLink RX2 20 yX7_init ∈ xT := xin 405 (by decide +kernel) rfl
theorem dX2_init_30 : decode cX2_init 30 = .ok (.putfield 23, 3) := by decide +kernel
theorem dX2_init_33 : decode cX2_init 33 = .ok (.aload_n 0, 1) := by decide +kernel
theorem dX2_init_34 : decode cX2_init 34 = .ok (.iconst 0, 1) := by decide +kernel
theorem dX2_init_35 : decode cX2_init 35 = .ok (.putfield 27, 3) := by decide +kernel
theorem dX2_init_38 : decode cX2_init 38 = .ok (.return_, 1) := by decide +kernel
theorem xm_X2_init : xMw yX2_init cX2_init 1 none 0 := ⟨xin 402 (by decide +kernel) rfl, xin 123 (by decide +kernel) rfl, by decide +kernel⟩
theorem xi_X2_init : Cond.instanceMethod yX2_init ∈ xT := xin 401 (by decide +kernel) rfl
section GN_X2_init
variable {p : Program} {l : Launch} {e : Env} {R : Room} {s : State} {m : MethodId} {args : Array Value} {below : List Frame} {meth : Method} {c : Code} {H H0 : Heap} {locs : List Loc} {cells slots : Nat} {Q : State → Prop} {cc : ByteArray} {nL pc : Nat} {rt : Option FieldType} {ls : Array Slot} {rest : List Value} {D : xD} {ty : xTy} {N n : Nat} {tR tP : List (Nat × Nat × Nat)} {tI tA : List (Nat × Nat × Int)}
theorem pn_X2_9 {q v : Nat} (C0 : xC D RX2 cc nL rt p s m args meth c) (hG : xG D ty N n tR tI tP tA H) (hS : xL ty N n H0 H locs) (hin2 : meth.name = "<init>") (hq : q < n) (ht : ty (N + q) = some (0, 2)) (hdg : decode cc pc = .ok (.putfield 9, 3)) (kk : ∀ (H1 : Heap) (locs1 : List Loc), xG D ty N n ((q, 0, v) :: tR) tI tP tA H1 → xL ty N n H0 H1 locs1 → W p l e R s m args below meth c H1 locs1 cells slots Q (F0 m (pc + 3) ls rest)) : W p l e R s m args below meth c H locs cells slots Q (F0 m pc ls (.ref (N + v) :: .ref (N + q) :: rest)) := g_putrF C0 hG hS (ci := 2) (k := 0) (M := 4) (T := TX2) rfl iX2 tyX2_ok nmX2 (by decide) rfl rfl rfl wf_X2_9 rfl hin2 hq ht hdg kk
theorem pn_X2_15 {q v : Nat} (C0 : xC D RX2 cc nL rt p s m args meth c) (hG : xG D ty N n tR tI tP tA H) (hS : xL ty N n H0 H locs) (hin2 : meth.name = "<init>") (hq : q < n) (ht : ty (N + q) = some (0, 2)) (hdg : decode cc pc = .ok (.putfield 15, 3)) (kk : ∀ (H1 : Heap) (locs1 : List Loc), xG D ty N n ((q, 1, v) :: tR) tI tP tA H1 → xL ty N n H0 H1 locs1 → W p l e R s m args below meth c H1 locs1 cells slots Q (F0 m (pc + 3) ls rest)) : W p l e R s m args below meth c H locs cells slots Q (F0 m pc ls (.ref (N + v) :: .ref (N + q) :: rest)) := g_putrF C0 hG hS (ci := 2) (k := 1) (M := 4) (T := TX2) rfl iX2 tyX2_ok nmX2 (by decide) rfl rfl rfl wf_X2_15 rfl hin2 hq ht hdg kk
theorem pn_X2_23 {q v : Nat} (C0 : xC D RX2 cc nL rt p s m args meth c) (hG : xG D ty N n tR tI tP tA H) (hS : xL ty N n H0 H locs) (hin2 : meth.name = "<init>") (hq : q < n) (ht : ty (N + q) = some (0, 2)) (hdg : decode cc pc = .ok (.putfield 23, 3)) (kk : ∀ (H1 : Heap) (locs1 : List Loc), xG D ty N n ((q, 2, v) :: tR) tI tP tA H1 → xL ty N n H0 H1 locs1 → W p l e R s m args below meth c H1 locs1 cells slots Q (F0 m (pc + 3) ls rest)) : W p l e R s m args below meth c H locs cells slots Q (F0 m pc ls (.ref (N + v) :: .ref (N + q) :: rest)) := g_putrF C0 hG hS (ci := 2) (k := 2) (M := 4) (T := TX2) rfl iX2 tyX2_ok nmX2 (by decide) rfl rfl rfl wf_X2_23 rfl hin2 hq ht hdg kk
theorem pn_X2_27 {q : Nat} {v : Int} {w : Int32} (C0 : xC D RX2 cc nL rt p s m args meth c) (hG : xG D ty N n tR tI tP tA H) (hS : xL ty N n H0 H locs) (hw : w = i32 v) (hq : q < n) (ht : ty (N + q) = some (0, 2)) (hdg : decode cc pc = .ok (.putfield 27, 3)) (kk : ∀ (H1 : Heap) (locs1 : List Loc), xG D ty N n tR ((q, 3, v) :: tI) tP tA H1 → xL ty N n H0 H1 locs1 → W p l e R s m args below meth c H1 locs1 cells slots Q (F0 m (pc + 3) ls rest)) : W p l e R s m args below meth c H locs cells slots Q (F0 m pc ls (.int w :: .ref (N + q) :: rest)) := g_puti C0 hG hS (ci := 2) (k := 3) (M := 4) (T := TX2) rfl iX2 tyX2_ok nmX2 (by decide) rfl rfl wf_X2_27 (Or.inl rfl) hw rfl rfl hq ht hdg kk
end GN_X2_init
def sh_X2 : List (Nat × Nat) := [(0, 2), (1, 12), (1, 12), (0, 7), (1, 12), (1, 12)]
abbrev jnr_X2 : Room := { frames := 2, cells := 5, slots := 51, locals := 33 }
def nr_X2 (b : Nat) : List (Nat × Nat × Nat) := (b, 2, b + 3) :: (b + 3, 1, b + 5) :: (b + 3, 0, b + 4) :: (b, 1, b + 2) :: (b, 0, b + 1) :: []
def ni_X2 (b : Nat) : List (Nat × Nat × Int) := (b, 3, 0) :: (b + 3, 2, 0) :: []
set_option maxHeartbeats 4000000 in
set_option maxRecDepth 100000 in
theorem jn_X2 {l : Launch} {D : xD} {ty : xTy} {N b : Nat} {tR tP : List (Nat × Nat × Nat)} {tI tA : List (Nat × Nat × Int)} (hT : ∀ (j : Nat) (t : Nat × Nat), sh_X2[j]? = some t → ty (N + (b + j)) = some t) : Met l yX2_init (xws yX2_init cX2_init 1 none) jnr_X2 (xPn D ty N (b + 1) tR tI tP tA [.ref (N + b)]) (xQn D ty N (b + 6) (nr_X2 b ++ tR) (ni_X2 b ++ tI) (tP) tA) 5 51 (xdom (tyN ty (N + (b + 6)))) := by
  refine g_met (by decide) rfl ?_
  intro p e s m below meth c C0 hnm hAO hG
  generalize hargs : ([.ref (N + b)] : List Value).toArray = args at C0 ⊢
  have hx := C0.1
  have hb := C0.2.1
  have hS : xL ty N (b + 1) s.heap s.heap [] := ⟨fun _ _ => rfl, fun _ h => absurd h List.not_mem_nil⟩
  have hl := lv_entry ([.ref (N + b)]) (n := 1) (Nat.le_of_ble_eq_true rfl)
  rw [← hargs, lg_entry_eq]
  rw [hargs]
  generalize (lg_sl ([.ref (N + b)]) ++ List.replicate (1 - (lg_sl ([.ref (N + b)])).length) Slot.unset).toArray = ls at hl ⊢
  have hl : lv_has ls 1 [(0, .ref (N + b))] := hl
  refine lv_aload_n hx hb dX2_init_0 rfl (lv_at hl 0 rfl) ?_
  refine g_obj C0 wj_X2_3 hl.1 (Nat.le_of_ble_eq_true rfl) (Nat.le_of_ble_eq_true rfl) dX2_init_1 ?_
  refine lv_aload_n hx hb dX2_init_4 rfl (lv_at hl 0 rfl) ?_
  refine lv_bipush (v := 12) hx hb dX2_init_5 (by decide) ?_
  refine g_newi (n1 := b + 2) (c1 := 1) (s1 := 12) C0 hG hS rfl rfl rfl (hT 1 _ rfl) (by decide) (by decide) (Nat.le_of_ble_eq_true rfl) (Nat.le_of_ble_eq_true rfl) (Nat.le_of_ble_eq_true rfl) dX2_init_7 (fun H hG hS => ?_)
  refine pn_X2_9 (q := b) (v := b + 1) C0 hG hS hnm (by omega) (hT 0 _ rfl) dX2_init_9 (fun H locs hG hS => ?_)
  refine lv_aload_n hx hb dX2_init_12 rfl (lv_at hl 0 rfl) ?_
  refine lv_bipush (v := 12) hx hb dX2_init_13 (by decide) ?_
  refine g_newi (n1 := b + 3) (c1 := 2) (s1 := 24) C0 hG hS rfl rfl rfl (hT 2 _ rfl) (by decide) (by decide) (Nat.le_of_ble_eq_true rfl) (Nat.le_of_ble_eq_true rfl) (Nat.le_of_ble_eq_true rfl) dX2_init_15 (fun H hG hS => ?_)
  refine pn_X2_15 (q := b) (v := b + 2) C0 hG hS hnm (by omega) (hT 0 _ rfl) dX2_init_17 (fun H locs hG hS => ?_)
  refine lv_aload_n hx hb dX2_init_20 rfl (lv_at hl 0 rfl) ?_
  refine g_newo (ci := 7) (M := 3) (T := TX7) (n1 := b + 4) (c1 := 3) (s1 := 27) C0 hG hS rfl rfl rfl (hT 3 _ rfl) rfl iX7 tyX7_ok wc_X2_18 wn_X7 wi_X7 df_X7 (Nat.le_of_ble_eq_true rfl) (Nat.le_of_ble_eq_true rfl) dX2_init_21 (fun H hG hS => ?_)
  refine lv_dup hx hb dX2_init_24 rfl ?_
  refine lv_bipush (v := 12) hx hb dX2_init_25 (by decide) ?_
  refine g_ctor (n2 := b + 6) (c2 := 5) (s2 := 51) (As := [.int 12]) (rest := [.ref (N + (b + 3)), .ref (N + (b))]) C0 hAO (jn_X7 (b := b + 3) (k := 12) (v := 12) (by decide) (by decide) (Nat.le_of_ble_eq_true rfl) (sub_ty (d := 3) (L2 := sh_X7 12) hT (by decide +kernel))) xm_X7_init xi_X7_init rfl wl_X2_20 ⟨rfl, rfl, (Nat.le_of_ble_eq_true rfl), (Nat.le_of_ble_eq_true rfl)⟩ hG hS (by omega) rfl rfl rfl hl.1 rfl (Nat.le_of_ble_eq_true rfl) ⟨(Nat.le_of_ble_eq_true rfl), (Nat.le_of_ble_eq_true rfl)⟩ dX2_init_27 (fun H locs hG hS => ?_)
  refine pn_X2_23 (q := b) (v := b + 3) C0 hG hS hnm (by omega) (hT 0 _ rfl) dX2_init_30 (fun H locs hG hS => ?_)
  refine lv_aload_n hx hb dX2_init_33 rfl (lv_at hl 0 rfl) ?_
  refine lv_iconst (v := 0) hx hb dX2_init_34 (by decide) ?_
  refine pn_X2_27 (q := b) (v := 0) C0 hG hS (by decide) (by omega) (hT 0 _ rfl) dX2_init_35 (fun H locs hG hS => ?_)
  have hG : xG D ty N (b + 6) (nr_X2 b ++ tR) (ni_X2 b ++ tI) (tP) tA H := hG
  exact g_vret C0 hG hS dX2_init_38
theorem dX4_init_0 : decode cX4_init 0 = .ok (.aload_n 0, 1) := by decide +kernel
theorem dX4_init_1 : decode cX4_init 1 = .ok (.invokespecial 3, 3) := by decide +kernel
theorem wj_X4_3 : Cond.methodLink RX4 3 Lib.objectInit ∈ xT := xin 223 (by decide +kernel) rfl
theorem dX4_init_4 : decode cX4_init 4 = .ok (.aload_n 0, 1) := by decide +kernel
theorem dX4_init_5 : decode cX4_init 5 = .ok (.new 9, 3) := by decide +kernel
theorem wc_X4_9 : Cond.classLink RX4 9 RX8 ∈ xT := xin 224 (by decide +kernel) rfl
theorem wn_X8 : Cond.instantiable RX8 8 ∈ xT := xin 225 (by decide +kernel) rfl
theorem wi_X8 : Cond.initialized RX8 ∈ xT := xin 118 (by decide +kernel) rfl
theorem df_X8 : ∀ k, k < 8 → ∀ (h : xH) (q : Nat), xI h q k = 0 → xR h q k = none → xJ h q k = 0 → defaultValue (xty 8 k) = xval (xty 8 k) h q k := df_of (by decide)
theorem dX4_init_8 : decode cX4_init 8 = .ok (.dup, 1) := by decide +kernel
theorem dX4_init_9 : decode cX4_init 9 = .ok (.invokespecial 11, 3) := by decide +kernel
theorem wl_X4_11 : Cond.methodLinkNest RX4 11 yX8_init "TermShelf" ∈ xNest := xinN 226 (by decide +kernel) rfl
theorem dX4_init_12 : decode cX4_init 12 = .ok (.putfield 12, 3) := by decide +kernel
theorem dX4_init_15 : decode cX4_init 15 = .ok (.aload_n 0, 1) := by decide +kernel
theorem dX4_init_16 : decode cX4_init 16 = .ok (.bipush 12, 2) := by decide +kernel
theorem dX4_init_18 : decode cX4_init 18 = .ok (.newarray .int, 2) := by decide +kernel
theorem dX4_init_20 : decode cX4_init 20 = .ok (.putfield 18, 3) := by decide +kernel
theorem dX4_init_23 : decode cX4_init 23 = .ok (.aload_n 0, 1) := by decide +kernel
theorem dX4_init_24 : decode cX4_init 24 = .ok (.iconst 0, 1) := by decide +kernel
theorem dX4_init_25 : decode cX4_init 25 = .ok (.putfield 22, 3) := by decide +kernel
theorem dX4_init_28 : decode cX4_init 28 = .ok (.aload_n 0, 1) := by decide +kernel
theorem dX4_init_29 : decode cX4_init 29 = .ok (.iconst 0, 1) := by decide +kernel
theorem dX4_init_30 : decode cX4_init 30 = .ok (.putfield 26, 3) := by decide +kernel
theorem dX4_init_33 : decode cX4_init 33 = .ok (.aload_n 0, 1) := by decide +kernel
theorem dX4_init_34 : decode cX4_init 34 = .ok (.iconst (-1), 1) := by decide +kernel
theorem dX4_init_35 : decode cX4_init 35 = .ok (.putfield 29, 3) := by decide +kernel
theorem dX4_init_38 : decode cX4_init 38 = .ok (.return_, 1) := by decide +kernel
theorem xm_X4_init : xMw yX4_init cX4_init 1 none 0 := ⟨xin 222 (by decide +kernel) rfl, xin 117 (by decide +kernel) rfl, by decide +kernel⟩
theorem xi_X4_init : Cond.instanceMethod yX4_init ∈ xT := xin 221 (by decide +kernel) rfl
section GN_X4_init
variable {p : Program} {l : Launch} {e : Env} {R : Room} {s : State} {m : MethodId} {args : Array Value} {below : List Frame} {meth : Method} {c : Code} {H H0 : Heap} {locs : List Loc} {cells slots : Nat} {Q : State → Prop} {cc : ByteArray} {nL pc : Nat} {rt : Option FieldType} {ls : Array Slot} {rest : List Value} {D : xD} {ty : xTy} {N n : Nat} {tR tP : List (Nat × Nat × Nat)} {tI tA : List (Nat × Nat × Int)}
theorem pn_X4_12 {q v : Nat} (C0 : xC D RX4 cc nL rt p s m args meth c) (hG : xG D ty N n tR tI tP tA H) (hS : xL ty N n H0 H locs) (hin2 : meth.name = "<init>") (hq : q < n) (ht : ty (N + q) = some (0, 4)) (hdg : decode cc pc = .ok (.putfield 12, 3)) (kk : ∀ (H1 : Heap) (locs1 : List Loc), xG D ty N n ((q, 0, v) :: tR) tI tP tA H1 → xL ty N n H0 H1 locs1 → W p l e R s m args below meth c H1 locs1 cells slots Q (F0 m (pc + 3) ls rest)) : W p l e R s m args below meth c H locs cells slots Q (F0 m pc ls (.ref (N + v) :: .ref (N + q) :: rest)) := g_putrF C0 hG hS (ci := 4) (k := 0) (M := 5) (T := TX4) rfl iX4 tyX4_ok nmX4 (by decide) rfl rfl rfl wf_X4_12 rfl hin2 hq ht hdg kk
theorem pn_X4_18 {q v : Nat} (C0 : xC D RX4 cc nL rt p s m args meth c) (hG : xG D ty N n tR tI tP tA H) (hS : xL ty N n H0 H locs) (hin2 : meth.name = "<init>") (hq : q < n) (ht : ty (N + q) = some (0, 4)) (hdg : decode cc pc = .ok (.putfield 18, 3)) (kk : ∀ (H1 : Heap) (locs1 : List Loc), xG D ty N n ((q, 1, v) :: tR) tI tP tA H1 → xL ty N n H0 H1 locs1 → W p l e R s m args below meth c H1 locs1 cells slots Q (F0 m (pc + 3) ls rest)) : W p l e R s m args below meth c H locs cells slots Q (F0 m pc ls (.ref (N + v) :: .ref (N + q) :: rest)) := g_putrF C0 hG hS (ci := 4) (k := 1) (M := 5) (T := TX4) rfl iX4 tyX4_ok nmX4 (by decide) rfl rfl rfl wf_X4_18 rfl hin2 hq ht hdg kk
theorem pn_X4_22 {q : Nat} {v : Int} {w : Int32} (C0 : xC D RX4 cc nL rt p s m args meth c) (hG : xG D ty N n tR tI tP tA H) (hS : xL ty N n H0 H locs) (hw : w = i32 v) (hq : q < n) (ht : ty (N + q) = some (0, 4)) (hdg : decode cc pc = .ok (.putfield 22, 3)) (kk : ∀ (H1 : Heap) (locs1 : List Loc), xG D ty N n tR ((q, 2, v) :: tI) tP tA H1 → xL ty N n H0 H1 locs1 → W p l e R s m args below meth c H1 locs1 cells slots Q (F0 m (pc + 3) ls rest)) : W p l e R s m args below meth c H locs cells slots Q (F0 m pc ls (.int w :: .ref (N + q) :: rest)) := g_puti C0 hG hS (ci := 4) (k := 2) (M := 5) (T := TX4) rfl iX4 tyX4_ok nmX4 (by decide) rfl rfl wf_X4_22 (Or.inl rfl) hw rfl rfl hq ht hdg kk
theorem pn_X4_26 {q : Nat} {v : Int} {w : Int32} (C0 : xC D RX4 cc nL rt p s m args meth c) (hG : xG D ty N n tR tI tP tA H) (hS : xL ty N n H0 H locs) (hw : w = i32 v) (hq : q < n) (ht : ty (N + q) = some (0, 4)) (hdg : decode cc pc = .ok (.putfield 26, 3)) (kk : ∀ (H1 : Heap) (locs1 : List Loc), xG D ty N n tR ((q, 3, v) :: tI) tP tA H1 → xL ty N n H0 H1 locs1 → W p l e R s m args below meth c H1 locs1 cells slots Q (F0 m (pc + 3) ls rest)) : W p l e R s m args below meth c H locs cells slots Q (F0 m pc ls (.int w :: .ref (N + q) :: rest)) := g_puti C0 hG hS (ci := 4) (k := 3) (M := 5) (T := TX4) rfl iX4 tyX4_ok nmX4 (by decide) rfl rfl wf_X4_26 (Or.inl rfl) hw rfl rfl hq ht hdg kk
theorem pn_X4_29 {q : Nat} {v : Int} {w : Int32} (C0 : xC D RX4 cc nL rt p s m args meth c) (hG : xG D ty N n tR tI tP tA H) (hS : xL ty N n H0 H locs) (hw : w = i32 v) (hq : q < n) (ht : ty (N + q) = some (0, 4)) (hdg : decode cc pc = .ok (.putfield 29, 3)) (kk : ∀ (H1 : Heap) (locs1 : List Loc), xG D ty N n tR ((q, 4, v) :: tI) tP tA H1 → xL ty N n H0 H1 locs1 → W p l e R s m args below meth c H1 locs1 cells slots Q (F0 m (pc + 3) ls rest)) : W p l e R s m args below meth c H locs cells slots Q (F0 m pc ls (.int w :: .ref (N + q) :: rest)) := g_puti C0 hG hS (ci := 4) (k := 4) (M := 5) (T := TX4) rfl iX4 tyX4_ok nmX4 (by decide) rfl rfl wf_X4_29 (Or.inl rfl) hw rfl rfl hq ht hdg kk
end GN_X4_init
def sh_X4 : List (Nat × Nat) := [(0, 4), (0, 8), (1, 701), (1, 701), (1, 701), (1, 12)]
abbrev jnr_X4 : Room := { frames := 2, cells := 5, slots := 2123, locals := 32 }
def nr_X4 (b : Nat) : List (Nat × Nat × Nat) := (b, 1, b + 5) :: ((b, 0, b + 1) :: (nr_X8 (b + 1) ++ ([])))
def ni_X4 (b : Nat) : List (Nat × Nat × Int) := (b, 4, (-1)) :: ((b, 3, 0) :: ((b, 2, 0) :: (ni_X8 (b + 1) ++ ([]))))
set_option maxHeartbeats 4000000 in
set_option maxRecDepth 100000 in
theorem jn_X4 {l : Launch} {D : xD} {ty : xTy} {N b : Nat} {tR tP : List (Nat × Nat × Nat)} {tI tA : List (Nat × Nat × Int)} (hT : ∀ (j : Nat) (t : Nat × Nat), sh_X4[j]? = some t → ty (N + (b + j)) = some t) : Met l yX4_init (xws yX4_init cX4_init 1 none) jnr_X4 (xPn D ty N (b + 1) tR tI tP tA [.ref (N + b)]) (xQn D ty N (b + 6) (nr_X4 b ++ tR) (ni_X4 b ++ tI) (tP) tA) 5 2123 (xdom (tyN ty (N + (b + 6)))) := by
  refine g_met (by decide) rfl ?_
  intro p e s m below meth c C0 hnm hAO hG
  generalize hargs : ([.ref (N + b)] : List Value).toArray = args at C0 ⊢
  have hx := C0.1
  have hb := C0.2.1
  have hS : xL ty N (b + 1) s.heap s.heap [] := ⟨fun _ _ => rfl, fun _ h => absurd h List.not_mem_nil⟩
  have hl := lv_entry ([.ref (N + b)]) (n := 1) (Nat.le_of_ble_eq_true rfl)
  rw [← hargs, lg_entry_eq]
  rw [hargs]
  generalize (lg_sl ([.ref (N + b)]) ++ List.replicate (1 - (lg_sl ([.ref (N + b)])).length) Slot.unset).toArray = ls at hl ⊢
  have hl : lv_has ls 1 [(0, .ref (N + b))] := hl
  refine lv_aload_n hx hb dX4_init_0 rfl (lv_at hl 0 rfl) ?_
  refine g_obj C0 wj_X4_3 hl.1 (Nat.le_of_ble_eq_true rfl) (Nat.le_of_ble_eq_true rfl) dX4_init_1 ?_
  refine lv_aload_n hx hb dX4_init_4 rfl (lv_at hl 0 rfl) ?_
  refine g_newo (ci := 8) (M := 8) (T := TX8) (n1 := b + 2) (c1 := 1) (s1 := 8) C0 hG hS rfl rfl rfl (hT 1 _ rfl) rfl iX8 tyX8_ok wc_X4_9 wn_X8 wi_X8 df_X8 (Nat.le_of_ble_eq_true rfl) (Nat.le_of_ble_eq_true rfl) dX4_init_5 (fun H hG hS => ?_)
  refine lv_dup hx hb dX4_init_8 rfl ?_
  refine g_ctorN (n2 := b + 5) (c2 := 4) (s2 := 2111) (As := []) (rest := [.ref (N + (b + 1)), .ref (N + (b))]) C0 hAO (jn_X8 (b := b + 1) (sub_ty (d := 1) (L2 := sh_X8) hT (by decide +kernel))) xm_X8_init xi_X8_init rfl wl_X4_11 ⟨rfl, rfl, (Nat.le_of_ble_eq_true rfl), (Nat.le_of_ble_eq_true rfl)⟩ hG hS (by omega) rfl rfl rfl hl.1 rfl (Nat.le_of_ble_eq_true rfl) ⟨(Nat.le_of_ble_eq_true rfl), (Nat.le_of_ble_eq_true rfl)⟩ dX4_init_9 (fun H locs hG hS => ?_)
  refine pn_X4_12 (q := b) (v := b + 1) C0 hG hS hnm (by omega) (hT 0 _ rfl) dX4_init_12 (fun H locs hG hS => ?_)
  refine lv_aload_n hx hb dX4_init_15 rfl (lv_at hl 0 rfl) ?_
  refine lv_bipush (v := 12) hx hb dX4_init_16 (by decide) ?_
  refine g_newi (n1 := b + 6) (c1 := 5) (s1 := 2123) C0 hG hS rfl rfl rfl (hT 5 _ rfl) (by decide) (by decide) (Nat.le_of_ble_eq_true rfl) (Nat.le_of_ble_eq_true rfl) (Nat.le_of_ble_eq_true rfl) dX4_init_18 (fun H hG hS => ?_)
  refine pn_X4_18 (q := b) (v := b + 5) C0 hG hS hnm (by omega) (hT 0 _ rfl) dX4_init_20 (fun H locs hG hS => ?_)
  refine lv_aload_n hx hb dX4_init_23 rfl (lv_at hl 0 rfl) ?_
  refine lv_iconst (v := 0) hx hb dX4_init_24 (by decide) ?_
  refine pn_X4_22 (q := b) (v := 0) C0 hG hS (by decide) (by omega) (hT 0 _ rfl) dX4_init_25 (fun H locs hG hS => ?_)
  refine lv_aload_n hx hb dX4_init_28 rfl (lv_at hl 0 rfl) ?_
  refine lv_iconst (v := 0) hx hb dX4_init_29 (by decide) ?_
  refine pn_X4_26 (q := b) (v := 0) C0 hG hS (by decide) (by omega) (hT 0 _ rfl) dX4_init_30 (fun H locs hG hS => ?_)
  refine lv_aload_n hx hb dX4_init_33 rfl (lv_at hl 0 rfl) ?_
  refine lv_iconst (v := (-1)) hx hb dX4_init_34 (by decide) ?_
  refine pn_X4_29 (q := b) (v := (-1)) C0 hG hS (by decide) (by omega) (hT 0 _ rfl) dX4_init_35 (fun H locs hG hS => ?_)
  have hG : xG D ty N (b + 6) (nr_X4 b ++ tR) (ni_X4 b ++ tI) (tP) tA H := hG
  exact g_vret C0 hG hS dX4_init_38
theorem dX5_init_0 : decode cX5_init 0 = .ok (.aload_n 0, 1) := by decide +kernel
theorem dX5_init_1 : decode cX5_init 1 = .ok (.invokespecial 3, 3) := by decide +kernel
theorem wj_X5_3 : Cond.methodLink RX5 3 Lib.objectInit ∈ xT := xin 424 (by decide +kernel) rfl
theorem dX5_init_4 : decode cX5_init 4 = .ok (.aload_n 0, 1) := by decide +kernel
theorem dX5_init_5 : decode cX5_init 5 = .ok (.new 9, 3) := by decide +kernel
theorem wc_X5_9 : Cond.classLink RX5 9 RX3 ∈ xT := xin 425 (by decide +kernel) rfl
theorem wn_X3 : Cond.instantiable RX3 1 ∈ xT := xin 334 (by decide +kernel) rfl
theorem wi_X3 : Cond.initialized RX3 ∈ xT := xin 121 (by decide +kernel) rfl
theorem df_X3 : ∀ k, k < 1 → ∀ (h : xH) (q : Nat), xI h q k = 0 → xR h q k = none → xJ h q k = 0 → defaultValue (xty 3 k) = xval (xty 3 k) h q k := df_of (by decide)
theorem dX5_init_8 : decode cX5_init 8 = .ok (.dup, 1) := by decide +kernel
theorem dX5_init_9 : decode cX5_init 9 = .ok (.invokespecial 11, 3) := by decide +kernel
theorem wl_X5_11 : Cond.methodLinkNest RX5 11 yX3_init "TermShelf" ∈ xNest := xinN 426 (by decide +kernel) rfl
theorem dX5_init_12 : decode cX5_init 12 = .ok (.putfield 12, 3) := by decide +kernel
theorem dX5_init_15 : decode cX5_init 15 = .ok (.aload_n 0, 1) := by decide +kernel
theorem dX5_init_16 : decode cX5_init 16 = .ok (.new 18, 3) := by decide +kernel
theorem wc_X5_18 : Cond.classLink RX5 18 RX7 ∈ xT := xin 427 (by decide +kernel) rfl
theorem dX5_init_19 : decode cX5_init 19 = .ok (.dup, 1) := by decide +kernel
theorem dX5_init_20 : decode cX5_init 20 = .ok (.bipush 60, 2) := by decide +kernel
theorem dX5_init_22 : decode cX5_init 22 = .ok (.invokespecial 20, 3) := by decide +kernel
theorem wl_X5_20 : Cond.methodLink RX5 20 yX7_init ∈ xT := xin 428 (by decide +kernel) rfl
theorem dX5_init_25 : decode cX5_init 25 = .ok (.putfield 23, 3) := by decide +kernel
theorem dX5_init_28 : decode cX5_init 28 = .ok (.aload_n 0, 1) := by decide +kernel
theorem dX5_init_29 : decode cX5_init 29 = .ok (.new 18, 3) := by decide +kernel
theorem dX5_init_32 : decode cX5_init 32 = .ok (.dup, 1) := by decide +kernel
theorem dX5_init_33 : decode cX5_init 33 = .ok (.bipush 60, 2) := by decide +kernel
theorem dX5_init_35 : decode cX5_init 35 = .ok (.invokespecial 20, 3) := by decide +kernel
theorem dX5_init_38 : decode cX5_init 38 = .ok (.putfield 27, 3) := by decide +kernel
theorem dX5_init_41 : decode cX5_init 41 = .ok (.aload_n 0, 1) := by decide +kernel
theorem dX5_init_42 : decode cX5_init 42 = .ok (.iconst 0, 1) := by decide +kernel
theorem dX5_init_43 : decode cX5_init 43 = .ok (.putfield 30, 3) := by decide +kernel
theorem dX5_init_46 : decode cX5_init 46 = .ok (.aload_n 0, 1) := by decide +kernel
theorem dX5_init_47 : decode cX5_init 47 = .ok (.bipush (-2), 2) := by decide +kernel
theorem dX5_init_49 : decode cX5_init 49 = .ok (.putfield 34, 3) := by decide +kernel
theorem dX5_init_52 : decode cX5_init 52 = .ok (.return_, 1) := by decide +kernel
theorem xm_X5_init : xMw yX5_init cX5_init 1 none 0 := ⟨xin 423 (by decide +kernel) rfl, xin 124 (by decide +kernel) rfl, by decide +kernel⟩
theorem xi_X5_init : Cond.instanceMethod yX5_init ∈ xT := xin 422 (by decide +kernel) rfl
section GN_X5_init
variable {p : Program} {l : Launch} {e : Env} {R : Room} {s : State} {m : MethodId} {args : Array Value} {below : List Frame} {meth : Method} {c : Code} {H H0 : Heap} {locs : List Loc} {cells slots : Nat} {Q : State → Prop} {cc : ByteArray} {nL pc : Nat} {rt : Option FieldType} {ls : Array Slot} {rest : List Value} {D : xD} {ty : xTy} {N n : Nat} {tR tP : List (Nat × Nat × Nat)} {tI tA : List (Nat × Nat × Int)}
theorem pn_X5_12 {q v : Nat} (C0 : xC D RX5 cc nL rt p s m args meth c) (hG : xG D ty N n tR tI tP tA H) (hS : xL ty N n H0 H locs) (hin2 : meth.name = "<init>") (hq : q < n) (ht : ty (N + q) = some (0, 5)) (hdg : decode cc pc = .ok (.putfield 12, 3)) (kk : ∀ (H1 : Heap) (locs1 : List Loc), xG D ty N n ((q, 0, v) :: tR) tI tP tA H1 → xL ty N n H0 H1 locs1 → W p l e R s m args below meth c H1 locs1 cells slots Q (F0 m (pc + 3) ls rest)) : W p l e R s m args below meth c H locs cells slots Q (F0 m pc ls (.ref (N + v) :: .ref (N + q) :: rest)) := g_putrF C0 hG hS (ci := 5) (k := 0) (M := 5) (T := TX5) rfl iX5 tyX5_ok nmX5 (by decide) rfl rfl rfl wf_X5_12 rfl hin2 hq ht hdg kk
theorem pn_X5_23 {q v : Nat} (C0 : xC D RX5 cc nL rt p s m args meth c) (hG : xG D ty N n tR tI tP tA H) (hS : xL ty N n H0 H locs) (hq : q < n) (ht : ty (N + q) = some (0, 5)) (hdg : decode cc pc = .ok (.putfield 23, 3)) (kk : ∀ (H1 : Heap) (locs1 : List Loc), xG D ty N n ((q, 1, v) :: tR) tI tP tA H1 → xL ty N n H0 H1 locs1 → W p l e R s m args below meth c H1 locs1 cells slots Q (F0 m (pc + 3) ls rest)) : W p l e R s m args below meth c H locs cells slots Q (F0 m pc ls (.ref (N + v) :: .ref (N + q) :: rest)) := g_putr C0 hG hS (ci := 5) (k := 1) (M := 5) (T := TX5) rfl iX5 tyX5_ok nmX5 (by decide) rfl rfl wf_X5_23 rfl hq ht hdg kk
theorem pn_X5_27 {q v : Nat} (C0 : xC D RX5 cc nL rt p s m args meth c) (hG : xG D ty N n tR tI tP tA H) (hS : xL ty N n H0 H locs) (hq : q < n) (ht : ty (N + q) = some (0, 5)) (hdg : decode cc pc = .ok (.putfield 27, 3)) (kk : ∀ (H1 : Heap) (locs1 : List Loc), xG D ty N n ((q, 2, v) :: tR) tI tP tA H1 → xL ty N n H0 H1 locs1 → W p l e R s m args below meth c H1 locs1 cells slots Q (F0 m (pc + 3) ls rest)) : W p l e R s m args below meth c H locs cells slots Q (F0 m pc ls (.ref (N + v) :: .ref (N + q) :: rest)) := g_putr C0 hG hS (ci := 5) (k := 2) (M := 5) (T := TX5) rfl iX5 tyX5_ok nmX5 (by decide) rfl rfl wf_X5_27 rfl hq ht hdg kk
theorem pn_X5_30 {q : Nat} {v : Int} {w : Int32} (C0 : xC D RX5 cc nL rt p s m args meth c) (hG : xG D ty N n tR tI tP tA H) (hS : xL ty N n H0 H locs) (hw : w = i32 v) (hq : q < n) (ht : ty (N + q) = some (0, 5)) (hdg : decode cc pc = .ok (.putfield 30, 3)) (kk : ∀ (H1 : Heap) (locs1 : List Loc), xG D ty N n tR ((q, 3, v) :: tI) tP tA H1 → xL ty N n H0 H1 locs1 → W p l e R s m args below meth c H1 locs1 cells slots Q (F0 m (pc + 3) ls rest)) : W p l e R s m args below meth c H locs cells slots Q (F0 m pc ls (.int w :: .ref (N + q) :: rest)) := g_puti C0 hG hS (ci := 5) (k := 3) (M := 5) (T := TX5) rfl iX5 tyX5_ok nmX5 (by decide) rfl rfl wf_X5_30 (Or.inl rfl) hw rfl rfl hq ht hdg kk
theorem pn_X5_34 {q : Nat} {v : Int} {w : Int32} (C0 : xC D RX5 cc nL rt p s m args meth c) (hG : xG D ty N n tR tI tP tA H) (hS : xL ty N n H0 H locs) (hw : w = i32 v) (hq : q < n) (ht : ty (N + q) = some (0, 5)) (hdg : decode cc pc = .ok (.putfield 34, 3)) (kk : ∀ (H1 : Heap) (locs1 : List Loc), xG D ty N n tR ((q, 4, v) :: tI) tP tA H1 → xL ty N n H0 H1 locs1 → W p l e R s m args below meth c H1 locs1 cells slots Q (F0 m (pc + 3) ls rest)) : W p l e R s m args below meth c H locs cells slots Q (F0 m pc ls (.int w :: .ref (N + q) :: rest)) := g_puti C0 hG hS (ci := 5) (k := 4) (M := 5) (T := TX5) rfl iX5 tyX5_ok nmX5 (by decide) rfl rfl wf_X5_34 (Or.inl rfl) hw rfl rfl hq ht hdg kk
end GN_X5_init
def sh_X5 : List (Nat × Nat) := [(0, 5), (0, 3), (1, 12), (0, 7), (1, 60), (1, 60), (0, 7), (1, 60), (1, 60)]
abbrev jnr_X5 : Room := { frames := 2, cells := 8, slots := 259, locals := 33 }
def nr_X5 (b : Nat) : List (Nat × Nat × Nat) := (b, 2, b + 6) :: ((b + 6, 1, b + 8) :: ((b + 6, 0, b + 7) :: ((b, 1, b + 3) :: ((b + 3, 1, b + 5) :: ((b + 3, 0, b + 4) :: ((b, 0, b + 1) :: (nr_X3 (b + 1) ++ ([]))))))))
def ni_X5 (b : Nat) : List (Nat × Nat × Int) := (b, 4, (-2)) :: ((b, 3, 0) :: ((b + 6, 2, 0) :: ((b + 3, 2, 0) :: (ni_X3 (b + 1) ++ ([])))))
set_option maxHeartbeats 4000000 in
set_option maxRecDepth 100000 in
theorem jn_X5 {l : Launch} {D : xD} {ty : xTy} {N b : Nat} {tR tP : List (Nat × Nat × Nat)} {tI tA : List (Nat × Nat × Int)} (hT : ∀ (j : Nat) (t : Nat × Nat), sh_X5[j]? = some t → ty (N + (b + j)) = some t) : Met l yX5_init (xws yX5_init cX5_init 1 none) jnr_X5 (xPn D ty N (b + 1) tR tI tP tA [.ref (N + b)]) (xQn D ty N (b + 9) (nr_X5 b ++ tR) (ni_X5 b ++ tI) (tP) tA) 8 259 (xdom (tyN ty (N + (b + 9)))) := by
  refine g_met (by decide) rfl ?_
  intro p e s m below meth c C0 hnm hAO hG
  generalize hargs : ([.ref (N + b)] : List Value).toArray = args at C0 ⊢
  have hx := C0.1
  have hb := C0.2.1
  have hS : xL ty N (b + 1) s.heap s.heap [] := ⟨fun _ _ => rfl, fun _ h => absurd h List.not_mem_nil⟩
  have hl := lv_entry ([.ref (N + b)]) (n := 1) (Nat.le_of_ble_eq_true rfl)
  rw [← hargs, lg_entry_eq]
  rw [hargs]
  generalize (lg_sl ([.ref (N + b)]) ++ List.replicate (1 - (lg_sl ([.ref (N + b)])).length) Slot.unset).toArray = ls at hl ⊢
  have hl : lv_has ls 1 [(0, .ref (N + b))] := hl
  refine lv_aload_n hx hb dX5_init_0 rfl (lv_at hl 0 rfl) ?_
  refine g_obj C0 wj_X5_3 hl.1 (Nat.le_of_ble_eq_true rfl) (Nat.le_of_ble_eq_true rfl) dX5_init_1 ?_
  refine lv_aload_n hx hb dX5_init_4 rfl (lv_at hl 0 rfl) ?_
  refine g_newo (ci := 3) (M := 1) (T := TX3) (n1 := b + 2) (c1 := 1) (s1 := 1) C0 hG hS rfl rfl rfl (hT 1 _ rfl) rfl iX3 tyX3_ok wc_X5_9 wn_X3 wi_X3 df_X3 (Nat.le_of_ble_eq_true rfl) (Nat.le_of_ble_eq_true rfl) dX5_init_5 (fun H hG hS => ?_)
  refine lv_dup hx hb dX5_init_8 rfl ?_
  refine g_ctorN (n2 := b + 3) (c2 := 2) (s2 := 13) (As := []) (rest := [.ref (N + (b + 1)), .ref (N + (b))]) C0 hAO (jn_X3 (b := b + 1) (sub_ty (d := 1) (L2 := sh_X3) hT (by decide +kernel))) xm_X3_init xi_X3_init rfl wl_X5_11 ⟨rfl, rfl, (Nat.le_of_ble_eq_true rfl), (Nat.le_of_ble_eq_true rfl)⟩ hG hS (by omega) rfl rfl rfl hl.1 rfl (Nat.le_of_ble_eq_true rfl) ⟨(Nat.le_of_ble_eq_true rfl), (Nat.le_of_ble_eq_true rfl)⟩ dX5_init_9 (fun H locs hG hS => ?_)
  refine pn_X5_12 (q := b) (v := b + 1) C0 hG hS hnm (by omega) (hT 0 _ rfl) dX5_init_12 (fun H locs hG hS => ?_)
  refine lv_aload_n hx hb dX5_init_15 rfl (lv_at hl 0 rfl) ?_
  refine g_newo (ci := 7) (M := 3) (T := TX7) (n1 := b + 4) (c1 := 3) (s1 := 16) C0 hG hS rfl rfl rfl (hT 3 _ rfl) rfl iX7 tyX7_ok wc_X5_18 wn_X7 wi_X7 df_X7 (Nat.le_of_ble_eq_true rfl) (Nat.le_of_ble_eq_true rfl) dX5_init_16 (fun H hG hS => ?_)
  refine lv_dup hx hb dX5_init_19 rfl ?_
  refine lv_bipush (v := 60) hx hb dX5_init_20 (by decide) ?_
  refine g_ctor (n2 := b + 6) (c2 := 5) (s2 := 136) (As := [.int 60]) (rest := [.ref (N + (b + 3)), .ref (N + (b))]) C0 hAO (jn_X7 (b := b + 3) (k := 60) (v := 60) (by decide) (by decide) (Nat.le_of_ble_eq_true rfl) (sub_ty (d := 3) (L2 := sh_X7 60) hT (by decide +kernel))) xm_X7_init xi_X7_init rfl wl_X5_20 ⟨rfl, rfl, (Nat.le_of_ble_eq_true rfl), (Nat.le_of_ble_eq_true rfl)⟩ hG hS (by omega) rfl rfl rfl hl.1 rfl (Nat.le_of_ble_eq_true rfl) ⟨(Nat.le_of_ble_eq_true rfl), (Nat.le_of_ble_eq_true rfl)⟩ dX5_init_22 (fun H locs hG hS => ?_)
  refine pn_X5_23 (q := b) (v := b + 3) C0 hG hS (by omega) (hT 0 _ rfl) dX5_init_25 (fun H locs hG hS => ?_)
  refine lv_aload_n hx hb dX5_init_28 rfl (lv_at hl 0 rfl) ?_
  refine g_newo (ci := 7) (M := 3) (T := TX7) (n1 := b + 7) (c1 := 6) (s1 := 139) C0 hG hS rfl rfl rfl (hT 6 _ rfl) rfl iX7 tyX7_ok wc_X5_18 wn_X7 wi_X7 df_X7 (Nat.le_of_ble_eq_true rfl) (Nat.le_of_ble_eq_true rfl) dX5_init_29 (fun H hG hS => ?_)
  refine lv_dup hx hb dX5_init_32 rfl ?_
  refine lv_bipush (v := 60) hx hb dX5_init_33 (by decide) ?_
  refine g_ctor (n2 := b + 9) (c2 := 8) (s2 := 259) (As := [.int 60]) (rest := [.ref (N + (b + 6)), .ref (N + (b))]) C0 hAO (jn_X7 (b := b + 6) (k := 60) (v := 60) (by decide) (by decide) (Nat.le_of_ble_eq_true rfl) (sub_ty (d := 6) (L2 := sh_X7 60) hT (by decide +kernel))) xm_X7_init xi_X7_init rfl wl_X5_20 ⟨rfl, rfl, (Nat.le_of_ble_eq_true rfl), (Nat.le_of_ble_eq_true rfl)⟩ hG hS (by omega) rfl rfl rfl hl.1 rfl (Nat.le_of_ble_eq_true rfl) ⟨(Nat.le_of_ble_eq_true rfl), (Nat.le_of_ble_eq_true rfl)⟩ dX5_init_35 (fun H locs hG hS => ?_)
  refine pn_X5_27 (q := b) (v := b + 6) C0 hG hS (by omega) (hT 0 _ rfl) dX5_init_38 (fun H locs hG hS => ?_)
  refine lv_aload_n hx hb dX5_init_41 rfl (lv_at hl 0 rfl) ?_
  refine lv_iconst (v := 0) hx hb dX5_init_42 (by decide) ?_
  refine pn_X5_30 (q := b) (v := 0) C0 hG hS (by decide) (by omega) (hT 0 _ rfl) dX5_init_43 (fun H locs hG hS => ?_)
  refine lv_aload_n hx hb dX5_init_46 rfl (lv_at hl 0 rfl) ?_
  refine lv_bipush (v := (-2)) hx hb dX5_init_47 (by decide) ?_
  refine pn_X5_34 (q := b) (v := (-2)) C0 hG hS (by decide) (by omega) (hT 0 _ rfl) dX5_init_49 (fun H locs hG hS => ?_)
  have hG : xG D ty N (b + 9) (nr_X5 b ++ tR) (ni_X5 b ++ tI) (tP) tA H := hG
  exact g_vret C0 hG hS dX5_init_52
theorem dX6_init_0 : decode cX6_init 0 = .ok (.aload_n 0, 1) := by decide +kernel
theorem dX6_init_1 : decode cX6_init 1 = .ok (.invokespecial 3, 3) := by decide +kernel
theorem wj_X6_3 : Cond.methodLink RX6 3 Lib.objectInit ∈ xT := xin 281 (by decide +kernel) rfl
theorem dX6_init_4 : decode cX6_init 4 = .ok (.aload_n 0, 1) := by decide +kernel
theorem dX6_init_5 : decode cX6_init 5 = .ok (.bipush 20, 2) := by decide +kernel
theorem dX6_init_7 : decode cX6_init 7 = .ok (.newarray .int, 2) := by decide +kernel
theorem dX6_init_9 : decode cX6_init 9 = .ok (.putfield 9, 3) := by decide +kernel
theorem dX6_init_12 : decode cX6_init 12 = .ok (.aload_n 0, 1) := by decide +kernel
theorem dX6_init_13 : decode cX6_init 13 = .ok (.iconst 0, 1) := by decide +kernel
theorem dX6_init_14 : decode cX6_init 14 = .ok (.putfield 15, 3) := by decide +kernel
theorem dX6_init_17 : decode cX6_init 17 = .ok (.aload_n 0, 1) := by decide +kernel
theorem dX6_init_18 : decode cX6_init 18 = .ok (.iconst 0, 1) := by decide +kernel
theorem dX6_init_19 : decode cX6_init 19 = .ok (.putfield 19, 3) := by decide +kernel
theorem dX6_init_22 : decode cX6_init 22 = .ok (.aload_n 0, 1) := by decide +kernel
theorem dX6_init_23 : decode cX6_init 23 = .ok (.iconst 0, 1) := by decide +kernel
theorem dX6_init_24 : decode cX6_init 24 = .ok (.putfield 23, 3) := by decide +kernel
theorem dX6_init_27 : decode cX6_init 27 = .ok (.aload_n 0, 1) := by decide +kernel
theorem dX6_init_28 : decode cX6_init 28 = .ok (.iconst 0, 1) := by decide +kernel
theorem dX6_init_29 : decode cX6_init 29 = .ok (.putfield 26, 3) := by decide +kernel
theorem dX6_init_32 : decode cX6_init 32 = .ok (.return_, 1) := by decide +kernel
theorem xm_X6_init : xMw yX6_init cX6_init 1 none 0 := ⟨xin 280 (by decide +kernel) rfl, xin 119 (by decide +kernel) rfl, by decide +kernel⟩
theorem xi_X6_init : Cond.instanceMethod yX6_init ∈ xT := xin 279 (by decide +kernel) rfl
section GN_X6_init
variable {p : Program} {l : Launch} {e : Env} {R : Room} {s : State} {m : MethodId} {args : Array Value} {below : List Frame} {meth : Method} {c : Code} {H H0 : Heap} {locs : List Loc} {cells slots : Nat} {Q : State → Prop} {cc : ByteArray} {nL pc : Nat} {rt : Option FieldType} {ls : Array Slot} {rest : List Value} {D : xD} {ty : xTy} {N n : Nat} {tR tP : List (Nat × Nat × Nat)} {tI tA : List (Nat × Nat × Int)}
theorem pn_X6_9 {q v : Nat} (C0 : xC D RX6 cc nL rt p s m args meth c) (hG : xG D ty N n tR tI tP tA H) (hS : xL ty N n H0 H locs) (hin2 : meth.name = "<init>") (hq : q < n) (ht : ty (N + q) = some (0, 6)) (hdg : decode cc pc = .ok (.putfield 9, 3)) (kk : ∀ (H1 : Heap) (locs1 : List Loc), xG D ty N n ((q, 0, v) :: tR) tI tP tA H1 → xL ty N n H0 H1 locs1 → W p l e R s m args below meth c H1 locs1 cells slots Q (F0 m (pc + 3) ls rest)) : W p l e R s m args below meth c H locs cells slots Q (F0 m pc ls (.ref (N + v) :: .ref (N + q) :: rest)) := g_putrF C0 hG hS (ci := 6) (k := 0) (M := 5) (T := TX6) rfl iX6 tyX6_ok nmX6 (by decide) rfl rfl rfl wf_X6_9 rfl hin2 hq ht hdg kk
theorem pn_X6_15 {q : Nat} {v : Int} {w : Int32} (C0 : xC D RX6 cc nL rt p s m args meth c) (hG : xG D ty N n tR tI tP tA H) (hS : xL ty N n H0 H locs) (hw : w = i32 v) (hq : q < n) (ht : ty (N + q) = some (0, 6)) (hdg : decode cc pc = .ok (.putfield 15, 3)) (kk : ∀ (H1 : Heap) (locs1 : List Loc), xG D ty N n tR ((q, 1, v) :: tI) tP tA H1 → xL ty N n H0 H1 locs1 → W p l e R s m args below meth c H1 locs1 cells slots Q (F0 m (pc + 3) ls rest)) : W p l e R s m args below meth c H locs cells slots Q (F0 m pc ls (.int w :: .ref (N + q) :: rest)) := g_puti C0 hG hS (ci := 6) (k := 1) (M := 5) (T := TX6) rfl iX6 tyX6_ok nmX6 (by decide) rfl rfl wf_X6_15 (Or.inl rfl) hw rfl rfl hq ht hdg kk
theorem pn_X6_19 {q : Nat} {v : Int} {w : Int32} (C0 : xC D RX6 cc nL rt p s m args meth c) (hG : xG D ty N n tR tI tP tA H) (hS : xL ty N n H0 H locs) (hw : w = i32 v) (hnr : narrow .boolean (.int w) = .int w) (hft : fits .boolean (.int w) = true) (hq : q < n) (ht : ty (N + q) = some (0, 6)) (hdg : decode cc pc = .ok (.putfield 19, 3)) (kk : ∀ (H1 : Heap) (locs1 : List Loc), xG D ty N n tR ((q, 2, v) :: tI) tP tA H1 → xL ty N n H0 H1 locs1 → W p l e R s m args below meth c H1 locs1 cells slots Q (F0 m (pc + 3) ls rest)) : W p l e R s m args below meth c H locs cells slots Q (F0 m pc ls (.int w :: .ref (N + q) :: rest)) := g_puti C0 hG hS (ci := 6) (k := 2) (M := 5) (T := TX6) rfl iX6 tyX6_ok nmX6 (by decide) rfl rfl wf_X6_19 (Or.inr rfl) hw hnr hft hq ht hdg kk
theorem pn_X6_23 {q : Nat} {v : Int} {w : Int32} (C0 : xC D RX6 cc nL rt p s m args meth c) (hG : xG D ty N n tR tI tP tA H) (hS : xL ty N n H0 H locs) (hw : w = i32 v) (hq : q < n) (ht : ty (N + q) = some (0, 6)) (hdg : decode cc pc = .ok (.putfield 23, 3)) (kk : ∀ (H1 : Heap) (locs1 : List Loc), xG D ty N n tR ((q, 3, v) :: tI) tP tA H1 → xL ty N n H0 H1 locs1 → W p l e R s m args below meth c H1 locs1 cells slots Q (F0 m (pc + 3) ls rest)) : W p l e R s m args below meth c H locs cells slots Q (F0 m pc ls (.int w :: .ref (N + q) :: rest)) := g_puti C0 hG hS (ci := 6) (k := 3) (M := 5) (T := TX6) rfl iX6 tyX6_ok nmX6 (by decide) rfl rfl wf_X6_23 (Or.inl rfl) hw rfl rfl hq ht hdg kk
theorem pn_X6_26 {q : Nat} {v : Int} {w : Int32} (C0 : xC D RX6 cc nL rt p s m args meth c) (hG : xG D ty N n tR tI tP tA H) (hS : xL ty N n H0 H locs) (hw : w = i32 v) (hq : q < n) (ht : ty (N + q) = some (0, 6)) (hdg : decode cc pc = .ok (.putfield 26, 3)) (kk : ∀ (H1 : Heap) (locs1 : List Loc), xG D ty N n tR ((q, 4, v) :: tI) tP tA H1 → xL ty N n H0 H1 locs1 → W p l e R s m args below meth c H1 locs1 cells slots Q (F0 m (pc + 3) ls rest)) : W p l e R s m args below meth c H locs cells slots Q (F0 m pc ls (.int w :: .ref (N + q) :: rest)) := g_puti C0 hG hS (ci := 6) (k := 4) (M := 5) (T := TX6) rfl iX6 tyX6_ok nmX6 (by decide) rfl rfl wf_X6_26 (Or.inl rfl) hw rfl rfl hq ht hdg kk
end GN_X6_init
def sh_X6 : List (Nat × Nat) := [(0, 6), (1, 20)]
abbrev jnr_X6 : Room := { frames := 1, cells := 1, slots := 20, locals := 12 }
def nr_X6 (b : Nat) : List (Nat × Nat × Nat) := (b, 0, b + 1) :: []
def ni_X6 (b : Nat) : List (Nat × Nat × Int) := (b, 4, 0) :: (b, 3, 0) :: (b, 2, 0) :: (b, 1, 0) :: []
set_option maxHeartbeats 4000000 in
set_option maxRecDepth 100000 in
theorem jn_X6 {l : Launch} {D : xD} {ty : xTy} {N b : Nat} {tR tP : List (Nat × Nat × Nat)} {tI tA : List (Nat × Nat × Int)} (hT : ∀ (j : Nat) (t : Nat × Nat), sh_X6[j]? = some t → ty (N + (b + j)) = some t) : Met l yX6_init (xws yX6_init cX6_init 1 none) jnr_X6 (xPn D ty N (b + 1) tR tI tP tA [.ref (N + b)]) (xQn D ty N (b + 2) (nr_X6 b ++ tR) (ni_X6 b ++ tI) (tP) tA) 1 20 (xdom (tyN ty (N + (b + 2)))) := by
  refine g_met (by decide) rfl ?_
  intro p e s m below meth c C0 hnm hAO hG
  generalize hargs : ([.ref (N + b)] : List Value).toArray = args at C0 ⊢
  have hx := C0.1
  have hb := C0.2.1
  have hS : xL ty N (b + 1) s.heap s.heap [] := ⟨fun _ _ => rfl, fun _ h => absurd h List.not_mem_nil⟩
  have hl := lv_entry ([.ref (N + b)]) (n := 1) (Nat.le_of_ble_eq_true rfl)
  rw [← hargs, lg_entry_eq]
  rw [hargs]
  generalize (lg_sl ([.ref (N + b)]) ++ List.replicate (1 - (lg_sl ([.ref (N + b)])).length) Slot.unset).toArray = ls at hl ⊢
  have hl : lv_has ls 1 [(0, .ref (N + b))] := hl
  refine lv_aload_n hx hb dX6_init_0 rfl (lv_at hl 0 rfl) ?_
  refine g_obj C0 wj_X6_3 hl.1 (Nat.le_of_ble_eq_true rfl) (Nat.le_of_ble_eq_true rfl) dX6_init_1 ?_
  refine lv_aload_n hx hb dX6_init_4 rfl (lv_at hl 0 rfl) ?_
  refine lv_bipush (v := 20) hx hb dX6_init_5 (by decide) ?_
  refine g_newi (n1 := b + 2) (c1 := 1) (s1 := 20) C0 hG hS rfl rfl rfl (hT 1 _ rfl) (by decide) (by decide) (Nat.le_of_ble_eq_true rfl) (Nat.le_of_ble_eq_true rfl) (Nat.le_of_ble_eq_true rfl) dX6_init_7 (fun H hG hS => ?_)
  refine pn_X6_9 (q := b) (v := b + 1) C0 hG hS hnm (by omega) (hT 0 _ rfl) dX6_init_9 (fun H locs hG hS => ?_)
  refine lv_aload_n hx hb dX6_init_12 rfl (lv_at hl 0 rfl) ?_
  refine lv_iconst (v := 0) hx hb dX6_init_13 (by decide) ?_
  refine pn_X6_15 (q := b) (v := 0) C0 hG hS (by decide) (by omega) (hT 0 _ rfl) dX6_init_14 (fun H locs hG hS => ?_)
  refine lv_aload_n hx hb dX6_init_17 rfl (lv_at hl 0 rfl) ?_
  refine lv_iconst (v := 0) hx hb dX6_init_18 (by decide) ?_
  refine pn_X6_19 (q := b) (v := 0) C0 hG hS (by decide) rfl rfl (by omega) (hT 0 _ rfl) dX6_init_19 (fun H locs hG hS => ?_)
  refine lv_aload_n hx hb dX6_init_22 rfl (lv_at hl 0 rfl) ?_
  refine lv_iconst (v := 0) hx hb dX6_init_23 (by decide) ?_
  refine pn_X6_23 (q := b) (v := 0) C0 hG hS (by decide) (by omega) (hT 0 _ rfl) dX6_init_24 (fun H locs hG hS => ?_)
  refine lv_aload_n hx hb dX6_init_27 rfl (lv_at hl 0 rfl) ?_
  refine lv_iconst (v := 0) hx hb dX6_init_28 (by decide) ?_
  refine pn_X6_26 (q := b) (v := 0) C0 hG hS (by decide) (by omega) (hT 0 _ rfl) dX6_init_29 (fun H locs hG hS => ?_)
  have hG : xG D ty N (b + 2) (nr_X6 b ++ tR) (ni_X6 b ++ tI) (tP) tA H := hG
  exact g_vret C0 hG hS dX6_init_32
theorem dX9_init_0 : decode cX9_init 0 = .ok (.aload_n 0, 1) := by decide +kernel
theorem dX9_init_1 : decode cX9_init 1 = .ok (.invokespecial 3, 3) := by decide +kernel
theorem wj_X9_3 : Cond.methodLink RX9 3 Lib.objectInit ∈ xT := xin 305 (by decide +kernel) rfl
theorem dX9_init_4 : decode cX9_init 4 = .ok (.aload_n 0, 1) := by decide +kernel
theorem dX9_init_5 : decode cX9_init 5 = .ok (.bipush 16, 2) := by decide +kernel
theorem dX9_init_7 : decode cX9_init 7 = .ok (.newarray .int, 2) := by decide +kernel
theorem dX9_init_9 : decode cX9_init 9 = .ok (.putfield 9, 3) := by decide +kernel
theorem dX9_init_12 : decode cX9_init 12 = .ok (.aload_n 0, 1) := by decide +kernel
theorem dX9_init_13 : decode cX9_init 13 = .ok (.bipush 16, 2) := by decide +kernel
theorem dX9_init_15 : decode cX9_init 15 = .ok (.anewarray 15, 3) := by decide +kernel
theorem wc_X9_15 : Cond.classLink RX9 15 RX7 ∈ xT := xin 306 (by decide +kernel) rfl
theorem dX9_init_18 : decode cX9_init 18 = .ok (.putfield 17, 3) := by decide +kernel
theorem dX9_init_21 : decode cX9_init 21 = .ok (.aload_n 0, 1) := by decide +kernel
theorem dX9_init_22 : decode cX9_init 22 = .ok (.bipush 16, 2) := by decide +kernel
theorem dX9_init_24 : decode cX9_init 24 = .ok (.newarray .int, 2) := by decide +kernel
theorem dX9_init_26 : decode cX9_init 26 = .ok (.putfield 21, 3) := by decide +kernel
theorem dX9_init_29 : decode cX9_init 29 = .ok (.aload_n 0, 1) := by decide +kernel
theorem dX9_init_30 : decode cX9_init 30 = .ok (.new 15, 3) := by decide +kernel
theorem dX9_init_33 : decode cX9_init 33 = .ok (.dup, 1) := by decide +kernel
theorem dX9_init_34 : decode cX9_init 34 = .ok (.iconst 0, 1) := by decide +kernel
theorem dX9_init_35 : decode cX9_init 35 = .ok (.invokespecial 24, 3) := by decide +kernel
theorem wl_X9_24 : Cond.methodLink RX9 24 yX7_init ∈ xT := xin 307 (by decide +kernel) rfl
theorem dX9_init_38 : decode cX9_init 38 = .ok (.putfield 27, 3) := by decide +kernel
theorem dX9_init_41 : decode cX9_init 41 = .ok (.aload_n 0, 1) := by decide +kernel
theorem dX9_init_42 : decode cX9_init 42 = .ok (.iconst 0, 1) := by decide +kernel
theorem dX9_init_43 : decode cX9_init 43 = .ok (.putfield 31, 3) := by decide +kernel
theorem dX9_init_46 : decode cX9_init 46 = .ok (.aload_n 0, 1) := by decide +kernel
theorem dX9_init_47 : decode cX9_init 47 = .ok (.iconst 0, 1) := by decide +kernel
theorem dX9_init_48 : decode cX9_init 48 = .ok (.putfield 35, 3) := by decide +kernel
theorem dX9_init_51 : decode cX9_init 51 = .ok (.aload_n 0, 1) := by decide +kernel
theorem dX9_init_52 : decode cX9_init 52 = .ok (.iconst 0, 1) := by decide +kernel
theorem dX9_init_53 : decode cX9_init 53 = .ok (.putfield 38, 3) := by decide +kernel
theorem dX9_init_56 : decode cX9_init 56 = .ok (.iconst 0, 1) := by decide +kernel
theorem dX9_init_57 : decode cX9_init 57 = .ok (.istore_n 1, 1) := by decide +kernel
theorem dX9_init_58 : decode cX9_init 58 = .ok (.iload_n 1, 1) := by decide +kernel
theorem dX9_init_59 : decode cX9_init 59 = .ok (.bipush 16, 2) := by decide +kernel
theorem dX9_init_61 : decode cX9_init 61 = .ok (.if_icmp .ge 19, 3) := by decide +kernel
theorem dX9_init_64 : decode cX9_init 64 = .ok (.aload_n 0, 1) := by decide +kernel
theorem dX9_init_65 : decode cX9_init 65 = .ok (.getfield 17, 3) := by decide +kernel
theorem dX9_init_68 : decode cX9_init 68 = .ok (.iload_n 1, 1) := by decide +kernel
theorem dX9_init_69 : decode cX9_init 69 = .ok (.aload_n 0, 1) := by decide +kernel
theorem dX9_init_70 : decode cX9_init 70 = .ok (.getfield 27, 3) := by decide +kernel
theorem dX9_init_73 : decode cX9_init 73 = .ok (.aastore, 1) := by decide +kernel
theorem dX9_init_74 : decode cX9_init 74 = .ok (.iinc 1 1, 3) := by decide +kernel
theorem dX9_init_77 : decode cX9_init 77 = .ok (.goto (-19), 3) := by decide +kernel
theorem dX9_init_80 : decode cX9_init 80 = .ok (.return_, 1) := by decide +kernel
theorem xm_X9_init : xMw yX9_init cX9_init 2 none 0 := ⟨xin 304 (by decide +kernel) rfl, xin 120 (by decide +kernel) rfl, by decide +kernel⟩
theorem xi_X9_init : Cond.instanceMethod yX9_init ∈ xT := xin 303 (by decide +kernel) rfl
section GN_X9_init
variable {p : Program} {l : Launch} {e : Env} {R : Room} {s : State} {m : MethodId} {args : Array Value} {below : List Frame} {meth : Method} {c : Code} {H H0 : Heap} {locs : List Loc} {cells slots : Nat} {Q : State → Prop} {cc : ByteArray} {nL pc : Nat} {rt : Option FieldType} {ls : Array Slot} {rest : List Value} {D : xD} {ty : xTy} {N n : Nat} {tR tP : List (Nat × Nat × Nat)} {tI tA : List (Nat × Nat × Int)}
theorem pn_X9_9 {q v : Nat} (C0 : xC D RX9 cc nL rt p s m args meth c) (hG : xG D ty N n tR tI tP tA H) (hS : xL ty N n H0 H locs) (hin2 : meth.name = "<init>") (hq : q < n) (ht : ty (N + q) = some (0, 9)) (hdg : decode cc pc = .ok (.putfield 9, 3)) (kk : ∀ (H1 : Heap) (locs1 : List Loc), xG D ty N n ((q, 0, v) :: tR) tI tP tA H1 → xL ty N n H0 H1 locs1 → W p l e R s m args below meth c H1 locs1 cells slots Q (F0 m (pc + 3) ls rest)) : W p l e R s m args below meth c H locs cells slots Q (F0 m pc ls (.ref (N + v) :: .ref (N + q) :: rest)) := g_putrF C0 hG hS (ci := 9) (k := 0) (M := 7) (T := TX9) rfl iX9 tyX9_ok nmX9 (by decide) rfl rfl rfl wf_X9_9 rfl hin2 hq ht hdg kk
theorem pn_X9_17 {q v : Nat} (C0 : xC D RX9 cc nL rt p s m args meth c) (hG : xG D ty N n tR tI tP tA H) (hS : xL ty N n H0 H locs) (hin2 : meth.name = "<init>") (hq : q < n) (ht : ty (N + q) = some (0, 9)) (hdg : decode cc pc = .ok (.putfield 17, 3)) (kk : ∀ (H1 : Heap) (locs1 : List Loc), xG D ty N n ((q, 1, v) :: tR) tI tP tA H1 → xL ty N n H0 H1 locs1 → W p l e R s m args below meth c H1 locs1 cells slots Q (F0 m (pc + 3) ls rest)) : W p l e R s m args below meth c H locs cells slots Q (F0 m pc ls (.ref (N + v) :: .ref (N + q) :: rest)) := g_putrF C0 hG hS (ci := 9) (k := 1) (M := 7) (T := TX9) rfl iX9 tyX9_ok nmX9 (by decide) rfl rfl rfl wf_X9_17 rfl hin2 hq ht hdg kk
theorem pn_X9_21 {q v : Nat} (C0 : xC D RX9 cc nL rt p s m args meth c) (hG : xG D ty N n tR tI tP tA H) (hS : xL ty N n H0 H locs) (hin2 : meth.name = "<init>") (hq : q < n) (ht : ty (N + q) = some (0, 9)) (hdg : decode cc pc = .ok (.putfield 21, 3)) (kk : ∀ (H1 : Heap) (locs1 : List Loc), xG D ty N n ((q, 2, v) :: tR) tI tP tA H1 → xL ty N n H0 H1 locs1 → W p l e R s m args below meth c H1 locs1 cells slots Q (F0 m (pc + 3) ls rest)) : W p l e R s m args below meth c H locs cells slots Q (F0 m pc ls (.ref (N + v) :: .ref (N + q) :: rest)) := g_putrF C0 hG hS (ci := 9) (k := 2) (M := 7) (T := TX9) rfl iX9 tyX9_ok nmX9 (by decide) rfl rfl rfl wf_X9_21 rfl hin2 hq ht hdg kk
theorem pn_X9_27 {q v : Nat} (C0 : xC D RX9 cc nL rt p s m args meth c) (hG : xG D ty N n tR tI tP tA H) (hS : xL ty N n H0 H locs) (hin2 : meth.name = "<init>") (hq : q < n) (ht : ty (N + q) = some (0, 9)) (hdg : decode cc pc = .ok (.putfield 27, 3)) (kk : ∀ (H1 : Heap) (locs1 : List Loc), xG D ty N n ((q, 3, v) :: tR) tI tP tA H1 → xL ty N n H0 H1 locs1 → W p l e R s m args below meth c H1 locs1 cells slots Q (F0 m (pc + 3) ls rest)) : W p l e R s m args below meth c H locs cells slots Q (F0 m pc ls (.ref (N + v) :: .ref (N + q) :: rest)) := g_putrF C0 hG hS (ci := 9) (k := 3) (M := 7) (T := TX9) rfl iX9 tyX9_ok nmX9 (by decide) rfl rfl rfl wf_X9_27 rfl hin2 hq ht hdg kk
theorem pn_X9_31 {q : Nat} {v : Int} {w : Int32} (C0 : xC D RX9 cc nL rt p s m args meth c) (hG : xG D ty N n tR tI tP tA H) (hS : xL ty N n H0 H locs) (hw : w = i32 v) (hq : q < n) (ht : ty (N + q) = some (0, 9)) (hdg : decode cc pc = .ok (.putfield 31, 3)) (kk : ∀ (H1 : Heap) (locs1 : List Loc), xG D ty N n tR ((q, 4, v) :: tI) tP tA H1 → xL ty N n H0 H1 locs1 → W p l e R s m args below meth c H1 locs1 cells slots Q (F0 m (pc + 3) ls rest)) : W p l e R s m args below meth c H locs cells slots Q (F0 m pc ls (.int w :: .ref (N + q) :: rest)) := g_puti C0 hG hS (ci := 9) (k := 4) (M := 7) (T := TX9) rfl iX9 tyX9_ok nmX9 (by decide) rfl rfl wf_X9_31 (Or.inl rfl) hw rfl rfl hq ht hdg kk
theorem pn_X9_35 {q : Nat} {v : Int} {w : Int32} (C0 : xC D RX9 cc nL rt p s m args meth c) (hG : xG D ty N n tR tI tP tA H) (hS : xL ty N n H0 H locs) (hw : w = i32 v) (hq : q < n) (ht : ty (N + q) = some (0, 9)) (hdg : decode cc pc = .ok (.putfield 35, 3)) (kk : ∀ (H1 : Heap) (locs1 : List Loc), xG D ty N n tR ((q, 5, v) :: tI) tP tA H1 → xL ty N n H0 H1 locs1 → W p l e R s m args below meth c H1 locs1 cells slots Q (F0 m (pc + 3) ls rest)) : W p l e R s m args below meth c H locs cells slots Q (F0 m pc ls (.int w :: .ref (N + q) :: rest)) := g_puti C0 hG hS (ci := 9) (k := 5) (M := 7) (T := TX9) rfl iX9 tyX9_ok nmX9 (by decide) rfl rfl wf_X9_35 (Or.inl rfl) hw rfl rfl hq ht hdg kk
theorem pn_X9_38 {q : Nat} {v : Int} {w : Int32} (C0 : xC D RX9 cc nL rt p s m args meth c) (hG : xG D ty N n tR tI tP tA H) (hS : xL ty N n H0 H locs) (hw : w = i32 v) (hq : q < n) (ht : ty (N + q) = some (0, 9)) (hdg : decode cc pc = .ok (.putfield 38, 3)) (kk : ∀ (H1 : Heap) (locs1 : List Loc), xG D ty N n tR ((q, 6, v) :: tI) tP tA H1 → xL ty N n H0 H1 locs1 → W p l e R s m args below meth c H1 locs1 cells slots Q (F0 m (pc + 3) ls rest)) : W p l e R s m args below meth c H locs cells slots Q (F0 m pc ls (.int w :: .ref (N + q) :: rest)) := g_puti C0 hG hS (ci := 9) (k := 6) (M := 7) (T := TX9) rfl iX9 tyX9_ok nmX9 (by decide) rfl rfl wf_X9_38 (Or.inl rfl) hw rfl rfl hq ht hdg kk
theorem gn_X9_17 {q v : Nat} (C0 : xC D RX9 cc nL rt p s m args meth c) (hG : xG D ty N n tR tI tP tA H) (hq : q < n) (ht : ty (N + q) = some (0, 9)) (hv : lkp tR q 1 = some v) (hdg : decode cc pc = .ok (.getfield 17, 3)) (kk : W p l e R s m args below meth c H locs cells slots Q (F0 m (pc + 3) ls (.ref (N + v) :: rest))) : W p l e R s m args below meth c H locs cells slots Q (F0 m pc ls (.ref (N + q) :: rest)) := g_getr C0 hG (ci := 9) (k := 1) (M := 7) (T := TX9) rfl iX9 (by decide) rfl wf_X9_17 rfl hq ht hv hdg kk
theorem gn_X9_27 {q v : Nat} (C0 : xC D RX9 cc nL rt p s m args meth c) (hG : xG D ty N n tR tI tP tA H) (hq : q < n) (ht : ty (N + q) = some (0, 9)) (hv : lkp tR q 3 = some v) (hdg : decode cc pc = .ok (.getfield 27, 3)) (kk : W p l e R s m args below meth c H locs cells slots Q (F0 m (pc + 3) ls (.ref (N + v) :: rest))) : W p l e R s m args below meth c H locs cells slots Q (F0 m pc ls (.ref (N + q) :: rest)) := g_getr C0 hG (ci := 9) (k := 3) (M := 7) (T := TX9) rfl iX9 (by decide) rfl wf_X9_27 rfl hq ht hv hdg kk
end GN_X9_init
def sh_X9 : List (Nat × Nat) := [(0, 9), (1, 16), (3, 16), (1, 16), (0, 7), (1, 0), (1, 0)]
abbrev jnr_X9 : Room := { frames := 2, cells := 6, slots := 51, locals := 33 }
def nr_X9 (b : Nat) : List (Nat × Nat × Nat) := (b, 3, b + 4) :: (b + 4, 1, b + 6) :: (b + 4, 0, b + 5) :: (b, 2, b + 3) :: (b, 1, b + 2) :: (b, 0, b + 1) :: []
def ni_X9 (b : Nat) : List (Nat × Nat × Int) := (b, 6, 0) :: (b, 5, 0) :: (b, 4, 0) :: (b + 4, 2, 0) :: []
def np_X9 (b : Nat) : List (Nat × Nat × Nat) := (b + 2, 15, b + 4) :: (b + 2, 14, b + 4) :: (b + 2, 13, b + 4) :: (b + 2, 12, b + 4) :: (b + 2, 11, b + 4) :: (b + 2, 10, b + 4) :: (b + 2, 9, b + 4) :: (b + 2, 8, b + 4) :: (b + 2, 7, b + 4) :: (b + 2, 6, b + 4) :: (b + 2, 5, b + 4) :: (b + 2, 4, b + 4) :: (b + 2, 3, b + 4) :: (b + 2, 2, b + 4) :: (b + 2, 1, b + 4) :: (b + 2, 0, b + 4) :: []
set_option maxHeartbeats 4000000 in
set_option maxRecDepth 100000 in
theorem jn_X9 {l : Launch} {D : xD} {ty : xTy} {N b : Nat} {tR tP : List (Nat × Nat × Nat)} {tI tA : List (Nat × Nat × Int)} (hT : ∀ (j : Nat) (t : Nat × Nat), sh_X9[j]? = some t → ty (N + (b + j)) = some t) : Met l yX9_init (xws yX9_init cX9_init 2 none) jnr_X9 (xPn D ty N (b + 1) tR tI tP tA [.ref (N + b)]) (xQn D ty N (b + 7) (nr_X9 b ++ tR) (ni_X9 b ++ tI) (np_X9 b ++ tP) tA) 6 51 (xdom (tyN ty (N + (b + 7)))) := by
  refine g_met (by decide) rfl ?_
  intro p e s m below meth c C0 hnm hAO hG
  generalize hargs : ([.ref (N + b)] : List Value).toArray = args at C0 ⊢
  have hx := C0.1
  have hb := C0.2.1
  have hS : xL ty N (b + 1) s.heap s.heap [] := ⟨fun _ _ => rfl, fun _ h => absurd h List.not_mem_nil⟩
  have hl := lv_entry ([.ref (N + b)]) (n := 2) (Nat.le_of_ble_eq_true rfl)
  rw [← hargs, lg_entry_eq]
  rw [hargs]
  generalize (lg_sl ([.ref (N + b)]) ++ List.replicate (2 - (lg_sl ([.ref (N + b)])).length) Slot.unset).toArray = ls at hl ⊢
  have hl : lv_has ls 2 [(0, .ref (N + b))] := hl
  refine lv_aload_n hx hb dX9_init_0 rfl (lv_at hl 0 rfl) ?_
  refine g_obj C0 wj_X9_3 hl.1 (Nat.le_of_ble_eq_true rfl) (Nat.le_of_ble_eq_true rfl) dX9_init_1 ?_
  refine lv_aload_n hx hb dX9_init_4 rfl (lv_at hl 0 rfl) ?_
  refine lv_bipush (v := 16) hx hb dX9_init_5 (by decide) ?_
  refine g_newi (n1 := b + 2) (c1 := 1) (s1 := 16) C0 hG hS rfl rfl rfl (hT 1 _ rfl) (by decide) (by decide) (Nat.le_of_ble_eq_true rfl) (Nat.le_of_ble_eq_true rfl) (Nat.le_of_ble_eq_true rfl) dX9_init_7 (fun H hG hS => ?_)
  refine pn_X9_9 (q := b) (v := b + 1) C0 hG hS hnm (by omega) (hT 0 _ rfl) dX9_init_9 (fun H locs hG hS => ?_)
  refine lv_aload_n hx hb dX9_init_12 rfl (lv_at hl 0 rfl) ?_
  refine lv_bipush (v := 16) hx hb dX9_init_13 (by decide) ?_
  refine g_newp (n1 := b + 3) (c1 := 2) (s1 := 32) C0 hAO hG hS rfl rfl rfl (hT 2 _ rfl) wc_X9_15 (by decide) (by decide) (Nat.le_of_ble_eq_true rfl) (Nat.le_of_ble_eq_true rfl) (Nat.le_of_ble_eq_true rfl) dX9_init_15 (fun H hG hS => ?_)
  refine pn_X9_17 (q := b) (v := b + 2) C0 hG hS hnm (by omega) (hT 0 _ rfl) dX9_init_18 (fun H locs hG hS => ?_)
  refine lv_aload_n hx hb dX9_init_21 rfl (lv_at hl 0 rfl) ?_
  refine lv_bipush (v := 16) hx hb dX9_init_22 (by decide) ?_
  refine g_newi (n1 := b + 4) (c1 := 3) (s1 := 48) C0 hG hS rfl rfl rfl (hT 3 _ rfl) (by decide) (by decide) (Nat.le_of_ble_eq_true rfl) (Nat.le_of_ble_eq_true rfl) (Nat.le_of_ble_eq_true rfl) dX9_init_24 (fun H hG hS => ?_)
  refine pn_X9_21 (q := b) (v := b + 3) C0 hG hS hnm (by omega) (hT 0 _ rfl) dX9_init_26 (fun H locs hG hS => ?_)
  refine lv_aload_n hx hb dX9_init_29 rfl (lv_at hl 0 rfl) ?_
  refine g_newo (ci := 7) (M := 3) (T := TX7) (n1 := b + 5) (c1 := 4) (s1 := 51) C0 hG hS rfl rfl rfl (hT 4 _ rfl) rfl iX7 tyX7_ok wc_X9_15 wn_X7 wi_X7 df_X7 (Nat.le_of_ble_eq_true rfl) (Nat.le_of_ble_eq_true rfl) dX9_init_30 (fun H hG hS => ?_)
  refine lv_dup hx hb dX9_init_33 rfl ?_
  refine lv_iconst (v := 0) hx hb dX9_init_34 (by decide) ?_
  refine g_ctor (n2 := b + 7) (c2 := 6) (s2 := 51) (As := [.int 0]) (rest := [.ref (N + (b + 4)), .ref (N + (b))]) C0 hAO (jn_X7 (b := b + 4) (k := 0) (v := 0) (by decide) (by decide) (Nat.le_of_ble_eq_true rfl) (sub_ty (d := 4) (L2 := sh_X7 0) hT (by decide +kernel))) xm_X7_init xi_X7_init rfl wl_X9_24 ⟨rfl, rfl, (Nat.le_of_ble_eq_true rfl), (Nat.le_of_ble_eq_true rfl)⟩ hG hS (by omega) rfl rfl rfl hl.1 rfl (Nat.le_of_ble_eq_true rfl) ⟨(Nat.le_of_ble_eq_true rfl), (Nat.le_of_ble_eq_true rfl)⟩ dX9_init_35 (fun H locs hG hS => ?_)
  refine pn_X9_27 (q := b) (v := b + 4) C0 hG hS hnm (by omega) (hT 0 _ rfl) dX9_init_38 (fun H locs hG hS => ?_)
  refine lv_aload_n hx hb dX9_init_41 rfl (lv_at hl 0 rfl) ?_
  refine lv_iconst (v := 0) hx hb dX9_init_42 (by decide) ?_
  refine pn_X9_31 (q := b) (v := 0) C0 hG hS (by decide) (by omega) (hT 0 _ rfl) dX9_init_43 (fun H locs hG hS => ?_)
  refine lv_aload_n hx hb dX9_init_46 rfl (lv_at hl 0 rfl) ?_
  refine lv_iconst (v := 0) hx hb dX9_init_47 (by decide) ?_
  refine pn_X9_35 (q := b) (v := 0) C0 hG hS (by decide) (by omega) (hT 0 _ rfl) dX9_init_48 (fun H locs hG hS => ?_)
  refine lv_aload_n hx hb dX9_init_51 rfl (lv_at hl 0 rfl) ?_
  refine lv_iconst (v := 0) hx hb dX9_init_52 (by decide) ?_
  refine pn_X9_38 (q := b) (v := 0) C0 hG hS (by decide) (by omega) (hT 0 _ rfl) dX9_init_53 (fun H locs hG hS => ?_)
  refine lv_iconst (v := 0) hx hb dX9_init_56 (by decide) ?_
  refine lv_istore_n (lv' := [(1, .int 0), (0, .ref (N + (b)))]) hx hb dX9_init_57 rfl hl (by decide) rfl (fun ls hl => ?_)
  refine lv_iload_n hx hb dX9_init_58 rfl (lv_at hl 0 rfl) ?_
  refine lv_bipush (v := 16) hx hb dX9_init_59 (by decide) ?_
  refine lv_icmp_ge (tgt := 80) hx hb dX9_init_61 (by decide) (fun z => absurd z (by decide)) (fun _ => ?_)
  refine lv_aload_n hx hb dX9_init_64 rfl (lv_at hl 1 rfl) ?_
  refine gn_X9_17 (q := b) (v := b + 2) C0 hG (by omega) (hT 0 _ rfl) (by simp [lkp]) dX9_init_65 ?_
  refine lv_iload_n hx hb dX9_init_68 rfl (lv_at hl 0 rfl) ?_
  refine lv_aload_n hx hb dX9_init_69 rfl (lv_at hl 1 rfl) ?_
  refine gn_X9_27 (q := b) (v := b + 4) C0 hG (by omega) (hT 0 _ rfl) (by simp [lkp]) dX9_init_70 ?_
  refine g_aast (q := b + 2) (j := 0) (v := b + 4) (len := 16) C0 hG hS (by decide) (by decide) (Nat.le_of_ble_eq_true rfl) (by omega) (by omega) (hT 2 _ rfl) (hT 4 _ rfl) dX9_init_73 (fun H locs hG hS => ?_)
  refine lv_iinc (v := 1) (lv' := [(1, .int 1), (0, .ref (N + (b)))]) hx hb dX9_init_74 hl (k := 0) rfl (by decide) (by decide) rfl (fun ls hl => ?_)
  refine lv_goto (tgt := 58) hx hb dX9_init_77 (by decide) ?_
  refine lv_iload_n hx hb dX9_init_58 rfl (lv_at hl 0 rfl) ?_
  refine lv_bipush (v := 16) hx hb dX9_init_59 (by decide) ?_
  refine lv_icmp_ge (tgt := 80) hx hb dX9_init_61 (by decide) (fun z => absurd z (by decide)) (fun _ => ?_)
  refine lv_aload_n hx hb dX9_init_64 rfl (lv_at hl 1 rfl) ?_
  refine gn_X9_17 (q := b) (v := b + 2) C0 hG (by omega) (hT 0 _ rfl) (by simp [lkp]) dX9_init_65 ?_
  refine lv_iload_n hx hb dX9_init_68 rfl (lv_at hl 0 rfl) ?_
  refine lv_aload_n hx hb dX9_init_69 rfl (lv_at hl 1 rfl) ?_
  refine gn_X9_27 (q := b) (v := b + 4) C0 hG (by omega) (hT 0 _ rfl) (by simp [lkp]) dX9_init_70 ?_
  refine g_aast (q := b + 2) (j := 1) (v := b + 4) (len := 16) C0 hG hS (by decide) (by decide) (Nat.le_of_ble_eq_true rfl) (by omega) (by omega) (hT 2 _ rfl) (hT 4 _ rfl) dX9_init_73 (fun H locs hG hS => ?_)
  refine lv_iinc (v := 2) (lv' := [(1, .int 2), (0, .ref (N + (b)))]) hx hb dX9_init_74 hl (k := 0) rfl (by decide) (by decide) rfl (fun ls hl => ?_)
  refine lv_goto (tgt := 58) hx hb dX9_init_77 (by decide) ?_
  refine lv_iload_n hx hb dX9_init_58 rfl (lv_at hl 0 rfl) ?_
  refine lv_bipush (v := 16) hx hb dX9_init_59 (by decide) ?_
  refine lv_icmp_ge (tgt := 80) hx hb dX9_init_61 (by decide) (fun z => absurd z (by decide)) (fun _ => ?_)
  refine lv_aload_n hx hb dX9_init_64 rfl (lv_at hl 1 rfl) ?_
  refine gn_X9_17 (q := b) (v := b + 2) C0 hG (by omega) (hT 0 _ rfl) (by simp [lkp]) dX9_init_65 ?_
  refine lv_iload_n hx hb dX9_init_68 rfl (lv_at hl 0 rfl) ?_
  refine lv_aload_n hx hb dX9_init_69 rfl (lv_at hl 1 rfl) ?_
  refine gn_X9_27 (q := b) (v := b + 4) C0 hG (by omega) (hT 0 _ rfl) (by simp [lkp]) dX9_init_70 ?_
  refine g_aast (q := b + 2) (j := 2) (v := b + 4) (len := 16) C0 hG hS (by decide) (by decide) (Nat.le_of_ble_eq_true rfl) (by omega) (by omega) (hT 2 _ rfl) (hT 4 _ rfl) dX9_init_73 (fun H locs hG hS => ?_)
  refine lv_iinc (v := 3) (lv' := [(1, .int 3), (0, .ref (N + (b)))]) hx hb dX9_init_74 hl (k := 0) rfl (by decide) (by decide) rfl (fun ls hl => ?_)
  refine lv_goto (tgt := 58) hx hb dX9_init_77 (by decide) ?_
  refine lv_iload_n hx hb dX9_init_58 rfl (lv_at hl 0 rfl) ?_
  refine lv_bipush (v := 16) hx hb dX9_init_59 (by decide) ?_
  refine lv_icmp_ge (tgt := 80) hx hb dX9_init_61 (by decide) (fun z => absurd z (by decide)) (fun _ => ?_)
  refine lv_aload_n hx hb dX9_init_64 rfl (lv_at hl 1 rfl) ?_
  refine gn_X9_17 (q := b) (v := b + 2) C0 hG (by omega) (hT 0 _ rfl) (by simp [lkp]) dX9_init_65 ?_
  refine lv_iload_n hx hb dX9_init_68 rfl (lv_at hl 0 rfl) ?_
  refine lv_aload_n hx hb dX9_init_69 rfl (lv_at hl 1 rfl) ?_
  refine gn_X9_27 (q := b) (v := b + 4) C0 hG (by omega) (hT 0 _ rfl) (by simp [lkp]) dX9_init_70 ?_
  refine g_aast (q := b + 2) (j := 3) (v := b + 4) (len := 16) C0 hG hS (by decide) (by decide) (Nat.le_of_ble_eq_true rfl) (by omega) (by omega) (hT 2 _ rfl) (hT 4 _ rfl) dX9_init_73 (fun H locs hG hS => ?_)
  refine lv_iinc (v := 4) (lv' := [(1, .int 4), (0, .ref (N + (b)))]) hx hb dX9_init_74 hl (k := 0) rfl (by decide) (by decide) rfl (fun ls hl => ?_)
  refine lv_goto (tgt := 58) hx hb dX9_init_77 (by decide) ?_
  refine lv_iload_n hx hb dX9_init_58 rfl (lv_at hl 0 rfl) ?_
  refine lv_bipush (v := 16) hx hb dX9_init_59 (by decide) ?_
  refine lv_icmp_ge (tgt := 80) hx hb dX9_init_61 (by decide) (fun z => absurd z (by decide)) (fun _ => ?_)
  refine lv_aload_n hx hb dX9_init_64 rfl (lv_at hl 1 rfl) ?_
  refine gn_X9_17 (q := b) (v := b + 2) C0 hG (by omega) (hT 0 _ rfl) (by simp [lkp]) dX9_init_65 ?_
  refine lv_iload_n hx hb dX9_init_68 rfl (lv_at hl 0 rfl) ?_
  refine lv_aload_n hx hb dX9_init_69 rfl (lv_at hl 1 rfl) ?_
  refine gn_X9_27 (q := b) (v := b + 4) C0 hG (by omega) (hT 0 _ rfl) (by simp [lkp]) dX9_init_70 ?_
  refine g_aast (q := b + 2) (j := 4) (v := b + 4) (len := 16) C0 hG hS (by decide) (by decide) (Nat.le_of_ble_eq_true rfl) (by omega) (by omega) (hT 2 _ rfl) (hT 4 _ rfl) dX9_init_73 (fun H locs hG hS => ?_)
  refine lv_iinc (v := 5) (lv' := [(1, .int 5), (0, .ref (N + (b)))]) hx hb dX9_init_74 hl (k := 0) rfl (by decide) (by decide) rfl (fun ls hl => ?_)
  refine lv_goto (tgt := 58) hx hb dX9_init_77 (by decide) ?_
  refine lv_iload_n hx hb dX9_init_58 rfl (lv_at hl 0 rfl) ?_
  refine lv_bipush (v := 16) hx hb dX9_init_59 (by decide) ?_
  refine lv_icmp_ge (tgt := 80) hx hb dX9_init_61 (by decide) (fun z => absurd z (by decide)) (fun _ => ?_)
  refine lv_aload_n hx hb dX9_init_64 rfl (lv_at hl 1 rfl) ?_
  refine gn_X9_17 (q := b) (v := b + 2) C0 hG (by omega) (hT 0 _ rfl) (by simp [lkp]) dX9_init_65 ?_
  refine lv_iload_n hx hb dX9_init_68 rfl (lv_at hl 0 rfl) ?_
  refine lv_aload_n hx hb dX9_init_69 rfl (lv_at hl 1 rfl) ?_
  refine gn_X9_27 (q := b) (v := b + 4) C0 hG (by omega) (hT 0 _ rfl) (by simp [lkp]) dX9_init_70 ?_
  refine g_aast (q := b + 2) (j := 5) (v := b + 4) (len := 16) C0 hG hS (by decide) (by decide) (Nat.le_of_ble_eq_true rfl) (by omega) (by omega) (hT 2 _ rfl) (hT 4 _ rfl) dX9_init_73 (fun H locs hG hS => ?_)
  refine lv_iinc (v := 6) (lv' := [(1, .int 6), (0, .ref (N + (b)))]) hx hb dX9_init_74 hl (k := 0) rfl (by decide) (by decide) rfl (fun ls hl => ?_)
  refine lv_goto (tgt := 58) hx hb dX9_init_77 (by decide) ?_
  refine lv_iload_n hx hb dX9_init_58 rfl (lv_at hl 0 rfl) ?_
  refine lv_bipush (v := 16) hx hb dX9_init_59 (by decide) ?_
  refine lv_icmp_ge (tgt := 80) hx hb dX9_init_61 (by decide) (fun z => absurd z (by decide)) (fun _ => ?_)
  refine lv_aload_n hx hb dX9_init_64 rfl (lv_at hl 1 rfl) ?_
  refine gn_X9_17 (q := b) (v := b + 2) C0 hG (by omega) (hT 0 _ rfl) (by simp [lkp]) dX9_init_65 ?_
  refine lv_iload_n hx hb dX9_init_68 rfl (lv_at hl 0 rfl) ?_
  refine lv_aload_n hx hb dX9_init_69 rfl (lv_at hl 1 rfl) ?_
  refine gn_X9_27 (q := b) (v := b + 4) C0 hG (by omega) (hT 0 _ rfl) (by simp [lkp]) dX9_init_70 ?_
  refine g_aast (q := b + 2) (j := 6) (v := b + 4) (len := 16) C0 hG hS (by decide) (by decide) (Nat.le_of_ble_eq_true rfl) (by omega) (by omega) (hT 2 _ rfl) (hT 4 _ rfl) dX9_init_73 (fun H locs hG hS => ?_)
  refine lv_iinc (v := 7) (lv' := [(1, .int 7), (0, .ref (N + (b)))]) hx hb dX9_init_74 hl (k := 0) rfl (by decide) (by decide) rfl (fun ls hl => ?_)
  refine lv_goto (tgt := 58) hx hb dX9_init_77 (by decide) ?_
  refine lv_iload_n hx hb dX9_init_58 rfl (lv_at hl 0 rfl) ?_
  refine lv_bipush (v := 16) hx hb dX9_init_59 (by decide) ?_
  refine lv_icmp_ge (tgt := 80) hx hb dX9_init_61 (by decide) (fun z => absurd z (by decide)) (fun _ => ?_)
  refine lv_aload_n hx hb dX9_init_64 rfl (lv_at hl 1 rfl) ?_
  refine gn_X9_17 (q := b) (v := b + 2) C0 hG (by omega) (hT 0 _ rfl) (by simp [lkp]) dX9_init_65 ?_
  refine lv_iload_n hx hb dX9_init_68 rfl (lv_at hl 0 rfl) ?_
  refine lv_aload_n hx hb dX9_init_69 rfl (lv_at hl 1 rfl) ?_
  refine gn_X9_27 (q := b) (v := b + 4) C0 hG (by omega) (hT 0 _ rfl) (by simp [lkp]) dX9_init_70 ?_
  refine g_aast (q := b + 2) (j := 7) (v := b + 4) (len := 16) C0 hG hS (by decide) (by decide) (Nat.le_of_ble_eq_true rfl) (by omega) (by omega) (hT 2 _ rfl) (hT 4 _ rfl) dX9_init_73 (fun H locs hG hS => ?_)
  refine lv_iinc (v := 8) (lv' := [(1, .int 8), (0, .ref (N + (b)))]) hx hb dX9_init_74 hl (k := 0) rfl (by decide) (by decide) rfl (fun ls hl => ?_)
  refine lv_goto (tgt := 58) hx hb dX9_init_77 (by decide) ?_
  refine lv_iload_n hx hb dX9_init_58 rfl (lv_at hl 0 rfl) ?_
  refine lv_bipush (v := 16) hx hb dX9_init_59 (by decide) ?_
  refine lv_icmp_ge (tgt := 80) hx hb dX9_init_61 (by decide) (fun z => absurd z (by decide)) (fun _ => ?_)
  refine lv_aload_n hx hb dX9_init_64 rfl (lv_at hl 1 rfl) ?_
  refine gn_X9_17 (q := b) (v := b + 2) C0 hG (by omega) (hT 0 _ rfl) (by simp [lkp]) dX9_init_65 ?_
  refine lv_iload_n hx hb dX9_init_68 rfl (lv_at hl 0 rfl) ?_
  refine lv_aload_n hx hb dX9_init_69 rfl (lv_at hl 1 rfl) ?_
  refine gn_X9_27 (q := b) (v := b + 4) C0 hG (by omega) (hT 0 _ rfl) (by simp [lkp]) dX9_init_70 ?_
  refine g_aast (q := b + 2) (j := 8) (v := b + 4) (len := 16) C0 hG hS (by decide) (by decide) (Nat.le_of_ble_eq_true rfl) (by omega) (by omega) (hT 2 _ rfl) (hT 4 _ rfl) dX9_init_73 (fun H locs hG hS => ?_)
  refine lv_iinc (v := 9) (lv' := [(1, .int 9), (0, .ref (N + (b)))]) hx hb dX9_init_74 hl (k := 0) rfl (by decide) (by decide) rfl (fun ls hl => ?_)
  refine lv_goto (tgt := 58) hx hb dX9_init_77 (by decide) ?_
  refine lv_iload_n hx hb dX9_init_58 rfl (lv_at hl 0 rfl) ?_
  refine lv_bipush (v := 16) hx hb dX9_init_59 (by decide) ?_
  refine lv_icmp_ge (tgt := 80) hx hb dX9_init_61 (by decide) (fun z => absurd z (by decide)) (fun _ => ?_)
  refine lv_aload_n hx hb dX9_init_64 rfl (lv_at hl 1 rfl) ?_
  refine gn_X9_17 (q := b) (v := b + 2) C0 hG (by omega) (hT 0 _ rfl) (by simp [lkp]) dX9_init_65 ?_
  refine lv_iload_n hx hb dX9_init_68 rfl (lv_at hl 0 rfl) ?_
  refine lv_aload_n hx hb dX9_init_69 rfl (lv_at hl 1 rfl) ?_
  refine gn_X9_27 (q := b) (v := b + 4) C0 hG (by omega) (hT 0 _ rfl) (by simp [lkp]) dX9_init_70 ?_
  refine g_aast (q := b + 2) (j := 9) (v := b + 4) (len := 16) C0 hG hS (by decide) (by decide) (Nat.le_of_ble_eq_true rfl) (by omega) (by omega) (hT 2 _ rfl) (hT 4 _ rfl) dX9_init_73 (fun H locs hG hS => ?_)
  refine lv_iinc (v := 10) (lv' := [(1, .int 10), (0, .ref (N + (b)))]) hx hb dX9_init_74 hl (k := 0) rfl (by decide) (by decide) rfl (fun ls hl => ?_)
  refine lv_goto (tgt := 58) hx hb dX9_init_77 (by decide) ?_
  refine lv_iload_n hx hb dX9_init_58 rfl (lv_at hl 0 rfl) ?_
  refine lv_bipush (v := 16) hx hb dX9_init_59 (by decide) ?_
  refine lv_icmp_ge (tgt := 80) hx hb dX9_init_61 (by decide) (fun z => absurd z (by decide)) (fun _ => ?_)
  refine lv_aload_n hx hb dX9_init_64 rfl (lv_at hl 1 rfl) ?_
  refine gn_X9_17 (q := b) (v := b + 2) C0 hG (by omega) (hT 0 _ rfl) (by simp [lkp]) dX9_init_65 ?_
  refine lv_iload_n hx hb dX9_init_68 rfl (lv_at hl 0 rfl) ?_
  refine lv_aload_n hx hb dX9_init_69 rfl (lv_at hl 1 rfl) ?_
  refine gn_X9_27 (q := b) (v := b + 4) C0 hG (by omega) (hT 0 _ rfl) (by simp [lkp]) dX9_init_70 ?_
  refine g_aast (q := b + 2) (j := 10) (v := b + 4) (len := 16) C0 hG hS (by decide) (by decide) (Nat.le_of_ble_eq_true rfl) (by omega) (by omega) (hT 2 _ rfl) (hT 4 _ rfl) dX9_init_73 (fun H locs hG hS => ?_)
  refine lv_iinc (v := 11) (lv' := [(1, .int 11), (0, .ref (N + (b)))]) hx hb dX9_init_74 hl (k := 0) rfl (by decide) (by decide) rfl (fun ls hl => ?_)
  refine lv_goto (tgt := 58) hx hb dX9_init_77 (by decide) ?_
  refine lv_iload_n hx hb dX9_init_58 rfl (lv_at hl 0 rfl) ?_
  refine lv_bipush (v := 16) hx hb dX9_init_59 (by decide) ?_
  refine lv_icmp_ge (tgt := 80) hx hb dX9_init_61 (by decide) (fun z => absurd z (by decide)) (fun _ => ?_)
  refine lv_aload_n hx hb dX9_init_64 rfl (lv_at hl 1 rfl) ?_
  refine gn_X9_17 (q := b) (v := b + 2) C0 hG (by omega) (hT 0 _ rfl) (by simp [lkp]) dX9_init_65 ?_
  refine lv_iload_n hx hb dX9_init_68 rfl (lv_at hl 0 rfl) ?_
  refine lv_aload_n hx hb dX9_init_69 rfl (lv_at hl 1 rfl) ?_
  refine gn_X9_27 (q := b) (v := b + 4) C0 hG (by omega) (hT 0 _ rfl) (by simp [lkp]) dX9_init_70 ?_
  refine g_aast (q := b + 2) (j := 11) (v := b + 4) (len := 16) C0 hG hS (by decide) (by decide) (Nat.le_of_ble_eq_true rfl) (by omega) (by omega) (hT 2 _ rfl) (hT 4 _ rfl) dX9_init_73 (fun H locs hG hS => ?_)
  refine lv_iinc (v := 12) (lv' := [(1, .int 12), (0, .ref (N + (b)))]) hx hb dX9_init_74 hl (k := 0) rfl (by decide) (by decide) rfl (fun ls hl => ?_)
  refine lv_goto (tgt := 58) hx hb dX9_init_77 (by decide) ?_
  refine lv_iload_n hx hb dX9_init_58 rfl (lv_at hl 0 rfl) ?_
  refine lv_bipush (v := 16) hx hb dX9_init_59 (by decide) ?_
  refine lv_icmp_ge (tgt := 80) hx hb dX9_init_61 (by decide) (fun z => absurd z (by decide)) (fun _ => ?_)
  refine lv_aload_n hx hb dX9_init_64 rfl (lv_at hl 1 rfl) ?_
  refine gn_X9_17 (q := b) (v := b + 2) C0 hG (by omega) (hT 0 _ rfl) (by simp [lkp]) dX9_init_65 ?_
  refine lv_iload_n hx hb dX9_init_68 rfl (lv_at hl 0 rfl) ?_
  refine lv_aload_n hx hb dX9_init_69 rfl (lv_at hl 1 rfl) ?_
  refine gn_X9_27 (q := b) (v := b + 4) C0 hG (by omega) (hT 0 _ rfl) (by simp [lkp]) dX9_init_70 ?_
  refine g_aast (q := b + 2) (j := 12) (v := b + 4) (len := 16) C0 hG hS (by decide) (by decide) (Nat.le_of_ble_eq_true rfl) (by omega) (by omega) (hT 2 _ rfl) (hT 4 _ rfl) dX9_init_73 (fun H locs hG hS => ?_)
  refine lv_iinc (v := 13) (lv' := [(1, .int 13), (0, .ref (N + (b)))]) hx hb dX9_init_74 hl (k := 0) rfl (by decide) (by decide) rfl (fun ls hl => ?_)
  refine lv_goto (tgt := 58) hx hb dX9_init_77 (by decide) ?_
  refine lv_iload_n hx hb dX9_init_58 rfl (lv_at hl 0 rfl) ?_
  refine lv_bipush (v := 16) hx hb dX9_init_59 (by decide) ?_
  refine lv_icmp_ge (tgt := 80) hx hb dX9_init_61 (by decide) (fun z => absurd z (by decide)) (fun _ => ?_)
  refine lv_aload_n hx hb dX9_init_64 rfl (lv_at hl 1 rfl) ?_
  refine gn_X9_17 (q := b) (v := b + 2) C0 hG (by omega) (hT 0 _ rfl) (by simp [lkp]) dX9_init_65 ?_
  refine lv_iload_n hx hb dX9_init_68 rfl (lv_at hl 0 rfl) ?_
  refine lv_aload_n hx hb dX9_init_69 rfl (lv_at hl 1 rfl) ?_
  refine gn_X9_27 (q := b) (v := b + 4) C0 hG (by omega) (hT 0 _ rfl) (by simp [lkp]) dX9_init_70 ?_
  refine g_aast (q := b + 2) (j := 13) (v := b + 4) (len := 16) C0 hG hS (by decide) (by decide) (Nat.le_of_ble_eq_true rfl) (by omega) (by omega) (hT 2 _ rfl) (hT 4 _ rfl) dX9_init_73 (fun H locs hG hS => ?_)
  refine lv_iinc (v := 14) (lv' := [(1, .int 14), (0, .ref (N + (b)))]) hx hb dX9_init_74 hl (k := 0) rfl (by decide) (by decide) rfl (fun ls hl => ?_)
  refine lv_goto (tgt := 58) hx hb dX9_init_77 (by decide) ?_
  refine lv_iload_n hx hb dX9_init_58 rfl (lv_at hl 0 rfl) ?_
  refine lv_bipush (v := 16) hx hb dX9_init_59 (by decide) ?_
  refine lv_icmp_ge (tgt := 80) hx hb dX9_init_61 (by decide) (fun z => absurd z (by decide)) (fun _ => ?_)
  refine lv_aload_n hx hb dX9_init_64 rfl (lv_at hl 1 rfl) ?_
  refine gn_X9_17 (q := b) (v := b + 2) C0 hG (by omega) (hT 0 _ rfl) (by simp [lkp]) dX9_init_65 ?_
  refine lv_iload_n hx hb dX9_init_68 rfl (lv_at hl 0 rfl) ?_
  refine lv_aload_n hx hb dX9_init_69 rfl (lv_at hl 1 rfl) ?_
  refine gn_X9_27 (q := b) (v := b + 4) C0 hG (by omega) (hT 0 _ rfl) (by simp [lkp]) dX9_init_70 ?_
  refine g_aast (q := b + 2) (j := 14) (v := b + 4) (len := 16) C0 hG hS (by decide) (by decide) (Nat.le_of_ble_eq_true rfl) (by omega) (by omega) (hT 2 _ rfl) (hT 4 _ rfl) dX9_init_73 (fun H locs hG hS => ?_)
  refine lv_iinc (v := 15) (lv' := [(1, .int 15), (0, .ref (N + (b)))]) hx hb dX9_init_74 hl (k := 0) rfl (by decide) (by decide) rfl (fun ls hl => ?_)
  refine lv_goto (tgt := 58) hx hb dX9_init_77 (by decide) ?_
  refine lv_iload_n hx hb dX9_init_58 rfl (lv_at hl 0 rfl) ?_
  refine lv_bipush (v := 16) hx hb dX9_init_59 (by decide) ?_
  refine lv_icmp_ge (tgt := 80) hx hb dX9_init_61 (by decide) (fun z => absurd z (by decide)) (fun _ => ?_)
  refine lv_aload_n hx hb dX9_init_64 rfl (lv_at hl 1 rfl) ?_
  refine gn_X9_17 (q := b) (v := b + 2) C0 hG (by omega) (hT 0 _ rfl) (by simp [lkp]) dX9_init_65 ?_
  refine lv_iload_n hx hb dX9_init_68 rfl (lv_at hl 0 rfl) ?_
  refine lv_aload_n hx hb dX9_init_69 rfl (lv_at hl 1 rfl) ?_
  refine gn_X9_27 (q := b) (v := b + 4) C0 hG (by omega) (hT 0 _ rfl) (by simp [lkp]) dX9_init_70 ?_
  refine g_aast (q := b + 2) (j := 15) (v := b + 4) (len := 16) C0 hG hS (by decide) (by decide) (Nat.le_of_ble_eq_true rfl) (by omega) (by omega) (hT 2 _ rfl) (hT 4 _ rfl) dX9_init_73 (fun H locs hG hS => ?_)
  refine lv_iinc (v := 16) (lv' := [(1, .int 16), (0, .ref (N + (b)))]) hx hb dX9_init_74 hl (k := 0) rfl (by decide) (by decide) rfl (fun ls hl => ?_)
  refine lv_goto (tgt := 58) hx hb dX9_init_77 (by decide) ?_
  refine lv_iload_n hx hb dX9_init_58 rfl (lv_at hl 0 rfl) ?_
  refine lv_bipush (v := 16) hx hb dX9_init_59 (by decide) ?_
  refine lv_icmp_ge (tgt := 80) hx hb dX9_init_61 (by decide) (fun _ => ?_) (fun z => absurd (by decide) z)
  have hG : xG D ty N (b + 7) (nr_X9 b ++ tR) (ni_X9 b ++ tI) (np_X9 b ++ tP) tA H := hG
  exact g_vret C0 hG hS dX9_init_80
theorem dX10_init_0 : decode cX10_init 0 = .ok (.aload_n 0, 1) := by decide +kernel
theorem dX10_init_1 : decode cX10_init 1 = .ok (.invokespecial 5, 3) := by decide +kernel
theorem wj_X10_5 : Cond.methodLink RX10 5 Lib.objectInit ∈ xT := xin 348 (by decide +kernel) rfl
theorem dX10_init_4 : decode cX10_init 4 = .ok (.aload_n 0, 1) := by decide +kernel
theorem dX10_init_5 : decode cX10_init 5 = .ok (.bipush 24, 2) := by decide +kernel
theorem dX10_init_7 : decode cX10_init 7 = .ok (.newarray .int, 2) := by decide +kernel
theorem dX10_init_9 : decode cX10_init 9 = .ok (.putfield 11, 3) := by decide +kernel
theorem dX10_init_12 : decode cX10_init 12 = .ok (.aload_n 0, 1) := by decide +kernel
theorem dX10_init_13 : decode cX10_init 13 = .ok (.bipush 24, 2) := by decide +kernel
theorem dX10_init_15 : decode cX10_init 15 = .ok (.newarray .int, 2) := by decide +kernel
theorem dX10_init_17 : decode cX10_init 17 = .ok (.putfield 15, 3) := by decide +kernel
theorem dX10_init_20 : decode cX10_init 20 = .ok (.aload_n 0, 1) := by decide +kernel
theorem dX10_init_21 : decode cX10_init 21 = .ok (.bipush 24, 2) := by decide +kernel
theorem dX10_init_23 : decode cX10_init 23 = .ok (.newarray .int, 2) := by decide +kernel
theorem dX10_init_25 : decode cX10_init 25 = .ok (.putfield 18, 3) := by decide +kernel
theorem dX10_init_28 : decode cX10_init 28 = .ok (.aload_n 0, 1) := by decide +kernel
theorem dX10_init_29 : decode cX10_init 29 = .ok (.bipush 24, 2) := by decide +kernel
theorem dX10_init_31 : decode cX10_init 31 = .ok (.newarray .int, 2) := by decide +kernel
theorem dX10_init_33 : decode cX10_init 33 = .ok (.putfield 21, 3) := by decide +kernel
theorem dX10_init_36 : decode cX10_init 36 = .ok (.aload_n 0, 1) := by decide +kernel
theorem dX10_init_37 : decode cX10_init 37 = .ok (.bipush 24, 2) := by decide +kernel
theorem dX10_init_39 : decode cX10_init 39 = .ok (.newarray .int, 2) := by decide +kernel
theorem dX10_init_41 : decode cX10_init 41 = .ok (.putfield 24, 3) := by decide +kernel
theorem dX10_init_44 : decode cX10_init 44 = .ok (.aload_n 0, 1) := by decide +kernel
theorem dX10_init_45 : decode cX10_init 45 = .ok (.bipush 24, 2) := by decide +kernel
theorem dX10_init_47 : decode cX10_init 47 = .ok (.newarray .int, 2) := by decide +kernel
theorem dX10_init_49 : decode cX10_init 49 = .ok (.putfield 27, 3) := by decide +kernel
theorem dX10_init_52 : decode cX10_init 52 = .ok (.aload_n 0, 1) := by decide +kernel
theorem dX10_init_53 : decode cX10_init 53 = .ok (.bipush 24, 2) := by decide +kernel
theorem dX10_init_55 : decode cX10_init 55 = .ok (.newarray .boolean, 2) := by decide +kernel
theorem dX10_init_57 : decode cX10_init 57 = .ok (.putfield 30, 3) := by decide +kernel
theorem dX10_init_60 : decode cX10_init 60 = .ok (.aload_n 0, 1) := by decide +kernel
theorem dX10_init_61 : decode cX10_init 61 = .ok (.bipush 73, 2) := by decide +kernel
theorem dX10_init_63 : decode cX10_init 63 = .ok (.newarray .int, 2) := by decide +kernel
theorem dX10_init_65 : decode cX10_init 65 = .ok (.putfield 34, 3) := by decide +kernel
theorem dX10_init_68 : decode cX10_init 68 = .ok (.aload_n 0, 1) := by decide +kernel
theorem dX10_init_69 : decode cX10_init 69 = .ok (.bipush 73, 2) := by decide +kernel
theorem dX10_init_71 : decode cX10_init 71 = .ok (.newarray .int, 2) := by decide +kernel
theorem dX10_init_73 : decode cX10_init 73 = .ok (.putfield 37, 3) := by decide +kernel
theorem dX10_init_76 : decode cX10_init 76 = .ok (.aload_n 0, 1) := by decide +kernel
theorem dX10_init_77 : decode cX10_init 77 = .ok (.sipush 181, 3) := by decide +kernel
theorem dX10_init_80 : decode cX10_init 80 = .ok (.newarray .int, 2) := by decide +kernel
theorem dX10_init_82 : decode cX10_init 82 = .ok (.putfield 40, 3) := by decide +kernel
theorem dX10_init_85 : decode cX10_init 85 = .ok (.aload_n 0, 1) := by decide +kernel
theorem dX10_init_86 : decode cX10_init 86 = .ok (.new 43, 3) := by decide +kernel
theorem wc_X10_43 : Cond.classLink RX10 43 RX7 ∈ xT := xin 349 (by decide +kernel) rfl
theorem dX10_init_89 : decode cX10_init 89 = .ok (.dup, 1) := by decide +kernel
theorem dX10_init_90 : decode cX10_init 90 = .ok (.bipush 60, 2) := by decide +kernel
theorem dX10_init_92 : decode cX10_init 92 = .ok (.invokespecial 45, 3) := by decide +kernel
theorem wl_X10_45 : Cond.methodLink RX10 45 yX7_init ∈ xT := xin 350 (by decide +kernel) rfl
theorem dX10_init_95 : decode cX10_init 95 = .ok (.putfield 48, 3) := by decide +kernel
theorem dX10_init_98 : decode cX10_init 98 = .ok (.aload_n 0, 1) := by decide +kernel
theorem dX10_init_99 : decode cX10_init 99 = .ok (.iconst 0, 1) := by decide +kernel
theorem dX10_init_100 : decode cX10_init 100 = .ok (.putfield 52, 3) := by decide +kernel
theorem dX10_init_103 : decode cX10_init 103 = .ok (.aload_n 0, 1) := by decide +kernel
theorem dX10_init_104 : decode cX10_init 104 = .ok (.iconst 0, 1) := by decide +kernel
theorem dX10_init_105 : decode cX10_init 105 = .ok (.putfield 56, 3) := by decide +kernel
theorem dX10_init_108 : decode cX10_init 108 = .ok (.aload_n 0, 1) := by decide +kernel
theorem dX10_init_109 : decode cX10_init 109 = .ok (.iconst 0, 1) := by decide +kernel
theorem dX10_init_110 : decode cX10_init 110 = .ok (.putfield 59, 3) := by decide +kernel
theorem dX10_init_113 : decode cX10_init 113 = .ok (.aload_n 0, 1) := by decide +kernel
theorem dX10_init_114 : decode cX10_init 114 = .ok (.iconst 0, 1) := by decide +kernel
theorem dX10_init_115 : decode cX10_init 115 = .ok (.putfield 62, 3) := by decide +kernel
theorem dX10_init_118 : decode cX10_init 118 = .ok (.return_, 1) := by decide +kernel
theorem xm_X10_init : xMw yX10_init cX10_init 1 none 0 := ⟨xin 347 (by decide +kernel) rfl, xin 122 (by decide +kernel) rfl, by decide +kernel⟩
theorem xi_X10_init : Cond.instanceMethod yX10_init ∈ xT := xin 346 (by decide +kernel) rfl
section GN_X10_init
variable {p : Program} {l : Launch} {e : Env} {R : Room} {s : State} {m : MethodId} {args : Array Value} {below : List Frame} {meth : Method} {c : Code} {H H0 : Heap} {locs : List Loc} {cells slots : Nat} {Q : State → Prop} {cc : ByteArray} {nL pc : Nat} {rt : Option FieldType} {ls : Array Slot} {rest : List Value} {D : xD} {ty : xTy} {N n : Nat} {tR tP : List (Nat × Nat × Nat)} {tI tA : List (Nat × Nat × Int)}
theorem pn_X10_11 {q v : Nat} (C0 : xC D RX10 cc nL rt p s m args meth c) (hG : xG D ty N n tR tI tP tA H) (hS : xL ty N n H0 H locs) (hin2 : meth.name = "<init>") (hq : q < n) (ht : ty (N + q) = some (0, 10)) (hdg : decode cc pc = .ok (.putfield 11, 3)) (kk : ∀ (H1 : Heap) (locs1 : List Loc), xG D ty N n ((q, 0, v) :: tR) tI tP tA H1 → xL ty N n H0 H1 locs1 → W p l e R s m args below meth c H1 locs1 cells slots Q (F0 m (pc + 3) ls rest)) : W p l e R s m args below meth c H locs cells slots Q (F0 m pc ls (.ref (N + v) :: .ref (N + q) :: rest)) := g_putrF C0 hG hS (ci := 10) (k := 0) (M := 15) (T := TX10) rfl iX10 tyX10_ok nmX10 (by decide) rfl rfl rfl wf_X10_11 rfl hin2 hq ht hdg kk
theorem pn_X10_15 {q v : Nat} (C0 : xC D RX10 cc nL rt p s m args meth c) (hG : xG D ty N n tR tI tP tA H) (hS : xL ty N n H0 H locs) (hin2 : meth.name = "<init>") (hq : q < n) (ht : ty (N + q) = some (0, 10)) (hdg : decode cc pc = .ok (.putfield 15, 3)) (kk : ∀ (H1 : Heap) (locs1 : List Loc), xG D ty N n ((q, 1, v) :: tR) tI tP tA H1 → xL ty N n H0 H1 locs1 → W p l e R s m args below meth c H1 locs1 cells slots Q (F0 m (pc + 3) ls rest)) : W p l e R s m args below meth c H locs cells slots Q (F0 m pc ls (.ref (N + v) :: .ref (N + q) :: rest)) := g_putrF C0 hG hS (ci := 10) (k := 1) (M := 15) (T := TX10) rfl iX10 tyX10_ok nmX10 (by decide) rfl rfl rfl wf_X10_15 rfl hin2 hq ht hdg kk
theorem pn_X10_18 {q v : Nat} (C0 : xC D RX10 cc nL rt p s m args meth c) (hG : xG D ty N n tR tI tP tA H) (hS : xL ty N n H0 H locs) (hin2 : meth.name = "<init>") (hq : q < n) (ht : ty (N + q) = some (0, 10)) (hdg : decode cc pc = .ok (.putfield 18, 3)) (kk : ∀ (H1 : Heap) (locs1 : List Loc), xG D ty N n ((q, 2, v) :: tR) tI tP tA H1 → xL ty N n H0 H1 locs1 → W p l e R s m args below meth c H1 locs1 cells slots Q (F0 m (pc + 3) ls rest)) : W p l e R s m args below meth c H locs cells slots Q (F0 m pc ls (.ref (N + v) :: .ref (N + q) :: rest)) := g_putrF C0 hG hS (ci := 10) (k := 2) (M := 15) (T := TX10) rfl iX10 tyX10_ok nmX10 (by decide) rfl rfl rfl wf_X10_18 rfl hin2 hq ht hdg kk
theorem pn_X10_21 {q v : Nat} (C0 : xC D RX10 cc nL rt p s m args meth c) (hG : xG D ty N n tR tI tP tA H) (hS : xL ty N n H0 H locs) (hin2 : meth.name = "<init>") (hq : q < n) (ht : ty (N + q) = some (0, 10)) (hdg : decode cc pc = .ok (.putfield 21, 3)) (kk : ∀ (H1 : Heap) (locs1 : List Loc), xG D ty N n ((q, 3, v) :: tR) tI tP tA H1 → xL ty N n H0 H1 locs1 → W p l e R s m args below meth c H1 locs1 cells slots Q (F0 m (pc + 3) ls rest)) : W p l e R s m args below meth c H locs cells slots Q (F0 m pc ls (.ref (N + v) :: .ref (N + q) :: rest)) := g_putrF C0 hG hS (ci := 10) (k := 3) (M := 15) (T := TX10) rfl iX10 tyX10_ok nmX10 (by decide) rfl rfl rfl wf_X10_21 rfl hin2 hq ht hdg kk
theorem pn_X10_24 {q v : Nat} (C0 : xC D RX10 cc nL rt p s m args meth c) (hG : xG D ty N n tR tI tP tA H) (hS : xL ty N n H0 H locs) (hin2 : meth.name = "<init>") (hq : q < n) (ht : ty (N + q) = some (0, 10)) (hdg : decode cc pc = .ok (.putfield 24, 3)) (kk : ∀ (H1 : Heap) (locs1 : List Loc), xG D ty N n ((q, 4, v) :: tR) tI tP tA H1 → xL ty N n H0 H1 locs1 → W p l e R s m args below meth c H1 locs1 cells slots Q (F0 m (pc + 3) ls rest)) : W p l e R s m args below meth c H locs cells slots Q (F0 m pc ls (.ref (N + v) :: .ref (N + q) :: rest)) := g_putrF C0 hG hS (ci := 10) (k := 4) (M := 15) (T := TX10) rfl iX10 tyX10_ok nmX10 (by decide) rfl rfl rfl wf_X10_24 rfl hin2 hq ht hdg kk
theorem pn_X10_27 {q v : Nat} (C0 : xC D RX10 cc nL rt p s m args meth c) (hG : xG D ty N n tR tI tP tA H) (hS : xL ty N n H0 H locs) (hin2 : meth.name = "<init>") (hq : q < n) (ht : ty (N + q) = some (0, 10)) (hdg : decode cc pc = .ok (.putfield 27, 3)) (kk : ∀ (H1 : Heap) (locs1 : List Loc), xG D ty N n ((q, 5, v) :: tR) tI tP tA H1 → xL ty N n H0 H1 locs1 → W p l e R s m args below meth c H1 locs1 cells slots Q (F0 m (pc + 3) ls rest)) : W p l e R s m args below meth c H locs cells slots Q (F0 m pc ls (.ref (N + v) :: .ref (N + q) :: rest)) := g_putrF C0 hG hS (ci := 10) (k := 5) (M := 15) (T := TX10) rfl iX10 tyX10_ok nmX10 (by decide) rfl rfl rfl wf_X10_27 rfl hin2 hq ht hdg kk
theorem pn_X10_30 {q v : Nat} (C0 : xC D RX10 cc nL rt p s m args meth c) (hG : xG D ty N n tR tI tP tA H) (hS : xL ty N n H0 H locs) (hin2 : meth.name = "<init>") (hq : q < n) (ht : ty (N + q) = some (0, 10)) (hdg : decode cc pc = .ok (.putfield 30, 3)) (kk : ∀ (H1 : Heap) (locs1 : List Loc), xG D ty N n ((q, 6, v) :: tR) tI tP tA H1 → xL ty N n H0 H1 locs1 → W p l e R s m args below meth c H1 locs1 cells slots Q (F0 m (pc + 3) ls rest)) : W p l e R s m args below meth c H locs cells slots Q (F0 m pc ls (.ref (N + v) :: .ref (N + q) :: rest)) := g_putrF C0 hG hS (ci := 10) (k := 6) (M := 15) (T := TX10) rfl iX10 tyX10_ok nmX10 (by decide) rfl rfl rfl wf_X10_30 rfl hin2 hq ht hdg kk
theorem pn_X10_34 {q v : Nat} (C0 : xC D RX10 cc nL rt p s m args meth c) (hG : xG D ty N n tR tI tP tA H) (hS : xL ty N n H0 H locs) (hin2 : meth.name = "<init>") (hq : q < n) (ht : ty (N + q) = some (0, 10)) (hdg : decode cc pc = .ok (.putfield 34, 3)) (kk : ∀ (H1 : Heap) (locs1 : List Loc), xG D ty N n ((q, 7, v) :: tR) tI tP tA H1 → xL ty N n H0 H1 locs1 → W p l e R s m args below meth c H1 locs1 cells slots Q (F0 m (pc + 3) ls rest)) : W p l e R s m args below meth c H locs cells slots Q (F0 m pc ls (.ref (N + v) :: .ref (N + q) :: rest)) := g_putrF C0 hG hS (ci := 10) (k := 7) (M := 15) (T := TX10) rfl iX10 tyX10_ok nmX10 (by decide) rfl rfl rfl wf_X10_34 rfl hin2 hq ht hdg kk
theorem pn_X10_37 {q v : Nat} (C0 : xC D RX10 cc nL rt p s m args meth c) (hG : xG D ty N n tR tI tP tA H) (hS : xL ty N n H0 H locs) (hin2 : meth.name = "<init>") (hq : q < n) (ht : ty (N + q) = some (0, 10)) (hdg : decode cc pc = .ok (.putfield 37, 3)) (kk : ∀ (H1 : Heap) (locs1 : List Loc), xG D ty N n ((q, 8, v) :: tR) tI tP tA H1 → xL ty N n H0 H1 locs1 → W p l e R s m args below meth c H1 locs1 cells slots Q (F0 m (pc + 3) ls rest)) : W p l e R s m args below meth c H locs cells slots Q (F0 m pc ls (.ref (N + v) :: .ref (N + q) :: rest)) := g_putrF C0 hG hS (ci := 10) (k := 8) (M := 15) (T := TX10) rfl iX10 tyX10_ok nmX10 (by decide) rfl rfl rfl wf_X10_37 rfl hin2 hq ht hdg kk
theorem pn_X10_40 {q v : Nat} (C0 : xC D RX10 cc nL rt p s m args meth c) (hG : xG D ty N n tR tI tP tA H) (hS : xL ty N n H0 H locs) (hin2 : meth.name = "<init>") (hq : q < n) (ht : ty (N + q) = some (0, 10)) (hdg : decode cc pc = .ok (.putfield 40, 3)) (kk : ∀ (H1 : Heap) (locs1 : List Loc), xG D ty N n ((q, 9, v) :: tR) tI tP tA H1 → xL ty N n H0 H1 locs1 → W p l e R s m args below meth c H1 locs1 cells slots Q (F0 m (pc + 3) ls rest)) : W p l e R s m args below meth c H locs cells slots Q (F0 m pc ls (.ref (N + v) :: .ref (N + q) :: rest)) := g_putrF C0 hG hS (ci := 10) (k := 9) (M := 15) (T := TX10) rfl iX10 tyX10_ok nmX10 (by decide) rfl rfl rfl wf_X10_40 rfl hin2 hq ht hdg kk
theorem pn_X10_48 {q v : Nat} (C0 : xC D RX10 cc nL rt p s m args meth c) (hG : xG D ty N n tR tI tP tA H) (hS : xL ty N n H0 H locs) (hin2 : meth.name = "<init>") (hq : q < n) (ht : ty (N + q) = some (0, 10)) (hdg : decode cc pc = .ok (.putfield 48, 3)) (kk : ∀ (H1 : Heap) (locs1 : List Loc), xG D ty N n ((q, 10, v) :: tR) tI tP tA H1 → xL ty N n H0 H1 locs1 → W p l e R s m args below meth c H1 locs1 cells slots Q (F0 m (pc + 3) ls rest)) : W p l e R s m args below meth c H locs cells slots Q (F0 m pc ls (.ref (N + v) :: .ref (N + q) :: rest)) := g_putrF C0 hG hS (ci := 10) (k := 10) (M := 15) (T := TX10) rfl iX10 tyX10_ok nmX10 (by decide) rfl rfl rfl wf_X10_48 rfl hin2 hq ht hdg kk
theorem pn_X10_52 {q : Nat} {v : Int} {w : Int32} (C0 : xC D RX10 cc nL rt p s m args meth c) (hG : xG D ty N n tR tI tP tA H) (hS : xL ty N n H0 H locs) (hw : w = i32 v) (hq : q < n) (ht : ty (N + q) = some (0, 10)) (hdg : decode cc pc = .ok (.putfield 52, 3)) (kk : ∀ (H1 : Heap) (locs1 : List Loc), xG D ty N n tR ((q, 11, v) :: tI) tP tA H1 → xL ty N n H0 H1 locs1 → W p l e R s m args below meth c H1 locs1 cells slots Q (F0 m (pc + 3) ls rest)) : W p l e R s m args below meth c H locs cells slots Q (F0 m pc ls (.int w :: .ref (N + q) :: rest)) := g_puti C0 hG hS (ci := 10) (k := 11) (M := 15) (T := TX10) rfl iX10 tyX10_ok nmX10 (by decide) rfl rfl wf_X10_52 (Or.inl rfl) hw rfl rfl hq ht hdg kk
theorem pn_X10_56 {q : Nat} {v : Int} {w : Int32} (C0 : xC D RX10 cc nL rt p s m args meth c) (hG : xG D ty N n tR tI tP tA H) (hS : xL ty N n H0 H locs) (hw : w = i32 v) (hq : q < n) (ht : ty (N + q) = some (0, 10)) (hdg : decode cc pc = .ok (.putfield 56, 3)) (kk : ∀ (H1 : Heap) (locs1 : List Loc), xG D ty N n tR ((q, 12, v) :: tI) tP tA H1 → xL ty N n H0 H1 locs1 → W p l e R s m args below meth c H1 locs1 cells slots Q (F0 m (pc + 3) ls rest)) : W p l e R s m args below meth c H locs cells slots Q (F0 m pc ls (.int w :: .ref (N + q) :: rest)) := g_puti C0 hG hS (ci := 10) (k := 12) (M := 15) (T := TX10) rfl iX10 tyX10_ok nmX10 (by decide) rfl rfl wf_X10_56 (Or.inl rfl) hw rfl rfl hq ht hdg kk
theorem pn_X10_59 {q : Nat} {v : Int} {w : Int32} (C0 : xC D RX10 cc nL rt p s m args meth c) (hG : xG D ty N n tR tI tP tA H) (hS : xL ty N n H0 H locs) (hw : w = i32 v) (hq : q < n) (ht : ty (N + q) = some (0, 10)) (hdg : decode cc pc = .ok (.putfield 59, 3)) (kk : ∀ (H1 : Heap) (locs1 : List Loc), xG D ty N n tR ((q, 13, v) :: tI) tP tA H1 → xL ty N n H0 H1 locs1 → W p l e R s m args below meth c H1 locs1 cells slots Q (F0 m (pc + 3) ls rest)) : W p l e R s m args below meth c H locs cells slots Q (F0 m pc ls (.int w :: .ref (N + q) :: rest)) := g_puti C0 hG hS (ci := 10) (k := 13) (M := 15) (T := TX10) rfl iX10 tyX10_ok nmX10 (by decide) rfl rfl wf_X10_59 (Or.inl rfl) hw rfl rfl hq ht hdg kk
theorem pn_X10_62 {q : Nat} {v : Int} {w : Int32} (C0 : xC D RX10 cc nL rt p s m args meth c) (hG : xG D ty N n tR tI tP tA H) (hS : xL ty N n H0 H locs) (hw : w = i32 v) (hq : q < n) (ht : ty (N + q) = some (0, 10)) (hdg : decode cc pc = .ok (.putfield 62, 3)) (kk : ∀ (H1 : Heap) (locs1 : List Loc), xG D ty N n tR ((q, 14, v) :: tI) tP tA H1 → xL ty N n H0 H1 locs1 → W p l e R s m args below meth c H1 locs1 cells slots Q (F0 m (pc + 3) ls rest)) : W p l e R s m args below meth c H locs cells slots Q (F0 m pc ls (.int w :: .ref (N + q) :: rest)) := g_puti C0 hG hS (ci := 10) (k := 14) (M := 15) (T := TX10) rfl iX10 tyX10_ok nmX10 (by decide) rfl rfl wf_X10_62 (Or.inl rfl) hw rfl rfl hq ht hdg kk
end GN_X10_init
def sh_X10 : List (Nat × Nat) := [(0, 10), (1, 24), (1, 24), (1, 24), (1, 24), (1, 24), (1, 24), (2, 24), (1, 73), (1, 73), (1, 181), (0, 7), (1, 60), (1, 60)]
abbrev jnr_X10 : Room := { frames := 2, cells := 13, slots := 618, locals := 33 }
def nr_X10 (b : Nat) : List (Nat × Nat × Nat) := (b, 10, b + 11) :: (b + 11, 1, b + 13) :: (b + 11, 0, b + 12) :: (b, 9, b + 10) :: (b, 8, b + 9) :: (b, 7, b + 8) :: (b, 6, b + 7) :: (b, 5, b + 6) :: (b, 4, b + 5) :: (b, 3, b + 4) :: (b, 2, b + 3) :: (b, 1, b + 2) :: (b, 0, b + 1) :: []
def ni_X10 (b : Nat) : List (Nat × Nat × Int) := (b, 14, 0) :: (b, 13, 0) :: (b, 12, 0) :: (b, 11, 0) :: (b + 11, 2, 0) :: []
set_option maxHeartbeats 4000000 in
set_option maxRecDepth 100000 in
theorem jn_X10 {l : Launch} {D : xD} {ty : xTy} {N b : Nat} {tR tP : List (Nat × Nat × Nat)} {tI tA : List (Nat × Nat × Int)} (hT : ∀ (j : Nat) (t : Nat × Nat), sh_X10[j]? = some t → ty (N + (b + j)) = some t) : Met l yX10_init (xws yX10_init cX10_init 1 none) jnr_X10 (xPn D ty N (b + 1) tR tI tP tA [.ref (N + b)]) (xQn D ty N (b + 14) (nr_X10 b ++ tR) (ni_X10 b ++ tI) (tP) tA) 13 618 (xdom (tyN ty (N + (b + 14)))) := by
  refine g_met (by decide) rfl ?_
  intro p e s m below meth c C0 hnm hAO hG
  generalize hargs : ([.ref (N + b)] : List Value).toArray = args at C0 ⊢
  have hx := C0.1
  have hb := C0.2.1
  have hS : xL ty N (b + 1) s.heap s.heap [] := ⟨fun _ _ => rfl, fun _ h => absurd h List.not_mem_nil⟩
  have hl := lv_entry ([.ref (N + b)]) (n := 1) (Nat.le_of_ble_eq_true rfl)
  rw [← hargs, lg_entry_eq]
  rw [hargs]
  generalize (lg_sl ([.ref (N + b)]) ++ List.replicate (1 - (lg_sl ([.ref (N + b)])).length) Slot.unset).toArray = ls at hl ⊢
  have hl : lv_has ls 1 [(0, .ref (N + b))] := hl
  refine lv_aload_n hx hb dX10_init_0 rfl (lv_at hl 0 rfl) ?_
  refine g_obj C0 wj_X10_5 hl.1 (Nat.le_of_ble_eq_true rfl) (Nat.le_of_ble_eq_true rfl) dX10_init_1 ?_
  refine lv_aload_n hx hb dX10_init_4 rfl (lv_at hl 0 rfl) ?_
  refine lv_bipush (v := 24) hx hb dX10_init_5 (by decide) ?_
  refine g_newi (n1 := b + 2) (c1 := 1) (s1 := 24) C0 hG hS rfl rfl rfl (hT 1 _ rfl) (by decide) (by decide) (Nat.le_of_ble_eq_true rfl) (Nat.le_of_ble_eq_true rfl) (Nat.le_of_ble_eq_true rfl) dX10_init_7 (fun H hG hS => ?_)
  refine pn_X10_11 (q := b) (v := b + 1) C0 hG hS hnm (by omega) (hT 0 _ rfl) dX10_init_9 (fun H locs hG hS => ?_)
  refine lv_aload_n hx hb dX10_init_12 rfl (lv_at hl 0 rfl) ?_
  refine lv_bipush (v := 24) hx hb dX10_init_13 (by decide) ?_
  refine g_newi (n1 := b + 3) (c1 := 2) (s1 := 48) C0 hG hS rfl rfl rfl (hT 2 _ rfl) (by decide) (by decide) (Nat.le_of_ble_eq_true rfl) (Nat.le_of_ble_eq_true rfl) (Nat.le_of_ble_eq_true rfl) dX10_init_15 (fun H hG hS => ?_)
  refine pn_X10_15 (q := b) (v := b + 2) C0 hG hS hnm (by omega) (hT 0 _ rfl) dX10_init_17 (fun H locs hG hS => ?_)
  refine lv_aload_n hx hb dX10_init_20 rfl (lv_at hl 0 rfl) ?_
  refine lv_bipush (v := 24) hx hb dX10_init_21 (by decide) ?_
  refine g_newi (n1 := b + 4) (c1 := 3) (s1 := 72) C0 hG hS rfl rfl rfl (hT 3 _ rfl) (by decide) (by decide) (Nat.le_of_ble_eq_true rfl) (Nat.le_of_ble_eq_true rfl) (Nat.le_of_ble_eq_true rfl) dX10_init_23 (fun H hG hS => ?_)
  refine pn_X10_18 (q := b) (v := b + 3) C0 hG hS hnm (by omega) (hT 0 _ rfl) dX10_init_25 (fun H locs hG hS => ?_)
  refine lv_aload_n hx hb dX10_init_28 rfl (lv_at hl 0 rfl) ?_
  refine lv_bipush (v := 24) hx hb dX10_init_29 (by decide) ?_
  refine g_newi (n1 := b + 5) (c1 := 4) (s1 := 96) C0 hG hS rfl rfl rfl (hT 4 _ rfl) (by decide) (by decide) (Nat.le_of_ble_eq_true rfl) (Nat.le_of_ble_eq_true rfl) (Nat.le_of_ble_eq_true rfl) dX10_init_31 (fun H hG hS => ?_)
  refine pn_X10_21 (q := b) (v := b + 4) C0 hG hS hnm (by omega) (hT 0 _ rfl) dX10_init_33 (fun H locs hG hS => ?_)
  refine lv_aload_n hx hb dX10_init_36 rfl (lv_at hl 0 rfl) ?_
  refine lv_bipush (v := 24) hx hb dX10_init_37 (by decide) ?_
  refine g_newi (n1 := b + 6) (c1 := 5) (s1 := 120) C0 hG hS rfl rfl rfl (hT 5 _ rfl) (by decide) (by decide) (Nat.le_of_ble_eq_true rfl) (Nat.le_of_ble_eq_true rfl) (Nat.le_of_ble_eq_true rfl) dX10_init_39 (fun H hG hS => ?_)
  refine pn_X10_24 (q := b) (v := b + 5) C0 hG hS hnm (by omega) (hT 0 _ rfl) dX10_init_41 (fun H locs hG hS => ?_)
  refine lv_aload_n hx hb dX10_init_44 rfl (lv_at hl 0 rfl) ?_
  refine lv_bipush (v := 24) hx hb dX10_init_45 (by decide) ?_
  refine g_newi (n1 := b + 7) (c1 := 6) (s1 := 144) C0 hG hS rfl rfl rfl (hT 6 _ rfl) (by decide) (by decide) (Nat.le_of_ble_eq_true rfl) (Nat.le_of_ble_eq_true rfl) (Nat.le_of_ble_eq_true rfl) dX10_init_47 (fun H hG hS => ?_)
  refine pn_X10_27 (q := b) (v := b + 6) C0 hG hS hnm (by omega) (hT 0 _ rfl) dX10_init_49 (fun H locs hG hS => ?_)
  refine lv_aload_n hx hb dX10_init_52 rfl (lv_at hl 0 rfl) ?_
  refine lv_bipush (v := 24) hx hb dX10_init_53 (by decide) ?_
  refine g_newz (n1 := b + 8) (c1 := 7) (s1 := 168) C0 hG hS rfl rfl rfl (hT 7 _ rfl) (by decide) (by decide) (Nat.le_of_ble_eq_true rfl) (Nat.le_of_ble_eq_true rfl) (Nat.le_of_ble_eq_true rfl) dX10_init_55 (fun H hG hS => ?_)
  refine pn_X10_30 (q := b) (v := b + 7) C0 hG hS hnm (by omega) (hT 0 _ rfl) dX10_init_57 (fun H locs hG hS => ?_)
  refine lv_aload_n hx hb dX10_init_60 rfl (lv_at hl 0 rfl) ?_
  refine lv_bipush (v := 73) hx hb dX10_init_61 (by decide) ?_
  refine g_newi (n1 := b + 9) (c1 := 8) (s1 := 241) C0 hG hS rfl rfl rfl (hT 8 _ rfl) (by decide) (by decide) (Nat.le_of_ble_eq_true rfl) (Nat.le_of_ble_eq_true rfl) (Nat.le_of_ble_eq_true rfl) dX10_init_63 (fun H hG hS => ?_)
  refine pn_X10_34 (q := b) (v := b + 8) C0 hG hS hnm (by omega) (hT 0 _ rfl) dX10_init_65 (fun H locs hG hS => ?_)
  refine lv_aload_n hx hb dX10_init_68 rfl (lv_at hl 0 rfl) ?_
  refine lv_bipush (v := 73) hx hb dX10_init_69 (by decide) ?_
  refine g_newi (n1 := b + 10) (c1 := 9) (s1 := 314) C0 hG hS rfl rfl rfl (hT 9 _ rfl) (by decide) (by decide) (Nat.le_of_ble_eq_true rfl) (Nat.le_of_ble_eq_true rfl) (Nat.le_of_ble_eq_true rfl) dX10_init_71 (fun H hG hS => ?_)
  refine pn_X10_37 (q := b) (v := b + 9) C0 hG hS hnm (by omega) (hT 0 _ rfl) dX10_init_73 (fun H locs hG hS => ?_)
  refine lv_aload_n hx hb dX10_init_76 rfl (lv_at hl 0 rfl) ?_
  refine lv_sipush (v := 181) hx hb dX10_init_77 (by decide) ?_
  refine g_newi (n1 := b + 11) (c1 := 10) (s1 := 495) C0 hG hS rfl rfl rfl (hT 10 _ rfl) (by decide) (by decide) (Nat.le_of_ble_eq_true rfl) (Nat.le_of_ble_eq_true rfl) (Nat.le_of_ble_eq_true rfl) dX10_init_80 (fun H hG hS => ?_)
  refine pn_X10_40 (q := b) (v := b + 10) C0 hG hS hnm (by omega) (hT 0 _ rfl) dX10_init_82 (fun H locs hG hS => ?_)
  refine lv_aload_n hx hb dX10_init_85 rfl (lv_at hl 0 rfl) ?_
  refine g_newo (ci := 7) (M := 3) (T := TX7) (n1 := b + 12) (c1 := 11) (s1 := 498) C0 hG hS rfl rfl rfl (hT 11 _ rfl) rfl iX7 tyX7_ok wc_X10_43 wn_X7 wi_X7 df_X7 (Nat.le_of_ble_eq_true rfl) (Nat.le_of_ble_eq_true rfl) dX10_init_86 (fun H hG hS => ?_)
  refine lv_dup hx hb dX10_init_89 rfl ?_
  refine lv_bipush (v := 60) hx hb dX10_init_90 (by decide) ?_
  refine g_ctor (n2 := b + 14) (c2 := 13) (s2 := 618) (As := [.int 60]) (rest := [.ref (N + (b + 11)), .ref (N + (b))]) C0 hAO (jn_X7 (b := b + 11) (k := 60) (v := 60) (by decide) (by decide) (Nat.le_of_ble_eq_true rfl) (sub_ty (d := 11) (L2 := sh_X7 60) hT (by decide +kernel))) xm_X7_init xi_X7_init rfl wl_X10_45 ⟨rfl, rfl, (Nat.le_of_ble_eq_true rfl), (Nat.le_of_ble_eq_true rfl)⟩ hG hS (by omega) rfl rfl rfl hl.1 rfl (Nat.le_of_ble_eq_true rfl) ⟨(Nat.le_of_ble_eq_true rfl), (Nat.le_of_ble_eq_true rfl)⟩ dX10_init_92 (fun H locs hG hS => ?_)
  refine pn_X10_48 (q := b) (v := b + 11) C0 hG hS hnm (by omega) (hT 0 _ rfl) dX10_init_95 (fun H locs hG hS => ?_)
  refine lv_aload_n hx hb dX10_init_98 rfl (lv_at hl 0 rfl) ?_
  refine lv_iconst (v := 0) hx hb dX10_init_99 (by decide) ?_
  refine pn_X10_52 (q := b) (v := 0) C0 hG hS (by decide) (by omega) (hT 0 _ rfl) dX10_init_100 (fun H locs hG hS => ?_)
  refine lv_aload_n hx hb dX10_init_103 rfl (lv_at hl 0 rfl) ?_
  refine lv_iconst (v := 0) hx hb dX10_init_104 (by decide) ?_
  refine pn_X10_56 (q := b) (v := 0) C0 hG hS (by decide) (by omega) (hT 0 _ rfl) dX10_init_105 (fun H locs hG hS => ?_)
  refine lv_aload_n hx hb dX10_init_108 rfl (lv_at hl 0 rfl) ?_
  refine lv_iconst (v := 0) hx hb dX10_init_109 (by decide) ?_
  refine pn_X10_59 (q := b) (v := 0) C0 hG hS (by decide) (by omega) (hT 0 _ rfl) dX10_init_110 (fun H locs hG hS => ?_)
  refine lv_aload_n hx hb dX10_init_113 rfl (lv_at hl 0 rfl) ?_
  refine lv_iconst (v := 0) hx hb dX10_init_114 (by decide) ?_
  refine pn_X10_62 (q := b) (v := 0) C0 hG hS (by decide) (by omega) (hT 0 _ rfl) dX10_init_115 (fun H locs hG hS => ?_)
  have hG : xG D ty N (b + 14) (nr_X10 b ++ tR) (ni_X10 b ++ tI) (tP) tA H := hG
  exact g_vret C0 hG hS dX10_init_118
theorem dX0_init_0 : decode cX0_init 0 = .ok (.aload_n 0, 1) := by decide +kernel
theorem dX0_init_1 : decode cX0_init 1 = .ok (.invokespecial 3, 3) := by decide +kernel
theorem wj_X0_3 : Cond.methodLink RX0 3 Lib.objectInit ∈ xT := xin 147 (by decide +kernel) rfl
theorem dX0_init_4 : decode cX0_init 4 = .ok (.aload_n 0, 1) := by decide +kernel
theorem dX0_init_5 : decode cX0_init 5 = .ok (.bipush 8, 2) := by decide +kernel
theorem dX0_init_7 : decode cX0_init 7 = .ok (.newarray .int, 2) := by decide +kernel
theorem dX0_init_9 : decode cX0_init 9 = .ok (.putfield 9, 3) := by decide +kernel
theorem dX0_init_12 : decode cX0_init 12 = .ok (.aload_n 0, 1) := by decide +kernel
theorem dX0_init_13 : decode cX0_init 13 = .ok (.bipush 8, 2) := by decide +kernel
theorem dX0_init_15 : decode cX0_init 15 = .ok (.newarray .int, 2) := by decide +kernel
theorem dX0_init_17 : decode cX0_init 17 = .ok (.putfield 15, 3) := by decide +kernel
theorem dX0_init_20 : decode cX0_init 20 = .ok (.aload_n 0, 1) := by decide +kernel
theorem dX0_init_21 : decode cX0_init 21 = .ok (.iconst 4, 1) := by decide +kernel
theorem dX0_init_22 : decode cX0_init 22 = .ok (.newarray .int, 2) := by decide +kernel
theorem dX0_init_24 : decode cX0_init 24 = .ok (.putfield 18, 3) := by decide +kernel
theorem dX0_init_27 : decode cX0_init 27 = .ok (.aload_n 0, 1) := by decide +kernel
theorem dX0_init_28 : decode cX0_init 28 = .ok (.bipush 16, 2) := by decide +kernel
theorem dX0_init_30 : decode cX0_init 30 = .ok (.newarray .int, 2) := by decide +kernel
theorem dX0_init_32 : decode cX0_init 32 = .ok (.putfield 21, 3) := by decide +kernel
theorem dX0_init_35 : decode cX0_init 35 = .ok (.aload_n 0, 1) := by decide +kernel
theorem dX0_init_36 : decode cX0_init 36 = .ok (.bipush 16, 2) := by decide +kernel
theorem dX0_init_38 : decode cX0_init 38 = .ok (.anewarray 24, 3) := by decide +kernel
theorem wc_X0_24 : Cond.classLink RX0 24 RX7 ∈ xT := xin 148 (by decide +kernel) rfl
theorem dX0_init_41 : decode cX0_init 41 = .ok (.putfield 26, 3) := by decide +kernel
theorem dX0_init_44 : decode cX0_init 44 = .ok (.aload_n 0, 1) := by decide +kernel
theorem dX0_init_45 : decode cX0_init 45 = .ok (.bipush 16, 2) := by decide +kernel
theorem dX0_init_47 : decode cX0_init 47 = .ok (.anewarray 24, 3) := by decide +kernel
theorem dX0_init_50 : decode cX0_init 50 = .ok (.putfield 30, 3) := by decide +kernel
theorem dX0_init_53 : decode cX0_init 53 = .ok (.aload_n 0, 1) := by decide +kernel
theorem dX0_init_54 : decode cX0_init 54 = .ok (.new 24, 3) := by decide +kernel
theorem dX0_init_57 : decode cX0_init 57 = .ok (.dup, 1) := by decide +kernel
theorem dX0_init_58 : decode cX0_init 58 = .ok (.iconst 0, 1) := by decide +kernel
theorem dX0_init_59 : decode cX0_init 59 = .ok (.invokespecial 33, 3) := by decide +kernel
theorem wl_X0_33 : Cond.methodLink RX0 33 yX7_init ∈ xT := xin 151 (by decide +kernel) rfl
theorem dX0_init_62 : decode cX0_init 62 = .ok (.putfield 36, 3) := by decide +kernel
theorem dX0_init_65 : decode cX0_init 65 = .ok (.aload_n 0, 1) := by decide +kernel
theorem dX0_init_66 : decode cX0_init 66 = .ok (.iconst 0, 1) := by decide +kernel
theorem dX0_init_67 : decode cX0_init 67 = .ok (.putfield 40, 3) := by decide +kernel
theorem dX0_init_70 : decode cX0_init 70 = .ok (.aload_n 0, 1) := by decide +kernel
theorem dX0_init_71 : decode cX0_init 71 = .ok (.iconst 0, 1) := by decide +kernel
theorem dX0_init_72 : decode cX0_init 72 = .ok (.putfield 44, 3) := by decide +kernel
theorem dX0_init_75 : decode cX0_init 75 = .ok (.aload_n 0, 1) := by decide +kernel
theorem dX0_init_76 : decode cX0_init 76 = .ok (.iconst 0, 1) := by decide +kernel
theorem dX0_init_77 : decode cX0_init 77 = .ok (.putfield 47, 3) := by decide +kernel
theorem dX0_init_80 : decode cX0_init 80 = .ok (.iconst 0, 1) := by decide +kernel
theorem dX0_init_81 : decode cX0_init 81 = .ok (.istore_n 1, 1) := by decide +kernel
theorem dX0_init_82 : decode cX0_init 82 = .ok (.iload_n 1, 1) := by decide +kernel
theorem dX0_init_83 : decode cX0_init 83 = .ok (.bipush 16, 2) := by decide +kernel
theorem dX0_init_85 : decode cX0_init 85 = .ok (.if_icmp .ge 39, 3) := by decide +kernel
theorem dX0_init_88 : decode cX0_init 88 = .ok (.aload_n 0, 1) := by decide +kernel
theorem dX0_init_89 : decode cX0_init 89 = .ok (.getfield 26, 3) := by decide +kernel
theorem dX0_init_92 : decode cX0_init 92 = .ok (.iload_n 1, 1) := by decide +kernel
theorem dX0_init_93 : decode cX0_init 93 = .ok (.new 24, 3) := by decide +kernel
theorem dX0_init_96 : decode cX0_init 96 = .ok (.dup, 1) := by decide +kernel
theorem dX0_init_97 : decode cX0_init 97 = .ok (.bipush 12, 2) := by decide +kernel
theorem dX0_init_99 : decode cX0_init 99 = .ok (.invokespecial 33, 3) := by decide +kernel
theorem dX0_init_102 : decode cX0_init 102 = .ok (.aastore, 1) := by decide +kernel
theorem dX0_init_103 : decode cX0_init 103 = .ok (.aload_n 0, 1) := by decide +kernel
theorem dX0_init_104 : decode cX0_init 104 = .ok (.getfield 30, 3) := by decide +kernel
theorem dX0_init_107 : decode cX0_init 107 = .ok (.iload_n 1, 1) := by decide +kernel
theorem dX0_init_108 : decode cX0_init 108 = .ok (.new 24, 3) := by decide +kernel
theorem dX0_init_111 : decode cX0_init 111 = .ok (.dup, 1) := by decide +kernel
theorem dX0_init_112 : decode cX0_init 112 = .ok (.bipush 12, 2) := by decide +kernel
theorem dX0_init_114 : decode cX0_init 114 = .ok (.invokespecial 33, 3) := by decide +kernel
theorem dX0_init_117 : decode cX0_init 117 = .ok (.aastore, 1) := by decide +kernel
theorem dX0_init_118 : decode cX0_init 118 = .ok (.iinc 1 1, 3) := by decide +kernel
theorem dX0_init_121 : decode cX0_init 121 = .ok (.goto (-39), 3) := by decide +kernel
theorem dX0_init_124 : decode cX0_init 124 = .ok (.return_, 1) := by decide +kernel
theorem xm_X0_init : xMw yX0_init cX0_init 2 none 0 := ⟨xin 146 (by decide +kernel) rfl, xin 115 (by decide +kernel) rfl, by decide +kernel⟩
theorem xi_X0_init : Cond.instanceMethod yX0_init ∈ xT := xin 145 (by decide +kernel) rfl
section GN_X0_init
variable {p : Program} {l : Launch} {e : Env} {R : Room} {s : State} {m : MethodId} {args : Array Value} {below : List Frame} {meth : Method} {c : Code} {H H0 : Heap} {locs : List Loc} {cells slots : Nat} {Q : State → Prop} {cc : ByteArray} {nL pc : Nat} {rt : Option FieldType} {ls : Array Slot} {rest : List Value} {D : xD} {ty : xTy} {N n : Nat} {tR tP : List (Nat × Nat × Nat)} {tI tA : List (Nat × Nat × Int)}
theorem pn_X0_9 {q v : Nat} (C0 : xC D RX0 cc nL rt p s m args meth c) (hG : xG D ty N n tR tI tP tA H) (hS : xL ty N n H0 H locs) (hin2 : meth.name = "<init>") (hq : q < n) (ht : ty (N + q) = some (0, 0)) (hdg : decode cc pc = .ok (.putfield 9, 3)) (kk : ∀ (H1 : Heap) (locs1 : List Loc), xG D ty N n ((q, 0, v) :: tR) tI tP tA H1 → xL ty N n H0 H1 locs1 → W p l e R s m args below meth c H1 locs1 cells slots Q (F0 m (pc + 3) ls rest)) : W p l e R s m args below meth c H locs cells slots Q (F0 m pc ls (.ref (N + v) :: .ref (N + q) :: rest)) := g_putrF C0 hG hS (ci := 0) (k := 0) (M := 10) (T := TX0) rfl iX0 tyX0_ok nmX0 (by decide) rfl rfl rfl wf_X0_9 rfl hin2 hq ht hdg kk
theorem pn_X0_15 {q v : Nat} (C0 : xC D RX0 cc nL rt p s m args meth c) (hG : xG D ty N n tR tI tP tA H) (hS : xL ty N n H0 H locs) (hin2 : meth.name = "<init>") (hq : q < n) (ht : ty (N + q) = some (0, 0)) (hdg : decode cc pc = .ok (.putfield 15, 3)) (kk : ∀ (H1 : Heap) (locs1 : List Loc), xG D ty N n ((q, 1, v) :: tR) tI tP tA H1 → xL ty N n H0 H1 locs1 → W p l e R s m args below meth c H1 locs1 cells slots Q (F0 m (pc + 3) ls rest)) : W p l e R s m args below meth c H locs cells slots Q (F0 m pc ls (.ref (N + v) :: .ref (N + q) :: rest)) := g_putrF C0 hG hS (ci := 0) (k := 1) (M := 10) (T := TX0) rfl iX0 tyX0_ok nmX0 (by decide) rfl rfl rfl wf_X0_15 rfl hin2 hq ht hdg kk
theorem pn_X0_18 {q v : Nat} (C0 : xC D RX0 cc nL rt p s m args meth c) (hG : xG D ty N n tR tI tP tA H) (hS : xL ty N n H0 H locs) (hin2 : meth.name = "<init>") (hq : q < n) (ht : ty (N + q) = some (0, 0)) (hdg : decode cc pc = .ok (.putfield 18, 3)) (kk : ∀ (H1 : Heap) (locs1 : List Loc), xG D ty N n ((q, 2, v) :: tR) tI tP tA H1 → xL ty N n H0 H1 locs1 → W p l e R s m args below meth c H1 locs1 cells slots Q (F0 m (pc + 3) ls rest)) : W p l e R s m args below meth c H locs cells slots Q (F0 m pc ls (.ref (N + v) :: .ref (N + q) :: rest)) := g_putrF C0 hG hS (ci := 0) (k := 2) (M := 10) (T := TX0) rfl iX0 tyX0_ok nmX0 (by decide) rfl rfl rfl wf_X0_18 rfl hin2 hq ht hdg kk
theorem pn_X0_21 {q v : Nat} (C0 : xC D RX0 cc nL rt p s m args meth c) (hG : xG D ty N n tR tI tP tA H) (hS : xL ty N n H0 H locs) (hin2 : meth.name = "<init>") (hq : q < n) (ht : ty (N + q) = some (0, 0)) (hdg : decode cc pc = .ok (.putfield 21, 3)) (kk : ∀ (H1 : Heap) (locs1 : List Loc), xG D ty N n ((q, 3, v) :: tR) tI tP tA H1 → xL ty N n H0 H1 locs1 → W p l e R s m args below meth c H1 locs1 cells slots Q (F0 m (pc + 3) ls rest)) : W p l e R s m args below meth c H locs cells slots Q (F0 m pc ls (.ref (N + v) :: .ref (N + q) :: rest)) := g_putrF C0 hG hS (ci := 0) (k := 3) (M := 10) (T := TX0) rfl iX0 tyX0_ok nmX0 (by decide) rfl rfl rfl wf_X0_21 rfl hin2 hq ht hdg kk
theorem pn_X0_26 {q v : Nat} (C0 : xC D RX0 cc nL rt p s m args meth c) (hG : xG D ty N n tR tI tP tA H) (hS : xL ty N n H0 H locs) (hin2 : meth.name = "<init>") (hq : q < n) (ht : ty (N + q) = some (0, 0)) (hdg : decode cc pc = .ok (.putfield 26, 3)) (kk : ∀ (H1 : Heap) (locs1 : List Loc), xG D ty N n ((q, 4, v) :: tR) tI tP tA H1 → xL ty N n H0 H1 locs1 → W p l e R s m args below meth c H1 locs1 cells slots Q (F0 m (pc + 3) ls rest)) : W p l e R s m args below meth c H locs cells slots Q (F0 m pc ls (.ref (N + v) :: .ref (N + q) :: rest)) := g_putrF C0 hG hS (ci := 0) (k := 4) (M := 10) (T := TX0) rfl iX0 tyX0_ok nmX0 (by decide) rfl rfl rfl wf_X0_26 rfl hin2 hq ht hdg kk
theorem pn_X0_30 {q v : Nat} (C0 : xC D RX0 cc nL rt p s m args meth c) (hG : xG D ty N n tR tI tP tA H) (hS : xL ty N n H0 H locs) (hin2 : meth.name = "<init>") (hq : q < n) (ht : ty (N + q) = some (0, 0)) (hdg : decode cc pc = .ok (.putfield 30, 3)) (kk : ∀ (H1 : Heap) (locs1 : List Loc), xG D ty N n ((q, 5, v) :: tR) tI tP tA H1 → xL ty N n H0 H1 locs1 → W p l e R s m args below meth c H1 locs1 cells slots Q (F0 m (pc + 3) ls rest)) : W p l e R s m args below meth c H locs cells slots Q (F0 m pc ls (.ref (N + v) :: .ref (N + q) :: rest)) := g_putrF C0 hG hS (ci := 0) (k := 5) (M := 10) (T := TX0) rfl iX0 tyX0_ok nmX0 (by decide) rfl rfl rfl wf_X0_30 rfl hin2 hq ht hdg kk
theorem pn_X0_36 {q v : Nat} (C0 : xC D RX0 cc nL rt p s m args meth c) (hG : xG D ty N n tR tI tP tA H) (hS : xL ty N n H0 H locs) (hin2 : meth.name = "<init>") (hq : q < n) (ht : ty (N + q) = some (0, 0)) (hdg : decode cc pc = .ok (.putfield 36, 3)) (kk : ∀ (H1 : Heap) (locs1 : List Loc), xG D ty N n ((q, 6, v) :: tR) tI tP tA H1 → xL ty N n H0 H1 locs1 → W p l e R s m args below meth c H1 locs1 cells slots Q (F0 m (pc + 3) ls rest)) : W p l e R s m args below meth c H locs cells slots Q (F0 m pc ls (.ref (N + v) :: .ref (N + q) :: rest)) := g_putrF C0 hG hS (ci := 0) (k := 6) (M := 10) (T := TX0) rfl iX0 tyX0_ok nmX0 (by decide) rfl rfl rfl wf_X0_36 rfl hin2 hq ht hdg kk
theorem pn_X0_40 {q : Nat} {v : Int} {w : Int32} (C0 : xC D RX0 cc nL rt p s m args meth c) (hG : xG D ty N n tR tI tP tA H) (hS : xL ty N n H0 H locs) (hw : w = i32 v) (hq : q < n) (ht : ty (N + q) = some (0, 0)) (hdg : decode cc pc = .ok (.putfield 40, 3)) (kk : ∀ (H1 : Heap) (locs1 : List Loc), xG D ty N n tR ((q, 7, v) :: tI) tP tA H1 → xL ty N n H0 H1 locs1 → W p l e R s m args below meth c H1 locs1 cells slots Q (F0 m (pc + 3) ls rest)) : W p l e R s m args below meth c H locs cells slots Q (F0 m pc ls (.int w :: .ref (N + q) :: rest)) := g_puti C0 hG hS (ci := 0) (k := 7) (M := 10) (T := TX0) rfl iX0 tyX0_ok nmX0 (by decide) rfl rfl wf_X0_40 (Or.inl rfl) hw rfl rfl hq ht hdg kk
theorem pn_X0_44 {q : Nat} {v : Int} {w : Int32} (C0 : xC D RX0 cc nL rt p s m args meth c) (hG : xG D ty N n tR tI tP tA H) (hS : xL ty N n H0 H locs) (hw : w = i32 v) (hq : q < n) (ht : ty (N + q) = some (0, 0)) (hdg : decode cc pc = .ok (.putfield 44, 3)) (kk : ∀ (H1 : Heap) (locs1 : List Loc), xG D ty N n tR ((q, 8, v) :: tI) tP tA H1 → xL ty N n H0 H1 locs1 → W p l e R s m args below meth c H1 locs1 cells slots Q (F0 m (pc + 3) ls rest)) : W p l e R s m args below meth c H locs cells slots Q (F0 m pc ls (.int w :: .ref (N + q) :: rest)) := g_puti C0 hG hS (ci := 0) (k := 8) (M := 10) (T := TX0) rfl iX0 tyX0_ok nmX0 (by decide) rfl rfl wf_X0_44 (Or.inl rfl) hw rfl rfl hq ht hdg kk
theorem pn_X0_47 {q : Nat} {v : Int} {w : Int32} (C0 : xC D RX0 cc nL rt p s m args meth c) (hG : xG D ty N n tR tI tP tA H) (hS : xL ty N n H0 H locs) (hw : w = i32 v) (hq : q < n) (ht : ty (N + q) = some (0, 0)) (hdg : decode cc pc = .ok (.putfield 47, 3)) (kk : ∀ (H1 : Heap) (locs1 : List Loc), xG D ty N n tR ((q, 9, v) :: tI) tP tA H1 → xL ty N n H0 H1 locs1 → W p l e R s m args below meth c H1 locs1 cells slots Q (F0 m (pc + 3) ls rest)) : W p l e R s m args below meth c H locs cells slots Q (F0 m pc ls (.int w :: .ref (N + q) :: rest)) := g_puti C0 hG hS (ci := 0) (k := 9) (M := 10) (T := TX0) rfl iX0 tyX0_ok nmX0 (by decide) rfl rfl wf_X0_47 (Or.inl rfl) hw rfl rfl hq ht hdg kk
theorem gn_X0_26 {q v : Nat} (C0 : xC D RX0 cc nL rt p s m args meth c) (hG : xG D ty N n tR tI tP tA H) (hq : q < n) (ht : ty (N + q) = some (0, 0)) (hv : lkp tR q 4 = some v) (hdg : decode cc pc = .ok (.getfield 26, 3)) (kk : W p l e R s m args below meth c H locs cells slots Q (F0 m (pc + 3) ls (.ref (N + v) :: rest))) : W p l e R s m args below meth c H locs cells slots Q (F0 m pc ls (.ref (N + q) :: rest)) := g_getr C0 hG (ci := 0) (k := 4) (M := 10) (T := TX0) rfl iX0 (by decide) rfl wf_X0_26 rfl hq ht hv hdg kk
theorem gn_X0_30 {q v : Nat} (C0 : xC D RX0 cc nL rt p s m args meth c) (hG : xG D ty N n tR tI tP tA H) (hq : q < n) (ht : ty (N + q) = some (0, 0)) (hv : lkp tR q 5 = some v) (hdg : decode cc pc = .ok (.getfield 30, 3)) (kk : W p l e R s m args below meth c H locs cells slots Q (F0 m (pc + 3) ls (.ref (N + v) :: rest))) : W p l e R s m args below meth c H locs cells slots Q (F0 m pc ls (.ref (N + q) :: rest)) := g_getr C0 hG (ci := 0) (k := 5) (M := 10) (T := TX0) rfl iX0 (by decide) rfl wf_X0_30 rfl hq ht hv hdg kk
end GN_X0_init
def sh_X0 : List (Nat × Nat) := [(0, 0), (1, 8), (1, 8), (1, 4), (1, 16), (3, 16), (3, 16), (0, 7), (1, 0), (1, 0), (0, 7), (1, 12), (1, 12), (0, 7), (1, 12), (1, 12), (0, 7), (1, 12), (1, 12), (0, 7), (1, 12), (1, 12), (0, 7), (1, 12), (1, 12), (0, 7), (1, 12), (1, 12), (0, 7), (1, 12), (1, 12), (0, 7), (1, 12), (1, 12), (0, 7), (1, 12), (1, 12), (0, 7), (1, 12), (1, 12), (0, 7), (1, 12), (1, 12), (0, 7), (1, 12), (1, 12), (0, 7), (1, 12), (1, 12), (0, 7), (1, 12), (1, 12), (0, 7), (1, 12), (1, 12), (0, 7), (1, 12), (1, 12), (0, 7), (1, 12), (1, 12), (0, 7), (1, 12), (1, 12), (0, 7), (1, 12), (1, 12), (0, 7), (1, 12), (1, 12), (0, 7), (1, 12), (1, 12), (0, 7), (1, 12), (1, 12), (0, 7), (1, 12), (1, 12), (0, 7), (1, 12), (1, 12), (0, 7), (1, 12), (1, 12), (0, 7), (1, 12), (1, 12), (0, 7), (1, 12), (1, 12), (0, 7), (1, 12), (1, 12), (0, 7), (1, 12), (1, 12), (0, 7), (1, 12), (1, 12), (0, 7), (1, 12), (1, 12), (0, 7), (1, 12), (1, 12)]
abbrev jnr_X0 : Room := { frames := 2, cells := 105, slots := 935, locals := 33 }
def nr_X0 (b : Nat) : List (Nat × Nat × Nat) := (b + 103, 1, b + 105) :: (b + 103, 0, b + 104) :: (b + 100, 1, b + 102) :: (b + 100, 0, b + 101) :: (b + 97, 1, b + 99) :: (b + 97, 0, b + 98) :: (b + 94, 1, b + 96) :: (b + 94, 0, b + 95) :: (b + 91, 1, b + 93) :: (b + 91, 0, b + 92) :: (b + 88, 1, b + 90) :: (b + 88, 0, b + 89) :: (b + 85, 1, b + 87) :: (b + 85, 0, b + 86) :: (b + 82, 1, b + 84) :: (b + 82, 0, b + 83) :: (b + 79, 1, b + 81) :: (b + 79, 0, b + 80) :: (b + 76, 1, b + 78) :: (b + 76, 0, b + 77) :: (b + 73, 1, b + 75) :: (b + 73, 0, b + 74) :: (b + 70, 1, b + 72) :: (b + 70, 0, b + 71) :: (b + 67, 1, b + 69) :: (b + 67, 0, b + 68) :: (b + 64, 1, b + 66) :: (b + 64, 0, b + 65) :: (b + 61, 1, b + 63) :: (b + 61, 0, b + 62) :: (b + 58, 1, b + 60) :: (b + 58, 0, b + 59) :: (b + 55, 1, b + 57) :: (b + 55, 0, b + 56) :: (b + 52, 1, b + 54) :: (b + 52, 0, b + 53) :: (b + 49, 1, b + 51) :: (b + 49, 0, b + 50) :: (b + 46, 1, b + 48) :: (b + 46, 0, b + 47) :: (b + 43, 1, b + 45) :: (b + 43, 0, b + 44) :: (b + 40, 1, b + 42) :: (b + 40, 0, b + 41) :: (b + 37, 1, b + 39) :: (b + 37, 0, b + 38) :: (b + 34, 1, b + 36) :: (b + 34, 0, b + 35) :: (b + 31, 1, b + 33) :: (b + 31, 0, b + 32) :: (b + 28, 1, b + 30) :: (b + 28, 0, b + 29) :: (b + 25, 1, b + 27) :: (b + 25, 0, b + 26) :: (b + 22, 1, b + 24) :: (b + 22, 0, b + 23) :: (b + 19, 1, b + 21) :: (b + 19, 0, b + 20) :: (b + 16, 1, b + 18) :: (b + 16, 0, b + 17) :: (b + 13, 1, b + 15) :: (b + 13, 0, b + 14) :: (b + 10, 1, b + 12) :: (b + 10, 0, b + 11) :: (b, 6, b + 7) :: (b + 7, 1, b + 9) :: (b + 7, 0, b + 8) :: (b, 5, b + 6) :: (b, 4, b + 5) :: (b, 3, b + 4) :: (b, 2, b + 3) :: (b, 1, b + 2) :: (b, 0, b + 1) :: []
def ni_X0 (b : Nat) : List (Nat × Nat × Int) := (b + 103, 2, 0) :: (b + 100, 2, 0) :: (b + 97, 2, 0) :: (b + 94, 2, 0) :: (b + 91, 2, 0) :: (b + 88, 2, 0) :: (b + 85, 2, 0) :: (b + 82, 2, 0) :: (b + 79, 2, 0) :: (b + 76, 2, 0) :: (b + 73, 2, 0) :: (b + 70, 2, 0) :: (b + 67, 2, 0) :: (b + 64, 2, 0) :: (b + 61, 2, 0) :: (b + 58, 2, 0) :: (b + 55, 2, 0) :: (b + 52, 2, 0) :: (b + 49, 2, 0) :: (b + 46, 2, 0) :: (b + 43, 2, 0) :: (b + 40, 2, 0) :: (b + 37, 2, 0) :: (b + 34, 2, 0) :: (b + 31, 2, 0) :: (b + 28, 2, 0) :: (b + 25, 2, 0) :: (b + 22, 2, 0) :: (b + 19, 2, 0) :: (b + 16, 2, 0) :: (b + 13, 2, 0) :: (b + 10, 2, 0) :: (b, 9, 0) :: (b, 8, 0) :: (b, 7, 0) :: (b + 7, 2, 0) :: []
def np_X0 (b : Nat) : List (Nat × Nat × Nat) := (b + 6, 15, b + 103) :: (b + 5, 15, b + 100) :: (b + 6, 14, b + 97) :: (b + 5, 14, b + 94) :: (b + 6, 13, b + 91) :: (b + 5, 13, b + 88) :: (b + 6, 12, b + 85) :: (b + 5, 12, b + 82) :: (b + 6, 11, b + 79) :: (b + 5, 11, b + 76) :: (b + 6, 10, b + 73) :: (b + 5, 10, b + 70) :: (b + 6, 9, b + 67) :: (b + 5, 9, b + 64) :: (b + 6, 8, b + 61) :: (b + 5, 8, b + 58) :: (b + 6, 7, b + 55) :: (b + 5, 7, b + 52) :: (b + 6, 6, b + 49) :: (b + 5, 6, b + 46) :: (b + 6, 5, b + 43) :: (b + 5, 5, b + 40) :: (b + 6, 4, b + 37) :: (b + 5, 4, b + 34) :: (b + 6, 3, b + 31) :: (b + 5, 3, b + 28) :: (b + 6, 2, b + 25) :: (b + 5, 2, b + 22) :: (b + 6, 1, b + 19) :: (b + 5, 1, b + 16) :: (b + 6, 0, b + 13) :: (b + 5, 0, b + 10) :: []
set_option maxHeartbeats 4000000 in
set_option maxRecDepth 100000 in
theorem jn_X0 {l : Launch} {D : xD} {ty : xTy} {N b : Nat} {tR tP : List (Nat × Nat × Nat)} {tI tA : List (Nat × Nat × Int)} (hT : ∀ (j : Nat) (t : Nat × Nat), sh_X0[j]? = some t → ty (N + (b + j)) = some t) : Met l yX0_init (xws yX0_init cX0_init 2 none) jnr_X0 (xPn D ty N (b + 1) tR tI tP tA [.ref (N + b)]) (xQn D ty N (b + 106) (nr_X0 b ++ tR) (ni_X0 b ++ tI) (np_X0 b ++ tP) tA) 105 935 (xdom (tyN ty (N + (b + 106)))) := by
  refine g_met (by decide) rfl ?_
  intro p e s m below meth c C0 hnm hAO hG
  generalize hargs : ([.ref (N + b)] : List Value).toArray = args at C0 ⊢
  have hx := C0.1
  have hb := C0.2.1
  have hS : xL ty N (b + 1) s.heap s.heap [] := ⟨fun _ _ => rfl, fun _ h => absurd h List.not_mem_nil⟩
  have hl := lv_entry ([.ref (N + b)]) (n := 2) (Nat.le_of_ble_eq_true rfl)
  rw [← hargs, lg_entry_eq]
  rw [hargs]
  generalize (lg_sl ([.ref (N + b)]) ++ List.replicate (2 - (lg_sl ([.ref (N + b)])).length) Slot.unset).toArray = ls at hl ⊢
  have hl : lv_has ls 2 [(0, .ref (N + b))] := hl
  refine lv_aload_n hx hb dX0_init_0 rfl (lv_at hl 0 rfl) ?_
  refine g_obj C0 wj_X0_3 hl.1 (Nat.le_of_ble_eq_true rfl) (Nat.le_of_ble_eq_true rfl) dX0_init_1 ?_
  refine lv_aload_n hx hb dX0_init_4 rfl (lv_at hl 0 rfl) ?_
  refine lv_bipush (v := 8) hx hb dX0_init_5 (by decide) ?_
  refine g_newi (n1 := b + 2) (c1 := 1) (s1 := 8) C0 hG hS rfl rfl rfl (hT 1 _ rfl) (by decide) (by decide) (Nat.le_of_ble_eq_true rfl) (Nat.le_of_ble_eq_true rfl) (Nat.le_of_ble_eq_true rfl) dX0_init_7 (fun H hG hS => ?_)
  refine pn_X0_9 (q := b) (v := b + 1) C0 hG hS hnm (by omega) (hT 0 _ rfl) dX0_init_9 (fun H locs hG hS => ?_)
  refine lv_aload_n hx hb dX0_init_12 rfl (lv_at hl 0 rfl) ?_
  refine lv_bipush (v := 8) hx hb dX0_init_13 (by decide) ?_
  refine g_newi (n1 := b + 3) (c1 := 2) (s1 := 16) C0 hG hS rfl rfl rfl (hT 2 _ rfl) (by decide) (by decide) (Nat.le_of_ble_eq_true rfl) (Nat.le_of_ble_eq_true rfl) (Nat.le_of_ble_eq_true rfl) dX0_init_15 (fun H hG hS => ?_)
  refine pn_X0_15 (q := b) (v := b + 2) C0 hG hS hnm (by omega) (hT 0 _ rfl) dX0_init_17 (fun H locs hG hS => ?_)
  refine lv_aload_n hx hb dX0_init_20 rfl (lv_at hl 0 rfl) ?_
  refine lv_iconst (v := 4) hx hb dX0_init_21 (by decide) ?_
  refine g_newi (n1 := b + 4) (c1 := 3) (s1 := 20) C0 hG hS rfl rfl rfl (hT 3 _ rfl) (by decide) (by decide) (Nat.le_of_ble_eq_true rfl) (Nat.le_of_ble_eq_true rfl) (Nat.le_of_ble_eq_true rfl) dX0_init_22 (fun H hG hS => ?_)
  refine pn_X0_18 (q := b) (v := b + 3) C0 hG hS hnm (by omega) (hT 0 _ rfl) dX0_init_24 (fun H locs hG hS => ?_)
  refine lv_aload_n hx hb dX0_init_27 rfl (lv_at hl 0 rfl) ?_
  refine lv_bipush (v := 16) hx hb dX0_init_28 (by decide) ?_
  refine g_newi (n1 := b + 5) (c1 := 4) (s1 := 36) C0 hG hS rfl rfl rfl (hT 4 _ rfl) (by decide) (by decide) (Nat.le_of_ble_eq_true rfl) (Nat.le_of_ble_eq_true rfl) (Nat.le_of_ble_eq_true rfl) dX0_init_30 (fun H hG hS => ?_)
  refine pn_X0_21 (q := b) (v := b + 4) C0 hG hS hnm (by omega) (hT 0 _ rfl) dX0_init_32 (fun H locs hG hS => ?_)
  refine lv_aload_n hx hb dX0_init_35 rfl (lv_at hl 0 rfl) ?_
  refine lv_bipush (v := 16) hx hb dX0_init_36 (by decide) ?_
  refine g_newp (n1 := b + 6) (c1 := 5) (s1 := 52) C0 hAO hG hS rfl rfl rfl (hT 5 _ rfl) wc_X0_24 (by decide) (by decide) (Nat.le_of_ble_eq_true rfl) (Nat.le_of_ble_eq_true rfl) (Nat.le_of_ble_eq_true rfl) dX0_init_38 (fun H hG hS => ?_)
  refine pn_X0_26 (q := b) (v := b + 5) C0 hG hS hnm (by omega) (hT 0 _ rfl) dX0_init_41 (fun H locs hG hS => ?_)
  refine lv_aload_n hx hb dX0_init_44 rfl (lv_at hl 0 rfl) ?_
  refine lv_bipush (v := 16) hx hb dX0_init_45 (by decide) ?_
  refine g_newp (n1 := b + 7) (c1 := 6) (s1 := 68) C0 hAO hG hS rfl rfl rfl (hT 6 _ rfl) wc_X0_24 (by decide) (by decide) (Nat.le_of_ble_eq_true rfl) (Nat.le_of_ble_eq_true rfl) (Nat.le_of_ble_eq_true rfl) dX0_init_47 (fun H hG hS => ?_)
  refine pn_X0_30 (q := b) (v := b + 6) C0 hG hS hnm (by omega) (hT 0 _ rfl) dX0_init_50 (fun H locs hG hS => ?_)
  refine lv_aload_n hx hb dX0_init_53 rfl (lv_at hl 0 rfl) ?_
  refine g_newo (ci := 7) (M := 3) (T := TX7) (n1 := b + 8) (c1 := 7) (s1 := 71) C0 hG hS rfl rfl rfl (hT 7 _ rfl) rfl iX7 tyX7_ok wc_X0_24 wn_X7 wi_X7 df_X7 (Nat.le_of_ble_eq_true rfl) (Nat.le_of_ble_eq_true rfl) dX0_init_54 (fun H hG hS => ?_)
  refine lv_dup hx hb dX0_init_57 rfl ?_
  refine lv_iconst (v := 0) hx hb dX0_init_58 (by decide) ?_
  refine g_ctor (n2 := b + 10) (c2 := 9) (s2 := 71) (As := [.int 0]) (rest := [.ref (N + (b + 7)), .ref (N + (b))]) C0 hAO (jn_X7 (b := b + 7) (k := 0) (v := 0) (by decide) (by decide) (Nat.le_of_ble_eq_true rfl) (sub_ty (d := 7) (L2 := sh_X7 0) hT (by decide +kernel))) xm_X7_init xi_X7_init rfl wl_X0_33 ⟨rfl, rfl, (Nat.le_of_ble_eq_true rfl), (Nat.le_of_ble_eq_true rfl)⟩ hG hS (by omega) rfl rfl rfl hl.1 rfl (Nat.le_of_ble_eq_true rfl) ⟨(Nat.le_of_ble_eq_true rfl), (Nat.le_of_ble_eq_true rfl)⟩ dX0_init_59 (fun H locs hG hS => ?_)
  refine pn_X0_36 (q := b) (v := b + 7) C0 hG hS hnm (by omega) (hT 0 _ rfl) dX0_init_62 (fun H locs hG hS => ?_)
  refine lv_aload_n hx hb dX0_init_65 rfl (lv_at hl 0 rfl) ?_
  refine lv_iconst (v := 0) hx hb dX0_init_66 (by decide) ?_
  refine pn_X0_40 (q := b) (v := 0) C0 hG hS (by decide) (by omega) (hT 0 _ rfl) dX0_init_67 (fun H locs hG hS => ?_)
  refine lv_aload_n hx hb dX0_init_70 rfl (lv_at hl 0 rfl) ?_
  refine lv_iconst (v := 0) hx hb dX0_init_71 (by decide) ?_
  refine pn_X0_44 (q := b) (v := 0) C0 hG hS (by decide) (by omega) (hT 0 _ rfl) dX0_init_72 (fun H locs hG hS => ?_)
  refine lv_aload_n hx hb dX0_init_75 rfl (lv_at hl 0 rfl) ?_
  refine lv_iconst (v := 0) hx hb dX0_init_76 (by decide) ?_
  refine pn_X0_47 (q := b) (v := 0) C0 hG hS (by decide) (by omega) (hT 0 _ rfl) dX0_init_77 (fun H locs hG hS => ?_)
  refine lv_iconst (v := 0) hx hb dX0_init_80 (by decide) ?_
  refine lv_istore_n (lv' := [(1, .int 0), (0, .ref (N + (b)))]) hx hb dX0_init_81 rfl hl (by decide) rfl (fun ls hl => ?_)
  refine lv_iload_n hx hb dX0_init_82 rfl (lv_at hl 0 rfl) ?_
  refine lv_bipush (v := 16) hx hb dX0_init_83 (by decide) ?_
  refine lv_icmp_ge (tgt := 124) hx hb dX0_init_85 (by decide) (fun z => absurd z (by decide)) (fun _ => ?_)
  refine lv_aload_n hx hb dX0_init_88 rfl (lv_at hl 1 rfl) ?_
  refine gn_X0_26 (q := b) (v := b + 5) C0 hG (by omega) (hT 0 _ rfl) (by simp [lkp]) dX0_init_89 ?_
  refine lv_iload_n hx hb dX0_init_92 rfl (lv_at hl 0 rfl) ?_
  refine g_newo (ci := 7) (M := 3) (T := TX7) (n1 := b + 11) (c1 := 10) (s1 := 74) C0 hG hS rfl rfl rfl (hT 10 _ rfl) rfl iX7 tyX7_ok wc_X0_24 wn_X7 wi_X7 df_X7 (Nat.le_of_ble_eq_true rfl) (Nat.le_of_ble_eq_true rfl) dX0_init_93 (fun H hG hS => ?_)
  refine lv_dup hx hb dX0_init_96 rfl ?_
  refine lv_bipush (v := 12) hx hb dX0_init_97 (by decide) ?_
  refine g_ctor (n2 := b + 13) (c2 := 12) (s2 := 98) (As := [.int 12]) (rest := [.ref (N + (b + 10)), .int 0, .ref (N + (b + 5))]) C0 hAO (jn_X7 (b := b + 10) (k := 12) (v := 12) (by decide) (by decide) (Nat.le_of_ble_eq_true rfl) (sub_ty (d := 10) (L2 := sh_X7 12) hT (by decide +kernel))) xm_X7_init xi_X7_init rfl wl_X0_33 ⟨rfl, rfl, (Nat.le_of_ble_eq_true rfl), (Nat.le_of_ble_eq_true rfl)⟩ hG hS (by omega) rfl rfl rfl hl.1 rfl (Nat.le_of_ble_eq_true rfl) ⟨(Nat.le_of_ble_eq_true rfl), (Nat.le_of_ble_eq_true rfl)⟩ dX0_init_99 (fun H locs hG hS => ?_)
  refine g_aast (q := b + 5) (j := 0) (v := b + 10) (len := 16) C0 hG hS (by decide) (by decide) (Nat.le_of_ble_eq_true rfl) (by omega) (by omega) (hT 5 _ rfl) (hT 10 _ rfl) dX0_init_102 (fun H locs hG hS => ?_)
  refine lv_aload_n hx hb dX0_init_103 rfl (lv_at hl 1 rfl) ?_
  refine gn_X0_30 (q := b) (v := b + 6) C0 hG (by omega) (hT 0 _ rfl) (by simp [lkp]) dX0_init_104 ?_
  refine lv_iload_n hx hb dX0_init_107 rfl (lv_at hl 0 rfl) ?_
  refine g_newo (ci := 7) (M := 3) (T := TX7) (n1 := b + 14) (c1 := 13) (s1 := 101) C0 hG hS rfl rfl rfl (hT 13 _ rfl) rfl iX7 tyX7_ok wc_X0_24 wn_X7 wi_X7 df_X7 (Nat.le_of_ble_eq_true rfl) (Nat.le_of_ble_eq_true rfl) dX0_init_108 (fun H hG hS => ?_)
  refine lv_dup hx hb dX0_init_111 rfl ?_
  refine lv_bipush (v := 12) hx hb dX0_init_112 (by decide) ?_
  refine g_ctor (n2 := b + 16) (c2 := 15) (s2 := 125) (As := [.int 12]) (rest := [.ref (N + (b + 13)), .int 0, .ref (N + (b + 6))]) C0 hAO (jn_X7 (b := b + 13) (k := 12) (v := 12) (by decide) (by decide) (Nat.le_of_ble_eq_true rfl) (sub_ty (d := 13) (L2 := sh_X7 12) hT (by decide +kernel))) xm_X7_init xi_X7_init rfl wl_X0_33 ⟨rfl, rfl, (Nat.le_of_ble_eq_true rfl), (Nat.le_of_ble_eq_true rfl)⟩ hG hS (by omega) rfl rfl rfl hl.1 rfl (Nat.le_of_ble_eq_true rfl) ⟨(Nat.le_of_ble_eq_true rfl), (Nat.le_of_ble_eq_true rfl)⟩ dX0_init_114 (fun H locs hG hS => ?_)
  refine g_aast (q := b + 6) (j := 0) (v := b + 13) (len := 16) C0 hG hS (by decide) (by decide) (Nat.le_of_ble_eq_true rfl) (by omega) (by omega) (hT 6 _ rfl) (hT 13 _ rfl) dX0_init_117 (fun H locs hG hS => ?_)
  refine lv_iinc (v := 1) (lv' := [(1, .int 1), (0, .ref (N + (b)))]) hx hb dX0_init_118 hl (k := 0) rfl (by decide) (by decide) rfl (fun ls hl => ?_)
  refine lv_goto (tgt := 82) hx hb dX0_init_121 (by decide) ?_
  refine lv_iload_n hx hb dX0_init_82 rfl (lv_at hl 0 rfl) ?_
  refine lv_bipush (v := 16) hx hb dX0_init_83 (by decide) ?_
  refine lv_icmp_ge (tgt := 124) hx hb dX0_init_85 (by decide) (fun z => absurd z (by decide)) (fun _ => ?_)
  refine lv_aload_n hx hb dX0_init_88 rfl (lv_at hl 1 rfl) ?_
  refine gn_X0_26 (q := b) (v := b + 5) C0 hG (by omega) (hT 0 _ rfl) (by simp [lkp]) dX0_init_89 ?_
  refine lv_iload_n hx hb dX0_init_92 rfl (lv_at hl 0 rfl) ?_
  refine g_newo (ci := 7) (M := 3) (T := TX7) (n1 := b + 17) (c1 := 16) (s1 := 128) C0 hG hS rfl rfl rfl (hT 16 _ rfl) rfl iX7 tyX7_ok wc_X0_24 wn_X7 wi_X7 df_X7 (Nat.le_of_ble_eq_true rfl) (Nat.le_of_ble_eq_true rfl) dX0_init_93 (fun H hG hS => ?_)
  refine lv_dup hx hb dX0_init_96 rfl ?_
  refine lv_bipush (v := 12) hx hb dX0_init_97 (by decide) ?_
  refine g_ctor (n2 := b + 19) (c2 := 18) (s2 := 152) (As := [.int 12]) (rest := [.ref (N + (b + 16)), .int 1, .ref (N + (b + 5))]) C0 hAO (jn_X7 (b := b + 16) (k := 12) (v := 12) (by decide) (by decide) (Nat.le_of_ble_eq_true rfl) (sub_ty (d := 16) (L2 := sh_X7 12) hT (by decide +kernel))) xm_X7_init xi_X7_init rfl wl_X0_33 ⟨rfl, rfl, (Nat.le_of_ble_eq_true rfl), (Nat.le_of_ble_eq_true rfl)⟩ hG hS (by omega) rfl rfl rfl hl.1 rfl (Nat.le_of_ble_eq_true rfl) ⟨(Nat.le_of_ble_eq_true rfl), (Nat.le_of_ble_eq_true rfl)⟩ dX0_init_99 (fun H locs hG hS => ?_)
  refine g_aast (q := b + 5) (j := 1) (v := b + 16) (len := 16) C0 hG hS (by decide) (by decide) (Nat.le_of_ble_eq_true rfl) (by omega) (by omega) (hT 5 _ rfl) (hT 16 _ rfl) dX0_init_102 (fun H locs hG hS => ?_)
  refine lv_aload_n hx hb dX0_init_103 rfl (lv_at hl 1 rfl) ?_
  refine gn_X0_30 (q := b) (v := b + 6) C0 hG (by omega) (hT 0 _ rfl) (by simp [lkp]) dX0_init_104 ?_
  refine lv_iload_n hx hb dX0_init_107 rfl (lv_at hl 0 rfl) ?_
  refine g_newo (ci := 7) (M := 3) (T := TX7) (n1 := b + 20) (c1 := 19) (s1 := 155) C0 hG hS rfl rfl rfl (hT 19 _ rfl) rfl iX7 tyX7_ok wc_X0_24 wn_X7 wi_X7 df_X7 (Nat.le_of_ble_eq_true rfl) (Nat.le_of_ble_eq_true rfl) dX0_init_108 (fun H hG hS => ?_)
  refine lv_dup hx hb dX0_init_111 rfl ?_
  refine lv_bipush (v := 12) hx hb dX0_init_112 (by decide) ?_
  refine g_ctor (n2 := b + 22) (c2 := 21) (s2 := 179) (As := [.int 12]) (rest := [.ref (N + (b + 19)), .int 1, .ref (N + (b + 6))]) C0 hAO (jn_X7 (b := b + 19) (k := 12) (v := 12) (by decide) (by decide) (Nat.le_of_ble_eq_true rfl) (sub_ty (d := 19) (L2 := sh_X7 12) hT (by decide +kernel))) xm_X7_init xi_X7_init rfl wl_X0_33 ⟨rfl, rfl, (Nat.le_of_ble_eq_true rfl), (Nat.le_of_ble_eq_true rfl)⟩ hG hS (by omega) rfl rfl rfl hl.1 rfl (Nat.le_of_ble_eq_true rfl) ⟨(Nat.le_of_ble_eq_true rfl), (Nat.le_of_ble_eq_true rfl)⟩ dX0_init_114 (fun H locs hG hS => ?_)
  refine g_aast (q := b + 6) (j := 1) (v := b + 19) (len := 16) C0 hG hS (by decide) (by decide) (Nat.le_of_ble_eq_true rfl) (by omega) (by omega) (hT 6 _ rfl) (hT 19 _ rfl) dX0_init_117 (fun H locs hG hS => ?_)
  refine lv_iinc (v := 2) (lv' := [(1, .int 2), (0, .ref (N + (b)))]) hx hb dX0_init_118 hl (k := 0) rfl (by decide) (by decide) rfl (fun ls hl => ?_)
  refine lv_goto (tgt := 82) hx hb dX0_init_121 (by decide) ?_
  refine lv_iload_n hx hb dX0_init_82 rfl (lv_at hl 0 rfl) ?_
  refine lv_bipush (v := 16) hx hb dX0_init_83 (by decide) ?_
  refine lv_icmp_ge (tgt := 124) hx hb dX0_init_85 (by decide) (fun z => absurd z (by decide)) (fun _ => ?_)
  refine lv_aload_n hx hb dX0_init_88 rfl (lv_at hl 1 rfl) ?_
  refine gn_X0_26 (q := b) (v := b + 5) C0 hG (by omega) (hT 0 _ rfl) (by simp [lkp]) dX0_init_89 ?_
  refine lv_iload_n hx hb dX0_init_92 rfl (lv_at hl 0 rfl) ?_
  refine g_newo (ci := 7) (M := 3) (T := TX7) (n1 := b + 23) (c1 := 22) (s1 := 182) C0 hG hS rfl rfl rfl (hT 22 _ rfl) rfl iX7 tyX7_ok wc_X0_24 wn_X7 wi_X7 df_X7 (Nat.le_of_ble_eq_true rfl) (Nat.le_of_ble_eq_true rfl) dX0_init_93 (fun H hG hS => ?_)
  refine lv_dup hx hb dX0_init_96 rfl ?_
  refine lv_bipush (v := 12) hx hb dX0_init_97 (by decide) ?_
  refine g_ctor (n2 := b + 25) (c2 := 24) (s2 := 206) (As := [.int 12]) (rest := [.ref (N + (b + 22)), .int 2, .ref (N + (b + 5))]) C0 hAO (jn_X7 (b := b + 22) (k := 12) (v := 12) (by decide) (by decide) (Nat.le_of_ble_eq_true rfl) (sub_ty (d := 22) (L2 := sh_X7 12) hT (by decide +kernel))) xm_X7_init xi_X7_init rfl wl_X0_33 ⟨rfl, rfl, (Nat.le_of_ble_eq_true rfl), (Nat.le_of_ble_eq_true rfl)⟩ hG hS (by omega) rfl rfl rfl hl.1 rfl (Nat.le_of_ble_eq_true rfl) ⟨(Nat.le_of_ble_eq_true rfl), (Nat.le_of_ble_eq_true rfl)⟩ dX0_init_99 (fun H locs hG hS => ?_)
  refine g_aast (q := b + 5) (j := 2) (v := b + 22) (len := 16) C0 hG hS (by decide) (by decide) (Nat.le_of_ble_eq_true rfl) (by omega) (by omega) (hT 5 _ rfl) (hT 22 _ rfl) dX0_init_102 (fun H locs hG hS => ?_)
  refine lv_aload_n hx hb dX0_init_103 rfl (lv_at hl 1 rfl) ?_
  refine gn_X0_30 (q := b) (v := b + 6) C0 hG (by omega) (hT 0 _ rfl) (by simp [lkp]) dX0_init_104 ?_
  refine lv_iload_n hx hb dX0_init_107 rfl (lv_at hl 0 rfl) ?_
  refine g_newo (ci := 7) (M := 3) (T := TX7) (n1 := b + 26) (c1 := 25) (s1 := 209) C0 hG hS rfl rfl rfl (hT 25 _ rfl) rfl iX7 tyX7_ok wc_X0_24 wn_X7 wi_X7 df_X7 (Nat.le_of_ble_eq_true rfl) (Nat.le_of_ble_eq_true rfl) dX0_init_108 (fun H hG hS => ?_)
  refine lv_dup hx hb dX0_init_111 rfl ?_
  refine lv_bipush (v := 12) hx hb dX0_init_112 (by decide) ?_
  refine g_ctor (n2 := b + 28) (c2 := 27) (s2 := 233) (As := [.int 12]) (rest := [.ref (N + (b + 25)), .int 2, .ref (N + (b + 6))]) C0 hAO (jn_X7 (b := b + 25) (k := 12) (v := 12) (by decide) (by decide) (Nat.le_of_ble_eq_true rfl) (sub_ty (d := 25) (L2 := sh_X7 12) hT (by decide +kernel))) xm_X7_init xi_X7_init rfl wl_X0_33 ⟨rfl, rfl, (Nat.le_of_ble_eq_true rfl), (Nat.le_of_ble_eq_true rfl)⟩ hG hS (by omega) rfl rfl rfl hl.1 rfl (Nat.le_of_ble_eq_true rfl) ⟨(Nat.le_of_ble_eq_true rfl), (Nat.le_of_ble_eq_true rfl)⟩ dX0_init_114 (fun H locs hG hS => ?_)
  refine g_aast (q := b + 6) (j := 2) (v := b + 25) (len := 16) C0 hG hS (by decide) (by decide) (Nat.le_of_ble_eq_true rfl) (by omega) (by omega) (hT 6 _ rfl) (hT 25 _ rfl) dX0_init_117 (fun H locs hG hS => ?_)
  refine lv_iinc (v := 3) (lv' := [(1, .int 3), (0, .ref (N + (b)))]) hx hb dX0_init_118 hl (k := 0) rfl (by decide) (by decide) rfl (fun ls hl => ?_)
  refine lv_goto (tgt := 82) hx hb dX0_init_121 (by decide) ?_
  refine lv_iload_n hx hb dX0_init_82 rfl (lv_at hl 0 rfl) ?_
  refine lv_bipush (v := 16) hx hb dX0_init_83 (by decide) ?_
  refine lv_icmp_ge (tgt := 124) hx hb dX0_init_85 (by decide) (fun z => absurd z (by decide)) (fun _ => ?_)
  refine lv_aload_n hx hb dX0_init_88 rfl (lv_at hl 1 rfl) ?_
  refine gn_X0_26 (q := b) (v := b + 5) C0 hG (by omega) (hT 0 _ rfl) (by simp [lkp]) dX0_init_89 ?_
  refine lv_iload_n hx hb dX0_init_92 rfl (lv_at hl 0 rfl) ?_
  refine g_newo (ci := 7) (M := 3) (T := TX7) (n1 := b + 29) (c1 := 28) (s1 := 236) C0 hG hS rfl rfl rfl (hT 28 _ rfl) rfl iX7 tyX7_ok wc_X0_24 wn_X7 wi_X7 df_X7 (Nat.le_of_ble_eq_true rfl) (Nat.le_of_ble_eq_true rfl) dX0_init_93 (fun H hG hS => ?_)
  refine lv_dup hx hb dX0_init_96 rfl ?_
  refine lv_bipush (v := 12) hx hb dX0_init_97 (by decide) ?_
  refine g_ctor (n2 := b + 31) (c2 := 30) (s2 := 260) (As := [.int 12]) (rest := [.ref (N + (b + 28)), .int 3, .ref (N + (b + 5))]) C0 hAO (jn_X7 (b := b + 28) (k := 12) (v := 12) (by decide) (by decide) (Nat.le_of_ble_eq_true rfl) (sub_ty (d := 28) (L2 := sh_X7 12) hT (by decide +kernel))) xm_X7_init xi_X7_init rfl wl_X0_33 ⟨rfl, rfl, (Nat.le_of_ble_eq_true rfl), (Nat.le_of_ble_eq_true rfl)⟩ hG hS (by omega) rfl rfl rfl hl.1 rfl (Nat.le_of_ble_eq_true rfl) ⟨(Nat.le_of_ble_eq_true rfl), (Nat.le_of_ble_eq_true rfl)⟩ dX0_init_99 (fun H locs hG hS => ?_)
  refine g_aast (q := b + 5) (j := 3) (v := b + 28) (len := 16) C0 hG hS (by decide) (by decide) (Nat.le_of_ble_eq_true rfl) (by omega) (by omega) (hT 5 _ rfl) (hT 28 _ rfl) dX0_init_102 (fun H locs hG hS => ?_)
  refine lv_aload_n hx hb dX0_init_103 rfl (lv_at hl 1 rfl) ?_
  refine gn_X0_30 (q := b) (v := b + 6) C0 hG (by omega) (hT 0 _ rfl) (by simp [lkp]) dX0_init_104 ?_
  refine lv_iload_n hx hb dX0_init_107 rfl (lv_at hl 0 rfl) ?_
  refine g_newo (ci := 7) (M := 3) (T := TX7) (n1 := b + 32) (c1 := 31) (s1 := 263) C0 hG hS rfl rfl rfl (hT 31 _ rfl) rfl iX7 tyX7_ok wc_X0_24 wn_X7 wi_X7 df_X7 (Nat.le_of_ble_eq_true rfl) (Nat.le_of_ble_eq_true rfl) dX0_init_108 (fun H hG hS => ?_)
  refine lv_dup hx hb dX0_init_111 rfl ?_
  refine lv_bipush (v := 12) hx hb dX0_init_112 (by decide) ?_
  refine g_ctor (n2 := b + 34) (c2 := 33) (s2 := 287) (As := [.int 12]) (rest := [.ref (N + (b + 31)), .int 3, .ref (N + (b + 6))]) C0 hAO (jn_X7 (b := b + 31) (k := 12) (v := 12) (by decide) (by decide) (Nat.le_of_ble_eq_true rfl) (sub_ty (d := 31) (L2 := sh_X7 12) hT (by decide +kernel))) xm_X7_init xi_X7_init rfl wl_X0_33 ⟨rfl, rfl, (Nat.le_of_ble_eq_true rfl), (Nat.le_of_ble_eq_true rfl)⟩ hG hS (by omega) rfl rfl rfl hl.1 rfl (Nat.le_of_ble_eq_true rfl) ⟨(Nat.le_of_ble_eq_true rfl), (Nat.le_of_ble_eq_true rfl)⟩ dX0_init_114 (fun H locs hG hS => ?_)
  refine g_aast (q := b + 6) (j := 3) (v := b + 31) (len := 16) C0 hG hS (by decide) (by decide) (Nat.le_of_ble_eq_true rfl) (by omega) (by omega) (hT 6 _ rfl) (hT 31 _ rfl) dX0_init_117 (fun H locs hG hS => ?_)
  refine lv_iinc (v := 4) (lv' := [(1, .int 4), (0, .ref (N + (b)))]) hx hb dX0_init_118 hl (k := 0) rfl (by decide) (by decide) rfl (fun ls hl => ?_)
  refine lv_goto (tgt := 82) hx hb dX0_init_121 (by decide) ?_
  refine lv_iload_n hx hb dX0_init_82 rfl (lv_at hl 0 rfl) ?_
  refine lv_bipush (v := 16) hx hb dX0_init_83 (by decide) ?_
  refine lv_icmp_ge (tgt := 124) hx hb dX0_init_85 (by decide) (fun z => absurd z (by decide)) (fun _ => ?_)
  refine lv_aload_n hx hb dX0_init_88 rfl (lv_at hl 1 rfl) ?_
  refine gn_X0_26 (q := b) (v := b + 5) C0 hG (by omega) (hT 0 _ rfl) (by simp [lkp]) dX0_init_89 ?_
  refine lv_iload_n hx hb dX0_init_92 rfl (lv_at hl 0 rfl) ?_
  refine g_newo (ci := 7) (M := 3) (T := TX7) (n1 := b + 35) (c1 := 34) (s1 := 290) C0 hG hS rfl rfl rfl (hT 34 _ rfl) rfl iX7 tyX7_ok wc_X0_24 wn_X7 wi_X7 df_X7 (Nat.le_of_ble_eq_true rfl) (Nat.le_of_ble_eq_true rfl) dX0_init_93 (fun H hG hS => ?_)
  refine lv_dup hx hb dX0_init_96 rfl ?_
  refine lv_bipush (v := 12) hx hb dX0_init_97 (by decide) ?_
  refine g_ctor (n2 := b + 37) (c2 := 36) (s2 := 314) (As := [.int 12]) (rest := [.ref (N + (b + 34)), .int 4, .ref (N + (b + 5))]) C0 hAO (jn_X7 (b := b + 34) (k := 12) (v := 12) (by decide) (by decide) (Nat.le_of_ble_eq_true rfl) (sub_ty (d := 34) (L2 := sh_X7 12) hT (by decide +kernel))) xm_X7_init xi_X7_init rfl wl_X0_33 ⟨rfl, rfl, (Nat.le_of_ble_eq_true rfl), (Nat.le_of_ble_eq_true rfl)⟩ hG hS (by omega) rfl rfl rfl hl.1 rfl (Nat.le_of_ble_eq_true rfl) ⟨(Nat.le_of_ble_eq_true rfl), (Nat.le_of_ble_eq_true rfl)⟩ dX0_init_99 (fun H locs hG hS => ?_)
  refine g_aast (q := b + 5) (j := 4) (v := b + 34) (len := 16) C0 hG hS (by decide) (by decide) (Nat.le_of_ble_eq_true rfl) (by omega) (by omega) (hT 5 _ rfl) (hT 34 _ rfl) dX0_init_102 (fun H locs hG hS => ?_)
  refine lv_aload_n hx hb dX0_init_103 rfl (lv_at hl 1 rfl) ?_
  refine gn_X0_30 (q := b) (v := b + 6) C0 hG (by omega) (hT 0 _ rfl) (by simp [lkp]) dX0_init_104 ?_
  refine lv_iload_n hx hb dX0_init_107 rfl (lv_at hl 0 rfl) ?_
  refine g_newo (ci := 7) (M := 3) (T := TX7) (n1 := b + 38) (c1 := 37) (s1 := 317) C0 hG hS rfl rfl rfl (hT 37 _ rfl) rfl iX7 tyX7_ok wc_X0_24 wn_X7 wi_X7 df_X7 (Nat.le_of_ble_eq_true rfl) (Nat.le_of_ble_eq_true rfl) dX0_init_108 (fun H hG hS => ?_)
  refine lv_dup hx hb dX0_init_111 rfl ?_
  refine lv_bipush (v := 12) hx hb dX0_init_112 (by decide) ?_
  refine g_ctor (n2 := b + 40) (c2 := 39) (s2 := 341) (As := [.int 12]) (rest := [.ref (N + (b + 37)), .int 4, .ref (N + (b + 6))]) C0 hAO (jn_X7 (b := b + 37) (k := 12) (v := 12) (by decide) (by decide) (Nat.le_of_ble_eq_true rfl) (sub_ty (d := 37) (L2 := sh_X7 12) hT (by decide +kernel))) xm_X7_init xi_X7_init rfl wl_X0_33 ⟨rfl, rfl, (Nat.le_of_ble_eq_true rfl), (Nat.le_of_ble_eq_true rfl)⟩ hG hS (by omega) rfl rfl rfl hl.1 rfl (Nat.le_of_ble_eq_true rfl) ⟨(Nat.le_of_ble_eq_true rfl), (Nat.le_of_ble_eq_true rfl)⟩ dX0_init_114 (fun H locs hG hS => ?_)
  refine g_aast (q := b + 6) (j := 4) (v := b + 37) (len := 16) C0 hG hS (by decide) (by decide) (Nat.le_of_ble_eq_true rfl) (by omega) (by omega) (hT 6 _ rfl) (hT 37 _ rfl) dX0_init_117 (fun H locs hG hS => ?_)
  refine lv_iinc (v := 5) (lv' := [(1, .int 5), (0, .ref (N + (b)))]) hx hb dX0_init_118 hl (k := 0) rfl (by decide) (by decide) rfl (fun ls hl => ?_)
  refine lv_goto (tgt := 82) hx hb dX0_init_121 (by decide) ?_
  refine lv_iload_n hx hb dX0_init_82 rfl (lv_at hl 0 rfl) ?_
  refine lv_bipush (v := 16) hx hb dX0_init_83 (by decide) ?_
  refine lv_icmp_ge (tgt := 124) hx hb dX0_init_85 (by decide) (fun z => absurd z (by decide)) (fun _ => ?_)
  refine lv_aload_n hx hb dX0_init_88 rfl (lv_at hl 1 rfl) ?_
  refine gn_X0_26 (q := b) (v := b + 5) C0 hG (by omega) (hT 0 _ rfl) (by simp [lkp]) dX0_init_89 ?_
  refine lv_iload_n hx hb dX0_init_92 rfl (lv_at hl 0 rfl) ?_
  refine g_newo (ci := 7) (M := 3) (T := TX7) (n1 := b + 41) (c1 := 40) (s1 := 344) C0 hG hS rfl rfl rfl (hT 40 _ rfl) rfl iX7 tyX7_ok wc_X0_24 wn_X7 wi_X7 df_X7 (Nat.le_of_ble_eq_true rfl) (Nat.le_of_ble_eq_true rfl) dX0_init_93 (fun H hG hS => ?_)
  refine lv_dup hx hb dX0_init_96 rfl ?_
  refine lv_bipush (v := 12) hx hb dX0_init_97 (by decide) ?_
  refine g_ctor (n2 := b + 43) (c2 := 42) (s2 := 368) (As := [.int 12]) (rest := [.ref (N + (b + 40)), .int 5, .ref (N + (b + 5))]) C0 hAO (jn_X7 (b := b + 40) (k := 12) (v := 12) (by decide) (by decide) (Nat.le_of_ble_eq_true rfl) (sub_ty (d := 40) (L2 := sh_X7 12) hT (by decide +kernel))) xm_X7_init xi_X7_init rfl wl_X0_33 ⟨rfl, rfl, (Nat.le_of_ble_eq_true rfl), (Nat.le_of_ble_eq_true rfl)⟩ hG hS (by omega) rfl rfl rfl hl.1 rfl (Nat.le_of_ble_eq_true rfl) ⟨(Nat.le_of_ble_eq_true rfl), (Nat.le_of_ble_eq_true rfl)⟩ dX0_init_99 (fun H locs hG hS => ?_)
  refine g_aast (q := b + 5) (j := 5) (v := b + 40) (len := 16) C0 hG hS (by decide) (by decide) (Nat.le_of_ble_eq_true rfl) (by omega) (by omega) (hT 5 _ rfl) (hT 40 _ rfl) dX0_init_102 (fun H locs hG hS => ?_)
  refine lv_aload_n hx hb dX0_init_103 rfl (lv_at hl 1 rfl) ?_
  refine gn_X0_30 (q := b) (v := b + 6) C0 hG (by omega) (hT 0 _ rfl) (by simp [lkp]) dX0_init_104 ?_
  refine lv_iload_n hx hb dX0_init_107 rfl (lv_at hl 0 rfl) ?_
  refine g_newo (ci := 7) (M := 3) (T := TX7) (n1 := b + 44) (c1 := 43) (s1 := 371) C0 hG hS rfl rfl rfl (hT 43 _ rfl) rfl iX7 tyX7_ok wc_X0_24 wn_X7 wi_X7 df_X7 (Nat.le_of_ble_eq_true rfl) (Nat.le_of_ble_eq_true rfl) dX0_init_108 (fun H hG hS => ?_)
  refine lv_dup hx hb dX0_init_111 rfl ?_
  refine lv_bipush (v := 12) hx hb dX0_init_112 (by decide) ?_
  refine g_ctor (n2 := b + 46) (c2 := 45) (s2 := 395) (As := [.int 12]) (rest := [.ref (N + (b + 43)), .int 5, .ref (N + (b + 6))]) C0 hAO (jn_X7 (b := b + 43) (k := 12) (v := 12) (by decide) (by decide) (Nat.le_of_ble_eq_true rfl) (sub_ty (d := 43) (L2 := sh_X7 12) hT (by decide +kernel))) xm_X7_init xi_X7_init rfl wl_X0_33 ⟨rfl, rfl, (Nat.le_of_ble_eq_true rfl), (Nat.le_of_ble_eq_true rfl)⟩ hG hS (by omega) rfl rfl rfl hl.1 rfl (Nat.le_of_ble_eq_true rfl) ⟨(Nat.le_of_ble_eq_true rfl), (Nat.le_of_ble_eq_true rfl)⟩ dX0_init_114 (fun H locs hG hS => ?_)
  refine g_aast (q := b + 6) (j := 5) (v := b + 43) (len := 16) C0 hG hS (by decide) (by decide) (Nat.le_of_ble_eq_true rfl) (by omega) (by omega) (hT 6 _ rfl) (hT 43 _ rfl) dX0_init_117 (fun H locs hG hS => ?_)
  refine lv_iinc (v := 6) (lv' := [(1, .int 6), (0, .ref (N + (b)))]) hx hb dX0_init_118 hl (k := 0) rfl (by decide) (by decide) rfl (fun ls hl => ?_)
  refine lv_goto (tgt := 82) hx hb dX0_init_121 (by decide) ?_
  refine lv_iload_n hx hb dX0_init_82 rfl (lv_at hl 0 rfl) ?_
  refine lv_bipush (v := 16) hx hb dX0_init_83 (by decide) ?_
  refine lv_icmp_ge (tgt := 124) hx hb dX0_init_85 (by decide) (fun z => absurd z (by decide)) (fun _ => ?_)
  refine lv_aload_n hx hb dX0_init_88 rfl (lv_at hl 1 rfl) ?_
  refine gn_X0_26 (q := b) (v := b + 5) C0 hG (by omega) (hT 0 _ rfl) (by simp [lkp]) dX0_init_89 ?_
  refine lv_iload_n hx hb dX0_init_92 rfl (lv_at hl 0 rfl) ?_
  refine g_newo (ci := 7) (M := 3) (T := TX7) (n1 := b + 47) (c1 := 46) (s1 := 398) C0 hG hS rfl rfl rfl (hT 46 _ rfl) rfl iX7 tyX7_ok wc_X0_24 wn_X7 wi_X7 df_X7 (Nat.le_of_ble_eq_true rfl) (Nat.le_of_ble_eq_true rfl) dX0_init_93 (fun H hG hS => ?_)
  refine lv_dup hx hb dX0_init_96 rfl ?_
  refine lv_bipush (v := 12) hx hb dX0_init_97 (by decide) ?_
  refine g_ctor (n2 := b + 49) (c2 := 48) (s2 := 422) (As := [.int 12]) (rest := [.ref (N + (b + 46)), .int 6, .ref (N + (b + 5))]) C0 hAO (jn_X7 (b := b + 46) (k := 12) (v := 12) (by decide) (by decide) (Nat.le_of_ble_eq_true rfl) (sub_ty (d := 46) (L2 := sh_X7 12) hT (by decide +kernel))) xm_X7_init xi_X7_init rfl wl_X0_33 ⟨rfl, rfl, (Nat.le_of_ble_eq_true rfl), (Nat.le_of_ble_eq_true rfl)⟩ hG hS (by omega) rfl rfl rfl hl.1 rfl (Nat.le_of_ble_eq_true rfl) ⟨(Nat.le_of_ble_eq_true rfl), (Nat.le_of_ble_eq_true rfl)⟩ dX0_init_99 (fun H locs hG hS => ?_)
  refine g_aast (q := b + 5) (j := 6) (v := b + 46) (len := 16) C0 hG hS (by decide) (by decide) (Nat.le_of_ble_eq_true rfl) (by omega) (by omega) (hT 5 _ rfl) (hT 46 _ rfl) dX0_init_102 (fun H locs hG hS => ?_)
  refine lv_aload_n hx hb dX0_init_103 rfl (lv_at hl 1 rfl) ?_
  refine gn_X0_30 (q := b) (v := b + 6) C0 hG (by omega) (hT 0 _ rfl) (by simp [lkp]) dX0_init_104 ?_
  refine lv_iload_n hx hb dX0_init_107 rfl (lv_at hl 0 rfl) ?_
  refine g_newo (ci := 7) (M := 3) (T := TX7) (n1 := b + 50) (c1 := 49) (s1 := 425) C0 hG hS rfl rfl rfl (hT 49 _ rfl) rfl iX7 tyX7_ok wc_X0_24 wn_X7 wi_X7 df_X7 (Nat.le_of_ble_eq_true rfl) (Nat.le_of_ble_eq_true rfl) dX0_init_108 (fun H hG hS => ?_)
  refine lv_dup hx hb dX0_init_111 rfl ?_
  refine lv_bipush (v := 12) hx hb dX0_init_112 (by decide) ?_
  refine g_ctor (n2 := b + 52) (c2 := 51) (s2 := 449) (As := [.int 12]) (rest := [.ref (N + (b + 49)), .int 6, .ref (N + (b + 6))]) C0 hAO (jn_X7 (b := b + 49) (k := 12) (v := 12) (by decide) (by decide) (Nat.le_of_ble_eq_true rfl) (sub_ty (d := 49) (L2 := sh_X7 12) hT (by decide +kernel))) xm_X7_init xi_X7_init rfl wl_X0_33 ⟨rfl, rfl, (Nat.le_of_ble_eq_true rfl), (Nat.le_of_ble_eq_true rfl)⟩ hG hS (by omega) rfl rfl rfl hl.1 rfl (Nat.le_of_ble_eq_true rfl) ⟨(Nat.le_of_ble_eq_true rfl), (Nat.le_of_ble_eq_true rfl)⟩ dX0_init_114 (fun H locs hG hS => ?_)
  refine g_aast (q := b + 6) (j := 6) (v := b + 49) (len := 16) C0 hG hS (by decide) (by decide) (Nat.le_of_ble_eq_true rfl) (by omega) (by omega) (hT 6 _ rfl) (hT 49 _ rfl) dX0_init_117 (fun H locs hG hS => ?_)
  refine lv_iinc (v := 7) (lv' := [(1, .int 7), (0, .ref (N + (b)))]) hx hb dX0_init_118 hl (k := 0) rfl (by decide) (by decide) rfl (fun ls hl => ?_)
  refine lv_goto (tgt := 82) hx hb dX0_init_121 (by decide) ?_
  refine lv_iload_n hx hb dX0_init_82 rfl (lv_at hl 0 rfl) ?_
  refine lv_bipush (v := 16) hx hb dX0_init_83 (by decide) ?_
  refine lv_icmp_ge (tgt := 124) hx hb dX0_init_85 (by decide) (fun z => absurd z (by decide)) (fun _ => ?_)
  refine lv_aload_n hx hb dX0_init_88 rfl (lv_at hl 1 rfl) ?_
  refine gn_X0_26 (q := b) (v := b + 5) C0 hG (by omega) (hT 0 _ rfl) (by simp [lkp]) dX0_init_89 ?_
  refine lv_iload_n hx hb dX0_init_92 rfl (lv_at hl 0 rfl) ?_
  refine g_newo (ci := 7) (M := 3) (T := TX7) (n1 := b + 53) (c1 := 52) (s1 := 452) C0 hG hS rfl rfl rfl (hT 52 _ rfl) rfl iX7 tyX7_ok wc_X0_24 wn_X7 wi_X7 df_X7 (Nat.le_of_ble_eq_true rfl) (Nat.le_of_ble_eq_true rfl) dX0_init_93 (fun H hG hS => ?_)
  refine lv_dup hx hb dX0_init_96 rfl ?_
  refine lv_bipush (v := 12) hx hb dX0_init_97 (by decide) ?_
  refine g_ctor (n2 := b + 55) (c2 := 54) (s2 := 476) (As := [.int 12]) (rest := [.ref (N + (b + 52)), .int 7, .ref (N + (b + 5))]) C0 hAO (jn_X7 (b := b + 52) (k := 12) (v := 12) (by decide) (by decide) (Nat.le_of_ble_eq_true rfl) (sub_ty (d := 52) (L2 := sh_X7 12) hT (by decide +kernel))) xm_X7_init xi_X7_init rfl wl_X0_33 ⟨rfl, rfl, (Nat.le_of_ble_eq_true rfl), (Nat.le_of_ble_eq_true rfl)⟩ hG hS (by omega) rfl rfl rfl hl.1 rfl (Nat.le_of_ble_eq_true rfl) ⟨(Nat.le_of_ble_eq_true rfl), (Nat.le_of_ble_eq_true rfl)⟩ dX0_init_99 (fun H locs hG hS => ?_)
  refine g_aast (q := b + 5) (j := 7) (v := b + 52) (len := 16) C0 hG hS (by decide) (by decide) (Nat.le_of_ble_eq_true rfl) (by omega) (by omega) (hT 5 _ rfl) (hT 52 _ rfl) dX0_init_102 (fun H locs hG hS => ?_)
  refine lv_aload_n hx hb dX0_init_103 rfl (lv_at hl 1 rfl) ?_
  refine gn_X0_30 (q := b) (v := b + 6) C0 hG (by omega) (hT 0 _ rfl) (by simp [lkp]) dX0_init_104 ?_
  refine lv_iload_n hx hb dX0_init_107 rfl (lv_at hl 0 rfl) ?_
  refine g_newo (ci := 7) (M := 3) (T := TX7) (n1 := b + 56) (c1 := 55) (s1 := 479) C0 hG hS rfl rfl rfl (hT 55 _ rfl) rfl iX7 tyX7_ok wc_X0_24 wn_X7 wi_X7 df_X7 (Nat.le_of_ble_eq_true rfl) (Nat.le_of_ble_eq_true rfl) dX0_init_108 (fun H hG hS => ?_)
  refine lv_dup hx hb dX0_init_111 rfl ?_
  refine lv_bipush (v := 12) hx hb dX0_init_112 (by decide) ?_
  refine g_ctor (n2 := b + 58) (c2 := 57) (s2 := 503) (As := [.int 12]) (rest := [.ref (N + (b + 55)), .int 7, .ref (N + (b + 6))]) C0 hAO (jn_X7 (b := b + 55) (k := 12) (v := 12) (by decide) (by decide) (Nat.le_of_ble_eq_true rfl) (sub_ty (d := 55) (L2 := sh_X7 12) hT (by decide +kernel))) xm_X7_init xi_X7_init rfl wl_X0_33 ⟨rfl, rfl, (Nat.le_of_ble_eq_true rfl), (Nat.le_of_ble_eq_true rfl)⟩ hG hS (by omega) rfl rfl rfl hl.1 rfl (Nat.le_of_ble_eq_true rfl) ⟨(Nat.le_of_ble_eq_true rfl), (Nat.le_of_ble_eq_true rfl)⟩ dX0_init_114 (fun H locs hG hS => ?_)
  refine g_aast (q := b + 6) (j := 7) (v := b + 55) (len := 16) C0 hG hS (by decide) (by decide) (Nat.le_of_ble_eq_true rfl) (by omega) (by omega) (hT 6 _ rfl) (hT 55 _ rfl) dX0_init_117 (fun H locs hG hS => ?_)
  refine lv_iinc (v := 8) (lv' := [(1, .int 8), (0, .ref (N + (b)))]) hx hb dX0_init_118 hl (k := 0) rfl (by decide) (by decide) rfl (fun ls hl => ?_)
  refine lv_goto (tgt := 82) hx hb dX0_init_121 (by decide) ?_
  refine lv_iload_n hx hb dX0_init_82 rfl (lv_at hl 0 rfl) ?_
  refine lv_bipush (v := 16) hx hb dX0_init_83 (by decide) ?_
  refine lv_icmp_ge (tgt := 124) hx hb dX0_init_85 (by decide) (fun z => absurd z (by decide)) (fun _ => ?_)
  refine lv_aload_n hx hb dX0_init_88 rfl (lv_at hl 1 rfl) ?_
  refine gn_X0_26 (q := b) (v := b + 5) C0 hG (by omega) (hT 0 _ rfl) (by simp [lkp]) dX0_init_89 ?_
  refine lv_iload_n hx hb dX0_init_92 rfl (lv_at hl 0 rfl) ?_
  refine g_newo (ci := 7) (M := 3) (T := TX7) (n1 := b + 59) (c1 := 58) (s1 := 506) C0 hG hS rfl rfl rfl (hT 58 _ rfl) rfl iX7 tyX7_ok wc_X0_24 wn_X7 wi_X7 df_X7 (Nat.le_of_ble_eq_true rfl) (Nat.le_of_ble_eq_true rfl) dX0_init_93 (fun H hG hS => ?_)
  refine lv_dup hx hb dX0_init_96 rfl ?_
  refine lv_bipush (v := 12) hx hb dX0_init_97 (by decide) ?_
  refine g_ctor (n2 := b + 61) (c2 := 60) (s2 := 530) (As := [.int 12]) (rest := [.ref (N + (b + 58)), .int 8, .ref (N + (b + 5))]) C0 hAO (jn_X7 (b := b + 58) (k := 12) (v := 12) (by decide) (by decide) (Nat.le_of_ble_eq_true rfl) (sub_ty (d := 58) (L2 := sh_X7 12) hT (by decide +kernel))) xm_X7_init xi_X7_init rfl wl_X0_33 ⟨rfl, rfl, (Nat.le_of_ble_eq_true rfl), (Nat.le_of_ble_eq_true rfl)⟩ hG hS (by omega) rfl rfl rfl hl.1 rfl (Nat.le_of_ble_eq_true rfl) ⟨(Nat.le_of_ble_eq_true rfl), (Nat.le_of_ble_eq_true rfl)⟩ dX0_init_99 (fun H locs hG hS => ?_)
  refine g_aast (q := b + 5) (j := 8) (v := b + 58) (len := 16) C0 hG hS (by decide) (by decide) (Nat.le_of_ble_eq_true rfl) (by omega) (by omega) (hT 5 _ rfl) (hT 58 _ rfl) dX0_init_102 (fun H locs hG hS => ?_)
  refine lv_aload_n hx hb dX0_init_103 rfl (lv_at hl 1 rfl) ?_
  refine gn_X0_30 (q := b) (v := b + 6) C0 hG (by omega) (hT 0 _ rfl) (by simp [lkp]) dX0_init_104 ?_
  refine lv_iload_n hx hb dX0_init_107 rfl (lv_at hl 0 rfl) ?_
  refine g_newo (ci := 7) (M := 3) (T := TX7) (n1 := b + 62) (c1 := 61) (s1 := 533) C0 hG hS rfl rfl rfl (hT 61 _ rfl) rfl iX7 tyX7_ok wc_X0_24 wn_X7 wi_X7 df_X7 (Nat.le_of_ble_eq_true rfl) (Nat.le_of_ble_eq_true rfl) dX0_init_108 (fun H hG hS => ?_)
  refine lv_dup hx hb dX0_init_111 rfl ?_
  refine lv_bipush (v := 12) hx hb dX0_init_112 (by decide) ?_
  refine g_ctor (n2 := b + 64) (c2 := 63) (s2 := 557) (As := [.int 12]) (rest := [.ref (N + (b + 61)), .int 8, .ref (N + (b + 6))]) C0 hAO (jn_X7 (b := b + 61) (k := 12) (v := 12) (by decide) (by decide) (Nat.le_of_ble_eq_true rfl) (sub_ty (d := 61) (L2 := sh_X7 12) hT (by decide +kernel))) xm_X7_init xi_X7_init rfl wl_X0_33 ⟨rfl, rfl, (Nat.le_of_ble_eq_true rfl), (Nat.le_of_ble_eq_true rfl)⟩ hG hS (by omega) rfl rfl rfl hl.1 rfl (Nat.le_of_ble_eq_true rfl) ⟨(Nat.le_of_ble_eq_true rfl), (Nat.le_of_ble_eq_true rfl)⟩ dX0_init_114 (fun H locs hG hS => ?_)
  refine g_aast (q := b + 6) (j := 8) (v := b + 61) (len := 16) C0 hG hS (by decide) (by decide) (Nat.le_of_ble_eq_true rfl) (by omega) (by omega) (hT 6 _ rfl) (hT 61 _ rfl) dX0_init_117 (fun H locs hG hS => ?_)
  refine lv_iinc (v := 9) (lv' := [(1, .int 9), (0, .ref (N + (b)))]) hx hb dX0_init_118 hl (k := 0) rfl (by decide) (by decide) rfl (fun ls hl => ?_)
  refine lv_goto (tgt := 82) hx hb dX0_init_121 (by decide) ?_
  refine lv_iload_n hx hb dX0_init_82 rfl (lv_at hl 0 rfl) ?_
  refine lv_bipush (v := 16) hx hb dX0_init_83 (by decide) ?_
  refine lv_icmp_ge (tgt := 124) hx hb dX0_init_85 (by decide) (fun z => absurd z (by decide)) (fun _ => ?_)
  refine lv_aload_n hx hb dX0_init_88 rfl (lv_at hl 1 rfl) ?_
  refine gn_X0_26 (q := b) (v := b + 5) C0 hG (by omega) (hT 0 _ rfl) (by simp [lkp]) dX0_init_89 ?_
  refine lv_iload_n hx hb dX0_init_92 rfl (lv_at hl 0 rfl) ?_
  refine g_newo (ci := 7) (M := 3) (T := TX7) (n1 := b + 65) (c1 := 64) (s1 := 560) C0 hG hS rfl rfl rfl (hT 64 _ rfl) rfl iX7 tyX7_ok wc_X0_24 wn_X7 wi_X7 df_X7 (Nat.le_of_ble_eq_true rfl) (Nat.le_of_ble_eq_true rfl) dX0_init_93 (fun H hG hS => ?_)
  refine lv_dup hx hb dX0_init_96 rfl ?_
  refine lv_bipush (v := 12) hx hb dX0_init_97 (by decide) ?_
  refine g_ctor (n2 := b + 67) (c2 := 66) (s2 := 584) (As := [.int 12]) (rest := [.ref (N + (b + 64)), .int 9, .ref (N + (b + 5))]) C0 hAO (jn_X7 (b := b + 64) (k := 12) (v := 12) (by decide) (by decide) (Nat.le_of_ble_eq_true rfl) (sub_ty (d := 64) (L2 := sh_X7 12) hT (by decide +kernel))) xm_X7_init xi_X7_init rfl wl_X0_33 ⟨rfl, rfl, (Nat.le_of_ble_eq_true rfl), (Nat.le_of_ble_eq_true rfl)⟩ hG hS (by omega) rfl rfl rfl hl.1 rfl (Nat.le_of_ble_eq_true rfl) ⟨(Nat.le_of_ble_eq_true rfl), (Nat.le_of_ble_eq_true rfl)⟩ dX0_init_99 (fun H locs hG hS => ?_)
  refine g_aast (q := b + 5) (j := 9) (v := b + 64) (len := 16) C0 hG hS (by decide) (by decide) (Nat.le_of_ble_eq_true rfl) (by omega) (by omega) (hT 5 _ rfl) (hT 64 _ rfl) dX0_init_102 (fun H locs hG hS => ?_)
  refine lv_aload_n hx hb dX0_init_103 rfl (lv_at hl 1 rfl) ?_
  refine gn_X0_30 (q := b) (v := b + 6) C0 hG (by omega) (hT 0 _ rfl) (by simp [lkp]) dX0_init_104 ?_
  refine lv_iload_n hx hb dX0_init_107 rfl (lv_at hl 0 rfl) ?_
  refine g_newo (ci := 7) (M := 3) (T := TX7) (n1 := b + 68) (c1 := 67) (s1 := 587) C0 hG hS rfl rfl rfl (hT 67 _ rfl) rfl iX7 tyX7_ok wc_X0_24 wn_X7 wi_X7 df_X7 (Nat.le_of_ble_eq_true rfl) (Nat.le_of_ble_eq_true rfl) dX0_init_108 (fun H hG hS => ?_)
  refine lv_dup hx hb dX0_init_111 rfl ?_
  refine lv_bipush (v := 12) hx hb dX0_init_112 (by decide) ?_
  refine g_ctor (n2 := b + 70) (c2 := 69) (s2 := 611) (As := [.int 12]) (rest := [.ref (N + (b + 67)), .int 9, .ref (N + (b + 6))]) C0 hAO (jn_X7 (b := b + 67) (k := 12) (v := 12) (by decide) (by decide) (Nat.le_of_ble_eq_true rfl) (sub_ty (d := 67) (L2 := sh_X7 12) hT (by decide +kernel))) xm_X7_init xi_X7_init rfl wl_X0_33 ⟨rfl, rfl, (Nat.le_of_ble_eq_true rfl), (Nat.le_of_ble_eq_true rfl)⟩ hG hS (by omega) rfl rfl rfl hl.1 rfl (Nat.le_of_ble_eq_true rfl) ⟨(Nat.le_of_ble_eq_true rfl), (Nat.le_of_ble_eq_true rfl)⟩ dX0_init_114 (fun H locs hG hS => ?_)
  refine g_aast (q := b + 6) (j := 9) (v := b + 67) (len := 16) C0 hG hS (by decide) (by decide) (Nat.le_of_ble_eq_true rfl) (by omega) (by omega) (hT 6 _ rfl) (hT 67 _ rfl) dX0_init_117 (fun H locs hG hS => ?_)
  refine lv_iinc (v := 10) (lv' := [(1, .int 10), (0, .ref (N + (b)))]) hx hb dX0_init_118 hl (k := 0) rfl (by decide) (by decide) rfl (fun ls hl => ?_)
  refine lv_goto (tgt := 82) hx hb dX0_init_121 (by decide) ?_
  refine lv_iload_n hx hb dX0_init_82 rfl (lv_at hl 0 rfl) ?_
  refine lv_bipush (v := 16) hx hb dX0_init_83 (by decide) ?_
  refine lv_icmp_ge (tgt := 124) hx hb dX0_init_85 (by decide) (fun z => absurd z (by decide)) (fun _ => ?_)
  refine lv_aload_n hx hb dX0_init_88 rfl (lv_at hl 1 rfl) ?_
  refine gn_X0_26 (q := b) (v := b + 5) C0 hG (by omega) (hT 0 _ rfl) (by simp [lkp]) dX0_init_89 ?_
  refine lv_iload_n hx hb dX0_init_92 rfl (lv_at hl 0 rfl) ?_
  refine g_newo (ci := 7) (M := 3) (T := TX7) (n1 := b + 71) (c1 := 70) (s1 := 614) C0 hG hS rfl rfl rfl (hT 70 _ rfl) rfl iX7 tyX7_ok wc_X0_24 wn_X7 wi_X7 df_X7 (Nat.le_of_ble_eq_true rfl) (Nat.le_of_ble_eq_true rfl) dX0_init_93 (fun H hG hS => ?_)
  refine lv_dup hx hb dX0_init_96 rfl ?_
  refine lv_bipush (v := 12) hx hb dX0_init_97 (by decide) ?_
  refine g_ctor (n2 := b + 73) (c2 := 72) (s2 := 638) (As := [.int 12]) (rest := [.ref (N + (b + 70)), .int 10, .ref (N + (b + 5))]) C0 hAO (jn_X7 (b := b + 70) (k := 12) (v := 12) (by decide) (by decide) (Nat.le_of_ble_eq_true rfl) (sub_ty (d := 70) (L2 := sh_X7 12) hT (by decide +kernel))) xm_X7_init xi_X7_init rfl wl_X0_33 ⟨rfl, rfl, (Nat.le_of_ble_eq_true rfl), (Nat.le_of_ble_eq_true rfl)⟩ hG hS (by omega) rfl rfl rfl hl.1 rfl (Nat.le_of_ble_eq_true rfl) ⟨(Nat.le_of_ble_eq_true rfl), (Nat.le_of_ble_eq_true rfl)⟩ dX0_init_99 (fun H locs hG hS => ?_)
  refine g_aast (q := b + 5) (j := 10) (v := b + 70) (len := 16) C0 hG hS (by decide) (by decide) (Nat.le_of_ble_eq_true rfl) (by omega) (by omega) (hT 5 _ rfl) (hT 70 _ rfl) dX0_init_102 (fun H locs hG hS => ?_)
  refine lv_aload_n hx hb dX0_init_103 rfl (lv_at hl 1 rfl) ?_
  refine gn_X0_30 (q := b) (v := b + 6) C0 hG (by omega) (hT 0 _ rfl) (by simp [lkp]) dX0_init_104 ?_
  refine lv_iload_n hx hb dX0_init_107 rfl (lv_at hl 0 rfl) ?_
  refine g_newo (ci := 7) (M := 3) (T := TX7) (n1 := b + 74) (c1 := 73) (s1 := 641) C0 hG hS rfl rfl rfl (hT 73 _ rfl) rfl iX7 tyX7_ok wc_X0_24 wn_X7 wi_X7 df_X7 (Nat.le_of_ble_eq_true rfl) (Nat.le_of_ble_eq_true rfl) dX0_init_108 (fun H hG hS => ?_)
  refine lv_dup hx hb dX0_init_111 rfl ?_
  refine lv_bipush (v := 12) hx hb dX0_init_112 (by decide) ?_
  refine g_ctor (n2 := b + 76) (c2 := 75) (s2 := 665) (As := [.int 12]) (rest := [.ref (N + (b + 73)), .int 10, .ref (N + (b + 6))]) C0 hAO (jn_X7 (b := b + 73) (k := 12) (v := 12) (by decide) (by decide) (Nat.le_of_ble_eq_true rfl) (sub_ty (d := 73) (L2 := sh_X7 12) hT (by decide +kernel))) xm_X7_init xi_X7_init rfl wl_X0_33 ⟨rfl, rfl, (Nat.le_of_ble_eq_true rfl), (Nat.le_of_ble_eq_true rfl)⟩ hG hS (by omega) rfl rfl rfl hl.1 rfl (Nat.le_of_ble_eq_true rfl) ⟨(Nat.le_of_ble_eq_true rfl), (Nat.le_of_ble_eq_true rfl)⟩ dX0_init_114 (fun H locs hG hS => ?_)
  refine g_aast (q := b + 6) (j := 10) (v := b + 73) (len := 16) C0 hG hS (by decide) (by decide) (Nat.le_of_ble_eq_true rfl) (by omega) (by omega) (hT 6 _ rfl) (hT 73 _ rfl) dX0_init_117 (fun H locs hG hS => ?_)
  refine lv_iinc (v := 11) (lv' := [(1, .int 11), (0, .ref (N + (b)))]) hx hb dX0_init_118 hl (k := 0) rfl (by decide) (by decide) rfl (fun ls hl => ?_)
  refine lv_goto (tgt := 82) hx hb dX0_init_121 (by decide) ?_
  refine lv_iload_n hx hb dX0_init_82 rfl (lv_at hl 0 rfl) ?_
  refine lv_bipush (v := 16) hx hb dX0_init_83 (by decide) ?_
  refine lv_icmp_ge (tgt := 124) hx hb dX0_init_85 (by decide) (fun z => absurd z (by decide)) (fun _ => ?_)
  refine lv_aload_n hx hb dX0_init_88 rfl (lv_at hl 1 rfl) ?_
  refine gn_X0_26 (q := b) (v := b + 5) C0 hG (by omega) (hT 0 _ rfl) (by simp [lkp]) dX0_init_89 ?_
  refine lv_iload_n hx hb dX0_init_92 rfl (lv_at hl 0 rfl) ?_
  refine g_newo (ci := 7) (M := 3) (T := TX7) (n1 := b + 77) (c1 := 76) (s1 := 668) C0 hG hS rfl rfl rfl (hT 76 _ rfl) rfl iX7 tyX7_ok wc_X0_24 wn_X7 wi_X7 df_X7 (Nat.le_of_ble_eq_true rfl) (Nat.le_of_ble_eq_true rfl) dX0_init_93 (fun H hG hS => ?_)
  refine lv_dup hx hb dX0_init_96 rfl ?_
  refine lv_bipush (v := 12) hx hb dX0_init_97 (by decide) ?_
  refine g_ctor (n2 := b + 79) (c2 := 78) (s2 := 692) (As := [.int 12]) (rest := [.ref (N + (b + 76)), .int 11, .ref (N + (b + 5))]) C0 hAO (jn_X7 (b := b + 76) (k := 12) (v := 12) (by decide) (by decide) (Nat.le_of_ble_eq_true rfl) (sub_ty (d := 76) (L2 := sh_X7 12) hT (by decide +kernel))) xm_X7_init xi_X7_init rfl wl_X0_33 ⟨rfl, rfl, (Nat.le_of_ble_eq_true rfl), (Nat.le_of_ble_eq_true rfl)⟩ hG hS (by omega) rfl rfl rfl hl.1 rfl (Nat.le_of_ble_eq_true rfl) ⟨(Nat.le_of_ble_eq_true rfl), (Nat.le_of_ble_eq_true rfl)⟩ dX0_init_99 (fun H locs hG hS => ?_)
  refine g_aast (q := b + 5) (j := 11) (v := b + 76) (len := 16) C0 hG hS (by decide) (by decide) (Nat.le_of_ble_eq_true rfl) (by omega) (by omega) (hT 5 _ rfl) (hT 76 _ rfl) dX0_init_102 (fun H locs hG hS => ?_)
  refine lv_aload_n hx hb dX0_init_103 rfl (lv_at hl 1 rfl) ?_
  refine gn_X0_30 (q := b) (v := b + 6) C0 hG (by omega) (hT 0 _ rfl) (by simp [lkp]) dX0_init_104 ?_
  refine lv_iload_n hx hb dX0_init_107 rfl (lv_at hl 0 rfl) ?_
  refine g_newo (ci := 7) (M := 3) (T := TX7) (n1 := b + 80) (c1 := 79) (s1 := 695) C0 hG hS rfl rfl rfl (hT 79 _ rfl) rfl iX7 tyX7_ok wc_X0_24 wn_X7 wi_X7 df_X7 (Nat.le_of_ble_eq_true rfl) (Nat.le_of_ble_eq_true rfl) dX0_init_108 (fun H hG hS => ?_)
  refine lv_dup hx hb dX0_init_111 rfl ?_
  refine lv_bipush (v := 12) hx hb dX0_init_112 (by decide) ?_
  refine g_ctor (n2 := b + 82) (c2 := 81) (s2 := 719) (As := [.int 12]) (rest := [.ref (N + (b + 79)), .int 11, .ref (N + (b + 6))]) C0 hAO (jn_X7 (b := b + 79) (k := 12) (v := 12) (by decide) (by decide) (Nat.le_of_ble_eq_true rfl) (sub_ty (d := 79) (L2 := sh_X7 12) hT (by decide +kernel))) xm_X7_init xi_X7_init rfl wl_X0_33 ⟨rfl, rfl, (Nat.le_of_ble_eq_true rfl), (Nat.le_of_ble_eq_true rfl)⟩ hG hS (by omega) rfl rfl rfl hl.1 rfl (Nat.le_of_ble_eq_true rfl) ⟨(Nat.le_of_ble_eq_true rfl), (Nat.le_of_ble_eq_true rfl)⟩ dX0_init_114 (fun H locs hG hS => ?_)
  refine g_aast (q := b + 6) (j := 11) (v := b + 79) (len := 16) C0 hG hS (by decide) (by decide) (Nat.le_of_ble_eq_true rfl) (by omega) (by omega) (hT 6 _ rfl) (hT 79 _ rfl) dX0_init_117 (fun H locs hG hS => ?_)
  refine lv_iinc (v := 12) (lv' := [(1, .int 12), (0, .ref (N + (b)))]) hx hb dX0_init_118 hl (k := 0) rfl (by decide) (by decide) rfl (fun ls hl => ?_)
  refine lv_goto (tgt := 82) hx hb dX0_init_121 (by decide) ?_
  refine lv_iload_n hx hb dX0_init_82 rfl (lv_at hl 0 rfl) ?_
  refine lv_bipush (v := 16) hx hb dX0_init_83 (by decide) ?_
  refine lv_icmp_ge (tgt := 124) hx hb dX0_init_85 (by decide) (fun z => absurd z (by decide)) (fun _ => ?_)
  refine lv_aload_n hx hb dX0_init_88 rfl (lv_at hl 1 rfl) ?_
  refine gn_X0_26 (q := b) (v := b + 5) C0 hG (by omega) (hT 0 _ rfl) (by simp [lkp]) dX0_init_89 ?_
  refine lv_iload_n hx hb dX0_init_92 rfl (lv_at hl 0 rfl) ?_
  refine g_newo (ci := 7) (M := 3) (T := TX7) (n1 := b + 83) (c1 := 82) (s1 := 722) C0 hG hS rfl rfl rfl (hT 82 _ rfl) rfl iX7 tyX7_ok wc_X0_24 wn_X7 wi_X7 df_X7 (Nat.le_of_ble_eq_true rfl) (Nat.le_of_ble_eq_true rfl) dX0_init_93 (fun H hG hS => ?_)
  refine lv_dup hx hb dX0_init_96 rfl ?_
  refine lv_bipush (v := 12) hx hb dX0_init_97 (by decide) ?_
  refine g_ctor (n2 := b + 85) (c2 := 84) (s2 := 746) (As := [.int 12]) (rest := [.ref (N + (b + 82)), .int 12, .ref (N + (b + 5))]) C0 hAO (jn_X7 (b := b + 82) (k := 12) (v := 12) (by decide) (by decide) (Nat.le_of_ble_eq_true rfl) (sub_ty (d := 82) (L2 := sh_X7 12) hT (by decide +kernel))) xm_X7_init xi_X7_init rfl wl_X0_33 ⟨rfl, rfl, (Nat.le_of_ble_eq_true rfl), (Nat.le_of_ble_eq_true rfl)⟩ hG hS (by omega) rfl rfl rfl hl.1 rfl (Nat.le_of_ble_eq_true rfl) ⟨(Nat.le_of_ble_eq_true rfl), (Nat.le_of_ble_eq_true rfl)⟩ dX0_init_99 (fun H locs hG hS => ?_)
  refine g_aast (q := b + 5) (j := 12) (v := b + 82) (len := 16) C0 hG hS (by decide) (by decide) (Nat.le_of_ble_eq_true rfl) (by omega) (by omega) (hT 5 _ rfl) (hT 82 _ rfl) dX0_init_102 (fun H locs hG hS => ?_)
  refine lv_aload_n hx hb dX0_init_103 rfl (lv_at hl 1 rfl) ?_
  refine gn_X0_30 (q := b) (v := b + 6) C0 hG (by omega) (hT 0 _ rfl) (by simp [lkp]) dX0_init_104 ?_
  refine lv_iload_n hx hb dX0_init_107 rfl (lv_at hl 0 rfl) ?_
  refine g_newo (ci := 7) (M := 3) (T := TX7) (n1 := b + 86) (c1 := 85) (s1 := 749) C0 hG hS rfl rfl rfl (hT 85 _ rfl) rfl iX7 tyX7_ok wc_X0_24 wn_X7 wi_X7 df_X7 (Nat.le_of_ble_eq_true rfl) (Nat.le_of_ble_eq_true rfl) dX0_init_108 (fun H hG hS => ?_)
  refine lv_dup hx hb dX0_init_111 rfl ?_
  refine lv_bipush (v := 12) hx hb dX0_init_112 (by decide) ?_
  refine g_ctor (n2 := b + 88) (c2 := 87) (s2 := 773) (As := [.int 12]) (rest := [.ref (N + (b + 85)), .int 12, .ref (N + (b + 6))]) C0 hAO (jn_X7 (b := b + 85) (k := 12) (v := 12) (by decide) (by decide) (Nat.le_of_ble_eq_true rfl) (sub_ty (d := 85) (L2 := sh_X7 12) hT (by decide +kernel))) xm_X7_init xi_X7_init rfl wl_X0_33 ⟨rfl, rfl, (Nat.le_of_ble_eq_true rfl), (Nat.le_of_ble_eq_true rfl)⟩ hG hS (by omega) rfl rfl rfl hl.1 rfl (Nat.le_of_ble_eq_true rfl) ⟨(Nat.le_of_ble_eq_true rfl), (Nat.le_of_ble_eq_true rfl)⟩ dX0_init_114 (fun H locs hG hS => ?_)
  refine g_aast (q := b + 6) (j := 12) (v := b + 85) (len := 16) C0 hG hS (by decide) (by decide) (Nat.le_of_ble_eq_true rfl) (by omega) (by omega) (hT 6 _ rfl) (hT 85 _ rfl) dX0_init_117 (fun H locs hG hS => ?_)
  refine lv_iinc (v := 13) (lv' := [(1, .int 13), (0, .ref (N + (b)))]) hx hb dX0_init_118 hl (k := 0) rfl (by decide) (by decide) rfl (fun ls hl => ?_)
  refine lv_goto (tgt := 82) hx hb dX0_init_121 (by decide) ?_
  refine lv_iload_n hx hb dX0_init_82 rfl (lv_at hl 0 rfl) ?_
  refine lv_bipush (v := 16) hx hb dX0_init_83 (by decide) ?_
  refine lv_icmp_ge (tgt := 124) hx hb dX0_init_85 (by decide) (fun z => absurd z (by decide)) (fun _ => ?_)
  refine lv_aload_n hx hb dX0_init_88 rfl (lv_at hl 1 rfl) ?_
  refine gn_X0_26 (q := b) (v := b + 5) C0 hG (by omega) (hT 0 _ rfl) (by simp [lkp]) dX0_init_89 ?_
  refine lv_iload_n hx hb dX0_init_92 rfl (lv_at hl 0 rfl) ?_
  refine g_newo (ci := 7) (M := 3) (T := TX7) (n1 := b + 89) (c1 := 88) (s1 := 776) C0 hG hS rfl rfl rfl (hT 88 _ rfl) rfl iX7 tyX7_ok wc_X0_24 wn_X7 wi_X7 df_X7 (Nat.le_of_ble_eq_true rfl) (Nat.le_of_ble_eq_true rfl) dX0_init_93 (fun H hG hS => ?_)
  refine lv_dup hx hb dX0_init_96 rfl ?_
  refine lv_bipush (v := 12) hx hb dX0_init_97 (by decide) ?_
  refine g_ctor (n2 := b + 91) (c2 := 90) (s2 := 800) (As := [.int 12]) (rest := [.ref (N + (b + 88)), .int 13, .ref (N + (b + 5))]) C0 hAO (jn_X7 (b := b + 88) (k := 12) (v := 12) (by decide) (by decide) (Nat.le_of_ble_eq_true rfl) (sub_ty (d := 88) (L2 := sh_X7 12) hT (by decide +kernel))) xm_X7_init xi_X7_init rfl wl_X0_33 ⟨rfl, rfl, (Nat.le_of_ble_eq_true rfl), (Nat.le_of_ble_eq_true rfl)⟩ hG hS (by omega) rfl rfl rfl hl.1 rfl (Nat.le_of_ble_eq_true rfl) ⟨(Nat.le_of_ble_eq_true rfl), (Nat.le_of_ble_eq_true rfl)⟩ dX0_init_99 (fun H locs hG hS => ?_)
  refine g_aast (q := b + 5) (j := 13) (v := b + 88) (len := 16) C0 hG hS (by decide) (by decide) (Nat.le_of_ble_eq_true rfl) (by omega) (by omega) (hT 5 _ rfl) (hT 88 _ rfl) dX0_init_102 (fun H locs hG hS => ?_)
  refine lv_aload_n hx hb dX0_init_103 rfl (lv_at hl 1 rfl) ?_
  refine gn_X0_30 (q := b) (v := b + 6) C0 hG (by omega) (hT 0 _ rfl) (by simp [lkp]) dX0_init_104 ?_
  refine lv_iload_n hx hb dX0_init_107 rfl (lv_at hl 0 rfl) ?_
  refine g_newo (ci := 7) (M := 3) (T := TX7) (n1 := b + 92) (c1 := 91) (s1 := 803) C0 hG hS rfl rfl rfl (hT 91 _ rfl) rfl iX7 tyX7_ok wc_X0_24 wn_X7 wi_X7 df_X7 (Nat.le_of_ble_eq_true rfl) (Nat.le_of_ble_eq_true rfl) dX0_init_108 (fun H hG hS => ?_)
  refine lv_dup hx hb dX0_init_111 rfl ?_
  refine lv_bipush (v := 12) hx hb dX0_init_112 (by decide) ?_
  refine g_ctor (n2 := b + 94) (c2 := 93) (s2 := 827) (As := [.int 12]) (rest := [.ref (N + (b + 91)), .int 13, .ref (N + (b + 6))]) C0 hAO (jn_X7 (b := b + 91) (k := 12) (v := 12) (by decide) (by decide) (Nat.le_of_ble_eq_true rfl) (sub_ty (d := 91) (L2 := sh_X7 12) hT (by decide +kernel))) xm_X7_init xi_X7_init rfl wl_X0_33 ⟨rfl, rfl, (Nat.le_of_ble_eq_true rfl), (Nat.le_of_ble_eq_true rfl)⟩ hG hS (by omega) rfl rfl rfl hl.1 rfl (Nat.le_of_ble_eq_true rfl) ⟨(Nat.le_of_ble_eq_true rfl), (Nat.le_of_ble_eq_true rfl)⟩ dX0_init_114 (fun H locs hG hS => ?_)
  refine g_aast (q := b + 6) (j := 13) (v := b + 91) (len := 16) C0 hG hS (by decide) (by decide) (Nat.le_of_ble_eq_true rfl) (by omega) (by omega) (hT 6 _ rfl) (hT 91 _ rfl) dX0_init_117 (fun H locs hG hS => ?_)
  refine lv_iinc (v := 14) (lv' := [(1, .int 14), (0, .ref (N + (b)))]) hx hb dX0_init_118 hl (k := 0) rfl (by decide) (by decide) rfl (fun ls hl => ?_)
  refine lv_goto (tgt := 82) hx hb dX0_init_121 (by decide) ?_
  refine lv_iload_n hx hb dX0_init_82 rfl (lv_at hl 0 rfl) ?_
  refine lv_bipush (v := 16) hx hb dX0_init_83 (by decide) ?_
  refine lv_icmp_ge (tgt := 124) hx hb dX0_init_85 (by decide) (fun z => absurd z (by decide)) (fun _ => ?_)
  refine lv_aload_n hx hb dX0_init_88 rfl (lv_at hl 1 rfl) ?_
  refine gn_X0_26 (q := b) (v := b + 5) C0 hG (by omega) (hT 0 _ rfl) (by simp [lkp]) dX0_init_89 ?_
  refine lv_iload_n hx hb dX0_init_92 rfl (lv_at hl 0 rfl) ?_
  refine g_newo (ci := 7) (M := 3) (T := TX7) (n1 := b + 95) (c1 := 94) (s1 := 830) C0 hG hS rfl rfl rfl (hT 94 _ rfl) rfl iX7 tyX7_ok wc_X0_24 wn_X7 wi_X7 df_X7 (Nat.le_of_ble_eq_true rfl) (Nat.le_of_ble_eq_true rfl) dX0_init_93 (fun H hG hS => ?_)
  refine lv_dup hx hb dX0_init_96 rfl ?_
  refine lv_bipush (v := 12) hx hb dX0_init_97 (by decide) ?_
  refine g_ctor (n2 := b + 97) (c2 := 96) (s2 := 854) (As := [.int 12]) (rest := [.ref (N + (b + 94)), .int 14, .ref (N + (b + 5))]) C0 hAO (jn_X7 (b := b + 94) (k := 12) (v := 12) (by decide) (by decide) (Nat.le_of_ble_eq_true rfl) (sub_ty (d := 94) (L2 := sh_X7 12) hT (by decide +kernel))) xm_X7_init xi_X7_init rfl wl_X0_33 ⟨rfl, rfl, (Nat.le_of_ble_eq_true rfl), (Nat.le_of_ble_eq_true rfl)⟩ hG hS (by omega) rfl rfl rfl hl.1 rfl (Nat.le_of_ble_eq_true rfl) ⟨(Nat.le_of_ble_eq_true rfl), (Nat.le_of_ble_eq_true rfl)⟩ dX0_init_99 (fun H locs hG hS => ?_)
  refine g_aast (q := b + 5) (j := 14) (v := b + 94) (len := 16) C0 hG hS (by decide) (by decide) (Nat.le_of_ble_eq_true rfl) (by omega) (by omega) (hT 5 _ rfl) (hT 94 _ rfl) dX0_init_102 (fun H locs hG hS => ?_)
  refine lv_aload_n hx hb dX0_init_103 rfl (lv_at hl 1 rfl) ?_
  refine gn_X0_30 (q := b) (v := b + 6) C0 hG (by omega) (hT 0 _ rfl) (by simp [lkp]) dX0_init_104 ?_
  refine lv_iload_n hx hb dX0_init_107 rfl (lv_at hl 0 rfl) ?_
  refine g_newo (ci := 7) (M := 3) (T := TX7) (n1 := b + 98) (c1 := 97) (s1 := 857) C0 hG hS rfl rfl rfl (hT 97 _ rfl) rfl iX7 tyX7_ok wc_X0_24 wn_X7 wi_X7 df_X7 (Nat.le_of_ble_eq_true rfl) (Nat.le_of_ble_eq_true rfl) dX0_init_108 (fun H hG hS => ?_)
  refine lv_dup hx hb dX0_init_111 rfl ?_
  refine lv_bipush (v := 12) hx hb dX0_init_112 (by decide) ?_
  refine g_ctor (n2 := b + 100) (c2 := 99) (s2 := 881) (As := [.int 12]) (rest := [.ref (N + (b + 97)), .int 14, .ref (N + (b + 6))]) C0 hAO (jn_X7 (b := b + 97) (k := 12) (v := 12) (by decide) (by decide) (Nat.le_of_ble_eq_true rfl) (sub_ty (d := 97) (L2 := sh_X7 12) hT (by decide +kernel))) xm_X7_init xi_X7_init rfl wl_X0_33 ⟨rfl, rfl, (Nat.le_of_ble_eq_true rfl), (Nat.le_of_ble_eq_true rfl)⟩ hG hS (by omega) rfl rfl rfl hl.1 rfl (Nat.le_of_ble_eq_true rfl) ⟨(Nat.le_of_ble_eq_true rfl), (Nat.le_of_ble_eq_true rfl)⟩ dX0_init_114 (fun H locs hG hS => ?_)
  refine g_aast (q := b + 6) (j := 14) (v := b + 97) (len := 16) C0 hG hS (by decide) (by decide) (Nat.le_of_ble_eq_true rfl) (by omega) (by omega) (hT 6 _ rfl) (hT 97 _ rfl) dX0_init_117 (fun H locs hG hS => ?_)
  refine lv_iinc (v := 15) (lv' := [(1, .int 15), (0, .ref (N + (b)))]) hx hb dX0_init_118 hl (k := 0) rfl (by decide) (by decide) rfl (fun ls hl => ?_)
  refine lv_goto (tgt := 82) hx hb dX0_init_121 (by decide) ?_
  refine lv_iload_n hx hb dX0_init_82 rfl (lv_at hl 0 rfl) ?_
  refine lv_bipush (v := 16) hx hb dX0_init_83 (by decide) ?_
  refine lv_icmp_ge (tgt := 124) hx hb dX0_init_85 (by decide) (fun z => absurd z (by decide)) (fun _ => ?_)
  refine lv_aload_n hx hb dX0_init_88 rfl (lv_at hl 1 rfl) ?_
  refine gn_X0_26 (q := b) (v := b + 5) C0 hG (by omega) (hT 0 _ rfl) (by simp [lkp]) dX0_init_89 ?_
  refine lv_iload_n hx hb dX0_init_92 rfl (lv_at hl 0 rfl) ?_
  refine g_newo (ci := 7) (M := 3) (T := TX7) (n1 := b + 101) (c1 := 100) (s1 := 884) C0 hG hS rfl rfl rfl (hT 100 _ rfl) rfl iX7 tyX7_ok wc_X0_24 wn_X7 wi_X7 df_X7 (Nat.le_of_ble_eq_true rfl) (Nat.le_of_ble_eq_true rfl) dX0_init_93 (fun H hG hS => ?_)
  refine lv_dup hx hb dX0_init_96 rfl ?_
  refine lv_bipush (v := 12) hx hb dX0_init_97 (by decide) ?_
  refine g_ctor (n2 := b + 103) (c2 := 102) (s2 := 908) (As := [.int 12]) (rest := [.ref (N + (b + 100)), .int 15, .ref (N + (b + 5))]) C0 hAO (jn_X7 (b := b + 100) (k := 12) (v := 12) (by decide) (by decide) (Nat.le_of_ble_eq_true rfl) (sub_ty (d := 100) (L2 := sh_X7 12) hT (by decide +kernel))) xm_X7_init xi_X7_init rfl wl_X0_33 ⟨rfl, rfl, (Nat.le_of_ble_eq_true rfl), (Nat.le_of_ble_eq_true rfl)⟩ hG hS (by omega) rfl rfl rfl hl.1 rfl (Nat.le_of_ble_eq_true rfl) ⟨(Nat.le_of_ble_eq_true rfl), (Nat.le_of_ble_eq_true rfl)⟩ dX0_init_99 (fun H locs hG hS => ?_)
  refine g_aast (q := b + 5) (j := 15) (v := b + 100) (len := 16) C0 hG hS (by decide) (by decide) (Nat.le_of_ble_eq_true rfl) (by omega) (by omega) (hT 5 _ rfl) (hT 100 _ rfl) dX0_init_102 (fun H locs hG hS => ?_)
  refine lv_aload_n hx hb dX0_init_103 rfl (lv_at hl 1 rfl) ?_
  refine gn_X0_30 (q := b) (v := b + 6) C0 hG (by omega) (hT 0 _ rfl) (by simp [lkp]) dX0_init_104 ?_
  refine lv_iload_n hx hb dX0_init_107 rfl (lv_at hl 0 rfl) ?_
  refine g_newo (ci := 7) (M := 3) (T := TX7) (n1 := b + 104) (c1 := 103) (s1 := 911) C0 hG hS rfl rfl rfl (hT 103 _ rfl) rfl iX7 tyX7_ok wc_X0_24 wn_X7 wi_X7 df_X7 (Nat.le_of_ble_eq_true rfl) (Nat.le_of_ble_eq_true rfl) dX0_init_108 (fun H hG hS => ?_)
  refine lv_dup hx hb dX0_init_111 rfl ?_
  refine lv_bipush (v := 12) hx hb dX0_init_112 (by decide) ?_
  refine g_ctor (n2 := b + 106) (c2 := 105) (s2 := 935) (As := [.int 12]) (rest := [.ref (N + (b + 103)), .int 15, .ref (N + (b + 6))]) C0 hAO (jn_X7 (b := b + 103) (k := 12) (v := 12) (by decide) (by decide) (Nat.le_of_ble_eq_true rfl) (sub_ty (d := 103) (L2 := sh_X7 12) hT (by decide +kernel))) xm_X7_init xi_X7_init rfl wl_X0_33 ⟨rfl, rfl, (Nat.le_of_ble_eq_true rfl), (Nat.le_of_ble_eq_true rfl)⟩ hG hS (by omega) rfl rfl rfl hl.1 rfl (Nat.le_of_ble_eq_true rfl) ⟨(Nat.le_of_ble_eq_true rfl), (Nat.le_of_ble_eq_true rfl)⟩ dX0_init_114 (fun H locs hG hS => ?_)
  refine g_aast (q := b + 6) (j := 15) (v := b + 103) (len := 16) C0 hG hS (by decide) (by decide) (Nat.le_of_ble_eq_true rfl) (by omega) (by omega) (hT 6 _ rfl) (hT 103 _ rfl) dX0_init_117 (fun H locs hG hS => ?_)
  refine lv_iinc (v := 16) (lv' := [(1, .int 16), (0, .ref (N + (b)))]) hx hb dX0_init_118 hl (k := 0) rfl (by decide) (by decide) rfl (fun ls hl => ?_)
  refine lv_goto (tgt := 82) hx hb dX0_init_121 (by decide) ?_
  refine lv_iload_n hx hb dX0_init_82 rfl (lv_at hl 0 rfl) ?_
  refine lv_bipush (v := 16) hx hb dX0_init_83 (by decide) ?_
  refine lv_icmp_ge (tgt := 124) hx hb dX0_init_85 (by decide) (fun _ => ?_) (fun z => absurd (by decide) z)
  have hG : xG D ty N (b + 106) (nr_X0 b ++ tR) (ni_X0 b ++ tI) (np_X0 b ++ tP) tA H := hG
  exact g_vret C0 hG hS dX0_init_124
theorem dX11_init_0 : decode cX11_init 0 = .ok (.aload_n 0, 1) := by decide +kernel
theorem dX11_init_1 : decode cX11_init 1 = .ok (.invokespecial 3, 3) := by decide +kernel
theorem wj_X11_3 : Cond.methodLink RX11 3 Lib.objectInit ∈ xT := xin 139 (by decide +kernel) rfl
theorem dX11_init_4 : decode cX11_init 4 = .ok (.aload_n 0, 1) := by decide +kernel
theorem dX11_init_5 : decode cX11_init 5 = .ok (.sipush 700, 3) := by decide +kernel
theorem dX11_init_8 : decode cX11_init 8 = .ok (.newarray .int, 2) := by decide +kernel
theorem dX11_init_10 : decode cX11_init 10 = .ok (.putfield 9, 3) := by decide +kernel
theorem dX11_init_13 : decode cX11_init 13 = .ok (.aload_n 0, 1) := by decide +kernel
theorem dX11_init_14 : decode cX11_init 14 = .ok (.iconst 0, 1) := by decide +kernel
theorem dX11_init_15 : decode cX11_init 15 = .ok (.putfield 13, 3) := by decide +kernel
theorem dX11_init_18 : decode cX11_init 18 = .ok (.aload_n 0, 1) := by decide +kernel
theorem dX11_init_19 : decode cX11_init 19 = .ok (.new 17, 3) := by decide +kernel
theorem wc_X11_17 : Cond.classLink RX11 17 RX0 ∈ xT := xin 142 (by decide +kernel) rfl
theorem wn_X0 : Cond.instantiable RX0 10 ∈ xT := xin 143 (by decide +kernel) rfl
theorem wi_X0 : Cond.initialized RX0 ∈ xT := xin 115 (by decide +kernel) rfl
theorem df_X0 : ∀ k, k < 10 → ∀ (h : xH) (q : Nat), xI h q k = 0 → xR h q k = none → xJ h q k = 0 → defaultValue (xty 0 k) = xval (xty 0 k) h q k := df_of (by decide)
theorem dX11_init_22 : decode cX11_init 22 = .ok (.dup, 1) := by decide +kernel
theorem dX11_init_23 : decode cX11_init 23 = .ok (.invokespecial 19, 3) := by decide +kernel
theorem wl_X11_19 : Cond.methodLink RX11 19 yX0_init ∈ xT := xin 144 (by decide +kernel) rfl
theorem dX11_init_26 : decode cX11_init 26 = .ok (.putfield 20, 3) := by decide +kernel
theorem dX11_init_29 : decode cX11_init 29 = .ok (.aload_n 0, 1) := by decide +kernel
theorem dX11_init_30 : decode cX11_init 30 = .ok (.new 17, 3) := by decide +kernel
theorem dX11_init_33 : decode cX11_init 33 = .ok (.dup, 1) := by decide +kernel
theorem dX11_init_34 : decode cX11_init 34 = .ok (.invokespecial 19, 3) := by decide +kernel
theorem dX11_init_37 : decode cX11_init 37 = .ok (.putfield 24, 3) := by decide +kernel
theorem dX11_init_40 : decode cX11_init 40 = .ok (.aload_n 0, 1) := by decide +kernel
theorem dX11_init_41 : decode cX11_init 41 = .ok (.new 27, 3) := by decide +kernel
theorem wc_X11_27 : Cond.classLink RX11 27 RX7 ∈ xT := xin 216 (by decide +kernel) rfl
theorem dX11_init_44 : decode cX11_init 44 = .ok (.dup, 1) := by decide +kernel
theorem dX11_init_45 : decode cX11_init 45 = .ok (.bipush 12, 2) := by decide +kernel
theorem dX11_init_47 : decode cX11_init 47 = .ok (.invokespecial 29, 3) := by decide +kernel
theorem wl_X11_29 : Cond.methodLink RX11 29 yX7_init ∈ xT := xin 217 (by decide +kernel) rfl
theorem dX11_init_50 : decode cX11_init 50 = .ok (.putfield 32, 3) := by decide +kernel
theorem dX11_init_53 : decode cX11_init 53 = .ok (.aload_n 0, 1) := by decide +kernel
theorem dX11_init_54 : decode cX11_init 54 = .ok (.new 27, 3) := by decide +kernel
theorem dX11_init_57 : decode cX11_init 57 = .ok (.dup, 1) := by decide +kernel
theorem dX11_init_58 : decode cX11_init 58 = .ok (.bipush 12, 2) := by decide +kernel
theorem dX11_init_60 : decode cX11_init 60 = .ok (.invokespecial 29, 3) := by decide +kernel
theorem dX11_init_63 : decode cX11_init 63 = .ok (.putfield 36, 3) := by decide +kernel
theorem dX11_init_66 : decode cX11_init 66 = .ok (.aload_n 0, 1) := by decide +kernel
theorem dX11_init_67 : decode cX11_init 67 = .ok (.new 27, 3) := by decide +kernel
theorem dX11_init_70 : decode cX11_init 70 = .ok (.dup, 1) := by decide +kernel
theorem dX11_init_71 : decode cX11_init 71 = .ok (.bipush 12, 2) := by decide +kernel
theorem dX11_init_73 : decode cX11_init 73 = .ok (.invokespecial 29, 3) := by decide +kernel
theorem dX11_init_76 : decode cX11_init 76 = .ok (.putfield 39, 3) := by decide +kernel
theorem dX11_init_79 : decode cX11_init 79 = .ok (.aload_n 0, 1) := by decide +kernel
theorem dX11_init_80 : decode cX11_init 80 = .ok (.new 27, 3) := by decide +kernel
theorem dX11_init_83 : decode cX11_init 83 = .ok (.dup, 1) := by decide +kernel
theorem dX11_init_84 : decode cX11_init 84 = .ok (.bipush 12, 2) := by decide +kernel
theorem dX11_init_86 : decode cX11_init 86 = .ok (.invokespecial 29, 3) := by decide +kernel
theorem dX11_init_89 : decode cX11_init 89 = .ok (.putfield 42, 3) := by decide +kernel
theorem dX11_init_92 : decode cX11_init 92 = .ok (.aload_n 0, 1) := by decide +kernel
theorem dX11_init_93 : decode cX11_init 93 = .ok (.new 45, 3) := by decide +kernel
theorem wc_X11_45 : Cond.classLink RX11 45 RX4 ∈ xT := xin 218 (by decide +kernel) rfl
theorem wn_X4 : Cond.instantiable RX4 5 ∈ xT := xin 219 (by decide +kernel) rfl
theorem wi_X4 : Cond.initialized RX4 ∈ xT := xin 117 (by decide +kernel) rfl
theorem df_X4 : ∀ k, k < 5 → ∀ (h : xH) (q : Nat), xI h q k = 0 → xR h q k = none → xJ h q k = 0 → defaultValue (xty 4 k) = xval (xty 4 k) h q k := df_of (by decide)
theorem dX11_init_96 : decode cX11_init 96 = .ok (.dup, 1) := by decide +kernel
theorem dX11_init_97 : decode cX11_init 97 = .ok (.invokespecial 47, 3) := by decide +kernel
theorem wl_X11_47 : Cond.methodLinkNest RX11 47 yX4_init "TermShelf" ∈ xNest := xinN 220 (by decide +kernel) rfl
theorem dX11_init_100 : decode cX11_init 100 = .ok (.putfield 48, 3) := by decide +kernel
theorem dX11_init_103 : decode cX11_init 103 = .ok (.aload_n 0, 1) := by decide +kernel
theorem dX11_init_104 : decode cX11_init 104 = .ok (.new 52, 3) := by decide +kernel
theorem wc_X11_52 : Cond.classLink RX11 52 RX6 ∈ xT := xin 276 (by decide +kernel) rfl
theorem wn_X6 : Cond.instantiable RX6 5 ∈ xT := xin 277 (by decide +kernel) rfl
theorem wi_X6 : Cond.initialized RX6 ∈ xT := xin 119 (by decide +kernel) rfl
theorem df_X6 : ∀ k, k < 5 → ∀ (h : xH) (q : Nat), xI h q k = 0 → xR h q k = none → xJ h q k = 0 → defaultValue (xty 6 k) = xval (xty 6 k) h q k := df_of (by decide)
theorem dX11_init_107 : decode cX11_init 107 = .ok (.dup, 1) := by decide +kernel
theorem dX11_init_108 : decode cX11_init 108 = .ok (.invokespecial 54, 3) := by decide +kernel
theorem wl_X11_54 : Cond.methodLinkNest RX11 54 yX6_init "TermShelf" ∈ xNest := xinN 278 (by decide +kernel) rfl
theorem dX11_init_111 : decode cX11_init 111 = .ok (.putfield 55, 3) := by decide +kernel
theorem dX11_init_114 : decode cX11_init 114 = .ok (.aload_n 0, 1) := by decide +kernel
theorem dX11_init_115 : decode cX11_init 115 = .ok (.new 59, 3) := by decide +kernel
theorem wc_X11_59 : Cond.classLink RX11 59 RX9 ∈ xT := xin 300 (by decide +kernel) rfl
theorem wn_X9 : Cond.instantiable RX9 7 ∈ xT := xin 301 (by decide +kernel) rfl
theorem wi_X9 : Cond.initialized RX9 ∈ xT := xin 120 (by decide +kernel) rfl
theorem df_X9 : ∀ k, k < 7 → ∀ (h : xH) (q : Nat), xI h q k = 0 → xR h q k = none → xJ h q k = 0 → defaultValue (xty 9 k) = xval (xty 9 k) h q k := df_of (by decide)
theorem dX11_init_118 : decode cX11_init 118 = .ok (.dup, 1) := by decide +kernel
theorem dX11_init_119 : decode cX11_init 119 = .ok (.invokespecial 61, 3) := by decide +kernel
theorem wl_X11_61 : Cond.methodLink RX11 61 yX9_init ∈ xT := xin 302 (by decide +kernel) rfl
theorem dX11_init_122 : decode cX11_init 122 = .ok (.putfield 62, 3) := by decide +kernel
theorem dX11_init_125 : decode cX11_init 125 = .ok (.aload_n 0, 1) := by decide +kernel
theorem dX11_init_126 : decode cX11_init 126 = .ok (.new 66, 3) := by decide +kernel
theorem wc_X11_66 : Cond.classLink RX11 66 RX3 ∈ xT := xin 333 (by decide +kernel) rfl
theorem dX11_init_129 : decode cX11_init 129 = .ok (.dup, 1) := by decide +kernel
theorem dX11_init_130 : decode cX11_init 130 = .ok (.invokespecial 68, 3) := by decide +kernel
theorem wl_X11_68 : Cond.methodLinkNest RX11 68 yX3_init "TermShelf" ∈ xNest := xinN 335 (by decide +kernel) rfl
theorem dX11_init_133 : decode cX11_init 133 = .ok (.putfield 69, 3) := by decide +kernel
theorem dX11_init_136 : decode cX11_init 136 = .ok (.aload_n 0, 1) := by decide +kernel
theorem dX11_init_137 : decode cX11_init 137 = .ok (.new 73, 3) := by decide +kernel
theorem wc_X11_73 : Cond.classLink RX11 73 RX10 ∈ xT := xin 343 (by decide +kernel) rfl
theorem wn_X10 : Cond.instantiable RX10 15 ∈ xT := xin 344 (by decide +kernel) rfl
theorem wi_X10 : Cond.initialized RX10 ∈ xT := xin 122 (by decide +kernel) rfl
theorem df_X10 : ∀ k, k < 15 → ∀ (h : xH) (q : Nat), xI h q k = 0 → xR h q k = none → xJ h q k = 0 → defaultValue (xty 10 k) = xval (xty 10 k) h q k := df_of (by decide)
theorem dX11_init_140 : decode cX11_init 140 = .ok (.dup, 1) := by decide +kernel
theorem dX11_init_141 : decode cX11_init 141 = .ok (.invokespecial 75, 3) := by decide +kernel
theorem wl_X11_75 : Cond.methodLinkNest RX11 75 yX10_init "TermShelf" ∈ xNest := xinN 345 (by decide +kernel) rfl
theorem dX11_init_144 : decode cX11_init 144 = .ok (.putfield 76, 3) := by decide +kernel
theorem dX11_init_147 : decode cX11_init 147 = .ok (.aload_n 0, 1) := by decide +kernel
theorem dX11_init_148 : decode cX11_init 148 = .ok (.new 80, 3) := by decide +kernel
theorem wc_X11_80 : Cond.classLink RX11 80 RX2 ∈ xT := xin 398 (by decide +kernel) rfl
theorem wn_X2 : Cond.instantiable RX2 4 ∈ xT := xin 399 (by decide +kernel) rfl
theorem wi_X2 : Cond.initialized RX2 ∈ xT := xin 123 (by decide +kernel) rfl
theorem df_X2 : ∀ k, k < 4 → ∀ (h : xH) (q : Nat), xI h q k = 0 → xR h q k = none → xJ h q k = 0 → defaultValue (xty 2 k) = xval (xty 2 k) h q k := df_of (by decide)
theorem dX11_init_151 : decode cX11_init 151 = .ok (.dup, 1) := by decide +kernel
theorem dX11_init_152 : decode cX11_init 152 = .ok (.invokespecial 82, 3) := by decide +kernel
theorem wl_X11_82 : Cond.methodLinkNest RX11 82 yX2_init "TermShelf" ∈ xNest := xinN 400 (by decide +kernel) rfl
theorem dX11_init_155 : decode cX11_init 155 = .ok (.putfield 83, 3) := by decide +kernel
theorem dX11_init_158 : decode cX11_init 158 = .ok (.aload_n 0, 1) := by decide +kernel
theorem dX11_init_159 : decode cX11_init 159 = .ok (.new 87, 3) := by decide +kernel
theorem wc_X11_87 : Cond.classLink RX11 87 RX5 ∈ xT := xin 419 (by decide +kernel) rfl
theorem wn_X5 : Cond.instantiable RX5 5 ∈ xT := xin 420 (by decide +kernel) rfl
theorem wi_X5 : Cond.initialized RX5 ∈ xT := xin 124 (by decide +kernel) rfl
theorem df_X5 : ∀ k, k < 5 → ∀ (h : xH) (q : Nat), xI h q k = 0 → xR h q k = none → xJ h q k = 0 → defaultValue (xty 5 k) = xval (xty 5 k) h q k := df_of (by decide)
theorem dX11_init_162 : decode cX11_init 162 = .ok (.dup, 1) := by decide +kernel
theorem dX11_init_163 : decode cX11_init 163 = .ok (.invokespecial 89, 3) := by decide +kernel
theorem wl_X11_89 : Cond.methodLinkNest RX11 89 yX5_init "TermShelf" ∈ xNest := xinN 421 (by decide +kernel) rfl
theorem dX11_init_166 : decode cX11_init 166 = .ok (.putfield 90, 3) := by decide +kernel
theorem dX11_init_169 : decode cX11_init 169 = .ok (.aload_n 0, 1) := by decide +kernel
theorem dX11_init_170 : decode cX11_init 170 = .ok (.new 94, 3) := by decide +kernel
theorem wc_X11_94 : Cond.classLink RX11 94 RX1 ∈ xT := xin 448 (by decide +kernel) rfl
theorem wn_X1 : Cond.instantiable RX1 1 ∈ xT := xin 449 (by decide +kernel) rfl
theorem wi_X1 : Cond.initialized RX1 ∈ xT := xin 125 (by decide +kernel) rfl
theorem df_X1 : ∀ k, k < 1 → ∀ (h : xH) (q : Nat), xI h q k = 0 → xR h q k = none → xJ h q k = 0 → defaultValue (xty 1 k) = xval (xty 1 k) h q k := df_of (by decide)
theorem dX11_init_173 : decode cX11_init 173 = .ok (.dup, 1) := by decide +kernel
theorem dX11_init_174 : decode cX11_init 174 = .ok (.invokespecial 96, 3) := by decide +kernel
theorem wl_X11_96 : Cond.methodLinkNest RX11 96 yX1_init "TermShelf" ∈ xNest := xinN 450 (by decide +kernel) rfl
theorem dX11_init_177 : decode cX11_init 177 = .ok (.putfield 97, 3) := by decide +kernel
theorem dX11_init_180 : decode cX11_init 180 = .ok (.return_, 1) := by decide +kernel
theorem xm_X11_init : xMw yX11_init cX11_init 1 none 0 := ⟨xin 138 (by decide +kernel) rfl, xin 114 (by decide +kernel) rfl, by decide +kernel⟩
theorem xi_X11_init : Cond.instanceMethod yX11_init ∈ xT := xin 137 (by decide +kernel) rfl
section GN_X11_init
variable {p : Program} {l : Launch} {e : Env} {R : Room} {s : State} {m : MethodId} {args : Array Value} {below : List Frame} {meth : Method} {c : Code} {H H0 : Heap} {locs : List Loc} {cells slots : Nat} {Q : State → Prop} {cc : ByteArray} {nL pc : Nat} {rt : Option FieldType} {ls : Array Slot} {rest : List Value} {D : xD} {ty : xTy} {N n : Nat} {tR tP : List (Nat × Nat × Nat)} {tI tA : List (Nat × Nat × Int)}
theorem pn_X11_9 {q v : Nat} (C0 : xC D RX11 cc nL rt p s m args meth c) (hG : xG D ty N n tR tI tP tA H) (hS : xL ty N n H0 H locs) (hin2 : meth.name = "<init>") (hq : q < n) (ht : ty (N + q) = some (0, 11)) (hdg : decode cc pc = .ok (.putfield 9, 3)) (kk : ∀ (H1 : Heap) (locs1 : List Loc), xG D ty N n ((q, 0, v) :: tR) tI tP tA H1 → xL ty N n H0 H1 locs1 → W p l e R s m args below meth c H1 locs1 cells slots Q (F0 m (pc + 3) ls rest)) : W p l e R s m args below meth c H locs cells slots Q (F0 m pc ls (.ref (N + v) :: .ref (N + q) :: rest)) := g_putrF C0 hG hS (ci := 11) (k := 0) (M := 16) (T := TX11) rfl iX11 tyX11_ok nmX11 (by decide) rfl rfl rfl wf_X11_9 rfl hin2 hq ht hdg kk
theorem pn_X11_13 {q : Nat} {v : Int} {w : Int32} (C0 : xC D RX11 cc nL rt p s m args meth c) (hG : xG D ty N n tR tI tP tA H) (hS : xL ty N n H0 H locs) (hw : w = i32 v) (hq : q < n) (ht : ty (N + q) = some (0, 11)) (hdg : decode cc pc = .ok (.putfield 13, 3)) (kk : ∀ (H1 : Heap) (locs1 : List Loc), xG D ty N n tR ((q, 1, v) :: tI) tP tA H1 → xL ty N n H0 H1 locs1 → W p l e R s m args below meth c H1 locs1 cells slots Q (F0 m (pc + 3) ls rest)) : W p l e R s m args below meth c H locs cells slots Q (F0 m pc ls (.int w :: .ref (N + q) :: rest)) := g_puti C0 hG hS (ci := 11) (k := 1) (M := 16) (T := TX11) rfl iX11 tyX11_ok nmX11 (by decide) rfl rfl wf_X11_13 (Or.inl rfl) hw rfl rfl hq ht hdg kk
theorem pn_X11_20 {q v : Nat} (C0 : xC D RX11 cc nL rt p s m args meth c) (hG : xG D ty N n tR tI tP tA H) (hS : xL ty N n H0 H locs) (hq : q < n) (ht : ty (N + q) = some (0, 11)) (hdg : decode cc pc = .ok (.putfield 20, 3)) (kk : ∀ (H1 : Heap) (locs1 : List Loc), xG D ty N n ((q, 2, v) :: tR) tI tP tA H1 → xL ty N n H0 H1 locs1 → W p l e R s m args below meth c H1 locs1 cells slots Q (F0 m (pc + 3) ls rest)) : W p l e R s m args below meth c H locs cells slots Q (F0 m pc ls (.ref (N + v) :: .ref (N + q) :: rest)) := g_putr C0 hG hS (ci := 11) (k := 2) (M := 16) (T := TX11) rfl iX11 tyX11_ok nmX11 (by decide) rfl rfl wf_X11_20 rfl hq ht hdg kk
theorem pn_X11_24 {q v : Nat} (C0 : xC D RX11 cc nL rt p s m args meth c) (hG : xG D ty N n tR tI tP tA H) (hS : xL ty N n H0 H locs) (hq : q < n) (ht : ty (N + q) = some (0, 11)) (hdg : decode cc pc = .ok (.putfield 24, 3)) (kk : ∀ (H1 : Heap) (locs1 : List Loc), xG D ty N n ((q, 3, v) :: tR) tI tP tA H1 → xL ty N n H0 H1 locs1 → W p l e R s m args below meth c H1 locs1 cells slots Q (F0 m (pc + 3) ls rest)) : W p l e R s m args below meth c H locs cells slots Q (F0 m pc ls (.ref (N + v) :: .ref (N + q) :: rest)) := g_putr C0 hG hS (ci := 11) (k := 3) (M := 16) (T := TX11) rfl iX11 tyX11_ok nmX11 (by decide) rfl rfl wf_X11_24 rfl hq ht hdg kk
theorem pn_X11_32 {q v : Nat} (C0 : xC D RX11 cc nL rt p s m args meth c) (hG : xG D ty N n tR tI tP tA H) (hS : xL ty N n H0 H locs) (hq : q < n) (ht : ty (N + q) = some (0, 11)) (hdg : decode cc pc = .ok (.putfield 32, 3)) (kk : ∀ (H1 : Heap) (locs1 : List Loc), xG D ty N n ((q, 4, v) :: tR) tI tP tA H1 → xL ty N n H0 H1 locs1 → W p l e R s m args below meth c H1 locs1 cells slots Q (F0 m (pc + 3) ls rest)) : W p l e R s m args below meth c H locs cells slots Q (F0 m pc ls (.ref (N + v) :: .ref (N + q) :: rest)) := g_putr C0 hG hS (ci := 11) (k := 4) (M := 16) (T := TX11) rfl iX11 tyX11_ok nmX11 (by decide) rfl rfl wf_X11_32 rfl hq ht hdg kk
theorem pn_X11_36 {q v : Nat} (C0 : xC D RX11 cc nL rt p s m args meth c) (hG : xG D ty N n tR tI tP tA H) (hS : xL ty N n H0 H locs) (hq : q < n) (ht : ty (N + q) = some (0, 11)) (hdg : decode cc pc = .ok (.putfield 36, 3)) (kk : ∀ (H1 : Heap) (locs1 : List Loc), xG D ty N n ((q, 5, v) :: tR) tI tP tA H1 → xL ty N n H0 H1 locs1 → W p l e R s m args below meth c H1 locs1 cells slots Q (F0 m (pc + 3) ls rest)) : W p l e R s m args below meth c H locs cells slots Q (F0 m pc ls (.ref (N + v) :: .ref (N + q) :: rest)) := g_putr C0 hG hS (ci := 11) (k := 5) (M := 16) (T := TX11) rfl iX11 tyX11_ok nmX11 (by decide) rfl rfl wf_X11_36 rfl hq ht hdg kk
theorem pn_X11_39 {q v : Nat} (C0 : xC D RX11 cc nL rt p s m args meth c) (hG : xG D ty N n tR tI tP tA H) (hS : xL ty N n H0 H locs) (hin2 : meth.name = "<init>") (hq : q < n) (ht : ty (N + q) = some (0, 11)) (hdg : decode cc pc = .ok (.putfield 39, 3)) (kk : ∀ (H1 : Heap) (locs1 : List Loc), xG D ty N n ((q, 6, v) :: tR) tI tP tA H1 → xL ty N n H0 H1 locs1 → W p l e R s m args below meth c H1 locs1 cells slots Q (F0 m (pc + 3) ls rest)) : W p l e R s m args below meth c H locs cells slots Q (F0 m pc ls (.ref (N + v) :: .ref (N + q) :: rest)) := g_putrF C0 hG hS (ci := 11) (k := 6) (M := 16) (T := TX11) rfl iX11 tyX11_ok nmX11 (by decide) rfl rfl rfl wf_X11_39 rfl hin2 hq ht hdg kk
theorem pn_X11_42 {q v : Nat} (C0 : xC D RX11 cc nL rt p s m args meth c) (hG : xG D ty N n tR tI tP tA H) (hS : xL ty N n H0 H locs) (hin2 : meth.name = "<init>") (hq : q < n) (ht : ty (N + q) = some (0, 11)) (hdg : decode cc pc = .ok (.putfield 42, 3)) (kk : ∀ (H1 : Heap) (locs1 : List Loc), xG D ty N n ((q, 7, v) :: tR) tI tP tA H1 → xL ty N n H0 H1 locs1 → W p l e R s m args below meth c H1 locs1 cells slots Q (F0 m (pc + 3) ls rest)) : W p l e R s m args below meth c H locs cells slots Q (F0 m pc ls (.ref (N + v) :: .ref (N + q) :: rest)) := g_putrF C0 hG hS (ci := 11) (k := 7) (M := 16) (T := TX11) rfl iX11 tyX11_ok nmX11 (by decide) rfl rfl rfl wf_X11_42 rfl hin2 hq ht hdg kk
theorem pn_X11_48 {q v : Nat} (C0 : xC D RX11 cc nL rt p s m args meth c) (hG : xG D ty N n tR tI tP tA H) (hS : xL ty N n H0 H locs) (hin2 : meth.name = "<init>") (hq : q < n) (ht : ty (N + q) = some (0, 11)) (hdg : decode cc pc = .ok (.putfield 48, 3)) (kk : ∀ (H1 : Heap) (locs1 : List Loc), xG D ty N n ((q, 8, v) :: tR) tI tP tA H1 → xL ty N n H0 H1 locs1 → W p l e R s m args below meth c H1 locs1 cells slots Q (F0 m (pc + 3) ls rest)) : W p l e R s m args below meth c H locs cells slots Q (F0 m pc ls (.ref (N + v) :: .ref (N + q) :: rest)) := g_putrF C0 hG hS (ci := 11) (k := 8) (M := 16) (T := TX11) rfl iX11 tyX11_ok nmX11 (by decide) rfl rfl rfl wf_X11_48 rfl hin2 hq ht hdg kk
theorem pn_X11_55 {q v : Nat} (C0 : xC D RX11 cc nL rt p s m args meth c) (hG : xG D ty N n tR tI tP tA H) (hS : xL ty N n H0 H locs) (hin2 : meth.name = "<init>") (hq : q < n) (ht : ty (N + q) = some (0, 11)) (hdg : decode cc pc = .ok (.putfield 55, 3)) (kk : ∀ (H1 : Heap) (locs1 : List Loc), xG D ty N n ((q, 9, v) :: tR) tI tP tA H1 → xL ty N n H0 H1 locs1 → W p l e R s m args below meth c H1 locs1 cells slots Q (F0 m (pc + 3) ls rest)) : W p l e R s m args below meth c H locs cells slots Q (F0 m pc ls (.ref (N + v) :: .ref (N + q) :: rest)) := g_putrF C0 hG hS (ci := 11) (k := 9) (M := 16) (T := TX11) rfl iX11 tyX11_ok nmX11 (by decide) rfl rfl rfl wf_X11_55 rfl hin2 hq ht hdg kk
theorem pn_X11_62 {q v : Nat} (C0 : xC D RX11 cc nL rt p s m args meth c) (hG : xG D ty N n tR tI tP tA H) (hS : xL ty N n H0 H locs) (hin2 : meth.name = "<init>") (hq : q < n) (ht : ty (N + q) = some (0, 11)) (hdg : decode cc pc = .ok (.putfield 62, 3)) (kk : ∀ (H1 : Heap) (locs1 : List Loc), xG D ty N n ((q, 10, v) :: tR) tI tP tA H1 → xL ty N n H0 H1 locs1 → W p l e R s m args below meth c H1 locs1 cells slots Q (F0 m (pc + 3) ls rest)) : W p l e R s m args below meth c H locs cells slots Q (F0 m pc ls (.ref (N + v) :: .ref (N + q) :: rest)) := g_putrF C0 hG hS (ci := 11) (k := 10) (M := 16) (T := TX11) rfl iX11 tyX11_ok nmX11 (by decide) rfl rfl rfl wf_X11_62 rfl hin2 hq ht hdg kk
theorem pn_X11_69 {q v : Nat} (C0 : xC D RX11 cc nL rt p s m args meth c) (hG : xG D ty N n tR tI tP tA H) (hS : xL ty N n H0 H locs) (hin2 : meth.name = "<init>") (hq : q < n) (ht : ty (N + q) = some (0, 11)) (hdg : decode cc pc = .ok (.putfield 69, 3)) (kk : ∀ (H1 : Heap) (locs1 : List Loc), xG D ty N n ((q, 11, v) :: tR) tI tP tA H1 → xL ty N n H0 H1 locs1 → W p l e R s m args below meth c H1 locs1 cells slots Q (F0 m (pc + 3) ls rest)) : W p l e R s m args below meth c H locs cells slots Q (F0 m pc ls (.ref (N + v) :: .ref (N + q) :: rest)) := g_putrF C0 hG hS (ci := 11) (k := 11) (M := 16) (T := TX11) rfl iX11 tyX11_ok nmX11 (by decide) rfl rfl rfl wf_X11_69 rfl hin2 hq ht hdg kk
theorem pn_X11_76 {q v : Nat} (C0 : xC D RX11 cc nL rt p s m args meth c) (hG : xG D ty N n tR tI tP tA H) (hS : xL ty N n H0 H locs) (hin2 : meth.name = "<init>") (hq : q < n) (ht : ty (N + q) = some (0, 11)) (hdg : decode cc pc = .ok (.putfield 76, 3)) (kk : ∀ (H1 : Heap) (locs1 : List Loc), xG D ty N n ((q, 12, v) :: tR) tI tP tA H1 → xL ty N n H0 H1 locs1 → W p l e R s m args below meth c H1 locs1 cells slots Q (F0 m (pc + 3) ls rest)) : W p l e R s m args below meth c H locs cells slots Q (F0 m pc ls (.ref (N + v) :: .ref (N + q) :: rest)) := g_putrF C0 hG hS (ci := 11) (k := 12) (M := 16) (T := TX11) rfl iX11 tyX11_ok nmX11 (by decide) rfl rfl rfl wf_X11_76 rfl hin2 hq ht hdg kk
theorem pn_X11_83 {q v : Nat} (C0 : xC D RX11 cc nL rt p s m args meth c) (hG : xG D ty N n tR tI tP tA H) (hS : xL ty N n H0 H locs) (hin2 : meth.name = "<init>") (hq : q < n) (ht : ty (N + q) = some (0, 11)) (hdg : decode cc pc = .ok (.putfield 83, 3)) (kk : ∀ (H1 : Heap) (locs1 : List Loc), xG D ty N n ((q, 13, v) :: tR) tI tP tA H1 → xL ty N n H0 H1 locs1 → W p l e R s m args below meth c H1 locs1 cells slots Q (F0 m (pc + 3) ls rest)) : W p l e R s m args below meth c H locs cells slots Q (F0 m pc ls (.ref (N + v) :: .ref (N + q) :: rest)) := g_putrF C0 hG hS (ci := 11) (k := 13) (M := 16) (T := TX11) rfl iX11 tyX11_ok nmX11 (by decide) rfl rfl rfl wf_X11_83 rfl hin2 hq ht hdg kk
theorem pn_X11_90 {q v : Nat} (C0 : xC D RX11 cc nL rt p s m args meth c) (hG : xG D ty N n tR tI tP tA H) (hS : xL ty N n H0 H locs) (hin2 : meth.name = "<init>") (hq : q < n) (ht : ty (N + q) = some (0, 11)) (hdg : decode cc pc = .ok (.putfield 90, 3)) (kk : ∀ (H1 : Heap) (locs1 : List Loc), xG D ty N n ((q, 14, v) :: tR) tI tP tA H1 → xL ty N n H0 H1 locs1 → W p l e R s m args below meth c H1 locs1 cells slots Q (F0 m (pc + 3) ls rest)) : W p l e R s m args below meth c H locs cells slots Q (F0 m pc ls (.ref (N + v) :: .ref (N + q) :: rest)) := g_putrF C0 hG hS (ci := 11) (k := 14) (M := 16) (T := TX11) rfl iX11 tyX11_ok nmX11 (by decide) rfl rfl rfl wf_X11_90 rfl hin2 hq ht hdg kk
theorem pn_X11_97 {q v : Nat} (C0 : xC D RX11 cc nL rt p s m args meth c) (hG : xG D ty N n tR tI tP tA H) (hS : xL ty N n H0 H locs) (hin2 : meth.name = "<init>") (hq : q < n) (ht : ty (N + q) = some (0, 11)) (hdg : decode cc pc = .ok (.putfield 97, 3)) (kk : ∀ (H1 : Heap) (locs1 : List Loc), xG D ty N n ((q, 15, v) :: tR) tI tP tA H1 → xL ty N n H0 H1 locs1 → W p l e R s m args below meth c H1 locs1 cells slots Q (F0 m (pc + 3) ls rest)) : W p l e R s m args below meth c H locs cells slots Q (F0 m pc ls (.ref (N + v) :: .ref (N + q) :: rest)) := g_putrF C0 hG hS (ci := 11) (k := 15) (M := 16) (T := TX11) rfl iX11 tyX11_ok nmX11 (by decide) rfl rfl rfl wf_X11_97 rfl hin2 hq ht hdg kk
end GN_X11_init
def sh_X11 : List (Nat × Nat) := [(0, 11), (1, 700), (0, 0), (1, 8), (1, 8), (1, 4), (1, 16), (3, 16), (3, 16), (0, 7), (1, 0), (1, 0), (0, 7), (1, 12), (1, 12), (0, 7), (1, 12), (1, 12), (0, 7), (1, 12), (1, 12), (0, 7), (1, 12), (1, 12), (0, 7), (1, 12), (1, 12), (0, 7), (1, 12), (1, 12), (0, 7), (1, 12), (1, 12), (0, 7), (1, 12), (1, 12), (0, 7), (1, 12), (1, 12), (0, 7), (1, 12), (1, 12), (0, 7), (1, 12), (1, 12), (0, 7), (1, 12), (1, 12), (0, 7), (1, 12), (1, 12), (0, 7), (1, 12), (1, 12), (0, 7), (1, 12), (1, 12), (0, 7), (1, 12), (1, 12), (0, 7), (1, 12), (1, 12), (0, 7), (1, 12), (1, 12), (0, 7), (1, 12), (1, 12), (0, 7), (1, 12), (1, 12), (0, 7), (1, 12), (1, 12), (0, 7), (1, 12), (1, 12), (0, 7), (1, 12), (1, 12), (0, 7), (1, 12), (1, 12), (0, 7), (1, 12), (1, 12), (0, 7), (1, 12), (1, 12), (0, 7), (1, 12), (1, 12), (0, 7), (1, 12), (1, 12), (0, 7), (1, 12), (1, 12), (0, 7), (1, 12), (1, 12), (0, 7), (1, 12), (1, 12), (0, 7), (1, 12), (1, 12), (0, 0), (1, 8), (1, 8), (1, 4), (1, 16), (3, 16), (3, 16), (0, 7), (1, 0), (1, 0), (0, 7), (1, 12), (1, 12), (0, 7), (1, 12), (1, 12), (0, 7), (1, 12), (1, 12), (0, 7), (1, 12), (1, 12), (0, 7), (1, 12), (1, 12), (0, 7), (1, 12), (1, 12), (0, 7), (1, 12), (1, 12), (0, 7), (1, 12), (1, 12), (0, 7), (1, 12), (1, 12), (0, 7), (1, 12), (1, 12), (0, 7), (1, 12), (1, 12), (0, 7), (1, 12), (1, 12), (0, 7), (1, 12), (1, 12), (0, 7), (1, 12), (1, 12), (0, 7), (1, 12), (1, 12), (0, 7), (1, 12), (1, 12), (0, 7), (1, 12), (1, 12), (0, 7), (1, 12), (1, 12), (0, 7), (1, 12), (1, 12), (0, 7), (1, 12), (1, 12), (0, 7), (1, 12), (1, 12), (0, 7), (1, 12), (1, 12), (0, 7), (1, 12), (1, 12), (0, 7), (1, 12), (1, 12), (0, 7), (1, 12), (1, 12), (0, 7), (1, 12), (1, 12), (0, 7), (1, 12), (1, 12), (0, 7), (1, 12), (1, 12), (0, 7), (1, 12), (1, 12), (0, 7), (1, 12), (1, 12), (0, 7), (1, 12), (1, 12), (0, 7), (1, 12), (1, 12), (0, 7), (1, 12), (1, 12), (0, 7), (1, 12), (1, 12), (0, 7), (1, 12), (1, 12), (0, 7), (1, 12), (1, 12), (0, 4), (0, 8), (1, 701), (1, 701), (1, 701), (1, 12), (0, 6), (1, 20), (0, 9), (1, 16), (3, 16), (1, 16), (0, 7), (1, 0), (1, 0), (0, 3), (1, 12), (0, 10), (1, 24), (1, 24), (1, 24), (1, 24), (1, 24), (1, 24), (2, 24), (1, 73), (1, 73), (1, 181), (0, 7), (1, 60), (1, 60), (0, 2), (1, 12), (1, 12), (0, 7), (1, 12), (1, 12), (0, 5), (0, 3), (1, 12), (0, 7), (1, 60), (1, 60), (0, 7), (1, 60), (1, 60), (0, 1)]
abbrev jnr_X11 : Room := { frames := 3, cells := 272, slots := 5875, locals := 54 }
def nr_X11 (b : Nat) : List (Nat × Nat × Nat) := (b, 15, b + 272) :: (nr_X1 (b + 272) ++ ((b, 14, b + 263) :: (nr_X5 (b + 263) ++ ((b, 13, b + 257) :: (nr_X2 (b + 257) ++ ((b, 12, b + 243) :: (nr_X10 (b + 243) ++ ((b, 11, b + 241) :: (nr_X3 (b + 241) ++ ((b, 10, b + 234) :: (nr_X9 (b + 234) ++ ((b, 9, b + 232) :: (nr_X6 (b + 232) ++ ((b, 8, b + 226) :: (nr_X4 (b + 226) ++ ((b, 7, b + 223) :: ((b + 223, 1, b + 225) :: ((b + 223, 0, b + 224) :: ((b, 6, b + 220) :: ((b + 220, 1, b + 222) :: ((b + 220, 0, b + 221) :: ((b, 5, b + 217) :: ((b + 217, 1, b + 219) :: ((b + 217, 0, b + 218) :: ((b, 4, b + 214) :: ((b + 214, 1, b + 216) :: ((b + 214, 0, b + 215) :: ((b, 3, b + 108) :: (nr_X0 (b + 108) ++ ((b, 2, b + 2) :: (nr_X0 (b + 2) ++ ((b, 0, b + 1) :: []))))))))))))))))))))))))))))))))
def ni_X11 (b : Nat) : List (Nat × Nat × Int) := ni_X1 (b + 272) ++ (ni_X5 (b + 263) ++ (ni_X2 (b + 257) ++ (ni_X10 (b + 243) ++ (ni_X3 (b + 241) ++ (ni_X9 (b + 234) ++ (ni_X6 (b + 232) ++ (ni_X4 (b + 226) ++ ((b + 223, 2, 0) :: ((b + 220, 2, 0) :: ((b + 217, 2, 0) :: ((b + 214, 2, 0) :: (ni_X0 (b + 108) ++ (ni_X0 (b + 2) ++ ((b, 1, 0) :: []))))))))))))))
def np_X11 (b : Nat) : List (Nat × Nat × Nat) := np_X9 (b + 234) ++ (np_X0 (b + 108) ++ (np_X0 (b + 2) ++ ([])))
set_option maxHeartbeats 4000000 in
set_option maxRecDepth 100000 in
theorem jn_X11 {l : Launch} {D : xD} {ty : xTy} {N b : Nat} {tR tP : List (Nat × Nat × Nat)} {tI tA : List (Nat × Nat × Int)} (hT : ∀ (j : Nat) (t : Nat × Nat), sh_X11[j]? = some t → ty (N + (b + j)) = some t) : Met l yX11_init (xws yX11_init cX11_init 1 none) jnr_X11 (xPn D ty N (b + 1) tR tI tP tA [.ref (N + b)]) (xQn D ty N (b + 273) (nr_X11 b ++ tR) (ni_X11 b ++ tI) (np_X11 b ++ tP) tA) 272 5875 (xdom (tyN ty (N + (b + 273)))) := by
  refine g_met (by decide) rfl ?_
  intro p e s m below meth c C0 hnm hAO hG
  generalize hargs : ([.ref (N + b)] : List Value).toArray = args at C0 ⊢
  have hx := C0.1
  have hb := C0.2.1
  have hS : xL ty N (b + 1) s.heap s.heap [] := ⟨fun _ _ => rfl, fun _ h => absurd h List.not_mem_nil⟩
  have hl := lv_entry ([.ref (N + b)]) (n := 1) (Nat.le_of_ble_eq_true rfl)
  rw [← hargs, lg_entry_eq]
  rw [hargs]
  generalize (lg_sl ([.ref (N + b)]) ++ List.replicate (1 - (lg_sl ([.ref (N + b)])).length) Slot.unset).toArray = ls at hl ⊢
  have hl : lv_has ls 1 [(0, .ref (N + b))] := hl
  refine lv_aload_n hx hb dX11_init_0 rfl (lv_at hl 0 rfl) ?_
  refine g_obj C0 wj_X11_3 hl.1 (Nat.le_of_ble_eq_true rfl) (Nat.le_of_ble_eq_true rfl) dX11_init_1 ?_
  refine lv_aload_n hx hb dX11_init_4 rfl (lv_at hl 0 rfl) ?_
  refine lv_sipush (v := 700) hx hb dX11_init_5 (by decide) ?_
  refine g_newi (n1 := b + 2) (c1 := 1) (s1 := 700) C0 hG hS rfl rfl rfl (hT 1 _ rfl) (by decide) (by decide) (Nat.le_of_ble_eq_true rfl) (Nat.le_of_ble_eq_true rfl) (Nat.le_of_ble_eq_true rfl) dX11_init_8 (fun H hG hS => ?_)
  refine pn_X11_9 (q := b) (v := b + 1) C0 hG hS hnm (by omega) (hT 0 _ rfl) dX11_init_10 (fun H locs hG hS => ?_)
  refine lv_aload_n hx hb dX11_init_13 rfl (lv_at hl 0 rfl) ?_
  refine lv_iconst (v := 0) hx hb dX11_init_14 (by decide) ?_
  refine pn_X11_13 (q := b) (v := 0) C0 hG hS (by decide) (by omega) (hT 0 _ rfl) dX11_init_15 (fun H locs hG hS => ?_)
  refine lv_aload_n hx hb dX11_init_18 rfl (lv_at hl 0 rfl) ?_
  refine g_newo (ci := 0) (M := 10) (T := TX0) (n1 := b + 3) (c1 := 2) (s1 := 710) C0 hG hS rfl rfl rfl (hT 2 _ rfl) rfl iX0 tyX0_ok wc_X11_17 wn_X0 wi_X0 df_X0 (Nat.le_of_ble_eq_true rfl) (Nat.le_of_ble_eq_true rfl) dX11_init_19 (fun H hG hS => ?_)
  refine lv_dup hx hb dX11_init_22 rfl ?_
  refine g_ctor (n2 := b + 108) (c2 := 107) (s2 := 1645) (As := []) (rest := [.ref (N + (b + 2)), .ref (N + (b))]) C0 hAO (jn_X0 (b := b + 2) (sub_ty (d := 2) (L2 := sh_X0) hT (by decide +kernel))) xm_X0_init xi_X0_init rfl wl_X11_19 ⟨rfl, rfl, (Nat.le_of_ble_eq_true rfl), (Nat.le_of_ble_eq_true rfl)⟩ hG hS (by omega) rfl rfl rfl hl.1 rfl (Nat.le_of_ble_eq_true rfl) ⟨(Nat.le_of_ble_eq_true rfl), (Nat.le_of_ble_eq_true rfl)⟩ dX11_init_23 (fun H locs hG hS => ?_)
  refine pn_X11_20 (q := b) (v := b + 2) C0 hG hS (by omega) (hT 0 _ rfl) dX11_init_26 (fun H locs hG hS => ?_)
  refine lv_aload_n hx hb dX11_init_29 rfl (lv_at hl 0 rfl) ?_
  refine g_newo (ci := 0) (M := 10) (T := TX0) (n1 := b + 109) (c1 := 108) (s1 := 1655) C0 hG hS rfl rfl rfl (hT 108 _ rfl) rfl iX0 tyX0_ok wc_X11_17 wn_X0 wi_X0 df_X0 (Nat.le_of_ble_eq_true rfl) (Nat.le_of_ble_eq_true rfl) dX11_init_30 (fun H hG hS => ?_)
  refine lv_dup hx hb dX11_init_33 rfl ?_
  refine g_ctor (n2 := b + 214) (c2 := 213) (s2 := 2590) (As := []) (rest := [.ref (N + (b + 108)), .ref (N + (b))]) C0 hAO (jn_X0 (b := b + 108) (sub_ty (d := 108) (L2 := sh_X0) hT (by decide +kernel))) xm_X0_init xi_X0_init rfl wl_X11_19 ⟨rfl, rfl, (Nat.le_of_ble_eq_true rfl), (Nat.le_of_ble_eq_true rfl)⟩ hG hS (by omega) rfl rfl rfl hl.1 rfl (Nat.le_of_ble_eq_true rfl) ⟨(Nat.le_of_ble_eq_true rfl), (Nat.le_of_ble_eq_true rfl)⟩ dX11_init_34 (fun H locs hG hS => ?_)
  refine pn_X11_24 (q := b) (v := b + 108) C0 hG hS (by omega) (hT 0 _ rfl) dX11_init_37 (fun H locs hG hS => ?_)
  refine lv_aload_n hx hb dX11_init_40 rfl (lv_at hl 0 rfl) ?_
  refine g_newo (ci := 7) (M := 3) (T := TX7) (n1 := b + 215) (c1 := 214) (s1 := 2593) C0 hG hS rfl rfl rfl (hT 214 _ rfl) rfl iX7 tyX7_ok wc_X11_27 wn_X7 wi_X7 df_X7 (Nat.le_of_ble_eq_true rfl) (Nat.le_of_ble_eq_true rfl) dX11_init_41 (fun H hG hS => ?_)
  refine lv_dup hx hb dX11_init_44 rfl ?_
  refine lv_bipush (v := 12) hx hb dX11_init_45 (by decide) ?_
  refine g_ctor (n2 := b + 217) (c2 := 216) (s2 := 2617) (As := [.int 12]) (rest := [.ref (N + (b + 214)), .ref (N + (b))]) C0 hAO (jn_X7 (b := b + 214) (k := 12) (v := 12) (by decide) (by decide) (Nat.le_of_ble_eq_true rfl) (sub_ty (d := 214) (L2 := sh_X7 12) hT (by decide +kernel))) xm_X7_init xi_X7_init rfl wl_X11_29 ⟨rfl, rfl, (Nat.le_of_ble_eq_true rfl), (Nat.le_of_ble_eq_true rfl)⟩ hG hS (by omega) rfl rfl rfl hl.1 rfl (Nat.le_of_ble_eq_true rfl) ⟨(Nat.le_of_ble_eq_true rfl), (Nat.le_of_ble_eq_true rfl)⟩ dX11_init_47 (fun H locs hG hS => ?_)
  refine pn_X11_32 (q := b) (v := b + 214) C0 hG hS (by omega) (hT 0 _ rfl) dX11_init_50 (fun H locs hG hS => ?_)
  refine lv_aload_n hx hb dX11_init_53 rfl (lv_at hl 0 rfl) ?_
  refine g_newo (ci := 7) (M := 3) (T := TX7) (n1 := b + 218) (c1 := 217) (s1 := 2620) C0 hG hS rfl rfl rfl (hT 217 _ rfl) rfl iX7 tyX7_ok wc_X11_27 wn_X7 wi_X7 df_X7 (Nat.le_of_ble_eq_true rfl) (Nat.le_of_ble_eq_true rfl) dX11_init_54 (fun H hG hS => ?_)
  refine lv_dup hx hb dX11_init_57 rfl ?_
  refine lv_bipush (v := 12) hx hb dX11_init_58 (by decide) ?_
  refine g_ctor (n2 := b + 220) (c2 := 219) (s2 := 2644) (As := [.int 12]) (rest := [.ref (N + (b + 217)), .ref (N + (b))]) C0 hAO (jn_X7 (b := b + 217) (k := 12) (v := 12) (by decide) (by decide) (Nat.le_of_ble_eq_true rfl) (sub_ty (d := 217) (L2 := sh_X7 12) hT (by decide +kernel))) xm_X7_init xi_X7_init rfl wl_X11_29 ⟨rfl, rfl, (Nat.le_of_ble_eq_true rfl), (Nat.le_of_ble_eq_true rfl)⟩ hG hS (by omega) rfl rfl rfl hl.1 rfl (Nat.le_of_ble_eq_true rfl) ⟨(Nat.le_of_ble_eq_true rfl), (Nat.le_of_ble_eq_true rfl)⟩ dX11_init_60 (fun H locs hG hS => ?_)
  refine pn_X11_36 (q := b) (v := b + 217) C0 hG hS (by omega) (hT 0 _ rfl) dX11_init_63 (fun H locs hG hS => ?_)
  refine lv_aload_n hx hb dX11_init_66 rfl (lv_at hl 0 rfl) ?_
  refine g_newo (ci := 7) (M := 3) (T := TX7) (n1 := b + 221) (c1 := 220) (s1 := 2647) C0 hG hS rfl rfl rfl (hT 220 _ rfl) rfl iX7 tyX7_ok wc_X11_27 wn_X7 wi_X7 df_X7 (Nat.le_of_ble_eq_true rfl) (Nat.le_of_ble_eq_true rfl) dX11_init_67 (fun H hG hS => ?_)
  refine lv_dup hx hb dX11_init_70 rfl ?_
  refine lv_bipush (v := 12) hx hb dX11_init_71 (by decide) ?_
  refine g_ctor (n2 := b + 223) (c2 := 222) (s2 := 2671) (As := [.int 12]) (rest := [.ref (N + (b + 220)), .ref (N + (b))]) C0 hAO (jn_X7 (b := b + 220) (k := 12) (v := 12) (by decide) (by decide) (Nat.le_of_ble_eq_true rfl) (sub_ty (d := 220) (L2 := sh_X7 12) hT (by decide +kernel))) xm_X7_init xi_X7_init rfl wl_X11_29 ⟨rfl, rfl, (Nat.le_of_ble_eq_true rfl), (Nat.le_of_ble_eq_true rfl)⟩ hG hS (by omega) rfl rfl rfl hl.1 rfl (Nat.le_of_ble_eq_true rfl) ⟨(Nat.le_of_ble_eq_true rfl), (Nat.le_of_ble_eq_true rfl)⟩ dX11_init_73 (fun H locs hG hS => ?_)
  refine pn_X11_39 (q := b) (v := b + 220) C0 hG hS hnm (by omega) (hT 0 _ rfl) dX11_init_76 (fun H locs hG hS => ?_)
  refine lv_aload_n hx hb dX11_init_79 rfl (lv_at hl 0 rfl) ?_
  refine g_newo (ci := 7) (M := 3) (T := TX7) (n1 := b + 224) (c1 := 223) (s1 := 2674) C0 hG hS rfl rfl rfl (hT 223 _ rfl) rfl iX7 tyX7_ok wc_X11_27 wn_X7 wi_X7 df_X7 (Nat.le_of_ble_eq_true rfl) (Nat.le_of_ble_eq_true rfl) dX11_init_80 (fun H hG hS => ?_)
  refine lv_dup hx hb dX11_init_83 rfl ?_
  refine lv_bipush (v := 12) hx hb dX11_init_84 (by decide) ?_
  refine g_ctor (n2 := b + 226) (c2 := 225) (s2 := 2698) (As := [.int 12]) (rest := [.ref (N + (b + 223)), .ref (N + (b))]) C0 hAO (jn_X7 (b := b + 223) (k := 12) (v := 12) (by decide) (by decide) (Nat.le_of_ble_eq_true rfl) (sub_ty (d := 223) (L2 := sh_X7 12) hT (by decide +kernel))) xm_X7_init xi_X7_init rfl wl_X11_29 ⟨rfl, rfl, (Nat.le_of_ble_eq_true rfl), (Nat.le_of_ble_eq_true rfl)⟩ hG hS (by omega) rfl rfl rfl hl.1 rfl (Nat.le_of_ble_eq_true rfl) ⟨(Nat.le_of_ble_eq_true rfl), (Nat.le_of_ble_eq_true rfl)⟩ dX11_init_86 (fun H locs hG hS => ?_)
  refine pn_X11_42 (q := b) (v := b + 223) C0 hG hS hnm (by omega) (hT 0 _ rfl) dX11_init_89 (fun H locs hG hS => ?_)
  refine lv_aload_n hx hb dX11_init_92 rfl (lv_at hl 0 rfl) ?_
  refine g_newo (ci := 4) (M := 5) (T := TX4) (n1 := b + 227) (c1 := 226) (s1 := 2703) C0 hG hS rfl rfl rfl (hT 226 _ rfl) rfl iX4 tyX4_ok wc_X11_45 wn_X4 wi_X4 df_X4 (Nat.le_of_ble_eq_true rfl) (Nat.le_of_ble_eq_true rfl) dX11_init_93 (fun H hG hS => ?_)
  refine lv_dup hx hb dX11_init_96 rfl ?_
  refine g_ctorN (n2 := b + 232) (c2 := 231) (s2 := 4826) (As := []) (rest := [.ref (N + (b + 226)), .ref (N + (b))]) C0 hAO (jn_X4 (b := b + 226) (sub_ty (d := 226) (L2 := sh_X4) hT (by decide +kernel))) xm_X4_init xi_X4_init rfl wl_X11_47 ⟨rfl, rfl, (Nat.le_of_ble_eq_true rfl), (Nat.le_of_ble_eq_true rfl)⟩ hG hS (by omega) rfl rfl rfl hl.1 rfl (Nat.le_of_ble_eq_true rfl) ⟨(Nat.le_of_ble_eq_true rfl), (Nat.le_of_ble_eq_true rfl)⟩ dX11_init_97 (fun H locs hG hS => ?_)
  refine pn_X11_48 (q := b) (v := b + 226) C0 hG hS hnm (by omega) (hT 0 _ rfl) dX11_init_100 (fun H locs hG hS => ?_)
  refine lv_aload_n hx hb dX11_init_103 rfl (lv_at hl 0 rfl) ?_
  refine g_newo (ci := 6) (M := 5) (T := TX6) (n1 := b + 233) (c1 := 232) (s1 := 4831) C0 hG hS rfl rfl rfl (hT 232 _ rfl) rfl iX6 tyX6_ok wc_X11_52 wn_X6 wi_X6 df_X6 (Nat.le_of_ble_eq_true rfl) (Nat.le_of_ble_eq_true rfl) dX11_init_104 (fun H hG hS => ?_)
  refine lv_dup hx hb dX11_init_107 rfl ?_
  refine g_ctorN (n2 := b + 234) (c2 := 233) (s2 := 4851) (As := []) (rest := [.ref (N + (b + 232)), .ref (N + (b))]) C0 hAO (jn_X6 (b := b + 232) (sub_ty (d := 232) (L2 := sh_X6) hT (by decide +kernel))) xm_X6_init xi_X6_init rfl wl_X11_54 ⟨rfl, rfl, (Nat.le_of_ble_eq_true rfl), (Nat.le_of_ble_eq_true rfl)⟩ hG hS (by omega) rfl rfl rfl hl.1 rfl (Nat.le_of_ble_eq_true rfl) ⟨(Nat.le_of_ble_eq_true rfl), (Nat.le_of_ble_eq_true rfl)⟩ dX11_init_108 (fun H locs hG hS => ?_)
  refine pn_X11_55 (q := b) (v := b + 232) C0 hG hS hnm (by omega) (hT 0 _ rfl) dX11_init_111 (fun H locs hG hS => ?_)
  refine lv_aload_n hx hb dX11_init_114 rfl (lv_at hl 0 rfl) ?_
  refine g_newo (ci := 9) (M := 7) (T := TX9) (n1 := b + 235) (c1 := 234) (s1 := 4858) C0 hG hS rfl rfl rfl (hT 234 _ rfl) rfl iX9 tyX9_ok wc_X11_59 wn_X9 wi_X9 df_X9 (Nat.le_of_ble_eq_true rfl) (Nat.le_of_ble_eq_true rfl) dX11_init_115 (fun H hG hS => ?_)
  refine lv_dup hx hb dX11_init_118 rfl ?_
  refine g_ctor (n2 := b + 241) (c2 := 240) (s2 := 4909) (As := []) (rest := [.ref (N + (b + 234)), .ref (N + (b))]) C0 hAO (jn_X9 (b := b + 234) (sub_ty (d := 234) (L2 := sh_X9) hT (by decide +kernel))) xm_X9_init xi_X9_init rfl wl_X11_61 ⟨rfl, rfl, (Nat.le_of_ble_eq_true rfl), (Nat.le_of_ble_eq_true rfl)⟩ hG hS (by omega) rfl rfl rfl hl.1 rfl (Nat.le_of_ble_eq_true rfl) ⟨(Nat.le_of_ble_eq_true rfl), (Nat.le_of_ble_eq_true rfl)⟩ dX11_init_119 (fun H locs hG hS => ?_)
  refine pn_X11_62 (q := b) (v := b + 234) C0 hG hS hnm (by omega) (hT 0 _ rfl) dX11_init_122 (fun H locs hG hS => ?_)
  refine lv_aload_n hx hb dX11_init_125 rfl (lv_at hl 0 rfl) ?_
  refine g_newo (ci := 3) (M := 1) (T := TX3) (n1 := b + 242) (c1 := 241) (s1 := 4910) C0 hG hS rfl rfl rfl (hT 241 _ rfl) rfl iX3 tyX3_ok wc_X11_66 wn_X3 wi_X3 df_X3 (Nat.le_of_ble_eq_true rfl) (Nat.le_of_ble_eq_true rfl) dX11_init_126 (fun H hG hS => ?_)
  refine lv_dup hx hb dX11_init_129 rfl ?_
  refine g_ctorN (n2 := b + 243) (c2 := 242) (s2 := 4922) (As := []) (rest := [.ref (N + (b + 241)), .ref (N + (b))]) C0 hAO (jn_X3 (b := b + 241) (sub_ty (d := 241) (L2 := sh_X3) hT (by decide +kernel))) xm_X3_init xi_X3_init rfl wl_X11_68 ⟨rfl, rfl, (Nat.le_of_ble_eq_true rfl), (Nat.le_of_ble_eq_true rfl)⟩ hG hS (by omega) rfl rfl rfl hl.1 rfl (Nat.le_of_ble_eq_true rfl) ⟨(Nat.le_of_ble_eq_true rfl), (Nat.le_of_ble_eq_true rfl)⟩ dX11_init_130 (fun H locs hG hS => ?_)
  refine pn_X11_69 (q := b) (v := b + 241) C0 hG hS hnm (by omega) (hT 0 _ rfl) dX11_init_133 (fun H locs hG hS => ?_)
  refine lv_aload_n hx hb dX11_init_136 rfl (lv_at hl 0 rfl) ?_
  refine g_newo (ci := 10) (M := 15) (T := TX10) (n1 := b + 244) (c1 := 243) (s1 := 4937) C0 hG hS rfl rfl rfl (hT 243 _ rfl) rfl iX10 tyX10_ok wc_X11_73 wn_X10 wi_X10 df_X10 (Nat.le_of_ble_eq_true rfl) (Nat.le_of_ble_eq_true rfl) dX11_init_137 (fun H hG hS => ?_)
  refine lv_dup hx hb dX11_init_140 rfl ?_
  refine g_ctorN (n2 := b + 257) (c2 := 256) (s2 := 5555) (As := []) (rest := [.ref (N + (b + 243)), .ref (N + (b))]) C0 hAO (jn_X10 (b := b + 243) (sub_ty (d := 243) (L2 := sh_X10) hT (by decide +kernel))) xm_X10_init xi_X10_init rfl wl_X11_75 ⟨rfl, rfl, (Nat.le_of_ble_eq_true rfl), (Nat.le_of_ble_eq_true rfl)⟩ hG hS (by omega) rfl rfl rfl hl.1 rfl (Nat.le_of_ble_eq_true rfl) ⟨(Nat.le_of_ble_eq_true rfl), (Nat.le_of_ble_eq_true rfl)⟩ dX11_init_141 (fun H locs hG hS => ?_)
  refine pn_X11_76 (q := b) (v := b + 243) C0 hG hS hnm (by omega) (hT 0 _ rfl) dX11_init_144 (fun H locs hG hS => ?_)
  refine lv_aload_n hx hb dX11_init_147 rfl (lv_at hl 0 rfl) ?_
  refine g_newo (ci := 2) (M := 4) (T := TX2) (n1 := b + 258) (c1 := 257) (s1 := 5559) C0 hG hS rfl rfl rfl (hT 257 _ rfl) rfl iX2 tyX2_ok wc_X11_80 wn_X2 wi_X2 df_X2 (Nat.le_of_ble_eq_true rfl) (Nat.le_of_ble_eq_true rfl) dX11_init_148 (fun H hG hS => ?_)
  refine lv_dup hx hb dX11_init_151 rfl ?_
  refine g_ctorN (n2 := b + 263) (c2 := 262) (s2 := 5610) (As := []) (rest := [.ref (N + (b + 257)), .ref (N + (b))]) C0 hAO (jn_X2 (b := b + 257) (sub_ty (d := 257) (L2 := sh_X2) hT (by decide +kernel))) xm_X2_init xi_X2_init rfl wl_X11_82 ⟨rfl, rfl, (Nat.le_of_ble_eq_true rfl), (Nat.le_of_ble_eq_true rfl)⟩ hG hS (by omega) rfl rfl rfl hl.1 rfl (Nat.le_of_ble_eq_true rfl) ⟨(Nat.le_of_ble_eq_true rfl), (Nat.le_of_ble_eq_true rfl)⟩ dX11_init_152 (fun H locs hG hS => ?_)
  refine pn_X11_83 (q := b) (v := b + 257) C0 hG hS hnm (by omega) (hT 0 _ rfl) dX11_init_155 (fun H locs hG hS => ?_)
  refine lv_aload_n hx hb dX11_init_158 rfl (lv_at hl 0 rfl) ?_
  refine g_newo (ci := 5) (M := 5) (T := TX5) (n1 := b + 264) (c1 := 263) (s1 := 5615) C0 hG hS rfl rfl rfl (hT 263 _ rfl) rfl iX5 tyX5_ok wc_X11_87 wn_X5 wi_X5 df_X5 (Nat.le_of_ble_eq_true rfl) (Nat.le_of_ble_eq_true rfl) dX11_init_159 (fun H hG hS => ?_)
  refine lv_dup hx hb dX11_init_162 rfl ?_
  refine g_ctorN (n2 := b + 272) (c2 := 271) (s2 := 5874) (As := []) (rest := [.ref (N + (b + 263)), .ref (N + (b))]) C0 hAO (jn_X5 (b := b + 263) (sub_ty (d := 263) (L2 := sh_X5) hT (by decide +kernel))) xm_X5_init xi_X5_init rfl wl_X11_89 ⟨rfl, rfl, (Nat.le_of_ble_eq_true rfl), (Nat.le_of_ble_eq_true rfl)⟩ hG hS (by omega) rfl rfl rfl hl.1 rfl (Nat.le_of_ble_eq_true rfl) ⟨(Nat.le_of_ble_eq_true rfl), (Nat.le_of_ble_eq_true rfl)⟩ dX11_init_163 (fun H locs hG hS => ?_)
  refine pn_X11_90 (q := b) (v := b + 263) C0 hG hS hnm (by omega) (hT 0 _ rfl) dX11_init_166 (fun H locs hG hS => ?_)
  refine lv_aload_n hx hb dX11_init_169 rfl (lv_at hl 0 rfl) ?_
  refine g_newo (ci := 1) (M := 1) (T := TX1) (n1 := b + 273) (c1 := 272) (s1 := 5875) C0 hG hS rfl rfl rfl (hT 272 _ rfl) rfl iX1 tyX1_ok wc_X11_94 wn_X1 wi_X1 df_X1 (Nat.le_of_ble_eq_true rfl) (Nat.le_of_ble_eq_true rfl) dX11_init_170 (fun H hG hS => ?_)
  refine lv_dup hx hb dX11_init_173 rfl ?_
  refine g_ctorN (n2 := b + 273) (c2 := 272) (s2 := 5875) (As := []) (rest := [.ref (N + (b + 272)), .ref (N + (b))]) C0 hAO (jn_X1 (b := b + 272) (sub_ty (d := 272) (L2 := sh_X1) hT (by decide +kernel))) xm_X1_init xi_X1_init rfl wl_X11_96 ⟨rfl, rfl, (Nat.le_of_ble_eq_true rfl), (Nat.le_of_ble_eq_true rfl)⟩ hG hS (by omega) rfl rfl rfl hl.1 rfl (Nat.le_of_ble_eq_true rfl) ⟨(Nat.le_of_ble_eq_true rfl), (Nat.le_of_ble_eq_true rfl)⟩ dX11_init_174 (fun H locs hG hS => ?_)
  refine pn_X11_97 (q := b) (v := b + 272) C0 hG hS hnm (by omega) (hT 0 _ rfl) dX11_init_177 (fun H locs hG hS => ?_)
  have hG : xG D ty N (b + 273) (nr_X11 b ++ tR) (ni_X11 b ++ tI) (np_X11 b ++ tP) tA H := hG
  exact g_vret C0 hG hS dX11_init_180

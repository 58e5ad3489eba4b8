/-! THE CLASS's rule, which returns or throws (written by gen4.py) -/
theorem dX11_rule_0 : decode cX11_rule 0 = .ok (.aload_n 0, 1) := by decide +kernel
theorem dX11_rule_1 : decode cX11_rule 1 = .ok (.getfield 20, 3) := by decide +kernel
theorem dX11_rule_4 : decode cX11_rule 4 = .ok (.iload_n 1, 1) := by decide +kernel
theorem dX11_rule_5 : decode cX11_rule 5 = .ok (.invokevirtual 144, 3) := by decide +kernel
theorem dX11_rule_8 : decode cX11_rule 8 = .ok (.ifCond .ne 13, 3) := by decide +kernel
theorem dX11_rule_11 : decode cX11_rule 11 = .ok (.new 148, 3) := by decide +kernel
theorem dX11_rule_14 : decode cX11_rule 14 = .ok (.dup, 1) := by decide +kernel
theorem dX11_rule_15 : decode cX11_rule 15 = .ok (.ldc 150, 2) := by decide +kernel
theorem dX11_rule_17 : decode cX11_rule 17 = .ok (.invokespecial 152, 3) := by decide +kernel
theorem dX11_rule_20 : decode cX11_rule 20 = .ok (.athrow, 1) := by decide +kernel
theorem dX11_rule_21 : decode cX11_rule 21 = .ok (.aload_n 0, 1) := by decide +kernel
theorem dX11_rule_22 : decode cX11_rule 22 = .ok (.getfield 20, 3) := by decide +kernel
theorem dX11_rule_25 : decode cX11_rule 25 = .ok (.iload_n 1, 1) := by decide +kernel
theorem dX11_rule_26 : decode cX11_rule 26 = .ok (.invokevirtual 155, 3) := by decide +kernel
theorem dX11_rule_29 : decode cX11_rule 29 = .ok (.astore_n 3, 1) := by decide +kernel
theorem dX11_rule_30 : decode cX11_rule 30 = .ok (.iload_n 2, 1) := by decide +kernel
theorem dX11_rule_31 : decode cX11_rule 31 = .ok (.tableswitch 85 0 4 #[33, 38, 50, 55, 72], 33) := by decide +kernel
theorem dX11_rule_64 : decode cX11_rule 64 = .ok (.aload_n 3, 1) := by decide +kernel
theorem dX11_rule_65 : decode cX11_rule 65 = .ok (.getfield 128, 3) := by decide +kernel
theorem dX11_rule_68 : decode cX11_rule 68 = .ok (.ireturn, 1) := by decide +kernel
theorem dX11_rule_69 : decode cX11_rule 69 = .ok (.aload_n 0, 1) := by decide +kernel
theorem dX11_rule_70 : decode cX11_rule 70 = .ok (.getfield 20, 3) := by decide +kernel
theorem dX11_rule_73 : decode cX11_rule 73 = .ok (.iload_n 1, 1) := by decide +kernel
theorem dX11_rule_74 : decode cX11_rule 74 = .ok (.invokevirtual 159, 3) := by decide +kernel
theorem dX11_rule_77 : decode cX11_rule 77 = .ok (.getfield 128, 3) := by decide +kernel
theorem dX11_rule_80 : decode cX11_rule 80 = .ok (.ireturn, 1) := by decide +kernel
theorem dX11_rule_81 : decode cX11_rule 81 = .ok (.aload_n 3, 1) := by decide +kernel
theorem dX11_rule_82 : decode cX11_rule 82 = .ok (.invokevirtual 162, 3) := by decide +kernel
theorem dX11_rule_85 : decode cX11_rule 85 = .ok (.ireturn, 1) := by decide +kernel
theorem dX11_rule_86 : decode cX11_rule 86 = .ok (.aload_n 0, 1) := by decide +kernel
theorem dX11_rule_87 : decode cX11_rule 87 = .ok (.getfield 55, 3) := by decide +kernel
theorem dX11_rule_90 : decode cX11_rule 90 = .ok (.iload_n 1, 1) := by decide +kernel
theorem dX11_rule_91 : decode cX11_rule 91 = .ok (.invokevirtual 166, 3) := by decide +kernel
theorem dX11_rule_94 : decode cX11_rule 94 = .ok (.ifCond .eq 7, 3) := by decide +kernel
theorem dX11_rule_97 : decode cX11_rule 97 = .ok (.iconst 1, 1) := by decide +kernel
theorem dX11_rule_98 : decode cX11_rule 98 = .ok (.goto 4, 3) := by decide +kernel
theorem dX11_rule_101 : decode cX11_rule 101 = .ok (.iconst 0, 1) := by decide +kernel
theorem dX11_rule_102 : decode cX11_rule 102 = .ok (.ireturn, 1) := by decide +kernel
theorem dX11_rule_103 : decode cX11_rule 103 = .ok (.aload_n 3, 1) := by decide +kernel
theorem dX11_rule_104 : decode cX11_rule 104 = .ok (.invokevirtual 169, 3) := by decide +kernel
theorem dX11_rule_107 : decode cX11_rule 107 = .ok (.ifCond .eq 7, 3) := by decide +kernel
theorem dX11_rule_110 : decode cX11_rule 110 = .ok (.iconst 1, 1) := by decide +kernel
theorem dX11_rule_111 : decode cX11_rule 111 = .ok (.goto 4, 3) := by decide +kernel
theorem dX11_rule_114 : decode cX11_rule 114 = .ok (.iconst 0, 1) := by decide +kernel
theorem dX11_rule_115 : decode cX11_rule 115 = .ok (.ireturn, 1) := by decide +kernel
theorem dX11_rule_116 : decode cX11_rule 116 = .ok (.new 173, 3) := by decide +kernel
theorem dX11_rule_119 : decode cX11_rule 119 = .ok (.dup, 1) := by decide +kernel
theorem dX11_rule_120 : decode cX11_rule 120 = .ok (.ldc 175, 2) := by decide +kernel
theorem dX11_rule_122 : decode cX11_rule 122 = .ok (.invokespecial 177, 3) := by decide +kernel
theorem dX11_rule_125 : decode cX11_rule 125 = .ok (.athrow, 1) := by decide +kernel
theorem wl_X11_162 : Cond.methodLink RX11 162 yX7_variables ∈ xT := xin 1274 (by decide +kernel) rfl
theorem wl_X11_169 : Cond.methodLink RX11 169 yX7_repeatsVariable ∈ xT := xin 1278 (by decide +kernel) rfl
section XN_rule
variable {p : Program} {l : Launch} {e : Env} {R : Room} {s : State} {m : MethodId} {args : Array Value} {below : List Frame} {meth : Method} {c : Code} {H H0 : Heap} {locs : List Loc} {cells slots : Nat} {Q : State → Prop} {cc : ByteArray} {nL pc : Nat} {rt : Option FieldType} {ls : Array Slot} {rest : List Value} {D : xD} {ty : xTy} {h : xH}
theorem cl_X11_162 {v0 : Nat} {r : Int32} (C0 : xC D RX11 cc nL rt p s m args meth c) (hR : xRep D ty h H) (hS : xS ty H0 H locs) (hF : jf_X7_variables ty h v0 = some r) (t_v0 : ty v0 = some (0, 7)) (hrm : jr_X7_variables.frames + 1 ≤ R.frames ∧ 8 + (3 + 11) + jr_X7_variables.locals ≤ R.locals) (hsz : ls.size = nL) (hW : (rest.map fun v => v.category).sum ≤ 8) (hf : cells ≤ R.cells ∧ slots ≤ R.slots) (hdg : decode cc pc = .ok (.invokevirtual 162, 3)) (kk : ∀ (H1 : Heap) (locs1 : List Loc), xRep D ty h H1 → xS ty H0 H1 locs1 → W p l e R s m args below meth c H1 locs1 cells slots Q (F0 m (pc + 3) ls (.int r :: rest))) : W p l e R s m args below meth c H locs cells slots Q (F0 m pc ls (.ref v0 :: rest)) := x_callV C0 (jc_X7_variables t_v0 hF) xm_X7_variables xi_X7_variables xe_X7_variables wl_X11_162 ⟨rfl, rfl, hrm⟩ (ci := 7) rfl t_v0 hR hS (As := []) rfl hsz rfl hW hdg hf kk
theorem cl_X11_169 {v0 : Nat} {r : Int32} (C0 : xC D RX11 cc nL rt p s m args meth c) (hR : xRep D ty h H) (hS : xS ty H0 H locs) (hF : jf_X7_repeatsVariable ty h v0 = some r) (t_v0 : ty v0 = some (0, 7)) (hrm : jr_X7_repeatsVariable.frames + 1 ≤ R.frames ∧ 8 + (2 + 11) + jr_X7_repeatsVariable.locals ≤ R.locals) (hsz : ls.size = nL) (hW : (rest.map fun v => v.category).sum ≤ 8) (hf : cells ≤ R.cells ∧ slots ≤ R.slots) (hdg : decode cc pc = .ok (.invokevirtual 169, 3)) (kk : ∀ (H1 : Heap) (locs1 : List Loc), xRep D ty h H1 → xS ty H0 H1 locs1 → W p l e R s m args below meth c H1 locs1 cells slots Q (F0 m (pc + 3) ls (.int r :: rest))) : W p l e R s m args below meth c H locs cells slots Q (F0 m pc ls (.ref v0 :: rest)) := x_callV C0 (jc_X7_repeatsVariable t_v0 hF) xm_X7_repeatsVariable xi_X7_repeatsVariable xe_X7_repeatsVariable wl_X11_169 ⟨rfl, rfl, hrm⟩ (ci := 7) rfl t_v0 hR hS (As := []) rfl hsz rfl hW hdg hf kk
end XN_rule
abbrev jr_X11_rule : Room := { frames := 6, cells := 1, slots := 6, locals := 82 }
noncomputable def jf_X11_rule (ty : xTy) (h : xH) (v0 : Nat) (v1 : Int32) (v2 : Int32) : Option (Int32 × Int32) := (xgo ty h v0 2 0).bind fun a1 => (jf_X0_hasRule ty h a1 v1).bind fun a2 => if a2 = 0 then some (1, 0) else (xgo ty h v0 2 0).bind fun a4 => (jf_X0_termOf ty h a4 v1).bind fun a5 => (xck ty a5 7).bind fun _ => if v2 = 0 then some (0, xI h a5 2) else if v2 = 1 then (xgo ty h v0 2 0).bind fun a9 => (jf_X0_rightOf ty h a9 v1).bind fun a10 => (xck ty a10 7).bind fun _ => some (0, xI h a10 2) else if v2 = 2 then (jf_X7_variables ty h a5).bind fun a13 => some (0, a13) else if v2 = 3 then (xgo ty h v0 9 6).bind fun a15 => (jf_X6_isIn ty h a15 v1).bind fun a16 => if a16 = 0 then some (0, 0) else some (0, 1) else if v2 = 4 then (jf_X7_repeatsVariable ty h a5).bind fun a19 => if a19 = 0 then some (0, 0) else some (0, 1) else some (2, 0)
theorem xAt.lt {D : xD} {h : xH} {q : Nat} {t : Nat × Nat} {H : Heap} (a : xAt D h q t H) : q < H.size := by
  obtain ⟨t1, t2⟩ := t
  match t1, a with
  | 0, a =>
    obtain ⟨r, _, ce, q1, _⟩ := a
    exact (Array.getElem?_eq_some_iff.mp q1).1
  | 1, a => exact (Array.getElem?_eq_some_iff.mp a).1
  | 2, a => exact (Array.getElem?_eq_some_iff.mp a).1
  | 3, a => exact (Array.getElem?_eq_some_iff.mp a).1
  | n + 4, a => exact (Array.getElem?_eq_some_iff.mp a).1
theorem xRep.more {D : xD} {ty : xTy} {h : xH} {H H1 : Heap} (hR : xRep D ty h H) (hk : ∀ q : Nat, q < H.size → H1[q]? = H[q]?) : xRep D ty h H1 := fun q t ht => (hR q t ht).kept (hk q (hR q t ht).lt) (fun _ => ⟨rfl, rfl, rfl, rfl, rfl⟩)
def rQ (D : xD) (ty : xTy) (h : xH) (k r : Int32) : Array Value → State → Outcome → State → Prop := fun a st o t => k = 0 ∧ xQ D ty (some (.int r)) h a st o t
def rX (D : xD) (ty : xTy) (h : xH) (k : Int32) : String → State → State → Prop := fun E st t => ((k = 1 ∧ E = "java/lang/IndexOutOfBoundsException") ∨ (k = 2 ∧ E = "java/util/NoSuchElementException")) ∧ xRep D ty h t.heap ∧ st.heap.size ≤ t.heap.size ∧ ∀ q : Nat, q < st.heap.size → ty q = none → t.heap[q]? = st.heap[q]?
def rNw : List Cond := [.declares ⟨"java/lang/RuntimeException", "<init>", "(Ljava/lang/String;)V"⟩, .declares ⟨"java/lang/Exception", "<init>", "(Ljava/lang/String;)V"⟩, .declares ⟨"java/lang/Throwable", "<init>", "(Ljava/lang/String;)V"⟩, .castable "java/lang/IndexOutOfBoundsException" "java/lang/IndexOutOfBoundsException", .castable "java/util/NoSuchElementException" "java/util/NoSuchElementException"]
def rN (U : State) : Prop := ∀ w ∈ rNw, va_Nw w U
theorem rN.same {u U : State} (h : u.vm = U.vm) (k : rN u) : rN U := fun w hw => by
  have h2 := k w hw
  unfold rNw at hw
  simp only [List.mem_cons, List.not_mem_nil, or_false] at hw
  rcases hw with rfl | rfl | rfl | rfl | rfl <;> exact va_Nw.same rfl h h2
theorem rN.warm {s U : State} (hW : s.WarmedH U.vm) (k : rN s) : rN U := fun w hw => by
  have h2 := k w hw
  unfold rNw at hw
  simp only [List.mem_cons, List.not_mem_nil, or_false] at hw
  rcases hw with rfl | rfl | rfl | rfl | rfl
  · exact va_Nw.warmD hW h2
  · exact va_Nw.warmD hW h2
  · exact va_Nw.warmD hW h2
  · exact va_Nw.warmC hW h2
  · exact va_Nw.warmC hW h2
def xPx (D : xD) (ty : xTy) (h : xH) (av : List Value) (A : Nat → Prop) (sa1 sa2 : Nat) : Array Value → State → Prop := fun v U => xPc D ty h av v U ∧ vx_Zq Bundle.tN "UNASSIGNED_STACK" Bundle.steD A U U.heap ∧ vx_Zq Bundle.tN "SUPPRESSED_SENTINEL" Bundle.listD A U U.heap ∧ vk_R RX11 150 "no such rule" sa1 U ∧ vk_R RX11 175 "no such what" sa2 U ∧ rN U
theorem xPx.blind {D : xD} {ty : xTy} {h : xH} {av : List Value} {A : Nat → Prop} {sa1 sa2 : Nat} : FrameBlind (xPx D ty h av A sa1 sa2) := fun a U g mk q => ⟨xPc.blind a U g mk q.1, vx_Zq.moved (u := U) (U := U.calling g mk a) (Vm.Alike.refl U.vm) q.2.1, vx_Zq.moved (u := U) (U := U.calling g mk a) (Vm.Alike.refl U.vm) q.2.2.1, vk_R.same (u := U) rfl q.2.2.2.1, vk_R.same (u := U) rfl q.2.2.2.2.1, rN.same (u := U) rfl q.2.2.2.2.2⟩
def sixB : ByteArray := ⟨#[0x2a, 0x2b, 0xb7, 0x00, 0x0d, 0xb1]⟩
theorem rw1_in : ∀ w ∈ (nxAt RX11 152 "java/lang/IndexOutOfBoundsException" "java/lang/RuntimeException" 7 Bundle.six ["java/lang/Exception"]).filter goodWord, w ∈ xT := xinL [128, 1229, 1238, 1241, 1244, 1246, 1230, 1231, 140, 141, 1232, 1237, 1242, 1262, 1219, 1263, 1221, 1264, 1223, 1233, 1235, 1225, 1258, 1259, 1261, 1225, 1249, 1250, 1251, 1252, 1252, 1253, 1254, 1255, 1255, 1256, 1257, 1258, 1248, 1208, 1216, 1217, 1218, 1220, 1222, 1224, 1228, 1227, 1226] (by decide +kernel) (by decide +kernel)
theorem rw2_in : ∀ w ∈ (nxAt RX11 177 "java/util/NoSuchElementException" "java/lang/RuntimeException" 13 sixB ["java/lang/Exception"]).filter goodWord, w ∈ xT := xinL [128, 1229, 1238, 1241, 1244, 1246, 1230, 1231, 140, 141, 1232, 1237, 1242, 1262, 1219, 1263, 1221, 1264, 1223, 1233, 1235, 1225, 1258, 1259, 1261, 1225, 1290, 1291, 1292, 1252, 1252, 1253, 1254, 1255, 1255, 1256, 1257, 1258, 1289, 1280, 1282, 1240, 1283, 1284, 1285, 1286, 1228, 1227, 1287] (by decide +kernel) (by decide +kernel)
theorem rw1_n : ∀ w ∈ (nxAt RX11 152 "java/lang/IndexOutOfBoundsException" "java/lang/RuntimeException" 7 Bundle.six ["java/lang/Exception"]).filter (fun w => !goodWord w), w ∈ rNw := by decide +kernel
theorem rw2_n : ∀ w ∈ (nxAt RX11 177 "java/util/NoSuchElementException" "java/lang/RuntimeException" 13 sixB ["java/lang/Exception"]).filter (fun w => !goodWord w), w ∈ rNw := by decide +kernel
theorem rw1_o : ∀ w ∈ nxAt RX11 152 "java/lang/IndexOutOfBoundsException" "java/lang/RuntimeException" 7 Bundle.six ["java/lang/Exception"], vx_ot w = true := by decide +kernel
theorem rw2_o : ∀ w ∈ nxAt RX11 177 "java/util/NoSuchElementException" "java/lang/RuntimeException" 13 sixB ["java/lang/Exception"], vx_ot w = true := by decide +kernel
theorem rk1 : Cond.classLink RX11 148 "java/lang/IndexOutOfBoundsException" ∈ xT := xin 1207 (by decide +kernel) rfl
theorem rk2 : Cond.classLink RX11 173 "java/util/NoSuchElementException" ∈ xT := xin 1279 (by decide +kernel) rfl
theorem ri1 : Cond.initialized "java/lang/IndexOutOfBoundsException" ∈ xT := xin 131 (by decide +kernel) rfl
theorem ri2 : Cond.initialized "java/util/NoSuchElementException" ∈ xT := xin 132 (by decide +kernel) rfl
theorem xT_ot {w : Cond} (h : w ∈ xT) : vx_ot w = true := by
  unfold vx_ot
  rw [(List.mem_filter.mp h).2, Bool.or_true]
theorem hNw_use {s : State} {args : Array Value} (h : rN s) {w : Cond} (hw : w ∈ rNw) : w.before args s = true := by
  have h2 := h w hw
  unfold rNw at hw
  simp only [List.mem_cons, List.not_mem_nil, or_false] at hw
  rcases hw with rfl | rfl | rfl | rfl | rfl <;> exact va_Nw.use rfl h2
section RULE
variable {p : Program} {l : Launch} {e : Env} {s : State} {m : MethodId} {args : Array Value} {below : List Frame} {meth : Method} {c : Code} {H : Heap} {locs : List Loc} {ls : Array Slot} {D : xD} {ty : xTy} {h : xH} {A : Nat → Prop} {sa1 sa2 : Nat}
theorem rrt {v : Int32} {pc : Nat} (C0 : xC D RX11 cX11_rule 4 (some .int) p s m args meth c) (hR : xRep D ty h H) (hS : xS ty s.heap H locs) (hdg : decode cX11_rule pc = .ok (.ireturn, 1)) : W p l e jr_X11_rule s m args below meth c H locs 0 0 (vx_MQ below (rQ D ty h 0 v) (rX D ty h 0) args s 1 6 (xdom ty)) (F0 m pc ls [.int v]) := by
  obtain ⟨hx, hb, -, hr, hlocks, -⟩ := C0
  exact W.widen (Nat.zero_le _) (Nat.zero_le _) (vx_ret (W.iret hx hb hr (fun t ht _ => ⟨rfl, xQ.of hR hS ht⟩) hS.2.2 hdg))
theorem r_vaS (hA : ∀ q, ty q ≠ none → A q) (hS : xS ty s.heap H locs) : va_S A s.heap H locs := ⟨by rw [hS.1]; exact Nat.le_refl _, fun q _ hq => hS.2.1 q (Classical.byContradiction fun z => hq (hA q z)), fun l hl => hA _ (hS.2.2 l hl)⟩
theorem rth_1 (C0 : xC D RX11 cX11_rule 4 (some .int) p s m args meth c) (hlt : l.stackTraces = false) (hout : ∀ x ∈ c.exceptionTable.toList, False) (hU : vx_Zq Bundle.tN "UNASSIGNED_STACK" Bundle.steD A s s.heap) (hN : vx_Zq Bundle.tN "SUPPRESSED_SENTINEL" Bundle.listD A s s.heap) (hNw : rN s) (hs : vk_R RX11 150 "no such rule" sa1 s) (hA : ∀ q, ty q ≠ none → A q) (hR : xRep D ty h H) (hS : xS ty s.heap H locs) (hsz : ls.size = 4) {v : Int32} : W p l e jr_X11_rule s m args below meth c H locs 0 0 (vx_MQ below (rQ D ty h 1 v) (rX D ty h 1) args s 1 6 (xdom ty)) (F0 m 11 ls []) := by
  obtain ⟨hx, hb, hml, hr, hlocks, hown, hts, hK⟩ := C0
  refine nx_make (A := A) (cls := "java/lang/IndexOutOfBoundsException") (up := "java/lang/RuntimeException") (names := ["java/lang/Exception"]) (iu := 7) (bytes := Bundle.six) hx hb hlt hown (by decide) (by decide) Bundle.six_0 Bundle.six_1 Bundle.six_2 Bundle.six_5 (by decide) (hts _ rk1) (hts _ ri1) hs (vx_hat (fun w hw => hts _ (rw1_in w hw)) rw1_n (fun w hw => hNw_use hNw hw)) (fun w hw => ?_) hU hN (r_vaS hA hS) (hsz.trans hml.symm) dX11_rule_11 dX11_rule_14 dX11_rule_15 dX11_rule_17 (Nat.le_of_ble_eq_true rfl) (Nat.le_of_ble_eq_true rfl) (Nat.le_of_ble_eq_true rfl) (Nat.le_of_ble_eq_true rfl) (fun q H1 ce c1 c2 c3 c4 c5 => ?_)
  · rcases List.mem_cons.mp hw with rfl | hw
    · exact xT_ot rk1
    · rcases List.mem_cons.mp hw with rfl | hw
      · exact xT_ot ri1
      · exact rw1_o w hw
  · refine vx_athrow hx hb dX11_rule_20 ?_
    exact vx_out (fun x hx => (hout x hx).elim) hlocks c1 c2 c3 (fun t ht _ => ⟨Or.inl ⟨rfl, rfl⟩, by rw [ht]; exact hR.more c5, by rw [ht, ← hS.1]; exact c4, fun q hq h0 => by rw [ht, c5 q (by rw [hS.1]; exact hq)]; exact hS.2.1 q h0⟩) hS.2.2 (Nat.le_refl _) (Nat.le_refl _)
theorem rth_2 (C0 : xC D RX11 cX11_rule 4 (some .int) p s m args meth c) (hlt : l.stackTraces = false) (hout : ∀ x ∈ c.exceptionTable.toList, False) (hU : vx_Zq Bundle.tN "UNASSIGNED_STACK" Bundle.steD A s s.heap) (hN : vx_Zq Bundle.tN "SUPPRESSED_SENTINEL" Bundle.listD A s s.heap) (hNw : rN s) (hs : vk_R RX11 175 "no such what" sa2 s) (hA : ∀ q, ty q ≠ none → A q) (hR : xRep D ty h H) (hS : xS ty s.heap H locs) (hsz : ls.size = 4) {v : Int32} : W p l e jr_X11_rule s m args below meth c H locs 0 0 (vx_MQ below (rQ D ty h 2 v) (rX D ty h 2) args s 1 6 (xdom ty)) (F0 m 116 ls []) := by
  obtain ⟨hx, hb, hml, hr, hlocks, hown, hts, hK⟩ := C0
  refine nx_make (A := A) (cls := "java/util/NoSuchElementException") (up := "java/lang/RuntimeException") (names := ["java/lang/Exception"]) (iu := 13) (bytes := sixB) hx hb hlt hown (by decide) (by decide) (by decide +kernel) (by decide +kernel) (by decide +kernel) (by decide +kernel) (by decide) (hts _ rk2) (hts _ ri2) hs (vx_hat (fun w hw => hts _ (rw2_in w hw)) rw2_n (fun w hw => hNw_use hNw hw)) (fun w hw => ?_) hU hN (r_vaS hA hS) (hsz.trans hml.symm) dX11_rule_116 dX11_rule_119 dX11_rule_120 dX11_rule_122 (Nat.le_of_ble_eq_true rfl) (Nat.le_of_ble_eq_true rfl) (Nat.le_of_ble_eq_true rfl) (Nat.le_of_ble_eq_true rfl) (fun q H1 ce c1 c2 c3 c4 c5 => ?_)
  · rcases List.mem_cons.mp hw with rfl | hw
    · exact xT_ot rk2
    · rcases List.mem_cons.mp hw with rfl | hw
      · exact xT_ot ri2
      · exact rw2_o w hw
  · refine vx_athrow hx hb dX11_rule_125 ?_
    exact vx_out (fun x hx => (hout x hx).elim) hlocks c1 c2 c3 (fun t ht _ => ⟨Or.inr ⟨rfl, rfl⟩, by rw [ht]; exact hR.more c5, by rw [ht, ← hS.1]; exact c4, fun q hq h0 => by rw [ht, c5 q (by rw [hS.1]; exact hq)]; exact hS.2.1 q h0⟩) hS.2.2 (Nat.le_refl _) (Nat.le_refl _)
end RULE
set_option maxHeartbeats 4000000 in
set_option maxRecDepth 100000 in
theorem jc_X11_rule {l : Launch} {D : xD} {ty : xTy} {h : xH} {v0 : Nat} {v1 v2 k r : Int32} {A : Nat → Prop} {sa1 sa2 : Nat} (hlt : l.stackTraces = false) (hA : ∀ q, ty q ≠ none → A q) (t_v0 : ty v0 = some (0, 11)) (hF : jf_X11_rule ty h v0 v1 v2 = some (k, r)) : vx_Met l yX11_rule (xws yX11_rule cX11_rule 4 (some .int)) jr_X11_rule (xPx D ty h [.ref v0, .int v1, .int v2] A sa1 sa2) (rQ D ty h k r) (rX D ty h k) 1 6 (xdom ty) := by
  refine vx_ofW (by decide) rfl ?_
  intro p e s m args below meth c s₁ B hml hout hv
  obtain ⟨⟨rfl, hR, hK⟩, hU, hN, hs1, hs2, hNw⟩ := hv
  have hts := atoms_spec (ws := xws yX11_rule cX11_rule 4 (some .int)) B.pre
  have C0 : xC D RX11 cX11_rule 4 (some .int) p s m ([.ref v0, .int v1, .int v2] : List Value).toArray meth c := ⟨B.exec, B.bytes, hml, B.returns, B.notSynchronized, findClass_of_methodNamed B.named, fun w hw => hts w (List.mem_cons_of_mem _ hw), hK⟩
  show W p l e jr_X11_rule s m ([.ref v0, .int v1, .int v2] : List Value).toArray below meth c s.heap [] 0 0 (vx_MQ below (rQ D ty h k r) (rX D ty h k) ([.ref v0, .int v1, .int v2] : List Value).toArray s 1 6 (xdom ty)) (entryFrame m ([.ref v0, .int v1, .int v2] : List Value).toArray 4)
  clear B hts
  generalize hargs : ([.ref v0, .int v1, .int v2] : List Value).toArray = args at C0 ⊢
  have hx := C0.1
  have hb := C0.2.1
  have hown := C0.2.2.2.2.2.1
  have hts := C0.2.2.2.2.2.2.1
  have hS : xS ty s.heap s.heap [] := xS.rf
  have hl := lv_entry ([.ref v0, .int v1, .int v2]) (n := 4) (Nat.le_of_ble_eq_true rfl)
  rw [← hargs, lg_entry_eq]
  rw [hargs]
  generalize (lg_sl ([.ref v0, .int v1, .int v2]) ++ List.replicate (4 - (lg_sl ([.ref v0, .int v1, .int v2])).length) Slot.unset).toArray = ls at hl ⊢
  have hl : lv_has ls 4 [(0, .ref v0), (1, .int v1), (2, .int v2)] := hl
  unfold jf_X11_rule at hF
  refine lv_aload_n hx hb dX11_rule_0 rfl (lv_at hl 0 rfl) ?_
  obtain ⟨a1, e_a1, hF⟩ := xbd hF
  obtain ⟨e_a1, t_a1⟩ := xgo_sp e_a1
  refine gf_X11_20 C0 hR t_v0 e_a1 dX11_rule_1 ?_
  refine lv_iload_n hx hb dX11_rule_4 rfl (lv_at hl 1 rfl) ?_
  obtain ⟨a2, e_a2, hF⟩ := xbd hF
  refine cl_X11_144 C0 hR hS e_a2 t_a1 ⟨(Nat.le_of_ble_eq_true rfl), (Nat.le_of_ble_eq_true rfl)⟩ hl.1 (Nat.le_of_ble_eq_true rfl) ⟨(Nat.le_of_ble_eq_true rfl), (Nat.le_of_ble_eq_true rfl)⟩ dX11_rule_5 (fun H locs hR hS => ?_)
  refine lv_if_ne (tgt := 21) hx hb dX11_rule_8 (by decide) (fun c3 => ?_) (fun c3 => ?_)
  · have hF := xel hF c3
    refine lv_aload_n hx hb dX11_rule_21 rfl (lv_at hl 0 rfl) ?_
    obtain ⟨a4, e_a4, hF⟩ := xbd hF
    obtain ⟨e_a4, t_a4⟩ := xgo_sp e_a4
    refine gf_X11_20 C0 hR t_v0 e_a4 dX11_rule_22 ?_
    refine lv_iload_n hx hb dX11_rule_25 rfl (lv_at hl 1 rfl) ?_
    obtain ⟨a5, e_a5, hF⟩ := xbd hF
    obtain ⟨u6, e_u6, hF⟩ := xbd hF
    have t_a5 := xck_sp e_u6
    refine cl_X11_155 C0 hR hS e_a5 t_a4 ⟨(Nat.le_of_ble_eq_true rfl), (Nat.le_of_ble_eq_true rfl)⟩ hl.1 (Nat.le_of_ble_eq_true rfl) ⟨(Nat.le_of_ble_eq_true rfl), (Nat.le_of_ble_eq_true rfl)⟩ dX11_rule_26 (fun H locs hR hS => ?_)
    refine lv_astore_n (lv' := [(3, .ref a5), (0, .ref v0), (1, .int v1), (2, .int v2)]) hx hb dX11_rule_29 rfl hl (by decide) rfl (fun ls hl => ?_)
    refine lv_iload_n hx hb dX11_rule_30 rfl (lv_at hl 3 rfl) ?_
    by_cases c7 : v2 = 0
    · have hF := xif hF c7
      refine lv_tableIn (tgt := 64) (off := 33) hx hb dX11_rule_31 (by rw [c7]; decide) (by rw [c7]; decide) (by rw [c7]; rfl) (by decide) ?_
      refine lv_aload_n hx hb dX11_rule_64 rfl (lv_at hl 0 rfl) ?_
      refine gf_X11_128 C0 hR t_a5 dX11_rule_65 ?_
      cases hF
      exact rrt C0 hR hS dX11_rule_68
    · have hF := xel hF c7
      by_cases c8 : v2 = 1
      · have hF := xif hF c8
        refine lv_tableIn (tgt := 69) (off := 38) hx hb dX11_rule_31 (by rw [c8]; decide) (by rw [c8]; decide) (by rw [c8]; rfl) (by decide) ?_
        refine lv_aload_n hx hb dX11_rule_69 rfl (lv_at hl 1 rfl) ?_
        obtain ⟨a9, e_a9, hF⟩ := xbd hF
        obtain ⟨e_a9, t_a9⟩ := xgo_sp e_a9
        refine gf_X11_20 C0 hR t_v0 e_a9 dX11_rule_70 ?_
        refine lv_iload_n hx hb dX11_rule_73 rfl (lv_at hl 2 rfl) ?_
        obtain ⟨a10, e_a10, hF⟩ := xbd hF
        obtain ⟨u11, e_u11, hF⟩ := xbd hF
        have t_a10 := xck_sp e_u11
        refine cl_X11_159 C0 hR hS e_a10 t_a9 ⟨(Nat.le_of_ble_eq_true rfl), (Nat.le_of_ble_eq_true rfl)⟩ hl.1 (Nat.le_of_ble_eq_true rfl) ⟨(Nat.le_of_ble_eq_true rfl), (Nat.le_of_ble_eq_true rfl)⟩ dX11_rule_74 (fun H locs hR hS => ?_)
        refine gf_X11_128 C0 hR t_a10 dX11_rule_77 ?_
        cases hF
        exact rrt C0 hR hS dX11_rule_80
      · have hF := xel hF c8
        by_cases c12 : v2 = 2
        · have hF := xif hF c12
          refine lv_tableIn (tgt := 81) (off := 50) hx hb dX11_rule_31 (by rw [c12]; decide) (by rw [c12]; decide) (by rw [c12]; rfl) (by decide) ?_
          refine lv_aload_n hx hb dX11_rule_81 rfl (lv_at hl 0 rfl) ?_
          obtain ⟨a13, e_a13, hF⟩ := xbd hF
          refine cl_X11_162 C0 hR hS e_a13 t_a5 ⟨(Nat.le_of_ble_eq_true rfl), (Nat.le_of_ble_eq_true rfl)⟩ hl.1 (Nat.le_of_ble_eq_true rfl) ⟨(Nat.le_of_ble_eq_true rfl), (Nat.le_of_ble_eq_true rfl)⟩ dX11_rule_82 (fun H locs hR hS => ?_)
          cases hF
          exact rrt C0 hR hS dX11_rule_85
        · have hF := xel hF c12
          by_cases c14 : v2 = 3
          · have hF := xif hF c14
            refine lv_tableIn (tgt := 86) (off := 55) hx hb dX11_rule_31 (by rw [c14]; decide) (by rw [c14]; decide) (by rw [c14]; rfl) (by decide) ?_
            refine lv_aload_n hx hb dX11_rule_86 rfl (lv_at hl 1 rfl) ?_
            obtain ⟨a15, e_a15, hF⟩ := xbd hF
            obtain ⟨e_a15, t_a15⟩ := xgo_sp e_a15
            refine gf_X11_55 C0 hR t_v0 e_a15 dX11_rule_87 ?_
            refine lv_iload_n hx hb dX11_rule_90 rfl (lv_at hl 2 rfl) ?_
            obtain ⟨a16, e_a16, hF⟩ := xbd hF
            refine cl_X11_166 C0 hR hS e_a16 t_a15 ⟨(Nat.le_of_ble_eq_true rfl), (Nat.le_of_ble_eq_true rfl)⟩ hl.1 (Nat.le_of_ble_eq_true rfl) ⟨(Nat.le_of_ble_eq_true rfl), (Nat.le_of_ble_eq_true rfl)⟩ dX11_rule_91 (fun H locs hR hS => ?_)
            refine lv_if_eq (tgt := 101) hx hb dX11_rule_94 (by decide) (fun c17 => ?_) (fun c17 => ?_)
            · have hF := xif hF c17
              refine lv_iconst (v := 0) hx hb dX11_rule_101 (by decide) ?_
              cases hF
              exact rrt C0 hR hS dX11_rule_102
            · have hF := xel hF c17
              refine lv_iconst (v := 1) hx hb dX11_rule_97 (by decide) ?_
              refine lv_goto (tgt := 102) hx hb dX11_rule_98 (by decide) ?_
              cases hF
              exact rrt C0 hR hS dX11_rule_102
          · have hF := xel hF c14
            by_cases c18 : v2 = 4
            · have hF := xif hF c18
              refine lv_tableIn (tgt := 103) (off := 72) hx hb dX11_rule_31 (by rw [c18]; decide) (by rw [c18]; decide) (by rw [c18]; rfl) (by decide) ?_
              refine lv_aload_n hx hb dX11_rule_103 rfl (lv_at hl 0 rfl) ?_
              obtain ⟨a19, e_a19, hF⟩ := xbd hF
              refine cl_X11_169 C0 hR hS e_a19 t_a5 ⟨(Nat.le_of_ble_eq_true rfl), (Nat.le_of_ble_eq_true rfl)⟩ hl.1 (Nat.le_of_ble_eq_true rfl) ⟨(Nat.le_of_ble_eq_true rfl), (Nat.le_of_ble_eq_true rfl)⟩ dX11_rule_104 (fun H locs hR hS => ?_)
              refine lv_if_eq (tgt := 114) hx hb dX11_rule_107 (by decide) (fun c20 => ?_) (fun c20 => ?_)
              · have hF := xif hF c20
                refine lv_iconst (v := 0) hx hb dX11_rule_114 (by decide) ?_
                cases hF
                exact rrt C0 hR hS dX11_rule_115
              · have hF := xel hF c20
                refine lv_iconst (v := 1) hx hb dX11_rule_110 (by decide) ?_
                refine lv_goto (tgt := 115) hx hb dX11_rule_111 (by decide) ?_
                cases hF
                exact rrt C0 hR hS dX11_rule_115
            · have hF := xel hF c18
              have g_c7 : ¬ (v2).toInt = 0 := fun z => c7 (Int32.toInt_inj.mp (z.trans (by decide)))
              have g_c8 : ¬ (v2).toInt = 1 := fun z => c8 (Int32.toInt_inj.mp (z.trans (by decide)))
              have g_c12 : ¬ (v2).toInt = 2 := fun z => c12 (Int32.toInt_inj.mp (z.trans (by decide)))
              have g_c14 : ¬ (v2).toInt = 3 := fun z => c14 (Int32.toInt_inj.mp (z.trans (by decide)))
              have g_c18 : ¬ (v2).toInt = 4 := fun z => c18 (Int32.toInt_inj.mp (z.trans (by decide)))
              refine lv_tableOut (tgt := 116) hx hb dX11_rule_31 (by omega) (by decide) ?_
              cases hF
              exact rth_2 C0 hlt hout hU hN hNw hs2 hA hR hS hl.1
  · have hF := xif hF c3
    cases hF
    exact rth_1 C0 hlt hout hU hN hNw hs1 hA hR hS hl.1
theorem xm_X11_rule : xMw yX11_rule cX11_rule 4 (some .int) 2 := ⟨xin 1206 (by decide +kernel) rfl, xin 114 (by decide +kernel) rfl, by decide +kernel⟩
theorem xi_X11_rule : Cond.instanceMethod yX11_rule ∈ xT := xin 1204 (by decide +kernel) rfl
theorem xe_X11_rule : Cond.selects yX11_rule.cls yX11_rule yX11_rule ∈ xT := xin 1205 (by decide +kernel) rfl

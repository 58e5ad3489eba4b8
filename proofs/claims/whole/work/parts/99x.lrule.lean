/-! THE LAW's rule: it calls the class's, and catches (written by gen5.py) -/
theorem dL_rule_0 : decode cL_rule 0 = .ok (.aload_n 3, 1) := by decide +kernel
theorem dL_rule_1 : decode cL_rule 1 = .ok (.iconst 0, 1) := by decide +kernel
theorem dL_rule_2 : decode cL_rule 2 = .ok (.aload_n 0, 1) := by decide +kernel
theorem dL_rule_3 : decode cL_rule 3 = .ok (.iload_n 1, 1) := by decide +kernel
theorem dL_rule_4 : decode cL_rule 4 = .ok (.iload_n 2, 1) := by decide +kernel
theorem dL_rule_5 : decode cL_rule 5 = .ok (.invokevirtual 7, 3) := by decide +kernel
theorem dL_rule_8 : decode cL_rule 8 = .ok (.i2l, 1) := by decide +kernel
theorem dL_rule_9 : decode cL_rule 9 = .ok (.lastore, 1) := by decide +kernel
theorem dL_rule_10 : decode cL_rule 10 = .ok (.goto 11, 3) := by decide +kernel
theorem dL_rule_13 : decode cL_rule 13 = .ok (.astore 4, 2) := by decide +kernel
theorem dL_rule_15 : decode cL_rule 15 = .ok (.iconst 1, 1) := by decide +kernel
theorem dL_rule_16 : decode cL_rule 16 = .ok (.ireturn, 1) := by decide +kernel
theorem dL_rule_17 : decode cL_rule 17 = .ok (.astore 4, 2) := by decide +kernel
theorem dL_rule_19 : decode cL_rule 19 = .ok (.iconst 2, 1) := by decide +kernel
theorem dL_rule_20 : decode cL_rule 20 = .ok (.ireturn, 1) := by decide +kernel
theorem dL_rule_21 : decode cL_rule 21 = .ok (.iconst 0, 1) := by decide +kernel
theorem dL_rule_22 : decode cL_rule 22 = .ok (.ireturn, 1) := by decide +kernel
theorem wl_L_7 : Cond.methodLink RL 7 yX11_rule ∈ xT := xin 1203 (by decide +kernel) rfl
theorem wc_L_13 : Cond.classLink RL 13 "java/lang/IndexOutOfBoundsException" ∈ xT := xin 1201 (by decide +kernel) rfl
theorem wc_L_15 : Cond.classLink RL 15 "java/util/NoSuchElementException" ∈ xT := xin 1202 (by decide +kernel) rfl
abbrev hhL : List (Nat × Nat × Nat × Nat) := [(0, 10, 13, 13), (0, 10, 17, 15)]
theorem ww_L_rule : Cond.codeWith yL_rule cL_rule 5 (some .int) hhL ∈ xT := xin 1200 (by decide +kernel) rfl
/-- since H0 cells of 'ty' may have changed, others may have come -/
def xE (ty : xTy) (H0 H : Heap) (locs : List Loc) : Prop := H0.size ≤ H.size ∧ (∀ q : Nat, q < H0.size → ty q = none → H[q]? = H0[q]?) ∧ ∀ l ∈ locs, xdom ty l.base
theorem xE.S {ty : xTy} {H0 H H1 : Heap} {locs locs1 : List Loc} (h : xE ty H0 H locs) (h1 : xS ty H H1 locs1) : xE ty H0 H1 locs1 := ⟨by rw [h1.1]; exact h.1, fun q hq h0 => (h1.2.1 q h0).trans (h.2.1 q hq h0), h1.2.2⟩
theorem xE.s {ty : xTy} {H0 H : Heap} {locs : List Loc} (h : xE ty H0 H locs) : xS ty H H locs := ⟨rfl, fun _ _ => rfl, h.2.2⟩
theorem xE.E {ty : xTy} {H0 H H1 : Heap} {locs locs1 : List Loc} (h : xE ty H0 H locs) (h1 : H.size ≤ H1.size) (h2 : ∀ q : Nat, q < H.size → ty q = none → H1[q]? = H[q]?) (h3 : ∀ l ∈ locs1, xdom ty l.base) : xE ty H0 H1 locs1 := ⟨Nat.le_trans h.1 h1, fun q hq h0 => (h2 q (Nat.lt_of_lt_of_le hq h.1) h0).trans (h.2.1 q hq h0), h3⟩
section LRULE
variable {p : Program} {l : Launch} {e : Env} {R : Room} {s : State} {m : MethodId} {args : Array Value} {below : List Frame} {meth : Method} {c : Code} {H H0 : Heap} {locs : List Loc} {cells slots : Nat} {Q : State → Prop}
variable {cc : ByteArray} {nL pc : Nat} {rt : Option FieldType} {own : String} {ls : Array Slot} {rest : List Value} {D : xD} {ty : xTy} {h : xH} {a : Nat}
theorem x_last (C0 : xC D own cc nL rt p s m args meth c) (hR : xRep D ty h H) (hS0 : xS ty H0 H locs) {i : Int32} {v : Int64} {n j : Nat} (ht : ty a = some (4, n)) (hi : ¬ i < 0) (hj : i.toNatClampNeg = j) (hlt : j < n) (hdg : decode cc pc = .ok (.lastore, 1))
    (kk : ∀ (H1 : Heap) (locs1 : List Loc), xRep D ty (xsJ h a j v) H1 → xS ty H0 H1 locs1 → W p l e R s m args below meth c H1 locs1 cells slots Q (F0 m (pc + 1) ls rest)) : W p l e R s m args below meth c H locs cells slots Q (F0 m pc ls (.long v :: .int i :: .ref a :: rest)) := by
  obtain ⟨hx, hb, -, -, -, hown, hts, hK, -⟩ := C0
  subst hj
  refine W.last hx hb (hR a _ ht) ((hK.2 3 _ rfl).1 n (fun j => .long (xJ h a j))) (fun q => by cases q) (by show ¬ (i < 0 ∨ (arrV _ _ _).slots.size ≤ _); rw [arrV_size]; rintro (z | z); exact hi z; omega) rfl rfl hdg fun H1 e z oq => ?_
  refine kk H1 _ (hR.set (fun t ht' => ?_) oq (fun q hq j => ⟨rfl, rfl, rfl, rfl, xup_ne _ _ (Or.inl hq)⟩)) (hS0.put z oq (by intro z; rw [ht] at z; cases z))
  cases ht.symm.trans ht'
  show H1[a]? = some (arrV _ _ _)
  rw [e, arrV_store]
  congr 2
  funext q
  by_cases hq : q = i.toNatClampNeg
  · subst hq
    simp [updV, xJ, xsJ, xup]
  · simp [updV, xJ, xsJ, xup, hq]
theorem x_lald (C0 : xC D own cc nL rt p s m args meth c) (hR : xRep D ty h H) {i : Int32} {n j : Nat} (ht : ty a = some (4, n)) (hi : ¬ i < 0) (hj : i.toNatClampNeg = j) (hlt : j < n) (hdg : decode cc pc = .ok (.laload, 1))
    (kk : W p l e R s m args below meth c H locs cells slots Q (F0 m (pc + 1) ls (.long (xJ h a j) :: rest))) : W p l e R s m args below meth c H locs cells slots Q (F0 m pc ls (.int i :: .ref a :: rest)) := by
  obtain ⟨hx, hb, -, -, -, hown, hts, hK, -⟩ := C0
  subst hj
  exact W.lald (v := .long (xJ h a i.toNatClampNeg)) hx hb (hR a _ ht) ((hK.2 3 _ rfl).1 n (fun j => .long (xJ h a j))) (fun q => by cases q) (by show ¬ (i < 0 ∨ (arrV _ _ _).slots.size ≤ _); rw [arrV_size]; rintro (z | z); exact hi z; omega) (by show (arrV _ _ _).slots[_]? = _; rw [arrV_read _ _ hlt]) rfl rfl hdg kk
variable {A : Nat → Prop} {sa1 sa2 b : Nat} {v1 v2 k r : Int32}
theorem x_callR (C0 : xC D RL cc nL rt p s m args meth c) (hlt : l.stackTraces = false) (hA : ∀ q, ty q ≠ none → A q) (ht : ty b = some (0, 11)) (hF : jf_X11_rule ty h b v1 v2 = some (k, r)) (hR : xRep D ty h H) (hU : vx_Zq Bundle.tN "UNASSIGNED_STACK" Bundle.steD A s H) (hN : vx_Zq Bundle.tN "SUPPRESSED_SENTINEL" Bundle.listD A s H) (hs1 : vk_R RX11 150 "no such rule" sa1 s) (hs2 : vk_R RX11 175 "no such what" sa2 s) (hNw : rN s) (hE : xE ty H0 H locs)
    (hrm : jr_X11_rule.frames + 1 ≤ R.frames ∧ 8 + (4 + 11) + jr_X11_rule.locals ≤ R.locals) (hsz : ls.size = nL) (hW : (rest.map fun v => v.category).sum ≤ 8) (hf : cells + 1 ≤ R.cells ∧ slots + 6 ≤ R.slots) (hdg : decode cc pc = .ok (.invokevirtual 7, 3))
    (kx : ∀ (E : String) (ce : Cell) (q9 : Addr) (H1 : Heap) (locs1 : List Loc), ((k = 1 ∧ E = "java/lang/IndexOutOfBoundsException") ∨ (k = 2 ∧ E = "java/util/NoSuchElementException")) → xRep D ty h H1 → xE ty H0 H1 locs1 → H1[q9]? = some ce → ce.vm = .none → s.vm.findClass E = some ce.cls → vx_W p l e R s m args below meth c H1 locs1 (cells + 1) (slots + 6) Q (F0 m pc ls rest) q9)
    (kk : k = 0 → ∀ (H1 : Heap) (locs1 : List Loc), xRep D ty h H1 → xE ty H0 H1 locs1 → W p l e R s m args below meth c H1 locs1 (cells + 1) (slots + 6) Q (F0 m (pc + 3) ls (.int r :: rest))) : W p l e R s m args below meth c H locs cells slots Q (F0 m pc ls (.int v2 :: .int v1 :: .ref b :: rest)) := by
  obtain ⟨hx, hb, hml, -, -, hown, hts, hK⟩ := C0
  have hr : vx_Run p l e R s m args below meth c H locs cells slots 1 6 (F0 m pc ls (.int v2 :: .int v1 :: .ref b :: rest)) rest (rQ D ty h k r (Value.ref b :: [.int v1, .int v2]).toArray) (rX D ty h k) (xdom ty) := by
    refine vx_runV (Ts := xT) (own := RL) (C := yX11_rule.cls) (As := [.int v1, .int v2]) (rest := rest) ⟨hx, hb, hml, hown, hts⟩ (jc_X11_rule (A := A) (sa1 := sa1) (sa2 := sa2) hlt hA ht hF) ⟨callB_of 2 hts (xGood xm_X11_rule) rfl rfl rfl (hts _ xm_X11_rule.2.1) (hts _ wl_L_7) xm_X11_rule.2.2 hrm, hts _ xi_X11_rule, hts _ xe_X11_rule⟩ ⟨xPx.blind, ?_, fun U hU' hW => ⟨⟨rfl, by rw [hU']; exact hR, xK.warm hW hK⟩, by rw [hU']; exact vx_Zq.moved hW.alike hU, by rw [hU']; exact vx_Zq.moved hW.alike hN, vk_R.warm hW hs1, vk_R.warm hW hs2, rN.warm hW hNw⟩⟩ rfl rfl hsz rfl (by simpa using hW) hdg hf
    obtain ⟨r, q0, cell, q1, q2, q3, -⟩ := hR b _ ht
    exact ⟨cell, q1, by rw [q3]; rfl, by rw [q2]; exact (hK.1.1 11 _ rfl).2.1⟩
  intro T hT X
  rcases hr T hT X with ⟨v, st₀, t, T', L, z0, X', hL, e1, e2, ⟨k0, q1, q2, q3, q4⟩, st⟩ | ⟨q, st₀, t, T', L, E, ce, z0, X', hL, e1, e2, ⟨hE', r1, r2, r3⟩, hce, hcv, hcl, st⟩
  · cases q1
    obtain ⟨t2, a1, b1⟩ := kk k0 T'.heap (locs ++ L) (by rw [e1]; exact q2) (hE.E (by rw [e1, q3, z0]; exact Nat.le_refl _) (fun q _ hq => by rw [e1, q4 q hq, z0]) (fun q hq => by
      rcases List.mem_append.mp hq with h | h
      · exact hE.2.2 q h
      · exact hL q h)) T' rfl X'
    exact ⟨t2, st t2 a1, b1⟩
  · obtain ⟨t2, a1, b1⟩ := kx E ce q T'.heap (locs ++ L) hE' (by rw [e1]; exact r1) (hE.E (by rw [e1, ← z0]; exact r2) (fun q hq h0 => by rw [e1, r3 q (by rw [z0]; exact hq) h0, z0]) (fun q hq => by
      rcases List.mem_append.mp hq with h | h
      · exact hE.2.2 q h
      · exact hL q h)) (by rw [e1]; exact hce) hcv hcl T' rfl X'
    exact ⟨t2, st.trans a1, b1⟩
def lPc (D : xD) (ty : xTy) (h : xH) (av : List Value) (A : Nat → Prop) (sa1 sa2 : Nat) : Array Value → State → Prop := fun v U => xPx D ty h av A sa1 sa2 v U ∧ va_Nc "java/util/NoSuchElementException" "java/lang/IndexOutOfBoundsException" U
theorem lPc.blind {av : List Value} : FrameBlind (lPc D ty h av A sa1 sa2) := fun a U g mk q => ⟨xPx.blind a U g mk q.1, va_Nc.moved (u := U) (U := U.calling g mk a) (Vm.Alike.refl U.vm) q.2⟩
def lQ (D : xD) (ty : xTy) (h' : xH) (k : Int32) : Array Value → State → Outcome → State → Prop := fun _ st o t => o = .returned (some (.int k)) ∧ xRep D ty h' t.heap ∧ st.heap.size ≤ t.heap.size ∧ ∀ q : Nat, q < st.heap.size → ty q = none → t.heap[q]? = st.heap[q]?
abbrev jr_L_rule : Room := { frames := 7, cells := 1, slots := 6, locals := 105 }
set_option maxHeartbeats 4000000 in
set_option maxRecDepth 100000 in
theorem jc_L_rule {v3 : Nat} (hlt : l.stackTraces = false) (hA : ∀ q, ty q ≠ none → A q) (t_v0 : ty b = some (0, 11)) (t_v3 : ty v3 = some (4, 1)) (hF : jf_X11_rule ty h b v1 v2 = some (k, r)) : Met l yL_rule (Cond.codeWith yL_rule cL_rule 5 (some .int) hhL :: xT) jr_L_rule (lPc D ty h [.ref b, .int v1, .int v2, .ref v3] A sa1 sa2) (lQ D ty (if k = 0 then xsJ h v3 0 (Int32.toInt64 r) else h) k) 1 6 (xdom ty) := by
  refine va_MetW (hh := hhL) (by decide) rfl ?_
  intro p e s m args below meth c s₁ B hml hv
  obtain ⟨⟨⟨rfl, hR, hK⟩, hU, hN, hs1, hs2, hNw⟩, hNc⟩ := hv
  have hts := atoms_spec (ws := Cond.codeWith yL_rule cL_rule 5 (some .int) hhL :: xT) B.pre
  have htab := vx_table (x := yL_rule) B (hts _ List.mem_cons_self)
  have C0 : xC D RL cL_rule 5 (some .int) p s m ([.ref b, .int v1, .int v2, .ref v3] : List Value).toArray meth c := ⟨B.exec, B.bytes, hml, B.returns, B.notSynchronized, findClass_of_methodNamed B.named, fun w hw => hts w (List.mem_cons_of_mem _ hw), hK⟩
  show W p l e jr_L_rule s m ([.ref b, .int v1, .int v2, .ref v3] : List Value).toArray below meth c s.heap [] 0 0 (MQ below (lQ D ty (if k = 0 then xsJ h v3 0 (Int32.toInt64 r) else h) k) ([.ref b, .int v1, .int v2, .ref v3] : List Value).toArray s 1 6 (xdom ty)) (entryFrame m ([.ref b, .int v1, .int v2, .ref v3] : List Value).toArray 5)
  clear B hts
  generalize hargs : ([.ref b, .int v1, .int v2, .ref v3] : List Value).toArray = args at C0 ⊢
  have hx := C0.1
  have hb := C0.2.1
  have hr := C0.2.2.2.1
  have hlocks := C0.2.2.2.2.1
  have hown := C0.2.2.2.2.2.1
  have hts := C0.2.2.2.2.2.2.1
  have hE : xE ty s.heap s.heap [] := ⟨Nat.le_refl _, fun _ _ _ => rfl, fun _ h => absurd h List.not_mem_nil⟩
  have hl := lv_entry ([.ref b, .int v1, .int v2, .ref v3]) (n := 5) (Nat.le_of_ble_eq_true rfl)
  rw [← hargs, lg_entry_eq]
  rw [hargs]
  generalize (lg_sl ([.ref b, .int v1, .int v2, .ref v3]) ++ List.replicate (5 - (lg_sl ([.ref b, .int v1, .int v2, .ref v3])).length) Slot.unset).toArray = ls at hl ⊢
  have hl : lv_has ls 5 [(0, .ref b), (1, .int v1), (2, .int v2), (3, .ref v3)] := hl
  have fin : ∀ {H : Heap} {locs : List Loc} {h' : xH} {k : Int32} (ls : Array Slot) (pc : Nat), xRep D ty h' H → xE ty s.heap H locs → decode cL_rule pc = .ok (.ireturn, 1) → W p l e jr_L_rule s m args below meth c H locs 1 6 (MQ below (lQ D ty h' k) args s 1 6 (xdom ty)) (F0 m pc ls [.int k]) := fun ls pc h1 h2 hd => W.iret hx hb hr (fun t ht _ => ⟨rfl, by rw [ht]; exact h1, by rw [ht]; exact h2.1, fun q hq h0 => by rw [ht]; exact h2.2.1 q hq h0⟩) h2.2.2 hd
  refine lv_aload_n hx hb dL_rule_0 rfl (lv_at hl 3 rfl) ?_
  refine lv_iconst (v := 0) hx hb dL_rule_1 (by decide) ?_
  refine lv_aload_n hx hb dL_rule_2 rfl (lv_at hl 0 rfl) ?_
  refine lv_iload_n hx hb dL_rule_3 rfl (lv_at hl 1 rfl) ?_
  refine lv_iload_n hx hb dL_rule_4 rfl (lv_at hl 2 rfl) ?_
  refine x_callR C0 hlt hA t_v0 hF hR hU hN hs1 hs2 hNw hE ⟨Nat.le_of_ble_eq_true rfl, Nat.le_of_ble_eq_true rfl⟩ hl.1 (Nat.le_of_ble_eq_true rfl) ⟨Nat.le_of_ble_eq_true rfl, Nat.le_of_ble_eq_true rfl⟩ dL_rule_5 (fun E ce q9 H1 locs1 hk hR1 hE1 hce hcv hcl => ?_) (fun hk H1 locs1 hR1 hE1 => ?_)
  · rcases hk with ⟨rfl, rfl⟩ | ⟨rfl, rfl⟩
    · refine vx_catch hown [] ⟨0, 10, 13, 13⟩ [⟨0, 10, 17, 15⟩] htab (fun z hz => absurd hz List.not_mem_nil) (by decide) (by decide) (hts _ wc_L_13) (hNw_use hNw (by decide)) hce hcv hcl ?_
      refine lv_astore (lv' := [(4, .ref q9), (0, .ref b), (1, .int v1), (2, .int v2), (3, .ref v3)]) hx hb dL_rule_13 hl (by decide) rfl (fun ls hl => ?_)
      refine lv_iconst (v := 1) hx hb dL_rule_15 (by decide) ?_
      exact fin ls 16 hR1 hE1 dL_rule_16
    · refine vx_catch hown [⟨0, 10, 13, 13⟩] ⟨0, 10, 17, 15⟩ [] htab (fun z hz => ?_) (by decide) (by decide) (hts _ wc_L_15) (hNw_use hNw (by decide)) hce hcv hcl ?_
      · rcases List.mem_cons.mp hz with rfl | hz
        · exact Or.inr ⟨by decide, _, hts _ wc_L_13, hNc⟩
        · cases hz
      · refine lv_astore (lv' := [(4, .ref q9), (0, .ref b), (1, .int v1), (2, .int v2), (3, .ref v3)]) hx hb dL_rule_17 hl (by decide) rfl (fun ls hl => ?_)
        refine lv_iconst (v := 2) hx hb dL_rule_19 (by decide) ?_
        exact fin ls 20 hR1 hE1 dL_rule_20
  · subst hk
    rw [if_pos rfl]
    refine lv_i2l (v := Int32.toInt64 r) hx hb dL_rule_8 rfl ?_
    refine x_last (j := 0) C0 hR1 hE1.s t_v3 (by decide) (by decide) (by decide) dL_rule_9 (fun H2 locs2 hR2 hS2 => ?_)
    refine lv_goto (tgt := 21) hx hb dL_rule_10 (by decide) ?_
    refine lv_iconst (v := 0) hx hb dL_rule_21 (by decide) ?_
    exact fin ls 22 hR2 (hE1.S hS2) dL_rule_22
end LRULE

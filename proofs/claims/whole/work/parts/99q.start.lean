/-! THE START: the model's constructor whole; the class and the model as states of functions -/
section START
variable {p : Program} {l : Launch} {e : Env} {R : Room} {s : State} {m : MethodId} {args : Array Value} {below : List Frame} {meth : Method} {c : Code} {H H0 : Heap} {locs : List Loc} {cells slots : Nat} {Q : State → Prop}
variable {cc : ByteArray} {nL pc : Nat} {rt : Option FieldType} {own : String} {ls : Array Slot} {rest : List Value} {D : xD} {ty : xTy} {N n : Nat} {tR tP : List (Nat × Nat × Nat)} {tI tA : List (Nat × Nat × Int)}
variable {y : MethodName} {bytes : ByteArray} {maxL mc ms n2 c2 s2 index b k : Nat} {rm : Room} {As st0 : List Value}
theorem g_metQ {av : List Value} {Qc : Array Value → State → Outcome → State → Prop} {free : Addr → Prop} (hy : plainName y.cls = true) (hyn : y.name = "<init>")
    (body : ∀ p e s m below meth c, xC D y.cls bytes maxL none p s m av.toArray meth c → meth.name = "<init>" → va_AO RX7 s → xG D ty N n tR tI tP tA s.heap → W p l e rm s m av.toArray below meth c s.heap [] 0 0 (MQ below Qc av.toArray s mc ms free) (entryFrame m av.toArray maxL)) :
    Met l y (xws y bytes maxL none) rm (xPn D ty N n tR tI tP tA av) Qc mc ms free := by
  refine Met.ofW (cc := bytes) (maxL := maxL) (ret := none) hy rfl ?_
  intro p e s m args below meth c s₁ B hml hv
  obtain ⟨rfl, hR, hK, hAO⟩ := hv
  have hts := atoms_spec (ws := xws y bytes maxL none) B.pre
  exact body p e s m below meth c ⟨B.exec, B.bytes, hml, B.returns, B.notSynchronized, findClass_of_methodNamed B.named, fun w hw => hts w (List.mem_cons_of_mem _ hw), hK⟩ (by rw [← hyn]; exact (name_of_methodNamed B.named B.method).1) hAO hR
def g00 : Sg := gTx bk0 (fun _ => 0)
def xQm (D : xD) (N : Nat) : Array Value → State → Outcome → State → Prop := fun _ st o t => o = .returned none ∧ t.heap.size = N + 301 ∧ (∃ I A, xRep D (tyN (tyL N) (N + 301)) (rst (mmL N) (miL N) (hL N) (N + 273) I A (fun _ => 0)) t.heap ∧ RRep I A g00 ∧ I 2 = i32 0) ∧ ∀ q : Nat, q < N → t.heap[q]? = st.heap[q]?
set_option maxHeartbeats 4000000 in
set_option maxRecDepth 100000 in
theorem jn_X12 : Met l yX12_init (xws yX12_init cX12_init 1 none) jnr_X12 (xPn D (tyL N) N (273 + 1) rC iC pC [] [.ref (N + 273)]) (xQm D N) 27 14499 (xdom (tyN (tyL N) (N + 301))) := by
  refine g_metQ (by decide) rfl ?_
  intro p e s m below meth c C0 hnm hAO hG
  generalize hargs : ([.ref (N + 273)] : List Value).toArray = args at C0 ⊢
  have hx := C0.1
  have hb := C0.2.1
  have hlocks := C0.2.2.2.2.1
  have hl := lv_entry ([.ref (N + 273)]) (n := 1) (Nat.le_of_ble_eq_true rfl)
  rw [← hargs, lg_entry_eq]
  rw [hargs]
  generalize (lg_sl ([.ref (N + 273)]) ++ List.replicate (1 - (lg_sl ([.ref (N + 273)])).length) Slot.unset).toArray = ls at hl ⊢
  have hl : lv_has ls 1 [(0, .ref (N + 273))] := hl
  refine jh_X12 (b := 273) C0 hnm hT_12 hG hl (fun H locs hG hS => ?_)
  have H1 : MH (tyN (tyL N) (N + 301)) (N + 273) (mmL N) (miL N) (hL N) := MH_of (fun q h1 h2 => tyN_lt (by omega)) hL_r
  obtain ⟨I0, hI0⟩ : ∃ I0, I0 = (hL N).1 (N + 273) := ⟨_, rfl⟩
  obtain ⟨A0, hA0⟩ : ∃ A0, A0 = fun k => (hL N).2.2.1 (mmL N k) := ⟨_, rfl⟩
  have eself : rst (mmL N) (miL N) (hL N) (N + 273) I0 A0 (fun _ => 0) = hL N := by rw [hI0, hA0]; exact rst_self
  have hR : xRep D (tyN (tyL N) (N + 301)) (rst (mmL N) (miL N) (hL N) (N + 273) I0 A0 (fun _ => 0)) H := by rw [eself]; exact hG.2.1
  have i0 : ∀ k, k < 60 → I0 k = i32 (if k = 5 then -1 else 0) := fun k hk => by rw [hI0]; exact hL_i hk
  have w0 : ∀ k, k < 14 → A0 3 k = wordsR k := fun k hk => by rw [hA0]; exact hL_w k hk
  obtain ⟨I1, hI1⟩ : ∃ I1, I1 = fu (fu (fu I0 15 (i32 0)) 16 (i32 0)) 17 (i32 0) := ⟨_, rfl⟩
  have k1 : ∀ k, k ≠ 15 → k ≠ 16 → k ≠ 17 → I1 k = I0 k := fun k a b c => by rw [hI1, fu_ne _ _ c, fu_ne _ _ b, fu_ne _ _ a]
  have hpl : jf_X12_plain (tyN (tyL N) (N + 301)) (rst (mmL N) (miL N) (hL N) (N + 273) I0 A0 (fun _ => 0)) (N + 273) = some (rst (mmL N) (miL N) (hL N) (N + 273) I1 A0 (fun _ => 0)) := by
    unfold jf_X12_plain
    simp only [i32_lit, rsI, xbs]
    rw [hI1]
  have hB0 : RBr I1 A0 bk0 := by
    refine ⟨?_, ?_, ?_, fun k hk => absurd hk (Nat.not_lt_zero k), fun k hk => absurd hk (Nat.not_lt_zero k), fun k hk => absurd hk (Nat.not_lt_zero k)⟩
    · rw [hI1, fu_ne _ _ (by decide), fu_ne _ _ (by decide), fu_same]; rfl
    · rw [hI1, fu_ne _ _ (by decide), fu_same]; rfl
    · rw [hI1, fu_same]; rfl
  obtain ⟨I2, A2, u1, u2, u3, u4, u5⟩ := r_kpT (J := fun _ => 0) H1 bk0_wf hB0
  have hS0 : xS (tyN (tyL N) (N + 301)) H H locs := hG.S hS
  have j2 : ∀ k, k < 60 → k ∉ [12, 13, 14, 15, 16, 17, 26, 28, 56, 58] → I2 k = i32 (if k = 5 then -1 else 0) := fun k hk hn => by
    simp only [List.mem_cons, List.not_mem_nil, or_false, not_or] at hn
    rw [u4 k (by simp only [List.mem_cons, List.not_mem_nil, or_false]; omega), k1 k (by omega) (by omega) (by omega), i0 k hk]
  have hRR : RRep I2 A2 g00 := by
    refine ⟨u2, u3.1, ⟨seg_nil _ _, u3.2.1, ?_⟩, ⟨u3.2.2.1, seg_nil _ _⟩, ⟨u3.2.2.2, fun x hx => (by cases hx)⟩, ⟨?_, fun k hk => absurd hk (Nat.not_lt_zero k), ?_⟩, ?_, ?_⟩
    · rw [j2 41 (by decide) (by decide)]; rfl
    · rw [j2 1 (by decide) (by decide)]; rfl
    · rw [u5 3 (by decide)]; exact w0
    · rw [j2 4 (by decide) (by decide)]; rfl
    · rw [j2 5 (by decide) (by decide)]; rfl
  refine lv_aload_n hx hb dX12_init_310 rfl (lv_at hl 0 rfl) ?_
  refine cl_X12_95 C0 hR hS0 hpl H1.1 ⟨(Nat.le_of_ble_eq_true rfl), (Nat.le_of_ble_eq_true rfl)⟩ hl.1 (Nat.le_of_ble_eq_true rfl) ⟨(Nat.le_of_ble_eq_true rfl), (Nat.le_of_ble_eq_true rfl)⟩ dX12_init_311 (fun H2 locs2 hR2 hS2 => ?_)
  refine lv_aload_n hx hb dX12_init_314 rfl (lv_at hl 0 rfl) ?_
  refine cl_X12_98 C0 hR2 hS2 u1 H1.1 ⟨(Nat.le_of_ble_eq_true rfl), (Nat.le_of_ble_eq_true rfl)⟩ hl.1 (Nat.le_of_ble_eq_true rfl) ⟨(Nat.le_of_ble_eq_true rfl), (Nat.le_of_ble_eq_true rfl)⟩ dX12_init_315 (fun H3 locs3 hR3 hS3 => ?_)
  have hL3 := hG.go hS hS3
  exact W.vret hx hb C0.2.2.2.1 (fun t ht _ => ⟨rfl, by rw [ht, hS3.1]; exact hG.1, ⟨I2, A2, by rw [ht]; exact hR3, hRR, by rw [j2 2 (by decide) (by decide)]; rfl⟩, fun q hq => by rw [ht]; exact hL3.1 q hq⟩) hS3.2.2 dX12_init_318
theorem g_ctorQ (C0 : xC D own cc nL rt p s m args meth c) (hAO : va_AO RX7 s) {Qc : Array Value → State → Outcome → State → Prop} {free : Addr → Prop} (hM : Met l y (xws y bytes maxL none) rm (xPn D ty N n tR tI tP tA (.ref b :: As)) Qc mc ms free) (hm : xMw y bytes maxL none k) (hi : Cond.instanceMethod y ∈ xT) (hy : y.name = "<init>") (hl : Cond.methodLink own index y ∈ xT)
    (hrm : rm.cells = mc ∧ rm.slots = ms ∧ rm.frames + 1 ≤ R.frames ∧ 8 + (maxL + 11) + rm.locals ≤ R.locals) (hG : xG D ty N n tR tI tP tA H) (hc2 : c2 = cells + mc) (hs2 : s2 = slots + ms)
    (hn : As.length = k) (hsz : ls.size = nL) (hst : st0 = As.reverse ++ .ref b :: rest) (hW : (rest.map fun v => v.category).sum ≤ 8) (hf : c2 ≤ R.cells ∧ s2 ≤ R.slots) (hdg : decode cc pc = .ok (.invokespecial index, 3))
    (kk : ∀ (v : Option Value) (st t : State) (L : List Loc), st.heap = H → Qc (Value.ref b :: As).toArray st (.returned v) t → (∀ q ∈ L, free q.base) → W p l e R s m args below meth c t.heap (locs ++ L) c2 s2 Q (F0 m (pc + 3) ls (v.toList ++ rest))) : W p l e R s m args below meth c H locs cells slots Q (F0 m pc ls st0) := by
  subst hc2; subst hs2
  obtain ⟨hx, hb, hml, -, -, hown, hts, hK⟩ := C0
  have hr : va_Run p l e R s m args below meth c H locs cells slots mc ms (F0 m pc ls st0) rest (Qc (Value.ref b :: As).toArray) free := va_runI (Ts := xT) (own := own) (As := As) (rest := rest) ⟨hx, hb, hml, hown, hts⟩ hM ⟨callB_of k hts (xGood hm) rfl hrm.1 hrm.2.1 (hts _ hm.2.1) (hts _ hl) hm.2.2 hrm.2.2, hy, hts _ hi⟩ ⟨xPn.blind, fun U hU hW => ⟨rfl, by rw [hU]; exact hG, xK.warm hW hK, va_AO.moved hW.alike hAO⟩⟩ rfl hn hsz hst (by simpa using hW) hdg hf
  intro T hT X
  obtain ⟨v', st₀, t, T', L, z0, X', hL, e1, e2, hq, st⟩ := hr T hT X
  obtain ⟨t2, a1, b1⟩ := kk v' st₀ t L z0 hq hL T' e1 X'
  exact ⟨t2, st t2 a1, b1⟩
theorem g_ctorM (C0 : xC D own cc nL rt p s m args meth c) (hAO : va_AO RX7 s) (hl : Cond.methodLink own index yX12_init ∈ xT) (hrm : jnr_X12.frames + 1 ≤ R.frames ∧ 8 + (1 + 11) + jnr_X12.locals ≤ R.locals) (hG : xG D (tyL N) N (273 + 1) rC iC pC [] H) (hS : xL (tyL N) N (273 + 1) H0 H locs) (hc2 : c2 = cells + 27) (hs2 : s2 = slots + 14499)
    (hsz : ls.size = nL) (hW : (rest.map fun v => v.category).sum ≤ 8) (hf : c2 ≤ R.cells ∧ s2 ≤ R.slots) (hdg : decode cc pc = .ok (.invokespecial index, 3))
    (kk : ∀ (H1 : Heap) (locs1 : List Loc) (I : Nat → Int32) (A : Nat → Nat → Int32), H1.size = N + 301 → xRep D (tyN (tyL N) (N + 301)) (rst (mmL N) (miL N) (hL N) (N + 273) I A (fun _ => 0)) H1 → RRep I A g00 → I 2 = i32 0 → xL (tyL N) N 301 H0 H1 locs1 → W p l e R s m args below meth c H1 locs1 c2 s2 Q (F0 m (pc + 3) ls rest)) : W p l e R s m args below meth c H locs cells slots Q (F0 m pc ls (.ref (N + 273) :: rest)) := by
  refine g_ctorQ (As := []) (rest := rest) C0 hAO (jn_X12 (l := l) (D := D) (N := N)) xm_X12_init xi_X12_init rfl hl ⟨rfl, rfl, hrm⟩ hG hc2 hs2 rfl hsz rfl hW hf hdg (fun v st t L z0 hq hL => ?_)
  obtain ⟨q1, q2, ⟨I, A, q3, q4, q5⟩, q6⟩ := hq
  cases q1
  have hS2 := hS.up (n1 := 301) (H1 := H) (by omega) (fun _ _ => rfl)
  exact kk t.heap (locs ++ L) I A q2 q3 q4 q5 ⟨fun q hq => by rw [q6 q hq, z0]; exact hS.1 q hq, fun q hq => by
      rcases List.mem_append.mp hq with h | h
      · exact hS2.2 q h
      · exact hL q h⟩
theorem g_newJ (C0 : xC D own cc nL rt p s m args meth c) {h : xH} (hz : H.size = N + 301) (hR : xRep D (tyN (tyL N) (N + 301)) h H) (hJ : ∀ j, xJ h (N + 301) j = 0) (hS : xL (tyL N) N 301 H0 H locs) (hc2 : c2 = cells + 1) (hs2 : s2 = slots + 1) (hf : c2 ≤ R.cells ∧ s2 ≤ R.slots) (hdg : decode cc pc = .ok (.newarray .long, 2))
    (kk : ∀ H1 : Heap, xRep D (tyL N) h H1 → H1.size = N + 302 → xL (tyL N) N 302 H0 H1 locs → W p l e R s m args below meth c H1 locs c2 s2 Q (F0 m (pc + 2) ls (.ref (N + 301) :: rest))) : W p l e R s m args below meth c H locs cells slots Q (F0 m pc ls (.int 1 :: rest)) := by
  subst hc2; subst hs2
  obtain ⟨hx, hb, -, -, -, hown, hts, hK, -⟩ := C0
  refine va_newaK (atype := .long) (h := N + 301) (N := 1) hx hb (hts _ wA_long) rfl hdg rfl (by decide) (by decide) (Nat.le_of_ble_eq_true rfl) hf.1 hf.2 hz fun H1 cA e1 z1 o1 hAr hNm => ?_
  have hcA : cA = D.2.2.2.2 := Option.some.inj (hNm.symm.trans (hK.2 3 _ rfl).2)
  refine kk H1 (fun q u hq => ?_) z1 (hS.up (by omega) (fun q hq => o1 q (by omega)))
  rcases Nat.lt_or_ge q (N + 301) with h1 | h1
  · exact (hR q u (by rw [tyN_lt h1]; exact hq)).kept (o1 q h1) (fun _ => ⟨rfl, rfl, rfl, rfl, rfl⟩)
  · rcases Nat.lt_or_ge q (N + 302) with h2 | h2
    · have e : q = N + 301 := by omega
      subst e
      rw [tyL_at, show shL[301]? = some (4, 1) by decide +kernel] at hq
      cases hq
      show H1[N + 301]? = some (arrV D.2.2.2.2 1 (fun j => .long (xJ h (N + 301) j)))
      rw [e1, hcA]
      congr 2
      funext j
      rw [hJ j]
      rfl
    · rw [tyL_ge h2] at hq; cases hq
end START

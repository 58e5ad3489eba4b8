/-! THE LAW: a case of its switch each (written by gen6.py) -/
section LOPS
variable {p : Program} {l : Launch} {e : Env} {s : State} {m : MethodId} {args : Array Value} {below : List Frame} {meth : Method} {c : Code} {H H0 : Heap} {locs : List Loc} {cells slots : Nat} {Q : State → Prop}
variable {pc : Nat} {rt : Option FieldType} {ls : Array Slot} {rest : List Value} {D : xD} {b L N i : Nat} {xs : Nat → Int32}
theorem lc_feed (C0 : xC D RL cL_law 7 rt p s m args meth c) (hB : lB b L xs s N) (hW : lWd D N s H locs) (hl : lv_has ls 7 (lv5 b N (i32 (i : Nat)))) (hi : i + 6 ≤ L) (hL : L ≤ 3072) (hf : cells ≤ room_1.cells ∧ slots ≤ room_1.slots) (kk : ∀ (H1 : Heap) (locs1 : List Loc), lWd D N s H1 locs1 → W p l e room_1 s m args below meth c H1 locs1 cells slots Q (F0 m 1527 ls [])) : W p l e room_1 s m args below meth c H locs cells slots Q (F0 m 216 ls []) := by
  obtain ⟨h0, cs, I, A, J, g, hH, hg, hc, hr, hR, hE⟩ := hW
  have hx := C0.1
  have hb := C0.2.1
  obtain ⟨v, c1, I1, A1, J1, g1, w1, w2, w3, -, e1, e2⟩ := lo_feed (xs (i + 1)) (xs (i + 2)) (xs (i + 3)) (xs (i + 4)) (xs (i + 5)) h0 hH cs I A J g hg hc hr
  refine lv_aload_n hx hb dL_law_216 rfl (lv_at hl 1 rfl) ?_
  refine l_arg (k := 1) C0 hB hE hl hi hL (by decide) dL_law_217 dL_law_218 dL_law_220 dL_law_221 dL_law_222 ?_
  refine l_arg (k := 2) C0 hB hE hl hi hL (by decide) dL_law_223 dL_law_224 dL_law_226 dL_law_227 dL_law_228 ?_
  refine l_arg (k := 3) C0 hB hE hl hi hL (by decide) dL_law_229 dL_law_230 dL_law_232 dL_law_233 dL_law_234 ?_
  refine l_arg (k := 4) C0 hB hE hl hi hL (by decide) dL_law_235 dL_law_236 dL_law_238 dL_law_239 dL_law_240 ?_
  refine l_arg (k := 5) C0 hB hE hl hi hL (by decide) dL_law_241 dL_law_242 dL_law_244 dL_law_245 dL_law_246 ?_
  refine cl_L_21 C0 hR hE.s e1 ty11 ⟨Nat.le_of_ble_eq_true rfl, Nat.le_of_ble_eq_true rfl⟩ hl.1 (Nat.le_of_ble_eq_true rfl) hf dL_law_247 (fun H1 locs1 hR1 hS1 => ?_)
  have hE1 := hE.S hS1
  refine lv_aload_n hx hb dL_law_250 rfl (lv_at hl 2 rfl) ?_
  refine l_arg (k := 1) C0 hB hE1 hl hi hL (by decide) dL_law_251 dL_law_252 dL_law_254 dL_law_255 dL_law_256 ?_
  refine l_arg (k := 2) C0 hB hE1 hl hi hL (by decide) dL_law_257 dL_law_258 dL_law_260 dL_law_261 dL_law_262 ?_
  refine l_arg (k := 3) C0 hB hE1 hl hi hL (by decide) dL_law_263 dL_law_264 dL_law_266 dL_law_267 dL_law_268 ?_
  refine l_arg (k := 4) C0 hB hE1 hl hi hL (by decide) dL_law_269 dL_law_270 dL_law_272 dL_law_273 dL_law_274 ?_
  refine l_arg (k := 5) C0 hB hE1 hl hi hL (by decide) dL_law_275 dL_law_276 dL_law_278 dL_law_279 dL_law_280 ?_
  refine cl_L_25 C0 hR1 hE1.s e2 ty12 ⟨Nat.le_of_ble_eq_true rfl, Nat.le_of_ble_eq_true rfl⟩ hl.1 (Nat.le_of_ble_eq_true rfl) hf dL_law_281 (fun H2 locs2 hR2 hS2 => ?_)
  exact lv_icmp_eq (tgt := 1527) hx hb dL_law_284 (by decide) (fun _ => kk _ _ ⟨h0, c1, I1, A1, J1, g1, hH, w1, w2, w3, hR2, hE1.S hS2⟩) (fun z => absurd rfl z)
theorem lc_text (C0 : xC D RL cL_law 7 rt p s m args meth c) (hB : lB b L xs s N) (hW : lWd D N s H locs) (hl : lv_has ls 7 (lv5 b N (i32 (i : Nat)))) (hi : i + 6 ≤ L) (hL : L ≤ 3072) (hf : cells ≤ room_1.cells ∧ slots ≤ room_1.slots) (kk : ∀ (H1 : Heap) (locs1 : List Loc), lWd D N s H1 locs1 → W p l e room_1 s m args below meth c H1 locs1 cells slots Q (F0 m 1527 ls [])) : W p l e room_1 s m args below meth c H locs cells slots Q (F0 m 289 ls []) := by
  obtain ⟨h0, cs, I, A, J, g, hH, hg, hc, hr, hR, hE⟩ := hW
  have hx := C0.1
  have hb := C0.2.1
  obtain ⟨v, c1, I1, A1, J1, g1, w1, w2, w3, -, e1, e2⟩ := lo_text (xs (i + 1)) h0 hH cs I A J g hg hc hr
  refine lv_aload_n hx hb dL_law_289 rfl (lv_at hl 1 rfl) ?_
  refine l_arg (k := 1) C0 hB hE hl hi hL (by decide) dL_law_290 dL_law_291 dL_law_293 dL_law_294 dL_law_295 ?_
  refine cl_L_26 C0 hR hE.s e1 ty11 ⟨Nat.le_of_ble_eq_true rfl, Nat.le_of_ble_eq_true rfl⟩ hl.1 (Nat.le_of_ble_eq_true rfl) hf dL_law_296 (fun H1 locs1 hR1 hS1 => ?_)
  have hE1 := hE.S hS1
  refine lv_aload_n hx hb dL_law_299 rfl (lv_at hl 2 rfl) ?_
  refine l_arg (k := 1) C0 hB hE1 hl hi hL (by decide) dL_law_300 dL_law_301 dL_law_303 dL_law_304 dL_law_305 ?_
  refine cl_L_30 C0 hR1 hE1.s e2 ty12 ⟨Nat.le_of_ble_eq_true rfl, Nat.le_of_ble_eq_true rfl⟩ hl.1 (Nat.le_of_ble_eq_true rfl) hf dL_law_306 (fun H2 locs2 hR2 hS2 => ?_)
  exact lv_icmp_eq (tgt := 1527) hx hb dL_law_309 (by decide) (fun _ => kk _ _ ⟨h0, c1, I1, A1, J1, g1, hH, w1, w2, w3, hR2, hE1.S hS2⟩) (fun z => absurd rfl z)
theorem lc_query (C0 : xC D RL cL_law 7 rt p s m args meth c) (hB : lB b L xs s N) (hW : lWd D N s H locs) (hl : lv_has ls 7 (lv5 b N (i32 (i : Nat)))) (hi : i + 6 ≤ L) (hL : L ≤ 3072) (hf : cells ≤ room_1.cells ∧ slots ≤ room_1.slots) (kk : ∀ (H1 : Heap) (locs1 : List Loc), lWd D N s H1 locs1 → W p l e room_1 s m args below meth c H1 locs1 cells slots Q (F0 m 1527 ls [])) : W p l e room_1 s m args below meth c H locs cells slots Q (F0 m 314 ls []) := by
  obtain ⟨h0, cs, I, A, J, g, hH, hg, hc, hr, hR, hE⟩ := hW
  have hx := C0.1
  have hb := C0.2.1
  obtain ⟨v, c1, I1, A1, J1, g1, w1, w2, w3, -, e1, e2⟩ := lo_query (xs (i + 1)) h0 hH cs I A J g hg hc hr
  refine lv_aload_n hx hb dL_law_314 rfl (lv_at hl 1 rfl) ?_
  refine l_arg (k := 1) C0 hB hE hl hi hL (by decide) dL_law_315 dL_law_316 dL_law_318 dL_law_319 dL_law_320 ?_
  refine cl_L_31 C0 hR hE.s e1 ty11 ⟨Nat.le_of_ble_eq_true rfl, Nat.le_of_ble_eq_true rfl⟩ hl.1 (Nat.le_of_ble_eq_true rfl) hf dL_law_321 (fun H1 locs1 hR1 hS1 => ?_)
  have hE1 := hE.S hS1
  refine lv_aload_n hx hb dL_law_324 rfl (lv_at hl 2 rfl) ?_
  refine l_arg (k := 1) C0 hB hE1 hl hi hL (by decide) dL_law_325 dL_law_326 dL_law_328 dL_law_329 dL_law_330 ?_
  refine cl_L_34 C0 hR1 hE1.s e2 ty12 ⟨Nat.le_of_ble_eq_true rfl, Nat.le_of_ble_eq_true rfl⟩ hl.1 (Nat.le_of_ble_eq_true rfl) hf dL_law_331 (fun H2 locs2 hR2 hS2 => ?_)
  exact lv_icmp_eq (tgt := 1527) hx hb dL_law_334 (by decide) (fun _ => kk _ _ ⟨h0, c1, I1, A1, J1, g1, hH, w1, w2, w3, hR2, hE1.S hS2⟩) (fun z => absurd rfl z)
theorem lc_fault (C0 : xC D RL cL_law 7 rt p s m args meth c) (hB : lB b L xs s N) (hW : lWd D N s H locs) (hl : lv_has ls 7 (lv5 b N (i32 (i : Nat)))) (hi : i + 6 ≤ L) (hL : L ≤ 3072) (hf : cells ≤ room_1.cells ∧ slots ≤ room_1.slots) (kk : ∀ (H1 : Heap) (locs1 : List Loc), lWd D N s H1 locs1 → W p l e room_1 s m args below meth c H1 locs1 cells slots Q (F0 m 1527 ls [])) : W p l e room_1 s m args below meth c H locs cells slots Q (F0 m 339 ls []) := by
  obtain ⟨h0, cs, I, A, J, g, hH, hg, hc, hr, hR, hE⟩ := hW
  have hx := C0.1
  have hb := C0.2.1
  obtain ⟨v, I1, A1, w3, -, e1, e2⟩ := lo_fault (xs (i + 1)) h0 hH cs I A J g hg hc hr
  refine lv_aload_n hx hb dL_law_339 rfl (lv_at hl 1 rfl) ?_
  refine l_arg (k := 1) C0 hB hE hl hi hL (by decide) dL_law_340 dL_law_341 dL_law_343 dL_law_344 dL_law_345 ?_
  refine cl_L_35 C0 hR hE.s e1 ty11 ⟨Nat.le_of_ble_eq_true rfl, Nat.le_of_ble_eq_true rfl⟩ hl.1 (Nat.le_of_ble_eq_true rfl) hf dL_law_346 (fun H1 locs1 hR1 hS1 => ?_)
  have hE1 := hE.S hS1
  refine lv_aload_n hx hb dL_law_349 rfl (lv_at hl 2 rfl) ?_
  refine l_arg (k := 1) C0 hB hE1 hl hi hL (by decide) dL_law_350 dL_law_351 dL_law_353 dL_law_354 dL_law_355 ?_
  refine cl_L_38 C0 hR1 hE1.s e2 ty12 ⟨Nat.le_of_ble_eq_true rfl, Nat.le_of_ble_eq_true rfl⟩ hl.1 (Nat.le_of_ble_eq_true rfl) hf dL_law_356 (fun H2 locs2 hR2 hS2 => ?_)
  exact lv_icmp_eq (tgt := 1527) hx hb dL_law_359 (by decide) (fun _ => kk _ _ ⟨h0, cs, I1, A1, J, g, hH, hg, hc, w3, hR2, hE1.S hS2⟩) (fun z => absurd rfl z)
theorem lc_named (C0 : xC D RL cL_law 7 rt p s m args meth c) (hB : lB b L xs s N) (hW : lWd D N s H locs) (hl : lv_has ls 7 (lv5 b N (i32 (i : Nat)))) (hi : i + 6 ≤ L) (hL : L ≤ 3072) (hf : cells ≤ room_1.cells ∧ slots ≤ room_1.slots) (kk : ∀ (H1 : Heap) (locs1 : List Loc), lWd D N s H1 locs1 → W p l e room_1 s m args below meth c H1 locs1 cells slots Q (F0 m 1527 ls [])) : W p l e room_1 s m args below meth c H locs cells slots Q (F0 m 364 ls []) := by
  obtain ⟨h0, cs, I, A, J, g, hH, hg, hc, hr, hR, hE⟩ := hW
  have hx := C0.1
  have hb := C0.2.1
  obtain ⟨v, I1, A1, w3, -, e1, e2⟩ := lo_named (xs (i + 1)) (xs (i + 2)) h0 hH cs I A J g hg hc hr
  refine lv_aload_n hx hb dL_law_364 rfl (lv_at hl 1 rfl) ?_
  refine l_arg (k := 1) C0 hB hE hl hi hL (by decide) dL_law_365 dL_law_366 dL_law_368 dL_law_369 dL_law_370 ?_
  refine l_arg (k := 2) C0 hB hE hl hi hL (by decide) dL_law_371 dL_law_372 dL_law_374 dL_law_375 dL_law_376 ?_
  refine cl_L_39 C0 hR hE.s e1 ty11 ⟨Nat.le_of_ble_eq_true rfl, Nat.le_of_ble_eq_true rfl⟩ hl.1 (Nat.le_of_ble_eq_true rfl) hf dL_law_377 (fun H1 locs1 hR1 hS1 => ?_)
  have hE1 := hE.S hS1
  refine lv_aload_n hx hb dL_law_380 rfl (lv_at hl 2 rfl) ?_
  refine l_arg (k := 1) C0 hB hE1 hl hi hL (by decide) dL_law_381 dL_law_382 dL_law_384 dL_law_385 dL_law_386 ?_
  refine l_arg (k := 2) C0 hB hE1 hl hi hL (by decide) dL_law_387 dL_law_388 dL_law_390 dL_law_391 dL_law_392 ?_
  refine cl_L_42 C0 hR1 hE1.s e2 ty12 ⟨Nat.le_of_ble_eq_true rfl, Nat.le_of_ble_eq_true rfl⟩ hl.1 (Nat.le_of_ble_eq_true rfl) hf dL_law_393 (fun H2 locs2 hR2 hS2 => ?_)
  exact lv_icmp_eq (tgt := 1527) hx hb dL_law_396 (by decide) (fun _ => kk _ _ ⟨h0, cs, I1, A1, J, g, hH, hg, hc, w3, hR2, hE1.S hS2⟩) (fun z => absurd rfl z)
theorem lc_code (C0 : xC D RL cL_law 7 rt p s m args meth c) (hB : lB b L xs s N) (hW : lWd D N s H locs) (hl : lv_has ls 7 (lv5 b N (i32 (i : Nat)))) (hi : i + 6 ≤ L) (hL : L ≤ 3072) (hf : cells ≤ room_1.cells ∧ slots ≤ room_1.slots) (kk : ∀ (H1 : Heap) (locs1 : List Loc), lWd D N s H1 locs1 → W p l e room_1 s m args below meth c H1 locs1 cells slots Q (F0 m 1527 ls [])) : W p l e room_1 s m args below meth c H locs cells slots Q (F0 m 469 ls []) := by
  obtain ⟨h0, cs, I, A, J, g, hH, hg, hc, hr, hR, hE⟩ := hW
  have hx := C0.1
  have hb := C0.2.1
  by_cases h3 : xs (i + 3) = 0
  · obtain ⟨v, I1, A1, w3, -, e1, e2⟩ := lo_code (xs (i + 1)) (xs (i + 2)) 0 h0 hH cs I A J g hg hc hr
    refine lv_aload_n hx hb dL_law_469 rfl (lv_at hl 1 rfl) ?_
    refine l_arg (k := 1) C0 hB hE hl hi hL (by decide) dL_law_470 dL_law_471 dL_law_473 dL_law_474 dL_law_475 ?_
    refine l_arg (k := 2) C0 hB hE hl hi hL (by decide) dL_law_476 dL_law_477 dL_law_479 dL_law_480 dL_law_481 ?_
    refine l_arg (k := 3) C0 hB hE hl hi hL (by decide) dL_law_482 dL_law_483 dL_law_485 dL_law_486 dL_law_487 ?_
    refine lv_if_eq (tgt := 495) hx hb dL_law_488 (by decide) (fun _ => ?_) (fun z => absurd h3 z)
    refine lv_iconst (v := 0) hx hb dL_law_495 (by decide) ?_
    refine cl_L_53 C0 hR hE.s e1 ty11 ⟨Nat.le_of_ble_eq_true rfl, Nat.le_of_ble_eq_true rfl⟩ hl.1 (Nat.le_of_ble_eq_true rfl) hf dL_law_496 (fun H1 locs1 hR1 hS1 => ?_)
    have hE1 := hE.S hS1
    refine lv_aload_n hx hb dL_law_499 rfl (lv_at hl 2 rfl) ?_
    refine l_arg (k := 1) C0 hB hE1 hl hi hL (by decide) dL_law_500 dL_law_501 dL_law_503 dL_law_504 dL_law_505 ?_
    refine l_arg (k := 2) C0 hB hE1 hl hi hL (by decide) dL_law_506 dL_law_507 dL_law_509 dL_law_510 dL_law_511 ?_
    refine l_arg (k := 3) C0 hB hE1 hl hi hL (by decide) dL_law_512 dL_law_513 dL_law_515 dL_law_516 dL_law_517 ?_
    refine lv_if_eq (tgt := 525) hx hb dL_law_518 (by decide) (fun _ => ?_) (fun z => absurd h3 z)
    refine lv_iconst (v := 0) hx hb dL_law_525 (by decide) ?_
    refine cl_L_57 C0 hR1 hE1.s e2 ty12 ⟨Nat.le_of_ble_eq_true rfl, Nat.le_of_ble_eq_true rfl⟩ hl.1 (Nat.le_of_ble_eq_true rfl) hf dL_law_526 (fun H2 locs2 hR2 hS2 => ?_)
    exact lv_icmp_eq (tgt := 1527) hx hb dL_law_529 (by decide) (fun _ => kk _ _ ⟨h0, cs, I1, A1, J, g, hH, hg, hc, w3, hR2, hE1.S hS2⟩) (fun z => absurd rfl z)
  · obtain ⟨v, I1, A1, w3, -, e1, e2⟩ := lo_code (xs (i + 1)) (xs (i + 2)) 1 h0 hH cs I A J g hg hc hr
    refine lv_aload_n hx hb dL_law_469 rfl (lv_at hl 1 rfl) ?_
    refine l_arg (k := 1) C0 hB hE hl hi hL (by decide) dL_law_470 dL_law_471 dL_law_473 dL_law_474 dL_law_475 ?_
    refine l_arg (k := 2) C0 hB hE hl hi hL (by decide) dL_law_476 dL_law_477 dL_law_479 dL_law_480 dL_law_481 ?_
    refine l_arg (k := 3) C0 hB hE hl hi hL (by decide) dL_law_482 dL_law_483 dL_law_485 dL_law_486 dL_law_487 ?_
    refine lv_if_eq (tgt := 495) hx hb dL_law_488 (by decide) (fun z => absurd z h3) (fun _ => ?_)
    refine lv_iconst (v := 1) hx hb dL_law_491 (by decide) ?_
    refine lv_goto (tgt := 496) hx hb dL_law_492 (by decide) ?_
    refine cl_L_53 C0 hR hE.s e1 ty11 ⟨Nat.le_of_ble_eq_true rfl, Nat.le_of_ble_eq_true rfl⟩ hl.1 (Nat.le_of_ble_eq_true rfl) hf dL_law_496 (fun H1 locs1 hR1 hS1 => ?_)
    have hE1 := hE.S hS1
    refine lv_aload_n hx hb dL_law_499 rfl (lv_at hl 2 rfl) ?_
    refine l_arg (k := 1) C0 hB hE1 hl hi hL (by decide) dL_law_500 dL_law_501 dL_law_503 dL_law_504 dL_law_505 ?_
    refine l_arg (k := 2) C0 hB hE1 hl hi hL (by decide) dL_law_506 dL_law_507 dL_law_509 dL_law_510 dL_law_511 ?_
    refine l_arg (k := 3) C0 hB hE1 hl hi hL (by decide) dL_law_512 dL_law_513 dL_law_515 dL_law_516 dL_law_517 ?_
    refine lv_if_eq (tgt := 525) hx hb dL_law_518 (by decide) (fun z => absurd z h3) (fun _ => ?_)
    refine lv_iconst (v := 1) hx hb dL_law_521 (by decide) ?_
    refine lv_goto (tgt := 526) hx hb dL_law_522 (by decide) ?_
    refine cl_L_57 C0 hR1 hE1.s e2 ty12 ⟨Nat.le_of_ble_eq_true rfl, Nat.le_of_ble_eq_true rfl⟩ hl.1 (Nat.le_of_ble_eq_true rfl) hf dL_law_526 (fun H2 locs2 hR2 hS2 => ?_)
    exact lv_icmp_eq (tgt := 1527) hx hb dL_law_529 (by decide) (fun _ => kk _ _ ⟨h0, cs, I1, A1, J, g, hH, hg, hc, w3, hR2, hE1.S hS2⟩) (fun z => absurd rfl z)
theorem lc_skip (C0 : xC D RL cL_law 7 rt p s m args meth c) (hB : lB b L xs s N) (hW : lWd D N s H locs) (hl : lv_has ls 7 (lv5 b N (i32 (i : Nat)))) (hi : i + 6 ≤ L) (hL : L ≤ 3072) (hf : cells ≤ room_1.cells ∧ slots ≤ room_1.slots) (kk : ∀ (H1 : Heap) (locs1 : List Loc), lWd D N s H1 locs1 → W p l e room_1 s m args below meth c H1 locs1 cells slots Q (F0 m 1527 ls [])) : W p l e room_1 s m args below meth c H locs cells slots Q (F0 m 534 ls []) := by
  obtain ⟨h0, cs, I, A, J, g, hH, hg, hc, hr, hR, hE⟩ := hW
  have hx := C0.1
  have hb := C0.2.1
  obtain ⟨v, I1, A1, w3, -, e1, e2⟩ := lo_skip (xs (i + 1)) (xs (i + 2)) h0 hH cs I A J g hg hc hr
  refine lv_aload_n hx hb dL_law_534 rfl (lv_at hl 1 rfl) ?_
  refine l_arg (k := 1) C0 hB hE hl hi hL (by decide) dL_law_535 dL_law_536 dL_law_538 dL_law_539 dL_law_540 ?_
  refine l_arg (k := 2) C0 hB hE hl hi hL (by decide) dL_law_541 dL_law_542 dL_law_544 dL_law_545 dL_law_546 ?_
  refine cl_L_58 C0 hR hE.s e1 ty11 ⟨Nat.le_of_ble_eq_true rfl, Nat.le_of_ble_eq_true rfl⟩ hl.1 (Nat.le_of_ble_eq_true rfl) hf dL_law_547 (fun H1 locs1 hR1 hS1 => ?_)
  have hE1 := hE.S hS1
  refine lv_aload_n hx hb dL_law_550 rfl (lv_at hl 2 rfl) ?_
  refine l_arg (k := 1) C0 hB hE1 hl hi hL (by decide) dL_law_551 dL_law_552 dL_law_554 dL_law_555 dL_law_556 ?_
  refine l_arg (k := 2) C0 hB hE1 hl hi hL (by decide) dL_law_557 dL_law_558 dL_law_560 dL_law_561 dL_law_562 ?_
  refine cl_L_61 C0 hR1 hE1.s e2 ty12 ⟨Nat.le_of_ble_eq_true rfl, Nat.le_of_ble_eq_true rfl⟩ hl.1 (Nat.le_of_ble_eq_true rfl) hf dL_law_563 (fun H2 locs2 hR2 hS2 => ?_)
  exact lv_icmp_eq (tgt := 1527) hx hb dL_law_566 (by decide) (fun _ => kk _ _ ⟨h0, cs, I1, A1, J, g, hH, hg, hc, w3, hR2, hE1.S hS2⟩) (fun z => absurd rfl z)
theorem lc_asked (C0 : xC D RL cL_law 7 rt p s m args meth c) (hB : lB b L xs s N) (hW : lWd D N s H locs) (hl : lv_has ls 7 (lv5 b N (i32 (i : Nat)))) (hi : i + 6 ≤ L) (hL : L ≤ 3072) (hf : cells ≤ room_1.cells ∧ slots ≤ room_1.slots) (kk : ∀ (H1 : Heap) (locs1 : List Loc), lWd D N s H1 locs1 → W p l e room_1 s m args below meth c H1 locs1 cells slots Q (F0 m 1527 ls [])) : W p l e room_1 s m args below meth c H locs cells slots Q (F0 m 571 ls []) := by
  obtain ⟨h0, cs, I, A, J, g, hH, hg, hc, hr, hR, hE⟩ := hW
  have hx := C0.1
  have hb := C0.2.1
  obtain ⟨v, I1, A1, w3, -, e1, e2⟩ := lo_asked (xs (i + 1)) h0 hH cs I A J g hg hc hr
  refine lv_aload_n hx hb dL_law_571 rfl (lv_at hl 1 rfl) ?_
  refine l_arg (k := 1) C0 hB hE hl hi hL (by decide) dL_law_572 dL_law_573 dL_law_575 dL_law_576 dL_law_577 ?_
  refine cl_L_62 C0 hR hE.s e1 ty11 ⟨Nat.le_of_ble_eq_true rfl, Nat.le_of_ble_eq_true rfl⟩ hl.1 (Nat.le_of_ble_eq_true rfl) hf dL_law_578 (fun H1 locs1 hR1 hS1 => ?_)
  have hE1 := hE.S hS1
  refine lv_aload_n hx hb dL_law_581 rfl (lv_at hl 2 rfl) ?_
  refine l_arg (k := 1) C0 hB hE1 hl hi hL (by decide) dL_law_582 dL_law_583 dL_law_585 dL_law_586 dL_law_587 ?_
  refine cl_L_65 C0 hR1 hE1.s e2 ty12 ⟨Nat.le_of_ble_eq_true rfl, Nat.le_of_ble_eq_true rfl⟩ hl.1 (Nat.le_of_ble_eq_true rfl) hf dL_law_588 (fun H2 locs2 hR2 hS2 => ?_)
  exact lv_icmp_eq (tgt := 1527) hx hb dL_law_591 (by decide) (fun _ => kk _ _ ⟨h0, cs, I1, A1, J, g, hH, hg, hc, w3, hR2, hE1.S hS2⟩) (fun z => absurd rfl z)
theorem lc_take (C0 : xC D RL cL_law 7 rt p s m args meth c) (hB : lB b L xs s N) (hW : lWd D N s H locs) (hl : lv_has ls 7 (lv5 b N (i32 (i : Nat)))) (hi : i + 6 ≤ L) (hL : L ≤ 3072) (hf : cells ≤ room_1.cells ∧ slots ≤ room_1.slots) (kk : ∀ (H1 : Heap) (locs1 : List Loc), lWd D N s H1 locs1 → W p l e room_1 s m args below meth c H1 locs1 cells slots Q (F0 m 1527 ls [])) : W p l e room_1 s m args below meth c H locs cells slots Q (F0 m 596 ls []) := by
  obtain ⟨h0, cs, I, A, J, g, hH, hg, hc, hr, hR, hE⟩ := hW
  have hx := C0.1
  have hb := C0.2.1
  obtain ⟨v, c1, I1, A1, J1, g1, w1, w2, w3, -, e1, e2⟩ := lo_take (xs (i + 1)) h0 hH cs I A J g hg hc hr
  refine lv_aload_n hx hb dL_law_596 rfl (lv_at hl 1 rfl) ?_
  refine l_arg (k := 1) C0 hB hE hl hi hL (by decide) dL_law_597 dL_law_598 dL_law_600 dL_law_601 dL_law_602 ?_
  refine cl_L_66 C0 hR hE.s e1 ty11 ⟨Nat.le_of_ble_eq_true rfl, Nat.le_of_ble_eq_true rfl⟩ hl.1 (Nat.le_of_ble_eq_true rfl) hf dL_law_603 (fun H1 locs1 hR1 hS1 => ?_)
  have hE1 := hE.S hS1
  refine lv_aload_n hx hb dL_law_606 rfl (lv_at hl 2 rfl) ?_
  refine l_arg (k := 1) C0 hB hE1 hl hi hL (by decide) dL_law_607 dL_law_608 dL_law_610 dL_law_611 dL_law_612 ?_
  refine cl_L_69 C0 hR1 hE1.s e2 ty12 ⟨Nat.le_of_ble_eq_true rfl, Nat.le_of_ble_eq_true rfl⟩ hl.1 (Nat.le_of_ble_eq_true rfl) hf dL_law_613 (fun H2 locs2 hR2 hS2 => ?_)
  exact lv_icmp_eq (tgt := 1527) hx hb dL_law_616 (by decide) (fun _ => kk _ _ ⟨h0, c1, I1, A1, J1, g1, hH, w1, w2, w3, hR2, hE1.S hS2⟩) (fun z => absurd rfl z)
theorem lc_put (C0 : xC D RL cL_law 7 rt p s m args meth c) (hB : lB b L xs s N) (hW : lWd D N s H locs) (hl : lv_has ls 7 (lv5 b N (i32 (i : Nat)))) (hi : i + 6 ≤ L) (hL : L ≤ 3072) (hf : cells ≤ room_1.cells ∧ slots ≤ room_1.slots) (kk : ∀ (H1 : Heap) (locs1 : List Loc), lWd D N s H1 locs1 → W p l e room_1 s m args below meth c H1 locs1 cells slots Q (F0 m 1527 ls [])) : W p l e room_1 s m args below meth c H locs cells slots Q (F0 m 621 ls []) := by
  obtain ⟨h0, cs, I, A, J, g, hH, hg, hc, hr, hR, hE⟩ := hW
  have hx := C0.1
  have hb := C0.2.1
  obtain ⟨v, c1, I1, A1, J1, g1, w1, w2, w3, -, e1, e2⟩ := lo_put (xs (i + 1)) h0 hH cs I A J g hg hc hr
  refine lv_aload_n hx hb dL_law_621 rfl (lv_at hl 1 rfl) ?_
  refine l_arg (k := 1) C0 hB hE hl hi hL (by decide) dL_law_622 dL_law_623 dL_law_625 dL_law_626 dL_law_627 ?_
  refine cl_L_70 C0 hR hE.s e1 ty11 ⟨Nat.le_of_ble_eq_true rfl, Nat.le_of_ble_eq_true rfl⟩ hl.1 (Nat.le_of_ble_eq_true rfl) hf dL_law_628 (fun H1 locs1 hR1 hS1 => ?_)
  have hE1 := hE.S hS1
  refine lv_aload_n hx hb dL_law_631 rfl (lv_at hl 2 rfl) ?_
  refine l_arg (k := 1) C0 hB hE1 hl hi hL (by decide) dL_law_632 dL_law_633 dL_law_635 dL_law_636 dL_law_637 ?_
  refine cl_L_73 C0 hR1 hE1.s e2 ty12 ⟨Nat.le_of_ble_eq_true rfl, Nat.le_of_ble_eq_true rfl⟩ hl.1 (Nat.le_of_ble_eq_true rfl) hf dL_law_638 (fun H2 locs2 hR2 hS2 => ?_)
  exact lv_icmp_eq (tgt := 1527) hx hb dL_law_641 (by decide) (fun _ => kk _ _ ⟨h0, c1, I1, A1, J1, g1, hH, w1, w2, w3, hR2, hE1.S hS2⟩) (fun z => absurd rfl z)
end LOPS

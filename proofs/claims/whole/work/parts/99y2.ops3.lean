/-! THE LAW: a case of its switch each (written by gen6.py) -/
section LOPS
variable {p : Program} {l : Launch} {e : Env} {s : State} {m : MethodId} {args : Array Value} {below : List Frame} {meth : Method} {c : Code} {H H0 : Heap} {locs : List Loc} {cells slots : Nat} {Q : State → Prop}
variable {pc : Nat} {rt : Option FieldType} {ls : Array Slot} {rest : List Value} {D : xD} {b L N i : Nat} {xs : Nat → Int32}
theorem lc_width (C0 : xC D RL cL_law 7 rt p s m args meth c) (hB : lB b L xs s N) (hW : lWd D N s H locs) (hl : lv_has ls 7 (lv5 b N (i32 (i : Nat)))) (hi : i + 6 ≤ L) (hL : L ≤ 3072) (hf : cells ≤ room_1.cells ∧ slots ≤ room_1.slots) (kk : ∀ (H1 : Heap) (locs1 : List Loc), lWd D N s H1 locs1 → W p l e room_1 s m args below meth c H1 locs1 cells slots Q (F0 m 1527 ls [])) : W p l e room_1 s m args below meth c H locs cells slots Q (F0 m 1302 ls []) := by
  obtain ⟨h0, cs, I, A, J, g, hH, hg, hc, hr, hR, hE⟩ := hW
  have hx := C0.1
  have hb := C0.2.1
  obtain ⟨v, I1, A1, w3, -, e1, e2⟩ := lo_width (xs (i + 1)) h0 hH cs I A J g hg hc hr
  refine lv_aload_n hx hb dL_law_1302 rfl (lv_at hl 1 rfl) ?_
  refine l_arg (k := 1) C0 hB hE hl hi hL (by decide) dL_law_1303 dL_law_1304 dL_law_1306 dL_law_1307 dL_law_1308 ?_
  refine cl_L_156 C0 hR hE.s e1 ty11 ⟨Nat.le_of_ble_eq_true rfl, Nat.le_of_ble_eq_true rfl⟩ hl.1 (Nat.le_of_ble_eq_true rfl) hf dL_law_1309 (fun H1 locs1 hR1 hS1 => ?_)
  have hE1 := hE.S hS1
  refine lv_aload_n hx hb dL_law_1312 rfl (lv_at hl 2 rfl) ?_
  refine l_arg (k := 1) C0 hB hE1 hl hi hL (by decide) dL_law_1313 dL_law_1314 dL_law_1316 dL_law_1317 dL_law_1318 ?_
  refine cl_L_159 C0 hR1 hE1.s e2 ty12 ⟨Nat.le_of_ble_eq_true rfl, Nat.le_of_ble_eq_true rfl⟩ hl.1 (Nat.le_of_ble_eq_true rfl) hf dL_law_1319 (fun H2 locs2 hR2 hS2 => ?_)
  exact lv_icmp_eq (tgt := 1527) hx hb dL_law_1322 (by decide) (fun _ => kk _ _ ⟨h0, cs, I1, A1, J, g, hH, hg, hc, w3, hR2, hE1.S hS2⟩) (fun z => absurd rfl z)
theorem lc_order (C0 : xC D RL cL_law 7 rt p s m args meth c) (hB : lB b L xs s N) (hW : lWd D N s H locs) (hl : lv_has ls 7 (lv5 b N (i32 (i : Nat)))) (hi : i + 6 ≤ L) (hL : L ≤ 3072) (hf : cells ≤ room_1.cells ∧ slots ≤ room_1.slots) (kk : ∀ (H1 : Heap) (locs1 : List Loc), lWd D N s H1 locs1 → W p l e room_1 s m args below meth c H1 locs1 cells slots Q (F0 m 1527 ls [])) : W p l e room_1 s m args below meth c H locs cells slots Q (F0 m 1327 ls []) := by
  obtain ⟨h0, cs, I, A, J, g, hH, hg, hc, hr, hR, hE⟩ := hW
  have hx := C0.1
  have hb := C0.2.1
  obtain ⟨v, I1, A1, w3, -, e1, e2⟩ := lo_order (xs (i + 1)) h0 hH cs I A J g hg hc hr
  refine lv_aload_n hx hb dL_law_1327 rfl (lv_at hl 1 rfl) ?_
  refine l_arg (k := 1) C0 hB hE hl hi hL (by decide) dL_law_1328 dL_law_1329 dL_law_1331 dL_law_1332 dL_law_1333 ?_
  refine cl_L_160 C0 hR hE.s e1 ty11 ⟨Nat.le_of_ble_eq_true rfl, Nat.le_of_ble_eq_true rfl⟩ hl.1 (Nat.le_of_ble_eq_true rfl) hf dL_law_1334 (fun H1 locs1 hR1 hS1 => ?_)
  have hE1 := hE.S hS1
  refine lv_aload_n hx hb dL_law_1337 rfl (lv_at hl 2 rfl) ?_
  refine l_arg (k := 1) C0 hB hE1 hl hi hL (by decide) dL_law_1338 dL_law_1339 dL_law_1341 dL_law_1342 dL_law_1343 ?_
  refine cl_L_163 C0 hR1 hE1.s e2 ty12 ⟨Nat.le_of_ble_eq_true rfl, Nat.le_of_ble_eq_true rfl⟩ hl.1 (Nat.le_of_ble_eq_true rfl) hf dL_law_1344 (fun H2 locs2 hR2 hS2 => ?_)
  exact lv_icmp_eq (tgt := 1527) hx hb dL_law_1347 (by decide) (fun _ => kk _ _ ⟨h0, cs, I1, A1, J, g, hH, hg, hc, w3, hR2, hE1.S hS2⟩) (fun z => absurd rfl z)
theorem lc_chance (C0 : xC D RL cL_law 7 rt p s m args meth c) (hB : lB b L xs s N) (hW : lWd D N s H locs) (hl : lv_has ls 7 (lv5 b N (i32 (i : Nat)))) (hi : i + 6 ≤ L) (hL : L ≤ 3072) (hf : cells ≤ room_1.cells ∧ slots ≤ room_1.slots) (kk : ∀ (H1 : Heap) (locs1 : List Loc), lWd D N s H1 locs1 → W p l e room_1 s m args below meth c H1 locs1 cells slots Q (F0 m 1527 ls [])) : W p l e room_1 s m args below meth c H locs cells slots Q (F0 m 1352 ls []) := by
  obtain ⟨h0, cs, I, A, J, g, hH, hg, hc, hr, hR, hE⟩ := hW
  have hx := C0.1
  have hb := C0.2.1
  obtain ⟨v, c1, I1, A1, J1, g1, w1, w2, w3, -, e1, e2⟩ := lo_chance (xs (i + 1)) (xs (i + 2)) h0 hH cs I A J g hg hc hr
  refine lv_aload_n hx hb dL_law_1352 rfl (lv_at hl 1 rfl) ?_
  refine l_arg (k := 1) C0 hB hE hl hi hL (by decide) dL_law_1353 dL_law_1354 dL_law_1356 dL_law_1357 dL_law_1358 ?_
  refine l_arg (k := 2) C0 hB hE hl hi hL (by decide) dL_law_1359 dL_law_1360 dL_law_1362 dL_law_1363 dL_law_1364 ?_
  refine cl_L_164 C0 hR hE.s e1 ty11 ⟨Nat.le_of_ble_eq_true rfl, Nat.le_of_ble_eq_true rfl⟩ hl.1 (Nat.le_of_ble_eq_true rfl) hf dL_law_1365 (fun H1 locs1 hR1 hS1 => ?_)
  have hE1 := hE.S hS1
  refine lv_aload_n hx hb dL_law_1368 rfl (lv_at hl 2 rfl) ?_
  refine l_arg (k := 1) C0 hB hE1 hl hi hL (by decide) dL_law_1369 dL_law_1370 dL_law_1372 dL_law_1373 dL_law_1374 ?_
  refine l_arg (k := 2) C0 hB hE1 hl hi hL (by decide) dL_law_1375 dL_law_1376 dL_law_1378 dL_law_1379 dL_law_1380 ?_
  refine cl_L_167 C0 hR1 hE1.s e2 ty12 ⟨Nat.le_of_ble_eq_true rfl, Nat.le_of_ble_eq_true rfl⟩ hl.1 (Nat.le_of_ble_eq_true rfl) hf dL_law_1381 (fun H2 locs2 hR2 hS2 => ?_)
  exact lv_icmp_eq (tgt := 1527) hx hb dL_law_1384 (by decide) (fun _ => kk _ _ ⟨h0, c1, I1, A1, J1, g1, hH, w1, w2, w3, hR2, hE1.S hS2⟩) (fun z => absurd rfl z)
theorem lc_draw (C0 : xC D RL cL_law 7 rt p s m args meth c) (hB : lB b L xs s N) (hW : lWd D N s H locs) (hl : lv_has ls 7 (lv5 b N (i32 (i : Nat)))) (hi : i + 6 ≤ L) (hL : L ≤ 3072) (hf : cells ≤ room_1.cells ∧ slots ≤ room_1.slots) (kk : ∀ (H1 : Heap) (locs1 : List Loc), lWd D N s H1 locs1 → W p l e room_1 s m args below meth c H1 locs1 cells slots Q (F0 m 1527 ls [])) : W p l e room_1 s m args below meth c H locs cells slots Q (F0 m 1389 ls []) := by
  obtain ⟨h0, cs, I, A, J, g, hH, hg, hc, hr, hR, hE⟩ := hW
  have hx := C0.1
  have hb := C0.2.1
  obtain ⟨v, c1, I1, A1, J1, g1, w1, w2, w3, -, e1, e2⟩ := lo_draw (xs (i + 1)) h0 hH cs I A J g hg hc hr
  refine lv_aload_n hx hb dL_law_1389 rfl (lv_at hl 1 rfl) ?_
  refine l_arg (k := 1) C0 hB hE hl hi hL (by decide) dL_law_1390 dL_law_1391 dL_law_1393 dL_law_1394 dL_law_1395 ?_
  refine cl_L_168 C0 hR hE.s e1 ty11 ⟨Nat.le_of_ble_eq_true rfl, Nat.le_of_ble_eq_true rfl⟩ hl.1 (Nat.le_of_ble_eq_true rfl) hf dL_law_1396 (fun H1 locs1 hR1 hS1 => ?_)
  have hE1 := hE.S hS1
  refine lv_aload_n hx hb dL_law_1399 rfl (lv_at hl 2 rfl) ?_
  refine l_arg (k := 1) C0 hB hE1 hl hi hL (by decide) dL_law_1400 dL_law_1401 dL_law_1403 dL_law_1404 dL_law_1405 ?_
  refine cl_L_171 C0 hR1 hE1.s e2 ty12 ⟨Nat.le_of_ble_eq_true rfl, Nat.le_of_ble_eq_true rfl⟩ hl.1 (Nat.le_of_ble_eq_true rfl) hf dL_law_1406 (fun H2 locs2 hR2 hS2 => ?_)
  exact lv_icmp_eq (tgt := 1527) hx hb dL_law_1409 (by decide) (fun _ => kk _ _ ⟨h0, c1, I1, A1, J1, g1, hH, w1, w2, w3, hR2, hE1.S hS2⟩) (fun z => absurd rfl z)
theorem lc_tried (C0 : xC D RL cL_law 7 rt p s m args meth c) (hB : lB b L xs s N) (hW : lWd D N s H locs) (hl : lv_has ls 7 (lv5 b N (i32 (i : Nat)))) (hi : i + 6 ≤ L) (hL : L ≤ 3072) (hf : cells ≤ room_1.cells ∧ slots ≤ room_1.slots) (kk : ∀ (H1 : Heap) (locs1 : List Loc), lWd D N s H1 locs1 → W p l e room_1 s m args below meth c H1 locs1 cells slots Q (F0 m 1527 ls [])) : W p l e room_1 s m args below meth c H locs cells slots Q (F0 m 1414 ls []) := by
  obtain ⟨h0, cs, I, A, J, g, hH, hg, hc, hr, hR, hE⟩ := hW
  have hx := C0.1
  have hb := C0.2.1
  obtain ⟨v, c1, I1, A1, J1, g1, w1, w2, w3, -, e1, e2⟩ := lo_tried (xs (i + 1)) (xs (i + 2)) (xs (i + 3)) h0 hH cs I A J g hg hc hr
  refine lv_aload_n hx hb dL_law_1414 rfl (lv_at hl 1 rfl) ?_
  refine l_arg (k := 1) C0 hB hE hl hi hL (by decide) dL_law_1415 dL_law_1416 dL_law_1418 dL_law_1419 dL_law_1420 ?_
  refine l_arg (k := 2) C0 hB hE hl hi hL (by decide) dL_law_1421 dL_law_1422 dL_law_1424 dL_law_1425 dL_law_1426 ?_
  refine l_arg (k := 3) C0 hB hE hl hi hL (by decide) dL_law_1427 dL_law_1428 dL_law_1430 dL_law_1431 dL_law_1432 ?_
  refine cl_L_172 C0 hR hE.s e1 ty11 ⟨Nat.le_of_ble_eq_true rfl, Nat.le_of_ble_eq_true rfl⟩ hl.1 (Nat.le_of_ble_eq_true rfl) hf dL_law_1433 (fun H1 locs1 hR1 hS1 => ?_)
  have hE1 := hE.S hS1
  refine lv_aload_n hx hb dL_law_1436 rfl (lv_at hl 2 rfl) ?_
  refine l_arg (k := 1) C0 hB hE1 hl hi hL (by decide) dL_law_1437 dL_law_1438 dL_law_1440 dL_law_1441 dL_law_1442 ?_
  refine l_arg (k := 2) C0 hB hE1 hl hi hL (by decide) dL_law_1443 dL_law_1444 dL_law_1446 dL_law_1447 dL_law_1448 ?_
  refine l_arg (k := 3) C0 hB hE1 hl hi hL (by decide) dL_law_1449 dL_law_1450 dL_law_1452 dL_law_1453 dL_law_1454 ?_
  refine cl_L_175 C0 hR1 hE1.s e2 ty12 ⟨Nat.le_of_ble_eq_true rfl, Nat.le_of_ble_eq_true rfl⟩ hl.1 (Nat.le_of_ble_eq_true rfl) hf dL_law_1455 (fun H2 locs2 hR2 hS2 => ?_)
  exact lv_icmp_eq (tgt := 1527) hx hb dL_law_1458 (by decide) (fun _ => kk _ _ ⟨h0, c1, I1, A1, J1, g1, hH, w1, w2, w3, hR2, hE1.S hS2⟩) (fun z => absurd rfl z)
theorem lc_undo (C0 : xC D RL cL_law 7 rt p s m args meth c) (hB : lB b L xs s N) (hW : lWd D N s H locs) (hl : lv_has ls 7 (lv5 b N (i32 (i : Nat)))) (hi : i + 6 ≤ L) (hL : L ≤ 3072) (hf : cells ≤ room_1.cells ∧ slots ≤ room_1.slots) (kk : ∀ (H1 : Heap) (locs1 : List Loc), lWd D N s H1 locs1 → W p l e room_1 s m args below meth c H1 locs1 cells slots Q (F0 m 1527 ls [])) : W p l e room_1 s m args below meth c H locs cells slots Q (F0 m 1463 ls []) := by
  obtain ⟨h0, cs, I, A, J, g, hH, hg, hc, hr, hR, hE⟩ := hW
  have hx := C0.1
  have hb := C0.2.1
  obtain ⟨v, c1, I1, A1, J1, g1, w1, w2, w3, -, e1, e2⟩ := lo_undo  h0 hH cs I A J g hg hc hr
  refine lv_aload_n hx hb dL_law_1463 rfl (lv_at hl 1 rfl) ?_
  refine cl_L_176 C0 hR hE.s e1 ty11 ⟨Nat.le_of_ble_eq_true rfl, Nat.le_of_ble_eq_true rfl⟩ hl.1 (Nat.le_of_ble_eq_true rfl) hf dL_law_1464 (fun H1 locs1 hR1 hS1 => ?_)
  have hE1 := hE.S hS1
  refine lv_aload_n hx hb dL_law_1467 rfl (lv_at hl 2 rfl) ?_
  refine cl_L_179 C0 hR1 hE1.s e2 ty12 ⟨Nat.le_of_ble_eq_true rfl, Nat.le_of_ble_eq_true rfl⟩ hl.1 (Nat.le_of_ble_eq_true rfl) hf dL_law_1468 (fun H2 locs2 hR2 hS2 => ?_)
  exact lv_icmp_eq (tgt := 1527) hx hb dL_law_1471 (by decide) (fun _ => kk _ _ ⟨h0, c1, I1, A1, J1, g1, hH, w1, w2, w3, hR2, hE1.S hS2⟩) (fun z => absurd rfl z)
theorem lc_keep (C0 : xC D RL cL_law 7 rt p s m args meth c) (hB : lB b L xs s N) (hW : lWd D N s H locs) (hl : lv_has ls 7 (lv5 b N (i32 (i : Nat)))) (hi : i + 6 ≤ L) (hL : L ≤ 3072) (hf : cells ≤ room_1.cells ∧ slots ≤ room_1.slots) (kk : ∀ (H1 : Heap) (locs1 : List Loc), lWd D N s H1 locs1 → W p l e room_1 s m args below meth c H1 locs1 cells slots Q (F0 m 1527 ls [])) : W p l e room_1 s m args below meth c H locs cells slots Q (F0 m 1476 ls []) := by
  obtain ⟨h0, cs, I, A, J, g, hH, hg, hc, hr, hR, hE⟩ := hW
  have hx := C0.1
  have hb := C0.2.1
  obtain ⟨v, c1, I1, A1, J1, g1, w1, w2, w3, -, e1, e2⟩ := lo_keep  h0 hH cs I A J g hg hc hr
  refine lv_aload_n hx hb dL_law_1476 rfl (lv_at hl 1 rfl) ?_
  refine cl_L_180 C0 hR hE.s e1 ty11 ⟨Nat.le_of_ble_eq_true rfl, Nat.le_of_ble_eq_true rfl⟩ hl.1 (Nat.le_of_ble_eq_true rfl) hf dL_law_1477 (fun H1 locs1 hR1 hS1 => ?_)
  have hE1 := hE.S hS1
  refine lv_aload_n hx hb dL_law_1480 rfl (lv_at hl 2 rfl) ?_
  refine cl_L_183 C0 hR1 hE1.s e2 ty12 ⟨Nat.le_of_ble_eq_true rfl, Nat.le_of_ble_eq_true rfl⟩ hl.1 (Nat.le_of_ble_eq_true rfl) hf dL_law_1481 (fun H2 locs2 hR2 hS2 => ?_)
  exact lv_icmp_eq (tgt := 1527) hx hb dL_law_1484 (by decide) (fun _ => kk _ _ ⟨h0, c1, I1, A1, J1, g1, hH, w1, w2, w3, hR2, hE1.S hS2⟩) (fun z => absurd rfl z)
theorem lc_back (C0 : xC D RL cL_law 7 rt p s m args meth c) (hB : lB b L xs s N) (hW : lWd D N s H locs) (hl : lv_has ls 7 (lv5 b N (i32 (i : Nat)))) (hi : i + 6 ≤ L) (hL : L ≤ 3072) (hf : cells ≤ room_1.cells ∧ slots ≤ room_1.slots) (kk : ∀ (H1 : Heap) (locs1 : List Loc), lWd D N s H1 locs1 → W p l e room_1 s m args below meth c H1 locs1 cells slots Q (F0 m 1527 ls [])) : W p l e room_1 s m args below meth c H locs cells slots Q (F0 m 1489 ls []) := by
  obtain ⟨h0, cs, I, A, J, g, hH, hg, hc, hr, hR, hE⟩ := hW
  have hx := C0.1
  have hb := C0.2.1
  obtain ⟨v, c1, I1, A1, J1, g1, w1, w2, w3, -, e1, e2⟩ := lo_back  h0 hH cs I A J g hg hc hr
  refine lv_aload_n hx hb dL_law_1489 rfl (lv_at hl 1 rfl) ?_
  refine cl_L_184 C0 hR hE.s e1 ty11 ⟨Nat.le_of_ble_eq_true rfl, Nat.le_of_ble_eq_true rfl⟩ hl.1 (Nat.le_of_ble_eq_true rfl) hf dL_law_1490 (fun H1 locs1 hR1 hS1 => ?_)
  have hE1 := hE.S hS1
  refine lv_aload_n hx hb dL_law_1493 rfl (lv_at hl 2 rfl) ?_
  refine cl_L_187 C0 hR1 hE1.s e2 ty12 ⟨Nat.le_of_ble_eq_true rfl, Nat.le_of_ble_eq_true rfl⟩ hl.1 (Nat.le_of_ble_eq_true rfl) hf dL_law_1494 (fun H2 locs2 hR2 hS2 => ?_)
  exact lv_icmp_eq (tgt := 1527) hx hb dL_law_1497 (by decide) (fun _ => kk _ _ ⟨h0, c1, I1, A1, J1, g1, hH, w1, w2, w3, hR2, hE1.S hS2⟩) (fun z => absurd rfl z)
theorem lc_count (C0 : xC D RL cL_law 7 rt p s m args meth c) (hB : lB b L xs s N) (hW : lWd D N s H locs) (hl : lv_has ls 7 (lv5 b N (i32 (i : Nat)))) (hi : i + 6 ≤ L) (hL : L ≤ 3072) (hf : cells ≤ room_1.cells ∧ slots ≤ room_1.slots) (kk : ∀ (H1 : Heap) (locs1 : List Loc), lWd D N s H1 locs1 → W p l e room_1 s m args below meth c H1 locs1 cells slots Q (F0 m 1527 ls [])) : W p l e room_1 s m args below meth c H locs cells slots Q (F0 m 1502 ls []) := by
  obtain ⟨h0, cs, I, A, J, g, hH, hg, hc, hr, hR, hE⟩ := hW
  have hx := C0.1
  have hb := C0.2.1
  obtain ⟨v, I1, A1, w3, -, e1, e2⟩ := lo_count (xs (i + 1)) h0 hH cs I A J g hg hc hr
  refine lv_aload_n hx hb dL_law_1502 rfl (lv_at hl 1 rfl) ?_
  refine l_arg (k := 1) C0 hB hE hl hi hL (by decide) dL_law_1503 dL_law_1504 dL_law_1506 dL_law_1507 dL_law_1508 ?_
  refine cl_L_188 C0 hR hE.s e1 ty11 ⟨Nat.le_of_ble_eq_true rfl, Nat.le_of_ble_eq_true rfl⟩ hl.1 (Nat.le_of_ble_eq_true rfl) hf dL_law_1509 (fun H1 locs1 hR1 hS1 => ?_)
  have hE1 := hE.S hS1
  refine lv_aload_n hx hb dL_law_1512 rfl (lv_at hl 2 rfl) ?_
  refine l_arg (k := 1) C0 hB hE1 hl hi hL (by decide) dL_law_1513 dL_law_1514 dL_law_1516 dL_law_1517 dL_law_1518 ?_
  refine cl_L_191 C0 hR1 hE1.s e2 ty12 ⟨Nat.le_of_ble_eq_true rfl, Nat.le_of_ble_eq_true rfl⟩ hl.1 (Nat.le_of_ble_eq_true rfl) hf dL_law_1519 (fun H2 locs2 hR2 hS2 => ?_)
  exact lv_icmp_eq (tgt := 1527) hx hb dL_law_1522 (by decide) (fun _ => kk _ _ ⟨h0, cs, I1, A1, J, g, hH, hg, hc, w3, hR2, hE1.S hS2⟩) (fun z => absurd rfl z)
end LOPS

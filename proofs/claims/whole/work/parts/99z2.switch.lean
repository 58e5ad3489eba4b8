/-! THE LAW: its loop -/
theorem and63 (x : Int32) : ∃ n : Nat, n < 64 ∧ x &&& i32 63 = i32 n := by
  refine ⟨x.toBitVec.toNat % 2 ^ 6, Nat.mod_lt _ (by decide), b_ext (fun i hi => ?_)⟩
  rw [b_and, show (i32 63 : Int32) = i32 ((63 : Nat) : Int) from rfl, bt_i _ hi, bt_i _ hi, show (63 : Nat) = 2 ^ 6 - 1 from rfl, Nat.testBit_two_pow_sub_one, Nat.testBit_mod_two_pow, Bool.and_comm]
  rfl
section LLOOP
variable {p : Program} {l : Launch} {e : Env} {s : State} {m : MethodId} {args : Array Value} {below : List Frame} {meth : Method} {c : Code} {H H0 : Heap} {locs : List Loc} {cells slots : Nat} {Q : State → Prop}
variable {pc : Nat} {rt : Option FieldType} {ls : Array Slot} {rest : List Value} {D : xD} {b L N i : Nat} {xs : Nat → Int32}
variable {sa1 sa2 : Nat}
set_option maxHeartbeats 4000000 in
set_option maxRecDepth 10000 in
theorem l_switch (C0 : xC D RL cL_law 7 rt p s m args meth c) (hlt : l.stackTraces = false) (hXw : lXw s sa1 sa2) (hB : lB b L xs s N) (hW : lWd D N s H locs) (hl : lv_has ls 7 (lv5 b N (i32 (i : Nat)))) (hi : i + 6 ≤ L) (hL : L ≤ 3072) (hf : cells + 1 ≤ room_1.cells ∧ slots + 6 ≤ room_1.slots)
    (kk : ∀ (ls1 : Array Slot) (H1 : Heap) (locs1 : List Loc), lv_has ls1 7 (lv5 b N (i32 (i : Nat))) → lWd D N s H1 locs1 → W p l e room_1 s m args below meth c H1 locs1 (cells + 1) (slots + 6) Q (F0 m 1527 ls1 [])) (j : Nat) (hj : j < 64) : W p l e room_1 s m args below meth c H locs cells slots Q (F0 m 40 ls [.int (i32 (j : Nat))]) := by
  have hx := C0.1
  have hb := C0.2.1
  have hf0 : cells ≤ room_1.cells ∧ slots ≤ room_1.slots := ⟨by omega, by omega⟩
  have k0 : ∀ (H1 : Heap) (locs1 : List Loc), lWd D N s H1 locs1 → W p l e room_1 s m args below meth c H1 locs1 cells slots Q (F0 m 1527 ls []) := fun H1 locs1 h => W.widen (by omega) (by omega) (kk ls H1 locs1 hl h)
  match j, hj with
  | 0, _ => exact lv_tableIn (off := 176) (tgt := 216) hx hb dL_law_40 (by decide +kernel) (by decide +kernel) (by decide +kernel) (by decide) (lc_feed C0 hB hW hl hi hL hf0 k0)
  | 1, _ => exact lv_tableIn (off := 249) (tgt := 289) hx hb dL_law_40 (by decide +kernel) (by decide +kernel) (by decide +kernel) (by decide) (lc_text C0 hB hW hl hi hL hf0 k0)
  | 2, _ => exact lv_tableIn (off := 274) (tgt := 314) hx hb dL_law_40 (by decide +kernel) (by decide +kernel) (by decide +kernel) (by decide) (lc_query C0 hB hW hl hi hL hf0 k0)
  | 3, _ => exact lv_tableIn (off := 299) (tgt := 339) hx hb dL_law_40 (by decide +kernel) (by decide +kernel) (by decide +kernel) (by decide) (lc_fault C0 hB hW hl hi hL hf0 k0)
  | 4, _ => exact lv_tableIn (off := 324) (tgt := 364) hx hb dL_law_40 (by decide +kernel) (by decide +kernel) (by decide +kernel) (by decide) (lc_named C0 hB hW hl hi hL hf0 k0)
  | 5, _ => exact lv_tableIn (off := 361) (tgt := 401) hx hb dL_law_40 (by decide +kernel) (by decide +kernel) (by decide +kernel) (by decide) (lc_rule C0 hlt hXw hB hW hl hi hL hf kk)
  | 6, _ => exact lv_tableIn (off := 429) (tgt := 469) hx hb dL_law_40 (by decide +kernel) (by decide +kernel) (by decide +kernel) (by decide) (lc_code C0 hB hW hl hi hL hf0 k0)
  | 7, _ => exact lv_tableIn (off := 494) (tgt := 534) hx hb dL_law_40 (by decide +kernel) (by decide +kernel) (by decide +kernel) (by decide) (lc_skip C0 hB hW hl hi hL hf0 k0)
  | 8, _ => exact lv_tableIn (off := 531) (tgt := 571) hx hb dL_law_40 (by decide +kernel) (by decide +kernel) (by decide +kernel) (by decide) (lc_asked C0 hB hW hl hi hL hf0 k0)
  | 9, _ => exact lv_tableIn (off := 556) (tgt := 596) hx hb dL_law_40 (by decide +kernel) (by decide +kernel) (by decide +kernel) (by decide) (lc_take C0 hB hW hl hi hL hf0 k0)
  | 10, _ => exact lv_tableIn (off := 581) (tgt := 621) hx hb dL_law_40 (by decide +kernel) (by decide +kernel) (by decide +kernel) (by decide) (lc_put C0 hB hW hl hi hL hf0 k0)
  | 11, _ => exact lv_tableIn (off := 606) (tgt := 646) hx hb dL_law_40 (by decide +kernel) (by decide +kernel) (by decide +kernel) (by decide) (lc_fits C0 hB hW hl hi hL hf0 k0)
  | 12, _ => exact lv_tableIn (off := 643) (tgt := 683) hx hb dL_law_40 (by decide +kernel) (by decide +kernel) (by decide +kernel) (by decide) (lc_found C0 hB hW hl hi hL hf0 k0)
  | 13, _ => exact lv_tableIn (off := 680) (tgt := 720) hx hb dL_law_40 (by decide +kernel) (by decide +kernel) (by decide +kernel) (by decide) (lc_finding C0 hB hW hl hi hL hf0 k0)
  | 14, _ => exact lv_tableIn (off := 717) (tgt := 757) hx hb dL_law_40 (by decide +kernel) (by decide +kernel) (by decide +kernel) (by decide) (lc_filled C0 hB hW hl hi hL hf0 k0)
  | 15, _ => exact lv_tableIn (off := 766) (tgt := 806) hx hb dL_law_40 (by decide +kernel) (by decide +kernel) (by decide +kernel) (by decide) (lc_meeting C0 hB hW hl hi hL hf0 k0)
  | 16, _ => exact lv_tableIn (off := 803) (tgt := 843) hx hb dL_law_40 (by decide +kernel) (by decide +kernel) (by decide +kernel) (by decide) (lc_above C0 hB hW hl hi hL hf0 k0)
  | 17, _ => exact lv_tableIn (off := 828) (tgt := 868) hx hb dL_law_40 (by decide +kernel) (by decide +kernel) (by decide +kernel) (by decide) (lc_shadowed C0 hB hW hl hi hL hf0 k0)
  | 18, _ => exact lv_tableIn (off := 841) (tgt := 881) hx hb dL_law_40 (by decide +kernel) (by decide +kernel) (by decide +kernel) (by decide) (lc_joined C0 hB hW hl hi hL hf0 k0)
  | 19, _ => exact lv_tableIn (off := 890) (tgt := 930) hx hb dL_law_40 (by decide +kernel) (by decide +kernel) (by decide +kernel) (by decide) (lc_overlaps C0 hB hW hl hi hL hf0 k0)
  | 20, _ => exact lv_tableIn (off := 927) (tgt := 967) hx hb dL_law_40 (by decide +kernel) (by decide +kernel) (by decide +kernel) (by decide) (lc_shared C0 hB hW hl hi hL hf0 k0)
  | 21, _ => exact lv_tableIn (off := 964) (tgt := 1004) hx hb dL_law_40 (by decide +kernel) (by decide +kernel) (by decide +kernel) (by decide) (lc_critical C0 hB hW hl hi hL hf0 k0)
  | 22, _ => exact lv_tableIn (off := 1025) (tgt := 1065) hx hb dL_law_40 (by decide +kernel) (by decide +kernel) (by decide +kernel) (by decide) (lc_criticals C0 hB hW hl hi hL hf0 k0)
  | 23, _ => exact lv_tableIn (off := 1038) (tgt := 1078) hx hb dL_law_40 (by decide +kernel) (by decide +kernel) (by decide +kernel) (by decide) (lc_depth C0 hB hW hl hi hL hf0 k0)
  | 24, _ => exact lv_tableIn (off := 1063) (tgt := 1103) hx hb dL_law_40 (by decide +kernel) (by decide +kernel) (by decide +kernel) (by decide) (lc_specific C0 hB hW hl hi hL hf0 k0)
  | 25, _ => exact lv_tableIn (off := 1088) (tgt := 1128) hx hb dL_law_40 (by decide +kernel) (by decide +kernel) (by decide +kernel) (by decide) (lc_branch C0 hB hW hl hi hL hf0 k0)
  | 26, _ => exact lv_tableIn (off := 1125) (tgt := 1165) hx hb dL_law_40 (by decide +kernel) (by decide +kernel) (by decide +kernel) (by decide) (lc_tops C0 hB hW hl hi hL hf0 k0)
  | 27, _ => exact lv_tableIn (off := 1138) (tgt := 1178) hx hb dL_law_40 (by decide +kernel) (by decide +kernel) (by decide +kernel) (by decide) (lc_beside C0 hB hW hl hi hL hf0 k0)
  | 28, _ => exact lv_tableIn (off := 1187) (tgt := 1227) hx hb dL_law_40 (by decide +kernel) (by decide +kernel) (by decide +kernel) (by decide) (lc_steps C0 hB hW hl hi hL hf0 k0)
  | 29, _ => exact lv_tableIn (off := 1212) (tgt := 1252) hx hb dL_law_40 (by decide +kernel) (by decide +kernel) (by decide +kernel) (by decide) (lc_normal C0 hB hW hl hi hL hf0 k0)
  | 30, _ => exact lv_tableIn (off := 1237) (tgt := 1277) hx hb dL_law_40 (by decide +kernel) (by decide +kernel) (by decide +kernel) (by decide) (lc_apart C0 hB hW hl hi hL hf0 k0)
  | 31, _ => exact lv_tableIn (off := 1262) (tgt := 1302) hx hb dL_law_40 (by decide +kernel) (by decide +kernel) (by decide +kernel) (by decide) (lc_width C0 hB hW hl hi hL hf0 k0)
  | 32, _ => exact lv_tableIn (off := 1287) (tgt := 1327) hx hb dL_law_40 (by decide +kernel) (by decide +kernel) (by decide +kernel) (by decide) (lc_order C0 hB hW hl hi hL hf0 k0)
  | 33, _ => exact lv_tableIn (off := 1312) (tgt := 1352) hx hb dL_law_40 (by decide +kernel) (by decide +kernel) (by decide +kernel) (by decide) (lc_chance C0 hB hW hl hi hL hf0 k0)
  | 34, _ => exact lv_tableIn (off := 1349) (tgt := 1389) hx hb dL_law_40 (by decide +kernel) (by decide +kernel) (by decide +kernel) (by decide) (lc_draw C0 hB hW hl hi hL hf0 k0)
  | 35, _ => exact lv_tableIn (off := 1374) (tgt := 1414) hx hb dL_law_40 (by decide +kernel) (by decide +kernel) (by decide +kernel) (by decide) (lc_tried C0 hB hW hl hi hL hf0 k0)
  | 36, _ => exact lv_tableIn (off := 1423) (tgt := 1463) hx hb dL_law_40 (by decide +kernel) (by decide +kernel) (by decide +kernel) (by decide) (lc_undo C0 hB hW hl hi hL hf0 k0)
  | 37, _ => exact lv_tableIn (off := 1436) (tgt := 1476) hx hb dL_law_40 (by decide +kernel) (by decide +kernel) (by decide +kernel) (by decide) (lc_keep C0 hB hW hl hi hL hf0 k0)
  | 38, _ => exact lv_tableIn (off := 1449) (tgt := 1489) hx hb dL_law_40 (by decide +kernel) (by decide +kernel) (by decide +kernel) (by decide) (lc_back C0 hB hW hl hi hL hf0 k0)
  | 39, _ => exact lv_tableIn (off := 1462) (tgt := 1502) hx hb dL_law_40 (by decide +kernel) (by decide +kernel) (by decide +kernel) (by decide) (lc_count C0 hB hW hl hi hL hf0 k0)
  | j + 40, hj =>
    have e : (i32 ((j + 40 : Nat) : Int)).toInt = ((j + 40 : Nat) : Int) := i32_toInt (by omega) (by omega)
    exact lv_tableOut (tgt := 1527) hx hb dL_law_40 (Or.inr (by rw [e]; omega)) (by decide) (k0 _ _ hW)
end LLOOP

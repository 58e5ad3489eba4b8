/-! THE LAW: a case of its switch each (written by gen6.py) -/
section LOPS
variable {p : Program} {l : Launch} {e : Env} {s : State} {m : MethodId} {args : Array Value} {below : List Frame} {meth : Method} {c : Code} {H H0 : Heap} {locs : List Loc} {cells slots : Nat} {Q : State → Prop}
variable {pc : Nat} {rt : Option FieldType} {ls : Array Slot} {rest : List Value} {D : xD} {b L N i : Nat} {xs : Nat → Int32}
theorem lc_critical (C0 : xC D RL cL_law 7 rt p s m args meth c) (hB : lB b L xs s N) (hW : lWd D N s H locs) (hl : lv_has ls 7 (lv5 b N (i32 (i : Nat)))) (hi : i + 6 ≤ L) (hL : L ≤ 3072) (hf : cells ≤ room_1.cells ∧ slots ≤ room_1.slots) (kk : ∀ (H1 : Heap) (locs1 : List Loc), lWd D N s H1 locs1 → W p l e room_1 s m args below meth c H1 locs1 cells slots Q (F0 m 1527 ls [])) : W p l e room_1 s m args below meth c H locs cells slots Q (F0 m 1004 ls []) := by
  obtain ⟨h0, cs, I, A, J, g, hH, hg, hc, hr, hR, hE⟩ := hW
  have hx := C0.1
  have hb := C0.2.1
  obtain ⟨v, c1, I1, A1, J1, g1, w1, w2, w3, -, e1, e2⟩ := lo_critical (xs (i + 1)) (xs (i + 2)) (xs (i + 3)) (xs (i + 4)) h0 hH cs I A J g hg hc hr
  refine lv_aload_n hx hb dL_law_1004 rfl (lv_at hl 1 rfl) ?_
  refine l_arg (k := 1) C0 hB hE hl hi hL (by decide) dL_law_1005 dL_law_1006 dL_law_1008 dL_law_1009 dL_law_1010 ?_
  refine l_arg (k := 2) C0 hB hE hl hi hL (by decide) dL_law_1011 dL_law_1012 dL_law_1014 dL_law_1015 dL_law_1016 ?_
  refine l_arg (k := 3) C0 hB hE hl hi hL (by decide) dL_law_1017 dL_law_1018 dL_law_1020 dL_law_1021 dL_law_1022 ?_
  refine l_arg (k := 4) C0 hB hE hl hi hL (by decide) dL_law_1023 dL_law_1024 dL_law_1026 dL_law_1027 dL_law_1028 ?_
  refine cl_L_115 C0 hR hE.s e1 ty11 ⟨Nat.le_of_ble_eq_true rfl, Nat.le_of_ble_eq_true rfl⟩ hl.1 (Nat.le_of_ble_eq_true rfl) hf dL_law_1029 (fun H1 locs1 hR1 hS1 => ?_)
  have hE1 := hE.S hS1
  refine lv_aload_n hx hb dL_law_1032 rfl (lv_at hl 2 rfl) ?_
  refine l_arg (k := 1) C0 hB hE1 hl hi hL (by decide) dL_law_1033 dL_law_1034 dL_law_1036 dL_law_1037 dL_law_1038 ?_
  refine l_arg (k := 2) C0 hB hE1 hl hi hL (by decide) dL_law_1039 dL_law_1040 dL_law_1042 dL_law_1043 dL_law_1044 ?_
  refine l_arg (k := 3) C0 hB hE1 hl hi hL (by decide) dL_law_1045 dL_law_1046 dL_law_1048 dL_law_1049 dL_law_1050 ?_
  refine l_arg (k := 4) C0 hB hE1 hl hi hL (by decide) dL_law_1051 dL_law_1052 dL_law_1054 dL_law_1055 dL_law_1056 ?_
  refine cl_L_119 C0 hR1 hE1.s e2 ty12 ⟨Nat.le_of_ble_eq_true rfl, Nat.le_of_ble_eq_true rfl⟩ hl.1 (Nat.le_of_ble_eq_true rfl) hf dL_law_1057 (fun H2 locs2 hR2 hS2 => ?_)
  exact lv_icmp_eq (tgt := 1527) hx hb dL_law_1060 (by decide) (fun _ => kk _ _ ⟨h0, c1, I1, A1, J1, g1, hH, w1, w2, w3, hR2, hE1.S hS2⟩) (fun z => absurd rfl z)
theorem lc_criticals (C0 : xC D RL cL_law 7 rt p s m args meth c) (hB : lB b L xs s N) (hW : lWd D N s H locs) (hl : lv_has ls 7 (lv5 b N (i32 (i : Nat)))) (hi : i + 6 ≤ L) (hL : L ≤ 3072) (hf : cells ≤ room_1.cells ∧ slots ≤ room_1.slots) (kk : ∀ (H1 : Heap) (locs1 : List Loc), lWd D N s H1 locs1 → W p l e room_1 s m args below meth c H1 locs1 cells slots Q (F0 m 1527 ls [])) : W p l e room_1 s m args below meth c H locs cells slots Q (F0 m 1065 ls []) := by
  obtain ⟨h0, cs, I, A, J, g, hH, hg, hc, hr, hR, hE⟩ := hW
  have hx := C0.1
  have hb := C0.2.1
  obtain ⟨v, c1, I1, A1, J1, g1, w1, w2, w3, -, e1, e2⟩ := lo_criticals  h0 hH cs I A J g hg hc hr
  refine lv_aload_n hx hb dL_law_1065 rfl (lv_at hl 1 rfl) ?_
  refine cl_L_120 C0 hR hE.s e1 ty11 ⟨Nat.le_of_ble_eq_true rfl, Nat.le_of_ble_eq_true rfl⟩ hl.1 (Nat.le_of_ble_eq_true rfl) hf dL_law_1066 (fun H1 locs1 hR1 hS1 => ?_)
  have hE1 := hE.S hS1
  refine lv_aload_n hx hb dL_law_1069 rfl (lv_at hl 2 rfl) ?_
  refine cl_L_123 C0 hR1 hE1.s e2 ty12 ⟨Nat.le_of_ble_eq_true rfl, Nat.le_of_ble_eq_true rfl⟩ hl.1 (Nat.le_of_ble_eq_true rfl) hf dL_law_1070 (fun H2 locs2 hR2 hS2 => ?_)
  exact lv_icmp_eq (tgt := 1527) hx hb dL_law_1073 (by decide) (fun _ => kk _ _ ⟨h0, c1, I1, A1, J1, g1, hH, w1, w2, w3, hR2, hE1.S hS2⟩) (fun z => absurd rfl z)
theorem lc_depth (C0 : xC D RL cL_law 7 rt p s m args meth c) (hB : lB b L xs s N) (hW : lWd D N s H locs) (hl : lv_has ls 7 (lv5 b N (i32 (i : Nat)))) (hi : i + 6 ≤ L) (hL : L ≤ 3072) (hf : cells ≤ room_1.cells ∧ slots ≤ room_1.slots) (kk : ∀ (H1 : Heap) (locs1 : List Loc), lWd D N s H1 locs1 → W p l e room_1 s m args below meth c H1 locs1 cells slots Q (F0 m 1527 ls [])) : W p l e room_1 s m args below meth c H locs cells slots Q (F0 m 1078 ls []) := by
  obtain ⟨h0, cs, I, A, J, g, hH, hg, hc, hr, hR, hE⟩ := hW
  have hx := C0.1
  have hb := C0.2.1
  obtain ⟨v, I1, A1, w3, -, e1, e2⟩ := lo_depth (xs (i + 1)) h0 hH cs I A J g hg hc hr
  refine lv_aload_n hx hb dL_law_1078 rfl (lv_at hl 1 rfl) ?_
  refine l_arg (k := 1) C0 hB hE hl hi hL (by decide) dL_law_1079 dL_law_1080 dL_law_1082 dL_law_1083 dL_law_1084 ?_
  refine cl_L_124 C0 hR hE.s e1 ty11 ⟨Nat.le_of_ble_eq_true rfl, Nat.le_of_ble_eq_true rfl⟩ hl.1 (Nat.le_of_ble_eq_true rfl) hf dL_law_1085 (fun H1 locs1 hR1 hS1 => ?_)
  have hE1 := hE.S hS1
  refine lv_aload_n hx hb dL_law_1088 rfl (lv_at hl 2 rfl) ?_
  refine l_arg (k := 1) C0 hB hE1 hl hi hL (by decide) dL_law_1089 dL_law_1090 dL_law_1092 dL_law_1093 dL_law_1094 ?_
  refine cl_L_127 C0 hR1 hE1.s e2 ty12 ⟨Nat.le_of_ble_eq_true rfl, Nat.le_of_ble_eq_true rfl⟩ hl.1 (Nat.le_of_ble_eq_true rfl) hf dL_law_1095 (fun H2 locs2 hR2 hS2 => ?_)
  exact lv_icmp_eq (tgt := 1527) hx hb dL_law_1098 (by decide) (fun _ => kk _ _ ⟨h0, cs, I1, A1, J, g, hH, hg, hc, w3, hR2, hE1.S hS2⟩) (fun z => absurd rfl z)
theorem lc_specific (C0 : xC D RL cL_law 7 rt p s m args meth c) (hB : lB b L xs s N) (hW : lWd D N s H locs) (hl : lv_has ls 7 (lv5 b N (i32 (i : Nat)))) (hi : i + 6 ≤ L) (hL : L ≤ 3072) (hf : cells ≤ room_1.cells ∧ slots ≤ room_1.slots) (kk : ∀ (H1 : Heap) (locs1 : List Loc), lWd D N s H1 locs1 → W p l e room_1 s m args below meth c H1 locs1 cells slots Q (F0 m 1527 ls [])) : W p l e room_1 s m args below meth c H locs cells slots Q (F0 m 1103 ls []) := by
  obtain ⟨h0, cs, I, A, J, g, hH, hg, hc, hr, hR, hE⟩ := hW
  have hx := C0.1
  have hb := C0.2.1
  obtain ⟨v, c1, I1, A1, J1, g1, w1, w2, w3, -, e1, e2⟩ := lo_specific (xs (i + 1)) h0 hH cs I A J g hg hc hr
  refine lv_aload_n hx hb dL_law_1103 rfl (lv_at hl 1 rfl) ?_
  refine l_arg (k := 1) C0 hB hE hl hi hL (by decide) dL_law_1104 dL_law_1105 dL_law_1107 dL_law_1108 dL_law_1109 ?_
  refine cl_L_128 C0 hR hE.s e1 ty11 ⟨Nat.le_of_ble_eq_true rfl, Nat.le_of_ble_eq_true rfl⟩ hl.1 (Nat.le_of_ble_eq_true rfl) hf dL_law_1110 (fun H1 locs1 hR1 hS1 => ?_)
  have hE1 := hE.S hS1
  refine lv_aload_n hx hb dL_law_1113 rfl (lv_at hl 2 rfl) ?_
  refine l_arg (k := 1) C0 hB hE1 hl hi hL (by decide) dL_law_1114 dL_law_1115 dL_law_1117 dL_law_1118 dL_law_1119 ?_
  refine cl_L_131 C0 hR1 hE1.s e2 ty12 ⟨Nat.le_of_ble_eq_true rfl, Nat.le_of_ble_eq_true rfl⟩ hl.1 (Nat.le_of_ble_eq_true rfl) hf dL_law_1120 (fun H2 locs2 hR2 hS2 => ?_)
  exact lv_icmp_eq (tgt := 1527) hx hb dL_law_1123 (by decide) (fun _ => kk _ _ ⟨h0, c1, I1, A1, J1, g1, hH, w1, w2, w3, hR2, hE1.S hS2⟩) (fun z => absurd rfl z)
theorem lc_branch (C0 : xC D RL cL_law 7 rt p s m args meth c) (hB : lB b L xs s N) (hW : lWd D N s H locs) (hl : lv_has ls 7 (lv5 b N (i32 (i : Nat)))) (hi : i + 6 ≤ L) (hL : L ≤ 3072) (hf : cells ≤ room_1.cells ∧ slots ≤ room_1.slots) (kk : ∀ (H1 : Heap) (locs1 : List Loc), lWd D N s H1 locs1 → W p l e room_1 s m args below meth c H1 locs1 cells slots Q (F0 m 1527 ls [])) : W p l e room_1 s m args below meth c H locs cells slots Q (F0 m 1128 ls []) := by
  obtain ⟨h0, cs, I, A, J, g, hH, hg, hc, hr, hR, hE⟩ := hW
  have hx := C0.1
  have hb := C0.2.1
  obtain ⟨v, I1, A1, w3, -, e1, e2⟩ := lo_branch (xs (i + 1)) (xs (i + 2)) h0 hH cs I A J g hg hc hr
  refine lv_aload_n hx hb dL_law_1128 rfl (lv_at hl 1 rfl) ?_
  refine l_arg (k := 1) C0 hB hE hl hi hL (by decide) dL_law_1129 dL_law_1130 dL_law_1132 dL_law_1133 dL_law_1134 ?_
  refine l_arg (k := 2) C0 hB hE hl hi hL (by decide) dL_law_1135 dL_law_1136 dL_law_1138 dL_law_1139 dL_law_1140 ?_
  refine cl_L_132 C0 hR hE.s e1 ty11 ⟨Nat.le_of_ble_eq_true rfl, Nat.le_of_ble_eq_true rfl⟩ hl.1 (Nat.le_of_ble_eq_true rfl) hf dL_law_1141 (fun H1 locs1 hR1 hS1 => ?_)
  have hE1 := hE.S hS1
  refine lv_aload_n hx hb dL_law_1144 rfl (lv_at hl 2 rfl) ?_
  refine l_arg (k := 1) C0 hB hE1 hl hi hL (by decide) dL_law_1145 dL_law_1146 dL_law_1148 dL_law_1149 dL_law_1150 ?_
  refine l_arg (k := 2) C0 hB hE1 hl hi hL (by decide) dL_law_1151 dL_law_1152 dL_law_1154 dL_law_1155 dL_law_1156 ?_
  refine cl_L_135 C0 hR1 hE1.s e2 ty12 ⟨Nat.le_of_ble_eq_true rfl, Nat.le_of_ble_eq_true rfl⟩ hl.1 (Nat.le_of_ble_eq_true rfl) hf dL_law_1157 (fun H2 locs2 hR2 hS2 => ?_)
  exact lv_icmp_eq (tgt := 1527) hx hb dL_law_1160 (by decide) (fun _ => kk _ _ ⟨h0, cs, I1, A1, J, g, hH, hg, hc, w3, hR2, hE1.S hS2⟩) (fun z => absurd rfl z)
theorem lc_tops (C0 : xC D RL cL_law 7 rt p s m args meth c) (hB : lB b L xs s N) (hW : lWd D N s H locs) (hl : lv_has ls 7 (lv5 b N (i32 (i : Nat)))) (hi : i + 6 ≤ L) (hL : L ≤ 3072) (hf : cells ≤ room_1.cells ∧ slots ≤ room_1.slots) (kk : ∀ (H1 : Heap) (locs1 : List Loc), lWd D N s H1 locs1 → W p l e room_1 s m args below meth c H1 locs1 cells slots Q (F0 m 1527 ls [])) : W p l e room_1 s m args below meth c H locs cells slots Q (F0 m 1165 ls []) := by
  obtain ⟨h0, cs, I, A, J, g, hH, hg, hc, hr, hR, hE⟩ := hW
  have hx := C0.1
  have hb := C0.2.1
  obtain ⟨v, c1, I1, A1, J1, g1, w1, w2, w3, -, e1, e2⟩ := lo_tops  h0 hH cs I A J g hg hc hr
  refine lv_aload_n hx hb dL_law_1165 rfl (lv_at hl 1 rfl) ?_
  refine cl_L_136 C0 hR hE.s e1 ty11 ⟨Nat.le_of_ble_eq_true rfl, Nat.le_of_ble_eq_true rfl⟩ hl.1 (Nat.le_of_ble_eq_true rfl) hf dL_law_1166 (fun H1 locs1 hR1 hS1 => ?_)
  have hE1 := hE.S hS1
  refine lv_aload_n hx hb dL_law_1169 rfl (lv_at hl 2 rfl) ?_
  refine cl_L_139 C0 hR1 hE1.s e2 ty12 ⟨Nat.le_of_ble_eq_true rfl, Nat.le_of_ble_eq_true rfl⟩ hl.1 (Nat.le_of_ble_eq_true rfl) hf dL_law_1170 (fun H2 locs2 hR2 hS2 => ?_)
  exact lv_icmp_eq (tgt := 1527) hx hb dL_law_1173 (by decide) (fun _ => kk _ _ ⟨h0, c1, I1, A1, J1, g1, hH, w1, w2, w3, hR2, hE1.S hS2⟩) (fun z => absurd rfl z)
theorem lc_beside (C0 : xC D RL cL_law 7 rt p s m args meth c) (hB : lB b L xs s N) (hW : lWd D N s H locs) (hl : lv_has ls 7 (lv5 b N (i32 (i : Nat)))) (hi : i + 6 ≤ L) (hL : L ≤ 3072) (hf : cells ≤ room_1.cells ∧ slots ≤ room_1.slots) (kk : ∀ (H1 : Heap) (locs1 : List Loc), lWd D N s H1 locs1 → W p l e room_1 s m args below meth c H1 locs1 cells slots Q (F0 m 1527 ls [])) : W p l e room_1 s m args below meth c H locs cells slots Q (F0 m 1178 ls []) := by
  obtain ⟨h0, cs, I, A, J, g, hH, hg, hc, hr, hR, hE⟩ := hW
  have hx := C0.1
  have hb := C0.2.1
  obtain ⟨v, c1, I1, A1, J1, g1, w1, w2, w3, -, e1, e2⟩ := lo_beside (xs (i + 1)) (xs (i + 2)) (xs (i + 3)) h0 hH cs I A J g hg hc hr
  refine lv_aload_n hx hb dL_law_1178 rfl (lv_at hl 1 rfl) ?_
  refine l_arg (k := 1) C0 hB hE hl hi hL (by decide) dL_law_1179 dL_law_1180 dL_law_1182 dL_law_1183 dL_law_1184 ?_
  refine l_arg (k := 2) C0 hB hE hl hi hL (by decide) dL_law_1185 dL_law_1186 dL_law_1188 dL_law_1189 dL_law_1190 ?_
  refine l_arg (k := 3) C0 hB hE hl hi hL (by decide) dL_law_1191 dL_law_1192 dL_law_1194 dL_law_1195 dL_law_1196 ?_
  refine cl_L_140 C0 hR hE.s e1 ty11 ⟨Nat.le_of_ble_eq_true rfl, Nat.le_of_ble_eq_true rfl⟩ hl.1 (Nat.le_of_ble_eq_true rfl) hf dL_law_1197 (fun H1 locs1 hR1 hS1 => ?_)
  have hE1 := hE.S hS1
  refine lv_aload_n hx hb dL_law_1200 rfl (lv_at hl 2 rfl) ?_
  refine l_arg (k := 1) C0 hB hE1 hl hi hL (by decide) dL_law_1201 dL_law_1202 dL_law_1204 dL_law_1205 dL_law_1206 ?_
  refine l_arg (k := 2) C0 hB hE1 hl hi hL (by decide) dL_law_1207 dL_law_1208 dL_law_1210 dL_law_1211 dL_law_1212 ?_
  refine l_arg (k := 3) C0 hB hE1 hl hi hL (by decide) dL_law_1213 dL_law_1214 dL_law_1216 dL_law_1217 dL_law_1218 ?_
  refine cl_L_143 C0 hR1 hE1.s e2 ty12 ⟨Nat.le_of_ble_eq_true rfl, Nat.le_of_ble_eq_true rfl⟩ hl.1 (Nat.le_of_ble_eq_true rfl) hf dL_law_1219 (fun H2 locs2 hR2 hS2 => ?_)
  exact lv_icmp_eq (tgt := 1527) hx hb dL_law_1222 (by decide) (fun _ => kk _ _ ⟨h0, c1, I1, A1, J1, g1, hH, w1, w2, w3, hR2, hE1.S hS2⟩) (fun z => absurd rfl z)
theorem lc_steps (C0 : xC D RL cL_law 7 rt p s m args meth c) (hB : lB b L xs s N) (hW : lWd D N s H locs) (hl : lv_has ls 7 (lv5 b N (i32 (i : Nat)))) (hi : i + 6 ≤ L) (hL : L ≤ 3072) (hf : cells ≤ room_1.cells ∧ slots ≤ room_1.slots) (kk : ∀ (H1 : Heap) (locs1 : List Loc), lWd D N s H1 locs1 → W p l e room_1 s m args below meth c H1 locs1 cells slots Q (F0 m 1527 ls [])) : W p l e room_1 s m args below meth c H locs cells slots Q (F0 m 1227 ls []) := by
  obtain ⟨h0, cs, I, A, J, g, hH, hg, hc, hr, hR, hE⟩ := hW
  have hx := C0.1
  have hb := C0.2.1
  obtain ⟨v, c1, I1, A1, J1, g1, w1, w2, w3, -, e1, e2⟩ := lo_steps (xs (i + 1)) h0 hH cs I A J g hg hc hr
  refine lv_aload_n hx hb dL_law_1227 rfl (lv_at hl 1 rfl) ?_
  refine l_arg (k := 1) C0 hB hE hl hi hL (by decide) dL_law_1228 dL_law_1229 dL_law_1231 dL_law_1232 dL_law_1233 ?_
  refine cl_L_144 C0 hR hE.s e1 ty11 ⟨Nat.le_of_ble_eq_true rfl, Nat.le_of_ble_eq_true rfl⟩ hl.1 (Nat.le_of_ble_eq_true rfl) hf dL_law_1234 (fun H1 locs1 hR1 hS1 => ?_)
  have hE1 := hE.S hS1
  refine lv_aload_n hx hb dL_law_1237 rfl (lv_at hl 2 rfl) ?_
  refine l_arg (k := 1) C0 hB hE1 hl hi hL (by decide) dL_law_1238 dL_law_1239 dL_law_1241 dL_law_1242 dL_law_1243 ?_
  refine cl_L_147 C0 hR1 hE1.s e2 ty12 ⟨Nat.le_of_ble_eq_true rfl, Nat.le_of_ble_eq_true rfl⟩ hl.1 (Nat.le_of_ble_eq_true rfl) hf dL_law_1244 (fun H2 locs2 hR2 hS2 => ?_)
  exact lv_icmp_eq (tgt := 1527) hx hb dL_law_1247 (by decide) (fun _ => kk _ _ ⟨h0, c1, I1, A1, J1, g1, hH, w1, w2, w3, hR2, hE1.S hS2⟩) (fun z => absurd rfl z)
theorem lc_normal (C0 : xC D RL cL_law 7 rt p s m args meth c) (hB : lB b L xs s N) (hW : lWd D N s H locs) (hl : lv_has ls 7 (lv5 b N (i32 (i : Nat)))) (hi : i + 6 ≤ L) (hL : L ≤ 3072) (hf : cells ≤ room_1.cells ∧ slots ≤ room_1.slots) (kk : ∀ (H1 : Heap) (locs1 : List Loc), lWd D N s H1 locs1 → W p l e room_1 s m args below meth c H1 locs1 cells slots Q (F0 m 1527 ls [])) : W p l e room_1 s m args below meth c H locs cells slots Q (F0 m 1252 ls []) := by
  obtain ⟨h0, cs, I, A, J, g, hH, hg, hc, hr, hR, hE⟩ := hW
  have hx := C0.1
  have hb := C0.2.1
  obtain ⟨v, c1, I1, A1, J1, g1, w1, w2, w3, -, e1, e2⟩ := lo_normal (xs (i + 1)) h0 hH cs I A J g hg hc hr
  refine lv_aload_n hx hb dL_law_1252 rfl (lv_at hl 1 rfl) ?_
  refine l_arg (k := 1) C0 hB hE hl hi hL (by decide) dL_law_1253 dL_law_1254 dL_law_1256 dL_law_1257 dL_law_1258 ?_
  refine cl_L_148 C0 hR hE.s e1 ty11 ⟨Nat.le_of_ble_eq_true rfl, Nat.le_of_ble_eq_true rfl⟩ hl.1 (Nat.le_of_ble_eq_true rfl) hf dL_law_1259 (fun H1 locs1 hR1 hS1 => ?_)
  have hE1 := hE.S hS1
  refine lv_aload_n hx hb dL_law_1262 rfl (lv_at hl 2 rfl) ?_
  refine l_arg (k := 1) C0 hB hE1 hl hi hL (by decide) dL_law_1263 dL_law_1264 dL_law_1266 dL_law_1267 dL_law_1268 ?_
  refine cl_L_151 C0 hR1 hE1.s e2 ty12 ⟨Nat.le_of_ble_eq_true rfl, Nat.le_of_ble_eq_true rfl⟩ hl.1 (Nat.le_of_ble_eq_true rfl) hf dL_law_1269 (fun H2 locs2 hR2 hS2 => ?_)
  exact lv_icmp_eq (tgt := 1527) hx hb dL_law_1272 (by decide) (fun _ => kk _ _ ⟨h0, c1, I1, A1, J1, g1, hH, w1, w2, w3, hR2, hE1.S hS2⟩) (fun z => absurd rfl z)
theorem lc_apart (C0 : xC D RL cL_law 7 rt p s m args meth c) (hB : lB b L xs s N) (hW : lWd D N s H locs) (hl : lv_has ls 7 (lv5 b N (i32 (i : Nat)))) (hi : i + 6 ≤ L) (hL : L ≤ 3072) (hf : cells ≤ room_1.cells ∧ slots ≤ room_1.slots) (kk : ∀ (H1 : Heap) (locs1 : List Loc), lWd D N s H1 locs1 → W p l e room_1 s m args below meth c H1 locs1 cells slots Q (F0 m 1527 ls [])) : W p l e room_1 s m args below meth c H locs cells slots Q (F0 m 1277 ls []) := by
  obtain ⟨h0, cs, I, A, J, g, hH, hg, hc, hr, hR, hE⟩ := hW
  have hx := C0.1
  have hb := C0.2.1
  obtain ⟨v, I1, A1, w3, -, e1, e2⟩ := lo_apart (xs (i + 1)) h0 hH cs I A J g hg hc hr
  refine lv_aload_n hx hb dL_law_1277 rfl (lv_at hl 1 rfl) ?_
  refine l_arg (k := 1) C0 hB hE hl hi hL (by decide) dL_law_1278 dL_law_1279 dL_law_1281 dL_law_1282 dL_law_1283 ?_
  refine cl_L_152 C0 hR hE.s e1 ty11 ⟨Nat.le_of_ble_eq_true rfl, Nat.le_of_ble_eq_true rfl⟩ hl.1 (Nat.le_of_ble_eq_true rfl) hf dL_law_1284 (fun H1 locs1 hR1 hS1 => ?_)
  have hE1 := hE.S hS1
  refine lv_aload_n hx hb dL_law_1287 rfl (lv_at hl 2 rfl) ?_
  refine l_arg (k := 1) C0 hB hE1 hl hi hL (by decide) dL_law_1288 dL_law_1289 dL_law_1291 dL_law_1292 dL_law_1293 ?_
  refine cl_L_155 C0 hR1 hE1.s e2 ty12 ⟨Nat.le_of_ble_eq_true rfl, Nat.le_of_ble_eq_true rfl⟩ hl.1 (Nat.le_of_ble_eq_true rfl) hf dL_law_1294 (fun H2 locs2 hR2 hS2 => ?_)
  exact lv_icmp_eq (tgt := 1527) hx hb dL_law_1297 (by decide) (fun _ => kk _ _ ⟨h0, cs, I1, A1, J, g, hH, hg, hc, w3, hR2, hE1.S hS2⟩) (fun z => absurd rfl z)
end LOPS

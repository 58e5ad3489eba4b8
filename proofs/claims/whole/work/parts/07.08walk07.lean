theorem dX12_token_0 : decode cX12_token 0 = .ok (.aload_n 0, 1) := by decide +kernel
theorem dX12_token_1 : decode cX12_token 1 = .ok (.getfield 116, 3) := by decide +kernel
theorem dX12_token_4 : decode cX12_token 4 = .ok (.aload_n 0, 1) := by decide +kernel
theorem dX12_token_5 : decode cX12_token 5 = .ok (.getfield 113, 3) := by decide +kernel
theorem dX12_token_8 : decode cX12_token 8 = .ok (.if_icmp .ge 44, 3) := by decide +kernel
theorem dX12_token_11 : decode cX12_token 11 = .ok (.aload_n 0, 1) := by decide +kernel
theorem dX12_token_12 : decode cX12_token 12 = .ok (.getfield 7, 3) := by decide +kernel
theorem dX12_token_15 : decode cX12_token 15 = .ok (.aload_n 0, 1) := by decide +kernel
theorem dX12_token_16 : decode cX12_token 16 = .ok (.getfield 116, 3) := by decide +kernel
theorem dX12_token_19 : decode cX12_token 19 = .ok (.iaload, 1) := by decide +kernel
theorem dX12_token_20 : decode cX12_token 20 = .ok (.bipush 10, 2) := by decide +kernel
theorem dX12_token_22 : decode cX12_token 22 = .ok (.if_icmp .eq 17, 3) := by decide +kernel
theorem dX12_token_25 : decode cX12_token 25 = .ok (.aload_n 0, 1) := by decide +kernel
theorem dX12_token_26 : decode cX12_token 26 = .ok (.getfield 7, 3) := by decide +kernel
theorem dX12_token_29 : decode cX12_token 29 = .ok (.aload_n 0, 1) := by decide +kernel
theorem dX12_token_30 : decode cX12_token 30 = .ok (.getfield 116, 3) := by decide +kernel
theorem dX12_token_33 : decode cX12_token 33 = .ok (.iaload, 1) := by decide +kernel
theorem dX12_token_34 : decode cX12_token 34 = .ok (.bipush 32, 2) := by decide +kernel
theorem dX12_token_36 : decode cX12_token 36 = .ok (.if_icmp .ne 16, 3) := by decide +kernel
theorem dX12_token_39 : decode cX12_token 39 = .ok (.aload_n 0, 1) := by decide +kernel
theorem dX12_token_40 : decode cX12_token 40 = .ok (.dup, 1) := by decide +kernel
theorem dX12_token_41 : decode cX12_token 41 = .ok (.getfield 116, 3) := by decide +kernel
theorem dX12_token_44 : decode cX12_token 44 = .ok (.iconst 1, 1) := by decide +kernel
theorem dX12_token_45 : decode cX12_token 45 = .ok (.iadd, 1) := by decide +kernel
theorem dX12_token_46 : decode cX12_token 46 = .ok (.putfield 116, 3) := by decide +kernel
theorem dX12_token_49 : decode cX12_token 49 = .ok (.goto (-49), 3) := by decide +kernel
theorem dX12_token_52 : decode cX12_token 52 = .ok (.aload_n 0, 1) := by decide +kernel
theorem dX12_token_53 : decode cX12_token 53 = .ok (.aload_n 0, 1) := by decide +kernel
theorem dX12_token_54 : decode cX12_token 54 = .ok (.getfield 116, 3) := by decide +kernel
theorem dX12_token_57 : decode cX12_token 57 = .ok (.putfield 110, 3) := by decide +kernel
theorem dX12_token_60 : decode cX12_token 60 = .ok (.aload_n 0, 1) := by decide +kernel
theorem dX12_token_61 : decode cX12_token 61 = .ok (.getfield 116, 3) := by decide +kernel
theorem dX12_token_64 : decode cX12_token 64 = .ok (.aload_n 0, 1) := by decide +kernel
theorem dX12_token_65 : decode cX12_token 65 = .ok (.getfield 113, 3) := by decide +kernel
theorem dX12_token_68 : decode cX12_token 68 = .ok (.if_icmp .ne 11, 3) := by decide +kernel
theorem dX12_token_71 : decode cX12_token 71 = .ok (.aload_n 0, 1) := by decide +kernel
theorem dX12_token_72 : decode cX12_token 72 = .ok (.iconst 0, 1) := by decide +kernel
theorem dX12_token_73 : decode cX12_token 73 = .ok (.putfield 119, 3) := by decide +kernel
theorem dX12_token_76 : decode cX12_token 76 = .ok (.goto 205, 3) := by decide +kernel
theorem dX12_token_79 : decode cX12_token 79 = .ok (.aload_n 0, 1) := by decide +kernel
theorem dX12_token_80 : decode cX12_token 80 = .ok (.aload_n 0, 1) := by decide +kernel
theorem dX12_token_81 : decode cX12_token 81 = .ok (.getfield 116, 3) := by decide +kernel
theorem dX12_token_84 : decode cX12_token 84 = .ok (.invokevirtual 122, 3) := by decide +kernel
theorem dX12_token_87 : decode cX12_token 87 = .ok (.ifCond .eq 105, 3) := by decide +kernel
theorem dX12_token_90 : decode cX12_token 90 = .ok (.aload_n 0, 1) := by decide +kernel
theorem dX12_token_91 : decode cX12_token 91 = .ok (.aload_n 0, 1) := by decide +kernel
theorem dX12_token_92 : decode cX12_token 92 = .ok (.getfield 116, 3) := by decide +kernel
theorem dX12_token_95 : decode cX12_token 95 = .ok (.invokevirtual 122, 3) := by decide +kernel
theorem dX12_token_98 : decode cX12_token 98 = .ok (.ifCond .eq 16, 3) := by decide +kernel
theorem dX12_token_101 : decode cX12_token 101 = .ok (.aload_n 0, 1) := by decide +kernel
theorem dX12_token_102 : decode cX12_token 102 = .ok (.dup, 1) := by decide +kernel
theorem dX12_token_103 : decode cX12_token 103 = .ok (.getfield 116, 3) := by decide +kernel
theorem dX12_token_106 : decode cX12_token 106 = .ok (.iconst 1, 1) := by decide +kernel
theorem dX12_token_107 : decode cX12_token 107 = .ok (.iadd, 1) := by decide +kernel
theorem dX12_token_108 : decode cX12_token 108 = .ok (.putfield 116, 3) := by decide +kernel
theorem dX12_token_111 : decode cX12_token 111 = .ok (.goto (-21), 3) := by decide +kernel
theorem dX12_token_114 : decode cX12_token 114 = .ok (.aload_n 0, 1) := by decide +kernel
theorem dX12_token_115 : decode cX12_token 115 = .ok (.aload_n 0, 1) := by decide +kernel
theorem dX12_token_116 : decode cX12_token 116 = .ok (.aload_n 0, 1) := by decide +kernel
theorem dX12_token_117 : decode cX12_token 117 = .ok (.getfield 110, 3) := by decide +kernel
theorem dX12_token_120 : decode cX12_token 120 = .ok (.aload_n 0, 1) := by decide +kernel
theorem dX12_token_121 : decode cX12_token 121 = .ok (.getfield 116, 3) := by decide +kernel
theorem dX12_token_124 : decode cX12_token 124 = .ok (.invokevirtual 126, 3) := by decide +kernel
theorem dX12_token_127 : decode cX12_token 127 = .ok (.putfield 130, 3) := by decide +kernel
theorem dX12_token_130 : decode cX12_token 130 = .ok (.aload_n 0, 1) := by decide +kernel
theorem dX12_token_131 : decode cX12_token 131 = .ok (.aload_n 0, 1) := by decide +kernel
theorem dX12_token_132 : decode cX12_token 132 = .ok (.getfield 130, 3) := by decide +kernel
theorem dX12_token_135 : decode cX12_token 135 = .ok (.ifCond .lt 7, 3) := by decide +kernel
theorem dX12_token_138 : decode cX12_token 138 = .ok (.iconst 1, 1) := by decide +kernel
theorem dX12_token_139 : decode cX12_token 139 = .ok (.goto 23, 3) := by decide +kernel
theorem dX12_token_142 : decode cX12_token 142 = .ok (.aload_n 0, 1) := by decide +kernel
theorem dX12_token_143 : decode cX12_token 143 = .ok (.getfield 116, 3) := by decide +kernel
theorem dX12_token_146 : decode cX12_token 146 = .ok (.aload_n 0, 1) := by decide +kernel
theorem dX12_token_147 : decode cX12_token 147 = .ok (.getfield 110, 3) := by decide +kernel
theorem dX12_token_150 : decode cX12_token 150 = .ok (.isub, 1) := by decide +kernel
theorem dX12_token_151 : decode cX12_token 151 = .ok (.bipush 6, 2) := by decide +kernel
theorem dX12_token_153 : decode cX12_token 153 = .ok (.if_icmp .le 8, 3) := by decide +kernel
theorem dX12_token_156 : decode cX12_token 156 = .ok (.bipush 6, 2) := by decide +kernel
theorem dX12_token_158 : decode cX12_token 158 = .ok (.goto 4, 3) := by decide +kernel
theorem dX12_token_161 : decode cX12_token 161 = .ok (.iconst 2, 1) := by decide +kernel
theorem dX12_token_162 : decode cX12_token 162 = .ok (.putfield 119, 3) := by decide +kernel
theorem dX12_token_165 : decode cX12_token 165 = .ok (.aload_n 0, 1) := by decide +kernel
theorem dX12_token_166 : decode cX12_token 166 = .ok (.getfield 119, 3) := by decide +kernel
theorem dX12_token_169 : decode cX12_token 169 = .ok (.iconst 2, 1) := by decide +kernel
theorem dX12_token_170 : decode cX12_token 170 = .ok (.if_icmp .ne 111, 3) := by decide +kernel
theorem dX12_token_173 : decode cX12_token 173 = .ok (.aload_n 0, 1) := by decide +kernel
theorem dX12_token_174 : decode cX12_token 174 = .ok (.aload_n 0, 1) := by decide +kernel
theorem dX12_token_175 : decode cX12_token 175 = .ok (.aload_n 0, 1) := by decide +kernel
theorem dX12_token_176 : decode cX12_token 176 = .ok (.getfield 110, 3) := by decide +kernel
theorem dX12_token_179 : decode cX12_token 179 = .ok (.aload_n 0, 1) := by decide +kernel
theorem dX12_token_180 : decode cX12_token 180 = .ok (.getfield 116, 3) := by decide +kernel
theorem dX12_token_183 : decode cX12_token 183 = .ok (.invokevirtual 133, 3) := by decide +kernel
theorem dX12_token_186 : decode cX12_token 186 = .ok (.putfield 130, 3) := by decide +kernel
theorem dX12_token_189 : decode cX12_token 189 = .ok (.goto 92, 3) := by decide +kernel
theorem dX12_token_192 : decode cX12_token 192 = .ok (.aload_n 0, 1) := by decide +kernel
theorem dX12_token_193 : decode cX12_token 193 = .ok (.aload_n 0, 1) := by decide +kernel
theorem dX12_token_194 : decode cX12_token 194 = .ok (.getfield 116, 3) := by decide +kernel
theorem dX12_token_197 : decode cX12_token 197 = .ok (.invokevirtual 136, 3) := by decide +kernel
theorem dX12_token_200 : decode cX12_token 200 = .ok (.ifCond .eq 77, 3) := by decide +kernel
theorem dX12_token_203 : decode cX12_token 203 = .ok (.aload_n 0, 1) := by decide +kernel
theorem dX12_token_204 : decode cX12_token 204 = .ok (.iconst 3, 1) := by decide +kernel
theorem dX12_token_205 : decode cX12_token 205 = .ok (.putfield 119, 3) := by decide +kernel
theorem dX12_token_208 : decode cX12_token 208 = .ok (.aload_n 0, 1) := by decide +kernel
theorem dX12_token_209 : decode cX12_token 209 = .ok (.iconst 0, 1) := by decide +kernel
theorem dX12_token_210 : decode cX12_token 210 = .ok (.putfield 130, 3) := by decide +kernel
theorem dX12_token_213 : decode cX12_token 213 = .ok (.aload_n 0, 1) := by decide +kernel
theorem dX12_token_214 : decode cX12_token 214 = .ok (.aload_n 0, 1) := by decide +kernel
theorem dX12_token_215 : decode cX12_token 215 = .ok (.getfield 116, 3) := by decide +kernel
theorem dX12_token_218 : decode cX12_token 218 = .ok (.invokevirtual 136, 3) := by decide +kernel
theorem dX12_token_221 : decode cX12_token 221 = .ok (.ifCond .eq 60, 3) := by decide +kernel
theorem dX12_token_224 : decode cX12_token 224 = .ok (.aload_n 0, 1) := by decide +kernel
theorem dX12_token_225 : decode cX12_token 225 = .ok (.aload_n 0, 1) := by decide +kernel
theorem dX12_token_226 : decode cX12_token 226 = .ok (.getfield 130, 3) := by decide +kernel
theorem dX12_token_229 : decode cX12_token 229 = .ok (.ldc 139, 2) := by decide +kernel
theorem dX12_token_231 : decode cX12_token 231 = .ok (.if_icmp .le 10, 3) := by decide +kernel
theorem dX12_token_234 : decode cX12_token 234 = .ok (.aload_n 0, 1) := by decide +kernel
theorem dX12_token_235 : decode cX12_token 235 = .ok (.getfield 130, 3) := by decide +kernel
theorem dX12_token_238 : decode cX12_token 238 = .ok (.goto 23, 3) := by decide +kernel
theorem dX12_token_241 : decode cX12_token 241 = .ok (.bipush 10, 2) := by decide +kernel
theorem dX12_token_243 : decode cX12_token 243 = .ok (.aload_n 0, 1) := by decide +kernel
theorem dX12_token_244 : decode cX12_token 244 = .ok (.getfield 130, 3) := by decide +kernel
theorem dX12_token_247 : decode cX12_token 247 = .ok (.imul, 1) := by decide +kernel
theorem dX12_token_248 : decode cX12_token 248 = .ok (.aload_n 0, 1) := by decide +kernel
theorem dX12_token_249 : decode cX12_token 249 = .ok (.getfield 7, 3) := by decide +kernel
theorem dX12_token_252 : decode cX12_token 252 = .ok (.aload_n 0, 1) := by decide +kernel
theorem dX12_token_253 : decode cX12_token 253 = .ok (.getfield 116, 3) := by decide +kernel
theorem dX12_token_256 : decode cX12_token 256 = .ok (.iaload, 1) := by decide +kernel
theorem dX12_token_257 : decode cX12_token 257 = .ok (.iadd, 1) := by decide +kernel
theorem dX12_token_258 : decode cX12_token 258 = .ok (.bipush 48, 2) := by decide +kernel
theorem dX12_token_260 : decode cX12_token 260 = .ok (.isub, 1) := by decide +kernel
theorem dX12_token_261 : decode cX12_token 261 = .ok (.putfield 130, 3) := by decide +kernel
theorem dX12_token_264 : decode cX12_token 264 = .ok (.aload_n 0, 1) := by decide +kernel
theorem dX12_token_265 : decode cX12_token 265 = .ok (.dup, 1) := by decide +kernel
theorem dX12_token_266 : decode cX12_token 266 = .ok (.getfield 116, 3) := by decide +kernel
theorem dX12_token_269 : decode cX12_token 269 = .ok (.iconst 1, 1) := by decide +kernel
theorem dX12_token_270 : decode cX12_token 270 = .ok (.iadd, 1) := by decide +kernel
theorem dX12_token_271 : decode cX12_token 271 = .ok (.putfield 116, 3) := by decide +kernel
theorem dX12_token_274 : decode cX12_token 274 = .ok (.goto (-61), 3) := by decide +kernel
theorem dX12_token_277 : decode cX12_token 277 = .ok (.aload_n 0, 1) := by decide +kernel
theorem dX12_token_278 : decode cX12_token 278 = .ok (.invokevirtual 140, 3) := by decide +kernel
theorem dX12_token_281 : decode cX12_token 281 = .ok (.return_, 1) := by decide +kernel
theorem wl_X12_122 : Cond.methodLink RX12 122 yX12_isSmall ∈ xT := xin 1513 (by decide +kernel) rfl
theorem wl_X12_126 : Cond.methodLink RX12 126 yX12_wordAt ∈ xT := xin 1517 (by decide +kernel) rfl
theorem wl_X12_133 : Cond.methodLink RX12 133 yX12_packed ∈ xT := xin 1521 (by decide +kernel) rfl
theorem wl_X12_136 : Cond.methodLink RX12 136 yX12_isDigit ∈ xT := xin 1525 (by decide +kernel) rfl
theorem wl_X12_140 : Cond.methodLink RX12 140 yX12_signToken ∈ xT := xin 1530 (by decide +kernel) rfl
theorem wk_X12_139 : Cond.constant RX12 139 99999 ∈ xT := xin 1529 (by decide +kernel) rfl
section XN_X12_token
variable {p : Program} {l : Launch} {e : Env} {R : Room} {s : State} {m : MethodId} {args : Array Value} {below : List Frame} {meth : Method} {c : Code} {H H0 : Heap} {locs : List Loc} {cells slots : Nat} {Q : State → Prop} {cc : ByteArray} {nL pc : Nat} {rt : Option FieldType} {ls : Array Slot} {rest : List Value} {D : xD} {ty : xTy} {h : xH}
theorem cl_X12_122 {v0 : Nat} {v1 : Int32} {r : Int32} (C0 : xC D RX12 cc nL rt p s m args meth c) (hR : xRep D ty h H) (hS : xS ty H0 H locs) (hF : jf_X12_isSmall ty h v0 v1 = some r) (t_v0 : ty v0 = some (0, 12)) (hrm : jr_X12_isSmall.frames + 1 ≤ R.frames ∧ 8 + (2 + 11) + jr_X12_isSmall.locals ≤ R.locals) (hsz : ls.size = nL) (hW : (rest.map fun v => v.category).sum ≤ 8) (hf : cells ≤ R.cells ∧ slots ≤ R.slots) (hdg : decode cc pc = .ok (.invokevirtual 122, 3)) (kk : ∀ (H1 : Heap) (locs1 : List Loc), xRep D ty h H1 → xS ty H0 H1 locs1 → W p l e R s m args below meth c H1 locs1 cells slots Q (F0 m (pc + 3) ls (.int r :: rest))) : W p l e R s m args below meth c H locs cells slots Q (F0 m pc ls (.int v1 :: .ref v0 :: rest)) := x_callV C0 (jc_X12_isSmall t_v0 hF) xm_X12_isSmall xi_X12_isSmall xe_X12_isSmall wl_X12_122 ⟨rfl, rfl, hrm⟩ (ci := 12) rfl t_v0 hR hS (As := [.int v1]) rfl hsz rfl hW hdg hf kk
theorem cl_X12_126 {v0 : Nat} {v1 : Int32} {v2 : Int32} {r : Int32} (C0 : xC D RX12 cc nL rt p s m args meth c) (hR : xRep D ty h H) (hS : xS ty H0 H locs) (hF : jf_X12_wordAt ty h v0 v1 v2 = some r) (t_v0 : ty v0 = some (0, 12)) (hrm : jr_X12_wordAt.frames + 1 ≤ R.frames ∧ 8 + (8 + 11) + jr_X12_wordAt.locals ≤ R.locals) (hsz : ls.size = nL) (hW : (rest.map fun v => v.category).sum ≤ 8) (hf : cells ≤ R.cells ∧ slots ≤ R.slots) (hdg : decode cc pc = .ok (.invokevirtual 126, 3)) (kk : ∀ (H1 : Heap) (locs1 : List Loc), xRep D ty h H1 → xS ty H0 H1 locs1 → W p l e R s m args below meth c H1 locs1 cells slots Q (F0 m (pc + 3) ls (.int r :: rest))) : W p l e R s m args below meth c H locs cells slots Q (F0 m pc ls (.int v2 :: .int v1 :: .ref v0 :: rest)) := x_callV C0 (jc_X12_wordAt t_v0 hF) xm_X12_wordAt xi_X12_wordAt xe_X12_wordAt wl_X12_126 ⟨rfl, rfl, hrm⟩ (ci := 12) rfl t_v0 hR hS (As := [.int v1, .int v2]) rfl hsz rfl hW hdg hf kk
theorem cl_X12_133 {v0 : Nat} {v1 : Int32} {v2 : Int32} {r : Int32} (C0 : xC D RX12 cc nL rt p s m args meth c) (hR : xRep D ty h H) (hS : xS ty H0 H locs) (hF : jf_X12_packed ty h v0 v1 v2 = some r) (t_v0 : ty v0 = some (0, 12)) (hrm : jr_X12_packed.frames + 1 ≤ R.frames ∧ 8 + (5 + 11) + jr_X12_packed.locals ≤ R.locals) (hsz : ls.size = nL) (hW : (rest.map fun v => v.category).sum ≤ 8) (hf : cells ≤ R.cells ∧ slots ≤ R.slots) (hdg : decode cc pc = .ok (.invokevirtual 133, 3)) (kk : ∀ (H1 : Heap) (locs1 : List Loc), xRep D ty h H1 → xS ty H0 H1 locs1 → W p l e R s m args below meth c H1 locs1 cells slots Q (F0 m (pc + 3) ls (.int r :: rest))) : W p l e R s m args below meth c H locs cells slots Q (F0 m pc ls (.int v2 :: .int v1 :: .ref v0 :: rest)) := x_callV C0 (jc_X12_packed t_v0 hF) xm_X12_packed xi_X12_packed xe_X12_packed wl_X12_133 ⟨rfl, rfl, hrm⟩ (ci := 12) rfl t_v0 hR hS (As := [.int v1, .int v2]) rfl hsz rfl hW hdg hf kk
theorem cl_X12_136 {v0 : Nat} {v1 : Int32} {r : Int32} (C0 : xC D RX12 cc nL rt p s m args meth c) (hR : xRep D ty h H) (hS : xS ty H0 H locs) (hF : jf_X12_isDigit ty h v0 v1 = some r) (t_v0 : ty v0 = some (0, 12)) (hrm : jr_X12_isDigit.frames + 1 ≤ R.frames ∧ 8 + (2 + 11) + jr_X12_isDigit.locals ≤ R.locals) (hsz : ls.size = nL) (hW : (rest.map fun v => v.category).sum ≤ 8) (hf : cells ≤ R.cells ∧ slots ≤ R.slots) (hdg : decode cc pc = .ok (.invokevirtual 136, 3)) (kk : ∀ (H1 : Heap) (locs1 : List Loc), xRep D ty h H1 → xS ty H0 H1 locs1 → W p l e R s m args below meth c H1 locs1 cells slots Q (F0 m (pc + 3) ls (.int r :: rest))) : W p l e R s m args below meth c H locs cells slots Q (F0 m pc ls (.int v1 :: .ref v0 :: rest)) := x_callV C0 (jc_X12_isDigit t_v0 hF) xm_X12_isDigit xi_X12_isDigit xe_X12_isDigit wl_X12_136 ⟨rfl, rfl, hrm⟩ (ci := 12) rfl t_v0 hR hS (As := [.int v1]) rfl hsz rfl hW hdg hf kk
theorem cl_X12_140 {v0 : Nat} {h9 : xH} (C0 : xC D RX12 cc nL rt p s m args meth c) (hR : xRep D ty h H) (hS : xS ty H0 H locs) (hF : jf_X12_signToken ty h v0 = some h9) (t_v0 : ty v0 = some (0, 12)) (hrm : jr_X12_signToken.frames + 1 ≤ R.frames ∧ 8 + (4 + 11) + jr_X12_signToken.locals ≤ R.locals) (hsz : ls.size = nL) (hW : (rest.map fun v => v.category).sum ≤ 8) (hf : cells ≤ R.cells ∧ slots ≤ R.slots) (hdg : decode cc pc = .ok (.invokevirtual 140, 3)) (kk : ∀ (H1 : Heap) (locs1 : List Loc), xRep D ty h9 H1 → xS ty H0 H1 locs1 → W p l e R s m args below meth c H1 locs1 cells slots Q (F0 m (pc + 3) ls rest)) : W p l e R s m args below meth c H locs cells slots Q (F0 m pc ls (.ref v0 :: rest)) := x_callV C0 (jc_X12_signToken t_v0 hF) xm_X12_signToken xi_X12_signToken xe_X12_signToken wl_X12_140 ⟨rfl, rfl, hrm⟩ (ci := 12) rfl t_v0 hR hS (As := []) rfl hsz rfl hW hdg hf kk
theorem gf_X12_119 {a : Nat} (C0 : xC D RX12 cc nL rt p s m args meth c) (hR : xRep D ty h H) (ht : ty a = some (0, 12)) (hdg : decode cc pc = .ok (.getfield 119, 3)) (kk : W p l e R s m args below meth c H locs cells slots Q (F0 m (pc + 3) ls (.int (xI h a 8) :: rest))) : W p l e R s m args below meth c H locs cells slots Q (F0 m pc ls (.ref a :: rest)) := x_get C0 hR (ci := 12) (k := 8) (N := 60) (T := TX12) rfl iX12 (by decide) rfl wf_X12_119 rfl ht hdg kk
theorem pf_X12_110 {a : Nat} {v : Int32} (C0 : xC D RX12 cc nL rt p s m args meth c) (hR : xRep D ty h H) (hS : xS ty H0 H locs) (ht : ty a = some (0, 12)) (hdg : decode cc pc = .ok (.putfield 110, 3)) (kk : ∀ (H1 : Heap) (locs1 : List Loc), xRep D ty (xsI h a 10 v) H1 → xS ty H0 H1 locs1 → W p l e R s m args below meth c H1 locs1 cells slots Q (F0 m (pc + 3) ls rest)) : W p l e R s m args below meth c H locs cells slots Q (F0 m pc ls (.int v :: .ref a :: rest)) := x_puti C0 hR hS (ci := 12) (k := 10) (N := 60) (T := TX12) rfl iX12 tyX12_ok nmX12 (by decide) rfl rfl wf_X12_110 (Or.inl rfl) rfl rfl ht hdg kk
end XN_X12_token
set_option maxHeartbeats 4000000 in
set_option maxRecDepth 100000 in
theorem jw_X12_token_213 {p : Program} {l : Launch} {e : Env} {s : State} {m : MethodId} {args : Array Value} {below : List Frame} {meth : Method} {c : Code} {D : xD} {ty : xTy} (C0 : xC D RX12 cX12_token 1 none p s m args meth c) {h9 : xH} : ∀ n : Nat, ∀ (v0 : Nat) (h : xH), ty v0 = some (0, 12) → jf_X12_token_213 ty n v0 h = some h9 → ∀ (H : Heap) (locs : List Loc), xRep D ty h H → xS ty s.heap H locs → ∀ ls : Array Slot, lv_has ls 1 [(0, .ref v0)] → W p l e jr_X12_token s m args below meth c H locs 0 0 (MQ below (xQ D ty none h9) args s 0 0 (xdom ty)) (F0 m 213 ls []) := by
  have hx := C0.1
  have hb := C0.2.1
  have hown := C0.2.2.2.2.2.1
  have hts := C0.2.2.2.2.2.2.1
  intro n
  induction n with
  | zero =>
    intro v0 h t_v0 hF H locs hR hS ls hl
    cases hF
  | succ n ih =>
    intro v0 h t_v0 hF H locs hR hS ls hl
    rw [jf_X12_token_213_s] at hF
    refine lv_aload_n hx hb dX12_token_213 rfl (lv_at hl 0 rfl) ?_
    refine lv_aload_n hx hb dX12_token_214 rfl (lv_at hl 0 rfl) ?_
    refine gf_X12_116 C0 hR t_v0 dX12_token_215 ?_
    obtain ⟨a1, e_a1, hF⟩ := xbd hF
    refine cl_X12_136 C0 hR hS e_a1 t_v0 ⟨(Nat.le_of_ble_eq_true rfl), (Nat.le_of_ble_eq_true rfl)⟩ hl.1 (Nat.le_of_ble_eq_true rfl) ⟨(Nat.le_of_ble_eq_true rfl), (Nat.le_of_ble_eq_true rfl)⟩ dX12_token_218 (fun H locs hR hS => ?_)
    refine lv_if_eq (tgt := 281) hx hb dX12_token_221 (by decide) (fun c2 => ?_) (fun c2 => ?_)
    · have hF := xif hF c2
      cases hF
      exact x_vret C0 hR hS dX12_token_281
    · have hF := xel hF c2
      refine lv_aload_n hx hb dX12_token_224 rfl (lv_at hl 0 rfl) ?_
      refine lv_aload_n hx hb dX12_token_225 rfl (lv_at hl 0 rfl) ?_
      refine gf_X12_130 C0 hR t_v0 dX12_token_226 ?_
      refine lv_ldc (v := 99999) hx hb hown (hts _ wk_X12_139) dX12_token_229 ?_
      refine lv_icmp_le (tgt := 241) hx hb dX12_token_231 (by decide) (fun c3 => ?_) (fun c3 => ?_)
      · have hF := xif hF c3
        refine lv_bipush (v := 10) hx hb dX12_token_241 (by decide) ?_
        refine lv_aload_n hx hb dX12_token_243 rfl (lv_at hl 0 rfl) ?_
        refine gf_X12_130 C0 hR t_v0 dX12_token_244 ?_
        refine lv_imul hx hb dX12_token_247 ?_
        refine lv_aload_n hx hb dX12_token_248 rfl (lv_at hl 0 rfl) ?_
        obtain ⟨a4, e_a4, hF⟩ := xbd hF
        refine gf_X12_7 C0 hR t_v0 e_a4 dX12_token_249 ?_
        refine lv_aload_n hx hb dX12_token_252 rfl (lv_at hl 0 rfl) ?_
        refine gf_X12_116 C0 hR t_v0 dX12_token_253 ?_
        obtain ⟨a5, e_a5, hF⟩ := xbd hF
        refine x_iald C0 hR e_a5 dX12_token_256 ?_
        refine lv_iadd hx hb dX12_token_257 ?_
        refine lv_bipush (v := 48) hx hb dX12_token_258 (by decide) ?_
        refine lv_isub hx hb dX12_token_260 ?_
        obtain ⟨h6, e_h6, hF⟩ := xbd hF
        refine pf_X12_130 C0 hR hS t_v0 dX12_token_261 (fun H locs hR hS => ?_)
        rw [Option.some.inj e_h6] at hR
        refine lv_aload_n hx hb dX12_token_264 rfl (lv_at hl 0 rfl) ?_
        refine lv_dup hx hb dX12_token_265 rfl ?_
        refine gf_X12_116 C0 hR t_v0 dX12_token_266 ?_
        refine lv_iconst (v := 1) hx hb dX12_token_269 (by decide) ?_
        refine lv_iadd hx hb dX12_token_270 ?_
        obtain ⟨h7, e_h7, hF⟩ := xbd hF
        refine pf_X12_116 C0 hR hS t_v0 dX12_token_271 (fun H locs hR hS => ?_)
        rw [Option.some.inj e_h7] at hR
        refine lv_goto (tgt := 213) hx hb dX12_token_274 (by decide) ?_
        exact ih _ _ t_v0 hF _ _ hR hS _ (lv_sub hl [0] rfl)
      · have hF := xel hF c3
        refine lv_aload_n hx hb dX12_token_234 rfl (lv_at hl 0 rfl) ?_
        refine gf_X12_130 C0 hR t_v0 dX12_token_235 ?_
        refine lv_goto (tgt := 261) hx hb dX12_token_238 (by decide) ?_
        obtain ⟨h8, e_h8, hF⟩ := xbd hF
        refine pf_X12_130 C0 hR hS t_v0 dX12_token_261 (fun H locs hR hS => ?_)
        rw [Option.some.inj e_h8] at hR
        refine lv_aload_n hx hb dX12_token_264 rfl (lv_at hl 0 rfl) ?_
        refine lv_dup hx hb dX12_token_265 rfl ?_
        refine gf_X12_116 C0 hR t_v0 dX12_token_266 ?_
        refine lv_iconst (v := 1) hx hb dX12_token_269 (by decide) ?_
        refine lv_iadd hx hb dX12_token_270 ?_
        obtain ⟨h9, e_h9, hF⟩ := xbd hF
        refine pf_X12_116 C0 hR hS t_v0 dX12_token_271 (fun H locs hR hS => ?_)
        rw [Option.some.inj e_h9] at hR
        refine lv_goto (tgt := 213) hx hb dX12_token_274 (by decide) ?_
        exact ih _ _ t_v0 hF _ _ hR hS _ (lv_sub hl [0] rfl)
set_option maxHeartbeats 4000000 in
set_option maxRecDepth 100000 in
theorem jw_X12_token_162 {p : Program} {l : Launch} {e : Env} {s : State} {m : MethodId} {args : Array Value} {below : List Frame} {meth : Method} {c : Code} {D : xD} {ty : xTy} (C0 : xC D RX12 cX12_token 1 none p s m args meth c) {h9 : xH} : ∀ (v0 : Nat) (s0 : Nat) (s1 : Int32) (h : xH), ty v0 = some (0, 12) → ty s0 = some (0, 12) → jf_X12_token_162 ty v0 s0 s1 h = some h9 → ∀ (H : Heap) (locs : List Loc), xRep D ty h H → xS ty s.heap H locs → ∀ ls : Array Slot, lv_has ls 1 [(0, .ref v0)] → W p l e jr_X12_token s m args below meth c H locs 0 0 (MQ below (xQ D ty none h9) args s 0 0 (xdom ty)) (F0 m 162 ls [.int s1, .ref s0]) := by
  have hx := C0.1
  have hb := C0.2.1
  have hown := C0.2.2.2.2.2.1
  have hts := C0.2.2.2.2.2.2.1
  intro v0 s0 s1 h t_v0 t_s0 hF H locs hR hS ls hl
  unfold jf_X12_token_162 at hF
  obtain ⟨h10, e_h10, hF⟩ := xbd hF
  refine pf_X12_119 C0 hR hS t_s0 dX12_token_162 (fun H locs hR hS => ?_)
  rw [Option.some.inj e_h10] at hR
  refine lv_aload_n hx hb dX12_token_165 rfl (lv_at hl 0 rfl) ?_
  refine gf_X12_119 C0 hR t_v0 dX12_token_166 ?_
  refine lv_iconst (v := 2) hx hb dX12_token_169 (by decide) ?_
  refine lv_icmp_ne (tgt := 281) hx hb dX12_token_170 (by decide) (fun c11 => ?_) (fun c11 => ?_)
  · have hF := xel hF c11
    cases hF
    exact x_vret C0 hR hS dX12_token_281
  · have hF := xif hF c11
    refine lv_aload_n hx hb dX12_token_173 rfl (lv_at hl 0 rfl) ?_
    refine lv_aload_n hx hb dX12_token_174 rfl (lv_at hl 0 rfl) ?_
    refine lv_aload_n hx hb dX12_token_175 rfl (lv_at hl 0 rfl) ?_
    refine gf_X12_110 C0 hR t_v0 dX12_token_176 ?_
    refine lv_aload_n hx hb dX12_token_179 rfl (lv_at hl 0 rfl) ?_
    refine gf_X12_116 C0 hR t_v0 dX12_token_180 ?_
    obtain ⟨a12, e_a12, hF⟩ := xbd hF
    refine cl_X12_133 C0 hR hS e_a12 t_v0 ⟨(Nat.le_of_ble_eq_true rfl), (Nat.le_of_ble_eq_true rfl)⟩ hl.1 (Nat.le_of_ble_eq_true rfl) ⟨(Nat.le_of_ble_eq_true rfl), (Nat.le_of_ble_eq_true rfl)⟩ dX12_token_183 (fun H locs hR hS => ?_)
    obtain ⟨h13, e_h13, hF⟩ := xbd hF
    refine pf_X12_130 C0 hR hS t_v0 dX12_token_186 (fun H locs hR hS => ?_)
    rw [Option.some.inj e_h13] at hR
    refine lv_goto (tgt := 281) hx hb dX12_token_189 (by decide) ?_
    cases hF
    exact x_vret C0 hR hS dX12_token_281
set_option maxHeartbeats 4000000 in
set_option maxRecDepth 100000 in
theorem jw_X12_token_90 {p : Program} {l : Launch} {e : Env} {s : State} {m : MethodId} {args : Array Value} {below : List Frame} {meth : Method} {c : Code} {D : xD} {ty : xTy} (C0 : xC D RX12 cX12_token 1 none p s m args meth c) {h9 : xH} : ∀ n : Nat, ∀ (v0 : Nat) (h : xH), ty v0 = some (0, 12) → jf_X12_token_90 ty n v0 h = some h9 → ∀ (H : Heap) (locs : List Loc), xRep D ty h H → xS ty s.heap H locs → ∀ ls : Array Slot, lv_has ls 1 [(0, .ref v0)] → W p l e jr_X12_token s m args below meth c H locs 0 0 (MQ below (xQ D ty none h9) args s 0 0 (xdom ty)) (F0 m 90 ls []) := by
  have hx := C0.1
  have hb := C0.2.1
  have hown := C0.2.2.2.2.2.1
  have hts := C0.2.2.2.2.2.2.1
  intro n
  induction n with
  | zero =>
    intro v0 h t_v0 hF H locs hR hS ls hl
    cases hF
  | succ n ih =>
    intro v0 h t_v0 hF H locs hR hS ls hl
    rw [jf_X12_token_90_s] at hF
    refine lv_aload_n hx hb dX12_token_90 rfl (lv_at hl 0 rfl) ?_
    refine lv_aload_n hx hb dX12_token_91 rfl (lv_at hl 0 rfl) ?_
    refine gf_X12_116 C0 hR t_v0 dX12_token_92 ?_
    obtain ⟨a14, e_a14, hF⟩ := xbd hF
    refine cl_X12_122 C0 hR hS e_a14 t_v0 ⟨(Nat.le_of_ble_eq_true rfl), (Nat.le_of_ble_eq_true rfl)⟩ hl.1 (Nat.le_of_ble_eq_true rfl) ⟨(Nat.le_of_ble_eq_true rfl), (Nat.le_of_ble_eq_true rfl)⟩ dX12_token_95 (fun H locs hR hS => ?_)
    refine lv_if_eq (tgt := 114) hx hb dX12_token_98 (by decide) (fun c15 => ?_) (fun c15 => ?_)
    · have hF := xif hF c15
      refine lv_aload_n hx hb dX12_token_114 rfl (lv_at hl 0 rfl) ?_
      refine lv_aload_n hx hb dX12_token_115 rfl (lv_at hl 0 rfl) ?_
      refine lv_aload_n hx hb dX12_token_116 rfl (lv_at hl 0 rfl) ?_
      refine gf_X12_110 C0 hR t_v0 dX12_token_117 ?_
      refine lv_aload_n hx hb dX12_token_120 rfl (lv_at hl 0 rfl) ?_
      refine gf_X12_116 C0 hR t_v0 dX12_token_121 ?_
      obtain ⟨a16, e_a16, hF⟩ := xbd hF
      refine cl_X12_126 C0 hR hS e_a16 t_v0 ⟨(Nat.le_of_ble_eq_true rfl), (Nat.le_of_ble_eq_true rfl)⟩ hl.1 (Nat.le_of_ble_eq_true rfl) ⟨(Nat.le_of_ble_eq_true rfl), (Nat.le_of_ble_eq_true rfl)⟩ dX12_token_124 (fun H locs hR hS => ?_)
      obtain ⟨h17, e_h17, hF⟩ := xbd hF
      refine pf_X12_130 C0 hR hS t_v0 dX12_token_127 (fun H locs hR hS => ?_)
      rw [Option.some.inj e_h17] at hR
      refine lv_aload_n hx hb dX12_token_130 rfl (lv_at hl 0 rfl) ?_
      refine lv_aload_n hx hb dX12_token_131 rfl (lv_at hl 0 rfl) ?_
      refine gf_X12_130 C0 hR t_v0 dX12_token_132 ?_
      refine lv_if_lt (tgt := 142) hx hb dX12_token_135 (by decide) (fun c18 => ?_) (fun c18 => ?_)
      · have hF := xif hF c18
        refine lv_aload_n hx hb dX12_token_142 rfl (lv_at hl 0 rfl) ?_
        refine gf_X12_116 C0 hR t_v0 dX12_token_143 ?_
        refine lv_aload_n hx hb dX12_token_146 rfl (lv_at hl 0 rfl) ?_
        refine gf_X12_110 C0 hR t_v0 dX12_token_147 ?_
        refine lv_isub hx hb dX12_token_150 ?_
        refine lv_bipush (v := 6) hx hb dX12_token_151 (by decide) ?_
        refine lv_icmp_le (tgt := 161) hx hb dX12_token_153 (by decide) (fun c19 => ?_) (fun c19 => ?_)
        · have hF := xif hF c19
          refine lv_iconst (v := 2) hx hb dX12_token_161 (by decide) ?_
          exact jw_X12_token_162 C0 _ _ _ _ t_v0 t_v0 hF _ _ hR hS _ (lv_sub hl [0] rfl)
        · have hF := xel hF c19
          refine lv_bipush (v := 6) hx hb dX12_token_156 (by decide) ?_
          refine lv_goto (tgt := 162) hx hb dX12_token_158 (by decide) ?_
          exact jw_X12_token_162 C0 _ _ _ _ t_v0 t_v0 hF _ _ hR hS _ (lv_sub hl [0] rfl)
      · have hF := xel hF c18
        refine lv_iconst (v := 1) hx hb dX12_token_138 (by decide) ?_
        refine lv_goto (tgt := 162) hx hb dX12_token_139 (by decide) ?_
        exact jw_X12_token_162 C0 _ _ _ _ t_v0 t_v0 hF _ _ hR hS _ (lv_sub hl [0] rfl)
    · have hF := xel hF c15
      refine lv_aload_n hx hb dX12_token_101 rfl (lv_at hl 0 rfl) ?_
      refine lv_dup hx hb dX12_token_102 rfl ?_
      refine gf_X12_116 C0 hR t_v0 dX12_token_103 ?_
      refine lv_iconst (v := 1) hx hb dX12_token_106 (by decide) ?_
      refine lv_iadd hx hb dX12_token_107 ?_
      obtain ⟨h20, e_h20, hF⟩ := xbd hF
      refine pf_X12_116 C0 hR hS t_v0 dX12_token_108 (fun H locs hR hS => ?_)
      rw [Option.some.inj e_h20] at hR
      refine lv_goto (tgt := 90) hx hb dX12_token_111 (by decide) ?_
      exact ih _ _ t_v0 hF _ _ hR hS _ (lv_sub hl [0] rfl)
set_option maxHeartbeats 4000000 in
set_option maxRecDepth 100000 in
theorem jw_X12_token_52 {p : Program} {l : Launch} {e : Env} {s : State} {m : MethodId} {args : Array Value} {below : List Frame} {meth : Method} {c : Code} {D : xD} {ty : xTy} (C0 : xC D RX12 cX12_token 1 none p s m args meth c) {h9 : xH} : ∀ (v0 : Nat) (h : xH), ty v0 = some (0, 12) → jf_X12_token_52 ty v0 h = some h9 → ∀ (H : Heap) (locs : List Loc), xRep D ty h H → xS ty s.heap H locs → ∀ ls : Array Slot, lv_has ls 1 [(0, .ref v0)] → W p l e jr_X12_token s m args below meth c H locs 0 0 (MQ below (xQ D ty none h9) args s 0 0 (xdom ty)) (F0 m 52 ls []) := by
  have hx := C0.1
  have hb := C0.2.1
  have hown := C0.2.2.2.2.2.1
  have hts := C0.2.2.2.2.2.2.1
  intro v0 h t_v0 hF H locs hR hS ls hl
  unfold jf_X12_token_52 at hF
  refine lv_aload_n hx hb dX12_token_52 rfl (lv_at hl 0 rfl) ?_
  refine lv_aload_n hx hb dX12_token_53 rfl (lv_at hl 0 rfl) ?_
  refine gf_X12_116 C0 hR t_v0 dX12_token_54 ?_
  obtain ⟨h21, e_h21, hF⟩ := xbd hF
  refine pf_X12_110 C0 hR hS t_v0 dX12_token_57 (fun H locs hR hS => ?_)
  rw [Option.some.inj e_h21] at hR
  refine lv_aload_n hx hb dX12_token_60 rfl (lv_at hl 0 rfl) ?_
  refine gf_X12_116 C0 hR t_v0 dX12_token_61 ?_
  refine lv_aload_n hx hb dX12_token_64 rfl (lv_at hl 0 rfl) ?_
  refine gf_X12_113 C0 hR t_v0 dX12_token_65 ?_
  refine lv_icmp_ne (tgt := 79) hx hb dX12_token_68 (by decide) (fun c22 => ?_) (fun c22 => ?_)
  · have hF := xel hF c22
    refine lv_aload_n hx hb dX12_token_79 rfl (lv_at hl 0 rfl) ?_
    refine lv_aload_n hx hb dX12_token_80 rfl (lv_at hl 0 rfl) ?_
    refine gf_X12_116 C0 hR t_v0 dX12_token_81 ?_
    obtain ⟨a23, e_a23, hF⟩ := xbd hF
    refine cl_X12_122 C0 hR hS e_a23 t_v0 ⟨(Nat.le_of_ble_eq_true rfl), (Nat.le_of_ble_eq_true rfl)⟩ hl.1 (Nat.le_of_ble_eq_true rfl) ⟨(Nat.le_of_ble_eq_true rfl), (Nat.le_of_ble_eq_true rfl)⟩ dX12_token_84 (fun H locs hR hS => ?_)
    refine lv_if_eq (tgt := 192) hx hb dX12_token_87 (by decide) (fun c24 => ?_) (fun c24 => ?_)
    · have hF := xif hF c24
      refine lv_aload_n hx hb dX12_token_192 rfl (lv_at hl 0 rfl) ?_
      refine lv_aload_n hx hb dX12_token_193 rfl (lv_at hl 0 rfl) ?_
      refine gf_X12_116 C0 hR t_v0 dX12_token_194 ?_
      obtain ⟨a25, e_a25, hF⟩ := xbd hF
      refine cl_X12_136 C0 hR hS e_a25 t_v0 ⟨(Nat.le_of_ble_eq_true rfl), (Nat.le_of_ble_eq_true rfl)⟩ hl.1 (Nat.le_of_ble_eq_true rfl) ⟨(Nat.le_of_ble_eq_true rfl), (Nat.le_of_ble_eq_true rfl)⟩ dX12_token_197 (fun H locs hR hS => ?_)
      refine lv_if_eq (tgt := 277) hx hb dX12_token_200 (by decide) (fun c26 => ?_) (fun c26 => ?_)
      · have hF := xif hF c26
        refine lv_aload_n hx hb dX12_token_277 rfl (lv_at hl 0 rfl) ?_
        obtain ⟨h27, e_h27, hF⟩ := xbd hF
        refine cl_X12_140 C0 hR hS e_h27 t_v0 ⟨(Nat.le_of_ble_eq_true rfl), (Nat.le_of_ble_eq_true rfl)⟩ hl.1 (Nat.le_of_ble_eq_true rfl) ⟨(Nat.le_of_ble_eq_true rfl), (Nat.le_of_ble_eq_true rfl)⟩ dX12_token_278 (fun H locs hR hS => ?_)
        cases hF
        exact x_vret C0 hR hS dX12_token_281
      · have hF := xel hF c26
        refine lv_aload_n hx hb dX12_token_203 rfl (lv_at hl 0 rfl) ?_
        refine lv_iconst (v := 3) hx hb dX12_token_204 (by decide) ?_
        obtain ⟨h28, e_h28, hF⟩ := xbd hF
        refine pf_X12_119 C0 hR hS t_v0 dX12_token_205 (fun H locs hR hS => ?_)
        rw [Option.some.inj e_h28] at hR
        refine lv_aload_n hx hb dX12_token_208 rfl (lv_at hl 0 rfl) ?_
        refine lv_iconst (v := 0) hx hb dX12_token_209 (by decide) ?_
        obtain ⟨h29, e_h29, hF⟩ := xbd hF
        refine pf_X12_130 C0 hR hS t_v0 dX12_token_210 (fun H locs hR hS => ?_)
        rw [Option.some.inj e_h29] at hR
        obtain ⟨_, hF⟩ := xlim_sp hF
        exact jw_X12_token_213 C0 _ _ _ t_v0 hF _ _ hR hS _ (lv_sub hl [0] rfl)
    · have hF := xel hF c24
      obtain ⟨_, hF⟩ := xlim_sp hF
      exact jw_X12_token_90 C0 _ _ _ t_v0 hF _ _ hR hS _ (lv_sub hl [0] rfl)
  · have hF := xif hF c22
    refine lv_aload_n hx hb dX12_token_71 rfl (lv_at hl 0 rfl) ?_
    refine lv_iconst (v := 0) hx hb dX12_token_72 (by decide) ?_
    obtain ⟨h30, e_h30, hF⟩ := xbd hF
    refine pf_X12_119 C0 hR hS t_v0 dX12_token_73 (fun H locs hR hS => ?_)
    rw [Option.some.inj e_h30] at hR
    refine lv_goto (tgt := 281) hx hb dX12_token_76 (by decide) ?_
    cases hF
    exact x_vret C0 hR hS dX12_token_281
set_option maxHeartbeats 4000000 in
set_option maxRecDepth 100000 in
theorem jw_X12_token_0 {p : Program} {l : Launch} {e : Env} {s : State} {m : MethodId} {args : Array Value} {below : List Frame} {meth : Method} {c : Code} {D : xD} {ty : xTy} (C0 : xC D RX12 cX12_token 1 none p s m args meth c) {h9 : xH} : ∀ n : Nat, ∀ (v0 : Nat) (h : xH), ty v0 = some (0, 12) → jf_X12_token_0 ty n v0 h = some h9 → ∀ (H : Heap) (locs : List Loc), xRep D ty h H → xS ty s.heap H locs → ∀ ls : Array Slot, lv_has ls 1 [(0, .ref v0)] → W p l e jr_X12_token s m args below meth c H locs 0 0 (MQ below (xQ D ty none h9) args s 0 0 (xdom ty)) (F0 m 0 ls []) := by
  have hx := C0.1
  have hb := C0.2.1
  have hown := C0.2.2.2.2.2.1
  have hts := C0.2.2.2.2.2.2.1
  intro n
  induction n with
  | zero =>
    intro v0 h t_v0 hF H locs hR hS ls hl
    cases hF
  | succ n ih =>
    intro v0 h t_v0 hF H locs hR hS ls hl
    rw [jf_X12_token_0_s] at hF
    refine lv_aload_n hx hb dX12_token_0 rfl (lv_at hl 0 rfl) ?_
    refine gf_X12_116 C0 hR t_v0 dX12_token_1 ?_
    refine lv_aload_n hx hb dX12_token_4 rfl (lv_at hl 0 rfl) ?_
    refine gf_X12_113 C0 hR t_v0 dX12_token_5 ?_
    refine lv_icmp_ge (tgt := 52) hx hb dX12_token_8 (by decide) (fun c31 => ?_) (fun c31 => ?_)
    · have hF := xif hF c31
      exact jw_X12_token_52 C0 _ _ t_v0 hF _ _ hR hS _ (lv_sub hl [0] rfl)
    · have hF := xel hF c31
      refine lv_aload_n hx hb dX12_token_11 rfl (lv_at hl 0 rfl) ?_
      obtain ⟨a32, e_a32, hF⟩ := xbd hF
      refine gf_X12_7 C0 hR t_v0 e_a32 dX12_token_12 ?_
      refine lv_aload_n hx hb dX12_token_15 rfl (lv_at hl 0 rfl) ?_
      refine gf_X12_116 C0 hR t_v0 dX12_token_16 ?_
      obtain ⟨a33, e_a33, hF⟩ := xbd hF
      refine x_iald C0 hR e_a33 dX12_token_19 ?_
      refine lv_bipush (v := 10) hx hb dX12_token_20 (by decide) ?_
      refine lv_icmp_eq (tgt := 39) hx hb dX12_token_22 (by decide) (fun c34 => ?_) (fun c34 => ?_)
      · have hF := xif hF c34
        refine lv_aload_n hx hb dX12_token_39 rfl (lv_at hl 0 rfl) ?_
        refine lv_dup hx hb dX12_token_40 rfl ?_
        refine gf_X12_116 C0 hR t_v0 dX12_token_41 ?_
        refine lv_iconst (v := 1) hx hb dX12_token_44 (by decide) ?_
        refine lv_iadd hx hb dX12_token_45 ?_
        obtain ⟨h35, e_h35, hF⟩ := xbd hF
        refine pf_X12_116 C0 hR hS t_v0 dX12_token_46 (fun H locs hR hS => ?_)
        rw [Option.some.inj e_h35] at hR
        refine lv_goto (tgt := 0) hx hb dX12_token_49 (by decide) ?_
        exact ih _ _ t_v0 hF _ _ hR hS _ (lv_sub hl [0] rfl)
      · have hF := xel hF c34
        refine lv_aload_n hx hb dX12_token_25 rfl (lv_at hl 0 rfl) ?_
        obtain ⟨a36, e_a36, hF⟩ := xbd hF
        refine gf_X12_7 C0 hR t_v0 e_a36 dX12_token_26 ?_
        refine lv_aload_n hx hb dX12_token_29 rfl (lv_at hl 0 rfl) ?_
        refine gf_X12_116 C0 hR t_v0 dX12_token_30 ?_
        obtain ⟨a37, e_a37, hF⟩ := xbd hF
        refine x_iald C0 hR e_a37 dX12_token_33 ?_
        refine lv_bipush (v := 32) hx hb dX12_token_34 (by decide) ?_
        refine lv_icmp_ne (tgt := 52) hx hb dX12_token_36 (by decide) (fun c38 => ?_) (fun c38 => ?_)
        · have hF := xel hF c38
          exact jw_X12_token_52 C0 _ _ t_v0 hF _ _ hR hS _ (lv_sub hl [0] rfl)
        · have hF := xif hF c38
          refine lv_aload_n hx hb dX12_token_39 rfl (lv_at hl 0 rfl) ?_
          refine lv_dup hx hb dX12_token_40 rfl ?_
          refine gf_X12_116 C0 hR t_v0 dX12_token_41 ?_
          refine lv_iconst (v := 1) hx hb dX12_token_44 (by decide) ?_
          refine lv_iadd hx hb dX12_token_45 ?_
          obtain ⟨h39, e_h39, hF⟩ := xbd hF
          refine pf_X12_116 C0 hR hS t_v0 dX12_token_46 (fun H locs hR hS => ?_)
          rw [Option.some.inj e_h39] at hR
          refine lv_goto (tgt := 0) hx hb dX12_token_49 (by decide) ?_
          exact ih _ _ t_v0 hF _ _ hR hS _ (lv_sub hl [0] rfl)
set_option maxHeartbeats 4000000 in
set_option maxRecDepth 100000 in
theorem jc_X12_token {l : Launch} {D : xD} {ty : xTy} {h : xH} {v0 : Nat} {h9 : xH} (t_v0 : ty v0 = some (0, 12)) (hF : jf_X12_token ty h v0 = some h9) : Met l yX12_token (xws yX12_token cX12_token 1 none) jr_X12_token (xPc D ty h [.ref v0]) (xQ D ty none h9) 0 0 (xdom ty) := by
  refine x_met (by decide) ?_
  intro p e s m below meth c C0 hR
  generalize hargs : ([.ref v0] : List Value).toArray = args at C0 ⊢
  have hx := C0.1
  have hb := C0.2.1
  have hown := C0.2.2.2.2.2.1
  have hts := C0.2.2.2.2.2.2.1
  have hS : xS ty s.heap s.heap [] := xS.rf
  have hl := lv_entry ([.ref v0]) (n := 1) (Nat.le_of_ble_eq_true rfl)
  rw [← hargs, lg_entry_eq]
  rw [hargs]
  generalize (lg_sl ([.ref v0]) ++ List.replicate (1 - (lg_sl ([.ref v0])).length) Slot.unset).toArray = ls at hl ⊢
  have hl : lv_has ls 1 [(0, .ref v0)] := hl
  unfold jf_X12_token at hF
  obtain ⟨_, hF⟩ := xlim_sp hF
  exact jw_X12_token_0 C0 _ _ _ t_v0 hF _ _ hR hS _ (lv_sub hl [0] rfl)
theorem xm_X12_token : xMw yX12_token cX12_token 1 none 0 := ⟨xin 1512 (by decide +kernel) rfl, xin 126 (by decide +kernel) rfl, by decide +kernel⟩
theorem xi_X12_token : Cond.instanceMethod yX12_token ∈ xT := xin 1511 (by decide +kernel) rfl
theorem xe_X12_token : Cond.selects yX12_token.cls yX12_token yX12_token ∈ xT := xin 55 (by decide +kernel) rfl
theorem dX12_isSign_0 : decode cX12_isSign 0 = .ok (.aload_n 0, 1) := by decide +kernel
theorem dX12_isSign_1 : decode cX12_isSign 1 = .ok (.getfield 119, 3) := by decide +kernel
theorem dX12_isSign_4 : decode cX12_isSign 4 = .ok (.iconst 4, 1) := by decide +kernel
theorem dX12_isSign_5 : decode cX12_isSign 5 = .ok (.if_icmp .ne 15, 3) := by decide +kernel
theorem dX12_isSign_8 : decode cX12_isSign 8 = .ok (.aload_n 0, 1) := by decide +kernel
theorem dX12_isSign_9 : decode cX12_isSign 9 = .ok (.getfield 130, 3) := by decide +kernel
theorem dX12_isSign_12 : decode cX12_isSign 12 = .ok (.iload_n 1, 1) := by decide +kernel
theorem dX12_isSign_13 : decode cX12_isSign 13 = .ok (.if_icmp .ne 7, 3) := by decide +kernel
theorem dX12_isSign_16 : decode cX12_isSign 16 = .ok (.iconst 1, 1) := by decide +kernel
theorem dX12_isSign_17 : decode cX12_isSign 17 = .ok (.goto 4, 3) := by decide +kernel
theorem dX12_isSign_20 : decode cX12_isSign 20 = .ok (.iconst 0, 1) := by decide +kernel
theorem dX12_isSign_21 : decode cX12_isSign 21 = .ok (.ireturn, 1) := by decide +kernel
set_option maxHeartbeats 4000000 in
set_option maxRecDepth 100000 in
theorem jc_X12_isSign {l : Launch} {D : xD} {ty : xTy} {h : xH} {v0 : Nat} {v1 : Int32} {r : Int32} (t_v0 : ty v0 = some (0, 12)) (hF : jf_X12_isSign ty h v0 v1 = some r) : Met l yX12_isSign (xws yX12_isSign cX12_isSign 2 (some .boolean)) jr_X12_isSign (xPc D ty h [.ref v0, .int v1]) (xQ D ty (some (.int r)) h) 0 0 (xdom ty) := by
  refine x_met (by decide) ?_
  intro p e s m below meth c C0 hR
  generalize hargs : ([.ref v0, .int v1] : List Value).toArray = args at C0 ⊢
  have hx := C0.1
  have hb := C0.2.1
  have hown := C0.2.2.2.2.2.1
  have hts := C0.2.2.2.2.2.2.1
  have hS : xS ty s.heap s.heap [] := xS.rf
  have hl := lv_entry ([.ref v0, .int v1]) (n := 2) (Nat.le_of_ble_eq_true rfl)
  rw [← hargs, lg_entry_eq]
  rw [hargs]
  generalize (lg_sl ([.ref v0, .int v1]) ++ List.replicate (2 - (lg_sl ([.ref v0, .int v1])).length) Slot.unset).toArray = ls at hl ⊢
  have hl : lv_has ls 2 [(0, .ref v0), (1, .int v1)] := hl
  unfold jf_X12_isSign at hF
  refine lv_aload_n hx hb dX12_isSign_0 rfl (lv_at hl 0 rfl) ?_
  refine gf_X12_119 C0 hR t_v0 dX12_isSign_1 ?_
  refine lv_iconst (v := 4) hx hb dX12_isSign_4 (by decide) ?_
  refine lv_icmp_ne (tgt := 20) hx hb dX12_isSign_5 (by decide) (fun c1 => ?_) (fun c1 => ?_)
  · have hF := xel hF c1
    refine lv_iconst (v := 0) hx hb dX12_isSign_20 (by decide) ?_
    cases hF
    exact x_zret (w := 0) C0 hR hS (by decide) dX12_isSign_21
  · have hF := xif hF c1
    refine lv_aload_n hx hb dX12_isSign_8 rfl (lv_at hl 0 rfl) ?_
    refine gf_X12_130 C0 hR t_v0 dX12_isSign_9 ?_
    refine lv_iload_n hx hb dX12_isSign_12 rfl (lv_at hl 1 rfl) ?_
    refine lv_icmp_ne (tgt := 20) hx hb dX12_isSign_13 (by decide) (fun c2 => ?_) (fun c2 => ?_)
    · have hF := xel hF c2
      refine lv_iconst (v := 0) hx hb dX12_isSign_20 (by decide) ?_
      cases hF
      exact x_zret (w := 0) C0 hR hS (by decide) dX12_isSign_21
    · have hF := xif hF c2
      refine lv_iconst (v := 1) hx hb dX12_isSign_16 (by decide) ?_
      refine lv_goto (tgt := 21) hx hb dX12_isSign_17 (by decide) ?_
      cases hF
      exact x_zret (w := 1) C0 hR hS (by decide) dX12_isSign_21
theorem xm_X12_isSign : xMw yX12_isSign cX12_isSign 2 (some .boolean) 1 := ⟨xin 1575 (by decide +kernel) rfl, xin 126 (by decide +kernel) rfl, by decide +kernel⟩
theorem xi_X12_isSign : Cond.instanceMethod yX12_isSign ∈ xT := xin 1574 (by decide +kernel) rfl
theorem xe_X12_isSign : Cond.selects yX12_isSign.cls yX12_isSign yX12_isSign ∈ xT := xin 69 (by decide +kernel) rfl
theorem dX12_number_0 : decode cX12_number 0 = .ok (.aload_n 0, 1) := by decide +kernel
theorem dX12_number_1 : decode cX12_number 1 = .ok (.getfield 119, 3) := by decide +kernel
theorem dX12_number_4 : decode cX12_number 4 = .ok (.iconst 3, 1) := by decide +kernel
theorem dX12_number_5 : decode cX12_number 5 = .ok (.if_icmp .eq 9, 3) := by decide +kernel
theorem dX12_number_8 : decode cX12_number 8 = .ok (.aload_n 0, 1) := by decide +kernel
theorem dX12_number_9 : decode cX12_number 9 = .ok (.iconst 1, 1) := by decide +kernel
theorem dX12_number_10 : decode cX12_number 10 = .ok (.invokevirtual 143, 3) := by decide +kernel
theorem dX12_number_13 : decode cX12_number 13 = .ok (.ireturn, 1) := by decide +kernel
theorem dX12_number_14 : decode cX12_number 14 = .ok (.aload_n 0, 1) := by decide +kernel
theorem dX12_number_15 : decode cX12_number 15 = .ok (.getfield 130, 3) := by decide +kernel
theorem dX12_number_18 : decode cX12_number 18 = .ok (.iload_n 1, 1) := by decide +kernel
theorem dX12_number_19 : decode cX12_number 19 = .ok (.iload_n 2, 1) := by decide +kernel
theorem dX12_number_20 : decode cX12_number 20 = .ok (.invokestatic 146, 3) := by decide +kernel
theorem dX12_number_23 : decode cX12_number 23 = .ok (.ifCond .ne 9, 3) := by decide +kernel
theorem dX12_number_26 : decode cX12_number 26 = .ok (.aload_n 0, 1) := by decide +kernel
theorem dX12_number_27 : decode cX12_number 27 = .ok (.iconst 2, 1) := by decide +kernel
theorem dX12_number_28 : decode cX12_number 28 = .ok (.invokevirtual 143, 3) := by decide +kernel
theorem dX12_number_31 : decode cX12_number 31 = .ok (.ireturn, 1) := by decide +kernel
theorem dX12_number_32 : decode cX12_number 32 = .ok (.aload_n 0, 1) := by decide +kernel
theorem dX12_number_33 : decode cX12_number 33 = .ok (.aload_n 0, 1) := by decide +kernel
theorem dX12_number_34 : decode cX12_number 34 = .ok (.getfield 130, 3) := by decide +kernel
theorem dX12_number_37 : decode cX12_number 37 = .ok (.putfield 150, 3) := by decide +kernel
theorem dX12_number_40 : decode cX12_number 40 = .ok (.aload_n 0, 1) := by decide +kernel
theorem dX12_number_41 : decode cX12_number 41 = .ok (.invokevirtual 153, 3) := by decide +kernel
theorem dX12_number_44 : decode cX12_number 44 = .ok (.iconst 1, 1) := by decide +kernel
theorem dX12_number_45 : decode cX12_number 45 = .ok (.ireturn, 1) := by decide +kernel
theorem wl_X12_143 : Cond.methodLink RX12 143 yX12_wrong ∈ xT := xin 1538 (by decide +kernel) rfl
theorem wl_X12_146 : Cond.methodLink RX12 146 yX12_isIn ∈ xT := xin 1557 (by decide +kernel) rfl
theorem wl_X12_153 : Cond.methodLink RX12 153 yX12_token ∈ xT := xin 1509 (by decide +kernel) rfl
theorem wf_X12_150 : Cond.fieldLink RX12 150 "TermShelfModel" "got" "I" ∈ xT := xin 1323 (by decide +kernel) rfl
section XN_X12_number
variable {p : Program} {l : Launch} {e : Env} {R : Room} {s : State} {m : MethodId} {args : Array Value} {below : List Frame} {meth : Method} {c : Code} {H H0 : Heap} {locs : List Loc} {cells slots : Nat} {Q : State → Prop} {cc : ByteArray} {nL pc : Nat} {rt : Option FieldType} {ls : Array Slot} {rest : List Value} {D : xD} {ty : xTy} {h : xH}
theorem cl_X12_143 {v0 : Nat} {v1 : Int32} {r : Int32} {h9 : xH} (C0 : xC D RX12 cc nL rt p s m args meth c) (hR : xRep D ty h H) (hS : xS ty H0 H locs) (hF : jf_X12_wrong ty h v0 v1 = some (r, h9)) (t_v0 : ty v0 = some (0, 12)) (hrm : jr_X12_wrong.frames + 1 ≤ R.frames ∧ 8 + (2 + 11) + jr_X12_wrong.locals ≤ R.locals) (hsz : ls.size = nL) (hW : (rest.map fun v => v.category).sum ≤ 8) (hf : cells ≤ R.cells ∧ slots ≤ R.slots) (hdg : decode cc pc = .ok (.invokevirtual 143, 3)) (kk : ∀ (H1 : Heap) (locs1 : List Loc), xRep D ty h9 H1 → xS ty H0 H1 locs1 → W p l e R s m args below meth c H1 locs1 cells slots Q (F0 m (pc + 3) ls (.int r :: rest))) : W p l e R s m args below meth c H locs cells slots Q (F0 m pc ls (.int v1 :: .ref v0 :: rest)) := x_callV C0 (jc_X12_wrong t_v0 hF) xm_X12_wrong xi_X12_wrong xe_X12_wrong wl_X12_143 ⟨rfl, rfl, hrm⟩ (ci := 12) rfl t_v0 hR hS (As := [.int v1]) rfl hsz rfl hW hdg hf kk
theorem cl_X12_146 {v0 : Int32} {v1 : Int32} {v2 : Int32} {r : Int32} (C0 : xC D RX12 cc nL rt p s m args meth c) (hR : xRep D ty h H) (hS : xS ty H0 H locs) (hF : jf_X12_isIn v0 v1 v2 = some r) (hrm : jr_X12_isIn.frames + 1 ≤ R.frames ∧ 8 + (3 + 11) + jr_X12_isIn.locals ≤ R.locals) (hsz : ls.size = nL) (hW : (rest.map fun v => v.category).sum ≤ 8) (hf : cells ≤ R.cells ∧ slots ≤ R.slots) (hdg : decode cc pc = .ok (.invokestatic 146, 3)) (kk : ∀ (H1 : Heap) (locs1 : List Loc), xRep D ty h H1 → xS ty H0 H1 locs1 → W p l e R s m args below meth c H1 locs1 cells slots Q (F0 m (pc + 3) ls (.int r :: rest))) : W p l e R s m args below meth c H locs cells slots Q (F0 m pc ls (.int v2 :: .int v1 :: .int v0 :: rest)) := x_callS C0 (jc_X12_isIn  hF) xm_X12_isIn xs_X12_isIn wl_X12_146 ⟨rfl, rfl, hrm⟩ hR hS (As := [.int v0, .int v1, .int v2]) rfl hsz rfl hW hdg hf kk
theorem cl_X12_153 {v0 : Nat} {h9 : xH} (C0 : xC D RX12 cc nL rt p s m args meth c) (hR : xRep D ty h H) (hS : xS ty H0 H locs) (hF : jf_X12_token ty h v0 = some h9) (t_v0 : ty v0 = some (0, 12)) (hrm : jr_X12_token.frames + 1 ≤ R.frames ∧ 8 + (1 + 11) + jr_X12_token.locals ≤ R.locals) (hsz : ls.size = nL) (hW : (rest.map fun v => v.category).sum ≤ 8) (hf : cells ≤ R.cells ∧ slots ≤ R.slots) (hdg : decode cc pc = .ok (.invokevirtual 153, 3)) (kk : ∀ (H1 : Heap) (locs1 : List Loc), xRep D ty h9 H1 → xS ty H0 H1 locs1 → W p l e R s m args below meth c H1 locs1 cells slots Q (F0 m (pc + 3) ls rest)) : W p l e R s m args below meth c H locs cells slots Q (F0 m pc ls (.ref v0 :: rest)) := x_callV C0 (jc_X12_token t_v0 hF) xm_X12_token xi_X12_token xe_X12_token wl_X12_153 ⟨rfl, rfl, hrm⟩ (ci := 12) rfl t_v0 hR hS (As := []) rfl hsz rfl hW hdg hf kk
theorem pf_X12_150 {a : Nat} {v : Int32} (C0 : xC D RX12 cc nL rt p s m args meth c) (hR : xRep D ty h H) (hS : xS ty H0 H locs) (ht : ty a = some (0, 12)) (hdg : decode cc pc = .ok (.putfield 150, 3)) (kk : ∀ (H1 : Heap) (locs1 : List Loc), xRep D ty (xsI h a 11 v) H1 → xS ty H0 H1 locs1 → W p l e R s m args below meth c H1 locs1 cells slots Q (F0 m (pc + 3) ls rest)) : W p l e R s m args below meth c H locs cells slots Q (F0 m pc ls (.int v :: .ref a :: rest)) := x_puti C0 hR hS (ci := 12) (k := 11) (N := 60) (T := TX12) rfl iX12 tyX12_ok nmX12 (by decide) rfl rfl wf_X12_150 (Or.inl rfl) rfl rfl ht hdg kk
end XN_X12_number
set_option maxHeartbeats 4000000 in
set_option maxRecDepth 100000 in
theorem jc_X12_number {l : Launch} {D : xD} {ty : xTy} {h : xH} {v0 : Nat} {v1 : Int32} {v2 : Int32} {r : Int32} {h9 : xH} (t_v0 : ty v0 = some (0, 12)) (hF : jf_X12_number ty h v0 v1 v2 = some (r, h9)) : Met l yX12_number (xws yX12_number cX12_number 3 (some .boolean)) jr_X12_number (xPc D ty h [.ref v0, .int v1, .int v2]) (xQ D ty (some (.int r)) h9) 0 0 (xdom ty) := by
  refine x_met (by decide) ?_
  intro p e s m below meth c C0 hR
  generalize hargs : ([.ref v0, .int v1, .int v2] : List Value).toArray = args at C0 ⊢
  have hx := C0.1
  have hb := C0.2.1
  have hown := C0.2.2.2.2.2.1
  have hts := C0.2.2.2.2.2.2.1
  have hS : xS ty s.heap s.heap [] := xS.rf
  have hl := lv_entry ([.ref v0, .int v1, .int v2]) (n := 3) (Nat.le_of_ble_eq_true rfl)
  rw [← hargs, lg_entry_eq]
  rw [hargs]
  generalize (lg_sl ([.ref v0, .int v1, .int v2]) ++ List.replicate (3 - (lg_sl ([.ref v0, .int v1, .int v2])).length) Slot.unset).toArray = ls at hl ⊢
  have hl : lv_has ls 3 [(0, .ref v0), (1, .int v1), (2, .int v2)] := hl
  unfold jf_X12_number at hF
  refine lv_aload_n hx hb dX12_number_0 rfl (lv_at hl 0 rfl) ?_
  refine gf_X12_119 C0 hR t_v0 dX12_number_1 ?_
  refine lv_iconst (v := 3) hx hb dX12_number_4 (by decide) ?_
  refine lv_icmp_eq (tgt := 14) hx hb dX12_number_5 (by decide) (fun c1 => ?_) (fun c1 => ?_)
  · have hF := xif hF c1
    refine lv_aload_n hx hb dX12_number_14 rfl (lv_at hl 0 rfl) ?_
    refine gf_X12_130 C0 hR t_v0 dX12_number_15 ?_
    refine lv_iload_n hx hb dX12_number_18 rfl (lv_at hl 1 rfl) ?_
    refine lv_iload_n hx hb dX12_number_19 rfl (lv_at hl 2 rfl) ?_
    obtain ⟨a2, e_a2, hF⟩ := xbd hF
    refine cl_X12_146 C0 hR hS e_a2  ⟨(Nat.le_of_ble_eq_true rfl), (Nat.le_of_ble_eq_true rfl)⟩ hl.1 (Nat.le_of_ble_eq_true rfl) ⟨(Nat.le_of_ble_eq_true rfl), (Nat.le_of_ble_eq_true rfl)⟩ dX12_number_20 (fun H locs hR hS => ?_)
    refine lv_if_ne (tgt := 32) hx hb dX12_number_23 (by decide) (fun c3 => ?_) (fun c3 => ?_)
    · have hF := xel hF c3
      refine lv_aload_n hx hb dX12_number_32 rfl (lv_at hl 0 rfl) ?_
      refine lv_aload_n hx hb dX12_number_33 rfl (lv_at hl 0 rfl) ?_
      refine gf_X12_130 C0 hR t_v0 dX12_number_34 ?_
      obtain ⟨h4, e_h4, hF⟩ := xbd hF
      refine pf_X12_150 C0 hR hS t_v0 dX12_number_37 (fun H locs hR hS => ?_)
      rw [Option.some.inj e_h4] at hR
      refine lv_aload_n hx hb dX12_number_40 rfl (lv_at hl 0 rfl) ?_
      obtain ⟨h5, e_h5, hF⟩ := xbd hF
      refine cl_X12_153 C0 hR hS e_h5 t_v0 ⟨(Nat.le_of_ble_eq_true rfl), (Nat.le_of_ble_eq_true rfl)⟩ hl.1 (Nat.le_of_ble_eq_true rfl) ⟨(Nat.le_of_ble_eq_true rfl), (Nat.le_of_ble_eq_true rfl)⟩ dX12_number_41 (fun H locs hR hS => ?_)
      refine lv_iconst (v := 1) hx hb dX12_number_44 (by decide) ?_
      cases hF
      exact x_zret (w := 1) C0 hR hS (by decide) dX12_number_45
    · have hF := xif hF c3
      refine lv_aload_n hx hb dX12_number_26 rfl (lv_at hl 0 rfl) ?_
      refine lv_iconst (v := 2) hx hb dX12_number_27 (by decide) ?_
      obtain ⟨a7, h6, e_h6, hF⟩ := xbd2 hF
      refine cl_X12_143 C0 hR hS e_h6 t_v0 ⟨(Nat.le_of_ble_eq_true rfl), (Nat.le_of_ble_eq_true rfl)⟩ hl.1 (Nat.le_of_ble_eq_true rfl) ⟨(Nat.le_of_ble_eq_true rfl), (Nat.le_of_ble_eq_true rfl)⟩ dX12_number_28 (fun H locs hR hS => ?_)
      obtain ⟨w8, e_w8, hF⟩ := xbd hF
      cases hF
      exact x_zret C0 hR hS e_w8 dX12_number_31
  · have hF := xel hF c1
    refine lv_aload_n hx hb dX12_number_8 rfl (lv_at hl 0 rfl) ?_
    refine lv_iconst (v := 1) hx hb dX12_number_9 (by decide) ?_
    obtain ⟨a10, h9, e_h9, hF⟩ := xbd2 hF
    refine cl_X12_143 C0 hR hS e_h9 t_v0 ⟨(Nat.le_of_ble_eq_true rfl), (Nat.le_of_ble_eq_true rfl)⟩ hl.1 (Nat.le_of_ble_eq_true rfl) ⟨(Nat.le_of_ble_eq_true rfl), (Nat.le_of_ble_eq_true rfl)⟩ dX12_number_10 (fun H locs hR hS => ?_)
    obtain ⟨w11, e_w11, hF⟩ := xbd hF
    cases hF
    exact x_zret C0 hR hS e_w11 dX12_number_13
theorem xm_X12_number : xMw yX12_number cX12_number 3 (some .boolean) 2 := ⟨xin 1556 (by decide +kernel) rfl, xin 126 (by decide +kernel) rfl, by decide +kernel⟩
theorem xi_X12_number : Cond.instanceMethod yX12_number ∈ xT := xin 1555 (by decide +kernel) rfl
theorem xe_X12_number : Cond.selects yX12_number.cls yX12_number yX12_number ∈ xT := xin 65 (by decide +kernel) rfl
theorem dX12_plain_0 : decode cX12_plain 0 = .ok (.aload_n 0, 1) := by decide +kernel
theorem dX12_plain_1 : decode cX12_plain 1 = .ok (.iconst 0, 1) := by decide +kernel
theorem dX12_plain_2 : decode cX12_plain 2 = .ok (.putfield 163, 3) := by decide +kernel
theorem dX12_plain_5 : decode cX12_plain 5 = .ok (.aload_n 0, 1) := by decide +kernel
theorem dX12_plain_6 : decode cX12_plain 6 = .ok (.iconst 0, 1) := by decide +kernel
theorem dX12_plain_7 : decode cX12_plain 7 = .ok (.putfield 166, 3) := by decide +kernel
theorem dX12_plain_10 : decode cX12_plain 10 = .ok (.aload_n 0, 1) := by decide +kernel
theorem dX12_plain_11 : decode cX12_plain 11 = .ok (.iconst 0, 1) := by decide +kernel
theorem dX12_plain_12 : decode cX12_plain 12 = .ok (.putfield 169, 3) := by decide +kernel
theorem dX12_plain_15 : decode cX12_plain 15 = .ok (.return_, 1) := by decide +kernel
theorem wf_X12_163 : Cond.fieldLink RX12 163 "TermShelfModel" "signsRead" "I" ∈ xT := xin 1327 (by decide +kernel) rfl
theorem wf_X12_166 : Cond.fieldLink RX12 166 "TermShelfModel" "varsRead" "I" ∈ xT := xin 1328 (by decide +kernel) rfl
theorem wf_X12_169 : Cond.fieldLink RX12 169 "TermShelfModel" "rulesRead" "I" ∈ xT := xin 1329 (by decide +kernel) rfl
section XN_X12_plain
variable {p : Program} {l : Launch} {e : Env} {R : Room} {s : State} {m : MethodId} {args : Array Value} {below : List Frame} {meth : Method} {c : Code} {H H0 : Heap} {locs : List Loc} {cells slots : Nat} {Q : State → Prop} {cc : ByteArray} {nL pc : Nat} {rt : Option FieldType} {ls : Array Slot} {rest : List Value} {D : xD} {ty : xTy} {h : xH}
theorem pf_X12_163 {a : Nat} {v : Int32} (C0 : xC D RX12 cc nL rt p s m args meth c) (hR : xRep D ty h H) (hS : xS ty H0 H locs) (ht : ty a = some (0, 12)) (hdg : decode cc pc = .ok (.putfield 163, 3)) (kk : ∀ (H1 : Heap) (locs1 : List Loc), xRep D ty (xsI h a 15 v) H1 → xS ty H0 H1 locs1 → W p l e R s m args below meth c H1 locs1 cells slots Q (F0 m (pc + 3) ls rest)) : W p l e R s m args below meth c H locs cells slots Q (F0 m pc ls (.int v :: .ref a :: rest)) := x_puti C0 hR hS (ci := 12) (k := 15) (N := 60) (T := TX12) rfl iX12 tyX12_ok nmX12 (by decide) rfl rfl wf_X12_163 (Or.inl rfl) rfl rfl ht hdg kk
theorem pf_X12_166 {a : Nat} {v : Int32} (C0 : xC D RX12 cc nL rt p s m args meth c) (hR : xRep D ty h H) (hS : xS ty H0 H locs) (ht : ty a = some (0, 12)) (hdg : decode cc pc = .ok (.putfield 166, 3)) (kk : ∀ (H1 : Heap) (locs1 : List Loc), xRep D ty (xsI h a 16 v) H1 → xS ty H0 H1 locs1 → W p l e R s m args below meth c H1 locs1 cells slots Q (F0 m (pc + 3) ls rest)) : W p l e R s m args below meth c H locs cells slots Q (F0 m pc ls (.int v :: .ref a :: rest)) := x_puti C0 hR hS (ci := 12) (k := 16) (N := 60) (T := TX12) rfl iX12 tyX12_ok nmX12 (by decide) rfl rfl wf_X12_166 (Or.inl rfl) rfl rfl ht hdg kk
theorem pf_X12_169 {a : Nat} {v : Int32} (C0 : xC D RX12 cc nL rt p s m args meth c) (hR : xRep D ty h H) (hS : xS ty H0 H locs) (ht : ty a = some (0, 12)) (hdg : decode cc pc = .ok (.putfield 169, 3)) (kk : ∀ (H1 : Heap) (locs1 : List Loc), xRep D ty (xsI h a 17 v) H1 → xS ty H0 H1 locs1 → W p l e R s m args below meth c H1 locs1 cells slots Q (F0 m (pc + 3) ls rest)) : W p l e R s m args below meth c H locs cells slots Q (F0 m pc ls (.int v :: .ref a :: rest)) := x_puti C0 hR hS (ci := 12) (k := 17) (N := 60) (T := TX12) rfl iX12 tyX12_ok nmX12 (by decide) rfl rfl wf_X12_169 (Or.inl rfl) rfl rfl ht hdg kk
end XN_X12_plain
set_option maxHeartbeats 4000000 in
set_option maxRecDepth 100000 in
theorem jc_X12_plain {l : Launch} {D : xD} {ty : xTy} {h : xH} {v0 : Nat} {h9 : xH} (t_v0 : ty v0 = some (0, 12)) (hF : jf_X12_plain ty h v0 = some h9) : Met l yX12_plain (xws yX12_plain cX12_plain 1 none) jr_X12_plain (xPc D ty h [.ref v0]) (xQ D ty none h9) 0 0 (xdom ty) := by
  refine x_met (by decide) ?_
  intro p e s m below meth c C0 hR
  generalize hargs : ([.ref v0] : List Value).toArray = args at C0 ⊢
  have hx := C0.1
  have hb := C0.2.1
  have hown := C0.2.2.2.2.2.1
  have hts := C0.2.2.2.2.2.2.1
  have hS : xS ty s.heap s.heap [] := xS.rf
  have hl := lv_entry ([.ref v0]) (n := 1) (Nat.le_of_ble_eq_true rfl)
  rw [← hargs, lg_entry_eq]
  rw [hargs]
  generalize (lg_sl ([.ref v0]) ++ List.replicate (1 - (lg_sl ([.ref v0])).length) Slot.unset).toArray = ls at hl ⊢
  have hl : lv_has ls 1 [(0, .ref v0)] := hl
  unfold jf_X12_plain at hF
  refine lv_aload_n hx hb dX12_plain_0 rfl (lv_at hl 0 rfl) ?_
  refine lv_iconst (v := 0) hx hb dX12_plain_1 (by decide) ?_
  obtain ⟨h1, e_h1, hF⟩ := xbd hF
  refine pf_X12_163 C0 hR hS t_v0 dX12_plain_2 (fun H locs hR hS => ?_)
  rw [Option.some.inj e_h1] at hR
  refine lv_aload_n hx hb dX12_plain_5 rfl (lv_at hl 0 rfl) ?_
  refine lv_iconst (v := 0) hx hb dX12_plain_6 (by decide) ?_
  obtain ⟨h2, e_h2, hF⟩ := xbd hF
  refine pf_X12_166 C0 hR hS t_v0 dX12_plain_7 (fun H locs hR hS => ?_)
  rw [Option.some.inj e_h2] at hR
  refine lv_aload_n hx hb dX12_plain_10 rfl (lv_at hl 0 rfl) ?_
  refine lv_iconst (v := 0) hx hb dX12_plain_11 (by decide) ?_
  obtain ⟨h3, e_h3, hF⟩ := xbd hF
  refine pf_X12_169 C0 hR hS t_v0 dX12_plain_12 (fun H locs hR hS => ?_)
  rw [Option.some.inj e_h3] at hR
  cases hF
  exact x_vret C0 hR hS dX12_plain_15
theorem xm_X12_plain : xMw yX12_plain cX12_plain 1 none 0 := ⟨xin 1304 (by decide +kernel) rfl, xin 126 (by decide +kernel) rfl, by decide +kernel⟩
theorem xi_X12_plain : Cond.instanceMethod yX12_plain ∈ xT := xin 1303 (by decide +kernel) rfl
theorem xe_X12_plain : Cond.selects yX12_plain.cls yX12_plain yX12_plain ∈ xT := xin 52 (by decide +kernel) rfl
theorem dX12_copies_0 : decode cX12_copies 0 = .ok (.iconst 0, 1) := by decide +kernel
theorem dX12_copies_1 : decode cX12_copies 1 = .ok (.istore_n 2, 1) := by decide +kernel
theorem dX12_copies_2 : decode cX12_copies 2 = .ok (.iload_n 2, 1) := by decide +kernel
theorem dX12_copies_3 : decode cX12_copies 3 = .ok (.iload_n 1, 1) := by decide +kernel
theorem dX12_copies_4 : decode cX12_copies 4 = .ok (.if_icmp .ge 17, 3) := by decide +kernel
theorem dX12_copies_7 : decode cX12_copies 7 = .ok (.aload_n 0, 1) := by decide +kernel
theorem dX12_copies_8 : decode cX12_copies 8 = .ok (.iload_n 2, 1) := by decide +kernel
theorem dX12_copies_9 : decode cX12_copies 9 = .ok (.aload_n 0, 1) := by decide +kernel
theorem dX12_copies_10 : decode cX12_copies 10 = .ok (.iload_n 1, 1) := by decide +kernel
theorem dX12_copies_11 : decode cX12_copies 11 = .ok (.iload_n 2, 1) := by decide +kernel
theorem dX12_copies_12 : decode cX12_copies 12 = .ok (.iadd, 1) := by decide +kernel
theorem dX12_copies_13 : decode cX12_copies 13 = .ok (.iaload, 1) := by decide +kernel
theorem dX12_copies_14 : decode cX12_copies 14 = .ok (.iastore, 1) := by decide +kernel
theorem dX12_copies_15 : decode cX12_copies 15 = .ok (.iinc 2 1, 3) := by decide +kernel
theorem dX12_copies_18 : decode cX12_copies 18 = .ok (.goto (-16), 3) := by decide +kernel
theorem dX12_copies_21 : decode cX12_copies 21 = .ok (.return_, 1) := by decide +kernel
set_option maxHeartbeats 4000000 in
set_option maxRecDepth 100000 in
theorem jw_X12_copies_2 {p : Program} {l : Launch} {e : Env} {s : State} {m : MethodId} {args : Array Value} {below : List Frame} {meth : Method} {c : Code} {D : xD} {ty : xTy} (C0 : xC D RX12 cX12_copies 3 none p s m args meth c) {h9 : xH} : ∀ n : Nat, ∀ (v0 : Nat) (v1 : Int32) (v2 : Int32) (h : xH), jf_X12_copies_2 ty n v0 v1 v2 h = some h9 → ∀ (H : Heap) (locs : List Loc), xRep D ty h H → xS ty s.heap H locs → ∀ ls : Array Slot, lv_has ls 3 [(0, .ref v0), (1, .int v1), (2, .int v2)] → W p l e jr_X12_copies s m args below meth c H locs 0 0 (MQ below (xQ D ty none h9) args s 0 0 (xdom ty)) (F0 m 2 ls []) := by
  have hx := C0.1
  have hb := C0.2.1
  have hown := C0.2.2.2.2.2.1
  have hts := C0.2.2.2.2.2.2.1
  intro n
  induction n with
  | zero =>
    intro v0 v1 v2 h hF H locs hR hS ls hl
    cases hF
  | succ n ih =>
    intro v0 v1 v2 h hF H locs hR hS ls hl
    rw [jf_X12_copies_2_s] at hF
    refine lv_iload_n hx hb dX12_copies_2 rfl (lv_at hl 2 rfl) ?_
    refine lv_iload_n hx hb dX12_copies_3 rfl (lv_at hl 1 rfl) ?_
    refine lv_icmp_ge (tgt := 21) hx hb dX12_copies_4 (by decide) (fun c1 => ?_) (fun c1 => ?_)
    · have hF := xif hF c1
      cases hF
      exact x_vret C0 hR hS dX12_copies_21
    · have hF := xel hF c1
      refine lv_aload_n hx hb dX12_copies_7 rfl (lv_at hl 0 rfl) ?_
      refine lv_iload_n hx hb dX12_copies_8 rfl (lv_at hl 2 rfl) ?_
      refine lv_aload_n hx hb dX12_copies_9 rfl (lv_at hl 0 rfl) ?_
      refine lv_iload_n hx hb dX12_copies_10 rfl (lv_at hl 1 rfl) ?_
      refine lv_iload_n hx hb dX12_copies_11 rfl (lv_at hl 2 rfl) ?_
      refine lv_iadd hx hb dX12_copies_12 ?_
      obtain ⟨a2, e_a2, hF⟩ := xbd hF
      refine x_iald C0 hR e_a2 dX12_copies_13 ?_
      obtain ⟨h3, e_h3, hF⟩ := xbd hF
      refine x_iast C0 hR hS e_h3 dX12_copies_14 (fun H locs hR hS => ?_)
      refine lv_iinc (v := v2 + 1) (lv' := [(2, .int (v2 + 1)), (0, .ref v0), (1, .int v1)]) hx hb dX12_copies_15 hl (k := 2) rfl rfl (by decide) rfl (fun ls hl => ?_)
      refine lv_goto (tgt := 2) hx hb dX12_copies_18 (by decide) ?_
      exact ih _ _ _ _ hF _ _ hR hS _ (lv_sub hl [1, 2, 0] rfl)
set_option maxHeartbeats 4000000 in
set_option maxRecDepth 100000 in
theorem jc_X12_copies {l : Launch} {D : xD} {ty : xTy} {h : xH} {v0 : Nat} {v1 : Int32} {h9 : xH} (hF : jf_X12_copies ty h v0 v1 = some h9) : Met l yX12_copies (xws yX12_copies cX12_copies 3 none) jr_X12_copies (xPc D ty h [.ref v0, .int v1]) (xQ D ty none h9) 0 0 (xdom ty) := by
  refine x_met (by decide) ?_
  intro p e s m below meth c C0 hR
  generalize hargs : ([.ref v0, .int v1] : List Value).toArray = args at C0 ⊢
  have hx := C0.1
  have hb := C0.2.1
  have hown := C0.2.2.2.2.2.1
  have hts := C0.2.2.2.2.2.2.1
  have hS : xS ty s.heap s.heap [] := xS.rf
  have hl := lv_entry ([.ref v0, .int v1]) (n := 3) (Nat.le_of_ble_eq_true rfl)
  rw [← hargs, lg_entry_eq]
  rw [hargs]
  generalize (lg_sl ([.ref v0, .int v1]) ++ List.replicate (3 - (lg_sl ([.ref v0, .int v1])).length) Slot.unset).toArray = ls at hl ⊢
  have hl : lv_has ls 3 [(0, .ref v0), (1, .int v1)] := hl
  unfold jf_X12_copies at hF
  refine lv_iconst (v := 0) hx hb dX12_copies_0 (by decide) ?_
  refine lv_istore_n (lv' := [(2, .int 0), (0, .ref v0), (1, .int v1)]) hx hb dX12_copies_1 rfl hl (by decide) rfl (fun ls hl => ?_)
  obtain ⟨_, hF⟩ := xlim_sp hF
  exact jw_X12_copies_2 C0 _ _ _ _ _ hF _ _ hR hS _ (lv_sub hl [1, 2, 0] rfl)
theorem xm_X12_copies : xMw yX12_copies cX12_copies 3 none 2 := ⟨xin 1311 (by decide +kernel) rfl, xin 126 (by decide +kernel) rfl, by decide +kernel⟩
theorem xs_X12_copies : Cond.static yX12_copies ∈ xT := xin 1310 (by decide +kernel) rfl
theorem dX12_keepText_0 : decode cX12_keepText 0 = .ok (.aload_n 0, 1) := by decide +kernel
theorem dX12_keepText_1 : decode cX12_keepText 1 = .ok (.aload_n 0, 1) := by decide +kernel
theorem dX12_keepText_2 : decode cX12_keepText 2 = .ok (.getfield 163, 3) := by decide +kernel
theorem dX12_keepText_5 : decode cX12_keepText 5 = .ok (.putfield 172, 3) := by decide +kernel
theorem dX12_keepText_8 : decode cX12_keepText 8 = .ok (.aload_n 0, 1) := by decide +kernel
theorem dX12_keepText_9 : decode cX12_keepText 9 = .ok (.aload_n 0, 1) := by decide +kernel
theorem dX12_keepText_10 : decode cX12_keepText 10 = .ok (.getfield 166, 3) := by decide +kernel
theorem dX12_keepText_13 : decode cX12_keepText 13 = .ok (.putfield 175, 3) := by decide +kernel
theorem dX12_keepText_16 : decode cX12_keepText 16 = .ok (.aload_n 0, 1) := by decide +kernel
theorem dX12_keepText_17 : decode cX12_keepText 17 = .ok (.aload_n 0, 1) := by decide +kernel
theorem dX12_keepText_18 : decode cX12_keepText 18 = .ok (.getfield 169, 3) := by decide +kernel
theorem dX12_keepText_21 : decode cX12_keepText 21 = .ok (.putfield 178, 3) := by decide +kernel
theorem dX12_keepText_24 : decode cX12_keepText 24 = .ok (.aload_n 0, 1) := by decide +kernel
theorem dX12_keepText_25 : decode cX12_keepText 25 = .ok (.getfield 20, 3) := by decide +kernel
theorem dX12_keepText_28 : decode cX12_keepText 28 = .ok (.bipush 8, 2) := by decide +kernel
theorem dX12_keepText_30 : decode cX12_keepText 30 = .ok (.invokestatic 181, 3) := by decide +kernel
theorem dX12_keepText_33 : decode cX12_keepText 33 = .ok (.aload_n 0, 1) := by decide +kernel
theorem dX12_keepText_34 : decode cX12_keepText 34 = .ok (.getfield 23, 3) := by decide +kernel
theorem dX12_keepText_37 : decode cX12_keepText 37 = .ok (.bipush 8, 2) := by decide +kernel
theorem dX12_keepText_39 : decode cX12_keepText 39 = .ok (.invokestatic 181, 3) := by decide +kernel
theorem dX12_keepText_42 : decode cX12_keepText 42 = .ok (.aload_n 0, 1) := by decide +kernel
theorem dX12_keepText_43 : decode cX12_keepText 43 = .ok (.getfield 26, 3) := by decide +kernel
theorem dX12_keepText_46 : decode cX12_keepText 46 = .ok (.iconst 4, 1) := by decide +kernel
theorem dX12_keepText_47 : decode cX12_keepText 47 = .ok (.invokestatic 181, 3) := by decide +kernel
theorem dX12_keepText_50 : decode cX12_keepText 50 = .ok (.aload_n 0, 1) := by decide +kernel
theorem dX12_keepText_51 : decode cX12_keepText 51 = .ok (.getfield 29, 3) := by decide +kernel
theorem dX12_keepText_54 : decode cX12_keepText 54 = .ok (.bipush 16, 2) := by decide +kernel
theorem dX12_keepText_56 : decode cX12_keepText 56 = .ok (.invokestatic 181, 3) := by decide +kernel
theorem dX12_keepText_59 : decode cX12_keepText 59 = .ok (.aload_n 0, 1) := by decide +kernel
theorem dX12_keepText_60 : decode cX12_keepText 60 = .ok (.getfield 32, 3) := by decide +kernel
theorem dX12_keepText_63 : decode cX12_keepText 63 = .ok (.bipush 16, 2) := by decide +kernel
theorem dX12_keepText_65 : decode cX12_keepText 65 = .ok (.invokestatic 181, 3) := by decide +kernel
theorem dX12_keepText_68 : decode cX12_keepText 68 = .ok (.aload_n 0, 1) := by decide +kernel
theorem dX12_keepText_69 : decode cX12_keepText 69 = .ok (.getfield 35, 3) := by decide +kernel
theorem dX12_keepText_72 : decode cX12_keepText 72 = .ok (.sipush 192, 3) := by decide +kernel
theorem dX12_keepText_75 : decode cX12_keepText 75 = .ok (.invokestatic 181, 3) := by decide +kernel
theorem dX12_keepText_78 : decode cX12_keepText 78 = .ok (.aload_n 0, 1) := by decide +kernel
theorem dX12_keepText_79 : decode cX12_keepText 79 = .ok (.getfield 38, 3) := by decide +kernel
theorem dX12_keepText_82 : decode cX12_keepText 82 = .ok (.bipush 16, 2) := by decide +kernel
theorem dX12_keepText_84 : decode cX12_keepText 84 = .ok (.invokestatic 181, 3) := by decide +kernel
theorem dX12_keepText_87 : decode cX12_keepText 87 = .ok (.aload_n 0, 1) := by decide +kernel
theorem dX12_keepText_88 : decode cX12_keepText 88 = .ok (.getfield 41, 3) := by decide +kernel
theorem dX12_keepText_91 : decode cX12_keepText 91 = .ok (.sipush 192, 3) := by decide +kernel
theorem dX12_keepText_94 : decode cX12_keepText 94 = .ok (.invokestatic 181, 3) := by decide +kernel
theorem dX12_keepText_97 : decode cX12_keepText 97 = .ok (.aload_n 0, 1) := by decide +kernel
theorem dX12_keepText_98 : decode cX12_keepText 98 = .ok (.iconst 1, 1) := by decide +kernel
theorem dX12_keepText_99 : decode cX12_keepText 99 = .ok (.aload_n 0, 1) := by decide +kernel
theorem dX12_keepText_100 : decode cX12_keepText 100 = .ok (.getfield 178, 3) := by decide +kernel
theorem dX12_keepText_103 : decode cX12_keepText 103 = .ok (.ishl, 1) := by decide +kernel
theorem dX12_keepText_104 : decode cX12_keepText 104 = .ok (.iconst 1, 1) := by decide +kernel
theorem dX12_keepText_105 : decode cX12_keepText 105 = .ok (.isub, 1) := by decide +kernel
theorem dX12_keepText_106 : decode cX12_keepText 106 = .ok (.putfield 185, 3) := by decide +kernel
theorem dX12_keepText_109 : decode cX12_keepText 109 = .ok (.aload_n 0, 1) := by decide +kernel
theorem dX12_keepText_110 : decode cX12_keepText 110 = .ok (.iconst 0, 1) := by decide +kernel
theorem dX12_keepText_111 : decode cX12_keepText 111 = .ok (.putfield 188, 3) := by decide +kernel
theorem dX12_keepText_114 : decode cX12_keepText 114 = .ok (.aload_n 0, 1) := by decide +kernel
theorem dX12_keepText_115 : decode cX12_keepText 115 = .ok (.iconst 0, 1) := by decide +kernel
theorem dX12_keepText_116 : decode cX12_keepText 116 = .ok (.putfield 191, 3) := by decide +kernel
theorem dX12_keepText_119 : decode cX12_keepText 119 = .ok (.aload_n 0, 1) := by decide +kernel
theorem dX12_keepText_120 : decode cX12_keepText 120 = .ok (.iconst 0, 1) := by decide +kernel
theorem dX12_keepText_121 : decode cX12_keepText 121 = .ok (.putfield 194, 3) := by decide +kernel
theorem dX12_keepText_124 : decode cX12_keepText 124 = .ok (.return_, 1) := by decide +kernel
theorem wl_X12_181 : Cond.methodLink RX12 181 yX12_copies ∈ xT := xin 1309 (by decide +kernel) rfl
theorem wf_X12_178 : Cond.fieldLink RX12 178 "TermShelfModel" "rules" "I" ∈ xT := xin 1326 (by decide +kernel) rfl
theorem wf_X12_20 : Cond.fieldLink RX12 20 "TermShelfModel" "signName" "[I" ∈ xT := xin 1330 (by decide +kernel) rfl
theorem wf_X12_23 : Cond.fieldLink RX12 23 "TermShelfModel" "arity" "[I" ∈ xT := xin 1331 (by decide +kernel) rfl
theorem wf_X12_26 : Cond.fieldLink RX12 26 "TermShelfModel" "varName" "[I" ∈ xT := xin 1332 (by decide +kernel) rfl
theorem wf_X12_29 : Cond.fieldLink RX12 29 "TermShelfModel" "ruleName" "[I" ∈ xT := xin 1333 (by decide +kernel) rfl
theorem wf_X12_32 : Cond.fieldLink RX12 32 "TermShelfModel" "ruleLong" "[I" ∈ xT := xin 1334 (by decide +kernel) rfl
theorem wf_X12_35 : Cond.fieldLink RX12 35 "TermShelfModel" "ruleRow" "[I" ∈ xT := xin 1335 (by decide +kernel) rfl
theorem wf_X12_38 : Cond.fieldLink RX12 38 "TermShelfModel" "rightLong" "[I" ∈ xT := xin 1336 (by decide +kernel) rfl
theorem wf_X12_41 : Cond.fieldLink RX12 41 "TermShelfModel" "rightRow" "[I" ∈ xT := xin 1337 (by decide +kernel) rfl
theorem wf_X12_172 : Cond.fieldLink RX12 172 "TermShelfModel" "signs" "I" ∈ xT := xin 1324 (by decide +kernel) rfl
theorem wf_X12_175 : Cond.fieldLink RX12 175 "TermShelfModel" "vars" "I" ∈ xT := xin 1325 (by decide +kernel) rfl
theorem wf_X12_185 : Cond.fieldLink RX12 185 "TermShelfModel" "inNow" "I" ∈ xT := xin 1338 (by decide +kernel) rfl
theorem wf_X12_188 : Cond.fieldLink RX12 188 "TermShelfModel" "queryLong" "I" ∈ xT := xin 1340 (by decide +kernel) rfl
theorem wf_X12_191 : Cond.fieldLink RX12 191 "TermShelfModel" "undos" "I" ∈ xT := xin 1368 (by decide +kernel) rfl
theorem wf_X12_194 : Cond.fieldLink RX12 194 "TermShelfModel" "hasImage" "Z" ∈ xT := xin 1370 (by decide +kernel) rfl
section XN_X12_keepText
variable {p : Program} {l : Launch} {e : Env} {R : Room} {s : State} {m : MethodId} {args : Array Value} {below : List Frame} {meth : Method} {c : Code} {H H0 : Heap} {locs : List Loc} {cells slots : Nat} {Q : State → Prop} {cc : ByteArray} {nL pc : Nat} {rt : Option FieldType} {ls : Array Slot} {rest : List Value} {D : xD} {ty : xTy} {h : xH}
theorem cl_X12_181 {v0 : Nat} {v1 : Int32} {h9 : xH} (C0 : xC D RX12 cc nL rt p s m args meth c) (hR : xRep D ty h H) (hS : xS ty H0 H locs) (hF : jf_X12_copies ty h v0 v1 = some h9) (hrm : jr_X12_copies.frames + 1 ≤ R.frames ∧ 8 + (3 + 11) + jr_X12_copies.locals ≤ R.locals) (hsz : ls.size = nL) (hW : (rest.map fun v => v.category).sum ≤ 8) (hf : cells ≤ R.cells ∧ slots ≤ R.slots) (hdg : decode cc pc = .ok (.invokestatic 181, 3)) (kk : ∀ (H1 : Heap) (locs1 : List Loc), xRep D ty h9 H1 → xS ty H0 H1 locs1 → W p l e R s m args below meth c H1 locs1 cells slots Q (F0 m (pc + 3) ls rest)) : W p l e R s m args below meth c H locs cells slots Q (F0 m pc ls (.int v1 :: .ref v0 :: rest)) := x_callS C0 (jc_X12_copies  hF) xm_X12_copies xs_X12_copies wl_X12_181 ⟨rfl, rfl, hrm⟩ hR hS (As := [.ref v0, .int v1]) rfl hsz rfl hW hdg hf kk
theorem gf_X12_163 {a : Nat} (C0 : xC D RX12 cc nL rt p s m args meth c) (hR : xRep D ty h H) (ht : ty a = some (0, 12)) (hdg : decode cc pc = .ok (.getfield 163, 3)) (kk : W p l e R s m args below meth c H locs cells slots Q (F0 m (pc + 3) ls (.int (xI h a 15) :: rest))) : W p l e R s m args below meth c H locs cells slots Q (F0 m pc ls (.ref a :: rest)) := x_get C0 hR (ci := 12) (k := 15) (N := 60) (T := TX12) rfl iX12 (by decide) rfl wf_X12_163 rfl ht hdg kk
theorem gf_X12_166 {a : Nat} (C0 : xC D RX12 cc nL rt p s m args meth c) (hR : xRep D ty h H) (ht : ty a = some (0, 12)) (hdg : decode cc pc = .ok (.getfield 166, 3)) (kk : W p l e R s m args below meth c H locs cells slots Q (F0 m (pc + 3) ls (.int (xI h a 16) :: rest))) : W p l e R s m args below meth c H locs cells slots Q (F0 m pc ls (.ref a :: rest)) := x_get C0 hR (ci := 12) (k := 16) (N := 60) (T := TX12) rfl iX12 (by decide) rfl wf_X12_166 rfl ht hdg kk
theorem gf_X12_169 {a : Nat} (C0 : xC D RX12 cc nL rt p s m args meth c) (hR : xRep D ty h H) (ht : ty a = some (0, 12)) (hdg : decode cc pc = .ok (.getfield 169, 3)) (kk : W p l e R s m args below meth c H locs cells slots Q (F0 m (pc + 3) ls (.int (xI h a 17) :: rest))) : W p l e R s m args below meth c H locs cells slots Q (F0 m pc ls (.ref a :: rest)) := x_get C0 hR (ci := 12) (k := 17) (N := 60) (T := TX12) rfl iX12 (by decide) rfl wf_X12_169 rfl ht hdg kk
theorem gf_X12_178 {a : Nat} (C0 : xC D RX12 cc nL rt p s m args meth c) (hR : xRep D ty h H) (ht : ty a = some (0, 12)) (hdg : decode cc pc = .ok (.getfield 178, 3)) (kk : W p l e R s m args below meth c H locs cells slots Q (F0 m (pc + 3) ls (.int (xI h a 14) :: rest))) : W p l e R s m args below meth c H locs cells slots Q (F0 m pc ls (.ref a :: rest)) := x_get C0 hR (ci := 12) (k := 14) (N := 60) (T := TX12) rfl iX12 (by decide) rfl wf_X12_178 rfl ht hdg kk
theorem gf_X12_20 {a : Nat} (C0 : xC D RX12 cc nL rt p s m args meth c) (hR : xRep D ty h H) (ht : ty a = some (0, 12)) {v : Nat} (hv : xR h a 18 = some v) (hdg : decode cc pc = .ok (.getfield 20, 3)) (kk : W p l e R s m args below meth c H locs cells slots Q (F0 m (pc + 3) ls (.ref v :: rest))) : W p l e R s m args below meth c H locs cells slots Q (F0 m pc ls (.ref a :: rest)) := x_get C0 hR (ci := 12) (k := 18) (N := 60) (T := TX12) rfl iX12 (by decide) rfl wf_X12_20 (by show va_rf (xR h a 18) = _; rw [hv]; rfl) ht hdg kk
theorem gf_X12_23 {a : Nat} (C0 : xC D RX12 cc nL rt p s m args meth c) (hR : xRep D ty h H) (ht : ty a = some (0, 12)) {v : Nat} (hv : xR h a 19 = some v) (hdg : decode cc pc = .ok (.getfield 23, 3)) (kk : W p l e R s m args below meth c H locs cells slots Q (F0 m (pc + 3) ls (.ref v :: rest))) : W p l e R s m args below meth c H locs cells slots Q (F0 m pc ls (.ref a :: rest)) := x_get C0 hR (ci := 12) (k := 19) (N := 60) (T := TX12) rfl iX12 (by decide) rfl wf_X12_23 (by show va_rf (xR h a 19) = _; rw [hv]; rfl) ht hdg kk
theorem gf_X12_26 {a : Nat} (C0 : xC D RX12 cc nL rt p s m args meth c) (hR : xRep D ty h H) (ht : ty a = some (0, 12)) {v : Nat} (hv : xR h a 20 = some v) (hdg : decode cc pc = .ok (.getfield 26, 3)) (kk : W p l e R s m args below meth c H locs cells slots Q (F0 m (pc + 3) ls (.ref v :: rest))) : W p l e R s m args below meth c H locs cells slots Q (F0 m pc ls (.ref a :: rest)) := x_get C0 hR (ci := 12) (k := 20) (N := 60) (T := TX12) rfl iX12 (by decide) rfl wf_X12_26 (by show va_rf (xR h a 20) = _; rw [hv]; rfl) ht hdg kk
theorem gf_X12_29 {a : Nat} (C0 : xC D RX12 cc nL rt p s m args meth c) (hR : xRep D ty h H) (ht : ty a = some (0, 12)) {v : Nat} (hv : xR h a 21 = some v) (hdg : decode cc pc = .ok (.getfield 29, 3)) (kk : W p l e R s m args below meth c H locs cells slots Q (F0 m (pc + 3) ls (.ref v :: rest))) : W p l e R s m args below meth c H locs cells slots Q (F0 m pc ls (.ref a :: rest)) := x_get C0 hR (ci := 12) (k := 21) (N := 60) (T := TX12) rfl iX12 (by decide) rfl wf_X12_29 (by show va_rf (xR h a 21) = _; rw [hv]; rfl) ht hdg kk
theorem gf_X12_32 {a : Nat} (C0 : xC D RX12 cc nL rt p s m args meth c) (hR : xRep D ty h H) (ht : ty a = some (0, 12)) {v : Nat} (hv : xR h a 22 = some v) (hdg : decode cc pc = .ok (.getfield 32, 3)) (kk : W p l e R s m args below meth c H locs cells slots Q (F0 m (pc + 3) ls (.ref v :: rest))) : W p l e R s m args below meth c H locs cells slots Q (F0 m pc ls (.ref a :: rest)) := x_get C0 hR (ci := 12) (k := 22) (N := 60) (T := TX12) rfl iX12 (by decide) rfl wf_X12_32 (by show va_rf (xR h a 22) = _; rw [hv]; rfl) ht hdg kk
theorem gf_X12_35 {a : Nat} (C0 : xC D RX12 cc nL rt p s m args meth c) (hR : xRep D ty h H) (ht : ty a = some (0, 12)) {v : Nat} (hv : xR h a 23 = some v) (hdg : decode cc pc = .ok (.getfield 35, 3)) (kk : W p l e R s m args below meth c H locs cells slots Q (F0 m (pc + 3) ls (.ref v :: rest))) : W p l e R s m args below meth c H locs cells slots Q (F0 m pc ls (.ref a :: rest)) := x_get C0 hR (ci := 12) (k := 23) (N := 60) (T := TX12) rfl iX12 (by decide) rfl wf_X12_35 (by show va_rf (xR h a 23) = _; rw [hv]; rfl) ht hdg kk
theorem gf_X12_38 {a : Nat} (C0 : xC D RX12 cc nL rt p s m args meth c) (hR : xRep D ty h H) (ht : ty a = some (0, 12)) {v : Nat} (hv : xR h a 24 = some v) (hdg : decode cc pc = .ok (.getfield 38, 3)) (kk : W p l e R s m args below meth c H locs cells slots Q (F0 m (pc + 3) ls (.ref v :: rest))) : W p l e R s m args below meth c H locs cells slots Q (F0 m pc ls (.ref a :: rest)) := x_get C0 hR (ci := 12) (k := 24) (N := 60) (T := TX12) rfl iX12 (by decide) rfl wf_X12_38 (by show va_rf (xR h a 24) = _; rw [hv]; rfl) ht hdg kk
theorem gf_X12_41 {a : Nat} (C0 : xC D RX12 cc nL rt p s m args meth c) (hR : xRep D ty h H) (ht : ty a = some (0, 12)) {v : Nat} (hv : xR h a 25 = some v) (hdg : decode cc pc = .ok (.getfield 41, 3)) (kk : W p l e R s m args below meth c H locs cells slots Q (F0 m (pc + 3) ls (.ref v :: rest))) : W p l e R s m args below meth c H locs cells slots Q (F0 m pc ls (.ref a :: rest)) := x_get C0 hR (ci := 12) (k := 25) (N := 60) (T := TX12) rfl iX12 (by decide) rfl wf_X12_41 (by show va_rf (xR h a 25) = _; rw [hv]; rfl) ht hdg kk
theorem pf_X12_172 {a : Nat} {v : Int32} (C0 : xC D RX12 cc nL rt p s m args meth c) (hR : xRep D ty h H) (hS : xS ty H0 H locs) (ht : ty a = some (0, 12)) (hdg : decode cc pc = .ok (.putfield 172, 3)) (kk : ∀ (H1 : Heap) (locs1 : List Loc), xRep D ty (xsI h a 12 v) H1 → xS ty H0 H1 locs1 → W p l e R s m args below meth c H1 locs1 cells slots Q (F0 m (pc + 3) ls rest)) : W p l e R s m args below meth c H locs cells slots Q (F0 m pc ls (.int v :: .ref a :: rest)) := x_puti C0 hR hS (ci := 12) (k := 12) (N := 60) (T := TX12) rfl iX12 tyX12_ok nmX12 (by decide) rfl rfl wf_X12_172 (Or.inl rfl) rfl rfl ht hdg kk
theorem pf_X12_175 {a : Nat} {v : Int32} (C0 : xC D RX12 cc nL rt p s m args meth c) (hR : xRep D ty h H) (hS : xS ty H0 H locs) (ht : ty a = some (0, 12)) (hdg : decode cc pc = .ok (.putfield 175, 3)) (kk : ∀ (H1 : Heap) (locs1 : List Loc), xRep D ty (xsI h a 13 v) H1 → xS ty H0 H1 locs1 → W p l e R s m args below meth c H1 locs1 cells slots Q (F0 m (pc + 3) ls rest)) : W p l e R s m args below meth c H locs cells slots Q (F0 m pc ls (.int v :: .ref a :: rest)) := x_puti C0 hR hS (ci := 12) (k := 13) (N := 60) (T := TX12) rfl iX12 tyX12_ok nmX12 (by decide) rfl rfl wf_X12_175 (Or.inl rfl) rfl rfl ht hdg kk
theorem pf_X12_178 {a : Nat} {v : Int32} (C0 : xC D RX12 cc nL rt p s m args meth c) (hR : xRep D ty h H) (hS : xS ty H0 H locs) (ht : ty a = some (0, 12)) (hdg : decode cc pc = .ok (.putfield 178, 3)) (kk : ∀ (H1 : Heap) (locs1 : List Loc), xRep D ty (xsI h a 14 v) H1 → xS ty H0 H1 locs1 → W p l e R s m args below meth c H1 locs1 cells slots Q (F0 m (pc + 3) ls rest)) : W p l e R s m args below meth c H locs cells slots Q (F0 m pc ls (.int v :: .ref a :: rest)) := x_puti C0 hR hS (ci := 12) (k := 14) (N := 60) (T := TX12) rfl iX12 tyX12_ok nmX12 (by decide) rfl rfl wf_X12_178 (Or.inl rfl) rfl rfl ht hdg kk
theorem pf_X12_185 {a : Nat} {v : Int32} (C0 : xC D RX12 cc nL rt p s m args meth c) (hR : xRep D ty h H) (hS : xS ty H0 H locs) (ht : ty a = some (0, 12)) (hdg : decode cc pc = .ok (.putfield 185, 3)) (kk : ∀ (H1 : Heap) (locs1 : List Loc), xRep D ty (xsI h a 26 v) H1 → xS ty H0 H1 locs1 → W p l e R s m args below meth c H1 locs1 cells slots Q (F0 m (pc + 3) ls rest)) : W p l e R s m args below meth c H locs cells slots Q (F0 m pc ls (.int v :: .ref a :: rest)) := x_puti C0 hR hS (ci := 12) (k := 26) (N := 60) (T := TX12) rfl iX12 tyX12_ok nmX12 (by decide) rfl rfl wf_X12_185 (Or.inl rfl) rfl rfl ht hdg kk
theorem pf_X12_188 {a : Nat} {v : Int32} (C0 : xC D RX12 cc nL rt p s m args meth c) (hR : xRep D ty h H) (hS : xS ty H0 H locs) (ht : ty a = some (0, 12)) (hdg : decode cc pc = .ok (.putfield 188, 3)) (kk : ∀ (H1 : Heap) (locs1 : List Loc), xRep D ty (xsI h a 28 v) H1 → xS ty H0 H1 locs1 → W p l e R s m args below meth c H1 locs1 cells slots Q (F0 m (pc + 3) ls rest)) : W p l e R s m args below meth c H locs cells slots Q (F0 m pc ls (.int v :: .ref a :: rest)) := x_puti C0 hR hS (ci := 12) (k := 28) (N := 60) (T := TX12) rfl iX12 tyX12_ok nmX12 (by decide) rfl rfl wf_X12_188 (Or.inl rfl) rfl rfl ht hdg kk
theorem pf_X12_191 {a : Nat} {v : Int32} (C0 : xC D RX12 cc nL rt p s m args meth c) (hR : xRep D ty h H) (hS : xS ty H0 H locs) (ht : ty a = some (0, 12)) (hdg : decode cc pc = .ok (.putfield 191, 3)) (kk : ∀ (H1 : Heap) (locs1 : List Loc), xRep D ty (xsI h a 56 v) H1 → xS ty H0 H1 locs1 → W p l e R s m args below meth c H1 locs1 cells slots Q (F0 m (pc + 3) ls rest)) : W p l e R s m args below meth c H locs cells slots Q (F0 m pc ls (.int v :: .ref a :: rest)) := x_puti C0 hR hS (ci := 12) (k := 56) (N := 60) (T := TX12) rfl iX12 tyX12_ok nmX12 (by decide) rfl rfl wf_X12_191 (Or.inl rfl) rfl rfl ht hdg kk
theorem pf_X12_194 {a : Nat} {v : Int32} (C0 : xC D RX12 cc nL rt p s m args meth c) (hR : xRep D ty h H) (hS : xS ty H0 H locs) (ht : ty a = some (0, 12)) (hn : narrow .boolean (.int v) = .int v) (hft : fits .boolean (.int v) = true) (hdg : decode cc pc = .ok (.putfield 194, 3)) (kk : ∀ (H1 : Heap) (locs1 : List Loc), xRep D ty (xsI h a 58 v) H1 → xS ty H0 H1 locs1 → W p l e R s m args below meth c H1 locs1 cells slots Q (F0 m (pc + 3) ls rest)) : W p l e R s m args below meth c H locs cells slots Q (F0 m pc ls (.int v :: .ref a :: rest)) := x_puti C0 hR hS (ci := 12) (k := 58) (N := 60) (T := TX12) rfl iX12 tyX12_ok nmX12 (by decide) rfl rfl wf_X12_194 (Or.inr rfl) hn hft ht hdg kk
end XN_X12_keepText
set_option maxHeartbeats 4000000 in
set_option maxRecDepth 100000 in
theorem jc_X12_keepText {l : Launch} {D : xD} {ty : xTy} {h : xH} {v0 : Nat} {h9 : xH} (t_v0 : ty v0 = some (0, 12)) (hF : jf_X12_keepText ty h v0 = some h9) : Met l yX12_keepText (xws yX12_keepText cX12_keepText 1 none) jr_X12_keepText (xPc D ty h [.ref v0]) (xQ D ty none h9) 0 0 (xdom ty) := by
  refine x_met (by decide) ?_
  intro p e s m below meth c C0 hR
  generalize hargs : ([.ref v0] : List Value).toArray = args at C0 ⊢
  have hx := C0.1
  have hb := C0.2.1
  have hown := C0.2.2.2.2.2.1
  have hts := C0.2.2.2.2.2.2.1
  have hS : xS ty s.heap s.heap [] := xS.rf
  have hl := lv_entry ([.ref v0]) (n := 1) (Nat.le_of_ble_eq_true rfl)
  rw [← hargs, lg_entry_eq]
  rw [hargs]
  generalize (lg_sl ([.ref v0]) ++ List.replicate (1 - (lg_sl ([.ref v0])).length) Slot.unset).toArray = ls at hl ⊢
  have hl : lv_has ls 1 [(0, .ref v0)] := hl
  unfold jf_X12_keepText at hF
  refine lv_aload_n hx hb dX12_keepText_0 rfl (lv_at hl 0 rfl) ?_
  refine lv_aload_n hx hb dX12_keepText_1 rfl (lv_at hl 0 rfl) ?_
  refine gf_X12_163 C0 hR t_v0 dX12_keepText_2 ?_
  obtain ⟨h1, e_h1, hF⟩ := xbd hF
  refine pf_X12_172 C0 hR hS t_v0 dX12_keepText_5 (fun H locs hR hS => ?_)
  rw [Option.some.inj e_h1] at hR
  refine lv_aload_n hx hb dX12_keepText_8 rfl (lv_at hl 0 rfl) ?_
  refine lv_aload_n hx hb dX12_keepText_9 rfl (lv_at hl 0 rfl) ?_
  refine gf_X12_166 C0 hR t_v0 dX12_keepText_10 ?_
  obtain ⟨h2, e_h2, hF⟩ := xbd hF
  refine pf_X12_175 C0 hR hS t_v0 dX12_keepText_13 (fun H locs hR hS => ?_)
  rw [Option.some.inj e_h2] at hR
  refine lv_aload_n hx hb dX12_keepText_16 rfl (lv_at hl 0 rfl) ?_
  refine lv_aload_n hx hb dX12_keepText_17 rfl (lv_at hl 0 rfl) ?_
  refine gf_X12_169 C0 hR t_v0 dX12_keepText_18 ?_
  obtain ⟨h3, e_h3, hF⟩ := xbd hF
  refine pf_X12_178 C0 hR hS t_v0 dX12_keepText_21 (fun H locs hR hS => ?_)
  rw [Option.some.inj e_h3] at hR
  refine lv_aload_n hx hb dX12_keepText_24 rfl (lv_at hl 0 rfl) ?_
  obtain ⟨a4, e_a4, hF⟩ := xbd hF
  refine gf_X12_20 C0 hR t_v0 e_a4 dX12_keepText_25 ?_
  refine lv_bipush (v := 8) hx hb dX12_keepText_28 (by decide) ?_
  obtain ⟨h5, e_h5, hF⟩ := xbd hF
  refine cl_X12_181 C0 hR hS e_h5  ⟨(Nat.le_of_ble_eq_true rfl), (Nat.le_of_ble_eq_true rfl)⟩ hl.1 (Nat.le_of_ble_eq_true rfl) ⟨(Nat.le_of_ble_eq_true rfl), (Nat.le_of_ble_eq_true rfl)⟩ dX12_keepText_30 (fun H locs hR hS => ?_)
  refine lv_aload_n hx hb dX12_keepText_33 rfl (lv_at hl 0 rfl) ?_
  obtain ⟨a6, e_a6, hF⟩ := xbd hF
  refine gf_X12_23 C0 hR t_v0 e_a6 dX12_keepText_34 ?_
  refine lv_bipush (v := 8) hx hb dX12_keepText_37 (by decide) ?_
  obtain ⟨h7, e_h7, hF⟩ := xbd hF
  refine cl_X12_181 C0 hR hS e_h7  ⟨(Nat.le_of_ble_eq_true rfl), (Nat.le_of_ble_eq_true rfl)⟩ hl.1 (Nat.le_of_ble_eq_true rfl) ⟨(Nat.le_of_ble_eq_true rfl), (Nat.le_of_ble_eq_true rfl)⟩ dX12_keepText_39 (fun H locs hR hS => ?_)
  refine lv_aload_n hx hb dX12_keepText_42 rfl (lv_at hl 0 rfl) ?_
  obtain ⟨a8, e_a8, hF⟩ := xbd hF
  refine gf_X12_26 C0 hR t_v0 e_a8 dX12_keepText_43 ?_
  refine lv_iconst (v := 4) hx hb dX12_keepText_46 (by decide) ?_
  obtain ⟨h9, e_h9, hF⟩ := xbd hF
  refine cl_X12_181 C0 hR hS e_h9  ⟨(Nat.le_of_ble_eq_true rfl), (Nat.le_of_ble_eq_true rfl)⟩ hl.1 (Nat.le_of_ble_eq_true rfl) ⟨(Nat.le_of_ble_eq_true rfl), (Nat.le_of_ble_eq_true rfl)⟩ dX12_keepText_47 (fun H locs hR hS => ?_)
  refine lv_aload_n hx hb dX12_keepText_50 rfl (lv_at hl 0 rfl) ?_
  obtain ⟨a10, e_a10, hF⟩ := xbd hF
  refine gf_X12_29 C0 hR t_v0 e_a10 dX12_keepText_51 ?_
  refine lv_bipush (v := 16) hx hb dX12_keepText_54 (by decide) ?_
  obtain ⟨h11, e_h11, hF⟩ := xbd hF
  refine cl_X12_181 C0 hR hS e_h11  ⟨(Nat.le_of_ble_eq_true rfl), (Nat.le_of_ble_eq_true rfl)⟩ hl.1 (Nat.le_of_ble_eq_true rfl) ⟨(Nat.le_of_ble_eq_true rfl), (Nat.le_of_ble_eq_true rfl)⟩ dX12_keepText_56 (fun H locs hR hS => ?_)
  refine lv_aload_n hx hb dX12_keepText_59 rfl (lv_at hl 0 rfl) ?_
  obtain ⟨a12, e_a12, hF⟩ := xbd hF
  refine gf_X12_32 C0 hR t_v0 e_a12 dX12_keepText_60 ?_
  refine lv_bipush (v := 16) hx hb dX12_keepText_63 (by decide) ?_
  obtain ⟨h13, e_h13, hF⟩ := xbd hF
  refine cl_X12_181 C0 hR hS e_h13  ⟨(Nat.le_of_ble_eq_true rfl), (Nat.le_of_ble_eq_true rfl)⟩ hl.1 (Nat.le_of_ble_eq_true rfl) ⟨(Nat.le_of_ble_eq_true rfl), (Nat.le_of_ble_eq_true rfl)⟩ dX12_keepText_65 (fun H locs hR hS => ?_)
  refine lv_aload_n hx hb dX12_keepText_68 rfl (lv_at hl 0 rfl) ?_
  obtain ⟨a14, e_a14, hF⟩ := xbd hF
  refine gf_X12_35 C0 hR t_v0 e_a14 dX12_keepText_69 ?_
  refine lv_sipush (v := 192) hx hb dX12_keepText_72 (by decide) ?_
  obtain ⟨h15, e_h15, hF⟩ := xbd hF
  refine cl_X12_181 C0 hR hS e_h15  ⟨(Nat.le_of_ble_eq_true rfl), (Nat.le_of_ble_eq_true rfl)⟩ hl.1 (Nat.le_of_ble_eq_true rfl) ⟨(Nat.le_of_ble_eq_true rfl), (Nat.le_of_ble_eq_true rfl)⟩ dX12_keepText_75 (fun H locs hR hS => ?_)
  refine lv_aload_n hx hb dX12_keepText_78 rfl (lv_at hl 0 rfl) ?_
  obtain ⟨a16, e_a16, hF⟩ := xbd hF
  refine gf_X12_38 C0 hR t_v0 e_a16 dX12_keepText_79 ?_
  refine lv_bipush (v := 16) hx hb dX12_keepText_82 (by decide) ?_
  obtain ⟨h17, e_h17, hF⟩ := xbd hF
  refine cl_X12_181 C0 hR hS e_h17  ⟨(Nat.le_of_ble_eq_true rfl), (Nat.le_of_ble_eq_true rfl)⟩ hl.1 (Nat.le_of_ble_eq_true rfl) ⟨(Nat.le_of_ble_eq_true rfl), (Nat.le_of_ble_eq_true rfl)⟩ dX12_keepText_84 (fun H locs hR hS => ?_)
  refine lv_aload_n hx hb dX12_keepText_87 rfl (lv_at hl 0 rfl) ?_
  obtain ⟨a18, e_a18, hF⟩ := xbd hF
  refine gf_X12_41 C0 hR t_v0 e_a18 dX12_keepText_88 ?_
  refine lv_sipush (v := 192) hx hb dX12_keepText_91 (by decide) ?_
  obtain ⟨h19, e_h19, hF⟩ := xbd hF
  refine cl_X12_181 C0 hR hS e_h19  ⟨(Nat.le_of_ble_eq_true rfl), (Nat.le_of_ble_eq_true rfl)⟩ hl.1 (Nat.le_of_ble_eq_true rfl) ⟨(Nat.le_of_ble_eq_true rfl), (Nat.le_of_ble_eq_true rfl)⟩ dX12_keepText_94 (fun H locs hR hS => ?_)
  refine lv_aload_n hx hb dX12_keepText_97 rfl (lv_at hl 0 rfl) ?_
  refine lv_iconst (v := 1) hx hb dX12_keepText_98 (by decide) ?_
  refine lv_aload_n hx hb dX12_keepText_99 rfl (lv_at hl 0 rfl) ?_
  refine gf_X12_178 C0 hR t_v0 dX12_keepText_100 ?_
  refine lv_ishl hx hb dX12_keepText_103 ?_
  refine lv_iconst (v := 1) hx hb dX12_keepText_104 (by decide) ?_
  refine lv_isub hx hb dX12_keepText_105 ?_
  obtain ⟨h20, e_h20, hF⟩ := xbd hF
  refine pf_X12_185 C0 hR hS t_v0 dX12_keepText_106 (fun H locs hR hS => ?_)
  rw [Option.some.inj e_h20] at hR
  refine lv_aload_n hx hb dX12_keepText_109 rfl (lv_at hl 0 rfl) ?_
  refine lv_iconst (v := 0) hx hb dX12_keepText_110 (by decide) ?_
  obtain ⟨h21, e_h21, hF⟩ := xbd hF
  refine pf_X12_188 C0 hR hS t_v0 dX12_keepText_111 (fun H locs hR hS => ?_)
  rw [Option.some.inj e_h21] at hR
  refine lv_aload_n hx hb dX12_keepText_114 rfl (lv_at hl 0 rfl) ?_
  refine lv_iconst (v := 0) hx hb dX12_keepText_115 (by decide) ?_
  obtain ⟨h22, e_h22, hF⟩ := xbd hF
  refine pf_X12_191 C0 hR hS t_v0 dX12_keepText_116 (fun H locs hR hS => ?_)
  rw [Option.some.inj e_h22] at hR
  refine lv_aload_n hx hb dX12_keepText_119 rfl (lv_at hl 0 rfl) ?_
  refine lv_iconst (v := 0) hx hb dX12_keepText_120 (by decide) ?_
  obtain ⟨h23, e_h23, hF⟩ := xbd hF
  refine pf_X12_194 C0 hR hS t_v0 rfl rfl dX12_keepText_121 (fun H locs hR hS => ?_)
  rw [Option.some.inj e_h23] at hR
  cases hF
  exact x_vret C0 hR hS dX12_keepText_124
theorem xm_X12_keepText : xMw yX12_keepText cX12_keepText 1 none 0 := ⟨xin 1308 (by decide +kernel) rfl, xin 126 (by decide +kernel) rfl, by decide +kernel⟩
theorem xi_X12_keepText : Cond.instanceMethod yX12_keepText ∈ xT := xin 1307 (by decide +kernel) rfl
theorem xe_X12_keepText : Cond.selects yX12_keepText.cls yX12_keepText yX12_keepText ∈ xT := xin 53 (by decide +kernel) rfl
theorem dX12_find_0 : decode cX12_find 0 = .ok (.iconst 0, 1) := by decide +kernel
theorem dX12_find_1 : decode cX12_find 1 = .ok (.istore 4, 2) := by decide +kernel
theorem dX12_find_3 : decode cX12_find 3 = .ok (.iload 4, 2) := by decide +kernel
theorem dX12_find_5 : decode cX12_find 5 = .ok (.iload_n 2, 1) := by decide +kernel
theorem dX12_find_6 : decode cX12_find 6 = .ok (.if_icmp .ge 22, 3) := by decide +kernel
theorem dX12_find_9 : decode cX12_find 9 = .ok (.aload_n 0, 1) := by decide +kernel
theorem dX12_find_10 : decode cX12_find 10 = .ok (.iload_n 1, 1) := by decide +kernel
theorem dX12_find_11 : decode cX12_find 11 = .ok (.iload 4, 2) := by decide +kernel
theorem dX12_find_13 : decode cX12_find 13 = .ok (.iadd, 1) := by decide +kernel
theorem dX12_find_14 : decode cX12_find 14 = .ok (.iaload, 1) := by decide +kernel
theorem dX12_find_15 : decode cX12_find 15 = .ok (.iload_n 3, 1) := by decide +kernel
theorem dX12_find_16 : decode cX12_find 16 = .ok (.if_icmp .ne 6, 3) := by decide +kernel
theorem dX12_find_19 : decode cX12_find 19 = .ok (.iload 4, 2) := by decide +kernel
theorem dX12_find_21 : decode cX12_find 21 = .ok (.ireturn, 1) := by decide +kernel
theorem dX12_find_22 : decode cX12_find 22 = .ok (.iinc 4 1, 3) := by decide +kernel
theorem dX12_find_25 : decode cX12_find 25 = .ok (.goto (-22), 3) := by decide +kernel
theorem dX12_find_28 : decode cX12_find 28 = .ok (.iconst (-1), 1) := by decide +kernel
theorem dX12_find_29 : decode cX12_find 29 = .ok (.ireturn, 1) := by decide +kernel
set_option maxHeartbeats 4000000 in
set_option maxRecDepth 100000 in
theorem jw_X12_find_3 {p : Program} {l : Launch} {e : Env} {s : State} {m : MethodId} {args : Array Value} {below : List Frame} {meth : Method} {c : Code} {D : xD} {ty : xTy} {h : xH} (C0 : xC D RX12 cX12_find 5 (some .int) p s m args meth c) {r : Int32} : ∀ n : Nat, ∀ (v0 : Nat) (v1 : Int32) (v2 : Int32) (v3 : Int32) (v4 : Int32), jf_X12_find_3 ty h n v0 v1 v2 v3 v4 = some r → ∀ (H : Heap) (locs : List Loc), xRep D ty h H → xS ty s.heap H locs → ∀ ls : Array Slot, lv_has ls 5 [(0, .ref v0), (1, .int v1), (2, .int v2), (3, .int v3), (4, .int v4)] → W p l e jr_X12_find s m args below meth c H locs 0 0 (MQ below (xQ D ty (some (.int r)) h) args s 0 0 (xdom ty)) (F0 m 3 ls []) := by
  have hx := C0.1
  have hb := C0.2.1
  have hown := C0.2.2.2.2.2.1
  have hts := C0.2.2.2.2.2.2.1
  intro n
  induction n with
  | zero =>
    intro v0 v1 v2 v3 v4 hF H locs hR hS ls hl
    cases hF
  | succ n ih =>
    intro v0 v1 v2 v3 v4 hF H locs hR hS ls hl
    rw [jf_X12_find_3_s] at hF
    refine lv_iload hx hb dX12_find_3 (lv_at hl 4 rfl) ?_
    refine lv_iload_n hx hb dX12_find_5 rfl (lv_at hl 2 rfl) ?_
    refine lv_icmp_ge (tgt := 28) hx hb dX12_find_6 (by decide) (fun c1 => ?_) (fun c1 => ?_)
    · have hF := xif hF c1
      refine lv_iconst (v := (-1)) hx hb dX12_find_28 (by decide) ?_
      cases hF
      exact x_iret C0 hR hS dX12_find_29
    · have hF := xel hF c1
      refine lv_aload_n hx hb dX12_find_9 rfl (lv_at hl 0 rfl) ?_
      refine lv_iload_n hx hb dX12_find_10 rfl (lv_at hl 1 rfl) ?_
      refine lv_iload hx hb dX12_find_11 (lv_at hl 4 rfl) ?_
      refine lv_iadd hx hb dX12_find_13 ?_
      obtain ⟨a2, e_a2, hF⟩ := xbd hF
      refine x_iald C0 hR e_a2 dX12_find_14 ?_
      refine lv_iload_n hx hb dX12_find_15 rfl (lv_at hl 3 rfl) ?_
      refine lv_icmp_ne (tgt := 22) hx hb dX12_find_16 (by decide) (fun c3 => ?_) (fun c3 => ?_)
      · have hF := xel hF c3
        refine lv_iinc (v := v4 + 1) (lv' := [(4, .int (v4 + 1)), (0, .ref v0), (1, .int v1), (2, .int v2), (3, .int v3)]) hx hb dX12_find_22 hl (k := 4) rfl rfl (by decide) rfl (fun ls hl => ?_)
        refine lv_goto (tgt := 3) hx hb dX12_find_25 (by decide) ?_
        exact ih _ _ _ _ _ hF _ _ hR hS _ (lv_sub hl [1, 2, 3, 4, 0] rfl)
      · have hF := xif hF c3
        refine lv_iload hx hb dX12_find_19 (lv_at hl 4 rfl) ?_
        cases hF
        exact x_iret C0 hR hS dX12_find_21
set_option maxHeartbeats 4000000 in
set_option maxRecDepth 100000 in
theorem jc_X12_find {l : Launch} {D : xD} {ty : xTy} {h : xH} {v0 : Nat} {v1 : Int32} {v2 : Int32} {v3 : Int32} {r : Int32} (hF : jf_X12_find ty h v0 v1 v2 v3 = some r) : Met l yX12_find (xws yX12_find cX12_find 5 (some .int)) jr_X12_find (xPc D ty h [.ref v0, .int v1, .int v2, .int v3]) (xQ D ty (some (.int r)) h) 0 0 (xdom ty) := by
  refine x_met (by decide) ?_
  intro p e s m below meth c C0 hR
  generalize hargs : ([.ref v0, .int v1, .int v2, .int v3] : List Value).toArray = args at C0 ⊢
  have hx := C0.1
  have hb := C0.2.1
  have hown := C0.2.2.2.2.2.1
  have hts := C0.2.2.2.2.2.2.1
  have hS : xS ty s.heap s.heap [] := xS.rf
  have hl := lv_entry ([.ref v0, .int v1, .int v2, .int v3]) (n := 5) (Nat.le_of_ble_eq_true rfl)
  rw [← hargs, lg_entry_eq]
  rw [hargs]
  generalize (lg_sl ([.ref v0, .int v1, .int v2, .int v3]) ++ List.replicate (5 - (lg_sl ([.ref v0, .int v1, .int v2, .int v3])).length) Slot.unset).toArray = ls at hl ⊢
  have hl : lv_has ls 5 [(0, .ref v0), (1, .int v1), (2, .int v2), (3, .int v3)] := hl
  unfold jf_X12_find at hF
  refine lv_iconst (v := 0) hx hb dX12_find_0 (by decide) ?_
  refine lv_istore (lv' := [(4, .int 0), (0, .ref v0), (1, .int v1), (2, .int v2), (3, .int v3)]) hx hb dX12_find_1 hl (by decide) rfl (fun ls hl => ?_)
  obtain ⟨_, hF⟩ := xlim_sp hF
  exact jw_X12_find_3 C0 _ _ _ _ _ _ hF _ _ hR hS _ (lv_sub hl [1, 2, 3, 4, 0] rfl)
theorem xm_X12_find : xMw yX12_find cX12_find 5 (some .int) 4 := ⟨xin 1552 (by decide +kernel) rfl, xin 126 (by decide +kernel) rfl, by decide +kernel⟩
theorem xs_X12_find : Cond.static yX12_find ∈ xT := xin 1551 (by decide +kernel) rfl
theorem dX12_codeBy_0 : decode cX12_codeBy 0 = .ok (.aload_n 0, 1) := by decide +kernel
theorem dX12_codeBy_1 : decode cX12_codeBy 1 = .ok (.getfield 20, 3) := by decide +kernel
theorem dX12_codeBy_4 : decode cX12_codeBy 4 = .ok (.bipush 8, 2) := by decide +kernel
theorem dX12_codeBy_6 : decode cX12_codeBy 6 = .ok (.iload_n 1, 1) := by decide +kernel
theorem dX12_codeBy_7 : decode cX12_codeBy 7 = .ok (.imul, 1) := by decide +kernel
theorem dX12_codeBy_8 : decode cX12_codeBy 8 = .ok (.iload_n 1, 1) := by decide +kernel
theorem dX12_codeBy_9 : decode cX12_codeBy 9 = .ok (.ifCond .ne 10, 3) := by decide +kernel
theorem dX12_codeBy_12 : decode cX12_codeBy 12 = .ok (.aload_n 0, 1) := by decide +kernel
theorem dX12_codeBy_13 : decode cX12_codeBy 13 = .ok (.getfield 172, 3) := by decide +kernel
theorem dX12_codeBy_16 : decode cX12_codeBy 16 = .ok (.goto 7, 3) := by decide +kernel
theorem dX12_codeBy_19 : decode cX12_codeBy 19 = .ok (.aload_n 0, 1) := by decide +kernel
theorem dX12_codeBy_20 : decode cX12_codeBy 20 = .ok (.getfield 163, 3) := by decide +kernel
theorem dX12_codeBy_23 : decode cX12_codeBy 23 = .ok (.iload_n 2, 1) := by decide +kernel
theorem dX12_codeBy_24 : decode cX12_codeBy 24 = .ok (.invokestatic 198, 3) := by decide +kernel
theorem dX12_codeBy_27 : decode cX12_codeBy 27 = .ok (.istore_n 3, 1) := by decide +kernel
theorem dX12_codeBy_28 : decode cX12_codeBy 28 = .ok (.iload_n 3, 1) := by decide +kernel
theorem dX12_codeBy_29 : decode cX12_codeBy 29 = .ok (.ifCond .lt 5, 3) := by decide +kernel
theorem dX12_codeBy_32 : decode cX12_codeBy 32 = .ok (.iload_n 3, 1) := by decide +kernel
theorem dX12_codeBy_33 : decode cX12_codeBy 33 = .ok (.ireturn, 1) := by decide +kernel
theorem dX12_codeBy_34 : decode cX12_codeBy 34 = .ok (.aload_n 0, 1) := by decide +kernel
theorem dX12_codeBy_35 : decode cX12_codeBy 35 = .ok (.getfield 26, 3) := by decide +kernel
theorem dX12_codeBy_38 : decode cX12_codeBy 38 = .ok (.iconst 4, 1) := by decide +kernel
theorem dX12_codeBy_39 : decode cX12_codeBy 39 = .ok (.iload_n 1, 1) := by decide +kernel
theorem dX12_codeBy_40 : decode cX12_codeBy 40 = .ok (.imul, 1) := by decide +kernel
theorem dX12_codeBy_41 : decode cX12_codeBy 41 = .ok (.iload_n 1, 1) := by decide +kernel
theorem dX12_codeBy_42 : decode cX12_codeBy 42 = .ok (.ifCond .ne 10, 3) := by decide +kernel
theorem dX12_codeBy_45 : decode cX12_codeBy 45 = .ok (.aload_n 0, 1) := by decide +kernel
theorem dX12_codeBy_46 : decode cX12_codeBy 46 = .ok (.getfield 175, 3) := by decide +kernel
theorem dX12_codeBy_49 : decode cX12_codeBy 49 = .ok (.goto 7, 3) := by decide +kernel
theorem dX12_codeBy_52 : decode cX12_codeBy 52 = .ok (.aload_n 0, 1) := by decide +kernel
theorem dX12_codeBy_53 : decode cX12_codeBy 53 = .ok (.getfield 166, 3) := by decide +kernel
theorem dX12_codeBy_56 : decode cX12_codeBy 56 = .ok (.iload_n 2, 1) := by decide +kernel
theorem dX12_codeBy_57 : decode cX12_codeBy 57 = .ok (.invokestatic 198, 3) := by decide +kernel
theorem dX12_codeBy_60 : decode cX12_codeBy 60 = .ok (.istore_n 3, 1) := by decide +kernel
theorem dX12_codeBy_61 : decode cX12_codeBy 61 = .ok (.iload_n 3, 1) := by decide +kernel
theorem dX12_codeBy_62 : decode cX12_codeBy 62 = .ok (.ifCond .ge 7, 3) := by decide +kernel
theorem dX12_codeBy_65 : decode cX12_codeBy 65 = .ok (.iconst (-1), 1) := by decide +kernel
theorem dX12_codeBy_66 : decode cX12_codeBy 66 = .ok (.goto 7, 3) := by decide +kernel
theorem dX12_codeBy_69 : decode cX12_codeBy 69 = .ok (.bipush 100, 2) := by decide +kernel
theorem dX12_codeBy_71 : decode cX12_codeBy 71 = .ok (.iload_n 3, 1) := by decide +kernel
theorem dX12_codeBy_72 : decode cX12_codeBy 72 = .ok (.iadd, 1) := by decide +kernel
theorem dX12_codeBy_73 : decode cX12_codeBy 73 = .ok (.ireturn, 1) := by decide +kernel
theorem wl_X12_198 : Cond.methodLink RX12 198 yX12_find ∈ xT := xin 1550 (by decide +kernel) rfl
section XN_X12_codeBy
variable {p : Program} {l : Launch} {e : Env} {R : Room} {s : State} {m : MethodId} {args : Array Value} {below : List Frame} {meth : Method} {c : Code} {H H0 : Heap} {locs : List Loc} {cells slots : Nat} {Q : State → Prop} {cc : ByteArray} {nL pc : Nat} {rt : Option FieldType} {ls : Array Slot} {rest : List Value} {D : xD} {ty : xTy} {h : xH}
theorem cl_X12_198 {v0 : Nat} {v1 : Int32} {v2 : Int32} {v3 : Int32} {r : Int32} (C0 : xC D RX12 cc nL rt p s m args meth c) (hR : xRep D ty h H) (hS : xS ty H0 H locs) (hF : jf_X12_find ty h v0 v1 v2 v3 = some r) (hrm : jr_X12_find.frames + 1 ≤ R.frames ∧ 8 + (5 + 11) + jr_X12_find.locals ≤ R.locals) (hsz : ls.size = nL) (hW : (rest.map fun v => v.category).sum ≤ 8) (hf : cells ≤ R.cells ∧ slots ≤ R.slots) (hdg : decode cc pc = .ok (.invokestatic 198, 3)) (kk : ∀ (H1 : Heap) (locs1 : List Loc), xRep D ty h H1 → xS ty H0 H1 locs1 → W p l e R s m args below meth c H1 locs1 cells slots Q (F0 m (pc + 3) ls (.int r :: rest))) : W p l e R s m args below meth c H locs cells slots Q (F0 m pc ls (.int v3 :: .int v2 :: .int v1 :: .ref v0 :: rest)) := x_callS C0 (jc_X12_find  hF) xm_X12_find xs_X12_find wl_X12_198 ⟨rfl, rfl, hrm⟩ hR hS (As := [.ref v0, .int v1, .int v2, .int v3]) rfl hsz rfl hW hdg hf kk
theorem gf_X12_172 {a : Nat} (C0 : xC D RX12 cc nL rt p s m args meth c) (hR : xRep D ty h H) (ht : ty a = some (0, 12)) (hdg : decode cc pc = .ok (.getfield 172, 3)) (kk : W p l e R s m args below meth c H locs cells slots Q (F0 m (pc + 3) ls (.int (xI h a 12) :: rest))) : W p l e R s m args below meth c H locs cells slots Q (F0 m pc ls (.ref a :: rest)) := x_get C0 hR (ci := 12) (k := 12) (N := 60) (T := TX12) rfl iX12 (by decide) rfl wf_X12_172 rfl ht hdg kk
theorem gf_X12_175 {a : Nat} (C0 : xC D RX12 cc nL rt p s m args meth c) (hR : xRep D ty h H) (ht : ty a = some (0, 12)) (hdg : decode cc pc = .ok (.getfield 175, 3)) (kk : W p l e R s m args below meth c H locs cells slots Q (F0 m (pc + 3) ls (.int (xI h a 13) :: rest))) : W p l e R s m args below meth c H locs cells slots Q (F0 m pc ls (.ref a :: rest)) := x_get C0 hR (ci := 12) (k := 13) (N := 60) (T := TX12) rfl iX12 (by decide) rfl wf_X12_175 rfl ht hdg kk
end XN_X12_codeBy
set_option maxHeartbeats 4000000 in
set_option maxRecDepth 100000 in
theorem jw_X12_codeBy_23 {p : Program} {l : Launch} {e : Env} {s : State} {m : MethodId} {args : Array Value} {below : List Frame} {meth : Method} {c : Code} {D : xD} {ty : xTy} {h : xH} (C0 : xC D RX12 cX12_codeBy 4 (some .int) p s m args meth c) {r : Int32} : ∀ (v0 : Nat) (v1 : Int32) (v2 : Int32) (s0 : Nat) (s1 : Int32) (s2 : Int32), ty v0 = some (0, 12) → jf_X12_codeBy_23 ty h v0 v1 v2 s0 s1 s2 = some r → ∀ (H : Heap) (locs : List Loc), xRep D ty h H → xS ty s.heap H locs → ∀ ls : Array Slot, lv_has ls 4 [(0, .ref v0), (1, .int v1), (2, .int v2)] → W p l e jr_X12_codeBy s m args below meth c H locs 0 0 (MQ below (xQ D ty (some (.int r)) h) args s 0 0 (xdom ty)) (F0 m 23 ls [.int s2, .int s1, .ref s0]) := by
  have hx := C0.1
  have hb := C0.2.1
  have hown := C0.2.2.2.2.2.1
  have hts := C0.2.2.2.2.2.2.1
  intro v0 v1 v2 s0 s1 s2 t_v0 hF H locs hR hS ls hl
  unfold jf_X12_codeBy_23 at hF
  refine lv_iload_n hx hb dX12_codeBy_23 rfl (lv_at hl 2 rfl) ?_
  obtain ⟨a1, e_a1, hF⟩ := xbd hF
  refine cl_X12_198 C0 hR hS e_a1  ⟨(Nat.le_of_ble_eq_true rfl), (Nat.le_of_ble_eq_true rfl)⟩ hl.1 (Nat.le_of_ble_eq_true rfl) ⟨(Nat.le_of_ble_eq_true rfl), (Nat.le_of_ble_eq_true rfl)⟩ dX12_codeBy_24 (fun H locs hR hS => ?_)
  refine lv_istore_n (lv' := [(3, .int a1), (0, .ref v0), (1, .int v1), (2, .int v2)]) hx hb dX12_codeBy_27 rfl hl (by decide) rfl (fun ls hl => ?_)
  refine lv_iload_n hx hb dX12_codeBy_28 rfl (lv_at hl 0 rfl) ?_
  refine lv_if_lt (tgt := 34) hx hb dX12_codeBy_29 (by decide) (fun c2 => ?_) (fun c2 => ?_)
  · have hF := xif hF c2
    refine lv_aload_n hx hb dX12_codeBy_34 rfl (lv_at hl 1 rfl) ?_
    obtain ⟨a3, e_a3, hF⟩ := xbd hF
    refine gf_X12_26 C0 hR t_v0 e_a3 dX12_codeBy_35 ?_
    refine lv_iconst (v := 4) hx hb dX12_codeBy_38 (by decide) ?_
    refine lv_iload_n hx hb dX12_codeBy_39 rfl (lv_at hl 2 rfl) ?_
    refine lv_imul hx hb dX12_codeBy_40 ?_
    refine lv_iload_n hx hb dX12_codeBy_41 rfl (lv_at hl 2 rfl) ?_
    refine lv_if_ne (tgt := 52) hx hb dX12_codeBy_42 (by decide) (fun c4 => ?_) (fun c4 => ?_)
    · have hF := xel hF c4
      refine lv_aload_n hx hb dX12_codeBy_52 rfl (lv_at hl 1 rfl) ?_
      refine gf_X12_166 C0 hR t_v0 dX12_codeBy_53 ?_
      refine lv_iload_n hx hb dX12_codeBy_56 rfl (lv_at hl 3 rfl) ?_
      obtain ⟨a5, e_a5, hF⟩ := xbd hF
      refine cl_X12_198 C0 hR hS e_a5  ⟨(Nat.le_of_ble_eq_true rfl), (Nat.le_of_ble_eq_true rfl)⟩ hl.1 (Nat.le_of_ble_eq_true rfl) ⟨(Nat.le_of_ble_eq_true rfl), (Nat.le_of_ble_eq_true rfl)⟩ dX12_codeBy_57 (fun H locs hR hS => ?_)
      refine lv_istore_n (lv' := [(3, .int a5), (0, .ref v0), (1, .int v1), (2, .int v2)]) hx hb dX12_codeBy_60 rfl hl (by decide) rfl (fun ls hl => ?_)
      refine lv_iload_n hx hb dX12_codeBy_61 rfl (lv_at hl 0 rfl) ?_
      refine lv_if_ge (tgt := 69) hx hb dX12_codeBy_62 (by decide) (fun c6 => ?_) (fun c6 => ?_)
      · have hF := xif hF c6
        refine lv_bipush (v := 100) hx hb dX12_codeBy_69 (by decide) ?_
        refine lv_iload_n hx hb dX12_codeBy_71 rfl (lv_at hl 0 rfl) ?_
        refine lv_iadd hx hb dX12_codeBy_72 ?_
        cases hF
        exact x_iret C0 hR hS dX12_codeBy_73
      · have hF := xel hF c6
        refine lv_iconst (v := (-1)) hx hb dX12_codeBy_65 (by decide) ?_
        refine lv_goto (tgt := 73) hx hb dX12_codeBy_66 (by decide) ?_
        cases hF
        exact x_iret C0 hR hS dX12_codeBy_73
    · have hF := xif hF c4
      refine lv_aload_n hx hb dX12_codeBy_45 rfl (lv_at hl 1 rfl) ?_
      refine gf_X12_175 C0 hR t_v0 dX12_codeBy_46 ?_
      refine lv_goto (tgt := 56) hx hb dX12_codeBy_49 (by decide) ?_
      refine lv_iload_n hx hb dX12_codeBy_56 rfl (lv_at hl 3 rfl) ?_
      obtain ⟨a7, e_a7, hF⟩ := xbd hF
      refine cl_X12_198 C0 hR hS e_a7  ⟨(Nat.le_of_ble_eq_true rfl), (Nat.le_of_ble_eq_true rfl)⟩ hl.1 (Nat.le_of_ble_eq_true rfl) ⟨(Nat.le_of_ble_eq_true rfl), (Nat.le_of_ble_eq_true rfl)⟩ dX12_codeBy_57 (fun H locs hR hS => ?_)
      refine lv_istore_n (lv' := [(3, .int a7), (0, .ref v0), (1, .int v1), (2, .int v2)]) hx hb dX12_codeBy_60 rfl hl (by decide) rfl (fun ls hl => ?_)
      refine lv_iload_n hx hb dX12_codeBy_61 rfl (lv_at hl 0 rfl) ?_
      refine lv_if_ge (tgt := 69) hx hb dX12_codeBy_62 (by decide) (fun c8 => ?_) (fun c8 => ?_)
      · have hF := xif hF c8
        refine lv_bipush (v := 100) hx hb dX12_codeBy_69 (by decide) ?_
        refine lv_iload_n hx hb dX12_codeBy_71 rfl (lv_at hl 0 rfl) ?_
        refine lv_iadd hx hb dX12_codeBy_72 ?_
        cases hF
        exact x_iret C0 hR hS dX12_codeBy_73
      · have hF := xel hF c8
        refine lv_iconst (v := (-1)) hx hb dX12_codeBy_65 (by decide) ?_
        refine lv_goto (tgt := 73) hx hb dX12_codeBy_66 (by decide) ?_
        cases hF
        exact x_iret C0 hR hS dX12_codeBy_73
  · have hF := xel hF c2
    refine lv_iload_n hx hb dX12_codeBy_32 rfl (lv_at hl 0 rfl) ?_
    cases hF
    exact x_iret C0 hR hS dX12_codeBy_33
set_option maxHeartbeats 4000000 in
set_option maxRecDepth 100000 in
theorem jc_X12_codeBy {l : Launch} {D : xD} {ty : xTy} {h : xH} {v0 : Nat} {v1 : Int32} {v2 : Int32} {r : Int32} (t_v0 : ty v0 = some (0, 12)) (hF : jf_X12_codeBy ty h v0 v1 v2 = some r) : Met l yX12_codeBy (xws yX12_codeBy cX12_codeBy 4 (some .int)) jr_X12_codeBy (xPc D ty h [.ref v0, .int v1, .int v2]) (xQ D ty (some (.int r)) h) 0 0 (xdom ty) := by
  refine x_met (by decide) ?_
  intro p e s m below meth c C0 hR
  generalize hargs : ([.ref v0, .int v1, .int v2] : List Value).toArray = args at C0 ⊢
  have hx := C0.1
  have hb := C0.2.1
  have hown := C0.2.2.2.2.2.1
  have hts := C0.2.2.2.2.2.2.1
  have hS : xS ty s.heap s.heap [] := xS.rf
  have hl := lv_entry ([.ref v0, .int v1, .int v2]) (n := 4) (Nat.le_of_ble_eq_true rfl)
  rw [← hargs, lg_entry_eq]
  rw [hargs]
  generalize (lg_sl ([.ref v0, .int v1, .int v2]) ++ List.replicate (4 - (lg_sl ([.ref v0, .int v1, .int v2])).length) Slot.unset).toArray = ls at hl ⊢
  have hl : lv_has ls 4 [(0, .ref v0), (1, .int v1), (2, .int v2)] := hl
  unfold jf_X12_codeBy at hF
  refine lv_aload_n hx hb dX12_codeBy_0 rfl (lv_at hl 0 rfl) ?_
  obtain ⟨a9, e_a9, hF⟩ := xbd hF
  refine gf_X12_20 C0 hR t_v0 e_a9 dX12_codeBy_1 ?_
  refine lv_bipush (v := 8) hx hb dX12_codeBy_4 (by decide) ?_
  refine lv_iload_n hx hb dX12_codeBy_6 rfl (lv_at hl 1 rfl) ?_
  refine lv_imul hx hb dX12_codeBy_7 ?_
  refine lv_iload_n hx hb dX12_codeBy_8 rfl (lv_at hl 1 rfl) ?_
  refine lv_if_ne (tgt := 19) hx hb dX12_codeBy_9 (by decide) (fun c10 => ?_) (fun c10 => ?_)
  · have hF := xel hF c10
    refine lv_aload_n hx hb dX12_codeBy_19 rfl (lv_at hl 0 rfl) ?_
    refine gf_X12_163 C0 hR t_v0 dX12_codeBy_20 ?_
    exact jw_X12_codeBy_23 C0 _ _ _ _ _ _ t_v0 hF _ _ hR hS _ (lv_sub hl [0, 1, 2] rfl)
  · have hF := xif hF c10
    refine lv_aload_n hx hb dX12_codeBy_12 rfl (lv_at hl 0 rfl) ?_
    refine gf_X12_172 C0 hR t_v0 dX12_codeBy_13 ?_
    refine lv_goto (tgt := 23) hx hb dX12_codeBy_16 (by decide) ?_
    exact jw_X12_codeBy_23 C0 _ _ _ _ _ _ t_v0 hF _ _ hR hS _ (lv_sub hl [0, 1, 2] rfl)
theorem xm_X12_codeBy : xMw yX12_codeBy cX12_codeBy 4 (some .int) 2 := ⟨xin 1549 (by decide +kernel) rfl, xin 126 (by decide +kernel) rfl, by decide +kernel⟩
theorem xi_X12_codeBy : Cond.instanceMethod yX12_codeBy ∈ xT := xin 1548 (by decide +kernel) rfl
theorem xe_X12_codeBy : Cond.selects yX12_codeBy.cls yX12_codeBy yX12_codeBy ∈ xT := xin 64 (by decide +kernel) rfl
theorem dX12_signLine_0 : decode cX12_signLine 0 = .ok (.aload_n 0, 1) := by decide +kernel
theorem dX12_signLine_1 : decode cX12_signLine 1 = .ok (.getfield 163, 3) := by decide +kernel
theorem dX12_signLine_4 : decode cX12_signLine 4 = .ok (.bipush 8, 2) := by decide +kernel
theorem dX12_signLine_6 : decode cX12_signLine 6 = .ok (.if_icmp .ne 9, 3) := by decide +kernel
theorem dX12_signLine_9 : decode cX12_signLine 9 = .ok (.aload_n 0, 1) := by decide +kernel
theorem dX12_signLine_10 : decode cX12_signLine 10 = .ok (.iconst 2, 1) := by decide +kernel
theorem dX12_signLine_11 : decode cX12_signLine 11 = .ok (.invokevirtual 143, 3) := by decide +kernel
theorem dX12_signLine_14 : decode cX12_signLine 14 = .ok (.ireturn, 1) := by decide +kernel
theorem dX12_signLine_15 : decode cX12_signLine 15 = .ok (.aload_n 0, 1) := by decide +kernel
theorem dX12_signLine_16 : decode cX12_signLine 16 = .ok (.invokevirtual 153, 3) := by decide +kernel
theorem dX12_signLine_19 : decode cX12_signLine 19 = .ok (.aload_n 0, 1) := by decide +kernel
theorem dX12_signLine_20 : decode cX12_signLine 20 = .ok (.getfield 119, 3) := by decide +kernel
theorem dX12_signLine_23 : decode cX12_signLine 23 = .ok (.iconst 2, 1) := by decide +kernel
theorem dX12_signLine_24 : decode cX12_signLine 24 = .ok (.if_icmp .eq 9, 3) := by decide +kernel
theorem dX12_signLine_27 : decode cX12_signLine 27 = .ok (.aload_n 0, 1) := by decide +kernel
theorem dX12_signLine_28 : decode cX12_signLine 28 = .ok (.iconst 1, 1) := by decide +kernel
theorem dX12_signLine_29 : decode cX12_signLine 29 = .ok (.invokevirtual 143, 3) := by decide +kernel
theorem dX12_signLine_32 : decode cX12_signLine 32 = .ok (.ireturn, 1) := by decide +kernel
theorem dX12_signLine_33 : decode cX12_signLine 33 = .ok (.aload_n 0, 1) := by decide +kernel
theorem dX12_signLine_34 : decode cX12_signLine 34 = .ok (.iconst 1, 1) := by decide +kernel
theorem dX12_signLine_35 : decode cX12_signLine 35 = .ok (.aload_n 0, 1) := by decide +kernel
theorem dX12_signLine_36 : decode cX12_signLine 36 = .ok (.getfield 130, 3) := by decide +kernel
theorem dX12_signLine_39 : decode cX12_signLine 39 = .ok (.invokevirtual 202, 3) := by decide +kernel
theorem dX12_signLine_42 : decode cX12_signLine 42 = .ok (.ifCond .lt 9, 3) := by decide +kernel
theorem dX12_signLine_45 : decode cX12_signLine 45 = .ok (.aload_n 0, 1) := by decide +kernel
theorem dX12_signLine_46 : decode cX12_signLine 46 = .ok (.iconst 3, 1) := by decide +kernel
theorem dX12_signLine_47 : decode cX12_signLine 47 = .ok (.invokevirtual 143, 3) := by decide +kernel
theorem dX12_signLine_50 : decode cX12_signLine 50 = .ok (.ireturn, 1) := by decide +kernel
theorem dX12_signLine_51 : decode cX12_signLine 51 = .ok (.aload_n 0, 1) := by decide +kernel
theorem dX12_signLine_52 : decode cX12_signLine 52 = .ok (.getfield 20, 3) := by decide +kernel
theorem dX12_signLine_55 : decode cX12_signLine 55 = .ok (.bipush 8, 2) := by decide +kernel
theorem dX12_signLine_57 : decode cX12_signLine 57 = .ok (.aload_n 0, 1) := by decide +kernel
theorem dX12_signLine_58 : decode cX12_signLine 58 = .ok (.getfield 163, 3) := by decide +kernel
theorem dX12_signLine_61 : decode cX12_signLine 61 = .ok (.iadd, 1) := by decide +kernel
theorem dX12_signLine_62 : decode cX12_signLine 62 = .ok (.aload_n 0, 1) := by decide +kernel
theorem dX12_signLine_63 : decode cX12_signLine 63 = .ok (.getfield 130, 3) := by decide +kernel
theorem dX12_signLine_66 : decode cX12_signLine 66 = .ok (.iastore, 1) := by decide +kernel
theorem dX12_signLine_67 : decode cX12_signLine 67 = .ok (.aload_n 0, 1) := by decide +kernel
theorem dX12_signLine_68 : decode cX12_signLine 68 = .ok (.invokevirtual 153, 3) := by decide +kernel
theorem dX12_signLine_71 : decode cX12_signLine 71 = .ok (.aload_n 0, 1) := by decide +kernel
theorem dX12_signLine_72 : decode cX12_signLine 72 = .ok (.iconst 0, 1) := by decide +kernel
theorem dX12_signLine_73 : decode cX12_signLine 73 = .ok (.iconst 3, 1) := by decide +kernel
theorem dX12_signLine_74 : decode cX12_signLine 74 = .ok (.invokevirtual 159, 3) := by decide +kernel
theorem dX12_signLine_77 : decode cX12_signLine 77 = .ok (.ifCond .ne 5, 3) := by decide +kernel
theorem dX12_signLine_80 : decode cX12_signLine 80 = .ok (.iconst 0, 1) := by decide +kernel
theorem dX12_signLine_81 : decode cX12_signLine 81 = .ok (.ireturn, 1) := by decide +kernel
theorem dX12_signLine_82 : decode cX12_signLine 82 = .ok (.aload_n 0, 1) := by decide +kernel
theorem dX12_signLine_83 : decode cX12_signLine 83 = .ok (.getfield 23, 3) := by decide +kernel
theorem dX12_signLine_86 : decode cX12_signLine 86 = .ok (.bipush 8, 2) := by decide +kernel
theorem dX12_signLine_88 : decode cX12_signLine 88 = .ok (.aload_n 0, 1) := by decide +kernel
theorem dX12_signLine_89 : decode cX12_signLine 89 = .ok (.getfield 163, 3) := by decide +kernel
theorem dX12_signLine_92 : decode cX12_signLine 92 = .ok (.iadd, 1) := by decide +kernel
theorem dX12_signLine_93 : decode cX12_signLine 93 = .ok (.aload_n 0, 1) := by decide +kernel
theorem dX12_signLine_94 : decode cX12_signLine 94 = .ok (.getfield 150, 3) := by decide +kernel
theorem dX12_signLine_97 : decode cX12_signLine 97 = .ok (.iastore, 1) := by decide +kernel
theorem dX12_signLine_98 : decode cX12_signLine 98 = .ok (.aload_n 0, 1) := by decide +kernel
theorem dX12_signLine_99 : decode cX12_signLine 99 = .ok (.dup, 1) := by decide +kernel
theorem dX12_signLine_100 : decode cX12_signLine 100 = .ok (.getfield 163, 3) := by decide +kernel
theorem dX12_signLine_103 : decode cX12_signLine 103 = .ok (.iconst 1, 1) := by decide +kernel
theorem dX12_signLine_104 : decode cX12_signLine 104 = .ok (.iadd, 1) := by decide +kernel
theorem dX12_signLine_105 : decode cX12_signLine 105 = .ok (.putfield 163, 3) := by decide +kernel
theorem dX12_signLine_108 : decode cX12_signLine 108 = .ok (.iconst 1, 1) := by decide +kernel
theorem dX12_signLine_109 : decode cX12_signLine 109 = .ok (.ireturn, 1) := by decide +kernel
theorem wl_X12_159 : Cond.methodLink RX12 159 yX12_number ∈ xT := xin 1553 (by decide +kernel) rfl
theorem wl_X12_202 : Cond.methodLink RX12 202 yX12_codeBy ∈ xT := xin 1546 (by decide +kernel) rfl
section XN_X12_signLine
variable {p : Program} {l : Launch} {e : Env} {R : Room} {s : State} {m : MethodId} {args : Array Value} {below : List Frame} {meth : Method} {c : Code} {H H0 : Heap} {locs : List Loc} {cells slots : Nat} {Q : State → Prop} {cc : ByteArray} {nL pc : Nat} {rt : Option FieldType} {ls : Array Slot} {rest : List Value} {D : xD} {ty : xTy} {h : xH}
theorem cl_X12_159 {v0 : Nat} {v1 : Int32} {v2 : Int32} {r : Int32} {h9 : xH} (C0 : xC D RX12 cc nL rt p s m args meth c) (hR : xRep D ty h H) (hS : xS ty H0 H locs) (hF : jf_X12_number ty h v0 v1 v2 = some (r, h9)) (t_v0 : ty v0 = some (0, 12)) (hrm : jr_X12_number.frames + 1 ≤ R.frames ∧ 8 + (3 + 11) + jr_X12_number.locals ≤ R.locals) (hsz : ls.size = nL) (hW : (rest.map fun v => v.category).sum ≤ 8) (hf : cells ≤ R.cells ∧ slots ≤ R.slots) (hdg : decode cc pc = .ok (.invokevirtual 159, 3)) (kk : ∀ (H1 : Heap) (locs1 : List Loc), xRep D ty h9 H1 → xS ty H0 H1 locs1 → W p l e R s m args below meth c H1 locs1 cells slots Q (F0 m (pc + 3) ls (.int r :: rest))) : W p l e R s m args below meth c H locs cells slots Q (F0 m pc ls (.int v2 :: .int v1 :: .ref v0 :: rest)) := x_callV C0 (jc_X12_number t_v0 hF) xm_X12_number xi_X12_number xe_X12_number wl_X12_159 ⟨rfl, rfl, hrm⟩ (ci := 12) rfl t_v0 hR hS (As := [.int v1, .int v2]) rfl hsz rfl hW hdg hf kk
theorem cl_X12_202 {v0 : Nat} {v1 : Int32} {v2 : Int32} {r : Int32} (C0 : xC D RX12 cc nL rt p s m args meth c) (hR : xRep D ty h H) (hS : xS ty H0 H locs) (hF : jf_X12_codeBy ty h v0 v1 v2 = some r) (t_v0 : ty v0 = some (0, 12)) (hrm : jr_X12_codeBy.frames + 1 ≤ R.frames ∧ 8 + (4 + 11) + jr_X12_codeBy.locals ≤ R.locals) (hsz : ls.size = nL) (hW : (rest.map fun v => v.category).sum ≤ 8) (hf : cells ≤ R.cells ∧ slots ≤ R.slots) (hdg : decode cc pc = .ok (.invokevirtual 202, 3)) (kk : ∀ (H1 : Heap) (locs1 : List Loc), xRep D ty h H1 → xS ty H0 H1 locs1 → W p l e R s m args below meth c H1 locs1 cells slots Q (F0 m (pc + 3) ls (.int r :: rest))) : W p l e R s m args below meth c H locs cells slots Q (F0 m pc ls (.int v2 :: .int v1 :: .ref v0 :: rest)) := x_callV C0 (jc_X12_codeBy t_v0 hF) xm_X12_codeBy xi_X12_codeBy xe_X12_codeBy wl_X12_202 ⟨rfl, rfl, hrm⟩ (ci := 12) rfl t_v0 hR hS (As := [.int v1, .int v2]) rfl hsz rfl hW hdg hf kk
theorem gf_X12_150 {a : Nat} (C0 : xC D RX12 cc nL rt p s m args meth c) (hR : xRep D ty h H) (ht : ty a = some (0, 12)) (hdg : decode cc pc = .ok (.getfield 150, 3)) (kk : W p l e R s m args below meth c H locs cells slots Q (F0 m (pc + 3) ls (.int (xI h a 11) :: rest))) : W p l e R s m args below meth c H locs cells slots Q (F0 m pc ls (.ref a :: rest)) := x_get C0 hR (ci := 12) (k := 11) (N := 60) (T := TX12) rfl iX12 (by decide) rfl wf_X12_150 rfl ht hdg kk
end XN_X12_signLine
set_option maxHeartbeats 4000000 in
set_option maxRecDepth 100000 in
theorem jc_X12_signLine {l : Launch} {D : xD} {ty : xTy} {h : xH} {v0 : Nat} {r : Int32} {h9 : xH} (t_v0 : ty v0 = some (0, 12)) (hF : jf_X12_signLine ty h v0 = some (r, h9)) : Met l yX12_signLine (xws yX12_signLine cX12_signLine 1 (some .boolean)) jr_X12_signLine (xPc D ty h [.ref v0]) (xQ D ty (some (.int r)) h9) 0 0 (xdom ty) := by
  refine x_met (by decide) ?_
  intro p e s m below meth c C0 hR
  generalize hargs : ([.ref v0] : List Value).toArray = args at C0 ⊢
  have hx := C0.1
  have hb := C0.2.1
  have hown := C0.2.2.2.2.2.1
  have hts := C0.2.2.2.2.2.2.1
  have hS : xS ty s.heap s.heap [] := xS.rf
  have hl := lv_entry ([.ref v0]) (n := 1) (Nat.le_of_ble_eq_true rfl)
  rw [← hargs, lg_entry_eq]
  rw [hargs]
  generalize (lg_sl ([.ref v0]) ++ List.replicate (1 - (lg_sl ([.ref v0])).length) Slot.unset).toArray = ls at hl ⊢
  have hl : lv_has ls 1 [(0, .ref v0)] := hl
  unfold jf_X12_signLine at hF
  refine lv_aload_n hx hb dX12_signLine_0 rfl (lv_at hl 0 rfl) ?_
  refine gf_X12_163 C0 hR t_v0 dX12_signLine_1 ?_
  refine lv_bipush (v := 8) hx hb dX12_signLine_4 (by decide) ?_
  refine lv_icmp_ne (tgt := 15) hx hb dX12_signLine_6 (by decide) (fun c1 => ?_) (fun c1 => ?_)
  · have hF := xel hF c1
    refine lv_aload_n hx hb dX12_signLine_15 rfl (lv_at hl 0 rfl) ?_
    obtain ⟨h2, e_h2, hF⟩ := xbd hF
    refine cl_X12_153 C0 hR hS e_h2 t_v0 ⟨(Nat.le_of_ble_eq_true rfl), (Nat.le_of_ble_eq_true rfl)⟩ hl.1 (Nat.le_of_ble_eq_true rfl) ⟨(Nat.le_of_ble_eq_true rfl), (Nat.le_of_ble_eq_true rfl)⟩ dX12_signLine_16 (fun H locs hR hS => ?_)
    refine lv_aload_n hx hb dX12_signLine_19 rfl (lv_at hl 0 rfl) ?_
    refine gf_X12_119 C0 hR t_v0 dX12_signLine_20 ?_
    refine lv_iconst (v := 2) hx hb dX12_signLine_23 (by decide) ?_
    refine lv_icmp_eq (tgt := 33) hx hb dX12_signLine_24 (by decide) (fun c3 => ?_) (fun c3 => ?_)
    · have hF := xif hF c3
      refine lv_aload_n hx hb dX12_signLine_33 rfl (lv_at hl 0 rfl) ?_
      refine lv_iconst (v := 1) hx hb dX12_signLine_34 (by decide) ?_
      refine lv_aload_n hx hb dX12_signLine_35 rfl (lv_at hl 0 rfl) ?_
      refine gf_X12_130 C0 hR t_v0 dX12_signLine_36 ?_
      obtain ⟨a4, e_a4, hF⟩ := xbd hF
      refine cl_X12_202 C0 hR hS e_a4 t_v0 ⟨(Nat.le_of_ble_eq_true rfl), (Nat.le_of_ble_eq_true rfl)⟩ hl.1 (Nat.le_of_ble_eq_true rfl) ⟨(Nat.le_of_ble_eq_true rfl), (Nat.le_of_ble_eq_true rfl)⟩ dX12_signLine_39 (fun H locs hR hS => ?_)
      refine lv_if_lt (tgt := 51) hx hb dX12_signLine_42 (by decide) (fun c5 => ?_) (fun c5 => ?_)
      · have hF := xif hF c5
        refine lv_aload_n hx hb dX12_signLine_51 rfl (lv_at hl 0 rfl) ?_
        obtain ⟨a6, e_a6, hF⟩ := xbd hF
        refine gf_X12_20 C0 hR t_v0 e_a6 dX12_signLine_52 ?_
        refine lv_bipush (v := 8) hx hb dX12_signLine_55 (by decide) ?_
        refine lv_aload_n hx hb dX12_signLine_57 rfl (lv_at hl 0 rfl) ?_
        refine gf_X12_163 C0 hR t_v0 dX12_signLine_58 ?_
        refine lv_iadd hx hb dX12_signLine_61 ?_
        refine lv_aload_n hx hb dX12_signLine_62 rfl (lv_at hl 0 rfl) ?_
        refine gf_X12_130 C0 hR t_v0 dX12_signLine_63 ?_
        obtain ⟨h7, e_h7, hF⟩ := xbd hF
        refine x_iast C0 hR hS e_h7 dX12_signLine_66 (fun H locs hR hS => ?_)
        refine lv_aload_n hx hb dX12_signLine_67 rfl (lv_at hl 0 rfl) ?_
        obtain ⟨h8, e_h8, hF⟩ := xbd hF
        refine cl_X12_153 C0 hR hS e_h8 t_v0 ⟨(Nat.le_of_ble_eq_true rfl), (Nat.le_of_ble_eq_true rfl)⟩ hl.1 (Nat.le_of_ble_eq_true rfl) ⟨(Nat.le_of_ble_eq_true rfl), (Nat.le_of_ble_eq_true rfl)⟩ dX12_signLine_68 (fun H locs hR hS => ?_)
        refine lv_aload_n hx hb dX12_signLine_71 rfl (lv_at hl 0 rfl) ?_
        refine lv_iconst (v := 0) hx hb dX12_signLine_72 (by decide) ?_
        refine lv_iconst (v := 3) hx hb dX12_signLine_73 (by decide) ?_
        obtain ⟨a10, h9, e_h9, hF⟩ := xbd2 hF
        refine cl_X12_159 C0 hR hS e_h9 t_v0 ⟨(Nat.le_of_ble_eq_true rfl), (Nat.le_of_ble_eq_true rfl)⟩ hl.1 (Nat.le_of_ble_eq_true rfl) ⟨(Nat.le_of_ble_eq_true rfl), (Nat.le_of_ble_eq_true rfl)⟩ dX12_signLine_74 (fun H locs hR hS => ?_)
        refine lv_if_ne (tgt := 82) hx hb dX12_signLine_77 (by decide) (fun c11 => ?_) (fun c11 => ?_)
        · have hF := xel hF c11
          refine lv_aload_n hx hb dX12_signLine_82 rfl (lv_at hl 0 rfl) ?_
          obtain ⟨a12, e_a12, hF⟩ := xbd hF
          refine gf_X12_23 C0 hR t_v0 e_a12 dX12_signLine_83 ?_
          refine lv_bipush (v := 8) hx hb dX12_signLine_86 (by decide) ?_
          refine lv_aload_n hx hb dX12_signLine_88 rfl (lv_at hl 0 rfl) ?_
          refine gf_X12_163 C0 hR t_v0 dX12_signLine_89 ?_
          refine lv_iadd hx hb dX12_signLine_92 ?_
          refine lv_aload_n hx hb dX12_signLine_93 rfl (lv_at hl 0 rfl) ?_
          refine gf_X12_150 C0 hR t_v0 dX12_signLine_94 ?_
          obtain ⟨h13, e_h13, hF⟩ := xbd hF
          refine x_iast C0 hR hS e_h13 dX12_signLine_97 (fun H locs hR hS => ?_)
          refine lv_aload_n hx hb dX12_signLine_98 rfl (lv_at hl 0 rfl) ?_
          refine lv_dup hx hb dX12_signLine_99 rfl ?_
          refine gf_X12_163 C0 hR t_v0 dX12_signLine_100 ?_
          refine lv_iconst (v := 1) hx hb dX12_signLine_103 (by decide) ?_
          refine lv_iadd hx hb dX12_signLine_104 ?_
          obtain ⟨h14, e_h14, hF⟩ := xbd hF
          refine pf_X12_163 C0 hR hS t_v0 dX12_signLine_105 (fun H locs hR hS => ?_)
          rw [Option.some.inj e_h14] at hR
          refine lv_iconst (v := 1) hx hb dX12_signLine_108 (by decide) ?_
          cases hF
          exact x_zret (w := 1) C0 hR hS (by decide) dX12_signLine_109
        · have hF := xif hF c11
          refine lv_iconst (v := 0) hx hb dX12_signLine_80 (by decide) ?_
          cases hF
          exact x_zret (w := 0) C0 hR hS (by decide) dX12_signLine_81
      · have hF := xel hF c5
        refine lv_aload_n hx hb dX12_signLine_45 rfl (lv_at hl 0 rfl) ?_
        refine lv_iconst (v := 3) hx hb dX12_signLine_46 (by decide) ?_
        obtain ⟨a16, h15, e_h15, hF⟩ := xbd2 hF
        refine cl_X12_143 C0 hR hS e_h15 t_v0 ⟨(Nat.le_of_ble_eq_true rfl), (Nat.le_of_ble_eq_true rfl)⟩ hl.1 (Nat.le_of_ble_eq_true rfl) ⟨(Nat.le_of_ble_eq_true rfl), (Nat.le_of_ble_eq_true rfl)⟩ dX12_signLine_47 (fun H locs hR hS => ?_)
        obtain ⟨w17, e_w17, hF⟩ := xbd hF
        cases hF
        exact x_zret C0 hR hS e_w17 dX12_signLine_50
    · have hF := xel hF c3
      refine lv_aload_n hx hb dX12_signLine_27 rfl (lv_at hl 0 rfl) ?_
      refine lv_iconst (v := 1) hx hb dX12_signLine_28 (by decide) ?_
      obtain ⟨a19, h18, e_h18, hF⟩ := xbd2 hF
      refine cl_X12_143 C0 hR hS e_h18 t_v0 ⟨(Nat.le_of_ble_eq_true rfl), (Nat.le_of_ble_eq_true rfl)⟩ hl.1 (Nat.le_of_ble_eq_true rfl) ⟨(Nat.le_of_ble_eq_true rfl), (Nat.le_of_ble_eq_true rfl)⟩ dX12_signLine_29 (fun H locs hR hS => ?_)
      obtain ⟨w20, e_w20, hF⟩ := xbd hF
      cases hF
      exact x_zret C0 hR hS e_w20 dX12_signLine_32
  · have hF := xif hF c1
    refine lv_aload_n hx hb dX12_signLine_9 rfl (lv_at hl 0 rfl) ?_
    refine lv_iconst (v := 2) hx hb dX12_signLine_10 (by decide) ?_
    obtain ⟨a22, h21, e_h21, hF⟩ := xbd2 hF
    refine cl_X12_143 C0 hR hS e_h21 t_v0 ⟨(Nat.le_of_ble_eq_true rfl), (Nat.le_of_ble_eq_true rfl)⟩ hl.1 (Nat.le_of_ble_eq_true rfl) ⟨(Nat.le_of_ble_eq_true rfl), (Nat.le_of_ble_eq_true rfl)⟩ dX12_signLine_11 (fun H locs hR hS => ?_)
    obtain ⟨w23, e_w23, hF⟩ := xbd hF
    cases hF
    exact x_zret C0 hR hS e_w23 dX12_signLine_14
theorem xm_X12_signLine : xMw yX12_signLine cX12_signLine 1 (some .boolean) 0 := ⟨xin 1545 (by decide +kernel) rfl, xin 126 (by decide +kernel) rfl, by decide +kernel⟩
theorem xi_X12_signLine : Cond.instanceMethod yX12_signLine ∈ xT := xin 1544 (by decide +kernel) rfl
theorem xe_X12_signLine : Cond.selects yX12_signLine.cls yX12_signLine yX12_signLine ∈ xT := xin 63 (by decide +kernel) rfl
theorem dX12_varLine_0 : decode cX12_varLine 0 = .ok (.aload_n 0, 1) := by decide +kernel
theorem dX12_varLine_1 : decode cX12_varLine 1 = .ok (.getfield 166, 3) := by decide +kernel
theorem dX12_varLine_4 : decode cX12_varLine 4 = .ok (.iconst 4, 1) := by decide +kernel
theorem dX12_varLine_5 : decode cX12_varLine 5 = .ok (.if_icmp .ne 9, 3) := by decide +kernel
theorem dX12_varLine_8 : decode cX12_varLine 8 = .ok (.aload_n 0, 1) := by decide +kernel
theorem dX12_varLine_9 : decode cX12_varLine 9 = .ok (.iconst 2, 1) := by decide +kernel
theorem dX12_varLine_10 : decode cX12_varLine 10 = .ok (.invokevirtual 143, 3) := by decide +kernel
theorem dX12_varLine_13 : decode cX12_varLine 13 = .ok (.ireturn, 1) := by decide +kernel
theorem dX12_varLine_14 : decode cX12_varLine 14 = .ok (.aload_n 0, 1) := by decide +kernel
theorem dX12_varLine_15 : decode cX12_varLine 15 = .ok (.invokevirtual 153, 3) := by decide +kernel
theorem dX12_varLine_18 : decode cX12_varLine 18 = .ok (.aload_n 0, 1) := by decide +kernel
theorem dX12_varLine_19 : decode cX12_varLine 19 = .ok (.getfield 119, 3) := by decide +kernel
theorem dX12_varLine_22 : decode cX12_varLine 22 = .ok (.iconst 2, 1) := by decide +kernel
theorem dX12_varLine_23 : decode cX12_varLine 23 = .ok (.if_icmp .eq 9, 3) := by decide +kernel
theorem dX12_varLine_26 : decode cX12_varLine 26 = .ok (.aload_n 0, 1) := by decide +kernel
theorem dX12_varLine_27 : decode cX12_varLine 27 = .ok (.iconst 1, 1) := by decide +kernel
theorem dX12_varLine_28 : decode cX12_varLine 28 = .ok (.invokevirtual 143, 3) := by decide +kernel
theorem dX12_varLine_31 : decode cX12_varLine 31 = .ok (.ireturn, 1) := by decide +kernel
theorem dX12_varLine_32 : decode cX12_varLine 32 = .ok (.aload_n 0, 1) := by decide +kernel
theorem dX12_varLine_33 : decode cX12_varLine 33 = .ok (.iconst 1, 1) := by decide +kernel
theorem dX12_varLine_34 : decode cX12_varLine 34 = .ok (.aload_n 0, 1) := by decide +kernel
theorem dX12_varLine_35 : decode cX12_varLine 35 = .ok (.getfield 130, 3) := by decide +kernel
theorem dX12_varLine_38 : decode cX12_varLine 38 = .ok (.invokevirtual 202, 3) := by decide +kernel
theorem dX12_varLine_41 : decode cX12_varLine 41 = .ok (.ifCond .lt 9, 3) := by decide +kernel
theorem dX12_varLine_44 : decode cX12_varLine 44 = .ok (.aload_n 0, 1) := by decide +kernel
theorem dX12_varLine_45 : decode cX12_varLine 45 = .ok (.iconst 3, 1) := by decide +kernel
theorem dX12_varLine_46 : decode cX12_varLine 46 = .ok (.invokevirtual 143, 3) := by decide +kernel
theorem dX12_varLine_49 : decode cX12_varLine 49 = .ok (.ireturn, 1) := by decide +kernel
theorem dX12_varLine_50 : decode cX12_varLine 50 = .ok (.aload_n 0, 1) := by decide +kernel
theorem dX12_varLine_51 : decode cX12_varLine 51 = .ok (.getfield 26, 3) := by decide +kernel
theorem dX12_varLine_54 : decode cX12_varLine 54 = .ok (.iconst 4, 1) := by decide +kernel
theorem dX12_varLine_55 : decode cX12_varLine 55 = .ok (.aload_n 0, 1) := by decide +kernel
theorem dX12_varLine_56 : decode cX12_varLine 56 = .ok (.getfield 166, 3) := by decide +kernel
theorem dX12_varLine_59 : decode cX12_varLine 59 = .ok (.iadd, 1) := by decide +kernel
theorem dX12_varLine_60 : decode cX12_varLine 60 = .ok (.aload_n 0, 1) := by decide +kernel
theorem dX12_varLine_61 : decode cX12_varLine 61 = .ok (.getfield 130, 3) := by decide +kernel
theorem dX12_varLine_64 : decode cX12_varLine 64 = .ok (.iastore, 1) := by decide +kernel
theorem dX12_varLine_65 : decode cX12_varLine 65 = .ok (.aload_n 0, 1) := by decide +kernel
theorem dX12_varLine_66 : decode cX12_varLine 66 = .ok (.dup, 1) := by decide +kernel
theorem dX12_varLine_67 : decode cX12_varLine 67 = .ok (.getfield 166, 3) := by decide +kernel
theorem dX12_varLine_70 : decode cX12_varLine 70 = .ok (.iconst 1, 1) := by decide +kernel
theorem dX12_varLine_71 : decode cX12_varLine 71 = .ok (.iadd, 1) := by decide +kernel
theorem dX12_varLine_72 : decode cX12_varLine 72 = .ok (.putfield 166, 3) := by decide +kernel
theorem dX12_varLine_75 : decode cX12_varLine 75 = .ok (.aload_n 0, 1) := by decide +kernel
theorem dX12_varLine_76 : decode cX12_varLine 76 = .ok (.invokevirtual 153, 3) := by decide +kernel
theorem dX12_varLine_79 : decode cX12_varLine 79 = .ok (.iconst 1, 1) := by decide +kernel
theorem dX12_varLine_80 : decode cX12_varLine 80 = .ok (.ireturn, 1) := by decide +kernel
set_option maxHeartbeats 4000000 in
set_option maxRecDepth 100000 in
theorem jc_X12_varLine {l : Launch} {D : xD} {ty : xTy} {h : xH} {v0 : Nat} {r : Int32} {h9 : xH} (t_v0 : ty v0 = some (0, 12)) (hF : jf_X12_varLine ty h v0 = some (r, h9)) : Met l yX12_varLine (xws yX12_varLine cX12_varLine 1 (some .boolean)) jr_X12_varLine (xPc D ty h [.ref v0]) (xQ D ty (some (.int r)) h9) 0 0 (xdom ty) := by
  refine x_met (by decide) ?_
  intro p e s m below meth c C0 hR
  generalize hargs : ([.ref v0] : List Value).toArray = args at C0 ⊢
  have hx := C0.1
  have hb := C0.2.1
  have hown := C0.2.2.2.2.2.1
  have hts := C0.2.2.2.2.2.2.1
  have hS : xS ty s.heap s.heap [] := xS.rf
  have hl := lv_entry ([.ref v0]) (n := 1) (Nat.le_of_ble_eq_true rfl)
  rw [← hargs, lg_entry_eq]
  rw [hargs]
  generalize (lg_sl ([.ref v0]) ++ List.replicate (1 - (lg_sl ([.ref v0])).length) Slot.unset).toArray = ls at hl ⊢
  have hl : lv_has ls 1 [(0, .ref v0)] := hl
  unfold jf_X12_varLine at hF
  refine lv_aload_n hx hb dX12_varLine_0 rfl (lv_at hl 0 rfl) ?_
  refine gf_X12_166 C0 hR t_v0 dX12_varLine_1 ?_
  refine lv_iconst (v := 4) hx hb dX12_varLine_4 (by decide) ?_
  refine lv_icmp_ne (tgt := 14) hx hb dX12_varLine_5 (by decide) (fun c1 => ?_) (fun c1 => ?_)
  · have hF := xel hF c1
    refine lv_aload_n hx hb dX12_varLine_14 rfl (lv_at hl 0 rfl) ?_
    obtain ⟨h2, e_h2, hF⟩ := xbd hF
    refine cl_X12_153 C0 hR hS e_h2 t_v0 ⟨(Nat.le_of_ble_eq_true rfl), (Nat.le_of_ble_eq_true rfl)⟩ hl.1 (Nat.le_of_ble_eq_true rfl) ⟨(Nat.le_of_ble_eq_true rfl), (Nat.le_of_ble_eq_true rfl)⟩ dX12_varLine_15 (fun H locs hR hS => ?_)
    refine lv_aload_n hx hb dX12_varLine_18 rfl (lv_at hl 0 rfl) ?_
    refine gf_X12_119 C0 hR t_v0 dX12_varLine_19 ?_
    refine lv_iconst (v := 2) hx hb dX12_varLine_22 (by decide) ?_
    refine lv_icmp_eq (tgt := 32) hx hb dX12_varLine_23 (by decide) (fun c3 => ?_) (fun c3 => ?_)
    · have hF := xif hF c3
      refine lv_aload_n hx hb dX12_varLine_32 rfl (lv_at hl 0 rfl) ?_
      refine lv_iconst (v := 1) hx hb dX12_varLine_33 (by decide) ?_
      refine lv_aload_n hx hb dX12_varLine_34 rfl (lv_at hl 0 rfl) ?_
      refine gf_X12_130 C0 hR t_v0 dX12_varLine_35 ?_
      obtain ⟨a4, e_a4, hF⟩ := xbd hF
      refine cl_X12_202 C0 hR hS e_a4 t_v0 ⟨(Nat.le_of_ble_eq_true rfl), (Nat.le_of_ble_eq_true rfl)⟩ hl.1 (Nat.le_of_ble_eq_true rfl) ⟨(Nat.le_of_ble_eq_true rfl), (Nat.le_of_ble_eq_true rfl)⟩ dX12_varLine_38 (fun H locs hR hS => ?_)
      refine lv_if_lt (tgt := 50) hx hb dX12_varLine_41 (by decide) (fun c5 => ?_) (fun c5 => ?_)
      · have hF := xif hF c5
        refine lv_aload_n hx hb dX12_varLine_50 rfl (lv_at hl 0 rfl) ?_
        obtain ⟨a6, e_a6, hF⟩ := xbd hF
        refine gf_X12_26 C0 hR t_v0 e_a6 dX12_varLine_51 ?_
        refine lv_iconst (v := 4) hx hb dX12_varLine_54 (by decide) ?_
        refine lv_aload_n hx hb dX12_varLine_55 rfl (lv_at hl 0 rfl) ?_
        refine gf_X12_166 C0 hR t_v0 dX12_varLine_56 ?_
        refine lv_iadd hx hb dX12_varLine_59 ?_
        refine lv_aload_n hx hb dX12_varLine_60 rfl (lv_at hl 0 rfl) ?_
        refine gf_X12_130 C0 hR t_v0 dX12_varLine_61 ?_
        obtain ⟨h7, e_h7, hF⟩ := xbd hF
        refine x_iast C0 hR hS e_h7 dX12_varLine_64 (fun H locs hR hS => ?_)
        refine lv_aload_n hx hb dX12_varLine_65 rfl (lv_at hl 0 rfl) ?_
        refine lv_dup hx hb dX12_varLine_66 rfl ?_
        refine gf_X12_166 C0 hR t_v0 dX12_varLine_67 ?_
        refine lv_iconst (v := 1) hx hb dX12_varLine_70 (by decide) ?_
        refine lv_iadd hx hb dX12_varLine_71 ?_
        obtain ⟨h8, e_h8, hF⟩ := xbd hF
        refine pf_X12_166 C0 hR hS t_v0 dX12_varLine_72 (fun H locs hR hS => ?_)
        rw [Option.some.inj e_h8] at hR
        refine lv_aload_n hx hb dX12_varLine_75 rfl (lv_at hl 0 rfl) ?_
        obtain ⟨h9, e_h9, hF⟩ := xbd hF
        refine cl_X12_153 C0 hR hS e_h9 t_v0 ⟨(Nat.le_of_ble_eq_true rfl), (Nat.le_of_ble_eq_true rfl)⟩ hl.1 (Nat.le_of_ble_eq_true rfl) ⟨(Nat.le_of_ble_eq_true rfl), (Nat.le_of_ble_eq_true rfl)⟩ dX12_varLine_76 (fun H locs hR hS => ?_)
        refine lv_iconst (v := 1) hx hb dX12_varLine_79 (by decide) ?_
        cases hF
        exact x_zret (w := 1) C0 hR hS (by decide) dX12_varLine_80
      · have hF := xel hF c5
        refine lv_aload_n hx hb dX12_varLine_44 rfl (lv_at hl 0 rfl) ?_
        refine lv_iconst (v := 3) hx hb dX12_varLine_45 (by decide) ?_
        obtain ⟨a11, h10, e_h10, hF⟩ := xbd2 hF
        refine cl_X12_143 C0 hR hS e_h10 t_v0 ⟨(Nat.le_of_ble_eq_true rfl), (Nat.le_of_ble_eq_true rfl)⟩ hl.1 (Nat.le_of_ble_eq_true rfl) ⟨(Nat.le_of_ble_eq_true rfl), (Nat.le_of_ble_eq_true rfl)⟩ dX12_varLine_46 (fun H locs hR hS => ?_)
        obtain ⟨w12, e_w12, hF⟩ := xbd hF
        cases hF
        exact x_zret C0 hR hS e_w12 dX12_varLine_49
    · have hF := xel hF c3
      refine lv_aload_n hx hb dX12_varLine_26 rfl (lv_at hl 0 rfl) ?_
      refine lv_iconst (v := 1) hx hb dX12_varLine_27 (by decide) ?_
      obtain ⟨a14, h13, e_h13, hF⟩ := xbd2 hF
      refine cl_X12_143 C0 hR hS e_h13 t_v0 ⟨(Nat.le_of_ble_eq_true rfl), (Nat.le_of_ble_eq_true rfl)⟩ hl.1 (Nat.le_of_ble_eq_true rfl) ⟨(Nat.le_of_ble_eq_true rfl), (Nat.le_of_ble_eq_true rfl)⟩ dX12_varLine_28 (fun H locs hR hS => ?_)
      obtain ⟨w15, e_w15, hF⟩ := xbd hF
      cases hF
      exact x_zret C0 hR hS e_w15 dX12_varLine_31
  · have hF := xif hF c1
    refine lv_aload_n hx hb dX12_varLine_8 rfl (lv_at hl 0 rfl) ?_
    refine lv_iconst (v := 2) hx hb dX12_varLine_9 (by decide) ?_
    obtain ⟨a17, h16, e_h16, hF⟩ := xbd2 hF
    refine cl_X12_143 C0 hR hS e_h16 t_v0 ⟨(Nat.le_of_ble_eq_true rfl), (Nat.le_of_ble_eq_true rfl)⟩ hl.1 (Nat.le_of_ble_eq_true rfl) ⟨(Nat.le_of_ble_eq_true rfl), (Nat.le_of_ble_eq_true rfl)⟩ dX12_varLine_10 (fun H locs hR hS => ?_)
    obtain ⟨w18, e_w18, hF⟩ := xbd hF
    cases hF
    exact x_zret C0 hR hS e_w18 dX12_varLine_13
theorem xm_X12_varLine : xMw yX12_varLine cX12_varLine 1 (some .boolean) 0 := ⟨xin 1563 (by decide +kernel) rfl, xin 126 (by decide +kernel) rfl, by decide +kernel⟩
theorem xi_X12_varLine : Cond.instanceMethod yX12_varLine ∈ xT := xin 1562 (by decide +kernel) rfl
theorem xe_X12_varLine : Cond.selects yX12_varLine.cls yX12_varLine yX12_varLine ∈ xT := xin 66 (by decide +kernel) rfl
theorem dX12_termRead_0 : decode cX12_termRead 0 = .ok (.iconst 0, 1) := by decide +kernel
theorem dX12_termRead_1 : decode cX12_termRead 1 = .ok (.istore_n 3, 1) := by decide +kernel
theorem dX12_termRead_2 : decode cX12_termRead 2 = .ok (.aload_n 0, 1) := by decide +kernel
theorem dX12_termRead_3 : decode cX12_termRead 3 = .ok (.iconst 0, 1) := by decide +kernel
theorem dX12_termRead_4 : decode cX12_termRead 4 = .ok (.putfield 205, 3) := by decide +kernel
theorem dX12_termRead_7 : decode cX12_termRead 7 = .ok (.aload_n 0, 1) := by decide +kernel
theorem dX12_termRead_8 : decode cX12_termRead 8 = .ok (.getfield 119, 3) := by decide +kernel
theorem dX12_termRead_11 : decode cX12_termRead 11 = .ok (.iconst 2, 1) := by decide +kernel
theorem dX12_termRead_12 : decode cX12_termRead 12 = .ok (.if_icmp .eq 9, 3) := by decide +kernel
theorem dX12_termRead_15 : decode cX12_termRead 15 = .ok (.aload_n 0, 1) := by decide +kernel
theorem dX12_termRead_16 : decode cX12_termRead 16 = .ok (.iconst 1, 1) := by decide +kernel
theorem dX12_termRead_17 : decode cX12_termRead 17 = .ok (.invokevirtual 143, 3) := by decide +kernel
theorem dX12_termRead_20 : decode cX12_termRead 20 = .ok (.ireturn, 1) := by decide +kernel
theorem dX12_termRead_21 : decode cX12_termRead 21 = .ok (.aload_n 0, 1) := by decide +kernel
theorem dX12_termRead_22 : decode cX12_termRead 22 = .ok (.getfield 205, 3) := by decide +kernel
theorem dX12_termRead_25 : decode cX12_termRead 25 = .ok (.bipush 12, 2) := by decide +kernel
theorem dX12_termRead_27 : decode cX12_termRead 27 = .ok (.if_icmp .ne 9, 3) := by decide +kernel
theorem dX12_termRead_30 : decode cX12_termRead 30 = .ok (.aload_n 0, 1) := by decide +kernel
theorem dX12_termRead_31 : decode cX12_termRead 31 = .ok (.iconst 2, 1) := by decide +kernel
theorem dX12_termRead_32 : decode cX12_termRead 32 = .ok (.invokevirtual 143, 3) := by decide +kernel
theorem dX12_termRead_35 : decode cX12_termRead 35 = .ok (.ireturn, 1) := by decide +kernel
theorem dX12_termRead_36 : decode cX12_termRead 36 = .ok (.aload_n 0, 1) := by decide +kernel
theorem dX12_termRead_37 : decode cX12_termRead 37 = .ok (.iload_n 1, 1) := by decide +kernel
theorem dX12_termRead_38 : decode cX12_termRead 38 = .ok (.aload_n 0, 1) := by decide +kernel
theorem dX12_termRead_39 : decode cX12_termRead 39 = .ok (.getfield 130, 3) := by decide +kernel
theorem dX12_termRead_42 : decode cX12_termRead 42 = .ok (.invokevirtual 202, 3) := by decide +kernel
theorem dX12_termRead_45 : decode cX12_termRead 45 = .ok (.istore 4, 2) := by decide +kernel
theorem dX12_termRead_47 : decode cX12_termRead 47 = .ok (.iload 4, 2) := by decide +kernel
theorem dX12_termRead_49 : decode cX12_termRead 49 = .ok (.ifCond .ge 9, 3) := by decide +kernel
theorem dX12_termRead_52 : decode cX12_termRead 52 = .ok (.aload_n 0, 1) := by decide +kernel
theorem dX12_termRead_53 : decode cX12_termRead 53 = .ok (.iconst 4, 1) := by decide +kernel
theorem dX12_termRead_54 : decode cX12_termRead 54 = .ok (.invokevirtual 143, 3) := by decide +kernel
theorem dX12_termRead_57 : decode cX12_termRead 57 = .ok (.ireturn, 1) := by decide +kernel
theorem dX12_termRead_58 : decode cX12_termRead 58 = .ok (.iload_n 2, 1) := by decide +kernel
theorem dX12_termRead_59 : decode cX12_termRead 59 = .ok (.ifCond .lt 38, 3) := by decide +kernel
theorem dX12_termRead_62 : decode cX12_termRead 62 = .ok (.iload 4, 2) := by decide +kernel
theorem dX12_termRead_64 : decode cX12_termRead 64 = .ok (.bipush 100, 2) := by decide +kernel
theorem dX12_termRead_66 : decode cX12_termRead 66 = .ok (.if_icmp .lt 31, 3) := by decide +kernel
theorem dX12_termRead_69 : decode cX12_termRead 69 = .ok (.aload_n 0, 1) := by decide +kernel
theorem dX12_termRead_70 : decode cX12_termRead 70 = .ok (.getfield 35, 3) := by decide +kernel
theorem dX12_termRead_73 : decode cX12_termRead 73 = .ok (.bipush 12, 2) := by decide +kernel
theorem dX12_termRead_75 : decode cX12_termRead 75 = .ok (.iload_n 2, 1) := by decide +kernel
theorem dX12_termRead_76 : decode cX12_termRead 76 = .ok (.imul, 1) := by decide +kernel
theorem dX12_termRead_77 : decode cX12_termRead 77 = .ok (.aload_n 0, 1) := by decide +kernel
theorem dX12_termRead_78 : decode cX12_termRead 78 = .ok (.getfield 32, 3) := by decide +kernel
theorem dX12_termRead_81 : decode cX12_termRead 81 = .ok (.iload_n 2, 1) := by decide +kernel
theorem dX12_termRead_82 : decode cX12_termRead 82 = .ok (.iaload, 1) := by decide +kernel
theorem dX12_termRead_83 : decode cX12_termRead 83 = .ok (.iload 4, 2) := by decide +kernel
theorem dX12_termRead_85 : decode cX12_termRead 85 = .ok (.invokestatic 198, 3) := by decide +kernel
theorem dX12_termRead_88 : decode cX12_termRead 88 = .ok (.ifCond .ge 9, 3) := by decide +kernel
theorem dX12_termRead_91 : decode cX12_termRead 91 = .ok (.aload_n 0, 1) := by decide +kernel
theorem dX12_termRead_92 : decode cX12_termRead 92 = .ok (.iconst 5, 1) := by decide +kernel
theorem dX12_termRead_93 : decode cX12_termRead 93 = .ok (.invokevirtual 143, 3) := by decide +kernel
theorem dX12_termRead_96 : decode cX12_termRead 96 = .ok (.ireturn, 1) := by decide +kernel
theorem dX12_termRead_97 : decode cX12_termRead 97 = .ok (.aload_n 0, 1) := by decide +kernel
theorem dX12_termRead_98 : decode cX12_termRead 98 = .ok (.getfield 47, 3) := by decide +kernel
theorem dX12_termRead_101 : decode cX12_termRead 101 = .ok (.aload_n 0, 1) := by decide +kernel
theorem dX12_termRead_102 : decode cX12_termRead 102 = .ok (.getfield 205, 3) := by decide +kernel
theorem dX12_termRead_105 : decode cX12_termRead 105 = .ok (.iload 4, 2) := by decide +kernel
theorem dX12_termRead_107 : decode cX12_termRead 107 = .ok (.iastore, 1) := by decide +kernel
theorem dX12_termRead_108 : decode cX12_termRead 108 = .ok (.aload_n 0, 1) := by decide +kernel
theorem dX12_termRead_109 : decode cX12_termRead 109 = .ok (.dup, 1) := by decide +kernel
theorem dX12_termRead_110 : decode cX12_termRead 110 = .ok (.getfield 205, 3) := by decide +kernel
theorem dX12_termRead_113 : decode cX12_termRead 113 = .ok (.iconst 1, 1) := by decide +kernel
theorem dX12_termRead_114 : decode cX12_termRead 114 = .ok (.iadd, 1) := by decide +kernel
theorem dX12_termRead_115 : decode cX12_termRead 115 = .ok (.putfield 205, 3) := by decide +kernel
theorem dX12_termRead_118 : decode cX12_termRead 118 = .ok (.aload_n 0, 1) := by decide +kernel
theorem dX12_termRead_119 : decode cX12_termRead 119 = .ok (.invokevirtual 153, 3) := by decide +kernel
theorem dX12_termRead_122 : decode cX12_termRead 122 = .ok (.iload 4, 2) := by decide +kernel
theorem dX12_termRead_124 : decode cX12_termRead 124 = .ok (.bipush 100, 2) := by decide +kernel
theorem dX12_termRead_126 : decode cX12_termRead 126 = .ok (.if_icmp .ge 18, 3) := by decide +kernel
theorem dX12_termRead_129 : decode cX12_termRead 129 = .ok (.aload_n 0, 1) := by decide +kernel
theorem dX12_termRead_130 : decode cX12_termRead 130 = .ok (.getfield 23, 3) := by decide +kernel
theorem dX12_termRead_133 : decode cX12_termRead 133 = .ok (.bipush 8, 2) := by decide +kernel
theorem dX12_termRead_135 : decode cX12_termRead 135 = .ok (.iload_n 1, 1) := by decide +kernel
theorem dX12_termRead_136 : decode cX12_termRead 136 = .ok (.imul, 1) := by decide +kernel
theorem dX12_termRead_137 : decode cX12_termRead 137 = .ok (.iload 4, 2) := by decide +kernel
theorem dX12_termRead_139 : decode cX12_termRead 139 = .ok (.iadd, 1) := by decide +kernel
theorem dX12_termRead_140 : decode cX12_termRead 140 = .ok (.iaload, 1) := by decide +kernel
theorem dX12_termRead_141 : decode cX12_termRead 141 = .ok (.goto 4, 3) := by decide +kernel
theorem dX12_termRead_144 : decode cX12_termRead 144 = .ok (.iconst 0, 1) := by decide +kernel
theorem dX12_termRead_145 : decode cX12_termRead 145 = .ok (.istore 5, 2) := by decide +kernel
theorem dX12_termRead_147 : decode cX12_termRead 147 = .ok (.iload 5, 2) := by decide +kernel
theorem dX12_termRead_149 : decode cX12_termRead 149 = .ok (.ifCond .le 36, 3) := by decide +kernel
theorem dX12_termRead_152 : decode cX12_termRead 152 = .ok (.aload_n 0, 1) := by decide +kernel
theorem dX12_termRead_153 : decode cX12_termRead 153 = .ok (.bipush 40, 2) := by decide +kernel
theorem dX12_termRead_155 : decode cX12_termRead 155 = .ok (.invokevirtual 156, 3) := by decide +kernel
theorem dX12_termRead_158 : decode cX12_termRead 158 = .ok (.ifCond .ne 9, 3) := by decide +kernel
theorem dX12_termRead_161 : decode cX12_termRead 161 = .ok (.aload_n 0, 1) := by decide +kernel
theorem dX12_termRead_162 : decode cX12_termRead 162 = .ok (.iconst 1, 1) := by decide +kernel
theorem dX12_termRead_163 : decode cX12_termRead 163 = .ok (.invokevirtual 143, 3) := by decide +kernel
theorem dX12_termRead_166 : decode cX12_termRead 166 = .ok (.ireturn, 1) := by decide +kernel
theorem dX12_termRead_167 : decode cX12_termRead 167 = .ok (.aload_n 0, 1) := by decide +kernel
theorem dX12_termRead_168 : decode cX12_termRead 168 = .ok (.invokevirtual 153, 3) := by decide +kernel
theorem dX12_termRead_171 : decode cX12_termRead 171 = .ok (.aload_n 0, 1) := by decide +kernel
theorem dX12_termRead_172 : decode cX12_termRead 172 = .ok (.getfield 50, 3) := by decide +kernel
theorem dX12_termRead_175 : decode cX12_termRead 175 = .ok (.iload_n 3, 1) := by decide +kernel
theorem dX12_termRead_176 : decode cX12_termRead 176 = .ok (.iload 5, 2) := by decide +kernel
theorem dX12_termRead_178 : decode cX12_termRead 178 = .ok (.iastore, 1) := by decide +kernel
theorem dX12_termRead_179 : decode cX12_termRead 179 = .ok (.iinc 3 1, 3) := by decide +kernel
theorem dX12_termRead_182 : decode cX12_termRead 182 = .ok (.goto (-175), 3) := by decide +kernel
theorem dX12_termRead_185 : decode cX12_termRead 185 = .ok (.iconst 0, 1) := by decide +kernel
theorem dX12_termRead_186 : decode cX12_termRead 186 = .ok (.istore 6, 2) := by decide +kernel
theorem dX12_termRead_188 : decode cX12_termRead 188 = .ok (.iload_n 3, 1) := by decide +kernel
theorem dX12_termRead_189 : decode cX12_termRead 189 = .ok (.ifCond .le 83, 3) := by decide +kernel
theorem dX12_termRead_192 : decode cX12_termRead 192 = .ok (.iload 6, 2) := by decide +kernel
theorem dX12_termRead_194 : decode cX12_termRead 194 = .ok (.ifCond .ne 78, 3) := by decide +kernel
theorem dX12_termRead_197 : decode cX12_termRead 197 = .ok (.aload_n 0, 1) := by decide +kernel
theorem dX12_termRead_198 : decode cX12_termRead 198 = .ok (.getfield 50, 3) := by decide +kernel
theorem dX12_termRead_201 : decode cX12_termRead 201 = .ok (.iload_n 3, 1) := by decide +kernel
theorem dX12_termRead_202 : decode cX12_termRead 202 = .ok (.iconst 1, 1) := by decide +kernel
theorem dX12_termRead_203 : decode cX12_termRead 203 = .ok (.isub, 1) := by decide +kernel
theorem dX12_termRead_204 : decode cX12_termRead 204 = .ok (.dup2, 1) := by decide +kernel
theorem dX12_termRead_205 : decode cX12_termRead 205 = .ok (.iaload, 1) := by decide +kernel
theorem dX12_termRead_206 : decode cX12_termRead 206 = .ok (.iconst 1, 1) := by decide +kernel
theorem dX12_termRead_207 : decode cX12_termRead 207 = .ok (.isub, 1) := by decide +kernel
theorem dX12_termRead_208 : decode cX12_termRead 208 = .ok (.iastore, 1) := by decide +kernel
theorem dX12_termRead_209 : decode cX12_termRead 209 = .ok (.aload_n 0, 1) := by decide +kernel
theorem dX12_termRead_210 : decode cX12_termRead 210 = .ok (.getfield 50, 3) := by decide +kernel
theorem dX12_termRead_213 : decode cX12_termRead 213 = .ok (.iload_n 3, 1) := by decide +kernel
theorem dX12_termRead_214 : decode cX12_termRead 214 = .ok (.iconst 1, 1) := by decide +kernel
theorem dX12_termRead_215 : decode cX12_termRead 215 = .ok (.isub, 1) := by decide +kernel
theorem dX12_termRead_216 : decode cX12_termRead 216 = .ok (.iaload, 1) := by decide +kernel
theorem dX12_termRead_217 : decode cX12_termRead 217 = .ok (.ifCond .le 7, 3) := by decide +kernel
theorem dX12_termRead_220 : decode cX12_termRead 220 = .ok (.iconst 1, 1) := by decide +kernel
theorem dX12_termRead_221 : decode cX12_termRead 221 = .ok (.goto 4, 3) := by decide +kernel
theorem dX12_termRead_224 : decode cX12_termRead 224 = .ok (.iconst 0, 1) := by decide +kernel
theorem dX12_termRead_225 : decode cX12_termRead 225 = .ok (.istore 6, 2) := by decide +kernel
theorem dX12_termRead_227 : decode cX12_termRead 227 = .ok (.aload_n 0, 1) := by decide +kernel
theorem dX12_termRead_228 : decode cX12_termRead 228 = .ok (.iload 6, 2) := by decide +kernel
theorem dX12_termRead_230 : decode cX12_termRead 230 = .ok (.ifCond .eq 8, 3) := by decide +kernel
theorem dX12_termRead_233 : decode cX12_termRead 233 = .ok (.bipush 44, 2) := by decide +kernel
theorem dX12_termRead_235 : decode cX12_termRead 235 = .ok (.goto 5, 3) := by decide +kernel
theorem dX12_termRead_238 : decode cX12_termRead 238 = .ok (.bipush 41, 2) := by decide +kernel
theorem dX12_termRead_240 : decode cX12_termRead 240 = .ok (.invokevirtual 156, 3) := by decide +kernel
theorem dX12_termRead_243 : decode cX12_termRead 243 = .ok (.ifCond .ne 9, 3) := by decide +kernel
theorem dX12_termRead_246 : decode cX12_termRead 246 = .ok (.aload_n 0, 1) := by decide +kernel
theorem dX12_termRead_247 : decode cX12_termRead 247 = .ok (.iconst 1, 1) := by decide +kernel
theorem dX12_termRead_248 : decode cX12_termRead 248 = .ok (.invokevirtual 143, 3) := by decide +kernel
theorem dX12_termRead_251 : decode cX12_termRead 251 = .ok (.ireturn, 1) := by decide +kernel
theorem dX12_termRead_252 : decode cX12_termRead 252 = .ok (.aload_n 0, 1) := by decide +kernel
theorem dX12_termRead_253 : decode cX12_termRead 253 = .ok (.invokevirtual 153, 3) := by decide +kernel
theorem dX12_termRead_256 : decode cX12_termRead 256 = .ok (.iload_n 3, 1) := by decide +kernel
theorem dX12_termRead_257 : decode cX12_termRead 257 = .ok (.iload 6, 2) := by decide +kernel
theorem dX12_termRead_259 : decode cX12_termRead 259 = .ok (.ifCond .eq 7, 3) := by decide +kernel
theorem dX12_termRead_262 : decode cX12_termRead 262 = .ok (.iconst 0, 1) := by decide +kernel
theorem dX12_termRead_263 : decode cX12_termRead 263 = .ok (.goto 4, 3) := by decide +kernel
theorem dX12_termRead_266 : decode cX12_termRead 266 = .ok (.iconst 1, 1) := by decide +kernel
theorem dX12_termRead_267 : decode cX12_termRead 267 = .ok (.isub, 1) := by decide +kernel
theorem dX12_termRead_268 : decode cX12_termRead 268 = .ok (.istore_n 3, 1) := by decide +kernel
theorem dX12_termRead_269 : decode cX12_termRead 269 = .ok (.goto (-81), 3) := by decide +kernel
theorem dX12_termRead_272 : decode cX12_termRead 272 = .ok (.iload 6, 2) := by decide +kernel
theorem dX12_termRead_274 : decode cX12_termRead 274 = .ok (.ifCond .ne 5, 3) := by decide +kernel
theorem dX12_termRead_277 : decode cX12_termRead 277 = .ok (.iconst 1, 1) := by decide +kernel
theorem dX12_termRead_278 : decode cX12_termRead 278 = .ok (.ireturn, 1) := by decide +kernel
theorem dX12_termRead_279 : decode cX12_termRead 279 = .ok (.goto (-272), 3) := by decide +kernel
theorem wl_X12_156 : Cond.methodLink RX12 156 yX12_isSign ∈ xT := xin 1572 (by decide +kernel) rfl
theorem wf_X12_205 : Cond.fieldLink RX12 205 "TermShelfModel" "madeLong" "I" ∈ xT := xin 1342 (by decide +kernel) rfl
theorem wf_X12_47 : Cond.fieldLink RX12 47 "TermShelfModel" "made" "[I" ∈ xT := xin 1341 (by decide +kernel) rfl
theorem wf_X12_50 : Cond.fieldLink RX12 50 "TermShelfModel" "awaited" "[I" ∈ xT := xin 1343 (by decide +kernel) rfl
section XN_X12_termRead
variable {p : Program} {l : Launch} {e : Env} {R : Room} {s : State} {m : MethodId} {args : Array Value} {below : List Frame} {meth : Method} {c : Code} {H H0 : Heap} {locs : List Loc} {cells slots : Nat} {Q : State → Prop} {cc : ByteArray} {nL pc : Nat} {rt : Option FieldType} {ls : Array Slot} {rest : List Value} {D : xD} {ty : xTy} {h : xH}
theorem cl_X12_156 {v0 : Nat} {v1 : Int32} {r : Int32} (C0 : xC D RX12 cc nL rt p s m args meth c) (hR : xRep D ty h H) (hS : xS ty H0 H locs) (hF : jf_X12_isSign ty h v0 v1 = some r) (t_v0 : ty v0 = some (0, 12)) (hrm : jr_X12_isSign.frames + 1 ≤ R.frames ∧ 8 + (2 + 11) + jr_X12_isSign.locals ≤ R.locals) (hsz : ls.size = nL) (hW : (rest.map fun v => v.category).sum ≤ 8) (hf : cells ≤ R.cells ∧ slots ≤ R.slots) (hdg : decode cc pc = .ok (.invokevirtual 156, 3)) (kk : ∀ (H1 : Heap) (locs1 : List Loc), xRep D ty h H1 → xS ty H0 H1 locs1 → W p l e R s m args below meth c H1 locs1 cells slots Q (F0 m (pc + 3) ls (.int r :: rest))) : W p l e R s m args below meth c H locs cells slots Q (F0 m pc ls (.int v1 :: .ref v0 :: rest)) := x_callV C0 (jc_X12_isSign t_v0 hF) xm_X12_isSign xi_X12_isSign xe_X12_isSign wl_X12_156 ⟨rfl, rfl, hrm⟩ (ci := 12) rfl t_v0 hR hS (As := [.int v1]) rfl hsz rfl hW hdg hf kk
theorem gf_X12_205 {a : Nat} (C0 : xC D RX12 cc nL rt p s m args meth c) (hR : xRep D ty h H) (ht : ty a = some (0, 12)) (hdg : decode cc pc = .ok (.getfield 205, 3)) (kk : W p l e R s m args below meth c H locs cells slots Q (F0 m (pc + 3) ls (.int (xI h a 30) :: rest))) : W p l e R s m args below meth c H locs cells slots Q (F0 m pc ls (.ref a :: rest)) := x_get C0 hR (ci := 12) (k := 30) (N := 60) (T := TX12) rfl iX12 (by decide) rfl wf_X12_205 rfl ht hdg kk
theorem gf_X12_47 {a : Nat} (C0 : xC D RX12 cc nL rt p s m args meth c) (hR : xRep D ty h H) (ht : ty a = some (0, 12)) {v : Nat} (hv : xR h a 29 = some v) (hdg : decode cc pc = .ok (.getfield 47, 3)) (kk : W p l e R s m args below meth c H locs cells slots Q (F0 m (pc + 3) ls (.ref v :: rest))) : W p l e R s m args below meth c H locs cells slots Q (F0 m pc ls (.ref a :: rest)) := x_get C0 hR (ci := 12) (k := 29) (N := 60) (T := TX12) rfl iX12 (by decide) rfl wf_X12_47 (by show va_rf (xR h a 29) = _; rw [hv]; rfl) ht hdg kk
theorem gf_X12_50 {a : Nat} (C0 : xC D RX12 cc nL rt p s m args meth c) (hR : xRep D ty h H) (ht : ty a = some (0, 12)) {v : Nat} (hv : xR h a 31 = some v) (hdg : decode cc pc = .ok (.getfield 50, 3)) (kk : W p l e R s m args below meth c H locs cells slots Q (F0 m (pc + 3) ls (.ref v :: rest))) : W p l e R s m args below meth c H locs cells slots Q (F0 m pc ls (.ref a :: rest)) := x_get C0 hR (ci := 12) (k := 31) (N := 60) (T := TX12) rfl iX12 (by decide) rfl wf_X12_50 (by show va_rf (xR h a 31) = _; rw [hv]; rfl) ht hdg kk
theorem pf_X12_205 {a : Nat} {v : Int32} (C0 : xC D RX12 cc nL rt p s m args meth c) (hR : xRep D ty h H) (hS : xS ty H0 H locs) (ht : ty a = some (0, 12)) (hdg : decode cc pc = .ok (.putfield 205, 3)) (kk : ∀ (H1 : Heap) (locs1 : List Loc), xRep D ty (xsI h a 30 v) H1 → xS ty H0 H1 locs1 → W p l e R s m args below meth c H1 locs1 cells slots Q (F0 m (pc + 3) ls rest)) : W p l e R s m args below meth c H locs cells slots Q (F0 m pc ls (.int v :: .ref a :: rest)) := x_puti C0 hR hS (ci := 12) (k := 30) (N := 60) (T := TX12) rfl iX12 tyX12_ok nmX12 (by decide) rfl rfl wf_X12_205 (Or.inl rfl) rfl rfl ht hdg kk
end XN_X12_termRead
set_option maxHeartbeats 4000000 in
set_option maxRecDepth 100000 in
theorem jw_X12_termRead_240 {p : Program} {l : Launch} {e : Env} {s : State} {m : MethodId} {args : Array Value} {below : List Frame} {meth : Method} {c : Code} {D : xD} {ty : xTy} {k7 : Nat → Int32 → Int32 → Int32 → xH → Option (Int32 × xH)} {k188 : Nat → Int32 → Int32 → Int32 → Int32 → xH → Option (Int32 × xH)} (C0 : xC D RX12 cX12_termRead 7 (some .boolean) p s m args meth c) {r : Int32} {h9 : xH} (hk7 : ∀ (v0 : Nat) (v1 : Int32) (v2 : Int32) (v3 : Int32) (h : xH), ty v0 = some (0, 12) → k7 v0 v1 v2 v3 h = some (r, h9) → ∀ (H : Heap) (locs : List Loc), xRep D ty h H → xS ty s.heap H locs → ∀ ls : Array Slot, lv_has ls 7 [(0, .ref v0), (1, .int v1), (2, .int v2), (3, .int v3)] → W p l e jr_X12_termRead s m args below meth c H locs 0 0 (MQ below (xQ D ty (some (.int r)) h9) args s 0 0 (xdom ty)) (F0 m 7 ls [])) (hk188 : ∀ (v0 : Nat) (v1 : Int32) (v2 : Int32) (v3 : Int32) (v6 : Int32) (h : xH), ty v0 = some (0, 12) → k188 v0 v1 v2 v3 v6 h = some (r, h9) → ∀ (H : Heap) (locs : List Loc), xRep D ty h H → xS ty s.heap H locs → ∀ ls : Array Slot, lv_has ls 7 [(0, .ref v0), (1, .int v1), (2, .int v2), (3, .int v3), (6, .int v6)] → W p l e jr_X12_termRead s m args below meth c H locs 0 0 (MQ below (xQ D ty (some (.int r)) h9) args s 0 0 (xdom ty)) (F0 m 188 ls [])) : ∀ (v0 : Nat) (v1 : Int32) (v2 : Int32) (v3 : Int32) (v6 : Int32) (s0 : Nat) (s1 : Int32) (h : xH), ty v0 = some (0, 12) → ty s0 = some (0, 12) → jf_X12_termRead_240 ty k7 k188 v0 v1 v2 v3 v6 s0 s1 h = some (r, h9) → ∀ (H : Heap) (locs : List Loc), xRep D ty h H → xS ty s.heap H locs → ∀ ls : Array Slot, lv_has ls 7 [(0, .ref v0), (1, .int v1), (2, .int v2), (3, .int v3), (6, .int v6)] → W p l e jr_X12_termRead s m args below meth c H locs 0 0 (MQ below (xQ D ty (some (.int r)) h9) args s 0 0 (xdom ty)) (F0 m 240 ls [.int s1, .ref s0]) := by
  have hx := C0.1
  have hb := C0.2.1
  have hown := C0.2.2.2.2.2.1
  have hts := C0.2.2.2.2.2.2.1
  intro v0 v1 v2 v3 v6 s0 s1 h t_v0 t_s0 hF H locs hR hS ls hl
  unfold jf_X12_termRead_240 at hF
  obtain ⟨a1, e_a1, hF⟩ := xbd hF
  refine cl_X12_156 C0 hR hS e_a1 t_s0 ⟨(Nat.le_of_ble_eq_true rfl), (Nat.le_of_ble_eq_true rfl)⟩ hl.1 (Nat.le_of_ble_eq_true rfl) ⟨(Nat.le_of_ble_eq_true rfl), (Nat.le_of_ble_eq_true rfl)⟩ dX12_termRead_240 (fun H locs hR hS => ?_)
  refine lv_if_ne (tgt := 252) hx hb dX12_termRead_243 (by decide) (fun c2 => ?_) (fun c2 => ?_)
  · have hF := xel hF c2
    refine lv_aload_n hx hb dX12_termRead_252 rfl (lv_at hl 0 rfl) ?_
    obtain ⟨h3, e_h3, hF⟩ := xbd hF
    refine cl_X12_153 C0 hR hS e_h3 t_v0 ⟨(Nat.le_of_ble_eq_true rfl), (Nat.le_of_ble_eq_true rfl)⟩ hl.1 (Nat.le_of_ble_eq_true rfl) ⟨(Nat.le_of_ble_eq_true rfl), (Nat.le_of_ble_eq_true rfl)⟩ dX12_termRead_253 (fun H locs hR hS => ?_)
    refine lv_iload_n hx hb dX12_termRead_256 rfl (lv_at hl 3 rfl) ?_
    refine lv_iload hx hb dX12_termRead_257 (lv_at hl 4 rfl) ?_
    refine lv_if_eq (tgt := 266) hx hb dX12_termRead_259 (by decide) (fun c4 => ?_) (fun c4 => ?_)
    · have hF := xif hF c4
      refine lv_iconst (v := 1) hx hb dX12_termRead_266 (by decide) ?_
      refine lv_isub hx hb dX12_termRead_267 ?_
      refine lv_istore_n (lv' := [(3, .int (v3 - 1)), (0, .ref v0), (1, .int v1), (2, .int v2), (6, .int v6)]) hx hb dX12_termRead_268 rfl hl (by decide) rfl (fun ls hl => ?_)
      refine lv_goto (tgt := 188) hx hb dX12_termRead_269 (by decide) ?_
      exact hk188 _ _ _ _ _ _ t_v0 hF _ _ hR hS _ (lv_sub hl [1, 2, 3, 0, 4] rfl)
    · have hF := xel hF c4
      refine lv_iconst (v := 0) hx hb dX12_termRead_262 (by decide) ?_
      refine lv_goto (tgt := 267) hx hb dX12_termRead_263 (by decide) ?_
      refine lv_isub hx hb dX12_termRead_267 ?_
      refine lv_istore_n (lv' := [(3, .int (v3 - 0)), (0, .ref v0), (1, .int v1), (2, .int v2), (6, .int v6)]) hx hb dX12_termRead_268 rfl hl (by decide) rfl (fun ls hl => ?_)
      refine lv_goto (tgt := 188) hx hb dX12_termRead_269 (by decide) ?_
      exact hk188 _ _ _ _ _ _ t_v0 hF _ _ hR hS _ (lv_sub hl [1, 2, 3, 0, 4] rfl)
  · have hF := xif hF c2
    refine lv_aload_n hx hb dX12_termRead_246 rfl (lv_at hl 0 rfl) ?_
    refine lv_iconst (v := 1) hx hb dX12_termRead_247 (by decide) ?_
    obtain ⟨a6, h5, e_h5, hF⟩ := xbd2 hF
    refine cl_X12_143 C0 hR hS e_h5 t_v0 ⟨(Nat.le_of_ble_eq_true rfl), (Nat.le_of_ble_eq_true rfl)⟩ hl.1 (Nat.le_of_ble_eq_true rfl) ⟨(Nat.le_of_ble_eq_true rfl), (Nat.le_of_ble_eq_true rfl)⟩ dX12_termRead_248 (fun H locs hR hS => ?_)
    obtain ⟨w7, e_w7, hF⟩ := xbd hF
    cases hF
    exact x_zret C0 hR hS e_w7 dX12_termRead_251
set_option maxHeartbeats 4000000 in
set_option maxRecDepth 100000 in
theorem jw_X12_termRead_188 {p : Program} {l : Launch} {e : Env} {s : State} {m : MethodId} {args : Array Value} {below : List Frame} {meth : Method} {c : Code} {D : xD} {ty : xTy} {k7 : Nat → Int32 → Int32 → Int32 → xH → Option (Int32 × xH)} (C0 : xC D RX12 cX12_termRead 7 (some .boolean) p s m args meth c) {r : Int32} {h9 : xH} (hk7 : ∀ (v0 : Nat) (v1 : Int32) (v2 : Int32) (v3 : Int32) (h : xH), ty v0 = some (0, 12) → k7 v0 v1 v2 v3 h = some (r, h9) → ∀ (H : Heap) (locs : List Loc), xRep D ty h H → xS ty s.heap H locs → ∀ ls : Array Slot, lv_has ls 7 [(0, .ref v0), (1, .int v1), (2, .int v2), (3, .int v3)] → W p l e jr_X12_termRead s m args below meth c H locs 0 0 (MQ below (xQ D ty (some (.int r)) h9) args s 0 0 (xdom ty)) (F0 m 7 ls [])) : ∀ n : Nat, ∀ (v0 : Nat) (v1 : Int32) (v2 : Int32) (v3 : Int32) (v6 : Int32) (h : xH), ty v0 = some (0, 12) → jf_X12_termRead_188 ty k7 n v0 v1 v2 v3 v6 h = some (r, h9) → ∀ (H : Heap) (locs : List Loc), xRep D ty h H → xS ty s.heap H locs → ∀ ls : Array Slot, lv_has ls 7 [(0, .ref v0), (1, .int v1), (2, .int v2), (3, .int v3), (6, .int v6)] → W p l e jr_X12_termRead s m args below meth c H locs 0 0 (MQ below (xQ D ty (some (.int r)) h9) args s 0 0 (xdom ty)) (F0 m 188 ls []) := by
  have hx := C0.1
  have hb := C0.2.1
  have hown := C0.2.2.2.2.2.1
  have hts := C0.2.2.2.2.2.2.1
  intro n
  induction n with
  | zero =>
    intro v0 v1 v2 v3 v6 h t_v0 hF H locs hR hS ls hl
    cases hF
  | succ n ih =>
    intro v0 v1 v2 v3 v6 h t_v0 hF H locs hR hS ls hl
    rw [jf_X12_termRead_188_s] at hF
    refine lv_iload_n hx hb dX12_termRead_188 rfl (lv_at hl 3 rfl) ?_
    refine lv_if_le (tgt := 272) hx hb dX12_termRead_189 (by decide) (fun c8 => ?_) (fun c8 => ?_)
    · have hF := xif hF c8
      refine lv_iload hx hb dX12_termRead_272 (lv_at hl 4 rfl) ?_
      refine lv_if_ne (tgt := 279) hx hb dX12_termRead_274 (by decide) (fun c9 => ?_) (fun c9 => ?_)
      · have hF := xel hF c9
        refine lv_goto (tgt := 7) hx hb dX12_termRead_279 (by decide) ?_
        exact hk7 _ _ _ _ _ t_v0 hF _ _ hR hS _ (lv_sub hl [0, 1, 2, 3] rfl)
      · have hF := xif hF c9
        refine lv_iconst (v := 1) hx hb dX12_termRead_277 (by decide) ?_
        cases hF
        exact x_zret (w := 1) C0 hR hS (by decide) dX12_termRead_278
    · have hF := xel hF c8
      refine lv_iload hx hb dX12_termRead_192 (lv_at hl 4 rfl) ?_
      refine lv_if_ne (tgt := 272) hx hb dX12_termRead_194 (by decide) (fun c10 => ?_) (fun c10 => ?_)
      · have hF := xel hF c10
        refine lv_iload hx hb dX12_termRead_272 (lv_at hl 4 rfl) ?_
        refine lv_if_ne (tgt := 279) hx hb dX12_termRead_274 (by decide) (fun c11 => ?_) (fun c11 => ?_)
        · have hF := xel hF c11
          refine lv_goto (tgt := 7) hx hb dX12_termRead_279 (by decide) ?_
          exact hk7 _ _ _ _ _ t_v0 hF _ _ hR hS _ (lv_sub hl [0, 1, 2, 3] rfl)
        · have hF := xif hF c11
          refine lv_iconst (v := 1) hx hb dX12_termRead_277 (by decide) ?_
          cases hF
          exact x_zret (w := 1) C0 hR hS (by decide) dX12_termRead_278
      · have hF := xif hF c10
        refine lv_aload_n hx hb dX12_termRead_197 rfl (lv_at hl 0 rfl) ?_
        obtain ⟨a12, e_a12, hF⟩ := xbd hF
        refine gf_X12_50 C0 hR t_v0 e_a12 dX12_termRead_198 ?_
        refine lv_iload_n hx hb dX12_termRead_201 rfl (lv_at hl 3 rfl) ?_
        refine lv_iconst (v := 1) hx hb dX12_termRead_202 (by decide) ?_
        refine lv_isub hx hb dX12_termRead_203 ?_
        refine lv_dup2_11 hx hb dX12_termRead_204 rfl rfl ?_
        obtain ⟨a13, e_a13, hF⟩ := xbd hF
        refine x_iald C0 hR e_a13 dX12_termRead_205 ?_
        refine lv_iconst (v := 1) hx hb dX12_termRead_206 (by decide) ?_
        refine lv_isub hx hb dX12_termRead_207 ?_
        obtain ⟨h14, e_h14, hF⟩ := xbd hF
        refine x_iast C0 hR hS e_h14 dX12_termRead_208 (fun H locs hR hS => ?_)
        refine lv_aload_n hx hb dX12_termRead_209 rfl (lv_at hl 0 rfl) ?_
        obtain ⟨a15, e_a15, hF⟩ := xbd hF
        refine gf_X12_50 C0 hR t_v0 e_a15 dX12_termRead_210 ?_
        refine lv_iload_n hx hb dX12_termRead_213 rfl (lv_at hl 3 rfl) ?_
        refine lv_iconst (v := 1) hx hb dX12_termRead_214 (by decide) ?_
        refine lv_isub hx hb dX12_termRead_215 ?_
        obtain ⟨a16, e_a16, hF⟩ := xbd hF
        refine x_iald C0 hR e_a16 dX12_termRead_216 ?_
        refine lv_if_le (tgt := 224) hx hb dX12_termRead_217 (by decide) (fun c17 => ?_) (fun c17 => ?_)
        · have hF := xif hF c17
          refine lv_iconst (v := 0) hx hb dX12_termRead_224 (by decide) ?_
          refine lv_istore (lv' := [(6, .int 0), (0, .ref v0), (1, .int v1), (2, .int v2), (3, .int v3)]) hx hb dX12_termRead_225 hl (by decide) rfl (fun ls hl => ?_)
          refine lv_aload_n hx hb dX12_termRead_227 rfl (lv_at hl 1 rfl) ?_
          refine lv_iload hx hb dX12_termRead_228 (lv_at hl 0 rfl) ?_
          refine lv_if_eq (tgt := 238) hx hb dX12_termRead_230 (by decide) (fun c18 => ?_) (fun c18 => ?_)
          · have hF := xif hF c18
            refine lv_bipush (v := 41) hx hb dX12_termRead_238 (by decide) ?_
            exact jw_X12_termRead_240 C0 hk7 ih _ _ _ _ _ _ _ _ t_v0 t_v0 hF _ _ hR hS _ (lv_sub hl [1, 2, 3, 4, 0] rfl)
          · have hF := xel hF c18
            refine lv_bipush (v := 44) hx hb dX12_termRead_233 (by decide) ?_
            refine lv_goto (tgt := 240) hx hb dX12_termRead_235 (by decide) ?_
            exact jw_X12_termRead_240 C0 hk7 ih _ _ _ _ _ _ _ _ t_v0 t_v0 hF _ _ hR hS _ (lv_sub hl [1, 2, 3, 4, 0] rfl)
        · have hF := xel hF c17
          refine lv_iconst (v := 1) hx hb dX12_termRead_220 (by decide) ?_
          refine lv_goto (tgt := 225) hx hb dX12_termRead_221 (by decide) ?_
          refine lv_istore (lv' := [(6, .int 1), (0, .ref v0), (1, .int v1), (2, .int v2), (3, .int v3)]) hx hb dX12_termRead_225 hl (by decide) rfl (fun ls hl => ?_)
          refine lv_aload_n hx hb dX12_termRead_227 rfl (lv_at hl 1 rfl) ?_
          refine lv_iload hx hb dX12_termRead_228 (lv_at hl 0 rfl) ?_
          refine lv_if_eq (tgt := 238) hx hb dX12_termRead_230 (by decide) (fun c19 => ?_) (fun c19 => ?_)
          · have hF := xif hF c19
            refine lv_bipush (v := 41) hx hb dX12_termRead_238 (by decide) ?_
            exact jw_X12_termRead_240 C0 hk7 ih _ _ _ _ _ _ _ _ t_v0 t_v0 hF _ _ hR hS _ (lv_sub hl [1, 2, 3, 4, 0] rfl)
          · have hF := xel hF c19
            refine lv_bipush (v := 44) hx hb dX12_termRead_233 (by decide) ?_
            refine lv_goto (tgt := 240) hx hb dX12_termRead_235 (by decide) ?_
            exact jw_X12_termRead_240 C0 hk7 ih _ _ _ _ _ _ _ _ t_v0 t_v0 hF _ _ hR hS _ (lv_sub hl [1, 2, 3, 4, 0] rfl)
set_option maxHeartbeats 4000000 in
set_option maxRecDepth 100000 in
theorem jw_X12_termRead_145 {p : Program} {l : Launch} {e : Env} {s : State} {m : MethodId} {args : Array Value} {below : List Frame} {meth : Method} {c : Code} {D : xD} {ty : xTy} {k7 : Nat → Int32 → Int32 → Int32 → xH → Option (Int32 × xH)} (C0 : xC D RX12 cX12_termRead 7 (some .boolean) p s m args meth c) {r : Int32} {h9 : xH} (hk7 : ∀ (v0 : Nat) (v1 : Int32) (v2 : Int32) (v3 : Int32) (h : xH), ty v0 = some (0, 12) → k7 v0 v1 v2 v3 h = some (r, h9) → ∀ (H : Heap) (locs : List Loc), xRep D ty h H → xS ty s.heap H locs → ∀ ls : Array Slot, lv_has ls 7 [(0, .ref v0), (1, .int v1), (2, .int v2), (3, .int v3)] → W p l e jr_X12_termRead s m args below meth c H locs 0 0 (MQ below (xQ D ty (some (.int r)) h9) args s 0 0 (xdom ty)) (F0 m 7 ls [])) : ∀ (v0 : Nat) (v1 : Int32) (v2 : Int32) (v3 : Int32) (s0 : Int32) (h : xH), ty v0 = some (0, 12) → jf_X12_termRead_145 ty k7 v0 v1 v2 v3 s0 h = some (r, h9) → ∀ (H : Heap) (locs : List Loc), xRep D ty h H → xS ty s.heap H locs → ∀ ls : Array Slot, lv_has ls 7 [(0, .ref v0), (1, .int v1), (2, .int v2), (3, .int v3)] → W p l e jr_X12_termRead s m args below meth c H locs 0 0 (MQ below (xQ D ty (some (.int r)) h9) args s 0 0 (xdom ty)) (F0 m 145 ls [.int s0]) := by
  have hx := C0.1
  have hb := C0.2.1
  have hown := C0.2.2.2.2.2.1
  have hts := C0.2.2.2.2.2.2.1
  intro v0 v1 v2 v3 s0 h t_v0 hF H locs hR hS ls hl
  unfold jf_X12_termRead_145 at hF
  refine lv_istore (lv' := [(5, .int s0), (0, .ref v0), (1, .int v1), (2, .int v2), (3, .int v3)]) hx hb dX12_termRead_145 hl (by decide) rfl (fun ls hl => ?_)
  refine lv_iload hx hb dX12_termRead_147 (lv_at hl 0 rfl) ?_
  refine lv_if_le (tgt := 185) hx hb dX12_termRead_149 (by decide) (fun c20 => ?_) (fun c20 => ?_)
  · have hF := xif hF c20
    refine lv_iconst (v := 0) hx hb dX12_termRead_185 (by decide) ?_
    refine lv_istore (lv' := [(6, .int 0), (5, .int s0), (0, .ref v0), (1, .int v1), (2, .int v2), (3, .int v3)]) hx hb dX12_termRead_186 hl (by decide) rfl (fun ls hl => ?_)
    obtain ⟨_, hF⟩ := xlim_sp hF
    exact jw_X12_termRead_188 C0 hk7 _ _ _ _ _ _ _ t_v0 hF _ _ hR hS _ (lv_sub hl [2, 3, 4, 5, 0] rfl)
  · have hF := xel hF c20
    refine lv_aload_n hx hb dX12_termRead_152 rfl (lv_at hl 1 rfl) ?_
    refine lv_bipush (v := 40) hx hb dX12_termRead_153 (by decide) ?_
    obtain ⟨a21, e_a21, hF⟩ := xbd hF
    refine cl_X12_156 C0 hR hS e_a21 t_v0 ⟨(Nat.le_of_ble_eq_true rfl), (Nat.le_of_ble_eq_true rfl)⟩ hl.1 (Nat.le_of_ble_eq_true rfl) ⟨(Nat.le_of_ble_eq_true rfl), (Nat.le_of_ble_eq_true rfl)⟩ dX12_termRead_155 (fun H locs hR hS => ?_)
    refine lv_if_ne (tgt := 167) hx hb dX12_termRead_158 (by decide) (fun c22 => ?_) (fun c22 => ?_)
    · have hF := xel hF c22
      refine lv_aload_n hx hb dX12_termRead_167 rfl (lv_at hl 1 rfl) ?_
      obtain ⟨h23, e_h23, hF⟩ := xbd hF
      refine cl_X12_153 C0 hR hS e_h23 t_v0 ⟨(Nat.le_of_ble_eq_true rfl), (Nat.le_of_ble_eq_true rfl)⟩ hl.1 (Nat.le_of_ble_eq_true rfl) ⟨(Nat.le_of_ble_eq_true rfl), (Nat.le_of_ble_eq_true rfl)⟩ dX12_termRead_168 (fun H locs hR hS => ?_)
      refine lv_aload_n hx hb dX12_termRead_171 rfl (lv_at hl 1 rfl) ?_
      obtain ⟨a24, e_a24, hF⟩ := xbd hF
      refine gf_X12_50 C0 hR t_v0 e_a24 dX12_termRead_172 ?_
      refine lv_iload_n hx hb dX12_termRead_175 rfl (lv_at hl 4 rfl) ?_
      refine lv_iload hx hb dX12_termRead_176 (lv_at hl 0 rfl) ?_
      obtain ⟨h25, e_h25, hF⟩ := xbd hF
      refine x_iast C0 hR hS e_h25 dX12_termRead_178 (fun H locs hR hS => ?_)
      refine lv_iinc (v := v3 + 1) (lv' := [(3, .int (v3 + 1)), (5, .int s0), (0, .ref v0), (1, .int v1), (2, .int v2)]) hx hb dX12_termRead_179 hl (k := 4) rfl rfl (by decide) rfl (fun ls hl => ?_)
      refine lv_goto (tgt := 7) hx hb dX12_termRead_182 (by decide) ?_
      exact hk7 _ _ _ _ _ t_v0 hF _ _ hR hS _ (lv_sub hl [2, 3, 4, 0] rfl)
    · have hF := xif hF c22
      refine lv_aload_n hx hb dX12_termRead_161 rfl (lv_at hl 1 rfl) ?_
      refine lv_iconst (v := 1) hx hb dX12_termRead_162 (by decide) ?_
      obtain ⟨a27, h26, e_h26, hF⟩ := xbd2 hF
      refine cl_X12_143 C0 hR hS e_h26 t_v0 ⟨(Nat.le_of_ble_eq_true rfl), (Nat.le_of_ble_eq_true rfl)⟩ hl.1 (Nat.le_of_ble_eq_true rfl) ⟨(Nat.le_of_ble_eq_true rfl), (Nat.le_of_ble_eq_true rfl)⟩ dX12_termRead_163 (fun H locs hR hS => ?_)
      obtain ⟨w28, e_w28, hF⟩ := xbd hF
      cases hF
      exact x_zret C0 hR hS e_w28 dX12_termRead_166
set_option maxHeartbeats 4000000 in
set_option maxRecDepth 100000 in
theorem jw_X12_termRead_97 {p : Program} {l : Launch} {e : Env} {s : State} {m : MethodId} {args : Array Value} {below : List Frame} {meth : Method} {c : Code} {D : xD} {ty : xTy} {k7 : Nat → Int32 → Int32 → Int32 → xH → Option (Int32 × xH)} (C0 : xC D RX12 cX12_termRead 7 (some .boolean) p s m args meth c) {r : Int32} {h9 : xH} (hk7 : ∀ (v0 : Nat) (v1 : Int32) (v2 : Int32) (v3 : Int32) (h : xH), ty v0 = some (0, 12) → k7 v0 v1 v2 v3 h = some (r, h9) → ∀ (H : Heap) (locs : List Loc), xRep D ty h H → xS ty s.heap H locs → ∀ ls : Array Slot, lv_has ls 7 [(0, .ref v0), (1, .int v1), (2, .int v2), (3, .int v3)] → W p l e jr_X12_termRead s m args below meth c H locs 0 0 (MQ below (xQ D ty (some (.int r)) h9) args s 0 0 (xdom ty)) (F0 m 7 ls [])) : ∀ (v0 : Nat) (v1 : Int32) (v2 : Int32) (v3 : Int32) (v4 : Int32) (h : xH), ty v0 = some (0, 12) → jf_X12_termRead_97 ty k7 v0 v1 v2 v3 v4 h = some (r, h9) → ∀ (H : Heap) (locs : List Loc), xRep D ty h H → xS ty s.heap H locs → ∀ ls : Array Slot, lv_has ls 7 [(0, .ref v0), (1, .int v1), (2, .int v2), (3, .int v3), (4, .int v4)] → W p l e jr_X12_termRead s m args below meth c H locs 0 0 (MQ below (xQ D ty (some (.int r)) h9) args s 0 0 (xdom ty)) (F0 m 97 ls []) := by
  have hx := C0.1
  have hb := C0.2.1
  have hown := C0.2.2.2.2.2.1
  have hts := C0.2.2.2.2.2.2.1
  intro v0 v1 v2 v3 v4 h t_v0 hF H locs hR hS ls hl
  unfold jf_X12_termRead_97 at hF
  refine lv_aload_n hx hb dX12_termRead_97 rfl (lv_at hl 0 rfl) ?_
  obtain ⟨a29, e_a29, hF⟩ := xbd hF
  refine gf_X12_47 C0 hR t_v0 e_a29 dX12_termRead_98 ?_
  refine lv_aload_n hx hb dX12_termRead_101 rfl (lv_at hl 0 rfl) ?_
  refine gf_X12_205 C0 hR t_v0 dX12_termRead_102 ?_
  refine lv_iload hx hb dX12_termRead_105 (lv_at hl 4 rfl) ?_
  obtain ⟨h30, e_h30, hF⟩ := xbd hF
  refine x_iast C0 hR hS e_h30 dX12_termRead_107 (fun H locs hR hS => ?_)
  refine lv_aload_n hx hb dX12_termRead_108 rfl (lv_at hl 0 rfl) ?_
  refine lv_dup hx hb dX12_termRead_109 rfl ?_
  refine gf_X12_205 C0 hR t_v0 dX12_termRead_110 ?_
  refine lv_iconst (v := 1) hx hb dX12_termRead_113 (by decide) ?_
  refine lv_iadd hx hb dX12_termRead_114 ?_
  obtain ⟨h31, e_h31, hF⟩ := xbd hF
  refine pf_X12_205 C0 hR hS t_v0 dX12_termRead_115 (fun H locs hR hS => ?_)
  rw [Option.some.inj e_h31] at hR
  refine lv_aload_n hx hb dX12_termRead_118 rfl (lv_at hl 0 rfl) ?_
  obtain ⟨h32, e_h32, hF⟩ := xbd hF
  refine cl_X12_153 C0 hR hS e_h32 t_v0 ⟨(Nat.le_of_ble_eq_true rfl), (Nat.le_of_ble_eq_true rfl)⟩ hl.1 (Nat.le_of_ble_eq_true rfl) ⟨(Nat.le_of_ble_eq_true rfl), (Nat.le_of_ble_eq_true rfl)⟩ dX12_termRead_119 (fun H locs hR hS => ?_)
  refine lv_iload hx hb dX12_termRead_122 (lv_at hl 4 rfl) ?_
  refine lv_bipush (v := 100) hx hb dX12_termRead_124 (by decide) ?_
  refine lv_icmp_ge (tgt := 144) hx hb dX12_termRead_126 (by decide) (fun c33 => ?_) (fun c33 => ?_)
  · have hF := xif hF c33
    refine lv_iconst (v := 0) hx hb dX12_termRead_144 (by decide) ?_
    exact jw_X12_termRead_145 C0 hk7 _ _ _ _ _ _ t_v0 hF _ _ hR hS _ (lv_sub hl [0, 1, 2, 3] rfl)
  · have hF := xel hF c33
    refine lv_aload_n hx hb dX12_termRead_129 rfl (lv_at hl 0 rfl) ?_
    obtain ⟨a34, e_a34, hF⟩ := xbd hF
    refine gf_X12_23 C0 hR t_v0 e_a34 dX12_termRead_130 ?_
    refine lv_bipush (v := 8) hx hb dX12_termRead_133 (by decide) ?_
    refine lv_iload_n hx hb dX12_termRead_135 rfl (lv_at hl 1 rfl) ?_
    refine lv_imul hx hb dX12_termRead_136 ?_
    refine lv_iload hx hb dX12_termRead_137 (lv_at hl 4 rfl) ?_
    refine lv_iadd hx hb dX12_termRead_139 ?_
    obtain ⟨a35, e_a35, hF⟩ := xbd hF
    refine x_iald C0 hR e_a35 dX12_termRead_140 ?_
    refine lv_goto (tgt := 145) hx hb dX12_termRead_141 (by decide) ?_
    exact jw_X12_termRead_145 C0 hk7 _ _ _ _ _ _ t_v0 hF _ _ hR hS _ (lv_sub hl [0, 1, 2, 3] rfl)
set_option maxHeartbeats 4000000 in
set_option maxRecDepth 100000 in
theorem jw_X12_termRead_7 {p : Program} {l : Launch} {e : Env} {s : State} {m : MethodId} {args : Array Value} {below : List Frame} {meth : Method} {c : Code} {D : xD} {ty : xTy} (C0 : xC D RX12 cX12_termRead 7 (some .boolean) p s m args meth c) {r : Int32} {h9 : xH} : ∀ n : Nat, ∀ (v0 : Nat) (v1 : Int32) (v2 : Int32) (v3 : Int32) (h : xH), ty v0 = some (0, 12) → jf_X12_termRead_7 ty n v0 v1 v2 v3 h = some (r, h9) → ∀ (H : Heap) (locs : List Loc), xRep D ty h H → xS ty s.heap H locs → ∀ ls : Array Slot, lv_has ls 7 [(0, .ref v0), (1, .int v1), (2, .int v2), (3, .int v3)] → W p l e jr_X12_termRead s m args below meth c H locs 0 0 (MQ below (xQ D ty (some (.int r)) h9) args s 0 0 (xdom ty)) (F0 m 7 ls []) := by
  have hx := C0.1
  have hb := C0.2.1
  have hown := C0.2.2.2.2.2.1
  have hts := C0.2.2.2.2.2.2.1
  intro n
  induction n with
  | zero =>
    intro v0 v1 v2 v3 h t_v0 hF H locs hR hS ls hl
    cases hF
  | succ n ih =>
    intro v0 v1 v2 v3 h t_v0 hF H locs hR hS ls hl
    rw [jf_X12_termRead_7_s] at hF
    refine lv_aload_n hx hb dX12_termRead_7 rfl (lv_at hl 0 rfl) ?_
    refine gf_X12_119 C0 hR t_v0 dX12_termRead_8 ?_
    refine lv_iconst (v := 2) hx hb dX12_termRead_11 (by decide) ?_
    refine lv_icmp_eq (tgt := 21) hx hb dX12_termRead_12 (by decide) (fun c36 => ?_) (fun c36 => ?_)
    · have hF := xif hF c36
      refine lv_aload_n hx hb dX12_termRead_21 rfl (lv_at hl 0 rfl) ?_
      refine gf_X12_205 C0 hR t_v0 dX12_termRead_22 ?_
      refine lv_bipush (v := 12) hx hb dX12_termRead_25 (by decide) ?_
      refine lv_icmp_ne (tgt := 36) hx hb dX12_termRead_27 (by decide) (fun c37 => ?_) (fun c37 => ?_)
      · have hF := xel hF c37
        refine lv_aload_n hx hb dX12_termRead_36 rfl (lv_at hl 0 rfl) ?_
        refine lv_iload_n hx hb dX12_termRead_37 rfl (lv_at hl 1 rfl) ?_
        refine lv_aload_n hx hb dX12_termRead_38 rfl (lv_at hl 0 rfl) ?_
        refine gf_X12_130 C0 hR t_v0 dX12_termRead_39 ?_
        obtain ⟨a38, e_a38, hF⟩ := xbd hF
        refine cl_X12_202 C0 hR hS e_a38 t_v0 ⟨(Nat.le_of_ble_eq_true rfl), (Nat.le_of_ble_eq_true rfl)⟩ hl.1 (Nat.le_of_ble_eq_true rfl) ⟨(Nat.le_of_ble_eq_true rfl), (Nat.le_of_ble_eq_true rfl)⟩ dX12_termRead_42 (fun H locs hR hS => ?_)
        refine lv_istore (lv' := [(4, .int a38), (0, .ref v0), (1, .int v1), (2, .int v2), (3, .int v3)]) hx hb dX12_termRead_45 hl (by decide) rfl (fun ls hl => ?_)
        refine lv_iload hx hb dX12_termRead_47 (lv_at hl 0 rfl) ?_
        refine lv_if_ge (tgt := 58) hx hb dX12_termRead_49 (by decide) (fun c39 => ?_) (fun c39 => ?_)
        · have hF := xif hF c39
          refine lv_iload_n hx hb dX12_termRead_58 rfl (lv_at hl 3 rfl) ?_
          refine lv_if_lt (tgt := 97) hx hb dX12_termRead_59 (by decide) (fun c40 => ?_) (fun c40 => ?_)
          · have hF := xif hF c40
            exact jw_X12_termRead_97 C0 ih _ _ _ _ _ _ t_v0 hF _ _ hR hS _ (lv_sub hl [1, 2, 3, 4, 0] rfl)
          · have hF := xel hF c40
            refine lv_iload hx hb dX12_termRead_62 (lv_at hl 0 rfl) ?_
            refine lv_bipush (v := 100) hx hb dX12_termRead_64 (by decide) ?_
            refine lv_icmp_lt (tgt := 97) hx hb dX12_termRead_66 (by decide) (fun c41 => ?_) (fun c41 => ?_)
            · have hF := xif hF c41
              exact jw_X12_termRead_97 C0 ih _ _ _ _ _ _ t_v0 hF _ _ hR hS _ (lv_sub hl [1, 2, 3, 4, 0] rfl)
            · have hF := xel hF c41
              refine lv_aload_n hx hb dX12_termRead_69 rfl (lv_at hl 1 rfl) ?_
              obtain ⟨a42, e_a42, hF⟩ := xbd hF
              refine gf_X12_35 C0 hR t_v0 e_a42 dX12_termRead_70 ?_
              refine lv_bipush (v := 12) hx hb dX12_termRead_73 (by decide) ?_
              refine lv_iload_n hx hb dX12_termRead_75 rfl (lv_at hl 3 rfl) ?_
              refine lv_imul hx hb dX12_termRead_76 ?_
              refine lv_aload_n hx hb dX12_termRead_77 rfl (lv_at hl 1 rfl) ?_
              obtain ⟨a43, e_a43, hF⟩ := xbd hF
              refine gf_X12_32 C0 hR t_v0 e_a43 dX12_termRead_78 ?_
              refine lv_iload_n hx hb dX12_termRead_81 rfl (lv_at hl 3 rfl) ?_
              obtain ⟨a44, e_a44, hF⟩ := xbd hF
              refine x_iald C0 hR e_a44 dX12_termRead_82 ?_
              refine lv_iload hx hb dX12_termRead_83 (lv_at hl 0 rfl) ?_
              obtain ⟨a45, e_a45, hF⟩ := xbd hF
              refine cl_X12_198 C0 hR hS e_a45  ⟨(Nat.le_of_ble_eq_true rfl), (Nat.le_of_ble_eq_true rfl)⟩ hl.1 (Nat.le_of_ble_eq_true rfl) ⟨(Nat.le_of_ble_eq_true rfl), (Nat.le_of_ble_eq_true rfl)⟩ dX12_termRead_85 (fun H locs hR hS => ?_)
              refine lv_if_ge (tgt := 97) hx hb dX12_termRead_88 (by decide) (fun c46 => ?_) (fun c46 => ?_)
              · have hF := xif hF c46
                exact jw_X12_termRead_97 C0 ih _ _ _ _ _ _ t_v0 hF _ _ hR hS _ (lv_sub hl [1, 2, 3, 4, 0] rfl)
              · have hF := xel hF c46
                refine lv_aload_n hx hb dX12_termRead_91 rfl (lv_at hl 1 rfl) ?_
                refine lv_iconst (v := 5) hx hb dX12_termRead_92 (by decide) ?_
                obtain ⟨a48, h47, e_h47, hF⟩ := xbd2 hF
                refine cl_X12_143 C0 hR hS e_h47 t_v0 ⟨(Nat.le_of_ble_eq_true rfl), (Nat.le_of_ble_eq_true rfl)⟩ hl.1 (Nat.le_of_ble_eq_true rfl) ⟨(Nat.le_of_ble_eq_true rfl), (Nat.le_of_ble_eq_true rfl)⟩ dX12_termRead_93 (fun H locs hR hS => ?_)
                obtain ⟨w49, e_w49, hF⟩ := xbd hF
                cases hF
                exact x_zret C0 hR hS e_w49 dX12_termRead_96
        · have hF := xel hF c39
          refine lv_aload_n hx hb dX12_termRead_52 rfl (lv_at hl 1 rfl) ?_
          refine lv_iconst (v := 4) hx hb dX12_termRead_53 (by decide) ?_
          obtain ⟨a51, h50, e_h50, hF⟩ := xbd2 hF
          refine cl_X12_143 C0 hR hS e_h50 t_v0 ⟨(Nat.le_of_ble_eq_true rfl), (Nat.le_of_ble_eq_true rfl)⟩ hl.1 (Nat.le_of_ble_eq_true rfl) ⟨(Nat.le_of_ble_eq_true rfl), (Nat.le_of_ble_eq_true rfl)⟩ dX12_termRead_54 (fun H locs hR hS => ?_)
          obtain ⟨w52, e_w52, hF⟩ := xbd hF
          cases hF
          exact x_zret C0 hR hS e_w52 dX12_termRead_57
      · have hF := xif hF c37
        refine lv_aload_n hx hb dX12_termRead_30 rfl (lv_at hl 0 rfl) ?_
        refine lv_iconst (v := 2) hx hb dX12_termRead_31 (by decide) ?_
        obtain ⟨a54, h53, e_h53, hF⟩ := xbd2 hF
        refine cl_X12_143 C0 hR hS e_h53 t_v0 ⟨(Nat.le_of_ble_eq_true rfl), (Nat.le_of_ble_eq_true rfl)⟩ hl.1 (Nat.le_of_ble_eq_true rfl) ⟨(Nat.le_of_ble_eq_true rfl), (Nat.le_of_ble_eq_true rfl)⟩ dX12_termRead_32 (fun H locs hR hS => ?_)
        obtain ⟨w55, e_w55, hF⟩ := xbd hF
        cases hF
        exact x_zret C0 hR hS e_w55 dX12_termRead_35
    · have hF := xel hF c36
      refine lv_aload_n hx hb dX12_termRead_15 rfl (lv_at hl 0 rfl) ?_
      refine lv_iconst (v := 1) hx hb dX12_termRead_16 (by decide) ?_
      obtain ⟨a57, h56, e_h56, hF⟩ := xbd2 hF
      refine cl_X12_143 C0 hR hS e_h56 t_v0 ⟨(Nat.le_of_ble_eq_true rfl), (Nat.le_of_ble_eq_true rfl)⟩ hl.1 (Nat.le_of_ble_eq_true rfl) ⟨(Nat.le_of_ble_eq_true rfl), (Nat.le_of_ble_eq_true rfl)⟩ dX12_termRead_17 (fun H locs hR hS => ?_)
      obtain ⟨w58, e_w58, hF⟩ := xbd hF
      cases hF
      exact x_zret C0 hR hS e_w58 dX12_termRead_20
set_option maxHeartbeats 4000000 in
set_option maxRecDepth 100000 in
theorem jc_X12_termRead {l : Launch} {D : xD} {ty : xTy} {h : xH} {v0 : Nat} {v1 : Int32} {v2 : Int32} {r : Int32} {h9 : xH} (t_v0 : ty v0 = some (0, 12)) (hF : jf_X12_termRead ty h v0 v1 v2 = some (r, h9)) : Met l yX12_termRead (xws yX12_termRead cX12_termRead 7 (some .boolean)) jr_X12_termRead (xPc D ty h [.ref v0, .int v1, .int v2]) (xQ D ty (some (.int r)) h9) 0 0 (xdom ty) := by
  refine x_met (by decide) ?_
  intro p e s m below meth c C0 hR
  generalize hargs : ([.ref v0, .int v1, .int v2] : List Value).toArray = args at C0 ⊢
  have hx := C0.1
  have hb := C0.2.1
  have hown := C0.2.2.2.2.2.1
  have hts := C0.2.2.2.2.2.2.1
  have hS : xS ty s.heap s.heap [] := xS.rf
  have hl := lv_entry ([.ref v0, .int v1, .int v2]) (n := 7) (Nat.le_of_ble_eq_true rfl)
  rw [← hargs, lg_entry_eq]
  rw [hargs]
  generalize (lg_sl ([.ref v0, .int v1, .int v2]) ++ List.replicate (7 - (lg_sl ([.ref v0, .int v1, .int v2])).length) Slot.unset).toArray = ls at hl ⊢
  have hl : lv_has ls 7 [(0, .ref v0), (1, .int v1), (2, .int v2)] := hl
  unfold jf_X12_termRead at hF
  refine lv_iconst (v := 0) hx hb dX12_termRead_0 (by decide) ?_
  refine lv_istore_n (lv' := [(3, .int 0), (0, .ref v0), (1, .int v1), (2, .int v2)]) hx hb dX12_termRead_1 rfl hl (by decide) rfl (fun ls hl => ?_)
  refine lv_aload_n hx hb dX12_termRead_2 rfl (lv_at hl 1 rfl) ?_
  refine lv_iconst (v := 0) hx hb dX12_termRead_3 (by decide) ?_
  obtain ⟨h59, e_h59, hF⟩ := xbd hF
  refine pf_X12_205 C0 hR hS t_v0 dX12_termRead_4 (fun H locs hR hS => ?_)
  rw [Option.some.inj e_h59] at hR
  obtain ⟨_, hF⟩ := xlim_sp hF
  exact jw_X12_termRead_7 C0 _ _ _ _ _ _ t_v0 hF _ _ hR hS _ (lv_sub hl [1, 2, 3, 0] rfl)
theorem xm_X12_termRead : xMw yX12_termRead cX12_termRead 7 (some .boolean) 2 := ⟨xin 1571 (by decide +kernel) rfl, xin 126 (by decide +kernel) rfl, by decide +kernel⟩
theorem xi_X12_termRead : Cond.instanceMethod yX12_termRead ∈ xT := xin 1570 (by decide +kernel) rfl
theorem xe_X12_termRead : Cond.selects yX12_termRead.cls yX12_termRead yX12_termRead ∈ xT := xin 68 (by decide +kernel) rfl
theorem dX12_ruleLine_0 : decode cX12_ruleLine 0 = .ok (.aload_n 0, 1) := by decide +kernel
theorem dX12_ruleLine_1 : decode cX12_ruleLine 1 = .ok (.getfield 169, 3) := by decide +kernel
theorem dX12_ruleLine_4 : decode cX12_ruleLine 4 = .ok (.bipush 16, 2) := by decide +kernel
theorem dX12_ruleLine_6 : decode cX12_ruleLine 6 = .ok (.if_icmp .ne 9, 3) := by decide +kernel
theorem dX12_ruleLine_9 : decode cX12_ruleLine 9 = .ok (.aload_n 0, 1) := by decide +kernel
theorem dX12_ruleLine_10 : decode cX12_ruleLine 10 = .ok (.iconst 2, 1) := by decide +kernel
theorem dX12_ruleLine_11 : decode cX12_ruleLine 11 = .ok (.invokevirtual 143, 3) := by decide +kernel
theorem dX12_ruleLine_14 : decode cX12_ruleLine 14 = .ok (.ireturn, 1) := by decide +kernel
theorem dX12_ruleLine_15 : decode cX12_ruleLine 15 = .ok (.aload_n 0, 1) := by decide +kernel
theorem dX12_ruleLine_16 : decode cX12_ruleLine 16 = .ok (.invokevirtual 153, 3) := by decide +kernel
theorem dX12_ruleLine_19 : decode cX12_ruleLine 19 = .ok (.aload_n 0, 1) := by decide +kernel
theorem dX12_ruleLine_20 : decode cX12_ruleLine 20 = .ok (.getfield 119, 3) := by decide +kernel
theorem dX12_ruleLine_23 : decode cX12_ruleLine 23 = .ok (.iconst 2, 1) := by decide +kernel
theorem dX12_ruleLine_24 : decode cX12_ruleLine 24 = .ok (.if_icmp .eq 9, 3) := by decide +kernel
theorem dX12_ruleLine_27 : decode cX12_ruleLine 27 = .ok (.aload_n 0, 1) := by decide +kernel
theorem dX12_ruleLine_28 : decode cX12_ruleLine 28 = .ok (.iconst 1, 1) := by decide +kernel
theorem dX12_ruleLine_29 : decode cX12_ruleLine 29 = .ok (.invokevirtual 143, 3) := by decide +kernel
theorem dX12_ruleLine_32 : decode cX12_ruleLine 32 = .ok (.ireturn, 1) := by decide +kernel
theorem dX12_ruleLine_33 : decode cX12_ruleLine 33 = .ok (.aload_n 0, 1) := by decide +kernel
theorem dX12_ruleLine_34 : decode cX12_ruleLine 34 = .ok (.getfield 29, 3) := by decide +kernel
theorem dX12_ruleLine_37 : decode cX12_ruleLine 37 = .ok (.bipush 16, 2) := by decide +kernel
theorem dX12_ruleLine_39 : decode cX12_ruleLine 39 = .ok (.aload_n 0, 1) := by decide +kernel
theorem dX12_ruleLine_40 : decode cX12_ruleLine 40 = .ok (.getfield 169, 3) := by decide +kernel
theorem dX12_ruleLine_43 : decode cX12_ruleLine 43 = .ok (.aload_n 0, 1) := by decide +kernel
theorem dX12_ruleLine_44 : decode cX12_ruleLine 44 = .ok (.getfield 130, 3) := by decide +kernel
theorem dX12_ruleLine_47 : decode cX12_ruleLine 47 = .ok (.invokestatic 198, 3) := by decide +kernel
theorem dX12_ruleLine_50 : decode cX12_ruleLine 50 = .ok (.ifCond .lt 9, 3) := by decide +kernel
theorem dX12_ruleLine_53 : decode cX12_ruleLine 53 = .ok (.aload_n 0, 1) := by decide +kernel
theorem dX12_ruleLine_54 : decode cX12_ruleLine 54 = .ok (.iconst 3, 1) := by decide +kernel
theorem dX12_ruleLine_55 : decode cX12_ruleLine 55 = .ok (.invokevirtual 143, 3) := by decide +kernel
theorem dX12_ruleLine_58 : decode cX12_ruleLine 58 = .ok (.ireturn, 1) := by decide +kernel
theorem dX12_ruleLine_59 : decode cX12_ruleLine 59 = .ok (.bipush 16, 2) := by decide +kernel
theorem dX12_ruleLine_61 : decode cX12_ruleLine 61 = .ok (.aload_n 0, 1) := by decide +kernel
theorem dX12_ruleLine_62 : decode cX12_ruleLine 62 = .ok (.getfield 169, 3) := by decide +kernel
theorem dX12_ruleLine_65 : decode cX12_ruleLine 65 = .ok (.iadd, 1) := by decide +kernel
theorem dX12_ruleLine_66 : decode cX12_ruleLine 66 = .ok (.istore_n 1, 1) := by decide +kernel
theorem dX12_ruleLine_67 : decode cX12_ruleLine 67 = .ok (.aload_n 0, 1) := by decide +kernel
theorem dX12_ruleLine_68 : decode cX12_ruleLine 68 = .ok (.getfield 29, 3) := by decide +kernel
theorem dX12_ruleLine_71 : decode cX12_ruleLine 71 = .ok (.iload_n 1, 1) := by decide +kernel
theorem dX12_ruleLine_72 : decode cX12_ruleLine 72 = .ok (.aload_n 0, 1) := by decide +kernel
theorem dX12_ruleLine_73 : decode cX12_ruleLine 73 = .ok (.getfield 130, 3) := by decide +kernel
theorem dX12_ruleLine_76 : decode cX12_ruleLine 76 = .ok (.iastore, 1) := by decide +kernel
theorem dX12_ruleLine_77 : decode cX12_ruleLine 77 = .ok (.aload_n 0, 1) := by decide +kernel
theorem dX12_ruleLine_78 : decode cX12_ruleLine 78 = .ok (.invokevirtual 153, 3) := by decide +kernel
theorem dX12_ruleLine_81 : decode cX12_ruleLine 81 = .ok (.aload_n 0, 1) := by decide +kernel
theorem dX12_ruleLine_82 : decode cX12_ruleLine 82 = .ok (.iconst 1, 1) := by decide +kernel
theorem dX12_ruleLine_83 : decode cX12_ruleLine 83 = .ok (.iconst (-1), 1) := by decide +kernel
theorem dX12_ruleLine_84 : decode cX12_ruleLine 84 = .ok (.invokevirtual 208, 3) := by decide +kernel
theorem dX12_ruleLine_87 : decode cX12_ruleLine 87 = .ok (.ifCond .ne 5, 3) := by decide +kernel
theorem dX12_ruleLine_90 : decode cX12_ruleLine 90 = .ok (.iconst 0, 1) := by decide +kernel
theorem dX12_ruleLine_91 : decode cX12_ruleLine 91 = .ok (.ireturn, 1) := by decide +kernel
theorem dX12_ruleLine_92 : decode cX12_ruleLine 92 = .ok (.iconst 0, 1) := by decide +kernel
theorem dX12_ruleLine_93 : decode cX12_ruleLine 93 = .ok (.istore_n 2, 1) := by decide +kernel
theorem dX12_ruleLine_94 : decode cX12_ruleLine 94 = .ok (.iload_n 2, 1) := by decide +kernel
theorem dX12_ruleLine_95 : decode cX12_ruleLine 95 = .ok (.aload_n 0, 1) := by decide +kernel
theorem dX12_ruleLine_96 : decode cX12_ruleLine 96 = .ok (.getfield 205, 3) := by decide +kernel
theorem dX12_ruleLine_99 : decode cX12_ruleLine 99 = .ok (.if_icmp .ge 26, 3) := by decide +kernel
theorem dX12_ruleLine_102 : decode cX12_ruleLine 102 = .ok (.aload_n 0, 1) := by decide +kernel
theorem dX12_ruleLine_103 : decode cX12_ruleLine 103 = .ok (.getfield 35, 3) := by decide +kernel
theorem dX12_ruleLine_106 : decode cX12_ruleLine 106 = .ok (.bipush 12, 2) := by decide +kernel
theorem dX12_ruleLine_108 : decode cX12_ruleLine 108 = .ok (.iload_n 1, 1) := by decide +kernel
theorem dX12_ruleLine_109 : decode cX12_ruleLine 109 = .ok (.imul, 1) := by decide +kernel
theorem dX12_ruleLine_110 : decode cX12_ruleLine 110 = .ok (.iload_n 2, 1) := by decide +kernel
theorem dX12_ruleLine_111 : decode cX12_ruleLine 111 = .ok (.iadd, 1) := by decide +kernel
theorem dX12_ruleLine_112 : decode cX12_ruleLine 112 = .ok (.aload_n 0, 1) := by decide +kernel
theorem dX12_ruleLine_113 : decode cX12_ruleLine 113 = .ok (.getfield 47, 3) := by decide +kernel
theorem dX12_ruleLine_116 : decode cX12_ruleLine 116 = .ok (.iload_n 2, 1) := by decide +kernel
theorem dX12_ruleLine_117 : decode cX12_ruleLine 117 = .ok (.iaload, 1) := by decide +kernel
theorem dX12_ruleLine_118 : decode cX12_ruleLine 118 = .ok (.iastore, 1) := by decide +kernel
theorem dX12_ruleLine_119 : decode cX12_ruleLine 119 = .ok (.iinc 2 1, 3) := by decide +kernel
theorem dX12_ruleLine_122 : decode cX12_ruleLine 122 = .ok (.goto (-28), 3) := by decide +kernel
theorem dX12_ruleLine_125 : decode cX12_ruleLine 125 = .ok (.aload_n 0, 1) := by decide +kernel
theorem dX12_ruleLine_126 : decode cX12_ruleLine 126 = .ok (.getfield 32, 3) := by decide +kernel
theorem dX12_ruleLine_129 : decode cX12_ruleLine 129 = .ok (.iload_n 1, 1) := by decide +kernel
theorem dX12_ruleLine_130 : decode cX12_ruleLine 130 = .ok (.aload_n 0, 1) := by decide +kernel
theorem dX12_ruleLine_131 : decode cX12_ruleLine 131 = .ok (.getfield 205, 3) := by decide +kernel
theorem dX12_ruleLine_134 : decode cX12_ruleLine 134 = .ok (.iastore, 1) := by decide +kernel
theorem dX12_ruleLine_135 : decode cX12_ruleLine 135 = .ok (.aload_n 0, 1) := by decide +kernel
theorem dX12_ruleLine_136 : decode cX12_ruleLine 136 = .ok (.getfield 38, 3) := by decide +kernel
theorem dX12_ruleLine_139 : decode cX12_ruleLine 139 = .ok (.iload_n 1, 1) := by decide +kernel
theorem dX12_ruleLine_140 : decode cX12_ruleLine 140 = .ok (.iconst 0, 1) := by decide +kernel
theorem dX12_ruleLine_141 : decode cX12_ruleLine 141 = .ok (.iastore, 1) := by decide +kernel
theorem dX12_ruleLine_142 : decode cX12_ruleLine 142 = .ok (.aload_n 0, 1) := by decide +kernel
theorem dX12_ruleLine_143 : decode cX12_ruleLine 143 = .ok (.getfield 119, 3) := by decide +kernel
theorem dX12_ruleLine_146 : decode cX12_ruleLine 146 = .ok (.iconst 5, 1) := by decide +kernel
theorem dX12_ruleLine_147 : decode cX12_ruleLine 147 = .ok (.if_icmp .ne 69, 3) := by decide +kernel
theorem dX12_ruleLine_150 : decode cX12_ruleLine 150 = .ok (.aload_n 0, 1) := by decide +kernel
theorem dX12_ruleLine_151 : decode cX12_ruleLine 151 = .ok (.getfield 130, 3) := by decide +kernel
theorem dX12_ruleLine_154 : decode cX12_ruleLine 154 = .ok (.iconst 2, 1) := by decide +kernel
theorem dX12_ruleLine_155 : decode cX12_ruleLine 155 = .ok (.if_icmp .ne 61, 3) := by decide +kernel
theorem dX12_ruleLine_158 : decode cX12_ruleLine 158 = .ok (.aload_n 0, 1) := by decide +kernel
theorem dX12_ruleLine_159 : decode cX12_ruleLine 159 = .ok (.invokevirtual 153, 3) := by decide +kernel
theorem dX12_ruleLine_162 : decode cX12_ruleLine 162 = .ok (.aload_n 0, 1) := by decide +kernel
theorem dX12_ruleLine_163 : decode cX12_ruleLine 163 = .ok (.iconst 1, 1) := by decide +kernel
theorem dX12_ruleLine_164 : decode cX12_ruleLine 164 = .ok (.iload_n 1, 1) := by decide +kernel
theorem dX12_ruleLine_165 : decode cX12_ruleLine 165 = .ok (.invokevirtual 208, 3) := by decide +kernel
theorem dX12_ruleLine_168 : decode cX12_ruleLine 168 = .ok (.ifCond .ne 5, 3) := by decide +kernel
theorem dX12_ruleLine_171 : decode cX12_ruleLine 171 = .ok (.iconst 0, 1) := by decide +kernel
theorem dX12_ruleLine_172 : decode cX12_ruleLine 172 = .ok (.ireturn, 1) := by decide +kernel
theorem dX12_ruleLine_173 : decode cX12_ruleLine 173 = .ok (.iconst 0, 1) := by decide +kernel
theorem dX12_ruleLine_174 : decode cX12_ruleLine 174 = .ok (.istore_n 2, 1) := by decide +kernel
theorem dX12_ruleLine_175 : decode cX12_ruleLine 175 = .ok (.iload_n 2, 1) := by decide +kernel
theorem dX12_ruleLine_176 : decode cX12_ruleLine 176 = .ok (.aload_n 0, 1) := by decide +kernel
theorem dX12_ruleLine_177 : decode cX12_ruleLine 177 = .ok (.getfield 205, 3) := by decide +kernel
theorem dX12_ruleLine_180 : decode cX12_ruleLine 180 = .ok (.if_icmp .ge 26, 3) := by decide +kernel
theorem dX12_ruleLine_183 : decode cX12_ruleLine 183 = .ok (.aload_n 0, 1) := by decide +kernel
theorem dX12_ruleLine_184 : decode cX12_ruleLine 184 = .ok (.getfield 41, 3) := by decide +kernel
theorem dX12_ruleLine_187 : decode cX12_ruleLine 187 = .ok (.bipush 12, 2) := by decide +kernel
theorem dX12_ruleLine_189 : decode cX12_ruleLine 189 = .ok (.iload_n 1, 1) := by decide +kernel
theorem dX12_ruleLine_190 : decode cX12_ruleLine 190 = .ok (.imul, 1) := by decide +kernel
theorem dX12_ruleLine_191 : decode cX12_ruleLine 191 = .ok (.iload_n 2, 1) := by decide +kernel
theorem dX12_ruleLine_192 : decode cX12_ruleLine 192 = .ok (.iadd, 1) := by decide +kernel
theorem dX12_ruleLine_193 : decode cX12_ruleLine 193 = .ok (.aload_n 0, 1) := by decide +kernel
theorem dX12_ruleLine_194 : decode cX12_ruleLine 194 = .ok (.getfield 47, 3) := by decide +kernel
theorem dX12_ruleLine_197 : decode cX12_ruleLine 197 = .ok (.iload_n 2, 1) := by decide +kernel
theorem dX12_ruleLine_198 : decode cX12_ruleLine 198 = .ok (.iaload, 1) := by decide +kernel
theorem dX12_ruleLine_199 : decode cX12_ruleLine 199 = .ok (.iastore, 1) := by decide +kernel
theorem dX12_ruleLine_200 : decode cX12_ruleLine 200 = .ok (.iinc 2 1, 3) := by decide +kernel
theorem dX12_ruleLine_203 : decode cX12_ruleLine 203 = .ok (.goto (-28), 3) := by decide +kernel
theorem dX12_ruleLine_206 : decode cX12_ruleLine 206 = .ok (.aload_n 0, 1) := by decide +kernel
theorem dX12_ruleLine_207 : decode cX12_ruleLine 207 = .ok (.getfield 38, 3) := by decide +kernel
theorem dX12_ruleLine_210 : decode cX12_ruleLine 210 = .ok (.iload_n 1, 1) := by decide +kernel
theorem dX12_ruleLine_211 : decode cX12_ruleLine 211 = .ok (.aload_n 0, 1) := by decide +kernel
theorem dX12_ruleLine_212 : decode cX12_ruleLine 212 = .ok (.getfield 205, 3) := by decide +kernel
theorem dX12_ruleLine_215 : decode cX12_ruleLine 215 = .ok (.iastore, 1) := by decide +kernel
theorem dX12_ruleLine_216 : decode cX12_ruleLine 216 = .ok (.aload_n 0, 1) := by decide +kernel
theorem dX12_ruleLine_217 : decode cX12_ruleLine 217 = .ok (.dup, 1) := by decide +kernel
theorem dX12_ruleLine_218 : decode cX12_ruleLine 218 = .ok (.getfield 169, 3) := by decide +kernel
theorem dX12_ruleLine_221 : decode cX12_ruleLine 221 = .ok (.iconst 1, 1) := by decide +kernel
theorem dX12_ruleLine_222 : decode cX12_ruleLine 222 = .ok (.iadd, 1) := by decide +kernel
theorem dX12_ruleLine_223 : decode cX12_ruleLine 223 = .ok (.putfield 169, 3) := by decide +kernel
theorem dX12_ruleLine_226 : decode cX12_ruleLine 226 = .ok (.iconst 1, 1) := by decide +kernel
theorem dX12_ruleLine_227 : decode cX12_ruleLine 227 = .ok (.ireturn, 1) := by decide +kernel
theorem wl_X12_208 : Cond.methodLink RX12 208 yX12_termRead ∈ xT := xin 1568 (by decide +kernel) rfl
section XN_X12_ruleLine
variable {p : Program} {l : Launch} {e : Env} {R : Room} {s : State} {m : MethodId} {args : Array Value} {below : List Frame} {meth : Method} {c : Code} {H H0 : Heap} {locs : List Loc} {cells slots : Nat} {Q : State → Prop} {cc : ByteArray} {nL pc : Nat} {rt : Option FieldType} {ls : Array Slot} {rest : List Value} {D : xD} {ty : xTy} {h : xH}
theorem cl_X12_208 {v0 : Nat} {v1 : Int32} {v2 : Int32} {r : Int32} {h9 : xH} (C0 : xC D RX12 cc nL rt p s m args meth c) (hR : xRep D ty h H) (hS : xS ty H0 H locs) (hF : jf_X12_termRead ty h v0 v1 v2 = some (r, h9)) (t_v0 : ty v0 = some (0, 12)) (hrm : jr_X12_termRead.frames + 1 ≤ R.frames ∧ 8 + (7 + 11) + jr_X12_termRead.locals ≤ R.locals) (hsz : ls.size = nL) (hW : (rest.map fun v => v.category).sum ≤ 8) (hf : cells ≤ R.cells ∧ slots ≤ R.slots) (hdg : decode cc pc = .ok (.invokevirtual 208, 3)) (kk : ∀ (H1 : Heap) (locs1 : List Loc), xRep D ty h9 H1 → xS ty H0 H1 locs1 → W p l e R s m args below meth c H1 locs1 cells slots Q (F0 m (pc + 3) ls (.int r :: rest))) : W p l e R s m args below meth c H locs cells slots Q (F0 m pc ls (.int v2 :: .int v1 :: .ref v0 :: rest)) := x_callV C0 (jc_X12_termRead t_v0 hF) xm_X12_termRead xi_X12_termRead xe_X12_termRead wl_X12_208 ⟨rfl, rfl, hrm⟩ (ci := 12) rfl t_v0 hR hS (As := [.int v1, .int v2]) rfl hsz rfl hW hdg hf kk
end XN_X12_ruleLine
set_option maxHeartbeats 4000000 in
set_option maxRecDepth 100000 in
theorem jw_X12_ruleLine_216 {p : Program} {l : Launch} {e : Env} {s : State} {m : MethodId} {args : Array Value} {below : List Frame} {meth : Method} {c : Code} {D : xD} {ty : xTy} (C0 : xC D RX12 cX12_ruleLine 3 (some .boolean) p s m args meth c) {r : Int32} {h9 : xH} : ∀ (v0 : Nat) (h : xH), ty v0 = some (0, 12) → jf_X12_ruleLine_216 ty v0 h = some (r, h9) → ∀ (H : Heap) (locs : List Loc), xRep D ty h H → xS ty s.heap H locs → ∀ ls : Array Slot, lv_has ls 3 [(0, .ref v0)] → W p l e jr_X12_ruleLine s m args below meth c H locs 0 0 (MQ below (xQ D ty (some (.int r)) h9) args s 0 0 (xdom ty)) (F0 m 216 ls []) := by
  have hx := C0.1
  have hb := C0.2.1
  have hown := C0.2.2.2.2.2.1
  have hts := C0.2.2.2.2.2.2.1
  intro v0 h t_v0 hF H locs hR hS ls hl
  unfold jf_X12_ruleLine_216 at hF
  refine lv_aload_n hx hb dX12_ruleLine_216 rfl (lv_at hl 0 rfl) ?_
  refine lv_dup hx hb dX12_ruleLine_217 rfl ?_
  refine gf_X12_169 C0 hR t_v0 dX12_ruleLine_218 ?_
  refine lv_iconst (v := 1) hx hb dX12_ruleLine_221 (by decide) ?_
  refine lv_iadd hx hb dX12_ruleLine_222 ?_
  obtain ⟨h1, e_h1, hF⟩ := xbd hF
  refine pf_X12_169 C0 hR hS t_v0 dX12_ruleLine_223 (fun H locs hR hS => ?_)
  rw [Option.some.inj e_h1] at hR
  refine lv_iconst (v := 1) hx hb dX12_ruleLine_226 (by decide) ?_
  cases hF
  exact x_zret (w := 1) C0 hR hS (by decide) dX12_ruleLine_227
set_option maxHeartbeats 4000000 in
set_option maxRecDepth 100000 in
theorem jw_X12_ruleLine_175 {p : Program} {l : Launch} {e : Env} {s : State} {m : MethodId} {args : Array Value} {below : List Frame} {meth : Method} {c : Code} {D : xD} {ty : xTy} (C0 : xC D RX12 cX12_ruleLine 3 (some .boolean) p s m args meth c) {r : Int32} {h9 : xH} : ∀ n : Nat, ∀ (v0 : Nat) (v1 : Int32) (v2 : Int32) (h : xH), ty v0 = some (0, 12) → jf_X12_ruleLine_175 ty n v0 v1 v2 h = some (r, h9) → ∀ (H : Heap) (locs : List Loc), xRep D ty h H → xS ty s.heap H locs → ∀ ls : Array Slot, lv_has ls 3 [(0, .ref v0), (1, .int v1), (2, .int v2)] → W p l e jr_X12_ruleLine s m args below meth c H locs 0 0 (MQ below (xQ D ty (some (.int r)) h9) args s 0 0 (xdom ty)) (F0 m 175 ls []) := by
  have hx := C0.1
  have hb := C0.2.1
  have hown := C0.2.2.2.2.2.1
  have hts := C0.2.2.2.2.2.2.1
  intro n
  induction n with
  | zero =>
    intro v0 v1 v2 h t_v0 hF H locs hR hS ls hl
    cases hF
  | succ n ih =>
    intro v0 v1 v2 h t_v0 hF H locs hR hS ls hl
    rw [jf_X12_ruleLine_175_s] at hF
    refine lv_iload_n hx hb dX12_ruleLine_175 rfl (lv_at hl 2 rfl) ?_
    refine lv_aload_n hx hb dX12_ruleLine_176 rfl (lv_at hl 0 rfl) ?_
    refine gf_X12_205 C0 hR t_v0 dX12_ruleLine_177 ?_
    refine lv_icmp_ge (tgt := 206) hx hb dX12_ruleLine_180 (by decide) (fun c2 => ?_) (fun c2 => ?_)
    · have hF := xif hF c2
      refine lv_aload_n hx hb dX12_ruleLine_206 rfl (lv_at hl 0 rfl) ?_
      obtain ⟨a3, e_a3, hF⟩ := xbd hF
      refine gf_X12_38 C0 hR t_v0 e_a3 dX12_ruleLine_207 ?_
      refine lv_iload_n hx hb dX12_ruleLine_210 rfl (lv_at hl 1 rfl) ?_
      refine lv_aload_n hx hb dX12_ruleLine_211 rfl (lv_at hl 0 rfl) ?_
      refine gf_X12_205 C0 hR t_v0 dX12_ruleLine_212 ?_
      obtain ⟨h4, e_h4, hF⟩ := xbd hF
      refine x_iast C0 hR hS e_h4 dX12_ruleLine_215 (fun H locs hR hS => ?_)
      exact jw_X12_ruleLine_216 C0 _ _ t_v0 hF _ _ hR hS _ (lv_sub hl [0] rfl)
    · have hF := xel hF c2
      refine lv_aload_n hx hb dX12_ruleLine_183 rfl (lv_at hl 0 rfl) ?_
      obtain ⟨a5, e_a5, hF⟩ := xbd hF
      refine gf_X12_41 C0 hR t_v0 e_a5 dX12_ruleLine_184 ?_
      refine lv_bipush (v := 12) hx hb dX12_ruleLine_187 (by decide) ?_
      refine lv_iload_n hx hb dX12_ruleLine_189 rfl (lv_at hl 1 rfl) ?_
      refine lv_imul hx hb dX12_ruleLine_190 ?_
      refine lv_iload_n hx hb dX12_ruleLine_191 rfl (lv_at hl 2 rfl) ?_
      refine lv_iadd hx hb dX12_ruleLine_192 ?_
      refine lv_aload_n hx hb dX12_ruleLine_193 rfl (lv_at hl 0 rfl) ?_
      obtain ⟨a6, e_a6, hF⟩ := xbd hF
      refine gf_X12_47 C0 hR t_v0 e_a6 dX12_ruleLine_194 ?_
      refine lv_iload_n hx hb dX12_ruleLine_197 rfl (lv_at hl 2 rfl) ?_
      obtain ⟨a7, e_a7, hF⟩ := xbd hF
      refine x_iald C0 hR e_a7 dX12_ruleLine_198 ?_
      obtain ⟨h8, e_h8, hF⟩ := xbd hF
      refine x_iast C0 hR hS e_h8 dX12_ruleLine_199 (fun H locs hR hS => ?_)
      refine lv_iinc (v := v2 + 1) (lv' := [(2, .int (v2 + 1)), (0, .ref v0), (1, .int v1)]) hx hb dX12_ruleLine_200 hl (k := 2) rfl rfl (by decide) rfl (fun ls hl => ?_)
      refine lv_goto (tgt := 175) hx hb dX12_ruleLine_203 (by decide) ?_
      exact ih _ _ _ _ t_v0 hF _ _ hR hS _ (lv_sub hl [1, 2, 0] rfl)
set_option maxHeartbeats 4000000 in
set_option maxRecDepth 100000 in
theorem jw_X12_ruleLine_94 {p : Program} {l : Launch} {e : Env} {s : State} {m : MethodId} {args : Array Value} {below : List Frame} {meth : Method} {c : Code} {D : xD} {ty : xTy} (C0 : xC D RX12 cX12_ruleLine 3 (some .boolean) p s m args meth c) {r : Int32} {h9 : xH} : ∀ n : Nat, ∀ (v0 : Nat) (v1 : Int32) (v2 : Int32) (h : xH), ty v0 = some (0, 12) → jf_X12_ruleLine_94 ty n v0 v1 v2 h = some (r, h9) → ∀ (H : Heap) (locs : List Loc), xRep D ty h H → xS ty s.heap H locs → ∀ ls : Array Slot, lv_has ls 3 [(0, .ref v0), (1, .int v1), (2, .int v2)] → W p l e jr_X12_ruleLine s m args below meth c H locs 0 0 (MQ below (xQ D ty (some (.int r)) h9) args s 0 0 (xdom ty)) (F0 m 94 ls []) := by
  have hx := C0.1
  have hb := C0.2.1
  have hown := C0.2.2.2.2.2.1
  have hts := C0.2.2.2.2.2.2.1
  intro n
  induction n with
  | zero =>
    intro v0 v1 v2 h t_v0 hF H locs hR hS ls hl
    cases hF
  | succ n ih =>
    intro v0 v1 v2 h t_v0 hF H locs hR hS ls hl
    rw [jf_X12_ruleLine_94_s] at hF
    refine lv_iload_n hx hb dX12_ruleLine_94 rfl (lv_at hl 2 rfl) ?_
    refine lv_aload_n hx hb dX12_ruleLine_95 rfl (lv_at hl 0 rfl) ?_
    refine gf_X12_205 C0 hR t_v0 dX12_ruleLine_96 ?_
    refine lv_icmp_ge (tgt := 125) hx hb dX12_ruleLine_99 (by decide) (fun c9 => ?_) (fun c9 => ?_)
    · have hF := xif hF c9
      refine lv_aload_n hx hb dX12_ruleLine_125 rfl (lv_at hl 0 rfl) ?_
      obtain ⟨a10, e_a10, hF⟩ := xbd hF
      refine gf_X12_32 C0 hR t_v0 e_a10 dX12_ruleLine_126 ?_
      refine lv_iload_n hx hb dX12_ruleLine_129 rfl (lv_at hl 1 rfl) ?_
      refine lv_aload_n hx hb dX12_ruleLine_130 rfl (lv_at hl 0 rfl) ?_
      refine gf_X12_205 C0 hR t_v0 dX12_ruleLine_131 ?_
      obtain ⟨h11, e_h11, hF⟩ := xbd hF
      refine x_iast C0 hR hS e_h11 dX12_ruleLine_134 (fun H locs hR hS => ?_)
      refine lv_aload_n hx hb dX12_ruleLine_135 rfl (lv_at hl 0 rfl) ?_
      obtain ⟨a12, e_a12, hF⟩ := xbd hF
      refine gf_X12_38 C0 hR t_v0 e_a12 dX12_ruleLine_136 ?_
      refine lv_iload_n hx hb dX12_ruleLine_139 rfl (lv_at hl 1 rfl) ?_
      refine lv_iconst (v := 0) hx hb dX12_ruleLine_140 (by decide) ?_
      obtain ⟨h13, e_h13, hF⟩ := xbd hF
      refine x_iast C0 hR hS e_h13 dX12_ruleLine_141 (fun H locs hR hS => ?_)
      refine lv_aload_n hx hb dX12_ruleLine_142 rfl (lv_at hl 0 rfl) ?_
      refine gf_X12_119 C0 hR t_v0 dX12_ruleLine_143 ?_
      refine lv_iconst (v := 5) hx hb dX12_ruleLine_146 (by decide) ?_
      refine lv_icmp_ne (tgt := 216) hx hb dX12_ruleLine_147 (by decide) (fun c14 => ?_) (fun c14 => ?_)
      · have hF := xel hF c14
        exact jw_X12_ruleLine_216 C0 _ _ t_v0 hF _ _ hR hS _ (lv_sub hl [0] rfl)
      · have hF := xif hF c14
        refine lv_aload_n hx hb dX12_ruleLine_150 rfl (lv_at hl 0 rfl) ?_
        refine gf_X12_130 C0 hR t_v0 dX12_ruleLine_151 ?_
        refine lv_iconst (v := 2) hx hb dX12_ruleLine_154 (by decide) ?_
        refine lv_icmp_ne (tgt := 216) hx hb dX12_ruleLine_155 (by decide) (fun c15 => ?_) (fun c15 => ?_)
        · have hF := xel hF c15
          exact jw_X12_ruleLine_216 C0 _ _ t_v0 hF _ _ hR hS _ (lv_sub hl [0] rfl)
        · have hF := xif hF c15
          refine lv_aload_n hx hb dX12_ruleLine_158 rfl (lv_at hl 0 rfl) ?_
          obtain ⟨h16, e_h16, hF⟩ := xbd hF
          refine cl_X12_153 C0 hR hS e_h16 t_v0 ⟨(Nat.le_of_ble_eq_true rfl), (Nat.le_of_ble_eq_true rfl)⟩ hl.1 (Nat.le_of_ble_eq_true rfl) ⟨(Nat.le_of_ble_eq_true rfl), (Nat.le_of_ble_eq_true rfl)⟩ dX12_ruleLine_159 (fun H locs hR hS => ?_)
          refine lv_aload_n hx hb dX12_ruleLine_162 rfl (lv_at hl 0 rfl) ?_
          refine lv_iconst (v := 1) hx hb dX12_ruleLine_163 (by decide) ?_
          refine lv_iload_n hx hb dX12_ruleLine_164 rfl (lv_at hl 1 rfl) ?_
          obtain ⟨a18, h17, e_h17, hF⟩ := xbd2 hF
          refine cl_X12_208 C0 hR hS e_h17 t_v0 ⟨(Nat.le_of_ble_eq_true rfl), (Nat.le_of_ble_eq_true rfl)⟩ hl.1 (Nat.le_of_ble_eq_true rfl) ⟨(Nat.le_of_ble_eq_true rfl), (Nat.le_of_ble_eq_true rfl)⟩ dX12_ruleLine_165 (fun H locs hR hS => ?_)
          refine lv_if_ne (tgt := 173) hx hb dX12_ruleLine_168 (by decide) (fun c19 => ?_) (fun c19 => ?_)
          · have hF := xel hF c19
            refine lv_iconst (v := 0) hx hb dX12_ruleLine_173 (by decide) ?_
            refine lv_istore_n (lv' := [(2, .int 0), (0, .ref v0), (1, .int v1)]) hx hb dX12_ruleLine_174 rfl hl (by decide) rfl (fun ls hl => ?_)
            obtain ⟨_, hF⟩ := xlim_sp hF
            exact jw_X12_ruleLine_175 C0 _ _ _ _ _ t_v0 hF _ _ hR hS _ (lv_sub hl [1, 2, 0] rfl)
          · have hF := xif hF c19
            refine lv_iconst (v := 0) hx hb dX12_ruleLine_171 (by decide) ?_
            cases hF
            exact x_zret (w := 0) C0 hR hS (by decide) dX12_ruleLine_172
    · have hF := xel hF c9
      refine lv_aload_n hx hb dX12_ruleLine_102 rfl (lv_at hl 0 rfl) ?_
      obtain ⟨a20, e_a20, hF⟩ := xbd hF
      refine gf_X12_35 C0 hR t_v0 e_a20 dX12_ruleLine_103 ?_
      refine lv_bipush (v := 12) hx hb dX12_ruleLine_106 (by decide) ?_
      refine lv_iload_n hx hb dX12_ruleLine_108 rfl (lv_at hl 1 rfl) ?_
      refine lv_imul hx hb dX12_ruleLine_109 ?_
      refine lv_iload_n hx hb dX12_ruleLine_110 rfl (lv_at hl 2 rfl) ?_
      refine lv_iadd hx hb dX12_ruleLine_111 ?_
      refine lv_aload_n hx hb dX12_ruleLine_112 rfl (lv_at hl 0 rfl) ?_
      obtain ⟨a21, e_a21, hF⟩ := xbd hF
      refine gf_X12_47 C0 hR t_v0 e_a21 dX12_ruleLine_113 ?_
      refine lv_iload_n hx hb dX12_ruleLine_116 rfl (lv_at hl 2 rfl) ?_
      obtain ⟨a22, e_a22, hF⟩ := xbd hF
      refine x_iald C0 hR e_a22 dX12_ruleLine_117 ?_
      obtain ⟨h23, e_h23, hF⟩ := xbd hF
      refine x_iast C0 hR hS e_h23 dX12_ruleLine_118 (fun H locs hR hS => ?_)
      refine lv_iinc (v := v2 + 1) (lv' := [(2, .int (v2 + 1)), (0, .ref v0), (1, .int v1)]) hx hb dX12_ruleLine_119 hl (k := 2) rfl rfl (by decide) rfl (fun ls hl => ?_)
      refine lv_goto (tgt := 94) hx hb dX12_ruleLine_122 (by decide) ?_
      exact ih _ _ _ _ t_v0 hF _ _ hR hS _ (lv_sub hl [1, 2, 0] rfl)
set_option maxHeartbeats 4000000 in
set_option maxRecDepth 100000 in
theorem jc_X12_ruleLine {l : Launch} {D : xD} {ty : xTy} {h : xH} {v0 : Nat} {r : Int32} {h9 : xH} (t_v0 : ty v0 = some (0, 12)) (hF : jf_X12_ruleLine ty h v0 = some (r, h9)) : Met l yX12_ruleLine (xws yX12_ruleLine cX12_ruleLine 3 (some .boolean)) jr_X12_ruleLine (xPc D ty h [.ref v0]) (xQ D ty (some (.int r)) h9) 0 0 (xdom ty) := by
  refine x_met (by decide) ?_
  intro p e s m below meth c C0 hR
  generalize hargs : ([.ref v0] : List Value).toArray = args at C0 ⊢
  have hx := C0.1
  have hb := C0.2.1
  have hown := C0.2.2.2.2.2.1
  have hts := C0.2.2.2.2.2.2.1
  have hS : xS ty s.heap s.heap [] := xS.rf
  have hl := lv_entry ([.ref v0]) (n := 3) (Nat.le_of_ble_eq_true rfl)
  rw [← hargs, lg_entry_eq]
  rw [hargs]
  generalize (lg_sl ([.ref v0]) ++ List.replicate (3 - (lg_sl ([.ref v0])).length) Slot.unset).toArray = ls at hl ⊢
  have hl : lv_has ls 3 [(0, .ref v0)] := hl
  unfold jf_X12_ruleLine at hF
  refine lv_aload_n hx hb dX12_ruleLine_0 rfl (lv_at hl 0 rfl) ?_
  refine gf_X12_169 C0 hR t_v0 dX12_ruleLine_1 ?_
  refine lv_bipush (v := 16) hx hb dX12_ruleLine_4 (by decide) ?_
  refine lv_icmp_ne (tgt := 15) hx hb dX12_ruleLine_6 (by decide) (fun c24 => ?_) (fun c24 => ?_)
  · have hF := xel hF c24
    refine lv_aload_n hx hb dX12_ruleLine_15 rfl (lv_at hl 0 rfl) ?_
    obtain ⟨h25, e_h25, hF⟩ := xbd hF
    refine cl_X12_153 C0 hR hS e_h25 t_v0 ⟨(Nat.le_of_ble_eq_true rfl), (Nat.le_of_ble_eq_true rfl)⟩ hl.1 (Nat.le_of_ble_eq_true rfl) ⟨(Nat.le_of_ble_eq_true rfl), (Nat.le_of_ble_eq_true rfl)⟩ dX12_ruleLine_16 (fun H locs hR hS => ?_)
    refine lv_aload_n hx hb dX12_ruleLine_19 rfl (lv_at hl 0 rfl) ?_
    refine gf_X12_119 C0 hR t_v0 dX12_ruleLine_20 ?_
    refine lv_iconst (v := 2) hx hb dX12_ruleLine_23 (by decide) ?_
    refine lv_icmp_eq (tgt := 33) hx hb dX12_ruleLine_24 (by decide) (fun c26 => ?_) (fun c26 => ?_)
    · have hF := xif hF c26
      refine lv_aload_n hx hb dX12_ruleLine_33 rfl (lv_at hl 0 rfl) ?_
      obtain ⟨a27, e_a27, hF⟩ := xbd hF
      refine gf_X12_29 C0 hR t_v0 e_a27 dX12_ruleLine_34 ?_
      refine lv_bipush (v := 16) hx hb dX12_ruleLine_37 (by decide) ?_
      refine lv_aload_n hx hb dX12_ruleLine_39 rfl (lv_at hl 0 rfl) ?_
      refine gf_X12_169 C0 hR t_v0 dX12_ruleLine_40 ?_
      refine lv_aload_n hx hb dX12_ruleLine_43 rfl (lv_at hl 0 rfl) ?_
      refine gf_X12_130 C0 hR t_v0 dX12_ruleLine_44 ?_
      obtain ⟨a28, e_a28, hF⟩ := xbd hF
      refine cl_X12_198 C0 hR hS e_a28  ⟨(Nat.le_of_ble_eq_true rfl), (Nat.le_of_ble_eq_true rfl)⟩ hl.1 (Nat.le_of_ble_eq_true rfl) ⟨(Nat.le_of_ble_eq_true rfl), (Nat.le_of_ble_eq_true rfl)⟩ dX12_ruleLine_47 (fun H locs hR hS => ?_)
      refine lv_if_lt (tgt := 59) hx hb dX12_ruleLine_50 (by decide) (fun c29 => ?_) (fun c29 => ?_)
      · have hF := xif hF c29
        refine lv_bipush (v := 16) hx hb dX12_ruleLine_59 (by decide) ?_
        refine lv_aload_n hx hb dX12_ruleLine_61 rfl (lv_at hl 0 rfl) ?_
        refine gf_X12_169 C0 hR t_v0 dX12_ruleLine_62 ?_
        refine lv_iadd hx hb dX12_ruleLine_65 ?_
        refine lv_istore_n (lv' := [(1, .int (16 + (xI h25 v0 17))), (0, .ref v0)]) hx hb dX12_ruleLine_66 rfl hl (by decide) rfl (fun ls hl => ?_)
        refine lv_aload_n hx hb dX12_ruleLine_67 rfl (lv_at hl 1 rfl) ?_
        obtain ⟨a30, e_a30, hF⟩ := xbd hF
        refine gf_X12_29 C0 hR t_v0 e_a30 dX12_ruleLine_68 ?_
        refine lv_iload_n hx hb dX12_ruleLine_71 rfl (lv_at hl 0 rfl) ?_
        refine lv_aload_n hx hb dX12_ruleLine_72 rfl (lv_at hl 1 rfl) ?_
        refine gf_X12_130 C0 hR t_v0 dX12_ruleLine_73 ?_
        obtain ⟨h31, e_h31, hF⟩ := xbd hF
        refine x_iast C0 hR hS e_h31 dX12_ruleLine_76 (fun H locs hR hS => ?_)
        refine lv_aload_n hx hb dX12_ruleLine_77 rfl (lv_at hl 1 rfl) ?_
        obtain ⟨h32, e_h32, hF⟩ := xbd hF
        refine cl_X12_153 C0 hR hS e_h32 t_v0 ⟨(Nat.le_of_ble_eq_true rfl), (Nat.le_of_ble_eq_true rfl)⟩ hl.1 (Nat.le_of_ble_eq_true rfl) ⟨(Nat.le_of_ble_eq_true rfl), (Nat.le_of_ble_eq_true rfl)⟩ dX12_ruleLine_78 (fun H locs hR hS => ?_)
        refine lv_aload_n hx hb dX12_ruleLine_81 rfl (lv_at hl 1 rfl) ?_
        refine lv_iconst (v := 1) hx hb dX12_ruleLine_82 (by decide) ?_
        refine lv_iconst (v := (-1)) hx hb dX12_ruleLine_83 (by decide) ?_
        obtain ⟨a34, h33, e_h33, hF⟩ := xbd2 hF
        refine cl_X12_208 C0 hR hS e_h33 t_v0 ⟨(Nat.le_of_ble_eq_true rfl), (Nat.le_of_ble_eq_true rfl)⟩ hl.1 (Nat.le_of_ble_eq_true rfl) ⟨(Nat.le_of_ble_eq_true rfl), (Nat.le_of_ble_eq_true rfl)⟩ dX12_ruleLine_84 (fun H locs hR hS => ?_)
        refine lv_if_ne (tgt := 92) hx hb dX12_ruleLine_87 (by decide) (fun c35 => ?_) (fun c35 => ?_)
        · have hF := xel hF c35
          refine lv_iconst (v := 0) hx hb dX12_ruleLine_92 (by decide) ?_
          refine lv_istore_n (lv' := [(2, .int 0), (1, .int (16 + (xI h25 v0 17))), (0, .ref v0)]) hx hb dX12_ruleLine_93 rfl hl (by decide) rfl (fun ls hl => ?_)
          obtain ⟨_, hF⟩ := xlim_sp hF
          exact jw_X12_ruleLine_94 C0 _ _ _ _ _ t_v0 hF _ _ hR hS _ (lv_sub hl [2, 1, 0] rfl)
        · have hF := xif hF c35
          refine lv_iconst (v := 0) hx hb dX12_ruleLine_90 (by decide) ?_
          cases hF
          exact x_zret (w := 0) C0 hR hS (by decide) dX12_ruleLine_91
      · have hF := xel hF c29
        refine lv_aload_n hx hb dX12_ruleLine_53 rfl (lv_at hl 0 rfl) ?_
        refine lv_iconst (v := 3) hx hb dX12_ruleLine_54 (by decide) ?_
        obtain ⟨a37, h36, e_h36, hF⟩ := xbd2 hF
        refine cl_X12_143 C0 hR hS e_h36 t_v0 ⟨(Nat.le_of_ble_eq_true rfl), (Nat.le_of_ble_eq_true rfl)⟩ hl.1 (Nat.le_of_ble_eq_true rfl) ⟨(Nat.le_of_ble_eq_true rfl), (Nat.le_of_ble_eq_true rfl)⟩ dX12_ruleLine_55 (fun H locs hR hS => ?_)
        obtain ⟨w38, e_w38, hF⟩ := xbd hF
        cases hF
        exact x_zret C0 hR hS e_w38 dX12_ruleLine_58
    · have hF := xel hF c26
      refine lv_aload_n hx hb dX12_ruleLine_27 rfl (lv_at hl 0 rfl) ?_
      refine lv_iconst (v := 1) hx hb dX12_ruleLine_28 (by decide) ?_
      obtain ⟨a40, h39, e_h39, hF⟩ := xbd2 hF
      refine cl_X12_143 C0 hR hS e_h39 t_v0 ⟨(Nat.le_of_ble_eq_true rfl), (Nat.le_of_ble_eq_true rfl)⟩ hl.1 (Nat.le_of_ble_eq_true rfl) ⟨(Nat.le_of_ble_eq_true rfl), (Nat.le_of_ble_eq_true rfl)⟩ dX12_ruleLine_29 (fun H locs hR hS => ?_)
      obtain ⟨w41, e_w41, hF⟩ := xbd hF
      cases hF
      exact x_zret C0 hR hS e_w41 dX12_ruleLine_32
  · have hF := xif hF c24
    refine lv_aload_n hx hb dX12_ruleLine_9 rfl (lv_at hl 0 rfl) ?_
    refine lv_iconst (v := 2) hx hb dX12_ruleLine_10 (by decide) ?_
    obtain ⟨a43, h42, e_h42, hF⟩ := xbd2 hF
    refine cl_X12_143 C0 hR hS e_h42 t_v0 ⟨(Nat.le_of_ble_eq_true rfl), (Nat.le_of_ble_eq_true rfl)⟩ hl.1 (Nat.le_of_ble_eq_true rfl) ⟨(Nat.le_of_ble_eq_true rfl), (Nat.le_of_ble_eq_true rfl)⟩ dX12_ruleLine_11 (fun H locs hR hS => ?_)
    obtain ⟨w44, e_w44, hF⟩ := xbd hF
    cases hF
    exact x_zret C0 hR hS e_w44 dX12_ruleLine_14
theorem xm_X12_ruleLine : xMw yX12_ruleLine cX12_ruleLine 3 (some .boolean) 0 := ⟨xin 1567 (by decide +kernel) rfl, xin 126 (by decide +kernel) rfl, by decide +kernel⟩
theorem xi_X12_ruleLine : Cond.instanceMethod yX12_ruleLine ∈ xT := xin 1566 (by decide +kernel) rfl
theorem xe_X12_ruleLine : Cond.selects yX12_ruleLine.cls yX12_ruleLine yX12_ruleLine ∈ xT := xin 67 (by decide +kernel) rfl

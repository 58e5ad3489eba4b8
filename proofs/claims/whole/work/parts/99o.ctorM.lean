/-! THE MODEL's constructor, up to its two calls (written by gen2.py) -/
theorem dX12_init_0 : decode cX12_init 0 = .ok (.aload_n 0, 1) := by decide +kernel
theorem dX12_init_1 : decode cX12_init 1 = .ok (.invokespecial 1, 3) := by decide +kernel
theorem wj_X12_1 : Cond.methodLink RX12 1 Lib.objectInit ∈ xT := xin 1300 (by decide +kernel) rfl
theorem dX12_init_4 : decode cX12_init 4 = .ok (.aload_n 0, 1) := by decide +kernel
theorem dX12_init_5 : decode cX12_init 5 = .ok (.sipush 700, 3) := by decide +kernel
theorem dX12_init_8 : decode cX12_init 8 = .ok (.newarray .int, 2) := by decide +kernel
theorem dX12_init_10 : decode cX12_init 10 = .ok (.putfield 7, 3) := by decide +kernel
theorem dX12_init_13 : decode cX12_init 13 = .ok (.aload_n 0, 1) := by decide +kernel
theorem dX12_init_14 : decode cX12_init 14 = .ok (.bipush 14, 2) := by decide +kernel
theorem dX12_init_16 : decode cX12_init 16 = .ok (.newarray .int, 2) := by decide +kernel
theorem dX12_init_18 : decode cX12_init 18 = .ok (.dup, 1) := by decide +kernel
theorem dX12_init_19 : decode cX12_init 19 = .ok (.iconst 0, 1) := by decide +kernel
theorem dX12_init_20 : decode cX12_init 20 = .ok (.bipush 115, 2) := by decide +kernel
theorem dX12_init_22 : decode cX12_init 22 = .ok (.iastore, 1) := by decide +kernel
theorem dX12_init_23 : decode cX12_init 23 = .ok (.dup, 1) := by decide +kernel
theorem dX12_init_24 : decode cX12_init 24 = .ok (.iconst 1, 1) := by decide +kernel
theorem dX12_init_25 : decode cX12_init 25 = .ok (.bipush 105, 2) := by decide +kernel
theorem dX12_init_27 : decode cX12_init 27 = .ok (.iastore, 1) := by decide +kernel
theorem dX12_init_28 : decode cX12_init 28 = .ok (.dup, 1) := by decide +kernel
theorem dX12_init_29 : decode cX12_init 29 = .ok (.iconst 2, 1) := by decide +kernel
theorem dX12_init_30 : decode cX12_init 30 = .ok (.bipush 103, 2) := by decide +kernel
theorem dX12_init_32 : decode cX12_init 32 = .ok (.iastore, 1) := by decide +kernel
theorem dX12_init_33 : decode cX12_init 33 = .ok (.dup, 1) := by decide +kernel
theorem dX12_init_34 : decode cX12_init 34 = .ok (.iconst 3, 1) := by decide +kernel
theorem dX12_init_35 : decode cX12_init 35 = .ok (.bipush 110, 2) := by decide +kernel
theorem dX12_init_37 : decode cX12_init 37 = .ok (.iastore, 1) := by decide +kernel
theorem dX12_init_38 : decode cX12_init 38 = .ok (.dup, 1) := by decide +kernel
theorem dX12_init_39 : decode cX12_init 39 = .ok (.iconst 4, 1) := by decide +kernel
theorem dX12_init_40 : decode cX12_init 40 = .ok (.bipush 32, 2) := by decide +kernel
theorem dX12_init_42 : decode cX12_init 42 = .ok (.iastore, 1) := by decide +kernel
theorem dX12_init_43 : decode cX12_init 43 = .ok (.dup, 1) := by decide +kernel
theorem dX12_init_44 : decode cX12_init 44 = .ok (.iconst 5, 1) := by decide +kernel
theorem dX12_init_45 : decode cX12_init 45 = .ok (.bipush 118, 2) := by decide +kernel
theorem dX12_init_47 : decode cX12_init 47 = .ok (.iastore, 1) := by decide +kernel
theorem dX12_init_48 : decode cX12_init 48 = .ok (.dup, 1) := by decide +kernel
theorem dX12_init_49 : decode cX12_init 49 = .ok (.bipush 6, 2) := by decide +kernel
theorem dX12_init_51 : decode cX12_init 51 = .ok (.bipush 97, 2) := by decide +kernel
theorem dX12_init_53 : decode cX12_init 53 = .ok (.iastore, 1) := by decide +kernel
theorem dX12_init_54 : decode cX12_init 54 = .ok (.dup, 1) := by decide +kernel
theorem dX12_init_55 : decode cX12_init 55 = .ok (.bipush 7, 2) := by decide +kernel
theorem dX12_init_57 : decode cX12_init 57 = .ok (.bipush 114, 2) := by decide +kernel
theorem dX12_init_59 : decode cX12_init 59 = .ok (.iastore, 1) := by decide +kernel
theorem dX12_init_60 : decode cX12_init 60 = .ok (.dup, 1) := by decide +kernel
theorem dX12_init_61 : decode cX12_init 61 = .ok (.bipush 8, 2) := by decide +kernel
theorem dX12_init_63 : decode cX12_init 63 = .ok (.bipush 32, 2) := by decide +kernel
theorem dX12_init_65 : decode cX12_init 65 = .ok (.iastore, 1) := by decide +kernel
theorem dX12_init_66 : decode cX12_init 66 = .ok (.dup, 1) := by decide +kernel
theorem dX12_init_67 : decode cX12_init 67 = .ok (.bipush 9, 2) := by decide +kernel
theorem dX12_init_69 : decode cX12_init 69 = .ok (.bipush 114, 2) := by decide +kernel
theorem dX12_init_71 : decode cX12_init 71 = .ok (.iastore, 1) := by decide +kernel
theorem dX12_init_72 : decode cX12_init 72 = .ok (.dup, 1) := by decide +kernel
theorem dX12_init_73 : decode cX12_init 73 = .ok (.bipush 10, 2) := by decide +kernel
theorem dX12_init_75 : decode cX12_init 75 = .ok (.bipush 117, 2) := by decide +kernel
theorem dX12_init_77 : decode cX12_init 77 = .ok (.iastore, 1) := by decide +kernel
theorem dX12_init_78 : decode cX12_init 78 = .ok (.dup, 1) := by decide +kernel
theorem dX12_init_79 : decode cX12_init 79 = .ok (.bipush 11, 2) := by decide +kernel
theorem dX12_init_81 : decode cX12_init 81 = .ok (.bipush 108, 2) := by decide +kernel
theorem dX12_init_83 : decode cX12_init 83 = .ok (.iastore, 1) := by decide +kernel
theorem dX12_init_84 : decode cX12_init 84 = .ok (.dup, 1) := by decide +kernel
theorem dX12_init_85 : decode cX12_init 85 = .ok (.bipush 12, 2) := by decide +kernel
theorem dX12_init_87 : decode cX12_init 87 = .ok (.bipush 101, 2) := by decide +kernel
theorem dX12_init_89 : decode cX12_init 89 = .ok (.iastore, 1) := by decide +kernel
theorem dX12_init_90 : decode cX12_init 90 = .ok (.dup, 1) := by decide +kernel
theorem dX12_init_91 : decode cX12_init 91 = .ok (.bipush 13, 2) := by decide +kernel
theorem dX12_init_93 : decode cX12_init 93 = .ok (.bipush 32, 2) := by decide +kernel
theorem dX12_init_95 : decode cX12_init 95 = .ok (.iastore, 1) := by decide +kernel
theorem dX12_init_96 : decode cX12_init 96 = .ok (.putfield 13, 3) := by decide +kernel
theorem dX12_init_99 : decode cX12_init 99 = .ok (.aload_n 0, 1) := by decide +kernel
theorem dX12_init_100 : decode cX12_init 100 = .ok (.iconst (-1), 1) := by decide +kernel
theorem dX12_init_101 : decode cX12_init 101 = .ok (.putfield 16, 3) := by decide +kernel
theorem dX12_init_104 : decode cX12_init 104 = .ok (.aload_n 0, 1) := by decide +kernel
theorem dX12_init_105 : decode cX12_init 105 = .ok (.bipush 16, 2) := by decide +kernel
theorem dX12_init_107 : decode cX12_init 107 = .ok (.newarray .int, 2) := by decide +kernel
theorem dX12_init_109 : decode cX12_init 109 = .ok (.putfield 20, 3) := by decide +kernel
theorem dX12_init_112 : decode cX12_init 112 = .ok (.aload_n 0, 1) := by decide +kernel
theorem dX12_init_113 : decode cX12_init 113 = .ok (.bipush 16, 2) := by decide +kernel
theorem dX12_init_115 : decode cX12_init 115 = .ok (.newarray .int, 2) := by decide +kernel
theorem dX12_init_117 : decode cX12_init 117 = .ok (.putfield 23, 3) := by decide +kernel
theorem dX12_init_120 : decode cX12_init 120 = .ok (.aload_n 0, 1) := by decide +kernel
theorem dX12_init_121 : decode cX12_init 121 = .ok (.bipush 8, 2) := by decide +kernel
theorem dX12_init_123 : decode cX12_init 123 = .ok (.newarray .int, 2) := by decide +kernel
theorem dX12_init_125 : decode cX12_init 125 = .ok (.putfield 26, 3) := by decide +kernel
theorem dX12_init_128 : decode cX12_init 128 = .ok (.aload_n 0, 1) := by decide +kernel
theorem dX12_init_129 : decode cX12_init 129 = .ok (.bipush 32, 2) := by decide +kernel
theorem dX12_init_131 : decode cX12_init 131 = .ok (.newarray .int, 2) := by decide +kernel
theorem dX12_init_133 : decode cX12_init 133 = .ok (.putfield 29, 3) := by decide +kernel
theorem dX12_init_136 : decode cX12_init 136 = .ok (.aload_n 0, 1) := by decide +kernel
theorem dX12_init_137 : decode cX12_init 137 = .ok (.bipush 32, 2) := by decide +kernel
theorem dX12_init_139 : decode cX12_init 139 = .ok (.newarray .int, 2) := by decide +kernel
theorem dX12_init_141 : decode cX12_init 141 = .ok (.putfield 32, 3) := by decide +kernel
theorem dX12_init_144 : decode cX12_init 144 = .ok (.aload_n 0, 1) := by decide +kernel
theorem dX12_init_145 : decode cX12_init 145 = .ok (.sipush 384, 3) := by decide +kernel
theorem dX12_init_148 : decode cX12_init 148 = .ok (.newarray .int, 2) := by decide +kernel
theorem dX12_init_150 : decode cX12_init 150 = .ok (.putfield 35, 3) := by decide +kernel
theorem dX12_init_153 : decode cX12_init 153 = .ok (.aload_n 0, 1) := by decide +kernel
theorem dX12_init_154 : decode cX12_init 154 = .ok (.bipush 32, 2) := by decide +kernel
theorem dX12_init_156 : decode cX12_init 156 = .ok (.newarray .int, 2) := by decide +kernel
theorem dX12_init_158 : decode cX12_init 158 = .ok (.putfield 38, 3) := by decide +kernel
theorem dX12_init_161 : decode cX12_init 161 = .ok (.aload_n 0, 1) := by decide +kernel
theorem dX12_init_162 : decode cX12_init 162 = .ok (.sipush 384, 3) := by decide +kernel
theorem dX12_init_165 : decode cX12_init 165 = .ok (.newarray .int, 2) := by decide +kernel
theorem dX12_init_167 : decode cX12_init 167 = .ok (.putfield 41, 3) := by decide +kernel
theorem dX12_init_170 : decode cX12_init 170 = .ok (.aload_n 0, 1) := by decide +kernel
theorem dX12_init_171 : decode cX12_init 171 = .ok (.bipush 60, 2) := by decide +kernel
theorem dX12_init_173 : decode cX12_init 173 = .ok (.newarray .int, 2) := by decide +kernel
theorem dX12_init_175 : decode cX12_init 175 = .ok (.putfield 44, 3) := by decide +kernel
theorem dX12_init_178 : decode cX12_init 178 = .ok (.aload_n 0, 1) := by decide +kernel
theorem dX12_init_179 : decode cX12_init 179 = .ok (.bipush 12, 2) := by decide +kernel
theorem dX12_init_181 : decode cX12_init 181 = .ok (.newarray .int, 2) := by decide +kernel
theorem dX12_init_183 : decode cX12_init 183 = .ok (.putfield 47, 3) := by decide +kernel
theorem dX12_init_186 : decode cX12_init 186 = .ok (.aload_n 0, 1) := by decide +kernel
theorem dX12_init_187 : decode cX12_init 187 = .ok (.bipush 12, 2) := by decide +kernel
theorem dX12_init_189 : decode cX12_init 189 = .ok (.newarray .int, 2) := by decide +kernel
theorem dX12_init_191 : decode cX12_init 191 = .ok (.putfield 50, 3) := by decide +kernel
theorem dX12_init_194 : decode cX12_init 194 = .ok (.aload_n 0, 1) := by decide +kernel
theorem dX12_init_195 : decode cX12_init 195 = .ok (.sipush 400, 3) := by decide +kernel
theorem dX12_init_198 : decode cX12_init 198 = .ok (.newarray .int, 2) := by decide +kernel
theorem dX12_init_200 : decode cX12_init 200 = .ok (.putfield 53, 3) := by decide +kernel
theorem dX12_init_203 : decode cX12_init 203 = .ok (.aload_n 0, 1) := by decide +kernel
theorem dX12_init_204 : decode cX12_init 204 = .ok (.bipush 48, 2) := by decide +kernel
theorem dX12_init_206 : decode cX12_init 206 = .ok (.newarray .int, 2) := by decide +kernel
theorem dX12_init_208 : decode cX12_init 208 = .ok (.putfield 56, 3) := by decide +kernel
theorem dX12_init_211 : decode cX12_init 211 = .ok (.aload_n 0, 1) := by decide +kernel
theorem dX12_init_212 : decode cX12_init 212 = .ok (.sipush 4000, 3) := by decide +kernel
theorem dX12_init_215 : decode cX12_init 215 = .ok (.newarray .int, 2) := by decide +kernel
theorem dX12_init_217 : decode cX12_init 217 = .ok (.putfield 59, 3) := by decide +kernel
theorem dX12_init_220 : decode cX12_init 220 = .ok (.aload_n 0, 1) := by decide +kernel
theorem dX12_init_221 : decode cX12_init 221 = .ok (.sipush 4000, 3) := by decide +kernel
theorem dX12_init_224 : decode cX12_init 224 = .ok (.newarray .int, 2) := by decide +kernel
theorem dX12_init_226 : decode cX12_init 226 = .ok (.putfield 62, 3) := by decide +kernel
theorem dX12_init_229 : decode cX12_init 229 = .ok (.aload_n 0, 1) := by decide +kernel
theorem dX12_init_230 : decode cX12_init 230 = .ok (.sipush 4000, 3) := by decide +kernel
theorem dX12_init_233 : decode cX12_init 233 = .ok (.newarray .int, 2) := by decide +kernel
theorem dX12_init_235 : decode cX12_init 235 = .ok (.putfield 65, 3) := by decide +kernel
theorem dX12_init_238 : decode cX12_init 238 = .ok (.aload_n 0, 1) := by decide +kernel
theorem dX12_init_239 : decode cX12_init 239 = .ok (.bipush 61, 2) := by decide +kernel
theorem dX12_init_241 : decode cX12_init 241 = .ok (.newarray .int, 2) := by decide +kernel
theorem dX12_init_243 : decode cX12_init 243 = .ok (.putfield 68, 3) := by decide +kernel
theorem dX12_init_246 : decode cX12_init 246 = .ok (.aload_n 0, 1) := by decide +kernel
theorem dX12_init_247 : decode cX12_init 247 = .ok (.bipush 48, 2) := by decide +kernel
theorem dX12_init_249 : decode cX12_init 249 = .ok (.newarray .int, 2) := by decide +kernel
theorem dX12_init_251 : decode cX12_init 251 = .ok (.putfield 71, 3) := by decide +kernel
theorem dX12_init_254 : decode cX12_init 254 = .ok (.aload_n 0, 1) := by decide +kernel
theorem dX12_init_255 : decode cX12_init 255 = .ok (.bipush 16, 2) := by decide +kernel
theorem dX12_init_257 : decode cX12_init 257 = .ok (.newarray .int, 2) := by decide +kernel
theorem dX12_init_259 : decode cX12_init 259 = .ok (.putfield 74, 3) := by decide +kernel
theorem dX12_init_262 : decode cX12_init 262 = .ok (.aload_n 0, 1) := by decide +kernel
theorem dX12_init_263 : decode cX12_init 263 = .ok (.bipush 12, 2) := by decide +kernel
theorem dX12_init_265 : decode cX12_init 265 = .ok (.newarray .int, 2) := by decide +kernel
theorem dX12_init_267 : decode cX12_init 267 = .ok (.putfield 77, 3) := by decide +kernel
theorem dX12_init_270 : decode cX12_init 270 = .ok (.aload_n 0, 1) := by decide +kernel
theorem dX12_init_271 : decode cX12_init 271 = .ok (.bipush 12, 2) := by decide +kernel
theorem dX12_init_273 : decode cX12_init 273 = .ok (.newarray .int, 2) := by decide +kernel
theorem dX12_init_275 : decode cX12_init 275 = .ok (.putfield 80, 3) := by decide +kernel
theorem dX12_init_278 : decode cX12_init 278 = .ok (.aload_n 0, 1) := by decide +kernel
theorem dX12_init_279 : decode cX12_init 279 = .ok (.bipush 60, 2) := by decide +kernel
theorem dX12_init_281 : decode cX12_init 281 = .ok (.newarray .int, 2) := by decide +kernel
theorem dX12_init_283 : decode cX12_init 283 = .ok (.putfield 83, 3) := by decide +kernel
theorem dX12_init_286 : decode cX12_init 286 = .ok (.aload_n 0, 1) := by decide +kernel
theorem dX12_init_287 : decode cX12_init 287 = .ok (.bipush 60, 2) := by decide +kernel
theorem dX12_init_289 : decode cX12_init 289 = .ok (.newarray .int, 2) := by decide +kernel
theorem dX12_init_291 : decode cX12_init 291 = .ok (.putfield 86, 3) := by decide +kernel
theorem dX12_init_294 : decode cX12_init 294 = .ok (.aload_n 0, 1) := by decide +kernel
theorem dX12_init_295 : decode cX12_init 295 = .ok (.bipush 60, 2) := by decide +kernel
theorem dX12_init_297 : decode cX12_init 297 = .ok (.newarray .int, 2) := by decide +kernel
theorem dX12_init_299 : decode cX12_init 299 = .ok (.putfield 89, 3) := by decide +kernel
theorem dX12_init_302 : decode cX12_init 302 = .ok (.aload_n 0, 1) := by decide +kernel
theorem dX12_init_303 : decode cX12_init 303 = .ok (.bipush 20, 2) := by decide +kernel
theorem dX12_init_305 : decode cX12_init 305 = .ok (.newarray .int, 2) := by decide +kernel
theorem dX12_init_307 : decode cX12_init 307 = .ok (.putfield 92, 3) := by decide +kernel
theorem dX12_init_310 : decode cX12_init 310 = .ok (.aload_n 0, 1) := by decide +kernel
theorem dX12_init_311 : decode cX12_init 311 = .ok (.invokevirtual 95, 3) := by decide +kernel
theorem dX12_init_314 : decode cX12_init 314 = .ok (.aload_n 0, 1) := by decide +kernel
theorem dX12_init_315 : decode cX12_init 315 = .ok (.invokevirtual 98, 3) := by decide +kernel
theorem dX12_init_318 : decode cX12_init 318 = .ok (.return_, 1) := by decide +kernel
theorem xm_X12_init : xMw yX12_init cX12_init 1 none 0 := ⟨xin 1299 (by decide +kernel) rfl, xin 126 (by decide +kernel) rfl, by decide +kernel⟩
theorem xi_X12_init : Cond.instanceMethod yX12_init ∈ xT := xin 1298 (by decide +kernel) rfl
section GN_X12_init
variable {p : Program} {l : Launch} {e : Env} {R : Room} {s : State} {m : MethodId} {args : Array Value} {below : List Frame} {meth : Method} {c : Code} {H H0 : Heap} {locs : List Loc} {cells slots : Nat} {Q : State → Prop} {cc : ByteArray} {nL pc : Nat} {rt : Option FieldType} {ls : Array Slot} {rest : List Value} {D : xD} {ty : xTy} {N n : Nat} {tR tP : List (Nat × Nat × Nat)} {tI tA : List (Nat × Nat × Int)}
theorem pn_X12_7 {q v : Nat} (C0 : xC D RX12 cc nL rt p s m args meth c) (hG : xG D ty N n tR tI tP tA H) (hS : xL ty N n H0 H locs) (hin2 : meth.name = "<init>") (hq : q < n) (ht : ty (N + q) = some (0, 12)) (hdg : decode cc pc = .ok (.putfield 7, 3)) (kk : ∀ (H1 : Heap) (locs1 : List Loc), xG D ty N n ((q, 0, v) :: tR) tI tP tA H1 → xL ty N n H0 H1 locs1 → W p l e R s m args below meth c H1 locs1 cells slots Q (F0 m (pc + 3) ls rest)) : W p l e R s m args below meth c H locs cells slots Q (F0 m pc ls (.ref (N + v) :: .ref (N + q) :: rest)) := g_putrF C0 hG hS (ci := 12) (k := 0) (M := 60) (T := TX12) rfl iX12 tyX12_ok nmX12 (by decide) rfl rfl rfl wf_X12_7 rfl hin2 hq ht hdg kk
theorem pn_X12_13 {q v : Nat} (C0 : xC D RX12 cc nL rt p s m args meth c) (hG : xG D ty N n tR tI tP tA H) (hS : xL ty N n H0 H locs) (hin2 : meth.name = "<init>") (hq : q < n) (ht : ty (N + q) = some (0, 12)) (hdg : decode cc pc = .ok (.putfield 13, 3)) (kk : ∀ (H1 : Heap) (locs1 : List Loc), xG D ty N n ((q, 3, v) :: tR) tI tP tA H1 → xL ty N n H0 H1 locs1 → W p l e R s m args below meth c H1 locs1 cells slots Q (F0 m (pc + 3) ls rest)) : W p l e R s m args below meth c H locs cells slots Q (F0 m pc ls (.ref (N + v) :: .ref (N + q) :: rest)) := g_putrF C0 hG hS (ci := 12) (k := 3) (M := 60) (T := TX12) rfl iX12 tyX12_ok nmX12 (by decide) rfl rfl rfl wf_X12_13 rfl hin2 hq ht hdg kk
theorem pn_X12_16 {q : Nat} {v : Int} {w : Int32} (C0 : xC D RX12 cc nL rt p s m args meth c) (hG : xG D ty N n tR tI tP tA H) (hS : xL ty N n H0 H locs) (hw : w = i32 v) (hq : q < n) (ht : ty (N + q) = some (0, 12)) (hdg : decode cc pc = .ok (.putfield 16, 3)) (kk : ∀ (H1 : Heap) (locs1 : List Loc), xG D ty N n tR ((q, 5, v) :: tI) tP tA H1 → xL ty N n H0 H1 locs1 → W p l e R s m args below meth c H1 locs1 cells slots Q (F0 m (pc + 3) ls rest)) : W p l e R s m args below meth c H locs cells slots Q (F0 m pc ls (.int w :: .ref (N + q) :: rest)) := g_puti C0 hG hS (ci := 12) (k := 5) (M := 60) (T := TX12) rfl iX12 tyX12_ok nmX12 (by decide) rfl rfl wf_X12_16 (Or.inl rfl) hw rfl rfl hq ht hdg kk
theorem pn_X12_20 {q v : Nat} (C0 : xC D RX12 cc nL rt p s m args meth c) (hG : xG D ty N n tR tI tP tA H) (hS : xL ty N n H0 H locs) (hin2 : meth.name = "<init>") (hq : q < n) (ht : ty (N + q) = some (0, 12)) (hdg : decode cc pc = .ok (.putfield 20, 3)) (kk : ∀ (H1 : Heap) (locs1 : List Loc), xG D ty N n ((q, 18, v) :: tR) tI tP tA H1 → xL ty N n H0 H1 locs1 → W p l e R s m args below meth c H1 locs1 cells slots Q (F0 m (pc + 3) ls rest)) : W p l e R s m args below meth c H locs cells slots Q (F0 m pc ls (.ref (N + v) :: .ref (N + q) :: rest)) := g_putrF C0 hG hS (ci := 12) (k := 18) (M := 60) (T := TX12) rfl iX12 tyX12_ok nmX12 (by decide) rfl rfl rfl wf_X12_20 rfl hin2 hq ht hdg kk
theorem pn_X12_23 {q v : Nat} (C0 : xC D RX12 cc nL rt p s m args meth c) (hG : xG D ty N n tR tI tP tA H) (hS : xL ty N n H0 H locs) (hin2 : meth.name = "<init>") (hq : q < n) (ht : ty (N + q) = some (0, 12)) (hdg : decode cc pc = .ok (.putfield 23, 3)) (kk : ∀ (H1 : Heap) (locs1 : List Loc), xG D ty N n ((q, 19, v) :: tR) tI tP tA H1 → xL ty N n H0 H1 locs1 → W p l e R s m args below meth c H1 locs1 cells slots Q (F0 m (pc + 3) ls rest)) : W p l e R s m args below meth c H locs cells slots Q (F0 m pc ls (.ref (N + v) :: .ref (N + q) :: rest)) := g_putrF C0 hG hS (ci := 12) (k := 19) (M := 60) (T := TX12) rfl iX12 tyX12_ok nmX12 (by decide) rfl rfl rfl wf_X12_23 rfl hin2 hq ht hdg kk
theorem pn_X12_26 {q v : Nat} (C0 : xC D RX12 cc nL rt p s m args meth c) (hG : xG D ty N n tR tI tP tA H) (hS : xL ty N n H0 H locs) (hin2 : meth.name = "<init>") (hq : q < n) (ht : ty (N + q) = some (0, 12)) (hdg : decode cc pc = .ok (.putfield 26, 3)) (kk : ∀ (H1 : Heap) (locs1 : List Loc), xG D ty N n ((q, 20, v) :: tR) tI tP tA H1 → xL ty N n H0 H1 locs1 → W p l e R s m args below meth c H1 locs1 cells slots Q (F0 m (pc + 3) ls rest)) : W p l e R s m args below meth c H locs cells slots Q (F0 m pc ls (.ref (N + v) :: .ref (N + q) :: rest)) := g_putrF C0 hG hS (ci := 12) (k := 20) (M := 60) (T := TX12) rfl iX12 tyX12_ok nmX12 (by decide) rfl rfl rfl wf_X12_26 rfl hin2 hq ht hdg kk
theorem pn_X12_29 {q v : Nat} (C0 : xC D RX12 cc nL rt p s m args meth c) (hG : xG D ty N n tR tI tP tA H) (hS : xL ty N n H0 H locs) (hin2 : meth.name = "<init>") (hq : q < n) (ht : ty (N + q) = some (0, 12)) (hdg : decode cc pc = .ok (.putfield 29, 3)) (kk : ∀ (H1 : Heap) (locs1 : List Loc), xG D ty N n ((q, 21, v) :: tR) tI tP tA H1 → xL ty N n H0 H1 locs1 → W p l e R s m args below meth c H1 locs1 cells slots Q (F0 m (pc + 3) ls rest)) : W p l e R s m args below meth c H locs cells slots Q (F0 m pc ls (.ref (N + v) :: .ref (N + q) :: rest)) := g_putrF C0 hG hS (ci := 12) (k := 21) (M := 60) (T := TX12) rfl iX12 tyX12_ok nmX12 (by decide) rfl rfl rfl wf_X12_29 rfl hin2 hq ht hdg kk
theorem pn_X12_32 {q v : Nat} (C0 : xC D RX12 cc nL rt p s m args meth c) (hG : xG D ty N n tR tI tP tA H) (hS : xL ty N n H0 H locs) (hin2 : meth.name = "<init>") (hq : q < n) (ht : ty (N + q) = some (0, 12)) (hdg : decode cc pc = .ok (.putfield 32, 3)) (kk : ∀ (H1 : Heap) (locs1 : List Loc), xG D ty N n ((q, 22, v) :: tR) tI tP tA H1 → xL ty N n H0 H1 locs1 → W p l e R s m args below meth c H1 locs1 cells slots Q (F0 m (pc + 3) ls rest)) : W p l e R s m args below meth c H locs cells slots Q (F0 m pc ls (.ref (N + v) :: .ref (N + q) :: rest)) := g_putrF C0 hG hS (ci := 12) (k := 22) (M := 60) (T := TX12) rfl iX12 tyX12_ok nmX12 (by decide) rfl rfl rfl wf_X12_32 rfl hin2 hq ht hdg kk
theorem pn_X12_35 {q v : Nat} (C0 : xC D RX12 cc nL rt p s m args meth c) (hG : xG D ty N n tR tI tP tA H) (hS : xL ty N n H0 H locs) (hin2 : meth.name = "<init>") (hq : q < n) (ht : ty (N + q) = some (0, 12)) (hdg : decode cc pc = .ok (.putfield 35, 3)) (kk : ∀ (H1 : Heap) (locs1 : List Loc), xG D ty N n ((q, 23, v) :: tR) tI tP tA H1 → xL ty N n H0 H1 locs1 → W p l e R s m args below meth c H1 locs1 cells slots Q (F0 m (pc + 3) ls rest)) : W p l e R s m args below meth c H locs cells slots Q (F0 m pc ls (.ref (N + v) :: .ref (N + q) :: rest)) := g_putrF C0 hG hS (ci := 12) (k := 23) (M := 60) (T := TX12) rfl iX12 tyX12_ok nmX12 (by decide) rfl rfl rfl wf_X12_35 rfl hin2 hq ht hdg kk
theorem pn_X12_38 {q v : Nat} (C0 : xC D RX12 cc nL rt p s m args meth c) (hG : xG D ty N n tR tI tP tA H) (hS : xL ty N n H0 H locs) (hin2 : meth.name = "<init>") (hq : q < n) (ht : ty (N + q) = some (0, 12)) (hdg : decode cc pc = .ok (.putfield 38, 3)) (kk : ∀ (H1 : Heap) (locs1 : List Loc), xG D ty N n ((q, 24, v) :: tR) tI tP tA H1 → xL ty N n H0 H1 locs1 → W p l e R s m args below meth c H1 locs1 cells slots Q (F0 m (pc + 3) ls rest)) : W p l e R s m args below meth c H locs cells slots Q (F0 m pc ls (.ref (N + v) :: .ref (N + q) :: rest)) := g_putrF C0 hG hS (ci := 12) (k := 24) (M := 60) (T := TX12) rfl iX12 tyX12_ok nmX12 (by decide) rfl rfl rfl wf_X12_38 rfl hin2 hq ht hdg kk
theorem pn_X12_41 {q v : Nat} (C0 : xC D RX12 cc nL rt p s m args meth c) (hG : xG D ty N n tR tI tP tA H) (hS : xL ty N n H0 H locs) (hin2 : meth.name = "<init>") (hq : q < n) (ht : ty (N + q) = some (0, 12)) (hdg : decode cc pc = .ok (.putfield 41, 3)) (kk : ∀ (H1 : Heap) (locs1 : List Loc), xG D ty N n ((q, 25, v) :: tR) tI tP tA H1 → xL ty N n H0 H1 locs1 → W p l e R s m args below meth c H1 locs1 cells slots Q (F0 m (pc + 3) ls rest)) : W p l e R s m args below meth c H locs cells slots Q (F0 m pc ls (.ref (N + v) :: .ref (N + q) :: rest)) := g_putrF C0 hG hS (ci := 12) (k := 25) (M := 60) (T := TX12) rfl iX12 tyX12_ok nmX12 (by decide) rfl rfl rfl wf_X12_41 rfl hin2 hq ht hdg kk
theorem pn_X12_44 {q v : Nat} (C0 : xC D RX12 cc nL rt p s m args meth c) (hG : xG D ty N n tR tI tP tA H) (hS : xL ty N n H0 H locs) (hin2 : meth.name = "<init>") (hq : q < n) (ht : ty (N + q) = some (0, 12)) (hdg : decode cc pc = .ok (.putfield 44, 3)) (kk : ∀ (H1 : Heap) (locs1 : List Loc), xG D ty N n ((q, 27, v) :: tR) tI tP tA H1 → xL ty N n H0 H1 locs1 → W p l e R s m args below meth c H1 locs1 cells slots Q (F0 m (pc + 3) ls rest)) : W p l e R s m args below meth c H locs cells slots Q (F0 m pc ls (.ref (N + v) :: .ref (N + q) :: rest)) := g_putrF C0 hG hS (ci := 12) (k := 27) (M := 60) (T := TX12) rfl iX12 tyX12_ok nmX12 (by decide) rfl rfl rfl wf_X12_44 rfl hin2 hq ht hdg kk
theorem pn_X12_47 {q v : Nat} (C0 : xC D RX12 cc nL rt p s m args meth c) (hG : xG D ty N n tR tI tP tA H) (hS : xL ty N n H0 H locs) (hin2 : meth.name = "<init>") (hq : q < n) (ht : ty (N + q) = some (0, 12)) (hdg : decode cc pc = .ok (.putfield 47, 3)) (kk : ∀ (H1 : Heap) (locs1 : List Loc), xG D ty N n ((q, 29, v) :: tR) tI tP tA H1 → xL ty N n H0 H1 locs1 → W p l e R s m args below meth c H1 locs1 cells slots Q (F0 m (pc + 3) ls rest)) : W p l e R s m args below meth c H locs cells slots Q (F0 m pc ls (.ref (N + v) :: .ref (N + q) :: rest)) := g_putrF C0 hG hS (ci := 12) (k := 29) (M := 60) (T := TX12) rfl iX12 tyX12_ok nmX12 (by decide) rfl rfl rfl wf_X12_47 rfl hin2 hq ht hdg kk
theorem pn_X12_50 {q v : Nat} (C0 : xC D RX12 cc nL rt p s m args meth c) (hG : xG D ty N n tR tI tP tA H) (hS : xL ty N n H0 H locs) (hin2 : meth.name = "<init>") (hq : q < n) (ht : ty (N + q) = some (0, 12)) (hdg : decode cc pc = .ok (.putfield 50, 3)) (kk : ∀ (H1 : Heap) (locs1 : List Loc), xG D ty N n ((q, 31, v) :: tR) tI tP tA H1 → xL ty N n H0 H1 locs1 → W p l e R s m args below meth c H1 locs1 cells slots Q (F0 m (pc + 3) ls rest)) : W p l e R s m args below meth c H locs cells slots Q (F0 m pc ls (.ref (N + v) :: .ref (N + q) :: rest)) := g_putrF C0 hG hS (ci := 12) (k := 31) (M := 60) (T := TX12) rfl iX12 tyX12_ok nmX12 (by decide) rfl rfl rfl wf_X12_50 rfl hin2 hq ht hdg kk
theorem pn_X12_53 {q v : Nat} (C0 : xC D RX12 cc nL rt p s m args meth c) (hG : xG D ty N n tR tI tP tA H) (hS : xL ty N n H0 H locs) (hin2 : meth.name = "<init>") (hq : q < n) (ht : ty (N + q) = some (0, 12)) (hdg : decode cc pc = .ok (.putfield 53, 3)) (kk : ∀ (H1 : Heap) (locs1 : List Loc), xG D ty N n ((q, 32, v) :: tR) tI tP tA H1 → xL ty N n H0 H1 locs1 → W p l e R s m args below meth c H1 locs1 cells slots Q (F0 m (pc + 3) ls rest)) : W p l e R s m args below meth c H locs cells slots Q (F0 m pc ls (.ref (N + v) :: .ref (N + q) :: rest)) := g_putrF C0 hG hS (ci := 12) (k := 32) (M := 60) (T := TX12) rfl iX12 tyX12_ok nmX12 (by decide) rfl rfl rfl wf_X12_53 rfl hin2 hq ht hdg kk
theorem pn_X12_56 {q v : Nat} (C0 : xC D RX12 cc nL rt p s m args meth c) (hG : xG D ty N n tR tI tP tA H) (hS : xL ty N n H0 H locs) (hin2 : meth.name = "<init>") (hq : q < n) (ht : ty (N + q) = some (0, 12)) (hdg : decode cc pc = .ok (.putfield 56, 3)) (kk : ∀ (H1 : Heap) (locs1 : List Loc), xG D ty N n ((q, 34, v) :: tR) tI tP tA H1 → xL ty N n H0 H1 locs1 → W p l e R s m args below meth c H1 locs1 cells slots Q (F0 m (pc + 3) ls rest)) : W p l e R s m args below meth c H locs cells slots Q (F0 m pc ls (.ref (N + v) :: .ref (N + q) :: rest)) := g_putrF C0 hG hS (ci := 12) (k := 34) (M := 60) (T := TX12) rfl iX12 tyX12_ok nmX12 (by decide) rfl rfl rfl wf_X12_56 rfl hin2 hq ht hdg kk
theorem pn_X12_59 {q v : Nat} (C0 : xC D RX12 cc nL rt p s m args meth c) (hG : xG D ty N n tR tI tP tA H) (hS : xL ty N n H0 H locs) (hin2 : meth.name = "<init>") (hq : q < n) (ht : ty (N + q) = some (0, 12)) (hdg : decode cc pc = .ok (.putfield 59, 3)) (kk : ∀ (H1 : Heap) (locs1 : List Loc), xG D ty N n ((q, 35, v) :: tR) tI tP tA H1 → xL ty N n H0 H1 locs1 → W p l e R s m args below meth c H1 locs1 cells slots Q (F0 m (pc + 3) ls rest)) : W p l e R s m args below meth c H locs cells slots Q (F0 m pc ls (.ref (N + v) :: .ref (N + q) :: rest)) := g_putrF C0 hG hS (ci := 12) (k := 35) (M := 60) (T := TX12) rfl iX12 tyX12_ok nmX12 (by decide) rfl rfl rfl wf_X12_59 rfl hin2 hq ht hdg kk
theorem pn_X12_62 {q v : Nat} (C0 : xC D RX12 cc nL rt p s m args meth c) (hG : xG D ty N n tR tI tP tA H) (hS : xL ty N n H0 H locs) (hin2 : meth.name = "<init>") (hq : q < n) (ht : ty (N + q) = some (0, 12)) (hdg : decode cc pc = .ok (.putfield 62, 3)) (kk : ∀ (H1 : Heap) (locs1 : List Loc), xG D ty N n ((q, 36, v) :: tR) tI tP tA H1 → xL ty N n H0 H1 locs1 → W p l e R s m args below meth c H1 locs1 cells slots Q (F0 m (pc + 3) ls rest)) : W p l e R s m args below meth c H locs cells slots Q (F0 m pc ls (.ref (N + v) :: .ref (N + q) :: rest)) := g_putrF C0 hG hS (ci := 12) (k := 36) (M := 60) (T := TX12) rfl iX12 tyX12_ok nmX12 (by decide) rfl rfl rfl wf_X12_62 rfl hin2 hq ht hdg kk
theorem pn_X12_65 {q v : Nat} (C0 : xC D RX12 cc nL rt p s m args meth c) (hG : xG D ty N n tR tI tP tA H) (hS : xL ty N n H0 H locs) (hin2 : meth.name = "<init>") (hq : q < n) (ht : ty (N + q) = some (0, 12)) (hdg : decode cc pc = .ok (.putfield 65, 3)) (kk : ∀ (H1 : Heap) (locs1 : List Loc), xG D ty N n ((q, 37, v) :: tR) tI tP tA H1 → xL ty N n H0 H1 locs1 → W p l e R s m args below meth c H1 locs1 cells slots Q (F0 m (pc + 3) ls rest)) : W p l e R s m args below meth c H locs cells slots Q (F0 m pc ls (.ref (N + v) :: .ref (N + q) :: rest)) := g_putrF C0 hG hS (ci := 12) (k := 37) (M := 60) (T := TX12) rfl iX12 tyX12_ok nmX12 (by decide) rfl rfl rfl wf_X12_65 rfl hin2 hq ht hdg kk
theorem pn_X12_68 {q v : Nat} (C0 : xC D RX12 cc nL rt p s m args meth c) (hG : xG D ty N n tR tI tP tA H) (hS : xL ty N n H0 H locs) (hin2 : meth.name = "<init>") (hq : q < n) (ht : ty (N + q) = some (0, 12)) (hdg : decode cc pc = .ok (.putfield 68, 3)) (kk : ∀ (H1 : Heap) (locs1 : List Loc), xG D ty N n ((q, 38, v) :: tR) tI tP tA H1 → xL ty N n H0 H1 locs1 → W p l e R s m args below meth c H1 locs1 cells slots Q (F0 m (pc + 3) ls rest)) : W p l e R s m args below meth c H locs cells slots Q (F0 m pc ls (.ref (N + v) :: .ref (N + q) :: rest)) := g_putrF C0 hG hS (ci := 12) (k := 38) (M := 60) (T := TX12) rfl iX12 tyX12_ok nmX12 (by decide) rfl rfl rfl wf_X12_68 rfl hin2 hq ht hdg kk
theorem pn_X12_71 {q v : Nat} (C0 : xC D RX12 cc nL rt p s m args meth c) (hG : xG D ty N n tR tI tP tA H) (hS : xL ty N n H0 H locs) (hin2 : meth.name = "<init>") (hq : q < n) (ht : ty (N + q) = some (0, 12)) (hdg : decode cc pc = .ok (.putfield 71, 3)) (kk : ∀ (H1 : Heap) (locs1 : List Loc), xG D ty N n ((q, 40, v) :: tR) tI tP tA H1 → xL ty N n H0 H1 locs1 → W p l e R s m args below meth c H1 locs1 cells slots Q (F0 m (pc + 3) ls rest)) : W p l e R s m args below meth c H locs cells slots Q (F0 m pc ls (.ref (N + v) :: .ref (N + q) :: rest)) := g_putrF C0 hG hS (ci := 12) (k := 40) (M := 60) (T := TX12) rfl iX12 tyX12_ok nmX12 (by decide) rfl rfl rfl wf_X12_71 rfl hin2 hq ht hdg kk
theorem pn_X12_74 {q v : Nat} (C0 : xC D RX12 cc nL rt p s m args meth c) (hG : xG D ty N n tR tI tP tA H) (hS : xL ty N n H0 H locs) (hin2 : meth.name = "<init>") (hq : q < n) (ht : ty (N + q) = some (0, 12)) (hdg : decode cc pc = .ok (.putfield 74, 3)) (kk : ∀ (H1 : Heap) (locs1 : List Loc), xG D ty N n ((q, 44, v) :: tR) tI tP tA H1 → xL ty N n H0 H1 locs1 → W p l e R s m args below meth c H1 locs1 cells slots Q (F0 m (pc + 3) ls rest)) : W p l e R s m args below meth c H locs cells slots Q (F0 m pc ls (.ref (N + v) :: .ref (N + q) :: rest)) := g_putrF C0 hG hS (ci := 12) (k := 44) (M := 60) (T := TX12) rfl iX12 tyX12_ok nmX12 (by decide) rfl rfl rfl wf_X12_74 rfl hin2 hq ht hdg kk
theorem pn_X12_77 {q v : Nat} (C0 : xC D RX12 cc nL rt p s m args meth c) (hG : xG D ty N n tR tI tP tA H) (hS : xL ty N n H0 H locs) (hin2 : meth.name = "<init>") (hq : q < n) (ht : ty (N + q) = some (0, 12)) (hdg : decode cc pc = .ok (.putfield 77, 3)) (kk : ∀ (H1 : Heap) (locs1 : List Loc), xG D ty N n ((q, 46, v) :: tR) tI tP tA H1 → xL ty N n H0 H1 locs1 → W p l e R s m args below meth c H1 locs1 cells slots Q (F0 m (pc + 3) ls rest)) : W p l e R s m args below meth c H locs cells slots Q (F0 m pc ls (.ref (N + v) :: .ref (N + q) :: rest)) := g_putrF C0 hG hS (ci := 12) (k := 46) (M := 60) (T := TX12) rfl iX12 tyX12_ok nmX12 (by decide) rfl rfl rfl wf_X12_77 rfl hin2 hq ht hdg kk
theorem pn_X12_80 {q v : Nat} (C0 : xC D RX12 cc nL rt p s m args meth c) (hG : xG D ty N n tR tI tP tA H) (hS : xL ty N n H0 H locs) (hin2 : meth.name = "<init>") (hq : q < n) (ht : ty (N + q) = some (0, 12)) (hdg : decode cc pc = .ok (.putfield 80, 3)) (kk : ∀ (H1 : Heap) (locs1 : List Loc), xG D ty N n ((q, 47, v) :: tR) tI tP tA H1 → xL ty N n H0 H1 locs1 → W p l e R s m args below meth c H1 locs1 cells slots Q (F0 m (pc + 3) ls rest)) : W p l e R s m args below meth c H locs cells slots Q (F0 m pc ls (.ref (N + v) :: .ref (N + q) :: rest)) := g_putrF C0 hG hS (ci := 12) (k := 47) (M := 60) (T := TX12) rfl iX12 tyX12_ok nmX12 (by decide) rfl rfl rfl wf_X12_80 rfl hin2 hq ht hdg kk
theorem pn_X12_83 {q v : Nat} (C0 : xC D RX12 cc nL rt p s m args meth c) (hG : xG D ty N n tR tI tP tA H) (hS : xL ty N n H0 H locs) (hin2 : meth.name = "<init>") (hq : q < n) (ht : ty (N + q) = some (0, 12)) (hdg : decode cc pc = .ok (.putfield 83, 3)) (kk : ∀ (H1 : Heap) (locs1 : List Loc), xG D ty N n ((q, 48, v) :: tR) tI tP tA H1 → xL ty N n H0 H1 locs1 → W p l e R s m args below meth c H1 locs1 cells slots Q (F0 m (pc + 3) ls rest)) : W p l e R s m args below meth c H locs cells slots Q (F0 m pc ls (.ref (N + v) :: .ref (N + q) :: rest)) := g_putrF C0 hG hS (ci := 12) (k := 48) (M := 60) (T := TX12) rfl iX12 tyX12_ok nmX12 (by decide) rfl rfl rfl wf_X12_83 rfl hin2 hq ht hdg kk
theorem pn_X12_86 {q v : Nat} (C0 : xC D RX12 cc nL rt p s m args meth c) (hG : xG D ty N n tR tI tP tA H) (hS : xL ty N n H0 H locs) (hin2 : meth.name = "<init>") (hq : q < n) (ht : ty (N + q) = some (0, 12)) (hdg : decode cc pc = .ok (.putfield 86, 3)) (kk : ∀ (H1 : Heap) (locs1 : List Loc), xG D ty N n ((q, 52, v) :: tR) tI tP tA H1 → xL ty N n H0 H1 locs1 → W p l e R s m args below meth c H1 locs1 cells slots Q (F0 m (pc + 3) ls rest)) : W p l e R s m args below meth c H locs cells slots Q (F0 m pc ls (.ref (N + v) :: .ref (N + q) :: rest)) := g_putrF C0 hG hS (ci := 12) (k := 52) (M := 60) (T := TX12) rfl iX12 tyX12_ok nmX12 (by decide) rfl rfl rfl wf_X12_86 rfl hin2 hq ht hdg kk
theorem pn_X12_89 {q v : Nat} (C0 : xC D RX12 cc nL rt p s m args meth c) (hG : xG D ty N n tR tI tP tA H) (hS : xL ty N n H0 H locs) (hin2 : meth.name = "<init>") (hq : q < n) (ht : ty (N + q) = some (0, 12)) (hdg : decode cc pc = .ok (.putfield 89, 3)) (kk : ∀ (H1 : Heap) (locs1 : List Loc), xG D ty N n ((q, 55, v) :: tR) tI tP tA H1 → xL ty N n H0 H1 locs1 → W p l e R s m args below meth c H1 locs1 cells slots Q (F0 m (pc + 3) ls rest)) : W p l e R s m args below meth c H locs cells slots Q (F0 m pc ls (.ref (N + v) :: .ref (N + q) :: rest)) := g_putrF C0 hG hS (ci := 12) (k := 55) (M := 60) (T := TX12) rfl iX12 tyX12_ok nmX12 (by decide) rfl rfl rfl wf_X12_89 rfl hin2 hq ht hdg kk
theorem pn_X12_92 {q v : Nat} (C0 : xC D RX12 cc nL rt p s m args meth c) (hG : xG D ty N n tR tI tP tA H) (hS : xL ty N n H0 H locs) (hin2 : meth.name = "<init>") (hq : q < n) (ht : ty (N + q) = some (0, 12)) (hdg : decode cc pc = .ok (.putfield 92, 3)) (kk : ∀ (H1 : Heap) (locs1 : List Loc), xG D ty N n ((q, 57, v) :: tR) tI tP tA H1 → xL ty N n H0 H1 locs1 → W p l e R s m args below meth c H1 locs1 cells slots Q (F0 m (pc + 3) ls rest)) : W p l e R s m args below meth c H locs cells slots Q (F0 m pc ls (.ref (N + v) :: .ref (N + q) :: rest)) := g_putrF C0 hG hS (ci := 12) (k := 57) (M := 60) (T := TX12) rfl iX12 tyX12_ok nmX12 (by decide) rfl rfl rfl wf_X12_92 rfl hin2 hq ht hdg kk
end GN_X12_init
def sh_X12 : List (Nat × Nat) := [(0, 12), (1, 700), (1, 14), (1, 16), (1, 16), (1, 8), (1, 32), (1, 32), (1, 384), (1, 32), (1, 384), (1, 60), (1, 12), (1, 12), (1, 400), (1, 48), (1, 4000), (1, 4000), (1, 4000), (1, 61), (1, 48), (1, 16), (1, 12), (1, 12), (1, 60), (1, 60), (1, 60), (1, 20)]
abbrev jnr_X12 : Room := { frames := 2, cells := 27, slots := 14499, locals := 42 }
def nr_X12 (b : Nat) : List (Nat × Nat × Nat) := (b, 57, b + 27) :: (b, 55, b + 26) :: (b, 52, b + 25) :: (b, 48, b + 24) :: (b, 47, b + 23) :: (b, 46, b + 22) :: (b, 44, b + 21) :: (b, 40, b + 20) :: (b, 38, b + 19) :: (b, 37, b + 18) :: (b, 36, b + 17) :: (b, 35, b + 16) :: (b, 34, b + 15) :: (b, 32, b + 14) :: (b, 31, b + 13) :: (b, 29, b + 12) :: (b, 27, b + 11) :: (b, 25, b + 10) :: (b, 24, b + 9) :: (b, 23, b + 8) :: (b, 22, b + 7) :: (b, 21, b + 6) :: (b, 20, b + 5) :: (b, 19, b + 4) :: (b, 18, b + 3) :: (b, 3, b + 2) :: (b, 0, b + 1) :: []
def ni_X12 (b : Nat) : List (Nat × Nat × Int) := (b, 5, (-1)) :: []
def na_X12 (b : Nat) : List (Nat × Nat × Int) := (b + 2, 13, 32) :: (b + 2, 12, 101) :: (b + 2, 11, 108) :: (b + 2, 10, 117) :: (b + 2, 9, 114) :: (b + 2, 8, 32) :: (b + 2, 7, 114) :: (b + 2, 6, 97) :: (b + 2, 5, 118) :: (b + 2, 4, 32) :: (b + 2, 3, 110) :: (b + 2, 2, 103) :: (b + 2, 1, 105) :: (b + 2, 0, 115) :: []
set_option maxHeartbeats 4000000 in
set_option maxRecDepth 100000 in
theorem jh_X12 {p : Program} {l : Launch} {e : Env} {s : State} {m : MethodId} {args : Array Value} {below : List Frame} {meth : Method} {c : Code} {Q : State → Prop} {ls : Array Slot} {D : xD} {ty : xTy} {N b : Nat} {tR tP : List (Nat × Nat × Nat)} {tI tA : List (Nat × Nat × Int)} (C0 : xC D RX12 cX12_init 1 none p s m args meth c) (hnm : meth.name = "<init>") (hT : ∀ (j : Nat) (t : Nat × Nat), sh_X12[j]? = some t → ty (N + (b + j)) = some t) (hG : xG D ty N (b + 1) tR tI tP tA s.heap) (hl : lv_has ls 1 [(0, .ref (N + b))]) (kk : ∀ (H : Heap) (locs : List Loc), xG D ty N (b + 28) (nr_X12 b ++ tR) (ni_X12 b ++ tI) tP (na_X12 b ++ tA) H → xL ty N (b + 28) s.heap H locs → W p l e jnr_X12 s m args below meth c H locs 27 14499 Q (F0 m 310 ls [])) : W p l e jnr_X12 s m args below meth c s.heap [] 0 0 Q (F0 m 0 ls []) := by
  have hx := C0.1
  have hb := C0.2.1
  have hS : xL ty N (b + 1) s.heap s.heap [] := ⟨fun _ _ => rfl, fun _ h => absurd h List.not_mem_nil⟩
  refine lv_aload_n hx hb dX12_init_0 rfl (lv_at hl 0 rfl) ?_
  refine g_obj C0 wj_X12_1 hl.1 (Nat.le_of_ble_eq_true rfl) (Nat.le_of_ble_eq_true rfl) dX12_init_1 ?_
  refine lv_aload_n hx hb dX12_init_4 rfl (lv_at hl 0 rfl) ?_
  refine lv_sipush (v := 700) hx hb dX12_init_5 (by decide) ?_
  refine g_newi (n1 := b + 2) (c1 := 1) (s1 := 700) C0 hG hS rfl rfl rfl (hT 1 _ rfl) (by decide) (by decide) (Nat.le_of_ble_eq_true rfl) (Nat.le_of_ble_eq_true rfl) (Nat.le_of_ble_eq_true rfl) dX12_init_8 (fun H hG hS => ?_)
  refine pn_X12_7 (q := b) (v := b + 1) C0 hG hS hnm (by omega) (hT 0 _ rfl) dX12_init_10 (fun H locs hG hS => ?_)
  refine lv_aload_n hx hb dX12_init_13 rfl (lv_at hl 0 rfl) ?_
  refine lv_bipush (v := 14) hx hb dX12_init_14 (by decide) ?_
  refine g_newi (n1 := b + 3) (c1 := 2) (s1 := 714) C0 hG hS rfl rfl rfl (hT 2 _ rfl) (by decide) (by decide) (Nat.le_of_ble_eq_true rfl) (Nat.le_of_ble_eq_true rfl) (Nat.le_of_ble_eq_true rfl) dX12_init_16 (fun H hG hS => ?_)
  refine lv_dup hx hb dX12_init_18 rfl ?_
  refine lv_iconst (v := 0) hx hb dX12_init_19 (by decide) ?_
  refine lv_bipush (v := 115) hx hb dX12_init_20 (by decide) ?_
  refine g_iast (q := b + 2) (j := 0) (len := 14) (v := 115) C0 hG hS (by decide) (by decide) (Nat.le_of_ble_eq_true rfl) (by decide) (by omega) (hT 2 _ rfl) dX12_init_22 (fun H locs hG hS => ?_)
  refine lv_dup hx hb dX12_init_23 rfl ?_
  refine lv_iconst (v := 1) hx hb dX12_init_24 (by decide) ?_
  refine lv_bipush (v := 105) hx hb dX12_init_25 (by decide) ?_
  refine g_iast (q := b + 2) (j := 1) (len := 14) (v := 105) C0 hG hS (by decide) (by decide) (Nat.le_of_ble_eq_true rfl) (by decide) (by omega) (hT 2 _ rfl) dX12_init_27 (fun H locs hG hS => ?_)
  refine lv_dup hx hb dX12_init_28 rfl ?_
  refine lv_iconst (v := 2) hx hb dX12_init_29 (by decide) ?_
  refine lv_bipush (v := 103) hx hb dX12_init_30 (by decide) ?_
  refine g_iast (q := b + 2) (j := 2) (len := 14) (v := 103) C0 hG hS (by decide) (by decide) (Nat.le_of_ble_eq_true rfl) (by decide) (by omega) (hT 2 _ rfl) dX12_init_32 (fun H locs hG hS => ?_)
  refine lv_dup hx hb dX12_init_33 rfl ?_
  refine lv_iconst (v := 3) hx hb dX12_init_34 (by decide) ?_
  refine lv_bipush (v := 110) hx hb dX12_init_35 (by decide) ?_
  refine g_iast (q := b + 2) (j := 3) (len := 14) (v := 110) C0 hG hS (by decide) (by decide) (Nat.le_of_ble_eq_true rfl) (by decide) (by omega) (hT 2 _ rfl) dX12_init_37 (fun H locs hG hS => ?_)
  refine lv_dup hx hb dX12_init_38 rfl ?_
  refine lv_iconst (v := 4) hx hb dX12_init_39 (by decide) ?_
  refine lv_bipush (v := 32) hx hb dX12_init_40 (by decide) ?_
  refine g_iast (q := b + 2) (j := 4) (len := 14) (v := 32) C0 hG hS (by decide) (by decide) (Nat.le_of_ble_eq_true rfl) (by decide) (by omega) (hT 2 _ rfl) dX12_init_42 (fun H locs hG hS => ?_)
  refine lv_dup hx hb dX12_init_43 rfl ?_
  refine lv_iconst (v := 5) hx hb dX12_init_44 (by decide) ?_
  refine lv_bipush (v := 118) hx hb dX12_init_45 (by decide) ?_
  refine g_iast (q := b + 2) (j := 5) (len := 14) (v := 118) C0 hG hS (by decide) (by decide) (Nat.le_of_ble_eq_true rfl) (by decide) (by omega) (hT 2 _ rfl) dX12_init_47 (fun H locs hG hS => ?_)
  refine lv_dup hx hb dX12_init_48 rfl ?_
  refine lv_bipush (v := 6) hx hb dX12_init_49 (by decide) ?_
  refine lv_bipush (v := 97) hx hb dX12_init_51 (by decide) ?_
  refine g_iast (q := b + 2) (j := 6) (len := 14) (v := 97) C0 hG hS (by decide) (by decide) (Nat.le_of_ble_eq_true rfl) (by decide) (by omega) (hT 2 _ rfl) dX12_init_53 (fun H locs hG hS => ?_)
  refine lv_dup hx hb dX12_init_54 rfl ?_
  refine lv_bipush (v := 7) hx hb dX12_init_55 (by decide) ?_
  refine lv_bipush (v := 114) hx hb dX12_init_57 (by decide) ?_
  refine g_iast (q := b + 2) (j := 7) (len := 14) (v := 114) C0 hG hS (by decide) (by decide) (Nat.le_of_ble_eq_true rfl) (by decide) (by omega) (hT 2 _ rfl) dX12_init_59 (fun H locs hG hS => ?_)
  refine lv_dup hx hb dX12_init_60 rfl ?_
  refine lv_bipush (v := 8) hx hb dX12_init_61 (by decide) ?_
  refine lv_bipush (v := 32) hx hb dX12_init_63 (by decide) ?_
  refine g_iast (q := b + 2) (j := 8) (len := 14) (v := 32) C0 hG hS (by decide) (by decide) (Nat.le_of_ble_eq_true rfl) (by decide) (by omega) (hT 2 _ rfl) dX12_init_65 (fun H locs hG hS => ?_)
  refine lv_dup hx hb dX12_init_66 rfl ?_
  refine lv_bipush (v := 9) hx hb dX12_init_67 (by decide) ?_
  refine lv_bipush (v := 114) hx hb dX12_init_69 (by decide) ?_
  refine g_iast (q := b + 2) (j := 9) (len := 14) (v := 114) C0 hG hS (by decide) (by decide) (Nat.le_of_ble_eq_true rfl) (by decide) (by omega) (hT 2 _ rfl) dX12_init_71 (fun H locs hG hS => ?_)
  refine lv_dup hx hb dX12_init_72 rfl ?_
  refine lv_bipush (v := 10) hx hb dX12_init_73 (by decide) ?_
  refine lv_bipush (v := 117) hx hb dX12_init_75 (by decide) ?_
  refine g_iast (q := b + 2) (j := 10) (len := 14) (v := 117) C0 hG hS (by decide) (by decide) (Nat.le_of_ble_eq_true rfl) (by decide) (by omega) (hT 2 _ rfl) dX12_init_77 (fun H locs hG hS => ?_)
  refine lv_dup hx hb dX12_init_78 rfl ?_
  refine lv_bipush (v := 11) hx hb dX12_init_79 (by decide) ?_
  refine lv_bipush (v := 108) hx hb dX12_init_81 (by decide) ?_
  refine g_iast (q := b + 2) (j := 11) (len := 14) (v := 108) C0 hG hS (by decide) (by decide) (Nat.le_of_ble_eq_true rfl) (by decide) (by omega) (hT 2 _ rfl) dX12_init_83 (fun H locs hG hS => ?_)
  refine lv_dup hx hb dX12_init_84 rfl ?_
  refine lv_bipush (v := 12) hx hb dX12_init_85 (by decide) ?_
  refine lv_bipush (v := 101) hx hb dX12_init_87 (by decide) ?_
  refine g_iast (q := b + 2) (j := 12) (len := 14) (v := 101) C0 hG hS (by decide) (by decide) (Nat.le_of_ble_eq_true rfl) (by decide) (by omega) (hT 2 _ rfl) dX12_init_89 (fun H locs hG hS => ?_)
  refine lv_dup hx hb dX12_init_90 rfl ?_
  refine lv_bipush (v := 13) hx hb dX12_init_91 (by decide) ?_
  refine lv_bipush (v := 32) hx hb dX12_init_93 (by decide) ?_
  refine g_iast (q := b + 2) (j := 13) (len := 14) (v := 32) C0 hG hS (by decide) (by decide) (Nat.le_of_ble_eq_true rfl) (by decide) (by omega) (hT 2 _ rfl) dX12_init_95 (fun H locs hG hS => ?_)
  refine pn_X12_13 (q := b) (v := b + 2) C0 hG hS hnm (by omega) (hT 0 _ rfl) dX12_init_96 (fun H locs hG hS => ?_)
  refine lv_aload_n hx hb dX12_init_99 rfl (lv_at hl 0 rfl) ?_
  refine lv_iconst (v := (-1)) hx hb dX12_init_100 (by decide) ?_
  refine pn_X12_16 (q := b) (v := (-1)) C0 hG hS (by decide) (by omega) (hT 0 _ rfl) dX12_init_101 (fun H locs hG hS => ?_)
  refine lv_aload_n hx hb dX12_init_104 rfl (lv_at hl 0 rfl) ?_
  refine lv_bipush (v := 16) hx hb dX12_init_105 (by decide) ?_
  refine g_newi (n1 := b + 4) (c1 := 3) (s1 := 730) C0 hG hS rfl rfl rfl (hT 3 _ rfl) (by decide) (by decide) (Nat.le_of_ble_eq_true rfl) (Nat.le_of_ble_eq_true rfl) (Nat.le_of_ble_eq_true rfl) dX12_init_107 (fun H hG hS => ?_)
  refine pn_X12_20 (q := b) (v := b + 3) C0 hG hS hnm (by omega) (hT 0 _ rfl) dX12_init_109 (fun H locs hG hS => ?_)
  refine lv_aload_n hx hb dX12_init_112 rfl (lv_at hl 0 rfl) ?_
  refine lv_bipush (v := 16) hx hb dX12_init_113 (by decide) ?_
  refine g_newi (n1 := b + 5) (c1 := 4) (s1 := 746) C0 hG hS rfl rfl rfl (hT 4 _ rfl) (by decide) (by decide) (Nat.le_of_ble_eq_true rfl) (Nat.le_of_ble_eq_true rfl) (Nat.le_of_ble_eq_true rfl) dX12_init_115 (fun H hG hS => ?_)
  refine pn_X12_23 (q := b) (v := b + 4) C0 hG hS hnm (by omega) (hT 0 _ rfl) dX12_init_117 (fun H locs hG hS => ?_)
  refine lv_aload_n hx hb dX12_init_120 rfl (lv_at hl 0 rfl) ?_
  refine lv_bipush (v := 8) hx hb dX12_init_121 (by decide) ?_
  refine g_newi (n1 := b + 6) (c1 := 5) (s1 := 754) C0 hG hS rfl rfl rfl (hT 5 _ rfl) (by decide) (by decide) (Nat.le_of_ble_eq_true rfl) (Nat.le_of_ble_eq_true rfl) (Nat.le_of_ble_eq_true rfl) dX12_init_123 (fun H hG hS => ?_)
  refine pn_X12_26 (q := b) (v := b + 5) C0 hG hS hnm (by omega) (hT 0 _ rfl) dX12_init_125 (fun H locs hG hS => ?_)
  refine lv_aload_n hx hb dX12_init_128 rfl (lv_at hl 0 rfl) ?_
  refine lv_bipush (v := 32) hx hb dX12_init_129 (by decide) ?_
  refine g_newi (n1 := b + 7) (c1 := 6) (s1 := 786) C0 hG hS rfl rfl rfl (hT 6 _ rfl) (by decide) (by decide) (Nat.le_of_ble_eq_true rfl) (Nat.le_of_ble_eq_true rfl) (Nat.le_of_ble_eq_true rfl) dX12_init_131 (fun H hG hS => ?_)
  refine pn_X12_29 (q := b) (v := b + 6) C0 hG hS hnm (by omega) (hT 0 _ rfl) dX12_init_133 (fun H locs hG hS => ?_)
  refine lv_aload_n hx hb dX12_init_136 rfl (lv_at hl 0 rfl) ?_
  refine lv_bipush (v := 32) hx hb dX12_init_137 (by decide) ?_
  refine g_newi (n1 := b + 8) (c1 := 7) (s1 := 818) C0 hG hS rfl rfl rfl (hT 7 _ rfl) (by decide) (by decide) (Nat.le_of_ble_eq_true rfl) (Nat.le_of_ble_eq_true rfl) (Nat.le_of_ble_eq_true rfl) dX12_init_139 (fun H hG hS => ?_)
  refine pn_X12_32 (q := b) (v := b + 7) C0 hG hS hnm (by omega) (hT 0 _ rfl) dX12_init_141 (fun H locs hG hS => ?_)
  refine lv_aload_n hx hb dX12_init_144 rfl (lv_at hl 0 rfl) ?_
  refine lv_sipush (v := 384) hx hb dX12_init_145 (by decide) ?_
  refine g_newi (n1 := b + 9) (c1 := 8) (s1 := 1202) C0 hG hS rfl rfl rfl (hT 8 _ rfl) (by decide) (by decide) (Nat.le_of_ble_eq_true rfl) (Nat.le_of_ble_eq_true rfl) (Nat.le_of_ble_eq_true rfl) dX12_init_148 (fun H hG hS => ?_)
  refine pn_X12_35 (q := b) (v := b + 8) C0 hG hS hnm (by omega) (hT 0 _ rfl) dX12_init_150 (fun H locs hG hS => ?_)
  refine lv_aload_n hx hb dX12_init_153 rfl (lv_at hl 0 rfl) ?_
  refine lv_bipush (v := 32) hx hb dX12_init_154 (by decide) ?_
  refine g_newi (n1 := b + 10) (c1 := 9) (s1 := 1234) C0 hG hS rfl rfl rfl (hT 9 _ rfl) (by decide) (by decide) (Nat.le_of_ble_eq_true rfl) (Nat.le_of_ble_eq_true rfl) (Nat.le_of_ble_eq_true rfl) dX12_init_156 (fun H hG hS => ?_)
  refine pn_X12_38 (q := b) (v := b + 9) C0 hG hS hnm (by omega) (hT 0 _ rfl) dX12_init_158 (fun H locs hG hS => ?_)
  refine lv_aload_n hx hb dX12_init_161 rfl (lv_at hl 0 rfl) ?_
  refine lv_sipush (v := 384) hx hb dX12_init_162 (by decide) ?_
  refine g_newi (n1 := b + 11) (c1 := 10) (s1 := 1618) C0 hG hS rfl rfl rfl (hT 10 _ rfl) (by decide) (by decide) (Nat.le_of_ble_eq_true rfl) (Nat.le_of_ble_eq_true rfl) (Nat.le_of_ble_eq_true rfl) dX12_init_165 (fun H hG hS => ?_)
  refine pn_X12_41 (q := b) (v := b + 10) C0 hG hS hnm (by omega) (hT 0 _ rfl) dX12_init_167 (fun H locs hG hS => ?_)
  refine lv_aload_n hx hb dX12_init_170 rfl (lv_at hl 0 rfl) ?_
  refine lv_bipush (v := 60) hx hb dX12_init_171 (by decide) ?_
  refine g_newi (n1 := b + 12) (c1 := 11) (s1 := 1678) C0 hG hS rfl rfl rfl (hT 11 _ rfl) (by decide) (by decide) (Nat.le_of_ble_eq_true rfl) (Nat.le_of_ble_eq_true rfl) (Nat.le_of_ble_eq_true rfl) dX12_init_173 (fun H hG hS => ?_)
  refine pn_X12_44 (q := b) (v := b + 11) C0 hG hS hnm (by omega) (hT 0 _ rfl) dX12_init_175 (fun H locs hG hS => ?_)
  refine lv_aload_n hx hb dX12_init_178 rfl (lv_at hl 0 rfl) ?_
  refine lv_bipush (v := 12) hx hb dX12_init_179 (by decide) ?_
  refine g_newi (n1 := b + 13) (c1 := 12) (s1 := 1690) C0 hG hS rfl rfl rfl (hT 12 _ rfl) (by decide) (by decide) (Nat.le_of_ble_eq_true rfl) (Nat.le_of_ble_eq_true rfl) (Nat.le_of_ble_eq_true rfl) dX12_init_181 (fun H hG hS => ?_)
  refine pn_X12_47 (q := b) (v := b + 12) C0 hG hS hnm (by omega) (hT 0 _ rfl) dX12_init_183 (fun H locs hG hS => ?_)
  refine lv_aload_n hx hb dX12_init_186 rfl (lv_at hl 0 rfl) ?_
  refine lv_bipush (v := 12) hx hb dX12_init_187 (by decide) ?_
  refine g_newi (n1 := b + 14) (c1 := 13) (s1 := 1702) C0 hG hS rfl rfl rfl (hT 13 _ rfl) (by decide) (by decide) (Nat.le_of_ble_eq_true rfl) (Nat.le_of_ble_eq_true rfl) (Nat.le_of_ble_eq_true rfl) dX12_init_189 (fun H hG hS => ?_)
  refine pn_X12_50 (q := b) (v := b + 13) C0 hG hS hnm (by omega) (hT 0 _ rfl) dX12_init_191 (fun H locs hG hS => ?_)
  refine lv_aload_n hx hb dX12_init_194 rfl (lv_at hl 0 rfl) ?_
  refine lv_sipush (v := 400) hx hb dX12_init_195 (by decide) ?_
  refine g_newi (n1 := b + 15) (c1 := 14) (s1 := 2102) C0 hG hS rfl rfl rfl (hT 14 _ rfl) (by decide) (by decide) (Nat.le_of_ble_eq_true rfl) (Nat.le_of_ble_eq_true rfl) (Nat.le_of_ble_eq_true rfl) dX12_init_198 (fun H hG hS => ?_)
  refine pn_X12_53 (q := b) (v := b + 14) C0 hG hS hnm (by omega) (hT 0 _ rfl) dX12_init_200 (fun H locs hG hS => ?_)
  refine lv_aload_n hx hb dX12_init_203 rfl (lv_at hl 0 rfl) ?_
  refine lv_bipush (v := 48) hx hb dX12_init_204 (by decide) ?_
  refine g_newi (n1 := b + 16) (c1 := 15) (s1 := 2150) C0 hG hS rfl rfl rfl (hT 15 _ rfl) (by decide) (by decide) (Nat.le_of_ble_eq_true rfl) (Nat.le_of_ble_eq_true rfl) (Nat.le_of_ble_eq_true rfl) dX12_init_206 (fun H hG hS => ?_)
  refine pn_X12_56 (q := b) (v := b + 15) C0 hG hS hnm (by omega) (hT 0 _ rfl) dX12_init_208 (fun H locs hG hS => ?_)
  refine lv_aload_n hx hb dX12_init_211 rfl (lv_at hl 0 rfl) ?_
  refine lv_sipush (v := 4000) hx hb dX12_init_212 (by decide) ?_
  refine g_newi (n1 := b + 17) (c1 := 16) (s1 := 6150) C0 hG hS rfl rfl rfl (hT 16 _ rfl) (by decide) (by decide) (Nat.le_of_ble_eq_true rfl) (Nat.le_of_ble_eq_true rfl) (Nat.le_of_ble_eq_true rfl) dX12_init_215 (fun H hG hS => ?_)
  refine pn_X12_59 (q := b) (v := b + 16) C0 hG hS hnm (by omega) (hT 0 _ rfl) dX12_init_217 (fun H locs hG hS => ?_)
  refine lv_aload_n hx hb dX12_init_220 rfl (lv_at hl 0 rfl) ?_
  refine lv_sipush (v := 4000) hx hb dX12_init_221 (by decide) ?_
  refine g_newi (n1 := b + 18) (c1 := 17) (s1 := 10150) C0 hG hS rfl rfl rfl (hT 17 _ rfl) (by decide) (by decide) (Nat.le_of_ble_eq_true rfl) (Nat.le_of_ble_eq_true rfl) (Nat.le_of_ble_eq_true rfl) dX12_init_224 (fun H hG hS => ?_)
  refine pn_X12_62 (q := b) (v := b + 17) C0 hG hS hnm (by omega) (hT 0 _ rfl) dX12_init_226 (fun H locs hG hS => ?_)
  refine lv_aload_n hx hb dX12_init_229 rfl (lv_at hl 0 rfl) ?_
  refine lv_sipush (v := 4000) hx hb dX12_init_230 (by decide) ?_
  refine g_newi (n1 := b + 19) (c1 := 18) (s1 := 14150) C0 hG hS rfl rfl rfl (hT 18 _ rfl) (by decide) (by decide) (Nat.le_of_ble_eq_true rfl) (Nat.le_of_ble_eq_true rfl) (Nat.le_of_ble_eq_true rfl) dX12_init_233 (fun H hG hS => ?_)
  refine pn_X12_65 (q := b) (v := b + 18) C0 hG hS hnm (by omega) (hT 0 _ rfl) dX12_init_235 (fun H locs hG hS => ?_)
  refine lv_aload_n hx hb dX12_init_238 rfl (lv_at hl 0 rfl) ?_
  refine lv_bipush (v := 61) hx hb dX12_init_239 (by decide) ?_
  refine g_newi (n1 := b + 20) (c1 := 19) (s1 := 14211) C0 hG hS rfl rfl rfl (hT 19 _ rfl) (by decide) (by decide) (Nat.le_of_ble_eq_true rfl) (Nat.le_of_ble_eq_true rfl) (Nat.le_of_ble_eq_true rfl) dX12_init_241 (fun H hG hS => ?_)
  refine pn_X12_68 (q := b) (v := b + 19) C0 hG hS hnm (by omega) (hT 0 _ rfl) dX12_init_243 (fun H locs hG hS => ?_)
  refine lv_aload_n hx hb dX12_init_246 rfl (lv_at hl 0 rfl) ?_
  refine lv_bipush (v := 48) hx hb dX12_init_247 (by decide) ?_
  refine g_newi (n1 := b + 21) (c1 := 20) (s1 := 14259) C0 hG hS rfl rfl rfl (hT 20 _ rfl) (by decide) (by decide) (Nat.le_of_ble_eq_true rfl) (Nat.le_of_ble_eq_true rfl) (Nat.le_of_ble_eq_true rfl) dX12_init_249 (fun H hG hS => ?_)
  refine pn_X12_71 (q := b) (v := b + 20) C0 hG hS hnm (by omega) (hT 0 _ rfl) dX12_init_251 (fun H locs hG hS => ?_)
  refine lv_aload_n hx hb dX12_init_254 rfl (lv_at hl 0 rfl) ?_
  refine lv_bipush (v := 16) hx hb dX12_init_255 (by decide) ?_
  refine g_newi (n1 := b + 22) (c1 := 21) (s1 := 14275) C0 hG hS rfl rfl rfl (hT 21 _ rfl) (by decide) (by decide) (Nat.le_of_ble_eq_true rfl) (Nat.le_of_ble_eq_true rfl) (Nat.le_of_ble_eq_true rfl) dX12_init_257 (fun H hG hS => ?_)
  refine pn_X12_74 (q := b) (v := b + 21) C0 hG hS hnm (by omega) (hT 0 _ rfl) dX12_init_259 (fun H locs hG hS => ?_)
  refine lv_aload_n hx hb dX12_init_262 rfl (lv_at hl 0 rfl) ?_
  refine lv_bipush (v := 12) hx hb dX12_init_263 (by decide) ?_
  refine g_newi (n1 := b + 23) (c1 := 22) (s1 := 14287) C0 hG hS rfl rfl rfl (hT 22 _ rfl) (by decide) (by decide) (Nat.le_of_ble_eq_true rfl) (Nat.le_of_ble_eq_true rfl) (Nat.le_of_ble_eq_true rfl) dX12_init_265 (fun H hG hS => ?_)
  refine pn_X12_77 (q := b) (v := b + 22) C0 hG hS hnm (by omega) (hT 0 _ rfl) dX12_init_267 (fun H locs hG hS => ?_)
  refine lv_aload_n hx hb dX12_init_270 rfl (lv_at hl 0 rfl) ?_
  refine lv_bipush (v := 12) hx hb dX12_init_271 (by decide) ?_
  refine g_newi (n1 := b + 24) (c1 := 23) (s1 := 14299) C0 hG hS rfl rfl rfl (hT 23 _ rfl) (by decide) (by decide) (Nat.le_of_ble_eq_true rfl) (Nat.le_of_ble_eq_true rfl) (Nat.le_of_ble_eq_true rfl) dX12_init_273 (fun H hG hS => ?_)
  refine pn_X12_80 (q := b) (v := b + 23) C0 hG hS hnm (by omega) (hT 0 _ rfl) dX12_init_275 (fun H locs hG hS => ?_)
  refine lv_aload_n hx hb dX12_init_278 rfl (lv_at hl 0 rfl) ?_
  refine lv_bipush (v := 60) hx hb dX12_init_279 (by decide) ?_
  refine g_newi (n1 := b + 25) (c1 := 24) (s1 := 14359) C0 hG hS rfl rfl rfl (hT 24 _ rfl) (by decide) (by decide) (Nat.le_of_ble_eq_true rfl) (Nat.le_of_ble_eq_true rfl) (Nat.le_of_ble_eq_true rfl) dX12_init_281 (fun H hG hS => ?_)
  refine pn_X12_83 (q := b) (v := b + 24) C0 hG hS hnm (by omega) (hT 0 _ rfl) dX12_init_283 (fun H locs hG hS => ?_)
  refine lv_aload_n hx hb dX12_init_286 rfl (lv_at hl 0 rfl) ?_
  refine lv_bipush (v := 60) hx hb dX12_init_287 (by decide) ?_
  refine g_newi (n1 := b + 26) (c1 := 25) (s1 := 14419) C0 hG hS rfl rfl rfl (hT 25 _ rfl) (by decide) (by decide) (Nat.le_of_ble_eq_true rfl) (Nat.le_of_ble_eq_true rfl) (Nat.le_of_ble_eq_true rfl) dX12_init_289 (fun H hG hS => ?_)
  refine pn_X12_86 (q := b) (v := b + 25) C0 hG hS hnm (by omega) (hT 0 _ rfl) dX12_init_291 (fun H locs hG hS => ?_)
  refine lv_aload_n hx hb dX12_init_294 rfl (lv_at hl 0 rfl) ?_
  refine lv_bipush (v := 60) hx hb dX12_init_295 (by decide) ?_
  refine g_newi (n1 := b + 27) (c1 := 26) (s1 := 14479) C0 hG hS rfl rfl rfl (hT 26 _ rfl) (by decide) (by decide) (Nat.le_of_ble_eq_true rfl) (Nat.le_of_ble_eq_true rfl) (Nat.le_of_ble_eq_true rfl) dX12_init_297 (fun H hG hS => ?_)
  refine pn_X12_89 (q := b) (v := b + 26) C0 hG hS hnm (by omega) (hT 0 _ rfl) dX12_init_299 (fun H locs hG hS => ?_)
  refine lv_aload_n hx hb dX12_init_302 rfl (lv_at hl 0 rfl) ?_
  refine lv_bipush (v := 20) hx hb dX12_init_303 (by decide) ?_
  refine g_newi (n1 := b + 28) (c1 := 27) (s1 := 14499) C0 hG hS rfl rfl rfl (hT 27 _ rfl) (by decide) (by decide) (Nat.le_of_ble_eq_true rfl) (Nat.le_of_ble_eq_true rfl) (Nat.le_of_ble_eq_true rfl) dX12_init_305 (fun H hG hS => ?_)
  refine pn_X12_92 (q := b) (v := b + 27) C0 hG hS hnm (by omega) (hT 0 _ rfl) dX12_init_307 (fun H locs hG hS => ?_)
  exact kk H locs hG hS

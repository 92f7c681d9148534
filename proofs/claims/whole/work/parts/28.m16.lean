theorem dX12_restore_0 : decode cX12_restore 0 = .ok (.iload_n 1, 1) := by decide +kernel
theorem dX12_restore_1 : decode cX12_restore 1 = .ok (.iconst 0, 1) := by decide +kernel
theorem dX12_restore_2 : decode cX12_restore 2 = .ok (.iconst 1, 1) := by decide +kernel
theorem dX12_restore_3 : decode cX12_restore 3 = .ok (.invokestatic 81, 3) := by decide +kernel
theorem dX12_restore_6 : decode cX12_restore 6 = .ok (.ifCond .ne 6, 3) := by decide +kernel
theorem dX12_restore_9 : decode cX12_restore 9 = .ok (.bipush (-2), 2) := by decide +kernel
theorem dX12_restore_11 : decode cX12_restore 11 = .ok (.ireturn, 1) := by decide +kernel
theorem dX12_restore_12 : decode cX12_restore 12 = .ok (.aload_n 0, 1) := by decide +kernel
theorem dX12_restore_13 : decode cX12_restore 13 = .ok (.getfield 74, 3) := by decide +kernel
theorem dX12_restore_16 : decode cX12_restore 16 = .ok (.iload_n 1, 1) := by decide +kernel
theorem dX12_restore_17 : decode cX12_restore 17 = .ok (.baload, 1) := by decide +kernel
theorem dX12_restore_18 : decode cX12_restore 18 = .ok (.ifCond .ne 6, 3) := by decide +kernel
theorem dX12_restore_21 : decode cX12_restore 21 = .ok (.bipush (-3), 2) := by decide +kernel
theorem dX12_restore_23 : decode cX12_restore 23 = .ok (.ireturn, 1) := by decide +kernel
theorem dX12_restore_24 : decode cX12_restore 24 = .ok (.sipush 150, 3) := by decide +kernel
theorem dX12_restore_27 : decode cX12_restore 27 = .ok (.iload_n 1, 1) := by decide +kernel
theorem dX12_restore_28 : decode cX12_restore 28 = .ok (.imul, 1) := by decide +kernel
theorem dX12_restore_29 : decode cX12_restore 29 = .ok (.istore_n 2, 1) := by decide +kernel
theorem dX12_restore_30 : decode cX12_restore 30 = .ok (.iconst 0, 1) := by decide +kernel
theorem dX12_restore_31 : decode cX12_restore 31 = .ok (.istore_n 3, 1) := by decide +kernel
theorem dX12_restore_32 : decode cX12_restore 32 = .ok (.iload_n 3, 1) := by decide +kernel
theorem dX12_restore_33 : decode cX12_restore 33 = .ok (.bipush 25, 2) := by decide +kernel
theorem dX12_restore_35 : decode cX12_restore 35 = .ok (.if_icmp .ge 23, 3) := by decide +kernel
theorem dX12_restore_38 : decode cX12_restore 38 = .ok (.aload_n 0, 1) := by decide +kernel
theorem dX12_restore_39 : decode cX12_restore 39 = .ok (.getfield 13, 3) := by decide +kernel
theorem dX12_restore_42 : decode cX12_restore 42 = .ok (.iload_n 3, 1) := by decide +kernel
theorem dX12_restore_43 : decode cX12_restore 43 = .ok (.aload_n 0, 1) := by decide +kernel
theorem dX12_restore_44 : decode cX12_restore 44 = .ok (.getfield 71, 3) := by decide +kernel
theorem dX12_restore_47 : decode cX12_restore 47 = .ok (.iload_n 2, 1) := by decide +kernel
theorem dX12_restore_48 : decode cX12_restore 48 = .ok (.iload_n 3, 1) := by decide +kernel
theorem dX12_restore_49 : decode cX12_restore 49 = .ok (.iadd, 1) := by decide +kernel
theorem dX12_restore_50 : decode cX12_restore 50 = .ok (.iaload, 1) := by decide +kernel
theorem dX12_restore_51 : decode cX12_restore 51 = .ok (.iastore, 1) := by decide +kernel
theorem dX12_restore_52 : decode cX12_restore 52 = .ok (.iinc 3 1, 3) := by decide +kernel
theorem dX12_restore_55 : decode cX12_restore 55 = .ok (.goto (-23), 3) := by decide +kernel
theorem dX12_restore_58 : decode cX12_restore 58 = .ok (.iconst 0, 1) := by decide +kernel
theorem dX12_restore_59 : decode cX12_restore 59 = .ok (.istore_n 3, 1) := by decide +kernel
theorem dX12_restore_60 : decode cX12_restore 60 = .ok (.iload_n 3, 1) := by decide +kernel
theorem dX12_restore_61 : decode cX12_restore 61 = .ok (.bipush 6, 2) := by decide +kernel
theorem dX12_restore_63 : decode cX12_restore 63 = .ok (.if_icmp .ge 111, 3) := by decide +kernel
theorem dX12_restore_66 : decode cX12_restore 66 = .ok (.aload_n 0, 1) := by decide +kernel
theorem dX12_restore_67 : decode cX12_restore 67 = .ok (.getfield 20, 3) := by decide +kernel
theorem dX12_restore_70 : decode cX12_restore 70 = .ok (.iload_n 3, 1) := by decide +kernel
theorem dX12_restore_71 : decode cX12_restore 71 = .ok (.aload_n 0, 1) := by decide +kernel
theorem dX12_restore_72 : decode cX12_restore 72 = .ok (.getfield 71, 3) := by decide +kernel
theorem dX12_restore_75 : decode cX12_restore 75 = .ok (.iload_n 2, 1) := by decide +kernel
theorem dX12_restore_76 : decode cX12_restore 76 = .ok (.bipush 25, 2) := by decide +kernel
theorem dX12_restore_78 : decode cX12_restore 78 = .ok (.iadd, 1) := by decide +kernel
theorem dX12_restore_79 : decode cX12_restore 79 = .ok (.iload_n 3, 1) := by decide +kernel
theorem dX12_restore_80 : decode cX12_restore 80 = .ok (.iadd, 1) := by decide +kernel
theorem dX12_restore_81 : decode cX12_restore 81 = .ok (.iaload, 1) := by decide +kernel
theorem dX12_restore_82 : decode cX12_restore 82 = .ok (.iastore, 1) := by decide +kernel
theorem dX12_restore_83 : decode cX12_restore 83 = .ok (.aload_n 0, 1) := by decide +kernel
theorem dX12_restore_84 : decode cX12_restore 84 = .ok (.getfield 23, 3) := by decide +kernel
theorem dX12_restore_87 : decode cX12_restore 87 = .ok (.iload_n 3, 1) := by decide +kernel
theorem dX12_restore_88 : decode cX12_restore 88 = .ok (.aload_n 0, 1) := by decide +kernel
theorem dX12_restore_89 : decode cX12_restore 89 = .ok (.getfield 71, 3) := by decide +kernel
theorem dX12_restore_92 : decode cX12_restore 92 = .ok (.iload_n 2, 1) := by decide +kernel
theorem dX12_restore_93 : decode cX12_restore 93 = .ok (.bipush 31, 2) := by decide +kernel
theorem dX12_restore_95 : decode cX12_restore 95 = .ok (.iadd, 1) := by decide +kernel
theorem dX12_restore_96 : decode cX12_restore 96 = .ok (.iload_n 3, 1) := by decide +kernel
theorem dX12_restore_97 : decode cX12_restore 97 = .ok (.iadd, 1) := by decide +kernel
theorem dX12_restore_98 : decode cX12_restore 98 = .ok (.iaload, 1) := by decide +kernel
theorem dX12_restore_99 : decode cX12_restore 99 = .ok (.iastore, 1) := by decide +kernel
theorem dX12_restore_100 : decode cX12_restore 100 = .ok (.aload_n 0, 1) := by decide +kernel
theorem dX12_restore_101 : decode cX12_restore 101 = .ok (.getfield 29, 3) := by decide +kernel
theorem dX12_restore_104 : decode cX12_restore 104 = .ok (.iload_n 3, 1) := by decide +kernel
theorem dX12_restore_105 : decode cX12_restore 105 = .ok (.aload_n 0, 1) := by decide +kernel
theorem dX12_restore_106 : decode cX12_restore 106 = .ok (.getfield 71, 3) := by decide +kernel
theorem dX12_restore_109 : decode cX12_restore 109 = .ok (.iload_n 2, 1) := by decide +kernel
theorem dX12_restore_110 : decode cX12_restore 110 = .ok (.bipush 37, 2) := by decide +kernel
theorem dX12_restore_112 : decode cX12_restore 112 = .ok (.iadd, 1) := by decide +kernel
theorem dX12_restore_113 : decode cX12_restore 113 = .ok (.iload_n 3, 1) := by decide +kernel
theorem dX12_restore_114 : decode cX12_restore 114 = .ok (.iadd, 1) := by decide +kernel
theorem dX12_restore_115 : decode cX12_restore 115 = .ok (.iaload, 1) := by decide +kernel
theorem dX12_restore_116 : decode cX12_restore 116 = .ok (.iastore, 1) := by decide +kernel
theorem dX12_restore_117 : decode cX12_restore 117 = .ok (.aload_n 0, 1) := by decide +kernel
theorem dX12_restore_118 : decode cX12_restore 118 = .ok (.getfield 32, 3) := by decide +kernel
theorem dX12_restore_121 : decode cX12_restore 121 = .ok (.iload_n 3, 1) := by decide +kernel
theorem dX12_restore_122 : decode cX12_restore 122 = .ok (.aload_n 0, 1) := by decide +kernel
theorem dX12_restore_123 : decode cX12_restore 123 = .ok (.getfield 71, 3) := by decide +kernel
theorem dX12_restore_126 : decode cX12_restore 126 = .ok (.iload_n 2, 1) := by decide +kernel
theorem dX12_restore_127 : decode cX12_restore 127 = .ok (.bipush 43, 2) := by decide +kernel
theorem dX12_restore_129 : decode cX12_restore 129 = .ok (.iadd, 1) := by decide +kernel
theorem dX12_restore_130 : decode cX12_restore 130 = .ok (.iload_n 3, 1) := by decide +kernel
theorem dX12_restore_131 : decode cX12_restore 131 = .ok (.iadd, 1) := by decide +kernel
theorem dX12_restore_132 : decode cX12_restore 132 = .ok (.iaload, 1) := by decide +kernel
theorem dX12_restore_133 : decode cX12_restore 133 = .ok (.iastore, 1) := by decide +kernel
theorem dX12_restore_134 : decode cX12_restore 134 = .ok (.aload_n 0, 1) := by decide +kernel
theorem dX12_restore_135 : decode cX12_restore 135 = .ok (.getfield 35, 3) := by decide +kernel
theorem dX12_restore_138 : decode cX12_restore 138 = .ok (.iload_n 3, 1) := by decide +kernel
theorem dX12_restore_139 : decode cX12_restore 139 = .ok (.aload_n 0, 1) := by decide +kernel
theorem dX12_restore_140 : decode cX12_restore 140 = .ok (.getfield 71, 3) := by decide +kernel
theorem dX12_restore_143 : decode cX12_restore 143 = .ok (.iload_n 2, 1) := by decide +kernel
theorem dX12_restore_144 : decode cX12_restore 144 = .ok (.bipush 49, 2) := by decide +kernel
theorem dX12_restore_146 : decode cX12_restore 146 = .ok (.iadd, 1) := by decide +kernel
theorem dX12_restore_147 : decode cX12_restore 147 = .ok (.iload_n 3, 1) := by decide +kernel
theorem dX12_restore_148 : decode cX12_restore 148 = .ok (.iadd, 1) := by decide +kernel
theorem dX12_restore_149 : decode cX12_restore 149 = .ok (.iaload, 1) := by decide +kernel
theorem dX12_restore_150 : decode cX12_restore 150 = .ok (.iastore, 1) := by decide +kernel
theorem dX12_restore_151 : decode cX12_restore 151 = .ok (.aload_n 0, 1) := by decide +kernel
theorem dX12_restore_152 : decode cX12_restore 152 = .ok (.getfield 38, 3) := by decide +kernel
theorem dX12_restore_155 : decode cX12_restore 155 = .ok (.iload_n 3, 1) := by decide +kernel
theorem dX12_restore_156 : decode cX12_restore 156 = .ok (.aload_n 0, 1) := by decide +kernel
theorem dX12_restore_157 : decode cX12_restore 157 = .ok (.getfield 71, 3) := by decide +kernel
theorem dX12_restore_160 : decode cX12_restore 160 = .ok (.iload_n 2, 1) := by decide +kernel
theorem dX12_restore_161 : decode cX12_restore 161 = .ok (.bipush 55, 2) := by decide +kernel
theorem dX12_restore_163 : decode cX12_restore 163 = .ok (.iadd, 1) := by decide +kernel
theorem dX12_restore_164 : decode cX12_restore 164 = .ok (.iload_n 3, 1) := by decide +kernel
theorem dX12_restore_165 : decode cX12_restore 165 = .ok (.iadd, 1) := by decide +kernel
theorem dX12_restore_166 : decode cX12_restore 166 = .ok (.iaload, 1) := by decide +kernel
theorem dX12_restore_167 : decode cX12_restore 167 = .ok (.iastore, 1) := by decide +kernel
theorem dX12_restore_168 : decode cX12_restore 168 = .ok (.iinc 3 1, 3) := by decide +kernel
theorem dX12_restore_171 : decode cX12_restore 171 = .ok (.goto (-111), 3) := by decide +kernel
theorem dX12_restore_174 : decode cX12_restore 174 = .ok (.iconst 0, 1) := by decide +kernel
theorem dX12_restore_175 : decode cX12_restore 175 = .ok (.istore_n 3, 1) := by decide +kernel
theorem dX12_restore_176 : decode cX12_restore 176 = .ok (.iload_n 3, 1) := by decide +kernel
theorem dX12_restore_177 : decode cX12_restore 177 = .ok (.bipush 48, 2) := by decide +kernel
theorem dX12_restore_179 : decode cX12_restore 179 = .ok (.if_icmp .ge 26, 3) := by decide +kernel
theorem dX12_restore_182 : decode cX12_restore 182 = .ok (.aload_n 0, 1) := by decide +kernel
theorem dX12_restore_183 : decode cX12_restore 183 = .ok (.getfield 41, 3) := by decide +kernel
theorem dX12_restore_186 : decode cX12_restore 186 = .ok (.iload_n 3, 1) := by decide +kernel
theorem dX12_restore_187 : decode cX12_restore 187 = .ok (.aload_n 0, 1) := by decide +kernel
theorem dX12_restore_188 : decode cX12_restore 188 = .ok (.getfield 71, 3) := by decide +kernel
theorem dX12_restore_191 : decode cX12_restore 191 = .ok (.iload_n 2, 1) := by decide +kernel
theorem dX12_restore_192 : decode cX12_restore 192 = .ok (.bipush 61, 2) := by decide +kernel
theorem dX12_restore_194 : decode cX12_restore 194 = .ok (.iadd, 1) := by decide +kernel
theorem dX12_restore_195 : decode cX12_restore 195 = .ok (.iload_n 3, 1) := by decide +kernel
theorem dX12_restore_196 : decode cX12_restore 196 = .ok (.iadd, 1) := by decide +kernel
theorem dX12_restore_197 : decode cX12_restore 197 = .ok (.iaload, 1) := by decide +kernel
theorem dX12_restore_198 : decode cX12_restore 198 = .ok (.iastore, 1) := by decide +kernel
theorem dX12_restore_199 : decode cX12_restore 199 = .ok (.iinc 3 1, 3) := by decide +kernel
theorem dX12_restore_202 : decode cX12_restore 202 = .ok (.goto (-26), 3) := by decide +kernel
theorem dX12_restore_205 : decode cX12_restore 205 = .ok (.iconst 0, 1) := by decide +kernel
theorem dX12_restore_206 : decode cX12_restore 206 = .ok (.istore_n 3, 1) := by decide +kernel
theorem dX12_restore_207 : decode cX12_restore 207 = .ok (.iload_n 3, 1) := by decide +kernel
theorem dX12_restore_208 : decode cX12_restore 208 = .ok (.bipush 12, 2) := by decide +kernel
theorem dX12_restore_210 : decode cX12_restore 210 = .ok (.if_icmp .ge 26, 3) := by decide +kernel
theorem dX12_restore_213 : decode cX12_restore 213 = .ok (.aload_n 0, 1) := by decide +kernel
theorem dX12_restore_214 : decode cX12_restore 214 = .ok (.getfield 26, 3) := by decide +kernel
theorem dX12_restore_217 : decode cX12_restore 217 = .ok (.iload_n 3, 1) := by decide +kernel
theorem dX12_restore_218 : decode cX12_restore 218 = .ok (.aload_n 0, 1) := by decide +kernel
theorem dX12_restore_219 : decode cX12_restore 219 = .ok (.getfield 71, 3) := by decide +kernel
theorem dX12_restore_222 : decode cX12_restore 222 = .ok (.iload_n 2, 1) := by decide +kernel
theorem dX12_restore_223 : decode cX12_restore 223 = .ok (.bipush 109, 2) := by decide +kernel
theorem dX12_restore_225 : decode cX12_restore 225 = .ok (.iadd, 1) := by decide +kernel
theorem dX12_restore_226 : decode cX12_restore 226 = .ok (.iload_n 3, 1) := by decide +kernel
theorem dX12_restore_227 : decode cX12_restore 227 = .ok (.iadd, 1) := by decide +kernel
theorem dX12_restore_228 : decode cX12_restore 228 = .ok (.iaload, 1) := by decide +kernel
theorem dX12_restore_229 : decode cX12_restore 229 = .ok (.iastore, 1) := by decide +kernel
theorem dX12_restore_230 : decode cX12_restore 230 = .ok (.iinc 3 1, 3) := by decide +kernel
theorem dX12_restore_233 : decode cX12_restore 233 = .ok (.goto (-26), 3) := by decide +kernel
theorem dX12_restore_236 : decode cX12_restore 236 = .ok (.aload_n 0, 1) := by decide +kernel
theorem dX12_restore_237 : decode cX12_restore 237 = .ok (.aload_n 0, 1) := by decide +kernel
theorem dX12_restore_238 : decode cX12_restore 238 = .ok (.getfield 71, 3) := by decide +kernel
theorem dX12_restore_241 : decode cX12_restore 241 = .ok (.iload_n 2, 1) := by decide +kernel
theorem dX12_restore_242 : decode cX12_restore 242 = .ok (.bipush 121, 2) := by decide +kernel
theorem dX12_restore_244 : decode cX12_restore 244 = .ok (.iadd, 1) := by decide +kernel
theorem dX12_restore_245 : decode cX12_restore 245 = .ok (.iaload, 1) := by decide +kernel
theorem dX12_restore_246 : decode cX12_restore 246 = .ok (.putfield 7, 3) := by decide +kernel
theorem dX12_restore_249 : decode cX12_restore 249 = .ok (.aload_n 0, 1) := by decide +kernel
theorem dX12_restore_250 : decode cX12_restore 250 = .ok (.aload_n 0, 1) := by decide +kernel
theorem dX12_restore_251 : decode cX12_restore 251 = .ok (.getfield 71, 3) := by decide +kernel
theorem dX12_restore_254 : decode cX12_restore 254 = .ok (.iload_n 2, 1) := by decide +kernel
theorem dX12_restore_255 : decode cX12_restore 255 = .ok (.bipush 122, 2) := by decide +kernel
theorem dX12_restore_257 : decode cX12_restore 257 = .ok (.iadd, 1) := by decide +kernel
theorem dX12_restore_258 : decode cX12_restore 258 = .ok (.iaload, 1) := by decide +kernel
theorem dX12_restore_259 : decode cX12_restore 259 = .ok (.putfield 17, 3) := by decide +kernel
theorem dX12_restore_262 : decode cX12_restore 262 = .ok (.aload_n 0, 1) := by decide +kernel
theorem dX12_restore_263 : decode cX12_restore 263 = .ok (.aload_n 0, 1) := by decide +kernel
theorem dX12_restore_264 : decode cX12_restore 264 = .ok (.getfield 71, 3) := by decide +kernel
theorem dX12_restore_267 : decode cX12_restore 267 = .ok (.iload_n 2, 1) := by decide +kernel
theorem dX12_restore_268 : decode cX12_restore 268 = .ok (.bipush 123, 2) := by decide +kernel
theorem dX12_restore_270 : decode cX12_restore 270 = .ok (.iadd, 1) := by decide +kernel
theorem dX12_restore_271 : decode cX12_restore 271 = .ok (.iaload, 1) := by decide +kernel
theorem dX12_restore_272 : decode cX12_restore 272 = .ok (.putfield 78, 3) := by decide +kernel
theorem dX12_restore_275 : decode cX12_restore 275 = .ok (.aload_n 0, 1) := by decide +kernel
theorem dX12_restore_276 : decode cX12_restore 276 = .ok (.aload_n 0, 1) := by decide +kernel
theorem dX12_restore_277 : decode cX12_restore 277 = .ok (.getfield 71, 3) := by decide +kernel
theorem dX12_restore_280 : decode cX12_restore 280 = .ok (.iload_n 2, 1) := by decide +kernel
theorem dX12_restore_281 : decode cX12_restore 281 = .ok (.bipush 124, 2) := by decide +kernel
theorem dX12_restore_283 : decode cX12_restore 283 = .ok (.iadd, 1) := by decide +kernel
theorem dX12_restore_284 : decode cX12_restore 284 = .ok (.iaload, 1) := by decide +kernel
theorem dX12_restore_285 : decode cX12_restore 285 = .ok (.putfield 89, 3) := by decide +kernel
theorem dX12_restore_288 : decode cX12_restore 288 = .ok (.aload_n 0, 1) := by decide +kernel
theorem dX12_restore_289 : decode cX12_restore 289 = .ok (.aload_n 0, 1) := by decide +kernel
theorem dX12_restore_290 : decode cX12_restore 290 = .ok (.getfield 71, 3) := by decide +kernel
theorem dX12_restore_293 : decode cX12_restore 293 = .ok (.iload_n 2, 1) := by decide +kernel
theorem dX12_restore_294 : decode cX12_restore 294 = .ok (.bipush 125, 2) := by decide +kernel
theorem dX12_restore_296 : decode cX12_restore 296 = .ok (.iadd, 1) := by decide +kernel
theorem dX12_restore_297 : decode cX12_restore 297 = .ok (.iaload, 1) := by decide +kernel
theorem dX12_restore_298 : decode cX12_restore 298 = .ok (.putfield 92, 3) := by decide +kernel
theorem dX12_restore_301 : decode cX12_restore 301 = .ok (.aload_n 0, 1) := by decide +kernel
theorem dX12_restore_302 : decode cX12_restore 302 = .ok (.aload_n 0, 1) := by decide +kernel
theorem dX12_restore_303 : decode cX12_restore 303 = .ok (.getfield 71, 3) := by decide +kernel
theorem dX12_restore_306 : decode cX12_restore 306 = .ok (.iload_n 2, 1) := by decide +kernel
theorem dX12_restore_307 : decode cX12_restore 307 = .ok (.bipush 126, 2) := by decide +kernel
theorem dX12_restore_309 : decode cX12_restore 309 = .ok (.iadd, 1) := by decide +kernel
theorem dX12_restore_310 : decode cX12_restore 310 = .ok (.iaload, 1) := by decide +kernel
theorem dX12_restore_311 : decode cX12_restore 311 = .ok (.putfield 95, 3) := by decide +kernel
theorem dX12_restore_314 : decode cX12_restore 314 = .ok (.iconst 1, 1) := by decide +kernel
theorem dX12_restore_315 : decode cX12_restore 315 = .ok (.ireturn, 1) := by decide +kernel
noncomputable def s_X12_restore_32 (a0 : Nat) (v4 : Int32) (M5 : Me) (v6 : Int32) : Option ((Me × Int32) ⊕ (Me × Int32)) :=
  if (25 : Int32) ≤ v6 then (
    some (Sum.inr (M5, v6))
  ) else (
    gr M5 a0 12 1 fun o7 =>
    gr M5 a0 12 30 fun o8 =>
    li M5 o8 (v4 + v6) fun v9 =>
    si M5 o7 v6 v9 fun M10 =>
    let_v (v6 + (1 : Int32)) fun v11 =>
    some (Sum.inl (M10, v11))
  )
noncomputable def s_X12_restore_60 (a0 : Nat) (v4 : Int32) (M13 : Me) (v14 : Int32) : Option ((Me × Int32) ⊕ (Me × Int32)) :=
  if (6 : Int32) ≤ v14 then (
    some (Sum.inr (M13, v14))
  ) else (
    gr M13 a0 12 4 fun o15 =>
    gr M13 a0 12 30 fun o16 =>
    li M13 o16 ((v4 + (25 : Int32)) + v14) fun v17 =>
    si M13 o15 v14 v17 fun M18 =>
    gr M18 a0 12 5 fun o19 =>
    gr M18 a0 12 30 fun o20 =>
    li M18 o20 ((v4 + (31 : Int32)) + v14) fun v21 =>
    si M18 o19 v14 v21 fun M22 =>
    gr M22 a0 12 9 fun o23 =>
    gr M22 a0 12 30 fun o24 =>
    li M22 o24 ((v4 + (37 : Int32)) + v14) fun v25 =>
    si M22 o23 v14 v25 fun M26 =>
    gr M26 a0 12 10 fun o27 =>
    gr M26 a0 12 30 fun o28 =>
    li M26 o28 ((v4 + (43 : Int32)) + v14) fun v29 =>
    si M26 o27 v14 v29 fun M30 =>
    gr M30 a0 12 11 fun o31 =>
    gr M30 a0 12 30 fun o32 =>
    li M30 o32 ((v4 + (49 : Int32)) + v14) fun v33 =>
    si M30 o31 v14 v33 fun M34 =>
    gr M34 a0 12 12 fun o35 =>
    gr M34 a0 12 30 fun o36 =>
    li M34 o36 ((v4 + (55 : Int32)) + v14) fun v37 =>
    si M34 o35 v14 v37 fun M38 =>
    let_v (v14 + (1 : Int32)) fun v39 =>
    some (Sum.inl (M38, v39))
  )
noncomputable def s_X12_restore_176 (a0 : Nat) (v4 : Int32) (M41 : Me) (v42 : Int32) : Option ((Me × Int32) ⊕ (Me × Int32)) :=
  if (48 : Int32) ≤ v42 then (
    some (Sum.inr (M41, v42))
  ) else (
    gr M41 a0 12 14 fun o43 =>
    gr M41 a0 12 30 fun o44 =>
    li M41 o44 ((v4 + (61 : Int32)) + v42) fun v45 =>
    si M41 o43 v42 v45 fun M46 =>
    let_v (v42 + (1 : Int32)) fun v47 =>
    some (Sum.inl (M46, v47))
  )
noncomputable def s_X12_restore_207 (a0 : Nat) (v4 : Int32) (M49 : Me) (v50 : Int32) : Option ((Me × Int32) ⊕ (Me × Int32)) :=
  if (12 : Int32) ≤ v50 then (
    some (Sum.inr (M49, v50))
  ) else (
    gr M49 a0 12 7 fun o51 =>
    gr M49 a0 12 30 fun o52 =>
    li M49 o52 ((v4 + (109 : Int32)) + v50) fun v53 =>
    si M49 o51 v50 v53 fun M54 =>
    let_v (v50 + (1 : Int32)) fun v55 =>
    some (Sum.inl (M54, v55))
  )
noncomputable def b_X12_restore (a0 : Nat) (x1 : Int32) (M : Me) : Option (Int32 × Me) :=
  cP (f_X12_in x1 (0 : Int32) (1 : Int32) M) fun v1 =>
  if v1 = 0 then (
    some ((-2 : Int32), M)
  ) else (
    gr M a0 12 31 fun o2 =>
    lz M o2 x1 fun v3 =>
    if v3 = 0 then (
      some ((-3 : Int32), M)
    ) else (
      let_v (((150 : Int32) * x1)) fun v4 =>
      (lp (fun s => s_X12_restore_32 a0 v4 s.1 s.2) (M, (0 : Int32))).bind fun e12 =>
      (lp (fun s => s_X12_restore_60 a0 v4 s.1 s.2) (e12.1, (0 : Int32))).bind fun e40 =>
      (lp (fun s => s_X12_restore_176 a0 v4 s.1 s.2) (e40.1, (0 : Int32))).bind fun e48 =>
      (lp (fun s => s_X12_restore_207 a0 v4 s.1 s.2) (e48.1, (0 : Int32))).bind fun e56 =>
      gr e56.1 a0 12 30 fun o57 =>
      li e56.1 o57 (v4 + (121 : Int32)) fun v58 =>
      pi e56.1 a0 12 0 v58 fun M59 =>
      gr M59 a0 12 30 fun o60 =>
      li M59 o60 (v4 + (122 : Int32)) fun v61 =>
      pi M59 a0 12 2 v61 fun M62 =>
      gr M62 a0 12 30 fun o63 =>
      li M62 o63 (v4 + (123 : Int32)) fun v64 =>
      pi M62 a0 12 3 v64 fun M65 =>
      gr M65 a0 12 30 fun o66 =>
      li M65 o66 (v4 + (124 : Int32)) fun v67 =>
      pi M65 a0 12 6 v67 fun M68 =>
      gr M68 a0 12 30 fun o69 =>
      li M68 o69 (v4 + (125 : Int32)) fun v70 =>
      pi M68 a0 12 8 v70 fun M71 =>
      gr M71 a0 12 30 fun o72 =>
      li M71 o72 (v4 + (126 : Int32)) fun v73 =>
      pi M71 a0 12 13 v73 fun M74 =>
      some ((1 : Int32), M74)
    )
  )
noncomputable def f_X12_restore (a0 : Nat) (x1 : Int32) (M : Me) : Option (Int32 × Me) := ck M a0 12 (b_X12_restore a0 x1 M)
set_option maxRecDepth 20000 in
theorem vb_X12_restore (d : Nat) (hd : 1 ≤ d) (a0 : Nat) (x1 : Int32) (M : Me) : V (mX12_restore, d, 0, 0) (0, 0) M 0 [some (.ref a0), some (.int x1), none, none] [] (b_X12_restore a0 x1 M) (fun z => some (some (.int z.1), z.2)) := by
  unfold b_X12_restore
  refine v_iload_n (q := 1) dX12_restore_0 rfl rfl rfl ?_
  refine v_iconst (q := 2) dX12_restore_1 rfl ic_0 ?_
  refine v_iconst (q := 3) dX12_restore_2 rfl ic_1 ?_
  refine v_cPS3 (q := 6) (ct_X12_in (d - 1) (by omega) _ _ _ _) dX12_restore_3 rfl cc_X12_81 (by omega) (Nat.le_of_ble_eq_true rfl) ⟨Nat.le_of_ble_eq_true rfl, Nat.le_of_ble_eq_true rfl⟩ (fun v1 => ?_)
  refine v_if_ne (tgt := 12) (q := 9) dX12_restore_6 rfl rfl ?_ ?_
  · refine v_aload_n (q := 13) dX12_restore_12 rfl rfl rfl ?_
    refine v_getRb (q := 16) dX12_restore_13 rfl fg_X12_74 (fun o2 => ?_)
    refine v_iload_n (q := 17) dX12_restore_16 rfl rfl rfl ?_
    refine v_baload (q := 18) dX12_restore_17 rfl (fun v3 => ?_)
    refine v_if_ne (tgt := 24) (q := 21) dX12_restore_18 rfl rfl ?_ ?_
    · refine v_sipush (q := 27) dX12_restore_24 rfl sp_150 ?_
      refine v_iload_n (q := 28) dX12_restore_27 rfl rfl rfl ?_
      refine v_imul (q := 29) dX12_restore_28 rfl ?_
      refine v_letI (fun v4 => ?_)
      refine v_istore_n (q := 30) (loc2 := [some (.ref a0), some (.int x1), some (.int v4), none]) dX12_restore_29 rfl rfl rfl (Nat.le_of_ble_eq_true rfl) rfl ?_
      refine v_iconst (q := 31) dX12_restore_30 rfl ic_0 ?_
      refine v_istore_n (q := 32) (loc2 := [some (.ref a0), some (.int x1), some (.int v4), some (.int (0 : Int32))]) dX12_restore_31 rfl rfl rfl (Nat.le_of_ble_eq_true rfl) rfl ?_
      refine v_lps (S := Me × Int32) 58 (fun s => s.1) (fun s => [some (.ref a0), some (.int x1), some (.int v4), some (.int s.2)]) (fun e12 => e12.1) (fun e12 => [some (.ref a0), some (.int x1), some (.int v4), some (.int e12.2)]) (fun e12 => ?_) (fun k K hk hx s => ?_)
      · refine v_iconst (q := 59) dX12_restore_58 rfl ic_0 ?_
        refine v_istore_n (q := 60) (loc2 := [some (.ref a0), some (.int x1), some (.int v4), some (.int (0 : Int32))]) dX12_restore_59 rfl rfl rfl (Nat.le_of_ble_eq_true rfl) rfl ?_
        refine v_lps (S := Me × Int32) 174 (fun s => s.1) (fun s => [some (.ref a0), some (.int x1), some (.int v4), some (.int s.2)]) (fun e40 => e40.1) (fun e40 => [some (.ref a0), some (.int x1), some (.int v4), some (.int e40.2)]) (fun e40 => ?_) (fun k K hk hx s => ?_)
        · refine v_iconst (q := 175) dX12_restore_174 rfl ic_0 ?_
          refine v_istore_n (q := 176) (loc2 := [some (.ref a0), some (.int x1), some (.int v4), some (.int (0 : Int32))]) dX12_restore_175 rfl rfl rfl (Nat.le_of_ble_eq_true rfl) rfl ?_
          refine v_lps (S := Me × Int32) 205 (fun s => s.1) (fun s => [some (.ref a0), some (.int x1), some (.int v4), some (.int s.2)]) (fun e48 => e48.1) (fun e48 => [some (.ref a0), some (.int x1), some (.int v4), some (.int e48.2)]) (fun e48 => ?_) (fun k K hk hx s => ?_)
          · refine v_iconst (q := 206) dX12_restore_205 rfl ic_0 ?_
            refine v_istore_n (q := 207) (loc2 := [some (.ref a0), some (.int x1), some (.int v4), some (.int (0 : Int32))]) dX12_restore_206 rfl rfl rfl (Nat.le_of_ble_eq_true rfl) rfl ?_
            refine v_lps (S := Me × Int32) 236 (fun s => s.1) (fun s => [some (.ref a0), some (.int x1), some (.int v4), some (.int s.2)]) (fun e56 => e56.1) (fun e56 => [some (.ref a0), some (.int x1), some (.int v4), some (.int e56.2)]) (fun e56 => ?_) (fun k K hk hx s => ?_)
            · refine v_aload_n (q := 237) dX12_restore_236 rfl rfl rfl ?_
              refine v_aload_n (q := 238) dX12_restore_237 rfl rfl rfl ?_
              refine v_getRb (q := 241) dX12_restore_238 rfl fg_X12_71 (fun o57 => ?_)
              refine v_iload_n (q := 242) dX12_restore_241 rfl rfl rfl ?_
              refine v_bipush (q := 244) dX12_restore_242 rfl bp_121 ?_
              refine v_iadd (q := 245) dX12_restore_244 rfl ?_
              refine v_iaload (q := 246) dX12_restore_245 rfl (fun v58 => ?_)
              refine v_putIb (q := 249) dX12_restore_246 rfl fp_X12_7 (fun M59 => ?_)
              refine v_aload_n (q := 250) dX12_restore_249 rfl rfl rfl ?_
              refine v_aload_n (q := 251) dX12_restore_250 rfl rfl rfl ?_
              refine v_getRb (q := 254) dX12_restore_251 rfl fg_X12_71 (fun o60 => ?_)
              refine v_iload_n (q := 255) dX12_restore_254 rfl rfl rfl ?_
              refine v_bipush (q := 257) dX12_restore_255 rfl bp_122 ?_
              refine v_iadd (q := 258) dX12_restore_257 rfl ?_
              refine v_iaload (q := 259) dX12_restore_258 rfl (fun v61 => ?_)
              refine v_putIb (q := 262) dX12_restore_259 rfl fp_X12_17 (fun M62 => ?_)
              refine v_aload_n (q := 263) dX12_restore_262 rfl rfl rfl ?_
              refine v_aload_n (q := 264) dX12_restore_263 rfl rfl rfl ?_
              refine v_getRb (q := 267) dX12_restore_264 rfl fg_X12_71 (fun o63 => ?_)
              refine v_iload_n (q := 268) dX12_restore_267 rfl rfl rfl ?_
              refine v_bipush (q := 270) dX12_restore_268 rfl bp_123 ?_
              refine v_iadd (q := 271) dX12_restore_270 rfl ?_
              refine v_iaload (q := 272) dX12_restore_271 rfl (fun v64 => ?_)
              refine v_putIb (q := 275) dX12_restore_272 rfl fp_X12_78 (fun M65 => ?_)
              refine v_aload_n (q := 276) dX12_restore_275 rfl rfl rfl ?_
              refine v_aload_n (q := 277) dX12_restore_276 rfl rfl rfl ?_
              refine v_getRb (q := 280) dX12_restore_277 rfl fg_X12_71 (fun o66 => ?_)
              refine v_iload_n (q := 281) dX12_restore_280 rfl rfl rfl ?_
              refine v_bipush (q := 283) dX12_restore_281 rfl bp_124 ?_
              refine v_iadd (q := 284) dX12_restore_283 rfl ?_
              refine v_iaload (q := 285) dX12_restore_284 rfl (fun v67 => ?_)
              refine v_putIb (q := 288) dX12_restore_285 rfl fp_X12_89 (fun M68 => ?_)
              refine v_aload_n (q := 289) dX12_restore_288 rfl rfl rfl ?_
              refine v_aload_n (q := 290) dX12_restore_289 rfl rfl rfl ?_
              refine v_getRb (q := 293) dX12_restore_290 rfl fg_X12_71 (fun o69 => ?_)
              refine v_iload_n (q := 294) dX12_restore_293 rfl rfl rfl ?_
              refine v_bipush (q := 296) dX12_restore_294 rfl bp_125 ?_
              refine v_iadd (q := 297) dX12_restore_296 rfl ?_
              refine v_iaload (q := 298) dX12_restore_297 rfl (fun v70 => ?_)
              refine v_putIb (q := 301) dX12_restore_298 rfl fp_X12_92 (fun M71 => ?_)
              refine v_aload_n (q := 302) dX12_restore_301 rfl rfl rfl ?_
              refine v_aload_n (q := 303) dX12_restore_302 rfl rfl rfl ?_
              refine v_getRb (q := 306) dX12_restore_303 rfl fg_X12_71 (fun o72 => ?_)
              refine v_iload_n (q := 307) dX12_restore_306 rfl rfl rfl ?_
              refine v_bipush (q := 309) dX12_restore_307 rfl bp_126 ?_
              refine v_iadd (q := 310) dX12_restore_309 rfl ?_
              refine v_iaload (q := 311) dX12_restore_310 rfl (fun v73 => ?_)
              refine v_putIb (q := 314) dX12_restore_311 rfl fp_X12_95 (fun M74 => ?_)
              refine v_iconst (q := 315) dX12_restore_314 rfl ic_1 ?_
              exact v_iret rfl dX12_restore_315 ⟨Nat.le_of_ble_eq_true rfl, Nat.le_of_ble_eq_true rfl⟩ rfl
            · obtain ⟨M49, v50⟩ := s
              show V _ _ M49 207 [some (.ref a0), some (.int x1), some (.int v4), some (.int v50)] [] (s_X12_restore_207 a0 v4 M49 v50) _
              unfold s_X12_restore_207
              refine v_iload_n (q := 208) dX12_restore_207 rfl rfl rfl ?_
              refine v_bipush (q := 210) dX12_restore_208 rfl bp_12 ?_
              refine v_icmp_ge (tgt := 236) (q := 213) dX12_restore_210 rfl rfl ?_ ?_
              · exact v_inr (hx (M49, v50))
              · refine v_aload_n (q := 214) dX12_restore_213 rfl rfl rfl ?_
                refine v_getRb (q := 217) dX12_restore_214 rfl fg_X12_26 (fun o51 => ?_)
                refine v_iload_n (q := 218) dX12_restore_217 rfl rfl rfl ?_
                refine v_aload_n (q := 219) dX12_restore_218 rfl rfl rfl ?_
                refine v_getRb (q := 222) dX12_restore_219 rfl fg_X12_71 (fun o52 => ?_)
                refine v_iload_n (q := 223) dX12_restore_222 rfl rfl rfl ?_
                refine v_bipush (q := 225) dX12_restore_223 rfl bp_109 ?_
                refine v_iadd (q := 226) dX12_restore_225 rfl ?_
                refine v_iload_n (q := 227) dX12_restore_226 rfl rfl rfl ?_
                refine v_iadd (q := 228) dX12_restore_227 rfl ?_
                refine v_iaload (q := 229) dX12_restore_228 rfl (fun v53 => ?_)
                refine v_iastore (q := 230) dX12_restore_229 rfl (fun M54 => ?_)
                refine v_iincL (q := 233) (x := v50) (cst := (1 : Int32)) (f := fun v55 => [some (.ref a0), some (.int x1), some (.int v4), some (.int v55)]) dX12_restore_230 rfl rfl ic_1 rfl (Nat.le_of_ble_eq_true rfl) (fun _ => rfl) (fun v55 => ?_)
                refine v_goto (tgt := 207) dX12_restore_233 rfl ?_
                exact v_inl (hk (M54, v55))
          · obtain ⟨M41, v42⟩ := s
            show V _ _ M41 176 [some (.ref a0), some (.int x1), some (.int v4), some (.int v42)] [] (s_X12_restore_176 a0 v4 M41 v42) _
            unfold s_X12_restore_176
            refine v_iload_n (q := 177) dX12_restore_176 rfl rfl rfl ?_
            refine v_bipush (q := 179) dX12_restore_177 rfl bp_48 ?_
            refine v_icmp_ge (tgt := 205) (q := 182) dX12_restore_179 rfl rfl ?_ ?_
            · exact v_inr (hx (M41, v42))
            · refine v_aload_n (q := 183) dX12_restore_182 rfl rfl rfl ?_
              refine v_getRb (q := 186) dX12_restore_183 rfl fg_X12_41 (fun o43 => ?_)
              refine v_iload_n (q := 187) dX12_restore_186 rfl rfl rfl ?_
              refine v_aload_n (q := 188) dX12_restore_187 rfl rfl rfl ?_
              refine v_getRb (q := 191) dX12_restore_188 rfl fg_X12_71 (fun o44 => ?_)
              refine v_iload_n (q := 192) dX12_restore_191 rfl rfl rfl ?_
              refine v_bipush (q := 194) dX12_restore_192 rfl bp_61 ?_
              refine v_iadd (q := 195) dX12_restore_194 rfl ?_
              refine v_iload_n (q := 196) dX12_restore_195 rfl rfl rfl ?_
              refine v_iadd (q := 197) dX12_restore_196 rfl ?_
              refine v_iaload (q := 198) dX12_restore_197 rfl (fun v45 => ?_)
              refine v_iastore (q := 199) dX12_restore_198 rfl (fun M46 => ?_)
              refine v_iincL (q := 202) (x := v42) (cst := (1 : Int32)) (f := fun v47 => [some (.ref a0), some (.int x1), some (.int v4), some (.int v47)]) dX12_restore_199 rfl rfl ic_1 rfl (Nat.le_of_ble_eq_true rfl) (fun _ => rfl) (fun v47 => ?_)
              refine v_goto (tgt := 176) dX12_restore_202 rfl ?_
              exact v_inl (hk (M46, v47))
        · obtain ⟨M13, v14⟩ := s
          show V _ _ M13 60 [some (.ref a0), some (.int x1), some (.int v4), some (.int v14)] [] (s_X12_restore_60 a0 v4 M13 v14) _
          unfold s_X12_restore_60
          refine v_iload_n (q := 61) dX12_restore_60 rfl rfl rfl ?_
          refine v_bipush (q := 63) dX12_restore_61 rfl bp_6 ?_
          refine v_icmp_ge (tgt := 174) (q := 66) dX12_restore_63 rfl rfl ?_ ?_
          · exact v_inr (hx (M13, v14))
          · refine v_aload_n (q := 67) dX12_restore_66 rfl rfl rfl ?_
            refine v_getRb (q := 70) dX12_restore_67 rfl fg_X12_20 (fun o15 => ?_)
            refine v_iload_n (q := 71) dX12_restore_70 rfl rfl rfl ?_
            refine v_aload_n (q := 72) dX12_restore_71 rfl rfl rfl ?_
            refine v_getRb (q := 75) dX12_restore_72 rfl fg_X12_71 (fun o16 => ?_)
            refine v_iload_n (q := 76) dX12_restore_75 rfl rfl rfl ?_
            refine v_bipush (q := 78) dX12_restore_76 rfl bp_25 ?_
            refine v_iadd (q := 79) dX12_restore_78 rfl ?_
            refine v_iload_n (q := 80) dX12_restore_79 rfl rfl rfl ?_
            refine v_iadd (q := 81) dX12_restore_80 rfl ?_
            refine v_iaload (q := 82) dX12_restore_81 rfl (fun v17 => ?_)
            refine v_iastore (q := 83) dX12_restore_82 rfl (fun M18 => ?_)
            refine v_aload_n (q := 84) dX12_restore_83 rfl rfl rfl ?_
            refine v_getRb (q := 87) dX12_restore_84 rfl fg_X12_23 (fun o19 => ?_)
            refine v_iload_n (q := 88) dX12_restore_87 rfl rfl rfl ?_
            refine v_aload_n (q := 89) dX12_restore_88 rfl rfl rfl ?_
            refine v_getRb (q := 92) dX12_restore_89 rfl fg_X12_71 (fun o20 => ?_)
            refine v_iload_n (q := 93) dX12_restore_92 rfl rfl rfl ?_
            refine v_bipush (q := 95) dX12_restore_93 rfl bp_31 ?_
            refine v_iadd (q := 96) dX12_restore_95 rfl ?_
            refine v_iload_n (q := 97) dX12_restore_96 rfl rfl rfl ?_
            refine v_iadd (q := 98) dX12_restore_97 rfl ?_
            refine v_iaload (q := 99) dX12_restore_98 rfl (fun v21 => ?_)
            refine v_iastore (q := 100) dX12_restore_99 rfl (fun M22 => ?_)
            refine v_aload_n (q := 101) dX12_restore_100 rfl rfl rfl ?_
            refine v_getRb (q := 104) dX12_restore_101 rfl fg_X12_29 (fun o23 => ?_)
            refine v_iload_n (q := 105) dX12_restore_104 rfl rfl rfl ?_
            refine v_aload_n (q := 106) dX12_restore_105 rfl rfl rfl ?_
            refine v_getRb (q := 109) dX12_restore_106 rfl fg_X12_71 (fun o24 => ?_)
            refine v_iload_n (q := 110) dX12_restore_109 rfl rfl rfl ?_
            refine v_bipush (q := 112) dX12_restore_110 rfl bp_37 ?_
            refine v_iadd (q := 113) dX12_restore_112 rfl ?_
            refine v_iload_n (q := 114) dX12_restore_113 rfl rfl rfl ?_
            refine v_iadd (q := 115) dX12_restore_114 rfl ?_
            refine v_iaload (q := 116) dX12_restore_115 rfl (fun v25 => ?_)
            refine v_iastore (q := 117) dX12_restore_116 rfl (fun M26 => ?_)
            refine v_aload_n (q := 118) dX12_restore_117 rfl rfl rfl ?_
            refine v_getRb (q := 121) dX12_restore_118 rfl fg_X12_32 (fun o27 => ?_)
            refine v_iload_n (q := 122) dX12_restore_121 rfl rfl rfl ?_
            refine v_aload_n (q := 123) dX12_restore_122 rfl rfl rfl ?_
            refine v_getRb (q := 126) dX12_restore_123 rfl fg_X12_71 (fun o28 => ?_)
            refine v_iload_n (q := 127) dX12_restore_126 rfl rfl rfl ?_
            refine v_bipush (q := 129) dX12_restore_127 rfl bp_43 ?_
            refine v_iadd (q := 130) dX12_restore_129 rfl ?_
            refine v_iload_n (q := 131) dX12_restore_130 rfl rfl rfl ?_
            refine v_iadd (q := 132) dX12_restore_131 rfl ?_
            refine v_iaload (q := 133) dX12_restore_132 rfl (fun v29 => ?_)
            refine v_iastore (q := 134) dX12_restore_133 rfl (fun M30 => ?_)
            refine v_aload_n (q := 135) dX12_restore_134 rfl rfl rfl ?_
            refine v_getRb (q := 138) dX12_restore_135 rfl fg_X12_35 (fun o31 => ?_)
            refine v_iload_n (q := 139) dX12_restore_138 rfl rfl rfl ?_
            refine v_aload_n (q := 140) dX12_restore_139 rfl rfl rfl ?_
            refine v_getRb (q := 143) dX12_restore_140 rfl fg_X12_71 (fun o32 => ?_)
            refine v_iload_n (q := 144) dX12_restore_143 rfl rfl rfl ?_
            refine v_bipush (q := 146) dX12_restore_144 rfl bp_49 ?_
            refine v_iadd (q := 147) dX12_restore_146 rfl ?_
            refine v_iload_n (q := 148) dX12_restore_147 rfl rfl rfl ?_
            refine v_iadd (q := 149) dX12_restore_148 rfl ?_
            refine v_iaload (q := 150) dX12_restore_149 rfl (fun v33 => ?_)
            refine v_iastore (q := 151) dX12_restore_150 rfl (fun M34 => ?_)
            refine v_aload_n (q := 152) dX12_restore_151 rfl rfl rfl ?_
            refine v_getRb (q := 155) dX12_restore_152 rfl fg_X12_38 (fun o35 => ?_)
            refine v_iload_n (q := 156) dX12_restore_155 rfl rfl rfl ?_
            refine v_aload_n (q := 157) dX12_restore_156 rfl rfl rfl ?_
            refine v_getRb (q := 160) dX12_restore_157 rfl fg_X12_71 (fun o36 => ?_)
            refine v_iload_n (q := 161) dX12_restore_160 rfl rfl rfl ?_
            refine v_bipush (q := 163) dX12_restore_161 rfl bp_55 ?_
            refine v_iadd (q := 164) dX12_restore_163 rfl ?_
            refine v_iload_n (q := 165) dX12_restore_164 rfl rfl rfl ?_
            refine v_iadd (q := 166) dX12_restore_165 rfl ?_
            refine v_iaload (q := 167) dX12_restore_166 rfl (fun v37 => ?_)
            refine v_iastore (q := 168) dX12_restore_167 rfl (fun M38 => ?_)
            refine v_iincL (q := 171) (x := v14) (cst := (1 : Int32)) (f := fun v39 => [some (.ref a0), some (.int x1), some (.int v4), some (.int v39)]) dX12_restore_168 rfl rfl ic_1 rfl (Nat.le_of_ble_eq_true rfl) (fun _ => rfl) (fun v39 => ?_)
            refine v_goto (tgt := 60) dX12_restore_171 rfl ?_
            exact v_inl (hk (M38, v39))
      · obtain ⟨M5, v6⟩ := s
        show V _ _ M5 32 [some (.ref a0), some (.int x1), some (.int v4), some (.int v6)] [] (s_X12_restore_32 a0 v4 M5 v6) _
        unfold s_X12_restore_32
        refine v_iload_n (q := 33) dX12_restore_32 rfl rfl rfl ?_
        refine v_bipush (q := 35) dX12_restore_33 rfl bp_25 ?_
        refine v_icmp_ge (tgt := 58) (q := 38) dX12_restore_35 rfl rfl ?_ ?_
        · exact v_inr (hx (M5, v6))
        · refine v_aload_n (q := 39) dX12_restore_38 rfl rfl rfl ?_
          refine v_getRb (q := 42) dX12_restore_39 rfl fg_X12_13 (fun o7 => ?_)
          refine v_iload_n (q := 43) dX12_restore_42 rfl rfl rfl ?_
          refine v_aload_n (q := 44) dX12_restore_43 rfl rfl rfl ?_
          refine v_getRb (q := 47) dX12_restore_44 rfl fg_X12_71 (fun o8 => ?_)
          refine v_iload_n (q := 48) dX12_restore_47 rfl rfl rfl ?_
          refine v_iload_n (q := 49) dX12_restore_48 rfl rfl rfl ?_
          refine v_iadd (q := 50) dX12_restore_49 rfl ?_
          refine v_iaload (q := 51) dX12_restore_50 rfl (fun v9 => ?_)
          refine v_iastore (q := 52) dX12_restore_51 rfl (fun M10 => ?_)
          refine v_iincL (q := 55) (x := v6) (cst := (1 : Int32)) (f := fun v11 => [some (.ref a0), some (.int x1), some (.int v4), some (.int v11)]) dX12_restore_52 rfl rfl ic_1 rfl (Nat.le_of_ble_eq_true rfl) (fun _ => rfl) (fun v11 => ?_)
          refine v_goto (tgt := 32) dX12_restore_55 rfl ?_
          exact v_inl (hk (M10, v11))
    · refine v_bipush (q := 23) dX12_restore_21 rfl bp_m3 ?_
      exact v_iret rfl dX12_restore_23 ⟨Nat.le_of_ble_eq_true rfl, Nat.le_of_ble_eq_true rfl⟩ rfl
  · refine v_bipush (q := 11) dX12_restore_9 rfl bp_m2 ?_
    exact v_iret rfl dX12_restore_11 ⟨Nat.le_of_ble_eq_true rfl, Nat.le_of_ble_eq_true rfl⟩ rfl
theorem ct_X12_restore (d : Nat) (hd : 1 ≤ d) (a0 : Nat) (x1 : Int32) (M : Me) (r : Int32) (M2 : Me) (hf : f_X12_restore a0 x1 M = some (r, M2)) : me_k M a0 = some (12, nf_c 12) ∧ Ct yX12_restore mX12_restore d 0 0 [.ref a0, .int x1] M (some (.int r), M2) := by
  obtain ⟨hk, hb⟩ := ck_some hf
  exact ⟨hk, ct_of (by decide +kernel) rfl rfl (Nat.le_of_ble_eq_true rfl) (vb_X12_restore d hd a0 x1 M) (by rw [hb]; rfl)⟩
theorem dX12_told_0 : decode cX12_told 0 = .ok (.iload_n 1, 1) := by decide +kernel
theorem dX12_told_1 : decode cX12_told 1 = .ok (.bipush 100, 2) := by decide +kernel
theorem dX12_told_3 : decode cX12_told 3 = .ok (.if_icmp .lt 52, 3) := by decide +kernel
theorem dX12_told_6 : decode cX12_told 6 = .ok (.iload_n 1, 1) := by decide +kernel
theorem dX12_told_7 : decode cX12_told 7 = .ok (.bipush 100, 2) := by decide +kernel
theorem dX12_told_9 : decode cX12_told 9 = .ok (.idiv, 1) := by decide +kernel
theorem dX12_told_10 : decode cX12_told 10 = .ok (.iconst 1, 1) := by decide +kernel
theorem dX12_told_11 : decode cX12_told 11 = .ok (.isub, 1) := by decide +kernel
theorem dX12_told_12 : decode cX12_told 12 = .ok (.istore_n 2, 1) := by decide +kernel
theorem dX12_told_13 : decode cX12_told 13 = .ok (.iload_n 1, 1) := by decide +kernel
theorem dX12_told_14 : decode cX12_told 14 = .ok (.bipush 100, 2) := by decide +kernel
theorem dX12_told_16 : decode cX12_told 16 = .ok (.irem, 1) := by decide +kernel
theorem dX12_told_17 : decode cX12_told 17 = .ok (.istore_n 3, 1) := by decide +kernel
theorem dX12_told_18 : decode cX12_told 18 = .ok (.aload_n 0, 1) := by decide +kernel
theorem dX12_told_19 : decode cX12_told 19 = .ok (.iload_n 2, 1) := by decide +kernel
theorem dX12_told_20 : decode cX12_told 20 = .ok (.invokevirtual 98, 3) := by decide +kernel
theorem dX12_told_23 : decode cX12_told 23 = .ok (.ifCond .eq 29, 3) := by decide +kernel
theorem dX12_told_26 : decode cX12_told 26 = .ok (.aload_n 0, 1) := by decide +kernel
theorem dX12_told_27 : decode cX12_told 27 = .ok (.iload_n 3, 1) := by decide +kernel
theorem dX12_told_28 : decode cX12_told 28 = .ok (.invokevirtual 98, 3) := by decide +kernel
theorem dX12_told_31 : decode cX12_told 31 = .ok (.ifCond .eq 21, 3) := by decide +kernel
theorem dX12_told_34 : decode cX12_told 34 = .ok (.iload_n 2, 1) := by decide +kernel
theorem dX12_told_35 : decode cX12_told 35 = .ok (.iload_n 3, 1) := by decide +kernel
theorem dX12_told_36 : decode cX12_told 36 = .ok (.if_icmp .eq 16, 3) := by decide +kernel
theorem dX12_told_39 : decode cX12_told 39 = .ok (.aload_n 0, 1) := by decide +kernel
theorem dX12_told_40 : decode cX12_told 40 = .ok (.getfield 13, 3) := by decide +kernel
theorem dX12_told_43 : decode cX12_told 43 = .ok (.iconst 5, 1) := by decide +kernel
theorem dX12_told_44 : decode cX12_told 44 = .ok (.iload_n 2, 1) := by decide +kernel
theorem dX12_told_45 : decode cX12_told 45 = .ok (.imul, 1) := by decide +kernel
theorem dX12_told_46 : decode cX12_told 46 = .ok (.iload_n 3, 1) := by decide +kernel
theorem dX12_told_47 : decode cX12_told 47 = .ok (.iadd, 1) := by decide +kernel
theorem dX12_told_48 : decode cX12_told 48 = .ok (.iaload, 1) := by decide +kernel
theorem dX12_told_49 : decode cX12_told 49 = .ok (.goto 5, 3) := by decide +kernel
theorem dX12_told_52 : decode cX12_told 52 = .ok (.bipush (-2), 2) := by decide +kernel
theorem dX12_told_54 : decode cX12_told 54 = .ok (.ireturn, 1) := by decide +kernel
theorem dX12_told_55 : decode cX12_told 55 = .ok (.iload_n 1, 1) := by decide +kernel
theorem dX12_told_56 : decode cX12_told 56 = .ok (.bipush 10, 2) := by decide +kernel
theorem dX12_told_58 : decode cX12_told 58 = .ok (.if_icmp .lt 54, 3) := by decide +kernel
theorem dX12_told_61 : decode cX12_told 61 = .ok (.iload_n 1, 1) := by decide +kernel
theorem dX12_told_62 : decode cX12_told 62 = .ok (.bipush 10, 2) := by decide +kernel
theorem dX12_told_64 : decode cX12_told 64 = .ok (.idiv, 1) := by decide +kernel
theorem dX12_told_65 : decode cX12_told 65 = .ok (.iconst 1, 1) := by decide +kernel
theorem dX12_told_66 : decode cX12_told 66 = .ok (.isub, 1) := by decide +kernel
theorem dX12_told_67 : decode cX12_told 67 = .ok (.istore_n 2, 1) := by decide +kernel
theorem dX12_told_68 : decode cX12_told 68 = .ok (.aload_n 0, 1) := by decide +kernel
theorem dX12_told_69 : decode cX12_told 69 = .ok (.iload_n 2, 1) := by decide +kernel
theorem dX12_told_70 : decode cX12_told 70 = .ok (.invokevirtual 102, 3) := by decide +kernel
theorem dX12_told_73 : decode cX12_told 73 = .ok (.ifCond .eq 11, 3) := by decide +kernel
theorem dX12_told_76 : decode cX12_told 76 = .ok (.iload_n 1, 1) := by decide +kernel
theorem dX12_told_77 : decode cX12_told 77 = .ok (.bipush 10, 2) := by decide +kernel
theorem dX12_told_79 : decode cX12_told 79 = .ok (.irem, 1) := by decide +kernel
theorem dX12_told_80 : decode cX12_told 80 = .ok (.iconst 1, 1) := by decide +kernel
theorem dX12_told_81 : decode cX12_told 81 = .ok (.if_icmp .le 8, 3) := by decide +kernel
theorem dX12_told_84 : decode cX12_told 84 = .ok (.bipush (-2), 2) := by decide +kernel
theorem dX12_told_86 : decode cX12_told 86 = .ok (.goto 25, 3) := by decide +kernel
theorem dX12_told_89 : decode cX12_told 89 = .ok (.iload_n 1, 1) := by decide +kernel
theorem dX12_told_90 : decode cX12_told 90 = .ok (.bipush 10, 2) := by decide +kernel
theorem dX12_told_92 : decode cX12_told 92 = .ok (.irem, 1) := by decide +kernel
theorem dX12_told_93 : decode cX12_told 93 = .ok (.ifCond .ne 12, 3) := by decide +kernel
theorem dX12_told_96 : decode cX12_told 96 = .ok (.aload_n 0, 1) := by decide +kernel
theorem dX12_told_97 : decode cX12_told 97 = .ok (.getfield 20, 3) := by decide +kernel
theorem dX12_told_100 : decode cX12_told 100 = .ok (.iload_n 2, 1) := by decide +kernel
theorem dX12_told_101 : decode cX12_told 101 = .ok (.iaload, 1) := by decide +kernel
theorem dX12_told_102 : decode cX12_told 102 = .ok (.goto 9, 3) := by decide +kernel
theorem dX12_told_105 : decode cX12_told 105 = .ok (.aload_n 0, 1) := by decide +kernel
theorem dX12_told_106 : decode cX12_told 106 = .ok (.getfield 23, 3) := by decide +kernel
theorem dX12_told_109 : decode cX12_told 109 = .ok (.iload_n 2, 1) := by decide +kernel
theorem dX12_told_110 : decode cX12_told 110 = .ok (.iaload, 1) := by decide +kernel
theorem dX12_told_111 : decode cX12_told 111 = .ok (.ireturn, 1) := by decide +kernel
theorem dX12_told_112 : decode cX12_told 112 = .ok (.iload_n 1, 1) := by decide +kernel
theorem dX12_told_113 : decode cX12_told 113 = .ok (.tableswitch 60 0 4 #[35, 40, 45, 50, 55], 35) := by decide +kernel
theorem dX12_told_148 : decode cX12_told 148 = .ok (.aload_n 0, 1) := by decide +kernel
theorem dX12_told_149 : decode cX12_told 149 = .ok (.getfield 109, 3) := by decide +kernel
theorem dX12_told_152 : decode cX12_told 152 = .ok (.ireturn, 1) := by decide +kernel
theorem dX12_told_153 : decode cX12_told 153 = .ok (.aload_n 0, 1) := by decide +kernel
theorem dX12_told_154 : decode cX12_told 154 = .ok (.getfield 7, 3) := by decide +kernel
theorem dX12_told_157 : decode cX12_told 157 = .ok (.ireturn, 1) := by decide +kernel
theorem dX12_told_158 : decode cX12_told 158 = .ok (.aload_n 0, 1) := by decide +kernel
theorem dX12_told_159 : decode cX12_told 159 = .ok (.getfield 78, 3) := by decide +kernel
theorem dX12_told_162 : decode cX12_told 162 = .ok (.ireturn, 1) := by decide +kernel
theorem dX12_told_163 : decode cX12_told 163 = .ok (.aload_n 0, 1) := by decide +kernel
theorem dX12_told_164 : decode cX12_told 164 = .ok (.getfield 92, 3) := by decide +kernel
theorem dX12_told_167 : decode cX12_told 167 = .ok (.ireturn, 1) := by decide +kernel
theorem dX12_told_168 : decode cX12_told 168 = .ok (.aload_n 0, 1) := by decide +kernel
theorem dX12_told_169 : decode cX12_told 169 = .ok (.getfield 17, 3) := by decide +kernel
theorem dX12_told_172 : decode cX12_told 172 = .ok (.ireturn, 1) := by decide +kernel
theorem dX12_told_173 : decode cX12_told 173 = .ok (.iload_n 1, 1) := by decide +kernel
theorem dX12_told_174 : decode cX12_told 174 = .ok (.iconst 5, 1) := by decide +kernel
theorem dX12_told_175 : decode cX12_told 175 = .ok (.if_icmp .ne 10, 3) := by decide +kernel
theorem dX12_told_178 : decode cX12_told 178 = .ok (.aload_n 0, 1) := by decide +kernel
theorem dX12_told_179 : decode cX12_told 179 = .ok (.getfield 89, 3) := by decide +kernel
theorem dX12_told_182 : decode cX12_told 182 = .ok (.goto 5, 3) := by decide +kernel
theorem dX12_told_185 : decode cX12_told 185 = .ok (.bipush (-2), 2) := by decide +kernel
theorem dX12_told_187 : decode cX12_told 187 = .ok (.ireturn, 1) := by decide +kernel
noncomputable def b_X12_told (a0 : Nat) (x1 : Int32) (M : Me) : Option (Int32) :=
  if x1 < (100 : Int32) then (
    if x1 < (10 : Int32) then (
      if x1 = (0 : Int32) then (
        gi M a0 12 15 fun v1 =>
        some v1
      ) else (
        if x1 = (1 : Int32) then (
          gi M a0 12 0 fun v2 =>
          some v2
        ) else (
          if x1 = (2 : Int32) then (
            gi M a0 12 3 fun v3 =>
            some v3
          ) else (
            if x1 = (3 : Int32) then (
              gi M a0 12 8 fun v4 =>
              some v4
            ) else (
              if x1 = (4 : Int32) then (
                gi M a0 12 2 fun v5 =>
                some v5
              ) else (
                (
                  if x1 = (5 : Int32) then (
                    gi M a0 12 6 fun v6 =>
                    some v6
                  ) else (
                    some (-2 : Int32)
                  )
                ).bind fun v7 =>
                some v7
              )
            )
          )
        )
      )
    ) else (
      let_v (((x1 / (10 : Int32)) - (1 : Int32))) fun v8 =>
      cP (f_X12_isThere a0 v8 M) fun v9 =>
      (
        if v9 = 0 then (
          some (-2 : Int32)
        ) else (
          if (x1 - x1 / (10 : Int32) * (10 : Int32)) ≤ (1 : Int32) then (
            if (x1 - x1 / (10 : Int32) * (10 : Int32)) = 0 then (
              gr M a0 12 4 fun o12 =>
              li M o12 v8 fun v13 =>
              some v13
            ) else (
              gr M a0 12 5 fun o10 =>
              li M o10 v8 fun v11 =>
              some v11
            )
          ) else (
            some (-2 : Int32)
          )
        )
      ).bind fun v14 =>
      some v14
    )
  ) else (
    let_v (((x1 / (100 : Int32)) - (1 : Int32))) fun v15 =>
    let_v ((x1 - x1 / (100 : Int32) * (100 : Int32))) fun v16 =>
    cP (f_X12_isChapel a0 v15 M) fun v17 =>
    (
      if v17 = 0 then (
        some (-2 : Int32)
      ) else (
        cP (f_X12_isChapel a0 v16 M) fun v18 =>
        if v18 = 0 then (
          some (-2 : Int32)
        ) else (
          if v15 = v16 then (
            some (-2 : Int32)
          ) else (
            gr M a0 12 1 fun o19 =>
            li M o19 (((5 : Int32) * v15) + v16) fun v20 =>
            some v20
          )
        )
      )
    ).bind fun v21 =>
    some v21
  )
noncomputable def f_X12_told (a0 : Nat) (x1 : Int32) (M : Me) : Option (Int32) := ck M a0 12 (b_X12_told a0 x1 M)
set_option maxRecDepth 20000 in
theorem vb_X12_told (d : Nat) (hd : 2 ≤ d) (a0 : Nat) (x1 : Int32) (M : Me) : V (mX12_told, d, 0, 0) (0, 0) M 0 [some (.ref a0), some (.int x1), none, none] [] (b_X12_told a0 x1 M) (fun z => some (some (.int z), M)) := by
  unfold b_X12_told
  refine v_iload_n (q := 1) dX12_told_0 rfl rfl rfl ?_
  refine v_bipush (q := 3) dX12_told_1 rfl bp_100 ?_
  refine v_icmp_lt (tgt := 55) (q := 6) dX12_told_3 rfl rfl ?_ ?_
  · refine v_iload_n (q := 56) dX12_told_55 rfl rfl rfl ?_
    refine v_bipush (q := 58) dX12_told_56 rfl bp_10 ?_
    refine v_icmp_lt (tgt := 112) (q := 61) dX12_told_58 rfl rfl ?_ ?_
    · refine v_iload_n (q := 113) dX12_told_112 rfl rfl rfl ?_
      refine v_ite (fun h0 => ?_) (fun h0 => ?_)
      · refine v_tbl_in (cst := (0 : Int32)) (off := 35) (tgt := 148) dX12_told_113 h0 (by decide) (by decide) (by decide) rfl ?_
        refine v_aload_n (q := 149) dX12_told_148 rfl rfl rfl ?_
        refine v_getIb (q := 152) dX12_told_149 rfl fg_X12_109 (fun v1 => ?_)
        exact v_iret rfl dX12_told_152 ⟨Nat.le_of_ble_eq_true rfl, Nat.le_of_ble_eq_true rfl⟩ rfl
      · refine v_ite (fun h1 => ?_) (fun h1 => ?_)
        · refine v_tbl_in (cst := (1 : Int32)) (off := 40) (tgt := 153) dX12_told_113 h1 (by decide) (by decide) (by decide) rfl ?_
          refine v_aload_n (q := 154) dX12_told_153 rfl rfl rfl ?_
          refine v_getIb (q := 157) dX12_told_154 rfl fg_X12_7 (fun v2 => ?_)
          exact v_iret rfl dX12_told_157 ⟨Nat.le_of_ble_eq_true rfl, Nat.le_of_ble_eq_true rfl⟩ rfl
        · refine v_ite (fun h2 => ?_) (fun h2 => ?_)
          · refine v_tbl_in (cst := (2 : Int32)) (off := 45) (tgt := 158) dX12_told_113 h2 (by decide) (by decide) (by decide) rfl ?_
            refine v_aload_n (q := 159) dX12_told_158 rfl rfl rfl ?_
            refine v_getIb (q := 162) dX12_told_159 rfl fg_X12_78 (fun v3 => ?_)
            exact v_iret rfl dX12_told_162 ⟨Nat.le_of_ble_eq_true rfl, Nat.le_of_ble_eq_true rfl⟩ rfl
          · refine v_ite (fun h3 => ?_) (fun h3 => ?_)
            · refine v_tbl_in (cst := (3 : Int32)) (off := 50) (tgt := 163) dX12_told_113 h3 (by decide) (by decide) (by decide) rfl ?_
              refine v_aload_n (q := 164) dX12_told_163 rfl rfl rfl ?_
              refine v_getIb (q := 167) dX12_told_164 rfl fg_X12_92 (fun v4 => ?_)
              exact v_iret rfl dX12_told_167 ⟨Nat.le_of_ble_eq_true rfl, Nat.le_of_ble_eq_true rfl⟩ rfl
            · refine v_ite (fun h4 => ?_) (fun h4 => ?_)
              · refine v_tbl_in (cst := (4 : Int32)) (off := 55) (tgt := 168) dX12_told_113 h4 (by decide) (by decide) (by decide) rfl ?_
                refine v_aload_n (q := 169) dX12_told_168 rfl rfl rfl ?_
                refine v_getIb (q := 172) dX12_told_169 rfl fg_X12_17 (fun v5 => ?_)
                exact v_iret rfl dX12_told_172 ⟨Nat.le_of_ble_eq_true rfl, Nat.le_of_ble_eq_true rfl⟩ rfl
              · refine v_tbl_out (tgt := 173) dX12_told_113 (by have q0 := lv_neT h0 (a := 0) (by decide); have q1 := lv_neT h1 (a := 1) (by decide); have q2 := lv_neT h2 (a := 2) (by decide); have q3 := lv_neT h3 (a := 3) (by decide); have q4 := lv_neT h4 (a := 4) (by decide); omega) rfl ?_
                refine v_iload_n (q := 174) dX12_told_173 rfl rfl rfl ?_
                refine v_iconst (q := 175) dX12_told_174 rfl ic_5 ?_
                refine v_join (γ := Int32) 187 (fun v7 => M) (fun v7 => [some (.ref a0), some (.int x1), none, none]) (fun v7 => [.int v7]) (fun K hK => ?_) (fun v7 => ?_)
                · refine v_icmp_ne (tgt := 185) (q := 178) dX12_told_175 rfl rfl ?_ ?_
                  · refine v_bipush (q := 187) dX12_told_185 rfl bp_m2 ?_
                    exact hK (-2 : Int32)
                  · refine v_aload_n (q := 179) dX12_told_178 rfl rfl rfl ?_
                    refine v_getIb (q := 182) dX12_told_179 rfl fg_X12_89 (fun v6 => ?_)
                    refine v_goto (tgt := 187) dX12_told_182 rfl ?_
                    exact hK v6
                · exact v_iret rfl dX12_told_187 ⟨Nat.le_of_ble_eq_true rfl, Nat.le_of_ble_eq_true rfl⟩ rfl
    · refine v_iload_n (q := 62) dX12_told_61 rfl rfl rfl ?_
      refine v_bipush (q := 64) dX12_told_62 rfl bp_10 ?_
      refine v_idivc (q := 65) dX12_told_64 rfl ne_10 ?_
      refine v_iconst (q := 66) dX12_told_65 rfl ic_1 ?_
      refine v_isub (q := 67) dX12_told_66 rfl ?_
      refine v_letI (fun v8 => ?_)
      refine v_istore_n (q := 68) (loc2 := [some (.ref a0), some (.int x1), some (.int v8), none]) dX12_told_67 rfl rfl rfl (Nat.le_of_ble_eq_true rfl) rfl ?_
      refine v_aload_n (q := 69) dX12_told_68 rfl rfl rfl ?_
      refine v_iload_n (q := 70) dX12_told_69 rfl rfl rfl ?_
      refine v_cPV1 (q := 73) (ct_X12_isThere (d - 1) (by omega) _ _ _) dX12_told_70 rfl cc_X12_102 (by omega) (Nat.le_of_ble_eq_true rfl) ⟨Nat.le_of_ble_eq_true rfl, Nat.le_of_ble_eq_true rfl⟩ (fun v9 => ?_)
      refine v_join (γ := Int32) 111 (fun v14 => M) (fun v14 => [some (.ref a0), some (.int x1), some (.int v8), none]) (fun v14 => [.int v14]) (fun K hK => ?_) (fun v14 => ?_)
      · refine v_if_eq (tgt := 84) (q := 76) dX12_told_73 rfl rfl ?_ ?_
        · refine v_bipush (q := 86) dX12_told_84 rfl bp_m2 ?_
          refine v_goto (tgt := 111) dX12_told_86 rfl ?_
          exact hK (-2 : Int32)
        · refine v_iload_n (q := 77) dX12_told_76 rfl rfl rfl ?_
          refine v_bipush (q := 79) dX12_told_77 rfl bp_10 ?_
          refine v_iremc (q := 80) dX12_told_79 rfl ne_10 ?_
          refine v_iconst (q := 81) dX12_told_80 rfl ic_1 ?_
          refine v_icmp_le (tgt := 89) (q := 84) dX12_told_81 rfl rfl ?_ ?_
          · refine v_iload_n (q := 90) dX12_told_89 rfl rfl rfl ?_
            refine v_bipush (q := 92) dX12_told_90 rfl bp_10 ?_
            refine v_iremc (q := 93) dX12_told_92 rfl ne_10 ?_
            refine v_if_ne (tgt := 105) (q := 96) dX12_told_93 rfl rfl ?_ ?_
            · refine v_aload_n (q := 106) dX12_told_105 rfl rfl rfl ?_
              refine v_getRb (q := 109) dX12_told_106 rfl fg_X12_23 (fun o10 => ?_)
              refine v_iload_n (q := 110) dX12_told_109 rfl rfl rfl ?_
              refine v_iaload (q := 111) dX12_told_110 rfl (fun v11 => ?_)
              exact hK v11
            · refine v_aload_n (q := 97) dX12_told_96 rfl rfl rfl ?_
              refine v_getRb (q := 100) dX12_told_97 rfl fg_X12_20 (fun o12 => ?_)
              refine v_iload_n (q := 101) dX12_told_100 rfl rfl rfl ?_
              refine v_iaload (q := 102) dX12_told_101 rfl (fun v13 => ?_)
              refine v_goto (tgt := 111) dX12_told_102 rfl ?_
              exact hK v13
          · refine v_bipush (q := 86) dX12_told_84 rfl bp_m2 ?_
            refine v_goto (tgt := 111) dX12_told_86 rfl ?_
            exact hK (-2 : Int32)
      · exact v_iret rfl dX12_told_111 ⟨Nat.le_of_ble_eq_true rfl, Nat.le_of_ble_eq_true rfl⟩ rfl
  · refine v_iload_n (q := 7) dX12_told_6 rfl rfl rfl ?_
    refine v_bipush (q := 9) dX12_told_7 rfl bp_100 ?_
    refine v_idivc (q := 10) dX12_told_9 rfl ne_100 ?_
    refine v_iconst (q := 11) dX12_told_10 rfl ic_1 ?_
    refine v_isub (q := 12) dX12_told_11 rfl ?_
    refine v_letI (fun v15 => ?_)
    refine v_istore_n (q := 13) (loc2 := [some (.ref a0), some (.int x1), some (.int v15), none]) dX12_told_12 rfl rfl rfl (Nat.le_of_ble_eq_true rfl) rfl ?_
    refine v_iload_n (q := 14) dX12_told_13 rfl rfl rfl ?_
    refine v_bipush (q := 16) dX12_told_14 rfl bp_100 ?_
    refine v_iremc (q := 17) dX12_told_16 rfl ne_100 ?_
    refine v_letI (fun v16 => ?_)
    refine v_istore_n (q := 18) (loc2 := [some (.ref a0), some (.int x1), some (.int v15), some (.int v16)]) dX12_told_17 rfl rfl rfl (Nat.le_of_ble_eq_true rfl) rfl ?_
    refine v_aload_n (q := 19) dX12_told_18 rfl rfl rfl ?_
    refine v_iload_n (q := 20) dX12_told_19 rfl rfl rfl ?_
    refine v_cPV1 (q := 23) (ct_X12_isChapel (d - 1) (by omega) _ _ _) dX12_told_20 rfl cc_X12_98 (by omega) (Nat.le_of_ble_eq_true rfl) ⟨Nat.le_of_ble_eq_true rfl, Nat.le_of_ble_eq_true rfl⟩ (fun v17 => ?_)
    refine v_join (γ := Int32) 54 (fun v21 => M) (fun v21 => [some (.ref a0), some (.int x1), some (.int v15), some (.int v16)]) (fun v21 => [.int v21]) (fun K hK => ?_) (fun v21 => ?_)
    · refine v_if_eq (tgt := 52) (q := 26) dX12_told_23 rfl rfl ?_ ?_
      · refine v_bipush (q := 54) dX12_told_52 rfl bp_m2 ?_
        exact hK (-2 : Int32)
      · refine v_aload_n (q := 27) dX12_told_26 rfl rfl rfl ?_
        refine v_iload_n (q := 28) dX12_told_27 rfl rfl rfl ?_
        refine v_cPV1 (q := 31) (ct_X12_isChapel (d - 1) (by omega) _ _ _) dX12_told_28 rfl cc_X12_98 (by omega) (Nat.le_of_ble_eq_true rfl) ⟨Nat.le_of_ble_eq_true rfl, Nat.le_of_ble_eq_true rfl⟩ (fun v18 => ?_)
        refine v_if_eq (tgt := 52) (q := 34) dX12_told_31 rfl rfl ?_ ?_
        · refine v_bipush (q := 54) dX12_told_52 rfl bp_m2 ?_
          exact hK (-2 : Int32)
        · refine v_iload_n (q := 35) dX12_told_34 rfl rfl rfl ?_
          refine v_iload_n (q := 36) dX12_told_35 rfl rfl rfl ?_
          refine v_icmp_eq (tgt := 52) (q := 39) dX12_told_36 rfl rfl ?_ ?_
          · refine v_bipush (q := 54) dX12_told_52 rfl bp_m2 ?_
            exact hK (-2 : Int32)
          · refine v_aload_n (q := 40) dX12_told_39 rfl rfl rfl ?_
            refine v_getRb (q := 43) dX12_told_40 rfl fg_X12_13 (fun o19 => ?_)
            refine v_iconst (q := 44) dX12_told_43 rfl ic_5 ?_
            refine v_iload_n (q := 45) dX12_told_44 rfl rfl rfl ?_
            refine v_imul (q := 46) dX12_told_45 rfl ?_
            refine v_iload_n (q := 47) dX12_told_46 rfl rfl rfl ?_
            refine v_iadd (q := 48) dX12_told_47 rfl ?_
            refine v_iaload (q := 49) dX12_told_48 rfl (fun v20 => ?_)
            refine v_goto (tgt := 54) dX12_told_49 rfl ?_
            exact hK v20
    · exact v_iret rfl dX12_told_54 ⟨Nat.le_of_ble_eq_true rfl, Nat.le_of_ble_eq_true rfl⟩ rfl
theorem ct_X12_told (d : Nat) (hd : 2 ≤ d) (a0 : Nat) (x1 : Int32) (M : Me) (r : Int32) (hf : f_X12_told a0 x1 M = some r) : me_k M a0 = some (12, nf_c 12) ∧ Ct yX12_told mX12_told d 0 0 [.ref a0, .int x1] M (some (.int r), M) := by
  obtain ⟨hk, hb⟩ := ck_some hf
  exact ⟨hk, ct_of (by decide +kernel) rfl rfl (Nat.le_of_ble_eq_true rfl) (vb_X12_told d hd a0 x1 M) (by rw [hb]; rfl)⟩

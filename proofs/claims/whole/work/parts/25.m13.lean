theorem dX12_round_0 : decode cX12_round 0 = .ok (.aload_n 0, 1) := by decide +kernel
theorem dX12_round_1 : decode cX12_round 1 = .ok (.iload_n 1, 1) := by decide +kernel
theorem dX12_round_2 : decode cX12_round 2 = .ok (.invokevirtual 188, 3) := by decide +kernel
theorem dX12_round_5 : decode cX12_round 5 = .ok (.ifCond .ne 5, 3) := by decide +kernel
theorem dX12_round_8 : decode cX12_round 8 = .ok (.iconst (-1), 1) := by decide +kernel
theorem dX12_round_9 : decode cX12_round 9 = .ok (.ireturn, 1) := by decide +kernel
theorem dX12_round_10 : decode cX12_round 10 = .ok (.iload_n 2, 1) := by decide +kernel
theorem dX12_round_11 : decode cX12_round 11 = .ok (.iconst 0, 1) := by decide +kernel
theorem dX12_round_12 : decode cX12_round 12 = .ok (.iconst 2, 1) := by decide +kernel
theorem dX12_round_13 : decode cX12_round 13 = .ok (.invokestatic 81, 3) := by decide +kernel
theorem dX12_round_16 : decode cX12_round 16 = .ok (.ifCond .ne 6, 3) := by decide +kernel
theorem dX12_round_19 : decode cX12_round 19 = .ok (.bipush (-2), 2) := by decide +kernel
theorem dX12_round_21 : decode cX12_round 21 = .ok (.ireturn, 1) := by decide +kernel
theorem dX12_round_22 : decode cX12_round 22 = .ok (.iconst 0, 1) := by decide +kernel
theorem dX12_round_23 : decode cX12_round 23 = .ok (.istore_n 3, 1) := by decide +kernel
theorem dX12_round_24 : decode cX12_round 24 = .ok (.iconst 0, 1) := by decide +kernel
theorem dX12_round_25 : decode cX12_round 25 = .ok (.istore 4, 2) := by decide +kernel
theorem dX12_round_27 : decode cX12_round 27 = .ok (.iload 4, 2) := by decide +kernel
theorem dX12_round_29 : decode cX12_round 29 = .ok (.aload_n 0, 1) := by decide +kernel
theorem dX12_round_30 : decode cX12_round 30 = .ok (.getfield 95, 3) := by decide +kernel
theorem dX12_round_33 : decode cX12_round 33 = .ok (.if_icmp .ge 33, 3) := by decide +kernel
theorem dX12_round_36 : decode cX12_round 36 = .ok (.iload_n 3, 1) := by decide +kernel
theorem dX12_round_37 : decode cX12_round 37 = .ok (.aload_n 0, 1) := by decide +kernel
theorem dX12_round_38 : decode cX12_round 38 = .ok (.getfield 41, 3) := by decide +kernel
theorem dX12_round_41 : decode cX12_round 41 = .ok (.iconst 4, 1) := by decide +kernel
theorem dX12_round_42 : decode cX12_round 42 = .ok (.iload 4, 2) := by decide +kernel
theorem dX12_round_44 : decode cX12_round 44 = .ok (.imul, 1) := by decide +kernel
theorem dX12_round_45 : decode cX12_round 45 = .ok (.iaload, 1) := by decide +kernel
theorem dX12_round_46 : decode cX12_round 46 = .ok (.iload_n 1, 1) := by decide +kernel
theorem dX12_round_47 : decode cX12_round 47 = .ok (.if_icmp .ne 10, 3) := by decide +kernel
theorem dX12_round_50 : decode cX12_round 50 = .ok (.iconst 1, 1) := by decide +kernel
theorem dX12_round_51 : decode cX12_round 51 = .ok (.iload 4, 2) := by decide +kernel
theorem dX12_round_53 : decode cX12_round 53 = .ok (.ishl, 1) := by decide +kernel
theorem dX12_round_54 : decode cX12_round 54 = .ok (.goto 4, 3) := by decide +kernel
theorem dX12_round_57 : decode cX12_round 57 = .ok (.iconst 0, 1) := by decide +kernel
theorem dX12_round_58 : decode cX12_round 58 = .ok (.ior, 1) := by decide +kernel
theorem dX12_round_59 : decode cX12_round 59 = .ok (.istore_n 3, 1) := by decide +kernel
theorem dX12_round_60 : decode cX12_round 60 = .ok (.iinc 4 1, 3) := by decide +kernel
theorem dX12_round_63 : decode cX12_round 63 = .ok (.goto (-36), 3) := by decide +kernel
theorem dX12_round_66 : decode cX12_round 66 = .ok (.iload_n 2, 1) := by decide +kernel
theorem dX12_round_67 : decode cX12_round 67 = .ok (.ifCond .ne 18, 3) := by decide +kernel
theorem dX12_round_70 : decode cX12_round 70 = .ok (.aload_n 0, 1) := by decide +kernel
theorem dX12_round_71 : decode cX12_round 71 = .ok (.iload_n 1, 1) := by decide +kernel
theorem dX12_round_72 : decode cX12_round 72 = .ok (.iload_n 3, 1) := by decide +kernel
theorem dX12_round_73 : decode cX12_round 73 = .ok (.invokevirtual 194, 3) := by decide +kernel
theorem dX12_round_76 : decode cX12_round 76 = .ok (.ifCond .eq 7, 3) := by decide +kernel
theorem dX12_round_79 : decode cX12_round 79 = .ok (.iconst 1, 1) := by decide +kernel
theorem dX12_round_80 : decode cX12_round 80 = .ok (.goto 4, 3) := by decide +kernel
theorem dX12_round_83 : decode cX12_round 83 = .ok (.iconst 0, 1) := by decide +kernel
theorem dX12_round_84 : decode cX12_round 84 = .ok (.ireturn, 1) := by decide +kernel
theorem dX12_round_85 : decode cX12_round 85 = .ok (.iload_n 2, 1) := by decide +kernel
theorem dX12_round_86 : decode cX12_round 86 = .ok (.iconst 1, 1) := by decide +kernel
theorem dX12_round_87 : decode cX12_round 87 = .ok (.if_icmp .ne 82, 3) := by decide +kernel
theorem dX12_round_90 : decode cX12_round 90 = .ok (.iconst 0, 1) := by decide +kernel
theorem dX12_round_91 : decode cX12_round 91 = .ok (.istore 4, 2) := by decide +kernel
theorem dX12_round_93 : decode cX12_round 93 = .ok (.iconst 0, 1) := by decide +kernel
theorem dX12_round_94 : decode cX12_round 94 = .ok (.istore 5, 2) := by decide +kernel
theorem dX12_round_96 : decode cX12_round 96 = .ok (.iload 5, 2) := by decide +kernel
theorem dX12_round_98 : decode cX12_round 98 = .ok (.iconst 1, 1) := by decide +kernel
theorem dX12_round_99 : decode cX12_round 99 = .ok (.aload_n 0, 1) := by decide +kernel
theorem dX12_round_100 : decode cX12_round 100 = .ok (.getfield 95, 3) := by decide +kernel
theorem dX12_round_103 : decode cX12_round 103 = .ok (.ishl, 1) := by decide +kernel
theorem dX12_round_104 : decode cX12_round 104 = .ok (.if_icmp .ge 62, 3) := by decide +kernel
theorem dX12_round_107 : decode cX12_round 107 = .ok (.iload 5, 2) := by decide +kernel
theorem dX12_round_109 : decode cX12_round 109 = .ok (.iload_n 3, 1) := by decide +kernel
theorem dX12_round_110 : decode cX12_round 110 = .ok (.iconst (-1), 1) := by decide +kernel
theorem dX12_round_111 : decode cX12_round 111 = .ok (.ixor, 1) := by decide +kernel
theorem dX12_round_112 : decode cX12_round 112 = .ok (.iand, 1) := by decide +kernel
theorem dX12_round_113 : decode cX12_round 113 = .ok (.ifCond .ne 17, 3) := by decide +kernel
theorem dX12_round_116 : decode cX12_round 116 = .ok (.iload 5, 2) := by decide +kernel
theorem dX12_round_118 : decode cX12_round 118 = .ok (.invokestatic 105, 3) := by decide +kernel
theorem dX12_round_121 : decode cX12_round 121 = .ok (.iload 4, 2) := by decide +kernel
theorem dX12_round_123 : decode cX12_round 123 = .ok (.if_icmp .le 7, 3) := by decide +kernel
theorem dX12_round_126 : decode cX12_round 126 = .ok (.iconst 1, 1) := by decide +kernel
theorem dX12_round_127 : decode cX12_round 127 = .ok (.goto 4, 3) := by decide +kernel
theorem dX12_round_130 : decode cX12_round 130 = .ok (.iconst 0, 1) := by decide +kernel
theorem dX12_round_131 : decode cX12_round 131 = .ok (.istore 6, 2) := by decide +kernel
theorem dX12_round_133 : decode cX12_round 133 = .ok (.iload 6, 2) := by decide +kernel
theorem dX12_round_135 : decode cX12_round 135 = .ok (.ifCond .eq 21, 3) := by decide +kernel
theorem dX12_round_138 : decode cX12_round 138 = .ok (.aload_n 0, 1) := by decide +kernel
theorem dX12_round_139 : decode cX12_round 139 = .ok (.iload_n 1, 1) := by decide +kernel
theorem dX12_round_140 : decode cX12_round 140 = .ok (.iload 5, 2) := by decide +kernel
theorem dX12_round_142 : decode cX12_round 142 = .ok (.invokevirtual 194, 3) := by decide +kernel
theorem dX12_round_145 : decode cX12_round 145 = .ok (.ifCond .eq 11, 3) := by decide +kernel
theorem dX12_round_148 : decode cX12_round 148 = .ok (.iload 5, 2) := by decide +kernel
theorem dX12_round_150 : decode cX12_round 150 = .ok (.invokestatic 105, 3) := by decide +kernel
theorem dX12_round_153 : decode cX12_round 153 = .ok (.goto 5, 3) := by decide +kernel
theorem dX12_round_156 : decode cX12_round 156 = .ok (.iload 4, 2) := by decide +kernel
theorem dX12_round_158 : decode cX12_round 158 = .ok (.istore 4, 2) := by decide +kernel
theorem dX12_round_160 : decode cX12_round 160 = .ok (.iinc 5 1, 3) := by decide +kernel
theorem dX12_round_163 : decode cX12_round 163 = .ok (.goto (-67), 3) := by decide +kernel
theorem dX12_round_166 : decode cX12_round 166 = .ok (.iload 4, 2) := by decide +kernel
theorem dX12_round_168 : decode cX12_round 168 = .ok (.ireturn, 1) := by decide +kernel
theorem dX12_round_169 : decode cX12_round 169 = .ok (.iconst 0, 1) := by decide +kernel
theorem dX12_round_170 : decode cX12_round 170 = .ok (.istore 4, 2) := by decide +kernel
theorem dX12_round_172 : decode cX12_round 172 = .ok (.iload 4, 2) := by decide +kernel
theorem dX12_round_174 : decode cX12_round 174 = .ok (.aload_n 0, 1) := by decide +kernel
theorem dX12_round_175 : decode cX12_round 175 = .ok (.getfield 95, 3) := by decide +kernel
theorem dX12_round_178 : decode cX12_round 178 = .ok (.if_icmp .ge 110, 3) := by decide +kernel
theorem dX12_round_181 : decode cX12_round 181 = .ok (.iload 4, 2) := by decide +kernel
theorem dX12_round_183 : decode cX12_round 183 = .ok (.iconst 1, 1) := by decide +kernel
theorem dX12_round_184 : decode cX12_round 184 = .ok (.iadd, 1) := by decide +kernel
theorem dX12_round_185 : decode cX12_round 185 = .ok (.istore 5, 2) := by decide +kernel
theorem dX12_round_187 : decode cX12_round 187 = .ok (.iload 5, 2) := by decide +kernel
theorem dX12_round_189 : decode cX12_round 189 = .ok (.aload_n 0, 1) := by decide +kernel
theorem dX12_round_190 : decode cX12_round 190 = .ok (.getfield 95, 3) := by decide +kernel
theorem dX12_round_193 : decode cX12_round 193 = .ok (.if_icmp .ge 89, 3) := by decide +kernel
theorem dX12_round_196 : decode cX12_round 196 = .ok (.iload_n 3, 1) := by decide +kernel
theorem dX12_round_197 : decode cX12_round 197 = .ok (.iload 4, 2) := by decide +kernel
theorem dX12_round_199 : decode cX12_round 199 = .ok (.invokestatic 85, 3) := by decide +kernel
theorem dX12_round_202 : decode cX12_round 202 = .ok (.ifCond .eq 40, 3) := by decide +kernel
theorem dX12_round_205 : decode cX12_round 205 = .ok (.iload_n 3, 1) := by decide +kernel
theorem dX12_round_206 : decode cX12_round 206 = .ok (.iload 5, 2) := by decide +kernel
theorem dX12_round_208 : decode cX12_round 208 = .ok (.invokestatic 85, 3) := by decide +kernel
theorem dX12_round_211 : decode cX12_round 211 = .ok (.ifCond .eq 31, 3) := by decide +kernel
theorem dX12_round_214 : decode cX12_round 214 = .ok (.aload_n 0, 1) := by decide +kernel
theorem dX12_round_215 : decode cX12_round 215 = .ok (.iload_n 1, 1) := by decide +kernel
theorem dX12_round_216 : decode cX12_round 216 = .ok (.iconst 1, 1) := by decide +kernel
theorem dX12_round_217 : decode cX12_round 217 = .ok (.iload 4, 2) := by decide +kernel
theorem dX12_round_219 : decode cX12_round 219 = .ok (.ishl, 1) := by decide +kernel
theorem dX12_round_220 : decode cX12_round 220 = .ok (.invokevirtual 194, 3) := by decide +kernel
theorem dX12_round_223 : decode cX12_round 223 = .ok (.ifCond .eq 19, 3) := by decide +kernel
theorem dX12_round_226 : decode cX12_round 226 = .ok (.aload_n 0, 1) := by decide +kernel
theorem dX12_round_227 : decode cX12_round 227 = .ok (.iload_n 1, 1) := by decide +kernel
theorem dX12_round_228 : decode cX12_round 228 = .ok (.iconst 1, 1) := by decide +kernel
theorem dX12_round_229 : decode cX12_round 229 = .ok (.iload 5, 2) := by decide +kernel
theorem dX12_round_231 : decode cX12_round 231 = .ok (.ishl, 1) := by decide +kernel
theorem dX12_round_232 : decode cX12_round 232 = .ok (.invokevirtual 194, 3) := by decide +kernel
theorem dX12_round_235 : decode cX12_round 235 = .ok (.ifCond .eq 7, 3) := by decide +kernel
theorem dX12_round_238 : decode cX12_round 238 = .ok (.iconst 1, 1) := by decide +kernel
theorem dX12_round_239 : decode cX12_round 239 = .ok (.goto 4, 3) := by decide +kernel
theorem dX12_round_242 : decode cX12_round 242 = .ok (.iconst 0, 1) := by decide +kernel
theorem dX12_round_243 : decode cX12_round 243 = .ok (.istore 6, 2) := by decide +kernel
theorem dX12_round_245 : decode cX12_round 245 = .ok (.iload 6, 2) := by decide +kernel
theorem dX12_round_247 : decode cX12_round 247 = .ok (.ifCond .eq 29, 3) := by decide +kernel
theorem dX12_round_250 : decode cX12_round 250 = .ok (.aload_n 0, 1) := by decide +kernel
theorem dX12_round_251 : decode cX12_round 251 = .ok (.iload_n 1, 1) := by decide +kernel
theorem dX12_round_252 : decode cX12_round 252 = .ok (.iconst 1, 1) := by decide +kernel
theorem dX12_round_253 : decode cX12_round 253 = .ok (.iload 4, 2) := by decide +kernel
theorem dX12_round_255 : decode cX12_round 255 = .ok (.ishl, 1) := by decide +kernel
theorem dX12_round_256 : decode cX12_round 256 = .ok (.iconst 1, 1) := by decide +kernel
theorem dX12_round_257 : decode cX12_round 257 = .ok (.iload 5, 2) := by decide +kernel
theorem dX12_round_259 : decode cX12_round 259 = .ok (.ishl, 1) := by decide +kernel
theorem dX12_round_260 : decode cX12_round 260 = .ok (.ior, 1) := by decide +kernel
theorem dX12_round_261 : decode cX12_round 261 = .ok (.invokevirtual 194, 3) := by decide +kernel
theorem dX12_round_264 : decode cX12_round 264 = .ok (.ifCond .ne 12, 3) := by decide +kernel
theorem dX12_round_267 : decode cX12_round 267 = .ok (.bipush 100, 2) := by decide +kernel
theorem dX12_round_269 : decode cX12_round 269 = .ok (.iload 4, 2) := by decide +kernel
theorem dX12_round_271 : decode cX12_round 271 = .ok (.imul, 1) := by decide +kernel
theorem dX12_round_272 : decode cX12_round 272 = .ok (.iload 5, 2) := by decide +kernel
theorem dX12_round_274 : decode cX12_round 274 = .ok (.iadd, 1) := by decide +kernel
theorem dX12_round_275 : decode cX12_round 275 = .ok (.ireturn, 1) := by decide +kernel
theorem dX12_round_276 : decode cX12_round 276 = .ok (.iinc 5 1, 3) := by decide +kernel
theorem dX12_round_279 : decode cX12_round 279 = .ok (.goto (-92), 3) := by decide +kernel
theorem dX12_round_282 : decode cX12_round 282 = .ok (.iinc 4 1, 3) := by decide +kernel
theorem dX12_round_285 : decode cX12_round 285 = .ok (.goto (-113), 3) := by decide +kernel
theorem dX12_round_288 : decode cX12_round 288 = .ok (.bipush (-6), 2) := by decide +kernel
theorem dX12_round_290 : decode cX12_round 290 = .ok (.ireturn, 1) := by decide +kernel
noncomputable def s_X12_round_27 (a0 : Nat) (x1 : Int32) (M : Me) (v3 : Int32) (v4 : Int32) : Option ((Int32 × Int32) ⊕ (Int32 × Int32)) :=
  gi M a0 12 13 fun v5 =>
  if v5 ≤ v4 then (
    some (Sum.inr (v3, v4))
  ) else (
    gr M a0 12 14 fun o6 =>
    li M o6 ((4 : Int32) * v4) fun v7 =>
    (
      if v7 = x1 then (
        some ((1 : Int32) <<< (v4 &&& 31))
      ) else (
        some (0 : Int32)
      )
    ).bind fun v8 =>
    let_v ((v3 ||| v8)) fun v9 =>
    let_v (v4 + (1 : Int32)) fun v10 =>
    some (Sum.inl (v9, v10))
  )
noncomputable def s_X12_round_187 (a0 : Nat) (x1 : Int32) (e11 : Int32 × Int32) (v13 : Int32) (M16 : Me) (v17 : Int32) : Option ((Me × Int32) ⊕ ((Me × Int32) ⊕ (Int32 × Me))) :=
  gi M16 a0 12 13 fun v18 =>
  if v18 ≤ v17 then (
    some (Sum.inr (Sum.inl (M16, v17)))
  ) else (
    cP (f_X12_has e11.1 v13 M16) fun v19 =>
    (
      if v19 = 0 then (
        some (M16, (0 : Int32))
      ) else (
        cP (f_X12_has e11.1 v17 M16) fun v20 =>
        if v20 = 0 then (
          some (M16, (0 : Int32))
        ) else (
          cI (f_X12_canMeet a0 x1 ((1 : Int32) <<< (v13 &&& 31)) M16) fun v21 M22 =>
          if v21 = 0 then (
            some (M22, (0 : Int32))
          ) else (
            cI (f_X12_canMeet a0 x1 ((1 : Int32) <<< (v17 &&& 31)) M22) fun v23 M24 =>
            if v23 = 0 then (
              some (M24, (0 : Int32))
            ) else (
              some (M24, (1 : Int32))
            )
          )
        )
      )
    ).bind fun q25 =>
    if q25.2 = 0 then (
      let_v (v17 + (1 : Int32)) fun v26 =>
      some (Sum.inl (q25.1, v26))
    ) else (
      cI (f_X12_canMeet a0 x1 (((1 : Int32) <<< (v13 &&& 31)) ||| ((1 : Int32) <<< (v17 &&& 31))) q25.1) fun v27 M28 =>
      if v27 = 0 then (
        some (Sum.inr (Sum.inr ((((100 : Int32) * v13) + v17), M28)))
      ) else (
        let_v (v17 + (1 : Int32)) fun v29 =>
        some (Sum.inl (M28, v29))
      )
    )
  )
noncomputable def s_X12_round_172 (a0 : Nat) (x1 : Int32) (e11 : Int32 × Int32) (M12 : Me) (v13 : Int32) : Option ((Me × Int32) ⊕ ((Me × Int32) ⊕ (Int32 × Me))) :=
  gi M12 a0 12 13 fun v14 =>
  if v14 ≤ v13 then (
    some (Sum.inr (Sum.inl (M12, v13)))
  ) else (
    let_v ((v13 + (1 : Int32))) fun v15 =>
    ex_r (lp (fun s => s_X12_round_187 a0 x1 e11 v13 s.1 s.2) (M12, v15)) (fun e30 =>
      let_v (v13 + (1 : Int32)) fun v31 =>
      some (Sum.inl (e30.1, v31))
    ) (fun t => some (Sum.inr (Sum.inr t)))
  )
noncomputable def s_X12_round_96 (a0 : Nat) (x1 : Int32) (e11 : Int32 × Int32) (M33 : Me) (v34 : Int32) (v35 : Int32) : Option ((Me × Int32 × Int32) ⊕ (Me × Int32 × Int32)) :=
  gi M33 a0 12 13 fun v36 =>
  if ((1 : Int32) <<< (v36 &&& 31)) ≤ v35 then (
    some (Sum.inr (M33, v34, v35))
  ) else (
    (
      if (v35 &&& (e11.1 ^^^ (-1 : Int32))) = 0 then (
        cP (f_X12_bits v35 M33) fun v37 =>
        if v37 ≤ v34 then (
          some (0 : Int32)
        ) else (
          some (1 : Int32)
        )
      ) else (
        some (0 : Int32)
      )
    ).bind fun v38 =>
    (
      if v38 = 0 then (
        some (M33, v34)
      ) else (
        cI (f_X12_canMeet a0 x1 v35 M33) fun v39 M40 =>
        if v39 = 0 then (
          some (M40, v34)
        ) else (
          cP (f_X12_bits v35 M40) fun v41 =>
          some (M40, v41)
        )
      )
    ).bind fun q42 =>
    let_v (v35 + (1 : Int32)) fun v43 =>
    some (Sum.inl (q42.1, q42.2, v43))
  )
noncomputable def b_X12_round (a0 : Nat) (x1 : Int32) (x2 : Int32) (M : Me) : Option (Int32 × Me) :=
  cP (f_X12_isWell a0 x1 M) fun v1 =>
  if v1 = 0 then (
    some ((-1 : Int32), M)
  ) else (
    cP (f_X12_in x2 (0 : Int32) (2 : Int32) M) fun v2 =>
    if v2 = 0 then (
      some ((-2 : Int32), M)
    ) else (
      (lp (fun s => s_X12_round_27 a0 x1 M s.1 s.2) ((0 : Int32), (0 : Int32))).bind fun e11 =>
      if x2 = 0 then (
        cI (f_X12_canMeet a0 x1 e11.1 M) fun v45 M46 =>
        (
          if v45 = 0 then (
            some (0 : Int32)
          ) else (
            some (1 : Int32)
          )
        ).bind fun v47 =>
        some (v47, M46)
      ) else (
        if x2 = (1 : Int32) then (
          (lp (fun s => s_X12_round_96 a0 x1 e11 s.1 s.2.1 s.2.2) (M, (0 : Int32), (0 : Int32))).bind fun e44 =>
          some (e44.2.1, e44.1)
        ) else (
          ex_r (lp (fun s => s_X12_round_172 a0 x1 e11 s.1 s.2) (M, (0 : Int32))) (fun e32 =>
            some ((-6 : Int32), e32.1)
          ) (fun t => some t)
        )
      )
    )
  )
noncomputable def f_X12_round (a0 : Nat) (x1 : Int32) (x2 : Int32) (M : Me) : Option (Int32 × Me) := ck M a0 12 (b_X12_round a0 x1 x2 M)
set_option maxRecDepth 20000 in
theorem vb_X12_round (d : Nat) (hd : 3 ≤ d) (a0 : Nat) (x1 : Int32) (x2 : Int32) (M : Me) : V (mX12_round, d, 0, 0) (0, 0) M 0 [some (.ref a0), some (.int x1), some (.int x2), none, none, none, none] [] (b_X12_round a0 x1 x2 M) (fun z => some (some (.int z.1), z.2)) := by
  unfold b_X12_round
  refine v_aload_n (q := 1) dX12_round_0 rfl rfl rfl ?_
  refine v_iload_n (q := 2) dX12_round_1 rfl rfl rfl ?_
  refine v_cPV1 (q := 5) (ct_X12_isWell (d - 1) (by omega) _ _ _) dX12_round_2 rfl cc_X12_188 (by omega) (Nat.le_of_ble_eq_true rfl) ⟨Nat.le_of_ble_eq_true rfl, Nat.le_of_ble_eq_true rfl⟩ (fun v1 => ?_)
  refine v_if_ne (tgt := 10) (q := 8) dX12_round_5 rfl rfl ?_ ?_
  · refine v_iload_n (q := 11) dX12_round_10 rfl rfl rfl ?_
    refine v_iconst (q := 12) dX12_round_11 rfl ic_0 ?_
    refine v_iconst (q := 13) dX12_round_12 rfl ic_2 ?_
    refine v_cPS3 (q := 16) (ct_X12_in (d - 1) (by omega) _ _ _ _) dX12_round_13 rfl cc_X12_81 (by omega) (Nat.le_of_ble_eq_true rfl) ⟨Nat.le_of_ble_eq_true rfl, Nat.le_of_ble_eq_true rfl⟩ (fun v2 => ?_)
    refine v_if_ne (tgt := 22) (q := 19) dX12_round_16 rfl rfl ?_ ?_
    · refine v_iconst (q := 23) dX12_round_22 rfl ic_0 ?_
      refine v_istore_n (q := 24) (loc2 := [some (.ref a0), some (.int x1), some (.int x2), some (.int (0 : Int32)), none, none, none]) dX12_round_23 rfl rfl rfl (Nat.le_of_ble_eq_true rfl) rfl ?_
      refine v_iconst (q := 25) dX12_round_24 rfl ic_0 ?_
      refine v_istore (q := 27) (loc2 := [some (.ref a0), some (.int x1), some (.int x2), some (.int (0 : Int32)), some (.int (0 : Int32)), none, none]) dX12_round_25 rfl rfl (Nat.le_of_ble_eq_true rfl) rfl ?_
      refine v_lps (S := Int32 × Int32) 66 (fun s => M) (fun s => [some (.ref a0), some (.int x1), some (.int x2), some (.int s.1), some (.int s.2), none, none]) (fun e11 => M) (fun e11 => [some (.ref a0), some (.int x1), some (.int x2), some (.int e11.1), some (.int e11.2), none, none]) (fun e11 => ?_) (fun k K hk hx s => ?_)
      · refine v_iload_n (q := 67) dX12_round_66 rfl rfl rfl ?_
        refine v_if_ne (tgt := 85) (q := 70) dX12_round_67 rfl rfl ?_ ?_
        · refine v_iload_n (q := 86) dX12_round_85 rfl rfl rfl ?_
          refine v_iconst (q := 87) dX12_round_86 rfl ic_1 ?_
          refine v_icmp_ne (tgt := 169) (q := 90) dX12_round_87 rfl rfl ?_ ?_
          · refine v_iconst (q := 170) dX12_round_169 rfl ic_0 ?_
            refine v_istore (q := 172) (loc2 := [some (.ref a0), some (.int x1), some (.int x2), some (.int e11.1), some (.int (0 : Int32)), none, none]) dX12_round_170 rfl rfl (Nat.le_of_ble_eq_true rfl) rfl ?_
            refine v_lpr (S := Me × Int32) 288 (fun s => s.1) (fun s => [some (.ref a0), some (.int x1), some (.int x2), some (.int e11.1), some (.int s.2), none, none]) (fun e32 => e32.1) (fun e32 => [some (.ref a0), some (.int x1), some (.int x2), some (.int e11.1), some (.int e32.2), none, none]) (fun e32 => ?_) (fun k K hk hx s => ?_)
            · refine v_bipush (q := 290) dX12_round_288 rfl bp_m6 ?_
              exact v_iret rfl dX12_round_290 ⟨Nat.le_of_ble_eq_true rfl, Nat.le_of_ble_eq_true rfl⟩ rfl
            · obtain ⟨M12, v13⟩ := s
              show V _ _ M12 172 [some (.ref a0), some (.int x1), some (.int x2), some (.int e11.1), some (.int v13), none, none] [] (s_X12_round_172 a0 x1 e11 M12 v13) _
              unfold s_X12_round_172
              refine v_iload (q := 174) dX12_round_172 rfl rfl ?_
              refine v_aload_n (q := 175) dX12_round_174 rfl rfl rfl ?_
              refine v_getIb (q := 178) dX12_round_175 rfl fg_X12_95 (fun v14 => ?_)
              refine v_icmp_ge (tgt := 288) (q := 181) dX12_round_178 rfl rfl ?_ ?_
              · exact v_inr (v_sml (hx (M12, v13)))
              · refine v_iload (q := 183) dX12_round_181 rfl rfl ?_
                refine v_iconst (q := 184) dX12_round_183 rfl ic_1 ?_
                refine v_iadd (q := 185) dX12_round_184 rfl ?_
                refine v_letI (fun v15 => ?_)
                refine v_istore (q := 187) (loc2 := [some (.ref a0), some (.int x1), some (.int x2), some (.int e11.1), some (.int v13), some (.int v15), none]) dX12_round_185 rfl rfl (Nat.le_of_ble_eq_true rfl) rfl ?_
                refine v_lpr (S := Me × Int32) 282 (fun s => s.1) (fun s => [some (.ref a0), some (.int x1), some (.int x2), some (.int e11.1), some (.int v13), some (.int s.2), none]) (fun e30 => e30.1) (fun e30 => [some (.ref a0), some (.int x1), some (.int x2), some (.int e11.1), some (.int v13), some (.int e30.2), none]) (fun e30 => ?_) (fun k K hk hx s => ?_)
                · refine v_iincL (q := 285) (x := v13) (cst := (1 : Int32)) (f := fun v31 => [some (.ref a0), some (.int x1), some (.int x2), some (.int e11.1), some (.int v31), some (.int e30.2), none]) dX12_round_282 rfl rfl ic_1 rfl (Nat.le_of_ble_eq_true rfl) (fun _ => rfl) (fun v31 => ?_)
                  refine v_goto (tgt := 172) dX12_round_285 rfl ?_
                  exact v_inl (v_weak (hk (e30.1, v31)) ⟨rfl, ⟨rfl, ⟨rfl, ⟨rfl, ⟨rfl, trivial⟩⟩⟩⟩⟩)
                · obtain ⟨M16, v17⟩ := s
                  show V _ _ M16 187 [some (.ref a0), some (.int x1), some (.int x2), some (.int e11.1), some (.int v13), some (.int v17), none] [] (s_X12_round_187 a0 x1 e11 v13 M16 v17) _
                  unfold s_X12_round_187
                  refine v_iload (q := 189) dX12_round_187 rfl rfl ?_
                  refine v_aload_n (q := 190) dX12_round_189 rfl rfl rfl ?_
                  refine v_getIb (q := 193) dX12_round_190 rfl fg_X12_95 (fun v18 => ?_)
                  refine v_icmp_ge (tgt := 282) (q := 196) dX12_round_193 rfl rfl ?_ ?_
                  · exact v_inr (v_sml (hx (M16, v17)))
                  · refine v_iload_n (q := 197) dX12_round_196 rfl rfl rfl ?_
                    refine v_iload (q := 199) dX12_round_197 rfl rfl ?_
                    refine v_cPS2 (q := 202) (ct_X12_has (d - 1) (by omega) _ _ _) dX12_round_199 rfl cc_X12_85 (by omega) (Nat.le_of_ble_eq_true rfl) ⟨Nat.le_of_ble_eq_true rfl, Nat.le_of_ble_eq_true rfl⟩ (fun v19 => ?_)
                    refine v_join (γ := Me × Int32) 243 (fun q25 => q25.1) (fun q25 => [some (.ref a0), some (.int x1), some (.int x2), some (.int e11.1), some (.int v13), some (.int v17), none]) (fun q25 => [.int q25.2]) (fun K hK => ?_) (fun q25 => ?_)
                    · refine v_if_eq (tgt := 242) (q := 205) dX12_round_202 rfl rfl ?_ ?_
                      · refine v_iconst (q := 243) dX12_round_242 rfl ic_0 ?_
                        exact hK (M16, (0 : Int32))
                      · refine v_iload_n (q := 206) dX12_round_205 rfl rfl rfl ?_
                        refine v_iload (q := 208) dX12_round_206 rfl rfl ?_
                        refine v_cPS2 (q := 211) (ct_X12_has (d - 1) (by omega) _ _ _) dX12_round_208 rfl cc_X12_85 (by omega) (Nat.le_of_ble_eq_true rfl) ⟨Nat.le_of_ble_eq_true rfl, Nat.le_of_ble_eq_true rfl⟩ (fun v20 => ?_)
                        refine v_if_eq (tgt := 242) (q := 214) dX12_round_211 rfl rfl ?_ ?_
                        · refine v_iconst (q := 243) dX12_round_242 rfl ic_0 ?_
                          exact hK (M16, (0 : Int32))
                        · refine v_aload_n (q := 215) dX12_round_214 rfl rfl rfl ?_
                          refine v_iload_n (q := 216) dX12_round_215 rfl rfl rfl ?_
                          refine v_iconst (q := 217) dX12_round_216 rfl ic_1 ?_
                          refine v_iload (q := 219) dX12_round_217 rfl rfl ?_
                          refine v_ishl (q := 220) dX12_round_219 rfl ?_
                          refine v_cIV2 (q := 223) (ct_X12_canMeet (d - 1) (by omega) _ _ _ _) dX12_round_220 rfl cc_X12_194 (by omega) (Nat.le_of_ble_eq_true rfl) ⟨Nat.le_of_ble_eq_true rfl, Nat.le_of_ble_eq_true rfl⟩ (fun v21 M22 => ?_)
                          refine v_if_eq (tgt := 242) (q := 226) dX12_round_223 rfl rfl ?_ ?_
                          · refine v_iconst (q := 243) dX12_round_242 rfl ic_0 ?_
                            exact hK (M22, (0 : Int32))
                          · refine v_aload_n (q := 227) dX12_round_226 rfl rfl rfl ?_
                            refine v_iload_n (q := 228) dX12_round_227 rfl rfl rfl ?_
                            refine v_iconst (q := 229) dX12_round_228 rfl ic_1 ?_
                            refine v_iload (q := 231) dX12_round_229 rfl rfl ?_
                            refine v_ishl (q := 232) dX12_round_231 rfl ?_
                            refine v_cIV2 (q := 235) (ct_X12_canMeet (d - 1) (by omega) _ _ _ _) dX12_round_232 rfl cc_X12_194 (by omega) (Nat.le_of_ble_eq_true rfl) ⟨Nat.le_of_ble_eq_true rfl, Nat.le_of_ble_eq_true rfl⟩ (fun v23 M24 => ?_)
                            refine v_if_eq (tgt := 242) (q := 238) dX12_round_235 rfl rfl ?_ ?_
                            · refine v_iconst (q := 243) dX12_round_242 rfl ic_0 ?_
                              exact hK (M24, (0 : Int32))
                            · refine v_iconst (q := 239) dX12_round_238 rfl ic_1 ?_
                              refine v_goto (tgt := 243) dX12_round_239 rfl ?_
                              exact hK (M24, (1 : Int32))
                    · refine v_istore (q := 245) (loc2 := [some (.ref a0), some (.int x1), some (.int x2), some (.int e11.1), some (.int v13), some (.int v17), some (.int q25.2)]) dX12_round_243 rfl rfl (Nat.le_of_ble_eq_true rfl) rfl ?_
                      refine v_iload (q := 247) dX12_round_245 rfl rfl ?_
                      refine v_if_eq (tgt := 276) (q := 250) dX12_round_247 rfl rfl ?_ ?_
                      · refine v_iincL (q := 279) (x := v17) (cst := (1 : Int32)) (f := fun v26 => [some (.ref a0), some (.int x1), some (.int x2), some (.int e11.1), some (.int v13), some (.int v26), some (.int q25.2)]) dX12_round_276 rfl rfl ic_1 rfl (Nat.le_of_ble_eq_true rfl) (fun _ => rfl) (fun v26 => ?_)
                        refine v_goto (tgt := 187) dX12_round_279 rfl ?_
                        exact v_inl (v_weak (hk (q25.1, v26)) ⟨rfl, ⟨rfl, ⟨rfl, ⟨rfl, ⟨rfl, ⟨rfl, trivial⟩⟩⟩⟩⟩⟩)
                      · refine v_aload_n (q := 251) dX12_round_250 rfl rfl rfl ?_
                        refine v_iload_n (q := 252) dX12_round_251 rfl rfl rfl ?_
                        refine v_iconst (q := 253) dX12_round_252 rfl ic_1 ?_
                        refine v_iload (q := 255) dX12_round_253 rfl rfl ?_
                        refine v_ishl (q := 256) dX12_round_255 rfl ?_
                        refine v_iconst (q := 257) dX12_round_256 rfl ic_1 ?_
                        refine v_iload (q := 259) dX12_round_257 rfl rfl ?_
                        refine v_ishl (q := 260) dX12_round_259 rfl ?_
                        refine v_ior (q := 261) dX12_round_260 rfl ?_
                        refine v_cIV2 (q := 264) (ct_X12_canMeet (d - 1) (by omega) _ _ _ _) dX12_round_261 rfl cc_X12_194 (by omega) (Nat.le_of_ble_eq_true rfl) ⟨Nat.le_of_ble_eq_true rfl, Nat.le_of_ble_eq_true rfl⟩ (fun v27 M28 => ?_)
                        refine v_if_ne (tgt := 276) (q := 267) dX12_round_264 rfl rfl ?_ ?_
                        · refine v_iincL (q := 279) (x := v17) (cst := (1 : Int32)) (f := fun v29 => [some (.ref a0), some (.int x1), some (.int x2), some (.int e11.1), some (.int v13), some (.int v29), some (.int q25.2)]) dX12_round_276 rfl rfl ic_1 rfl (Nat.le_of_ble_eq_true rfl) (fun _ => rfl) (fun v29 => ?_)
                          refine v_goto (tgt := 187) dX12_round_279 rfl ?_
                          exact v_inl (v_weak (hk (M28, v29)) ⟨rfl, ⟨rfl, ⟨rfl, ⟨rfl, ⟨rfl, ⟨rfl, trivial⟩⟩⟩⟩⟩⟩)
                        · refine v_bipush (q := 269) dX12_round_267 rfl bp_100 ?_
                          refine v_iload (q := 271) dX12_round_269 rfl rfl ?_
                          refine v_imul (q := 272) dX12_round_271 rfl ?_
                          refine v_iload (q := 274) dX12_round_272 rfl rfl ?_
                          refine v_iadd (q := 275) dX12_round_274 rfl ?_
                          exact v_iret rfl dX12_round_275 ⟨Nat.le_of_ble_eq_true rfl, Nat.le_of_ble_eq_true rfl⟩ rfl
          · refine v_iconst (q := 91) dX12_round_90 rfl ic_0 ?_
            refine v_istore (q := 93) (loc2 := [some (.ref a0), some (.int x1), some (.int x2), some (.int e11.1), some (.int (0 : Int32)), none, none]) dX12_round_91 rfl rfl (Nat.le_of_ble_eq_true rfl) rfl ?_
            refine v_iconst (q := 94) dX12_round_93 rfl ic_0 ?_
            refine v_istore (q := 96) (loc2 := [some (.ref a0), some (.int x1), some (.int x2), some (.int e11.1), some (.int (0 : Int32)), some (.int (0 : Int32)), none]) dX12_round_94 rfl rfl (Nat.le_of_ble_eq_true rfl) rfl ?_
            refine v_lps (S := Me × Int32 × Int32) 166 (fun s => s.1) (fun s => [some (.ref a0), some (.int x1), some (.int x2), some (.int e11.1), some (.int s.2.1), some (.int s.2.2), none]) (fun e44 => e44.1) (fun e44 => [some (.ref a0), some (.int x1), some (.int x2), some (.int e11.1), some (.int e44.2.1), some (.int e44.2.2), none]) (fun e44 => ?_) (fun k K hk hx s => ?_)
            · refine v_iload (q := 168) dX12_round_166 rfl rfl ?_
              exact v_iret rfl dX12_round_168 ⟨Nat.le_of_ble_eq_true rfl, Nat.le_of_ble_eq_true rfl⟩ rfl
            · obtain ⟨M33, v34, v35⟩ := s
              show V _ _ M33 96 [some (.ref a0), some (.int x1), some (.int x2), some (.int e11.1), some (.int v34), some (.int v35), none] [] (s_X12_round_96 a0 x1 e11 M33 v34 v35) _
              unfold s_X12_round_96
              refine v_iload (q := 98) dX12_round_96 rfl rfl ?_
              refine v_iconst (q := 99) dX12_round_98 rfl ic_1 ?_
              refine v_aload_n (q := 100) dX12_round_99 rfl rfl rfl ?_
              refine v_getIb (q := 103) dX12_round_100 rfl fg_X12_95 (fun v36 => ?_)
              refine v_ishl (q := 104) dX12_round_103 rfl ?_
              refine v_icmp_ge (tgt := 166) (q := 107) dX12_round_104 rfl rfl ?_ ?_
              · exact v_inr (hx (M33, v34, v35))
              · refine v_iload (q := 109) dX12_round_107 rfl rfl ?_
                refine v_iload_n (q := 110) dX12_round_109 rfl rfl rfl ?_
                refine v_iconst (q := 111) dX12_round_110 rfl ic_m1 ?_
                refine v_ixor (q := 112) dX12_round_111 rfl ?_
                refine v_iand (q := 113) dX12_round_112 rfl ?_
                refine v_join (γ := Int32) 131 (fun v38 => M33) (fun v38 => [some (.ref a0), some (.int x1), some (.int x2), some (.int e11.1), some (.int v34), some (.int v35), none]) (fun v38 => [.int v38]) (fun K hK => ?_) (fun v38 => ?_)
                · refine v_if_ne (tgt := 130) (q := 116) dX12_round_113 rfl rfl ?_ ?_
                  · refine v_iconst (q := 131) dX12_round_130 rfl ic_0 ?_
                    exact hK (0 : Int32)
                  · refine v_iload (q := 118) dX12_round_116 rfl rfl ?_
                    refine v_cPS1 (q := 121) (ct_X12_bits (d - 1) (by omega) _ _) dX12_round_118 rfl cc_X12_105 (by omega) (Nat.le_of_ble_eq_true rfl) ⟨Nat.le_of_ble_eq_true rfl, Nat.le_of_ble_eq_true rfl⟩ (fun v37 => ?_)
                    refine v_iload (q := 123) dX12_round_121 rfl rfl ?_
                    refine v_icmp_le (tgt := 130) (q := 126) dX12_round_123 rfl rfl ?_ ?_
                    · refine v_iconst (q := 131) dX12_round_130 rfl ic_0 ?_
                      exact hK (0 : Int32)
                    · refine v_iconst (q := 127) dX12_round_126 rfl ic_1 ?_
                      refine v_goto (tgt := 131) dX12_round_127 rfl ?_
                      exact hK (1 : Int32)
                · refine v_istore (q := 133) (loc2 := [some (.ref a0), some (.int x1), some (.int x2), some (.int e11.1), some (.int v34), some (.int v35), some (.int v38)]) dX12_round_131 rfl rfl (Nat.le_of_ble_eq_true rfl) rfl ?_
                  refine v_iload (q := 135) dX12_round_133 rfl rfl ?_
                  refine v_join (γ := Me × Int32) 158 (fun q42 => q42.1) (fun q42 => [some (.ref a0), some (.int x1), some (.int x2), some (.int e11.1), some (.int v34), some (.int v35), some (.int v38)]) (fun q42 => [.int q42.2]) (fun K hK => ?_) (fun q42 => ?_)
                  · refine v_if_eq (tgt := 156) (q := 138) dX12_round_135 rfl rfl ?_ ?_
                    · refine v_iload (q := 158) dX12_round_156 rfl rfl ?_
                      exact hK (M33, v34)
                    · refine v_aload_n (q := 139) dX12_round_138 rfl rfl rfl ?_
                      refine v_iload_n (q := 140) dX12_round_139 rfl rfl rfl ?_
                      refine v_iload (q := 142) dX12_round_140 rfl rfl ?_
                      refine v_cIV2 (q := 145) (ct_X12_canMeet (d - 1) (by omega) _ _ _ _) dX12_round_142 rfl cc_X12_194 (by omega) (Nat.le_of_ble_eq_true rfl) ⟨Nat.le_of_ble_eq_true rfl, Nat.le_of_ble_eq_true rfl⟩ (fun v39 M40 => ?_)
                      refine v_if_eq (tgt := 156) (q := 148) dX12_round_145 rfl rfl ?_ ?_
                      · refine v_iload (q := 158) dX12_round_156 rfl rfl ?_
                        exact hK (M40, v34)
                      · refine v_iload (q := 150) dX12_round_148 rfl rfl ?_
                        refine v_cPS1 (q := 153) (ct_X12_bits (d - 1) (by omega) _ _) dX12_round_150 rfl cc_X12_105 (by omega) (Nat.le_of_ble_eq_true rfl) ⟨Nat.le_of_ble_eq_true rfl, Nat.le_of_ble_eq_true rfl⟩ (fun v41 => ?_)
                        refine v_goto (tgt := 158) dX12_round_153 rfl ?_
                        exact hK (M40, v41)
                  · refine v_istore (q := 160) (loc2 := [some (.ref a0), some (.int x1), some (.int x2), some (.int e11.1), some (.int q42.2), some (.int v35), some (.int v38)]) dX12_round_158 rfl rfl (Nat.le_of_ble_eq_true rfl) rfl ?_
                    refine v_iincL (q := 163) (x := v35) (cst := (1 : Int32)) (f := fun v43 => [some (.ref a0), some (.int x1), some (.int x2), some (.int e11.1), some (.int q42.2), some (.int v43), some (.int v38)]) dX12_round_160 rfl rfl ic_1 rfl (Nat.le_of_ble_eq_true rfl) (fun _ => rfl) (fun v43 => ?_)
                    refine v_goto (tgt := 96) dX12_round_163 rfl ?_
                    exact v_inl (v_weak (hk (q42.1, q42.2, v43)) ⟨rfl, ⟨rfl, ⟨rfl, ⟨rfl, ⟨rfl, ⟨rfl, trivial⟩⟩⟩⟩⟩⟩)
        · refine v_aload_n (q := 71) dX12_round_70 rfl rfl rfl ?_
          refine v_iload_n (q := 72) dX12_round_71 rfl rfl rfl ?_
          refine v_iload_n (q := 73) dX12_round_72 rfl rfl rfl ?_
          refine v_cIV2 (q := 76) (ct_X12_canMeet (d - 1) (by omega) _ _ _ _) dX12_round_73 rfl cc_X12_194 (by omega) (Nat.le_of_ble_eq_true rfl) ⟨Nat.le_of_ble_eq_true rfl, Nat.le_of_ble_eq_true rfl⟩ (fun v45 M46 => ?_)
          refine v_join (γ := Int32) 84 (fun v47 => M46) (fun v47 => [some (.ref a0), some (.int x1), some (.int x2), some (.int e11.1), some (.int e11.2), none, none]) (fun v47 => [.int v47]) (fun K hK => ?_) (fun v47 => ?_)
          · refine v_if_eq (tgt := 83) (q := 79) dX12_round_76 rfl rfl ?_ ?_
            · refine v_iconst (q := 84) dX12_round_83 rfl ic_0 ?_
              exact hK (0 : Int32)
            · refine v_iconst (q := 80) dX12_round_79 rfl ic_1 ?_
              refine v_goto (tgt := 84) dX12_round_80 rfl ?_
              exact hK (1 : Int32)
          · exact v_iret rfl dX12_round_84 ⟨Nat.le_of_ble_eq_true rfl, Nat.le_of_ble_eq_true rfl⟩ rfl
      · obtain ⟨v3, v4⟩ := s
        show V _ _ M 27 [some (.ref a0), some (.int x1), some (.int x2), some (.int v3), some (.int v4), none, none] [] (s_X12_round_27 a0 x1 M v3 v4) _
        unfold s_X12_round_27
        refine v_iload (q := 29) dX12_round_27 rfl rfl ?_
        refine v_aload_n (q := 30) dX12_round_29 rfl rfl rfl ?_
        refine v_getIb (q := 33) dX12_round_30 rfl fg_X12_95 (fun v5 => ?_)
        refine v_icmp_ge (tgt := 66) (q := 36) dX12_round_33 rfl rfl ?_ ?_
        · exact v_inr (hx (v3, v4))
        · refine v_iload_n (q := 37) dX12_round_36 rfl rfl rfl ?_
          refine v_aload_n (q := 38) dX12_round_37 rfl rfl rfl ?_
          refine v_getRb (q := 41) dX12_round_38 rfl fg_X12_41 (fun o6 => ?_)
          refine v_iconst (q := 42) dX12_round_41 rfl ic_4 ?_
          refine v_iload (q := 44) dX12_round_42 rfl rfl ?_
          refine v_imul (q := 45) dX12_round_44 rfl ?_
          refine v_iaload (q := 46) dX12_round_45 rfl (fun v7 => ?_)
          refine v_iload_n (q := 47) dX12_round_46 rfl rfl rfl ?_
          refine v_join (γ := Int32) 58 (fun v8 => M) (fun v8 => [some (.ref a0), some (.int x1), some (.int x2), some (.int v3), some (.int v4), none, none]) (fun v8 => [.int v8, .int v3]) (fun K hK => ?_) (fun v8 => ?_)
          · refine v_icmp_ne (tgt := 57) (q := 50) dX12_round_47 rfl rfl ?_ ?_
            · refine v_iconst (q := 58) dX12_round_57 rfl ic_0 ?_
              exact hK (0 : Int32)
            · refine v_iconst (q := 51) dX12_round_50 rfl ic_1 ?_
              refine v_iload (q := 53) dX12_round_51 rfl rfl ?_
              refine v_ishl (q := 54) dX12_round_53 rfl ?_
              refine v_goto (tgt := 58) dX12_round_54 rfl ?_
              exact hK ((1 : Int32) <<< (v4 &&& 31))
          · refine v_ior (q := 59) dX12_round_58 rfl ?_
            refine v_letI (fun v9 => ?_)
            refine v_istore_n (q := 60) (loc2 := [some (.ref a0), some (.int x1), some (.int x2), some (.int v9), some (.int v4), none, none]) dX12_round_59 rfl rfl rfl (Nat.le_of_ble_eq_true rfl) rfl ?_
            refine v_iincL (q := 63) (x := v4) (cst := (1 : Int32)) (f := fun v10 => [some (.ref a0), some (.int x1), some (.int x2), some (.int v9), some (.int v10), none, none]) dX12_round_60 rfl rfl ic_1 rfl (Nat.le_of_ble_eq_true rfl) (fun _ => rfl) (fun v10 => ?_)
            refine v_goto (tgt := 27) dX12_round_63 rfl ?_
            exact v_inl (hk (v9, v10))
    · refine v_bipush (q := 21) dX12_round_19 rfl bp_m2 ?_
      exact v_iret rfl dX12_round_21 ⟨Nat.le_of_ble_eq_true rfl, Nat.le_of_ble_eq_true rfl⟩ rfl
  · refine v_iconst (q := 9) dX12_round_8 rfl ic_m1 ?_
    exact v_iret rfl dX12_round_9 ⟨Nat.le_of_ble_eq_true rfl, Nat.le_of_ble_eq_true rfl⟩ rfl
theorem ct_X12_round (d : Nat) (hd : 3 ≤ d) (a0 : Nat) (x1 : Int32) (x2 : Int32) (M : Me) (r : Int32) (M2 : Me) (hf : f_X12_round a0 x1 x2 M = some (r, M2)) : me_k M a0 = some (12, nf_c 12) ∧ Ct yX12_round mX12_round d 0 0 [.ref a0, .int x1, .int x2] M (some (.int r), M2) := by
  obtain ⟨hk, hb⟩ := ck_some hf
  exact ⟨hk, ct_of (by decide +kernel) rfl rfl (Nat.le_of_ble_eq_true rfl) (vb_X12_round d hd a0 x1 x2 M) (by rw [hb]; rfl)⟩
theorem dX12_hard_0 : decode cX12_hard 0 = .ok (.aload_n 0, 1) := by decide +kernel
theorem dX12_hard_1 : decode cX12_hard 1 = .ok (.iload_n 1, 1) := by decide +kernel
theorem dX12_hard_2 : decode cX12_hard 2 = .ok (.invokevirtual 188, 3) := by decide +kernel
theorem dX12_hard_5 : decode cX12_hard 5 = .ok (.ifCond .eq 16, 3) := by decide +kernel
theorem dX12_hard_8 : decode cX12_hard 8 = .ok (.aload_n 0, 1) := by decide +kernel
theorem dX12_hard_9 : decode cX12_hard 9 = .ok (.iload_n 2, 1) := by decide +kernel
theorem dX12_hard_10 : decode cX12_hard 10 = .ok (.invokevirtual 188, 3) := by decide +kernel
theorem dX12_hard_13 : decode cX12_hard 13 = .ok (.ifCond .eq 8, 3) := by decide +kernel
theorem dX12_hard_16 : decode cX12_hard 16 = .ok (.iload_n 1, 1) := by decide +kernel
theorem dX12_hard_17 : decode cX12_hard 17 = .ok (.iload_n 2, 1) := by decide +kernel
theorem dX12_hard_18 : decode cX12_hard 18 = .ok (.if_icmp .ne 5, 3) := by decide +kernel
theorem dX12_hard_21 : decode cX12_hard 21 = .ok (.iconst (-1), 1) := by decide +kernel
theorem dX12_hard_22 : decode cX12_hard 22 = .ok (.ireturn, 1) := by decide +kernel
theorem dX12_hard_23 : decode cX12_hard 23 = .ok (.iload_n 3, 1) := by decide +kernel
theorem dX12_hard_24 : decode cX12_hard 24 = .ok (.iconst 0, 1) := by decide +kernel
theorem dX12_hard_25 : decode cX12_hard 25 = .ok (.bipush 20, 2) := by decide +kernel
theorem dX12_hard_27 : decode cX12_hard 27 = .ok (.invokestatic 81, 3) := by decide +kernel
theorem dX12_hard_30 : decode cX12_hard 30 = .ok (.ifCond .eq 24, 3) := by decide +kernel
theorem dX12_hard_33 : decode cX12_hard 33 = .ok (.iload 4, 2) := by decide +kernel
theorem dX12_hard_35 : decode cX12_hard 35 = .ok (.iconst 0, 1) := by decide +kernel
theorem dX12_hard_36 : decode cX12_hard 36 = .ok (.bipush 20, 2) := by decide +kernel
theorem dX12_hard_38 : decode cX12_hard 38 = .ok (.invokestatic 81, 3) := by decide +kernel
theorem dX12_hard_41 : decode cX12_hard 41 = .ok (.ifCond .eq 13, 3) := by decide +kernel
theorem dX12_hard_44 : decode cX12_hard 44 = .ok (.iload 5, 2) := by decide +kernel
theorem dX12_hard_46 : decode cX12_hard 46 = .ok (.iconst 0, 1) := by decide +kernel
theorem dX12_hard_47 : decode cX12_hard 47 = .ok (.iconst 1, 1) := by decide +kernel
theorem dX12_hard_48 : decode cX12_hard 48 = .ok (.invokestatic 81, 3) := by decide +kernel
theorem dX12_hard_51 : decode cX12_hard 51 = .ok (.ifCond .ne 6, 3) := by decide +kernel
theorem dX12_hard_54 : decode cX12_hard 54 = .ok (.bipush (-2), 2) := by decide +kernel
theorem dX12_hard_56 : decode cX12_hard 56 = .ok (.ireturn, 1) := by decide +kernel
theorem dX12_hard_57 : decode cX12_hard 57 = .ok (.ldc 197, 2) := by decide +kernel
theorem dX12_hard_59 : decode cX12_hard 59 = .ok (.istore 6, 2) := by decide +kernel
theorem dX12_hard_61 : decode cX12_hard 61 = .ok (.iconst 0, 1) := by decide +kernel
theorem dX12_hard_62 : decode cX12_hard 62 = .ok (.istore 7, 2) := by decide +kernel
theorem dX12_hard_64 : decode cX12_hard 64 = .ok (.iconst 0, 1) := by decide +kernel
theorem dX12_hard_65 : decode cX12_hard 65 = .ok (.istore 8, 2) := by decide +kernel
theorem dX12_hard_67 : decode cX12_hard 67 = .ok (.iload 8, 2) := by decide +kernel
theorem dX12_hard_69 : decode cX12_hard 69 = .ok (.aload_n 0, 1) := by decide +kernel
theorem dX12_hard_70 : decode cX12_hard 70 = .ok (.getfield 20, 3) := by decide +kernel
theorem dX12_hard_73 : decode cX12_hard 73 = .ok (.iload_n 1, 1) := by decide +kernel
theorem dX12_hard_74 : decode cX12_hard 74 = .ok (.iaload, 1) := by decide +kernel
theorem dX12_hard_75 : decode cX12_hard 75 = .ok (.if_icmp .gt 123, 3) := by decide +kernel
theorem dX12_hard_78 : decode cX12_hard 78 = .ok (.iload 8, 2) := by decide +kernel
theorem dX12_hard_80 : decode cX12_hard 80 = .ok (.aload_n 0, 1) := by decide +kernel
theorem dX12_hard_81 : decode cX12_hard 81 = .ok (.getfield 20, 3) := by decide +kernel
theorem dX12_hard_84 : decode cX12_hard 84 = .ok (.iload_n 2, 1) := by decide +kernel
theorem dX12_hard_85 : decode cX12_hard 85 = .ok (.iaload, 1) := by decide +kernel
theorem dX12_hard_86 : decode cX12_hard 86 = .ok (.if_icmp .ge 8, 3) := by decide +kernel
theorem dX12_hard_89 : decode cX12_hard 89 = .ok (.iload 8, 2) := by decide +kernel
theorem dX12_hard_91 : decode cX12_hard 91 = .ok (.goto 9, 3) := by decide +kernel
theorem dX12_hard_94 : decode cX12_hard 94 = .ok (.aload_n 0, 1) := by decide +kernel
theorem dX12_hard_95 : decode cX12_hard 95 = .ok (.getfield 20, 3) := by decide +kernel
theorem dX12_hard_98 : decode cX12_hard 98 = .ok (.iload_n 2, 1) := by decide +kernel
theorem dX12_hard_99 : decode cX12_hard 99 = .ok (.iaload, 1) := by decide +kernel
theorem dX12_hard_100 : decode cX12_hard 100 = .ok (.istore 9, 2) := by decide +kernel
theorem dX12_hard_102 : decode cX12_hard 102 = .ok (.aload_n 0, 1) := by decide +kernel
theorem dX12_hard_103 : decode cX12_hard 103 = .ok (.getfield 35, 3) := by decide +kernel
theorem dX12_hard_106 : decode cX12_hard 106 = .ok (.iload_n 2, 1) := by decide +kernel
theorem dX12_hard_107 : decode cX12_hard 107 = .ok (.iaload, 1) := by decide +kernel
theorem dX12_hard_108 : decode cX12_hard 108 = .ok (.iload 8, 2) := by decide +kernel
theorem dX12_hard_110 : decode cX12_hard 110 = .ok (.if_icmp .le 7, 3) := by decide +kernel
theorem dX12_hard_113 : decode cX12_hard 113 = .ok (.iconst 1, 1) := by decide +kernel
theorem dX12_hard_114 : decode cX12_hard 114 = .ok (.goto 4, 3) := by decide +kernel
theorem dX12_hard_117 : decode cX12_hard 117 = .ok (.iconst 0, 1) := by decide +kernel
theorem dX12_hard_118 : decode cX12_hard 118 = .ok (.istore 10, 2) := by decide +kernel
theorem dX12_hard_120 : decode cX12_hard 120 = .ok (.iload_n 3, 1) := by decide +kernel
theorem dX12_hard_121 : decode cX12_hard 121 = .ok (.iload 8, 2) := by decide +kernel
theorem dX12_hard_123 : decode cX12_hard 123 = .ok (.imul, 1) := by decide +kernel
theorem dX12_hard_124 : decode cX12_hard 124 = .ok (.iload 10, 2) := by decide +kernel
theorem dX12_hard_126 : decode cX12_hard 126 = .ok (.ifCond .eq 30, 3) := by decide +kernel
theorem dX12_hard_129 : decode cX12_hard 129 = .ok (.iload 4, 2) := by decide +kernel
theorem dX12_hard_131 : decode cX12_hard 131 = .ok (.iload 9, 2) := by decide +kernel
theorem dX12_hard_133 : decode cX12_hard 133 = .ok (.imul, 1) := by decide +kernel
theorem dX12_hard_134 : decode cX12_hard 134 = .ok (.aload_n 0, 1) := by decide +kernel
theorem dX12_hard_135 : decode cX12_hard 135 = .ok (.getfield 35, 3) := by decide +kernel
theorem dX12_hard_138 : decode cX12_hard 138 = .ok (.iload_n 1, 1) := by decide +kernel
theorem dX12_hard_139 : decode cX12_hard 139 = .ok (.iaload, 1) := by decide +kernel
theorem dX12_hard_140 : decode cX12_hard 140 = .ok (.iload 9, 2) := by decide +kernel
theorem dX12_hard_142 : decode cX12_hard 142 = .ok (.if_icmp .gt 9, 3) := by decide +kernel
theorem dX12_hard_145 : decode cX12_hard 145 = .ok (.sipush 1000, 3) := by decide +kernel
theorem dX12_hard_148 : decode cX12_hard 148 = .ok (.goto 4, 3) := by decide +kernel
theorem dX12_hard_151 : decode cX12_hard 151 = .ok (.iconst 0, 1) := by decide +kernel
theorem dX12_hard_152 : decode cX12_hard 152 = .ok (.iadd, 1) := by decide +kernel
theorem dX12_hard_153 : decode cX12_hard 153 = .ok (.goto 4, 3) := by decide +kernel
theorem dX12_hard_156 : decode cX12_hard 156 = .ok (.iconst 0, 1) := by decide +kernel
theorem dX12_hard_157 : decode cX12_hard 157 = .ok (.isub, 1) := by decide +kernel
theorem dX12_hard_158 : decode cX12_hard 158 = .ok (.istore 11, 2) := by decide +kernel
theorem dX12_hard_160 : decode cX12_hard 160 = .ok (.iload 11, 2) := by decide +kernel
theorem dX12_hard_162 : decode cX12_hard 162 = .ok (.iload 6, 2) := by decide +kernel
theorem dX12_hard_164 : decode cX12_hard 164 = .ok (.if_icmp .le 8, 3) := by decide +kernel
theorem dX12_hard_167 : decode cX12_hard 167 = .ok (.iload 8, 2) := by decide +kernel
theorem dX12_hard_169 : decode cX12_hard 169 = .ok (.goto 5, 3) := by decide +kernel
theorem dX12_hard_172 : decode cX12_hard 172 = .ok (.iload 7, 2) := by decide +kernel
theorem dX12_hard_174 : decode cX12_hard 174 = .ok (.istore 7, 2) := by decide +kernel
theorem dX12_hard_176 : decode cX12_hard 176 = .ok (.iload 11, 2) := by decide +kernel
theorem dX12_hard_178 : decode cX12_hard 178 = .ok (.iload 6, 2) := by decide +kernel
theorem dX12_hard_180 : decode cX12_hard 180 = .ok (.if_icmp .le 8, 3) := by decide +kernel
theorem dX12_hard_183 : decode cX12_hard 183 = .ok (.iload 11, 2) := by decide +kernel
theorem dX12_hard_185 : decode cX12_hard 185 = .ok (.goto 5, 3) := by decide +kernel
theorem dX12_hard_188 : decode cX12_hard 188 = .ok (.iload 6, 2) := by decide +kernel
theorem dX12_hard_190 : decode cX12_hard 190 = .ok (.istore 6, 2) := by decide +kernel
theorem dX12_hard_192 : decode cX12_hard 192 = .ok (.iinc 8 1, 3) := by decide +kernel
theorem dX12_hard_195 : decode cX12_hard 195 = .ok (.goto (-128), 3) := by decide +kernel
theorem dX12_hard_198 : decode cX12_hard 198 = .ok (.iload 5, 2) := by decide +kernel
theorem dX12_hard_200 : decode cX12_hard 200 = .ok (.ifCond .ne 8, 3) := by decide +kernel
theorem dX12_hard_203 : decode cX12_hard 203 = .ok (.iload 7, 2) := by decide +kernel
theorem dX12_hard_205 : decode cX12_hard 205 = .ok (.goto 9, 3) := by decide +kernel
theorem dX12_hard_208 : decode cX12_hard 208 = .ok (.iload 6, 2) := by decide +kernel
theorem dX12_hard_210 : decode cX12_hard 210 = .ok (.sipush 10000, 3) := by decide +kernel
theorem dX12_hard_213 : decode cX12_hard 213 = .ok (.iadd, 1) := by decide +kernel
theorem dX12_hard_214 : decode cX12_hard 214 = .ok (.ireturn, 1) := by decide +kernel
noncomputable def s_X12_hard_67 (a0 : Nat) (x1 : Int32) (x2 : Int32) (x3 : Int32) (x4 : Int32) (M : Me) (v6 : Int32) (v7 : Int32) (v8 : Int32) : Option ((Int32 × Int32 × Int32) ⊕ (Int32 × Int32 × Int32)) :=
  gr M a0 12 4 fun o9 =>
  li M o9 x1 fun v10 =>
  if v10 < v8 then (
    some (Sum.inr (v6, v7, v8))
  ) else (
    gr M a0 12 4 fun o11 =>
    li M o11 x2 fun v12 =>
    (
      if v12 ≤ v8 then (
        gr M a0 12 4 fun o13 =>
        li M o13 x2 fun v14 =>
        some v14
      ) else (
        some v8
      )
    ).bind fun v15 =>
    gr M a0 12 11 fun o16 =>
    li M o16 x2 fun v17 =>
    (
      if v17 ≤ v8 then (
        some (0 : Int32)
      ) else (
        some (1 : Int32)
      )
    ).bind fun v18 =>
    (
      if v18 = 0 then (
        some (0 : Int32)
      ) else (
        gr M a0 12 11 fun o19 =>
        li M o19 x1 fun v20 =>
        (
          if v15 < v20 then (
            some (0 : Int32)
          ) else (
            some (1000 : Int32)
          )
        ).bind fun v21 =>
        some ((x4 * v15) + v21)
      )
    ).bind fun v22 =>
    let_v (((x3 * v8) - v22)) fun v23 =>
    (
      if v23 ≤ v6 then (
        some v7
      ) else (
        some v8
      )
    ).bind fun v24 =>
    (
      if v23 ≤ v6 then (
        some v6
      ) else (
        some v23
      )
    ).bind fun v25 =>
    let_v (v8 + (1 : Int32)) fun v26 =>
    some (Sum.inl (v25, v24, v26))
  )
noncomputable def b_X12_hard (a0 : Nat) (x1 : Int32) (x2 : Int32) (x3 : Int32) (x4 : Int32) (x5 : Int32) (M : Me) : Option (Int32) :=
  cP (f_X12_isWell a0 x1 M) fun v1 =>
  if v1 = 0 then (
    some (-1 : Int32)
  ) else (
    cP (f_X12_isWell a0 x2 M) fun v2 =>
    if v2 = 0 then (
      some (-1 : Int32)
    ) else (
      if x1 = x2 then (
        some (-1 : Int32)
      ) else (
        cP (f_X12_in x3 (0 : Int32) (20 : Int32) M) fun v3 =>
        if v3 = 0 then (
          some (-2 : Int32)
        ) else (
          cP (f_X12_in x4 (0 : Int32) (20 : Int32) M) fun v4 =>
          if v4 = 0 then (
            some (-2 : Int32)
          ) else (
            cP (f_X12_in x5 (0 : Int32) (1 : Int32) M) fun v5 =>
            if v5 = 0 then (
              some (-2 : Int32)
            ) else (
              (lp (fun s => s_X12_hard_67 a0 x1 x2 x3 x4 M s.1 s.2.1 s.2.2) ((-10000000 : Int32), (0 : Int32), (0 : Int32))).bind fun e27 =>
              (
                if x5 = 0 then (
                  some e27.2.1
                ) else (
                  some (e27.1 + (10000 : Int32))
                )
              ).bind fun v28 =>
              some v28
            )
          )
        )
      )
    )
  )
noncomputable def f_X12_hard (a0 : Nat) (x1 : Int32) (x2 : Int32) (x3 : Int32) (x4 : Int32) (x5 : Int32) (M : Me) : Option (Int32) := ck M a0 12 (b_X12_hard a0 x1 x2 x3 x4 x5 M)
set_option maxRecDepth 20000 in
theorem vb_X12_hard (d : Nat) (hd : 3 ≤ d) (a0 : Nat) (x1 : Int32) (x2 : Int32) (x3 : Int32) (x4 : Int32) (x5 : Int32) (M : Me) : V (mX12_hard, d, 0, 0) (0, 0) M 0 [some (.ref a0), some (.int x1), some (.int x2), some (.int x3), some (.int x4), some (.int x5), none, none, none, none, none, none] [] (b_X12_hard a0 x1 x2 x3 x4 x5 M) (fun z => some (some (.int z), M)) := by
  unfold b_X12_hard
  refine v_aload_n (q := 1) dX12_hard_0 rfl rfl rfl ?_
  refine v_iload_n (q := 2) dX12_hard_1 rfl rfl rfl ?_
  refine v_cPV1 (q := 5) (ct_X12_isWell (d - 1) (by omega) _ _ _) dX12_hard_2 rfl cc_X12_188 (by omega) (Nat.le_of_ble_eq_true rfl) ⟨Nat.le_of_ble_eq_true rfl, Nat.le_of_ble_eq_true rfl⟩ (fun v1 => ?_)
  refine v_if_eq (tgt := 21) (q := 8) dX12_hard_5 rfl rfl ?_ ?_
  · refine v_iconst (q := 22) dX12_hard_21 rfl ic_m1 ?_
    exact v_iret rfl dX12_hard_22 ⟨Nat.le_of_ble_eq_true rfl, Nat.le_of_ble_eq_true rfl⟩ rfl
  · refine v_aload_n (q := 9) dX12_hard_8 rfl rfl rfl ?_
    refine v_iload_n (q := 10) dX12_hard_9 rfl rfl rfl ?_
    refine v_cPV1 (q := 13) (ct_X12_isWell (d - 1) (by omega) _ _ _) dX12_hard_10 rfl cc_X12_188 (by omega) (Nat.le_of_ble_eq_true rfl) ⟨Nat.le_of_ble_eq_true rfl, Nat.le_of_ble_eq_true rfl⟩ (fun v2 => ?_)
    refine v_if_eq (tgt := 21) (q := 16) dX12_hard_13 rfl rfl ?_ ?_
    · refine v_iconst (q := 22) dX12_hard_21 rfl ic_m1 ?_
      exact v_iret rfl dX12_hard_22 ⟨Nat.le_of_ble_eq_true rfl, Nat.le_of_ble_eq_true rfl⟩ rfl
    · refine v_iload_n (q := 17) dX12_hard_16 rfl rfl rfl ?_
      refine v_iload_n (q := 18) dX12_hard_17 rfl rfl rfl ?_
      refine v_icmp_ne (tgt := 23) (q := 21) dX12_hard_18 rfl rfl ?_ ?_
      · refine v_iload_n (q := 24) dX12_hard_23 rfl rfl rfl ?_
        refine v_iconst (q := 25) dX12_hard_24 rfl ic_0 ?_
        refine v_bipush (q := 27) dX12_hard_25 rfl bp_20 ?_
        refine v_cPS3 (q := 30) (ct_X12_in (d - 1) (by omega) _ _ _ _) dX12_hard_27 rfl cc_X12_81 (by omega) (Nat.le_of_ble_eq_true rfl) ⟨Nat.le_of_ble_eq_true rfl, Nat.le_of_ble_eq_true rfl⟩ (fun v3 => ?_)
        refine v_if_eq (tgt := 54) (q := 33) dX12_hard_30 rfl rfl ?_ ?_
        · refine v_bipush (q := 56) dX12_hard_54 rfl bp_m2 ?_
          exact v_iret rfl dX12_hard_56 ⟨Nat.le_of_ble_eq_true rfl, Nat.le_of_ble_eq_true rfl⟩ rfl
        · refine v_iload (q := 35) dX12_hard_33 rfl rfl ?_
          refine v_iconst (q := 36) dX12_hard_35 rfl ic_0 ?_
          refine v_bipush (q := 38) dX12_hard_36 rfl bp_20 ?_
          refine v_cPS3 (q := 41) (ct_X12_in (d - 1) (by omega) _ _ _ _) dX12_hard_38 rfl cc_X12_81 (by omega) (Nat.le_of_ble_eq_true rfl) ⟨Nat.le_of_ble_eq_true rfl, Nat.le_of_ble_eq_true rfl⟩ (fun v4 => ?_)
          refine v_if_eq (tgt := 54) (q := 44) dX12_hard_41 rfl rfl ?_ ?_
          · refine v_bipush (q := 56) dX12_hard_54 rfl bp_m2 ?_
            exact v_iret rfl dX12_hard_56 ⟨Nat.le_of_ble_eq_true rfl, Nat.le_of_ble_eq_true rfl⟩ rfl
          · refine v_iload (q := 46) dX12_hard_44 rfl rfl ?_
            refine v_iconst (q := 47) dX12_hard_46 rfl ic_0 ?_
            refine v_iconst (q := 48) dX12_hard_47 rfl ic_1 ?_
            refine v_cPS3 (q := 51) (ct_X12_in (d - 1) (by omega) _ _ _ _) dX12_hard_48 rfl cc_X12_81 (by omega) (Nat.le_of_ble_eq_true rfl) ⟨Nat.le_of_ble_eq_true rfl, Nat.le_of_ble_eq_true rfl⟩ (fun v5 => ?_)
            refine v_if_ne (tgt := 57) (q := 54) dX12_hard_51 rfl rfl ?_ ?_
            · refine v_ldc (q := 59) (v := (-10000000 : Int32)) kc_X12_197 dX12_hard_57 rfl ?_
              refine v_istore (q := 61) (loc2 := [some (.ref a0), some (.int x1), some (.int x2), some (.int x3), some (.int x4), some (.int x5), some (.int (-10000000 : Int32)), none, none, none, none, none]) dX12_hard_59 rfl rfl (Nat.le_of_ble_eq_true rfl) rfl ?_
              refine v_iconst (q := 62) dX12_hard_61 rfl ic_0 ?_
              refine v_istore (q := 64) (loc2 := [some (.ref a0), some (.int x1), some (.int x2), some (.int x3), some (.int x4), some (.int x5), some (.int (-10000000 : Int32)), some (.int (0 : Int32)), none, none, none, none]) dX12_hard_62 rfl rfl (Nat.le_of_ble_eq_true rfl) rfl ?_
              refine v_iconst (q := 65) dX12_hard_64 rfl ic_0 ?_
              refine v_istore (q := 67) (loc2 := [some (.ref a0), some (.int x1), some (.int x2), some (.int x3), some (.int x4), some (.int x5), some (.int (-10000000 : Int32)), some (.int (0 : Int32)), some (.int (0 : Int32)), none, none, none]) dX12_hard_65 rfl rfl (Nat.le_of_ble_eq_true rfl) rfl ?_
              refine v_lps (S := Int32 × Int32 × Int32) 198 (fun s => M) (fun s => [some (.ref a0), some (.int x1), some (.int x2), some (.int x3), some (.int x4), some (.int x5), some (.int s.1), some (.int s.2.1), some (.int s.2.2), none, none, none]) (fun e27 => M) (fun e27 => [some (.ref a0), some (.int x1), some (.int x2), some (.int x3), some (.int x4), some (.int x5), some (.int e27.1), some (.int e27.2.1), some (.int e27.2.2), none, none, none]) (fun e27 => ?_) (fun k K hk hx s => ?_)
              · refine v_iload (q := 200) dX12_hard_198 rfl rfl ?_
                refine v_join (γ := Int32) 214 (fun v28 => M) (fun v28 => [some (.ref a0), some (.int x1), some (.int x2), some (.int x3), some (.int x4), some (.int x5), some (.int e27.1), some (.int e27.2.1), some (.int e27.2.2), none, none, none]) (fun v28 => [.int v28]) (fun K hK => ?_) (fun v28 => ?_)
                · refine v_if_ne (tgt := 208) (q := 203) dX12_hard_200 rfl rfl ?_ ?_
                  · refine v_iload (q := 210) dX12_hard_208 rfl rfl ?_
                    refine v_sipush (q := 213) dX12_hard_210 rfl sp_10000 ?_
                    refine v_iadd (q := 214) dX12_hard_213 rfl ?_
                    exact hK (e27.1 + (10000 : Int32))
                  · refine v_iload (q := 205) dX12_hard_203 rfl rfl ?_
                    refine v_goto (tgt := 214) dX12_hard_205 rfl ?_
                    exact hK e27.2.1
                · exact v_iret rfl dX12_hard_214 ⟨Nat.le_of_ble_eq_true rfl, Nat.le_of_ble_eq_true rfl⟩ rfl
              · obtain ⟨v6, v7, v8⟩ := s
                show V _ _ M 67 [some (.ref a0), some (.int x1), some (.int x2), some (.int x3), some (.int x4), some (.int x5), some (.int v6), some (.int v7), some (.int v8), none, none, none] [] (s_X12_hard_67 a0 x1 x2 x3 x4 M v6 v7 v8) _
                unfold s_X12_hard_67
                refine v_iload (q := 69) dX12_hard_67 rfl rfl ?_
                refine v_aload_n (q := 70) dX12_hard_69 rfl rfl rfl ?_
                refine v_getRb (q := 73) dX12_hard_70 rfl fg_X12_20 (fun o9 => ?_)
                refine v_iload_n (q := 74) dX12_hard_73 rfl rfl rfl ?_
                refine v_iaload (q := 75) dX12_hard_74 rfl (fun v10 => ?_)
                refine v_icmp_gt (tgt := 198) (q := 78) dX12_hard_75 rfl rfl ?_ ?_
                · exact v_inr (hx (v6, v7, v8))
                · refine v_iload (q := 80) dX12_hard_78 rfl rfl ?_
                  refine v_aload_n (q := 81) dX12_hard_80 rfl rfl rfl ?_
                  refine v_getRb (q := 84) dX12_hard_81 rfl fg_X12_20 (fun o11 => ?_)
                  refine v_iload_n (q := 85) dX12_hard_84 rfl rfl rfl ?_
                  refine v_iaload (q := 86) dX12_hard_85 rfl (fun v12 => ?_)
                  refine v_join (γ := Int32) 100 (fun v15 => M) (fun v15 => [some (.ref a0), some (.int x1), some (.int x2), some (.int x3), some (.int x4), some (.int x5), some (.int v6), some (.int v7), some (.int v8), none, none, none]) (fun v15 => [.int v15]) (fun K hK => ?_) (fun v15 => ?_)
                  · refine v_icmp_ge (tgt := 94) (q := 89) dX12_hard_86 rfl rfl ?_ ?_
                    · refine v_aload_n (q := 95) dX12_hard_94 rfl rfl rfl ?_
                      refine v_getRb (q := 98) dX12_hard_95 rfl fg_X12_20 (fun o13 => ?_)
                      refine v_iload_n (q := 99) dX12_hard_98 rfl rfl rfl ?_
                      refine v_iaload (q := 100) dX12_hard_99 rfl (fun v14 => ?_)
                      exact hK v14
                    · refine v_iload (q := 91) dX12_hard_89 rfl rfl ?_
                      refine v_goto (tgt := 100) dX12_hard_91 rfl ?_
                      exact hK v8
                  · refine v_istore (q := 102) (loc2 := [some (.ref a0), some (.int x1), some (.int x2), some (.int x3), some (.int x4), some (.int x5), some (.int v6), some (.int v7), some (.int v8), some (.int v15), none, none]) dX12_hard_100 rfl rfl (Nat.le_of_ble_eq_true rfl) rfl ?_
                    refine v_aload_n (q := 103) dX12_hard_102 rfl rfl rfl ?_
                    refine v_getRb (q := 106) dX12_hard_103 rfl fg_X12_35 (fun o16 => ?_)
                    refine v_iload_n (q := 107) dX12_hard_106 rfl rfl rfl ?_
                    refine v_iaload (q := 108) dX12_hard_107 rfl (fun v17 => ?_)
                    refine v_iload (q := 110) dX12_hard_108 rfl rfl ?_
                    refine v_join (γ := Int32) 118 (fun v18 => M) (fun v18 => [some (.ref a0), some (.int x1), some (.int x2), some (.int x3), some (.int x4), some (.int x5), some (.int v6), some (.int v7), some (.int v8), some (.int v15), none, none]) (fun v18 => [.int v18]) (fun K hK => ?_) (fun v18 => ?_)
                    · refine v_icmp_le (tgt := 117) (q := 113) dX12_hard_110 rfl rfl ?_ ?_
                      · refine v_iconst (q := 118) dX12_hard_117 rfl ic_0 ?_
                        exact hK (0 : Int32)
                      · refine v_iconst (q := 114) dX12_hard_113 rfl ic_1 ?_
                        refine v_goto (tgt := 118) dX12_hard_114 rfl ?_
                        exact hK (1 : Int32)
                    · refine v_istore (q := 120) (loc2 := [some (.ref a0), some (.int x1), some (.int x2), some (.int x3), some (.int x4), some (.int x5), some (.int v6), some (.int v7), some (.int v8), some (.int v15), some (.int v18), none]) dX12_hard_118 rfl rfl (Nat.le_of_ble_eq_true rfl) rfl ?_
                      refine v_iload_n (q := 121) dX12_hard_120 rfl rfl rfl ?_
                      refine v_iload (q := 123) dX12_hard_121 rfl rfl ?_
                      refine v_imul (q := 124) dX12_hard_123 rfl ?_
                      refine v_iload (q := 126) dX12_hard_124 rfl rfl ?_
                      refine v_join (γ := Int32) 157 (fun v22 => M) (fun v22 => [some (.ref a0), some (.int x1), some (.int x2), some (.int x3), some (.int x4), some (.int x5), some (.int v6), some (.int v7), some (.int v8), some (.int v15), some (.int v18), none]) (fun v22 => [.int v22, .int (x3 * v8)]) (fun K hK => ?_) (fun v22 => ?_)
                      · refine v_if_eq (tgt := 156) (q := 129) dX12_hard_126 rfl rfl ?_ ?_
                        · refine v_iconst (q := 157) dX12_hard_156 rfl ic_0 ?_
                          exact hK (0 : Int32)
                        · refine v_iload (q := 131) dX12_hard_129 rfl rfl ?_
                          refine v_iload (q := 133) dX12_hard_131 rfl rfl ?_
                          refine v_imul (q := 134) dX12_hard_133 rfl ?_
                          refine v_aload_n (q := 135) dX12_hard_134 rfl rfl rfl ?_
                          refine v_getRb (q := 138) dX12_hard_135 rfl fg_X12_35 (fun o19 => ?_)
                          refine v_iload_n (q := 139) dX12_hard_138 rfl rfl rfl ?_
                          refine v_iaload (q := 140) dX12_hard_139 rfl (fun v20 => ?_)
                          refine v_iload (q := 142) dX12_hard_140 rfl rfl ?_
                          refine v_join (γ := Int32) 152 (fun v21 => M) (fun v21 => [some (.ref a0), some (.int x1), some (.int x2), some (.int x3), some (.int x4), some (.int x5), some (.int v6), some (.int v7), some (.int v8), some (.int v15), some (.int v18), none]) (fun v21 => [.int v21, .int (x4 * v15), .int (x3 * v8)]) (fun K hK => ?_) (fun v21 => ?_)
                          · refine v_icmp_gt (tgt := 151) (q := 145) dX12_hard_142 rfl rfl ?_ ?_
                            · refine v_iconst (q := 152) dX12_hard_151 rfl ic_0 ?_
                              exact hK (0 : Int32)
                            · refine v_sipush (q := 148) dX12_hard_145 rfl sp_1000 ?_
                              refine v_goto (tgt := 152) dX12_hard_148 rfl ?_
                              exact hK (1000 : Int32)
                          · refine v_iadd (q := 153) dX12_hard_152 rfl ?_
                            refine v_goto (tgt := 157) dX12_hard_153 rfl ?_
                            exact hK ((x4 * v15) + v21)
                      · refine v_isub (q := 158) dX12_hard_157 rfl ?_
                        refine v_letI (fun v23 => ?_)
                        refine v_istore (q := 160) (loc2 := [some (.ref a0), some (.int x1), some (.int x2), some (.int x3), some (.int x4), some (.int x5), some (.int v6), some (.int v7), some (.int v8), some (.int v15), some (.int v18), some (.int v23)]) dX12_hard_158 rfl rfl (Nat.le_of_ble_eq_true rfl) rfl ?_
                        refine v_iload (q := 162) dX12_hard_160 rfl rfl ?_
                        refine v_iload (q := 164) dX12_hard_162 rfl rfl ?_
                        refine v_join (γ := Int32) 174 (fun v24 => M) (fun v24 => [some (.ref a0), some (.int x1), some (.int x2), some (.int x3), some (.int x4), some (.int x5), some (.int v6), some (.int v7), some (.int v8), some (.int v15), some (.int v18), some (.int v23)]) (fun v24 => [.int v24]) (fun K hK => ?_) (fun v24 => ?_)
                        · refine v_icmp_le (tgt := 172) (q := 167) dX12_hard_164 rfl rfl ?_ ?_
                          · refine v_iload (q := 174) dX12_hard_172 rfl rfl ?_
                            exact hK v7
                          · refine v_iload (q := 169) dX12_hard_167 rfl rfl ?_
                            refine v_goto (tgt := 174) dX12_hard_169 rfl ?_
                            exact hK v8
                        · refine v_istore (q := 176) (loc2 := [some (.ref a0), some (.int x1), some (.int x2), some (.int x3), some (.int x4), some (.int x5), some (.int v6), some (.int v24), some (.int v8), some (.int v15), some (.int v18), some (.int v23)]) dX12_hard_174 rfl rfl (Nat.le_of_ble_eq_true rfl) rfl ?_
                          refine v_iload (q := 178) dX12_hard_176 rfl rfl ?_
                          refine v_iload (q := 180) dX12_hard_178 rfl rfl ?_
                          refine v_join (γ := Int32) 190 (fun v25 => M) (fun v25 => [some (.ref a0), some (.int x1), some (.int x2), some (.int x3), some (.int x4), some (.int x5), some (.int v6), some (.int v24), some (.int v8), some (.int v15), some (.int v18), some (.int v23)]) (fun v25 => [.int v25]) (fun K hK => ?_) (fun v25 => ?_)
                          · refine v_icmp_le (tgt := 188) (q := 183) dX12_hard_180 rfl rfl ?_ ?_
                            · refine v_iload (q := 190) dX12_hard_188 rfl rfl ?_
                              exact hK v6
                            · refine v_iload (q := 185) dX12_hard_183 rfl rfl ?_
                              refine v_goto (tgt := 190) dX12_hard_185 rfl ?_
                              exact hK v23
                          · refine v_istore (q := 192) (loc2 := [some (.ref a0), some (.int x1), some (.int x2), some (.int x3), some (.int x4), some (.int x5), some (.int v25), some (.int v24), some (.int v8), some (.int v15), some (.int v18), some (.int v23)]) dX12_hard_190 rfl rfl (Nat.le_of_ble_eq_true rfl) rfl ?_
                            refine v_iincL (q := 195) (x := v8) (cst := (1 : Int32)) (f := fun v26 => [some (.ref a0), some (.int x1), some (.int x2), some (.int x3), some (.int x4), some (.int x5), some (.int v25), some (.int v24), some (.int v26), some (.int v15), some (.int v18), some (.int v23)]) dX12_hard_192 rfl rfl ic_1 rfl (Nat.le_of_ble_eq_true rfl) (fun _ => rfl) (fun v26 => ?_)
                            refine v_goto (tgt := 67) dX12_hard_195 rfl ?_
                            exact v_inl (v_weak (hk (v25, v24, v26)) ⟨rfl, ⟨rfl, ⟨rfl, ⟨rfl, ⟨rfl, ⟨rfl, ⟨rfl, ⟨rfl, ⟨rfl, trivial⟩⟩⟩⟩⟩⟩⟩⟩⟩)
            · refine v_bipush (q := 56) dX12_hard_54 rfl bp_m2 ?_
              exact v_iret rfl dX12_hard_56 ⟨Nat.le_of_ble_eq_true rfl, Nat.le_of_ble_eq_true rfl⟩ rfl
      · refine v_iconst (q := 22) dX12_hard_21 rfl ic_m1 ?_
        exact v_iret rfl dX12_hard_22 ⟨Nat.le_of_ble_eq_true rfl, Nat.le_of_ble_eq_true rfl⟩ rfl
theorem ct_X12_hard (d : Nat) (hd : 3 ≤ d) (a0 : Nat) (x1 : Int32) (x2 : Int32) (x3 : Int32) (x4 : Int32) (x5 : Int32) (M : Me) (r : Int32) (hf : f_X12_hard a0 x1 x2 x3 x4 x5 M = some r) : me_k M a0 = some (12, nf_c 12) ∧ Ct yX12_hard mX12_hard d 0 0 [.ref a0, .int x1, .int x2, .int x3, .int x4, .int x5] M (some (.int r), M) := by
  obtain ⟨hk, hb⟩ := ck_some hf
  exact ⟨hk, ct_of (by decide +kernel) rfl rfl (Nat.le_of_ble_eq_true rfl) (vb_X12_hard d hd a0 x1 x2 x3 x4 x5 M) (by rw [hb]; rfl)⟩
theorem dX12_layBalance_0 : decode cX12_layBalance 0 = .ok (.iconst 0, 1) := by decide +kernel
theorem dX12_layBalance_1 : decode cX12_layBalance 1 = .ok (.istore_n 1, 1) := by decide +kernel
theorem dX12_layBalance_2 : decode cX12_layBalance 2 = .ok (.iload_n 1, 1) := by decide +kernel
theorem dX12_layBalance_3 : decode cX12_layBalance 3 = .ok (.bipush 6, 2) := by decide +kernel
theorem dX12_layBalance_5 : decode cX12_layBalance 5 = .ok (.if_icmp .ge 16, 3) := by decide +kernel
theorem dX12_layBalance_8 : decode cX12_layBalance 8 = .ok (.aload_n 0, 1) := by decide +kernel
theorem dX12_layBalance_9 : decode cX12_layBalance 9 = .ok (.getfield 65, 3) := by decide +kernel
theorem dX12_layBalance_12 : decode cX12_layBalance 12 = .ok (.iload_n 1, 1) := by decide +kernel
theorem dX12_layBalance_13 : decode cX12_layBalance 13 = .ok (.iconst 0, 1) := by decide +kernel
theorem dX12_layBalance_14 : decode cX12_layBalance 14 = .ok (.iastore, 1) := by decide +kernel
theorem dX12_layBalance_15 : decode cX12_layBalance 15 = .ok (.iinc 1 1, 3) := by decide +kernel
theorem dX12_layBalance_18 : decode cX12_layBalance 18 = .ok (.goto (-16), 3) := by decide +kernel
theorem dX12_layBalance_21 : decode cX12_layBalance 21 = .ok (.iconst 0, 1) := by decide +kernel
theorem dX12_layBalance_22 : decode cX12_layBalance 22 = .ok (.istore_n 1, 1) := by decide +kernel
theorem dX12_layBalance_23 : decode cX12_layBalance 23 = .ok (.iload_n 1, 1) := by decide +kernel
theorem dX12_layBalance_24 : decode cX12_layBalance 24 = .ok (.aload_n 0, 1) := by decide +kernel
theorem dX12_layBalance_25 : decode cX12_layBalance 25 = .ok (.getfield 95, 3) := by decide +kernel
theorem dX12_layBalance_28 : decode cX12_layBalance 28 = .ok (.if_icmp .ge 63, 3) := by decide +kernel
theorem dX12_layBalance_31 : decode cX12_layBalance 31 = .ok (.aload_n 0, 1) := by decide +kernel
theorem dX12_layBalance_32 : decode cX12_layBalance 32 = .ok (.getfield 65, 3) := by decide +kernel
theorem dX12_layBalance_35 : decode cX12_layBalance 35 = .ok (.aload_n 0, 1) := by decide +kernel
theorem dX12_layBalance_36 : decode cX12_layBalance 36 = .ok (.getfield 41, 3) := by decide +kernel
theorem dX12_layBalance_39 : decode cX12_layBalance 39 = .ok (.iconst 4, 1) := by decide +kernel
theorem dX12_layBalance_40 : decode cX12_layBalance 40 = .ok (.iload_n 1, 1) := by decide +kernel
theorem dX12_layBalance_41 : decode cX12_layBalance 41 = .ok (.imul, 1) := by decide +kernel
theorem dX12_layBalance_42 : decode cX12_layBalance 42 = .ok (.iaload, 1) := by decide +kernel
theorem dX12_layBalance_43 : decode cX12_layBalance 43 = .ok (.dup2, 1) := by decide +kernel
theorem dX12_layBalance_44 : decode cX12_layBalance 44 = .ok (.iaload, 1) := by decide +kernel
theorem dX12_layBalance_45 : decode cX12_layBalance 45 = .ok (.aload_n 0, 1) := by decide +kernel
theorem dX12_layBalance_46 : decode cX12_layBalance 46 = .ok (.getfield 41, 3) := by decide +kernel
theorem dX12_layBalance_49 : decode cX12_layBalance 49 = .ok (.iconst 4, 1) := by decide +kernel
theorem dX12_layBalance_50 : decode cX12_layBalance 50 = .ok (.iload_n 1, 1) := by decide +kernel
theorem dX12_layBalance_51 : decode cX12_layBalance 51 = .ok (.imul, 1) := by decide +kernel
theorem dX12_layBalance_52 : decode cX12_layBalance 52 = .ok (.iconst 2, 1) := by decide +kernel
theorem dX12_layBalance_53 : decode cX12_layBalance 53 = .ok (.iadd, 1) := by decide +kernel
theorem dX12_layBalance_54 : decode cX12_layBalance 54 = .ok (.iaload, 1) := by decide +kernel
theorem dX12_layBalance_55 : decode cX12_layBalance 55 = .ok (.iadd, 1) := by decide +kernel
theorem dX12_layBalance_56 : decode cX12_layBalance 56 = .ok (.iastore, 1) := by decide +kernel
theorem dX12_layBalance_57 : decode cX12_layBalance 57 = .ok (.aload_n 0, 1) := by decide +kernel
theorem dX12_layBalance_58 : decode cX12_layBalance 58 = .ok (.getfield 65, 3) := by decide +kernel
theorem dX12_layBalance_61 : decode cX12_layBalance 61 = .ok (.aload_n 0, 1) := by decide +kernel
theorem dX12_layBalance_62 : decode cX12_layBalance 62 = .ok (.getfield 41, 3) := by decide +kernel
theorem dX12_layBalance_65 : decode cX12_layBalance 65 = .ok (.iconst 4, 1) := by decide +kernel
theorem dX12_layBalance_66 : decode cX12_layBalance 66 = .ok (.iload_n 1, 1) := by decide +kernel
theorem dX12_layBalance_67 : decode cX12_layBalance 67 = .ok (.imul, 1) := by decide +kernel
theorem dX12_layBalance_68 : decode cX12_layBalance 68 = .ok (.iconst 1, 1) := by decide +kernel
theorem dX12_layBalance_69 : decode cX12_layBalance 69 = .ok (.iadd, 1) := by decide +kernel
theorem dX12_layBalance_70 : decode cX12_layBalance 70 = .ok (.iaload, 1) := by decide +kernel
theorem dX12_layBalance_71 : decode cX12_layBalance 71 = .ok (.dup2, 1) := by decide +kernel
theorem dX12_layBalance_72 : decode cX12_layBalance 72 = .ok (.iaload, 1) := by decide +kernel
theorem dX12_layBalance_73 : decode cX12_layBalance 73 = .ok (.aload_n 0, 1) := by decide +kernel
theorem dX12_layBalance_74 : decode cX12_layBalance 74 = .ok (.getfield 41, 3) := by decide +kernel
theorem dX12_layBalance_77 : decode cX12_layBalance 77 = .ok (.iconst 4, 1) := by decide +kernel
theorem dX12_layBalance_78 : decode cX12_layBalance 78 = .ok (.iload_n 1, 1) := by decide +kernel
theorem dX12_layBalance_79 : decode cX12_layBalance 79 = .ok (.imul, 1) := by decide +kernel
theorem dX12_layBalance_80 : decode cX12_layBalance 80 = .ok (.iconst 2, 1) := by decide +kernel
theorem dX12_layBalance_81 : decode cX12_layBalance 81 = .ok (.iadd, 1) := by decide +kernel
theorem dX12_layBalance_82 : decode cX12_layBalance 82 = .ok (.iaload, 1) := by decide +kernel
theorem dX12_layBalance_83 : decode cX12_layBalance 83 = .ok (.isub, 1) := by decide +kernel
theorem dX12_layBalance_84 : decode cX12_layBalance 84 = .ok (.iastore, 1) := by decide +kernel
theorem dX12_layBalance_85 : decode cX12_layBalance 85 = .ok (.iinc 1 1, 3) := by decide +kernel
theorem dX12_layBalance_88 : decode cX12_layBalance 88 = .ok (.goto (-65), 3) := by decide +kernel
theorem dX12_layBalance_91 : decode cX12_layBalance 91 = .ok (.return_, 1) := by decide +kernel
noncomputable def s_X12_layBalance_2 (a0 : Nat) (M1 : Me) (v2 : Int32) : Option ((Me × Int32) ⊕ (Me × Int32)) :=
  if (6 : Int32) ≤ v2 then (
    some (Sum.inr (M1, v2))
  ) else (
    gr M1 a0 12 27 fun o3 =>
    si M1 o3 v2 (0 : Int32) fun M4 =>
    let_v (v2 + (1 : Int32)) fun v5 =>
    some (Sum.inl (M4, v5))
  )
noncomputable def s_X12_layBalance_23 (a0 : Nat) (M7 : Me) (v8 : Int32) : Option ((Me × Int32) ⊕ (Me × Int32)) :=
  gi M7 a0 12 13 fun v9 =>
  if v9 ≤ v8 then (
    some (Sum.inr (M7, v8))
  ) else (
    gr M7 a0 12 27 fun o10 =>
    gr M7 a0 12 14 fun o11 =>
    li M7 o11 ((4 : Int32) * v8) fun v12 =>
    li M7 o10 v12 fun v13 =>
    gr M7 a0 12 14 fun o14 =>
    li M7 o14 (((4 : Int32) * v8) + (2 : Int32)) fun v15 =>
    si M7 o10 v12 (v13 + v15) fun M16 =>
    gr M16 a0 12 27 fun o17 =>
    gr M16 a0 12 14 fun o18 =>
    li M16 o18 (((4 : Int32) * v8) + (1 : Int32)) fun v19 =>
    li M16 o17 v19 fun v20 =>
    gr M16 a0 12 14 fun o21 =>
    li M16 o21 (((4 : Int32) * v8) + (2 : Int32)) fun v22 =>
    si M16 o17 v19 (v20 - v22) fun M23 =>
    let_v (v8 + (1 : Int32)) fun v24 =>
    some (Sum.inl (M23, v24))
  )
noncomputable def b_X12_layBalance (a0 : Nat) (M : Me) : Option (Me) :=
  (lp (fun s => s_X12_layBalance_2 a0 s.1 s.2) (M, (0 : Int32))).bind fun e6 =>
  (lp (fun s => s_X12_layBalance_23 a0 s.1 s.2) (e6.1, (0 : Int32))).bind fun e25 =>
  some e25.1
noncomputable def f_X12_layBalance (a0 : Nat) (M : Me) : Option (Me) := ck M a0 12 (b_X12_layBalance a0 M)
set_option maxRecDepth 20000 in
theorem vb_X12_layBalance (d : Nat) (hd : 0 ≤ d) (a0 : Nat) (M : Me) : V (mX12_layBalance, d, 0, 0) (0, 0) M 0 [some (.ref a0), none] [] (b_X12_layBalance a0 M) (fun M2 => some (none, M2)) := by
  unfold b_X12_layBalance
  refine v_iconst (q := 1) dX12_layBalance_0 rfl ic_0 ?_
  refine v_istore_n (q := 2) (loc2 := [some (.ref a0), some (.int (0 : Int32))]) dX12_layBalance_1 rfl rfl rfl (Nat.le_of_ble_eq_true rfl) rfl ?_
  refine v_lps (S := Me × Int32) 21 (fun s => s.1) (fun s => [some (.ref a0), some (.int s.2)]) (fun e6 => e6.1) (fun e6 => [some (.ref a0), some (.int e6.2)]) (fun e6 => ?_) (fun k K hk hx s => ?_)
  · refine v_iconst (q := 22) dX12_layBalance_21 rfl ic_0 ?_
    refine v_istore_n (q := 23) (loc2 := [some (.ref a0), some (.int (0 : Int32))]) dX12_layBalance_22 rfl rfl rfl (Nat.le_of_ble_eq_true rfl) rfl ?_
    refine v_lps (S := Me × Int32) 91 (fun s => s.1) (fun s => [some (.ref a0), some (.int s.2)]) (fun e25 => e25.1) (fun e25 => [some (.ref a0), some (.int e25.2)]) (fun e25 => ?_) (fun k K hk hx s => ?_)
    · exact v_vret rfl dX12_layBalance_91 ⟨Nat.le_of_ble_eq_true rfl, Nat.le_of_ble_eq_true rfl⟩ rfl
    · obtain ⟨M7, v8⟩ := s
      show V _ _ M7 23 [some (.ref a0), some (.int v8)] [] (s_X12_layBalance_23 a0 M7 v8) _
      unfold s_X12_layBalance_23
      refine v_iload_n (q := 24) dX12_layBalance_23 rfl rfl rfl ?_
      refine v_aload_n (q := 25) dX12_layBalance_24 rfl rfl rfl ?_
      refine v_getIb (q := 28) dX12_layBalance_25 rfl fg_X12_95 (fun v9 => ?_)
      refine v_icmp_ge (tgt := 91) (q := 31) dX12_layBalance_28 rfl rfl ?_ ?_
      · exact v_inr (hx (M7, v8))
      · refine v_aload_n (q := 32) dX12_layBalance_31 rfl rfl rfl ?_
        refine v_getRb (q := 35) dX12_layBalance_32 rfl fg_X12_65 (fun o10 => ?_)
        refine v_aload_n (q := 36) dX12_layBalance_35 rfl rfl rfl ?_
        refine v_getRb (q := 39) dX12_layBalance_36 rfl fg_X12_41 (fun o11 => ?_)
        refine v_iconst (q := 40) dX12_layBalance_39 rfl ic_4 ?_
        refine v_iload_n (q := 41) dX12_layBalance_40 rfl rfl rfl ?_
        refine v_imul (q := 42) dX12_layBalance_41 rfl ?_
        refine v_iaload (q := 43) dX12_layBalance_42 rfl (fun v12 => ?_)
        refine v_dup2 (q := 44) dX12_layBalance_43 rfl rfl rfl ?_
        refine v_iaload (q := 45) dX12_layBalance_44 rfl (fun v13 => ?_)
        refine v_aload_n (q := 46) dX12_layBalance_45 rfl rfl rfl ?_
        refine v_getRb (q := 49) dX12_layBalance_46 rfl fg_X12_41 (fun o14 => ?_)
        refine v_iconst (q := 50) dX12_layBalance_49 rfl ic_4 ?_
        refine v_iload_n (q := 51) dX12_layBalance_50 rfl rfl rfl ?_
        refine v_imul (q := 52) dX12_layBalance_51 rfl ?_
        refine v_iconst (q := 53) dX12_layBalance_52 rfl ic_2 ?_
        refine v_iadd (q := 54) dX12_layBalance_53 rfl ?_
        refine v_iaload (q := 55) dX12_layBalance_54 rfl (fun v15 => ?_)
        refine v_iadd (q := 56) dX12_layBalance_55 rfl ?_
        refine v_iastore (q := 57) dX12_layBalance_56 rfl (fun M16 => ?_)
        refine v_aload_n (q := 58) dX12_layBalance_57 rfl rfl rfl ?_
        refine v_getRb (q := 61) dX12_layBalance_58 rfl fg_X12_65 (fun o17 => ?_)
        refine v_aload_n (q := 62) dX12_layBalance_61 rfl rfl rfl ?_
        refine v_getRb (q := 65) dX12_layBalance_62 rfl fg_X12_41 (fun o18 => ?_)
        refine v_iconst (q := 66) dX12_layBalance_65 rfl ic_4 ?_
        refine v_iload_n (q := 67) dX12_layBalance_66 rfl rfl rfl ?_
        refine v_imul (q := 68) dX12_layBalance_67 rfl ?_
        refine v_iconst (q := 69) dX12_layBalance_68 rfl ic_1 ?_
        refine v_iadd (q := 70) dX12_layBalance_69 rfl ?_
        refine v_iaload (q := 71) dX12_layBalance_70 rfl (fun v19 => ?_)
        refine v_dup2 (q := 72) dX12_layBalance_71 rfl rfl rfl ?_
        refine v_iaload (q := 73) dX12_layBalance_72 rfl (fun v20 => ?_)
        refine v_aload_n (q := 74) dX12_layBalance_73 rfl rfl rfl ?_
        refine v_getRb (q := 77) dX12_layBalance_74 rfl fg_X12_41 (fun o21 => ?_)
        refine v_iconst (q := 78) dX12_layBalance_77 rfl ic_4 ?_
        refine v_iload_n (q := 79) dX12_layBalance_78 rfl rfl rfl ?_
        refine v_imul (q := 80) dX12_layBalance_79 rfl ?_
        refine v_iconst (q := 81) dX12_layBalance_80 rfl ic_2 ?_
        refine v_iadd (q := 82) dX12_layBalance_81 rfl ?_
        refine v_iaload (q := 83) dX12_layBalance_82 rfl (fun v22 => ?_)
        refine v_isub (q := 84) dX12_layBalance_83 rfl ?_
        refine v_iastore (q := 85) dX12_layBalance_84 rfl (fun M23 => ?_)
        refine v_iincL (q := 88) (x := v8) (cst := (1 : Int32)) (f := fun v24 => [some (.ref a0), some (.int v24)]) dX12_layBalance_85 rfl rfl ic_1 rfl (Nat.le_of_ble_eq_true rfl) (fun _ => rfl) (fun v24 => ?_)
        refine v_goto (tgt := 23) dX12_layBalance_88 rfl ?_
        exact v_inl (hk (M23, v24))
  · obtain ⟨M1, v2⟩ := s
    show V _ _ M1 2 [some (.ref a0), some (.int v2)] [] (s_X12_layBalance_2 a0 M1 v2) _
    unfold s_X12_layBalance_2
    refine v_iload_n (q := 3) dX12_layBalance_2 rfl rfl rfl ?_
    refine v_bipush (q := 5) dX12_layBalance_3 rfl bp_6 ?_
    refine v_icmp_ge (tgt := 21) (q := 8) dX12_layBalance_5 rfl rfl ?_ ?_
    · exact v_inr (hx (M1, v2))
    · refine v_aload_n (q := 9) dX12_layBalance_8 rfl rfl rfl ?_
      refine v_getRb (q := 12) dX12_layBalance_9 rfl fg_X12_65 (fun o3 => ?_)
      refine v_iload_n (q := 13) dX12_layBalance_12 rfl rfl rfl ?_
      refine v_iconst (q := 14) dX12_layBalance_13 rfl ic_0 ?_
      refine v_iastore (q := 15) dX12_layBalance_14 rfl (fun M4 => ?_)
      refine v_iincL (q := 18) (x := v2) (cst := (1 : Int32)) (f := fun v5 => [some (.ref a0), some (.int v5)]) dX12_layBalance_15 rfl rfl ic_1 rfl (Nat.le_of_ble_eq_true rfl) (fun _ => rfl) (fun v5 => ?_)
      refine v_goto (tgt := 2) dX12_layBalance_18 rfl ?_
      exact v_inl (hk (M4, v5))
theorem ct_X12_layBalance (d : Nat) (hd : 0 ≤ d) (a0 : Nat) (M : Me) (r : Me) (hf : f_X12_layBalance a0 M = some r) : me_k M a0 = some (12, nf_c 12) ∧ Ct yX12_layBalance mX12_layBalance d 0 0 [.ref a0] M (none, r) := by
  obtain ⟨hk, hb⟩ := ck_some hf
  exact ⟨hk, ct_of (by decide +kernel) rfl rfl (Nat.le_of_ble_eq_true rfl) (vb_X12_layBalance d hd a0 M) (by rw [hb]; rfl)⟩
theorem dX12_sumOf_0 : decode cX12_sumOf 0 = .ok (.iconst 0, 1) := by decide +kernel
theorem dX12_sumOf_1 : decode cX12_sumOf 1 = .ok (.istore_n 2, 1) := by decide +kernel
theorem dX12_sumOf_2 : decode cX12_sumOf 2 = .ok (.iconst 0, 1) := by decide +kernel
theorem dX12_sumOf_3 : decode cX12_sumOf 3 = .ok (.istore_n 3, 1) := by decide +kernel
theorem dX12_sumOf_4 : decode cX12_sumOf 4 = .ok (.iload_n 3, 1) := by decide +kernel
theorem dX12_sumOf_5 : decode cX12_sumOf 5 = .ok (.bipush 6, 2) := by decide +kernel
theorem dX12_sumOf_7 : decode cX12_sumOf 7 = .ok (.if_icmp .ge 30, 3) := by decide +kernel
theorem dX12_sumOf_10 : decode cX12_sumOf 10 = .ok (.iload_n 2, 1) := by decide +kernel
theorem dX12_sumOf_11 : decode cX12_sumOf 11 = .ok (.iload_n 1, 1) := by decide +kernel
theorem dX12_sumOf_12 : decode cX12_sumOf 12 = .ok (.iload_n 3, 1) := by decide +kernel
theorem dX12_sumOf_13 : decode cX12_sumOf 13 = .ok (.invokestatic 85, 3) := by decide +kernel
theorem dX12_sumOf_16 : decode cX12_sumOf 16 = .ok (.ifCond .eq 12, 3) := by decide +kernel
theorem dX12_sumOf_19 : decode cX12_sumOf 19 = .ok (.aload_n 0, 1) := by decide +kernel
theorem dX12_sumOf_20 : decode cX12_sumOf 20 = .ok (.getfield 65, 3) := by decide +kernel
theorem dX12_sumOf_23 : decode cX12_sumOf 23 = .ok (.iload_n 3, 1) := by decide +kernel
theorem dX12_sumOf_24 : decode cX12_sumOf 24 = .ok (.iaload, 1) := by decide +kernel
theorem dX12_sumOf_25 : decode cX12_sumOf 25 = .ok (.goto 4, 3) := by decide +kernel
theorem dX12_sumOf_28 : decode cX12_sumOf 28 = .ok (.iconst 0, 1) := by decide +kernel
theorem dX12_sumOf_29 : decode cX12_sumOf 29 = .ok (.iadd, 1) := by decide +kernel
theorem dX12_sumOf_30 : decode cX12_sumOf 30 = .ok (.istore_n 2, 1) := by decide +kernel
theorem dX12_sumOf_31 : decode cX12_sumOf 31 = .ok (.iinc 3 1, 3) := by decide +kernel
theorem dX12_sumOf_34 : decode cX12_sumOf 34 = .ok (.goto (-30), 3) := by decide +kernel
theorem dX12_sumOf_37 : decode cX12_sumOf 37 = .ok (.iload_n 2, 1) := by decide +kernel
theorem dX12_sumOf_38 : decode cX12_sumOf 38 = .ok (.ireturn, 1) := by decide +kernel
noncomputable def s_X12_sumOf_4 (a0 : Nat) (x1 : Int32) (M : Me) (v1 : Int32) (v2 : Int32) : Option ((Int32 × Int32) ⊕ (Int32 × Int32)) :=
  if (6 : Int32) ≤ v2 then (
    some (Sum.inr (v1, v2))
  ) else (
    cP (f_X12_has x1 v2 M) fun v3 =>
    (
      if v3 = 0 then (
        some (0 : Int32)
      ) else (
        gr M a0 12 27 fun o4 =>
        li M o4 v2 fun v5 =>
        some v5
      )
    ).bind fun v6 =>
    let_v ((v1 + v6)) fun v7 =>
    let_v (v2 + (1 : Int32)) fun v8 =>
    some (Sum.inl (v7, v8))
  )
noncomputable def b_X12_sumOf (a0 : Nat) (x1 : Int32) (M : Me) : Option (Int32) :=
  (lp (fun s => s_X12_sumOf_4 a0 x1 M s.1 s.2) ((0 : Int32), (0 : Int32))).bind fun e9 =>
  some e9.1
noncomputable def f_X12_sumOf (a0 : Nat) (x1 : Int32) (M : Me) : Option (Int32) := ck M a0 12 (b_X12_sumOf a0 x1 M)
set_option maxRecDepth 20000 in
theorem vb_X12_sumOf (d : Nat) (hd : 1 ≤ d) (a0 : Nat) (x1 : Int32) (M : Me) : V (mX12_sumOf, d, 0, 0) (0, 0) M 0 [some (.ref a0), some (.int x1), none, none] [] (b_X12_sumOf a0 x1 M) (fun z => some (some (.int z), M)) := by
  unfold b_X12_sumOf
  refine v_iconst (q := 1) dX12_sumOf_0 rfl ic_0 ?_
  refine v_istore_n (q := 2) (loc2 := [some (.ref a0), some (.int x1), some (.int (0 : Int32)), none]) dX12_sumOf_1 rfl rfl rfl (Nat.le_of_ble_eq_true rfl) rfl ?_
  refine v_iconst (q := 3) dX12_sumOf_2 rfl ic_0 ?_
  refine v_istore_n (q := 4) (loc2 := [some (.ref a0), some (.int x1), some (.int (0 : Int32)), some (.int (0 : Int32))]) dX12_sumOf_3 rfl rfl rfl (Nat.le_of_ble_eq_true rfl) rfl ?_
  refine v_lps (S := Int32 × Int32) 37 (fun s => M) (fun s => [some (.ref a0), some (.int x1), some (.int s.1), some (.int s.2)]) (fun e9 => M) (fun e9 => [some (.ref a0), some (.int x1), some (.int e9.1), some (.int e9.2)]) (fun e9 => ?_) (fun k K hk hx s => ?_)
  · refine v_iload_n (q := 38) dX12_sumOf_37 rfl rfl rfl ?_
    exact v_iret rfl dX12_sumOf_38 ⟨Nat.le_of_ble_eq_true rfl, Nat.le_of_ble_eq_true rfl⟩ rfl
  · obtain ⟨v1, v2⟩ := s
    show V _ _ M 4 [some (.ref a0), some (.int x1), some (.int v1), some (.int v2)] [] (s_X12_sumOf_4 a0 x1 M v1 v2) _
    unfold s_X12_sumOf_4
    refine v_iload_n (q := 5) dX12_sumOf_4 rfl rfl rfl ?_
    refine v_bipush (q := 7) dX12_sumOf_5 rfl bp_6 ?_
    refine v_icmp_ge (tgt := 37) (q := 10) dX12_sumOf_7 rfl rfl ?_ ?_
    · exact v_inr (hx (v1, v2))
    · refine v_iload_n (q := 11) dX12_sumOf_10 rfl rfl rfl ?_
      refine v_iload_n (q := 12) dX12_sumOf_11 rfl rfl rfl ?_
      refine v_iload_n (q := 13) dX12_sumOf_12 rfl rfl rfl ?_
      refine v_cPS2 (q := 16) (ct_X12_has (d - 1) (by omega) _ _ _) dX12_sumOf_13 rfl cc_X12_85 (by omega) (Nat.le_of_ble_eq_true rfl) ⟨Nat.le_of_ble_eq_true rfl, Nat.le_of_ble_eq_true rfl⟩ (fun v3 => ?_)
      refine v_join (γ := Int32) 29 (fun v6 => M) (fun v6 => [some (.ref a0), some (.int x1), some (.int v1), some (.int v2)]) (fun v6 => [.int v6, .int v1]) (fun K hK => ?_) (fun v6 => ?_)
      · refine v_if_eq (tgt := 28) (q := 19) dX12_sumOf_16 rfl rfl ?_ ?_
        · refine v_iconst (q := 29) dX12_sumOf_28 rfl ic_0 ?_
          exact hK (0 : Int32)
        · refine v_aload_n (q := 20) dX12_sumOf_19 rfl rfl rfl ?_
          refine v_getRb (q := 23) dX12_sumOf_20 rfl fg_X12_65 (fun o4 => ?_)
          refine v_iload_n (q := 24) dX12_sumOf_23 rfl rfl rfl ?_
          refine v_iaload (q := 25) dX12_sumOf_24 rfl (fun v5 => ?_)
          refine v_goto (tgt := 29) dX12_sumOf_25 rfl ?_
          exact hK v5
      · refine v_iadd (q := 30) dX12_sumOf_29 rfl ?_
        refine v_letI (fun v7 => ?_)
        refine v_istore_n (q := 31) (loc2 := [some (.ref a0), some (.int x1), some (.int v7), some (.int v2)]) dX12_sumOf_30 rfl rfl rfl (Nat.le_of_ble_eq_true rfl) rfl ?_
        refine v_iincL (q := 34) (x := v2) (cst := (1 : Int32)) (f := fun v8 => [some (.ref a0), some (.int x1), some (.int v7), some (.int v8)]) dX12_sumOf_31 rfl rfl ic_1 rfl (Nat.le_of_ble_eq_true rfl) (fun _ => rfl) (fun v8 => ?_)
        refine v_goto (tgt := 4) dX12_sumOf_34 rfl ?_
        exact v_inl (hk (v7, v8))
theorem ct_X12_sumOf (d : Nat) (hd : 1 ≤ d) (a0 : Nat) (x1 : Int32) (M : Me) (r : Int32) (hf : f_X12_sumOf a0 x1 M = some r) : me_k M a0 = some (12, nf_c 12) ∧ Ct yX12_sumOf mX12_sumOf d 0 0 [.ref a0, .int x1] M (some (.int r), M) := by
  obtain ⟨hk, hb⟩ := ck_some hf
  exact ⟨hk, ct_of (by decide +kernel) rfl rfl (Nat.le_of_ble_eq_true rfl) (vb_X12_sumOf d hd a0 x1 M) (by rw [hb]; rfl)⟩
theorem dX12_settled_0 : decode cX12_settled 0 = .ok (.aload_n 0, 1) := by decide +kernel
theorem dX12_settled_1 : decode cX12_settled 1 = .ok (.invokevirtual 198, 3) := by decide +kernel
theorem dX12_settled_4 : decode cX12_settled 4 = .ok (.iconst 0, 1) := by decide +kernel
theorem dX12_settled_5 : decode cX12_settled 5 = .ok (.istore_n 1, 1) := by decide +kernel
theorem dX12_settled_6 : decode cX12_settled 6 = .ok (.iconst 0, 1) := by decide +kernel
theorem dX12_settled_7 : decode cX12_settled 7 = .ok (.istore_n 2, 1) := by decide +kernel
theorem dX12_settled_8 : decode cX12_settled 8 = .ok (.iload_n 2, 1) := by decide +kernel
theorem dX12_settled_9 : decode cX12_settled 9 = .ok (.bipush 6, 2) := by decide +kernel
theorem dX12_settled_11 : decode cX12_settled 11 = .ok (.if_icmp .ge 28, 3) := by decide +kernel
theorem dX12_settled_14 : decode cX12_settled 14 = .ok (.iload_n 1, 1) := by decide +kernel
theorem dX12_settled_15 : decode cX12_settled 15 = .ok (.aload_n 0, 1) := by decide +kernel
theorem dX12_settled_16 : decode cX12_settled 16 = .ok (.getfield 65, 3) := by decide +kernel
theorem dX12_settled_19 : decode cX12_settled 19 = .ok (.iload_n 2, 1) := by decide +kernel
theorem dX12_settled_20 : decode cX12_settled 20 = .ok (.iaload, 1) := by decide +kernel
theorem dX12_settled_21 : decode cX12_settled 21 = .ok (.ifCond .eq 9, 3) := by decide +kernel
theorem dX12_settled_24 : decode cX12_settled 24 = .ok (.iconst 1, 1) := by decide +kernel
theorem dX12_settled_25 : decode cX12_settled 25 = .ok (.iload_n 2, 1) := by decide +kernel
theorem dX12_settled_26 : decode cX12_settled 26 = .ok (.ishl, 1) := by decide +kernel
theorem dX12_settled_27 : decode cX12_settled 27 = .ok (.goto 4, 3) := by decide +kernel
theorem dX12_settled_30 : decode cX12_settled 30 = .ok (.iconst 0, 1) := by decide +kernel
theorem dX12_settled_31 : decode cX12_settled 31 = .ok (.ior, 1) := by decide +kernel
theorem dX12_settled_32 : decode cX12_settled 32 = .ok (.istore_n 1, 1) := by decide +kernel
theorem dX12_settled_33 : decode cX12_settled 33 = .ok (.iinc 2 1, 3) := by decide +kernel
theorem dX12_settled_36 : decode cX12_settled 36 = .ok (.goto (-28), 3) := by decide +kernel
theorem dX12_settled_39 : decode cX12_settled 39 = .ok (.iconst 0, 1) := by decide +kernel
theorem dX12_settled_40 : decode cX12_settled 40 = .ok (.istore_n 2, 1) := by decide +kernel
theorem dX12_settled_41 : decode cX12_settled 41 = .ok (.iload_n 2, 1) := by decide +kernel
theorem dX12_settled_42 : decode cX12_settled 42 = .ok (.bipush 64, 2) := by decide +kernel
theorem dX12_settled_44 : decode cX12_settled 44 = .ok (.if_icmp .ge 97, 3) := by decide +kernel
theorem dX12_settled_47 : decode cX12_settled 47 = .ok (.iconst 0, 1) := by decide +kernel
theorem dX12_settled_48 : decode cX12_settled 48 = .ok (.istore_n 3, 1) := by decide +kernel
theorem dX12_settled_49 : decode cX12_settled 49 = .ok (.iconst 0, 1) := by decide +kernel
theorem dX12_settled_50 : decode cX12_settled 50 = .ok (.istore 4, 2) := by decide +kernel
theorem dX12_settled_52 : decode cX12_settled 52 = .ok (.iload 4, 2) := by decide +kernel
theorem dX12_settled_54 : decode cX12_settled 54 = .ok (.bipush 6, 2) := by decide +kernel
theorem dX12_settled_56 : decode cX12_settled 56 = .ok (.if_icmp .ge 46, 3) := by decide +kernel
theorem dX12_settled_59 : decode cX12_settled 59 = .ok (.iload_n 2, 1) := by decide +kernel
theorem dX12_settled_60 : decode cX12_settled 60 = .ok (.iload 4, 2) := by decide +kernel
theorem dX12_settled_62 : decode cX12_settled 62 = .ok (.invokestatic 85, 3) := by decide +kernel
theorem dX12_settled_65 : decode cX12_settled 65 = .ok (.ifCond .eq 31, 3) := by decide +kernel
theorem dX12_settled_68 : decode cX12_settled 68 = .ok (.aload_n 0, 1) := by decide +kernel
theorem dX12_settled_69 : decode cX12_settled 69 = .ok (.getfield 68, 3) := by decide +kernel
theorem dX12_settled_72 : decode cX12_settled 72 = .ok (.iload_n 2, 1) := by decide +kernel
theorem dX12_settled_73 : decode cX12_settled 73 = .ok (.iconst 1, 1) := by decide +kernel
theorem dX12_settled_74 : decode cX12_settled 74 = .ok (.iload 4, 2) := by decide +kernel
theorem dX12_settled_76 : decode cX12_settled 76 = .ok (.ishl, 1) := by decide +kernel
theorem dX12_settled_77 : decode cX12_settled 77 = .ok (.iconst (-1), 1) := by decide +kernel
theorem dX12_settled_78 : decode cX12_settled 78 = .ok (.ixor, 1) := by decide +kernel
theorem dX12_settled_79 : decode cX12_settled 79 = .ok (.iand, 1) := by decide +kernel
theorem dX12_settled_80 : decode cX12_settled 80 = .ok (.iaload, 1) := by decide +kernel
theorem dX12_settled_81 : decode cX12_settled 81 = .ok (.istore 5, 2) := by decide +kernel
theorem dX12_settled_83 : decode cX12_settled 83 = .ok (.iload 5, 2) := by decide +kernel
theorem dX12_settled_85 : decode cX12_settled 85 = .ok (.iload_n 3, 1) := by decide +kernel
theorem dX12_settled_86 : decode cX12_settled 86 = .ok (.if_icmp .le 8, 3) := by decide +kernel
theorem dX12_settled_89 : decode cX12_settled 89 = .ok (.iload 5, 2) := by decide +kernel
theorem dX12_settled_91 : decode cX12_settled 91 = .ok (.goto 4, 3) := by decide +kernel
theorem dX12_settled_94 : decode cX12_settled 94 = .ok (.iload_n 3, 1) := by decide +kernel
theorem dX12_settled_95 : decode cX12_settled 95 = .ok (.istore_n 3, 1) := by decide +kernel
theorem dX12_settled_96 : decode cX12_settled 96 = .ok (.iinc 4 1, 3) := by decide +kernel
theorem dX12_settled_99 : decode cX12_settled 99 = .ok (.goto (-47), 3) := by decide +kernel
theorem dX12_settled_102 : decode cX12_settled 102 = .ok (.aload_n 0, 1) := by decide +kernel
theorem dX12_settled_103 : decode cX12_settled 103 = .ok (.getfield 68, 3) := by decide +kernel
theorem dX12_settled_106 : decode cX12_settled 106 = .ok (.iload_n 2, 1) := by decide +kernel
theorem dX12_settled_107 : decode cX12_settled 107 = .ok (.iload_n 3, 1) := by decide +kernel
theorem dX12_settled_108 : decode cX12_settled 108 = .ok (.iload_n 2, 1) := by decide +kernel
theorem dX12_settled_109 : decode cX12_settled 109 = .ok (.ifCond .eq 23, 3) := by decide +kernel
theorem dX12_settled_112 : decode cX12_settled 112 = .ok (.iload_n 2, 1) := by decide +kernel
theorem dX12_settled_113 : decode cX12_settled 113 = .ok (.iload_n 1, 1) := by decide +kernel
theorem dX12_settled_114 : decode cX12_settled 114 = .ok (.iconst (-1), 1) := by decide +kernel
theorem dX12_settled_115 : decode cX12_settled 115 = .ok (.ixor, 1) := by decide +kernel
theorem dX12_settled_116 : decode cX12_settled 116 = .ok (.iand, 1) := by decide +kernel
theorem dX12_settled_117 : decode cX12_settled 117 = .ok (.ifCond .ne 15, 3) := by decide +kernel
theorem dX12_settled_120 : decode cX12_settled 120 = .ok (.aload_n 0, 1) := by decide +kernel
theorem dX12_settled_121 : decode cX12_settled 121 = .ok (.iload_n 2, 1) := by decide +kernel
theorem dX12_settled_122 : decode cX12_settled 122 = .ok (.invokevirtual 201, 3) := by decide +kernel
theorem dX12_settled_125 : decode cX12_settled 125 = .ok (.ifCond .ne 7, 3) := by decide +kernel
theorem dX12_settled_128 : decode cX12_settled 128 = .ok (.iconst 1, 1) := by decide +kernel
theorem dX12_settled_129 : decode cX12_settled 129 = .ok (.goto 4, 3) := by decide +kernel
theorem dX12_settled_132 : decode cX12_settled 132 = .ok (.iconst 0, 1) := by decide +kernel
theorem dX12_settled_133 : decode cX12_settled 133 = .ok (.iadd, 1) := by decide +kernel
theorem dX12_settled_134 : decode cX12_settled 134 = .ok (.iastore, 1) := by decide +kernel
theorem dX12_settled_135 : decode cX12_settled 135 = .ok (.iinc 2 1, 3) := by decide +kernel
theorem dX12_settled_138 : decode cX12_settled 138 = .ok (.goto (-97), 3) := by decide +kernel
theorem dX12_settled_141 : decode cX12_settled 141 = .ok (.iload_n 1, 1) := by decide +kernel
theorem dX12_settled_142 : decode cX12_settled 142 = .ok (.invokestatic 105, 3) := by decide +kernel
theorem dX12_settled_145 : decode cX12_settled 145 = .ok (.aload_n 0, 1) := by decide +kernel
theorem dX12_settled_146 : decode cX12_settled 146 = .ok (.getfield 68, 3) := by decide +kernel
theorem dX12_settled_149 : decode cX12_settled 149 = .ok (.iload_n 1, 1) := by decide +kernel
theorem dX12_settled_150 : decode cX12_settled 150 = .ok (.iaload, 1) := by decide +kernel
theorem dX12_settled_151 : decode cX12_settled 151 = .ok (.isub, 1) := by decide +kernel
theorem dX12_settled_152 : decode cX12_settled 152 = .ok (.ireturn, 1) := by decide +kernel
noncomputable def s_X12_settled_8 (a0 : Nat) (M1 : Me) (v2 : Int32) (v3 : Int32) : Option ((Int32 × Int32) ⊕ (Int32 × Int32)) :=
  if (6 : Int32) ≤ v3 then (
    some (Sum.inr (v2, v3))
  ) else (
    gr M1 a0 12 27 fun o4 =>
    li M1 o4 v3 fun v5 =>
    (
      if v5 = 0 then (
        some (0 : Int32)
      ) else (
        some ((1 : Int32) <<< (v3 &&& 31))
      )
    ).bind fun v6 =>
    let_v ((v2 ||| v6)) fun v7 =>
    let_v (v3 + (1 : Int32)) fun v8 =>
    some (Sum.inl (v7, v8))
  )
noncomputable def s_X12_settled_52 (a0 : Nat) (M10 : Me) (v11 : Int32) (v12 : Int32) (v13 : Int32) : Option ((Int32 × Int32) ⊕ (Int32 × Int32)) :=
  if (6 : Int32) ≤ v13 then (
    some (Sum.inr (v12, v13))
  ) else (
    cP (f_X12_has v11 v13 M10) fun v14 =>
    (
      if v14 = 0 then (
        some v12
      ) else (
        gr M10 a0 12 28 fun o15 =>
        li M10 o15 (v11 &&& (((1 : Int32) <<< (v13 &&& 31)) ^^^ (-1 : Int32))) fun v16 =>
        (
          if v16 ≤ v12 then (
            some v12
          ) else (
            some v16
          )
        ).bind fun v17 =>
        some v17
      )
    ).bind fun v18 =>
    let_v (v13 + (1 : Int32)) fun v19 =>
    some (Sum.inl (v18, v19))
  )
noncomputable def s_X12_settled_41 (a0 : Nat) (e9 : Int32 × Int32) (M10 : Me) (v11 : Int32) : Option ((Me × Int32) ⊕ (Me × Int32)) :=
  if (64 : Int32) ≤ v11 then (
    some (Sum.inr (M10, v11))
  ) else (
    (lp (fun s => s_X12_settled_52 a0 M10 v11 s.1 s.2) ((0 : Int32), (0 : Int32))).bind fun e20 =>
    gr M10 a0 12 28 fun o21 =>
    (
      if v11 = 0 then (
        some (0 : Int32)
      ) else (
        if (v11 &&& (e9.1 ^^^ (-1 : Int32))) = 0 then (
          cP (f_X12_sumOf a0 v11 M10) fun v22 =>
          if v22 = 0 then (
            some (1 : Int32)
          ) else (
            some (0 : Int32)
          )
        ) else (
          some (0 : Int32)
        )
      )
    ).bind fun v23 =>
    si M10 o21 v11 (e20.1 + v23) fun M24 =>
    let_v (v11 + (1 : Int32)) fun v25 =>
    some (Sum.inl (M24, v25))
  )
noncomputable def b_X12_settled (a0 : Nat) (M : Me) : Option (Int32 × Me) :=
  cM (f_X12_layBalance a0 M) fun M1 =>
  (lp (fun s => s_X12_settled_8 a0 M1 s.1 s.2) ((0 : Int32), (0 : Int32))).bind fun e9 =>
  (lp (fun s => s_X12_settled_41 a0 e9 s.1 s.2) (M1, (0 : Int32))).bind fun e26 =>
  cP (f_X12_bits e9.1 e26.1) fun v27 =>
  gr e26.1 a0 12 28 fun o28 =>
  li e26.1 o28 e9.1 fun v29 =>
  some ((v27 - v29), e26.1)
noncomputable def f_X12_settled (a0 : Nat) (M : Me) : Option (Int32 × Me) := ck M a0 12 (b_X12_settled a0 M)
set_option maxRecDepth 20000 in
theorem vb_X12_settled (d : Nat) (hd : 2 ≤ d) (a0 : Nat) (M : Me) : V (mX12_settled, d, 0, 0) (0, 0) M 0 [some (.ref a0), none, none, none, none, none] [] (b_X12_settled a0 M) (fun z => some (some (.int z.1), z.2)) := by
  unfold b_X12_settled
  refine v_aload_n (q := 1) dX12_settled_0 rfl rfl rfl ?_
  refine v_cMV0 (q := 4) (ct_X12_layBalance (d - 1) (by omega) _ _) dX12_settled_1 rfl cc_X12_198 (by omega) (Nat.le_of_ble_eq_true rfl) ⟨Nat.le_of_ble_eq_true rfl, Nat.le_of_ble_eq_true rfl⟩ (fun M1 => ?_)
  refine v_iconst (q := 5) dX12_settled_4 rfl ic_0 ?_
  refine v_istore_n (q := 6) (loc2 := [some (.ref a0), some (.int (0 : Int32)), none, none, none, none]) dX12_settled_5 rfl rfl rfl (Nat.le_of_ble_eq_true rfl) rfl ?_
  refine v_iconst (q := 7) dX12_settled_6 rfl ic_0 ?_
  refine v_istore_n (q := 8) (loc2 := [some (.ref a0), some (.int (0 : Int32)), some (.int (0 : Int32)), none, none, none]) dX12_settled_7 rfl rfl rfl (Nat.le_of_ble_eq_true rfl) rfl ?_
  refine v_lps (S := Int32 × Int32) 39 (fun s => M1) (fun s => [some (.ref a0), some (.int s.1), some (.int s.2), none, none, none]) (fun e9 => M1) (fun e9 => [some (.ref a0), some (.int e9.1), some (.int e9.2), none, none, none]) (fun e9 => ?_) (fun k K hk hx s => ?_)
  · refine v_iconst (q := 40) dX12_settled_39 rfl ic_0 ?_
    refine v_istore_n (q := 41) (loc2 := [some (.ref a0), some (.int e9.1), some (.int (0 : Int32)), none, none, none]) dX12_settled_40 rfl rfl rfl (Nat.le_of_ble_eq_true rfl) rfl ?_
    refine v_lps (S := Me × Int32) 141 (fun s => s.1) (fun s => [some (.ref a0), some (.int e9.1), some (.int s.2), none, none, none]) (fun e26 => e26.1) (fun e26 => [some (.ref a0), some (.int e9.1), some (.int e26.2), none, none, none]) (fun e26 => ?_) (fun k K hk hx s => ?_)
    · refine v_iload_n (q := 142) dX12_settled_141 rfl rfl rfl ?_
      refine v_cPS1 (q := 145) (ct_X12_bits (d - 1) (by omega) _ _) dX12_settled_142 rfl cc_X12_105 (by omega) (Nat.le_of_ble_eq_true rfl) ⟨Nat.le_of_ble_eq_true rfl, Nat.le_of_ble_eq_true rfl⟩ (fun v27 => ?_)
      refine v_aload_n (q := 146) dX12_settled_145 rfl rfl rfl ?_
      refine v_getRb (q := 149) dX12_settled_146 rfl fg_X12_68 (fun o28 => ?_)
      refine v_iload_n (q := 150) dX12_settled_149 rfl rfl rfl ?_
      refine v_iaload (q := 151) dX12_settled_150 rfl (fun v29 => ?_)
      refine v_isub (q := 152) dX12_settled_151 rfl ?_
      exact v_iret rfl dX12_settled_152 ⟨Nat.le_of_ble_eq_true rfl, Nat.le_of_ble_eq_true rfl⟩ rfl
    · obtain ⟨M10, v11⟩ := s
      show V _ _ M10 41 [some (.ref a0), some (.int e9.1), some (.int v11), none, none, none] [] (s_X12_settled_41 a0 e9 M10 v11) _
      unfold s_X12_settled_41
      refine v_iload_n (q := 42) dX12_settled_41 rfl rfl rfl ?_
      refine v_bipush (q := 44) dX12_settled_42 rfl bp_64 ?_
      refine v_icmp_ge (tgt := 141) (q := 47) dX12_settled_44 rfl rfl ?_ ?_
      · exact v_inr (hx (M10, v11))
      · refine v_iconst (q := 48) dX12_settled_47 rfl ic_0 ?_
        refine v_istore_n (q := 49) (loc2 := [some (.ref a0), some (.int e9.1), some (.int v11), some (.int (0 : Int32)), none, none]) dX12_settled_48 rfl rfl rfl (Nat.le_of_ble_eq_true rfl) rfl ?_
        refine v_iconst (q := 50) dX12_settled_49 rfl ic_0 ?_
        refine v_istore (q := 52) (loc2 := [some (.ref a0), some (.int e9.1), some (.int v11), some (.int (0 : Int32)), some (.int (0 : Int32)), none]) dX12_settled_50 rfl rfl (Nat.le_of_ble_eq_true rfl) rfl ?_
        refine v_lps (S := Int32 × Int32) 102 (fun s => M10) (fun s => [some (.ref a0), some (.int e9.1), some (.int v11), some (.int s.1), some (.int s.2), none]) (fun e20 => M10) (fun e20 => [some (.ref a0), some (.int e9.1), some (.int v11), some (.int e20.1), some (.int e20.2), none]) (fun e20 => ?_) (fun k K hk hx s => ?_)
        · refine v_aload_n (q := 103) dX12_settled_102 rfl rfl rfl ?_
          refine v_getRb (q := 106) dX12_settled_103 rfl fg_X12_68 (fun o21 => ?_)
          refine v_iload_n (q := 107) dX12_settled_106 rfl rfl rfl ?_
          refine v_iload_n (q := 108) dX12_settled_107 rfl rfl rfl ?_
          refine v_iload_n (q := 109) dX12_settled_108 rfl rfl rfl ?_
          refine v_join (γ := Int32) 133 (fun v23 => M10) (fun v23 => [some (.ref a0), some (.int e9.1), some (.int v11), some (.int e20.1), some (.int e20.2), none]) (fun v23 => [.int v23, .int e20.1, .int v11, .ref o21]) (fun K hK => ?_) (fun v23 => ?_)
          · refine v_if_eq (tgt := 132) (q := 112) dX12_settled_109 rfl rfl ?_ ?_
            · refine v_iconst (q := 133) dX12_settled_132 rfl ic_0 ?_
              exact hK (0 : Int32)
            · refine v_iload_n (q := 113) dX12_settled_112 rfl rfl rfl ?_
              refine v_iload_n (q := 114) dX12_settled_113 rfl rfl rfl ?_
              refine v_iconst (q := 115) dX12_settled_114 rfl ic_m1 ?_
              refine v_ixor (q := 116) dX12_settled_115 rfl ?_
              refine v_iand (q := 117) dX12_settled_116 rfl ?_
              refine v_if_ne (tgt := 132) (q := 120) dX12_settled_117 rfl rfl ?_ ?_
              · refine v_iconst (q := 133) dX12_settled_132 rfl ic_0 ?_
                exact hK (0 : Int32)
              · refine v_aload_n (q := 121) dX12_settled_120 rfl rfl rfl ?_
                refine v_iload_n (q := 122) dX12_settled_121 rfl rfl rfl ?_
                refine v_cPV1 (q := 125) (ct_X12_sumOf (d - 1) (by omega) _ _ _) dX12_settled_122 rfl cc_X12_201 (by omega) (Nat.le_of_ble_eq_true rfl) ⟨Nat.le_of_ble_eq_true rfl, Nat.le_of_ble_eq_true rfl⟩ (fun v22 => ?_)
                refine v_if_ne (tgt := 132) (q := 128) dX12_settled_125 rfl rfl ?_ ?_
                · refine v_iconst (q := 133) dX12_settled_132 rfl ic_0 ?_
                  exact hK (0 : Int32)
                · refine v_iconst (q := 129) dX12_settled_128 rfl ic_1 ?_
                  refine v_goto (tgt := 133) dX12_settled_129 rfl ?_
                  exact hK (1 : Int32)
          · refine v_iadd (q := 134) dX12_settled_133 rfl ?_
            refine v_iastore (q := 135) dX12_settled_134 rfl (fun M24 => ?_)
            refine v_iincL (q := 138) (x := v11) (cst := (1 : Int32)) (f := fun v25 => [some (.ref a0), some (.int e9.1), some (.int v25), some (.int e20.1), some (.int e20.2), none]) dX12_settled_135 rfl rfl ic_1 rfl (Nat.le_of_ble_eq_true rfl) (fun _ => rfl) (fun v25 => ?_)
            refine v_goto (tgt := 41) dX12_settled_138 rfl ?_
            exact v_inl (v_weak (hk (M24, v25)) ⟨rfl, ⟨rfl, ⟨rfl, trivial⟩⟩⟩)
        · obtain ⟨v12, v13⟩ := s
          show V _ _ M10 52 [some (.ref a0), some (.int e9.1), some (.int v11), some (.int v12), some (.int v13), none] [] (s_X12_settled_52 a0 M10 v11 v12 v13) _
          unfold s_X12_settled_52
          refine v_iload (q := 54) dX12_settled_52 rfl rfl ?_
          refine v_bipush (q := 56) dX12_settled_54 rfl bp_6 ?_
          refine v_icmp_ge (tgt := 102) (q := 59) dX12_settled_56 rfl rfl ?_ ?_
          · exact v_inr (hx (v12, v13))
          · refine v_iload_n (q := 60) dX12_settled_59 rfl rfl rfl ?_
            refine v_iload (q := 62) dX12_settled_60 rfl rfl ?_
            refine v_cPS2 (q := 65) (ct_X12_has (d - 1) (by omega) _ _ _) dX12_settled_62 rfl cc_X12_85 (by omega) (Nat.le_of_ble_eq_true rfl) ⟨Nat.le_of_ble_eq_true rfl, Nat.le_of_ble_eq_true rfl⟩ (fun v14 => ?_)
            refine v_join (γ := Int32) 96 (fun v18 => M10) (fun v18 => [some (.ref a0), some (.int e9.1), some (.int v11), some (.int v18), some (.int v13), none]) (fun v18 => []) (fun K hK => ?_) (fun v18 => ?_)
            · refine v_if_eq (tgt := 96) (q := 68) dX12_settled_65 rfl rfl ?_ ?_
              · exact hK v12
              · refine v_aload_n (q := 69) dX12_settled_68 rfl rfl rfl ?_
                refine v_getRb (q := 72) dX12_settled_69 rfl fg_X12_68 (fun o15 => ?_)
                refine v_iload_n (q := 73) dX12_settled_72 rfl rfl rfl ?_
                refine v_iconst (q := 74) dX12_settled_73 rfl ic_1 ?_
                refine v_iload (q := 76) dX12_settled_74 rfl rfl ?_
                refine v_ishl (q := 77) dX12_settled_76 rfl ?_
                refine v_iconst (q := 78) dX12_settled_77 rfl ic_m1 ?_
                refine v_ixor (q := 79) dX12_settled_78 rfl ?_
                refine v_iand (q := 80) dX12_settled_79 rfl ?_
                refine v_iaload (q := 81) dX12_settled_80 rfl (fun v16 => ?_)
                refine v_istore (q := 83) (loc2 := [some (.ref a0), some (.int e9.1), some (.int v11), some (.int v12), some (.int v13), some (.int v16)]) dX12_settled_81 rfl rfl (Nat.le_of_ble_eq_true rfl) rfl ?_
                refine v_iload (q := 85) dX12_settled_83 rfl rfl ?_
                refine v_iload_n (q := 86) dX12_settled_85 rfl rfl rfl ?_
                refine v_join (γ := Int32) 95 (fun v17 => M10) (fun v17 => [some (.ref a0), some (.int e9.1), some (.int v11), some (.int v12), some (.int v13), some (.int v16)]) (fun v17 => [.int v17]) (fun K hK => ?_) (fun v17 => ?_)
                · refine v_icmp_le (tgt := 94) (q := 89) dX12_settled_86 rfl rfl ?_ ?_
                  · refine v_iload_n (q := 95) dX12_settled_94 rfl rfl rfl ?_
                    exact hK v12
                  · refine v_iload (q := 91) dX12_settled_89 rfl rfl ?_
                    refine v_goto (tgt := 95) dX12_settled_91 rfl ?_
                    exact hK v16
                · refine v_istore_n (q := 96) (loc2 := [some (.ref a0), some (.int e9.1), some (.int v11), some (.int v17), some (.int v13), some (.int v16)]) dX12_settled_95 rfl rfl rfl (Nat.le_of_ble_eq_true rfl) rfl ?_
                  exact v_weak (hK v17) ⟨rfl, ⟨rfl, ⟨rfl, ⟨rfl, ⟨rfl, trivial⟩⟩⟩⟩⟩
            · refine v_iincL (q := 99) (x := v13) (cst := (1 : Int32)) (f := fun v19 => [some (.ref a0), some (.int e9.1), some (.int v11), some (.int v18), some (.int v19), none]) dX12_settled_96 rfl rfl ic_1 rfl (Nat.le_of_ble_eq_true rfl) (fun _ => rfl) (fun v19 => ?_)
              refine v_goto (tgt := 52) dX12_settled_99 rfl ?_
              exact v_inl (hk (v18, v19))
  · obtain ⟨v2, v3⟩ := s
    show V _ _ M1 8 [some (.ref a0), some (.int v2), some (.int v3), none, none, none] [] (s_X12_settled_8 a0 M1 v2 v3) _
    unfold s_X12_settled_8
    refine v_iload_n (q := 9) dX12_settled_8 rfl rfl rfl ?_
    refine v_bipush (q := 11) dX12_settled_9 rfl bp_6 ?_
    refine v_icmp_ge (tgt := 39) (q := 14) dX12_settled_11 rfl rfl ?_ ?_
    · exact v_inr (hx (v2, v3))
    · refine v_iload_n (q := 15) dX12_settled_14 rfl rfl rfl ?_
      refine v_aload_n (q := 16) dX12_settled_15 rfl rfl rfl ?_
      refine v_getRb (q := 19) dX12_settled_16 rfl fg_X12_65 (fun o4 => ?_)
      refine v_iload_n (q := 20) dX12_settled_19 rfl rfl rfl ?_
      refine v_iaload (q := 21) dX12_settled_20 rfl (fun v5 => ?_)
      refine v_join (γ := Int32) 31 (fun v6 => M1) (fun v6 => [some (.ref a0), some (.int v2), some (.int v3), none, none, none]) (fun v6 => [.int v6, .int v2]) (fun K hK => ?_) (fun v6 => ?_)
      · refine v_if_eq (tgt := 30) (q := 24) dX12_settled_21 rfl rfl ?_ ?_
        · refine v_iconst (q := 31) dX12_settled_30 rfl ic_0 ?_
          exact hK (0 : Int32)
        · refine v_iconst (q := 25) dX12_settled_24 rfl ic_1 ?_
          refine v_iload_n (q := 26) dX12_settled_25 rfl rfl rfl ?_
          refine v_ishl (q := 27) dX12_settled_26 rfl ?_
          refine v_goto (tgt := 31) dX12_settled_27 rfl ?_
          exact hK ((1 : Int32) <<< (v3 &&& 31))
      · refine v_ior (q := 32) dX12_settled_31 rfl ?_
        refine v_letI (fun v7 => ?_)
        refine v_istore_n (q := 33) (loc2 := [some (.ref a0), some (.int v7), some (.int v3), none, none, none]) dX12_settled_32 rfl rfl rfl (Nat.le_of_ble_eq_true rfl) rfl ?_
        refine v_iincL (q := 36) (x := v3) (cst := (1 : Int32)) (f := fun v8 => [some (.ref a0), some (.int v7), some (.int v8), none, none, none]) dX12_settled_33 rfl rfl ic_1 rfl (Nat.le_of_ble_eq_true rfl) (fun _ => rfl) (fun v8 => ?_)
        refine v_goto (tgt := 8) dX12_settled_36 rfl ?_
        exact v_inl (hk (v7, v8))
theorem ct_X12_settled (d : Nat) (hd : 2 ≤ d) (a0 : Nat) (M : Me) (r : Int32) (M2 : Me) (hf : f_X12_settled a0 M = some (r, M2)) : me_k M a0 = some (12, nf_c 12) ∧ Ct yX12_settled mX12_settled d 0 0 [.ref a0] M (some (.int r), M2) := by
  obtain ⟨hk, hb⟩ := ck_some hf
  exact ⟨hk, ct_of (by decide +kernel) rfl rfl (Nat.le_of_ble_eq_true rfl) (vb_X12_settled d hd a0 M) (by rw [hb]; rfl)⟩

theorem dX12_heir_0 : decode cX12_heir 0 = .ok (.aload_n 0, 1) := by decide +kernel
theorem dX12_heir_1 : decode cX12_heir 1 = .ok (.iload_n 1, 1) := by decide +kernel
theorem dX12_heir_2 : decode cX12_heir 2 = .ok (.invokevirtual 102, 3) := by decide +kernel
theorem dX12_heir_5 : decode cX12_heir 5 = .ok (.ifCond .eq 25, 3) := by decide +kernel
theorem dX12_heir_8 : decode cX12_heir 8 = .ok (.aload_n 0, 1) := by decide +kernel
theorem dX12_heir_9 : decode cX12_heir 9 = .ok (.iload_n 2, 1) := by decide +kernel
theorem dX12_heir_10 : decode cX12_heir 10 = .ok (.invokevirtual 102, 3) := by decide +kernel
theorem dX12_heir_13 : decode cX12_heir 13 = .ok (.ifCond .eq 17, 3) := by decide +kernel
theorem dX12_heir_16 : decode cX12_heir 16 = .ok (.iload_n 1, 1) := by decide +kernel
theorem dX12_heir_17 : decode cX12_heir 17 = .ok (.iload_n 2, 1) := by decide +kernel
theorem dX12_heir_18 : decode cX12_heir 18 = .ok (.if_icmp .eq 12, 3) := by decide +kernel
theorem dX12_heir_21 : decode cX12_heir 21 = .ok (.aload_n 0, 1) := by decide +kernel
theorem dX12_heir_22 : decode cX12_heir 22 = .ok (.getfield 35, 3) := by decide +kernel
theorem dX12_heir_25 : decode cX12_heir 25 = .ok (.iload_n 2, 1) := by decide +kernel
theorem dX12_heir_26 : decode cX12_heir 26 = .ok (.iaload, 1) := by decide +kernel
theorem dX12_heir_27 : decode cX12_heir 27 = .ok (.ifCond .ne 5, 3) := by decide +kernel
theorem dX12_heir_30 : decode cX12_heir 30 = .ok (.iconst (-1), 1) := by decide +kernel
theorem dX12_heir_31 : decode cX12_heir 31 = .ok (.ireturn, 1) := by decide +kernel
theorem dX12_heir_32 : decode cX12_heir 32 = .ok (.iconst 0, 1) := by decide +kernel
theorem dX12_heir_33 : decode cX12_heir 33 = .ok (.istore_n 3, 1) := by decide +kernel
theorem dX12_heir_34 : decode cX12_heir 34 = .ok (.iconst 0, 1) := by decide +kernel
theorem dX12_heir_35 : decode cX12_heir 35 = .ok (.istore 4, 2) := by decide +kernel
theorem dX12_heir_37 : decode cX12_heir 37 = .ok (.iload 4, 2) := by decide +kernel
theorem dX12_heir_39 : decode cX12_heir 39 = .ok (.aload_n 0, 1) := by decide +kernel
theorem dX12_heir_40 : decode cX12_heir 40 = .ok (.getfield 95, 3) := by decide +kernel
theorem dX12_heir_43 : decode cX12_heir 43 = .ok (.if_icmp .ge 189, 3) := by decide +kernel
theorem dX12_heir_46 : decode cX12_heir 46 = .ok (.aload_n 0, 1) := by decide +kernel
theorem dX12_heir_47 : decode cX12_heir 47 = .ok (.getfield 41, 3) := by decide +kernel
theorem dX12_heir_50 : decode cX12_heir 50 = .ok (.iconst 4, 1) := by decide +kernel
theorem dX12_heir_51 : decode cX12_heir 51 = .ok (.iload 4, 2) := by decide +kernel
theorem dX12_heir_53 : decode cX12_heir 53 = .ok (.imul, 1) := by decide +kernel
theorem dX12_heir_54 : decode cX12_heir 54 = .ok (.iaload, 1) := by decide +kernel
theorem dX12_heir_55 : decode cX12_heir 55 = .ok (.istore 5, 2) := by decide +kernel
theorem dX12_heir_57 : decode cX12_heir 57 = .ok (.aload_n 0, 1) := by decide +kernel
theorem dX12_heir_58 : decode cX12_heir 58 = .ok (.getfield 41, 3) := by decide +kernel
theorem dX12_heir_61 : decode cX12_heir 61 = .ok (.iconst 4, 1) := by decide +kernel
theorem dX12_heir_62 : decode cX12_heir 62 = .ok (.iload 4, 2) := by decide +kernel
theorem dX12_heir_64 : decode cX12_heir 64 = .ok (.imul, 1) := by decide +kernel
theorem dX12_heir_65 : decode cX12_heir 65 = .ok (.iconst 1, 1) := by decide +kernel
theorem dX12_heir_66 : decode cX12_heir 66 = .ok (.iadd, 1) := by decide +kernel
theorem dX12_heir_67 : decode cX12_heir 67 = .ok (.iaload, 1) := by decide +kernel
theorem dX12_heir_68 : decode cX12_heir 68 = .ok (.istore 6, 2) := by decide +kernel
theorem dX12_heir_70 : decode cX12_heir 70 = .ok (.iload 5, 2) := by decide +kernel
theorem dX12_heir_72 : decode cX12_heir 72 = .ok (.iload_n 1, 1) := by decide +kernel
theorem dX12_heir_73 : decode cX12_heir 73 = .ok (.if_icmp .eq 9, 3) := by decide +kernel
theorem dX12_heir_76 : decode cX12_heir 76 = .ok (.iload 6, 2) := by decide +kernel
theorem dX12_heir_78 : decode cX12_heir 78 = .ok (.iload_n 1, 1) := by decide +kernel
theorem dX12_heir_79 : decode cX12_heir 79 = .ok (.if_icmp .ne 7, 3) := by decide +kernel
theorem dX12_heir_82 : decode cX12_heir 82 = .ok (.iconst 1, 1) := by decide +kernel
theorem dX12_heir_83 : decode cX12_heir 83 = .ok (.goto 4, 3) := by decide +kernel
theorem dX12_heir_86 : decode cX12_heir 86 = .ok (.iconst 0, 1) := by decide +kernel
theorem dX12_heir_87 : decode cX12_heir 87 = .ok (.istore 7, 2) := by decide +kernel
theorem dX12_heir_89 : decode cX12_heir 89 = .ok (.iload 7, 2) := by decide +kernel
theorem dX12_heir_91 : decode cX12_heir 91 = .ok (.ifCond .eq 19, 3) := by decide +kernel
theorem dX12_heir_94 : decode cX12_heir 94 = .ok (.aload_n 0, 1) := by decide +kernel
theorem dX12_heir_95 : decode cX12_heir 95 = .ok (.getfield 41, 3) := by decide +kernel
theorem dX12_heir_98 : decode cX12_heir 98 = .ok (.iconst 4, 1) := by decide +kernel
theorem dX12_heir_99 : decode cX12_heir 99 = .ok (.iload 4, 2) := by decide +kernel
theorem dX12_heir_101 : decode cX12_heir 101 = .ok (.imul, 1) := by decide +kernel
theorem dX12_heir_102 : decode cX12_heir 102 = .ok (.iconst 2, 1) := by decide +kernel
theorem dX12_heir_103 : decode cX12_heir 103 = .ok (.iadd, 1) := by decide +kernel
theorem dX12_heir_104 : decode cX12_heir 104 = .ok (.iaload, 1) := by decide +kernel
theorem dX12_heir_105 : decode cX12_heir 105 = .ok (.iconst 2, 1) := by decide +kernel
theorem dX12_heir_106 : decode cX12_heir 106 = .ok (.idiv, 1) := by decide +kernel
theorem dX12_heir_107 : decode cX12_heir 107 = .ok (.goto 14, 3) := by decide +kernel
theorem dX12_heir_110 : decode cX12_heir 110 = .ok (.aload_n 0, 1) := by decide +kernel
theorem dX12_heir_111 : decode cX12_heir 111 = .ok (.getfield 41, 3) := by decide +kernel
theorem dX12_heir_114 : decode cX12_heir 114 = .ok (.iconst 4, 1) := by decide +kernel
theorem dX12_heir_115 : decode cX12_heir 115 = .ok (.iload 4, 2) := by decide +kernel
theorem dX12_heir_117 : decode cX12_heir 117 = .ok (.imul, 1) := by decide +kernel
theorem dX12_heir_118 : decode cX12_heir 118 = .ok (.iconst 2, 1) := by decide +kernel
theorem dX12_heir_119 : decode cX12_heir 119 = .ok (.iadd, 1) := by decide +kernel
theorem dX12_heir_120 : decode cX12_heir 120 = .ok (.iaload, 1) := by decide +kernel
theorem dX12_heir_121 : decode cX12_heir 121 = .ok (.istore 8, 2) := by decide +kernel
theorem dX12_heir_123 : decode cX12_heir 123 = .ok (.iload 5, 2) := by decide +kernel
theorem dX12_heir_125 : decode cX12_heir 125 = .ok (.iload_n 1, 1) := by decide +kernel
theorem dX12_heir_126 : decode cX12_heir 126 = .ok (.if_icmp .ne 7, 3) := by decide +kernel
theorem dX12_heir_129 : decode cX12_heir 129 = .ok (.iload_n 2, 1) := by decide +kernel
theorem dX12_heir_130 : decode cX12_heir 130 = .ok (.goto 5, 3) := by decide +kernel
theorem dX12_heir_133 : decode cX12_heir 133 = .ok (.iload 5, 2) := by decide +kernel
theorem dX12_heir_135 : decode cX12_heir 135 = .ok (.istore 5, 2) := by decide +kernel
theorem dX12_heir_137 : decode cX12_heir 137 = .ok (.iload 6, 2) := by decide +kernel
theorem dX12_heir_139 : decode cX12_heir 139 = .ok (.iload_n 1, 1) := by decide +kernel
theorem dX12_heir_140 : decode cX12_heir 140 = .ok (.if_icmp .ne 7, 3) := by decide +kernel
theorem dX12_heir_143 : decode cX12_heir 143 = .ok (.iload_n 2, 1) := by decide +kernel
theorem dX12_heir_144 : decode cX12_heir 144 = .ok (.goto 5, 3) := by decide +kernel
theorem dX12_heir_147 : decode cX12_heir 147 = .ok (.iload 6, 2) := by decide +kernel
theorem dX12_heir_149 : decode cX12_heir 149 = .ok (.istore 6, 2) := by decide +kernel
theorem dX12_heir_151 : decode cX12_heir 151 = .ok (.iload 7, 2) := by decide +kernel
theorem dX12_heir_153 : decode cX12_heir 153 = .ok (.ifCond .eq 15, 3) := by decide +kernel
theorem dX12_heir_156 : decode cX12_heir 156 = .ok (.iload 8, 2) := by decide +kernel
theorem dX12_heir_158 : decode cX12_heir 158 = .ok (.ifCond .le 68, 3) := by decide +kernel
theorem dX12_heir_161 : decode cX12_heir 161 = .ok (.iload 5, 2) := by decide +kernel
theorem dX12_heir_163 : decode cX12_heir 163 = .ok (.iload 6, 2) := by decide +kernel
theorem dX12_heir_165 : decode cX12_heir 165 = .ok (.if_icmp .eq 61, 3) := by decide +kernel
theorem dX12_heir_168 : decode cX12_heir 168 = .ok (.aload_n 0, 1) := by decide +kernel
theorem dX12_heir_169 : decode cX12_heir 169 = .ok (.getfield 41, 3) := by decide +kernel
theorem dX12_heir_172 : decode cX12_heir 172 = .ok (.iconst 4, 1) := by decide +kernel
theorem dX12_heir_173 : decode cX12_heir 173 = .ok (.iload_n 3, 1) := by decide +kernel
theorem dX12_heir_174 : decode cX12_heir 174 = .ok (.imul, 1) := by decide +kernel
theorem dX12_heir_175 : decode cX12_heir 175 = .ok (.iload 5, 2) := by decide +kernel
theorem dX12_heir_177 : decode cX12_heir 177 = .ok (.iastore, 1) := by decide +kernel
theorem dX12_heir_178 : decode cX12_heir 178 = .ok (.aload_n 0, 1) := by decide +kernel
theorem dX12_heir_179 : decode cX12_heir 179 = .ok (.getfield 41, 3) := by decide +kernel
theorem dX12_heir_182 : decode cX12_heir 182 = .ok (.iconst 4, 1) := by decide +kernel
theorem dX12_heir_183 : decode cX12_heir 183 = .ok (.iload_n 3, 1) := by decide +kernel
theorem dX12_heir_184 : decode cX12_heir 184 = .ok (.imul, 1) := by decide +kernel
theorem dX12_heir_185 : decode cX12_heir 185 = .ok (.iconst 1, 1) := by decide +kernel
theorem dX12_heir_186 : decode cX12_heir 186 = .ok (.iadd, 1) := by decide +kernel
theorem dX12_heir_187 : decode cX12_heir 187 = .ok (.iload 6, 2) := by decide +kernel
theorem dX12_heir_189 : decode cX12_heir 189 = .ok (.iastore, 1) := by decide +kernel
theorem dX12_heir_190 : decode cX12_heir 190 = .ok (.aload_n 0, 1) := by decide +kernel
theorem dX12_heir_191 : decode cX12_heir 191 = .ok (.getfield 41, 3) := by decide +kernel
theorem dX12_heir_194 : decode cX12_heir 194 = .ok (.iconst 4, 1) := by decide +kernel
theorem dX12_heir_195 : decode cX12_heir 195 = .ok (.iload_n 3, 1) := by decide +kernel
theorem dX12_heir_196 : decode cX12_heir 196 = .ok (.imul, 1) := by decide +kernel
theorem dX12_heir_197 : decode cX12_heir 197 = .ok (.iconst 2, 1) := by decide +kernel
theorem dX12_heir_198 : decode cX12_heir 198 = .ok (.iadd, 1) := by decide +kernel
theorem dX12_heir_199 : decode cX12_heir 199 = .ok (.iload 8, 2) := by decide +kernel
theorem dX12_heir_201 : decode cX12_heir 201 = .ok (.iastore, 1) := by decide +kernel
theorem dX12_heir_202 : decode cX12_heir 202 = .ok (.aload_n 0, 1) := by decide +kernel
theorem dX12_heir_203 : decode cX12_heir 203 = .ok (.getfield 41, 3) := by decide +kernel
theorem dX12_heir_206 : decode cX12_heir 206 = .ok (.iconst 4, 1) := by decide +kernel
theorem dX12_heir_207 : decode cX12_heir 207 = .ok (.iload_n 3, 1) := by decide +kernel
theorem dX12_heir_208 : decode cX12_heir 208 = .ok (.imul, 1) := by decide +kernel
theorem dX12_heir_209 : decode cX12_heir 209 = .ok (.iconst 3, 1) := by decide +kernel
theorem dX12_heir_210 : decode cX12_heir 210 = .ok (.iadd, 1) := by decide +kernel
theorem dX12_heir_211 : decode cX12_heir 211 = .ok (.aload_n 0, 1) := by decide +kernel
theorem dX12_heir_212 : decode cX12_heir 212 = .ok (.getfield 41, 3) := by decide +kernel
theorem dX12_heir_215 : decode cX12_heir 215 = .ok (.iconst 4, 1) := by decide +kernel
theorem dX12_heir_216 : decode cX12_heir 216 = .ok (.iload 4, 2) := by decide +kernel
theorem dX12_heir_218 : decode cX12_heir 218 = .ok (.imul, 1) := by decide +kernel
theorem dX12_heir_219 : decode cX12_heir 219 = .ok (.iconst 3, 1) := by decide +kernel
theorem dX12_heir_220 : decode cX12_heir 220 = .ok (.iadd, 1) := by decide +kernel
theorem dX12_heir_221 : decode cX12_heir 221 = .ok (.iaload, 1) := by decide +kernel
theorem dX12_heir_222 : decode cX12_heir 222 = .ok (.iastore, 1) := by decide +kernel
theorem dX12_heir_223 : decode cX12_heir 223 = .ok (.iinc 3 1, 3) := by decide +kernel
theorem dX12_heir_226 : decode cX12_heir 226 = .ok (.iinc 4 1, 3) := by decide +kernel
theorem dX12_heir_229 : decode cX12_heir 229 = .ok (.goto (-192), 3) := by decide +kernel
theorem dX12_heir_232 : decode cX12_heir 232 = .ok (.aload_n 0, 1) := by decide +kernel
theorem dX12_heir_233 : decode cX12_heir 233 = .ok (.iload_n 3, 1) := by decide +kernel
theorem dX12_heir_234 : decode cX12_heir 234 = .ok (.putfield 95, 3) := by decide +kernel
theorem dX12_heir_237 : decode cX12_heir 237 = .ok (.aload_n 0, 1) := by decide +kernel
theorem dX12_heir_238 : decode cX12_heir 238 = .ok (.dup, 1) := by decide +kernel
theorem dX12_heir_239 : decode cX12_heir 239 = .ok (.getfield 78, 3) := by decide +kernel
theorem dX12_heir_242 : decode cX12_heir 242 = .ok (.iconst 1, 1) := by decide +kernel
theorem dX12_heir_243 : decode cX12_heir 243 = .ok (.iload_n 1, 1) := by decide +kernel
theorem dX12_heir_244 : decode cX12_heir 244 = .ok (.ishl, 1) := by decide +kernel
theorem dX12_heir_245 : decode cX12_heir 245 = .ok (.iconst (-1), 1) := by decide +kernel
theorem dX12_heir_246 : decode cX12_heir 246 = .ok (.ixor, 1) := by decide +kernel
theorem dX12_heir_247 : decode cX12_heir 247 = .ok (.iand, 1) := by decide +kernel
theorem dX12_heir_248 : decode cX12_heir 248 = .ok (.putfield 78, 3) := by decide +kernel
theorem dX12_heir_251 : decode cX12_heir 251 = .ok (.aload_n 0, 1) := by decide +kernel
theorem dX12_heir_252 : decode cX12_heir 252 = .ok (.getfield 78, 3) := by decide +kernel
theorem dX12_heir_255 : decode cX12_heir 255 = .ok (.invokestatic 105, 3) := by decide +kernel
theorem dX12_heir_258 : decode cX12_heir 258 = .ok (.ireturn, 1) := by decide +kernel
noncomputable def s_X12_heir_37 (a0 : Nat) (x1 : Int32) (x2 : Int32) (M5 : Me) (v6 : Int32) (v7 : Int32) : Option ((Me × Int32 × Int32) ⊕ (Me × Int32 × Int32)) :=
  gi M5 a0 12 13 fun v8 =>
  if v8 ≤ v7 then (
    some (Sum.inr (M5, v6, v7))
  ) else (
    gr M5 a0 12 14 fun o9 =>
    li M5 o9 ((4 : Int32) * v7) fun v10 =>
    gr M5 a0 12 14 fun o11 =>
    li M5 o11 (((4 : Int32) * v7) + (1 : Int32)) fun v12 =>
    (
      if v10 = x1 then (
        some (1 : Int32)
      ) else (
        if v12 = x1 then (
          some (1 : Int32)
        ) else (
          some (0 : Int32)
        )
      )
    ).bind fun v13 =>
    (
      if v13 = 0 then (
        gr M5 a0 12 14 fun o14 =>
        li M5 o14 (((4 : Int32) * v7) + (2 : Int32)) fun v15 =>
        some v15
      ) else (
        gr M5 a0 12 14 fun o16 =>
        li M5 o16 (((4 : Int32) * v7) + (2 : Int32)) fun v17 =>
        some (v17 / (2 : Int32))
      )
    ).bind fun v18 =>
    (
      if v10 = x1 then (
        some x2
      ) else (
        some v10
      )
    ).bind fun v19 =>
    (
      if v12 = x1 then (
        some x2
      ) else (
        some v12
      )
    ).bind fun v20 =>
    (
      if v13 = 0 then (
        gr M5 a0 12 14 fun o21 =>
        si M5 o21 ((4 : Int32) * v6) v19 fun M22 =>
        gr M22 a0 12 14 fun o23 =>
        si M22 o23 (((4 : Int32) * v6) + (1 : Int32)) v20 fun M24 =>
        gr M24 a0 12 14 fun o25 =>
        si M24 o25 (((4 : Int32) * v6) + (2 : Int32)) v18 fun M26 =>
        gr M26 a0 12 14 fun o27 =>
        gr M26 a0 12 14 fun o28 =>
        li M26 o28 (((4 : Int32) * v7) + (3 : Int32)) fun v29 =>
        si M26 o27 (((4 : Int32) * v6) + (3 : Int32)) v29 fun M30 =>
        let_v (v6 + (1 : Int32)) fun v31 =>
        some (M30, v31)
      ) else (
        if v18 ≤ 0 then (
          some (M5, v6)
        ) else (
          if v19 = v20 then (
            some (M5, v6)
          ) else (
            gr M5 a0 12 14 fun o32 =>
            si M5 o32 ((4 : Int32) * v6) v19 fun M33 =>
            gr M33 a0 12 14 fun o34 =>
            si M33 o34 (((4 : Int32) * v6) + (1 : Int32)) v20 fun M35 =>
            gr M35 a0 12 14 fun o36 =>
            si M35 o36 (((4 : Int32) * v6) + (2 : Int32)) v18 fun M37 =>
            gr M37 a0 12 14 fun o38 =>
            gr M37 a0 12 14 fun o39 =>
            li M37 o39 (((4 : Int32) * v7) + (3 : Int32)) fun v40 =>
            si M37 o38 (((4 : Int32) * v6) + (3 : Int32)) v40 fun M41 =>
            let_v (v6 + (1 : Int32)) fun v42 =>
            some (M41, v42)
          )
        )
      )
    ).bind fun q43 =>
    let_v (v7 + (1 : Int32)) fun v44 =>
    some (Sum.inl (q43.1, q43.2, v44))
  )
noncomputable def b_X12_heir (a0 : Nat) (x1 : Int32) (x2 : Int32) (M : Me) : Option (Int32 × Me) :=
  cP (f_X12_isThere a0 x1 M) fun v1 =>
  if v1 = 0 then (
    some ((-1 : Int32), M)
  ) else (
    cP (f_X12_isThere a0 x2 M) fun v2 =>
    if v2 = 0 then (
      some ((-1 : Int32), M)
    ) else (
      if x1 = x2 then (
        some ((-1 : Int32), M)
      ) else (
        gr M a0 12 11 fun o3 =>
        li M o3 x2 fun v4 =>
        if v4 = 0 then (
          some ((-1 : Int32), M)
        ) else (
          (lp (fun s => s_X12_heir_37 a0 x1 x2 s.1 s.2.1 s.2.2) (M, (0 : Int32), (0 : Int32))).bind fun e45 =>
          pi e45.1 a0 12 13 e45.2.1 fun M46 =>
          gi M46 a0 12 3 fun v47 =>
          pi M46 a0 12 3 (v47 &&& (((1 : Int32) <<< (x1 &&& 31)) ^^^ (-1 : Int32))) fun M48 =>
          gi M48 a0 12 3 fun v49 =>
          cP (f_X12_bits v49 M48) fun v50 =>
          some (v50, M48)
        )
      )
    )
  )
noncomputable def f_X12_heir (a0 : Nat) (x1 : Int32) (x2 : Int32) (M : Me) : Option (Int32 × Me) := ck M a0 12 (b_X12_heir a0 x1 x2 M)
set_option maxRecDepth 20000 in
theorem vb_X12_heir (d : Nat) (hd : 2 ≤ d) (a0 : Nat) (x1 : Int32) (x2 : Int32) (M : Me) : V (mX12_heir, d, 0, 0) (0, 0) M 0 [some (.ref a0), some (.int x1), some (.int x2), none, none, none, none, none, none] [] (b_X12_heir a0 x1 x2 M) (fun z => some (some (.int z.1), z.2)) := by
  unfold b_X12_heir
  refine v_aload_n (q := 1) dX12_heir_0 rfl rfl rfl ?_
  refine v_iload_n (q := 2) dX12_heir_1 rfl rfl rfl ?_
  refine v_cPV1 (q := 5) (ct_X12_isThere (d - 1) (by omega) _ _ _) dX12_heir_2 rfl cc_X12_102 (by omega) (Nat.le_of_ble_eq_true rfl) ⟨Nat.le_of_ble_eq_true rfl, Nat.le_of_ble_eq_true rfl⟩ (fun v1 => ?_)
  refine v_if_eq (tgt := 30) (q := 8) dX12_heir_5 rfl rfl ?_ ?_
  · refine v_iconst (q := 31) dX12_heir_30 rfl ic_m1 ?_
    exact v_iret rfl dX12_heir_31 ⟨Nat.le_of_ble_eq_true rfl, Nat.le_of_ble_eq_true rfl⟩ rfl
  · refine v_aload_n (q := 9) dX12_heir_8 rfl rfl rfl ?_
    refine v_iload_n (q := 10) dX12_heir_9 rfl rfl rfl ?_
    refine v_cPV1 (q := 13) (ct_X12_isThere (d - 1) (by omega) _ _ _) dX12_heir_10 rfl cc_X12_102 (by omega) (Nat.le_of_ble_eq_true rfl) ⟨Nat.le_of_ble_eq_true rfl, Nat.le_of_ble_eq_true rfl⟩ (fun v2 => ?_)
    refine v_if_eq (tgt := 30) (q := 16) dX12_heir_13 rfl rfl ?_ ?_
    · refine v_iconst (q := 31) dX12_heir_30 rfl ic_m1 ?_
      exact v_iret rfl dX12_heir_31 ⟨Nat.le_of_ble_eq_true rfl, Nat.le_of_ble_eq_true rfl⟩ rfl
    · refine v_iload_n (q := 17) dX12_heir_16 rfl rfl rfl ?_
      refine v_iload_n (q := 18) dX12_heir_17 rfl rfl rfl ?_
      refine v_icmp_eq (tgt := 30) (q := 21) dX12_heir_18 rfl rfl ?_ ?_
      · refine v_iconst (q := 31) dX12_heir_30 rfl ic_m1 ?_
        exact v_iret rfl dX12_heir_31 ⟨Nat.le_of_ble_eq_true rfl, Nat.le_of_ble_eq_true rfl⟩ rfl
      · refine v_aload_n (q := 22) dX12_heir_21 rfl rfl rfl ?_
        refine v_getRb (q := 25) dX12_heir_22 rfl fg_X12_35 (fun o3 => ?_)
        refine v_iload_n (q := 26) dX12_heir_25 rfl rfl rfl ?_
        refine v_iaload (q := 27) dX12_heir_26 rfl (fun v4 => ?_)
        refine v_if_ne (tgt := 32) (q := 30) dX12_heir_27 rfl rfl ?_ ?_
        · refine v_iconst (q := 33) dX12_heir_32 rfl ic_0 ?_
          refine v_istore_n (q := 34) (loc2 := [some (.ref a0), some (.int x1), some (.int x2), some (.int (0 : Int32)), none, none, none, none, none]) dX12_heir_33 rfl rfl rfl (Nat.le_of_ble_eq_true rfl) rfl ?_
          refine v_iconst (q := 35) dX12_heir_34 rfl ic_0 ?_
          refine v_istore (q := 37) (loc2 := [some (.ref a0), some (.int x1), some (.int x2), some (.int (0 : Int32)), some (.int (0 : Int32)), none, none, none, none]) dX12_heir_35 rfl rfl (Nat.le_of_ble_eq_true rfl) rfl ?_
          refine v_lps (S := Me × Int32 × Int32) 232 (fun s => s.1) (fun s => [some (.ref a0), some (.int x1), some (.int x2), some (.int s.2.1), some (.int s.2.2), none, none, none, none]) (fun e45 => e45.1) (fun e45 => [some (.ref a0), some (.int x1), some (.int x2), some (.int e45.2.1), some (.int e45.2.2), none, none, none, none]) (fun e45 => ?_) (fun k K hk hx s => ?_)
          · refine v_aload_n (q := 233) dX12_heir_232 rfl rfl rfl ?_
            refine v_iload_n (q := 234) dX12_heir_233 rfl rfl rfl ?_
            refine v_putIb (q := 237) dX12_heir_234 rfl fp_X12_95 (fun M46 => ?_)
            refine v_aload_n (q := 238) dX12_heir_237 rfl rfl rfl ?_
            refine v_dup (q := 239) dX12_heir_238 rfl rfl ?_
            refine v_getIb (q := 242) dX12_heir_239 rfl fg_X12_78 (fun v47 => ?_)
            refine v_iconst (q := 243) dX12_heir_242 rfl ic_1 ?_
            refine v_iload_n (q := 244) dX12_heir_243 rfl rfl rfl ?_
            refine v_ishl (q := 245) dX12_heir_244 rfl ?_
            refine v_iconst (q := 246) dX12_heir_245 rfl ic_m1 ?_
            refine v_ixor (q := 247) dX12_heir_246 rfl ?_
            refine v_iand (q := 248) dX12_heir_247 rfl ?_
            refine v_putIb (q := 251) dX12_heir_248 rfl fp_X12_78 (fun M48 => ?_)
            refine v_aload_n (q := 252) dX12_heir_251 rfl rfl rfl ?_
            refine v_getIb (q := 255) dX12_heir_252 rfl fg_X12_78 (fun v49 => ?_)
            refine v_cPS1 (q := 258) (ct_X12_bits (d - 1) (by omega) _ _) dX12_heir_255 rfl cc_X12_105 (by omega) (Nat.le_of_ble_eq_true rfl) ⟨Nat.le_of_ble_eq_true rfl, Nat.le_of_ble_eq_true rfl⟩ (fun v50 => ?_)
            exact v_iret rfl dX12_heir_258 ⟨Nat.le_of_ble_eq_true rfl, Nat.le_of_ble_eq_true rfl⟩ rfl
          · obtain ⟨M5, v6, v7⟩ := s
            show V _ _ M5 37 [some (.ref a0), some (.int x1), some (.int x2), some (.int v6), some (.int v7), none, none, none, none] [] (s_X12_heir_37 a0 x1 x2 M5 v6 v7) _
            unfold s_X12_heir_37
            refine v_iload (q := 39) dX12_heir_37 rfl rfl ?_
            refine v_aload_n (q := 40) dX12_heir_39 rfl rfl rfl ?_
            refine v_getIb (q := 43) dX12_heir_40 rfl fg_X12_95 (fun v8 => ?_)
            refine v_icmp_ge (tgt := 232) (q := 46) dX12_heir_43 rfl rfl ?_ ?_
            · exact v_inr (hx (M5, v6, v7))
            · refine v_aload_n (q := 47) dX12_heir_46 rfl rfl rfl ?_
              refine v_getRb (q := 50) dX12_heir_47 rfl fg_X12_41 (fun o9 => ?_)
              refine v_iconst (q := 51) dX12_heir_50 rfl ic_4 ?_
              refine v_iload (q := 53) dX12_heir_51 rfl rfl ?_
              refine v_imul (q := 54) dX12_heir_53 rfl ?_
              refine v_iaload (q := 55) dX12_heir_54 rfl (fun v10 => ?_)
              refine v_istore (q := 57) (loc2 := [some (.ref a0), some (.int x1), some (.int x2), some (.int v6), some (.int v7), some (.int v10), none, none, none]) dX12_heir_55 rfl rfl (Nat.le_of_ble_eq_true rfl) rfl ?_
              refine v_aload_n (q := 58) dX12_heir_57 rfl rfl rfl ?_
              refine v_getRb (q := 61) dX12_heir_58 rfl fg_X12_41 (fun o11 => ?_)
              refine v_iconst (q := 62) dX12_heir_61 rfl ic_4 ?_
              refine v_iload (q := 64) dX12_heir_62 rfl rfl ?_
              refine v_imul (q := 65) dX12_heir_64 rfl ?_
              refine v_iconst (q := 66) dX12_heir_65 rfl ic_1 ?_
              refine v_iadd (q := 67) dX12_heir_66 rfl ?_
              refine v_iaload (q := 68) dX12_heir_67 rfl (fun v12 => ?_)
              refine v_istore (q := 70) (loc2 := [some (.ref a0), some (.int x1), some (.int x2), some (.int v6), some (.int v7), some (.int v10), some (.int v12), none, none]) dX12_heir_68 rfl rfl (Nat.le_of_ble_eq_true rfl) rfl ?_
              refine v_iload (q := 72) dX12_heir_70 rfl rfl ?_
              refine v_iload_n (q := 73) dX12_heir_72 rfl rfl rfl ?_
              refine v_join (γ := Int32) 87 (fun v13 => M5) (fun v13 => [some (.ref a0), some (.int x1), some (.int x2), some (.int v6), some (.int v7), some (.int v10), some (.int v12), none, none]) (fun v13 => [.int v13]) (fun K hK => ?_) (fun v13 => ?_)
              · refine v_icmp_eq (tgt := 82) (q := 76) dX12_heir_73 rfl rfl ?_ ?_
                · refine v_iconst (q := 83) dX12_heir_82 rfl ic_1 ?_
                  refine v_goto (tgt := 87) dX12_heir_83 rfl ?_
                  exact hK (1 : Int32)
                · refine v_iload (q := 78) dX12_heir_76 rfl rfl ?_
                  refine v_iload_n (q := 79) dX12_heir_78 rfl rfl rfl ?_
                  refine v_icmp_ne (tgt := 86) (q := 82) dX12_heir_79 rfl rfl ?_ ?_
                  · refine v_iconst (q := 87) dX12_heir_86 rfl ic_0 ?_
                    exact hK (0 : Int32)
                  · refine v_iconst (q := 83) dX12_heir_82 rfl ic_1 ?_
                    refine v_goto (tgt := 87) dX12_heir_83 rfl ?_
                    exact hK (1 : Int32)
              · refine v_istore (q := 89) (loc2 := [some (.ref a0), some (.int x1), some (.int x2), some (.int v6), some (.int v7), some (.int v10), some (.int v12), some (.int v13), none]) dX12_heir_87 rfl rfl (Nat.le_of_ble_eq_true rfl) rfl ?_
                refine v_iload (q := 91) dX12_heir_89 rfl rfl ?_
                refine v_join (γ := Int32) 121 (fun v18 => M5) (fun v18 => [some (.ref a0), some (.int x1), some (.int x2), some (.int v6), some (.int v7), some (.int v10), some (.int v12), some (.int v13), none]) (fun v18 => [.int v18]) (fun K hK => ?_) (fun v18 => ?_)
                · refine v_if_eq (tgt := 110) (q := 94) dX12_heir_91 rfl rfl ?_ ?_
                  · refine v_aload_n (q := 111) dX12_heir_110 rfl rfl rfl ?_
                    refine v_getRb (q := 114) dX12_heir_111 rfl fg_X12_41 (fun o14 => ?_)
                    refine v_iconst (q := 115) dX12_heir_114 rfl ic_4 ?_
                    refine v_iload (q := 117) dX12_heir_115 rfl rfl ?_
                    refine v_imul (q := 118) dX12_heir_117 rfl ?_
                    refine v_iconst (q := 119) dX12_heir_118 rfl ic_2 ?_
                    refine v_iadd (q := 120) dX12_heir_119 rfl ?_
                    refine v_iaload (q := 121) dX12_heir_120 rfl (fun v15 => ?_)
                    exact hK v15
                  · refine v_aload_n (q := 95) dX12_heir_94 rfl rfl rfl ?_
                    refine v_getRb (q := 98) dX12_heir_95 rfl fg_X12_41 (fun o16 => ?_)
                    refine v_iconst (q := 99) dX12_heir_98 rfl ic_4 ?_
                    refine v_iload (q := 101) dX12_heir_99 rfl rfl ?_
                    refine v_imul (q := 102) dX12_heir_101 rfl ?_
                    refine v_iconst (q := 103) dX12_heir_102 rfl ic_2 ?_
                    refine v_iadd (q := 104) dX12_heir_103 rfl ?_
                    refine v_iaload (q := 105) dX12_heir_104 rfl (fun v17 => ?_)
                    refine v_iconst (q := 106) dX12_heir_105 rfl ic_2 ?_
                    refine v_idivc (q := 107) dX12_heir_106 rfl ne_2 ?_
                    refine v_goto (tgt := 121) dX12_heir_107 rfl ?_
                    exact hK (v17 / (2 : Int32))
                · refine v_istore (q := 123) (loc2 := [some (.ref a0), some (.int x1), some (.int x2), some (.int v6), some (.int v7), some (.int v10), some (.int v12), some (.int v13), some (.int v18)]) dX12_heir_121 rfl rfl (Nat.le_of_ble_eq_true rfl) rfl ?_
                  refine v_iload (q := 125) dX12_heir_123 rfl rfl ?_
                  refine v_iload_n (q := 126) dX12_heir_125 rfl rfl rfl ?_
                  refine v_join (γ := Int32) 135 (fun v19 => M5) (fun v19 => [some (.ref a0), some (.int x1), some (.int x2), some (.int v6), some (.int v7), some (.int v10), some (.int v12), some (.int v13), some (.int v18)]) (fun v19 => [.int v19]) (fun K hK => ?_) (fun v19 => ?_)
                  · refine v_icmp_ne (tgt := 133) (q := 129) dX12_heir_126 rfl rfl ?_ ?_
                    · refine v_iload (q := 135) dX12_heir_133 rfl rfl ?_
                      exact hK v10
                    · refine v_iload_n (q := 130) dX12_heir_129 rfl rfl rfl ?_
                      refine v_goto (tgt := 135) dX12_heir_130 rfl ?_
                      exact hK x2
                  · refine v_istore (q := 137) (loc2 := [some (.ref a0), some (.int x1), some (.int x2), some (.int v6), some (.int v7), some (.int v19), some (.int v12), some (.int v13), some (.int v18)]) dX12_heir_135 rfl rfl (Nat.le_of_ble_eq_true rfl) rfl ?_
                    refine v_iload (q := 139) dX12_heir_137 rfl rfl ?_
                    refine v_iload_n (q := 140) dX12_heir_139 rfl rfl rfl ?_
                    refine v_join (γ := Int32) 149 (fun v20 => M5) (fun v20 => [some (.ref a0), some (.int x1), some (.int x2), some (.int v6), some (.int v7), some (.int v19), some (.int v12), some (.int v13), some (.int v18)]) (fun v20 => [.int v20]) (fun K hK => ?_) (fun v20 => ?_)
                    · refine v_icmp_ne (tgt := 147) (q := 143) dX12_heir_140 rfl rfl ?_ ?_
                      · refine v_iload (q := 149) dX12_heir_147 rfl rfl ?_
                        exact hK v12
                      · refine v_iload_n (q := 144) dX12_heir_143 rfl rfl rfl ?_
                        refine v_goto (tgt := 149) dX12_heir_144 rfl ?_
                        exact hK x2
                    · refine v_istore (q := 151) (loc2 := [some (.ref a0), some (.int x1), some (.int x2), some (.int v6), some (.int v7), some (.int v19), some (.int v20), some (.int v13), some (.int v18)]) dX12_heir_149 rfl rfl (Nat.le_of_ble_eq_true rfl) rfl ?_
                      refine v_iload (q := 153) dX12_heir_151 rfl rfl ?_
                      refine v_join (γ := Me × Int32) 226 (fun q43 => q43.1) (fun q43 => [some (.ref a0), some (.int x1), some (.int x2), some (.int q43.2), some (.int v7), some (.int v19), some (.int v20), some (.int v13), some (.int v18)]) (fun q43 => []) (fun K hK => ?_) (fun q43 => ?_)
                      · refine v_if_eq (tgt := 168) (q := 156) dX12_heir_153 rfl rfl ?_ ?_
                        · refine v_aload_n (q := 169) dX12_heir_168 rfl rfl rfl ?_
                          refine v_getRb (q := 172) dX12_heir_169 rfl fg_X12_41 (fun o21 => ?_)
                          refine v_iconst (q := 173) dX12_heir_172 rfl ic_4 ?_
                          refine v_iload_n (q := 174) dX12_heir_173 rfl rfl rfl ?_
                          refine v_imul (q := 175) dX12_heir_174 rfl ?_
                          refine v_iload (q := 177) dX12_heir_175 rfl rfl ?_
                          refine v_iastore (q := 178) dX12_heir_177 rfl (fun M22 => ?_)
                          refine v_aload_n (q := 179) dX12_heir_178 rfl rfl rfl ?_
                          refine v_getRb (q := 182) dX12_heir_179 rfl fg_X12_41 (fun o23 => ?_)
                          refine v_iconst (q := 183) dX12_heir_182 rfl ic_4 ?_
                          refine v_iload_n (q := 184) dX12_heir_183 rfl rfl rfl ?_
                          refine v_imul (q := 185) dX12_heir_184 rfl ?_
                          refine v_iconst (q := 186) dX12_heir_185 rfl ic_1 ?_
                          refine v_iadd (q := 187) dX12_heir_186 rfl ?_
                          refine v_iload (q := 189) dX12_heir_187 rfl rfl ?_
                          refine v_iastore (q := 190) dX12_heir_189 rfl (fun M24 => ?_)
                          refine v_aload_n (q := 191) dX12_heir_190 rfl rfl rfl ?_
                          refine v_getRb (q := 194) dX12_heir_191 rfl fg_X12_41 (fun o25 => ?_)
                          refine v_iconst (q := 195) dX12_heir_194 rfl ic_4 ?_
                          refine v_iload_n (q := 196) dX12_heir_195 rfl rfl rfl ?_
                          refine v_imul (q := 197) dX12_heir_196 rfl ?_
                          refine v_iconst (q := 198) dX12_heir_197 rfl ic_2 ?_
                          refine v_iadd (q := 199) dX12_heir_198 rfl ?_
                          refine v_iload (q := 201) dX12_heir_199 rfl rfl ?_
                          refine v_iastore (q := 202) dX12_heir_201 rfl (fun M26 => ?_)
                          refine v_aload_n (q := 203) dX12_heir_202 rfl rfl rfl ?_
                          refine v_getRb (q := 206) dX12_heir_203 rfl fg_X12_41 (fun o27 => ?_)
                          refine v_iconst (q := 207) dX12_heir_206 rfl ic_4 ?_
                          refine v_iload_n (q := 208) dX12_heir_207 rfl rfl rfl ?_
                          refine v_imul (q := 209) dX12_heir_208 rfl ?_
                          refine v_iconst (q := 210) dX12_heir_209 rfl ic_3 ?_
                          refine v_iadd (q := 211) dX12_heir_210 rfl ?_
                          refine v_aload_n (q := 212) dX12_heir_211 rfl rfl rfl ?_
                          refine v_getRb (q := 215) dX12_heir_212 rfl fg_X12_41 (fun o28 => ?_)
                          refine v_iconst (q := 216) dX12_heir_215 rfl ic_4 ?_
                          refine v_iload (q := 218) dX12_heir_216 rfl rfl ?_
                          refine v_imul (q := 219) dX12_heir_218 rfl ?_
                          refine v_iconst (q := 220) dX12_heir_219 rfl ic_3 ?_
                          refine v_iadd (q := 221) dX12_heir_220 rfl ?_
                          refine v_iaload (q := 222) dX12_heir_221 rfl (fun v29 => ?_)
                          refine v_iastore (q := 223) dX12_heir_222 rfl (fun M30 => ?_)
                          refine v_iincL (q := 226) (x := v6) (cst := (1 : Int32)) (f := fun v31 => [some (.ref a0), some (.int x1), some (.int x2), some (.int v31), some (.int v7), some (.int v19), some (.int v20), some (.int v13), some (.int v18)]) dX12_heir_223 rfl rfl ic_1 rfl (Nat.le_of_ble_eq_true rfl) (fun _ => rfl) (fun v31 => ?_)
                          exact hK (M30, v31)
                        · refine v_iload (q := 158) dX12_heir_156 rfl rfl ?_
                          refine v_if_le (tgt := 226) (q := 161) dX12_heir_158 rfl rfl ?_ ?_
                          · exact hK (M5, v6)
                          · refine v_iload (q := 163) dX12_heir_161 rfl rfl ?_
                            refine v_iload (q := 165) dX12_heir_163 rfl rfl ?_
                            refine v_icmp_eq (tgt := 226) (q := 168) dX12_heir_165 rfl rfl ?_ ?_
                            · exact hK (M5, v6)
                            · refine v_aload_n (q := 169) dX12_heir_168 rfl rfl rfl ?_
                              refine v_getRb (q := 172) dX12_heir_169 rfl fg_X12_41 (fun o32 => ?_)
                              refine v_iconst (q := 173) dX12_heir_172 rfl ic_4 ?_
                              refine v_iload_n (q := 174) dX12_heir_173 rfl rfl rfl ?_
                              refine v_imul (q := 175) dX12_heir_174 rfl ?_
                              refine v_iload (q := 177) dX12_heir_175 rfl rfl ?_
                              refine v_iastore (q := 178) dX12_heir_177 rfl (fun M33 => ?_)
                              refine v_aload_n (q := 179) dX12_heir_178 rfl rfl rfl ?_
                              refine v_getRb (q := 182) dX12_heir_179 rfl fg_X12_41 (fun o34 => ?_)
                              refine v_iconst (q := 183) dX12_heir_182 rfl ic_4 ?_
                              refine v_iload_n (q := 184) dX12_heir_183 rfl rfl rfl ?_
                              refine v_imul (q := 185) dX12_heir_184 rfl ?_
                              refine v_iconst (q := 186) dX12_heir_185 rfl ic_1 ?_
                              refine v_iadd (q := 187) dX12_heir_186 rfl ?_
                              refine v_iload (q := 189) dX12_heir_187 rfl rfl ?_
                              refine v_iastore (q := 190) dX12_heir_189 rfl (fun M35 => ?_)
                              refine v_aload_n (q := 191) dX12_heir_190 rfl rfl rfl ?_
                              refine v_getRb (q := 194) dX12_heir_191 rfl fg_X12_41 (fun o36 => ?_)
                              refine v_iconst (q := 195) dX12_heir_194 rfl ic_4 ?_
                              refine v_iload_n (q := 196) dX12_heir_195 rfl rfl rfl ?_
                              refine v_imul (q := 197) dX12_heir_196 rfl ?_
                              refine v_iconst (q := 198) dX12_heir_197 rfl ic_2 ?_
                              refine v_iadd (q := 199) dX12_heir_198 rfl ?_
                              refine v_iload (q := 201) dX12_heir_199 rfl rfl ?_
                              refine v_iastore (q := 202) dX12_heir_201 rfl (fun M37 => ?_)
                              refine v_aload_n (q := 203) dX12_heir_202 rfl rfl rfl ?_
                              refine v_getRb (q := 206) dX12_heir_203 rfl fg_X12_41 (fun o38 => ?_)
                              refine v_iconst (q := 207) dX12_heir_206 rfl ic_4 ?_
                              refine v_iload_n (q := 208) dX12_heir_207 rfl rfl rfl ?_
                              refine v_imul (q := 209) dX12_heir_208 rfl ?_
                              refine v_iconst (q := 210) dX12_heir_209 rfl ic_3 ?_
                              refine v_iadd (q := 211) dX12_heir_210 rfl ?_
                              refine v_aload_n (q := 212) dX12_heir_211 rfl rfl rfl ?_
                              refine v_getRb (q := 215) dX12_heir_212 rfl fg_X12_41 (fun o39 => ?_)
                              refine v_iconst (q := 216) dX12_heir_215 rfl ic_4 ?_
                              refine v_iload (q := 218) dX12_heir_216 rfl rfl ?_
                              refine v_imul (q := 219) dX12_heir_218 rfl ?_
                              refine v_iconst (q := 220) dX12_heir_219 rfl ic_3 ?_
                              refine v_iadd (q := 221) dX12_heir_220 rfl ?_
                              refine v_iaload (q := 222) dX12_heir_221 rfl (fun v40 => ?_)
                              refine v_iastore (q := 223) dX12_heir_222 rfl (fun M41 => ?_)
                              refine v_iincL (q := 226) (x := v6) (cst := (1 : Int32)) (f := fun v42 => [some (.ref a0), some (.int x1), some (.int x2), some (.int v42), some (.int v7), some (.int v19), some (.int v20), some (.int v13), some (.int v18)]) dX12_heir_223 rfl rfl ic_1 rfl (Nat.le_of_ble_eq_true rfl) (fun _ => rfl) (fun v42 => ?_)
                              exact hK (M41, v42)
                      · refine v_iincL (q := 229) (x := v7) (cst := (1 : Int32)) (f := fun v44 => [some (.ref a0), some (.int x1), some (.int x2), some (.int q43.2), some (.int v44), some (.int v19), some (.int v20), some (.int v13), some (.int v18)]) dX12_heir_226 rfl rfl ic_1 rfl (Nat.le_of_ble_eq_true rfl) (fun _ => rfl) (fun v44 => ?_)
                        refine v_goto (tgt := 37) dX12_heir_229 rfl ?_
                        exact v_inl (v_weak (hk (q43.1, q43.2, v44)) ⟨rfl, ⟨rfl, ⟨rfl, ⟨rfl, ⟨rfl, trivial⟩⟩⟩⟩⟩)
        · refine v_iconst (q := 31) dX12_heir_30 rfl ic_m1 ?_
          exact v_iret rfl dX12_heir_31 ⟨Nat.le_of_ble_eq_true rfl, Nat.le_of_ble_eq_true rfl⟩ rfl
theorem ct_X12_heir (d : Nat) (hd : 2 ≤ d) (a0 : Nat) (x1 : Int32) (x2 : Int32) (M : Me) (r : Int32) (M2 : Me) (hf : f_X12_heir a0 x1 x2 M = some (r, M2)) : me_k M a0 = some (12, nf_c 12) ∧ Ct yX12_heir mX12_heir d 0 0 [.ref a0, .int x1, .int x2] M (some (.int r), M2) := by
  obtain ⟨hk, hb⟩ := ck_some hf
  exact ⟨hk, ct_of (by decide +kernel) rfl rfl (Nat.le_of_ble_eq_true rfl) (vb_X12_heir d hd a0 x1 x2 M) (by rw [hb]; rfl)⟩
theorem dX12_say_0 : decode cX12_say 0 = .ok (.iload_n 1, 1) := by decide +kernel
theorem dX12_say_1 : decode cX12_say 1 = .ok (.bipush 33, 2) := by decide +kernel
theorem dX12_say_3 : decode cX12_say 3 = .ok (.bipush 126, 2) := by decide +kernel
theorem dX12_say_5 : decode cX12_say 5 = .ok (.invokestatic 81, 3) := by decide +kernel
theorem dX12_say_8 : decode cX12_say 8 = .ok (.ifCond .ne 6, 3) := by decide +kernel
theorem dX12_say_11 : decode cX12_say 11 = .ok (.bipush (-2), 2) := by decide +kernel
theorem dX12_say_13 : decode cX12_say 13 = .ok (.ireturn, 1) := by decide +kernel
theorem dX12_say_14 : decode cX12_say 14 = .ok (.aload_n 0, 1) := by decide +kernel
theorem dX12_say_15 : decode cX12_say 15 = .ok (.getfield 109, 3) := by decide +kernel
theorem dX12_say_18 : decode cX12_say 18 = .ok (.bipush 60, 2) := by decide +kernel
theorem dX12_say_20 : decode cX12_say 20 = .ok (.if_icmp .ne 6, 3) := by decide +kernel
theorem dX12_say_23 : decode cX12_say 23 = .ok (.bipush (-4), 2) := by decide +kernel
theorem dX12_say_25 : decode cX12_say 25 = .ok (.ireturn, 1) := by decide +kernel
theorem dX12_say_26 : decode cX12_say 26 = .ok (.aload_n 0, 1) := by decide +kernel
theorem dX12_say_27 : decode cX12_say 27 = .ok (.getfield 44, 3) := by decide +kernel
theorem dX12_say_30 : decode cX12_say 30 = .ok (.aload_n 0, 1) := by decide +kernel
theorem dX12_say_31 : decode cX12_say 31 = .ok (.getfield 109, 3) := by decide +kernel
theorem dX12_say_34 : decode cX12_say 34 = .ok (.iload_n 1, 1) := by decide +kernel
theorem dX12_say_35 : decode cX12_say 35 = .ok (.iastore, 1) := by decide +kernel
theorem dX12_say_36 : decode cX12_say 36 = .ok (.aload_n 0, 1) := by decide +kernel
theorem dX12_say_37 : decode cX12_say 37 = .ok (.dup, 1) := by decide +kernel
theorem dX12_say_38 : decode cX12_say 38 = .ok (.getfield 109, 3) := by decide +kernel
theorem dX12_say_41 : decode cX12_say 41 = .ok (.iconst 1, 1) := by decide +kernel
theorem dX12_say_42 : decode cX12_say 42 = .ok (.iadd, 1) := by decide +kernel
theorem dX12_say_43 : decode cX12_say 43 = .ok (.putfield 109, 3) := by decide +kernel
theorem dX12_say_46 : decode cX12_say 46 = .ok (.aload_n 0, 1) := by decide +kernel
theorem dX12_say_47 : decode cX12_say 47 = .ok (.getfield 109, 3) := by decide +kernel
theorem dX12_say_50 : decode cX12_say 50 = .ok (.ireturn, 1) := by decide +kernel
noncomputable def b_X12_say (a0 : Nat) (x1 : Int32) (M : Me) : Option (Int32 × Me) :=
  cP (f_X12_in x1 (33 : Int32) (126 : Int32) M) fun v1 =>
  if v1 = 0 then (
    some ((-2 : Int32), M)
  ) else (
    gi M a0 12 15 fun v2 =>
    if v2 = (60 : Int32) then (
      some ((-4 : Int32), M)
    ) else (
      gr M a0 12 16 fun o3 =>
      gi M a0 12 15 fun v4 =>
      si M o3 v4 x1 fun M5 =>
      gi M5 a0 12 15 fun v6 =>
      pi M5 a0 12 15 (v6 + (1 : Int32)) fun M7 =>
      gi M7 a0 12 15 fun v8 =>
      some (v8, M7)
    )
  )
noncomputable def f_X12_say (a0 : Nat) (x1 : Int32) (M : Me) : Option (Int32 × Me) := ck M a0 12 (b_X12_say a0 x1 M)
set_option maxRecDepth 20000 in
theorem vb_X12_say (d : Nat) (hd : 1 ≤ d) (a0 : Nat) (x1 : Int32) (M : Me) : V (mX12_say, d, 0, 0) (0, 0) M 0 [some (.ref a0), some (.int x1)] [] (b_X12_say a0 x1 M) (fun z => some (some (.int z.1), z.2)) := by
  unfold b_X12_say
  refine v_iload_n (q := 1) dX12_say_0 rfl rfl rfl ?_
  refine v_bipush (q := 3) dX12_say_1 rfl bp_33 ?_
  refine v_bipush (q := 5) dX12_say_3 rfl bp_126 ?_
  refine v_cPS3 (q := 8) (ct_X12_in (d - 1) (by omega) _ _ _ _) dX12_say_5 rfl cc_X12_81 (by omega) (Nat.le_of_ble_eq_true rfl) ⟨Nat.le_of_ble_eq_true rfl, Nat.le_of_ble_eq_true rfl⟩ (fun v1 => ?_)
  refine v_if_ne (tgt := 14) (q := 11) dX12_say_8 rfl rfl ?_ ?_
  · refine v_aload_n (q := 15) dX12_say_14 rfl rfl rfl ?_
    refine v_getIb (q := 18) dX12_say_15 rfl fg_X12_109 (fun v2 => ?_)
    refine v_bipush (q := 20) dX12_say_18 rfl bp_60 ?_
    refine v_icmp_ne (tgt := 26) (q := 23) dX12_say_20 rfl rfl ?_ ?_
    · refine v_aload_n (q := 27) dX12_say_26 rfl rfl rfl ?_
      refine v_getRb (q := 30) dX12_say_27 rfl fg_X12_44 (fun o3 => ?_)
      refine v_aload_n (q := 31) dX12_say_30 rfl rfl rfl ?_
      refine v_getIb (q := 34) dX12_say_31 rfl fg_X12_109 (fun v4 => ?_)
      refine v_iload_n (q := 35) dX12_say_34 rfl rfl rfl ?_
      refine v_iastore (q := 36) dX12_say_35 rfl (fun M5 => ?_)
      refine v_aload_n (q := 37) dX12_say_36 rfl rfl rfl ?_
      refine v_dup (q := 38) dX12_say_37 rfl rfl ?_
      refine v_getIb (q := 41) dX12_say_38 rfl fg_X12_109 (fun v6 => ?_)
      refine v_iconst (q := 42) dX12_say_41 rfl ic_1 ?_
      refine v_iadd (q := 43) dX12_say_42 rfl ?_
      refine v_putIb (q := 46) dX12_say_43 rfl fp_X12_109 (fun M7 => ?_)
      refine v_aload_n (q := 47) dX12_say_46 rfl rfl rfl ?_
      refine v_getIb (q := 50) dX12_say_47 rfl fg_X12_109 (fun v8 => ?_)
      exact v_iret rfl dX12_say_50 ⟨Nat.le_of_ble_eq_true rfl, Nat.le_of_ble_eq_true rfl⟩ rfl
    · refine v_bipush (q := 25) dX12_say_23 rfl bp_m4 ?_
      exact v_iret rfl dX12_say_25 ⟨Nat.le_of_ble_eq_true rfl, Nat.le_of_ble_eq_true rfl⟩ rfl
  · refine v_bipush (q := 13) dX12_say_11 rfl bp_m2 ?_
    exact v_iret rfl dX12_say_13 ⟨Nat.le_of_ble_eq_true rfl, Nat.le_of_ble_eq_true rfl⟩ rfl
theorem ct_X12_say (d : Nat) (hd : 1 ≤ d) (a0 : Nat) (x1 : Int32) (M : Me) (r : Int32) (M2 : Me) (hf : f_X12_say a0 x1 M = some (r, M2)) : me_k M a0 = some (12, nf_c 12) ∧ Ct yX12_say mX12_say d 0 0 [.ref a0, .int x1] M (some (.int r), M2) := by
  obtain ⟨hk, hb⟩ := ck_some hf
  exact ⟨hk, ct_of (by decide +kernel) rfl rfl (Nat.le_of_ble_eq_true rfl) (vb_X12_say d hd a0 x1 M) (by rw [hb]; rfl)⟩
theorem dX12_wipe_0 : decode cX12_wipe 0 = .ok (.aload_n 0, 1) := by decide +kernel
theorem dX12_wipe_1 : decode cX12_wipe 1 = .ok (.getfield 109, 3) := by decide +kernel
theorem dX12_wipe_4 : decode cX12_wipe 4 = .ok (.istore_n 1, 1) := by decide +kernel
theorem dX12_wipe_5 : decode cX12_wipe 5 = .ok (.aload_n 0, 1) := by decide +kernel
theorem dX12_wipe_6 : decode cX12_wipe 6 = .ok (.iconst 0, 1) := by decide +kernel
theorem dX12_wipe_7 : decode cX12_wipe 7 = .ok (.putfield 109, 3) := by decide +kernel
theorem dX12_wipe_10 : decode cX12_wipe 10 = .ok (.iload_n 1, 1) := by decide +kernel
theorem dX12_wipe_11 : decode cX12_wipe 11 = .ok (.ireturn, 1) := by decide +kernel
noncomputable def b_X12_wipe (a0 : Nat) (M : Me) : Option (Int32 × Me) :=
  gi M a0 12 15 fun v1 =>
  pi M a0 12 15 (0 : Int32) fun M2 =>
  some (v1, M2)
noncomputable def f_X12_wipe (a0 : Nat) (M : Me) : Option (Int32 × Me) := ck M a0 12 (b_X12_wipe a0 M)
set_option maxRecDepth 20000 in
theorem vb_X12_wipe (d : Nat) (hd : 0 ≤ d) (a0 : Nat) (M : Me) : V (mX12_wipe, d, 0, 0) (0, 0) M 0 [some (.ref a0), none] [] (b_X12_wipe a0 M) (fun z => some (some (.int z.1), z.2)) := by
  unfold b_X12_wipe
  refine v_aload_n (q := 1) dX12_wipe_0 rfl rfl rfl ?_
  refine v_getIb (q := 4) dX12_wipe_1 rfl fg_X12_109 (fun v1 => ?_)
  refine v_istore_n (q := 5) (loc2 := [some (.ref a0), some (.int v1)]) dX12_wipe_4 rfl rfl rfl (Nat.le_of_ble_eq_true rfl) rfl ?_
  refine v_aload_n (q := 6) dX12_wipe_5 rfl rfl rfl ?_
  refine v_iconst (q := 7) dX12_wipe_6 rfl ic_0 ?_
  refine v_putIb (q := 10) dX12_wipe_7 rfl fp_X12_109 (fun M2 => ?_)
  refine v_iload_n (q := 11) dX12_wipe_10 rfl rfl rfl ?_
  exact v_iret rfl dX12_wipe_11 ⟨Nat.le_of_ble_eq_true rfl, Nat.le_of_ble_eq_true rfl⟩ rfl
theorem ct_X12_wipe (d : Nat) (hd : 0 ≤ d) (a0 : Nat) (M : Me) (r : Int32) (M2 : Me) (hf : f_X12_wipe a0 M = some (r, M2)) : me_k M a0 = some (12, nf_c 12) ∧ Ct yX12_wipe mX12_wipe d 0 0 [.ref a0] M (some (.int r), M2) := by
  obtain ⟨hk, hb⟩ := ck_some hf
  exact ⟨hk, ct_of (by decide +kernel) rfl rfl (Nat.le_of_ble_eq_true rfl) (vb_X12_wipe d hd a0 M) (by rw [hb]; rfl)⟩
theorem dX12_daysOf_0 : decode cX12_daysOf 0 = .ok (.iload_n 0, 1) := by decide +kernel
theorem dX12_daysOf_1 : decode cX12_daysOf 1 = .ok (.bipush 46, 2) := by decide +kernel
theorem dX12_daysOf_3 : decode cX12_daysOf 3 = .ok (.if_icmp .ne 7, 3) := by decide +kernel
theorem dX12_daysOf_6 : decode cX12_daysOf 6 = .ok (.iconst 1, 1) := by decide +kernel
theorem dX12_daysOf_7 : decode cX12_daysOf 7 = .ok (.goto 26, 3) := by decide +kernel
theorem dX12_daysOf_10 : decode cX12_daysOf 10 = .ok (.iload_n 0, 1) := by decide +kernel
theorem dX12_daysOf_11 : decode cX12_daysOf 11 = .ok (.bipush 58, 2) := by decide +kernel
theorem dX12_daysOf_13 : decode cX12_daysOf 13 = .ok (.if_icmp .ne 8, 3) := by decide +kernel
theorem dX12_daysOf_16 : decode cX12_daysOf 16 = .ok (.bipush 10, 2) := by decide +kernel
theorem dX12_daysOf_18 : decode cX12_daysOf 18 = .ok (.goto 15, 3) := by decide +kernel
theorem dX12_daysOf_21 : decode cX12_daysOf 21 = .ok (.iload_n 0, 1) := by decide +kernel
theorem dX12_daysOf_22 : decode cX12_daysOf 22 = .ok (.bipush 59, 2) := by decide +kernel
theorem dX12_daysOf_24 : decode cX12_daysOf 24 = .ok (.if_icmp .ne 8, 3) := by decide +kernel
theorem dX12_daysOf_27 : decode cX12_daysOf 27 = .ok (.bipush 100, 2) := by decide +kernel
theorem dX12_daysOf_29 : decode cX12_daysOf 29 = .ok (.goto 4, 3) := by decide +kernel
theorem dX12_daysOf_32 : decode cX12_daysOf 32 = .ok (.iconst 0, 1) := by decide +kernel
theorem dX12_daysOf_33 : decode cX12_daysOf 33 = .ok (.ireturn, 1) := by decide +kernel
noncomputable def b_X12_daysOf (x0 : Int32) (M : Me) : Option (Int32) :=
  (
    if x0 = (46 : Int32) then (
      some (1 : Int32)
    ) else (
      if x0 = (58 : Int32) then (
        some (10 : Int32)
      ) else (
        if x0 = (59 : Int32) then (
          some (100 : Int32)
        ) else (
          some (0 : Int32)
        )
      )
    )
  ).bind fun v1 =>
  some v1
noncomputable def f_X12_daysOf (x0 : Int32) (M : Me) : Option (Int32) := b_X12_daysOf x0 M
set_option maxRecDepth 20000 in
theorem vb_X12_daysOf (d : Nat) (hd : 0 ≤ d) (x0 : Int32) (M : Me) : V (mX12_daysOf, d, 0, 0) (0, 0) M 0 [some (.int x0)] [] (b_X12_daysOf x0 M) (fun z => some (some (.int z), M)) := by
  unfold b_X12_daysOf
  refine v_iload_n (q := 1) dX12_daysOf_0 rfl rfl rfl ?_
  refine v_bipush (q := 3) dX12_daysOf_1 rfl bp_46 ?_
  refine v_join (γ := Int32) 33 (fun v1 => M) (fun v1 => [some (.int x0)]) (fun v1 => [.int v1]) (fun K hK => ?_) (fun v1 => ?_)
  · refine v_icmp_ne (tgt := 10) (q := 6) dX12_daysOf_3 rfl rfl ?_ ?_
    · refine v_iload_n (q := 11) dX12_daysOf_10 rfl rfl rfl ?_
      refine v_bipush (q := 13) dX12_daysOf_11 rfl bp_58 ?_
      refine v_icmp_ne (tgt := 21) (q := 16) dX12_daysOf_13 rfl rfl ?_ ?_
      · refine v_iload_n (q := 22) dX12_daysOf_21 rfl rfl rfl ?_
        refine v_bipush (q := 24) dX12_daysOf_22 rfl bp_59 ?_
        refine v_icmp_ne (tgt := 32) (q := 27) dX12_daysOf_24 rfl rfl ?_ ?_
        · refine v_iconst (q := 33) dX12_daysOf_32 rfl ic_0 ?_
          exact hK (0 : Int32)
        · refine v_bipush (q := 29) dX12_daysOf_27 rfl bp_100 ?_
          refine v_goto (tgt := 33) dX12_daysOf_29 rfl ?_
          exact hK (100 : Int32)
      · refine v_bipush (q := 18) dX12_daysOf_16 rfl bp_10 ?_
        refine v_goto (tgt := 33) dX12_daysOf_18 rfl ?_
        exact hK (10 : Int32)
    · refine v_iconst (q := 7) dX12_daysOf_6 rfl ic_1 ?_
      refine v_goto (tgt := 33) dX12_daysOf_7 rfl ?_
      exact hK (1 : Int32)
  · exact v_iret rfl dX12_daysOf_33 ⟨Nat.le_of_ble_eq_true rfl, Nat.le_of_ble_eq_true rfl⟩ rfl
theorem ct_X12_daysOf (d : Nat) (hd : 0 ≤ d) (x0 : Int32) (M : Me) (r : Int32) (hf : f_X12_daysOf x0 M = some r) : Ct yX12_daysOf mX12_daysOf d 0 0 [.int x0] M (some (.int r), M) := by
  have hb : b_X12_daysOf x0 M = some r := hf
  exact ct_of (by decide +kernel) rfl rfl (Nat.le_of_ble_eq_true rfl) (vb_X12_daysOf d hd x0 M) (by rw [hb]; rfl)
theorem dX12_faultOf_0 : decode cX12_faultOf 0 = .ok (.iconst 0, 1) := by decide +kernel
theorem dX12_faultOf_1 : decode cX12_faultOf 1 = .ok (.istore_n 1, 1) := by decide +kernel
theorem dX12_faultOf_2 : decode cX12_faultOf 2 = .ok (.iconst 0, 1) := by decide +kernel
theorem dX12_faultOf_3 : decode cX12_faultOf 3 = .ok (.istore_n 2, 1) := by decide +kernel
theorem dX12_faultOf_4 : decode cX12_faultOf 4 = .ok (.iload_n 2, 1) := by decide +kernel
theorem dX12_faultOf_5 : decode cX12_faultOf 5 = .ok (.aload_n 0, 1) := by decide +kernel
theorem dX12_faultOf_6 : decode cX12_faultOf 6 = .ok (.getfield 109, 3) := by decide +kernel
theorem dX12_faultOf_9 : decode cX12_faultOf 9 = .ok (.if_icmp .ge 202, 3) := by decide +kernel
theorem dX12_faultOf_12 : decode cX12_faultOf 12 = .ok (.aload_n 0, 1) := by decide +kernel
theorem dX12_faultOf_13 : decode cX12_faultOf 13 = .ok (.getfield 44, 3) := by decide +kernel
theorem dX12_faultOf_16 : decode cX12_faultOf 16 = .ok (.iload_n 2, 1) := by decide +kernel
theorem dX12_faultOf_17 : decode cX12_faultOf 17 = .ok (.iaload, 1) := by decide +kernel
theorem dX12_faultOf_18 : decode cX12_faultOf 18 = .ok (.istore_n 3, 1) := by decide +kernel
theorem dX12_faultOf_19 : decode cX12_faultOf 19 = .ok (.iload_n 3, 1) := by decide +kernel
theorem dX12_faultOf_20 : decode cX12_faultOf 20 = .ok (.bipush 65, 2) := by decide +kernel
theorem dX12_faultOf_22 : decode cX12_faultOf 22 = .ok (.bipush 70, 2) := by decide +kernel
theorem dX12_faultOf_24 : decode cX12_faultOf 24 = .ok (.invokestatic 81, 3) := by decide +kernel
theorem dX12_faultOf_27 : decode cX12_faultOf 27 = .ok (.istore 4, 2) := by decide +kernel
theorem dX12_faultOf_29 : decode cX12_faultOf 29 = .ok (.iload_n 1, 1) := by decide +kernel
theorem dX12_faultOf_30 : decode cX12_faultOf 30 = .ok (.ifCond .ne 36, 3) := by decide +kernel
theorem dX12_faultOf_33 : decode cX12_faultOf 33 = .ok (.iload 4, 2) := by decide +kernel
theorem dX12_faultOf_35 : decode cX12_faultOf 35 = .ok (.ifCond .ne 10, 3) := by decide +kernel
theorem dX12_faultOf_38 : decode cX12_faultOf 38 = .ok (.iload_n 3, 1) := by decide +kernel
theorem dX12_faultOf_39 : decode cX12_faultOf 39 = .ok (.invokestatic 112, 3) := by decide +kernel
theorem dX12_faultOf_42 : decode cX12_faultOf 42 = .ok (.ifCond .le 7, 3) := by decide +kernel
theorem dX12_faultOf_45 : decode cX12_faultOf 45 = .ok (.iconst 1, 1) := by decide +kernel
theorem dX12_faultOf_46 : decode cX12_faultOf 46 = .ok (.goto 4, 3) := by decide +kernel
theorem dX12_faultOf_49 : decode cX12_faultOf 49 = .ok (.iconst 0, 1) := by decide +kernel
theorem dX12_faultOf_50 : decode cX12_faultOf 50 = .ok (.istore 5, 2) := by decide +kernel
theorem dX12_faultOf_52 : decode cX12_faultOf 52 = .ok (.iload 4, 2) := by decide +kernel
theorem dX12_faultOf_54 : decode cX12_faultOf 54 = .ok (.ifCond .eq 7, 3) := by decide +kernel
theorem dX12_faultOf_57 : decode cX12_faultOf 57 = .ok (.iconst 1, 1) := by decide +kernel
theorem dX12_faultOf_58 : decode cX12_faultOf 58 = .ok (.goto 4, 3) := by decide +kernel
theorem dX12_faultOf_61 : decode cX12_faultOf 61 = .ok (.iconst 0, 1) := by decide +kernel
theorem dX12_faultOf_62 : decode cX12_faultOf 62 = .ok (.istore_n 1, 1) := by decide +kernel
theorem dX12_faultOf_63 : decode cX12_faultOf 63 = .ok (.goto 135, 3) := by decide +kernel
theorem dX12_faultOf_66 : decode cX12_faultOf 66 = .ok (.iload_n 1, 1) := by decide +kernel
theorem dX12_faultOf_67 : decode cX12_faultOf 67 = .ok (.iconst 1, 1) := by decide +kernel
theorem dX12_faultOf_68 : decode cX12_faultOf 68 = .ok (.if_icmp .ne 58, 3) := by decide +kernel
theorem dX12_faultOf_71 : decode cX12_faultOf 71 = .ok (.iload 4, 2) := by decide +kernel
theorem dX12_faultOf_73 : decode cX12_faultOf 73 = .ok (.ifCond .ne 32, 3) := by decide +kernel
theorem dX12_faultOf_76 : decode cX12_faultOf 76 = .ok (.aload_n 0, 1) := by decide +kernel
theorem dX12_faultOf_77 : decode cX12_faultOf 77 = .ok (.iload_n 3, 1) := by decide +kernel
theorem dX12_faultOf_78 : decode cX12_faultOf 78 = .ok (.bipush 48, 2) := by decide +kernel
theorem dX12_faultOf_80 : decode cX12_faultOf 80 = .ok (.isub, 1) := by decide +kernel
theorem dX12_faultOf_81 : decode cX12_faultOf 81 = .ok (.invokevirtual 98, 3) := by decide +kernel
theorem dX12_faultOf_84 : decode cX12_faultOf 84 = .ok (.ifCond .ne 21, 3) := by decide +kernel
theorem dX12_faultOf_87 : decode cX12_faultOf 87 = .ok (.iload_n 3, 1) := by decide +kernel
theorem dX12_faultOf_88 : decode cX12_faultOf 88 = .ok (.bipush 61, 2) := by decide +kernel
theorem dX12_faultOf_90 : decode cX12_faultOf 90 = .ok (.if_icmp .eq 15, 3) := by decide +kernel
theorem dX12_faultOf_93 : decode cX12_faultOf 93 = .ok (.iload_n 3, 1) := by decide +kernel
theorem dX12_faultOf_94 : decode cX12_faultOf 94 = .ok (.bipush 33, 2) := by decide +kernel
theorem dX12_faultOf_96 : decode cX12_faultOf 96 = .ok (.if_icmp .eq 9, 3) := by decide +kernel
theorem dX12_faultOf_99 : decode cX12_faultOf 99 = .ok (.iload_n 3, 1) := by decide +kernel
theorem dX12_faultOf_100 : decode cX12_faultOf 100 = .ok (.bipush 47, 2) := by decide +kernel
theorem dX12_faultOf_102 : decode cX12_faultOf 102 = .ok (.if_icmp .ne 7, 3) := by decide +kernel
theorem dX12_faultOf_105 : decode cX12_faultOf 105 = .ok (.iconst 1, 1) := by decide +kernel
theorem dX12_faultOf_106 : decode cX12_faultOf 106 = .ok (.goto 4, 3) := by decide +kernel
theorem dX12_faultOf_109 : decode cX12_faultOf 109 = .ok (.iconst 0, 1) := by decide +kernel
theorem dX12_faultOf_110 : decode cX12_faultOf 110 = .ok (.istore 5, 2) := by decide +kernel
theorem dX12_faultOf_112 : decode cX12_faultOf 112 = .ok (.iload 4, 2) := by decide +kernel
theorem dX12_faultOf_114 : decode cX12_faultOf 114 = .ok (.ifCond .eq 7, 3) := by decide +kernel
theorem dX12_faultOf_117 : decode cX12_faultOf 117 = .ok (.iconst 2, 1) := by decide +kernel
theorem dX12_faultOf_118 : decode cX12_faultOf 118 = .ok (.goto 4, 3) := by decide +kernel
theorem dX12_faultOf_121 : decode cX12_faultOf 121 = .ok (.iconst 0, 1) := by decide +kernel
theorem dX12_faultOf_122 : decode cX12_faultOf 122 = .ok (.istore_n 1, 1) := by decide +kernel
theorem dX12_faultOf_123 : decode cX12_faultOf 123 = .ok (.goto 75, 3) := by decide +kernel
theorem dX12_faultOf_126 : decode cX12_faultOf 126 = .ok (.iload_n 1, 1) := by decide +kernel
theorem dX12_faultOf_127 : decode cX12_faultOf 127 = .ok (.iconst 2, 1) := by decide +kernel
theorem dX12_faultOf_128 : decode cX12_faultOf 128 = .ok (.if_icmp .ne 18, 3) := by decide +kernel
theorem dX12_faultOf_131 : decode cX12_faultOf 131 = .ok (.iload_n 3, 1) := by decide +kernel
theorem dX12_faultOf_132 : decode cX12_faultOf 132 = .ok (.bipush 48, 2) := by decide +kernel
theorem dX12_faultOf_134 : decode cX12_faultOf 134 = .ok (.bipush 50, 2) := by decide +kernel
theorem dX12_faultOf_136 : decode cX12_faultOf 136 = .ok (.invokestatic 81, 3) := by decide +kernel
theorem dX12_faultOf_139 : decode cX12_faultOf 139 = .ok (.istore 5, 2) := by decide +kernel
theorem dX12_faultOf_141 : decode cX12_faultOf 141 = .ok (.iconst 3, 1) := by decide +kernel
theorem dX12_faultOf_142 : decode cX12_faultOf 142 = .ok (.istore_n 1, 1) := by decide +kernel
theorem dX12_faultOf_143 : decode cX12_faultOf 143 = .ok (.goto 55, 3) := by decide +kernel
theorem dX12_faultOf_146 : decode cX12_faultOf 146 = .ok (.bipush 10, 2) := by decide +kernel
theorem dX12_faultOf_148 : decode cX12_faultOf 148 = .ok (.aload_n 0, 1) := by decide +kernel
theorem dX12_faultOf_149 : decode cX12_faultOf 149 = .ok (.getfield 44, 3) := by decide +kernel
theorem dX12_faultOf_152 : decode cX12_faultOf 152 = .ok (.iload_n 2, 1) := by decide +kernel
theorem dX12_faultOf_153 : decode cX12_faultOf 153 = .ok (.iconst 1, 1) := by decide +kernel
theorem dX12_faultOf_154 : decode cX12_faultOf 154 = .ok (.isub, 1) := by decide +kernel
theorem dX12_faultOf_155 : decode cX12_faultOf 155 = .ok (.iaload, 1) := by decide +kernel
theorem dX12_faultOf_156 : decode cX12_faultOf 156 = .ok (.bipush 48, 2) := by decide +kernel
theorem dX12_faultOf_158 : decode cX12_faultOf 158 = .ok (.isub, 1) := by decide +kernel
theorem dX12_faultOf_159 : decode cX12_faultOf 159 = .ok (.imul, 1) := by decide +kernel
theorem dX12_faultOf_160 : decode cX12_faultOf 160 = .ok (.iload_n 3, 1) := by decide +kernel
theorem dX12_faultOf_161 : decode cX12_faultOf 161 = .ok (.iadd, 1) := by decide +kernel
theorem dX12_faultOf_162 : decode cX12_faultOf 162 = .ok (.bipush 48, 2) := by decide +kernel
theorem dX12_faultOf_164 : decode cX12_faultOf 164 = .ok (.isub, 1) := by decide +kernel
theorem dX12_faultOf_165 : decode cX12_faultOf 165 = .ok (.istore 6, 2) := by decide +kernel
theorem dX12_faultOf_167 : decode cX12_faultOf 167 = .ok (.iload_n 3, 1) := by decide +kernel
theorem dX12_faultOf_168 : decode cX12_faultOf 168 = .ok (.bipush 48, 2) := by decide +kernel
theorem dX12_faultOf_170 : decode cX12_faultOf 170 = .ok (.bipush 57, 2) := by decide +kernel
theorem dX12_faultOf_172 : decode cX12_faultOf 172 = .ok (.invokestatic 81, 3) := by decide +kernel
theorem dX12_faultOf_175 : decode cX12_faultOf 175 = .ok (.ifCond .eq 18, 3) := by decide +kernel
theorem dX12_faultOf_178 : decode cX12_faultOf 178 = .ok (.iload 6, 2) := by decide +kernel
theorem dX12_faultOf_180 : decode cX12_faultOf 180 = .ok (.iconst 1, 1) := by decide +kernel
theorem dX12_faultOf_181 : decode cX12_faultOf 181 = .ok (.bipush 20, 2) := by decide +kernel
theorem dX12_faultOf_183 : decode cX12_faultOf 183 = .ok (.invokestatic 81, 3) := by decide +kernel
theorem dX12_faultOf_186 : decode cX12_faultOf 186 = .ok (.ifCond .eq 7, 3) := by decide +kernel
theorem dX12_faultOf_189 : decode cX12_faultOf 189 = .ok (.iconst 1, 1) := by decide +kernel
theorem dX12_faultOf_190 : decode cX12_faultOf 190 = .ok (.goto 4, 3) := by decide +kernel
theorem dX12_faultOf_193 : decode cX12_faultOf 193 = .ok (.iconst 0, 1) := by decide +kernel
theorem dX12_faultOf_194 : decode cX12_faultOf 194 = .ok (.istore 5, 2) := by decide +kernel
theorem dX12_faultOf_196 : decode cX12_faultOf 196 = .ok (.iconst 0, 1) := by decide +kernel
theorem dX12_faultOf_197 : decode cX12_faultOf 197 = .ok (.istore_n 1, 1) := by decide +kernel
theorem dX12_faultOf_198 : decode cX12_faultOf 198 = .ok (.iload 5, 2) := by decide +kernel
theorem dX12_faultOf_200 : decode cX12_faultOf 200 = .ok (.ifCond .ne 5, 3) := by decide +kernel
theorem dX12_faultOf_203 : decode cX12_faultOf 203 = .ok (.iload_n 2, 1) := by decide +kernel
theorem dX12_faultOf_204 : decode cX12_faultOf 204 = .ok (.ireturn, 1) := by decide +kernel
theorem dX12_faultOf_205 : decode cX12_faultOf 205 = .ok (.iinc 2 1, 3) := by decide +kernel
theorem dX12_faultOf_208 : decode cX12_faultOf 208 = .ok (.goto (-204), 3) := by decide +kernel
theorem dX12_faultOf_211 : decode cX12_faultOf 211 = .ok (.iload_n 1, 1) := by decide +kernel
theorem dX12_faultOf_212 : decode cX12_faultOf 212 = .ok (.ifCond .ne 8, 3) := by decide +kernel
theorem dX12_faultOf_215 : decode cX12_faultOf 215 = .ok (.bipush (-6), 2) := by decide +kernel
theorem dX12_faultOf_217 : decode cX12_faultOf 217 = .ok (.goto 7, 3) := by decide +kernel
theorem dX12_faultOf_220 : decode cX12_faultOf 220 = .ok (.aload_n 0, 1) := by decide +kernel
theorem dX12_faultOf_221 : decode cX12_faultOf 221 = .ok (.getfield 109, 3) := by decide +kernel
theorem dX12_faultOf_224 : decode cX12_faultOf 224 = .ok (.ireturn, 1) := by decide +kernel
noncomputable def s_X12_faultOf_4 (a0 : Nat) (M : Me) (v1 : Int32) (v2 : Int32) : Option ((Int32 × Int32) ⊕ ((Int32 × Int32) ⊕ (Int32))) :=
  gi M a0 12 15 fun v3 =>
  if v3 ≤ v2 then (
    some (Sum.inr (Sum.inl (v1, v2)))
  ) else (
    gr M a0 12 16 fun o4 =>
    li M o4 v2 fun v5 =>
    cP (f_X12_in v5 (65 : Int32) (70 : Int32) M) fun v6 =>
    (
      if v1 = 0 then (
        (
          if v6 = 0 then (
            cP (f_X12_daysOf v5 M) fun v17 =>
            if v17 ≤ 0 then (
              some (0 : Int32)
            ) else (
              some (1 : Int32)
            )
          ) else (
            some (1 : Int32)
          )
        ).bind fun v18 =>
        (
          if v6 = 0 then (
            some (0 : Int32)
          ) else (
            some (1 : Int32)
          )
        ).bind fun v19 =>
        some (v19, v18)
      ) else (
        if v1 = (1 : Int32) then (
          (
            if v6 = 0 then (
              cP (f_X12_isChapel a0 (v5 - (48 : Int32)) M) fun v14 =>
              if v14 = 0 then (
                if v5 = (61 : Int32) then (
                  some (1 : Int32)
                ) else (
                  if v5 = (33 : Int32) then (
                    some (1 : Int32)
                  ) else (
                    if v5 = (47 : Int32) then (
                      some (1 : Int32)
                    ) else (
                      some (0 : Int32)
                    )
                  )
                )
              ) else (
                some (1 : Int32)
              )
            ) else (
              some (1 : Int32)
            )
          ).bind fun v15 =>
          (
            if v6 = 0 then (
              some (0 : Int32)
            ) else (
              some (2 : Int32)
            )
          ).bind fun v16 =>
          some (v16, v15)
        ) else (
          if v1 = (2 : Int32) then (
            cP (f_X12_in v5 (48 : Int32) (50 : Int32) M) fun v13 =>
            some ((3 : Int32), v13)
          ) else (
            gr M a0 12 16 fun o7 =>
            li M o7 (v2 - (1 : Int32)) fun v8 =>
            let_v (((((10 : Int32) * (v8 - (48 : Int32))) + v5) - (48 : Int32))) fun v9 =>
            cP (f_X12_in v5 (48 : Int32) (57 : Int32) M) fun v10 =>
            (
              if v10 = 0 then (
                some (0 : Int32)
              ) else (
                cP (f_X12_in v9 (1 : Int32) (20 : Int32) M) fun v11 =>
                if v11 = 0 then (
                  some (0 : Int32)
                ) else (
                  some (1 : Int32)
                )
              )
            ).bind fun v12 =>
            some ((0 : Int32), v12)
          )
        )
      )
    ).bind fun q20 =>
    if q20.2 = 0 then (
      some (Sum.inr (Sum.inr v2))
    ) else (
      let_v (v2 + (1 : Int32)) fun v21 =>
      some (Sum.inl (q20.1, v21))
    )
  )
noncomputable def b_X12_faultOf (a0 : Nat) (M : Me) : Option (Int32) :=
  ex_r (lp (fun s => s_X12_faultOf_4 a0 M s.1 s.2) ((0 : Int32), (0 : Int32))) (fun e22 =>
    (
      if e22.1 = 0 then (
        some (-6 : Int32)
      ) else (
        gi M a0 12 15 fun v23 =>
        some v23
      )
    ).bind fun v24 =>
    some v24
  ) (fun t => some t)
noncomputable def f_X12_faultOf (a0 : Nat) (M : Me) : Option (Int32) := ck M a0 12 (b_X12_faultOf a0 M)
set_option maxRecDepth 20000 in
theorem vb_X12_faultOf (d : Nat) (hd : 2 ≤ d) (a0 : Nat) (M : Me) : V (mX12_faultOf, d, 0, 0) (0, 0) M 0 [some (.ref a0), none, none, none, none, none, none] [] (b_X12_faultOf a0 M) (fun z => some (some (.int z), M)) := by
  unfold b_X12_faultOf
  refine v_iconst (q := 1) dX12_faultOf_0 rfl ic_0 ?_
  refine v_istore_n (q := 2) (loc2 := [some (.ref a0), some (.int (0 : Int32)), none, none, none, none, none]) dX12_faultOf_1 rfl rfl rfl (Nat.le_of_ble_eq_true rfl) rfl ?_
  refine v_iconst (q := 3) dX12_faultOf_2 rfl ic_0 ?_
  refine v_istore_n (q := 4) (loc2 := [some (.ref a0), some (.int (0 : Int32)), some (.int (0 : Int32)), none, none, none, none]) dX12_faultOf_3 rfl rfl rfl (Nat.le_of_ble_eq_true rfl) rfl ?_
  refine v_lpr (S := Int32 × Int32) 211 (fun s => M) (fun s => [some (.ref a0), some (.int s.1), some (.int s.2), none, none, none, none]) (fun e22 => M) (fun e22 => [some (.ref a0), some (.int e22.1), some (.int e22.2), none, none, none, none]) (fun e22 => ?_) (fun k K hk hx s => ?_)
  · refine v_iload_n (q := 212) dX12_faultOf_211 rfl rfl rfl ?_
    refine v_join (γ := Int32) 224 (fun v24 => M) (fun v24 => [some (.ref a0), some (.int e22.1), some (.int e22.2), none, none, none, none]) (fun v24 => [.int v24]) (fun K hK => ?_) (fun v24 => ?_)
    · refine v_if_ne (tgt := 220) (q := 215) dX12_faultOf_212 rfl rfl ?_ ?_
      · refine v_aload_n (q := 221) dX12_faultOf_220 rfl rfl rfl ?_
        refine v_getIb (q := 224) dX12_faultOf_221 rfl fg_X12_109 (fun v23 => ?_)
        exact hK v23
      · refine v_bipush (q := 217) dX12_faultOf_215 rfl bp_m6 ?_
        refine v_goto (tgt := 224) dX12_faultOf_217 rfl ?_
        exact hK (-6 : Int32)
    · exact v_iret rfl dX12_faultOf_224 ⟨Nat.le_of_ble_eq_true rfl, Nat.le_of_ble_eq_true rfl⟩ rfl
  · obtain ⟨v1, v2⟩ := s
    show V _ _ M 4 [some (.ref a0), some (.int v1), some (.int v2), none, none, none, none] [] (s_X12_faultOf_4 a0 M v1 v2) _
    unfold s_X12_faultOf_4
    refine v_iload_n (q := 5) dX12_faultOf_4 rfl rfl rfl ?_
    refine v_aload_n (q := 6) dX12_faultOf_5 rfl rfl rfl ?_
    refine v_getIb (q := 9) dX12_faultOf_6 rfl fg_X12_109 (fun v3 => ?_)
    refine v_icmp_ge (tgt := 211) (q := 12) dX12_faultOf_9 rfl rfl ?_ ?_
    · exact v_inr (v_sml (hx (v1, v2)))
    · refine v_aload_n (q := 13) dX12_faultOf_12 rfl rfl rfl ?_
      refine v_getRb (q := 16) dX12_faultOf_13 rfl fg_X12_44 (fun o4 => ?_)
      refine v_iload_n (q := 17) dX12_faultOf_16 rfl rfl rfl ?_
      refine v_iaload (q := 18) dX12_faultOf_17 rfl (fun v5 => ?_)
      refine v_istore_n (q := 19) (loc2 := [some (.ref a0), some (.int v1), some (.int v2), some (.int v5), none, none, none]) dX12_faultOf_18 rfl rfl rfl (Nat.le_of_ble_eq_true rfl) rfl ?_
      refine v_iload_n (q := 20) dX12_faultOf_19 rfl rfl rfl ?_
      refine v_bipush (q := 22) dX12_faultOf_20 rfl bp_65 ?_
      refine v_bipush (q := 24) dX12_faultOf_22 rfl bp_70 ?_
      refine v_cPS3 (q := 27) (ct_X12_in (d - 1) (by omega) _ _ _ _) dX12_faultOf_24 rfl cc_X12_81 (by omega) (Nat.le_of_ble_eq_true rfl) ⟨Nat.le_of_ble_eq_true rfl, Nat.le_of_ble_eq_true rfl⟩ (fun v6 => ?_)
      refine v_istore (q := 29) (loc2 := [some (.ref a0), some (.int v1), some (.int v2), some (.int v5), some (.int v6), none, none]) dX12_faultOf_27 rfl rfl (Nat.le_of_ble_eq_true rfl) rfl ?_
      refine v_iload_n (q := 30) dX12_faultOf_29 rfl rfl rfl ?_
      refine v_join (γ := Int32 × Int32) 198 (fun q20 => M) (fun q20 => [some (.ref a0), some (.int q20.1), some (.int v2), some (.int v5), some (.int v6), some (.int q20.2), none]) (fun q20 => []) (fun K hK => ?_) (fun q20 => ?_)
      · refine v_if_ne (tgt := 66) (q := 33) dX12_faultOf_30 rfl rfl ?_ ?_
        · refine v_iload_n (q := 67) dX12_faultOf_66 rfl rfl rfl ?_
          refine v_iconst (q := 68) dX12_faultOf_67 rfl ic_1 ?_
          refine v_icmp_ne (tgt := 126) (q := 71) dX12_faultOf_68 rfl rfl ?_ ?_
          · refine v_iload_n (q := 127) dX12_faultOf_126 rfl rfl rfl ?_
            refine v_iconst (q := 128) dX12_faultOf_127 rfl ic_2 ?_
            refine v_icmp_ne (tgt := 146) (q := 131) dX12_faultOf_128 rfl rfl ?_ ?_
            · refine v_bipush (q := 148) dX12_faultOf_146 rfl bp_10 ?_
              refine v_aload_n (q := 149) dX12_faultOf_148 rfl rfl rfl ?_
              refine v_getRb (q := 152) dX12_faultOf_149 rfl fg_X12_44 (fun o7 => ?_)
              refine v_iload_n (q := 153) dX12_faultOf_152 rfl rfl rfl ?_
              refine v_iconst (q := 154) dX12_faultOf_153 rfl ic_1 ?_
              refine v_isub (q := 155) dX12_faultOf_154 rfl ?_
              refine v_iaload (q := 156) dX12_faultOf_155 rfl (fun v8 => ?_)
              refine v_bipush (q := 158) dX12_faultOf_156 rfl bp_48 ?_
              refine v_isub (q := 159) dX12_faultOf_158 rfl ?_
              refine v_imul (q := 160) dX12_faultOf_159 rfl ?_
              refine v_iload_n (q := 161) dX12_faultOf_160 rfl rfl rfl ?_
              refine v_iadd (q := 162) dX12_faultOf_161 rfl ?_
              refine v_bipush (q := 164) dX12_faultOf_162 rfl bp_48 ?_
              refine v_isub (q := 165) dX12_faultOf_164 rfl ?_
              refine v_letI (fun v9 => ?_)
              refine v_istore (q := 167) (loc2 := [some (.ref a0), some (.int v1), some (.int v2), some (.int v5), some (.int v6), none, some (.int v9)]) dX12_faultOf_165 rfl rfl (Nat.le_of_ble_eq_true rfl) rfl ?_
              refine v_iload_n (q := 168) dX12_faultOf_167 rfl rfl rfl ?_
              refine v_bipush (q := 170) dX12_faultOf_168 rfl bp_48 ?_
              refine v_bipush (q := 172) dX12_faultOf_170 rfl bp_57 ?_
              refine v_cPS3 (q := 175) (ct_X12_in (d - 1) (by omega) _ _ _ _) dX12_faultOf_172 rfl cc_X12_81 (by omega) (Nat.le_of_ble_eq_true rfl) ⟨Nat.le_of_ble_eq_true rfl, Nat.le_of_ble_eq_true rfl⟩ (fun v10 => ?_)
              refine v_join (γ := Int32) 194 (fun v12 => M) (fun v12 => [some (.ref a0), some (.int v1), some (.int v2), some (.int v5), some (.int v6), none, some (.int v9)]) (fun v12 => [.int v12]) (fun K hK => ?_) (fun v12 => ?_)
              · refine v_if_eq (tgt := 193) (q := 178) dX12_faultOf_175 rfl rfl ?_ ?_
                · refine v_iconst (q := 194) dX12_faultOf_193 rfl ic_0 ?_
                  exact hK (0 : Int32)
                · refine v_iload (q := 180) dX12_faultOf_178 rfl rfl ?_
                  refine v_iconst (q := 181) dX12_faultOf_180 rfl ic_1 ?_
                  refine v_bipush (q := 183) dX12_faultOf_181 rfl bp_20 ?_
                  refine v_cPS3 (q := 186) (ct_X12_in (d - 1) (by omega) _ _ _ _) dX12_faultOf_183 rfl cc_X12_81 (by omega) (Nat.le_of_ble_eq_true rfl) ⟨Nat.le_of_ble_eq_true rfl, Nat.le_of_ble_eq_true rfl⟩ (fun v11 => ?_)
                  refine v_if_eq (tgt := 193) (q := 189) dX12_faultOf_186 rfl rfl ?_ ?_
                  · refine v_iconst (q := 194) dX12_faultOf_193 rfl ic_0 ?_
                    exact hK (0 : Int32)
                  · refine v_iconst (q := 190) dX12_faultOf_189 rfl ic_1 ?_
                    refine v_goto (tgt := 194) dX12_faultOf_190 rfl ?_
                    exact hK (1 : Int32)
              · refine v_istore (q := 196) (loc2 := [some (.ref a0), some (.int v1), some (.int v2), some (.int v5), some (.int v6), some (.int v12), some (.int v9)]) dX12_faultOf_194 rfl rfl (Nat.le_of_ble_eq_true rfl) rfl ?_
                refine v_iconst (q := 197) dX12_faultOf_196 rfl ic_0 ?_
                refine v_istore_n (q := 198) (loc2 := [some (.ref a0), some (.int (0 : Int32)), some (.int v2), some (.int v5), some (.int v6), some (.int v12), some (.int v9)]) dX12_faultOf_197 rfl rfl rfl (Nat.le_of_ble_eq_true rfl) rfl ?_
                exact v_weak (hK ((0 : Int32), v12)) ⟨rfl, ⟨rfl, ⟨rfl, ⟨rfl, ⟨rfl, ⟨rfl, trivial⟩⟩⟩⟩⟩⟩
            · refine v_iload_n (q := 132) dX12_faultOf_131 rfl rfl rfl ?_
              refine v_bipush (q := 134) dX12_faultOf_132 rfl bp_48 ?_
              refine v_bipush (q := 136) dX12_faultOf_134 rfl bp_50 ?_
              refine v_cPS3 (q := 139) (ct_X12_in (d - 1) (by omega) _ _ _ _) dX12_faultOf_136 rfl cc_X12_81 (by omega) (Nat.le_of_ble_eq_true rfl) ⟨Nat.le_of_ble_eq_true rfl, Nat.le_of_ble_eq_true rfl⟩ (fun v13 => ?_)
              refine v_istore (q := 141) (loc2 := [some (.ref a0), some (.int v1), some (.int v2), some (.int v5), some (.int v6), some (.int v13), none]) dX12_faultOf_139 rfl rfl (Nat.le_of_ble_eq_true rfl) rfl ?_
              refine v_iconst (q := 142) dX12_faultOf_141 rfl ic_3 ?_
              refine v_istore_n (q := 143) (loc2 := [some (.ref a0), some (.int (3 : Int32)), some (.int v2), some (.int v5), some (.int v6), some (.int v13), none]) dX12_faultOf_142 rfl rfl rfl (Nat.le_of_ble_eq_true rfl) rfl ?_
              refine v_goto (tgt := 198) dX12_faultOf_143 rfl ?_
              exact hK ((3 : Int32), v13)
          · refine v_iload (q := 73) dX12_faultOf_71 rfl rfl ?_
            refine v_join (γ := Int32) 110 (fun v15 => M) (fun v15 => [some (.ref a0), some (.int v1), some (.int v2), some (.int v5), some (.int v6), none, none]) (fun v15 => [.int v15]) (fun K hK => ?_) (fun v15 => ?_)
            · refine v_if_ne (tgt := 105) (q := 76) dX12_faultOf_73 rfl rfl ?_ ?_
              · refine v_iconst (q := 106) dX12_faultOf_105 rfl ic_1 ?_
                refine v_goto (tgt := 110) dX12_faultOf_106 rfl ?_
                exact hK (1 : Int32)
              · refine v_aload_n (q := 77) dX12_faultOf_76 rfl rfl rfl ?_
                refine v_iload_n (q := 78) dX12_faultOf_77 rfl rfl rfl ?_
                refine v_bipush (q := 80) dX12_faultOf_78 rfl bp_48 ?_
                refine v_isub (q := 81) dX12_faultOf_80 rfl ?_
                refine v_cPV1 (q := 84) (ct_X12_isChapel (d - 1) (by omega) _ _ _) dX12_faultOf_81 rfl cc_X12_98 (by omega) (Nat.le_of_ble_eq_true rfl) ⟨Nat.le_of_ble_eq_true rfl, Nat.le_of_ble_eq_true rfl⟩ (fun v14 => ?_)
                refine v_if_ne (tgt := 105) (q := 87) dX12_faultOf_84 rfl rfl ?_ ?_
                · refine v_iconst (q := 106) dX12_faultOf_105 rfl ic_1 ?_
                  refine v_goto (tgt := 110) dX12_faultOf_106 rfl ?_
                  exact hK (1 : Int32)
                · refine v_iload_n (q := 88) dX12_faultOf_87 rfl rfl rfl ?_
                  refine v_bipush (q := 90) dX12_faultOf_88 rfl bp_61 ?_
                  refine v_icmp_eq (tgt := 105) (q := 93) dX12_faultOf_90 rfl rfl ?_ ?_
                  · refine v_iconst (q := 106) dX12_faultOf_105 rfl ic_1 ?_
                    refine v_goto (tgt := 110) dX12_faultOf_106 rfl ?_
                    exact hK (1 : Int32)
                  · refine v_iload_n (q := 94) dX12_faultOf_93 rfl rfl rfl ?_
                    refine v_bipush (q := 96) dX12_faultOf_94 rfl bp_33 ?_
                    refine v_icmp_eq (tgt := 105) (q := 99) dX12_faultOf_96 rfl rfl ?_ ?_
                    · refine v_iconst (q := 106) dX12_faultOf_105 rfl ic_1 ?_
                      refine v_goto (tgt := 110) dX12_faultOf_106 rfl ?_
                      exact hK (1 : Int32)
                    · refine v_iload_n (q := 100) dX12_faultOf_99 rfl rfl rfl ?_
                      refine v_bipush (q := 102) dX12_faultOf_100 rfl bp_47 ?_
                      refine v_icmp_ne (tgt := 109) (q := 105) dX12_faultOf_102 rfl rfl ?_ ?_
                      · refine v_iconst (q := 110) dX12_faultOf_109 rfl ic_0 ?_
                        exact hK (0 : Int32)
                      · refine v_iconst (q := 106) dX12_faultOf_105 rfl ic_1 ?_
                        refine v_goto (tgt := 110) dX12_faultOf_106 rfl ?_
                        exact hK (1 : Int32)
            · refine v_istore (q := 112) (loc2 := [some (.ref a0), some (.int v1), some (.int v2), some (.int v5), some (.int v6), some (.int v15), none]) dX12_faultOf_110 rfl rfl (Nat.le_of_ble_eq_true rfl) rfl ?_
              refine v_iload (q := 114) dX12_faultOf_112 rfl rfl ?_
              refine v_join (γ := Int32) 122 (fun v16 => M) (fun v16 => [some (.ref a0), some (.int v1), some (.int v2), some (.int v5), some (.int v6), some (.int v15), none]) (fun v16 => [.int v16]) (fun K hK => ?_) (fun v16 => ?_)
              · refine v_if_eq (tgt := 121) (q := 117) dX12_faultOf_114 rfl rfl ?_ ?_
                · refine v_iconst (q := 122) dX12_faultOf_121 rfl ic_0 ?_
                  exact hK (0 : Int32)
                · refine v_iconst (q := 118) dX12_faultOf_117 rfl ic_2 ?_
                  refine v_goto (tgt := 122) dX12_faultOf_118 rfl ?_
                  exact hK (2 : Int32)
              · refine v_istore_n (q := 123) (loc2 := [some (.ref a0), some (.int v16), some (.int v2), some (.int v5), some (.int v6), some (.int v15), none]) dX12_faultOf_122 rfl rfl rfl (Nat.le_of_ble_eq_true rfl) rfl ?_
                refine v_goto (tgt := 198) dX12_faultOf_123 rfl ?_
                exact hK (v16, v15)
        · refine v_iload (q := 35) dX12_faultOf_33 rfl rfl ?_
          refine v_join (γ := Int32) 50 (fun v18 => M) (fun v18 => [some (.ref a0), some (.int v1), some (.int v2), some (.int v5), some (.int v6), none, none]) (fun v18 => [.int v18]) (fun K hK => ?_) (fun v18 => ?_)
          · refine v_if_ne (tgt := 45) (q := 38) dX12_faultOf_35 rfl rfl ?_ ?_
            · refine v_iconst (q := 46) dX12_faultOf_45 rfl ic_1 ?_
              refine v_goto (tgt := 50) dX12_faultOf_46 rfl ?_
              exact hK (1 : Int32)
            · refine v_iload_n (q := 39) dX12_faultOf_38 rfl rfl rfl ?_
              refine v_cPS1 (q := 42) (ct_X12_daysOf (d - 1) (by omega) _ _) dX12_faultOf_39 rfl cc_X12_112 (by omega) (Nat.le_of_ble_eq_true rfl) ⟨Nat.le_of_ble_eq_true rfl, Nat.le_of_ble_eq_true rfl⟩ (fun v17 => ?_)
              refine v_if_le (tgt := 49) (q := 45) dX12_faultOf_42 rfl rfl ?_ ?_
              · refine v_iconst (q := 50) dX12_faultOf_49 rfl ic_0 ?_
                exact hK (0 : Int32)
              · refine v_iconst (q := 46) dX12_faultOf_45 rfl ic_1 ?_
                refine v_goto (tgt := 50) dX12_faultOf_46 rfl ?_
                exact hK (1 : Int32)
          · refine v_istore (q := 52) (loc2 := [some (.ref a0), some (.int v1), some (.int v2), some (.int v5), some (.int v6), some (.int v18), none]) dX12_faultOf_50 rfl rfl (Nat.le_of_ble_eq_true rfl) rfl ?_
            refine v_iload (q := 54) dX12_faultOf_52 rfl rfl ?_
            refine v_join (γ := Int32) 62 (fun v19 => M) (fun v19 => [some (.ref a0), some (.int v1), some (.int v2), some (.int v5), some (.int v6), some (.int v18), none]) (fun v19 => [.int v19]) (fun K hK => ?_) (fun v19 => ?_)
            · refine v_if_eq (tgt := 61) (q := 57) dX12_faultOf_54 rfl rfl ?_ ?_
              · refine v_iconst (q := 62) dX12_faultOf_61 rfl ic_0 ?_
                exact hK (0 : Int32)
              · refine v_iconst (q := 58) dX12_faultOf_57 rfl ic_1 ?_
                refine v_goto (tgt := 62) dX12_faultOf_58 rfl ?_
                exact hK (1 : Int32)
            · refine v_istore_n (q := 63) (loc2 := [some (.ref a0), some (.int v19), some (.int v2), some (.int v5), some (.int v6), some (.int v18), none]) dX12_faultOf_62 rfl rfl rfl (Nat.le_of_ble_eq_true rfl) rfl ?_
              refine v_goto (tgt := 198) dX12_faultOf_63 rfl ?_
              exact hK (v19, v18)
      · refine v_iload (q := 200) dX12_faultOf_198 rfl rfl ?_
        refine v_if_ne (tgt := 205) (q := 203) dX12_faultOf_200 rfl rfl ?_ ?_
        · refine v_iincL (q := 208) (x := v2) (cst := (1 : Int32)) (f := fun v21 => [some (.ref a0), some (.int q20.1), some (.int v21), some (.int v5), some (.int v6), some (.int q20.2), none]) dX12_faultOf_205 rfl rfl ic_1 rfl (Nat.le_of_ble_eq_true rfl) (fun _ => rfl) (fun v21 => ?_)
          refine v_goto (tgt := 4) dX12_faultOf_208 rfl ?_
          exact v_inl (v_weak (hk (q20.1, v21)) ⟨rfl, ⟨rfl, ⟨rfl, trivial⟩⟩⟩)
        · refine v_iload_n (q := 204) dX12_faultOf_203 rfl rfl rfl ?_
          exact v_iret rfl dX12_faultOf_204 ⟨Nat.le_of_ble_eq_true rfl, Nat.le_of_ble_eq_true rfl⟩ rfl
theorem ct_X12_faultOf (d : Nat) (hd : 2 ≤ d) (a0 : Nat) (M : Me) (r : Int32) (hf : f_X12_faultOf a0 M = some r) : me_k M a0 = some (12, nf_c 12) ∧ Ct yX12_faultOf mX12_faultOf d 0 0 [.ref a0] M (some (.int r), M) := by
  obtain ⟨hk, hb⟩ := ck_some hf
  exact ⟨hk, ct_of (by decide +kernel) rfl rfl (Nat.le_of_ble_eq_true rfl) (vb_X12_faultOf d hd a0 M) (by rw [hb]; rfl)⟩
theorem dX12_fault_0 : decode cX12_fault 0 = .ok (.aload_n 0, 1) := by decide +kernel
theorem dX12_fault_1 : decode cX12_fault 1 = .ok (.invokevirtual 115, 3) := by decide +kernel
theorem dX12_fault_4 : decode cX12_fault 4 = .ok (.ireturn, 1) := by decide +kernel
noncomputable def b_X12_fault (a0 : Nat) (M : Me) : Option (Int32) :=
  cP (f_X12_faultOf a0 M) fun v1 =>
  some v1
noncomputable def f_X12_fault (a0 : Nat) (M : Me) : Option (Int32) := ck M a0 12 (b_X12_fault a0 M)
set_option maxRecDepth 20000 in
theorem vb_X12_fault (d : Nat) (hd : 3 ≤ d) (a0 : Nat) (M : Me) : V (mX12_fault, d, 0, 0) (0, 0) M 0 [some (.ref a0)] [] (b_X12_fault a0 M) (fun z => some (some (.int z), M)) := by
  unfold b_X12_fault
  refine v_aload_n (q := 1) dX12_fault_0 rfl rfl rfl ?_
  refine v_cPV0 (q := 4) (ct_X12_faultOf (d - 1) (by omega) _ _) dX12_fault_1 rfl cc_X12_115 (by omega) (Nat.le_of_ble_eq_true rfl) ⟨Nat.le_of_ble_eq_true rfl, Nat.le_of_ble_eq_true rfl⟩ (fun v1 => ?_)
  exact v_iret rfl dX12_fault_4 ⟨Nat.le_of_ble_eq_true rfl, Nat.le_of_ble_eq_true rfl⟩ rfl
theorem ct_X12_fault (d : Nat) (hd : 3 ≤ d) (a0 : Nat) (M : Me) (r : Int32) (hf : f_X12_fault a0 M = some r) : me_k M a0 = some (12, nf_c 12) ∧ Ct yX12_fault mX12_fault d 0 0 [.ref a0] M (some (.int r), M) := by
  obtain ⟨hk, hb⟩ := ck_some hf
  exact ⟨hk, ct_of (by decide +kernel) rfl rfl (Nat.le_of_ble_eq_true rfl) (vb_X12_fault d hd a0 M) (by rw [hb]; rfl)⟩
theorem dX12_asNow_0 : decode cX12_asNow 0 = .ok (.aload_n 0, 1) := by decide +kernel
theorem dX12_asNow_1 : decode cX12_asNow 1 = .ok (.aload_n 0, 1) := by decide +kernel
theorem dX12_asNow_2 : decode cX12_asNow 2 = .ok (.getfield 92, 3) := by decide +kernel
theorem dX12_asNow_5 : decode cX12_asNow 5 = .ok (.putfield 119, 3) := by decide +kernel
theorem dX12_asNow_8 : decode cX12_asNow 8 = .ok (.iconst 0, 1) := by decide +kernel
theorem dX12_asNow_9 : decode cX12_asNow 9 = .ok (.istore_n 1, 1) := by decide +kernel
theorem dX12_asNow_10 : decode cX12_asNow 10 = .ok (.iload_n 1, 1) := by decide +kernel
theorem dX12_asNow_11 : decode cX12_asNow 11 = .ok (.bipush 6, 2) := by decide +kernel
theorem dX12_asNow_13 : decode cX12_asNow 13 = .ok (.if_icmp .ge 57, 3) := by decide +kernel
theorem dX12_asNow_16 : decode cX12_asNow 16 = .ok (.aload_n 0, 1) := by decide +kernel
theorem dX12_asNow_17 : decode cX12_asNow 17 = .ok (.getfield 47, 3) := by decide +kernel
theorem dX12_asNow_20 : decode cX12_asNow 20 = .ok (.iload_n 1, 1) := by decide +kernel
theorem dX12_asNow_21 : decode cX12_asNow 21 = .ok (.aload_n 0, 1) := by decide +kernel
theorem dX12_asNow_22 : decode cX12_asNow 22 = .ok (.getfield 29, 3) := by decide +kernel
theorem dX12_asNow_25 : decode cX12_asNow 25 = .ok (.iload_n 1, 1) := by decide +kernel
theorem dX12_asNow_26 : decode cX12_asNow 26 = .ok (.iaload, 1) := by decide +kernel
theorem dX12_asNow_27 : decode cX12_asNow 27 = .ok (.iastore, 1) := by decide +kernel
theorem dX12_asNow_28 : decode cX12_asNow 28 = .ok (.aload_n 0, 1) := by decide +kernel
theorem dX12_asNow_29 : decode cX12_asNow 29 = .ok (.getfield 50, 3) := by decide +kernel
theorem dX12_asNow_32 : decode cX12_asNow 32 = .ok (.iload_n 1, 1) := by decide +kernel
theorem dX12_asNow_33 : decode cX12_asNow 33 = .ok (.aload_n 0, 1) := by decide +kernel
theorem dX12_asNow_34 : decode cX12_asNow 34 = .ok (.getfield 32, 3) := by decide +kernel
theorem dX12_asNow_37 : decode cX12_asNow 37 = .ok (.iload_n 1, 1) := by decide +kernel
theorem dX12_asNow_38 : decode cX12_asNow 38 = .ok (.iaload, 1) := by decide +kernel
theorem dX12_asNow_39 : decode cX12_asNow 39 = .ok (.iastore, 1) := by decide +kernel
theorem dX12_asNow_40 : decode cX12_asNow 40 = .ok (.aload_n 0, 1) := by decide +kernel
theorem dX12_asNow_41 : decode cX12_asNow 41 = .ok (.getfield 53, 3) := by decide +kernel
theorem dX12_asNow_44 : decode cX12_asNow 44 = .ok (.iload_n 1, 1) := by decide +kernel
theorem dX12_asNow_45 : decode cX12_asNow 45 = .ok (.aload_n 0, 1) := by decide +kernel
theorem dX12_asNow_46 : decode cX12_asNow 46 = .ok (.getfield 35, 3) := by decide +kernel
theorem dX12_asNow_49 : decode cX12_asNow 49 = .ok (.iload_n 1, 1) := by decide +kernel
theorem dX12_asNow_50 : decode cX12_asNow 50 = .ok (.iaload, 1) := by decide +kernel
theorem dX12_asNow_51 : decode cX12_asNow 51 = .ok (.iastore, 1) := by decide +kernel
theorem dX12_asNow_52 : decode cX12_asNow 52 = .ok (.aload_n 0, 1) := by decide +kernel
theorem dX12_asNow_53 : decode cX12_asNow 53 = .ok (.getfield 56, 3) := by decide +kernel
theorem dX12_asNow_56 : decode cX12_asNow 56 = .ok (.iload_n 1, 1) := by decide +kernel
theorem dX12_asNow_57 : decode cX12_asNow 57 = .ok (.aload_n 0, 1) := by decide +kernel
theorem dX12_asNow_58 : decode cX12_asNow 58 = .ok (.getfield 38, 3) := by decide +kernel
theorem dX12_asNow_61 : decode cX12_asNow 61 = .ok (.iload_n 1, 1) := by decide +kernel
theorem dX12_asNow_62 : decode cX12_asNow 62 = .ok (.iaload, 1) := by decide +kernel
theorem dX12_asNow_63 : decode cX12_asNow 63 = .ok (.iastore, 1) := by decide +kernel
theorem dX12_asNow_64 : decode cX12_asNow 64 = .ok (.iinc 1 1, 3) := by decide +kernel
theorem dX12_asNow_67 : decode cX12_asNow 67 = .ok (.goto (-57), 3) := by decide +kernel
theorem dX12_asNow_70 : decode cX12_asNow 70 = .ok (.aload_n 0, 1) := by decide +kernel
theorem dX12_asNow_71 : decode cX12_asNow 71 = .ok (.aload_n 0, 1) := by decide +kernel
theorem dX12_asNow_72 : decode cX12_asNow 72 = .ok (.getfield 95, 3) := by decide +kernel
theorem dX12_asNow_75 : decode cX12_asNow 75 = .ok (.putfield 122, 3) := by decide +kernel
theorem dX12_asNow_78 : decode cX12_asNow 78 = .ok (.iconst 0, 1) := by decide +kernel
theorem dX12_asNow_79 : decode cX12_asNow 79 = .ok (.istore_n 1, 1) := by decide +kernel
theorem dX12_asNow_80 : decode cX12_asNow 80 = .ok (.iload_n 1, 1) := by decide +kernel
theorem dX12_asNow_81 : decode cX12_asNow 81 = .ok (.bipush 48, 2) := by decide +kernel
theorem dX12_asNow_83 : decode cX12_asNow 83 = .ok (.if_icmp .ge 21, 3) := by decide +kernel
theorem dX12_asNow_86 : decode cX12_asNow 86 = .ok (.aload_n 0, 1) := by decide +kernel
theorem dX12_asNow_87 : decode cX12_asNow 87 = .ok (.getfield 59, 3) := by decide +kernel
theorem dX12_asNow_90 : decode cX12_asNow 90 = .ok (.iload_n 1, 1) := by decide +kernel
theorem dX12_asNow_91 : decode cX12_asNow 91 = .ok (.aload_n 0, 1) := by decide +kernel
theorem dX12_asNow_92 : decode cX12_asNow 92 = .ok (.getfield 41, 3) := by decide +kernel
theorem dX12_asNow_95 : decode cX12_asNow 95 = .ok (.iload_n 1, 1) := by decide +kernel
theorem dX12_asNow_96 : decode cX12_asNow 96 = .ok (.iaload, 1) := by decide +kernel
theorem dX12_asNow_97 : decode cX12_asNow 97 = .ok (.iastore, 1) := by decide +kernel
theorem dX12_asNow_98 : decode cX12_asNow 98 = .ok (.iinc 1 1, 3) := by decide +kernel
theorem dX12_asNow_101 : decode cX12_asNow 101 = .ok (.goto (-21), 3) := by decide +kernel
theorem dX12_asNow_104 : decode cX12_asNow 104 = .ok (.return_, 1) := by decide +kernel
noncomputable def s_X12_asNow_10 (a0 : Nat) (M3 : Me) (v4 : Int32) : Option ((Me × Int32) ⊕ (Me × Int32)) :=
  if (6 : Int32) ≤ v4 then (
    some (Sum.inr (M3, v4))
  ) else (
    gr M3 a0 12 18 fun o5 =>
    gr M3 a0 12 9 fun o6 =>
    li M3 o6 v4 fun v7 =>
    si M3 o5 v4 v7 fun M8 =>
    gr M8 a0 12 19 fun o9 =>
    gr M8 a0 12 10 fun o10 =>
    li M8 o10 v4 fun v11 =>
    si M8 o9 v4 v11 fun M12 =>
    gr M12 a0 12 20 fun o13 =>
    gr M12 a0 12 11 fun o14 =>
    li M12 o14 v4 fun v15 =>
    si M12 o13 v4 v15 fun M16 =>
    gr M16 a0 12 21 fun o17 =>
    gr M16 a0 12 12 fun o18 =>
    li M16 o18 v4 fun v19 =>
    si M16 o17 v4 v19 fun M20 =>
    let_v (v4 + (1 : Int32)) fun v21 =>
    some (Sum.inl (M20, v21))
  )
noncomputable def s_X12_asNow_80 (a0 : Nat) (M25 : Me) (v26 : Int32) : Option ((Me × Int32) ⊕ (Me × Int32)) :=
  if (48 : Int32) ≤ v26 then (
    some (Sum.inr (M25, v26))
  ) else (
    gr M25 a0 12 23 fun o27 =>
    gr M25 a0 12 14 fun o28 =>
    li M25 o28 v26 fun v29 =>
    si M25 o27 v26 v29 fun M30 =>
    let_v (v26 + (1 : Int32)) fun v31 =>
    some (Sum.inl (M30, v31))
  )
noncomputable def b_X12_asNow (a0 : Nat) (M : Me) : Option (Me) :=
  gi M a0 12 8 fun v1 =>
  pi M a0 12 17 v1 fun M2 =>
  (lp (fun s => s_X12_asNow_10 a0 s.1 s.2) (M2, (0 : Int32))).bind fun e22 =>
  gi e22.1 a0 12 13 fun v23 =>
  pi e22.1 a0 12 22 v23 fun M24 =>
  (lp (fun s => s_X12_asNow_80 a0 s.1 s.2) (M24, (0 : Int32))).bind fun e32 =>
  some e32.1
noncomputable def f_X12_asNow (a0 : Nat) (M : Me) : Option (Me) := ck M a0 12 (b_X12_asNow a0 M)
set_option maxRecDepth 20000 in
theorem vb_X12_asNow (d : Nat) (hd : 0 ≤ d) (a0 : Nat) (M : Me) : V (mX12_asNow, d, 0, 0) (0, 0) M 0 [some (.ref a0), none] [] (b_X12_asNow a0 M) (fun M2 => some (none, M2)) := by
  unfold b_X12_asNow
  refine v_aload_n (q := 1) dX12_asNow_0 rfl rfl rfl ?_
  refine v_aload_n (q := 2) dX12_asNow_1 rfl rfl rfl ?_
  refine v_getIb (q := 5) dX12_asNow_2 rfl fg_X12_92 (fun v1 => ?_)
  refine v_putIb (q := 8) dX12_asNow_5 rfl fp_X12_119 (fun M2 => ?_)
  refine v_iconst (q := 9) dX12_asNow_8 rfl ic_0 ?_
  refine v_istore_n (q := 10) (loc2 := [some (.ref a0), some (.int (0 : Int32))]) dX12_asNow_9 rfl rfl rfl (Nat.le_of_ble_eq_true rfl) rfl ?_
  refine v_lps (S := Me × Int32) 70 (fun s => s.1) (fun s => [some (.ref a0), some (.int s.2)]) (fun e22 => e22.1) (fun e22 => [some (.ref a0), some (.int e22.2)]) (fun e22 => ?_) (fun k K hk hx s => ?_)
  · refine v_aload_n (q := 71) dX12_asNow_70 rfl rfl rfl ?_
    refine v_aload_n (q := 72) dX12_asNow_71 rfl rfl rfl ?_
    refine v_getIb (q := 75) dX12_asNow_72 rfl fg_X12_95 (fun v23 => ?_)
    refine v_putIb (q := 78) dX12_asNow_75 rfl fp_X12_122 (fun M24 => ?_)
    refine v_iconst (q := 79) dX12_asNow_78 rfl ic_0 ?_
    refine v_istore_n (q := 80) (loc2 := [some (.ref a0), some (.int (0 : Int32))]) dX12_asNow_79 rfl rfl rfl (Nat.le_of_ble_eq_true rfl) rfl ?_
    refine v_lps (S := Me × Int32) 104 (fun s => s.1) (fun s => [some (.ref a0), some (.int s.2)]) (fun e32 => e32.1) (fun e32 => [some (.ref a0), some (.int e32.2)]) (fun e32 => ?_) (fun k K hk hx s => ?_)
    · exact v_vret rfl dX12_asNow_104 ⟨Nat.le_of_ble_eq_true rfl, Nat.le_of_ble_eq_true rfl⟩ rfl
    · obtain ⟨M25, v26⟩ := s
      show V _ _ M25 80 [some (.ref a0), some (.int v26)] [] (s_X12_asNow_80 a0 M25 v26) _
      unfold s_X12_asNow_80
      refine v_iload_n (q := 81) dX12_asNow_80 rfl rfl rfl ?_
      refine v_bipush (q := 83) dX12_asNow_81 rfl bp_48 ?_
      refine v_icmp_ge (tgt := 104) (q := 86) dX12_asNow_83 rfl rfl ?_ ?_
      · exact v_inr (hx (M25, v26))
      · refine v_aload_n (q := 87) dX12_asNow_86 rfl rfl rfl ?_
        refine v_getRb (q := 90) dX12_asNow_87 rfl fg_X12_59 (fun o27 => ?_)
        refine v_iload_n (q := 91) dX12_asNow_90 rfl rfl rfl ?_
        refine v_aload_n (q := 92) dX12_asNow_91 rfl rfl rfl ?_
        refine v_getRb (q := 95) dX12_asNow_92 rfl fg_X12_41 (fun o28 => ?_)
        refine v_iload_n (q := 96) dX12_asNow_95 rfl rfl rfl ?_
        refine v_iaload (q := 97) dX12_asNow_96 rfl (fun v29 => ?_)
        refine v_iastore (q := 98) dX12_asNow_97 rfl (fun M30 => ?_)
        refine v_iincL (q := 101) (x := v26) (cst := (1 : Int32)) (f := fun v31 => [some (.ref a0), some (.int v31)]) dX12_asNow_98 rfl rfl ic_1 rfl (Nat.le_of_ble_eq_true rfl) (fun _ => rfl) (fun v31 => ?_)
        refine v_goto (tgt := 80) dX12_asNow_101 rfl ?_
        exact v_inl (hk (M30, v31))
  · obtain ⟨M3, v4⟩ := s
    show V _ _ M3 10 [some (.ref a0), some (.int v4)] [] (s_X12_asNow_10 a0 M3 v4) _
    unfold s_X12_asNow_10
    refine v_iload_n (q := 11) dX12_asNow_10 rfl rfl rfl ?_
    refine v_bipush (q := 13) dX12_asNow_11 rfl bp_6 ?_
    refine v_icmp_ge (tgt := 70) (q := 16) dX12_asNow_13 rfl rfl ?_ ?_
    · exact v_inr (hx (M3, v4))
    · refine v_aload_n (q := 17) dX12_asNow_16 rfl rfl rfl ?_
      refine v_getRb (q := 20) dX12_asNow_17 rfl fg_X12_47 (fun o5 => ?_)
      refine v_iload_n (q := 21) dX12_asNow_20 rfl rfl rfl ?_
      refine v_aload_n (q := 22) dX12_asNow_21 rfl rfl rfl ?_
      refine v_getRb (q := 25) dX12_asNow_22 rfl fg_X12_29 (fun o6 => ?_)
      refine v_iload_n (q := 26) dX12_asNow_25 rfl rfl rfl ?_
      refine v_iaload (q := 27) dX12_asNow_26 rfl (fun v7 => ?_)
      refine v_iastore (q := 28) dX12_asNow_27 rfl (fun M8 => ?_)
      refine v_aload_n (q := 29) dX12_asNow_28 rfl rfl rfl ?_
      refine v_getRb (q := 32) dX12_asNow_29 rfl fg_X12_50 (fun o9 => ?_)
      refine v_iload_n (q := 33) dX12_asNow_32 rfl rfl rfl ?_
      refine v_aload_n (q := 34) dX12_asNow_33 rfl rfl rfl ?_
      refine v_getRb (q := 37) dX12_asNow_34 rfl fg_X12_32 (fun o10 => ?_)
      refine v_iload_n (q := 38) dX12_asNow_37 rfl rfl rfl ?_
      refine v_iaload (q := 39) dX12_asNow_38 rfl (fun v11 => ?_)
      refine v_iastore (q := 40) dX12_asNow_39 rfl (fun M12 => ?_)
      refine v_aload_n (q := 41) dX12_asNow_40 rfl rfl rfl ?_
      refine v_getRb (q := 44) dX12_asNow_41 rfl fg_X12_53 (fun o13 => ?_)
      refine v_iload_n (q := 45) dX12_asNow_44 rfl rfl rfl ?_
      refine v_aload_n (q := 46) dX12_asNow_45 rfl rfl rfl ?_
      refine v_getRb (q := 49) dX12_asNow_46 rfl fg_X12_35 (fun o14 => ?_)
      refine v_iload_n (q := 50) dX12_asNow_49 rfl rfl rfl ?_
      refine v_iaload (q := 51) dX12_asNow_50 rfl (fun v15 => ?_)
      refine v_iastore (q := 52) dX12_asNow_51 rfl (fun M16 => ?_)
      refine v_aload_n (q := 53) dX12_asNow_52 rfl rfl rfl ?_
      refine v_getRb (q := 56) dX12_asNow_53 rfl fg_X12_56 (fun o17 => ?_)
      refine v_iload_n (q := 57) dX12_asNow_56 rfl rfl rfl ?_
      refine v_aload_n (q := 58) dX12_asNow_57 rfl rfl rfl ?_
      refine v_getRb (q := 61) dX12_asNow_58 rfl fg_X12_38 (fun o18 => ?_)
      refine v_iload_n (q := 62) dX12_asNow_61 rfl rfl rfl ?_
      refine v_iaload (q := 63) dX12_asNow_62 rfl (fun v19 => ?_)
      refine v_iastore (q := 64) dX12_asNow_63 rfl (fun M20 => ?_)
      refine v_iincL (q := 67) (x := v4) (cst := (1 : Int32)) (f := fun v21 => [some (.ref a0), some (.int v21)]) dX12_asNow_64 rfl rfl ic_1 rfl (Nat.le_of_ble_eq_true rfl) (fun _ => rfl) (fun v21 => ?_)
      refine v_goto (tgt := 10) dX12_asNow_67 rfl ?_
      exact v_inl (hk (M20, v21))
theorem ct_X12_asNow (d : Nat) (hd : 0 ≤ d) (a0 : Nat) (M : Me) (r : Me) (hf : f_X12_asNow a0 M = some r) : me_k M a0 = some (12, nf_c 12) ∧ Ct yX12_asNow mX12_asNow d 0 0 [.ref a0] M (none, r) := by
  obtain ⟨hk, hb⟩ := ck_some hf
  exact ⟨hk, ct_of (by decide +kernel) rfl rfl (Nat.le_of_ble_eq_true rfl) (vb_X12_asNow d hd a0 M) (by rw [hb]; rfl)⟩
theorem dX12_keep_0 : decode cX12_keep 0 = .ok (.aload_n 0, 1) := by decide +kernel
theorem dX12_keep_1 : decode cX12_keep 1 = .ok (.aload_n 0, 1) := by decide +kernel
theorem dX12_keep_2 : decode cX12_keep 2 = .ok (.getfield 119, 3) := by decide +kernel
theorem dX12_keep_5 : decode cX12_keep 5 = .ok (.putfield 92, 3) := by decide +kernel
theorem dX12_keep_8 : decode cX12_keep 8 = .ok (.iconst 0, 1) := by decide +kernel
theorem dX12_keep_9 : decode cX12_keep 9 = .ok (.istore_n 1, 1) := by decide +kernel
theorem dX12_keep_10 : decode cX12_keep 10 = .ok (.iload_n 1, 1) := by decide +kernel
theorem dX12_keep_11 : decode cX12_keep 11 = .ok (.bipush 6, 2) := by decide +kernel
theorem dX12_keep_13 : decode cX12_keep 13 = .ok (.if_icmp .ge 57, 3) := by decide +kernel
theorem dX12_keep_16 : decode cX12_keep 16 = .ok (.aload_n 0, 1) := by decide +kernel
theorem dX12_keep_17 : decode cX12_keep 17 = .ok (.getfield 29, 3) := by decide +kernel
theorem dX12_keep_20 : decode cX12_keep 20 = .ok (.iload_n 1, 1) := by decide +kernel
theorem dX12_keep_21 : decode cX12_keep 21 = .ok (.aload_n 0, 1) := by decide +kernel
theorem dX12_keep_22 : decode cX12_keep 22 = .ok (.getfield 47, 3) := by decide +kernel
theorem dX12_keep_25 : decode cX12_keep 25 = .ok (.iload_n 1, 1) := by decide +kernel
theorem dX12_keep_26 : decode cX12_keep 26 = .ok (.iaload, 1) := by decide +kernel
theorem dX12_keep_27 : decode cX12_keep 27 = .ok (.iastore, 1) := by decide +kernel
theorem dX12_keep_28 : decode cX12_keep 28 = .ok (.aload_n 0, 1) := by decide +kernel
theorem dX12_keep_29 : decode cX12_keep 29 = .ok (.getfield 32, 3) := by decide +kernel
theorem dX12_keep_32 : decode cX12_keep 32 = .ok (.iload_n 1, 1) := by decide +kernel
theorem dX12_keep_33 : decode cX12_keep 33 = .ok (.aload_n 0, 1) := by decide +kernel
theorem dX12_keep_34 : decode cX12_keep 34 = .ok (.getfield 50, 3) := by decide +kernel
theorem dX12_keep_37 : decode cX12_keep 37 = .ok (.iload_n 1, 1) := by decide +kernel
theorem dX12_keep_38 : decode cX12_keep 38 = .ok (.iaload, 1) := by decide +kernel
theorem dX12_keep_39 : decode cX12_keep 39 = .ok (.iastore, 1) := by decide +kernel
theorem dX12_keep_40 : decode cX12_keep 40 = .ok (.aload_n 0, 1) := by decide +kernel
theorem dX12_keep_41 : decode cX12_keep 41 = .ok (.getfield 35, 3) := by decide +kernel
theorem dX12_keep_44 : decode cX12_keep 44 = .ok (.iload_n 1, 1) := by decide +kernel
theorem dX12_keep_45 : decode cX12_keep 45 = .ok (.aload_n 0, 1) := by decide +kernel
theorem dX12_keep_46 : decode cX12_keep 46 = .ok (.getfield 53, 3) := by decide +kernel
theorem dX12_keep_49 : decode cX12_keep 49 = .ok (.iload_n 1, 1) := by decide +kernel
theorem dX12_keep_50 : decode cX12_keep 50 = .ok (.iaload, 1) := by decide +kernel
theorem dX12_keep_51 : decode cX12_keep 51 = .ok (.iastore, 1) := by decide +kernel
theorem dX12_keep_52 : decode cX12_keep 52 = .ok (.aload_n 0, 1) := by decide +kernel
theorem dX12_keep_53 : decode cX12_keep 53 = .ok (.getfield 38, 3) := by decide +kernel
theorem dX12_keep_56 : decode cX12_keep 56 = .ok (.iload_n 1, 1) := by decide +kernel
theorem dX12_keep_57 : decode cX12_keep 57 = .ok (.aload_n 0, 1) := by decide +kernel
theorem dX12_keep_58 : decode cX12_keep 58 = .ok (.getfield 56, 3) := by decide +kernel
theorem dX12_keep_61 : decode cX12_keep 61 = .ok (.iload_n 1, 1) := by decide +kernel
theorem dX12_keep_62 : decode cX12_keep 62 = .ok (.iaload, 1) := by decide +kernel
theorem dX12_keep_63 : decode cX12_keep 63 = .ok (.iastore, 1) := by decide +kernel
theorem dX12_keep_64 : decode cX12_keep 64 = .ok (.iinc 1 1, 3) := by decide +kernel
theorem dX12_keep_67 : decode cX12_keep 67 = .ok (.goto (-57), 3) := by decide +kernel
theorem dX12_keep_70 : decode cX12_keep 70 = .ok (.aload_n 0, 1) := by decide +kernel
theorem dX12_keep_71 : decode cX12_keep 71 = .ok (.aload_n 0, 1) := by decide +kernel
theorem dX12_keep_72 : decode cX12_keep 72 = .ok (.getfield 122, 3) := by decide +kernel
theorem dX12_keep_75 : decode cX12_keep 75 = .ok (.putfield 95, 3) := by decide +kernel
theorem dX12_keep_78 : decode cX12_keep 78 = .ok (.iconst 0, 1) := by decide +kernel
theorem dX12_keep_79 : decode cX12_keep 79 = .ok (.istore_n 1, 1) := by decide +kernel
theorem dX12_keep_80 : decode cX12_keep 80 = .ok (.iload_n 1, 1) := by decide +kernel
theorem dX12_keep_81 : decode cX12_keep 81 = .ok (.bipush 48, 2) := by decide +kernel
theorem dX12_keep_83 : decode cX12_keep 83 = .ok (.if_icmp .ge 21, 3) := by decide +kernel
theorem dX12_keep_86 : decode cX12_keep 86 = .ok (.aload_n 0, 1) := by decide +kernel
theorem dX12_keep_87 : decode cX12_keep 87 = .ok (.getfield 41, 3) := by decide +kernel
theorem dX12_keep_90 : decode cX12_keep 90 = .ok (.iload_n 1, 1) := by decide +kernel
theorem dX12_keep_91 : decode cX12_keep 91 = .ok (.aload_n 0, 1) := by decide +kernel
theorem dX12_keep_92 : decode cX12_keep 92 = .ok (.getfield 59, 3) := by decide +kernel
theorem dX12_keep_95 : decode cX12_keep 95 = .ok (.iload_n 1, 1) := by decide +kernel
theorem dX12_keep_96 : decode cX12_keep 96 = .ok (.iaload, 1) := by decide +kernel
theorem dX12_keep_97 : decode cX12_keep 97 = .ok (.iastore, 1) := by decide +kernel
theorem dX12_keep_98 : decode cX12_keep 98 = .ok (.iinc 1 1, 3) := by decide +kernel
theorem dX12_keep_101 : decode cX12_keep 101 = .ok (.goto (-21), 3) := by decide +kernel
theorem dX12_keep_104 : decode cX12_keep 104 = .ok (.return_, 1) := by decide +kernel
noncomputable def s_X12_keep_10 (a0 : Nat) (M3 : Me) (v4 : Int32) : Option ((Me × Int32) ⊕ (Me × Int32)) :=
  if (6 : Int32) ≤ v4 then (
    some (Sum.inr (M3, v4))
  ) else (
    gr M3 a0 12 9 fun o5 =>
    gr M3 a0 12 18 fun o6 =>
    li M3 o6 v4 fun v7 =>
    si M3 o5 v4 v7 fun M8 =>
    gr M8 a0 12 10 fun o9 =>
    gr M8 a0 12 19 fun o10 =>
    li M8 o10 v4 fun v11 =>
    si M8 o9 v4 v11 fun M12 =>
    gr M12 a0 12 11 fun o13 =>
    gr M12 a0 12 20 fun o14 =>
    li M12 o14 v4 fun v15 =>
    si M12 o13 v4 v15 fun M16 =>
    gr M16 a0 12 12 fun o17 =>
    gr M16 a0 12 21 fun o18 =>
    li M16 o18 v4 fun v19 =>
    si M16 o17 v4 v19 fun M20 =>
    let_v (v4 + (1 : Int32)) fun v21 =>
    some (Sum.inl (M20, v21))
  )
noncomputable def s_X12_keep_80 (a0 : Nat) (M25 : Me) (v26 : Int32) : Option ((Me × Int32) ⊕ (Me × Int32)) :=
  if (48 : Int32) ≤ v26 then (
    some (Sum.inr (M25, v26))
  ) else (
    gr M25 a0 12 14 fun o27 =>
    gr M25 a0 12 23 fun o28 =>
    li M25 o28 v26 fun v29 =>
    si M25 o27 v26 v29 fun M30 =>
    let_v (v26 + (1 : Int32)) fun v31 =>
    some (Sum.inl (M30, v31))
  )
noncomputable def b_X12_keep (a0 : Nat) (M : Me) : Option (Me) :=
  gi M a0 12 17 fun v1 =>
  pi M a0 12 8 v1 fun M2 =>
  (lp (fun s => s_X12_keep_10 a0 s.1 s.2) (M2, (0 : Int32))).bind fun e22 =>
  gi e22.1 a0 12 22 fun v23 =>
  pi e22.1 a0 12 13 v23 fun M24 =>
  (lp (fun s => s_X12_keep_80 a0 s.1 s.2) (M24, (0 : Int32))).bind fun e32 =>
  some e32.1
noncomputable def f_X12_keep (a0 : Nat) (M : Me) : Option (Me) := ck M a0 12 (b_X12_keep a0 M)
set_option maxRecDepth 20000 in
theorem vb_X12_keep (d : Nat) (hd : 0 ≤ d) (a0 : Nat) (M : Me) : V (mX12_keep, d, 0, 0) (0, 0) M 0 [some (.ref a0), none] [] (b_X12_keep a0 M) (fun M2 => some (none, M2)) := by
  unfold b_X12_keep
  refine v_aload_n (q := 1) dX12_keep_0 rfl rfl rfl ?_
  refine v_aload_n (q := 2) dX12_keep_1 rfl rfl rfl ?_
  refine v_getIb (q := 5) dX12_keep_2 rfl fg_X12_119 (fun v1 => ?_)
  refine v_putIb (q := 8) dX12_keep_5 rfl fp_X12_92 (fun M2 => ?_)
  refine v_iconst (q := 9) dX12_keep_8 rfl ic_0 ?_
  refine v_istore_n (q := 10) (loc2 := [some (.ref a0), some (.int (0 : Int32))]) dX12_keep_9 rfl rfl rfl (Nat.le_of_ble_eq_true rfl) rfl ?_
  refine v_lps (S := Me × Int32) 70 (fun s => s.1) (fun s => [some (.ref a0), some (.int s.2)]) (fun e22 => e22.1) (fun e22 => [some (.ref a0), some (.int e22.2)]) (fun e22 => ?_) (fun k K hk hx s => ?_)
  · refine v_aload_n (q := 71) dX12_keep_70 rfl rfl rfl ?_
    refine v_aload_n (q := 72) dX12_keep_71 rfl rfl rfl ?_
    refine v_getIb (q := 75) dX12_keep_72 rfl fg_X12_122 (fun v23 => ?_)
    refine v_putIb (q := 78) dX12_keep_75 rfl fp_X12_95 (fun M24 => ?_)
    refine v_iconst (q := 79) dX12_keep_78 rfl ic_0 ?_
    refine v_istore_n (q := 80) (loc2 := [some (.ref a0), some (.int (0 : Int32))]) dX12_keep_79 rfl rfl rfl (Nat.le_of_ble_eq_true rfl) rfl ?_
    refine v_lps (S := Me × Int32) 104 (fun s => s.1) (fun s => [some (.ref a0), some (.int s.2)]) (fun e32 => e32.1) (fun e32 => [some (.ref a0), some (.int e32.2)]) (fun e32 => ?_) (fun k K hk hx s => ?_)
    · exact v_vret rfl dX12_keep_104 ⟨Nat.le_of_ble_eq_true rfl, Nat.le_of_ble_eq_true rfl⟩ rfl
    · obtain ⟨M25, v26⟩ := s
      show V _ _ M25 80 [some (.ref a0), some (.int v26)] [] (s_X12_keep_80 a0 M25 v26) _
      unfold s_X12_keep_80
      refine v_iload_n (q := 81) dX12_keep_80 rfl rfl rfl ?_
      refine v_bipush (q := 83) dX12_keep_81 rfl bp_48 ?_
      refine v_icmp_ge (tgt := 104) (q := 86) dX12_keep_83 rfl rfl ?_ ?_
      · exact v_inr (hx (M25, v26))
      · refine v_aload_n (q := 87) dX12_keep_86 rfl rfl rfl ?_
        refine v_getRb (q := 90) dX12_keep_87 rfl fg_X12_41 (fun o27 => ?_)
        refine v_iload_n (q := 91) dX12_keep_90 rfl rfl rfl ?_
        refine v_aload_n (q := 92) dX12_keep_91 rfl rfl rfl ?_
        refine v_getRb (q := 95) dX12_keep_92 rfl fg_X12_59 (fun o28 => ?_)
        refine v_iload_n (q := 96) dX12_keep_95 rfl rfl rfl ?_
        refine v_iaload (q := 97) dX12_keep_96 rfl (fun v29 => ?_)
        refine v_iastore (q := 98) dX12_keep_97 rfl (fun M30 => ?_)
        refine v_iincL (q := 101) (x := v26) (cst := (1 : Int32)) (f := fun v31 => [some (.ref a0), some (.int v31)]) dX12_keep_98 rfl rfl ic_1 rfl (Nat.le_of_ble_eq_true rfl) (fun _ => rfl) (fun v31 => ?_)
        refine v_goto (tgt := 80) dX12_keep_101 rfl ?_
        exact v_inl (hk (M30, v31))
  · obtain ⟨M3, v4⟩ := s
    show V _ _ M3 10 [some (.ref a0), some (.int v4)] [] (s_X12_keep_10 a0 M3 v4) _
    unfold s_X12_keep_10
    refine v_iload_n (q := 11) dX12_keep_10 rfl rfl rfl ?_
    refine v_bipush (q := 13) dX12_keep_11 rfl bp_6 ?_
    refine v_icmp_ge (tgt := 70) (q := 16) dX12_keep_13 rfl rfl ?_ ?_
    · exact v_inr (hx (M3, v4))
    · refine v_aload_n (q := 17) dX12_keep_16 rfl rfl rfl ?_
      refine v_getRb (q := 20) dX12_keep_17 rfl fg_X12_29 (fun o5 => ?_)
      refine v_iload_n (q := 21) dX12_keep_20 rfl rfl rfl ?_
      refine v_aload_n (q := 22) dX12_keep_21 rfl rfl rfl ?_
      refine v_getRb (q := 25) dX12_keep_22 rfl fg_X12_47 (fun o6 => ?_)
      refine v_iload_n (q := 26) dX12_keep_25 rfl rfl rfl ?_
      refine v_iaload (q := 27) dX12_keep_26 rfl (fun v7 => ?_)
      refine v_iastore (q := 28) dX12_keep_27 rfl (fun M8 => ?_)
      refine v_aload_n (q := 29) dX12_keep_28 rfl rfl rfl ?_
      refine v_getRb (q := 32) dX12_keep_29 rfl fg_X12_32 (fun o9 => ?_)
      refine v_iload_n (q := 33) dX12_keep_32 rfl rfl rfl ?_
      refine v_aload_n (q := 34) dX12_keep_33 rfl rfl rfl ?_
      refine v_getRb (q := 37) dX12_keep_34 rfl fg_X12_50 (fun o10 => ?_)
      refine v_iload_n (q := 38) dX12_keep_37 rfl rfl rfl ?_
      refine v_iaload (q := 39) dX12_keep_38 rfl (fun v11 => ?_)
      refine v_iastore (q := 40) dX12_keep_39 rfl (fun M12 => ?_)
      refine v_aload_n (q := 41) dX12_keep_40 rfl rfl rfl ?_
      refine v_getRb (q := 44) dX12_keep_41 rfl fg_X12_35 (fun o13 => ?_)
      refine v_iload_n (q := 45) dX12_keep_44 rfl rfl rfl ?_
      refine v_aload_n (q := 46) dX12_keep_45 rfl rfl rfl ?_
      refine v_getRb (q := 49) dX12_keep_46 rfl fg_X12_53 (fun o14 => ?_)
      refine v_iload_n (q := 50) dX12_keep_49 rfl rfl rfl ?_
      refine v_iaload (q := 51) dX12_keep_50 rfl (fun v15 => ?_)
      refine v_iastore (q := 52) dX12_keep_51 rfl (fun M16 => ?_)
      refine v_aload_n (q := 53) dX12_keep_52 rfl rfl rfl ?_
      refine v_getRb (q := 56) dX12_keep_53 rfl fg_X12_38 (fun o17 => ?_)
      refine v_iload_n (q := 57) dX12_keep_56 rfl rfl rfl ?_
      refine v_aload_n (q := 58) dX12_keep_57 rfl rfl rfl ?_
      refine v_getRb (q := 61) dX12_keep_58 rfl fg_X12_56 (fun o18 => ?_)
      refine v_iload_n (q := 62) dX12_keep_61 rfl rfl rfl ?_
      refine v_iaload (q := 63) dX12_keep_62 rfl (fun v19 => ?_)
      refine v_iastore (q := 64) dX12_keep_63 rfl (fun M20 => ?_)
      refine v_iincL (q := 67) (x := v4) (cst := (1 : Int32)) (f := fun v21 => [some (.ref a0), some (.int v21)]) dX12_keep_64 rfl rfl ic_1 rfl (Nat.le_of_ble_eq_true rfl) (fun _ => rfl) (fun v21 => ?_)
      refine v_goto (tgt := 10) dX12_keep_67 rfl ?_
      exact v_inl (hk (M20, v21))
theorem ct_X12_keep (d : Nat) (hd : 0 ≤ d) (a0 : Nat) (M : Me) (r : Me) (hf : f_X12_keep a0 M = some r) : me_k M a0 = some (12, nf_c 12) ∧ Ct yX12_keep mX12_keep d 0 0 [.ref a0] M (none, r) := by
  obtain ⟨hk, hb⟩ := ck_some hf
  exact ⟨hk, ct_of (by decide +kernel) rfl rfl (Nat.le_of_ble_eq_true rfl) (vb_X12_keep d hd a0 M) (by rw [hb]; rfl)⟩

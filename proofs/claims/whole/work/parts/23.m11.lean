theorem dX12_act_0 : decode cX12_act 0 = .ok (.iload_n 2, 1) := by decide +kernel
theorem dX12_act_1 : decode cX12_act 1 = .ok (.bipush 48, 2) := by decide +kernel
theorem dX12_act_3 : decode cX12_act 3 = .ok (.bipush 52, 2) := by decide +kernel
theorem dX12_act_5 : decode cX12_act 5 = .ok (.invokestatic 81, 3) := by decide +kernel
theorem dX12_act_8 : decode cX12_act 8 = .ok (.ifCond .eq 62, 3) := by decide +kernel
theorem dX12_act_11 : decode cX12_act 11 = .ok (.aload_n 0, 1) := by decide +kernel
theorem dX12_act_12 : decode cX12_act 12 = .ok (.getfield 13, 3) := by decide +kernel
theorem dX12_act_15 : decode cX12_act 15 = .ok (.iconst 5, 1) := by decide +kernel
theorem dX12_act_16 : decode cX12_act 16 = .ok (.aload_n 0, 1) := by decide +kernel
theorem dX12_act_17 : decode cX12_act 17 = .ok (.getfield 47, 3) := by decide +kernel
theorem dX12_act_20 : decode cX12_act 20 = .ok (.iload_n 1, 1) := by decide +kernel
theorem dX12_act_21 : decode cX12_act 21 = .ok (.iaload, 1) := by decide +kernel
theorem dX12_act_22 : decode cX12_act 22 = .ok (.imul, 1) := by decide +kernel
theorem dX12_act_23 : decode cX12_act 23 = .ok (.iload_n 2, 1) := by decide +kernel
theorem dX12_act_24 : decode cX12_act 24 = .ok (.iadd, 1) := by decide +kernel
theorem dX12_act_25 : decode cX12_act 25 = .ok (.bipush 48, 2) := by decide +kernel
theorem dX12_act_27 : decode cX12_act 27 = .ok (.isub, 1) := by decide +kernel
theorem dX12_act_28 : decode cX12_act 28 = .ok (.iaload, 1) := by decide +kernel
theorem dX12_act_29 : decode cX12_act 29 = .ok (.istore_n 3, 1) := by decide +kernel
theorem dX12_act_30 : decode cX12_act 30 = .ok (.aload_n 0, 1) := by decide +kernel
theorem dX12_act_31 : decode cX12_act 31 = .ok (.getfield 50, 3) := by decide +kernel
theorem dX12_act_34 : decode cX12_act 34 = .ok (.iload_n 1, 1) := by decide +kernel
theorem dX12_act_35 : decode cX12_act 35 = .ok (.aload_n 0, 1) := by decide +kernel
theorem dX12_act_36 : decode cX12_act 36 = .ok (.getfield 119, 3) := by decide +kernel
theorem dX12_act_39 : decode cX12_act 39 = .ok (.aload_n 0, 1) := by decide +kernel
theorem dX12_act_40 : decode cX12_act 40 = .ok (.getfield 17, 3) := by decide +kernel
theorem dX12_act_43 : decode cX12_act 43 = .ok (.irem, 1) := by decide +kernel
theorem dX12_act_44 : decode cX12_act 44 = .ok (.bipush 90, 2) := by decide +kernel
theorem dX12_act_46 : decode cX12_act 46 = .ok (.if_icmp .ge 9, 3) := by decide +kernel
theorem dX12_act_49 : decode cX12_act 49 = .ok (.iconst 2, 1) := by decide +kernel
theorem dX12_act_50 : decode cX12_act 50 = .ok (.iload_n 3, 1) := by decide +kernel
theorem dX12_act_51 : decode cX12_act 51 = .ok (.imul, 1) := by decide +kernel
theorem dX12_act_52 : decode cX12_act 52 = .ok (.goto 4, 3) := by decide +kernel
theorem dX12_act_55 : decode cX12_act 55 = .ok (.iload_n 3, 1) := by decide +kernel
theorem dX12_act_56 : decode cX12_act 56 = .ok (.iastore, 1) := by decide +kernel
theorem dX12_act_57 : decode cX12_act 57 = .ok (.aload_n 0, 1) := by decide +kernel
theorem dX12_act_58 : decode cX12_act 58 = .ok (.getfield 47, 3) := by decide +kernel
theorem dX12_act_61 : decode cX12_act 61 = .ok (.iload_n 1, 1) := by decide +kernel
theorem dX12_act_62 : decode cX12_act 62 = .ok (.iload_n 2, 1) := by decide +kernel
theorem dX12_act_63 : decode cX12_act 63 = .ok (.bipush 48, 2) := by decide +kernel
theorem dX12_act_65 : decode cX12_act 65 = .ok (.isub, 1) := by decide +kernel
theorem dX12_act_66 : decode cX12_act 66 = .ok (.iastore, 1) := by decide +kernel
theorem dX12_act_67 : decode cX12_act 67 = .ok (.goto 142, 3) := by decide +kernel
theorem dX12_act_70 : decode cX12_act 70 = .ok (.iload_n 2, 1) := by decide +kernel
theorem dX12_act_71 : decode cX12_act 71 = .ok (.bipush 61, 2) := by decide +kernel
theorem dX12_act_73 : decode cX12_act 73 = .ok (.if_icmp .ne 11, 3) := by decide +kernel
theorem dX12_act_76 : decode cX12_act 76 = .ok (.aload_n 0, 1) := by decide +kernel
theorem dX12_act_77 : decode cX12_act 77 = .ok (.iload_n 1, 1) := by decide +kernel
theorem dX12_act_78 : decode cX12_act 78 = .ok (.invokevirtual 142, 3) := by decide +kernel
theorem dX12_act_81 : decode cX12_act 81 = .ok (.goto 128, 3) := by decide +kernel
theorem dX12_act_84 : decode cX12_act 84 = .ok (.iload_n 2, 1) := by decide +kernel
theorem dX12_act_85 : decode cX12_act 85 = .ok (.bipush 33, 2) := by decide +kernel
theorem dX12_act_87 : decode cX12_act 87 = .ok (.if_icmp .ne 76, 3) := by decide +kernel
theorem dX12_act_90 : decode cX12_act 90 = .ok (.iconst 0, 1) := by decide +kernel
theorem dX12_act_91 : decode cX12_act 91 = .ok (.istore_n 3, 1) := by decide +kernel
theorem dX12_act_92 : decode cX12_act 92 = .ok (.iload_n 3, 1) := by decide +kernel
theorem dX12_act_93 : decode cX12_act 93 = .ok (.aload_n 0, 1) := by decide +kernel
theorem dX12_act_94 : decode cX12_act 94 = .ok (.getfield 122, 3) := by decide +kernel
theorem dX12_act_97 : decode cX12_act 97 = .ok (.if_icmp .ge 53, 3) := by decide +kernel
theorem dX12_act_100 : decode cX12_act 100 = .ok (.aload_n 0, 1) := by decide +kernel
theorem dX12_act_101 : decode cX12_act 101 = .ok (.getfield 59, 3) := by decide +kernel
theorem dX12_act_104 : decode cX12_act 104 = .ok (.iconst 4, 1) := by decide +kernel
theorem dX12_act_105 : decode cX12_act 105 = .ok (.iload_n 3, 1) := by decide +kernel
theorem dX12_act_106 : decode cX12_act 106 = .ok (.imul, 1) := by decide +kernel
theorem dX12_act_107 : decode cX12_act 107 = .ok (.iconst 2, 1) := by decide +kernel
theorem dX12_act_108 : decode cX12_act 108 = .ok (.iadd, 1) := by decide +kernel
theorem dX12_act_109 : decode cX12_act 109 = .ok (.aload_n 0, 1) := by decide +kernel
theorem dX12_act_110 : decode cX12_act 110 = .ok (.iload_n 1, 1) := by decide +kernel
theorem dX12_act_111 : decode cX12_act 111 = .ok (.iload_n 3, 1) := by decide +kernel
theorem dX12_act_112 : decode cX12_act 112 = .ok (.invokevirtual 139, 3) := by decide +kernel
theorem dX12_act_115 : decode cX12_act 115 = .ok (.ifCond .eq 18, 3) := by decide +kernel
theorem dX12_act_118 : decode cX12_act 118 = .ok (.aload_n 0, 1) := by decide +kernel
theorem dX12_act_119 : decode cX12_act 119 = .ok (.getfield 59, 3) := by decide +kernel
theorem dX12_act_122 : decode cX12_act 122 = .ok (.iconst 4, 1) := by decide +kernel
theorem dX12_act_123 : decode cX12_act 123 = .ok (.iload_n 3, 1) := by decide +kernel
theorem dX12_act_124 : decode cX12_act 124 = .ok (.imul, 1) := by decide +kernel
theorem dX12_act_125 : decode cX12_act 125 = .ok (.iconst 2, 1) := by decide +kernel
theorem dX12_act_126 : decode cX12_act 126 = .ok (.iadd, 1) := by decide +kernel
theorem dX12_act_127 : decode cX12_act 127 = .ok (.iaload, 1) := by decide +kernel
theorem dX12_act_128 : decode cX12_act 128 = .ok (.iconst 2, 1) := by decide +kernel
theorem dX12_act_129 : decode cX12_act 129 = .ok (.idiv, 1) := by decide +kernel
theorem dX12_act_130 : decode cX12_act 130 = .ok (.goto 13, 3) := by decide +kernel
theorem dX12_act_133 : decode cX12_act 133 = .ok (.aload_n 0, 1) := by decide +kernel
theorem dX12_act_134 : decode cX12_act 134 = .ok (.getfield 59, 3) := by decide +kernel
theorem dX12_act_137 : decode cX12_act 137 = .ok (.iconst 4, 1) := by decide +kernel
theorem dX12_act_138 : decode cX12_act 138 = .ok (.iload_n 3, 1) := by decide +kernel
theorem dX12_act_139 : decode cX12_act 139 = .ok (.imul, 1) := by decide +kernel
theorem dX12_act_140 : decode cX12_act 140 = .ok (.iconst 2, 1) := by decide +kernel
theorem dX12_act_141 : decode cX12_act 141 = .ok (.iadd, 1) := by decide +kernel
theorem dX12_act_142 : decode cX12_act 142 = .ok (.iaload, 1) := by decide +kernel
theorem dX12_act_143 : decode cX12_act 143 = .ok (.iastore, 1) := by decide +kernel
theorem dX12_act_144 : decode cX12_act 144 = .ok (.iinc 3 1, 3) := by decide +kernel
theorem dX12_act_147 : decode cX12_act 147 = .ok (.goto (-55), 3) := by decide +kernel
theorem dX12_act_150 : decode cX12_act 150 = .ok (.aload_n 0, 1) := by decide +kernel
theorem dX12_act_151 : decode cX12_act 151 = .ok (.getfield 56, 3) := by decide +kernel
theorem dX12_act_154 : decode cX12_act 154 = .ok (.iload_n 1, 1) := by decide +kernel
theorem dX12_act_155 : decode cX12_act 155 = .ok (.dup2, 1) := by decide +kernel
theorem dX12_act_156 : decode cX12_act 156 = .ok (.iaload, 1) := by decide +kernel
theorem dX12_act_157 : decode cX12_act 157 = .ok (.iconst 2, 1) := by decide +kernel
theorem dX12_act_158 : decode cX12_act 158 = .ok (.isub, 1) := by decide +kernel
theorem dX12_act_159 : decode cX12_act 159 = .ok (.iastore, 1) := by decide +kernel
theorem dX12_act_160 : decode cX12_act 160 = .ok (.goto 49, 3) := by decide +kernel
theorem dX12_act_163 : decode cX12_act 163 = .ok (.aload_n 0, 1) := by decide +kernel
theorem dX12_act_164 : decode cX12_act 164 = .ok (.getfield 122, 3) := by decide +kernel
theorem dX12_act_167 : decode cX12_act 167 = .ok (.iconst 1, 1) := by decide +kernel
theorem dX12_act_168 : decode cX12_act 168 = .ok (.isub, 1) := by decide +kernel
theorem dX12_act_169 : decode cX12_act 169 = .ok (.istore_n 3, 1) := by decide +kernel
theorem dX12_act_170 : decode cX12_act 170 = .ok (.iload_n 3, 1) := by decide +kernel
theorem dX12_act_171 : decode cX12_act 171 = .ok (.ifCond .lt 38, 3) := by decide +kernel
theorem dX12_act_174 : decode cX12_act 174 = .ok (.aload_n 0, 1) := by decide +kernel
theorem dX12_act_175 : decode cX12_act 175 = .ok (.getfield 59, 3) := by decide +kernel
theorem dX12_act_178 : decode cX12_act 178 = .ok (.iconst 4, 1) := by decide +kernel
theorem dX12_act_179 : decode cX12_act 179 = .ok (.iload_n 3, 1) := by decide +kernel
theorem dX12_act_180 : decode cX12_act 180 = .ok (.imul, 1) := by decide +kernel
theorem dX12_act_181 : decode cX12_act 181 = .ok (.iconst 1, 1) := by decide +kernel
theorem dX12_act_182 : decode cX12_act 182 = .ok (.iadd, 1) := by decide +kernel
theorem dX12_act_183 : decode cX12_act 183 = .ok (.iaload, 1) := by decide +kernel
theorem dX12_act_184 : decode cX12_act 184 = .ok (.iload_n 1, 1) := by decide +kernel
theorem dX12_act_185 : decode cX12_act 185 = .ok (.if_icmp .ne 18, 3) := by decide +kernel
theorem dX12_act_188 : decode cX12_act 188 = .ok (.aload_n 0, 1) := by decide +kernel
theorem dX12_act_189 : decode cX12_act 189 = .ok (.iload_n 3, 1) := by decide +kernel
theorem dX12_act_190 : decode cX12_act 190 = .ok (.invokevirtual 125, 3) := by decide +kernel
theorem dX12_act_193 : decode cX12_act 193 = .ok (.aload_n 0, 1) := by decide +kernel
theorem dX12_act_194 : decode cX12_act 194 = .ok (.getfield 56, 3) := by decide +kernel
theorem dX12_act_197 : decode cX12_act 197 = .ok (.iload_n 1, 1) := by decide +kernel
theorem dX12_act_198 : decode cX12_act 198 = .ok (.dup2, 1) := by decide +kernel
theorem dX12_act_199 : decode cX12_act 199 = .ok (.iaload, 1) := by decide +kernel
theorem dX12_act_200 : decode cX12_act 200 = .ok (.iconst 1, 1) := by decide +kernel
theorem dX12_act_201 : decode cX12_act 201 = .ok (.iadd, 1) := by decide +kernel
theorem dX12_act_202 : decode cX12_act 202 = .ok (.iastore, 1) := by decide +kernel
theorem dX12_act_203 : decode cX12_act 203 = .ok (.iinc 3 (-1), 3) := by decide +kernel
theorem dX12_act_206 : decode cX12_act 206 = .ok (.goto (-36), 3) := by decide +kernel
theorem dX12_act_209 : decode cX12_act 209 = .ok (.return_, 1) := by decide +kernel
noncomputable def s_X12_act_170 (a0 : Nat) (x1 : Int32) (M4 : Me) (v5 : Int32) : Option ((Me × Int32) ⊕ (Me × Int32)) :=
  if v5 < 0 then (
    some (Sum.inr (M4, v5))
  ) else (
    gr M4 a0 12 23 fun o6 =>
    li M4 o6 (((4 : Int32) * v5) + (1 : Int32)) fun v7 =>
    (
      if v7 = x1 then (
        cM (f_X12_forgive a0 v5 M4) fun M8 =>
        gr M8 a0 12 21 fun o9 =>
        li M8 o9 x1 fun v10 =>
        si M8 o9 x1 (v10 + (1 : Int32)) fun M11 =>
        some M11
      ) else (
        some M4
      )
    ).bind fun M12 =>
    let_v (v5 + (-1 : Int32)) fun v13 =>
    some (Sum.inl (M12, v13))
  )
noncomputable def s_X12_act_92 (a0 : Nat) (x1 : Int32) (M15 : Me) (v16 : Int32) : Option ((Me × Int32) ⊕ (Me × Int32)) :=
  gi M15 a0 12 22 fun v17 =>
  if v17 ≤ v16 then (
    some (Sum.inr (M15, v16))
  ) else (
    gr M15 a0 12 23 fun o18 =>
    cP (f_X12_owesHere a0 x1 v16 M15) fun v19 =>
    (
      if v19 = 0 then (
        gr M15 a0 12 23 fun o20 =>
        li M15 o20 (((4 : Int32) * v16) + (2 : Int32)) fun v21 =>
        some v21
      ) else (
        gr M15 a0 12 23 fun o22 =>
        li M15 o22 (((4 : Int32) * v16) + (2 : Int32)) fun v23 =>
        some (v23 / (2 : Int32))
      )
    ).bind fun v24 =>
    si M15 o18 (((4 : Int32) * v16) + (2 : Int32)) v24 fun M25 =>
    let_v (v16 + (1 : Int32)) fun v26 =>
    some (Sum.inl (M25, v26))
  )
noncomputable def b_X12_act (a0 : Nat) (x1 : Int32) (x2 : Int32) (M : Me) : Option (Me) :=
  cP (f_X12_in x2 (48 : Int32) (52 : Int32) M) fun v1 =>
  (
    if v1 = 0 then (
      if x2 = (61 : Int32) then (
        cM (f_X12_giveBack a0 x1 M) fun M31 =>
        some M31
      ) else (
        if x2 = (33 : Int32) then (
          (lp (fun s => s_X12_act_92 a0 x1 s.1 s.2) (M, (0 : Int32))).bind fun e27 =>
          gr e27.1 a0 12 21 fun o28 =>
          li e27.1 o28 x1 fun v29 =>
          si e27.1 o28 x1 (v29 - (2 : Int32)) fun M30 =>
          some M30
        ) else (
          gi M a0 12 22 fun v2 =>
          let_v ((v2 - (1 : Int32))) fun v3 =>
          (lp (fun s => s_X12_act_170 a0 x1 s.1 s.2) (M, v3)).bind fun e14 =>
          some e14.1
        )
      )
    ) else (
      gr M a0 12 1 fun o32 =>
      gr M a0 12 18 fun o33 =>
      li M o33 x1 fun v34 =>
      li M o32 ((((5 : Int32) * v34) + x2) - (48 : Int32)) fun v35 =>
      gr M a0 12 19 fun o36 =>
      gi M a0 12 17 fun v37 =>
      gi M a0 12 2 fun v38 =>
      if v38 = 0 then none else
      (
        if (90 : Int32) ≤ (v37 - v37 / v38 * v38) then (
          some v35
        ) else (
          some ((2 : Int32) * v35)
        )
      ).bind fun v39 =>
      si M o36 x1 v39 fun M40 =>
      gr M40 a0 12 18 fun o41 =>
      si M40 o41 x1 (x2 - (48 : Int32)) fun M42 =>
      some M42
    )
  ).bind fun M43 =>
  some M43
noncomputable def f_X12_act (a0 : Nat) (x1 : Int32) (x2 : Int32) (M : Me) : Option (Me) := ck M a0 12 (b_X12_act a0 x1 x2 M)
set_option maxRecDepth 20000 in
theorem vb_X12_act (d : Nat) (hd : 3 ≤ d) (a0 : Nat) (x1 : Int32) (x2 : Int32) (M : Me) : V (mX12_act, d, 0, 0) (0, 0) M 0 [some (.ref a0), some (.int x1), some (.int x2), none] [] (b_X12_act a0 x1 x2 M) (fun M2 => some (none, M2)) := by
  unfold b_X12_act
  refine v_iload_n (q := 1) dX12_act_0 rfl rfl rfl ?_
  refine v_bipush (q := 3) dX12_act_1 rfl bp_48 ?_
  refine v_bipush (q := 5) dX12_act_3 rfl bp_52 ?_
  refine v_cPS3 (q := 8) (ct_X12_in (d - 1) (by omega) _ _ _ _) dX12_act_5 rfl cc_X12_81 (by omega) (Nat.le_of_ble_eq_true rfl) ⟨Nat.le_of_ble_eq_true rfl, Nat.le_of_ble_eq_true rfl⟩ (fun v1 => ?_)
  refine v_join (γ := Me) 209 (fun M43 => M43) (fun M43 => [some (.ref a0), some (.int x1), some (.int x2), none]) (fun M43 => []) (fun K hK => ?_) (fun M43 => ?_)
  · refine v_if_eq (tgt := 70) (q := 11) dX12_act_8 rfl rfl ?_ ?_
    · refine v_iload_n (q := 71) dX12_act_70 rfl rfl rfl ?_
      refine v_bipush (q := 73) dX12_act_71 rfl bp_61 ?_
      refine v_icmp_ne (tgt := 84) (q := 76) dX12_act_73 rfl rfl ?_ ?_
      · refine v_iload_n (q := 85) dX12_act_84 rfl rfl rfl ?_
        refine v_bipush (q := 87) dX12_act_85 rfl bp_33 ?_
        refine v_icmp_ne (tgt := 163) (q := 90) dX12_act_87 rfl rfl ?_ ?_
        · refine v_aload_n (q := 164) dX12_act_163 rfl rfl rfl ?_
          refine v_getIb (q := 167) dX12_act_164 rfl fg_X12_122 (fun v2 => ?_)
          refine v_iconst (q := 168) dX12_act_167 rfl ic_1 ?_
          refine v_isub (q := 169) dX12_act_168 rfl ?_
          refine v_letI (fun v3 => ?_)
          refine v_istore_n (q := 170) (loc2 := [some (.ref a0), some (.int x1), some (.int x2), some (.int v3)]) dX12_act_169 rfl rfl rfl (Nat.le_of_ble_eq_true rfl) rfl ?_
          refine v_lps (S := Me × Int32) 209 (fun s => s.1) (fun s => [some (.ref a0), some (.int x1), some (.int x2), some (.int s.2)]) (fun e14 => e14.1) (fun e14 => [some (.ref a0), some (.int x1), some (.int x2), some (.int e14.2)]) (fun e14 => ?_) (fun k K hk hx s => ?_)
          · exact v_weak (hK e14.1) ⟨rfl, ⟨rfl, ⟨rfl, trivial⟩⟩⟩
          · obtain ⟨M4, v5⟩ := s
            show V _ _ M4 170 [some (.ref a0), some (.int x1), some (.int x2), some (.int v5)] [] (s_X12_act_170 a0 x1 M4 v5) _
            unfold s_X12_act_170
            refine v_iload_n (q := 171) dX12_act_170 rfl rfl rfl ?_
            refine v_if_lt (tgt := 209) (q := 174) dX12_act_171 rfl rfl ?_ ?_
            · exact v_inr (hx (M4, v5))
            · refine v_aload_n (q := 175) dX12_act_174 rfl rfl rfl ?_
              refine v_getRb (q := 178) dX12_act_175 rfl fg_X12_59 (fun o6 => ?_)
              refine v_iconst (q := 179) dX12_act_178 rfl ic_4 ?_
              refine v_iload_n (q := 180) dX12_act_179 rfl rfl rfl ?_
              refine v_imul (q := 181) dX12_act_180 rfl ?_
              refine v_iconst (q := 182) dX12_act_181 rfl ic_1 ?_
              refine v_iadd (q := 183) dX12_act_182 rfl ?_
              refine v_iaload (q := 184) dX12_act_183 rfl (fun v7 => ?_)
              refine v_iload_n (q := 185) dX12_act_184 rfl rfl rfl ?_
              refine v_join (γ := Me) 203 (fun M12 => M12) (fun M12 => [some (.ref a0), some (.int x1), some (.int x2), some (.int v5)]) (fun M12 => []) (fun K hK => ?_) (fun M12 => ?_)
              · refine v_icmp_ne (tgt := 203) (q := 188) dX12_act_185 rfl rfl ?_ ?_
                · exact hK M4
                · refine v_aload_n (q := 189) dX12_act_188 rfl rfl rfl ?_
                  refine v_iload_n (q := 190) dX12_act_189 rfl rfl rfl ?_
                  refine v_cMV1 (q := 193) (ct_X12_forgive (d - 1) (by omega) _ _ _) dX12_act_190 rfl cc_X12_125 (by omega) (Nat.le_of_ble_eq_true rfl) ⟨Nat.le_of_ble_eq_true rfl, Nat.le_of_ble_eq_true rfl⟩ (fun M8 => ?_)
                  refine v_aload_n (q := 194) dX12_act_193 rfl rfl rfl ?_
                  refine v_getRb (q := 197) dX12_act_194 rfl fg_X12_56 (fun o9 => ?_)
                  refine v_iload_n (q := 198) dX12_act_197 rfl rfl rfl ?_
                  refine v_dup2 (q := 199) dX12_act_198 rfl rfl rfl ?_
                  refine v_iaload (q := 200) dX12_act_199 rfl (fun v10 => ?_)
                  refine v_iconst (q := 201) dX12_act_200 rfl ic_1 ?_
                  refine v_iadd (q := 202) dX12_act_201 rfl ?_
                  refine v_iastore (q := 203) dX12_act_202 rfl (fun M11 => ?_)
                  exact hK M11
              · refine v_iincL (q := 206) (x := v5) (cst := (-1 : Int32)) (f := fun v13 => [some (.ref a0), some (.int x1), some (.int x2), some (.int v13)]) dX12_act_203 rfl rfl ic_m1 rfl (Nat.le_of_ble_eq_true rfl) (fun _ => rfl) (fun v13 => ?_)
                refine v_goto (tgt := 170) dX12_act_206 rfl ?_
                exact v_inl (hk (M12, v13))
        · refine v_iconst (q := 91) dX12_act_90 rfl ic_0 ?_
          refine v_istore_n (q := 92) (loc2 := [some (.ref a0), some (.int x1), some (.int x2), some (.int (0 : Int32))]) dX12_act_91 rfl rfl rfl (Nat.le_of_ble_eq_true rfl) rfl ?_
          refine v_lps (S := Me × Int32) 150 (fun s => s.1) (fun s => [some (.ref a0), some (.int x1), some (.int x2), some (.int s.2)]) (fun e27 => e27.1) (fun e27 => [some (.ref a0), some (.int x1), some (.int x2), some (.int e27.2)]) (fun e27 => ?_) (fun k K hk hx s => ?_)
          · refine v_aload_n (q := 151) dX12_act_150 rfl rfl rfl ?_
            refine v_getRb (q := 154) dX12_act_151 rfl fg_X12_56 (fun o28 => ?_)
            refine v_iload_n (q := 155) dX12_act_154 rfl rfl rfl ?_
            refine v_dup2 (q := 156) dX12_act_155 rfl rfl rfl ?_
            refine v_iaload (q := 157) dX12_act_156 rfl (fun v29 => ?_)
            refine v_iconst (q := 158) dX12_act_157 rfl ic_2 ?_
            refine v_isub (q := 159) dX12_act_158 rfl ?_
            refine v_iastore (q := 160) dX12_act_159 rfl (fun M30 => ?_)
            refine v_goto (tgt := 209) dX12_act_160 rfl ?_
            exact v_weak (hK M30) ⟨rfl, ⟨rfl, ⟨rfl, trivial⟩⟩⟩
          · obtain ⟨M15, v16⟩ := s
            show V _ _ M15 92 [some (.ref a0), some (.int x1), some (.int x2), some (.int v16)] [] (s_X12_act_92 a0 x1 M15 v16) _
            unfold s_X12_act_92
            refine v_iload_n (q := 93) dX12_act_92 rfl rfl rfl ?_
            refine v_aload_n (q := 94) dX12_act_93 rfl rfl rfl ?_
            refine v_getIb (q := 97) dX12_act_94 rfl fg_X12_122 (fun v17 => ?_)
            refine v_icmp_ge (tgt := 150) (q := 100) dX12_act_97 rfl rfl ?_ ?_
            · exact v_inr (hx (M15, v16))
            · refine v_aload_n (q := 101) dX12_act_100 rfl rfl rfl ?_
              refine v_getRb (q := 104) dX12_act_101 rfl fg_X12_59 (fun o18 => ?_)
              refine v_iconst (q := 105) dX12_act_104 rfl ic_4 ?_
              refine v_iload_n (q := 106) dX12_act_105 rfl rfl rfl ?_
              refine v_imul (q := 107) dX12_act_106 rfl ?_
              refine v_iconst (q := 108) dX12_act_107 rfl ic_2 ?_
              refine v_iadd (q := 109) dX12_act_108 rfl ?_
              refine v_aload_n (q := 110) dX12_act_109 rfl rfl rfl ?_
              refine v_iload_n (q := 111) dX12_act_110 rfl rfl rfl ?_
              refine v_iload_n (q := 112) dX12_act_111 rfl rfl rfl ?_
              refine v_cPV2 (q := 115) (ct_X12_owesHere (d - 1) (by omega) _ _ _ _) dX12_act_112 rfl cc_X12_139 (by omega) (Nat.le_of_ble_eq_true rfl) ⟨Nat.le_of_ble_eq_true rfl, Nat.le_of_ble_eq_true rfl⟩ (fun v19 => ?_)
              refine v_join (γ := Int32) 143 (fun v24 => M15) (fun v24 => [some (.ref a0), some (.int x1), some (.int x2), some (.int v16)]) (fun v24 => [.int v24, .int (((4 : Int32) * v16) + (2 : Int32)), .ref o18]) (fun K hK => ?_) (fun v24 => ?_)
              · refine v_if_eq (tgt := 133) (q := 118) dX12_act_115 rfl rfl ?_ ?_
                · refine v_aload_n (q := 134) dX12_act_133 rfl rfl rfl ?_
                  refine v_getRb (q := 137) dX12_act_134 rfl fg_X12_59 (fun o20 => ?_)
                  refine v_iconst (q := 138) dX12_act_137 rfl ic_4 ?_
                  refine v_iload_n (q := 139) dX12_act_138 rfl rfl rfl ?_
                  refine v_imul (q := 140) dX12_act_139 rfl ?_
                  refine v_iconst (q := 141) dX12_act_140 rfl ic_2 ?_
                  refine v_iadd (q := 142) dX12_act_141 rfl ?_
                  refine v_iaload (q := 143) dX12_act_142 rfl (fun v21 => ?_)
                  exact hK v21
                · refine v_aload_n (q := 119) dX12_act_118 rfl rfl rfl ?_
                  refine v_getRb (q := 122) dX12_act_119 rfl fg_X12_59 (fun o22 => ?_)
                  refine v_iconst (q := 123) dX12_act_122 rfl ic_4 ?_
                  refine v_iload_n (q := 124) dX12_act_123 rfl rfl rfl ?_
                  refine v_imul (q := 125) dX12_act_124 rfl ?_
                  refine v_iconst (q := 126) dX12_act_125 rfl ic_2 ?_
                  refine v_iadd (q := 127) dX12_act_126 rfl ?_
                  refine v_iaload (q := 128) dX12_act_127 rfl (fun v23 => ?_)
                  refine v_iconst (q := 129) dX12_act_128 rfl ic_2 ?_
                  refine v_idivc (q := 130) dX12_act_129 rfl ne_2 ?_
                  refine v_goto (tgt := 143) dX12_act_130 rfl ?_
                  exact hK (v23 / (2 : Int32))
              · refine v_iastore (q := 144) dX12_act_143 rfl (fun M25 => ?_)
                refine v_iincL (q := 147) (x := v16) (cst := (1 : Int32)) (f := fun v26 => [some (.ref a0), some (.int x1), some (.int x2), some (.int v26)]) dX12_act_144 rfl rfl ic_1 rfl (Nat.le_of_ble_eq_true rfl) (fun _ => rfl) (fun v26 => ?_)
                refine v_goto (tgt := 92) dX12_act_147 rfl ?_
                exact v_inl (hk (M25, v26))
      · refine v_aload_n (q := 77) dX12_act_76 rfl rfl rfl ?_
        refine v_iload_n (q := 78) dX12_act_77 rfl rfl rfl ?_
        refine v_cMV1 (q := 81) (ct_X12_giveBack (d - 1) (by omega) _ _ _) dX12_act_78 rfl cc_X12_142 (by omega) (Nat.le_of_ble_eq_true rfl) ⟨Nat.le_of_ble_eq_true rfl, Nat.le_of_ble_eq_true rfl⟩ (fun M31 => ?_)
        refine v_goto (tgt := 209) dX12_act_81 rfl ?_
        exact hK M31
    · refine v_aload_n (q := 12) dX12_act_11 rfl rfl rfl ?_
      refine v_getRb (q := 15) dX12_act_12 rfl fg_X12_13 (fun o32 => ?_)
      refine v_iconst (q := 16) dX12_act_15 rfl ic_5 ?_
      refine v_aload_n (q := 17) dX12_act_16 rfl rfl rfl ?_
      refine v_getRb (q := 20) dX12_act_17 rfl fg_X12_47 (fun o33 => ?_)
      refine v_iload_n (q := 21) dX12_act_20 rfl rfl rfl ?_
      refine v_iaload (q := 22) dX12_act_21 rfl (fun v34 => ?_)
      refine v_imul (q := 23) dX12_act_22 rfl ?_
      refine v_iload_n (q := 24) dX12_act_23 rfl rfl rfl ?_
      refine v_iadd (q := 25) dX12_act_24 rfl ?_
      refine v_bipush (q := 27) dX12_act_25 rfl bp_48 ?_
      refine v_isub (q := 28) dX12_act_27 rfl ?_
      refine v_iaload (q := 29) dX12_act_28 rfl (fun v35 => ?_)
      refine v_istore_n (q := 30) (loc2 := [some (.ref a0), some (.int x1), some (.int x2), some (.int v35)]) dX12_act_29 rfl rfl rfl (Nat.le_of_ble_eq_true rfl) rfl ?_
      refine v_aload_n (q := 31) dX12_act_30 rfl rfl rfl ?_
      refine v_getRb (q := 34) dX12_act_31 rfl fg_X12_50 (fun o36 => ?_)
      refine v_iload_n (q := 35) dX12_act_34 rfl rfl rfl ?_
      refine v_aload_n (q := 36) dX12_act_35 rfl rfl rfl ?_
      refine v_getIb (q := 39) dX12_act_36 rfl fg_X12_119 (fun v37 => ?_)
      refine v_aload_n (q := 40) dX12_act_39 rfl rfl rfl ?_
      refine v_getIb (q := 43) dX12_act_40 rfl fg_X12_17 (fun v38 => ?_)
      refine v_irem (q := 44) dX12_act_43 rfl ?_
      refine v_bipush (q := 46) dX12_act_44 rfl bp_90 ?_
      refine v_join (γ := Int32) 56 (fun v39 => M) (fun v39 => [some (.ref a0), some (.int x1), some (.int x2), some (.int v35)]) (fun v39 => [.int v39, .int x1, .ref o36]) (fun K hK => ?_) (fun v39 => ?_)
      · refine v_icmp_ge (tgt := 55) (q := 49) dX12_act_46 rfl rfl ?_ ?_
        · refine v_iload_n (q := 56) dX12_act_55 rfl rfl rfl ?_
          exact hK v35
        · refine v_iconst (q := 50) dX12_act_49 rfl ic_2 ?_
          refine v_iload_n (q := 51) dX12_act_50 rfl rfl rfl ?_
          refine v_imul (q := 52) dX12_act_51 rfl ?_
          refine v_goto (tgt := 56) dX12_act_52 rfl ?_
          exact hK ((2 : Int32) * v35)
      · refine v_iastore (q := 57) dX12_act_56 rfl (fun M40 => ?_)
        refine v_aload_n (q := 58) dX12_act_57 rfl rfl rfl ?_
        refine v_getRb (q := 61) dX12_act_58 rfl fg_X12_47 (fun o41 => ?_)
        refine v_iload_n (q := 62) dX12_act_61 rfl rfl rfl ?_
        refine v_iload_n (q := 63) dX12_act_62 rfl rfl rfl ?_
        refine v_bipush (q := 65) dX12_act_63 rfl bp_48 ?_
        refine v_isub (q := 66) dX12_act_65 rfl ?_
        refine v_iastore (q := 67) dX12_act_66 rfl (fun M42 => ?_)
        refine v_goto (tgt := 209) dX12_act_67 rfl ?_
        exact v_weak (hK M42) ⟨rfl, ⟨rfl, ⟨rfl, trivial⟩⟩⟩
  · exact v_vret rfl dX12_act_209 ⟨Nat.le_of_ble_eq_true rfl, Nat.le_of_ble_eq_true rfl⟩ rfl
theorem ct_X12_act (d : Nat) (hd : 3 ≤ d) (a0 : Nat) (x1 : Int32) (x2 : Int32) (M : Me) (r : Me) (hf : f_X12_act a0 x1 x2 M = some r) : me_k M a0 = some (12, nf_c 12) ∧ Ct yX12_act mX12_act d 0 0 [.ref a0, .int x1, .int x2] M (none, r) := by
  obtain ⟨hk, hb⟩ := ck_some hf
  exact ⟨hk, ct_of (by decide +kernel) rfl rfl (Nat.le_of_ble_eq_true rfl) (vb_X12_act d hd a0 x1 x2 M) (by rw [hb]; rfl)⟩
theorem dX12_pass_0 : decode cX12_pass 0 = .ok (.iconst 0, 1) := by decide +kernel
theorem dX12_pass_1 : decode cX12_pass 1 = .ok (.istore_n 2, 1) := by decide +kernel
theorem dX12_pass_2 : decode cX12_pass 2 = .ok (.iload_n 2, 1) := by decide +kernel
theorem dX12_pass_3 : decode cX12_pass 3 = .ok (.iload_n 1, 1) := by decide +kernel
theorem dX12_pass_4 : decode cX12_pass 4 = .ok (.if_icmp .ge 114, 3) := by decide +kernel
theorem dX12_pass_7 : decode cX12_pass 7 = .ok (.aload_n 0, 1) := by decide +kernel
theorem dX12_pass_8 : decode cX12_pass 8 = .ok (.getfield 122, 3) := by decide +kernel
theorem dX12_pass_11 : decode cX12_pass 11 = .ok (.iconst 1, 1) := by decide +kernel
theorem dX12_pass_12 : decode cX12_pass 12 = .ok (.isub, 1) := by decide +kernel
theorem dX12_pass_13 : decode cX12_pass 13 = .ok (.istore_n 3, 1) := by decide +kernel
theorem dX12_pass_14 : decode cX12_pass 14 = .ok (.iload_n 3, 1) := by decide +kernel
theorem dX12_pass_15 : decode cX12_pass 15 = .ok (.ifCond .lt 50, 3) := by decide +kernel
theorem dX12_pass_18 : decode cX12_pass 18 = .ok (.aload_n 0, 1) := by decide +kernel
theorem dX12_pass_19 : decode cX12_pass 19 = .ok (.getfield 59, 3) := by decide +kernel
theorem dX12_pass_22 : decode cX12_pass 22 = .ok (.iconst 4, 1) := by decide +kernel
theorem dX12_pass_23 : decode cX12_pass 23 = .ok (.iload_n 3, 1) := by decide +kernel
theorem dX12_pass_24 : decode cX12_pass 24 = .ok (.imul, 1) := by decide +kernel
theorem dX12_pass_25 : decode cX12_pass 25 = .ok (.iconst 3, 1) := by decide +kernel
theorem dX12_pass_26 : decode cX12_pass 26 = .ok (.iadd, 1) := by decide +kernel
theorem dX12_pass_27 : decode cX12_pass 27 = .ok (.iaload, 1) := by decide +kernel
theorem dX12_pass_28 : decode cX12_pass 28 = .ok (.aload_n 0, 1) := by decide +kernel
theorem dX12_pass_29 : decode cX12_pass 29 = .ok (.getfield 119, 3) := by decide +kernel
theorem dX12_pass_32 : decode cX12_pass 32 = .ok (.if_icmp .ne 27, 3) := by decide +kernel
theorem dX12_pass_35 : decode cX12_pass 35 = .ok (.aload_n 0, 1) := by decide +kernel
theorem dX12_pass_36 : decode cX12_pass 36 = .ok (.getfield 56, 3) := by decide +kernel
theorem dX12_pass_39 : decode cX12_pass 39 = .ok (.aload_n 0, 1) := by decide +kernel
theorem dX12_pass_40 : decode cX12_pass 40 = .ok (.getfield 59, 3) := by decide +kernel
theorem dX12_pass_43 : decode cX12_pass 43 = .ok (.iconst 4, 1) := by decide +kernel
theorem dX12_pass_44 : decode cX12_pass 44 = .ok (.iload_n 3, 1) := by decide +kernel
theorem dX12_pass_45 : decode cX12_pass 45 = .ok (.imul, 1) := by decide +kernel
theorem dX12_pass_46 : decode cX12_pass 46 = .ok (.iconst 1, 1) := by decide +kernel
theorem dX12_pass_47 : decode cX12_pass 47 = .ok (.iadd, 1) := by decide +kernel
theorem dX12_pass_48 : decode cX12_pass 48 = .ok (.iaload, 1) := by decide +kernel
theorem dX12_pass_49 : decode cX12_pass 49 = .ok (.dup2, 1) := by decide +kernel
theorem dX12_pass_50 : decode cX12_pass 50 = .ok (.iaload, 1) := by decide +kernel
theorem dX12_pass_51 : decode cX12_pass 51 = .ok (.iconst 4, 1) := by decide +kernel
theorem dX12_pass_52 : decode cX12_pass 52 = .ok (.isub, 1) := by decide +kernel
theorem dX12_pass_53 : decode cX12_pass 53 = .ok (.iastore, 1) := by decide +kernel
theorem dX12_pass_54 : decode cX12_pass 54 = .ok (.aload_n 0, 1) := by decide +kernel
theorem dX12_pass_55 : decode cX12_pass 55 = .ok (.iload_n 3, 1) := by decide +kernel
theorem dX12_pass_56 : decode cX12_pass 56 = .ok (.invokevirtual 125, 3) := by decide +kernel
theorem dX12_pass_59 : decode cX12_pass 59 = .ok (.iinc 3 (-1), 3) := by decide +kernel
theorem dX12_pass_62 : decode cX12_pass 62 = .ok (.goto (-48), 3) := by decide +kernel
theorem dX12_pass_65 : decode cX12_pass 65 = .ok (.iconst 0, 1) := by decide +kernel
theorem dX12_pass_66 : decode cX12_pass 66 = .ok (.istore_n 3, 1) := by decide +kernel
theorem dX12_pass_67 : decode cX12_pass 67 = .ok (.iload_n 3, 1) := by decide +kernel
theorem dX12_pass_68 : decode cX12_pass 68 = .ok (.bipush 6, 2) := by decide +kernel
theorem dX12_pass_70 : decode cX12_pass 70 = .ok (.if_icmp .ge 32, 3) := by decide +kernel
theorem dX12_pass_73 : decode cX12_pass 73 = .ok (.aload_n 0, 1) := by decide +kernel
theorem dX12_pass_74 : decode cX12_pass 74 = .ok (.getfield 50, 3) := by decide +kernel
theorem dX12_pass_77 : decode cX12_pass 77 = .ok (.iload_n 3, 1) := by decide +kernel
theorem dX12_pass_78 : decode cX12_pass 78 = .ok (.dup2, 1) := by decide +kernel
theorem dX12_pass_79 : decode cX12_pass 79 = .ok (.iaload, 1) := by decide +kernel
theorem dX12_pass_80 : decode cX12_pass 80 = .ok (.aload_n 0, 1) := by decide +kernel
theorem dX12_pass_81 : decode cX12_pass 81 = .ok (.getfield 50, 3) := by decide +kernel
theorem dX12_pass_84 : decode cX12_pass 84 = .ok (.iload_n 3, 1) := by decide +kernel
theorem dX12_pass_85 : decode cX12_pass 85 = .ok (.iaload, 1) := by decide +kernel
theorem dX12_pass_86 : decode cX12_pass 86 = .ok (.ifCond .le 7, 3) := by decide +kernel
theorem dX12_pass_89 : decode cX12_pass 89 = .ok (.iconst 1, 1) := by decide +kernel
theorem dX12_pass_90 : decode cX12_pass 90 = .ok (.goto 4, 3) := by decide +kernel
theorem dX12_pass_93 : decode cX12_pass 93 = .ok (.iconst 0, 1) := by decide +kernel
theorem dX12_pass_94 : decode cX12_pass 94 = .ok (.isub, 1) := by decide +kernel
theorem dX12_pass_95 : decode cX12_pass 95 = .ok (.iastore, 1) := by decide +kernel
theorem dX12_pass_96 : decode cX12_pass 96 = .ok (.iinc 3 1, 3) := by decide +kernel
theorem dX12_pass_99 : decode cX12_pass 99 = .ok (.goto (-32), 3) := by decide +kernel
theorem dX12_pass_102 : decode cX12_pass 102 = .ok (.aload_n 0, 1) := by decide +kernel
theorem dX12_pass_103 : decode cX12_pass 103 = .ok (.dup, 1) := by decide +kernel
theorem dX12_pass_104 : decode cX12_pass 104 = .ok (.getfield 119, 3) := by decide +kernel
theorem dX12_pass_107 : decode cX12_pass 107 = .ok (.iconst 1, 1) := by decide +kernel
theorem dX12_pass_108 : decode cX12_pass 108 = .ok (.iadd, 1) := by decide +kernel
theorem dX12_pass_109 : decode cX12_pass 109 = .ok (.putfield 119, 3) := by decide +kernel
theorem dX12_pass_112 : decode cX12_pass 112 = .ok (.iinc 2 1, 3) := by decide +kernel
theorem dX12_pass_115 : decode cX12_pass 115 = .ok (.goto (-113), 3) := by decide +kernel
theorem dX12_pass_118 : decode cX12_pass 118 = .ok (.return_, 1) := by decide +kernel
noncomputable def s_X12_pass_14 (a0 : Nat) (M5 : Me) (v6 : Int32) : Option ((Me × Int32) ⊕ (Me × Int32)) :=
  if v6 < 0 then (
    some (Sum.inr (M5, v6))
  ) else (
    gr M5 a0 12 23 fun o7 =>
    li M5 o7 (((4 : Int32) * v6) + (3 : Int32)) fun v8 =>
    gi M5 a0 12 17 fun v9 =>
    (
      if v8 = v9 then (
        gr M5 a0 12 21 fun o10 =>
        gr M5 a0 12 23 fun o11 =>
        li M5 o11 (((4 : Int32) * v6) + (1 : Int32)) fun v12 =>
        li M5 o10 v12 fun v13 =>
        si M5 o10 v12 (v13 - (4 : Int32)) fun M14 =>
        cM (f_X12_forgive a0 v6 M14) fun M15 =>
        some M15
      ) else (
        some M5
      )
    ).bind fun M16 =>
    let_v (v6 + (-1 : Int32)) fun v17 =>
    some (Sum.inl (M16, v17))
  )
noncomputable def s_X12_pass_67 (a0 : Nat) (M19 : Me) (v20 : Int32) : Option ((Me × Int32) ⊕ (Me × Int32)) :=
  if (6 : Int32) ≤ v20 then (
    some (Sum.inr (M19, v20))
  ) else (
    gr M19 a0 12 19 fun o21 =>
    li M19 o21 v20 fun v22 =>
    gr M19 a0 12 19 fun o23 =>
    li M19 o23 v20 fun v24 =>
    (
      if v24 ≤ 0 then (
        some (0 : Int32)
      ) else (
        some (1 : Int32)
      )
    ).bind fun v25 =>
    si M19 o21 v20 (v22 - v25) fun M26 =>
    let_v (v20 + (1 : Int32)) fun v27 =>
    some (Sum.inl (M26, v27))
  )
noncomputable def s_X12_pass_2 (a0 : Nat) (x1 : Int32) (M1 : Me) (v2 : Int32) : Option ((Me × Int32) ⊕ (Me × Int32)) :=
  if x1 ≤ v2 then (
    some (Sum.inr (M1, v2))
  ) else (
    gi M1 a0 12 22 fun v3 =>
    let_v ((v3 - (1 : Int32))) fun v4 =>
    (lp (fun s => s_X12_pass_14 a0 s.1 s.2) (M1, v4)).bind fun e18 =>
    (lp (fun s => s_X12_pass_67 a0 s.1 s.2) (e18.1, (0 : Int32))).bind fun e28 =>
    gi e28.1 a0 12 17 fun v29 =>
    pi e28.1 a0 12 17 (v29 + (1 : Int32)) fun M30 =>
    let_v (v2 + (1 : Int32)) fun v31 =>
    some (Sum.inl (M30, v31))
  )
noncomputable def b_X12_pass (a0 : Nat) (x1 : Int32) (M : Me) : Option (Me) :=
  (lp (fun s => s_X12_pass_2 a0 x1 s.1 s.2) (M, (0 : Int32))).bind fun e32 =>
  some e32.1
noncomputable def f_X12_pass (a0 : Nat) (x1 : Int32) (M : Me) : Option (Me) := ck M a0 12 (b_X12_pass a0 x1 M)
set_option maxRecDepth 20000 in
theorem vb_X12_pass (d : Nat) (hd : 1 ≤ d) (a0 : Nat) (x1 : Int32) (M : Me) : V (mX12_pass, d, 0, 0) (0, 0) M 0 [some (.ref a0), some (.int x1), none, none] [] (b_X12_pass a0 x1 M) (fun M2 => some (none, M2)) := by
  unfold b_X12_pass
  refine v_iconst (q := 1) dX12_pass_0 rfl ic_0 ?_
  refine v_istore_n (q := 2) (loc2 := [some (.ref a0), some (.int x1), some (.int (0 : Int32)), none]) dX12_pass_1 rfl rfl rfl (Nat.le_of_ble_eq_true rfl) rfl ?_
  refine v_lps (S := Me × Int32) 118 (fun s => s.1) (fun s => [some (.ref a0), some (.int x1), some (.int s.2), none]) (fun e32 => e32.1) (fun e32 => [some (.ref a0), some (.int x1), some (.int e32.2), none]) (fun e32 => ?_) (fun k K hk hx s => ?_)
  · exact v_vret rfl dX12_pass_118 ⟨Nat.le_of_ble_eq_true rfl, Nat.le_of_ble_eq_true rfl⟩ rfl
  · obtain ⟨M1, v2⟩ := s
    show V _ _ M1 2 [some (.ref a0), some (.int x1), some (.int v2), none] [] (s_X12_pass_2 a0 x1 M1 v2) _
    unfold s_X12_pass_2
    refine v_iload_n (q := 3) dX12_pass_2 rfl rfl rfl ?_
    refine v_iload_n (q := 4) dX12_pass_3 rfl rfl rfl ?_
    refine v_icmp_ge (tgt := 118) (q := 7) dX12_pass_4 rfl rfl ?_ ?_
    · exact v_inr (hx (M1, v2))
    · refine v_aload_n (q := 8) dX12_pass_7 rfl rfl rfl ?_
      refine v_getIb (q := 11) dX12_pass_8 rfl fg_X12_122 (fun v3 => ?_)
      refine v_iconst (q := 12) dX12_pass_11 rfl ic_1 ?_
      refine v_isub (q := 13) dX12_pass_12 rfl ?_
      refine v_letI (fun v4 => ?_)
      refine v_istore_n (q := 14) (loc2 := [some (.ref a0), some (.int x1), some (.int v2), some (.int v4)]) dX12_pass_13 rfl rfl rfl (Nat.le_of_ble_eq_true rfl) rfl ?_
      refine v_lps (S := Me × Int32) 65 (fun s => s.1) (fun s => [some (.ref a0), some (.int x1), some (.int v2), some (.int s.2)]) (fun e18 => e18.1) (fun e18 => [some (.ref a0), some (.int x1), some (.int v2), some (.int e18.2)]) (fun e18 => ?_) (fun k K hk hx s => ?_)
      · refine v_iconst (q := 66) dX12_pass_65 rfl ic_0 ?_
        refine v_istore_n (q := 67) (loc2 := [some (.ref a0), some (.int x1), some (.int v2), some (.int (0 : Int32))]) dX12_pass_66 rfl rfl rfl (Nat.le_of_ble_eq_true rfl) rfl ?_
        refine v_lps (S := Me × Int32) 102 (fun s => s.1) (fun s => [some (.ref a0), some (.int x1), some (.int v2), some (.int s.2)]) (fun e28 => e28.1) (fun e28 => [some (.ref a0), some (.int x1), some (.int v2), some (.int e28.2)]) (fun e28 => ?_) (fun k K hk hx s => ?_)
        · refine v_aload_n (q := 103) dX12_pass_102 rfl rfl rfl ?_
          refine v_dup (q := 104) dX12_pass_103 rfl rfl ?_
          refine v_getIb (q := 107) dX12_pass_104 rfl fg_X12_119 (fun v29 => ?_)
          refine v_iconst (q := 108) dX12_pass_107 rfl ic_1 ?_
          refine v_iadd (q := 109) dX12_pass_108 rfl ?_
          refine v_putIb (q := 112) dX12_pass_109 rfl fp_X12_119 (fun M30 => ?_)
          refine v_iincL (q := 115) (x := v2) (cst := (1 : Int32)) (f := fun v31 => [some (.ref a0), some (.int x1), some (.int v31), some (.int e28.2)]) dX12_pass_112 rfl rfl ic_1 rfl (Nat.le_of_ble_eq_true rfl) (fun _ => rfl) (fun v31 => ?_)
          refine v_goto (tgt := 2) dX12_pass_115 rfl ?_
          exact v_inl (v_weak (hk (M30, v31)) ⟨rfl, ⟨rfl, ⟨rfl, trivial⟩⟩⟩)
        · obtain ⟨M19, v20⟩ := s
          show V _ _ M19 67 [some (.ref a0), some (.int x1), some (.int v2), some (.int v20)] [] (s_X12_pass_67 a0 M19 v20) _
          unfold s_X12_pass_67
          refine v_iload_n (q := 68) dX12_pass_67 rfl rfl rfl ?_
          refine v_bipush (q := 70) dX12_pass_68 rfl bp_6 ?_
          refine v_icmp_ge (tgt := 102) (q := 73) dX12_pass_70 rfl rfl ?_ ?_
          · exact v_inr (hx (M19, v20))
          · refine v_aload_n (q := 74) dX12_pass_73 rfl rfl rfl ?_
            refine v_getRb (q := 77) dX12_pass_74 rfl fg_X12_50 (fun o21 => ?_)
            refine v_iload_n (q := 78) dX12_pass_77 rfl rfl rfl ?_
            refine v_dup2 (q := 79) dX12_pass_78 rfl rfl rfl ?_
            refine v_iaload (q := 80) dX12_pass_79 rfl (fun v22 => ?_)
            refine v_aload_n (q := 81) dX12_pass_80 rfl rfl rfl ?_
            refine v_getRb (q := 84) dX12_pass_81 rfl fg_X12_50 (fun o23 => ?_)
            refine v_iload_n (q := 85) dX12_pass_84 rfl rfl rfl ?_
            refine v_iaload (q := 86) dX12_pass_85 rfl (fun v24 => ?_)
            refine v_join (γ := Int32) 94 (fun v25 => M19) (fun v25 => [some (.ref a0), some (.int x1), some (.int v2), some (.int v20)]) (fun v25 => [.int v25, .int v22, .int v20, .ref o21]) (fun K hK => ?_) (fun v25 => ?_)
            · refine v_if_le (tgt := 93) (q := 89) dX12_pass_86 rfl rfl ?_ ?_
              · refine v_iconst (q := 94) dX12_pass_93 rfl ic_0 ?_
                exact hK (0 : Int32)
              · refine v_iconst (q := 90) dX12_pass_89 rfl ic_1 ?_
                refine v_goto (tgt := 94) dX12_pass_90 rfl ?_
                exact hK (1 : Int32)
            · refine v_isub (q := 95) dX12_pass_94 rfl ?_
              refine v_iastore (q := 96) dX12_pass_95 rfl (fun M26 => ?_)
              refine v_iincL (q := 99) (x := v20) (cst := (1 : Int32)) (f := fun v27 => [some (.ref a0), some (.int x1), some (.int v2), some (.int v27)]) dX12_pass_96 rfl rfl ic_1 rfl (Nat.le_of_ble_eq_true rfl) (fun _ => rfl) (fun v27 => ?_)
              refine v_goto (tgt := 67) dX12_pass_99 rfl ?_
              exact v_inl (hk (M26, v27))
      · obtain ⟨M5, v6⟩ := s
        show V _ _ M5 14 [some (.ref a0), some (.int x1), some (.int v2), some (.int v6)] [] (s_X12_pass_14 a0 M5 v6) _
        unfold s_X12_pass_14
        refine v_iload_n (q := 15) dX12_pass_14 rfl rfl rfl ?_
        refine v_if_lt (tgt := 65) (q := 18) dX12_pass_15 rfl rfl ?_ ?_
        · exact v_inr (hx (M5, v6))
        · refine v_aload_n (q := 19) dX12_pass_18 rfl rfl rfl ?_
          refine v_getRb (q := 22) dX12_pass_19 rfl fg_X12_59 (fun o7 => ?_)
          refine v_iconst (q := 23) dX12_pass_22 rfl ic_4 ?_
          refine v_iload_n (q := 24) dX12_pass_23 rfl rfl rfl ?_
          refine v_imul (q := 25) dX12_pass_24 rfl ?_
          refine v_iconst (q := 26) dX12_pass_25 rfl ic_3 ?_
          refine v_iadd (q := 27) dX12_pass_26 rfl ?_
          refine v_iaload (q := 28) dX12_pass_27 rfl (fun v8 => ?_)
          refine v_aload_n (q := 29) dX12_pass_28 rfl rfl rfl ?_
          refine v_getIb (q := 32) dX12_pass_29 rfl fg_X12_119 (fun v9 => ?_)
          refine v_join (γ := Me) 59 (fun M16 => M16) (fun M16 => [some (.ref a0), some (.int x1), some (.int v2), some (.int v6)]) (fun M16 => []) (fun K hK => ?_) (fun M16 => ?_)
          · refine v_icmp_ne (tgt := 59) (q := 35) dX12_pass_32 rfl rfl ?_ ?_
            · exact hK M5
            · refine v_aload_n (q := 36) dX12_pass_35 rfl rfl rfl ?_
              refine v_getRb (q := 39) dX12_pass_36 rfl fg_X12_56 (fun o10 => ?_)
              refine v_aload_n (q := 40) dX12_pass_39 rfl rfl rfl ?_
              refine v_getRb (q := 43) dX12_pass_40 rfl fg_X12_59 (fun o11 => ?_)
              refine v_iconst (q := 44) dX12_pass_43 rfl ic_4 ?_
              refine v_iload_n (q := 45) dX12_pass_44 rfl rfl rfl ?_
              refine v_imul (q := 46) dX12_pass_45 rfl ?_
              refine v_iconst (q := 47) dX12_pass_46 rfl ic_1 ?_
              refine v_iadd (q := 48) dX12_pass_47 rfl ?_
              refine v_iaload (q := 49) dX12_pass_48 rfl (fun v12 => ?_)
              refine v_dup2 (q := 50) dX12_pass_49 rfl rfl rfl ?_
              refine v_iaload (q := 51) dX12_pass_50 rfl (fun v13 => ?_)
              refine v_iconst (q := 52) dX12_pass_51 rfl ic_4 ?_
              refine v_isub (q := 53) dX12_pass_52 rfl ?_
              refine v_iastore (q := 54) dX12_pass_53 rfl (fun M14 => ?_)
              refine v_aload_n (q := 55) dX12_pass_54 rfl rfl rfl ?_
              refine v_iload_n (q := 56) dX12_pass_55 rfl rfl rfl ?_
              refine v_cMV1 (q := 59) (ct_X12_forgive (d - 1) (by omega) _ _ _) dX12_pass_56 rfl cc_X12_125 (by omega) (Nat.le_of_ble_eq_true rfl) ⟨Nat.le_of_ble_eq_true rfl, Nat.le_of_ble_eq_true rfl⟩ (fun M15 => ?_)
              exact hK M15
          · refine v_iincL (q := 62) (x := v6) (cst := (-1 : Int32)) (f := fun v17 => [some (.ref a0), some (.int x1), some (.int v2), some (.int v17)]) dX12_pass_59 rfl rfl ic_m1 rfl (Nat.le_of_ble_eq_true rfl) (fun _ => rfl) (fun v17 => ?_)
            refine v_goto (tgt := 14) dX12_pass_62 rfl ?_
            exact v_inl (hk (M16, v17))
theorem ct_X12_pass (d : Nat) (hd : 1 ≤ d) (a0 : Nat) (x1 : Int32) (M : Me) (r : Me) (hf : f_X12_pass a0 x1 M = some r) : me_k M a0 = some (12, nf_c 12) ∧ Ct yX12_pass mX12_pass d 0 0 [.ref a0, .int x1] M (none, r) := by
  obtain ⟨hk, hb⟩ := ck_some hf
  exact ⟨hk, ct_of (by decide +kernel) rfl rfl (Nat.le_of_ble_eq_true rfl) (vb_X12_pass d hd a0 x1 M) (by rw [hb]; rfl)⟩
theorem dX12_goCourt_0 : decode cX12_goCourt 0 = .ok (.aload_n 0, 1) := by decide +kernel
theorem dX12_goCourt_1 : decode cX12_goCourt 1 = .ok (.invokevirtual 145, 3) := by decide +kernel
theorem dX12_goCourt_4 : decode cX12_goCourt 4 = .ok (.aload_n 0, 1) := by decide +kernel
theorem dX12_goCourt_5 : decode cX12_goCourt 5 = .ok (.iconst 0, 1) := by decide +kernel
theorem dX12_goCourt_6 : decode cX12_goCourt 6 = .ok (.putfield 148, 3) := by decide +kernel
theorem dX12_goCourt_9 : decode cX12_goCourt 9 = .ok (.iconst 0, 1) := by decide +kernel
theorem dX12_goCourt_10 : decode cX12_goCourt 10 = .ok (.istore_n 1, 1) := by decide +kernel
theorem dX12_goCourt_11 : decode cX12_goCourt 11 = .ok (.iload_n 1, 1) := by decide +kernel
theorem dX12_goCourt_12 : decode cX12_goCourt 12 = .ok (.aload_n 0, 1) := by decide +kernel
theorem dX12_goCourt_13 : decode cX12_goCourt 13 = .ok (.getfield 109, 3) := by decide +kernel
theorem dX12_goCourt_16 : decode cX12_goCourt 16 = .ok (.if_icmp .ge 226, 3) := by decide +kernel
theorem dX12_goCourt_19 : decode cX12_goCourt 19 = .ok (.aload_n 0, 1) := by decide +kernel
theorem dX12_goCourt_20 : decode cX12_goCourt 20 = .ok (.getfield 44, 3) := by decide +kernel
theorem dX12_goCourt_23 : decode cX12_goCourt 23 = .ok (.iload_n 1, 1) := by decide +kernel
theorem dX12_goCourt_24 : decode cX12_goCourt 24 = .ok (.iaload, 1) := by decide +kernel
theorem dX12_goCourt_25 : decode cX12_goCourt 25 = .ok (.invokestatic 112, 3) := by decide +kernel
theorem dX12_goCourt_28 : decode cX12_goCourt 28 = .ok (.istore_n 2, 1) := by decide +kernel
theorem dX12_goCourt_29 : decode cX12_goCourt 29 = .ok (.aload_n 0, 1) := by decide +kernel
theorem dX12_goCourt_30 : decode cX12_goCourt 30 = .ok (.iconst 0, 1) := by decide +kernel
theorem dX12_goCourt_31 : decode cX12_goCourt 31 = .ok (.putfield 151, 3) := by decide +kernel
theorem dX12_goCourt_34 : decode cX12_goCourt 34 = .ok (.iload_n 2, 1) := by decide +kernel
theorem dX12_goCourt_35 : decode cX12_goCourt 35 = .ok (.ifCond .le 14, 3) := by decide +kernel
theorem dX12_goCourt_38 : decode cX12_goCourt 38 = .ok (.aload_n 0, 1) := by decide +kernel
theorem dX12_goCourt_39 : decode cX12_goCourt 39 = .ok (.iload_n 2, 1) := by decide +kernel
theorem dX12_goCourt_40 : decode cX12_goCourt 40 = .ok (.invokevirtual 154, 3) := by decide +kernel
theorem dX12_goCourt_43 : decode cX12_goCourt 43 = .ok (.iinc 1 1, 3) := by decide +kernel
theorem dX12_goCourt_46 : decode cX12_goCourt 46 = .ok (.goto 171, 3) := by decide +kernel
theorem dX12_goCourt_49 : decode cX12_goCourt 49 = .ok (.aload_n 0, 1) := by decide +kernel
theorem dX12_goCourt_50 : decode cX12_goCourt 50 = .ok (.getfield 44, 3) := by decide +kernel
theorem dX12_goCourt_53 : decode cX12_goCourt 53 = .ok (.iload_n 1, 1) := by decide +kernel
theorem dX12_goCourt_54 : decode cX12_goCourt 54 = .ok (.iconst 1, 1) := by decide +kernel
theorem dX12_goCourt_55 : decode cX12_goCourt 55 = .ok (.iadd, 1) := by decide +kernel
theorem dX12_goCourt_56 : decode cX12_goCourt 56 = .ok (.iaload, 1) := by decide +kernel
theorem dX12_goCourt_57 : decode cX12_goCourt 57 = .ok (.bipush 65, 2) := by decide +kernel
theorem dX12_goCourt_59 : decode cX12_goCourt 59 = .ok (.bipush 70, 2) := by decide +kernel
theorem dX12_goCourt_61 : decode cX12_goCourt 61 = .ok (.invokestatic 81, 3) := by decide +kernel
theorem dX12_goCourt_64 : decode cX12_goCourt 64 = .ok (.ifCond .eq 97, 3) := by decide +kernel
theorem dX12_goCourt_67 : decode cX12_goCourt 67 = .ok (.bipush 10, 2) := by decide +kernel
theorem dX12_goCourt_69 : decode cX12_goCourt 69 = .ok (.aload_n 0, 1) := by decide +kernel
theorem dX12_goCourt_70 : decode cX12_goCourt 70 = .ok (.getfield 44, 3) := by decide +kernel
theorem dX12_goCourt_73 : decode cX12_goCourt 73 = .ok (.iload_n 1, 1) := by decide +kernel
theorem dX12_goCourt_74 : decode cX12_goCourt 74 = .ok (.iconst 2, 1) := by decide +kernel
theorem dX12_goCourt_75 : decode cX12_goCourt 75 = .ok (.iadd, 1) := by decide +kernel
theorem dX12_goCourt_76 : decode cX12_goCourt 76 = .ok (.iaload, 1) := by decide +kernel
theorem dX12_goCourt_77 : decode cX12_goCourt 77 = .ok (.bipush 48, 2) := by decide +kernel
theorem dX12_goCourt_79 : decode cX12_goCourt 79 = .ok (.isub, 1) := by decide +kernel
theorem dX12_goCourt_80 : decode cX12_goCourt 80 = .ok (.imul, 1) := by decide +kernel
theorem dX12_goCourt_81 : decode cX12_goCourt 81 = .ok (.aload_n 0, 1) := by decide +kernel
theorem dX12_goCourt_82 : decode cX12_goCourt 82 = .ok (.getfield 44, 3) := by decide +kernel
theorem dX12_goCourt_85 : decode cX12_goCourt 85 = .ok (.iload_n 1, 1) := by decide +kernel
theorem dX12_goCourt_86 : decode cX12_goCourt 86 = .ok (.iconst 3, 1) := by decide +kernel
theorem dX12_goCourt_87 : decode cX12_goCourt 87 = .ok (.iadd, 1) := by decide +kernel
theorem dX12_goCourt_88 : decode cX12_goCourt 88 = .ok (.iaload, 1) := by decide +kernel
theorem dX12_goCourt_89 : decode cX12_goCourt 89 = .ok (.iadd, 1) := by decide +kernel
theorem dX12_goCourt_90 : decode cX12_goCourt 90 = .ok (.bipush 48, 2) := by decide +kernel
theorem dX12_goCourt_92 : decode cX12_goCourt 92 = .ok (.isub, 1) := by decide +kernel
theorem dX12_goCourt_93 : decode cX12_goCourt 93 = .ok (.istore_n 3, 1) := by decide +kernel
theorem dX12_goCourt_94 : decode cX12_goCourt 94 = .ok (.aload_n 0, 1) := by decide +kernel
theorem dX12_goCourt_95 : decode cX12_goCourt 95 = .ok (.aload_n 0, 1) := by decide +kernel
theorem dX12_goCourt_96 : decode cX12_goCourt 96 = .ok (.aload_n 0, 1) := by decide +kernel
theorem dX12_goCourt_97 : decode cX12_goCourt 97 = .ok (.getfield 44, 3) := by decide +kernel
theorem dX12_goCourt_100 : decode cX12_goCourt 100 = .ok (.iload_n 1, 1) := by decide +kernel
theorem dX12_goCourt_101 : decode cX12_goCourt 101 = .ok (.iaload, 1) := by decide +kernel
theorem dX12_goCourt_102 : decode cX12_goCourt 102 = .ok (.bipush 65, 2) := by decide +kernel
theorem dX12_goCourt_104 : decode cX12_goCourt 104 = .ok (.isub, 1) := by decide +kernel
theorem dX12_goCourt_105 : decode cX12_goCourt 105 = .ok (.aload_n 0, 1) := by decide +kernel
theorem dX12_goCourt_106 : decode cX12_goCourt 106 = .ok (.getfield 44, 3) := by decide +kernel
theorem dX12_goCourt_109 : decode cX12_goCourt 109 = .ok (.iload_n 1, 1) := by decide +kernel
theorem dX12_goCourt_110 : decode cX12_goCourt 110 = .ok (.iconst 1, 1) := by decide +kernel
theorem dX12_goCourt_111 : decode cX12_goCourt 111 = .ok (.iadd, 1) := by decide +kernel
theorem dX12_goCourt_112 : decode cX12_goCourt 112 = .ok (.iaload, 1) := by decide +kernel
theorem dX12_goCourt_113 : decode cX12_goCourt 113 = .ok (.bipush 65, 2) := by decide +kernel
theorem dX12_goCourt_115 : decode cX12_goCourt 115 = .ok (.isub, 1) := by decide +kernel
theorem dX12_goCourt_116 : decode cX12_goCourt 116 = .ok (.iload_n 3, 1) := by decide +kernel
theorem dX12_goCourt_117 : decode cX12_goCourt 117 = .ok (.invokevirtual 157, 3) := by decide +kernel
theorem dX12_goCourt_120 : decode cX12_goCourt 120 = .ok (.putfield 151, 3) := by decide +kernel
theorem dX12_goCourt_123 : decode cX12_goCourt 123 = .ok (.aload_n 0, 1) := by decide +kernel
theorem dX12_goCourt_124 : decode cX12_goCourt 124 = .ok (.getfield 151, 3) := by decide +kernel
theorem dX12_goCourt_127 : decode cX12_goCourt 127 = .ok (.ifCond .ne 28, 3) := by decide +kernel
theorem dX12_goCourt_130 : decode cX12_goCourt 130 = .ok (.aload_n 0, 1) := by decide +kernel
theorem dX12_goCourt_131 : decode cX12_goCourt 131 = .ok (.aload_n 0, 1) := by decide +kernel
theorem dX12_goCourt_132 : decode cX12_goCourt 132 = .ok (.getfield 44, 3) := by decide +kernel
theorem dX12_goCourt_135 : decode cX12_goCourt 135 = .ok (.iload_n 1, 1) := by decide +kernel
theorem dX12_goCourt_136 : decode cX12_goCourt 136 = .ok (.iaload, 1) := by decide +kernel
theorem dX12_goCourt_137 : decode cX12_goCourt 137 = .ok (.bipush 65, 2) := by decide +kernel
theorem dX12_goCourt_139 : decode cX12_goCourt 139 = .ok (.isub, 1) := by decide +kernel
theorem dX12_goCourt_140 : decode cX12_goCourt 140 = .ok (.aload_n 0, 1) := by decide +kernel
theorem dX12_goCourt_141 : decode cX12_goCourt 141 = .ok (.getfield 44, 3) := by decide +kernel
theorem dX12_goCourt_144 : decode cX12_goCourt 144 = .ok (.iload_n 1, 1) := by decide +kernel
theorem dX12_goCourt_145 : decode cX12_goCourt 145 = .ok (.iconst 1, 1) := by decide +kernel
theorem dX12_goCourt_146 : decode cX12_goCourt 146 = .ok (.iadd, 1) := by decide +kernel
theorem dX12_goCourt_147 : decode cX12_goCourt 147 = .ok (.iaload, 1) := by decide +kernel
theorem dX12_goCourt_148 : decode cX12_goCourt 148 = .ok (.bipush 65, 2) := by decide +kernel
theorem dX12_goCourt_150 : decode cX12_goCourt 150 = .ok (.isub, 1) := by decide +kernel
theorem dX12_goCourt_151 : decode cX12_goCourt 151 = .ok (.iload_n 3, 1) := by decide +kernel
theorem dX12_goCourt_152 : decode cX12_goCourt 152 = .ok (.invokevirtual 161, 3) := by decide +kernel
theorem dX12_goCourt_155 : decode cX12_goCourt 155 = .ok (.iinc 1 4, 3) := by decide +kernel
theorem dX12_goCourt_158 : decode cX12_goCourt 158 = .ok (.goto 59, 3) := by decide +kernel
theorem dX12_goCourt_161 : decode cX12_goCourt 161 = .ok (.aload_n 0, 1) := by decide +kernel
theorem dX12_goCourt_162 : decode cX12_goCourt 162 = .ok (.aload_n 0, 1) := by decide +kernel
theorem dX12_goCourt_163 : decode cX12_goCourt 163 = .ok (.aload_n 0, 1) := by decide +kernel
theorem dX12_goCourt_164 : decode cX12_goCourt 164 = .ok (.getfield 44, 3) := by decide +kernel
theorem dX12_goCourt_167 : decode cX12_goCourt 167 = .ok (.iload_n 1, 1) := by decide +kernel
theorem dX12_goCourt_168 : decode cX12_goCourt 168 = .ok (.iaload, 1) := by decide +kernel
theorem dX12_goCourt_169 : decode cX12_goCourt 169 = .ok (.bipush 65, 2) := by decide +kernel
theorem dX12_goCourt_171 : decode cX12_goCourt 171 = .ok (.isub, 1) := by decide +kernel
theorem dX12_goCourt_172 : decode cX12_goCourt 172 = .ok (.aload_n 0, 1) := by decide +kernel
theorem dX12_goCourt_173 : decode cX12_goCourt 173 = .ok (.getfield 44, 3) := by decide +kernel
theorem dX12_goCourt_176 : decode cX12_goCourt 176 = .ok (.iload_n 1, 1) := by decide +kernel
theorem dX12_goCourt_177 : decode cX12_goCourt 177 = .ok (.iconst 1, 1) := by decide +kernel
theorem dX12_goCourt_178 : decode cX12_goCourt 178 = .ok (.iadd, 1) := by decide +kernel
theorem dX12_goCourt_179 : decode cX12_goCourt 179 = .ok (.iaload, 1) := by decide +kernel
theorem dX12_goCourt_180 : decode cX12_goCourt 180 = .ok (.invokevirtual 165, 3) := by decide +kernel
theorem dX12_goCourt_183 : decode cX12_goCourt 183 = .ok (.putfield 151, 3) := by decide +kernel
theorem dX12_goCourt_186 : decode cX12_goCourt 186 = .ok (.aload_n 0, 1) := by decide +kernel
theorem dX12_goCourt_187 : decode cX12_goCourt 187 = .ok (.getfield 151, 3) := by decide +kernel
theorem dX12_goCourt_190 : decode cX12_goCourt 190 = .ok (.ifCond .ne 24, 3) := by decide +kernel
theorem dX12_goCourt_193 : decode cX12_goCourt 193 = .ok (.aload_n 0, 1) := by decide +kernel
theorem dX12_goCourt_194 : decode cX12_goCourt 194 = .ok (.aload_n 0, 1) := by decide +kernel
theorem dX12_goCourt_195 : decode cX12_goCourt 195 = .ok (.getfield 44, 3) := by decide +kernel
theorem dX12_goCourt_198 : decode cX12_goCourt 198 = .ok (.iload_n 1, 1) := by decide +kernel
theorem dX12_goCourt_199 : decode cX12_goCourt 199 = .ok (.iaload, 1) := by decide +kernel
theorem dX12_goCourt_200 : decode cX12_goCourt 200 = .ok (.bipush 65, 2) := by decide +kernel
theorem dX12_goCourt_202 : decode cX12_goCourt 202 = .ok (.isub, 1) := by decide +kernel
theorem dX12_goCourt_203 : decode cX12_goCourt 203 = .ok (.aload_n 0, 1) := by decide +kernel
theorem dX12_goCourt_204 : decode cX12_goCourt 204 = .ok (.getfield 44, 3) := by decide +kernel
theorem dX12_goCourt_207 : decode cX12_goCourt 207 = .ok (.iload_n 1, 1) := by decide +kernel
theorem dX12_goCourt_208 : decode cX12_goCourt 208 = .ok (.iconst 1, 1) := by decide +kernel
theorem dX12_goCourt_209 : decode cX12_goCourt 209 = .ok (.iadd, 1) := by decide +kernel
theorem dX12_goCourt_210 : decode cX12_goCourt 210 = .ok (.iaload, 1) := by decide +kernel
theorem dX12_goCourt_211 : decode cX12_goCourt 211 = .ok (.invokevirtual 169, 3) := by decide +kernel
theorem dX12_goCourt_214 : decode cX12_goCourt 214 = .ok (.iinc 1 2, 3) := by decide +kernel
theorem dX12_goCourt_217 : decode cX12_goCourt 217 = .ok (.aload_n 0, 1) := by decide +kernel
theorem dX12_goCourt_218 : decode cX12_goCourt 218 = .ok (.getfield 151, 3) := by decide +kernel
theorem dX12_goCourt_221 : decode cX12_goCourt 221 = .ok (.ifCond .le 8, 3) := by decide +kernel
theorem dX12_goCourt_224 : decode cX12_goCourt 224 = .ok (.aload_n 0, 1) := by decide +kernel
theorem dX12_goCourt_225 : decode cX12_goCourt 225 = .ok (.getfield 148, 3) := by decide +kernel
theorem dX12_goCourt_228 : decode cX12_goCourt 228 = .ok (.ireturn, 1) := by decide +kernel
theorem dX12_goCourt_229 : decode cX12_goCourt 229 = .ok (.aload_n 0, 1) := by decide +kernel
theorem dX12_goCourt_230 : decode cX12_goCourt 230 = .ok (.dup, 1) := by decide +kernel
theorem dX12_goCourt_231 : decode cX12_goCourt 231 = .ok (.getfield 148, 3) := by decide +kernel
theorem dX12_goCourt_234 : decode cX12_goCourt 234 = .ok (.iconst 1, 1) := by decide +kernel
theorem dX12_goCourt_235 : decode cX12_goCourt 235 = .ok (.iadd, 1) := by decide +kernel
theorem dX12_goCourt_236 : decode cX12_goCourt 236 = .ok (.putfield 148, 3) := by decide +kernel
theorem dX12_goCourt_239 : decode cX12_goCourt 239 = .ok (.goto (-228), 3) := by decide +kernel
theorem dX12_goCourt_242 : decode cX12_goCourt 242 = .ok (.bipush (-6), 2) := by decide +kernel
theorem dX12_goCourt_244 : decode cX12_goCourt 244 = .ok (.ireturn, 1) := by decide +kernel
noncomputable def s_X12_goCourt_11 (a0 : Nat) (M3 : Me) (v4 : Int32) : Option ((Me × Int32) ⊕ ((Me × Int32) ⊕ (Int32 × Me))) :=
  gi M3 a0 12 15 fun v5 =>
  if v5 ≤ v4 then (
    some (Sum.inr (Sum.inl (M3, v4)))
  ) else (
    gr M3 a0 12 16 fun o6 =>
    li M3 o6 v4 fun v7 =>
    cP (f_X12_daysOf v7 M3) fun v8 =>
    pi M3 a0 12 24 (0 : Int32) fun M9 =>
    (
      if v8 ≤ 0 then (
        gr M9 a0 12 16 fun o10 =>
        li M9 o10 (v4 + (1 : Int32)) fun v11 =>
        cP (f_X12_in v11 (65 : Int32) (70 : Int32) M9) fun v12 =>
        if v12 = 0 then (
          gr M9 a0 12 16 fun o13 =>
          li M9 o13 v4 fun v14 =>
          gr M9 a0 12 16 fun o15 =>
          li M9 o15 (v4 + (1 : Int32)) fun v16 =>
          cP (f_X12_whyNot a0 (v14 - (65 : Int32)) v16 M9) fun v17 =>
          pi M9 a0 12 24 v17 fun M18 =>
          gi M18 a0 12 24 fun v19 =>
          (
            if v19 = 0 then (
              gr M18 a0 12 16 fun o20 =>
              li M18 o20 v4 fun v21 =>
              gr M18 a0 12 16 fun o22 =>
              li M18 o22 (v4 + (1 : Int32)) fun v23 =>
              cM (f_X12_act a0 (v21 - (65 : Int32)) v23 M18) fun M24 =>
              some M24
            ) else (
              some M18
            )
          ).bind fun M25 =>
          let_v (v4 + (2 : Int32)) fun v26 =>
          some (M25, v26)
        ) else (
          gr M9 a0 12 16 fun o27 =>
          li M9 o27 (v4 + (2 : Int32)) fun v28 =>
          gr M9 a0 12 16 fun o29 =>
          li M9 o29 (v4 + (3 : Int32)) fun v30 =>
          let_v (((((10 : Int32) * (v28 - (48 : Int32))) + v30) - (48 : Int32))) fun v31 =>
          gr M9 a0 12 16 fun o32 =>
          li M9 o32 v4 fun v33 =>
          gr M9 a0 12 16 fun o34 =>
          li M9 o34 (v4 + (1 : Int32)) fun v35 =>
          cP (f_X12_whyNotStrike a0 (v33 - (65 : Int32)) (v35 - (65 : Int32)) v31 M9) fun v36 =>
          pi M9 a0 12 24 v36 fun M37 =>
          gi M37 a0 12 24 fun v38 =>
          (
            if v38 = 0 then (
              gr M37 a0 12 16 fun o39 =>
              li M37 o39 v4 fun v40 =>
              gr M37 a0 12 16 fun o41 =>
              li M37 o41 (v4 + (1 : Int32)) fun v42 =>
              cM (f_X12_hit a0 (v40 - (65 : Int32)) (v42 - (65 : Int32)) v31 M37) fun M43 =>
              some M43
            ) else (
              some M37
            )
          ).bind fun M44 =>
          let_v (v4 + (4 : Int32)) fun v45 =>
          some (M44, v45)
        )
      ) else (
        cM (f_X12_pass a0 v8 M9) fun M46 =>
        let_v (v4 + (1 : Int32)) fun v47 =>
        some (M46, v47)
      )
    ).bind fun q48 =>
    gi q48.1 a0 12 24 fun v49 =>
    if v49 ≤ 0 then (
      gi q48.1 a0 12 25 fun v50 =>
      pi q48.1 a0 12 25 (v50 + (1 : Int32)) fun M51 =>
      some (Sum.inl (M51, q48.2))
    ) else (
      gi q48.1 a0 12 25 fun v52 =>
      some (Sum.inr (Sum.inr (v52, q48.1)))
    )
  )
noncomputable def b_X12_goCourt (a0 : Nat) (M : Me) : Option (Int32 × Me) :=
  cM (f_X12_asNow a0 M) fun M1 =>
  pi M1 a0 12 25 (0 : Int32) fun M2 =>
  ex_r (lp (fun s => s_X12_goCourt_11 a0 s.1 s.2) (M2, (0 : Int32))) (fun e53 =>
    some ((-6 : Int32), e53.1)
  ) (fun t => some t)
noncomputable def f_X12_goCourt (a0 : Nat) (M : Me) : Option (Int32 × Me) := ck M a0 12 (b_X12_goCourt a0 M)
set_option maxRecDepth 20000 in
theorem vb_X12_goCourt (d : Nat) (hd : 4 ≤ d) (a0 : Nat) (M : Me) : V (mX12_goCourt, d, 0, 0) (0, 0) M 0 [some (.ref a0), none, none, none] [] (b_X12_goCourt a0 M) (fun z => some (some (.int z.1), z.2)) := by
  unfold b_X12_goCourt
  refine v_aload_n (q := 1) dX12_goCourt_0 rfl rfl rfl ?_
  refine v_cMV0 (q := 4) (ct_X12_asNow (d - 1) (by omega) _ _) dX12_goCourt_1 rfl cc_X12_145 (by omega) (Nat.le_of_ble_eq_true rfl) ⟨Nat.le_of_ble_eq_true rfl, Nat.le_of_ble_eq_true rfl⟩ (fun M1 => ?_)
  refine v_aload_n (q := 5) dX12_goCourt_4 rfl rfl rfl ?_
  refine v_iconst (q := 6) dX12_goCourt_5 rfl ic_0 ?_
  refine v_putIb (q := 9) dX12_goCourt_6 rfl fp_X12_148 (fun M2 => ?_)
  refine v_iconst (q := 10) dX12_goCourt_9 rfl ic_0 ?_
  refine v_istore_n (q := 11) (loc2 := [some (.ref a0), some (.int (0 : Int32)), none, none]) dX12_goCourt_10 rfl rfl rfl (Nat.le_of_ble_eq_true rfl) rfl ?_
  refine v_lpr (S := Me × Int32) 242 (fun s => s.1) (fun s => [some (.ref a0), some (.int s.2), none, none]) (fun e53 => e53.1) (fun e53 => [some (.ref a0), some (.int e53.2), none, none]) (fun e53 => ?_) (fun k K hk hx s => ?_)
  · refine v_bipush (q := 244) dX12_goCourt_242 rfl bp_m6 ?_
    exact v_iret rfl dX12_goCourt_244 ⟨Nat.le_of_ble_eq_true rfl, Nat.le_of_ble_eq_true rfl⟩ rfl
  · obtain ⟨M3, v4⟩ := s
    show V _ _ M3 11 [some (.ref a0), some (.int v4), none, none] [] (s_X12_goCourt_11 a0 M3 v4) _
    unfold s_X12_goCourt_11
    refine v_iload_n (q := 12) dX12_goCourt_11 rfl rfl rfl ?_
    refine v_aload_n (q := 13) dX12_goCourt_12 rfl rfl rfl ?_
    refine v_getIb (q := 16) dX12_goCourt_13 rfl fg_X12_109 (fun v5 => ?_)
    refine v_icmp_ge (tgt := 242) (q := 19) dX12_goCourt_16 rfl rfl ?_ ?_
    · exact v_inr (v_sml (hx (M3, v4)))
    · refine v_aload_n (q := 20) dX12_goCourt_19 rfl rfl rfl ?_
      refine v_getRb (q := 23) dX12_goCourt_20 rfl fg_X12_44 (fun o6 => ?_)
      refine v_iload_n (q := 24) dX12_goCourt_23 rfl rfl rfl ?_
      refine v_iaload (q := 25) dX12_goCourt_24 rfl (fun v7 => ?_)
      refine v_cPS1 (q := 28) (ct_X12_daysOf (d - 1) (by omega) _ _) dX12_goCourt_25 rfl cc_X12_112 (by omega) (Nat.le_of_ble_eq_true rfl) ⟨Nat.le_of_ble_eq_true rfl, Nat.le_of_ble_eq_true rfl⟩ (fun v8 => ?_)
      refine v_istore_n (q := 29) (loc2 := [some (.ref a0), some (.int v4), some (.int v8), none]) dX12_goCourt_28 rfl rfl rfl (Nat.le_of_ble_eq_true rfl) rfl ?_
      refine v_aload_n (q := 30) dX12_goCourt_29 rfl rfl rfl ?_
      refine v_iconst (q := 31) dX12_goCourt_30 rfl ic_0 ?_
      refine v_putIb (q := 34) dX12_goCourt_31 rfl fp_X12_151 (fun M9 => ?_)
      refine v_iload_n (q := 35) dX12_goCourt_34 rfl rfl rfl ?_
      refine v_join (γ := Me × Int32) 217 (fun q48 => q48.1) (fun q48 => [some (.ref a0), some (.int q48.2), some (.int v8), none]) (fun q48 => []) (fun K hK => ?_) (fun q48 => ?_)
      · refine v_if_le (tgt := 49) (q := 38) dX12_goCourt_35 rfl rfl ?_ ?_
        · refine v_aload_n (q := 50) dX12_goCourt_49 rfl rfl rfl ?_
          refine v_getRb (q := 53) dX12_goCourt_50 rfl fg_X12_44 (fun o10 => ?_)
          refine v_iload_n (q := 54) dX12_goCourt_53 rfl rfl rfl ?_
          refine v_iconst (q := 55) dX12_goCourt_54 rfl ic_1 ?_
          refine v_iadd (q := 56) dX12_goCourt_55 rfl ?_
          refine v_iaload (q := 57) dX12_goCourt_56 rfl (fun v11 => ?_)
          refine v_bipush (q := 59) dX12_goCourt_57 rfl bp_65 ?_
          refine v_bipush (q := 61) dX12_goCourt_59 rfl bp_70 ?_
          refine v_cPS3 (q := 64) (ct_X12_in (d - 1) (by omega) _ _ _ _) dX12_goCourt_61 rfl cc_X12_81 (by omega) (Nat.le_of_ble_eq_true rfl) ⟨Nat.le_of_ble_eq_true rfl, Nat.le_of_ble_eq_true rfl⟩ (fun v12 => ?_)
          refine v_if_eq (tgt := 161) (q := 67) dX12_goCourt_64 rfl rfl ?_ ?_
          · refine v_aload_n (q := 162) dX12_goCourt_161 rfl rfl rfl ?_
            refine v_aload_n (q := 163) dX12_goCourt_162 rfl rfl rfl ?_
            refine v_aload_n (q := 164) dX12_goCourt_163 rfl rfl rfl ?_
            refine v_getRb (q := 167) dX12_goCourt_164 rfl fg_X12_44 (fun o13 => ?_)
            refine v_iload_n (q := 168) dX12_goCourt_167 rfl rfl rfl ?_
            refine v_iaload (q := 169) dX12_goCourt_168 rfl (fun v14 => ?_)
            refine v_bipush (q := 171) dX12_goCourt_169 rfl bp_65 ?_
            refine v_isub (q := 172) dX12_goCourt_171 rfl ?_
            refine v_aload_n (q := 173) dX12_goCourt_172 rfl rfl rfl ?_
            refine v_getRb (q := 176) dX12_goCourt_173 rfl fg_X12_44 (fun o15 => ?_)
            refine v_iload_n (q := 177) dX12_goCourt_176 rfl rfl rfl ?_
            refine v_iconst (q := 178) dX12_goCourt_177 rfl ic_1 ?_
            refine v_iadd (q := 179) dX12_goCourt_178 rfl ?_
            refine v_iaload (q := 180) dX12_goCourt_179 rfl (fun v16 => ?_)
            refine v_cPV2 (q := 183) (ct_X12_whyNot (d - 1) (by omega) _ _ _ _) dX12_goCourt_180 rfl cc_X12_165 (by omega) (Nat.le_of_ble_eq_true rfl) ⟨Nat.le_of_ble_eq_true rfl, Nat.le_of_ble_eq_true rfl⟩ (fun v17 => ?_)
            refine v_putIb (q := 186) dX12_goCourt_183 rfl fp_X12_151 (fun M18 => ?_)
            refine v_aload_n (q := 187) dX12_goCourt_186 rfl rfl rfl ?_
            refine v_getIb (q := 190) dX12_goCourt_187 rfl fg_X12_151 (fun v19 => ?_)
            refine v_join (γ := Me) 214 (fun M25 => M25) (fun M25 => [some (.ref a0), some (.int v4), some (.int v8), none]) (fun M25 => []) (fun K hK => ?_) (fun M25 => ?_)
            · refine v_if_ne (tgt := 214) (q := 193) dX12_goCourt_190 rfl rfl ?_ ?_
              · exact hK M18
              · refine v_aload_n (q := 194) dX12_goCourt_193 rfl rfl rfl ?_
                refine v_aload_n (q := 195) dX12_goCourt_194 rfl rfl rfl ?_
                refine v_getRb (q := 198) dX12_goCourt_195 rfl fg_X12_44 (fun o20 => ?_)
                refine v_iload_n (q := 199) dX12_goCourt_198 rfl rfl rfl ?_
                refine v_iaload (q := 200) dX12_goCourt_199 rfl (fun v21 => ?_)
                refine v_bipush (q := 202) dX12_goCourt_200 rfl bp_65 ?_
                refine v_isub (q := 203) dX12_goCourt_202 rfl ?_
                refine v_aload_n (q := 204) dX12_goCourt_203 rfl rfl rfl ?_
                refine v_getRb (q := 207) dX12_goCourt_204 rfl fg_X12_44 (fun o22 => ?_)
                refine v_iload_n (q := 208) dX12_goCourt_207 rfl rfl rfl ?_
                refine v_iconst (q := 209) dX12_goCourt_208 rfl ic_1 ?_
                refine v_iadd (q := 210) dX12_goCourt_209 rfl ?_
                refine v_iaload (q := 211) dX12_goCourt_210 rfl (fun v23 => ?_)
                refine v_cMV2 (q := 214) (ct_X12_act (d - 1) (by omega) _ _ _ _) dX12_goCourt_211 rfl cc_X12_169 (by omega) (Nat.le_of_ble_eq_true rfl) ⟨Nat.le_of_ble_eq_true rfl, Nat.le_of_ble_eq_true rfl⟩ (fun M24 => ?_)
                exact hK M24
            · refine v_iincL (q := 217) (x := v4) (cst := (2 : Int32)) (f := fun v26 => [some (.ref a0), some (.int v26), some (.int v8), none]) dX12_goCourt_214 rfl rfl ic_2 rfl (Nat.le_of_ble_eq_true rfl) (fun _ => rfl) (fun v26 => ?_)
              exact hK (M25, v26)
          · refine v_bipush (q := 69) dX12_goCourt_67 rfl bp_10 ?_
            refine v_aload_n (q := 70) dX12_goCourt_69 rfl rfl rfl ?_
            refine v_getRb (q := 73) dX12_goCourt_70 rfl fg_X12_44 (fun o27 => ?_)
            refine v_iload_n (q := 74) dX12_goCourt_73 rfl rfl rfl ?_
            refine v_iconst (q := 75) dX12_goCourt_74 rfl ic_2 ?_
            refine v_iadd (q := 76) dX12_goCourt_75 rfl ?_
            refine v_iaload (q := 77) dX12_goCourt_76 rfl (fun v28 => ?_)
            refine v_bipush (q := 79) dX12_goCourt_77 rfl bp_48 ?_
            refine v_isub (q := 80) dX12_goCourt_79 rfl ?_
            refine v_imul (q := 81) dX12_goCourt_80 rfl ?_
            refine v_aload_n (q := 82) dX12_goCourt_81 rfl rfl rfl ?_
            refine v_getRb (q := 85) dX12_goCourt_82 rfl fg_X12_44 (fun o29 => ?_)
            refine v_iload_n (q := 86) dX12_goCourt_85 rfl rfl rfl ?_
            refine v_iconst (q := 87) dX12_goCourt_86 rfl ic_3 ?_
            refine v_iadd (q := 88) dX12_goCourt_87 rfl ?_
            refine v_iaload (q := 89) dX12_goCourt_88 rfl (fun v30 => ?_)
            refine v_iadd (q := 90) dX12_goCourt_89 rfl ?_
            refine v_bipush (q := 92) dX12_goCourt_90 rfl bp_48 ?_
            refine v_isub (q := 93) dX12_goCourt_92 rfl ?_
            refine v_letI (fun v31 => ?_)
            refine v_istore_n (q := 94) (loc2 := [some (.ref a0), some (.int v4), some (.int v8), some (.int v31)]) dX12_goCourt_93 rfl rfl rfl (Nat.le_of_ble_eq_true rfl) rfl ?_
            refine v_aload_n (q := 95) dX12_goCourt_94 rfl rfl rfl ?_
            refine v_aload_n (q := 96) dX12_goCourt_95 rfl rfl rfl ?_
            refine v_aload_n (q := 97) dX12_goCourt_96 rfl rfl rfl ?_
            refine v_getRb (q := 100) dX12_goCourt_97 rfl fg_X12_44 (fun o32 => ?_)
            refine v_iload_n (q := 101) dX12_goCourt_100 rfl rfl rfl ?_
            refine v_iaload (q := 102) dX12_goCourt_101 rfl (fun v33 => ?_)
            refine v_bipush (q := 104) dX12_goCourt_102 rfl bp_65 ?_
            refine v_isub (q := 105) dX12_goCourt_104 rfl ?_
            refine v_aload_n (q := 106) dX12_goCourt_105 rfl rfl rfl ?_
            refine v_getRb (q := 109) dX12_goCourt_106 rfl fg_X12_44 (fun o34 => ?_)
            refine v_iload_n (q := 110) dX12_goCourt_109 rfl rfl rfl ?_
            refine v_iconst (q := 111) dX12_goCourt_110 rfl ic_1 ?_
            refine v_iadd (q := 112) dX12_goCourt_111 rfl ?_
            refine v_iaload (q := 113) dX12_goCourt_112 rfl (fun v35 => ?_)
            refine v_bipush (q := 115) dX12_goCourt_113 rfl bp_65 ?_
            refine v_isub (q := 116) dX12_goCourt_115 rfl ?_
            refine v_iload_n (q := 117) dX12_goCourt_116 rfl rfl rfl ?_
            refine v_cPV3 (q := 120) (ct_X12_whyNotStrike (d - 1) (by omega) _ _ _ _ _) dX12_goCourt_117 rfl cc_X12_157 (by omega) (Nat.le_of_ble_eq_true rfl) ⟨Nat.le_of_ble_eq_true rfl, Nat.le_of_ble_eq_true rfl⟩ (fun v36 => ?_)
            refine v_putIb (q := 123) dX12_goCourt_120 rfl fp_X12_151 (fun M37 => ?_)
            refine v_aload_n (q := 124) dX12_goCourt_123 rfl rfl rfl ?_
            refine v_getIb (q := 127) dX12_goCourt_124 rfl fg_X12_151 (fun v38 => ?_)
            refine v_join (γ := Me) 155 (fun M44 => M44) (fun M44 => [some (.ref a0), some (.int v4), some (.int v8), some (.int v31)]) (fun M44 => []) (fun K hK => ?_) (fun M44 => ?_)
            · refine v_if_ne (tgt := 155) (q := 130) dX12_goCourt_127 rfl rfl ?_ ?_
              · exact hK M37
              · refine v_aload_n (q := 131) dX12_goCourt_130 rfl rfl rfl ?_
                refine v_aload_n (q := 132) dX12_goCourt_131 rfl rfl rfl ?_
                refine v_getRb (q := 135) dX12_goCourt_132 rfl fg_X12_44 (fun o39 => ?_)
                refine v_iload_n (q := 136) dX12_goCourt_135 rfl rfl rfl ?_
                refine v_iaload (q := 137) dX12_goCourt_136 rfl (fun v40 => ?_)
                refine v_bipush (q := 139) dX12_goCourt_137 rfl bp_65 ?_
                refine v_isub (q := 140) dX12_goCourt_139 rfl ?_
                refine v_aload_n (q := 141) dX12_goCourt_140 rfl rfl rfl ?_
                refine v_getRb (q := 144) dX12_goCourt_141 rfl fg_X12_44 (fun o41 => ?_)
                refine v_iload_n (q := 145) dX12_goCourt_144 rfl rfl rfl ?_
                refine v_iconst (q := 146) dX12_goCourt_145 rfl ic_1 ?_
                refine v_iadd (q := 147) dX12_goCourt_146 rfl ?_
                refine v_iaload (q := 148) dX12_goCourt_147 rfl (fun v42 => ?_)
                refine v_bipush (q := 150) dX12_goCourt_148 rfl bp_65 ?_
                refine v_isub (q := 151) dX12_goCourt_150 rfl ?_
                refine v_iload_n (q := 152) dX12_goCourt_151 rfl rfl rfl ?_
                refine v_cMV3 (q := 155) (ct_X12_hit (d - 1) (by omega) _ _ _ _ _) dX12_goCourt_152 rfl cc_X12_161 (by omega) (Nat.le_of_ble_eq_true rfl) ⟨Nat.le_of_ble_eq_true rfl, Nat.le_of_ble_eq_true rfl⟩ (fun M43 => ?_)
                exact hK M43
            · refine v_iincL (q := 158) (x := v4) (cst := (4 : Int32)) (f := fun v45 => [some (.ref a0), some (.int v45), some (.int v8), some (.int v31)]) dX12_goCourt_155 rfl rfl ic_4 rfl (Nat.le_of_ble_eq_true rfl) (fun _ => rfl) (fun v45 => ?_)
              refine v_goto (tgt := 217) dX12_goCourt_158 rfl ?_
              exact v_weak (hK (M44, v45)) ⟨rfl, ⟨rfl, ⟨rfl, trivial⟩⟩⟩
        · refine v_aload_n (q := 39) dX12_goCourt_38 rfl rfl rfl ?_
          refine v_iload_n (q := 40) dX12_goCourt_39 rfl rfl rfl ?_
          refine v_cMV1 (q := 43) (ct_X12_pass (d - 1) (by omega) _ _ _) dX12_goCourt_40 rfl cc_X12_154 (by omega) (Nat.le_of_ble_eq_true rfl) ⟨Nat.le_of_ble_eq_true rfl, Nat.le_of_ble_eq_true rfl⟩ (fun M46 => ?_)
          refine v_iincL (q := 46) (x := v4) (cst := (1 : Int32)) (f := fun v47 => [some (.ref a0), some (.int v47), some (.int v8), none]) dX12_goCourt_43 rfl rfl ic_1 rfl (Nat.le_of_ble_eq_true rfl) (fun _ => rfl) (fun v47 => ?_)
          refine v_goto (tgt := 217) dX12_goCourt_46 rfl ?_
          exact hK (M46, v47)
      · refine v_aload_n (q := 218) dX12_goCourt_217 rfl rfl rfl ?_
        refine v_getIb (q := 221) dX12_goCourt_218 rfl fg_X12_151 (fun v49 => ?_)
        refine v_if_le (tgt := 229) (q := 224) dX12_goCourt_221 rfl rfl ?_ ?_
        · refine v_aload_n (q := 230) dX12_goCourt_229 rfl rfl rfl ?_
          refine v_dup (q := 231) dX12_goCourt_230 rfl rfl ?_
          refine v_getIb (q := 234) dX12_goCourt_231 rfl fg_X12_148 (fun v50 => ?_)
          refine v_iconst (q := 235) dX12_goCourt_234 rfl ic_1 ?_
          refine v_iadd (q := 236) dX12_goCourt_235 rfl ?_
          refine v_putIb (q := 239) dX12_goCourt_236 rfl fp_X12_148 (fun M51 => ?_)
          refine v_goto (tgt := 11) dX12_goCourt_239 rfl ?_
          exact v_inl (v_weak (hk (M51, q48.2)) ⟨rfl, ⟨rfl, trivial⟩⟩)
        · refine v_aload_n (q := 225) dX12_goCourt_224 rfl rfl rfl ?_
          refine v_getIb (q := 228) dX12_goCourt_225 rfl fg_X12_148 (fun v52 => ?_)
          exact v_iret rfl dX12_goCourt_228 ⟨Nat.le_of_ble_eq_true rfl, Nat.le_of_ble_eq_true rfl⟩ rfl
theorem ct_X12_goCourt (d : Nat) (hd : 4 ≤ d) (a0 : Nat) (M : Me) (r : Int32) (M2 : Me) (hf : f_X12_goCourt a0 M = some (r, M2)) : me_k M a0 = some (12, nf_c 12) ∧ Ct yX12_goCourt mX12_goCourt d 0 0 [.ref a0] M (some (.int r), M2) := by
  obtain ⟨hk, hb⟩ := ck_some hf
  exact ⟨hk, ct_of (by decide +kernel) rfl rfl (Nat.le_of_ble_eq_true rfl) (vb_X12_goCourt d hd a0 M) (by rw [hb]; rfl)⟩
theorem dX12_judge_0 : decode cX12_judge 0 = .ok (.iload_n 1, 1) := by decide +kernel
theorem dX12_judge_1 : decode cX12_judge 1 = .ok (.iconst 0, 1) := by decide +kernel
theorem dX12_judge_2 : decode cX12_judge 2 = .ok (.iconst 1, 1) := by decide +kernel
theorem dX12_judge_3 : decode cX12_judge 3 = .ok (.invokestatic 81, 3) := by decide +kernel
theorem dX12_judge_6 : decode cX12_judge 6 = .ok (.ifCond .ne 6, 3) := by decide +kernel
theorem dX12_judge_9 : decode cX12_judge 9 = .ok (.bipush (-2), 2) := by decide +kernel
theorem dX12_judge_11 : decode cX12_judge 11 = .ok (.ireturn, 1) := by decide +kernel
theorem dX12_judge_12 : decode cX12_judge 12 = .ok (.aload_n 0, 1) := by decide +kernel
theorem dX12_judge_13 : decode cX12_judge 13 = .ok (.invokevirtual 115, 3) := by decide +kernel
theorem dX12_judge_16 : decode cX12_judge 16 = .ok (.ifCond .lt 6, 3) := by decide +kernel
theorem dX12_judge_19 : decode cX12_judge 19 = .ok (.bipush (-5), 2) := by decide +kernel
theorem dX12_judge_21 : decode cX12_judge 21 = .ok (.ireturn, 1) := by decide +kernel
theorem dX12_judge_22 : decode cX12_judge 22 = .ok (.aload_n 0, 1) := by decide +kernel
theorem dX12_judge_23 : decode cX12_judge 23 = .ok (.invokevirtual 172, 3) := by decide +kernel
theorem dX12_judge_26 : decode cX12_judge 26 = .ok (.istore_n 2, 1) := by decide +kernel
theorem dX12_judge_27 : decode cX12_judge 27 = .ok (.iload_n 2, 1) := by decide +kernel
theorem dX12_judge_28 : decode cX12_judge 28 = .ok (.ifCond .lt 7, 3) := by decide +kernel
theorem dX12_judge_31 : decode cX12_judge 31 = .ok (.iload_n 1, 1) := by decide +kernel
theorem dX12_judge_32 : decode cX12_judge 32 = .ok (.ifCond .ne 7, 3) := by decide +kernel
theorem dX12_judge_35 : decode cX12_judge 35 = .ok (.iload_n 2, 1) := by decide +kernel
theorem dX12_judge_36 : decode cX12_judge 36 = .ok (.goto 7, 3) := by decide +kernel
theorem dX12_judge_39 : decode cX12_judge 39 = .ok (.aload_n 0, 1) := by decide +kernel
theorem dX12_judge_40 : decode cX12_judge 40 = .ok (.getfield 151, 3) := by decide +kernel
theorem dX12_judge_43 : decode cX12_judge 43 = .ok (.ireturn, 1) := by decide +kernel
noncomputable def b_X12_judge (a0 : Nat) (x1 : Int32) (M : Me) : Option (Int32 × Me) :=
  cP (f_X12_in x1 (0 : Int32) (1 : Int32) M) fun v1 =>
  if v1 = 0 then (
    some ((-2 : Int32), M)
  ) else (
    cP (f_X12_faultOf a0 M) fun v2 =>
    if v2 < 0 then (
      cI (f_X12_goCourt a0 M) fun v3 M4 =>
      (
        if v3 < 0 then (
          some v3
        ) else (
          if x1 = 0 then (
            some v3
          ) else (
            gi M4 a0 12 24 fun v5 =>
            some v5
          )
        )
      ).bind fun v6 =>
      some (v6, M4)
    ) else (
      some ((-5 : Int32), M)
    )
  )
noncomputable def f_X12_judge (a0 : Nat) (x1 : Int32) (M : Me) : Option (Int32 × Me) := ck M a0 12 (b_X12_judge a0 x1 M)
set_option maxRecDepth 20000 in
theorem vb_X12_judge (d : Nat) (hd : 5 ≤ d) (a0 : Nat) (x1 : Int32) (M : Me) : V (mX12_judge, d, 0, 0) (0, 0) M 0 [some (.ref a0), some (.int x1), none] [] (b_X12_judge a0 x1 M) (fun z => some (some (.int z.1), z.2)) := by
  unfold b_X12_judge
  refine v_iload_n (q := 1) dX12_judge_0 rfl rfl rfl ?_
  refine v_iconst (q := 2) dX12_judge_1 rfl ic_0 ?_
  refine v_iconst (q := 3) dX12_judge_2 rfl ic_1 ?_
  refine v_cPS3 (q := 6) (ct_X12_in (d - 1) (by omega) _ _ _ _) dX12_judge_3 rfl cc_X12_81 (by omega) (Nat.le_of_ble_eq_true rfl) ⟨Nat.le_of_ble_eq_true rfl, Nat.le_of_ble_eq_true rfl⟩ (fun v1 => ?_)
  refine v_if_ne (tgt := 12) (q := 9) dX12_judge_6 rfl rfl ?_ ?_
  · refine v_aload_n (q := 13) dX12_judge_12 rfl rfl rfl ?_
    refine v_cPV0 (q := 16) (ct_X12_faultOf (d - 1) (by omega) _ _) dX12_judge_13 rfl cc_X12_115 (by omega) (Nat.le_of_ble_eq_true rfl) ⟨Nat.le_of_ble_eq_true rfl, Nat.le_of_ble_eq_true rfl⟩ (fun v2 => ?_)
    refine v_if_lt (tgt := 22) (q := 19) dX12_judge_16 rfl rfl ?_ ?_
    · refine v_aload_n (q := 23) dX12_judge_22 rfl rfl rfl ?_
      refine v_cIV0 (q := 26) (ct_X12_goCourt (d - 1) (by omega) _ _) dX12_judge_23 rfl cc_X12_172 (by omega) (Nat.le_of_ble_eq_true rfl) ⟨Nat.le_of_ble_eq_true rfl, Nat.le_of_ble_eq_true rfl⟩ (fun v3 M4 => ?_)
      refine v_istore_n (q := 27) (loc2 := [some (.ref a0), some (.int x1), some (.int v3)]) dX12_judge_26 rfl rfl rfl (Nat.le_of_ble_eq_true rfl) rfl ?_
      refine v_iload_n (q := 28) dX12_judge_27 rfl rfl rfl ?_
      refine v_join (γ := Int32) 43 (fun v6 => M4) (fun v6 => [some (.ref a0), some (.int x1), some (.int v3)]) (fun v6 => [.int v6]) (fun K hK => ?_) (fun v6 => ?_)
      · refine v_if_lt (tgt := 35) (q := 31) dX12_judge_28 rfl rfl ?_ ?_
        · refine v_iload_n (q := 36) dX12_judge_35 rfl rfl rfl ?_
          refine v_goto (tgt := 43) dX12_judge_36 rfl ?_
          exact hK v3
        · refine v_iload_n (q := 32) dX12_judge_31 rfl rfl rfl ?_
          refine v_if_ne (tgt := 39) (q := 35) dX12_judge_32 rfl rfl ?_ ?_
          · refine v_aload_n (q := 40) dX12_judge_39 rfl rfl rfl ?_
            refine v_getIb (q := 43) dX12_judge_40 rfl fg_X12_151 (fun v5 => ?_)
            exact hK v5
          · refine v_iload_n (q := 36) dX12_judge_35 rfl rfl rfl ?_
            refine v_goto (tgt := 43) dX12_judge_36 rfl ?_
            exact hK v3
      · exact v_iret rfl dX12_judge_43 ⟨Nat.le_of_ble_eq_true rfl, Nat.le_of_ble_eq_true rfl⟩ rfl
    · refine v_bipush (q := 21) dX12_judge_19 rfl bp_m5 ?_
      exact v_iret rfl dX12_judge_21 ⟨Nat.le_of_ble_eq_true rfl, Nat.le_of_ble_eq_true rfl⟩ rfl
  · refine v_bipush (q := 11) dX12_judge_9 rfl bp_m2 ?_
    exact v_iret rfl dX12_judge_11 ⟨Nat.le_of_ble_eq_true rfl, Nat.le_of_ble_eq_true rfl⟩ rfl
theorem ct_X12_judge (d : Nat) (hd : 5 ≤ d) (a0 : Nat) (x1 : Int32) (M : Me) (r : Int32) (M2 : Me) (hf : f_X12_judge a0 x1 M = some (r, M2)) : me_k M a0 = some (12, nf_c 12) ∧ Ct yX12_judge mX12_judge d 0 0 [.ref a0, .int x1] M (some (.int r), M2) := by
  obtain ⟨hk, hb⟩ := ck_some hf
  exact ⟨hk, ct_of (by decide +kernel) rfl rfl (Nat.le_of_ble_eq_true rfl) (vb_X12_judge d hd a0 x1 M) (by rw [hb]; rfl)⟩
theorem dX12_barOfCourt_0 : decode cX12_barOfCourt 0 = .ok (.aload_n 0, 1) := by decide +kernel
theorem dX12_barOfCourt_1 : decode cX12_barOfCourt 1 = .ok (.invokevirtual 115, 3) := by decide +kernel
theorem dX12_barOfCourt_4 : decode cX12_barOfCourt 4 = .ok (.ifCond .ge 10, 3) := by decide +kernel
theorem dX12_barOfCourt_7 : decode cX12_barOfCourt 7 = .ok (.aload_n 0, 1) := by decide +kernel
theorem dX12_barOfCourt_8 : decode cX12_barOfCourt 8 = .ok (.invokevirtual 172, 3) := by decide +kernel
theorem dX12_barOfCourt_11 : decode cX12_barOfCourt 11 = .ok (.ifCond .lt 8, 3) := by decide +kernel
theorem dX12_barOfCourt_14 : decode cX12_barOfCourt 14 = .ok (.bipush (-5), 2) := by decide +kernel
theorem dX12_barOfCourt_16 : decode cX12_barOfCourt 16 = .ok (.goto 4, 3) := by decide +kernel
theorem dX12_barOfCourt_19 : decode cX12_barOfCourt 19 = .ok (.iconst 0, 1) := by decide +kernel
theorem dX12_barOfCourt_20 : decode cX12_barOfCourt 20 = .ok (.ireturn, 1) := by decide +kernel
noncomputable def b_X12_barOfCourt (a0 : Nat) (M : Me) : Option (Int32 × Me) :=
  cP (f_X12_faultOf a0 M) fun v1 =>
  (
    if 0 ≤ v1 then (
      some (M, (-5 : Int32))
    ) else (
      cI (f_X12_goCourt a0 M) fun v2 M3 =>
      if v2 < 0 then (
        some (M3, (0 : Int32))
      ) else (
        some (M3, (-5 : Int32))
      )
    )
  ).bind fun q4 =>
  some (q4.2, q4.1)
noncomputable def f_X12_barOfCourt (a0 : Nat) (M : Me) : Option (Int32 × Me) := ck M a0 12 (b_X12_barOfCourt a0 M)
set_option maxRecDepth 20000 in
theorem vb_X12_barOfCourt (d : Nat) (hd : 5 ≤ d) (a0 : Nat) (M : Me) : V (mX12_barOfCourt, d, 0, 0) (0, 0) M 0 [some (.ref a0)] [] (b_X12_barOfCourt a0 M) (fun z => some (some (.int z.1), z.2)) := by
  unfold b_X12_barOfCourt
  refine v_aload_n (q := 1) dX12_barOfCourt_0 rfl rfl rfl ?_
  refine v_cPV0 (q := 4) (ct_X12_faultOf (d - 1) (by omega) _ _) dX12_barOfCourt_1 rfl cc_X12_115 (by omega) (Nat.le_of_ble_eq_true rfl) ⟨Nat.le_of_ble_eq_true rfl, Nat.le_of_ble_eq_true rfl⟩ (fun v1 => ?_)
  refine v_join (γ := Me × Int32) 20 (fun q4 => q4.1) (fun q4 => [some (.ref a0)]) (fun q4 => [.int q4.2]) (fun K hK => ?_) (fun q4 => ?_)
  · refine v_if_ge (tgt := 14) (q := 7) dX12_barOfCourt_4 rfl rfl ?_ ?_
    · refine v_bipush (q := 16) dX12_barOfCourt_14 rfl bp_m5 ?_
      refine v_goto (tgt := 20) dX12_barOfCourt_16 rfl ?_
      exact hK (M, (-5 : Int32))
    · refine v_aload_n (q := 8) dX12_barOfCourt_7 rfl rfl rfl ?_
      refine v_cIV0 (q := 11) (ct_X12_goCourt (d - 1) (by omega) _ _) dX12_barOfCourt_8 rfl cc_X12_172 (by omega) (Nat.le_of_ble_eq_true rfl) ⟨Nat.le_of_ble_eq_true rfl, Nat.le_of_ble_eq_true rfl⟩ (fun v2 M3 => ?_)
      refine v_if_lt (tgt := 19) (q := 14) dX12_barOfCourt_11 rfl rfl ?_ ?_
      · refine v_iconst (q := 20) dX12_barOfCourt_19 rfl ic_0 ?_
        exact hK (M3, (0 : Int32))
      · refine v_bipush (q := 16) dX12_barOfCourt_14 rfl bp_m5 ?_
        refine v_goto (tgt := 20) dX12_barOfCourt_16 rfl ?_
        exact hK (M3, (-5 : Int32))
  · exact v_iret rfl dX12_barOfCourt_20 ⟨Nat.le_of_ble_eq_true rfl, Nat.le_of_ble_eq_true rfl⟩ rfl
theorem ct_X12_barOfCourt (d : Nat) (hd : 5 ≤ d) (a0 : Nat) (M : Me) (r : Int32) (M2 : Me) (hf : f_X12_barOfCourt a0 M = some (r, M2)) : me_k M a0 = some (12, nf_c 12) ∧ Ct yX12_barOfCourt mX12_barOfCourt d 0 0 [.ref a0] M (some (.int r), M2) := by
  obtain ⟨hk, hb⟩ := ck_some hf
  exact ⟨hk, ct_of (by decide +kernel) rfl rfl (Nat.le_of_ble_eq_true rfl) (vb_X12_barOfCourt d hd a0 M) (by rw [hb]; rfl)⟩
theorem dX12_done_0 : decode cX12_done 0 = .ok (.aload_n 0, 1) := by decide +kernel
theorem dX12_done_1 : decode cX12_done 1 = .ok (.invokevirtual 175, 3) := by decide +kernel
theorem dX12_done_4 : decode cX12_done 4 = .ok (.ifCond .ge 6, 3) := by decide +kernel
theorem dX12_done_7 : decode cX12_done 7 = .ok (.bipush (-5), 2) := by decide +kernel
theorem dX12_done_9 : decode cX12_done 9 = .ok (.ireturn, 1) := by decide +kernel
theorem dX12_done_10 : decode cX12_done 10 = .ok (.aload_n 0, 1) := by decide +kernel
theorem dX12_done_11 : decode cX12_done 11 = .ok (.invokevirtual 178, 3) := by decide +kernel
theorem dX12_done_14 : decode cX12_done 14 = .ok (.aload_n 0, 1) := by decide +kernel
theorem dX12_done_15 : decode cX12_done 15 = .ok (.iconst 0, 1) := by decide +kernel
theorem dX12_done_16 : decode cX12_done 16 = .ok (.putfield 109, 3) := by decide +kernel
theorem dX12_done_19 : decode cX12_done 19 = .ok (.aload_n 0, 1) := by decide +kernel
theorem dX12_done_20 : decode cX12_done 20 = .ok (.getfield 148, 3) := by decide +kernel
theorem dX12_done_23 : decode cX12_done 23 = .ok (.ireturn, 1) := by decide +kernel
noncomputable def b_X12_done (a0 : Nat) (M : Me) : Option (Int32 × Me) :=
  cI (f_X12_barOfCourt a0 M) fun v1 M2 =>
  if 0 ≤ v1 then (
    cM (f_X12_keep a0 M2) fun M3 =>
    pi M3 a0 12 15 (0 : Int32) fun M4 =>
    gi M4 a0 12 25 fun v5 =>
    some (v5, M4)
  ) else (
    some ((-5 : Int32), M2)
  )
noncomputable def f_X12_done (a0 : Nat) (M : Me) : Option (Int32 × Me) := ck M a0 12 (b_X12_done a0 M)
set_option maxRecDepth 20000 in
theorem vb_X12_done (d : Nat) (hd : 6 ≤ d) (a0 : Nat) (M : Me) : V (mX12_done, d, 0, 0) (0, 0) M 0 [some (.ref a0)] [] (b_X12_done a0 M) (fun z => some (some (.int z.1), z.2)) := by
  unfold b_X12_done
  refine v_aload_n (q := 1) dX12_done_0 rfl rfl rfl ?_
  refine v_cIV0 (q := 4) (ct_X12_barOfCourt (d - 1) (by omega) _ _) dX12_done_1 rfl cc_X12_175 (by omega) (Nat.le_of_ble_eq_true rfl) ⟨Nat.le_of_ble_eq_true rfl, Nat.le_of_ble_eq_true rfl⟩ (fun v1 M2 => ?_)
  refine v_if_ge (tgt := 10) (q := 7) dX12_done_4 rfl rfl ?_ ?_
  · refine v_aload_n (q := 11) dX12_done_10 rfl rfl rfl ?_
    refine v_cMV0 (q := 14) (ct_X12_keep (d - 1) (by omega) _ _) dX12_done_11 rfl cc_X12_178 (by omega) (Nat.le_of_ble_eq_true rfl) ⟨Nat.le_of_ble_eq_true rfl, Nat.le_of_ble_eq_true rfl⟩ (fun M3 => ?_)
    refine v_aload_n (q := 15) dX12_done_14 rfl rfl rfl ?_
    refine v_iconst (q := 16) dX12_done_15 rfl ic_0 ?_
    refine v_putIb (q := 19) dX12_done_16 rfl fp_X12_109 (fun M4 => ?_)
    refine v_aload_n (q := 20) dX12_done_19 rfl rfl rfl ?_
    refine v_getIb (q := 23) dX12_done_20 rfl fg_X12_148 (fun v5 => ?_)
    exact v_iret rfl dX12_done_23 ⟨Nat.le_of_ble_eq_true rfl, Nat.le_of_ble_eq_true rfl⟩ rfl
  · refine v_bipush (q := 9) dX12_done_7 rfl bp_m5 ?_
    exact v_iret rfl dX12_done_9 ⟨Nat.le_of_ble_eq_true rfl, Nat.le_of_ble_eq_true rfl⟩ rfl
theorem ct_X12_done (d : Nat) (hd : 6 ≤ d) (a0 : Nat) (M : Me) (r : Int32) (M2 : Me) (hf : f_X12_done a0 M = some (r, M2)) : me_k M a0 = some (12, nf_c 12) ∧ Ct yX12_done mX12_done d 0 0 [.ref a0] M (some (.int r), M2) := by
  obtain ⟨hk, hb⟩ := ck_some hf
  exact ⟨hk, ct_of (by decide +kernel) rfl rfl (Nat.le_of_ble_eq_true rfl) (vb_X12_done d hd a0 M) (by rw [hb]; rfl)⟩
theorem dX12_stateNow_0 : decode cX12_stateNow 0 = .ok (.iload_n 2, 1) := by decide +kernel
theorem dX12_stateNow_1 : decode cX12_stateNow 1 = .ok (.ifCond .ne 26, 3) := by decide +kernel
theorem dX12_stateNow_4 : decode cX12_stateNow 4 = .ok (.aload_n 0, 1) := by decide +kernel
theorem dX12_stateNow_5 : decode cX12_stateNow 5 = .ok (.getfield 50, 3) := by decide +kernel
theorem dX12_stateNow_8 : decode cX12_stateNow 8 = .ok (.iload_n 1, 1) := by decide +kernel
theorem dX12_stateNow_9 : decode cX12_stateNow 9 = .ok (.iaload, 1) := by decide +kernel
theorem dX12_stateNow_10 : decode cX12_stateNow 10 = .ok (.ifCond .le 8, 3) := by decide +kernel
theorem dX12_stateNow_13 : decode cX12_stateNow 13 = .ok (.bipush (-6), 2) := by decide +kernel
theorem dX12_stateNow_15 : decode cX12_stateNow 15 = .ok (.goto 58, 3) := by decide +kernel
theorem dX12_stateNow_18 : decode cX12_stateNow 18 = .ok (.aload_n 0, 1) := by decide +kernel
theorem dX12_stateNow_19 : decode cX12_stateNow 19 = .ok (.getfield 47, 3) := by decide +kernel
theorem dX12_stateNow_22 : decode cX12_stateNow 22 = .ok (.iload_n 1, 1) := by decide +kernel
theorem dX12_stateNow_23 : decode cX12_stateNow 23 = .ok (.iaload, 1) := by decide +kernel
theorem dX12_stateNow_24 : decode cX12_stateNow 24 = .ok (.goto 49, 3) := by decide +kernel
theorem dX12_stateNow_27 : decode cX12_stateNow 27 = .ok (.iload_n 2, 1) := by decide +kernel
theorem dX12_stateNow_28 : decode cX12_stateNow 28 = .ok (.iconst 1, 1) := by decide +kernel
theorem dX12_stateNow_29 : decode cX12_stateNow 29 = .ok (.if_icmp .ne 12, 3) := by decide +kernel
theorem dX12_stateNow_32 : decode cX12_stateNow 32 = .ok (.aload_n 0, 1) := by decide +kernel
theorem dX12_stateNow_33 : decode cX12_stateNow 33 = .ok (.getfield 53, 3) := by decide +kernel
theorem dX12_stateNow_36 : decode cX12_stateNow 36 = .ok (.iload_n 1, 1) := by decide +kernel
theorem dX12_stateNow_37 : decode cX12_stateNow 37 = .ok (.iaload, 1) := by decide +kernel
theorem dX12_stateNow_38 : decode cX12_stateNow 38 = .ok (.goto 35, 3) := by decide +kernel
theorem dX12_stateNow_41 : decode cX12_stateNow 41 = .ok (.iload_n 2, 1) := by decide +kernel
theorem dX12_stateNow_42 : decode cX12_stateNow 42 = .ok (.iconst 2, 1) := by decide +kernel
theorem dX12_stateNow_43 : decode cX12_stateNow 43 = .ok (.if_icmp .ne 16, 3) := by decide +kernel
theorem dX12_stateNow_46 : decode cX12_stateNow 46 = .ok (.aload_n 0, 1) := by decide +kernel
theorem dX12_stateNow_47 : decode cX12_stateNow 47 = .ok (.getfield 56, 3) := by decide +kernel
theorem dX12_stateNow_50 : decode cX12_stateNow 50 = .ok (.iload_n 1, 1) := by decide +kernel
theorem dX12_stateNow_51 : decode cX12_stateNow 51 = .ok (.iaload, 1) := by decide +kernel
theorem dX12_stateNow_52 : decode cX12_stateNow 52 = .ok (.sipush 10000, 3) := by decide +kernel
theorem dX12_stateNow_55 : decode cX12_stateNow 55 = .ok (.iadd, 1) := by decide +kernel
theorem dX12_stateNow_56 : decode cX12_stateNow 56 = .ok (.goto 17, 3) := by decide +kernel
theorem dX12_stateNow_59 : decode cX12_stateNow 59 = .ok (.aload_n 0, 1) := by decide +kernel
theorem dX12_stateNow_60 : decode cX12_stateNow 60 = .ok (.getfield 53, 3) := by decide +kernel
theorem dX12_stateNow_63 : decode cX12_stateNow 63 = .ok (.iload_n 1, 1) := by decide +kernel
theorem dX12_stateNow_64 : decode cX12_stateNow 64 = .ok (.iaload, 1) := by decide +kernel
theorem dX12_stateNow_65 : decode cX12_stateNow 65 = .ok (.ifCond .ne 7, 3) := by decide +kernel
theorem dX12_stateNow_68 : decode cX12_stateNow 68 = .ok (.iconst 1, 1) := by decide +kernel
theorem dX12_stateNow_69 : decode cX12_stateNow 69 = .ok (.goto 4, 3) := by decide +kernel
theorem dX12_stateNow_72 : decode cX12_stateNow 72 = .ok (.iconst 0, 1) := by decide +kernel
theorem dX12_stateNow_73 : decode cX12_stateNow 73 = .ok (.ireturn, 1) := by decide +kernel
noncomputable def b_X12_stateNow (a0 : Nat) (x1 : Int32) (x2 : Int32) (M : Me) : Option (Int32) :=
  (
    if x2 = 0 then (
      gr M a0 12 19 fun o7 =>
      li M o7 x1 fun v8 =>
      if v8 ≤ 0 then (
        gr M a0 12 18 fun o9 =>
        li M o9 x1 fun v10 =>
        some v10
      ) else (
        some (-6 : Int32)
      )
    ) else (
      if x2 = (1 : Int32) then (
        gr M a0 12 20 fun o5 =>
        li M o5 x1 fun v6 =>
        some v6
      ) else (
        if x2 = (2 : Int32) then (
          gr M a0 12 21 fun o3 =>
          li M o3 x1 fun v4 =>
          some (v4 + (10000 : Int32))
        ) else (
          gr M a0 12 20 fun o1 =>
          li M o1 x1 fun v2 =>
          if v2 = 0 then (
            some (1 : Int32)
          ) else (
            some (0 : Int32)
          )
        )
      )
    )
  ).bind fun v11 =>
  some v11
noncomputable def f_X12_stateNow (a0 : Nat) (x1 : Int32) (x2 : Int32) (M : Me) : Option (Int32) := ck M a0 12 (b_X12_stateNow a0 x1 x2 M)
set_option maxRecDepth 20000 in
theorem vb_X12_stateNow (d : Nat) (hd : 0 ≤ d) (a0 : Nat) (x1 : Int32) (x2 : Int32) (M : Me) : V (mX12_stateNow, d, 0, 0) (0, 0) M 0 [some (.ref a0), some (.int x1), some (.int x2)] [] (b_X12_stateNow a0 x1 x2 M) (fun z => some (some (.int z), M)) := by
  unfold b_X12_stateNow
  refine v_iload_n (q := 1) dX12_stateNow_0 rfl rfl rfl ?_
  refine v_join (γ := Int32) 73 (fun v11 => M) (fun v11 => [some (.ref a0), some (.int x1), some (.int x2)]) (fun v11 => [.int v11]) (fun K hK => ?_) (fun v11 => ?_)
  · refine v_if_ne (tgt := 27) (q := 4) dX12_stateNow_1 rfl rfl ?_ ?_
    · refine v_iload_n (q := 28) dX12_stateNow_27 rfl rfl rfl ?_
      refine v_iconst (q := 29) dX12_stateNow_28 rfl ic_1 ?_
      refine v_icmp_ne (tgt := 41) (q := 32) dX12_stateNow_29 rfl rfl ?_ ?_
      · refine v_iload_n (q := 42) dX12_stateNow_41 rfl rfl rfl ?_
        refine v_iconst (q := 43) dX12_stateNow_42 rfl ic_2 ?_
        refine v_icmp_ne (tgt := 59) (q := 46) dX12_stateNow_43 rfl rfl ?_ ?_
        · refine v_aload_n (q := 60) dX12_stateNow_59 rfl rfl rfl ?_
          refine v_getRb (q := 63) dX12_stateNow_60 rfl fg_X12_53 (fun o1 => ?_)
          refine v_iload_n (q := 64) dX12_stateNow_63 rfl rfl rfl ?_
          refine v_iaload (q := 65) dX12_stateNow_64 rfl (fun v2 => ?_)
          refine v_if_ne (tgt := 72) (q := 68) dX12_stateNow_65 rfl rfl ?_ ?_
          · refine v_iconst (q := 73) dX12_stateNow_72 rfl ic_0 ?_
            exact hK (0 : Int32)
          · refine v_iconst (q := 69) dX12_stateNow_68 rfl ic_1 ?_
            refine v_goto (tgt := 73) dX12_stateNow_69 rfl ?_
            exact hK (1 : Int32)
        · refine v_aload_n (q := 47) dX12_stateNow_46 rfl rfl rfl ?_
          refine v_getRb (q := 50) dX12_stateNow_47 rfl fg_X12_56 (fun o3 => ?_)
          refine v_iload_n (q := 51) dX12_stateNow_50 rfl rfl rfl ?_
          refine v_iaload (q := 52) dX12_stateNow_51 rfl (fun v4 => ?_)
          refine v_sipush (q := 55) dX12_stateNow_52 rfl sp_10000 ?_
          refine v_iadd (q := 56) dX12_stateNow_55 rfl ?_
          refine v_goto (tgt := 73) dX12_stateNow_56 rfl ?_
          exact hK (v4 + (10000 : Int32))
      · refine v_aload_n (q := 33) dX12_stateNow_32 rfl rfl rfl ?_
        refine v_getRb (q := 36) dX12_stateNow_33 rfl fg_X12_53 (fun o5 => ?_)
        refine v_iload_n (q := 37) dX12_stateNow_36 rfl rfl rfl ?_
        refine v_iaload (q := 38) dX12_stateNow_37 rfl (fun v6 => ?_)
        refine v_goto (tgt := 73) dX12_stateNow_38 rfl ?_
        exact hK v6
    · refine v_aload_n (q := 5) dX12_stateNow_4 rfl rfl rfl ?_
      refine v_getRb (q := 8) dX12_stateNow_5 rfl fg_X12_50 (fun o7 => ?_)
      refine v_iload_n (q := 9) dX12_stateNow_8 rfl rfl rfl ?_
      refine v_iaload (q := 10) dX12_stateNow_9 rfl (fun v8 => ?_)
      refine v_if_le (tgt := 18) (q := 13) dX12_stateNow_10 rfl rfl ?_ ?_
      · refine v_aload_n (q := 19) dX12_stateNow_18 rfl rfl rfl ?_
        refine v_getRb (q := 22) dX12_stateNow_19 rfl fg_X12_47 (fun o9 => ?_)
        refine v_iload_n (q := 23) dX12_stateNow_22 rfl rfl rfl ?_
        refine v_iaload (q := 24) dX12_stateNow_23 rfl (fun v10 => ?_)
        refine v_goto (tgt := 73) dX12_stateNow_24 rfl ?_
        exact hK v10
      · refine v_bipush (q := 15) dX12_stateNow_13 rfl bp_m6 ?_
        refine v_goto (tgt := 73) dX12_stateNow_15 rfl ?_
        exact hK (-6 : Int32)
  · exact v_iret rfl dX12_stateNow_73 ⟨Nat.le_of_ble_eq_true rfl, Nat.le_of_ble_eq_true rfl⟩ rfl
theorem ct_X12_stateNow (d : Nat) (hd : 0 ≤ d) (a0 : Nat) (x1 : Int32) (x2 : Int32) (M : Me) (r : Int32) (hf : f_X12_stateNow a0 x1 x2 M = some r) : me_k M a0 = some (12, nf_c 12) ∧ Ct yX12_stateNow mX12_stateNow d 0 0 [.ref a0, .int x1, .int x2] M (some (.int r), M) := by
  obtain ⟨hk, hb⟩ := ck_some hf
  exact ⟨hk, ct_of (by decide +kernel) rfl rfl (Nat.le_of_ble_eq_true rfl) (vb_X12_stateNow d hd a0 x1 x2 M) (by rw [hb]; rfl)⟩

theorem dX12_snow_0 : decode cX12_snow 0 = .ok (.iload_n 1, 1) := by decide +kernel
theorem dX12_snow_1 : decode cX12_snow 1 = .ok (.iconst 0, 1) := by decide +kernel
theorem dX12_snow_2 : decode cX12_snow 2 = .ok (.bipush 6, 2) := by decide +kernel
theorem dX12_snow_4 : decode cX12_snow 4 = .ok (.invokestatic 81, 3) := by decide +kernel
theorem dX12_snow_7 : decode cX12_snow 7 = .ok (.ifCond .eq 33, 3) := by decide +kernel
theorem dX12_snow_10 : decode cX12_snow 10 = .ok (.iload_n 2, 1) := by decide +kernel
theorem dX12_snow_11 : decode cX12_snow 11 = .ok (.iconst 0, 1) := by decide +kernel
theorem dX12_snow_12 : decode cX12_snow 12 = .ok (.bipush 10, 2) := by decide +kernel
theorem dX12_snow_14 : decode cX12_snow 14 = .ok (.invokestatic 81, 3) := by decide +kernel
theorem dX12_snow_17 : decode cX12_snow 17 = .ok (.ifCond .eq 23, 3) := by decide +kernel
theorem dX12_snow_20 : decode cX12_snow 20 = .ok (.iload_n 3, 1) := by decide +kernel
theorem dX12_snow_21 : decode cX12_snow 21 = .ok (.iconst 0, 1) := by decide +kernel
theorem dX12_snow_22 : decode cX12_snow 22 = .ok (.bipush 10, 2) := by decide +kernel
theorem dX12_snow_24 : decode cX12_snow 24 = .ok (.invokestatic 81, 3) := by decide +kernel
theorem dX12_snow_27 : decode cX12_snow 27 = .ok (.ifCond .eq 13, 3) := by decide +kernel
theorem dX12_snow_30 : decode cX12_snow 30 = .ok (.iload 4, 2) := by decide +kernel
theorem dX12_snow_32 : decode cX12_snow 32 = .ok (.iconst 0, 1) := by decide +kernel
theorem dX12_snow_33 : decode cX12_snow 33 = .ok (.iconst 1, 1) := by decide +kernel
theorem dX12_snow_34 : decode cX12_snow 34 = .ok (.invokestatic 81, 3) := by decide +kernel
theorem dX12_snow_37 : decode cX12_snow 37 = .ok (.ifCond .ne 7, 3) := by decide +kernel
theorem dX12_snow_40 : decode cX12_snow 40 = .ok (.ldc2_w 218, 3) := by decide +kernel
theorem dX12_snow_43 : decode cX12_snow 43 = .ok (.lreturn, 1) := by decide +kernel
theorem dX12_snow_44 : decode cX12_snow 44 = .ok (.lconst 0, 1) := by decide +kernel
theorem dX12_snow_45 : decode cX12_snow 45 = .ok (.lstore 5, 2) := by decide +kernel
theorem dX12_snow_47 : decode cX12_snow 47 = .ok (.iconst 0, 1) := by decide +kernel
theorem dX12_snow_48 : decode cX12_snow 48 = .ok (.istore 7, 2) := by decide +kernel
theorem dX12_snow_50 : decode cX12_snow 50 = .ok (.iload 7, 2) := by decide +kernel
theorem dX12_snow_52 : decode cX12_snow 52 = .ok (.iconst 1, 1) := by decide +kernel
theorem dX12_snow_53 : decode cX12_snow 53 = .ok (.iload_n 2, 1) := by decide +kernel
theorem dX12_snow_54 : decode cX12_snow 54 = .ok (.ishl, 1) := by decide +kernel
theorem dX12_snow_55 : decode cX12_snow 55 = .ok (.if_icmp .ge 74, 3) := by decide +kernel
theorem dX12_snow_58 : decode cX12_snow 58 = .ok (.lconst 1, 1) := by decide +kernel
theorem dX12_snow_59 : decode cX12_snow 59 = .ok (.lstore 8, 2) := by decide +kernel
theorem dX12_snow_61 : decode cX12_snow 61 = .ok (.iconst 0, 1) := by decide +kernel
theorem dX12_snow_62 : decode cX12_snow 62 = .ok (.istore 10, 2) := by decide +kernel
theorem dX12_snow_64 : decode cX12_snow 64 = .ok (.iload 10, 2) := by decide +kernel
theorem dX12_snow_66 : decode cX12_snow 66 = .ok (.iload_n 2, 1) := by decide +kernel
theorem dX12_snow_67 : decode cX12_snow 67 = .ok (.if_icmp .ge 34, 3) := by decide +kernel
theorem dX12_snow_70 : decode cX12_snow 70 = .ok (.lload 8, 2) := by decide +kernel
theorem dX12_snow_72 : decode cX12_snow 72 = .ok (.iload 7, 2) := by decide +kernel
theorem dX12_snow_74 : decode cX12_snow 74 = .ok (.iload 10, 2) := by decide +kernel
theorem dX12_snow_76 : decode cX12_snow 76 = .ok (.invokestatic 85, 3) := by decide +kernel
theorem dX12_snow_79 : decode cX12_snow 79 = .ok (.ifCond .eq 8, 3) := by decide +kernel
theorem dX12_snow_82 : decode cX12_snow 82 = .ok (.iload_n 3, 1) := by decide +kernel
theorem dX12_snow_83 : decode cX12_snow 83 = .ok (.i2l, 1) := by decide +kernel
theorem dX12_snow_84 : decode cX12_snow 84 = .ok (.goto 8, 3) := by decide +kernel
theorem dX12_snow_87 : decode cX12_snow 87 = .ok (.bipush 10, 2) := by decide +kernel
theorem dX12_snow_89 : decode cX12_snow 89 = .ok (.iload_n 3, 1) := by decide +kernel
theorem dX12_snow_90 : decode cX12_snow 90 = .ok (.isub, 1) := by decide +kernel
theorem dX12_snow_91 : decode cX12_snow 91 = .ok (.i2l, 1) := by decide +kernel
theorem dX12_snow_92 : decode cX12_snow 92 = .ok (.lmul, 1) := by decide +kernel
theorem dX12_snow_93 : decode cX12_snow 93 = .ok (.lstore 8, 2) := by decide +kernel
theorem dX12_snow_95 : decode cX12_snow 95 = .ok (.iinc 10 1, 3) := by decide +kernel
theorem dX12_snow_98 : decode cX12_snow 98 = .ok (.goto (-34), 3) := by decide +kernel
theorem dX12_snow_101 : decode cX12_snow 101 = .ok (.lload 5, 2) := by decide +kernel
theorem dX12_snow_103 : decode cX12_snow 103 = .ok (.iload_n 2, 1) := by decide +kernel
theorem dX12_snow_104 : decode cX12_snow 104 = .ok (.iload 7, 2) := by decide +kernel
theorem dX12_snow_106 : decode cX12_snow 106 = .ok (.invokestatic 105, 3) := by decide +kernel
theorem dX12_snow_109 : decode cX12_snow 109 = .ok (.isub, 1) := by decide +kernel
theorem dX12_snow_110 : decode cX12_snow 110 = .ok (.iload_n 1, 1) := by decide +kernel
theorem dX12_snow_111 : decode cX12_snow 111 = .ok (.if_icmp .lt 8, 3) := by decide +kernel
theorem dX12_snow_114 : decode cX12_snow 114 = .ok (.lload 8, 2) := by decide +kernel
theorem dX12_snow_116 : decode cX12_snow 116 = .ok (.goto 4, 3) := by decide +kernel
theorem dX12_snow_119 : decode cX12_snow 119 = .ok (.lconst 0, 1) := by decide +kernel
theorem dX12_snow_120 : decode cX12_snow 120 = .ok (.ladd, 1) := by decide +kernel
theorem dX12_snow_121 : decode cX12_snow 121 = .ok (.lstore 5, 2) := by decide +kernel
theorem dX12_snow_123 : decode cX12_snow 123 = .ok (.iinc 7 1, 3) := by decide +kernel
theorem dX12_snow_126 : decode cX12_snow 126 = .ok (.goto (-76), 3) := by decide +kernel
theorem dX12_snow_129 : decode cX12_snow 129 = .ok (.iload_n 2, 1) := by decide +kernel
theorem dX12_snow_130 : decode cX12_snow 130 = .ok (.invokestatic 210, 3) := by decide +kernel
theorem dX12_snow_133 : decode cX12_snow 133 = .ok (.lstore 7, 2) := by decide +kernel
theorem dX12_snow_135 : decode cX12_snow 135 = .ok (.lload 5, 2) := by decide +kernel
theorem dX12_snow_137 : decode cX12_snow 137 = .ok (.lstore 9, 2) := by decide +kernel
theorem dX12_snow_139 : decode cX12_snow 139 = .ok (.lload 7, 2) := by decide +kernel
theorem dX12_snow_141 : decode cX12_snow 141 = .ok (.lstore 11, 2) := by decide +kernel
theorem dX12_snow_143 : decode cX12_snow 143 = .ok (.lload 11, 2) := by decide +kernel
theorem dX12_snow_145 : decode cX12_snow 145 = .ok (.lconst 0, 1) := by decide +kernel
theorem dX12_snow_146 : decode cX12_snow 146 = .ok (.lcmp, 1) := by decide +kernel
theorem dX12_snow_147 : decode cX12_snow 147 = .ok (.ifCond .eq 21, 3) := by decide +kernel
theorem dX12_snow_150 : decode cX12_snow 150 = .ok (.lload 9, 2) := by decide +kernel
theorem dX12_snow_152 : decode cX12_snow 152 = .ok (.lload 11, 2) := by decide +kernel
theorem dX12_snow_154 : decode cX12_snow 154 = .ok (.lrem, 1) := by decide +kernel
theorem dX12_snow_155 : decode cX12_snow 155 = .ok (.lstore 13, 2) := by decide +kernel
theorem dX12_snow_157 : decode cX12_snow 157 = .ok (.lload 11, 2) := by decide +kernel
theorem dX12_snow_159 : decode cX12_snow 159 = .ok (.lstore 9, 2) := by decide +kernel
theorem dX12_snow_161 : decode cX12_snow 161 = .ok (.lload 13, 2) := by decide +kernel
theorem dX12_snow_163 : decode cX12_snow 163 = .ok (.lstore 11, 2) := by decide +kernel
theorem dX12_snow_165 : decode cX12_snow 165 = .ok (.goto (-22), 3) := by decide +kernel
theorem dX12_snow_168 : decode cX12_snow 168 = .ok (.iload 4, 2) := by decide +kernel
theorem dX12_snow_170 : decode cX12_snow 170 = .ok (.ifCond .ne 11, 3) := by decide +kernel
theorem dX12_snow_173 : decode cX12_snow 173 = .ok (.lload 5, 2) := by decide +kernel
theorem dX12_snow_175 : decode cX12_snow 175 = .ok (.lload 9, 2) := by decide +kernel
theorem dX12_snow_177 : decode cX12_snow 177 = .ok (.ldiv, 1) := by decide +kernel
theorem dX12_snow_178 : decode cX12_snow 178 = .ok (.goto 8, 3) := by decide +kernel
theorem dX12_snow_181 : decode cX12_snow 181 = .ok (.lload 7, 2) := by decide +kernel
theorem dX12_snow_183 : decode cX12_snow 183 = .ok (.lload 9, 2) := by decide +kernel
theorem dX12_snow_185 : decode cX12_snow 185 = .ok (.ldiv, 1) := by decide +kernel
theorem dX12_snow_186 : decode cX12_snow 186 = .ok (.lreturn, 1) := by decide +kernel
noncomputable def s_X12_snow_64 (x2 : Int32) (x3 : Int32) (M : Me) (v6 : Int32) (w7 : Int64) (v8 : Int32) : Option ((Int64 × Int32) ⊕ (Int64 × Int32)) :=
  if x2 ≤ v8 then (
    some (Sum.inr (w7, v8))
  ) else (
    cP (f_X12_has v6 v8 M) fun v9 =>
    (
      if v9 = 0 then (
        some (((10 : Int32) - x3).toInt64)
      ) else (
        some (x3.toInt64)
      )
    ).bind fun w10 =>
    let_v ((w7 * w10)) fun w11 =>
    let_v (v8 + (1 : Int32)) fun v12 =>
    some (Sum.inl (w11, v12))
  )
noncomputable def s_X12_snow_50 (x1 : Int32) (x2 : Int32) (x3 : Int32) (M : Me) (w5 : Int64) (v6 : Int32) : Option ((Int64 × Int32) ⊕ (Int64 × Int32)) :=
  if ((1 : Int32) <<< (x2 &&& 31)) ≤ v6 then (
    some (Sum.inr (w5, v6))
  ) else (
    (lp (fun s => s_X12_snow_64 x2 x3 M v6 s.1 s.2) ((1 : Int64), (0 : Int32))).bind fun e13 =>
    cP (f_X12_bits v6 M) fun v14 =>
    (
      if (x2 - v14) < x1 then (
        some (0 : Int64)
      ) else (
        some e13.1
      )
    ).bind fun w15 =>
    let_v ((w5 + w15)) fun w16 =>
    let_v (v6 + (1 : Int32)) fun v17 =>
    some (Sum.inl (w16, v17))
  )
noncomputable def s_X12_snow_143 (w20 : Int64) (w21 : Int64) : Option ((Int64 × Int64) ⊕ (Int64 × Int64)) :=
  if (lg_cmp w21 (0 : Int64)) = 0 then (
    some (Sum.inr (w20, w21))
  ) else (
    if w21 = 0 then none else
    let_v ((w20 - w20 / w21 * w21)) fun w22 =>
    some (Sum.inl (w21, w22))
  )
noncomputable def b_X12_snow (a0 : Nat) (x1 : Int32) (x2 : Int32) (x3 : Int32) (x4 : Int32) (M : Me) : Option (Int64) :=
  cP (f_X12_in x1 (0 : Int32) (6 : Int32) M) fun v1 =>
  if v1 = 0 then (
    some (-1000000000000000002 : Int64)
  ) else (
    cP (f_X12_in x2 (0 : Int32) (10 : Int32) M) fun v2 =>
    if v2 = 0 then (
      some (-1000000000000000002 : Int64)
    ) else (
      cP (f_X12_in x3 (0 : Int32) (10 : Int32) M) fun v3 =>
      if v3 = 0 then (
        some (-1000000000000000002 : Int64)
      ) else (
        cP (f_X12_in x4 (0 : Int32) (1 : Int32) M) fun v4 =>
        if v4 = 0 then (
          some (-1000000000000000002 : Int64)
        ) else (
          (lp (fun s => s_X12_snow_50 x1 x2 x3 M s.1 s.2) ((0 : Int64), (0 : Int32))).bind fun e18 =>
          cL (f_X12_tens x2 M) fun w19 =>
          (lp (fun s => s_X12_snow_143 s.1 s.2) (e18.1, w19)).bind fun e23 =>
          (
            if x4 = 0 then (
              if e23.1 = 0 then none else
              some (e18.1 / e23.1)
            ) else (
              if e23.1 = 0 then none else
              some (w19 / e23.1)
            )
          ).bind fun w24 =>
          some w24
        )
      )
    )
  )
noncomputable def f_X12_snow (a0 : Nat) (x1 : Int32) (x2 : Int32) (x3 : Int32) (x4 : Int32) (M : Me) : Option (Int64) := ck M a0 12 (b_X12_snow a0 x1 x2 x3 x4 M)
set_option maxRecDepth 20000 in
theorem vb_X12_snow (d : Nat) (hd : 1 ≤ d) (a0 : Nat) (x1 : Int32) (x2 : Int32) (x3 : Int32) (x4 : Int32) (M : Me) : V (mX12_snow, d, 0, 0) (0, 0) M 0 [some (.ref a0), some (.int x1), some (.int x2), some (.int x3), some (.int x4), none, none, none, none, none, none, none, none, none, none] [] (b_X12_snow a0 x1 x2 x3 x4 M) (fun z => some (some (.long z), M)) := by
  unfold b_X12_snow
  refine v_iload_n (q := 1) dX12_snow_0 rfl rfl rfl ?_
  refine v_iconst (q := 2) dX12_snow_1 rfl ic_0 ?_
  refine v_bipush (q := 4) dX12_snow_2 rfl bp_6 ?_
  refine v_cPS3 (q := 7) (ct_X12_in (d - 1) (by omega) _ _ _ _) dX12_snow_4 rfl cc_X12_81 (by omega) (Nat.le_of_ble_eq_true rfl) ⟨Nat.le_of_ble_eq_true rfl, Nat.le_of_ble_eq_true rfl⟩ (fun v1 => ?_)
  refine v_if_eq (tgt := 40) (q := 10) dX12_snow_7 rfl rfl ?_ ?_
  · refine v_ldc2 (q := 43) (v := (-1000000000000000002 : Int64)) kl_X12_218 dX12_snow_40 rfl ?_
    exact v_lret rfl dX12_snow_43 ⟨Nat.le_of_ble_eq_true rfl, Nat.le_of_ble_eq_true rfl⟩ rfl
  · refine v_iload_n (q := 11) dX12_snow_10 rfl rfl rfl ?_
    refine v_iconst (q := 12) dX12_snow_11 rfl ic_0 ?_
    refine v_bipush (q := 14) dX12_snow_12 rfl bp_10 ?_
    refine v_cPS3 (q := 17) (ct_X12_in (d - 1) (by omega) _ _ _ _) dX12_snow_14 rfl cc_X12_81 (by omega) (Nat.le_of_ble_eq_true rfl) ⟨Nat.le_of_ble_eq_true rfl, Nat.le_of_ble_eq_true rfl⟩ (fun v2 => ?_)
    refine v_if_eq (tgt := 40) (q := 20) dX12_snow_17 rfl rfl ?_ ?_
    · refine v_ldc2 (q := 43) (v := (-1000000000000000002 : Int64)) kl_X12_218 dX12_snow_40 rfl ?_
      exact v_lret rfl dX12_snow_43 ⟨Nat.le_of_ble_eq_true rfl, Nat.le_of_ble_eq_true rfl⟩ rfl
    · refine v_iload_n (q := 21) dX12_snow_20 rfl rfl rfl ?_
      refine v_iconst (q := 22) dX12_snow_21 rfl ic_0 ?_
      refine v_bipush (q := 24) dX12_snow_22 rfl bp_10 ?_
      refine v_cPS3 (q := 27) (ct_X12_in (d - 1) (by omega) _ _ _ _) dX12_snow_24 rfl cc_X12_81 (by omega) (Nat.le_of_ble_eq_true rfl) ⟨Nat.le_of_ble_eq_true rfl, Nat.le_of_ble_eq_true rfl⟩ (fun v3 => ?_)
      refine v_if_eq (tgt := 40) (q := 30) dX12_snow_27 rfl rfl ?_ ?_
      · refine v_ldc2 (q := 43) (v := (-1000000000000000002 : Int64)) kl_X12_218 dX12_snow_40 rfl ?_
        exact v_lret rfl dX12_snow_43 ⟨Nat.le_of_ble_eq_true rfl, Nat.le_of_ble_eq_true rfl⟩ rfl
      · refine v_iload (q := 32) dX12_snow_30 rfl rfl ?_
        refine v_iconst (q := 33) dX12_snow_32 rfl ic_0 ?_
        refine v_iconst (q := 34) dX12_snow_33 rfl ic_1 ?_
        refine v_cPS3 (q := 37) (ct_X12_in (d - 1) (by omega) _ _ _ _) dX12_snow_34 rfl cc_X12_81 (by omega) (Nat.le_of_ble_eq_true rfl) ⟨Nat.le_of_ble_eq_true rfl, Nat.le_of_ble_eq_true rfl⟩ (fun v4 => ?_)
        refine v_if_ne (tgt := 44) (q := 40) dX12_snow_37 rfl rfl ?_ ?_
        · refine v_lconst (q := 45) dX12_snow_44 rfl rfl ?_
          refine v_lstore (q := 47) (loc2 := [some (.ref a0), some (.int x1), some (.int x2), some (.int x3), some (.int x4), some (.long (0 : Int64)), none, none, none, none, none, none, none, none, none]) dX12_snow_45 rfl rfl (Nat.le_of_ble_eq_true rfl) rfl ?_
          refine v_iconst (q := 48) dX12_snow_47 rfl ic_0 ?_
          refine v_istore (q := 50) (loc2 := [some (.ref a0), some (.int x1), some (.int x2), some (.int x3), some (.int x4), some (.long (0 : Int64)), none, some (.int (0 : Int32)), none, none, none, none, none, none, none]) dX12_snow_48 rfl rfl (Nat.le_of_ble_eq_true rfl) rfl ?_
          refine v_lps (S := Int64 × Int32) 129 (fun s => M) (fun s => [some (.ref a0), some (.int x1), some (.int x2), some (.int x3), some (.int x4), some (.long s.1), none, some (.int s.2), none, none, none, none, none, none, none]) (fun e18 => M) (fun e18 => [some (.ref a0), some (.int x1), some (.int x2), some (.int x3), some (.int x4), some (.long e18.1), none, some (.int e18.2), none, none, none, none, none, none, none]) (fun e18 => ?_) (fun k K hk hx s => ?_)
          · refine v_iload_n (q := 130) dX12_snow_129 rfl rfl rfl ?_
            refine v_cLS1 (q := 133) (ct_X12_tens (d - 1) (by omega) _ _) dX12_snow_130 rfl cc_X12_210 (by omega) (Nat.le_of_ble_eq_true rfl) ⟨Nat.le_of_ble_eq_true rfl, Nat.le_of_ble_eq_true rfl⟩ (fun w19 => ?_)
            refine v_lstore (q := 135) (loc2 := [some (.ref a0), some (.int x1), some (.int x2), some (.int x3), some (.int x4), some (.long e18.1), none, some (.long w19), none, none, none, none, none, none, none]) dX12_snow_133 rfl rfl (Nat.le_of_ble_eq_true rfl) rfl ?_
            refine v_lload (q := 137) dX12_snow_135 rfl rfl ?_
            refine v_lstore (q := 139) (loc2 := [some (.ref a0), some (.int x1), some (.int x2), some (.int x3), some (.int x4), some (.long e18.1), none, some (.long w19), none, some (.long e18.1), none, none, none, none, none]) dX12_snow_137 rfl rfl (Nat.le_of_ble_eq_true rfl) rfl ?_
            refine v_lload (q := 141) dX12_snow_139 rfl rfl ?_
            refine v_lstore (q := 143) (loc2 := [some (.ref a0), some (.int x1), some (.int x2), some (.int x3), some (.int x4), some (.long e18.1), none, some (.long w19), none, some (.long e18.1), none, some (.long w19), none, none, none]) dX12_snow_141 rfl rfl (Nat.le_of_ble_eq_true rfl) rfl ?_
            refine v_lps (S := Int64 × Int64) 168 (fun s => M) (fun s => [some (.ref a0), some (.int x1), some (.int x2), some (.int x3), some (.int x4), some (.long e18.1), none, some (.long w19), none, some (.long s.1), none, some (.long s.2), none, none, none]) (fun e23 => M) (fun e23 => [some (.ref a0), some (.int x1), some (.int x2), some (.int x3), some (.int x4), some (.long e18.1), none, some (.long w19), none, some (.long e23.1), none, some (.long e23.2), none, none, none]) (fun e23 => ?_) (fun k K hk hx s => ?_)
            · refine v_iload (q := 170) dX12_snow_168 rfl rfl ?_
              refine v_join (γ := Int64) 186 (fun w24 => M) (fun w24 => [some (.ref a0), some (.int x1), some (.int x2), some (.int x3), some (.int x4), some (.long e18.1), none, some (.long w19), none, some (.long e23.1), none, some (.long e23.2), none, none, none]) (fun w24 => [.long w24]) (fun K hK => ?_) (fun w24 => ?_)
              · refine v_if_ne (tgt := 181) (q := 173) dX12_snow_170 rfl rfl ?_ ?_
                · refine v_lload (q := 183) dX12_snow_181 rfl rfl ?_
                  refine v_lload (q := 185) dX12_snow_183 rfl rfl ?_
                  refine v_ldiv (q := 186) dX12_snow_185 rfl ?_
                  exact hK (w19 / e23.1)
                · refine v_lload (q := 175) dX12_snow_173 rfl rfl ?_
                  refine v_lload (q := 177) dX12_snow_175 rfl rfl ?_
                  refine v_ldiv (q := 178) dX12_snow_177 rfl ?_
                  refine v_goto (tgt := 186) dX12_snow_178 rfl ?_
                  exact hK (e18.1 / e23.1)
              · exact v_lret rfl dX12_snow_186 ⟨Nat.le_of_ble_eq_true rfl, Nat.le_of_ble_eq_true rfl⟩ rfl
            · obtain ⟨w20, w21⟩ := s
              show V _ _ M 143 [some (.ref a0), some (.int x1), some (.int x2), some (.int x3), some (.int x4), some (.long e18.1), none, some (.long w19), none, some (.long w20), none, some (.long w21), none, none, none] [] (s_X12_snow_143 w20 w21) _
              unfold s_X12_snow_143
              refine v_lload (q := 145) dX12_snow_143 rfl rfl ?_
              refine v_lconst (q := 146) dX12_snow_145 rfl rfl ?_
              refine v_lcmp (q := 147) dX12_snow_146 rfl ?_
              refine v_if_eq (tgt := 168) (q := 150) dX12_snow_147 rfl rfl ?_ ?_
              · exact v_inr (hx (w20, w21))
              · refine v_lload (q := 152) dX12_snow_150 rfl rfl ?_
                refine v_lload (q := 154) dX12_snow_152 rfl rfl ?_
                refine v_lrem (q := 155) dX12_snow_154 rfl ?_
                refine v_letJ (fun w22 => ?_)
                refine v_lstore (q := 157) (loc2 := [some (.ref a0), some (.int x1), some (.int x2), some (.int x3), some (.int x4), some (.long e18.1), none, some (.long w19), none, some (.long w20), none, some (.long w21), none, some (.long w22), none]) dX12_snow_155 rfl rfl (Nat.le_of_ble_eq_true rfl) rfl ?_
                refine v_lload (q := 159) dX12_snow_157 rfl rfl ?_
                refine v_lstore (q := 161) (loc2 := [some (.ref a0), some (.int x1), some (.int x2), some (.int x3), some (.int x4), some (.long e18.1), none, some (.long w19), none, some (.long w21), none, some (.long w21), none, some (.long w22), none]) dX12_snow_159 rfl rfl (Nat.le_of_ble_eq_true rfl) rfl ?_
                refine v_lload (q := 163) dX12_snow_161 rfl rfl ?_
                refine v_lstore (q := 165) (loc2 := [some (.ref a0), some (.int x1), some (.int x2), some (.int x3), some (.int x4), some (.long e18.1), none, some (.long w19), none, some (.long w21), none, some (.long w22), none, some (.long w22), none]) dX12_snow_163 rfl rfl (Nat.le_of_ble_eq_true rfl) rfl ?_
                refine v_goto (tgt := 143) dX12_snow_165 rfl ?_
                exact v_inl (v_weak (hk (w21, w22)) ⟨rfl, ⟨rfl, ⟨rfl, ⟨rfl, ⟨rfl, ⟨rfl, ⟨rfl, ⟨rfl, ⟨rfl, trivial⟩⟩⟩⟩⟩⟩⟩⟩⟩)
          · obtain ⟨w5, v6⟩ := s
            show V _ _ M 50 [some (.ref a0), some (.int x1), some (.int x2), some (.int x3), some (.int x4), some (.long w5), none, some (.int v6), none, none, none, none, none, none, none] [] (s_X12_snow_50 x1 x2 x3 M w5 v6) _
            unfold s_X12_snow_50
            refine v_iload (q := 52) dX12_snow_50 rfl rfl ?_
            refine v_iconst (q := 53) dX12_snow_52 rfl ic_1 ?_
            refine v_iload_n (q := 54) dX12_snow_53 rfl rfl rfl ?_
            refine v_ishl (q := 55) dX12_snow_54 rfl ?_
            refine v_icmp_ge (tgt := 129) (q := 58) dX12_snow_55 rfl rfl ?_ ?_
            · exact v_inr (hx (w5, v6))
            · refine v_lconst (q := 59) dX12_snow_58 rfl rfl ?_
              refine v_lstore (q := 61) (loc2 := [some (.ref a0), some (.int x1), some (.int x2), some (.int x3), some (.int x4), some (.long w5), none, some (.int v6), some (.long (1 : Int64)), none, none, none, none, none, none]) dX12_snow_59 rfl rfl (Nat.le_of_ble_eq_true rfl) rfl ?_
              refine v_iconst (q := 62) dX12_snow_61 rfl ic_0 ?_
              refine v_istore (q := 64) (loc2 := [some (.ref a0), some (.int x1), some (.int x2), some (.int x3), some (.int x4), some (.long w5), none, some (.int v6), some (.long (1 : Int64)), none, some (.int (0 : Int32)), none, none, none, none]) dX12_snow_62 rfl rfl (Nat.le_of_ble_eq_true rfl) rfl ?_
              refine v_lps (S := Int64 × Int32) 101 (fun s => M) (fun s => [some (.ref a0), some (.int x1), some (.int x2), some (.int x3), some (.int x4), some (.long w5), none, some (.int v6), some (.long s.1), none, some (.int s.2), none, none, none, none]) (fun e13 => M) (fun e13 => [some (.ref a0), some (.int x1), some (.int x2), some (.int x3), some (.int x4), some (.long w5), none, some (.int v6), some (.long e13.1), none, some (.int e13.2), none, none, none, none]) (fun e13 => ?_) (fun k K hk hx s => ?_)
              · refine v_lload (q := 103) dX12_snow_101 rfl rfl ?_
                refine v_iload_n (q := 104) dX12_snow_103 rfl rfl rfl ?_
                refine v_iload (q := 106) dX12_snow_104 rfl rfl ?_
                refine v_cPS1 (q := 109) (ct_X12_bits (d - 1) (by omega) _ _) dX12_snow_106 rfl cc_X12_105 (by omega) (Nat.le_of_ble_eq_true rfl) ⟨Nat.le_of_ble_eq_true rfl, Nat.le_of_ble_eq_true rfl⟩ (fun v14 => ?_)
                refine v_isub (q := 110) dX12_snow_109 rfl ?_
                refine v_iload_n (q := 111) dX12_snow_110 rfl rfl rfl ?_
                refine v_join (γ := Int64) 120 (fun w15 => M) (fun w15 => [some (.ref a0), some (.int x1), some (.int x2), some (.int x3), some (.int x4), some (.long w5), none, some (.int v6), some (.long e13.1), none, some (.int e13.2), none, none, none, none]) (fun w15 => [.long w15, .long w5]) (fun K hK => ?_) (fun w15 => ?_)
                · refine v_icmp_lt (tgt := 119) (q := 114) dX12_snow_111 rfl rfl ?_ ?_
                  · refine v_lconst (q := 120) dX12_snow_119 rfl rfl ?_
                    exact hK (0 : Int64)
                  · refine v_lload (q := 116) dX12_snow_114 rfl rfl ?_
                    refine v_goto (tgt := 120) dX12_snow_116 rfl ?_
                    exact hK e13.1
                · refine v_ladd (q := 121) dX12_snow_120 rfl ?_
                  refine v_letJ (fun w16 => ?_)
                  refine v_lstore (q := 123) (loc2 := [some (.ref a0), some (.int x1), some (.int x2), some (.int x3), some (.int x4), some (.long w16), none, some (.int v6), some (.long e13.1), none, some (.int e13.2), none, none, none, none]) dX12_snow_121 rfl rfl (Nat.le_of_ble_eq_true rfl) rfl ?_
                  refine v_iincL (q := 126) (x := v6) (cst := (1 : Int32)) (f := fun v17 => [some (.ref a0), some (.int x1), some (.int x2), some (.int x3), some (.int x4), some (.long w16), none, some (.int v17), some (.long e13.1), none, some (.int e13.2), none, none, none, none]) dX12_snow_123 rfl rfl ic_1 rfl (Nat.le_of_ble_eq_true rfl) (fun _ => rfl) (fun v17 => ?_)
                  refine v_goto (tgt := 50) dX12_snow_126 rfl ?_
                  exact v_inl (v_weak (hk (w16, v17)) ⟨rfl, ⟨rfl, ⟨rfl, ⟨rfl, ⟨rfl, ⟨rfl, ⟨rfl, trivial⟩⟩⟩⟩⟩⟩⟩)
              · obtain ⟨w7, v8⟩ := s
                show V _ _ M 64 [some (.ref a0), some (.int x1), some (.int x2), some (.int x3), some (.int x4), some (.long w5), none, some (.int v6), some (.long w7), none, some (.int v8), none, none, none, none] [] (s_X12_snow_64 x2 x3 M v6 w7 v8) _
                unfold s_X12_snow_64
                refine v_iload (q := 66) dX12_snow_64 rfl rfl ?_
                refine v_iload_n (q := 67) dX12_snow_66 rfl rfl rfl ?_
                refine v_icmp_ge (tgt := 101) (q := 70) dX12_snow_67 rfl rfl ?_ ?_
                · exact v_inr (hx (w7, v8))
                · refine v_lload (q := 72) dX12_snow_70 rfl rfl ?_
                  refine v_iload (q := 74) dX12_snow_72 rfl rfl ?_
                  refine v_iload (q := 76) dX12_snow_74 rfl rfl ?_
                  refine v_cPS2 (q := 79) (ct_X12_has (d - 1) (by omega) _ _ _) dX12_snow_76 rfl cc_X12_85 (by omega) (Nat.le_of_ble_eq_true rfl) ⟨Nat.le_of_ble_eq_true rfl, Nat.le_of_ble_eq_true rfl⟩ (fun v9 => ?_)
                  refine v_join (γ := Int64) 92 (fun w10 => M) (fun w10 => [some (.ref a0), some (.int x1), some (.int x2), some (.int x3), some (.int x4), some (.long w5), none, some (.int v6), some (.long w7), none, some (.int v8), none, none, none, none]) (fun w10 => [.long w10, .long w7]) (fun K hK => ?_) (fun w10 => ?_)
                  · refine v_if_eq (tgt := 87) (q := 82) dX12_snow_79 rfl rfl ?_ ?_
                    · refine v_bipush (q := 89) dX12_snow_87 rfl bp_10 ?_
                      refine v_iload_n (q := 90) dX12_snow_89 rfl rfl rfl ?_
                      refine v_isub (q := 91) dX12_snow_90 rfl ?_
                      refine v_i2l (q := 92) dX12_snow_91 rfl ?_
                      exact hK (((10 : Int32) - x3).toInt64)
                    · refine v_iload_n (q := 83) dX12_snow_82 rfl rfl rfl ?_
                      refine v_i2l (q := 84) dX12_snow_83 rfl ?_
                      refine v_goto (tgt := 92) dX12_snow_84 rfl ?_
                      exact hK (x3.toInt64)
                  · refine v_lmul (q := 93) dX12_snow_92 rfl ?_
                    refine v_letJ (fun w11 => ?_)
                    refine v_lstore (q := 95) (loc2 := [some (.ref a0), some (.int x1), some (.int x2), some (.int x3), some (.int x4), some (.long w5), none, some (.int v6), some (.long w11), none, some (.int v8), none, none, none, none]) dX12_snow_93 rfl rfl (Nat.le_of_ble_eq_true rfl) rfl ?_
                    refine v_iincL (q := 98) (x := v8) (cst := (1 : Int32)) (f := fun v12 => [some (.ref a0), some (.int x1), some (.int x2), some (.int x3), some (.int x4), some (.long w5), none, some (.int v6), some (.long w11), none, some (.int v12), none, none, none, none]) dX12_snow_95 rfl rfl ic_1 rfl (Nat.le_of_ble_eq_true rfl) (fun _ => rfl) (fun v12 => ?_)
                    refine v_goto (tgt := 64) dX12_snow_98 rfl ?_
                    exact v_inl (hk (w11, v12))
        · refine v_ldc2 (q := 43) (v := (-1000000000000000002 : Int64)) kl_X12_218 dX12_snow_40 rfl ?_
          exact v_lret rfl dX12_snow_43 ⟨Nat.le_of_ble_eq_true rfl, Nat.le_of_ble_eq_true rfl⟩ rfl
theorem ct_X12_snow (d : Nat) (hd : 1 ≤ d) (a0 : Nat) (x1 : Int32) (x2 : Int32) (x3 : Int32) (x4 : Int32) (M : Me) (r : Int64) (hf : f_X12_snow a0 x1 x2 x3 x4 M = some r) : me_k M a0 = some (12, nf_c 12) ∧ Ct yX12_snow mX12_snow d 0 0 [.ref a0, .int x1, .int x2, .int x3, .int x4] M (some (.long r), M) := by
  obtain ⟨hk, hb⟩ := ck_some hf
  exact ⟨hk, ct_of (by decide +kernel) rfl rfl (Nat.le_of_ble_eq_true rfl) (vb_X12_snow d hd a0 x1 x2 x3 x4 M) (by rw [hb]; rfl)⟩
theorem dX12_year_0 : decode cX12_year 0 = .ok (.iload_n 1, 1) := by decide +kernel
theorem dX12_year_1 : decode cX12_year 1 = .ok (.iconst 0, 1) := by decide +kernel
theorem dX12_year_2 : decode cX12_year 2 = .ok (.sipush 9999, 3) := by decide +kernel
theorem dX12_year_5 : decode cX12_year 5 = .ok (.invokestatic 81, 3) := by decide +kernel
theorem dX12_year_8 : decode cX12_year 8 = .ok (.ifCond .eq 22, 3) := by decide +kernel
theorem dX12_year_11 : decode cX12_year 11 = .ok (.iload_n 2, 1) := by decide +kernel
theorem dX12_year_12 : decode cX12_year 12 = .ok (.iconst 1, 1) := by decide +kernel
theorem dX12_year_13 : decode cX12_year 13 = .ok (.bipush 99, 2) := by decide +kernel
theorem dX12_year_15 : decode cX12_year 15 = .ok (.invokestatic 81, 3) := by decide +kernel
theorem dX12_year_18 : decode cX12_year 18 = .ok (.ifCond .eq 12, 3) := by decide +kernel
theorem dX12_year_21 : decode cX12_year 21 = .ok (.iload_n 3, 1) := by decide +kernel
theorem dX12_year_22 : decode cX12_year 22 = .ok (.iconst 0, 1) := by decide +kernel
theorem dX12_year_23 : decode cX12_year 23 = .ok (.iconst 3, 1) := by decide +kernel
theorem dX12_year_24 : decode cX12_year 24 = .ok (.invokestatic 81, 3) := by decide +kernel
theorem dX12_year_27 : decode cX12_year 27 = .ok (.ifCond .ne 6, 3) := by decide +kernel
theorem dX12_year_30 : decode cX12_year 30 = .ok (.bipush (-2), 2) := by decide +kernel
theorem dX12_year_32 : decode cX12_year 32 = .ok (.ireturn, 1) := by decide +kernel
theorem dX12_year_33 : decode cX12_year 33 = .ok (.aload_n 0, 1) := by decide +kernel
theorem dX12_year_34 : decode cX12_year 34 = .ok (.invokevirtual 145, 3) := by decide +kernel
theorem dX12_year_37 : decode cX12_year 37 = .ok (.iload_n 1, 1) := by decide +kernel
theorem dX12_year_38 : decode cX12_year 38 = .ok (.istore 4, 2) := by decide +kernel
theorem dX12_year_40 : decode cX12_year 40 = .ok (.iconst 0, 1) := by decide +kernel
theorem dX12_year_41 : decode cX12_year 41 = .ok (.istore 5, 2) := by decide +kernel
theorem dX12_year_43 : decode cX12_year 43 = .ok (.iconst 0, 1) := by decide +kernel
theorem dX12_year_44 : decode cX12_year 44 = .ok (.istore 6, 2) := by decide +kernel
theorem dX12_year_46 : decode cX12_year 46 = .ok (.iconst 0, 1) := by decide +kernel
theorem dX12_year_47 : decode cX12_year 47 = .ok (.istore 7, 2) := by decide +kernel
theorem dX12_year_49 : decode cX12_year 49 = .ok (.iload 7, 2) := by decide +kernel
theorem dX12_year_51 : decode cX12_year 51 = .ok (.iload_n 2, 1) := by decide +kernel
theorem dX12_year_52 : decode cX12_year 52 = .ok (.if_icmp .ge 98, 3) := by decide +kernel
theorem dX12_year_55 : decode cX12_year 55 = .ok (.bipush 75, 2) := by decide +kernel
theorem dX12_year_57 : decode cX12_year 57 = .ok (.iload 4, 2) := by decide +kernel
theorem dX12_year_59 : decode cX12_year 59 = .ok (.imul, 1) := by decide +kernel
theorem dX12_year_60 : decode cX12_year 60 = .ok (.bipush 74, 2) := by decide +kernel
theorem dX12_year_62 : decode cX12_year 62 = .ok (.iadd, 1) := by decide +kernel
theorem dX12_year_63 : decode cX12_year 63 = .ok (.ldc 224, 2) := by decide +kernel
theorem dX12_year_65 : decode cX12_year 65 = .ok (.irem, 1) := by decide +kernel
theorem dX12_year_66 : decode cX12_year 66 = .ok (.istore 4, 2) := by decide +kernel
theorem dX12_year_68 : decode cX12_year 68 = .ok (.iload 4, 2) := by decide +kernel
theorem dX12_year_70 : decode cX12_year 70 = .ok (.bipush 6, 2) := by decide +kernel
theorem dX12_year_72 : decode cX12_year 72 = .ok (.irem, 1) := by decide +kernel
theorem dX12_year_73 : decode cX12_year 73 = .ok (.istore 8, 2) := by decide +kernel
theorem dX12_year_75 : decode cX12_year 75 = .ok (.iload 4, 2) := by decide +kernel
theorem dX12_year_77 : decode cX12_year 77 = .ok (.bipush 6, 2) := by decide +kernel
theorem dX12_year_79 : decode cX12_year 79 = .ok (.idiv, 1) := by decide +kernel
theorem dX12_year_80 : decode cX12_year 80 = .ok (.bipush 6, 2) := by decide +kernel
theorem dX12_year_82 : decode cX12_year 82 = .ok (.irem, 1) := by decide +kernel
theorem dX12_year_83 : decode cX12_year 83 = .ok (.istore 9, 2) := by decide +kernel
theorem dX12_year_85 : decode cX12_year 85 = .ok (.aload_n 0, 1) := by decide +kernel
theorem dX12_year_86 : decode cX12_year 86 = .ok (.iload 8, 2) := by decide +kernel
theorem dX12_year_88 : decode cX12_year 88 = .ok (.iload 9, 2) := by decide +kernel
theorem dX12_year_90 : decode cX12_year 90 = .ok (.iconst 1, 1) := by decide +kernel
theorem dX12_year_91 : decode cX12_year 91 = .ok (.invokevirtual 157, 3) := by decide +kernel
theorem dX12_year_94 : decode cX12_year 94 = .ok (.ifCond .ne 18, 3) := by decide +kernel
theorem dX12_year_97 : decode cX12_year 97 = .ok (.aload_n 0, 1) := by decide +kernel
theorem dX12_year_98 : decode cX12_year 98 = .ok (.iload 8, 2) := by decide +kernel
theorem dX12_year_100 : decode cX12_year 100 = .ok (.iload 9, 2) := by decide +kernel
theorem dX12_year_102 : decode cX12_year 102 = .ok (.iconst 1, 1) := by decide +kernel
theorem dX12_year_103 : decode cX12_year 103 = .ok (.invokevirtual 161, 3) := by decide +kernel
theorem dX12_year_106 : decode cX12_year 106 = .ok (.iinc 5 1, 3) := by decide +kernel
theorem dX12_year_109 : decode cX12_year 109 = .ok (.goto 23, 3) := by decide +kernel
theorem dX12_year_112 : decode cX12_year 112 = .ok (.aload_n 0, 1) := by decide +kernel
theorem dX12_year_113 : decode cX12_year 113 = .ok (.iload 8, 2) := by decide +kernel
theorem dX12_year_115 : decode cX12_year 115 = .ok (.bipush 61, 2) := by decide +kernel
theorem dX12_year_117 : decode cX12_year 117 = .ok (.invokevirtual 165, 3) := by decide +kernel
theorem dX12_year_120 : decode cX12_year 120 = .ok (.ifCond .ne 12, 3) := by decide +kernel
theorem dX12_year_123 : decode cX12_year 123 = .ok (.aload_n 0, 1) := by decide +kernel
theorem dX12_year_124 : decode cX12_year 124 = .ok (.iload 8, 2) := by decide +kernel
theorem dX12_year_126 : decode cX12_year 126 = .ok (.invokevirtual 142, 3) := by decide +kernel
theorem dX12_year_129 : decode cX12_year 129 = .ok (.iinc 6 1, 3) := by decide +kernel
theorem dX12_year_132 : decode cX12_year 132 = .ok (.aload_n 0, 1) := by decide +kernel
theorem dX12_year_133 : decode cX12_year 133 = .ok (.iload 4, 2) := by decide +kernel
theorem dX12_year_135 : decode cX12_year 135 = .ok (.bipush 64, 2) := by decide +kernel
theorem dX12_year_137 : decode cX12_year 137 = .ok (.idiv, 1) := by decide +kernel
theorem dX12_year_138 : decode cX12_year 138 = .ok (.bipush 40, 2) := by decide +kernel
theorem dX12_year_140 : decode cX12_year 140 = .ok (.irem, 1) := by decide +kernel
theorem dX12_year_141 : decode cX12_year 141 = .ok (.invokevirtual 154, 3) := by decide +kernel
theorem dX12_year_144 : decode cX12_year 144 = .ok (.iinc 7 1, 3) := by decide +kernel
theorem dX12_year_147 : decode cX12_year 147 = .ok (.goto (-98), 3) := by decide +kernel
theorem dX12_year_150 : decode cX12_year 150 = .ok (.sipush 10000, 3) := by decide +kernel
theorem dX12_year_153 : decode cX12_year 153 = .ok (.istore 7, 2) := by decide +kernel
theorem dX12_year_155 : decode cX12_year 155 = .ok (.iconst 0, 1) := by decide +kernel
theorem dX12_year_156 : decode cX12_year 156 = .ok (.istore 8, 2) := by decide +kernel
theorem dX12_year_158 : decode cX12_year 158 = .ok (.iconst 0, 1) := by decide +kernel
theorem dX12_year_159 : decode cX12_year 159 = .ok (.istore 9, 2) := by decide +kernel
theorem dX12_year_161 : decode cX12_year 161 = .ok (.iload 9, 2) := by decide +kernel
theorem dX12_year_163 : decode cX12_year 163 = .ok (.bipush 6, 2) := by decide +kernel
theorem dX12_year_165 : decode cX12_year 165 = .ok (.if_icmp .ge 69, 3) := by decide +kernel
theorem dX12_year_168 : decode cX12_year 168 = .ok (.iload 7, 2) := by decide +kernel
theorem dX12_year_170 : decode cX12_year 170 = .ok (.aload_n 0, 1) := by decide +kernel
theorem dX12_year_171 : decode cX12_year 171 = .ok (.getfield 78, 3) := by decide +kernel
theorem dX12_year_174 : decode cX12_year 174 = .ok (.iload 9, 2) := by decide +kernel
theorem dX12_year_176 : decode cX12_year 176 = .ok (.invokestatic 85, 3) := by decide +kernel
theorem dX12_year_179 : decode cX12_year 179 = .ok (.ifCond .eq 13, 3) := by decide +kernel
theorem dX12_year_182 : decode cX12_year 182 = .ok (.aload_n 0, 1) := by decide +kernel
theorem dX12_year_183 : decode cX12_year 183 = .ok (.getfield 56, 3) := by decide +kernel
theorem dX12_year_186 : decode cX12_year 186 = .ok (.iload 9, 2) := by decide +kernel
theorem dX12_year_188 : decode cX12_year 188 = .ok (.iaload, 1) := by decide +kernel
theorem dX12_year_189 : decode cX12_year 189 = .ok (.goto 4, 3) := by decide +kernel
theorem dX12_year_192 : decode cX12_year 192 = .ok (.iconst 0, 1) := by decide +kernel
theorem dX12_year_193 : decode cX12_year 193 = .ok (.iadd, 1) := by decide +kernel
theorem dX12_year_194 : decode cX12_year 194 = .ok (.istore 7, 2) := by decide +kernel
theorem dX12_year_196 : decode cX12_year 196 = .ok (.iload 8, 2) := by decide +kernel
theorem dX12_year_198 : decode cX12_year 198 = .ok (.aload_n 0, 1) := by decide +kernel
theorem dX12_year_199 : decode cX12_year 199 = .ok (.getfield 78, 3) := by decide +kernel
theorem dX12_year_202 : decode cX12_year 202 = .ok (.iload 9, 2) := by decide +kernel
theorem dX12_year_204 : decode cX12_year 204 = .ok (.invokestatic 85, 3) := by decide +kernel
theorem dX12_year_207 : decode cX12_year 207 = .ok (.ifCond .eq 17, 3) := by decide +kernel
theorem dX12_year_210 : decode cX12_year 210 = .ok (.aload_n 0, 1) := by decide +kernel
theorem dX12_year_211 : decode cX12_year 211 = .ok (.getfield 53, 3) := by decide +kernel
theorem dX12_year_214 : decode cX12_year 214 = .ok (.iload 9, 2) := by decide +kernel
theorem dX12_year_216 : decode cX12_year 216 = .ok (.iaload, 1) := by decide +kernel
theorem dX12_year_217 : decode cX12_year 217 = .ok (.ifCond .ne 7, 3) := by decide +kernel
theorem dX12_year_220 : decode cX12_year 220 = .ok (.iconst 1, 1) := by decide +kernel
theorem dX12_year_221 : decode cX12_year 221 = .ok (.goto 4, 3) := by decide +kernel
theorem dX12_year_224 : decode cX12_year 224 = .ok (.iconst 0, 1) := by decide +kernel
theorem dX12_year_225 : decode cX12_year 225 = .ok (.iadd, 1) := by decide +kernel
theorem dX12_year_226 : decode cX12_year 226 = .ok (.istore 8, 2) := by decide +kernel
theorem dX12_year_228 : decode cX12_year 228 = .ok (.iinc 9 1, 3) := by decide +kernel
theorem dX12_year_231 : decode cX12_year 231 = .ok (.goto (-70), 3) := by decide +kernel
theorem dX12_year_234 : decode cX12_year 234 = .ok (.iload_n 3, 1) := by decide +kernel
theorem dX12_year_235 : decode cX12_year 235 = .ok (.ifCond .ne 8, 3) := by decide +kernel
theorem dX12_year_238 : decode cX12_year 238 = .ok (.iload 5, 2) := by decide +kernel
theorem dX12_year_240 : decode cX12_year 240 = .ok (.goto 25, 3) := by decide +kernel
theorem dX12_year_243 : decode cX12_year 243 = .ok (.iload_n 3, 1) := by decide +kernel
theorem dX12_year_244 : decode cX12_year 244 = .ok (.iconst 1, 1) := by decide +kernel
theorem dX12_year_245 : decode cX12_year 245 = .ok (.if_icmp .ne 8, 3) := by decide +kernel
theorem dX12_year_248 : decode cX12_year 248 = .ok (.iload 6, 2) := by decide +kernel
theorem dX12_year_250 : decode cX12_year 250 = .ok (.goto 15, 3) := by decide +kernel
theorem dX12_year_253 : decode cX12_year 253 = .ok (.iload_n 3, 1) := by decide +kernel
theorem dX12_year_254 : decode cX12_year 254 = .ok (.iconst 2, 1) := by decide +kernel
theorem dX12_year_255 : decode cX12_year 255 = .ok (.if_icmp .ne 8, 3) := by decide +kernel
theorem dX12_year_258 : decode cX12_year 258 = .ok (.iload 7, 2) := by decide +kernel
theorem dX12_year_260 : decode cX12_year 260 = .ok (.goto 5, 3) := by decide +kernel
theorem dX12_year_263 : decode cX12_year 263 = .ok (.iload 8, 2) := by decide +kernel
theorem dX12_year_265 : decode cX12_year 265 = .ok (.ireturn, 1) := by decide +kernel
noncomputable def s_X12_year_49 (a0 : Nat) (x2 : Int32) (M5 : Me) (v6 : Int32) (v7 : Int32) (v8 : Int32) (v9 : Int32) : Option ((Me × Int32 × Int32 × Int32 × Int32) ⊕ (Me × Int32 × Int32 × Int32 × Int32)) :=
  if x2 ≤ v9 then (
    some (Sum.inr (M5, v6, v7, v8, v9))
  ) else (
    let_v (((((75 : Int32) * v6) + (74 : Int32)) - (((75 : Int32) * v6) + (74 : Int32)) / (65537 : Int32) * (65537 : Int32))) fun v10 =>
    let_v ((v10 - v10 / (6 : Int32) * (6 : Int32))) fun v11 =>
    let_v (((v10 / (6 : Int32)) - (v10 / (6 : Int32)) / (6 : Int32) * (6 : Int32))) fun v12 =>
    cP (f_X12_whyNotStrike a0 v11 v12 (1 : Int32) M5) fun v13 =>
    (
      if v13 = 0 then (
        cM (f_X12_hit a0 v11 v12 (1 : Int32) M5) fun M17 =>
        let_v (v7 + (1 : Int32)) fun v18 =>
        some (M17, v18, v8)
      ) else (
        cP (f_X12_whyNot a0 v11 (61 : Int32) M5) fun v14 =>
        if v14 = 0 then (
          cM (f_X12_giveBack a0 v11 M5) fun M15 =>
          let_v (v8 + (1 : Int32)) fun v16 =>
          some (M15, v7, v16)
        ) else (
          some (M5, v7, v8)
        )
      )
    ).bind fun q19 =>
    cM (f_X12_pass a0 ((v10 / (64 : Int32)) - (v10 / (64 : Int32)) / (40 : Int32) * (40 : Int32)) q19.1) fun M20 =>
    let_v (v9 + (1 : Int32)) fun v21 =>
    some (Sum.inl (M20, v10, q19.2.1, q19.2.2, v21))
  )
noncomputable def s_X12_year_161 (a0 : Nat) (e22 : Me × Int32 × Int32 × Int32 × Int32) (v23 : Int32) (v24 : Int32) (v25 : Int32) : Option ((Int32 × Int32 × Int32) ⊕ (Int32 × Int32 × Int32)) :=
  if (6 : Int32) ≤ v25 then (
    some (Sum.inr (v23, v24, v25))
  ) else (
    gi e22.1 a0 12 3 fun v26 =>
    cP (f_X12_has v26 v25 e22.1) fun v27 =>
    (
      if v27 = 0 then (
        some (0 : Int32)
      ) else (
        gr e22.1 a0 12 21 fun o28 =>
        li e22.1 o28 v25 fun v29 =>
        some v29
      )
    ).bind fun v30 =>
    let_v ((v23 + v30)) fun v31 =>
    gi e22.1 a0 12 3 fun v32 =>
    cP (f_X12_has v32 v25 e22.1) fun v33 =>
    (
      if v33 = 0 then (
        some (0 : Int32)
      ) else (
        gr e22.1 a0 12 20 fun o34 =>
        li e22.1 o34 v25 fun v35 =>
        if v35 = 0 then (
          some (1 : Int32)
        ) else (
          some (0 : Int32)
        )
      )
    ).bind fun v36 =>
    let_v ((v24 + v36)) fun v37 =>
    let_v (v25 + (1 : Int32)) fun v38 =>
    some (Sum.inl (v31, v37, v38))
  )
noncomputable def b_X12_year (a0 : Nat) (x1 : Int32) (x2 : Int32) (x3 : Int32) (M : Me) : Option (Int32 × Me) :=
  cP (f_X12_in x1 (0 : Int32) (9999 : Int32) M) fun v1 =>
  if v1 = 0 then (
    some ((-2 : Int32), M)
  ) else (
    cP (f_X12_in x2 (1 : Int32) (99 : Int32) M) fun v2 =>
    if v2 = 0 then (
      some ((-2 : Int32), M)
    ) else (
      cP (f_X12_in x3 (0 : Int32) (3 : Int32) M) fun v3 =>
      if v3 = 0 then (
        some ((-2 : Int32), M)
      ) else (
        cM (f_X12_asNow a0 M) fun M4 =>
        (lp (fun s => s_X12_year_49 a0 x2 s.1 s.2.1 s.2.2.1 s.2.2.2.1 s.2.2.2.2) (M4, x1, (0 : Int32), (0 : Int32), (0 : Int32))).bind fun e22 =>
        (lp (fun s => s_X12_year_161 a0 e22 s.1 s.2.1 s.2.2) ((10000 : Int32), (0 : Int32), (0 : Int32))).bind fun e39 =>
        (
          if x3 = 0 then (
            some e22.2.2.1
          ) else (
            if x3 = (1 : Int32) then (
              some e22.2.2.2.1
            ) else (
              if x3 = (2 : Int32) then (
                some e39.1
              ) else (
                some e39.2.1
              )
            )
          )
        ).bind fun v40 =>
        some (v40, e22.1)
      )
    )
  )
noncomputable def f_X12_year (a0 : Nat) (x1 : Int32) (x2 : Int32) (x3 : Int32) (M : Me) : Option (Int32 × Me) := ck M a0 12 (b_X12_year a0 x1 x2 x3 M)
set_option maxRecDepth 20000 in
theorem vb_X12_year (d : Nat) (hd : 4 ≤ d) (a0 : Nat) (x1 : Int32) (x2 : Int32) (x3 : Int32) (M : Me) : V (mX12_year, d, 0, 0) (0, 0) M 0 [some (.ref a0), some (.int x1), some (.int x2), some (.int x3), none, none, none, none, none, none] [] (b_X12_year a0 x1 x2 x3 M) (fun z => some (some (.int z.1), z.2)) := by
  unfold b_X12_year
  refine v_iload_n (q := 1) dX12_year_0 rfl rfl rfl ?_
  refine v_iconst (q := 2) dX12_year_1 rfl ic_0 ?_
  refine v_sipush (q := 5) dX12_year_2 rfl sp_9999 ?_
  refine v_cPS3 (q := 8) (ct_X12_in (d - 1) (by omega) _ _ _ _) dX12_year_5 rfl cc_X12_81 (by omega) (Nat.le_of_ble_eq_true rfl) ⟨Nat.le_of_ble_eq_true rfl, Nat.le_of_ble_eq_true rfl⟩ (fun v1 => ?_)
  refine v_if_eq (tgt := 30) (q := 11) dX12_year_8 rfl rfl ?_ ?_
  · refine v_bipush (q := 32) dX12_year_30 rfl bp_m2 ?_
    exact v_iret rfl dX12_year_32 ⟨Nat.le_of_ble_eq_true rfl, Nat.le_of_ble_eq_true rfl⟩ rfl
  · refine v_iload_n (q := 12) dX12_year_11 rfl rfl rfl ?_
    refine v_iconst (q := 13) dX12_year_12 rfl ic_1 ?_
    refine v_bipush (q := 15) dX12_year_13 rfl bp_99 ?_
    refine v_cPS3 (q := 18) (ct_X12_in (d - 1) (by omega) _ _ _ _) dX12_year_15 rfl cc_X12_81 (by omega) (Nat.le_of_ble_eq_true rfl) ⟨Nat.le_of_ble_eq_true rfl, Nat.le_of_ble_eq_true rfl⟩ (fun v2 => ?_)
    refine v_if_eq (tgt := 30) (q := 21) dX12_year_18 rfl rfl ?_ ?_
    · refine v_bipush (q := 32) dX12_year_30 rfl bp_m2 ?_
      exact v_iret rfl dX12_year_32 ⟨Nat.le_of_ble_eq_true rfl, Nat.le_of_ble_eq_true rfl⟩ rfl
    · refine v_iload_n (q := 22) dX12_year_21 rfl rfl rfl ?_
      refine v_iconst (q := 23) dX12_year_22 rfl ic_0 ?_
      refine v_iconst (q := 24) dX12_year_23 rfl ic_3 ?_
      refine v_cPS3 (q := 27) (ct_X12_in (d - 1) (by omega) _ _ _ _) dX12_year_24 rfl cc_X12_81 (by omega) (Nat.le_of_ble_eq_true rfl) ⟨Nat.le_of_ble_eq_true rfl, Nat.le_of_ble_eq_true rfl⟩ (fun v3 => ?_)
      refine v_if_ne (tgt := 33) (q := 30) dX12_year_27 rfl rfl ?_ ?_
      · refine v_aload_n (q := 34) dX12_year_33 rfl rfl rfl ?_
        refine v_cMV0 (q := 37) (ct_X12_asNow (d - 1) (by omega) _ _) dX12_year_34 rfl cc_X12_145 (by omega) (Nat.le_of_ble_eq_true rfl) ⟨Nat.le_of_ble_eq_true rfl, Nat.le_of_ble_eq_true rfl⟩ (fun M4 => ?_)
        refine v_iload_n (q := 38) dX12_year_37 rfl rfl rfl ?_
        refine v_istore (q := 40) (loc2 := [some (.ref a0), some (.int x1), some (.int x2), some (.int x3), some (.int x1), none, none, none, none, none]) dX12_year_38 rfl rfl (Nat.le_of_ble_eq_true rfl) rfl ?_
        refine v_iconst (q := 41) dX12_year_40 rfl ic_0 ?_
        refine v_istore (q := 43) (loc2 := [some (.ref a0), some (.int x1), some (.int x2), some (.int x3), some (.int x1), some (.int (0 : Int32)), none, none, none, none]) dX12_year_41 rfl rfl (Nat.le_of_ble_eq_true rfl) rfl ?_
        refine v_iconst (q := 44) dX12_year_43 rfl ic_0 ?_
        refine v_istore (q := 46) (loc2 := [some (.ref a0), some (.int x1), some (.int x2), some (.int x3), some (.int x1), some (.int (0 : Int32)), some (.int (0 : Int32)), none, none, none]) dX12_year_44 rfl rfl (Nat.le_of_ble_eq_true rfl) rfl ?_
        refine v_iconst (q := 47) dX12_year_46 rfl ic_0 ?_
        refine v_istore (q := 49) (loc2 := [some (.ref a0), some (.int x1), some (.int x2), some (.int x3), some (.int x1), some (.int (0 : Int32)), some (.int (0 : Int32)), some (.int (0 : Int32)), none, none]) dX12_year_47 rfl rfl (Nat.le_of_ble_eq_true rfl) rfl ?_
        refine v_lps (S := Me × Int32 × Int32 × Int32 × Int32) 150 (fun s => s.1) (fun s => [some (.ref a0), some (.int x1), some (.int x2), some (.int x3), some (.int s.2.1), some (.int s.2.2.1), some (.int s.2.2.2.1), some (.int s.2.2.2.2), none, none]) (fun e22 => e22.1) (fun e22 => [some (.ref a0), some (.int x1), some (.int x2), some (.int x3), some (.int e22.2.1), some (.int e22.2.2.1), some (.int e22.2.2.2.1), some (.int e22.2.2.2.2), none, none]) (fun e22 => ?_) (fun k K hk hx s => ?_)
        · refine v_sipush (q := 153) dX12_year_150 rfl sp_10000 ?_
          refine v_istore (q := 155) (loc2 := [some (.ref a0), some (.int x1), some (.int x2), some (.int x3), some (.int e22.2.1), some (.int e22.2.2.1), some (.int e22.2.2.2.1), some (.int (10000 : Int32)), none, none]) dX12_year_153 rfl rfl (Nat.le_of_ble_eq_true rfl) rfl ?_
          refine v_iconst (q := 156) dX12_year_155 rfl ic_0 ?_
          refine v_istore (q := 158) (loc2 := [some (.ref a0), some (.int x1), some (.int x2), some (.int x3), some (.int e22.2.1), some (.int e22.2.2.1), some (.int e22.2.2.2.1), some (.int (10000 : Int32)), some (.int (0 : Int32)), none]) dX12_year_156 rfl rfl (Nat.le_of_ble_eq_true rfl) rfl ?_
          refine v_iconst (q := 159) dX12_year_158 rfl ic_0 ?_
          refine v_istore (q := 161) (loc2 := [some (.ref a0), some (.int x1), some (.int x2), some (.int x3), some (.int e22.2.1), some (.int e22.2.2.1), some (.int e22.2.2.2.1), some (.int (10000 : Int32)), some (.int (0 : Int32)), some (.int (0 : Int32))]) dX12_year_159 rfl rfl (Nat.le_of_ble_eq_true rfl) rfl ?_
          refine v_lps (S := Int32 × Int32 × Int32) 234 (fun s => e22.1) (fun s => [some (.ref a0), some (.int x1), some (.int x2), some (.int x3), some (.int e22.2.1), some (.int e22.2.2.1), some (.int e22.2.2.2.1), some (.int s.1), some (.int s.2.1), some (.int s.2.2)]) (fun e39 => e22.1) (fun e39 => [some (.ref a0), some (.int x1), some (.int x2), some (.int x3), some (.int e22.2.1), some (.int e22.2.2.1), some (.int e22.2.2.2.1), some (.int e39.1), some (.int e39.2.1), some (.int e39.2.2)]) (fun e39 => ?_) (fun k K hk hx s => ?_)
          · refine v_iload_n (q := 235) dX12_year_234 rfl rfl rfl ?_
            refine v_join (γ := Int32) 265 (fun v40 => e22.1) (fun v40 => [some (.ref a0), some (.int x1), some (.int x2), some (.int x3), some (.int e22.2.1), some (.int e22.2.2.1), some (.int e22.2.2.2.1), some (.int e39.1), some (.int e39.2.1), some (.int e39.2.2)]) (fun v40 => [.int v40]) (fun K hK => ?_) (fun v40 => ?_)
            · refine v_if_ne (tgt := 243) (q := 238) dX12_year_235 rfl rfl ?_ ?_
              · refine v_iload_n (q := 244) dX12_year_243 rfl rfl rfl ?_
                refine v_iconst (q := 245) dX12_year_244 rfl ic_1 ?_
                refine v_icmp_ne (tgt := 253) (q := 248) dX12_year_245 rfl rfl ?_ ?_
                · refine v_iload_n (q := 254) dX12_year_253 rfl rfl rfl ?_
                  refine v_iconst (q := 255) dX12_year_254 rfl ic_2 ?_
                  refine v_icmp_ne (tgt := 263) (q := 258) dX12_year_255 rfl rfl ?_ ?_
                  · refine v_iload (q := 265) dX12_year_263 rfl rfl ?_
                    exact hK e39.2.1
                  · refine v_iload (q := 260) dX12_year_258 rfl rfl ?_
                    refine v_goto (tgt := 265) dX12_year_260 rfl ?_
                    exact hK e39.1
                · refine v_iload (q := 250) dX12_year_248 rfl rfl ?_
                  refine v_goto (tgt := 265) dX12_year_250 rfl ?_
                  exact hK e22.2.2.2.1
              · refine v_iload (q := 240) dX12_year_238 rfl rfl ?_
                refine v_goto (tgt := 265) dX12_year_240 rfl ?_
                exact hK e22.2.2.1
            · exact v_iret rfl dX12_year_265 ⟨Nat.le_of_ble_eq_true rfl, Nat.le_of_ble_eq_true rfl⟩ rfl
          · obtain ⟨v23, v24, v25⟩ := s
            show V _ _ e22.1 161 [some (.ref a0), some (.int x1), some (.int x2), some (.int x3), some (.int e22.2.1), some (.int e22.2.2.1), some (.int e22.2.2.2.1), some (.int v23), some (.int v24), some (.int v25)] [] (s_X12_year_161 a0 e22 v23 v24 v25) _
            unfold s_X12_year_161
            refine v_iload (q := 163) dX12_year_161 rfl rfl ?_
            refine v_bipush (q := 165) dX12_year_163 rfl bp_6 ?_
            refine v_icmp_ge (tgt := 234) (q := 168) dX12_year_165 rfl rfl ?_ ?_
            · exact v_inr (hx (v23, v24, v25))
            · refine v_iload (q := 170) dX12_year_168 rfl rfl ?_
              refine v_aload_n (q := 171) dX12_year_170 rfl rfl rfl ?_
              refine v_getIb (q := 174) dX12_year_171 rfl fg_X12_78 (fun v26 => ?_)
              refine v_iload (q := 176) dX12_year_174 rfl rfl ?_
              refine v_cPS2 (q := 179) (ct_X12_has (d - 1) (by omega) _ _ _) dX12_year_176 rfl cc_X12_85 (by omega) (Nat.le_of_ble_eq_true rfl) ⟨Nat.le_of_ble_eq_true rfl, Nat.le_of_ble_eq_true rfl⟩ (fun v27 => ?_)
              refine v_join (γ := Int32) 193 (fun v30 => e22.1) (fun v30 => [some (.ref a0), some (.int x1), some (.int x2), some (.int x3), some (.int e22.2.1), some (.int e22.2.2.1), some (.int e22.2.2.2.1), some (.int v23), some (.int v24), some (.int v25)]) (fun v30 => [.int v30, .int v23]) (fun K hK => ?_) (fun v30 => ?_)
              · refine v_if_eq (tgt := 192) (q := 182) dX12_year_179 rfl rfl ?_ ?_
                · refine v_iconst (q := 193) dX12_year_192 rfl ic_0 ?_
                  exact hK (0 : Int32)
                · refine v_aload_n (q := 183) dX12_year_182 rfl rfl rfl ?_
                  refine v_getRb (q := 186) dX12_year_183 rfl fg_X12_56 (fun o28 => ?_)
                  refine v_iload (q := 188) dX12_year_186 rfl rfl ?_
                  refine v_iaload (q := 189) dX12_year_188 rfl (fun v29 => ?_)
                  refine v_goto (tgt := 193) dX12_year_189 rfl ?_
                  exact hK v29
              · refine v_iadd (q := 194) dX12_year_193 rfl ?_
                refine v_letI (fun v31 => ?_)
                refine v_istore (q := 196) (loc2 := [some (.ref a0), some (.int x1), some (.int x2), some (.int x3), some (.int e22.2.1), some (.int e22.2.2.1), some (.int e22.2.2.2.1), some (.int v31), some (.int v24), some (.int v25)]) dX12_year_194 rfl rfl (Nat.le_of_ble_eq_true rfl) rfl ?_
                refine v_iload (q := 198) dX12_year_196 rfl rfl ?_
                refine v_aload_n (q := 199) dX12_year_198 rfl rfl rfl ?_
                refine v_getIb (q := 202) dX12_year_199 rfl fg_X12_78 (fun v32 => ?_)
                refine v_iload (q := 204) dX12_year_202 rfl rfl ?_
                refine v_cPS2 (q := 207) (ct_X12_has (d - 1) (by omega) _ _ _) dX12_year_204 rfl cc_X12_85 (by omega) (Nat.le_of_ble_eq_true rfl) ⟨Nat.le_of_ble_eq_true rfl, Nat.le_of_ble_eq_true rfl⟩ (fun v33 => ?_)
                refine v_join (γ := Int32) 225 (fun v36 => e22.1) (fun v36 => [some (.ref a0), some (.int x1), some (.int x2), some (.int x3), some (.int e22.2.1), some (.int e22.2.2.1), some (.int e22.2.2.2.1), some (.int v31), some (.int v24), some (.int v25)]) (fun v36 => [.int v36, .int v24]) (fun K hK => ?_) (fun v36 => ?_)
                · refine v_if_eq (tgt := 224) (q := 210) dX12_year_207 rfl rfl ?_ ?_
                  · refine v_iconst (q := 225) dX12_year_224 rfl ic_0 ?_
                    exact hK (0 : Int32)
                  · refine v_aload_n (q := 211) dX12_year_210 rfl rfl rfl ?_
                    refine v_getRb (q := 214) dX12_year_211 rfl fg_X12_53 (fun o34 => ?_)
                    refine v_iload (q := 216) dX12_year_214 rfl rfl ?_
                    refine v_iaload (q := 217) dX12_year_216 rfl (fun v35 => ?_)
                    refine v_if_ne (tgt := 224) (q := 220) dX12_year_217 rfl rfl ?_ ?_
                    · refine v_iconst (q := 225) dX12_year_224 rfl ic_0 ?_
                      exact hK (0 : Int32)
                    · refine v_iconst (q := 221) dX12_year_220 rfl ic_1 ?_
                      refine v_goto (tgt := 225) dX12_year_221 rfl ?_
                      exact hK (1 : Int32)
                · refine v_iadd (q := 226) dX12_year_225 rfl ?_
                  refine v_letI (fun v37 => ?_)
                  refine v_istore (q := 228) (loc2 := [some (.ref a0), some (.int x1), some (.int x2), some (.int x3), some (.int e22.2.1), some (.int e22.2.2.1), some (.int e22.2.2.2.1), some (.int v31), some (.int v37), some (.int v25)]) dX12_year_226 rfl rfl (Nat.le_of_ble_eq_true rfl) rfl ?_
                  refine v_iincL (q := 231) (x := v25) (cst := (1 : Int32)) (f := fun v38 => [some (.ref a0), some (.int x1), some (.int x2), some (.int x3), some (.int e22.2.1), some (.int e22.2.2.1), some (.int e22.2.2.2.1), some (.int v31), some (.int v37), some (.int v38)]) dX12_year_228 rfl rfl ic_1 rfl (Nat.le_of_ble_eq_true rfl) (fun _ => rfl) (fun v38 => ?_)
                  refine v_goto (tgt := 161) dX12_year_231 rfl ?_
                  exact v_inl (hk (v31, v37, v38))
        · obtain ⟨M5, v6, v7, v8, v9⟩ := s
          show V _ _ M5 49 [some (.ref a0), some (.int x1), some (.int x2), some (.int x3), some (.int v6), some (.int v7), some (.int v8), some (.int v9), none, none] [] (s_X12_year_49 a0 x2 M5 v6 v7 v8 v9) _
          unfold s_X12_year_49
          refine v_iload (q := 51) dX12_year_49 rfl rfl ?_
          refine v_iload_n (q := 52) dX12_year_51 rfl rfl rfl ?_
          refine v_icmp_ge (tgt := 150) (q := 55) dX12_year_52 rfl rfl ?_ ?_
          · exact v_inr (hx (M5, v6, v7, v8, v9))
          · refine v_bipush (q := 57) dX12_year_55 rfl bp_75 ?_
            refine v_iload (q := 59) dX12_year_57 rfl rfl ?_
            refine v_imul (q := 60) dX12_year_59 rfl ?_
            refine v_bipush (q := 62) dX12_year_60 rfl bp_74 ?_
            refine v_iadd (q := 63) dX12_year_62 rfl ?_
            refine v_ldc (q := 65) (v := (65537 : Int32)) kc_X12_224 dX12_year_63 rfl ?_
            refine v_iremc (q := 66) dX12_year_65 rfl ne_65537 ?_
            refine v_letI (fun v10 => ?_)
            refine v_istore (q := 68) (loc2 := [some (.ref a0), some (.int x1), some (.int x2), some (.int x3), some (.int v10), some (.int v7), some (.int v8), some (.int v9), none, none]) dX12_year_66 rfl rfl (Nat.le_of_ble_eq_true rfl) rfl ?_
            refine v_iload (q := 70) dX12_year_68 rfl rfl ?_
            refine v_bipush (q := 72) dX12_year_70 rfl bp_6 ?_
            refine v_iremc (q := 73) dX12_year_72 rfl ne_6 ?_
            refine v_letI (fun v11 => ?_)
            refine v_istore (q := 75) (loc2 := [some (.ref a0), some (.int x1), some (.int x2), some (.int x3), some (.int v10), some (.int v7), some (.int v8), some (.int v9), some (.int v11), none]) dX12_year_73 rfl rfl (Nat.le_of_ble_eq_true rfl) rfl ?_
            refine v_iload (q := 77) dX12_year_75 rfl rfl ?_
            refine v_bipush (q := 79) dX12_year_77 rfl bp_6 ?_
            refine v_idivc (q := 80) dX12_year_79 rfl ne_6 ?_
            refine v_bipush (q := 82) dX12_year_80 rfl bp_6 ?_
            refine v_iremc (q := 83) dX12_year_82 rfl ne_6 ?_
            refine v_letI (fun v12 => ?_)
            refine v_istore (q := 85) (loc2 := [some (.ref a0), some (.int x1), some (.int x2), some (.int x3), some (.int v10), some (.int v7), some (.int v8), some (.int v9), some (.int v11), some (.int v12)]) dX12_year_83 rfl rfl (Nat.le_of_ble_eq_true rfl) rfl ?_
            refine v_aload_n (q := 86) dX12_year_85 rfl rfl rfl ?_
            refine v_iload (q := 88) dX12_year_86 rfl rfl ?_
            refine v_iload (q := 90) dX12_year_88 rfl rfl ?_
            refine v_iconst (q := 91) dX12_year_90 rfl ic_1 ?_
            refine v_cPV3 (q := 94) (ct_X12_whyNotStrike (d - 1) (by omega) _ _ _ _ _) dX12_year_91 rfl cc_X12_157 (by omega) (Nat.le_of_ble_eq_true rfl) ⟨Nat.le_of_ble_eq_true rfl, Nat.le_of_ble_eq_true rfl⟩ (fun v13 => ?_)
            refine v_join (γ := Me × Int32 × Int32) 132 (fun q19 => q19.1) (fun q19 => [some (.ref a0), some (.int x1), some (.int x2), some (.int x3), some (.int v10), some (.int q19.2.1), some (.int q19.2.2), some (.int v9), some (.int v11), some (.int v12)]) (fun q19 => []) (fun K hK => ?_) (fun q19 => ?_)
            · refine v_if_ne (tgt := 112) (q := 97) dX12_year_94 rfl rfl ?_ ?_
              · refine v_aload_n (q := 113) dX12_year_112 rfl rfl rfl ?_
                refine v_iload (q := 115) dX12_year_113 rfl rfl ?_
                refine v_bipush (q := 117) dX12_year_115 rfl bp_61 ?_
                refine v_cPV2 (q := 120) (ct_X12_whyNot (d - 1) (by omega) _ _ _ _) dX12_year_117 rfl cc_X12_165 (by omega) (Nat.le_of_ble_eq_true rfl) ⟨Nat.le_of_ble_eq_true rfl, Nat.le_of_ble_eq_true rfl⟩ (fun v14 => ?_)
                refine v_if_ne (tgt := 132) (q := 123) dX12_year_120 rfl rfl ?_ ?_
                · exact hK (M5, v7, v8)
                · refine v_aload_n (q := 124) dX12_year_123 rfl rfl rfl ?_
                  refine v_iload (q := 126) dX12_year_124 rfl rfl ?_
                  refine v_cMV1 (q := 129) (ct_X12_giveBack (d - 1) (by omega) _ _ _) dX12_year_126 rfl cc_X12_142 (by omega) (Nat.le_of_ble_eq_true rfl) ⟨Nat.le_of_ble_eq_true rfl, Nat.le_of_ble_eq_true rfl⟩ (fun M15 => ?_)
                  refine v_iincL (q := 132) (x := v8) (cst := (1 : Int32)) (f := fun v16 => [some (.ref a0), some (.int x1), some (.int x2), some (.int x3), some (.int v10), some (.int v7), some (.int v16), some (.int v9), some (.int v11), some (.int v12)]) dX12_year_129 rfl rfl ic_1 rfl (Nat.le_of_ble_eq_true rfl) (fun _ => rfl) (fun v16 => ?_)
                  exact hK (M15, v7, v16)
              · refine v_aload_n (q := 98) dX12_year_97 rfl rfl rfl ?_
                refine v_iload (q := 100) dX12_year_98 rfl rfl ?_
                refine v_iload (q := 102) dX12_year_100 rfl rfl ?_
                refine v_iconst (q := 103) dX12_year_102 rfl ic_1 ?_
                refine v_cMV3 (q := 106) (ct_X12_hit (d - 1) (by omega) _ _ _ _ _) dX12_year_103 rfl cc_X12_161 (by omega) (Nat.le_of_ble_eq_true rfl) ⟨Nat.le_of_ble_eq_true rfl, Nat.le_of_ble_eq_true rfl⟩ (fun M17 => ?_)
                refine v_iincL (q := 109) (x := v7) (cst := (1 : Int32)) (f := fun v18 => [some (.ref a0), some (.int x1), some (.int x2), some (.int x3), some (.int v10), some (.int v18), some (.int v8), some (.int v9), some (.int v11), some (.int v12)]) dX12_year_106 rfl rfl ic_1 rfl (Nat.le_of_ble_eq_true rfl) (fun _ => rfl) (fun v18 => ?_)
                refine v_goto (tgt := 132) dX12_year_109 rfl ?_
                exact hK (M17, v18, v8)
            · refine v_aload_n (q := 133) dX12_year_132 rfl rfl rfl ?_
              refine v_iload (q := 135) dX12_year_133 rfl rfl ?_
              refine v_bipush (q := 137) dX12_year_135 rfl bp_64 ?_
              refine v_idivc (q := 138) dX12_year_137 rfl ne_64 ?_
              refine v_bipush (q := 140) dX12_year_138 rfl bp_40 ?_
              refine v_iremc (q := 141) dX12_year_140 rfl ne_40 ?_
              refine v_cMV1 (q := 144) (ct_X12_pass (d - 1) (by omega) _ _ _) dX12_year_141 rfl cc_X12_154 (by omega) (Nat.le_of_ble_eq_true rfl) ⟨Nat.le_of_ble_eq_true rfl, Nat.le_of_ble_eq_true rfl⟩ (fun M20 => ?_)
              refine v_iincL (q := 147) (x := v9) (cst := (1 : Int32)) (f := fun v21 => [some (.ref a0), some (.int x1), some (.int x2), some (.int x3), some (.int v10), some (.int q19.2.1), some (.int q19.2.2), some (.int v21), some (.int v11), some (.int v12)]) dX12_year_144 rfl rfl ic_1 rfl (Nat.le_of_ble_eq_true rfl) (fun _ => rfl) (fun v21 => ?_)
              refine v_goto (tgt := 49) dX12_year_147 rfl ?_
              exact v_inl (v_weak (hk (M20, v10, q19.2.1, q19.2.2, v21)) ⟨rfl, ⟨rfl, ⟨rfl, ⟨rfl, ⟨rfl, ⟨rfl, ⟨rfl, ⟨rfl, trivial⟩⟩⟩⟩⟩⟩⟩⟩)
      · refine v_bipush (q := 32) dX12_year_30 rfl bp_m2 ?_
        exact v_iret rfl dX12_year_32 ⟨Nat.le_of_ble_eq_true rfl, Nat.le_of_ble_eq_true rfl⟩ rfl
theorem ct_X12_year (d : Nat) (hd : 4 ≤ d) (a0 : Nat) (x1 : Int32) (x2 : Int32) (x3 : Int32) (M : Me) (r : Int32) (M2 : Me) (hf : f_X12_year a0 x1 x2 x3 M = some (r, M2)) : me_k M a0 = some (12, nf_c 12) ∧ Ct yX12_year mX12_year d 0 0 [.ref a0, .int x1, .int x2, .int x3] M (some (.int r), M2) := by
  obtain ⟨hk, hb⟩ := ck_some hf
  exact ⟨hk, ct_of (by decide +kernel) rfl rfl (Nat.le_of_ble_eq_true rfl) (vb_X12_year d hd a0 x1 x2 x3 M) (by rw [hb]; rfl)⟩
theorem dX12_image_0 : decode cX12_image 0 = .ok (.iload_n 1, 1) := by decide +kernel
theorem dX12_image_1 : decode cX12_image 1 = .ok (.iconst 0, 1) := by decide +kernel
theorem dX12_image_2 : decode cX12_image 2 = .ok (.iconst 1, 1) := by decide +kernel
theorem dX12_image_3 : decode cX12_image 3 = .ok (.invokestatic 81, 3) := by decide +kernel
theorem dX12_image_6 : decode cX12_image 6 = .ok (.ifCond .ne 6, 3) := by decide +kernel
theorem dX12_image_9 : decode cX12_image 9 = .ok (.bipush (-2), 2) := by decide +kernel
theorem dX12_image_11 : decode cX12_image 11 = .ok (.ireturn, 1) := by decide +kernel
theorem dX12_image_12 : decode cX12_image 12 = .ok (.sipush 150, 3) := by decide +kernel
theorem dX12_image_15 : decode cX12_image 15 = .ok (.iload_n 1, 1) := by decide +kernel
theorem dX12_image_16 : decode cX12_image 16 = .ok (.imul, 1) := by decide +kernel
theorem dX12_image_17 : decode cX12_image 17 = .ok (.istore_n 2, 1) := by decide +kernel
theorem dX12_image_18 : decode cX12_image 18 = .ok (.iconst 0, 1) := by decide +kernel
theorem dX12_image_19 : decode cX12_image 19 = .ok (.istore_n 3, 1) := by decide +kernel
theorem dX12_image_20 : decode cX12_image 20 = .ok (.iload_n 3, 1) := by decide +kernel
theorem dX12_image_21 : decode cX12_image 21 = .ok (.bipush 25, 2) := by decide +kernel
theorem dX12_image_23 : decode cX12_image 23 = .ok (.if_icmp .ge 23, 3) := by decide +kernel
theorem dX12_image_26 : decode cX12_image 26 = .ok (.aload_n 0, 1) := by decide +kernel
theorem dX12_image_27 : decode cX12_image 27 = .ok (.getfield 71, 3) := by decide +kernel
theorem dX12_image_30 : decode cX12_image 30 = .ok (.iload_n 2, 1) := by decide +kernel
theorem dX12_image_31 : decode cX12_image 31 = .ok (.iload_n 3, 1) := by decide +kernel
theorem dX12_image_32 : decode cX12_image 32 = .ok (.iadd, 1) := by decide +kernel
theorem dX12_image_33 : decode cX12_image 33 = .ok (.aload_n 0, 1) := by decide +kernel
theorem dX12_image_34 : decode cX12_image 34 = .ok (.getfield 13, 3) := by decide +kernel
theorem dX12_image_37 : decode cX12_image 37 = .ok (.iload_n 3, 1) := by decide +kernel
theorem dX12_image_38 : decode cX12_image 38 = .ok (.iaload, 1) := by decide +kernel
theorem dX12_image_39 : decode cX12_image 39 = .ok (.iastore, 1) := by decide +kernel
theorem dX12_image_40 : decode cX12_image 40 = .ok (.iinc 3 1, 3) := by decide +kernel
theorem dX12_image_43 : decode cX12_image 43 = .ok (.goto (-23), 3) := by decide +kernel
theorem dX12_image_46 : decode cX12_image 46 = .ok (.iconst 0, 1) := by decide +kernel
theorem dX12_image_47 : decode cX12_image 47 = .ok (.istore_n 3, 1) := by decide +kernel
theorem dX12_image_48 : decode cX12_image 48 = .ok (.iload_n 3, 1) := by decide +kernel
theorem dX12_image_49 : decode cX12_image 49 = .ok (.bipush 6, 2) := by decide +kernel
theorem dX12_image_51 : decode cX12_image 51 = .ok (.if_icmp .ge 111, 3) := by decide +kernel
theorem dX12_image_54 : decode cX12_image 54 = .ok (.aload_n 0, 1) := by decide +kernel
theorem dX12_image_55 : decode cX12_image 55 = .ok (.getfield 71, 3) := by decide +kernel
theorem dX12_image_58 : decode cX12_image 58 = .ok (.iload_n 2, 1) := by decide +kernel
theorem dX12_image_59 : decode cX12_image 59 = .ok (.bipush 25, 2) := by decide +kernel
theorem dX12_image_61 : decode cX12_image 61 = .ok (.iadd, 1) := by decide +kernel
theorem dX12_image_62 : decode cX12_image 62 = .ok (.iload_n 3, 1) := by decide +kernel
theorem dX12_image_63 : decode cX12_image 63 = .ok (.iadd, 1) := by decide +kernel
theorem dX12_image_64 : decode cX12_image 64 = .ok (.aload_n 0, 1) := by decide +kernel
theorem dX12_image_65 : decode cX12_image 65 = .ok (.getfield 20, 3) := by decide +kernel
theorem dX12_image_68 : decode cX12_image 68 = .ok (.iload_n 3, 1) := by decide +kernel
theorem dX12_image_69 : decode cX12_image 69 = .ok (.iaload, 1) := by decide +kernel
theorem dX12_image_70 : decode cX12_image 70 = .ok (.iastore, 1) := by decide +kernel
theorem dX12_image_71 : decode cX12_image 71 = .ok (.aload_n 0, 1) := by decide +kernel
theorem dX12_image_72 : decode cX12_image 72 = .ok (.getfield 71, 3) := by decide +kernel
theorem dX12_image_75 : decode cX12_image 75 = .ok (.iload_n 2, 1) := by decide +kernel
theorem dX12_image_76 : decode cX12_image 76 = .ok (.bipush 31, 2) := by decide +kernel
theorem dX12_image_78 : decode cX12_image 78 = .ok (.iadd, 1) := by decide +kernel
theorem dX12_image_79 : decode cX12_image 79 = .ok (.iload_n 3, 1) := by decide +kernel
theorem dX12_image_80 : decode cX12_image 80 = .ok (.iadd, 1) := by decide +kernel
theorem dX12_image_81 : decode cX12_image 81 = .ok (.aload_n 0, 1) := by decide +kernel
theorem dX12_image_82 : decode cX12_image 82 = .ok (.getfield 23, 3) := by decide +kernel
theorem dX12_image_85 : decode cX12_image 85 = .ok (.iload_n 3, 1) := by decide +kernel
theorem dX12_image_86 : decode cX12_image 86 = .ok (.iaload, 1) := by decide +kernel
theorem dX12_image_87 : decode cX12_image 87 = .ok (.iastore, 1) := by decide +kernel
theorem dX12_image_88 : decode cX12_image 88 = .ok (.aload_n 0, 1) := by decide +kernel
theorem dX12_image_89 : decode cX12_image 89 = .ok (.getfield 71, 3) := by decide +kernel
theorem dX12_image_92 : decode cX12_image 92 = .ok (.iload_n 2, 1) := by decide +kernel
theorem dX12_image_93 : decode cX12_image 93 = .ok (.bipush 37, 2) := by decide +kernel
theorem dX12_image_95 : decode cX12_image 95 = .ok (.iadd, 1) := by decide +kernel
theorem dX12_image_96 : decode cX12_image 96 = .ok (.iload_n 3, 1) := by decide +kernel
theorem dX12_image_97 : decode cX12_image 97 = .ok (.iadd, 1) := by decide +kernel
theorem dX12_image_98 : decode cX12_image 98 = .ok (.aload_n 0, 1) := by decide +kernel
theorem dX12_image_99 : decode cX12_image 99 = .ok (.getfield 29, 3) := by decide +kernel
theorem dX12_image_102 : decode cX12_image 102 = .ok (.iload_n 3, 1) := by decide +kernel
theorem dX12_image_103 : decode cX12_image 103 = .ok (.iaload, 1) := by decide +kernel
theorem dX12_image_104 : decode cX12_image 104 = .ok (.iastore, 1) := by decide +kernel
theorem dX12_image_105 : decode cX12_image 105 = .ok (.aload_n 0, 1) := by decide +kernel
theorem dX12_image_106 : decode cX12_image 106 = .ok (.getfield 71, 3) := by decide +kernel
theorem dX12_image_109 : decode cX12_image 109 = .ok (.iload_n 2, 1) := by decide +kernel
theorem dX12_image_110 : decode cX12_image 110 = .ok (.bipush 43, 2) := by decide +kernel
theorem dX12_image_112 : decode cX12_image 112 = .ok (.iadd, 1) := by decide +kernel
theorem dX12_image_113 : decode cX12_image 113 = .ok (.iload_n 3, 1) := by decide +kernel
theorem dX12_image_114 : decode cX12_image 114 = .ok (.iadd, 1) := by decide +kernel
theorem dX12_image_115 : decode cX12_image 115 = .ok (.aload_n 0, 1) := by decide +kernel
theorem dX12_image_116 : decode cX12_image 116 = .ok (.getfield 32, 3) := by decide +kernel
theorem dX12_image_119 : decode cX12_image 119 = .ok (.iload_n 3, 1) := by decide +kernel
theorem dX12_image_120 : decode cX12_image 120 = .ok (.iaload, 1) := by decide +kernel
theorem dX12_image_121 : decode cX12_image 121 = .ok (.iastore, 1) := by decide +kernel
theorem dX12_image_122 : decode cX12_image 122 = .ok (.aload_n 0, 1) := by decide +kernel
theorem dX12_image_123 : decode cX12_image 123 = .ok (.getfield 71, 3) := by decide +kernel
theorem dX12_image_126 : decode cX12_image 126 = .ok (.iload_n 2, 1) := by decide +kernel
theorem dX12_image_127 : decode cX12_image 127 = .ok (.bipush 49, 2) := by decide +kernel
theorem dX12_image_129 : decode cX12_image 129 = .ok (.iadd, 1) := by decide +kernel
theorem dX12_image_130 : decode cX12_image 130 = .ok (.iload_n 3, 1) := by decide +kernel
theorem dX12_image_131 : decode cX12_image 131 = .ok (.iadd, 1) := by decide +kernel
theorem dX12_image_132 : decode cX12_image 132 = .ok (.aload_n 0, 1) := by decide +kernel
theorem dX12_image_133 : decode cX12_image 133 = .ok (.getfield 35, 3) := by decide +kernel
theorem dX12_image_136 : decode cX12_image 136 = .ok (.iload_n 3, 1) := by decide +kernel
theorem dX12_image_137 : decode cX12_image 137 = .ok (.iaload, 1) := by decide +kernel
theorem dX12_image_138 : decode cX12_image 138 = .ok (.iastore, 1) := by decide +kernel
theorem dX12_image_139 : decode cX12_image 139 = .ok (.aload_n 0, 1) := by decide +kernel
theorem dX12_image_140 : decode cX12_image 140 = .ok (.getfield 71, 3) := by decide +kernel
theorem dX12_image_143 : decode cX12_image 143 = .ok (.iload_n 2, 1) := by decide +kernel
theorem dX12_image_144 : decode cX12_image 144 = .ok (.bipush 55, 2) := by decide +kernel
theorem dX12_image_146 : decode cX12_image 146 = .ok (.iadd, 1) := by decide +kernel
theorem dX12_image_147 : decode cX12_image 147 = .ok (.iload_n 3, 1) := by decide +kernel
theorem dX12_image_148 : decode cX12_image 148 = .ok (.iadd, 1) := by decide +kernel
theorem dX12_image_149 : decode cX12_image 149 = .ok (.aload_n 0, 1) := by decide +kernel
theorem dX12_image_150 : decode cX12_image 150 = .ok (.getfield 38, 3) := by decide +kernel
theorem dX12_image_153 : decode cX12_image 153 = .ok (.iload_n 3, 1) := by decide +kernel
theorem dX12_image_154 : decode cX12_image 154 = .ok (.iaload, 1) := by decide +kernel
theorem dX12_image_155 : decode cX12_image 155 = .ok (.iastore, 1) := by decide +kernel
theorem dX12_image_156 : decode cX12_image 156 = .ok (.iinc 3 1, 3) := by decide +kernel
theorem dX12_image_159 : decode cX12_image 159 = .ok (.goto (-111), 3) := by decide +kernel
theorem dX12_image_162 : decode cX12_image 162 = .ok (.iconst 0, 1) := by decide +kernel
theorem dX12_image_163 : decode cX12_image 163 = .ok (.istore_n 3, 1) := by decide +kernel
theorem dX12_image_164 : decode cX12_image 164 = .ok (.iload_n 3, 1) := by decide +kernel
theorem dX12_image_165 : decode cX12_image 165 = .ok (.bipush 48, 2) := by decide +kernel
theorem dX12_image_167 : decode cX12_image 167 = .ok (.if_icmp .ge 26, 3) := by decide +kernel
theorem dX12_image_170 : decode cX12_image 170 = .ok (.aload_n 0, 1) := by decide +kernel
theorem dX12_image_171 : decode cX12_image 171 = .ok (.getfield 71, 3) := by decide +kernel
theorem dX12_image_174 : decode cX12_image 174 = .ok (.iload_n 2, 1) := by decide +kernel
theorem dX12_image_175 : decode cX12_image 175 = .ok (.bipush 61, 2) := by decide +kernel
theorem dX12_image_177 : decode cX12_image 177 = .ok (.iadd, 1) := by decide +kernel
theorem dX12_image_178 : decode cX12_image 178 = .ok (.iload_n 3, 1) := by decide +kernel
theorem dX12_image_179 : decode cX12_image 179 = .ok (.iadd, 1) := by decide +kernel
theorem dX12_image_180 : decode cX12_image 180 = .ok (.aload_n 0, 1) := by decide +kernel
theorem dX12_image_181 : decode cX12_image 181 = .ok (.getfield 41, 3) := by decide +kernel
theorem dX12_image_184 : decode cX12_image 184 = .ok (.iload_n 3, 1) := by decide +kernel
theorem dX12_image_185 : decode cX12_image 185 = .ok (.iaload, 1) := by decide +kernel
theorem dX12_image_186 : decode cX12_image 186 = .ok (.iastore, 1) := by decide +kernel
theorem dX12_image_187 : decode cX12_image 187 = .ok (.iinc 3 1, 3) := by decide +kernel
theorem dX12_image_190 : decode cX12_image 190 = .ok (.goto (-26), 3) := by decide +kernel
theorem dX12_image_193 : decode cX12_image 193 = .ok (.iconst 0, 1) := by decide +kernel
theorem dX12_image_194 : decode cX12_image 194 = .ok (.istore_n 3, 1) := by decide +kernel
theorem dX12_image_195 : decode cX12_image 195 = .ok (.iload_n 3, 1) := by decide +kernel
theorem dX12_image_196 : decode cX12_image 196 = .ok (.bipush 12, 2) := by decide +kernel
theorem dX12_image_198 : decode cX12_image 198 = .ok (.if_icmp .ge 26, 3) := by decide +kernel
theorem dX12_image_201 : decode cX12_image 201 = .ok (.aload_n 0, 1) := by decide +kernel
theorem dX12_image_202 : decode cX12_image 202 = .ok (.getfield 71, 3) := by decide +kernel
theorem dX12_image_205 : decode cX12_image 205 = .ok (.iload_n 2, 1) := by decide +kernel
theorem dX12_image_206 : decode cX12_image 206 = .ok (.bipush 109, 2) := by decide +kernel
theorem dX12_image_208 : decode cX12_image 208 = .ok (.iadd, 1) := by decide +kernel
theorem dX12_image_209 : decode cX12_image 209 = .ok (.iload_n 3, 1) := by decide +kernel
theorem dX12_image_210 : decode cX12_image 210 = .ok (.iadd, 1) := by decide +kernel
theorem dX12_image_211 : decode cX12_image 211 = .ok (.aload_n 0, 1) := by decide +kernel
theorem dX12_image_212 : decode cX12_image 212 = .ok (.getfield 26, 3) := by decide +kernel
theorem dX12_image_215 : decode cX12_image 215 = .ok (.iload_n 3, 1) := by decide +kernel
theorem dX12_image_216 : decode cX12_image 216 = .ok (.iaload, 1) := by decide +kernel
theorem dX12_image_217 : decode cX12_image 217 = .ok (.iastore, 1) := by decide +kernel
theorem dX12_image_218 : decode cX12_image 218 = .ok (.iinc 3 1, 3) := by decide +kernel
theorem dX12_image_221 : decode cX12_image 221 = .ok (.goto (-26), 3) := by decide +kernel
theorem dX12_image_224 : decode cX12_image 224 = .ok (.aload_n 0, 1) := by decide +kernel
theorem dX12_image_225 : decode cX12_image 225 = .ok (.getfield 71, 3) := by decide +kernel
theorem dX12_image_228 : decode cX12_image 228 = .ok (.iload_n 2, 1) := by decide +kernel
theorem dX12_image_229 : decode cX12_image 229 = .ok (.bipush 121, 2) := by decide +kernel
theorem dX12_image_231 : decode cX12_image 231 = .ok (.iadd, 1) := by decide +kernel
theorem dX12_image_232 : decode cX12_image 232 = .ok (.aload_n 0, 1) := by decide +kernel
theorem dX12_image_233 : decode cX12_image 233 = .ok (.getfield 7, 3) := by decide +kernel
theorem dX12_image_236 : decode cX12_image 236 = .ok (.iastore, 1) := by decide +kernel
theorem dX12_image_237 : decode cX12_image 237 = .ok (.aload_n 0, 1) := by decide +kernel
theorem dX12_image_238 : decode cX12_image 238 = .ok (.getfield 71, 3) := by decide +kernel
theorem dX12_image_241 : decode cX12_image 241 = .ok (.iload_n 2, 1) := by decide +kernel
theorem dX12_image_242 : decode cX12_image 242 = .ok (.bipush 122, 2) := by decide +kernel
theorem dX12_image_244 : decode cX12_image 244 = .ok (.iadd, 1) := by decide +kernel
theorem dX12_image_245 : decode cX12_image 245 = .ok (.aload_n 0, 1) := by decide +kernel
theorem dX12_image_246 : decode cX12_image 246 = .ok (.getfield 17, 3) := by decide +kernel
theorem dX12_image_249 : decode cX12_image 249 = .ok (.iastore, 1) := by decide +kernel
theorem dX12_image_250 : decode cX12_image 250 = .ok (.aload_n 0, 1) := by decide +kernel
theorem dX12_image_251 : decode cX12_image 251 = .ok (.getfield 71, 3) := by decide +kernel
theorem dX12_image_254 : decode cX12_image 254 = .ok (.iload_n 2, 1) := by decide +kernel
theorem dX12_image_255 : decode cX12_image 255 = .ok (.bipush 123, 2) := by decide +kernel
theorem dX12_image_257 : decode cX12_image 257 = .ok (.iadd, 1) := by decide +kernel
theorem dX12_image_258 : decode cX12_image 258 = .ok (.aload_n 0, 1) := by decide +kernel
theorem dX12_image_259 : decode cX12_image 259 = .ok (.getfield 78, 3) := by decide +kernel
theorem dX12_image_262 : decode cX12_image 262 = .ok (.iastore, 1) := by decide +kernel
theorem dX12_image_263 : decode cX12_image 263 = .ok (.aload_n 0, 1) := by decide +kernel
theorem dX12_image_264 : decode cX12_image 264 = .ok (.getfield 71, 3) := by decide +kernel
theorem dX12_image_267 : decode cX12_image 267 = .ok (.iload_n 2, 1) := by decide +kernel
theorem dX12_image_268 : decode cX12_image 268 = .ok (.bipush 124, 2) := by decide +kernel
theorem dX12_image_270 : decode cX12_image 270 = .ok (.iadd, 1) := by decide +kernel
theorem dX12_image_271 : decode cX12_image 271 = .ok (.aload_n 0, 1) := by decide +kernel
theorem dX12_image_272 : decode cX12_image 272 = .ok (.getfield 89, 3) := by decide +kernel
theorem dX12_image_275 : decode cX12_image 275 = .ok (.iastore, 1) := by decide +kernel
theorem dX12_image_276 : decode cX12_image 276 = .ok (.aload_n 0, 1) := by decide +kernel
theorem dX12_image_277 : decode cX12_image 277 = .ok (.getfield 71, 3) := by decide +kernel
theorem dX12_image_280 : decode cX12_image 280 = .ok (.iload_n 2, 1) := by decide +kernel
theorem dX12_image_281 : decode cX12_image 281 = .ok (.bipush 125, 2) := by decide +kernel
theorem dX12_image_283 : decode cX12_image 283 = .ok (.iadd, 1) := by decide +kernel
theorem dX12_image_284 : decode cX12_image 284 = .ok (.aload_n 0, 1) := by decide +kernel
theorem dX12_image_285 : decode cX12_image 285 = .ok (.getfield 92, 3) := by decide +kernel
theorem dX12_image_288 : decode cX12_image 288 = .ok (.iastore, 1) := by decide +kernel
theorem dX12_image_289 : decode cX12_image 289 = .ok (.aload_n 0, 1) := by decide +kernel
theorem dX12_image_290 : decode cX12_image 290 = .ok (.getfield 71, 3) := by decide +kernel
theorem dX12_image_293 : decode cX12_image 293 = .ok (.iload_n 2, 1) := by decide +kernel
theorem dX12_image_294 : decode cX12_image 294 = .ok (.bipush 126, 2) := by decide +kernel
theorem dX12_image_296 : decode cX12_image 296 = .ok (.iadd, 1) := by decide +kernel
theorem dX12_image_297 : decode cX12_image 297 = .ok (.aload_n 0, 1) := by decide +kernel
theorem dX12_image_298 : decode cX12_image 298 = .ok (.getfield 95, 3) := by decide +kernel
theorem dX12_image_301 : decode cX12_image 301 = .ok (.iastore, 1) := by decide +kernel
theorem dX12_image_302 : decode cX12_image 302 = .ok (.aload_n 0, 1) := by decide +kernel
theorem dX12_image_303 : decode cX12_image 303 = .ok (.getfield 74, 3) := by decide +kernel
theorem dX12_image_306 : decode cX12_image 306 = .ok (.iload_n 1, 1) := by decide +kernel
theorem dX12_image_307 : decode cX12_image 307 = .ok (.iconst 1, 1) := by decide +kernel
theorem dX12_image_308 : decode cX12_image 308 = .ok (.bastore, 1) := by decide +kernel
theorem dX12_image_309 : decode cX12_image 309 = .ok (.iconst 1, 1) := by decide +kernel
theorem dX12_image_310 : decode cX12_image 310 = .ok (.ireturn, 1) := by decide +kernel
noncomputable def s_X12_image_20 (a0 : Nat) (v2 : Int32) (M3 : Me) (v4 : Int32) : Option ((Me × Int32) ⊕ (Me × Int32)) :=
  if (25 : Int32) ≤ v4 then (
    some (Sum.inr (M3, v4))
  ) else (
    gr M3 a0 12 30 fun o5 =>
    gr M3 a0 12 1 fun o6 =>
    li M3 o6 v4 fun v7 =>
    si M3 o5 (v2 + v4) v7 fun M8 =>
    let_v (v4 + (1 : Int32)) fun v9 =>
    some (Sum.inl (M8, v9))
  )
noncomputable def s_X12_image_48 (a0 : Nat) (v2 : Int32) (M11 : Me) (v12 : Int32) : Option ((Me × Int32) ⊕ (Me × Int32)) :=
  if (6 : Int32) ≤ v12 then (
    some (Sum.inr (M11, v12))
  ) else (
    gr M11 a0 12 30 fun o13 =>
    gr M11 a0 12 4 fun o14 =>
    li M11 o14 v12 fun v15 =>
    si M11 o13 ((v2 + (25 : Int32)) + v12) v15 fun M16 =>
    gr M16 a0 12 30 fun o17 =>
    gr M16 a0 12 5 fun o18 =>
    li M16 o18 v12 fun v19 =>
    si M16 o17 ((v2 + (31 : Int32)) + v12) v19 fun M20 =>
    gr M20 a0 12 30 fun o21 =>
    gr M20 a0 12 9 fun o22 =>
    li M20 o22 v12 fun v23 =>
    si M20 o21 ((v2 + (37 : Int32)) + v12) v23 fun M24 =>
    gr M24 a0 12 30 fun o25 =>
    gr M24 a0 12 10 fun o26 =>
    li M24 o26 v12 fun v27 =>
    si M24 o25 ((v2 + (43 : Int32)) + v12) v27 fun M28 =>
    gr M28 a0 12 30 fun o29 =>
    gr M28 a0 12 11 fun o30 =>
    li M28 o30 v12 fun v31 =>
    si M28 o29 ((v2 + (49 : Int32)) + v12) v31 fun M32 =>
    gr M32 a0 12 30 fun o33 =>
    gr M32 a0 12 12 fun o34 =>
    li M32 o34 v12 fun v35 =>
    si M32 o33 ((v2 + (55 : Int32)) + v12) v35 fun M36 =>
    let_v (v12 + (1 : Int32)) fun v37 =>
    some (Sum.inl (M36, v37))
  )
noncomputable def s_X12_image_164 (a0 : Nat) (v2 : Int32) (M39 : Me) (v40 : Int32) : Option ((Me × Int32) ⊕ (Me × Int32)) :=
  if (48 : Int32) ≤ v40 then (
    some (Sum.inr (M39, v40))
  ) else (
    gr M39 a0 12 30 fun o41 =>
    gr M39 a0 12 14 fun o42 =>
    li M39 o42 v40 fun v43 =>
    si M39 o41 ((v2 + (61 : Int32)) + v40) v43 fun M44 =>
    let_v (v40 + (1 : Int32)) fun v45 =>
    some (Sum.inl (M44, v45))
  )
noncomputable def s_X12_image_195 (a0 : Nat) (v2 : Int32) (M47 : Me) (v48 : Int32) : Option ((Me × Int32) ⊕ (Me × Int32)) :=
  if (12 : Int32) ≤ v48 then (
    some (Sum.inr (M47, v48))
  ) else (
    gr M47 a0 12 30 fun o49 =>
    gr M47 a0 12 7 fun o50 =>
    li M47 o50 v48 fun v51 =>
    si M47 o49 ((v2 + (109 : Int32)) + v48) v51 fun M52 =>
    let_v (v48 + (1 : Int32)) fun v53 =>
    some (Sum.inl (M52, v53))
  )
noncomputable def b_X12_image (a0 : Nat) (x1 : Int32) (M : Me) : Option (Int32 × Me) :=
  cP (f_X12_in x1 (0 : Int32) (1 : Int32) M) fun v1 =>
  if v1 = 0 then (
    some ((-2 : Int32), M)
  ) else (
    let_v (((150 : Int32) * x1)) fun v2 =>
    (lp (fun s => s_X12_image_20 a0 v2 s.1 s.2) (M, (0 : Int32))).bind fun e10 =>
    (lp (fun s => s_X12_image_48 a0 v2 s.1 s.2) (e10.1, (0 : Int32))).bind fun e38 =>
    (lp (fun s => s_X12_image_164 a0 v2 s.1 s.2) (e38.1, (0 : Int32))).bind fun e46 =>
    (lp (fun s => s_X12_image_195 a0 v2 s.1 s.2) (e46.1, (0 : Int32))).bind fun e54 =>
    gr e54.1 a0 12 30 fun o55 =>
    gi e54.1 a0 12 0 fun v56 =>
    si e54.1 o55 (v2 + (121 : Int32)) v56 fun M57 =>
    gr M57 a0 12 30 fun o58 =>
    gi M57 a0 12 2 fun v59 =>
    si M57 o58 (v2 + (122 : Int32)) v59 fun M60 =>
    gr M60 a0 12 30 fun o61 =>
    gi M60 a0 12 3 fun v62 =>
    si M60 o61 (v2 + (123 : Int32)) v62 fun M63 =>
    gr M63 a0 12 30 fun o64 =>
    gi M63 a0 12 6 fun v65 =>
    si M63 o64 (v2 + (124 : Int32)) v65 fun M66 =>
    gr M66 a0 12 30 fun o67 =>
    gi M66 a0 12 8 fun v68 =>
    si M66 o67 (v2 + (125 : Int32)) v68 fun M69 =>
    gr M69 a0 12 30 fun o70 =>
    gi M69 a0 12 13 fun v71 =>
    si M69 o70 (v2 + (126 : Int32)) v71 fun M72 =>
    gr M72 a0 12 31 fun o73 =>
    sz M72 o73 x1 (1 : Int32) fun M74 =>
    some ((1 : Int32), M74)
  )
noncomputable def f_X12_image (a0 : Nat) (x1 : Int32) (M : Me) : Option (Int32 × Me) := ck M a0 12 (b_X12_image a0 x1 M)
set_option maxRecDepth 20000 in
theorem vb_X12_image (d : Nat) (hd : 1 ≤ d) (a0 : Nat) (x1 : Int32) (M : Me) : V (mX12_image, d, 0, 0) (0, 0) M 0 [some (.ref a0), some (.int x1), none, none] [] (b_X12_image a0 x1 M) (fun z => some (some (.int z.1), z.2)) := by
  unfold b_X12_image
  refine v_iload_n (q := 1) dX12_image_0 rfl rfl rfl ?_
  refine v_iconst (q := 2) dX12_image_1 rfl ic_0 ?_
  refine v_iconst (q := 3) dX12_image_2 rfl ic_1 ?_
  refine v_cPS3 (q := 6) (ct_X12_in (d - 1) (by omega) _ _ _ _) dX12_image_3 rfl cc_X12_81 (by omega) (Nat.le_of_ble_eq_true rfl) ⟨Nat.le_of_ble_eq_true rfl, Nat.le_of_ble_eq_true rfl⟩ (fun v1 => ?_)
  refine v_if_ne (tgt := 12) (q := 9) dX12_image_6 rfl rfl ?_ ?_
  · refine v_sipush (q := 15) dX12_image_12 rfl sp_150 ?_
    refine v_iload_n (q := 16) dX12_image_15 rfl rfl rfl ?_
    refine v_imul (q := 17) dX12_image_16 rfl ?_
    refine v_letI (fun v2 => ?_)
    refine v_istore_n (q := 18) (loc2 := [some (.ref a0), some (.int x1), some (.int v2), none]) dX12_image_17 rfl rfl rfl (Nat.le_of_ble_eq_true rfl) rfl ?_
    refine v_iconst (q := 19) dX12_image_18 rfl ic_0 ?_
    refine v_istore_n (q := 20) (loc2 := [some (.ref a0), some (.int x1), some (.int v2), some (.int (0 : Int32))]) dX12_image_19 rfl rfl rfl (Nat.le_of_ble_eq_true rfl) rfl ?_
    refine v_lps (S := Me × Int32) 46 (fun s => s.1) (fun s => [some (.ref a0), some (.int x1), some (.int v2), some (.int s.2)]) (fun e10 => e10.1) (fun e10 => [some (.ref a0), some (.int x1), some (.int v2), some (.int e10.2)]) (fun e10 => ?_) (fun k K hk hx s => ?_)
    · refine v_iconst (q := 47) dX12_image_46 rfl ic_0 ?_
      refine v_istore_n (q := 48) (loc2 := [some (.ref a0), some (.int x1), some (.int v2), some (.int (0 : Int32))]) dX12_image_47 rfl rfl rfl (Nat.le_of_ble_eq_true rfl) rfl ?_
      refine v_lps (S := Me × Int32) 162 (fun s => s.1) (fun s => [some (.ref a0), some (.int x1), some (.int v2), some (.int s.2)]) (fun e38 => e38.1) (fun e38 => [some (.ref a0), some (.int x1), some (.int v2), some (.int e38.2)]) (fun e38 => ?_) (fun k K hk hx s => ?_)
      · refine v_iconst (q := 163) dX12_image_162 rfl ic_0 ?_
        refine v_istore_n (q := 164) (loc2 := [some (.ref a0), some (.int x1), some (.int v2), some (.int (0 : Int32))]) dX12_image_163 rfl rfl rfl (Nat.le_of_ble_eq_true rfl) rfl ?_
        refine v_lps (S := Me × Int32) 193 (fun s => s.1) (fun s => [some (.ref a0), some (.int x1), some (.int v2), some (.int s.2)]) (fun e46 => e46.1) (fun e46 => [some (.ref a0), some (.int x1), some (.int v2), some (.int e46.2)]) (fun e46 => ?_) (fun k K hk hx s => ?_)
        · refine v_iconst (q := 194) dX12_image_193 rfl ic_0 ?_
          refine v_istore_n (q := 195) (loc2 := [some (.ref a0), some (.int x1), some (.int v2), some (.int (0 : Int32))]) dX12_image_194 rfl rfl rfl (Nat.le_of_ble_eq_true rfl) rfl ?_
          refine v_lps (S := Me × Int32) 224 (fun s => s.1) (fun s => [some (.ref a0), some (.int x1), some (.int v2), some (.int s.2)]) (fun e54 => e54.1) (fun e54 => [some (.ref a0), some (.int x1), some (.int v2), some (.int e54.2)]) (fun e54 => ?_) (fun k K hk hx s => ?_)
          · refine v_aload_n (q := 225) dX12_image_224 rfl rfl rfl ?_
            refine v_getRb (q := 228) dX12_image_225 rfl fg_X12_71 (fun o55 => ?_)
            refine v_iload_n (q := 229) dX12_image_228 rfl rfl rfl ?_
            refine v_bipush (q := 231) dX12_image_229 rfl bp_121 ?_
            refine v_iadd (q := 232) dX12_image_231 rfl ?_
            refine v_aload_n (q := 233) dX12_image_232 rfl rfl rfl ?_
            refine v_getIb (q := 236) dX12_image_233 rfl fg_X12_7 (fun v56 => ?_)
            refine v_iastore (q := 237) dX12_image_236 rfl (fun M57 => ?_)
            refine v_aload_n (q := 238) dX12_image_237 rfl rfl rfl ?_
            refine v_getRb (q := 241) dX12_image_238 rfl fg_X12_71 (fun o58 => ?_)
            refine v_iload_n (q := 242) dX12_image_241 rfl rfl rfl ?_
            refine v_bipush (q := 244) dX12_image_242 rfl bp_122 ?_
            refine v_iadd (q := 245) dX12_image_244 rfl ?_
            refine v_aload_n (q := 246) dX12_image_245 rfl rfl rfl ?_
            refine v_getIb (q := 249) dX12_image_246 rfl fg_X12_17 (fun v59 => ?_)
            refine v_iastore (q := 250) dX12_image_249 rfl (fun M60 => ?_)
            refine v_aload_n (q := 251) dX12_image_250 rfl rfl rfl ?_
            refine v_getRb (q := 254) dX12_image_251 rfl fg_X12_71 (fun o61 => ?_)
            refine v_iload_n (q := 255) dX12_image_254 rfl rfl rfl ?_
            refine v_bipush (q := 257) dX12_image_255 rfl bp_123 ?_
            refine v_iadd (q := 258) dX12_image_257 rfl ?_
            refine v_aload_n (q := 259) dX12_image_258 rfl rfl rfl ?_
            refine v_getIb (q := 262) dX12_image_259 rfl fg_X12_78 (fun v62 => ?_)
            refine v_iastore (q := 263) dX12_image_262 rfl (fun M63 => ?_)
            refine v_aload_n (q := 264) dX12_image_263 rfl rfl rfl ?_
            refine v_getRb (q := 267) dX12_image_264 rfl fg_X12_71 (fun o64 => ?_)
            refine v_iload_n (q := 268) dX12_image_267 rfl rfl rfl ?_
            refine v_bipush (q := 270) dX12_image_268 rfl bp_124 ?_
            refine v_iadd (q := 271) dX12_image_270 rfl ?_
            refine v_aload_n (q := 272) dX12_image_271 rfl rfl rfl ?_
            refine v_getIb (q := 275) dX12_image_272 rfl fg_X12_89 (fun v65 => ?_)
            refine v_iastore (q := 276) dX12_image_275 rfl (fun M66 => ?_)
            refine v_aload_n (q := 277) dX12_image_276 rfl rfl rfl ?_
            refine v_getRb (q := 280) dX12_image_277 rfl fg_X12_71 (fun o67 => ?_)
            refine v_iload_n (q := 281) dX12_image_280 rfl rfl rfl ?_
            refine v_bipush (q := 283) dX12_image_281 rfl bp_125 ?_
            refine v_iadd (q := 284) dX12_image_283 rfl ?_
            refine v_aload_n (q := 285) dX12_image_284 rfl rfl rfl ?_
            refine v_getIb (q := 288) dX12_image_285 rfl fg_X12_92 (fun v68 => ?_)
            refine v_iastore (q := 289) dX12_image_288 rfl (fun M69 => ?_)
            refine v_aload_n (q := 290) dX12_image_289 rfl rfl rfl ?_
            refine v_getRb (q := 293) dX12_image_290 rfl fg_X12_71 (fun o70 => ?_)
            refine v_iload_n (q := 294) dX12_image_293 rfl rfl rfl ?_
            refine v_bipush (q := 296) dX12_image_294 rfl bp_126 ?_
            refine v_iadd (q := 297) dX12_image_296 rfl ?_
            refine v_aload_n (q := 298) dX12_image_297 rfl rfl rfl ?_
            refine v_getIb (q := 301) dX12_image_298 rfl fg_X12_95 (fun v71 => ?_)
            refine v_iastore (q := 302) dX12_image_301 rfl (fun M72 => ?_)
            refine v_aload_n (q := 303) dX12_image_302 rfl rfl rfl ?_
            refine v_getRb (q := 306) dX12_image_303 rfl fg_X12_74 (fun o73 => ?_)
            refine v_iload_n (q := 307) dX12_image_306 rfl rfl rfl ?_
            refine v_iconst (q := 308) dX12_image_307 rfl ic_1 ?_
            refine v_bastore (q := 309) dX12_image_308 rfl (fun M74 => ?_)
            refine v_iconst (q := 310) dX12_image_309 rfl ic_1 ?_
            exact v_iret rfl dX12_image_310 ⟨Nat.le_of_ble_eq_true rfl, Nat.le_of_ble_eq_true rfl⟩ rfl
          · obtain ⟨M47, v48⟩ := s
            show V _ _ M47 195 [some (.ref a0), some (.int x1), some (.int v2), some (.int v48)] [] (s_X12_image_195 a0 v2 M47 v48) _
            unfold s_X12_image_195
            refine v_iload_n (q := 196) dX12_image_195 rfl rfl rfl ?_
            refine v_bipush (q := 198) dX12_image_196 rfl bp_12 ?_
            refine v_icmp_ge (tgt := 224) (q := 201) dX12_image_198 rfl rfl ?_ ?_
            · exact v_inr (hx (M47, v48))
            · refine v_aload_n (q := 202) dX12_image_201 rfl rfl rfl ?_
              refine v_getRb (q := 205) dX12_image_202 rfl fg_X12_71 (fun o49 => ?_)
              refine v_iload_n (q := 206) dX12_image_205 rfl rfl rfl ?_
              refine v_bipush (q := 208) dX12_image_206 rfl bp_109 ?_
              refine v_iadd (q := 209) dX12_image_208 rfl ?_
              refine v_iload_n (q := 210) dX12_image_209 rfl rfl rfl ?_
              refine v_iadd (q := 211) dX12_image_210 rfl ?_
              refine v_aload_n (q := 212) dX12_image_211 rfl rfl rfl ?_
              refine v_getRb (q := 215) dX12_image_212 rfl fg_X12_26 (fun o50 => ?_)
              refine v_iload_n (q := 216) dX12_image_215 rfl rfl rfl ?_
              refine v_iaload (q := 217) dX12_image_216 rfl (fun v51 => ?_)
              refine v_iastore (q := 218) dX12_image_217 rfl (fun M52 => ?_)
              refine v_iincL (q := 221) (x := v48) (cst := (1 : Int32)) (f := fun v53 => [some (.ref a0), some (.int x1), some (.int v2), some (.int v53)]) dX12_image_218 rfl rfl ic_1 rfl (Nat.le_of_ble_eq_true rfl) (fun _ => rfl) (fun v53 => ?_)
              refine v_goto (tgt := 195) dX12_image_221 rfl ?_
              exact v_inl (hk (M52, v53))
        · obtain ⟨M39, v40⟩ := s
          show V _ _ M39 164 [some (.ref a0), some (.int x1), some (.int v2), some (.int v40)] [] (s_X12_image_164 a0 v2 M39 v40) _
          unfold s_X12_image_164
          refine v_iload_n (q := 165) dX12_image_164 rfl rfl rfl ?_
          refine v_bipush (q := 167) dX12_image_165 rfl bp_48 ?_
          refine v_icmp_ge (tgt := 193) (q := 170) dX12_image_167 rfl rfl ?_ ?_
          · exact v_inr (hx (M39, v40))
          · refine v_aload_n (q := 171) dX12_image_170 rfl rfl rfl ?_
            refine v_getRb (q := 174) dX12_image_171 rfl fg_X12_71 (fun o41 => ?_)
            refine v_iload_n (q := 175) dX12_image_174 rfl rfl rfl ?_
            refine v_bipush (q := 177) dX12_image_175 rfl bp_61 ?_
            refine v_iadd (q := 178) dX12_image_177 rfl ?_
            refine v_iload_n (q := 179) dX12_image_178 rfl rfl rfl ?_
            refine v_iadd (q := 180) dX12_image_179 rfl ?_
            refine v_aload_n (q := 181) dX12_image_180 rfl rfl rfl ?_
            refine v_getRb (q := 184) dX12_image_181 rfl fg_X12_41 (fun o42 => ?_)
            refine v_iload_n (q := 185) dX12_image_184 rfl rfl rfl ?_
            refine v_iaload (q := 186) dX12_image_185 rfl (fun v43 => ?_)
            refine v_iastore (q := 187) dX12_image_186 rfl (fun M44 => ?_)
            refine v_iincL (q := 190) (x := v40) (cst := (1 : Int32)) (f := fun v45 => [some (.ref a0), some (.int x1), some (.int v2), some (.int v45)]) dX12_image_187 rfl rfl ic_1 rfl (Nat.le_of_ble_eq_true rfl) (fun _ => rfl) (fun v45 => ?_)
            refine v_goto (tgt := 164) dX12_image_190 rfl ?_
            exact v_inl (hk (M44, v45))
      · obtain ⟨M11, v12⟩ := s
        show V _ _ M11 48 [some (.ref a0), some (.int x1), some (.int v2), some (.int v12)] [] (s_X12_image_48 a0 v2 M11 v12) _
        unfold s_X12_image_48
        refine v_iload_n (q := 49) dX12_image_48 rfl rfl rfl ?_
        refine v_bipush (q := 51) dX12_image_49 rfl bp_6 ?_
        refine v_icmp_ge (tgt := 162) (q := 54) dX12_image_51 rfl rfl ?_ ?_
        · exact v_inr (hx (M11, v12))
        · refine v_aload_n (q := 55) dX12_image_54 rfl rfl rfl ?_
          refine v_getRb (q := 58) dX12_image_55 rfl fg_X12_71 (fun o13 => ?_)
          refine v_iload_n (q := 59) dX12_image_58 rfl rfl rfl ?_
          refine v_bipush (q := 61) dX12_image_59 rfl bp_25 ?_
          refine v_iadd (q := 62) dX12_image_61 rfl ?_
          refine v_iload_n (q := 63) dX12_image_62 rfl rfl rfl ?_
          refine v_iadd (q := 64) dX12_image_63 rfl ?_
          refine v_aload_n (q := 65) dX12_image_64 rfl rfl rfl ?_
          refine v_getRb (q := 68) dX12_image_65 rfl fg_X12_20 (fun o14 => ?_)
          refine v_iload_n (q := 69) dX12_image_68 rfl rfl rfl ?_
          refine v_iaload (q := 70) dX12_image_69 rfl (fun v15 => ?_)
          refine v_iastore (q := 71) dX12_image_70 rfl (fun M16 => ?_)
          refine v_aload_n (q := 72) dX12_image_71 rfl rfl rfl ?_
          refine v_getRb (q := 75) dX12_image_72 rfl fg_X12_71 (fun o17 => ?_)
          refine v_iload_n (q := 76) dX12_image_75 rfl rfl rfl ?_
          refine v_bipush (q := 78) dX12_image_76 rfl bp_31 ?_
          refine v_iadd (q := 79) dX12_image_78 rfl ?_
          refine v_iload_n (q := 80) dX12_image_79 rfl rfl rfl ?_
          refine v_iadd (q := 81) dX12_image_80 rfl ?_
          refine v_aload_n (q := 82) dX12_image_81 rfl rfl rfl ?_
          refine v_getRb (q := 85) dX12_image_82 rfl fg_X12_23 (fun o18 => ?_)
          refine v_iload_n (q := 86) dX12_image_85 rfl rfl rfl ?_
          refine v_iaload (q := 87) dX12_image_86 rfl (fun v19 => ?_)
          refine v_iastore (q := 88) dX12_image_87 rfl (fun M20 => ?_)
          refine v_aload_n (q := 89) dX12_image_88 rfl rfl rfl ?_
          refine v_getRb (q := 92) dX12_image_89 rfl fg_X12_71 (fun o21 => ?_)
          refine v_iload_n (q := 93) dX12_image_92 rfl rfl rfl ?_
          refine v_bipush (q := 95) dX12_image_93 rfl bp_37 ?_
          refine v_iadd (q := 96) dX12_image_95 rfl ?_
          refine v_iload_n (q := 97) dX12_image_96 rfl rfl rfl ?_
          refine v_iadd (q := 98) dX12_image_97 rfl ?_
          refine v_aload_n (q := 99) dX12_image_98 rfl rfl rfl ?_
          refine v_getRb (q := 102) dX12_image_99 rfl fg_X12_29 (fun o22 => ?_)
          refine v_iload_n (q := 103) dX12_image_102 rfl rfl rfl ?_
          refine v_iaload (q := 104) dX12_image_103 rfl (fun v23 => ?_)
          refine v_iastore (q := 105) dX12_image_104 rfl (fun M24 => ?_)
          refine v_aload_n (q := 106) dX12_image_105 rfl rfl rfl ?_
          refine v_getRb (q := 109) dX12_image_106 rfl fg_X12_71 (fun o25 => ?_)
          refine v_iload_n (q := 110) dX12_image_109 rfl rfl rfl ?_
          refine v_bipush (q := 112) dX12_image_110 rfl bp_43 ?_
          refine v_iadd (q := 113) dX12_image_112 rfl ?_
          refine v_iload_n (q := 114) dX12_image_113 rfl rfl rfl ?_
          refine v_iadd (q := 115) dX12_image_114 rfl ?_
          refine v_aload_n (q := 116) dX12_image_115 rfl rfl rfl ?_
          refine v_getRb (q := 119) dX12_image_116 rfl fg_X12_32 (fun o26 => ?_)
          refine v_iload_n (q := 120) dX12_image_119 rfl rfl rfl ?_
          refine v_iaload (q := 121) dX12_image_120 rfl (fun v27 => ?_)
          refine v_iastore (q := 122) dX12_image_121 rfl (fun M28 => ?_)
          refine v_aload_n (q := 123) dX12_image_122 rfl rfl rfl ?_
          refine v_getRb (q := 126) dX12_image_123 rfl fg_X12_71 (fun o29 => ?_)
          refine v_iload_n (q := 127) dX12_image_126 rfl rfl rfl ?_
          refine v_bipush (q := 129) dX12_image_127 rfl bp_49 ?_
          refine v_iadd (q := 130) dX12_image_129 rfl ?_
          refine v_iload_n (q := 131) dX12_image_130 rfl rfl rfl ?_
          refine v_iadd (q := 132) dX12_image_131 rfl ?_
          refine v_aload_n (q := 133) dX12_image_132 rfl rfl rfl ?_
          refine v_getRb (q := 136) dX12_image_133 rfl fg_X12_35 (fun o30 => ?_)
          refine v_iload_n (q := 137) dX12_image_136 rfl rfl rfl ?_
          refine v_iaload (q := 138) dX12_image_137 rfl (fun v31 => ?_)
          refine v_iastore (q := 139) dX12_image_138 rfl (fun M32 => ?_)
          refine v_aload_n (q := 140) dX12_image_139 rfl rfl rfl ?_
          refine v_getRb (q := 143) dX12_image_140 rfl fg_X12_71 (fun o33 => ?_)
          refine v_iload_n (q := 144) dX12_image_143 rfl rfl rfl ?_
          refine v_bipush (q := 146) dX12_image_144 rfl bp_55 ?_
          refine v_iadd (q := 147) dX12_image_146 rfl ?_
          refine v_iload_n (q := 148) dX12_image_147 rfl rfl rfl ?_
          refine v_iadd (q := 149) dX12_image_148 rfl ?_
          refine v_aload_n (q := 150) dX12_image_149 rfl rfl rfl ?_
          refine v_getRb (q := 153) dX12_image_150 rfl fg_X12_38 (fun o34 => ?_)
          refine v_iload_n (q := 154) dX12_image_153 rfl rfl rfl ?_
          refine v_iaload (q := 155) dX12_image_154 rfl (fun v35 => ?_)
          refine v_iastore (q := 156) dX12_image_155 rfl (fun M36 => ?_)
          refine v_iincL (q := 159) (x := v12) (cst := (1 : Int32)) (f := fun v37 => [some (.ref a0), some (.int x1), some (.int v2), some (.int v37)]) dX12_image_156 rfl rfl ic_1 rfl (Nat.le_of_ble_eq_true rfl) (fun _ => rfl) (fun v37 => ?_)
          refine v_goto (tgt := 48) dX12_image_159 rfl ?_
          exact v_inl (hk (M36, v37))
    · obtain ⟨M3, v4⟩ := s
      show V _ _ M3 20 [some (.ref a0), some (.int x1), some (.int v2), some (.int v4)] [] (s_X12_image_20 a0 v2 M3 v4) _
      unfold s_X12_image_20
      refine v_iload_n (q := 21) dX12_image_20 rfl rfl rfl ?_
      refine v_bipush (q := 23) dX12_image_21 rfl bp_25 ?_
      refine v_icmp_ge (tgt := 46) (q := 26) dX12_image_23 rfl rfl ?_ ?_
      · exact v_inr (hx (M3, v4))
      · refine v_aload_n (q := 27) dX12_image_26 rfl rfl rfl ?_
        refine v_getRb (q := 30) dX12_image_27 rfl fg_X12_71 (fun o5 => ?_)
        refine v_iload_n (q := 31) dX12_image_30 rfl rfl rfl ?_
        refine v_iload_n (q := 32) dX12_image_31 rfl rfl rfl ?_
        refine v_iadd (q := 33) dX12_image_32 rfl ?_
        refine v_aload_n (q := 34) dX12_image_33 rfl rfl rfl ?_
        refine v_getRb (q := 37) dX12_image_34 rfl fg_X12_13 (fun o6 => ?_)
        refine v_iload_n (q := 38) dX12_image_37 rfl rfl rfl ?_
        refine v_iaload (q := 39) dX12_image_38 rfl (fun v7 => ?_)
        refine v_iastore (q := 40) dX12_image_39 rfl (fun M8 => ?_)
        refine v_iincL (q := 43) (x := v4) (cst := (1 : Int32)) (f := fun v9 => [some (.ref a0), some (.int x1), some (.int v2), some (.int v9)]) dX12_image_40 rfl rfl ic_1 rfl (Nat.le_of_ble_eq_true rfl) (fun _ => rfl) (fun v9 => ?_)
        refine v_goto (tgt := 20) dX12_image_43 rfl ?_
        exact v_inl (hk (M8, v9))
  · refine v_bipush (q := 11) dX12_image_9 rfl bp_m2 ?_
    exact v_iret rfl dX12_image_11 ⟨Nat.le_of_ble_eq_true rfl, Nat.le_of_ble_eq_true rfl⟩ rfl
theorem ct_X12_image (d : Nat) (hd : 1 ≤ d) (a0 : Nat) (x1 : Int32) (M : Me) (r : Int32) (M2 : Me) (hf : f_X12_image a0 x1 M = some (r, M2)) : me_k M a0 = some (12, nf_c 12) ∧ Ct yX12_image mX12_image d 0 0 [.ref a0, .int x1] M (some (.int r), M2) := by
  obtain ⟨hk, hb⟩ := ck_some hf
  exact ⟨hk, ct_of (by decide +kernel) rfl rfl (Nat.le_of_ble_eq_true rfl) (vb_X12_image d hd a0 x1 M) (by rw [hb]; rfl)⟩

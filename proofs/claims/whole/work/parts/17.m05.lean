theorem dX8_fit_0 : decode cX8_fit 0 = .ok (.aload_n 0, 1) := by decide +kernel
theorem dX8_fit_1 : decode cX8_fit 1 = .ok (.getfield 9, 3) := by decide +kernel
theorem dX8_fit_4 : decode cX8_fit 4 = .ok (.iconst 0, 1) := by decide +kernel
theorem dX8_fit_5 : decode cX8_fit 5 = .ok (.invokestatic 15, 3) := by decide +kernel
theorem dX8_fit_8 : decode cX8_fit 8 = .ok (.aload_n 0, 1) := by decide +kernel
theorem dX8_fit_9 : decode cX8_fit 9 = .ok (.getfield 9, 3) := by decide +kernel
theorem dX8_fit_12 : decode cX8_fit 12 = .ok (.iconst 0, 1) := by decide +kernel
theorem dX8_fit_13 : decode cX8_fit 13 = .ok (.iconst 1, 1) := by decide +kernel
theorem dX8_fit_14 : decode cX8_fit 14 = .ok (.iastore, 1) := by decide +kernel
theorem dX8_fit_15 : decode cX8_fit 15 = .ok (.iconst 0, 1) := by decide +kernel
theorem dX8_fit_16 : decode cX8_fit 16 = .ok (.istore_n 2, 1) := by decide +kernel
theorem dX8_fit_17 : decode cX8_fit 17 = .ok (.iload_n 2, 1) := by decide +kernel
theorem dX8_fit_18 : decode cX8_fit 18 = .ok (.bipush 64, 2) := by decide +kernel
theorem dX8_fit_20 : decode cX8_fit 20 = .ok (.if_icmp .ge 24, 3) := by decide +kernel
theorem dX8_fit_23 : decode cX8_fit 23 = .ok (.aload_n 0, 1) := by decide +kernel
theorem dX8_fit_24 : decode cX8_fit 24 = .ok (.getfield 9, 3) := by decide +kernel
theorem dX8_fit_27 : decode cX8_fit 27 = .ok (.iload_n 2, 1) := by decide +kernel
theorem dX8_fit_28 : decode cX8_fit 28 = .ok (.iaload, 1) := by decide +kernel
theorem dX8_fit_29 : decode cX8_fit 29 = .ok (.ifCond .le 9, 3) := by decide +kernel
theorem dX8_fit_32 : decode cX8_fit 32 = .ok (.aload_n 0, 1) := by decide +kernel
theorem dX8_fit_33 : decode cX8_fit 33 = .ok (.aload_n 1, 1) := by decide +kernel
theorem dX8_fit_34 : decode cX8_fit 34 = .ok (.iload_n 2, 1) := by decide +kernel
theorem dX8_fit_35 : decode cX8_fit 35 = .ok (.invokevirtual 21, 3) := by decide +kernel
theorem dX8_fit_38 : decode cX8_fit 38 = .ok (.iinc 2 1, 3) := by decide +kernel
theorem dX8_fit_41 : decode cX8_fit 41 = .ok (.goto (-24), 3) := by decide +kernel
theorem dX8_fit_44 : decode cX8_fit 44 = .ok (.aload_n 0, 1) := by decide +kernel
theorem dX8_fit_45 : decode cX8_fit 45 = .ok (.iconst 0, 1) := by decide +kernel
theorem dX8_fit_46 : decode cX8_fit 46 = .ok (.putfield 25, 3) := by decide +kernel
theorem dX8_fit_49 : decode cX8_fit 49 = .ok (.aload_n 0, 1) := by decide +kernel
theorem dX8_fit_50 : decode cX8_fit 50 = .ok (.iconst 0, 1) := by decide +kernel
theorem dX8_fit_51 : decode cX8_fit 51 = .ok (.putfield 29, 3) := by decide +kernel
theorem dX8_fit_54 : decode cX8_fit 54 = .ok (.aload_n 0, 1) := by decide +kernel
theorem dX8_fit_55 : decode cX8_fit 55 = .ok (.bipush 63, 2) := by decide +kernel
theorem dX8_fit_57 : decode cX8_fit 57 = .ok (.putfield 32, 3) := by decide +kernel
theorem dX8_fit_60 : decode cX8_fit 60 = .ok (.iconst 0, 1) := by decide +kernel
theorem dX8_fit_61 : decode cX8_fit 61 = .ok (.istore_n 2, 1) := by decide +kernel
theorem dX8_fit_62 : decode cX8_fit 62 = .ok (.iload_n 2, 1) := by decide +kernel
theorem dX8_fit_63 : decode cX8_fit 63 = .ok (.bipush 64, 2) := by decide +kernel
theorem dX8_fit_65 : decode cX8_fit 65 = .ok (.if_icmp .ge 67, 3) := by decide +kernel
theorem dX8_fit_68 : decode cX8_fit 68 = .ok (.aload_n 0, 1) := by decide +kernel
theorem dX8_fit_69 : decode cX8_fit 69 = .ok (.getfield 9, 3) := by decide +kernel
theorem dX8_fit_72 : decode cX8_fit 72 = .ok (.iload_n 2, 1) := by decide +kernel
theorem dX8_fit_73 : decode cX8_fit 73 = .ok (.iaload, 1) := by decide +kernel
theorem dX8_fit_74 : decode cX8_fit 74 = .ok (.ifCond .le 52, 3) := by decide +kernel
theorem dX8_fit_77 : decode cX8_fit 77 = .ok (.iload_n 2, 1) := by decide +kernel
theorem dX8_fit_78 : decode cX8_fit 78 = .ok (.invokestatic 35, 3) := by decide +kernel
theorem dX8_fit_81 : decode cX8_fit 81 = .ok (.aload_n 1, 1) := by decide +kernel
theorem dX8_fit_82 : decode cX8_fit 82 = .ok (.getfield 41, 3) := by decide +kernel
theorem dX8_fit_85 : decode cX8_fit 85 = .ok (.getfield 47, 3) := by decide +kernel
theorem dX8_fit_88 : decode cX8_fit 88 = .ok (.if_icmp .ne 38, 3) := by decide +kernel
theorem dX8_fit_91 : decode cX8_fit 91 = .ok (.aload_n 0, 1) := by decide +kernel
theorem dX8_fit_92 : decode cX8_fit 92 = .ok (.dup, 1) := by decide +kernel
theorem dX8_fit_93 : decode cX8_fit 93 = .ok (.getfield 25, 3) := by decide +kernel
theorem dX8_fit_96 : decode cX8_fit 96 = .ok (.aload_n 0, 1) := by decide +kernel
theorem dX8_fit_97 : decode cX8_fit 97 = .ok (.getfield 9, 3) := by decide +kernel
theorem dX8_fit_100 : decode cX8_fit 100 = .ok (.iload_n 2, 1) := by decide +kernel
theorem dX8_fit_101 : decode cX8_fit 101 = .ok (.iaload, 1) := by decide +kernel
theorem dX8_fit_102 : decode cX8_fit 102 = .ok (.iadd, 1) := by decide +kernel
theorem dX8_fit_103 : decode cX8_fit 103 = .ok (.putfield 25, 3) := by decide +kernel
theorem dX8_fit_106 : decode cX8_fit 106 = .ok (.aload_n 0, 1) := by decide +kernel
theorem dX8_fit_107 : decode cX8_fit 107 = .ok (.dup, 1) := by decide +kernel
theorem dX8_fit_108 : decode cX8_fit 108 = .ok (.getfield 29, 3) := by decide +kernel
theorem dX8_fit_111 : decode cX8_fit 111 = .ok (.iload_n 2, 1) := by decide +kernel
theorem dX8_fit_112 : decode cX8_fit 112 = .ok (.ior, 1) := by decide +kernel
theorem dX8_fit_113 : decode cX8_fit 113 = .ok (.putfield 29, 3) := by decide +kernel
theorem dX8_fit_116 : decode cX8_fit 116 = .ok (.aload_n 0, 1) := by decide +kernel
theorem dX8_fit_117 : decode cX8_fit 117 = .ok (.dup, 1) := by decide +kernel
theorem dX8_fit_118 : decode cX8_fit 118 = .ok (.getfield 32, 3) := by decide +kernel
theorem dX8_fit_121 : decode cX8_fit 121 = .ok (.iload_n 2, 1) := by decide +kernel
theorem dX8_fit_122 : decode cX8_fit 122 = .ok (.iand, 1) := by decide +kernel
theorem dX8_fit_123 : decode cX8_fit 123 = .ok (.putfield 32, 3) := by decide +kernel
theorem dX8_fit_126 : decode cX8_fit 126 = .ok (.iinc 2 1, 3) := by decide +kernel
theorem dX8_fit_129 : decode cX8_fit 129 = .ok (.goto (-67), 3) := by decide +kernel
theorem dX8_fit_132 : decode cX8_fit 132 = .ok (.aload_n 0, 1) := by decide +kernel
theorem dX8_fit_133 : decode cX8_fit 133 = .ok (.dup, 1) := by decide +kernel
theorem dX8_fit_134 : decode cX8_fit 134 = .ok (.getfield 32, 3) := by decide +kernel
theorem dX8_fit_137 : decode cX8_fit 137 = .ok (.aload_n 0, 1) := by decide +kernel
theorem dX8_fit_138 : decode cX8_fit 138 = .ok (.getfield 29, 3) := by decide +kernel
theorem dX8_fit_141 : decode cX8_fit 141 = .ok (.iand, 1) := by decide +kernel
theorem dX8_fit_142 : decode cX8_fit 142 = .ok (.putfield 32, 3) := by decide +kernel
theorem dX8_fit_145 : decode cX8_fit 145 = .ok (.return_, 1) := by decide +kernel
noncomputable def s_X8_fit_17 (a0 : Nat) (a1 : Nat) (M5 : Me) (v6 : Int32) : Option ((Me × Int32) ⊕ (Me × Int32)) :=
  if (64 : Int32) ≤ v6 then (
    some (Sum.inr (M5, v6))
  ) else (
    gr M5 a0 8 0 fun o7 =>
    li M5 o7 v6 fun v8 =>
    (
      if v8 ≤ 0 then (
        some M5
      ) else (
        cM (f_X8_addStriker a0 a1 v6 M5) fun M9 =>
        some M9
      )
    ).bind fun M10 =>
    let_v (v6 + (1 : Int32)) fun v11 =>
    some (Sum.inl (M10, v11))
  )
noncomputable def s_X8_fit_62 (a0 : Nat) (a1 : Nat) (M16 : Me) (v17 : Int32) : Option ((Me × Int32) ⊕ (Me × Int32)) :=
  if (64 : Int32) ≤ v17 then (
    some (Sum.inr (M16, v17))
  ) else (
    gr M16 a0 8 0 fun o18 =>
    li M16 o18 v17 fun v19 =>
    (
      if v19 ≤ 0 then (
        some M16
      ) else (
        cP (f_J6_bitCount_0f7a4 v17 M16) fun v20 =>
        gr M16 a1 0 3 fun o21 =>
        gi M16 o21 9 0 fun v22 =>
        if v20 = v22 then (
          gi M16 a0 8 1 fun v23 =>
          gr M16 a0 8 0 fun o24 =>
          li M16 o24 v17 fun v25 =>
          pi M16 a0 8 1 (v23 + v25) fun M26 =>
          gi M26 a0 8 2 fun v27 =>
          pi M26 a0 8 2 (v27 ||| v17) fun M28 =>
          gi M28 a0 8 3 fun v29 =>
          pi M28 a0 8 3 (v29 &&& v17) fun M30 =>
          some M30
        ) else (
          some M16
        )
      )
    ).bind fun M31 =>
    let_v (v17 + (1 : Int32)) fun v32 =>
    some (Sum.inl (M31, v32))
  )
noncomputable def b_X8_fit (a0 : Nat) (a1 : Nat) (M : Me) : Option (Me) :=
  gr M a0 8 0 fun o1 =>
  cM (f_J7_fill_53178 o1 (0 : Int32) M) fun M2 =>
  gr M2 a0 8 0 fun o3 =>
  si M2 o3 (0 : Int32) (1 : Int32) fun M4 =>
  (lp (fun s => s_X8_fit_17 a0 a1 s.1 s.2) (M4, (0 : Int32))).bind fun e12 =>
  pi e12.1 a0 8 1 (0 : Int32) fun M13 =>
  pi M13 a0 8 2 (0 : Int32) fun M14 =>
  pi M14 a0 8 3 (63 : Int32) fun M15 =>
  (lp (fun s => s_X8_fit_62 a0 a1 s.1 s.2) (M15, (0 : Int32))).bind fun e33 =>
  gi e33.1 a0 8 3 fun v34 =>
  gi e33.1 a0 8 2 fun v35 =>
  pi e33.1 a0 8 3 (v34 &&& v35) fun M36 =>
  some M36
noncomputable def f_X8_fit (a0 : Nat) (a1 : Nat) (M : Me) : Option (Me) := ck M a0 8 (b_X8_fit a0 a1 M)
set_option maxRecDepth 20000 in
theorem vb_X8_fit (d : Nat) (hd : 2 ≤ d) (a0 : Nat) (a1 : Nat) (M : Me) : V (mX8_fit, d, 0, 0) (0, 0) M 0 [some (.ref a0), some (.ref a1), none] [] (b_X8_fit a0 a1 M) (fun M2 => some (none, M2)) := by
  unfold b_X8_fit
  refine v_aload_n (q := 1) dX8_fit_0 rfl rfl rfl ?_
  refine v_getRb (q := 4) dX8_fit_1 rfl fg_X8_9 (fun o1 => ?_)
  refine v_iconst (q := 5) dX8_fit_4 rfl ic_0 ?_
  refine v_cMS2 (q := 8) (ct_J7_fill_53178 (d - 1) (by omega) _ _ _) dX8_fit_5 rfl cc_X8_15 (by omega) (Nat.le_of_ble_eq_true rfl) ⟨Nat.le_of_ble_eq_true rfl, Nat.le_of_ble_eq_true rfl⟩ (fun M2 => ?_)
  refine v_aload_n (q := 9) dX8_fit_8 rfl rfl rfl ?_
  refine v_getRb (q := 12) dX8_fit_9 rfl fg_X8_9 (fun o3 => ?_)
  refine v_iconst (q := 13) dX8_fit_12 rfl ic_0 ?_
  refine v_iconst (q := 14) dX8_fit_13 rfl ic_1 ?_
  refine v_iastore (q := 15) dX8_fit_14 rfl (fun M4 => ?_)
  refine v_iconst (q := 16) dX8_fit_15 rfl ic_0 ?_
  refine v_istore_n (q := 17) (loc2 := [some (.ref a0), some (.ref a1), some (.int (0 : Int32))]) dX8_fit_16 rfl rfl rfl (Nat.le_of_ble_eq_true rfl) rfl ?_
  refine v_lps (S := Me × Int32) 44 (fun s => s.1) (fun s => [some (.ref a0), some (.ref a1), some (.int s.2)]) (fun e12 => e12.1) (fun e12 => [some (.ref a0), some (.ref a1), some (.int e12.2)]) (fun e12 => ?_) (fun k K hk hx s => ?_)
  · refine v_aload_n (q := 45) dX8_fit_44 rfl rfl rfl ?_
    refine v_iconst (q := 46) dX8_fit_45 rfl ic_0 ?_
    refine v_putIb (q := 49) dX8_fit_46 rfl fp_X8_25 (fun M13 => ?_)
    refine v_aload_n (q := 50) dX8_fit_49 rfl rfl rfl ?_
    refine v_iconst (q := 51) dX8_fit_50 rfl ic_0 ?_
    refine v_putIb (q := 54) dX8_fit_51 rfl fp_X8_29 (fun M14 => ?_)
    refine v_aload_n (q := 55) dX8_fit_54 rfl rfl rfl ?_
    refine v_bipush (q := 57) dX8_fit_55 rfl bp_63 ?_
    refine v_putIb (q := 60) dX8_fit_57 rfl fp_X8_32 (fun M15 => ?_)
    refine v_iconst (q := 61) dX8_fit_60 rfl ic_0 ?_
    refine v_istore_n (q := 62) (loc2 := [some (.ref a0), some (.ref a1), some (.int (0 : Int32))]) dX8_fit_61 rfl rfl rfl (Nat.le_of_ble_eq_true rfl) rfl ?_
    refine v_lps (S := Me × Int32) 132 (fun s => s.1) (fun s => [some (.ref a0), some (.ref a1), some (.int s.2)]) (fun e33 => e33.1) (fun e33 => [some (.ref a0), some (.ref a1), some (.int e33.2)]) (fun e33 => ?_) (fun k K hk hx s => ?_)
    · refine v_aload_n (q := 133) dX8_fit_132 rfl rfl rfl ?_
      refine v_dup (q := 134) dX8_fit_133 rfl rfl ?_
      refine v_getIb (q := 137) dX8_fit_134 rfl fg_X8_32 (fun v34 => ?_)
      refine v_aload_n (q := 138) dX8_fit_137 rfl rfl rfl ?_
      refine v_getIb (q := 141) dX8_fit_138 rfl fg_X8_29 (fun v35 => ?_)
      refine v_iand (q := 142) dX8_fit_141 rfl ?_
      refine v_putIb (q := 145) dX8_fit_142 rfl fp_X8_32 (fun M36 => ?_)
      exact v_vret rfl dX8_fit_145 ⟨Nat.le_of_ble_eq_true rfl, Nat.le_of_ble_eq_true rfl⟩ rfl
    · obtain ⟨M16, v17⟩ := s
      show V _ _ M16 62 [some (.ref a0), some (.ref a1), some (.int v17)] [] (s_X8_fit_62 a0 a1 M16 v17) _
      unfold s_X8_fit_62
      refine v_iload_n (q := 63) dX8_fit_62 rfl rfl rfl ?_
      refine v_bipush (q := 65) dX8_fit_63 rfl bp_64 ?_
      refine v_icmp_ge (tgt := 132) (q := 68) dX8_fit_65 rfl rfl ?_ ?_
      · exact v_inr (hx (M16, v17))
      · refine v_aload_n (q := 69) dX8_fit_68 rfl rfl rfl ?_
        refine v_getRb (q := 72) dX8_fit_69 rfl fg_X8_9 (fun o18 => ?_)
        refine v_iload_n (q := 73) dX8_fit_72 rfl rfl rfl ?_
        refine v_iaload (q := 74) dX8_fit_73 rfl (fun v19 => ?_)
        refine v_join (γ := Me) 126 (fun M31 => M31) (fun M31 => [some (.ref a0), some (.ref a1), some (.int v17)]) (fun M31 => []) (fun K hK => ?_) (fun M31 => ?_)
        · refine v_if_le (tgt := 126) (q := 77) dX8_fit_74 rfl rfl ?_ ?_
          · exact hK M16
          · refine v_iload_n (q := 78) dX8_fit_77 rfl rfl rfl ?_
            refine v_cPS1 (q := 81) (ct_J6_bitCount_0f7a4 (d - 1) (by omega) _ _) dX8_fit_78 rfl cc_X8_35 (by omega) (Nat.le_of_ble_eq_true rfl) ⟨Nat.le_of_ble_eq_true rfl, Nat.le_of_ble_eq_true rfl⟩ (fun v20 => ?_)
            refine v_aload_n (q := 82) dX8_fit_81 rfl rfl rfl ?_
            refine v_getRb (q := 85) dX8_fit_82 rfl fg_X8_41 (fun o21 => ?_)
            refine v_getIb (q := 88) dX8_fit_85 rfl fg_X8_47 (fun v22 => ?_)
            refine v_icmp_ne (tgt := 126) (q := 91) dX8_fit_88 rfl rfl ?_ ?_
            · exact hK M16
            · refine v_aload_n (q := 92) dX8_fit_91 rfl rfl rfl ?_
              refine v_dup (q := 93) dX8_fit_92 rfl rfl ?_
              refine v_getIb (q := 96) dX8_fit_93 rfl fg_X8_25 (fun v23 => ?_)
              refine v_aload_n (q := 97) dX8_fit_96 rfl rfl rfl ?_
              refine v_getRb (q := 100) dX8_fit_97 rfl fg_X8_9 (fun o24 => ?_)
              refine v_iload_n (q := 101) dX8_fit_100 rfl rfl rfl ?_
              refine v_iaload (q := 102) dX8_fit_101 rfl (fun v25 => ?_)
              refine v_iadd (q := 103) dX8_fit_102 rfl ?_
              refine v_putIb (q := 106) dX8_fit_103 rfl fp_X8_25 (fun M26 => ?_)
              refine v_aload_n (q := 107) dX8_fit_106 rfl rfl rfl ?_
              refine v_dup (q := 108) dX8_fit_107 rfl rfl ?_
              refine v_getIb (q := 111) dX8_fit_108 rfl fg_X8_29 (fun v27 => ?_)
              refine v_iload_n (q := 112) dX8_fit_111 rfl rfl rfl ?_
              refine v_ior (q := 113) dX8_fit_112 rfl ?_
              refine v_putIb (q := 116) dX8_fit_113 rfl fp_X8_29 (fun M28 => ?_)
              refine v_aload_n (q := 117) dX8_fit_116 rfl rfl rfl ?_
              refine v_dup (q := 118) dX8_fit_117 rfl rfl ?_
              refine v_getIb (q := 121) dX8_fit_118 rfl fg_X8_32 (fun v29 => ?_)
              refine v_iload_n (q := 122) dX8_fit_121 rfl rfl rfl ?_
              refine v_iand (q := 123) dX8_fit_122 rfl ?_
              refine v_putIb (q := 126) dX8_fit_123 rfl fp_X8_32 (fun M30 => ?_)
              exact hK M30
        · refine v_iincL (q := 129) (x := v17) (cst := (1 : Int32)) (f := fun v32 => [some (.ref a0), some (.ref a1), some (.int v32)]) dX8_fit_126 rfl rfl ic_1 rfl (Nat.le_of_ble_eq_true rfl) (fun _ => rfl) (fun v32 => ?_)
          refine v_goto (tgt := 62) dX8_fit_129 rfl ?_
          exact v_inl (hk (M31, v32))
  · obtain ⟨M5, v6⟩ := s
    show V _ _ M5 17 [some (.ref a0), some (.ref a1), some (.int v6)] [] (s_X8_fit_17 a0 a1 M5 v6) _
    unfold s_X8_fit_17
    refine v_iload_n (q := 18) dX8_fit_17 rfl rfl rfl ?_
    refine v_bipush (q := 20) dX8_fit_18 rfl bp_64 ?_
    refine v_icmp_ge (tgt := 44) (q := 23) dX8_fit_20 rfl rfl ?_ ?_
    · exact v_inr (hx (M5, v6))
    · refine v_aload_n (q := 24) dX8_fit_23 rfl rfl rfl ?_
      refine v_getRb (q := 27) dX8_fit_24 rfl fg_X8_9 (fun o7 => ?_)
      refine v_iload_n (q := 28) dX8_fit_27 rfl rfl rfl ?_
      refine v_iaload (q := 29) dX8_fit_28 rfl (fun v8 => ?_)
      refine v_join (γ := Me) 38 (fun M10 => M10) (fun M10 => [some (.ref a0), some (.ref a1), some (.int v6)]) (fun M10 => []) (fun K hK => ?_) (fun M10 => ?_)
      · refine v_if_le (tgt := 38) (q := 32) dX8_fit_29 rfl rfl ?_ ?_
        · exact hK M5
        · refine v_aload_n (q := 33) dX8_fit_32 rfl rfl rfl ?_
          refine v_aload_n (q := 34) dX8_fit_33 rfl rfl rfl ?_
          refine v_iload_n (q := 35) dX8_fit_34 rfl rfl rfl ?_
          refine v_cMV2 (q := 38) (ct_X8_addStriker (d - 1) (by omega) _ _ _ _) dX8_fit_35 rfl cc_X8_21 (by omega) (Nat.le_of_ble_eq_true rfl) ⟨Nat.le_of_ble_eq_true rfl, Nat.le_of_ble_eq_true rfl⟩ (fun M9 => ?_)
          exact hK M9
      · refine v_iincL (q := 41) (x := v6) (cst := (1 : Int32)) (f := fun v11 => [some (.ref a0), some (.ref a1), some (.int v11)]) dX8_fit_38 rfl rfl ic_1 rfl (Nat.le_of_ble_eq_true rfl) (fun _ => rfl) (fun v11 => ?_)
        refine v_goto (tgt := 17) dX8_fit_41 rfl ?_
        exact v_inl (hk (M10, v11))
theorem ct_X8_fit (d : Nat) (hd : 2 ≤ d) (a0 : Nat) (a1 : Nat) (M : Me) (r : Me) (hf : f_X8_fit a0 a1 M = some r) : me_k M a0 = some (8, nf_c 8) ∧ Ct yX8_fit mX8_fit d 0 0 [.ref a0, .ref a1] M (none, r) := by
  obtain ⟨hk, hb⟩ := ck_some hf
  exact ⟨hk, ct_of (by decide +kernel) rfl rfl (Nat.le_of_ble_eq_true rfl) (vb_X8_fit d hd a0 a1 M) (by rw [hb]; rfl)⟩
theorem dX9_add_0 : decode cX9_add 0 = .ok (.aload_n 0, 1) := by decide +kernel
theorem dX9_add_1 : decode cX9_add 1 = .ok (.getfield 18, 3) := by decide +kernel
theorem dX9_add_4 : decode cX9_add 4 = .ok (.bipush 6, 2) := by decide +kernel
theorem dX9_add_6 : decode cX9_add 6 = .ok (.if_icmp .ge 33, 3) := by decide +kernel
theorem dX9_add_9 : decode cX9_add 9 = .ok (.aload_n 0, 1) := by decide +kernel
theorem dX9_add_10 : decode cX9_add 10 = .ok (.getfield 9, 3) := by decide +kernel
theorem dX9_add_13 : decode cX9_add 13 = .ok (.aload_n 0, 1) := by decide +kernel
theorem dX9_add_14 : decode cX9_add 14 = .ok (.getfield 18, 3) := by decide +kernel
theorem dX9_add_17 : decode cX9_add 17 = .ok (.iload_n 1, 1) := by decide +kernel
theorem dX9_add_18 : decode cX9_add 18 = .ok (.iastore, 1) := by decide +kernel
theorem dX9_add_19 : decode cX9_add 19 = .ok (.aload_n 0, 1) := by decide +kernel
theorem dX9_add_20 : decode cX9_add 20 = .ok (.getfield 15, 3) := by decide +kernel
theorem dX9_add_23 : decode cX9_add 23 = .ok (.aload_n 0, 1) := by decide +kernel
theorem dX9_add_24 : decode cX9_add 24 = .ok (.getfield 18, 3) := by decide +kernel
theorem dX9_add_27 : decode cX9_add 27 = .ok (.iload_n 2, 1) := by decide +kernel
theorem dX9_add_28 : decode cX9_add 28 = .ok (.iastore, 1) := by decide +kernel
theorem dX9_add_29 : decode cX9_add 29 = .ok (.aload_n 0, 1) := by decide +kernel
theorem dX9_add_30 : decode cX9_add 30 = .ok (.dup, 1) := by decide +kernel
theorem dX9_add_31 : decode cX9_add 31 = .ok (.getfield 18, 3) := by decide +kernel
theorem dX9_add_34 : decode cX9_add 34 = .ok (.iconst 1, 1) := by decide +kernel
theorem dX9_add_35 : decode cX9_add 35 = .ok (.iadd, 1) := by decide +kernel
theorem dX9_add_36 : decode cX9_add 36 = .ok (.putfield 18, 3) := by decide +kernel
theorem dX9_add_39 : decode cX9_add 39 = .ok (.return_, 1) := by decide +kernel
noncomputable def b_X9_add (a0 : Nat) (x1 : Int32) (x2 : Int32) (M : Me) : Option (Me) :=
  gi M a0 9 0 fun v1 =>
  (
    if (6 : Int32) ≤ v1 then (
      some M
    ) else (
      gr M a0 9 1 fun o2 =>
      gi M a0 9 0 fun v3 =>
      si M o2 v3 x1 fun M4 =>
      gr M4 a0 9 2 fun o5 =>
      gi M4 a0 9 0 fun v6 =>
      si M4 o5 v6 x2 fun M7 =>
      gi M7 a0 9 0 fun v8 =>
      pi M7 a0 9 0 (v8 + (1 : Int32)) fun M9 =>
      some M9
    )
  ).bind fun M10 =>
  some M10
noncomputable def f_X9_add (a0 : Nat) (x1 : Int32) (x2 : Int32) (M : Me) : Option (Me) := ck M a0 9 (b_X9_add a0 x1 x2 M)
set_option maxRecDepth 20000 in
theorem vb_X9_add (d : Nat) (hd : 0 ≤ d) (a0 : Nat) (x1 : Int32) (x2 : Int32) (M : Me) : V (mX9_add, d, 0, 0) (0, 0) M 0 [some (.ref a0), some (.int x1), some (.int x2)] [] (b_X9_add a0 x1 x2 M) (fun M2 => some (none, M2)) := by
  unfold b_X9_add
  refine v_aload_n (q := 1) dX9_add_0 rfl rfl rfl ?_
  refine v_getIb (q := 4) dX9_add_1 rfl fg_X9_18 (fun v1 => ?_)
  refine v_bipush (q := 6) dX9_add_4 rfl bp_6 ?_
  refine v_join (γ := Me) 39 (fun M10 => M10) (fun M10 => [some (.ref a0), some (.int x1), some (.int x2)]) (fun M10 => []) (fun K hK => ?_) (fun M10 => ?_)
  · refine v_icmp_ge (tgt := 39) (q := 9) dX9_add_6 rfl rfl ?_ ?_
    · exact hK M
    · refine v_aload_n (q := 10) dX9_add_9 rfl rfl rfl ?_
      refine v_getRb (q := 13) dX9_add_10 rfl fg_X9_9 (fun o2 => ?_)
      refine v_aload_n (q := 14) dX9_add_13 rfl rfl rfl ?_
      refine v_getIb (q := 17) dX9_add_14 rfl fg_X9_18 (fun v3 => ?_)
      refine v_iload_n (q := 18) dX9_add_17 rfl rfl rfl ?_
      refine v_iastore (q := 19) dX9_add_18 rfl (fun M4 => ?_)
      refine v_aload_n (q := 20) dX9_add_19 rfl rfl rfl ?_
      refine v_getRb (q := 23) dX9_add_20 rfl fg_X9_15 (fun o5 => ?_)
      refine v_aload_n (q := 24) dX9_add_23 rfl rfl rfl ?_
      refine v_getIb (q := 27) dX9_add_24 rfl fg_X9_18 (fun v6 => ?_)
      refine v_iload_n (q := 28) dX9_add_27 rfl rfl rfl ?_
      refine v_iastore (q := 29) dX9_add_28 rfl (fun M7 => ?_)
      refine v_aload_n (q := 30) dX9_add_29 rfl rfl rfl ?_
      refine v_dup (q := 31) dX9_add_30 rfl rfl ?_
      refine v_getIb (q := 34) dX9_add_31 rfl fg_X9_18 (fun v8 => ?_)
      refine v_iconst (q := 35) dX9_add_34 rfl ic_1 ?_
      refine v_iadd (q := 36) dX9_add_35 rfl ?_
      refine v_putIb (q := 39) dX9_add_36 rfl fp_X9_18 (fun M9 => ?_)
      exact hK M9
  · exact v_vret rfl dX9_add_39 ⟨Nat.le_of_ble_eq_true rfl, Nat.le_of_ble_eq_true rfl⟩ rfl
theorem ct_X9_add (d : Nat) (hd : 0 ≤ d) (a0 : Nat) (x1 : Int32) (x2 : Int32) (M : Me) (r : Me) (hf : f_X9_add a0 x1 x2 M = some r) : me_k M a0 = some (9, nf_c 9) ∧ Ct yX9_add mX9_add d 0 0 [.ref a0, .int x1, .int x2] M (none, r) := by
  obtain ⟨hk, hb⟩ := ck_some hf
  exact ⟨hk, ct_of (by decide +kernel) rfl rfl (Nat.le_of_ble_eq_true rfl) (vb_X9_add d hd a0 x1 x2 M) (by rw [hb]; rfl)⟩
theorem dX10_init_0 : decode cX10_init 0 = .ok (.aload_n 0, 1) := by decide +kernel
theorem dX10_init_1 : decode cX10_init 1 = .ok (.invokespecial 3, 3) := by decide +kernel
theorem dX10_init_4 : decode cX10_init 4 = .ok (.aload_n 0, 1) := by decide +kernel
theorem dX10_init_5 : decode cX10_init 5 = .ok (.new 9, 3) := by decide +kernel
theorem dX10_init_8 : decode cX10_init 8 = .ok (.dup, 1) := by decide +kernel
theorem dX10_init_9 : decode cX10_init 9 = .ok (.invokespecial 11, 3) := by decide +kernel
theorem dX10_init_12 : decode cX10_init 12 = .ok (.putfield 12, 3) := by decide +kernel
theorem dX10_init_15 : decode cX10_init 15 = .ok (.return_, 1) := by decide +kernel
noncomputable def b_X10_init (a0 : Nat) (M : Me) : Option (Me) :=
  no M 0 fun o1 M2 =>
  cM (f_X0_init o1 M2) fun M3 =>
  pr M3 a0 10 0 o1 fun M4 =>
  some M4
noncomputable def f_X10_init (a0 : Nat) (M : Me) : Option (Me) := b_X10_init a0 M
set_option maxRecDepth 20000 in
theorem vb_X10_init (d : Nat) (hd : 4 ≤ d) (a0 : Nat) (M : Me) : V (mX10_init, d, 28, 178) (0, 0) M 0 [some (.ref a0)] [] (b_X10_init a0 M) (fun M2 => some (none, M2)) := by
  unfold b_X10_init
  refine v_aload_n (q := 1) dX10_init_0 rfl rfl rfl ?_
  refine v_oinit (q := 4) dX10_init_1 rfl cc_X10_3 aw_obj.1 aw_obj.2 (by show 1 ≤ d; omega) rfl ?_
  refine v_aload_n (q := 5) dX10_init_4 rfl rfl rfl ?_
  refine v_newU (q := 8) (u2 := (1, 6)) dX10_init_5 rfl cn_X10_9 ⟨Nat.le_of_ble_eq_true rfl, Nat.le_of_ble_eq_true rfl⟩ rfl (fun o1 M2 => ?_)
  refine v_dup (q := 9) dX10_init_8 rfl rfl ?_
  refine v_cMN0a (q := 12) (u2 := (28, 178)) (ct_X0_init (d - 1) (by omega) _ _) dX10_init_9 rfl cc_X10_11 (by omega) (Nat.le_of_ble_eq_true rfl) ⟨Nat.le_of_ble_eq_true rfl, Nat.le_of_ble_eq_true rfl⟩ rfl (fun M3 => ?_)
  refine v_putRb (q := 15) dX10_init_12 rfl fp_X10_12 (fun M4 => ?_)
  exact v_vret rfl dX10_init_15 ⟨Nat.le_of_ble_eq_true rfl, Nat.le_of_ble_eq_true rfl⟩ rfl
theorem ct_X10_init (d : Nat) (hd : 4 ≤ d) (a0 : Nat) (M : Me) (r : Me) (hf : f_X10_init a0 M = some r) : Ct yX10_init mX10_init d 28 178 [.ref a0] M (none, r) := by
  have hb : b_X10_init a0 M = some r := hf
  exact ct_of (by decide +kernel) rfl rfl (Nat.le_of_ble_eq_true rfl) (vb_X10_init d hd a0 M) (by rw [hb]; rfl)
theorem dX10_tryAct_0 : decode cX10_tryAct 0 = .ok (.aload_n 1, 1) := by decide +kernel
theorem dX10_tryAct_1 : decode cX10_tryAct 1 = .ok (.iload_n 2, 1) := by decide +kernel
theorem dX10_tryAct_2 : decode cX10_tryAct 2 = .ok (.invokevirtual 42, 3) := by decide +kernel
theorem dX10_tryAct_5 : decode cX10_tryAct 5 = .ok (.invokestatic 45, 3) := by decide +kernel
theorem dX10_tryAct_8 : decode cX10_tryAct 8 = .ok (.istore_n 3, 1) := by decide +kernel
theorem dX10_tryAct_9 : decode cX10_tryAct 9 = .ok (.iload_n 3, 1) := by decide +kernel
theorem dX10_tryAct_10 : decode cX10_tryAct 10 = .ok (.ifCond .le 13, 3) := by decide +kernel
theorem dX10_tryAct_13 : decode cX10_tryAct 13 = .ok (.aload_n 0, 1) := by decide +kernel
theorem dX10_tryAct_14 : decode cX10_tryAct 14 = .ok (.getfield 12, 3) := by decide +kernel
theorem dX10_tryAct_17 : decode cX10_tryAct 17 = .ok (.iload_n 3, 1) := by decide +kernel
theorem dX10_tryAct_18 : decode cX10_tryAct 18 = .ok (.invokevirtual 48, 3) := by decide +kernel
theorem dX10_tryAct_21 : decode cX10_tryAct 21 = .ok (.iconst 0, 1) := by decide +kernel
theorem dX10_tryAct_22 : decode cX10_tryAct 22 = .ok (.ireturn, 1) := by decide +kernel
theorem dX10_tryAct_23 : decode cX10_tryAct 23 = .ok (.aload_n 1, 1) := by decide +kernel
theorem dX10_tryAct_24 : decode cX10_tryAct 24 = .ok (.iload_n 2, 1) := by decide +kernel
theorem dX10_tryAct_25 : decode cX10_tryAct 25 = .ok (.invokevirtual 42, 3) := by decide +kernel
theorem dX10_tryAct_28 : decode cX10_tryAct 28 = .ok (.bipush 65, 2) := by decide +kernel
theorem dX10_tryAct_30 : decode cX10_tryAct 30 = .ok (.isub, 1) := by decide +kernel
theorem dX10_tryAct_31 : decode cX10_tryAct 31 = .ok (.istore 4, 2) := by decide +kernel
theorem dX10_tryAct_33 : decode cX10_tryAct 33 = .ok (.aload_n 1, 1) := by decide +kernel
theorem dX10_tryAct_34 : decode cX10_tryAct 34 = .ok (.iload_n 2, 1) := by decide +kernel
theorem dX10_tryAct_35 : decode cX10_tryAct 35 = .ok (.iconst 1, 1) := by decide +kernel
theorem dX10_tryAct_36 : decode cX10_tryAct 36 = .ok (.iadd, 1) := by decide +kernel
theorem dX10_tryAct_37 : decode cX10_tryAct 37 = .ok (.invokevirtual 42, 3) := by decide +kernel
theorem dX10_tryAct_40 : decode cX10_tryAct 40 = .ok (.istore 5, 2) := by decide +kernel
theorem dX10_tryAct_42 : decode cX10_tryAct 42 = .ok (.iload 5, 2) := by decide +kernel
theorem dX10_tryAct_44 : decode cX10_tryAct 44 = .ok (.invokestatic 52, 3) := by decide +kernel
theorem dX10_tryAct_47 : decode cX10_tryAct 47 = .ok (.ifCond .eq 25, 3) := by decide +kernel
theorem dX10_tryAct_50 : decode cX10_tryAct 50 = .ok (.aload_n 0, 1) := by decide +kernel
theorem dX10_tryAct_51 : decode cX10_tryAct 51 = .ok (.getfield 12, 3) := by decide +kernel
theorem dX10_tryAct_54 : decode cX10_tryAct 54 = .ok (.iload 4, 2) := by decide +kernel
theorem dX10_tryAct_56 : decode cX10_tryAct 56 = .ok (.iload 5, 2) := by decide +kernel
theorem dX10_tryAct_58 : decode cX10_tryAct 58 = .ok (.bipush 65, 2) := by decide +kernel
theorem dX10_tryAct_60 : decode cX10_tryAct 60 = .ok (.isub, 1) := by decide +kernel
theorem dX10_tryAct_61 : decode cX10_tryAct 61 = .ok (.aload_n 1, 1) := by decide +kernel
theorem dX10_tryAct_62 : decode cX10_tryAct 62 = .ok (.iload_n 2, 1) := by decide +kernel
theorem dX10_tryAct_63 : decode cX10_tryAct 63 = .ok (.iconst 2, 1) := by decide +kernel
theorem dX10_tryAct_64 : decode cX10_tryAct 64 = .ok (.iadd, 1) := by decide +kernel
theorem dX10_tryAct_65 : decode cX10_tryAct 65 = .ok (.invokevirtual 56, 3) := by decide +kernel
theorem dX10_tryAct_68 : decode cX10_tryAct 68 = .ok (.invokevirtual 59, 3) := by decide +kernel
theorem dX10_tryAct_71 : decode cX10_tryAct 71 = .ok (.ireturn, 1) := by decide +kernel
theorem dX10_tryAct_72 : decode cX10_tryAct 72 = .ok (.iload 5, 2) := by decide +kernel
theorem dX10_tryAct_74 : decode cX10_tryAct 74 = .ok (.lookupswitch 64 #[(33, 44), (47, 54), (61, 34)], 34) := by decide +kernel
theorem dX10_tryAct_108 : decode cX10_tryAct 108 = .ok (.aload_n 0, 1) := by decide +kernel
theorem dX10_tryAct_109 : decode cX10_tryAct 109 = .ok (.getfield 12, 3) := by decide +kernel
theorem dX10_tryAct_112 : decode cX10_tryAct 112 = .ok (.iload 4, 2) := by decide +kernel
theorem dX10_tryAct_114 : decode cX10_tryAct 114 = .ok (.invokevirtual 63, 3) := by decide +kernel
theorem dX10_tryAct_117 : decode cX10_tryAct 117 = .ok (.ireturn, 1) := by decide +kernel
theorem dX10_tryAct_118 : decode cX10_tryAct 118 = .ok (.aload_n 0, 1) := by decide +kernel
theorem dX10_tryAct_119 : decode cX10_tryAct 119 = .ok (.getfield 12, 3) := by decide +kernel
theorem dX10_tryAct_122 : decode cX10_tryAct 122 = .ok (.iload 4, 2) := by decide +kernel
theorem dX10_tryAct_124 : decode cX10_tryAct 124 = .ok (.invokevirtual 66, 3) := by decide +kernel
theorem dX10_tryAct_127 : decode cX10_tryAct 127 = .ok (.ireturn, 1) := by decide +kernel
theorem dX10_tryAct_128 : decode cX10_tryAct 128 = .ok (.aload_n 0, 1) := by decide +kernel
theorem dX10_tryAct_129 : decode cX10_tryAct 129 = .ok (.getfield 12, 3) := by decide +kernel
theorem dX10_tryAct_132 : decode cX10_tryAct 132 = .ok (.iload 4, 2) := by decide +kernel
theorem dX10_tryAct_134 : decode cX10_tryAct 134 = .ok (.invokevirtual 69, 3) := by decide +kernel
theorem dX10_tryAct_137 : decode cX10_tryAct 137 = .ok (.ireturn, 1) := by decide +kernel
theorem dX10_tryAct_138 : decode cX10_tryAct 138 = .ok (.aload_n 0, 1) := by decide +kernel
theorem dX10_tryAct_139 : decode cX10_tryAct 139 = .ok (.getfield 12, 3) := by decide +kernel
theorem dX10_tryAct_142 : decode cX10_tryAct 142 = .ok (.iload 4, 2) := by decide +kernel
theorem dX10_tryAct_144 : decode cX10_tryAct 144 = .ok (.iload 5, 2) := by decide +kernel
theorem dX10_tryAct_146 : decode cX10_tryAct 146 = .ok (.bipush 48, 2) := by decide +kernel
theorem dX10_tryAct_148 : decode cX10_tryAct 148 = .ok (.isub, 1) := by decide +kernel
theorem dX10_tryAct_149 : decode cX10_tryAct 149 = .ok (.invokevirtual 72, 3) := by decide +kernel
theorem dX10_tryAct_152 : decode cX10_tryAct 152 = .ok (.ireturn, 1) := by decide +kernel
noncomputable def b_X10_tryAct (a0 : Nat) (a1 : Nat) (x2 : Int32) (M : Me) : Option (Int32 × Me) :=
  cP (f_X7_signAt a1 x2 M) fun v1 =>
  cP (f_X7_daysOf v1 M) fun v2 =>
  if v2 ≤ 0 then (
    cP (f_X7_signAt a1 x2 M) fun v3 =>
    let_v ((v3 - (65 : Int32))) fun v4 =>
    cP (f_X7_signAt a1 (x2 + (1 : Int32)) M) fun v5 =>
    cP (f_X7_isLetter v5 M) fun v6 =>
    if v6 = 0 then (
      if v5 = (33 : Int32) then (
        gr M a0 10 0 fun o7 =>
        cI (f_X0_tryFlinch o7 v4 M) fun v8 M9 =>
        some (v8, M9)
      ) else (
        if v5 = (47 : Int32) then (
          gr M a0 10 0 fun o10 =>
          cI (f_X0_tryRemit o10 v4 M) fun v11 M12 =>
          some (v11, M12)
        ) else (
          if v5 = (61 : Int32) then (
            gr M a0 10 0 fun o13 =>
            cI (f_X0_tryGiveBack o13 v4 M) fun v14 M15 =>
            some (v14, M15)
          ) else (
            gr M a0 10 0 fun o16 =>
            cI (f_X0_trySetOut o16 v4 (v5 - (48 : Int32)) M) fun v17 M18 =>
            some (v17, M18)
          )
        )
      )
    ) else (
      gr M a0 10 0 fun o19 =>
      cP (f_X7_numberAt a1 (x2 + (2 : Int32)) M) fun v20 =>
      cI (f_X0_tryStrike o19 v4 (v5 - (65 : Int32)) v20 M) fun v21 M22 =>
      some (v21, M22)
    )
  ) else (
    gr M a0 10 0 fun o23 =>
    cM (f_X0_passDays o23 v2 M) fun M24 =>
    some ((0 : Int32), M24)
  )
noncomputable def f_X10_tryAct (a0 : Nat) (a1 : Nat) (x2 : Int32) (M : Me) : Option (Int32 × Me) := ck M a0 10 (b_X10_tryAct a0 a1 x2 M)
set_option maxRecDepth 20000 in
theorem vb_X10_tryAct (d : Nat) (hd : 4 ≤ d) (a0 : Nat) (a1 : Nat) (x2 : Int32) (M : Me) : V (mX10_tryAct, d, 0, 0) (0, 0) M 0 [some (.ref a0), some (.ref a1), some (.int x2), none, none, none] [] (b_X10_tryAct a0 a1 x2 M) (fun z => some (some (.int z.1), z.2)) := by
  unfold b_X10_tryAct
  refine v_aload_n (q := 1) dX10_tryAct_0 rfl rfl rfl ?_
  refine v_iload_n (q := 2) dX10_tryAct_1 rfl rfl rfl ?_
  refine v_cPV1 (q := 5) (ct_X7_signAt (d - 1) (by omega) _ _ _) dX10_tryAct_2 rfl cc_X10_42 (by omega) (Nat.le_of_ble_eq_true rfl) ⟨Nat.le_of_ble_eq_true rfl, Nat.le_of_ble_eq_true rfl⟩ (fun v1 => ?_)
  refine v_cPS1 (q := 8) (ct_X7_daysOf (d - 1) (by omega) _ _) dX10_tryAct_5 rfl cc_X10_45 (by omega) (Nat.le_of_ble_eq_true rfl) ⟨Nat.le_of_ble_eq_true rfl, Nat.le_of_ble_eq_true rfl⟩ (fun v2 => ?_)
  refine v_istore_n (q := 9) (loc2 := [some (.ref a0), some (.ref a1), some (.int x2), some (.int v2), none, none]) dX10_tryAct_8 rfl rfl rfl (Nat.le_of_ble_eq_true rfl) rfl ?_
  refine v_iload_n (q := 10) dX10_tryAct_9 rfl rfl rfl ?_
  refine v_if_le (tgt := 23) (q := 13) dX10_tryAct_10 rfl rfl ?_ ?_
  · refine v_aload_n (q := 24) dX10_tryAct_23 rfl rfl rfl ?_
    refine v_iload_n (q := 25) dX10_tryAct_24 rfl rfl rfl ?_
    refine v_cPV1 (q := 28) (ct_X7_signAt (d - 1) (by omega) _ _ _) dX10_tryAct_25 rfl cc_X10_42 (by omega) (Nat.le_of_ble_eq_true rfl) ⟨Nat.le_of_ble_eq_true rfl, Nat.le_of_ble_eq_true rfl⟩ (fun v3 => ?_)
    refine v_bipush (q := 30) dX10_tryAct_28 rfl bp_65 ?_
    refine v_isub (q := 31) dX10_tryAct_30 rfl ?_
    refine v_letI (fun v4 => ?_)
    refine v_istore (q := 33) (loc2 := [some (.ref a0), some (.ref a1), some (.int x2), some (.int v2), some (.int v4), none]) dX10_tryAct_31 rfl rfl (Nat.le_of_ble_eq_true rfl) rfl ?_
    refine v_aload_n (q := 34) dX10_tryAct_33 rfl rfl rfl ?_
    refine v_iload_n (q := 35) dX10_tryAct_34 rfl rfl rfl ?_
    refine v_iconst (q := 36) dX10_tryAct_35 rfl ic_1 ?_
    refine v_iadd (q := 37) dX10_tryAct_36 rfl ?_
    refine v_cPV1 (q := 40) (ct_X7_signAt (d - 1) (by omega) _ _ _) dX10_tryAct_37 rfl cc_X10_42 (by omega) (Nat.le_of_ble_eq_true rfl) ⟨Nat.le_of_ble_eq_true rfl, Nat.le_of_ble_eq_true rfl⟩ (fun v5 => ?_)
    refine v_istore (q := 42) (loc2 := [some (.ref a0), some (.ref a1), some (.int x2), some (.int v2), some (.int v4), some (.int v5)]) dX10_tryAct_40 rfl rfl (Nat.le_of_ble_eq_true rfl) rfl ?_
    refine v_iload (q := 44) dX10_tryAct_42 rfl rfl ?_
    refine v_cPS1 (q := 47) (ct_X7_isLetter (d - 1) (by omega) _ _) dX10_tryAct_44 rfl cc_X10_52 (by omega) (Nat.le_of_ble_eq_true rfl) ⟨Nat.le_of_ble_eq_true rfl, Nat.le_of_ble_eq_true rfl⟩ (fun v6 => ?_)
    refine v_if_eq (tgt := 72) (q := 50) dX10_tryAct_47 rfl rfl ?_ ?_
    · refine v_iload (q := 74) dX10_tryAct_72 rfl rfl ?_
      refine v_ite (fun h33 => ?_) (fun h33 => ?_)
      · subst h33; refine v_lkpO (off := 44) (tgt := 118) dX10_tryAct_74 (by decide) (by decide) rfl ?_
        refine v_aload_n (q := 119) dX10_tryAct_118 rfl rfl rfl ?_
        refine v_getRb (q := 122) dX10_tryAct_119 rfl fg_X10_12 (fun o7 => ?_)
        refine v_iload (q := 124) dX10_tryAct_122 rfl rfl ?_
        refine v_cIV1 (q := 127) (ct_X0_tryFlinch (d - 1) (by omega) _ _ _) dX10_tryAct_124 rfl cc_X10_66 (by omega) (Nat.le_of_ble_eq_true rfl) ⟨Nat.le_of_ble_eq_true rfl, Nat.le_of_ble_eq_true rfl⟩ (fun v8 M9 => ?_)
        exact v_iret rfl dX10_tryAct_127 ⟨Nat.le_of_ble_eq_true rfl, Nat.le_of_ble_eq_true rfl⟩ rfl
      · refine v_ite (fun h47 => ?_) (fun h47 => ?_)
        · subst h47; refine v_lkpO (off := 54) (tgt := 128) dX10_tryAct_74 (by decide) (by decide) rfl ?_
          refine v_aload_n (q := 129) dX10_tryAct_128 rfl rfl rfl ?_
          refine v_getRb (q := 132) dX10_tryAct_129 rfl fg_X10_12 (fun o10 => ?_)
          refine v_iload (q := 134) dX10_tryAct_132 rfl rfl ?_
          refine v_cIV1 (q := 137) (ct_X0_tryRemit (d - 1) (by omega) _ _ _) dX10_tryAct_134 rfl cc_X10_69 (by omega) (Nat.le_of_ble_eq_true rfl) ⟨Nat.le_of_ble_eq_true rfl, Nat.le_of_ble_eq_true rfl⟩ (fun v11 M12 => ?_)
          exact v_iret rfl dX10_tryAct_137 ⟨Nat.le_of_ble_eq_true rfl, Nat.le_of_ble_eq_true rfl⟩ rfl
        · refine v_ite (fun h61 => ?_) (fun h61 => ?_)
          · subst h61; refine v_lkpO (off := 34) (tgt := 108) dX10_tryAct_74 (by decide) (by decide) rfl ?_
            refine v_aload_n (q := 109) dX10_tryAct_108 rfl rfl rfl ?_
            refine v_getRb (q := 112) dX10_tryAct_109 rfl fg_X10_12 (fun o13 => ?_)
            refine v_iload (q := 114) dX10_tryAct_112 rfl rfl ?_
            refine v_cIV1 (q := 117) (ct_X0_tryGiveBack (d - 1) (by omega) _ _ _) dX10_tryAct_114 rfl cc_X10_63 (by omega) (Nat.le_of_ble_eq_true rfl) ⟨Nat.le_of_ble_eq_true rfl, Nat.le_of_ble_eq_true rfl⟩ (fun v14 M15 => ?_)
            exact v_iret rfl dX10_tryAct_117 ⟨Nat.le_of_ble_eq_true rfl, Nat.le_of_ble_eq_true rfl⟩ rfl
          · refine v_lkpO (off := 64) (tgt := 138) dX10_tryAct_74 (by decide) (by refine (lv_osw h33 (by decide)).trans ?_; refine (lv_osw h47 (by decide)).trans ?_; refine (lv_osw h61 (by decide)).trans ?_; exact rfl) rfl ?_
            refine v_aload_n (q := 139) dX10_tryAct_138 rfl rfl rfl ?_
            refine v_getRb (q := 142) dX10_tryAct_139 rfl fg_X10_12 (fun o16 => ?_)
            refine v_iload (q := 144) dX10_tryAct_142 rfl rfl ?_
            refine v_iload (q := 146) dX10_tryAct_144 rfl rfl ?_
            refine v_bipush (q := 148) dX10_tryAct_146 rfl bp_48 ?_
            refine v_isub (q := 149) dX10_tryAct_148 rfl ?_
            refine v_cIV2 (q := 152) (ct_X0_trySetOut (d - 1) (by omega) _ _ _ _) dX10_tryAct_149 rfl cc_X10_72 (by omega) (Nat.le_of_ble_eq_true rfl) ⟨Nat.le_of_ble_eq_true rfl, Nat.le_of_ble_eq_true rfl⟩ (fun v17 M18 => ?_)
            exact v_iret rfl dX10_tryAct_152 ⟨Nat.le_of_ble_eq_true rfl, Nat.le_of_ble_eq_true rfl⟩ rfl
    · refine v_aload_n (q := 51) dX10_tryAct_50 rfl rfl rfl ?_
      refine v_getRb (q := 54) dX10_tryAct_51 rfl fg_X10_12 (fun o19 => ?_)
      refine v_iload (q := 56) dX10_tryAct_54 rfl rfl ?_
      refine v_iload (q := 58) dX10_tryAct_56 rfl rfl ?_
      refine v_bipush (q := 60) dX10_tryAct_58 rfl bp_65 ?_
      refine v_isub (q := 61) dX10_tryAct_60 rfl ?_
      refine v_aload_n (q := 62) dX10_tryAct_61 rfl rfl rfl ?_
      refine v_iload_n (q := 63) dX10_tryAct_62 rfl rfl rfl ?_
      refine v_iconst (q := 64) dX10_tryAct_63 rfl ic_2 ?_
      refine v_iadd (q := 65) dX10_tryAct_64 rfl ?_
      refine v_cPV1 (q := 68) (ct_X7_numberAt (d - 1) (by omega) _ _ _) dX10_tryAct_65 rfl cc_X10_56 (by omega) (Nat.le_of_ble_eq_true rfl) ⟨Nat.le_of_ble_eq_true rfl, Nat.le_of_ble_eq_true rfl⟩ (fun v20 => ?_)
      refine v_cIV3 (q := 71) (ct_X0_tryStrike (d - 1) (by omega) _ _ _ _ _) dX10_tryAct_68 rfl cc_X10_59 (by omega) (Nat.le_of_ble_eq_true rfl) ⟨Nat.le_of_ble_eq_true rfl, Nat.le_of_ble_eq_true rfl⟩ (fun v21 M22 => ?_)
      exact v_iret rfl dX10_tryAct_71 ⟨Nat.le_of_ble_eq_true rfl, Nat.le_of_ble_eq_true rfl⟩ rfl
  · refine v_aload_n (q := 14) dX10_tryAct_13 rfl rfl rfl ?_
    refine v_getRb (q := 17) dX10_tryAct_14 rfl fg_X10_12 (fun o23 => ?_)
    refine v_iload_n (q := 18) dX10_tryAct_17 rfl rfl rfl ?_
    refine v_cMV1 (q := 21) (ct_X0_passDays (d - 1) (by omega) _ _ _) dX10_tryAct_18 rfl cc_X10_48 (by omega) (Nat.le_of_ble_eq_true rfl) ⟨Nat.le_of_ble_eq_true rfl, Nat.le_of_ble_eq_true rfl⟩ (fun M24 => ?_)
    refine v_iconst (q := 22) dX10_tryAct_21 rfl ic_0 ?_
    exact v_iret rfl dX10_tryAct_22 ⟨Nat.le_of_ble_eq_true rfl, Nat.le_of_ble_eq_true rfl⟩ rfl
theorem ct_X10_tryAct (d : Nat) (hd : 4 ≤ d) (a0 : Nat) (a1 : Nat) (x2 : Int32) (M : Me) (r : Int32) (M2 : Me) (hf : f_X10_tryAct a0 a1 x2 M = some (r, M2)) : me_k M a0 = some (10, nf_c 10) ∧ Ct yX10_tryAct mX10_tryAct d 0 0 [.ref a0, .ref a1, .int x2] M (some (.int r), M2) := by
  obtain ⟨hk, hb⟩ := ck_some hf
  exact ⟨hk, ct_of (by decide +kernel) rfl rfl (Nat.le_of_ble_eq_true rfl) (vb_X10_tryAct d hd a0 a1 x2 M) (by rw [hb]; rfl)⟩
theorem dX10_hear_0 : decode cX10_hear 0 = .ok (.aload_n 0, 1) := by decide +kernel
theorem dX10_hear_1 : decode cX10_hear 1 = .ok (.getfield 12, 3) := by decide +kernel
theorem dX10_hear_4 : decode cX10_hear 4 = .ok (.aload_n 2, 1) := by decide +kernel
theorem dX10_hear_5 : decode cX10_hear 5 = .ok (.invokevirtual 18, 3) := by decide +kernel
theorem dX10_hear_8 : decode cX10_hear 8 = .ok (.aload_n 0, 1) := by decide +kernel
theorem dX10_hear_9 : decode cX10_hear 9 = .ok (.iconst 0, 1) := by decide +kernel
theorem dX10_hear_10 : decode cX10_hear 10 = .ok (.putfield 22, 3) := by decide +kernel
theorem dX10_hear_13 : decode cX10_hear 13 = .ok (.aload_n 0, 1) := by decide +kernel
theorem dX10_hear_14 : decode cX10_hear 14 = .ok (.iconst 0, 1) := by decide +kernel
theorem dX10_hear_15 : decode cX10_hear 15 = .ok (.putfield 26, 3) := by decide +kernel
theorem dX10_hear_18 : decode cX10_hear 18 = .ok (.iconst 0, 1) := by decide +kernel
theorem dX10_hear_19 : decode cX10_hear 19 = .ok (.istore_n 3, 1) := by decide +kernel
theorem dX10_hear_20 : decode cX10_hear 20 = .ok (.iconst 0, 1) := by decide +kernel
theorem dX10_hear_21 : decode cX10_hear 21 = .ok (.istore 4, 2) := by decide +kernel
theorem dX10_hear_23 : decode cX10_hear 23 = .ok (.iload 4, 2) := by decide +kernel
theorem dX10_hear_25 : decode cX10_hear 25 = .ok (.bipush 60, 2) := by decide +kernel
theorem dX10_hear_27 : decode cX10_hear 27 = .ok (.if_icmp .ge 54, 3) := by decide +kernel
theorem dX10_hear_30 : decode cX10_hear 30 = .ok (.iload_n 3, 1) := by decide +kernel
theorem dX10_hear_31 : decode cX10_hear 31 = .ok (.aload_n 1, 1) := by decide +kernel
theorem dX10_hear_32 : decode cX10_hear 32 = .ok (.getfield 29, 3) := by decide +kernel
theorem dX10_hear_35 : decode cX10_hear 35 = .ok (.if_icmp .ge 46, 3) := by decide +kernel
theorem dX10_hear_38 : decode cX10_hear 38 = .ok (.aload_n 0, 1) := by decide +kernel
theorem dX10_hear_39 : decode cX10_hear 39 = .ok (.aload_n 0, 1) := by decide +kernel
theorem dX10_hear_40 : decode cX10_hear 40 = .ok (.aload_n 1, 1) := by decide +kernel
theorem dX10_hear_41 : decode cX10_hear 41 = .ok (.iload_n 3, 1) := by decide +kernel
theorem dX10_hear_42 : decode cX10_hear 42 = .ok (.invokevirtual 34, 3) := by decide +kernel
theorem dX10_hear_45 : decode cX10_hear 45 = .ok (.putfield 26, 3) := by decide +kernel
theorem dX10_hear_48 : decode cX10_hear 48 = .ok (.aload_n 0, 1) := by decide +kernel
theorem dX10_hear_49 : decode cX10_hear 49 = .ok (.getfield 26, 3) := by decide +kernel
theorem dX10_hear_52 : decode cX10_hear 52 = .ok (.ifCond .eq 5, 3) := by decide +kernel
theorem dX10_hear_55 : decode cX10_hear 55 = .ok (.iconst 0, 1) := by decide +kernel
theorem dX10_hear_56 : decode cX10_hear 56 = .ok (.ireturn, 1) := by decide +kernel
theorem dX10_hear_57 : decode cX10_hear 57 = .ok (.aload_n 0, 1) := by decide +kernel
theorem dX10_hear_58 : decode cX10_hear 58 = .ok (.dup, 1) := by decide +kernel
theorem dX10_hear_59 : decode cX10_hear 59 = .ok (.getfield 22, 3) := by decide +kernel
theorem dX10_hear_62 : decode cX10_hear 62 = .ok (.iconst 1, 1) := by decide +kernel
theorem dX10_hear_63 : decode cX10_hear 63 = .ok (.iadd, 1) := by decide +kernel
theorem dX10_hear_64 : decode cX10_hear 64 = .ok (.putfield 22, 3) := by decide +kernel
theorem dX10_hear_67 : decode cX10_hear 67 = .ok (.iload_n 3, 1) := by decide +kernel
theorem dX10_hear_68 : decode cX10_hear 68 = .ok (.aload_n 1, 1) := by decide +kernel
theorem dX10_hear_69 : decode cX10_hear 69 = .ok (.iload_n 3, 1) := by decide +kernel
theorem dX10_hear_70 : decode cX10_hear 70 = .ok (.invokevirtual 38, 3) := by decide +kernel
theorem dX10_hear_73 : decode cX10_hear 73 = .ok (.iadd, 1) := by decide +kernel
theorem dX10_hear_74 : decode cX10_hear 74 = .ok (.istore_n 3, 1) := by decide +kernel
theorem dX10_hear_75 : decode cX10_hear 75 = .ok (.iinc 4 1, 3) := by decide +kernel
theorem dX10_hear_78 : decode cX10_hear 78 = .ok (.goto (-55), 3) := by decide +kernel
theorem dX10_hear_81 : decode cX10_hear 81 = .ok (.iconst 1, 1) := by decide +kernel
theorem dX10_hear_82 : decode cX10_hear 82 = .ok (.ireturn, 1) := by decide +kernel
noncomputable def s_X10_hear_23 (a0 : Nat) (a1 : Nat) (M5 : Me) (v6 : Int32) (v7 : Int32) : Option ((Me × Int32 × Int32) ⊕ ((Me × Int32 × Int32) ⊕ (Int32 × Me))) :=
  if (60 : Int32) ≤ v7 then (
    some (Sum.inr (Sum.inl (M5, v6, v7)))
  ) else (
    gi M5 a1 7 0 fun v8 =>
    if v8 ≤ v6 then (
      some (Sum.inr (Sum.inl (M5, v6, v7)))
    ) else (
      cI (f_X10_tryAct a0 a1 v6 M5) fun v9 M10 =>
      pi M10 a0 10 2 v9 fun M11 =>
      gi M11 a0 10 2 fun v12 =>
      if v12 = 0 then (
        gi M11 a0 10 1 fun v13 =>
        pi M11 a0 10 1 (v13 + (1 : Int32)) fun M14 =>
        cP (f_X7_signsOfAct a1 v6 M14) fun v15 =>
        let_v ((v6 + v15)) fun v16 =>
        let_v (v7 + (1 : Int32)) fun v17 =>
        some (Sum.inl (M14, v16, v17))
      ) else (
        some (Sum.inr (Sum.inr ((0 : Int32), M11)))
      )
    )
  )
noncomputable def b_X10_hear (a0 : Nat) (a1 : Nat) (a2 : Nat) (M : Me) : Option (Int32 × Me) :=
  gr M a0 10 0 fun o1 =>
  cM (f_X0_copy o1 a2 M) fun M2 =>
  pi M2 a0 10 1 (0 : Int32) fun M3 =>
  pi M3 a0 10 2 (0 : Int32) fun M4 =>
  ex_r (lp (fun s => s_X10_hear_23 a0 a1 s.1 s.2.1 s.2.2) (M4, (0 : Int32), (0 : Int32))) (fun e18 =>
    some ((1 : Int32), e18.1)
  ) (fun t => some t)
noncomputable def f_X10_hear (a0 : Nat) (a1 : Nat) (a2 : Nat) (M : Me) : Option (Int32 × Me) := ck M a0 10 (b_X10_hear a0 a1 a2 M)
set_option maxRecDepth 20000 in
theorem vb_X10_hear (d : Nat) (hd : 5 ≤ d) (a0 : Nat) (a1 : Nat) (a2 : Nat) (M : Me) : V (mX10_hear, d, 0, 0) (0, 0) M 0 [some (.ref a0), some (.ref a1), some (.ref a2), none, none] [] (b_X10_hear a0 a1 a2 M) (fun z => some (some (.int z.1), z.2)) := by
  unfold b_X10_hear
  refine v_aload_n (q := 1) dX10_hear_0 rfl rfl rfl ?_
  refine v_getRb (q := 4) dX10_hear_1 rfl fg_X10_12 (fun o1 => ?_)
  refine v_aload_n (q := 5) dX10_hear_4 rfl rfl rfl ?_
  refine v_cMV1 (q := 8) (ct_X0_copy (d - 1) (by omega) _ _ _) dX10_hear_5 rfl cc_X10_18 (by omega) (Nat.le_of_ble_eq_true rfl) ⟨Nat.le_of_ble_eq_true rfl, Nat.le_of_ble_eq_true rfl⟩ (fun M2 => ?_)
  refine v_aload_n (q := 9) dX10_hear_8 rfl rfl rfl ?_
  refine v_iconst (q := 10) dX10_hear_9 rfl ic_0 ?_
  refine v_putIb (q := 13) dX10_hear_10 rfl fp_X10_22 (fun M3 => ?_)
  refine v_aload_n (q := 14) dX10_hear_13 rfl rfl rfl ?_
  refine v_iconst (q := 15) dX10_hear_14 rfl ic_0 ?_
  refine v_putIb (q := 18) dX10_hear_15 rfl fp_X10_26 (fun M4 => ?_)
  refine v_iconst (q := 19) dX10_hear_18 rfl ic_0 ?_
  refine v_istore_n (q := 20) (loc2 := [some (.ref a0), some (.ref a1), some (.ref a2), some (.int (0 : Int32)), none]) dX10_hear_19 rfl rfl rfl (Nat.le_of_ble_eq_true rfl) rfl ?_
  refine v_iconst (q := 21) dX10_hear_20 rfl ic_0 ?_
  refine v_istore (q := 23) (loc2 := [some (.ref a0), some (.ref a1), some (.ref a2), some (.int (0 : Int32)), some (.int (0 : Int32))]) dX10_hear_21 rfl rfl (Nat.le_of_ble_eq_true rfl) rfl ?_
  refine v_lpr (S := Me × Int32 × Int32) 81 (fun s => s.1) (fun s => [some (.ref a0), some (.ref a1), some (.ref a2), some (.int s.2.1), some (.int s.2.2)]) (fun e18 => e18.1) (fun e18 => [some (.ref a0), some (.ref a1), some (.ref a2), some (.int e18.2.1), some (.int e18.2.2)]) (fun e18 => ?_) (fun k K hk hx s => ?_)
  · refine v_iconst (q := 82) dX10_hear_81 rfl ic_1 ?_
    exact v_zret rfl dX10_hear_82 ⟨Nat.le_of_ble_eq_true rfl, Nat.le_of_ble_eq_true rfl⟩ rfl (Or.inr rfl)
  · obtain ⟨M5, v6, v7⟩ := s
    show V _ _ M5 23 [some (.ref a0), some (.ref a1), some (.ref a2), some (.int v6), some (.int v7)] [] (s_X10_hear_23 a0 a1 M5 v6 v7) _
    unfold s_X10_hear_23
    refine v_iload (q := 25) dX10_hear_23 rfl rfl ?_
    refine v_bipush (q := 27) dX10_hear_25 rfl bp_60 ?_
    refine v_icmp_ge (tgt := 81) (q := 30) dX10_hear_27 rfl rfl ?_ ?_
    · exact v_inr (v_sml (hx (M5, v6, v7)))
    · refine v_iload_n (q := 31) dX10_hear_30 rfl rfl rfl ?_
      refine v_aload_n (q := 32) dX10_hear_31 rfl rfl rfl ?_
      refine v_getIb (q := 35) dX10_hear_32 rfl fg_X10_29 (fun v8 => ?_)
      refine v_icmp_ge (tgt := 81) (q := 38) dX10_hear_35 rfl rfl ?_ ?_
      · exact v_inr (v_sml (hx (M5, v6, v7)))
      · refine v_aload_n (q := 39) dX10_hear_38 rfl rfl rfl ?_
        refine v_aload_n (q := 40) dX10_hear_39 rfl rfl rfl ?_
        refine v_aload_n (q := 41) dX10_hear_40 rfl rfl rfl ?_
        refine v_iload_n (q := 42) dX10_hear_41 rfl rfl rfl ?_
        refine v_cIV2 (q := 45) (ct_X10_tryAct (d - 1) (by omega) _ _ _ _) dX10_hear_42 rfl cc_X10_34 (by omega) (Nat.le_of_ble_eq_true rfl) ⟨Nat.le_of_ble_eq_true rfl, Nat.le_of_ble_eq_true rfl⟩ (fun v9 M10 => ?_)
        refine v_putIb (q := 48) dX10_hear_45 rfl fp_X10_26 (fun M11 => ?_)
        refine v_aload_n (q := 49) dX10_hear_48 rfl rfl rfl ?_
        refine v_getIb (q := 52) dX10_hear_49 rfl fg_X10_26 (fun v12 => ?_)
        refine v_if_eq (tgt := 57) (q := 55) dX10_hear_52 rfl rfl ?_ ?_
        · refine v_aload_n (q := 58) dX10_hear_57 rfl rfl rfl ?_
          refine v_dup (q := 59) dX10_hear_58 rfl rfl ?_
          refine v_getIb (q := 62) dX10_hear_59 rfl fg_X10_22 (fun v13 => ?_)
          refine v_iconst (q := 63) dX10_hear_62 rfl ic_1 ?_
          refine v_iadd (q := 64) dX10_hear_63 rfl ?_
          refine v_putIb (q := 67) dX10_hear_64 rfl fp_X10_22 (fun M14 => ?_)
          refine v_iload_n (q := 68) dX10_hear_67 rfl rfl rfl ?_
          refine v_aload_n (q := 69) dX10_hear_68 rfl rfl rfl ?_
          refine v_iload_n (q := 70) dX10_hear_69 rfl rfl rfl ?_
          refine v_cPV1 (q := 73) (ct_X7_signsOfAct (d - 1) (by omega) _ _ _) dX10_hear_70 rfl cc_X10_38 (by omega) (Nat.le_of_ble_eq_true rfl) ⟨Nat.le_of_ble_eq_true rfl, Nat.le_of_ble_eq_true rfl⟩ (fun v15 => ?_)
          refine v_iadd (q := 74) dX10_hear_73 rfl ?_
          refine v_letI (fun v16 => ?_)
          refine v_istore_n (q := 75) (loc2 := [some (.ref a0), some (.ref a1), some (.ref a2), some (.int v16), some (.int v7)]) dX10_hear_74 rfl rfl rfl (Nat.le_of_ble_eq_true rfl) rfl ?_
          refine v_iincL (q := 78) (x := v7) (cst := (1 : Int32)) (f := fun v17 => [some (.ref a0), some (.ref a1), some (.ref a2), some (.int v16), some (.int v17)]) dX10_hear_75 rfl rfl ic_1 rfl (Nat.le_of_ble_eq_true rfl) (fun _ => rfl) (fun v17 => ?_)
          refine v_goto (tgt := 23) dX10_hear_78 rfl ?_
          exact v_inl (hk (M14, v16, v17))
        · refine v_iconst (q := 56) dX10_hear_55 rfl ic_0 ?_
          exact v_zret rfl dX10_hear_56 ⟨Nat.le_of_ble_eq_true rfl, Nat.le_of_ble_eq_true rfl⟩ rfl (Or.inl rfl)
theorem ct_X10_hear (d : Nat) (hd : 5 ≤ d) (a0 : Nat) (a1 : Nat) (a2 : Nat) (M : Me) (r : Int32) (M2 : Me) (hf : f_X10_hear a0 a1 a2 M = some (r, M2)) : me_k M a0 = some (10, nf_c 10) ∧ Ct yX10_hear mX10_hear d 0 0 [.ref a0, .ref a1, .ref a2] M (some (.int r), M2) := by
  obtain ⟨hk, hb⟩ := ck_some hf
  exact ⟨hk, ct_of (by decide +kernel) rfl rfl (Nat.le_of_ble_eq_true rfl) (vb_X10_hear d hd a0 a1 a2 M) (by rw [hb]; rfl)⟩
theorem dX10_draw_0 : decode cX10_draw 0 = .ok (.aload_n 0, 1) := by decide +kernel
theorem dX10_draw_1 : decode cX10_draw 1 = .ok (.getfield 12, 3) := by decide +kernel
theorem dX10_draw_4 : decode cX10_draw 4 = .ok (.aload_n 1, 1) := by decide +kernel
theorem dX10_draw_5 : decode cX10_draw 5 = .ok (.invokevirtual 18, 3) := by decide +kernel
theorem dX10_draw_8 : decode cX10_draw 8 = .ok (.aload_n 0, 1) := by decide +kernel
theorem dX10_draw_9 : decode cX10_draw 9 = .ok (.iconst 0, 1) := by decide +kernel
theorem dX10_draw_10 : decode cX10_draw 10 = .ok (.putfield 76, 3) := by decide +kernel
theorem dX10_draw_13 : decode cX10_draw 13 = .ok (.aload_n 0, 1) := by decide +kernel
theorem dX10_draw_14 : decode cX10_draw 14 = .ok (.iconst 0, 1) := by decide +kernel
theorem dX10_draw_15 : decode cX10_draw 15 = .ok (.putfield 79, 3) := by decide +kernel
theorem dX10_draw_18 : decode cX10_draw 18 = .ok (.iload_n 2, 1) := by decide +kernel
theorem dX10_draw_19 : decode cX10_draw 19 = .ok (.istore 4, 2) := by decide +kernel
theorem dX10_draw_21 : decode cX10_draw 21 = .ok (.iconst 0, 1) := by decide +kernel
theorem dX10_draw_22 : decode cX10_draw 22 = .ok (.istore 5, 2) := by decide +kernel
theorem dX10_draw_24 : decode cX10_draw 24 = .ok (.iload 5, 2) := by decide +kernel
theorem dX10_draw_26 : decode cX10_draw 26 = .ok (.iload_n 3, 1) := by decide +kernel
theorem dX10_draw_27 : decode cX10_draw 27 = .ok (.if_icmp .ge 100, 3) := by decide +kernel
theorem dX10_draw_30 : decode cX10_draw 30 = .ok (.bipush 75, 2) := by decide +kernel
theorem dX10_draw_32 : decode cX10_draw 32 = .ok (.iload 4, 2) := by decide +kernel
theorem dX10_draw_34 : decode cX10_draw 34 = .ok (.imul, 1) := by decide +kernel
theorem dX10_draw_35 : decode cX10_draw 35 = .ok (.bipush 74, 2) := by decide +kernel
theorem dX10_draw_37 : decode cX10_draw 37 = .ok (.iadd, 1) := by decide +kernel
theorem dX10_draw_38 : decode cX10_draw 38 = .ok (.ldc 82, 2) := by decide +kernel
theorem dX10_draw_40 : decode cX10_draw 40 = .ok (.irem, 1) := by decide +kernel
theorem dX10_draw_41 : decode cX10_draw 41 = .ok (.istore 4, 2) := by decide +kernel
theorem dX10_draw_43 : decode cX10_draw 43 = .ok (.iload 4, 2) := by decide +kernel
theorem dX10_draw_45 : decode cX10_draw 45 = .ok (.bipush 6, 2) := by decide +kernel
theorem dX10_draw_47 : decode cX10_draw 47 = .ok (.irem, 1) := by decide +kernel
theorem dX10_draw_48 : decode cX10_draw 48 = .ok (.istore 6, 2) := by decide +kernel
theorem dX10_draw_50 : decode cX10_draw 50 = .ok (.aload_n 0, 1) := by decide +kernel
theorem dX10_draw_51 : decode cX10_draw 51 = .ok (.getfield 12, 3) := by decide +kernel
theorem dX10_draw_54 : decode cX10_draw 54 = .ok (.iload 6, 2) := by decide +kernel
theorem dX10_draw_56 : decode cX10_draw 56 = .ok (.iload 4, 2) := by decide +kernel
theorem dX10_draw_58 : decode cX10_draw 58 = .ok (.bipush 6, 2) := by decide +kernel
theorem dX10_draw_60 : decode cX10_draw 60 = .ok (.idiv, 1) := by decide +kernel
theorem dX10_draw_61 : decode cX10_draw 61 = .ok (.bipush 6, 2) := by decide +kernel
theorem dX10_draw_63 : decode cX10_draw 63 = .ok (.irem, 1) := by decide +kernel
theorem dX10_draw_64 : decode cX10_draw 64 = .ok (.iconst 1, 1) := by decide +kernel
theorem dX10_draw_65 : decode cX10_draw 65 = .ok (.invokevirtual 59, 3) := by decide +kernel
theorem dX10_draw_68 : decode cX10_draw 68 = .ok (.ifCond .ne 16, 3) := by decide +kernel
theorem dX10_draw_71 : decode cX10_draw 71 = .ok (.aload_n 0, 1) := by decide +kernel
theorem dX10_draw_72 : decode cX10_draw 72 = .ok (.dup, 1) := by decide +kernel
theorem dX10_draw_73 : decode cX10_draw 73 = .ok (.getfield 76, 3) := by decide +kernel
theorem dX10_draw_76 : decode cX10_draw 76 = .ok (.iconst 1, 1) := by decide +kernel
theorem dX10_draw_77 : decode cX10_draw 77 = .ok (.iadd, 1) := by decide +kernel
theorem dX10_draw_78 : decode cX10_draw 78 = .ok (.putfield 76, 3) := by decide +kernel
theorem dX10_draw_81 : decode cX10_draw 81 = .ok (.goto 25, 3) := by decide +kernel
theorem dX10_draw_84 : decode cX10_draw 84 = .ok (.aload_n 0, 1) := by decide +kernel
theorem dX10_draw_85 : decode cX10_draw 85 = .ok (.getfield 12, 3) := by decide +kernel
theorem dX10_draw_88 : decode cX10_draw 88 = .ok (.iload 6, 2) := by decide +kernel
theorem dX10_draw_90 : decode cX10_draw 90 = .ok (.invokevirtual 63, 3) := by decide +kernel
theorem dX10_draw_93 : decode cX10_draw 93 = .ok (.ifCond .ne 13, 3) := by decide +kernel
theorem dX10_draw_96 : decode cX10_draw 96 = .ok (.aload_n 0, 1) := by decide +kernel
theorem dX10_draw_97 : decode cX10_draw 97 = .ok (.dup, 1) := by decide +kernel
theorem dX10_draw_98 : decode cX10_draw 98 = .ok (.getfield 79, 3) := by decide +kernel
theorem dX10_draw_101 : decode cX10_draw 101 = .ok (.iconst 1, 1) := by decide +kernel
theorem dX10_draw_102 : decode cX10_draw 102 = .ok (.iadd, 1) := by decide +kernel
theorem dX10_draw_103 : decode cX10_draw 103 = .ok (.putfield 79, 3) := by decide +kernel
theorem dX10_draw_106 : decode cX10_draw 106 = .ok (.aload_n 0, 1) := by decide +kernel
theorem dX10_draw_107 : decode cX10_draw 107 = .ok (.getfield 12, 3) := by decide +kernel
theorem dX10_draw_110 : decode cX10_draw 110 = .ok (.iload 4, 2) := by decide +kernel
theorem dX10_draw_112 : decode cX10_draw 112 = .ok (.bipush 64, 2) := by decide +kernel
theorem dX10_draw_114 : decode cX10_draw 114 = .ok (.idiv, 1) := by decide +kernel
theorem dX10_draw_115 : decode cX10_draw 115 = .ok (.bipush 40, 2) := by decide +kernel
theorem dX10_draw_117 : decode cX10_draw 117 = .ok (.irem, 1) := by decide +kernel
theorem dX10_draw_118 : decode cX10_draw 118 = .ok (.invokevirtual 48, 3) := by decide +kernel
theorem dX10_draw_121 : decode cX10_draw 121 = .ok (.iinc 5 1, 3) := by decide +kernel
theorem dX10_draw_124 : decode cX10_draw 124 = .ok (.goto (-100), 3) := by decide +kernel
theorem dX10_draw_127 : decode cX10_draw 127 = .ok (.return_, 1) := by decide +kernel
noncomputable def s_X10_draw_24 (a0 : Nat) (x3 : Int32) (M5 : Me) (v6 : Int32) (v7 : Int32) : Option ((Me × Int32 × Int32) ⊕ (Me × Int32 × Int32)) :=
  if x3 ≤ v7 then (
    some (Sum.inr (M5, v6, v7))
  ) else (
    let_v (((((75 : Int32) * v6) + (74 : Int32)) - (((75 : Int32) * v6) + (74 : Int32)) / (65537 : Int32) * (65537 : Int32))) fun v8 =>
    let_v ((v8 - v8 / (6 : Int32) * (6 : Int32))) fun v9 =>
    gr M5 a0 10 0 fun o10 =>
    cI (f_X0_tryStrike o10 v9 ((v8 / (6 : Int32)) - (v8 / (6 : Int32)) / (6 : Int32) * (6 : Int32)) (1 : Int32) M5) fun v11 M12 =>
    (
      if v11 = 0 then (
        gi M12 a0 10 3 fun v18 =>
        pi M12 a0 10 3 (v18 + (1 : Int32)) fun M19 =>
        some M19
      ) else (
        gr M12 a0 10 0 fun o13 =>
        cI (f_X0_tryGiveBack o13 v9 M12) fun v14 M15 =>
        if v14 = 0 then (
          gi M15 a0 10 4 fun v16 =>
          pi M15 a0 10 4 (v16 + (1 : Int32)) fun M17 =>
          some M17
        ) else (
          some M15
        )
      )
    ).bind fun M20 =>
    gr M20 a0 10 0 fun o21 =>
    cM (f_X0_passDays o21 ((v8 / (64 : Int32)) - (v8 / (64 : Int32)) / (40 : Int32) * (40 : Int32)) M20) fun M22 =>
    let_v (v7 + (1 : Int32)) fun v23 =>
    some (Sum.inl (M22, v8, v23))
  )
noncomputable def b_X10_draw (a0 : Nat) (a1 : Nat) (x2 : Int32) (x3 : Int32) (M : Me) : Option (Me) :=
  gr M a0 10 0 fun o1 =>
  cM (f_X0_copy o1 a1 M) fun M2 =>
  pi M2 a0 10 3 (0 : Int32) fun M3 =>
  pi M3 a0 10 4 (0 : Int32) fun M4 =>
  (lp (fun s => s_X10_draw_24 a0 x3 s.1 s.2.1 s.2.2) (M4, x2, (0 : Int32))).bind fun e24 =>
  some e24.1
noncomputable def f_X10_draw (a0 : Nat) (a1 : Nat) (x2 : Int32) (x3 : Int32) (M : Me) : Option (Me) := ck M a0 10 (b_X10_draw a0 a1 x2 x3 M)
set_option maxRecDepth 20000 in
theorem vb_X10_draw (d : Nat) (hd : 4 ≤ d) (a0 : Nat) (a1 : Nat) (x2 : Int32) (x3 : Int32) (M : Me) : V (mX10_draw, d, 0, 0) (0, 0) M 0 [some (.ref a0), some (.ref a1), some (.int x2), some (.int x3), none, none, none] [] (b_X10_draw a0 a1 x2 x3 M) (fun M2 => some (none, M2)) := by
  unfold b_X10_draw
  refine v_aload_n (q := 1) dX10_draw_0 rfl rfl rfl ?_
  refine v_getRb (q := 4) dX10_draw_1 rfl fg_X10_12 (fun o1 => ?_)
  refine v_aload_n (q := 5) dX10_draw_4 rfl rfl rfl ?_
  refine v_cMV1 (q := 8) (ct_X0_copy (d - 1) (by omega) _ _ _) dX10_draw_5 rfl cc_X10_18 (by omega) (Nat.le_of_ble_eq_true rfl) ⟨Nat.le_of_ble_eq_true rfl, Nat.le_of_ble_eq_true rfl⟩ (fun M2 => ?_)
  refine v_aload_n (q := 9) dX10_draw_8 rfl rfl rfl ?_
  refine v_iconst (q := 10) dX10_draw_9 rfl ic_0 ?_
  refine v_putIb (q := 13) dX10_draw_10 rfl fp_X10_76 (fun M3 => ?_)
  refine v_aload_n (q := 14) dX10_draw_13 rfl rfl rfl ?_
  refine v_iconst (q := 15) dX10_draw_14 rfl ic_0 ?_
  refine v_putIb (q := 18) dX10_draw_15 rfl fp_X10_79 (fun M4 => ?_)
  refine v_iload_n (q := 19) dX10_draw_18 rfl rfl rfl ?_
  refine v_istore (q := 21) (loc2 := [some (.ref a0), some (.ref a1), some (.int x2), some (.int x3), some (.int x2), none, none]) dX10_draw_19 rfl rfl (Nat.le_of_ble_eq_true rfl) rfl ?_
  refine v_iconst (q := 22) dX10_draw_21 rfl ic_0 ?_
  refine v_istore (q := 24) (loc2 := [some (.ref a0), some (.ref a1), some (.int x2), some (.int x3), some (.int x2), some (.int (0 : Int32)), none]) dX10_draw_22 rfl rfl (Nat.le_of_ble_eq_true rfl) rfl ?_
  refine v_lps (S := Me × Int32 × Int32) 127 (fun s => s.1) (fun s => [some (.ref a0), some (.ref a1), some (.int x2), some (.int x3), some (.int s.2.1), some (.int s.2.2), none]) (fun e24 => e24.1) (fun e24 => [some (.ref a0), some (.ref a1), some (.int x2), some (.int x3), some (.int e24.2.1), some (.int e24.2.2), none]) (fun e24 => ?_) (fun k K hk hx s => ?_)
  · exact v_vret rfl dX10_draw_127 ⟨Nat.le_of_ble_eq_true rfl, Nat.le_of_ble_eq_true rfl⟩ rfl
  · obtain ⟨M5, v6, v7⟩ := s
    show V _ _ M5 24 [some (.ref a0), some (.ref a1), some (.int x2), some (.int x3), some (.int v6), some (.int v7), none] [] (s_X10_draw_24 a0 x3 M5 v6 v7) _
    unfold s_X10_draw_24
    refine v_iload (q := 26) dX10_draw_24 rfl rfl ?_
    refine v_iload_n (q := 27) dX10_draw_26 rfl rfl rfl ?_
    refine v_icmp_ge (tgt := 127) (q := 30) dX10_draw_27 rfl rfl ?_ ?_
    · exact v_inr (hx (M5, v6, v7))
    · refine v_bipush (q := 32) dX10_draw_30 rfl bp_75 ?_
      refine v_iload (q := 34) dX10_draw_32 rfl rfl ?_
      refine v_imul (q := 35) dX10_draw_34 rfl ?_
      refine v_bipush (q := 37) dX10_draw_35 rfl bp_74 ?_
      refine v_iadd (q := 38) dX10_draw_37 rfl ?_
      refine v_ldc (q := 40) (v := (65537 : Int32)) kc_X10_82 dX10_draw_38 rfl ?_
      refine v_iremc (q := 41) dX10_draw_40 rfl ne_65537 ?_
      refine v_letI (fun v8 => ?_)
      refine v_istore (q := 43) (loc2 := [some (.ref a0), some (.ref a1), some (.int x2), some (.int x3), some (.int v8), some (.int v7), none]) dX10_draw_41 rfl rfl (Nat.le_of_ble_eq_true rfl) rfl ?_
      refine v_iload (q := 45) dX10_draw_43 rfl rfl ?_
      refine v_bipush (q := 47) dX10_draw_45 rfl bp_6 ?_
      refine v_iremc (q := 48) dX10_draw_47 rfl ne_6 ?_
      refine v_letI (fun v9 => ?_)
      refine v_istore (q := 50) (loc2 := [some (.ref a0), some (.ref a1), some (.int x2), some (.int x3), some (.int v8), some (.int v7), some (.int v9)]) dX10_draw_48 rfl rfl (Nat.le_of_ble_eq_true rfl) rfl ?_
      refine v_aload_n (q := 51) dX10_draw_50 rfl rfl rfl ?_
      refine v_getRb (q := 54) dX10_draw_51 rfl fg_X10_12 (fun o10 => ?_)
      refine v_iload (q := 56) dX10_draw_54 rfl rfl ?_
      refine v_iload (q := 58) dX10_draw_56 rfl rfl ?_
      refine v_bipush (q := 60) dX10_draw_58 rfl bp_6 ?_
      refine v_idivc (q := 61) dX10_draw_60 rfl ne_6 ?_
      refine v_bipush (q := 63) dX10_draw_61 rfl bp_6 ?_
      refine v_iremc (q := 64) dX10_draw_63 rfl ne_6 ?_
      refine v_iconst (q := 65) dX10_draw_64 rfl ic_1 ?_
      refine v_cIV3 (q := 68) (ct_X0_tryStrike (d - 1) (by omega) _ _ _ _ _) dX10_draw_65 rfl cc_X10_59 (by omega) (Nat.le_of_ble_eq_true rfl) ⟨Nat.le_of_ble_eq_true rfl, Nat.le_of_ble_eq_true rfl⟩ (fun v11 M12 => ?_)
      refine v_join (γ := Me) 106 (fun M20 => M20) (fun M20 => [some (.ref a0), some (.ref a1), some (.int x2), some (.int x3), some (.int v8), some (.int v7), some (.int v9)]) (fun M20 => []) (fun K hK => ?_) (fun M20 => ?_)
      · refine v_if_ne (tgt := 84) (q := 71) dX10_draw_68 rfl rfl ?_ ?_
        · refine v_aload_n (q := 85) dX10_draw_84 rfl rfl rfl ?_
          refine v_getRb (q := 88) dX10_draw_85 rfl fg_X10_12 (fun o13 => ?_)
          refine v_iload (q := 90) dX10_draw_88 rfl rfl ?_
          refine v_cIV1 (q := 93) (ct_X0_tryGiveBack (d - 1) (by omega) _ _ _) dX10_draw_90 rfl cc_X10_63 (by omega) (Nat.le_of_ble_eq_true rfl) ⟨Nat.le_of_ble_eq_true rfl, Nat.le_of_ble_eq_true rfl⟩ (fun v14 M15 => ?_)
          refine v_if_ne (tgt := 106) (q := 96) dX10_draw_93 rfl rfl ?_ ?_
          · exact hK M15
          · refine v_aload_n (q := 97) dX10_draw_96 rfl rfl rfl ?_
            refine v_dup (q := 98) dX10_draw_97 rfl rfl ?_
            refine v_getIb (q := 101) dX10_draw_98 rfl fg_X10_79 (fun v16 => ?_)
            refine v_iconst (q := 102) dX10_draw_101 rfl ic_1 ?_
            refine v_iadd (q := 103) dX10_draw_102 rfl ?_
            refine v_putIb (q := 106) dX10_draw_103 rfl fp_X10_79 (fun M17 => ?_)
            exact hK M17
        · refine v_aload_n (q := 72) dX10_draw_71 rfl rfl rfl ?_
          refine v_dup (q := 73) dX10_draw_72 rfl rfl ?_
          refine v_getIb (q := 76) dX10_draw_73 rfl fg_X10_76 (fun v18 => ?_)
          refine v_iconst (q := 77) dX10_draw_76 rfl ic_1 ?_
          refine v_iadd (q := 78) dX10_draw_77 rfl ?_
          refine v_putIb (q := 81) dX10_draw_78 rfl fp_X10_76 (fun M19 => ?_)
          refine v_goto (tgt := 106) dX10_draw_81 rfl ?_
          exact hK M19
      · refine v_aload_n (q := 107) dX10_draw_106 rfl rfl rfl ?_
        refine v_getRb (q := 110) dX10_draw_107 rfl fg_X10_12 (fun o21 => ?_)
        refine v_iload (q := 112) dX10_draw_110 rfl rfl ?_
        refine v_bipush (q := 114) dX10_draw_112 rfl bp_64 ?_
        refine v_idivc (q := 115) dX10_draw_114 rfl ne_64 ?_
        refine v_bipush (q := 117) dX10_draw_115 rfl bp_40 ?_
        refine v_iremc (q := 118) dX10_draw_117 rfl ne_40 ?_
        refine v_cMV1 (q := 121) (ct_X0_passDays (d - 1) (by omega) _ _ _) dX10_draw_118 rfl cc_X10_48 (by omega) (Nat.le_of_ble_eq_true rfl) ⟨Nat.le_of_ble_eq_true rfl, Nat.le_of_ble_eq_true rfl⟩ (fun M22 => ?_)
        refine v_iincL (q := 124) (x := v7) (cst := (1 : Int32)) (f := fun v23 => [some (.ref a0), some (.ref a1), some (.int x2), some (.int x3), some (.int v8), some (.int v23), some (.int v9)]) dX10_draw_121 rfl rfl ic_1 rfl (Nat.le_of_ble_eq_true rfl) (fun _ => rfl) (fun v23 => ?_)
        refine v_goto (tgt := 24) dX10_draw_124 rfl ?_
        exact v_inl (v_weak (hk (M22, v8, v23)) ⟨rfl, ⟨rfl, ⟨rfl, ⟨rfl, ⟨rfl, ⟨rfl, trivial⟩⟩⟩⟩⟩⟩)
theorem ct_X10_draw (d : Nat) (hd : 4 ≤ d) (a0 : Nat) (a1 : Nat) (x2 : Int32) (x3 : Int32) (M : Me) (r : Me) (hf : f_X10_draw a0 a1 x2 x3 M = some r) : me_k M a0 = some (10, nf_c 10) ∧ Ct yX10_draw mX10_draw d 0 0 [.ref a0, .ref a1, .int x2, .int x3] M (none, r) := by
  obtain ⟨hk, hb⟩ := ck_some hf
  exact ⟨hk, ct_of (by decide +kernel) rfl rfl (Nat.le_of_ble_eq_true rfl) (vb_X10_draw d hd a0 a1 x2 x3 M) (by rw [hb]; rfl)⟩
theorem dX11_init_0 : decode cX11_init 0 = .ok (.aload_n 0, 1) := by decide +kernel
theorem dX11_init_1 : decode cX11_init 1 = .ok (.invokespecial 1, 3) := by decide +kernel
theorem dX11_init_4 : decode cX11_init 4 = .ok (.aload_n 0, 1) := by decide +kernel
theorem dX11_init_5 : decode cX11_init 5 = .ok (.new 7, 3) := by decide +kernel
theorem dX11_init_8 : decode cX11_init 8 = .ok (.dup, 1) := by decide +kernel
theorem dX11_init_9 : decode cX11_init 9 = .ok (.invokespecial 9, 3) := by decide +kernel
theorem dX11_init_12 : decode cX11_init 12 = .ok (.putfield 10, 3) := by decide +kernel
theorem dX11_init_15 : decode cX11_init 15 = .ok (.aload_n 0, 1) := by decide +kernel
theorem dX11_init_16 : decode cX11_init 16 = .ok (.new 16, 3) := by decide +kernel
theorem dX11_init_19 : decode cX11_init 19 = .ok (.dup, 1) := by decide +kernel
theorem dX11_init_20 : decode cX11_init 20 = .ok (.invokespecial 18, 3) := by decide +kernel
theorem dX11_init_23 : decode cX11_init 23 = .ok (.putfield 19, 3) := by decide +kernel
theorem dX11_init_26 : decode cX11_init 26 = .ok (.aload_n 0, 1) := by decide +kernel
theorem dX11_init_27 : decode cX11_init 27 = .ok (.iconst 2, 1) := by decide +kernel
theorem dX11_init_28 : decode cX11_init 28 = .ok (.anewarray 16, 3) := by decide +kernel
theorem dX11_init_31 : decode cX11_init 31 = .ok (.putfield 23, 3) := by decide +kernel
theorem dX11_init_34 : decode cX11_init 34 = .ok (.aload_n 0, 1) := by decide +kernel
theorem dX11_init_35 : decode cX11_init 35 = .ok (.new 27, 3) := by decide +kernel
theorem dX11_init_38 : decode cX11_init 38 = .ok (.dup, 1) := by decide +kernel
theorem dX11_init_39 : decode cX11_init 39 = .ok (.invokespecial 29, 3) := by decide +kernel
theorem dX11_init_42 : decode cX11_init 42 = .ok (.putfield 30, 3) := by decide +kernel
theorem dX11_init_45 : decode cX11_init 45 = .ok (.aload_n 0, 1) := by decide +kernel
theorem dX11_init_46 : decode cX11_init 46 = .ok (.new 34, 3) := by decide +kernel
theorem dX11_init_49 : decode cX11_init 49 = .ok (.dup, 1) := by decide +kernel
theorem dX11_init_50 : decode cX11_init 50 = .ok (.invokespecial 36, 3) := by decide +kernel
theorem dX11_init_53 : decode cX11_init 53 = .ok (.putfield 37, 3) := by decide +kernel
theorem dX11_init_56 : decode cX11_init 56 = .ok (.aload_n 0, 1) := by decide +kernel
theorem dX11_init_57 : decode cX11_init 57 = .ok (.new 41, 3) := by decide +kernel
theorem dX11_init_60 : decode cX11_init 60 = .ok (.dup, 1) := by decide +kernel
theorem dX11_init_61 : decode cX11_init 61 = .ok (.invokespecial 43, 3) := by decide +kernel
theorem dX11_init_64 : decode cX11_init 64 = .ok (.putfield 44, 3) := by decide +kernel
theorem dX11_init_67 : decode cX11_init 67 = .ok (.aload_n 0, 1) := by decide +kernel
theorem dX11_init_68 : decode cX11_init 68 = .ok (.new 48, 3) := by decide +kernel
theorem dX11_init_71 : decode cX11_init 71 = .ok (.dup, 1) := by decide +kernel
theorem dX11_init_72 : decode cX11_init 72 = .ok (.invokespecial 50, 3) := by decide +kernel
theorem dX11_init_75 : decode cX11_init 75 = .ok (.putfield 51, 3) := by decide +kernel
theorem dX11_init_78 : decode cX11_init 78 = .ok (.return_, 1) := by decide +kernel
noncomputable def b_X11_init (a0 : Nat) (M : Me) : Option (Me) :=
  no M 7 fun o1 M2 =>
  cM (f_X7_init o1 M2) fun M3 =>
  pr M3 a0 11 0 o1 fun M4 =>
  no M4 0 fun o5 M6 =>
  cM (f_X0_init o5 M6) fun M7 =>
  pr M7 a0 11 1 o5 fun M8 =>
  na M8 24 2 fun o9 M10 =>
  pr M10 a0 11 2 o9 fun M11 =>
  no M11 10 fun o12 M13 =>
  cM (f_X10_init o12 M13) fun M14 =>
  pr M14 a0 11 3 o12 fun M15 =>
  no M15 3 fun o16 M17 =>
  cM (f_X3_init o16 M17) fun M18 =>
  pr M18 a0 11 4 o16 fun M19 =>
  no M19 6 fun o20 M21 =>
  cM (f_X6_init o20 M21) fun M22 =>
  pr M22 a0 11 5 o20 fun M23 =>
  no M23 8 fun o24 M25 =>
  cM (f_X8_init o24 M25) fun M26 =>
  pr M26 a0 11 6 o24 fun M27 =>
  some M27
noncomputable def f_X11_init (a0 : Nat) (M : Me) : Option (Me) := b_X11_init a0 M
set_option maxRecDepth 20000 in
theorem vb_X11_init (d : Nat) (hd : 5 ≤ d) (a0 : Nat) (M : Me) : V (mX11_init, d, 69, 590) (0, 0) M 0 [some (.ref a0)] [] (b_X11_init a0 M) (fun M2 => some (none, M2)) := by
  unfold b_X11_init
  refine v_aload_n (q := 1) dX11_init_0 rfl rfl rfl ?_
  refine v_oinit (q := 4) dX11_init_1 rfl cc_X11_1 aw_obj.1 aw_obj.2 (by show 1 ≤ d; omega) rfl ?_
  refine v_aload_n (q := 5) dX11_init_4 rfl rfl rfl ?_
  refine v_newU (q := 8) (u2 := (1, 2)) dX11_init_5 rfl cn_X11_7 ⟨Nat.le_of_ble_eq_true rfl, Nat.le_of_ble_eq_true rfl⟩ rfl (fun o1 M2 => ?_)
  refine v_dup (q := 9) dX11_init_8 rfl rfl ?_
  refine v_cMN0a (q := 12) (u2 := (2, 62)) (ct_X7_init (d - 1) (by omega) _ _) dX11_init_9 rfl cc_X11_9 (by omega) (Nat.le_of_ble_eq_true rfl) ⟨Nat.le_of_ble_eq_true rfl, Nat.le_of_ble_eq_true rfl⟩ rfl (fun M3 => ?_)
  refine v_putRb (q := 15) dX11_init_12 rfl fp_X11_10 (fun M4 => ?_)
  refine v_aload_n (q := 16) dX11_init_15 rfl rfl rfl ?_
  refine v_newU (q := 19) (u2 := (3, 68)) dX11_init_16 rfl cn_X11_16 ⟨Nat.le_of_ble_eq_true rfl, Nat.le_of_ble_eq_true rfl⟩ rfl (fun o5 M6 => ?_)
  refine v_dup (q := 20) dX11_init_19 rfl rfl ?_
  refine v_cMN0a (q := 23) (u2 := (30, 240)) (ct_X0_init (d - 1) (by omega) _ _) dX11_init_20 rfl cc_X11_18 (by omega) (Nat.le_of_ble_eq_true rfl) ⟨Nat.le_of_ble_eq_true rfl, Nat.le_of_ble_eq_true rfl⟩ rfl (fun M7 => ?_)
  refine v_putRb (q := 26) dX11_init_23 rfl fp_X11_19 (fun M8 => ?_)
  refine v_aload_n (q := 27) dX11_init_26 rfl rfl rfl ?_
  refine v_iconst (q := 28) dX11_init_27 rfl ic_2 ?_
  refine v_newRU (q := 31) (t0 := 4) (u2 := (31, 242)) dX11_init_28 rfl (Nat.le_of_ble_eq_true rfl) (fun _ => rfl) cn_X11_16.2.1 ao_0 (by decide) (by decide) (Nat.le_of_ble_eq_true rfl) ⟨Nat.le_of_ble_eq_true rfl, Nat.le_of_ble_eq_true rfl⟩ rfl (fun o9 M10 => ?_)
  refine v_putRb (q := 34) dX11_init_31 rfl fp_X11_23 (fun M11 => ?_)
  refine v_aload_n (q := 35) dX11_init_34 rfl rfl rfl ?_
  refine v_newU (q := 38) (u2 := (32, 247)) dX11_init_35 rfl cn_X11_27 ⟨Nat.le_of_ble_eq_true rfl, Nat.le_of_ble_eq_true rfl⟩ rfl (fun o12 M13 => ?_)
  refine v_dup (q := 39) dX11_init_38 rfl rfl ?_
  refine v_cMN0a (q := 42) (u2 := (60, 425)) (ct_X10_init (d - 1) (by omega) _ _) dX11_init_39 rfl cc_X11_29 (by omega) (Nat.le_of_ble_eq_true rfl) ⟨Nat.le_of_ble_eq_true rfl, Nat.le_of_ble_eq_true rfl⟩ rfl (fun M14 => ?_)
  refine v_putRb (q := 45) dX11_init_42 rfl fp_X11_30 (fun M15 => ?_)
  refine v_aload_n (q := 46) dX11_init_45 rfl rfl rfl ?_
  refine v_newU (q := 49) (u2 := (61, 428)) dX11_init_46 rfl cn_X11_34 ⟨Nat.le_of_ble_eq_true rfl, Nat.le_of_ble_eq_true rfl⟩ rfl (fun o16 M17 => ?_)
  refine v_dup (q := 50) dX11_init_49 rfl rfl ?_
  refine v_cMN0a (q := 53) (u2 := (64, 450)) (ct_X3_init (d - 1) (by omega) _ _) dX11_init_50 rfl cc_X11_36 (by omega) (Nat.le_of_ble_eq_true rfl) ⟨Nat.le_of_ble_eq_true rfl, Nat.le_of_ble_eq_true rfl⟩ rfl (fun M18 => ?_)
  refine v_putRb (q := 56) dX11_init_53 rfl fp_X11_37 (fun M19 => ?_)
  refine v_aload_n (q := 57) dX11_init_56 rfl rfl rfl ?_
  refine v_newU (q := 60) (u2 := (65, 452)) dX11_init_57 rfl cn_X11_41 ⟨Nat.le_of_ble_eq_true rfl, Nat.le_of_ble_eq_true rfl⟩ rfl (fun o20 M21 => ?_)
  refine v_dup (q := 61) dX11_init_60 rfl rfl ?_
  refine v_cMN0a (q := 64) (u2 := (67, 522)) (ct_X6_init (d - 1) (by omega) _ _) dX11_init_61 rfl cc_X11_43 (by omega) (Nat.le_of_ble_eq_true rfl) ⟨Nat.le_of_ble_eq_true rfl, Nat.le_of_ble_eq_true rfl⟩ rfl (fun M22 => ?_)
  refine v_putRb (q := 67) dX11_init_64 rfl fp_X11_44 (fun M23 => ?_)
  refine v_aload_n (q := 68) dX11_init_67 rfl rfl rfl ?_
  refine v_newU (q := 71) (u2 := (68, 526)) dX11_init_68 rfl cn_X11_48 ⟨Nat.le_of_ble_eq_true rfl, Nat.le_of_ble_eq_true rfl⟩ rfl (fun o24 M25 => ?_)
  refine v_dup (q := 72) dX11_init_71 rfl rfl ?_
  refine v_cMN0a (q := 75) (u2 := (69, 590)) (ct_X8_init (d - 1) (by omega) _ _) dX11_init_72 rfl cc_X11_50 (by omega) (Nat.le_of_ble_eq_true rfl) ⟨Nat.le_of_ble_eq_true rfl, Nat.le_of_ble_eq_true rfl⟩ rfl (fun M26 => ?_)
  refine v_putRb (q := 78) dX11_init_75 rfl fp_X11_51 (fun M27 => ?_)
  exact v_vret rfl dX11_init_78 ⟨Nat.le_of_ble_eq_true rfl, Nat.le_of_ble_eq_true rfl⟩ rfl
theorem ct_X11_init (d : Nat) (hd : 5 ≤ d) (a0 : Nat) (M : Me) (r : Me) (hf : f_X11_init a0 M = some r) : Ct yX11_init mX11_init d 69 590 [.ref a0] M (none, r) := by
  have hb : b_X11_init a0 M = some r := hf
  exact ct_of (by decide +kernel) rfl rfl (Nat.le_of_ble_eq_true rfl) (vb_X11_init d hd a0 M) (by rw [hb]; rfl)
theorem dX11_chapels_0 : decode cX11_chapels 0 = .ok (.iload_n 1, 1) := by decide +kernel
theorem dX11_chapels_1 : decode cX11_chapels 1 = .ok (.iconst 2, 1) := by decide +kernel
theorem dX11_chapels_2 : decode cX11_chapels 2 = .ok (.iconst 5, 1) := by decide +kernel
theorem dX11_chapels_3 : decode cX11_chapels 3 = .ok (.invokestatic 55, 3) := by decide +kernel
theorem dX11_chapels_6 : decode cX11_chapels 6 = .ok (.ifCond .ne 6, 3) := by decide +kernel
theorem dX11_chapels_9 : decode cX11_chapels 9 = .ok (.bipush (-2), 2) := by decide +kernel
theorem dX11_chapels_11 : decode cX11_chapels 11 = .ok (.ireturn, 1) := by decide +kernel
theorem dX11_chapels_12 : decode cX11_chapels 12 = .ok (.aload_n 0, 1) := by decide +kernel
theorem dX11_chapels_13 : decode cX11_chapels 13 = .ok (.getfield 19, 3) := by decide +kernel
theorem dX11_chapels_16 : decode cX11_chapels 16 = .ok (.getfield 59, 3) := by decide +kernel
theorem dX11_chapels_19 : decode cX11_chapels 19 = .ok (.getfield 63, 3) := by decide +kernel
theorem dX11_chapels_22 : decode cX11_chapels 22 = .ok (.istore_n 2, 1) := by decide +kernel
theorem dX11_chapels_23 : decode cX11_chapels 23 = .ok (.aload_n 0, 1) := by decide +kernel
theorem dX11_chapels_24 : decode cX11_chapels 24 = .ok (.getfield 19, 3) := by decide +kernel
theorem dX11_chapels_27 : decode cX11_chapels 27 = .ok (.iload_n 1, 1) := by decide +kernel
theorem dX11_chapels_28 : decode cX11_chapels 28 = .ok (.invokevirtual 69, 3) := by decide +kernel
theorem dX11_chapels_31 : decode cX11_chapels 31 = .ok (.iload_n 2, 1) := by decide +kernel
theorem dX11_chapels_32 : decode cX11_chapels 32 = .ok (.ireturn, 1) := by decide +kernel
noncomputable def b_X11_chapels (a0 : Nat) (x1 : Int32) (M : Me) : Option (Int32 × Me) :=
  cP (f_X11_isWithin x1 (2 : Int32) (5 : Int32) M) fun v1 =>
  if v1 = 0 then (
    some ((-2 : Int32), M)
  ) else (
    gr M a0 11 1 fun o2 =>
    gr M o2 0 0 fun o3 =>
    gi M o3 5 0 fun v4 =>
    gr M a0 11 1 fun o5 =>
    cM (f_X0_beginAnew o5 x1 M) fun M6 =>
    some (v4, M6)
  )
noncomputable def f_X11_chapels (a0 : Nat) (x1 : Int32) (M : Me) : Option (Int32 × Me) := ck M a0 11 (b_X11_chapels a0 x1 M)
set_option maxRecDepth 20000 in
theorem vb_X11_chapels (d : Nat) (hd : 2 ≤ d) (a0 : Nat) (x1 : Int32) (M : Me) : V (mX11_chapels, d, 0, 0) (0, 0) M 0 [some (.ref a0), some (.int x1), none] [] (b_X11_chapels a0 x1 M) (fun z => some (some (.int z.1), z.2)) := by
  unfold b_X11_chapels
  refine v_iload_n (q := 1) dX11_chapels_0 rfl rfl rfl ?_
  refine v_iconst (q := 2) dX11_chapels_1 rfl ic_2 ?_
  refine v_iconst (q := 3) dX11_chapels_2 rfl ic_5 ?_
  refine v_cPS3 (q := 6) (ct_X11_isWithin (d - 1) (by omega) _ _ _ _) dX11_chapels_3 rfl cc_X11_55 (by omega) (Nat.le_of_ble_eq_true rfl) ⟨Nat.le_of_ble_eq_true rfl, Nat.le_of_ble_eq_true rfl⟩ (fun v1 => ?_)
  refine v_if_ne (tgt := 12) (q := 9) dX11_chapels_6 rfl rfl ?_ ?_
  · refine v_aload_n (q := 13) dX11_chapels_12 rfl rfl rfl ?_
    refine v_getRb (q := 16) dX11_chapels_13 rfl fg_X11_19 (fun o2 => ?_)
    refine v_getRb (q := 19) dX11_chapels_16 rfl fg_X11_59 (fun o3 => ?_)
    refine v_getIb (q := 22) dX11_chapels_19 rfl fg_X11_63 (fun v4 => ?_)
    refine v_istore_n (q := 23) (loc2 := [some (.ref a0), some (.int x1), some (.int v4)]) dX11_chapels_22 rfl rfl rfl (Nat.le_of_ble_eq_true rfl) rfl ?_
    refine v_aload_n (q := 24) dX11_chapels_23 rfl rfl rfl ?_
    refine v_getRb (q := 27) dX11_chapels_24 rfl fg_X11_19 (fun o5 => ?_)
    refine v_iload_n (q := 28) dX11_chapels_27 rfl rfl rfl ?_
    refine v_cMV1 (q := 31) (ct_X0_beginAnew (d - 1) (by omega) _ _ _) dX11_chapels_28 rfl cc_X11_69 (by omega) (Nat.le_of_ble_eq_true rfl) ⟨Nat.le_of_ble_eq_true rfl, Nat.le_of_ble_eq_true rfl⟩ (fun M6 => ?_)
    refine v_iload_n (q := 32) dX11_chapels_31 rfl rfl rfl ?_
    exact v_iret rfl dX11_chapels_32 ⟨Nat.le_of_ble_eq_true rfl, Nat.le_of_ble_eq_true rfl⟩ rfl
  · refine v_bipush (q := 11) dX11_chapels_9 rfl bp_m2 ?_
    exact v_iret rfl dX11_chapels_11 ⟨Nat.le_of_ble_eq_true rfl, Nat.le_of_ble_eq_true rfl⟩ rfl
theorem ct_X11_chapels (d : Nat) (hd : 2 ≤ d) (a0 : Nat) (x1 : Int32) (M : Me) (r : Int32) (M2 : Me) (hf : f_X11_chapels a0 x1 M = some (r, M2)) : me_k M a0 = some (11, nf_c 11) ∧ Ct yX11_chapels mX11_chapels d 0 0 [.ref a0, .int x1] M (some (.int r), M2) := by
  obtain ⟨hk, hb⟩ := ck_some hf
  exact ⟨hk, ct_of (by decide +kernel) rfl rfl (Nat.le_of_ble_eq_true rfl) (vb_X11_chapels d hd a0 x1 M) (by rw [hb]; rfl)⟩
theorem dX11_road_0 : decode cX11_road 0 = .ok (.aload_n 0, 1) := by decide +kernel
theorem dX11_road_1 : decode cX11_road 1 = .ok (.getfield 19, 3) := by decide +kernel
theorem dX11_road_4 : decode cX11_road 4 = .ok (.getfield 59, 3) := by decide +kernel
theorem dX11_road_7 : decode cX11_road 7 = .ok (.iload_n 1, 1) := by decide +kernel
theorem dX11_road_8 : decode cX11_road 8 = .ok (.invokevirtual 73, 3) := by decide +kernel
theorem dX11_road_11 : decode cX11_road 11 = .ok (.ifCond .eq 22, 3) := by decide +kernel
theorem dX11_road_14 : decode cX11_road 14 = .ok (.aload_n 0, 1) := by decide +kernel
theorem dX11_road_15 : decode cX11_road 15 = .ok (.getfield 19, 3) := by decide +kernel
theorem dX11_road_18 : decode cX11_road 18 = .ok (.getfield 59, 3) := by decide +kernel
theorem dX11_road_21 : decode cX11_road 21 = .ok (.iload_n 2, 1) := by decide +kernel
theorem dX11_road_22 : decode cX11_road 22 = .ok (.invokevirtual 73, 3) := by decide +kernel
theorem dX11_road_25 : decode cX11_road 25 = .ok (.ifCond .eq 8, 3) := by decide +kernel
theorem dX11_road_28 : decode cX11_road 28 = .ok (.iload_n 1, 1) := by decide +kernel
theorem dX11_road_29 : decode cX11_road 29 = .ok (.iload_n 2, 1) := by decide +kernel
theorem dX11_road_30 : decode cX11_road 30 = .ok (.if_icmp .ne 5, 3) := by decide +kernel
theorem dX11_road_33 : decode cX11_road 33 = .ok (.iconst (-1), 1) := by decide +kernel
theorem dX11_road_34 : decode cX11_road 34 = .ok (.ireturn, 1) := by decide +kernel
theorem dX11_road_35 : decode cX11_road 35 = .ok (.iload_n 3, 1) := by decide +kernel
theorem dX11_road_36 : decode cX11_road 36 = .ok (.iconst 0, 1) := by decide +kernel
theorem dX11_road_37 : decode cX11_road 37 = .ok (.bipush 99, 2) := by decide +kernel
theorem dX11_road_39 : decode cX11_road 39 = .ok (.invokestatic 55, 3) := by decide +kernel
theorem dX11_road_42 : decode cX11_road 42 = .ok (.ifCond .ne 6, 3) := by decide +kernel
theorem dX11_road_45 : decode cX11_road 45 = .ok (.bipush (-2), 2) := by decide +kernel
theorem dX11_road_47 : decode cX11_road 47 = .ok (.ireturn, 1) := by decide +kernel
theorem dX11_road_48 : decode cX11_road 48 = .ok (.aload_n 0, 1) := by decide +kernel
theorem dX11_road_49 : decode cX11_road 49 = .ok (.getfield 19, 3) := by decide +kernel
theorem dX11_road_52 : decode cX11_road 52 = .ok (.getfield 59, 3) := by decide +kernel
theorem dX11_road_55 : decode cX11_road 55 = .ok (.iload_n 1, 1) := by decide +kernel
theorem dX11_road_56 : decode cX11_road 56 = .ok (.iload_n 2, 1) := by decide +kernel
theorem dX11_road_57 : decode cX11_road 57 = .ok (.invokevirtual 77, 3) := by decide +kernel
theorem dX11_road_60 : decode cX11_road 60 = .ok (.istore 4, 2) := by decide +kernel
theorem dX11_road_62 : decode cX11_road 62 = .ok (.aload_n 0, 1) := by decide +kernel
theorem dX11_road_63 : decode cX11_road 63 = .ok (.getfield 19, 3) := by decide +kernel
theorem dX11_road_66 : decode cX11_road 66 = .ok (.getfield 59, 3) := by decide +kernel
theorem dX11_road_69 : decode cX11_road 69 = .ok (.iload_n 1, 1) := by decide +kernel
theorem dX11_road_70 : decode cX11_road 70 = .ok (.iload_n 2, 1) := by decide +kernel
theorem dX11_road_71 : decode cX11_road 71 = .ok (.iload_n 3, 1) := by decide +kernel
theorem dX11_road_72 : decode cX11_road 72 = .ok (.invokevirtual 81, 3) := by decide +kernel
theorem dX11_road_75 : decode cX11_road 75 = .ok (.iload 4, 2) := by decide +kernel
theorem dX11_road_77 : decode cX11_road 77 = .ok (.ireturn, 1) := by decide +kernel
noncomputable def b_X11_road (a0 : Nat) (x1 : Int32) (x2 : Int32) (x3 : Int32) (M : Me) : Option (Int32 × Me) :=
  gr M a0 11 1 fun o1 =>
  gr M o1 0 0 fun o2 =>
  cP (f_X5_hasChapel o2 x1 M) fun v3 =>
  if v3 = 0 then (
    some ((-1 : Int32), M)
  ) else (
    gr M a0 11 1 fun o4 =>
    gr M o4 0 0 fun o5 =>
    cP (f_X5_hasChapel o5 x2 M) fun v6 =>
    if v6 = 0 then (
      some ((-1 : Int32), M)
    ) else (
      if x1 = x2 then (
        some ((-1 : Int32), M)
      ) else (
        cP (f_X11_isWithin x3 (0 : Int32) (99 : Int32) M) fun v7 =>
        if v7 = 0 then (
          some ((-2 : Int32), M)
        ) else (
          gr M a0 11 1 fun o8 =>
          gr M o8 0 0 fun o9 =>
          cP (f_X5_roadDays o9 x1 x2 M) fun v10 =>
          gr M a0 11 1 fun o11 =>
          gr M o11 0 0 fun o12 =>
          cM (f_X5_layRoad o12 x1 x2 x3 M) fun M13 =>
          some (v10, M13)
        )
      )
    )
  )
noncomputable def f_X11_road (a0 : Nat) (x1 : Int32) (x2 : Int32) (x3 : Int32) (M : Me) : Option (Int32 × Me) := ck M a0 11 (b_X11_road a0 x1 x2 x3 M)
set_option maxRecDepth 20000 in
theorem vb_X11_road (d : Nat) (hd : 2 ≤ d) (a0 : Nat) (x1 : Int32) (x2 : Int32) (x3 : Int32) (M : Me) : V (mX11_road, d, 0, 0) (0, 0) M 0 [some (.ref a0), some (.int x1), some (.int x2), some (.int x3), none] [] (b_X11_road a0 x1 x2 x3 M) (fun z => some (some (.int z.1), z.2)) := by
  unfold b_X11_road
  refine v_aload_n (q := 1) dX11_road_0 rfl rfl rfl ?_
  refine v_getRb (q := 4) dX11_road_1 rfl fg_X11_19 (fun o1 => ?_)
  refine v_getRb (q := 7) dX11_road_4 rfl fg_X11_59 (fun o2 => ?_)
  refine v_iload_n (q := 8) dX11_road_7 rfl rfl rfl ?_
  refine v_cPV1 (q := 11) (ct_X5_hasChapel (d - 1) (by omega) _ _ _) dX11_road_8 rfl cc_X11_73 (by omega) (Nat.le_of_ble_eq_true rfl) ⟨Nat.le_of_ble_eq_true rfl, Nat.le_of_ble_eq_true rfl⟩ (fun v3 => ?_)
  refine v_if_eq (tgt := 33) (q := 14) dX11_road_11 rfl rfl ?_ ?_
  · refine v_iconst (q := 34) dX11_road_33 rfl ic_m1 ?_
    exact v_iret rfl dX11_road_34 ⟨Nat.le_of_ble_eq_true rfl, Nat.le_of_ble_eq_true rfl⟩ rfl
  · refine v_aload_n (q := 15) dX11_road_14 rfl rfl rfl ?_
    refine v_getRb (q := 18) dX11_road_15 rfl fg_X11_19 (fun o4 => ?_)
    refine v_getRb (q := 21) dX11_road_18 rfl fg_X11_59 (fun o5 => ?_)
    refine v_iload_n (q := 22) dX11_road_21 rfl rfl rfl ?_
    refine v_cPV1 (q := 25) (ct_X5_hasChapel (d - 1) (by omega) _ _ _) dX11_road_22 rfl cc_X11_73 (by omega) (Nat.le_of_ble_eq_true rfl) ⟨Nat.le_of_ble_eq_true rfl, Nat.le_of_ble_eq_true rfl⟩ (fun v6 => ?_)
    refine v_if_eq (tgt := 33) (q := 28) dX11_road_25 rfl rfl ?_ ?_
    · refine v_iconst (q := 34) dX11_road_33 rfl ic_m1 ?_
      exact v_iret rfl dX11_road_34 ⟨Nat.le_of_ble_eq_true rfl, Nat.le_of_ble_eq_true rfl⟩ rfl
    · refine v_iload_n (q := 29) dX11_road_28 rfl rfl rfl ?_
      refine v_iload_n (q := 30) dX11_road_29 rfl rfl rfl ?_
      refine v_icmp_ne (tgt := 35) (q := 33) dX11_road_30 rfl rfl ?_ ?_
      · refine v_iload_n (q := 36) dX11_road_35 rfl rfl rfl ?_
        refine v_iconst (q := 37) dX11_road_36 rfl ic_0 ?_
        refine v_bipush (q := 39) dX11_road_37 rfl bp_99 ?_
        refine v_cPS3 (q := 42) (ct_X11_isWithin (d - 1) (by omega) _ _ _ _) dX11_road_39 rfl cc_X11_55 (by omega) (Nat.le_of_ble_eq_true rfl) ⟨Nat.le_of_ble_eq_true rfl, Nat.le_of_ble_eq_true rfl⟩ (fun v7 => ?_)
        refine v_if_ne (tgt := 48) (q := 45) dX11_road_42 rfl rfl ?_ ?_
        · refine v_aload_n (q := 49) dX11_road_48 rfl rfl rfl ?_
          refine v_getRb (q := 52) dX11_road_49 rfl fg_X11_19 (fun o8 => ?_)
          refine v_getRb (q := 55) dX11_road_52 rfl fg_X11_59 (fun o9 => ?_)
          refine v_iload_n (q := 56) dX11_road_55 rfl rfl rfl ?_
          refine v_iload_n (q := 57) dX11_road_56 rfl rfl rfl ?_
          refine v_cPV2 (q := 60) (ct_X5_roadDays (d - 1) (by omega) _ _ _ _) dX11_road_57 rfl cc_X11_77 (by omega) (Nat.le_of_ble_eq_true rfl) ⟨Nat.le_of_ble_eq_true rfl, Nat.le_of_ble_eq_true rfl⟩ (fun v10 => ?_)
          refine v_istore (q := 62) (loc2 := [some (.ref a0), some (.int x1), some (.int x2), some (.int x3), some (.int v10)]) dX11_road_60 rfl rfl (Nat.le_of_ble_eq_true rfl) rfl ?_
          refine v_aload_n (q := 63) dX11_road_62 rfl rfl rfl ?_
          refine v_getRb (q := 66) dX11_road_63 rfl fg_X11_19 (fun o11 => ?_)
          refine v_getRb (q := 69) dX11_road_66 rfl fg_X11_59 (fun o12 => ?_)
          refine v_iload_n (q := 70) dX11_road_69 rfl rfl rfl ?_
          refine v_iload_n (q := 71) dX11_road_70 rfl rfl rfl ?_
          refine v_iload_n (q := 72) dX11_road_71 rfl rfl rfl ?_
          refine v_cMV3 (q := 75) (ct_X5_layRoad (d - 1) (by omega) _ _ _ _ _) dX11_road_72 rfl cc_X11_81 (by omega) (Nat.le_of_ble_eq_true rfl) ⟨Nat.le_of_ble_eq_true rfl, Nat.le_of_ble_eq_true rfl⟩ (fun M13 => ?_)
          refine v_iload (q := 77) dX11_road_75 rfl rfl ?_
          exact v_iret rfl dX11_road_77 ⟨Nat.le_of_ble_eq_true rfl, Nat.le_of_ble_eq_true rfl⟩ rfl
        · refine v_bipush (q := 47) dX11_road_45 rfl bp_m2 ?_
          exact v_iret rfl dX11_road_47 ⟨Nat.le_of_ble_eq_true rfl, Nat.le_of_ble_eq_true rfl⟩ rfl
      · refine v_iconst (q := 34) dX11_road_33 rfl ic_m1 ?_
        exact v_iret rfl dX11_road_34 ⟨Nat.le_of_ble_eq_true rfl, Nat.le_of_ble_eq_true rfl⟩ rfl
theorem ct_X11_road (d : Nat) (hd : 2 ≤ d) (a0 : Nat) (x1 : Int32) (x2 : Int32) (x3 : Int32) (M : Me) (r : Int32) (M2 : Me) (hf : f_X11_road a0 x1 x2 x3 M = some (r, M2)) : me_k M a0 = some (11, nf_c 11) ∧ Ct yX11_road mX11_road d 0 0 [.ref a0, .int x1, .int x2, .int x3] M (some (.int r), M2) := by
  obtain ⟨hk, hb⟩ := ck_some hf
  exact ⟨hk, ct_of (by decide +kernel) rfl rfl (Nat.le_of_ble_eq_true rfl) (vb_X11_road d hd a0 x1 x2 x3 M) (by rw [hb]; rfl)⟩
theorem dX11_yearOf_0 : decode cX11_yearOf 0 = .ok (.iload_n 1, 1) := by decide +kernel
theorem dX11_yearOf_1 : decode cX11_yearOf 1 = .ok (.bipush 10, 2) := by decide +kernel
theorem dX11_yearOf_3 : decode cX11_yearOf 3 = .ok (.sipush 400, 3) := by decide +kernel
theorem dX11_yearOf_6 : decode cX11_yearOf 6 = .ok (.invokestatic 55, 3) := by decide +kernel
theorem dX11_yearOf_9 : decode cX11_yearOf 9 = .ok (.ifCond .ne 6, 3) := by decide +kernel
theorem dX11_yearOf_12 : decode cX11_yearOf 12 = .ok (.bipush (-2), 2) := by decide +kernel
theorem dX11_yearOf_14 : decode cX11_yearOf 14 = .ok (.ireturn, 1) := by decide +kernel
theorem dX11_yearOf_15 : decode cX11_yearOf 15 = .ok (.aload_n 0, 1) := by decide +kernel
theorem dX11_yearOf_16 : decode cX11_yearOf 16 = .ok (.getfield 19, 3) := by decide +kernel
theorem dX11_yearOf_19 : decode cX11_yearOf 19 = .ok (.getfield 85, 3) := by decide +kernel
theorem dX11_yearOf_22 : decode cX11_yearOf 22 = .ok (.getfield 89, 3) := by decide +kernel
theorem dX11_yearOf_25 : decode cX11_yearOf 25 = .ok (.ifCond .le 6, 3) := by decide +kernel
theorem dX11_yearOf_28 : decode cX11_yearOf 28 = .ok (.bipush (-3), 2) := by decide +kernel
theorem dX11_yearOf_30 : decode cX11_yearOf 30 = .ok (.ireturn, 1) := by decide +kernel
theorem dX11_yearOf_31 : decode cX11_yearOf 31 = .ok (.aload_n 0, 1) := by decide +kernel
theorem dX11_yearOf_32 : decode cX11_yearOf 32 = .ok (.getfield 19, 3) := by decide +kernel
theorem dX11_yearOf_35 : decode cX11_yearOf 35 = .ok (.getfield 59, 3) := by decide +kernel
theorem dX11_yearOf_38 : decode cX11_yearOf 38 = .ok (.getfield 94, 3) := by decide +kernel
theorem dX11_yearOf_41 : decode cX11_yearOf 41 = .ok (.istore_n 2, 1) := by decide +kernel
theorem dX11_yearOf_42 : decode cX11_yearOf 42 = .ok (.aload_n 0, 1) := by decide +kernel
theorem dX11_yearOf_43 : decode cX11_yearOf 43 = .ok (.getfield 19, 3) := by decide +kernel
theorem dX11_yearOf_46 : decode cX11_yearOf 46 = .ok (.getfield 59, 3) := by decide +kernel
theorem dX11_yearOf_49 : decode cX11_yearOf 49 = .ok (.iload_n 1, 1) := by decide +kernel
theorem dX11_yearOf_50 : decode cX11_yearOf 50 = .ok (.putfield 94, 3) := by decide +kernel
theorem dX11_yearOf_53 : decode cX11_yearOf 53 = .ok (.iload_n 2, 1) := by decide +kernel
theorem dX11_yearOf_54 : decode cX11_yearOf 54 = .ok (.ireturn, 1) := by decide +kernel
noncomputable def b_X11_yearOf (a0 : Nat) (x1 : Int32) (M : Me) : Option (Int32 × Me) :=
  cP (f_X11_isWithin x1 (10 : Int32) (400 : Int32) M) fun v1 =>
  if v1 = 0 then (
    some ((-2 : Int32), M)
  ) else (
    gr M a0 11 1 fun o2 =>
    gr M o2 0 2 fun o3 =>
    gi M o3 2 0 fun v4 =>
    if v4 ≤ 0 then (
      gr M a0 11 1 fun o5 =>
      gr M o5 0 0 fun o6 =>
      gi M o6 5 1 fun v7 =>
      gr M a0 11 1 fun o8 =>
      gr M o8 0 0 fun o9 =>
      pi M o9 5 1 x1 fun M10 =>
      some (v7, M10)
    ) else (
      some ((-3 : Int32), M)
    )
  )
noncomputable def f_X11_yearOf (a0 : Nat) (x1 : Int32) (M : Me) : Option (Int32 × Me) := ck M a0 11 (b_X11_yearOf a0 x1 M)
set_option maxRecDepth 20000 in
theorem vb_X11_yearOf (d : Nat) (hd : 1 ≤ d) (a0 : Nat) (x1 : Int32) (M : Me) : V (mX11_yearOf, d, 0, 0) (0, 0) M 0 [some (.ref a0), some (.int x1), none] [] (b_X11_yearOf a0 x1 M) (fun z => some (some (.int z.1), z.2)) := by
  unfold b_X11_yearOf
  refine v_iload_n (q := 1) dX11_yearOf_0 rfl rfl rfl ?_
  refine v_bipush (q := 3) dX11_yearOf_1 rfl bp_10 ?_
  refine v_sipush (q := 6) dX11_yearOf_3 rfl sp_400 ?_
  refine v_cPS3 (q := 9) (ct_X11_isWithin (d - 1) (by omega) _ _ _ _) dX11_yearOf_6 rfl cc_X11_55 (by omega) (Nat.le_of_ble_eq_true rfl) ⟨Nat.le_of_ble_eq_true rfl, Nat.le_of_ble_eq_true rfl⟩ (fun v1 => ?_)
  refine v_if_ne (tgt := 15) (q := 12) dX11_yearOf_9 rfl rfl ?_ ?_
  · refine v_aload_n (q := 16) dX11_yearOf_15 rfl rfl rfl ?_
    refine v_getRb (q := 19) dX11_yearOf_16 rfl fg_X11_19 (fun o2 => ?_)
    refine v_getRb (q := 22) dX11_yearOf_19 rfl fg_X11_85 (fun o3 => ?_)
    refine v_getIb (q := 25) dX11_yearOf_22 rfl fg_X11_89 (fun v4 => ?_)
    refine v_if_le (tgt := 31) (q := 28) dX11_yearOf_25 rfl rfl ?_ ?_
    · refine v_aload_n (q := 32) dX11_yearOf_31 rfl rfl rfl ?_
      refine v_getRb (q := 35) dX11_yearOf_32 rfl fg_X11_19 (fun o5 => ?_)
      refine v_getRb (q := 38) dX11_yearOf_35 rfl fg_X11_59 (fun o6 => ?_)
      refine v_getIb (q := 41) dX11_yearOf_38 rfl fg_X11_94 (fun v7 => ?_)
      refine v_istore_n (q := 42) (loc2 := [some (.ref a0), some (.int x1), some (.int v7)]) dX11_yearOf_41 rfl rfl rfl (Nat.le_of_ble_eq_true rfl) rfl ?_
      refine v_aload_n (q := 43) dX11_yearOf_42 rfl rfl rfl ?_
      refine v_getRb (q := 46) dX11_yearOf_43 rfl fg_X11_19 (fun o8 => ?_)
      refine v_getRb (q := 49) dX11_yearOf_46 rfl fg_X11_59 (fun o9 => ?_)
      refine v_iload_n (q := 50) dX11_yearOf_49 rfl rfl rfl ?_
      refine v_putIb (q := 53) dX11_yearOf_50 rfl fp_X11_94 (fun M10 => ?_)
      refine v_iload_n (q := 54) dX11_yearOf_53 rfl rfl rfl ?_
      exact v_iret rfl dX11_yearOf_54 ⟨Nat.le_of_ble_eq_true rfl, Nat.le_of_ble_eq_true rfl⟩ rfl
    · refine v_bipush (q := 30) dX11_yearOf_28 rfl bp_m3 ?_
      exact v_iret rfl dX11_yearOf_30 ⟨Nat.le_of_ble_eq_true rfl, Nat.le_of_ble_eq_true rfl⟩ rfl
  · refine v_bipush (q := 14) dX11_yearOf_12 rfl bp_m2 ?_
    exact v_iret rfl dX11_yearOf_14 ⟨Nat.le_of_ble_eq_true rfl, Nat.le_of_ble_eq_true rfl⟩ rfl
theorem ct_X11_yearOf (d : Nat) (hd : 1 ≤ d) (a0 : Nat) (x1 : Int32) (M : Me) (r : Int32) (M2 : Me) (hf : f_X11_yearOf a0 x1 M = some (r, M2)) : me_k M a0 = some (11, nf_c 11) ∧ Ct yX11_yearOf mX11_yearOf d 0 0 [.ref a0, .int x1] M (some (.int r), M2) := by
  obtain ⟨hk, hb⟩ := ck_some hf
  exact ⟨hk, ct_of (by decide +kernel) rfl rfl (Nat.le_of_ble_eq_true rfl) (vb_X11_yearOf d hd a0 x1 M) (by rw [hb]; rfl)⟩
theorem dX11_knight_0 : decode cX11_knight 0 = .ok (.iload_n 1, 1) := by decide +kernel
theorem dX11_knight_1 : decode cX11_knight 1 = .ok (.iconst 0, 1) := by decide +kernel
theorem dX11_knight_2 : decode cX11_knight 2 = .ok (.iconst 5, 1) := by decide +kernel
theorem dX11_knight_3 : decode cX11_knight 3 = .ok (.invokestatic 55, 3) := by decide +kernel
theorem dX11_knight_6 : decode cX11_knight 6 = .ok (.ifCond .eq 17, 3) := by decide +kernel
theorem dX11_knight_9 : decode cX11_knight 9 = .ok (.aload_n 0, 1) := by decide +kernel
theorem dX11_knight_10 : decode cX11_knight 10 = .ok (.getfield 19, 3) := by decide +kernel
theorem dX11_knight_13 : decode cX11_knight 13 = .ok (.getfield 59, 3) := by decide +kernel
theorem dX11_knight_16 : decode cX11_knight 16 = .ok (.iload_n 2, 1) := by decide +kernel
theorem dX11_knight_17 : decode cX11_knight 17 = .ok (.invokevirtual 73, 3) := by decide +kernel
theorem dX11_knight_20 : decode cX11_knight 20 = .ok (.ifCond .ne 5, 3) := by decide +kernel
theorem dX11_knight_23 : decode cX11_knight 23 = .ok (.iconst (-1), 1) := by decide +kernel
theorem dX11_knight_24 : decode cX11_knight 24 = .ok (.ireturn, 1) := by decide +kernel
theorem dX11_knight_25 : decode cX11_knight 25 = .ok (.iload_n 3, 1) := by decide +kernel
theorem dX11_knight_26 : decode cX11_knight 26 = .ok (.iconst 1, 1) := by decide +kernel
theorem dX11_knight_27 : decode cX11_knight 27 = .ok (.bipush 20, 2) := by decide +kernel
theorem dX11_knight_29 : decode cX11_knight 29 = .ok (.invokestatic 55, 3) := by decide +kernel
theorem dX11_knight_32 : decode cX11_knight 32 = .ok (.ifCond .eq 25, 3) := by decide +kernel
theorem dX11_knight_35 : decode cX11_knight 35 = .ok (.iload 4, 2) := by decide +kernel
theorem dX11_knight_37 : decode cX11_knight 37 = .ok (.iconst 1, 1) := by decide +kernel
theorem dX11_knight_38 : decode cX11_knight 38 = .ok (.bipush 99, 2) := by decide +kernel
theorem dX11_knight_40 : decode cX11_knight 40 = .ok (.invokestatic 55, 3) := by decide +kernel
theorem dX11_knight_43 : decode cX11_knight 43 = .ok (.ifCond .eq 14, 3) := by decide +kernel
theorem dX11_knight_46 : decode cX11_knight 46 = .ok (.iload 5, 2) := by decide +kernel
theorem dX11_knight_48 : decode cX11_knight 48 = .ok (.iconst 0, 1) := by decide +kernel
theorem dX11_knight_49 : decode cX11_knight 49 = .ok (.bipush 99, 2) := by decide +kernel
theorem dX11_knight_51 : decode cX11_knight 51 = .ok (.invokestatic 55, 3) := by decide +kernel
theorem dX11_knight_54 : decode cX11_knight 54 = .ok (.ifCond .ne 6, 3) := by decide +kernel
theorem dX11_knight_57 : decode cX11_knight 57 = .ok (.bipush (-2), 2) := by decide +kernel
theorem dX11_knight_59 : decode cX11_knight 59 = .ok (.ireturn, 1) := by decide +kernel
theorem dX11_knight_60 : decode cX11_knight 60 = .ok (.aload_n 0, 1) := by decide +kernel
theorem dX11_knight_61 : decode cX11_knight 61 = .ok (.getfield 19, 3) := by decide +kernel
theorem dX11_knight_64 : decode cX11_knight 64 = .ok (.iload_n 1, 1) := by decide +kernel
theorem dX11_knight_65 : decode cX11_knight 65 = .ok (.invokevirtual 97, 3) := by decide +kernel
theorem dX11_knight_68 : decode cX11_knight 68 = .ok (.astore 6, 2) := by decide +kernel
theorem dX11_knight_70 : decode cX11_knight 70 = .ok (.aload 6, 2) := by decide +kernel
theorem dX11_knight_72 : decode cX11_knight 72 = .ok (.getfield 101, 3) := by decide +kernel
theorem dX11_knight_75 : decode cX11_knight 75 = .ok (.ifCond .eq 6, 3) := by decide +kernel
theorem dX11_knight_78 : decode cX11_knight 78 = .ok (.bipush (-3), 2) := by decide +kernel
theorem dX11_knight_80 : decode cX11_knight 80 = .ok (.ireturn, 1) := by decide +kernel
theorem dX11_knight_81 : decode cX11_knight 81 = .ok (.aload 6, 2) := by decide +kernel
theorem dX11_knight_83 : decode cX11_knight 83 = .ok (.iload_n 2, 1) := by decide +kernel
theorem dX11_knight_84 : decode cX11_knight 84 = .ok (.iload_n 3, 1) := by decide +kernel
theorem dX11_knight_85 : decode cX11_knight 85 = .ok (.iload 4, 2) := by decide +kernel
theorem dX11_knight_87 : decode cX11_knight 87 = .ok (.iload 5, 2) := by decide +kernel
theorem dX11_knight_89 : decode cX11_knight 89 = .ok (.invokevirtual 107, 3) := by decide +kernel
theorem dX11_knight_92 : decode cX11_knight 92 = .ok (.aload_n 0, 1) := by decide +kernel
theorem dX11_knight_93 : decode cX11_knight 93 = .ok (.getfield 19, 3) := by decide +kernel
theorem dX11_knight_96 : decode cX11_knight 96 = .ok (.invokevirtual 111, 3) := by decide +kernel
theorem dX11_knight_99 : decode cX11_knight 99 = .ok (.ireturn, 1) := by decide +kernel
noncomputable def b_X11_knight (a0 : Nat) (x1 : Int32) (x2 : Int32) (x3 : Int32) (x4 : Int32) (x5 : Int32) (M : Me) : Option (Int32 × Me) :=
  cP (f_X11_isWithin x1 (0 : Int32) (5 : Int32) M) fun v1 =>
  if v1 = 0 then (
    some ((-1 : Int32), M)
  ) else (
    gr M a0 11 1 fun o2 =>
    gr M o2 0 0 fun o3 =>
    cP (f_X5_hasChapel o3 x2 M) fun v4 =>
    if v4 = 0 then (
      some ((-1 : Int32), M)
    ) else (
      cP (f_X11_isWithin x3 (1 : Int32) (20 : Int32) M) fun v5 =>
      if v5 = 0 then (
        some ((-2 : Int32), M)
      ) else (
        cP (f_X11_isWithin x4 (1 : Int32) (99 : Int32) M) fun v6 =>
        if v6 = 0 then (
          some ((-2 : Int32), M)
        ) else (
          cP (f_X11_isWithin x5 (0 : Int32) (99 : Int32) M) fun v7 =>
          if v7 = 0 then (
            some ((-2 : Int32), M)
          ) else (
            gr M a0 11 1 fun o8 =>
            cR (f_X0_knightAt o8 x1 M) fun o9 =>
            gi M o9 4 0 fun v10 =>
            if v10 = 0 then (
              cM (f_X4_come o9 x2 x3 x4 x5 M) fun M11 =>
              gr M11 a0 11 1 fun o12 =>
              cP (f_X0_countKnights o12 M11) fun v13 =>
              some (v13, M11)
            ) else (
              some ((-3 : Int32), M)
            )
          )
        )
      )
    )
  )
noncomputable def f_X11_knight (a0 : Nat) (x1 : Int32) (x2 : Int32) (x3 : Int32) (x4 : Int32) (x5 : Int32) (M : Me) : Option (Int32 × Me) := ck M a0 11 (b_X11_knight a0 x1 x2 x3 x4 x5 M)
set_option maxRecDepth 20000 in
theorem vb_X11_knight (d : Nat) (hd : 2 ≤ d) (a0 : Nat) (x1 : Int32) (x2 : Int32) (x3 : Int32) (x4 : Int32) (x5 : Int32) (M : Me) : V (mX11_knight, d, 0, 0) (0, 0) M 0 [some (.ref a0), some (.int x1), some (.int x2), some (.int x3), some (.int x4), some (.int x5), none] [] (b_X11_knight a0 x1 x2 x3 x4 x5 M) (fun z => some (some (.int z.1), z.2)) := by
  unfold b_X11_knight
  refine v_iload_n (q := 1) dX11_knight_0 rfl rfl rfl ?_
  refine v_iconst (q := 2) dX11_knight_1 rfl ic_0 ?_
  refine v_iconst (q := 3) dX11_knight_2 rfl ic_5 ?_
  refine v_cPS3 (q := 6) (ct_X11_isWithin (d - 1) (by omega) _ _ _ _) dX11_knight_3 rfl cc_X11_55 (by omega) (Nat.le_of_ble_eq_true rfl) ⟨Nat.le_of_ble_eq_true rfl, Nat.le_of_ble_eq_true rfl⟩ (fun v1 => ?_)
  refine v_if_eq (tgt := 23) (q := 9) dX11_knight_6 rfl rfl ?_ ?_
  · refine v_iconst (q := 24) dX11_knight_23 rfl ic_m1 ?_
    exact v_iret rfl dX11_knight_24 ⟨Nat.le_of_ble_eq_true rfl, Nat.le_of_ble_eq_true rfl⟩ rfl
  · refine v_aload_n (q := 10) dX11_knight_9 rfl rfl rfl ?_
    refine v_getRb (q := 13) dX11_knight_10 rfl fg_X11_19 (fun o2 => ?_)
    refine v_getRb (q := 16) dX11_knight_13 rfl fg_X11_59 (fun o3 => ?_)
    refine v_iload_n (q := 17) dX11_knight_16 rfl rfl rfl ?_
    refine v_cPV1 (q := 20) (ct_X5_hasChapel (d - 1) (by omega) _ _ _) dX11_knight_17 rfl cc_X11_73 (by omega) (Nat.le_of_ble_eq_true rfl) ⟨Nat.le_of_ble_eq_true rfl, Nat.le_of_ble_eq_true rfl⟩ (fun v4 => ?_)
    refine v_if_ne (tgt := 25) (q := 23) dX11_knight_20 rfl rfl ?_ ?_
    · refine v_iload_n (q := 26) dX11_knight_25 rfl rfl rfl ?_
      refine v_iconst (q := 27) dX11_knight_26 rfl ic_1 ?_
      refine v_bipush (q := 29) dX11_knight_27 rfl bp_20 ?_
      refine v_cPS3 (q := 32) (ct_X11_isWithin (d - 1) (by omega) _ _ _ _) dX11_knight_29 rfl cc_X11_55 (by omega) (Nat.le_of_ble_eq_true rfl) ⟨Nat.le_of_ble_eq_true rfl, Nat.le_of_ble_eq_true rfl⟩ (fun v5 => ?_)
      refine v_if_eq (tgt := 57) (q := 35) dX11_knight_32 rfl rfl ?_ ?_
      · refine v_bipush (q := 59) dX11_knight_57 rfl bp_m2 ?_
        exact v_iret rfl dX11_knight_59 ⟨Nat.le_of_ble_eq_true rfl, Nat.le_of_ble_eq_true rfl⟩ rfl
      · refine v_iload (q := 37) dX11_knight_35 rfl rfl ?_
        refine v_iconst (q := 38) dX11_knight_37 rfl ic_1 ?_
        refine v_bipush (q := 40) dX11_knight_38 rfl bp_99 ?_
        refine v_cPS3 (q := 43) (ct_X11_isWithin (d - 1) (by omega) _ _ _ _) dX11_knight_40 rfl cc_X11_55 (by omega) (Nat.le_of_ble_eq_true rfl) ⟨Nat.le_of_ble_eq_true rfl, Nat.le_of_ble_eq_true rfl⟩ (fun v6 => ?_)
        refine v_if_eq (tgt := 57) (q := 46) dX11_knight_43 rfl rfl ?_ ?_
        · refine v_bipush (q := 59) dX11_knight_57 rfl bp_m2 ?_
          exact v_iret rfl dX11_knight_59 ⟨Nat.le_of_ble_eq_true rfl, Nat.le_of_ble_eq_true rfl⟩ rfl
        · refine v_iload (q := 48) dX11_knight_46 rfl rfl ?_
          refine v_iconst (q := 49) dX11_knight_48 rfl ic_0 ?_
          refine v_bipush (q := 51) dX11_knight_49 rfl bp_99 ?_
          refine v_cPS3 (q := 54) (ct_X11_isWithin (d - 1) (by omega) _ _ _ _) dX11_knight_51 rfl cc_X11_55 (by omega) (Nat.le_of_ble_eq_true rfl) ⟨Nat.le_of_ble_eq_true rfl, Nat.le_of_ble_eq_true rfl⟩ (fun v7 => ?_)
          refine v_if_ne (tgt := 60) (q := 57) dX11_knight_54 rfl rfl ?_ ?_
          · refine v_aload_n (q := 61) dX11_knight_60 rfl rfl rfl ?_
            refine v_getRb (q := 64) dX11_knight_61 rfl fg_X11_19 (fun o8 => ?_)
            refine v_iload_n (q := 65) dX11_knight_64 rfl rfl rfl ?_
            refine v_cRV1 (q := 68) (ct_X0_knightAt (d - 1) (by omega) _ _ _) dX11_knight_65 rfl cc_X11_97 (by omega) (Nat.le_of_ble_eq_true rfl) ⟨Nat.le_of_ble_eq_true rfl, Nat.le_of_ble_eq_true rfl⟩ (fun o9 => ?_)
            refine v_astore (q := 70) (loc2 := [some (.ref a0), some (.int x1), some (.int x2), some (.int x3), some (.int x4), some (.int x5), some (.ref o9)]) dX11_knight_68 rfl rfl (Nat.le_of_ble_eq_true rfl) rfl ?_
            refine v_aload (q := 72) dX11_knight_70 rfl rfl ?_
            refine v_getIb (q := 75) dX11_knight_72 rfl fg_X11_101 (fun v10 => ?_)
            refine v_if_eq (tgt := 81) (q := 78) dX11_knight_75 rfl rfl ?_ ?_
            · refine v_aload (q := 83) dX11_knight_81 rfl rfl ?_
              refine v_iload_n (q := 84) dX11_knight_83 rfl rfl rfl ?_
              refine v_iload_n (q := 85) dX11_knight_84 rfl rfl rfl ?_
              refine v_iload (q := 87) dX11_knight_85 rfl rfl ?_
              refine v_iload (q := 89) dX11_knight_87 rfl rfl ?_
              refine v_cMV4 (q := 92) (ct_X4_come (d - 1) (by omega) _ _ _ _ _ _) dX11_knight_89 rfl cc_X11_107 (by omega) (Nat.le_of_ble_eq_true rfl) ⟨Nat.le_of_ble_eq_true rfl, Nat.le_of_ble_eq_true rfl⟩ (fun M11 => ?_)
              refine v_aload_n (q := 93) dX11_knight_92 rfl rfl rfl ?_
              refine v_getRb (q := 96) dX11_knight_93 rfl fg_X11_19 (fun o12 => ?_)
              refine v_cPV0 (q := 99) (ct_X0_countKnights (d - 1) (by omega) _ _) dX11_knight_96 rfl cc_X11_111 (by omega) (Nat.le_of_ble_eq_true rfl) ⟨Nat.le_of_ble_eq_true rfl, Nat.le_of_ble_eq_true rfl⟩ (fun v13 => ?_)
              exact v_iret rfl dX11_knight_99 ⟨Nat.le_of_ble_eq_true rfl, Nat.le_of_ble_eq_true rfl⟩ rfl
            · refine v_bipush (q := 80) dX11_knight_78 rfl bp_m3 ?_
              exact v_iret rfl dX11_knight_80 ⟨Nat.le_of_ble_eq_true rfl, Nat.le_of_ble_eq_true rfl⟩ rfl
          · refine v_bipush (q := 59) dX11_knight_57 rfl bp_m2 ?_
            exact v_iret rfl dX11_knight_59 ⟨Nat.le_of_ble_eq_true rfl, Nat.le_of_ble_eq_true rfl⟩ rfl
    · refine v_iconst (q := 24) dX11_knight_23 rfl ic_m1 ?_
      exact v_iret rfl dX11_knight_24 ⟨Nat.le_of_ble_eq_true rfl, Nat.le_of_ble_eq_true rfl⟩ rfl
theorem ct_X11_knight (d : Nat) (hd : 2 ≤ d) (a0 : Nat) (x1 : Int32) (x2 : Int32) (x3 : Int32) (x4 : Int32) (x5 : Int32) (M : Me) (r : Int32) (M2 : Me) (hf : f_X11_knight a0 x1 x2 x3 x4 x5 M = some (r, M2)) : me_k M a0 = some (11, nf_c 11) ∧ Ct yX11_knight mX11_knight d 0 0 [.ref a0, .int x1, .int x2, .int x3, .int x4, .int x5] M (some (.int r), M2) := by
  obtain ⟨hk, hb⟩ := ck_some hf
  exact ⟨hk, ct_of (by decide +kernel) rfl rfl (Nat.le_of_ble_eq_true rfl) (vb_X11_knight d hd a0 x1 x2 x3 x4 x5 M) (by rw [hb]; rfl)⟩

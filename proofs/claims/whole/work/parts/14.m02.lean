theorem dX0_tryFlinch_0 : decode cX0_tryFlinch 0 = .ok (.aload_n 0, 1) := by decide +kernel
theorem dX0_tryFlinch_1 : decode cX0_tryFlinch 1 = .ok (.iload_n 1, 1) := by decide +kernel
theorem dX0_tryFlinch_2 : decode cX0_tryFlinch 2 = .ok (.invokevirtual 131, 3) := by decide +kernel
theorem dX0_tryFlinch_5 : decode cX0_tryFlinch 5 = .ok (.istore_n 2, 1) := by decide +kernel
theorem dX0_tryFlinch_6 : decode cX0_tryFlinch 6 = .ok (.iload_n 2, 1) := by decide +kernel
theorem dX0_tryFlinch_7 : decode cX0_tryFlinch 7 = .ok (.ifCond .eq 5, 3) := by decide +kernel
theorem dX0_tryFlinch_10 : decode cX0_tryFlinch 10 = .ok (.iload_n 2, 1) := by decide +kernel
theorem dX0_tryFlinch_11 : decode cX0_tryFlinch 11 = .ok (.ireturn, 1) := by decide +kernel
theorem dX0_tryFlinch_12 : decode cX0_tryFlinch 12 = .ok (.aload_n 0, 1) := by decide +kernel
theorem dX0_tryFlinch_13 : decode cX0_tryFlinch 13 = .ok (.iload_n 1, 1) := by decide +kernel
theorem dX0_tryFlinch_14 : decode cX0_tryFlinch 14 = .ok (.invokevirtual 101, 3) := by decide +kernel
theorem dX0_tryFlinch_17 : decode cX0_tryFlinch 17 = .ok (.astore_n 3, 1) := by decide +kernel
theorem dX0_tryFlinch_18 : decode cX0_tryFlinch 18 = .ok (.iconst 0, 1) := by decide +kernel
theorem dX0_tryFlinch_19 : decode cX0_tryFlinch 19 = .ok (.istore 4, 2) := by decide +kernel
theorem dX0_tryFlinch_21 : decode cX0_tryFlinch 21 = .ok (.iconst 0, 1) := by decide +kernel
theorem dX0_tryFlinch_22 : decode cX0_tryFlinch 22 = .ok (.istore 5, 2) := by decide +kernel
theorem dX0_tryFlinch_24 : decode cX0_tryFlinch 24 = .ok (.iload 5, 2) := by decide +kernel
theorem dX0_tryFlinch_26 : decode cX0_tryFlinch 26 = .ok (.bipush 12, 2) := by decide +kernel
theorem dX0_tryFlinch_28 : decode cX0_tryFlinch 28 = .ok (.if_icmp .ge 88, 3) := by decide +kernel
theorem dX0_tryFlinch_31 : decode cX0_tryFlinch 31 = .ok (.iload 5, 2) := by decide +kernel
theorem dX0_tryFlinch_33 : decode cX0_tryFlinch 33 = .ok (.aload_n 0, 1) := by decide +kernel
theorem dX0_tryFlinch_34 : decode cX0_tryFlinch 34 = .ok (.getfield 27, 3) := by decide +kernel
theorem dX0_tryFlinch_37 : decode cX0_tryFlinch 37 = .ok (.getfield 76, 3) := by decide +kernel
theorem dX0_tryFlinch_40 : decode cX0_tryFlinch 40 = .ok (.if_icmp .ge 76, 3) := by decide +kernel
theorem dX0_tryFlinch_43 : decode cX0_tryFlinch 43 = .ok (.aload_n 0, 1) := by decide +kernel
theorem dX0_tryFlinch_44 : decode cX0_tryFlinch 44 = .ok (.getfield 27, 3) := by decide +kernel
theorem dX0_tryFlinch_47 : decode cX0_tryFlinch 47 = .ok (.getfield 156, 3) := by decide +kernel
theorem dX0_tryFlinch_50 : decode cX0_tryFlinch 50 = .ok (.iload 5, 2) := by decide +kernel
theorem dX0_tryFlinch_52 : decode cX0_tryFlinch 52 = .ok (.aaload, 1) := by decide +kernel
theorem dX0_tryFlinch_53 : decode cX0_tryFlinch 53 = .ok (.astore 6, 2) := by decide +kernel
theorem dX0_tryFlinch_55 : decode cX0_tryFlinch 55 = .ok (.aload 6, 2) := by decide +kernel
theorem dX0_tryFlinch_57 : decode cX0_tryFlinch 57 = .ok (.getfield 165, 3) := by decide +kernel
theorem dX0_tryFlinch_60 : decode cX0_tryFlinch 60 = .ok (.iload_n 1, 1) := by decide +kernel
theorem dX0_tryFlinch_61 : decode cX0_tryFlinch 61 = .ok (.if_icmp .ne 49, 3) := by decide +kernel
theorem dX0_tryFlinch_64 : decode cX0_tryFlinch 64 = .ok (.aload 6, 2) := by decide +kernel
theorem dX0_tryFlinch_66 : decode cX0_tryFlinch 66 = .ok (.getfield 176, 3) := by decide +kernel
theorem dX0_tryFlinch_69 : decode cX0_tryFlinch 69 = .ok (.aload_n 0, 1) := by decide +kernel
theorem dX0_tryFlinch_70 : decode cX0_tryFlinch 70 = .ok (.getfield 56, 3) := by decide +kernel
theorem dX0_tryFlinch_73 : decode cX0_tryFlinch 73 = .ok (.if_icmp .ne 37, 3) := by decide +kernel
theorem dX0_tryFlinch_76 : decode cX0_tryFlinch 76 = .ok (.aload_n 3, 1) := by decide +kernel
theorem dX0_tryFlinch_77 : decode cX0_tryFlinch 77 = .ok (.aload_n 0, 1) := by decide +kernel
theorem dX0_tryFlinch_78 : decode cX0_tryFlinch 78 = .ok (.aload 6, 2) := by decide +kernel
theorem dX0_tryFlinch_80 : decode cX0_tryFlinch 80 = .ok (.getfield 177, 3) := by decide +kernel
theorem dX0_tryFlinch_83 : decode cX0_tryFlinch 83 = .ok (.invokevirtual 101, 3) := by decide +kernel
theorem dX0_tryFlinch_86 : decode cX0_tryFlinch 86 = .ok (.getfield 142, 3) := by decide +kernel
theorem dX0_tryFlinch_89 : decode cX0_tryFlinch 89 = .ok (.invokevirtual 145, 3) := by decide +kernel
theorem dX0_tryFlinch_92 : decode cX0_tryFlinch 92 = .ok (.ifCond .eq 18, 3) := by decide +kernel
theorem dX0_tryFlinch_95 : decode cX0_tryFlinch 95 = .ok (.aload 6, 2) := by decide +kernel
theorem dX0_tryFlinch_97 : decode cX0_tryFlinch 97 = .ok (.aload 6, 2) := by decide +kernel
theorem dX0_tryFlinch_99 : decode cX0_tryFlinch 99 = .ok (.getfield 168, 3) := by decide +kernel
theorem dX0_tryFlinch_102 : decode cX0_tryFlinch 102 = .ok (.iconst 2, 1) := by decide +kernel
theorem dX0_tryFlinch_103 : decode cX0_tryFlinch 103 = .ok (.idiv, 1) := by decide +kernel
theorem dX0_tryFlinch_104 : decode cX0_tryFlinch 104 = .ok (.putfield 168, 3) := by decide +kernel
theorem dX0_tryFlinch_107 : decode cX0_tryFlinch 107 = .ok (.iconst 1, 1) := by decide +kernel
theorem dX0_tryFlinch_108 : decode cX0_tryFlinch 108 = .ok (.istore 4, 2) := by decide +kernel
theorem dX0_tryFlinch_110 : decode cX0_tryFlinch 110 = .ok (.iinc 5 1, 3) := by decide +kernel
theorem dX0_tryFlinch_113 : decode cX0_tryFlinch 113 = .ok (.goto (-89), 3) := by decide +kernel
theorem dX0_tryFlinch_116 : decode cX0_tryFlinch 116 = .ok (.iload 4, 2) := by decide +kernel
theorem dX0_tryFlinch_118 : decode cX0_tryFlinch 118 = .ok (.ifCond .ne 6, 3) := by decide +kernel
theorem dX0_tryFlinch_121 : decode cX0_tryFlinch 121 = .ok (.bipush 6, 2) := by decide +kernel
theorem dX0_tryFlinch_123 : decode cX0_tryFlinch 123 = .ok (.ireturn, 1) := by decide +kernel
theorem dX0_tryFlinch_124 : decode cX0_tryFlinch 124 = .ok (.aload_n 3, 1) := by decide +kernel
theorem dX0_tryFlinch_125 : decode cX0_tryFlinch 125 = .ok (.dup, 1) := by decide +kernel
theorem dX0_tryFlinch_126 : decode cX0_tryFlinch 126 = .ok (.getfield 98, 3) := by decide +kernel
theorem dX0_tryFlinch_129 : decode cX0_tryFlinch 129 = .ok (.iconst 2, 1) := by decide +kernel
theorem dX0_tryFlinch_130 : decode cX0_tryFlinch 130 = .ok (.isub, 1) := by decide +kernel
theorem dX0_tryFlinch_131 : decode cX0_tryFlinch 131 = .ok (.putfield 98, 3) := by decide +kernel
theorem dX0_tryFlinch_134 : decode cX0_tryFlinch 134 = .ok (.iconst 0, 1) := by decide +kernel
theorem dX0_tryFlinch_135 : decode cX0_tryFlinch 135 = .ok (.ireturn, 1) := by decide +kernel
noncomputable def s_X0_tryFlinch_24 (a0 : Nat) (x1 : Int32) (o2 : Nat) (M3 : Me) (v4 : Int32) (v5 : Int32) : Option ((Me × Int32 × Int32) ⊕ (Me × Int32 × Int32)) :=
  if (12 : Int32) ≤ v5 then (
    some (Sum.inr (M3, v4, v5))
  ) else (
    gr M3 a0 0 2 fun o6 =>
    gi M3 o6 2 0 fun v7 =>
    if v7 ≤ v5 then (
      some (Sum.inr (M3, v4, v5))
    ) else (
      gr M3 a0 0 2 fun o8 =>
      gr M3 o8 2 1 fun o9 =>
      lr M3 o9 23 v5 fun o10 =>
      gi M3 o10 1 0 fun v11 =>
      (
        if v11 = x1 then (
          gi M3 o10 1 3 fun v12 =>
          gi M3 a0 0 5 fun v13 =>
          if v12 = v13 then (
            gi M3 o10 1 1 fun v14 =>
            cR (f_X0_knightAt a0 v14 M3) fun o15 =>
            gi M3 o15 4 1 fun v16 =>
            cP (f_X4_isIn o2 v16 M3) fun v17 =>
            if v17 = 0 then (
              some (M3, v4)
            ) else (
              gi M3 o10 1 2 fun v18 =>
              pi M3 o10 1 2 (v18 / (2 : Int32)) fun M19 =>
              some (M19, (1 : Int32))
            )
          ) else (
            some (M3, v4)
          )
        ) else (
          some (M3, v4)
        )
      ).bind fun q20 =>
      let_v (v5 + (1 : Int32)) fun v21 =>
      some (Sum.inl (q20.1, q20.2, v21))
    )
  )
noncomputable def b_X0_tryFlinch (a0 : Nat) (x1 : Int32) (M : Me) : Option (Int32 × Me) :=
  cP (f_X0_whyNotActing a0 x1 M) fun v1 =>
  if v1 = 0 then (
    cR (f_X0_knightAt a0 x1 M) fun o2 =>
    (lp (fun s => s_X0_tryFlinch_24 a0 x1 o2 s.1 s.2.1 s.2.2) (M, (0 : Int32), (0 : Int32))).bind fun e22 =>
    if e22.2.1 = 0 then (
      some ((6 : Int32), e22.1)
    ) else (
      gi e22.1 o2 4 4 fun v23 =>
      pi e22.1 o2 4 4 (v23 - (2 : Int32)) fun M24 =>
      some ((0 : Int32), M24)
    )
  ) else (
    some (v1, M)
  )
noncomputable def f_X0_tryFlinch (a0 : Nat) (x1 : Int32) (M : Me) : Option (Int32 × Me) := ck M a0 0 (b_X0_tryFlinch a0 x1 M)
set_option maxRecDepth 20000 in
theorem vb_X0_tryFlinch (d : Nat) (hd : 2 ≤ d) (a0 : Nat) (x1 : Int32) (M : Me) : V (mX0_tryFlinch, d, 0, 0) (0, 0) M 0 [some (.ref a0), some (.int x1), none, none, none, none, none] [] (b_X0_tryFlinch a0 x1 M) (fun z => some (some (.int z.1), z.2)) := by
  unfold b_X0_tryFlinch
  refine v_aload_n (q := 1) dX0_tryFlinch_0 rfl rfl rfl ?_
  refine v_iload_n (q := 2) dX0_tryFlinch_1 rfl rfl rfl ?_
  refine v_cPV1 (q := 5) (ct_X0_whyNotActing (d - 1) (by omega) _ _ _) dX0_tryFlinch_2 rfl cc_X0_131 (by omega) (Nat.le_of_ble_eq_true rfl) ⟨Nat.le_of_ble_eq_true rfl, Nat.le_of_ble_eq_true rfl⟩ (fun v1 => ?_)
  refine v_istore_n (q := 6) (loc2 := [some (.ref a0), some (.int x1), some (.int v1), none, none, none, none]) dX0_tryFlinch_5 rfl rfl rfl (Nat.le_of_ble_eq_true rfl) rfl ?_
  refine v_iload_n (q := 7) dX0_tryFlinch_6 rfl rfl rfl ?_
  refine v_if_eq (tgt := 12) (q := 10) dX0_tryFlinch_7 rfl rfl ?_ ?_
  · refine v_aload_n (q := 13) dX0_tryFlinch_12 rfl rfl rfl ?_
    refine v_iload_n (q := 14) dX0_tryFlinch_13 rfl rfl rfl ?_
    refine v_cRV1 (q := 17) (ct_X0_knightAt (d - 1) (by omega) _ _ _) dX0_tryFlinch_14 rfl cc_X0_101 (by omega) (Nat.le_of_ble_eq_true rfl) ⟨Nat.le_of_ble_eq_true rfl, Nat.le_of_ble_eq_true rfl⟩ (fun o2 => ?_)
    refine v_astore_n (q := 18) (loc2 := [some (.ref a0), some (.int x1), some (.int v1), some (.ref o2), none, none, none]) dX0_tryFlinch_17 rfl rfl rfl (Nat.le_of_ble_eq_true rfl) rfl ?_
    refine v_iconst (q := 19) dX0_tryFlinch_18 rfl ic_0 ?_
    refine v_istore (q := 21) (loc2 := [some (.ref a0), some (.int x1), some (.int v1), some (.ref o2), some (.int (0 : Int32)), none, none]) dX0_tryFlinch_19 rfl rfl (Nat.le_of_ble_eq_true rfl) rfl ?_
    refine v_iconst (q := 22) dX0_tryFlinch_21 rfl ic_0 ?_
    refine v_istore (q := 24) (loc2 := [some (.ref a0), some (.int x1), some (.int v1), some (.ref o2), some (.int (0 : Int32)), some (.int (0 : Int32)), none]) dX0_tryFlinch_22 rfl rfl (Nat.le_of_ble_eq_true rfl) rfl ?_
    refine v_lps (S := Me × Int32 × Int32) 116 (fun s => s.1) (fun s => [some (.ref a0), some (.int x1), some (.int v1), some (.ref o2), some (.int s.2.1), some (.int s.2.2), none]) (fun e22 => e22.1) (fun e22 => [some (.ref a0), some (.int x1), some (.int v1), some (.ref o2), some (.int e22.2.1), some (.int e22.2.2), none]) (fun e22 => ?_) (fun k K hk hx s => ?_)
    · refine v_iload (q := 118) dX0_tryFlinch_116 rfl rfl ?_
      refine v_if_ne (tgt := 124) (q := 121) dX0_tryFlinch_118 rfl rfl ?_ ?_
      · refine v_aload_n (q := 125) dX0_tryFlinch_124 rfl rfl rfl ?_
        refine v_dup (q := 126) dX0_tryFlinch_125 rfl rfl ?_
        refine v_getIb (q := 129) dX0_tryFlinch_126 rfl fg_X0_98 (fun v23 => ?_)
        refine v_iconst (q := 130) dX0_tryFlinch_129 rfl ic_2 ?_
        refine v_isub (q := 131) dX0_tryFlinch_130 rfl ?_
        refine v_putIb (q := 134) dX0_tryFlinch_131 rfl fp_X0_98 (fun M24 => ?_)
        refine v_iconst (q := 135) dX0_tryFlinch_134 rfl ic_0 ?_
        exact v_iret rfl dX0_tryFlinch_135 ⟨Nat.le_of_ble_eq_true rfl, Nat.le_of_ble_eq_true rfl⟩ rfl
      · refine v_bipush (q := 123) dX0_tryFlinch_121 rfl bp_6 ?_
        exact v_iret rfl dX0_tryFlinch_123 ⟨Nat.le_of_ble_eq_true rfl, Nat.le_of_ble_eq_true rfl⟩ rfl
    · obtain ⟨M3, v4, v5⟩ := s
      show V _ _ M3 24 [some (.ref a0), some (.int x1), some (.int v1), some (.ref o2), some (.int v4), some (.int v5), none] [] (s_X0_tryFlinch_24 a0 x1 o2 M3 v4 v5) _
      unfold s_X0_tryFlinch_24
      refine v_iload (q := 26) dX0_tryFlinch_24 rfl rfl ?_
      refine v_bipush (q := 28) dX0_tryFlinch_26 rfl bp_12 ?_
      refine v_icmp_ge (tgt := 116) (q := 31) dX0_tryFlinch_28 rfl rfl ?_ ?_
      · exact v_inr (hx (M3, v4, v5))
      · refine v_iload (q := 33) dX0_tryFlinch_31 rfl rfl ?_
        refine v_aload_n (q := 34) dX0_tryFlinch_33 rfl rfl rfl ?_
        refine v_getRb (q := 37) dX0_tryFlinch_34 rfl fg_X0_27 (fun o6 => ?_)
        refine v_getIb (q := 40) dX0_tryFlinch_37 rfl fg_X0_76 (fun v7 => ?_)
        refine v_icmp_ge (tgt := 116) (q := 43) dX0_tryFlinch_40 rfl rfl ?_ ?_
        · exact v_inr (hx (M3, v4, v5))
        · refine v_aload_n (q := 44) dX0_tryFlinch_43 rfl rfl rfl ?_
          refine v_getRb (q := 47) dX0_tryFlinch_44 rfl fg_X0_27 (fun o8 => ?_)
          refine v_getRb (q := 50) dX0_tryFlinch_47 rfl fg_X0_156 (fun o9 => ?_)
          refine v_iload (q := 52) dX0_tryFlinch_50 rfl rfl ?_
          refine v_aaload (q := 53) (t0 := 3) dX0_tryFlinch_52 rfl (Nat.le_of_ble_eq_true rfl) (fun _ => rfl) (fun o10 => ?_)
          refine v_astore (q := 55) (loc2 := [some (.ref a0), some (.int x1), some (.int v1), some (.ref o2), some (.int v4), some (.int v5), some (.ref o10)]) dX0_tryFlinch_53 rfl rfl (Nat.le_of_ble_eq_true rfl) rfl ?_
          refine v_aload (q := 57) dX0_tryFlinch_55 rfl rfl ?_
          refine v_getIb (q := 60) dX0_tryFlinch_57 rfl fg_X0_165 (fun v11 => ?_)
          refine v_iload_n (q := 61) dX0_tryFlinch_60 rfl rfl rfl ?_
          refine v_join (γ := Me × Int32) 110 (fun q20 => q20.1) (fun q20 => [some (.ref a0), some (.int x1), some (.int v1), some (.ref o2), some (.int q20.2), some (.int v5), some (.ref o10)]) (fun q20 => []) (fun K hK => ?_) (fun q20 => ?_)
          · refine v_icmp_ne (tgt := 110) (q := 64) dX0_tryFlinch_61 rfl rfl ?_ ?_
            · exact hK (M3, v4)
            · refine v_aload (q := 66) dX0_tryFlinch_64 rfl rfl ?_
              refine v_getIb (q := 69) dX0_tryFlinch_66 rfl fg_X0_176 (fun v12 => ?_)
              refine v_aload_n (q := 70) dX0_tryFlinch_69 rfl rfl rfl ?_
              refine v_getIb (q := 73) dX0_tryFlinch_70 rfl fg_X0_56 (fun v13 => ?_)
              refine v_icmp_ne (tgt := 110) (q := 76) dX0_tryFlinch_73 rfl rfl ?_ ?_
              · exact hK (M3, v4)
              · refine v_aload_n (q := 77) dX0_tryFlinch_76 rfl rfl rfl ?_
                refine v_aload_n (q := 78) dX0_tryFlinch_77 rfl rfl rfl ?_
                refine v_aload (q := 80) dX0_tryFlinch_78 rfl rfl ?_
                refine v_getIb (q := 83) dX0_tryFlinch_80 rfl fg_X0_177 (fun v14 => ?_)
                refine v_cRV1 (q := 86) (ct_X0_knightAt (d - 1) (by omega) _ _ _) dX0_tryFlinch_83 rfl cc_X0_101 (by omega) (Nat.le_of_ble_eq_true rfl) ⟨Nat.le_of_ble_eq_true rfl, Nat.le_of_ble_eq_true rfl⟩ (fun o15 => ?_)
                refine v_getIb (q := 89) dX0_tryFlinch_86 rfl fg_X0_142 (fun v16 => ?_)
                refine v_cPV1 (q := 92) (ct_X4_isIn (d - 1) (by omega) _ _ _) dX0_tryFlinch_89 rfl cc_X0_145 (by omega) (Nat.le_of_ble_eq_true rfl) ⟨Nat.le_of_ble_eq_true rfl, Nat.le_of_ble_eq_true rfl⟩ (fun v17 => ?_)
                refine v_if_eq (tgt := 110) (q := 95) dX0_tryFlinch_92 rfl rfl ?_ ?_
                · exact hK (M3, v4)
                · refine v_aload (q := 97) dX0_tryFlinch_95 rfl rfl ?_
                  refine v_aload (q := 99) dX0_tryFlinch_97 rfl rfl ?_
                  refine v_getIb (q := 102) dX0_tryFlinch_99 rfl fg_X0_168 (fun v18 => ?_)
                  refine v_iconst (q := 103) dX0_tryFlinch_102 rfl ic_2 ?_
                  refine v_idivc (q := 104) dX0_tryFlinch_103 rfl ne_2 ?_
                  refine v_putIb (q := 107) dX0_tryFlinch_104 rfl fp_X0_168 (fun M19 => ?_)
                  refine v_iconst (q := 108) dX0_tryFlinch_107 rfl ic_1 ?_
                  refine v_istore (q := 110) (loc2 := [some (.ref a0), some (.int x1), some (.int v1), some (.ref o2), some (.int (1 : Int32)), some (.int v5), some (.ref o10)]) dX0_tryFlinch_108 rfl rfl (Nat.le_of_ble_eq_true rfl) rfl ?_
                  exact hK (M19, (1 : Int32))
          · refine v_iincL (q := 113) (x := v5) (cst := (1 : Int32)) (f := fun v21 => [some (.ref a0), some (.int x1), some (.int v1), some (.ref o2), some (.int q20.2), some (.int v21), some (.ref o10)]) dX0_tryFlinch_110 rfl rfl ic_1 rfl (Nat.le_of_ble_eq_true rfl) (fun _ => rfl) (fun v21 => ?_)
            refine v_goto (tgt := 24) dX0_tryFlinch_113 rfl ?_
            exact v_inl (v_weak (hk (q20.1, q20.2, v21)) ⟨rfl, ⟨rfl, ⟨rfl, ⟨rfl, ⟨rfl, ⟨rfl, trivial⟩⟩⟩⟩⟩⟩)
  · refine v_iload_n (q := 11) dX0_tryFlinch_10 rfl rfl rfl ?_
    exact v_iret rfl dX0_tryFlinch_11 ⟨Nat.le_of_ble_eq_true rfl, Nat.le_of_ble_eq_true rfl⟩ rfl
theorem ct_X0_tryFlinch (d : Nat) (hd : 2 ≤ d) (a0 : Nat) (x1 : Int32) (M : Me) (r : Int32) (M2 : Me) (hf : f_X0_tryFlinch a0 x1 M = some (r, M2)) : me_k M a0 = some (0, nf_c 0) ∧ Ct yX0_tryFlinch mX0_tryFlinch d 0 0 [.ref a0, .int x1] M (some (.int r), M2) := by
  obtain ⟨hk, hb⟩ := ck_some hf
  exact ⟨hk, ct_of (by decide +kernel) rfl rfl (Nat.le_of_ble_eq_true rfl) (vb_X0_tryFlinch d hd a0 x1 M) (by rw [hb]; rfl)⟩
theorem dX0_tryRemit_0 : decode cX0_tryRemit 0 = .ok (.aload_n 0, 1) := by decide +kernel
theorem dX0_tryRemit_1 : decode cX0_tryRemit 1 = .ok (.iload_n 1, 1) := by decide +kernel
theorem dX0_tryRemit_2 : decode cX0_tryRemit 2 = .ok (.invokevirtual 131, 3) := by decide +kernel
theorem dX0_tryRemit_5 : decode cX0_tryRemit 5 = .ok (.istore_n 2, 1) := by decide +kernel
theorem dX0_tryRemit_6 : decode cX0_tryRemit 6 = .ok (.iload_n 2, 1) := by decide +kernel
theorem dX0_tryRemit_7 : decode cX0_tryRemit 7 = .ok (.ifCond .eq 5, 3) := by decide +kernel
theorem dX0_tryRemit_10 : decode cX0_tryRemit 10 = .ok (.iload_n 2, 1) := by decide +kernel
theorem dX0_tryRemit_11 : decode cX0_tryRemit 11 = .ok (.ireturn, 1) := by decide +kernel
theorem dX0_tryRemit_12 : decode cX0_tryRemit 12 = .ok (.aload_n 0, 1) := by decide +kernel
theorem dX0_tryRemit_13 : decode cX0_tryRemit 13 = .ok (.getfield 27, 3) := by decide +kernel
theorem dX0_tryRemit_16 : decode cX0_tryRemit 16 = .ok (.getfield 76, 3) := by decide +kernel
theorem dX0_tryRemit_19 : decode cX0_tryRemit 19 = .ok (.istore_n 3, 1) := by decide +kernel
theorem dX0_tryRemit_20 : decode cX0_tryRemit 20 = .ok (.iconst 0, 1) := by decide +kernel
theorem dX0_tryRemit_21 : decode cX0_tryRemit 21 = .ok (.istore 4, 2) := by decide +kernel
theorem dX0_tryRemit_23 : decode cX0_tryRemit 23 = .ok (.iload 4, 2) := by decide +kernel
theorem dX0_tryRemit_25 : decode cX0_tryRemit 25 = .ok (.bipush 12, 2) := by decide +kernel
theorem dX0_tryRemit_27 : decode cX0_tryRemit 27 = .ok (.if_icmp .ge 56, 3) := by decide +kernel
theorem dX0_tryRemit_30 : decode cX0_tryRemit 30 = .ok (.iload 4, 2) := by decide +kernel
theorem dX0_tryRemit_32 : decode cX0_tryRemit 32 = .ok (.aload_n 0, 1) := by decide +kernel
theorem dX0_tryRemit_33 : decode cX0_tryRemit 33 = .ok (.getfield 27, 3) := by decide +kernel
theorem dX0_tryRemit_36 : decode cX0_tryRemit 36 = .ok (.getfield 76, 3) := by decide +kernel
theorem dX0_tryRemit_39 : decode cX0_tryRemit 39 = .ok (.if_icmp .ge 44, 3) := by decide +kernel
theorem dX0_tryRemit_42 : decode cX0_tryRemit 42 = .ok (.aload_n 0, 1) := by decide +kernel
theorem dX0_tryRemit_43 : decode cX0_tryRemit 43 = .ok (.getfield 27, 3) := by decide +kernel
theorem dX0_tryRemit_46 : decode cX0_tryRemit 46 = .ok (.getfield 156, 3) := by decide +kernel
theorem dX0_tryRemit_49 : decode cX0_tryRemit 49 = .ok (.iload 4, 2) := by decide +kernel
theorem dX0_tryRemit_51 : decode cX0_tryRemit 51 = .ok (.aaload, 1) := by decide +kernel
theorem dX0_tryRemit_52 : decode cX0_tryRemit 52 = .ok (.aload_n 0, 1) := by decide +kernel
theorem dX0_tryRemit_53 : decode cX0_tryRemit 53 = .ok (.getfield 27, 3) := by decide +kernel
theorem dX0_tryRemit_56 : decode cX0_tryRemit 56 = .ok (.getfield 156, 3) := by decide +kernel
theorem dX0_tryRemit_59 : decode cX0_tryRemit 59 = .ok (.iload 4, 2) := by decide +kernel
theorem dX0_tryRemit_61 : decode cX0_tryRemit 61 = .ok (.aaload, 1) := by decide +kernel
theorem dX0_tryRemit_62 : decode cX0_tryRemit 62 = .ok (.getfield 177, 3) := by decide +kernel
theorem dX0_tryRemit_65 : decode cX0_tryRemit 65 = .ok (.iload_n 1, 1) := by decide +kernel
theorem dX0_tryRemit_66 : decode cX0_tryRemit 66 = .ok (.if_icmp .ne 7, 3) := by decide +kernel
theorem dX0_tryRemit_69 : decode cX0_tryRemit 69 = .ok (.iconst 1, 1) := by decide +kernel
theorem dX0_tryRemit_70 : decode cX0_tryRemit 70 = .ok (.goto 4, 3) := by decide +kernel
theorem dX0_tryRemit_73 : decode cX0_tryRemit 73 = .ok (.iconst 0, 1) := by decide +kernel
theorem dX0_tryRemit_74 : decode cX0_tryRemit 74 = .ok (.putfield 160, 3) := by decide +kernel
theorem dX0_tryRemit_77 : decode cX0_tryRemit 77 = .ok (.iinc 4 1, 3) := by decide +kernel
theorem dX0_tryRemit_80 : decode cX0_tryRemit 80 = .ok (.goto (-57), 3) := by decide +kernel
theorem dX0_tryRemit_83 : decode cX0_tryRemit 83 = .ok (.aload_n 0, 1) := by decide +kernel
theorem dX0_tryRemit_84 : decode cX0_tryRemit 84 = .ok (.getfield 27, 3) := by decide +kernel
theorem dX0_tryRemit_87 : decode cX0_tryRemit 87 = .ok (.invokevirtual 121, 3) := by decide +kernel
theorem dX0_tryRemit_90 : decode cX0_tryRemit 90 = .ok (.iload_n 3, 1) := by decide +kernel
theorem dX0_tryRemit_91 : decode cX0_tryRemit 91 = .ok (.aload_n 0, 1) := by decide +kernel
theorem dX0_tryRemit_92 : decode cX0_tryRemit 92 = .ok (.getfield 27, 3) := by decide +kernel
theorem dX0_tryRemit_95 : decode cX0_tryRemit 95 = .ok (.getfield 76, 3) := by decide +kernel
theorem dX0_tryRemit_98 : decode cX0_tryRemit 98 = .ok (.isub, 1) := by decide +kernel
theorem dX0_tryRemit_99 : decode cX0_tryRemit 99 = .ok (.istore 4, 2) := by decide +kernel
theorem dX0_tryRemit_101 : decode cX0_tryRemit 101 = .ok (.aload_n 0, 1) := by decide +kernel
theorem dX0_tryRemit_102 : decode cX0_tryRemit 102 = .ok (.iload_n 1, 1) := by decide +kernel
theorem dX0_tryRemit_103 : decode cX0_tryRemit 103 = .ok (.invokevirtual 101, 3) := by decide +kernel
theorem dX0_tryRemit_106 : decode cX0_tryRemit 106 = .ok (.dup, 1) := by decide +kernel
theorem dX0_tryRemit_107 : decode cX0_tryRemit 107 = .ok (.getfield 98, 3) := by decide +kernel
theorem dX0_tryRemit_110 : decode cX0_tryRemit 110 = .ok (.iload 4, 2) := by decide +kernel
theorem dX0_tryRemit_112 : decode cX0_tryRemit 112 = .ok (.iadd, 1) := by decide +kernel
theorem dX0_tryRemit_113 : decode cX0_tryRemit 113 = .ok (.putfield 98, 3) := by decide +kernel
theorem dX0_tryRemit_116 : decode cX0_tryRemit 116 = .ok (.iload 4, 2) := by decide +kernel
theorem dX0_tryRemit_118 : decode cX0_tryRemit 118 = .ok (.ifCond .le 7, 3) := by decide +kernel
theorem dX0_tryRemit_121 : decode cX0_tryRemit 121 = .ok (.iconst 0, 1) := by decide +kernel
theorem dX0_tryRemit_122 : decode cX0_tryRemit 122 = .ok (.goto 5, 3) := by decide +kernel
theorem dX0_tryRemit_125 : decode cX0_tryRemit 125 = .ok (.bipush 6, 2) := by decide +kernel
theorem dX0_tryRemit_127 : decode cX0_tryRemit 127 = .ok (.ireturn, 1) := by decide +kernel
noncomputable def s_X0_tryRemit_23 (a0 : Nat) (x1 : Int32) (M4 : Me) (v5 : Int32) : Option ((Me × Int32) ⊕ (Me × Int32)) :=
  if (12 : Int32) ≤ v5 then (
    some (Sum.inr (M4, v5))
  ) else (
    gr M4 a0 0 2 fun o6 =>
    gi M4 o6 2 0 fun v7 =>
    if v7 ≤ v5 then (
      some (Sum.inr (M4, v5))
    ) else (
      gr M4 a0 0 2 fun o8 =>
      gr M4 o8 2 1 fun o9 =>
      lr M4 o9 23 v5 fun o10 =>
      gr M4 a0 0 2 fun o11 =>
      gr M4 o11 2 1 fun o12 =>
      lr M4 o12 23 v5 fun o13 =>
      gi M4 o13 1 1 fun v14 =>
      (
        if v14 = x1 then (
          some (1 : Int32)
        ) else (
          some (0 : Int32)
        )
      ).bind fun v15 =>
      pz M4 o10 1 4 v15 fun M16 =>
      let_v (v5 + (1 : Int32)) fun v17 =>
      some (Sum.inl (M16, v17))
    )
  )
noncomputable def b_X0_tryRemit (a0 : Nat) (x1 : Int32) (M : Me) : Option (Int32 × Me) :=
  cP (f_X0_whyNotActing a0 x1 M) fun v1 =>
  if v1 = 0 then (
    gr M a0 0 2 fun o2 =>
    gi M o2 2 0 fun v3 =>
    (lp (fun s => s_X0_tryRemit_23 a0 x1 s.1 s.2) (M, (0 : Int32))).bind fun e18 =>
    gr e18.1 a0 0 2 fun o19 =>
    cM (f_X2_sweep o19 e18.1) fun M20 =>
    gr M20 a0 0 2 fun o21 =>
    gi M20 o21 2 0 fun v22 =>
    let_v ((v3 - v22)) fun v23 =>
    cR (f_X0_knightAt a0 x1 M20) fun o24 =>
    gi M20 o24 4 4 fun v25 =>
    pi M20 o24 4 4 (v25 + v23) fun M26 =>
    (
      if v23 ≤ 0 then (
        some (6 : Int32)
      ) else (
        some (0 : Int32)
      )
    ).bind fun v27 =>
    some (v27, M26)
  ) else (
    some (v1, M)
  )
noncomputable def f_X0_tryRemit (a0 : Nat) (x1 : Int32) (M : Me) : Option (Int32 × Me) := ck M a0 0 (b_X0_tryRemit a0 x1 M)
set_option maxRecDepth 20000 in
theorem vb_X0_tryRemit (d : Nat) (hd : 2 ≤ d) (a0 : Nat) (x1 : Int32) (M : Me) : V (mX0_tryRemit, d, 0, 0) (0, 0) M 0 [some (.ref a0), some (.int x1), none, none, none] [] (b_X0_tryRemit a0 x1 M) (fun z => some (some (.int z.1), z.2)) := by
  unfold b_X0_tryRemit
  refine v_aload_n (q := 1) dX0_tryRemit_0 rfl rfl rfl ?_
  refine v_iload_n (q := 2) dX0_tryRemit_1 rfl rfl rfl ?_
  refine v_cPV1 (q := 5) (ct_X0_whyNotActing (d - 1) (by omega) _ _ _) dX0_tryRemit_2 rfl cc_X0_131 (by omega) (Nat.le_of_ble_eq_true rfl) ⟨Nat.le_of_ble_eq_true rfl, Nat.le_of_ble_eq_true rfl⟩ (fun v1 => ?_)
  refine v_istore_n (q := 6) (loc2 := [some (.ref a0), some (.int x1), some (.int v1), none, none]) dX0_tryRemit_5 rfl rfl rfl (Nat.le_of_ble_eq_true rfl) rfl ?_
  refine v_iload_n (q := 7) dX0_tryRemit_6 rfl rfl rfl ?_
  refine v_if_eq (tgt := 12) (q := 10) dX0_tryRemit_7 rfl rfl ?_ ?_
  · refine v_aload_n (q := 13) dX0_tryRemit_12 rfl rfl rfl ?_
    refine v_getRb (q := 16) dX0_tryRemit_13 rfl fg_X0_27 (fun o2 => ?_)
    refine v_getIb (q := 19) dX0_tryRemit_16 rfl fg_X0_76 (fun v3 => ?_)
    refine v_istore_n (q := 20) (loc2 := [some (.ref a0), some (.int x1), some (.int v1), some (.int v3), none]) dX0_tryRemit_19 rfl rfl rfl (Nat.le_of_ble_eq_true rfl) rfl ?_
    refine v_iconst (q := 21) dX0_tryRemit_20 rfl ic_0 ?_
    refine v_istore (q := 23) (loc2 := [some (.ref a0), some (.int x1), some (.int v1), some (.int v3), some (.int (0 : Int32))]) dX0_tryRemit_21 rfl rfl (Nat.le_of_ble_eq_true rfl) rfl ?_
    refine v_lps (S := Me × Int32) 83 (fun s => s.1) (fun s => [some (.ref a0), some (.int x1), some (.int v1), some (.int v3), some (.int s.2)]) (fun e18 => e18.1) (fun e18 => [some (.ref a0), some (.int x1), some (.int v1), some (.int v3), some (.int e18.2)]) (fun e18 => ?_) (fun k K hk hx s => ?_)
    · refine v_aload_n (q := 84) dX0_tryRemit_83 rfl rfl rfl ?_
      refine v_getRb (q := 87) dX0_tryRemit_84 rfl fg_X0_27 (fun o19 => ?_)
      refine v_cMV0 (q := 90) (ct_X2_sweep (d - 1) (by omega) _ _) dX0_tryRemit_87 rfl cc_X0_121 (by omega) (Nat.le_of_ble_eq_true rfl) ⟨Nat.le_of_ble_eq_true rfl, Nat.le_of_ble_eq_true rfl⟩ (fun M20 => ?_)
      refine v_iload_n (q := 91) dX0_tryRemit_90 rfl rfl rfl ?_
      refine v_aload_n (q := 92) dX0_tryRemit_91 rfl rfl rfl ?_
      refine v_getRb (q := 95) dX0_tryRemit_92 rfl fg_X0_27 (fun o21 => ?_)
      refine v_getIb (q := 98) dX0_tryRemit_95 rfl fg_X0_76 (fun v22 => ?_)
      refine v_isub (q := 99) dX0_tryRemit_98 rfl ?_
      refine v_letI (fun v23 => ?_)
      refine v_istore (q := 101) (loc2 := [some (.ref a0), some (.int x1), some (.int v1), some (.int v3), some (.int v23)]) dX0_tryRemit_99 rfl rfl (Nat.le_of_ble_eq_true rfl) rfl ?_
      refine v_aload_n (q := 102) dX0_tryRemit_101 rfl rfl rfl ?_
      refine v_iload_n (q := 103) dX0_tryRemit_102 rfl rfl rfl ?_
      refine v_cRV1 (q := 106) (ct_X0_knightAt (d - 1) (by omega) _ _ _) dX0_tryRemit_103 rfl cc_X0_101 (by omega) (Nat.le_of_ble_eq_true rfl) ⟨Nat.le_of_ble_eq_true rfl, Nat.le_of_ble_eq_true rfl⟩ (fun o24 => ?_)
      refine v_dup (q := 107) dX0_tryRemit_106 rfl rfl ?_
      refine v_getIb (q := 110) dX0_tryRemit_107 rfl fg_X0_98 (fun v25 => ?_)
      refine v_iload (q := 112) dX0_tryRemit_110 rfl rfl ?_
      refine v_iadd (q := 113) dX0_tryRemit_112 rfl ?_
      refine v_putIb (q := 116) dX0_tryRemit_113 rfl fp_X0_98 (fun M26 => ?_)
      refine v_iload (q := 118) dX0_tryRemit_116 rfl rfl ?_
      refine v_join (γ := Int32) 127 (fun v27 => M26) (fun v27 => [some (.ref a0), some (.int x1), some (.int v1), some (.int v3), some (.int v23)]) (fun v27 => [.int v27]) (fun K hK => ?_) (fun v27 => ?_)
      · refine v_if_le (tgt := 125) (q := 121) dX0_tryRemit_118 rfl rfl ?_ ?_
        · refine v_bipush (q := 127) dX0_tryRemit_125 rfl bp_6 ?_
          exact hK (6 : Int32)
        · refine v_iconst (q := 122) dX0_tryRemit_121 rfl ic_0 ?_
          refine v_goto (tgt := 127) dX0_tryRemit_122 rfl ?_
          exact hK (0 : Int32)
      · exact v_iret rfl dX0_tryRemit_127 ⟨Nat.le_of_ble_eq_true rfl, Nat.le_of_ble_eq_true rfl⟩ rfl
    · obtain ⟨M4, v5⟩ := s
      show V _ _ M4 23 [some (.ref a0), some (.int x1), some (.int v1), some (.int v3), some (.int v5)] [] (s_X0_tryRemit_23 a0 x1 M4 v5) _
      unfold s_X0_tryRemit_23
      refine v_iload (q := 25) dX0_tryRemit_23 rfl rfl ?_
      refine v_bipush (q := 27) dX0_tryRemit_25 rfl bp_12 ?_
      refine v_icmp_ge (tgt := 83) (q := 30) dX0_tryRemit_27 rfl rfl ?_ ?_
      · exact v_inr (hx (M4, v5))
      · refine v_iload (q := 32) dX0_tryRemit_30 rfl rfl ?_
        refine v_aload_n (q := 33) dX0_tryRemit_32 rfl rfl rfl ?_
        refine v_getRb (q := 36) dX0_tryRemit_33 rfl fg_X0_27 (fun o6 => ?_)
        refine v_getIb (q := 39) dX0_tryRemit_36 rfl fg_X0_76 (fun v7 => ?_)
        refine v_icmp_ge (tgt := 83) (q := 42) dX0_tryRemit_39 rfl rfl ?_ ?_
        · exact v_inr (hx (M4, v5))
        · refine v_aload_n (q := 43) dX0_tryRemit_42 rfl rfl rfl ?_
          refine v_getRb (q := 46) dX0_tryRemit_43 rfl fg_X0_27 (fun o8 => ?_)
          refine v_getRb (q := 49) dX0_tryRemit_46 rfl fg_X0_156 (fun o9 => ?_)
          refine v_iload (q := 51) dX0_tryRemit_49 rfl rfl ?_
          refine v_aaload (q := 52) (t0 := 3) dX0_tryRemit_51 rfl (Nat.le_of_ble_eq_true rfl) (fun _ => rfl) (fun o10 => ?_)
          refine v_aload_n (q := 53) dX0_tryRemit_52 rfl rfl rfl ?_
          refine v_getRb (q := 56) dX0_tryRemit_53 rfl fg_X0_27 (fun o11 => ?_)
          refine v_getRb (q := 59) dX0_tryRemit_56 rfl fg_X0_156 (fun o12 => ?_)
          refine v_iload (q := 61) dX0_tryRemit_59 rfl rfl ?_
          refine v_aaload (q := 62) (t0 := 3) dX0_tryRemit_61 rfl (Nat.le_of_ble_eq_true rfl) (fun _ => rfl) (fun o13 => ?_)
          refine v_getIb (q := 65) dX0_tryRemit_62 rfl fg_X0_177 (fun v14 => ?_)
          refine v_iload_n (q := 66) dX0_tryRemit_65 rfl rfl rfl ?_
          refine v_join (γ := Int32) 74 (fun v15 => M4) (fun v15 => [some (.ref a0), some (.int x1), some (.int v1), some (.int v3), some (.int v5)]) (fun v15 => [.int v15, .ref o10]) (fun K hK => ?_) (fun v15 => ?_)
          · refine v_icmp_ne (tgt := 73) (q := 69) dX0_tryRemit_66 rfl rfl ?_ ?_
            · refine v_iconst (q := 74) dX0_tryRemit_73 rfl ic_0 ?_
              exact hK (0 : Int32)
            · refine v_iconst (q := 70) dX0_tryRemit_69 rfl ic_1 ?_
              refine v_goto (tgt := 74) dX0_tryRemit_70 rfl ?_
              exact hK (1 : Int32)
          · refine v_putZb (q := 77) dX0_tryRemit_74 rfl fp_X0_160 (fun M16 => ?_)
            refine v_iincL (q := 80) (x := v5) (cst := (1 : Int32)) (f := fun v17 => [some (.ref a0), some (.int x1), some (.int v1), some (.int v3), some (.int v17)]) dX0_tryRemit_77 rfl rfl ic_1 rfl (Nat.le_of_ble_eq_true rfl) (fun _ => rfl) (fun v17 => ?_)
            refine v_goto (tgt := 23) dX0_tryRemit_80 rfl ?_
            exact v_inl (hk (M16, v17))
  · refine v_iload_n (q := 11) dX0_tryRemit_10 rfl rfl rfl ?_
    exact v_iret rfl dX0_tryRemit_11 ⟨Nat.le_of_ble_eq_true rfl, Nat.le_of_ble_eq_true rfl⟩ rfl
theorem ct_X0_tryRemit (d : Nat) (hd : 2 ≤ d) (a0 : Nat) (x1 : Int32) (M : Me) (r : Int32) (M2 : Me) (hf : f_X0_tryRemit a0 x1 M = some (r, M2)) : me_k M a0 = some (0, nf_c 0) ∧ Ct yX0_tryRemit mX0_tryRemit d 0 0 [.ref a0, .int x1] M (some (.int r), M2) := by
  obtain ⟨hk, hb⟩ := ck_some hf
  exact ⟨hk, ct_of (by decide +kernel) rfl rfl (Nat.le_of_ble_eq_true rfl) (vb_X0_tryRemit d hd a0 x1 M) (by rw [hb]; rfl)⟩
theorem dX0_passDays_0 : decode cX0_passDays 0 = .ok (.iconst 0, 1) := by decide +kernel
theorem dX0_passDays_1 : decode cX0_passDays 1 = .ok (.istore_n 2, 1) := by decide +kernel
theorem dX0_passDays_2 : decode cX0_passDays 2 = .ok (.iload_n 2, 1) := by decide +kernel
theorem dX0_passDays_3 : decode cX0_passDays 3 = .ok (.bipush 12, 2) := by decide +kernel
theorem dX0_passDays_5 : decode cX0_passDays 5 = .ok (.if_icmp .ge 76, 3) := by decide +kernel
theorem dX0_passDays_8 : decode cX0_passDays 8 = .ok (.iload_n 2, 1) := by decide +kernel
theorem dX0_passDays_9 : decode cX0_passDays 9 = .ok (.aload_n 0, 1) := by decide +kernel
theorem dX0_passDays_10 : decode cX0_passDays 10 = .ok (.getfield 27, 3) := by decide +kernel
theorem dX0_passDays_13 : decode cX0_passDays 13 = .ok (.getfield 76, 3) := by decide +kernel
theorem dX0_passDays_16 : decode cX0_passDays 16 = .ok (.if_icmp .ge 65, 3) := by decide +kernel
theorem dX0_passDays_19 : decode cX0_passDays 19 = .ok (.aload_n 0, 1) := by decide +kernel
theorem dX0_passDays_20 : decode cX0_passDays 20 = .ok (.getfield 27, 3) := by decide +kernel
theorem dX0_passDays_23 : decode cX0_passDays 23 = .ok (.getfield 156, 3) := by decide +kernel
theorem dX0_passDays_26 : decode cX0_passDays 26 = .ok (.iload_n 2, 1) := by decide +kernel
theorem dX0_passDays_27 : decode cX0_passDays 27 = .ok (.aaload, 1) := by decide +kernel
theorem dX0_passDays_28 : decode cX0_passDays 28 = .ok (.astore_n 3, 1) := by decide +kernel
theorem dX0_passDays_29 : decode cX0_passDays 29 = .ok (.aload_n 3, 1) := by decide +kernel
theorem dX0_passDays_30 : decode cX0_passDays 30 = .ok (.getfield 176, 3) := by decide +kernel
theorem dX0_passDays_33 : decode cX0_passDays 33 = .ok (.aload_n 0, 1) := by decide +kernel
theorem dX0_passDays_34 : decode cX0_passDays 34 = .ok (.getfield 56, 3) := by decide +kernel
theorem dX0_passDays_37 : decode cX0_passDays 37 = .ok (.if_icmp .lt 38, 3) := by decide +kernel
theorem dX0_passDays_40 : decode cX0_passDays 40 = .ok (.aload_n 3, 1) := by decide +kernel
theorem dX0_passDays_41 : decode cX0_passDays 41 = .ok (.getfield 176, 3) := by decide +kernel
theorem dX0_passDays_44 : decode cX0_passDays 44 = .ok (.aload_n 0, 1) := by decide +kernel
theorem dX0_passDays_45 : decode cX0_passDays 45 = .ok (.getfield 56, 3) := by decide +kernel
theorem dX0_passDays_48 : decode cX0_passDays 48 = .ok (.iload_n 1, 1) := by decide +kernel
theorem dX0_passDays_49 : decode cX0_passDays 49 = .ok (.iadd, 1) := by decide +kernel
theorem dX0_passDays_50 : decode cX0_passDays 50 = .ok (.if_icmp .ge 25, 3) := by decide +kernel
theorem dX0_passDays_53 : decode cX0_passDays 53 = .ok (.aload_n 3, 1) := by decide +kernel
theorem dX0_passDays_54 : decode cX0_passDays 54 = .ok (.iconst 1, 1) := by decide +kernel
theorem dX0_passDays_55 : decode cX0_passDays 55 = .ok (.putfield 160, 3) := by decide +kernel
theorem dX0_passDays_58 : decode cX0_passDays 58 = .ok (.aload_n 0, 1) := by decide +kernel
theorem dX0_passDays_59 : decode cX0_passDays 59 = .ok (.aload_n 3, 1) := by decide +kernel
theorem dX0_passDays_60 : decode cX0_passDays 60 = .ok (.getfield 177, 3) := by decide +kernel
theorem dX0_passDays_63 : decode cX0_passDays 63 = .ok (.invokevirtual 101, 3) := by decide +kernel
theorem dX0_passDays_66 : decode cX0_passDays 66 = .ok (.dup, 1) := by decide +kernel
theorem dX0_passDays_67 : decode cX0_passDays 67 = .ok (.getfield 98, 3) := by decide +kernel
theorem dX0_passDays_70 : decode cX0_passDays 70 = .ok (.iconst 4, 1) := by decide +kernel
theorem dX0_passDays_71 : decode cX0_passDays 71 = .ok (.isub, 1) := by decide +kernel
theorem dX0_passDays_72 : decode cX0_passDays 72 = .ok (.putfield 98, 3) := by decide +kernel
theorem dX0_passDays_75 : decode cX0_passDays 75 = .ok (.iinc 2 1, 3) := by decide +kernel
theorem dX0_passDays_78 : decode cX0_passDays 78 = .ok (.goto (-76), 3) := by decide +kernel
theorem dX0_passDays_81 : decode cX0_passDays 81 = .ok (.aload_n 0, 1) := by decide +kernel
theorem dX0_passDays_82 : decode cX0_passDays 82 = .ok (.getfield 27, 3) := by decide +kernel
theorem dX0_passDays_85 : decode cX0_passDays 85 = .ok (.invokevirtual 121, 3) := by decide +kernel
theorem dX0_passDays_88 : decode cX0_passDays 88 = .ok (.iconst 0, 1) := by decide +kernel
theorem dX0_passDays_89 : decode cX0_passDays 89 = .ok (.istore_n 2, 1) := by decide +kernel
theorem dX0_passDays_90 : decode cX0_passDays 90 = .ok (.iload_n 2, 1) := by decide +kernel
theorem dX0_passDays_91 : decode cX0_passDays 91 = .ok (.bipush 6, 2) := by decide +kernel
theorem dX0_passDays_93 : decode cX0_passDays 93 = .ok (.if_icmp .ge 33, 3) := by decide +kernel
theorem dX0_passDays_96 : decode cX0_passDays 96 = .ok (.aload_n 0, 1) := by decide +kernel
theorem dX0_passDays_97 : decode cX0_passDays 97 = .ok (.getfield 20, 3) := by decide +kernel
theorem dX0_passDays_100 : decode cX0_passDays 100 = .ok (.iload_n 2, 1) := by decide +kernel
theorem dX0_passDays_101 : decode cX0_passDays 101 = .ok (.aaload, 1) := by decide +kernel
theorem dX0_passDays_102 : decode cX0_passDays 102 = .ok (.iconst 0, 1) := by decide +kernel
theorem dX0_passDays_103 : decode cX0_passDays 103 = .ok (.aload_n 0, 1) := by decide +kernel
theorem dX0_passDays_104 : decode cX0_passDays 104 = .ok (.getfield 20, 3) := by decide +kernel
theorem dX0_passDays_107 : decode cX0_passDays 107 = .ok (.iload_n 2, 1) := by decide +kernel
theorem dX0_passDays_108 : decode cX0_passDays 108 = .ok (.aaload, 1) := by decide +kernel
theorem dX0_passDays_109 : decode cX0_passDays 109 = .ok (.getfield 108, 3) := by decide +kernel
theorem dX0_passDays_112 : decode cX0_passDays 112 = .ok (.iload_n 1, 1) := by decide +kernel
theorem dX0_passDays_113 : decode cX0_passDays 113 = .ok (.isub, 1) := by decide +kernel
theorem dX0_passDays_114 : decode cX0_passDays 114 = .ok (.invokestatic 183, 3) := by decide +kernel
theorem dX0_passDays_117 : decode cX0_passDays 117 = .ok (.putfield 108, 3) := by decide +kernel
theorem dX0_passDays_120 : decode cX0_passDays 120 = .ok (.iinc 2 1, 3) := by decide +kernel
theorem dX0_passDays_123 : decode cX0_passDays 123 = .ok (.goto (-33), 3) := by decide +kernel
theorem dX0_passDays_126 : decode cX0_passDays 126 = .ok (.aload_n 0, 1) := by decide +kernel
theorem dX0_passDays_127 : decode cX0_passDays 127 = .ok (.dup, 1) := by decide +kernel
theorem dX0_passDays_128 : decode cX0_passDays 128 = .ok (.getfield 56, 3) := by decide +kernel
theorem dX0_passDays_131 : decode cX0_passDays 131 = .ok (.iload_n 1, 1) := by decide +kernel
theorem dX0_passDays_132 : decode cX0_passDays 132 = .ok (.iadd, 1) := by decide +kernel
theorem dX0_passDays_133 : decode cX0_passDays 133 = .ok (.putfield 56, 3) := by decide +kernel
theorem dX0_passDays_136 : decode cX0_passDays 136 = .ok (.return_, 1) := by decide +kernel
noncomputable def s_X0_passDays_2 (a0 : Nat) (x1 : Int32) (M1 : Me) (v2 : Int32) : Option ((Me × Int32) ⊕ (Me × Int32)) :=
  if (12 : Int32) ≤ v2 then (
    some (Sum.inr (M1, v2))
  ) else (
    gr M1 a0 0 2 fun o3 =>
    gi M1 o3 2 0 fun v4 =>
    if v4 ≤ v2 then (
      some (Sum.inr (M1, v2))
    ) else (
      gr M1 a0 0 2 fun o5 =>
      gr M1 o5 2 1 fun o6 =>
      lr M1 o6 23 v2 fun o7 =>
      gi M1 o7 1 3 fun v8 =>
      gi M1 a0 0 5 fun v9 =>
      (
        if v8 < v9 then (
          some M1
        ) else (
          gi M1 o7 1 3 fun v10 =>
          gi M1 a0 0 5 fun v11 =>
          if (v11 + x1) ≤ v10 then (
            some M1
          ) else (
            pz M1 o7 1 4 (1 : Int32) fun M12 =>
            gi M12 o7 1 1 fun v13 =>
            cR (f_X0_knightAt a0 v13 M12) fun o14 =>
            gi M12 o14 4 4 fun v15 =>
            pi M12 o14 4 4 (v15 - (4 : Int32)) fun M16 =>
            some M16
          )
        )
      ).bind fun M17 =>
      let_v (v2 + (1 : Int32)) fun v18 =>
      some (Sum.inl (M17, v18))
    )
  )
noncomputable def s_X0_passDays_90 (a0 : Nat) (x1 : Int32) (M22 : Me) (v23 : Int32) : Option ((Me × Int32) ⊕ (Me × Int32)) :=
  if (6 : Int32) ≤ v23 then (
    some (Sum.inr (M22, v23))
  ) else (
    gr M22 a0 0 1 fun o24 =>
    lr M22 o24 22 v23 fun o25 =>
    gr M22 a0 0 1 fun o26 =>
    lr M22 o26 22 v23 fun o27 =>
    gi M22 o27 4 6 fun v28 =>
    pi M22 o25 4 6 (mx_i (0 : Int32) (v28 - x1)) fun M29 =>
    let_v (v23 + (1 : Int32)) fun v30 =>
    some (Sum.inl (M29, v30))
  )
noncomputable def b_X0_passDays (a0 : Nat) (x1 : Int32) (M : Me) : Option (Me) :=
  (lp (fun s => s_X0_passDays_2 a0 x1 s.1 s.2) (M, (0 : Int32))).bind fun e19 =>
  gr e19.1 a0 0 2 fun o20 =>
  cM (f_X2_sweep o20 e19.1) fun M21 =>
  (lp (fun s => s_X0_passDays_90 a0 x1 s.1 s.2) (M21, (0 : Int32))).bind fun e31 =>
  gi e31.1 a0 0 5 fun v32 =>
  pi e31.1 a0 0 5 (v32 + x1) fun M33 =>
  some M33
noncomputable def f_X0_passDays (a0 : Nat) (x1 : Int32) (M : Me) : Option (Me) := ck M a0 0 (b_X0_passDays a0 x1 M)
set_option maxRecDepth 20000 in
theorem vb_X0_passDays (d : Nat) (hd : 1 ≤ d) (a0 : Nat) (x1 : Int32) (M : Me) : V (mX0_passDays, d, 0, 0) (0, 0) M 0 [some (.ref a0), some (.int x1), none, none] [] (b_X0_passDays a0 x1 M) (fun M2 => some (none, M2)) := by
  unfold b_X0_passDays
  refine v_iconst (q := 1) dX0_passDays_0 rfl ic_0 ?_
  refine v_istore_n (q := 2) (loc2 := [some (.ref a0), some (.int x1), some (.int (0 : Int32)), none]) dX0_passDays_1 rfl rfl rfl (Nat.le_of_ble_eq_true rfl) rfl ?_
  refine v_lps (S := Me × Int32) 81 (fun s => s.1) (fun s => [some (.ref a0), some (.int x1), some (.int s.2), none]) (fun e19 => e19.1) (fun e19 => [some (.ref a0), some (.int x1), some (.int e19.2), none]) (fun e19 => ?_) (fun k K hk hx s => ?_)
  · refine v_aload_n (q := 82) dX0_passDays_81 rfl rfl rfl ?_
    refine v_getRb (q := 85) dX0_passDays_82 rfl fg_X0_27 (fun o20 => ?_)
    refine v_cMV0 (q := 88) (ct_X2_sweep (d - 1) (by omega) _ _) dX0_passDays_85 rfl cc_X0_121 (by omega) (Nat.le_of_ble_eq_true rfl) ⟨Nat.le_of_ble_eq_true rfl, Nat.le_of_ble_eq_true rfl⟩ (fun M21 => ?_)
    refine v_iconst (q := 89) dX0_passDays_88 rfl ic_0 ?_
    refine v_istore_n (q := 90) (loc2 := [some (.ref a0), some (.int x1), some (.int (0 : Int32)), none]) dX0_passDays_89 rfl rfl rfl (Nat.le_of_ble_eq_true rfl) rfl ?_
    refine v_lps (S := Me × Int32) 126 (fun s => s.1) (fun s => [some (.ref a0), some (.int x1), some (.int s.2), none]) (fun e31 => e31.1) (fun e31 => [some (.ref a0), some (.int x1), some (.int e31.2), none]) (fun e31 => ?_) (fun k K hk hx s => ?_)
    · refine v_aload_n (q := 127) dX0_passDays_126 rfl rfl rfl ?_
      refine v_dup (q := 128) dX0_passDays_127 rfl rfl ?_
      refine v_getIb (q := 131) dX0_passDays_128 rfl fg_X0_56 (fun v32 => ?_)
      refine v_iload_n (q := 132) dX0_passDays_131 rfl rfl rfl ?_
      refine v_iadd (q := 133) dX0_passDays_132 rfl ?_
      refine v_putIb (q := 136) dX0_passDays_133 rfl fp_X0_56 (fun M33 => ?_)
      exact v_vret rfl dX0_passDays_136 ⟨Nat.le_of_ble_eq_true rfl, Nat.le_of_ble_eq_true rfl⟩ rfl
    · obtain ⟨M22, v23⟩ := s
      show V _ _ M22 90 [some (.ref a0), some (.int x1), some (.int v23), none] [] (s_X0_passDays_90 a0 x1 M22 v23) _
      unfold s_X0_passDays_90
      refine v_iload_n (q := 91) dX0_passDays_90 rfl rfl rfl ?_
      refine v_bipush (q := 93) dX0_passDays_91 rfl bp_6 ?_
      refine v_icmp_ge (tgt := 126) (q := 96) dX0_passDays_93 rfl rfl ?_ ?_
      · exact v_inr (hx (M22, v23))
      · refine v_aload_n (q := 97) dX0_passDays_96 rfl rfl rfl ?_
        refine v_getRb (q := 100) dX0_passDays_97 rfl fg_X0_20 (fun o24 => ?_)
        refine v_iload_n (q := 101) dX0_passDays_100 rfl rfl rfl ?_
        refine v_aaload (q := 102) (t0 := 2) dX0_passDays_101 rfl (Nat.le_of_ble_eq_true rfl) (fun _ => rfl) (fun o25 => ?_)
        refine v_iconst (q := 103) dX0_passDays_102 rfl ic_0 ?_
        refine v_aload_n (q := 104) dX0_passDays_103 rfl rfl rfl ?_
        refine v_getRb (q := 107) dX0_passDays_104 rfl fg_X0_20 (fun o26 => ?_)
        refine v_iload_n (q := 108) dX0_passDays_107 rfl rfl rfl ?_
        refine v_aaload (q := 109) (t0 := 2) dX0_passDays_108 rfl (Nat.le_of_ble_eq_true rfl) (fun _ => rfl) (fun o27 => ?_)
        refine v_getIb (q := 112) dX0_passDays_109 rfl fg_X0_108 (fun v28 => ?_)
        refine v_iload_n (q := 113) dX0_passDays_112 rfl rfl rfl ?_
        refine v_isub (q := 114) dX0_passDays_113 rfl ?_
        refine v_mx_i (q := 117) dX0_passDays_114 rfl cc_X0_183 (by show 1 ≤ d; omega) (Nat.le_of_ble_eq_true rfl) ⟨Nat.le_of_ble_eq_true rfl, Nat.le_of_ble_eq_true rfl⟩ ?_
        refine v_putIb (q := 120) dX0_passDays_117 rfl fp_X0_108 (fun M29 => ?_)
        refine v_iincL (q := 123) (x := v23) (cst := (1 : Int32)) (f := fun v30 => [some (.ref a0), some (.int x1), some (.int v30), none]) dX0_passDays_120 rfl rfl ic_1 rfl (Nat.le_of_ble_eq_true rfl) (fun _ => rfl) (fun v30 => ?_)
        refine v_goto (tgt := 90) dX0_passDays_123 rfl ?_
        exact v_inl (hk (M29, v30))
  · obtain ⟨M1, v2⟩ := s
    show V _ _ M1 2 [some (.ref a0), some (.int x1), some (.int v2), none] [] (s_X0_passDays_2 a0 x1 M1 v2) _
    unfold s_X0_passDays_2
    refine v_iload_n (q := 3) dX0_passDays_2 rfl rfl rfl ?_
    refine v_bipush (q := 5) dX0_passDays_3 rfl bp_12 ?_
    refine v_icmp_ge (tgt := 81) (q := 8) dX0_passDays_5 rfl rfl ?_ ?_
    · exact v_inr (hx (M1, v2))
    · refine v_iload_n (q := 9) dX0_passDays_8 rfl rfl rfl ?_
      refine v_aload_n (q := 10) dX0_passDays_9 rfl rfl rfl ?_
      refine v_getRb (q := 13) dX0_passDays_10 rfl fg_X0_27 (fun o3 => ?_)
      refine v_getIb (q := 16) dX0_passDays_13 rfl fg_X0_76 (fun v4 => ?_)
      refine v_icmp_ge (tgt := 81) (q := 19) dX0_passDays_16 rfl rfl ?_ ?_
      · exact v_inr (hx (M1, v2))
      · refine v_aload_n (q := 20) dX0_passDays_19 rfl rfl rfl ?_
        refine v_getRb (q := 23) dX0_passDays_20 rfl fg_X0_27 (fun o5 => ?_)
        refine v_getRb (q := 26) dX0_passDays_23 rfl fg_X0_156 (fun o6 => ?_)
        refine v_iload_n (q := 27) dX0_passDays_26 rfl rfl rfl ?_
        refine v_aaload (q := 28) (t0 := 3) dX0_passDays_27 rfl (Nat.le_of_ble_eq_true rfl) (fun _ => rfl) (fun o7 => ?_)
        refine v_astore_n (q := 29) (loc2 := [some (.ref a0), some (.int x1), some (.int v2), some (.ref o7)]) dX0_passDays_28 rfl rfl rfl (Nat.le_of_ble_eq_true rfl) rfl ?_
        refine v_aload_n (q := 30) dX0_passDays_29 rfl rfl rfl ?_
        refine v_getIb (q := 33) dX0_passDays_30 rfl fg_X0_176 (fun v8 => ?_)
        refine v_aload_n (q := 34) dX0_passDays_33 rfl rfl rfl ?_
        refine v_getIb (q := 37) dX0_passDays_34 rfl fg_X0_56 (fun v9 => ?_)
        refine v_join (γ := Me) 75 (fun M17 => M17) (fun M17 => [some (.ref a0), some (.int x1), some (.int v2), some (.ref o7)]) (fun M17 => []) (fun K hK => ?_) (fun M17 => ?_)
        · refine v_icmp_lt (tgt := 75) (q := 40) dX0_passDays_37 rfl rfl ?_ ?_
          · exact hK M1
          · refine v_aload_n (q := 41) dX0_passDays_40 rfl rfl rfl ?_
            refine v_getIb (q := 44) dX0_passDays_41 rfl fg_X0_176 (fun v10 => ?_)
            refine v_aload_n (q := 45) dX0_passDays_44 rfl rfl rfl ?_
            refine v_getIb (q := 48) dX0_passDays_45 rfl fg_X0_56 (fun v11 => ?_)
            refine v_iload_n (q := 49) dX0_passDays_48 rfl rfl rfl ?_
            refine v_iadd (q := 50) dX0_passDays_49 rfl ?_
            refine v_icmp_ge (tgt := 75) (q := 53) dX0_passDays_50 rfl rfl ?_ ?_
            · exact hK M1
            · refine v_aload_n (q := 54) dX0_passDays_53 rfl rfl rfl ?_
              refine v_iconst (q := 55) dX0_passDays_54 rfl ic_1 ?_
              refine v_putZb (q := 58) dX0_passDays_55 rfl fp_X0_160 (fun M12 => ?_)
              refine v_aload_n (q := 59) dX0_passDays_58 rfl rfl rfl ?_
              refine v_aload_n (q := 60) dX0_passDays_59 rfl rfl rfl ?_
              refine v_getIb (q := 63) dX0_passDays_60 rfl fg_X0_177 (fun v13 => ?_)
              refine v_cRV1 (q := 66) (ct_X0_knightAt (d - 1) (by omega) _ _ _) dX0_passDays_63 rfl cc_X0_101 (by omega) (Nat.le_of_ble_eq_true rfl) ⟨Nat.le_of_ble_eq_true rfl, Nat.le_of_ble_eq_true rfl⟩ (fun o14 => ?_)
              refine v_dup (q := 67) dX0_passDays_66 rfl rfl ?_
              refine v_getIb (q := 70) dX0_passDays_67 rfl fg_X0_98 (fun v15 => ?_)
              refine v_iconst (q := 71) dX0_passDays_70 rfl ic_4 ?_
              refine v_isub (q := 72) dX0_passDays_71 rfl ?_
              refine v_putIb (q := 75) dX0_passDays_72 rfl fp_X0_98 (fun M16 => ?_)
              exact hK M16
        · refine v_iincL (q := 78) (x := v2) (cst := (1 : Int32)) (f := fun v18 => [some (.ref a0), some (.int x1), some (.int v18), some (.ref o7)]) dX0_passDays_75 rfl rfl ic_1 rfl (Nat.le_of_ble_eq_true rfl) (fun _ => rfl) (fun v18 => ?_)
          refine v_goto (tgt := 2) dX0_passDays_78 rfl ?_
          exact v_inl (v_weak (hk (M17, v18)) ⟨rfl, ⟨rfl, ⟨rfl, trivial⟩⟩⟩)
theorem ct_X0_passDays (d : Nat) (hd : 1 ≤ d) (a0 : Nat) (x1 : Int32) (M : Me) (r : Me) (hf : f_X0_passDays a0 x1 M = some r) : me_k M a0 = some (0, nf_c 0) ∧ Ct yX0_passDays mX0_passDays d 0 0 [.ref a0, .int x1] M (none, r) := by
  obtain ⟨hk, hb⟩ := ck_some hf
  exact ⟨hk, ct_of (by decide +kernel) rfl rfl (Nat.le_of_ble_eq_true rfl) (vb_X0_passDays d hd a0 x1 M) (by rw [hb]; rfl)⟩
theorem dX1_tell_0 : decode cX1_tell 0 = .ok (.iload_n 1, 1) := by decide +kernel
theorem dX1_tell_1 : decode cX1_tell 1 = .ok (.tableswitch 42 0 2 #[27, 32, 37], 27) := by decide +kernel
theorem dX1_tell_28 : decode cX1_tell 28 = .ok (.aload_n 0, 1) := by decide +kernel
theorem dX1_tell_29 : decode cX1_tell 29 = .ok (.getfield 7, 3) := by decide +kernel
theorem dX1_tell_32 : decode cX1_tell 32 = .ok (.ireturn, 1) := by decide +kernel
theorem dX1_tell_33 : decode cX1_tell 33 = .ok (.aload_n 0, 1) := by decide +kernel
theorem dX1_tell_34 : decode cX1_tell 34 = .ok (.getfield 13, 3) := by decide +kernel
theorem dX1_tell_37 : decode cX1_tell 37 = .ok (.ireturn, 1) := by decide +kernel
theorem dX1_tell_38 : decode cX1_tell 38 = .ok (.aload_n 0, 1) := by decide +kernel
theorem dX1_tell_39 : decode cX1_tell 39 = .ok (.getfield 16, 3) := by decide +kernel
theorem dX1_tell_42 : decode cX1_tell 42 = .ok (.ireturn, 1) := by decide +kernel
theorem dX1_tell_43 : decode cX1_tell 43 = .ok (.aload_n 0, 1) := by decide +kernel
theorem dX1_tell_44 : decode cX1_tell 44 = .ok (.getfield 19, 3) := by decide +kernel
theorem dX1_tell_47 : decode cX1_tell 47 = .ok (.ireturn, 1) := by decide +kernel
noncomputable def b_X1_tell (a0 : Nat) (x1 : Int32) (M : Me) : Option (Int32) :=
  if x1 = (0 : Int32) then (
    gi M a0 1 0 fun v1 =>
    some v1
  ) else (
    if x1 = (1 : Int32) then (
      gi M a0 1 1 fun v2 =>
      some v2
    ) else (
      if x1 = (2 : Int32) then (
        gi M a0 1 2 fun v3 =>
        some v3
      ) else (
        gi M a0 1 3 fun v4 =>
        some v4
      )
    )
  )
noncomputable def f_X1_tell (a0 : Nat) (x1 : Int32) (M : Me) : Option (Int32) := ck M a0 1 (b_X1_tell a0 x1 M)
set_option maxRecDepth 20000 in
theorem vb_X1_tell (d : Nat) (hd : 0 ≤ d) (a0 : Nat) (x1 : Int32) (M : Me) : V (mX1_tell, d, 0, 0) (0, 0) M 0 [some (.ref a0), some (.int x1)] [] (b_X1_tell a0 x1 M) (fun z => some (some (.int z), M)) := by
  unfold b_X1_tell
  refine v_iload_n (q := 1) dX1_tell_0 rfl rfl rfl ?_
  refine v_ite (fun h0 => ?_) (fun h0 => ?_)
  · refine v_tbl_in (cst := (0 : Int32)) (off := 27) (tgt := 28) dX1_tell_1 h0 (by decide) (by decide) (by decide) rfl ?_
    refine v_aload_n (q := 29) dX1_tell_28 rfl rfl rfl ?_
    refine v_getIb (q := 32) dX1_tell_29 rfl fg_X1_7 (fun v1 => ?_)
    exact v_iret rfl dX1_tell_32 ⟨Nat.le_of_ble_eq_true rfl, Nat.le_of_ble_eq_true rfl⟩ rfl
  · refine v_ite (fun h1 => ?_) (fun h1 => ?_)
    · refine v_tbl_in (cst := (1 : Int32)) (off := 32) (tgt := 33) dX1_tell_1 h1 (by decide) (by decide) (by decide) rfl ?_
      refine v_aload_n (q := 34) dX1_tell_33 rfl rfl rfl ?_
      refine v_getIb (q := 37) dX1_tell_34 rfl fg_X1_13 (fun v2 => ?_)
      exact v_iret rfl dX1_tell_37 ⟨Nat.le_of_ble_eq_true rfl, Nat.le_of_ble_eq_true rfl⟩ rfl
    · refine v_ite (fun h2 => ?_) (fun h2 => ?_)
      · refine v_tbl_in (cst := (2 : Int32)) (off := 37) (tgt := 38) dX1_tell_1 h2 (by decide) (by decide) (by decide) rfl ?_
        refine v_aload_n (q := 39) dX1_tell_38 rfl rfl rfl ?_
        refine v_getIb (q := 42) dX1_tell_39 rfl fg_X1_16 (fun v3 => ?_)
        exact v_iret rfl dX1_tell_42 ⟨Nat.le_of_ble_eq_true rfl, Nat.le_of_ble_eq_true rfl⟩ rfl
      · refine v_tbl_out (tgt := 43) dX1_tell_1 (by have q0 := lv_neT h0 (a := 0) (by decide); have q1 := lv_neT h1 (a := 1) (by decide); have q2 := lv_neT h2 (a := 2) (by decide); omega) rfl ?_
        refine v_aload_n (q := 44) dX1_tell_43 rfl rfl rfl ?_
        refine v_getIb (q := 47) dX1_tell_44 rfl fg_X1_19 (fun v4 => ?_)
        exact v_iret rfl dX1_tell_47 ⟨Nat.le_of_ble_eq_true rfl, Nat.le_of_ble_eq_true rfl⟩ rfl
theorem ct_X1_tell (d : Nat) (hd : 0 ≤ d) (a0 : Nat) (x1 : Int32) (M : Me) (r : Int32) (hf : f_X1_tell a0 x1 M = some r) : me_k M a0 = some (1, nf_c 1) ∧ Ct yX1_tell mX1_tell d 0 0 [.ref a0, .int x1] M (some (.int r), M) := by
  obtain ⟨hk, hb⟩ := ck_some hf
  exact ⟨hk, ct_of (by decide +kernel) rfl rfl (Nat.le_of_ble_eq_true rfl) (vb_X1_tell d hd a0 x1 M) (by rw [hb]; rfl)⟩
theorem dX2_inherit_0 : decode cX2_inherit 0 = .ok (.iconst 0, 1) := by decide +kernel
theorem dX2_inherit_1 : decode cX2_inherit 1 = .ok (.istore_n 3, 1) := by decide +kernel
theorem dX2_inherit_2 : decode cX2_inherit 2 = .ok (.iload_n 3, 1) := by decide +kernel
theorem dX2_inherit_3 : decode cX2_inherit 3 = .ok (.bipush 12, 2) := by decide +kernel
theorem dX2_inherit_5 : decode cX2_inherit 5 = .ok (.if_icmp .ge 132, 3) := by decide +kernel
theorem dX2_inherit_8 : decode cX2_inherit 8 = .ok (.iload_n 3, 1) := by decide +kernel
theorem dX2_inherit_9 : decode cX2_inherit 9 = .ok (.aload_n 0, 1) := by decide +kernel
theorem dX2_inherit_10 : decode cX2_inherit 10 = .ok (.getfield 18, 3) := by decide +kernel
theorem dX2_inherit_13 : decode cX2_inherit 13 = .ok (.if_icmp .ge 124, 3) := by decide +kernel
theorem dX2_inherit_16 : decode cX2_inherit 16 = .ok (.aload_n 0, 1) := by decide +kernel
theorem dX2_inherit_17 : decode cX2_inherit 17 = .ok (.getfield 11, 3) := by decide +kernel
theorem dX2_inherit_20 : decode cX2_inherit 20 = .ok (.iload_n 3, 1) := by decide +kernel
theorem dX2_inherit_21 : decode cX2_inherit 21 = .ok (.aaload, 1) := by decide +kernel
theorem dX2_inherit_22 : decode cX2_inherit 22 = .ok (.astore 4, 2) := by decide +kernel
theorem dX2_inherit_24 : decode cX2_inherit 24 = .ok (.aload 4, 2) := by decide +kernel
theorem dX2_inherit_26 : decode cX2_inherit 26 = .ok (.getfield 22, 3) := by decide +kernel
theorem dX2_inherit_29 : decode cX2_inherit 29 = .ok (.iload_n 1, 1) := by decide +kernel
theorem dX2_inherit_30 : decode cX2_inherit 30 = .ok (.if_icmp .eq 12, 3) := by decide +kernel
theorem dX2_inherit_33 : decode cX2_inherit 33 = .ok (.aload 4, 2) := by decide +kernel
theorem dX2_inherit_35 : decode cX2_inherit 35 = .ok (.getfield 25, 3) := by decide +kernel
theorem dX2_inherit_38 : decode cX2_inherit 38 = .ok (.iload_n 1, 1) := by decide +kernel
theorem dX2_inherit_39 : decode cX2_inherit 39 = .ok (.if_icmp .ne 92, 3) := by decide +kernel
theorem dX2_inherit_42 : decode cX2_inherit 42 = .ok (.aload 4, 2) := by decide +kernel
theorem dX2_inherit_44 : decode cX2_inherit 44 = .ok (.aload 4, 2) := by decide +kernel
theorem dX2_inherit_46 : decode cX2_inherit 46 = .ok (.getfield 22, 3) := by decide +kernel
theorem dX2_inherit_49 : decode cX2_inherit 49 = .ok (.iload_n 1, 1) := by decide +kernel
theorem dX2_inherit_50 : decode cX2_inherit 50 = .ok (.if_icmp .ne 7, 3) := by decide +kernel
theorem dX2_inherit_53 : decode cX2_inherit 53 = .ok (.iload_n 2, 1) := by decide +kernel
theorem dX2_inherit_54 : decode cX2_inherit 54 = .ok (.goto 8, 3) := by decide +kernel
theorem dX2_inherit_57 : decode cX2_inherit 57 = .ok (.aload 4, 2) := by decide +kernel
theorem dX2_inherit_59 : decode cX2_inherit 59 = .ok (.getfield 22, 3) := by decide +kernel
theorem dX2_inherit_62 : decode cX2_inherit 62 = .ok (.putfield 22, 3) := by decide +kernel
theorem dX2_inherit_65 : decode cX2_inherit 65 = .ok (.aload 4, 2) := by decide +kernel
theorem dX2_inherit_67 : decode cX2_inherit 67 = .ok (.aload 4, 2) := by decide +kernel
theorem dX2_inherit_69 : decode cX2_inherit 69 = .ok (.getfield 25, 3) := by decide +kernel
theorem dX2_inherit_72 : decode cX2_inherit 72 = .ok (.iload_n 1, 1) := by decide +kernel
theorem dX2_inherit_73 : decode cX2_inherit 73 = .ok (.if_icmp .ne 7, 3) := by decide +kernel
theorem dX2_inherit_76 : decode cX2_inherit 76 = .ok (.iload_n 2, 1) := by decide +kernel
theorem dX2_inherit_77 : decode cX2_inherit 77 = .ok (.goto 8, 3) := by decide +kernel
theorem dX2_inherit_80 : decode cX2_inherit 80 = .ok (.aload 4, 2) := by decide +kernel
theorem dX2_inherit_82 : decode cX2_inherit 82 = .ok (.getfield 25, 3) := by decide +kernel
theorem dX2_inherit_85 : decode cX2_inherit 85 = .ok (.putfield 25, 3) := by decide +kernel
theorem dX2_inherit_88 : decode cX2_inherit 88 = .ok (.aload 4, 2) := by decide +kernel
theorem dX2_inherit_90 : decode cX2_inherit 90 = .ok (.aload 4, 2) := by decide +kernel
theorem dX2_inherit_92 : decode cX2_inherit 92 = .ok (.getfield 28, 3) := by decide +kernel
theorem dX2_inherit_95 : decode cX2_inherit 95 = .ok (.iconst 2, 1) := by decide +kernel
theorem dX2_inherit_96 : decode cX2_inherit 96 = .ok (.idiv, 1) := by decide +kernel
theorem dX2_inherit_97 : decode cX2_inherit 97 = .ok (.putfield 28, 3) := by decide +kernel
theorem dX2_inherit_100 : decode cX2_inherit 100 = .ok (.aload 4, 2) := by decide +kernel
theorem dX2_inherit_102 : decode cX2_inherit 102 = .ok (.aload 4, 2) := by decide +kernel
theorem dX2_inherit_104 : decode cX2_inherit 104 = .ok (.getfield 28, 3) := by decide +kernel
theorem dX2_inherit_107 : decode cX2_inherit 107 = .ok (.ifCond .eq 16, 3) := by decide +kernel
theorem dX2_inherit_110 : decode cX2_inherit 110 = .ok (.aload 4, 2) := by decide +kernel
theorem dX2_inherit_112 : decode cX2_inherit 112 = .ok (.getfield 22, 3) := by decide +kernel
theorem dX2_inherit_115 : decode cX2_inherit 115 = .ok (.aload 4, 2) := by decide +kernel
theorem dX2_inherit_117 : decode cX2_inherit 117 = .ok (.getfield 25, 3) := by decide +kernel
theorem dX2_inherit_120 : decode cX2_inherit 120 = .ok (.if_icmp .ne 7, 3) := by decide +kernel
theorem dX2_inherit_123 : decode cX2_inherit 123 = .ok (.iconst 1, 1) := by decide +kernel
theorem dX2_inherit_124 : decode cX2_inherit 124 = .ok (.goto 4, 3) := by decide +kernel
theorem dX2_inherit_127 : decode cX2_inherit 127 = .ok (.iconst 0, 1) := by decide +kernel
theorem dX2_inherit_128 : decode cX2_inherit 128 = .ok (.putfield 38, 3) := by decide +kernel
theorem dX2_inherit_131 : decode cX2_inherit 131 = .ok (.iinc 3 1, 3) := by decide +kernel
theorem dX2_inherit_134 : decode cX2_inherit 134 = .ok (.goto (-132), 3) := by decide +kernel
theorem dX2_inherit_137 : decode cX2_inherit 137 = .ok (.aload_n 0, 1) := by decide +kernel
theorem dX2_inherit_138 : decode cX2_inherit 138 = .ok (.invokevirtual 42, 3) := by decide +kernel
theorem dX2_inherit_141 : decode cX2_inherit 141 = .ok (.return_, 1) := by decide +kernel
noncomputable def s_X2_inherit_2 (a0 : Nat) (x1 : Int32) (x2 : Int32) (M1 : Me) (v2 : Int32) : Option ((Me × Int32) ⊕ (Me × Int32)) :=
  if (12 : Int32) ≤ v2 then (
    some (Sum.inr (M1, v2))
  ) else (
    gi M1 a0 2 0 fun v3 =>
    if v3 ≤ v2 then (
      some (Sum.inr (M1, v2))
    ) else (
      gr M1 a0 2 1 fun o4 =>
      lr M1 o4 23 v2 fun o5 =>
      gi M1 o5 1 0 fun v6 =>
      (
        if v6 = x1 then (
          gi M1 o5 1 0 fun v7 =>
          (
            if v7 = x1 then (
              some x2
            ) else (
              gi M1 o5 1 0 fun v8 =>
              some v8
            )
          ).bind fun v9 =>
          pi M1 o5 1 0 v9 fun M10 =>
          gi M10 o5 1 1 fun v11 =>
          (
            if v11 = x1 then (
              some x2
            ) else (
              gi M10 o5 1 1 fun v12 =>
              some v12
            )
          ).bind fun v13 =>
          pi M10 o5 1 1 v13 fun M14 =>
          gi M14 o5 1 2 fun v15 =>
          pi M14 o5 1 2 (v15 / (2 : Int32)) fun M16 =>
          gi M16 o5 1 2 fun v17 =>
          (
            if v17 = 0 then (
              some (1 : Int32)
            ) else (
              gi M16 o5 1 0 fun v18 =>
              gi M16 o5 1 1 fun v19 =>
              if v18 = v19 then (
                some (1 : Int32)
              ) else (
                some (0 : Int32)
              )
            )
          ).bind fun v20 =>
          pz M16 o5 1 4 v20 fun M21 =>
          some M21
        ) else (
          gi M1 o5 1 1 fun v22 =>
          if v22 = x1 then (
            gi M1 o5 1 0 fun v23 =>
            (
              if v23 = x1 then (
                some x2
              ) else (
                gi M1 o5 1 0 fun v24 =>
                some v24
              )
            ).bind fun v25 =>
            pi M1 o5 1 0 v25 fun M26 =>
            gi M26 o5 1 1 fun v27 =>
            (
              if v27 = x1 then (
                some x2
              ) else (
                gi M26 o5 1 1 fun v28 =>
                some v28
              )
            ).bind fun v29 =>
            pi M26 o5 1 1 v29 fun M30 =>
            gi M30 o5 1 2 fun v31 =>
            pi M30 o5 1 2 (v31 / (2 : Int32)) fun M32 =>
            gi M32 o5 1 2 fun v33 =>
            (
              if v33 = 0 then (
                some (1 : Int32)
              ) else (
                gi M32 o5 1 0 fun v34 =>
                gi M32 o5 1 1 fun v35 =>
                if v34 = v35 then (
                  some (1 : Int32)
                ) else (
                  some (0 : Int32)
                )
              )
            ).bind fun v36 =>
            pz M32 o5 1 4 v36 fun M37 =>
            some M37
          ) else (
            some M1
          )
        )
      ).bind fun M38 =>
      let_v (v2 + (1 : Int32)) fun v39 =>
      some (Sum.inl (M38, v39))
    )
  )
noncomputable def b_X2_inherit (a0 : Nat) (x1 : Int32) (x2 : Int32) (M : Me) : Option (Me) :=
  (lp (fun s => s_X2_inherit_2 a0 x1 x2 s.1 s.2) (M, (0 : Int32))).bind fun e40 =>
  cM (f_X2_sweep a0 e40.1) fun M41 =>
  some M41
noncomputable def f_X2_inherit (a0 : Nat) (x1 : Int32) (x2 : Int32) (M : Me) : Option (Me) := ck M a0 2 (b_X2_inherit a0 x1 x2 M)
set_option maxRecDepth 20000 in
theorem vb_X2_inherit (d : Nat) (hd : 1 ≤ d) (a0 : Nat) (x1 : Int32) (x2 : Int32) (M : Me) : V (mX2_inherit, d, 0, 0) (0, 0) M 0 [some (.ref a0), some (.int x1), some (.int x2), none, none] [] (b_X2_inherit a0 x1 x2 M) (fun M2 => some (none, M2)) := by
  unfold b_X2_inherit
  refine v_iconst (q := 1) dX2_inherit_0 rfl ic_0 ?_
  refine v_istore_n (q := 2) (loc2 := [some (.ref a0), some (.int x1), some (.int x2), some (.int (0 : Int32)), none]) dX2_inherit_1 rfl rfl rfl (Nat.le_of_ble_eq_true rfl) rfl ?_
  refine v_lps (S := Me × Int32) 137 (fun s => s.1) (fun s => [some (.ref a0), some (.int x1), some (.int x2), some (.int s.2), none]) (fun e40 => e40.1) (fun e40 => [some (.ref a0), some (.int x1), some (.int x2), some (.int e40.2), none]) (fun e40 => ?_) (fun k K hk hx s => ?_)
  · refine v_aload_n (q := 138) dX2_inherit_137 rfl rfl rfl ?_
    refine v_cMV0 (q := 141) (ct_X2_sweep (d - 1) (by omega) _ _) dX2_inherit_138 rfl cc_X2_42 (by omega) (Nat.le_of_ble_eq_true rfl) ⟨Nat.le_of_ble_eq_true rfl, Nat.le_of_ble_eq_true rfl⟩ (fun M41 => ?_)
    exact v_vret rfl dX2_inherit_141 ⟨Nat.le_of_ble_eq_true rfl, Nat.le_of_ble_eq_true rfl⟩ rfl
  · obtain ⟨M1, v2⟩ := s
    show V _ _ M1 2 [some (.ref a0), some (.int x1), some (.int x2), some (.int v2), none] [] (s_X2_inherit_2 a0 x1 x2 M1 v2) _
    unfold s_X2_inherit_2
    refine v_iload_n (q := 3) dX2_inherit_2 rfl rfl rfl ?_
    refine v_bipush (q := 5) dX2_inherit_3 rfl bp_12 ?_
    refine v_icmp_ge (tgt := 137) (q := 8) dX2_inherit_5 rfl rfl ?_ ?_
    · exact v_inr (hx (M1, v2))
    · refine v_iload_n (q := 9) dX2_inherit_8 rfl rfl rfl ?_
      refine v_aload_n (q := 10) dX2_inherit_9 rfl rfl rfl ?_
      refine v_getIb (q := 13) dX2_inherit_10 rfl fg_X2_18 (fun v3 => ?_)
      refine v_icmp_ge (tgt := 137) (q := 16) dX2_inherit_13 rfl rfl ?_ ?_
      · exact v_inr (hx (M1, v2))
      · refine v_aload_n (q := 17) dX2_inherit_16 rfl rfl rfl ?_
        refine v_getRb (q := 20) dX2_inherit_17 rfl fg_X2_11 (fun o4 => ?_)
        refine v_iload_n (q := 21) dX2_inherit_20 rfl rfl rfl ?_
        refine v_aaload (q := 22) (t0 := 3) dX2_inherit_21 rfl (Nat.le_of_ble_eq_true rfl) (fun _ => rfl) (fun o5 => ?_)
        refine v_astore (q := 24) (loc2 := [some (.ref a0), some (.int x1), some (.int x2), some (.int v2), some (.ref o5)]) dX2_inherit_22 rfl rfl (Nat.le_of_ble_eq_true rfl) rfl ?_
        refine v_aload (q := 26) dX2_inherit_24 rfl rfl ?_
        refine v_getIb (q := 29) dX2_inherit_26 rfl fg_X2_22 (fun v6 => ?_)
        refine v_iload_n (q := 30) dX2_inherit_29 rfl rfl rfl ?_
        refine v_join (γ := Me) 131 (fun M38 => M38) (fun M38 => [some (.ref a0), some (.int x1), some (.int x2), some (.int v2), some (.ref o5)]) (fun M38 => []) (fun K hK => ?_) (fun M38 => ?_)
        · refine v_icmp_eq (tgt := 42) (q := 33) dX2_inherit_30 rfl rfl ?_ ?_
          · refine v_aload (q := 44) dX2_inherit_42 rfl rfl ?_
            refine v_aload (q := 46) dX2_inherit_44 rfl rfl ?_
            refine v_getIb (q := 49) dX2_inherit_46 rfl fg_X2_22 (fun v7 => ?_)
            refine v_iload_n (q := 50) dX2_inherit_49 rfl rfl rfl ?_
            refine v_join (γ := Int32) 62 (fun v9 => M1) (fun v9 => [some (.ref a0), some (.int x1), some (.int x2), some (.int v2), some (.ref o5)]) (fun v9 => [.int v9, .ref o5]) (fun K hK => ?_) (fun v9 => ?_)
            · refine v_icmp_ne (tgt := 57) (q := 53) dX2_inherit_50 rfl rfl ?_ ?_
              · refine v_aload (q := 59) dX2_inherit_57 rfl rfl ?_
                refine v_getIb (q := 62) dX2_inherit_59 rfl fg_X2_22 (fun v8 => ?_)
                exact hK v8
              · refine v_iload_n (q := 54) dX2_inherit_53 rfl rfl rfl ?_
                refine v_goto (tgt := 62) dX2_inherit_54 rfl ?_
                exact hK x2
            · refine v_putIb (q := 65) dX2_inherit_62 rfl fp_X2_22 (fun M10 => ?_)
              refine v_aload (q := 67) dX2_inherit_65 rfl rfl ?_
              refine v_aload (q := 69) dX2_inherit_67 rfl rfl ?_
              refine v_getIb (q := 72) dX2_inherit_69 rfl fg_X2_25 (fun v11 => ?_)
              refine v_iload_n (q := 73) dX2_inherit_72 rfl rfl rfl ?_
              refine v_join (γ := Int32) 85 (fun v13 => M10) (fun v13 => [some (.ref a0), some (.int x1), some (.int x2), some (.int v2), some (.ref o5)]) (fun v13 => [.int v13, .ref o5]) (fun K hK => ?_) (fun v13 => ?_)
              · refine v_icmp_ne (tgt := 80) (q := 76) dX2_inherit_73 rfl rfl ?_ ?_
                · refine v_aload (q := 82) dX2_inherit_80 rfl rfl ?_
                  refine v_getIb (q := 85) dX2_inherit_82 rfl fg_X2_25 (fun v12 => ?_)
                  exact hK v12
                · refine v_iload_n (q := 77) dX2_inherit_76 rfl rfl rfl ?_
                  refine v_goto (tgt := 85) dX2_inherit_77 rfl ?_
                  exact hK x2
              · refine v_putIb (q := 88) dX2_inherit_85 rfl fp_X2_25 (fun M14 => ?_)
                refine v_aload (q := 90) dX2_inherit_88 rfl rfl ?_
                refine v_aload (q := 92) dX2_inherit_90 rfl rfl ?_
                refine v_getIb (q := 95) dX2_inherit_92 rfl fg_X2_28 (fun v15 => ?_)
                refine v_iconst (q := 96) dX2_inherit_95 rfl ic_2 ?_
                refine v_idivc (q := 97) dX2_inherit_96 rfl ne_2 ?_
                refine v_putIb (q := 100) dX2_inherit_97 rfl fp_X2_28 (fun M16 => ?_)
                refine v_aload (q := 102) dX2_inherit_100 rfl rfl ?_
                refine v_aload (q := 104) dX2_inherit_102 rfl rfl ?_
                refine v_getIb (q := 107) dX2_inherit_104 rfl fg_X2_28 (fun v17 => ?_)
                refine v_join (γ := Int32) 128 (fun v20 => M16) (fun v20 => [some (.ref a0), some (.int x1), some (.int x2), some (.int v2), some (.ref o5)]) (fun v20 => [.int v20, .ref o5]) (fun K hK => ?_) (fun v20 => ?_)
                · refine v_if_eq (tgt := 123) (q := 110) dX2_inherit_107 rfl rfl ?_ ?_
                  · refine v_iconst (q := 124) dX2_inherit_123 rfl ic_1 ?_
                    refine v_goto (tgt := 128) dX2_inherit_124 rfl ?_
                    exact hK (1 : Int32)
                  · refine v_aload (q := 112) dX2_inherit_110 rfl rfl ?_
                    refine v_getIb (q := 115) dX2_inherit_112 rfl fg_X2_22 (fun v18 => ?_)
                    refine v_aload (q := 117) dX2_inherit_115 rfl rfl ?_
                    refine v_getIb (q := 120) dX2_inherit_117 rfl fg_X2_25 (fun v19 => ?_)
                    refine v_icmp_ne (tgt := 127) (q := 123) dX2_inherit_120 rfl rfl ?_ ?_
                    · refine v_iconst (q := 128) dX2_inherit_127 rfl ic_0 ?_
                      exact hK (0 : Int32)
                    · refine v_iconst (q := 124) dX2_inherit_123 rfl ic_1 ?_
                      refine v_goto (tgt := 128) dX2_inherit_124 rfl ?_
                      exact hK (1 : Int32)
                · refine v_putZb (q := 131) dX2_inherit_128 rfl fp_X2_38 (fun M21 => ?_)
                  exact hK M21
          · refine v_aload (q := 35) dX2_inherit_33 rfl rfl ?_
            refine v_getIb (q := 38) dX2_inherit_35 rfl fg_X2_25 (fun v22 => ?_)
            refine v_iload_n (q := 39) dX2_inherit_38 rfl rfl rfl ?_
            refine v_icmp_ne (tgt := 131) (q := 42) dX2_inherit_39 rfl rfl ?_ ?_
            · exact hK M1
            · refine v_aload (q := 44) dX2_inherit_42 rfl rfl ?_
              refine v_aload (q := 46) dX2_inherit_44 rfl rfl ?_
              refine v_getIb (q := 49) dX2_inherit_46 rfl fg_X2_22 (fun v23 => ?_)
              refine v_iload_n (q := 50) dX2_inherit_49 rfl rfl rfl ?_
              refine v_join (γ := Int32) 62 (fun v25 => M1) (fun v25 => [some (.ref a0), some (.int x1), some (.int x2), some (.int v2), some (.ref o5)]) (fun v25 => [.int v25, .ref o5]) (fun K hK => ?_) (fun v25 => ?_)
              · refine v_icmp_ne (tgt := 57) (q := 53) dX2_inherit_50 rfl rfl ?_ ?_
                · refine v_aload (q := 59) dX2_inherit_57 rfl rfl ?_
                  refine v_getIb (q := 62) dX2_inherit_59 rfl fg_X2_22 (fun v24 => ?_)
                  exact hK v24
                · refine v_iload_n (q := 54) dX2_inherit_53 rfl rfl rfl ?_
                  refine v_goto (tgt := 62) dX2_inherit_54 rfl ?_
                  exact hK x2
              · refine v_putIb (q := 65) dX2_inherit_62 rfl fp_X2_22 (fun M26 => ?_)
                refine v_aload (q := 67) dX2_inherit_65 rfl rfl ?_
                refine v_aload (q := 69) dX2_inherit_67 rfl rfl ?_
                refine v_getIb (q := 72) dX2_inherit_69 rfl fg_X2_25 (fun v27 => ?_)
                refine v_iload_n (q := 73) dX2_inherit_72 rfl rfl rfl ?_
                refine v_join (γ := Int32) 85 (fun v29 => M26) (fun v29 => [some (.ref a0), some (.int x1), some (.int x2), some (.int v2), some (.ref o5)]) (fun v29 => [.int v29, .ref o5]) (fun K hK => ?_) (fun v29 => ?_)
                · refine v_icmp_ne (tgt := 80) (q := 76) dX2_inherit_73 rfl rfl ?_ ?_
                  · refine v_aload (q := 82) dX2_inherit_80 rfl rfl ?_
                    refine v_getIb (q := 85) dX2_inherit_82 rfl fg_X2_25 (fun v28 => ?_)
                    exact hK v28
                  · refine v_iload_n (q := 77) dX2_inherit_76 rfl rfl rfl ?_
                    refine v_goto (tgt := 85) dX2_inherit_77 rfl ?_
                    exact hK x2
                · refine v_putIb (q := 88) dX2_inherit_85 rfl fp_X2_25 (fun M30 => ?_)
                  refine v_aload (q := 90) dX2_inherit_88 rfl rfl ?_
                  refine v_aload (q := 92) dX2_inherit_90 rfl rfl ?_
                  refine v_getIb (q := 95) dX2_inherit_92 rfl fg_X2_28 (fun v31 => ?_)
                  refine v_iconst (q := 96) dX2_inherit_95 rfl ic_2 ?_
                  refine v_idivc (q := 97) dX2_inherit_96 rfl ne_2 ?_
                  refine v_putIb (q := 100) dX2_inherit_97 rfl fp_X2_28 (fun M32 => ?_)
                  refine v_aload (q := 102) dX2_inherit_100 rfl rfl ?_
                  refine v_aload (q := 104) dX2_inherit_102 rfl rfl ?_
                  refine v_getIb (q := 107) dX2_inherit_104 rfl fg_X2_28 (fun v33 => ?_)
                  refine v_join (γ := Int32) 128 (fun v36 => M32) (fun v36 => [some (.ref a0), some (.int x1), some (.int x2), some (.int v2), some (.ref o5)]) (fun v36 => [.int v36, .ref o5]) (fun K hK => ?_) (fun v36 => ?_)
                  · refine v_if_eq (tgt := 123) (q := 110) dX2_inherit_107 rfl rfl ?_ ?_
                    · refine v_iconst (q := 124) dX2_inherit_123 rfl ic_1 ?_
                      refine v_goto (tgt := 128) dX2_inherit_124 rfl ?_
                      exact hK (1 : Int32)
                    · refine v_aload (q := 112) dX2_inherit_110 rfl rfl ?_
                      refine v_getIb (q := 115) dX2_inherit_112 rfl fg_X2_22 (fun v34 => ?_)
                      refine v_aload (q := 117) dX2_inherit_115 rfl rfl ?_
                      refine v_getIb (q := 120) dX2_inherit_117 rfl fg_X2_25 (fun v35 => ?_)
                      refine v_icmp_ne (tgt := 127) (q := 123) dX2_inherit_120 rfl rfl ?_ ?_
                      · refine v_iconst (q := 128) dX2_inherit_127 rfl ic_0 ?_
                        exact hK (0 : Int32)
                      · refine v_iconst (q := 124) dX2_inherit_123 rfl ic_1 ?_
                        refine v_goto (tgt := 128) dX2_inherit_124 rfl ?_
                        exact hK (1 : Int32)
                  · refine v_putZb (q := 131) dX2_inherit_128 rfl fp_X2_38 (fun M37 => ?_)
                    exact hK M37
        · refine v_iincL (q := 134) (x := v2) (cst := (1 : Int32)) (f := fun v39 => [some (.ref a0), some (.int x1), some (.int x2), some (.int v39), some (.ref o5)]) dX2_inherit_131 rfl rfl ic_1 rfl (Nat.le_of_ble_eq_true rfl) (fun _ => rfl) (fun v39 => ?_)
          refine v_goto (tgt := 2) dX2_inherit_134 rfl ?_
          exact v_inl (v_weak (hk (M38, v39)) ⟨rfl, ⟨rfl, ⟨rfl, ⟨rfl, trivial⟩⟩⟩⟩)
theorem ct_X2_inherit (d : Nat) (hd : 1 ≤ d) (a0 : Nat) (x1 : Int32) (x2 : Int32) (M : Me) (r : Me) (hf : f_X2_inherit a0 x1 x2 M = some r) : me_k M a0 = some (2, nf_c 2) ∧ Ct yX2_inherit mX2_inherit d 0 0 [.ref a0, .int x1, .int x2] M (none, r) := by
  obtain ⟨hk, hb⟩ := ck_some hf
  exact ⟨hk, ct_of (by decide +kernel) rfl rfl (Nat.le_of_ble_eq_true rfl) (vb_X2_inherit d hd a0 x1 x2 M) (by rw [hb]; rfl)⟩
theorem dX2_countOwedBy_0 : decode cX2_countOwedBy 0 = .ok (.iconst 0, 1) := by decide +kernel
theorem dX2_countOwedBy_1 : decode cX2_countOwedBy 1 = .ok (.istore_n 2, 1) := by decide +kernel
theorem dX2_countOwedBy_2 : decode cX2_countOwedBy 2 = .ok (.iconst 0, 1) := by decide +kernel
theorem dX2_countOwedBy_3 : decode cX2_countOwedBy 3 = .ok (.istore_n 3, 1) := by decide +kernel
theorem dX2_countOwedBy_4 : decode cX2_countOwedBy 4 = .ok (.iload_n 3, 1) := by decide +kernel
theorem dX2_countOwedBy_5 : decode cX2_countOwedBy 5 = .ok (.bipush 12, 2) := by decide +kernel
theorem dX2_countOwedBy_7 : decode cX2_countOwedBy 7 = .ok (.if_icmp .ge 38, 3) := by decide +kernel
theorem dX2_countOwedBy_10 : decode cX2_countOwedBy 10 = .ok (.iload_n 3, 1) := by decide +kernel
theorem dX2_countOwedBy_11 : decode cX2_countOwedBy 11 = .ok (.aload_n 0, 1) := by decide +kernel
theorem dX2_countOwedBy_12 : decode cX2_countOwedBy 12 = .ok (.getfield 18, 3) := by decide +kernel
theorem dX2_countOwedBy_15 : decode cX2_countOwedBy 15 = .ok (.if_icmp .ge 30, 3) := by decide +kernel
theorem dX2_countOwedBy_18 : decode cX2_countOwedBy 18 = .ok (.iload_n 2, 1) := by decide +kernel
theorem dX2_countOwedBy_19 : decode cX2_countOwedBy 19 = .ok (.aload_n 0, 1) := by decide +kernel
theorem dX2_countOwedBy_20 : decode cX2_countOwedBy 20 = .ok (.getfield 11, 3) := by decide +kernel
theorem dX2_countOwedBy_23 : decode cX2_countOwedBy 23 = .ok (.iload_n 3, 1) := by decide +kernel
theorem dX2_countOwedBy_24 : decode cX2_countOwedBy 24 = .ok (.aaload, 1) := by decide +kernel
theorem dX2_countOwedBy_25 : decode cX2_countOwedBy 25 = .ok (.getfield 22, 3) := by decide +kernel
theorem dX2_countOwedBy_28 : decode cX2_countOwedBy 28 = .ok (.iload_n 1, 1) := by decide +kernel
theorem dX2_countOwedBy_29 : decode cX2_countOwedBy 29 = .ok (.if_icmp .ne 7, 3) := by decide +kernel
theorem dX2_countOwedBy_32 : decode cX2_countOwedBy 32 = .ok (.iconst 1, 1) := by decide +kernel
theorem dX2_countOwedBy_33 : decode cX2_countOwedBy 33 = .ok (.goto 4, 3) := by decide +kernel
theorem dX2_countOwedBy_36 : decode cX2_countOwedBy 36 = .ok (.iconst 0, 1) := by decide +kernel
theorem dX2_countOwedBy_37 : decode cX2_countOwedBy 37 = .ok (.iadd, 1) := by decide +kernel
theorem dX2_countOwedBy_38 : decode cX2_countOwedBy 38 = .ok (.istore_n 2, 1) := by decide +kernel
theorem dX2_countOwedBy_39 : decode cX2_countOwedBy 39 = .ok (.iinc 3 1, 3) := by decide +kernel
theorem dX2_countOwedBy_42 : decode cX2_countOwedBy 42 = .ok (.goto (-38), 3) := by decide +kernel
theorem dX2_countOwedBy_45 : decode cX2_countOwedBy 45 = .ok (.iload_n 2, 1) := by decide +kernel
theorem dX2_countOwedBy_46 : decode cX2_countOwedBy 46 = .ok (.ireturn, 1) := by decide +kernel
noncomputable def s_X2_countOwedBy_4 (a0 : Nat) (x1 : Int32) (M : Me) (v1 : Int32) (v2 : Int32) : Option ((Int32 × Int32) ⊕ (Int32 × Int32)) :=
  if (12 : Int32) ≤ v2 then (
    some (Sum.inr (v1, v2))
  ) else (
    gi M a0 2 0 fun v3 =>
    if v3 ≤ v2 then (
      some (Sum.inr (v1, v2))
    ) else (
      gr M a0 2 1 fun o4 =>
      lr M o4 23 v2 fun o5 =>
      gi M o5 1 0 fun v6 =>
      (
        if v6 = x1 then (
          some (1 : Int32)
        ) else (
          some (0 : Int32)
        )
      ).bind fun v7 =>
      let_v ((v1 + v7)) fun v8 =>
      let_v (v2 + (1 : Int32)) fun v9 =>
      some (Sum.inl (v8, v9))
    )
  )
noncomputable def b_X2_countOwedBy (a0 : Nat) (x1 : Int32) (M : Me) : Option (Int32) :=
  (lp (fun s => s_X2_countOwedBy_4 a0 x1 M s.1 s.2) ((0 : Int32), (0 : Int32))).bind fun e10 =>
  some e10.1
noncomputable def f_X2_countOwedBy (a0 : Nat) (x1 : Int32) (M : Me) : Option (Int32) := ck M a0 2 (b_X2_countOwedBy a0 x1 M)
set_option maxRecDepth 20000 in
theorem vb_X2_countOwedBy (d : Nat) (hd : 0 ≤ d) (a0 : Nat) (x1 : Int32) (M : Me) : V (mX2_countOwedBy, d, 0, 0) (0, 0) M 0 [some (.ref a0), some (.int x1), none, none] [] (b_X2_countOwedBy a0 x1 M) (fun z => some (some (.int z), M)) := by
  unfold b_X2_countOwedBy
  refine v_iconst (q := 1) dX2_countOwedBy_0 rfl ic_0 ?_
  refine v_istore_n (q := 2) (loc2 := [some (.ref a0), some (.int x1), some (.int (0 : Int32)), none]) dX2_countOwedBy_1 rfl rfl rfl (Nat.le_of_ble_eq_true rfl) rfl ?_
  refine v_iconst (q := 3) dX2_countOwedBy_2 rfl ic_0 ?_
  refine v_istore_n (q := 4) (loc2 := [some (.ref a0), some (.int x1), some (.int (0 : Int32)), some (.int (0 : Int32))]) dX2_countOwedBy_3 rfl rfl rfl (Nat.le_of_ble_eq_true rfl) rfl ?_
  refine v_lps (S := Int32 × Int32) 45 (fun s => M) (fun s => [some (.ref a0), some (.int x1), some (.int s.1), some (.int s.2)]) (fun e10 => M) (fun e10 => [some (.ref a0), some (.int x1), some (.int e10.1), some (.int e10.2)]) (fun e10 => ?_) (fun k K hk hx s => ?_)
  · refine v_iload_n (q := 46) dX2_countOwedBy_45 rfl rfl rfl ?_
    exact v_iret rfl dX2_countOwedBy_46 ⟨Nat.le_of_ble_eq_true rfl, Nat.le_of_ble_eq_true rfl⟩ rfl
  · obtain ⟨v1, v2⟩ := s
    show V _ _ M 4 [some (.ref a0), some (.int x1), some (.int v1), some (.int v2)] [] (s_X2_countOwedBy_4 a0 x1 M v1 v2) _
    unfold s_X2_countOwedBy_4
    refine v_iload_n (q := 5) dX2_countOwedBy_4 rfl rfl rfl ?_
    refine v_bipush (q := 7) dX2_countOwedBy_5 rfl bp_12 ?_
    refine v_icmp_ge (tgt := 45) (q := 10) dX2_countOwedBy_7 rfl rfl ?_ ?_
    · exact v_inr (hx (v1, v2))
    · refine v_iload_n (q := 11) dX2_countOwedBy_10 rfl rfl rfl ?_
      refine v_aload_n (q := 12) dX2_countOwedBy_11 rfl rfl rfl ?_
      refine v_getIb (q := 15) dX2_countOwedBy_12 rfl fg_X2_18 (fun v3 => ?_)
      refine v_icmp_ge (tgt := 45) (q := 18) dX2_countOwedBy_15 rfl rfl ?_ ?_
      · exact v_inr (hx (v1, v2))
      · refine v_iload_n (q := 19) dX2_countOwedBy_18 rfl rfl rfl ?_
        refine v_aload_n (q := 20) dX2_countOwedBy_19 rfl rfl rfl ?_
        refine v_getRb (q := 23) dX2_countOwedBy_20 rfl fg_X2_11 (fun o4 => ?_)
        refine v_iload_n (q := 24) dX2_countOwedBy_23 rfl rfl rfl ?_
        refine v_aaload (q := 25) (t0 := 3) dX2_countOwedBy_24 rfl (Nat.le_of_ble_eq_true rfl) (fun _ => rfl) (fun o5 => ?_)
        refine v_getIb (q := 28) dX2_countOwedBy_25 rfl fg_X2_22 (fun v6 => ?_)
        refine v_iload_n (q := 29) dX2_countOwedBy_28 rfl rfl rfl ?_
        refine v_join (γ := Int32) 37 (fun v7 => M) (fun v7 => [some (.ref a0), some (.int x1), some (.int v1), some (.int v2)]) (fun v7 => [.int v7, .int v1]) (fun K hK => ?_) (fun v7 => ?_)
        · refine v_icmp_ne (tgt := 36) (q := 32) dX2_countOwedBy_29 rfl rfl ?_ ?_
          · refine v_iconst (q := 37) dX2_countOwedBy_36 rfl ic_0 ?_
            exact hK (0 : Int32)
          · refine v_iconst (q := 33) dX2_countOwedBy_32 rfl ic_1 ?_
            refine v_goto (tgt := 37) dX2_countOwedBy_33 rfl ?_
            exact hK (1 : Int32)
        · refine v_iadd (q := 38) dX2_countOwedBy_37 rfl ?_
          refine v_letI (fun v8 => ?_)
          refine v_istore_n (q := 39) (loc2 := [some (.ref a0), some (.int x1), some (.int v8), some (.int v2)]) dX2_countOwedBy_38 rfl rfl rfl (Nat.le_of_ble_eq_true rfl) rfl ?_
          refine v_iincL (q := 42) (x := v2) (cst := (1 : Int32)) (f := fun v9 => [some (.ref a0), some (.int x1), some (.int v8), some (.int v9)]) dX2_countOwedBy_39 rfl rfl ic_1 rfl (Nat.le_of_ble_eq_true rfl) (fun _ => rfl) (fun v9 => ?_)
          refine v_goto (tgt := 4) dX2_countOwedBy_42 rfl ?_
          exact v_inl (hk (v8, v9))
theorem ct_X2_countOwedBy (d : Nat) (hd : 0 ≤ d) (a0 : Nat) (x1 : Int32) (M : Me) (r : Int32) (hf : f_X2_countOwedBy a0 x1 M = some r) : me_k M a0 = some (2, nf_c 2) ∧ Ct yX2_countOwedBy mX2_countOwedBy d 0 0 [.ref a0, .int x1] M (some (.int r), M) := by
  obtain ⟨hk, hb⟩ := ck_some hf
  exact ⟨hk, ct_of (by decide +kernel) rfl rfl (Nat.le_of_ble_eq_true rfl) (vb_X2_countOwedBy d hd a0 x1 M) (by rw [hb]; rfl)⟩
theorem dX3_init_0 : decode cX3_init 0 = .ok (.aload_n 0, 1) := by decide +kernel
theorem dX3_init_1 : decode cX3_init 1 = .ok (.invokespecial 3, 3) := by decide +kernel
theorem dX3_init_4 : decode cX3_init 4 = .ok (.aload_n 0, 1) := by decide +kernel
theorem dX3_init_5 : decode cX3_init 5 = .ok (.iconst 5, 1) := by decide +kernel
theorem dX3_init_6 : decode cX3_init 6 = .ok (.newarray .int, 2) := by decide +kernel
theorem dX3_init_8 : decode cX3_init 8 = .ok (.putfield 9, 3) := by decide +kernel
theorem dX3_init_11 : decode cX3_init 11 = .ok (.aload_n 0, 1) := by decide +kernel
theorem dX3_init_12 : decode cX3_init 12 = .ok (.iconst 5, 1) := by decide +kernel
theorem dX3_init_13 : decode cX3_init 13 = .ok (.newarray .int, 2) := by decide +kernel
theorem dX3_init_15 : decode cX3_init 15 = .ok (.putfield 15, 3) := by decide +kernel
theorem dX3_init_18 : decode cX3_init 18 = .ok (.aload_n 0, 1) := by decide +kernel
theorem dX3_init_19 : decode cX3_init 19 = .ok (.bipush 12, 2) := by decide +kernel
theorem dX3_init_21 : decode cX3_init 21 = .ok (.newarray .int, 2) := by decide +kernel
theorem dX3_init_23 : decode cX3_init 23 = .ok (.putfield 18, 3) := by decide +kernel
theorem dX3_init_26 : decode cX3_init 26 = .ok (.return_, 1) := by decide +kernel
noncomputable def b_X3_init (a0 : Nat) (M : Me) : Option (Me) :=
  na M 20 5 fun o1 M2 =>
  pr M2 a0 3 0 o1 fun M3 =>
  na M3 20 5 fun o4 M5 =>
  pr M5 a0 3 1 o4 fun M6 =>
  na M6 20 12 fun o7 M8 =>
  pr M8 a0 3 2 o7 fun M9 =>
  some M9
noncomputable def f_X3_init (a0 : Nat) (M : Me) : Option (Me) := b_X3_init a0 M
set_option maxRecDepth 20000 in
theorem vb_X3_init (d : Nat) (hd : 1 ≤ d) (a0 : Nat) (M : Me) : V (mX3_init, d, 3, 22) (0, 0) M 0 [some (.ref a0)] [] (b_X3_init a0 M) (fun M2 => some (none, M2)) := by
  unfold b_X3_init
  refine v_aload_n (q := 1) dX3_init_0 rfl rfl rfl ?_
  refine v_oinit (q := 4) dX3_init_1 rfl cc_X3_3 aw_obj.1 aw_obj.2 (by show 1 ≤ d; omega) rfl ?_
  refine v_aload_n (q := 5) dX3_init_4 rfl rfl rfl ?_
  refine v_iconst (q := 6) dX3_init_5 rfl ic_5 ?_
  refine v_newIU (q := 8) (u2 := (1, 5)) dX3_init_6 rfl aw_int (by decide) (by decide) (Nat.le_of_ble_eq_true rfl) ⟨Nat.le_of_ble_eq_true rfl, Nat.le_of_ble_eq_true rfl⟩ rfl (fun o1 M2 => ?_)
  refine v_putRb (q := 11) dX3_init_8 rfl fp_X3_9 (fun M3 => ?_)
  refine v_aload_n (q := 12) dX3_init_11 rfl rfl rfl ?_
  refine v_iconst (q := 13) dX3_init_12 rfl ic_5 ?_
  refine v_newIU (q := 15) (u2 := (2, 10)) dX3_init_13 rfl aw_int (by decide) (by decide) (Nat.le_of_ble_eq_true rfl) ⟨Nat.le_of_ble_eq_true rfl, Nat.le_of_ble_eq_true rfl⟩ rfl (fun o4 M5 => ?_)
  refine v_putRb (q := 18) dX3_init_15 rfl fp_X3_15 (fun M6 => ?_)
  refine v_aload_n (q := 19) dX3_init_18 rfl rfl rfl ?_
  refine v_bipush (q := 21) dX3_init_19 rfl bp_12 ?_
  refine v_newIU (q := 23) (u2 := (3, 22)) dX3_init_21 rfl aw_int (by decide) (by decide) (Nat.le_of_ble_eq_true rfl) ⟨Nat.le_of_ble_eq_true rfl, Nat.le_of_ble_eq_true rfl⟩ rfl (fun o7 M8 => ?_)
  refine v_putRb (q := 26) dX3_init_23 rfl fp_X3_18 (fun M9 => ?_)
  exact v_vret rfl dX3_init_26 ⟨Nat.le_of_ble_eq_true rfl, Nat.le_of_ble_eq_true rfl⟩ rfl
theorem ct_X3_init (d : Nat) (hd : 1 ≤ d) (a0 : Nat) (M : Me) (r : Me) (hf : f_X3_init a0 M = some r) : Ct yX3_init mX3_init d 3 22 [.ref a0] M (none, r) := by
  have hb : b_X3_init a0 M = some r := hf
  exact ct_of (by decide +kernel) rfl rfl (Nat.le_of_ble_eq_true rfl) (vb_X3_init d hd a0 M) (by rw [hb]; rfl)
theorem dX5_hasChapel_0 : decode cX5_hasChapel 0 = .ok (.iload_n 1, 1) := by decide +kernel
theorem dX5_hasChapel_1 : decode cX5_hasChapel 1 = .ok (.ifCond .lt 20, 3) := by decide +kernel
theorem dX5_hasChapel_4 : decode cX5_hasChapel 4 = .ok (.iload_n 1, 1) := by decide +kernel
theorem dX5_hasChapel_5 : decode cX5_hasChapel 5 = .ok (.aload_n 0, 1) := by decide +kernel
theorem dX5_hasChapel_6 : decode cX5_hasChapel 6 = .ok (.getfield 9, 3) := by decide +kernel
theorem dX5_hasChapel_9 : decode cX5_hasChapel 9 = .ok (.if_icmp .ge 12, 3) := by decide +kernel
theorem dX5_hasChapel_12 : decode cX5_hasChapel 12 = .ok (.iload_n 1, 1) := by decide +kernel
theorem dX5_hasChapel_13 : decode cX5_hasChapel 13 = .ok (.iconst 5, 1) := by decide +kernel
theorem dX5_hasChapel_14 : decode cX5_hasChapel 14 = .ok (.if_icmp .ge 7, 3) := by decide +kernel
theorem dX5_hasChapel_17 : decode cX5_hasChapel 17 = .ok (.iconst 1, 1) := by decide +kernel
theorem dX5_hasChapel_18 : decode cX5_hasChapel 18 = .ok (.goto 4, 3) := by decide +kernel
theorem dX5_hasChapel_21 : decode cX5_hasChapel 21 = .ok (.iconst 0, 1) := by decide +kernel
theorem dX5_hasChapel_22 : decode cX5_hasChapel 22 = .ok (.ireturn, 1) := by decide +kernel
noncomputable def b_X5_hasChapel (a0 : Nat) (x1 : Int32) (M : Me) : Option (Int32) :=
  (
    if x1 < 0 then (
      some (0 : Int32)
    ) else (
      gi M a0 5 0 fun v1 =>
      if v1 ≤ x1 then (
        some (0 : Int32)
      ) else (
        if (5 : Int32) ≤ x1 then (
          some (0 : Int32)
        ) else (
          some (1 : Int32)
        )
      )
    )
  ).bind fun v2 =>
  if v2 = 0 ∨ v2 = 1 then some v2 else none
noncomputable def f_X5_hasChapel (a0 : Nat) (x1 : Int32) (M : Me) : Option (Int32) := ck M a0 5 (b_X5_hasChapel a0 x1 M)
set_option maxRecDepth 20000 in
theorem vb_X5_hasChapel (d : Nat) (hd : 0 ≤ d) (a0 : Nat) (x1 : Int32) (M : Me) : V (mX5_hasChapel, d, 0, 0) (0, 0) M 0 [some (.ref a0), some (.int x1)] [] (b_X5_hasChapel a0 x1 M) (fun z => some (some (.int z), M)) := by
  unfold b_X5_hasChapel
  refine v_iload_n (q := 1) dX5_hasChapel_0 rfl rfl rfl ?_
  refine v_join (γ := Int32) 22 (fun v2 => M) (fun v2 => [some (.ref a0), some (.int x1)]) (fun v2 => [.int v2]) (fun K hK => ?_) (fun v2 => ?_)
  · refine v_if_lt (tgt := 21) (q := 4) dX5_hasChapel_1 rfl rfl ?_ ?_
    · refine v_iconst (q := 22) dX5_hasChapel_21 rfl ic_0 ?_
      exact hK (0 : Int32)
    · refine v_iload_n (q := 5) dX5_hasChapel_4 rfl rfl rfl ?_
      refine v_aload_n (q := 6) dX5_hasChapel_5 rfl rfl rfl ?_
      refine v_getIb (q := 9) dX5_hasChapel_6 rfl fg_X5_9 (fun v1 => ?_)
      refine v_icmp_ge (tgt := 21) (q := 12) dX5_hasChapel_9 rfl rfl ?_ ?_
      · refine v_iconst (q := 22) dX5_hasChapel_21 rfl ic_0 ?_
        exact hK (0 : Int32)
      · refine v_iload_n (q := 13) dX5_hasChapel_12 rfl rfl rfl ?_
        refine v_iconst (q := 14) dX5_hasChapel_13 rfl ic_5 ?_
        refine v_icmp_ge (tgt := 21) (q := 17) dX5_hasChapel_14 rfl rfl ?_ ?_
        · refine v_iconst (q := 22) dX5_hasChapel_21 rfl ic_0 ?_
          exact hK (0 : Int32)
        · refine v_iconst (q := 18) dX5_hasChapel_17 rfl ic_1 ?_
          refine v_goto (tgt := 22) dX5_hasChapel_18 rfl ?_
          exact hK (1 : Int32)
  · exact v_zretC rfl dX5_hasChapel_22 ⟨Nat.le_of_ble_eq_true rfl, Nat.le_of_ble_eq_true rfl⟩ rfl
theorem ct_X5_hasChapel (d : Nat) (hd : 0 ≤ d) (a0 : Nat) (x1 : Int32) (M : Me) (r : Int32) (hf : f_X5_hasChapel a0 x1 M = some r) : me_k M a0 = some (5, nf_c 5) ∧ Ct yX5_hasChapel mX5_hasChapel d 0 0 [.ref a0, .int x1] M (some (.int r), M) := by
  obtain ⟨hk, hb⟩ := ck_some hf
  exact ⟨hk, ct_of (by decide +kernel) rfl rfl (Nat.le_of_ble_eq_true rfl) (vb_X5_hasChapel d hd a0 x1 M) (by rw [hb]; rfl)⟩
theorem dX5_firstAcross_0 : decode cX5_firstAcross 0 = .ok (.aload_n 0, 1) := by decide +kernel
theorem dX5_firstAcross_1 : decode cX5_firstAcross 1 = .ok (.iload_n 1, 1) := by decide +kernel
theorem dX5_firstAcross_2 : decode cX5_firstAcross 2 = .ok (.iload_n 2, 1) := by decide +kernel
theorem dX5_firstAcross_3 : decode cX5_firstAcross 3 = .ok (.invokevirtual 36, 3) := by decide +kernel
theorem dX5_firstAcross_6 : decode cX5_firstAcross 6 = .ok (.istore 4, 2) := by decide +kernel
theorem dX5_firstAcross_8 : decode cX5_firstAcross 8 = .ok (.iload 4, 2) := by decide +kernel
theorem dX5_firstAcross_10 : decode cX5_firstAcross 10 = .ok (.ifCond .ne 6, 3) := by decide +kernel
theorem dX5_firstAcross_13 : decode cX5_firstAcross 13 = .ok (.ldc 42, 2) := by decide +kernel
theorem dX5_firstAcross_15 : decode cX5_firstAcross 15 = .ok (.ireturn, 1) := by decide +kernel
theorem dX5_firstAcross_16 : decode cX5_firstAcross 16 = .ok (.iload_n 3, 1) := by decide +kernel
theorem dX5_firstAcross_17 : decode cX5_firstAcross 17 = .ok (.aload_n 0, 1) := by decide +kernel
theorem dX5_firstAcross_18 : decode cX5_firstAcross 18 = .ok (.getfield 15, 3) := by decide +kernel
theorem dX5_firstAcross_21 : decode cX5_firstAcross 21 = .ok (.invokestatic 32, 3) := by decide +kernel
theorem dX5_firstAcross_24 : decode cX5_firstAcross 24 = .ok (.istore 5, 2) := by decide +kernel
theorem dX5_firstAcross_26 : decode cX5_firstAcross 26 = .ok (.iload 5, 2) := by decide +kernel
theorem dX5_firstAcross_28 : decode cX5_firstAcross 28 = .ok (.bipush 90, 2) := by decide +kernel
theorem dX5_firstAcross_30 : decode cX5_firstAcross 30 = .ok (.if_icmp .lt 8, 3) := by decide +kernel
theorem dX5_firstAcross_33 : decode cX5_firstAcross 33 = .ok (.iload_n 3, 1) := by decide +kernel
theorem dX5_firstAcross_34 : decode cX5_firstAcross 34 = .ok (.iload 4, 2) := by decide +kernel
theorem dX5_firstAcross_36 : decode cX5_firstAcross 36 = .ok (.iadd, 1) := by decide +kernel
theorem dX5_firstAcross_37 : decode cX5_firstAcross 37 = .ok (.ireturn, 1) := by decide +kernel
theorem dX5_firstAcross_38 : decode cX5_firstAcross 38 = .ok (.iload_n 3, 1) := by decide +kernel
theorem dX5_firstAcross_39 : decode cX5_firstAcross 39 = .ok (.iconst 2, 1) := by decide +kernel
theorem dX5_firstAcross_40 : decode cX5_firstAcross 40 = .ok (.iload 4, 2) := by decide +kernel
theorem dX5_firstAcross_42 : decode cX5_firstAcross 42 = .ok (.imul, 1) := by decide +kernel
theorem dX5_firstAcross_43 : decode cX5_firstAcross 43 = .ok (.iadd, 1) := by decide +kernel
theorem dX5_firstAcross_44 : decode cX5_firstAcross 44 = .ok (.istore 6, 2) := by decide +kernel
theorem dX5_firstAcross_46 : decode cX5_firstAcross 46 = .ok (.iload_n 3, 1) := by decide +kernel
theorem dX5_firstAcross_47 : decode cX5_firstAcross 47 = .ok (.iload 5, 2) := by decide +kernel
theorem dX5_firstAcross_49 : decode cX5_firstAcross 49 = .ok (.isub, 1) := by decide +kernel
theorem dX5_firstAcross_50 : decode cX5_firstAcross 50 = .ok (.bipush 90, 2) := by decide +kernel
theorem dX5_firstAcross_52 : decode cX5_firstAcross 52 = .ok (.iadd, 1) := by decide +kernel
theorem dX5_firstAcross_53 : decode cX5_firstAcross 53 = .ok (.istore 7, 2) := by decide +kernel
theorem dX5_firstAcross_55 : decode cX5_firstAcross 55 = .ok (.aload_n 0, 1) := by decide +kernel
theorem dX5_firstAcross_56 : decode cX5_firstAcross 56 = .ok (.getfield 15, 3) := by decide +kernel
theorem dX5_firstAcross_59 : decode cX5_firstAcross 59 = .ok (.bipush 90, 2) := by decide +kernel
theorem dX5_firstAcross_61 : decode cX5_firstAcross 61 = .ok (.if_icmp .le 16, 3) := by decide +kernel
theorem dX5_firstAcross_64 : decode cX5_firstAcross 64 = .ok (.iload 6, 2) := by decide +kernel
theorem dX5_firstAcross_66 : decode cX5_firstAcross 66 = .ok (.iload 7, 2) := by decide +kernel
theorem dX5_firstAcross_68 : decode cX5_firstAcross 68 = .ok (.iload 4, 2) := by decide +kernel
theorem dX5_firstAcross_70 : decode cX5_firstAcross 70 = .ok (.iadd, 1) := by decide +kernel
theorem dX5_firstAcross_71 : decode cX5_firstAcross 71 = .ok (.invokestatic 43, 3) := by decide +kernel
theorem dX5_firstAcross_74 : decode cX5_firstAcross 74 = .ok (.goto 5, 3) := by decide +kernel
theorem dX5_firstAcross_77 : decode cX5_firstAcross 77 = .ok (.iload 6, 2) := by decide +kernel
theorem dX5_firstAcross_79 : decode cX5_firstAcross 79 = .ok (.ireturn, 1) := by decide +kernel
noncomputable def b_X5_firstAcross (a0 : Nat) (x1 : Int32) (x2 : Int32) (x3 : Int32) (M : Me) : Option (Int32) :=
  cP (f_X5_roadDays a0 x1 x2 M) fun v1 =>
  if v1 = 0 then (
    some (1000000000 : Int32)
  ) else (
    gi M a0 5 1 fun v2 =>
    cP (f_X11_leftOver x3 v2 M) fun v3 =>
    if v3 < (90 : Int32) then (
      let_v ((x3 + ((2 : Int32) * v1))) fun v4 =>
      let_v (((x3 - v3) + (90 : Int32))) fun v5 =>
      gi M a0 5 1 fun v6 =>
      (
        if v6 ≤ (90 : Int32) then (
          some v4
        ) else (
          some (mn_i v4 (v5 + v1))
        )
      ).bind fun v7 =>
      some v7
    ) else (
      some (x3 + v1)
    )
  )
noncomputable def f_X5_firstAcross (a0 : Nat) (x1 : Int32) (x2 : Int32) (x3 : Int32) (M : Me) : Option (Int32) := ck M a0 5 (b_X5_firstAcross a0 x1 x2 x3 M)
set_option maxRecDepth 20000 in
theorem vb_X5_firstAcross (d : Nat) (hd : 1 ≤ d) (a0 : Nat) (x1 : Int32) (x2 : Int32) (x3 : Int32) (M : Me) : V (mX5_firstAcross, d, 0, 0) (0, 0) M 0 [some (.ref a0), some (.int x1), some (.int x2), some (.int x3), none, none, none, none] [] (b_X5_firstAcross a0 x1 x2 x3 M) (fun z => some (some (.int z), M)) := by
  unfold b_X5_firstAcross
  refine v_aload_n (q := 1) dX5_firstAcross_0 rfl rfl rfl ?_
  refine v_iload_n (q := 2) dX5_firstAcross_1 rfl rfl rfl ?_
  refine v_iload_n (q := 3) dX5_firstAcross_2 rfl rfl rfl ?_
  refine v_cPV2 (q := 6) (ct_X5_roadDays (d - 1) (by omega) _ _ _ _) dX5_firstAcross_3 rfl cc_X5_36 (by omega) (Nat.le_of_ble_eq_true rfl) ⟨Nat.le_of_ble_eq_true rfl, Nat.le_of_ble_eq_true rfl⟩ (fun v1 => ?_)
  refine v_istore (q := 8) (loc2 := [some (.ref a0), some (.int x1), some (.int x2), some (.int x3), some (.int v1), none, none, none]) dX5_firstAcross_6 rfl rfl (Nat.le_of_ble_eq_true rfl) rfl ?_
  refine v_iload (q := 10) dX5_firstAcross_8 rfl rfl ?_
  refine v_if_ne (tgt := 16) (q := 13) dX5_firstAcross_10 rfl rfl ?_ ?_
  · refine v_iload_n (q := 17) dX5_firstAcross_16 rfl rfl rfl ?_
    refine v_aload_n (q := 18) dX5_firstAcross_17 rfl rfl rfl ?_
    refine v_getIb (q := 21) dX5_firstAcross_18 rfl fg_X5_15 (fun v2 => ?_)
    refine v_cPS2 (q := 24) (ct_X11_leftOver (d - 1) (by omega) _ _ _) dX5_firstAcross_21 rfl cc_X5_32 (by omega) (Nat.le_of_ble_eq_true rfl) ⟨Nat.le_of_ble_eq_true rfl, Nat.le_of_ble_eq_true rfl⟩ (fun v3 => ?_)
    refine v_istore (q := 26) (loc2 := [some (.ref a0), some (.int x1), some (.int x2), some (.int x3), some (.int v1), some (.int v3), none, none]) dX5_firstAcross_24 rfl rfl (Nat.le_of_ble_eq_true rfl) rfl ?_
    refine v_iload (q := 28) dX5_firstAcross_26 rfl rfl ?_
    refine v_bipush (q := 30) dX5_firstAcross_28 rfl bp_90 ?_
    refine v_icmp_lt (tgt := 38) (q := 33) dX5_firstAcross_30 rfl rfl ?_ ?_
    · refine v_iload_n (q := 39) dX5_firstAcross_38 rfl rfl rfl ?_
      refine v_iconst (q := 40) dX5_firstAcross_39 rfl ic_2 ?_
      refine v_iload (q := 42) dX5_firstAcross_40 rfl rfl ?_
      refine v_imul (q := 43) dX5_firstAcross_42 rfl ?_
      refine v_iadd (q := 44) dX5_firstAcross_43 rfl ?_
      refine v_letI (fun v4 => ?_)
      refine v_istore (q := 46) (loc2 := [some (.ref a0), some (.int x1), some (.int x2), some (.int x3), some (.int v1), some (.int v3), some (.int v4), none]) dX5_firstAcross_44 rfl rfl (Nat.le_of_ble_eq_true rfl) rfl ?_
      refine v_iload_n (q := 47) dX5_firstAcross_46 rfl rfl rfl ?_
      refine v_iload (q := 49) dX5_firstAcross_47 rfl rfl ?_
      refine v_isub (q := 50) dX5_firstAcross_49 rfl ?_
      refine v_bipush (q := 52) dX5_firstAcross_50 rfl bp_90 ?_
      refine v_iadd (q := 53) dX5_firstAcross_52 rfl ?_
      refine v_letI (fun v5 => ?_)
      refine v_istore (q := 55) (loc2 := [some (.ref a0), some (.int x1), some (.int x2), some (.int x3), some (.int v1), some (.int v3), some (.int v4), some (.int v5)]) dX5_firstAcross_53 rfl rfl (Nat.le_of_ble_eq_true rfl) rfl ?_
      refine v_aload_n (q := 56) dX5_firstAcross_55 rfl rfl rfl ?_
      refine v_getIb (q := 59) dX5_firstAcross_56 rfl fg_X5_15 (fun v6 => ?_)
      refine v_bipush (q := 61) dX5_firstAcross_59 rfl bp_90 ?_
      refine v_join (γ := Int32) 79 (fun v7 => M) (fun v7 => [some (.ref a0), some (.int x1), some (.int x2), some (.int x3), some (.int v1), some (.int v3), some (.int v4), some (.int v5)]) (fun v7 => [.int v7]) (fun K hK => ?_) (fun v7 => ?_)
      · refine v_icmp_le (tgt := 77) (q := 64) dX5_firstAcross_61 rfl rfl ?_ ?_
        · refine v_iload (q := 79) dX5_firstAcross_77 rfl rfl ?_
          exact hK v4
        · refine v_iload (q := 66) dX5_firstAcross_64 rfl rfl ?_
          refine v_iload (q := 68) dX5_firstAcross_66 rfl rfl ?_
          refine v_iload (q := 70) dX5_firstAcross_68 rfl rfl ?_
          refine v_iadd (q := 71) dX5_firstAcross_70 rfl ?_
          refine v_mn_i (q := 74) dX5_firstAcross_71 rfl cc_X5_43 (by show 1 ≤ d; omega) (Nat.le_of_ble_eq_true rfl) ⟨Nat.le_of_ble_eq_true rfl, Nat.le_of_ble_eq_true rfl⟩ ?_
          refine v_goto (tgt := 79) dX5_firstAcross_74 rfl ?_
          exact hK (mn_i v4 (v5 + v1))
      · exact v_iret rfl dX5_firstAcross_79 ⟨Nat.le_of_ble_eq_true rfl, Nat.le_of_ble_eq_true rfl⟩ rfl
    · refine v_iload_n (q := 34) dX5_firstAcross_33 rfl rfl rfl ?_
      refine v_iload (q := 36) dX5_firstAcross_34 rfl rfl ?_
      refine v_iadd (q := 37) dX5_firstAcross_36 rfl ?_
      exact v_iret rfl dX5_firstAcross_37 ⟨Nat.le_of_ble_eq_true rfl, Nat.le_of_ble_eq_true rfl⟩ rfl
  · refine v_ldc (q := 15) (v := (1000000000 : Int32)) kc_X5_42 dX5_firstAcross_13 rfl ?_
    exact v_iret rfl dX5_firstAcross_15 ⟨Nat.le_of_ble_eq_true rfl, Nat.le_of_ble_eq_true rfl⟩ rfl
theorem ct_X5_firstAcross (d : Nat) (hd : 1 ≤ d) (a0 : Nat) (x1 : Int32) (x2 : Int32) (x3 : Int32) (M : Me) (r : Int32) (hf : f_X5_firstAcross a0 x1 x2 x3 M = some r) : me_k M a0 = some (5, nf_c 5) ∧ Ct yX5_firstAcross mX5_firstAcross d 0 0 [.ref a0, .int x1, .int x2, .int x3] M (some (.int r), M) := by
  obtain ⟨hk, hb⟩ := ck_some hf
  exact ⟨hk, ct_of (by decide +kernel) rfl rfl (Nat.le_of_ble_eq_true rfl) (vb_X5_firstAcross d hd a0 x1 x2 x3 M) (by rw [hb]; rfl)⟩
theorem dX5_fillFirstDays_0 : decode cX5_fillFirstDays 0 = .ok (.aload_n 3, 1) := by decide +kernel
theorem dX5_fillFirstDays_1 : decode cX5_fillFirstDays 1 = .ok (.ldc 42, 2) := by decide +kernel
theorem dX5_fillFirstDays_3 : decode cX5_fillFirstDays 3 = .ok (.invokestatic 48, 3) := by decide +kernel
theorem dX5_fillFirstDays_6 : decode cX5_fillFirstDays 6 = .ok (.aload_n 0, 1) := by decide +kernel
theorem dX5_fillFirstDays_7 : decode cX5_fillFirstDays 7 = .ok (.iload_n 1, 1) := by decide +kernel
theorem dX5_fillFirstDays_8 : decode cX5_fillFirstDays 8 = .ok (.invokevirtual 28, 3) := by decide +kernel
theorem dX5_fillFirstDays_11 : decode cX5_fillFirstDays 11 = .ok (.ifCond .eq 9, 3) := by decide +kernel
theorem dX5_fillFirstDays_14 : decode cX5_fillFirstDays 14 = .ok (.aload_n 3, 1) := by decide +kernel
theorem dX5_fillFirstDays_15 : decode cX5_fillFirstDays 15 = .ok (.arraylength, 1) := by decide +kernel
theorem dX5_fillFirstDays_16 : decode cX5_fillFirstDays 16 = .ok (.iconst 5, 1) := by decide +kernel
theorem dX5_fillFirstDays_17 : decode cX5_fillFirstDays 17 = .ok (.if_icmp .ge 4, 3) := by decide +kernel
theorem dX5_fillFirstDays_20 : decode cX5_fillFirstDays 20 = .ok (.return_, 1) := by decide +kernel
theorem dX5_fillFirstDays_21 : decode cX5_fillFirstDays 21 = .ok (.aload_n 3, 1) := by decide +kernel
theorem dX5_fillFirstDays_22 : decode cX5_fillFirstDays 22 = .ok (.iload_n 1, 1) := by decide +kernel
theorem dX5_fillFirstDays_23 : decode cX5_fillFirstDays 23 = .ok (.iload_n 2, 1) := by decide +kernel
theorem dX5_fillFirstDays_24 : decode cX5_fillFirstDays 24 = .ok (.iastore, 1) := by decide +kernel
theorem dX5_fillFirstDays_25 : decode cX5_fillFirstDays 25 = .ok (.iconst 1, 1) := by decide +kernel
theorem dX5_fillFirstDays_26 : decode cX5_fillFirstDays 26 = .ok (.istore 4, 2) := by decide +kernel
theorem dX5_fillFirstDays_28 : decode cX5_fillFirstDays 28 = .ok (.iload 4, 2) := by decide +kernel
theorem dX5_fillFirstDays_30 : decode cX5_fillFirstDays 30 = .ok (.aload_n 0, 1) := by decide +kernel
theorem dX5_fillFirstDays_31 : decode cX5_fillFirstDays 31 = .ok (.getfield 9, 3) := by decide +kernel
theorem dX5_fillFirstDays_34 : decode cX5_fillFirstDays 34 = .ok (.if_icmp .ge 89, 3) := by decide +kernel
theorem dX5_fillFirstDays_37 : decode cX5_fillFirstDays 37 = .ok (.iconst 0, 1) := by decide +kernel
theorem dX5_fillFirstDays_38 : decode cX5_fillFirstDays 38 = .ok (.istore 5, 2) := by decide +kernel
theorem dX5_fillFirstDays_40 : decode cX5_fillFirstDays 40 = .ok (.iload 5, 2) := by decide +kernel
theorem dX5_fillFirstDays_42 : decode cX5_fillFirstDays 42 = .ok (.aload_n 0, 1) := by decide +kernel
theorem dX5_fillFirstDays_43 : decode cX5_fillFirstDays 43 = .ok (.getfield 9, 3) := by decide +kernel
theorem dX5_fillFirstDays_46 : decode cX5_fillFirstDays 46 = .ok (.if_icmp .ge 71, 3) := by decide +kernel
theorem dX5_fillFirstDays_49 : decode cX5_fillFirstDays 49 = .ok (.iload 5, 2) := by decide +kernel
theorem dX5_fillFirstDays_51 : decode cX5_fillFirstDays 51 = .ok (.iconst 5, 1) := by decide +kernel
theorem dX5_fillFirstDays_52 : decode cX5_fillFirstDays 52 = .ok (.if_icmp .ge 65, 3) := by decide +kernel
theorem dX5_fillFirstDays_55 : decode cX5_fillFirstDays 55 = .ok (.iconst 0, 1) := by decide +kernel
theorem dX5_fillFirstDays_56 : decode cX5_fillFirstDays 56 = .ok (.istore 6, 2) := by decide +kernel
theorem dX5_fillFirstDays_58 : decode cX5_fillFirstDays 58 = .ok (.iload 6, 2) := by decide +kernel
theorem dX5_fillFirstDays_60 : decode cX5_fillFirstDays 60 = .ok (.aload_n 0, 1) := by decide +kernel
theorem dX5_fillFirstDays_61 : decode cX5_fillFirstDays 61 = .ok (.getfield 9, 3) := by decide +kernel
theorem dX5_fillFirstDays_64 : decode cX5_fillFirstDays 64 = .ok (.if_icmp .ge 47, 3) := by decide +kernel
theorem dX5_fillFirstDays_67 : decode cX5_fillFirstDays 67 = .ok (.iload 6, 2) := by decide +kernel
theorem dX5_fillFirstDays_69 : decode cX5_fillFirstDays 69 = .ok (.iconst 5, 1) := by decide +kernel
theorem dX5_fillFirstDays_70 : decode cX5_fillFirstDays 70 = .ok (.if_icmp .ge 41, 3) := by decide +kernel
theorem dX5_fillFirstDays_73 : decode cX5_fillFirstDays 73 = .ok (.aload_n 3, 1) := by decide +kernel
theorem dX5_fillFirstDays_74 : decode cX5_fillFirstDays 74 = .ok (.iload 5, 2) := by decide +kernel
theorem dX5_fillFirstDays_76 : decode cX5_fillFirstDays 76 = .ok (.iaload, 1) := by decide +kernel
theorem dX5_fillFirstDays_77 : decode cX5_fillFirstDays 77 = .ok (.ldc 42, 2) := by decide +kernel
theorem dX5_fillFirstDays_79 : decode cX5_fillFirstDays 79 = .ok (.if_icmp .ge 32, 3) := by decide +kernel
theorem dX5_fillFirstDays_82 : decode cX5_fillFirstDays 82 = .ok (.aload_n 3, 1) := by decide +kernel
theorem dX5_fillFirstDays_83 : decode cX5_fillFirstDays 83 = .ok (.iload 6, 2) := by decide +kernel
theorem dX5_fillFirstDays_85 : decode cX5_fillFirstDays 85 = .ok (.aload_n 3, 1) := by decide +kernel
theorem dX5_fillFirstDays_86 : decode cX5_fillFirstDays 86 = .ok (.iload 6, 2) := by decide +kernel
theorem dX5_fillFirstDays_88 : decode cX5_fillFirstDays 88 = .ok (.iaload, 1) := by decide +kernel
theorem dX5_fillFirstDays_89 : decode cX5_fillFirstDays 89 = .ok (.aload_n 0, 1) := by decide +kernel
theorem dX5_fillFirstDays_90 : decode cX5_fillFirstDays 90 = .ok (.iload 5, 2) := by decide +kernel
theorem dX5_fillFirstDays_92 : decode cX5_fillFirstDays 92 = .ok (.iload 6, 2) := by decide +kernel
theorem dX5_fillFirstDays_94 : decode cX5_fillFirstDays 94 = .ok (.aload_n 3, 1) := by decide +kernel
theorem dX5_fillFirstDays_95 : decode cX5_fillFirstDays 95 = .ok (.iload 5, 2) := by decide +kernel
theorem dX5_fillFirstDays_97 : decode cX5_fillFirstDays 97 = .ok (.iaload, 1) := by decide +kernel
theorem dX5_fillFirstDays_98 : decode cX5_fillFirstDays 98 = .ok (.invokevirtual 54, 3) := by decide +kernel
theorem dX5_fillFirstDays_101 : decode cX5_fillFirstDays 101 = .ok (.invokestatic 43, 3) := by decide +kernel
theorem dX5_fillFirstDays_104 : decode cX5_fillFirstDays 104 = .ok (.iastore, 1) := by decide +kernel
theorem dX5_fillFirstDays_105 : decode cX5_fillFirstDays 105 = .ok (.iinc 6 1, 3) := by decide +kernel
theorem dX5_fillFirstDays_108 : decode cX5_fillFirstDays 108 = .ok (.goto (-50), 3) := by decide +kernel
theorem dX5_fillFirstDays_111 : decode cX5_fillFirstDays 111 = .ok (.iinc 5 1, 3) := by decide +kernel
theorem dX5_fillFirstDays_114 : decode cX5_fillFirstDays 114 = .ok (.goto (-74), 3) := by decide +kernel
theorem dX5_fillFirstDays_117 : decode cX5_fillFirstDays 117 = .ok (.iinc 4 1, 3) := by decide +kernel
theorem dX5_fillFirstDays_120 : decode cX5_fillFirstDays 120 = .ok (.goto (-92), 3) := by decide +kernel
theorem dX5_fillFirstDays_123 : decode cX5_fillFirstDays 123 = .ok (.return_, 1) := by decide +kernel
noncomputable def s_X5_fillFirstDays_58 (a0 : Nat) (a3 : Nat) (v9 : Int32) (M11 : Me) (v12 : Int32) : Option ((Me × Int32) ⊕ (Me × Int32)) :=
  gi M11 a0 5 0 fun v13 =>
  if v13 ≤ v12 then (
    some (Sum.inr (M11, v12))
  ) else (
    if (5 : Int32) ≤ v12 then (
      some (Sum.inr (M11, v12))
    ) else (
      li M11 a3 v9 fun v14 =>
      if (1000000000 : Int32) ≤ v14 then (
        some (Sum.inr (M11, v12))
      ) else (
        li M11 a3 v12 fun v15 =>
        li M11 a3 v9 fun v16 =>
        cP (f_X5_firstAcross a0 v9 v12 v16 M11) fun v17 =>
        si M11 a3 v12 (mn_i v15 v17) fun M18 =>
        let_v (v12 + (1 : Int32)) fun v19 =>
        some (Sum.inl (M18, v19))
      )
    )
  )
noncomputable def s_X5_fillFirstDays_40 (a0 : Nat) (a3 : Nat) (M8 : Me) (v9 : Int32) : Option ((Me × Int32) ⊕ (Me × Int32)) :=
  gi M8 a0 5 0 fun v10 =>
  if v10 ≤ v9 then (
    some (Sum.inr (M8, v9))
  ) else (
    if (5 : Int32) ≤ v9 then (
      some (Sum.inr (M8, v9))
    ) else (
      (lp (fun s => s_X5_fillFirstDays_58 a0 a3 v9 s.1 s.2) (M8, (0 : Int32))).bind fun e20 =>
      let_v (v9 + (1 : Int32)) fun v21 =>
      some (Sum.inl (e20.1, v21))
    )
  )
noncomputable def s_X5_fillFirstDays_28 (a0 : Nat) (a3 : Nat) (M5 : Me) (v6 : Int32) : Option ((Me × Int32) ⊕ (Me × Int32)) :=
  gi M5 a0 5 0 fun v7 =>
  if v7 ≤ v6 then (
    some (Sum.inr (M5, v6))
  ) else (
    (lp (fun s => s_X5_fillFirstDays_40 a0 a3 s.1 s.2) (M5, (0 : Int32))).bind fun e22 =>
    let_v (v6 + (1 : Int32)) fun v23 =>
    some (Sum.inl (e22.1, v23))
  )
noncomputable def b_X5_fillFirstDays (a0 : Nat) (x1 : Int32) (x2 : Int32) (a3 : Nat) (M : Me) : Option (Me) :=
  cM (f_J7_fill_53178 a3 (1000000000 : Int32) M) fun M1 =>
  cP (f_X5_hasChapel a0 x1 M1) fun v2 =>
  if v2 = 0 then (
    some M1
  ) else (
    al M1 a3 20 fun v3 =>
    if (5 : Int32) ≤ v3 then (
      si M1 a3 x1 x2 fun M4 =>
      (lp (fun s => s_X5_fillFirstDays_28 a0 a3 s.1 s.2) (M4, (1 : Int32))).bind fun e24 =>
      some e24.1
    ) else (
      some M1
    )
  )
noncomputable def f_X5_fillFirstDays (a0 : Nat) (x1 : Int32) (x2 : Int32) (a3 : Nat) (M : Me) : Option (Me) := ck M a0 5 (b_X5_fillFirstDays a0 x1 x2 a3 M)
set_option maxRecDepth 20000 in
theorem vb_X5_fillFirstDays (d : Nat) (hd : 2 ≤ d) (a0 : Nat) (x1 : Int32) (x2 : Int32) (a3 : Nat) (M : Me) : V (mX5_fillFirstDays, d, 0, 0) (0, 0) M 0 [some (.ref a0), some (.int x1), some (.int x2), some (.ref a3), none, none, none] [] (b_X5_fillFirstDays a0 x1 x2 a3 M) (fun M2 => some (none, M2)) := by
  unfold b_X5_fillFirstDays
  refine v_aload_n (q := 1) dX5_fillFirstDays_0 rfl rfl rfl ?_
  refine v_ldc (q := 3) (v := (1000000000 : Int32)) kc_X5_42 dX5_fillFirstDays_1 rfl ?_
  refine v_cMS2 (q := 6) (ct_J7_fill_53178 (d - 1) (by omega) _ _ _) dX5_fillFirstDays_3 rfl cc_X5_48 (by omega) (Nat.le_of_ble_eq_true rfl) ⟨Nat.le_of_ble_eq_true rfl, Nat.le_of_ble_eq_true rfl⟩ (fun M1 => ?_)
  refine v_aload_n (q := 7) dX5_fillFirstDays_6 rfl rfl rfl ?_
  refine v_iload_n (q := 8) dX5_fillFirstDays_7 rfl rfl rfl ?_
  refine v_cPV1 (q := 11) (ct_X5_hasChapel (d - 1) (by omega) _ _ _) dX5_fillFirstDays_8 rfl cc_X5_28 (by omega) (Nat.le_of_ble_eq_true rfl) ⟨Nat.le_of_ble_eq_true rfl, Nat.le_of_ble_eq_true rfl⟩ (fun v2 => ?_)
  refine v_if_eq (tgt := 20) (q := 14) dX5_fillFirstDays_11 rfl rfl ?_ ?_
  · exact v_vret rfl dX5_fillFirstDays_20 ⟨Nat.le_of_ble_eq_true rfl, Nat.le_of_ble_eq_true rfl⟩ rfl
  · refine v_aload_n (q := 15) dX5_fillFirstDays_14 rfl rfl rfl ?_
    refine v_alen (q := 16) (t0 := 0) dX5_fillFirstDays_15 rfl (Nat.le_of_ble_eq_true rfl) (fun _ => rfl) (fun v3 => ?_)
    refine v_iconst (q := 17) dX5_fillFirstDays_16 rfl ic_5 ?_
    refine v_icmp_ge (tgt := 21) (q := 20) dX5_fillFirstDays_17 rfl rfl ?_ ?_
    · refine v_aload_n (q := 22) dX5_fillFirstDays_21 rfl rfl rfl ?_
      refine v_iload_n (q := 23) dX5_fillFirstDays_22 rfl rfl rfl ?_
      refine v_iload_n (q := 24) dX5_fillFirstDays_23 rfl rfl rfl ?_
      refine v_iastore (q := 25) dX5_fillFirstDays_24 rfl (fun M4 => ?_)
      refine v_iconst (q := 26) dX5_fillFirstDays_25 rfl ic_1 ?_
      refine v_istore (q := 28) (loc2 := [some (.ref a0), some (.int x1), some (.int x2), some (.ref a3), some (.int (1 : Int32)), none, none]) dX5_fillFirstDays_26 rfl rfl (Nat.le_of_ble_eq_true rfl) rfl ?_
      refine v_lps (S := Me × Int32) 123 (fun s => s.1) (fun s => [some (.ref a0), some (.int x1), some (.int x2), some (.ref a3), some (.int s.2), none, none]) (fun e24 => e24.1) (fun e24 => [some (.ref a0), some (.int x1), some (.int x2), some (.ref a3), some (.int e24.2), none, none]) (fun e24 => ?_) (fun k K hk hx s => ?_)
      · exact v_vret rfl dX5_fillFirstDays_123 ⟨Nat.le_of_ble_eq_true rfl, Nat.le_of_ble_eq_true rfl⟩ rfl
      · obtain ⟨M5, v6⟩ := s
        show V _ _ M5 28 [some (.ref a0), some (.int x1), some (.int x2), some (.ref a3), some (.int v6), none, none] [] (s_X5_fillFirstDays_28 a0 a3 M5 v6) _
        unfold s_X5_fillFirstDays_28
        refine v_iload (q := 30) dX5_fillFirstDays_28 rfl rfl ?_
        refine v_aload_n (q := 31) dX5_fillFirstDays_30 rfl rfl rfl ?_
        refine v_getIb (q := 34) dX5_fillFirstDays_31 rfl fg_X5_9 (fun v7 => ?_)
        refine v_icmp_ge (tgt := 123) (q := 37) dX5_fillFirstDays_34 rfl rfl ?_ ?_
        · exact v_inr (hx (M5, v6))
        · refine v_iconst (q := 38) dX5_fillFirstDays_37 rfl ic_0 ?_
          refine v_istore (q := 40) (loc2 := [some (.ref a0), some (.int x1), some (.int x2), some (.ref a3), some (.int v6), some (.int (0 : Int32)), none]) dX5_fillFirstDays_38 rfl rfl (Nat.le_of_ble_eq_true rfl) rfl ?_
          refine v_lps (S := Me × Int32) 117 (fun s => s.1) (fun s => [some (.ref a0), some (.int x1), some (.int x2), some (.ref a3), some (.int v6), some (.int s.2), none]) (fun e22 => e22.1) (fun e22 => [some (.ref a0), some (.int x1), some (.int x2), some (.ref a3), some (.int v6), some (.int e22.2), none]) (fun e22 => ?_) (fun k K hk hx s => ?_)
          · refine v_iincL (q := 120) (x := v6) (cst := (1 : Int32)) (f := fun v23 => [some (.ref a0), some (.int x1), some (.int x2), some (.ref a3), some (.int v23), some (.int e22.2), none]) dX5_fillFirstDays_117 rfl rfl ic_1 rfl (Nat.le_of_ble_eq_true rfl) (fun _ => rfl) (fun v23 => ?_)
            refine v_goto (tgt := 28) dX5_fillFirstDays_120 rfl ?_
            exact v_inl (v_weak (hk (e22.1, v23)) ⟨rfl, ⟨rfl, ⟨rfl, ⟨rfl, ⟨rfl, trivial⟩⟩⟩⟩⟩)
          · obtain ⟨M8, v9⟩ := s
            show V _ _ M8 40 [some (.ref a0), some (.int x1), some (.int x2), some (.ref a3), some (.int v6), some (.int v9), none] [] (s_X5_fillFirstDays_40 a0 a3 M8 v9) _
            unfold s_X5_fillFirstDays_40
            refine v_iload (q := 42) dX5_fillFirstDays_40 rfl rfl ?_
            refine v_aload_n (q := 43) dX5_fillFirstDays_42 rfl rfl rfl ?_
            refine v_getIb (q := 46) dX5_fillFirstDays_43 rfl fg_X5_9 (fun v10 => ?_)
            refine v_icmp_ge (tgt := 117) (q := 49) dX5_fillFirstDays_46 rfl rfl ?_ ?_
            · exact v_inr (hx (M8, v9))
            · refine v_iload (q := 51) dX5_fillFirstDays_49 rfl rfl ?_
              refine v_iconst (q := 52) dX5_fillFirstDays_51 rfl ic_5 ?_
              refine v_icmp_ge (tgt := 117) (q := 55) dX5_fillFirstDays_52 rfl rfl ?_ ?_
              · exact v_inr (hx (M8, v9))
              · refine v_iconst (q := 56) dX5_fillFirstDays_55 rfl ic_0 ?_
                refine v_istore (q := 58) (loc2 := [some (.ref a0), some (.int x1), some (.int x2), some (.ref a3), some (.int v6), some (.int v9), some (.int (0 : Int32))]) dX5_fillFirstDays_56 rfl rfl (Nat.le_of_ble_eq_true rfl) rfl ?_
                refine v_lps (S := Me × Int32) 111 (fun s => s.1) (fun s => [some (.ref a0), some (.int x1), some (.int x2), some (.ref a3), some (.int v6), some (.int v9), some (.int s.2)]) (fun e20 => e20.1) (fun e20 => [some (.ref a0), some (.int x1), some (.int x2), some (.ref a3), some (.int v6), some (.int v9), some (.int e20.2)]) (fun e20 => ?_) (fun k K hk hx s => ?_)
                · refine v_iincL (q := 114) (x := v9) (cst := (1 : Int32)) (f := fun v21 => [some (.ref a0), some (.int x1), some (.int x2), some (.ref a3), some (.int v6), some (.int v21), some (.int e20.2)]) dX5_fillFirstDays_111 rfl rfl ic_1 rfl (Nat.le_of_ble_eq_true rfl) (fun _ => rfl) (fun v21 => ?_)
                  refine v_goto (tgt := 40) dX5_fillFirstDays_114 rfl ?_
                  exact v_inl (v_weak (hk (e20.1, v21)) ⟨rfl, ⟨rfl, ⟨rfl, ⟨rfl, ⟨rfl, ⟨rfl, trivial⟩⟩⟩⟩⟩⟩)
                · obtain ⟨M11, v12⟩ := s
                  show V _ _ M11 58 [some (.ref a0), some (.int x1), some (.int x2), some (.ref a3), some (.int v6), some (.int v9), some (.int v12)] [] (s_X5_fillFirstDays_58 a0 a3 v9 M11 v12) _
                  unfold s_X5_fillFirstDays_58
                  refine v_iload (q := 60) dX5_fillFirstDays_58 rfl rfl ?_
                  refine v_aload_n (q := 61) dX5_fillFirstDays_60 rfl rfl rfl ?_
                  refine v_getIb (q := 64) dX5_fillFirstDays_61 rfl fg_X5_9 (fun v13 => ?_)
                  refine v_icmp_ge (tgt := 111) (q := 67) dX5_fillFirstDays_64 rfl rfl ?_ ?_
                  · exact v_inr (hx (M11, v12))
                  · refine v_iload (q := 69) dX5_fillFirstDays_67 rfl rfl ?_
                    refine v_iconst (q := 70) dX5_fillFirstDays_69 rfl ic_5 ?_
                    refine v_icmp_ge (tgt := 111) (q := 73) dX5_fillFirstDays_70 rfl rfl ?_ ?_
                    · exact v_inr (hx (M11, v12))
                    · refine v_aload_n (q := 74) dX5_fillFirstDays_73 rfl rfl rfl ?_
                      refine v_iload (q := 76) dX5_fillFirstDays_74 rfl rfl ?_
                      refine v_iaload (q := 77) dX5_fillFirstDays_76 rfl (fun v14 => ?_)
                      refine v_ldc (q := 79) (v := (1000000000 : Int32)) kc_X5_42 dX5_fillFirstDays_77 rfl ?_
                      refine v_icmp_ge (tgt := 111) (q := 82) dX5_fillFirstDays_79 rfl rfl ?_ ?_
                      · exact v_inr (hx (M11, v12))
                      · refine v_aload_n (q := 83) dX5_fillFirstDays_82 rfl rfl rfl ?_
                        refine v_iload (q := 85) dX5_fillFirstDays_83 rfl rfl ?_
                        refine v_aload_n (q := 86) dX5_fillFirstDays_85 rfl rfl rfl ?_
                        refine v_iload (q := 88) dX5_fillFirstDays_86 rfl rfl ?_
                        refine v_iaload (q := 89) dX5_fillFirstDays_88 rfl (fun v15 => ?_)
                        refine v_aload_n (q := 90) dX5_fillFirstDays_89 rfl rfl rfl ?_
                        refine v_iload (q := 92) dX5_fillFirstDays_90 rfl rfl ?_
                        refine v_iload (q := 94) dX5_fillFirstDays_92 rfl rfl ?_
                        refine v_aload_n (q := 95) dX5_fillFirstDays_94 rfl rfl rfl ?_
                        refine v_iload (q := 97) dX5_fillFirstDays_95 rfl rfl ?_
                        refine v_iaload (q := 98) dX5_fillFirstDays_97 rfl (fun v16 => ?_)
                        refine v_cPV3 (q := 101) (ct_X5_firstAcross (d - 1) (by omega) _ _ _ _ _) dX5_fillFirstDays_98 rfl cc_X5_54 (by omega) (Nat.le_of_ble_eq_true rfl) ⟨Nat.le_of_ble_eq_true rfl, Nat.le_of_ble_eq_true rfl⟩ (fun v17 => ?_)
                        refine v_mn_i (q := 104) dX5_fillFirstDays_101 rfl cc_X5_43 (by show 1 ≤ d; omega) (Nat.le_of_ble_eq_true rfl) ⟨Nat.le_of_ble_eq_true rfl, Nat.le_of_ble_eq_true rfl⟩ ?_
                        refine v_iastore (q := 105) dX5_fillFirstDays_104 rfl (fun M18 => ?_)
                        refine v_iincL (q := 108) (x := v12) (cst := (1 : Int32)) (f := fun v19 => [some (.ref a0), some (.int x1), some (.int x2), some (.ref a3), some (.int v6), some (.int v9), some (.int v19)]) dX5_fillFirstDays_105 rfl rfl ic_1 rfl (Nat.le_of_ble_eq_true rfl) (fun _ => rfl) (fun v19 => ?_)
                        refine v_goto (tgt := 58) dX5_fillFirstDays_108 rfl ?_
                        exact v_inl (hk (M18, v19))
    · exact v_vret rfl dX5_fillFirstDays_20 ⟨Nat.le_of_ble_eq_true rfl, Nat.le_of_ble_eq_true rfl⟩ rfl
theorem ct_X5_fillFirstDays (d : Nat) (hd : 2 ≤ d) (a0 : Nat) (x1 : Int32) (x2 : Int32) (a3 : Nat) (M : Me) (r : Me) (hf : f_X5_fillFirstDays a0 x1 x2 a3 M = some r) : me_k M a0 = some (5, nf_c 5) ∧ Ct yX5_fillFirstDays mX5_fillFirstDays d 0 0 [.ref a0, .int x1, .int x2, .ref a3] M (none, r) := by
  obtain ⟨hk, hb⟩ := ck_some hf
  exact ⟨hk, ct_of (by decide +kernel) rfl rfl (Nat.le_of_ble_eq_true rfl) (vb_X5_fillFirstDays d hd a0 x1 x2 a3 M) (by rw [hb]; rfl)⟩

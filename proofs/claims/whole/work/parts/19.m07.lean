theorem dX11_settled_0 : decode cX11_settled 0 = .ok (.aload_n 0, 1) := by decide +kernel
theorem dX11_settled_1 : decode cX11_settled 1 = .ok (.getfield 44, 3) := by decide +kernel
theorem dX11_settled_4 : decode cX11_settled 4 = .ok (.aload_n 0, 1) := by decide +kernel
theorem dX11_settled_5 : decode cX11_settled 5 = .ok (.getfield 19, 3) := by decide +kernel
theorem dX11_settled_8 : decode cX11_settled 8 = .ok (.getfield 85, 3) := by decide +kernel
theorem dX11_settled_11 : decode cX11_settled 11 = .ok (.invokevirtual 193, 3) := by decide +kernel
theorem dX11_settled_14 : decode cX11_settled 14 = .ok (.ireturn, 1) := by decide +kernel
noncomputable def b_X11_settled (a0 : Nat) (M : Me) : Option (Int32 × Me) :=
  gr M a0 11 5 fun o1 =>
  gr M a0 11 1 fun o2 =>
  gr M o2 0 2 fun o3 =>
  cI (f_X6_fewestPayments o1 o3 M) fun v4 M5 =>
  some (v4, M5)
noncomputable def f_X11_settled (a0 : Nat) (M : Me) : Option (Int32 × Me) := ck M a0 11 (b_X11_settled a0 M)
set_option maxRecDepth 20000 in
theorem vb_X11_settled (d : Nat) (hd : 2 ≤ d) (a0 : Nat) (M : Me) : V (mX11_settled, d, 0, 0) (0, 0) M 0 [some (.ref a0)] [] (b_X11_settled a0 M) (fun z => some (some (.int z.1), z.2)) := by
  unfold b_X11_settled
  refine v_aload_n (q := 1) dX11_settled_0 rfl rfl rfl ?_
  refine v_getRb (q := 4) dX11_settled_1 rfl fg_X11_44 (fun o1 => ?_)
  refine v_aload_n (q := 5) dX11_settled_4 rfl rfl rfl ?_
  refine v_getRb (q := 8) dX11_settled_5 rfl fg_X11_19 (fun o2 => ?_)
  refine v_getRb (q := 11) dX11_settled_8 rfl fg_X11_85 (fun o3 => ?_)
  refine v_cIV1 (q := 14) (ct_X6_fewestPayments (d - 1) (by omega) _ _ _) dX11_settled_11 rfl cc_X11_193 (by omega) (Nat.le_of_ble_eq_true rfl) ⟨Nat.le_of_ble_eq_true rfl, Nat.le_of_ble_eq_true rfl⟩ (fun v4 M5 => ?_)
  exact v_iret rfl dX11_settled_14 ⟨Nat.le_of_ble_eq_true rfl, Nat.le_of_ble_eq_true rfl⟩ rfl
theorem ct_X11_settled (d : Nat) (hd : 2 ≤ d) (a0 : Nat) (M : Me) (r : Int32) (M2 : Me) (hf : f_X11_settled a0 M = some (r, M2)) : me_k M a0 = some (11, nf_c 11) ∧ Ct yX11_settled mX11_settled d 0 0 [.ref a0] M (some (.int r), M2) := by
  obtain ⟨hk, hb⟩ := ck_some hf
  exact ⟨hk, ct_of (by decide +kernel) rfl rfl (Nat.le_of_ble_eq_true rfl) (vb_X11_settled d hd a0 M) (by rw [hb]; rfl)⟩
theorem dX11_ring_0 : decode cX11_ring 0 = .ok (.aload_n 0, 1) := by decide +kernel
theorem dX11_ring_1 : decode cX11_ring 1 = .ok (.getfield 44, 3) := by decide +kernel
theorem dX11_ring_4 : decode cX11_ring 4 = .ok (.aload_n 0, 1) := by decide +kernel
theorem dX11_ring_5 : decode cX11_ring 5 = .ok (.getfield 19, 3) := by decide +kernel
theorem dX11_ring_8 : decode cX11_ring 8 = .ok (.getfield 85, 3) := by decide +kernel
theorem dX11_ring_11 : decode cX11_ring 11 = .ok (.invokevirtual 197, 3) := by decide +kernel
theorem dX11_ring_14 : decode cX11_ring 14 = .ok (.ireturn, 1) := by decide +kernel
noncomputable def b_X11_ring (a0 : Nat) (M : Me) : Option (Int32 × Me) :=
  gr M a0 11 5 fun o1 =>
  gr M a0 11 1 fun o2 =>
  gr M o2 0 2 fun o3 =>
  cI (f_X6_shortestRing o1 o3 M) fun v4 M5 =>
  some (v4, M5)
noncomputable def f_X11_ring (a0 : Nat) (M : Me) : Option (Int32 × Me) := ck M a0 11 (b_X11_ring a0 M)
set_option maxRecDepth 20000 in
theorem vb_X11_ring (d : Nat) (hd : 3 ≤ d) (a0 : Nat) (M : Me) : V (mX11_ring, d, 0, 0) (0, 0) M 0 [some (.ref a0)] [] (b_X11_ring a0 M) (fun z => some (some (.int z.1), z.2)) := by
  unfold b_X11_ring
  refine v_aload_n (q := 1) dX11_ring_0 rfl rfl rfl ?_
  refine v_getRb (q := 4) dX11_ring_1 rfl fg_X11_44 (fun o1 => ?_)
  refine v_aload_n (q := 5) dX11_ring_4 rfl rfl rfl ?_
  refine v_getRb (q := 8) dX11_ring_5 rfl fg_X11_19 (fun o2 => ?_)
  refine v_getRb (q := 11) dX11_ring_8 rfl fg_X11_85 (fun o3 => ?_)
  refine v_cIV1 (q := 14) (ct_X6_shortestRing (d - 1) (by omega) _ _ _) dX11_ring_11 rfl cc_X11_197 (by omega) (Nat.le_of_ble_eq_true rfl) ⟨Nat.le_of_ble_eq_true rfl, Nat.le_of_ble_eq_true rfl⟩ (fun v4 M5 => ?_)
  exact v_iret rfl dX11_ring_14 ⟨Nat.le_of_ble_eq_true rfl, Nat.le_of_ble_eq_true rfl⟩ rfl
theorem ct_X11_ring (d : Nat) (hd : 3 ≤ d) (a0 : Nat) (M : Me) (r : Int32) (M2 : Me) (hf : f_X11_ring a0 M = some (r, M2)) : me_k M a0 = some (11, nf_c 11) ∧ Ct yX11_ring mX11_ring d 0 0 [.ref a0] M (some (.int r), M2) := by
  obtain ⟨hk, hb⟩ := ck_some hf
  exact ⟨hk, ct_of (by decide +kernel) rfl rfl (Nat.le_of_ble_eq_true rfl) (vb_X11_ring d hd a0 M) (by rw [hb]; rfl)⟩
theorem dX11_cut_0 : decode cX11_cut 0 = .ok (.iload_n 1, 1) := by decide +kernel
theorem dX11_cut_1 : decode cX11_cut 1 = .ok (.ifCond .le 9, 3) := by decide +kernel
theorem dX11_cut_4 : decode cX11_cut 4 = .ok (.iload_n 0, 1) := by decide +kernel
theorem dX11_cut_5 : decode cX11_cut 5 = .ok (.iload_n 1, 1) := by decide +kernel
theorem dX11_cut_6 : decode cX11_cut 6 = .ok (.idiv, 1) := by decide +kernel
theorem dX11_cut_7 : decode cX11_cut 7 = .ok (.goto 4, 3) := by decide +kernel
theorem dX11_cut_10 : decode cX11_cut 10 = .ok (.iconst 0, 1) := by decide +kernel
theorem dX11_cut_11 : decode cX11_cut 11 = .ok (.ireturn, 1) := by decide +kernel
noncomputable def b_X11_cut (x0 : Int32) (x1 : Int32) (M : Me) : Option (Int32) :=
  (
    if x1 ≤ 0 then (
      some (0 : Int32)
    ) else (
      if x1 = 0 then none else
      some (x0 / x1)
    )
  ).bind fun v1 =>
  some v1
noncomputable def f_X11_cut (x0 : Int32) (x1 : Int32) (M : Me) : Option (Int32) := b_X11_cut x0 x1 M
set_option maxRecDepth 20000 in
theorem vb_X11_cut (d : Nat) (hd : 0 ≤ d) (x0 : Int32) (x1 : Int32) (M : Me) : V (mX11_cut, d, 0, 0) (0, 0) M 0 [some (.int x0), some (.int x1)] [] (b_X11_cut x0 x1 M) (fun z => some (some (.int z), M)) := by
  unfold b_X11_cut
  refine v_iload_n (q := 1) dX11_cut_0 rfl rfl rfl ?_
  refine v_join (γ := Int32) 11 (fun v1 => M) (fun v1 => [some (.int x0), some (.int x1)]) (fun v1 => [.int v1]) (fun K hK => ?_) (fun v1 => ?_)
  · refine v_if_le (tgt := 10) (q := 4) dX11_cut_1 rfl rfl ?_ ?_
    · refine v_iconst (q := 11) dX11_cut_10 rfl ic_0 ?_
      exact hK (0 : Int32)
    · refine v_iload_n (q := 5) dX11_cut_4 rfl rfl rfl ?_
      refine v_iload_n (q := 6) dX11_cut_5 rfl rfl rfl ?_
      refine v_idiv (q := 7) dX11_cut_6 rfl ?_
      refine v_goto (tgt := 11) dX11_cut_7 rfl ?_
      exact hK (x0 / x1)
  · exact v_iret rfl dX11_cut_11 ⟨Nat.le_of_ble_eq_true rfl, Nat.le_of_ble_eq_true rfl⟩ rfl
theorem ct_X11_cut (d : Nat) (hd : 0 ≤ d) (x0 : Int32) (x1 : Int32) (M : Me) (r : Int32) (hf : f_X11_cut x0 x1 M = some r) : Ct yX11_cut mX11_cut d 0 0 [.int x0, .int x1] M (some (.int r), M) := by
  have hb : b_X11_cut x0 x1 M = some r := hf
  exact ct_of (by decide +kernel) rfl rfl (Nat.le_of_ble_eq_true rfl) (vb_X11_cut d hd x0 x1 M) (by rw [hb]; rfl)
theorem dX11_reckoned_0 : decode cX11_reckoned 0 = .ok (.iload_n 1, 1) := by decide +kernel
theorem dX11_reckoned_1 : decode cX11_reckoned 1 = .ok (.iconst 0, 1) := by decide +kernel
theorem dX11_reckoned_2 : decode cX11_reckoned 2 = .ok (.ldc 200, 2) := by decide +kernel
theorem dX11_reckoned_4 : decode cX11_reckoned 4 = .ok (.invokestatic 55, 3) := by decide +kernel
theorem dX11_reckoned_7 : decode cX11_reckoned 7 = .ok (.ifCond .eq 13, 3) := by decide +kernel
theorem dX11_reckoned_10 : decode cX11_reckoned 10 = .ok (.iload_n 2, 1) := by decide +kernel
theorem dX11_reckoned_11 : decode cX11_reckoned 11 = .ok (.iconst 0, 1) := by decide +kernel
theorem dX11_reckoned_12 : decode cX11_reckoned 12 = .ok (.bipush 99, 2) := by decide +kernel
theorem dX11_reckoned_14 : decode cX11_reckoned 14 = .ok (.invokestatic 55, 3) := by decide +kernel
theorem dX11_reckoned_17 : decode cX11_reckoned 17 = .ok (.ifCond .ne 6, 3) := by decide +kernel
theorem dX11_reckoned_20 : decode cX11_reckoned 20 = .ok (.bipush (-2), 2) := by decide +kernel
theorem dX11_reckoned_22 : decode cX11_reckoned 22 = .ok (.ireturn, 1) := by decide +kernel
theorem dX11_reckoned_23 : decode cX11_reckoned 23 = .ok (.aload_n 0, 1) := by decide +kernel
theorem dX11_reckoned_24 : decode cX11_reckoned 24 = .ok (.getfield 19, 3) := by decide +kernel
theorem dX11_reckoned_27 : decode cX11_reckoned 27 = .ok (.getfield 59, 3) := by decide +kernel
theorem dX11_reckoned_30 : decode cX11_reckoned 30 = .ok (.getfield 94, 3) := by decide +kernel
theorem dX11_reckoned_33 : decode cX11_reckoned 33 = .ok (.istore 4, 2) := by decide +kernel
theorem dX11_reckoned_35 : decode cX11_reckoned 35 = .ok (.iload_n 3, 1) := by decide +kernel
theorem dX11_reckoned_36 : decode cX11_reckoned 36 = .ok (.tableswitch 55 0 2 #[28, 37, 46], 28) := by decide +kernel
theorem dX11_reckoned_64 : decode cX11_reckoned 64 = .ok (.iload_n 1, 1) := by decide +kernel
theorem dX11_reckoned_65 : decode cX11_reckoned 65 = .ok (.iload_n 2, 1) := by decide +kernel
theorem dX11_reckoned_66 : decode cX11_reckoned 66 = .ok (.iadd, 1) := by decide +kernel
theorem dX11_reckoned_67 : decode cX11_reckoned 67 = .ok (.iload 4, 2) := by decide +kernel
theorem dX11_reckoned_69 : decode cX11_reckoned 69 = .ok (.invokestatic 201, 3) := by decide +kernel
theorem dX11_reckoned_72 : decode cX11_reckoned 72 = .ok (.ireturn, 1) := by decide +kernel
theorem dX11_reckoned_73 : decode cX11_reckoned 73 = .ok (.iload_n 1, 1) := by decide +kernel
theorem dX11_reckoned_74 : decode cX11_reckoned 74 = .ok (.iload_n 2, 1) := by decide +kernel
theorem dX11_reckoned_75 : decode cX11_reckoned 75 = .ok (.iadd, 1) := by decide +kernel
theorem dX11_reckoned_76 : decode cX11_reckoned 76 = .ok (.iload 4, 2) := by decide +kernel
theorem dX11_reckoned_78 : decode cX11_reckoned 78 = .ok (.invokestatic 204, 3) := by decide +kernel
theorem dX11_reckoned_81 : decode cX11_reckoned 81 = .ok (.ireturn, 1) := by decide +kernel
theorem dX11_reckoned_82 : decode cX11_reckoned 82 = .ok (.iconst 0, 1) := by decide +kernel
theorem dX11_reckoned_83 : decode cX11_reckoned 83 = .ok (.iload 4, 2) := by decide +kernel
theorem dX11_reckoned_85 : decode cX11_reckoned 85 = .ok (.iload_n 2, 1) := by decide +kernel
theorem dX11_reckoned_86 : decode cX11_reckoned 86 = .ok (.isub, 1) := by decide +kernel
theorem dX11_reckoned_87 : decode cX11_reckoned 87 = .ok (.invokestatic 207, 3) := by decide +kernel
theorem dX11_reckoned_90 : decode cX11_reckoned 90 = .ok (.ireturn, 1) := by decide +kernel
theorem dX11_reckoned_91 : decode cX11_reckoned 91 = .ok (.bipush (-2), 2) := by decide +kernel
theorem dX11_reckoned_93 : decode cX11_reckoned 93 = .ok (.ireturn, 1) := by decide +kernel
noncomputable def b_X11_reckoned (a0 : Nat) (x1 : Int32) (x2 : Int32) (x3 : Int32) (M : Me) : Option (Int32) :=
  cP (f_X11_isWithin x1 (0 : Int32) (99999 : Int32) M) fun v1 =>
  if v1 = 0 then (
    some (-2 : Int32)
  ) else (
    cP (f_X11_isWithin x2 (0 : Int32) (99 : Int32) M) fun v2 =>
    if v2 = 0 then (
      some (-2 : Int32)
    ) else (
      gr M a0 11 1 fun o3 =>
      gr M o3 0 0 fun o4 =>
      gi M o4 5 1 fun v5 =>
      if x3 = (0 : Int32) then (
        cP (f_X11_leftOver (x1 + x2) v5 M) fun v6 =>
        some v6
      ) else (
        if x3 = (1 : Int32) then (
          cP (f_X11_cut (x1 + x2) v5 M) fun v7 =>
          some v7
        ) else (
          if x3 = (2 : Int32) then (
            some (mx_i (0 : Int32) (v5 - x2))
          ) else (
            some (-2 : Int32)
          )
        )
      )
    )
  )
noncomputable def f_X11_reckoned (a0 : Nat) (x1 : Int32) (x2 : Int32) (x3 : Int32) (M : Me) : Option (Int32) := ck M a0 11 (b_X11_reckoned a0 x1 x2 x3 M)
set_option maxRecDepth 20000 in
theorem vb_X11_reckoned (d : Nat) (hd : 1 ≤ d) (a0 : Nat) (x1 : Int32) (x2 : Int32) (x3 : Int32) (M : Me) : V (mX11_reckoned, d, 0, 0) (0, 0) M 0 [some (.ref a0), some (.int x1), some (.int x2), some (.int x3), none] [] (b_X11_reckoned a0 x1 x2 x3 M) (fun z => some (some (.int z), M)) := by
  unfold b_X11_reckoned
  refine v_iload_n (q := 1) dX11_reckoned_0 rfl rfl rfl ?_
  refine v_iconst (q := 2) dX11_reckoned_1 rfl ic_0 ?_
  refine v_ldc (q := 4) (v := (99999 : Int32)) kc_X11_200 dX11_reckoned_2 rfl ?_
  refine v_cPS3 (q := 7) (ct_X11_isWithin (d - 1) (by omega) _ _ _ _) dX11_reckoned_4 rfl cc_X11_55 (by omega) (Nat.le_of_ble_eq_true rfl) ⟨Nat.le_of_ble_eq_true rfl, Nat.le_of_ble_eq_true rfl⟩ (fun v1 => ?_)
  refine v_if_eq (tgt := 20) (q := 10) dX11_reckoned_7 rfl rfl ?_ ?_
  · refine v_bipush (q := 22) dX11_reckoned_20 rfl bp_m2 ?_
    exact v_iret rfl dX11_reckoned_22 ⟨Nat.le_of_ble_eq_true rfl, Nat.le_of_ble_eq_true rfl⟩ rfl
  · refine v_iload_n (q := 11) dX11_reckoned_10 rfl rfl rfl ?_
    refine v_iconst (q := 12) dX11_reckoned_11 rfl ic_0 ?_
    refine v_bipush (q := 14) dX11_reckoned_12 rfl bp_99 ?_
    refine v_cPS3 (q := 17) (ct_X11_isWithin (d - 1) (by omega) _ _ _ _) dX11_reckoned_14 rfl cc_X11_55 (by omega) (Nat.le_of_ble_eq_true rfl) ⟨Nat.le_of_ble_eq_true rfl, Nat.le_of_ble_eq_true rfl⟩ (fun v2 => ?_)
    refine v_if_ne (tgt := 23) (q := 20) dX11_reckoned_17 rfl rfl ?_ ?_
    · refine v_aload_n (q := 24) dX11_reckoned_23 rfl rfl rfl ?_
      refine v_getRb (q := 27) dX11_reckoned_24 rfl fg_X11_19 (fun o3 => ?_)
      refine v_getRb (q := 30) dX11_reckoned_27 rfl fg_X11_59 (fun o4 => ?_)
      refine v_getIb (q := 33) dX11_reckoned_30 rfl fg_X11_94 (fun v5 => ?_)
      refine v_istore (q := 35) (loc2 := [some (.ref a0), some (.int x1), some (.int x2), some (.int x3), some (.int v5)]) dX11_reckoned_33 rfl rfl (Nat.le_of_ble_eq_true rfl) rfl ?_
      refine v_iload_n (q := 36) dX11_reckoned_35 rfl rfl rfl ?_
      refine v_ite (fun h0 => ?_) (fun h0 => ?_)
      · refine v_tbl_in (cst := (0 : Int32)) (off := 28) (tgt := 64) dX11_reckoned_36 h0 (by decide) (by decide) (by decide) rfl ?_
        refine v_iload_n (q := 65) dX11_reckoned_64 rfl rfl rfl ?_
        refine v_iload_n (q := 66) dX11_reckoned_65 rfl rfl rfl ?_
        refine v_iadd (q := 67) dX11_reckoned_66 rfl ?_
        refine v_iload (q := 69) dX11_reckoned_67 rfl rfl ?_
        refine v_cPS2 (q := 72) (ct_X11_leftOver (d - 1) (by omega) _ _ _) dX11_reckoned_69 rfl cc_X11_201 (by omega) (Nat.le_of_ble_eq_true rfl) ⟨Nat.le_of_ble_eq_true rfl, Nat.le_of_ble_eq_true rfl⟩ (fun v6 => ?_)
        exact v_iret rfl dX11_reckoned_72 ⟨Nat.le_of_ble_eq_true rfl, Nat.le_of_ble_eq_true rfl⟩ rfl
      · refine v_ite (fun h1 => ?_) (fun h1 => ?_)
        · refine v_tbl_in (cst := (1 : Int32)) (off := 37) (tgt := 73) dX11_reckoned_36 h1 (by decide) (by decide) (by decide) rfl ?_
          refine v_iload_n (q := 74) dX11_reckoned_73 rfl rfl rfl ?_
          refine v_iload_n (q := 75) dX11_reckoned_74 rfl rfl rfl ?_
          refine v_iadd (q := 76) dX11_reckoned_75 rfl ?_
          refine v_iload (q := 78) dX11_reckoned_76 rfl rfl ?_
          refine v_cPS2 (q := 81) (ct_X11_cut (d - 1) (by omega) _ _ _) dX11_reckoned_78 rfl cc_X11_204 (by omega) (Nat.le_of_ble_eq_true rfl) ⟨Nat.le_of_ble_eq_true rfl, Nat.le_of_ble_eq_true rfl⟩ (fun v7 => ?_)
          exact v_iret rfl dX11_reckoned_81 ⟨Nat.le_of_ble_eq_true rfl, Nat.le_of_ble_eq_true rfl⟩ rfl
        · refine v_ite (fun h2 => ?_) (fun h2 => ?_)
          · refine v_tbl_in (cst := (2 : Int32)) (off := 46) (tgt := 82) dX11_reckoned_36 h2 (by decide) (by decide) (by decide) rfl ?_
            refine v_iconst (q := 83) dX11_reckoned_82 rfl ic_0 ?_
            refine v_iload (q := 85) dX11_reckoned_83 rfl rfl ?_
            refine v_iload_n (q := 86) dX11_reckoned_85 rfl rfl rfl ?_
            refine v_isub (q := 87) dX11_reckoned_86 rfl ?_
            refine v_mx_i (q := 90) dX11_reckoned_87 rfl cc_X11_207 (by show 1 ≤ d; omega) (Nat.le_of_ble_eq_true rfl) ⟨Nat.le_of_ble_eq_true rfl, Nat.le_of_ble_eq_true rfl⟩ ?_
            exact v_iret rfl dX11_reckoned_90 ⟨Nat.le_of_ble_eq_true rfl, Nat.le_of_ble_eq_true rfl⟩ rfl
          · refine v_tbl_out (tgt := 91) dX11_reckoned_36 (by have q0 := lv_neT h0 (a := 0) (by decide); have q1 := lv_neT h1 (a := 1) (by decide); have q2 := lv_neT h2 (a := 2) (by decide); omega) rfl ?_
            refine v_bipush (q := 93) dX11_reckoned_91 rfl bp_m2 ?_
            exact v_iret rfl dX11_reckoned_93 ⟨Nat.le_of_ble_eq_true rfl, Nat.le_of_ble_eq_true rfl⟩ rfl
    · refine v_bipush (q := 22) dX11_reckoned_20 rfl bp_m2 ?_
      exact v_iret rfl dX11_reckoned_22 ⟨Nat.le_of_ble_eq_true rfl, Nat.le_of_ble_eq_true rfl⟩ rfl
theorem ct_X11_reckoned (d : Nat) (hd : 1 ≤ d) (a0 : Nat) (x1 : Int32) (x2 : Int32) (x3 : Int32) (M : Me) (r : Int32) (hf : f_X11_reckoned a0 x1 x2 x3 M = some r) : me_k M a0 = some (11, nf_c 11) ∧ Ct yX11_reckoned mX11_reckoned d 0 0 [.ref a0, .int x1, .int x2, .int x3] M (some (.int r), M) := by
  obtain ⟨hk, hb⟩ := ck_some hf
  exact ⟨hk, ct_of (by decide +kernel) rfl rfl (Nat.le_of_ble_eq_true rfl) (vb_X11_reckoned d hd a0 x1 x2 x3 M) (by rw [hb]; rfl)⟩
theorem dX11_areTenths_0 : decode cX11_areTenths 0 = .ok (.iload_n 0, 1) := by decide +kernel
theorem dX11_areTenths_1 : decode cX11_areTenths 1 = .ok (.iconst 0, 1) := by decide +kernel
theorem dX11_areTenths_2 : decode cX11_areTenths 2 = .ok (.bipush 10, 2) := by decide +kernel
theorem dX11_areTenths_4 : decode cX11_areTenths 4 = .ok (.invokestatic 55, 3) := by decide +kernel
theorem dX11_areTenths_7 : decode cX11_areTenths 7 = .ok (.ireturn, 1) := by decide +kernel
noncomputable def b_X11_areTenths (x0 : Int32) (M : Me) : Option (Int32) :=
  cP (f_X11_isWithin x0 (0 : Int32) (10 : Int32) M) fun v1 =>
  if v1 = 0 ∨ v1 = 1 then some v1 else none
noncomputable def f_X11_areTenths (x0 : Int32) (M : Me) : Option (Int32) := b_X11_areTenths x0 M
set_option maxRecDepth 20000 in
theorem vb_X11_areTenths (d : Nat) (hd : 1 ≤ d) (x0 : Int32) (M : Me) : V (mX11_areTenths, d, 0, 0) (0, 0) M 0 [some (.int x0)] [] (b_X11_areTenths x0 M) (fun z => some (some (.int z), M)) := by
  unfold b_X11_areTenths
  refine v_iload_n (q := 1) dX11_areTenths_0 rfl rfl rfl ?_
  refine v_iconst (q := 2) dX11_areTenths_1 rfl ic_0 ?_
  refine v_bipush (q := 4) dX11_areTenths_2 rfl bp_10 ?_
  refine v_cPS3 (q := 7) (ct_X11_isWithin (d - 1) (by omega) _ _ _ _) dX11_areTenths_4 rfl cc_X11_55 (by omega) (Nat.le_of_ble_eq_true rfl) ⟨Nat.le_of_ble_eq_true rfl, Nat.le_of_ble_eq_true rfl⟩ (fun v1 => ?_)
  exact v_zretC rfl dX11_areTenths_7 ⟨Nat.le_of_ble_eq_true rfl, Nat.le_of_ble_eq_true rfl⟩ rfl
theorem ct_X11_areTenths (d : Nat) (hd : 1 ≤ d) (x0 : Int32) (M : Me) (r : Int32) (hf : f_X11_areTenths x0 M = some r) : Ct yX11_areTenths mX11_areTenths d 0 0 [.int x0] M (some (.int r), M) := by
  have hb : b_X11_areTenths x0 M = some r := hf
  exact ct_of (by decide +kernel) rfl rfl (Nat.le_of_ble_eq_true rfl) (vb_X11_areTenths d hd x0 M) (by rw [hb]; rfl)
theorem dX11_power_0 : decode cX11_power 0 = .ok (.lconst 1, 1) := by decide +kernel
theorem dX11_power_1 : decode cX11_power 1 = .ok (.lstore_n 2, 1) := by decide +kernel
theorem dX11_power_2 : decode cX11_power 2 = .ok (.iconst 0, 1) := by decide +kernel
theorem dX11_power_3 : decode cX11_power 3 = .ok (.istore 4, 2) := by decide +kernel
theorem dX11_power_5 : decode cX11_power 5 = .ok (.iload 4, 2) := by decide +kernel
theorem dX11_power_7 : decode cX11_power 7 = .ok (.iload_n 1, 1) := by decide +kernel
theorem dX11_power_8 : decode cX11_power 8 = .ok (.if_icmp .ge 14, 3) := by decide +kernel
theorem dX11_power_11 : decode cX11_power 11 = .ok (.lload_n 2, 1) := by decide +kernel
theorem dX11_power_12 : decode cX11_power 12 = .ok (.iload_n 0, 1) := by decide +kernel
theorem dX11_power_13 : decode cX11_power 13 = .ok (.i2l, 1) := by decide +kernel
theorem dX11_power_14 : decode cX11_power 14 = .ok (.lmul, 1) := by decide +kernel
theorem dX11_power_15 : decode cX11_power 15 = .ok (.lstore_n 2, 1) := by decide +kernel
theorem dX11_power_16 : decode cX11_power 16 = .ok (.iinc 4 1, 3) := by decide +kernel
theorem dX11_power_19 : decode cX11_power 19 = .ok (.goto (-14), 3) := by decide +kernel
theorem dX11_power_22 : decode cX11_power 22 = .ok (.lload_n 2, 1) := by decide +kernel
theorem dX11_power_23 : decode cX11_power 23 = .ok (.lreturn, 1) := by decide +kernel
noncomputable def s_X11_power_5 (x0 : Int32) (x1 : Int32) (w1 : Int64) (v2 : Int32) : Option ((Int64 × Int32) ⊕ (Int64 × Int32)) :=
  if x1 ≤ v2 then (
    some (Sum.inr (w1, v2))
  ) else (
    let_v ((w1 * (x0.toInt64))) fun w3 =>
    let_v (v2 + (1 : Int32)) fun v4 =>
    some (Sum.inl (w3, v4))
  )
noncomputable def b_X11_power (x0 : Int32) (x1 : Int32) (M : Me) : Option (Int64) :=
  (lp (fun s => s_X11_power_5 x0 x1 s.1 s.2) ((1 : Int64), (0 : Int32))).bind fun e5 =>
  some e5.1
noncomputable def f_X11_power (x0 : Int32) (x1 : Int32) (M : Me) : Option (Int64) := b_X11_power x0 x1 M
set_option maxRecDepth 20000 in
theorem vb_X11_power (d : Nat) (hd : 0 ≤ d) (x0 : Int32) (x1 : Int32) (M : Me) : V (mX11_power, d, 0, 0) (0, 0) M 0 [some (.int x0), some (.int x1), none, none, none] [] (b_X11_power x0 x1 M) (fun z => some (some (.long z), M)) := by
  unfold b_X11_power
  refine v_lconst (q := 1) dX11_power_0 rfl rfl ?_
  refine v_lstore_n (q := 2) (loc2 := [some (.int x0), some (.int x1), some (.long (1 : Int64)), none, none]) dX11_power_1 rfl rfl rfl (Nat.le_of_ble_eq_true rfl) rfl ?_
  refine v_iconst (q := 3) dX11_power_2 rfl ic_0 ?_
  refine v_istore (q := 5) (loc2 := [some (.int x0), some (.int x1), some (.long (1 : Int64)), none, some (.int (0 : Int32))]) dX11_power_3 rfl rfl (Nat.le_of_ble_eq_true rfl) rfl ?_
  refine v_lps (S := Int64 × Int32) 22 (fun s => M) (fun s => [some (.int x0), some (.int x1), some (.long s.1), none, some (.int s.2)]) (fun e5 => M) (fun e5 => [some (.int x0), some (.int x1), some (.long e5.1), none, some (.int e5.2)]) (fun e5 => ?_) (fun k K hk hx s => ?_)
  · refine v_lload_n (q := 23) dX11_power_22 rfl rfl rfl ?_
    exact v_lret rfl dX11_power_23 ⟨Nat.le_of_ble_eq_true rfl, Nat.le_of_ble_eq_true rfl⟩ rfl
  · obtain ⟨w1, v2⟩ := s
    show V _ _ M 5 [some (.int x0), some (.int x1), some (.long w1), none, some (.int v2)] [] (s_X11_power_5 x0 x1 w1 v2) _
    unfold s_X11_power_5
    refine v_iload (q := 7) dX11_power_5 rfl rfl ?_
    refine v_iload_n (q := 8) dX11_power_7 rfl rfl rfl ?_
    refine v_icmp_ge (tgt := 22) (q := 11) dX11_power_8 rfl rfl ?_ ?_
    · exact v_inr (hx (w1, v2))
    · refine v_lload_n (q := 12) dX11_power_11 rfl rfl rfl ?_
      refine v_iload_n (q := 13) dX11_power_12 rfl rfl rfl ?_
      refine v_i2l (q := 14) dX11_power_13 rfl ?_
      refine v_lmul (q := 15) dX11_power_14 rfl ?_
      refine v_letJ (fun w3 => ?_)
      refine v_lstore_n (q := 16) (loc2 := [some (.int x0), some (.int x1), some (.long w3), none, some (.int v2)]) dX11_power_15 rfl rfl rfl (Nat.le_of_ble_eq_true rfl) rfl ?_
      refine v_iincL (q := 19) (x := v2) (cst := (1 : Int32)) (f := fun v4 => [some (.int x0), some (.int x1), some (.long w3), none, some (.int v4)]) dX11_power_16 rfl rfl ic_1 rfl (Nat.le_of_ble_eq_true rfl) (fun _ => rfl) (fun v4 => ?_)
      refine v_goto (tgt := 5) dX11_power_19 rfl ?_
      exact v_inl (hk (w3, v4))
theorem ct_X11_power (d : Nat) (hd : 0 ≤ d) (x0 : Int32) (x1 : Int32) (M : Me) (r : Int64) (hf : f_X11_power x0 x1 M = some r) : Ct yX11_power mX11_power d 0 0 [.int x0, .int x1] M (some (.long r), M) := by
  have hb : b_X11_power x0 x1 M = some r := hf
  exact ct_of (by decide +kernel) rfl rfl (Nat.le_of_ble_eq_true rfl) (vb_X11_power d hd x0 x1 M) (by rw [hb]; rfl)
theorem dX11_tenTo_0 : decode cX11_tenTo 0 = .ok (.bipush 10, 2) := by decide +kernel
theorem dX11_tenTo_2 : decode cX11_tenTo 2 = .ok (.iload_n 0, 1) := by decide +kernel
theorem dX11_tenTo_3 : decode cX11_tenTo 3 = .ok (.invokestatic 305, 3) := by decide +kernel
theorem dX11_tenTo_6 : decode cX11_tenTo 6 = .ok (.lreturn, 1) := by decide +kernel
noncomputable def b_X11_tenTo (x0 : Int32) (M : Me) : Option (Int64) :=
  cL (f_X11_power (10 : Int32) x0 M) fun w1 =>
  some w1
noncomputable def f_X11_tenTo (x0 : Int32) (M : Me) : Option (Int64) := b_X11_tenTo x0 M
set_option maxRecDepth 20000 in
theorem vb_X11_tenTo (d : Nat) (hd : 1 ≤ d) (x0 : Int32) (M : Me) : V (mX11_tenTo, d, 0, 0) (0, 0) M 0 [some (.int x0)] [] (b_X11_tenTo x0 M) (fun z => some (some (.long z), M)) := by
  unfold b_X11_tenTo
  refine v_bipush (q := 2) dX11_tenTo_0 rfl bp_10 ?_
  refine v_iload_n (q := 3) dX11_tenTo_2 rfl rfl rfl ?_
  refine v_cLS2 (q := 6) (ct_X11_power (d - 1) (by omega) _ _ _) dX11_tenTo_3 rfl cc_X11_305 (by omega) (Nat.le_of_ble_eq_true rfl) ⟨Nat.le_of_ble_eq_true rfl, Nat.le_of_ble_eq_true rfl⟩ (fun w1 => ?_)
  exact v_lret rfl dX11_tenTo_6 ⟨Nat.le_of_ble_eq_true rfl, Nat.le_of_ble_eq_true rfl⟩ rfl
theorem ct_X11_tenTo (d : Nat) (hd : 1 ≤ d) (x0 : Int32) (M : Me) (r : Int64) (hf : f_X11_tenTo x0 M = some r) : Ct yX11_tenTo mX11_tenTo d 0 0 [.int x0] M (some (.long r), M) := by
  have hb : b_X11_tenTo x0 M = some r := hf
  exact ct_of (by decide +kernel) rfl rfl (Nat.le_of_ble_eq_true rfl) (vb_X11_tenTo d hd x0 M) (by rw [hb]; rfl)
theorem dX11_exchanged_0 : decode cX11_exchanged 0 = .ok (.iload_n 1, 1) := by decide +kernel
theorem dX11_exchanged_1 : decode cX11_exchanged 1 = .ok (.i2l, 1) := by decide +kernel
theorem dX11_exchanged_2 : decode cX11_exchanged 2 = .ok (.iload_n 0, 1) := by decide +kernel
theorem dX11_exchanged_3 : decode cX11_exchanged 3 = .ok (.iconst 1, 1) := by decide +kernel
theorem dX11_exchanged_4 : decode cX11_exchanged 4 = .ok (.isub, 1) := by decide +kernel
theorem dX11_exchanged_5 : decode cX11_exchanged 5 = .ok (.invokestatic 221, 3) := by decide +kernel
theorem dX11_exchanged_8 : decode cX11_exchanged 8 = .ok (.lmul, 1) := by decide +kernel
theorem dX11_exchanged_9 : decode cX11_exchanged 9 = .ok (.ldc2_w 303, 3) := by decide +kernel
theorem dX11_exchanged_12 : decode cX11_exchanged 12 = .ok (.lload_n 2, 1) := by decide +kernel
theorem dX11_exchanged_13 : decode cX11_exchanged 13 = .ok (.lmul, 1) := by decide +kernel
theorem dX11_exchanged_14 : decode cX11_exchanged 14 = .ok (.ladd, 1) := by decide +kernel
theorem dX11_exchanged_15 : decode cX11_exchanged 15 = .ok (.lreturn, 1) := by decide +kernel
noncomputable def b_X11_exchanged (x0 : Int32) (x1 : Int32) (l2 : Int64) (M : Me) : Option (Int64) :=
  cL (f_X11_tenTo (x0 - (1 : Int32)) M) fun w1 =>
  some (((x1.toInt64) * w1) + ((10 : Int64) * l2))
noncomputable def f_X11_exchanged (x0 : Int32) (x1 : Int32) (l2 : Int64) (M : Me) : Option (Int64) := b_X11_exchanged x0 x1 l2 M
set_option maxRecDepth 20000 in
theorem vb_X11_exchanged (d : Nat) (hd : 2 ≤ d) (x0 : Int32) (x1 : Int32) (l2 : Int64) (M : Me) : V (mX11_exchanged, d, 0, 0) (0, 0) M 0 [some (.int x0), some (.int x1), some (.long l2), none] [] (b_X11_exchanged x0 x1 l2 M) (fun z => some (some (.long z), M)) := by
  unfold b_X11_exchanged
  refine v_iload_n (q := 1) dX11_exchanged_0 rfl rfl rfl ?_
  refine v_i2l (q := 2) dX11_exchanged_1 rfl ?_
  refine v_iload_n (q := 3) dX11_exchanged_2 rfl rfl rfl ?_
  refine v_iconst (q := 4) dX11_exchanged_3 rfl ic_1 ?_
  refine v_isub (q := 5) dX11_exchanged_4 rfl ?_
  refine v_cLS1 (q := 8) (ct_X11_tenTo (d - 1) (by omega) _ _) dX11_exchanged_5 rfl cc_X11_221 (by omega) (Nat.le_of_ble_eq_true rfl) ⟨Nat.le_of_ble_eq_true rfl, Nat.le_of_ble_eq_true rfl⟩ (fun w1 => ?_)
  refine v_lmul (q := 9) dX11_exchanged_8 rfl ?_
  refine v_ldc2 (q := 12) (v := (10 : Int64)) kl_X11_303 dX11_exchanged_9 rfl ?_
  refine v_lload_n (q := 13) dX11_exchanged_12 rfl rfl rfl ?_
  refine v_lmul (q := 14) dX11_exchanged_13 rfl ?_
  refine v_ladd (q := 15) dX11_exchanged_14 rfl ?_
  exact v_lret rfl dX11_exchanged_15 ⟨Nat.le_of_ble_eq_true rfl, Nat.le_of_ble_eq_true rfl⟩ rfl
theorem ct_X11_exchanged (d : Nat) (hd : 2 ≤ d) (x0 : Int32) (x1 : Int32) (l2 : Int64) (M : Me) (r : Int64) (hf : f_X11_exchanged x0 x1 l2 M = some r) : Ct yX11_exchanged mX11_exchanged d 0 0 [.int x0, .int x1, .long l2] M (some (.long r), M) := by
  have hb : b_X11_exchanged x0 x1 l2 M = some r := hf
  exact ct_of (by decide +kernel) rfl rfl (Nat.le_of_ble_eq_true rfl) (vb_X11_exchanged d hd x0 x1 l2 M) (by rw [hb]; rfl)
theorem dX11_keptBack_0 : decode cX11_keptBack 0 = .ok (.iload_n 0, 1) := by decide +kernel
theorem dX11_keptBack_1 : decode cX11_keptBack 1 = .ok (.iconst 1, 1) := by decide +kernel
theorem dX11_keptBack_2 : decode cX11_keptBack 2 = .ok (.isub, 1) := by decide +kernel
theorem dX11_keptBack_3 : decode cX11_keptBack 3 = .ok (.iload_n 2, 1) := by decide +kernel
theorem dX11_keptBack_4 : decode cX11_keptBack 4 = .ok (.imul, 1) := by decide +kernel
theorem dX11_keptBack_5 : decode cX11_keptBack 5 = .ok (.i2l, 1) := by decide +kernel
theorem dX11_keptBack_6 : decode cX11_keptBack 6 = .ok (.iload_n 0, 1) := by decide +kernel
theorem dX11_keptBack_7 : decode cX11_keptBack 7 = .ok (.iconst 1, 1) := by decide +kernel
theorem dX11_keptBack_8 : decode cX11_keptBack 8 = .ok (.isub, 1) := by decide +kernel
theorem dX11_keptBack_9 : decode cX11_keptBack 9 = .ok (.invokestatic 221, 3) := by decide +kernel
theorem dX11_keptBack_12 : decode cX11_keptBack 12 = .ok (.lmul, 1) := by decide +kernel
theorem dX11_keptBack_13 : decode cX11_keptBack 13 = .ok (.ldc2_w 303, 3) := by decide +kernel
theorem dX11_keptBack_16 : decode cX11_keptBack 16 = .ok (.ldiv, 1) := by decide +kernel
theorem dX11_keptBack_17 : decode cX11_keptBack 17 = .ok (.lstore 5, 2) := by decide +kernel
theorem dX11_keptBack_19 : decode cX11_keptBack 19 = .ok (.iload_n 0, 1) := by decide +kernel
theorem dX11_keptBack_20 : decode cX11_keptBack 20 = .ok (.iconst 1, 1) := by decide +kernel
theorem dX11_keptBack_21 : decode cX11_keptBack 21 = .ok (.isub, 1) := by decide +kernel
theorem dX11_keptBack_22 : decode cX11_keptBack 22 = .ok (.invokestatic 221, 3) := by decide +kernel
theorem dX11_keptBack_25 : decode cX11_keptBack 25 = .ok (.lload_n 3, 1) := by decide +kernel
theorem dX11_keptBack_26 : decode cX11_keptBack 26 = .ok (.ladd, 1) := by decide +kernel
theorem dX11_keptBack_27 : decode cX11_keptBack 27 = .ok (.lstore 7, 2) := by decide +kernel
theorem dX11_keptBack_29 : decode cX11_keptBack 29 = .ok (.iload_n 1, 1) := by decide +kernel
theorem dX11_keptBack_30 : decode cX11_keptBack 30 = .ok (.i2l, 1) := by decide +kernel
theorem dX11_keptBack_31 : decode cX11_keptBack 31 = .ok (.lload 5, 2) := by decide +kernel
theorem dX11_keptBack_33 : decode cX11_keptBack 33 = .ok (.lmul, 1) := by decide +kernel
theorem dX11_keptBack_34 : decode cX11_keptBack 34 = .ok (.bipush 10, 2) := by decide +kernel
theorem dX11_keptBack_36 : decode cX11_keptBack 36 = .ok (.iload_n 1, 1) := by decide +kernel
theorem dX11_keptBack_37 : decode cX11_keptBack 37 = .ok (.isub, 1) := by decide +kernel
theorem dX11_keptBack_38 : decode cX11_keptBack 38 = .ok (.i2l, 1) := by decide +kernel
theorem dX11_keptBack_39 : decode cX11_keptBack 39 = .ok (.lload 7, 2) := by decide +kernel
theorem dX11_keptBack_41 : decode cX11_keptBack 41 = .ok (.lmul, 1) := by decide +kernel
theorem dX11_keptBack_42 : decode cX11_keptBack 42 = .ok (.ladd, 1) := by decide +kernel
theorem dX11_keptBack_43 : decode cX11_keptBack 43 = .ok (.lreturn, 1) := by decide +kernel
noncomputable def b_X11_keptBack (x0 : Int32) (x1 : Int32) (x2 : Int32) (l3 : Int64) (M : Me) : Option (Int64) :=
  cL (f_X11_tenTo (x0 - (1 : Int32)) M) fun w1 =>
  let_v ((((((x0 - (1 : Int32)) * x2).toInt64) * w1) / (10 : Int64))) fun w2 =>
  cL (f_X11_tenTo (x0 - (1 : Int32)) M) fun w3 =>
  let_v ((w3 + l3)) fun w4 =>
  some (((x1.toInt64) * w2) + ((((10 : Int32) - x1).toInt64) * w4))
noncomputable def f_X11_keptBack (x0 : Int32) (x1 : Int32) (x2 : Int32) (l3 : Int64) (M : Me) : Option (Int64) := b_X11_keptBack x0 x1 x2 l3 M
set_option maxRecDepth 20000 in
theorem vb_X11_keptBack (d : Nat) (hd : 2 ≤ d) (x0 : Int32) (x1 : Int32) (x2 : Int32) (l3 : Int64) (M : Me) : V (mX11_keptBack, d, 0, 0) (0, 0) M 0 [some (.int x0), some (.int x1), some (.int x2), some (.long l3), none, none, none, none, none] [] (b_X11_keptBack x0 x1 x2 l3 M) (fun z => some (some (.long z), M)) := by
  unfold b_X11_keptBack
  refine v_iload_n (q := 1) dX11_keptBack_0 rfl rfl rfl ?_
  refine v_iconst (q := 2) dX11_keptBack_1 rfl ic_1 ?_
  refine v_isub (q := 3) dX11_keptBack_2 rfl ?_
  refine v_iload_n (q := 4) dX11_keptBack_3 rfl rfl rfl ?_
  refine v_imul (q := 5) dX11_keptBack_4 rfl ?_
  refine v_i2l (q := 6) dX11_keptBack_5 rfl ?_
  refine v_iload_n (q := 7) dX11_keptBack_6 rfl rfl rfl ?_
  refine v_iconst (q := 8) dX11_keptBack_7 rfl ic_1 ?_
  refine v_isub (q := 9) dX11_keptBack_8 rfl ?_
  refine v_cLS1 (q := 12) (ct_X11_tenTo (d - 1) (by omega) _ _) dX11_keptBack_9 rfl cc_X11_221 (by omega) (Nat.le_of_ble_eq_true rfl) ⟨Nat.le_of_ble_eq_true rfl, Nat.le_of_ble_eq_true rfl⟩ (fun w1 => ?_)
  refine v_lmul (q := 13) dX11_keptBack_12 rfl ?_
  refine v_ldc2 (q := 16) (v := (10 : Int64)) kl_X11_303 dX11_keptBack_13 rfl ?_
  refine v_ldivc (q := 17) dX11_keptBack_16 rfl nl_10 ?_
  refine v_letJ (fun w2 => ?_)
  refine v_lstore (q := 19) (loc2 := [some (.int x0), some (.int x1), some (.int x2), some (.long l3), none, some (.long w2), none, none, none]) dX11_keptBack_17 rfl rfl (Nat.le_of_ble_eq_true rfl) rfl ?_
  refine v_iload_n (q := 20) dX11_keptBack_19 rfl rfl rfl ?_
  refine v_iconst (q := 21) dX11_keptBack_20 rfl ic_1 ?_
  refine v_isub (q := 22) dX11_keptBack_21 rfl ?_
  refine v_cLS1 (q := 25) (ct_X11_tenTo (d - 1) (by omega) _ _) dX11_keptBack_22 rfl cc_X11_221 (by omega) (Nat.le_of_ble_eq_true rfl) ⟨Nat.le_of_ble_eq_true rfl, Nat.le_of_ble_eq_true rfl⟩ (fun w3 => ?_)
  refine v_lload_n (q := 26) dX11_keptBack_25 rfl rfl rfl ?_
  refine v_ladd (q := 27) dX11_keptBack_26 rfl ?_
  refine v_letJ (fun w4 => ?_)
  refine v_lstore (q := 29) (loc2 := [some (.int x0), some (.int x1), some (.int x2), some (.long l3), none, some (.long w2), none, some (.long w4), none]) dX11_keptBack_27 rfl rfl (Nat.le_of_ble_eq_true rfl) rfl ?_
  refine v_iload_n (q := 30) dX11_keptBack_29 rfl rfl rfl ?_
  refine v_i2l (q := 31) dX11_keptBack_30 rfl ?_
  refine v_lload (q := 33) dX11_keptBack_31 rfl rfl ?_
  refine v_lmul (q := 34) dX11_keptBack_33 rfl ?_
  refine v_bipush (q := 36) dX11_keptBack_34 rfl bp_10 ?_
  refine v_iload_n (q := 37) dX11_keptBack_36 rfl rfl rfl ?_
  refine v_isub (q := 38) dX11_keptBack_37 rfl ?_
  refine v_i2l (q := 39) dX11_keptBack_38 rfl ?_
  refine v_lload (q := 41) dX11_keptBack_39 rfl rfl ?_
  refine v_lmul (q := 42) dX11_keptBack_41 rfl ?_
  refine v_ladd (q := 43) dX11_keptBack_42 rfl ?_
  exact v_lret rfl dX11_keptBack_43 ⟨Nat.le_of_ble_eq_true rfl, Nat.le_of_ble_eq_true rfl⟩ rfl
theorem ct_X11_keptBack (d : Nat) (hd : 2 ≤ d) (x0 : Int32) (x1 : Int32) (x2 : Int32) (l3 : Int64) (M : Me) (r : Int64) (hf : f_X11_keptBack x0 x1 x2 l3 M = some r) : Ct yX11_keptBack mX11_keptBack d 0 0 [.int x0, .int x1, .int x2, .long l3] M (some (.long r), M) := by
  have hb : b_X11_keptBack x0 x1 x2 l3 M = some r := hf
  exact ct_of (by decide +kernel) rfl rfl (Nat.le_of_ble_eq_true rfl) (vb_X11_keptBack d hd x0 x1 x2 l3 M) (by rw [hb]; rfl)
theorem dX11_mostKept_0 : decode cX11_mostKept 0 = .ok (.lconst 0, 1) := by decide +kernel
theorem dX11_mostKept_1 : decode cX11_mostKept 1 = .ok (.lstore_n 3, 1) := by decide +kernel
theorem dX11_mostKept_2 : decode cX11_mostKept 2 = .ok (.iconst 1, 1) := by decide +kernel
theorem dX11_mostKept_3 : decode cX11_mostKept 3 = .ok (.istore 5, 2) := by decide +kernel
theorem dX11_mostKept_5 : decode cX11_mostKept 5 = .ok (.iload 5, 2) := by decide +kernel
theorem dX11_mostKept_7 : decode cX11_mostKept 7 = .ok (.iload_n 0, 1) := by decide +kernel
theorem dX11_mostKept_8 : decode cX11_mostKept 8 = .ok (.if_icmp .gt 28, 3) := by decide +kernel
theorem dX11_mostKept_11 : decode cX11_mostKept 11 = .ok (.iload 5, 2) := by decide +kernel
theorem dX11_mostKept_13 : decode cX11_mostKept 13 = .ok (.iload_n 2, 1) := by decide +kernel
theorem dX11_mostKept_14 : decode cX11_mostKept 14 = .ok (.lload_n 3, 1) := by decide +kernel
theorem dX11_mostKept_15 : decode cX11_mostKept 15 = .ok (.invokestatic 233, 3) := by decide +kernel
theorem dX11_mostKept_18 : decode cX11_mostKept 18 = .ok (.iload 5, 2) := by decide +kernel
theorem dX11_mostKept_20 : decode cX11_mostKept 20 = .ok (.iload_n 1, 1) := by decide +kernel
theorem dX11_mostKept_21 : decode cX11_mostKept 21 = .ok (.iload_n 2, 1) := by decide +kernel
theorem dX11_mostKept_22 : decode cX11_mostKept 22 = .ok (.lload_n 3, 1) := by decide +kernel
theorem dX11_mostKept_23 : decode cX11_mostKept 23 = .ok (.invokestatic 229, 3) := by decide +kernel
theorem dX11_mostKept_26 : decode cX11_mostKept 26 = .ok (.invokestatic 300, 3) := by decide +kernel
theorem dX11_mostKept_29 : decode cX11_mostKept 29 = .ok (.lstore_n 3, 1) := by decide +kernel
theorem dX11_mostKept_30 : decode cX11_mostKept 30 = .ok (.iinc 5 1, 3) := by decide +kernel
theorem dX11_mostKept_33 : decode cX11_mostKept 33 = .ok (.goto (-28), 3) := by decide +kernel
theorem dX11_mostKept_36 : decode cX11_mostKept 36 = .ok (.lload_n 3, 1) := by decide +kernel
theorem dX11_mostKept_37 : decode cX11_mostKept 37 = .ok (.lreturn, 1) := by decide +kernel
noncomputable def s_X11_mostKept_5 (x0 : Int32) (x1 : Int32) (x2 : Int32) (M : Me) (w1 : Int64) (v2 : Int32) : Option ((Int64 × Int32) ⊕ (Int64 × Int32)) :=
  if x0 < v2 then (
    some (Sum.inr (w1, v2))
  ) else (
    cL (f_X11_exchanged v2 x2 w1 M) fun w3 =>
    cL (f_X11_keptBack v2 x1 x2 w1 M) fun w4 =>
    let_v ((mx_l w3 w4)) fun w5 =>
    let_v (v2 + (1 : Int32)) fun v6 =>
    some (Sum.inl (w5, v6))
  )
noncomputable def b_X11_mostKept (x0 : Int32) (x1 : Int32) (x2 : Int32) (M : Me) : Option (Int64) :=
  (lp (fun s => s_X11_mostKept_5 x0 x1 x2 M s.1 s.2) ((0 : Int64), (1 : Int32))).bind fun e7 =>
  some e7.1
noncomputable def f_X11_mostKept (x0 : Int32) (x1 : Int32) (x2 : Int32) (M : Me) : Option (Int64) := b_X11_mostKept x0 x1 x2 M
set_option maxRecDepth 20000 in
theorem vb_X11_mostKept (d : Nat) (hd : 3 ≤ d) (x0 : Int32) (x1 : Int32) (x2 : Int32) (M : Me) : V (mX11_mostKept, d, 0, 0) (0, 0) M 0 [some (.int x0), some (.int x1), some (.int x2), none, none, none] [] (b_X11_mostKept x0 x1 x2 M) (fun z => some (some (.long z), M)) := by
  unfold b_X11_mostKept
  refine v_lconst (q := 1) dX11_mostKept_0 rfl rfl ?_
  refine v_lstore_n (q := 2) (loc2 := [some (.int x0), some (.int x1), some (.int x2), some (.long (0 : Int64)), none, none]) dX11_mostKept_1 rfl rfl rfl (Nat.le_of_ble_eq_true rfl) rfl ?_
  refine v_iconst (q := 3) dX11_mostKept_2 rfl ic_1 ?_
  refine v_istore (q := 5) (loc2 := [some (.int x0), some (.int x1), some (.int x2), some (.long (0 : Int64)), none, some (.int (1 : Int32))]) dX11_mostKept_3 rfl rfl (Nat.le_of_ble_eq_true rfl) rfl ?_
  refine v_lps (S := Int64 × Int32) 36 (fun s => M) (fun s => [some (.int x0), some (.int x1), some (.int x2), some (.long s.1), none, some (.int s.2)]) (fun e7 => M) (fun e7 => [some (.int x0), some (.int x1), some (.int x2), some (.long e7.1), none, some (.int e7.2)]) (fun e7 => ?_) (fun k K hk hx s => ?_)
  · refine v_lload_n (q := 37) dX11_mostKept_36 rfl rfl rfl ?_
    exact v_lret rfl dX11_mostKept_37 ⟨Nat.le_of_ble_eq_true rfl, Nat.le_of_ble_eq_true rfl⟩ rfl
  · obtain ⟨w1, v2⟩ := s
    show V _ _ M 5 [some (.int x0), some (.int x1), some (.int x2), some (.long w1), none, some (.int v2)] [] (s_X11_mostKept_5 x0 x1 x2 M w1 v2) _
    unfold s_X11_mostKept_5
    refine v_iload (q := 7) dX11_mostKept_5 rfl rfl ?_
    refine v_iload_n (q := 8) dX11_mostKept_7 rfl rfl rfl ?_
    refine v_icmp_gt (tgt := 36) (q := 11) dX11_mostKept_8 rfl rfl ?_ ?_
    · exact v_inr (hx (w1, v2))
    · refine v_iload (q := 13) dX11_mostKept_11 rfl rfl ?_
      refine v_iload_n (q := 14) dX11_mostKept_13 rfl rfl rfl ?_
      refine v_lload_n (q := 15) dX11_mostKept_14 rfl rfl rfl ?_
      refine v_cLS3 (q := 18) (ct_X11_exchanged (d - 1) (by omega) _ _ _ _) dX11_mostKept_15 rfl cc_X11_233 (by omega) (Nat.le_of_ble_eq_true rfl) ⟨Nat.le_of_ble_eq_true rfl, Nat.le_of_ble_eq_true rfl⟩ (fun w3 => ?_)
      refine v_iload (q := 20) dX11_mostKept_18 rfl rfl ?_
      refine v_iload_n (q := 21) dX11_mostKept_20 rfl rfl rfl ?_
      refine v_iload_n (q := 22) dX11_mostKept_21 rfl rfl rfl ?_
      refine v_lload_n (q := 23) dX11_mostKept_22 rfl rfl rfl ?_
      refine v_cLS4 (q := 26) (ct_X11_keptBack (d - 1) (by omega) _ _ _ _ _) dX11_mostKept_23 rfl cc_X11_229 (by omega) (Nat.le_of_ble_eq_true rfl) ⟨Nat.le_of_ble_eq_true rfl, Nat.le_of_ble_eq_true rfl⟩ (fun w4 => ?_)
      refine v_mx_l (q := 29) dX11_mostKept_26 rfl cc_X11_300 (by show 1 ≤ d; omega) (Nat.le_of_ble_eq_true rfl) ⟨Nat.le_of_ble_eq_true rfl, Nat.le_of_ble_eq_true rfl⟩ ?_
      refine v_letJ (fun w5 => ?_)
      refine v_lstore_n (q := 30) (loc2 := [some (.int x0), some (.int x1), some (.int x2), some (.long w5), none, some (.int v2)]) dX11_mostKept_29 rfl rfl rfl (Nat.le_of_ble_eq_true rfl) rfl ?_
      refine v_iincL (q := 33) (x := v2) (cst := (1 : Int32)) (f := fun v6 => [some (.int x0), some (.int x1), some (.int x2), some (.long w5), none, some (.int v6)]) dX11_mostKept_30 rfl rfl ic_1 rfl (Nat.le_of_ble_eq_true rfl) (fun _ => rfl) (fun v6 => ?_)
      refine v_goto (tgt := 5) dX11_mostKept_33 rfl ?_
      exact v_inl (hk (w5, v6))
theorem ct_X11_mostKept (d : Nat) (hd : 3 ≤ d) (x0 : Int32) (x1 : Int32) (x2 : Int32) (M : Me) (r : Int64) (hf : f_X11_mostKept x0 x1 x2 M = some r) : Ct yX11_mostKept mX11_mostKept d 0 0 [.int x0, .int x1, .int x2] M (some (.long r), M) := by
  have hb : b_X11_mostKept x0 x1 x2 M = some r := hf
  exact ct_of (by decide +kernel) rfl rfl (Nat.le_of_ble_eq_true rfl) (vb_X11_mostKept d hd x0 x1 x2 M) (by rw [hb]; rfl)
theorem dX11_commonDivisor_0 : decode cX11_commonDivisor 0 = .ok (.lload_n 0, 1) := by decide +kernel
theorem dX11_commonDivisor_1 : decode cX11_commonDivisor 1 = .ok (.lstore 4, 2) := by decide +kernel
theorem dX11_commonDivisor_3 : decode cX11_commonDivisor 3 = .ok (.lload_n 2, 1) := by decide +kernel
theorem dX11_commonDivisor_4 : decode cX11_commonDivisor 4 = .ok (.lstore 6, 2) := by decide +kernel
theorem dX11_commonDivisor_6 : decode cX11_commonDivisor 6 = .ok (.iconst 0, 1) := by decide +kernel
theorem dX11_commonDivisor_7 : decode cX11_commonDivisor 7 = .ok (.istore 8, 2) := by decide +kernel
theorem dX11_commonDivisor_9 : decode cX11_commonDivisor 9 = .ok (.iload 8, 2) := by decide +kernel
theorem dX11_commonDivisor_11 : decode cX11_commonDivisor 11 = .ok (.sipush 200, 3) := by decide +kernel
theorem dX11_commonDivisor_14 : decode cX11_commonDivisor 14 = .ok (.if_icmp .ge 31, 3) := by decide +kernel
theorem dX11_commonDivisor_17 : decode cX11_commonDivisor 17 = .ok (.lload 6, 2) := by decide +kernel
theorem dX11_commonDivisor_19 : decode cX11_commonDivisor 19 = .ok (.lconst 0, 1) := by decide +kernel
theorem dX11_commonDivisor_20 : decode cX11_commonDivisor 20 = .ok (.lcmp, 1) := by decide +kernel
theorem dX11_commonDivisor_21 : decode cX11_commonDivisor 21 = .ok (.ifCond .eq 24, 3) := by decide +kernel
theorem dX11_commonDivisor_24 : decode cX11_commonDivisor 24 = .ok (.lload 4, 2) := by decide +kernel
theorem dX11_commonDivisor_26 : decode cX11_commonDivisor 26 = .ok (.lload 6, 2) := by decide +kernel
theorem dX11_commonDivisor_28 : decode cX11_commonDivisor 28 = .ok (.lrem, 1) := by decide +kernel
theorem dX11_commonDivisor_29 : decode cX11_commonDivisor 29 = .ok (.lstore 9, 2) := by decide +kernel
theorem dX11_commonDivisor_31 : decode cX11_commonDivisor 31 = .ok (.lload 6, 2) := by decide +kernel
theorem dX11_commonDivisor_33 : decode cX11_commonDivisor 33 = .ok (.lstore 4, 2) := by decide +kernel
theorem dX11_commonDivisor_35 : decode cX11_commonDivisor 35 = .ok (.lload 9, 2) := by decide +kernel
theorem dX11_commonDivisor_37 : decode cX11_commonDivisor 37 = .ok (.lstore 6, 2) := by decide +kernel
theorem dX11_commonDivisor_39 : decode cX11_commonDivisor 39 = .ok (.iinc 8 1, 3) := by decide +kernel
theorem dX11_commonDivisor_42 : decode cX11_commonDivisor 42 = .ok (.goto (-33), 3) := by decide +kernel
theorem dX11_commonDivisor_45 : decode cX11_commonDivisor 45 = .ok (.lload 4, 2) := by decide +kernel
theorem dX11_commonDivisor_47 : decode cX11_commonDivisor 47 = .ok (.lreturn, 1) := by decide +kernel
noncomputable def s_X11_commonDivisor_9 (w1 : Int64) (w2 : Int64) (v3 : Int32) : Option ((Int64 × Int64 × Int32) ⊕ (Int64 × Int64 × Int32)) :=
  if (200 : Int32) ≤ v3 then (
    some (Sum.inr (w1, w2, v3))
  ) else (
    if (lg_cmp w2 (0 : Int64)) = 0 then (
      some (Sum.inr (w1, w2, v3))
    ) else (
      if w2 = 0 then none else
      let_v ((w1 - w1 / w2 * w2)) fun w4 =>
      let_v (v3 + (1 : Int32)) fun v5 =>
      some (Sum.inl (w2, w4, v5))
    )
  )
noncomputable def b_X11_commonDivisor (l0 : Int64) (l2 : Int64) (M : Me) : Option (Int64) :=
  (lp (fun s => s_X11_commonDivisor_9 s.1 s.2.1 s.2.2) (l0, l2, (0 : Int32))).bind fun e6 =>
  some e6.1
noncomputable def f_X11_commonDivisor (l0 : Int64) (l2 : Int64) (M : Me) : Option (Int64) := b_X11_commonDivisor l0 l2 M
set_option maxRecDepth 20000 in
theorem vb_X11_commonDivisor (d : Nat) (hd : 0 ≤ d) (l0 : Int64) (l2 : Int64) (M : Me) : V (mX11_commonDivisor, d, 0, 0) (0, 0) M 0 [some (.long l0), none, some (.long l2), none, none, none, none, none, none, none, none] [] (b_X11_commonDivisor l0 l2 M) (fun z => some (some (.long z), M)) := by
  unfold b_X11_commonDivisor
  refine v_lload_n (q := 1) dX11_commonDivisor_0 rfl rfl rfl ?_
  refine v_lstore (q := 3) (loc2 := [some (.long l0), none, some (.long l2), none, some (.long l0), none, none, none, none, none, none]) dX11_commonDivisor_1 rfl rfl (Nat.le_of_ble_eq_true rfl) rfl ?_
  refine v_lload_n (q := 4) dX11_commonDivisor_3 rfl rfl rfl ?_
  refine v_lstore (q := 6) (loc2 := [some (.long l0), none, some (.long l2), none, some (.long l0), none, some (.long l2), none, none, none, none]) dX11_commonDivisor_4 rfl rfl (Nat.le_of_ble_eq_true rfl) rfl ?_
  refine v_iconst (q := 7) dX11_commonDivisor_6 rfl ic_0 ?_
  refine v_istore (q := 9) (loc2 := [some (.long l0), none, some (.long l2), none, some (.long l0), none, some (.long l2), none, some (.int (0 : Int32)), none, none]) dX11_commonDivisor_7 rfl rfl (Nat.le_of_ble_eq_true rfl) rfl ?_
  refine v_lps (S := Int64 × Int64 × Int32) 45 (fun s => M) (fun s => [some (.long l0), none, some (.long l2), none, some (.long s.1), none, some (.long s.2.1), none, some (.int s.2.2), none, none]) (fun e6 => M) (fun e6 => [some (.long l0), none, some (.long l2), none, some (.long e6.1), none, some (.long e6.2.1), none, some (.int e6.2.2), none, none]) (fun e6 => ?_) (fun k K hk hx s => ?_)
  · refine v_lload (q := 47) dX11_commonDivisor_45 rfl rfl ?_
    exact v_lret rfl dX11_commonDivisor_47 ⟨Nat.le_of_ble_eq_true rfl, Nat.le_of_ble_eq_true rfl⟩ rfl
  · obtain ⟨w1, w2, v3⟩ := s
    show V _ _ M 9 [some (.long l0), none, some (.long l2), none, some (.long w1), none, some (.long w2), none, some (.int v3), none, none] [] (s_X11_commonDivisor_9 w1 w2 v3) _
    unfold s_X11_commonDivisor_9
    refine v_iload (q := 11) dX11_commonDivisor_9 rfl rfl ?_
    refine v_sipush (q := 14) dX11_commonDivisor_11 rfl sp_200 ?_
    refine v_icmp_ge (tgt := 45) (q := 17) dX11_commonDivisor_14 rfl rfl ?_ ?_
    · exact v_inr (hx (w1, w2, v3))
    · refine v_lload (q := 19) dX11_commonDivisor_17 rfl rfl ?_
      refine v_lconst (q := 20) dX11_commonDivisor_19 rfl rfl ?_
      refine v_lcmp (q := 21) dX11_commonDivisor_20 rfl ?_
      refine v_if_eq (tgt := 45) (q := 24) dX11_commonDivisor_21 rfl rfl ?_ ?_
      · exact v_inr (hx (w1, w2, v3))
      · refine v_lload (q := 26) dX11_commonDivisor_24 rfl rfl ?_
        refine v_lload (q := 28) dX11_commonDivisor_26 rfl rfl ?_
        refine v_lrem (q := 29) dX11_commonDivisor_28 rfl ?_
        refine v_letJ (fun w4 => ?_)
        refine v_lstore (q := 31) (loc2 := [some (.long l0), none, some (.long l2), none, some (.long w1), none, some (.long w2), none, some (.int v3), some (.long w4), none]) dX11_commonDivisor_29 rfl rfl (Nat.le_of_ble_eq_true rfl) rfl ?_
        refine v_lload (q := 33) dX11_commonDivisor_31 rfl rfl ?_
        refine v_lstore (q := 35) (loc2 := [some (.long l0), none, some (.long l2), none, some (.long w2), none, some (.long w2), none, some (.int v3), some (.long w4), none]) dX11_commonDivisor_33 rfl rfl (Nat.le_of_ble_eq_true rfl) rfl ?_
        refine v_lload (q := 37) dX11_commonDivisor_35 rfl rfl ?_
        refine v_lstore (q := 39) (loc2 := [some (.long l0), none, some (.long l2), none, some (.long w2), none, some (.long w4), none, some (.int v3), some (.long w4), none]) dX11_commonDivisor_37 rfl rfl (Nat.le_of_ble_eq_true rfl) rfl ?_
        refine v_iincL (q := 42) (x := v3) (cst := (1 : Int32)) (f := fun v5 => [some (.long l0), none, some (.long l2), none, some (.long w2), none, some (.long w4), none, some (.int v5), some (.long w4), none]) dX11_commonDivisor_39 rfl rfl ic_1 rfl (Nat.le_of_ble_eq_true rfl) (fun _ => rfl) (fun v5 => ?_)
        refine v_goto (tgt := 9) dX11_commonDivisor_42 rfl ?_
        exact v_inl (v_weak (hk (w2, w4, v5)) ⟨rfl, ⟨rfl, ⟨rfl, ⟨rfl, ⟨rfl, trivial⟩⟩⟩⟩⟩)
theorem ct_X11_commonDivisor (d : Nat) (hd : 0 ≤ d) (l0 : Int64) (l2 : Int64) (M : Me) (r : Int64) (hf : f_X11_commonDivisor l0 l2 M = some r) : Ct yX11_commonDivisor mX11_commonDivisor d 0 0 [.long l0, .long l2] M (some (.long r), M) := by
  have hb : b_X11_commonDivisor l0 l2 M = some r := hf
  exact ct_of (by decide +kernel) rfl rfl (Nat.le_of_ble_eq_true rfl) (vb_X11_commonDivisor d hd l0 l2 M) (by rw [hb]; rfl)
theorem dX11_partOf_0 : decode cX11_partOf 0 = .ok (.lload_n 0, 1) := by decide +kernel
theorem dX11_partOf_1 : decode cX11_partOf 1 = .ok (.lload_n 2, 1) := by decide +kernel
theorem dX11_partOf_2 : decode cX11_partOf 2 = .ok (.invokestatic 309, 3) := by decide +kernel
theorem dX11_partOf_5 : decode cX11_partOf 5 = .ok (.lstore 5, 2) := by decide +kernel
theorem dX11_partOf_7 : decode cX11_partOf 7 = .ok (.lload 5, 2) := by decide +kernel
theorem dX11_partOf_9 : decode cX11_partOf 9 = .ok (.lconst 1, 1) := by decide +kernel
theorem dX11_partOf_10 : decode cX11_partOf 10 = .ok (.lcmp, 1) := by decide +kernel
theorem dX11_partOf_11 : decode cX11_partOf 11 = .ok (.ifCond .ge 14, 3) := by decide +kernel
theorem dX11_partOf_14 : decode cX11_partOf 14 = .ok (.iload 4, 2) := by decide +kernel
theorem dX11_partOf_16 : decode cX11_partOf 16 = .ok (.ifCond .ne 7, 3) := by decide +kernel
theorem dX11_partOf_19 : decode cX11_partOf 19 = .ok (.lload_n 0, 1) := by decide +kernel
theorem dX11_partOf_20 : decode cX11_partOf 20 = .ok (.goto 4, 3) := by decide +kernel
theorem dX11_partOf_23 : decode cX11_partOf 23 = .ok (.lload_n 2, 1) := by decide +kernel
theorem dX11_partOf_24 : decode cX11_partOf 24 = .ok (.lreturn, 1) := by decide +kernel
theorem dX11_partOf_25 : decode cX11_partOf 25 = .ok (.iload 4, 2) := by decide +kernel
theorem dX11_partOf_27 : decode cX11_partOf 27 = .ok (.ifCond .ne 10, 3) := by decide +kernel
theorem dX11_partOf_30 : decode cX11_partOf 30 = .ok (.lload_n 0, 1) := by decide +kernel
theorem dX11_partOf_31 : decode cX11_partOf 31 = .ok (.lload 5, 2) := by decide +kernel
theorem dX11_partOf_33 : decode cX11_partOf 33 = .ok (.ldiv, 1) := by decide +kernel
theorem dX11_partOf_34 : decode cX11_partOf 34 = .ok (.goto 7, 3) := by decide +kernel
theorem dX11_partOf_37 : decode cX11_partOf 37 = .ok (.lload_n 2, 1) := by decide +kernel
theorem dX11_partOf_38 : decode cX11_partOf 38 = .ok (.lload 5, 2) := by decide +kernel
theorem dX11_partOf_40 : decode cX11_partOf 40 = .ok (.ldiv, 1) := by decide +kernel
theorem dX11_partOf_41 : decode cX11_partOf 41 = .ok (.lreturn, 1) := by decide +kernel
noncomputable def b_X11_partOf (l0 : Int64) (l2 : Int64) (x4 : Int32) (M : Me) : Option (Int64) :=
  cL (f_X11_commonDivisor l0 l2 M) fun w1 =>
  if 0 ≤ (lg_cmp w1 (1 : Int64)) then (
    (
      if x4 = 0 then (
        if w1 = 0 then none else
        some (l0 / w1)
      ) else (
        if w1 = 0 then none else
        some (l2 / w1)
      )
    ).bind fun w2 =>
    some w2
  ) else (
    (
      if x4 = 0 then (
        some l0
      ) else (
        some l2
      )
    ).bind fun w3 =>
    some w3
  )
noncomputable def f_X11_partOf (l0 : Int64) (l2 : Int64) (x4 : Int32) (M : Me) : Option (Int64) := b_X11_partOf l0 l2 x4 M
set_option maxRecDepth 20000 in
theorem vb_X11_partOf (d : Nat) (hd : 1 ≤ d) (l0 : Int64) (l2 : Int64) (x4 : Int32) (M : Me) : V (mX11_partOf, d, 0, 0) (0, 0) M 0 [some (.long l0), none, some (.long l2), none, some (.int x4), none, none] [] (b_X11_partOf l0 l2 x4 M) (fun z => some (some (.long z), M)) := by
  unfold b_X11_partOf
  refine v_lload_n (q := 1) dX11_partOf_0 rfl rfl rfl ?_
  refine v_lload_n (q := 2) dX11_partOf_1 rfl rfl rfl ?_
  refine v_cLS2 (q := 5) (ct_X11_commonDivisor (d - 1) (by omega) _ _ _) dX11_partOf_2 rfl cc_X11_309 (by omega) (Nat.le_of_ble_eq_true rfl) ⟨Nat.le_of_ble_eq_true rfl, Nat.le_of_ble_eq_true rfl⟩ (fun w1 => ?_)
  refine v_lstore (q := 7) (loc2 := [some (.long l0), none, some (.long l2), none, some (.int x4), some (.long w1), none]) dX11_partOf_5 rfl rfl (Nat.le_of_ble_eq_true rfl) rfl ?_
  refine v_lload (q := 9) dX11_partOf_7 rfl rfl ?_
  refine v_lconst (q := 10) dX11_partOf_9 rfl rfl ?_
  refine v_lcmp (q := 11) dX11_partOf_10 rfl ?_
  refine v_if_ge (tgt := 25) (q := 14) dX11_partOf_11 rfl rfl ?_ ?_
  · refine v_iload (q := 27) dX11_partOf_25 rfl rfl ?_
    refine v_join (γ := Int64) 41 (fun w2 => M) (fun w2 => [some (.long l0), none, some (.long l2), none, some (.int x4), some (.long w1), none]) (fun w2 => [.long w2]) (fun K hK => ?_) (fun w2 => ?_)
    · refine v_if_ne (tgt := 37) (q := 30) dX11_partOf_27 rfl rfl ?_ ?_
      · refine v_lload_n (q := 38) dX11_partOf_37 rfl rfl rfl ?_
        refine v_lload (q := 40) dX11_partOf_38 rfl rfl ?_
        refine v_ldiv (q := 41) dX11_partOf_40 rfl ?_
        exact hK (l2 / w1)
      · refine v_lload_n (q := 31) dX11_partOf_30 rfl rfl rfl ?_
        refine v_lload (q := 33) dX11_partOf_31 rfl rfl ?_
        refine v_ldiv (q := 34) dX11_partOf_33 rfl ?_
        refine v_goto (tgt := 41) dX11_partOf_34 rfl ?_
        exact hK (l0 / w1)
    · exact v_lret rfl dX11_partOf_41 ⟨Nat.le_of_ble_eq_true rfl, Nat.le_of_ble_eq_true rfl⟩ rfl
  · refine v_iload (q := 16) dX11_partOf_14 rfl rfl ?_
    refine v_join (γ := Int64) 24 (fun w3 => M) (fun w3 => [some (.long l0), none, some (.long l2), none, some (.int x4), some (.long w1), none]) (fun w3 => [.long w3]) (fun K hK => ?_) (fun w3 => ?_)
    · refine v_if_ne (tgt := 23) (q := 19) dX11_partOf_16 rfl rfl ?_ ?_
      · refine v_lload_n (q := 24) dX11_partOf_23 rfl rfl rfl ?_
        exact hK l2
      · refine v_lload_n (q := 20) dX11_partOf_19 rfl rfl rfl ?_
        refine v_goto (tgt := 24) dX11_partOf_20 rfl ?_
        exact hK l0
    · exact v_lret rfl dX11_partOf_24 ⟨Nat.le_of_ble_eq_true rfl, Nat.le_of_ble_eq_true rfl⟩ rfl
theorem ct_X11_partOf (d : Nat) (hd : 1 ≤ d) (l0 : Int64) (l2 : Int64) (x4 : Int32) (M : Me) (r : Int64) (hf : f_X11_partOf l0 l2 x4 M = some r) : Ct yX11_partOf mX11_partOf d 0 0 [.long l0, .long l2, .int x4] M (some (.long r), M) := by
  have hb : b_X11_partOf l0 l2 x4 M = some r := hf
  exact ct_of (by decide +kernel) rfl rfl (Nat.le_of_ble_eq_true rfl) (vb_X11_partOf d hd l0 l2 x4 M) (by rw [hb]; rfl)
theorem dX11_kept_0 : decode cX11_kept 0 = .ok (.iload_n 1, 1) := by decide +kernel
theorem dX11_kept_1 : decode cX11_kept 1 = .ok (.iconst 0, 1) := by decide +kernel
theorem dX11_kept_2 : decode cX11_kept 2 = .ok (.bipush 8, 2) := by decide +kernel
theorem dX11_kept_4 : decode cX11_kept 4 = .ok (.invokestatic 55, 3) := by decide +kernel
theorem dX11_kept_7 : decode cX11_kept 7 = .ok (.ifCond .eq 27, 3) := by decide +kernel
theorem dX11_kept_10 : decode cX11_kept 10 = .ok (.iload_n 2, 1) := by decide +kernel
theorem dX11_kept_11 : decode cX11_kept 11 = .ok (.invokestatic 212, 3) := by decide +kernel
theorem dX11_kept_14 : decode cX11_kept 14 = .ok (.ifCond .eq 20, 3) := by decide +kernel
theorem dX11_kept_17 : decode cX11_kept 17 = .ok (.iload_n 3, 1) := by decide +kernel
theorem dX11_kept_18 : decode cX11_kept 18 = .ok (.invokestatic 212, 3) := by decide +kernel
theorem dX11_kept_21 : decode cX11_kept 21 = .ok (.ifCond .eq 13, 3) := by decide +kernel
theorem dX11_kept_24 : decode cX11_kept 24 = .ok (.iload 4, 2) := by decide +kernel
theorem dX11_kept_26 : decode cX11_kept 26 = .ok (.iconst 0, 1) := by decide +kernel
theorem dX11_kept_27 : decode cX11_kept 27 = .ok (.iconst 1, 1) := by decide +kernel
theorem dX11_kept_28 : decode cX11_kept 28 = .ok (.invokestatic 55, 3) := by decide +kernel
theorem dX11_kept_31 : decode cX11_kept 31 = .ok (.ifCond .ne 7, 3) := by decide +kernel
theorem dX11_kept_34 : decode cX11_kept 34 = .ok (.ldc2_w 215, 3) := by decide +kernel
theorem dX11_kept_37 : decode cX11_kept 37 = .ok (.lreturn, 1) := by decide +kernel
theorem dX11_kept_38 : decode cX11_kept 38 = .ok (.iload_n 1, 1) := by decide +kernel
theorem dX11_kept_39 : decode cX11_kept 39 = .ok (.iload_n 2, 1) := by decide +kernel
theorem dX11_kept_40 : decode cX11_kept 40 = .ok (.iload_n 3, 1) := by decide +kernel
theorem dX11_kept_41 : decode cX11_kept 41 = .ok (.invokestatic 217, 3) := by decide +kernel
theorem dX11_kept_44 : decode cX11_kept 44 = .ok (.iload_n 1, 1) := by decide +kernel
theorem dX11_kept_45 : decode cX11_kept 45 = .ok (.invokestatic 221, 3) := by decide +kernel
theorem dX11_kept_48 : decode cX11_kept 48 = .ok (.iload 4, 2) := by decide +kernel
theorem dX11_kept_50 : decode cX11_kept 50 = .ok (.invokestatic 225, 3) := by decide +kernel
theorem dX11_kept_53 : decode cX11_kept 53 = .ok (.lreturn, 1) := by decide +kernel
noncomputable def b_X11_kept (a0 : Nat) (x1 : Int32) (x2 : Int32) (x3 : Int32) (x4 : Int32) (M : Me) : Option (Int64) :=
  cP (f_X11_isWithin x1 (0 : Int32) (8 : Int32) M) fun v1 =>
  if v1 = 0 then (
    some (-1000000000000000002 : Int64)
  ) else (
    cP (f_X11_areTenths x2 M) fun v2 =>
    if v2 = 0 then (
      some (-1000000000000000002 : Int64)
    ) else (
      cP (f_X11_areTenths x3 M) fun v3 =>
      if v3 = 0 then (
        some (-1000000000000000002 : Int64)
      ) else (
        cP (f_X11_isWithin x4 (0 : Int32) (1 : Int32) M) fun v4 =>
        if v4 = 0 then (
          some (-1000000000000000002 : Int64)
        ) else (
          cL (f_X11_mostKept x1 x2 x3 M) fun w5 =>
          cL (f_X11_tenTo x1 M) fun w6 =>
          cL (f_X11_partOf w5 w6 x4 M) fun w7 =>
          some w7
        )
      )
    )
  )
noncomputable def f_X11_kept (a0 : Nat) (x1 : Int32) (x2 : Int32) (x3 : Int32) (x4 : Int32) (M : Me) : Option (Int64) := ck M a0 11 (b_X11_kept a0 x1 x2 x3 x4 M)
set_option maxRecDepth 20000 in
theorem vb_X11_kept (d : Nat) (hd : 4 ≤ d) (a0 : Nat) (x1 : Int32) (x2 : Int32) (x3 : Int32) (x4 : Int32) (M : Me) : V (mX11_kept, d, 0, 0) (0, 0) M 0 [some (.ref a0), some (.int x1), some (.int x2), some (.int x3), some (.int x4)] [] (b_X11_kept a0 x1 x2 x3 x4 M) (fun z => some (some (.long z), M)) := by
  unfold b_X11_kept
  refine v_iload_n (q := 1) dX11_kept_0 rfl rfl rfl ?_
  refine v_iconst (q := 2) dX11_kept_1 rfl ic_0 ?_
  refine v_bipush (q := 4) dX11_kept_2 rfl bp_8 ?_
  refine v_cPS3 (q := 7) (ct_X11_isWithin (d - 1) (by omega) _ _ _ _) dX11_kept_4 rfl cc_X11_55 (by omega) (Nat.le_of_ble_eq_true rfl) ⟨Nat.le_of_ble_eq_true rfl, Nat.le_of_ble_eq_true rfl⟩ (fun v1 => ?_)
  refine v_if_eq (tgt := 34) (q := 10) dX11_kept_7 rfl rfl ?_ ?_
  · refine v_ldc2 (q := 37) (v := (-1000000000000000002 : Int64)) kl_X11_215 dX11_kept_34 rfl ?_
    exact v_lret rfl dX11_kept_37 ⟨Nat.le_of_ble_eq_true rfl, Nat.le_of_ble_eq_true rfl⟩ rfl
  · refine v_iload_n (q := 11) dX11_kept_10 rfl rfl rfl ?_
    refine v_cPS1 (q := 14) (ct_X11_areTenths (d - 1) (by omega) _ _) dX11_kept_11 rfl cc_X11_212 (by omega) (Nat.le_of_ble_eq_true rfl) ⟨Nat.le_of_ble_eq_true rfl, Nat.le_of_ble_eq_true rfl⟩ (fun v2 => ?_)
    refine v_if_eq (tgt := 34) (q := 17) dX11_kept_14 rfl rfl ?_ ?_
    · refine v_ldc2 (q := 37) (v := (-1000000000000000002 : Int64)) kl_X11_215 dX11_kept_34 rfl ?_
      exact v_lret rfl dX11_kept_37 ⟨Nat.le_of_ble_eq_true rfl, Nat.le_of_ble_eq_true rfl⟩ rfl
    · refine v_iload_n (q := 18) dX11_kept_17 rfl rfl rfl ?_
      refine v_cPS1 (q := 21) (ct_X11_areTenths (d - 1) (by omega) _ _) dX11_kept_18 rfl cc_X11_212 (by omega) (Nat.le_of_ble_eq_true rfl) ⟨Nat.le_of_ble_eq_true rfl, Nat.le_of_ble_eq_true rfl⟩ (fun v3 => ?_)
      refine v_if_eq (tgt := 34) (q := 24) dX11_kept_21 rfl rfl ?_ ?_
      · refine v_ldc2 (q := 37) (v := (-1000000000000000002 : Int64)) kl_X11_215 dX11_kept_34 rfl ?_
        exact v_lret rfl dX11_kept_37 ⟨Nat.le_of_ble_eq_true rfl, Nat.le_of_ble_eq_true rfl⟩ rfl
      · refine v_iload (q := 26) dX11_kept_24 rfl rfl ?_
        refine v_iconst (q := 27) dX11_kept_26 rfl ic_0 ?_
        refine v_iconst (q := 28) dX11_kept_27 rfl ic_1 ?_
        refine v_cPS3 (q := 31) (ct_X11_isWithin (d - 1) (by omega) _ _ _ _) dX11_kept_28 rfl cc_X11_55 (by omega) (Nat.le_of_ble_eq_true rfl) ⟨Nat.le_of_ble_eq_true rfl, Nat.le_of_ble_eq_true rfl⟩ (fun v4 => ?_)
        refine v_if_ne (tgt := 38) (q := 34) dX11_kept_31 rfl rfl ?_ ?_
        · refine v_iload_n (q := 39) dX11_kept_38 rfl rfl rfl ?_
          refine v_iload_n (q := 40) dX11_kept_39 rfl rfl rfl ?_
          refine v_iload_n (q := 41) dX11_kept_40 rfl rfl rfl ?_
          refine v_cLS3 (q := 44) (ct_X11_mostKept (d - 1) (by omega) _ _ _ _) dX11_kept_41 rfl cc_X11_217 (by omega) (Nat.le_of_ble_eq_true rfl) ⟨Nat.le_of_ble_eq_true rfl, Nat.le_of_ble_eq_true rfl⟩ (fun w5 => ?_)
          refine v_iload_n (q := 45) dX11_kept_44 rfl rfl rfl ?_
          refine v_cLS1 (q := 48) (ct_X11_tenTo (d - 1) (by omega) _ _) dX11_kept_45 rfl cc_X11_221 (by omega) (Nat.le_of_ble_eq_true rfl) ⟨Nat.le_of_ble_eq_true rfl, Nat.le_of_ble_eq_true rfl⟩ (fun w6 => ?_)
          refine v_iload (q := 50) dX11_kept_48 rfl rfl ?_
          refine v_cLS3 (q := 53) (ct_X11_partOf (d - 1) (by omega) _ _ _ _) dX11_kept_50 rfl cc_X11_225 (by omega) (Nat.le_of_ble_eq_true rfl) ⟨Nat.le_of_ble_eq_true rfl, Nat.le_of_ble_eq_true rfl⟩ (fun w7 => ?_)
          exact v_lret rfl dX11_kept_53 ⟨Nat.le_of_ble_eq_true rfl, Nat.le_of_ble_eq_true rfl⟩ rfl
        · refine v_ldc2 (q := 37) (v := (-1000000000000000002 : Int64)) kl_X11_215 dX11_kept_34 rfl ?_
          exact v_lret rfl dX11_kept_37 ⟨Nat.le_of_ble_eq_true rfl, Nat.le_of_ble_eq_true rfl⟩ rfl
theorem ct_X11_kept (d : Nat) (hd : 4 ≤ d) (a0 : Nat) (x1 : Int32) (x2 : Int32) (x3 : Int32) (x4 : Int32) (M : Me) (r : Int64) (hf : f_X11_kept a0 x1 x2 x3 x4 M = some r) : me_k M a0 = some (11, nf_c 11) ∧ Ct yX11_kept mX11_kept d 0 0 [.ref a0, .int x1, .int x2, .int x3, .int x4] M (some (.long r), M) := by
  obtain ⟨hk, hb⟩ := ck_some hf
  exact ⟨hk, ct_of (by decide +kernel) rfl rfl (Nat.le_of_ble_eq_true rfl) (vb_X11_kept d hd a0 x1 x2 x3 x4 M) (by rw [hb]; rfl)⟩
theorem dX11_keeps_0 : decode cX11_keeps 0 = .ok (.iload_n 1, 1) := by decide +kernel
theorem dX11_keeps_1 : decode cX11_keeps 1 = .ok (.iconst 1, 1) := by decide +kernel
theorem dX11_keeps_2 : decode cX11_keeps 2 = .ok (.bipush 8, 2) := by decide +kernel
theorem dX11_keeps_4 : decode cX11_keeps 4 = .ok (.invokestatic 55, 3) := by decide +kernel
theorem dX11_keeps_7 : decode cX11_keeps 7 = .ok (.ifCond .eq 17, 3) := by decide +kernel
theorem dX11_keeps_10 : decode cX11_keeps 10 = .ok (.iload_n 2, 1) := by decide +kernel
theorem dX11_keeps_11 : decode cX11_keeps 11 = .ok (.invokestatic 212, 3) := by decide +kernel
theorem dX11_keeps_14 : decode cX11_keeps 14 = .ok (.ifCond .eq 10, 3) := by decide +kernel
theorem dX11_keeps_17 : decode cX11_keeps 17 = .ok (.iload_n 3, 1) := by decide +kernel
theorem dX11_keeps_18 : decode cX11_keeps 18 = .ok (.invokestatic 212, 3) := by decide +kernel
theorem dX11_keeps_21 : decode cX11_keeps 21 = .ok (.ifCond .ne 6, 3) := by decide +kernel
theorem dX11_keeps_24 : decode cX11_keeps 24 = .ok (.bipush (-2), 2) := by decide +kernel
theorem dX11_keeps_26 : decode cX11_keeps 26 = .ok (.ireturn, 1) := by decide +kernel
theorem dX11_keeps_27 : decode cX11_keeps 27 = .ok (.iload_n 1, 1) := by decide +kernel
theorem dX11_keeps_28 : decode cX11_keeps 28 = .ok (.iconst 1, 1) := by decide +kernel
theorem dX11_keeps_29 : decode cX11_keeps 29 = .ok (.isub, 1) := by decide +kernel
theorem dX11_keeps_30 : decode cX11_keeps 30 = .ok (.iload_n 2, 1) := by decide +kernel
theorem dX11_keeps_31 : decode cX11_keeps 31 = .ok (.iload_n 3, 1) := by decide +kernel
theorem dX11_keeps_32 : decode cX11_keeps 32 = .ok (.invokestatic 217, 3) := by decide +kernel
theorem dX11_keeps_35 : decode cX11_keeps 35 = .ok (.lstore 4, 2) := by decide +kernel
theorem dX11_keeps_37 : decode cX11_keeps 37 = .ok (.iload_n 1, 1) := by decide +kernel
theorem dX11_keeps_38 : decode cX11_keeps 38 = .ok (.iload_n 2, 1) := by decide +kernel
theorem dX11_keeps_39 : decode cX11_keeps 39 = .ok (.iload_n 3, 1) := by decide +kernel
theorem dX11_keeps_40 : decode cX11_keeps 40 = .ok (.lload 4, 2) := by decide +kernel
theorem dX11_keeps_42 : decode cX11_keeps 42 = .ok (.invokestatic 229, 3) := by decide +kernel
theorem dX11_keeps_45 : decode cX11_keeps 45 = .ok (.iload_n 1, 1) := by decide +kernel
theorem dX11_keeps_46 : decode cX11_keeps 46 = .ok (.iload_n 3, 1) := by decide +kernel
theorem dX11_keeps_47 : decode cX11_keeps 47 = .ok (.lload 4, 2) := by decide +kernel
theorem dX11_keeps_49 : decode cX11_keeps 49 = .ok (.invokestatic 233, 3) := by decide +kernel
theorem dX11_keeps_52 : decode cX11_keeps 52 = .ok (.lcmp, 1) := by decide +kernel
theorem dX11_keeps_53 : decode cX11_keeps 53 = .ok (.ifCond .le 7, 3) := by decide +kernel
theorem dX11_keeps_56 : decode cX11_keeps 56 = .ok (.iconst 1, 1) := by decide +kernel
theorem dX11_keeps_57 : decode cX11_keeps 57 = .ok (.goto 4, 3) := by decide +kernel
theorem dX11_keeps_60 : decode cX11_keeps 60 = .ok (.iconst 0, 1) := by decide +kernel
theorem dX11_keeps_61 : decode cX11_keeps 61 = .ok (.ireturn, 1) := by decide +kernel
noncomputable def b_X11_keeps (a0 : Nat) (x1 : Int32) (x2 : Int32) (x3 : Int32) (M : Me) : Option (Int32) :=
  cP (f_X11_isWithin x1 (1 : Int32) (8 : Int32) M) fun v1 =>
  if v1 = 0 then (
    some (-2 : Int32)
  ) else (
    cP (f_X11_areTenths x2 M) fun v2 =>
    if v2 = 0 then (
      some (-2 : Int32)
    ) else (
      cP (f_X11_areTenths x3 M) fun v3 =>
      if v3 = 0 then (
        some (-2 : Int32)
      ) else (
        cL (f_X11_mostKept (x1 - (1 : Int32)) x2 x3 M) fun w4 =>
        cL (f_X11_keptBack x1 x2 x3 w4 M) fun w5 =>
        cL (f_X11_exchanged x1 x3 w4 M) fun w6 =>
        (
          if (lg_cmp w5 w6) ≤ 0 then (
            some (0 : Int32)
          ) else (
            some (1 : Int32)
          )
        ).bind fun v7 =>
        some v7
      )
    )
  )
noncomputable def f_X11_keeps (a0 : Nat) (x1 : Int32) (x2 : Int32) (x3 : Int32) (M : Me) : Option (Int32) := ck M a0 11 (b_X11_keeps a0 x1 x2 x3 M)
set_option maxRecDepth 20000 in
theorem vb_X11_keeps (d : Nat) (hd : 4 ≤ d) (a0 : Nat) (x1 : Int32) (x2 : Int32) (x3 : Int32) (M : Me) : V (mX11_keeps, d, 0, 0) (0, 0) M 0 [some (.ref a0), some (.int x1), some (.int x2), some (.int x3), none, none] [] (b_X11_keeps a0 x1 x2 x3 M) (fun z => some (some (.int z), M)) := by
  unfold b_X11_keeps
  refine v_iload_n (q := 1) dX11_keeps_0 rfl rfl rfl ?_
  refine v_iconst (q := 2) dX11_keeps_1 rfl ic_1 ?_
  refine v_bipush (q := 4) dX11_keeps_2 rfl bp_8 ?_
  refine v_cPS3 (q := 7) (ct_X11_isWithin (d - 1) (by omega) _ _ _ _) dX11_keeps_4 rfl cc_X11_55 (by omega) (Nat.le_of_ble_eq_true rfl) ⟨Nat.le_of_ble_eq_true rfl, Nat.le_of_ble_eq_true rfl⟩ (fun v1 => ?_)
  refine v_if_eq (tgt := 24) (q := 10) dX11_keeps_7 rfl rfl ?_ ?_
  · refine v_bipush (q := 26) dX11_keeps_24 rfl bp_m2 ?_
    exact v_iret rfl dX11_keeps_26 ⟨Nat.le_of_ble_eq_true rfl, Nat.le_of_ble_eq_true rfl⟩ rfl
  · refine v_iload_n (q := 11) dX11_keeps_10 rfl rfl rfl ?_
    refine v_cPS1 (q := 14) (ct_X11_areTenths (d - 1) (by omega) _ _) dX11_keeps_11 rfl cc_X11_212 (by omega) (Nat.le_of_ble_eq_true rfl) ⟨Nat.le_of_ble_eq_true rfl, Nat.le_of_ble_eq_true rfl⟩ (fun v2 => ?_)
    refine v_if_eq (tgt := 24) (q := 17) dX11_keeps_14 rfl rfl ?_ ?_
    · refine v_bipush (q := 26) dX11_keeps_24 rfl bp_m2 ?_
      exact v_iret rfl dX11_keeps_26 ⟨Nat.le_of_ble_eq_true rfl, Nat.le_of_ble_eq_true rfl⟩ rfl
    · refine v_iload_n (q := 18) dX11_keeps_17 rfl rfl rfl ?_
      refine v_cPS1 (q := 21) (ct_X11_areTenths (d - 1) (by omega) _ _) dX11_keeps_18 rfl cc_X11_212 (by omega) (Nat.le_of_ble_eq_true rfl) ⟨Nat.le_of_ble_eq_true rfl, Nat.le_of_ble_eq_true rfl⟩ (fun v3 => ?_)
      refine v_if_ne (tgt := 27) (q := 24) dX11_keeps_21 rfl rfl ?_ ?_
      · refine v_iload_n (q := 28) dX11_keeps_27 rfl rfl rfl ?_
        refine v_iconst (q := 29) dX11_keeps_28 rfl ic_1 ?_
        refine v_isub (q := 30) dX11_keeps_29 rfl ?_
        refine v_iload_n (q := 31) dX11_keeps_30 rfl rfl rfl ?_
        refine v_iload_n (q := 32) dX11_keeps_31 rfl rfl rfl ?_
        refine v_cLS3 (q := 35) (ct_X11_mostKept (d - 1) (by omega) _ _ _ _) dX11_keeps_32 rfl cc_X11_217 (by omega) (Nat.le_of_ble_eq_true rfl) ⟨Nat.le_of_ble_eq_true rfl, Nat.le_of_ble_eq_true rfl⟩ (fun w4 => ?_)
        refine v_lstore (q := 37) (loc2 := [some (.ref a0), some (.int x1), some (.int x2), some (.int x3), some (.long w4), none]) dX11_keeps_35 rfl rfl (Nat.le_of_ble_eq_true rfl) rfl ?_
        refine v_iload_n (q := 38) dX11_keeps_37 rfl rfl rfl ?_
        refine v_iload_n (q := 39) dX11_keeps_38 rfl rfl rfl ?_
        refine v_iload_n (q := 40) dX11_keeps_39 rfl rfl rfl ?_
        refine v_lload (q := 42) dX11_keeps_40 rfl rfl ?_
        refine v_cLS4 (q := 45) (ct_X11_keptBack (d - 1) (by omega) _ _ _ _ _) dX11_keeps_42 rfl cc_X11_229 (by omega) (Nat.le_of_ble_eq_true rfl) ⟨Nat.le_of_ble_eq_true rfl, Nat.le_of_ble_eq_true rfl⟩ (fun w5 => ?_)
        refine v_iload_n (q := 46) dX11_keeps_45 rfl rfl rfl ?_
        refine v_iload_n (q := 47) dX11_keeps_46 rfl rfl rfl ?_
        refine v_lload (q := 49) dX11_keeps_47 rfl rfl ?_
        refine v_cLS3 (q := 52) (ct_X11_exchanged (d - 1) (by omega) _ _ _ _) dX11_keeps_49 rfl cc_X11_233 (by omega) (Nat.le_of_ble_eq_true rfl) ⟨Nat.le_of_ble_eq_true rfl, Nat.le_of_ble_eq_true rfl⟩ (fun w6 => ?_)
        refine v_lcmp (q := 53) dX11_keeps_52 rfl ?_
        refine v_join (γ := Int32) 61 (fun v7 => M) (fun v7 => [some (.ref a0), some (.int x1), some (.int x2), some (.int x3), some (.long w4), none]) (fun v7 => [.int v7]) (fun K hK => ?_) (fun v7 => ?_)
        · refine v_if_le (tgt := 60) (q := 56) dX11_keeps_53 rfl rfl ?_ ?_
          · refine v_iconst (q := 61) dX11_keeps_60 rfl ic_0 ?_
            exact hK (0 : Int32)
          · refine v_iconst (q := 57) dX11_keeps_56 rfl ic_1 ?_
            refine v_goto (tgt := 61) dX11_keeps_57 rfl ?_
            exact hK (1 : Int32)
        · exact v_iret rfl dX11_keeps_61 ⟨Nat.le_of_ble_eq_true rfl, Nat.le_of_ble_eq_true rfl⟩ rfl
      · refine v_bipush (q := 26) dX11_keeps_24 rfl bp_m2 ?_
        exact v_iret rfl dX11_keeps_26 ⟨Nat.le_of_ble_eq_true rfl, Nat.le_of_ble_eq_true rfl⟩ rfl
theorem ct_X11_keeps (d : Nat) (hd : 4 ≤ d) (a0 : Nat) (x1 : Int32) (x2 : Int32) (x3 : Int32) (M : Me) (r : Int32) (hf : f_X11_keeps a0 x1 x2 x3 M = some r) : me_k M a0 = some (11, nf_c 11) ∧ Ct yX11_keeps mX11_keeps d 0 0 [.ref a0, .int x1, .int x2, .int x3] M (some (.int r), M) := by
  obtain ⟨hk, hb⟩ := ck_some hf
  exact ⟨hk, ct_of (by decide +kernel) rfl rfl (Nat.le_of_ble_eq_true rfl) (vb_X11_keeps d hd a0 x1 x2 x3 M) (by rw [hb]; rfl)⟩
theorem dX11_seen_0 : decode cX11_seen 0 = .ok (.iload_n 1, 1) := by decide +kernel
theorem dX11_seen_1 : decode cX11_seen 1 = .ok (.iconst 0, 1) := by decide +kernel
theorem dX11_seen_2 : decode cX11_seen 2 = .ok (.iconst 5, 1) := by decide +kernel
theorem dX11_seen_3 : decode cX11_seen 3 = .ok (.invokestatic 55, 3) := by decide +kernel
theorem dX11_seen_6 : decode cX11_seen 6 = .ok (.ifCond .ne 5, 3) := by decide +kernel
theorem dX11_seen_9 : decode cX11_seen 9 = .ok (.iconst (-1), 1) := by decide +kernel
theorem dX11_seen_10 : decode cX11_seen 10 = .ok (.ireturn, 1) := by decide +kernel
theorem dX11_seen_11 : decode cX11_seen 11 = .ok (.iload_n 2, 1) := by decide +kernel
theorem dX11_seen_12 : decode cX11_seen 12 = .ok (.iconst 1, 1) := by decide +kernel
theorem dX11_seen_13 : decode cX11_seen 13 = .ok (.bipush 20, 2) := by decide +kernel
theorem dX11_seen_15 : decode cX11_seen 15 = .ok (.invokestatic 55, 3) := by decide +kernel
theorem dX11_seen_18 : decode cX11_seen 18 = .ok (.ifCond .ne 6, 3) := by decide +kernel
theorem dX11_seen_21 : decode cX11_seen 21 = .ok (.bipush (-2), 2) := by decide +kernel
theorem dX11_seen_23 : decode cX11_seen 23 = .ok (.ireturn, 1) := by decide +kernel
theorem dX11_seen_24 : decode cX11_seen 24 = .ok (.aload_n 0, 1) := by decide +kernel
theorem dX11_seen_25 : decode cX11_seen 25 = .ok (.getfield 19, 3) := by decide +kernel
theorem dX11_seen_28 : decode cX11_seen 28 = .ok (.getfield 237, 3) := by decide +kernel
theorem dX11_seen_31 : decode cX11_seen 31 = .ok (.getfield 241, 3) := by decide +kernel
theorem dX11_seen_34 : decode cX11_seen 34 = .ok (.bipush 6, 2) := by decide +kernel
theorem dX11_seen_36 : decode cX11_seen 36 = .ok (.if_icmp .lt 6, 3) := by decide +kernel
theorem dX11_seen_39 : decode cX11_seen 39 = .ok (.bipush (-4), 2) := by decide +kernel
theorem dX11_seen_41 : decode cX11_seen 41 = .ok (.ireturn, 1) := by decide +kernel
theorem dX11_seen_42 : decode cX11_seen 42 = .ok (.aload_n 0, 1) := by decide +kernel
theorem dX11_seen_43 : decode cX11_seen 43 = .ok (.getfield 19, 3) := by decide +kernel
theorem dX11_seen_46 : decode cX11_seen 46 = .ok (.getfield 237, 3) := by decide +kernel
theorem dX11_seen_49 : decode cX11_seen 49 = .ok (.iload_n 1, 1) := by decide +kernel
theorem dX11_seen_50 : decode cX11_seen 50 = .ok (.iload_n 2, 1) := by decide +kernel
theorem dX11_seen_51 : decode cX11_seen 51 = .ok (.invokevirtual 244, 3) := by decide +kernel
theorem dX11_seen_54 : decode cX11_seen 54 = .ok (.aload_n 0, 1) := by decide +kernel
theorem dX11_seen_55 : decode cX11_seen 55 = .ok (.getfield 19, 3) := by decide +kernel
theorem dX11_seen_58 : decode cX11_seen 58 = .ok (.getfield 237, 3) := by decide +kernel
theorem dX11_seen_61 : decode cX11_seen 61 = .ok (.getfield 241, 3) := by decide +kernel
theorem dX11_seen_64 : decode cX11_seen 64 = .ok (.ireturn, 1) := by decide +kernel
noncomputable def b_X11_seen (a0 : Nat) (x1 : Int32) (x2 : Int32) (M : Me) : Option (Int32 × Me) :=
  cP (f_X11_isWithin x1 (0 : Int32) (5 : Int32) M) fun v1 =>
  if v1 = 0 then (
    some ((-1 : Int32), M)
  ) else (
    cP (f_X11_isWithin x2 (1 : Int32) (20 : Int32) M) fun v2 =>
    if v2 = 0 then (
      some ((-2 : Int32), M)
    ) else (
      gr M a0 11 1 fun o3 =>
      gr M o3 0 3 fun o4 =>
      gi M o4 9 0 fun v5 =>
      if v5 < (6 : Int32) then (
        gr M a0 11 1 fun o6 =>
        gr M o6 0 3 fun o7 =>
        cM (f_X9_add o7 x1 x2 M) fun M8 =>
        gr M8 a0 11 1 fun o9 =>
        gr M8 o9 0 3 fun o10 =>
        gi M8 o10 9 0 fun v11 =>
        some (v11, M8)
      ) else (
        some ((-4 : Int32), M)
      )
    )
  )
noncomputable def f_X11_seen (a0 : Nat) (x1 : Int32) (x2 : Int32) (M : Me) : Option (Int32 × Me) := ck M a0 11 (b_X11_seen a0 x1 x2 M)
set_option maxRecDepth 20000 in
theorem vb_X11_seen (d : Nat) (hd : 1 ≤ d) (a0 : Nat) (x1 : Int32) (x2 : Int32) (M : Me) : V (mX11_seen, d, 0, 0) (0, 0) M 0 [some (.ref a0), some (.int x1), some (.int x2)] [] (b_X11_seen a0 x1 x2 M) (fun z => some (some (.int z.1), z.2)) := by
  unfold b_X11_seen
  refine v_iload_n (q := 1) dX11_seen_0 rfl rfl rfl ?_
  refine v_iconst (q := 2) dX11_seen_1 rfl ic_0 ?_
  refine v_iconst (q := 3) dX11_seen_2 rfl ic_5 ?_
  refine v_cPS3 (q := 6) (ct_X11_isWithin (d - 1) (by omega) _ _ _ _) dX11_seen_3 rfl cc_X11_55 (by omega) (Nat.le_of_ble_eq_true rfl) ⟨Nat.le_of_ble_eq_true rfl, Nat.le_of_ble_eq_true rfl⟩ (fun v1 => ?_)
  refine v_if_ne (tgt := 11) (q := 9) dX11_seen_6 rfl rfl ?_ ?_
  · refine v_iload_n (q := 12) dX11_seen_11 rfl rfl rfl ?_
    refine v_iconst (q := 13) dX11_seen_12 rfl ic_1 ?_
    refine v_bipush (q := 15) dX11_seen_13 rfl bp_20 ?_
    refine v_cPS3 (q := 18) (ct_X11_isWithin (d - 1) (by omega) _ _ _ _) dX11_seen_15 rfl cc_X11_55 (by omega) (Nat.le_of_ble_eq_true rfl) ⟨Nat.le_of_ble_eq_true rfl, Nat.le_of_ble_eq_true rfl⟩ (fun v2 => ?_)
    refine v_if_ne (tgt := 24) (q := 21) dX11_seen_18 rfl rfl ?_ ?_
    · refine v_aload_n (q := 25) dX11_seen_24 rfl rfl rfl ?_
      refine v_getRb (q := 28) dX11_seen_25 rfl fg_X11_19 (fun o3 => ?_)
      refine v_getRb (q := 31) dX11_seen_28 rfl fg_X11_237 (fun o4 => ?_)
      refine v_getIb (q := 34) dX11_seen_31 rfl fg_X11_241 (fun v5 => ?_)
      refine v_bipush (q := 36) dX11_seen_34 rfl bp_6 ?_
      refine v_icmp_lt (tgt := 42) (q := 39) dX11_seen_36 rfl rfl ?_ ?_
      · refine v_aload_n (q := 43) dX11_seen_42 rfl rfl rfl ?_
        refine v_getRb (q := 46) dX11_seen_43 rfl fg_X11_19 (fun o6 => ?_)
        refine v_getRb (q := 49) dX11_seen_46 rfl fg_X11_237 (fun o7 => ?_)
        refine v_iload_n (q := 50) dX11_seen_49 rfl rfl rfl ?_
        refine v_iload_n (q := 51) dX11_seen_50 rfl rfl rfl ?_
        refine v_cMV2 (q := 54) (ct_X9_add (d - 1) (by omega) _ _ _ _) dX11_seen_51 rfl cc_X11_244 (by omega) (Nat.le_of_ble_eq_true rfl) ⟨Nat.le_of_ble_eq_true rfl, Nat.le_of_ble_eq_true rfl⟩ (fun M8 => ?_)
        refine v_aload_n (q := 55) dX11_seen_54 rfl rfl rfl ?_
        refine v_getRb (q := 58) dX11_seen_55 rfl fg_X11_19 (fun o9 => ?_)
        refine v_getRb (q := 61) dX11_seen_58 rfl fg_X11_237 (fun o10 => ?_)
        refine v_getIb (q := 64) dX11_seen_61 rfl fg_X11_241 (fun v11 => ?_)
        exact v_iret rfl dX11_seen_64 ⟨Nat.le_of_ble_eq_true rfl, Nat.le_of_ble_eq_true rfl⟩ rfl
      · refine v_bipush (q := 41) dX11_seen_39 rfl bp_m4 ?_
        exact v_iret rfl dX11_seen_41 ⟨Nat.le_of_ble_eq_true rfl, Nat.le_of_ble_eq_true rfl⟩ rfl
    · refine v_bipush (q := 23) dX11_seen_21 rfl bp_m2 ?_
      exact v_iret rfl dX11_seen_23 ⟨Nat.le_of_ble_eq_true rfl, Nat.le_of_ble_eq_true rfl⟩ rfl
  · refine v_iconst (q := 10) dX11_seen_9 rfl ic_m1 ?_
    exact v_iret rfl dX11_seen_10 ⟨Nat.le_of_ble_eq_true rfl, Nat.le_of_ble_eq_true rfl⟩ rfl
theorem ct_X11_seen (d : Nat) (hd : 1 ≤ d) (a0 : Nat) (x1 : Int32) (x2 : Int32) (M : Me) (r : Int32) (M2 : Me) (hf : f_X11_seen a0 x1 x2 M = some (r, M2)) : me_k M a0 = some (11, nf_c 11) ∧ Ct yX11_seen mX11_seen d 0 0 [.ref a0, .int x1, .int x2] M (some (.int r), M2) := by
  obtain ⟨hk, hb⟩ := ck_some hf
  exact ⟨hk, ct_of (by decide +kernel) rfl rfl (Nat.le_of_ble_eq_true rfl) (vb_X11_seen d hd a0 x1 x2 M) (by rw [hb]; rfl)⟩
theorem dX11_forget_0 : decode cX11_forget 0 = .ok (.aload_n 0, 1) := by decide +kernel
theorem dX11_forget_1 : decode cX11_forget 1 = .ok (.getfield 19, 3) := by decide +kernel
theorem dX11_forget_4 : decode cX11_forget 4 = .ok (.getfield 237, 3) := by decide +kernel
theorem dX11_forget_7 : decode cX11_forget 7 = .ok (.getfield 241, 3) := by decide +kernel
theorem dX11_forget_10 : decode cX11_forget 10 = .ok (.istore_n 1, 1) := by decide +kernel
theorem dX11_forget_11 : decode cX11_forget 11 = .ok (.aload_n 0, 1) := by decide +kernel
theorem dX11_forget_12 : decode cX11_forget 12 = .ok (.getfield 19, 3) := by decide +kernel
theorem dX11_forget_15 : decode cX11_forget 15 = .ok (.getfield 237, 3) := by decide +kernel
theorem dX11_forget_18 : decode cX11_forget 18 = .ok (.iconst 0, 1) := by decide +kernel
theorem dX11_forget_19 : decode cX11_forget 19 = .ok (.putfield 241, 3) := by decide +kernel
theorem dX11_forget_22 : decode cX11_forget 22 = .ok (.iload_n 1, 1) := by decide +kernel
theorem dX11_forget_23 : decode cX11_forget 23 = .ok (.ireturn, 1) := by decide +kernel
noncomputable def b_X11_forget (a0 : Nat) (M : Me) : Option (Int32 × Me) :=
  gr M a0 11 1 fun o1 =>
  gr M o1 0 3 fun o2 =>
  gi M o2 9 0 fun v3 =>
  gr M a0 11 1 fun o4 =>
  gr M o4 0 3 fun o5 =>
  pi M o5 9 0 (0 : Int32) fun M6 =>
  some (v3, M6)
noncomputable def f_X11_forget (a0 : Nat) (M : Me) : Option (Int32 × Me) := ck M a0 11 (b_X11_forget a0 M)
set_option maxRecDepth 20000 in
theorem vb_X11_forget (d : Nat) (hd : 0 ≤ d) (a0 : Nat) (M : Me) : V (mX11_forget, d, 0, 0) (0, 0) M 0 [some (.ref a0), none] [] (b_X11_forget a0 M) (fun z => some (some (.int z.1), z.2)) := by
  unfold b_X11_forget
  refine v_aload_n (q := 1) dX11_forget_0 rfl rfl rfl ?_
  refine v_getRb (q := 4) dX11_forget_1 rfl fg_X11_19 (fun o1 => ?_)
  refine v_getRb (q := 7) dX11_forget_4 rfl fg_X11_237 (fun o2 => ?_)
  refine v_getIb (q := 10) dX11_forget_7 rfl fg_X11_241 (fun v3 => ?_)
  refine v_istore_n (q := 11) (loc2 := [some (.ref a0), some (.int v3)]) dX11_forget_10 rfl rfl rfl (Nat.le_of_ble_eq_true rfl) rfl ?_
  refine v_aload_n (q := 12) dX11_forget_11 rfl rfl rfl ?_
  refine v_getRb (q := 15) dX11_forget_12 rfl fg_X11_19 (fun o4 => ?_)
  refine v_getRb (q := 18) dX11_forget_15 rfl fg_X11_237 (fun o5 => ?_)
  refine v_iconst (q := 19) dX11_forget_18 rfl ic_0 ?_
  refine v_putIb (q := 22) dX11_forget_19 rfl fp_X11_241 (fun M6 => ?_)
  refine v_iload_n (q := 23) dX11_forget_22 rfl rfl rfl ?_
  exact v_iret rfl dX11_forget_23 ⟨Nat.le_of_ble_eq_true rfl, Nat.le_of_ble_eq_true rfl⟩ rfl
theorem ct_X11_forget (d : Nat) (hd : 0 ≤ d) (a0 : Nat) (M : Me) (r : Int32) (M2 : Me) (hf : f_X11_forget a0 M = some (r, M2)) : me_k M a0 = some (11, nf_c 11) ∧ Ct yX11_forget mX11_forget d 0 0 [.ref a0] M (some (.int r), M2) := by
  obtain ⟨hk, hb⟩ := ck_some hf
  exact ⟨hk, ct_of (by decide +kernel) rfl rfl (Nat.le_of_ble_eq_true rfl) (vb_X11_forget d hd a0 M) (by rw [hb]; rfl)⟩
theorem dX11_who_0 : decode cX11_who 0 = .ok (.iload_n 1, 1) := by decide +kernel
theorem dX11_who_1 : decode cX11_who 1 = .ok (.iconst 0, 1) := by decide +kernel
theorem dX11_who_2 : decode cX11_who 2 = .ok (.iconst 2, 1) := by decide +kernel
theorem dX11_who_3 : decode cX11_who 3 = .ok (.invokestatic 55, 3) := by decide +kernel
theorem dX11_who_6 : decode cX11_who 6 = .ok (.ifCond .ne 6, 3) := by decide +kernel
theorem dX11_who_9 : decode cX11_who 9 = .ok (.bipush (-2), 2) := by decide +kernel
theorem dX11_who_11 : decode cX11_who 11 = .ok (.ireturn, 1) := by decide +kernel
theorem dX11_who_12 : decode cX11_who 12 = .ok (.aload_n 0, 1) := by decide +kernel
theorem dX11_who_13 : decode cX11_who 13 = .ok (.getfield 51, 3) := by decide +kernel
theorem dX11_who_16 : decode cX11_who 16 = .ok (.aload_n 0, 1) := by decide +kernel
theorem dX11_who_17 : decode cX11_who 17 = .ok (.getfield 19, 3) := by decide +kernel
theorem dX11_who_20 : decode cX11_who 20 = .ok (.invokevirtual 246, 3) := by decide +kernel
theorem dX11_who_23 : decode cX11_who 23 = .ok (.iload_n 1, 1) := by decide +kernel
theorem dX11_who_24 : decode cX11_who 24 = .ok (.ifCond .ne 11, 3) := by decide +kernel
theorem dX11_who_27 : decode cX11_who 27 = .ok (.aload_n 0, 1) := by decide +kernel
theorem dX11_who_28 : decode cX11_who 28 = .ok (.getfield 51, 3) := by decide +kernel
theorem dX11_who_31 : decode cX11_who 31 = .ok (.getfield 249, 3) := by decide +kernel
theorem dX11_who_34 : decode cX11_who 34 = .ok (.ireturn, 1) := by decide +kernel
theorem dX11_who_35 : decode cX11_who 35 = .ok (.iload_n 1, 1) := by decide +kernel
theorem dX11_who_36 : decode cX11_who 36 = .ok (.iconst 1, 1) := by decide +kernel
theorem dX11_who_37 : decode cX11_who 37 = .ok (.if_icmp .ne 13, 3) := by decide +kernel
theorem dX11_who_40 : decode cX11_who 40 = .ok (.aload_n 0, 1) := by decide +kernel
theorem dX11_who_41 : decode cX11_who 41 = .ok (.getfield 51, 3) := by decide +kernel
theorem dX11_who_44 : decode cX11_who 44 = .ok (.getfield 251, 3) := by decide +kernel
theorem dX11_who_47 : decode cX11_who 47 = .ok (.goto 10, 3) := by decide +kernel
theorem dX11_who_50 : decode cX11_who 50 = .ok (.aload_n 0, 1) := by decide +kernel
theorem dX11_who_51 : decode cX11_who 51 = .ok (.getfield 51, 3) := by decide +kernel
theorem dX11_who_54 : decode cX11_who 54 = .ok (.getfield 254, 3) := by decide +kernel
theorem dX11_who_57 : decode cX11_who 57 = .ok (.ireturn, 1) := by decide +kernel
noncomputable def b_X11_who (a0 : Nat) (x1 : Int32) (M : Me) : Option (Int32 × Me) :=
  cP (f_X11_isWithin x1 (0 : Int32) (2 : Int32) M) fun v1 =>
  if v1 = 0 then (
    some ((-2 : Int32), M)
  ) else (
    gr M a0 11 6 fun o2 =>
    gr M a0 11 1 fun o3 =>
    cM (f_X8_fit o2 o3 M) fun M4 =>
    if x1 = 0 then (
      gr M4 a0 11 6 fun o10 =>
      gi M4 o10 8 1 fun v11 =>
      some (v11, M4)
    ) else (
      (
        if x1 = (1 : Int32) then (
          gr M4 a0 11 6 fun o7 =>
          gi M4 o7 8 2 fun v8 =>
          some v8
        ) else (
          gr M4 a0 11 6 fun o5 =>
          gi M4 o5 8 3 fun v6 =>
          some v6
        )
      ).bind fun v9 =>
      some (v9, M4)
    )
  )
noncomputable def f_X11_who (a0 : Nat) (x1 : Int32) (M : Me) : Option (Int32 × Me) := ck M a0 11 (b_X11_who a0 x1 M)
set_option maxRecDepth 20000 in
theorem vb_X11_who (d : Nat) (hd : 3 ≤ d) (a0 : Nat) (x1 : Int32) (M : Me) : V (mX11_who, d, 0, 0) (0, 0) M 0 [some (.ref a0), some (.int x1)] [] (b_X11_who a0 x1 M) (fun z => some (some (.int z.1), z.2)) := by
  unfold b_X11_who
  refine v_iload_n (q := 1) dX11_who_0 rfl rfl rfl ?_
  refine v_iconst (q := 2) dX11_who_1 rfl ic_0 ?_
  refine v_iconst (q := 3) dX11_who_2 rfl ic_2 ?_
  refine v_cPS3 (q := 6) (ct_X11_isWithin (d - 1) (by omega) _ _ _ _) dX11_who_3 rfl cc_X11_55 (by omega) (Nat.le_of_ble_eq_true rfl) ⟨Nat.le_of_ble_eq_true rfl, Nat.le_of_ble_eq_true rfl⟩ (fun v1 => ?_)
  refine v_if_ne (tgt := 12) (q := 9) dX11_who_6 rfl rfl ?_ ?_
  · refine v_aload_n (q := 13) dX11_who_12 rfl rfl rfl ?_
    refine v_getRb (q := 16) dX11_who_13 rfl fg_X11_51 (fun o2 => ?_)
    refine v_aload_n (q := 17) dX11_who_16 rfl rfl rfl ?_
    refine v_getRb (q := 20) dX11_who_17 rfl fg_X11_19 (fun o3 => ?_)
    refine v_cMV1 (q := 23) (ct_X8_fit (d - 1) (by omega) _ _ _) dX11_who_20 rfl cc_X11_246 (by omega) (Nat.le_of_ble_eq_true rfl) ⟨Nat.le_of_ble_eq_true rfl, Nat.le_of_ble_eq_true rfl⟩ (fun M4 => ?_)
    refine v_iload_n (q := 24) dX11_who_23 rfl rfl rfl ?_
    refine v_if_ne (tgt := 35) (q := 27) dX11_who_24 rfl rfl ?_ ?_
    · refine v_iload_n (q := 36) dX11_who_35 rfl rfl rfl ?_
      refine v_iconst (q := 37) dX11_who_36 rfl ic_1 ?_
      refine v_join (γ := Int32) 57 (fun v9 => M4) (fun v9 => [some (.ref a0), some (.int x1)]) (fun v9 => [.int v9]) (fun K hK => ?_) (fun v9 => ?_)
      · refine v_icmp_ne (tgt := 50) (q := 40) dX11_who_37 rfl rfl ?_ ?_
        · refine v_aload_n (q := 51) dX11_who_50 rfl rfl rfl ?_
          refine v_getRb (q := 54) dX11_who_51 rfl fg_X11_51 (fun o5 => ?_)
          refine v_getIb (q := 57) dX11_who_54 rfl fg_X11_254 (fun v6 => ?_)
          exact hK v6
        · refine v_aload_n (q := 41) dX11_who_40 rfl rfl rfl ?_
          refine v_getRb (q := 44) dX11_who_41 rfl fg_X11_51 (fun o7 => ?_)
          refine v_getIb (q := 47) dX11_who_44 rfl fg_X11_251 (fun v8 => ?_)
          refine v_goto (tgt := 57) dX11_who_47 rfl ?_
          exact hK v8
      · exact v_iret rfl dX11_who_57 ⟨Nat.le_of_ble_eq_true rfl, Nat.le_of_ble_eq_true rfl⟩ rfl
    · refine v_aload_n (q := 28) dX11_who_27 rfl rfl rfl ?_
      refine v_getRb (q := 31) dX11_who_28 rfl fg_X11_51 (fun o10 => ?_)
      refine v_getIb (q := 34) dX11_who_31 rfl fg_X11_249 (fun v11 => ?_)
      exact v_iret rfl dX11_who_34 ⟨Nat.le_of_ble_eq_true rfl, Nat.le_of_ble_eq_true rfl⟩ rfl
  · refine v_bipush (q := 11) dX11_who_9 rfl bp_m2 ?_
    exact v_iret rfl dX11_who_11 ⟨Nat.le_of_ble_eq_true rfl, Nat.le_of_ble_eq_true rfl⟩ rfl
theorem ct_X11_who (d : Nat) (hd : 3 ≤ d) (a0 : Nat) (x1 : Int32) (M : Me) (r : Int32) (M2 : Me) (hf : f_X11_who a0 x1 M = some (r, M2)) : me_k M a0 = some (11, nf_c 11) ∧ Ct yX11_who mX11_who d 0 0 [.ref a0, .int x1] M (some (.int r), M2) := by
  obtain ⟨hk, hb⟩ := ck_some hf
  exact ⟨hk, ct_of (by decide +kernel) rfl rfl (Nat.le_of_ble_eq_true rfl) (vb_X11_who d hd a0 x1 M) (by rw [hb]; rfl)⟩
theorem dX11_goneInTime_0 : decode cX11_goneInTime 0 = .ok (.lconst 0, 1) := by decide +kernel
theorem dX11_goneInTime_1 : decode cX11_goneInTime 1 = .ok (.lstore_n 3, 1) := by decide +kernel
theorem dX11_goneInTime_2 : decode cX11_goneInTime 2 = .ok (.lconst 1, 1) := by decide +kernel
theorem dX11_goneInTime_3 : decode cX11_goneInTime 3 = .ok (.lstore 5, 2) := by decide +kernel
theorem dX11_goneInTime_5 : decode cX11_goneInTime 5 = .ok (.iconst 0, 1) := by decide +kernel
theorem dX11_goneInTime_6 : decode cX11_goneInTime 6 = .ok (.istore 7, 2) := by decide +kernel
theorem dX11_goneInTime_8 : decode cX11_goneInTime 8 = .ok (.iload 7, 2) := by decide +kernel
theorem dX11_goneInTime_10 : decode cX11_goneInTime 10 = .ok (.iload_n 1, 1) := by decide +kernel
theorem dX11_goneInTime_11 : decode cX11_goneInTime 11 = .ok (.if_icmp .gt 55, 3) := by decide +kernel
theorem dX11_goneInTime_14 : decode cX11_goneInTime 14 = .ok (.iload 7, 2) := by decide +kernel
theorem dX11_goneInTime_16 : decode cX11_goneInTime 16 = .ok (.iload_n 0, 1) := by decide +kernel
theorem dX11_goneInTime_17 : decode cX11_goneInTime 17 = .ok (.if_icmp .lt 27, 3) := by decide +kernel
theorem dX11_goneInTime_20 : decode cX11_goneInTime 20 = .ok (.lload_n 3, 1) := by decide +kernel
theorem dX11_goneInTime_21 : decode cX11_goneInTime 21 = .ok (.lload 5, 2) := by decide +kernel
theorem dX11_goneInTime_23 : decode cX11_goneInTime 23 = .ok (.bipush 10, 2) := by decide +kernel
theorem dX11_goneInTime_25 : decode cX11_goneInTime 25 = .ok (.iload_n 2, 1) := by decide +kernel
theorem dX11_goneInTime_26 : decode cX11_goneInTime 26 = .ok (.isub, 1) := by decide +kernel
theorem dX11_goneInTime_27 : decode cX11_goneInTime 27 = .ok (.iload 7, 2) := by decide +kernel
theorem dX11_goneInTime_29 : decode cX11_goneInTime 29 = .ok (.invokestatic 305, 3) := by decide +kernel
theorem dX11_goneInTime_32 : decode cX11_goneInTime 32 = .ok (.lmul, 1) := by decide +kernel
theorem dX11_goneInTime_33 : decode cX11_goneInTime 33 = .ok (.iload_n 2, 1) := by decide +kernel
theorem dX11_goneInTime_34 : decode cX11_goneInTime 34 = .ok (.iload_n 1, 1) := by decide +kernel
theorem dX11_goneInTime_35 : decode cX11_goneInTime 35 = .ok (.iload 7, 2) := by decide +kernel
theorem dX11_goneInTime_37 : decode cX11_goneInTime 37 = .ok (.isub, 1) := by decide +kernel
theorem dX11_goneInTime_38 : decode cX11_goneInTime 38 = .ok (.invokestatic 305, 3) := by decide +kernel
theorem dX11_goneInTime_41 : decode cX11_goneInTime 41 = .ok (.lmul, 1) := by decide +kernel
theorem dX11_goneInTime_42 : decode cX11_goneInTime 42 = .ok (.ladd, 1) := by decide +kernel
theorem dX11_goneInTime_43 : decode cX11_goneInTime 43 = .ok (.lstore_n 3, 1) := by decide +kernel
theorem dX11_goneInTime_44 : decode cX11_goneInTime 44 = .ok (.lload 5, 2) := by decide +kernel
theorem dX11_goneInTime_46 : decode cX11_goneInTime 46 = .ok (.iload_n 1, 1) := by decide +kernel
theorem dX11_goneInTime_47 : decode cX11_goneInTime 47 = .ok (.iload 7, 2) := by decide +kernel
theorem dX11_goneInTime_49 : decode cX11_goneInTime 49 = .ok (.isub, 1) := by decide +kernel
theorem dX11_goneInTime_50 : decode cX11_goneInTime 50 = .ok (.i2l, 1) := by decide +kernel
theorem dX11_goneInTime_51 : decode cX11_goneInTime 51 = .ok (.lmul, 1) := by decide +kernel
theorem dX11_goneInTime_52 : decode cX11_goneInTime 52 = .ok (.iload 7, 2) := by decide +kernel
theorem dX11_goneInTime_54 : decode cX11_goneInTime 54 = .ok (.iconst 1, 1) := by decide +kernel
theorem dX11_goneInTime_55 : decode cX11_goneInTime 55 = .ok (.iadd, 1) := by decide +kernel
theorem dX11_goneInTime_56 : decode cX11_goneInTime 56 = .ok (.i2l, 1) := by decide +kernel
theorem dX11_goneInTime_57 : decode cX11_goneInTime 57 = .ok (.ldiv, 1) := by decide +kernel
theorem dX11_goneInTime_58 : decode cX11_goneInTime 58 = .ok (.lstore 5, 2) := by decide +kernel
theorem dX11_goneInTime_60 : decode cX11_goneInTime 60 = .ok (.iinc 7 1, 3) := by decide +kernel
theorem dX11_goneInTime_63 : decode cX11_goneInTime 63 = .ok (.goto (-55), 3) := by decide +kernel
theorem dX11_goneInTime_66 : decode cX11_goneInTime 66 = .ok (.lload_n 3, 1) := by decide +kernel
theorem dX11_goneInTime_67 : decode cX11_goneInTime 67 = .ok (.lreturn, 1) := by decide +kernel
noncomputable def s_X11_goneInTime_8 (x0 : Int32) (x1 : Int32) (x2 : Int32) (M : Me) (w1 : Int64) (w2 : Int64) (v3 : Int32) : Option ((Int64 × Int64 × Int32) ⊕ (Int64 × Int64 × Int32)) :=
  if x1 < v3 then (
    some (Sum.inr (w1, w2, v3))
  ) else (
    (
      if v3 < x0 then (
        some w1
      ) else (
        cL (f_X11_power ((10 : Int32) - x2) v3 M) fun w4 =>
        cL (f_X11_power x2 (x1 - v3) M) fun w5 =>
        let_v ((w1 + ((w2 * w4) * w5))) fun w6 =>
        some w6
      )
    ).bind fun w7 =>
    if ((v3 + (1 : Int32)).toInt64) = 0 then none else
    let_v (((w2 * ((x1 - v3).toInt64)) / ((v3 + (1 : Int32)).toInt64))) fun w8 =>
    let_v (v3 + (1 : Int32)) fun v9 =>
    some (Sum.inl (w7, w8, v9))
  )
noncomputable def b_X11_goneInTime (x0 : Int32) (x1 : Int32) (x2 : Int32) (M : Me) : Option (Int64) :=
  (lp (fun s => s_X11_goneInTime_8 x0 x1 x2 M s.1 s.2.1 s.2.2) ((0 : Int64), (1 : Int64), (0 : Int32))).bind fun e10 =>
  some e10.1
noncomputable def f_X11_goneInTime (x0 : Int32) (x1 : Int32) (x2 : Int32) (M : Me) : Option (Int64) := b_X11_goneInTime x0 x1 x2 M
set_option maxRecDepth 20000 in
theorem vb_X11_goneInTime (d : Nat) (hd : 1 ≤ d) (x0 : Int32) (x1 : Int32) (x2 : Int32) (M : Me) : V (mX11_goneInTime, d, 0, 0) (0, 0) M 0 [some (.int x0), some (.int x1), some (.int x2), none, none, none, none, none] [] (b_X11_goneInTime x0 x1 x2 M) (fun z => some (some (.long z), M)) := by
  unfold b_X11_goneInTime
  refine v_lconst (q := 1) dX11_goneInTime_0 rfl rfl ?_
  refine v_lstore_n (q := 2) (loc2 := [some (.int x0), some (.int x1), some (.int x2), some (.long (0 : Int64)), none, none, none, none]) dX11_goneInTime_1 rfl rfl rfl (Nat.le_of_ble_eq_true rfl) rfl ?_
  refine v_lconst (q := 3) dX11_goneInTime_2 rfl rfl ?_
  refine v_lstore (q := 5) (loc2 := [some (.int x0), some (.int x1), some (.int x2), some (.long (0 : Int64)), none, some (.long (1 : Int64)), none, none]) dX11_goneInTime_3 rfl rfl (Nat.le_of_ble_eq_true rfl) rfl ?_
  refine v_iconst (q := 6) dX11_goneInTime_5 rfl ic_0 ?_
  refine v_istore (q := 8) (loc2 := [some (.int x0), some (.int x1), some (.int x2), some (.long (0 : Int64)), none, some (.long (1 : Int64)), none, some (.int (0 : Int32))]) dX11_goneInTime_6 rfl rfl (Nat.le_of_ble_eq_true rfl) rfl ?_
  refine v_lps (S := Int64 × Int64 × Int32) 66 (fun s => M) (fun s => [some (.int x0), some (.int x1), some (.int x2), some (.long s.1), none, some (.long s.2.1), none, some (.int s.2.2)]) (fun e10 => M) (fun e10 => [some (.int x0), some (.int x1), some (.int x2), some (.long e10.1), none, some (.long e10.2.1), none, some (.int e10.2.2)]) (fun e10 => ?_) (fun k K hk hx s => ?_)
  · refine v_lload_n (q := 67) dX11_goneInTime_66 rfl rfl rfl ?_
    exact v_lret rfl dX11_goneInTime_67 ⟨Nat.le_of_ble_eq_true rfl, Nat.le_of_ble_eq_true rfl⟩ rfl
  · obtain ⟨w1, w2, v3⟩ := s
    show V _ _ M 8 [some (.int x0), some (.int x1), some (.int x2), some (.long w1), none, some (.long w2), none, some (.int v3)] [] (s_X11_goneInTime_8 x0 x1 x2 M w1 w2 v3) _
    unfold s_X11_goneInTime_8
    refine v_iload (q := 10) dX11_goneInTime_8 rfl rfl ?_
    refine v_iload_n (q := 11) dX11_goneInTime_10 rfl rfl rfl ?_
    refine v_icmp_gt (tgt := 66) (q := 14) dX11_goneInTime_11 rfl rfl ?_ ?_
    · exact v_inr (hx (w1, w2, v3))
    · refine v_iload (q := 16) dX11_goneInTime_14 rfl rfl ?_
      refine v_iload_n (q := 17) dX11_goneInTime_16 rfl rfl rfl ?_
      refine v_join (γ := Int64) 44 (fun w7 => M) (fun w7 => [some (.int x0), some (.int x1), some (.int x2), some (.long w7), none, some (.long w2), none, some (.int v3)]) (fun w7 => []) (fun K hK => ?_) (fun w7 => ?_)
      · refine v_icmp_lt (tgt := 44) (q := 20) dX11_goneInTime_17 rfl rfl ?_ ?_
        · exact hK w1
        · refine v_lload_n (q := 21) dX11_goneInTime_20 rfl rfl rfl ?_
          refine v_lload (q := 23) dX11_goneInTime_21 rfl rfl ?_
          refine v_bipush (q := 25) dX11_goneInTime_23 rfl bp_10 ?_
          refine v_iload_n (q := 26) dX11_goneInTime_25 rfl rfl rfl ?_
          refine v_isub (q := 27) dX11_goneInTime_26 rfl ?_
          refine v_iload (q := 29) dX11_goneInTime_27 rfl rfl ?_
          refine v_cLS2 (q := 32) (ct_X11_power (d - 1) (by omega) _ _ _) dX11_goneInTime_29 rfl cc_X11_305 (by omega) (Nat.le_of_ble_eq_true rfl) ⟨Nat.le_of_ble_eq_true rfl, Nat.le_of_ble_eq_true rfl⟩ (fun w4 => ?_)
          refine v_lmul (q := 33) dX11_goneInTime_32 rfl ?_
          refine v_iload_n (q := 34) dX11_goneInTime_33 rfl rfl rfl ?_
          refine v_iload_n (q := 35) dX11_goneInTime_34 rfl rfl rfl ?_
          refine v_iload (q := 37) dX11_goneInTime_35 rfl rfl ?_
          refine v_isub (q := 38) dX11_goneInTime_37 rfl ?_
          refine v_cLS2 (q := 41) (ct_X11_power (d - 1) (by omega) _ _ _) dX11_goneInTime_38 rfl cc_X11_305 (by omega) (Nat.le_of_ble_eq_true rfl) ⟨Nat.le_of_ble_eq_true rfl, Nat.le_of_ble_eq_true rfl⟩ (fun w5 => ?_)
          refine v_lmul (q := 42) dX11_goneInTime_41 rfl ?_
          refine v_ladd (q := 43) dX11_goneInTime_42 rfl ?_
          refine v_letJ (fun w6 => ?_)
          refine v_lstore_n (q := 44) (loc2 := [some (.int x0), some (.int x1), some (.int x2), some (.long w6), none, some (.long w2), none, some (.int v3)]) dX11_goneInTime_43 rfl rfl rfl (Nat.le_of_ble_eq_true rfl) rfl ?_
          exact hK w6
      · refine v_lload (q := 46) dX11_goneInTime_44 rfl rfl ?_
        refine v_iload_n (q := 47) dX11_goneInTime_46 rfl rfl rfl ?_
        refine v_iload (q := 49) dX11_goneInTime_47 rfl rfl ?_
        refine v_isub (q := 50) dX11_goneInTime_49 rfl ?_
        refine v_i2l (q := 51) dX11_goneInTime_50 rfl ?_
        refine v_lmul (q := 52) dX11_goneInTime_51 rfl ?_
        refine v_iload (q := 54) dX11_goneInTime_52 rfl rfl ?_
        refine v_iconst (q := 55) dX11_goneInTime_54 rfl ic_1 ?_
        refine v_iadd (q := 56) dX11_goneInTime_55 rfl ?_
        refine v_i2l (q := 57) dX11_goneInTime_56 rfl ?_
        refine v_ldiv (q := 58) dX11_goneInTime_57 rfl ?_
        refine v_letJ (fun w8 => ?_)
        refine v_lstore (q := 60) (loc2 := [some (.int x0), some (.int x1), some (.int x2), some (.long w7), none, some (.long w8), none, some (.int v3)]) dX11_goneInTime_58 rfl rfl (Nat.le_of_ble_eq_true rfl) rfl ?_
        refine v_iincL (q := 63) (x := v3) (cst := (1 : Int32)) (f := fun v9 => [some (.int x0), some (.int x1), some (.int x2), some (.long w7), none, some (.long w8), none, some (.int v9)]) dX11_goneInTime_60 rfl rfl ic_1 rfl (Nat.le_of_ble_eq_true rfl) (fun _ => rfl) (fun v9 => ?_)
        refine v_goto (tgt := 8) dX11_goneInTime_63 rfl ?_
        exact v_inl (hk (w7, w8, v9))
theorem ct_X11_goneInTime (d : Nat) (hd : 1 ≤ d) (x0 : Int32) (x1 : Int32) (x2 : Int32) (M : Me) (r : Int64) (hf : f_X11_goneInTime x0 x1 x2 M = some r) : Ct yX11_goneInTime mX11_goneInTime d 0 0 [.int x0, .int x1, .int x2] M (some (.long r), M) := by
  have hb : b_X11_goneInTime x0 x1 x2 M = some r := hf
  exact ct_of (by decide +kernel) rfl rfl (Nat.le_of_ble_eq_true rfl) (vb_X11_goneInTime d hd x0 x1 x2 M) (by rw [hb]; rfl)
theorem dX11_snow_0 : decode cX11_snow 0 = .ok (.iload_n 1, 1) := by decide +kernel
theorem dX11_snow_1 : decode cX11_snow 1 = .ok (.iconst 0, 1) := by decide +kernel
theorem dX11_snow_2 : decode cX11_snow 2 = .ok (.bipush 6, 2) := by decide +kernel
theorem dX11_snow_4 : decode cX11_snow 4 = .ok (.invokestatic 55, 3) := by decide +kernel
theorem dX11_snow_7 : decode cX11_snow 7 = .ok (.ifCond .eq 30, 3) := by decide +kernel
theorem dX11_snow_10 : decode cX11_snow 10 = .ok (.iload_n 2, 1) := by decide +kernel
theorem dX11_snow_11 : decode cX11_snow 11 = .ok (.iconst 0, 1) := by decide +kernel
theorem dX11_snow_12 : decode cX11_snow 12 = .ok (.bipush 10, 2) := by decide +kernel
theorem dX11_snow_14 : decode cX11_snow 14 = .ok (.invokestatic 55, 3) := by decide +kernel
theorem dX11_snow_17 : decode cX11_snow 17 = .ok (.ifCond .eq 20, 3) := by decide +kernel
theorem dX11_snow_20 : decode cX11_snow 20 = .ok (.iload_n 3, 1) := by decide +kernel
theorem dX11_snow_21 : decode cX11_snow 21 = .ok (.invokestatic 212, 3) := by decide +kernel
theorem dX11_snow_24 : decode cX11_snow 24 = .ok (.ifCond .eq 13, 3) := by decide +kernel
theorem dX11_snow_27 : decode cX11_snow 27 = .ok (.iload 4, 2) := by decide +kernel
theorem dX11_snow_29 : decode cX11_snow 29 = .ok (.iconst 0, 1) := by decide +kernel
theorem dX11_snow_30 : decode cX11_snow 30 = .ok (.iconst 1, 1) := by decide +kernel
theorem dX11_snow_31 : decode cX11_snow 31 = .ok (.invokestatic 55, 3) := by decide +kernel
theorem dX11_snow_34 : decode cX11_snow 34 = .ok (.ifCond .ne 7, 3) := by decide +kernel
theorem dX11_snow_37 : decode cX11_snow 37 = .ok (.ldc2_w 215, 3) := by decide +kernel
theorem dX11_snow_40 : decode cX11_snow 40 = .ok (.lreturn, 1) := by decide +kernel
theorem dX11_snow_41 : decode cX11_snow 41 = .ok (.iload_n 1, 1) := by decide +kernel
theorem dX11_snow_42 : decode cX11_snow 42 = .ok (.iload_n 2, 1) := by decide +kernel
theorem dX11_snow_43 : decode cX11_snow 43 = .ok (.iload_n 3, 1) := by decide +kernel
theorem dX11_snow_44 : decode cX11_snow 44 = .ok (.invokestatic 257, 3) := by decide +kernel
theorem dX11_snow_47 : decode cX11_snow 47 = .ok (.iload_n 2, 1) := by decide +kernel
theorem dX11_snow_48 : decode cX11_snow 48 = .ok (.invokestatic 221, 3) := by decide +kernel
theorem dX11_snow_51 : decode cX11_snow 51 = .ok (.iload 4, 2) := by decide +kernel
theorem dX11_snow_53 : decode cX11_snow 53 = .ok (.invokestatic 225, 3) := by decide +kernel
theorem dX11_snow_56 : decode cX11_snow 56 = .ok (.lreturn, 1) := by decide +kernel
noncomputable def b_X11_snow (a0 : Nat) (x1 : Int32) (x2 : Int32) (x3 : Int32) (x4 : Int32) (M : Me) : Option (Int64) :=
  cP (f_X11_isWithin x1 (0 : Int32) (6 : Int32) M) fun v1 =>
  if v1 = 0 then (
    some (-1000000000000000002 : Int64)
  ) else (
    cP (f_X11_isWithin x2 (0 : Int32) (10 : Int32) M) fun v2 =>
    if v2 = 0 then (
      some (-1000000000000000002 : Int64)
    ) else (
      cP (f_X11_areTenths x3 M) fun v3 =>
      if v3 = 0 then (
        some (-1000000000000000002 : Int64)
      ) else (
        cP (f_X11_isWithin x4 (0 : Int32) (1 : Int32) M) fun v4 =>
        if v4 = 0 then (
          some (-1000000000000000002 : Int64)
        ) else (
          cL (f_X11_goneInTime x1 x2 x3 M) fun w5 =>
          cL (f_X11_tenTo x2 M) fun w6 =>
          cL (f_X11_partOf w5 w6 x4 M) fun w7 =>
          some w7
        )
      )
    )
  )
noncomputable def f_X11_snow (a0 : Nat) (x1 : Int32) (x2 : Int32) (x3 : Int32) (x4 : Int32) (M : Me) : Option (Int64) := ck M a0 11 (b_X11_snow a0 x1 x2 x3 x4 M)
set_option maxRecDepth 20000 in
theorem vb_X11_snow (d : Nat) (hd : 2 ≤ d) (a0 : Nat) (x1 : Int32) (x2 : Int32) (x3 : Int32) (x4 : Int32) (M : Me) : V (mX11_snow, d, 0, 0) (0, 0) M 0 [some (.ref a0), some (.int x1), some (.int x2), some (.int x3), some (.int x4)] [] (b_X11_snow a0 x1 x2 x3 x4 M) (fun z => some (some (.long z), M)) := by
  unfold b_X11_snow
  refine v_iload_n (q := 1) dX11_snow_0 rfl rfl rfl ?_
  refine v_iconst (q := 2) dX11_snow_1 rfl ic_0 ?_
  refine v_bipush (q := 4) dX11_snow_2 rfl bp_6 ?_
  refine v_cPS3 (q := 7) (ct_X11_isWithin (d - 1) (by omega) _ _ _ _) dX11_snow_4 rfl cc_X11_55 (by omega) (Nat.le_of_ble_eq_true rfl) ⟨Nat.le_of_ble_eq_true rfl, Nat.le_of_ble_eq_true rfl⟩ (fun v1 => ?_)
  refine v_if_eq (tgt := 37) (q := 10) dX11_snow_7 rfl rfl ?_ ?_
  · refine v_ldc2 (q := 40) (v := (-1000000000000000002 : Int64)) kl_X11_215 dX11_snow_37 rfl ?_
    exact v_lret rfl dX11_snow_40 ⟨Nat.le_of_ble_eq_true rfl, Nat.le_of_ble_eq_true rfl⟩ rfl
  · refine v_iload_n (q := 11) dX11_snow_10 rfl rfl rfl ?_
    refine v_iconst (q := 12) dX11_snow_11 rfl ic_0 ?_
    refine v_bipush (q := 14) dX11_snow_12 rfl bp_10 ?_
    refine v_cPS3 (q := 17) (ct_X11_isWithin (d - 1) (by omega) _ _ _ _) dX11_snow_14 rfl cc_X11_55 (by omega) (Nat.le_of_ble_eq_true rfl) ⟨Nat.le_of_ble_eq_true rfl, Nat.le_of_ble_eq_true rfl⟩ (fun v2 => ?_)
    refine v_if_eq (tgt := 37) (q := 20) dX11_snow_17 rfl rfl ?_ ?_
    · refine v_ldc2 (q := 40) (v := (-1000000000000000002 : Int64)) kl_X11_215 dX11_snow_37 rfl ?_
      exact v_lret rfl dX11_snow_40 ⟨Nat.le_of_ble_eq_true rfl, Nat.le_of_ble_eq_true rfl⟩ rfl
    · refine v_iload_n (q := 21) dX11_snow_20 rfl rfl rfl ?_
      refine v_cPS1 (q := 24) (ct_X11_areTenths (d - 1) (by omega) _ _) dX11_snow_21 rfl cc_X11_212 (by omega) (Nat.le_of_ble_eq_true rfl) ⟨Nat.le_of_ble_eq_true rfl, Nat.le_of_ble_eq_true rfl⟩ (fun v3 => ?_)
      refine v_if_eq (tgt := 37) (q := 27) dX11_snow_24 rfl rfl ?_ ?_
      · refine v_ldc2 (q := 40) (v := (-1000000000000000002 : Int64)) kl_X11_215 dX11_snow_37 rfl ?_
        exact v_lret rfl dX11_snow_40 ⟨Nat.le_of_ble_eq_true rfl, Nat.le_of_ble_eq_true rfl⟩ rfl
      · refine v_iload (q := 29) dX11_snow_27 rfl rfl ?_
        refine v_iconst (q := 30) dX11_snow_29 rfl ic_0 ?_
        refine v_iconst (q := 31) dX11_snow_30 rfl ic_1 ?_
        refine v_cPS3 (q := 34) (ct_X11_isWithin (d - 1) (by omega) _ _ _ _) dX11_snow_31 rfl cc_X11_55 (by omega) (Nat.le_of_ble_eq_true rfl) ⟨Nat.le_of_ble_eq_true rfl, Nat.le_of_ble_eq_true rfl⟩ (fun v4 => ?_)
        refine v_if_ne (tgt := 41) (q := 37) dX11_snow_34 rfl rfl ?_ ?_
        · refine v_iload_n (q := 42) dX11_snow_41 rfl rfl rfl ?_
          refine v_iload_n (q := 43) dX11_snow_42 rfl rfl rfl ?_
          refine v_iload_n (q := 44) dX11_snow_43 rfl rfl rfl ?_
          refine v_cLS3 (q := 47) (ct_X11_goneInTime (d - 1) (by omega) _ _ _ _) dX11_snow_44 rfl cc_X11_257 (by omega) (Nat.le_of_ble_eq_true rfl) ⟨Nat.le_of_ble_eq_true rfl, Nat.le_of_ble_eq_true rfl⟩ (fun w5 => ?_)
          refine v_iload_n (q := 48) dX11_snow_47 rfl rfl rfl ?_
          refine v_cLS1 (q := 51) (ct_X11_tenTo (d - 1) (by omega) _ _) dX11_snow_48 rfl cc_X11_221 (by omega) (Nat.le_of_ble_eq_true rfl) ⟨Nat.le_of_ble_eq_true rfl, Nat.le_of_ble_eq_true rfl⟩ (fun w6 => ?_)
          refine v_iload (q := 53) dX11_snow_51 rfl rfl ?_
          refine v_cLS3 (q := 56) (ct_X11_partOf (d - 1) (by omega) _ _ _ _) dX11_snow_53 rfl cc_X11_225 (by omega) (Nat.le_of_ble_eq_true rfl) ⟨Nat.le_of_ble_eq_true rfl, Nat.le_of_ble_eq_true rfl⟩ (fun w7 => ?_)
          exact v_lret rfl dX11_snow_56 ⟨Nat.le_of_ble_eq_true rfl, Nat.le_of_ble_eq_true rfl⟩ rfl
        · refine v_ldc2 (q := 40) (v := (-1000000000000000002 : Int64)) kl_X11_215 dX11_snow_37 rfl ?_
          exact v_lret rfl dX11_snow_40 ⟨Nat.le_of_ble_eq_true rfl, Nat.le_of_ble_eq_true rfl⟩ rfl
theorem ct_X11_snow (d : Nat) (hd : 2 ≤ d) (a0 : Nat) (x1 : Int32) (x2 : Int32) (x3 : Int32) (x4 : Int32) (M : Me) (r : Int64) (hf : f_X11_snow a0 x1 x2 x3 x4 M = some r) : me_k M a0 = some (11, nf_c 11) ∧ Ct yX11_snow mX11_snow d 0 0 [.ref a0, .int x1, .int x2, .int x3, .int x4] M (some (.long r), M) := by
  obtain ⟨hk, hb⟩ := ck_some hf
  exact ⟨hk, ct_of (by decide +kernel) rfl rfl (Nat.le_of_ble_eq_true rfl) (vb_X11_snow d hd a0 x1 x2 x3 x4 M) (by rw [hb]; rfl)⟩
theorem dX11_year_0 : decode cX11_year 0 = .ok (.iload_n 1, 1) := by decide +kernel
theorem dX11_year_1 : decode cX11_year 1 = .ok (.iconst 0, 1) := by decide +kernel
theorem dX11_year_2 : decode cX11_year 2 = .ok (.sipush 9999, 3) := by decide +kernel
theorem dX11_year_5 : decode cX11_year 5 = .ok (.invokestatic 55, 3) := by decide +kernel
theorem dX11_year_8 : decode cX11_year 8 = .ok (.ifCond .eq 22, 3) := by decide +kernel
theorem dX11_year_11 : decode cX11_year 11 = .ok (.iload_n 2, 1) := by decide +kernel
theorem dX11_year_12 : decode cX11_year 12 = .ok (.iconst 1, 1) := by decide +kernel
theorem dX11_year_13 : decode cX11_year 13 = .ok (.bipush 99, 2) := by decide +kernel
theorem dX11_year_15 : decode cX11_year 15 = .ok (.invokestatic 55, 3) := by decide +kernel
theorem dX11_year_18 : decode cX11_year 18 = .ok (.ifCond .eq 12, 3) := by decide +kernel
theorem dX11_year_21 : decode cX11_year 21 = .ok (.iload_n 3, 1) := by decide +kernel
theorem dX11_year_22 : decode cX11_year 22 = .ok (.iconst 0, 1) := by decide +kernel
theorem dX11_year_23 : decode cX11_year 23 = .ok (.iconst 3, 1) := by decide +kernel
theorem dX11_year_24 : decode cX11_year 24 = .ok (.invokestatic 55, 3) := by decide +kernel
theorem dX11_year_27 : decode cX11_year 27 = .ok (.ifCond .ne 6, 3) := by decide +kernel
theorem dX11_year_30 : decode cX11_year 30 = .ok (.bipush (-2), 2) := by decide +kernel
theorem dX11_year_32 : decode cX11_year 32 = .ok (.ireturn, 1) := by decide +kernel
theorem dX11_year_33 : decode cX11_year 33 = .ok (.aload_n 0, 1) := by decide +kernel
theorem dX11_year_34 : decode cX11_year 34 = .ok (.getfield 30, 3) := by decide +kernel
theorem dX11_year_37 : decode cX11_year 37 = .ok (.aload_n 0, 1) := by decide +kernel
theorem dX11_year_38 : decode cX11_year 38 = .ok (.getfield 19, 3) := by decide +kernel
theorem dX11_year_41 : decode cX11_year 41 = .ok (.iload_n 1, 1) := by decide +kernel
theorem dX11_year_42 : decode cX11_year 42 = .ok (.iload_n 2, 1) := by decide +kernel
theorem dX11_year_43 : decode cX11_year 43 = .ok (.invokevirtual 260, 3) := by decide +kernel
theorem dX11_year_46 : decode cX11_year 46 = .ok (.iload_n 3, 1) := by decide +kernel
theorem dX11_year_47 : decode cX11_year 47 = .ok (.tableswitch 56 0 2 #[25, 33, 41], 25) := by decide +kernel
theorem dX11_year_72 : decode cX11_year 72 = .ok (.aload_n 0, 1) := by decide +kernel
theorem dX11_year_73 : decode cX11_year 73 = .ok (.getfield 30, 3) := by decide +kernel
theorem dX11_year_76 : decode cX11_year 76 = .ok (.getfield 264, 3) := by decide +kernel
theorem dX11_year_79 : decode cX11_year 79 = .ok (.ireturn, 1) := by decide +kernel
theorem dX11_year_80 : decode cX11_year 80 = .ok (.aload_n 0, 1) := by decide +kernel
theorem dX11_year_81 : decode cX11_year 81 = .ok (.getfield 30, 3) := by decide +kernel
theorem dX11_year_84 : decode cX11_year 84 = .ok (.getfield 267, 3) := by decide +kernel
theorem dX11_year_87 : decode cX11_year 87 = .ok (.ireturn, 1) := by decide +kernel
theorem dX11_year_88 : decode cX11_year 88 = .ok (.aload_n 0, 1) := by decide +kernel
theorem dX11_year_89 : decode cX11_year 89 = .ok (.getfield 30, 3) := by decide +kernel
theorem dX11_year_92 : decode cX11_year 92 = .ok (.getfield 147, 3) := by decide +kernel
theorem dX11_year_95 : decode cX11_year 95 = .ok (.invokevirtual 270, 3) := by decide +kernel
theorem dX11_year_98 : decode cX11_year 98 = .ok (.sipush 10000, 3) := by decide +kernel
theorem dX11_year_101 : decode cX11_year 101 = .ok (.iadd, 1) := by decide +kernel
theorem dX11_year_102 : decode cX11_year 102 = .ok (.ireturn, 1) := by decide +kernel
theorem dX11_year_103 : decode cX11_year 103 = .ok (.aload_n 0, 1) := by decide +kernel
theorem dX11_year_104 : decode cX11_year 104 = .ok (.getfield 30, 3) := by decide +kernel
theorem dX11_year_107 : decode cX11_year 107 = .ok (.getfield 147, 3) := by decide +kernel
theorem dX11_year_110 : decode cX11_year 110 = .ok (.invokevirtual 273, 3) := by decide +kernel
theorem dX11_year_113 : decode cX11_year 113 = .ok (.ireturn, 1) := by decide +kernel
noncomputable def b_X11_year (a0 : Nat) (x1 : Int32) (x2 : Int32) (x3 : Int32) (M : Me) : Option (Int32 × Me) :=
  cP (f_X11_isWithin x1 (0 : Int32) (9999 : Int32) M) fun v1 =>
  if v1 = 0 then (
    some ((-2 : Int32), M)
  ) else (
    cP (f_X11_isWithin x2 (1 : Int32) (99 : Int32) M) fun v2 =>
    if v2 = 0 then (
      some ((-2 : Int32), M)
    ) else (
      cP (f_X11_isWithin x3 (0 : Int32) (3 : Int32) M) fun v3 =>
      if v3 = 0 then (
        some ((-2 : Int32), M)
      ) else (
        gr M a0 11 3 fun o4 =>
        gr M a0 11 1 fun o5 =>
        cM (f_X10_draw o4 o5 x1 x2 M) fun M6 =>
        if x3 = (0 : Int32) then (
          gr M6 a0 11 3 fun o7 =>
          gi M6 o7 10 3 fun v8 =>
          some (v8, M6)
        ) else (
          if x3 = (1 : Int32) then (
            gr M6 a0 11 3 fun o9 =>
            gi M6 o9 10 4 fun v10 =>
            some (v10, M6)
          ) else (
            if x3 = (2 : Int32) then (
              gr M6 a0 11 3 fun o11 =>
              gr M6 o11 10 0 fun o12 =>
              cP (f_X0_sumHonour o12 M6) fun v13 =>
              some ((v13 + (10000 : Int32)), M6)
            ) else (
              gr M6 a0 11 3 fun o14 =>
              gr M6 o14 10 0 fun o15 =>
              cP (f_X0_countDead o15 M6) fun v16 =>
              some (v16, M6)
            )
          )
        )
      )
    )
  )
noncomputable def f_X11_year (a0 : Nat) (x1 : Int32) (x2 : Int32) (x3 : Int32) (M : Me) : Option (Int32 × Me) := ck M a0 11 (b_X11_year a0 x1 x2 x3 M)
set_option maxRecDepth 20000 in
theorem vb_X11_year (d : Nat) (hd : 5 ≤ d) (a0 : Nat) (x1 : Int32) (x2 : Int32) (x3 : Int32) (M : Me) : V (mX11_year, d, 0, 0) (0, 0) M 0 [some (.ref a0), some (.int x1), some (.int x2), some (.int x3)] [] (b_X11_year a0 x1 x2 x3 M) (fun z => some (some (.int z.1), z.2)) := by
  unfold b_X11_year
  refine v_iload_n (q := 1) dX11_year_0 rfl rfl rfl ?_
  refine v_iconst (q := 2) dX11_year_1 rfl ic_0 ?_
  refine v_sipush (q := 5) dX11_year_2 rfl sp_9999 ?_
  refine v_cPS3 (q := 8) (ct_X11_isWithin (d - 1) (by omega) _ _ _ _) dX11_year_5 rfl cc_X11_55 (by omega) (Nat.le_of_ble_eq_true rfl) ⟨Nat.le_of_ble_eq_true rfl, Nat.le_of_ble_eq_true rfl⟩ (fun v1 => ?_)
  refine v_if_eq (tgt := 30) (q := 11) dX11_year_8 rfl rfl ?_ ?_
  · refine v_bipush (q := 32) dX11_year_30 rfl bp_m2 ?_
    exact v_iret rfl dX11_year_32 ⟨Nat.le_of_ble_eq_true rfl, Nat.le_of_ble_eq_true rfl⟩ rfl
  · refine v_iload_n (q := 12) dX11_year_11 rfl rfl rfl ?_
    refine v_iconst (q := 13) dX11_year_12 rfl ic_1 ?_
    refine v_bipush (q := 15) dX11_year_13 rfl bp_99 ?_
    refine v_cPS3 (q := 18) (ct_X11_isWithin (d - 1) (by omega) _ _ _ _) dX11_year_15 rfl cc_X11_55 (by omega) (Nat.le_of_ble_eq_true rfl) ⟨Nat.le_of_ble_eq_true rfl, Nat.le_of_ble_eq_true rfl⟩ (fun v2 => ?_)
    refine v_if_eq (tgt := 30) (q := 21) dX11_year_18 rfl rfl ?_ ?_
    · refine v_bipush (q := 32) dX11_year_30 rfl bp_m2 ?_
      exact v_iret rfl dX11_year_32 ⟨Nat.le_of_ble_eq_true rfl, Nat.le_of_ble_eq_true rfl⟩ rfl
    · refine v_iload_n (q := 22) dX11_year_21 rfl rfl rfl ?_
      refine v_iconst (q := 23) dX11_year_22 rfl ic_0 ?_
      refine v_iconst (q := 24) dX11_year_23 rfl ic_3 ?_
      refine v_cPS3 (q := 27) (ct_X11_isWithin (d - 1) (by omega) _ _ _ _) dX11_year_24 rfl cc_X11_55 (by omega) (Nat.le_of_ble_eq_true rfl) ⟨Nat.le_of_ble_eq_true rfl, Nat.le_of_ble_eq_true rfl⟩ (fun v3 => ?_)
      refine v_if_ne (tgt := 33) (q := 30) dX11_year_27 rfl rfl ?_ ?_
      · refine v_aload_n (q := 34) dX11_year_33 rfl rfl rfl ?_
        refine v_getRb (q := 37) dX11_year_34 rfl fg_X11_30 (fun o4 => ?_)
        refine v_aload_n (q := 38) dX11_year_37 rfl rfl rfl ?_
        refine v_getRb (q := 41) dX11_year_38 rfl fg_X11_19 (fun o5 => ?_)
        refine v_iload_n (q := 42) dX11_year_41 rfl rfl rfl ?_
        refine v_iload_n (q := 43) dX11_year_42 rfl rfl rfl ?_
        refine v_cMV3 (q := 46) (ct_X10_draw (d - 1) (by omega) _ _ _ _ _) dX11_year_43 rfl cc_X11_260 (by omega) (Nat.le_of_ble_eq_true rfl) ⟨Nat.le_of_ble_eq_true rfl, Nat.le_of_ble_eq_true rfl⟩ (fun M6 => ?_)
        refine v_iload_n (q := 47) dX11_year_46 rfl rfl rfl ?_
        refine v_ite (fun h0 => ?_) (fun h0 => ?_)
        · refine v_tbl_in (cst := (0 : Int32)) (off := 25) (tgt := 72) dX11_year_47 h0 (by decide) (by decide) (by decide) rfl ?_
          refine v_aload_n (q := 73) dX11_year_72 rfl rfl rfl ?_
          refine v_getRb (q := 76) dX11_year_73 rfl fg_X11_30 (fun o7 => ?_)
          refine v_getIb (q := 79) dX11_year_76 rfl fg_X11_264 (fun v8 => ?_)
          exact v_iret rfl dX11_year_79 ⟨Nat.le_of_ble_eq_true rfl, Nat.le_of_ble_eq_true rfl⟩ rfl
        · refine v_ite (fun h1 => ?_) (fun h1 => ?_)
          · refine v_tbl_in (cst := (1 : Int32)) (off := 33) (tgt := 80) dX11_year_47 h1 (by decide) (by decide) (by decide) rfl ?_
            refine v_aload_n (q := 81) dX11_year_80 rfl rfl rfl ?_
            refine v_getRb (q := 84) dX11_year_81 rfl fg_X11_30 (fun o9 => ?_)
            refine v_getIb (q := 87) dX11_year_84 rfl fg_X11_267 (fun v10 => ?_)
            exact v_iret rfl dX11_year_87 ⟨Nat.le_of_ble_eq_true rfl, Nat.le_of_ble_eq_true rfl⟩ rfl
          · refine v_ite (fun h2 => ?_) (fun h2 => ?_)
            · refine v_tbl_in (cst := (2 : Int32)) (off := 41) (tgt := 88) dX11_year_47 h2 (by decide) (by decide) (by decide) rfl ?_
              refine v_aload_n (q := 89) dX11_year_88 rfl rfl rfl ?_
              refine v_getRb (q := 92) dX11_year_89 rfl fg_X11_30 (fun o11 => ?_)
              refine v_getRb (q := 95) dX11_year_92 rfl fg_X11_147 (fun o12 => ?_)
              refine v_cPV0 (q := 98) (ct_X0_sumHonour (d - 1) (by omega) _ _) dX11_year_95 rfl cc_X11_270 (by omega) (Nat.le_of_ble_eq_true rfl) ⟨Nat.le_of_ble_eq_true rfl, Nat.le_of_ble_eq_true rfl⟩ (fun v13 => ?_)
              refine v_sipush (q := 101) dX11_year_98 rfl sp_10000 ?_
              refine v_iadd (q := 102) dX11_year_101 rfl ?_
              exact v_iret rfl dX11_year_102 ⟨Nat.le_of_ble_eq_true rfl, Nat.le_of_ble_eq_true rfl⟩ rfl
            · refine v_tbl_out (tgt := 103) dX11_year_47 (by have q0 := lv_neT h0 (a := 0) (by decide); have q1 := lv_neT h1 (a := 1) (by decide); have q2 := lv_neT h2 (a := 2) (by decide); omega) rfl ?_
              refine v_aload_n (q := 104) dX11_year_103 rfl rfl rfl ?_
              refine v_getRb (q := 107) dX11_year_104 rfl fg_X11_30 (fun o14 => ?_)
              refine v_getRb (q := 110) dX11_year_107 rfl fg_X11_147 (fun o15 => ?_)
              refine v_cPV0 (q := 113) (ct_X0_countDead (d - 1) (by omega) _ _) dX11_year_110 rfl cc_X11_273 (by omega) (Nat.le_of_ble_eq_true rfl) ⟨Nat.le_of_ble_eq_true rfl, Nat.le_of_ble_eq_true rfl⟩ (fun v16 => ?_)
              exact v_iret rfl dX11_year_113 ⟨Nat.le_of_ble_eq_true rfl, Nat.le_of_ble_eq_true rfl⟩ rfl
      · refine v_bipush (q := 32) dX11_year_30 rfl bp_m2 ?_
        exact v_iret rfl dX11_year_32 ⟨Nat.le_of_ble_eq_true rfl, Nat.le_of_ble_eq_true rfl⟩ rfl
theorem ct_X11_year (d : Nat) (hd : 5 ≤ d) (a0 : Nat) (x1 : Int32) (x2 : Int32) (x3 : Int32) (M : Me) (r : Int32) (M2 : Me) (hf : f_X11_year a0 x1 x2 x3 M = some (r, M2)) : me_k M a0 = some (11, nf_c 11) ∧ Ct yX11_year mX11_year d 0 0 [.ref a0, .int x1, .int x2, .int x3] M (some (.int r), M2) := by
  obtain ⟨hk, hb⟩ := ck_some hf
  exact ⟨hk, ct_of (by decide +kernel) rfl rfl (Nat.le_of_ble_eq_true rfl) (vb_X11_year d hd a0 x1 x2 x3 M) (by rw [hb]; rfl)⟩

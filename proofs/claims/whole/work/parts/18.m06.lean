theorem dX11_heir_0 : decode cX11_heir 0 = .ok (.aload_n 0, 1) := by decide +kernel
theorem dX11_heir_1 : decode cX11_heir 1 = .ok (.getfield 19, 3) := by decide +kernel
theorem dX11_heir_4 : decode cX11_heir 4 = .ok (.iload_n 1, 1) := by decide +kernel
theorem dX11_heir_5 : decode cX11_heir 5 = .ok (.invokevirtual 97, 3) := by decide +kernel
theorem dX11_heir_8 : decode cX11_heir 8 = .ok (.getfield 101, 3) := by decide +kernel
theorem dX11_heir_11 : decode cX11_heir 11 = .ok (.ifCond .eq 22, 3) := by decide +kernel
theorem dX11_heir_14 : decode cX11_heir 14 = .ok (.aload_n 0, 1) := by decide +kernel
theorem dX11_heir_15 : decode cX11_heir 15 = .ok (.getfield 19, 3) := by decide +kernel
theorem dX11_heir_18 : decode cX11_heir 18 = .ok (.iload_n 2, 1) := by decide +kernel
theorem dX11_heir_19 : decode cX11_heir 19 = .ok (.invokevirtual 97, 3) := by decide +kernel
theorem dX11_heir_22 : decode cX11_heir 22 = .ok (.invokevirtual 115, 3) := by decide +kernel
theorem dX11_heir_25 : decode cX11_heir 25 = .ok (.ifCond .eq 8, 3) := by decide +kernel
theorem dX11_heir_28 : decode cX11_heir 28 = .ok (.iload_n 1, 1) := by decide +kernel
theorem dX11_heir_29 : decode cX11_heir 29 = .ok (.iload_n 2, 1) := by decide +kernel
theorem dX11_heir_30 : decode cX11_heir 30 = .ok (.if_icmp .ne 5, 3) := by decide +kernel
theorem dX11_heir_33 : decode cX11_heir 33 = .ok (.iconst (-1), 1) := by decide +kernel
theorem dX11_heir_34 : decode cX11_heir 34 = .ok (.ireturn, 1) := by decide +kernel
theorem dX11_heir_35 : decode cX11_heir 35 = .ok (.aload_n 0, 1) := by decide +kernel
theorem dX11_heir_36 : decode cX11_heir 36 = .ok (.getfield 19, 3) := by decide +kernel
theorem dX11_heir_39 : decode cX11_heir 39 = .ok (.iload_n 1, 1) := by decide +kernel
theorem dX11_heir_40 : decode cX11_heir 40 = .ok (.invokevirtual 97, 3) := by decide +kernel
theorem dX11_heir_43 : decode cX11_heir 43 = .ok (.invokevirtual 119, 3) := by decide +kernel
theorem dX11_heir_46 : decode cX11_heir 46 = .ok (.aload_n 0, 1) := by decide +kernel
theorem dX11_heir_47 : decode cX11_heir 47 = .ok (.getfield 19, 3) := by decide +kernel
theorem dX11_heir_50 : decode cX11_heir 50 = .ok (.getfield 85, 3) := by decide +kernel
theorem dX11_heir_53 : decode cX11_heir 53 = .ok (.iload_n 1, 1) := by decide +kernel
theorem dX11_heir_54 : decode cX11_heir 54 = .ok (.iload_n 2, 1) := by decide +kernel
theorem dX11_heir_55 : decode cX11_heir 55 = .ok (.invokevirtual 122, 3) := by decide +kernel
theorem dX11_heir_58 : decode cX11_heir 58 = .ok (.aload_n 0, 1) := by decide +kernel
theorem dX11_heir_59 : decode cX11_heir 59 = .ok (.getfield 19, 3) := by decide +kernel
theorem dX11_heir_62 : decode cX11_heir 62 = .ok (.invokevirtual 111, 3) := by decide +kernel
theorem dX11_heir_65 : decode cX11_heir 65 = .ok (.ireturn, 1) := by decide +kernel
noncomputable def b_X11_heir (a0 : Nat) (x1 : Int32) (x2 : Int32) (M : Me) : Option (Int32 × Me) :=
  gr M a0 11 1 fun o1 =>
  cR (f_X0_knightAt o1 x1 M) fun o2 =>
  gi M o2 4 0 fun v3 =>
  if v3 = 0 then (
    some ((-1 : Int32), M)
  ) else (
    gr M a0 11 1 fun o4 =>
    cR (f_X0_knightAt o4 x2 M) fun o5 =>
    cP (f_X4_isAlive o5 M) fun v6 =>
    if v6 = 0 then (
      some ((-1 : Int32), M)
    ) else (
      if x1 = x2 then (
        some ((-1 : Int32), M)
      ) else (
        gr M a0 11 1 fun o7 =>
        cR (f_X0_knightAt o7 x1 M) fun o8 =>
        cM (f_X4_leave o8 M) fun M9 =>
        gr M9 a0 11 1 fun o10 =>
        gr M9 o10 0 2 fun o11 =>
        cM (f_X2_inherit o11 x1 x2 M9) fun M12 =>
        gr M12 a0 11 1 fun o13 =>
        cP (f_X0_countKnights o13 M12) fun v14 =>
        some (v14, M12)
      )
    )
  )
noncomputable def f_X11_heir (a0 : Nat) (x1 : Int32) (x2 : Int32) (M : Me) : Option (Int32 × Me) := ck M a0 11 (b_X11_heir a0 x1 x2 M)
set_option maxRecDepth 20000 in
theorem vb_X11_heir (d : Nat) (hd : 2 ≤ d) (a0 : Nat) (x1 : Int32) (x2 : Int32) (M : Me) : V (mX11_heir, d, 0, 0) (0, 0) M 0 [some (.ref a0), some (.int x1), some (.int x2)] [] (b_X11_heir a0 x1 x2 M) (fun z => some (some (.int z.1), z.2)) := by
  unfold b_X11_heir
  refine v_aload_n (q := 1) dX11_heir_0 rfl rfl rfl ?_
  refine v_getRb (q := 4) dX11_heir_1 rfl fg_X11_19 (fun o1 => ?_)
  refine v_iload_n (q := 5) dX11_heir_4 rfl rfl rfl ?_
  refine v_cRV1 (q := 8) (ct_X0_knightAt (d - 1) (by omega) _ _ _) dX11_heir_5 rfl cc_X11_97 (by omega) (Nat.le_of_ble_eq_true rfl) ⟨Nat.le_of_ble_eq_true rfl, Nat.le_of_ble_eq_true rfl⟩ (fun o2 => ?_)
  refine v_getIb (q := 11) dX11_heir_8 rfl fg_X11_101 (fun v3 => ?_)
  refine v_if_eq (tgt := 33) (q := 14) dX11_heir_11 rfl rfl ?_ ?_
  · refine v_iconst (q := 34) dX11_heir_33 rfl ic_m1 ?_
    exact v_iret rfl dX11_heir_34 ⟨Nat.le_of_ble_eq_true rfl, Nat.le_of_ble_eq_true rfl⟩ rfl
  · refine v_aload_n (q := 15) dX11_heir_14 rfl rfl rfl ?_
    refine v_getRb (q := 18) dX11_heir_15 rfl fg_X11_19 (fun o4 => ?_)
    refine v_iload_n (q := 19) dX11_heir_18 rfl rfl rfl ?_
    refine v_cRV1 (q := 22) (ct_X0_knightAt (d - 1) (by omega) _ _ _) dX11_heir_19 rfl cc_X11_97 (by omega) (Nat.le_of_ble_eq_true rfl) ⟨Nat.le_of_ble_eq_true rfl, Nat.le_of_ble_eq_true rfl⟩ (fun o5 => ?_)
    refine v_cPV0 (q := 25) (ct_X4_isAlive (d - 1) (by omega) _ _) dX11_heir_22 rfl cc_X11_115 (by omega) (Nat.le_of_ble_eq_true rfl) ⟨Nat.le_of_ble_eq_true rfl, Nat.le_of_ble_eq_true rfl⟩ (fun v6 => ?_)
    refine v_if_eq (tgt := 33) (q := 28) dX11_heir_25 rfl rfl ?_ ?_
    · refine v_iconst (q := 34) dX11_heir_33 rfl ic_m1 ?_
      exact v_iret rfl dX11_heir_34 ⟨Nat.le_of_ble_eq_true rfl, Nat.le_of_ble_eq_true rfl⟩ rfl
    · refine v_iload_n (q := 29) dX11_heir_28 rfl rfl rfl ?_
      refine v_iload_n (q := 30) dX11_heir_29 rfl rfl rfl ?_
      refine v_icmp_ne (tgt := 35) (q := 33) dX11_heir_30 rfl rfl ?_ ?_
      · refine v_aload_n (q := 36) dX11_heir_35 rfl rfl rfl ?_
        refine v_getRb (q := 39) dX11_heir_36 rfl fg_X11_19 (fun o7 => ?_)
        refine v_iload_n (q := 40) dX11_heir_39 rfl rfl rfl ?_
        refine v_cRV1 (q := 43) (ct_X0_knightAt (d - 1) (by omega) _ _ _) dX11_heir_40 rfl cc_X11_97 (by omega) (Nat.le_of_ble_eq_true rfl) ⟨Nat.le_of_ble_eq_true rfl, Nat.le_of_ble_eq_true rfl⟩ (fun o8 => ?_)
        refine v_cMV0 (q := 46) (ct_X4_leave (d - 1) (by omega) _ _) dX11_heir_43 rfl cc_X11_119 (by omega) (Nat.le_of_ble_eq_true rfl) ⟨Nat.le_of_ble_eq_true rfl, Nat.le_of_ble_eq_true rfl⟩ (fun M9 => ?_)
        refine v_aload_n (q := 47) dX11_heir_46 rfl rfl rfl ?_
        refine v_getRb (q := 50) dX11_heir_47 rfl fg_X11_19 (fun o10 => ?_)
        refine v_getRb (q := 53) dX11_heir_50 rfl fg_X11_85 (fun o11 => ?_)
        refine v_iload_n (q := 54) dX11_heir_53 rfl rfl rfl ?_
        refine v_iload_n (q := 55) dX11_heir_54 rfl rfl rfl ?_
        refine v_cMV2 (q := 58) (ct_X2_inherit (d - 1) (by omega) _ _ _ _) dX11_heir_55 rfl cc_X11_122 (by omega) (Nat.le_of_ble_eq_true rfl) ⟨Nat.le_of_ble_eq_true rfl, Nat.le_of_ble_eq_true rfl⟩ (fun M12 => ?_)
        refine v_aload_n (q := 59) dX11_heir_58 rfl rfl rfl ?_
        refine v_getRb (q := 62) dX11_heir_59 rfl fg_X11_19 (fun o13 => ?_)
        refine v_cPV0 (q := 65) (ct_X0_countKnights (d - 1) (by omega) _ _) dX11_heir_62 rfl cc_X11_111 (by omega) (Nat.le_of_ble_eq_true rfl) ⟨Nat.le_of_ble_eq_true rfl, Nat.le_of_ble_eq_true rfl⟩ (fun v14 => ?_)
        exact v_iret rfl dX11_heir_65 ⟨Nat.le_of_ble_eq_true rfl, Nat.le_of_ble_eq_true rfl⟩ rfl
      · refine v_iconst (q := 34) dX11_heir_33 rfl ic_m1 ?_
        exact v_iret rfl dX11_heir_34 ⟨Nat.le_of_ble_eq_true rfl, Nat.le_of_ble_eq_true rfl⟩ rfl
theorem ct_X11_heir (d : Nat) (hd : 2 ≤ d) (a0 : Nat) (x1 : Int32) (x2 : Int32) (M : Me) (r : Int32) (M2 : Me) (hf : f_X11_heir a0 x1 x2 M = some (r, M2)) : me_k M a0 = some (11, nf_c 11) ∧ Ct yX11_heir mX11_heir d 0 0 [.ref a0, .int x1, .int x2] M (some (.int r), M2) := by
  obtain ⟨hk, hb⟩ := ck_some hf
  exact ⟨hk, ct_of (by decide +kernel) rfl rfl (Nat.le_of_ble_eq_true rfl) (vb_X11_heir d hd a0 x1 x2 M) (by rw [hb]; rfl)⟩
theorem dX11_say_0 : decode cX11_say 0 = .ok (.iload_n 1, 1) := by decide +kernel
theorem dX11_say_1 : decode cX11_say 1 = .ok (.bipush 33, 2) := by decide +kernel
theorem dX11_say_3 : decode cX11_say 3 = .ok (.bipush 126, 2) := by decide +kernel
theorem dX11_say_5 : decode cX11_say 5 = .ok (.invokestatic 55, 3) := by decide +kernel
theorem dX11_say_8 : decode cX11_say 8 = .ok (.ifCond .ne 6, 3) := by decide +kernel
theorem dX11_say_11 : decode cX11_say 11 = .ok (.bipush (-2), 2) := by decide +kernel
theorem dX11_say_13 : decode cX11_say 13 = .ok (.ireturn, 1) := by decide +kernel
theorem dX11_say_14 : decode cX11_say 14 = .ok (.aload_n 0, 1) := by decide +kernel
theorem dX11_say_15 : decode cX11_say 15 = .ok (.getfield 10, 3) := by decide +kernel
theorem dX11_say_18 : decode cX11_say 18 = .ok (.getfield 126, 3) := by decide +kernel
theorem dX11_say_21 : decode cX11_say 21 = .ok (.bipush 60, 2) := by decide +kernel
theorem dX11_say_23 : decode cX11_say 23 = .ok (.if_icmp .lt 6, 3) := by decide +kernel
theorem dX11_say_26 : decode cX11_say 26 = .ok (.bipush (-4), 2) := by decide +kernel
theorem dX11_say_28 : decode cX11_say 28 = .ok (.ireturn, 1) := by decide +kernel
theorem dX11_say_29 : decode cX11_say 29 = .ok (.aload_n 0, 1) := by decide +kernel
theorem dX11_say_30 : decode cX11_say 30 = .ok (.getfield 10, 3) := by decide +kernel
theorem dX11_say_33 : decode cX11_say 33 = .ok (.iload_n 1, 1) := by decide +kernel
theorem dX11_say_34 : decode cX11_say 34 = .ok (.invokevirtual 127, 3) := by decide +kernel
theorem dX11_say_37 : decode cX11_say 37 = .ok (.aload_n 0, 1) := by decide +kernel
theorem dX11_say_38 : decode cX11_say 38 = .ok (.getfield 10, 3) := by decide +kernel
theorem dX11_say_41 : decode cX11_say 41 = .ok (.getfield 126, 3) := by decide +kernel
theorem dX11_say_44 : decode cX11_say 44 = .ok (.ireturn, 1) := by decide +kernel
noncomputable def b_X11_say (a0 : Nat) (x1 : Int32) (M : Me) : Option (Int32 × Me) :=
  cP (f_X11_isWithin x1 (33 : Int32) (126 : Int32) M) fun v1 =>
  if v1 = 0 then (
    some ((-2 : Int32), M)
  ) else (
    gr M a0 11 0 fun o2 =>
    gi M o2 7 0 fun v3 =>
    if v3 < (60 : Int32) then (
      gr M a0 11 0 fun o4 =>
      cM (f_X7_add o4 x1 M) fun M5 =>
      gr M5 a0 11 0 fun o6 =>
      gi M5 o6 7 0 fun v7 =>
      some (v7, M5)
    ) else (
      some ((-4 : Int32), M)
    )
  )
noncomputable def f_X11_say (a0 : Nat) (x1 : Int32) (M : Me) : Option (Int32 × Me) := ck M a0 11 (b_X11_say a0 x1 M)
set_option maxRecDepth 20000 in
theorem vb_X11_say (d : Nat) (hd : 1 ≤ d) (a0 : Nat) (x1 : Int32) (M : Me) : V (mX11_say, d, 0, 0) (0, 0) M 0 [some (.ref a0), some (.int x1)] [] (b_X11_say a0 x1 M) (fun z => some (some (.int z.1), z.2)) := by
  unfold b_X11_say
  refine v_iload_n (q := 1) dX11_say_0 rfl rfl rfl ?_
  refine v_bipush (q := 3) dX11_say_1 rfl bp_33 ?_
  refine v_bipush (q := 5) dX11_say_3 rfl bp_126 ?_
  refine v_cPS3 (q := 8) (ct_X11_isWithin (d - 1) (by omega) _ _ _ _) dX11_say_5 rfl cc_X11_55 (by omega) (Nat.le_of_ble_eq_true rfl) ⟨Nat.le_of_ble_eq_true rfl, Nat.le_of_ble_eq_true rfl⟩ (fun v1 => ?_)
  refine v_if_ne (tgt := 14) (q := 11) dX11_say_8 rfl rfl ?_ ?_
  · refine v_aload_n (q := 15) dX11_say_14 rfl rfl rfl ?_
    refine v_getRb (q := 18) dX11_say_15 rfl fg_X11_10 (fun o2 => ?_)
    refine v_getIb (q := 21) dX11_say_18 rfl fg_X11_126 (fun v3 => ?_)
    refine v_bipush (q := 23) dX11_say_21 rfl bp_60 ?_
    refine v_icmp_lt (tgt := 29) (q := 26) dX11_say_23 rfl rfl ?_ ?_
    · refine v_aload_n (q := 30) dX11_say_29 rfl rfl rfl ?_
      refine v_getRb (q := 33) dX11_say_30 rfl fg_X11_10 (fun o4 => ?_)
      refine v_iload_n (q := 34) dX11_say_33 rfl rfl rfl ?_
      refine v_cMV1 (q := 37) (ct_X7_add (d - 1) (by omega) _ _ _) dX11_say_34 rfl cc_X11_127 (by omega) (Nat.le_of_ble_eq_true rfl) ⟨Nat.le_of_ble_eq_true rfl, Nat.le_of_ble_eq_true rfl⟩ (fun M5 => ?_)
      refine v_aload_n (q := 38) dX11_say_37 rfl rfl rfl ?_
      refine v_getRb (q := 41) dX11_say_38 rfl fg_X11_10 (fun o6 => ?_)
      refine v_getIb (q := 44) dX11_say_41 rfl fg_X11_126 (fun v7 => ?_)
      exact v_iret rfl dX11_say_44 ⟨Nat.le_of_ble_eq_true rfl, Nat.le_of_ble_eq_true rfl⟩ rfl
    · refine v_bipush (q := 28) dX11_say_26 rfl bp_m4 ?_
      exact v_iret rfl dX11_say_28 ⟨Nat.le_of_ble_eq_true rfl, Nat.le_of_ble_eq_true rfl⟩ rfl
  · refine v_bipush (q := 13) dX11_say_11 rfl bp_m2 ?_
    exact v_iret rfl dX11_say_13 ⟨Nat.le_of_ble_eq_true rfl, Nat.le_of_ble_eq_true rfl⟩ rfl
theorem ct_X11_say (d : Nat) (hd : 1 ≤ d) (a0 : Nat) (x1 : Int32) (M : Me) (r : Int32) (M2 : Me) (hf : f_X11_say a0 x1 M = some (r, M2)) : me_k M a0 = some (11, nf_c 11) ∧ Ct yX11_say mX11_say d 0 0 [.ref a0, .int x1] M (some (.int r), M2) := by
  obtain ⟨hk, hb⟩ := ck_some hf
  exact ⟨hk, ct_of (by decide +kernel) rfl rfl (Nat.le_of_ble_eq_true rfl) (vb_X11_say d hd a0 x1 M) (by rw [hb]; rfl)⟩
theorem dX11_wipe_0 : decode cX11_wipe 0 = .ok (.aload_n 0, 1) := by decide +kernel
theorem dX11_wipe_1 : decode cX11_wipe 1 = .ok (.getfield 10, 3) := by decide +kernel
theorem dX11_wipe_4 : decode cX11_wipe 4 = .ok (.getfield 126, 3) := by decide +kernel
theorem dX11_wipe_7 : decode cX11_wipe 7 = .ok (.istore_n 1, 1) := by decide +kernel
theorem dX11_wipe_8 : decode cX11_wipe 8 = .ok (.aload_n 0, 1) := by decide +kernel
theorem dX11_wipe_9 : decode cX11_wipe 9 = .ok (.getfield 10, 3) := by decide +kernel
theorem dX11_wipe_12 : decode cX11_wipe 12 = .ok (.iconst 0, 1) := by decide +kernel
theorem dX11_wipe_13 : decode cX11_wipe 13 = .ok (.putfield 126, 3) := by decide +kernel
theorem dX11_wipe_16 : decode cX11_wipe 16 = .ok (.iload_n 1, 1) := by decide +kernel
theorem dX11_wipe_17 : decode cX11_wipe 17 = .ok (.ireturn, 1) := by decide +kernel
noncomputable def b_X11_wipe (a0 : Nat) (M : Me) : Option (Int32 × Me) :=
  gr M a0 11 0 fun o1 =>
  gi M o1 7 0 fun v2 =>
  gr M a0 11 0 fun o3 =>
  pi M o3 7 0 (0 : Int32) fun M4 =>
  some (v2, M4)
noncomputable def f_X11_wipe (a0 : Nat) (M : Me) : Option (Int32 × Me) := ck M a0 11 (b_X11_wipe a0 M)
set_option maxRecDepth 20000 in
theorem vb_X11_wipe (d : Nat) (hd : 0 ≤ d) (a0 : Nat) (M : Me) : V (mX11_wipe, d, 0, 0) (0, 0) M 0 [some (.ref a0), none] [] (b_X11_wipe a0 M) (fun z => some (some (.int z.1), z.2)) := by
  unfold b_X11_wipe
  refine v_aload_n (q := 1) dX11_wipe_0 rfl rfl rfl ?_
  refine v_getRb (q := 4) dX11_wipe_1 rfl fg_X11_10 (fun o1 => ?_)
  refine v_getIb (q := 7) dX11_wipe_4 rfl fg_X11_126 (fun v2 => ?_)
  refine v_istore_n (q := 8) (loc2 := [some (.ref a0), some (.int v2)]) dX11_wipe_7 rfl rfl rfl (Nat.le_of_ble_eq_true rfl) rfl ?_
  refine v_aload_n (q := 9) dX11_wipe_8 rfl rfl rfl ?_
  refine v_getRb (q := 12) dX11_wipe_9 rfl fg_X11_10 (fun o3 => ?_)
  refine v_iconst (q := 13) dX11_wipe_12 rfl ic_0 ?_
  refine v_putIb (q := 16) dX11_wipe_13 rfl fp_X11_126 (fun M4 => ?_)
  refine v_iload_n (q := 17) dX11_wipe_16 rfl rfl rfl ?_
  exact v_iret rfl dX11_wipe_17 ⟨Nat.le_of_ble_eq_true rfl, Nat.le_of_ble_eq_true rfl⟩ rfl
theorem ct_X11_wipe (d : Nat) (hd : 0 ≤ d) (a0 : Nat) (M : Me) (r : Int32) (M2 : Me) (hf : f_X11_wipe a0 M = some (r, M2)) : me_k M a0 = some (11, nf_c 11) ∧ Ct yX11_wipe mX11_wipe d 0 0 [.ref a0] M (some (.int r), M2) := by
  obtain ⟨hk, hb⟩ := ck_some hf
  exact ⟨hk, ct_of (by decide +kernel) rfl rfl (Nat.le_of_ble_eq_true rfl) (vb_X11_wipe d hd a0 M) (by rw [hb]; rfl)⟩
theorem dX11_fault_0 : decode cX11_fault 0 = .ok (.aload_n 0, 1) := by decide +kernel
theorem dX11_fault_1 : decode cX11_fault 1 = .ok (.getfield 10, 3) := by decide +kernel
theorem dX11_fault_4 : decode cX11_fault 4 = .ok (.aload_n 0, 1) := by decide +kernel
theorem dX11_fault_5 : decode cX11_fault 5 = .ok (.getfield 19, 3) := by decide +kernel
theorem dX11_fault_8 : decode cX11_fault 8 = .ok (.getfield 59, 3) := by decide +kernel
theorem dX11_fault_11 : decode cX11_fault 11 = .ok (.getfield 63, 3) := by decide +kernel
theorem dX11_fault_14 : decode cX11_fault 14 = .ok (.invokevirtual 130, 3) := by decide +kernel
theorem dX11_fault_17 : decode cX11_fault 17 = .ok (.ireturn, 1) := by decide +kernel
noncomputable def b_X11_fault (a0 : Nat) (M : Me) : Option (Int32) :=
  gr M a0 11 0 fun o1 =>
  gr M a0 11 1 fun o2 =>
  gr M o2 0 0 fun o3 =>
  gi M o3 5 0 fun v4 =>
  cP (f_X7_findFault o1 v4 M) fun v5 =>
  some v5
noncomputable def f_X11_fault (a0 : Nat) (M : Me) : Option (Int32) := ck M a0 11 (b_X11_fault a0 M)
set_option maxRecDepth 20000 in
theorem vb_X11_fault (d : Nat) (hd : 5 ≤ d) (a0 : Nat) (M : Me) : V (mX11_fault, d, 0, 0) (0, 0) M 0 [some (.ref a0)] [] (b_X11_fault a0 M) (fun z => some (some (.int z), M)) := by
  unfold b_X11_fault
  refine v_aload_n (q := 1) dX11_fault_0 rfl rfl rfl ?_
  refine v_getRb (q := 4) dX11_fault_1 rfl fg_X11_10 (fun o1 => ?_)
  refine v_aload_n (q := 5) dX11_fault_4 rfl rfl rfl ?_
  refine v_getRb (q := 8) dX11_fault_5 rfl fg_X11_19 (fun o2 => ?_)
  refine v_getRb (q := 11) dX11_fault_8 rfl fg_X11_59 (fun o3 => ?_)
  refine v_getIb (q := 14) dX11_fault_11 rfl fg_X11_63 (fun v4 => ?_)
  refine v_cPV1 (q := 17) (ct_X7_findFault (d - 1) (by omega) _ _ _) dX11_fault_14 rfl cc_X11_130 (by omega) (Nat.le_of_ble_eq_true rfl) ⟨Nat.le_of_ble_eq_true rfl, Nat.le_of_ble_eq_true rfl⟩ (fun v5 => ?_)
  exact v_iret rfl dX11_fault_17 ⟨Nat.le_of_ble_eq_true rfl, Nat.le_of_ble_eq_true rfl⟩ rfl
theorem ct_X11_fault (d : Nat) (hd : 5 ≤ d) (a0 : Nat) (M : Me) (r : Int32) (hf : f_X11_fault a0 M = some r) : me_k M a0 = some (11, nf_c 11) ∧ Ct yX11_fault mX11_fault d 0 0 [.ref a0] M (some (.int r), M) := by
  obtain ⟨hk, hb⟩ := ck_some hf
  exact ⟨hk, ct_of (by decide +kernel) rfl rfl (Nat.le_of_ble_eq_true rfl) (vb_X11_fault d hd a0 M) (by rw [hb]; rfl)⟩
theorem dX11_judge_0 : decode cX11_judge 0 = .ok (.iload_n 1, 1) := by decide +kernel
theorem dX11_judge_1 : decode cX11_judge 1 = .ok (.iconst 0, 1) := by decide +kernel
theorem dX11_judge_2 : decode cX11_judge 2 = .ok (.iconst 1, 1) := by decide +kernel
theorem dX11_judge_3 : decode cX11_judge 3 = .ok (.invokestatic 55, 3) := by decide +kernel
theorem dX11_judge_6 : decode cX11_judge 6 = .ok (.ifCond .ne 6, 3) := by decide +kernel
theorem dX11_judge_9 : decode cX11_judge 9 = .ok (.bipush (-2), 2) := by decide +kernel
theorem dX11_judge_11 : decode cX11_judge 11 = .ok (.ireturn, 1) := by decide +kernel
theorem dX11_judge_12 : decode cX11_judge 12 = .ok (.aload_n 0, 1) := by decide +kernel
theorem dX11_judge_13 : decode cX11_judge 13 = .ok (.invokevirtual 134, 3) := by decide +kernel
theorem dX11_judge_16 : decode cX11_judge 16 = .ok (.bipush (-6), 2) := by decide +kernel
theorem dX11_judge_18 : decode cX11_judge 18 = .ok (.if_icmp .eq 6, 3) := by decide +kernel
theorem dX11_judge_21 : decode cX11_judge 21 = .ok (.bipush (-5), 2) := by decide +kernel
theorem dX11_judge_23 : decode cX11_judge 23 = .ok (.ireturn, 1) := by decide +kernel
theorem dX11_judge_24 : decode cX11_judge 24 = .ok (.aload_n 0, 1) := by decide +kernel
theorem dX11_judge_25 : decode cX11_judge 25 = .ok (.getfield 30, 3) := by decide +kernel
theorem dX11_judge_28 : decode cX11_judge 28 = .ok (.aload_n 0, 1) := by decide +kernel
theorem dX11_judge_29 : decode cX11_judge 29 = .ok (.getfield 10, 3) := by decide +kernel
theorem dX11_judge_32 : decode cX11_judge 32 = .ok (.aload_n 0, 1) := by decide +kernel
theorem dX11_judge_33 : decode cX11_judge 33 = .ok (.getfield 19, 3) := by decide +kernel
theorem dX11_judge_36 : decode cX11_judge 36 = .ok (.invokevirtual 137, 3) := by decide +kernel
theorem dX11_judge_39 : decode cX11_judge 39 = .ok (.ifCond .eq 6, 3) := by decide +kernel
theorem dX11_judge_42 : decode cX11_judge 42 = .ok (.bipush (-6), 2) := by decide +kernel
theorem dX11_judge_44 : decode cX11_judge 44 = .ok (.ireturn, 1) := by decide +kernel
theorem dX11_judge_45 : decode cX11_judge 45 = .ok (.iload_n 1, 1) := by decide +kernel
theorem dX11_judge_46 : decode cX11_judge 46 = .ok (.ifCond .ne 13, 3) := by decide +kernel
theorem dX11_judge_49 : decode cX11_judge 49 = .ok (.aload_n 0, 1) := by decide +kernel
theorem dX11_judge_50 : decode cX11_judge 50 = .ok (.getfield 30, 3) := by decide +kernel
theorem dX11_judge_53 : decode cX11_judge 53 = .ok (.getfield 141, 3) := by decide +kernel
theorem dX11_judge_56 : decode cX11_judge 56 = .ok (.goto 10, 3) := by decide +kernel
theorem dX11_judge_59 : decode cX11_judge 59 = .ok (.aload_n 0, 1) := by decide +kernel
theorem dX11_judge_60 : decode cX11_judge 60 = .ok (.getfield 30, 3) := by decide +kernel
theorem dX11_judge_63 : decode cX11_judge 63 = .ok (.getfield 144, 3) := by decide +kernel
theorem dX11_judge_66 : decode cX11_judge 66 = .ok (.ireturn, 1) := by decide +kernel
noncomputable def b_X11_judge (a0 : Nat) (x1 : Int32) (M : Me) : Option (Int32 × Me) :=
  cP (f_X11_isWithin x1 (0 : Int32) (1 : Int32) M) fun v1 =>
  if v1 = 0 then (
    some ((-2 : Int32), M)
  ) else (
    cP (f_X11_fault a0 M) fun v2 =>
    if v2 = (-6 : Int32) then (
      gr M a0 11 3 fun o3 =>
      gr M a0 11 0 fun o4 =>
      gr M a0 11 1 fun o5 =>
      cI (f_X10_hear o3 o4 o5 M) fun v6 M7 =>
      if v6 = 0 then (
        (
          if x1 = 0 then (
            gr M7 a0 11 3 fun o10 =>
            gi M7 o10 10 1 fun v11 =>
            some v11
          ) else (
            gr M7 a0 11 3 fun o8 =>
            gi M7 o8 10 2 fun v9 =>
            some v9
          )
        ).bind fun v12 =>
        some (v12, M7)
      ) else (
        some ((-6 : Int32), M7)
      )
    ) else (
      some ((-5 : Int32), M)
    )
  )
noncomputable def f_X11_judge (a0 : Nat) (x1 : Int32) (M : Me) : Option (Int32 × Me) := ck M a0 11 (b_X11_judge a0 x1 M)
set_option maxRecDepth 20000 in
theorem vb_X11_judge (d : Nat) (hd : 6 ≤ d) (a0 : Nat) (x1 : Int32) (M : Me) : V (mX11_judge, d, 0, 0) (0, 0) M 0 [some (.ref a0), some (.int x1)] [] (b_X11_judge a0 x1 M) (fun z => some (some (.int z.1), z.2)) := by
  unfold b_X11_judge
  refine v_iload_n (q := 1) dX11_judge_0 rfl rfl rfl ?_
  refine v_iconst (q := 2) dX11_judge_1 rfl ic_0 ?_
  refine v_iconst (q := 3) dX11_judge_2 rfl ic_1 ?_
  refine v_cPS3 (q := 6) (ct_X11_isWithin (d - 1) (by omega) _ _ _ _) dX11_judge_3 rfl cc_X11_55 (by omega) (Nat.le_of_ble_eq_true rfl) ⟨Nat.le_of_ble_eq_true rfl, Nat.le_of_ble_eq_true rfl⟩ (fun v1 => ?_)
  refine v_if_ne (tgt := 12) (q := 9) dX11_judge_6 rfl rfl ?_ ?_
  · refine v_aload_n (q := 13) dX11_judge_12 rfl rfl rfl ?_
    refine v_cPV0 (q := 16) (ct_X11_fault (d - 1) (by omega) _ _) dX11_judge_13 rfl cc_X11_134 (by omega) (Nat.le_of_ble_eq_true rfl) ⟨Nat.le_of_ble_eq_true rfl, Nat.le_of_ble_eq_true rfl⟩ (fun v2 => ?_)
    refine v_bipush (q := 18) dX11_judge_16 rfl bp_m6 ?_
    refine v_icmp_eq (tgt := 24) (q := 21) dX11_judge_18 rfl rfl ?_ ?_
    · refine v_aload_n (q := 25) dX11_judge_24 rfl rfl rfl ?_
      refine v_getRb (q := 28) dX11_judge_25 rfl fg_X11_30 (fun o3 => ?_)
      refine v_aload_n (q := 29) dX11_judge_28 rfl rfl rfl ?_
      refine v_getRb (q := 32) dX11_judge_29 rfl fg_X11_10 (fun o4 => ?_)
      refine v_aload_n (q := 33) dX11_judge_32 rfl rfl rfl ?_
      refine v_getRb (q := 36) dX11_judge_33 rfl fg_X11_19 (fun o5 => ?_)
      refine v_cIV2 (q := 39) (ct_X10_hear (d - 1) (by omega) _ _ _ _) dX11_judge_36 rfl cc_X11_137 (by omega) (Nat.le_of_ble_eq_true rfl) ⟨Nat.le_of_ble_eq_true rfl, Nat.le_of_ble_eq_true rfl⟩ (fun v6 M7 => ?_)
      refine v_if_eq (tgt := 45) (q := 42) dX11_judge_39 rfl rfl ?_ ?_
      · refine v_iload_n (q := 46) dX11_judge_45 rfl rfl rfl ?_
        refine v_join (γ := Int32) 66 (fun v12 => M7) (fun v12 => [some (.ref a0), some (.int x1)]) (fun v12 => [.int v12]) (fun K hK => ?_) (fun v12 => ?_)
        · refine v_if_ne (tgt := 59) (q := 49) dX11_judge_46 rfl rfl ?_ ?_
          · refine v_aload_n (q := 60) dX11_judge_59 rfl rfl rfl ?_
            refine v_getRb (q := 63) dX11_judge_60 rfl fg_X11_30 (fun o8 => ?_)
            refine v_getIb (q := 66) dX11_judge_63 rfl fg_X11_144 (fun v9 => ?_)
            exact hK v9
          · refine v_aload_n (q := 50) dX11_judge_49 rfl rfl rfl ?_
            refine v_getRb (q := 53) dX11_judge_50 rfl fg_X11_30 (fun o10 => ?_)
            refine v_getIb (q := 56) dX11_judge_53 rfl fg_X11_141 (fun v11 => ?_)
            refine v_goto (tgt := 66) dX11_judge_56 rfl ?_
            exact hK v11
        · exact v_iret rfl dX11_judge_66 ⟨Nat.le_of_ble_eq_true rfl, Nat.le_of_ble_eq_true rfl⟩ rfl
      · refine v_bipush (q := 44) dX11_judge_42 rfl bp_m6 ?_
        exact v_iret rfl dX11_judge_44 ⟨Nat.le_of_ble_eq_true rfl, Nat.le_of_ble_eq_true rfl⟩ rfl
    · refine v_bipush (q := 23) dX11_judge_21 rfl bp_m5 ?_
      exact v_iret rfl dX11_judge_23 ⟨Nat.le_of_ble_eq_true rfl, Nat.le_of_ble_eq_true rfl⟩ rfl
  · refine v_bipush (q := 11) dX11_judge_9 rfl bp_m2 ?_
    exact v_iret rfl dX11_judge_11 ⟨Nat.le_of_ble_eq_true rfl, Nat.le_of_ble_eq_true rfl⟩ rfl
theorem ct_X11_judge (d : Nat) (hd : 6 ≤ d) (a0 : Nat) (x1 : Int32) (M : Me) (r : Int32) (M2 : Me) (hf : f_X11_judge a0 x1 M = some (r, M2)) : me_k M a0 = some (11, nf_c 11) ∧ Ct yX11_judge mX11_judge d 0 0 [.ref a0, .int x1] M (some (.int r), M2) := by
  obtain ⟨hk, hb⟩ := ck_some hf
  exact ⟨hk, ct_of (by decide +kernel) rfl rfl (Nat.le_of_ble_eq_true rfl) (vb_X11_judge d hd a0 x1 M) (by rw [hb]; rfl)⟩
theorem dX11_done_0 : decode cX11_done 0 = .ok (.aload_n 0, 1) := by decide +kernel
theorem dX11_done_1 : decode cX11_done 1 = .ok (.invokevirtual 134, 3) := by decide +kernel
theorem dX11_done_4 : decode cX11_done 4 = .ok (.bipush (-6), 2) := by decide +kernel
theorem dX11_done_6 : decode cX11_done 6 = .ok (.if_icmp .ne 21, 3) := by decide +kernel
theorem dX11_done_9 : decode cX11_done 9 = .ok (.aload_n 0, 1) := by decide +kernel
theorem dX11_done_10 : decode cX11_done 10 = .ok (.getfield 30, 3) := by decide +kernel
theorem dX11_done_13 : decode cX11_done 13 = .ok (.aload_n 0, 1) := by decide +kernel
theorem dX11_done_14 : decode cX11_done 14 = .ok (.getfield 10, 3) := by decide +kernel
theorem dX11_done_17 : decode cX11_done 17 = .ok (.aload_n 0, 1) := by decide +kernel
theorem dX11_done_18 : decode cX11_done 18 = .ok (.getfield 19, 3) := by decide +kernel
theorem dX11_done_21 : decode cX11_done 21 = .ok (.invokevirtual 137, 3) := by decide +kernel
theorem dX11_done_24 : decode cX11_done 24 = .ok (.ifCond .ne 6, 3) := by decide +kernel
theorem dX11_done_27 : decode cX11_done 27 = .ok (.bipush (-5), 2) := by decide +kernel
theorem dX11_done_29 : decode cX11_done 29 = .ok (.ireturn, 1) := by decide +kernel
theorem dX11_done_30 : decode cX11_done 30 = .ok (.aload_n 0, 1) := by decide +kernel
theorem dX11_done_31 : decode cX11_done 31 = .ok (.getfield 19, 3) := by decide +kernel
theorem dX11_done_34 : decode cX11_done 34 = .ok (.aload_n 0, 1) := by decide +kernel
theorem dX11_done_35 : decode cX11_done 35 = .ok (.getfield 30, 3) := by decide +kernel
theorem dX11_done_38 : decode cX11_done 38 = .ok (.getfield 147, 3) := by decide +kernel
theorem dX11_done_41 : decode cX11_done 41 = .ok (.invokevirtual 150, 3) := by decide +kernel
theorem dX11_done_44 : decode cX11_done 44 = .ok (.aload_n 0, 1) := by decide +kernel
theorem dX11_done_45 : decode cX11_done 45 = .ok (.getfield 10, 3) := by decide +kernel
theorem dX11_done_48 : decode cX11_done 48 = .ok (.iconst 0, 1) := by decide +kernel
theorem dX11_done_49 : decode cX11_done 49 = .ok (.putfield 126, 3) := by decide +kernel
theorem dX11_done_52 : decode cX11_done 52 = .ok (.aload_n 0, 1) := by decide +kernel
theorem dX11_done_53 : decode cX11_done 53 = .ok (.getfield 30, 3) := by decide +kernel
theorem dX11_done_56 : decode cX11_done 56 = .ok (.getfield 141, 3) := by decide +kernel
theorem dX11_done_59 : decode cX11_done 59 = .ok (.ireturn, 1) := by decide +kernel
noncomputable def b_X11_done (a0 : Nat) (M : Me) : Option (Int32 × Me) :=
  cP (f_X11_fault a0 M) fun v1 =>
  if v1 = (-6 : Int32) then (
    gr M a0 11 3 fun o2 =>
    gr M a0 11 0 fun o3 =>
    gr M a0 11 1 fun o4 =>
    cI (f_X10_hear o2 o3 o4 M) fun v5 M6 =>
    if v5 = 0 then (
      some ((-5 : Int32), M6)
    ) else (
      gr M6 a0 11 1 fun o7 =>
      gr M6 a0 11 3 fun o8 =>
      gr M6 o8 10 0 fun o9 =>
      cM (f_X0_copy o7 o9 M6) fun M10 =>
      gr M10 a0 11 0 fun o11 =>
      pi M10 o11 7 0 (0 : Int32) fun M12 =>
      gr M12 a0 11 3 fun o13 =>
      gi M12 o13 10 1 fun v14 =>
      some (v14, M12)
    )
  ) else (
    some ((-5 : Int32), M)
  )
noncomputable def f_X11_done (a0 : Nat) (M : Me) : Option (Int32 × Me) := ck M a0 11 (b_X11_done a0 M)
set_option maxRecDepth 20000 in
theorem vb_X11_done (d : Nat) (hd : 6 ≤ d) (a0 : Nat) (M : Me) : V (mX11_done, d, 0, 0) (0, 0) M 0 [some (.ref a0)] [] (b_X11_done a0 M) (fun z => some (some (.int z.1), z.2)) := by
  unfold b_X11_done
  refine v_aload_n (q := 1) dX11_done_0 rfl rfl rfl ?_
  refine v_cPV0 (q := 4) (ct_X11_fault (d - 1) (by omega) _ _) dX11_done_1 rfl cc_X11_134 (by omega) (Nat.le_of_ble_eq_true rfl) ⟨Nat.le_of_ble_eq_true rfl, Nat.le_of_ble_eq_true rfl⟩ (fun v1 => ?_)
  refine v_bipush (q := 6) dX11_done_4 rfl bp_m6 ?_
  refine v_icmp_ne (tgt := 27) (q := 9) dX11_done_6 rfl rfl ?_ ?_
  · refine v_bipush (q := 29) dX11_done_27 rfl bp_m5 ?_
    exact v_iret rfl dX11_done_29 ⟨Nat.le_of_ble_eq_true rfl, Nat.le_of_ble_eq_true rfl⟩ rfl
  · refine v_aload_n (q := 10) dX11_done_9 rfl rfl rfl ?_
    refine v_getRb (q := 13) dX11_done_10 rfl fg_X11_30 (fun o2 => ?_)
    refine v_aload_n (q := 14) dX11_done_13 rfl rfl rfl ?_
    refine v_getRb (q := 17) dX11_done_14 rfl fg_X11_10 (fun o3 => ?_)
    refine v_aload_n (q := 18) dX11_done_17 rfl rfl rfl ?_
    refine v_getRb (q := 21) dX11_done_18 rfl fg_X11_19 (fun o4 => ?_)
    refine v_cIV2 (q := 24) (ct_X10_hear (d - 1) (by omega) _ _ _ _) dX11_done_21 rfl cc_X11_137 (by omega) (Nat.le_of_ble_eq_true rfl) ⟨Nat.le_of_ble_eq_true rfl, Nat.le_of_ble_eq_true rfl⟩ (fun v5 M6 => ?_)
    refine v_if_ne (tgt := 30) (q := 27) dX11_done_24 rfl rfl ?_ ?_
    · refine v_aload_n (q := 31) dX11_done_30 rfl rfl rfl ?_
      refine v_getRb (q := 34) dX11_done_31 rfl fg_X11_19 (fun o7 => ?_)
      refine v_aload_n (q := 35) dX11_done_34 rfl rfl rfl ?_
      refine v_getRb (q := 38) dX11_done_35 rfl fg_X11_30 (fun o8 => ?_)
      refine v_getRb (q := 41) dX11_done_38 rfl fg_X11_147 (fun o9 => ?_)
      refine v_cMV1 (q := 44) (ct_X0_copy (d - 1) (by omega) _ _ _) dX11_done_41 rfl cc_X11_150 (by omega) (Nat.le_of_ble_eq_true rfl) ⟨Nat.le_of_ble_eq_true rfl, Nat.le_of_ble_eq_true rfl⟩ (fun M10 => ?_)
      refine v_aload_n (q := 45) dX11_done_44 rfl rfl rfl ?_
      refine v_getRb (q := 48) dX11_done_45 rfl fg_X11_10 (fun o11 => ?_)
      refine v_iconst (q := 49) dX11_done_48 rfl ic_0 ?_
      refine v_putIb (q := 52) dX11_done_49 rfl fp_X11_126 (fun M12 => ?_)
      refine v_aload_n (q := 53) dX11_done_52 rfl rfl rfl ?_
      refine v_getRb (q := 56) dX11_done_53 rfl fg_X11_30 (fun o13 => ?_)
      refine v_getIb (q := 59) dX11_done_56 rfl fg_X11_141 (fun v14 => ?_)
      exact v_iret rfl dX11_done_59 ⟨Nat.le_of_ble_eq_true rfl, Nat.le_of_ble_eq_true rfl⟩ rfl
    · refine v_bipush (q := 29) dX11_done_27 rfl bp_m5 ?_
      exact v_iret rfl dX11_done_29 ⟨Nat.le_of_ble_eq_true rfl, Nat.le_of_ble_eq_true rfl⟩ rfl
theorem ct_X11_done (d : Nat) (hd : 6 ≤ d) (a0 : Nat) (M : Me) (r : Int32) (M2 : Me) (hf : f_X11_done a0 M = some (r, M2)) : me_k M a0 = some (11, nf_c 11) ∧ Ct yX11_done mX11_done d 0 0 [.ref a0] M (some (.int r), M2) := by
  obtain ⟨hk, hb⟩ := ck_some hf
  exact ⟨hk, ct_of (by decide +kernel) rfl rfl (Nat.le_of_ble_eq_true rfl) (vb_X11_done d hd a0 M) (by rw [hb]; rfl)⟩
theorem dX11_state_0 : decode cX11_state 0 = .ok (.aload_n 0, 1) := by decide +kernel
theorem dX11_state_1 : decode cX11_state 1 = .ok (.getfield 19, 3) := by decide +kernel
theorem dX11_state_4 : decode cX11_state 4 = .ok (.iload_n 1, 1) := by decide +kernel
theorem dX11_state_5 : decode cX11_state 5 = .ok (.invokevirtual 97, 3) := by decide +kernel
theorem dX11_state_8 : decode cX11_state 8 = .ok (.getfield 101, 3) := by decide +kernel
theorem dX11_state_11 : decode cX11_state 11 = .ok (.ifCond .ne 5, 3) := by decide +kernel
theorem dX11_state_14 : decode cX11_state 14 = .ok (.iconst (-1), 1) := by decide +kernel
theorem dX11_state_15 : decode cX11_state 15 = .ok (.ireturn, 1) := by decide +kernel
theorem dX11_state_16 : decode cX11_state 16 = .ok (.iload_n 2, 1) := by decide +kernel
theorem dX11_state_17 : decode cX11_state 17 = .ok (.iconst 0, 1) := by decide +kernel
theorem dX11_state_18 : decode cX11_state 18 = .ok (.iconst 3, 1) := by decide +kernel
theorem dX11_state_19 : decode cX11_state 19 = .ok (.invokestatic 55, 3) := by decide +kernel
theorem dX11_state_22 : decode cX11_state 22 = .ok (.ifCond .eq 18, 3) := by decide +kernel
theorem dX11_state_25 : decode cX11_state 25 = .ok (.aload_n 0, 1) := by decide +kernel
theorem dX11_state_26 : decode cX11_state 26 = .ok (.getfield 19, 3) := by decide +kernel
theorem dX11_state_29 : decode cX11_state 29 = .ok (.iload_n 1, 1) := by decide +kernel
theorem dX11_state_30 : decode cX11_state 30 = .ok (.invokevirtual 97, 3) := by decide +kernel
theorem dX11_state_33 : decode cX11_state 33 = .ok (.iload_n 2, 1) := by decide +kernel
theorem dX11_state_34 : decode cX11_state 34 = .ok (.invokevirtual 154, 3) := by decide +kernel
theorem dX11_state_37 : decode cX11_state 37 = .ok (.goto 5, 3) := by decide +kernel
theorem dX11_state_40 : decode cX11_state 40 = .ok (.bipush (-2), 2) := by decide +kernel
theorem dX11_state_42 : decode cX11_state 42 = .ok (.ireturn, 1) := by decide +kernel
noncomputable def b_X11_state (a0 : Nat) (x1 : Int32) (x2 : Int32) (M : Me) : Option (Int32) :=
  gr M a0 11 1 fun o1 =>
  cR (f_X0_knightAt o1 x1 M) fun o2 =>
  gi M o2 4 0 fun v3 =>
  if v3 = 0 then (
    some (-1 : Int32)
  ) else (
    cP (f_X11_isWithin x2 (0 : Int32) (3 : Int32) M) fun v4 =>
    (
      if v4 = 0 then (
        some (-2 : Int32)
      ) else (
        gr M a0 11 1 fun o5 =>
        cR (f_X0_knightAt o5 x1 M) fun o6 =>
        cP (f_X4_tell o6 x2 M) fun v7 =>
        some v7
      )
    ).bind fun v8 =>
    some v8
  )
noncomputable def f_X11_state (a0 : Nat) (x1 : Int32) (x2 : Int32) (M : Me) : Option (Int32) := ck M a0 11 (b_X11_state a0 x1 x2 M)
set_option maxRecDepth 20000 in
theorem vb_X11_state (d : Nat) (hd : 2 ≤ d) (a0 : Nat) (x1 : Int32) (x2 : Int32) (M : Me) : V (mX11_state, d, 0, 0) (0, 0) M 0 [some (.ref a0), some (.int x1), some (.int x2)] [] (b_X11_state a0 x1 x2 M) (fun z => some (some (.int z), M)) := by
  unfold b_X11_state
  refine v_aload_n (q := 1) dX11_state_0 rfl rfl rfl ?_
  refine v_getRb (q := 4) dX11_state_1 rfl fg_X11_19 (fun o1 => ?_)
  refine v_iload_n (q := 5) dX11_state_4 rfl rfl rfl ?_
  refine v_cRV1 (q := 8) (ct_X0_knightAt (d - 1) (by omega) _ _ _) dX11_state_5 rfl cc_X11_97 (by omega) (Nat.le_of_ble_eq_true rfl) ⟨Nat.le_of_ble_eq_true rfl, Nat.le_of_ble_eq_true rfl⟩ (fun o2 => ?_)
  refine v_getIb (q := 11) dX11_state_8 rfl fg_X11_101 (fun v3 => ?_)
  refine v_if_ne (tgt := 16) (q := 14) dX11_state_11 rfl rfl ?_ ?_
  · refine v_iload_n (q := 17) dX11_state_16 rfl rfl rfl ?_
    refine v_iconst (q := 18) dX11_state_17 rfl ic_0 ?_
    refine v_iconst (q := 19) dX11_state_18 rfl ic_3 ?_
    refine v_cPS3 (q := 22) (ct_X11_isWithin (d - 1) (by omega) _ _ _ _) dX11_state_19 rfl cc_X11_55 (by omega) (Nat.le_of_ble_eq_true rfl) ⟨Nat.le_of_ble_eq_true rfl, Nat.le_of_ble_eq_true rfl⟩ (fun v4 => ?_)
    refine v_join (γ := Int32) 42 (fun v8 => M) (fun v8 => [some (.ref a0), some (.int x1), some (.int x2)]) (fun v8 => [.int v8]) (fun K hK => ?_) (fun v8 => ?_)
    · refine v_if_eq (tgt := 40) (q := 25) dX11_state_22 rfl rfl ?_ ?_
      · refine v_bipush (q := 42) dX11_state_40 rfl bp_m2 ?_
        exact hK (-2 : Int32)
      · refine v_aload_n (q := 26) dX11_state_25 rfl rfl rfl ?_
        refine v_getRb (q := 29) dX11_state_26 rfl fg_X11_19 (fun o5 => ?_)
        refine v_iload_n (q := 30) dX11_state_29 rfl rfl rfl ?_
        refine v_cRV1 (q := 33) (ct_X0_knightAt (d - 1) (by omega) _ _ _) dX11_state_30 rfl cc_X11_97 (by omega) (Nat.le_of_ble_eq_true rfl) ⟨Nat.le_of_ble_eq_true rfl, Nat.le_of_ble_eq_true rfl⟩ (fun o6 => ?_)
        refine v_iload_n (q := 34) dX11_state_33 rfl rfl rfl ?_
        refine v_cPV1 (q := 37) (ct_X4_tell (d - 1) (by omega) _ _ _) dX11_state_34 rfl cc_X11_154 (by omega) (Nat.le_of_ble_eq_true rfl) ⟨Nat.le_of_ble_eq_true rfl, Nat.le_of_ble_eq_true rfl⟩ (fun v7 => ?_)
        refine v_goto (tgt := 42) dX11_state_37 rfl ?_
        exact hK v7
    · exact v_iret rfl dX11_state_42 ⟨Nat.le_of_ble_eq_true rfl, Nat.le_of_ble_eq_true rfl⟩ rfl
  · refine v_iconst (q := 15) dX11_state_14 rfl ic_m1 ?_
    exact v_iret rfl dX11_state_15 ⟨Nat.le_of_ble_eq_true rfl, Nat.le_of_ble_eq_true rfl⟩ rfl
theorem ct_X11_state (d : Nat) (hd : 2 ≤ d) (a0 : Nat) (x1 : Int32) (x2 : Int32) (M : Me) (r : Int32) (hf : f_X11_state a0 x1 x2 M = some r) : me_k M a0 = some (11, nf_c 11) ∧ Ct yX11_state mX11_state d 0 0 [.ref a0, .int x1, .int x2] M (some (.int r), M) := by
  obtain ⟨hk, hb⟩ := ck_some hf
  exact ⟨hk, ct_of (by decide +kernel) rfl rfl (Nat.le_of_ble_eq_true rfl) (vb_X11_state d hd a0 x1 x2 M) (by rw [hb]; rfl)⟩
theorem dX11_behind_0 : decode cX11_behind 0 = .ok (.aload_n 0, 1) := by decide +kernel
theorem dX11_behind_1 : decode cX11_behind 1 = .ok (.getfield 19, 3) := by decide +kernel
theorem dX11_behind_4 : decode cX11_behind 4 = .ok (.iload_n 1, 1) := by decide +kernel
theorem dX11_behind_5 : decode cX11_behind 5 = .ok (.invokevirtual 97, 3) := by decide +kernel
theorem dX11_behind_8 : decode cX11_behind 8 = .ok (.getfield 101, 3) := by decide +kernel
theorem dX11_behind_11 : decode cX11_behind 11 = .ok (.ifCond .ne 5, 3) := by decide +kernel
theorem dX11_behind_14 : decode cX11_behind 14 = .ok (.iconst (-1), 1) := by decide +kernel
theorem dX11_behind_15 : decode cX11_behind 15 = .ok (.ireturn, 1) := by decide +kernel
theorem dX11_behind_16 : decode cX11_behind 16 = .ok (.iload_n 2, 1) := by decide +kernel
theorem dX11_behind_17 : decode cX11_behind 17 = .ok (.iconst 0, 1) := by decide +kernel
theorem dX11_behind_18 : decode cX11_behind 18 = .ok (.iconst 3, 1) := by decide +kernel
theorem dX11_behind_19 : decode cX11_behind 19 = .ok (.invokestatic 55, 3) := by decide +kernel
theorem dX11_behind_22 : decode cX11_behind 22 = .ok (.ifCond .ne 6, 3) := by decide +kernel
theorem dX11_behind_25 : decode cX11_behind 25 = .ok (.bipush (-2), 2) := by decide +kernel
theorem dX11_behind_27 : decode cX11_behind 27 = .ok (.ireturn, 1) := by decide +kernel
theorem dX11_behind_28 : decode cX11_behind 28 = .ok (.aload_n 0, 1) := by decide +kernel
theorem dX11_behind_29 : decode cX11_behind 29 = .ok (.invokevirtual 134, 3) := by decide +kernel
theorem dX11_behind_32 : decode cX11_behind 32 = .ok (.bipush (-6), 2) := by decide +kernel
theorem dX11_behind_34 : decode cX11_behind 34 = .ok (.if_icmp .ne 21, 3) := by decide +kernel
theorem dX11_behind_37 : decode cX11_behind 37 = .ok (.aload_n 0, 1) := by decide +kernel
theorem dX11_behind_38 : decode cX11_behind 38 = .ok (.getfield 30, 3) := by decide +kernel
theorem dX11_behind_41 : decode cX11_behind 41 = .ok (.aload_n 0, 1) := by decide +kernel
theorem dX11_behind_42 : decode cX11_behind 42 = .ok (.getfield 10, 3) := by decide +kernel
theorem dX11_behind_45 : decode cX11_behind 45 = .ok (.aload_n 0, 1) := by decide +kernel
theorem dX11_behind_46 : decode cX11_behind 46 = .ok (.getfield 19, 3) := by decide +kernel
theorem dX11_behind_49 : decode cX11_behind 49 = .ok (.invokevirtual 137, 3) := by decide +kernel
theorem dX11_behind_52 : decode cX11_behind 52 = .ok (.ifCond .ne 6, 3) := by decide +kernel
theorem dX11_behind_55 : decode cX11_behind 55 = .ok (.bipush (-5), 2) := by decide +kernel
theorem dX11_behind_57 : decode cX11_behind 57 = .ok (.ireturn, 1) := by decide +kernel
theorem dX11_behind_58 : decode cX11_behind 58 = .ok (.aload_n 0, 1) := by decide +kernel
theorem dX11_behind_59 : decode cX11_behind 59 = .ok (.getfield 30, 3) := by decide +kernel
theorem dX11_behind_62 : decode cX11_behind 62 = .ok (.getfield 147, 3) := by decide +kernel
theorem dX11_behind_65 : decode cX11_behind 65 = .ok (.iload_n 1, 1) := by decide +kernel
theorem dX11_behind_66 : decode cX11_behind 66 = .ok (.invokevirtual 97, 3) := by decide +kernel
theorem dX11_behind_69 : decode cX11_behind 69 = .ok (.iload_n 2, 1) := by decide +kernel
theorem dX11_behind_70 : decode cX11_behind 70 = .ok (.invokevirtual 154, 3) := by decide +kernel
theorem dX11_behind_73 : decode cX11_behind 73 = .ok (.ireturn, 1) := by decide +kernel
noncomputable def b_X11_behind (a0 : Nat) (x1 : Int32) (x2 : Int32) (M : Me) : Option (Int32 × Me) :=
  gr M a0 11 1 fun o1 =>
  cR (f_X0_knightAt o1 x1 M) fun o2 =>
  gi M o2 4 0 fun v3 =>
  if v3 = 0 then (
    some ((-1 : Int32), M)
  ) else (
    cP (f_X11_isWithin x2 (0 : Int32) (3 : Int32) M) fun v4 =>
    if v4 = 0 then (
      some ((-2 : Int32), M)
    ) else (
      cP (f_X11_fault a0 M) fun v5 =>
      if v5 = (-6 : Int32) then (
        gr M a0 11 3 fun o6 =>
        gr M a0 11 0 fun o7 =>
        gr M a0 11 1 fun o8 =>
        cI (f_X10_hear o6 o7 o8 M) fun v9 M10 =>
        if v9 = 0 then (
          some ((-5 : Int32), M10)
        ) else (
          gr M10 a0 11 3 fun o11 =>
          gr M10 o11 10 0 fun o12 =>
          cR (f_X0_knightAt o12 x1 M10) fun o13 =>
          cP (f_X4_tell o13 x2 M10) fun v14 =>
          some (v14, M10)
        )
      ) else (
        some ((-5 : Int32), M)
      )
    )
  )
noncomputable def f_X11_behind (a0 : Nat) (x1 : Int32) (x2 : Int32) (M : Me) : Option (Int32 × Me) := ck M a0 11 (b_X11_behind a0 x1 x2 M)
set_option maxRecDepth 20000 in
theorem vb_X11_behind (d : Nat) (hd : 6 ≤ d) (a0 : Nat) (x1 : Int32) (x2 : Int32) (M : Me) : V (mX11_behind, d, 0, 0) (0, 0) M 0 [some (.ref a0), some (.int x1), some (.int x2)] [] (b_X11_behind a0 x1 x2 M) (fun z => some (some (.int z.1), z.2)) := by
  unfold b_X11_behind
  refine v_aload_n (q := 1) dX11_behind_0 rfl rfl rfl ?_
  refine v_getRb (q := 4) dX11_behind_1 rfl fg_X11_19 (fun o1 => ?_)
  refine v_iload_n (q := 5) dX11_behind_4 rfl rfl rfl ?_
  refine v_cRV1 (q := 8) (ct_X0_knightAt (d - 1) (by omega) _ _ _) dX11_behind_5 rfl cc_X11_97 (by omega) (Nat.le_of_ble_eq_true rfl) ⟨Nat.le_of_ble_eq_true rfl, Nat.le_of_ble_eq_true rfl⟩ (fun o2 => ?_)
  refine v_getIb (q := 11) dX11_behind_8 rfl fg_X11_101 (fun v3 => ?_)
  refine v_if_ne (tgt := 16) (q := 14) dX11_behind_11 rfl rfl ?_ ?_
  · refine v_iload_n (q := 17) dX11_behind_16 rfl rfl rfl ?_
    refine v_iconst (q := 18) dX11_behind_17 rfl ic_0 ?_
    refine v_iconst (q := 19) dX11_behind_18 rfl ic_3 ?_
    refine v_cPS3 (q := 22) (ct_X11_isWithin (d - 1) (by omega) _ _ _ _) dX11_behind_19 rfl cc_X11_55 (by omega) (Nat.le_of_ble_eq_true rfl) ⟨Nat.le_of_ble_eq_true rfl, Nat.le_of_ble_eq_true rfl⟩ (fun v4 => ?_)
    refine v_if_ne (tgt := 28) (q := 25) dX11_behind_22 rfl rfl ?_ ?_
    · refine v_aload_n (q := 29) dX11_behind_28 rfl rfl rfl ?_
      refine v_cPV0 (q := 32) (ct_X11_fault (d - 1) (by omega) _ _) dX11_behind_29 rfl cc_X11_134 (by omega) (Nat.le_of_ble_eq_true rfl) ⟨Nat.le_of_ble_eq_true rfl, Nat.le_of_ble_eq_true rfl⟩ (fun v5 => ?_)
      refine v_bipush (q := 34) dX11_behind_32 rfl bp_m6 ?_
      refine v_icmp_ne (tgt := 55) (q := 37) dX11_behind_34 rfl rfl ?_ ?_
      · refine v_bipush (q := 57) dX11_behind_55 rfl bp_m5 ?_
        exact v_iret rfl dX11_behind_57 ⟨Nat.le_of_ble_eq_true rfl, Nat.le_of_ble_eq_true rfl⟩ rfl
      · refine v_aload_n (q := 38) dX11_behind_37 rfl rfl rfl ?_
        refine v_getRb (q := 41) dX11_behind_38 rfl fg_X11_30 (fun o6 => ?_)
        refine v_aload_n (q := 42) dX11_behind_41 rfl rfl rfl ?_
        refine v_getRb (q := 45) dX11_behind_42 rfl fg_X11_10 (fun o7 => ?_)
        refine v_aload_n (q := 46) dX11_behind_45 rfl rfl rfl ?_
        refine v_getRb (q := 49) dX11_behind_46 rfl fg_X11_19 (fun o8 => ?_)
        refine v_cIV2 (q := 52) (ct_X10_hear (d - 1) (by omega) _ _ _ _) dX11_behind_49 rfl cc_X11_137 (by omega) (Nat.le_of_ble_eq_true rfl) ⟨Nat.le_of_ble_eq_true rfl, Nat.le_of_ble_eq_true rfl⟩ (fun v9 M10 => ?_)
        refine v_if_ne (tgt := 58) (q := 55) dX11_behind_52 rfl rfl ?_ ?_
        · refine v_aload_n (q := 59) dX11_behind_58 rfl rfl rfl ?_
          refine v_getRb (q := 62) dX11_behind_59 rfl fg_X11_30 (fun o11 => ?_)
          refine v_getRb (q := 65) dX11_behind_62 rfl fg_X11_147 (fun o12 => ?_)
          refine v_iload_n (q := 66) dX11_behind_65 rfl rfl rfl ?_
          refine v_cRV1 (q := 69) (ct_X0_knightAt (d - 1) (by omega) _ _ _) dX11_behind_66 rfl cc_X11_97 (by omega) (Nat.le_of_ble_eq_true rfl) ⟨Nat.le_of_ble_eq_true rfl, Nat.le_of_ble_eq_true rfl⟩ (fun o13 => ?_)
          refine v_iload_n (q := 70) dX11_behind_69 rfl rfl rfl ?_
          refine v_cPV1 (q := 73) (ct_X4_tell (d - 1) (by omega) _ _ _) dX11_behind_70 rfl cc_X11_154 (by omega) (Nat.le_of_ble_eq_true rfl) ⟨Nat.le_of_ble_eq_true rfl, Nat.le_of_ble_eq_true rfl⟩ (fun v14 => ?_)
          exact v_iret rfl dX11_behind_73 ⟨Nat.le_of_ble_eq_true rfl, Nat.le_of_ble_eq_true rfl⟩ rfl
        · refine v_bipush (q := 57) dX11_behind_55 rfl bp_m5 ?_
          exact v_iret rfl dX11_behind_57 ⟨Nat.le_of_ble_eq_true rfl, Nat.le_of_ble_eq_true rfl⟩ rfl
    · refine v_bipush (q := 27) dX11_behind_25 rfl bp_m2 ?_
      exact v_iret rfl dX11_behind_27 ⟨Nat.le_of_ble_eq_true rfl, Nat.le_of_ble_eq_true rfl⟩ rfl
  · refine v_iconst (q := 15) dX11_behind_14 rfl ic_m1 ?_
    exact v_iret rfl dX11_behind_15 ⟨Nat.le_of_ble_eq_true rfl, Nat.le_of_ble_eq_true rfl⟩ rfl
theorem ct_X11_behind (d : Nat) (hd : 6 ≤ d) (a0 : Nat) (x1 : Int32) (x2 : Int32) (M : Me) (r : Int32) (M2 : Me) (hf : f_X11_behind a0 x1 x2 M = some (r, M2)) : me_k M a0 = some (11, nf_c 11) ∧ Ct yX11_behind mX11_behind d 0 0 [.ref a0, .int x1, .int x2] M (some (.int r), M2) := by
  obtain ⟨hk, hb⟩ := ck_some hf
  exact ⟨hk, ct_of (by decide +kernel) rfl rfl (Nat.le_of_ble_eq_true rfl) (vb_X11_behind d hd a0 x1 x2 M) (by rw [hb]; rfl)⟩
theorem dX11_debt_0 : decode cX11_debt 0 = .ok (.iload_n 2, 1) := by decide +kernel
theorem dX11_debt_1 : decode cX11_debt 1 = .ok (.iconst 0, 1) := by decide +kernel
theorem dX11_debt_2 : decode cX11_debt 2 = .ok (.iconst 3, 1) := by decide +kernel
theorem dX11_debt_3 : decode cX11_debt 3 = .ok (.invokestatic 55, 3) := by decide +kernel
theorem dX11_debt_6 : decode cX11_debt 6 = .ok (.ifCond .ne 6, 3) := by decide +kernel
theorem dX11_debt_9 : decode cX11_debt 9 = .ok (.bipush (-2), 2) := by decide +kernel
theorem dX11_debt_11 : decode cX11_debt 11 = .ok (.ireturn, 1) := by decide +kernel
theorem dX11_debt_12 : decode cX11_debt 12 = .ok (.iload_n 1, 1) := by decide +kernel
theorem dX11_debt_13 : decode cX11_debt 13 = .ok (.iconst (-1), 1) := by decide +kernel
theorem dX11_debt_14 : decode cX11_debt 14 = .ok (.if_icmp .ne 14, 3) := by decide +kernel
theorem dX11_debt_17 : decode cX11_debt 17 = .ok (.aload_n 0, 1) := by decide +kernel
theorem dX11_debt_18 : decode cX11_debt 18 = .ok (.getfield 19, 3) := by decide +kernel
theorem dX11_debt_21 : decode cX11_debt 21 = .ok (.getfield 85, 3) := by decide +kernel
theorem dX11_debt_24 : decode cX11_debt 24 = .ok (.getfield 89, 3) := by decide +kernel
theorem dX11_debt_27 : decode cX11_debt 27 = .ok (.ireturn, 1) := by decide +kernel
theorem dX11_debt_28 : decode cX11_debt 28 = .ok (.aload_n 0, 1) := by decide +kernel
theorem dX11_debt_29 : decode cX11_debt 29 = .ok (.getfield 19, 3) := by decide +kernel
theorem dX11_debt_32 : decode cX11_debt 32 = .ok (.getfield 85, 3) := by decide +kernel
theorem dX11_debt_35 : decode cX11_debt 35 = .ok (.iload_n 1, 1) := by decide +kernel
theorem dX11_debt_36 : decode cX11_debt 36 = .ok (.invokevirtual 157, 3) := by decide +kernel
theorem dX11_debt_39 : decode cX11_debt 39 = .ok (.ifCond .eq 22, 3) := by decide +kernel
theorem dX11_debt_42 : decode cX11_debt 42 = .ok (.aload_n 0, 1) := by decide +kernel
theorem dX11_debt_43 : decode cX11_debt 43 = .ok (.getfield 19, 3) := by decide +kernel
theorem dX11_debt_46 : decode cX11_debt 46 = .ok (.getfield 85, 3) := by decide +kernel
theorem dX11_debt_49 : decode cX11_debt 49 = .ok (.getfield 160, 3) := by decide +kernel
theorem dX11_debt_52 : decode cX11_debt 52 = .ok (.iload_n 1, 1) := by decide +kernel
theorem dX11_debt_53 : decode cX11_debt 53 = .ok (.aaload, 1) := by decide +kernel
theorem dX11_debt_54 : decode cX11_debt 54 = .ok (.iload_n 2, 1) := by decide +kernel
theorem dX11_debt_55 : decode cX11_debt 55 = .ok (.invokevirtual 164, 3) := by decide +kernel
theorem dX11_debt_58 : decode cX11_debt 58 = .ok (.goto 5, 3) := by decide +kernel
theorem dX11_debt_61 : decode cX11_debt 61 = .ok (.bipush (-6), 2) := by decide +kernel
theorem dX11_debt_63 : decode cX11_debt 63 = .ok (.ireturn, 1) := by decide +kernel
noncomputable def b_X11_debt (a0 : Nat) (x1 : Int32) (x2 : Int32) (M : Me) : Option (Int32) :=
  cP (f_X11_isWithin x2 (0 : Int32) (3 : Int32) M) fun v1 =>
  if v1 = 0 then (
    some (-2 : Int32)
  ) else (
    if x1 = (-1 : Int32) then (
      gr M a0 11 1 fun o11 =>
      gr M o11 0 2 fun o12 =>
      gi M o12 2 0 fun v13 =>
      some v13
    ) else (
      gr M a0 11 1 fun o2 =>
      gr M o2 0 2 fun o3 =>
      cP (f_X2_has o3 x1 M) fun v4 =>
      (
        if v4 = 0 then (
          some (-6 : Int32)
        ) else (
          gr M a0 11 1 fun o5 =>
          gr M o5 0 2 fun o6 =>
          gr M o6 2 1 fun o7 =>
          lr M o7 23 x1 fun o8 =>
          cP (f_X1_tell o8 x2 M) fun v9 =>
          some v9
        )
      ).bind fun v10 =>
      some v10
    )
  )
noncomputable def f_X11_debt (a0 : Nat) (x1 : Int32) (x2 : Int32) (M : Me) : Option (Int32) := ck M a0 11 (b_X11_debt a0 x1 x2 M)
set_option maxRecDepth 20000 in
theorem vb_X11_debt (d : Nat) (hd : 1 ≤ d) (a0 : Nat) (x1 : Int32) (x2 : Int32) (M : Me) : V (mX11_debt, d, 0, 0) (0, 0) M 0 [some (.ref a0), some (.int x1), some (.int x2)] [] (b_X11_debt a0 x1 x2 M) (fun z => some (some (.int z), M)) := by
  unfold b_X11_debt
  refine v_iload_n (q := 1) dX11_debt_0 rfl rfl rfl ?_
  refine v_iconst (q := 2) dX11_debt_1 rfl ic_0 ?_
  refine v_iconst (q := 3) dX11_debt_2 rfl ic_3 ?_
  refine v_cPS3 (q := 6) (ct_X11_isWithin (d - 1) (by omega) _ _ _ _) dX11_debt_3 rfl cc_X11_55 (by omega) (Nat.le_of_ble_eq_true rfl) ⟨Nat.le_of_ble_eq_true rfl, Nat.le_of_ble_eq_true rfl⟩ (fun v1 => ?_)
  refine v_if_ne (tgt := 12) (q := 9) dX11_debt_6 rfl rfl ?_ ?_
  · refine v_iload_n (q := 13) dX11_debt_12 rfl rfl rfl ?_
    refine v_iconst (q := 14) dX11_debt_13 rfl ic_m1 ?_
    refine v_icmp_ne (tgt := 28) (q := 17) dX11_debt_14 rfl rfl ?_ ?_
    · refine v_aload_n (q := 29) dX11_debt_28 rfl rfl rfl ?_
      refine v_getRb (q := 32) dX11_debt_29 rfl fg_X11_19 (fun o2 => ?_)
      refine v_getRb (q := 35) dX11_debt_32 rfl fg_X11_85 (fun o3 => ?_)
      refine v_iload_n (q := 36) dX11_debt_35 rfl rfl rfl ?_
      refine v_cPV1 (q := 39) (ct_X2_has (d - 1) (by omega) _ _ _) dX11_debt_36 rfl cc_X11_157 (by omega) (Nat.le_of_ble_eq_true rfl) ⟨Nat.le_of_ble_eq_true rfl, Nat.le_of_ble_eq_true rfl⟩ (fun v4 => ?_)
      refine v_join (γ := Int32) 63 (fun v10 => M) (fun v10 => [some (.ref a0), some (.int x1), some (.int x2)]) (fun v10 => [.int v10]) (fun K hK => ?_) (fun v10 => ?_)
      · refine v_if_eq (tgt := 61) (q := 42) dX11_debt_39 rfl rfl ?_ ?_
        · refine v_bipush (q := 63) dX11_debt_61 rfl bp_m6 ?_
          exact hK (-6 : Int32)
        · refine v_aload_n (q := 43) dX11_debt_42 rfl rfl rfl ?_
          refine v_getRb (q := 46) dX11_debt_43 rfl fg_X11_19 (fun o5 => ?_)
          refine v_getRb (q := 49) dX11_debt_46 rfl fg_X11_85 (fun o6 => ?_)
          refine v_getRb (q := 52) dX11_debt_49 rfl fg_X11_160 (fun o7 => ?_)
          refine v_iload_n (q := 53) dX11_debt_52 rfl rfl rfl ?_
          refine v_aaload (q := 54) (t0 := 3) dX11_debt_53 rfl (Nat.le_of_ble_eq_true rfl) (fun _ => rfl) (fun o8 => ?_)
          refine v_iload_n (q := 55) dX11_debt_54 rfl rfl rfl ?_
          refine v_cPV1 (q := 58) (ct_X1_tell (d - 1) (by omega) _ _ _) dX11_debt_55 rfl cc_X11_164 (by omega) (Nat.le_of_ble_eq_true rfl) ⟨Nat.le_of_ble_eq_true rfl, Nat.le_of_ble_eq_true rfl⟩ (fun v9 => ?_)
          refine v_goto (tgt := 63) dX11_debt_58 rfl ?_
          exact hK v9
      · exact v_iret rfl dX11_debt_63 ⟨Nat.le_of_ble_eq_true rfl, Nat.le_of_ble_eq_true rfl⟩ rfl
    · refine v_aload_n (q := 18) dX11_debt_17 rfl rfl rfl ?_
      refine v_getRb (q := 21) dX11_debt_18 rfl fg_X11_19 (fun o11 => ?_)
      refine v_getRb (q := 24) dX11_debt_21 rfl fg_X11_85 (fun o12 => ?_)
      refine v_getIb (q := 27) dX11_debt_24 rfl fg_X11_89 (fun v13 => ?_)
      exact v_iret rfl dX11_debt_27 ⟨Nat.le_of_ble_eq_true rfl, Nat.le_of_ble_eq_true rfl⟩ rfl
  · refine v_bipush (q := 11) dX11_debt_9 rfl bp_m2 ?_
    exact v_iret rfl dX11_debt_11 ⟨Nat.le_of_ble_eq_true rfl, Nat.le_of_ble_eq_true rfl⟩ rfl
theorem ct_X11_debt (d : Nat) (hd : 1 ≤ d) (a0 : Nat) (x1 : Int32) (x2 : Int32) (M : Me) (r : Int32) (hf : f_X11_debt a0 x1 x2 M = some r) : me_k M a0 = some (11, nf_c 11) ∧ Ct yX11_debt mX11_debt d 0 0 [.ref a0, .int x1, .int x2] M (some (.int r), M) := by
  obtain ⟨hk, hb⟩ := ck_some hf
  exact ⟨hk, ct_of (by decide +kernel) rfl rfl (Nat.le_of_ble_eq_true rfl) (vb_X11_debt d hd a0 x1 x2 M) (by rw [hb]; rfl)⟩
theorem dX11_when_0 : decode cX11_when 0 = .ok (.aload_n 0, 1) := by decide +kernel
theorem dX11_when_1 : decode cX11_when 1 = .ok (.getfield 19, 3) := by decide +kernel
theorem dX11_when_4 : decode cX11_when 4 = .ok (.iload_n 1, 1) := by decide +kernel
theorem dX11_when_5 : decode cX11_when 5 = .ok (.invokevirtual 97, 3) := by decide +kernel
theorem dX11_when_8 : decode cX11_when 8 = .ok (.invokevirtual 115, 3) := by decide +kernel
theorem dX11_when_11 : decode cX11_when 11 = .ok (.ifCond .eq 17, 3) := by decide +kernel
theorem dX11_when_14 : decode cX11_when 14 = .ok (.aload_n 0, 1) := by decide +kernel
theorem dX11_when_15 : decode cX11_when 15 = .ok (.getfield 19, 3) := by decide +kernel
theorem dX11_when_18 : decode cX11_when 18 = .ok (.getfield 59, 3) := by decide +kernel
theorem dX11_when_21 : decode cX11_when 21 = .ok (.iload_n 2, 1) := by decide +kernel
theorem dX11_when_22 : decode cX11_when 22 = .ok (.invokevirtual 73, 3) := by decide +kernel
theorem dX11_when_25 : decode cX11_when 25 = .ok (.ifCond .ne 5, 3) := by decide +kernel
theorem dX11_when_28 : decode cX11_when 28 = .ok (.iconst (-1), 1) := by decide +kernel
theorem dX11_when_29 : decode cX11_when 29 = .ok (.ireturn, 1) := by decide +kernel
theorem dX11_when_30 : decode cX11_when 30 = .ok (.aload_n 0, 1) := by decide +kernel
theorem dX11_when_31 : decode cX11_when 31 = .ok (.getfield 37, 3) := by decide +kernel
theorem dX11_when_34 : decode cX11_when 34 = .ok (.aload_n 0, 1) := by decide +kernel
theorem dX11_when_35 : decode cX11_when 35 = .ok (.getfield 19, 3) := by decide +kernel
theorem dX11_when_38 : decode cX11_when 38 = .ok (.iload_n 1, 1) := by decide +kernel
theorem dX11_when_39 : decode cX11_when 39 = .ok (.iload_n 2, 1) := by decide +kernel
theorem dX11_when_40 : decode cX11_when 40 = .ok (.invokevirtual 167, 3) := by decide +kernel
theorem dX11_when_43 : decode cX11_when 43 = .ok (.istore_n 3, 1) := by decide +kernel
theorem dX11_when_44 : decode cX11_when 44 = .ok (.iload_n 3, 1) := by decide +kernel
theorem dX11_when_45 : decode cX11_when 45 = .ok (.ldc 171, 2) := by decide +kernel
theorem dX11_when_47 : decode cX11_when 47 = .ok (.if_icmp .ge 7, 3) := by decide +kernel
theorem dX11_when_50 : decode cX11_when 50 = .ok (.iload_n 3, 1) := by decide +kernel
theorem dX11_when_51 : decode cX11_when 51 = .ok (.goto 5, 3) := by decide +kernel
theorem dX11_when_54 : decode cX11_when 54 = .ok (.bipush (-6), 2) := by decide +kernel
theorem dX11_when_56 : decode cX11_when 56 = .ok (.ireturn, 1) := by decide +kernel
noncomputable def b_X11_when (a0 : Nat) (x1 : Int32) (x2 : Int32) (M : Me) : Option (Int32 × Me) :=
  gr M a0 11 1 fun o1 =>
  cR (f_X0_knightAt o1 x1 M) fun o2 =>
  cP (f_X4_isAlive o2 M) fun v3 =>
  if v3 = 0 then (
    some ((-1 : Int32), M)
  ) else (
    gr M a0 11 1 fun o4 =>
    gr M o4 0 0 fun o5 =>
    cP (f_X5_hasChapel o5 x2 M) fun v6 =>
    if v6 = 0 then (
      some ((-1 : Int32), M)
    ) else (
      gr M a0 11 4 fun o7 =>
      gr M a0 11 1 fun o8 =>
      cI (f_X3_firstDay o7 o8 x1 x2 M) fun v9 M10 =>
      (
        if (1000000000 : Int32) ≤ v9 then (
          some (-6 : Int32)
        ) else (
          some v9
        )
      ).bind fun v11 =>
      some (v11, M10)
    )
  )
noncomputable def f_X11_when (a0 : Nat) (x1 : Int32) (x2 : Int32) (M : Me) : Option (Int32 × Me) := ck M a0 11 (b_X11_when a0 x1 x2 M)
set_option maxRecDepth 20000 in
theorem vb_X11_when (d : Nat) (hd : 5 ≤ d) (a0 : Nat) (x1 : Int32) (x2 : Int32) (M : Me) : V (mX11_when, d, 0, 0) (0, 0) M 0 [some (.ref a0), some (.int x1), some (.int x2), none] [] (b_X11_when a0 x1 x2 M) (fun z => some (some (.int z.1), z.2)) := by
  unfold b_X11_when
  refine v_aload_n (q := 1) dX11_when_0 rfl rfl rfl ?_
  refine v_getRb (q := 4) dX11_when_1 rfl fg_X11_19 (fun o1 => ?_)
  refine v_iload_n (q := 5) dX11_when_4 rfl rfl rfl ?_
  refine v_cRV1 (q := 8) (ct_X0_knightAt (d - 1) (by omega) _ _ _) dX11_when_5 rfl cc_X11_97 (by omega) (Nat.le_of_ble_eq_true rfl) ⟨Nat.le_of_ble_eq_true rfl, Nat.le_of_ble_eq_true rfl⟩ (fun o2 => ?_)
  refine v_cPV0 (q := 11) (ct_X4_isAlive (d - 1) (by omega) _ _) dX11_when_8 rfl cc_X11_115 (by omega) (Nat.le_of_ble_eq_true rfl) ⟨Nat.le_of_ble_eq_true rfl, Nat.le_of_ble_eq_true rfl⟩ (fun v3 => ?_)
  refine v_if_eq (tgt := 28) (q := 14) dX11_when_11 rfl rfl ?_ ?_
  · refine v_iconst (q := 29) dX11_when_28 rfl ic_m1 ?_
    exact v_iret rfl dX11_when_29 ⟨Nat.le_of_ble_eq_true rfl, Nat.le_of_ble_eq_true rfl⟩ rfl
  · refine v_aload_n (q := 15) dX11_when_14 rfl rfl rfl ?_
    refine v_getRb (q := 18) dX11_when_15 rfl fg_X11_19 (fun o4 => ?_)
    refine v_getRb (q := 21) dX11_when_18 rfl fg_X11_59 (fun o5 => ?_)
    refine v_iload_n (q := 22) dX11_when_21 rfl rfl rfl ?_
    refine v_cPV1 (q := 25) (ct_X5_hasChapel (d - 1) (by omega) _ _ _) dX11_when_22 rfl cc_X11_73 (by omega) (Nat.le_of_ble_eq_true rfl) ⟨Nat.le_of_ble_eq_true rfl, Nat.le_of_ble_eq_true rfl⟩ (fun v6 => ?_)
    refine v_if_ne (tgt := 30) (q := 28) dX11_when_25 rfl rfl ?_ ?_
    · refine v_aload_n (q := 31) dX11_when_30 rfl rfl rfl ?_
      refine v_getRb (q := 34) dX11_when_31 rfl fg_X11_37 (fun o7 => ?_)
      refine v_aload_n (q := 35) dX11_when_34 rfl rfl rfl ?_
      refine v_getRb (q := 38) dX11_when_35 rfl fg_X11_19 (fun o8 => ?_)
      refine v_iload_n (q := 39) dX11_when_38 rfl rfl rfl ?_
      refine v_iload_n (q := 40) dX11_when_39 rfl rfl rfl ?_
      refine v_cIV3 (q := 43) (ct_X3_firstDay (d - 1) (by omega) _ _ _ _ _) dX11_when_40 rfl cc_X11_167 (by omega) (Nat.le_of_ble_eq_true rfl) ⟨Nat.le_of_ble_eq_true rfl, Nat.le_of_ble_eq_true rfl⟩ (fun v9 M10 => ?_)
      refine v_istore_n (q := 44) (loc2 := [some (.ref a0), some (.int x1), some (.int x2), some (.int v9)]) dX11_when_43 rfl rfl rfl (Nat.le_of_ble_eq_true rfl) rfl ?_
      refine v_iload_n (q := 45) dX11_when_44 rfl rfl rfl ?_
      refine v_ldc (q := 47) (v := (1000000000 : Int32)) kc_X11_171 dX11_when_45 rfl ?_
      refine v_join (γ := Int32) 56 (fun v11 => M10) (fun v11 => [some (.ref a0), some (.int x1), some (.int x2), some (.int v9)]) (fun v11 => [.int v11]) (fun K hK => ?_) (fun v11 => ?_)
      · refine v_icmp_ge (tgt := 54) (q := 50) dX11_when_47 rfl rfl ?_ ?_
        · refine v_bipush (q := 56) dX11_when_54 rfl bp_m6 ?_
          exact hK (-6 : Int32)
        · refine v_iload_n (q := 51) dX11_when_50 rfl rfl rfl ?_
          refine v_goto (tgt := 56) dX11_when_51 rfl ?_
          exact hK v9
      · exact v_iret rfl dX11_when_56 ⟨Nat.le_of_ble_eq_true rfl, Nat.le_of_ble_eq_true rfl⟩ rfl
    · refine v_iconst (q := 29) dX11_when_28 rfl ic_m1 ?_
      exact v_iret rfl dX11_when_29 ⟨Nat.le_of_ble_eq_true rfl, Nat.le_of_ble_eq_true rfl⟩ rfl
theorem ct_X11_when (d : Nat) (hd : 5 ≤ d) (a0 : Nat) (x1 : Int32) (x2 : Int32) (M : Me) (r : Int32) (M2 : Me) (hf : f_X11_when a0 x1 x2 M = some (r, M2)) : me_k M a0 = some (11, nf_c 11) ∧ Ct yX11_when mX11_when d 0 0 [.ref a0, .int x1, .int x2] M (some (.int r), M2) := by
  obtain ⟨hk, hb⟩ := ck_some hf
  exact ⟨hk, ct_of (by decide +kernel) rfl rfl (Nat.le_of_ble_eq_true rfl) (vb_X11_when d hd a0 x1 x2 M) (by rw [hb]; rfl)⟩
theorem dX11_inTime_0 : decode cX11_inTime 0 = .ok (.aload_n 0, 1) := by decide +kernel
theorem dX11_inTime_1 : decode cX11_inTime 1 = .ok (.getfield 19, 3) := by decide +kernel
theorem dX11_inTime_4 : decode cX11_inTime 4 = .ok (.iload_n 1, 1) := by decide +kernel
theorem dX11_inTime_5 : decode cX11_inTime 5 = .ok (.invokevirtual 97, 3) := by decide +kernel
theorem dX11_inTime_8 : decode cX11_inTime 8 = .ok (.invokevirtual 115, 3) := by decide +kernel
theorem dX11_inTime_11 : decode cX11_inTime 11 = .ok (.ifCond .ne 5, 3) := by decide +kernel
theorem dX11_inTime_14 : decode cX11_inTime 14 = .ok (.iconst (-1), 1) := by decide +kernel
theorem dX11_inTime_15 : decode cX11_inTime 15 = .ok (.ireturn, 1) := by decide +kernel
theorem dX11_inTime_16 : decode cX11_inTime 16 = .ok (.aload_n 0, 1) := by decide +kernel
theorem dX11_inTime_17 : decode cX11_inTime 17 = .ok (.getfield 37, 3) := by decide +kernel
theorem dX11_inTime_20 : decode cX11_inTime 20 = .ok (.aload_n 0, 1) := by decide +kernel
theorem dX11_inTime_21 : decode cX11_inTime 21 = .ok (.getfield 19, 3) := by decide +kernel
theorem dX11_inTime_24 : decode cX11_inTime 24 = .ok (.iload_n 1, 1) := by decide +kernel
theorem dX11_inTime_25 : decode cX11_inTime 25 = .ok (.invokevirtual 172, 3) := by decide +kernel
theorem dX11_inTime_28 : decode cX11_inTime 28 = .ok (.ireturn, 1) := by decide +kernel
noncomputable def b_X11_inTime (a0 : Nat) (x1 : Int32) (M : Me) : Option (Int32 × Me) :=
  gr M a0 11 1 fun o1 =>
  cR (f_X0_knightAt o1 x1 M) fun o2 =>
  cP (f_X4_isAlive o2 M) fun v3 =>
  if v3 = 0 then (
    some ((-1 : Int32), M)
  ) else (
    gr M a0 11 4 fun o4 =>
    gr M a0 11 1 fun o5 =>
    cI (f_X3_metAlone o4 o5 x1 M) fun v6 M7 =>
    some (v6, M7)
  )
noncomputable def f_X11_inTime (a0 : Nat) (x1 : Int32) (M : Me) : Option (Int32 × Me) := ck M a0 11 (b_X11_inTime a0 x1 M)
set_option maxRecDepth 20000 in
theorem vb_X11_inTime (d : Nat) (hd : 5 ≤ d) (a0 : Nat) (x1 : Int32) (M : Me) : V (mX11_inTime, d, 0, 0) (0, 0) M 0 [some (.ref a0), some (.int x1)] [] (b_X11_inTime a0 x1 M) (fun z => some (some (.int z.1), z.2)) := by
  unfold b_X11_inTime
  refine v_aload_n (q := 1) dX11_inTime_0 rfl rfl rfl ?_
  refine v_getRb (q := 4) dX11_inTime_1 rfl fg_X11_19 (fun o1 => ?_)
  refine v_iload_n (q := 5) dX11_inTime_4 rfl rfl rfl ?_
  refine v_cRV1 (q := 8) (ct_X0_knightAt (d - 1) (by omega) _ _ _) dX11_inTime_5 rfl cc_X11_97 (by omega) (Nat.le_of_ble_eq_true rfl) ⟨Nat.le_of_ble_eq_true rfl, Nat.le_of_ble_eq_true rfl⟩ (fun o2 => ?_)
  refine v_cPV0 (q := 11) (ct_X4_isAlive (d - 1) (by omega) _ _) dX11_inTime_8 rfl cc_X11_115 (by omega) (Nat.le_of_ble_eq_true rfl) ⟨Nat.le_of_ble_eq_true rfl, Nat.le_of_ble_eq_true rfl⟩ (fun v3 => ?_)
  refine v_if_ne (tgt := 16) (q := 14) dX11_inTime_11 rfl rfl ?_ ?_
  · refine v_aload_n (q := 17) dX11_inTime_16 rfl rfl rfl ?_
    refine v_getRb (q := 20) dX11_inTime_17 rfl fg_X11_37 (fun o4 => ?_)
    refine v_aload_n (q := 21) dX11_inTime_20 rfl rfl rfl ?_
    refine v_getRb (q := 24) dX11_inTime_21 rfl fg_X11_19 (fun o5 => ?_)
    refine v_iload_n (q := 25) dX11_inTime_24 rfl rfl rfl ?_
    refine v_cIV2 (q := 28) (ct_X3_metAlone (d - 1) (by omega) _ _ _ _) dX11_inTime_25 rfl cc_X11_172 (by omega) (Nat.le_of_ble_eq_true rfl) ⟨Nat.le_of_ble_eq_true rfl, Nat.le_of_ble_eq_true rfl⟩ (fun v6 M7 => ?_)
    exact v_iret rfl dX11_inTime_28 ⟨Nat.le_of_ble_eq_true rfl, Nat.le_of_ble_eq_true rfl⟩ rfl
  · refine v_iconst (q := 15) dX11_inTime_14 rfl ic_m1 ?_
    exact v_iret rfl dX11_inTime_15 ⟨Nat.le_of_ble_eq_true rfl, Nat.le_of_ble_eq_true rfl⟩ rfl
theorem ct_X11_inTime (d : Nat) (hd : 5 ≤ d) (a0 : Nat) (x1 : Int32) (M : Me) (r : Int32) (M2 : Me) (hf : f_X11_inTime a0 x1 M = some (r, M2)) : me_k M a0 = some (11, nf_c 11) ∧ Ct yX11_inTime mX11_inTime d 0 0 [.ref a0, .int x1] M (some (.int r), M2) := by
  obtain ⟨hk, hb⟩ := ck_some hf
  exact ⟨hk, ct_of (by decide +kernel) rfl rfl (Nat.le_of_ble_eq_true rfl) (vb_X11_inTime d hd a0 x1 M) (by rw [hb]; rfl)⟩
theorem dX11_round_0 : decode cX11_round 0 = .ok (.aload_n 0, 1) := by decide +kernel
theorem dX11_round_1 : decode cX11_round 1 = .ok (.getfield 19, 3) := by decide +kernel
theorem dX11_round_4 : decode cX11_round 4 = .ok (.iload_n 1, 1) := by decide +kernel
theorem dX11_round_5 : decode cX11_round 5 = .ok (.invokevirtual 97, 3) := by decide +kernel
theorem dX11_round_8 : decode cX11_round 8 = .ok (.invokevirtual 115, 3) := by decide +kernel
theorem dX11_round_11 : decode cX11_round 11 = .ok (.ifCond .ne 5, 3) := by decide +kernel
theorem dX11_round_14 : decode cX11_round 14 = .ok (.iconst (-1), 1) := by decide +kernel
theorem dX11_round_15 : decode cX11_round 15 = .ok (.ireturn, 1) := by decide +kernel
theorem dX11_round_16 : decode cX11_round 16 = .ok (.iload_n 2, 1) := by decide +kernel
theorem dX11_round_17 : decode cX11_round 17 = .ok (.tableswitch 85 0 2 #[27, 59, 72], 27) := by decide +kernel
theorem dX11_round_44 : decode cX11_round 44 = .ok (.aload_n 0, 1) := by decide +kernel
theorem dX11_round_45 : decode cX11_round 45 = .ok (.getfield 37, 3) := by decide +kernel
theorem dX11_round_48 : decode cX11_round 48 = .ok (.aload_n 0, 1) := by decide +kernel
theorem dX11_round_49 : decode cX11_round 49 = .ok (.getfield 19, 3) := by decide +kernel
theorem dX11_round_52 : decode cX11_round 52 = .ok (.iload_n 1, 1) := by decide +kernel
theorem dX11_round_53 : decode cX11_round 53 = .ok (.invokevirtual 176, 3) := by decide +kernel
theorem dX11_round_56 : decode cX11_round 56 = .ok (.aload_n 0, 1) := by decide +kernel
theorem dX11_round_57 : decode cX11_round 57 = .ok (.getfield 19, 3) := by decide +kernel
theorem dX11_round_60 : decode cX11_round 60 = .ok (.getfield 85, 3) := by decide +kernel
theorem dX11_round_63 : decode cX11_round 63 = .ok (.iload_n 1, 1) := by decide +kernel
theorem dX11_round_64 : decode cX11_round 64 = .ok (.invokevirtual 179, 3) := by decide +kernel
theorem dX11_round_67 : decode cX11_round 67 = .ok (.if_icmp .ne 7, 3) := by decide +kernel
theorem dX11_round_70 : decode cX11_round 70 = .ok (.iconst 1, 1) := by decide +kernel
theorem dX11_round_71 : decode cX11_round 71 = .ok (.goto 4, 3) := by decide +kernel
theorem dX11_round_74 : decode cX11_round 74 = .ok (.iconst 0, 1) := by decide +kernel
theorem dX11_round_75 : decode cX11_round 75 = .ok (.ireturn, 1) := by decide +kernel
theorem dX11_round_76 : decode cX11_round 76 = .ok (.aload_n 0, 1) := by decide +kernel
theorem dX11_round_77 : decode cX11_round 77 = .ok (.getfield 37, 3) := by decide +kernel
theorem dX11_round_80 : decode cX11_round 80 = .ok (.aload_n 0, 1) := by decide +kernel
theorem dX11_round_81 : decode cX11_round 81 = .ok (.getfield 19, 3) := by decide +kernel
theorem dX11_round_84 : decode cX11_round 84 = .ok (.iload_n 1, 1) := by decide +kernel
theorem dX11_round_85 : decode cX11_round 85 = .ok (.invokevirtual 176, 3) := by decide +kernel
theorem dX11_round_88 : decode cX11_round 88 = .ok (.ireturn, 1) := by decide +kernel
theorem dX11_round_89 : decode cX11_round 89 = .ok (.aload_n 0, 1) := by decide +kernel
theorem dX11_round_90 : decode cX11_round 90 = .ok (.getfield 37, 3) := by decide +kernel
theorem dX11_round_93 : decode cX11_round 93 = .ok (.aload_n 0, 1) := by decide +kernel
theorem dX11_round_94 : decode cX11_round 94 = .ok (.getfield 19, 3) := by decide +kernel
theorem dX11_round_97 : decode cX11_round 97 = .ok (.iload_n 1, 1) := by decide +kernel
theorem dX11_round_98 : decode cX11_round 98 = .ok (.invokevirtual 182, 3) := by decide +kernel
theorem dX11_round_101 : decode cX11_round 101 = .ok (.ireturn, 1) := by decide +kernel
theorem dX11_round_102 : decode cX11_round 102 = .ok (.bipush (-2), 2) := by decide +kernel
theorem dX11_round_104 : decode cX11_round 104 = .ok (.ireturn, 1) := by decide +kernel
noncomputable def b_X11_round (a0 : Nat) (x1 : Int32) (x2 : Int32) (M : Me) : Option (Int32 × Me) :=
  gr M a0 11 1 fun o1 =>
  cR (f_X0_knightAt o1 x1 M) fun o2 =>
  cP (f_X4_isAlive o2 M) fun v3 =>
  if v3 = 0 then (
    some ((-1 : Int32), M)
  ) else (
    if x2 = (0 : Int32) then (
      gr M a0 11 4 fun o4 =>
      gr M a0 11 1 fun o5 =>
      cI (f_X3_mostMet o4 o5 x1 M) fun v6 M7 =>
      gr M7 a0 11 1 fun o8 =>
      gr M7 o8 0 2 fun o9 =>
      cP (f_X2_countOwedBy o9 x1 M7) fun v10 =>
      (
        if v6 = v10 then (
          some (1 : Int32)
        ) else (
          some (0 : Int32)
        )
      ).bind fun v11 =>
      some (v11, M7)
    ) else (
      if x2 = (1 : Int32) then (
        gr M a0 11 4 fun o12 =>
        gr M a0 11 1 fun o13 =>
        cI (f_X3_mostMet o12 o13 x1 M) fun v14 M15 =>
        some (v14, M15)
      ) else (
        if x2 = (2 : Int32) then (
          gr M a0 11 4 fun o16 =>
          gr M a0 11 1 fun o17 =>
          cI (f_X3_findBarred o16 o17 x1 M) fun v18 M19 =>
          some (v18, M19)
        ) else (
          some ((-2 : Int32), M)
        )
      )
    )
  )
noncomputable def f_X11_round (a0 : Nat) (x1 : Int32) (x2 : Int32) (M : Me) : Option (Int32 × Me) := ck M a0 11 (b_X11_round a0 x1 x2 M)
set_option maxRecDepth 20000 in
theorem vb_X11_round (d : Nat) (hd : 6 ≤ d) (a0 : Nat) (x1 : Int32) (x2 : Int32) (M : Me) : V (mX11_round, d, 0, 0) (0, 0) M 0 [some (.ref a0), some (.int x1), some (.int x2)] [] (b_X11_round a0 x1 x2 M) (fun z => some (some (.int z.1), z.2)) := by
  unfold b_X11_round
  refine v_aload_n (q := 1) dX11_round_0 rfl rfl rfl ?_
  refine v_getRb (q := 4) dX11_round_1 rfl fg_X11_19 (fun o1 => ?_)
  refine v_iload_n (q := 5) dX11_round_4 rfl rfl rfl ?_
  refine v_cRV1 (q := 8) (ct_X0_knightAt (d - 1) (by omega) _ _ _) dX11_round_5 rfl cc_X11_97 (by omega) (Nat.le_of_ble_eq_true rfl) ⟨Nat.le_of_ble_eq_true rfl, Nat.le_of_ble_eq_true rfl⟩ (fun o2 => ?_)
  refine v_cPV0 (q := 11) (ct_X4_isAlive (d - 1) (by omega) _ _) dX11_round_8 rfl cc_X11_115 (by omega) (Nat.le_of_ble_eq_true rfl) ⟨Nat.le_of_ble_eq_true rfl, Nat.le_of_ble_eq_true rfl⟩ (fun v3 => ?_)
  refine v_if_ne (tgt := 16) (q := 14) dX11_round_11 rfl rfl ?_ ?_
  · refine v_iload_n (q := 17) dX11_round_16 rfl rfl rfl ?_
    refine v_ite (fun h0 => ?_) (fun h0 => ?_)
    · refine v_tbl_in (cst := (0 : Int32)) (off := 27) (tgt := 44) dX11_round_17 h0 (by decide) (by decide) (by decide) rfl ?_
      refine v_aload_n (q := 45) dX11_round_44 rfl rfl rfl ?_
      refine v_getRb (q := 48) dX11_round_45 rfl fg_X11_37 (fun o4 => ?_)
      refine v_aload_n (q := 49) dX11_round_48 rfl rfl rfl ?_
      refine v_getRb (q := 52) dX11_round_49 rfl fg_X11_19 (fun o5 => ?_)
      refine v_iload_n (q := 53) dX11_round_52 rfl rfl rfl ?_
      refine v_cIV2 (q := 56) (ct_X3_mostMet (d - 1) (by omega) _ _ _ _) dX11_round_53 rfl cc_X11_176 (by omega) (Nat.le_of_ble_eq_true rfl) ⟨Nat.le_of_ble_eq_true rfl, Nat.le_of_ble_eq_true rfl⟩ (fun v6 M7 => ?_)
      refine v_aload_n (q := 57) dX11_round_56 rfl rfl rfl ?_
      refine v_getRb (q := 60) dX11_round_57 rfl fg_X11_19 (fun o8 => ?_)
      refine v_getRb (q := 63) dX11_round_60 rfl fg_X11_85 (fun o9 => ?_)
      refine v_iload_n (q := 64) dX11_round_63 rfl rfl rfl ?_
      refine v_cPV1 (q := 67) (ct_X2_countOwedBy (d - 1) (by omega) _ _ _) dX11_round_64 rfl cc_X11_179 (by omega) (Nat.le_of_ble_eq_true rfl) ⟨Nat.le_of_ble_eq_true rfl, Nat.le_of_ble_eq_true rfl⟩ (fun v10 => ?_)
      refine v_join (γ := Int32) 75 (fun v11 => M7) (fun v11 => [some (.ref a0), some (.int x1), some (.int x2)]) (fun v11 => [.int v11]) (fun K hK => ?_) (fun v11 => ?_)
      · refine v_icmp_ne (tgt := 74) (q := 70) dX11_round_67 rfl rfl ?_ ?_
        · refine v_iconst (q := 75) dX11_round_74 rfl ic_0 ?_
          exact hK (0 : Int32)
        · refine v_iconst (q := 71) dX11_round_70 rfl ic_1 ?_
          refine v_goto (tgt := 75) dX11_round_71 rfl ?_
          exact hK (1 : Int32)
      · exact v_iret rfl dX11_round_75 ⟨Nat.le_of_ble_eq_true rfl, Nat.le_of_ble_eq_true rfl⟩ rfl
    · refine v_ite (fun h1 => ?_) (fun h1 => ?_)
      · refine v_tbl_in (cst := (1 : Int32)) (off := 59) (tgt := 76) dX11_round_17 h1 (by decide) (by decide) (by decide) rfl ?_
        refine v_aload_n (q := 77) dX11_round_76 rfl rfl rfl ?_
        refine v_getRb (q := 80) dX11_round_77 rfl fg_X11_37 (fun o12 => ?_)
        refine v_aload_n (q := 81) dX11_round_80 rfl rfl rfl ?_
        refine v_getRb (q := 84) dX11_round_81 rfl fg_X11_19 (fun o13 => ?_)
        refine v_iload_n (q := 85) dX11_round_84 rfl rfl rfl ?_
        refine v_cIV2 (q := 88) (ct_X3_mostMet (d - 1) (by omega) _ _ _ _) dX11_round_85 rfl cc_X11_176 (by omega) (Nat.le_of_ble_eq_true rfl) ⟨Nat.le_of_ble_eq_true rfl, Nat.le_of_ble_eq_true rfl⟩ (fun v14 M15 => ?_)
        exact v_iret rfl dX11_round_88 ⟨Nat.le_of_ble_eq_true rfl, Nat.le_of_ble_eq_true rfl⟩ rfl
      · refine v_ite (fun h2 => ?_) (fun h2 => ?_)
        · refine v_tbl_in (cst := (2 : Int32)) (off := 72) (tgt := 89) dX11_round_17 h2 (by decide) (by decide) (by decide) rfl ?_
          refine v_aload_n (q := 90) dX11_round_89 rfl rfl rfl ?_
          refine v_getRb (q := 93) dX11_round_90 rfl fg_X11_37 (fun o16 => ?_)
          refine v_aload_n (q := 94) dX11_round_93 rfl rfl rfl ?_
          refine v_getRb (q := 97) dX11_round_94 rfl fg_X11_19 (fun o17 => ?_)
          refine v_iload_n (q := 98) dX11_round_97 rfl rfl rfl ?_
          refine v_cIV2 (q := 101) (ct_X3_findBarred (d - 1) (by omega) _ _ _ _) dX11_round_98 rfl cc_X11_182 (by omega) (Nat.le_of_ble_eq_true rfl) ⟨Nat.le_of_ble_eq_true rfl, Nat.le_of_ble_eq_true rfl⟩ (fun v18 M19 => ?_)
          exact v_iret rfl dX11_round_101 ⟨Nat.le_of_ble_eq_true rfl, Nat.le_of_ble_eq_true rfl⟩ rfl
        · refine v_tbl_out (tgt := 102) dX11_round_17 (by have q0 := lv_neT h0 (a := 0) (by decide); have q1 := lv_neT h1 (a := 1) (by decide); have q2 := lv_neT h2 (a := 2) (by decide); omega) rfl ?_
          refine v_bipush (q := 104) dX11_round_102 rfl bp_m2 ?_
          exact v_iret rfl dX11_round_104 ⟨Nat.le_of_ble_eq_true rfl, Nat.le_of_ble_eq_true rfl⟩ rfl
  · refine v_iconst (q := 15) dX11_round_14 rfl ic_m1 ?_
    exact v_iret rfl dX11_round_15 ⟨Nat.le_of_ble_eq_true rfl, Nat.le_of_ble_eq_true rfl⟩ rfl
theorem ct_X11_round (d : Nat) (hd : 6 ≤ d) (a0 : Nat) (x1 : Int32) (x2 : Int32) (M : Me) (r : Int32) (M2 : Me) (hf : f_X11_round a0 x1 x2 M = some (r, M2)) : me_k M a0 = some (11, nf_c 11) ∧ Ct yX11_round mX11_round d 0 0 [.ref a0, .int x1, .int x2] M (some (.int r), M2) := by
  obtain ⟨hk, hb⟩ := ck_some hf
  exact ⟨hk, ct_of (by decide +kernel) rfl rfl (Nat.le_of_ble_eq_true rfl) (vb_X11_round d hd a0 x1 x2 M) (by rw [hb]; rfl)⟩
theorem dX11_gainOf_0 : decode cX11_gainOf 0 = .ok (.iload_n 3, 1) := by decide +kernel
theorem dX11_gainOf_1 : decode cX11_gainOf 1 = .ok (.iload_n 0, 1) := by decide +kernel
theorem dX11_gainOf_2 : decode cX11_gainOf 2 = .ok (.imul, 1) := by decide +kernel
theorem dX11_gainOf_3 : decode cX11_gainOf 3 = .ok (.istore 5, 2) := by decide +kernel
theorem dX11_gainOf_5 : decode cX11_gainOf 5 = .ok (.iload_n 0, 1) := by decide +kernel
theorem dX11_gainOf_6 : decode cX11_gainOf 6 = .ok (.aload_n 2, 1) := by decide +kernel
theorem dX11_gainOf_7 : decode cX11_gainOf 7 = .ok (.getfield 294, 3) := by decide +kernel
theorem dX11_gainOf_10 : decode cX11_gainOf 10 = .ok (.if_icmp .lt 6, 3) := by decide +kernel
theorem dX11_gainOf_13 : decode cX11_gainOf 13 = .ok (.iload 5, 2) := by decide +kernel
theorem dX11_gainOf_15 : decode cX11_gainOf 15 = .ok (.ireturn, 1) := by decide +kernel
theorem dX11_gainOf_16 : decode cX11_gainOf 16 = .ok (.iload_n 0, 1) := by decide +kernel
theorem dX11_gainOf_17 : decode cX11_gainOf 17 = .ok (.aload_n 2, 1) := by decide +kernel
theorem dX11_gainOf_18 : decode cX11_gainOf 18 = .ok (.getfield 288, 3) := by decide +kernel
theorem dX11_gainOf_21 : decode cX11_gainOf 21 = .ok (.invokestatic 297, 3) := by decide +kernel
theorem dX11_gainOf_24 : decode cX11_gainOf 24 = .ok (.istore 6, 2) := by decide +kernel
theorem dX11_gainOf_26 : decode cX11_gainOf 26 = .ok (.aload_n 1, 1) := by decide +kernel
theorem dX11_gainOf_27 : decode cX11_gainOf 27 = .ok (.getfield 294, 3) := by decide +kernel
theorem dX11_gainOf_30 : decode cX11_gainOf 30 = .ok (.iload 6, 2) := by decide +kernel
theorem dX11_gainOf_32 : decode cX11_gainOf 32 = .ok (.if_icmp .gt 9, 3) := by decide +kernel
theorem dX11_gainOf_35 : decode cX11_gainOf 35 = .ok (.sipush 1000, 3) := by decide +kernel
theorem dX11_gainOf_38 : decode cX11_gainOf 38 = .ok (.goto 4, 3) := by decide +kernel
theorem dX11_gainOf_41 : decode cX11_gainOf 41 = .ok (.iconst 0, 1) := by decide +kernel
theorem dX11_gainOf_42 : decode cX11_gainOf 42 = .ok (.istore 7, 2) := by decide +kernel
theorem dX11_gainOf_44 : decode cX11_gainOf 44 = .ok (.iload 5, 2) := by decide +kernel
theorem dX11_gainOf_46 : decode cX11_gainOf 46 = .ok (.iload 4, 2) := by decide +kernel
theorem dX11_gainOf_48 : decode cX11_gainOf 48 = .ok (.iload 6, 2) := by decide +kernel
theorem dX11_gainOf_50 : decode cX11_gainOf 50 = .ok (.imul, 1) := by decide +kernel
theorem dX11_gainOf_51 : decode cX11_gainOf 51 = .ok (.isub, 1) := by decide +kernel
theorem dX11_gainOf_52 : decode cX11_gainOf 52 = .ok (.iload 7, 2) := by decide +kernel
theorem dX11_gainOf_54 : decode cX11_gainOf 54 = .ok (.isub, 1) := by decide +kernel
theorem dX11_gainOf_55 : decode cX11_gainOf 55 = .ok (.ireturn, 1) := by decide +kernel
noncomputable def b_X11_gainOf (x0 : Int32) (a1 : Nat) (a2 : Nat) (x3 : Int32) (x4 : Int32) (M : Me) : Option (Int32) :=
  let_v ((x3 * x0)) fun v1 =>
  gi M a2 4 3 fun v2 =>
  if x0 < v2 then (
    gi M a2 4 2 fun v3 =>
    let_v ((mn_i x0 v3)) fun v4 =>
    gi M a1 4 3 fun v5 =>
    (
      if v4 < v5 then (
        some (0 : Int32)
      ) else (
        some (1000 : Int32)
      )
    ).bind fun v6 =>
    some ((v1 - (x4 * v4)) - v6)
  ) else (
    some v1
  )
noncomputable def f_X11_gainOf (x0 : Int32) (a1 : Nat) (a2 : Nat) (x3 : Int32) (x4 : Int32) (M : Me) : Option (Int32) := b_X11_gainOf x0 a1 a2 x3 x4 M
set_option maxRecDepth 20000 in
theorem vb_X11_gainOf (d : Nat) (hd : 1 ≤ d) (x0 : Int32) (a1 : Nat) (a2 : Nat) (x3 : Int32) (x4 : Int32) (M : Me) : V (mX11_gainOf, d, 0, 0) (0, 0) M 0 [some (.int x0), some (.ref a1), some (.ref a2), some (.int x3), some (.int x4), none, none, none] [] (b_X11_gainOf x0 a1 a2 x3 x4 M) (fun z => some (some (.int z), M)) := by
  unfold b_X11_gainOf
  refine v_iload_n (q := 1) dX11_gainOf_0 rfl rfl rfl ?_
  refine v_iload_n (q := 2) dX11_gainOf_1 rfl rfl rfl ?_
  refine v_imul (q := 3) dX11_gainOf_2 rfl ?_
  refine v_letI (fun v1 => ?_)
  refine v_istore (q := 5) (loc2 := [some (.int x0), some (.ref a1), some (.ref a2), some (.int x3), some (.int x4), some (.int v1), none, none]) dX11_gainOf_3 rfl rfl (Nat.le_of_ble_eq_true rfl) rfl ?_
  refine v_iload_n (q := 6) dX11_gainOf_5 rfl rfl rfl ?_
  refine v_aload_n (q := 7) dX11_gainOf_6 rfl rfl rfl ?_
  refine v_getIb (q := 10) dX11_gainOf_7 rfl fg_X11_294 (fun v2 => ?_)
  refine v_icmp_lt (tgt := 16) (q := 13) dX11_gainOf_10 rfl rfl ?_ ?_
  · refine v_iload_n (q := 17) dX11_gainOf_16 rfl rfl rfl ?_
    refine v_aload_n (q := 18) dX11_gainOf_17 rfl rfl rfl ?_
    refine v_getIb (q := 21) dX11_gainOf_18 rfl fg_X11_288 (fun v3 => ?_)
    refine v_mn_i (q := 24) dX11_gainOf_21 rfl cc_X11_297 (by show 1 ≤ d; omega) (Nat.le_of_ble_eq_true rfl) ⟨Nat.le_of_ble_eq_true rfl, Nat.le_of_ble_eq_true rfl⟩ ?_
    refine v_letI (fun v4 => ?_)
    refine v_istore (q := 26) (loc2 := [some (.int x0), some (.ref a1), some (.ref a2), some (.int x3), some (.int x4), some (.int v1), some (.int v4), none]) dX11_gainOf_24 rfl rfl (Nat.le_of_ble_eq_true rfl) rfl ?_
    refine v_aload_n (q := 27) dX11_gainOf_26 rfl rfl rfl ?_
    refine v_getIb (q := 30) dX11_gainOf_27 rfl fg_X11_294 (fun v5 => ?_)
    refine v_iload (q := 32) dX11_gainOf_30 rfl rfl ?_
    refine v_join (γ := Int32) 42 (fun v6 => M) (fun v6 => [some (.int x0), some (.ref a1), some (.ref a2), some (.int x3), some (.int x4), some (.int v1), some (.int v4), none]) (fun v6 => [.int v6]) (fun K hK => ?_) (fun v6 => ?_)
    · refine v_icmp_gt (tgt := 41) (q := 35) dX11_gainOf_32 rfl rfl ?_ ?_
      · refine v_iconst (q := 42) dX11_gainOf_41 rfl ic_0 ?_
        exact hK (0 : Int32)
      · refine v_sipush (q := 38) dX11_gainOf_35 rfl sp_1000 ?_
        refine v_goto (tgt := 42) dX11_gainOf_38 rfl ?_
        exact hK (1000 : Int32)
    · refine v_istore (q := 44) (loc2 := [some (.int x0), some (.ref a1), some (.ref a2), some (.int x3), some (.int x4), some (.int v1), some (.int v4), some (.int v6)]) dX11_gainOf_42 rfl rfl (Nat.le_of_ble_eq_true rfl) rfl ?_
      refine v_iload (q := 46) dX11_gainOf_44 rfl rfl ?_
      refine v_iload (q := 48) dX11_gainOf_46 rfl rfl ?_
      refine v_iload (q := 50) dX11_gainOf_48 rfl rfl ?_
      refine v_imul (q := 51) dX11_gainOf_50 rfl ?_
      refine v_isub (q := 52) dX11_gainOf_51 rfl ?_
      refine v_iload (q := 54) dX11_gainOf_52 rfl rfl ?_
      refine v_isub (q := 55) dX11_gainOf_54 rfl ?_
      exact v_iret rfl dX11_gainOf_55 ⟨Nat.le_of_ble_eq_true rfl, Nat.le_of_ble_eq_true rfl⟩ rfl
  · refine v_iload (q := 15) dX11_gainOf_13 rfl rfl ?_
    exact v_iret rfl dX11_gainOf_15 ⟨Nat.le_of_ble_eq_true rfl, Nat.le_of_ble_eq_true rfl⟩ rfl
theorem ct_X11_gainOf (d : Nat) (hd : 1 ≤ d) (x0 : Int32) (a1 : Nat) (a2 : Nat) (x3 : Int32) (x4 : Int32) (M : Me) (r : Int32) (hf : f_X11_gainOf x0 a1 a2 x3 x4 M = some r) : Ct yX11_gainOf mX11_gainOf d 0 0 [.int x0, .ref a1, .ref a2, .int x3, .int x4] M (some (.int r), M) := by
  have hb : b_X11_gainOf x0 a1 a2 x3 x4 M = some r := hf
  exact ct_of (by decide +kernel) rfl rfl (Nat.le_of_ble_eq_true rfl) (vb_X11_gainOf d hd x0 a1 a2 x3 x4 M) (by rw [hb]; rfl)
theorem dX11_bestBlow_0 : decode cX11_bestBlow 0 = .ok (.iconst 0, 1) := by decide +kernel
theorem dX11_bestBlow_1 : decode cX11_bestBlow 1 = .ok (.istore 4, 2) := by decide +kernel
theorem dX11_bestBlow_3 : decode cX11_bestBlow 3 = .ok (.iconst 1, 1) := by decide +kernel
theorem dX11_bestBlow_4 : decode cX11_bestBlow 4 = .ok (.istore 5, 2) := by decide +kernel
theorem dX11_bestBlow_6 : decode cX11_bestBlow 6 = .ok (.iload 5, 2) := by decide +kernel
theorem dX11_bestBlow_8 : decode cX11_bestBlow 8 = .ok (.bipush 20, 2) := by decide +kernel
theorem dX11_bestBlow_10 : decode cX11_bestBlow 10 = .ok (.if_icmp .gt 43, 3) := by decide +kernel
theorem dX11_bestBlow_13 : decode cX11_bestBlow 13 = .ok (.iload 5, 2) := by decide +kernel
theorem dX11_bestBlow_15 : decode cX11_bestBlow 15 = .ok (.aload_n 0, 1) := by decide +kernel
theorem dX11_bestBlow_16 : decode cX11_bestBlow 16 = .ok (.getfield 288, 3) := by decide +kernel
theorem dX11_bestBlow_19 : decode cX11_bestBlow 19 = .ok (.if_icmp .gt 34, 3) := by decide +kernel
theorem dX11_bestBlow_22 : decode cX11_bestBlow 22 = .ok (.iload 5, 2) := by decide +kernel
theorem dX11_bestBlow_24 : decode cX11_bestBlow 24 = .ok (.aload_n 0, 1) := by decide +kernel
theorem dX11_bestBlow_25 : decode cX11_bestBlow 25 = .ok (.aload_n 1, 1) := by decide +kernel
theorem dX11_bestBlow_26 : decode cX11_bestBlow 26 = .ok (.iload_n 2, 1) := by decide +kernel
theorem dX11_bestBlow_27 : decode cX11_bestBlow 27 = .ok (.iload_n 3, 1) := by decide +kernel
theorem dX11_bestBlow_28 : decode cX11_bestBlow 28 = .ok (.invokestatic 189, 3) := by decide +kernel
theorem dX11_bestBlow_31 : decode cX11_bestBlow 31 = .ok (.iload 4, 2) := by decide +kernel
theorem dX11_bestBlow_33 : decode cX11_bestBlow 33 = .ok (.aload_n 0, 1) := by decide +kernel
theorem dX11_bestBlow_34 : decode cX11_bestBlow 34 = .ok (.aload_n 1, 1) := by decide +kernel
theorem dX11_bestBlow_35 : decode cX11_bestBlow 35 = .ok (.iload_n 2, 1) := by decide +kernel
theorem dX11_bestBlow_36 : decode cX11_bestBlow 36 = .ok (.iload_n 3, 1) := by decide +kernel
theorem dX11_bestBlow_37 : decode cX11_bestBlow 37 = .ok (.invokestatic 189, 3) := by decide +kernel
theorem dX11_bestBlow_40 : decode cX11_bestBlow 40 = .ok (.if_icmp .le 7, 3) := by decide +kernel
theorem dX11_bestBlow_43 : decode cX11_bestBlow 43 = .ok (.iload 5, 2) := by decide +kernel
theorem dX11_bestBlow_45 : decode cX11_bestBlow 45 = .ok (.istore 4, 2) := by decide +kernel
theorem dX11_bestBlow_47 : decode cX11_bestBlow 47 = .ok (.iinc 5 1, 3) := by decide +kernel
theorem dX11_bestBlow_50 : decode cX11_bestBlow 50 = .ok (.goto (-44), 3) := by decide +kernel
theorem dX11_bestBlow_53 : decode cX11_bestBlow 53 = .ok (.iload 4, 2) := by decide +kernel
theorem dX11_bestBlow_55 : decode cX11_bestBlow 55 = .ok (.ireturn, 1) := by decide +kernel
noncomputable def s_X11_bestBlow_6 (a0 : Nat) (a1 : Nat) (x2 : Int32) (x3 : Int32) (M : Me) (v1 : Int32) (v2 : Int32) : Option ((Int32 × Int32) ⊕ (Int32 × Int32)) :=
  if (20 : Int32) < v2 then (
    some (Sum.inr (v1, v2))
  ) else (
    gi M a0 4 2 fun v3 =>
    if v3 < v2 then (
      some (Sum.inr (v1, v2))
    ) else (
      cP (f_X11_gainOf v2 a0 a1 x2 x3 M) fun v4 =>
      cP (f_X11_gainOf v1 a0 a1 x2 x3 M) fun v5 =>
      (
        if v4 ≤ v5 then (
          some v1
        ) else (
          some v2
        )
      ).bind fun v6 =>
      let_v (v2 + (1 : Int32)) fun v7 =>
      some (Sum.inl (v6, v7))
    )
  )
noncomputable def b_X11_bestBlow (a0 : Nat) (a1 : Nat) (x2 : Int32) (x3 : Int32) (M : Me) : Option (Int32) :=
  (lp (fun s => s_X11_bestBlow_6 a0 a1 x2 x3 M s.1 s.2) ((0 : Int32), (1 : Int32))).bind fun e8 =>
  some e8.1
noncomputable def f_X11_bestBlow (a0 : Nat) (a1 : Nat) (x2 : Int32) (x3 : Int32) (M : Me) : Option (Int32) := b_X11_bestBlow a0 a1 x2 x3 M
set_option maxRecDepth 20000 in
theorem vb_X11_bestBlow (d : Nat) (hd : 2 ≤ d) (a0 : Nat) (a1 : Nat) (x2 : Int32) (x3 : Int32) (M : Me) : V (mX11_bestBlow, d, 0, 0) (0, 0) M 0 [some (.ref a0), some (.ref a1), some (.int x2), some (.int x3), none, none] [] (b_X11_bestBlow a0 a1 x2 x3 M) (fun z => some (some (.int z), M)) := by
  unfold b_X11_bestBlow
  refine v_iconst (q := 1) dX11_bestBlow_0 rfl ic_0 ?_
  refine v_istore (q := 3) (loc2 := [some (.ref a0), some (.ref a1), some (.int x2), some (.int x3), some (.int (0 : Int32)), none]) dX11_bestBlow_1 rfl rfl (Nat.le_of_ble_eq_true rfl) rfl ?_
  refine v_iconst (q := 4) dX11_bestBlow_3 rfl ic_1 ?_
  refine v_istore (q := 6) (loc2 := [some (.ref a0), some (.ref a1), some (.int x2), some (.int x3), some (.int (0 : Int32)), some (.int (1 : Int32))]) dX11_bestBlow_4 rfl rfl (Nat.le_of_ble_eq_true rfl) rfl ?_
  refine v_lps (S := Int32 × Int32) 53 (fun s => M) (fun s => [some (.ref a0), some (.ref a1), some (.int x2), some (.int x3), some (.int s.1), some (.int s.2)]) (fun e8 => M) (fun e8 => [some (.ref a0), some (.ref a1), some (.int x2), some (.int x3), some (.int e8.1), some (.int e8.2)]) (fun e8 => ?_) (fun k K hk hx s => ?_)
  · refine v_iload (q := 55) dX11_bestBlow_53 rfl rfl ?_
    exact v_iret rfl dX11_bestBlow_55 ⟨Nat.le_of_ble_eq_true rfl, Nat.le_of_ble_eq_true rfl⟩ rfl
  · obtain ⟨v1, v2⟩ := s
    show V _ _ M 6 [some (.ref a0), some (.ref a1), some (.int x2), some (.int x3), some (.int v1), some (.int v2)] [] (s_X11_bestBlow_6 a0 a1 x2 x3 M v1 v2) _
    unfold s_X11_bestBlow_6
    refine v_iload (q := 8) dX11_bestBlow_6 rfl rfl ?_
    refine v_bipush (q := 10) dX11_bestBlow_8 rfl bp_20 ?_
    refine v_icmp_gt (tgt := 53) (q := 13) dX11_bestBlow_10 rfl rfl ?_ ?_
    · exact v_inr (hx (v1, v2))
    · refine v_iload (q := 15) dX11_bestBlow_13 rfl rfl ?_
      refine v_aload_n (q := 16) dX11_bestBlow_15 rfl rfl rfl ?_
      refine v_getIb (q := 19) dX11_bestBlow_16 rfl fg_X11_288 (fun v3 => ?_)
      refine v_icmp_gt (tgt := 53) (q := 22) dX11_bestBlow_19 rfl rfl ?_ ?_
      · exact v_inr (hx (v1, v2))
      · refine v_iload (q := 24) dX11_bestBlow_22 rfl rfl ?_
        refine v_aload_n (q := 25) dX11_bestBlow_24 rfl rfl rfl ?_
        refine v_aload_n (q := 26) dX11_bestBlow_25 rfl rfl rfl ?_
        refine v_iload_n (q := 27) dX11_bestBlow_26 rfl rfl rfl ?_
        refine v_iload_n (q := 28) dX11_bestBlow_27 rfl rfl rfl ?_
        refine v_cPS5 (q := 31) (ct_X11_gainOf (d - 1) (by omega) _ _ _ _ _ _) dX11_bestBlow_28 rfl cc_X11_189 (by omega) (Nat.le_of_ble_eq_true rfl) ⟨Nat.le_of_ble_eq_true rfl, Nat.le_of_ble_eq_true rfl⟩ (fun v4 => ?_)
        refine v_iload (q := 33) dX11_bestBlow_31 rfl rfl ?_
        refine v_aload_n (q := 34) dX11_bestBlow_33 rfl rfl rfl ?_
        refine v_aload_n (q := 35) dX11_bestBlow_34 rfl rfl rfl ?_
        refine v_iload_n (q := 36) dX11_bestBlow_35 rfl rfl rfl ?_
        refine v_iload_n (q := 37) dX11_bestBlow_36 rfl rfl rfl ?_
        refine v_cPS5 (q := 40) (ct_X11_gainOf (d - 1) (by omega) _ _ _ _ _ _) dX11_bestBlow_37 rfl cc_X11_189 (by omega) (Nat.le_of_ble_eq_true rfl) ⟨Nat.le_of_ble_eq_true rfl, Nat.le_of_ble_eq_true rfl⟩ (fun v5 => ?_)
        refine v_join (γ := Int32) 47 (fun v6 => M) (fun v6 => [some (.ref a0), some (.ref a1), some (.int x2), some (.int x3), some (.int v6), some (.int v2)]) (fun v6 => []) (fun K hK => ?_) (fun v6 => ?_)
        · refine v_icmp_le (tgt := 47) (q := 43) dX11_bestBlow_40 rfl rfl ?_ ?_
          · exact hK v1
          · refine v_iload (q := 45) dX11_bestBlow_43 rfl rfl ?_
            refine v_istore (q := 47) (loc2 := [some (.ref a0), some (.ref a1), some (.int x2), some (.int x3), some (.int v2), some (.int v2)]) dX11_bestBlow_45 rfl rfl (Nat.le_of_ble_eq_true rfl) rfl ?_
            exact hK v2
        · refine v_iincL (q := 50) (x := v2) (cst := (1 : Int32)) (f := fun v7 => [some (.ref a0), some (.ref a1), some (.int x2), some (.int x3), some (.int v6), some (.int v7)]) dX11_bestBlow_47 rfl rfl ic_1 rfl (Nat.le_of_ble_eq_true rfl) (fun _ => rfl) (fun v7 => ?_)
          refine v_goto (tgt := 6) dX11_bestBlow_50 rfl ?_
          exact v_inl (hk (v6, v7))
theorem ct_X11_bestBlow (d : Nat) (hd : 2 ≤ d) (a0 : Nat) (a1 : Nat) (x2 : Int32) (x3 : Int32) (M : Me) (r : Int32) (hf : f_X11_bestBlow a0 a1 x2 x3 M = some r) : Ct yX11_bestBlow mX11_bestBlow d 0 0 [.ref a0, .ref a1, .int x2, .int x3] M (some (.int r), M) := by
  have hb : b_X11_bestBlow a0 a1 x2 x3 M = some r := hf
  exact ct_of (by decide +kernel) rfl rfl (Nat.le_of_ble_eq_true rfl) (vb_X11_bestBlow d hd a0 a1 x2 x3 M) (by rw [hb]; rfl)
theorem dX11_hard_0 : decode cX11_hard 0 = .ok (.aload_n 0, 1) := by decide +kernel
theorem dX11_hard_1 : decode cX11_hard 1 = .ok (.getfield 19, 3) := by decide +kernel
theorem dX11_hard_4 : decode cX11_hard 4 = .ok (.iload_n 1, 1) := by decide +kernel
theorem dX11_hard_5 : decode cX11_hard 5 = .ok (.invokevirtual 97, 3) := by decide +kernel
theorem dX11_hard_8 : decode cX11_hard 8 = .ok (.astore 6, 2) := by decide +kernel
theorem dX11_hard_10 : decode cX11_hard 10 = .ok (.aload_n 0, 1) := by decide +kernel
theorem dX11_hard_11 : decode cX11_hard 11 = .ok (.getfield 19, 3) := by decide +kernel
theorem dX11_hard_14 : decode cX11_hard 14 = .ok (.iload_n 2, 1) := by decide +kernel
theorem dX11_hard_15 : decode cX11_hard 15 = .ok (.invokevirtual 97, 3) := by decide +kernel
theorem dX11_hard_18 : decode cX11_hard 18 = .ok (.astore 7, 2) := by decide +kernel
theorem dX11_hard_20 : decode cX11_hard 20 = .ok (.aload 6, 2) := by decide +kernel
theorem dX11_hard_22 : decode cX11_hard 22 = .ok (.invokevirtual 115, 3) := by decide +kernel
theorem dX11_hard_25 : decode cX11_hard 25 = .ok (.ifCond .eq 16, 3) := by decide +kernel
theorem dX11_hard_28 : decode cX11_hard 28 = .ok (.aload 7, 2) := by decide +kernel
theorem dX11_hard_30 : decode cX11_hard 30 = .ok (.invokevirtual 115, 3) := by decide +kernel
theorem dX11_hard_33 : decode cX11_hard 33 = .ok (.ifCond .eq 8, 3) := by decide +kernel
theorem dX11_hard_36 : decode cX11_hard 36 = .ok (.iload_n 1, 1) := by decide +kernel
theorem dX11_hard_37 : decode cX11_hard 37 = .ok (.iload_n 2, 1) := by decide +kernel
theorem dX11_hard_38 : decode cX11_hard 38 = .ok (.if_icmp .ne 5, 3) := by decide +kernel
theorem dX11_hard_41 : decode cX11_hard 41 = .ok (.iconst (-1), 1) := by decide +kernel
theorem dX11_hard_42 : decode cX11_hard 42 = .ok (.ireturn, 1) := by decide +kernel
theorem dX11_hard_43 : decode cX11_hard 43 = .ok (.iload_n 3, 1) := by decide +kernel
theorem dX11_hard_44 : decode cX11_hard 44 = .ok (.iconst 0, 1) := by decide +kernel
theorem dX11_hard_45 : decode cX11_hard 45 = .ok (.bipush 20, 2) := by decide +kernel
theorem dX11_hard_47 : decode cX11_hard 47 = .ok (.invokestatic 55, 3) := by decide +kernel
theorem dX11_hard_50 : decode cX11_hard 50 = .ok (.ifCond .eq 24, 3) := by decide +kernel
theorem dX11_hard_53 : decode cX11_hard 53 = .ok (.iload 4, 2) := by decide +kernel
theorem dX11_hard_55 : decode cX11_hard 55 = .ok (.iconst 0, 1) := by decide +kernel
theorem dX11_hard_56 : decode cX11_hard 56 = .ok (.bipush 20, 2) := by decide +kernel
theorem dX11_hard_58 : decode cX11_hard 58 = .ok (.invokestatic 55, 3) := by decide +kernel
theorem dX11_hard_61 : decode cX11_hard 61 = .ok (.ifCond .eq 13, 3) := by decide +kernel
theorem dX11_hard_64 : decode cX11_hard 64 = .ok (.iload 5, 2) := by decide +kernel
theorem dX11_hard_66 : decode cX11_hard 66 = .ok (.iconst 0, 1) := by decide +kernel
theorem dX11_hard_67 : decode cX11_hard 67 = .ok (.iconst 1, 1) := by decide +kernel
theorem dX11_hard_68 : decode cX11_hard 68 = .ok (.invokestatic 55, 3) := by decide +kernel
theorem dX11_hard_71 : decode cX11_hard 71 = .ok (.ifCond .ne 6, 3) := by decide +kernel
theorem dX11_hard_74 : decode cX11_hard 74 = .ok (.bipush (-2), 2) := by decide +kernel
theorem dX11_hard_76 : decode cX11_hard 76 = .ok (.ireturn, 1) := by decide +kernel
theorem dX11_hard_77 : decode cX11_hard 77 = .ok (.aload 6, 2) := by decide +kernel
theorem dX11_hard_79 : decode cX11_hard 79 = .ok (.aload 7, 2) := by decide +kernel
theorem dX11_hard_81 : decode cX11_hard 81 = .ok (.iload_n 3, 1) := by decide +kernel
theorem dX11_hard_82 : decode cX11_hard 82 = .ok (.iload 4, 2) := by decide +kernel
theorem dX11_hard_84 : decode cX11_hard 84 = .ok (.invokestatic 185, 3) := by decide +kernel
theorem dX11_hard_87 : decode cX11_hard 87 = .ok (.istore 8, 2) := by decide +kernel
theorem dX11_hard_89 : decode cX11_hard 89 = .ok (.iload 5, 2) := by decide +kernel
theorem dX11_hard_91 : decode cX11_hard 91 = .ok (.ifCond .ne 8, 3) := by decide +kernel
theorem dX11_hard_94 : decode cX11_hard 94 = .ok (.iload 8, 2) := by decide +kernel
theorem dX11_hard_96 : decode cX11_hard 96 = .ok (.goto 19, 3) := by decide +kernel
theorem dX11_hard_99 : decode cX11_hard 99 = .ok (.iload 8, 2) := by decide +kernel
theorem dX11_hard_101 : decode cX11_hard 101 = .ok (.aload 6, 2) := by decide +kernel
theorem dX11_hard_103 : decode cX11_hard 103 = .ok (.aload 7, 2) := by decide +kernel
theorem dX11_hard_105 : decode cX11_hard 105 = .ok (.iload_n 3, 1) := by decide +kernel
theorem dX11_hard_106 : decode cX11_hard 106 = .ok (.iload 4, 2) := by decide +kernel
theorem dX11_hard_108 : decode cX11_hard 108 = .ok (.invokestatic 189, 3) := by decide +kernel
theorem dX11_hard_111 : decode cX11_hard 111 = .ok (.sipush 10000, 3) := by decide +kernel
theorem dX11_hard_114 : decode cX11_hard 114 = .ok (.iadd, 1) := by decide +kernel
theorem dX11_hard_115 : decode cX11_hard 115 = .ok (.ireturn, 1) := by decide +kernel
noncomputable def b_X11_hard (a0 : Nat) (x1 : Int32) (x2 : Int32) (x3 : Int32) (x4 : Int32) (x5 : Int32) (M : Me) : Option (Int32) :=
  gr M a0 11 1 fun o1 =>
  cR (f_X0_knightAt o1 x1 M) fun o2 =>
  gr M a0 11 1 fun o3 =>
  cR (f_X0_knightAt o3 x2 M) fun o4 =>
  cP (f_X4_isAlive o2 M) fun v5 =>
  if v5 = 0 then (
    some (-1 : Int32)
  ) else (
    cP (f_X4_isAlive o4 M) fun v6 =>
    if v6 = 0 then (
      some (-1 : Int32)
    ) else (
      if x1 = x2 then (
        some (-1 : Int32)
      ) else (
        cP (f_X11_isWithin x3 (0 : Int32) (20 : Int32) M) fun v7 =>
        if v7 = 0 then (
          some (-2 : Int32)
        ) else (
          cP (f_X11_isWithin x4 (0 : Int32) (20 : Int32) M) fun v8 =>
          if v8 = 0 then (
            some (-2 : Int32)
          ) else (
            cP (f_X11_isWithin x5 (0 : Int32) (1 : Int32) M) fun v9 =>
            if v9 = 0 then (
              some (-2 : Int32)
            ) else (
              cP (f_X11_bestBlow o2 o4 x3 x4 M) fun v10 =>
              (
                if x5 = 0 then (
                  some v10
                ) else (
                  cP (f_X11_gainOf v10 o2 o4 x3 x4 M) fun v11 =>
                  some (v11 + (10000 : Int32))
                )
              ).bind fun v12 =>
              some v12
            )
          )
        )
      )
    )
  )
noncomputable def f_X11_hard (a0 : Nat) (x1 : Int32) (x2 : Int32) (x3 : Int32) (x4 : Int32) (x5 : Int32) (M : Me) : Option (Int32) := ck M a0 11 (b_X11_hard a0 x1 x2 x3 x4 x5 M)
set_option maxRecDepth 20000 in
theorem vb_X11_hard (d : Nat) (hd : 3 ≤ d) (a0 : Nat) (x1 : Int32) (x2 : Int32) (x3 : Int32) (x4 : Int32) (x5 : Int32) (M : Me) : V (mX11_hard, d, 0, 0) (0, 0) M 0 [some (.ref a0), some (.int x1), some (.int x2), some (.int x3), some (.int x4), some (.int x5), none, none, none] [] (b_X11_hard a0 x1 x2 x3 x4 x5 M) (fun z => some (some (.int z), M)) := by
  unfold b_X11_hard
  refine v_aload_n (q := 1) dX11_hard_0 rfl rfl rfl ?_
  refine v_getRb (q := 4) dX11_hard_1 rfl fg_X11_19 (fun o1 => ?_)
  refine v_iload_n (q := 5) dX11_hard_4 rfl rfl rfl ?_
  refine v_cRV1 (q := 8) (ct_X0_knightAt (d - 1) (by omega) _ _ _) dX11_hard_5 rfl cc_X11_97 (by omega) (Nat.le_of_ble_eq_true rfl) ⟨Nat.le_of_ble_eq_true rfl, Nat.le_of_ble_eq_true rfl⟩ (fun o2 => ?_)
  refine v_astore (q := 10) (loc2 := [some (.ref a0), some (.int x1), some (.int x2), some (.int x3), some (.int x4), some (.int x5), some (.ref o2), none, none]) dX11_hard_8 rfl rfl (Nat.le_of_ble_eq_true rfl) rfl ?_
  refine v_aload_n (q := 11) dX11_hard_10 rfl rfl rfl ?_
  refine v_getRb (q := 14) dX11_hard_11 rfl fg_X11_19 (fun o3 => ?_)
  refine v_iload_n (q := 15) dX11_hard_14 rfl rfl rfl ?_
  refine v_cRV1 (q := 18) (ct_X0_knightAt (d - 1) (by omega) _ _ _) dX11_hard_15 rfl cc_X11_97 (by omega) (Nat.le_of_ble_eq_true rfl) ⟨Nat.le_of_ble_eq_true rfl, Nat.le_of_ble_eq_true rfl⟩ (fun o4 => ?_)
  refine v_astore (q := 20) (loc2 := [some (.ref a0), some (.int x1), some (.int x2), some (.int x3), some (.int x4), some (.int x5), some (.ref o2), some (.ref o4), none]) dX11_hard_18 rfl rfl (Nat.le_of_ble_eq_true rfl) rfl ?_
  refine v_aload (q := 22) dX11_hard_20 rfl rfl ?_
  refine v_cPV0 (q := 25) (ct_X4_isAlive (d - 1) (by omega) _ _) dX11_hard_22 rfl cc_X11_115 (by omega) (Nat.le_of_ble_eq_true rfl) ⟨Nat.le_of_ble_eq_true rfl, Nat.le_of_ble_eq_true rfl⟩ (fun v5 => ?_)
  refine v_if_eq (tgt := 41) (q := 28) dX11_hard_25 rfl rfl ?_ ?_
  · refine v_iconst (q := 42) dX11_hard_41 rfl ic_m1 ?_
    exact v_iret rfl dX11_hard_42 ⟨Nat.le_of_ble_eq_true rfl, Nat.le_of_ble_eq_true rfl⟩ rfl
  · refine v_aload (q := 30) dX11_hard_28 rfl rfl ?_
    refine v_cPV0 (q := 33) (ct_X4_isAlive (d - 1) (by omega) _ _) dX11_hard_30 rfl cc_X11_115 (by omega) (Nat.le_of_ble_eq_true rfl) ⟨Nat.le_of_ble_eq_true rfl, Nat.le_of_ble_eq_true rfl⟩ (fun v6 => ?_)
    refine v_if_eq (tgt := 41) (q := 36) dX11_hard_33 rfl rfl ?_ ?_
    · refine v_iconst (q := 42) dX11_hard_41 rfl ic_m1 ?_
      exact v_iret rfl dX11_hard_42 ⟨Nat.le_of_ble_eq_true rfl, Nat.le_of_ble_eq_true rfl⟩ rfl
    · refine v_iload_n (q := 37) dX11_hard_36 rfl rfl rfl ?_
      refine v_iload_n (q := 38) dX11_hard_37 rfl rfl rfl ?_
      refine v_icmp_ne (tgt := 43) (q := 41) dX11_hard_38 rfl rfl ?_ ?_
      · refine v_iload_n (q := 44) dX11_hard_43 rfl rfl rfl ?_
        refine v_iconst (q := 45) dX11_hard_44 rfl ic_0 ?_
        refine v_bipush (q := 47) dX11_hard_45 rfl bp_20 ?_
        refine v_cPS3 (q := 50) (ct_X11_isWithin (d - 1) (by omega) _ _ _ _) dX11_hard_47 rfl cc_X11_55 (by omega) (Nat.le_of_ble_eq_true rfl) ⟨Nat.le_of_ble_eq_true rfl, Nat.le_of_ble_eq_true rfl⟩ (fun v7 => ?_)
        refine v_if_eq (tgt := 74) (q := 53) dX11_hard_50 rfl rfl ?_ ?_
        · refine v_bipush (q := 76) dX11_hard_74 rfl bp_m2 ?_
          exact v_iret rfl dX11_hard_76 ⟨Nat.le_of_ble_eq_true rfl, Nat.le_of_ble_eq_true rfl⟩ rfl
        · refine v_iload (q := 55) dX11_hard_53 rfl rfl ?_
          refine v_iconst (q := 56) dX11_hard_55 rfl ic_0 ?_
          refine v_bipush (q := 58) dX11_hard_56 rfl bp_20 ?_
          refine v_cPS3 (q := 61) (ct_X11_isWithin (d - 1) (by omega) _ _ _ _) dX11_hard_58 rfl cc_X11_55 (by omega) (Nat.le_of_ble_eq_true rfl) ⟨Nat.le_of_ble_eq_true rfl, Nat.le_of_ble_eq_true rfl⟩ (fun v8 => ?_)
          refine v_if_eq (tgt := 74) (q := 64) dX11_hard_61 rfl rfl ?_ ?_
          · refine v_bipush (q := 76) dX11_hard_74 rfl bp_m2 ?_
            exact v_iret rfl dX11_hard_76 ⟨Nat.le_of_ble_eq_true rfl, Nat.le_of_ble_eq_true rfl⟩ rfl
          · refine v_iload (q := 66) dX11_hard_64 rfl rfl ?_
            refine v_iconst (q := 67) dX11_hard_66 rfl ic_0 ?_
            refine v_iconst (q := 68) dX11_hard_67 rfl ic_1 ?_
            refine v_cPS3 (q := 71) (ct_X11_isWithin (d - 1) (by omega) _ _ _ _) dX11_hard_68 rfl cc_X11_55 (by omega) (Nat.le_of_ble_eq_true rfl) ⟨Nat.le_of_ble_eq_true rfl, Nat.le_of_ble_eq_true rfl⟩ (fun v9 => ?_)
            refine v_if_ne (tgt := 77) (q := 74) dX11_hard_71 rfl rfl ?_ ?_
            · refine v_aload (q := 79) dX11_hard_77 rfl rfl ?_
              refine v_aload (q := 81) dX11_hard_79 rfl rfl ?_
              refine v_iload_n (q := 82) dX11_hard_81 rfl rfl rfl ?_
              refine v_iload (q := 84) dX11_hard_82 rfl rfl ?_
              refine v_cPS4 (q := 87) (ct_X11_bestBlow (d - 1) (by omega) _ _ _ _ _) dX11_hard_84 rfl cc_X11_185 (by omega) (Nat.le_of_ble_eq_true rfl) ⟨Nat.le_of_ble_eq_true rfl, Nat.le_of_ble_eq_true rfl⟩ (fun v10 => ?_)
              refine v_istore (q := 89) (loc2 := [some (.ref a0), some (.int x1), some (.int x2), some (.int x3), some (.int x4), some (.int x5), some (.ref o2), some (.ref o4), some (.int v10)]) dX11_hard_87 rfl rfl (Nat.le_of_ble_eq_true rfl) rfl ?_
              refine v_iload (q := 91) dX11_hard_89 rfl rfl ?_
              refine v_join (γ := Int32) 115 (fun v12 => M) (fun v12 => [some (.ref a0), some (.int x1), some (.int x2), some (.int x3), some (.int x4), some (.int x5), some (.ref o2), some (.ref o4), some (.int v10)]) (fun v12 => [.int v12]) (fun K hK => ?_) (fun v12 => ?_)
              · refine v_if_ne (tgt := 99) (q := 94) dX11_hard_91 rfl rfl ?_ ?_
                · refine v_iload (q := 101) dX11_hard_99 rfl rfl ?_
                  refine v_aload (q := 103) dX11_hard_101 rfl rfl ?_
                  refine v_aload (q := 105) dX11_hard_103 rfl rfl ?_
                  refine v_iload_n (q := 106) dX11_hard_105 rfl rfl rfl ?_
                  refine v_iload (q := 108) dX11_hard_106 rfl rfl ?_
                  refine v_cPS5 (q := 111) (ct_X11_gainOf (d - 1) (by omega) _ _ _ _ _ _) dX11_hard_108 rfl cc_X11_189 (by omega) (Nat.le_of_ble_eq_true rfl) ⟨Nat.le_of_ble_eq_true rfl, Nat.le_of_ble_eq_true rfl⟩ (fun v11 => ?_)
                  refine v_sipush (q := 114) dX11_hard_111 rfl sp_10000 ?_
                  refine v_iadd (q := 115) dX11_hard_114 rfl ?_
                  exact hK (v11 + (10000 : Int32))
                · refine v_iload (q := 96) dX11_hard_94 rfl rfl ?_
                  refine v_goto (tgt := 115) dX11_hard_96 rfl ?_
                  exact hK v10
              · exact v_iret rfl dX11_hard_115 ⟨Nat.le_of_ble_eq_true rfl, Nat.le_of_ble_eq_true rfl⟩ rfl
            · refine v_bipush (q := 76) dX11_hard_74 rfl bp_m2 ?_
              exact v_iret rfl dX11_hard_76 ⟨Nat.le_of_ble_eq_true rfl, Nat.le_of_ble_eq_true rfl⟩ rfl
      · refine v_iconst (q := 42) dX11_hard_41 rfl ic_m1 ?_
        exact v_iret rfl dX11_hard_42 ⟨Nat.le_of_ble_eq_true rfl, Nat.le_of_ble_eq_true rfl⟩ rfl
theorem ct_X11_hard (d : Nat) (hd : 3 ≤ d) (a0 : Nat) (x1 : Int32) (x2 : Int32) (x3 : Int32) (x4 : Int32) (x5 : Int32) (M : Me) (r : Int32) (hf : f_X11_hard a0 x1 x2 x3 x4 x5 M = some r) : me_k M a0 = some (11, nf_c 11) ∧ Ct yX11_hard mX11_hard d 0 0 [.ref a0, .int x1, .int x2, .int x3, .int x4, .int x5] M (some (.int r), M) := by
  obtain ⟨hk, hb⟩ := ck_some hf
  exact ⟨hk, ct_of (by decide +kernel) rfl rfl (Nat.le_of_ble_eq_true rfl) (vb_X11_hard d hd a0 x1 x2 x3 x4 x5 M) (by rw [hb]; rfl)⟩

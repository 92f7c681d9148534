theorem dX3_setOff_0 : decode cX3_setOff 0 = .ok (.aload_n 1, 1) := by decide +kernel
theorem dX3_setOff_1 : decode cX3_setOff 1 = .ok (.iload_n 2, 1) := by decide +kernel
theorem dX3_setOff_2 : decode cX3_setOff 2 = .ok (.invokevirtual 62, 3) := by decide +kernel
theorem dX3_setOff_5 : decode cX3_setOff 5 = .ok (.astore_n 3, 1) := by decide +kernel
theorem dX3_setOff_6 : decode cX3_setOff 6 = .ok (.aload_n 1, 1) := by decide +kernel
theorem dX3_setOff_7 : decode cX3_setOff 7 = .ok (.getfield 66, 3) := by decide +kernel
theorem dX3_setOff_10 : decode cX3_setOff 10 = .ok (.aload_n 3, 1) := by decide +kernel
theorem dX3_setOff_11 : decode cX3_setOff 11 = .ok (.getfield 70, 3) := by decide +kernel
theorem dX3_setOff_14 : decode cX3_setOff 14 = .ok (.aload_n 1, 1) := by decide +kernel
theorem dX3_setOff_15 : decode cX3_setOff 15 = .ok (.getfield 75, 3) := by decide +kernel
theorem dX3_setOff_18 : decode cX3_setOff 18 = .ok (.aload_n 3, 1) := by decide +kernel
theorem dX3_setOff_19 : decode cX3_setOff 19 = .ok (.getfield 78, 3) := by decide +kernel
theorem dX3_setOff_22 : decode cX3_setOff 22 = .ok (.iadd, 1) := by decide +kernel
theorem dX3_setOff_23 : decode cX3_setOff 23 = .ok (.aload_n 0, 1) := by decide +kernel
theorem dX3_setOff_24 : decode cX3_setOff 24 = .ok (.getfield 9, 3) := by decide +kernel
theorem dX3_setOff_27 : decode cX3_setOff 27 = .ok (.invokevirtual 81, 3) := by decide +kernel
theorem dX3_setOff_30 : decode cX3_setOff 30 = .ok (.return_, 1) := by decide +kernel
noncomputable def b_X3_setOff (a0 : Nat) (a1 : Nat) (x2 : Int32) (M : Me) : Option (Me) :=
  cR (f_X0_knightAt a1 x2 M) fun o1 =>
  gr M a1 0 0 fun o2 =>
  gi M o1 4 5 fun v3 =>
  gi M a1 0 5 fun v4 =>
  gi M o1 4 6 fun v5 =>
  gr M a0 3 0 fun o6 =>
  cM (f_X5_fillFirstDays o2 v3 (v4 + v5) o6 M) fun M7 =>
  some M7
noncomputable def f_X3_setOff (a0 : Nat) (a1 : Nat) (x2 : Int32) (M : Me) : Option (Me) := ck M a0 3 (b_X3_setOff a0 a1 x2 M)
set_option maxRecDepth 20000 in
theorem vb_X3_setOff (d : Nat) (hd : 3 ≤ d) (a0 : Nat) (a1 : Nat) (x2 : Int32) (M : Me) : V (mX3_setOff, d, 0, 0) (0, 0) M 0 [some (.ref a0), some (.ref a1), some (.int x2), none] [] (b_X3_setOff a0 a1 x2 M) (fun M2 => some (none, M2)) := by
  unfold b_X3_setOff
  refine v_aload_n (q := 1) dX3_setOff_0 rfl rfl rfl ?_
  refine v_iload_n (q := 2) dX3_setOff_1 rfl rfl rfl ?_
  refine v_cRV1 (q := 5) (ct_X0_knightAt (d - 1) (by omega) _ _ _) dX3_setOff_2 rfl cc_X3_62 (by omega) (Nat.le_of_ble_eq_true rfl) ⟨Nat.le_of_ble_eq_true rfl, Nat.le_of_ble_eq_true rfl⟩ (fun o1 => ?_)
  refine v_astore_n (q := 6) (loc2 := [some (.ref a0), some (.ref a1), some (.int x2), some (.ref o1)]) dX3_setOff_5 rfl rfl rfl (Nat.le_of_ble_eq_true rfl) rfl ?_
  refine v_aload_n (q := 7) dX3_setOff_6 rfl rfl rfl ?_
  refine v_getRb (q := 10) dX3_setOff_7 rfl fg_X3_66 (fun o2 => ?_)
  refine v_aload_n (q := 11) dX3_setOff_10 rfl rfl rfl ?_
  refine v_getIb (q := 14) dX3_setOff_11 rfl fg_X3_70 (fun v3 => ?_)
  refine v_aload_n (q := 15) dX3_setOff_14 rfl rfl rfl ?_
  refine v_getIb (q := 18) dX3_setOff_15 rfl fg_X3_75 (fun v4 => ?_)
  refine v_aload_n (q := 19) dX3_setOff_18 rfl rfl rfl ?_
  refine v_getIb (q := 22) dX3_setOff_19 rfl fg_X3_78 (fun v5 => ?_)
  refine v_iadd (q := 23) dX3_setOff_22 rfl ?_
  refine v_aload_n (q := 24) dX3_setOff_23 rfl rfl rfl ?_
  refine v_getRb (q := 27) dX3_setOff_24 rfl fg_X3_9 (fun o6 => ?_)
  refine v_cMV3 (q := 30) (ct_X5_fillFirstDays (d - 1) (by omega) _ _ _ _ _) dX3_setOff_27 rfl cc_X3_81 (by omega) (Nat.le_of_ble_eq_true rfl) ⟨Nat.le_of_ble_eq_true rfl, Nat.le_of_ble_eq_true rfl⟩ (fun M7 => ?_)
  exact v_vret rfl dX3_setOff_30 ⟨Nat.le_of_ble_eq_true rfl, Nat.le_of_ble_eq_true rfl⟩ rfl
theorem ct_X3_setOff (d : Nat) (hd : 3 ≤ d) (a0 : Nat) (a1 : Nat) (x2 : Int32) (M : Me) (r : Me) (hf : f_X3_setOff a0 a1 x2 M = some r) : me_k M a0 = some (3, nf_c 3) ∧ Ct yX3_setOff mX3_setOff d 0 0 [.ref a0, .ref a1, .int x2] M (none, r) := by
  obtain ⟨hk, hb⟩ := ck_some hf
  exact ⟨hk, ct_of (by decide +kernel) rfl rfl (Nat.le_of_ble_eq_true rfl) (vb_X3_setOff d hd a0 a1 x2 M) (by rw [hb]; rfl)⟩
theorem dX3_dayAt_0 : decode cX3_dayAt 0 = .ok (.iload_n 1, 1) := by decide +kernel
theorem dX3_dayAt_1 : decode cX3_dayAt 1 = .ok (.ifCond .lt 15, 3) := by decide +kernel
theorem dX3_dayAt_4 : decode cX3_dayAt 4 = .ok (.iload_n 1, 1) := by decide +kernel
theorem dX3_dayAt_5 : decode cX3_dayAt 5 = .ok (.aload_n 0, 1) := by decide +kernel
theorem dX3_dayAt_6 : decode cX3_dayAt 6 = .ok (.arraylength, 1) := by decide +kernel
theorem dX3_dayAt_7 : decode cX3_dayAt 7 = .ok (.if_icmp .ge 9, 3) := by decide +kernel
theorem dX3_dayAt_10 : decode cX3_dayAt 10 = .ok (.aload_n 0, 1) := by decide +kernel
theorem dX3_dayAt_11 : decode cX3_dayAt 11 = .ok (.iload_n 1, 1) := by decide +kernel
theorem dX3_dayAt_12 : decode cX3_dayAt 12 = .ok (.iaload, 1) := by decide +kernel
theorem dX3_dayAt_13 : decode cX3_dayAt 13 = .ok (.goto 5, 3) := by decide +kernel
theorem dX3_dayAt_16 : decode cX3_dayAt 16 = .ok (.ldc 107, 2) := by decide +kernel
theorem dX3_dayAt_18 : decode cX3_dayAt 18 = .ok (.ireturn, 1) := by decide +kernel
noncomputable def b_X3_dayAt (a0 : Nat) (x1 : Int32) (M : Me) : Option (Int32) :=
  (
    if x1 < 0 then (
      some (1000000000 : Int32)
    ) else (
      al M a0 20 fun v1 =>
      if v1 ≤ x1 then (
        some (1000000000 : Int32)
      ) else (
        li M a0 x1 fun v2 =>
        some v2
      )
    )
  ).bind fun v3 =>
  some v3
noncomputable def f_X3_dayAt (a0 : Nat) (x1 : Int32) (M : Me) : Option (Int32) := b_X3_dayAt a0 x1 M
set_option maxRecDepth 20000 in
theorem vb_X3_dayAt (d : Nat) (hd : 0 ≤ d) (a0 : Nat) (x1 : Int32) (M : Me) : V (mX3_dayAt, d, 0, 0) (0, 0) M 0 [some (.ref a0), some (.int x1)] [] (b_X3_dayAt a0 x1 M) (fun z => some (some (.int z), M)) := by
  unfold b_X3_dayAt
  refine v_iload_n (q := 1) dX3_dayAt_0 rfl rfl rfl ?_
  refine v_join (γ := Int32) 18 (fun v3 => M) (fun v3 => [some (.ref a0), some (.int x1)]) (fun v3 => [.int v3]) (fun K hK => ?_) (fun v3 => ?_)
  · refine v_if_lt (tgt := 16) (q := 4) dX3_dayAt_1 rfl rfl ?_ ?_
    · refine v_ldc (q := 18) (v := (1000000000 : Int32)) kc_X3_107 dX3_dayAt_16 rfl ?_
      exact hK (1000000000 : Int32)
    · refine v_iload_n (q := 5) dX3_dayAt_4 rfl rfl rfl ?_
      refine v_aload_n (q := 6) dX3_dayAt_5 rfl rfl rfl ?_
      refine v_alen (q := 7) (t0 := 0) dX3_dayAt_6 rfl (Nat.le_of_ble_eq_true rfl) (fun _ => rfl) (fun v1 => ?_)
      refine v_icmp_ge (tgt := 16) (q := 10) dX3_dayAt_7 rfl rfl ?_ ?_
      · refine v_ldc (q := 18) (v := (1000000000 : Int32)) kc_X3_107 dX3_dayAt_16 rfl ?_
        exact hK (1000000000 : Int32)
      · refine v_aload_n (q := 11) dX3_dayAt_10 rfl rfl rfl ?_
        refine v_iload_n (q := 12) dX3_dayAt_11 rfl rfl rfl ?_
        refine v_iaload (q := 13) dX3_dayAt_12 rfl (fun v2 => ?_)
        refine v_goto (tgt := 18) dX3_dayAt_13 rfl ?_
        exact hK v2
  · exact v_iret rfl dX3_dayAt_18 ⟨Nat.le_of_ble_eq_true rfl, Nat.le_of_ble_eq_true rfl⟩ rfl
theorem ct_X3_dayAt (d : Nat) (hd : 0 ≤ d) (a0 : Nat) (x1 : Int32) (M : Me) (r : Int32) (hf : f_X3_dayAt a0 x1 M = some r) : Ct yX3_dayAt mX3_dayAt d 0 0 [.ref a0, .int x1] M (some (.int r), M) := by
  have hb : b_X3_dayAt a0 x1 M = some r := hf
  exact ct_of (by decide +kernel) rfl rfl (Nat.le_of_ble_eq_true rfl) (vb_X3_dayAt d hd a0 x1 M) (by rw [hb]; rfl)
theorem dX3_firstDay_0 : decode cX3_firstDay 0 = .ok (.aload_n 0, 1) := by decide +kernel
theorem dX3_firstDay_1 : decode cX3_firstDay 1 = .ok (.aload_n 1, 1) := by decide +kernel
theorem dX3_firstDay_2 : decode cX3_firstDay 2 = .ok (.iload_n 2, 1) := by decide +kernel
theorem dX3_firstDay_3 : decode cX3_firstDay 3 = .ok (.invokevirtual 21, 3) := by decide +kernel
theorem dX3_firstDay_6 : decode cX3_firstDay 6 = .ok (.aload_n 0, 1) := by decide +kernel
theorem dX3_firstDay_7 : decode cX3_firstDay 7 = .ok (.getfield 9, 3) := by decide +kernel
theorem dX3_firstDay_10 : decode cX3_firstDay 10 = .ok (.iload_n 3, 1) := by decide +kernel
theorem dX3_firstDay_11 : decode cX3_firstDay 11 = .ok (.invokestatic 25, 3) := by decide +kernel
theorem dX3_firstDay_14 : decode cX3_firstDay 14 = .ok (.ireturn, 1) := by decide +kernel
noncomputable def b_X3_firstDay (a0 : Nat) (a1 : Nat) (x2 : Int32) (x3 : Int32) (M : Me) : Option (Int32 × Me) :=
  cM (f_X3_setOff a0 a1 x2 M) fun M1 =>
  gr M1 a0 3 0 fun o2 =>
  cP (f_X3_dayAt o2 x3 M1) fun v3 =>
  some (v3, M1)
noncomputable def f_X3_firstDay (a0 : Nat) (a1 : Nat) (x2 : Int32) (x3 : Int32) (M : Me) : Option (Int32 × Me) := ck M a0 3 (b_X3_firstDay a0 a1 x2 x3 M)
set_option maxRecDepth 20000 in
theorem vb_X3_firstDay (d : Nat) (hd : 4 ≤ d) (a0 : Nat) (a1 : Nat) (x2 : Int32) (x3 : Int32) (M : Me) : V (mX3_firstDay, d, 0, 0) (0, 0) M 0 [some (.ref a0), some (.ref a1), some (.int x2), some (.int x3)] [] (b_X3_firstDay a0 a1 x2 x3 M) (fun z => some (some (.int z.1), z.2)) := by
  unfold b_X3_firstDay
  refine v_aload_n (q := 1) dX3_firstDay_0 rfl rfl rfl ?_
  refine v_aload_n (q := 2) dX3_firstDay_1 rfl rfl rfl ?_
  refine v_iload_n (q := 3) dX3_firstDay_2 rfl rfl rfl ?_
  refine v_cMV2 (q := 6) (ct_X3_setOff (d - 1) (by omega) _ _ _ _) dX3_firstDay_3 rfl cc_X3_21 (by omega) (Nat.le_of_ble_eq_true rfl) ⟨Nat.le_of_ble_eq_true rfl, Nat.le_of_ble_eq_true rfl⟩ (fun M1 => ?_)
  refine v_aload_n (q := 7) dX3_firstDay_6 rfl rfl rfl ?_
  refine v_getRb (q := 10) dX3_firstDay_7 rfl fg_X3_9 (fun o2 => ?_)
  refine v_iload_n (q := 11) dX3_firstDay_10 rfl rfl rfl ?_
  refine v_cPS2 (q := 14) (ct_X3_dayAt (d - 1) (by omega) _ _ _) dX3_firstDay_11 rfl cc_X3_25 (by omega) (Nat.le_of_ble_eq_true rfl) ⟨Nat.le_of_ble_eq_true rfl, Nat.le_of_ble_eq_true rfl⟩ (fun v3 => ?_)
  exact v_iret rfl dX3_firstDay_14 ⟨Nat.le_of_ble_eq_true rfl, Nat.le_of_ble_eq_true rfl⟩ rfl
theorem ct_X3_firstDay (d : Nat) (hd : 4 ≤ d) (a0 : Nat) (a1 : Nat) (x2 : Int32) (x3 : Int32) (M : Me) (r : Int32) (M2 : Me) (hf : f_X3_firstDay a0 a1 x2 x3 M = some (r, M2)) : me_k M a0 = some (3, nf_c 3) ∧ Ct yX3_firstDay mX3_firstDay d 0 0 [.ref a0, .ref a1, .int x2, .int x3] M (some (.int r), M2) := by
  obtain ⟨hk, hb⟩ := ck_some hf
  exact ⟨hk, ct_of (by decide +kernel) rfl rfl (Nat.le_of_ble_eq_true rfl) (vb_X3_firstDay d hd a0 a1 x2 x3 M) (by rw [hb]; rfl)⟩
theorem dX3_isMet_0 : decode cX3_isMet 0 = .ok (.aload_n 0, 1) := by decide +kernel
theorem dX3_isMet_1 : decode cX3_isMet 1 = .ok (.getfield 29, 3) := by decide +kernel
theorem dX3_isMet_4 : decode cX3_isMet 4 = .ok (.iload_n 2, 1) := by decide +kernel
theorem dX3_isMet_5 : decode cX3_isMet 5 = .ok (.invokevirtual 87, 3) := by decide +kernel
theorem dX3_isMet_8 : decode cX3_isMet 8 = .ok (.ifCond .ne 5, 3) := by decide +kernel
theorem dX3_isMet_11 : decode cX3_isMet 11 = .ok (.iconst 0, 1) := by decide +kernel
theorem dX3_isMet_12 : decode cX3_isMet 12 = .ok (.ireturn, 1) := by decide +kernel
theorem dX3_isMet_13 : decode cX3_isMet 13 = .ok (.aload_n 0, 1) := by decide +kernel
theorem dX3_isMet_14 : decode cX3_isMet 14 = .ok (.getfield 29, 3) := by decide +kernel
theorem dX3_isMet_17 : decode cX3_isMet 17 = .ok (.getfield 91, 3) := by decide +kernel
theorem dX3_isMet_20 : decode cX3_isMet 20 = .ok (.iload_n 2, 1) := by decide +kernel
theorem dX3_isMet_21 : decode cX3_isMet 21 = .ok (.aaload, 1) := by decide +kernel
theorem dX3_isMet_22 : decode cX3_isMet 22 = .ok (.astore 4, 2) := by decide +kernel
theorem dX3_isMet_24 : decode cX3_isMet 24 = .ok (.aload 4, 2) := by decide +kernel
theorem dX3_isMet_26 : decode cX3_isMet 26 = .ok (.getfield 104, 3) := by decide +kernel
theorem dX3_isMet_29 : decode cX3_isMet 29 = .ok (.iload_n 1, 1) := by decide +kernel
theorem dX3_isMet_30 : decode cX3_isMet 30 = .ok (.if_icmp .ne 31, 3) := by decide +kernel
theorem dX3_isMet_33 : decode cX3_isMet 33 = .ok (.aload_n 3, 1) := by decide +kernel
theorem dX3_isMet_34 : decode cX3_isMet 34 = .ok (.aload_n 0, 1) := by decide +kernel
theorem dX3_isMet_35 : decode cX3_isMet 35 = .ok (.aload 4, 2) := by decide +kernel
theorem dX3_isMet_37 : decode cX3_isMet 37 = .ok (.getfield 95, 3) := by decide +kernel
theorem dX3_isMet_40 : decode cX3_isMet 40 = .ok (.invokevirtual 62, 3) := by decide +kernel
theorem dX3_isMet_43 : decode cX3_isMet 43 = .ok (.getfield 100, 3) := by decide +kernel
theorem dX3_isMet_46 : decode cX3_isMet 46 = .ok (.invokestatic 25, 3) := by decide +kernel
theorem dX3_isMet_49 : decode cX3_isMet 49 = .ok (.aload 4, 2) := by decide +kernel
theorem dX3_isMet_51 : decode cX3_isMet 51 = .ok (.getfield 103, 3) := by decide +kernel
theorem dX3_isMet_54 : decode cX3_isMet 54 = .ok (.if_icmp .gt 7, 3) := by decide +kernel
theorem dX3_isMet_57 : decode cX3_isMet 57 = .ok (.iconst 1, 1) := by decide +kernel
theorem dX3_isMet_58 : decode cX3_isMet 58 = .ok (.goto 4, 3) := by decide +kernel
theorem dX3_isMet_61 : decode cX3_isMet 61 = .ok (.iconst 0, 1) := by decide +kernel
theorem dX3_isMet_62 : decode cX3_isMet 62 = .ok (.ireturn, 1) := by decide +kernel
noncomputable def b_X3_isMet (a0 : Nat) (x1 : Int32) (x2 : Int32) (a3 : Nat) (M : Me) : Option (Int32) :=
  gr M a0 0 2 fun o1 =>
  cP (f_X2_has o1 x2 M) fun v2 =>
  if v2 = 0 then (
    some (0 : Int32)
  ) else (
    gr M a0 0 2 fun o3 =>
    gr M o3 2 1 fun o4 =>
    lr M o4 23 x2 fun o5 =>
    gi M o5 1 0 fun v6 =>
    (
      if v6 = x1 then (
        gi M o5 1 1 fun v7 =>
        cR (f_X0_knightAt a0 v7 M) fun o8 =>
        gi M o8 4 1 fun v9 =>
        cP (f_X3_dayAt a3 v9 M) fun v10 =>
        gi M o5 1 3 fun v11 =>
        if v11 < v10 then (
          some (0 : Int32)
        ) else (
          some (1 : Int32)
        )
      ) else (
        some (0 : Int32)
      )
    ).bind fun v12 =>
    if v12 = 0 ∨ v12 = 1 then some v12 else none
  )
noncomputable def f_X3_isMet (a0 : Nat) (x1 : Int32) (x2 : Int32) (a3 : Nat) (M : Me) : Option (Int32) := b_X3_isMet a0 x1 x2 a3 M
set_option maxRecDepth 20000 in
theorem vb_X3_isMet (d : Nat) (hd : 1 ≤ d) (a0 : Nat) (x1 : Int32) (x2 : Int32) (a3 : Nat) (M : Me) : V (mX3_isMet, d, 0, 0) (0, 0) M 0 [some (.ref a0), some (.int x1), some (.int x2), some (.ref a3), none] [] (b_X3_isMet a0 x1 x2 a3 M) (fun z => some (some (.int z), M)) := by
  unfold b_X3_isMet
  refine v_aload_n (q := 1) dX3_isMet_0 rfl rfl rfl ?_
  refine v_getRb (q := 4) dX3_isMet_1 rfl fg_X3_29 (fun o1 => ?_)
  refine v_iload_n (q := 5) dX3_isMet_4 rfl rfl rfl ?_
  refine v_cPV1 (q := 8) (ct_X2_has (d - 1) (by omega) _ _ _) dX3_isMet_5 rfl cc_X3_87 (by omega) (Nat.le_of_ble_eq_true rfl) ⟨Nat.le_of_ble_eq_true rfl, Nat.le_of_ble_eq_true rfl⟩ (fun v2 => ?_)
  refine v_if_ne (tgt := 13) (q := 11) dX3_isMet_8 rfl rfl ?_ ?_
  · refine v_aload_n (q := 14) dX3_isMet_13 rfl rfl rfl ?_
    refine v_getRb (q := 17) dX3_isMet_14 rfl fg_X3_29 (fun o3 => ?_)
    refine v_getRb (q := 20) dX3_isMet_17 rfl fg_X3_91 (fun o4 => ?_)
    refine v_iload_n (q := 21) dX3_isMet_20 rfl rfl rfl ?_
    refine v_aaload (q := 22) (t0 := 3) dX3_isMet_21 rfl (Nat.le_of_ble_eq_true rfl) (fun _ => rfl) (fun o5 => ?_)
    refine v_astore (q := 24) (loc2 := [some (.ref a0), some (.int x1), some (.int x2), some (.ref a3), some (.ref o5)]) dX3_isMet_22 rfl rfl (Nat.le_of_ble_eq_true rfl) rfl ?_
    refine v_aload (q := 26) dX3_isMet_24 rfl rfl ?_
    refine v_getIb (q := 29) dX3_isMet_26 rfl fg_X3_104 (fun v6 => ?_)
    refine v_iload_n (q := 30) dX3_isMet_29 rfl rfl rfl ?_
    refine v_join (γ := Int32) 62 (fun v12 => M) (fun v12 => [some (.ref a0), some (.int x1), some (.int x2), some (.ref a3), some (.ref o5)]) (fun v12 => [.int v12]) (fun K hK => ?_) (fun v12 => ?_)
    · refine v_icmp_ne (tgt := 61) (q := 33) dX3_isMet_30 rfl rfl ?_ ?_
      · refine v_iconst (q := 62) dX3_isMet_61 rfl ic_0 ?_
        exact hK (0 : Int32)
      · refine v_aload_n (q := 34) dX3_isMet_33 rfl rfl rfl ?_
        refine v_aload_n (q := 35) dX3_isMet_34 rfl rfl rfl ?_
        refine v_aload (q := 37) dX3_isMet_35 rfl rfl ?_
        refine v_getIb (q := 40) dX3_isMet_37 rfl fg_X3_95 (fun v7 => ?_)
        refine v_cRV1 (q := 43) (ct_X0_knightAt (d - 1) (by omega) _ _ _) dX3_isMet_40 rfl cc_X3_62 (by omega) (Nat.le_of_ble_eq_true rfl) ⟨Nat.le_of_ble_eq_true rfl, Nat.le_of_ble_eq_true rfl⟩ (fun o8 => ?_)
        refine v_getIb (q := 46) dX3_isMet_43 rfl fg_X3_100 (fun v9 => ?_)
        refine v_cPS2 (q := 49) (ct_X3_dayAt (d - 1) (by omega) _ _ _) dX3_isMet_46 rfl cc_X3_25 (by omega) (Nat.le_of_ble_eq_true rfl) ⟨Nat.le_of_ble_eq_true rfl, Nat.le_of_ble_eq_true rfl⟩ (fun v10 => ?_)
        refine v_aload (q := 51) dX3_isMet_49 rfl rfl ?_
        refine v_getIb (q := 54) dX3_isMet_51 rfl fg_X3_103 (fun v11 => ?_)
        refine v_icmp_gt (tgt := 61) (q := 57) dX3_isMet_54 rfl rfl ?_ ?_
        · refine v_iconst (q := 62) dX3_isMet_61 rfl ic_0 ?_
          exact hK (0 : Int32)
        · refine v_iconst (q := 58) dX3_isMet_57 rfl ic_1 ?_
          refine v_goto (tgt := 62) dX3_isMet_58 rfl ?_
          exact hK (1 : Int32)
    · exact v_zretC rfl dX3_isMet_62 ⟨Nat.le_of_ble_eq_true rfl, Nat.le_of_ble_eq_true rfl⟩ rfl
  · refine v_iconst (q := 12) dX3_isMet_11 rfl ic_0 ?_
    exact v_zret rfl dX3_isMet_12 ⟨Nat.le_of_ble_eq_true rfl, Nat.le_of_ble_eq_true rfl⟩ rfl (Or.inl rfl)
theorem ct_X3_isMet (d : Nat) (hd : 1 ≤ d) (a0 : Nat) (x1 : Int32) (x2 : Int32) (a3 : Nat) (M : Me) (r : Int32) (hf : f_X3_isMet a0 x1 x2 a3 M = some r) : Ct yX3_isMet mX3_isMet d 0 0 [.ref a0, .int x1, .int x2, .ref a3] M (some (.int r), M) := by
  have hb : b_X3_isMet a0 x1 x2 a3 M = some r := hf
  exact ct_of (by decide +kernel) rfl rfl (Nat.le_of_ble_eq_true rfl) (vb_X3_isMet d hd a0 x1 x2 a3 M) (by rw [hb]; rfl)
theorem dX3_metAlone_0 : decode cX3_metAlone 0 = .ok (.aload_n 0, 1) := by decide +kernel
theorem dX3_metAlone_1 : decode cX3_metAlone 1 = .ok (.aload_n 1, 1) := by decide +kernel
theorem dX3_metAlone_2 : decode cX3_metAlone 2 = .ok (.iload_n 2, 1) := by decide +kernel
theorem dX3_metAlone_3 : decode cX3_metAlone 3 = .ok (.invokevirtual 21, 3) := by decide +kernel
theorem dX3_metAlone_6 : decode cX3_metAlone 6 = .ok (.iconst 0, 1) := by decide +kernel
theorem dX3_metAlone_7 : decode cX3_metAlone 7 = .ok (.istore_n 3, 1) := by decide +kernel
theorem dX3_metAlone_8 : decode cX3_metAlone 8 = .ok (.iconst 0, 1) := by decide +kernel
theorem dX3_metAlone_9 : decode cX3_metAlone 9 = .ok (.istore 4, 2) := by decide +kernel
theorem dX3_metAlone_11 : decode cX3_metAlone 11 = .ok (.iload 4, 2) := by decide +kernel
theorem dX3_metAlone_13 : decode cX3_metAlone 13 = .ok (.bipush 12, 2) := by decide +kernel
theorem dX3_metAlone_15 : decode cX3_metAlone 15 = .ok (.if_icmp .ge 46, 3) := by decide +kernel
theorem dX3_metAlone_18 : decode cX3_metAlone 18 = .ok (.iload 4, 2) := by decide +kernel
theorem dX3_metAlone_20 : decode cX3_metAlone 20 = .ok (.aload_n 1, 1) := by decide +kernel
theorem dX3_metAlone_21 : decode cX3_metAlone 21 = .ok (.getfield 29, 3) := by decide +kernel
theorem dX3_metAlone_24 : decode cX3_metAlone 24 = .ok (.getfield 35, 3) := by decide +kernel
theorem dX3_metAlone_27 : decode cX3_metAlone 27 = .ok (.if_icmp .ge 34, 3) := by decide +kernel
theorem dX3_metAlone_30 : decode cX3_metAlone 30 = .ok (.iload_n 3, 1) := by decide +kernel
theorem dX3_metAlone_31 : decode cX3_metAlone 31 = .ok (.aload_n 1, 1) := by decide +kernel
theorem dX3_metAlone_32 : decode cX3_metAlone 32 = .ok (.iload_n 2, 1) := by decide +kernel
theorem dX3_metAlone_33 : decode cX3_metAlone 33 = .ok (.iload 4, 2) := by decide +kernel
theorem dX3_metAlone_35 : decode cX3_metAlone 35 = .ok (.aload_n 0, 1) := by decide +kernel
theorem dX3_metAlone_36 : decode cX3_metAlone 36 = .ok (.getfield 9, 3) := by decide +kernel
theorem dX3_metAlone_39 : decode cX3_metAlone 39 = .ok (.invokestatic 41, 3) := by decide +kernel
theorem dX3_metAlone_42 : decode cX3_metAlone 42 = .ok (.ifCond .eq 10, 3) := by decide +kernel
theorem dX3_metAlone_45 : decode cX3_metAlone 45 = .ok (.iconst 1, 1) := by decide +kernel
theorem dX3_metAlone_46 : decode cX3_metAlone 46 = .ok (.iload 4, 2) := by decide +kernel
theorem dX3_metAlone_48 : decode cX3_metAlone 48 = .ok (.ishl, 1) := by decide +kernel
theorem dX3_metAlone_49 : decode cX3_metAlone 49 = .ok (.goto 4, 3) := by decide +kernel
theorem dX3_metAlone_52 : decode cX3_metAlone 52 = .ok (.iconst 0, 1) := by decide +kernel
theorem dX3_metAlone_53 : decode cX3_metAlone 53 = .ok (.ior, 1) := by decide +kernel
theorem dX3_metAlone_54 : decode cX3_metAlone 54 = .ok (.istore_n 3, 1) := by decide +kernel
theorem dX3_metAlone_55 : decode cX3_metAlone 55 = .ok (.iinc 4 1, 3) := by decide +kernel
theorem dX3_metAlone_58 : decode cX3_metAlone 58 = .ok (.goto (-47), 3) := by decide +kernel
theorem dX3_metAlone_61 : decode cX3_metAlone 61 = .ok (.iload_n 3, 1) := by decide +kernel
theorem dX3_metAlone_62 : decode cX3_metAlone 62 = .ok (.ireturn, 1) := by decide +kernel
noncomputable def s_X3_metAlone_11 (a0 : Nat) (a1 : Nat) (x2 : Int32) (M1 : Me) (v2 : Int32) (v3 : Int32) : Option ((Int32 × Int32) ⊕ (Int32 × Int32)) :=
  if (12 : Int32) ≤ v3 then (
    some (Sum.inr (v2, v3))
  ) else (
    gr M1 a1 0 2 fun o4 =>
    gi M1 o4 2 0 fun v5 =>
    if v5 ≤ v3 then (
      some (Sum.inr (v2, v3))
    ) else (
      gr M1 a0 3 0 fun o6 =>
      cP (f_X3_isMet a1 x2 v3 o6 M1) fun v7 =>
      (
        if v7 = 0 then (
          some (0 : Int32)
        ) else (
          some ((1 : Int32) <<< (v3 &&& 31))
        )
      ).bind fun v8 =>
      let_v ((v2 ||| v8)) fun v9 =>
      let_v (v3 + (1 : Int32)) fun v10 =>
      some (Sum.inl (v9, v10))
    )
  )
noncomputable def b_X3_metAlone (a0 : Nat) (a1 : Nat) (x2 : Int32) (M : Me) : Option (Int32 × Me) :=
  cM (f_X3_setOff a0 a1 x2 M) fun M1 =>
  (lp (fun s => s_X3_metAlone_11 a0 a1 x2 M1 s.1 s.2) ((0 : Int32), (0 : Int32))).bind fun e11 =>
  some (e11.1, M1)
noncomputable def f_X3_metAlone (a0 : Nat) (a1 : Nat) (x2 : Int32) (M : Me) : Option (Int32 × Me) := ck M a0 3 (b_X3_metAlone a0 a1 x2 M)
set_option maxRecDepth 20000 in
theorem vb_X3_metAlone (d : Nat) (hd : 4 ≤ d) (a0 : Nat) (a1 : Nat) (x2 : Int32) (M : Me) : V (mX3_metAlone, d, 0, 0) (0, 0) M 0 [some (.ref a0), some (.ref a1), some (.int x2), none, none] [] (b_X3_metAlone a0 a1 x2 M) (fun z => some (some (.int z.1), z.2)) := by
  unfold b_X3_metAlone
  refine v_aload_n (q := 1) dX3_metAlone_0 rfl rfl rfl ?_
  refine v_aload_n (q := 2) dX3_metAlone_1 rfl rfl rfl ?_
  refine v_iload_n (q := 3) dX3_metAlone_2 rfl rfl rfl ?_
  refine v_cMV2 (q := 6) (ct_X3_setOff (d - 1) (by omega) _ _ _ _) dX3_metAlone_3 rfl cc_X3_21 (by omega) (Nat.le_of_ble_eq_true rfl) ⟨Nat.le_of_ble_eq_true rfl, Nat.le_of_ble_eq_true rfl⟩ (fun M1 => ?_)
  refine v_iconst (q := 7) dX3_metAlone_6 rfl ic_0 ?_
  refine v_istore_n (q := 8) (loc2 := [some (.ref a0), some (.ref a1), some (.int x2), some (.int (0 : Int32)), none]) dX3_metAlone_7 rfl rfl rfl (Nat.le_of_ble_eq_true rfl) rfl ?_
  refine v_iconst (q := 9) dX3_metAlone_8 rfl ic_0 ?_
  refine v_istore (q := 11) (loc2 := [some (.ref a0), some (.ref a1), some (.int x2), some (.int (0 : Int32)), some (.int (0 : Int32))]) dX3_metAlone_9 rfl rfl (Nat.le_of_ble_eq_true rfl) rfl ?_
  refine v_lps (S := Int32 × Int32) 61 (fun s => M1) (fun s => [some (.ref a0), some (.ref a1), some (.int x2), some (.int s.1), some (.int s.2)]) (fun e11 => M1) (fun e11 => [some (.ref a0), some (.ref a1), some (.int x2), some (.int e11.1), some (.int e11.2)]) (fun e11 => ?_) (fun k K hk hx s => ?_)
  · refine v_iload_n (q := 62) dX3_metAlone_61 rfl rfl rfl ?_
    exact v_iret rfl dX3_metAlone_62 ⟨Nat.le_of_ble_eq_true rfl, Nat.le_of_ble_eq_true rfl⟩ rfl
  · obtain ⟨v2, v3⟩ := s
    show V _ _ M1 11 [some (.ref a0), some (.ref a1), some (.int x2), some (.int v2), some (.int v3)] [] (s_X3_metAlone_11 a0 a1 x2 M1 v2 v3) _
    unfold s_X3_metAlone_11
    refine v_iload (q := 13) dX3_metAlone_11 rfl rfl ?_
    refine v_bipush (q := 15) dX3_metAlone_13 rfl bp_12 ?_
    refine v_icmp_ge (tgt := 61) (q := 18) dX3_metAlone_15 rfl rfl ?_ ?_
    · exact v_inr (hx (v2, v3))
    · refine v_iload (q := 20) dX3_metAlone_18 rfl rfl ?_
      refine v_aload_n (q := 21) dX3_metAlone_20 rfl rfl rfl ?_
      refine v_getRb (q := 24) dX3_metAlone_21 rfl fg_X3_29 (fun o4 => ?_)
      refine v_getIb (q := 27) dX3_metAlone_24 rfl fg_X3_35 (fun v5 => ?_)
      refine v_icmp_ge (tgt := 61) (q := 30) dX3_metAlone_27 rfl rfl ?_ ?_
      · exact v_inr (hx (v2, v3))
      · refine v_iload_n (q := 31) dX3_metAlone_30 rfl rfl rfl ?_
        refine v_aload_n (q := 32) dX3_metAlone_31 rfl rfl rfl ?_
        refine v_iload_n (q := 33) dX3_metAlone_32 rfl rfl rfl ?_
        refine v_iload (q := 35) dX3_metAlone_33 rfl rfl ?_
        refine v_aload_n (q := 36) dX3_metAlone_35 rfl rfl rfl ?_
        refine v_getRb (q := 39) dX3_metAlone_36 rfl fg_X3_9 (fun o6 => ?_)
        refine v_cPS4 (q := 42) (ct_X3_isMet (d - 1) (by omega) _ _ _ _ _) dX3_metAlone_39 rfl cc_X3_41 (by omega) (Nat.le_of_ble_eq_true rfl) ⟨Nat.le_of_ble_eq_true rfl, Nat.le_of_ble_eq_true rfl⟩ (fun v7 => ?_)
        refine v_join (γ := Int32) 53 (fun v8 => M1) (fun v8 => [some (.ref a0), some (.ref a1), some (.int x2), some (.int v2), some (.int v3)]) (fun v8 => [.int v8, .int v2]) (fun K hK => ?_) (fun v8 => ?_)
        · refine v_if_eq (tgt := 52) (q := 45) dX3_metAlone_42 rfl rfl ?_ ?_
          · refine v_iconst (q := 53) dX3_metAlone_52 rfl ic_0 ?_
            exact hK (0 : Int32)
          · refine v_iconst (q := 46) dX3_metAlone_45 rfl ic_1 ?_
            refine v_iload (q := 48) dX3_metAlone_46 rfl rfl ?_
            refine v_ishl (q := 49) dX3_metAlone_48 rfl ?_
            refine v_goto (tgt := 53) dX3_metAlone_49 rfl ?_
            exact hK ((1 : Int32) <<< (v3 &&& 31))
        · refine v_ior (q := 54) dX3_metAlone_53 rfl ?_
          refine v_letI (fun v9 => ?_)
          refine v_istore_n (q := 55) (loc2 := [some (.ref a0), some (.ref a1), some (.int x2), some (.int v9), some (.int v3)]) dX3_metAlone_54 rfl rfl rfl (Nat.le_of_ble_eq_true rfl) rfl ?_
          refine v_iincL (q := 58) (x := v3) (cst := (1 : Int32)) (f := fun v10 => [some (.ref a0), some (.ref a1), some (.int x2), some (.int v9), some (.int v10)]) dX3_metAlone_55 rfl rfl ic_1 rfl (Nat.le_of_ble_eq_true rfl) (fun _ => rfl) (fun v10 => ?_)
          refine v_goto (tgt := 11) dX3_metAlone_58 rfl ?_
          exact v_inl (hk (v9, v10))
theorem ct_X3_metAlone (d : Nat) (hd : 4 ≤ d) (a0 : Nat) (a1 : Nat) (x2 : Int32) (M : Me) (r : Int32) (M2 : Me) (hf : f_X3_metAlone a0 a1 x2 M = some (r, M2)) : me_k M a0 = some (3, nf_c 3) ∧ Ct yX3_metAlone mX3_metAlone d 0 0 [.ref a0, .ref a1, .int x2] M (some (.int r), M2) := by
  obtain ⟨hk, hb⟩ := ck_some hf
  exact ⟨hk, ct_of (by decide +kernel) rfl rfl (Nat.le_of_ble_eq_true rfl) (vb_X3_metAlone d hd a0 a1 x2 M) (by rw [hb]; rfl)⟩
theorem dX3_goOnFrom_0 : decode cX3_goOnFrom 0 = .ok (.aload_n 1, 1) := by decide +kernel
theorem dX3_goOnFrom_1 : decode cX3_goOnFrom 1 = .ok (.getfield 29, 3) := by decide +kernel
theorem dX3_goOnFrom_4 : decode cX3_goOnFrom 4 = .ok (.iload_n 2, 1) := by decide +kernel
theorem dX3_goOnFrom_5 : decode cX3_goOnFrom 5 = .ok (.invokevirtual 87, 3) := by decide +kernel
theorem dX3_goOnFrom_8 : decode cX3_goOnFrom 8 = .ok (.ifCond .eq 39, 3) := by decide +kernel
theorem dX3_goOnFrom_11 : decode cX3_goOnFrom 11 = .ok (.aload_n 1, 1) := by decide +kernel
theorem dX3_goOnFrom_12 : decode cX3_goOnFrom 12 = .ok (.getfield 29, 3) := by decide +kernel
theorem dX3_goOnFrom_15 : decode cX3_goOnFrom 15 = .ok (.getfield 91, 3) := by decide +kernel
theorem dX3_goOnFrom_18 : decode cX3_goOnFrom 18 = .ok (.iload_n 2, 1) := by decide +kernel
theorem dX3_goOnFrom_19 : decode cX3_goOnFrom 19 = .ok (.aaload, 1) := by decide +kernel
theorem dX3_goOnFrom_20 : decode cX3_goOnFrom 20 = .ok (.astore_n 3, 1) := by decide +kernel
theorem dX3_goOnFrom_21 : decode cX3_goOnFrom 21 = .ok (.aload_n 1, 1) := by decide +kernel
theorem dX3_goOnFrom_22 : decode cX3_goOnFrom 22 = .ok (.getfield 66, 3) := by decide +kernel
theorem dX3_goOnFrom_25 : decode cX3_goOnFrom 25 = .ok (.aload_n 1, 1) := by decide +kernel
theorem dX3_goOnFrom_26 : decode cX3_goOnFrom 26 = .ok (.aload_n 3, 1) := by decide +kernel
theorem dX3_goOnFrom_27 : decode cX3_goOnFrom 27 = .ok (.getfield 95, 3) := by decide +kernel
theorem dX3_goOnFrom_30 : decode cX3_goOnFrom 30 = .ok (.invokevirtual 62, 3) := by decide +kernel
theorem dX3_goOnFrom_33 : decode cX3_goOnFrom 33 = .ok (.getfield 100, 3) := by decide +kernel
theorem dX3_goOnFrom_36 : decode cX3_goOnFrom 36 = .ok (.aload_n 3, 1) := by decide +kernel
theorem dX3_goOnFrom_37 : decode cX3_goOnFrom 37 = .ok (.getfield 103, 3) := by decide +kernel
theorem dX3_goOnFrom_40 : decode cX3_goOnFrom 40 = .ok (.aload_n 0, 1) := by decide +kernel
theorem dX3_goOnFrom_41 : decode cX3_goOnFrom 41 = .ok (.getfield 15, 3) := by decide +kernel
theorem dX3_goOnFrom_44 : decode cX3_goOnFrom 44 = .ok (.invokevirtual 81, 3) := by decide +kernel
theorem dX3_goOnFrom_47 : decode cX3_goOnFrom 47 = .ok (.return_, 1) := by decide +kernel
noncomputable def b_X3_goOnFrom (a0 : Nat) (a1 : Nat) (x2 : Int32) (M : Me) : Option (Me) :=
  gr M a1 0 2 fun o1 =>
  cP (f_X2_has o1 x2 M) fun v2 =>
  (
    if v2 = 0 then (
      some M
    ) else (
      gr M a1 0 2 fun o3 =>
      gr M o3 2 1 fun o4 =>
      lr M o4 23 x2 fun o5 =>
      gr M a1 0 0 fun o6 =>
      gi M o5 1 1 fun v7 =>
      cR (f_X0_knightAt a1 v7 M) fun o8 =>
      gi M o8 4 1 fun v9 =>
      gi M o5 1 3 fun v10 =>
      gr M a0 3 1 fun o11 =>
      cM (f_X5_fillFirstDays o6 v9 v10 o11 M) fun M12 =>
      some M12
    )
  ).bind fun M13 =>
  some M13
noncomputable def f_X3_goOnFrom (a0 : Nat) (a1 : Nat) (x2 : Int32) (M : Me) : Option (Me) := ck M a0 3 (b_X3_goOnFrom a0 a1 x2 M)
set_option maxRecDepth 20000 in
theorem vb_X3_goOnFrom (d : Nat) (hd : 3 ≤ d) (a0 : Nat) (a1 : Nat) (x2 : Int32) (M : Me) : V (mX3_goOnFrom, d, 0, 0) (0, 0) M 0 [some (.ref a0), some (.ref a1), some (.int x2), none] [] (b_X3_goOnFrom a0 a1 x2 M) (fun M2 => some (none, M2)) := by
  unfold b_X3_goOnFrom
  refine v_aload_n (q := 1) dX3_goOnFrom_0 rfl rfl rfl ?_
  refine v_getRb (q := 4) dX3_goOnFrom_1 rfl fg_X3_29 (fun o1 => ?_)
  refine v_iload_n (q := 5) dX3_goOnFrom_4 rfl rfl rfl ?_
  refine v_cPV1 (q := 8) (ct_X2_has (d - 1) (by omega) _ _ _) dX3_goOnFrom_5 rfl cc_X3_87 (by omega) (Nat.le_of_ble_eq_true rfl) ⟨Nat.le_of_ble_eq_true rfl, Nat.le_of_ble_eq_true rfl⟩ (fun v2 => ?_)
  refine v_join (γ := Me) 47 (fun M13 => M13) (fun M13 => [some (.ref a0), some (.ref a1), some (.int x2), none]) (fun M13 => []) (fun K hK => ?_) (fun M13 => ?_)
  · refine v_if_eq (tgt := 47) (q := 11) dX3_goOnFrom_8 rfl rfl ?_ ?_
    · exact hK M
    · refine v_aload_n (q := 12) dX3_goOnFrom_11 rfl rfl rfl ?_
      refine v_getRb (q := 15) dX3_goOnFrom_12 rfl fg_X3_29 (fun o3 => ?_)
      refine v_getRb (q := 18) dX3_goOnFrom_15 rfl fg_X3_91 (fun o4 => ?_)
      refine v_iload_n (q := 19) dX3_goOnFrom_18 rfl rfl rfl ?_
      refine v_aaload (q := 20) (t0 := 3) dX3_goOnFrom_19 rfl (Nat.le_of_ble_eq_true rfl) (fun _ => rfl) (fun o5 => ?_)
      refine v_astore_n (q := 21) (loc2 := [some (.ref a0), some (.ref a1), some (.int x2), some (.ref o5)]) dX3_goOnFrom_20 rfl rfl rfl (Nat.le_of_ble_eq_true rfl) rfl ?_
      refine v_aload_n (q := 22) dX3_goOnFrom_21 rfl rfl rfl ?_
      refine v_getRb (q := 25) dX3_goOnFrom_22 rfl fg_X3_66 (fun o6 => ?_)
      refine v_aload_n (q := 26) dX3_goOnFrom_25 rfl rfl rfl ?_
      refine v_aload_n (q := 27) dX3_goOnFrom_26 rfl rfl rfl ?_
      refine v_getIb (q := 30) dX3_goOnFrom_27 rfl fg_X3_95 (fun v7 => ?_)
      refine v_cRV1 (q := 33) (ct_X0_knightAt (d - 1) (by omega) _ _ _) dX3_goOnFrom_30 rfl cc_X3_62 (by omega) (Nat.le_of_ble_eq_true rfl) ⟨Nat.le_of_ble_eq_true rfl, Nat.le_of_ble_eq_true rfl⟩ (fun o8 => ?_)
      refine v_getIb (q := 36) dX3_goOnFrom_33 rfl fg_X3_100 (fun v9 => ?_)
      refine v_aload_n (q := 37) dX3_goOnFrom_36 rfl rfl rfl ?_
      refine v_getIb (q := 40) dX3_goOnFrom_37 rfl fg_X3_103 (fun v10 => ?_)
      refine v_aload_n (q := 41) dX3_goOnFrom_40 rfl rfl rfl ?_
      refine v_getRb (q := 44) dX3_goOnFrom_41 rfl fg_X3_15 (fun o11 => ?_)
      refine v_cMV3 (q := 47) (ct_X5_fillFirstDays (d - 1) (by omega) _ _ _ _ _) dX3_goOnFrom_44 rfl cc_X3_81 (by omega) (Nat.le_of_ble_eq_true rfl) ⟨Nat.le_of_ble_eq_true rfl, Nat.le_of_ble_eq_true rfl⟩ (fun M12 => ?_)
      exact v_weak (hK M12) ⟨rfl, ⟨rfl, ⟨rfl, trivial⟩⟩⟩
  · exact v_vret rfl dX3_goOnFrom_47 ⟨Nat.le_of_ble_eq_true rfl, Nat.le_of_ble_eq_true rfl⟩ rfl
theorem ct_X3_goOnFrom (d : Nat) (hd : 3 ≤ d) (a0 : Nat) (a1 : Nat) (x2 : Int32) (M : Me) (r : Me) (hf : f_X3_goOnFrom a0 a1 x2 M = some r) : me_k M a0 = some (3, nf_c 3) ∧ Ct yX3_goOnFrom mX3_goOnFrom d 0 0 [.ref a0, .ref a1, .int x2] M (none, r) := by
  obtain ⟨hk, hb⟩ := ck_some hf
  exact ⟨hk, ct_of (by decide +kernel) rfl rfl (Nat.le_of_ble_eq_true rfl) (vb_X3_goOnFrom d hd a0 a1 x2 M) (by rw [hb]; rfl)⟩
theorem dX3_lengthen_0 : decode cX3_lengthen 0 = .ok (.aload_n 0, 1) := by decide +kernel
theorem dX3_lengthen_1 : decode cX3_lengthen 1 = .ok (.aload_n 1, 1) := by decide +kernel
theorem dX3_lengthen_2 : decode cX3_lengthen 2 = .ok (.iload_n 3, 1) := by decide +kernel
theorem dX3_lengthen_3 : decode cX3_lengthen 3 = .ok (.invokevirtual 59, 3) := by decide +kernel
theorem dX3_lengthen_6 : decode cX3_lengthen 6 = .ok (.iload_n 3, 1) := by decide +kernel
theorem dX3_lengthen_7 : decode cX3_lengthen 7 = .ok (.iconst 1, 1) := by decide +kernel
theorem dX3_lengthen_8 : decode cX3_lengthen 8 = .ok (.iadd, 1) := by decide +kernel
theorem dX3_lengthen_9 : decode cX3_lengthen 9 = .ok (.istore 4, 2) := by decide +kernel
theorem dX3_lengthen_11 : decode cX3_lengthen 11 = .ok (.iload 4, 2) := by decide +kernel
theorem dX3_lengthen_13 : decode cX3_lengthen 13 = .ok (.bipush 12, 2) := by decide +kernel
theorem dX3_lengthen_15 : decode cX3_lengthen 15 = .ok (.if_icmp .ge 48, 3) := by decide +kernel
theorem dX3_lengthen_18 : decode cX3_lengthen 18 = .ok (.aload_n 1, 1) := by decide +kernel
theorem dX3_lengthen_19 : decode cX3_lengthen 19 = .ok (.iload_n 2, 1) := by decide +kernel
theorem dX3_lengthen_20 : decode cX3_lengthen 20 = .ok (.iload 4, 2) := by decide +kernel
theorem dX3_lengthen_22 : decode cX3_lengthen 22 = .ok (.aload_n 0, 1) := by decide +kernel
theorem dX3_lengthen_23 : decode cX3_lengthen 23 = .ok (.getfield 15, 3) := by decide +kernel
theorem dX3_lengthen_26 : decode cX3_lengthen 26 = .ok (.invokestatic 41, 3) := by decide +kernel
theorem dX3_lengthen_29 : decode cX3_lengthen 29 = .ok (.ifCond .eq 28, 3) := by decide +kernel
theorem dX3_lengthen_32 : decode cX3_lengthen 32 = .ok (.aload_n 0, 1) := by decide +kernel
theorem dX3_lengthen_33 : decode cX3_lengthen 33 = .ok (.getfield 18, 3) := by decide +kernel
theorem dX3_lengthen_36 : decode cX3_lengthen 36 = .ok (.iload 4, 2) := by decide +kernel
theorem dX3_lengthen_38 : decode cX3_lengthen 38 = .ok (.aload_n 0, 1) := by decide +kernel
theorem dX3_lengthen_39 : decode cX3_lengthen 39 = .ok (.getfield 18, 3) := by decide +kernel
theorem dX3_lengthen_42 : decode cX3_lengthen 42 = .ok (.iload 4, 2) := by decide +kernel
theorem dX3_lengthen_44 : decode cX3_lengthen 44 = .ok (.iaload, 1) := by decide +kernel
theorem dX3_lengthen_45 : decode cX3_lengthen 45 = .ok (.aload_n 0, 1) := by decide +kernel
theorem dX3_lengthen_46 : decode cX3_lengthen 46 = .ok (.getfield 18, 3) := by decide +kernel
theorem dX3_lengthen_49 : decode cX3_lengthen 49 = .ok (.iload_n 3, 1) := by decide +kernel
theorem dX3_lengthen_50 : decode cX3_lengthen 50 = .ok (.iaload, 1) := by decide +kernel
theorem dX3_lengthen_51 : decode cX3_lengthen 51 = .ok (.iconst 1, 1) := by decide +kernel
theorem dX3_lengthen_52 : decode cX3_lengthen 52 = .ok (.iadd, 1) := by decide +kernel
theorem dX3_lengthen_53 : decode cX3_lengthen 53 = .ok (.invokestatic 49, 3) := by decide +kernel
theorem dX3_lengthen_56 : decode cX3_lengthen 56 = .ok (.iastore, 1) := by decide +kernel
theorem dX3_lengthen_57 : decode cX3_lengthen 57 = .ok (.iinc 4 1, 3) := by decide +kernel
theorem dX3_lengthen_60 : decode cX3_lengthen 60 = .ok (.goto (-49), 3) := by decide +kernel
theorem dX3_lengthen_63 : decode cX3_lengthen 63 = .ok (.return_, 1) := by decide +kernel
noncomputable def s_X3_lengthen_11 (a0 : Nat) (a1 : Nat) (x2 : Int32) (x3 : Int32) (M3 : Me) (v4 : Int32) : Option ((Me × Int32) ⊕ (Me × Int32)) :=
  if (12 : Int32) ≤ v4 then (
    some (Sum.inr (M3, v4))
  ) else (
    gr M3 a0 3 1 fun o5 =>
    cP (f_X3_isMet a1 x2 v4 o5 M3) fun v6 =>
    (
      if v6 = 0 then (
        some M3
      ) else (
        gr M3 a0 3 2 fun o7 =>
        gr M3 a0 3 2 fun o8 =>
        li M3 o8 v4 fun v9 =>
        gr M3 a0 3 2 fun o10 =>
        li M3 o10 x3 fun v11 =>
        si M3 o7 v4 (mx_i v9 (v11 + (1 : Int32))) fun M12 =>
        some M12
      )
    ).bind fun M13 =>
    let_v (v4 + (1 : Int32)) fun v14 =>
    some (Sum.inl (M13, v14))
  )
noncomputable def b_X3_lengthen (a0 : Nat) (a1 : Nat) (x2 : Int32) (x3 : Int32) (M : Me) : Option (Me) :=
  cM (f_X3_goOnFrom a0 a1 x3 M) fun M1 =>
  let_v ((x3 + (1 : Int32))) fun v2 =>
  (lp (fun s => s_X3_lengthen_11 a0 a1 x2 x3 s.1 s.2) (M1, v2)).bind fun e15 =>
  some e15.1
noncomputable def f_X3_lengthen (a0 : Nat) (a1 : Nat) (x2 : Int32) (x3 : Int32) (M : Me) : Option (Me) := ck M a0 3 (b_X3_lengthen a0 a1 x2 x3 M)
set_option maxRecDepth 20000 in
theorem vb_X3_lengthen (d : Nat) (hd : 4 ≤ d) (a0 : Nat) (a1 : Nat) (x2 : Int32) (x3 : Int32) (M : Me) : V (mX3_lengthen, d, 0, 0) (0, 0) M 0 [some (.ref a0), some (.ref a1), some (.int x2), some (.int x3), none] [] (b_X3_lengthen a0 a1 x2 x3 M) (fun M2 => some (none, M2)) := by
  unfold b_X3_lengthen
  refine v_aload_n (q := 1) dX3_lengthen_0 rfl rfl rfl ?_
  refine v_aload_n (q := 2) dX3_lengthen_1 rfl rfl rfl ?_
  refine v_iload_n (q := 3) dX3_lengthen_2 rfl rfl rfl ?_
  refine v_cMV2 (q := 6) (ct_X3_goOnFrom (d - 1) (by omega) _ _ _ _) dX3_lengthen_3 rfl cc_X3_59 (by omega) (Nat.le_of_ble_eq_true rfl) ⟨Nat.le_of_ble_eq_true rfl, Nat.le_of_ble_eq_true rfl⟩ (fun M1 => ?_)
  refine v_iload_n (q := 7) dX3_lengthen_6 rfl rfl rfl ?_
  refine v_iconst (q := 8) dX3_lengthen_7 rfl ic_1 ?_
  refine v_iadd (q := 9) dX3_lengthen_8 rfl ?_
  refine v_letI (fun v2 => ?_)
  refine v_istore (q := 11) (loc2 := [some (.ref a0), some (.ref a1), some (.int x2), some (.int x3), some (.int v2)]) dX3_lengthen_9 rfl rfl (Nat.le_of_ble_eq_true rfl) rfl ?_
  refine v_lps (S := Me × Int32) 63 (fun s => s.1) (fun s => [some (.ref a0), some (.ref a1), some (.int x2), some (.int x3), some (.int s.2)]) (fun e15 => e15.1) (fun e15 => [some (.ref a0), some (.ref a1), some (.int x2), some (.int x3), some (.int e15.2)]) (fun e15 => ?_) (fun k K hk hx s => ?_)
  · exact v_vret rfl dX3_lengthen_63 ⟨Nat.le_of_ble_eq_true rfl, Nat.le_of_ble_eq_true rfl⟩ rfl
  · obtain ⟨M3, v4⟩ := s
    show V _ _ M3 11 [some (.ref a0), some (.ref a1), some (.int x2), some (.int x3), some (.int v4)] [] (s_X3_lengthen_11 a0 a1 x2 x3 M3 v4) _
    unfold s_X3_lengthen_11
    refine v_iload (q := 13) dX3_lengthen_11 rfl rfl ?_
    refine v_bipush (q := 15) dX3_lengthen_13 rfl bp_12 ?_
    refine v_icmp_ge (tgt := 63) (q := 18) dX3_lengthen_15 rfl rfl ?_ ?_
    · exact v_inr (hx (M3, v4))
    · refine v_aload_n (q := 19) dX3_lengthen_18 rfl rfl rfl ?_
      refine v_iload_n (q := 20) dX3_lengthen_19 rfl rfl rfl ?_
      refine v_iload (q := 22) dX3_lengthen_20 rfl rfl ?_
      refine v_aload_n (q := 23) dX3_lengthen_22 rfl rfl rfl ?_
      refine v_getRb (q := 26) dX3_lengthen_23 rfl fg_X3_15 (fun o5 => ?_)
      refine v_cPS4 (q := 29) (ct_X3_isMet (d - 1) (by omega) _ _ _ _ _) dX3_lengthen_26 rfl cc_X3_41 (by omega) (Nat.le_of_ble_eq_true rfl) ⟨Nat.le_of_ble_eq_true rfl, Nat.le_of_ble_eq_true rfl⟩ (fun v6 => ?_)
      refine v_join (γ := Me) 57 (fun M13 => M13) (fun M13 => [some (.ref a0), some (.ref a1), some (.int x2), some (.int x3), some (.int v4)]) (fun M13 => []) (fun K hK => ?_) (fun M13 => ?_)
      · refine v_if_eq (tgt := 57) (q := 32) dX3_lengthen_29 rfl rfl ?_ ?_
        · exact hK M3
        · refine v_aload_n (q := 33) dX3_lengthen_32 rfl rfl rfl ?_
          refine v_getRb (q := 36) dX3_lengthen_33 rfl fg_X3_18 (fun o7 => ?_)
          refine v_iload (q := 38) dX3_lengthen_36 rfl rfl ?_
          refine v_aload_n (q := 39) dX3_lengthen_38 rfl rfl rfl ?_
          refine v_getRb (q := 42) dX3_lengthen_39 rfl fg_X3_18 (fun o8 => ?_)
          refine v_iload (q := 44) dX3_lengthen_42 rfl rfl ?_
          refine v_iaload (q := 45) dX3_lengthen_44 rfl (fun v9 => ?_)
          refine v_aload_n (q := 46) dX3_lengthen_45 rfl rfl rfl ?_
          refine v_getRb (q := 49) dX3_lengthen_46 rfl fg_X3_18 (fun o10 => ?_)
          refine v_iload_n (q := 50) dX3_lengthen_49 rfl rfl rfl ?_
          refine v_iaload (q := 51) dX3_lengthen_50 rfl (fun v11 => ?_)
          refine v_iconst (q := 52) dX3_lengthen_51 rfl ic_1 ?_
          refine v_iadd (q := 53) dX3_lengthen_52 rfl ?_
          refine v_mx_i (q := 56) dX3_lengthen_53 rfl cc_X3_49 (by show 1 ≤ d; omega) (Nat.le_of_ble_eq_true rfl) ⟨Nat.le_of_ble_eq_true rfl, Nat.le_of_ble_eq_true rfl⟩ ?_
          refine v_iastore (q := 57) dX3_lengthen_56 rfl (fun M12 => ?_)
          exact hK M12
      · refine v_iincL (q := 60) (x := v4) (cst := (1 : Int32)) (f := fun v14 => [some (.ref a0), some (.ref a1), some (.int x2), some (.int x3), some (.int v14)]) dX3_lengthen_57 rfl rfl ic_1 rfl (Nat.le_of_ble_eq_true rfl) (fun _ => rfl) (fun v14 => ?_)
        refine v_goto (tgt := 11) dX3_lengthen_60 rfl ?_
        exact v_inl (hk (M13, v14))
theorem ct_X3_lengthen (d : Nat) (hd : 4 ≤ d) (a0 : Nat) (a1 : Nat) (x2 : Int32) (x3 : Int32) (M : Me) (r : Me) (hf : f_X3_lengthen a0 a1 x2 x3 M = some r) : me_k M a0 = some (3, nf_c 3) ∧ Ct yX3_lengthen mX3_lengthen d 0 0 [.ref a0, .ref a1, .int x2, .int x3] M (none, r) := by
  obtain ⟨hk, hb⟩ := ck_some hf
  exact ⟨hk, ct_of (by decide +kernel) rfl rfl (Nat.le_of_ble_eq_true rfl) (vb_X3_lengthen d hd a0 a1 x2 x3 M) (by rw [hb]; rfl)⟩
theorem dX3_mostMet_0 : decode cX3_mostMet 0 = .ok (.aload_n 0, 1) := by decide +kernel
theorem dX3_mostMet_1 : decode cX3_mostMet 1 = .ok (.aload_n 1, 1) := by decide +kernel
theorem dX3_mostMet_2 : decode cX3_mostMet 2 = .ok (.iload_n 2, 1) := by decide +kernel
theorem dX3_mostMet_3 : decode cX3_mostMet 3 = .ok (.invokevirtual 45, 3) := by decide +kernel
theorem dX3_mostMet_6 : decode cX3_mostMet 6 = .ok (.istore_n 3, 1) := by decide +kernel
theorem dX3_mostMet_7 : decode cX3_mostMet 7 = .ok (.iconst 0, 1) := by decide +kernel
theorem dX3_mostMet_8 : decode cX3_mostMet 8 = .ok (.istore 4, 2) := by decide +kernel
theorem dX3_mostMet_10 : decode cX3_mostMet 10 = .ok (.iload 4, 2) := by decide +kernel
theorem dX3_mostMet_12 : decode cX3_mostMet 12 = .ok (.bipush 12, 2) := by decide +kernel
theorem dX3_mostMet_14 : decode cX3_mostMet 14 = .ok (.if_icmp .ge 22, 3) := by decide +kernel
theorem dX3_mostMet_17 : decode cX3_mostMet 17 = .ok (.aload_n 0, 1) := by decide +kernel
theorem dX3_mostMet_18 : decode cX3_mostMet 18 = .ok (.getfield 18, 3) := by decide +kernel
theorem dX3_mostMet_21 : decode cX3_mostMet 21 = .ok (.iload 4, 2) := by decide +kernel
theorem dX3_mostMet_23 : decode cX3_mostMet 23 = .ok (.iload_n 3, 1) := by decide +kernel
theorem dX3_mostMet_24 : decode cX3_mostMet 24 = .ok (.iload 4, 2) := by decide +kernel
theorem dX3_mostMet_26 : decode cX3_mostMet 26 = .ok (.ishr, 1) := by decide +kernel
theorem dX3_mostMet_27 : decode cX3_mostMet 27 = .ok (.iconst 1, 1) := by decide +kernel
theorem dX3_mostMet_28 : decode cX3_mostMet 28 = .ok (.iand, 1) := by decide +kernel
theorem dX3_mostMet_29 : decode cX3_mostMet 29 = .ok (.iastore, 1) := by decide +kernel
theorem dX3_mostMet_30 : decode cX3_mostMet 30 = .ok (.iinc 4 1, 3) := by decide +kernel
theorem dX3_mostMet_33 : decode cX3_mostMet 33 = .ok (.goto (-23), 3) := by decide +kernel
theorem dX3_mostMet_36 : decode cX3_mostMet 36 = .ok (.iconst 0, 1) := by decide +kernel
theorem dX3_mostMet_37 : decode cX3_mostMet 37 = .ok (.istore 4, 2) := by decide +kernel
theorem dX3_mostMet_39 : decode cX3_mostMet 39 = .ok (.iconst 0, 1) := by decide +kernel
theorem dX3_mostMet_40 : decode cX3_mostMet 40 = .ok (.istore 5, 2) := by decide +kernel
theorem dX3_mostMet_42 : decode cX3_mostMet 42 = .ok (.iload 5, 2) := by decide +kernel
theorem dX3_mostMet_44 : decode cX3_mostMet 44 = .ok (.bipush 12, 2) := by decide +kernel
theorem dX3_mostMet_46 : decode cX3_mostMet 46 = .ok (.if_icmp .ge 41, 3) := by decide +kernel
theorem dX3_mostMet_49 : decode cX3_mostMet 49 = .ok (.aload_n 0, 1) := by decide +kernel
theorem dX3_mostMet_50 : decode cX3_mostMet 50 = .ok (.getfield 18, 3) := by decide +kernel
theorem dX3_mostMet_53 : decode cX3_mostMet 53 = .ok (.iload 5, 2) := by decide +kernel
theorem dX3_mostMet_55 : decode cX3_mostMet 55 = .ok (.iaload, 1) := by decide +kernel
theorem dX3_mostMet_56 : decode cX3_mostMet 56 = .ok (.ifCond .le 25, 3) := by decide +kernel
theorem dX3_mostMet_59 : decode cX3_mostMet 59 = .ok (.iload 4, 2) := by decide +kernel
theorem dX3_mostMet_61 : decode cX3_mostMet 61 = .ok (.aload_n 0, 1) := by decide +kernel
theorem dX3_mostMet_62 : decode cX3_mostMet 62 = .ok (.getfield 18, 3) := by decide +kernel
theorem dX3_mostMet_65 : decode cX3_mostMet 65 = .ok (.iload 5, 2) := by decide +kernel
theorem dX3_mostMet_67 : decode cX3_mostMet 67 = .ok (.iaload, 1) := by decide +kernel
theorem dX3_mostMet_68 : decode cX3_mostMet 68 = .ok (.invokestatic 49, 3) := by decide +kernel
theorem dX3_mostMet_71 : decode cX3_mostMet 71 = .ok (.istore 4, 2) := by decide +kernel
theorem dX3_mostMet_73 : decode cX3_mostMet 73 = .ok (.aload_n 0, 1) := by decide +kernel
theorem dX3_mostMet_74 : decode cX3_mostMet 74 = .ok (.aload_n 1, 1) := by decide +kernel
theorem dX3_mostMet_75 : decode cX3_mostMet 75 = .ok (.iload_n 2, 1) := by decide +kernel
theorem dX3_mostMet_76 : decode cX3_mostMet 76 = .ok (.iload 5, 2) := by decide +kernel
theorem dX3_mostMet_78 : decode cX3_mostMet 78 = .ok (.invokevirtual 55, 3) := by decide +kernel
theorem dX3_mostMet_81 : decode cX3_mostMet 81 = .ok (.iinc 5 1, 3) := by decide +kernel
theorem dX3_mostMet_84 : decode cX3_mostMet 84 = .ok (.goto (-42), 3) := by decide +kernel
theorem dX3_mostMet_87 : decode cX3_mostMet 87 = .ok (.iload 4, 2) := by decide +kernel
theorem dX3_mostMet_89 : decode cX3_mostMet 89 = .ok (.ireturn, 1) := by decide +kernel
noncomputable def s_X3_mostMet_10 (a0 : Nat) (v1 : Int32) (M3 : Me) (v4 : Int32) : Option ((Me × Int32) ⊕ (Me × Int32)) :=
  if (12 : Int32) ≤ v4 then (
    some (Sum.inr (M3, v4))
  ) else (
    gr M3 a0 3 2 fun o5 =>
    si M3 o5 v4 ((v1 >>> (v4 &&& 31)) &&& (1 : Int32)) fun M6 =>
    let_v (v4 + (1 : Int32)) fun v7 =>
    some (Sum.inl (M6, v7))
  )
noncomputable def s_X3_mostMet_42 (a0 : Nat) (a1 : Nat) (x2 : Int32) (M9 : Me) (v10 : Int32) (v11 : Int32) : Option ((Me × Int32 × Int32) ⊕ (Me × Int32 × Int32)) :=
  if (12 : Int32) ≤ v11 then (
    some (Sum.inr (M9, v10, v11))
  ) else (
    gr M9 a0 3 2 fun o12 =>
    li M9 o12 v11 fun v13 =>
    (
      if v13 ≤ 0 then (
        some (M9, v10)
      ) else (
        gr M9 a0 3 2 fun o14 =>
        li M9 o14 v11 fun v15 =>
        let_v ((mx_i v10 v15)) fun v16 =>
        cM (f_X3_lengthen a0 a1 x2 v11 M9) fun M17 =>
        some (M17, v16)
      )
    ).bind fun q18 =>
    let_v (v11 + (1 : Int32)) fun v19 =>
    some (Sum.inl (q18.1, q18.2, v19))
  )
noncomputable def b_X3_mostMet (a0 : Nat) (a1 : Nat) (x2 : Int32) (M : Me) : Option (Int32 × Me) :=
  cI (f_X3_metAlone a0 a1 x2 M) fun v1 M2 =>
  (lp (fun s => s_X3_mostMet_10 a0 v1 s.1 s.2) (M2, (0 : Int32))).bind fun e8 =>
  (lp (fun s => s_X3_mostMet_42 a0 a1 x2 s.1 s.2.1 s.2.2) (e8.1, (0 : Int32), (0 : Int32))).bind fun e20 =>
  some (e20.2.1, e20.1)
noncomputable def f_X3_mostMet (a0 : Nat) (a1 : Nat) (x2 : Int32) (M : Me) : Option (Int32 × Me) := ck M a0 3 (b_X3_mostMet a0 a1 x2 M)
set_option maxRecDepth 20000 in
theorem vb_X3_mostMet (d : Nat) (hd : 5 ≤ d) (a0 : Nat) (a1 : Nat) (x2 : Int32) (M : Me) : V (mX3_mostMet, d, 0, 0) (0, 0) M 0 [some (.ref a0), some (.ref a1), some (.int x2), none, none, none] [] (b_X3_mostMet a0 a1 x2 M) (fun z => some (some (.int z.1), z.2)) := by
  unfold b_X3_mostMet
  refine v_aload_n (q := 1) dX3_mostMet_0 rfl rfl rfl ?_
  refine v_aload_n (q := 2) dX3_mostMet_1 rfl rfl rfl ?_
  refine v_iload_n (q := 3) dX3_mostMet_2 rfl rfl rfl ?_
  refine v_cIV2 (q := 6) (ct_X3_metAlone (d - 1) (by omega) _ _ _ _) dX3_mostMet_3 rfl cc_X3_45 (by omega) (Nat.le_of_ble_eq_true rfl) ⟨Nat.le_of_ble_eq_true rfl, Nat.le_of_ble_eq_true rfl⟩ (fun v1 M2 => ?_)
  refine v_istore_n (q := 7) (loc2 := [some (.ref a0), some (.ref a1), some (.int x2), some (.int v1), none, none]) dX3_mostMet_6 rfl rfl rfl (Nat.le_of_ble_eq_true rfl) rfl ?_
  refine v_iconst (q := 8) dX3_mostMet_7 rfl ic_0 ?_
  refine v_istore (q := 10) (loc2 := [some (.ref a0), some (.ref a1), some (.int x2), some (.int v1), some (.int (0 : Int32)), none]) dX3_mostMet_8 rfl rfl (Nat.le_of_ble_eq_true rfl) rfl ?_
  refine v_lps (S := Me × Int32) 36 (fun s => s.1) (fun s => [some (.ref a0), some (.ref a1), some (.int x2), some (.int v1), some (.int s.2), none]) (fun e8 => e8.1) (fun e8 => [some (.ref a0), some (.ref a1), some (.int x2), some (.int v1), some (.int e8.2), none]) (fun e8 => ?_) (fun k K hk hx s => ?_)
  · refine v_iconst (q := 37) dX3_mostMet_36 rfl ic_0 ?_
    refine v_istore (q := 39) (loc2 := [some (.ref a0), some (.ref a1), some (.int x2), some (.int v1), some (.int (0 : Int32)), none]) dX3_mostMet_37 rfl rfl (Nat.le_of_ble_eq_true rfl) rfl ?_
    refine v_iconst (q := 40) dX3_mostMet_39 rfl ic_0 ?_
    refine v_istore (q := 42) (loc2 := [some (.ref a0), some (.ref a1), some (.int x2), some (.int v1), some (.int (0 : Int32)), some (.int (0 : Int32))]) dX3_mostMet_40 rfl rfl (Nat.le_of_ble_eq_true rfl) rfl ?_
    refine v_lps (S := Me × Int32 × Int32) 87 (fun s => s.1) (fun s => [some (.ref a0), some (.ref a1), some (.int x2), some (.int v1), some (.int s.2.1), some (.int s.2.2)]) (fun e20 => e20.1) (fun e20 => [some (.ref a0), some (.ref a1), some (.int x2), some (.int v1), some (.int e20.2.1), some (.int e20.2.2)]) (fun e20 => ?_) (fun k K hk hx s => ?_)
    · refine v_iload (q := 89) dX3_mostMet_87 rfl rfl ?_
      exact v_iret rfl dX3_mostMet_89 ⟨Nat.le_of_ble_eq_true rfl, Nat.le_of_ble_eq_true rfl⟩ rfl
    · obtain ⟨M9, v10, v11⟩ := s
      show V _ _ M9 42 [some (.ref a0), some (.ref a1), some (.int x2), some (.int v1), some (.int v10), some (.int v11)] [] (s_X3_mostMet_42 a0 a1 x2 M9 v10 v11) _
      unfold s_X3_mostMet_42
      refine v_iload (q := 44) dX3_mostMet_42 rfl rfl ?_
      refine v_bipush (q := 46) dX3_mostMet_44 rfl bp_12 ?_
      refine v_icmp_ge (tgt := 87) (q := 49) dX3_mostMet_46 rfl rfl ?_ ?_
      · exact v_inr (hx (M9, v10, v11))
      · refine v_aload_n (q := 50) dX3_mostMet_49 rfl rfl rfl ?_
        refine v_getRb (q := 53) dX3_mostMet_50 rfl fg_X3_18 (fun o12 => ?_)
        refine v_iload (q := 55) dX3_mostMet_53 rfl rfl ?_
        refine v_iaload (q := 56) dX3_mostMet_55 rfl (fun v13 => ?_)
        refine v_join (γ := Me × Int32) 81 (fun q18 => q18.1) (fun q18 => [some (.ref a0), some (.ref a1), some (.int x2), some (.int v1), some (.int q18.2), some (.int v11)]) (fun q18 => []) (fun K hK => ?_) (fun q18 => ?_)
        · refine v_if_le (tgt := 81) (q := 59) dX3_mostMet_56 rfl rfl ?_ ?_
          · exact hK (M9, v10)
          · refine v_iload (q := 61) dX3_mostMet_59 rfl rfl ?_
            refine v_aload_n (q := 62) dX3_mostMet_61 rfl rfl rfl ?_
            refine v_getRb (q := 65) dX3_mostMet_62 rfl fg_X3_18 (fun o14 => ?_)
            refine v_iload (q := 67) dX3_mostMet_65 rfl rfl ?_
            refine v_iaload (q := 68) dX3_mostMet_67 rfl (fun v15 => ?_)
            refine v_mx_i (q := 71) dX3_mostMet_68 rfl cc_X3_49 (by show 1 ≤ d; omega) (Nat.le_of_ble_eq_true rfl) ⟨Nat.le_of_ble_eq_true rfl, Nat.le_of_ble_eq_true rfl⟩ ?_
            refine v_letI (fun v16 => ?_)
            refine v_istore (q := 73) (loc2 := [some (.ref a0), some (.ref a1), some (.int x2), some (.int v1), some (.int v16), some (.int v11)]) dX3_mostMet_71 rfl rfl (Nat.le_of_ble_eq_true rfl) rfl ?_
            refine v_aload_n (q := 74) dX3_mostMet_73 rfl rfl rfl ?_
            refine v_aload_n (q := 75) dX3_mostMet_74 rfl rfl rfl ?_
            refine v_iload_n (q := 76) dX3_mostMet_75 rfl rfl rfl ?_
            refine v_iload (q := 78) dX3_mostMet_76 rfl rfl ?_
            refine v_cMV3 (q := 81) (ct_X3_lengthen (d - 1) (by omega) _ _ _ _ _) dX3_mostMet_78 rfl cc_X3_55 (by omega) (Nat.le_of_ble_eq_true rfl) ⟨Nat.le_of_ble_eq_true rfl, Nat.le_of_ble_eq_true rfl⟩ (fun M17 => ?_)
            exact hK (M17, v16)
        · refine v_iincL (q := 84) (x := v11) (cst := (1 : Int32)) (f := fun v19 => [some (.ref a0), some (.ref a1), some (.int x2), some (.int v1), some (.int q18.2), some (.int v19)]) dX3_mostMet_81 rfl rfl ic_1 rfl (Nat.le_of_ble_eq_true rfl) (fun _ => rfl) (fun v19 => ?_)
          refine v_goto (tgt := 42) dX3_mostMet_84 rfl ?_
          exact v_inl (hk (q18.1, q18.2, v19))
  · obtain ⟨M3, v4⟩ := s
    show V _ _ M3 10 [some (.ref a0), some (.ref a1), some (.int x2), some (.int v1), some (.int v4), none] [] (s_X3_mostMet_10 a0 v1 M3 v4) _
    unfold s_X3_mostMet_10
    refine v_iload (q := 12) dX3_mostMet_10 rfl rfl ?_
    refine v_bipush (q := 14) dX3_mostMet_12 rfl bp_12 ?_
    refine v_icmp_ge (tgt := 36) (q := 17) dX3_mostMet_14 rfl rfl ?_ ?_
    · exact v_inr (hx (M3, v4))
    · refine v_aload_n (q := 18) dX3_mostMet_17 rfl rfl rfl ?_
      refine v_getRb (q := 21) dX3_mostMet_18 rfl fg_X3_18 (fun o5 => ?_)
      refine v_iload (q := 23) dX3_mostMet_21 rfl rfl ?_
      refine v_iload_n (q := 24) dX3_mostMet_23 rfl rfl rfl ?_
      refine v_iload (q := 26) dX3_mostMet_24 rfl rfl ?_
      refine v_ishr (q := 27) dX3_mostMet_26 rfl ?_
      refine v_iconst (q := 28) dX3_mostMet_27 rfl ic_1 ?_
      refine v_iand (q := 29) dX3_mostMet_28 rfl ?_
      refine v_iastore (q := 30) dX3_mostMet_29 rfl (fun M6 => ?_)
      refine v_iincL (q := 33) (x := v4) (cst := (1 : Int32)) (f := fun v7 => [some (.ref a0), some (.ref a1), some (.int x2), some (.int v1), some (.int v7), none]) dX3_mostMet_30 rfl rfl ic_1 rfl (Nat.le_of_ble_eq_true rfl) (fun _ => rfl) (fun v7 => ?_)
      refine v_goto (tgt := 10) dX3_mostMet_33 rfl ?_
      exact v_inl (hk (M6, v7))
theorem ct_X3_mostMet (d : Nat) (hd : 5 ≤ d) (a0 : Nat) (a1 : Nat) (x2 : Int32) (M : Me) (r : Int32) (M2 : Me) (hf : f_X3_mostMet a0 a1 x2 M = some (r, M2)) : me_k M a0 = some (3, nf_c 3) ∧ Ct yX3_mostMet mX3_mostMet d 0 0 [.ref a0, .ref a1, .int x2] M (some (.int r), M2) := by
  obtain ⟨hk, hb⟩ := ck_some hf
  exact ⟨hk, ct_of (by decide +kernel) rfl rfl (Nat.le_of_ble_eq_true rfl) (vb_X3_mostMet d hd a0 a1 x2 M) (by rw [hb]; rfl)⟩
theorem dX3_findBarred_0 : decode cX3_findBarred 0 = .ok (.aload_n 0, 1) := by decide +kernel
theorem dX3_findBarred_1 : decode cX3_findBarred 1 = .ok (.aload_n 1, 1) := by decide +kernel
theorem dX3_findBarred_2 : decode cX3_findBarred 2 = .ok (.iload_n 2, 1) := by decide +kernel
theorem dX3_findBarred_3 : decode cX3_findBarred 3 = .ok (.invokevirtual 45, 3) := by decide +kernel
theorem dX3_findBarred_6 : decode cX3_findBarred 6 = .ok (.istore_n 3, 1) := by decide +kernel
theorem dX3_findBarred_7 : decode cX3_findBarred 7 = .ok (.iconst 0, 1) := by decide +kernel
theorem dX3_findBarred_8 : decode cX3_findBarred 8 = .ok (.istore 4, 2) := by decide +kernel
theorem dX3_findBarred_10 : decode cX3_findBarred 10 = .ok (.iload 4, 2) := by decide +kernel
theorem dX3_findBarred_12 : decode cX3_findBarred 12 = .ok (.bipush 12, 2) := by decide +kernel
theorem dX3_findBarred_14 : decode cX3_findBarred 14 = .ok (.if_icmp .ge 80, 3) := by decide +kernel
theorem dX3_findBarred_17 : decode cX3_findBarred 17 = .ok (.iload_n 3, 1) := by decide +kernel
theorem dX3_findBarred_18 : decode cX3_findBarred 18 = .ok (.iload 4, 2) := by decide +kernel
theorem dX3_findBarred_20 : decode cX3_findBarred 20 = .ok (.ishr, 1) := by decide +kernel
theorem dX3_findBarred_21 : decode cX3_findBarred 21 = .ok (.iconst 1, 1) := by decide +kernel
theorem dX3_findBarred_22 : decode cX3_findBarred 22 = .ok (.iand, 1) := by decide +kernel
theorem dX3_findBarred_23 : decode cX3_findBarred 23 = .ok (.ifCond .ne 6, 3) := by decide +kernel
theorem dX3_findBarred_26 : decode cX3_findBarred 26 = .ok (.goto 62, 3) := by decide +kernel
theorem dX3_findBarred_29 : decode cX3_findBarred 29 = .ok (.aload_n 0, 1) := by decide +kernel
theorem dX3_findBarred_30 : decode cX3_findBarred 30 = .ok (.aload_n 1, 1) := by decide +kernel
theorem dX3_findBarred_31 : decode cX3_findBarred 31 = .ok (.iload 4, 2) := by decide +kernel
theorem dX3_findBarred_33 : decode cX3_findBarred 33 = .ok (.invokevirtual 59, 3) := by decide +kernel
theorem dX3_findBarred_36 : decode cX3_findBarred 36 = .ok (.iload 4, 2) := by decide +kernel
theorem dX3_findBarred_38 : decode cX3_findBarred 38 = .ok (.iconst 1, 1) := by decide +kernel
theorem dX3_findBarred_39 : decode cX3_findBarred 39 = .ok (.iadd, 1) := by decide +kernel
theorem dX3_findBarred_40 : decode cX3_findBarred 40 = .ok (.istore 5, 2) := by decide +kernel
theorem dX3_findBarred_42 : decode cX3_findBarred 42 = .ok (.iload 5, 2) := by decide +kernel
theorem dX3_findBarred_44 : decode cX3_findBarred 44 = .ok (.bipush 12, 2) := by decide +kernel
theorem dX3_findBarred_46 : decode cX3_findBarred 46 = .ok (.if_icmp .ge 42, 3) := by decide +kernel
theorem dX3_findBarred_49 : decode cX3_findBarred 49 = .ok (.iload_n 3, 1) := by decide +kernel
theorem dX3_findBarred_50 : decode cX3_findBarred 50 = .ok (.iload 5, 2) := by decide +kernel
theorem dX3_findBarred_52 : decode cX3_findBarred 52 = .ok (.ishr, 1) := by decide +kernel
theorem dX3_findBarred_53 : decode cX3_findBarred 53 = .ok (.iconst 1, 1) := by decide +kernel
theorem dX3_findBarred_54 : decode cX3_findBarred 54 = .ok (.iand, 1) := by decide +kernel
theorem dX3_findBarred_55 : decode cX3_findBarred 55 = .ok (.iconst 1, 1) := by decide +kernel
theorem dX3_findBarred_56 : decode cX3_findBarred 56 = .ok (.if_icmp .ne 26, 3) := by decide +kernel
theorem dX3_findBarred_59 : decode cX3_findBarred 59 = .ok (.aload_n 1, 1) := by decide +kernel
theorem dX3_findBarred_60 : decode cX3_findBarred 60 = .ok (.iload_n 2, 1) := by decide +kernel
theorem dX3_findBarred_61 : decode cX3_findBarred 61 = .ok (.iload 5, 2) := by decide +kernel
theorem dX3_findBarred_63 : decode cX3_findBarred 63 = .ok (.aload_n 0, 1) := by decide +kernel
theorem dX3_findBarred_64 : decode cX3_findBarred 64 = .ok (.getfield 15, 3) := by decide +kernel
theorem dX3_findBarred_67 : decode cX3_findBarred 67 = .ok (.invokestatic 41, 3) := by decide +kernel
theorem dX3_findBarred_70 : decode cX3_findBarred 70 = .ok (.ifCond .ne 12, 3) := by decide +kernel
theorem dX3_findBarred_73 : decode cX3_findBarred 73 = .ok (.bipush 100, 2) := by decide +kernel
theorem dX3_findBarred_75 : decode cX3_findBarred 75 = .ok (.iload 4, 2) := by decide +kernel
theorem dX3_findBarred_77 : decode cX3_findBarred 77 = .ok (.imul, 1) := by decide +kernel
theorem dX3_findBarred_78 : decode cX3_findBarred 78 = .ok (.iload 5, 2) := by decide +kernel
theorem dX3_findBarred_80 : decode cX3_findBarred 80 = .ok (.iadd, 1) := by decide +kernel
theorem dX3_findBarred_81 : decode cX3_findBarred 81 = .ok (.ireturn, 1) := by decide +kernel
theorem dX3_findBarred_82 : decode cX3_findBarred 82 = .ok (.iinc 5 1, 3) := by decide +kernel
theorem dX3_findBarred_85 : decode cX3_findBarred 85 = .ok (.goto (-43), 3) := by decide +kernel
theorem dX3_findBarred_88 : decode cX3_findBarred 88 = .ok (.iinc 4 1, 3) := by decide +kernel
theorem dX3_findBarred_91 : decode cX3_findBarred 91 = .ok (.goto (-81), 3) := by decide +kernel
theorem dX3_findBarred_94 : decode cX3_findBarred 94 = .ok (.bipush (-6), 2) := by decide +kernel
theorem dX3_findBarred_96 : decode cX3_findBarred 96 = .ok (.ireturn, 1) := by decide +kernel
noncomputable def s_X3_findBarred_42 (a0 : Nat) (a1 : Nat) (x2 : Int32) (v1 : Int32) (v4 : Int32) (M5 : Me) (v7 : Int32) : Option ((Int32) ⊕ ((Int32) ⊕ (Int32 × Me))) :=
  if (12 : Int32) ≤ v7 then (
    some (Sum.inr (Sum.inl v7))
  ) else (
    if ((v1 >>> (v7 &&& 31)) &&& (1 : Int32)) = (1 : Int32) then (
      gr M5 a0 3 1 fun o9 =>
      cP (f_X3_isMet a1 x2 v7 o9 M5) fun v10 =>
      if v10 = 0 then (
        some (Sum.inr (Sum.inr ((((100 : Int32) * v4) + v7), M5)))
      ) else (
        let_v (v7 + (1 : Int32)) fun v11 =>
        some (Sum.inl v11)
      )
    ) else (
      let_v (v7 + (1 : Int32)) fun v8 =>
      some (Sum.inl v8)
    )
  )
noncomputable def s_X3_findBarred_10 (a0 : Nat) (a1 : Nat) (x2 : Int32) (v1 : Int32) (M3 : Me) (v4 : Int32) : Option ((Me × Int32) ⊕ ((Me × Int32) ⊕ (Int32 × Me))) :=
  if (12 : Int32) ≤ v4 then (
    some (Sum.inr (Sum.inl (M3, v4)))
  ) else (
    if ((v1 >>> (v4 &&& 31)) &&& (1 : Int32)) = 0 then (
      let_v (v4 + (1 : Int32)) fun v14 =>
      some (Sum.inl (M3, v14))
    ) else (
      cM (f_X3_goOnFrom a0 a1 v4 M3) fun M5 =>
      let_v ((v4 + (1 : Int32))) fun v6 =>
      ex_r (lp (fun s => s_X3_findBarred_42 a0 a1 x2 v1 v4 M5 s) v6) (fun e12 =>
        let_v (v4 + (1 : Int32)) fun v13 =>
        some (Sum.inl (M5, v13))
      ) (fun t => some (Sum.inr (Sum.inr t)))
    )
  )
noncomputable def b_X3_findBarred (a0 : Nat) (a1 : Nat) (x2 : Int32) (M : Me) : Option (Int32 × Me) :=
  cI (f_X3_metAlone a0 a1 x2 M) fun v1 M2 =>
  ex_r (lp (fun s => s_X3_findBarred_10 a0 a1 x2 v1 s.1 s.2) (M2, (0 : Int32))) (fun e15 =>
    some ((-6 : Int32), e15.1)
  ) (fun t => some t)
noncomputable def f_X3_findBarred (a0 : Nat) (a1 : Nat) (x2 : Int32) (M : Me) : Option (Int32 × Me) := ck M a0 3 (b_X3_findBarred a0 a1 x2 M)
set_option maxRecDepth 20000 in
theorem vb_X3_findBarred (d : Nat) (hd : 5 ≤ d) (a0 : Nat) (a1 : Nat) (x2 : Int32) (M : Me) : V (mX3_findBarred, d, 0, 0) (0, 0) M 0 [some (.ref a0), some (.ref a1), some (.int x2), none, none, none] [] (b_X3_findBarred a0 a1 x2 M) (fun z => some (some (.int z.1), z.2)) := by
  unfold b_X3_findBarred
  refine v_aload_n (q := 1) dX3_findBarred_0 rfl rfl rfl ?_
  refine v_aload_n (q := 2) dX3_findBarred_1 rfl rfl rfl ?_
  refine v_iload_n (q := 3) dX3_findBarred_2 rfl rfl rfl ?_
  refine v_cIV2 (q := 6) (ct_X3_metAlone (d - 1) (by omega) _ _ _ _) dX3_findBarred_3 rfl cc_X3_45 (by omega) (Nat.le_of_ble_eq_true rfl) ⟨Nat.le_of_ble_eq_true rfl, Nat.le_of_ble_eq_true rfl⟩ (fun v1 M2 => ?_)
  refine v_istore_n (q := 7) (loc2 := [some (.ref a0), some (.ref a1), some (.int x2), some (.int v1), none, none]) dX3_findBarred_6 rfl rfl rfl (Nat.le_of_ble_eq_true rfl) rfl ?_
  refine v_iconst (q := 8) dX3_findBarred_7 rfl ic_0 ?_
  refine v_istore (q := 10) (loc2 := [some (.ref a0), some (.ref a1), some (.int x2), some (.int v1), some (.int (0 : Int32)), none]) dX3_findBarred_8 rfl rfl (Nat.le_of_ble_eq_true rfl) rfl ?_
  refine v_lpr (S := Me × Int32) 94 (fun s => s.1) (fun s => [some (.ref a0), some (.ref a1), some (.int x2), some (.int v1), some (.int s.2), none]) (fun e15 => e15.1) (fun e15 => [some (.ref a0), some (.ref a1), some (.int x2), some (.int v1), some (.int e15.2), none]) (fun e15 => ?_) (fun k K hk hx s => ?_)
  · refine v_bipush (q := 96) dX3_findBarred_94 rfl bp_m6 ?_
    exact v_iret rfl dX3_findBarred_96 ⟨Nat.le_of_ble_eq_true rfl, Nat.le_of_ble_eq_true rfl⟩ rfl
  · obtain ⟨M3, v4⟩ := s
    show V _ _ M3 10 [some (.ref a0), some (.ref a1), some (.int x2), some (.int v1), some (.int v4), none] [] (s_X3_findBarred_10 a0 a1 x2 v1 M3 v4) _
    unfold s_X3_findBarred_10
    refine v_iload (q := 12) dX3_findBarred_10 rfl rfl ?_
    refine v_bipush (q := 14) dX3_findBarred_12 rfl bp_12 ?_
    refine v_icmp_ge (tgt := 94) (q := 17) dX3_findBarred_14 rfl rfl ?_ ?_
    · exact v_inr (v_sml (hx (M3, v4)))
    · refine v_iload_n (q := 18) dX3_findBarred_17 rfl rfl rfl ?_
      refine v_iload (q := 20) dX3_findBarred_18 rfl rfl ?_
      refine v_ishr (q := 21) dX3_findBarred_20 rfl ?_
      refine v_iconst (q := 22) dX3_findBarred_21 rfl ic_1 ?_
      refine v_iand (q := 23) dX3_findBarred_22 rfl ?_
      refine v_if_ne (tgt := 29) (q := 26) dX3_findBarred_23 rfl rfl ?_ ?_
      · refine v_aload_n (q := 30) dX3_findBarred_29 rfl rfl rfl ?_
        refine v_aload_n (q := 31) dX3_findBarred_30 rfl rfl rfl ?_
        refine v_iload (q := 33) dX3_findBarred_31 rfl rfl ?_
        refine v_cMV2 (q := 36) (ct_X3_goOnFrom (d - 1) (by omega) _ _ _ _) dX3_findBarred_33 rfl cc_X3_59 (by omega) (Nat.le_of_ble_eq_true rfl) ⟨Nat.le_of_ble_eq_true rfl, Nat.le_of_ble_eq_true rfl⟩ (fun M5 => ?_)
        refine v_iload (q := 38) dX3_findBarred_36 rfl rfl ?_
        refine v_iconst (q := 39) dX3_findBarred_38 rfl ic_1 ?_
        refine v_iadd (q := 40) dX3_findBarred_39 rfl ?_
        refine v_letI (fun v6 => ?_)
        refine v_istore (q := 42) (loc2 := [some (.ref a0), some (.ref a1), some (.int x2), some (.int v1), some (.int v4), some (.int v6)]) dX3_findBarred_40 rfl rfl (Nat.le_of_ble_eq_true rfl) rfl ?_
        refine v_lpr (S := Int32) 88 (fun s => M5) (fun s => [some (.ref a0), some (.ref a1), some (.int x2), some (.int v1), some (.int v4), some (.int s)]) (fun e12 => M5) (fun e12 => [some (.ref a0), some (.ref a1), some (.int x2), some (.int v1), some (.int v4), some (.int e12)]) (fun e12 => ?_) (fun k K hk hx s => ?_)
        · refine v_iincL (q := 91) (x := v4) (cst := (1 : Int32)) (f := fun v13 => [some (.ref a0), some (.ref a1), some (.int x2), some (.int v1), some (.int v13), some (.int e12)]) dX3_findBarred_88 rfl rfl ic_1 rfl (Nat.le_of_ble_eq_true rfl) (fun _ => rfl) (fun v13 => ?_)
          refine v_goto (tgt := 10) dX3_findBarred_91 rfl ?_
          exact v_inl (v_weak (hk (M5, v13)) ⟨rfl, ⟨rfl, ⟨rfl, ⟨rfl, ⟨rfl, trivial⟩⟩⟩⟩⟩)
        · obtain ⟨v7, rfl⟩ : ∃ z, z = s := ⟨_, rfl⟩
          show V _ _ M5 42 [some (.ref a0), some (.ref a1), some (.int x2), some (.int v1), some (.int v4), some (.int v7)] [] (s_X3_findBarred_42 a0 a1 x2 v1 v4 M5 v7) _
          unfold s_X3_findBarred_42
          refine v_iload (q := 44) dX3_findBarred_42 rfl rfl ?_
          refine v_bipush (q := 46) dX3_findBarred_44 rfl bp_12 ?_
          refine v_icmp_ge (tgt := 88) (q := 49) dX3_findBarred_46 rfl rfl ?_ ?_
          · exact v_inr (v_sml (hx v7))
          · refine v_iload_n (q := 50) dX3_findBarred_49 rfl rfl rfl ?_
            refine v_iload (q := 52) dX3_findBarred_50 rfl rfl ?_
            refine v_ishr (q := 53) dX3_findBarred_52 rfl ?_
            refine v_iconst (q := 54) dX3_findBarred_53 rfl ic_1 ?_
            refine v_iand (q := 55) dX3_findBarred_54 rfl ?_
            refine v_iconst (q := 56) dX3_findBarred_55 rfl ic_1 ?_
            refine v_icmp_ne (tgt := 82) (q := 59) dX3_findBarred_56 rfl rfl ?_ ?_
            · refine v_iincL (q := 85) (x := v7) (cst := (1 : Int32)) (f := fun v8 => [some (.ref a0), some (.ref a1), some (.int x2), some (.int v1), some (.int v4), some (.int v8)]) dX3_findBarred_82 rfl rfl ic_1 rfl (Nat.le_of_ble_eq_true rfl) (fun _ => rfl) (fun v8 => ?_)
              refine v_goto (tgt := 42) dX3_findBarred_85 rfl ?_
              exact v_inl (hk v8)
            · refine v_aload_n (q := 60) dX3_findBarred_59 rfl rfl rfl ?_
              refine v_iload_n (q := 61) dX3_findBarred_60 rfl rfl rfl ?_
              refine v_iload (q := 63) dX3_findBarred_61 rfl rfl ?_
              refine v_aload_n (q := 64) dX3_findBarred_63 rfl rfl rfl ?_
              refine v_getRb (q := 67) dX3_findBarred_64 rfl fg_X3_15 (fun o9 => ?_)
              refine v_cPS4 (q := 70) (ct_X3_isMet (d - 1) (by omega) _ _ _ _ _) dX3_findBarred_67 rfl cc_X3_41 (by omega) (Nat.le_of_ble_eq_true rfl) ⟨Nat.le_of_ble_eq_true rfl, Nat.le_of_ble_eq_true rfl⟩ (fun v10 => ?_)
              refine v_if_ne (tgt := 82) (q := 73) dX3_findBarred_70 rfl rfl ?_ ?_
              · refine v_iincL (q := 85) (x := v7) (cst := (1 : Int32)) (f := fun v11 => [some (.ref a0), some (.ref a1), some (.int x2), some (.int v1), some (.int v4), some (.int v11)]) dX3_findBarred_82 rfl rfl ic_1 rfl (Nat.le_of_ble_eq_true rfl) (fun _ => rfl) (fun v11 => ?_)
                refine v_goto (tgt := 42) dX3_findBarred_85 rfl ?_
                exact v_inl (hk v11)
              · refine v_bipush (q := 75) dX3_findBarred_73 rfl bp_100 ?_
                refine v_iload (q := 77) dX3_findBarred_75 rfl rfl ?_
                refine v_imul (q := 78) dX3_findBarred_77 rfl ?_
                refine v_iload (q := 80) dX3_findBarred_78 rfl rfl ?_
                refine v_iadd (q := 81) dX3_findBarred_80 rfl ?_
                exact v_iret rfl dX3_findBarred_81 ⟨Nat.le_of_ble_eq_true rfl, Nat.le_of_ble_eq_true rfl⟩ rfl
      · refine v_goto (tgt := 88) dX3_findBarred_26 rfl ?_
        refine v_iincL (q := 91) (x := v4) (cst := (1 : Int32)) (f := fun v14 => [some (.ref a0), some (.ref a1), some (.int x2), some (.int v1), some (.int v14), none]) dX3_findBarred_88 rfl rfl ic_1 rfl (Nat.le_of_ble_eq_true rfl) (fun _ => rfl) (fun v14 => ?_)
        refine v_goto (tgt := 10) dX3_findBarred_91 rfl ?_
        exact v_inl (hk (M3, v14))
theorem ct_X3_findBarred (d : Nat) (hd : 5 ≤ d) (a0 : Nat) (a1 : Nat) (x2 : Int32) (M : Me) (r : Int32) (M2 : Me) (hf : f_X3_findBarred a0 a1 x2 M = some (r, M2)) : me_k M a0 = some (3, nf_c 3) ∧ Ct yX3_findBarred mX3_findBarred d 0 0 [.ref a0, .ref a1, .int x2] M (some (.int r), M2) := by
  obtain ⟨hk, hb⟩ := ck_some hf
  exact ⟨hk, ct_of (by decide +kernel) rfl rfl (Nat.le_of_ble_eq_true rfl) (vb_X3_findBarred d hd a0 a1 x2 M) (by rw [hb]; rfl)⟩
theorem dX4_come_0 : decode cX4_come 0 = .ok (.aload_n 0, 1) := by decide +kernel
theorem dX4_come_1 : decode cX4_come 1 = .ok (.iconst 1, 1) := by decide +kernel
theorem dX4_come_2 : decode cX4_come 2 = .ok (.putfield 9, 3) := by decide +kernel
theorem dX4_come_5 : decode cX4_come 5 = .ok (.aload_n 0, 1) := by decide +kernel
theorem dX4_come_6 : decode cX4_come 6 = .ok (.iload_n 1, 1) := by decide +kernel
theorem dX4_come_7 : decode cX4_come 7 = .ok (.putfield 15, 3) := by decide +kernel
theorem dX4_come_10 : decode cX4_come 10 = .ok (.aload_n 0, 1) := by decide +kernel
theorem dX4_come_11 : decode cX4_come 11 = .ok (.iload_n 2, 1) := by decide +kernel
theorem dX4_come_12 : decode cX4_come 12 = .ok (.putfield 19, 3) := by decide +kernel
theorem dX4_come_15 : decode cX4_come 15 = .ok (.aload_n 0, 1) := by decide +kernel
theorem dX4_come_16 : decode cX4_come 16 = .ok (.iload_n 3, 1) := by decide +kernel
theorem dX4_come_17 : decode cX4_come 17 = .ok (.putfield 22, 3) := by decide +kernel
theorem dX4_come_20 : decode cX4_come 20 = .ok (.aload_n 0, 1) := by decide +kernel
theorem dX4_come_21 : decode cX4_come 21 = .ok (.iload 4, 2) := by decide +kernel
theorem dX4_come_23 : decode cX4_come 23 = .ok (.putfield 25, 3) := by decide +kernel
theorem dX4_come_26 : decode cX4_come 26 = .ok (.aload_n 0, 1) := by decide +kernel
theorem dX4_come_27 : decode cX4_come 27 = .ok (.iload_n 1, 1) := by decide +kernel
theorem dX4_come_28 : decode cX4_come 28 = .ok (.putfield 28, 3) := by decide +kernel
theorem dX4_come_31 : decode cX4_come 31 = .ok (.aload_n 0, 1) := by decide +kernel
theorem dX4_come_32 : decode cX4_come 32 = .ok (.iconst 0, 1) := by decide +kernel
theorem dX4_come_33 : decode cX4_come 33 = .ok (.putfield 31, 3) := by decide +kernel
theorem dX4_come_36 : decode cX4_come 36 = .ok (.return_, 1) := by decide +kernel
noncomputable def b_X4_come (a0 : Nat) (x1 : Int32) (x2 : Int32) (x3 : Int32) (x4 : Int32) (M : Me) : Option (Me) :=
  pz M a0 4 0 (1 : Int32) fun M1 =>
  pi M1 a0 4 1 x1 fun M2 =>
  pi M2 a0 4 2 x2 fun M3 =>
  pi M3 a0 4 3 x3 fun M4 =>
  pi M4 a0 4 4 x4 fun M5 =>
  pi M5 a0 4 5 x1 fun M6 =>
  pi M6 a0 4 6 (0 : Int32) fun M7 =>
  some M7
noncomputable def f_X4_come (a0 : Nat) (x1 : Int32) (x2 : Int32) (x3 : Int32) (x4 : Int32) (M : Me) : Option (Me) := ck M a0 4 (b_X4_come a0 x1 x2 x3 x4 M)
set_option maxRecDepth 20000 in
theorem vb_X4_come (d : Nat) (hd : 0 ≤ d) (a0 : Nat) (x1 : Int32) (x2 : Int32) (x3 : Int32) (x4 : Int32) (M : Me) : V (mX4_come, d, 0, 0) (0, 0) M 0 [some (.ref a0), some (.int x1), some (.int x2), some (.int x3), some (.int x4)] [] (b_X4_come a0 x1 x2 x3 x4 M) (fun M2 => some (none, M2)) := by
  unfold b_X4_come
  refine v_aload_n (q := 1) dX4_come_0 rfl rfl rfl ?_
  refine v_iconst (q := 2) dX4_come_1 rfl ic_1 ?_
  refine v_putZb (q := 5) dX4_come_2 rfl fp_X4_9 (fun M1 => ?_)
  refine v_aload_n (q := 6) dX4_come_5 rfl rfl rfl ?_
  refine v_iload_n (q := 7) dX4_come_6 rfl rfl rfl ?_
  refine v_putIb (q := 10) dX4_come_7 rfl fp_X4_15 (fun M2 => ?_)
  refine v_aload_n (q := 11) dX4_come_10 rfl rfl rfl ?_
  refine v_iload_n (q := 12) dX4_come_11 rfl rfl rfl ?_
  refine v_putIb (q := 15) dX4_come_12 rfl fp_X4_19 (fun M3 => ?_)
  refine v_aload_n (q := 16) dX4_come_15 rfl rfl rfl ?_
  refine v_iload_n (q := 17) dX4_come_16 rfl rfl rfl ?_
  refine v_putIb (q := 20) dX4_come_17 rfl fp_X4_22 (fun M4 => ?_)
  refine v_aload_n (q := 21) dX4_come_20 rfl rfl rfl ?_
  refine v_iload (q := 23) dX4_come_21 rfl rfl ?_
  refine v_putIb (q := 26) dX4_come_23 rfl fp_X4_25 (fun M5 => ?_)
  refine v_aload_n (q := 27) dX4_come_26 rfl rfl rfl ?_
  refine v_iload_n (q := 28) dX4_come_27 rfl rfl rfl ?_
  refine v_putIb (q := 31) dX4_come_28 rfl fp_X4_28 (fun M6 => ?_)
  refine v_aload_n (q := 32) dX4_come_31 rfl rfl rfl ?_
  refine v_iconst (q := 33) dX4_come_32 rfl ic_0 ?_
  refine v_putIb (q := 36) dX4_come_33 rfl fp_X4_31 (fun M7 => ?_)
  exact v_vret rfl dX4_come_36 ⟨Nat.le_of_ble_eq_true rfl, Nat.le_of_ble_eq_true rfl⟩ rfl
theorem ct_X4_come (d : Nat) (hd : 0 ≤ d) (a0 : Nat) (x1 : Int32) (x2 : Int32) (x3 : Int32) (x4 : Int32) (M : Me) (r : Me) (hf : f_X4_come a0 x1 x2 x3 x4 M = some r) : me_k M a0 = some (4, nf_c 4) ∧ Ct yX4_come mX4_come d 0 0 [.ref a0, .int x1, .int x2, .int x3, .int x4] M (none, r) := by
  obtain ⟨hk, hb⟩ := ck_some hf
  exact ⟨hk, ct_of (by decide +kernel) rfl rfl (Nat.le_of_ble_eq_true rfl) (vb_X4_come d hd a0 x1 x2 x3 x4 M) (by rw [hb]; rfl)⟩
theorem dX4_tell_0 : decode cX4_tell 0 = .ok (.iload_n 1, 1) := by decide +kernel
theorem dX4_tell_1 : decode cX4_tell 1 = .ok (.tableswitch 58 0 2 #[27, 44, 49], 27) := by decide +kernel
theorem dX4_tell_28 : decode cX4_tell 28 = .ok (.aload_n 0, 1) := by decide +kernel
theorem dX4_tell_29 : decode cX4_tell 29 = .ok (.getfield 31, 3) := by decide +kernel
theorem dX4_tell_32 : decode cX4_tell 32 = .ok (.ifCond .le 8, 3) := by decide +kernel
theorem dX4_tell_35 : decode cX4_tell 35 = .ok (.bipush (-6), 2) := by decide +kernel
theorem dX4_tell_37 : decode cX4_tell 37 = .ok (.goto 7, 3) := by decide +kernel
theorem dX4_tell_40 : decode cX4_tell 40 = .ok (.aload_n 0, 1) := by decide +kernel
theorem dX4_tell_41 : decode cX4_tell 41 = .ok (.getfield 28, 3) := by decide +kernel
theorem dX4_tell_44 : decode cX4_tell 44 = .ok (.ireturn, 1) := by decide +kernel
theorem dX4_tell_45 : decode cX4_tell 45 = .ok (.aload_n 0, 1) := by decide +kernel
theorem dX4_tell_46 : decode cX4_tell 46 = .ok (.getfield 22, 3) := by decide +kernel
theorem dX4_tell_49 : decode cX4_tell 49 = .ok (.ireturn, 1) := by decide +kernel
theorem dX4_tell_50 : decode cX4_tell 50 = .ok (.aload_n 0, 1) := by decide +kernel
theorem dX4_tell_51 : decode cX4_tell 51 = .ok (.getfield 25, 3) := by decide +kernel
theorem dX4_tell_54 : decode cX4_tell 54 = .ok (.sipush 10000, 3) := by decide +kernel
theorem dX4_tell_57 : decode cX4_tell 57 = .ok (.iadd, 1) := by decide +kernel
theorem dX4_tell_58 : decode cX4_tell 58 = .ok (.ireturn, 1) := by decide +kernel
theorem dX4_tell_59 : decode cX4_tell 59 = .ok (.aload_n 0, 1) := by decide +kernel
theorem dX4_tell_60 : decode cX4_tell 60 = .ok (.invokevirtual 34, 3) := by decide +kernel
theorem dX4_tell_63 : decode cX4_tell 63 = .ok (.ifCond .eq 7, 3) := by decide +kernel
theorem dX4_tell_66 : decode cX4_tell 66 = .ok (.iconst 1, 1) := by decide +kernel
theorem dX4_tell_67 : decode cX4_tell 67 = .ok (.goto 4, 3) := by decide +kernel
theorem dX4_tell_70 : decode cX4_tell 70 = .ok (.iconst 0, 1) := by decide +kernel
theorem dX4_tell_71 : decode cX4_tell 71 = .ok (.ireturn, 1) := by decide +kernel
noncomputable def b_X4_tell (a0 : Nat) (x1 : Int32) (M : Me) : Option (Int32) :=
  if x1 = (0 : Int32) then (
    gi M a0 4 6 fun v1 =>
    (
      if v1 ≤ 0 then (
        gi M a0 4 5 fun v2 =>
        some v2
      ) else (
        some (-6 : Int32)
      )
    ).bind fun v3 =>
    some v3
  ) else (
    if x1 = (1 : Int32) then (
      gi M a0 4 3 fun v4 =>
      some v4
    ) else (
      if x1 = (2 : Int32) then (
        gi M a0 4 4 fun v5 =>
        some (v5 + (10000 : Int32))
      ) else (
        cP (f_X4_isDead a0 M) fun v6 =>
        (
          if v6 = 0 then (
            some (0 : Int32)
          ) else (
            some (1 : Int32)
          )
        ).bind fun v7 =>
        some v7
      )
    )
  )
noncomputable def f_X4_tell (a0 : Nat) (x1 : Int32) (M : Me) : Option (Int32) := ck M a0 4 (b_X4_tell a0 x1 M)
set_option maxRecDepth 20000 in
theorem vb_X4_tell (d : Nat) (hd : 1 ≤ d) (a0 : Nat) (x1 : Int32) (M : Me) : V (mX4_tell, d, 0, 0) (0, 0) M 0 [some (.ref a0), some (.int x1)] [] (b_X4_tell a0 x1 M) (fun z => some (some (.int z), M)) := by
  unfold b_X4_tell
  refine v_iload_n (q := 1) dX4_tell_0 rfl rfl rfl ?_
  refine v_ite (fun h0 => ?_) (fun h0 => ?_)
  · refine v_tbl_in (cst := (0 : Int32)) (off := 27) (tgt := 28) dX4_tell_1 h0 (by decide) (by decide) (by decide) rfl ?_
    refine v_aload_n (q := 29) dX4_tell_28 rfl rfl rfl ?_
    refine v_getIb (q := 32) dX4_tell_29 rfl fg_X4_31 (fun v1 => ?_)
    refine v_join (γ := Int32) 44 (fun v3 => M) (fun v3 => [some (.ref a0), some (.int x1)]) (fun v3 => [.int v3]) (fun K hK => ?_) (fun v3 => ?_)
    · refine v_if_le (tgt := 40) (q := 35) dX4_tell_32 rfl rfl ?_ ?_
      · refine v_aload_n (q := 41) dX4_tell_40 rfl rfl rfl ?_
        refine v_getIb (q := 44) dX4_tell_41 rfl fg_X4_28 (fun v2 => ?_)
        exact hK v2
      · refine v_bipush (q := 37) dX4_tell_35 rfl bp_m6 ?_
        refine v_goto (tgt := 44) dX4_tell_37 rfl ?_
        exact hK (-6 : Int32)
    · exact v_iret rfl dX4_tell_44 ⟨Nat.le_of_ble_eq_true rfl, Nat.le_of_ble_eq_true rfl⟩ rfl
  · refine v_ite (fun h1 => ?_) (fun h1 => ?_)
    · refine v_tbl_in (cst := (1 : Int32)) (off := 44) (tgt := 45) dX4_tell_1 h1 (by decide) (by decide) (by decide) rfl ?_
      refine v_aload_n (q := 46) dX4_tell_45 rfl rfl rfl ?_
      refine v_getIb (q := 49) dX4_tell_46 rfl fg_X4_22 (fun v4 => ?_)
      exact v_iret rfl dX4_tell_49 ⟨Nat.le_of_ble_eq_true rfl, Nat.le_of_ble_eq_true rfl⟩ rfl
    · refine v_ite (fun h2 => ?_) (fun h2 => ?_)
      · refine v_tbl_in (cst := (2 : Int32)) (off := 49) (tgt := 50) dX4_tell_1 h2 (by decide) (by decide) (by decide) rfl ?_
        refine v_aload_n (q := 51) dX4_tell_50 rfl rfl rfl ?_
        refine v_getIb (q := 54) dX4_tell_51 rfl fg_X4_25 (fun v5 => ?_)
        refine v_sipush (q := 57) dX4_tell_54 rfl sp_10000 ?_
        refine v_iadd (q := 58) dX4_tell_57 rfl ?_
        exact v_iret rfl dX4_tell_58 ⟨Nat.le_of_ble_eq_true rfl, Nat.le_of_ble_eq_true rfl⟩ rfl
      · refine v_tbl_out (tgt := 59) dX4_tell_1 (by have q0 := lv_neT h0 (a := 0) (by decide); have q1 := lv_neT h1 (a := 1) (by decide); have q2 := lv_neT h2 (a := 2) (by decide); omega) rfl ?_
        refine v_aload_n (q := 60) dX4_tell_59 rfl rfl rfl ?_
        refine v_cPV0 (q := 63) (ct_X4_isDead (d - 1) (by omega) _ _) dX4_tell_60 rfl cc_X4_34 (by omega) (Nat.le_of_ble_eq_true rfl) ⟨Nat.le_of_ble_eq_true rfl, Nat.le_of_ble_eq_true rfl⟩ (fun v6 => ?_)
        refine v_join (γ := Int32) 71 (fun v7 => M) (fun v7 => [some (.ref a0), some (.int x1)]) (fun v7 => [.int v7]) (fun K hK => ?_) (fun v7 => ?_)
        · refine v_if_eq (tgt := 70) (q := 66) dX4_tell_63 rfl rfl ?_ ?_
          · refine v_iconst (q := 71) dX4_tell_70 rfl ic_0 ?_
            exact hK (0 : Int32)
          · refine v_iconst (q := 67) dX4_tell_66 rfl ic_1 ?_
            refine v_goto (tgt := 71) dX4_tell_67 rfl ?_
            exact hK (1 : Int32)
        · exact v_iret rfl dX4_tell_71 ⟨Nat.le_of_ble_eq_true rfl, Nat.le_of_ble_eq_true rfl⟩ rfl
theorem ct_X4_tell (d : Nat) (hd : 1 ≤ d) (a0 : Nat) (x1 : Int32) (M : Me) (r : Int32) (hf : f_X4_tell a0 x1 M = some r) : me_k M a0 = some (4, nf_c 4) ∧ Ct yX4_tell mX4_tell d 0 0 [.ref a0, .int x1] M (some (.int r), M) := by
  obtain ⟨hk, hb⟩ := ck_some hf
  exact ⟨hk, ct_of (by decide +kernel) rfl rfl (Nat.le_of_ble_eq_true rfl) (vb_X4_tell d hd a0 x1 M) (by rw [hb]; rfl)⟩
theorem dX5_layRoad_0 : decode cX5_layRoad 0 = .ok (.aload_n 0, 1) := by decide +kernel
theorem dX5_layRoad_1 : decode cX5_layRoad 1 = .ok (.iload_n 1, 1) := by decide +kernel
theorem dX5_layRoad_2 : decode cX5_layRoad 2 = .ok (.invokevirtual 28, 3) := by decide +kernel
theorem dX5_layRoad_5 : decode cX5_layRoad 5 = .ok (.ifCond .eq 33, 3) := by decide +kernel
theorem dX5_layRoad_8 : decode cX5_layRoad 8 = .ok (.aload_n 0, 1) := by decide +kernel
theorem dX5_layRoad_9 : decode cX5_layRoad 9 = .ok (.iload_n 2, 1) := by decide +kernel
theorem dX5_layRoad_10 : decode cX5_layRoad 10 = .ok (.invokevirtual 28, 3) := by decide +kernel
theorem dX5_layRoad_13 : decode cX5_layRoad 13 = .ok (.ifCond .eq 25, 3) := by decide +kernel
theorem dX5_layRoad_16 : decode cX5_layRoad 16 = .ok (.aload_n 0, 1) := by decide +kernel
theorem dX5_layRoad_17 : decode cX5_layRoad 17 = .ok (.getfield 18, 3) := by decide +kernel
theorem dX5_layRoad_20 : decode cX5_layRoad 20 = .ok (.iload_n 1, 1) := by decide +kernel
theorem dX5_layRoad_21 : decode cX5_layRoad 21 = .ok (.iconst 5, 1) := by decide +kernel
theorem dX5_layRoad_22 : decode cX5_layRoad 22 = .ok (.imul, 1) := by decide +kernel
theorem dX5_layRoad_23 : decode cX5_layRoad 23 = .ok (.iload_n 2, 1) := by decide +kernel
theorem dX5_layRoad_24 : decode cX5_layRoad 24 = .ok (.iadd, 1) := by decide +kernel
theorem dX5_layRoad_25 : decode cX5_layRoad 25 = .ok (.iload_n 3, 1) := by decide +kernel
theorem dX5_layRoad_26 : decode cX5_layRoad 26 = .ok (.iastore, 1) := by decide +kernel
theorem dX5_layRoad_27 : decode cX5_layRoad 27 = .ok (.aload_n 0, 1) := by decide +kernel
theorem dX5_layRoad_28 : decode cX5_layRoad 28 = .ok (.getfield 18, 3) := by decide +kernel
theorem dX5_layRoad_31 : decode cX5_layRoad 31 = .ok (.iload_n 2, 1) := by decide +kernel
theorem dX5_layRoad_32 : decode cX5_layRoad 32 = .ok (.iconst 5, 1) := by decide +kernel
theorem dX5_layRoad_33 : decode cX5_layRoad 33 = .ok (.imul, 1) := by decide +kernel
theorem dX5_layRoad_34 : decode cX5_layRoad 34 = .ok (.iload_n 1, 1) := by decide +kernel
theorem dX5_layRoad_35 : decode cX5_layRoad 35 = .ok (.iadd, 1) := by decide +kernel
theorem dX5_layRoad_36 : decode cX5_layRoad 36 = .ok (.iload_n 3, 1) := by decide +kernel
theorem dX5_layRoad_37 : decode cX5_layRoad 37 = .ok (.iastore, 1) := by decide +kernel
theorem dX5_layRoad_38 : decode cX5_layRoad 38 = .ok (.return_, 1) := by decide +kernel
noncomputable def b_X5_layRoad (a0 : Nat) (x1 : Int32) (x2 : Int32) (x3 : Int32) (M : Me) : Option (Me) :=
  cP (f_X5_hasChapel a0 x1 M) fun v1 =>
  (
    if v1 = 0 then (
      some M
    ) else (
      cP (f_X5_hasChapel a0 x2 M) fun v2 =>
      if v2 = 0 then (
        some M
      ) else (
        gr M a0 5 2 fun o3 =>
        si M o3 ((x1 * (5 : Int32)) + x2) x3 fun M4 =>
        gr M4 a0 5 2 fun o5 =>
        si M4 o5 ((x2 * (5 : Int32)) + x1) x3 fun M6 =>
        some M6
      )
    )
  ).bind fun M7 =>
  some M7
noncomputable def f_X5_layRoad (a0 : Nat) (x1 : Int32) (x2 : Int32) (x3 : Int32) (M : Me) : Option (Me) := ck M a0 5 (b_X5_layRoad a0 x1 x2 x3 M)
set_option maxRecDepth 20000 in
theorem vb_X5_layRoad (d : Nat) (hd : 1 ≤ d) (a0 : Nat) (x1 : Int32) (x2 : Int32) (x3 : Int32) (M : Me) : V (mX5_layRoad, d, 0, 0) (0, 0) M 0 [some (.ref a0), some (.int x1), some (.int x2), some (.int x3)] [] (b_X5_layRoad a0 x1 x2 x3 M) (fun M2 => some (none, M2)) := by
  unfold b_X5_layRoad
  refine v_aload_n (q := 1) dX5_layRoad_0 rfl rfl rfl ?_
  refine v_iload_n (q := 2) dX5_layRoad_1 rfl rfl rfl ?_
  refine v_cPV1 (q := 5) (ct_X5_hasChapel (d - 1) (by omega) _ _ _) dX5_layRoad_2 rfl cc_X5_28 (by omega) (Nat.le_of_ble_eq_true rfl) ⟨Nat.le_of_ble_eq_true rfl, Nat.le_of_ble_eq_true rfl⟩ (fun v1 => ?_)
  refine v_join (γ := Me) 38 (fun M7 => M7) (fun M7 => [some (.ref a0), some (.int x1), some (.int x2), some (.int x3)]) (fun M7 => []) (fun K hK => ?_) (fun M7 => ?_)
  · refine v_if_eq (tgt := 38) (q := 8) dX5_layRoad_5 rfl rfl ?_ ?_
    · exact hK M
    · refine v_aload_n (q := 9) dX5_layRoad_8 rfl rfl rfl ?_
      refine v_iload_n (q := 10) dX5_layRoad_9 rfl rfl rfl ?_
      refine v_cPV1 (q := 13) (ct_X5_hasChapel (d - 1) (by omega) _ _ _) dX5_layRoad_10 rfl cc_X5_28 (by omega) (Nat.le_of_ble_eq_true rfl) ⟨Nat.le_of_ble_eq_true rfl, Nat.le_of_ble_eq_true rfl⟩ (fun v2 => ?_)
      refine v_if_eq (tgt := 38) (q := 16) dX5_layRoad_13 rfl rfl ?_ ?_
      · exact hK M
      · refine v_aload_n (q := 17) dX5_layRoad_16 rfl rfl rfl ?_
        refine v_getRb (q := 20) dX5_layRoad_17 rfl fg_X5_18 (fun o3 => ?_)
        refine v_iload_n (q := 21) dX5_layRoad_20 rfl rfl rfl ?_
        refine v_iconst (q := 22) dX5_layRoad_21 rfl ic_5 ?_
        refine v_imul (q := 23) dX5_layRoad_22 rfl ?_
        refine v_iload_n (q := 24) dX5_layRoad_23 rfl rfl rfl ?_
        refine v_iadd (q := 25) dX5_layRoad_24 rfl ?_
        refine v_iload_n (q := 26) dX5_layRoad_25 rfl rfl rfl ?_
        refine v_iastore (q := 27) dX5_layRoad_26 rfl (fun M4 => ?_)
        refine v_aload_n (q := 28) dX5_layRoad_27 rfl rfl rfl ?_
        refine v_getRb (q := 31) dX5_layRoad_28 rfl fg_X5_18 (fun o5 => ?_)
        refine v_iload_n (q := 32) dX5_layRoad_31 rfl rfl rfl ?_
        refine v_iconst (q := 33) dX5_layRoad_32 rfl ic_5 ?_
        refine v_imul (q := 34) dX5_layRoad_33 rfl ?_
        refine v_iload_n (q := 35) dX5_layRoad_34 rfl rfl rfl ?_
        refine v_iadd (q := 36) dX5_layRoad_35 rfl ?_
        refine v_iload_n (q := 37) dX5_layRoad_36 rfl rfl rfl ?_
        refine v_iastore (q := 38) dX5_layRoad_37 rfl (fun M6 => ?_)
        exact hK M6
  · exact v_vret rfl dX5_layRoad_38 ⟨Nat.le_of_ble_eq_true rfl, Nat.le_of_ble_eq_true rfl⟩ rfl
theorem ct_X5_layRoad (d : Nat) (hd : 1 ≤ d) (a0 : Nat) (x1 : Int32) (x2 : Int32) (x3 : Int32) (M : Me) (r : Me) (hf : f_X5_layRoad a0 x1 x2 x3 M = some r) : me_k M a0 = some (5, nf_c 5) ∧ Ct yX5_layRoad mX5_layRoad d 0 0 [.ref a0, .int x1, .int x2, .int x3] M (none, r) := by
  obtain ⟨hk, hb⟩ := ck_some hf
  exact ⟨hk, ct_of (by decide +kernel) rfl rfl (Nat.le_of_ble_eq_true rfl) (vb_X5_layRoad d hd a0 x1 x2 x3 M) (by rw [hb]; rfl)⟩
theorem dX6_init_0 : decode cX6_init 0 = .ok (.aload_n 0, 1) := by decide +kernel
theorem dX6_init_1 : decode cX6_init 1 = .ok (.invokespecial 3, 3) := by decide +kernel
theorem dX6_init_4 : decode cX6_init 4 = .ok (.aload_n 0, 1) := by decide +kernel
theorem dX6_init_5 : decode cX6_init 5 = .ok (.bipush 64, 2) := by decide +kernel
theorem dX6_init_7 : decode cX6_init 7 = .ok (.newarray .int, 2) := by decide +kernel
theorem dX6_init_9 : decode cX6_init 9 = .ok (.putfield 9, 3) := by decide +kernel
theorem dX6_init_12 : decode cX6_init 12 = .ok (.aload_n 0, 1) := by decide +kernel
theorem dX6_init_13 : decode cX6_init 13 = .ok (.bipush 6, 2) := by decide +kernel
theorem dX6_init_15 : decode cX6_init 15 = .ok (.newarray .int, 2) := by decide +kernel
theorem dX6_init_17 : decode cX6_init 17 = .ok (.putfield 15, 3) := by decide +kernel
theorem dX6_init_20 : decode cX6_init 20 = .ok (.return_, 1) := by decide +kernel
noncomputable def b_X6_init (a0 : Nat) (M : Me) : Option (Me) :=
  na M 20 64 fun o1 M2 =>
  pr M2 a0 6 0 o1 fun M3 =>
  na M3 20 6 fun o4 M5 =>
  pr M5 a0 6 1 o4 fun M6 =>
  some M6
noncomputable def f_X6_init (a0 : Nat) (M : Me) : Option (Me) := b_X6_init a0 M
set_option maxRecDepth 20000 in
theorem vb_X6_init (d : Nat) (hd : 1 ≤ d) (a0 : Nat) (M : Me) : V (mX6_init, d, 2, 70) (0, 0) M 0 [some (.ref a0)] [] (b_X6_init a0 M) (fun M2 => some (none, M2)) := by
  unfold b_X6_init
  refine v_aload_n (q := 1) dX6_init_0 rfl rfl rfl ?_
  refine v_oinit (q := 4) dX6_init_1 rfl cc_X6_3 aw_obj.1 aw_obj.2 (by show 1 ≤ d; omega) rfl ?_
  refine v_aload_n (q := 5) dX6_init_4 rfl rfl rfl ?_
  refine v_bipush (q := 7) dX6_init_5 rfl bp_64 ?_
  refine v_newIU (q := 9) (u2 := (1, 64)) dX6_init_7 rfl aw_int (by decide) (by decide) (Nat.le_of_ble_eq_true rfl) ⟨Nat.le_of_ble_eq_true rfl, Nat.le_of_ble_eq_true rfl⟩ rfl (fun o1 M2 => ?_)
  refine v_putRb (q := 12) dX6_init_9 rfl fp_X6_9 (fun M3 => ?_)
  refine v_aload_n (q := 13) dX6_init_12 rfl rfl rfl ?_
  refine v_bipush (q := 15) dX6_init_13 rfl bp_6 ?_
  refine v_newIU (q := 17) (u2 := (2, 70)) dX6_init_15 rfl aw_int (by decide) (by decide) (Nat.le_of_ble_eq_true rfl) ⟨Nat.le_of_ble_eq_true rfl, Nat.le_of_ble_eq_true rfl⟩ rfl (fun o4 M5 => ?_)
  refine v_putRb (q := 20) dX6_init_17 rfl fp_X6_15 (fun M6 => ?_)
  exact v_vret rfl dX6_init_20 ⟨Nat.le_of_ble_eq_true rfl, Nat.le_of_ble_eq_true rfl⟩ rfl
theorem ct_X6_init (d : Nat) (hd : 1 ≤ d) (a0 : Nat) (M : Me) (r : Me) (hf : f_X6_init a0 M = some r) : Ct yX6_init mX6_init d 2 70 [.ref a0] M (none, r) := by
  have hb : b_X6_init a0 M = some r := hf
  exact ct_of (by decide +kernel) rfl rfl (Nat.le_of_ble_eq_true rfl) (vb_X6_init d hd a0 M) (by rw [hb]; rfl)
theorem dX6_sumOf_0 : decode cX6_sumOf 0 = .ok (.iconst 0, 1) := by decide +kernel
theorem dX6_sumOf_1 : decode cX6_sumOf 1 = .ok (.istore_n 3, 1) := by decide +kernel
theorem dX6_sumOf_2 : decode cX6_sumOf 2 = .ok (.iconst 0, 1) := by decide +kernel
theorem dX6_sumOf_3 : decode cX6_sumOf 3 = .ok (.istore 4, 2) := by decide +kernel
theorem dX6_sumOf_5 : decode cX6_sumOf 5 = .ok (.iload 4, 2) := by decide +kernel
theorem dX6_sumOf_7 : decode cX6_sumOf 7 = .ok (.bipush 12, 2) := by decide +kernel
theorem dX6_sumOf_9 : decode cX6_sumOf 9 = .ok (.if_icmp .ge 63, 3) := by decide +kernel
theorem dX6_sumOf_12 : decode cX6_sumOf 12 = .ok (.iload 4, 2) := by decide +kernel
theorem dX6_sumOf_14 : decode cX6_sumOf 14 = .ok (.aload_n 2, 1) := by decide +kernel
theorem dX6_sumOf_15 : decode cX6_sumOf 15 = .ok (.getfield 28, 3) := by decide +kernel
theorem dX6_sumOf_18 : decode cX6_sumOf 18 = .ok (.if_icmp .ge 54, 3) := by decide +kernel
theorem dX6_sumOf_21 : decode cX6_sumOf 21 = .ok (.aload_n 2, 1) := by decide +kernel
theorem dX6_sumOf_22 : decode cX6_sumOf 22 = .ok (.getfield 34, 3) := by decide +kernel
theorem dX6_sumOf_25 : decode cX6_sumOf 25 = .ok (.iload 4, 2) := by decide +kernel
theorem dX6_sumOf_27 : decode cX6_sumOf 27 = .ok (.aaload, 1) := by decide +kernel
theorem dX6_sumOf_28 : decode cX6_sumOf 28 = .ok (.astore 5, 2) := by decide +kernel
theorem dX6_sumOf_30 : decode cX6_sumOf 30 = .ok (.iload_n 3, 1) := by decide +kernel
theorem dX6_sumOf_31 : decode cX6_sumOf 31 = .ok (.iload_n 1, 1) := by decide +kernel
theorem dX6_sumOf_32 : decode cX6_sumOf 32 = .ok (.aload 5, 2) := by decide +kernel
theorem dX6_sumOf_34 : decode cX6_sumOf 34 = .ok (.getfield 38, 3) := by decide +kernel
theorem dX6_sumOf_37 : decode cX6_sumOf 37 = .ok (.ishr, 1) := by decide +kernel
theorem dX6_sumOf_38 : decode cX6_sumOf 38 = .ok (.iconst 1, 1) := by decide +kernel
theorem dX6_sumOf_39 : decode cX6_sumOf 39 = .ok (.iand, 1) := by decide +kernel
theorem dX6_sumOf_40 : decode cX6_sumOf 40 = .ok (.aload 5, 2) := by decide +kernel
theorem dX6_sumOf_42 : decode cX6_sumOf 42 = .ok (.getfield 43, 3) := by decide +kernel
theorem dX6_sumOf_45 : decode cX6_sumOf 45 = .ok (.imul, 1) := by decide +kernel
theorem dX6_sumOf_46 : decode cX6_sumOf 46 = .ok (.iadd, 1) := by decide +kernel
theorem dX6_sumOf_47 : decode cX6_sumOf 47 = .ok (.istore_n 3, 1) := by decide +kernel
theorem dX6_sumOf_48 : decode cX6_sumOf 48 = .ok (.iload_n 3, 1) := by decide +kernel
theorem dX6_sumOf_49 : decode cX6_sumOf 49 = .ok (.iload_n 1, 1) := by decide +kernel
theorem dX6_sumOf_50 : decode cX6_sumOf 50 = .ok (.aload 5, 2) := by decide +kernel
theorem dX6_sumOf_52 : decode cX6_sumOf 52 = .ok (.getfield 46, 3) := by decide +kernel
theorem dX6_sumOf_55 : decode cX6_sumOf 55 = .ok (.ishr, 1) := by decide +kernel
theorem dX6_sumOf_56 : decode cX6_sumOf 56 = .ok (.iconst 1, 1) := by decide +kernel
theorem dX6_sumOf_57 : decode cX6_sumOf 57 = .ok (.iand, 1) := by decide +kernel
theorem dX6_sumOf_58 : decode cX6_sumOf 58 = .ok (.aload 5, 2) := by decide +kernel
theorem dX6_sumOf_60 : decode cX6_sumOf 60 = .ok (.getfield 43, 3) := by decide +kernel
theorem dX6_sumOf_63 : decode cX6_sumOf 63 = .ok (.imul, 1) := by decide +kernel
theorem dX6_sumOf_64 : decode cX6_sumOf 64 = .ok (.isub, 1) := by decide +kernel
theorem dX6_sumOf_65 : decode cX6_sumOf 65 = .ok (.istore_n 3, 1) := by decide +kernel
theorem dX6_sumOf_66 : decode cX6_sumOf 66 = .ok (.iinc 4 1, 3) := by decide +kernel
theorem dX6_sumOf_69 : decode cX6_sumOf 69 = .ok (.goto (-64), 3) := by decide +kernel
theorem dX6_sumOf_72 : decode cX6_sumOf 72 = .ok (.iload_n 3, 1) := by decide +kernel
theorem dX6_sumOf_73 : decode cX6_sumOf 73 = .ok (.ireturn, 1) := by decide +kernel
noncomputable def s_X6_sumOf_5 (x1 : Int32) (a2 : Nat) (M : Me) (v1 : Int32) (v2 : Int32) : Option ((Int32 × Int32) ⊕ (Int32 × Int32)) :=
  if (12 : Int32) ≤ v2 then (
    some (Sum.inr (v1, v2))
  ) else (
    gi M a2 2 0 fun v3 =>
    if v3 ≤ v2 then (
      some (Sum.inr (v1, v2))
    ) else (
      gr M a2 2 1 fun o4 =>
      lr M o4 23 v2 fun o5 =>
      gi M o5 1 0 fun v6 =>
      gi M o5 1 2 fun v7 =>
      let_v ((v1 + (((x1 >>> (v6 &&& 31)) &&& (1 : Int32)) * v7))) fun v8 =>
      gi M o5 1 1 fun v9 =>
      gi M o5 1 2 fun v10 =>
      let_v ((v8 - (((x1 >>> (v9 &&& 31)) &&& (1 : Int32)) * v10))) fun v11 =>
      let_v (v2 + (1 : Int32)) fun v12 =>
      some (Sum.inl (v11, v12))
    )
  )
noncomputable def b_X6_sumOf (a0 : Nat) (x1 : Int32) (a2 : Nat) (M : Me) : Option (Int32) :=
  (lp (fun s => s_X6_sumOf_5 x1 a2 M s.1 s.2) ((0 : Int32), (0 : Int32))).bind fun e13 =>
  some e13.1
noncomputable def f_X6_sumOf (a0 : Nat) (x1 : Int32) (a2 : Nat) (M : Me) : Option (Int32) := ck M a0 6 (b_X6_sumOf a0 x1 a2 M)
set_option maxRecDepth 20000 in
theorem vb_X6_sumOf (d : Nat) (hd : 0 ≤ d) (a0 : Nat) (x1 : Int32) (a2 : Nat) (M : Me) : V (mX6_sumOf, d, 0, 0) (0, 0) M 0 [some (.ref a0), some (.int x1), some (.ref a2), none, none, none] [] (b_X6_sumOf a0 x1 a2 M) (fun z => some (some (.int z), M)) := by
  unfold b_X6_sumOf
  refine v_iconst (q := 1) dX6_sumOf_0 rfl ic_0 ?_
  refine v_istore_n (q := 2) (loc2 := [some (.ref a0), some (.int x1), some (.ref a2), some (.int (0 : Int32)), none, none]) dX6_sumOf_1 rfl rfl rfl (Nat.le_of_ble_eq_true rfl) rfl ?_
  refine v_iconst (q := 3) dX6_sumOf_2 rfl ic_0 ?_
  refine v_istore (q := 5) (loc2 := [some (.ref a0), some (.int x1), some (.ref a2), some (.int (0 : Int32)), some (.int (0 : Int32)), none]) dX6_sumOf_3 rfl rfl (Nat.le_of_ble_eq_true rfl) rfl ?_
  refine v_lps (S := Int32 × Int32) 72 (fun s => M) (fun s => [some (.ref a0), some (.int x1), some (.ref a2), some (.int s.1), some (.int s.2), none]) (fun e13 => M) (fun e13 => [some (.ref a0), some (.int x1), some (.ref a2), some (.int e13.1), some (.int e13.2), none]) (fun e13 => ?_) (fun k K hk hx s => ?_)
  · refine v_iload_n (q := 73) dX6_sumOf_72 rfl rfl rfl ?_
    exact v_iret rfl dX6_sumOf_73 ⟨Nat.le_of_ble_eq_true rfl, Nat.le_of_ble_eq_true rfl⟩ rfl
  · obtain ⟨v1, v2⟩ := s
    show V _ _ M 5 [some (.ref a0), some (.int x1), some (.ref a2), some (.int v1), some (.int v2), none] [] (s_X6_sumOf_5 x1 a2 M v1 v2) _
    unfold s_X6_sumOf_5
    refine v_iload (q := 7) dX6_sumOf_5 rfl rfl ?_
    refine v_bipush (q := 9) dX6_sumOf_7 rfl bp_12 ?_
    refine v_icmp_ge (tgt := 72) (q := 12) dX6_sumOf_9 rfl rfl ?_ ?_
    · exact v_inr (hx (v1, v2))
    · refine v_iload (q := 14) dX6_sumOf_12 rfl rfl ?_
      refine v_aload_n (q := 15) dX6_sumOf_14 rfl rfl rfl ?_
      refine v_getIb (q := 18) dX6_sumOf_15 rfl fg_X6_28 (fun v3 => ?_)
      refine v_icmp_ge (tgt := 72) (q := 21) dX6_sumOf_18 rfl rfl ?_ ?_
      · exact v_inr (hx (v1, v2))
      · refine v_aload_n (q := 22) dX6_sumOf_21 rfl rfl rfl ?_
        refine v_getRb (q := 25) dX6_sumOf_22 rfl fg_X6_34 (fun o4 => ?_)
        refine v_iload (q := 27) dX6_sumOf_25 rfl rfl ?_
        refine v_aaload (q := 28) (t0 := 3) dX6_sumOf_27 rfl (Nat.le_of_ble_eq_true rfl) (fun _ => rfl) (fun o5 => ?_)
        refine v_astore (q := 30) (loc2 := [some (.ref a0), some (.int x1), some (.ref a2), some (.int v1), some (.int v2), some (.ref o5)]) dX6_sumOf_28 rfl rfl (Nat.le_of_ble_eq_true rfl) rfl ?_
        refine v_iload_n (q := 31) dX6_sumOf_30 rfl rfl rfl ?_
        refine v_iload_n (q := 32) dX6_sumOf_31 rfl rfl rfl ?_
        refine v_aload (q := 34) dX6_sumOf_32 rfl rfl ?_
        refine v_getIb (q := 37) dX6_sumOf_34 rfl fg_X6_38 (fun v6 => ?_)
        refine v_ishr (q := 38) dX6_sumOf_37 rfl ?_
        refine v_iconst (q := 39) dX6_sumOf_38 rfl ic_1 ?_
        refine v_iand (q := 40) dX6_sumOf_39 rfl ?_
        refine v_aload (q := 42) dX6_sumOf_40 rfl rfl ?_
        refine v_getIb (q := 45) dX6_sumOf_42 rfl fg_X6_43 (fun v7 => ?_)
        refine v_imul (q := 46) dX6_sumOf_45 rfl ?_
        refine v_iadd (q := 47) dX6_sumOf_46 rfl ?_
        refine v_letI (fun v8 => ?_)
        refine v_istore_n (q := 48) (loc2 := [some (.ref a0), some (.int x1), some (.ref a2), some (.int v8), some (.int v2), some (.ref o5)]) dX6_sumOf_47 rfl rfl rfl (Nat.le_of_ble_eq_true rfl) rfl ?_
        refine v_iload_n (q := 49) dX6_sumOf_48 rfl rfl rfl ?_
        refine v_iload_n (q := 50) dX6_sumOf_49 rfl rfl rfl ?_
        refine v_aload (q := 52) dX6_sumOf_50 rfl rfl ?_
        refine v_getIb (q := 55) dX6_sumOf_52 rfl fg_X6_46 (fun v9 => ?_)
        refine v_ishr (q := 56) dX6_sumOf_55 rfl ?_
        refine v_iconst (q := 57) dX6_sumOf_56 rfl ic_1 ?_
        refine v_iand (q := 58) dX6_sumOf_57 rfl ?_
        refine v_aload (q := 60) dX6_sumOf_58 rfl rfl ?_
        refine v_getIb (q := 63) dX6_sumOf_60 rfl fg_X6_43 (fun v10 => ?_)
        refine v_imul (q := 64) dX6_sumOf_63 rfl ?_
        refine v_isub (q := 65) dX6_sumOf_64 rfl ?_
        refine v_letI (fun v11 => ?_)
        refine v_istore_n (q := 66) (loc2 := [some (.ref a0), some (.int x1), some (.ref a2), some (.int v11), some (.int v2), some (.ref o5)]) dX6_sumOf_65 rfl rfl rfl (Nat.le_of_ble_eq_true rfl) rfl ?_
        refine v_iincL (q := 69) (x := v2) (cst := (1 : Int32)) (f := fun v12 => [some (.ref a0), some (.int x1), some (.ref a2), some (.int v11), some (.int v12), some (.ref o5)]) dX6_sumOf_66 rfl rfl ic_1 rfl (Nat.le_of_ble_eq_true rfl) (fun _ => rfl) (fun v12 => ?_)
        refine v_goto (tgt := 5) dX6_sumOf_69 rfl ?_
        exact v_inl (v_weak (hk (v11, v12)) ⟨rfl, ⟨rfl, ⟨rfl, ⟨rfl, ⟨rfl, trivial⟩⟩⟩⟩⟩)
theorem ct_X6_sumOf (d : Nat) (hd : 0 ≤ d) (a0 : Nat) (x1 : Int32) (a2 : Nat) (M : Me) (r : Int32) (hf : f_X6_sumOf a0 x1 a2 M = some r) : me_k M a0 = some (6, nf_c 6) ∧ Ct yX6_sumOf mX6_sumOf d 0 0 [.ref a0, .int x1, .ref a2] M (some (.int r), M) := by
  obtain ⟨hk, hb⟩ := ck_some hf
  exact ⟨hk, ct_of (by decide +kernel) rfl rfl (Nat.le_of_ble_eq_true rfl) (vb_X6_sumOf d hd a0 x1 a2 M) (by rw [hb]; rfl)⟩
theorem dX6_fewestPayments_0 : decode cX6_fewestPayments 0 = .ok (.aload_n 0, 1) := by decide +kernel
theorem dX6_fewestPayments_1 : decode cX6_fewestPayments 1 = .ok (.getfield 9, 3) := by decide +kernel
theorem dX6_fewestPayments_4 : decode cX6_fewestPayments 4 = .ok (.iconst 0, 1) := by decide +kernel
theorem dX6_fewestPayments_5 : decode cX6_fewestPayments 5 = .ok (.iconst 0, 1) := by decide +kernel
theorem dX6_fewestPayments_6 : decode cX6_fewestPayments 6 = .ok (.iastore, 1) := by decide +kernel
theorem dX6_fewestPayments_7 : decode cX6_fewestPayments 7 = .ok (.iconst 1, 1) := by decide +kernel
theorem dX6_fewestPayments_8 : decode cX6_fewestPayments 8 = .ok (.istore_n 2, 1) := by decide +kernel
theorem dX6_fewestPayments_9 : decode cX6_fewestPayments 9 = .ok (.iload_n 2, 1) := by decide +kernel
theorem dX6_fewestPayments_10 : decode cX6_fewestPayments 10 = .ok (.bipush 64, 2) := by decide +kernel
theorem dX6_fewestPayments_12 : decode cX6_fewestPayments 12 = .ok (.if_icmp .ge 77, 3) := by decide +kernel
theorem dX6_fewestPayments_15 : decode cX6_fewestPayments 15 = .ok (.iconst 0, 1) := by decide +kernel
theorem dX6_fewestPayments_16 : decode cX6_fewestPayments 16 = .ok (.istore_n 3, 1) := by decide +kernel
theorem dX6_fewestPayments_17 : decode cX6_fewestPayments 17 = .ok (.iconst 0, 1) := by decide +kernel
theorem dX6_fewestPayments_18 : decode cX6_fewestPayments 18 = .ok (.istore 4, 2) := by decide +kernel
theorem dX6_fewestPayments_20 : decode cX6_fewestPayments 20 = .ok (.iload 4, 2) := by decide +kernel
theorem dX6_fewestPayments_22 : decode cX6_fewestPayments 22 = .ok (.bipush 6, 2) := by decide +kernel
theorem dX6_fewestPayments_24 : decode cX6_fewestPayments 24 = .ok (.if_icmp .ge 37, 3) := by decide +kernel
theorem dX6_fewestPayments_27 : decode cX6_fewestPayments 27 = .ok (.iload_n 2, 1) := by decide +kernel
theorem dX6_fewestPayments_28 : decode cX6_fewestPayments 28 = .ok (.iload 4, 2) := by decide +kernel
theorem dX6_fewestPayments_30 : decode cX6_fewestPayments 30 = .ok (.ishr, 1) := by decide +kernel
theorem dX6_fewestPayments_31 : decode cX6_fewestPayments 31 = .ok (.iconst 1, 1) := by decide +kernel
theorem dX6_fewestPayments_32 : decode cX6_fewestPayments 32 = .ok (.iand, 1) := by decide +kernel
theorem dX6_fewestPayments_33 : decode cX6_fewestPayments 33 = .ok (.iconst 1, 1) := by decide +kernel
theorem dX6_fewestPayments_34 : decode cX6_fewestPayments 34 = .ok (.if_icmp .ne 21, 3) := by decide +kernel
theorem dX6_fewestPayments_37 : decode cX6_fewestPayments 37 = .ok (.iload_n 3, 1) := by decide +kernel
theorem dX6_fewestPayments_38 : decode cX6_fewestPayments 38 = .ok (.aload_n 0, 1) := by decide +kernel
theorem dX6_fewestPayments_39 : decode cX6_fewestPayments 39 = .ok (.getfield 9, 3) := by decide +kernel
theorem dX6_fewestPayments_42 : decode cX6_fewestPayments 42 = .ok (.iload_n 2, 1) := by decide +kernel
theorem dX6_fewestPayments_43 : decode cX6_fewestPayments 43 = .ok (.iconst 1, 1) := by decide +kernel
theorem dX6_fewestPayments_44 : decode cX6_fewestPayments 44 = .ok (.iload 4, 2) := by decide +kernel
theorem dX6_fewestPayments_46 : decode cX6_fewestPayments 46 = .ok (.ishl, 1) := by decide +kernel
theorem dX6_fewestPayments_47 : decode cX6_fewestPayments 47 = .ok (.iconst (-1), 1) := by decide +kernel
theorem dX6_fewestPayments_48 : decode cX6_fewestPayments 48 = .ok (.ixor, 1) := by decide +kernel
theorem dX6_fewestPayments_49 : decode cX6_fewestPayments 49 = .ok (.iand, 1) := by decide +kernel
theorem dX6_fewestPayments_50 : decode cX6_fewestPayments 50 = .ok (.iaload, 1) := by decide +kernel
theorem dX6_fewestPayments_51 : decode cX6_fewestPayments 51 = .ok (.invokestatic 18, 3) := by decide +kernel
theorem dX6_fewestPayments_54 : decode cX6_fewestPayments 54 = .ok (.istore_n 3, 1) := by decide +kernel
theorem dX6_fewestPayments_55 : decode cX6_fewestPayments 55 = .ok (.iinc 4 1, 3) := by decide +kernel
theorem dX6_fewestPayments_58 : decode cX6_fewestPayments 58 = .ok (.goto (-38), 3) := by decide +kernel
theorem dX6_fewestPayments_61 : decode cX6_fewestPayments 61 = .ok (.aload_n 0, 1) := by decide +kernel
theorem dX6_fewestPayments_62 : decode cX6_fewestPayments 62 = .ok (.getfield 9, 3) := by decide +kernel
theorem dX6_fewestPayments_65 : decode cX6_fewestPayments 65 = .ok (.iload_n 2, 1) := by decide +kernel
theorem dX6_fewestPayments_66 : decode cX6_fewestPayments 66 = .ok (.iload_n 3, 1) := by decide +kernel
theorem dX6_fewestPayments_67 : decode cX6_fewestPayments 67 = .ok (.aload_n 0, 1) := by decide +kernel
theorem dX6_fewestPayments_68 : decode cX6_fewestPayments 68 = .ok (.iload_n 2, 1) := by decide +kernel
theorem dX6_fewestPayments_69 : decode cX6_fewestPayments 69 = .ok (.aload_n 1, 1) := by decide +kernel
theorem dX6_fewestPayments_70 : decode cX6_fewestPayments 70 = .ok (.invokevirtual 24, 3) := by decide +kernel
theorem dX6_fewestPayments_73 : decode cX6_fewestPayments 73 = .ok (.ifCond .ne 7, 3) := by decide +kernel
theorem dX6_fewestPayments_76 : decode cX6_fewestPayments 76 = .ok (.iconst 1, 1) := by decide +kernel
theorem dX6_fewestPayments_77 : decode cX6_fewestPayments 77 = .ok (.goto 4, 3) := by decide +kernel
theorem dX6_fewestPayments_80 : decode cX6_fewestPayments 80 = .ok (.iconst 0, 1) := by decide +kernel
theorem dX6_fewestPayments_81 : decode cX6_fewestPayments 81 = .ok (.iadd, 1) := by decide +kernel
theorem dX6_fewestPayments_82 : decode cX6_fewestPayments 82 = .ok (.iastore, 1) := by decide +kernel
theorem dX6_fewestPayments_83 : decode cX6_fewestPayments 83 = .ok (.iinc 2 1, 3) := by decide +kernel
theorem dX6_fewestPayments_86 : decode cX6_fewestPayments 86 = .ok (.goto (-77), 3) := by decide +kernel
theorem dX6_fewestPayments_89 : decode cX6_fewestPayments 89 = .ok (.bipush 6, 2) := by decide +kernel
theorem dX6_fewestPayments_91 : decode cX6_fewestPayments 91 = .ok (.aload_n 0, 1) := by decide +kernel
theorem dX6_fewestPayments_92 : decode cX6_fewestPayments 92 = .ok (.getfield 9, 3) := by decide +kernel
theorem dX6_fewestPayments_95 : decode cX6_fewestPayments 95 = .ok (.bipush 63, 2) := by decide +kernel
theorem dX6_fewestPayments_97 : decode cX6_fewestPayments 97 = .ok (.iaload, 1) := by decide +kernel
theorem dX6_fewestPayments_98 : decode cX6_fewestPayments 98 = .ok (.isub, 1) := by decide +kernel
theorem dX6_fewestPayments_99 : decode cX6_fewestPayments 99 = .ok (.ireturn, 1) := by decide +kernel
noncomputable def s_X6_fewestPayments_20 (a0 : Nat) (M3 : Me) (v4 : Int32) (v5 : Int32) (v6 : Int32) : Option ((Int32 × Int32) ⊕ (Int32 × Int32)) :=
  if (6 : Int32) ≤ v6 then (
    some (Sum.inr (v5, v6))
  ) else (
    (
      if ((v4 >>> (v6 &&& 31)) &&& (1 : Int32)) = (1 : Int32) then (
        gr M3 a0 6 0 fun o7 =>
        li M3 o7 (v4 &&& (((1 : Int32) <<< (v6 &&& 31)) ^^^ (-1 : Int32))) fun v8 =>
        let_v ((mx_i v5 v8)) fun v9 =>
        some v9
      ) else (
        some v5
      )
    ).bind fun v10 =>
    let_v (v6 + (1 : Int32)) fun v11 =>
    some (Sum.inl (v10, v11))
  )
noncomputable def s_X6_fewestPayments_9 (a0 : Nat) (a1 : Nat) (M3 : Me) (v4 : Int32) : Option ((Me × Int32) ⊕ (Me × Int32)) :=
  if (64 : Int32) ≤ v4 then (
    some (Sum.inr (M3, v4))
  ) else (
    (lp (fun s => s_X6_fewestPayments_20 a0 M3 v4 s.1 s.2) ((0 : Int32), (0 : Int32))).bind fun e12 =>
    gr M3 a0 6 0 fun o13 =>
    cP (f_X6_sumOf a0 v4 a1 M3) fun v14 =>
    (
      if v14 = 0 then (
        some (1 : Int32)
      ) else (
        some (0 : Int32)
      )
    ).bind fun v15 =>
    si M3 o13 v4 (e12.1 + v15) fun M16 =>
    let_v (v4 + (1 : Int32)) fun v17 =>
    some (Sum.inl (M16, v17))
  )
noncomputable def b_X6_fewestPayments (a0 : Nat) (a1 : Nat) (M : Me) : Option (Int32 × Me) :=
  gr M a0 6 0 fun o1 =>
  si M o1 (0 : Int32) (0 : Int32) fun M2 =>
  (lp (fun s => s_X6_fewestPayments_9 a0 a1 s.1 s.2) (M2, (1 : Int32))).bind fun e18 =>
  gr e18.1 a0 6 0 fun o19 =>
  li e18.1 o19 (63 : Int32) fun v20 =>
  some (((6 : Int32) - v20), e18.1)
noncomputable def f_X6_fewestPayments (a0 : Nat) (a1 : Nat) (M : Me) : Option (Int32 × Me) := ck M a0 6 (b_X6_fewestPayments a0 a1 M)
set_option maxRecDepth 20000 in
theorem vb_X6_fewestPayments (d : Nat) (hd : 1 ≤ d) (a0 : Nat) (a1 : Nat) (M : Me) : V (mX6_fewestPayments, d, 0, 0) (0, 0) M 0 [some (.ref a0), some (.ref a1), none, none, none] [] (b_X6_fewestPayments a0 a1 M) (fun z => some (some (.int z.1), z.2)) := by
  unfold b_X6_fewestPayments
  refine v_aload_n (q := 1) dX6_fewestPayments_0 rfl rfl rfl ?_
  refine v_getRb (q := 4) dX6_fewestPayments_1 rfl fg_X6_9 (fun o1 => ?_)
  refine v_iconst (q := 5) dX6_fewestPayments_4 rfl ic_0 ?_
  refine v_iconst (q := 6) dX6_fewestPayments_5 rfl ic_0 ?_
  refine v_iastore (q := 7) dX6_fewestPayments_6 rfl (fun M2 => ?_)
  refine v_iconst (q := 8) dX6_fewestPayments_7 rfl ic_1 ?_
  refine v_istore_n (q := 9) (loc2 := [some (.ref a0), some (.ref a1), some (.int (1 : Int32)), none, none]) dX6_fewestPayments_8 rfl rfl rfl (Nat.le_of_ble_eq_true rfl) rfl ?_
  refine v_lps (S := Me × Int32) 89 (fun s => s.1) (fun s => [some (.ref a0), some (.ref a1), some (.int s.2), none, none]) (fun e18 => e18.1) (fun e18 => [some (.ref a0), some (.ref a1), some (.int e18.2), none, none]) (fun e18 => ?_) (fun k K hk hx s => ?_)
  · refine v_bipush (q := 91) dX6_fewestPayments_89 rfl bp_6 ?_
    refine v_aload_n (q := 92) dX6_fewestPayments_91 rfl rfl rfl ?_
    refine v_getRb (q := 95) dX6_fewestPayments_92 rfl fg_X6_9 (fun o19 => ?_)
    refine v_bipush (q := 97) dX6_fewestPayments_95 rfl bp_63 ?_
    refine v_iaload (q := 98) dX6_fewestPayments_97 rfl (fun v20 => ?_)
    refine v_isub (q := 99) dX6_fewestPayments_98 rfl ?_
    exact v_iret rfl dX6_fewestPayments_99 ⟨Nat.le_of_ble_eq_true rfl, Nat.le_of_ble_eq_true rfl⟩ rfl
  · obtain ⟨M3, v4⟩ := s
    show V _ _ M3 9 [some (.ref a0), some (.ref a1), some (.int v4), none, none] [] (s_X6_fewestPayments_9 a0 a1 M3 v4) _
    unfold s_X6_fewestPayments_9
    refine v_iload_n (q := 10) dX6_fewestPayments_9 rfl rfl rfl ?_
    refine v_bipush (q := 12) dX6_fewestPayments_10 rfl bp_64 ?_
    refine v_icmp_ge (tgt := 89) (q := 15) dX6_fewestPayments_12 rfl rfl ?_ ?_
    · exact v_inr (hx (M3, v4))
    · refine v_iconst (q := 16) dX6_fewestPayments_15 rfl ic_0 ?_
      refine v_istore_n (q := 17) (loc2 := [some (.ref a0), some (.ref a1), some (.int v4), some (.int (0 : Int32)), none]) dX6_fewestPayments_16 rfl rfl rfl (Nat.le_of_ble_eq_true rfl) rfl ?_
      refine v_iconst (q := 18) dX6_fewestPayments_17 rfl ic_0 ?_
      refine v_istore (q := 20) (loc2 := [some (.ref a0), some (.ref a1), some (.int v4), some (.int (0 : Int32)), some (.int (0 : Int32))]) dX6_fewestPayments_18 rfl rfl (Nat.le_of_ble_eq_true rfl) rfl ?_
      refine v_lps (S := Int32 × Int32) 61 (fun s => M3) (fun s => [some (.ref a0), some (.ref a1), some (.int v4), some (.int s.1), some (.int s.2)]) (fun e12 => M3) (fun e12 => [some (.ref a0), some (.ref a1), some (.int v4), some (.int e12.1), some (.int e12.2)]) (fun e12 => ?_) (fun k K hk hx s => ?_)
      · refine v_aload_n (q := 62) dX6_fewestPayments_61 rfl rfl rfl ?_
        refine v_getRb (q := 65) dX6_fewestPayments_62 rfl fg_X6_9 (fun o13 => ?_)
        refine v_iload_n (q := 66) dX6_fewestPayments_65 rfl rfl rfl ?_
        refine v_iload_n (q := 67) dX6_fewestPayments_66 rfl rfl rfl ?_
        refine v_aload_n (q := 68) dX6_fewestPayments_67 rfl rfl rfl ?_
        refine v_iload_n (q := 69) dX6_fewestPayments_68 rfl rfl rfl ?_
        refine v_aload_n (q := 70) dX6_fewestPayments_69 rfl rfl rfl ?_
        refine v_cPV2 (q := 73) (ct_X6_sumOf (d - 1) (by omega) _ _ _ _) dX6_fewestPayments_70 rfl cc_X6_24 (by omega) (Nat.le_of_ble_eq_true rfl) ⟨Nat.le_of_ble_eq_true rfl, Nat.le_of_ble_eq_true rfl⟩ (fun v14 => ?_)
        refine v_join (γ := Int32) 81 (fun v15 => M3) (fun v15 => [some (.ref a0), some (.ref a1), some (.int v4), some (.int e12.1), some (.int e12.2)]) (fun v15 => [.int v15, .int e12.1, .int v4, .ref o13]) (fun K hK => ?_) (fun v15 => ?_)
        · refine v_if_ne (tgt := 80) (q := 76) dX6_fewestPayments_73 rfl rfl ?_ ?_
          · refine v_iconst (q := 81) dX6_fewestPayments_80 rfl ic_0 ?_
            exact hK (0 : Int32)
          · refine v_iconst (q := 77) dX6_fewestPayments_76 rfl ic_1 ?_
            refine v_goto (tgt := 81) dX6_fewestPayments_77 rfl ?_
            exact hK (1 : Int32)
        · refine v_iadd (q := 82) dX6_fewestPayments_81 rfl ?_
          refine v_iastore (q := 83) dX6_fewestPayments_82 rfl (fun M16 => ?_)
          refine v_iincL (q := 86) (x := v4) (cst := (1 : Int32)) (f := fun v17 => [some (.ref a0), some (.ref a1), some (.int v17), some (.int e12.1), some (.int e12.2)]) dX6_fewestPayments_83 rfl rfl ic_1 rfl (Nat.le_of_ble_eq_true rfl) (fun _ => rfl) (fun v17 => ?_)
          refine v_goto (tgt := 9) dX6_fewestPayments_86 rfl ?_
          exact v_inl (v_weak (hk (M16, v17)) ⟨rfl, ⟨rfl, ⟨rfl, trivial⟩⟩⟩)
      · obtain ⟨v5, v6⟩ := s
        show V _ _ M3 20 [some (.ref a0), some (.ref a1), some (.int v4), some (.int v5), some (.int v6)] [] (s_X6_fewestPayments_20 a0 M3 v4 v5 v6) _
        unfold s_X6_fewestPayments_20
        refine v_iload (q := 22) dX6_fewestPayments_20 rfl rfl ?_
        refine v_bipush (q := 24) dX6_fewestPayments_22 rfl bp_6 ?_
        refine v_icmp_ge (tgt := 61) (q := 27) dX6_fewestPayments_24 rfl rfl ?_ ?_
        · exact v_inr (hx (v5, v6))
        · refine v_iload_n (q := 28) dX6_fewestPayments_27 rfl rfl rfl ?_
          refine v_iload (q := 30) dX6_fewestPayments_28 rfl rfl ?_
          refine v_ishr (q := 31) dX6_fewestPayments_30 rfl ?_
          refine v_iconst (q := 32) dX6_fewestPayments_31 rfl ic_1 ?_
          refine v_iand (q := 33) dX6_fewestPayments_32 rfl ?_
          refine v_iconst (q := 34) dX6_fewestPayments_33 rfl ic_1 ?_
          refine v_join (γ := Int32) 55 (fun v10 => M3) (fun v10 => [some (.ref a0), some (.ref a1), some (.int v4), some (.int v10), some (.int v6)]) (fun v10 => []) (fun K hK => ?_) (fun v10 => ?_)
          · refine v_icmp_ne (tgt := 55) (q := 37) dX6_fewestPayments_34 rfl rfl ?_ ?_
            · exact hK v5
            · refine v_iload_n (q := 38) dX6_fewestPayments_37 rfl rfl rfl ?_
              refine v_aload_n (q := 39) dX6_fewestPayments_38 rfl rfl rfl ?_
              refine v_getRb (q := 42) dX6_fewestPayments_39 rfl fg_X6_9 (fun o7 => ?_)
              refine v_iload_n (q := 43) dX6_fewestPayments_42 rfl rfl rfl ?_
              refine v_iconst (q := 44) dX6_fewestPayments_43 rfl ic_1 ?_
              refine v_iload (q := 46) dX6_fewestPayments_44 rfl rfl ?_
              refine v_ishl (q := 47) dX6_fewestPayments_46 rfl ?_
              refine v_iconst (q := 48) dX6_fewestPayments_47 rfl ic_m1 ?_
              refine v_ixor (q := 49) dX6_fewestPayments_48 rfl ?_
              refine v_iand (q := 50) dX6_fewestPayments_49 rfl ?_
              refine v_iaload (q := 51) dX6_fewestPayments_50 rfl (fun v8 => ?_)
              refine v_mx_i (q := 54) dX6_fewestPayments_51 rfl cc_X6_18 (by show 1 ≤ d; omega) (Nat.le_of_ble_eq_true rfl) ⟨Nat.le_of_ble_eq_true rfl, Nat.le_of_ble_eq_true rfl⟩ ?_
              refine v_letI (fun v9 => ?_)
              refine v_istore_n (q := 55) (loc2 := [some (.ref a0), some (.ref a1), some (.int v4), some (.int v9), some (.int v6)]) dX6_fewestPayments_54 rfl rfl rfl (Nat.le_of_ble_eq_true rfl) rfl ?_
              exact hK v9
          · refine v_iincL (q := 58) (x := v6) (cst := (1 : Int32)) (f := fun v11 => [some (.ref a0), some (.ref a1), some (.int v4), some (.int v10), some (.int v11)]) dX6_fewestPayments_55 rfl rfl ic_1 rfl (Nat.le_of_ble_eq_true rfl) (fun _ => rfl) (fun v11 => ?_)
            refine v_goto (tgt := 20) dX6_fewestPayments_58 rfl ?_
            exact v_inl (hk (v10, v11))
theorem ct_X6_fewestPayments (d : Nat) (hd : 1 ≤ d) (a0 : Nat) (a1 : Nat) (M : Me) (r : Int32) (M2 : Me) (hf : f_X6_fewestPayments a0 a1 M = some (r, M2)) : me_k M a0 = some (6, nf_c 6) ∧ Ct yX6_fewestPayments mX6_fewestPayments d 0 0 [.ref a0, .ref a1] M (some (.int r), M2) := by
  obtain ⟨hk, hb⟩ := ck_some hf
  exact ⟨hk, ct_of (by decide +kernel) rfl rfl (Nat.le_of_ble_eq_true rfl) (vb_X6_fewestPayments d hd a0 a1 M) (by rw [hb]; rfl)⟩

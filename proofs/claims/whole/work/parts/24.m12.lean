theorem dX12_state_0 : decode cX12_state 0 = .ok (.aload_n 0, 1) := by decide +kernel
theorem dX12_state_1 : decode cX12_state 1 = .ok (.iload_n 1, 1) := by decide +kernel
theorem dX12_state_2 : decode cX12_state 2 = .ok (.invokevirtual 102, 3) := by decide +kernel
theorem dX12_state_5 : decode cX12_state 5 = .ok (.ifCond .ne 5, 3) := by decide +kernel
theorem dX12_state_8 : decode cX12_state 8 = .ok (.iconst (-1), 1) := by decide +kernel
theorem dX12_state_9 : decode cX12_state 9 = .ok (.ireturn, 1) := by decide +kernel
theorem dX12_state_10 : decode cX12_state 10 = .ok (.iload_n 2, 1) := by decide +kernel
theorem dX12_state_11 : decode cX12_state 11 = .ok (.iconst 0, 1) := by decide +kernel
theorem dX12_state_12 : decode cX12_state 12 = .ok (.iconst 3, 1) := by decide +kernel
theorem dX12_state_13 : decode cX12_state 13 = .ok (.invokestatic 81, 3) := by decide +kernel
theorem dX12_state_16 : decode cX12_state 16 = .ok (.ifCond .ne 6, 3) := by decide +kernel
theorem dX12_state_19 : decode cX12_state 19 = .ok (.bipush (-2), 2) := by decide +kernel
theorem dX12_state_21 : decode cX12_state 21 = .ok (.ireturn, 1) := by decide +kernel
theorem dX12_state_22 : decode cX12_state 22 = .ok (.aload_n 0, 1) := by decide +kernel
theorem dX12_state_23 : decode cX12_state 23 = .ok (.invokevirtual 145, 3) := by decide +kernel
theorem dX12_state_26 : decode cX12_state 26 = .ok (.aload_n 0, 1) := by decide +kernel
theorem dX12_state_27 : decode cX12_state 27 = .ok (.iload_n 1, 1) := by decide +kernel
theorem dX12_state_28 : decode cX12_state 28 = .ok (.iload_n 2, 1) := by decide +kernel
theorem dX12_state_29 : decode cX12_state 29 = .ok (.invokevirtual 181, 3) := by decide +kernel
theorem dX12_state_32 : decode cX12_state 32 = .ok (.ireturn, 1) := by decide +kernel
noncomputable def b_X12_state (a0 : Nat) (x1 : Int32) (x2 : Int32) (M : Me) : Option (Int32 × Me) :=
  cP (f_X12_isThere a0 x1 M) fun v1 =>
  if v1 = 0 then (
    some ((-1 : Int32), M)
  ) else (
    cP (f_X12_in x2 (0 : Int32) (3 : Int32) M) fun v2 =>
    if v2 = 0 then (
      some ((-2 : Int32), M)
    ) else (
      cM (f_X12_asNow a0 M) fun M3 =>
      cP (f_X12_stateNow a0 x1 x2 M3) fun v4 =>
      some (v4, M3)
    )
  )
noncomputable def f_X12_state (a0 : Nat) (x1 : Int32) (x2 : Int32) (M : Me) : Option (Int32 × Me) := ck M a0 12 (b_X12_state a0 x1 x2 M)
set_option maxRecDepth 20000 in
theorem vb_X12_state (d : Nat) (hd : 2 ≤ d) (a0 : Nat) (x1 : Int32) (x2 : Int32) (M : Me) : V (mX12_state, d, 0, 0) (0, 0) M 0 [some (.ref a0), some (.int x1), some (.int x2)] [] (b_X12_state a0 x1 x2 M) (fun z => some (some (.int z.1), z.2)) := by
  unfold b_X12_state
  refine v_aload_n (q := 1) dX12_state_0 rfl rfl rfl ?_
  refine v_iload_n (q := 2) dX12_state_1 rfl rfl rfl ?_
  refine v_cPV1 (q := 5) (ct_X12_isThere (d - 1) (by omega) _ _ _) dX12_state_2 rfl cc_X12_102 (by omega) (Nat.le_of_ble_eq_true rfl) ⟨Nat.le_of_ble_eq_true rfl, Nat.le_of_ble_eq_true rfl⟩ (fun v1 => ?_)
  refine v_if_ne (tgt := 10) (q := 8) dX12_state_5 rfl rfl ?_ ?_
  · refine v_iload_n (q := 11) dX12_state_10 rfl rfl rfl ?_
    refine v_iconst (q := 12) dX12_state_11 rfl ic_0 ?_
    refine v_iconst (q := 13) dX12_state_12 rfl ic_3 ?_
    refine v_cPS3 (q := 16) (ct_X12_in (d - 1) (by omega) _ _ _ _) dX12_state_13 rfl cc_X12_81 (by omega) (Nat.le_of_ble_eq_true rfl) ⟨Nat.le_of_ble_eq_true rfl, Nat.le_of_ble_eq_true rfl⟩ (fun v2 => ?_)
    refine v_if_ne (tgt := 22) (q := 19) dX12_state_16 rfl rfl ?_ ?_
    · refine v_aload_n (q := 23) dX12_state_22 rfl rfl rfl ?_
      refine v_cMV0 (q := 26) (ct_X12_asNow (d - 1) (by omega) _ _) dX12_state_23 rfl cc_X12_145 (by omega) (Nat.le_of_ble_eq_true rfl) ⟨Nat.le_of_ble_eq_true rfl, Nat.le_of_ble_eq_true rfl⟩ (fun M3 => ?_)
      refine v_aload_n (q := 27) dX12_state_26 rfl rfl rfl ?_
      refine v_iload_n (q := 28) dX12_state_27 rfl rfl rfl ?_
      refine v_iload_n (q := 29) dX12_state_28 rfl rfl rfl ?_
      refine v_cPV2 (q := 32) (ct_X12_stateNow (d - 1) (by omega) _ _ _ _) dX12_state_29 rfl cc_X12_181 (by omega) (Nat.le_of_ble_eq_true rfl) ⟨Nat.le_of_ble_eq_true rfl, Nat.le_of_ble_eq_true rfl⟩ (fun v4 => ?_)
      exact v_iret rfl dX12_state_32 ⟨Nat.le_of_ble_eq_true rfl, Nat.le_of_ble_eq_true rfl⟩ rfl
    · refine v_bipush (q := 21) dX12_state_19 rfl bp_m2 ?_
      exact v_iret rfl dX12_state_21 ⟨Nat.le_of_ble_eq_true rfl, Nat.le_of_ble_eq_true rfl⟩ rfl
  · refine v_iconst (q := 9) dX12_state_8 rfl ic_m1 ?_
    exact v_iret rfl dX12_state_9 ⟨Nat.le_of_ble_eq_true rfl, Nat.le_of_ble_eq_true rfl⟩ rfl
theorem ct_X12_state (d : Nat) (hd : 2 ≤ d) (a0 : Nat) (x1 : Int32) (x2 : Int32) (M : Me) (r : Int32) (M2 : Me) (hf : f_X12_state a0 x1 x2 M = some (r, M2)) : me_k M a0 = some (12, nf_c 12) ∧ Ct yX12_state mX12_state d 0 0 [.ref a0, .int x1, .int x2] M (some (.int r), M2) := by
  obtain ⟨hk, hb⟩ := ck_some hf
  exact ⟨hk, ct_of (by decide +kernel) rfl rfl (Nat.le_of_ble_eq_true rfl) (vb_X12_state d hd a0 x1 x2 M) (by rw [hb]; rfl)⟩
theorem dX12_behind_0 : decode cX12_behind 0 = .ok (.aload_n 0, 1) := by decide +kernel
theorem dX12_behind_1 : decode cX12_behind 1 = .ok (.iload_n 1, 1) := by decide +kernel
theorem dX12_behind_2 : decode cX12_behind 2 = .ok (.invokevirtual 102, 3) := by decide +kernel
theorem dX12_behind_5 : decode cX12_behind 5 = .ok (.ifCond .ne 5, 3) := by decide +kernel
theorem dX12_behind_8 : decode cX12_behind 8 = .ok (.iconst (-1), 1) := by decide +kernel
theorem dX12_behind_9 : decode cX12_behind 9 = .ok (.ireturn, 1) := by decide +kernel
theorem dX12_behind_10 : decode cX12_behind 10 = .ok (.iload_n 2, 1) := by decide +kernel
theorem dX12_behind_11 : decode cX12_behind 11 = .ok (.iconst 0, 1) := by decide +kernel
theorem dX12_behind_12 : decode cX12_behind 12 = .ok (.iconst 3, 1) := by decide +kernel
theorem dX12_behind_13 : decode cX12_behind 13 = .ok (.invokestatic 81, 3) := by decide +kernel
theorem dX12_behind_16 : decode cX12_behind 16 = .ok (.ifCond .ne 6, 3) := by decide +kernel
theorem dX12_behind_19 : decode cX12_behind 19 = .ok (.bipush (-2), 2) := by decide +kernel
theorem dX12_behind_21 : decode cX12_behind 21 = .ok (.ireturn, 1) := by decide +kernel
theorem dX12_behind_22 : decode cX12_behind 22 = .ok (.aload_n 0, 1) := by decide +kernel
theorem dX12_behind_23 : decode cX12_behind 23 = .ok (.invokevirtual 175, 3) := by decide +kernel
theorem dX12_behind_26 : decode cX12_behind 26 = .ok (.ifCond .ge 8, 3) := by decide +kernel
theorem dX12_behind_29 : decode cX12_behind 29 = .ok (.bipush (-5), 2) := by decide +kernel
theorem dX12_behind_31 : decode cX12_behind 31 = .ok (.goto 9, 3) := by decide +kernel
theorem dX12_behind_34 : decode cX12_behind 34 = .ok (.aload_n 0, 1) := by decide +kernel
theorem dX12_behind_35 : decode cX12_behind 35 = .ok (.iload_n 1, 1) := by decide +kernel
theorem dX12_behind_36 : decode cX12_behind 36 = .ok (.iload_n 2, 1) := by decide +kernel
theorem dX12_behind_37 : decode cX12_behind 37 = .ok (.invokevirtual 181, 3) := by decide +kernel
theorem dX12_behind_40 : decode cX12_behind 40 = .ok (.ireturn, 1) := by decide +kernel
noncomputable def b_X12_behind (a0 : Nat) (x1 : Int32) (x2 : Int32) (M : Me) : Option (Int32 × Me) :=
  cP (f_X12_isThere a0 x1 M) fun v1 =>
  if v1 = 0 then (
    some ((-1 : Int32), M)
  ) else (
    cP (f_X12_in x2 (0 : Int32) (3 : Int32) M) fun v2 =>
    if v2 = 0 then (
      some ((-2 : Int32), M)
    ) else (
      cI (f_X12_barOfCourt a0 M) fun v3 M4 =>
      (
        if 0 ≤ v3 then (
          cP (f_X12_stateNow a0 x1 x2 M4) fun v5 =>
          some v5
        ) else (
          some (-5 : Int32)
        )
      ).bind fun v6 =>
      some (v6, M4)
    )
  )
noncomputable def f_X12_behind (a0 : Nat) (x1 : Int32) (x2 : Int32) (M : Me) : Option (Int32 × Me) := ck M a0 12 (b_X12_behind a0 x1 x2 M)
set_option maxRecDepth 20000 in
theorem vb_X12_behind (d : Nat) (hd : 6 ≤ d) (a0 : Nat) (x1 : Int32) (x2 : Int32) (M : Me) : V (mX12_behind, d, 0, 0) (0, 0) M 0 [some (.ref a0), some (.int x1), some (.int x2)] [] (b_X12_behind a0 x1 x2 M) (fun z => some (some (.int z.1), z.2)) := by
  unfold b_X12_behind
  refine v_aload_n (q := 1) dX12_behind_0 rfl rfl rfl ?_
  refine v_iload_n (q := 2) dX12_behind_1 rfl rfl rfl ?_
  refine v_cPV1 (q := 5) (ct_X12_isThere (d - 1) (by omega) _ _ _) dX12_behind_2 rfl cc_X12_102 (by omega) (Nat.le_of_ble_eq_true rfl) ⟨Nat.le_of_ble_eq_true rfl, Nat.le_of_ble_eq_true rfl⟩ (fun v1 => ?_)
  refine v_if_ne (tgt := 10) (q := 8) dX12_behind_5 rfl rfl ?_ ?_
  · refine v_iload_n (q := 11) dX12_behind_10 rfl rfl rfl ?_
    refine v_iconst (q := 12) dX12_behind_11 rfl ic_0 ?_
    refine v_iconst (q := 13) dX12_behind_12 rfl ic_3 ?_
    refine v_cPS3 (q := 16) (ct_X12_in (d - 1) (by omega) _ _ _ _) dX12_behind_13 rfl cc_X12_81 (by omega) (Nat.le_of_ble_eq_true rfl) ⟨Nat.le_of_ble_eq_true rfl, Nat.le_of_ble_eq_true rfl⟩ (fun v2 => ?_)
    refine v_if_ne (tgt := 22) (q := 19) dX12_behind_16 rfl rfl ?_ ?_
    · refine v_aload_n (q := 23) dX12_behind_22 rfl rfl rfl ?_
      refine v_cIV0 (q := 26) (ct_X12_barOfCourt (d - 1) (by omega) _ _) dX12_behind_23 rfl cc_X12_175 (by omega) (Nat.le_of_ble_eq_true rfl) ⟨Nat.le_of_ble_eq_true rfl, Nat.le_of_ble_eq_true rfl⟩ (fun v3 M4 => ?_)
      refine v_join (γ := Int32) 40 (fun v6 => M4) (fun v6 => [some (.ref a0), some (.int x1), some (.int x2)]) (fun v6 => [.int v6]) (fun K hK => ?_) (fun v6 => ?_)
      · refine v_if_ge (tgt := 34) (q := 29) dX12_behind_26 rfl rfl ?_ ?_
        · refine v_aload_n (q := 35) dX12_behind_34 rfl rfl rfl ?_
          refine v_iload_n (q := 36) dX12_behind_35 rfl rfl rfl ?_
          refine v_iload_n (q := 37) dX12_behind_36 rfl rfl rfl ?_
          refine v_cPV2 (q := 40) (ct_X12_stateNow (d - 1) (by omega) _ _ _ _) dX12_behind_37 rfl cc_X12_181 (by omega) (Nat.le_of_ble_eq_true rfl) ⟨Nat.le_of_ble_eq_true rfl, Nat.le_of_ble_eq_true rfl⟩ (fun v5 => ?_)
          exact hK v5
        · refine v_bipush (q := 31) dX12_behind_29 rfl bp_m5 ?_
          refine v_goto (tgt := 40) dX12_behind_31 rfl ?_
          exact hK (-5 : Int32)
      · exact v_iret rfl dX12_behind_40 ⟨Nat.le_of_ble_eq_true rfl, Nat.le_of_ble_eq_true rfl⟩ rfl
    · refine v_bipush (q := 21) dX12_behind_19 rfl bp_m2 ?_
      exact v_iret rfl dX12_behind_21 ⟨Nat.le_of_ble_eq_true rfl, Nat.le_of_ble_eq_true rfl⟩ rfl
  · refine v_iconst (q := 9) dX12_behind_8 rfl ic_m1 ?_
    exact v_iret rfl dX12_behind_9 ⟨Nat.le_of_ble_eq_true rfl, Nat.le_of_ble_eq_true rfl⟩ rfl
theorem ct_X12_behind (d : Nat) (hd : 6 ≤ d) (a0 : Nat) (x1 : Int32) (x2 : Int32) (M : Me) (r : Int32) (M2 : Me) (hf : f_X12_behind a0 x1 x2 M = some (r, M2)) : me_k M a0 = some (12, nf_c 12) ∧ Ct yX12_behind mX12_behind d 0 0 [.ref a0, .int x1, .int x2] M (some (.int r), M2) := by
  obtain ⟨hk, hb⟩ := ck_some hf
  exact ⟨hk, ct_of (by decide +kernel) rfl rfl (Nat.le_of_ble_eq_true rfl) (vb_X12_behind d hd a0 x1 x2 M) (by rw [hb]; rfl)⟩
theorem dX12_debt_0 : decode cX12_debt 0 = .ok (.iload_n 2, 1) := by decide +kernel
theorem dX12_debt_1 : decode cX12_debt 1 = .ok (.iconst 0, 1) := by decide +kernel
theorem dX12_debt_2 : decode cX12_debt 2 = .ok (.iconst 3, 1) := by decide +kernel
theorem dX12_debt_3 : decode cX12_debt 3 = .ok (.invokestatic 81, 3) := by decide +kernel
theorem dX12_debt_6 : decode cX12_debt 6 = .ok (.ifCond .ne 6, 3) := by decide +kernel
theorem dX12_debt_9 : decode cX12_debt 9 = .ok (.bipush (-2), 2) := by decide +kernel
theorem dX12_debt_11 : decode cX12_debt 11 = .ok (.ireturn, 1) := by decide +kernel
theorem dX12_debt_12 : decode cX12_debt 12 = .ok (.iload_n 1, 1) := by decide +kernel
theorem dX12_debt_13 : decode cX12_debt 13 = .ok (.iconst (-1), 1) := by decide +kernel
theorem dX12_debt_14 : decode cX12_debt 14 = .ok (.if_icmp .ne 10, 3) := by decide +kernel
theorem dX12_debt_17 : decode cX12_debt 17 = .ok (.aload_n 0, 1) := by decide +kernel
theorem dX12_debt_18 : decode cX12_debt 18 = .ok (.getfield 95, 3) := by decide +kernel
theorem dX12_debt_21 : decode cX12_debt 21 = .ok (.goto 32, 3) := by decide +kernel
theorem dX12_debt_24 : decode cX12_debt 24 = .ok (.iload_n 1, 1) := by decide +kernel
theorem dX12_debt_25 : decode cX12_debt 25 = .ok (.iconst 0, 1) := by decide +kernel
theorem dX12_debt_26 : decode cX12_debt 26 = .ok (.aload_n 0, 1) := by decide +kernel
theorem dX12_debt_27 : decode cX12_debt 27 = .ok (.getfield 95, 3) := by decide +kernel
theorem dX12_debt_30 : decode cX12_debt 30 = .ok (.iconst 1, 1) := by decide +kernel
theorem dX12_debt_31 : decode cX12_debt 31 = .ok (.isub, 1) := by decide +kernel
theorem dX12_debt_32 : decode cX12_debt 32 = .ok (.invokestatic 81, 3) := by decide +kernel
theorem dX12_debt_35 : decode cX12_debt 35 = .ok (.ifCond .eq 16, 3) := by decide +kernel
theorem dX12_debt_38 : decode cX12_debt 38 = .ok (.aload_n 0, 1) := by decide +kernel
theorem dX12_debt_39 : decode cX12_debt 39 = .ok (.getfield 41, 3) := by decide +kernel
theorem dX12_debt_42 : decode cX12_debt 42 = .ok (.iconst 4, 1) := by decide +kernel
theorem dX12_debt_43 : decode cX12_debt 43 = .ok (.iload_n 1, 1) := by decide +kernel
theorem dX12_debt_44 : decode cX12_debt 44 = .ok (.imul, 1) := by decide +kernel
theorem dX12_debt_45 : decode cX12_debt 45 = .ok (.iload_n 2, 1) := by decide +kernel
theorem dX12_debt_46 : decode cX12_debt 46 = .ok (.iadd, 1) := by decide +kernel
theorem dX12_debt_47 : decode cX12_debt 47 = .ok (.iaload, 1) := by decide +kernel
theorem dX12_debt_48 : decode cX12_debt 48 = .ok (.goto 5, 3) := by decide +kernel
theorem dX12_debt_51 : decode cX12_debt 51 = .ok (.bipush (-6), 2) := by decide +kernel
theorem dX12_debt_53 : decode cX12_debt 53 = .ok (.ireturn, 1) := by decide +kernel
noncomputable def b_X12_debt (a0 : Nat) (x1 : Int32) (x2 : Int32) (M : Me) : Option (Int32) :=
  cP (f_X12_in x2 (0 : Int32) (3 : Int32) M) fun v1 =>
  if v1 = 0 then (
    some (-2 : Int32)
  ) else (
    (
      if x1 = (-1 : Int32) then (
        gi M a0 12 13 fun v6 =>
        some v6
      ) else (
        gi M a0 12 13 fun v2 =>
        cP (f_X12_in x1 (0 : Int32) (v2 - (1 : Int32)) M) fun v3 =>
        if v3 = 0 then (
          some (-6 : Int32)
        ) else (
          gr M a0 12 14 fun o4 =>
          li M o4 (((4 : Int32) * x1) + x2) fun v5 =>
          some v5
        )
      )
    ).bind fun v7 =>
    some v7
  )
noncomputable def f_X12_debt (a0 : Nat) (x1 : Int32) (x2 : Int32) (M : Me) : Option (Int32) := ck M a0 12 (b_X12_debt a0 x1 x2 M)
set_option maxRecDepth 20000 in
theorem vb_X12_debt (d : Nat) (hd : 1 ≤ d) (a0 : Nat) (x1 : Int32) (x2 : Int32) (M : Me) : V (mX12_debt, d, 0, 0) (0, 0) M 0 [some (.ref a0), some (.int x1), some (.int x2)] [] (b_X12_debt a0 x1 x2 M) (fun z => some (some (.int z), M)) := by
  unfold b_X12_debt
  refine v_iload_n (q := 1) dX12_debt_0 rfl rfl rfl ?_
  refine v_iconst (q := 2) dX12_debt_1 rfl ic_0 ?_
  refine v_iconst (q := 3) dX12_debt_2 rfl ic_3 ?_
  refine v_cPS3 (q := 6) (ct_X12_in (d - 1) (by omega) _ _ _ _) dX12_debt_3 rfl cc_X12_81 (by omega) (Nat.le_of_ble_eq_true rfl) ⟨Nat.le_of_ble_eq_true rfl, Nat.le_of_ble_eq_true rfl⟩ (fun v1 => ?_)
  refine v_if_ne (tgt := 12) (q := 9) dX12_debt_6 rfl rfl ?_ ?_
  · refine v_iload_n (q := 13) dX12_debt_12 rfl rfl rfl ?_
    refine v_iconst (q := 14) dX12_debt_13 rfl ic_m1 ?_
    refine v_join (γ := Int32) 53 (fun v7 => M) (fun v7 => [some (.ref a0), some (.int x1), some (.int x2)]) (fun v7 => [.int v7]) (fun K hK => ?_) (fun v7 => ?_)
    · refine v_icmp_ne (tgt := 24) (q := 17) dX12_debt_14 rfl rfl ?_ ?_
      · refine v_iload_n (q := 25) dX12_debt_24 rfl rfl rfl ?_
        refine v_iconst (q := 26) dX12_debt_25 rfl ic_0 ?_
        refine v_aload_n (q := 27) dX12_debt_26 rfl rfl rfl ?_
        refine v_getIb (q := 30) dX12_debt_27 rfl fg_X12_95 (fun v2 => ?_)
        refine v_iconst (q := 31) dX12_debt_30 rfl ic_1 ?_
        refine v_isub (q := 32) dX12_debt_31 rfl ?_
        refine v_cPS3 (q := 35) (ct_X12_in (d - 1) (by omega) _ _ _ _) dX12_debt_32 rfl cc_X12_81 (by omega) (Nat.le_of_ble_eq_true rfl) ⟨Nat.le_of_ble_eq_true rfl, Nat.le_of_ble_eq_true rfl⟩ (fun v3 => ?_)
        refine v_if_eq (tgt := 51) (q := 38) dX12_debt_35 rfl rfl ?_ ?_
        · refine v_bipush (q := 53) dX12_debt_51 rfl bp_m6 ?_
          exact hK (-6 : Int32)
        · refine v_aload_n (q := 39) dX12_debt_38 rfl rfl rfl ?_
          refine v_getRb (q := 42) dX12_debt_39 rfl fg_X12_41 (fun o4 => ?_)
          refine v_iconst (q := 43) dX12_debt_42 rfl ic_4 ?_
          refine v_iload_n (q := 44) dX12_debt_43 rfl rfl rfl ?_
          refine v_imul (q := 45) dX12_debt_44 rfl ?_
          refine v_iload_n (q := 46) dX12_debt_45 rfl rfl rfl ?_
          refine v_iadd (q := 47) dX12_debt_46 rfl ?_
          refine v_iaload (q := 48) dX12_debt_47 rfl (fun v5 => ?_)
          refine v_goto (tgt := 53) dX12_debt_48 rfl ?_
          exact hK v5
      · refine v_aload_n (q := 18) dX12_debt_17 rfl rfl rfl ?_
        refine v_getIb (q := 21) dX12_debt_18 rfl fg_X12_95 (fun v6 => ?_)
        refine v_goto (tgt := 53) dX12_debt_21 rfl ?_
        exact hK v6
    · exact v_iret rfl dX12_debt_53 ⟨Nat.le_of_ble_eq_true rfl, Nat.le_of_ble_eq_true rfl⟩ rfl
  · refine v_bipush (q := 11) dX12_debt_9 rfl bp_m2 ?_
    exact v_iret rfl dX12_debt_11 ⟨Nat.le_of_ble_eq_true rfl, Nat.le_of_ble_eq_true rfl⟩ rfl
theorem ct_X12_debt (d : Nat) (hd : 1 ≤ d) (a0 : Nat) (x1 : Int32) (x2 : Int32) (M : Me) (r : Int32) (hf : f_X12_debt a0 x1 x2 M = some r) : me_k M a0 = some (12, nf_c 12) ∧ Ct yX12_debt mX12_debt d 0 0 [.ref a0, .int x1, .int x2] M (some (.int r), M) := by
  obtain ⟨hk, hb⟩ := ck_some hf
  exact ⟨hk, ct_of (by decide +kernel) rfl rfl (Nat.le_of_ble_eq_true rfl) (vb_X12_debt d hd a0 x1 x2 M) (by rw [hb]; rfl)⟩
theorem dX12_arrival_0 : decode cX12_arrival 0 = .ok (.iload_n 1, 1) := by decide +kernel
theorem dX12_arrival_1 : decode cX12_arrival 1 = .ok (.aload_n 0, 1) := by decide +kernel
theorem dX12_arrival_2 : decode cX12_arrival 2 = .ok (.getfield 17, 3) := by decide +kernel
theorem dX12_arrival_5 : decode cX12_arrival 5 = .ok (.irem, 1) := by decide +kernel
theorem dX12_arrival_6 : decode cX12_arrival 6 = .ok (.istore_n 3, 1) := by decide +kernel
theorem dX12_arrival_7 : decode cX12_arrival 7 = .ok (.iload_n 3, 1) := by decide +kernel
theorem dX12_arrival_8 : decode cX12_arrival 8 = .ok (.bipush 90, 2) := by decide +kernel
theorem dX12_arrival_10 : decode cX12_arrival 10 = .ok (.if_icmp .ge 11, 3) := by decide +kernel
theorem dX12_arrival_13 : decode cX12_arrival 13 = .ok (.iload_n 1, 1) := by decide +kernel
theorem dX12_arrival_14 : decode cX12_arrival 14 = .ok (.iconst 2, 1) := by decide +kernel
theorem dX12_arrival_15 : decode cX12_arrival 15 = .ok (.iload_n 2, 1) := by decide +kernel
theorem dX12_arrival_16 : decode cX12_arrival 16 = .ok (.imul, 1) := by decide +kernel
theorem dX12_arrival_17 : decode cX12_arrival 17 = .ok (.iadd, 1) := by decide +kernel
theorem dX12_arrival_18 : decode cX12_arrival 18 = .ok (.goto 6, 3) := by decide +kernel
theorem dX12_arrival_21 : decode cX12_arrival 21 = .ok (.iload_n 1, 1) := by decide +kernel
theorem dX12_arrival_22 : decode cX12_arrival 22 = .ok (.iload_n 2, 1) := by decide +kernel
theorem dX12_arrival_23 : decode cX12_arrival 23 = .ok (.iadd, 1) := by decide +kernel
theorem dX12_arrival_24 : decode cX12_arrival 24 = .ok (.istore 4, 2) := by decide +kernel
theorem dX12_arrival_26 : decode cX12_arrival 26 = .ok (.aload_n 0, 1) := by decide +kernel
theorem dX12_arrival_27 : decode cX12_arrival 27 = .ok (.getfield 17, 3) := by decide +kernel
theorem dX12_arrival_30 : decode cX12_arrival 30 = .ok (.bipush 90, 2) := by decide +kernel
theorem dX12_arrival_32 : decode cX12_arrival 32 = .ok (.if_icmp .gt 8, 3) := by decide +kernel
theorem dX12_arrival_35 : decode cX12_arrival 35 = .ok (.ldc 184, 2) := by decide +kernel
theorem dX12_arrival_37 : decode cX12_arrival 37 = .ok (.goto 22, 3) := by decide +kernel
theorem dX12_arrival_40 : decode cX12_arrival 40 = .ok (.iload_n 3, 1) := by decide +kernel
theorem dX12_arrival_41 : decode cX12_arrival 41 = .ok (.bipush 90, 2) := by decide +kernel
theorem dX12_arrival_43 : decode cX12_arrival 43 = .ok (.if_icmp .ge 14, 3) := by decide +kernel
theorem dX12_arrival_46 : decode cX12_arrival 46 = .ok (.iload_n 1, 1) := by decide +kernel
theorem dX12_arrival_47 : decode cX12_arrival 47 = .ok (.iload_n 3, 1) := by decide +kernel
theorem dX12_arrival_48 : decode cX12_arrival 48 = .ok (.isub, 1) := by decide +kernel
theorem dX12_arrival_49 : decode cX12_arrival 49 = .ok (.bipush 90, 2) := by decide +kernel
theorem dX12_arrival_51 : decode cX12_arrival 51 = .ok (.iadd, 1) := by decide +kernel
theorem dX12_arrival_52 : decode cX12_arrival 52 = .ok (.iload_n 2, 1) := by decide +kernel
theorem dX12_arrival_53 : decode cX12_arrival 53 = .ok (.iadd, 1) := by decide +kernel
theorem dX12_arrival_54 : decode cX12_arrival 54 = .ok (.goto 5, 3) := by decide +kernel
theorem dX12_arrival_57 : decode cX12_arrival 57 = .ok (.ldc 184, 2) := by decide +kernel
theorem dX12_arrival_59 : decode cX12_arrival 59 = .ok (.istore 5, 2) := by decide +kernel
theorem dX12_arrival_61 : decode cX12_arrival 61 = .ok (.iload 4, 2) := by decide +kernel
theorem dX12_arrival_63 : decode cX12_arrival 63 = .ok (.iload 5, 2) := by decide +kernel
theorem dX12_arrival_65 : decode cX12_arrival 65 = .ok (.if_icmp .ge 8, 3) := by decide +kernel
theorem dX12_arrival_68 : decode cX12_arrival 68 = .ok (.iload 4, 2) := by decide +kernel
theorem dX12_arrival_70 : decode cX12_arrival 70 = .ok (.goto 5, 3) := by decide +kernel
theorem dX12_arrival_73 : decode cX12_arrival 73 = .ok (.iload 5, 2) := by decide +kernel
theorem dX12_arrival_75 : decode cX12_arrival 75 = .ok (.ireturn, 1) := by decide +kernel
noncomputable def b_X12_arrival (a0 : Nat) (x1 : Int32) (x2 : Int32) (M : Me) : Option (Int32) :=
  gi M a0 12 2 fun v1 =>
  if v1 = 0 then none else
  let_v ((x1 - x1 / v1 * v1)) fun v2 =>
  (
    if (90 : Int32) ≤ v2 then (
      some (x1 + x2)
    ) else (
      some (x1 + ((2 : Int32) * x2))
    )
  ).bind fun v3 =>
  gi M a0 12 2 fun v4 =>
  (
    if (90 : Int32) < v4 then (
      if (90 : Int32) ≤ v2 then (
        some (10000000 : Int32)
      ) else (
        some (((x1 - v2) + (90 : Int32)) + x2)
      )
    ) else (
      some (10000000 : Int32)
    )
  ).bind fun v5 =>
  (
    if v5 ≤ v3 then (
      some v5
    ) else (
      some v3
    )
  ).bind fun v6 =>
  some v6
noncomputable def f_X12_arrival (a0 : Nat) (x1 : Int32) (x2 : Int32) (M : Me) : Option (Int32) := ck M a0 12 (b_X12_arrival a0 x1 x2 M)
set_option maxRecDepth 20000 in
theorem vb_X12_arrival (d : Nat) (hd : 0 ≤ d) (a0 : Nat) (x1 : Int32) (x2 : Int32) (M : Me) : V (mX12_arrival, d, 0, 0) (0, 0) M 0 [some (.ref a0), some (.int x1), some (.int x2), none, none, none] [] (b_X12_arrival a0 x1 x2 M) (fun z => some (some (.int z), M)) := by
  unfold b_X12_arrival
  refine v_iload_n (q := 1) dX12_arrival_0 rfl rfl rfl ?_
  refine v_aload_n (q := 2) dX12_arrival_1 rfl rfl rfl ?_
  refine v_getIb (q := 5) dX12_arrival_2 rfl fg_X12_17 (fun v1 => ?_)
  refine v_irem (q := 6) dX12_arrival_5 rfl ?_
  refine v_letI (fun v2 => ?_)
  refine v_istore_n (q := 7) (loc2 := [some (.ref a0), some (.int x1), some (.int x2), some (.int v2), none, none]) dX12_arrival_6 rfl rfl rfl (Nat.le_of_ble_eq_true rfl) rfl ?_
  refine v_iload_n (q := 8) dX12_arrival_7 rfl rfl rfl ?_
  refine v_bipush (q := 10) dX12_arrival_8 rfl bp_90 ?_
  refine v_join (γ := Int32) 24 (fun v3 => M) (fun v3 => [some (.ref a0), some (.int x1), some (.int x2), some (.int v2), none, none]) (fun v3 => [.int v3]) (fun K hK => ?_) (fun v3 => ?_)
  · refine v_icmp_ge (tgt := 21) (q := 13) dX12_arrival_10 rfl rfl ?_ ?_
    · refine v_iload_n (q := 22) dX12_arrival_21 rfl rfl rfl ?_
      refine v_iload_n (q := 23) dX12_arrival_22 rfl rfl rfl ?_
      refine v_iadd (q := 24) dX12_arrival_23 rfl ?_
      exact hK (x1 + x2)
    · refine v_iload_n (q := 14) dX12_arrival_13 rfl rfl rfl ?_
      refine v_iconst (q := 15) dX12_arrival_14 rfl ic_2 ?_
      refine v_iload_n (q := 16) dX12_arrival_15 rfl rfl rfl ?_
      refine v_imul (q := 17) dX12_arrival_16 rfl ?_
      refine v_iadd (q := 18) dX12_arrival_17 rfl ?_
      refine v_goto (tgt := 24) dX12_arrival_18 rfl ?_
      exact hK (x1 + ((2 : Int32) * x2))
  · refine v_istore (q := 26) (loc2 := [some (.ref a0), some (.int x1), some (.int x2), some (.int v2), some (.int v3), none]) dX12_arrival_24 rfl rfl (Nat.le_of_ble_eq_true rfl) rfl ?_
    refine v_aload_n (q := 27) dX12_arrival_26 rfl rfl rfl ?_
    refine v_getIb (q := 30) dX12_arrival_27 rfl fg_X12_17 (fun v4 => ?_)
    refine v_bipush (q := 32) dX12_arrival_30 rfl bp_90 ?_
    refine v_join (γ := Int32) 59 (fun v5 => M) (fun v5 => [some (.ref a0), some (.int x1), some (.int x2), some (.int v2), some (.int v3), none]) (fun v5 => [.int v5]) (fun K hK => ?_) (fun v5 => ?_)
    · refine v_icmp_gt (tgt := 40) (q := 35) dX12_arrival_32 rfl rfl ?_ ?_
      · refine v_iload_n (q := 41) dX12_arrival_40 rfl rfl rfl ?_
        refine v_bipush (q := 43) dX12_arrival_41 rfl bp_90 ?_
        refine v_icmp_ge (tgt := 57) (q := 46) dX12_arrival_43 rfl rfl ?_ ?_
        · refine v_ldc (q := 59) (v := (10000000 : Int32)) kc_X12_184 dX12_arrival_57 rfl ?_
          exact hK (10000000 : Int32)
        · refine v_iload_n (q := 47) dX12_arrival_46 rfl rfl rfl ?_
          refine v_iload_n (q := 48) dX12_arrival_47 rfl rfl rfl ?_
          refine v_isub (q := 49) dX12_arrival_48 rfl ?_
          refine v_bipush (q := 51) dX12_arrival_49 rfl bp_90 ?_
          refine v_iadd (q := 52) dX12_arrival_51 rfl ?_
          refine v_iload_n (q := 53) dX12_arrival_52 rfl rfl rfl ?_
          refine v_iadd (q := 54) dX12_arrival_53 rfl ?_
          refine v_goto (tgt := 59) dX12_arrival_54 rfl ?_
          exact hK (((x1 - v2) + (90 : Int32)) + x2)
      · refine v_ldc (q := 37) (v := (10000000 : Int32)) kc_X12_184 dX12_arrival_35 rfl ?_
        refine v_goto (tgt := 59) dX12_arrival_37 rfl ?_
        exact hK (10000000 : Int32)
    · refine v_istore (q := 61) (loc2 := [some (.ref a0), some (.int x1), some (.int x2), some (.int v2), some (.int v3), some (.int v5)]) dX12_arrival_59 rfl rfl (Nat.le_of_ble_eq_true rfl) rfl ?_
      refine v_iload (q := 63) dX12_arrival_61 rfl rfl ?_
      refine v_iload (q := 65) dX12_arrival_63 rfl rfl ?_
      refine v_join (γ := Int32) 75 (fun v6 => M) (fun v6 => [some (.ref a0), some (.int x1), some (.int x2), some (.int v2), some (.int v3), some (.int v5)]) (fun v6 => [.int v6]) (fun K hK => ?_) (fun v6 => ?_)
      · refine v_icmp_ge (tgt := 73) (q := 68) dX12_arrival_65 rfl rfl ?_ ?_
        · refine v_iload (q := 75) dX12_arrival_73 rfl rfl ?_
          exact hK v5
        · refine v_iload (q := 70) dX12_arrival_68 rfl rfl ?_
          refine v_goto (tgt := 75) dX12_arrival_70 rfl ?_
          exact hK v3
      · exact v_iret rfl dX12_arrival_75 ⟨Nat.le_of_ble_eq_true rfl, Nat.le_of_ble_eq_true rfl⟩ rfl
theorem ct_X12_arrival (d : Nat) (hd : 0 ≤ d) (a0 : Nat) (x1 : Int32) (x2 : Int32) (M : Me) (r : Int32) (hf : f_X12_arrival a0 x1 x2 M = some r) : me_k M a0 = some (12, nf_c 12) ∧ Ct yX12_arrival mX12_arrival d 0 0 [.ref a0, .int x1, .int x2] M (some (.int r), M) := by
  obtain ⟨hk, hb⟩ := ck_some hf
  exact ⟨hk, ct_of (by decide +kernel) rfl rfl (Nat.le_of_ble_eq_true rfl) (vb_X12_arrival d hd a0 x1 x2 M) (by rw [hb]; rfl)⟩
theorem dX12_layJourneys_0 : decode cX12_layJourneys 0 = .ok (.iconst 0, 1) := by decide +kernel
theorem dX12_layJourneys_1 : decode cX12_layJourneys 1 = .ok (.istore_n 3, 1) := by decide +kernel
theorem dX12_layJourneys_2 : decode cX12_layJourneys 2 = .ok (.iload_n 3, 1) := by decide +kernel
theorem dX12_layJourneys_3 : decode cX12_layJourneys 3 = .ok (.iconst 5, 1) := by decide +kernel
theorem dX12_layJourneys_4 : decode cX12_layJourneys 4 = .ok (.if_icmp .ge 26, 3) := by decide +kernel
theorem dX12_layJourneys_7 : decode cX12_layJourneys 7 = .ok (.aload_n 0, 1) := by decide +kernel
theorem dX12_layJourneys_8 : decode cX12_layJourneys 8 = .ok (.getfield 62, 3) := by decide +kernel
theorem dX12_layJourneys_11 : decode cX12_layJourneys 11 = .ok (.iload_n 3, 1) := by decide +kernel
theorem dX12_layJourneys_12 : decode cX12_layJourneys 12 = .ok (.iload_n 3, 1) := by decide +kernel
theorem dX12_layJourneys_13 : decode cX12_layJourneys 13 = .ok (.iload_n 1, 1) := by decide +kernel
theorem dX12_layJourneys_14 : decode cX12_layJourneys 14 = .ok (.if_icmp .ne 7, 3) := by decide +kernel
theorem dX12_layJourneys_17 : decode cX12_layJourneys 17 = .ok (.iload_n 2, 1) := by decide +kernel
theorem dX12_layJourneys_18 : decode cX12_layJourneys 18 = .ok (.goto 5, 3) := by decide +kernel
theorem dX12_layJourneys_21 : decode cX12_layJourneys 21 = .ok (.ldc 184, 2) := by decide +kernel
theorem dX12_layJourneys_23 : decode cX12_layJourneys 23 = .ok (.iastore, 1) := by decide +kernel
theorem dX12_layJourneys_24 : decode cX12_layJourneys 24 = .ok (.iinc 3 1, 3) := by decide +kernel
theorem dX12_layJourneys_27 : decode cX12_layJourneys 27 = .ok (.goto (-25), 3) := by decide +kernel
theorem dX12_layJourneys_30 : decode cX12_layJourneys 30 = .ok (.iconst 1, 1) := by decide +kernel
theorem dX12_layJourneys_31 : decode cX12_layJourneys 31 = .ok (.istore_n 3, 1) := by decide +kernel
theorem dX12_layJourneys_32 : decode cX12_layJourneys 32 = .ok (.iload_n 3, 1) := by decide +kernel
theorem dX12_layJourneys_33 : decode cX12_layJourneys 33 = .ok (.ifCond .eq 149, 3) := by decide +kernel
theorem dX12_layJourneys_36 : decode cX12_layJourneys 36 = .ok (.iconst 0, 1) := by decide +kernel
theorem dX12_layJourneys_37 : decode cX12_layJourneys 37 = .ok (.istore_n 3, 1) := by decide +kernel
theorem dX12_layJourneys_38 : decode cX12_layJourneys 38 = .ok (.iconst 0, 1) := by decide +kernel
theorem dX12_layJourneys_39 : decode cX12_layJourneys 39 = .ok (.istore 4, 2) := by decide +kernel
theorem dX12_layJourneys_41 : decode cX12_layJourneys 41 = .ok (.iload 4, 2) := by decide +kernel
theorem dX12_layJourneys_43 : decode cX12_layJourneys 43 = .ok (.aload_n 0, 1) := by decide +kernel
theorem dX12_layJourneys_44 : decode cX12_layJourneys 44 = .ok (.getfield 7, 3) := by decide +kernel
theorem dX12_layJourneys_47 : decode cX12_layJourneys 47 = .ok (.if_icmp .ge 132, 3) := by decide +kernel
theorem dX12_layJourneys_50 : decode cX12_layJourneys 50 = .ok (.iconst 0, 1) := by decide +kernel
theorem dX12_layJourneys_51 : decode cX12_layJourneys 51 = .ok (.istore 5, 2) := by decide +kernel
theorem dX12_layJourneys_53 : decode cX12_layJourneys 53 = .ok (.iload 5, 2) := by decide +kernel
theorem dX12_layJourneys_55 : decode cX12_layJourneys 55 = .ok (.aload_n 0, 1) := by decide +kernel
theorem dX12_layJourneys_56 : decode cX12_layJourneys 56 = .ok (.getfield 7, 3) := by decide +kernel
theorem dX12_layJourneys_59 : decode cX12_layJourneys 59 = .ok (.if_icmp .ge 114, 3) := by decide +kernel
theorem dX12_layJourneys_62 : decode cX12_layJourneys 62 = .ok (.aload_n 0, 1) := by decide +kernel
theorem dX12_layJourneys_63 : decode cX12_layJourneys 63 = .ok (.getfield 13, 3) := by decide +kernel
theorem dX12_layJourneys_66 : decode cX12_layJourneys 66 = .ok (.iconst 5, 1) := by decide +kernel
theorem dX12_layJourneys_67 : decode cX12_layJourneys 67 = .ok (.iload 4, 2) := by decide +kernel
theorem dX12_layJourneys_69 : decode cX12_layJourneys 69 = .ok (.imul, 1) := by decide +kernel
theorem dX12_layJourneys_70 : decode cX12_layJourneys 70 = .ok (.iload 5, 2) := by decide +kernel
theorem dX12_layJourneys_72 : decode cX12_layJourneys 72 = .ok (.iadd, 1) := by decide +kernel
theorem dX12_layJourneys_73 : decode cX12_layJourneys 73 = .ok (.iaload, 1) := by decide +kernel
theorem dX12_layJourneys_74 : decode cX12_layJourneys 74 = .ok (.ifCond .le 93, 3) := by decide +kernel
theorem dX12_layJourneys_77 : decode cX12_layJourneys 77 = .ok (.aload_n 0, 1) := by decide +kernel
theorem dX12_layJourneys_78 : decode cX12_layJourneys 78 = .ok (.getfield 62, 3) := by decide +kernel
theorem dX12_layJourneys_81 : decode cX12_layJourneys 81 = .ok (.iload 4, 2) := by decide +kernel
theorem dX12_layJourneys_83 : decode cX12_layJourneys 83 = .ok (.iaload, 1) := by decide +kernel
theorem dX12_layJourneys_84 : decode cX12_layJourneys 84 = .ok (.ldc 184, 2) := by decide +kernel
theorem dX12_layJourneys_86 : decode cX12_layJourneys 86 = .ok (.if_icmp .ge 81, 3) := by decide +kernel
theorem dX12_layJourneys_89 : decode cX12_layJourneys 89 = .ok (.aload_n 0, 1) := by decide +kernel
theorem dX12_layJourneys_90 : decode cX12_layJourneys 90 = .ok (.aload_n 0, 1) := by decide +kernel
theorem dX12_layJourneys_91 : decode cX12_layJourneys 91 = .ok (.getfield 62, 3) := by decide +kernel
theorem dX12_layJourneys_94 : decode cX12_layJourneys 94 = .ok (.iload 4, 2) := by decide +kernel
theorem dX12_layJourneys_96 : decode cX12_layJourneys 96 = .ok (.iaload, 1) := by decide +kernel
theorem dX12_layJourneys_97 : decode cX12_layJourneys 97 = .ok (.aload_n 0, 1) := by decide +kernel
theorem dX12_layJourneys_98 : decode cX12_layJourneys 98 = .ok (.getfield 13, 3) := by decide +kernel
theorem dX12_layJourneys_101 : decode cX12_layJourneys 101 = .ok (.iconst 5, 1) := by decide +kernel
theorem dX12_layJourneys_102 : decode cX12_layJourneys 102 = .ok (.iload 4, 2) := by decide +kernel
theorem dX12_layJourneys_104 : decode cX12_layJourneys 104 = .ok (.imul, 1) := by decide +kernel
theorem dX12_layJourneys_105 : decode cX12_layJourneys 105 = .ok (.iload 5, 2) := by decide +kernel
theorem dX12_layJourneys_107 : decode cX12_layJourneys 107 = .ok (.iadd, 1) := by decide +kernel
theorem dX12_layJourneys_108 : decode cX12_layJourneys 108 = .ok (.iaload, 1) := by decide +kernel
theorem dX12_layJourneys_109 : decode cX12_layJourneys 109 = .ok (.invokevirtual 185, 3) := by decide +kernel
theorem dX12_layJourneys_112 : decode cX12_layJourneys 112 = .ok (.istore 6, 2) := by decide +kernel
theorem dX12_layJourneys_114 : decode cX12_layJourneys 114 = .ok (.iload_n 3, 1) := by decide +kernel
theorem dX12_layJourneys_115 : decode cX12_layJourneys 115 = .ok (.ifCond .ne 15, 3) := by decide +kernel
theorem dX12_layJourneys_118 : decode cX12_layJourneys 118 = .ok (.iload 6, 2) := by decide +kernel
theorem dX12_layJourneys_120 : decode cX12_layJourneys 120 = .ok (.aload_n 0, 1) := by decide +kernel
theorem dX12_layJourneys_121 : decode cX12_layJourneys 121 = .ok (.getfield 62, 3) := by decide +kernel
theorem dX12_layJourneys_124 : decode cX12_layJourneys 124 = .ok (.iload 5, 2) := by decide +kernel
theorem dX12_layJourneys_126 : decode cX12_layJourneys 126 = .ok (.iaload, 1) := by decide +kernel
theorem dX12_layJourneys_127 : decode cX12_layJourneys 127 = .ok (.if_icmp .ge 7, 3) := by decide +kernel
theorem dX12_layJourneys_130 : decode cX12_layJourneys 130 = .ok (.iconst 1, 1) := by decide +kernel
theorem dX12_layJourneys_131 : decode cX12_layJourneys 131 = .ok (.goto 4, 3) := by decide +kernel
theorem dX12_layJourneys_134 : decode cX12_layJourneys 134 = .ok (.iconst 0, 1) := by decide +kernel
theorem dX12_layJourneys_135 : decode cX12_layJourneys 135 = .ok (.istore_n 3, 1) := by decide +kernel
theorem dX12_layJourneys_136 : decode cX12_layJourneys 136 = .ok (.aload_n 0, 1) := by decide +kernel
theorem dX12_layJourneys_137 : decode cX12_layJourneys 137 = .ok (.getfield 62, 3) := by decide +kernel
theorem dX12_layJourneys_140 : decode cX12_layJourneys 140 = .ok (.iload 5, 2) := by decide +kernel
theorem dX12_layJourneys_142 : decode cX12_layJourneys 142 = .ok (.iload 6, 2) := by decide +kernel
theorem dX12_layJourneys_144 : decode cX12_layJourneys 144 = .ok (.aload_n 0, 1) := by decide +kernel
theorem dX12_layJourneys_145 : decode cX12_layJourneys 145 = .ok (.getfield 62, 3) := by decide +kernel
theorem dX12_layJourneys_148 : decode cX12_layJourneys 148 = .ok (.iload 5, 2) := by decide +kernel
theorem dX12_layJourneys_150 : decode cX12_layJourneys 150 = .ok (.iaload, 1) := by decide +kernel
theorem dX12_layJourneys_151 : decode cX12_layJourneys 151 = .ok (.if_icmp .ge 8, 3) := by decide +kernel
theorem dX12_layJourneys_154 : decode cX12_layJourneys 154 = .ok (.iload 6, 2) := by decide +kernel
theorem dX12_layJourneys_156 : decode cX12_layJourneys 156 = .ok (.goto 10, 3) := by decide +kernel
theorem dX12_layJourneys_159 : decode cX12_layJourneys 159 = .ok (.aload_n 0, 1) := by decide +kernel
theorem dX12_layJourneys_160 : decode cX12_layJourneys 160 = .ok (.getfield 62, 3) := by decide +kernel
theorem dX12_layJourneys_163 : decode cX12_layJourneys 163 = .ok (.iload 5, 2) := by decide +kernel
theorem dX12_layJourneys_165 : decode cX12_layJourneys 165 = .ok (.iaload, 1) := by decide +kernel
theorem dX12_layJourneys_166 : decode cX12_layJourneys 166 = .ok (.iastore, 1) := by decide +kernel
theorem dX12_layJourneys_167 : decode cX12_layJourneys 167 = .ok (.iinc 5 1, 3) := by decide +kernel
theorem dX12_layJourneys_170 : decode cX12_layJourneys 170 = .ok (.goto (-117), 3) := by decide +kernel
theorem dX12_layJourneys_173 : decode cX12_layJourneys 173 = .ok (.iinc 4 1, 3) := by decide +kernel
theorem dX12_layJourneys_176 : decode cX12_layJourneys 176 = .ok (.goto (-135), 3) := by decide +kernel
theorem dX12_layJourneys_179 : decode cX12_layJourneys 179 = .ok (.goto (-147), 3) := by decide +kernel
theorem dX12_layJourneys_182 : decode cX12_layJourneys 182 = .ok (.return_, 1) := by decide +kernel
noncomputable def s_X12_layJourneys_2 (a0 : Nat) (x1 : Int32) (x2 : Int32) (M1 : Me) (v2 : Int32) : Option ((Me × Int32) ⊕ (Me × Int32)) :=
  if (5 : Int32) ≤ v2 then (
    some (Sum.inr (M1, v2))
  ) else (
    gr M1 a0 12 26 fun o3 =>
    (
      if v2 = x1 then (
        some x2
      ) else (
        some (10000000 : Int32)
      )
    ).bind fun v4 =>
    si M1 o3 v2 v4 fun M5 =>
    let_v (v2 + (1 : Int32)) fun v6 =>
    some (Sum.inl (M5, v6))
  )
noncomputable def s_X12_layJourneys_53 (a0 : Nat) (v12 : Int32) (M14 : Me) (v15 : Int32) (v16 : Int32) : Option ((Me × Int32 × Int32) ⊕ (Me × Int32 × Int32)) :=
  gi M14 a0 12 0 fun v17 =>
  if v17 ≤ v16 then (
    some (Sum.inr (M14, v15, v16))
  ) else (
    gr M14 a0 12 1 fun o18 =>
    li M14 o18 (((5 : Int32) * v12) + v16) fun v19 =>
    (
      if v19 ≤ 0 then (
        some (M14, v15)
      ) else (
        gr M14 a0 12 26 fun o20 =>
        li M14 o20 v12 fun v21 =>
        if (10000000 : Int32) ≤ v21 then (
          some (M14, v15)
        ) else (
          gr M14 a0 12 26 fun o22 =>
          li M14 o22 v12 fun v23 =>
          gr M14 a0 12 1 fun o24 =>
          li M14 o24 (((5 : Int32) * v12) + v16) fun v25 =>
          cP (f_X12_arrival a0 v23 v25 M14) fun v26 =>
          (
            if v15 = 0 then (
              gr M14 a0 12 26 fun o27 =>
              li M14 o27 v16 fun v28 =>
              if v28 ≤ v26 then (
                some (0 : Int32)
              ) else (
                some (1 : Int32)
              )
            ) else (
              some (1 : Int32)
            )
          ).bind fun v29 =>
          gr M14 a0 12 26 fun o30 =>
          gr M14 a0 12 26 fun o31 =>
          li M14 o31 v16 fun v32 =>
          (
            if v32 ≤ v26 then (
              gr M14 a0 12 26 fun o33 =>
              li M14 o33 v16 fun v34 =>
              some v34
            ) else (
              some v26
            )
          ).bind fun v35 =>
          si M14 o30 v16 v35 fun M36 =>
          some (M36, v29)
        )
      )
    ).bind fun q37 =>
    let_v (v16 + (1 : Int32)) fun v38 =>
    some (Sum.inl (q37.1, q37.2, v38))
  )
noncomputable def s_X12_layJourneys_41 (a0 : Nat) (M10 : Me) (v11 : Int32) (v12 : Int32) : Option ((Me × Int32 × Int32) ⊕ (Me × Int32 × Int32)) :=
  gi M10 a0 12 0 fun v13 =>
  if v13 ≤ v12 then (
    some (Sum.inr (M10, v11, v12))
  ) else (
    (lp (fun s => s_X12_layJourneys_53 a0 v12 s.1 s.2.1 s.2.2) (M10, v11, (0 : Int32))).bind fun e39 =>
    let_v (v12 + (1 : Int32)) fun v40 =>
    some (Sum.inl (e39.1, e39.2.1, v40))
  )
noncomputable def s_X12_layJourneys_32 (a0 : Nat) (M8 : Me) (v9 : Int32) : Option ((Me × Int32) ⊕ (Me × Int32)) :=
  if v9 = 0 then (
    some (Sum.inr (M8, v9))
  ) else (
    (lp (fun s => s_X12_layJourneys_41 a0 s.1 s.2.1 s.2.2) (M8, (0 : Int32), (0 : Int32))).bind fun e41 =>
    some (Sum.inl (e41.1, e41.2.1))
  )
noncomputable def b_X12_layJourneys (a0 : Nat) (x1 : Int32) (x2 : Int32) (M : Me) : Option (Me) :=
  (lp (fun s => s_X12_layJourneys_2 a0 x1 x2 s.1 s.2) (M, (0 : Int32))).bind fun e7 =>
  (lp (fun s => s_X12_layJourneys_32 a0 s.1 s.2) (e7.1, (1 : Int32))).bind fun e42 =>
  some e42.1
noncomputable def f_X12_layJourneys (a0 : Nat) (x1 : Int32) (x2 : Int32) (M : Me) : Option (Me) := ck M a0 12 (b_X12_layJourneys a0 x1 x2 M)
set_option maxRecDepth 20000 in
theorem vb_X12_layJourneys (d : Nat) (hd : 1 ≤ d) (a0 : Nat) (x1 : Int32) (x2 : Int32) (M : Me) : V (mX12_layJourneys, d, 0, 0) (0, 0) M 0 [some (.ref a0), some (.int x1), some (.int x2), none, none, none, none] [] (b_X12_layJourneys a0 x1 x2 M) (fun M2 => some (none, M2)) := by
  unfold b_X12_layJourneys
  refine v_iconst (q := 1) dX12_layJourneys_0 rfl ic_0 ?_
  refine v_istore_n (q := 2) (loc2 := [some (.ref a0), some (.int x1), some (.int x2), some (.int (0 : Int32)), none, none, none]) dX12_layJourneys_1 rfl rfl rfl (Nat.le_of_ble_eq_true rfl) rfl ?_
  refine v_lps (S := Me × Int32) 30 (fun s => s.1) (fun s => [some (.ref a0), some (.int x1), some (.int x2), some (.int s.2), none, none, none]) (fun e7 => e7.1) (fun e7 => [some (.ref a0), some (.int x1), some (.int x2), some (.int e7.2), none, none, none]) (fun e7 => ?_) (fun k K hk hx s => ?_)
  · refine v_iconst (q := 31) dX12_layJourneys_30 rfl ic_1 ?_
    refine v_istore_n (q := 32) (loc2 := [some (.ref a0), some (.int x1), some (.int x2), some (.int (1 : Int32)), none, none, none]) dX12_layJourneys_31 rfl rfl rfl (Nat.le_of_ble_eq_true rfl) rfl ?_
    refine v_lps (S := Me × Int32) 182 (fun s => s.1) (fun s => [some (.ref a0), some (.int x1), some (.int x2), some (.int s.2), none, none, none]) (fun e42 => e42.1) (fun e42 => [some (.ref a0), some (.int x1), some (.int x2), some (.int e42.2), none, none, none]) (fun e42 => ?_) (fun k K hk hx s => ?_)
    · exact v_vret rfl dX12_layJourneys_182 ⟨Nat.le_of_ble_eq_true rfl, Nat.le_of_ble_eq_true rfl⟩ rfl
    · obtain ⟨M8, v9⟩ := s
      show V _ _ M8 32 [some (.ref a0), some (.int x1), some (.int x2), some (.int v9), none, none, none] [] (s_X12_layJourneys_32 a0 M8 v9) _
      unfold s_X12_layJourneys_32
      refine v_iload_n (q := 33) dX12_layJourneys_32 rfl rfl rfl ?_
      refine v_if_eq (tgt := 182) (q := 36) dX12_layJourneys_33 rfl rfl ?_ ?_
      · exact v_inr (hx (M8, v9))
      · refine v_iconst (q := 37) dX12_layJourneys_36 rfl ic_0 ?_
        refine v_istore_n (q := 38) (loc2 := [some (.ref a0), some (.int x1), some (.int x2), some (.int (0 : Int32)), none, none, none]) dX12_layJourneys_37 rfl rfl rfl (Nat.le_of_ble_eq_true rfl) rfl ?_
        refine v_iconst (q := 39) dX12_layJourneys_38 rfl ic_0 ?_
        refine v_istore (q := 41) (loc2 := [some (.ref a0), some (.int x1), some (.int x2), some (.int (0 : Int32)), some (.int (0 : Int32)), none, none]) dX12_layJourneys_39 rfl rfl (Nat.le_of_ble_eq_true rfl) rfl ?_
        refine v_lps (S := Me × Int32 × Int32) 179 (fun s => s.1) (fun s => [some (.ref a0), some (.int x1), some (.int x2), some (.int s.2.1), some (.int s.2.2), none, none]) (fun e41 => e41.1) (fun e41 => [some (.ref a0), some (.int x1), some (.int x2), some (.int e41.2.1), some (.int e41.2.2), none, none]) (fun e41 => ?_) (fun k K hk hx s => ?_)
        · refine v_goto (tgt := 32) dX12_layJourneys_179 rfl ?_
          exact v_inl (v_weak (hk (e41.1, e41.2.1)) ⟨rfl, ⟨rfl, ⟨rfl, ⟨rfl, trivial⟩⟩⟩⟩)
        · obtain ⟨M10, v11, v12⟩ := s
          show V _ _ M10 41 [some (.ref a0), some (.int x1), some (.int x2), some (.int v11), some (.int v12), none, none] [] (s_X12_layJourneys_41 a0 M10 v11 v12) _
          unfold s_X12_layJourneys_41
          refine v_iload (q := 43) dX12_layJourneys_41 rfl rfl ?_
          refine v_aload_n (q := 44) dX12_layJourneys_43 rfl rfl rfl ?_
          refine v_getIb (q := 47) dX12_layJourneys_44 rfl fg_X12_7 (fun v13 => ?_)
          refine v_icmp_ge (tgt := 179) (q := 50) dX12_layJourneys_47 rfl rfl ?_ ?_
          · exact v_inr (hx (M10, v11, v12))
          · refine v_iconst (q := 51) dX12_layJourneys_50 rfl ic_0 ?_
            refine v_istore (q := 53) (loc2 := [some (.ref a0), some (.int x1), some (.int x2), some (.int v11), some (.int v12), some (.int (0 : Int32)), none]) dX12_layJourneys_51 rfl rfl (Nat.le_of_ble_eq_true rfl) rfl ?_
            refine v_lps (S := Me × Int32 × Int32) 173 (fun s => s.1) (fun s => [some (.ref a0), some (.int x1), some (.int x2), some (.int s.2.1), some (.int v12), some (.int s.2.2), none]) (fun e39 => e39.1) (fun e39 => [some (.ref a0), some (.int x1), some (.int x2), some (.int e39.2.1), some (.int v12), some (.int e39.2.2), none]) (fun e39 => ?_) (fun k K hk hx s => ?_)
            · refine v_iincL (q := 176) (x := v12) (cst := (1 : Int32)) (f := fun v40 => [some (.ref a0), some (.int x1), some (.int x2), some (.int e39.2.1), some (.int v40), some (.int e39.2.2), none]) dX12_layJourneys_173 rfl rfl ic_1 rfl (Nat.le_of_ble_eq_true rfl) (fun _ => rfl) (fun v40 => ?_)
              refine v_goto (tgt := 41) dX12_layJourneys_176 rfl ?_
              exact v_inl (v_weak (hk (e39.1, e39.2.1, v40)) ⟨rfl, ⟨rfl, ⟨rfl, ⟨rfl, ⟨rfl, trivial⟩⟩⟩⟩⟩)
            · obtain ⟨M14, v15, v16⟩ := s
              show V _ _ M14 53 [some (.ref a0), some (.int x1), some (.int x2), some (.int v15), some (.int v12), some (.int v16), none] [] (s_X12_layJourneys_53 a0 v12 M14 v15 v16) _
              unfold s_X12_layJourneys_53
              refine v_iload (q := 55) dX12_layJourneys_53 rfl rfl ?_
              refine v_aload_n (q := 56) dX12_layJourneys_55 rfl rfl rfl ?_
              refine v_getIb (q := 59) dX12_layJourneys_56 rfl fg_X12_7 (fun v17 => ?_)
              refine v_icmp_ge (tgt := 173) (q := 62) dX12_layJourneys_59 rfl rfl ?_ ?_
              · exact v_inr (hx (M14, v15, v16))
              · refine v_aload_n (q := 63) dX12_layJourneys_62 rfl rfl rfl ?_
                refine v_getRb (q := 66) dX12_layJourneys_63 rfl fg_X12_13 (fun o18 => ?_)
                refine v_iconst (q := 67) dX12_layJourneys_66 rfl ic_5 ?_
                refine v_iload (q := 69) dX12_layJourneys_67 rfl rfl ?_
                refine v_imul (q := 70) dX12_layJourneys_69 rfl ?_
                refine v_iload (q := 72) dX12_layJourneys_70 rfl rfl ?_
                refine v_iadd (q := 73) dX12_layJourneys_72 rfl ?_
                refine v_iaload (q := 74) dX12_layJourneys_73 rfl (fun v19 => ?_)
                refine v_join (γ := Me × Int32) 167 (fun q37 => q37.1) (fun q37 => [some (.ref a0), some (.int x1), some (.int x2), some (.int q37.2), some (.int v12), some (.int v16), none]) (fun q37 => []) (fun K hK => ?_) (fun q37 => ?_)
                · refine v_if_le (tgt := 167) (q := 77) dX12_layJourneys_74 rfl rfl ?_ ?_
                  · exact hK (M14, v15)
                  · refine v_aload_n (q := 78) dX12_layJourneys_77 rfl rfl rfl ?_
                    refine v_getRb (q := 81) dX12_layJourneys_78 rfl fg_X12_62 (fun o20 => ?_)
                    refine v_iload (q := 83) dX12_layJourneys_81 rfl rfl ?_
                    refine v_iaload (q := 84) dX12_layJourneys_83 rfl (fun v21 => ?_)
                    refine v_ldc (q := 86) (v := (10000000 : Int32)) kc_X12_184 dX12_layJourneys_84 rfl ?_
                    refine v_icmp_ge (tgt := 167) (q := 89) dX12_layJourneys_86 rfl rfl ?_ ?_
                    · exact hK (M14, v15)
                    · refine v_aload_n (q := 90) dX12_layJourneys_89 rfl rfl rfl ?_
                      refine v_aload_n (q := 91) dX12_layJourneys_90 rfl rfl rfl ?_
                      refine v_getRb (q := 94) dX12_layJourneys_91 rfl fg_X12_62 (fun o22 => ?_)
                      refine v_iload (q := 96) dX12_layJourneys_94 rfl rfl ?_
                      refine v_iaload (q := 97) dX12_layJourneys_96 rfl (fun v23 => ?_)
                      refine v_aload_n (q := 98) dX12_layJourneys_97 rfl rfl rfl ?_
                      refine v_getRb (q := 101) dX12_layJourneys_98 rfl fg_X12_13 (fun o24 => ?_)
                      refine v_iconst (q := 102) dX12_layJourneys_101 rfl ic_5 ?_
                      refine v_iload (q := 104) dX12_layJourneys_102 rfl rfl ?_
                      refine v_imul (q := 105) dX12_layJourneys_104 rfl ?_
                      refine v_iload (q := 107) dX12_layJourneys_105 rfl rfl ?_
                      refine v_iadd (q := 108) dX12_layJourneys_107 rfl ?_
                      refine v_iaload (q := 109) dX12_layJourneys_108 rfl (fun v25 => ?_)
                      refine v_cPV2 (q := 112) (ct_X12_arrival (d - 1) (by omega) _ _ _ _) dX12_layJourneys_109 rfl cc_X12_185 (by omega) (Nat.le_of_ble_eq_true rfl) ⟨Nat.le_of_ble_eq_true rfl, Nat.le_of_ble_eq_true rfl⟩ (fun v26 => ?_)
                      refine v_istore (q := 114) (loc2 := [some (.ref a0), some (.int x1), some (.int x2), some (.int v15), some (.int v12), some (.int v16), some (.int v26)]) dX12_layJourneys_112 rfl rfl (Nat.le_of_ble_eq_true rfl) rfl ?_
                      refine v_iload_n (q := 115) dX12_layJourneys_114 rfl rfl rfl ?_
                      refine v_join (γ := Int32) 135 (fun v29 => M14) (fun v29 => [some (.ref a0), some (.int x1), some (.int x2), some (.int v15), some (.int v12), some (.int v16), some (.int v26)]) (fun v29 => [.int v29]) (fun K hK => ?_) (fun v29 => ?_)
                      · refine v_if_ne (tgt := 130) (q := 118) dX12_layJourneys_115 rfl rfl ?_ ?_
                        · refine v_iconst (q := 131) dX12_layJourneys_130 rfl ic_1 ?_
                          refine v_goto (tgt := 135) dX12_layJourneys_131 rfl ?_
                          exact hK (1 : Int32)
                        · refine v_iload (q := 120) dX12_layJourneys_118 rfl rfl ?_
                          refine v_aload_n (q := 121) dX12_layJourneys_120 rfl rfl rfl ?_
                          refine v_getRb (q := 124) dX12_layJourneys_121 rfl fg_X12_62 (fun o27 => ?_)
                          refine v_iload (q := 126) dX12_layJourneys_124 rfl rfl ?_
                          refine v_iaload (q := 127) dX12_layJourneys_126 rfl (fun v28 => ?_)
                          refine v_icmp_ge (tgt := 134) (q := 130) dX12_layJourneys_127 rfl rfl ?_ ?_
                          · refine v_iconst (q := 135) dX12_layJourneys_134 rfl ic_0 ?_
                            exact hK (0 : Int32)
                          · refine v_iconst (q := 131) dX12_layJourneys_130 rfl ic_1 ?_
                            refine v_goto (tgt := 135) dX12_layJourneys_131 rfl ?_
                            exact hK (1 : Int32)
                      · refine v_istore_n (q := 136) (loc2 := [some (.ref a0), some (.int x1), some (.int x2), some (.int v29), some (.int v12), some (.int v16), some (.int v26)]) dX12_layJourneys_135 rfl rfl rfl (Nat.le_of_ble_eq_true rfl) rfl ?_
                        refine v_aload_n (q := 137) dX12_layJourneys_136 rfl rfl rfl ?_
                        refine v_getRb (q := 140) dX12_layJourneys_137 rfl fg_X12_62 (fun o30 => ?_)
                        refine v_iload (q := 142) dX12_layJourneys_140 rfl rfl ?_
                        refine v_iload (q := 144) dX12_layJourneys_142 rfl rfl ?_
                        refine v_aload_n (q := 145) dX12_layJourneys_144 rfl rfl rfl ?_
                        refine v_getRb (q := 148) dX12_layJourneys_145 rfl fg_X12_62 (fun o31 => ?_)
                        refine v_iload (q := 150) dX12_layJourneys_148 rfl rfl ?_
                        refine v_iaload (q := 151) dX12_layJourneys_150 rfl (fun v32 => ?_)
                        refine v_join (γ := Int32) 166 (fun v35 => M14) (fun v35 => [some (.ref a0), some (.int x1), some (.int x2), some (.int v29), some (.int v12), some (.int v16), some (.int v26)]) (fun v35 => [.int v35, .int v16, .ref o30]) (fun K hK => ?_) (fun v35 => ?_)
                        · refine v_icmp_ge (tgt := 159) (q := 154) dX12_layJourneys_151 rfl rfl ?_ ?_
                          · refine v_aload_n (q := 160) dX12_layJourneys_159 rfl rfl rfl ?_
                            refine v_getRb (q := 163) dX12_layJourneys_160 rfl fg_X12_62 (fun o33 => ?_)
                            refine v_iload (q := 165) dX12_layJourneys_163 rfl rfl ?_
                            refine v_iaload (q := 166) dX12_layJourneys_165 rfl (fun v34 => ?_)
                            exact hK v34
                          · refine v_iload (q := 156) dX12_layJourneys_154 rfl rfl ?_
                            refine v_goto (tgt := 166) dX12_layJourneys_156 rfl ?_
                            exact hK v26
                        · refine v_iastore (q := 167) dX12_layJourneys_166 rfl (fun M36 => ?_)
                          exact v_weak (hK (M36, v29)) ⟨rfl, ⟨rfl, ⟨rfl, ⟨rfl, ⟨rfl, ⟨rfl, trivial⟩⟩⟩⟩⟩⟩
                · refine v_iincL (q := 170) (x := v16) (cst := (1 : Int32)) (f := fun v38 => [some (.ref a0), some (.int x1), some (.int x2), some (.int q37.2), some (.int v12), some (.int v38), none]) dX12_layJourneys_167 rfl rfl ic_1 rfl (Nat.le_of_ble_eq_true rfl) (fun _ => rfl) (fun v38 => ?_)
                  refine v_goto (tgt := 53) dX12_layJourneys_170 rfl ?_
                  exact v_inl (hk (q37.1, q37.2, v38))
  · obtain ⟨M1, v2⟩ := s
    show V _ _ M1 2 [some (.ref a0), some (.int x1), some (.int x2), some (.int v2), none, none, none] [] (s_X12_layJourneys_2 a0 x1 x2 M1 v2) _
    unfold s_X12_layJourneys_2
    refine v_iload_n (q := 3) dX12_layJourneys_2 rfl rfl rfl ?_
    refine v_iconst (q := 4) dX12_layJourneys_3 rfl ic_5 ?_
    refine v_icmp_ge (tgt := 30) (q := 7) dX12_layJourneys_4 rfl rfl ?_ ?_
    · exact v_inr (hx (M1, v2))
    · refine v_aload_n (q := 8) dX12_layJourneys_7 rfl rfl rfl ?_
      refine v_getRb (q := 11) dX12_layJourneys_8 rfl fg_X12_62 (fun o3 => ?_)
      refine v_iload_n (q := 12) dX12_layJourneys_11 rfl rfl rfl ?_
      refine v_iload_n (q := 13) dX12_layJourneys_12 rfl rfl rfl ?_
      refine v_iload_n (q := 14) dX12_layJourneys_13 rfl rfl rfl ?_
      refine v_join (γ := Int32) 23 (fun v4 => M1) (fun v4 => [some (.ref a0), some (.int x1), some (.int x2), some (.int v2), none, none, none]) (fun v4 => [.int v4, .int v2, .ref o3]) (fun K hK => ?_) (fun v4 => ?_)
      · refine v_icmp_ne (tgt := 21) (q := 17) dX12_layJourneys_14 rfl rfl ?_ ?_
        · refine v_ldc (q := 23) (v := (10000000 : Int32)) kc_X12_184 dX12_layJourneys_21 rfl ?_
          exact hK (10000000 : Int32)
        · refine v_iload_n (q := 18) dX12_layJourneys_17 rfl rfl rfl ?_
          refine v_goto (tgt := 23) dX12_layJourneys_18 rfl ?_
          exact hK x2
      · refine v_iastore (q := 24) dX12_layJourneys_23 rfl (fun M5 => ?_)
        refine v_iincL (q := 27) (x := v2) (cst := (1 : Int32)) (f := fun v6 => [some (.ref a0), some (.int x1), some (.int x2), some (.int v6), none, none, none]) dX12_layJourneys_24 rfl rfl ic_1 rfl (Nat.le_of_ble_eq_true rfl) (fun _ => rfl) (fun v6 => ?_)
        refine v_goto (tgt := 2) dX12_layJourneys_27 rfl ?_
        exact v_inl (hk (M5, v6))
theorem ct_X12_layJourneys (d : Nat) (hd : 1 ≤ d) (a0 : Nat) (x1 : Int32) (x2 : Int32) (M : Me) (r : Me) (hf : f_X12_layJourneys a0 x1 x2 M = some r) : me_k M a0 = some (12, nf_c 12) ∧ Ct yX12_layJourneys mX12_layJourneys d 0 0 [.ref a0, .int x1, .int x2] M (none, r) := by
  obtain ⟨hk, hb⟩ := ck_some hf
  exact ⟨hk, ct_of (by decide +kernel) rfl rfl (Nat.le_of_ble_eq_true rfl) (vb_X12_layJourneys d hd a0 x1 x2 M) (by rw [hb]; rfl)⟩
theorem dX12_isWell_0 : decode cX12_isWell 0 = .ok (.aload_n 0, 1) := by decide +kernel
theorem dX12_isWell_1 : decode cX12_isWell 1 = .ok (.iload_n 1, 1) := by decide +kernel
theorem dX12_isWell_2 : decode cX12_isWell 2 = .ok (.invokevirtual 102, 3) := by decide +kernel
theorem dX12_isWell_5 : decode cX12_isWell 5 = .ok (.ifCond .eq 16, 3) := by decide +kernel
theorem dX12_isWell_8 : decode cX12_isWell 8 = .ok (.aload_n 0, 1) := by decide +kernel
theorem dX12_isWell_9 : decode cX12_isWell 9 = .ok (.getfield 35, 3) := by decide +kernel
theorem dX12_isWell_12 : decode cX12_isWell 12 = .ok (.iload_n 1, 1) := by decide +kernel
theorem dX12_isWell_13 : decode cX12_isWell 13 = .ok (.iaload, 1) := by decide +kernel
theorem dX12_isWell_14 : decode cX12_isWell 14 = .ok (.ifCond .le 7, 3) := by decide +kernel
theorem dX12_isWell_17 : decode cX12_isWell 17 = .ok (.iconst 1, 1) := by decide +kernel
theorem dX12_isWell_18 : decode cX12_isWell 18 = .ok (.goto 4, 3) := by decide +kernel
theorem dX12_isWell_21 : decode cX12_isWell 21 = .ok (.iconst 0, 1) := by decide +kernel
theorem dX12_isWell_22 : decode cX12_isWell 22 = .ok (.ireturn, 1) := by decide +kernel
noncomputable def b_X12_isWell (a0 : Nat) (x1 : Int32) (M : Me) : Option (Int32) :=
  cP (f_X12_isThere a0 x1 M) fun v1 =>
  (
    if v1 = 0 then (
      some (0 : Int32)
    ) else (
      gr M a0 12 11 fun o2 =>
      li M o2 x1 fun v3 =>
      if v3 ≤ 0 then (
        some (0 : Int32)
      ) else (
        some (1 : Int32)
      )
    )
  ).bind fun v4 =>
  if v4 = 0 ∨ v4 = 1 then some v4 else none
noncomputable def f_X12_isWell (a0 : Nat) (x1 : Int32) (M : Me) : Option (Int32) := ck M a0 12 (b_X12_isWell a0 x1 M)
set_option maxRecDepth 20000 in
theorem vb_X12_isWell (d : Nat) (hd : 2 ≤ d) (a0 : Nat) (x1 : Int32) (M : Me) : V (mX12_isWell, d, 0, 0) (0, 0) M 0 [some (.ref a0), some (.int x1)] [] (b_X12_isWell a0 x1 M) (fun z => some (some (.int z), M)) := by
  unfold b_X12_isWell
  refine v_aload_n (q := 1) dX12_isWell_0 rfl rfl rfl ?_
  refine v_iload_n (q := 2) dX12_isWell_1 rfl rfl rfl ?_
  refine v_cPV1 (q := 5) (ct_X12_isThere (d - 1) (by omega) _ _ _) dX12_isWell_2 rfl cc_X12_102 (by omega) (Nat.le_of_ble_eq_true rfl) ⟨Nat.le_of_ble_eq_true rfl, Nat.le_of_ble_eq_true rfl⟩ (fun v1 => ?_)
  refine v_join (γ := Int32) 22 (fun v4 => M) (fun v4 => [some (.ref a0), some (.int x1)]) (fun v4 => [.int v4]) (fun K hK => ?_) (fun v4 => ?_)
  · refine v_if_eq (tgt := 21) (q := 8) dX12_isWell_5 rfl rfl ?_ ?_
    · refine v_iconst (q := 22) dX12_isWell_21 rfl ic_0 ?_
      exact hK (0 : Int32)
    · refine v_aload_n (q := 9) dX12_isWell_8 rfl rfl rfl ?_
      refine v_getRb (q := 12) dX12_isWell_9 rfl fg_X12_35 (fun o2 => ?_)
      refine v_iload_n (q := 13) dX12_isWell_12 rfl rfl rfl ?_
      refine v_iaload (q := 14) dX12_isWell_13 rfl (fun v3 => ?_)
      refine v_if_le (tgt := 21) (q := 17) dX12_isWell_14 rfl rfl ?_ ?_
      · refine v_iconst (q := 22) dX12_isWell_21 rfl ic_0 ?_
        exact hK (0 : Int32)
      · refine v_iconst (q := 18) dX12_isWell_17 rfl ic_1 ?_
        refine v_goto (tgt := 22) dX12_isWell_18 rfl ?_
        exact hK (1 : Int32)
  · exact v_zretC rfl dX12_isWell_22 ⟨Nat.le_of_ble_eq_true rfl, Nat.le_of_ble_eq_true rfl⟩ rfl
theorem ct_X12_isWell (d : Nat) (hd : 2 ≤ d) (a0 : Nat) (x1 : Int32) (M : Me) (r : Int32) (hf : f_X12_isWell a0 x1 M = some r) : me_k M a0 = some (12, nf_c 12) ∧ Ct yX12_isWell mX12_isWell d 0 0 [.ref a0, .int x1] M (some (.int r), M) := by
  obtain ⟨hk, hb⟩ := ck_some hf
  exact ⟨hk, ct_of (by decide +kernel) rfl rfl (Nat.le_of_ble_eq_true rfl) (vb_X12_isWell d hd a0 x1 M) (by rw [hb]; rfl)⟩
theorem dX12_when_0 : decode cX12_when 0 = .ok (.aload_n 0, 1) := by decide +kernel
theorem dX12_when_1 : decode cX12_when 1 = .ok (.iload_n 1, 1) := by decide +kernel
theorem dX12_when_2 : decode cX12_when 2 = .ok (.invokevirtual 188, 3) := by decide +kernel
theorem dX12_when_5 : decode cX12_when 5 = .ok (.ifCond .eq 11, 3) := by decide +kernel
theorem dX12_when_8 : decode cX12_when 8 = .ok (.aload_n 0, 1) := by decide +kernel
theorem dX12_when_9 : decode cX12_when 9 = .ok (.iload_n 2, 1) := by decide +kernel
theorem dX12_when_10 : decode cX12_when 10 = .ok (.invokevirtual 98, 3) := by decide +kernel
theorem dX12_when_13 : decode cX12_when 13 = .ok (.ifCond .ne 5, 3) := by decide +kernel
theorem dX12_when_16 : decode cX12_when 16 = .ok (.iconst (-1), 1) := by decide +kernel
theorem dX12_when_17 : decode cX12_when 17 = .ok (.ireturn, 1) := by decide +kernel
theorem dX12_when_18 : decode cX12_when 18 = .ok (.aload_n 0, 1) := by decide +kernel
theorem dX12_when_19 : decode cX12_when 19 = .ok (.aload_n 0, 1) := by decide +kernel
theorem dX12_when_20 : decode cX12_when 20 = .ok (.getfield 29, 3) := by decide +kernel
theorem dX12_when_23 : decode cX12_when 23 = .ok (.iload_n 1, 1) := by decide +kernel
theorem dX12_when_24 : decode cX12_when 24 = .ok (.iaload, 1) := by decide +kernel
theorem dX12_when_25 : decode cX12_when 25 = .ok (.aload_n 0, 1) := by decide +kernel
theorem dX12_when_26 : decode cX12_when 26 = .ok (.getfield 92, 3) := by decide +kernel
theorem dX12_when_29 : decode cX12_when 29 = .ok (.aload_n 0, 1) := by decide +kernel
theorem dX12_when_30 : decode cX12_when 30 = .ok (.getfield 32, 3) := by decide +kernel
theorem dX12_when_33 : decode cX12_when 33 = .ok (.iload_n 1, 1) := by decide +kernel
theorem dX12_when_34 : decode cX12_when 34 = .ok (.iaload, 1) := by decide +kernel
theorem dX12_when_35 : decode cX12_when 35 = .ok (.iadd, 1) := by decide +kernel
theorem dX12_when_36 : decode cX12_when 36 = .ok (.invokevirtual 191, 3) := by decide +kernel
theorem dX12_when_39 : decode cX12_when 39 = .ok (.aload_n 0, 1) := by decide +kernel
theorem dX12_when_40 : decode cX12_when 40 = .ok (.getfield 62, 3) := by decide +kernel
theorem dX12_when_43 : decode cX12_when 43 = .ok (.iload_n 2, 1) := by decide +kernel
theorem dX12_when_44 : decode cX12_when 44 = .ok (.iaload, 1) := by decide +kernel
theorem dX12_when_45 : decode cX12_when 45 = .ok (.ldc 184, 2) := by decide +kernel
theorem dX12_when_47 : decode cX12_when 47 = .ok (.if_icmp .ne 8, 3) := by decide +kernel
theorem dX12_when_50 : decode cX12_when 50 = .ok (.bipush (-6), 2) := by decide +kernel
theorem dX12_when_52 : decode cX12_when 52 = .ok (.goto 9, 3) := by decide +kernel
theorem dX12_when_55 : decode cX12_when 55 = .ok (.aload_n 0, 1) := by decide +kernel
theorem dX12_when_56 : decode cX12_when 56 = .ok (.getfield 62, 3) := by decide +kernel
theorem dX12_when_59 : decode cX12_when 59 = .ok (.iload_n 2, 1) := by decide +kernel
theorem dX12_when_60 : decode cX12_when 60 = .ok (.iaload, 1) := by decide +kernel
theorem dX12_when_61 : decode cX12_when 61 = .ok (.ireturn, 1) := by decide +kernel
noncomputable def b_X12_when (a0 : Nat) (x1 : Int32) (x2 : Int32) (M : Me) : Option (Int32 × Me) :=
  cP (f_X12_isWell a0 x1 M) fun v1 =>
  if v1 = 0 then (
    some ((-1 : Int32), M)
  ) else (
    cP (f_X12_isChapel a0 x2 M) fun v2 =>
    if v2 = 0 then (
      some ((-1 : Int32), M)
    ) else (
      gr M a0 12 9 fun o3 =>
      li M o3 x1 fun v4 =>
      gi M a0 12 8 fun v5 =>
      gr M a0 12 10 fun o6 =>
      li M o6 x1 fun v7 =>
      cM (f_X12_layJourneys a0 v4 (v5 + v7) M) fun M8 =>
      gr M8 a0 12 26 fun o9 =>
      li M8 o9 x2 fun v10 =>
      (
        if v10 = (10000000 : Int32) then (
          some (-6 : Int32)
        ) else (
          gr M8 a0 12 26 fun o11 =>
          li M8 o11 x2 fun v12 =>
          some v12
        )
      ).bind fun v13 =>
      some (v13, M8)
    )
  )
noncomputable def f_X12_when (a0 : Nat) (x1 : Int32) (x2 : Int32) (M : Me) : Option (Int32 × Me) := ck M a0 12 (b_X12_when a0 x1 x2 M)
set_option maxRecDepth 20000 in
theorem vb_X12_when (d : Nat) (hd : 3 ≤ d) (a0 : Nat) (x1 : Int32) (x2 : Int32) (M : Me) : V (mX12_when, d, 0, 0) (0, 0) M 0 [some (.ref a0), some (.int x1), some (.int x2)] [] (b_X12_when a0 x1 x2 M) (fun z => some (some (.int z.1), z.2)) := by
  unfold b_X12_when
  refine v_aload_n (q := 1) dX12_when_0 rfl rfl rfl ?_
  refine v_iload_n (q := 2) dX12_when_1 rfl rfl rfl ?_
  refine v_cPV1 (q := 5) (ct_X12_isWell (d - 1) (by omega) _ _ _) dX12_when_2 rfl cc_X12_188 (by omega) (Nat.le_of_ble_eq_true rfl) ⟨Nat.le_of_ble_eq_true rfl, Nat.le_of_ble_eq_true rfl⟩ (fun v1 => ?_)
  refine v_if_eq (tgt := 16) (q := 8) dX12_when_5 rfl rfl ?_ ?_
  · refine v_iconst (q := 17) dX12_when_16 rfl ic_m1 ?_
    exact v_iret rfl dX12_when_17 ⟨Nat.le_of_ble_eq_true rfl, Nat.le_of_ble_eq_true rfl⟩ rfl
  · refine v_aload_n (q := 9) dX12_when_8 rfl rfl rfl ?_
    refine v_iload_n (q := 10) dX12_when_9 rfl rfl rfl ?_
    refine v_cPV1 (q := 13) (ct_X12_isChapel (d - 1) (by omega) _ _ _) dX12_when_10 rfl cc_X12_98 (by omega) (Nat.le_of_ble_eq_true rfl) ⟨Nat.le_of_ble_eq_true rfl, Nat.le_of_ble_eq_true rfl⟩ (fun v2 => ?_)
    refine v_if_ne (tgt := 18) (q := 16) dX12_when_13 rfl rfl ?_ ?_
    · refine v_aload_n (q := 19) dX12_when_18 rfl rfl rfl ?_
      refine v_aload_n (q := 20) dX12_when_19 rfl rfl rfl ?_
      refine v_getRb (q := 23) dX12_when_20 rfl fg_X12_29 (fun o3 => ?_)
      refine v_iload_n (q := 24) dX12_when_23 rfl rfl rfl ?_
      refine v_iaload (q := 25) dX12_when_24 rfl (fun v4 => ?_)
      refine v_aload_n (q := 26) dX12_when_25 rfl rfl rfl ?_
      refine v_getIb (q := 29) dX12_when_26 rfl fg_X12_92 (fun v5 => ?_)
      refine v_aload_n (q := 30) dX12_when_29 rfl rfl rfl ?_
      refine v_getRb (q := 33) dX12_when_30 rfl fg_X12_32 (fun o6 => ?_)
      refine v_iload_n (q := 34) dX12_when_33 rfl rfl rfl ?_
      refine v_iaload (q := 35) dX12_when_34 rfl (fun v7 => ?_)
      refine v_iadd (q := 36) dX12_when_35 rfl ?_
      refine v_cMV2 (q := 39) (ct_X12_layJourneys (d - 1) (by omega) _ _ _ _) dX12_when_36 rfl cc_X12_191 (by omega) (Nat.le_of_ble_eq_true rfl) ⟨Nat.le_of_ble_eq_true rfl, Nat.le_of_ble_eq_true rfl⟩ (fun M8 => ?_)
      refine v_aload_n (q := 40) dX12_when_39 rfl rfl rfl ?_
      refine v_getRb (q := 43) dX12_when_40 rfl fg_X12_62 (fun o9 => ?_)
      refine v_iload_n (q := 44) dX12_when_43 rfl rfl rfl ?_
      refine v_iaload (q := 45) dX12_when_44 rfl (fun v10 => ?_)
      refine v_ldc (q := 47) (v := (10000000 : Int32)) kc_X12_184 dX12_when_45 rfl ?_
      refine v_join (γ := Int32) 61 (fun v13 => M8) (fun v13 => [some (.ref a0), some (.int x1), some (.int x2)]) (fun v13 => [.int v13]) (fun K hK => ?_) (fun v13 => ?_)
      · refine v_icmp_ne (tgt := 55) (q := 50) dX12_when_47 rfl rfl ?_ ?_
        · refine v_aload_n (q := 56) dX12_when_55 rfl rfl rfl ?_
          refine v_getRb (q := 59) dX12_when_56 rfl fg_X12_62 (fun o11 => ?_)
          refine v_iload_n (q := 60) dX12_when_59 rfl rfl rfl ?_
          refine v_iaload (q := 61) dX12_when_60 rfl (fun v12 => ?_)
          exact hK v12
        · refine v_bipush (q := 52) dX12_when_50 rfl bp_m6 ?_
          refine v_goto (tgt := 61) dX12_when_52 rfl ?_
          exact hK (-6 : Int32)
      · exact v_iret rfl dX12_when_61 ⟨Nat.le_of_ble_eq_true rfl, Nat.le_of_ble_eq_true rfl⟩ rfl
    · refine v_iconst (q := 17) dX12_when_16 rfl ic_m1 ?_
      exact v_iret rfl dX12_when_17 ⟨Nat.le_of_ble_eq_true rfl, Nat.le_of_ble_eq_true rfl⟩ rfl
theorem ct_X12_when (d : Nat) (hd : 3 ≤ d) (a0 : Nat) (x1 : Int32) (x2 : Int32) (M : Me) (r : Int32) (M2 : Me) (hf : f_X12_when a0 x1 x2 M = some (r, M2)) : me_k M a0 = some (12, nf_c 12) ∧ Ct yX12_when mX12_when d 0 0 [.ref a0, .int x1, .int x2] M (some (.int r), M2) := by
  obtain ⟨hk, hb⟩ := ck_some hf
  exact ⟨hk, ct_of (by decide +kernel) rfl rfl (Nat.le_of_ble_eq_true rfl) (vb_X12_when d hd a0 x1 x2 M) (by rw [hb]; rfl)⟩
theorem dX12_inTime_0 : decode cX12_inTime 0 = .ok (.aload_n 0, 1) := by decide +kernel
theorem dX12_inTime_1 : decode cX12_inTime 1 = .ok (.iload_n 1, 1) := by decide +kernel
theorem dX12_inTime_2 : decode cX12_inTime 2 = .ok (.invokevirtual 188, 3) := by decide +kernel
theorem dX12_inTime_5 : decode cX12_inTime 5 = .ok (.ifCond .ne 5, 3) := by decide +kernel
theorem dX12_inTime_8 : decode cX12_inTime 8 = .ok (.iconst (-1), 1) := by decide +kernel
theorem dX12_inTime_9 : decode cX12_inTime 9 = .ok (.ireturn, 1) := by decide +kernel
theorem dX12_inTime_10 : decode cX12_inTime 10 = .ok (.aload_n 0, 1) := by decide +kernel
theorem dX12_inTime_11 : decode cX12_inTime 11 = .ok (.aload_n 0, 1) := by decide +kernel
theorem dX12_inTime_12 : decode cX12_inTime 12 = .ok (.getfield 29, 3) := by decide +kernel
theorem dX12_inTime_15 : decode cX12_inTime 15 = .ok (.iload_n 1, 1) := by decide +kernel
theorem dX12_inTime_16 : decode cX12_inTime 16 = .ok (.iaload, 1) := by decide +kernel
theorem dX12_inTime_17 : decode cX12_inTime 17 = .ok (.aload_n 0, 1) := by decide +kernel
theorem dX12_inTime_18 : decode cX12_inTime 18 = .ok (.getfield 92, 3) := by decide +kernel
theorem dX12_inTime_21 : decode cX12_inTime 21 = .ok (.aload_n 0, 1) := by decide +kernel
theorem dX12_inTime_22 : decode cX12_inTime 22 = .ok (.getfield 32, 3) := by decide +kernel
theorem dX12_inTime_25 : decode cX12_inTime 25 = .ok (.iload_n 1, 1) := by decide +kernel
theorem dX12_inTime_26 : decode cX12_inTime 26 = .ok (.iaload, 1) := by decide +kernel
theorem dX12_inTime_27 : decode cX12_inTime 27 = .ok (.iadd, 1) := by decide +kernel
theorem dX12_inTime_28 : decode cX12_inTime 28 = .ok (.invokevirtual 191, 3) := by decide +kernel
theorem dX12_inTime_31 : decode cX12_inTime 31 = .ok (.iconst 0, 1) := by decide +kernel
theorem dX12_inTime_32 : decode cX12_inTime 32 = .ok (.istore_n 2, 1) := by decide +kernel
theorem dX12_inTime_33 : decode cX12_inTime 33 = .ok (.iconst 0, 1) := by decide +kernel
theorem dX12_inTime_34 : decode cX12_inTime 34 = .ok (.istore_n 3, 1) := by decide +kernel
theorem dX12_inTime_35 : decode cX12_inTime 35 = .ok (.iload_n 3, 1) := by decide +kernel
theorem dX12_inTime_36 : decode cX12_inTime 36 = .ok (.aload_n 0, 1) := by decide +kernel
theorem dX12_inTime_37 : decode cX12_inTime 37 = .ok (.getfield 95, 3) := by decide +kernel
theorem dX12_inTime_40 : decode cX12_inTime 40 = .ok (.if_icmp .ge 76, 3) := by decide +kernel
theorem dX12_inTime_43 : decode cX12_inTime 43 = .ok (.aload_n 0, 1) := by decide +kernel
theorem dX12_inTime_44 : decode cX12_inTime 44 = .ok (.getfield 41, 3) := by decide +kernel
theorem dX12_inTime_47 : decode cX12_inTime 47 = .ok (.iconst 4, 1) := by decide +kernel
theorem dX12_inTime_48 : decode cX12_inTime 48 = .ok (.iload_n 3, 1) := by decide +kernel
theorem dX12_inTime_49 : decode cX12_inTime 49 = .ok (.imul, 1) := by decide +kernel
theorem dX12_inTime_50 : decode cX12_inTime 50 = .ok (.iaload, 1) := by decide +kernel
theorem dX12_inTime_51 : decode cX12_inTime 51 = .ok (.iload_n 1, 1) := by decide +kernel
theorem dX12_inTime_52 : decode cX12_inTime 52 = .ok (.if_icmp .ne 40, 3) := by decide +kernel
theorem dX12_inTime_55 : decode cX12_inTime 55 = .ok (.aload_n 0, 1) := by decide +kernel
theorem dX12_inTime_56 : decode cX12_inTime 56 = .ok (.getfield 62, 3) := by decide +kernel
theorem dX12_inTime_59 : decode cX12_inTime 59 = .ok (.aload_n 0, 1) := by decide +kernel
theorem dX12_inTime_60 : decode cX12_inTime 60 = .ok (.getfield 23, 3) := by decide +kernel
theorem dX12_inTime_63 : decode cX12_inTime 63 = .ok (.aload_n 0, 1) := by decide +kernel
theorem dX12_inTime_64 : decode cX12_inTime 64 = .ok (.getfield 41, 3) := by decide +kernel
theorem dX12_inTime_67 : decode cX12_inTime 67 = .ok (.iconst 4, 1) := by decide +kernel
theorem dX12_inTime_68 : decode cX12_inTime 68 = .ok (.iload_n 3, 1) := by decide +kernel
theorem dX12_inTime_69 : decode cX12_inTime 69 = .ok (.imul, 1) := by decide +kernel
theorem dX12_inTime_70 : decode cX12_inTime 70 = .ok (.iconst 1, 1) := by decide +kernel
theorem dX12_inTime_71 : decode cX12_inTime 71 = .ok (.iadd, 1) := by decide +kernel
theorem dX12_inTime_72 : decode cX12_inTime 72 = .ok (.iaload, 1) := by decide +kernel
theorem dX12_inTime_73 : decode cX12_inTime 73 = .ok (.iaload, 1) := by decide +kernel
theorem dX12_inTime_74 : decode cX12_inTime 74 = .ok (.iaload, 1) := by decide +kernel
theorem dX12_inTime_75 : decode cX12_inTime 75 = .ok (.aload_n 0, 1) := by decide +kernel
theorem dX12_inTime_76 : decode cX12_inTime 76 = .ok (.getfield 41, 3) := by decide +kernel
theorem dX12_inTime_79 : decode cX12_inTime 79 = .ok (.iconst 4, 1) := by decide +kernel
theorem dX12_inTime_80 : decode cX12_inTime 80 = .ok (.iload_n 3, 1) := by decide +kernel
theorem dX12_inTime_81 : decode cX12_inTime 81 = .ok (.imul, 1) := by decide +kernel
theorem dX12_inTime_82 : decode cX12_inTime 82 = .ok (.iconst 3, 1) := by decide +kernel
theorem dX12_inTime_83 : decode cX12_inTime 83 = .ok (.iadd, 1) := by decide +kernel
theorem dX12_inTime_84 : decode cX12_inTime 84 = .ok (.iaload, 1) := by decide +kernel
theorem dX12_inTime_85 : decode cX12_inTime 85 = .ok (.if_icmp .gt 7, 3) := by decide +kernel
theorem dX12_inTime_88 : decode cX12_inTime 88 = .ok (.iconst 1, 1) := by decide +kernel
theorem dX12_inTime_89 : decode cX12_inTime 89 = .ok (.goto 4, 3) := by decide +kernel
theorem dX12_inTime_92 : decode cX12_inTime 92 = .ok (.iconst 0, 1) := by decide +kernel
theorem dX12_inTime_93 : decode cX12_inTime 93 = .ok (.istore 4, 2) := by decide +kernel
theorem dX12_inTime_95 : decode cX12_inTime 95 = .ok (.iload_n 2, 1) := by decide +kernel
theorem dX12_inTime_96 : decode cX12_inTime 96 = .ok (.iload 4, 2) := by decide +kernel
theorem dX12_inTime_98 : decode cX12_inTime 98 = .ok (.ifCond .eq 9, 3) := by decide +kernel
theorem dX12_inTime_101 : decode cX12_inTime 101 = .ok (.iconst 1, 1) := by decide +kernel
theorem dX12_inTime_102 : decode cX12_inTime 102 = .ok (.iload_n 3, 1) := by decide +kernel
theorem dX12_inTime_103 : decode cX12_inTime 103 = .ok (.ishl, 1) := by decide +kernel
theorem dX12_inTime_104 : decode cX12_inTime 104 = .ok (.goto 4, 3) := by decide +kernel
theorem dX12_inTime_107 : decode cX12_inTime 107 = .ok (.iconst 0, 1) := by decide +kernel
theorem dX12_inTime_108 : decode cX12_inTime 108 = .ok (.ior, 1) := by decide +kernel
theorem dX12_inTime_109 : decode cX12_inTime 109 = .ok (.istore_n 2, 1) := by decide +kernel
theorem dX12_inTime_110 : decode cX12_inTime 110 = .ok (.iinc 3 1, 3) := by decide +kernel
theorem dX12_inTime_113 : decode cX12_inTime 113 = .ok (.goto (-78), 3) := by decide +kernel
theorem dX12_inTime_116 : decode cX12_inTime 116 = .ok (.iload_n 2, 1) := by decide +kernel
theorem dX12_inTime_117 : decode cX12_inTime 117 = .ok (.ireturn, 1) := by decide +kernel
noncomputable def s_X12_inTime_35 (a0 : Nat) (x1 : Int32) (M7 : Me) (v8 : Int32) (v9 : Int32) : Option ((Int32 × Int32) ⊕ (Int32 × Int32)) :=
  gi M7 a0 12 13 fun v10 =>
  if v10 ≤ v9 then (
    some (Sum.inr (v8, v9))
  ) else (
    gr M7 a0 12 14 fun o11 =>
    li M7 o11 ((4 : Int32) * v9) fun v12 =>
    (
      if v12 = x1 then (
        gr M7 a0 12 26 fun o13 =>
        gr M7 a0 12 5 fun o14 =>
        gr M7 a0 12 14 fun o15 =>
        li M7 o15 (((4 : Int32) * v9) + (1 : Int32)) fun v16 =>
        li M7 o14 v16 fun v17 =>
        li M7 o13 v17 fun v18 =>
        gr M7 a0 12 14 fun o19 =>
        li M7 o19 (((4 : Int32) * v9) + (3 : Int32)) fun v20 =>
        if v20 < v18 then (
          some (0 : Int32)
        ) else (
          some (1 : Int32)
        )
      ) else (
        some (0 : Int32)
      )
    ).bind fun v21 =>
    (
      if v21 = 0 then (
        some (0 : Int32)
      ) else (
        some ((1 : Int32) <<< (v9 &&& 31))
      )
    ).bind fun v22 =>
    let_v ((v8 ||| v22)) fun v23 =>
    let_v (v9 + (1 : Int32)) fun v24 =>
    some (Sum.inl (v23, v24))
  )
noncomputable def b_X12_inTime (a0 : Nat) (x1 : Int32) (M : Me) : Option (Int32 × Me) :=
  cP (f_X12_isWell a0 x1 M) fun v1 =>
  if v1 = 0 then (
    some ((-1 : Int32), M)
  ) else (
    gr M a0 12 9 fun o2 =>
    li M o2 x1 fun v3 =>
    gi M a0 12 8 fun v4 =>
    gr M a0 12 10 fun o5 =>
    li M o5 x1 fun v6 =>
    cM (f_X12_layJourneys a0 v3 (v4 + v6) M) fun M7 =>
    (lp (fun s => s_X12_inTime_35 a0 x1 M7 s.1 s.2) ((0 : Int32), (0 : Int32))).bind fun e25 =>
    some (e25.1, M7)
  )
noncomputable def f_X12_inTime (a0 : Nat) (x1 : Int32) (M : Me) : Option (Int32 × Me) := ck M a0 12 (b_X12_inTime a0 x1 M)
set_option maxRecDepth 20000 in
theorem vb_X12_inTime (d : Nat) (hd : 3 ≤ d) (a0 : Nat) (x1 : Int32) (M : Me) : V (mX12_inTime, d, 0, 0) (0, 0) M 0 [some (.ref a0), some (.int x1), none, none, none] [] (b_X12_inTime a0 x1 M) (fun z => some (some (.int z.1), z.2)) := by
  unfold b_X12_inTime
  refine v_aload_n (q := 1) dX12_inTime_0 rfl rfl rfl ?_
  refine v_iload_n (q := 2) dX12_inTime_1 rfl rfl rfl ?_
  refine v_cPV1 (q := 5) (ct_X12_isWell (d - 1) (by omega) _ _ _) dX12_inTime_2 rfl cc_X12_188 (by omega) (Nat.le_of_ble_eq_true rfl) ⟨Nat.le_of_ble_eq_true rfl, Nat.le_of_ble_eq_true rfl⟩ (fun v1 => ?_)
  refine v_if_ne (tgt := 10) (q := 8) dX12_inTime_5 rfl rfl ?_ ?_
  · refine v_aload_n (q := 11) dX12_inTime_10 rfl rfl rfl ?_
    refine v_aload_n (q := 12) dX12_inTime_11 rfl rfl rfl ?_
    refine v_getRb (q := 15) dX12_inTime_12 rfl fg_X12_29 (fun o2 => ?_)
    refine v_iload_n (q := 16) dX12_inTime_15 rfl rfl rfl ?_
    refine v_iaload (q := 17) dX12_inTime_16 rfl (fun v3 => ?_)
    refine v_aload_n (q := 18) dX12_inTime_17 rfl rfl rfl ?_
    refine v_getIb (q := 21) dX12_inTime_18 rfl fg_X12_92 (fun v4 => ?_)
    refine v_aload_n (q := 22) dX12_inTime_21 rfl rfl rfl ?_
    refine v_getRb (q := 25) dX12_inTime_22 rfl fg_X12_32 (fun o5 => ?_)
    refine v_iload_n (q := 26) dX12_inTime_25 rfl rfl rfl ?_
    refine v_iaload (q := 27) dX12_inTime_26 rfl (fun v6 => ?_)
    refine v_iadd (q := 28) dX12_inTime_27 rfl ?_
    refine v_cMV2 (q := 31) (ct_X12_layJourneys (d - 1) (by omega) _ _ _ _) dX12_inTime_28 rfl cc_X12_191 (by omega) (Nat.le_of_ble_eq_true rfl) ⟨Nat.le_of_ble_eq_true rfl, Nat.le_of_ble_eq_true rfl⟩ (fun M7 => ?_)
    refine v_iconst (q := 32) dX12_inTime_31 rfl ic_0 ?_
    refine v_istore_n (q := 33) (loc2 := [some (.ref a0), some (.int x1), some (.int (0 : Int32)), none, none]) dX12_inTime_32 rfl rfl rfl (Nat.le_of_ble_eq_true rfl) rfl ?_
    refine v_iconst (q := 34) dX12_inTime_33 rfl ic_0 ?_
    refine v_istore_n (q := 35) (loc2 := [some (.ref a0), some (.int x1), some (.int (0 : Int32)), some (.int (0 : Int32)), none]) dX12_inTime_34 rfl rfl rfl (Nat.le_of_ble_eq_true rfl) rfl ?_
    refine v_lps (S := Int32 × Int32) 116 (fun s => M7) (fun s => [some (.ref a0), some (.int x1), some (.int s.1), some (.int s.2), none]) (fun e25 => M7) (fun e25 => [some (.ref a0), some (.int x1), some (.int e25.1), some (.int e25.2), none]) (fun e25 => ?_) (fun k K hk hx s => ?_)
    · refine v_iload_n (q := 117) dX12_inTime_116 rfl rfl rfl ?_
      exact v_iret rfl dX12_inTime_117 ⟨Nat.le_of_ble_eq_true rfl, Nat.le_of_ble_eq_true rfl⟩ rfl
    · obtain ⟨v8, v9⟩ := s
      show V _ _ M7 35 [some (.ref a0), some (.int x1), some (.int v8), some (.int v9), none] [] (s_X12_inTime_35 a0 x1 M7 v8 v9) _
      unfold s_X12_inTime_35
      refine v_iload_n (q := 36) dX12_inTime_35 rfl rfl rfl ?_
      refine v_aload_n (q := 37) dX12_inTime_36 rfl rfl rfl ?_
      refine v_getIb (q := 40) dX12_inTime_37 rfl fg_X12_95 (fun v10 => ?_)
      refine v_icmp_ge (tgt := 116) (q := 43) dX12_inTime_40 rfl rfl ?_ ?_
      · exact v_inr (hx (v8, v9))
      · refine v_aload_n (q := 44) dX12_inTime_43 rfl rfl rfl ?_
        refine v_getRb (q := 47) dX12_inTime_44 rfl fg_X12_41 (fun o11 => ?_)
        refine v_iconst (q := 48) dX12_inTime_47 rfl ic_4 ?_
        refine v_iload_n (q := 49) dX12_inTime_48 rfl rfl rfl ?_
        refine v_imul (q := 50) dX12_inTime_49 rfl ?_
        refine v_iaload (q := 51) dX12_inTime_50 rfl (fun v12 => ?_)
        refine v_iload_n (q := 52) dX12_inTime_51 rfl rfl rfl ?_
        refine v_join (γ := Int32) 93 (fun v21 => M7) (fun v21 => [some (.ref a0), some (.int x1), some (.int v8), some (.int v9), none]) (fun v21 => [.int v21]) (fun K hK => ?_) (fun v21 => ?_)
        · refine v_icmp_ne (tgt := 92) (q := 55) dX12_inTime_52 rfl rfl ?_ ?_
          · refine v_iconst (q := 93) dX12_inTime_92 rfl ic_0 ?_
            exact hK (0 : Int32)
          · refine v_aload_n (q := 56) dX12_inTime_55 rfl rfl rfl ?_
            refine v_getRb (q := 59) dX12_inTime_56 rfl fg_X12_62 (fun o13 => ?_)
            refine v_aload_n (q := 60) dX12_inTime_59 rfl rfl rfl ?_
            refine v_getRb (q := 63) dX12_inTime_60 rfl fg_X12_23 (fun o14 => ?_)
            refine v_aload_n (q := 64) dX12_inTime_63 rfl rfl rfl ?_
            refine v_getRb (q := 67) dX12_inTime_64 rfl fg_X12_41 (fun o15 => ?_)
            refine v_iconst (q := 68) dX12_inTime_67 rfl ic_4 ?_
            refine v_iload_n (q := 69) dX12_inTime_68 rfl rfl rfl ?_
            refine v_imul (q := 70) dX12_inTime_69 rfl ?_
            refine v_iconst (q := 71) dX12_inTime_70 rfl ic_1 ?_
            refine v_iadd (q := 72) dX12_inTime_71 rfl ?_
            refine v_iaload (q := 73) dX12_inTime_72 rfl (fun v16 => ?_)
            refine v_iaload (q := 74) dX12_inTime_73 rfl (fun v17 => ?_)
            refine v_iaload (q := 75) dX12_inTime_74 rfl (fun v18 => ?_)
            refine v_aload_n (q := 76) dX12_inTime_75 rfl rfl rfl ?_
            refine v_getRb (q := 79) dX12_inTime_76 rfl fg_X12_41 (fun o19 => ?_)
            refine v_iconst (q := 80) dX12_inTime_79 rfl ic_4 ?_
            refine v_iload_n (q := 81) dX12_inTime_80 rfl rfl rfl ?_
            refine v_imul (q := 82) dX12_inTime_81 rfl ?_
            refine v_iconst (q := 83) dX12_inTime_82 rfl ic_3 ?_
            refine v_iadd (q := 84) dX12_inTime_83 rfl ?_
            refine v_iaload (q := 85) dX12_inTime_84 rfl (fun v20 => ?_)
            refine v_icmp_gt (tgt := 92) (q := 88) dX12_inTime_85 rfl rfl ?_ ?_
            · refine v_iconst (q := 93) dX12_inTime_92 rfl ic_0 ?_
              exact hK (0 : Int32)
            · refine v_iconst (q := 89) dX12_inTime_88 rfl ic_1 ?_
              refine v_goto (tgt := 93) dX12_inTime_89 rfl ?_
              exact hK (1 : Int32)
        · refine v_istore (q := 95) (loc2 := [some (.ref a0), some (.int x1), some (.int v8), some (.int v9), some (.int v21)]) dX12_inTime_93 rfl rfl (Nat.le_of_ble_eq_true rfl) rfl ?_
          refine v_iload_n (q := 96) dX12_inTime_95 rfl rfl rfl ?_
          refine v_iload (q := 98) dX12_inTime_96 rfl rfl ?_
          refine v_join (γ := Int32) 108 (fun v22 => M7) (fun v22 => [some (.ref a0), some (.int x1), some (.int v8), some (.int v9), some (.int v21)]) (fun v22 => [.int v22, .int v8]) (fun K hK => ?_) (fun v22 => ?_)
          · refine v_if_eq (tgt := 107) (q := 101) dX12_inTime_98 rfl rfl ?_ ?_
            · refine v_iconst (q := 108) dX12_inTime_107 rfl ic_0 ?_
              exact hK (0 : Int32)
            · refine v_iconst (q := 102) dX12_inTime_101 rfl ic_1 ?_
              refine v_iload_n (q := 103) dX12_inTime_102 rfl rfl rfl ?_
              refine v_ishl (q := 104) dX12_inTime_103 rfl ?_
              refine v_goto (tgt := 108) dX12_inTime_104 rfl ?_
              exact hK ((1 : Int32) <<< (v9 &&& 31))
          · refine v_ior (q := 109) dX12_inTime_108 rfl ?_
            refine v_letI (fun v23 => ?_)
            refine v_istore_n (q := 110) (loc2 := [some (.ref a0), some (.int x1), some (.int v23), some (.int v9), some (.int v21)]) dX12_inTime_109 rfl rfl rfl (Nat.le_of_ble_eq_true rfl) rfl ?_
            refine v_iincL (q := 113) (x := v9) (cst := (1 : Int32)) (f := fun v24 => [some (.ref a0), some (.int x1), some (.int v23), some (.int v24), some (.int v21)]) dX12_inTime_110 rfl rfl ic_1 rfl (Nat.le_of_ble_eq_true rfl) (fun _ => rfl) (fun v24 => ?_)
            refine v_goto (tgt := 35) dX12_inTime_113 rfl ?_
            exact v_inl (v_weak (hk (v23, v24)) ⟨rfl, ⟨rfl, ⟨rfl, ⟨rfl, trivial⟩⟩⟩⟩)
  · refine v_iconst (q := 9) dX12_inTime_8 rfl ic_m1 ?_
    exact v_iret rfl dX12_inTime_9 ⟨Nat.le_of_ble_eq_true rfl, Nat.le_of_ble_eq_true rfl⟩ rfl
theorem ct_X12_inTime (d : Nat) (hd : 3 ≤ d) (a0 : Nat) (x1 : Int32) (M : Me) (r : Int32) (M2 : Me) (hf : f_X12_inTime a0 x1 M = some (r, M2)) : me_k M a0 = some (12, nf_c 12) ∧ Ct yX12_inTime mX12_inTime d 0 0 [.ref a0, .int x1] M (some (.int r), M2) := by
  obtain ⟨hk, hb⟩ := ck_some hf
  exact ⟨hk, ct_of (by decide +kernel) rfl rfl (Nat.le_of_ble_eq_true rfl) (vb_X12_inTime d hd a0 x1 M) (by rw [hb]; rfl)⟩
theorem dX12_canMeet_0 : decode cX12_canMeet 0 = .ok (.aload_n 0, 1) := by decide +kernel
theorem dX12_canMeet_1 : decode cX12_canMeet 1 = .ok (.getfield 29, 3) := by decide +kernel
theorem dX12_canMeet_4 : decode cX12_canMeet 4 = .ok (.iload_n 1, 1) := by decide +kernel
theorem dX12_canMeet_5 : decode cX12_canMeet 5 = .ok (.iaload, 1) := by decide +kernel
theorem dX12_canMeet_6 : decode cX12_canMeet 6 = .ok (.istore_n 3, 1) := by decide +kernel
theorem dX12_canMeet_7 : decode cX12_canMeet 7 = .ok (.aload_n 0, 1) := by decide +kernel
theorem dX12_canMeet_8 : decode cX12_canMeet 8 = .ok (.getfield 92, 3) := by decide +kernel
theorem dX12_canMeet_11 : decode cX12_canMeet 11 = .ok (.aload_n 0, 1) := by decide +kernel
theorem dX12_canMeet_12 : decode cX12_canMeet 12 = .ok (.getfield 32, 3) := by decide +kernel
theorem dX12_canMeet_15 : decode cX12_canMeet 15 = .ok (.iload_n 1, 1) := by decide +kernel
theorem dX12_canMeet_16 : decode cX12_canMeet 16 = .ok (.iaload, 1) := by decide +kernel
theorem dX12_canMeet_17 : decode cX12_canMeet 17 = .ok (.iadd, 1) := by decide +kernel
theorem dX12_canMeet_18 : decode cX12_canMeet 18 = .ok (.istore 4, 2) := by decide +kernel
theorem dX12_canMeet_20 : decode cX12_canMeet 20 = .ok (.iload_n 2, 1) := by decide +kernel
theorem dX12_canMeet_21 : decode cX12_canMeet 21 = .ok (.istore 5, 2) := by decide +kernel
theorem dX12_canMeet_23 : decode cX12_canMeet 23 = .ok (.iload 5, 2) := by decide +kernel
theorem dX12_canMeet_25 : decode cX12_canMeet 25 = .ok (.ifCond .eq 138, 3) := by decide +kernel
theorem dX12_canMeet_28 : decode cX12_canMeet 28 = .ok (.bipush (-6), 2) := by decide +kernel
theorem dX12_canMeet_30 : decode cX12_canMeet 30 = .ok (.istore 6, 2) := by decide +kernel
theorem dX12_canMeet_32 : decode cX12_canMeet 32 = .ok (.iconst 0, 1) := by decide +kernel
theorem dX12_canMeet_33 : decode cX12_canMeet 33 = .ok (.istore 7, 2) := by decide +kernel
theorem dX12_canMeet_35 : decode cX12_canMeet 35 = .ok (.iload 7, 2) := by decide +kernel
theorem dX12_canMeet_37 : decode cX12_canMeet 37 = .ok (.aload_n 0, 1) := by decide +kernel
theorem dX12_canMeet_38 : decode cX12_canMeet 38 = .ok (.getfield 95, 3) := by decide +kernel
theorem dX12_canMeet_41 : decode cX12_canMeet 41 = .ok (.if_icmp .ge 58, 3) := by decide +kernel
theorem dX12_canMeet_44 : decode cX12_canMeet 44 = .ok (.iload 5, 2) := by decide +kernel
theorem dX12_canMeet_46 : decode cX12_canMeet 46 = .ok (.iload 7, 2) := by decide +kernel
theorem dX12_canMeet_48 : decode cX12_canMeet 48 = .ok (.invokestatic 85, 3) := by decide +kernel
theorem dX12_canMeet_51 : decode cX12_canMeet 51 = .ok (.ifCond .eq 38, 3) := by decide +kernel
theorem dX12_canMeet_54 : decode cX12_canMeet 54 = .ok (.iload 6, 2) := by decide +kernel
theorem dX12_canMeet_56 : decode cX12_canMeet 56 = .ok (.ifCond .lt 28, 3) := by decide +kernel
theorem dX12_canMeet_59 : decode cX12_canMeet 59 = .ok (.aload_n 0, 1) := by decide +kernel
theorem dX12_canMeet_60 : decode cX12_canMeet 60 = .ok (.getfield 41, 3) := by decide +kernel
theorem dX12_canMeet_63 : decode cX12_canMeet 63 = .ok (.iconst 4, 1) := by decide +kernel
theorem dX12_canMeet_64 : decode cX12_canMeet 64 = .ok (.iload 7, 2) := by decide +kernel
theorem dX12_canMeet_66 : decode cX12_canMeet 66 = .ok (.imul, 1) := by decide +kernel
theorem dX12_canMeet_67 : decode cX12_canMeet 67 = .ok (.iconst 3, 1) := by decide +kernel
theorem dX12_canMeet_68 : decode cX12_canMeet 68 = .ok (.iadd, 1) := by decide +kernel
theorem dX12_canMeet_69 : decode cX12_canMeet 69 = .ok (.iaload, 1) := by decide +kernel
theorem dX12_canMeet_70 : decode cX12_canMeet 70 = .ok (.aload_n 0, 1) := by decide +kernel
theorem dX12_canMeet_71 : decode cX12_canMeet 71 = .ok (.getfield 41, 3) := by decide +kernel
theorem dX12_canMeet_74 : decode cX12_canMeet 74 = .ok (.iconst 4, 1) := by decide +kernel
theorem dX12_canMeet_75 : decode cX12_canMeet 75 = .ok (.iload 6, 2) := by decide +kernel
theorem dX12_canMeet_77 : decode cX12_canMeet 77 = .ok (.imul, 1) := by decide +kernel
theorem dX12_canMeet_78 : decode cX12_canMeet 78 = .ok (.iconst 3, 1) := by decide +kernel
theorem dX12_canMeet_79 : decode cX12_canMeet 79 = .ok (.iadd, 1) := by decide +kernel
theorem dX12_canMeet_80 : decode cX12_canMeet 80 = .ok (.iaload, 1) := by decide +kernel
theorem dX12_canMeet_81 : decode cX12_canMeet 81 = .ok (.if_icmp .ge 8, 3) := by decide +kernel
theorem dX12_canMeet_84 : decode cX12_canMeet 84 = .ok (.iload 7, 2) := by decide +kernel
theorem dX12_canMeet_86 : decode cX12_canMeet 86 = .ok (.goto 5, 3) := by decide +kernel
theorem dX12_canMeet_89 : decode cX12_canMeet 89 = .ok (.iload 6, 2) := by decide +kernel
theorem dX12_canMeet_91 : decode cX12_canMeet 91 = .ok (.istore 6, 2) := by decide +kernel
theorem dX12_canMeet_93 : decode cX12_canMeet 93 = .ok (.iinc 7 1, 3) := by decide +kernel
theorem dX12_canMeet_96 : decode cX12_canMeet 96 = .ok (.goto (-61), 3) := by decide +kernel
theorem dX12_canMeet_99 : decode cX12_canMeet 99 = .ok (.aload_n 0, 1) := by decide +kernel
theorem dX12_canMeet_100 : decode cX12_canMeet 100 = .ok (.iload_n 3, 1) := by decide +kernel
theorem dX12_canMeet_101 : decode cX12_canMeet 101 = .ok (.iload 4, 2) := by decide +kernel
theorem dX12_canMeet_103 : decode cX12_canMeet 103 = .ok (.invokevirtual 191, 3) := by decide +kernel
theorem dX12_canMeet_106 : decode cX12_canMeet 106 = .ok (.aload_n 0, 1) := by decide +kernel
theorem dX12_canMeet_107 : decode cX12_canMeet 107 = .ok (.getfield 23, 3) := by decide +kernel
theorem dX12_canMeet_110 : decode cX12_canMeet 110 = .ok (.aload_n 0, 1) := by decide +kernel
theorem dX12_canMeet_111 : decode cX12_canMeet 111 = .ok (.getfield 41, 3) := by decide +kernel
theorem dX12_canMeet_114 : decode cX12_canMeet 114 = .ok (.iconst 4, 1) := by decide +kernel
theorem dX12_canMeet_115 : decode cX12_canMeet 115 = .ok (.iload 6, 2) := by decide +kernel
theorem dX12_canMeet_117 : decode cX12_canMeet 117 = .ok (.imul, 1) := by decide +kernel
theorem dX12_canMeet_118 : decode cX12_canMeet 118 = .ok (.iconst 1, 1) := by decide +kernel
theorem dX12_canMeet_119 : decode cX12_canMeet 119 = .ok (.iadd, 1) := by decide +kernel
theorem dX12_canMeet_120 : decode cX12_canMeet 120 = .ok (.iaload, 1) := by decide +kernel
theorem dX12_canMeet_121 : decode cX12_canMeet 121 = .ok (.iaload, 1) := by decide +kernel
theorem dX12_canMeet_122 : decode cX12_canMeet 122 = .ok (.istore_n 3, 1) := by decide +kernel
theorem dX12_canMeet_123 : decode cX12_canMeet 123 = .ok (.aload_n 0, 1) := by decide +kernel
theorem dX12_canMeet_124 : decode cX12_canMeet 124 = .ok (.getfield 41, 3) := by decide +kernel
theorem dX12_canMeet_127 : decode cX12_canMeet 127 = .ok (.iconst 4, 1) := by decide +kernel
theorem dX12_canMeet_128 : decode cX12_canMeet 128 = .ok (.iload 6, 2) := by decide +kernel
theorem dX12_canMeet_130 : decode cX12_canMeet 130 = .ok (.imul, 1) := by decide +kernel
theorem dX12_canMeet_131 : decode cX12_canMeet 131 = .ok (.iconst 3, 1) := by decide +kernel
theorem dX12_canMeet_132 : decode cX12_canMeet 132 = .ok (.iadd, 1) := by decide +kernel
theorem dX12_canMeet_133 : decode cX12_canMeet 133 = .ok (.iaload, 1) := by decide +kernel
theorem dX12_canMeet_134 : decode cX12_canMeet 134 = .ok (.istore 4, 2) := by decide +kernel
theorem dX12_canMeet_136 : decode cX12_canMeet 136 = .ok (.aload_n 0, 1) := by decide +kernel
theorem dX12_canMeet_137 : decode cX12_canMeet 137 = .ok (.getfield 62, 3) := by decide +kernel
theorem dX12_canMeet_140 : decode cX12_canMeet 140 = .ok (.iload_n 3, 1) := by decide +kernel
theorem dX12_canMeet_141 : decode cX12_canMeet 141 = .ok (.iaload, 1) := by decide +kernel
theorem dX12_canMeet_142 : decode cX12_canMeet 142 = .ok (.iload 4, 2) := by decide +kernel
theorem dX12_canMeet_144 : decode cX12_canMeet 144 = .ok (.if_icmp .le 5, 3) := by decide +kernel
theorem dX12_canMeet_147 : decode cX12_canMeet 147 = .ok (.iconst 0, 1) := by decide +kernel
theorem dX12_canMeet_148 : decode cX12_canMeet 148 = .ok (.ireturn, 1) := by decide +kernel
theorem dX12_canMeet_149 : decode cX12_canMeet 149 = .ok (.iload 5, 2) := by decide +kernel
theorem dX12_canMeet_151 : decode cX12_canMeet 151 = .ok (.iconst 1, 1) := by decide +kernel
theorem dX12_canMeet_152 : decode cX12_canMeet 152 = .ok (.iload 6, 2) := by decide +kernel
theorem dX12_canMeet_154 : decode cX12_canMeet 154 = .ok (.ishl, 1) := by decide +kernel
theorem dX12_canMeet_155 : decode cX12_canMeet 155 = .ok (.iconst (-1), 1) := by decide +kernel
theorem dX12_canMeet_156 : decode cX12_canMeet 156 = .ok (.ixor, 1) := by decide +kernel
theorem dX12_canMeet_157 : decode cX12_canMeet 157 = .ok (.iand, 1) := by decide +kernel
theorem dX12_canMeet_158 : decode cX12_canMeet 158 = .ok (.istore 5, 2) := by decide +kernel
theorem dX12_canMeet_160 : decode cX12_canMeet 160 = .ok (.goto (-137), 3) := by decide +kernel
theorem dX12_canMeet_163 : decode cX12_canMeet 163 = .ok (.iconst 1, 1) := by decide +kernel
theorem dX12_canMeet_164 : decode cX12_canMeet 164 = .ok (.ireturn, 1) := by decide +kernel
noncomputable def s_X12_canMeet_35 (a0 : Nat) (M7 : Me) (v10 : Int32) (v11 : Int32) (v12 : Int32) : Option ((Int32 × Int32) ⊕ (Int32 × Int32)) :=
  gi M7 a0 12 13 fun v13 =>
  if v13 ≤ v12 then (
    some (Sum.inr (v11, v12))
  ) else (
    cP (f_X12_has v10 v12 M7) fun v14 =>
    (
      if v14 = 0 then (
        some v11
      ) else (
        if v11 < 0 then (
          some v12
        ) else (
          gr M7 a0 12 14 fun o15 =>
          li M7 o15 (((4 : Int32) * v12) + (3 : Int32)) fun v16 =>
          gr M7 a0 12 14 fun o17 =>
          li M7 o17 (((4 : Int32) * v11) + (3 : Int32)) fun v18 =>
          if v18 ≤ v16 then (
            some v11
          ) else (
            some v12
          )
        )
      )
    ).bind fun v19 =>
    let_v (v12 + (1 : Int32)) fun v20 =>
    some (Sum.inl (v19, v20))
  )
noncomputable def s_X12_canMeet_23 (a0 : Nat) (M7 : Me) (v8 : Int32) (v9 : Int32) (v10 : Int32) : Option ((Me × Int32 × Int32 × Int32) ⊕ ((Me × Int32 × Int32 × Int32) ⊕ (Int32 × Me))) :=
  if v10 = 0 then (
    some (Sum.inr (Sum.inl (M7, v8, v9, v10)))
  ) else (
    (lp (fun s => s_X12_canMeet_35 a0 M7 v10 s.1 s.2) ((-6 : Int32), (0 : Int32))).bind fun e21 =>
    cM (f_X12_layJourneys a0 v8 v9 M7) fun M22 =>
    gr M22 a0 12 5 fun o23 =>
    gr M22 a0 12 14 fun o24 =>
    li M22 o24 (((4 : Int32) * e21.1) + (1 : Int32)) fun v25 =>
    li M22 o23 v25 fun v26 =>
    gr M22 a0 12 14 fun o27 =>
    li M22 o27 (((4 : Int32) * e21.1) + (3 : Int32)) fun v28 =>
    gr M22 a0 12 26 fun o29 =>
    li M22 o29 v26 fun v30 =>
    if v30 ≤ v28 then (
      let_v ((v10 &&& (((1 : Int32) <<< (e21.1 &&& 31)) ^^^ (-1 : Int32)))) fun v31 =>
      some (Sum.inl (M22, v26, v28, v31))
    ) else (
      some (Sum.inr (Sum.inr ((0 : Int32), M22)))
    )
  )
noncomputable def b_X12_canMeet (a0 : Nat) (x1 : Int32) (x2 : Int32) (M : Me) : Option (Int32 × Me) :=
  gr M a0 12 9 fun o1 =>
  li M o1 x1 fun v2 =>
  gi M a0 12 8 fun v3 =>
  gr M a0 12 10 fun o4 =>
  li M o4 x1 fun v5 =>
  let_v ((v3 + v5)) fun v6 =>
  ex_r (lp (fun s => s_X12_canMeet_23 a0 s.1 s.2.1 s.2.2.1 s.2.2.2) (M, v2, v6, x2)) (fun e32 =>
    some ((1 : Int32), e32.1)
  ) (fun t => some t)
noncomputable def f_X12_canMeet (a0 : Nat) (x1 : Int32) (x2 : Int32) (M : Me) : Option (Int32 × Me) := ck M a0 12 (b_X12_canMeet a0 x1 x2 M)
set_option maxRecDepth 20000 in
theorem vb_X12_canMeet (d : Nat) (hd : 2 ≤ d) (a0 : Nat) (x1 : Int32) (x2 : Int32) (M : Me) : V (mX12_canMeet, d, 0, 0) (0, 0) M 0 [some (.ref a0), some (.int x1), some (.int x2), none, none, none, none, none] [] (b_X12_canMeet a0 x1 x2 M) (fun z => some (some (.int z.1), z.2)) := by
  unfold b_X12_canMeet
  refine v_aload_n (q := 1) dX12_canMeet_0 rfl rfl rfl ?_
  refine v_getRb (q := 4) dX12_canMeet_1 rfl fg_X12_29 (fun o1 => ?_)
  refine v_iload_n (q := 5) dX12_canMeet_4 rfl rfl rfl ?_
  refine v_iaload (q := 6) dX12_canMeet_5 rfl (fun v2 => ?_)
  refine v_istore_n (q := 7) (loc2 := [some (.ref a0), some (.int x1), some (.int x2), some (.int v2), none, none, none, none]) dX12_canMeet_6 rfl rfl rfl (Nat.le_of_ble_eq_true rfl) rfl ?_
  refine v_aload_n (q := 8) dX12_canMeet_7 rfl rfl rfl ?_
  refine v_getIb (q := 11) dX12_canMeet_8 rfl fg_X12_92 (fun v3 => ?_)
  refine v_aload_n (q := 12) dX12_canMeet_11 rfl rfl rfl ?_
  refine v_getRb (q := 15) dX12_canMeet_12 rfl fg_X12_32 (fun o4 => ?_)
  refine v_iload_n (q := 16) dX12_canMeet_15 rfl rfl rfl ?_
  refine v_iaload (q := 17) dX12_canMeet_16 rfl (fun v5 => ?_)
  refine v_iadd (q := 18) dX12_canMeet_17 rfl ?_
  refine v_letI (fun v6 => ?_)
  refine v_istore (q := 20) (loc2 := [some (.ref a0), some (.int x1), some (.int x2), some (.int v2), some (.int v6), none, none, none]) dX12_canMeet_18 rfl rfl (Nat.le_of_ble_eq_true rfl) rfl ?_
  refine v_iload_n (q := 21) dX12_canMeet_20 rfl rfl rfl ?_
  refine v_istore (q := 23) (loc2 := [some (.ref a0), some (.int x1), some (.int x2), some (.int v2), some (.int v6), some (.int x2), none, none]) dX12_canMeet_21 rfl rfl (Nat.le_of_ble_eq_true rfl) rfl ?_
  refine v_lpr (S := Me × Int32 × Int32 × Int32) 163 (fun s => s.1) (fun s => [some (.ref a0), some (.int x1), some (.int x2), some (.int s.2.1), some (.int s.2.2.1), some (.int s.2.2.2), none, none]) (fun e32 => e32.1) (fun e32 => [some (.ref a0), some (.int x1), some (.int x2), some (.int e32.2.1), some (.int e32.2.2.1), some (.int e32.2.2.2), none, none]) (fun e32 => ?_) (fun k K hk hx s => ?_)
  · refine v_iconst (q := 164) dX12_canMeet_163 rfl ic_1 ?_
    exact v_zret rfl dX12_canMeet_164 ⟨Nat.le_of_ble_eq_true rfl, Nat.le_of_ble_eq_true rfl⟩ rfl (Or.inr rfl)
  · obtain ⟨M7, v8, v9, v10⟩ := s
    show V _ _ M7 23 [some (.ref a0), some (.int x1), some (.int x2), some (.int v8), some (.int v9), some (.int v10), none, none] [] (s_X12_canMeet_23 a0 M7 v8 v9 v10) _
    unfold s_X12_canMeet_23
    refine v_iload (q := 25) dX12_canMeet_23 rfl rfl ?_
    refine v_if_eq (tgt := 163) (q := 28) dX12_canMeet_25 rfl rfl ?_ ?_
    · exact v_inr (v_sml (hx (M7, v8, v9, v10)))
    · refine v_bipush (q := 30) dX12_canMeet_28 rfl bp_m6 ?_
      refine v_istore (q := 32) (loc2 := [some (.ref a0), some (.int x1), some (.int x2), some (.int v8), some (.int v9), some (.int v10), some (.int (-6 : Int32)), none]) dX12_canMeet_30 rfl rfl (Nat.le_of_ble_eq_true rfl) rfl ?_
      refine v_iconst (q := 33) dX12_canMeet_32 rfl ic_0 ?_
      refine v_istore (q := 35) (loc2 := [some (.ref a0), some (.int x1), some (.int x2), some (.int v8), some (.int v9), some (.int v10), some (.int (-6 : Int32)), some (.int (0 : Int32))]) dX12_canMeet_33 rfl rfl (Nat.le_of_ble_eq_true rfl) rfl ?_
      refine v_lps (S := Int32 × Int32) 99 (fun s => M7) (fun s => [some (.ref a0), some (.int x1), some (.int x2), some (.int v8), some (.int v9), some (.int v10), some (.int s.1), some (.int s.2)]) (fun e21 => M7) (fun e21 => [some (.ref a0), some (.int x1), some (.int x2), some (.int v8), some (.int v9), some (.int v10), some (.int e21.1), some (.int e21.2)]) (fun e21 => ?_) (fun k K hk hx s => ?_)
      · refine v_aload_n (q := 100) dX12_canMeet_99 rfl rfl rfl ?_
        refine v_iload_n (q := 101) dX12_canMeet_100 rfl rfl rfl ?_
        refine v_iload (q := 103) dX12_canMeet_101 rfl rfl ?_
        refine v_cMV2 (q := 106) (ct_X12_layJourneys (d - 1) (by omega) _ _ _ _) dX12_canMeet_103 rfl cc_X12_191 (by omega) (Nat.le_of_ble_eq_true rfl) ⟨Nat.le_of_ble_eq_true rfl, Nat.le_of_ble_eq_true rfl⟩ (fun M22 => ?_)
        refine v_aload_n (q := 107) dX12_canMeet_106 rfl rfl rfl ?_
        refine v_getRb (q := 110) dX12_canMeet_107 rfl fg_X12_23 (fun o23 => ?_)
        refine v_aload_n (q := 111) dX12_canMeet_110 rfl rfl rfl ?_
        refine v_getRb (q := 114) dX12_canMeet_111 rfl fg_X12_41 (fun o24 => ?_)
        refine v_iconst (q := 115) dX12_canMeet_114 rfl ic_4 ?_
        refine v_iload (q := 117) dX12_canMeet_115 rfl rfl ?_
        refine v_imul (q := 118) dX12_canMeet_117 rfl ?_
        refine v_iconst (q := 119) dX12_canMeet_118 rfl ic_1 ?_
        refine v_iadd (q := 120) dX12_canMeet_119 rfl ?_
        refine v_iaload (q := 121) dX12_canMeet_120 rfl (fun v25 => ?_)
        refine v_iaload (q := 122) dX12_canMeet_121 rfl (fun v26 => ?_)
        refine v_istore_n (q := 123) (loc2 := [some (.ref a0), some (.int x1), some (.int x2), some (.int v26), some (.int v9), some (.int v10), some (.int e21.1), some (.int e21.2)]) dX12_canMeet_122 rfl rfl rfl (Nat.le_of_ble_eq_true rfl) rfl ?_
        refine v_aload_n (q := 124) dX12_canMeet_123 rfl rfl rfl ?_
        refine v_getRb (q := 127) dX12_canMeet_124 rfl fg_X12_41 (fun o27 => ?_)
        refine v_iconst (q := 128) dX12_canMeet_127 rfl ic_4 ?_
        refine v_iload (q := 130) dX12_canMeet_128 rfl rfl ?_
        refine v_imul (q := 131) dX12_canMeet_130 rfl ?_
        refine v_iconst (q := 132) dX12_canMeet_131 rfl ic_3 ?_
        refine v_iadd (q := 133) dX12_canMeet_132 rfl ?_
        refine v_iaload (q := 134) dX12_canMeet_133 rfl (fun v28 => ?_)
        refine v_istore (q := 136) (loc2 := [some (.ref a0), some (.int x1), some (.int x2), some (.int v26), some (.int v28), some (.int v10), some (.int e21.1), some (.int e21.2)]) dX12_canMeet_134 rfl rfl (Nat.le_of_ble_eq_true rfl) rfl ?_
        refine v_aload_n (q := 137) dX12_canMeet_136 rfl rfl rfl ?_
        refine v_getRb (q := 140) dX12_canMeet_137 rfl fg_X12_62 (fun o29 => ?_)
        refine v_iload_n (q := 141) dX12_canMeet_140 rfl rfl rfl ?_
        refine v_iaload (q := 142) dX12_canMeet_141 rfl (fun v30 => ?_)
        refine v_iload (q := 144) dX12_canMeet_142 rfl rfl ?_
        refine v_icmp_le (tgt := 149) (q := 147) dX12_canMeet_144 rfl rfl ?_ ?_
        · refine v_iload (q := 151) dX12_canMeet_149 rfl rfl ?_
          refine v_iconst (q := 152) dX12_canMeet_151 rfl ic_1 ?_
          refine v_iload (q := 154) dX12_canMeet_152 rfl rfl ?_
          refine v_ishl (q := 155) dX12_canMeet_154 rfl ?_
          refine v_iconst (q := 156) dX12_canMeet_155 rfl ic_m1 ?_
          refine v_ixor (q := 157) dX12_canMeet_156 rfl ?_
          refine v_iand (q := 158) dX12_canMeet_157 rfl ?_
          refine v_letI (fun v31 => ?_)
          refine v_istore (q := 160) (loc2 := [some (.ref a0), some (.int x1), some (.int x2), some (.int v26), some (.int v28), some (.int v31), some (.int e21.1), some (.int e21.2)]) dX12_canMeet_158 rfl rfl (Nat.le_of_ble_eq_true rfl) rfl ?_
          refine v_goto (tgt := 23) dX12_canMeet_160 rfl ?_
          exact v_inl (v_weak (hk (M22, v26, v28, v31)) ⟨rfl, ⟨rfl, ⟨rfl, ⟨rfl, ⟨rfl, ⟨rfl, trivial⟩⟩⟩⟩⟩⟩)
        · refine v_iconst (q := 148) dX12_canMeet_147 rfl ic_0 ?_
          exact v_zret rfl dX12_canMeet_148 ⟨Nat.le_of_ble_eq_true rfl, Nat.le_of_ble_eq_true rfl⟩ rfl (Or.inl rfl)
      · obtain ⟨v11, v12⟩ := s
        show V _ _ M7 35 [some (.ref a0), some (.int x1), some (.int x2), some (.int v8), some (.int v9), some (.int v10), some (.int v11), some (.int v12)] [] (s_X12_canMeet_35 a0 M7 v10 v11 v12) _
        unfold s_X12_canMeet_35
        refine v_iload (q := 37) dX12_canMeet_35 rfl rfl ?_
        refine v_aload_n (q := 38) dX12_canMeet_37 rfl rfl rfl ?_
        refine v_getIb (q := 41) dX12_canMeet_38 rfl fg_X12_95 (fun v13 => ?_)
        refine v_icmp_ge (tgt := 99) (q := 44) dX12_canMeet_41 rfl rfl ?_ ?_
        · exact v_inr (hx (v11, v12))
        · refine v_iload (q := 46) dX12_canMeet_44 rfl rfl ?_
          refine v_iload (q := 48) dX12_canMeet_46 rfl rfl ?_
          refine v_cPS2 (q := 51) (ct_X12_has (d - 1) (by omega) _ _ _) dX12_canMeet_48 rfl cc_X12_85 (by omega) (Nat.le_of_ble_eq_true rfl) ⟨Nat.le_of_ble_eq_true rfl, Nat.le_of_ble_eq_true rfl⟩ (fun v14 => ?_)
          refine v_join (γ := Int32) 91 (fun v19 => M7) (fun v19 => [some (.ref a0), some (.int x1), some (.int x2), some (.int v8), some (.int v9), some (.int v10), some (.int v11), some (.int v12)]) (fun v19 => [.int v19]) (fun K hK => ?_) (fun v19 => ?_)
          · refine v_if_eq (tgt := 89) (q := 54) dX12_canMeet_51 rfl rfl ?_ ?_
            · refine v_iload (q := 91) dX12_canMeet_89 rfl rfl ?_
              exact hK v11
            · refine v_iload (q := 56) dX12_canMeet_54 rfl rfl ?_
              refine v_if_lt (tgt := 84) (q := 59) dX12_canMeet_56 rfl rfl ?_ ?_
              · refine v_iload (q := 86) dX12_canMeet_84 rfl rfl ?_
                refine v_goto (tgt := 91) dX12_canMeet_86 rfl ?_
                exact hK v12
              · refine v_aload_n (q := 60) dX12_canMeet_59 rfl rfl rfl ?_
                refine v_getRb (q := 63) dX12_canMeet_60 rfl fg_X12_41 (fun o15 => ?_)
                refine v_iconst (q := 64) dX12_canMeet_63 rfl ic_4 ?_
                refine v_iload (q := 66) dX12_canMeet_64 rfl rfl ?_
                refine v_imul (q := 67) dX12_canMeet_66 rfl ?_
                refine v_iconst (q := 68) dX12_canMeet_67 rfl ic_3 ?_
                refine v_iadd (q := 69) dX12_canMeet_68 rfl ?_
                refine v_iaload (q := 70) dX12_canMeet_69 rfl (fun v16 => ?_)
                refine v_aload_n (q := 71) dX12_canMeet_70 rfl rfl rfl ?_
                refine v_getRb (q := 74) dX12_canMeet_71 rfl fg_X12_41 (fun o17 => ?_)
                refine v_iconst (q := 75) dX12_canMeet_74 rfl ic_4 ?_
                refine v_iload (q := 77) dX12_canMeet_75 rfl rfl ?_
                refine v_imul (q := 78) dX12_canMeet_77 rfl ?_
                refine v_iconst (q := 79) dX12_canMeet_78 rfl ic_3 ?_
                refine v_iadd (q := 80) dX12_canMeet_79 rfl ?_
                refine v_iaload (q := 81) dX12_canMeet_80 rfl (fun v18 => ?_)
                refine v_icmp_ge (tgt := 89) (q := 84) dX12_canMeet_81 rfl rfl ?_ ?_
                · refine v_iload (q := 91) dX12_canMeet_89 rfl rfl ?_
                  exact hK v11
                · refine v_iload (q := 86) dX12_canMeet_84 rfl rfl ?_
                  refine v_goto (tgt := 91) dX12_canMeet_86 rfl ?_
                  exact hK v12
          · refine v_istore (q := 93) (loc2 := [some (.ref a0), some (.int x1), some (.int x2), some (.int v8), some (.int v9), some (.int v10), some (.int v19), some (.int v12)]) dX12_canMeet_91 rfl rfl (Nat.le_of_ble_eq_true rfl) rfl ?_
            refine v_iincL (q := 96) (x := v12) (cst := (1 : Int32)) (f := fun v20 => [some (.ref a0), some (.int x1), some (.int x2), some (.int v8), some (.int v9), some (.int v10), some (.int v19), some (.int v20)]) dX12_canMeet_93 rfl rfl ic_1 rfl (Nat.le_of_ble_eq_true rfl) (fun _ => rfl) (fun v20 => ?_)
            refine v_goto (tgt := 35) dX12_canMeet_96 rfl ?_
            exact v_inl (hk (v19, v20))
theorem ct_X12_canMeet (d : Nat) (hd : 2 ≤ d) (a0 : Nat) (x1 : Int32) (x2 : Int32) (M : Me) (r : Int32) (M2 : Me) (hf : f_X12_canMeet a0 x1 x2 M = some (r, M2)) : me_k M a0 = some (12, nf_c 12) ∧ Ct yX12_canMeet mX12_canMeet d 0 0 [.ref a0, .int x1, .int x2] M (some (.int r), M2) := by
  obtain ⟨hk, hb⟩ := ck_some hf
  exact ⟨hk, ct_of (by decide +kernel) rfl rfl (Nat.le_of_ble_eq_true rfl) (vb_X12_canMeet d hd a0 x1 x2 M) (by rw [hb]; rfl)⟩

theorem dX4_isAlive_0 : decode cX4_isAlive 0 = .ok (.aload_n 0, 1) := by decide +kernel
theorem dX4_isAlive_1 : decode cX4_isAlive 1 = .ok (.getfield 9, 3) := by decide +kernel
theorem dX4_isAlive_4 : decode cX4_isAlive 4 = .ok (.ifCond .eq 14, 3) := by decide +kernel
theorem dX4_isAlive_7 : decode cX4_isAlive 7 = .ok (.aload_n 0, 1) := by decide +kernel
theorem dX4_isAlive_8 : decode cX4_isAlive 8 = .ok (.getfield 22, 3) := by decide +kernel
theorem dX4_isAlive_11 : decode cX4_isAlive 11 = .ok (.ifCond .le 7, 3) := by decide +kernel
theorem dX4_isAlive_14 : decode cX4_isAlive 14 = .ok (.iconst 1, 1) := by decide +kernel
theorem dX4_isAlive_15 : decode cX4_isAlive 15 = .ok (.goto 4, 3) := by decide +kernel
theorem dX4_isAlive_18 : decode cX4_isAlive 18 = .ok (.iconst 0, 1) := by decide +kernel
theorem dX4_isAlive_19 : decode cX4_isAlive 19 = .ok (.ireturn, 1) := by decide +kernel
noncomputable def b_X4_isAlive (a0 : Nat) (M : Me) : Option (Int32) :=
  gi M a0 4 0 fun v1 =>
  (
    if v1 = 0 then (
      some (0 : Int32)
    ) else (
      gi M a0 4 3 fun v2 =>
      if v2 ≤ 0 then (
        some (0 : Int32)
      ) else (
        some (1 : Int32)
      )
    )
  ).bind fun v3 =>
  if v3 = 0 ∨ v3 = 1 then some v3 else none
noncomputable def f_X4_isAlive (a0 : Nat) (M : Me) : Option (Int32) := ck M a0 4 (b_X4_isAlive a0 M)
set_option maxRecDepth 20000 in
theorem vb_X4_isAlive (d : Nat) (hd : 0 ≤ d) (a0 : Nat) (M : Me) : V (mX4_isAlive, d, 0, 0) (0, 0) M 0 [some (.ref a0)] [] (b_X4_isAlive a0 M) (fun z => some (some (.int z), M)) := by
  unfold b_X4_isAlive
  refine v_aload_n (q := 1) dX4_isAlive_0 rfl rfl rfl ?_
  refine v_getIb (q := 4) dX4_isAlive_1 rfl fg_X4_9 (fun v1 => ?_)
  refine v_join (γ := Int32) 19 (fun v3 => M) (fun v3 => [some (.ref a0)]) (fun v3 => [.int v3]) (fun K hK => ?_) (fun v3 => ?_)
  · refine v_if_eq (tgt := 18) (q := 7) dX4_isAlive_4 rfl rfl ?_ ?_
    · refine v_iconst (q := 19) dX4_isAlive_18 rfl ic_0 ?_
      exact hK (0 : Int32)
    · refine v_aload_n (q := 8) dX4_isAlive_7 rfl rfl rfl ?_
      refine v_getIb (q := 11) dX4_isAlive_8 rfl fg_X4_22 (fun v2 => ?_)
      refine v_if_le (tgt := 18) (q := 14) dX4_isAlive_11 rfl rfl ?_ ?_
      · refine v_iconst (q := 19) dX4_isAlive_18 rfl ic_0 ?_
        exact hK (0 : Int32)
      · refine v_iconst (q := 15) dX4_isAlive_14 rfl ic_1 ?_
        refine v_goto (tgt := 19) dX4_isAlive_15 rfl ?_
        exact hK (1 : Int32)
  · exact v_zretC rfl dX4_isAlive_19 ⟨Nat.le_of_ble_eq_true rfl, Nat.le_of_ble_eq_true rfl⟩ rfl
theorem ct_X4_isAlive (d : Nat) (hd : 0 ≤ d) (a0 : Nat) (M : Me) (r : Int32) (hf : f_X4_isAlive a0 M = some r) : me_k M a0 = some (4, nf_c 4) ∧ Ct yX4_isAlive mX4_isAlive d 0 0 [.ref a0] M (some (.int r), M) := by
  obtain ⟨hk, hb⟩ := ck_some hf
  exact ⟨hk, ct_of (by decide +kernel) rfl rfl (Nat.le_of_ble_eq_true rfl) (vb_X4_isAlive d hd a0 M) (by rw [hb]; rfl)⟩
theorem dX2_endAllOf_0 : decode cX2_endAllOf 0 = .ok (.iconst 0, 1) := by decide +kernel
theorem dX2_endAllOf_1 : decode cX2_endAllOf 1 = .ok (.istore_n 2, 1) := by decide +kernel
theorem dX2_endAllOf_2 : decode cX2_endAllOf 2 = .ok (.iload_n 2, 1) := by decide +kernel
theorem dX2_endAllOf_3 : decode cX2_endAllOf 3 = .ok (.bipush 12, 2) := by decide +kernel
theorem dX2_endAllOf_5 : decode cX2_endAllOf 5 = .ok (.if_icmp .ge 53, 3) := by decide +kernel
theorem dX2_endAllOf_8 : decode cX2_endAllOf 8 = .ok (.iload_n 2, 1) := by decide +kernel
theorem dX2_endAllOf_9 : decode cX2_endAllOf 9 = .ok (.aload_n 0, 1) := by decide +kernel
theorem dX2_endAllOf_10 : decode cX2_endAllOf 10 = .ok (.getfield 18, 3) := by decide +kernel
theorem dX2_endAllOf_13 : decode cX2_endAllOf 13 = .ok (.if_icmp .ge 45, 3) := by decide +kernel
theorem dX2_endAllOf_16 : decode cX2_endAllOf 16 = .ok (.aload_n 0, 1) := by decide +kernel
theorem dX2_endAllOf_17 : decode cX2_endAllOf 17 = .ok (.getfield 11, 3) := by decide +kernel
theorem dX2_endAllOf_20 : decode cX2_endAllOf 20 = .ok (.iload_n 2, 1) := by decide +kernel
theorem dX2_endAllOf_21 : decode cX2_endAllOf 21 = .ok (.aaload, 1) := by decide +kernel
theorem dX2_endAllOf_22 : decode cX2_endAllOf 22 = .ok (.getfield 22, 3) := by decide +kernel
theorem dX2_endAllOf_25 : decode cX2_endAllOf 25 = .ok (.iload_n 1, 1) := by decide +kernel
theorem dX2_endAllOf_26 : decode cX2_endAllOf 26 = .ok (.if_icmp .eq 16, 3) := by decide +kernel
theorem dX2_endAllOf_29 : decode cX2_endAllOf 29 = .ok (.aload_n 0, 1) := by decide +kernel
theorem dX2_endAllOf_30 : decode cX2_endAllOf 30 = .ok (.getfield 11, 3) := by decide +kernel
theorem dX2_endAllOf_33 : decode cX2_endAllOf 33 = .ok (.iload_n 2, 1) := by decide +kernel
theorem dX2_endAllOf_34 : decode cX2_endAllOf 34 = .ok (.aaload, 1) := by decide +kernel
theorem dX2_endAllOf_35 : decode cX2_endAllOf 35 = .ok (.getfield 25, 3) := by decide +kernel
theorem dX2_endAllOf_38 : decode cX2_endAllOf 38 = .ok (.iload_n 1, 1) := by decide +kernel
theorem dX2_endAllOf_39 : decode cX2_endAllOf 39 = .ok (.if_icmp .ne 13, 3) := by decide +kernel
theorem dX2_endAllOf_42 : decode cX2_endAllOf 42 = .ok (.aload_n 0, 1) := by decide +kernel
theorem dX2_endAllOf_43 : decode cX2_endAllOf 43 = .ok (.getfield 11, 3) := by decide +kernel
theorem dX2_endAllOf_46 : decode cX2_endAllOf 46 = .ok (.iload_n 2, 1) := by decide +kernel
theorem dX2_endAllOf_47 : decode cX2_endAllOf 47 = .ok (.aaload, 1) := by decide +kernel
theorem dX2_endAllOf_48 : decode cX2_endAllOf 48 = .ok (.iconst 1, 1) := by decide +kernel
theorem dX2_endAllOf_49 : decode cX2_endAllOf 49 = .ok (.putfield 38, 3) := by decide +kernel
theorem dX2_endAllOf_52 : decode cX2_endAllOf 52 = .ok (.iinc 2 1, 3) := by decide +kernel
theorem dX2_endAllOf_55 : decode cX2_endAllOf 55 = .ok (.goto (-53), 3) := by decide +kernel
theorem dX2_endAllOf_58 : decode cX2_endAllOf 58 = .ok (.return_, 1) := by decide +kernel
noncomputable def s_X2_endAllOf_2 (a0 : Nat) (x1 : Int32) (M1 : Me) (v2 : Int32) : Option ((Me × Int32) ⊕ (Me × Int32)) :=
  if (12 : Int32) ≤ v2 then (
    some (Sum.inr (M1, v2))
  ) else (
    gi M1 a0 2 0 fun v3 =>
    if v3 ≤ v2 then (
      some (Sum.inr (M1, v2))
    ) else (
      gr M1 a0 2 1 fun o4 =>
      lr M1 o4 23 v2 fun o5 =>
      gi M1 o5 1 0 fun v6 =>
      (
        if v6 = x1 then (
          gr M1 a0 2 1 fun o7 =>
          lr M1 o7 23 v2 fun o8 =>
          pz M1 o8 1 4 (1 : Int32) fun M9 =>
          some M9
        ) else (
          gr M1 a0 2 1 fun o10 =>
          lr M1 o10 23 v2 fun o11 =>
          gi M1 o11 1 1 fun v12 =>
          if v12 = x1 then (
            gr M1 a0 2 1 fun o13 =>
            lr M1 o13 23 v2 fun o14 =>
            pz M1 o14 1 4 (1 : Int32) fun M15 =>
            some M15
          ) else (
            some M1
          )
        )
      ).bind fun M16 =>
      let_v (v2 + (1 : Int32)) fun v17 =>
      some (Sum.inl (M16, v17))
    )
  )
noncomputable def b_X2_endAllOf (a0 : Nat) (x1 : Int32) (M : Me) : Option (Me) :=
  (lp (fun s => s_X2_endAllOf_2 a0 x1 s.1 s.2) (M, (0 : Int32))).bind fun e18 =>
  some e18.1
noncomputable def f_X2_endAllOf (a0 : Nat) (x1 : Int32) (M : Me) : Option (Me) := ck M a0 2 (b_X2_endAllOf a0 x1 M)
set_option maxRecDepth 20000 in
theorem vb_X2_endAllOf (d : Nat) (hd : 0 ≤ d) (a0 : Nat) (x1 : Int32) (M : Me) : V (mX2_endAllOf, d, 0, 0) (0, 0) M 0 [some (.ref a0), some (.int x1), none] [] (b_X2_endAllOf a0 x1 M) (fun M2 => some (none, M2)) := by
  unfold b_X2_endAllOf
  refine v_iconst (q := 1) dX2_endAllOf_0 rfl ic_0 ?_
  refine v_istore_n (q := 2) (loc2 := [some (.ref a0), some (.int x1), some (.int (0 : Int32))]) dX2_endAllOf_1 rfl rfl rfl (Nat.le_of_ble_eq_true rfl) rfl ?_
  refine v_lps (S := Me × Int32) 58 (fun s => s.1) (fun s => [some (.ref a0), some (.int x1), some (.int s.2)]) (fun e18 => e18.1) (fun e18 => [some (.ref a0), some (.int x1), some (.int e18.2)]) (fun e18 => ?_) (fun k K hk hx s => ?_)
  · exact v_vret rfl dX2_endAllOf_58 ⟨Nat.le_of_ble_eq_true rfl, Nat.le_of_ble_eq_true rfl⟩ rfl
  · obtain ⟨M1, v2⟩ := s
    show V _ _ M1 2 [some (.ref a0), some (.int x1), some (.int v2)] [] (s_X2_endAllOf_2 a0 x1 M1 v2) _
    unfold s_X2_endAllOf_2
    refine v_iload_n (q := 3) dX2_endAllOf_2 rfl rfl rfl ?_
    refine v_bipush (q := 5) dX2_endAllOf_3 rfl bp_12 ?_
    refine v_icmp_ge (tgt := 58) (q := 8) dX2_endAllOf_5 rfl rfl ?_ ?_
    · exact v_inr (hx (M1, v2))
    · refine v_iload_n (q := 9) dX2_endAllOf_8 rfl rfl rfl ?_
      refine v_aload_n (q := 10) dX2_endAllOf_9 rfl rfl rfl ?_
      refine v_getIb (q := 13) dX2_endAllOf_10 rfl fg_X2_18 (fun v3 => ?_)
      refine v_icmp_ge (tgt := 58) (q := 16) dX2_endAllOf_13 rfl rfl ?_ ?_
      · exact v_inr (hx (M1, v2))
      · refine v_aload_n (q := 17) dX2_endAllOf_16 rfl rfl rfl ?_
        refine v_getRb (q := 20) dX2_endAllOf_17 rfl fg_X2_11 (fun o4 => ?_)
        refine v_iload_n (q := 21) dX2_endAllOf_20 rfl rfl rfl ?_
        refine v_aaload (q := 22) (t0 := 3) dX2_endAllOf_21 rfl (Nat.le_of_ble_eq_true rfl) (fun _ => rfl) (fun o5 => ?_)
        refine v_getIb (q := 25) dX2_endAllOf_22 rfl fg_X2_22 (fun v6 => ?_)
        refine v_iload_n (q := 26) dX2_endAllOf_25 rfl rfl rfl ?_
        refine v_join (γ := Me) 52 (fun M16 => M16) (fun M16 => [some (.ref a0), some (.int x1), some (.int v2)]) (fun M16 => []) (fun K hK => ?_) (fun M16 => ?_)
        · refine v_icmp_eq (tgt := 42) (q := 29) dX2_endAllOf_26 rfl rfl ?_ ?_
          · refine v_aload_n (q := 43) dX2_endAllOf_42 rfl rfl rfl ?_
            refine v_getRb (q := 46) dX2_endAllOf_43 rfl fg_X2_11 (fun o7 => ?_)
            refine v_iload_n (q := 47) dX2_endAllOf_46 rfl rfl rfl ?_
            refine v_aaload (q := 48) (t0 := 3) dX2_endAllOf_47 rfl (Nat.le_of_ble_eq_true rfl) (fun _ => rfl) (fun o8 => ?_)
            refine v_iconst (q := 49) dX2_endAllOf_48 rfl ic_1 ?_
            refine v_putZb (q := 52) dX2_endAllOf_49 rfl fp_X2_38 (fun M9 => ?_)
            exact hK M9
          · refine v_aload_n (q := 30) dX2_endAllOf_29 rfl rfl rfl ?_
            refine v_getRb (q := 33) dX2_endAllOf_30 rfl fg_X2_11 (fun o10 => ?_)
            refine v_iload_n (q := 34) dX2_endAllOf_33 rfl rfl rfl ?_
            refine v_aaload (q := 35) (t0 := 3) dX2_endAllOf_34 rfl (Nat.le_of_ble_eq_true rfl) (fun _ => rfl) (fun o11 => ?_)
            refine v_getIb (q := 38) dX2_endAllOf_35 rfl fg_X2_25 (fun v12 => ?_)
            refine v_iload_n (q := 39) dX2_endAllOf_38 rfl rfl rfl ?_
            refine v_icmp_ne (tgt := 52) (q := 42) dX2_endAllOf_39 rfl rfl ?_ ?_
            · exact hK M1
            · refine v_aload_n (q := 43) dX2_endAllOf_42 rfl rfl rfl ?_
              refine v_getRb (q := 46) dX2_endAllOf_43 rfl fg_X2_11 (fun o13 => ?_)
              refine v_iload_n (q := 47) dX2_endAllOf_46 rfl rfl rfl ?_
              refine v_aaload (q := 48) (t0 := 3) dX2_endAllOf_47 rfl (Nat.le_of_ble_eq_true rfl) (fun _ => rfl) (fun o14 => ?_)
              refine v_iconst (q := 49) dX2_endAllOf_48 rfl ic_1 ?_
              refine v_putZb (q := 52) dX2_endAllOf_49 rfl fp_X2_38 (fun M15 => ?_)
              exact hK M15
        · refine v_iincL (q := 55) (x := v2) (cst := (1 : Int32)) (f := fun v17 => [some (.ref a0), some (.int x1), some (.int v17)]) dX2_endAllOf_52 rfl rfl ic_1 rfl (Nat.le_of_ble_eq_true rfl) (fun _ => rfl) (fun v17 => ?_)
          refine v_goto (tgt := 2) dX2_endAllOf_55 rfl ?_
          exact v_inl (hk (M16, v17))
theorem ct_X2_endAllOf (d : Nat) (hd : 0 ≤ d) (a0 : Nat) (x1 : Int32) (M : Me) (r : Me) (hf : f_X2_endAllOf a0 x1 M = some r) : me_k M a0 = some (2, nf_c 2) ∧ Ct yX2_endAllOf mX2_endAllOf d 0 0 [.ref a0, .int x1] M (none, r) := by
  obtain ⟨hk, hb⟩ := ck_some hf
  exact ⟨hk, ct_of (by decide +kernel) rfl rfl (Nat.le_of_ble_eq_true rfl) (vb_X2_endAllOf d hd a0 x1 M) (by rw [hb]; rfl)⟩
theorem dX0_wound_0 : decode cX0_wound 0 = .ok (.aload_n 0, 1) := by decide +kernel
theorem dX0_wound_1 : decode cX0_wound 1 = .ok (.iload_n 1, 1) := by decide +kernel
theorem dX0_wound_2 : decode cX0_wound 2 = .ok (.invokevirtual 101, 3) := by decide +kernel
theorem dX0_wound_5 : decode cX0_wound 5 = .ok (.astore_n 3, 1) := by decide +kernel
theorem dX0_wound_6 : decode cX0_wound 6 = .ok (.aload_n 3, 1) := by decide +kernel
theorem dX0_wound_7 : decode cX0_wound 7 = .ok (.iconst 0, 1) := by decide +kernel
theorem dX0_wound_8 : decode cX0_wound 8 = .ok (.aload_n 3, 1) := by decide +kernel
theorem dX0_wound_9 : decode cX0_wound 9 = .ok (.getfield 180, 3) := by decide +kernel
theorem dX0_wound_12 : decode cX0_wound 12 = .ok (.iload_n 2, 1) := by decide +kernel
theorem dX0_wound_13 : decode cX0_wound 13 = .ok (.isub, 1) := by decide +kernel
theorem dX0_wound_14 : decode cX0_wound 14 = .ok (.invokestatic 183, 3) := by decide +kernel
theorem dX0_wound_17 : decode cX0_wound 17 = .ok (.putfield 180, 3) := by decide +kernel
theorem dX0_wound_20 : decode cX0_wound 20 = .ok (.aload_n 3, 1) := by decide +kernel
theorem dX0_wound_21 : decode cX0_wound 21 = .ok (.invokevirtual 94, 3) := by decide +kernel
theorem dX0_wound_24 : decode cX0_wound 24 = .ok (.ifCond .eq 11, 3) := by decide +kernel
theorem dX0_wound_27 : decode cX0_wound 27 = .ok (.aload_n 0, 1) := by decide +kernel
theorem dX0_wound_28 : decode cX0_wound 28 = .ok (.getfield 27, 3) := by decide +kernel
theorem dX0_wound_31 : decode cX0_wound 31 = .ok (.iload_n 1, 1) := by decide +kernel
theorem dX0_wound_32 : decode cX0_wound 32 = .ok (.invokevirtual 186, 3) := by decide +kernel
theorem dX0_wound_35 : decode cX0_wound 35 = .ok (.return_, 1) := by decide +kernel
noncomputable def b_X0_wound (a0 : Nat) (x1 : Int32) (x2 : Int32) (M : Me) : Option (Me) :=
  cR (f_X0_knightAt a0 x1 M) fun o1 =>
  gi M o1 4 3 fun v2 =>
  pi M o1 4 3 (mx_i (0 : Int32) (v2 - x2)) fun M3 =>
  cP (f_X4_isDead o1 M3) fun v4 =>
  (
    if v4 = 0 then (
      some M3
    ) else (
      gr M3 a0 0 2 fun o5 =>
      cM (f_X2_endAllOf o5 x1 M3) fun M6 =>
      some M6
    )
  ).bind fun M7 =>
  some M7
noncomputable def f_X0_wound (a0 : Nat) (x1 : Int32) (x2 : Int32) (M : Me) : Option (Me) := ck M a0 0 (b_X0_wound a0 x1 x2 M)
set_option maxRecDepth 20000 in
theorem vb_X0_wound (d : Nat) (hd : 1 ≤ d) (a0 : Nat) (x1 : Int32) (x2 : Int32) (M : Me) : V (mX0_wound, d, 0, 0) (0, 0) M 0 [some (.ref a0), some (.int x1), some (.int x2), none] [] (b_X0_wound a0 x1 x2 M) (fun M2 => some (none, M2)) := by
  unfold b_X0_wound
  refine v_aload_n (q := 1) dX0_wound_0 rfl rfl rfl ?_
  refine v_iload_n (q := 2) dX0_wound_1 rfl rfl rfl ?_
  refine v_cRV1 (q := 5) (ct_X0_knightAt (d - 1) (by omega) _ _ _) dX0_wound_2 rfl cc_X0_101 (by omega) (Nat.le_of_ble_eq_true rfl) ⟨Nat.le_of_ble_eq_true rfl, Nat.le_of_ble_eq_true rfl⟩ (fun o1 => ?_)
  refine v_astore_n (q := 6) (loc2 := [some (.ref a0), some (.int x1), some (.int x2), some (.ref o1)]) dX0_wound_5 rfl rfl rfl (Nat.le_of_ble_eq_true rfl) rfl ?_
  refine v_aload_n (q := 7) dX0_wound_6 rfl rfl rfl ?_
  refine v_iconst (q := 8) dX0_wound_7 rfl ic_0 ?_
  refine v_aload_n (q := 9) dX0_wound_8 rfl rfl rfl ?_
  refine v_getIb (q := 12) dX0_wound_9 rfl fg_X0_180 (fun v2 => ?_)
  refine v_iload_n (q := 13) dX0_wound_12 rfl rfl rfl ?_
  refine v_isub (q := 14) dX0_wound_13 rfl ?_
  refine v_mx_i (q := 17) dX0_wound_14 rfl cc_X0_183 (by show 1 ≤ d; omega) (Nat.le_of_ble_eq_true rfl) ⟨Nat.le_of_ble_eq_true rfl, Nat.le_of_ble_eq_true rfl⟩ ?_
  refine v_putIb (q := 20) dX0_wound_17 rfl fp_X0_180 (fun M3 => ?_)
  refine v_aload_n (q := 21) dX0_wound_20 rfl rfl rfl ?_
  refine v_cPV0 (q := 24) (ct_X4_isDead (d - 1) (by omega) _ _) dX0_wound_21 rfl cc_X0_94 (by omega) (Nat.le_of_ble_eq_true rfl) ⟨Nat.le_of_ble_eq_true rfl, Nat.le_of_ble_eq_true rfl⟩ (fun v4 => ?_)
  refine v_join (γ := Me) 35 (fun M7 => M7) (fun M7 => [some (.ref a0), some (.int x1), some (.int x2), some (.ref o1)]) (fun M7 => []) (fun K hK => ?_) (fun M7 => ?_)
  · refine v_if_eq (tgt := 35) (q := 27) dX0_wound_24 rfl rfl ?_ ?_
    · exact hK M3
    · refine v_aload_n (q := 28) dX0_wound_27 rfl rfl rfl ?_
      refine v_getRb (q := 31) dX0_wound_28 rfl fg_X0_27 (fun o5 => ?_)
      refine v_iload_n (q := 32) dX0_wound_31 rfl rfl rfl ?_
      refine v_cMV1 (q := 35) (ct_X2_endAllOf (d - 1) (by omega) _ _ _) dX0_wound_32 rfl cc_X0_186 (by omega) (Nat.le_of_ble_eq_true rfl) ⟨Nat.le_of_ble_eq_true rfl, Nat.le_of_ble_eq_true rfl⟩ (fun M6 => ?_)
      exact hK M6
  · exact v_vret rfl dX0_wound_35 ⟨Nat.le_of_ble_eq_true rfl, Nat.le_of_ble_eq_true rfl⟩ rfl
theorem ct_X0_wound (d : Nat) (hd : 1 ≤ d) (a0 : Nat) (x1 : Int32) (x2 : Int32) (M : Me) (r : Me) (hf : f_X0_wound a0 x1 x2 M = some r) : me_k M a0 = some (0, nf_c 0) ∧ Ct yX0_wound mX0_wound d 0 0 [.ref a0, .int x1, .int x2] M (none, r) := by
  obtain ⟨hk, hb⟩ := ck_some hf
  exact ⟨hk, ct_of (by decide +kernel) rfl rfl (Nat.le_of_ble_eq_true rfl) (vb_X0_wound d hd a0 x1 x2 M) (by rw [hb]; rfl)⟩
theorem dX2_sweep_0 : decode cX2_sweep 0 = .ok (.iconst 0, 1) := by decide +kernel
theorem dX2_sweep_1 : decode cX2_sweep 1 = .ok (.istore_n 1, 1) := by decide +kernel
theorem dX2_sweep_2 : decode cX2_sweep 2 = .ok (.iconst 0, 1) := by decide +kernel
theorem dX2_sweep_3 : decode cX2_sweep 3 = .ok (.istore_n 2, 1) := by decide +kernel
theorem dX2_sweep_4 : decode cX2_sweep 4 = .ok (.iload_n 2, 1) := by decide +kernel
theorem dX2_sweep_5 : decode cX2_sweep 5 = .ok (.bipush 12, 2) := by decide +kernel
theorem dX2_sweep_7 : decode cX2_sweep 7 = .ok (.if_icmp .ge 53, 3) := by decide +kernel
theorem dX2_sweep_10 : decode cX2_sweep 10 = .ok (.iload_n 2, 1) := by decide +kernel
theorem dX2_sweep_11 : decode cX2_sweep 11 = .ok (.aload_n 0, 1) := by decide +kernel
theorem dX2_sweep_12 : decode cX2_sweep 12 = .ok (.getfield 18, 3) := by decide +kernel
theorem dX2_sweep_15 : decode cX2_sweep 15 = .ok (.if_icmp .ge 45, 3) := by decide +kernel
theorem dX2_sweep_18 : decode cX2_sweep 18 = .ok (.aload_n 0, 1) := by decide +kernel
theorem dX2_sweep_19 : decode cX2_sweep 19 = .ok (.getfield 11, 3) := by decide +kernel
theorem dX2_sweep_22 : decode cX2_sweep 22 = .ok (.iload_n 2, 1) := by decide +kernel
theorem dX2_sweep_23 : decode cX2_sweep 23 = .ok (.aaload, 1) := by decide +kernel
theorem dX2_sweep_24 : decode cX2_sweep 24 = .ok (.astore_n 3, 1) := by decide +kernel
theorem dX2_sweep_25 : decode cX2_sweep 25 = .ok (.aload_n 3, 1) := by decide +kernel
theorem dX2_sweep_26 : decode cX2_sweep 26 = .ok (.getfield 38, 3) := by decide +kernel
theorem dX2_sweep_29 : decode cX2_sweep 29 = .ok (.ifCond .ne 25, 3) := by decide +kernel
theorem dX2_sweep_32 : decode cX2_sweep 32 = .ok (.aload_n 0, 1) := by decide +kernel
theorem dX2_sweep_33 : decode cX2_sweep 33 = .ok (.getfield 11, 3) := by decide +kernel
theorem dX2_sweep_36 : decode cX2_sweep 36 = .ok (.iload_n 2, 1) := by decide +kernel
theorem dX2_sweep_37 : decode cX2_sweep 37 = .ok (.aload_n 0, 1) := by decide +kernel
theorem dX2_sweep_38 : decode cX2_sweep 38 = .ok (.getfield 11, 3) := by decide +kernel
theorem dX2_sweep_41 : decode cX2_sweep 41 = .ok (.iload_n 1, 1) := by decide +kernel
theorem dX2_sweep_42 : decode cX2_sweep 42 = .ok (.aaload, 1) := by decide +kernel
theorem dX2_sweep_43 : decode cX2_sweep 43 = .ok (.aastore, 1) := by decide +kernel
theorem dX2_sweep_44 : decode cX2_sweep 44 = .ok (.aload_n 0, 1) := by decide +kernel
theorem dX2_sweep_45 : decode cX2_sweep 45 = .ok (.getfield 11, 3) := by decide +kernel
theorem dX2_sweep_48 : decode cX2_sweep 48 = .ok (.iload_n 1, 1) := by decide +kernel
theorem dX2_sweep_49 : decode cX2_sweep 49 = .ok (.aload_n 3, 1) := by decide +kernel
theorem dX2_sweep_50 : decode cX2_sweep 50 = .ok (.aastore, 1) := by decide +kernel
theorem dX2_sweep_51 : decode cX2_sweep 51 = .ok (.iinc 1 1, 3) := by decide +kernel
theorem dX2_sweep_54 : decode cX2_sweep 54 = .ok (.iinc 2 1, 3) := by decide +kernel
theorem dX2_sweep_57 : decode cX2_sweep 57 = .ok (.goto (-53), 3) := by decide +kernel
theorem dX2_sweep_60 : decode cX2_sweep 60 = .ok (.aload_n 0, 1) := by decide +kernel
theorem dX2_sweep_61 : decode cX2_sweep 61 = .ok (.iload_n 1, 1) := by decide +kernel
theorem dX2_sweep_62 : decode cX2_sweep 62 = .ok (.putfield 18, 3) := by decide +kernel
theorem dX2_sweep_65 : decode cX2_sweep 65 = .ok (.return_, 1) := by decide +kernel
noncomputable def s_X2_sweep_4 (a0 : Nat) (M1 : Me) (v2 : Int32) (v3 : Int32) : Option ((Me × Int32 × Int32) ⊕ (Me × Int32 × Int32)) :=
  if (12 : Int32) ≤ v3 then (
    some (Sum.inr (M1, v2, v3))
  ) else (
    gi M1 a0 2 0 fun v4 =>
    if v4 ≤ v3 then (
      some (Sum.inr (M1, v2, v3))
    ) else (
      gr M1 a0 2 1 fun o5 =>
      lr M1 o5 23 v3 fun o6 =>
      gi M1 o6 1 4 fun v7 =>
      (
        if v7 = 0 then (
          gr M1 a0 2 1 fun o8 =>
          gr M1 a0 2 1 fun o9 =>
          lr M1 o9 23 v2 fun o10 =>
          sr M1 o8 23 1 v3 o10 fun M11 =>
          gr M11 a0 2 1 fun o12 =>
          sr M11 o12 23 1 v2 o6 fun M13 =>
          let_v (v2 + (1 : Int32)) fun v14 =>
          some (M13, v14)
        ) else (
          some (M1, v2)
        )
      ).bind fun q15 =>
      let_v (v3 + (1 : Int32)) fun v16 =>
      some (Sum.inl (q15.1, q15.2, v16))
    )
  )
noncomputable def b_X2_sweep (a0 : Nat) (M : Me) : Option (Me) :=
  (lp (fun s => s_X2_sweep_4 a0 s.1 s.2.1 s.2.2) (M, (0 : Int32), (0 : Int32))).bind fun e17 =>
  pi e17.1 a0 2 0 e17.2.1 fun M18 =>
  some M18
noncomputable def f_X2_sweep (a0 : Nat) (M : Me) : Option (Me) := ck M a0 2 (b_X2_sweep a0 M)
set_option maxRecDepth 20000 in
theorem vb_X2_sweep (d : Nat) (hd : 0 ≤ d) (a0 : Nat) (M : Me) : V (mX2_sweep, d, 0, 0) (0, 0) M 0 [some (.ref a0), none, none, none] [] (b_X2_sweep a0 M) (fun M2 => some (none, M2)) := by
  unfold b_X2_sweep
  refine v_iconst (q := 1) dX2_sweep_0 rfl ic_0 ?_
  refine v_istore_n (q := 2) (loc2 := [some (.ref a0), some (.int (0 : Int32)), none, none]) dX2_sweep_1 rfl rfl rfl (Nat.le_of_ble_eq_true rfl) rfl ?_
  refine v_iconst (q := 3) dX2_sweep_2 rfl ic_0 ?_
  refine v_istore_n (q := 4) (loc2 := [some (.ref a0), some (.int (0 : Int32)), some (.int (0 : Int32)), none]) dX2_sweep_3 rfl rfl rfl (Nat.le_of_ble_eq_true rfl) rfl ?_
  refine v_lps (S := Me × Int32 × Int32) 60 (fun s => s.1) (fun s => [some (.ref a0), some (.int s.2.1), some (.int s.2.2), none]) (fun e17 => e17.1) (fun e17 => [some (.ref a0), some (.int e17.2.1), some (.int e17.2.2), none]) (fun e17 => ?_) (fun k K hk hx s => ?_)
  · refine v_aload_n (q := 61) dX2_sweep_60 rfl rfl rfl ?_
    refine v_iload_n (q := 62) dX2_sweep_61 rfl rfl rfl ?_
    refine v_putIb (q := 65) dX2_sweep_62 rfl fp_X2_18 (fun M18 => ?_)
    exact v_vret rfl dX2_sweep_65 ⟨Nat.le_of_ble_eq_true rfl, Nat.le_of_ble_eq_true rfl⟩ rfl
  · obtain ⟨M1, v2, v3⟩ := s
    show V _ _ M1 4 [some (.ref a0), some (.int v2), some (.int v3), none] [] (s_X2_sweep_4 a0 M1 v2 v3) _
    unfold s_X2_sweep_4
    refine v_iload_n (q := 5) dX2_sweep_4 rfl rfl rfl ?_
    refine v_bipush (q := 7) dX2_sweep_5 rfl bp_12 ?_
    refine v_icmp_ge (tgt := 60) (q := 10) dX2_sweep_7 rfl rfl ?_ ?_
    · exact v_inr (hx (M1, v2, v3))
    · refine v_iload_n (q := 11) dX2_sweep_10 rfl rfl rfl ?_
      refine v_aload_n (q := 12) dX2_sweep_11 rfl rfl rfl ?_
      refine v_getIb (q := 15) dX2_sweep_12 rfl fg_X2_18 (fun v4 => ?_)
      refine v_icmp_ge (tgt := 60) (q := 18) dX2_sweep_15 rfl rfl ?_ ?_
      · exact v_inr (hx (M1, v2, v3))
      · refine v_aload_n (q := 19) dX2_sweep_18 rfl rfl rfl ?_
        refine v_getRb (q := 22) dX2_sweep_19 rfl fg_X2_11 (fun o5 => ?_)
        refine v_iload_n (q := 23) dX2_sweep_22 rfl rfl rfl ?_
        refine v_aaload (q := 24) (t0 := 3) dX2_sweep_23 rfl (Nat.le_of_ble_eq_true rfl) (fun _ => rfl) (fun o6 => ?_)
        refine v_astore_n (q := 25) (loc2 := [some (.ref a0), some (.int v2), some (.int v3), some (.ref o6)]) dX2_sweep_24 rfl rfl rfl (Nat.le_of_ble_eq_true rfl) rfl ?_
        refine v_aload_n (q := 26) dX2_sweep_25 rfl rfl rfl ?_
        refine v_getIb (q := 29) dX2_sweep_26 rfl fg_X2_38 (fun v7 => ?_)
        refine v_join (γ := Me × Int32) 54 (fun q15 => q15.1) (fun q15 => [some (.ref a0), some (.int q15.2), some (.int v3), some (.ref o6)]) (fun q15 => []) (fun K hK => ?_) (fun q15 => ?_)
        · refine v_if_ne (tgt := 54) (q := 32) dX2_sweep_29 rfl rfl ?_ ?_
          · exact hK (M1, v2)
          · refine v_aload_n (q := 33) dX2_sweep_32 rfl rfl rfl ?_
            refine v_getRb (q := 36) dX2_sweep_33 rfl fg_X2_11 (fun o8 => ?_)
            refine v_iload_n (q := 37) dX2_sweep_36 rfl rfl rfl ?_
            refine v_aload_n (q := 38) dX2_sweep_37 rfl rfl rfl ?_
            refine v_getRb (q := 41) dX2_sweep_38 rfl fg_X2_11 (fun o9 => ?_)
            refine v_iload_n (q := 42) dX2_sweep_41 rfl rfl rfl ?_
            refine v_aaload (q := 43) (t0 := 3) dX2_sweep_42 rfl (Nat.le_of_ble_eq_true rfl) (fun _ => rfl) (fun o10 => ?_)
            refine v_aastore (q := 44) (t0 := 3) dX2_sweep_43 rfl (Nat.le_of_ble_eq_true rfl) (Nat.le_of_ble_eq_true rfl) (fun _ => rfl) (fun M11 => ?_)
            refine v_aload_n (q := 45) dX2_sweep_44 rfl rfl rfl ?_
            refine v_getRb (q := 48) dX2_sweep_45 rfl fg_X2_11 (fun o12 => ?_)
            refine v_iload_n (q := 49) dX2_sweep_48 rfl rfl rfl ?_
            refine v_aload_n (q := 50) dX2_sweep_49 rfl rfl rfl ?_
            refine v_aastore (q := 51) (t0 := 3) dX2_sweep_50 rfl (Nat.le_of_ble_eq_true rfl) (Nat.le_of_ble_eq_true rfl) (fun _ => rfl) (fun M13 => ?_)
            refine v_iincL (q := 54) (x := v2) (cst := (1 : Int32)) (f := fun v14 => [some (.ref a0), some (.int v14), some (.int v3), some (.ref o6)]) dX2_sweep_51 rfl rfl ic_1 rfl (Nat.le_of_ble_eq_true rfl) (fun _ => rfl) (fun v14 => ?_)
            exact hK (M13, v14)
        · refine v_iincL (q := 57) (x := v3) (cst := (1 : Int32)) (f := fun v16 => [some (.ref a0), some (.int q15.2), some (.int v16), some (.ref o6)]) dX2_sweep_54 rfl rfl ic_1 rfl (Nat.le_of_ble_eq_true rfl) (fun _ => rfl) (fun v16 => ?_)
          refine v_goto (tgt := 4) dX2_sweep_57 rfl ?_
          exact v_inl (v_weak (hk (q15.1, q15.2, v16)) ⟨rfl, ⟨rfl, ⟨rfl, trivial⟩⟩⟩)
theorem ct_X2_sweep (d : Nat) (hd : 0 ≤ d) (a0 : Nat) (M : Me) (r : Me) (hf : f_X2_sweep a0 M = some r) : me_k M a0 = some (2, nf_c 2) ∧ Ct yX2_sweep mX2_sweep d 0 0 [.ref a0] M (none, r) := by
  obtain ⟨hk, hb⟩ := ck_some hf
  exact ⟨hk, ct_of (by decide +kernel) rfl rfl (Nat.le_of_ble_eq_true rfl) (vb_X2_sweep d hd a0 M) (by rw [hb]; rfl)⟩
theorem dX2_add_0 : decode cX2_add 0 = .ok (.aload_n 0, 1) := by decide +kernel
theorem dX2_add_1 : decode cX2_add 1 = .ok (.getfield 18, 3) := by decide +kernel
theorem dX2_add_4 : decode cX2_add 4 = .ok (.bipush 12, 2) := by decide +kernel
theorem dX2_add_6 : decode cX2_add 6 = .ok (.if_icmp .ge 30, 3) := by decide +kernel
theorem dX2_add_9 : decode cX2_add 9 = .ok (.aload_n 0, 1) := by decide +kernel
theorem dX2_add_10 : decode cX2_add 10 = .ok (.getfield 11, 3) := by decide +kernel
theorem dX2_add_13 : decode cX2_add 13 = .ok (.aload_n 0, 1) := by decide +kernel
theorem dX2_add_14 : decode cX2_add 14 = .ok (.getfield 18, 3) := by decide +kernel
theorem dX2_add_17 : decode cX2_add 17 = .ok (.aaload, 1) := by decide +kernel
theorem dX2_add_18 : decode cX2_add 18 = .ok (.iload_n 1, 1) := by decide +kernel
theorem dX2_add_19 : decode cX2_add 19 = .ok (.iload_n 2, 1) := by decide +kernel
theorem dX2_add_20 : decode cX2_add 20 = .ok (.iload_n 3, 1) := by decide +kernel
theorem dX2_add_21 : decode cX2_add 21 = .ok (.iload 4, 2) := by decide +kernel
theorem dX2_add_23 : decode cX2_add 23 = .ok (.invokevirtual 34, 3) := by decide +kernel
theorem dX2_add_26 : decode cX2_add 26 = .ok (.aload_n 0, 1) := by decide +kernel
theorem dX2_add_27 : decode cX2_add 27 = .ok (.dup, 1) := by decide +kernel
theorem dX2_add_28 : decode cX2_add 28 = .ok (.getfield 18, 3) := by decide +kernel
theorem dX2_add_31 : decode cX2_add 31 = .ok (.iconst 1, 1) := by decide +kernel
theorem dX2_add_32 : decode cX2_add 32 = .ok (.iadd, 1) := by decide +kernel
theorem dX2_add_33 : decode cX2_add 33 = .ok (.putfield 18, 3) := by decide +kernel
theorem dX2_add_36 : decode cX2_add 36 = .ok (.return_, 1) := by decide +kernel
noncomputable def b_X2_add (a0 : Nat) (x1 : Int32) (x2 : Int32) (x3 : Int32) (x4 : Int32) (M : Me) : Option (Me) :=
  gi M a0 2 0 fun v1 =>
  (
    if (12 : Int32) ≤ v1 then (
      some M
    ) else (
      gr M a0 2 1 fun o2 =>
      gi M a0 2 0 fun v3 =>
      lr M o2 23 v3 fun o4 =>
      cM (f_X1_set o4 x1 x2 x3 x4 M) fun M5 =>
      gi M5 a0 2 0 fun v6 =>
      pi M5 a0 2 0 (v6 + (1 : Int32)) fun M7 =>
      some M7
    )
  ).bind fun M8 =>
  some M8
noncomputable def f_X2_add (a0 : Nat) (x1 : Int32) (x2 : Int32) (x3 : Int32) (x4 : Int32) (M : Me) : Option (Me) := ck M a0 2 (b_X2_add a0 x1 x2 x3 x4 M)
set_option maxRecDepth 20000 in
theorem vb_X2_add (d : Nat) (hd : 1 ≤ d) (a0 : Nat) (x1 : Int32) (x2 : Int32) (x3 : Int32) (x4 : Int32) (M : Me) : V (mX2_add, d, 0, 0) (0, 0) M 0 [some (.ref a0), some (.int x1), some (.int x2), some (.int x3), some (.int x4)] [] (b_X2_add a0 x1 x2 x3 x4 M) (fun M2 => some (none, M2)) := by
  unfold b_X2_add
  refine v_aload_n (q := 1) dX2_add_0 rfl rfl rfl ?_
  refine v_getIb (q := 4) dX2_add_1 rfl fg_X2_18 (fun v1 => ?_)
  refine v_bipush (q := 6) dX2_add_4 rfl bp_12 ?_
  refine v_join (γ := Me) 36 (fun M8 => M8) (fun M8 => [some (.ref a0), some (.int x1), some (.int x2), some (.int x3), some (.int x4)]) (fun M8 => []) (fun K hK => ?_) (fun M8 => ?_)
  · refine v_icmp_ge (tgt := 36) (q := 9) dX2_add_6 rfl rfl ?_ ?_
    · exact hK M
    · refine v_aload_n (q := 10) dX2_add_9 rfl rfl rfl ?_
      refine v_getRb (q := 13) dX2_add_10 rfl fg_X2_11 (fun o2 => ?_)
      refine v_aload_n (q := 14) dX2_add_13 rfl rfl rfl ?_
      refine v_getIb (q := 17) dX2_add_14 rfl fg_X2_18 (fun v3 => ?_)
      refine v_aaload (q := 18) (t0 := 3) dX2_add_17 rfl (Nat.le_of_ble_eq_true rfl) (fun _ => rfl) (fun o4 => ?_)
      refine v_iload_n (q := 19) dX2_add_18 rfl rfl rfl ?_
      refine v_iload_n (q := 20) dX2_add_19 rfl rfl rfl ?_
      refine v_iload_n (q := 21) dX2_add_20 rfl rfl rfl ?_
      refine v_iload (q := 23) dX2_add_21 rfl rfl ?_
      refine v_cMV4 (q := 26) (ct_X1_set (d - 1) (by omega) _ _ _ _ _ _) dX2_add_23 rfl cc_X2_34 (by omega) (Nat.le_of_ble_eq_true rfl) ⟨Nat.le_of_ble_eq_true rfl, Nat.le_of_ble_eq_true rfl⟩ (fun M5 => ?_)
      refine v_aload_n (q := 27) dX2_add_26 rfl rfl rfl ?_
      refine v_dup (q := 28) dX2_add_27 rfl rfl ?_
      refine v_getIb (q := 31) dX2_add_28 rfl fg_X2_18 (fun v6 => ?_)
      refine v_iconst (q := 32) dX2_add_31 rfl ic_1 ?_
      refine v_iadd (q := 33) dX2_add_32 rfl ?_
      refine v_putIb (q := 36) dX2_add_33 rfl fp_X2_18 (fun M7 => ?_)
      exact hK M7
  · exact v_vret rfl dX2_add_36 ⟨Nat.le_of_ble_eq_true rfl, Nat.le_of_ble_eq_true rfl⟩ rfl
theorem ct_X2_add (d : Nat) (hd : 1 ≤ d) (a0 : Nat) (x1 : Int32) (x2 : Int32) (x3 : Int32) (x4 : Int32) (M : Me) (r : Me) (hf : f_X2_add a0 x1 x2 x3 x4 M = some r) : me_k M a0 = some (2, nf_c 2) ∧ Ct yX2_add mX2_add d 0 0 [.ref a0, .int x1, .int x2, .int x3, .int x4] M (none, r) := by
  obtain ⟨hk, hb⟩ := ck_some hf
  exact ⟨hk, ct_of (by decide +kernel) rfl rfl (Nat.le_of_ble_eq_true rfl) (vb_X2_add d hd a0 x1 x2 x3 x4 M) (by rw [hb]; rfl)⟩
theorem dX0_tryStrike_0 : decode cX0_tryStrike 0 = .ok (.aload_n 0, 1) := by decide +kernel
theorem dX0_tryStrike_1 : decode cX0_tryStrike 1 = .ok (.iload_n 1, 1) := by decide +kernel
theorem dX0_tryStrike_2 : decode cX0_tryStrike 2 = .ok (.invokevirtual 101, 3) := by decide +kernel
theorem dX0_tryStrike_5 : decode cX0_tryStrike 5 = .ok (.astore 4, 2) := by decide +kernel
theorem dX0_tryStrike_7 : decode cX0_tryStrike 7 = .ok (.aload_n 0, 1) := by decide +kernel
theorem dX0_tryStrike_8 : decode cX0_tryStrike 8 = .ok (.iload_n 2, 1) := by decide +kernel
theorem dX0_tryStrike_9 : decode cX0_tryStrike 9 = .ok (.invokevirtual 101, 3) := by decide +kernel
theorem dX0_tryStrike_12 : decode cX0_tryStrike 12 = .ok (.astore 5, 2) := by decide +kernel
theorem dX0_tryStrike_14 : decode cX0_tryStrike 14 = .ok (.aload 4, 2) := by decide +kernel
theorem dX0_tryStrike_16 : decode cX0_tryStrike 16 = .ok (.invokevirtual 105, 3) := by decide +kernel
theorem dX0_tryStrike_19 : decode cX0_tryStrike 19 = .ok (.ifCond .eq 16, 3) := by decide +kernel
theorem dX0_tryStrike_22 : decode cX0_tryStrike 22 = .ok (.aload 5, 2) := by decide +kernel
theorem dX0_tryStrike_24 : decode cX0_tryStrike 24 = .ok (.invokevirtual 105, 3) := by decide +kernel
theorem dX0_tryStrike_27 : decode cX0_tryStrike 27 = .ok (.ifCond .eq 8, 3) := by decide +kernel
theorem dX0_tryStrike_30 : decode cX0_tryStrike 30 = .ok (.iload_n 1, 1) := by decide +kernel
theorem dX0_tryStrike_31 : decode cX0_tryStrike 31 = .ok (.iload_n 2, 1) := by decide +kernel
theorem dX0_tryStrike_32 : decode cX0_tryStrike 32 = .ok (.if_icmp .ne 5, 3) := by decide +kernel
theorem dX0_tryStrike_35 : decode cX0_tryStrike 35 = .ok (.iconst 1, 1) := by decide +kernel
theorem dX0_tryStrike_36 : decode cX0_tryStrike 36 = .ok (.ireturn, 1) := by decide +kernel
theorem dX0_tryStrike_37 : decode cX0_tryStrike 37 = .ok (.aload 4, 2) := by decide +kernel
theorem dX0_tryStrike_39 : decode cX0_tryStrike 39 = .ok (.getfield 108, 3) := by decide +kernel
theorem dX0_tryStrike_42 : decode cX0_tryStrike 42 = .ok (.ifCond .gt 11, 3) := by decide +kernel
theorem dX0_tryStrike_45 : decode cX0_tryStrike 45 = .ok (.aload 5, 2) := by decide +kernel
theorem dX0_tryStrike_47 : decode cX0_tryStrike 47 = .ok (.getfield 108, 3) := by decide +kernel
theorem dX0_tryStrike_50 : decode cX0_tryStrike 50 = .ok (.ifCond .le 5, 3) := by decide +kernel
theorem dX0_tryStrike_53 : decode cX0_tryStrike 53 = .ok (.iconst 2, 1) := by decide +kernel
theorem dX0_tryStrike_54 : decode cX0_tryStrike 54 = .ok (.ireturn, 1) := by decide +kernel
theorem dX0_tryStrike_55 : decode cX0_tryStrike 55 = .ok (.aload 4, 2) := by decide +kernel
theorem dX0_tryStrike_57 : decode cX0_tryStrike 57 = .ok (.getfield 111, 3) := by decide +kernel
theorem dX0_tryStrike_60 : decode cX0_tryStrike 60 = .ok (.aload 5, 2) := by decide +kernel
theorem dX0_tryStrike_62 : decode cX0_tryStrike 62 = .ok (.getfield 111, 3) := by decide +kernel
theorem dX0_tryStrike_65 : decode cX0_tryStrike 65 = .ok (.if_icmp .eq 5, 3) := by decide +kernel
theorem dX0_tryStrike_68 : decode cX0_tryStrike 68 = .ok (.iconst 3, 1) := by decide +kernel
theorem dX0_tryStrike_69 : decode cX0_tryStrike 69 = .ok (.ireturn, 1) := by decide +kernel
theorem dX0_tryStrike_70 : decode cX0_tryStrike 70 = .ok (.iload_n 3, 1) := by decide +kernel
theorem dX0_tryStrike_71 : decode cX0_tryStrike 71 = .ok (.aload 4, 2) := by decide +kernel
theorem dX0_tryStrike_73 : decode cX0_tryStrike 73 = .ok (.getfield 114, 3) := by decide +kernel
theorem dX0_tryStrike_76 : decode cX0_tryStrike 76 = .ok (.if_icmp .le 5, 3) := by decide +kernel
theorem dX0_tryStrike_79 : decode cX0_tryStrike 79 = .ok (.iconst 4, 1) := by decide +kernel
theorem dX0_tryStrike_80 : decode cX0_tryStrike 80 = .ok (.ireturn, 1) := by decide +kernel
theorem dX0_tryStrike_81 : decode cX0_tryStrike 81 = .ok (.aload_n 0, 1) := by decide +kernel
theorem dX0_tryStrike_82 : decode cX0_tryStrike 82 = .ok (.getfield 27, 3) := by decide +kernel
theorem dX0_tryStrike_85 : decode cX0_tryStrike 85 = .ok (.getfield 76, 3) := by decide +kernel
theorem dX0_tryStrike_88 : decode cX0_tryStrike 88 = .ok (.bipush 12, 2) := by decide +kernel
theorem dX0_tryStrike_90 : decode cX0_tryStrike 90 = .ok (.if_icmp .lt 6, 3) := by decide +kernel
theorem dX0_tryStrike_93 : decode cX0_tryStrike 93 = .ok (.bipush 7, 2) := by decide +kernel
theorem dX0_tryStrike_95 : decode cX0_tryStrike 95 = .ok (.ireturn, 1) := by decide +kernel
theorem dX0_tryStrike_96 : decode cX0_tryStrike 96 = .ok (.aload_n 0, 1) := by decide +kernel
theorem dX0_tryStrike_97 : decode cX0_tryStrike 97 = .ok (.iload_n 2, 1) := by decide +kernel
theorem dX0_tryStrike_98 : decode cX0_tryStrike 98 = .ok (.iload_n 3, 1) := by decide +kernel
theorem dX0_tryStrike_99 : decode cX0_tryStrike 99 = .ok (.invokevirtual 117, 3) := by decide +kernel
theorem dX0_tryStrike_102 : decode cX0_tryStrike 102 = .ok (.aload_n 0, 1) := by decide +kernel
theorem dX0_tryStrike_103 : decode cX0_tryStrike 103 = .ok (.getfield 27, 3) := by decide +kernel
theorem dX0_tryStrike_106 : decode cX0_tryStrike 106 = .ok (.invokevirtual 121, 3) := by decide +kernel
theorem dX0_tryStrike_109 : decode cX0_tryStrike 109 = .ok (.aload 5, 2) := by decide +kernel
theorem dX0_tryStrike_111 : decode cX0_tryStrike 111 = .ok (.invokevirtual 105, 3) := by decide +kernel
theorem dX0_tryStrike_114 : decode cX0_tryStrike 114 = .ok (.ifCond .eq 27, 3) := by decide +kernel
theorem dX0_tryStrike_117 : decode cX0_tryStrike 117 = .ok (.aload_n 0, 1) := by decide +kernel
theorem dX0_tryStrike_118 : decode cX0_tryStrike 118 = .ok (.getfield 27, 3) := by decide +kernel
theorem dX0_tryStrike_121 : decode cX0_tryStrike 121 = .ok (.iload_n 1, 1) := by decide +kernel
theorem dX0_tryStrike_122 : decode cX0_tryStrike 122 = .ok (.iload_n 2, 1) := by decide +kernel
theorem dX0_tryStrike_123 : decode cX0_tryStrike 123 = .ok (.iload_n 3, 1) := by decide +kernel
theorem dX0_tryStrike_124 : decode cX0_tryStrike 124 = .ok (.aload_n 0, 1) := by decide +kernel
theorem dX0_tryStrike_125 : decode cX0_tryStrike 125 = .ok (.getfield 56, 3) := by decide +kernel
theorem dX0_tryStrike_128 : decode cX0_tryStrike 128 = .ok (.aload_n 0, 1) := by decide +kernel
theorem dX0_tryStrike_129 : decode cX0_tryStrike 129 = .ok (.getfield 12, 3) := by decide +kernel
theorem dX0_tryStrike_132 : decode cX0_tryStrike 132 = .ok (.getfield 124, 3) := by decide +kernel
theorem dX0_tryStrike_135 : decode cX0_tryStrike 135 = .ok (.iadd, 1) := by decide +kernel
theorem dX0_tryStrike_136 : decode cX0_tryStrike 136 = .ok (.iconst 1, 1) := by decide +kernel
theorem dX0_tryStrike_137 : decode cX0_tryStrike 137 = .ok (.iadd, 1) := by decide +kernel
theorem dX0_tryStrike_138 : decode cX0_tryStrike 138 = .ok (.invokevirtual 127, 3) := by decide +kernel
theorem dX0_tryStrike_141 : decode cX0_tryStrike 141 = .ok (.iconst 0, 1) := by decide +kernel
theorem dX0_tryStrike_142 : decode cX0_tryStrike 142 = .ok (.ireturn, 1) := by decide +kernel
noncomputable def b_X0_tryStrike (a0 : Nat) (x1 : Int32) (x2 : Int32) (x3 : Int32) (M : Me) : Option (Int32 × Me) :=
  cR (f_X0_knightAt a0 x1 M) fun o1 =>
  cR (f_X0_knightAt a0 x2 M) fun o2 =>
  cP (f_X4_isAlive o1 M) fun v3 =>
  if v3 = 0 then (
    some ((1 : Int32), M)
  ) else (
    cP (f_X4_isAlive o2 M) fun v4 =>
    if v4 = 0 then (
      some ((1 : Int32), M)
    ) else (
      if x1 = x2 then (
        some ((1 : Int32), M)
      ) else (
        gi M o1 4 6 fun v5 =>
        if 0 < v5 then (
          some ((2 : Int32), M)
        ) else (
          gi M o2 4 6 fun v6 =>
          if v6 ≤ 0 then (
            gi M o1 4 5 fun v7 =>
            gi M o2 4 5 fun v8 =>
            if v7 = v8 then (
              gi M o1 4 2 fun v9 =>
              if x3 ≤ v9 then (
                gr M a0 0 2 fun o10 =>
                gi M o10 2 0 fun v11 =>
                if v11 < (12 : Int32) then (
                  cM (f_X0_wound a0 x2 x3 M) fun M12 =>
                  gr M12 a0 0 2 fun o13 =>
                  cM (f_X2_sweep o13 M12) fun M14 =>
                  cP (f_X4_isAlive o2 M14) fun v15 =>
                  (
                    if v15 = 0 then (
                      some M14
                    ) else (
                      gr M14 a0 0 2 fun o16 =>
                      gi M14 a0 0 5 fun v17 =>
                      gr M14 a0 0 0 fun o18 =>
                      gi M14 o18 5 1 fun v19 =>
                      cM (f_X2_add o16 x1 x2 x3 ((v17 + v19) + (1 : Int32)) M14) fun M20 =>
                      some M20
                    )
                  ).bind fun M21 =>
                  some ((0 : Int32), M21)
                ) else (
                  some ((7 : Int32), M)
                )
              ) else (
                some ((4 : Int32), M)
              )
            ) else (
              some ((3 : Int32), M)
            )
          ) else (
            some ((2 : Int32), M)
          )
        )
      )
    )
  )
noncomputable def f_X0_tryStrike (a0 : Nat) (x1 : Int32) (x2 : Int32) (x3 : Int32) (M : Me) : Option (Int32 × Me) := ck M a0 0 (b_X0_tryStrike a0 x1 x2 x3 M)
set_option maxRecDepth 20000 in
theorem vb_X0_tryStrike (d : Nat) (hd : 2 ≤ d) (a0 : Nat) (x1 : Int32) (x2 : Int32) (x3 : Int32) (M : Me) : V (mX0_tryStrike, d, 0, 0) (0, 0) M 0 [some (.ref a0), some (.int x1), some (.int x2), some (.int x3), none, none] [] (b_X0_tryStrike a0 x1 x2 x3 M) (fun z => some (some (.int z.1), z.2)) := by
  unfold b_X0_tryStrike
  refine v_aload_n (q := 1) dX0_tryStrike_0 rfl rfl rfl ?_
  refine v_iload_n (q := 2) dX0_tryStrike_1 rfl rfl rfl ?_
  refine v_cRV1 (q := 5) (ct_X0_knightAt (d - 1) (by omega) _ _ _) dX0_tryStrike_2 rfl cc_X0_101 (by omega) (Nat.le_of_ble_eq_true rfl) ⟨Nat.le_of_ble_eq_true rfl, Nat.le_of_ble_eq_true rfl⟩ (fun o1 => ?_)
  refine v_astore (q := 7) (loc2 := [some (.ref a0), some (.int x1), some (.int x2), some (.int x3), some (.ref o1), none]) dX0_tryStrike_5 rfl rfl (Nat.le_of_ble_eq_true rfl) rfl ?_
  refine v_aload_n (q := 8) dX0_tryStrike_7 rfl rfl rfl ?_
  refine v_iload_n (q := 9) dX0_tryStrike_8 rfl rfl rfl ?_
  refine v_cRV1 (q := 12) (ct_X0_knightAt (d - 1) (by omega) _ _ _) dX0_tryStrike_9 rfl cc_X0_101 (by omega) (Nat.le_of_ble_eq_true rfl) ⟨Nat.le_of_ble_eq_true rfl, Nat.le_of_ble_eq_true rfl⟩ (fun o2 => ?_)
  refine v_astore (q := 14) (loc2 := [some (.ref a0), some (.int x1), some (.int x2), some (.int x3), some (.ref o1), some (.ref o2)]) dX0_tryStrike_12 rfl rfl (Nat.le_of_ble_eq_true rfl) rfl ?_
  refine v_aload (q := 16) dX0_tryStrike_14 rfl rfl ?_
  refine v_cPV0 (q := 19) (ct_X4_isAlive (d - 1) (by omega) _ _) dX0_tryStrike_16 rfl cc_X0_105 (by omega) (Nat.le_of_ble_eq_true rfl) ⟨Nat.le_of_ble_eq_true rfl, Nat.le_of_ble_eq_true rfl⟩ (fun v3 => ?_)
  refine v_if_eq (tgt := 35) (q := 22) dX0_tryStrike_19 rfl rfl ?_ ?_
  · refine v_iconst (q := 36) dX0_tryStrike_35 rfl ic_1 ?_
    exact v_iret rfl dX0_tryStrike_36 ⟨Nat.le_of_ble_eq_true rfl, Nat.le_of_ble_eq_true rfl⟩ rfl
  · refine v_aload (q := 24) dX0_tryStrike_22 rfl rfl ?_
    refine v_cPV0 (q := 27) (ct_X4_isAlive (d - 1) (by omega) _ _) dX0_tryStrike_24 rfl cc_X0_105 (by omega) (Nat.le_of_ble_eq_true rfl) ⟨Nat.le_of_ble_eq_true rfl, Nat.le_of_ble_eq_true rfl⟩ (fun v4 => ?_)
    refine v_if_eq (tgt := 35) (q := 30) dX0_tryStrike_27 rfl rfl ?_ ?_
    · refine v_iconst (q := 36) dX0_tryStrike_35 rfl ic_1 ?_
      exact v_iret rfl dX0_tryStrike_36 ⟨Nat.le_of_ble_eq_true rfl, Nat.le_of_ble_eq_true rfl⟩ rfl
    · refine v_iload_n (q := 31) dX0_tryStrike_30 rfl rfl rfl ?_
      refine v_iload_n (q := 32) dX0_tryStrike_31 rfl rfl rfl ?_
      refine v_icmp_ne (tgt := 37) (q := 35) dX0_tryStrike_32 rfl rfl ?_ ?_
      · refine v_aload (q := 39) dX0_tryStrike_37 rfl rfl ?_
        refine v_getIb (q := 42) dX0_tryStrike_39 rfl fg_X0_108 (fun v5 => ?_)
        refine v_if_gt (tgt := 53) (q := 45) dX0_tryStrike_42 rfl rfl ?_ ?_
        · refine v_iconst (q := 54) dX0_tryStrike_53 rfl ic_2 ?_
          exact v_iret rfl dX0_tryStrike_54 ⟨Nat.le_of_ble_eq_true rfl, Nat.le_of_ble_eq_true rfl⟩ rfl
        · refine v_aload (q := 47) dX0_tryStrike_45 rfl rfl ?_
          refine v_getIb (q := 50) dX0_tryStrike_47 rfl fg_X0_108 (fun v6 => ?_)
          refine v_if_le (tgt := 55) (q := 53) dX0_tryStrike_50 rfl rfl ?_ ?_
          · refine v_aload (q := 57) dX0_tryStrike_55 rfl rfl ?_
            refine v_getIb (q := 60) dX0_tryStrike_57 rfl fg_X0_111 (fun v7 => ?_)
            refine v_aload (q := 62) dX0_tryStrike_60 rfl rfl ?_
            refine v_getIb (q := 65) dX0_tryStrike_62 rfl fg_X0_111 (fun v8 => ?_)
            refine v_icmp_eq (tgt := 70) (q := 68) dX0_tryStrike_65 rfl rfl ?_ ?_
            · refine v_iload_n (q := 71) dX0_tryStrike_70 rfl rfl rfl ?_
              refine v_aload (q := 73) dX0_tryStrike_71 rfl rfl ?_
              refine v_getIb (q := 76) dX0_tryStrike_73 rfl fg_X0_114 (fun v9 => ?_)
              refine v_icmp_le (tgt := 81) (q := 79) dX0_tryStrike_76 rfl rfl ?_ ?_
              · refine v_aload_n (q := 82) dX0_tryStrike_81 rfl rfl rfl ?_
                refine v_getRb (q := 85) dX0_tryStrike_82 rfl fg_X0_27 (fun o10 => ?_)
                refine v_getIb (q := 88) dX0_tryStrike_85 rfl fg_X0_76 (fun v11 => ?_)
                refine v_bipush (q := 90) dX0_tryStrike_88 rfl bp_12 ?_
                refine v_icmp_lt (tgt := 96) (q := 93) dX0_tryStrike_90 rfl rfl ?_ ?_
                · refine v_aload_n (q := 97) dX0_tryStrike_96 rfl rfl rfl ?_
                  refine v_iload_n (q := 98) dX0_tryStrike_97 rfl rfl rfl ?_
                  refine v_iload_n (q := 99) dX0_tryStrike_98 rfl rfl rfl ?_
                  refine v_cMV2 (q := 102) (ct_X0_wound (d - 1) (by omega) _ _ _ _) dX0_tryStrike_99 rfl cc_X0_117 (by omega) (Nat.le_of_ble_eq_true rfl) ⟨Nat.le_of_ble_eq_true rfl, Nat.le_of_ble_eq_true rfl⟩ (fun M12 => ?_)
                  refine v_aload_n (q := 103) dX0_tryStrike_102 rfl rfl rfl ?_
                  refine v_getRb (q := 106) dX0_tryStrike_103 rfl fg_X0_27 (fun o13 => ?_)
                  refine v_cMV0 (q := 109) (ct_X2_sweep (d - 1) (by omega) _ _) dX0_tryStrike_106 rfl cc_X0_121 (by omega) (Nat.le_of_ble_eq_true rfl) ⟨Nat.le_of_ble_eq_true rfl, Nat.le_of_ble_eq_true rfl⟩ (fun M14 => ?_)
                  refine v_aload (q := 111) dX0_tryStrike_109 rfl rfl ?_
                  refine v_cPV0 (q := 114) (ct_X4_isAlive (d - 1) (by omega) _ _) dX0_tryStrike_111 rfl cc_X0_105 (by omega) (Nat.le_of_ble_eq_true rfl) ⟨Nat.le_of_ble_eq_true rfl, Nat.le_of_ble_eq_true rfl⟩ (fun v15 => ?_)
                  refine v_join (γ := Me) 141 (fun M21 => M21) (fun M21 => [some (.ref a0), some (.int x1), some (.int x2), some (.int x3), some (.ref o1), some (.ref o2)]) (fun M21 => []) (fun K hK => ?_) (fun M21 => ?_)
                  · refine v_if_eq (tgt := 141) (q := 117) dX0_tryStrike_114 rfl rfl ?_ ?_
                    · exact hK M14
                    · refine v_aload_n (q := 118) dX0_tryStrike_117 rfl rfl rfl ?_
                      refine v_getRb (q := 121) dX0_tryStrike_118 rfl fg_X0_27 (fun o16 => ?_)
                      refine v_iload_n (q := 122) dX0_tryStrike_121 rfl rfl rfl ?_
                      refine v_iload_n (q := 123) dX0_tryStrike_122 rfl rfl rfl ?_
                      refine v_iload_n (q := 124) dX0_tryStrike_123 rfl rfl rfl ?_
                      refine v_aload_n (q := 125) dX0_tryStrike_124 rfl rfl rfl ?_
                      refine v_getIb (q := 128) dX0_tryStrike_125 rfl fg_X0_56 (fun v17 => ?_)
                      refine v_aload_n (q := 129) dX0_tryStrike_128 rfl rfl rfl ?_
                      refine v_getRb (q := 132) dX0_tryStrike_129 rfl fg_X0_12 (fun o18 => ?_)
                      refine v_getIb (q := 135) dX0_tryStrike_132 rfl fg_X0_124 (fun v19 => ?_)
                      refine v_iadd (q := 136) dX0_tryStrike_135 rfl ?_
                      refine v_iconst (q := 137) dX0_tryStrike_136 rfl ic_1 ?_
                      refine v_iadd (q := 138) dX0_tryStrike_137 rfl ?_
                      refine v_cMV4 (q := 141) (ct_X2_add (d - 1) (by omega) _ _ _ _ _ _) dX0_tryStrike_138 rfl cc_X0_127 (by omega) (Nat.le_of_ble_eq_true rfl) ⟨Nat.le_of_ble_eq_true rfl, Nat.le_of_ble_eq_true rfl⟩ (fun M20 => ?_)
                      exact hK M20
                  · refine v_iconst (q := 142) dX0_tryStrike_141 rfl ic_0 ?_
                    exact v_iret rfl dX0_tryStrike_142 ⟨Nat.le_of_ble_eq_true rfl, Nat.le_of_ble_eq_true rfl⟩ rfl
                · refine v_bipush (q := 95) dX0_tryStrike_93 rfl bp_7 ?_
                  exact v_iret rfl dX0_tryStrike_95 ⟨Nat.le_of_ble_eq_true rfl, Nat.le_of_ble_eq_true rfl⟩ rfl
              · refine v_iconst (q := 80) dX0_tryStrike_79 rfl ic_4 ?_
                exact v_iret rfl dX0_tryStrike_80 ⟨Nat.le_of_ble_eq_true rfl, Nat.le_of_ble_eq_true rfl⟩ rfl
            · refine v_iconst (q := 69) dX0_tryStrike_68 rfl ic_3 ?_
              exact v_iret rfl dX0_tryStrike_69 ⟨Nat.le_of_ble_eq_true rfl, Nat.le_of_ble_eq_true rfl⟩ rfl
          · refine v_iconst (q := 54) dX0_tryStrike_53 rfl ic_2 ?_
            exact v_iret rfl dX0_tryStrike_54 ⟨Nat.le_of_ble_eq_true rfl, Nat.le_of_ble_eq_true rfl⟩ rfl
      · refine v_iconst (q := 36) dX0_tryStrike_35 rfl ic_1 ?_
        exact v_iret rfl dX0_tryStrike_36 ⟨Nat.le_of_ble_eq_true rfl, Nat.le_of_ble_eq_true rfl⟩ rfl
theorem ct_X0_tryStrike (d : Nat) (hd : 2 ≤ d) (a0 : Nat) (x1 : Int32) (x2 : Int32) (x3 : Int32) (M : Me) (r : Int32) (M2 : Me) (hf : f_X0_tryStrike a0 x1 x2 x3 M = some (r, M2)) : me_k M a0 = some (0, nf_c 0) ∧ Ct yX0_tryStrike mX0_tryStrike d 0 0 [.ref a0, .int x1, .int x2, .int x3] M (some (.int r), M2) := by
  obtain ⟨hk, hb⟩ := ck_some hf
  exact ⟨hk, ct_of (by decide +kernel) rfl rfl (Nat.le_of_ble_eq_true rfl) (vb_X0_tryStrike d hd a0 x1 x2 x3 M) (by rw [hb]; rfl)⟩
theorem dX0_whyNotActing_0 : decode cX0_whyNotActing 0 = .ok (.aload_n 0, 1) := by decide +kernel
theorem dX0_whyNotActing_1 : decode cX0_whyNotActing 1 = .ok (.iload_n 1, 1) := by decide +kernel
theorem dX0_whyNotActing_2 : decode cX0_whyNotActing 2 = .ok (.invokevirtual 101, 3) := by decide +kernel
theorem dX0_whyNotActing_5 : decode cX0_whyNotActing 5 = .ok (.invokevirtual 105, 3) := by decide +kernel
theorem dX0_whyNotActing_8 : decode cX0_whyNotActing 8 = .ok (.ifCond .ne 5, 3) := by decide +kernel
theorem dX0_whyNotActing_11 : decode cX0_whyNotActing 11 = .ok (.iconst 1, 1) := by decide +kernel
theorem dX0_whyNotActing_12 : decode cX0_whyNotActing 12 = .ok (.ireturn, 1) := by decide +kernel
theorem dX0_whyNotActing_13 : decode cX0_whyNotActing 13 = .ok (.aload_n 0, 1) := by decide +kernel
theorem dX0_whyNotActing_14 : decode cX0_whyNotActing 14 = .ok (.iload_n 1, 1) := by decide +kernel
theorem dX0_whyNotActing_15 : decode cX0_whyNotActing 15 = .ok (.invokevirtual 101, 3) := by decide +kernel
theorem dX0_whyNotActing_18 : decode cX0_whyNotActing 18 = .ok (.getfield 108, 3) := by decide +kernel
theorem dX0_whyNotActing_21 : decode cX0_whyNotActing 21 = .ok (.ifCond .le 7, 3) := by decide +kernel
theorem dX0_whyNotActing_24 : decode cX0_whyNotActing 24 = .ok (.iconst 2, 1) := by decide +kernel
theorem dX0_whyNotActing_25 : decode cX0_whyNotActing 25 = .ok (.goto 4, 3) := by decide +kernel
theorem dX0_whyNotActing_28 : decode cX0_whyNotActing 28 = .ok (.iconst 0, 1) := by decide +kernel
theorem dX0_whyNotActing_29 : decode cX0_whyNotActing 29 = .ok (.ireturn, 1) := by decide +kernel
noncomputable def b_X0_whyNotActing (a0 : Nat) (x1 : Int32) (M : Me) : Option (Int32) :=
  cR (f_X0_knightAt a0 x1 M) fun o1 =>
  cP (f_X4_isAlive o1 M) fun v2 =>
  if v2 = 0 then (
    some (1 : Int32)
  ) else (
    cR (f_X0_knightAt a0 x1 M) fun o3 =>
    gi M o3 4 6 fun v4 =>
    (
      if v4 ≤ 0 then (
        some (0 : Int32)
      ) else (
        some (2 : Int32)
      )
    ).bind fun v5 =>
    some v5
  )
noncomputable def f_X0_whyNotActing (a0 : Nat) (x1 : Int32) (M : Me) : Option (Int32) := ck M a0 0 (b_X0_whyNotActing a0 x1 M)
set_option maxRecDepth 20000 in
theorem vb_X0_whyNotActing (d : Nat) (hd : 1 ≤ d) (a0 : Nat) (x1 : Int32) (M : Me) : V (mX0_whyNotActing, d, 0, 0) (0, 0) M 0 [some (.ref a0), some (.int x1)] [] (b_X0_whyNotActing a0 x1 M) (fun z => some (some (.int z), M)) := by
  unfold b_X0_whyNotActing
  refine v_aload_n (q := 1) dX0_whyNotActing_0 rfl rfl rfl ?_
  refine v_iload_n (q := 2) dX0_whyNotActing_1 rfl rfl rfl ?_
  refine v_cRV1 (q := 5) (ct_X0_knightAt (d - 1) (by omega) _ _ _) dX0_whyNotActing_2 rfl cc_X0_101 (by omega) (Nat.le_of_ble_eq_true rfl) ⟨Nat.le_of_ble_eq_true rfl, Nat.le_of_ble_eq_true rfl⟩ (fun o1 => ?_)
  refine v_cPV0 (q := 8) (ct_X4_isAlive (d - 1) (by omega) _ _) dX0_whyNotActing_5 rfl cc_X0_105 (by omega) (Nat.le_of_ble_eq_true rfl) ⟨Nat.le_of_ble_eq_true rfl, Nat.le_of_ble_eq_true rfl⟩ (fun v2 => ?_)
  refine v_if_ne (tgt := 13) (q := 11) dX0_whyNotActing_8 rfl rfl ?_ ?_
  · refine v_aload_n (q := 14) dX0_whyNotActing_13 rfl rfl rfl ?_
    refine v_iload_n (q := 15) dX0_whyNotActing_14 rfl rfl rfl ?_
    refine v_cRV1 (q := 18) (ct_X0_knightAt (d - 1) (by omega) _ _ _) dX0_whyNotActing_15 rfl cc_X0_101 (by omega) (Nat.le_of_ble_eq_true rfl) ⟨Nat.le_of_ble_eq_true rfl, Nat.le_of_ble_eq_true rfl⟩ (fun o3 => ?_)
    refine v_getIb (q := 21) dX0_whyNotActing_18 rfl fg_X0_108 (fun v4 => ?_)
    refine v_join (γ := Int32) 29 (fun v5 => M) (fun v5 => [some (.ref a0), some (.int x1)]) (fun v5 => [.int v5]) (fun K hK => ?_) (fun v5 => ?_)
    · refine v_if_le (tgt := 28) (q := 24) dX0_whyNotActing_21 rfl rfl ?_ ?_
      · refine v_iconst (q := 29) dX0_whyNotActing_28 rfl ic_0 ?_
        exact hK (0 : Int32)
      · refine v_iconst (q := 25) dX0_whyNotActing_24 rfl ic_2 ?_
        refine v_goto (tgt := 29) dX0_whyNotActing_25 rfl ?_
        exact hK (2 : Int32)
    · exact v_iret rfl dX0_whyNotActing_29 ⟨Nat.le_of_ble_eq_true rfl, Nat.le_of_ble_eq_true rfl⟩ rfl
  · refine v_iconst (q := 12) dX0_whyNotActing_11 rfl ic_1 ?_
    exact v_iret rfl dX0_whyNotActing_12 ⟨Nat.le_of_ble_eq_true rfl, Nat.le_of_ble_eq_true rfl⟩ rfl
theorem ct_X0_whyNotActing (d : Nat) (hd : 1 ≤ d) (a0 : Nat) (x1 : Int32) (M : Me) (r : Int32) (hf : f_X0_whyNotActing a0 x1 M = some r) : me_k M a0 = some (0, nf_c 0) ∧ Ct yX0_whyNotActing mX0_whyNotActing d 0 0 [.ref a0, .int x1] M (some (.int r), M) := by
  obtain ⟨hk, hb⟩ := ck_some hf
  exact ⟨hk, ct_of (by decide +kernel) rfl rfl (Nat.le_of_ble_eq_true rfl) (vb_X0_whyNotActing d hd a0 x1 M) (by rw [hb]; rfl)⟩
theorem dX5_roadDays_0 : decode cX5_roadDays 0 = .ok (.iload_n 1, 1) := by decide +kernel
theorem dX5_roadDays_1 : decode cX5_roadDays 1 = .ok (.iconst 5, 1) := by decide +kernel
theorem dX5_roadDays_2 : decode cX5_roadDays 2 = .ok (.imul, 1) := by decide +kernel
theorem dX5_roadDays_3 : decode cX5_roadDays 3 = .ok (.iload_n 2, 1) := by decide +kernel
theorem dX5_roadDays_4 : decode cX5_roadDays 4 = .ok (.iadd, 1) := by decide +kernel
theorem dX5_roadDays_5 : decode cX5_roadDays 5 = .ok (.istore_n 3, 1) := by decide +kernel
theorem dX5_roadDays_6 : decode cX5_roadDays 6 = .ok (.iload_n 3, 1) := by decide +kernel
theorem dX5_roadDays_7 : decode cX5_roadDays 7 = .ok (.ifCond .lt 21, 3) := by decide +kernel
theorem dX5_roadDays_10 : decode cX5_roadDays 10 = .ok (.iload_n 3, 1) := by decide +kernel
theorem dX5_roadDays_11 : decode cX5_roadDays 11 = .ok (.aload_n 0, 1) := by decide +kernel
theorem dX5_roadDays_12 : decode cX5_roadDays 12 = .ok (.getfield 18, 3) := by decide +kernel
theorem dX5_roadDays_15 : decode cX5_roadDays 15 = .ok (.arraylength, 1) := by decide +kernel
theorem dX5_roadDays_16 : decode cX5_roadDays 16 = .ok (.if_icmp .ge 12, 3) := by decide +kernel
theorem dX5_roadDays_19 : decode cX5_roadDays 19 = .ok (.aload_n 0, 1) := by decide +kernel
theorem dX5_roadDays_20 : decode cX5_roadDays 20 = .ok (.getfield 18, 3) := by decide +kernel
theorem dX5_roadDays_23 : decode cX5_roadDays 23 = .ok (.iload_n 3, 1) := by decide +kernel
theorem dX5_roadDays_24 : decode cX5_roadDays 24 = .ok (.iaload, 1) := by decide +kernel
theorem dX5_roadDays_25 : decode cX5_roadDays 25 = .ok (.goto 4, 3) := by decide +kernel
theorem dX5_roadDays_28 : decode cX5_roadDays 28 = .ok (.iconst 0, 1) := by decide +kernel
theorem dX5_roadDays_29 : decode cX5_roadDays 29 = .ok (.ireturn, 1) := by decide +kernel
noncomputable def b_X5_roadDays (a0 : Nat) (x1 : Int32) (x2 : Int32) (M : Me) : Option (Int32) :=
  let_v (((x1 * (5 : Int32)) + x2)) fun v1 =>
  (
    if v1 < 0 then (
      some (0 : Int32)
    ) else (
      gr M a0 5 2 fun o2 =>
      al M o2 20 fun v3 =>
      if v3 ≤ v1 then (
        some (0 : Int32)
      ) else (
        gr M a0 5 2 fun o4 =>
        li M o4 v1 fun v5 =>
        some v5
      )
    )
  ).bind fun v6 =>
  some v6
noncomputable def f_X5_roadDays (a0 : Nat) (x1 : Int32) (x2 : Int32) (M : Me) : Option (Int32) := ck M a0 5 (b_X5_roadDays a0 x1 x2 M)
set_option maxRecDepth 20000 in
theorem vb_X5_roadDays (d : Nat) (hd : 0 ≤ d) (a0 : Nat) (x1 : Int32) (x2 : Int32) (M : Me) : V (mX5_roadDays, d, 0, 0) (0, 0) M 0 [some (.ref a0), some (.int x1), some (.int x2), none] [] (b_X5_roadDays a0 x1 x2 M) (fun z => some (some (.int z), M)) := by
  unfold b_X5_roadDays
  refine v_iload_n (q := 1) dX5_roadDays_0 rfl rfl rfl ?_
  refine v_iconst (q := 2) dX5_roadDays_1 rfl ic_5 ?_
  refine v_imul (q := 3) dX5_roadDays_2 rfl ?_
  refine v_iload_n (q := 4) dX5_roadDays_3 rfl rfl rfl ?_
  refine v_iadd (q := 5) dX5_roadDays_4 rfl ?_
  refine v_letI (fun v1 => ?_)
  refine v_istore_n (q := 6) (loc2 := [some (.ref a0), some (.int x1), some (.int x2), some (.int v1)]) dX5_roadDays_5 rfl rfl rfl (Nat.le_of_ble_eq_true rfl) rfl ?_
  refine v_iload_n (q := 7) dX5_roadDays_6 rfl rfl rfl ?_
  refine v_join (γ := Int32) 29 (fun v6 => M) (fun v6 => [some (.ref a0), some (.int x1), some (.int x2), some (.int v1)]) (fun v6 => [.int v6]) (fun K hK => ?_) (fun v6 => ?_)
  · refine v_if_lt (tgt := 28) (q := 10) dX5_roadDays_7 rfl rfl ?_ ?_
    · refine v_iconst (q := 29) dX5_roadDays_28 rfl ic_0 ?_
      exact hK (0 : Int32)
    · refine v_iload_n (q := 11) dX5_roadDays_10 rfl rfl rfl ?_
      refine v_aload_n (q := 12) dX5_roadDays_11 rfl rfl rfl ?_
      refine v_getRb (q := 15) dX5_roadDays_12 rfl fg_X5_18 (fun o2 => ?_)
      refine v_alen (q := 16) (t0 := 0) dX5_roadDays_15 rfl (Nat.le_of_ble_eq_true rfl) (fun _ => rfl) (fun v3 => ?_)
      refine v_icmp_ge (tgt := 28) (q := 19) dX5_roadDays_16 rfl rfl ?_ ?_
      · refine v_iconst (q := 29) dX5_roadDays_28 rfl ic_0 ?_
        exact hK (0 : Int32)
      · refine v_aload_n (q := 20) dX5_roadDays_19 rfl rfl rfl ?_
        refine v_getRb (q := 23) dX5_roadDays_20 rfl fg_X5_18 (fun o4 => ?_)
        refine v_iload_n (q := 24) dX5_roadDays_23 rfl rfl rfl ?_
        refine v_iaload (q := 25) dX5_roadDays_24 rfl (fun v5 => ?_)
        refine v_goto (tgt := 29) dX5_roadDays_25 rfl ?_
        exact hK v5
  · exact v_iret rfl dX5_roadDays_29 ⟨Nat.le_of_ble_eq_true rfl, Nat.le_of_ble_eq_true rfl⟩ rfl
theorem ct_X5_roadDays (d : Nat) (hd : 0 ≤ d) (a0 : Nat) (x1 : Int32) (x2 : Int32) (M : Me) (r : Int32) (hf : f_X5_roadDays a0 x1 x2 M = some r) : me_k M a0 = some (5, nf_c 5) ∧ Ct yX5_roadDays mX5_roadDays d 0 0 [.ref a0, .int x1, .int x2] M (some (.int r), M) := by
  obtain ⟨hk, hb⟩ := ck_some hf
  exact ⟨hk, ct_of (by decide +kernel) rfl rfl (Nat.le_of_ble_eq_true rfl) (vb_X5_roadDays d hd a0 x1 x2 M) (by rw [hb]; rfl)⟩
theorem dX11_leftOver_0 : decode cX11_leftOver 0 = .ok (.iload_n 1, 1) := by decide +kernel
theorem dX11_leftOver_1 : decode cX11_leftOver 1 = .ok (.ifCond .le 9, 3) := by decide +kernel
theorem dX11_leftOver_4 : decode cX11_leftOver 4 = .ok (.iload_n 0, 1) := by decide +kernel
theorem dX11_leftOver_5 : decode cX11_leftOver 5 = .ok (.iload_n 1, 1) := by decide +kernel
theorem dX11_leftOver_6 : decode cX11_leftOver 6 = .ok (.irem, 1) := by decide +kernel
theorem dX11_leftOver_7 : decode cX11_leftOver 7 = .ok (.goto 4, 3) := by decide +kernel
theorem dX11_leftOver_10 : decode cX11_leftOver 10 = .ok (.iconst 0, 1) := by decide +kernel
theorem dX11_leftOver_11 : decode cX11_leftOver 11 = .ok (.ireturn, 1) := by decide +kernel
noncomputable def b_X11_leftOver (x0 : Int32) (x1 : Int32) (M : Me) : Option (Int32) :=
  (
    if x1 ≤ 0 then (
      some (0 : Int32)
    ) else (
      if x1 = 0 then none else
      some (x0 - x0 / x1 * x1)
    )
  ).bind fun v1 =>
  some v1
noncomputable def f_X11_leftOver (x0 : Int32) (x1 : Int32) (M : Me) : Option (Int32) := b_X11_leftOver x0 x1 M
set_option maxRecDepth 20000 in
theorem vb_X11_leftOver (d : Nat) (hd : 0 ≤ d) (x0 : Int32) (x1 : Int32) (M : Me) : V (mX11_leftOver, d, 0, 0) (0, 0) M 0 [some (.int x0), some (.int x1)] [] (b_X11_leftOver x0 x1 M) (fun z => some (some (.int z), M)) := by
  unfold b_X11_leftOver
  refine v_iload_n (q := 1) dX11_leftOver_0 rfl rfl rfl ?_
  refine v_join (γ := Int32) 11 (fun v1 => M) (fun v1 => [some (.int x0), some (.int x1)]) (fun v1 => [.int v1]) (fun K hK => ?_) (fun v1 => ?_)
  · refine v_if_le (tgt := 10) (q := 4) dX11_leftOver_1 rfl rfl ?_ ?_
    · refine v_iconst (q := 11) dX11_leftOver_10 rfl ic_0 ?_
      exact hK (0 : Int32)
    · refine v_iload_n (q := 5) dX11_leftOver_4 rfl rfl rfl ?_
      refine v_iload_n (q := 6) dX11_leftOver_5 rfl rfl rfl ?_
      refine v_irem (q := 7) dX11_leftOver_6 rfl ?_
      refine v_goto (tgt := 11) dX11_leftOver_7 rfl ?_
      exact hK (x0 - x0 / x1 * x1)
  · exact v_iret rfl dX11_leftOver_11 ⟨Nat.le_of_ble_eq_true rfl, Nat.le_of_ble_eq_true rfl⟩ rfl
theorem ct_X11_leftOver (d : Nat) (hd : 0 ≤ d) (x0 : Int32) (x1 : Int32) (M : Me) (r : Int32) (hf : f_X11_leftOver x0 x1 M = some r) : Ct yX11_leftOver mX11_leftOver d 0 0 [.int x0, .int x1] M (some (.int r), M) := by
  have hb : b_X11_leftOver x0 x1 M = some r := hf
  exact ct_of (by decide +kernel) rfl rfl (Nat.le_of_ble_eq_true rfl) (vb_X11_leftOver d hd x0 x1 M) (by rw [hb]; rfl)
theorem dX5_isWinter_0 : decode cX5_isWinter 0 = .ok (.iload_n 1, 1) := by decide +kernel
theorem dX5_isWinter_1 : decode cX5_isWinter 1 = .ok (.aload_n 0, 1) := by decide +kernel
theorem dX5_isWinter_2 : decode cX5_isWinter 2 = .ok (.getfield 15, 3) := by decide +kernel
theorem dX5_isWinter_5 : decode cX5_isWinter 5 = .ok (.invokestatic 32, 3) := by decide +kernel
theorem dX5_isWinter_8 : decode cX5_isWinter 8 = .ok (.bipush 90, 2) := by decide +kernel
theorem dX5_isWinter_10 : decode cX5_isWinter 10 = .ok (.if_icmp .ge 7, 3) := by decide +kernel
theorem dX5_isWinter_13 : decode cX5_isWinter 13 = .ok (.iconst 1, 1) := by decide +kernel
theorem dX5_isWinter_14 : decode cX5_isWinter 14 = .ok (.goto 4, 3) := by decide +kernel
theorem dX5_isWinter_17 : decode cX5_isWinter 17 = .ok (.iconst 0, 1) := by decide +kernel
theorem dX5_isWinter_18 : decode cX5_isWinter 18 = .ok (.ireturn, 1) := by decide +kernel
noncomputable def b_X5_isWinter (a0 : Nat) (x1 : Int32) (M : Me) : Option (Int32) :=
  gi M a0 5 1 fun v1 =>
  cP (f_X11_leftOver x1 v1 M) fun v2 =>
  (
    if (90 : Int32) ≤ v2 then (
      some (0 : Int32)
    ) else (
      some (1 : Int32)
    )
  ).bind fun v3 =>
  if v3 = 0 ∨ v3 = 1 then some v3 else none
noncomputable def f_X5_isWinter (a0 : Nat) (x1 : Int32) (M : Me) : Option (Int32) := ck M a0 5 (b_X5_isWinter a0 x1 M)
set_option maxRecDepth 20000 in
theorem vb_X5_isWinter (d : Nat) (hd : 1 ≤ d) (a0 : Nat) (x1 : Int32) (M : Me) : V (mX5_isWinter, d, 0, 0) (0, 0) M 0 [some (.ref a0), some (.int x1)] [] (b_X5_isWinter a0 x1 M) (fun z => some (some (.int z), M)) := by
  unfold b_X5_isWinter
  refine v_iload_n (q := 1) dX5_isWinter_0 rfl rfl rfl ?_
  refine v_aload_n (q := 2) dX5_isWinter_1 rfl rfl rfl ?_
  refine v_getIb (q := 5) dX5_isWinter_2 rfl fg_X5_15 (fun v1 => ?_)
  refine v_cPS2 (q := 8) (ct_X11_leftOver (d - 1) (by omega) _ _ _) dX5_isWinter_5 rfl cc_X5_32 (by omega) (Nat.le_of_ble_eq_true rfl) ⟨Nat.le_of_ble_eq_true rfl, Nat.le_of_ble_eq_true rfl⟩ (fun v2 => ?_)
  refine v_bipush (q := 10) dX5_isWinter_8 rfl bp_90 ?_
  refine v_join (γ := Int32) 18 (fun v3 => M) (fun v3 => [some (.ref a0), some (.int x1)]) (fun v3 => [.int v3]) (fun K hK => ?_) (fun v3 => ?_)
  · refine v_icmp_ge (tgt := 17) (q := 13) dX5_isWinter_10 rfl rfl ?_ ?_
    · refine v_iconst (q := 18) dX5_isWinter_17 rfl ic_0 ?_
      exact hK (0 : Int32)
    · refine v_iconst (q := 14) dX5_isWinter_13 rfl ic_1 ?_
      refine v_goto (tgt := 18) dX5_isWinter_14 rfl ?_
      exact hK (1 : Int32)
  · exact v_zretC rfl dX5_isWinter_18 ⟨Nat.le_of_ble_eq_true rfl, Nat.le_of_ble_eq_true rfl⟩ rfl
theorem ct_X5_isWinter (d : Nat) (hd : 1 ≤ d) (a0 : Nat) (x1 : Int32) (M : Me) (r : Int32) (hf : f_X5_isWinter a0 x1 M = some r) : me_k M a0 = some (5, nf_c 5) ∧ Ct yX5_isWinter mX5_isWinter d 0 0 [.ref a0, .int x1] M (some (.int r), M) := by
  obtain ⟨hk, hb⟩ := ck_some hf
  exact ⟨hk, ct_of (by decide +kernel) rfl rfl (Nat.le_of_ble_eq_true rfl) (vb_X5_isWinter d hd a0 x1 M) (by rw [hb]; rfl)⟩
theorem dX5_daysUnderWay_0 : decode cX5_daysUnderWay 0 = .ok (.aload_n 0, 1) := by decide +kernel
theorem dX5_daysUnderWay_1 : decode cX5_daysUnderWay 1 = .ok (.iload_n 1, 1) := by decide +kernel
theorem dX5_daysUnderWay_2 : decode cX5_daysUnderWay 2 = .ok (.iload_n 2, 1) := by decide +kernel
theorem dX5_daysUnderWay_3 : decode cX5_daysUnderWay 3 = .ok (.invokevirtual 36, 3) := by decide +kernel
theorem dX5_daysUnderWay_6 : decode cX5_daysUnderWay 6 = .ok (.istore 4, 2) := by decide +kernel
theorem dX5_daysUnderWay_8 : decode cX5_daysUnderWay 8 = .ok (.aload_n 0, 1) := by decide +kernel
theorem dX5_daysUnderWay_9 : decode cX5_daysUnderWay 9 = .ok (.iload_n 3, 1) := by decide +kernel
theorem dX5_daysUnderWay_10 : decode cX5_daysUnderWay 10 = .ok (.invokevirtual 39, 3) := by decide +kernel
theorem dX5_daysUnderWay_13 : decode cX5_daysUnderWay 13 = .ok (.ifCond .eq 10, 3) := by decide +kernel
theorem dX5_daysUnderWay_16 : decode cX5_daysUnderWay 16 = .ok (.iconst 2, 1) := by decide +kernel
theorem dX5_daysUnderWay_17 : decode cX5_daysUnderWay 17 = .ok (.iload 4, 2) := by decide +kernel
theorem dX5_daysUnderWay_19 : decode cX5_daysUnderWay 19 = .ok (.imul, 1) := by decide +kernel
theorem dX5_daysUnderWay_20 : decode cX5_daysUnderWay 20 = .ok (.goto 5, 3) := by decide +kernel
theorem dX5_daysUnderWay_23 : decode cX5_daysUnderWay 23 = .ok (.iload 4, 2) := by decide +kernel
theorem dX5_daysUnderWay_25 : decode cX5_daysUnderWay 25 = .ok (.ireturn, 1) := by decide +kernel
noncomputable def b_X5_daysUnderWay (a0 : Nat) (x1 : Int32) (x2 : Int32) (x3 : Int32) (M : Me) : Option (Int32) :=
  cP (f_X5_roadDays a0 x1 x2 M) fun v1 =>
  cP (f_X5_isWinter a0 x3 M) fun v2 =>
  (
    if v2 = 0 then (
      some v1
    ) else (
      some ((2 : Int32) * v1)
    )
  ).bind fun v3 =>
  some v3
noncomputable def f_X5_daysUnderWay (a0 : Nat) (x1 : Int32) (x2 : Int32) (x3 : Int32) (M : Me) : Option (Int32) := ck M a0 5 (b_X5_daysUnderWay a0 x1 x2 x3 M)
set_option maxRecDepth 20000 in
theorem vb_X5_daysUnderWay (d : Nat) (hd : 2 ≤ d) (a0 : Nat) (x1 : Int32) (x2 : Int32) (x3 : Int32) (M : Me) : V (mX5_daysUnderWay, d, 0, 0) (0, 0) M 0 [some (.ref a0), some (.int x1), some (.int x2), some (.int x3), none] [] (b_X5_daysUnderWay a0 x1 x2 x3 M) (fun z => some (some (.int z), M)) := by
  unfold b_X5_daysUnderWay
  refine v_aload_n (q := 1) dX5_daysUnderWay_0 rfl rfl rfl ?_
  refine v_iload_n (q := 2) dX5_daysUnderWay_1 rfl rfl rfl ?_
  refine v_iload_n (q := 3) dX5_daysUnderWay_2 rfl rfl rfl ?_
  refine v_cPV2 (q := 6) (ct_X5_roadDays (d - 1) (by omega) _ _ _ _) dX5_daysUnderWay_3 rfl cc_X5_36 (by omega) (Nat.le_of_ble_eq_true rfl) ⟨Nat.le_of_ble_eq_true rfl, Nat.le_of_ble_eq_true rfl⟩ (fun v1 => ?_)
  refine v_istore (q := 8) (loc2 := [some (.ref a0), some (.int x1), some (.int x2), some (.int x3), some (.int v1)]) dX5_daysUnderWay_6 rfl rfl (Nat.le_of_ble_eq_true rfl) rfl ?_
  refine v_aload_n (q := 9) dX5_daysUnderWay_8 rfl rfl rfl ?_
  refine v_iload_n (q := 10) dX5_daysUnderWay_9 rfl rfl rfl ?_
  refine v_cPV1 (q := 13) (ct_X5_isWinter (d - 1) (by omega) _ _ _) dX5_daysUnderWay_10 rfl cc_X5_39 (by omega) (Nat.le_of_ble_eq_true rfl) ⟨Nat.le_of_ble_eq_true rfl, Nat.le_of_ble_eq_true rfl⟩ (fun v2 => ?_)
  refine v_join (γ := Int32) 25 (fun v3 => M) (fun v3 => [some (.ref a0), some (.int x1), some (.int x2), some (.int x3), some (.int v1)]) (fun v3 => [.int v3]) (fun K hK => ?_) (fun v3 => ?_)
  · refine v_if_eq (tgt := 23) (q := 16) dX5_daysUnderWay_13 rfl rfl ?_ ?_
    · refine v_iload (q := 25) dX5_daysUnderWay_23 rfl rfl ?_
      exact hK v1
    · refine v_iconst (q := 17) dX5_daysUnderWay_16 rfl ic_2 ?_
      refine v_iload (q := 19) dX5_daysUnderWay_17 rfl rfl ?_
      refine v_imul (q := 20) dX5_daysUnderWay_19 rfl ?_
      refine v_goto (tgt := 25) dX5_daysUnderWay_20 rfl ?_
      exact hK ((2 : Int32) * v1)
  · exact v_iret rfl dX5_daysUnderWay_25 ⟨Nat.le_of_ble_eq_true rfl, Nat.le_of_ble_eq_true rfl⟩ rfl
theorem ct_X5_daysUnderWay (d : Nat) (hd : 2 ≤ d) (a0 : Nat) (x1 : Int32) (x2 : Int32) (x3 : Int32) (M : Me) (r : Int32) (hf : f_X5_daysUnderWay a0 x1 x2 x3 M = some r) : me_k M a0 = some (5, nf_c 5) ∧ Ct yX5_daysUnderWay mX5_daysUnderWay d 0 0 [.ref a0, .int x1, .int x2, .int x3] M (some (.int r), M) := by
  obtain ⟨hk, hb⟩ := ck_some hf
  exact ⟨hk, ct_of (by decide +kernel) rfl rfl (Nat.le_of_ble_eq_true rfl) (vb_X5_daysUnderWay d hd a0 x1 x2 x3 M) (by rw [hb]; rfl)⟩
theorem dX0_trySetOut_0 : decode cX0_trySetOut 0 = .ok (.aload_n 0, 1) := by decide +kernel
theorem dX0_trySetOut_1 : decode cX0_trySetOut 1 = .ok (.iload_n 1, 1) := by decide +kernel
theorem dX0_trySetOut_2 : decode cX0_trySetOut 2 = .ok (.invokevirtual 131, 3) := by decide +kernel
theorem dX0_trySetOut_5 : decode cX0_trySetOut 5 = .ok (.istore_n 3, 1) := by decide +kernel
theorem dX0_trySetOut_6 : decode cX0_trySetOut 6 = .ok (.iload_n 3, 1) := by decide +kernel
theorem dX0_trySetOut_7 : decode cX0_trySetOut 7 = .ok (.ifCond .eq 5, 3) := by decide +kernel
theorem dX0_trySetOut_10 : decode cX0_trySetOut 10 = .ok (.iload_n 3, 1) := by decide +kernel
theorem dX0_trySetOut_11 : decode cX0_trySetOut 11 = .ok (.ireturn, 1) := by decide +kernel
theorem dX0_trySetOut_12 : decode cX0_trySetOut 12 = .ok (.aload_n 0, 1) := by decide +kernel
theorem dX0_trySetOut_13 : decode cX0_trySetOut 13 = .ok (.iload_n 1, 1) := by decide +kernel
theorem dX0_trySetOut_14 : decode cX0_trySetOut 14 = .ok (.invokevirtual 101, 3) := by decide +kernel
theorem dX0_trySetOut_17 : decode cX0_trySetOut 17 = .ok (.astore 4, 2) := by decide +kernel
theorem dX0_trySetOut_19 : decode cX0_trySetOut 19 = .ok (.aload_n 0, 1) := by decide +kernel
theorem dX0_trySetOut_20 : decode cX0_trySetOut 20 = .ok (.getfield 12, 3) := by decide +kernel
theorem dX0_trySetOut_23 : decode cX0_trySetOut 23 = .ok (.aload 4, 2) := by decide +kernel
theorem dX0_trySetOut_25 : decode cX0_trySetOut 25 = .ok (.getfield 111, 3) := by decide +kernel
theorem dX0_trySetOut_28 : decode cX0_trySetOut 28 = .ok (.iload_n 2, 1) := by decide +kernel
theorem dX0_trySetOut_29 : decode cX0_trySetOut 29 = .ok (.aload_n 0, 1) := by decide +kernel
theorem dX0_trySetOut_30 : decode cX0_trySetOut 30 = .ok (.getfield 56, 3) := by decide +kernel
theorem dX0_trySetOut_33 : decode cX0_trySetOut 33 = .ok (.invokevirtual 134, 3) := by decide +kernel
theorem dX0_trySetOut_36 : decode cX0_trySetOut 36 = .ok (.istore 5, 2) := by decide +kernel
theorem dX0_trySetOut_38 : decode cX0_trySetOut 38 = .ok (.iload 5, 2) := by decide +kernel
theorem dX0_trySetOut_40 : decode cX0_trySetOut 40 = .ok (.ifCond .ne 5, 3) := by decide +kernel
theorem dX0_trySetOut_43 : decode cX0_trySetOut 43 = .ok (.iconst 5, 1) := by decide +kernel
theorem dX0_trySetOut_44 : decode cX0_trySetOut 44 = .ok (.ireturn, 1) := by decide +kernel
theorem dX0_trySetOut_45 : decode cX0_trySetOut 45 = .ok (.aload 4, 2) := by decide +kernel
theorem dX0_trySetOut_47 : decode cX0_trySetOut 47 = .ok (.iload_n 2, 1) := by decide +kernel
theorem dX0_trySetOut_48 : decode cX0_trySetOut 48 = .ok (.putfield 111, 3) := by decide +kernel
theorem dX0_trySetOut_51 : decode cX0_trySetOut 51 = .ok (.aload 4, 2) := by decide +kernel
theorem dX0_trySetOut_53 : decode cX0_trySetOut 53 = .ok (.iload 5, 2) := by decide +kernel
theorem dX0_trySetOut_55 : decode cX0_trySetOut 55 = .ok (.putfield 108, 3) := by decide +kernel
theorem dX0_trySetOut_58 : decode cX0_trySetOut 58 = .ok (.iconst 0, 1) := by decide +kernel
theorem dX0_trySetOut_59 : decode cX0_trySetOut 59 = .ok (.ireturn, 1) := by decide +kernel
noncomputable def b_X0_trySetOut (a0 : Nat) (x1 : Int32) (x2 : Int32) (M : Me) : Option (Int32 × Me) :=
  cP (f_X0_whyNotActing a0 x1 M) fun v1 =>
  if v1 = 0 then (
    cR (f_X0_knightAt a0 x1 M) fun o2 =>
    gr M a0 0 0 fun o3 =>
    gi M o2 4 5 fun v4 =>
    gi M a0 0 5 fun v5 =>
    cP (f_X5_daysUnderWay o3 v4 x2 v5 M) fun v6 =>
    if v6 = 0 then (
      some ((5 : Int32), M)
    ) else (
      pi M o2 4 5 x2 fun M7 =>
      pi M7 o2 4 6 v6 fun M8 =>
      some ((0 : Int32), M8)
    )
  ) else (
    some (v1, M)
  )
noncomputable def f_X0_trySetOut (a0 : Nat) (x1 : Int32) (x2 : Int32) (M : Me) : Option (Int32 × Me) := ck M a0 0 (b_X0_trySetOut a0 x1 x2 M)
set_option maxRecDepth 20000 in
theorem vb_X0_trySetOut (d : Nat) (hd : 3 ≤ d) (a0 : Nat) (x1 : Int32) (x2 : Int32) (M : Me) : V (mX0_trySetOut, d, 0, 0) (0, 0) M 0 [some (.ref a0), some (.int x1), some (.int x2), none, none, none] [] (b_X0_trySetOut a0 x1 x2 M) (fun z => some (some (.int z.1), z.2)) := by
  unfold b_X0_trySetOut
  refine v_aload_n (q := 1) dX0_trySetOut_0 rfl rfl rfl ?_
  refine v_iload_n (q := 2) dX0_trySetOut_1 rfl rfl rfl ?_
  refine v_cPV1 (q := 5) (ct_X0_whyNotActing (d - 1) (by omega) _ _ _) dX0_trySetOut_2 rfl cc_X0_131 (by omega) (Nat.le_of_ble_eq_true rfl) ⟨Nat.le_of_ble_eq_true rfl, Nat.le_of_ble_eq_true rfl⟩ (fun v1 => ?_)
  refine v_istore_n (q := 6) (loc2 := [some (.ref a0), some (.int x1), some (.int x2), some (.int v1), none, none]) dX0_trySetOut_5 rfl rfl rfl (Nat.le_of_ble_eq_true rfl) rfl ?_
  refine v_iload_n (q := 7) dX0_trySetOut_6 rfl rfl rfl ?_
  refine v_if_eq (tgt := 12) (q := 10) dX0_trySetOut_7 rfl rfl ?_ ?_
  · refine v_aload_n (q := 13) dX0_trySetOut_12 rfl rfl rfl ?_
    refine v_iload_n (q := 14) dX0_trySetOut_13 rfl rfl rfl ?_
    refine v_cRV1 (q := 17) (ct_X0_knightAt (d - 1) (by omega) _ _ _) dX0_trySetOut_14 rfl cc_X0_101 (by omega) (Nat.le_of_ble_eq_true rfl) ⟨Nat.le_of_ble_eq_true rfl, Nat.le_of_ble_eq_true rfl⟩ (fun o2 => ?_)
    refine v_astore (q := 19) (loc2 := [some (.ref a0), some (.int x1), some (.int x2), some (.int v1), some (.ref o2), none]) dX0_trySetOut_17 rfl rfl (Nat.le_of_ble_eq_true rfl) rfl ?_
    refine v_aload_n (q := 20) dX0_trySetOut_19 rfl rfl rfl ?_
    refine v_getRb (q := 23) dX0_trySetOut_20 rfl fg_X0_12 (fun o3 => ?_)
    refine v_aload (q := 25) dX0_trySetOut_23 rfl rfl ?_
    refine v_getIb (q := 28) dX0_trySetOut_25 rfl fg_X0_111 (fun v4 => ?_)
    refine v_iload_n (q := 29) dX0_trySetOut_28 rfl rfl rfl ?_
    refine v_aload_n (q := 30) dX0_trySetOut_29 rfl rfl rfl ?_
    refine v_getIb (q := 33) dX0_trySetOut_30 rfl fg_X0_56 (fun v5 => ?_)
    refine v_cPV3 (q := 36) (ct_X5_daysUnderWay (d - 1) (by omega) _ _ _ _ _) dX0_trySetOut_33 rfl cc_X0_134 (by omega) (Nat.le_of_ble_eq_true rfl) ⟨Nat.le_of_ble_eq_true rfl, Nat.le_of_ble_eq_true rfl⟩ (fun v6 => ?_)
    refine v_istore (q := 38) (loc2 := [some (.ref a0), some (.int x1), some (.int x2), some (.int v1), some (.ref o2), some (.int v6)]) dX0_trySetOut_36 rfl rfl (Nat.le_of_ble_eq_true rfl) rfl ?_
    refine v_iload (q := 40) dX0_trySetOut_38 rfl rfl ?_
    refine v_if_ne (tgt := 45) (q := 43) dX0_trySetOut_40 rfl rfl ?_ ?_
    · refine v_aload (q := 47) dX0_trySetOut_45 rfl rfl ?_
      refine v_iload_n (q := 48) dX0_trySetOut_47 rfl rfl rfl ?_
      refine v_putIb (q := 51) dX0_trySetOut_48 rfl fp_X0_111 (fun M7 => ?_)
      refine v_aload (q := 53) dX0_trySetOut_51 rfl rfl ?_
      refine v_iload (q := 55) dX0_trySetOut_53 rfl rfl ?_
      refine v_putIb (q := 58) dX0_trySetOut_55 rfl fp_X0_108 (fun M8 => ?_)
      refine v_iconst (q := 59) dX0_trySetOut_58 rfl ic_0 ?_
      exact v_iret rfl dX0_trySetOut_59 ⟨Nat.le_of_ble_eq_true rfl, Nat.le_of_ble_eq_true rfl⟩ rfl
    · refine v_iconst (q := 44) dX0_trySetOut_43 rfl ic_5 ?_
      exact v_iret rfl dX0_trySetOut_44 ⟨Nat.le_of_ble_eq_true rfl, Nat.le_of_ble_eq_true rfl⟩ rfl
  · refine v_iload_n (q := 11) dX0_trySetOut_10 rfl rfl rfl ?_
    exact v_iret rfl dX0_trySetOut_11 ⟨Nat.le_of_ble_eq_true rfl, Nat.le_of_ble_eq_true rfl⟩ rfl
theorem ct_X0_trySetOut (d : Nat) (hd : 3 ≤ d) (a0 : Nat) (x1 : Int32) (x2 : Int32) (M : Me) (r : Int32) (M2 : Me) (hf : f_X0_trySetOut a0 x1 x2 M = some (r, M2)) : me_k M a0 = some (0, nf_c 0) ∧ Ct yX0_trySetOut mX0_trySetOut d 0 0 [.ref a0, .int x1, .int x2] M (some (.int r), M2) := by
  obtain ⟨hk, hb⟩ := ck_some hf
  exact ⟨hk, ct_of (by decide +kernel) rfl rfl (Nat.le_of_ble_eq_true rfl) (vb_X0_trySetOut d hd a0 x1 x2 M) (by rw [hb]; rfl)⟩
theorem dX2_findDueTo_0 : decode cX2_findDueTo 0 = .ok (.iconst 0, 1) := by decide +kernel
theorem dX2_findDueTo_1 : decode cX2_findDueTo 1 = .ok (.istore_n 3, 1) := by decide +kernel
theorem dX2_findDueTo_2 : decode cX2_findDueTo 2 = .ok (.iload_n 3, 1) := by decide +kernel
theorem dX2_findDueTo_3 : decode cX2_findDueTo 3 = .ok (.bipush 12, 2) := by decide +kernel
theorem dX2_findDueTo_5 : decode cX2_findDueTo 5 = .ok (.if_icmp .ge 57, 3) := by decide +kernel
theorem dX2_findDueTo_8 : decode cX2_findDueTo 8 = .ok (.iload_n 3, 1) := by decide +kernel
theorem dX2_findDueTo_9 : decode cX2_findDueTo 9 = .ok (.aload_n 0, 1) := by decide +kernel
theorem dX2_findDueTo_10 : decode cX2_findDueTo 10 = .ok (.getfield 18, 3) := by decide +kernel
theorem dX2_findDueTo_13 : decode cX2_findDueTo 13 = .ok (.if_icmp .ge 49, 3) := by decide +kernel
theorem dX2_findDueTo_16 : decode cX2_findDueTo 16 = .ok (.aload_n 0, 1) := by decide +kernel
theorem dX2_findDueTo_17 : decode cX2_findDueTo 17 = .ok (.getfield 11, 3) := by decide +kernel
theorem dX2_findDueTo_20 : decode cX2_findDueTo 20 = .ok (.iload_n 3, 1) := by decide +kernel
theorem dX2_findDueTo_21 : decode cX2_findDueTo 21 = .ok (.aaload, 1) := by decide +kernel
theorem dX2_findDueTo_22 : decode cX2_findDueTo 22 = .ok (.getfield 25, 3) := by decide +kernel
theorem dX2_findDueTo_25 : decode cX2_findDueTo 25 = .ok (.iload_n 1, 1) := by decide +kernel
theorem dX2_findDueTo_26 : decode cX2_findDueTo 26 = .ok (.if_icmp .ne 30, 3) := by decide +kernel
theorem dX2_findDueTo_29 : decode cX2_findDueTo 29 = .ok (.aload_n 0, 1) := by decide +kernel
theorem dX2_findDueTo_30 : decode cX2_findDueTo 30 = .ok (.getfield 11, 3) := by decide +kernel
theorem dX2_findDueTo_33 : decode cX2_findDueTo 33 = .ok (.iload_n 3, 1) := by decide +kernel
theorem dX2_findDueTo_34 : decode cX2_findDueTo 34 = .ok (.aaload, 1) := by decide +kernel
theorem dX2_findDueTo_35 : decode cX2_findDueTo 35 = .ok (.getfield 31, 3) := by decide +kernel
theorem dX2_findDueTo_38 : decode cX2_findDueTo 38 = .ok (.iload_n 2, 1) := by decide +kernel
theorem dX2_findDueTo_39 : decode cX2_findDueTo 39 = .ok (.if_icmp .ne 17, 3) := by decide +kernel
theorem dX2_findDueTo_42 : decode cX2_findDueTo 42 = .ok (.aload_n 0, 1) := by decide +kernel
theorem dX2_findDueTo_43 : decode cX2_findDueTo 43 = .ok (.getfield 11, 3) := by decide +kernel
theorem dX2_findDueTo_46 : decode cX2_findDueTo 46 = .ok (.iload_n 3, 1) := by decide +kernel
theorem dX2_findDueTo_47 : decode cX2_findDueTo 47 = .ok (.aaload, 1) := by decide +kernel
theorem dX2_findDueTo_48 : decode cX2_findDueTo 48 = .ok (.getfield 38, 3) := by decide +kernel
theorem dX2_findDueTo_51 : decode cX2_findDueTo 51 = .ok (.ifCond .ne 5, 3) := by decide +kernel
theorem dX2_findDueTo_54 : decode cX2_findDueTo 54 = .ok (.iload_n 3, 1) := by decide +kernel
theorem dX2_findDueTo_55 : decode cX2_findDueTo 55 = .ok (.ireturn, 1) := by decide +kernel
theorem dX2_findDueTo_56 : decode cX2_findDueTo 56 = .ok (.iinc 3 1, 3) := by decide +kernel
theorem dX2_findDueTo_59 : decode cX2_findDueTo 59 = .ok (.goto (-57), 3) := by decide +kernel
theorem dX2_findDueTo_62 : decode cX2_findDueTo 62 = .ok (.bipush (-6), 2) := by decide +kernel
theorem dX2_findDueTo_64 : decode cX2_findDueTo 64 = .ok (.ireturn, 1) := by decide +kernel
noncomputable def s_X2_findDueTo_2 (a0 : Nat) (x1 : Int32) (x2 : Int32) (M : Me) (v1 : Int32) : Option ((Int32) ⊕ ((Int32) ⊕ (Int32))) :=
  if (12 : Int32) ≤ v1 then (
    some (Sum.inr (Sum.inl v1))
  ) else (
    gi M a0 2 0 fun v2 =>
    if v2 ≤ v1 then (
      some (Sum.inr (Sum.inl v1))
    ) else (
      gr M a0 2 1 fun o3 =>
      lr M o3 23 v1 fun o4 =>
      gi M o4 1 1 fun v5 =>
      if v5 = x1 then (
        gr M a0 2 1 fun o7 =>
        lr M o7 23 v1 fun o8 =>
        gi M o8 1 3 fun v9 =>
        if v9 = x2 then (
          gr M a0 2 1 fun o11 =>
          lr M o11 23 v1 fun o12 =>
          gi M o12 1 4 fun v13 =>
          if v13 = 0 then (
            some (Sum.inr (Sum.inr v1))
          ) else (
            let_v (v1 + (1 : Int32)) fun v14 =>
            some (Sum.inl v14)
          )
        ) else (
          let_v (v1 + (1 : Int32)) fun v10 =>
          some (Sum.inl v10)
        )
      ) else (
        let_v (v1 + (1 : Int32)) fun v6 =>
        some (Sum.inl v6)
      )
    )
  )
noncomputable def b_X2_findDueTo (a0 : Nat) (x1 : Int32) (x2 : Int32) (M : Me) : Option (Int32) :=
  ex_r (lp (fun s => s_X2_findDueTo_2 a0 x1 x2 M s) (0 : Int32)) (fun e15 =>
    some (-6 : Int32)
  ) (fun t => some t)
noncomputable def f_X2_findDueTo (a0 : Nat) (x1 : Int32) (x2 : Int32) (M : Me) : Option (Int32) := ck M a0 2 (b_X2_findDueTo a0 x1 x2 M)
set_option maxRecDepth 20000 in
theorem vb_X2_findDueTo (d : Nat) (hd : 0 ≤ d) (a0 : Nat) (x1 : Int32) (x2 : Int32) (M : Me) : V (mX2_findDueTo, d, 0, 0) (0, 0) M 0 [some (.ref a0), some (.int x1), some (.int x2), none] [] (b_X2_findDueTo a0 x1 x2 M) (fun z => some (some (.int z), M)) := by
  unfold b_X2_findDueTo
  refine v_iconst (q := 1) dX2_findDueTo_0 rfl ic_0 ?_
  refine v_istore_n (q := 2) (loc2 := [some (.ref a0), some (.int x1), some (.int x2), some (.int (0 : Int32))]) dX2_findDueTo_1 rfl rfl rfl (Nat.le_of_ble_eq_true rfl) rfl ?_
  refine v_lpr (S := Int32) 62 (fun s => M) (fun s => [some (.ref a0), some (.int x1), some (.int x2), some (.int s)]) (fun e15 => M) (fun e15 => [some (.ref a0), some (.int x1), some (.int x2), some (.int e15)]) (fun e15 => ?_) (fun k K hk hx s => ?_)
  · refine v_bipush (q := 64) dX2_findDueTo_62 rfl bp_m6 ?_
    exact v_iret rfl dX2_findDueTo_64 ⟨Nat.le_of_ble_eq_true rfl, Nat.le_of_ble_eq_true rfl⟩ rfl
  · obtain ⟨v1, rfl⟩ : ∃ z, z = s := ⟨_, rfl⟩
    show V _ _ M 2 [some (.ref a0), some (.int x1), some (.int x2), some (.int v1)] [] (s_X2_findDueTo_2 a0 x1 x2 M v1) _
    unfold s_X2_findDueTo_2
    refine v_iload_n (q := 3) dX2_findDueTo_2 rfl rfl rfl ?_
    refine v_bipush (q := 5) dX2_findDueTo_3 rfl bp_12 ?_
    refine v_icmp_ge (tgt := 62) (q := 8) dX2_findDueTo_5 rfl rfl ?_ ?_
    · exact v_inr (v_sml (hx v1))
    · refine v_iload_n (q := 9) dX2_findDueTo_8 rfl rfl rfl ?_
      refine v_aload_n (q := 10) dX2_findDueTo_9 rfl rfl rfl ?_
      refine v_getIb (q := 13) dX2_findDueTo_10 rfl fg_X2_18 (fun v2 => ?_)
      refine v_icmp_ge (tgt := 62) (q := 16) dX2_findDueTo_13 rfl rfl ?_ ?_
      · exact v_inr (v_sml (hx v1))
      · refine v_aload_n (q := 17) dX2_findDueTo_16 rfl rfl rfl ?_
        refine v_getRb (q := 20) dX2_findDueTo_17 rfl fg_X2_11 (fun o3 => ?_)
        refine v_iload_n (q := 21) dX2_findDueTo_20 rfl rfl rfl ?_
        refine v_aaload (q := 22) (t0 := 3) dX2_findDueTo_21 rfl (Nat.le_of_ble_eq_true rfl) (fun _ => rfl) (fun o4 => ?_)
        refine v_getIb (q := 25) dX2_findDueTo_22 rfl fg_X2_25 (fun v5 => ?_)
        refine v_iload_n (q := 26) dX2_findDueTo_25 rfl rfl rfl ?_
        refine v_icmp_ne (tgt := 56) (q := 29) dX2_findDueTo_26 rfl rfl ?_ ?_
        · refine v_iincL (q := 59) (x := v1) (cst := (1 : Int32)) (f := fun v6 => [some (.ref a0), some (.int x1), some (.int x2), some (.int v6)]) dX2_findDueTo_56 rfl rfl ic_1 rfl (Nat.le_of_ble_eq_true rfl) (fun _ => rfl) (fun v6 => ?_)
          refine v_goto (tgt := 2) dX2_findDueTo_59 rfl ?_
          exact v_inl (hk v6)
        · refine v_aload_n (q := 30) dX2_findDueTo_29 rfl rfl rfl ?_
          refine v_getRb (q := 33) dX2_findDueTo_30 rfl fg_X2_11 (fun o7 => ?_)
          refine v_iload_n (q := 34) dX2_findDueTo_33 rfl rfl rfl ?_
          refine v_aaload (q := 35) (t0 := 3) dX2_findDueTo_34 rfl (Nat.le_of_ble_eq_true rfl) (fun _ => rfl) (fun o8 => ?_)
          refine v_getIb (q := 38) dX2_findDueTo_35 rfl fg_X2_31 (fun v9 => ?_)
          refine v_iload_n (q := 39) dX2_findDueTo_38 rfl rfl rfl ?_
          refine v_icmp_ne (tgt := 56) (q := 42) dX2_findDueTo_39 rfl rfl ?_ ?_
          · refine v_iincL (q := 59) (x := v1) (cst := (1 : Int32)) (f := fun v10 => [some (.ref a0), some (.int x1), some (.int x2), some (.int v10)]) dX2_findDueTo_56 rfl rfl ic_1 rfl (Nat.le_of_ble_eq_true rfl) (fun _ => rfl) (fun v10 => ?_)
            refine v_goto (tgt := 2) dX2_findDueTo_59 rfl ?_
            exact v_inl (hk v10)
          · refine v_aload_n (q := 43) dX2_findDueTo_42 rfl rfl rfl ?_
            refine v_getRb (q := 46) dX2_findDueTo_43 rfl fg_X2_11 (fun o11 => ?_)
            refine v_iload_n (q := 47) dX2_findDueTo_46 rfl rfl rfl ?_
            refine v_aaload (q := 48) (t0 := 3) dX2_findDueTo_47 rfl (Nat.le_of_ble_eq_true rfl) (fun _ => rfl) (fun o12 => ?_)
            refine v_getIb (q := 51) dX2_findDueTo_48 rfl fg_X2_38 (fun v13 => ?_)
            refine v_if_ne (tgt := 56) (q := 54) dX2_findDueTo_51 rfl rfl ?_ ?_
            · refine v_iincL (q := 59) (x := v1) (cst := (1 : Int32)) (f := fun v14 => [some (.ref a0), some (.int x1), some (.int x2), some (.int v14)]) dX2_findDueTo_56 rfl rfl ic_1 rfl (Nat.le_of_ble_eq_true rfl) (fun _ => rfl) (fun v14 => ?_)
              refine v_goto (tgt := 2) dX2_findDueTo_59 rfl ?_
              exact v_inl (hk v14)
            · refine v_iload_n (q := 55) dX2_findDueTo_54 rfl rfl rfl ?_
              exact v_iret rfl dX2_findDueTo_55 ⟨Nat.le_of_ble_eq_true rfl, Nat.le_of_ble_eq_true rfl⟩ rfl
theorem ct_X2_findDueTo (d : Nat) (hd : 0 ≤ d) (a0 : Nat) (x1 : Int32) (x2 : Int32) (M : Me) (r : Int32) (hf : f_X2_findDueTo a0 x1 x2 M = some r) : me_k M a0 = some (2, nf_c 2) ∧ Ct yX2_findDueTo mX2_findDueTo d 0 0 [.ref a0, .int x1, .int x2] M (some (.int r), M) := by
  obtain ⟨hk, hb⟩ := ck_some hf
  exact ⟨hk, ct_of (by decide +kernel) rfl rfl (Nat.le_of_ble_eq_true rfl) (vb_X2_findDueTo d hd a0 x1 x2 M) (by rw [hb]; rfl)⟩
theorem dX4_isIn_0 : decode cX4_isIn 0 = .ok (.aload_n 0, 1) := by decide +kernel
theorem dX4_isIn_1 : decode cX4_isIn 1 = .ok (.getfield 31, 3) := by decide +kernel
theorem dX4_isIn_4 : decode cX4_isIn 4 = .ok (.ifCond .ne 15, 3) := by decide +kernel
theorem dX4_isIn_7 : decode cX4_isIn 7 = .ok (.aload_n 0, 1) := by decide +kernel
theorem dX4_isIn_8 : decode cX4_isIn 8 = .ok (.getfield 28, 3) := by decide +kernel
theorem dX4_isIn_11 : decode cX4_isIn 11 = .ok (.iload_n 1, 1) := by decide +kernel
theorem dX4_isIn_12 : decode cX4_isIn 12 = .ok (.if_icmp .ne 7, 3) := by decide +kernel
theorem dX4_isIn_15 : decode cX4_isIn 15 = .ok (.iconst 1, 1) := by decide +kernel
theorem dX4_isIn_16 : decode cX4_isIn 16 = .ok (.goto 4, 3) := by decide +kernel
theorem dX4_isIn_19 : decode cX4_isIn 19 = .ok (.iconst 0, 1) := by decide +kernel
theorem dX4_isIn_20 : decode cX4_isIn 20 = .ok (.ireturn, 1) := by decide +kernel
noncomputable def b_X4_isIn (a0 : Nat) (x1 : Int32) (M : Me) : Option (Int32) :=
  gi M a0 4 6 fun v1 =>
  (
    if v1 = 0 then (
      gi M a0 4 5 fun v2 =>
      if v2 = x1 then (
        some (1 : Int32)
      ) else (
        some (0 : Int32)
      )
    ) else (
      some (0 : Int32)
    )
  ).bind fun v3 =>
  if v3 = 0 ∨ v3 = 1 then some v3 else none
noncomputable def f_X4_isIn (a0 : Nat) (x1 : Int32) (M : Me) : Option (Int32) := ck M a0 4 (b_X4_isIn a0 x1 M)
set_option maxRecDepth 20000 in
theorem vb_X4_isIn (d : Nat) (hd : 0 ≤ d) (a0 : Nat) (x1 : Int32) (M : Me) : V (mX4_isIn, d, 0, 0) (0, 0) M 0 [some (.ref a0), some (.int x1)] [] (b_X4_isIn a0 x1 M) (fun z => some (some (.int z), M)) := by
  unfold b_X4_isIn
  refine v_aload_n (q := 1) dX4_isIn_0 rfl rfl rfl ?_
  refine v_getIb (q := 4) dX4_isIn_1 rfl fg_X4_31 (fun v1 => ?_)
  refine v_join (γ := Int32) 20 (fun v3 => M) (fun v3 => [some (.ref a0), some (.int x1)]) (fun v3 => [.int v3]) (fun K hK => ?_) (fun v3 => ?_)
  · refine v_if_ne (tgt := 19) (q := 7) dX4_isIn_4 rfl rfl ?_ ?_
    · refine v_iconst (q := 20) dX4_isIn_19 rfl ic_0 ?_
      exact hK (0 : Int32)
    · refine v_aload_n (q := 8) dX4_isIn_7 rfl rfl rfl ?_
      refine v_getIb (q := 11) dX4_isIn_8 rfl fg_X4_28 (fun v2 => ?_)
      refine v_iload_n (q := 12) dX4_isIn_11 rfl rfl rfl ?_
      refine v_icmp_ne (tgt := 19) (q := 15) dX4_isIn_12 rfl rfl ?_ ?_
      · refine v_iconst (q := 20) dX4_isIn_19 rfl ic_0 ?_
        exact hK (0 : Int32)
      · refine v_iconst (q := 16) dX4_isIn_15 rfl ic_1 ?_
        refine v_goto (tgt := 20) dX4_isIn_16 rfl ?_
        exact hK (1 : Int32)
  · exact v_zretC rfl dX4_isIn_20 ⟨Nat.le_of_ble_eq_true rfl, Nat.le_of_ble_eq_true rfl⟩ rfl
theorem ct_X4_isIn (d : Nat) (hd : 0 ≤ d) (a0 : Nat) (x1 : Int32) (M : Me) (r : Int32) (hf : f_X4_isIn a0 x1 M = some r) : me_k M a0 = some (4, nf_c 4) ∧ Ct yX4_isIn mX4_isIn d 0 0 [.ref a0, .int x1] M (some (.int r), M) := by
  obtain ⟨hk, hb⟩ := ck_some hf
  exact ⟨hk, ct_of (by decide +kernel) rfl rfl (Nat.le_of_ble_eq_true rfl) (vb_X4_isIn d hd a0 x1 M) (by rw [hb]; rfl)⟩
theorem dX2_has_0 : decode cX2_has 0 = .ok (.iload_n 1, 1) := by decide +kernel
theorem dX2_has_1 : decode cX2_has 1 = .ok (.ifCond .lt 21, 3) := by decide +kernel
theorem dX2_has_4 : decode cX2_has 4 = .ok (.iload_n 1, 1) := by decide +kernel
theorem dX2_has_5 : decode cX2_has 5 = .ok (.aload_n 0, 1) := by decide +kernel
theorem dX2_has_6 : decode cX2_has 6 = .ok (.getfield 18, 3) := by decide +kernel
theorem dX2_has_9 : decode cX2_has 9 = .ok (.if_icmp .ge 13, 3) := by decide +kernel
theorem dX2_has_12 : decode cX2_has 12 = .ok (.iload_n 1, 1) := by decide +kernel
theorem dX2_has_13 : decode cX2_has 13 = .ok (.bipush 12, 2) := by decide +kernel
theorem dX2_has_15 : decode cX2_has 15 = .ok (.if_icmp .ge 7, 3) := by decide +kernel
theorem dX2_has_18 : decode cX2_has 18 = .ok (.iconst 1, 1) := by decide +kernel
theorem dX2_has_19 : decode cX2_has 19 = .ok (.goto 4, 3) := by decide +kernel
theorem dX2_has_22 : decode cX2_has 22 = .ok (.iconst 0, 1) := by decide +kernel
theorem dX2_has_23 : decode cX2_has 23 = .ok (.ireturn, 1) := by decide +kernel
noncomputable def b_X2_has (a0 : Nat) (x1 : Int32) (M : Me) : Option (Int32) :=
  (
    if x1 < 0 then (
      some (0 : Int32)
    ) else (
      gi M a0 2 0 fun v1 =>
      if v1 ≤ x1 then (
        some (0 : Int32)
      ) else (
        if (12 : Int32) ≤ x1 then (
          some (0 : Int32)
        ) else (
          some (1 : Int32)
        )
      )
    )
  ).bind fun v2 =>
  if v2 = 0 ∨ v2 = 1 then some v2 else none
noncomputable def f_X2_has (a0 : Nat) (x1 : Int32) (M : Me) : Option (Int32) := ck M a0 2 (b_X2_has a0 x1 M)
set_option maxRecDepth 20000 in
theorem vb_X2_has (d : Nat) (hd : 0 ≤ d) (a0 : Nat) (x1 : Int32) (M : Me) : V (mX2_has, d, 0, 0) (0, 0) M 0 [some (.ref a0), some (.int x1)] [] (b_X2_has a0 x1 M) (fun z => some (some (.int z), M)) := by
  unfold b_X2_has
  refine v_iload_n (q := 1) dX2_has_0 rfl rfl rfl ?_
  refine v_join (γ := Int32) 23 (fun v2 => M) (fun v2 => [some (.ref a0), some (.int x1)]) (fun v2 => [.int v2]) (fun K hK => ?_) (fun v2 => ?_)
  · refine v_if_lt (tgt := 22) (q := 4) dX2_has_1 rfl rfl ?_ ?_
    · refine v_iconst (q := 23) dX2_has_22 rfl ic_0 ?_
      exact hK (0 : Int32)
    · refine v_iload_n (q := 5) dX2_has_4 rfl rfl rfl ?_
      refine v_aload_n (q := 6) dX2_has_5 rfl rfl rfl ?_
      refine v_getIb (q := 9) dX2_has_6 rfl fg_X2_18 (fun v1 => ?_)
      refine v_icmp_ge (tgt := 22) (q := 12) dX2_has_9 rfl rfl ?_ ?_
      · refine v_iconst (q := 23) dX2_has_22 rfl ic_0 ?_
        exact hK (0 : Int32)
      · refine v_iload_n (q := 13) dX2_has_12 rfl rfl rfl ?_
        refine v_bipush (q := 15) dX2_has_13 rfl bp_12 ?_
        refine v_icmp_ge (tgt := 22) (q := 18) dX2_has_15 rfl rfl ?_ ?_
        · refine v_iconst (q := 23) dX2_has_22 rfl ic_0 ?_
          exact hK (0 : Int32)
        · refine v_iconst (q := 19) dX2_has_18 rfl ic_1 ?_
          refine v_goto (tgt := 23) dX2_has_19 rfl ?_
          exact hK (1 : Int32)
  · exact v_zretC rfl dX2_has_23 ⟨Nat.le_of_ble_eq_true rfl, Nat.le_of_ble_eq_true rfl⟩ rfl
theorem ct_X2_has (d : Nat) (hd : 0 ≤ d) (a0 : Nat) (x1 : Int32) (M : Me) (r : Int32) (hf : f_X2_has a0 x1 M = some r) : me_k M a0 = some (2, nf_c 2) ∧ Ct yX2_has mX2_has d 0 0 [.ref a0, .int x1] M (some (.int r), M) := by
  obtain ⟨hk, hb⟩ := ck_some hf
  exact ⟨hk, ct_of (by decide +kernel) rfl rfl (Nat.le_of_ble_eq_true rfl) (vb_X2_has d hd a0 x1 M) (by rw [hb]; rfl)⟩
theorem dX0_giveBackOne_0 : decode cX0_giveBackOne 0 = .ok (.aload_n 0, 1) := by decide +kernel
theorem dX0_giveBackOne_1 : decode cX0_giveBackOne 1 = .ok (.getfield 27, 3) := by decide +kernel
theorem dX0_giveBackOne_4 : decode cX0_giveBackOne 4 = .ok (.iload_n 2, 1) := by decide +kernel
theorem dX0_giveBackOne_5 : decode cX0_giveBackOne 5 = .ok (.invokevirtual 153, 3) := by decide +kernel
theorem dX0_giveBackOne_8 : decode cX0_giveBackOne 8 = .ok (.ifCond .ne 4, 3) := by decide +kernel
theorem dX0_giveBackOne_11 : decode cX0_giveBackOne 11 = .ok (.return_, 1) := by decide +kernel
theorem dX0_giveBackOne_12 : decode cX0_giveBackOne 12 = .ok (.aload_n 0, 1) := by decide +kernel
theorem dX0_giveBackOne_13 : decode cX0_giveBackOne 13 = .ok (.getfield 27, 3) := by decide +kernel
theorem dX0_giveBackOne_16 : decode cX0_giveBackOne 16 = .ok (.getfield 156, 3) := by decide +kernel
theorem dX0_giveBackOne_19 : decode cX0_giveBackOne 19 = .ok (.iload_n 2, 1) := by decide +kernel
theorem dX0_giveBackOne_20 : decode cX0_giveBackOne 20 = .ok (.aaload, 1) := by decide +kernel
theorem dX0_giveBackOne_21 : decode cX0_giveBackOne 21 = .ok (.astore_n 3, 1) := by decide +kernel
theorem dX0_giveBackOne_22 : decode cX0_giveBackOne 22 = .ok (.aload_n 3, 1) := by decide +kernel
theorem dX0_giveBackOne_23 : decode cX0_giveBackOne 23 = .ok (.iconst 1, 1) := by decide +kernel
theorem dX0_giveBackOne_24 : decode cX0_giveBackOne 24 = .ok (.putfield 160, 3) := by decide +kernel
theorem dX0_giveBackOne_27 : decode cX0_giveBackOne 27 = .ok (.aload_n 0, 1) := by decide +kernel
theorem dX0_giveBackOne_28 : decode cX0_giveBackOne 28 = .ok (.aload_n 3, 1) := by decide +kernel
theorem dX0_giveBackOne_29 : decode cX0_giveBackOne 29 = .ok (.getfield 165, 3) := by decide +kernel
theorem dX0_giveBackOne_32 : decode cX0_giveBackOne 32 = .ok (.invokevirtual 101, 3) := by decide +kernel
theorem dX0_giveBackOne_35 : decode cX0_giveBackOne 35 = .ok (.astore 4, 2) := by decide +kernel
theorem dX0_giveBackOne_37 : decode cX0_giveBackOne 37 = .ok (.aload 4, 2) := by decide +kernel
theorem dX0_giveBackOne_39 : decode cX0_giveBackOne 39 = .ok (.aload_n 1, 1) := by decide +kernel
theorem dX0_giveBackOne_40 : decode cX0_giveBackOne 40 = .ok (.getfield 142, 3) := by decide +kernel
theorem dX0_giveBackOne_43 : decode cX0_giveBackOne 43 = .ok (.invokevirtual 145, 3) := by decide +kernel
theorem dX0_giveBackOne_46 : decode cX0_giveBackOne 46 = .ok (.ifCond .eq 46, 3) := by decide +kernel
theorem dX0_giveBackOne_49 : decode cX0_giveBackOne 49 = .ok (.aload 4, 2) := by decide +kernel
theorem dX0_giveBackOne_51 : decode cX0_giveBackOne 51 = .ok (.dup, 1) := by decide +kernel
theorem dX0_giveBackOne_52 : decode cX0_giveBackOne 52 = .ok (.getfield 98, 3) := by decide +kernel
theorem dX0_giveBackOne_55 : decode cX0_giveBackOne 55 = .ok (.iconst 1, 1) := by decide +kernel
theorem dX0_giveBackOne_56 : decode cX0_giveBackOne 56 = .ok (.iadd, 1) := by decide +kernel
theorem dX0_giveBackOne_57 : decode cX0_giveBackOne 57 = .ok (.putfield 98, 3) := by decide +kernel
theorem dX0_giveBackOne_60 : decode cX0_giveBackOne 60 = .ok (.aload_n 1, 1) := by decide +kernel
theorem dX0_giveBackOne_61 : decode cX0_giveBackOne 61 = .ok (.dup, 1) := by decide +kernel
theorem dX0_giveBackOne_62 : decode cX0_giveBackOne 62 = .ok (.getfield 98, 3) := by decide +kernel
theorem dX0_giveBackOne_65 : decode cX0_giveBackOne 65 = .ok (.iconst 3, 1) := by decide +kernel
theorem dX0_giveBackOne_66 : decode cX0_giveBackOne 66 = .ok (.iadd, 1) := by decide +kernel
theorem dX0_giveBackOne_67 : decode cX0_giveBackOne 67 = .ok (.putfield 98, 3) := by decide +kernel
theorem dX0_giveBackOne_70 : decode cX0_giveBackOne 70 = .ok (.aload_n 0, 1) := by decide +kernel
theorem dX0_giveBackOne_71 : decode cX0_giveBackOne 71 = .ok (.aload_n 3, 1) := by decide +kernel
theorem dX0_giveBackOne_72 : decode cX0_giveBackOne 72 = .ok (.getfield 165, 3) := by decide +kernel
theorem dX0_giveBackOne_75 : decode cX0_giveBackOne 75 = .ok (.aload_n 3, 1) := by decide +kernel
theorem dX0_giveBackOne_76 : decode cX0_giveBackOne 76 = .ok (.getfield 168, 3) := by decide +kernel
theorem dX0_giveBackOne_79 : decode cX0_giveBackOne 79 = .ok (.aload_n 1, 1) := by decide +kernel
theorem dX0_giveBackOne_80 : decode cX0_giveBackOne 80 = .ok (.getfield 114, 3) := by decide +kernel
theorem dX0_giveBackOne_83 : decode cX0_giveBackOne 83 = .ok (.invokestatic 171, 3) := by decide +kernel
theorem dX0_giveBackOne_86 : decode cX0_giveBackOne 86 = .ok (.invokevirtual 117, 3) := by decide +kernel
theorem dX0_giveBackOne_89 : decode cX0_giveBackOne 89 = .ok (.goto 14, 3) := by decide +kernel
theorem dX0_giveBackOne_92 : decode cX0_giveBackOne 92 = .ok (.aload 4, 2) := by decide +kernel
theorem dX0_giveBackOne_94 : decode cX0_giveBackOne 94 = .ok (.dup, 1) := by decide +kernel
theorem dX0_giveBackOne_95 : decode cX0_giveBackOne 95 = .ok (.getfield 98, 3) := by decide +kernel
theorem dX0_giveBackOne_98 : decode cX0_giveBackOne 98 = .ok (.iconst 5, 1) := by decide +kernel
theorem dX0_giveBackOne_99 : decode cX0_giveBackOne 99 = .ok (.isub, 1) := by decide +kernel
theorem dX0_giveBackOne_100 : decode cX0_giveBackOne 100 = .ok (.putfield 98, 3) := by decide +kernel
theorem dX0_giveBackOne_103 : decode cX0_giveBackOne 103 = .ok (.return_, 1) := by decide +kernel
noncomputable def b_X0_giveBackOne (a0 : Nat) (a1 : Nat) (x2 : Int32) (M : Me) : Option (Me) :=
  gr M a0 0 2 fun o1 =>
  cP (f_X2_has o1 x2 M) fun v2 =>
  if v2 = 0 then (
    some M
  ) else (
    gr M a0 0 2 fun o3 =>
    gr M o3 2 1 fun o4 =>
    lr M o4 23 x2 fun o5 =>
    pz M o5 1 4 (1 : Int32) fun M6 =>
    gi M6 o5 1 0 fun v7 =>
    cR (f_X0_knightAt a0 v7 M6) fun o8 =>
    gi M6 a1 4 1 fun v9 =>
    cP (f_X4_isIn o8 v9 M6) fun v10 =>
    (
      if v10 = 0 then (
        gi M6 o8 4 4 fun v11 =>
        pi M6 o8 4 4 (v11 - (5 : Int32)) fun M12 =>
        some M12
      ) else (
        gi M6 o8 4 4 fun v13 =>
        pi M6 o8 4 4 (v13 + (1 : Int32)) fun M14 =>
        gi M14 a1 4 4 fun v15 =>
        pi M14 a1 4 4 (v15 + (3 : Int32)) fun M16 =>
        gi M16 o5 1 0 fun v17 =>
        gi M16 o5 1 2 fun v18 =>
        gi M16 a1 4 2 fun v19 =>
        cM (f_X0_wound a0 v17 (mn_i v18 v19) M16) fun M20 =>
        some M20
      )
    ).bind fun M21 =>
    some M21
  )
noncomputable def f_X0_giveBackOne (a0 : Nat) (a1 : Nat) (x2 : Int32) (M : Me) : Option (Me) := ck M a0 0 (b_X0_giveBackOne a0 a1 x2 M)
set_option maxRecDepth 20000 in
theorem vb_X0_giveBackOne (d : Nat) (hd : 2 ≤ d) (a0 : Nat) (a1 : Nat) (x2 : Int32) (M : Me) : V (mX0_giveBackOne, d, 0, 0) (0, 0) M 0 [some (.ref a0), some (.ref a1), some (.int x2), none, none] [] (b_X0_giveBackOne a0 a1 x2 M) (fun M2 => some (none, M2)) := by
  unfold b_X0_giveBackOne
  refine v_aload_n (q := 1) dX0_giveBackOne_0 rfl rfl rfl ?_
  refine v_getRb (q := 4) dX0_giveBackOne_1 rfl fg_X0_27 (fun o1 => ?_)
  refine v_iload_n (q := 5) dX0_giveBackOne_4 rfl rfl rfl ?_
  refine v_cPV1 (q := 8) (ct_X2_has (d - 1) (by omega) _ _ _) dX0_giveBackOne_5 rfl cc_X0_153 (by omega) (Nat.le_of_ble_eq_true rfl) ⟨Nat.le_of_ble_eq_true rfl, Nat.le_of_ble_eq_true rfl⟩ (fun v2 => ?_)
  refine v_if_ne (tgt := 12) (q := 11) dX0_giveBackOne_8 rfl rfl ?_ ?_
  · refine v_aload_n (q := 13) dX0_giveBackOne_12 rfl rfl rfl ?_
    refine v_getRb (q := 16) dX0_giveBackOne_13 rfl fg_X0_27 (fun o3 => ?_)
    refine v_getRb (q := 19) dX0_giveBackOne_16 rfl fg_X0_156 (fun o4 => ?_)
    refine v_iload_n (q := 20) dX0_giveBackOne_19 rfl rfl rfl ?_
    refine v_aaload (q := 21) (t0 := 3) dX0_giveBackOne_20 rfl (Nat.le_of_ble_eq_true rfl) (fun _ => rfl) (fun o5 => ?_)
    refine v_astore_n (q := 22) (loc2 := [some (.ref a0), some (.ref a1), some (.int x2), some (.ref o5), none]) dX0_giveBackOne_21 rfl rfl rfl (Nat.le_of_ble_eq_true rfl) rfl ?_
    refine v_aload_n (q := 23) dX0_giveBackOne_22 rfl rfl rfl ?_
    refine v_iconst (q := 24) dX0_giveBackOne_23 rfl ic_1 ?_
    refine v_putZb (q := 27) dX0_giveBackOne_24 rfl fp_X0_160 (fun M6 => ?_)
    refine v_aload_n (q := 28) dX0_giveBackOne_27 rfl rfl rfl ?_
    refine v_aload_n (q := 29) dX0_giveBackOne_28 rfl rfl rfl ?_
    refine v_getIb (q := 32) dX0_giveBackOne_29 rfl fg_X0_165 (fun v7 => ?_)
    refine v_cRV1 (q := 35) (ct_X0_knightAt (d - 1) (by omega) _ _ _) dX0_giveBackOne_32 rfl cc_X0_101 (by omega) (Nat.le_of_ble_eq_true rfl) ⟨Nat.le_of_ble_eq_true rfl, Nat.le_of_ble_eq_true rfl⟩ (fun o8 => ?_)
    refine v_astore (q := 37) (loc2 := [some (.ref a0), some (.ref a1), some (.int x2), some (.ref o5), some (.ref o8)]) dX0_giveBackOne_35 rfl rfl (Nat.le_of_ble_eq_true rfl) rfl ?_
    refine v_aload (q := 39) dX0_giveBackOne_37 rfl rfl ?_
    refine v_aload_n (q := 40) dX0_giveBackOne_39 rfl rfl rfl ?_
    refine v_getIb (q := 43) dX0_giveBackOne_40 rfl fg_X0_142 (fun v9 => ?_)
    refine v_cPV1 (q := 46) (ct_X4_isIn (d - 1) (by omega) _ _ _) dX0_giveBackOne_43 rfl cc_X0_145 (by omega) (Nat.le_of_ble_eq_true rfl) ⟨Nat.le_of_ble_eq_true rfl, Nat.le_of_ble_eq_true rfl⟩ (fun v10 => ?_)
    refine v_join (γ := Me) 103 (fun M21 => M21) (fun M21 => [some (.ref a0), some (.ref a1), some (.int x2), some (.ref o5), some (.ref o8)]) (fun M21 => []) (fun K hK => ?_) (fun M21 => ?_)
    · refine v_if_eq (tgt := 92) (q := 49) dX0_giveBackOne_46 rfl rfl ?_ ?_
      · refine v_aload (q := 94) dX0_giveBackOne_92 rfl rfl ?_
        refine v_dup (q := 95) dX0_giveBackOne_94 rfl rfl ?_
        refine v_getIb (q := 98) dX0_giveBackOne_95 rfl fg_X0_98 (fun v11 => ?_)
        refine v_iconst (q := 99) dX0_giveBackOne_98 rfl ic_5 ?_
        refine v_isub (q := 100) dX0_giveBackOne_99 rfl ?_
        refine v_putIb (q := 103) dX0_giveBackOne_100 rfl fp_X0_98 (fun M12 => ?_)
        exact hK M12
      · refine v_aload (q := 51) dX0_giveBackOne_49 rfl rfl ?_
        refine v_dup (q := 52) dX0_giveBackOne_51 rfl rfl ?_
        refine v_getIb (q := 55) dX0_giveBackOne_52 rfl fg_X0_98 (fun v13 => ?_)
        refine v_iconst (q := 56) dX0_giveBackOne_55 rfl ic_1 ?_
        refine v_iadd (q := 57) dX0_giveBackOne_56 rfl ?_
        refine v_putIb (q := 60) dX0_giveBackOne_57 rfl fp_X0_98 (fun M14 => ?_)
        refine v_aload_n (q := 61) dX0_giveBackOne_60 rfl rfl rfl ?_
        refine v_dup (q := 62) dX0_giveBackOne_61 rfl rfl ?_
        refine v_getIb (q := 65) dX0_giveBackOne_62 rfl fg_X0_98 (fun v15 => ?_)
        refine v_iconst (q := 66) dX0_giveBackOne_65 rfl ic_3 ?_
        refine v_iadd (q := 67) dX0_giveBackOne_66 rfl ?_
        refine v_putIb (q := 70) dX0_giveBackOne_67 rfl fp_X0_98 (fun M16 => ?_)
        refine v_aload_n (q := 71) dX0_giveBackOne_70 rfl rfl rfl ?_
        refine v_aload_n (q := 72) dX0_giveBackOne_71 rfl rfl rfl ?_
        refine v_getIb (q := 75) dX0_giveBackOne_72 rfl fg_X0_165 (fun v17 => ?_)
        refine v_aload_n (q := 76) dX0_giveBackOne_75 rfl rfl rfl ?_
        refine v_getIb (q := 79) dX0_giveBackOne_76 rfl fg_X0_168 (fun v18 => ?_)
        refine v_aload_n (q := 80) dX0_giveBackOne_79 rfl rfl rfl ?_
        refine v_getIb (q := 83) dX0_giveBackOne_80 rfl fg_X0_114 (fun v19 => ?_)
        refine v_mn_i (q := 86) dX0_giveBackOne_83 rfl cc_X0_171 (by show 1 ≤ d; omega) (Nat.le_of_ble_eq_true rfl) ⟨Nat.le_of_ble_eq_true rfl, Nat.le_of_ble_eq_true rfl⟩ ?_
        refine v_cMV2 (q := 89) (ct_X0_wound (d - 1) (by omega) _ _ _ _) dX0_giveBackOne_86 rfl cc_X0_117 (by omega) (Nat.le_of_ble_eq_true rfl) ⟨Nat.le_of_ble_eq_true rfl, Nat.le_of_ble_eq_true rfl⟩ (fun M20 => ?_)
        refine v_goto (tgt := 103) dX0_giveBackOne_89 rfl ?_
        exact hK M20
    · exact v_vret rfl dX0_giveBackOne_103 ⟨Nat.le_of_ble_eq_true rfl, Nat.le_of_ble_eq_true rfl⟩ rfl
  · exact v_vret rfl dX0_giveBackOne_11 ⟨Nat.le_of_ble_eq_true rfl, Nat.le_of_ble_eq_true rfl⟩ rfl
theorem ct_X0_giveBackOne (d : Nat) (hd : 2 ≤ d) (a0 : Nat) (a1 : Nat) (x2 : Int32) (M : Me) (r : Me) (hf : f_X0_giveBackOne a0 a1 x2 M = some r) : me_k M a0 = some (0, nf_c 0) ∧ Ct yX0_giveBackOne mX0_giveBackOne d 0 0 [.ref a0, .ref a1, .int x2] M (none, r) := by
  obtain ⟨hk, hb⟩ := ck_some hf
  exact ⟨hk, ct_of (by decide +kernel) rfl rfl (Nat.le_of_ble_eq_true rfl) (vb_X0_giveBackOne d hd a0 a1 x2 M) (by rw [hb]; rfl)⟩
theorem dX0_tryGiveBack_0 : decode cX0_tryGiveBack 0 = .ok (.aload_n 0, 1) := by decide +kernel
theorem dX0_tryGiveBack_1 : decode cX0_tryGiveBack 1 = .ok (.iload_n 1, 1) := by decide +kernel
theorem dX0_tryGiveBack_2 : decode cX0_tryGiveBack 2 = .ok (.invokevirtual 131, 3) := by decide +kernel
theorem dX0_tryGiveBack_5 : decode cX0_tryGiveBack 5 = .ok (.istore_n 2, 1) := by decide +kernel
theorem dX0_tryGiveBack_6 : decode cX0_tryGiveBack 6 = .ok (.iload_n 2, 1) := by decide +kernel
theorem dX0_tryGiveBack_7 : decode cX0_tryGiveBack 7 = .ok (.ifCond .eq 5, 3) := by decide +kernel
theorem dX0_tryGiveBack_10 : decode cX0_tryGiveBack 10 = .ok (.iload_n 2, 1) := by decide +kernel
theorem dX0_tryGiveBack_11 : decode cX0_tryGiveBack 11 = .ok (.ireturn, 1) := by decide +kernel
theorem dX0_tryGiveBack_12 : decode cX0_tryGiveBack 12 = .ok (.aload_n 0, 1) := by decide +kernel
theorem dX0_tryGiveBack_13 : decode cX0_tryGiveBack 13 = .ok (.iload_n 1, 1) := by decide +kernel
theorem dX0_tryGiveBack_14 : decode cX0_tryGiveBack 14 = .ok (.invokevirtual 101, 3) := by decide +kernel
theorem dX0_tryGiveBack_17 : decode cX0_tryGiveBack 17 = .ok (.astore_n 3, 1) := by decide +kernel
theorem dX0_tryGiveBack_18 : decode cX0_tryGiveBack 18 = .ok (.aload_n 0, 1) := by decide +kernel
theorem dX0_tryGiveBack_19 : decode cX0_tryGiveBack 19 = .ok (.getfield 27, 3) := by decide +kernel
theorem dX0_tryGiveBack_22 : decode cX0_tryGiveBack 22 = .ok (.iload_n 1, 1) := by decide +kernel
theorem dX0_tryGiveBack_23 : decode cX0_tryGiveBack 23 = .ok (.aload_n 0, 1) := by decide +kernel
theorem dX0_tryGiveBack_24 : decode cX0_tryGiveBack 24 = .ok (.getfield 56, 3) := by decide +kernel
theorem dX0_tryGiveBack_27 : decode cX0_tryGiveBack 27 = .ok (.invokevirtual 138, 3) := by decide +kernel
theorem dX0_tryGiveBack_30 : decode cX0_tryGiveBack 30 = .ok (.istore 4, 2) := by decide +kernel
theorem dX0_tryGiveBack_32 : decode cX0_tryGiveBack 32 = .ok (.aload_n 3, 1) := by decide +kernel
theorem dX0_tryGiveBack_33 : decode cX0_tryGiveBack 33 = .ok (.aload_n 3, 1) := by decide +kernel
theorem dX0_tryGiveBack_34 : decode cX0_tryGiveBack 34 = .ok (.getfield 142, 3) := by decide +kernel
theorem dX0_tryGiveBack_37 : decode cX0_tryGiveBack 37 = .ok (.invokevirtual 145, 3) := by decide +kernel
theorem dX0_tryGiveBack_40 : decode cX0_tryGiveBack 40 = .ok (.ifCond .eq 10, 3) := by decide +kernel
theorem dX0_tryGiveBack_43 : decode cX0_tryGiveBack 43 = .ok (.iload 4, 2) := by decide +kernel
theorem dX0_tryGiveBack_45 : decode cX0_tryGiveBack 45 = .ok (.bipush (-6), 2) := by decide +kernel
theorem dX0_tryGiveBack_47 : decode cX0_tryGiveBack 47 = .ok (.if_icmp .ne 6, 3) := by decide +kernel
theorem dX0_tryGiveBack_50 : decode cX0_tryGiveBack 50 = .ok (.bipush 6, 2) := by decide +kernel
theorem dX0_tryGiveBack_52 : decode cX0_tryGiveBack 52 = .ok (.ireturn, 1) := by decide +kernel
theorem dX0_tryGiveBack_53 : decode cX0_tryGiveBack 53 = .ok (.iconst 0, 1) := by decide +kernel
theorem dX0_tryGiveBack_54 : decode cX0_tryGiveBack 54 = .ok (.istore 5, 2) := by decide +kernel
theorem dX0_tryGiveBack_56 : decode cX0_tryGiveBack 56 = .ok (.iload 5, 2) := by decide +kernel
theorem dX0_tryGiveBack_58 : decode cX0_tryGiveBack 58 = .ok (.bipush 12, 2) := by decide +kernel
theorem dX0_tryGiveBack_60 : decode cX0_tryGiveBack 60 = .ok (.if_icmp .ge 37, 3) := by decide +kernel
theorem dX0_tryGiveBack_63 : decode cX0_tryGiveBack 63 = .ok (.iload 4, 2) := by decide +kernel
theorem dX0_tryGiveBack_65 : decode cX0_tryGiveBack 65 = .ok (.bipush (-6), 2) := by decide +kernel
theorem dX0_tryGiveBack_67 : decode cX0_tryGiveBack 67 = .ok (.if_icmp .eq 30, 3) := by decide +kernel
theorem dX0_tryGiveBack_70 : decode cX0_tryGiveBack 70 = .ok (.aload_n 0, 1) := by decide +kernel
theorem dX0_tryGiveBack_71 : decode cX0_tryGiveBack 71 = .ok (.aload_n 3, 1) := by decide +kernel
theorem dX0_tryGiveBack_72 : decode cX0_tryGiveBack 72 = .ok (.iload 4, 2) := by decide +kernel
theorem dX0_tryGiveBack_74 : decode cX0_tryGiveBack 74 = .ok (.invokevirtual 149, 3) := by decide +kernel
theorem dX0_tryGiveBack_77 : decode cX0_tryGiveBack 77 = .ok (.aload_n 0, 1) := by decide +kernel
theorem dX0_tryGiveBack_78 : decode cX0_tryGiveBack 78 = .ok (.getfield 27, 3) := by decide +kernel
theorem dX0_tryGiveBack_81 : decode cX0_tryGiveBack 81 = .ok (.iload_n 1, 1) := by decide +kernel
theorem dX0_tryGiveBack_82 : decode cX0_tryGiveBack 82 = .ok (.aload_n 0, 1) := by decide +kernel
theorem dX0_tryGiveBack_83 : decode cX0_tryGiveBack 83 = .ok (.getfield 56, 3) := by decide +kernel
theorem dX0_tryGiveBack_86 : decode cX0_tryGiveBack 86 = .ok (.invokevirtual 138, 3) := by decide +kernel
theorem dX0_tryGiveBack_89 : decode cX0_tryGiveBack 89 = .ok (.istore 4, 2) := by decide +kernel
theorem dX0_tryGiveBack_91 : decode cX0_tryGiveBack 91 = .ok (.iinc 5 1, 3) := by decide +kernel
theorem dX0_tryGiveBack_94 : decode cX0_tryGiveBack 94 = .ok (.goto (-38), 3) := by decide +kernel
theorem dX0_tryGiveBack_97 : decode cX0_tryGiveBack 97 = .ok (.aload_n 0, 1) := by decide +kernel
theorem dX0_tryGiveBack_98 : decode cX0_tryGiveBack 98 = .ok (.getfield 27, 3) := by decide +kernel
theorem dX0_tryGiveBack_101 : decode cX0_tryGiveBack 101 = .ok (.invokevirtual 121, 3) := by decide +kernel
theorem dX0_tryGiveBack_104 : decode cX0_tryGiveBack 104 = .ok (.iconst 0, 1) := by decide +kernel
theorem dX0_tryGiveBack_105 : decode cX0_tryGiveBack 105 = .ok (.ireturn, 1) := by decide +kernel
noncomputable def s_X0_tryGiveBack_56 (a0 : Nat) (x1 : Int32) (o2 : Nat) (M8 : Me) (v9 : Int32) (v10 : Int32) : Option ((Me × Int32 × Int32) ⊕ (Me × Int32 × Int32)) :=
  if (12 : Int32) ≤ v10 then (
    some (Sum.inr (M8, v9, v10))
  ) else (
    if v9 = (-6 : Int32) then (
      some (Sum.inr (M8, v9, v10))
    ) else (
      cM (f_X0_giveBackOne a0 o2 v9 M8) fun M11 =>
      gr M11 a0 0 2 fun o12 =>
      gi M11 a0 0 5 fun v13 =>
      cP (f_X2_findDueTo o12 x1 v13 M11) fun v14 =>
      let_v (v10 + (1 : Int32)) fun v15 =>
      some (Sum.inl (M11, v14, v15))
    )
  )
noncomputable def b_X0_tryGiveBack (a0 : Nat) (x1 : Int32) (M : Me) : Option (Int32 × Me) :=
  cP (f_X0_whyNotActing a0 x1 M) fun v1 =>
  if v1 = 0 then (
    cR (f_X0_knightAt a0 x1 M) fun o2 =>
    gr M a0 0 2 fun o3 =>
    gi M a0 0 5 fun v4 =>
    cP (f_X2_findDueTo o3 x1 v4 M) fun v5 =>
    gi M o2 4 1 fun v6 =>
    cP (f_X4_isIn o2 v6 M) fun v7 =>
    if v7 = 0 then (
      some ((6 : Int32), M)
    ) else (
      if v5 = (-6 : Int32) then (
        some ((6 : Int32), M)
      ) else (
        (lp (fun s => s_X0_tryGiveBack_56 a0 x1 o2 s.1 s.2.1 s.2.2) (M, v5, (0 : Int32))).bind fun e16 =>
        gr e16.1 a0 0 2 fun o17 =>
        cM (f_X2_sweep o17 e16.1) fun M18 =>
        some ((0 : Int32), M18)
      )
    )
  ) else (
    some (v1, M)
  )
noncomputable def f_X0_tryGiveBack (a0 : Nat) (x1 : Int32) (M : Me) : Option (Int32 × Me) := ck M a0 0 (b_X0_tryGiveBack a0 x1 M)
set_option maxRecDepth 20000 in
theorem vb_X0_tryGiveBack (d : Nat) (hd : 3 ≤ d) (a0 : Nat) (x1 : Int32) (M : Me) : V (mX0_tryGiveBack, d, 0, 0) (0, 0) M 0 [some (.ref a0), some (.int x1), none, none, none, none] [] (b_X0_tryGiveBack a0 x1 M) (fun z => some (some (.int z.1), z.2)) := by
  unfold b_X0_tryGiveBack
  refine v_aload_n (q := 1) dX0_tryGiveBack_0 rfl rfl rfl ?_
  refine v_iload_n (q := 2) dX0_tryGiveBack_1 rfl rfl rfl ?_
  refine v_cPV1 (q := 5) (ct_X0_whyNotActing (d - 1) (by omega) _ _ _) dX0_tryGiveBack_2 rfl cc_X0_131 (by omega) (Nat.le_of_ble_eq_true rfl) ⟨Nat.le_of_ble_eq_true rfl, Nat.le_of_ble_eq_true rfl⟩ (fun v1 => ?_)
  refine v_istore_n (q := 6) (loc2 := [some (.ref a0), some (.int x1), some (.int v1), none, none, none]) dX0_tryGiveBack_5 rfl rfl rfl (Nat.le_of_ble_eq_true rfl) rfl ?_
  refine v_iload_n (q := 7) dX0_tryGiveBack_6 rfl rfl rfl ?_
  refine v_if_eq (tgt := 12) (q := 10) dX0_tryGiveBack_7 rfl rfl ?_ ?_
  · refine v_aload_n (q := 13) dX0_tryGiveBack_12 rfl rfl rfl ?_
    refine v_iload_n (q := 14) dX0_tryGiveBack_13 rfl rfl rfl ?_
    refine v_cRV1 (q := 17) (ct_X0_knightAt (d - 1) (by omega) _ _ _) dX0_tryGiveBack_14 rfl cc_X0_101 (by omega) (Nat.le_of_ble_eq_true rfl) ⟨Nat.le_of_ble_eq_true rfl, Nat.le_of_ble_eq_true rfl⟩ (fun o2 => ?_)
    refine v_astore_n (q := 18) (loc2 := [some (.ref a0), some (.int x1), some (.int v1), some (.ref o2), none, none]) dX0_tryGiveBack_17 rfl rfl rfl (Nat.le_of_ble_eq_true rfl) rfl ?_
    refine v_aload_n (q := 19) dX0_tryGiveBack_18 rfl rfl rfl ?_
    refine v_getRb (q := 22) dX0_tryGiveBack_19 rfl fg_X0_27 (fun o3 => ?_)
    refine v_iload_n (q := 23) dX0_tryGiveBack_22 rfl rfl rfl ?_
    refine v_aload_n (q := 24) dX0_tryGiveBack_23 rfl rfl rfl ?_
    refine v_getIb (q := 27) dX0_tryGiveBack_24 rfl fg_X0_56 (fun v4 => ?_)
    refine v_cPV2 (q := 30) (ct_X2_findDueTo (d - 1) (by omega) _ _ _ _) dX0_tryGiveBack_27 rfl cc_X0_138 (by omega) (Nat.le_of_ble_eq_true rfl) ⟨Nat.le_of_ble_eq_true rfl, Nat.le_of_ble_eq_true rfl⟩ (fun v5 => ?_)
    refine v_istore (q := 32) (loc2 := [some (.ref a0), some (.int x1), some (.int v1), some (.ref o2), some (.int v5), none]) dX0_tryGiveBack_30 rfl rfl (Nat.le_of_ble_eq_true rfl) rfl ?_
    refine v_aload_n (q := 33) dX0_tryGiveBack_32 rfl rfl rfl ?_
    refine v_aload_n (q := 34) dX0_tryGiveBack_33 rfl rfl rfl ?_
    refine v_getIb (q := 37) dX0_tryGiveBack_34 rfl fg_X0_142 (fun v6 => ?_)
    refine v_cPV1 (q := 40) (ct_X4_isIn (d - 1) (by omega) _ _ _) dX0_tryGiveBack_37 rfl cc_X0_145 (by omega) (Nat.le_of_ble_eq_true rfl) ⟨Nat.le_of_ble_eq_true rfl, Nat.le_of_ble_eq_true rfl⟩ (fun v7 => ?_)
    refine v_if_eq (tgt := 50) (q := 43) dX0_tryGiveBack_40 rfl rfl ?_ ?_
    · refine v_bipush (q := 52) dX0_tryGiveBack_50 rfl bp_6 ?_
      exact v_iret rfl dX0_tryGiveBack_52 ⟨Nat.le_of_ble_eq_true rfl, Nat.le_of_ble_eq_true rfl⟩ rfl
    · refine v_iload (q := 45) dX0_tryGiveBack_43 rfl rfl ?_
      refine v_bipush (q := 47) dX0_tryGiveBack_45 rfl bp_m6 ?_
      refine v_icmp_ne (tgt := 53) (q := 50) dX0_tryGiveBack_47 rfl rfl ?_ ?_
      · refine v_iconst (q := 54) dX0_tryGiveBack_53 rfl ic_0 ?_
        refine v_istore (q := 56) (loc2 := [some (.ref a0), some (.int x1), some (.int v1), some (.ref o2), some (.int v5), some (.int (0 : Int32))]) dX0_tryGiveBack_54 rfl rfl (Nat.le_of_ble_eq_true rfl) rfl ?_
        refine v_lps (S := Me × Int32 × Int32) 97 (fun s => s.1) (fun s => [some (.ref a0), some (.int x1), some (.int v1), some (.ref o2), some (.int s.2.1), some (.int s.2.2)]) (fun e16 => e16.1) (fun e16 => [some (.ref a0), some (.int x1), some (.int v1), some (.ref o2), some (.int e16.2.1), some (.int e16.2.2)]) (fun e16 => ?_) (fun k K hk hx s => ?_)
        · refine v_aload_n (q := 98) dX0_tryGiveBack_97 rfl rfl rfl ?_
          refine v_getRb (q := 101) dX0_tryGiveBack_98 rfl fg_X0_27 (fun o17 => ?_)
          refine v_cMV0 (q := 104) (ct_X2_sweep (d - 1) (by omega) _ _) dX0_tryGiveBack_101 rfl cc_X0_121 (by omega) (Nat.le_of_ble_eq_true rfl) ⟨Nat.le_of_ble_eq_true rfl, Nat.le_of_ble_eq_true rfl⟩ (fun M18 => ?_)
          refine v_iconst (q := 105) dX0_tryGiveBack_104 rfl ic_0 ?_
          exact v_iret rfl dX0_tryGiveBack_105 ⟨Nat.le_of_ble_eq_true rfl, Nat.le_of_ble_eq_true rfl⟩ rfl
        · obtain ⟨M8, v9, v10⟩ := s
          show V _ _ M8 56 [some (.ref a0), some (.int x1), some (.int v1), some (.ref o2), some (.int v9), some (.int v10)] [] (s_X0_tryGiveBack_56 a0 x1 o2 M8 v9 v10) _
          unfold s_X0_tryGiveBack_56
          refine v_iload (q := 58) dX0_tryGiveBack_56 rfl rfl ?_
          refine v_bipush (q := 60) dX0_tryGiveBack_58 rfl bp_12 ?_
          refine v_icmp_ge (tgt := 97) (q := 63) dX0_tryGiveBack_60 rfl rfl ?_ ?_
          · exact v_inr (hx (M8, v9, v10))
          · refine v_iload (q := 65) dX0_tryGiveBack_63 rfl rfl ?_
            refine v_bipush (q := 67) dX0_tryGiveBack_65 rfl bp_m6 ?_
            refine v_icmp_eq (tgt := 97) (q := 70) dX0_tryGiveBack_67 rfl rfl ?_ ?_
            · exact v_inr (hx (M8, v9, v10))
            · refine v_aload_n (q := 71) dX0_tryGiveBack_70 rfl rfl rfl ?_
              refine v_aload_n (q := 72) dX0_tryGiveBack_71 rfl rfl rfl ?_
              refine v_iload (q := 74) dX0_tryGiveBack_72 rfl rfl ?_
              refine v_cMV2 (q := 77) (ct_X0_giveBackOne (d - 1) (by omega) _ _ _ _) dX0_tryGiveBack_74 rfl cc_X0_149 (by omega) (Nat.le_of_ble_eq_true rfl) ⟨Nat.le_of_ble_eq_true rfl, Nat.le_of_ble_eq_true rfl⟩ (fun M11 => ?_)
              refine v_aload_n (q := 78) dX0_tryGiveBack_77 rfl rfl rfl ?_
              refine v_getRb (q := 81) dX0_tryGiveBack_78 rfl fg_X0_27 (fun o12 => ?_)
              refine v_iload_n (q := 82) dX0_tryGiveBack_81 rfl rfl rfl ?_
              refine v_aload_n (q := 83) dX0_tryGiveBack_82 rfl rfl rfl ?_
              refine v_getIb (q := 86) dX0_tryGiveBack_83 rfl fg_X0_56 (fun v13 => ?_)
              refine v_cPV2 (q := 89) (ct_X2_findDueTo (d - 1) (by omega) _ _ _ _) dX0_tryGiveBack_86 rfl cc_X0_138 (by omega) (Nat.le_of_ble_eq_true rfl) ⟨Nat.le_of_ble_eq_true rfl, Nat.le_of_ble_eq_true rfl⟩ (fun v14 => ?_)
              refine v_istore (q := 91) (loc2 := [some (.ref a0), some (.int x1), some (.int v1), some (.ref o2), some (.int v14), some (.int v10)]) dX0_tryGiveBack_89 rfl rfl (Nat.le_of_ble_eq_true rfl) rfl ?_
              refine v_iincL (q := 94) (x := v10) (cst := (1 : Int32)) (f := fun v15 => [some (.ref a0), some (.int x1), some (.int v1), some (.ref o2), some (.int v14), some (.int v15)]) dX0_tryGiveBack_91 rfl rfl ic_1 rfl (Nat.le_of_ble_eq_true rfl) (fun _ => rfl) (fun v15 => ?_)
              refine v_goto (tgt := 56) dX0_tryGiveBack_94 rfl ?_
              exact v_inl (hk (M11, v14, v15))
      · refine v_bipush (q := 52) dX0_tryGiveBack_50 rfl bp_6 ?_
        exact v_iret rfl dX0_tryGiveBack_52 ⟨Nat.le_of_ble_eq_true rfl, Nat.le_of_ble_eq_true rfl⟩ rfl
  · refine v_iload_n (q := 11) dX0_tryGiveBack_10 rfl rfl rfl ?_
    exact v_iret rfl dX0_tryGiveBack_11 ⟨Nat.le_of_ble_eq_true rfl, Nat.le_of_ble_eq_true rfl⟩ rfl
theorem ct_X0_tryGiveBack (d : Nat) (hd : 3 ≤ d) (a0 : Nat) (x1 : Int32) (M : Me) (r : Int32) (M2 : Me) (hf : f_X0_tryGiveBack a0 x1 M = some (r, M2)) : me_k M a0 = some (0, nf_c 0) ∧ Ct yX0_tryGiveBack mX0_tryGiveBack d 0 0 [.ref a0, .int x1] M (some (.int r), M2) := by
  obtain ⟨hk, hb⟩ := ck_some hf
  exact ⟨hk, ct_of (by decide +kernel) rfl rfl (Nat.le_of_ble_eq_true rfl) (vb_X0_tryGiveBack d hd a0 x1 M) (by rw [hb]; rfl)⟩

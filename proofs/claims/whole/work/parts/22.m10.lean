theorem dX12_forgive_0 : decode cX12_forgive 0 = .ok (.iconst 4, 1) := by decide +kernel
theorem dX12_forgive_1 : decode cX12_forgive 1 = .ok (.iload_n 1, 1) := by decide +kernel
theorem dX12_forgive_2 : decode cX12_forgive 2 = .ok (.imul, 1) := by decide +kernel
theorem dX12_forgive_3 : decode cX12_forgive 3 = .ok (.istore_n 2, 1) := by decide +kernel
theorem dX12_forgive_4 : decode cX12_forgive 4 = .ok (.iload_n 2, 1) := by decide +kernel
theorem dX12_forgive_5 : decode cX12_forgive 5 = .ok (.iconst 4, 1) := by decide +kernel
theorem dX12_forgive_6 : decode cX12_forgive 6 = .ok (.iadd, 1) := by decide +kernel
theorem dX12_forgive_7 : decode cX12_forgive 7 = .ok (.iconst 4, 1) := by decide +kernel
theorem dX12_forgive_8 : decode cX12_forgive 8 = .ok (.aload_n 0, 1) := by decide +kernel
theorem dX12_forgive_9 : decode cX12_forgive 9 = .ok (.getfield 122, 3) := by decide +kernel
theorem dX12_forgive_12 : decode cX12_forgive 12 = .ok (.imul, 1) := by decide +kernel
theorem dX12_forgive_13 : decode cX12_forgive 13 = .ok (.if_icmp .ge 23, 3) := by decide +kernel
theorem dX12_forgive_16 : decode cX12_forgive 16 = .ok (.aload_n 0, 1) := by decide +kernel
theorem dX12_forgive_17 : decode cX12_forgive 17 = .ok (.getfield 59, 3) := by decide +kernel
theorem dX12_forgive_20 : decode cX12_forgive 20 = .ok (.iload_n 2, 1) := by decide +kernel
theorem dX12_forgive_21 : decode cX12_forgive 21 = .ok (.aload_n 0, 1) := by decide +kernel
theorem dX12_forgive_22 : decode cX12_forgive 22 = .ok (.getfield 59, 3) := by decide +kernel
theorem dX12_forgive_25 : decode cX12_forgive 25 = .ok (.iload_n 2, 1) := by decide +kernel
theorem dX12_forgive_26 : decode cX12_forgive 26 = .ok (.iconst 4, 1) := by decide +kernel
theorem dX12_forgive_27 : decode cX12_forgive 27 = .ok (.iadd, 1) := by decide +kernel
theorem dX12_forgive_28 : decode cX12_forgive 28 = .ok (.iaload, 1) := by decide +kernel
theorem dX12_forgive_29 : decode cX12_forgive 29 = .ok (.iastore, 1) := by decide +kernel
theorem dX12_forgive_30 : decode cX12_forgive 30 = .ok (.iinc 2 1, 3) := by decide +kernel
theorem dX12_forgive_33 : decode cX12_forgive 33 = .ok (.goto (-29), 3) := by decide +kernel
theorem dX12_forgive_36 : decode cX12_forgive 36 = .ok (.aload_n 0, 1) := by decide +kernel
theorem dX12_forgive_37 : decode cX12_forgive 37 = .ok (.dup, 1) := by decide +kernel
theorem dX12_forgive_38 : decode cX12_forgive 38 = .ok (.getfield 122, 3) := by decide +kernel
theorem dX12_forgive_41 : decode cX12_forgive 41 = .ok (.iconst 1, 1) := by decide +kernel
theorem dX12_forgive_42 : decode cX12_forgive 42 = .ok (.isub, 1) := by decide +kernel
theorem dX12_forgive_43 : decode cX12_forgive 43 = .ok (.putfield 122, 3) := by decide +kernel
theorem dX12_forgive_46 : decode cX12_forgive 46 = .ok (.return_, 1) := by decide +kernel
noncomputable def s_X12_forgive_4 (a0 : Nat) (M2 : Me) (v3 : Int32) : Option ((Me × Int32) ⊕ (Me × Int32)) :=
  gi M2 a0 12 22 fun v4 =>
  if ((4 : Int32) * v4) ≤ (v3 + (4 : Int32)) then (
    some (Sum.inr (M2, v3))
  ) else (
    gr M2 a0 12 23 fun o5 =>
    gr M2 a0 12 23 fun o6 =>
    li M2 o6 (v3 + (4 : Int32)) fun v7 =>
    si M2 o5 v3 v7 fun M8 =>
    let_v (v3 + (1 : Int32)) fun v9 =>
    some (Sum.inl (M8, v9))
  )
noncomputable def b_X12_forgive (a0 : Nat) (x1 : Int32) (M : Me) : Option (Me) :=
  let_v (((4 : Int32) * x1)) fun v1 =>
  (lp (fun s => s_X12_forgive_4 a0 s.1 s.2) (M, v1)).bind fun e10 =>
  gi e10.1 a0 12 22 fun v11 =>
  pi e10.1 a0 12 22 (v11 - (1 : Int32)) fun M12 =>
  some M12
noncomputable def f_X12_forgive (a0 : Nat) (x1 : Int32) (M : Me) : Option (Me) := ck M a0 12 (b_X12_forgive a0 x1 M)
set_option maxRecDepth 20000 in
theorem vb_X12_forgive (d : Nat) (hd : 0 ≤ d) (a0 : Nat) (x1 : Int32) (M : Me) : V (mX12_forgive, d, 0, 0) (0, 0) M 0 [some (.ref a0), some (.int x1), none] [] (b_X12_forgive a0 x1 M) (fun M2 => some (none, M2)) := by
  unfold b_X12_forgive
  refine v_iconst (q := 1) dX12_forgive_0 rfl ic_4 ?_
  refine v_iload_n (q := 2) dX12_forgive_1 rfl rfl rfl ?_
  refine v_imul (q := 3) dX12_forgive_2 rfl ?_
  refine v_letI (fun v1 => ?_)
  refine v_istore_n (q := 4) (loc2 := [some (.ref a0), some (.int x1), some (.int v1)]) dX12_forgive_3 rfl rfl rfl (Nat.le_of_ble_eq_true rfl) rfl ?_
  refine v_lps (S := Me × Int32) 36 (fun s => s.1) (fun s => [some (.ref a0), some (.int x1), some (.int s.2)]) (fun e10 => e10.1) (fun e10 => [some (.ref a0), some (.int x1), some (.int e10.2)]) (fun e10 => ?_) (fun k K hk hx s => ?_)
  · refine v_aload_n (q := 37) dX12_forgive_36 rfl rfl rfl ?_
    refine v_dup (q := 38) dX12_forgive_37 rfl rfl ?_
    refine v_getIb (q := 41) dX12_forgive_38 rfl fg_X12_122 (fun v11 => ?_)
    refine v_iconst (q := 42) dX12_forgive_41 rfl ic_1 ?_
    refine v_isub (q := 43) dX12_forgive_42 rfl ?_
    refine v_putIb (q := 46) dX12_forgive_43 rfl fp_X12_122 (fun M12 => ?_)
    exact v_vret rfl dX12_forgive_46 ⟨Nat.le_of_ble_eq_true rfl, Nat.le_of_ble_eq_true rfl⟩ rfl
  · obtain ⟨M2, v3⟩ := s
    show V _ _ M2 4 [some (.ref a0), some (.int x1), some (.int v3)] [] (s_X12_forgive_4 a0 M2 v3) _
    unfold s_X12_forgive_4
    refine v_iload_n (q := 5) dX12_forgive_4 rfl rfl rfl ?_
    refine v_iconst (q := 6) dX12_forgive_5 rfl ic_4 ?_
    refine v_iadd (q := 7) dX12_forgive_6 rfl ?_
    refine v_iconst (q := 8) dX12_forgive_7 rfl ic_4 ?_
    refine v_aload_n (q := 9) dX12_forgive_8 rfl rfl rfl ?_
    refine v_getIb (q := 12) dX12_forgive_9 rfl fg_X12_122 (fun v4 => ?_)
    refine v_imul (q := 13) dX12_forgive_12 rfl ?_
    refine v_icmp_ge (tgt := 36) (q := 16) dX12_forgive_13 rfl rfl ?_ ?_
    · exact v_inr (hx (M2, v3))
    · refine v_aload_n (q := 17) dX12_forgive_16 rfl rfl rfl ?_
      refine v_getRb (q := 20) dX12_forgive_17 rfl fg_X12_59 (fun o5 => ?_)
      refine v_iload_n (q := 21) dX12_forgive_20 rfl rfl rfl ?_
      refine v_aload_n (q := 22) dX12_forgive_21 rfl rfl rfl ?_
      refine v_getRb (q := 25) dX12_forgive_22 rfl fg_X12_59 (fun o6 => ?_)
      refine v_iload_n (q := 26) dX12_forgive_25 rfl rfl rfl ?_
      refine v_iconst (q := 27) dX12_forgive_26 rfl ic_4 ?_
      refine v_iadd (q := 28) dX12_forgive_27 rfl ?_
      refine v_iaload (q := 29) dX12_forgive_28 rfl (fun v7 => ?_)
      refine v_iastore (q := 30) dX12_forgive_29 rfl (fun M8 => ?_)
      refine v_iincL (q := 33) (x := v3) (cst := (1 : Int32)) (f := fun v9 => [some (.ref a0), some (.int x1), some (.int v9)]) dX12_forgive_30 rfl rfl ic_1 rfl (Nat.le_of_ble_eq_true rfl) (fun _ => rfl) (fun v9 => ?_)
      refine v_goto (tgt := 4) dX12_forgive_33 rfl ?_
      exact v_inl (hk (M8, v9))
theorem ct_X12_forgive (d : Nat) (hd : 0 ≤ d) (a0 : Nat) (x1 : Int32) (M : Me) (r : Me) (hf : f_X12_forgive a0 x1 M = some r) : me_k M a0 = some (12, nf_c 12) ∧ Ct yX12_forgive mX12_forgive d 0 0 [.ref a0, .int x1] M (none, r) := by
  obtain ⟨hk, hb⟩ := ck_some hf
  exact ⟨hk, ct_of (by decide +kernel) rfl rfl (Nat.le_of_ble_eq_true rfl) (vb_X12_forgive d hd a0 x1 M) (by rw [hb]; rfl)⟩
theorem dX12_strike_0 : decode cX12_strike 0 = .ok (.aload_n 0, 1) := by decide +kernel
theorem dX12_strike_1 : decode cX12_strike 1 = .ok (.getfield 53, 3) := by decide +kernel
theorem dX12_strike_4 : decode cX12_strike 4 = .ok (.iload_n 1, 1) := by decide +kernel
theorem dX12_strike_5 : decode cX12_strike 5 = .ok (.aload_n 0, 1) := by decide +kernel
theorem dX12_strike_6 : decode cX12_strike 6 = .ok (.getfield 53, 3) := by decide +kernel
theorem dX12_strike_9 : decode cX12_strike 9 = .ok (.iload_n 1, 1) := by decide +kernel
theorem dX12_strike_10 : decode cX12_strike 10 = .ok (.iaload, 1) := by decide +kernel
theorem dX12_strike_11 : decode cX12_strike 11 = .ok (.iload_n 2, 1) := by decide +kernel
theorem dX12_strike_12 : decode cX12_strike 12 = .ok (.if_icmp .le 14, 3) := by decide +kernel
theorem dX12_strike_15 : decode cX12_strike 15 = .ok (.aload_n 0, 1) := by decide +kernel
theorem dX12_strike_16 : decode cX12_strike 16 = .ok (.getfield 53, 3) := by decide +kernel
theorem dX12_strike_19 : decode cX12_strike 19 = .ok (.iload_n 1, 1) := by decide +kernel
theorem dX12_strike_20 : decode cX12_strike 20 = .ok (.iaload, 1) := by decide +kernel
theorem dX12_strike_21 : decode cX12_strike 21 = .ok (.iload_n 2, 1) := by decide +kernel
theorem dX12_strike_22 : decode cX12_strike 22 = .ok (.isub, 1) := by decide +kernel
theorem dX12_strike_23 : decode cX12_strike 23 = .ok (.goto 4, 3) := by decide +kernel
theorem dX12_strike_26 : decode cX12_strike 26 = .ok (.iconst 0, 1) := by decide +kernel
theorem dX12_strike_27 : decode cX12_strike 27 = .ok (.iastore, 1) := by decide +kernel
theorem dX12_strike_28 : decode cX12_strike 28 = .ok (.aload_n 0, 1) := by decide +kernel
theorem dX12_strike_29 : decode cX12_strike 29 = .ok (.getfield 53, 3) := by decide +kernel
theorem dX12_strike_32 : decode cX12_strike 32 = .ok (.iload_n 1, 1) := by decide +kernel
theorem dX12_strike_33 : decode cX12_strike 33 = .ok (.iaload, 1) := by decide +kernel
theorem dX12_strike_34 : decode cX12_strike 34 = .ok (.ifCond .ne 51, 3) := by decide +kernel
theorem dX12_strike_37 : decode cX12_strike 37 = .ok (.aload_n 0, 1) := by decide +kernel
theorem dX12_strike_38 : decode cX12_strike 38 = .ok (.getfield 122, 3) := by decide +kernel
theorem dX12_strike_41 : decode cX12_strike 41 = .ok (.iconst 1, 1) := by decide +kernel
theorem dX12_strike_42 : decode cX12_strike 42 = .ok (.isub, 1) := by decide +kernel
theorem dX12_strike_43 : decode cX12_strike 43 = .ok (.istore_n 3, 1) := by decide +kernel
theorem dX12_strike_44 : decode cX12_strike 44 = .ok (.iload_n 3, 1) := by decide +kernel
theorem dX12_strike_45 : decode cX12_strike 45 = .ok (.ifCond .lt 40, 3) := by decide +kernel
theorem dX12_strike_48 : decode cX12_strike 48 = .ok (.aload_n 0, 1) := by decide +kernel
theorem dX12_strike_49 : decode cX12_strike 49 = .ok (.getfield 59, 3) := by decide +kernel
theorem dX12_strike_52 : decode cX12_strike 52 = .ok (.iconst 4, 1) := by decide +kernel
theorem dX12_strike_53 : decode cX12_strike 53 = .ok (.iload_n 3, 1) := by decide +kernel
theorem dX12_strike_54 : decode cX12_strike 54 = .ok (.imul, 1) := by decide +kernel
theorem dX12_strike_55 : decode cX12_strike 55 = .ok (.iaload, 1) := by decide +kernel
theorem dX12_strike_56 : decode cX12_strike 56 = .ok (.iload_n 1, 1) := by decide +kernel
theorem dX12_strike_57 : decode cX12_strike 57 = .ok (.if_icmp .eq 17, 3) := by decide +kernel
theorem dX12_strike_60 : decode cX12_strike 60 = .ok (.aload_n 0, 1) := by decide +kernel
theorem dX12_strike_61 : decode cX12_strike 61 = .ok (.getfield 59, 3) := by decide +kernel
theorem dX12_strike_64 : decode cX12_strike 64 = .ok (.iconst 4, 1) := by decide +kernel
theorem dX12_strike_65 : decode cX12_strike 65 = .ok (.iload_n 3, 1) := by decide +kernel
theorem dX12_strike_66 : decode cX12_strike 66 = .ok (.imul, 1) := by decide +kernel
theorem dX12_strike_67 : decode cX12_strike 67 = .ok (.iconst 1, 1) := by decide +kernel
theorem dX12_strike_68 : decode cX12_strike 68 = .ok (.iadd, 1) := by decide +kernel
theorem dX12_strike_69 : decode cX12_strike 69 = .ok (.iaload, 1) := by decide +kernel
theorem dX12_strike_70 : decode cX12_strike 70 = .ok (.iload_n 1, 1) := by decide +kernel
theorem dX12_strike_71 : decode cX12_strike 71 = .ok (.if_icmp .ne 8, 3) := by decide +kernel
theorem dX12_strike_74 : decode cX12_strike 74 = .ok (.aload_n 0, 1) := by decide +kernel
theorem dX12_strike_75 : decode cX12_strike 75 = .ok (.iload_n 3, 1) := by decide +kernel
theorem dX12_strike_76 : decode cX12_strike 76 = .ok (.invokevirtual 125, 3) := by decide +kernel
theorem dX12_strike_79 : decode cX12_strike 79 = .ok (.iinc 3 (-1), 3) := by decide +kernel
theorem dX12_strike_82 : decode cX12_strike 82 = .ok (.goto (-38), 3) := by decide +kernel
theorem dX12_strike_85 : decode cX12_strike 85 = .ok (.return_, 1) := by decide +kernel
noncomputable def s_X12_strike_44 (a0 : Nat) (x1 : Int32) (M12 : Me) (v13 : Int32) : Option ((Me × Int32) ⊕ (Me × Int32)) :=
  if v13 < 0 then (
    some (Sum.inr (M12, v13))
  ) else (
    gr M12 a0 12 23 fun o14 =>
    li M12 o14 ((4 : Int32) * v13) fun v15 =>
    (
      if v15 = x1 then (
        cM (f_X12_forgive a0 v13 M12) fun M16 =>
        some M16
      ) else (
        gr M12 a0 12 23 fun o17 =>
        li M12 o17 (((4 : Int32) * v13) + (1 : Int32)) fun v18 =>
        if v18 = x1 then (
          cM (f_X12_forgive a0 v13 M12) fun M19 =>
          some M19
        ) else (
          some M12
        )
      )
    ).bind fun M20 =>
    let_v (v13 + (-1 : Int32)) fun v21 =>
    some (Sum.inl (M20, v21))
  )
noncomputable def b_X12_strike (a0 : Nat) (x1 : Int32) (x2 : Int32) (M : Me) : Option (Me) :=
  gr M a0 12 20 fun o1 =>
  gr M a0 12 20 fun o2 =>
  li M o2 x1 fun v3 =>
  (
    if v3 ≤ x2 then (
      some (0 : Int32)
    ) else (
      gr M a0 12 20 fun o4 =>
      li M o4 x1 fun v5 =>
      some (v5 - x2)
    )
  ).bind fun v6 =>
  si M o1 x1 v6 fun M7 =>
  gr M7 a0 12 20 fun o8 =>
  li M7 o8 x1 fun v9 =>
  (
    if v9 = 0 then (
      gi M7 a0 12 22 fun v10 =>
      let_v ((v10 - (1 : Int32))) fun v11 =>
      (lp (fun s => s_X12_strike_44 a0 x1 s.1 s.2) (M7, v11)).bind fun e22 =>
      some e22.1
    ) else (
      some M7
    )
  ).bind fun M23 =>
  some M23
noncomputable def f_X12_strike (a0 : Nat) (x1 : Int32) (x2 : Int32) (M : Me) : Option (Me) := ck M a0 12 (b_X12_strike a0 x1 x2 M)
set_option maxRecDepth 20000 in
theorem vb_X12_strike (d : Nat) (hd : 1 ≤ d) (a0 : Nat) (x1 : Int32) (x2 : Int32) (M : Me) : V (mX12_strike, d, 0, 0) (0, 0) M 0 [some (.ref a0), some (.int x1), some (.int x2), none] [] (b_X12_strike a0 x1 x2 M) (fun M2 => some (none, M2)) := by
  unfold b_X12_strike
  refine v_aload_n (q := 1) dX12_strike_0 rfl rfl rfl ?_
  refine v_getRb (q := 4) dX12_strike_1 rfl fg_X12_53 (fun o1 => ?_)
  refine v_iload_n (q := 5) dX12_strike_4 rfl rfl rfl ?_
  refine v_aload_n (q := 6) dX12_strike_5 rfl rfl rfl ?_
  refine v_getRb (q := 9) dX12_strike_6 rfl fg_X12_53 (fun o2 => ?_)
  refine v_iload_n (q := 10) dX12_strike_9 rfl rfl rfl ?_
  refine v_iaload (q := 11) dX12_strike_10 rfl (fun v3 => ?_)
  refine v_iload_n (q := 12) dX12_strike_11 rfl rfl rfl ?_
  refine v_join (γ := Int32) 27 (fun v6 => M) (fun v6 => [some (.ref a0), some (.int x1), some (.int x2), none]) (fun v6 => [.int v6, .int x1, .ref o1]) (fun K hK => ?_) (fun v6 => ?_)
  · refine v_icmp_le (tgt := 26) (q := 15) dX12_strike_12 rfl rfl ?_ ?_
    · refine v_iconst (q := 27) dX12_strike_26 rfl ic_0 ?_
      exact hK (0 : Int32)
    · refine v_aload_n (q := 16) dX12_strike_15 rfl rfl rfl ?_
      refine v_getRb (q := 19) dX12_strike_16 rfl fg_X12_53 (fun o4 => ?_)
      refine v_iload_n (q := 20) dX12_strike_19 rfl rfl rfl ?_
      refine v_iaload (q := 21) dX12_strike_20 rfl (fun v5 => ?_)
      refine v_iload_n (q := 22) dX12_strike_21 rfl rfl rfl ?_
      refine v_isub (q := 23) dX12_strike_22 rfl ?_
      refine v_goto (tgt := 27) dX12_strike_23 rfl ?_
      exact hK (v5 - x2)
  · refine v_iastore (q := 28) dX12_strike_27 rfl (fun M7 => ?_)
    refine v_aload_n (q := 29) dX12_strike_28 rfl rfl rfl ?_
    refine v_getRb (q := 32) dX12_strike_29 rfl fg_X12_53 (fun o8 => ?_)
    refine v_iload_n (q := 33) dX12_strike_32 rfl rfl rfl ?_
    refine v_iaload (q := 34) dX12_strike_33 rfl (fun v9 => ?_)
    refine v_join (γ := Me) 85 (fun M23 => M23) (fun M23 => [some (.ref a0), some (.int x1), some (.int x2), none]) (fun M23 => []) (fun K hK => ?_) (fun M23 => ?_)
    · refine v_if_ne (tgt := 85) (q := 37) dX12_strike_34 rfl rfl ?_ ?_
      · exact hK M7
      · refine v_aload_n (q := 38) dX12_strike_37 rfl rfl rfl ?_
        refine v_getIb (q := 41) dX12_strike_38 rfl fg_X12_122 (fun v10 => ?_)
        refine v_iconst (q := 42) dX12_strike_41 rfl ic_1 ?_
        refine v_isub (q := 43) dX12_strike_42 rfl ?_
        refine v_letI (fun v11 => ?_)
        refine v_istore_n (q := 44) (loc2 := [some (.ref a0), some (.int x1), some (.int x2), some (.int v11)]) dX12_strike_43 rfl rfl rfl (Nat.le_of_ble_eq_true rfl) rfl ?_
        refine v_lps (S := Me × Int32) 85 (fun s => s.1) (fun s => [some (.ref a0), some (.int x1), some (.int x2), some (.int s.2)]) (fun e22 => e22.1) (fun e22 => [some (.ref a0), some (.int x1), some (.int x2), some (.int e22.2)]) (fun e22 => ?_) (fun k K hk hx s => ?_)
        · exact v_weak (hK e22.1) ⟨rfl, ⟨rfl, ⟨rfl, trivial⟩⟩⟩
        · obtain ⟨M12, v13⟩ := s
          show V _ _ M12 44 [some (.ref a0), some (.int x1), some (.int x2), some (.int v13)] [] (s_X12_strike_44 a0 x1 M12 v13) _
          unfold s_X12_strike_44
          refine v_iload_n (q := 45) dX12_strike_44 rfl rfl rfl ?_
          refine v_if_lt (tgt := 85) (q := 48) dX12_strike_45 rfl rfl ?_ ?_
          · exact v_inr (hx (M12, v13))
          · refine v_aload_n (q := 49) dX12_strike_48 rfl rfl rfl ?_
            refine v_getRb (q := 52) dX12_strike_49 rfl fg_X12_59 (fun o14 => ?_)
            refine v_iconst (q := 53) dX12_strike_52 rfl ic_4 ?_
            refine v_iload_n (q := 54) dX12_strike_53 rfl rfl rfl ?_
            refine v_imul (q := 55) dX12_strike_54 rfl ?_
            refine v_iaload (q := 56) dX12_strike_55 rfl (fun v15 => ?_)
            refine v_iload_n (q := 57) dX12_strike_56 rfl rfl rfl ?_
            refine v_join (γ := Me) 79 (fun M20 => M20) (fun M20 => [some (.ref a0), some (.int x1), some (.int x2), some (.int v13)]) (fun M20 => []) (fun K hK => ?_) (fun M20 => ?_)
            · refine v_icmp_eq (tgt := 74) (q := 60) dX12_strike_57 rfl rfl ?_ ?_
              · refine v_aload_n (q := 75) dX12_strike_74 rfl rfl rfl ?_
                refine v_iload_n (q := 76) dX12_strike_75 rfl rfl rfl ?_
                refine v_cMV1 (q := 79) (ct_X12_forgive (d - 1) (by omega) _ _ _) dX12_strike_76 rfl cc_X12_125 (by omega) (Nat.le_of_ble_eq_true rfl) ⟨Nat.le_of_ble_eq_true rfl, Nat.le_of_ble_eq_true rfl⟩ (fun M16 => ?_)
                exact hK M16
              · refine v_aload_n (q := 61) dX12_strike_60 rfl rfl rfl ?_
                refine v_getRb (q := 64) dX12_strike_61 rfl fg_X12_59 (fun o17 => ?_)
                refine v_iconst (q := 65) dX12_strike_64 rfl ic_4 ?_
                refine v_iload_n (q := 66) dX12_strike_65 rfl rfl rfl ?_
                refine v_imul (q := 67) dX12_strike_66 rfl ?_
                refine v_iconst (q := 68) dX12_strike_67 rfl ic_1 ?_
                refine v_iadd (q := 69) dX12_strike_68 rfl ?_
                refine v_iaload (q := 70) dX12_strike_69 rfl (fun v18 => ?_)
                refine v_iload_n (q := 71) dX12_strike_70 rfl rfl rfl ?_
                refine v_icmp_ne (tgt := 79) (q := 74) dX12_strike_71 rfl rfl ?_ ?_
                · exact hK M12
                · refine v_aload_n (q := 75) dX12_strike_74 rfl rfl rfl ?_
                  refine v_iload_n (q := 76) dX12_strike_75 rfl rfl rfl ?_
                  refine v_cMV1 (q := 79) (ct_X12_forgive (d - 1) (by omega) _ _ _) dX12_strike_76 rfl cc_X12_125 (by omega) (Nat.le_of_ble_eq_true rfl) ⟨Nat.le_of_ble_eq_true rfl, Nat.le_of_ble_eq_true rfl⟩ (fun M19 => ?_)
                  exact hK M19
            · refine v_iincL (q := 82) (x := v13) (cst := (-1 : Int32)) (f := fun v21 => [some (.ref a0), some (.int x1), some (.int x2), some (.int v21)]) dX12_strike_79 rfl rfl ic_m1 rfl (Nat.le_of_ble_eq_true rfl) (fun _ => rfl) (fun v21 => ?_)
              refine v_goto (tgt := 44) dX12_strike_82 rfl ?_
              exact v_inl (hk (M20, v21))
    · exact v_vret rfl dX12_strike_85 ⟨Nat.le_of_ble_eq_true rfl, Nat.le_of_ble_eq_true rfl⟩ rfl
theorem ct_X12_strike (d : Nat) (hd : 1 ≤ d) (a0 : Nat) (x1 : Int32) (x2 : Int32) (M : Me) (r : Me) (hf : f_X12_strike a0 x1 x2 M = some r) : me_k M a0 = some (12, nf_c 12) ∧ Ct yX12_strike mX12_strike d 0 0 [.ref a0, .int x1, .int x2] M (none, r) := by
  obtain ⟨hk, hb⟩ := ck_some hf
  exact ⟨hk, ct_of (by decide +kernel) rfl rfl (Nat.le_of_ble_eq_true rfl) (vb_X12_strike d hd a0 x1 x2 M) (by rw [hb]; rfl)⟩
theorem dX12_isAlive_0 : decode cX12_isAlive 0 = .ok (.aload_n 0, 1) := by decide +kernel
theorem dX12_isAlive_1 : decode cX12_isAlive 1 = .ok (.iload_n 1, 1) := by decide +kernel
theorem dX12_isAlive_2 : decode cX12_isAlive 2 = .ok (.invokevirtual 102, 3) := by decide +kernel
theorem dX12_isAlive_5 : decode cX12_isAlive 5 = .ok (.ifCond .eq 16, 3) := by decide +kernel
theorem dX12_isAlive_8 : decode cX12_isAlive 8 = .ok (.aload_n 0, 1) := by decide +kernel
theorem dX12_isAlive_9 : decode cX12_isAlive 9 = .ok (.getfield 53, 3) := by decide +kernel
theorem dX12_isAlive_12 : decode cX12_isAlive 12 = .ok (.iload_n 1, 1) := by decide +kernel
theorem dX12_isAlive_13 : decode cX12_isAlive 13 = .ok (.iaload, 1) := by decide +kernel
theorem dX12_isAlive_14 : decode cX12_isAlive 14 = .ok (.ifCond .le 7, 3) := by decide +kernel
theorem dX12_isAlive_17 : decode cX12_isAlive 17 = .ok (.iconst 1, 1) := by decide +kernel
theorem dX12_isAlive_18 : decode cX12_isAlive 18 = .ok (.goto 4, 3) := by decide +kernel
theorem dX12_isAlive_21 : decode cX12_isAlive 21 = .ok (.iconst 0, 1) := by decide +kernel
theorem dX12_isAlive_22 : decode cX12_isAlive 22 = .ok (.ireturn, 1) := by decide +kernel
noncomputable def b_X12_isAlive (a0 : Nat) (x1 : Int32) (M : Me) : Option (Int32) :=
  cP (f_X12_isThere a0 x1 M) fun v1 =>
  (
    if v1 = 0 then (
      some (0 : Int32)
    ) else (
      gr M a0 12 20 fun o2 =>
      li M o2 x1 fun v3 =>
      if v3 ≤ 0 then (
        some (0 : Int32)
      ) else (
        some (1 : Int32)
      )
    )
  ).bind fun v4 =>
  if v4 = 0 ∨ v4 = 1 then some v4 else none
noncomputable def f_X12_isAlive (a0 : Nat) (x1 : Int32) (M : Me) : Option (Int32) := ck M a0 12 (b_X12_isAlive a0 x1 M)
set_option maxRecDepth 20000 in
theorem vb_X12_isAlive (d : Nat) (hd : 2 ≤ d) (a0 : Nat) (x1 : Int32) (M : Me) : V (mX12_isAlive, d, 0, 0) (0, 0) M 0 [some (.ref a0), some (.int x1)] [] (b_X12_isAlive a0 x1 M) (fun z => some (some (.int z), M)) := by
  unfold b_X12_isAlive
  refine v_aload_n (q := 1) dX12_isAlive_0 rfl rfl rfl ?_
  refine v_iload_n (q := 2) dX12_isAlive_1 rfl rfl rfl ?_
  refine v_cPV1 (q := 5) (ct_X12_isThere (d - 1) (by omega) _ _ _) dX12_isAlive_2 rfl cc_X12_102 (by omega) (Nat.le_of_ble_eq_true rfl) ⟨Nat.le_of_ble_eq_true rfl, Nat.le_of_ble_eq_true rfl⟩ (fun v1 => ?_)
  refine v_join (γ := Int32) 22 (fun v4 => M) (fun v4 => [some (.ref a0), some (.int x1)]) (fun v4 => [.int v4]) (fun K hK => ?_) (fun v4 => ?_)
  · refine v_if_eq (tgt := 21) (q := 8) dX12_isAlive_5 rfl rfl ?_ ?_
    · refine v_iconst (q := 22) dX12_isAlive_21 rfl ic_0 ?_
      exact hK (0 : Int32)
    · refine v_aload_n (q := 9) dX12_isAlive_8 rfl rfl rfl ?_
      refine v_getRb (q := 12) dX12_isAlive_9 rfl fg_X12_53 (fun o2 => ?_)
      refine v_iload_n (q := 13) dX12_isAlive_12 rfl rfl rfl ?_
      refine v_iaload (q := 14) dX12_isAlive_13 rfl (fun v3 => ?_)
      refine v_if_le (tgt := 21) (q := 17) dX12_isAlive_14 rfl rfl ?_ ?_
      · refine v_iconst (q := 22) dX12_isAlive_21 rfl ic_0 ?_
        exact hK (0 : Int32)
      · refine v_iconst (q := 18) dX12_isAlive_17 rfl ic_1 ?_
        refine v_goto (tgt := 22) dX12_isAlive_18 rfl ?_
        exact hK (1 : Int32)
  · exact v_zretC rfl dX12_isAlive_22 ⟨Nat.le_of_ble_eq_true rfl, Nat.le_of_ble_eq_true rfl⟩ rfl
theorem ct_X12_isAlive (d : Nat) (hd : 2 ≤ d) (a0 : Nat) (x1 : Int32) (M : Me) (r : Int32) (hf : f_X12_isAlive a0 x1 M = some r) : me_k M a0 = some (12, nf_c 12) ∧ Ct yX12_isAlive mX12_isAlive d 0 0 [.ref a0, .int x1] M (some (.int r), M) := by
  obtain ⟨hk, hb⟩ := ck_some hf
  exact ⟨hk, ct_of (by decide +kernel) rfl rfl (Nat.le_of_ble_eq_true rfl) (vb_X12_isAlive d hd a0 x1 M) (by rw [hb]; rfl)⟩
theorem dX12_whyNotStrike_0 : decode cX12_whyNotStrike 0 = .ok (.aload_n 0, 1) := by decide +kernel
theorem dX12_whyNotStrike_1 : decode cX12_whyNotStrike 1 = .ok (.iload_n 1, 1) := by decide +kernel
theorem dX12_whyNotStrike_2 : decode cX12_whyNotStrike 2 = .ok (.invokevirtual 129, 3) := by decide +kernel
theorem dX12_whyNotStrike_5 : decode cX12_whyNotStrike 5 = .ok (.ifCond .eq 16, 3) := by decide +kernel
theorem dX12_whyNotStrike_8 : decode cX12_whyNotStrike 8 = .ok (.aload_n 0, 1) := by decide +kernel
theorem dX12_whyNotStrike_9 : decode cX12_whyNotStrike 9 = .ok (.iload_n 2, 1) := by decide +kernel
theorem dX12_whyNotStrike_10 : decode cX12_whyNotStrike 10 = .ok (.invokevirtual 129, 3) := by decide +kernel
theorem dX12_whyNotStrike_13 : decode cX12_whyNotStrike 13 = .ok (.ifCond .eq 8, 3) := by decide +kernel
theorem dX12_whyNotStrike_16 : decode cX12_whyNotStrike 16 = .ok (.iload_n 1, 1) := by decide +kernel
theorem dX12_whyNotStrike_17 : decode cX12_whyNotStrike 17 = .ok (.iload_n 2, 1) := by decide +kernel
theorem dX12_whyNotStrike_18 : decode cX12_whyNotStrike 18 = .ok (.if_icmp .ne 5, 3) := by decide +kernel
theorem dX12_whyNotStrike_21 : decode cX12_whyNotStrike 21 = .ok (.iconst 1, 1) := by decide +kernel
theorem dX12_whyNotStrike_22 : decode cX12_whyNotStrike 22 = .ok (.ireturn, 1) := by decide +kernel
theorem dX12_whyNotStrike_23 : decode cX12_whyNotStrike 23 = .ok (.aload_n 0, 1) := by decide +kernel
theorem dX12_whyNotStrike_24 : decode cX12_whyNotStrike 24 = .ok (.getfield 50, 3) := by decide +kernel
theorem dX12_whyNotStrike_27 : decode cX12_whyNotStrike 27 = .ok (.iload_n 1, 1) := by decide +kernel
theorem dX12_whyNotStrike_28 : decode cX12_whyNotStrike 28 = .ok (.iaload, 1) := by decide +kernel
theorem dX12_whyNotStrike_29 : decode cX12_whyNotStrike 29 = .ok (.ifCond .gt 12, 3) := by decide +kernel
theorem dX12_whyNotStrike_32 : decode cX12_whyNotStrike 32 = .ok (.aload_n 0, 1) := by decide +kernel
theorem dX12_whyNotStrike_33 : decode cX12_whyNotStrike 33 = .ok (.getfield 50, 3) := by decide +kernel
theorem dX12_whyNotStrike_36 : decode cX12_whyNotStrike 36 = .ok (.iload_n 2, 1) := by decide +kernel
theorem dX12_whyNotStrike_37 : decode cX12_whyNotStrike 37 = .ok (.iaload, 1) := by decide +kernel
theorem dX12_whyNotStrike_38 : decode cX12_whyNotStrike 38 = .ok (.ifCond .le 5, 3) := by decide +kernel
theorem dX12_whyNotStrike_41 : decode cX12_whyNotStrike 41 = .ok (.iconst 2, 1) := by decide +kernel
theorem dX12_whyNotStrike_42 : decode cX12_whyNotStrike 42 = .ok (.ireturn, 1) := by decide +kernel
theorem dX12_whyNotStrike_43 : decode cX12_whyNotStrike 43 = .ok (.aload_n 0, 1) := by decide +kernel
theorem dX12_whyNotStrike_44 : decode cX12_whyNotStrike 44 = .ok (.getfield 47, 3) := by decide +kernel
theorem dX12_whyNotStrike_47 : decode cX12_whyNotStrike 47 = .ok (.iload_n 1, 1) := by decide +kernel
theorem dX12_whyNotStrike_48 : decode cX12_whyNotStrike 48 = .ok (.iaload, 1) := by decide +kernel
theorem dX12_whyNotStrike_49 : decode cX12_whyNotStrike 49 = .ok (.aload_n 0, 1) := by decide +kernel
theorem dX12_whyNotStrike_50 : decode cX12_whyNotStrike 50 = .ok (.getfield 47, 3) := by decide +kernel
theorem dX12_whyNotStrike_53 : decode cX12_whyNotStrike 53 = .ok (.iload_n 2, 1) := by decide +kernel
theorem dX12_whyNotStrike_54 : decode cX12_whyNotStrike 54 = .ok (.iaload, 1) := by decide +kernel
theorem dX12_whyNotStrike_55 : decode cX12_whyNotStrike 55 = .ok (.if_icmp .eq 7, 3) := by decide +kernel
theorem dX12_whyNotStrike_58 : decode cX12_whyNotStrike 58 = .ok (.iconst 3, 1) := by decide +kernel
theorem dX12_whyNotStrike_59 : decode cX12_whyNotStrike 59 = .ok (.goto 32, 3) := by decide +kernel
theorem dX12_whyNotStrike_62 : decode cX12_whyNotStrike 62 = .ok (.iload_n 3, 1) := by decide +kernel
theorem dX12_whyNotStrike_63 : decode cX12_whyNotStrike 63 = .ok (.aload_n 0, 1) := by decide +kernel
theorem dX12_whyNotStrike_64 : decode cX12_whyNotStrike 64 = .ok (.getfield 20, 3) := by decide +kernel
theorem dX12_whyNotStrike_67 : decode cX12_whyNotStrike 67 = .ok (.iload_n 1, 1) := by decide +kernel
theorem dX12_whyNotStrike_68 : decode cX12_whyNotStrike 68 = .ok (.iaload, 1) := by decide +kernel
theorem dX12_whyNotStrike_69 : decode cX12_whyNotStrike 69 = .ok (.if_icmp .le 7, 3) := by decide +kernel
theorem dX12_whyNotStrike_72 : decode cX12_whyNotStrike 72 = .ok (.iconst 4, 1) := by decide +kernel
theorem dX12_whyNotStrike_73 : decode cX12_whyNotStrike 73 = .ok (.goto 18, 3) := by decide +kernel
theorem dX12_whyNotStrike_76 : decode cX12_whyNotStrike 76 = .ok (.aload_n 0, 1) := by decide +kernel
theorem dX12_whyNotStrike_77 : decode cX12_whyNotStrike 77 = .ok (.getfield 122, 3) := by decide +kernel
theorem dX12_whyNotStrike_80 : decode cX12_whyNotStrike 80 = .ok (.bipush 12, 2) := by decide +kernel
theorem dX12_whyNotStrike_82 : decode cX12_whyNotStrike 82 = .ok (.if_icmp .ne 8, 3) := by decide +kernel
theorem dX12_whyNotStrike_85 : decode cX12_whyNotStrike 85 = .ok (.bipush 7, 2) := by decide +kernel
theorem dX12_whyNotStrike_87 : decode cX12_whyNotStrike 87 = .ok (.goto 4, 3) := by decide +kernel
theorem dX12_whyNotStrike_90 : decode cX12_whyNotStrike 90 = .ok (.iconst 0, 1) := by decide +kernel
theorem dX12_whyNotStrike_91 : decode cX12_whyNotStrike 91 = .ok (.ireturn, 1) := by decide +kernel
noncomputable def b_X12_whyNotStrike (a0 : Nat) (x1 : Int32) (x2 : Int32) (x3 : Int32) (M : Me) : Option (Int32) :=
  cP (f_X12_isAlive a0 x1 M) fun v1 =>
  if v1 = 0 then (
    some (1 : Int32)
  ) else (
    cP (f_X12_isAlive a0 x2 M) fun v2 =>
    if v2 = 0 then (
      some (1 : Int32)
    ) else (
      if x1 = x2 then (
        some (1 : Int32)
      ) else (
        gr M a0 12 19 fun o3 =>
        li M o3 x1 fun v4 =>
        if 0 < v4 then (
          some (2 : Int32)
        ) else (
          gr M a0 12 19 fun o5 =>
          li M o5 x2 fun v6 =>
          if v6 ≤ 0 then (
            gr M a0 12 18 fun o7 =>
            li M o7 x1 fun v8 =>
            gr M a0 12 18 fun o9 =>
            li M o9 x2 fun v10 =>
            (
              if v8 = v10 then (
                gr M a0 12 4 fun o11 =>
                li M o11 x1 fun v12 =>
                if x3 ≤ v12 then (
                  gi M a0 12 22 fun v13 =>
                  if v13 = (12 : Int32) then (
                    some (7 : Int32)
                  ) else (
                    some (0 : Int32)
                  )
                ) else (
                  some (4 : Int32)
                )
              ) else (
                some (3 : Int32)
              )
            ).bind fun v14 =>
            some v14
          ) else (
            some (2 : Int32)
          )
        )
      )
    )
  )
noncomputable def f_X12_whyNotStrike (a0 : Nat) (x1 : Int32) (x2 : Int32) (x3 : Int32) (M : Me) : Option (Int32) := ck M a0 12 (b_X12_whyNotStrike a0 x1 x2 x3 M)
set_option maxRecDepth 20000 in
theorem vb_X12_whyNotStrike (d : Nat) (hd : 3 ≤ d) (a0 : Nat) (x1 : Int32) (x2 : Int32) (x3 : Int32) (M : Me) : V (mX12_whyNotStrike, d, 0, 0) (0, 0) M 0 [some (.ref a0), some (.int x1), some (.int x2), some (.int x3)] [] (b_X12_whyNotStrike a0 x1 x2 x3 M) (fun z => some (some (.int z), M)) := by
  unfold b_X12_whyNotStrike
  refine v_aload_n (q := 1) dX12_whyNotStrike_0 rfl rfl rfl ?_
  refine v_iload_n (q := 2) dX12_whyNotStrike_1 rfl rfl rfl ?_
  refine v_cPV1 (q := 5) (ct_X12_isAlive (d - 1) (by omega) _ _ _) dX12_whyNotStrike_2 rfl cc_X12_129 (by omega) (Nat.le_of_ble_eq_true rfl) ⟨Nat.le_of_ble_eq_true rfl, Nat.le_of_ble_eq_true rfl⟩ (fun v1 => ?_)
  refine v_if_eq (tgt := 21) (q := 8) dX12_whyNotStrike_5 rfl rfl ?_ ?_
  · refine v_iconst (q := 22) dX12_whyNotStrike_21 rfl ic_1 ?_
    exact v_iret rfl dX12_whyNotStrike_22 ⟨Nat.le_of_ble_eq_true rfl, Nat.le_of_ble_eq_true rfl⟩ rfl
  · refine v_aload_n (q := 9) dX12_whyNotStrike_8 rfl rfl rfl ?_
    refine v_iload_n (q := 10) dX12_whyNotStrike_9 rfl rfl rfl ?_
    refine v_cPV1 (q := 13) (ct_X12_isAlive (d - 1) (by omega) _ _ _) dX12_whyNotStrike_10 rfl cc_X12_129 (by omega) (Nat.le_of_ble_eq_true rfl) ⟨Nat.le_of_ble_eq_true rfl, Nat.le_of_ble_eq_true rfl⟩ (fun v2 => ?_)
    refine v_if_eq (tgt := 21) (q := 16) dX12_whyNotStrike_13 rfl rfl ?_ ?_
    · refine v_iconst (q := 22) dX12_whyNotStrike_21 rfl ic_1 ?_
      exact v_iret rfl dX12_whyNotStrike_22 ⟨Nat.le_of_ble_eq_true rfl, Nat.le_of_ble_eq_true rfl⟩ rfl
    · refine v_iload_n (q := 17) dX12_whyNotStrike_16 rfl rfl rfl ?_
      refine v_iload_n (q := 18) dX12_whyNotStrike_17 rfl rfl rfl ?_
      refine v_icmp_ne (tgt := 23) (q := 21) dX12_whyNotStrike_18 rfl rfl ?_ ?_
      · refine v_aload_n (q := 24) dX12_whyNotStrike_23 rfl rfl rfl ?_
        refine v_getRb (q := 27) dX12_whyNotStrike_24 rfl fg_X12_50 (fun o3 => ?_)
        refine v_iload_n (q := 28) dX12_whyNotStrike_27 rfl rfl rfl ?_
        refine v_iaload (q := 29) dX12_whyNotStrike_28 rfl (fun v4 => ?_)
        refine v_if_gt (tgt := 41) (q := 32) dX12_whyNotStrike_29 rfl rfl ?_ ?_
        · refine v_iconst (q := 42) dX12_whyNotStrike_41 rfl ic_2 ?_
          exact v_iret rfl dX12_whyNotStrike_42 ⟨Nat.le_of_ble_eq_true rfl, Nat.le_of_ble_eq_true rfl⟩ rfl
        · refine v_aload_n (q := 33) dX12_whyNotStrike_32 rfl rfl rfl ?_
          refine v_getRb (q := 36) dX12_whyNotStrike_33 rfl fg_X12_50 (fun o5 => ?_)
          refine v_iload_n (q := 37) dX12_whyNotStrike_36 rfl rfl rfl ?_
          refine v_iaload (q := 38) dX12_whyNotStrike_37 rfl (fun v6 => ?_)
          refine v_if_le (tgt := 43) (q := 41) dX12_whyNotStrike_38 rfl rfl ?_ ?_
          · refine v_aload_n (q := 44) dX12_whyNotStrike_43 rfl rfl rfl ?_
            refine v_getRb (q := 47) dX12_whyNotStrike_44 rfl fg_X12_47 (fun o7 => ?_)
            refine v_iload_n (q := 48) dX12_whyNotStrike_47 rfl rfl rfl ?_
            refine v_iaload (q := 49) dX12_whyNotStrike_48 rfl (fun v8 => ?_)
            refine v_aload_n (q := 50) dX12_whyNotStrike_49 rfl rfl rfl ?_
            refine v_getRb (q := 53) dX12_whyNotStrike_50 rfl fg_X12_47 (fun o9 => ?_)
            refine v_iload_n (q := 54) dX12_whyNotStrike_53 rfl rfl rfl ?_
            refine v_iaload (q := 55) dX12_whyNotStrike_54 rfl (fun v10 => ?_)
            refine v_join (γ := Int32) 91 (fun v14 => M) (fun v14 => [some (.ref a0), some (.int x1), some (.int x2), some (.int x3)]) (fun v14 => [.int v14]) (fun K hK => ?_) (fun v14 => ?_)
            · refine v_icmp_eq (tgt := 62) (q := 58) dX12_whyNotStrike_55 rfl rfl ?_ ?_
              · refine v_iload_n (q := 63) dX12_whyNotStrike_62 rfl rfl rfl ?_
                refine v_aload_n (q := 64) dX12_whyNotStrike_63 rfl rfl rfl ?_
                refine v_getRb (q := 67) dX12_whyNotStrike_64 rfl fg_X12_20 (fun o11 => ?_)
                refine v_iload_n (q := 68) dX12_whyNotStrike_67 rfl rfl rfl ?_
                refine v_iaload (q := 69) dX12_whyNotStrike_68 rfl (fun v12 => ?_)
                refine v_icmp_le (tgt := 76) (q := 72) dX12_whyNotStrike_69 rfl rfl ?_ ?_
                · refine v_aload_n (q := 77) dX12_whyNotStrike_76 rfl rfl rfl ?_
                  refine v_getIb (q := 80) dX12_whyNotStrike_77 rfl fg_X12_122 (fun v13 => ?_)
                  refine v_bipush (q := 82) dX12_whyNotStrike_80 rfl bp_12 ?_
                  refine v_icmp_ne (tgt := 90) (q := 85) dX12_whyNotStrike_82 rfl rfl ?_ ?_
                  · refine v_iconst (q := 91) dX12_whyNotStrike_90 rfl ic_0 ?_
                    exact hK (0 : Int32)
                  · refine v_bipush (q := 87) dX12_whyNotStrike_85 rfl bp_7 ?_
                    refine v_goto (tgt := 91) dX12_whyNotStrike_87 rfl ?_
                    exact hK (7 : Int32)
                · refine v_iconst (q := 73) dX12_whyNotStrike_72 rfl ic_4 ?_
                  refine v_goto (tgt := 91) dX12_whyNotStrike_73 rfl ?_
                  exact hK (4 : Int32)
              · refine v_iconst (q := 59) dX12_whyNotStrike_58 rfl ic_3 ?_
                refine v_goto (tgt := 91) dX12_whyNotStrike_59 rfl ?_
                exact hK (3 : Int32)
            · exact v_iret rfl dX12_whyNotStrike_91 ⟨Nat.le_of_ble_eq_true rfl, Nat.le_of_ble_eq_true rfl⟩ rfl
          · refine v_iconst (q := 42) dX12_whyNotStrike_41 rfl ic_2 ?_
            exact v_iret rfl dX12_whyNotStrike_42 ⟨Nat.le_of_ble_eq_true rfl, Nat.le_of_ble_eq_true rfl⟩ rfl
      · refine v_iconst (q := 22) dX12_whyNotStrike_21 rfl ic_1 ?_
        exact v_iret rfl dX12_whyNotStrike_22 ⟨Nat.le_of_ble_eq_true rfl, Nat.le_of_ble_eq_true rfl⟩ rfl
theorem ct_X12_whyNotStrike (d : Nat) (hd : 3 ≤ d) (a0 : Nat) (x1 : Int32) (x2 : Int32) (x3 : Int32) (M : Me) (r : Int32) (hf : f_X12_whyNotStrike a0 x1 x2 x3 M = some r) : me_k M a0 = some (12, nf_c 12) ∧ Ct yX12_whyNotStrike mX12_whyNotStrike d 0 0 [.ref a0, .int x1, .int x2, .int x3] M (some (.int r), M) := by
  obtain ⟨hk, hb⟩ := ck_some hf
  exact ⟨hk, ct_of (by decide +kernel) rfl rfl (Nat.le_of_ble_eq_true rfl) (vb_X12_whyNotStrike d hd a0 x1 x2 x3 M) (by rw [hb]; rfl)⟩
theorem dX12_hit_0 : decode cX12_hit 0 = .ok (.aload_n 0, 1) := by decide +kernel
theorem dX12_hit_1 : decode cX12_hit 1 = .ok (.iload_n 2, 1) := by decide +kernel
theorem dX12_hit_2 : decode cX12_hit 2 = .ok (.iload_n 3, 1) := by decide +kernel
theorem dX12_hit_3 : decode cX12_hit 3 = .ok (.invokevirtual 132, 3) := by decide +kernel
theorem dX12_hit_6 : decode cX12_hit 6 = .ok (.aload_n 0, 1) := by decide +kernel
theorem dX12_hit_7 : decode cX12_hit 7 = .ok (.getfield 53, 3) := by decide +kernel
theorem dX12_hit_10 : decode cX12_hit 10 = .ok (.iload_n 2, 1) := by decide +kernel
theorem dX12_hit_11 : decode cX12_hit 11 = .ok (.iaload, 1) := by decide +kernel
theorem dX12_hit_12 : decode cX12_hit 12 = .ok (.ifCond .le 77, 3) := by decide +kernel
theorem dX12_hit_15 : decode cX12_hit 15 = .ok (.aload_n 0, 1) := by decide +kernel
theorem dX12_hit_16 : decode cX12_hit 16 = .ok (.getfield 59, 3) := by decide +kernel
theorem dX12_hit_19 : decode cX12_hit 19 = .ok (.iconst 4, 1) := by decide +kernel
theorem dX12_hit_20 : decode cX12_hit 20 = .ok (.aload_n 0, 1) := by decide +kernel
theorem dX12_hit_21 : decode cX12_hit 21 = .ok (.getfield 122, 3) := by decide +kernel
theorem dX12_hit_24 : decode cX12_hit 24 = .ok (.imul, 1) := by decide +kernel
theorem dX12_hit_25 : decode cX12_hit 25 = .ok (.iload_n 1, 1) := by decide +kernel
theorem dX12_hit_26 : decode cX12_hit 26 = .ok (.iastore, 1) := by decide +kernel
theorem dX12_hit_27 : decode cX12_hit 27 = .ok (.aload_n 0, 1) := by decide +kernel
theorem dX12_hit_28 : decode cX12_hit 28 = .ok (.getfield 59, 3) := by decide +kernel
theorem dX12_hit_31 : decode cX12_hit 31 = .ok (.iconst 4, 1) := by decide +kernel
theorem dX12_hit_32 : decode cX12_hit 32 = .ok (.aload_n 0, 1) := by decide +kernel
theorem dX12_hit_33 : decode cX12_hit 33 = .ok (.getfield 122, 3) := by decide +kernel
theorem dX12_hit_36 : decode cX12_hit 36 = .ok (.imul, 1) := by decide +kernel
theorem dX12_hit_37 : decode cX12_hit 37 = .ok (.iconst 1, 1) := by decide +kernel
theorem dX12_hit_38 : decode cX12_hit 38 = .ok (.iadd, 1) := by decide +kernel
theorem dX12_hit_39 : decode cX12_hit 39 = .ok (.iload_n 2, 1) := by decide +kernel
theorem dX12_hit_40 : decode cX12_hit 40 = .ok (.iastore, 1) := by decide +kernel
theorem dX12_hit_41 : decode cX12_hit 41 = .ok (.aload_n 0, 1) := by decide +kernel
theorem dX12_hit_42 : decode cX12_hit 42 = .ok (.getfield 59, 3) := by decide +kernel
theorem dX12_hit_45 : decode cX12_hit 45 = .ok (.iconst 4, 1) := by decide +kernel
theorem dX12_hit_46 : decode cX12_hit 46 = .ok (.aload_n 0, 1) := by decide +kernel
theorem dX12_hit_47 : decode cX12_hit 47 = .ok (.getfield 122, 3) := by decide +kernel
theorem dX12_hit_50 : decode cX12_hit 50 = .ok (.imul, 1) := by decide +kernel
theorem dX12_hit_51 : decode cX12_hit 51 = .ok (.iconst 2, 1) := by decide +kernel
theorem dX12_hit_52 : decode cX12_hit 52 = .ok (.iadd, 1) := by decide +kernel
theorem dX12_hit_53 : decode cX12_hit 53 = .ok (.iload_n 3, 1) := by decide +kernel
theorem dX12_hit_54 : decode cX12_hit 54 = .ok (.iastore, 1) := by decide +kernel
theorem dX12_hit_55 : decode cX12_hit 55 = .ok (.aload_n 0, 1) := by decide +kernel
theorem dX12_hit_56 : decode cX12_hit 56 = .ok (.getfield 59, 3) := by decide +kernel
theorem dX12_hit_59 : decode cX12_hit 59 = .ok (.iconst 4, 1) := by decide +kernel
theorem dX12_hit_60 : decode cX12_hit 60 = .ok (.aload_n 0, 1) := by decide +kernel
theorem dX12_hit_61 : decode cX12_hit 61 = .ok (.getfield 122, 3) := by decide +kernel
theorem dX12_hit_64 : decode cX12_hit 64 = .ok (.imul, 1) := by decide +kernel
theorem dX12_hit_65 : decode cX12_hit 65 = .ok (.iconst 3, 1) := by decide +kernel
theorem dX12_hit_66 : decode cX12_hit 66 = .ok (.iadd, 1) := by decide +kernel
theorem dX12_hit_67 : decode cX12_hit 67 = .ok (.aload_n 0, 1) := by decide +kernel
theorem dX12_hit_68 : decode cX12_hit 68 = .ok (.getfield 119, 3) := by decide +kernel
theorem dX12_hit_71 : decode cX12_hit 71 = .ok (.aload_n 0, 1) := by decide +kernel
theorem dX12_hit_72 : decode cX12_hit 72 = .ok (.getfield 17, 3) := by decide +kernel
theorem dX12_hit_75 : decode cX12_hit 75 = .ok (.iadd, 1) := by decide +kernel
theorem dX12_hit_76 : decode cX12_hit 76 = .ok (.iconst 1, 1) := by decide +kernel
theorem dX12_hit_77 : decode cX12_hit 77 = .ok (.iadd, 1) := by decide +kernel
theorem dX12_hit_78 : decode cX12_hit 78 = .ok (.iastore, 1) := by decide +kernel
theorem dX12_hit_79 : decode cX12_hit 79 = .ok (.aload_n 0, 1) := by decide +kernel
theorem dX12_hit_80 : decode cX12_hit 80 = .ok (.dup, 1) := by decide +kernel
theorem dX12_hit_81 : decode cX12_hit 81 = .ok (.getfield 122, 3) := by decide +kernel
theorem dX12_hit_84 : decode cX12_hit 84 = .ok (.iconst 1, 1) := by decide +kernel
theorem dX12_hit_85 : decode cX12_hit 85 = .ok (.iadd, 1) := by decide +kernel
theorem dX12_hit_86 : decode cX12_hit 86 = .ok (.putfield 122, 3) := by decide +kernel
theorem dX12_hit_89 : decode cX12_hit 89 = .ok (.return_, 1) := by decide +kernel
noncomputable def b_X12_hit (a0 : Nat) (x1 : Int32) (x2 : Int32) (x3 : Int32) (M : Me) : Option (Me) :=
  cM (f_X12_strike a0 x2 x3 M) fun M1 =>
  gr M1 a0 12 20 fun o2 =>
  li M1 o2 x2 fun v3 =>
  (
    if v3 ≤ 0 then (
      some M1
    ) else (
      gr M1 a0 12 23 fun o4 =>
      gi M1 a0 12 22 fun v5 =>
      si M1 o4 ((4 : Int32) * v5) x1 fun M6 =>
      gr M6 a0 12 23 fun o7 =>
      gi M6 a0 12 22 fun v8 =>
      si M6 o7 (((4 : Int32) * v8) + (1 : Int32)) x2 fun M9 =>
      gr M9 a0 12 23 fun o10 =>
      gi M9 a0 12 22 fun v11 =>
      si M9 o10 (((4 : Int32) * v11) + (2 : Int32)) x3 fun M12 =>
      gr M12 a0 12 23 fun o13 =>
      gi M12 a0 12 22 fun v14 =>
      gi M12 a0 12 17 fun v15 =>
      gi M12 a0 12 2 fun v16 =>
      si M12 o13 (((4 : Int32) * v14) + (3 : Int32)) ((v15 + v16) + (1 : Int32)) fun M17 =>
      gi M17 a0 12 22 fun v18 =>
      pi M17 a0 12 22 (v18 + (1 : Int32)) fun M19 =>
      some M19
    )
  ).bind fun M20 =>
  some M20
noncomputable def f_X12_hit (a0 : Nat) (x1 : Int32) (x2 : Int32) (x3 : Int32) (M : Me) : Option (Me) := ck M a0 12 (b_X12_hit a0 x1 x2 x3 M)
set_option maxRecDepth 20000 in
theorem vb_X12_hit (d : Nat) (hd : 2 ≤ d) (a0 : Nat) (x1 : Int32) (x2 : Int32) (x3 : Int32) (M : Me) : V (mX12_hit, d, 0, 0) (0, 0) M 0 [some (.ref a0), some (.int x1), some (.int x2), some (.int x3)] [] (b_X12_hit a0 x1 x2 x3 M) (fun M2 => some (none, M2)) := by
  unfold b_X12_hit
  refine v_aload_n (q := 1) dX12_hit_0 rfl rfl rfl ?_
  refine v_iload_n (q := 2) dX12_hit_1 rfl rfl rfl ?_
  refine v_iload_n (q := 3) dX12_hit_2 rfl rfl rfl ?_
  refine v_cMV2 (q := 6) (ct_X12_strike (d - 1) (by omega) _ _ _ _) dX12_hit_3 rfl cc_X12_132 (by omega) (Nat.le_of_ble_eq_true rfl) ⟨Nat.le_of_ble_eq_true rfl, Nat.le_of_ble_eq_true rfl⟩ (fun M1 => ?_)
  refine v_aload_n (q := 7) dX12_hit_6 rfl rfl rfl ?_
  refine v_getRb (q := 10) dX12_hit_7 rfl fg_X12_53 (fun o2 => ?_)
  refine v_iload_n (q := 11) dX12_hit_10 rfl rfl rfl ?_
  refine v_iaload (q := 12) dX12_hit_11 rfl (fun v3 => ?_)
  refine v_join (γ := Me) 89 (fun M20 => M20) (fun M20 => [some (.ref a0), some (.int x1), some (.int x2), some (.int x3)]) (fun M20 => []) (fun K hK => ?_) (fun M20 => ?_)
  · refine v_if_le (tgt := 89) (q := 15) dX12_hit_12 rfl rfl ?_ ?_
    · exact hK M1
    · refine v_aload_n (q := 16) dX12_hit_15 rfl rfl rfl ?_
      refine v_getRb (q := 19) dX12_hit_16 rfl fg_X12_59 (fun o4 => ?_)
      refine v_iconst (q := 20) dX12_hit_19 rfl ic_4 ?_
      refine v_aload_n (q := 21) dX12_hit_20 rfl rfl rfl ?_
      refine v_getIb (q := 24) dX12_hit_21 rfl fg_X12_122 (fun v5 => ?_)
      refine v_imul (q := 25) dX12_hit_24 rfl ?_
      refine v_iload_n (q := 26) dX12_hit_25 rfl rfl rfl ?_
      refine v_iastore (q := 27) dX12_hit_26 rfl (fun M6 => ?_)
      refine v_aload_n (q := 28) dX12_hit_27 rfl rfl rfl ?_
      refine v_getRb (q := 31) dX12_hit_28 rfl fg_X12_59 (fun o7 => ?_)
      refine v_iconst (q := 32) dX12_hit_31 rfl ic_4 ?_
      refine v_aload_n (q := 33) dX12_hit_32 rfl rfl rfl ?_
      refine v_getIb (q := 36) dX12_hit_33 rfl fg_X12_122 (fun v8 => ?_)
      refine v_imul (q := 37) dX12_hit_36 rfl ?_
      refine v_iconst (q := 38) dX12_hit_37 rfl ic_1 ?_
      refine v_iadd (q := 39) dX12_hit_38 rfl ?_
      refine v_iload_n (q := 40) dX12_hit_39 rfl rfl rfl ?_
      refine v_iastore (q := 41) dX12_hit_40 rfl (fun M9 => ?_)
      refine v_aload_n (q := 42) dX12_hit_41 rfl rfl rfl ?_
      refine v_getRb (q := 45) dX12_hit_42 rfl fg_X12_59 (fun o10 => ?_)
      refine v_iconst (q := 46) dX12_hit_45 rfl ic_4 ?_
      refine v_aload_n (q := 47) dX12_hit_46 rfl rfl rfl ?_
      refine v_getIb (q := 50) dX12_hit_47 rfl fg_X12_122 (fun v11 => ?_)
      refine v_imul (q := 51) dX12_hit_50 rfl ?_
      refine v_iconst (q := 52) dX12_hit_51 rfl ic_2 ?_
      refine v_iadd (q := 53) dX12_hit_52 rfl ?_
      refine v_iload_n (q := 54) dX12_hit_53 rfl rfl rfl ?_
      refine v_iastore (q := 55) dX12_hit_54 rfl (fun M12 => ?_)
      refine v_aload_n (q := 56) dX12_hit_55 rfl rfl rfl ?_
      refine v_getRb (q := 59) dX12_hit_56 rfl fg_X12_59 (fun o13 => ?_)
      refine v_iconst (q := 60) dX12_hit_59 rfl ic_4 ?_
      refine v_aload_n (q := 61) dX12_hit_60 rfl rfl rfl ?_
      refine v_getIb (q := 64) dX12_hit_61 rfl fg_X12_122 (fun v14 => ?_)
      refine v_imul (q := 65) dX12_hit_64 rfl ?_
      refine v_iconst (q := 66) dX12_hit_65 rfl ic_3 ?_
      refine v_iadd (q := 67) dX12_hit_66 rfl ?_
      refine v_aload_n (q := 68) dX12_hit_67 rfl rfl rfl ?_
      refine v_getIb (q := 71) dX12_hit_68 rfl fg_X12_119 (fun v15 => ?_)
      refine v_aload_n (q := 72) dX12_hit_71 rfl rfl rfl ?_
      refine v_getIb (q := 75) dX12_hit_72 rfl fg_X12_17 (fun v16 => ?_)
      refine v_iadd (q := 76) dX12_hit_75 rfl ?_
      refine v_iconst (q := 77) dX12_hit_76 rfl ic_1 ?_
      refine v_iadd (q := 78) dX12_hit_77 rfl ?_
      refine v_iastore (q := 79) dX12_hit_78 rfl (fun M17 => ?_)
      refine v_aload_n (q := 80) dX12_hit_79 rfl rfl rfl ?_
      refine v_dup (q := 81) dX12_hit_80 rfl rfl ?_
      refine v_getIb (q := 84) dX12_hit_81 rfl fg_X12_122 (fun v18 => ?_)
      refine v_iconst (q := 85) dX12_hit_84 rfl ic_1 ?_
      refine v_iadd (q := 86) dX12_hit_85 rfl ?_
      refine v_putIb (q := 89) dX12_hit_86 rfl fp_X12_122 (fun M19 => ?_)
      exact hK M19
  · exact v_vret rfl dX12_hit_89 ⟨Nat.le_of_ble_eq_true rfl, Nat.le_of_ble_eq_true rfl⟩ rfl
theorem ct_X12_hit (d : Nat) (hd : 2 ≤ d) (a0 : Nat) (x1 : Int32) (x2 : Int32) (x3 : Int32) (M : Me) (r : Me) (hf : f_X12_hit a0 x1 x2 x3 M = some r) : me_k M a0 = some (12, nf_c 12) ∧ Ct yX12_hit mX12_hit d 0 0 [.ref a0, .int x1, .int x2, .int x3] M (none, r) := by
  obtain ⟨hk, hb⟩ := ck_some hf
  exact ⟨hk, ct_of (by decide +kernel) rfl rfl (Nat.le_of_ble_eq_true rfl) (vb_X12_hit d hd a0 x1 x2 x3 M) (by rw [hb]; rfl)⟩
theorem dX12_isOwed_0 : decode cX12_isOwed 0 = .ok (.iconst 0, 1) := by decide +kernel
theorem dX12_isOwed_1 : decode cX12_isOwed 1 = .ok (.istore_n 3, 1) := by decide +kernel
theorem dX12_isOwed_2 : decode cX12_isOwed 2 = .ok (.iconst 0, 1) := by decide +kernel
theorem dX12_isOwed_3 : decode cX12_isOwed 3 = .ok (.istore 4, 2) := by decide +kernel
theorem dX12_isOwed_5 : decode cX12_isOwed 5 = .ok (.iload 4, 2) := by decide +kernel
theorem dX12_isOwed_7 : decode cX12_isOwed 7 = .ok (.aload_n 0, 1) := by decide +kernel
theorem dX12_isOwed_8 : decode cX12_isOwed 8 = .ok (.getfield 122, 3) := by decide +kernel
theorem dX12_isOwed_11 : decode cX12_isOwed 11 = .ok (.if_icmp .ge 53, 3) := by decide +kernel
theorem dX12_isOwed_14 : decode cX12_isOwed 14 = .ok (.iload_n 3, 1) := by decide +kernel
theorem dX12_isOwed_15 : decode cX12_isOwed 15 = .ok (.ifCond .ne 37, 3) := by decide +kernel
theorem dX12_isOwed_18 : decode cX12_isOwed 18 = .ok (.aload_n 0, 1) := by decide +kernel
theorem dX12_isOwed_19 : decode cX12_isOwed 19 = .ok (.getfield 59, 3) := by decide +kernel
theorem dX12_isOwed_22 : decode cX12_isOwed 22 = .ok (.iconst 4, 1) := by decide +kernel
theorem dX12_isOwed_23 : decode cX12_isOwed 23 = .ok (.iload 4, 2) := by decide +kernel
theorem dX12_isOwed_25 : decode cX12_isOwed 25 = .ok (.imul, 1) := by decide +kernel
theorem dX12_isOwed_26 : decode cX12_isOwed 26 = .ok (.iconst 1, 1) := by decide +kernel
theorem dX12_isOwed_27 : decode cX12_isOwed 27 = .ok (.iadd, 1) := by decide +kernel
theorem dX12_isOwed_28 : decode cX12_isOwed 28 = .ok (.iaload, 1) := by decide +kernel
theorem dX12_isOwed_29 : decode cX12_isOwed 29 = .ok (.iload_n 1, 1) := by decide +kernel
theorem dX12_isOwed_30 : decode cX12_isOwed 30 = .ok (.if_icmp .ne 26, 3) := by decide +kernel
theorem dX12_isOwed_33 : decode cX12_isOwed 33 = .ok (.iload_n 2, 1) := by decide +kernel
theorem dX12_isOwed_34 : decode cX12_isOwed 34 = .ok (.ifCond .lt 18, 3) := by decide +kernel
theorem dX12_isOwed_37 : decode cX12_isOwed 37 = .ok (.aload_n 0, 1) := by decide +kernel
theorem dX12_isOwed_38 : decode cX12_isOwed 38 = .ok (.getfield 59, 3) := by decide +kernel
theorem dX12_isOwed_41 : decode cX12_isOwed 41 = .ok (.iconst 4, 1) := by decide +kernel
theorem dX12_isOwed_42 : decode cX12_isOwed 42 = .ok (.iload 4, 2) := by decide +kernel
theorem dX12_isOwed_44 : decode cX12_isOwed 44 = .ok (.imul, 1) := by decide +kernel
theorem dX12_isOwed_45 : decode cX12_isOwed 45 = .ok (.iconst 3, 1) := by decide +kernel
theorem dX12_isOwed_46 : decode cX12_isOwed 46 = .ok (.iadd, 1) := by decide +kernel
theorem dX12_isOwed_47 : decode cX12_isOwed 47 = .ok (.iaload, 1) := by decide +kernel
theorem dX12_isOwed_48 : decode cX12_isOwed 48 = .ok (.iload_n 2, 1) := by decide +kernel
theorem dX12_isOwed_49 : decode cX12_isOwed 49 = .ok (.if_icmp .ne 7, 3) := by decide +kernel
theorem dX12_isOwed_52 : decode cX12_isOwed 52 = .ok (.iconst 1, 1) := by decide +kernel
theorem dX12_isOwed_53 : decode cX12_isOwed 53 = .ok (.goto 4, 3) := by decide +kernel
theorem dX12_isOwed_56 : decode cX12_isOwed 56 = .ok (.iconst 0, 1) := by decide +kernel
theorem dX12_isOwed_57 : decode cX12_isOwed 57 = .ok (.istore_n 3, 1) := by decide +kernel
theorem dX12_isOwed_58 : decode cX12_isOwed 58 = .ok (.iinc 4 1, 3) := by decide +kernel
theorem dX12_isOwed_61 : decode cX12_isOwed 61 = .ok (.goto (-56), 3) := by decide +kernel
theorem dX12_isOwed_64 : decode cX12_isOwed 64 = .ok (.iload_n 3, 1) := by decide +kernel
theorem dX12_isOwed_65 : decode cX12_isOwed 65 = .ok (.ireturn, 1) := by decide +kernel
noncomputable def s_X12_isOwed_5 (a0 : Nat) (x1 : Int32) (x2 : Int32) (M : Me) (v1 : Int32) (v2 : Int32) : Option ((Int32 × Int32) ⊕ (Int32 × Int32)) :=
  gi M a0 12 22 fun v3 =>
  if v3 ≤ v2 then (
    some (Sum.inr (v1, v2))
  ) else (
    (
      if v1 = 0 then (
        gr M a0 12 23 fun o4 =>
        li M o4 (((4 : Int32) * v2) + (1 : Int32)) fun v5 =>
        if v5 = x1 then (
          if x2 < 0 then (
            some (1 : Int32)
          ) else (
            gr M a0 12 23 fun o6 =>
            li M o6 (((4 : Int32) * v2) + (3 : Int32)) fun v7 =>
            if v7 = x2 then (
              some (1 : Int32)
            ) else (
              some (0 : Int32)
            )
          )
        ) else (
          some (0 : Int32)
        )
      ) else (
        some (1 : Int32)
      )
    ).bind fun v8 =>
    let_v (v2 + (1 : Int32)) fun v9 =>
    some (Sum.inl (v8, v9))
  )
noncomputable def b_X12_isOwed (a0 : Nat) (x1 : Int32) (x2 : Int32) (M : Me) : Option (Int32) :=
  (lp (fun s => s_X12_isOwed_5 a0 x1 x2 M s.1 s.2) ((0 : Int32), (0 : Int32))).bind fun e10 =>
  if e10.1 = 0 ∨ e10.1 = 1 then some e10.1 else none
noncomputable def f_X12_isOwed (a0 : Nat) (x1 : Int32) (x2 : Int32) (M : Me) : Option (Int32) := ck M a0 12 (b_X12_isOwed a0 x1 x2 M)
set_option maxRecDepth 20000 in
theorem vb_X12_isOwed (d : Nat) (hd : 0 ≤ d) (a0 : Nat) (x1 : Int32) (x2 : Int32) (M : Me) : V (mX12_isOwed, d, 0, 0) (0, 0) M 0 [some (.ref a0), some (.int x1), some (.int x2), none, none] [] (b_X12_isOwed a0 x1 x2 M) (fun z => some (some (.int z), M)) := by
  unfold b_X12_isOwed
  refine v_iconst (q := 1) dX12_isOwed_0 rfl ic_0 ?_
  refine v_istore_n (q := 2) (loc2 := [some (.ref a0), some (.int x1), some (.int x2), some (.int (0 : Int32)), none]) dX12_isOwed_1 rfl rfl rfl (Nat.le_of_ble_eq_true rfl) rfl ?_
  refine v_iconst (q := 3) dX12_isOwed_2 rfl ic_0 ?_
  refine v_istore (q := 5) (loc2 := [some (.ref a0), some (.int x1), some (.int x2), some (.int (0 : Int32)), some (.int (0 : Int32))]) dX12_isOwed_3 rfl rfl (Nat.le_of_ble_eq_true rfl) rfl ?_
  refine v_lps (S := Int32 × Int32) 64 (fun s => M) (fun s => [some (.ref a0), some (.int x1), some (.int x2), some (.int s.1), some (.int s.2)]) (fun e10 => M) (fun e10 => [some (.ref a0), some (.int x1), some (.int x2), some (.int e10.1), some (.int e10.2)]) (fun e10 => ?_) (fun k K hk hx s => ?_)
  · refine v_iload_n (q := 65) dX12_isOwed_64 rfl rfl rfl ?_
    exact v_zretC rfl dX12_isOwed_65 ⟨Nat.le_of_ble_eq_true rfl, Nat.le_of_ble_eq_true rfl⟩ rfl
  · obtain ⟨v1, v2⟩ := s
    show V _ _ M 5 [some (.ref a0), some (.int x1), some (.int x2), some (.int v1), some (.int v2)] [] (s_X12_isOwed_5 a0 x1 x2 M v1 v2) _
    unfold s_X12_isOwed_5
    refine v_iload (q := 7) dX12_isOwed_5 rfl rfl ?_
    refine v_aload_n (q := 8) dX12_isOwed_7 rfl rfl rfl ?_
    refine v_getIb (q := 11) dX12_isOwed_8 rfl fg_X12_122 (fun v3 => ?_)
    refine v_icmp_ge (tgt := 64) (q := 14) dX12_isOwed_11 rfl rfl ?_ ?_
    · exact v_inr (hx (v1, v2))
    · refine v_iload_n (q := 15) dX12_isOwed_14 rfl rfl rfl ?_
      refine v_join (γ := Int32) 57 (fun v8 => M) (fun v8 => [some (.ref a0), some (.int x1), some (.int x2), some (.int v1), some (.int v2)]) (fun v8 => [.int v8]) (fun K hK => ?_) (fun v8 => ?_)
      · refine v_if_ne (tgt := 52) (q := 18) dX12_isOwed_15 rfl rfl ?_ ?_
        · refine v_iconst (q := 53) dX12_isOwed_52 rfl ic_1 ?_
          refine v_goto (tgt := 57) dX12_isOwed_53 rfl ?_
          exact hK (1 : Int32)
        · refine v_aload_n (q := 19) dX12_isOwed_18 rfl rfl rfl ?_
          refine v_getRb (q := 22) dX12_isOwed_19 rfl fg_X12_59 (fun o4 => ?_)
          refine v_iconst (q := 23) dX12_isOwed_22 rfl ic_4 ?_
          refine v_iload (q := 25) dX12_isOwed_23 rfl rfl ?_
          refine v_imul (q := 26) dX12_isOwed_25 rfl ?_
          refine v_iconst (q := 27) dX12_isOwed_26 rfl ic_1 ?_
          refine v_iadd (q := 28) dX12_isOwed_27 rfl ?_
          refine v_iaload (q := 29) dX12_isOwed_28 rfl (fun v5 => ?_)
          refine v_iload_n (q := 30) dX12_isOwed_29 rfl rfl rfl ?_
          refine v_icmp_ne (tgt := 56) (q := 33) dX12_isOwed_30 rfl rfl ?_ ?_
          · refine v_iconst (q := 57) dX12_isOwed_56 rfl ic_0 ?_
            exact hK (0 : Int32)
          · refine v_iload_n (q := 34) dX12_isOwed_33 rfl rfl rfl ?_
            refine v_if_lt (tgt := 52) (q := 37) dX12_isOwed_34 rfl rfl ?_ ?_
            · refine v_iconst (q := 53) dX12_isOwed_52 rfl ic_1 ?_
              refine v_goto (tgt := 57) dX12_isOwed_53 rfl ?_
              exact hK (1 : Int32)
            · refine v_aload_n (q := 38) dX12_isOwed_37 rfl rfl rfl ?_
              refine v_getRb (q := 41) dX12_isOwed_38 rfl fg_X12_59 (fun o6 => ?_)
              refine v_iconst (q := 42) dX12_isOwed_41 rfl ic_4 ?_
              refine v_iload (q := 44) dX12_isOwed_42 rfl rfl ?_
              refine v_imul (q := 45) dX12_isOwed_44 rfl ?_
              refine v_iconst (q := 46) dX12_isOwed_45 rfl ic_3 ?_
              refine v_iadd (q := 47) dX12_isOwed_46 rfl ?_
              refine v_iaload (q := 48) dX12_isOwed_47 rfl (fun v7 => ?_)
              refine v_iload_n (q := 49) dX12_isOwed_48 rfl rfl rfl ?_
              refine v_icmp_ne (tgt := 56) (q := 52) dX12_isOwed_49 rfl rfl ?_ ?_
              · refine v_iconst (q := 57) dX12_isOwed_56 rfl ic_0 ?_
                exact hK (0 : Int32)
              · refine v_iconst (q := 53) dX12_isOwed_52 rfl ic_1 ?_
                refine v_goto (tgt := 57) dX12_isOwed_53 rfl ?_
                exact hK (1 : Int32)
      · refine v_istore_n (q := 58) (loc2 := [some (.ref a0), some (.int x1), some (.int x2), some (.int v8), some (.int v2)]) dX12_isOwed_57 rfl rfl rfl (Nat.le_of_ble_eq_true rfl) rfl ?_
        refine v_iincL (q := 61) (x := v2) (cst := (1 : Int32)) (f := fun v9 => [some (.ref a0), some (.int x1), some (.int x2), some (.int v8), some (.int v9)]) dX12_isOwed_58 rfl rfl ic_1 rfl (Nat.le_of_ble_eq_true rfl) (fun _ => rfl) (fun v9 => ?_)
        refine v_goto (tgt := 5) dX12_isOwed_61 rfl ?_
        exact v_inl (hk (v8, v9))
theorem ct_X12_isOwed (d : Nat) (hd : 0 ≤ d) (a0 : Nat) (x1 : Int32) (x2 : Int32) (M : Me) (r : Int32) (hf : f_X12_isOwed a0 x1 x2 M = some r) : me_k M a0 = some (12, nf_c 12) ∧ Ct yX12_isOwed mX12_isOwed d 0 0 [.ref a0, .int x1, .int x2] M (some (.int r), M) := by
  obtain ⟨hk, hb⟩ := ck_some hf
  exact ⟨hk, ct_of (by decide +kernel) rfl rfl (Nat.le_of_ble_eq_true rfl) (vb_X12_isOwed d hd a0 x1 x2 M) (by rw [hb]; rfl)⟩
theorem dX12_owesHere_0 : decode cX12_owesHere 0 = .ok (.aload_n 0, 1) := by decide +kernel
theorem dX12_owesHere_1 : decode cX12_owesHere 1 = .ok (.getfield 59, 3) := by decide +kernel
theorem dX12_owesHere_4 : decode cX12_owesHere 4 = .ok (.iconst 4, 1) := by decide +kernel
theorem dX12_owesHere_5 : decode cX12_owesHere 5 = .ok (.iload_n 2, 1) := by decide +kernel
theorem dX12_owesHere_6 : decode cX12_owesHere 6 = .ok (.imul, 1) := by decide +kernel
theorem dX12_owesHere_7 : decode cX12_owesHere 7 = .ok (.iaload, 1) := by decide +kernel
theorem dX12_owesHere_8 : decode cX12_owesHere 8 = .ok (.iload_n 1, 1) := by decide +kernel
theorem dX12_owesHere_9 : decode cX12_owesHere 9 = .ok (.if_icmp .ne 48, 3) := by decide +kernel
theorem dX12_owesHere_12 : decode cX12_owesHere 12 = .ok (.aload_n 0, 1) := by decide +kernel
theorem dX12_owesHere_13 : decode cX12_owesHere 13 = .ok (.getfield 59, 3) := by decide +kernel
theorem dX12_owesHere_16 : decode cX12_owesHere 16 = .ok (.iconst 4, 1) := by decide +kernel
theorem dX12_owesHere_17 : decode cX12_owesHere 17 = .ok (.iload_n 2, 1) := by decide +kernel
theorem dX12_owesHere_18 : decode cX12_owesHere 18 = .ok (.imul, 1) := by decide +kernel
theorem dX12_owesHere_19 : decode cX12_owesHere 19 = .ok (.iconst 3, 1) := by decide +kernel
theorem dX12_owesHere_20 : decode cX12_owesHere 20 = .ok (.iadd, 1) := by decide +kernel
theorem dX12_owesHere_21 : decode cX12_owesHere 21 = .ok (.iaload, 1) := by decide +kernel
theorem dX12_owesHere_22 : decode cX12_owesHere 22 = .ok (.aload_n 0, 1) := by decide +kernel
theorem dX12_owesHere_23 : decode cX12_owesHere 23 = .ok (.getfield 119, 3) := by decide +kernel
theorem dX12_owesHere_26 : decode cX12_owesHere 26 = .ok (.if_icmp .ne 31, 3) := by decide +kernel
theorem dX12_owesHere_29 : decode cX12_owesHere 29 = .ok (.aload_n 0, 1) := by decide +kernel
theorem dX12_owesHere_30 : decode cX12_owesHere 30 = .ok (.getfield 23, 3) := by decide +kernel
theorem dX12_owesHere_33 : decode cX12_owesHere 33 = .ok (.aload_n 0, 1) := by decide +kernel
theorem dX12_owesHere_34 : decode cX12_owesHere 34 = .ok (.getfield 59, 3) := by decide +kernel
theorem dX12_owesHere_37 : decode cX12_owesHere 37 = .ok (.iconst 4, 1) := by decide +kernel
theorem dX12_owesHere_38 : decode cX12_owesHere 38 = .ok (.iload_n 2, 1) := by decide +kernel
theorem dX12_owesHere_39 : decode cX12_owesHere 39 = .ok (.imul, 1) := by decide +kernel
theorem dX12_owesHere_40 : decode cX12_owesHere 40 = .ok (.iconst 1, 1) := by decide +kernel
theorem dX12_owesHere_41 : decode cX12_owesHere 41 = .ok (.iadd, 1) := by decide +kernel
theorem dX12_owesHere_42 : decode cX12_owesHere 42 = .ok (.iaload, 1) := by decide +kernel
theorem dX12_owesHere_43 : decode cX12_owesHere 43 = .ok (.iaload, 1) := by decide +kernel
theorem dX12_owesHere_44 : decode cX12_owesHere 44 = .ok (.aload_n 0, 1) := by decide +kernel
theorem dX12_owesHere_45 : decode cX12_owesHere 45 = .ok (.getfield 47, 3) := by decide +kernel
theorem dX12_owesHere_48 : decode cX12_owesHere 48 = .ok (.iload_n 1, 1) := by decide +kernel
theorem dX12_owesHere_49 : decode cX12_owesHere 49 = .ok (.iaload, 1) := by decide +kernel
theorem dX12_owesHere_50 : decode cX12_owesHere 50 = .ok (.if_icmp .ne 7, 3) := by decide +kernel
theorem dX12_owesHere_53 : decode cX12_owesHere 53 = .ok (.iconst 1, 1) := by decide +kernel
theorem dX12_owesHere_54 : decode cX12_owesHere 54 = .ok (.goto 4, 3) := by decide +kernel
theorem dX12_owesHere_57 : decode cX12_owesHere 57 = .ok (.iconst 0, 1) := by decide +kernel
theorem dX12_owesHere_58 : decode cX12_owesHere 58 = .ok (.ireturn, 1) := by decide +kernel
noncomputable def b_X12_owesHere (a0 : Nat) (x1 : Int32) (x2 : Int32) (M : Me) : Option (Int32) :=
  gr M a0 12 23 fun o1 =>
  li M o1 ((4 : Int32) * x2) fun v2 =>
  (
    if v2 = x1 then (
      gr M a0 12 23 fun o3 =>
      li M o3 (((4 : Int32) * x2) + (3 : Int32)) fun v4 =>
      gi M a0 12 17 fun v5 =>
      if v4 = v5 then (
        gr M a0 12 5 fun o6 =>
        gr M a0 12 23 fun o7 =>
        li M o7 (((4 : Int32) * x2) + (1 : Int32)) fun v8 =>
        li M o6 v8 fun v9 =>
        gr M a0 12 18 fun o10 =>
        li M o10 x1 fun v11 =>
        if v9 = v11 then (
          some (1 : Int32)
        ) else (
          some (0 : Int32)
        )
      ) else (
        some (0 : Int32)
      )
    ) else (
      some (0 : Int32)
    )
  ).bind fun v12 =>
  if v12 = 0 ∨ v12 = 1 then some v12 else none
noncomputable def f_X12_owesHere (a0 : Nat) (x1 : Int32) (x2 : Int32) (M : Me) : Option (Int32) := ck M a0 12 (b_X12_owesHere a0 x1 x2 M)
set_option maxRecDepth 20000 in
theorem vb_X12_owesHere (d : Nat) (hd : 0 ≤ d) (a0 : Nat) (x1 : Int32) (x2 : Int32) (M : Me) : V (mX12_owesHere, d, 0, 0) (0, 0) M 0 [some (.ref a0), some (.int x1), some (.int x2)] [] (b_X12_owesHere a0 x1 x2 M) (fun z => some (some (.int z), M)) := by
  unfold b_X12_owesHere
  refine v_aload_n (q := 1) dX12_owesHere_0 rfl rfl rfl ?_
  refine v_getRb (q := 4) dX12_owesHere_1 rfl fg_X12_59 (fun o1 => ?_)
  refine v_iconst (q := 5) dX12_owesHere_4 rfl ic_4 ?_
  refine v_iload_n (q := 6) dX12_owesHere_5 rfl rfl rfl ?_
  refine v_imul (q := 7) dX12_owesHere_6 rfl ?_
  refine v_iaload (q := 8) dX12_owesHere_7 rfl (fun v2 => ?_)
  refine v_iload_n (q := 9) dX12_owesHere_8 rfl rfl rfl ?_
  refine v_join (γ := Int32) 58 (fun v12 => M) (fun v12 => [some (.ref a0), some (.int x1), some (.int x2)]) (fun v12 => [.int v12]) (fun K hK => ?_) (fun v12 => ?_)
  · refine v_icmp_ne (tgt := 57) (q := 12) dX12_owesHere_9 rfl rfl ?_ ?_
    · refine v_iconst (q := 58) dX12_owesHere_57 rfl ic_0 ?_
      exact hK (0 : Int32)
    · refine v_aload_n (q := 13) dX12_owesHere_12 rfl rfl rfl ?_
      refine v_getRb (q := 16) dX12_owesHere_13 rfl fg_X12_59 (fun o3 => ?_)
      refine v_iconst (q := 17) dX12_owesHere_16 rfl ic_4 ?_
      refine v_iload_n (q := 18) dX12_owesHere_17 rfl rfl rfl ?_
      refine v_imul (q := 19) dX12_owesHere_18 rfl ?_
      refine v_iconst (q := 20) dX12_owesHere_19 rfl ic_3 ?_
      refine v_iadd (q := 21) dX12_owesHere_20 rfl ?_
      refine v_iaload (q := 22) dX12_owesHere_21 rfl (fun v4 => ?_)
      refine v_aload_n (q := 23) dX12_owesHere_22 rfl rfl rfl ?_
      refine v_getIb (q := 26) dX12_owesHere_23 rfl fg_X12_119 (fun v5 => ?_)
      refine v_icmp_ne (tgt := 57) (q := 29) dX12_owesHere_26 rfl rfl ?_ ?_
      · refine v_iconst (q := 58) dX12_owesHere_57 rfl ic_0 ?_
        exact hK (0 : Int32)
      · refine v_aload_n (q := 30) dX12_owesHere_29 rfl rfl rfl ?_
        refine v_getRb (q := 33) dX12_owesHere_30 rfl fg_X12_23 (fun o6 => ?_)
        refine v_aload_n (q := 34) dX12_owesHere_33 rfl rfl rfl ?_
        refine v_getRb (q := 37) dX12_owesHere_34 rfl fg_X12_59 (fun o7 => ?_)
        refine v_iconst (q := 38) dX12_owesHere_37 rfl ic_4 ?_
        refine v_iload_n (q := 39) dX12_owesHere_38 rfl rfl rfl ?_
        refine v_imul (q := 40) dX12_owesHere_39 rfl ?_
        refine v_iconst (q := 41) dX12_owesHere_40 rfl ic_1 ?_
        refine v_iadd (q := 42) dX12_owesHere_41 rfl ?_
        refine v_iaload (q := 43) dX12_owesHere_42 rfl (fun v8 => ?_)
        refine v_iaload (q := 44) dX12_owesHere_43 rfl (fun v9 => ?_)
        refine v_aload_n (q := 45) dX12_owesHere_44 rfl rfl rfl ?_
        refine v_getRb (q := 48) dX12_owesHere_45 rfl fg_X12_47 (fun o10 => ?_)
        refine v_iload_n (q := 49) dX12_owesHere_48 rfl rfl rfl ?_
        refine v_iaload (q := 50) dX12_owesHere_49 rfl (fun v11 => ?_)
        refine v_icmp_ne (tgt := 57) (q := 53) dX12_owesHere_50 rfl rfl ?_ ?_
        · refine v_iconst (q := 58) dX12_owesHere_57 rfl ic_0 ?_
          exact hK (0 : Int32)
        · refine v_iconst (q := 54) dX12_owesHere_53 rfl ic_1 ?_
          refine v_goto (tgt := 58) dX12_owesHere_54 rfl ?_
          exact hK (1 : Int32)
  · exact v_zretC rfl dX12_owesHere_58 ⟨Nat.le_of_ble_eq_true rfl, Nat.le_of_ble_eq_true rfl⟩ rfl
theorem ct_X12_owesHere (d : Nat) (hd : 0 ≤ d) (a0 : Nat) (x1 : Int32) (x2 : Int32) (M : Me) (r : Int32) (hf : f_X12_owesHere a0 x1 x2 M = some r) : me_k M a0 = some (12, nf_c 12) ∧ Ct yX12_owesHere mX12_owesHere d 0 0 [.ref a0, .int x1, .int x2] M (some (.int r), M) := by
  obtain ⟨hk, hb⟩ := ck_some hf
  exact ⟨hk, ct_of (by decide +kernel) rfl rfl (Nat.le_of_ble_eq_true rfl) (vb_X12_owesHere d hd a0 x1 x2 M) (by rw [hb]; rfl)⟩
theorem dX12_whyNot_0 : decode cX12_whyNot 0 = .ok (.aload_n 0, 1) := by decide +kernel
theorem dX12_whyNot_1 : decode cX12_whyNot 1 = .ok (.iload_n 1, 1) := by decide +kernel
theorem dX12_whyNot_2 : decode cX12_whyNot 2 = .ok (.invokevirtual 129, 3) := by decide +kernel
theorem dX12_whyNot_5 : decode cX12_whyNot 5 = .ok (.ifCond .ne 5, 3) := by decide +kernel
theorem dX12_whyNot_8 : decode cX12_whyNot 8 = .ok (.iconst 1, 1) := by decide +kernel
theorem dX12_whyNot_9 : decode cX12_whyNot 9 = .ok (.ireturn, 1) := by decide +kernel
theorem dX12_whyNot_10 : decode cX12_whyNot 10 = .ok (.aload_n 0, 1) := by decide +kernel
theorem dX12_whyNot_11 : decode cX12_whyNot 11 = .ok (.getfield 50, 3) := by decide +kernel
theorem dX12_whyNot_14 : decode cX12_whyNot 14 = .ok (.iload_n 1, 1) := by decide +kernel
theorem dX12_whyNot_15 : decode cX12_whyNot 15 = .ok (.iaload, 1) := by decide +kernel
theorem dX12_whyNot_16 : decode cX12_whyNot 16 = .ok (.ifCond .le 5, 3) := by decide +kernel
theorem dX12_whyNot_19 : decode cX12_whyNot 19 = .ok (.iconst 2, 1) := by decide +kernel
theorem dX12_whyNot_20 : decode cX12_whyNot 20 = .ok (.ireturn, 1) := by decide +kernel
theorem dX12_whyNot_21 : decode cX12_whyNot 21 = .ok (.iload_n 2, 1) := by decide +kernel
theorem dX12_whyNot_22 : decode cX12_whyNot 22 = .ok (.bipush 48, 2) := by decide +kernel
theorem dX12_whyNot_24 : decode cX12_whyNot 24 = .ok (.bipush 52, 2) := by decide +kernel
theorem dX12_whyNot_26 : decode cX12_whyNot 26 = .ok (.invokestatic 81, 3) := by decide +kernel
theorem dX12_whyNot_29 : decode cX12_whyNot 29 = .ok (.ifCond .eq 30, 3) := by decide +kernel
theorem dX12_whyNot_32 : decode cX12_whyNot 32 = .ok (.aload_n 0, 1) := by decide +kernel
theorem dX12_whyNot_33 : decode cX12_whyNot 33 = .ok (.getfield 13, 3) := by decide +kernel
theorem dX12_whyNot_36 : decode cX12_whyNot 36 = .ok (.iconst 5, 1) := by decide +kernel
theorem dX12_whyNot_37 : decode cX12_whyNot 37 = .ok (.aload_n 0, 1) := by decide +kernel
theorem dX12_whyNot_38 : decode cX12_whyNot 38 = .ok (.getfield 47, 3) := by decide +kernel
theorem dX12_whyNot_41 : decode cX12_whyNot 41 = .ok (.iload_n 1, 1) := by decide +kernel
theorem dX12_whyNot_42 : decode cX12_whyNot 42 = .ok (.iaload, 1) := by decide +kernel
theorem dX12_whyNot_43 : decode cX12_whyNot 43 = .ok (.imul, 1) := by decide +kernel
theorem dX12_whyNot_44 : decode cX12_whyNot 44 = .ok (.iload_n 2, 1) := by decide +kernel
theorem dX12_whyNot_45 : decode cX12_whyNot 45 = .ok (.iadd, 1) := by decide +kernel
theorem dX12_whyNot_46 : decode cX12_whyNot 46 = .ok (.bipush 48, 2) := by decide +kernel
theorem dX12_whyNot_48 : decode cX12_whyNot 48 = .ok (.isub, 1) := by decide +kernel
theorem dX12_whyNot_49 : decode cX12_whyNot 49 = .ok (.iaload, 1) := by decide +kernel
theorem dX12_whyNot_50 : decode cX12_whyNot 50 = .ok (.ifCond .ne 7, 3) := by decide +kernel
theorem dX12_whyNot_53 : decode cX12_whyNot 53 = .ok (.iconst 5, 1) := by decide +kernel
theorem dX12_whyNot_54 : decode cX12_whyNot 54 = .ok (.goto 4, 3) := by decide +kernel
theorem dX12_whyNot_57 : decode cX12_whyNot 57 = .ok (.iconst 0, 1) := by decide +kernel
theorem dX12_whyNot_58 : decode cX12_whyNot 58 = .ok (.ireturn, 1) := by decide +kernel
theorem dX12_whyNot_59 : decode cX12_whyNot 59 = .ok (.iconst 1, 1) := by decide +kernel
theorem dX12_whyNot_60 : decode cX12_whyNot 60 = .ok (.istore_n 3, 1) := by decide +kernel
theorem dX12_whyNot_61 : decode cX12_whyNot 61 = .ok (.iload_n 2, 1) := by decide +kernel
theorem dX12_whyNot_62 : decode cX12_whyNot 62 = .ok (.bipush 61, 2) := by decide +kernel
theorem dX12_whyNot_64 : decode cX12_whyNot 64 = .ok (.if_icmp .ne 39, 3) := by decide +kernel
theorem dX12_whyNot_67 : decode cX12_whyNot 67 = .ok (.aload_n 0, 1) := by decide +kernel
theorem dX12_whyNot_68 : decode cX12_whyNot 68 = .ok (.getfield 47, 3) := by decide +kernel
theorem dX12_whyNot_71 : decode cX12_whyNot 71 = .ok (.iload_n 1, 1) := by decide +kernel
theorem dX12_whyNot_72 : decode cX12_whyNot 72 = .ok (.iaload, 1) := by decide +kernel
theorem dX12_whyNot_73 : decode cX12_whyNot 73 = .ok (.aload_n 0, 1) := by decide +kernel
theorem dX12_whyNot_74 : decode cX12_whyNot 74 = .ok (.getfield 23, 3) := by decide +kernel
theorem dX12_whyNot_77 : decode cX12_whyNot 77 = .ok (.iload_n 1, 1) := by decide +kernel
theorem dX12_whyNot_78 : decode cX12_whyNot 78 = .ok (.iaload, 1) := by decide +kernel
theorem dX12_whyNot_79 : decode cX12_whyNot 79 = .ok (.if_icmp .ne 19, 3) := by decide +kernel
theorem dX12_whyNot_82 : decode cX12_whyNot 82 = .ok (.aload_n 0, 1) := by decide +kernel
theorem dX12_whyNot_83 : decode cX12_whyNot 83 = .ok (.iload_n 1, 1) := by decide +kernel
theorem dX12_whyNot_84 : decode cX12_whyNot 84 = .ok (.aload_n 0, 1) := by decide +kernel
theorem dX12_whyNot_85 : decode cX12_whyNot 85 = .ok (.getfield 119, 3) := by decide +kernel
theorem dX12_whyNot_88 : decode cX12_whyNot 88 = .ok (.invokevirtual 136, 3) := by decide +kernel
theorem dX12_whyNot_91 : decode cX12_whyNot 91 = .ok (.ifCond .eq 7, 3) := by decide +kernel
theorem dX12_whyNot_94 : decode cX12_whyNot 94 = .ok (.iconst 1, 1) := by decide +kernel
theorem dX12_whyNot_95 : decode cX12_whyNot 95 = .ok (.goto 4, 3) := by decide +kernel
theorem dX12_whyNot_98 : decode cX12_whyNot 98 = .ok (.iconst 0, 1) := by decide +kernel
theorem dX12_whyNot_99 : decode cX12_whyNot 99 = .ok (.istore_n 3, 1) := by decide +kernel
theorem dX12_whyNot_100 : decode cX12_whyNot 100 = .ok (.goto 59, 3) := by decide +kernel
theorem dX12_whyNot_103 : decode cX12_whyNot 103 = .ok (.iload_n 2, 1) := by decide +kernel
theorem dX12_whyNot_104 : decode cX12_whyNot 104 = .ok (.bipush 47, 2) := by decide +kernel
theorem dX12_whyNot_106 : decode cX12_whyNot 106 = .ok (.if_icmp .ne 13, 3) := by decide +kernel
theorem dX12_whyNot_109 : decode cX12_whyNot 109 = .ok (.aload_n 0, 1) := by decide +kernel
theorem dX12_whyNot_110 : decode cX12_whyNot 110 = .ok (.iload_n 1, 1) := by decide +kernel
theorem dX12_whyNot_111 : decode cX12_whyNot 111 = .ok (.iconst (-1), 1) := by decide +kernel
theorem dX12_whyNot_112 : decode cX12_whyNot 112 = .ok (.invokevirtual 136, 3) := by decide +kernel
theorem dX12_whyNot_115 : decode cX12_whyNot 115 = .ok (.istore_n 3, 1) := by decide +kernel
theorem dX12_whyNot_116 : decode cX12_whyNot 116 = .ok (.goto 43, 3) := by decide +kernel
theorem dX12_whyNot_119 : decode cX12_whyNot 119 = .ok (.iconst 0, 1) := by decide +kernel
theorem dX12_whyNot_120 : decode cX12_whyNot 120 = .ok (.istore_n 3, 1) := by decide +kernel
theorem dX12_whyNot_121 : decode cX12_whyNot 121 = .ok (.iconst 0, 1) := by decide +kernel
theorem dX12_whyNot_122 : decode cX12_whyNot 122 = .ok (.istore 4, 2) := by decide +kernel
theorem dX12_whyNot_124 : decode cX12_whyNot 124 = .ok (.iload 4, 2) := by decide +kernel
theorem dX12_whyNot_126 : decode cX12_whyNot 126 = .ok (.aload_n 0, 1) := by decide +kernel
theorem dX12_whyNot_127 : decode cX12_whyNot 127 = .ok (.getfield 122, 3) := by decide +kernel
theorem dX12_whyNot_130 : decode cX12_whyNot 130 = .ok (.if_icmp .ge 29, 3) := by decide +kernel
theorem dX12_whyNot_133 : decode cX12_whyNot 133 = .ok (.iload_n 3, 1) := by decide +kernel
theorem dX12_whyNot_134 : decode cX12_whyNot 134 = .ok (.ifCond .ne 13, 3) := by decide +kernel
theorem dX12_whyNot_137 : decode cX12_whyNot 137 = .ok (.aload_n 0, 1) := by decide +kernel
theorem dX12_whyNot_138 : decode cX12_whyNot 138 = .ok (.iload_n 1, 1) := by decide +kernel
theorem dX12_whyNot_139 : decode cX12_whyNot 139 = .ok (.iload 4, 2) := by decide +kernel
theorem dX12_whyNot_141 : decode cX12_whyNot 141 = .ok (.invokevirtual 139, 3) := by decide +kernel
theorem dX12_whyNot_144 : decode cX12_whyNot 144 = .ok (.ifCond .eq 7, 3) := by decide +kernel
theorem dX12_whyNot_147 : decode cX12_whyNot 147 = .ok (.iconst 1, 1) := by decide +kernel
theorem dX12_whyNot_148 : decode cX12_whyNot 148 = .ok (.goto 4, 3) := by decide +kernel
theorem dX12_whyNot_151 : decode cX12_whyNot 151 = .ok (.iconst 0, 1) := by decide +kernel
theorem dX12_whyNot_152 : decode cX12_whyNot 152 = .ok (.istore_n 3, 1) := by decide +kernel
theorem dX12_whyNot_153 : decode cX12_whyNot 153 = .ok (.iinc 4 1, 3) := by decide +kernel
theorem dX12_whyNot_156 : decode cX12_whyNot 156 = .ok (.goto (-32), 3) := by decide +kernel
theorem dX12_whyNot_159 : decode cX12_whyNot 159 = .ok (.iload_n 3, 1) := by decide +kernel
theorem dX12_whyNot_160 : decode cX12_whyNot 160 = .ok (.ifCond .eq 7, 3) := by decide +kernel
theorem dX12_whyNot_163 : decode cX12_whyNot 163 = .ok (.iconst 0, 1) := by decide +kernel
theorem dX12_whyNot_164 : decode cX12_whyNot 164 = .ok (.goto 5, 3) := by decide +kernel
theorem dX12_whyNot_167 : decode cX12_whyNot 167 = .ok (.bipush 6, 2) := by decide +kernel
theorem dX12_whyNot_169 : decode cX12_whyNot 169 = .ok (.ireturn, 1) := by decide +kernel
noncomputable def s_X12_whyNot_124 (a0 : Nat) (x1 : Int32) (M : Me) (v5 : Int32) (v6 : Int32) : Option ((Int32 × Int32) ⊕ (Int32 × Int32)) :=
  gi M a0 12 22 fun v7 =>
  if v7 ≤ v6 then (
    some (Sum.inr (v5, v6))
  ) else (
    (
      if v5 = 0 then (
        cP (f_X12_owesHere a0 x1 v6 M) fun v8 =>
        if v8 = 0 then (
          some (0 : Int32)
        ) else (
          some (1 : Int32)
        )
      ) else (
        some (1 : Int32)
      )
    ).bind fun v9 =>
    let_v (v6 + (1 : Int32)) fun v10 =>
    some (Sum.inl (v9, v10))
  )
noncomputable def b_X12_whyNot (a0 : Nat) (x1 : Int32) (x2 : Int32) (M : Me) : Option (Int32) :=
  cP (f_X12_isAlive a0 x1 M) fun v1 =>
  if v1 = 0 then (
    some (1 : Int32)
  ) else (
    gr M a0 12 19 fun o2 =>
    li M o2 x1 fun v3 =>
    if v3 ≤ 0 then (
      cP (f_X12_in x2 (48 : Int32) (52 : Int32) M) fun v4 =>
      if v4 = 0 then (
        (
          if x2 = (61 : Int32) then (
            gr M a0 12 18 fun o13 =>
            li M o13 x1 fun v14 =>
            gr M a0 12 5 fun o15 =>
            li M o15 x1 fun v16 =>
            (
              if v14 = v16 then (
                gi M a0 12 17 fun v17 =>
                cP (f_X12_isOwed a0 x1 v17 M) fun v18 =>
                if v18 = 0 then (
                  some (0 : Int32)
                ) else (
                  some (1 : Int32)
                )
              ) else (
                some (0 : Int32)
              )
            ).bind fun v19 =>
            some v19
          ) else (
            if x2 = (47 : Int32) then (
              cP (f_X12_isOwed a0 x1 (-1 : Int32) M) fun v12 =>
              some v12
            ) else (
              (lp (fun s => s_X12_whyNot_124 a0 x1 M s.1 s.2) ((0 : Int32), (0 : Int32))).bind fun e11 =>
              some e11.1
            )
          )
        ).bind fun v20 =>
        (
          if v20 = 0 then (
            some (6 : Int32)
          ) else (
            some (0 : Int32)
          )
        ).bind fun v21 =>
        some v21
      ) else (
        gr M a0 12 1 fun o22 =>
        gr M a0 12 18 fun o23 =>
        li M o23 x1 fun v24 =>
        li M o22 ((((5 : Int32) * v24) + x2) - (48 : Int32)) fun v25 =>
        (
          if v25 = 0 then (
            some (5 : Int32)
          ) else (
            some (0 : Int32)
          )
        ).bind fun v26 =>
        some v26
      )
    ) else (
      some (2 : Int32)
    )
  )
noncomputable def f_X12_whyNot (a0 : Nat) (x1 : Int32) (x2 : Int32) (M : Me) : Option (Int32) := ck M a0 12 (b_X12_whyNot a0 x1 x2 M)
set_option maxRecDepth 20000 in
theorem vb_X12_whyNot (d : Nat) (hd : 3 ≤ d) (a0 : Nat) (x1 : Int32) (x2 : Int32) (M : Me) : V (mX12_whyNot, d, 0, 0) (0, 0) M 0 [some (.ref a0), some (.int x1), some (.int x2), none, none] [] (b_X12_whyNot a0 x1 x2 M) (fun z => some (some (.int z), M)) := by
  unfold b_X12_whyNot
  refine v_aload_n (q := 1) dX12_whyNot_0 rfl rfl rfl ?_
  refine v_iload_n (q := 2) dX12_whyNot_1 rfl rfl rfl ?_
  refine v_cPV1 (q := 5) (ct_X12_isAlive (d - 1) (by omega) _ _ _) dX12_whyNot_2 rfl cc_X12_129 (by omega) (Nat.le_of_ble_eq_true rfl) ⟨Nat.le_of_ble_eq_true rfl, Nat.le_of_ble_eq_true rfl⟩ (fun v1 => ?_)
  refine v_if_ne (tgt := 10) (q := 8) dX12_whyNot_5 rfl rfl ?_ ?_
  · refine v_aload_n (q := 11) dX12_whyNot_10 rfl rfl rfl ?_
    refine v_getRb (q := 14) dX12_whyNot_11 rfl fg_X12_50 (fun o2 => ?_)
    refine v_iload_n (q := 15) dX12_whyNot_14 rfl rfl rfl ?_
    refine v_iaload (q := 16) dX12_whyNot_15 rfl (fun v3 => ?_)
    refine v_if_le (tgt := 21) (q := 19) dX12_whyNot_16 rfl rfl ?_ ?_
    · refine v_iload_n (q := 22) dX12_whyNot_21 rfl rfl rfl ?_
      refine v_bipush (q := 24) dX12_whyNot_22 rfl bp_48 ?_
      refine v_bipush (q := 26) dX12_whyNot_24 rfl bp_52 ?_
      refine v_cPS3 (q := 29) (ct_X12_in (d - 1) (by omega) _ _ _ _) dX12_whyNot_26 rfl cc_X12_81 (by omega) (Nat.le_of_ble_eq_true rfl) ⟨Nat.le_of_ble_eq_true rfl, Nat.le_of_ble_eq_true rfl⟩ (fun v4 => ?_)
      refine v_if_eq (tgt := 59) (q := 32) dX12_whyNot_29 rfl rfl ?_ ?_
      · refine v_iconst (q := 60) dX12_whyNot_59 rfl ic_1 ?_
        refine v_istore_n (q := 61) (loc2 := [some (.ref a0), some (.int x1), some (.int x2), some (.int (1 : Int32)), none]) dX12_whyNot_60 rfl rfl rfl (Nat.le_of_ble_eq_true rfl) rfl ?_
        refine v_iload_n (q := 62) dX12_whyNot_61 rfl rfl rfl ?_
        refine v_bipush (q := 64) dX12_whyNot_62 rfl bp_61 ?_
        refine v_join (γ := Int32) 159 (fun v20 => M) (fun v20 => [some (.ref a0), some (.int x1), some (.int x2), some (.int v20), none]) (fun v20 => []) (fun K hK => ?_) (fun v20 => ?_)
        · refine v_icmp_ne (tgt := 103) (q := 67) dX12_whyNot_64 rfl rfl ?_ ?_
          · refine v_iload_n (q := 104) dX12_whyNot_103 rfl rfl rfl ?_
            refine v_bipush (q := 106) dX12_whyNot_104 rfl bp_47 ?_
            refine v_icmp_ne (tgt := 119) (q := 109) dX12_whyNot_106 rfl rfl ?_ ?_
            · refine v_iconst (q := 120) dX12_whyNot_119 rfl ic_0 ?_
              refine v_istore_n (q := 121) (loc2 := [some (.ref a0), some (.int x1), some (.int x2), some (.int (0 : Int32)), none]) dX12_whyNot_120 rfl rfl rfl (Nat.le_of_ble_eq_true rfl) rfl ?_
              refine v_iconst (q := 122) dX12_whyNot_121 rfl ic_0 ?_
              refine v_istore (q := 124) (loc2 := [some (.ref a0), some (.int x1), some (.int x2), some (.int (0 : Int32)), some (.int (0 : Int32))]) dX12_whyNot_122 rfl rfl (Nat.le_of_ble_eq_true rfl) rfl ?_
              refine v_lps (S := Int32 × Int32) 159 (fun s => M) (fun s => [some (.ref a0), some (.int x1), some (.int x2), some (.int s.1), some (.int s.2)]) (fun e11 => M) (fun e11 => [some (.ref a0), some (.int x1), some (.int x2), some (.int e11.1), some (.int e11.2)]) (fun e11 => ?_) (fun k K hk hx s => ?_)
              · exact v_weak (hK e11.1) ⟨rfl, ⟨rfl, ⟨rfl, ⟨rfl, trivial⟩⟩⟩⟩
              · obtain ⟨v5, v6⟩ := s
                show V _ _ M 124 [some (.ref a0), some (.int x1), some (.int x2), some (.int v5), some (.int v6)] [] (s_X12_whyNot_124 a0 x1 M v5 v6) _
                unfold s_X12_whyNot_124
                refine v_iload (q := 126) dX12_whyNot_124 rfl rfl ?_
                refine v_aload_n (q := 127) dX12_whyNot_126 rfl rfl rfl ?_
                refine v_getIb (q := 130) dX12_whyNot_127 rfl fg_X12_122 (fun v7 => ?_)
                refine v_icmp_ge (tgt := 159) (q := 133) dX12_whyNot_130 rfl rfl ?_ ?_
                · exact v_inr (hx (v5, v6))
                · refine v_iload_n (q := 134) dX12_whyNot_133 rfl rfl rfl ?_
                  refine v_join (γ := Int32) 152 (fun v9 => M) (fun v9 => [some (.ref a0), some (.int x1), some (.int x2), some (.int v5), some (.int v6)]) (fun v9 => [.int v9]) (fun K hK => ?_) (fun v9 => ?_)
                  · refine v_if_ne (tgt := 147) (q := 137) dX12_whyNot_134 rfl rfl ?_ ?_
                    · refine v_iconst (q := 148) dX12_whyNot_147 rfl ic_1 ?_
                      refine v_goto (tgt := 152) dX12_whyNot_148 rfl ?_
                      exact hK (1 : Int32)
                    · refine v_aload_n (q := 138) dX12_whyNot_137 rfl rfl rfl ?_
                      refine v_iload_n (q := 139) dX12_whyNot_138 rfl rfl rfl ?_
                      refine v_iload (q := 141) dX12_whyNot_139 rfl rfl ?_
                      refine v_cPV2 (q := 144) (ct_X12_owesHere (d - 1) (by omega) _ _ _ _) dX12_whyNot_141 rfl cc_X12_139 (by omega) (Nat.le_of_ble_eq_true rfl) ⟨Nat.le_of_ble_eq_true rfl, Nat.le_of_ble_eq_true rfl⟩ (fun v8 => ?_)
                      refine v_if_eq (tgt := 151) (q := 147) dX12_whyNot_144 rfl rfl ?_ ?_
                      · refine v_iconst (q := 152) dX12_whyNot_151 rfl ic_0 ?_
                        exact hK (0 : Int32)
                      · refine v_iconst (q := 148) dX12_whyNot_147 rfl ic_1 ?_
                        refine v_goto (tgt := 152) dX12_whyNot_148 rfl ?_
                        exact hK (1 : Int32)
                  · refine v_istore_n (q := 153) (loc2 := [some (.ref a0), some (.int x1), some (.int x2), some (.int v9), some (.int v6)]) dX12_whyNot_152 rfl rfl rfl (Nat.le_of_ble_eq_true rfl) rfl ?_
                    refine v_iincL (q := 156) (x := v6) (cst := (1 : Int32)) (f := fun v10 => [some (.ref a0), some (.int x1), some (.int x2), some (.int v9), some (.int v10)]) dX12_whyNot_153 rfl rfl ic_1 rfl (Nat.le_of_ble_eq_true rfl) (fun _ => rfl) (fun v10 => ?_)
                    refine v_goto (tgt := 124) dX12_whyNot_156 rfl ?_
                    exact v_inl (hk (v9, v10))
            · refine v_aload_n (q := 110) dX12_whyNot_109 rfl rfl rfl ?_
              refine v_iload_n (q := 111) dX12_whyNot_110 rfl rfl rfl ?_
              refine v_iconst (q := 112) dX12_whyNot_111 rfl ic_m1 ?_
              refine v_cPV2 (q := 115) (ct_X12_isOwed (d - 1) (by omega) _ _ _ _) dX12_whyNot_112 rfl cc_X12_136 (by omega) (Nat.le_of_ble_eq_true rfl) ⟨Nat.le_of_ble_eq_true rfl, Nat.le_of_ble_eq_true rfl⟩ (fun v12 => ?_)
              refine v_istore_n (q := 116) (loc2 := [some (.ref a0), some (.int x1), some (.int x2), some (.int v12), none]) dX12_whyNot_115 rfl rfl rfl (Nat.le_of_ble_eq_true rfl) rfl ?_
              refine v_goto (tgt := 159) dX12_whyNot_116 rfl ?_
              exact hK v12
          · refine v_aload_n (q := 68) dX12_whyNot_67 rfl rfl rfl ?_
            refine v_getRb (q := 71) dX12_whyNot_68 rfl fg_X12_47 (fun o13 => ?_)
            refine v_iload_n (q := 72) dX12_whyNot_71 rfl rfl rfl ?_
            refine v_iaload (q := 73) dX12_whyNot_72 rfl (fun v14 => ?_)
            refine v_aload_n (q := 74) dX12_whyNot_73 rfl rfl rfl ?_
            refine v_getRb (q := 77) dX12_whyNot_74 rfl fg_X12_23 (fun o15 => ?_)
            refine v_iload_n (q := 78) dX12_whyNot_77 rfl rfl rfl ?_
            refine v_iaload (q := 79) dX12_whyNot_78 rfl (fun v16 => ?_)
            refine v_join (γ := Int32) 99 (fun v19 => M) (fun v19 => [some (.ref a0), some (.int x1), some (.int x2), some (.int (1 : Int32)), none]) (fun v19 => [.int v19]) (fun K hK => ?_) (fun v19 => ?_)
            · refine v_icmp_ne (tgt := 98) (q := 82) dX12_whyNot_79 rfl rfl ?_ ?_
              · refine v_iconst (q := 99) dX12_whyNot_98 rfl ic_0 ?_
                exact hK (0 : Int32)
              · refine v_aload_n (q := 83) dX12_whyNot_82 rfl rfl rfl ?_
                refine v_iload_n (q := 84) dX12_whyNot_83 rfl rfl rfl ?_
                refine v_aload_n (q := 85) dX12_whyNot_84 rfl rfl rfl ?_
                refine v_getIb (q := 88) dX12_whyNot_85 rfl fg_X12_119 (fun v17 => ?_)
                refine v_cPV2 (q := 91) (ct_X12_isOwed (d - 1) (by omega) _ _ _ _) dX12_whyNot_88 rfl cc_X12_136 (by omega) (Nat.le_of_ble_eq_true rfl) ⟨Nat.le_of_ble_eq_true rfl, Nat.le_of_ble_eq_true rfl⟩ (fun v18 => ?_)
                refine v_if_eq (tgt := 98) (q := 94) dX12_whyNot_91 rfl rfl ?_ ?_
                · refine v_iconst (q := 99) dX12_whyNot_98 rfl ic_0 ?_
                  exact hK (0 : Int32)
                · refine v_iconst (q := 95) dX12_whyNot_94 rfl ic_1 ?_
                  refine v_goto (tgt := 99) dX12_whyNot_95 rfl ?_
                  exact hK (1 : Int32)
            · refine v_istore_n (q := 100) (loc2 := [some (.ref a0), some (.int x1), some (.int x2), some (.int v19), none]) dX12_whyNot_99 rfl rfl rfl (Nat.le_of_ble_eq_true rfl) rfl ?_
              refine v_goto (tgt := 159) dX12_whyNot_100 rfl ?_
              exact hK v19
        · refine v_iload_n (q := 160) dX12_whyNot_159 rfl rfl rfl ?_
          refine v_join (γ := Int32) 169 (fun v21 => M) (fun v21 => [some (.ref a0), some (.int x1), some (.int x2), some (.int v20), none]) (fun v21 => [.int v21]) (fun K hK => ?_) (fun v21 => ?_)
          · refine v_if_eq (tgt := 167) (q := 163) dX12_whyNot_160 rfl rfl ?_ ?_
            · refine v_bipush (q := 169) dX12_whyNot_167 rfl bp_6 ?_
              exact hK (6 : Int32)
            · refine v_iconst (q := 164) dX12_whyNot_163 rfl ic_0 ?_
              refine v_goto (tgt := 169) dX12_whyNot_164 rfl ?_
              exact hK (0 : Int32)
          · exact v_iret rfl dX12_whyNot_169 ⟨Nat.le_of_ble_eq_true rfl, Nat.le_of_ble_eq_true rfl⟩ rfl
      · refine v_aload_n (q := 33) dX12_whyNot_32 rfl rfl rfl ?_
        refine v_getRb (q := 36) dX12_whyNot_33 rfl fg_X12_13 (fun o22 => ?_)
        refine v_iconst (q := 37) dX12_whyNot_36 rfl ic_5 ?_
        refine v_aload_n (q := 38) dX12_whyNot_37 rfl rfl rfl ?_
        refine v_getRb (q := 41) dX12_whyNot_38 rfl fg_X12_47 (fun o23 => ?_)
        refine v_iload_n (q := 42) dX12_whyNot_41 rfl rfl rfl ?_
        refine v_iaload (q := 43) dX12_whyNot_42 rfl (fun v24 => ?_)
        refine v_imul (q := 44) dX12_whyNot_43 rfl ?_
        refine v_iload_n (q := 45) dX12_whyNot_44 rfl rfl rfl ?_
        refine v_iadd (q := 46) dX12_whyNot_45 rfl ?_
        refine v_bipush (q := 48) dX12_whyNot_46 rfl bp_48 ?_
        refine v_isub (q := 49) dX12_whyNot_48 rfl ?_
        refine v_iaload (q := 50) dX12_whyNot_49 rfl (fun v25 => ?_)
        refine v_join (γ := Int32) 58 (fun v26 => M) (fun v26 => [some (.ref a0), some (.int x1), some (.int x2), none, none]) (fun v26 => [.int v26]) (fun K hK => ?_) (fun v26 => ?_)
        · refine v_if_ne (tgt := 57) (q := 53) dX12_whyNot_50 rfl rfl ?_ ?_
          · refine v_iconst (q := 58) dX12_whyNot_57 rfl ic_0 ?_
            exact hK (0 : Int32)
          · refine v_iconst (q := 54) dX12_whyNot_53 rfl ic_5 ?_
            refine v_goto (tgt := 58) dX12_whyNot_54 rfl ?_
            exact hK (5 : Int32)
        · exact v_iret rfl dX12_whyNot_58 ⟨Nat.le_of_ble_eq_true rfl, Nat.le_of_ble_eq_true rfl⟩ rfl
    · refine v_iconst (q := 20) dX12_whyNot_19 rfl ic_2 ?_
      exact v_iret rfl dX12_whyNot_20 ⟨Nat.le_of_ble_eq_true rfl, Nat.le_of_ble_eq_true rfl⟩ rfl
  · refine v_iconst (q := 9) dX12_whyNot_8 rfl ic_1 ?_
    exact v_iret rfl dX12_whyNot_9 ⟨Nat.le_of_ble_eq_true rfl, Nat.le_of_ble_eq_true rfl⟩ rfl
theorem ct_X12_whyNot (d : Nat) (hd : 3 ≤ d) (a0 : Nat) (x1 : Int32) (x2 : Int32) (M : Me) (r : Int32) (hf : f_X12_whyNot a0 x1 x2 M = some r) : me_k M a0 = some (12, nf_c 12) ∧ Ct yX12_whyNot mX12_whyNot d 0 0 [.ref a0, .int x1, .int x2] M (some (.int r), M) := by
  obtain ⟨hk, hb⟩ := ck_some hf
  exact ⟨hk, ct_of (by decide +kernel) rfl rfl (Nat.le_of_ble_eq_true rfl) (vb_X12_whyNot d hd a0 x1 x2 M) (by rw [hb]; rfl)⟩
theorem dX12_giveBack_0 : decode cX12_giveBack 0 = .ok (.iconst 0, 1) := by decide +kernel
theorem dX12_giveBack_1 : decode cX12_giveBack 1 = .ok (.istore_n 2, 1) := by decide +kernel
theorem dX12_giveBack_2 : decode cX12_giveBack 2 = .ok (.iload_n 2, 1) := by decide +kernel
theorem dX12_giveBack_3 : decode cX12_giveBack 3 = .ok (.aload_n 0, 1) := by decide +kernel
theorem dX12_giveBack_4 : decode cX12_giveBack 4 = .ok (.getfield 122, 3) := by decide +kernel
theorem dX12_giveBack_7 : decode cX12_giveBack 7 = .ok (.if_icmp .ge 184, 3) := by decide +kernel
theorem dX12_giveBack_10 : decode cX12_giveBack 10 = .ok (.aload_n 0, 1) := by decide +kernel
theorem dX12_giveBack_11 : decode cX12_giveBack 11 = .ok (.getfield 59, 3) := by decide +kernel
theorem dX12_giveBack_14 : decode cX12_giveBack 14 = .ok (.iconst 4, 1) := by decide +kernel
theorem dX12_giveBack_15 : decode cX12_giveBack 15 = .ok (.iload_n 2, 1) := by decide +kernel
theorem dX12_giveBack_16 : decode cX12_giveBack 16 = .ok (.imul, 1) := by decide +kernel
theorem dX12_giveBack_17 : decode cX12_giveBack 17 = .ok (.iconst 1, 1) := by decide +kernel
theorem dX12_giveBack_18 : decode cX12_giveBack 18 = .ok (.iadd, 1) := by decide +kernel
theorem dX12_giveBack_19 : decode cX12_giveBack 19 = .ok (.iaload, 1) := by decide +kernel
theorem dX12_giveBack_20 : decode cX12_giveBack 20 = .ok (.iload_n 1, 1) := by decide +kernel
theorem dX12_giveBack_21 : decode cX12_giveBack 21 = .ok (.if_icmp .ne 164, 3) := by decide +kernel
theorem dX12_giveBack_24 : decode cX12_giveBack 24 = .ok (.aload_n 0, 1) := by decide +kernel
theorem dX12_giveBack_25 : decode cX12_giveBack 25 = .ok (.getfield 59, 3) := by decide +kernel
theorem dX12_giveBack_28 : decode cX12_giveBack 28 = .ok (.iconst 4, 1) := by decide +kernel
theorem dX12_giveBack_29 : decode cX12_giveBack 29 = .ok (.iload_n 2, 1) := by decide +kernel
theorem dX12_giveBack_30 : decode cX12_giveBack 30 = .ok (.imul, 1) := by decide +kernel
theorem dX12_giveBack_31 : decode cX12_giveBack 31 = .ok (.iconst 3, 1) := by decide +kernel
theorem dX12_giveBack_32 : decode cX12_giveBack 32 = .ok (.iadd, 1) := by decide +kernel
theorem dX12_giveBack_33 : decode cX12_giveBack 33 = .ok (.iaload, 1) := by decide +kernel
theorem dX12_giveBack_34 : decode cX12_giveBack 34 = .ok (.aload_n 0, 1) := by decide +kernel
theorem dX12_giveBack_35 : decode cX12_giveBack 35 = .ok (.getfield 119, 3) := by decide +kernel
theorem dX12_giveBack_38 : decode cX12_giveBack 38 = .ok (.if_icmp .ne 147, 3) := by decide +kernel
theorem dX12_giveBack_41 : decode cX12_giveBack 41 = .ok (.aload_n 0, 1) := by decide +kernel
theorem dX12_giveBack_42 : decode cX12_giveBack 42 = .ok (.getfield 59, 3) := by decide +kernel
theorem dX12_giveBack_45 : decode cX12_giveBack 45 = .ok (.iconst 4, 1) := by decide +kernel
theorem dX12_giveBack_46 : decode cX12_giveBack 46 = .ok (.iload_n 2, 1) := by decide +kernel
theorem dX12_giveBack_47 : decode cX12_giveBack 47 = .ok (.imul, 1) := by decide +kernel
theorem dX12_giveBack_48 : decode cX12_giveBack 48 = .ok (.iaload, 1) := by decide +kernel
theorem dX12_giveBack_49 : decode cX12_giveBack 49 = .ok (.istore_n 3, 1) := by decide +kernel
theorem dX12_giveBack_50 : decode cX12_giveBack 50 = .ok (.aload_n 0, 1) := by decide +kernel
theorem dX12_giveBack_51 : decode cX12_giveBack 51 = .ok (.getfield 59, 3) := by decide +kernel
theorem dX12_giveBack_54 : decode cX12_giveBack 54 = .ok (.iconst 4, 1) := by decide +kernel
theorem dX12_giveBack_55 : decode cX12_giveBack 55 = .ok (.iload_n 2, 1) := by decide +kernel
theorem dX12_giveBack_56 : decode cX12_giveBack 56 = .ok (.imul, 1) := by decide +kernel
theorem dX12_giveBack_57 : decode cX12_giveBack 57 = .ok (.iconst 2, 1) := by decide +kernel
theorem dX12_giveBack_58 : decode cX12_giveBack 58 = .ok (.iadd, 1) := by decide +kernel
theorem dX12_giveBack_59 : decode cX12_giveBack 59 = .ok (.iaload, 1) := by decide +kernel
theorem dX12_giveBack_60 : decode cX12_giveBack 60 = .ok (.aload_n 0, 1) := by decide +kernel
theorem dX12_giveBack_61 : decode cX12_giveBack 61 = .ok (.getfield 20, 3) := by decide +kernel
theorem dX12_giveBack_64 : decode cX12_giveBack 64 = .ok (.iload_n 1, 1) := by decide +kernel
theorem dX12_giveBack_65 : decode cX12_giveBack 65 = .ok (.iaload, 1) := by decide +kernel
theorem dX12_giveBack_66 : decode cX12_giveBack 66 = .ok (.if_icmp .ge 16, 3) := by decide +kernel
theorem dX12_giveBack_69 : decode cX12_giveBack 69 = .ok (.aload_n 0, 1) := by decide +kernel
theorem dX12_giveBack_70 : decode cX12_giveBack 70 = .ok (.getfield 59, 3) := by decide +kernel
theorem dX12_giveBack_73 : decode cX12_giveBack 73 = .ok (.iconst 4, 1) := by decide +kernel
theorem dX12_giveBack_74 : decode cX12_giveBack 74 = .ok (.iload_n 2, 1) := by decide +kernel
theorem dX12_giveBack_75 : decode cX12_giveBack 75 = .ok (.imul, 1) := by decide +kernel
theorem dX12_giveBack_76 : decode cX12_giveBack 76 = .ok (.iconst 2, 1) := by decide +kernel
theorem dX12_giveBack_77 : decode cX12_giveBack 77 = .ok (.iadd, 1) := by decide +kernel
theorem dX12_giveBack_78 : decode cX12_giveBack 78 = .ok (.iaload, 1) := by decide +kernel
theorem dX12_giveBack_79 : decode cX12_giveBack 79 = .ok (.goto 9, 3) := by decide +kernel
theorem dX12_giveBack_82 : decode cX12_giveBack 82 = .ok (.aload_n 0, 1) := by decide +kernel
theorem dX12_giveBack_83 : decode cX12_giveBack 83 = .ok (.getfield 20, 3) := by decide +kernel
theorem dX12_giveBack_86 : decode cX12_giveBack 86 = .ok (.iload_n 1, 1) := by decide +kernel
theorem dX12_giveBack_87 : decode cX12_giveBack 87 = .ok (.iaload, 1) := by decide +kernel
theorem dX12_giveBack_88 : decode cX12_giveBack 88 = .ok (.istore 4, 2) := by decide +kernel
theorem dX12_giveBack_90 : decode cX12_giveBack 90 = .ok (.aload_n 0, 1) := by decide +kernel
theorem dX12_giveBack_91 : decode cX12_giveBack 91 = .ok (.getfield 50, 3) := by decide +kernel
theorem dX12_giveBack_94 : decode cX12_giveBack 94 = .ok (.iload_n 3, 1) := by decide +kernel
theorem dX12_giveBack_95 : decode cX12_giveBack 95 = .ok (.iaload, 1) := by decide +kernel
theorem dX12_giveBack_96 : decode cX12_giveBack 96 = .ok (.ifCond .ne 22, 3) := by decide +kernel
theorem dX12_giveBack_99 : decode cX12_giveBack 99 = .ok (.aload_n 0, 1) := by decide +kernel
theorem dX12_giveBack_100 : decode cX12_giveBack 100 = .ok (.getfield 47, 3) := by decide +kernel
theorem dX12_giveBack_103 : decode cX12_giveBack 103 = .ok (.iload_n 3, 1) := by decide +kernel
theorem dX12_giveBack_104 : decode cX12_giveBack 104 = .ok (.iaload, 1) := by decide +kernel
theorem dX12_giveBack_105 : decode cX12_giveBack 105 = .ok (.aload_n 0, 1) := by decide +kernel
theorem dX12_giveBack_106 : decode cX12_giveBack 106 = .ok (.getfield 23, 3) := by decide +kernel
theorem dX12_giveBack_109 : decode cX12_giveBack 109 = .ok (.iload_n 1, 1) := by decide +kernel
theorem dX12_giveBack_110 : decode cX12_giveBack 110 = .ok (.iaload, 1) := by decide +kernel
theorem dX12_giveBack_111 : decode cX12_giveBack 111 = .ok (.if_icmp .ne 7, 3) := by decide +kernel
theorem dX12_giveBack_114 : decode cX12_giveBack 114 = .ok (.iconst 1, 1) := by decide +kernel
theorem dX12_giveBack_115 : decode cX12_giveBack 115 = .ok (.goto 4, 3) := by decide +kernel
theorem dX12_giveBack_118 : decode cX12_giveBack 118 = .ok (.iconst 0, 1) := by decide +kernel
theorem dX12_giveBack_119 : decode cX12_giveBack 119 = .ok (.istore 5, 2) := by decide +kernel
theorem dX12_giveBack_121 : decode cX12_giveBack 121 = .ok (.aload_n 0, 1) := by decide +kernel
theorem dX12_giveBack_122 : decode cX12_giveBack 122 = .ok (.iload_n 2, 1) := by decide +kernel
theorem dX12_giveBack_123 : decode cX12_giveBack 123 = .ok (.invokevirtual 125, 3) := by decide +kernel
theorem dX12_giveBack_126 : decode cX12_giveBack 126 = .ok (.aload_n 0, 1) := by decide +kernel
theorem dX12_giveBack_127 : decode cX12_giveBack 127 = .ok (.getfield 56, 3) := by decide +kernel
theorem dX12_giveBack_130 : decode cX12_giveBack 130 = .ok (.iload_n 3, 1) := by decide +kernel
theorem dX12_giveBack_131 : decode cX12_giveBack 131 = .ok (.dup2, 1) := by decide +kernel
theorem dX12_giveBack_132 : decode cX12_giveBack 132 = .ok (.iaload, 1) := by decide +kernel
theorem dX12_giveBack_133 : decode cX12_giveBack 133 = .ok (.iload 5, 2) := by decide +kernel
theorem dX12_giveBack_135 : decode cX12_giveBack 135 = .ok (.ifCond .eq 7, 3) := by decide +kernel
theorem dX12_giveBack_138 : decode cX12_giveBack 138 = .ok (.iconst 1, 1) := by decide +kernel
theorem dX12_giveBack_139 : decode cX12_giveBack 139 = .ok (.goto 5, 3) := by decide +kernel
theorem dX12_giveBack_142 : decode cX12_giveBack 142 = .ok (.bipush (-5), 2) := by decide +kernel
theorem dX12_giveBack_144 : decode cX12_giveBack 144 = .ok (.iadd, 1) := by decide +kernel
theorem dX12_giveBack_145 : decode cX12_giveBack 145 = .ok (.iastore, 1) := by decide +kernel
theorem dX12_giveBack_146 : decode cX12_giveBack 146 = .ok (.aload_n 0, 1) := by decide +kernel
theorem dX12_giveBack_147 : decode cX12_giveBack 147 = .ok (.getfield 56, 3) := by decide +kernel
theorem dX12_giveBack_150 : decode cX12_giveBack 150 = .ok (.iload_n 1, 1) := by decide +kernel
theorem dX12_giveBack_151 : decode cX12_giveBack 151 = .ok (.dup2, 1) := by decide +kernel
theorem dX12_giveBack_152 : decode cX12_giveBack 152 = .ok (.iaload, 1) := by decide +kernel
theorem dX12_giveBack_153 : decode cX12_giveBack 153 = .ok (.iload 5, 2) := by decide +kernel
theorem dX12_giveBack_155 : decode cX12_giveBack 155 = .ok (.ifCond .eq 7, 3) := by decide +kernel
theorem dX12_giveBack_158 : decode cX12_giveBack 158 = .ok (.iconst 3, 1) := by decide +kernel
theorem dX12_giveBack_159 : decode cX12_giveBack 159 = .ok (.goto 4, 3) := by decide +kernel
theorem dX12_giveBack_162 : decode cX12_giveBack 162 = .ok (.iconst 0, 1) := by decide +kernel
theorem dX12_giveBack_163 : decode cX12_giveBack 163 = .ok (.iadd, 1) := by decide +kernel
theorem dX12_giveBack_164 : decode cX12_giveBack 164 = .ok (.iastore, 1) := by decide +kernel
theorem dX12_giveBack_165 : decode cX12_giveBack 165 = .ok (.iload 5, 2) := by decide +kernel
theorem dX12_giveBack_167 : decode cX12_giveBack 167 = .ok (.ifCond .eq 15, 3) := by decide +kernel
theorem dX12_giveBack_170 : decode cX12_giveBack 170 = .ok (.aload_n 0, 1) := by decide +kernel
theorem dX12_giveBack_171 : decode cX12_giveBack 171 = .ok (.iload_n 3, 1) := by decide +kernel
theorem dX12_giveBack_172 : decode cX12_giveBack 172 = .ok (.iload 4, 2) := by decide +kernel
theorem dX12_giveBack_174 : decode cX12_giveBack 174 = .ok (.invokevirtual 132, 3) := by decide +kernel
theorem dX12_giveBack_177 : decode cX12_giveBack 177 = .ok (.iconst (-1), 1) := by decide +kernel
theorem dX12_giveBack_178 : decode cX12_giveBack 178 = .ok (.istore_n 2, 1) := by decide +kernel
theorem dX12_giveBack_179 : decode cX12_giveBack 179 = .ok (.goto 6, 3) := by decide +kernel
theorem dX12_giveBack_182 : decode cX12_giveBack 182 = .ok (.iinc 2 (-1), 3) := by decide +kernel
theorem dX12_giveBack_185 : decode cX12_giveBack 185 = .ok (.iinc 2 1, 3) := by decide +kernel
theorem dX12_giveBack_188 : decode cX12_giveBack 188 = .ok (.goto (-186), 3) := by decide +kernel
theorem dX12_giveBack_191 : decode cX12_giveBack 191 = .ok (.return_, 1) := by decide +kernel
noncomputable def s_X12_giveBack_2 (a0 : Nat) (x1 : Int32) (M1 : Me) (v2 : Int32) : Option ((Me × Int32) ⊕ (Me × Int32)) :=
  gi M1 a0 12 22 fun v3 =>
  if v3 ≤ v2 then (
    some (Sum.inr (M1, v2))
  ) else (
    gr M1 a0 12 23 fun o4 =>
    li M1 o4 (((4 : Int32) * v2) + (1 : Int32)) fun v5 =>
    (
      if v5 = x1 then (
        gr M1 a0 12 23 fun o6 =>
        li M1 o6 (((4 : Int32) * v2) + (3 : Int32)) fun v7 =>
        gi M1 a0 12 17 fun v8 =>
        if v7 = v8 then (
          gr M1 a0 12 23 fun o9 =>
          li M1 o9 ((4 : Int32) * v2) fun v10 =>
          gr M1 a0 12 23 fun o11 =>
          li M1 o11 (((4 : Int32) * v2) + (2 : Int32)) fun v12 =>
          gr M1 a0 12 4 fun o13 =>
          li M1 o13 x1 fun v14 =>
          (
            if v14 ≤ v12 then (
              gr M1 a0 12 4 fun o15 =>
              li M1 o15 x1 fun v16 =>
              some v16
            ) else (
              gr M1 a0 12 23 fun o17 =>
              li M1 o17 (((4 : Int32) * v2) + (2 : Int32)) fun v18 =>
              some v18
            )
          ).bind fun v19 =>
          gr M1 a0 12 19 fun o20 =>
          li M1 o20 v10 fun v21 =>
          (
            if v21 = 0 then (
              gr M1 a0 12 18 fun o22 =>
              li M1 o22 v10 fun v23 =>
              gr M1 a0 12 5 fun o24 =>
              li M1 o24 x1 fun v25 =>
              if v23 = v25 then (
                some (1 : Int32)
              ) else (
                some (0 : Int32)
              )
            ) else (
              some (0 : Int32)
            )
          ).bind fun v26 =>
          cM (f_X12_forgive a0 v2 M1) fun M27 =>
          gr M27 a0 12 21 fun o28 =>
          li M27 o28 v10 fun v29 =>
          (
            if v26 = 0 then (
              some (-5 : Int32)
            ) else (
              some (1 : Int32)
            )
          ).bind fun v30 =>
          si M27 o28 v10 (v29 + v30) fun M31 =>
          gr M31 a0 12 21 fun o32 =>
          li M31 o32 x1 fun v33 =>
          (
            if v26 = 0 then (
              some (0 : Int32)
            ) else (
              some (3 : Int32)
            )
          ).bind fun v34 =>
          si M31 o32 x1 (v33 + v34) fun M35 =>
          if v26 = 0 then (
            let_v (v2 + (-1 : Int32)) fun v36 =>
            some (M35, v36)
          ) else (
            cM (f_X12_strike a0 v10 v19 M35) fun M37 =>
            some (M37, (-1 : Int32))
          )
        ) else (
          some (M1, v2)
        )
      ) else (
        some (M1, v2)
      )
    ).bind fun q38 =>
    let_v (q38.2 + (1 : Int32)) fun v39 =>
    some (Sum.inl (q38.1, v39))
  )
noncomputable def b_X12_giveBack (a0 : Nat) (x1 : Int32) (M : Me) : Option (Me) :=
  (lp (fun s => s_X12_giveBack_2 a0 x1 s.1 s.2) (M, (0 : Int32))).bind fun e40 =>
  some e40.1
noncomputable def f_X12_giveBack (a0 : Nat) (x1 : Int32) (M : Me) : Option (Me) := ck M a0 12 (b_X12_giveBack a0 x1 M)
set_option maxRecDepth 20000 in
theorem vb_X12_giveBack (d : Nat) (hd : 2 ≤ d) (a0 : Nat) (x1 : Int32) (M : Me) : V (mX12_giveBack, d, 0, 0) (0, 0) M 0 [some (.ref a0), some (.int x1), none, none, none, none] [] (b_X12_giveBack a0 x1 M) (fun M2 => some (none, M2)) := by
  unfold b_X12_giveBack
  refine v_iconst (q := 1) dX12_giveBack_0 rfl ic_0 ?_
  refine v_istore_n (q := 2) (loc2 := [some (.ref a0), some (.int x1), some (.int (0 : Int32)), none, none, none]) dX12_giveBack_1 rfl rfl rfl (Nat.le_of_ble_eq_true rfl) rfl ?_
  refine v_lps (S := Me × Int32) 191 (fun s => s.1) (fun s => [some (.ref a0), some (.int x1), some (.int s.2), none, none, none]) (fun e40 => e40.1) (fun e40 => [some (.ref a0), some (.int x1), some (.int e40.2), none, none, none]) (fun e40 => ?_) (fun k K hk hx s => ?_)
  · exact v_vret rfl dX12_giveBack_191 ⟨Nat.le_of_ble_eq_true rfl, Nat.le_of_ble_eq_true rfl⟩ rfl
  · obtain ⟨M1, v2⟩ := s
    show V _ _ M1 2 [some (.ref a0), some (.int x1), some (.int v2), none, none, none] [] (s_X12_giveBack_2 a0 x1 M1 v2) _
    unfold s_X12_giveBack_2
    refine v_iload_n (q := 3) dX12_giveBack_2 rfl rfl rfl ?_
    refine v_aload_n (q := 4) dX12_giveBack_3 rfl rfl rfl ?_
    refine v_getIb (q := 7) dX12_giveBack_4 rfl fg_X12_122 (fun v3 => ?_)
    refine v_icmp_ge (tgt := 191) (q := 10) dX12_giveBack_7 rfl rfl ?_ ?_
    · exact v_inr (hx (M1, v2))
    · refine v_aload_n (q := 11) dX12_giveBack_10 rfl rfl rfl ?_
      refine v_getRb (q := 14) dX12_giveBack_11 rfl fg_X12_59 (fun o4 => ?_)
      refine v_iconst (q := 15) dX12_giveBack_14 rfl ic_4 ?_
      refine v_iload_n (q := 16) dX12_giveBack_15 rfl rfl rfl ?_
      refine v_imul (q := 17) dX12_giveBack_16 rfl ?_
      refine v_iconst (q := 18) dX12_giveBack_17 rfl ic_1 ?_
      refine v_iadd (q := 19) dX12_giveBack_18 rfl ?_
      refine v_iaload (q := 20) dX12_giveBack_19 rfl (fun v5 => ?_)
      refine v_iload_n (q := 21) dX12_giveBack_20 rfl rfl rfl ?_
      refine v_join (γ := Me × Int32) 185 (fun q38 => q38.1) (fun q38 => [some (.ref a0), some (.int x1), some (.int q38.2), none, none, none]) (fun q38 => []) (fun K hK => ?_) (fun q38 => ?_)
      · refine v_icmp_ne (tgt := 185) (q := 24) dX12_giveBack_21 rfl rfl ?_ ?_
        · exact hK (M1, v2)
        · refine v_aload_n (q := 25) dX12_giveBack_24 rfl rfl rfl ?_
          refine v_getRb (q := 28) dX12_giveBack_25 rfl fg_X12_59 (fun o6 => ?_)
          refine v_iconst (q := 29) dX12_giveBack_28 rfl ic_4 ?_
          refine v_iload_n (q := 30) dX12_giveBack_29 rfl rfl rfl ?_
          refine v_imul (q := 31) dX12_giveBack_30 rfl ?_
          refine v_iconst (q := 32) dX12_giveBack_31 rfl ic_3 ?_
          refine v_iadd (q := 33) dX12_giveBack_32 rfl ?_
          refine v_iaload (q := 34) dX12_giveBack_33 rfl (fun v7 => ?_)
          refine v_aload_n (q := 35) dX12_giveBack_34 rfl rfl rfl ?_
          refine v_getIb (q := 38) dX12_giveBack_35 rfl fg_X12_119 (fun v8 => ?_)
          refine v_icmp_ne (tgt := 185) (q := 41) dX12_giveBack_38 rfl rfl ?_ ?_
          · exact hK (M1, v2)
          · refine v_aload_n (q := 42) dX12_giveBack_41 rfl rfl rfl ?_
            refine v_getRb (q := 45) dX12_giveBack_42 rfl fg_X12_59 (fun o9 => ?_)
            refine v_iconst (q := 46) dX12_giveBack_45 rfl ic_4 ?_
            refine v_iload_n (q := 47) dX12_giveBack_46 rfl rfl rfl ?_
            refine v_imul (q := 48) dX12_giveBack_47 rfl ?_
            refine v_iaload (q := 49) dX12_giveBack_48 rfl (fun v10 => ?_)
            refine v_istore_n (q := 50) (loc2 := [some (.ref a0), some (.int x1), some (.int v2), some (.int v10), none, none]) dX12_giveBack_49 rfl rfl rfl (Nat.le_of_ble_eq_true rfl) rfl ?_
            refine v_aload_n (q := 51) dX12_giveBack_50 rfl rfl rfl ?_
            refine v_getRb (q := 54) dX12_giveBack_51 rfl fg_X12_59 (fun o11 => ?_)
            refine v_iconst (q := 55) dX12_giveBack_54 rfl ic_4 ?_
            refine v_iload_n (q := 56) dX12_giveBack_55 rfl rfl rfl ?_
            refine v_imul (q := 57) dX12_giveBack_56 rfl ?_
            refine v_iconst (q := 58) dX12_giveBack_57 rfl ic_2 ?_
            refine v_iadd (q := 59) dX12_giveBack_58 rfl ?_
            refine v_iaload (q := 60) dX12_giveBack_59 rfl (fun v12 => ?_)
            refine v_aload_n (q := 61) dX12_giveBack_60 rfl rfl rfl ?_
            refine v_getRb (q := 64) dX12_giveBack_61 rfl fg_X12_20 (fun o13 => ?_)
            refine v_iload_n (q := 65) dX12_giveBack_64 rfl rfl rfl ?_
            refine v_iaload (q := 66) dX12_giveBack_65 rfl (fun v14 => ?_)
            refine v_join (γ := Int32) 88 (fun v19 => M1) (fun v19 => [some (.ref a0), some (.int x1), some (.int v2), some (.int v10), none, none]) (fun v19 => [.int v19]) (fun K hK => ?_) (fun v19 => ?_)
            · refine v_icmp_ge (tgt := 82) (q := 69) dX12_giveBack_66 rfl rfl ?_ ?_
              · refine v_aload_n (q := 83) dX12_giveBack_82 rfl rfl rfl ?_
                refine v_getRb (q := 86) dX12_giveBack_83 rfl fg_X12_20 (fun o15 => ?_)
                refine v_iload_n (q := 87) dX12_giveBack_86 rfl rfl rfl ?_
                refine v_iaload (q := 88) dX12_giveBack_87 rfl (fun v16 => ?_)
                exact hK v16
              · refine v_aload_n (q := 70) dX12_giveBack_69 rfl rfl rfl ?_
                refine v_getRb (q := 73) dX12_giveBack_70 rfl fg_X12_59 (fun o17 => ?_)
                refine v_iconst (q := 74) dX12_giveBack_73 rfl ic_4 ?_
                refine v_iload_n (q := 75) dX12_giveBack_74 rfl rfl rfl ?_
                refine v_imul (q := 76) dX12_giveBack_75 rfl ?_
                refine v_iconst (q := 77) dX12_giveBack_76 rfl ic_2 ?_
                refine v_iadd (q := 78) dX12_giveBack_77 rfl ?_
                refine v_iaload (q := 79) dX12_giveBack_78 rfl (fun v18 => ?_)
                refine v_goto (tgt := 88) dX12_giveBack_79 rfl ?_
                exact hK v18
            · refine v_istore (q := 90) (loc2 := [some (.ref a0), some (.int x1), some (.int v2), some (.int v10), some (.int v19), none]) dX12_giveBack_88 rfl rfl (Nat.le_of_ble_eq_true rfl) rfl ?_
              refine v_aload_n (q := 91) dX12_giveBack_90 rfl rfl rfl ?_
              refine v_getRb (q := 94) dX12_giveBack_91 rfl fg_X12_50 (fun o20 => ?_)
              refine v_iload_n (q := 95) dX12_giveBack_94 rfl rfl rfl ?_
              refine v_iaload (q := 96) dX12_giveBack_95 rfl (fun v21 => ?_)
              refine v_join (γ := Int32) 119 (fun v26 => M1) (fun v26 => [some (.ref a0), some (.int x1), some (.int v2), some (.int v10), some (.int v19), none]) (fun v26 => [.int v26]) (fun K hK => ?_) (fun v26 => ?_)
              · refine v_if_ne (tgt := 118) (q := 99) dX12_giveBack_96 rfl rfl ?_ ?_
                · refine v_iconst (q := 119) dX12_giveBack_118 rfl ic_0 ?_
                  exact hK (0 : Int32)
                · refine v_aload_n (q := 100) dX12_giveBack_99 rfl rfl rfl ?_
                  refine v_getRb (q := 103) dX12_giveBack_100 rfl fg_X12_47 (fun o22 => ?_)
                  refine v_iload_n (q := 104) dX12_giveBack_103 rfl rfl rfl ?_
                  refine v_iaload (q := 105) dX12_giveBack_104 rfl (fun v23 => ?_)
                  refine v_aload_n (q := 106) dX12_giveBack_105 rfl rfl rfl ?_
                  refine v_getRb (q := 109) dX12_giveBack_106 rfl fg_X12_23 (fun o24 => ?_)
                  refine v_iload_n (q := 110) dX12_giveBack_109 rfl rfl rfl ?_
                  refine v_iaload (q := 111) dX12_giveBack_110 rfl (fun v25 => ?_)
                  refine v_icmp_ne (tgt := 118) (q := 114) dX12_giveBack_111 rfl rfl ?_ ?_
                  · refine v_iconst (q := 119) dX12_giveBack_118 rfl ic_0 ?_
                    exact hK (0 : Int32)
                  · refine v_iconst (q := 115) dX12_giveBack_114 rfl ic_1 ?_
                    refine v_goto (tgt := 119) dX12_giveBack_115 rfl ?_
                    exact hK (1 : Int32)
              · refine v_istore (q := 121) (loc2 := [some (.ref a0), some (.int x1), some (.int v2), some (.int v10), some (.int v19), some (.int v26)]) dX12_giveBack_119 rfl rfl (Nat.le_of_ble_eq_true rfl) rfl ?_
                refine v_aload_n (q := 122) dX12_giveBack_121 rfl rfl rfl ?_
                refine v_iload_n (q := 123) dX12_giveBack_122 rfl rfl rfl ?_
                refine v_cMV1 (q := 126) (ct_X12_forgive (d - 1) (by omega) _ _ _) dX12_giveBack_123 rfl cc_X12_125 (by omega) (Nat.le_of_ble_eq_true rfl) ⟨Nat.le_of_ble_eq_true rfl, Nat.le_of_ble_eq_true rfl⟩ (fun M27 => ?_)
                refine v_aload_n (q := 127) dX12_giveBack_126 rfl rfl rfl ?_
                refine v_getRb (q := 130) dX12_giveBack_127 rfl fg_X12_56 (fun o28 => ?_)
                refine v_iload_n (q := 131) dX12_giveBack_130 rfl rfl rfl ?_
                refine v_dup2 (q := 132) dX12_giveBack_131 rfl rfl rfl ?_
                refine v_iaload (q := 133) dX12_giveBack_132 rfl (fun v29 => ?_)
                refine v_iload (q := 135) dX12_giveBack_133 rfl rfl ?_
                refine v_join (γ := Int32) 144 (fun v30 => M27) (fun v30 => [some (.ref a0), some (.int x1), some (.int v2), some (.int v10), some (.int v19), some (.int v26)]) (fun v30 => [.int v30, .int v29, .int v10, .ref o28]) (fun K hK => ?_) (fun v30 => ?_)
                · refine v_if_eq (tgt := 142) (q := 138) dX12_giveBack_135 rfl rfl ?_ ?_
                  · refine v_bipush (q := 144) dX12_giveBack_142 rfl bp_m5 ?_
                    exact hK (-5 : Int32)
                  · refine v_iconst (q := 139) dX12_giveBack_138 rfl ic_1 ?_
                    refine v_goto (tgt := 144) dX12_giveBack_139 rfl ?_
                    exact hK (1 : Int32)
                · refine v_iadd (q := 145) dX12_giveBack_144 rfl ?_
                  refine v_iastore (q := 146) dX12_giveBack_145 rfl (fun M31 => ?_)
                  refine v_aload_n (q := 147) dX12_giveBack_146 rfl rfl rfl ?_
                  refine v_getRb (q := 150) dX12_giveBack_147 rfl fg_X12_56 (fun o32 => ?_)
                  refine v_iload_n (q := 151) dX12_giveBack_150 rfl rfl rfl ?_
                  refine v_dup2 (q := 152) dX12_giveBack_151 rfl rfl rfl ?_
                  refine v_iaload (q := 153) dX12_giveBack_152 rfl (fun v33 => ?_)
                  refine v_iload (q := 155) dX12_giveBack_153 rfl rfl ?_
                  refine v_join (γ := Int32) 163 (fun v34 => M31) (fun v34 => [some (.ref a0), some (.int x1), some (.int v2), some (.int v10), some (.int v19), some (.int v26)]) (fun v34 => [.int v34, .int v33, .int x1, .ref o32]) (fun K hK => ?_) (fun v34 => ?_)
                  · refine v_if_eq (tgt := 162) (q := 158) dX12_giveBack_155 rfl rfl ?_ ?_
                    · refine v_iconst (q := 163) dX12_giveBack_162 rfl ic_0 ?_
                      exact hK (0 : Int32)
                    · refine v_iconst (q := 159) dX12_giveBack_158 rfl ic_3 ?_
                      refine v_goto (tgt := 163) dX12_giveBack_159 rfl ?_
                      exact hK (3 : Int32)
                  · refine v_iadd (q := 164) dX12_giveBack_163 rfl ?_
                    refine v_iastore (q := 165) dX12_giveBack_164 rfl (fun M35 => ?_)
                    refine v_iload (q := 167) dX12_giveBack_165 rfl rfl ?_
                    refine v_if_eq (tgt := 182) (q := 170) dX12_giveBack_167 rfl rfl ?_ ?_
                    · refine v_iincL (q := 185) (x := v2) (cst := (-1 : Int32)) (f := fun v36 => [some (.ref a0), some (.int x1), some (.int v36), some (.int v10), some (.int v19), some (.int v26)]) dX12_giveBack_182 rfl rfl ic_m1 rfl (Nat.le_of_ble_eq_true rfl) (fun _ => rfl) (fun v36 => ?_)
                      exact v_weak (hK (M35, v36)) ⟨rfl, ⟨rfl, ⟨rfl, trivial⟩⟩⟩
                    · refine v_aload_n (q := 171) dX12_giveBack_170 rfl rfl rfl ?_
                      refine v_iload_n (q := 172) dX12_giveBack_171 rfl rfl rfl ?_
                      refine v_iload (q := 174) dX12_giveBack_172 rfl rfl ?_
                      refine v_cMV2 (q := 177) (ct_X12_strike (d - 1) (by omega) _ _ _ _) dX12_giveBack_174 rfl cc_X12_132 (by omega) (Nat.le_of_ble_eq_true rfl) ⟨Nat.le_of_ble_eq_true rfl, Nat.le_of_ble_eq_true rfl⟩ (fun M37 => ?_)
                      refine v_iconst (q := 178) dX12_giveBack_177 rfl ic_m1 ?_
                      refine v_istore_n (q := 179) (loc2 := [some (.ref a0), some (.int x1), some (.int (-1 : Int32)), some (.int v10), some (.int v19), some (.int v26)]) dX12_giveBack_178 rfl rfl rfl (Nat.le_of_ble_eq_true rfl) rfl ?_
                      refine v_goto (tgt := 185) dX12_giveBack_179 rfl ?_
                      exact v_weak (hK (M37, (-1 : Int32))) ⟨rfl, ⟨rfl, ⟨rfl, trivial⟩⟩⟩
      · refine v_iincL (q := 188) (x := q38.2) (cst := (1 : Int32)) (f := fun v39 => [some (.ref a0), some (.int x1), some (.int v39), none, none, none]) dX12_giveBack_185 rfl rfl ic_1 rfl (Nat.le_of_ble_eq_true rfl) (fun _ => rfl) (fun v39 => ?_)
        refine v_goto (tgt := 2) dX12_giveBack_188 rfl ?_
        exact v_inl (hk (q38.1, v39))
theorem ct_X12_giveBack (d : Nat) (hd : 2 ≤ d) (a0 : Nat) (x1 : Int32) (M : Me) (r : Me) (hf : f_X12_giveBack a0 x1 M = some r) : me_k M a0 = some (12, nf_c 12) ∧ Ct yX12_giveBack mX12_giveBack d 0 0 [.ref a0, .int x1] M (none, r) := by
  obtain ⟨hk, hb⟩ := ck_some hf
  exact ⟨hk, ct_of (by decide +kernel) rfl rfl (Nat.le_of_ble_eq_true rfl) (vb_X12_giveBack d hd a0 x1 M) (by rw [hb]; rfl)⟩

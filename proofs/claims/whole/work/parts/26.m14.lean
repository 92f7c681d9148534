theorem dX12_owes_0 : decode cX12_owes 0 = .ok (.iconst 0, 1) := by decide +kernel
theorem dX12_owes_1 : decode cX12_owes 1 = .ok (.istore_n 3, 1) := by decide +kernel
theorem dX12_owes_2 : decode cX12_owes 2 = .ok (.iconst 0, 1) := by decide +kernel
theorem dX12_owes_3 : decode cX12_owes 3 = .ok (.istore 4, 2) := by decide +kernel
theorem dX12_owes_5 : decode cX12_owes 5 = .ok (.iload 4, 2) := by decide +kernel
theorem dX12_owes_7 : decode cX12_owes 7 = .ok (.aload_n 0, 1) := by decide +kernel
theorem dX12_owes_8 : decode cX12_owes 8 = .ok (.getfield 95, 3) := by decide +kernel
theorem dX12_owes_11 : decode cX12_owes 11 = .ok (.if_icmp .ge 47, 3) := by decide +kernel
theorem dX12_owes_14 : decode cX12_owes 14 = .ok (.iload_n 3, 1) := by decide +kernel
theorem dX12_owes_15 : decode cX12_owes 15 = .ok (.ifCond .ne 31, 3) := by decide +kernel
theorem dX12_owes_18 : decode cX12_owes 18 = .ok (.aload_n 0, 1) := by decide +kernel
theorem dX12_owes_19 : decode cX12_owes 19 = .ok (.getfield 41, 3) := by decide +kernel
theorem dX12_owes_22 : decode cX12_owes 22 = .ok (.iconst 4, 1) := by decide +kernel
theorem dX12_owes_23 : decode cX12_owes 23 = .ok (.iload 4, 2) := by decide +kernel
theorem dX12_owes_25 : decode cX12_owes 25 = .ok (.imul, 1) := by decide +kernel
theorem dX12_owes_26 : decode cX12_owes 26 = .ok (.iaload, 1) := by decide +kernel
theorem dX12_owes_27 : decode cX12_owes 27 = .ok (.iload_n 1, 1) := by decide +kernel
theorem dX12_owes_28 : decode cX12_owes 28 = .ok (.if_icmp .ne 22, 3) := by decide +kernel
theorem dX12_owes_31 : decode cX12_owes 31 = .ok (.aload_n 0, 1) := by decide +kernel
theorem dX12_owes_32 : decode cX12_owes 32 = .ok (.getfield 41, 3) := by decide +kernel
theorem dX12_owes_35 : decode cX12_owes 35 = .ok (.iconst 4, 1) := by decide +kernel
theorem dX12_owes_36 : decode cX12_owes 36 = .ok (.iload 4, 2) := by decide +kernel
theorem dX12_owes_38 : decode cX12_owes 38 = .ok (.imul, 1) := by decide +kernel
theorem dX12_owes_39 : decode cX12_owes 39 = .ok (.iconst 1, 1) := by decide +kernel
theorem dX12_owes_40 : decode cX12_owes 40 = .ok (.iadd, 1) := by decide +kernel
theorem dX12_owes_41 : decode cX12_owes 41 = .ok (.iaload, 1) := by decide +kernel
theorem dX12_owes_42 : decode cX12_owes 42 = .ok (.iload_n 2, 1) := by decide +kernel
theorem dX12_owes_43 : decode cX12_owes 43 = .ok (.if_icmp .ne 7, 3) := by decide +kernel
theorem dX12_owes_46 : decode cX12_owes 46 = .ok (.iconst 1, 1) := by decide +kernel
theorem dX12_owes_47 : decode cX12_owes 47 = .ok (.goto 4, 3) := by decide +kernel
theorem dX12_owes_50 : decode cX12_owes 50 = .ok (.iconst 0, 1) := by decide +kernel
theorem dX12_owes_51 : decode cX12_owes 51 = .ok (.istore_n 3, 1) := by decide +kernel
theorem dX12_owes_52 : decode cX12_owes 52 = .ok (.iinc 4 1, 3) := by decide +kernel
theorem dX12_owes_55 : decode cX12_owes 55 = .ok (.goto (-50), 3) := by decide +kernel
theorem dX12_owes_58 : decode cX12_owes 58 = .ok (.iload_n 3, 1) := by decide +kernel
theorem dX12_owes_59 : decode cX12_owes 59 = .ok (.ireturn, 1) := by decide +kernel
noncomputable def s_X12_owes_5 (a0 : Nat) (x1 : Int32) (x2 : Int32) (M : Me) (v1 : Int32) (v2 : Int32) : Option ((Int32 × Int32) ⊕ (Int32 × Int32)) :=
  gi M a0 12 13 fun v3 =>
  if v3 ≤ v2 then (
    some (Sum.inr (v1, v2))
  ) else (
    (
      if v1 = 0 then (
        gr M a0 12 14 fun o4 =>
        li M o4 ((4 : Int32) * v2) fun v5 =>
        if v5 = x1 then (
          gr M a0 12 14 fun o6 =>
          li M o6 (((4 : Int32) * v2) + (1 : Int32)) fun v7 =>
          if v7 = x2 then (
            some (1 : Int32)
          ) else (
            some (0 : Int32)
          )
        ) else (
          some (0 : Int32)
        )
      ) else (
        some (1 : Int32)
      )
    ).bind fun v8 =>
    let_v (v2 + (1 : Int32)) fun v9 =>
    some (Sum.inl (v8, v9))
  )
noncomputable def b_X12_owes (a0 : Nat) (x1 : Int32) (x2 : Int32) (M : Me) : Option (Int32) :=
  (lp (fun s => s_X12_owes_5 a0 x1 x2 M s.1 s.2) ((0 : Int32), (0 : Int32))).bind fun e10 =>
  if e10.1 = 0 ∨ e10.1 = 1 then some e10.1 else none
noncomputable def f_X12_owes (a0 : Nat) (x1 : Int32) (x2 : Int32) (M : Me) : Option (Int32) := ck M a0 12 (b_X12_owes a0 x1 x2 M)
set_option maxRecDepth 20000 in
theorem vb_X12_owes (d : Nat) (hd : 0 ≤ d) (a0 : Nat) (x1 : Int32) (x2 : Int32) (M : Me) : V (mX12_owes, d, 0, 0) (0, 0) M 0 [some (.ref a0), some (.int x1), some (.int x2), none, none] [] (b_X12_owes a0 x1 x2 M) (fun z => some (some (.int z), M)) := by
  unfold b_X12_owes
  refine v_iconst (q := 1) dX12_owes_0 rfl ic_0 ?_
  refine v_istore_n (q := 2) (loc2 := [some (.ref a0), some (.int x1), some (.int x2), some (.int (0 : Int32)), none]) dX12_owes_1 rfl rfl rfl (Nat.le_of_ble_eq_true rfl) rfl ?_
  refine v_iconst (q := 3) dX12_owes_2 rfl ic_0 ?_
  refine v_istore (q := 5) (loc2 := [some (.ref a0), some (.int x1), some (.int x2), some (.int (0 : Int32)), some (.int (0 : Int32))]) dX12_owes_3 rfl rfl (Nat.le_of_ble_eq_true rfl) rfl ?_
  refine v_lps (S := Int32 × Int32) 58 (fun s => M) (fun s => [some (.ref a0), some (.int x1), some (.int x2), some (.int s.1), some (.int s.2)]) (fun e10 => M) (fun e10 => [some (.ref a0), some (.int x1), some (.int x2), some (.int e10.1), some (.int e10.2)]) (fun e10 => ?_) (fun k K hk hx s => ?_)
  · refine v_iload_n (q := 59) dX12_owes_58 rfl rfl rfl ?_
    exact v_zretC rfl dX12_owes_59 ⟨Nat.le_of_ble_eq_true rfl, Nat.le_of_ble_eq_true rfl⟩ rfl
  · obtain ⟨v1, v2⟩ := s
    show V _ _ M 5 [some (.ref a0), some (.int x1), some (.int x2), some (.int v1), some (.int v2)] [] (s_X12_owes_5 a0 x1 x2 M v1 v2) _
    unfold s_X12_owes_5
    refine v_iload (q := 7) dX12_owes_5 rfl rfl ?_
    refine v_aload_n (q := 8) dX12_owes_7 rfl rfl rfl ?_
    refine v_getIb (q := 11) dX12_owes_8 rfl fg_X12_95 (fun v3 => ?_)
    refine v_icmp_ge (tgt := 58) (q := 14) dX12_owes_11 rfl rfl ?_ ?_
    · exact v_inr (hx (v1, v2))
    · refine v_iload_n (q := 15) dX12_owes_14 rfl rfl rfl ?_
      refine v_join (γ := Int32) 51 (fun v8 => M) (fun v8 => [some (.ref a0), some (.int x1), some (.int x2), some (.int v1), some (.int v2)]) (fun v8 => [.int v8]) (fun K hK => ?_) (fun v8 => ?_)
      · refine v_if_ne (tgt := 46) (q := 18) dX12_owes_15 rfl rfl ?_ ?_
        · refine v_iconst (q := 47) dX12_owes_46 rfl ic_1 ?_
          refine v_goto (tgt := 51) dX12_owes_47 rfl ?_
          exact hK (1 : Int32)
        · refine v_aload_n (q := 19) dX12_owes_18 rfl rfl rfl ?_
          refine v_getRb (q := 22) dX12_owes_19 rfl fg_X12_41 (fun o4 => ?_)
          refine v_iconst (q := 23) dX12_owes_22 rfl ic_4 ?_
          refine v_iload (q := 25) dX12_owes_23 rfl rfl ?_
          refine v_imul (q := 26) dX12_owes_25 rfl ?_
          refine v_iaload (q := 27) dX12_owes_26 rfl (fun v5 => ?_)
          refine v_iload_n (q := 28) dX12_owes_27 rfl rfl rfl ?_
          refine v_icmp_ne (tgt := 50) (q := 31) dX12_owes_28 rfl rfl ?_ ?_
          · refine v_iconst (q := 51) dX12_owes_50 rfl ic_0 ?_
            exact hK (0 : Int32)
          · refine v_aload_n (q := 32) dX12_owes_31 rfl rfl rfl ?_
            refine v_getRb (q := 35) dX12_owes_32 rfl fg_X12_41 (fun o6 => ?_)
            refine v_iconst (q := 36) dX12_owes_35 rfl ic_4 ?_
            refine v_iload (q := 38) dX12_owes_36 rfl rfl ?_
            refine v_imul (q := 39) dX12_owes_38 rfl ?_
            refine v_iconst (q := 40) dX12_owes_39 rfl ic_1 ?_
            refine v_iadd (q := 41) dX12_owes_40 rfl ?_
            refine v_iaload (q := 42) dX12_owes_41 rfl (fun v7 => ?_)
            refine v_iload_n (q := 43) dX12_owes_42 rfl rfl rfl ?_
            refine v_icmp_ne (tgt := 50) (q := 46) dX12_owes_43 rfl rfl ?_ ?_
            · refine v_iconst (q := 51) dX12_owes_50 rfl ic_0 ?_
              exact hK (0 : Int32)
            · refine v_iconst (q := 47) dX12_owes_46 rfl ic_1 ?_
              refine v_goto (tgt := 51) dX12_owes_47 rfl ?_
              exact hK (1 : Int32)
      · refine v_istore_n (q := 52) (loc2 := [some (.ref a0), some (.int x1), some (.int x2), some (.int v8), some (.int v2)]) dX12_owes_51 rfl rfl rfl (Nat.le_of_ble_eq_true rfl) rfl ?_
        refine v_iincL (q := 55) (x := v2) (cst := (1 : Int32)) (f := fun v9 => [some (.ref a0), some (.int x1), some (.int x2), some (.int v8), some (.int v9)]) dX12_owes_52 rfl rfl ic_1 rfl (Nat.le_of_ble_eq_true rfl) (fun _ => rfl) (fun v9 => ?_)
        refine v_goto (tgt := 5) dX12_owes_55 rfl ?_
        exact v_inl (hk (v8, v9))
theorem ct_X12_owes (d : Nat) (hd : 0 ≤ d) (a0 : Nat) (x1 : Int32) (x2 : Int32) (M : Me) (r : Int32) (hf : f_X12_owes a0 x1 x2 M = some r) : me_k M a0 = some (12, nf_c 12) ∧ Ct yX12_owes mX12_owes d 0 0 [.ref a0, .int x1, .int x2] M (some (.int r), M) := by
  obtain ⟨hk, hb⟩ := ck_some hf
  exact ⟨hk, ct_of (by decide +kernel) rfl rfl (Nat.le_of_ble_eq_true rfl) (vb_X12_owes d hd a0 x1 x2 M) (by rw [hb]; rfl)⟩
theorem dX12_ring_0 : decode cX12_ring 0 = .ok (.ldc 184, 2) := by decide +kernel
theorem dX12_ring_2 : decode cX12_ring 2 = .ok (.istore_n 1, 1) := by decide +kernel
theorem dX12_ring_3 : decode cX12_ring 3 = .ok (.iconst 0, 1) := by decide +kernel
theorem dX12_ring_4 : decode cX12_ring 4 = .ok (.istore_n 2, 1) := by decide +kernel
theorem dX12_ring_5 : decode cX12_ring 5 = .ok (.iload_n 2, 1) := by decide +kernel
theorem dX12_ring_6 : decode cX12_ring 6 = .ok (.bipush 6, 2) := by decide +kernel
theorem dX12_ring_8 : decode cX12_ring 8 = .ok (.if_icmp .ge 121, 3) := by decide +kernel
theorem dX12_ring_11 : decode cX12_ring 11 = .ok (.iconst 1, 1) := by decide +kernel
theorem dX12_ring_12 : decode cX12_ring 12 = .ok (.iload_n 2, 1) := by decide +kernel
theorem dX12_ring_13 : decode cX12_ring 13 = .ok (.ishl, 1) := by decide +kernel
theorem dX12_ring_14 : decode cX12_ring 14 = .ok (.istore_n 3, 1) := by decide +kernel
theorem dX12_ring_15 : decode cX12_ring 15 = .ok (.iconst 1, 1) := by decide +kernel
theorem dX12_ring_16 : decode cX12_ring 16 = .ok (.istore 4, 2) := by decide +kernel
theorem dX12_ring_18 : decode cX12_ring 18 = .ok (.iload 4, 2) := by decide +kernel
theorem dX12_ring_20 : decode cX12_ring 20 = .ok (.bipush 7, 2) := by decide +kernel
theorem dX12_ring_22 : decode cX12_ring 22 = .ok (.if_icmp .ge 101, 3) := by decide +kernel
theorem dX12_ring_25 : decode cX12_ring 25 = .ok (.iconst 0, 1) := by decide +kernel
theorem dX12_ring_26 : decode cX12_ring 26 = .ok (.istore 5, 2) := by decide +kernel
theorem dX12_ring_28 : decode cX12_ring 28 = .ok (.iconst 0, 1) := by decide +kernel
theorem dX12_ring_29 : decode cX12_ring 29 = .ok (.istore 6, 2) := by decide +kernel
theorem dX12_ring_31 : decode cX12_ring 31 = .ok (.iload 6, 2) := by decide +kernel
theorem dX12_ring_33 : decode cX12_ring 33 = .ok (.bipush 6, 2) := by decide +kernel
theorem dX12_ring_35 : decode cX12_ring 35 = .ok (.if_icmp .ge 58, 3) := by decide +kernel
theorem dX12_ring_38 : decode cX12_ring 38 = .ok (.iconst 0, 1) := by decide +kernel
theorem dX12_ring_39 : decode cX12_ring 39 = .ok (.istore 7, 2) := by decide +kernel
theorem dX12_ring_41 : decode cX12_ring 41 = .ok (.iload 7, 2) := by decide +kernel
theorem dX12_ring_43 : decode cX12_ring 43 = .ok (.bipush 6, 2) := by decide +kernel
theorem dX12_ring_45 : decode cX12_ring 45 = .ok (.if_icmp .ge 42, 3) := by decide +kernel
theorem dX12_ring_48 : decode cX12_ring 48 = .ok (.iload_n 3, 1) := by decide +kernel
theorem dX12_ring_49 : decode cX12_ring 49 = .ok (.iload 6, 2) := by decide +kernel
theorem dX12_ring_51 : decode cX12_ring 51 = .ok (.invokestatic 85, 3) := by decide +kernel
theorem dX12_ring_54 : decode cX12_ring 54 = .ok (.ifCond .eq 33, 3) := by decide +kernel
theorem dX12_ring_57 : decode cX12_ring 57 = .ok (.iload 5, 2) := by decide +kernel
theorem dX12_ring_59 : decode cX12_ring 59 = .ok (.aload_n 0, 1) := by decide +kernel
theorem dX12_ring_60 : decode cX12_ring 60 = .ok (.iload 6, 2) := by decide +kernel
theorem dX12_ring_62 : decode cX12_ring 62 = .ok (.iload 7, 2) := by decide +kernel
theorem dX12_ring_64 : decode cX12_ring 64 = .ok (.invokevirtual 204, 3) := by decide +kernel
theorem dX12_ring_67 : decode cX12_ring 67 = .ok (.ifCond .eq 10, 3) := by decide +kernel
theorem dX12_ring_70 : decode cX12_ring 70 = .ok (.iconst 1, 1) := by decide +kernel
theorem dX12_ring_71 : decode cX12_ring 71 = .ok (.iload 7, 2) := by decide +kernel
theorem dX12_ring_73 : decode cX12_ring 73 = .ok (.ishl, 1) := by decide +kernel
theorem dX12_ring_74 : decode cX12_ring 74 = .ok (.goto 4, 3) := by decide +kernel
theorem dX12_ring_77 : decode cX12_ring 77 = .ok (.iconst 0, 1) := by decide +kernel
theorem dX12_ring_78 : decode cX12_ring 78 = .ok (.ior, 1) := by decide +kernel
theorem dX12_ring_79 : decode cX12_ring 79 = .ok (.istore 5, 2) := by decide +kernel
theorem dX12_ring_81 : decode cX12_ring 81 = .ok (.iinc 7 1, 3) := by decide +kernel
theorem dX12_ring_84 : decode cX12_ring 84 = .ok (.goto (-43), 3) := by decide +kernel
theorem dX12_ring_87 : decode cX12_ring 87 = .ok (.iinc 6 1, 3) := by decide +kernel
theorem dX12_ring_90 : decode cX12_ring 90 = .ok (.goto (-59), 3) := by decide +kernel
theorem dX12_ring_93 : decode cX12_ring 93 = .ok (.iload 5, 2) := by decide +kernel
theorem dX12_ring_95 : decode cX12_ring 95 = .ok (.istore_n 3, 1) := by decide +kernel
theorem dX12_ring_96 : decode cX12_ring 96 = .ok (.iload_n 3, 1) := by decide +kernel
theorem dX12_ring_97 : decode cX12_ring 97 = .ok (.iload_n 2, 1) := by decide +kernel
theorem dX12_ring_98 : decode cX12_ring 98 = .ok (.invokestatic 85, 3) := by decide +kernel
theorem dX12_ring_101 : decode cX12_ring 101 = .ok (.ifCond .eq 14, 3) := by decide +kernel
theorem dX12_ring_104 : decode cX12_ring 104 = .ok (.iload 4, 2) := by decide +kernel
theorem dX12_ring_106 : decode cX12_ring 106 = .ok (.iload_n 1, 1) := by decide +kernel
theorem dX12_ring_107 : decode cX12_ring 107 = .ok (.if_icmp .ge 8, 3) := by decide +kernel
theorem dX12_ring_110 : decode cX12_ring 110 = .ok (.iload 4, 2) := by decide +kernel
theorem dX12_ring_112 : decode cX12_ring 112 = .ok (.goto 4, 3) := by decide +kernel
theorem dX12_ring_115 : decode cX12_ring 115 = .ok (.iload_n 1, 1) := by decide +kernel
theorem dX12_ring_116 : decode cX12_ring 116 = .ok (.istore_n 1, 1) := by decide +kernel
theorem dX12_ring_117 : decode cX12_ring 117 = .ok (.iinc 4 1, 3) := by decide +kernel
theorem dX12_ring_120 : decode cX12_ring 120 = .ok (.goto (-102), 3) := by decide +kernel
theorem dX12_ring_123 : decode cX12_ring 123 = .ok (.iinc 2 1, 3) := by decide +kernel
theorem dX12_ring_126 : decode cX12_ring 126 = .ok (.goto (-121), 3) := by decide +kernel
theorem dX12_ring_129 : decode cX12_ring 129 = .ok (.iload_n 1, 1) := by decide +kernel
theorem dX12_ring_130 : decode cX12_ring 130 = .ok (.ldc 184, 2) := by decide +kernel
theorem dX12_ring_132 : decode cX12_ring 132 = .ok (.if_icmp .ne 8, 3) := by decide +kernel
theorem dX12_ring_135 : decode cX12_ring 135 = .ok (.bipush (-6), 2) := by decide +kernel
theorem dX12_ring_137 : decode cX12_ring 137 = .ok (.goto 4, 3) := by decide +kernel
theorem dX12_ring_140 : decode cX12_ring 140 = .ok (.iload_n 1, 1) := by decide +kernel
theorem dX12_ring_141 : decode cX12_ring 141 = .ok (.ireturn, 1) := by decide +kernel
noncomputable def s_X12_ring_41 (a0 : Nat) (M : Me) (v5 : Int32) (v8 : Int32) (v9 : Int32) (v10 : Int32) : Option ((Int32 × Int32) ⊕ (Int32 × Int32)) :=
  if (6 : Int32) ≤ v10 then (
    some (Sum.inr (v9, v10))
  ) else (
    cP (f_X12_has v5 v8 M) fun v11 =>
    if v11 = 0 then (
      some (Sum.inr (v9, v10))
    ) else (
      cP (f_X12_owes a0 v8 v10 M) fun v12 =>
      (
        if v12 = 0 then (
          some (0 : Int32)
        ) else (
          some ((1 : Int32) <<< (v10 &&& 31))
        )
      ).bind fun v13 =>
      let_v ((v9 ||| v13)) fun v14 =>
      let_v (v10 + (1 : Int32)) fun v15 =>
      some (Sum.inl (v14, v15))
    )
  )
noncomputable def s_X12_ring_31 (a0 : Nat) (M : Me) (v5 : Int32) (v7 : Int32) (v8 : Int32) : Option ((Int32 × Int32) ⊕ (Int32 × Int32)) :=
  if (6 : Int32) ≤ v8 then (
    some (Sum.inr (v7, v8))
  ) else (
    (lp (fun s => s_X12_ring_41 a0 M v5 v8 s.1 s.2) (v7, (0 : Int32))).bind fun e16 =>
    let_v (v8 + (1 : Int32)) fun v17 =>
    some (Sum.inl (e16.1, v17))
  )
noncomputable def s_X12_ring_18 (a0 : Nat) (M : Me) (v2 : Int32) (v4 : Int32) (v5 : Int32) (v6 : Int32) : Option ((Int32 × Int32 × Int32) ⊕ (Int32 × Int32 × Int32)) :=
  if (7 : Int32) ≤ v6 then (
    some (Sum.inr (v4, v5, v6))
  ) else (
    (lp (fun s => s_X12_ring_31 a0 M v5 s.1 s.2) ((0 : Int32), (0 : Int32))).bind fun e18 =>
    cP (f_X12_has e18.1 v2 M) fun v19 =>
    (
      if v19 = 0 then (
        some v4
      ) else (
        if v4 ≤ v6 then (
          some v4
        ) else (
          some v6
        )
      )
    ).bind fun v20 =>
    let_v (v6 + (1 : Int32)) fun v21 =>
    some (Sum.inl (v20, e18.1, v21))
  )
noncomputable def s_X12_ring_5 (a0 : Nat) (M : Me) (v1 : Int32) (v2 : Int32) : Option ((Int32 × Int32) ⊕ (Int32 × Int32)) :=
  if (6 : Int32) ≤ v2 then (
    some (Sum.inr (v1, v2))
  ) else (
    let_v (((1 : Int32) <<< (v2 &&& 31))) fun v3 =>
    (lp (fun s => s_X12_ring_18 a0 M v2 s.1 s.2.1 s.2.2) (v1, v3, (1 : Int32))).bind fun e22 =>
    let_v (v2 + (1 : Int32)) fun v23 =>
    some (Sum.inl (e22.1, v23))
  )
noncomputable def b_X12_ring (a0 : Nat) (M : Me) : Option (Int32) :=
  (lp (fun s => s_X12_ring_5 a0 M s.1 s.2) ((10000000 : Int32), (0 : Int32))).bind fun e24 =>
  (
    if e24.1 = (10000000 : Int32) then (
      some (-6 : Int32)
    ) else (
      some e24.1
    )
  ).bind fun v25 =>
  some v25
noncomputable def f_X12_ring (a0 : Nat) (M : Me) : Option (Int32) := ck M a0 12 (b_X12_ring a0 M)
set_option maxRecDepth 20000 in
theorem vb_X12_ring (d : Nat) (hd : 1 ≤ d) (a0 : Nat) (M : Me) : V (mX12_ring, d, 0, 0) (0, 0) M 0 [some (.ref a0), none, none, none, none, none, none, none] [] (b_X12_ring a0 M) (fun z => some (some (.int z), M)) := by
  unfold b_X12_ring
  refine v_ldc (q := 2) (v := (10000000 : Int32)) kc_X12_184 dX12_ring_0 rfl ?_
  refine v_istore_n (q := 3) (loc2 := [some (.ref a0), some (.int (10000000 : Int32)), none, none, none, none, none, none]) dX12_ring_2 rfl rfl rfl (Nat.le_of_ble_eq_true rfl) rfl ?_
  refine v_iconst (q := 4) dX12_ring_3 rfl ic_0 ?_
  refine v_istore_n (q := 5) (loc2 := [some (.ref a0), some (.int (10000000 : Int32)), some (.int (0 : Int32)), none, none, none, none, none]) dX12_ring_4 rfl rfl rfl (Nat.le_of_ble_eq_true rfl) rfl ?_
  refine v_lps (S := Int32 × Int32) 129 (fun s => M) (fun s => [some (.ref a0), some (.int s.1), some (.int s.2), none, none, none, none, none]) (fun e24 => M) (fun e24 => [some (.ref a0), some (.int e24.1), some (.int e24.2), none, none, none, none, none]) (fun e24 => ?_) (fun k K hk hx s => ?_)
  · refine v_iload_n (q := 130) dX12_ring_129 rfl rfl rfl ?_
    refine v_ldc (q := 132) (v := (10000000 : Int32)) kc_X12_184 dX12_ring_130 rfl ?_
    refine v_join (γ := Int32) 141 (fun v25 => M) (fun v25 => [some (.ref a0), some (.int e24.1), some (.int e24.2), none, none, none, none, none]) (fun v25 => [.int v25]) (fun K hK => ?_) (fun v25 => ?_)
    · refine v_icmp_ne (tgt := 140) (q := 135) dX12_ring_132 rfl rfl ?_ ?_
      · refine v_iload_n (q := 141) dX12_ring_140 rfl rfl rfl ?_
        exact hK e24.1
      · refine v_bipush (q := 137) dX12_ring_135 rfl bp_m6 ?_
        refine v_goto (tgt := 141) dX12_ring_137 rfl ?_
        exact hK (-6 : Int32)
    · exact v_iret rfl dX12_ring_141 ⟨Nat.le_of_ble_eq_true rfl, Nat.le_of_ble_eq_true rfl⟩ rfl
  · obtain ⟨v1, v2⟩ := s
    show V _ _ M 5 [some (.ref a0), some (.int v1), some (.int v2), none, none, none, none, none] [] (s_X12_ring_5 a0 M v1 v2) _
    unfold s_X12_ring_5
    refine v_iload_n (q := 6) dX12_ring_5 rfl rfl rfl ?_
    refine v_bipush (q := 8) dX12_ring_6 rfl bp_6 ?_
    refine v_icmp_ge (tgt := 129) (q := 11) dX12_ring_8 rfl rfl ?_ ?_
    · exact v_inr (hx (v1, v2))
    · refine v_iconst (q := 12) dX12_ring_11 rfl ic_1 ?_
      refine v_iload_n (q := 13) dX12_ring_12 rfl rfl rfl ?_
      refine v_ishl (q := 14) dX12_ring_13 rfl ?_
      refine v_letI (fun v3 => ?_)
      refine v_istore_n (q := 15) (loc2 := [some (.ref a0), some (.int v1), some (.int v2), some (.int v3), none, none, none, none]) dX12_ring_14 rfl rfl rfl (Nat.le_of_ble_eq_true rfl) rfl ?_
      refine v_iconst (q := 16) dX12_ring_15 rfl ic_1 ?_
      refine v_istore (q := 18) (loc2 := [some (.ref a0), some (.int v1), some (.int v2), some (.int v3), some (.int (1 : Int32)), none, none, none]) dX12_ring_16 rfl rfl (Nat.le_of_ble_eq_true rfl) rfl ?_
      refine v_lps (S := Int32 × Int32 × Int32) 123 (fun s => M) (fun s => [some (.ref a0), some (.int s.1), some (.int v2), some (.int s.2.1), some (.int s.2.2), none, none, none]) (fun e22 => M) (fun e22 => [some (.ref a0), some (.int e22.1), some (.int v2), some (.int e22.2.1), some (.int e22.2.2), none, none, none]) (fun e22 => ?_) (fun k K hk hx s => ?_)
      · refine v_iincL (q := 126) (x := v2) (cst := (1 : Int32)) (f := fun v23 => [some (.ref a0), some (.int e22.1), some (.int v23), some (.int e22.2.1), some (.int e22.2.2), none, none, none]) dX12_ring_123 rfl rfl ic_1 rfl (Nat.le_of_ble_eq_true rfl) (fun _ => rfl) (fun v23 => ?_)
        refine v_goto (tgt := 5) dX12_ring_126 rfl ?_
        exact v_inl (v_weak (hk (e22.1, v23)) ⟨rfl, ⟨rfl, ⟨rfl, trivial⟩⟩⟩)
      · obtain ⟨v4, v5, v6⟩ := s
        show V _ _ M 18 [some (.ref a0), some (.int v4), some (.int v2), some (.int v5), some (.int v6), none, none, none] [] (s_X12_ring_18 a0 M v2 v4 v5 v6) _
        unfold s_X12_ring_18
        refine v_iload (q := 20) dX12_ring_18 rfl rfl ?_
        refine v_bipush (q := 22) dX12_ring_20 rfl bp_7 ?_
        refine v_icmp_ge (tgt := 123) (q := 25) dX12_ring_22 rfl rfl ?_ ?_
        · exact v_inr (hx (v4, v5, v6))
        · refine v_iconst (q := 26) dX12_ring_25 rfl ic_0 ?_
          refine v_istore (q := 28) (loc2 := [some (.ref a0), some (.int v4), some (.int v2), some (.int v5), some (.int v6), some (.int (0 : Int32)), none, none]) dX12_ring_26 rfl rfl (Nat.le_of_ble_eq_true rfl) rfl ?_
          refine v_iconst (q := 29) dX12_ring_28 rfl ic_0 ?_
          refine v_istore (q := 31) (loc2 := [some (.ref a0), some (.int v4), some (.int v2), some (.int v5), some (.int v6), some (.int (0 : Int32)), some (.int (0 : Int32)), none]) dX12_ring_29 rfl rfl (Nat.le_of_ble_eq_true rfl) rfl ?_
          refine v_lps (S := Int32 × Int32) 93 (fun s => M) (fun s => [some (.ref a0), some (.int v4), some (.int v2), some (.int v5), some (.int v6), some (.int s.1), some (.int s.2), none]) (fun e18 => M) (fun e18 => [some (.ref a0), some (.int v4), some (.int v2), some (.int v5), some (.int v6), some (.int e18.1), some (.int e18.2), none]) (fun e18 => ?_) (fun k K hk hx s => ?_)
          · refine v_iload (q := 95) dX12_ring_93 rfl rfl ?_
            refine v_istore_n (q := 96) (loc2 := [some (.ref a0), some (.int v4), some (.int v2), some (.int e18.1), some (.int v6), some (.int e18.1), some (.int e18.2), none]) dX12_ring_95 rfl rfl rfl (Nat.le_of_ble_eq_true rfl) rfl ?_
            refine v_iload_n (q := 97) dX12_ring_96 rfl rfl rfl ?_
            refine v_iload_n (q := 98) dX12_ring_97 rfl rfl rfl ?_
            refine v_cPS2 (q := 101) (ct_X12_has (d - 1) (by omega) _ _ _) dX12_ring_98 rfl cc_X12_85 (by omega) (Nat.le_of_ble_eq_true rfl) ⟨Nat.le_of_ble_eq_true rfl, Nat.le_of_ble_eq_true rfl⟩ (fun v19 => ?_)
            refine v_join (γ := Int32) 116 (fun v20 => M) (fun v20 => [some (.ref a0), some (.int v4), some (.int v2), some (.int e18.1), some (.int v6), some (.int e18.1), some (.int e18.2), none]) (fun v20 => [.int v20]) (fun K hK => ?_) (fun v20 => ?_)
            · refine v_if_eq (tgt := 115) (q := 104) dX12_ring_101 rfl rfl ?_ ?_
              · refine v_iload_n (q := 116) dX12_ring_115 rfl rfl rfl ?_
                exact hK v4
              · refine v_iload (q := 106) dX12_ring_104 rfl rfl ?_
                refine v_iload_n (q := 107) dX12_ring_106 rfl rfl rfl ?_
                refine v_icmp_ge (tgt := 115) (q := 110) dX12_ring_107 rfl rfl ?_ ?_
                · refine v_iload_n (q := 116) dX12_ring_115 rfl rfl rfl ?_
                  exact hK v4
                · refine v_iload (q := 112) dX12_ring_110 rfl rfl ?_
                  refine v_goto (tgt := 116) dX12_ring_112 rfl ?_
                  exact hK v6
            · refine v_istore_n (q := 117) (loc2 := [some (.ref a0), some (.int v20), some (.int v2), some (.int e18.1), some (.int v6), some (.int e18.1), some (.int e18.2), none]) dX12_ring_116 rfl rfl rfl (Nat.le_of_ble_eq_true rfl) rfl ?_
              refine v_iincL (q := 120) (x := v6) (cst := (1 : Int32)) (f := fun v21 => [some (.ref a0), some (.int v20), some (.int v2), some (.int e18.1), some (.int v21), some (.int e18.1), some (.int e18.2), none]) dX12_ring_117 rfl rfl ic_1 rfl (Nat.le_of_ble_eq_true rfl) (fun _ => rfl) (fun v21 => ?_)
              refine v_goto (tgt := 18) dX12_ring_120 rfl ?_
              exact v_inl (v_weak (hk (v20, e18.1, v21)) ⟨rfl, ⟨rfl, ⟨rfl, ⟨rfl, ⟨rfl, trivial⟩⟩⟩⟩⟩)
          · obtain ⟨v7, v8⟩ := s
            show V _ _ M 31 [some (.ref a0), some (.int v4), some (.int v2), some (.int v5), some (.int v6), some (.int v7), some (.int v8), none] [] (s_X12_ring_31 a0 M v5 v7 v8) _
            unfold s_X12_ring_31
            refine v_iload (q := 33) dX12_ring_31 rfl rfl ?_
            refine v_bipush (q := 35) dX12_ring_33 rfl bp_6 ?_
            refine v_icmp_ge (tgt := 93) (q := 38) dX12_ring_35 rfl rfl ?_ ?_
            · exact v_inr (hx (v7, v8))
            · refine v_iconst (q := 39) dX12_ring_38 rfl ic_0 ?_
              refine v_istore (q := 41) (loc2 := [some (.ref a0), some (.int v4), some (.int v2), some (.int v5), some (.int v6), some (.int v7), some (.int v8), some (.int (0 : Int32))]) dX12_ring_39 rfl rfl (Nat.le_of_ble_eq_true rfl) rfl ?_
              refine v_lps (S := Int32 × Int32) 87 (fun s => M) (fun s => [some (.ref a0), some (.int v4), some (.int v2), some (.int v5), some (.int v6), some (.int s.1), some (.int v8), some (.int s.2)]) (fun e16 => M) (fun e16 => [some (.ref a0), some (.int v4), some (.int v2), some (.int v5), some (.int v6), some (.int e16.1), some (.int v8), some (.int e16.2)]) (fun e16 => ?_) (fun k K hk hx s => ?_)
              · refine v_iincL (q := 90) (x := v8) (cst := (1 : Int32)) (f := fun v17 => [some (.ref a0), some (.int v4), some (.int v2), some (.int v5), some (.int v6), some (.int e16.1), some (.int v17), some (.int e16.2)]) dX12_ring_87 rfl rfl ic_1 rfl (Nat.le_of_ble_eq_true rfl) (fun _ => rfl) (fun v17 => ?_)
                refine v_goto (tgt := 31) dX12_ring_90 rfl ?_
                exact v_inl (v_weak (hk (e16.1, v17)) ⟨rfl, ⟨rfl, ⟨rfl, ⟨rfl, ⟨rfl, ⟨rfl, ⟨rfl, trivial⟩⟩⟩⟩⟩⟩⟩)
              · obtain ⟨v9, v10⟩ := s
                show V _ _ M 41 [some (.ref a0), some (.int v4), some (.int v2), some (.int v5), some (.int v6), some (.int v9), some (.int v8), some (.int v10)] [] (s_X12_ring_41 a0 M v5 v8 v9 v10) _
                unfold s_X12_ring_41
                refine v_iload (q := 43) dX12_ring_41 rfl rfl ?_
                refine v_bipush (q := 45) dX12_ring_43 rfl bp_6 ?_
                refine v_icmp_ge (tgt := 87) (q := 48) dX12_ring_45 rfl rfl ?_ ?_
                · exact v_inr (hx (v9, v10))
                · refine v_iload_n (q := 49) dX12_ring_48 rfl rfl rfl ?_
                  refine v_iload (q := 51) dX12_ring_49 rfl rfl ?_
                  refine v_cPS2 (q := 54) (ct_X12_has (d - 1) (by omega) _ _ _) dX12_ring_51 rfl cc_X12_85 (by omega) (Nat.le_of_ble_eq_true rfl) ⟨Nat.le_of_ble_eq_true rfl, Nat.le_of_ble_eq_true rfl⟩ (fun v11 => ?_)
                  refine v_if_eq (tgt := 87) (q := 57) dX12_ring_54 rfl rfl ?_ ?_
                  · exact v_inr (hx (v9, v10))
                  · refine v_iload (q := 59) dX12_ring_57 rfl rfl ?_
                    refine v_aload_n (q := 60) dX12_ring_59 rfl rfl rfl ?_
                    refine v_iload (q := 62) dX12_ring_60 rfl rfl ?_
                    refine v_iload (q := 64) dX12_ring_62 rfl rfl ?_
                    refine v_cPV2 (q := 67) (ct_X12_owes (d - 1) (by omega) _ _ _ _) dX12_ring_64 rfl cc_X12_204 (by omega) (Nat.le_of_ble_eq_true rfl) ⟨Nat.le_of_ble_eq_true rfl, Nat.le_of_ble_eq_true rfl⟩ (fun v12 => ?_)
                    refine v_join (γ := Int32) 78 (fun v13 => M) (fun v13 => [some (.ref a0), some (.int v4), some (.int v2), some (.int v5), some (.int v6), some (.int v9), some (.int v8), some (.int v10)]) (fun v13 => [.int v13, .int v9]) (fun K hK => ?_) (fun v13 => ?_)
                    · refine v_if_eq (tgt := 77) (q := 70) dX12_ring_67 rfl rfl ?_ ?_
                      · refine v_iconst (q := 78) dX12_ring_77 rfl ic_0 ?_
                        exact hK (0 : Int32)
                      · refine v_iconst (q := 71) dX12_ring_70 rfl ic_1 ?_
                        refine v_iload (q := 73) dX12_ring_71 rfl rfl ?_
                        refine v_ishl (q := 74) dX12_ring_73 rfl ?_
                        refine v_goto (tgt := 78) dX12_ring_74 rfl ?_
                        exact hK ((1 : Int32) <<< (v10 &&& 31))
                    · refine v_ior (q := 79) dX12_ring_78 rfl ?_
                      refine v_letI (fun v14 => ?_)
                      refine v_istore (q := 81) (loc2 := [some (.ref a0), some (.int v4), some (.int v2), some (.int v5), some (.int v6), some (.int v14), some (.int v8), some (.int v10)]) dX12_ring_79 rfl rfl (Nat.le_of_ble_eq_true rfl) rfl ?_
                      refine v_iincL (q := 84) (x := v10) (cst := (1 : Int32)) (f := fun v15 => [some (.ref a0), some (.int v4), some (.int v2), some (.int v5), some (.int v6), some (.int v14), some (.int v8), some (.int v15)]) dX12_ring_81 rfl rfl ic_1 rfl (Nat.le_of_ble_eq_true rfl) (fun _ => rfl) (fun v15 => ?_)
                      refine v_goto (tgt := 41) dX12_ring_84 rfl ?_
                      exact v_inl (hk (v14, v15))
theorem ct_X12_ring (d : Nat) (hd : 1 ≤ d) (a0 : Nat) (M : Me) (r : Int32) (hf : f_X12_ring a0 M = some r) : me_k M a0 = some (12, nf_c 12) ∧ Ct yX12_ring mX12_ring d 0 0 [.ref a0] M (some (.int r), M) := by
  obtain ⟨hk, hb⟩ := ck_some hf
  exact ⟨hk, ct_of (by decide +kernel) rfl rfl (Nat.le_of_ble_eq_true rfl) (vb_X12_ring d hd a0 M) (by rw [hb]; rfl)⟩
theorem dX12_reckoned_0 : decode cX12_reckoned 0 = .ok (.iload_n 1, 1) := by decide +kernel
theorem dX12_reckoned_1 : decode cX12_reckoned 1 = .ok (.iconst 0, 1) := by decide +kernel
theorem dX12_reckoned_2 : decode cX12_reckoned 2 = .ok (.ldc 207, 2) := by decide +kernel
theorem dX12_reckoned_4 : decode cX12_reckoned 4 = .ok (.invokestatic 81, 3) := by decide +kernel
theorem dX12_reckoned_7 : decode cX12_reckoned 7 = .ok (.ifCond .eq 22, 3) := by decide +kernel
theorem dX12_reckoned_10 : decode cX12_reckoned 10 = .ok (.iload_n 2, 1) := by decide +kernel
theorem dX12_reckoned_11 : decode cX12_reckoned 11 = .ok (.iconst 0, 1) := by decide +kernel
theorem dX12_reckoned_12 : decode cX12_reckoned 12 = .ok (.bipush 99, 2) := by decide +kernel
theorem dX12_reckoned_14 : decode cX12_reckoned 14 = .ok (.invokestatic 81, 3) := by decide +kernel
theorem dX12_reckoned_17 : decode cX12_reckoned 17 = .ok (.ifCond .eq 12, 3) := by decide +kernel
theorem dX12_reckoned_20 : decode cX12_reckoned 20 = .ok (.iload_n 3, 1) := by decide +kernel
theorem dX12_reckoned_21 : decode cX12_reckoned 21 = .ok (.iconst 0, 1) := by decide +kernel
theorem dX12_reckoned_22 : decode cX12_reckoned 22 = .ok (.iconst 2, 1) := by decide +kernel
theorem dX12_reckoned_23 : decode cX12_reckoned 23 = .ok (.invokestatic 81, 3) := by decide +kernel
theorem dX12_reckoned_26 : decode cX12_reckoned 26 = .ok (.ifCond .ne 6, 3) := by decide +kernel
theorem dX12_reckoned_29 : decode cX12_reckoned 29 = .ok (.bipush (-2), 2) := by decide +kernel
theorem dX12_reckoned_31 : decode cX12_reckoned 31 = .ok (.ireturn, 1) := by decide +kernel
theorem dX12_reckoned_32 : decode cX12_reckoned 32 = .ok (.iconst 0, 1) := by decide +kernel
theorem dX12_reckoned_33 : decode cX12_reckoned 33 = .ok (.istore 4, 2) := by decide +kernel
theorem dX12_reckoned_35 : decode cX12_reckoned 35 = .ok (.iload_n 1, 1) := by decide +kernel
theorem dX12_reckoned_36 : decode cX12_reckoned 36 = .ok (.istore 5, 2) := by decide +kernel
theorem dX12_reckoned_38 : decode cX12_reckoned 38 = .ok (.iload 5, 2) := by decide +kernel
theorem dX12_reckoned_40 : decode cX12_reckoned 40 = .ok (.iload_n 1, 1) := by decide +kernel
theorem dX12_reckoned_41 : decode cX12_reckoned 41 = .ok (.aload_n 0, 1) := by decide +kernel
theorem dX12_reckoned_42 : decode cX12_reckoned 42 = .ok (.getfield 17, 3) := by decide +kernel
theorem dX12_reckoned_45 : decode cX12_reckoned 45 = .ok (.iadd, 1) := by decide +kernel
theorem dX12_reckoned_46 : decode cX12_reckoned 46 = .ok (.if_icmp .ge 38, 3) := by decide +kernel
theorem dX12_reckoned_49 : decode cX12_reckoned 49 = .ok (.iload 4, 2) := by decide +kernel
theorem dX12_reckoned_51 : decode cX12_reckoned 51 = .ok (.iload 5, 2) := by decide +kernel
theorem dX12_reckoned_53 : decode cX12_reckoned 53 = .ok (.aload_n 0, 1) := by decide +kernel
theorem dX12_reckoned_54 : decode cX12_reckoned 54 = .ok (.getfield 17, 3) := by decide +kernel
theorem dX12_reckoned_57 : decode cX12_reckoned 57 = .ok (.idiv, 1) := by decide +kernel
theorem dX12_reckoned_58 : decode cX12_reckoned 58 = .ok (.iload 5, 2) := by decide +kernel
theorem dX12_reckoned_60 : decode cX12_reckoned 60 = .ok (.iload_n 2, 1) := by decide +kernel
theorem dX12_reckoned_61 : decode cX12_reckoned 61 = .ok (.iadd, 1) := by decide +kernel
theorem dX12_reckoned_62 : decode cX12_reckoned 62 = .ok (.aload_n 0, 1) := by decide +kernel
theorem dX12_reckoned_63 : decode cX12_reckoned 63 = .ok (.getfield 17, 3) := by decide +kernel
theorem dX12_reckoned_66 : decode cX12_reckoned 66 = .ok (.idiv, 1) := by decide +kernel
theorem dX12_reckoned_67 : decode cX12_reckoned 67 = .ok (.if_icmp .ne 7, 3) := by decide +kernel
theorem dX12_reckoned_70 : decode cX12_reckoned 70 = .ok (.iconst 1, 1) := by decide +kernel
theorem dX12_reckoned_71 : decode cX12_reckoned 71 = .ok (.goto 4, 3) := by decide +kernel
theorem dX12_reckoned_74 : decode cX12_reckoned 74 = .ok (.iconst 0, 1) := by decide +kernel
theorem dX12_reckoned_75 : decode cX12_reckoned 75 = .ok (.iadd, 1) := by decide +kernel
theorem dX12_reckoned_76 : decode cX12_reckoned 76 = .ok (.istore 4, 2) := by decide +kernel
theorem dX12_reckoned_78 : decode cX12_reckoned 78 = .ok (.iinc 5 1, 3) := by decide +kernel
theorem dX12_reckoned_81 : decode cX12_reckoned 81 = .ok (.goto (-43), 3) := by decide +kernel
theorem dX12_reckoned_84 : decode cX12_reckoned 84 = .ok (.iload_n 3, 1) := by decide +kernel
theorem dX12_reckoned_85 : decode cX12_reckoned 85 = .ok (.ifCond .ne 14, 3) := by decide +kernel
theorem dX12_reckoned_88 : decode cX12_reckoned 88 = .ok (.iload_n 1, 1) := by decide +kernel
theorem dX12_reckoned_89 : decode cX12_reckoned 89 = .ok (.iload_n 2, 1) := by decide +kernel
theorem dX12_reckoned_90 : decode cX12_reckoned 90 = .ok (.iadd, 1) := by decide +kernel
theorem dX12_reckoned_91 : decode cX12_reckoned 91 = .ok (.aload_n 0, 1) := by decide +kernel
theorem dX12_reckoned_92 : decode cX12_reckoned 92 = .ok (.getfield 17, 3) := by decide +kernel
theorem dX12_reckoned_95 : decode cX12_reckoned 95 = .ok (.irem, 1) := by decide +kernel
theorem dX12_reckoned_96 : decode cX12_reckoned 96 = .ok (.goto 21, 3) := by decide +kernel
theorem dX12_reckoned_99 : decode cX12_reckoned 99 = .ok (.iload_n 3, 1) := by decide +kernel
theorem dX12_reckoned_100 : decode cX12_reckoned 100 = .ok (.iconst 1, 1) := by decide +kernel
theorem dX12_reckoned_101 : decode cX12_reckoned 101 = .ok (.if_icmp .ne 14, 3) := by decide +kernel
theorem dX12_reckoned_104 : decode cX12_reckoned 104 = .ok (.iload_n 1, 1) := by decide +kernel
theorem dX12_reckoned_105 : decode cX12_reckoned 105 = .ok (.iload_n 2, 1) := by decide +kernel
theorem dX12_reckoned_106 : decode cX12_reckoned 106 = .ok (.iadd, 1) := by decide +kernel
theorem dX12_reckoned_107 : decode cX12_reckoned 107 = .ok (.aload_n 0, 1) := by decide +kernel
theorem dX12_reckoned_108 : decode cX12_reckoned 108 = .ok (.getfield 17, 3) := by decide +kernel
theorem dX12_reckoned_111 : decode cX12_reckoned 111 = .ok (.idiv, 1) := by decide +kernel
theorem dX12_reckoned_112 : decode cX12_reckoned 112 = .ok (.goto 5, 3) := by decide +kernel
theorem dX12_reckoned_115 : decode cX12_reckoned 115 = .ok (.iload 4, 2) := by decide +kernel
theorem dX12_reckoned_117 : decode cX12_reckoned 117 = .ok (.ireturn, 1) := by decide +kernel
noncomputable def s_X12_reckoned_38 (a0 : Nat) (x1 : Int32) (x2 : Int32) (M : Me) (v4 : Int32) (v5 : Int32) : Option ((Int32 × Int32) ⊕ (Int32 × Int32)) :=
  gi M a0 12 2 fun v6 =>
  if (x1 + v6) ≤ v5 then (
    some (Sum.inr (v4, v5))
  ) else (
    gi M a0 12 2 fun v7 =>
    if v7 = 0 then none else
    gi M a0 12 2 fun v8 =>
    if v8 = 0 then none else
    (
      if (v5 / v7) = ((v5 + x2) / v8) then (
        some (1 : Int32)
      ) else (
        some (0 : Int32)
      )
    ).bind fun v9 =>
    let_v ((v4 + v9)) fun v10 =>
    let_v (v5 + (1 : Int32)) fun v11 =>
    some (Sum.inl (v10, v11))
  )
noncomputable def b_X12_reckoned (a0 : Nat) (x1 : Int32) (x2 : Int32) (x3 : Int32) (M : Me) : Option (Int32) :=
  cP (f_X12_in x1 (0 : Int32) (99999 : Int32) M) fun v1 =>
  if v1 = 0 then (
    some (-2 : Int32)
  ) else (
    cP (f_X12_in x2 (0 : Int32) (99 : Int32) M) fun v2 =>
    if v2 = 0 then (
      some (-2 : Int32)
    ) else (
      cP (f_X12_in x3 (0 : Int32) (2 : Int32) M) fun v3 =>
      if v3 = 0 then (
        some (-2 : Int32)
      ) else (
        (lp (fun s => s_X12_reckoned_38 a0 x1 x2 M s.1 s.2) ((0 : Int32), x1)).bind fun e12 =>
        (
          if x3 = 0 then (
            gi M a0 12 2 fun v14 =>
            if v14 = 0 then none else
            some ((x1 + x2) - (x1 + x2) / v14 * v14)
          ) else (
            if x3 = (1 : Int32) then (
              gi M a0 12 2 fun v13 =>
              if v13 = 0 then none else
              some ((x1 + x2) / v13)
            ) else (
              some e12.1
            )
          )
        ).bind fun v15 =>
        some v15
      )
    )
  )
noncomputable def f_X12_reckoned (a0 : Nat) (x1 : Int32) (x2 : Int32) (x3 : Int32) (M : Me) : Option (Int32) := ck M a0 12 (b_X12_reckoned a0 x1 x2 x3 M)
set_option maxRecDepth 20000 in
theorem vb_X12_reckoned (d : Nat) (hd : 1 ≤ d) (a0 : Nat) (x1 : Int32) (x2 : Int32) (x3 : Int32) (M : Me) : V (mX12_reckoned, d, 0, 0) (0, 0) M 0 [some (.ref a0), some (.int x1), some (.int x2), some (.int x3), none, none] [] (b_X12_reckoned a0 x1 x2 x3 M) (fun z => some (some (.int z), M)) := by
  unfold b_X12_reckoned
  refine v_iload_n (q := 1) dX12_reckoned_0 rfl rfl rfl ?_
  refine v_iconst (q := 2) dX12_reckoned_1 rfl ic_0 ?_
  refine v_ldc (q := 4) (v := (99999 : Int32)) kc_X12_207 dX12_reckoned_2 rfl ?_
  refine v_cPS3 (q := 7) (ct_X12_in (d - 1) (by omega) _ _ _ _) dX12_reckoned_4 rfl cc_X12_81 (by omega) (Nat.le_of_ble_eq_true rfl) ⟨Nat.le_of_ble_eq_true rfl, Nat.le_of_ble_eq_true rfl⟩ (fun v1 => ?_)
  refine v_if_eq (tgt := 29) (q := 10) dX12_reckoned_7 rfl rfl ?_ ?_
  · refine v_bipush (q := 31) dX12_reckoned_29 rfl bp_m2 ?_
    exact v_iret rfl dX12_reckoned_31 ⟨Nat.le_of_ble_eq_true rfl, Nat.le_of_ble_eq_true rfl⟩ rfl
  · refine v_iload_n (q := 11) dX12_reckoned_10 rfl rfl rfl ?_
    refine v_iconst (q := 12) dX12_reckoned_11 rfl ic_0 ?_
    refine v_bipush (q := 14) dX12_reckoned_12 rfl bp_99 ?_
    refine v_cPS3 (q := 17) (ct_X12_in (d - 1) (by omega) _ _ _ _) dX12_reckoned_14 rfl cc_X12_81 (by omega) (Nat.le_of_ble_eq_true rfl) ⟨Nat.le_of_ble_eq_true rfl, Nat.le_of_ble_eq_true rfl⟩ (fun v2 => ?_)
    refine v_if_eq (tgt := 29) (q := 20) dX12_reckoned_17 rfl rfl ?_ ?_
    · refine v_bipush (q := 31) dX12_reckoned_29 rfl bp_m2 ?_
      exact v_iret rfl dX12_reckoned_31 ⟨Nat.le_of_ble_eq_true rfl, Nat.le_of_ble_eq_true rfl⟩ rfl
    · refine v_iload_n (q := 21) dX12_reckoned_20 rfl rfl rfl ?_
      refine v_iconst (q := 22) dX12_reckoned_21 rfl ic_0 ?_
      refine v_iconst (q := 23) dX12_reckoned_22 rfl ic_2 ?_
      refine v_cPS3 (q := 26) (ct_X12_in (d - 1) (by omega) _ _ _ _) dX12_reckoned_23 rfl cc_X12_81 (by omega) (Nat.le_of_ble_eq_true rfl) ⟨Nat.le_of_ble_eq_true rfl, Nat.le_of_ble_eq_true rfl⟩ (fun v3 => ?_)
      refine v_if_ne (tgt := 32) (q := 29) dX12_reckoned_26 rfl rfl ?_ ?_
      · refine v_iconst (q := 33) dX12_reckoned_32 rfl ic_0 ?_
        refine v_istore (q := 35) (loc2 := [some (.ref a0), some (.int x1), some (.int x2), some (.int x3), some (.int (0 : Int32)), none]) dX12_reckoned_33 rfl rfl (Nat.le_of_ble_eq_true rfl) rfl ?_
        refine v_iload_n (q := 36) dX12_reckoned_35 rfl rfl rfl ?_
        refine v_istore (q := 38) (loc2 := [some (.ref a0), some (.int x1), some (.int x2), some (.int x3), some (.int (0 : Int32)), some (.int x1)]) dX12_reckoned_36 rfl rfl (Nat.le_of_ble_eq_true rfl) rfl ?_
        refine v_lps (S := Int32 × Int32) 84 (fun s => M) (fun s => [some (.ref a0), some (.int x1), some (.int x2), some (.int x3), some (.int s.1), some (.int s.2)]) (fun e12 => M) (fun e12 => [some (.ref a0), some (.int x1), some (.int x2), some (.int x3), some (.int e12.1), some (.int e12.2)]) (fun e12 => ?_) (fun k K hk hx s => ?_)
        · refine v_iload_n (q := 85) dX12_reckoned_84 rfl rfl rfl ?_
          refine v_join (γ := Int32) 117 (fun v15 => M) (fun v15 => [some (.ref a0), some (.int x1), some (.int x2), some (.int x3), some (.int e12.1), some (.int e12.2)]) (fun v15 => [.int v15]) (fun K hK => ?_) (fun v15 => ?_)
          · refine v_if_ne (tgt := 99) (q := 88) dX12_reckoned_85 rfl rfl ?_ ?_
            · refine v_iload_n (q := 100) dX12_reckoned_99 rfl rfl rfl ?_
              refine v_iconst (q := 101) dX12_reckoned_100 rfl ic_1 ?_
              refine v_icmp_ne (tgt := 115) (q := 104) dX12_reckoned_101 rfl rfl ?_ ?_
              · refine v_iload (q := 117) dX12_reckoned_115 rfl rfl ?_
                exact hK e12.1
              · refine v_iload_n (q := 105) dX12_reckoned_104 rfl rfl rfl ?_
                refine v_iload_n (q := 106) dX12_reckoned_105 rfl rfl rfl ?_
                refine v_iadd (q := 107) dX12_reckoned_106 rfl ?_
                refine v_aload_n (q := 108) dX12_reckoned_107 rfl rfl rfl ?_
                refine v_getIb (q := 111) dX12_reckoned_108 rfl fg_X12_17 (fun v13 => ?_)
                refine v_idiv (q := 112) dX12_reckoned_111 rfl ?_
                refine v_goto (tgt := 117) dX12_reckoned_112 rfl ?_
                exact hK ((x1 + x2) / v13)
            · refine v_iload_n (q := 89) dX12_reckoned_88 rfl rfl rfl ?_
              refine v_iload_n (q := 90) dX12_reckoned_89 rfl rfl rfl ?_
              refine v_iadd (q := 91) dX12_reckoned_90 rfl ?_
              refine v_aload_n (q := 92) dX12_reckoned_91 rfl rfl rfl ?_
              refine v_getIb (q := 95) dX12_reckoned_92 rfl fg_X12_17 (fun v14 => ?_)
              refine v_irem (q := 96) dX12_reckoned_95 rfl ?_
              refine v_goto (tgt := 117) dX12_reckoned_96 rfl ?_
              exact hK ((x1 + x2) - (x1 + x2) / v14 * v14)
          · exact v_iret rfl dX12_reckoned_117 ⟨Nat.le_of_ble_eq_true rfl, Nat.le_of_ble_eq_true rfl⟩ rfl
        · obtain ⟨v4, v5⟩ := s
          show V _ _ M 38 [some (.ref a0), some (.int x1), some (.int x2), some (.int x3), some (.int v4), some (.int v5)] [] (s_X12_reckoned_38 a0 x1 x2 M v4 v5) _
          unfold s_X12_reckoned_38
          refine v_iload (q := 40) dX12_reckoned_38 rfl rfl ?_
          refine v_iload_n (q := 41) dX12_reckoned_40 rfl rfl rfl ?_
          refine v_aload_n (q := 42) dX12_reckoned_41 rfl rfl rfl ?_
          refine v_getIb (q := 45) dX12_reckoned_42 rfl fg_X12_17 (fun v6 => ?_)
          refine v_iadd (q := 46) dX12_reckoned_45 rfl ?_
          refine v_icmp_ge (tgt := 84) (q := 49) dX12_reckoned_46 rfl rfl ?_ ?_
          · exact v_inr (hx (v4, v5))
          · refine v_iload (q := 51) dX12_reckoned_49 rfl rfl ?_
            refine v_iload (q := 53) dX12_reckoned_51 rfl rfl ?_
            refine v_aload_n (q := 54) dX12_reckoned_53 rfl rfl rfl ?_
            refine v_getIb (q := 57) dX12_reckoned_54 rfl fg_X12_17 (fun v7 => ?_)
            refine v_idiv (q := 58) dX12_reckoned_57 rfl ?_
            refine v_iload (q := 60) dX12_reckoned_58 rfl rfl ?_
            refine v_iload_n (q := 61) dX12_reckoned_60 rfl rfl rfl ?_
            refine v_iadd (q := 62) dX12_reckoned_61 rfl ?_
            refine v_aload_n (q := 63) dX12_reckoned_62 rfl rfl rfl ?_
            refine v_getIb (q := 66) dX12_reckoned_63 rfl fg_X12_17 (fun v8 => ?_)
            refine v_idiv (q := 67) dX12_reckoned_66 rfl ?_
            refine v_join (γ := Int32) 75 (fun v9 => M) (fun v9 => [some (.ref a0), some (.int x1), some (.int x2), some (.int x3), some (.int v4), some (.int v5)]) (fun v9 => [.int v9, .int v4]) (fun K hK => ?_) (fun v9 => ?_)
            · refine v_icmp_ne (tgt := 74) (q := 70) dX12_reckoned_67 rfl rfl ?_ ?_
              · refine v_iconst (q := 75) dX12_reckoned_74 rfl ic_0 ?_
                exact hK (0 : Int32)
              · refine v_iconst (q := 71) dX12_reckoned_70 rfl ic_1 ?_
                refine v_goto (tgt := 75) dX12_reckoned_71 rfl ?_
                exact hK (1 : Int32)
            · refine v_iadd (q := 76) dX12_reckoned_75 rfl ?_
              refine v_letI (fun v10 => ?_)
              refine v_istore (q := 78) (loc2 := [some (.ref a0), some (.int x1), some (.int x2), some (.int x3), some (.int v10), some (.int v5)]) dX12_reckoned_76 rfl rfl (Nat.le_of_ble_eq_true rfl) rfl ?_
              refine v_iincL (q := 81) (x := v5) (cst := (1 : Int32)) (f := fun v11 => [some (.ref a0), some (.int x1), some (.int x2), some (.int x3), some (.int v10), some (.int v11)]) dX12_reckoned_78 rfl rfl ic_1 rfl (Nat.le_of_ble_eq_true rfl) (fun _ => rfl) (fun v11 => ?_)
              refine v_goto (tgt := 38) dX12_reckoned_81 rfl ?_
              exact v_inl (hk (v10, v11))
      · refine v_bipush (q := 31) dX12_reckoned_29 rfl bp_m2 ?_
        exact v_iret rfl dX12_reckoned_31 ⟨Nat.le_of_ble_eq_true rfl, Nat.le_of_ble_eq_true rfl⟩ rfl
theorem ct_X12_reckoned (d : Nat) (hd : 1 ≤ d) (a0 : Nat) (x1 : Int32) (x2 : Int32) (x3 : Int32) (M : Me) (r : Int32) (hf : f_X12_reckoned a0 x1 x2 x3 M = some r) : me_k M a0 = some (12, nf_c 12) ∧ Ct yX12_reckoned mX12_reckoned d 0 0 [.ref a0, .int x1, .int x2, .int x3] M (some (.int r), M) := by
  obtain ⟨hk, hb⟩ := ck_some hf
  exact ⟨hk, ct_of (by decide +kernel) rfl rfl (Nat.le_of_ble_eq_true rfl) (vb_X12_reckoned d hd a0 x1 x2 x3 M) (by rw [hb]; rfl)⟩
theorem dX12_tens_0 : decode cX12_tens 0 = .ok (.lconst 1, 1) := by decide +kernel
theorem dX12_tens_1 : decode cX12_tens 1 = .ok (.lstore_n 1, 1) := by decide +kernel
theorem dX12_tens_2 : decode cX12_tens 2 = .ok (.iconst 0, 1) := by decide +kernel
theorem dX12_tens_3 : decode cX12_tens 3 = .ok (.istore_n 3, 1) := by decide +kernel
theorem dX12_tens_4 : decode cX12_tens 4 = .ok (.iload_n 3, 1) := by decide +kernel
theorem dX12_tens_5 : decode cX12_tens 5 = .ok (.iload_n 0, 1) := by decide +kernel
theorem dX12_tens_6 : decode cX12_tens 6 = .ok (.if_icmp .ge 15, 3) := by decide +kernel
theorem dX12_tens_9 : decode cX12_tens 9 = .ok (.lload_n 1, 1) := by decide +kernel
theorem dX12_tens_10 : decode cX12_tens 10 = .ok (.ldc2_w 208, 3) := by decide +kernel
theorem dX12_tens_13 : decode cX12_tens 13 = .ok (.lmul, 1) := by decide +kernel
theorem dX12_tens_14 : decode cX12_tens 14 = .ok (.lstore_n 1, 1) := by decide +kernel
theorem dX12_tens_15 : decode cX12_tens 15 = .ok (.iinc 3 1, 3) := by decide +kernel
theorem dX12_tens_18 : decode cX12_tens 18 = .ok (.goto (-14), 3) := by decide +kernel
theorem dX12_tens_21 : decode cX12_tens 21 = .ok (.lload_n 1, 1) := by decide +kernel
theorem dX12_tens_22 : decode cX12_tens 22 = .ok (.lreturn, 1) := by decide +kernel
noncomputable def s_X12_tens_4 (x0 : Int32) (w1 : Int64) (v2 : Int32) : Option ((Int64 × Int32) ⊕ (Int64 × Int32)) :=
  if x0 ≤ v2 then (
    some (Sum.inr (w1, v2))
  ) else (
    let_v ((w1 * (10 : Int64))) fun w3 =>
    let_v (v2 + (1 : Int32)) fun v4 =>
    some (Sum.inl (w3, v4))
  )
noncomputable def b_X12_tens (x0 : Int32) (M : Me) : Option (Int64) :=
  (lp (fun s => s_X12_tens_4 x0 s.1 s.2) ((1 : Int64), (0 : Int32))).bind fun e5 =>
  some e5.1
noncomputable def f_X12_tens (x0 : Int32) (M : Me) : Option (Int64) := b_X12_tens x0 M
set_option maxRecDepth 20000 in
theorem vb_X12_tens (d : Nat) (hd : 0 ≤ d) (x0 : Int32) (M : Me) : V (mX12_tens, d, 0, 0) (0, 0) M 0 [some (.int x0), none, none, none] [] (b_X12_tens x0 M) (fun z => some (some (.long z), M)) := by
  unfold b_X12_tens
  refine v_lconst (q := 1) dX12_tens_0 rfl rfl ?_
  refine v_lstore_n (q := 2) (loc2 := [some (.int x0), some (.long (1 : Int64)), none, none]) dX12_tens_1 rfl rfl rfl (Nat.le_of_ble_eq_true rfl) rfl ?_
  refine v_iconst (q := 3) dX12_tens_2 rfl ic_0 ?_
  refine v_istore_n (q := 4) (loc2 := [some (.int x0), some (.long (1 : Int64)), none, some (.int (0 : Int32))]) dX12_tens_3 rfl rfl rfl (Nat.le_of_ble_eq_true rfl) rfl ?_
  refine v_lps (S := Int64 × Int32) 21 (fun s => M) (fun s => [some (.int x0), some (.long s.1), none, some (.int s.2)]) (fun e5 => M) (fun e5 => [some (.int x0), some (.long e5.1), none, some (.int e5.2)]) (fun e5 => ?_) (fun k K hk hx s => ?_)
  · refine v_lload_n (q := 22) dX12_tens_21 rfl rfl rfl ?_
    exact v_lret rfl dX12_tens_22 ⟨Nat.le_of_ble_eq_true rfl, Nat.le_of_ble_eq_true rfl⟩ rfl
  · obtain ⟨w1, v2⟩ := s
    show V _ _ M 4 [some (.int x0), some (.long w1), none, some (.int v2)] [] (s_X12_tens_4 x0 w1 v2) _
    unfold s_X12_tens_4
    refine v_iload_n (q := 5) dX12_tens_4 rfl rfl rfl ?_
    refine v_iload_n (q := 6) dX12_tens_5 rfl rfl rfl ?_
    refine v_icmp_ge (tgt := 21) (q := 9) dX12_tens_6 rfl rfl ?_ ?_
    · exact v_inr (hx (w1, v2))
    · refine v_lload_n (q := 10) dX12_tens_9 rfl rfl rfl ?_
      refine v_ldc2 (q := 13) (v := (10 : Int64)) kl_X12_208 dX12_tens_10 rfl ?_
      refine v_lmul (q := 14) dX12_tens_13 rfl ?_
      refine v_letJ (fun w3 => ?_)
      refine v_lstore_n (q := 15) (loc2 := [some (.int x0), some (.long w3), none, some (.int v2)]) dX12_tens_14 rfl rfl rfl (Nat.le_of_ble_eq_true rfl) rfl ?_
      refine v_iincL (q := 18) (x := v2) (cst := (1 : Int32)) (f := fun v4 => [some (.int x0), some (.long w3), none, some (.int v4)]) dX12_tens_15 rfl rfl ic_1 rfl (Nat.le_of_ble_eq_true rfl) (fun _ => rfl) (fun v4 => ?_)
      refine v_goto (tgt := 4) dX12_tens_18 rfl ?_
      exact v_inl (hk (w3, v4))
theorem ct_X12_tens (d : Nat) (hd : 0 ≤ d) (x0 : Int32) (M : Me) (r : Int64) (hf : f_X12_tens x0 M = some r) : Ct yX12_tens mX12_tens d 0 0 [.int x0] M (some (.long r), M) := by
  have hb : b_X12_tens x0 M = some r := hf
  exact ct_of (by decide +kernel) rfl rfl (Nat.le_of_ble_eq_true rfl) (vb_X12_tens d hd x0 M) (by rw [hb]; rfl)
theorem dX12_hosted_0 : decode cX12_hosted 0 = .ok (.bipush 9, 2) := by decide +kernel
theorem dX12_hosted_2 : decode cX12_hosted 2 = .ok (.invokestatic 210, 3) := by decide +kernel
theorem dX12_hosted_5 : decode cX12_hosted 5 = .ok (.lstore 4, 2) := by decide +kernel
theorem dX12_hosted_7 : decode cX12_hosted 7 = .ok (.lconst 0, 1) := by decide +kernel
theorem dX12_hosted_8 : decode cX12_hosted 8 = .ok (.lstore 6, 2) := by decide +kernel
theorem dX12_hosted_10 : decode cX12_hosted 10 = .ok (.aload_n 0, 1) := by decide +kernel
theorem dX12_hosted_11 : decode cX12_hosted 11 = .ok (.iconst 0, 1) := by decide +kernel
theorem dX12_hosted_12 : decode cX12_hosted 12 = .ok (.putfield 214, 3) := by decide +kernel
theorem dX12_hosted_15 : decode cX12_hosted 15 = .ok (.iconst 1, 1) := by decide +kernel
theorem dX12_hosted_16 : decode cX12_hosted 16 = .ok (.istore 8, 2) := by decide +kernel
theorem dX12_hosted_18 : decode cX12_hosted 18 = .ok (.iload 8, 2) := by decide +kernel
theorem dX12_hosted_20 : decode cX12_hosted 20 = .ok (.iload_n 1, 1) := by decide +kernel
theorem dX12_hosted_21 : decode cX12_hosted 21 = .ok (.if_icmp .gt 96, 3) := by decide +kernel
theorem dX12_hosted_24 : decode cX12_hosted 24 = .ok (.lload 4, 2) := by decide +kernel
theorem dX12_hosted_26 : decode cX12_hosted 26 = .ok (.ldc2_w 208, 3) := by decide +kernel
theorem dX12_hosted_29 : decode cX12_hosted 29 = .ok (.ldiv, 1) := by decide +kernel
theorem dX12_hosted_30 : decode cX12_hosted 30 = .ok (.iload_n 3, 1) := by decide +kernel
theorem dX12_hosted_31 : decode cX12_hosted 31 = .ok (.i2l, 1) := by decide +kernel
theorem dX12_hosted_32 : decode cX12_hosted 32 = .ok (.lmul, 1) := by decide +kernel
theorem dX12_hosted_33 : decode cX12_hosted 33 = .ok (.lload 6, 2) := by decide +kernel
theorem dX12_hosted_35 : decode cX12_hosted 35 = .ok (.ladd, 1) := by decide +kernel
theorem dX12_hosted_36 : decode cX12_hosted 36 = .ok (.lstore 9, 2) := by decide +kernel
theorem dX12_hosted_38 : decode cX12_hosted 38 = .ok (.lload 4, 2) := by decide +kernel
theorem dX12_hosted_40 : decode cX12_hosted 40 = .ok (.ldc2_w 208, 3) := by decide +kernel
theorem dX12_hosted_43 : decode cX12_hosted 43 = .ok (.ldiv, 1) := by decide +kernel
theorem dX12_hosted_44 : decode cX12_hosted 44 = .ok (.iload_n 3, 1) := by decide +kernel
theorem dX12_hosted_45 : decode cX12_hosted 45 = .ok (.i2l, 1) := by decide +kernel
theorem dX12_hosted_46 : decode cX12_hosted 46 = .ok (.lmul, 1) := by decide +kernel
theorem dX12_hosted_47 : decode cX12_hosted 47 = .ok (.iload 8, 2) := by decide +kernel
theorem dX12_hosted_49 : decode cX12_hosted 49 = .ok (.iconst 1, 1) := by decide +kernel
theorem dX12_hosted_50 : decode cX12_hosted 50 = .ok (.isub, 1) := by decide +kernel
theorem dX12_hosted_51 : decode cX12_hosted 51 = .ok (.i2l, 1) := by decide +kernel
theorem dX12_hosted_52 : decode cX12_hosted 52 = .ok (.lmul, 1) := by decide +kernel
theorem dX12_hosted_53 : decode cX12_hosted 53 = .ok (.lstore 11, 2) := by decide +kernel
theorem dX12_hosted_55 : decode cX12_hosted 55 = .ok (.lload 11, 2) := by decide +kernel
theorem dX12_hosted_57 : decode cX12_hosted 57 = .ok (.iload_n 2, 1) := by decide +kernel
theorem dX12_hosted_58 : decode cX12_hosted 58 = .ok (.i2l, 1) := by decide +kernel
theorem dX12_hosted_59 : decode cX12_hosted 59 = .ok (.lmul, 1) := by decide +kernel
theorem dX12_hosted_60 : decode cX12_hosted 60 = .ok (.lload 4, 2) := by decide +kernel
theorem dX12_hosted_62 : decode cX12_hosted 62 = .ok (.lload 6, 2) := by decide +kernel
theorem dX12_hosted_64 : decode cX12_hosted 64 = .ok (.ladd, 1) := by decide +kernel
theorem dX12_hosted_65 : decode cX12_hosted 65 = .ok (.bipush 10, 2) := by decide +kernel
theorem dX12_hosted_67 : decode cX12_hosted 67 = .ok (.iload_n 2, 1) := by decide +kernel
theorem dX12_hosted_68 : decode cX12_hosted 68 = .ok (.isub, 1) := by decide +kernel
theorem dX12_hosted_69 : decode cX12_hosted 69 = .ok (.i2l, 1) := by decide +kernel
theorem dX12_hosted_70 : decode cX12_hosted 70 = .ok (.lmul, 1) := by decide +kernel
theorem dX12_hosted_71 : decode cX12_hosted 71 = .ok (.ladd, 1) := by decide +kernel
theorem dX12_hosted_72 : decode cX12_hosted 72 = .ok (.ldc2_w 208, 3) := by decide +kernel
theorem dX12_hosted_75 : decode cX12_hosted 75 = .ok (.ldiv, 1) := by decide +kernel
theorem dX12_hosted_76 : decode cX12_hosted 76 = .ok (.lstore 13, 2) := by decide +kernel
theorem dX12_hosted_78 : decode cX12_hosted 78 = .ok (.aload_n 0, 1) := by decide +kernel
theorem dX12_hosted_79 : decode cX12_hosted 79 = .ok (.lload 13, 2) := by decide +kernel
theorem dX12_hosted_81 : decode cX12_hosted 81 = .ok (.lload 9, 2) := by decide +kernel
theorem dX12_hosted_83 : decode cX12_hosted 83 = .ok (.lcmp, 1) := by decide +kernel
theorem dX12_hosted_84 : decode cX12_hosted 84 = .ok (.ifCond .le 7, 3) := by decide +kernel
theorem dX12_hosted_87 : decode cX12_hosted 87 = .ok (.iconst 1, 1) := by decide +kernel
theorem dX12_hosted_88 : decode cX12_hosted 88 = .ok (.goto 4, 3) := by decide +kernel
theorem dX12_hosted_91 : decode cX12_hosted 91 = .ok (.iconst 0, 1) := by decide +kernel
theorem dX12_hosted_92 : decode cX12_hosted 92 = .ok (.putfield 214, 3) := by decide +kernel
theorem dX12_hosted_95 : decode cX12_hosted 95 = .ok (.aload_n 0, 1) := by decide +kernel
theorem dX12_hosted_96 : decode cX12_hosted 96 = .ok (.getfield 214, 3) := by decide +kernel
theorem dX12_hosted_99 : decode cX12_hosted 99 = .ok (.ifCond .eq 8, 3) := by decide +kernel
theorem dX12_hosted_102 : decode cX12_hosted 102 = .ok (.lload 13, 2) := by decide +kernel
theorem dX12_hosted_104 : decode cX12_hosted 104 = .ok (.goto 5, 3) := by decide +kernel
theorem dX12_hosted_107 : decode cX12_hosted 107 = .ok (.lload 9, 2) := by decide +kernel
theorem dX12_hosted_109 : decode cX12_hosted 109 = .ok (.lstore 6, 2) := by decide +kernel
theorem dX12_hosted_111 : decode cX12_hosted 111 = .ok (.iinc 8 1, 3) := by decide +kernel
theorem dX12_hosted_114 : decode cX12_hosted 114 = .ok (.goto (-96), 3) := by decide +kernel
theorem dX12_hosted_117 : decode cX12_hosted 117 = .ok (.lload 6, 2) := by decide +kernel
theorem dX12_hosted_119 : decode cX12_hosted 119 = .ok (.lreturn, 1) := by decide +kernel
noncomputable def s_X12_hosted_18 (a0 : Nat) (x1 : Int32) (x2 : Int32) (x3 : Int32) (w1 : Int64) (M3 : Me) (w4 : Int64) (v5 : Int32) : Option ((Me × Int64 × Int32) ⊕ (Me × Int64 × Int32)) :=
  if x1 < v5 then (
    some (Sum.inr (M3, w4, v5))
  ) else (
    let_v ((((w1 / (10 : Int64)) * (x3.toInt64)) + w4)) fun w6 =>
    let_v ((((w1 / (10 : Int64)) * (x3.toInt64)) * ((v5 - (1 : Int32)).toInt64))) fun w7 =>
    let_v ((((w7 * (x2.toInt64)) + ((w1 + w4) * (((10 : Int32) - x2).toInt64))) / (10 : Int64))) fun w8 =>
    (
      if (lg_cmp w8 w6) ≤ 0 then (
        some (0 : Int32)
      ) else (
        some (1 : Int32)
      )
    ).bind fun v9 =>
    pz M3 a0 12 29 v9 fun M10 =>
    gi M10 a0 12 29 fun v11 =>
    (
      if v11 = 0 then (
        some w6
      ) else (
        some w8
      )
    ).bind fun w12 =>
    let_v (v5 + (1 : Int32)) fun v13 =>
    some (Sum.inl (M10, w12, v13))
  )
noncomputable def b_X12_hosted (a0 : Nat) (x1 : Int32) (x2 : Int32) (x3 : Int32) (M : Me) : Option (Int64 × Me) :=
  cL (f_X12_tens (9 : Int32) M) fun w1 =>
  pz M a0 12 29 (0 : Int32) fun M2 =>
  (lp (fun s => s_X12_hosted_18 a0 x1 x2 x3 w1 s.1 s.2.1 s.2.2) (M2, (0 : Int64), (1 : Int32))).bind fun e14 =>
  some (e14.2.1, e14.1)
noncomputable def f_X12_hosted (a0 : Nat) (x1 : Int32) (x2 : Int32) (x3 : Int32) (M : Me) : Option (Int64 × Me) := ck M a0 12 (b_X12_hosted a0 x1 x2 x3 M)
set_option maxRecDepth 20000 in
theorem vb_X12_hosted (d : Nat) (hd : 1 ≤ d) (a0 : Nat) (x1 : Int32) (x2 : Int32) (x3 : Int32) (M : Me) : V (mX12_hosted, d, 0, 0) (0, 0) M 0 [some (.ref a0), some (.int x1), some (.int x2), some (.int x3), none, none, none, none, none, none, none, none, none, none, none] [] (b_X12_hosted a0 x1 x2 x3 M) (fun z => some (some (.long z.1), z.2)) := by
  unfold b_X12_hosted
  refine v_bipush (q := 2) dX12_hosted_0 rfl bp_9 ?_
  refine v_cLS1 (q := 5) (ct_X12_tens (d - 1) (by omega) _ _) dX12_hosted_2 rfl cc_X12_210 (by omega) (Nat.le_of_ble_eq_true rfl) ⟨Nat.le_of_ble_eq_true rfl, Nat.le_of_ble_eq_true rfl⟩ (fun w1 => ?_)
  refine v_lstore (q := 7) (loc2 := [some (.ref a0), some (.int x1), some (.int x2), some (.int x3), some (.long w1), none, none, none, none, none, none, none, none, none, none]) dX12_hosted_5 rfl rfl (Nat.le_of_ble_eq_true rfl) rfl ?_
  refine v_lconst (q := 8) dX12_hosted_7 rfl rfl ?_
  refine v_lstore (q := 10) (loc2 := [some (.ref a0), some (.int x1), some (.int x2), some (.int x3), some (.long w1), none, some (.long (0 : Int64)), none, none, none, none, none, none, none, none]) dX12_hosted_8 rfl rfl (Nat.le_of_ble_eq_true rfl) rfl ?_
  refine v_aload_n (q := 11) dX12_hosted_10 rfl rfl rfl ?_
  refine v_iconst (q := 12) dX12_hosted_11 rfl ic_0 ?_
  refine v_putZb (q := 15) dX12_hosted_12 rfl fp_X12_214 (fun M2 => ?_)
  refine v_iconst (q := 16) dX12_hosted_15 rfl ic_1 ?_
  refine v_istore (q := 18) (loc2 := [some (.ref a0), some (.int x1), some (.int x2), some (.int x3), some (.long w1), none, some (.long (0 : Int64)), none, some (.int (1 : Int32)), none, none, none, none, none, none]) dX12_hosted_16 rfl rfl (Nat.le_of_ble_eq_true rfl) rfl ?_
  refine v_lps (S := Me × Int64 × Int32) 117 (fun s => s.1) (fun s => [some (.ref a0), some (.int x1), some (.int x2), some (.int x3), some (.long w1), none, some (.long s.2.1), none, some (.int s.2.2), none, none, none, none, none, none]) (fun e14 => e14.1) (fun e14 => [some (.ref a0), some (.int x1), some (.int x2), some (.int x3), some (.long w1), none, some (.long e14.2.1), none, some (.int e14.2.2), none, none, none, none, none, none]) (fun e14 => ?_) (fun k K hk hx s => ?_)
  · refine v_lload (q := 119) dX12_hosted_117 rfl rfl ?_
    exact v_lret rfl dX12_hosted_119 ⟨Nat.le_of_ble_eq_true rfl, Nat.le_of_ble_eq_true rfl⟩ rfl
  · obtain ⟨M3, w4, v5⟩ := s
    show V _ _ M3 18 [some (.ref a0), some (.int x1), some (.int x2), some (.int x3), some (.long w1), none, some (.long w4), none, some (.int v5), none, none, none, none, none, none] [] (s_X12_hosted_18 a0 x1 x2 x3 w1 M3 w4 v5) _
    unfold s_X12_hosted_18
    refine v_iload (q := 20) dX12_hosted_18 rfl rfl ?_
    refine v_iload_n (q := 21) dX12_hosted_20 rfl rfl rfl ?_
    refine v_icmp_gt (tgt := 117) (q := 24) dX12_hosted_21 rfl rfl ?_ ?_
    · exact v_inr (hx (M3, w4, v5))
    · refine v_lload (q := 26) dX12_hosted_24 rfl rfl ?_
      refine v_ldc2 (q := 29) (v := (10 : Int64)) kl_X12_208 dX12_hosted_26 rfl ?_
      refine v_ldivc (q := 30) dX12_hosted_29 rfl nl_10 ?_
      refine v_iload_n (q := 31) dX12_hosted_30 rfl rfl rfl ?_
      refine v_i2l (q := 32) dX12_hosted_31 rfl ?_
      refine v_lmul (q := 33) dX12_hosted_32 rfl ?_
      refine v_lload (q := 35) dX12_hosted_33 rfl rfl ?_
      refine v_ladd (q := 36) dX12_hosted_35 rfl ?_
      refine v_letJ (fun w6 => ?_)
      refine v_lstore (q := 38) (loc2 := [some (.ref a0), some (.int x1), some (.int x2), some (.int x3), some (.long w1), none, some (.long w4), none, some (.int v5), some (.long w6), none, none, none, none, none]) dX12_hosted_36 rfl rfl (Nat.le_of_ble_eq_true rfl) rfl ?_
      refine v_lload (q := 40) dX12_hosted_38 rfl rfl ?_
      refine v_ldc2 (q := 43) (v := (10 : Int64)) kl_X12_208 dX12_hosted_40 rfl ?_
      refine v_ldivc (q := 44) dX12_hosted_43 rfl nl_10 ?_
      refine v_iload_n (q := 45) dX12_hosted_44 rfl rfl rfl ?_
      refine v_i2l (q := 46) dX12_hosted_45 rfl ?_
      refine v_lmul (q := 47) dX12_hosted_46 rfl ?_
      refine v_iload (q := 49) dX12_hosted_47 rfl rfl ?_
      refine v_iconst (q := 50) dX12_hosted_49 rfl ic_1 ?_
      refine v_isub (q := 51) dX12_hosted_50 rfl ?_
      refine v_i2l (q := 52) dX12_hosted_51 rfl ?_
      refine v_lmul (q := 53) dX12_hosted_52 rfl ?_
      refine v_letJ (fun w7 => ?_)
      refine v_lstore (q := 55) (loc2 := [some (.ref a0), some (.int x1), some (.int x2), some (.int x3), some (.long w1), none, some (.long w4), none, some (.int v5), some (.long w6), none, some (.long w7), none, none, none]) dX12_hosted_53 rfl rfl (Nat.le_of_ble_eq_true rfl) rfl ?_
      refine v_lload (q := 57) dX12_hosted_55 rfl rfl ?_
      refine v_iload_n (q := 58) dX12_hosted_57 rfl rfl rfl ?_
      refine v_i2l (q := 59) dX12_hosted_58 rfl ?_
      refine v_lmul (q := 60) dX12_hosted_59 rfl ?_
      refine v_lload (q := 62) dX12_hosted_60 rfl rfl ?_
      refine v_lload (q := 64) dX12_hosted_62 rfl rfl ?_
      refine v_ladd (q := 65) dX12_hosted_64 rfl ?_
      refine v_bipush (q := 67) dX12_hosted_65 rfl bp_10 ?_
      refine v_iload_n (q := 68) dX12_hosted_67 rfl rfl rfl ?_
      refine v_isub (q := 69) dX12_hosted_68 rfl ?_
      refine v_i2l (q := 70) dX12_hosted_69 rfl ?_
      refine v_lmul (q := 71) dX12_hosted_70 rfl ?_
      refine v_ladd (q := 72) dX12_hosted_71 rfl ?_
      refine v_ldc2 (q := 75) (v := (10 : Int64)) kl_X12_208 dX12_hosted_72 rfl ?_
      refine v_ldivc (q := 76) dX12_hosted_75 rfl nl_10 ?_
      refine v_letJ (fun w8 => ?_)
      refine v_lstore (q := 78) (loc2 := [some (.ref a0), some (.int x1), some (.int x2), some (.int x3), some (.long w1), none, some (.long w4), none, some (.int v5), some (.long w6), none, some (.long w7), none, some (.long w8), none]) dX12_hosted_76 rfl rfl (Nat.le_of_ble_eq_true rfl) rfl ?_
      refine v_aload_n (q := 79) dX12_hosted_78 rfl rfl rfl ?_
      refine v_lload (q := 81) dX12_hosted_79 rfl rfl ?_
      refine v_lload (q := 83) dX12_hosted_81 rfl rfl ?_
      refine v_lcmp (q := 84) dX12_hosted_83 rfl ?_
      refine v_join (γ := Int32) 92 (fun v9 => M3) (fun v9 => [some (.ref a0), some (.int x1), some (.int x2), some (.int x3), some (.long w1), none, some (.long w4), none, some (.int v5), some (.long w6), none, some (.long w7), none, some (.long w8), none]) (fun v9 => [.int v9, .ref a0]) (fun K hK => ?_) (fun v9 => ?_)
      · refine v_if_le (tgt := 91) (q := 87) dX12_hosted_84 rfl rfl ?_ ?_
        · refine v_iconst (q := 92) dX12_hosted_91 rfl ic_0 ?_
          exact hK (0 : Int32)
        · refine v_iconst (q := 88) dX12_hosted_87 rfl ic_1 ?_
          refine v_goto (tgt := 92) dX12_hosted_88 rfl ?_
          exact hK (1 : Int32)
      · refine v_putZb (q := 95) dX12_hosted_92 rfl fp_X12_214 (fun M10 => ?_)
        refine v_aload_n (q := 96) dX12_hosted_95 rfl rfl rfl ?_
        refine v_getIb (q := 99) dX12_hosted_96 rfl fg_X12_214 (fun v11 => ?_)
        refine v_join (γ := Int64) 109 (fun w12 => M10) (fun w12 => [some (.ref a0), some (.int x1), some (.int x2), some (.int x3), some (.long w1), none, some (.long w4), none, some (.int v5), some (.long w6), none, some (.long w7), none, some (.long w8), none]) (fun w12 => [.long w12]) (fun K hK => ?_) (fun w12 => ?_)
        · refine v_if_eq (tgt := 107) (q := 102) dX12_hosted_99 rfl rfl ?_ ?_
          · refine v_lload (q := 109) dX12_hosted_107 rfl rfl ?_
            exact hK w6
          · refine v_lload (q := 104) dX12_hosted_102 rfl rfl ?_
            refine v_goto (tgt := 109) dX12_hosted_104 rfl ?_
            exact hK w8
        · refine v_lstore (q := 111) (loc2 := [some (.ref a0), some (.int x1), some (.int x2), some (.int x3), some (.long w1), none, some (.long w12), none, some (.int v5), some (.long w6), none, some (.long w7), none, some (.long w8), none]) dX12_hosted_109 rfl rfl (Nat.le_of_ble_eq_true rfl) rfl ?_
          refine v_iincL (q := 114) (x := v5) (cst := (1 : Int32)) (f := fun v13 => [some (.ref a0), some (.int x1), some (.int x2), some (.int x3), some (.long w1), none, some (.long w12), none, some (.int v13), some (.long w6), none, some (.long w7), none, some (.long w8), none]) dX12_hosted_111 rfl rfl ic_1 rfl (Nat.le_of_ble_eq_true rfl) (fun _ => rfl) (fun v13 => ?_)
          refine v_goto (tgt := 18) dX12_hosted_114 rfl ?_
          exact v_inl (v_weak (hk (M10, w12, v13)) ⟨rfl, ⟨rfl, ⟨rfl, ⟨rfl, ⟨rfl, ⟨rfl, ⟨rfl, trivial⟩⟩⟩⟩⟩⟩⟩)
theorem ct_X12_hosted (d : Nat) (hd : 1 ≤ d) (a0 : Nat) (x1 : Int32) (x2 : Int32) (x3 : Int32) (M : Me) (r : Int64) (M2 : Me) (hf : f_X12_hosted a0 x1 x2 x3 M = some (r, M2)) : me_k M a0 = some (12, nf_c 12) ∧ Ct yX12_hosted mX12_hosted d 0 0 [.ref a0, .int x1, .int x2, .int x3] M (some (.long r), M2) := by
  obtain ⟨hk, hb⟩ := ck_some hf
  exact ⟨hk, ct_of (by decide +kernel) rfl rfl (Nat.le_of_ble_eq_true rfl) (vb_X12_hosted d hd a0 x1 x2 x3 M) (by rw [hb]; rfl)⟩
theorem dX12_kept_0 : decode cX12_kept 0 = .ok (.iload_n 1, 1) := by decide +kernel
theorem dX12_kept_1 : decode cX12_kept 1 = .ok (.iconst 0, 1) := by decide +kernel
theorem dX12_kept_2 : decode cX12_kept 2 = .ok (.bipush 8, 2) := by decide +kernel
theorem dX12_kept_4 : decode cX12_kept 4 = .ok (.invokestatic 81, 3) := by decide +kernel
theorem dX12_kept_7 : decode cX12_kept 7 = .ok (.ifCond .eq 33, 3) := by decide +kernel
theorem dX12_kept_10 : decode cX12_kept 10 = .ok (.iload_n 2, 1) := by decide +kernel
theorem dX12_kept_11 : decode cX12_kept 11 = .ok (.iconst 0, 1) := by decide +kernel
theorem dX12_kept_12 : decode cX12_kept 12 = .ok (.bipush 10, 2) := by decide +kernel
theorem dX12_kept_14 : decode cX12_kept 14 = .ok (.invokestatic 81, 3) := by decide +kernel
theorem dX12_kept_17 : decode cX12_kept 17 = .ok (.ifCond .eq 23, 3) := by decide +kernel
theorem dX12_kept_20 : decode cX12_kept 20 = .ok (.iload_n 3, 1) := by decide +kernel
theorem dX12_kept_21 : decode cX12_kept 21 = .ok (.iconst 0, 1) := by decide +kernel
theorem dX12_kept_22 : decode cX12_kept 22 = .ok (.bipush 10, 2) := by decide +kernel
theorem dX12_kept_24 : decode cX12_kept 24 = .ok (.invokestatic 81, 3) := by decide +kernel
theorem dX12_kept_27 : decode cX12_kept 27 = .ok (.ifCond .eq 13, 3) := by decide +kernel
theorem dX12_kept_30 : decode cX12_kept 30 = .ok (.iload 4, 2) := by decide +kernel
theorem dX12_kept_32 : decode cX12_kept 32 = .ok (.iconst 0, 1) := by decide +kernel
theorem dX12_kept_33 : decode cX12_kept 33 = .ok (.iconst 1, 1) := by decide +kernel
theorem dX12_kept_34 : decode cX12_kept 34 = .ok (.invokestatic 81, 3) := by decide +kernel
theorem dX12_kept_37 : decode cX12_kept 37 = .ok (.ifCond .ne 7, 3) := by decide +kernel
theorem dX12_kept_40 : decode cX12_kept 40 = .ok (.ldc2_w 218, 3) := by decide +kernel
theorem dX12_kept_43 : decode cX12_kept 43 = .ok (.lreturn, 1) := by decide +kernel
theorem dX12_kept_44 : decode cX12_kept 44 = .ok (.aload_n 0, 1) := by decide +kernel
theorem dX12_kept_45 : decode cX12_kept 45 = .ok (.iload_n 1, 1) := by decide +kernel
theorem dX12_kept_46 : decode cX12_kept 46 = .ok (.iload_n 2, 1) := by decide +kernel
theorem dX12_kept_47 : decode cX12_kept 47 = .ok (.iload_n 3, 1) := by decide +kernel
theorem dX12_kept_48 : decode cX12_kept 48 = .ok (.invokevirtual 220, 3) := by decide +kernel
theorem dX12_kept_51 : decode cX12_kept 51 = .ok (.lstore 5, 2) := by decide +kernel
theorem dX12_kept_53 : decode cX12_kept 53 = .ok (.bipush 9, 2) := by decide +kernel
theorem dX12_kept_55 : decode cX12_kept 55 = .ok (.invokestatic 210, 3) := by decide +kernel
theorem dX12_kept_58 : decode cX12_kept 58 = .ok (.lstore 7, 2) := by decide +kernel
theorem dX12_kept_60 : decode cX12_kept 60 = .ok (.lload 5, 2) := by decide +kernel
theorem dX12_kept_62 : decode cX12_kept 62 = .ok (.lstore 9, 2) := by decide +kernel
theorem dX12_kept_64 : decode cX12_kept 64 = .ok (.lload 7, 2) := by decide +kernel
theorem dX12_kept_66 : decode cX12_kept 66 = .ok (.lstore 11, 2) := by decide +kernel
theorem dX12_kept_68 : decode cX12_kept 68 = .ok (.lload 11, 2) := by decide +kernel
theorem dX12_kept_70 : decode cX12_kept 70 = .ok (.lconst 0, 1) := by decide +kernel
theorem dX12_kept_71 : decode cX12_kept 71 = .ok (.lcmp, 1) := by decide +kernel
theorem dX12_kept_72 : decode cX12_kept 72 = .ok (.ifCond .eq 21, 3) := by decide +kernel
theorem dX12_kept_75 : decode cX12_kept 75 = .ok (.lload 9, 2) := by decide +kernel
theorem dX12_kept_77 : decode cX12_kept 77 = .ok (.lload 11, 2) := by decide +kernel
theorem dX12_kept_79 : decode cX12_kept 79 = .ok (.lrem, 1) := by decide +kernel
theorem dX12_kept_80 : decode cX12_kept 80 = .ok (.lstore 13, 2) := by decide +kernel
theorem dX12_kept_82 : decode cX12_kept 82 = .ok (.lload 11, 2) := by decide +kernel
theorem dX12_kept_84 : decode cX12_kept 84 = .ok (.lstore 9, 2) := by decide +kernel
theorem dX12_kept_86 : decode cX12_kept 86 = .ok (.lload 13, 2) := by decide +kernel
theorem dX12_kept_88 : decode cX12_kept 88 = .ok (.lstore 11, 2) := by decide +kernel
theorem dX12_kept_90 : decode cX12_kept 90 = .ok (.goto (-22), 3) := by decide +kernel
theorem dX12_kept_93 : decode cX12_kept 93 = .ok (.iload 4, 2) := by decide +kernel
theorem dX12_kept_95 : decode cX12_kept 95 = .ok (.ifCond .ne 11, 3) := by decide +kernel
theorem dX12_kept_98 : decode cX12_kept 98 = .ok (.lload 5, 2) := by decide +kernel
theorem dX12_kept_100 : decode cX12_kept 100 = .ok (.lload 9, 2) := by decide +kernel
theorem dX12_kept_102 : decode cX12_kept 102 = .ok (.ldiv, 1) := by decide +kernel
theorem dX12_kept_103 : decode cX12_kept 103 = .ok (.goto 8, 3) := by decide +kernel
theorem dX12_kept_106 : decode cX12_kept 106 = .ok (.lload 7, 2) := by decide +kernel
theorem dX12_kept_108 : decode cX12_kept 108 = .ok (.lload 9, 2) := by decide +kernel
theorem dX12_kept_110 : decode cX12_kept 110 = .ok (.ldiv, 1) := by decide +kernel
theorem dX12_kept_111 : decode cX12_kept 111 = .ok (.lreturn, 1) := by decide +kernel
noncomputable def s_X12_kept_68 (w8 : Int64) (w9 : Int64) : Option ((Int64 × Int64) ⊕ (Int64 × Int64)) :=
  if (lg_cmp w9 (0 : Int64)) = 0 then (
    some (Sum.inr (w8, w9))
  ) else (
    if w9 = 0 then none else
    let_v ((w8 - w8 / w9 * w9)) fun w10 =>
    some (Sum.inl (w9, w10))
  )
noncomputable def b_X12_kept (a0 : Nat) (x1 : Int32) (x2 : Int32) (x3 : Int32) (x4 : Int32) (M : Me) : Option (Int64 × Me) :=
  cP (f_X12_in x1 (0 : Int32) (8 : Int32) M) fun v1 =>
  if v1 = 0 then (
    some ((-1000000000000000002 : Int64), M)
  ) else (
    cP (f_X12_in x2 (0 : Int32) (10 : Int32) M) fun v2 =>
    if v2 = 0 then (
      some ((-1000000000000000002 : Int64), M)
    ) else (
      cP (f_X12_in x3 (0 : Int32) (10 : Int32) M) fun v3 =>
      if v3 = 0 then (
        some ((-1000000000000000002 : Int64), M)
      ) else (
        cP (f_X12_in x4 (0 : Int32) (1 : Int32) M) fun v4 =>
        if v4 = 0 then (
          some ((-1000000000000000002 : Int64), M)
        ) else (
          cE (f_X12_hosted a0 x1 x2 x3 M) fun w5 M6 =>
          cL (f_X12_tens (9 : Int32) M6) fun w7 =>
          (lp (fun s => s_X12_kept_68 s.1 s.2) (w5, w7)).bind fun e11 =>
          (
            if x4 = 0 then (
              if e11.1 = 0 then none else
              some (w5 / e11.1)
            ) else (
              if e11.1 = 0 then none else
              some (w7 / e11.1)
            )
          ).bind fun w12 =>
          some (w12, M6)
        )
      )
    )
  )
noncomputable def f_X12_kept (a0 : Nat) (x1 : Int32) (x2 : Int32) (x3 : Int32) (x4 : Int32) (M : Me) : Option (Int64 × Me) := ck M a0 12 (b_X12_kept a0 x1 x2 x3 x4 M)
set_option maxRecDepth 20000 in
theorem vb_X12_kept (d : Nat) (hd : 2 ≤ d) (a0 : Nat) (x1 : Int32) (x2 : Int32) (x3 : Int32) (x4 : Int32) (M : Me) : V (mX12_kept, d, 0, 0) (0, 0) M 0 [some (.ref a0), some (.int x1), some (.int x2), some (.int x3), some (.int x4), none, none, none, none, none, none, none, none, none, none] [] (b_X12_kept a0 x1 x2 x3 x4 M) (fun z => some (some (.long z.1), z.2)) := by
  unfold b_X12_kept
  refine v_iload_n (q := 1) dX12_kept_0 rfl rfl rfl ?_
  refine v_iconst (q := 2) dX12_kept_1 rfl ic_0 ?_
  refine v_bipush (q := 4) dX12_kept_2 rfl bp_8 ?_
  refine v_cPS3 (q := 7) (ct_X12_in (d - 1) (by omega) _ _ _ _) dX12_kept_4 rfl cc_X12_81 (by omega) (Nat.le_of_ble_eq_true rfl) ⟨Nat.le_of_ble_eq_true rfl, Nat.le_of_ble_eq_true rfl⟩ (fun v1 => ?_)
  refine v_if_eq (tgt := 40) (q := 10) dX12_kept_7 rfl rfl ?_ ?_
  · refine v_ldc2 (q := 43) (v := (-1000000000000000002 : Int64)) kl_X12_218 dX12_kept_40 rfl ?_
    exact v_lret rfl dX12_kept_43 ⟨Nat.le_of_ble_eq_true rfl, Nat.le_of_ble_eq_true rfl⟩ rfl
  · refine v_iload_n (q := 11) dX12_kept_10 rfl rfl rfl ?_
    refine v_iconst (q := 12) dX12_kept_11 rfl ic_0 ?_
    refine v_bipush (q := 14) dX12_kept_12 rfl bp_10 ?_
    refine v_cPS3 (q := 17) (ct_X12_in (d - 1) (by omega) _ _ _ _) dX12_kept_14 rfl cc_X12_81 (by omega) (Nat.le_of_ble_eq_true rfl) ⟨Nat.le_of_ble_eq_true rfl, Nat.le_of_ble_eq_true rfl⟩ (fun v2 => ?_)
    refine v_if_eq (tgt := 40) (q := 20) dX12_kept_17 rfl rfl ?_ ?_
    · refine v_ldc2 (q := 43) (v := (-1000000000000000002 : Int64)) kl_X12_218 dX12_kept_40 rfl ?_
      exact v_lret rfl dX12_kept_43 ⟨Nat.le_of_ble_eq_true rfl, Nat.le_of_ble_eq_true rfl⟩ rfl
    · refine v_iload_n (q := 21) dX12_kept_20 rfl rfl rfl ?_
      refine v_iconst (q := 22) dX12_kept_21 rfl ic_0 ?_
      refine v_bipush (q := 24) dX12_kept_22 rfl bp_10 ?_
      refine v_cPS3 (q := 27) (ct_X12_in (d - 1) (by omega) _ _ _ _) dX12_kept_24 rfl cc_X12_81 (by omega) (Nat.le_of_ble_eq_true rfl) ⟨Nat.le_of_ble_eq_true rfl, Nat.le_of_ble_eq_true rfl⟩ (fun v3 => ?_)
      refine v_if_eq (tgt := 40) (q := 30) dX12_kept_27 rfl rfl ?_ ?_
      · refine v_ldc2 (q := 43) (v := (-1000000000000000002 : Int64)) kl_X12_218 dX12_kept_40 rfl ?_
        exact v_lret rfl dX12_kept_43 ⟨Nat.le_of_ble_eq_true rfl, Nat.le_of_ble_eq_true rfl⟩ rfl
      · refine v_iload (q := 32) dX12_kept_30 rfl rfl ?_
        refine v_iconst (q := 33) dX12_kept_32 rfl ic_0 ?_
        refine v_iconst (q := 34) dX12_kept_33 rfl ic_1 ?_
        refine v_cPS3 (q := 37) (ct_X12_in (d - 1) (by omega) _ _ _ _) dX12_kept_34 rfl cc_X12_81 (by omega) (Nat.le_of_ble_eq_true rfl) ⟨Nat.le_of_ble_eq_true rfl, Nat.le_of_ble_eq_true rfl⟩ (fun v4 => ?_)
        refine v_if_ne (tgt := 44) (q := 40) dX12_kept_37 rfl rfl ?_ ?_
        · refine v_aload_n (q := 45) dX12_kept_44 rfl rfl rfl ?_
          refine v_iload_n (q := 46) dX12_kept_45 rfl rfl rfl ?_
          refine v_iload_n (q := 47) dX12_kept_46 rfl rfl rfl ?_
          refine v_iload_n (q := 48) dX12_kept_47 rfl rfl rfl ?_
          refine v_cEV3 (q := 51) (ct_X12_hosted (d - 1) (by omega) _ _ _ _ _) dX12_kept_48 rfl cc_X12_220 (by omega) (Nat.le_of_ble_eq_true rfl) ⟨Nat.le_of_ble_eq_true rfl, Nat.le_of_ble_eq_true rfl⟩ (fun w5 M6 => ?_)
          refine v_lstore (q := 53) (loc2 := [some (.ref a0), some (.int x1), some (.int x2), some (.int x3), some (.int x4), some (.long w5), none, none, none, none, none, none, none, none, none]) dX12_kept_51 rfl rfl (Nat.le_of_ble_eq_true rfl) rfl ?_
          refine v_bipush (q := 55) dX12_kept_53 rfl bp_9 ?_
          refine v_cLS1 (q := 58) (ct_X12_tens (d - 1) (by omega) _ _) dX12_kept_55 rfl cc_X12_210 (by omega) (Nat.le_of_ble_eq_true rfl) ⟨Nat.le_of_ble_eq_true rfl, Nat.le_of_ble_eq_true rfl⟩ (fun w7 => ?_)
          refine v_lstore (q := 60) (loc2 := [some (.ref a0), some (.int x1), some (.int x2), some (.int x3), some (.int x4), some (.long w5), none, some (.long w7), none, none, none, none, none, none, none]) dX12_kept_58 rfl rfl (Nat.le_of_ble_eq_true rfl) rfl ?_
          refine v_lload (q := 62) dX12_kept_60 rfl rfl ?_
          refine v_lstore (q := 64) (loc2 := [some (.ref a0), some (.int x1), some (.int x2), some (.int x3), some (.int x4), some (.long w5), none, some (.long w7), none, some (.long w5), none, none, none, none, none]) dX12_kept_62 rfl rfl (Nat.le_of_ble_eq_true rfl) rfl ?_
          refine v_lload (q := 66) dX12_kept_64 rfl rfl ?_
          refine v_lstore (q := 68) (loc2 := [some (.ref a0), some (.int x1), some (.int x2), some (.int x3), some (.int x4), some (.long w5), none, some (.long w7), none, some (.long w5), none, some (.long w7), none, none, none]) dX12_kept_66 rfl rfl (Nat.le_of_ble_eq_true rfl) rfl ?_
          refine v_lps (S := Int64 × Int64) 93 (fun s => M6) (fun s => [some (.ref a0), some (.int x1), some (.int x2), some (.int x3), some (.int x4), some (.long w5), none, some (.long w7), none, some (.long s.1), none, some (.long s.2), none, none, none]) (fun e11 => M6) (fun e11 => [some (.ref a0), some (.int x1), some (.int x2), some (.int x3), some (.int x4), some (.long w5), none, some (.long w7), none, some (.long e11.1), none, some (.long e11.2), none, none, none]) (fun e11 => ?_) (fun k K hk hx s => ?_)
          · refine v_iload (q := 95) dX12_kept_93 rfl rfl ?_
            refine v_join (γ := Int64) 111 (fun w12 => M6) (fun w12 => [some (.ref a0), some (.int x1), some (.int x2), some (.int x3), some (.int x4), some (.long w5), none, some (.long w7), none, some (.long e11.1), none, some (.long e11.2), none, none, none]) (fun w12 => [.long w12]) (fun K hK => ?_) (fun w12 => ?_)
            · refine v_if_ne (tgt := 106) (q := 98) dX12_kept_95 rfl rfl ?_ ?_
              · refine v_lload (q := 108) dX12_kept_106 rfl rfl ?_
                refine v_lload (q := 110) dX12_kept_108 rfl rfl ?_
                refine v_ldiv (q := 111) dX12_kept_110 rfl ?_
                exact hK (w7 / e11.1)
              · refine v_lload (q := 100) dX12_kept_98 rfl rfl ?_
                refine v_lload (q := 102) dX12_kept_100 rfl rfl ?_
                refine v_ldiv (q := 103) dX12_kept_102 rfl ?_
                refine v_goto (tgt := 111) dX12_kept_103 rfl ?_
                exact hK (w5 / e11.1)
            · exact v_lret rfl dX12_kept_111 ⟨Nat.le_of_ble_eq_true rfl, Nat.le_of_ble_eq_true rfl⟩ rfl
          · obtain ⟨w8, w9⟩ := s
            show V _ _ M6 68 [some (.ref a0), some (.int x1), some (.int x2), some (.int x3), some (.int x4), some (.long w5), none, some (.long w7), none, some (.long w8), none, some (.long w9), none, none, none] [] (s_X12_kept_68 w8 w9) _
            unfold s_X12_kept_68
            refine v_lload (q := 70) dX12_kept_68 rfl rfl ?_
            refine v_lconst (q := 71) dX12_kept_70 rfl rfl ?_
            refine v_lcmp (q := 72) dX12_kept_71 rfl ?_
            refine v_if_eq (tgt := 93) (q := 75) dX12_kept_72 rfl rfl ?_ ?_
            · exact v_inr (hx (w8, w9))
            · refine v_lload (q := 77) dX12_kept_75 rfl rfl ?_
              refine v_lload (q := 79) dX12_kept_77 rfl rfl ?_
              refine v_lrem (q := 80) dX12_kept_79 rfl ?_
              refine v_letJ (fun w10 => ?_)
              refine v_lstore (q := 82) (loc2 := [some (.ref a0), some (.int x1), some (.int x2), some (.int x3), some (.int x4), some (.long w5), none, some (.long w7), none, some (.long w8), none, some (.long w9), none, some (.long w10), none]) dX12_kept_80 rfl rfl (Nat.le_of_ble_eq_true rfl) rfl ?_
              refine v_lload (q := 84) dX12_kept_82 rfl rfl ?_
              refine v_lstore (q := 86) (loc2 := [some (.ref a0), some (.int x1), some (.int x2), some (.int x3), some (.int x4), some (.long w5), none, some (.long w7), none, some (.long w9), none, some (.long w9), none, some (.long w10), none]) dX12_kept_84 rfl rfl (Nat.le_of_ble_eq_true rfl) rfl ?_
              refine v_lload (q := 88) dX12_kept_86 rfl rfl ?_
              refine v_lstore (q := 90) (loc2 := [some (.ref a0), some (.int x1), some (.int x2), some (.int x3), some (.int x4), some (.long w5), none, some (.long w7), none, some (.long w9), none, some (.long w10), none, some (.long w10), none]) dX12_kept_88 rfl rfl (Nat.le_of_ble_eq_true rfl) rfl ?_
              refine v_goto (tgt := 68) dX12_kept_90 rfl ?_
              exact v_inl (v_weak (hk (w9, w10)) ⟨rfl, ⟨rfl, ⟨rfl, ⟨rfl, ⟨rfl, ⟨rfl, ⟨rfl, ⟨rfl, ⟨rfl, trivial⟩⟩⟩⟩⟩⟩⟩⟩⟩)
        · refine v_ldc2 (q := 43) (v := (-1000000000000000002 : Int64)) kl_X12_218 dX12_kept_40 rfl ?_
          exact v_lret rfl dX12_kept_43 ⟨Nat.le_of_ble_eq_true rfl, Nat.le_of_ble_eq_true rfl⟩ rfl
theorem ct_X12_kept (d : Nat) (hd : 2 ≤ d) (a0 : Nat) (x1 : Int32) (x2 : Int32) (x3 : Int32) (x4 : Int32) (M : Me) (r : Int64) (M2 : Me) (hf : f_X12_kept a0 x1 x2 x3 x4 M = some (r, M2)) : me_k M a0 = some (12, nf_c 12) ∧ Ct yX12_kept mX12_kept d 0 0 [.ref a0, .int x1, .int x2, .int x3, .int x4] M (some (.long r), M2) := by
  obtain ⟨hk, hb⟩ := ck_some hf
  exact ⟨hk, ct_of (by decide +kernel) rfl rfl (Nat.le_of_ble_eq_true rfl) (vb_X12_kept d hd a0 x1 x2 x3 x4 M) (by rw [hb]; rfl)⟩
theorem dX12_keeps_0 : decode cX12_keeps 0 = .ok (.iload_n 1, 1) := by decide +kernel
theorem dX12_keeps_1 : decode cX12_keeps 1 = .ok (.iconst 1, 1) := by decide +kernel
theorem dX12_keeps_2 : decode cX12_keeps 2 = .ok (.bipush 8, 2) := by decide +kernel
theorem dX12_keeps_4 : decode cX12_keeps 4 = .ok (.invokestatic 81, 3) := by decide +kernel
theorem dX12_keeps_7 : decode cX12_keeps 7 = .ok (.ifCond .eq 23, 3) := by decide +kernel
theorem dX12_keeps_10 : decode cX12_keeps 10 = .ok (.iload_n 2, 1) := by decide +kernel
theorem dX12_keeps_11 : decode cX12_keeps 11 = .ok (.iconst 0, 1) := by decide +kernel
theorem dX12_keeps_12 : decode cX12_keeps 12 = .ok (.bipush 10, 2) := by decide +kernel
theorem dX12_keeps_14 : decode cX12_keeps 14 = .ok (.invokestatic 81, 3) := by decide +kernel
theorem dX12_keeps_17 : decode cX12_keeps 17 = .ok (.ifCond .eq 13, 3) := by decide +kernel
theorem dX12_keeps_20 : decode cX12_keeps 20 = .ok (.iload_n 3, 1) := by decide +kernel
theorem dX12_keeps_21 : decode cX12_keeps 21 = .ok (.iconst 0, 1) := by decide +kernel
theorem dX12_keeps_22 : decode cX12_keeps 22 = .ok (.bipush 10, 2) := by decide +kernel
theorem dX12_keeps_24 : decode cX12_keeps 24 = .ok (.invokestatic 81, 3) := by decide +kernel
theorem dX12_keeps_27 : decode cX12_keeps 27 = .ok (.ifCond .ne 6, 3) := by decide +kernel
theorem dX12_keeps_30 : decode cX12_keeps 30 = .ok (.bipush (-2), 2) := by decide +kernel
theorem dX12_keeps_32 : decode cX12_keeps 32 = .ok (.ireturn, 1) := by decide +kernel
theorem dX12_keeps_33 : decode cX12_keeps 33 = .ok (.aload_n 0, 1) := by decide +kernel
theorem dX12_keeps_34 : decode cX12_keeps 34 = .ok (.iload_n 1, 1) := by decide +kernel
theorem dX12_keeps_35 : decode cX12_keeps 35 = .ok (.iload_n 2, 1) := by decide +kernel
theorem dX12_keeps_36 : decode cX12_keeps 36 = .ok (.iload_n 3, 1) := by decide +kernel
theorem dX12_keeps_37 : decode cX12_keeps 37 = .ok (.invokevirtual 220, 3) := by decide +kernel
theorem dX12_keeps_40 : decode cX12_keeps 40 = .ok (.pop2, 1) := by decide +kernel
theorem dX12_keeps_41 : decode cX12_keeps 41 = .ok (.aload_n 0, 1) := by decide +kernel
theorem dX12_keeps_42 : decode cX12_keeps 42 = .ok (.getfield 214, 3) := by decide +kernel
theorem dX12_keeps_45 : decode cX12_keeps 45 = .ok (.ifCond .eq 7, 3) := by decide +kernel
theorem dX12_keeps_48 : decode cX12_keeps 48 = .ok (.iconst 1, 1) := by decide +kernel
theorem dX12_keeps_49 : decode cX12_keeps 49 = .ok (.goto 4, 3) := by decide +kernel
theorem dX12_keeps_52 : decode cX12_keeps 52 = .ok (.iconst 0, 1) := by decide +kernel
theorem dX12_keeps_53 : decode cX12_keeps 53 = .ok (.ireturn, 1) := by decide +kernel
noncomputable def b_X12_keeps (a0 : Nat) (x1 : Int32) (x2 : Int32) (x3 : Int32) (M : Me) : Option (Int32 × Me) :=
  cP (f_X12_in x1 (1 : Int32) (8 : Int32) M) fun v1 =>
  if v1 = 0 then (
    some ((-2 : Int32), M)
  ) else (
    cP (f_X12_in x2 (0 : Int32) (10 : Int32) M) fun v2 =>
    if v2 = 0 then (
      some ((-2 : Int32), M)
    ) else (
      cP (f_X12_in x3 (0 : Int32) (10 : Int32) M) fun v3 =>
      if v3 = 0 then (
        some ((-2 : Int32), M)
      ) else (
        cE (f_X12_hosted a0 x1 x2 x3 M) fun w4 M5 =>
        gi M5 a0 12 29 fun v6 =>
        (
          if v6 = 0 then (
            some (0 : Int32)
          ) else (
            some (1 : Int32)
          )
        ).bind fun v7 =>
        some (v7, M5)
      )
    )
  )
noncomputable def f_X12_keeps (a0 : Nat) (x1 : Int32) (x2 : Int32) (x3 : Int32) (M : Me) : Option (Int32 × Me) := ck M a0 12 (b_X12_keeps a0 x1 x2 x3 M)
set_option maxRecDepth 20000 in
theorem vb_X12_keeps (d : Nat) (hd : 2 ≤ d) (a0 : Nat) (x1 : Int32) (x2 : Int32) (x3 : Int32) (M : Me) : V (mX12_keeps, d, 0, 0) (0, 0) M 0 [some (.ref a0), some (.int x1), some (.int x2), some (.int x3)] [] (b_X12_keeps a0 x1 x2 x3 M) (fun z => some (some (.int z.1), z.2)) := by
  unfold b_X12_keeps
  refine v_iload_n (q := 1) dX12_keeps_0 rfl rfl rfl ?_
  refine v_iconst (q := 2) dX12_keeps_1 rfl ic_1 ?_
  refine v_bipush (q := 4) dX12_keeps_2 rfl bp_8 ?_
  refine v_cPS3 (q := 7) (ct_X12_in (d - 1) (by omega) _ _ _ _) dX12_keeps_4 rfl cc_X12_81 (by omega) (Nat.le_of_ble_eq_true rfl) ⟨Nat.le_of_ble_eq_true rfl, Nat.le_of_ble_eq_true rfl⟩ (fun v1 => ?_)
  refine v_if_eq (tgt := 30) (q := 10) dX12_keeps_7 rfl rfl ?_ ?_
  · refine v_bipush (q := 32) dX12_keeps_30 rfl bp_m2 ?_
    exact v_iret rfl dX12_keeps_32 ⟨Nat.le_of_ble_eq_true rfl, Nat.le_of_ble_eq_true rfl⟩ rfl
  · refine v_iload_n (q := 11) dX12_keeps_10 rfl rfl rfl ?_
    refine v_iconst (q := 12) dX12_keeps_11 rfl ic_0 ?_
    refine v_bipush (q := 14) dX12_keeps_12 rfl bp_10 ?_
    refine v_cPS3 (q := 17) (ct_X12_in (d - 1) (by omega) _ _ _ _) dX12_keeps_14 rfl cc_X12_81 (by omega) (Nat.le_of_ble_eq_true rfl) ⟨Nat.le_of_ble_eq_true rfl, Nat.le_of_ble_eq_true rfl⟩ (fun v2 => ?_)
    refine v_if_eq (tgt := 30) (q := 20) dX12_keeps_17 rfl rfl ?_ ?_
    · refine v_bipush (q := 32) dX12_keeps_30 rfl bp_m2 ?_
      exact v_iret rfl dX12_keeps_32 ⟨Nat.le_of_ble_eq_true rfl, Nat.le_of_ble_eq_true rfl⟩ rfl
    · refine v_iload_n (q := 21) dX12_keeps_20 rfl rfl rfl ?_
      refine v_iconst (q := 22) dX12_keeps_21 rfl ic_0 ?_
      refine v_bipush (q := 24) dX12_keeps_22 rfl bp_10 ?_
      refine v_cPS3 (q := 27) (ct_X12_in (d - 1) (by omega) _ _ _ _) dX12_keeps_24 rfl cc_X12_81 (by omega) (Nat.le_of_ble_eq_true rfl) ⟨Nat.le_of_ble_eq_true rfl, Nat.le_of_ble_eq_true rfl⟩ (fun v3 => ?_)
      refine v_if_ne (tgt := 33) (q := 30) dX12_keeps_27 rfl rfl ?_ ?_
      · refine v_aload_n (q := 34) dX12_keeps_33 rfl rfl rfl ?_
        refine v_iload_n (q := 35) dX12_keeps_34 rfl rfl rfl ?_
        refine v_iload_n (q := 36) dX12_keeps_35 rfl rfl rfl ?_
        refine v_iload_n (q := 37) dX12_keeps_36 rfl rfl rfl ?_
        refine v_cEV3 (q := 40) (ct_X12_hosted (d - 1) (by omega) _ _ _ _ _) dX12_keeps_37 rfl cc_X12_220 (by omega) (Nat.le_of_ble_eq_true rfl) ⟨Nat.le_of_ble_eq_true rfl, Nat.le_of_ble_eq_true rfl⟩ (fun w4 M5 => ?_)
        refine v_pop2 (q := 41) dX12_keeps_40 rfl rfl ?_
        refine v_aload_n (q := 42) dX12_keeps_41 rfl rfl rfl ?_
        refine v_getIb (q := 45) dX12_keeps_42 rfl fg_X12_214 (fun v6 => ?_)
        refine v_join (γ := Int32) 53 (fun v7 => M5) (fun v7 => [some (.ref a0), some (.int x1), some (.int x2), some (.int x3)]) (fun v7 => [.int v7]) (fun K hK => ?_) (fun v7 => ?_)
        · refine v_if_eq (tgt := 52) (q := 48) dX12_keeps_45 rfl rfl ?_ ?_
          · refine v_iconst (q := 53) dX12_keeps_52 rfl ic_0 ?_
            exact hK (0 : Int32)
          · refine v_iconst (q := 49) dX12_keeps_48 rfl ic_1 ?_
            refine v_goto (tgt := 53) dX12_keeps_49 rfl ?_
            exact hK (1 : Int32)
        · exact v_iret rfl dX12_keeps_53 ⟨Nat.le_of_ble_eq_true rfl, Nat.le_of_ble_eq_true rfl⟩ rfl
      · refine v_bipush (q := 32) dX12_keeps_30 rfl bp_m2 ?_
        exact v_iret rfl dX12_keeps_32 ⟨Nat.le_of_ble_eq_true rfl, Nat.le_of_ble_eq_true rfl⟩ rfl
theorem ct_X12_keeps (d : Nat) (hd : 2 ≤ d) (a0 : Nat) (x1 : Int32) (x2 : Int32) (x3 : Int32) (M : Me) (r : Int32) (M2 : Me) (hf : f_X12_keeps a0 x1 x2 x3 M = some (r, M2)) : me_k M a0 = some (12, nf_c 12) ∧ Ct yX12_keeps mX12_keeps d 0 0 [.ref a0, .int x1, .int x2, .int x3] M (some (.int r), M2) := by
  obtain ⟨hk, hb⟩ := ck_some hf
  exact ⟨hk, ct_of (by decide +kernel) rfl rfl (Nat.le_of_ble_eq_true rfl) (vb_X12_keeps d hd a0 x1 x2 x3 M) (by rw [hb]; rfl)⟩
theorem dX12_seen_0 : decode cX12_seen 0 = .ok (.iload_n 1, 1) := by decide +kernel
theorem dX12_seen_1 : decode cX12_seen 1 = .ok (.iconst 0, 1) := by decide +kernel
theorem dX12_seen_2 : decode cX12_seen 2 = .ok (.iconst 5, 1) := by decide +kernel
theorem dX12_seen_3 : decode cX12_seen 3 = .ok (.invokestatic 81, 3) := by decide +kernel
theorem dX12_seen_6 : decode cX12_seen 6 = .ok (.ifCond .ne 5, 3) := by decide +kernel
theorem dX12_seen_9 : decode cX12_seen 9 = .ok (.iconst (-1), 1) := by decide +kernel
theorem dX12_seen_10 : decode cX12_seen 10 = .ok (.ireturn, 1) := by decide +kernel
theorem dX12_seen_11 : decode cX12_seen 11 = .ok (.iload_n 2, 1) := by decide +kernel
theorem dX12_seen_12 : decode cX12_seen 12 = .ok (.iconst 1, 1) := by decide +kernel
theorem dX12_seen_13 : decode cX12_seen 13 = .ok (.bipush 20, 2) := by decide +kernel
theorem dX12_seen_15 : decode cX12_seen 15 = .ok (.invokestatic 81, 3) := by decide +kernel
theorem dX12_seen_18 : decode cX12_seen 18 = .ok (.ifCond .ne 6, 3) := by decide +kernel
theorem dX12_seen_21 : decode cX12_seen 21 = .ok (.bipush (-2), 2) := by decide +kernel
theorem dX12_seen_23 : decode cX12_seen 23 = .ok (.ireturn, 1) := by decide +kernel
theorem dX12_seen_24 : decode cX12_seen 24 = .ok (.aload_n 0, 1) := by decide +kernel
theorem dX12_seen_25 : decode cX12_seen 25 = .ok (.getfield 89, 3) := by decide +kernel
theorem dX12_seen_28 : decode cX12_seen 28 = .ok (.bipush 6, 2) := by decide +kernel
theorem dX12_seen_30 : decode cX12_seen 30 = .ok (.if_icmp .ne 6, 3) := by decide +kernel
theorem dX12_seen_33 : decode cX12_seen 33 = .ok (.bipush (-4), 2) := by decide +kernel
theorem dX12_seen_35 : decode cX12_seen 35 = .ok (.ireturn, 1) := by decide +kernel
theorem dX12_seen_36 : decode cX12_seen 36 = .ok (.aload_n 0, 1) := by decide +kernel
theorem dX12_seen_37 : decode cX12_seen 37 = .ok (.getfield 26, 3) := by decide +kernel
theorem dX12_seen_40 : decode cX12_seen 40 = .ok (.iconst 2, 1) := by decide +kernel
theorem dX12_seen_41 : decode cX12_seen 41 = .ok (.aload_n 0, 1) := by decide +kernel
theorem dX12_seen_42 : decode cX12_seen 42 = .ok (.getfield 89, 3) := by decide +kernel
theorem dX12_seen_45 : decode cX12_seen 45 = .ok (.imul, 1) := by decide +kernel
theorem dX12_seen_46 : decode cX12_seen 46 = .ok (.iload_n 1, 1) := by decide +kernel
theorem dX12_seen_47 : decode cX12_seen 47 = .ok (.iastore, 1) := by decide +kernel
theorem dX12_seen_48 : decode cX12_seen 48 = .ok (.aload_n 0, 1) := by decide +kernel
theorem dX12_seen_49 : decode cX12_seen 49 = .ok (.getfield 26, 3) := by decide +kernel
theorem dX12_seen_52 : decode cX12_seen 52 = .ok (.iconst 2, 1) := by decide +kernel
theorem dX12_seen_53 : decode cX12_seen 53 = .ok (.aload_n 0, 1) := by decide +kernel
theorem dX12_seen_54 : decode cX12_seen 54 = .ok (.getfield 89, 3) := by decide +kernel
theorem dX12_seen_57 : decode cX12_seen 57 = .ok (.imul, 1) := by decide +kernel
theorem dX12_seen_58 : decode cX12_seen 58 = .ok (.iconst 1, 1) := by decide +kernel
theorem dX12_seen_59 : decode cX12_seen 59 = .ok (.iadd, 1) := by decide +kernel
theorem dX12_seen_60 : decode cX12_seen 60 = .ok (.iload_n 2, 1) := by decide +kernel
theorem dX12_seen_61 : decode cX12_seen 61 = .ok (.iastore, 1) := by decide +kernel
theorem dX12_seen_62 : decode cX12_seen 62 = .ok (.aload_n 0, 1) := by decide +kernel
theorem dX12_seen_63 : decode cX12_seen 63 = .ok (.dup, 1) := by decide +kernel
theorem dX12_seen_64 : decode cX12_seen 64 = .ok (.getfield 89, 3) := by decide +kernel
theorem dX12_seen_67 : decode cX12_seen 67 = .ok (.iconst 1, 1) := by decide +kernel
theorem dX12_seen_68 : decode cX12_seen 68 = .ok (.iadd, 1) := by decide +kernel
theorem dX12_seen_69 : decode cX12_seen 69 = .ok (.putfield 89, 3) := by decide +kernel
theorem dX12_seen_72 : decode cX12_seen 72 = .ok (.aload_n 0, 1) := by decide +kernel
theorem dX12_seen_73 : decode cX12_seen 73 = .ok (.getfield 89, 3) := by decide +kernel
theorem dX12_seen_76 : decode cX12_seen 76 = .ok (.ireturn, 1) := by decide +kernel
noncomputable def b_X12_seen (a0 : Nat) (x1 : Int32) (x2 : Int32) (M : Me) : Option (Int32 × Me) :=
  cP (f_X12_in x1 (0 : Int32) (5 : Int32) M) fun v1 =>
  if v1 = 0 then (
    some ((-1 : Int32), M)
  ) else (
    cP (f_X12_in x2 (1 : Int32) (20 : Int32) M) fun v2 =>
    if v2 = 0 then (
      some ((-2 : Int32), M)
    ) else (
      gi M a0 12 6 fun v3 =>
      if v3 = (6 : Int32) then (
        some ((-4 : Int32), M)
      ) else (
        gr M a0 12 7 fun o4 =>
        gi M a0 12 6 fun v5 =>
        si M o4 ((2 : Int32) * v5) x1 fun M6 =>
        gr M6 a0 12 7 fun o7 =>
        gi M6 a0 12 6 fun v8 =>
        si M6 o7 (((2 : Int32) * v8) + (1 : Int32)) x2 fun M9 =>
        gi M9 a0 12 6 fun v10 =>
        pi M9 a0 12 6 (v10 + (1 : Int32)) fun M11 =>
        gi M11 a0 12 6 fun v12 =>
        some (v12, M11)
      )
    )
  )
noncomputable def f_X12_seen (a0 : Nat) (x1 : Int32) (x2 : Int32) (M : Me) : Option (Int32 × Me) := ck M a0 12 (b_X12_seen a0 x1 x2 M)
set_option maxRecDepth 20000 in
theorem vb_X12_seen (d : Nat) (hd : 1 ≤ d) (a0 : Nat) (x1 : Int32) (x2 : Int32) (M : Me) : V (mX12_seen, d, 0, 0) (0, 0) M 0 [some (.ref a0), some (.int x1), some (.int x2)] [] (b_X12_seen a0 x1 x2 M) (fun z => some (some (.int z.1), z.2)) := by
  unfold b_X12_seen
  refine v_iload_n (q := 1) dX12_seen_0 rfl rfl rfl ?_
  refine v_iconst (q := 2) dX12_seen_1 rfl ic_0 ?_
  refine v_iconst (q := 3) dX12_seen_2 rfl ic_5 ?_
  refine v_cPS3 (q := 6) (ct_X12_in (d - 1) (by omega) _ _ _ _) dX12_seen_3 rfl cc_X12_81 (by omega) (Nat.le_of_ble_eq_true rfl) ⟨Nat.le_of_ble_eq_true rfl, Nat.le_of_ble_eq_true rfl⟩ (fun v1 => ?_)
  refine v_if_ne (tgt := 11) (q := 9) dX12_seen_6 rfl rfl ?_ ?_
  · refine v_iload_n (q := 12) dX12_seen_11 rfl rfl rfl ?_
    refine v_iconst (q := 13) dX12_seen_12 rfl ic_1 ?_
    refine v_bipush (q := 15) dX12_seen_13 rfl bp_20 ?_
    refine v_cPS3 (q := 18) (ct_X12_in (d - 1) (by omega) _ _ _ _) dX12_seen_15 rfl cc_X12_81 (by omega) (Nat.le_of_ble_eq_true rfl) ⟨Nat.le_of_ble_eq_true rfl, Nat.le_of_ble_eq_true rfl⟩ (fun v2 => ?_)
    refine v_if_ne (tgt := 24) (q := 21) dX12_seen_18 rfl rfl ?_ ?_
    · refine v_aload_n (q := 25) dX12_seen_24 rfl rfl rfl ?_
      refine v_getIb (q := 28) dX12_seen_25 rfl fg_X12_89 (fun v3 => ?_)
      refine v_bipush (q := 30) dX12_seen_28 rfl bp_6 ?_
      refine v_icmp_ne (tgt := 36) (q := 33) dX12_seen_30 rfl rfl ?_ ?_
      · refine v_aload_n (q := 37) dX12_seen_36 rfl rfl rfl ?_
        refine v_getRb (q := 40) dX12_seen_37 rfl fg_X12_26 (fun o4 => ?_)
        refine v_iconst (q := 41) dX12_seen_40 rfl ic_2 ?_
        refine v_aload_n (q := 42) dX12_seen_41 rfl rfl rfl ?_
        refine v_getIb (q := 45) dX12_seen_42 rfl fg_X12_89 (fun v5 => ?_)
        refine v_imul (q := 46) dX12_seen_45 rfl ?_
        refine v_iload_n (q := 47) dX12_seen_46 rfl rfl rfl ?_
        refine v_iastore (q := 48) dX12_seen_47 rfl (fun M6 => ?_)
        refine v_aload_n (q := 49) dX12_seen_48 rfl rfl rfl ?_
        refine v_getRb (q := 52) dX12_seen_49 rfl fg_X12_26 (fun o7 => ?_)
        refine v_iconst (q := 53) dX12_seen_52 rfl ic_2 ?_
        refine v_aload_n (q := 54) dX12_seen_53 rfl rfl rfl ?_
        refine v_getIb (q := 57) dX12_seen_54 rfl fg_X12_89 (fun v8 => ?_)
        refine v_imul (q := 58) dX12_seen_57 rfl ?_
        refine v_iconst (q := 59) dX12_seen_58 rfl ic_1 ?_
        refine v_iadd (q := 60) dX12_seen_59 rfl ?_
        refine v_iload_n (q := 61) dX12_seen_60 rfl rfl rfl ?_
        refine v_iastore (q := 62) dX12_seen_61 rfl (fun M9 => ?_)
        refine v_aload_n (q := 63) dX12_seen_62 rfl rfl rfl ?_
        refine v_dup (q := 64) dX12_seen_63 rfl rfl ?_
        refine v_getIb (q := 67) dX12_seen_64 rfl fg_X12_89 (fun v10 => ?_)
        refine v_iconst (q := 68) dX12_seen_67 rfl ic_1 ?_
        refine v_iadd (q := 69) dX12_seen_68 rfl ?_
        refine v_putIb (q := 72) dX12_seen_69 rfl fp_X12_89 (fun M11 => ?_)
        refine v_aload_n (q := 73) dX12_seen_72 rfl rfl rfl ?_
        refine v_getIb (q := 76) dX12_seen_73 rfl fg_X12_89 (fun v12 => ?_)
        exact v_iret rfl dX12_seen_76 ⟨Nat.le_of_ble_eq_true rfl, Nat.le_of_ble_eq_true rfl⟩ rfl
      · refine v_bipush (q := 35) dX12_seen_33 rfl bp_m4 ?_
        exact v_iret rfl dX12_seen_35 ⟨Nat.le_of_ble_eq_true rfl, Nat.le_of_ble_eq_true rfl⟩ rfl
    · refine v_bipush (q := 23) dX12_seen_21 rfl bp_m2 ?_
      exact v_iret rfl dX12_seen_23 ⟨Nat.le_of_ble_eq_true rfl, Nat.le_of_ble_eq_true rfl⟩ rfl
  · refine v_iconst (q := 10) dX12_seen_9 rfl ic_m1 ?_
    exact v_iret rfl dX12_seen_10 ⟨Nat.le_of_ble_eq_true rfl, Nat.le_of_ble_eq_true rfl⟩ rfl
theorem ct_X12_seen (d : Nat) (hd : 1 ≤ d) (a0 : Nat) (x1 : Int32) (x2 : Int32) (M : Me) (r : Int32) (M2 : Me) (hf : f_X12_seen a0 x1 x2 M = some (r, M2)) : me_k M a0 = some (12, nf_c 12) ∧ Ct yX12_seen mX12_seen d 0 0 [.ref a0, .int x1, .int x2] M (some (.int r), M2) := by
  obtain ⟨hk, hb⟩ := ck_some hf
  exact ⟨hk, ct_of (by decide +kernel) rfl rfl (Nat.le_of_ble_eq_true rfl) (vb_X12_seen d hd a0 x1 x2 M) (by rw [hb]; rfl)⟩
theorem dX12_forget_0 : decode cX12_forget 0 = .ok (.aload_n 0, 1) := by decide +kernel
theorem dX12_forget_1 : decode cX12_forget 1 = .ok (.getfield 89, 3) := by decide +kernel
theorem dX12_forget_4 : decode cX12_forget 4 = .ok (.istore_n 1, 1) := by decide +kernel
theorem dX12_forget_5 : decode cX12_forget 5 = .ok (.aload_n 0, 1) := by decide +kernel
theorem dX12_forget_6 : decode cX12_forget 6 = .ok (.iconst 0, 1) := by decide +kernel
theorem dX12_forget_7 : decode cX12_forget 7 = .ok (.putfield 89, 3) := by decide +kernel
theorem dX12_forget_10 : decode cX12_forget 10 = .ok (.iload_n 1, 1) := by decide +kernel
theorem dX12_forget_11 : decode cX12_forget 11 = .ok (.ireturn, 1) := by decide +kernel
noncomputable def b_X12_forget (a0 : Nat) (M : Me) : Option (Int32 × Me) :=
  gi M a0 12 6 fun v1 =>
  pi M a0 12 6 (0 : Int32) fun M2 =>
  some (v1, M2)
noncomputable def f_X12_forget (a0 : Nat) (M : Me) : Option (Int32 × Me) := ck M a0 12 (b_X12_forget a0 M)
set_option maxRecDepth 20000 in
theorem vb_X12_forget (d : Nat) (hd : 0 ≤ d) (a0 : Nat) (M : Me) : V (mX12_forget, d, 0, 0) (0, 0) M 0 [some (.ref a0), none] [] (b_X12_forget a0 M) (fun z => some (some (.int z.1), z.2)) := by
  unfold b_X12_forget
  refine v_aload_n (q := 1) dX12_forget_0 rfl rfl rfl ?_
  refine v_getIb (q := 4) dX12_forget_1 rfl fg_X12_89 (fun v1 => ?_)
  refine v_istore_n (q := 5) (loc2 := [some (.ref a0), some (.int v1)]) dX12_forget_4 rfl rfl rfl (Nat.le_of_ble_eq_true rfl) rfl ?_
  refine v_aload_n (q := 6) dX12_forget_5 rfl rfl rfl ?_
  refine v_iconst (q := 7) dX12_forget_6 rfl ic_0 ?_
  refine v_putIb (q := 10) dX12_forget_7 rfl fp_X12_89 (fun M2 => ?_)
  refine v_iload_n (q := 11) dX12_forget_10 rfl rfl rfl ?_
  exact v_iret rfl dX12_forget_11 ⟨Nat.le_of_ble_eq_true rfl, Nat.le_of_ble_eq_true rfl⟩ rfl
theorem ct_X12_forget (d : Nat) (hd : 0 ≤ d) (a0 : Nat) (M : Me) (r : Int32) (M2 : Me) (hf : f_X12_forget a0 M = some (r, M2)) : me_k M a0 = some (12, nf_c 12) ∧ Ct yX12_forget mX12_forget d 0 0 [.ref a0] M (some (.int r), M2) := by
  obtain ⟨hk, hb⟩ := ck_some hf
  exact ⟨hk, ct_of (by decide +kernel) rfl rfl (Nat.le_of_ble_eq_true rfl) (vb_X12_forget d hd a0 M) (by rw [hb]; rfl)⟩
theorem dX12_who_0 : decode cX12_who 0 = .ok (.iload_n 1, 1) := by decide +kernel
theorem dX12_who_1 : decode cX12_who 1 = .ok (.iconst 0, 1) := by decide +kernel
theorem dX12_who_2 : decode cX12_who 2 = .ok (.iconst 2, 1) := by decide +kernel
theorem dX12_who_3 : decode cX12_who 3 = .ok (.invokestatic 81, 3) := by decide +kernel
theorem dX12_who_6 : decode cX12_who 6 = .ok (.ifCond .ne 6, 3) := by decide +kernel
theorem dX12_who_9 : decode cX12_who 9 = .ok (.bipush (-2), 2) := by decide +kernel
theorem dX12_who_11 : decode cX12_who 11 = .ok (.ireturn, 1) := by decide +kernel
theorem dX12_who_12 : decode cX12_who 12 = .ok (.iconst 1, 1) := by decide +kernel
theorem dX12_who_13 : decode cX12_who 13 = .ok (.istore_n 2, 1) := by decide +kernel
theorem dX12_who_14 : decode cX12_who 14 = .ok (.iconst 0, 1) := by decide +kernel
theorem dX12_who_15 : decode cX12_who 15 = .ok (.istore_n 3, 1) := by decide +kernel
theorem dX12_who_16 : decode cX12_who 16 = .ok (.iload_n 3, 1) := by decide +kernel
theorem dX12_who_17 : decode cX12_who 17 = .ok (.aload_n 0, 1) := by decide +kernel
theorem dX12_who_18 : decode cX12_who 18 = .ok (.getfield 89, 3) := by decide +kernel
theorem dX12_who_21 : decode cX12_who 21 = .ok (.if_icmp .ge 14, 3) := by decide +kernel
theorem dX12_who_24 : decode cX12_who 24 = .ok (.iload_n 2, 1) := by decide +kernel
theorem dX12_who_25 : decode cX12_who 25 = .ok (.bipush 6, 2) := by decide +kernel
theorem dX12_who_27 : decode cX12_who 27 = .ok (.imul, 1) := by decide +kernel
theorem dX12_who_28 : decode cX12_who 28 = .ok (.istore_n 2, 1) := by decide +kernel
theorem dX12_who_29 : decode cX12_who 29 = .ok (.iinc 3 1, 3) := by decide +kernel
theorem dX12_who_32 : decode cX12_who 32 = .ok (.goto (-16), 3) := by decide +kernel
theorem dX12_who_35 : decode cX12_who 35 = .ok (.iconst 0, 1) := by decide +kernel
theorem dX12_who_36 : decode cX12_who 36 = .ok (.istore_n 3, 1) := by decide +kernel
theorem dX12_who_37 : decode cX12_who 37 = .ok (.iconst 0, 1) := by decide +kernel
theorem dX12_who_38 : decode cX12_who 38 = .ok (.istore 4, 2) := by decide +kernel
theorem dX12_who_40 : decode cX12_who 40 = .ok (.bipush 63, 2) := by decide +kernel
theorem dX12_who_42 : decode cX12_who 42 = .ok (.istore 5, 2) := by decide +kernel
theorem dX12_who_44 : decode cX12_who 44 = .ok (.iconst 0, 1) := by decide +kernel
theorem dX12_who_45 : decode cX12_who 45 = .ok (.istore 6, 2) := by decide +kernel
theorem dX12_who_47 : decode cX12_who 47 = .ok (.iload 6, 2) := by decide +kernel
theorem dX12_who_49 : decode cX12_who 49 = .ok (.iload_n 2, 1) := by decide +kernel
theorem dX12_who_50 : decode cX12_who 50 = .ok (.if_icmp .ge 148, 3) := by decide +kernel
theorem dX12_who_53 : decode cX12_who 53 = .ok (.iload 6, 2) := by decide +kernel
theorem dX12_who_55 : decode cX12_who 55 = .ok (.istore 7, 2) := by decide +kernel
theorem dX12_who_57 : decode cX12_who 57 = .ok (.iconst 0, 1) := by decide +kernel
theorem dX12_who_58 : decode cX12_who 58 = .ok (.istore 8, 2) := by decide +kernel
theorem dX12_who_60 : decode cX12_who 60 = .ok (.iconst 1, 1) := by decide +kernel
theorem dX12_who_61 : decode cX12_who 61 = .ok (.istore 9, 2) := by decide +kernel
theorem dX12_who_63 : decode cX12_who 63 = .ok (.iconst 0, 1) := by decide +kernel
theorem dX12_who_64 : decode cX12_who 64 = .ok (.istore 10, 2) := by decide +kernel
theorem dX12_who_66 : decode cX12_who 66 = .ok (.iload 10, 2) := by decide +kernel
theorem dX12_who_68 : decode cX12_who 68 = .ok (.aload_n 0, 1) := by decide +kernel
theorem dX12_who_69 : decode cX12_who 69 = .ok (.getfield 89, 3) := by decide +kernel
theorem dX12_who_72 : decode cX12_who 72 = .ok (.if_icmp .ge 98, 3) := by decide +kernel
theorem dX12_who_75 : decode cX12_who 75 = .ok (.iload 9, 2) := by decide +kernel
theorem dX12_who_77 : decode cX12_who 77 = .ok (.ifCond .eq 93, 3) := by decide +kernel
theorem dX12_who_80 : decode cX12_who 80 = .ok (.iload 7, 2) := by decide +kernel
theorem dX12_who_82 : decode cX12_who 82 = .ok (.bipush 6, 2) := by decide +kernel
theorem dX12_who_84 : decode cX12_who 84 = .ok (.irem, 1) := by decide +kernel
theorem dX12_who_85 : decode cX12_who 85 = .ok (.istore 11, 2) := by decide +kernel
theorem dX12_who_87 : decode cX12_who 87 = .ok (.iload 7, 2) := by decide +kernel
theorem dX12_who_89 : decode cX12_who 89 = .ok (.bipush 6, 2) := by decide +kernel
theorem dX12_who_91 : decode cX12_who 91 = .ok (.idiv, 1) := by decide +kernel
theorem dX12_who_92 : decode cX12_who 92 = .ok (.istore 7, 2) := by decide +kernel
theorem dX12_who_94 : decode cX12_who 94 = .ok (.aload_n 0, 1) := by decide +kernel
theorem dX12_who_95 : decode cX12_who 95 = .ok (.iload 11, 2) := by decide +kernel
theorem dX12_who_97 : decode cX12_who 97 = .ok (.invokevirtual 102, 3) := by decide +kernel
theorem dX12_who_100 : decode cX12_who 100 = .ok (.ifCond .eq 52, 3) := by decide +kernel
theorem dX12_who_103 : decode cX12_who 103 = .ok (.iload 11, 2) := by decide +kernel
theorem dX12_who_105 : decode cX12_who 105 = .ok (.aload_n 0, 1) := by decide +kernel
theorem dX12_who_106 : decode cX12_who 106 = .ok (.getfield 26, 3) := by decide +kernel
theorem dX12_who_109 : decode cX12_who 109 = .ok (.iconst 2, 1) := by decide +kernel
theorem dX12_who_110 : decode cX12_who 110 = .ok (.iload 10, 2) := by decide +kernel
theorem dX12_who_112 : decode cX12_who 112 = .ok (.imul, 1) := by decide +kernel
theorem dX12_who_113 : decode cX12_who 113 = .ok (.iaload, 1) := by decide +kernel
theorem dX12_who_114 : decode cX12_who 114 = .ok (.if_icmp .eq 38, 3) := by decide +kernel
theorem dX12_who_117 : decode cX12_who 117 = .ok (.aload_n 0, 1) := by decide +kernel
theorem dX12_who_118 : decode cX12_who 118 = .ok (.getfield 20, 3) := by decide +kernel
theorem dX12_who_121 : decode cX12_who 121 = .ok (.iload 11, 2) := by decide +kernel
theorem dX12_who_123 : decode cX12_who 123 = .ok (.iaload, 1) := by decide +kernel
theorem dX12_who_124 : decode cX12_who 124 = .ok (.aload_n 0, 1) := by decide +kernel
theorem dX12_who_125 : decode cX12_who 125 = .ok (.getfield 26, 3) := by decide +kernel
theorem dX12_who_128 : decode cX12_who 128 = .ok (.iconst 2, 1) := by decide +kernel
theorem dX12_who_129 : decode cX12_who 129 = .ok (.iload 10, 2) := by decide +kernel
theorem dX12_who_131 : decode cX12_who 131 = .ok (.imul, 1) := by decide +kernel
theorem dX12_who_132 : decode cX12_who 132 = .ok (.iconst 1, 1) := by decide +kernel
theorem dX12_who_133 : decode cX12_who 133 = .ok (.iadd, 1) := by decide +kernel
theorem dX12_who_134 : decode cX12_who 134 = .ok (.iaload, 1) := by decide +kernel
theorem dX12_who_135 : decode cX12_who 135 = .ok (.if_icmp .lt 17, 3) := by decide +kernel
theorem dX12_who_138 : decode cX12_who 138 = .ok (.iload 8, 2) := by decide +kernel
theorem dX12_who_140 : decode cX12_who 140 = .ok (.iload 11, 2) := by decide +kernel
theorem dX12_who_142 : decode cX12_who 142 = .ok (.invokestatic 85, 3) := by decide +kernel
theorem dX12_who_145 : decode cX12_who 145 = .ok (.ifCond .ne 7, 3) := by decide +kernel
theorem dX12_who_148 : decode cX12_who 148 = .ok (.iconst 1, 1) := by decide +kernel
theorem dX12_who_149 : decode cX12_who 149 = .ok (.goto 4, 3) := by decide +kernel
theorem dX12_who_152 : decode cX12_who 152 = .ok (.iconst 0, 1) := by decide +kernel
theorem dX12_who_153 : decode cX12_who 153 = .ok (.istore 9, 2) := by decide +kernel
theorem dX12_who_155 : decode cX12_who 155 = .ok (.iload 8, 2) := by decide +kernel
theorem dX12_who_157 : decode cX12_who 157 = .ok (.iconst 1, 1) := by decide +kernel
theorem dX12_who_158 : decode cX12_who 158 = .ok (.iload 11, 2) := by decide +kernel
theorem dX12_who_160 : decode cX12_who 160 = .ok (.ishl, 1) := by decide +kernel
theorem dX12_who_161 : decode cX12_who 161 = .ok (.ior, 1) := by decide +kernel
theorem dX12_who_162 : decode cX12_who 162 = .ok (.istore 8, 2) := by decide +kernel
theorem dX12_who_164 : decode cX12_who 164 = .ok (.iinc 10 1, 3) := by decide +kernel
theorem dX12_who_167 : decode cX12_who 167 = .ok (.goto (-101), 3) := by decide +kernel
theorem dX12_who_170 : decode cX12_who 170 = .ok (.iload 9, 2) := by decide +kernel
theorem dX12_who_172 : decode cX12_who 172 = .ok (.ifCond .eq 20, 3) := by decide +kernel
theorem dX12_who_175 : decode cX12_who 175 = .ok (.iinc 3 1, 3) := by decide +kernel
theorem dX12_who_178 : decode cX12_who 178 = .ok (.iload 4, 2) := by decide +kernel
theorem dX12_who_180 : decode cX12_who 180 = .ok (.iload 8, 2) := by decide +kernel
theorem dX12_who_182 : decode cX12_who 182 = .ok (.ior, 1) := by decide +kernel
theorem dX12_who_183 : decode cX12_who 183 = .ok (.istore 4, 2) := by decide +kernel
theorem dX12_who_185 : decode cX12_who 185 = .ok (.iload 5, 2) := by decide +kernel
theorem dX12_who_187 : decode cX12_who 187 = .ok (.iload 8, 2) := by decide +kernel
theorem dX12_who_189 : decode cX12_who 189 = .ok (.iand, 1) := by decide +kernel
theorem dX12_who_190 : decode cX12_who 190 = .ok (.istore 5, 2) := by decide +kernel
theorem dX12_who_192 : decode cX12_who 192 = .ok (.iinc 6 1, 3) := by decide +kernel
theorem dX12_who_195 : decode cX12_who 195 = .ok (.goto (-148), 3) := by decide +kernel
theorem dX12_who_198 : decode cX12_who 198 = .ok (.iload_n 1, 1) := by decide +kernel
theorem dX12_who_199 : decode cX12_who 199 = .ok (.ifCond .ne 7, 3) := by decide +kernel
theorem dX12_who_202 : decode cX12_who 202 = .ok (.iload_n 3, 1) := by decide +kernel
theorem dX12_who_203 : decode cX12_who 203 = .ok (.goto 23, 3) := by decide +kernel
theorem dX12_who_206 : decode cX12_who 206 = .ok (.iload_n 1, 1) := by decide +kernel
theorem dX12_who_207 : decode cX12_who 207 = .ok (.iconst 1, 1) := by decide +kernel
theorem dX12_who_208 : decode cX12_who 208 = .ok (.if_icmp .ne 8, 3) := by decide +kernel
theorem dX12_who_211 : decode cX12_who 211 = .ok (.iload 4, 2) := by decide +kernel
theorem dX12_who_213 : decode cX12_who 213 = .ok (.goto 13, 3) := by decide +kernel
theorem dX12_who_216 : decode cX12_who 216 = .ok (.iload_n 3, 1) := by decide +kernel
theorem dX12_who_217 : decode cX12_who 217 = .ok (.ifCond .ne 7, 3) := by decide +kernel
theorem dX12_who_220 : decode cX12_who 220 = .ok (.iconst 0, 1) := by decide +kernel
theorem dX12_who_221 : decode cX12_who 221 = .ok (.goto 5, 3) := by decide +kernel
theorem dX12_who_224 : decode cX12_who 224 = .ok (.iload 5, 2) := by decide +kernel
theorem dX12_who_226 : decode cX12_who 226 = .ok (.ireturn, 1) := by decide +kernel
noncomputable def s_X12_who_16 (a0 : Nat) (M : Me) (v2 : Int32) (v3 : Int32) : Option ((Int32 × Int32) ⊕ (Int32 × Int32)) :=
  gi M a0 12 6 fun v4 =>
  if v4 ≤ v3 then (
    some (Sum.inr (v2, v3))
  ) else (
    let_v ((v2 * (6 : Int32))) fun v5 =>
    let_v (v3 + (1 : Int32)) fun v6 =>
    some (Sum.inl (v5, v6))
  )
noncomputable def s_X12_who_66 (a0 : Nat) (M : Me) (v12 : Int32) (v13 : Int32) (v14 : Int32) (v15 : Int32) : Option ((Int32 × Int32 × Int32 × Int32) ⊕ (Int32 × Int32 × Int32 × Int32)) :=
  gi M a0 12 6 fun v16 =>
  if v16 ≤ v15 then (
    some (Sum.inr (v12, v13, v14, v15))
  ) else (
    if v14 = 0 then (
      some (Sum.inr (v12, v13, v14, v15))
    ) else (
      let_v ((v12 - v12 / (6 : Int32) * (6 : Int32))) fun v17 =>
      let_v ((v12 / (6 : Int32))) fun v18 =>
      cP (f_X12_isThere a0 v17 M) fun v19 =>
      (
        if v19 = 0 then (
          some (0 : Int32)
        ) else (
          gr M a0 12 7 fun o20 =>
          li M o20 ((2 : Int32) * v15) fun v21 =>
          if v17 = v21 then (
            some (0 : Int32)
          ) else (
            gr M a0 12 4 fun o22 =>
            li M o22 v17 fun v23 =>
            gr M a0 12 7 fun o24 =>
            li M o24 (((2 : Int32) * v15) + (1 : Int32)) fun v25 =>
            if v23 < v25 then (
              some (0 : Int32)
            ) else (
              cP (f_X12_has v13 v17 M) fun v26 =>
              if v26 = 0 then (
                some (1 : Int32)
              ) else (
                some (0 : Int32)
              )
            )
          )
        )
      ).bind fun v27 =>
      let_v ((v13 ||| ((1 : Int32) <<< (v17 &&& 31)))) fun v28 =>
      let_v (v15 + (1 : Int32)) fun v29 =>
      some (Sum.inl (v18, v28, v27, v29))
    )
  )
noncomputable def s_X12_who_47 (a0 : Nat) (M : Me) (e7 : Int32 × Int32) (v8 : Int32) (v9 : Int32) (v10 : Int32) (v11 : Int32) : Option ((Int32 × Int32 × Int32 × Int32) ⊕ (Int32 × Int32 × Int32 × Int32)) :=
  if e7.1 ≤ v11 then (
    some (Sum.inr (v8, v9, v10, v11))
  ) else (
    (lp (fun s => s_X12_who_66 a0 M s.1 s.2.1 s.2.2.1 s.2.2.2) (v11, (0 : Int32), (1 : Int32), (0 : Int32))).bind fun e30 =>
    (
      if e30.2.2.1 = 0 then (
        some (v8, v9, v10)
      ) else (
        let_v (v8 + (1 : Int32)) fun v31 =>
        let_v ((v9 ||| e30.2.1)) fun v32 =>
        let_v ((v10 &&& e30.2.1)) fun v33 =>
        some (v31, v32, v33)
      )
    ).bind fun q34 =>
    let_v (v11 + (1 : Int32)) fun v35 =>
    some (Sum.inl (q34.1, q34.2.1, q34.2.2, v35))
  )
noncomputable def b_X12_who (a0 : Nat) (x1 : Int32) (M : Me) : Option (Int32) :=
  cP (f_X12_in x1 (0 : Int32) (2 : Int32) M) fun v1 =>
  if v1 = 0 then (
    some (-2 : Int32)
  ) else (
    (lp (fun s => s_X12_who_16 a0 M s.1 s.2) ((1 : Int32), (0 : Int32))).bind fun e7 =>
    (lp (fun s => s_X12_who_47 a0 M e7 s.1 s.2.1 s.2.2.1 s.2.2.2) ((0 : Int32), (0 : Int32), (63 : Int32), (0 : Int32))).bind fun e36 =>
    (
      if x1 = 0 then (
        some e36.1
      ) else (
        if x1 = (1 : Int32) then (
          some e36.2.1
        ) else (
          if e36.1 = 0 then (
            some (0 : Int32)
          ) else (
            some e36.2.2.1
          )
        )
      )
    ).bind fun v37 =>
    some v37
  )
noncomputable def f_X12_who (a0 : Nat) (x1 : Int32) (M : Me) : Option (Int32) := ck M a0 12 (b_X12_who a0 x1 M)
set_option maxRecDepth 20000 in
theorem vb_X12_who (d : Nat) (hd : 2 ≤ d) (a0 : Nat) (x1 : Int32) (M : Me) : V (mX12_who, d, 0, 0) (0, 0) M 0 [some (.ref a0), some (.int x1), none, none, none, none, none, none, none, none, none, none] [] (b_X12_who a0 x1 M) (fun z => some (some (.int z), M)) := by
  unfold b_X12_who
  refine v_iload_n (q := 1) dX12_who_0 rfl rfl rfl ?_
  refine v_iconst (q := 2) dX12_who_1 rfl ic_0 ?_
  refine v_iconst (q := 3) dX12_who_2 rfl ic_2 ?_
  refine v_cPS3 (q := 6) (ct_X12_in (d - 1) (by omega) _ _ _ _) dX12_who_3 rfl cc_X12_81 (by omega) (Nat.le_of_ble_eq_true rfl) ⟨Nat.le_of_ble_eq_true rfl, Nat.le_of_ble_eq_true rfl⟩ (fun v1 => ?_)
  refine v_if_ne (tgt := 12) (q := 9) dX12_who_6 rfl rfl ?_ ?_
  · refine v_iconst (q := 13) dX12_who_12 rfl ic_1 ?_
    refine v_istore_n (q := 14) (loc2 := [some (.ref a0), some (.int x1), some (.int (1 : Int32)), none, none, none, none, none, none, none, none, none]) dX12_who_13 rfl rfl rfl (Nat.le_of_ble_eq_true rfl) rfl ?_
    refine v_iconst (q := 15) dX12_who_14 rfl ic_0 ?_
    refine v_istore_n (q := 16) (loc2 := [some (.ref a0), some (.int x1), some (.int (1 : Int32)), some (.int (0 : Int32)), none, none, none, none, none, none, none, none]) dX12_who_15 rfl rfl rfl (Nat.le_of_ble_eq_true rfl) rfl ?_
    refine v_lps (S := Int32 × Int32) 35 (fun s => M) (fun s => [some (.ref a0), some (.int x1), some (.int s.1), some (.int s.2), none, none, none, none, none, none, none, none]) (fun e7 => M) (fun e7 => [some (.ref a0), some (.int x1), some (.int e7.1), some (.int e7.2), none, none, none, none, none, none, none, none]) (fun e7 => ?_) (fun k K hk hx s => ?_)
    · refine v_iconst (q := 36) dX12_who_35 rfl ic_0 ?_
      refine v_istore_n (q := 37) (loc2 := [some (.ref a0), some (.int x1), some (.int e7.1), some (.int (0 : Int32)), none, none, none, none, none, none, none, none]) dX12_who_36 rfl rfl rfl (Nat.le_of_ble_eq_true rfl) rfl ?_
      refine v_iconst (q := 38) dX12_who_37 rfl ic_0 ?_
      refine v_istore (q := 40) (loc2 := [some (.ref a0), some (.int x1), some (.int e7.1), some (.int (0 : Int32)), some (.int (0 : Int32)), none, none, none, none, none, none, none]) dX12_who_38 rfl rfl (Nat.le_of_ble_eq_true rfl) rfl ?_
      refine v_bipush (q := 42) dX12_who_40 rfl bp_63 ?_
      refine v_istore (q := 44) (loc2 := [some (.ref a0), some (.int x1), some (.int e7.1), some (.int (0 : Int32)), some (.int (0 : Int32)), some (.int (63 : Int32)), none, none, none, none, none, none]) dX12_who_42 rfl rfl (Nat.le_of_ble_eq_true rfl) rfl ?_
      refine v_iconst (q := 45) dX12_who_44 rfl ic_0 ?_
      refine v_istore (q := 47) (loc2 := [some (.ref a0), some (.int x1), some (.int e7.1), some (.int (0 : Int32)), some (.int (0 : Int32)), some (.int (63 : Int32)), some (.int (0 : Int32)), none, none, none, none, none]) dX12_who_45 rfl rfl (Nat.le_of_ble_eq_true rfl) rfl ?_
      refine v_lps (S := Int32 × Int32 × Int32 × Int32) 198 (fun s => M) (fun s => [some (.ref a0), some (.int x1), some (.int e7.1), some (.int s.1), some (.int s.2.1), some (.int s.2.2.1), some (.int s.2.2.2), none, none, none, none, none]) (fun e36 => M) (fun e36 => [some (.ref a0), some (.int x1), some (.int e7.1), some (.int e36.1), some (.int e36.2.1), some (.int e36.2.2.1), some (.int e36.2.2.2), none, none, none, none, none]) (fun e36 => ?_) (fun k K hk hx s => ?_)
      · refine v_iload_n (q := 199) dX12_who_198 rfl rfl rfl ?_
        refine v_join (γ := Int32) 226 (fun v37 => M) (fun v37 => [some (.ref a0), some (.int x1), some (.int e7.1), some (.int e36.1), some (.int e36.2.1), some (.int e36.2.2.1), some (.int e36.2.2.2), none, none, none, none, none]) (fun v37 => [.int v37]) (fun K hK => ?_) (fun v37 => ?_)
        · refine v_if_ne (tgt := 206) (q := 202) dX12_who_199 rfl rfl ?_ ?_
          · refine v_iload_n (q := 207) dX12_who_206 rfl rfl rfl ?_
            refine v_iconst (q := 208) dX12_who_207 rfl ic_1 ?_
            refine v_icmp_ne (tgt := 216) (q := 211) dX12_who_208 rfl rfl ?_ ?_
            · refine v_iload_n (q := 217) dX12_who_216 rfl rfl rfl ?_
              refine v_if_ne (tgt := 224) (q := 220) dX12_who_217 rfl rfl ?_ ?_
              · refine v_iload (q := 226) dX12_who_224 rfl rfl ?_
                exact hK e36.2.2.1
              · refine v_iconst (q := 221) dX12_who_220 rfl ic_0 ?_
                refine v_goto (tgt := 226) dX12_who_221 rfl ?_
                exact hK (0 : Int32)
            · refine v_iload (q := 213) dX12_who_211 rfl rfl ?_
              refine v_goto (tgt := 226) dX12_who_213 rfl ?_
              exact hK e36.2.1
          · refine v_iload_n (q := 203) dX12_who_202 rfl rfl rfl ?_
            refine v_goto (tgt := 226) dX12_who_203 rfl ?_
            exact hK e36.1
        · exact v_iret rfl dX12_who_226 ⟨Nat.le_of_ble_eq_true rfl, Nat.le_of_ble_eq_true rfl⟩ rfl
      · obtain ⟨v8, v9, v10, v11⟩ := s
        show V _ _ M 47 [some (.ref a0), some (.int x1), some (.int e7.1), some (.int v8), some (.int v9), some (.int v10), some (.int v11), none, none, none, none, none] [] (s_X12_who_47 a0 M e7 v8 v9 v10 v11) _
        unfold s_X12_who_47
        refine v_iload (q := 49) dX12_who_47 rfl rfl ?_
        refine v_iload_n (q := 50) dX12_who_49 rfl rfl rfl ?_
        refine v_icmp_ge (tgt := 198) (q := 53) dX12_who_50 rfl rfl ?_ ?_
        · exact v_inr (hx (v8, v9, v10, v11))
        · refine v_iload (q := 55) dX12_who_53 rfl rfl ?_
          refine v_istore (q := 57) (loc2 := [some (.ref a0), some (.int x1), some (.int e7.1), some (.int v8), some (.int v9), some (.int v10), some (.int v11), some (.int v11), none, none, none, none]) dX12_who_55 rfl rfl (Nat.le_of_ble_eq_true rfl) rfl ?_
          refine v_iconst (q := 58) dX12_who_57 rfl ic_0 ?_
          refine v_istore (q := 60) (loc2 := [some (.ref a0), some (.int x1), some (.int e7.1), some (.int v8), some (.int v9), some (.int v10), some (.int v11), some (.int v11), some (.int (0 : Int32)), none, none, none]) dX12_who_58 rfl rfl (Nat.le_of_ble_eq_true rfl) rfl ?_
          refine v_iconst (q := 61) dX12_who_60 rfl ic_1 ?_
          refine v_istore (q := 63) (loc2 := [some (.ref a0), some (.int x1), some (.int e7.1), some (.int v8), some (.int v9), some (.int v10), some (.int v11), some (.int v11), some (.int (0 : Int32)), some (.int (1 : Int32)), none, none]) dX12_who_61 rfl rfl (Nat.le_of_ble_eq_true rfl) rfl ?_
          refine v_iconst (q := 64) dX12_who_63 rfl ic_0 ?_
          refine v_istore (q := 66) (loc2 := [some (.ref a0), some (.int x1), some (.int e7.1), some (.int v8), some (.int v9), some (.int v10), some (.int v11), some (.int v11), some (.int (0 : Int32)), some (.int (1 : Int32)), some (.int (0 : Int32)), none]) dX12_who_64 rfl rfl (Nat.le_of_ble_eq_true rfl) rfl ?_
          refine v_lps (S := Int32 × Int32 × Int32 × Int32) 170 (fun s => M) (fun s => [some (.ref a0), some (.int x1), some (.int e7.1), some (.int v8), some (.int v9), some (.int v10), some (.int v11), some (.int s.1), some (.int s.2.1), some (.int s.2.2.1), some (.int s.2.2.2), none]) (fun e30 => M) (fun e30 => [some (.ref a0), some (.int x1), some (.int e7.1), some (.int v8), some (.int v9), some (.int v10), some (.int v11), some (.int e30.1), some (.int e30.2.1), some (.int e30.2.2.1), some (.int e30.2.2.2), none]) (fun e30 => ?_) (fun k K hk hx s => ?_)
          · refine v_iload (q := 172) dX12_who_170 rfl rfl ?_
            refine v_join (γ := Int32 × Int32 × Int32) 192 (fun q34 => M) (fun q34 => [some (.ref a0), some (.int x1), some (.int e7.1), some (.int q34.1), some (.int q34.2.1), some (.int q34.2.2), some (.int v11), some (.int e30.1), some (.int e30.2.1), some (.int e30.2.2.1), some (.int e30.2.2.2), none]) (fun q34 => []) (fun K hK => ?_) (fun q34 => ?_)
            · refine v_if_eq (tgt := 192) (q := 175) dX12_who_172 rfl rfl ?_ ?_
              · exact hK (v8, v9, v10)
              · refine v_iincL (q := 178) (x := v8) (cst := (1 : Int32)) (f := fun v31 => [some (.ref a0), some (.int x1), some (.int e7.1), some (.int v31), some (.int v9), some (.int v10), some (.int v11), some (.int e30.1), some (.int e30.2.1), some (.int e30.2.2.1), some (.int e30.2.2.2), none]) dX12_who_175 rfl rfl ic_1 rfl (Nat.le_of_ble_eq_true rfl) (fun _ => rfl) (fun v31 => ?_)
                refine v_iload (q := 180) dX12_who_178 rfl rfl ?_
                refine v_iload (q := 182) dX12_who_180 rfl rfl ?_
                refine v_ior (q := 183) dX12_who_182 rfl ?_
                refine v_letI (fun v32 => ?_)
                refine v_istore (q := 185) (loc2 := [some (.ref a0), some (.int x1), some (.int e7.1), some (.int v31), some (.int v32), some (.int v10), some (.int v11), some (.int e30.1), some (.int e30.2.1), some (.int e30.2.2.1), some (.int e30.2.2.2), none]) dX12_who_183 rfl rfl (Nat.le_of_ble_eq_true rfl) rfl ?_
                refine v_iload (q := 187) dX12_who_185 rfl rfl ?_
                refine v_iload (q := 189) dX12_who_187 rfl rfl ?_
                refine v_iand (q := 190) dX12_who_189 rfl ?_
                refine v_letI (fun v33 => ?_)
                refine v_istore (q := 192) (loc2 := [some (.ref a0), some (.int x1), some (.int e7.1), some (.int v31), some (.int v32), some (.int v33), some (.int v11), some (.int e30.1), some (.int e30.2.1), some (.int e30.2.2.1), some (.int e30.2.2.2), none]) dX12_who_190 rfl rfl (Nat.le_of_ble_eq_true rfl) rfl ?_
                exact hK (v31, v32, v33)
            · refine v_iincL (q := 195) (x := v11) (cst := (1 : Int32)) (f := fun v35 => [some (.ref a0), some (.int x1), some (.int e7.1), some (.int q34.1), some (.int q34.2.1), some (.int q34.2.2), some (.int v35), some (.int e30.1), some (.int e30.2.1), some (.int e30.2.2.1), some (.int e30.2.2.2), none]) dX12_who_192 rfl rfl ic_1 rfl (Nat.le_of_ble_eq_true rfl) (fun _ => rfl) (fun v35 => ?_)
              refine v_goto (tgt := 47) dX12_who_195 rfl ?_
              exact v_inl (v_weak (hk (q34.1, q34.2.1, q34.2.2, v35)) ⟨rfl, ⟨rfl, ⟨rfl, ⟨rfl, ⟨rfl, ⟨rfl, ⟨rfl, trivial⟩⟩⟩⟩⟩⟩⟩)
          · obtain ⟨v12, v13, v14, v15⟩ := s
            show V _ _ M 66 [some (.ref a0), some (.int x1), some (.int e7.1), some (.int v8), some (.int v9), some (.int v10), some (.int v11), some (.int v12), some (.int v13), some (.int v14), some (.int v15), none] [] (s_X12_who_66 a0 M v12 v13 v14 v15) _
            unfold s_X12_who_66
            refine v_iload (q := 68) dX12_who_66 rfl rfl ?_
            refine v_aload_n (q := 69) dX12_who_68 rfl rfl rfl ?_
            refine v_getIb (q := 72) dX12_who_69 rfl fg_X12_89 (fun v16 => ?_)
            refine v_icmp_ge (tgt := 170) (q := 75) dX12_who_72 rfl rfl ?_ ?_
            · exact v_inr (hx (v12, v13, v14, v15))
            · refine v_iload (q := 77) dX12_who_75 rfl rfl ?_
              refine v_if_eq (tgt := 170) (q := 80) dX12_who_77 rfl rfl ?_ ?_
              · exact v_inr (hx (v12, v13, v14, v15))
              · refine v_iload (q := 82) dX12_who_80 rfl rfl ?_
                refine v_bipush (q := 84) dX12_who_82 rfl bp_6 ?_
                refine v_iremc (q := 85) dX12_who_84 rfl ne_6 ?_
                refine v_letI (fun v17 => ?_)
                refine v_istore (q := 87) (loc2 := [some (.ref a0), some (.int x1), some (.int e7.1), some (.int v8), some (.int v9), some (.int v10), some (.int v11), some (.int v12), some (.int v13), some (.int v14), some (.int v15), some (.int v17)]) dX12_who_85 rfl rfl (Nat.le_of_ble_eq_true rfl) rfl ?_
                refine v_iload (q := 89) dX12_who_87 rfl rfl ?_
                refine v_bipush (q := 91) dX12_who_89 rfl bp_6 ?_
                refine v_idivc (q := 92) dX12_who_91 rfl ne_6 ?_
                refine v_letI (fun v18 => ?_)
                refine v_istore (q := 94) (loc2 := [some (.ref a0), some (.int x1), some (.int e7.1), some (.int v8), some (.int v9), some (.int v10), some (.int v11), some (.int v18), some (.int v13), some (.int v14), some (.int v15), some (.int v17)]) dX12_who_92 rfl rfl (Nat.le_of_ble_eq_true rfl) rfl ?_
                refine v_aload_n (q := 95) dX12_who_94 rfl rfl rfl ?_
                refine v_iload (q := 97) dX12_who_95 rfl rfl ?_
                refine v_cPV1 (q := 100) (ct_X12_isThere (d - 1) (by omega) _ _ _) dX12_who_97 rfl cc_X12_102 (by omega) (Nat.le_of_ble_eq_true rfl) ⟨Nat.le_of_ble_eq_true rfl, Nat.le_of_ble_eq_true rfl⟩ (fun v19 => ?_)
                refine v_join (γ := Int32) 153 (fun v27 => M) (fun v27 => [some (.ref a0), some (.int x1), some (.int e7.1), some (.int v8), some (.int v9), some (.int v10), some (.int v11), some (.int v18), some (.int v13), some (.int v14), some (.int v15), some (.int v17)]) (fun v27 => [.int v27]) (fun K hK => ?_) (fun v27 => ?_)
                · refine v_if_eq (tgt := 152) (q := 103) dX12_who_100 rfl rfl ?_ ?_
                  · refine v_iconst (q := 153) dX12_who_152 rfl ic_0 ?_
                    exact hK (0 : Int32)
                  · refine v_iload (q := 105) dX12_who_103 rfl rfl ?_
                    refine v_aload_n (q := 106) dX12_who_105 rfl rfl rfl ?_
                    refine v_getRb (q := 109) dX12_who_106 rfl fg_X12_26 (fun o20 => ?_)
                    refine v_iconst (q := 110) dX12_who_109 rfl ic_2 ?_
                    refine v_iload (q := 112) dX12_who_110 rfl rfl ?_
                    refine v_imul (q := 113) dX12_who_112 rfl ?_
                    refine v_iaload (q := 114) dX12_who_113 rfl (fun v21 => ?_)
                    refine v_icmp_eq (tgt := 152) (q := 117) dX12_who_114 rfl rfl ?_ ?_
                    · refine v_iconst (q := 153) dX12_who_152 rfl ic_0 ?_
                      exact hK (0 : Int32)
                    · refine v_aload_n (q := 118) dX12_who_117 rfl rfl rfl ?_
                      refine v_getRb (q := 121) dX12_who_118 rfl fg_X12_20 (fun o22 => ?_)
                      refine v_iload (q := 123) dX12_who_121 rfl rfl ?_
                      refine v_iaload (q := 124) dX12_who_123 rfl (fun v23 => ?_)
                      refine v_aload_n (q := 125) dX12_who_124 rfl rfl rfl ?_
                      refine v_getRb (q := 128) dX12_who_125 rfl fg_X12_26 (fun o24 => ?_)
                      refine v_iconst (q := 129) dX12_who_128 rfl ic_2 ?_
                      refine v_iload (q := 131) dX12_who_129 rfl rfl ?_
                      refine v_imul (q := 132) dX12_who_131 rfl ?_
                      refine v_iconst (q := 133) dX12_who_132 rfl ic_1 ?_
                      refine v_iadd (q := 134) dX12_who_133 rfl ?_
                      refine v_iaload (q := 135) dX12_who_134 rfl (fun v25 => ?_)
                      refine v_icmp_lt (tgt := 152) (q := 138) dX12_who_135 rfl rfl ?_ ?_
                      · refine v_iconst (q := 153) dX12_who_152 rfl ic_0 ?_
                        exact hK (0 : Int32)
                      · refine v_iload (q := 140) dX12_who_138 rfl rfl ?_
                        refine v_iload (q := 142) dX12_who_140 rfl rfl ?_
                        refine v_cPS2 (q := 145) (ct_X12_has (d - 1) (by omega) _ _ _) dX12_who_142 rfl cc_X12_85 (by omega) (Nat.le_of_ble_eq_true rfl) ⟨Nat.le_of_ble_eq_true rfl, Nat.le_of_ble_eq_true rfl⟩ (fun v26 => ?_)
                        refine v_if_ne (tgt := 152) (q := 148) dX12_who_145 rfl rfl ?_ ?_
                        · refine v_iconst (q := 153) dX12_who_152 rfl ic_0 ?_
                          exact hK (0 : Int32)
                        · refine v_iconst (q := 149) dX12_who_148 rfl ic_1 ?_
                          refine v_goto (tgt := 153) dX12_who_149 rfl ?_
                          exact hK (1 : Int32)
                · refine v_istore (q := 155) (loc2 := [some (.ref a0), some (.int x1), some (.int e7.1), some (.int v8), some (.int v9), some (.int v10), some (.int v11), some (.int v18), some (.int v13), some (.int v27), some (.int v15), some (.int v17)]) dX12_who_153 rfl rfl (Nat.le_of_ble_eq_true rfl) rfl ?_
                  refine v_iload (q := 157) dX12_who_155 rfl rfl ?_
                  refine v_iconst (q := 158) dX12_who_157 rfl ic_1 ?_
                  refine v_iload (q := 160) dX12_who_158 rfl rfl ?_
                  refine v_ishl (q := 161) dX12_who_160 rfl ?_
                  refine v_ior (q := 162) dX12_who_161 rfl ?_
                  refine v_letI (fun v28 => ?_)
                  refine v_istore (q := 164) (loc2 := [some (.ref a0), some (.int x1), some (.int e7.1), some (.int v8), some (.int v9), some (.int v10), some (.int v11), some (.int v18), some (.int v28), some (.int v27), some (.int v15), some (.int v17)]) dX12_who_162 rfl rfl (Nat.le_of_ble_eq_true rfl) rfl ?_
                  refine v_iincL (q := 167) (x := v15) (cst := (1 : Int32)) (f := fun v29 => [some (.ref a0), some (.int x1), some (.int e7.1), some (.int v8), some (.int v9), some (.int v10), some (.int v11), some (.int v18), some (.int v28), some (.int v27), some (.int v29), some (.int v17)]) dX12_who_164 rfl rfl ic_1 rfl (Nat.le_of_ble_eq_true rfl) (fun _ => rfl) (fun v29 => ?_)
                  refine v_goto (tgt := 66) dX12_who_167 rfl ?_
                  exact v_inl (v_weak (hk (v18, v28, v27, v29)) ⟨rfl, ⟨rfl, ⟨rfl, ⟨rfl, ⟨rfl, ⟨rfl, ⟨rfl, ⟨rfl, ⟨rfl, ⟨rfl, ⟨rfl, trivial⟩⟩⟩⟩⟩⟩⟩⟩⟩⟩⟩)
    · obtain ⟨v2, v3⟩ := s
      show V _ _ M 16 [some (.ref a0), some (.int x1), some (.int v2), some (.int v3), none, none, none, none, none, none, none, none] [] (s_X12_who_16 a0 M v2 v3) _
      unfold s_X12_who_16
      refine v_iload_n (q := 17) dX12_who_16 rfl rfl rfl ?_
      refine v_aload_n (q := 18) dX12_who_17 rfl rfl rfl ?_
      refine v_getIb (q := 21) dX12_who_18 rfl fg_X12_89 (fun v4 => ?_)
      refine v_icmp_ge (tgt := 35) (q := 24) dX12_who_21 rfl rfl ?_ ?_
      · exact v_inr (hx (v2, v3))
      · refine v_iload_n (q := 25) dX12_who_24 rfl rfl rfl ?_
        refine v_bipush (q := 27) dX12_who_25 rfl bp_6 ?_
        refine v_imul (q := 28) dX12_who_27 rfl ?_
        refine v_letI (fun v5 => ?_)
        refine v_istore_n (q := 29) (loc2 := [some (.ref a0), some (.int x1), some (.int v5), some (.int v3), none, none, none, none, none, none, none, none]) dX12_who_28 rfl rfl rfl (Nat.le_of_ble_eq_true rfl) rfl ?_
        refine v_iincL (q := 32) (x := v3) (cst := (1 : Int32)) (f := fun v6 => [some (.ref a0), some (.int x1), some (.int v5), some (.int v6), none, none, none, none, none, none, none, none]) dX12_who_29 rfl rfl ic_1 rfl (Nat.le_of_ble_eq_true rfl) (fun _ => rfl) (fun v6 => ?_)
        refine v_goto (tgt := 16) dX12_who_32 rfl ?_
        exact v_inl (hk (v5, v6))
  · refine v_bipush (q := 11) dX12_who_9 rfl bp_m2 ?_
    exact v_iret rfl dX12_who_11 ⟨Nat.le_of_ble_eq_true rfl, Nat.le_of_ble_eq_true rfl⟩ rfl
theorem ct_X12_who (d : Nat) (hd : 2 ≤ d) (a0 : Nat) (x1 : Int32) (M : Me) (r : Int32) (hf : f_X12_who a0 x1 M = some r) : me_k M a0 = some (12, nf_c 12) ∧ Ct yX12_who mX12_who d 0 0 [.ref a0, .int x1] M (some (.int r), M) := by
  obtain ⟨hk, hb⟩ := ck_some hf
  exact ⟨hk, ct_of (by decide +kernel) rfl rfl (Nat.le_of_ble_eq_true rfl) (vb_X12_who d hd a0 x1 M) (by rw [hb]; rfl)⟩

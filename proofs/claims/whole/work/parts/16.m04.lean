theorem dX11_isWithin_0 : decode cX11_isWithin 0 = .ok (.iload_n 0, 1) := by decide +kernel
theorem dX11_isWithin_1 : decode cX11_isWithin 1 = .ok (.iload_n 1, 1) := by decide +kernel
theorem dX11_isWithin_2 : decode cX11_isWithin 2 = .ok (.if_icmp .lt 12, 3) := by decide +kernel
theorem dX11_isWithin_5 : decode cX11_isWithin 5 = .ok (.iload_n 0, 1) := by decide +kernel
theorem dX11_isWithin_6 : decode cX11_isWithin 6 = .ok (.iload_n 2, 1) := by decide +kernel
theorem dX11_isWithin_7 : decode cX11_isWithin 7 = .ok (.if_icmp .gt 7, 3) := by decide +kernel
theorem dX11_isWithin_10 : decode cX11_isWithin 10 = .ok (.iconst 1, 1) := by decide +kernel
theorem dX11_isWithin_11 : decode cX11_isWithin 11 = .ok (.goto 4, 3) := by decide +kernel
theorem dX11_isWithin_14 : decode cX11_isWithin 14 = .ok (.iconst 0, 1) := by decide +kernel
theorem dX11_isWithin_15 : decode cX11_isWithin 15 = .ok (.ireturn, 1) := by decide +kernel
noncomputable def b_X11_isWithin (x0 : Int32) (x1 : Int32) (x2 : Int32) (M : Me) : Option (Int32) :=
  (
    if x0 < x1 then (
      some (0 : Int32)
    ) else (
      if x2 < x0 then (
        some (0 : Int32)
      ) else (
        some (1 : Int32)
      )
    )
  ).bind fun v1 =>
  if v1 = 0 ∨ v1 = 1 then some v1 else none
noncomputable def f_X11_isWithin (x0 : Int32) (x1 : Int32) (x2 : Int32) (M : Me) : Option (Int32) := b_X11_isWithin x0 x1 x2 M
set_option maxRecDepth 20000 in
theorem vb_X11_isWithin (d : Nat) (hd : 0 ≤ d) (x0 : Int32) (x1 : Int32) (x2 : Int32) (M : Me) : V (mX11_isWithin, d, 0, 0) (0, 0) M 0 [some (.int x0), some (.int x1), some (.int x2)] [] (b_X11_isWithin x0 x1 x2 M) (fun z => some (some (.int z), M)) := by
  unfold b_X11_isWithin
  refine v_iload_n (q := 1) dX11_isWithin_0 rfl rfl rfl ?_
  refine v_iload_n (q := 2) dX11_isWithin_1 rfl rfl rfl ?_
  refine v_join (γ := Int32) 15 (fun v1 => M) (fun v1 => [some (.int x0), some (.int x1), some (.int x2)]) (fun v1 => [.int v1]) (fun K hK => ?_) (fun v1 => ?_)
  · refine v_icmp_lt (tgt := 14) (q := 5) dX11_isWithin_2 rfl rfl ?_ ?_
    · refine v_iconst (q := 15) dX11_isWithin_14 rfl ic_0 ?_
      exact hK (0 : Int32)
    · refine v_iload_n (q := 6) dX11_isWithin_5 rfl rfl rfl ?_
      refine v_iload_n (q := 7) dX11_isWithin_6 rfl rfl rfl ?_
      refine v_icmp_gt (tgt := 14) (q := 10) dX11_isWithin_7 rfl rfl ?_ ?_
      · refine v_iconst (q := 15) dX11_isWithin_14 rfl ic_0 ?_
        exact hK (0 : Int32)
      · refine v_iconst (q := 11) dX11_isWithin_10 rfl ic_1 ?_
        refine v_goto (tgt := 15) dX11_isWithin_11 rfl ?_
        exact hK (1 : Int32)
  · exact v_zretC rfl dX11_isWithin_15 ⟨Nat.le_of_ble_eq_true rfl, Nat.le_of_ble_eq_true rfl⟩ rfl
theorem ct_X11_isWithin (d : Nat) (hd : 0 ≤ d) (x0 : Int32) (x1 : Int32) (x2 : Int32) (M : Me) (r : Int32) (hf : f_X11_isWithin x0 x1 x2 M = some r) : Ct yX11_isWithin mX11_isWithin d 0 0 [.int x0, .int x1, .int x2] M (some (.int r), M) := by
  have hb : b_X11_isWithin x0 x1 x2 M = some r := hf
  exact ct_of (by decide +kernel) rfl rfl (Nat.le_of_ble_eq_true rfl) (vb_X11_isWithin d hd x0 x1 x2 M) (by rw [hb]; rfl)
theorem dX6_nextOf_0 : decode cX6_nextOf 0 = .ok (.iconst 0, 1) := by decide +kernel
theorem dX6_nextOf_1 : decode cX6_nextOf 1 = .ok (.istore_n 2, 1) := by decide +kernel
theorem dX6_nextOf_2 : decode cX6_nextOf 2 = .ok (.iconst 0, 1) := by decide +kernel
theorem dX6_nextOf_3 : decode cX6_nextOf 3 = .ok (.istore_n 3, 1) := by decide +kernel
theorem dX6_nextOf_4 : decode cX6_nextOf 4 = .ok (.iload_n 3, 1) := by decide +kernel
theorem dX6_nextOf_5 : decode cX6_nextOf 5 = .ok (.bipush 6, 2) := by decide +kernel
theorem dX6_nextOf_7 : decode cX6_nextOf 7 = .ok (.if_icmp .ge 31, 3) := by decide +kernel
theorem dX6_nextOf_10 : decode cX6_nextOf 10 = .ok (.iload_n 2, 1) := by decide +kernel
theorem dX6_nextOf_11 : decode cX6_nextOf 11 = .ok (.iload_n 1, 1) := by decide +kernel
theorem dX6_nextOf_12 : decode cX6_nextOf 12 = .ok (.iload_n 3, 1) := by decide +kernel
theorem dX6_nextOf_13 : decode cX6_nextOf 13 = .ok (.ishr, 1) := by decide +kernel
theorem dX6_nextOf_14 : decode cX6_nextOf 14 = .ok (.iconst 1, 1) := by decide +kernel
theorem dX6_nextOf_15 : decode cX6_nextOf 15 = .ok (.iand, 1) := by decide +kernel
theorem dX6_nextOf_16 : decode cX6_nextOf 16 = .ok (.iconst 1, 1) := by decide +kernel
theorem dX6_nextOf_17 : decode cX6_nextOf 17 = .ok (.if_icmp .ne 12, 3) := by decide +kernel
theorem dX6_nextOf_20 : decode cX6_nextOf 20 = .ok (.aload_n 0, 1) := by decide +kernel
theorem dX6_nextOf_21 : decode cX6_nextOf 21 = .ok (.getfield 15, 3) := by decide +kernel
theorem dX6_nextOf_24 : decode cX6_nextOf 24 = .ok (.iload_n 3, 1) := by decide +kernel
theorem dX6_nextOf_25 : decode cX6_nextOf 25 = .ok (.iaload, 1) := by decide +kernel
theorem dX6_nextOf_26 : decode cX6_nextOf 26 = .ok (.goto 4, 3) := by decide +kernel
theorem dX6_nextOf_29 : decode cX6_nextOf 29 = .ok (.iconst 0, 1) := by decide +kernel
theorem dX6_nextOf_30 : decode cX6_nextOf 30 = .ok (.ior, 1) := by decide +kernel
theorem dX6_nextOf_31 : decode cX6_nextOf 31 = .ok (.istore_n 2, 1) := by decide +kernel
theorem dX6_nextOf_32 : decode cX6_nextOf 32 = .ok (.iinc 3 1, 3) := by decide +kernel
theorem dX6_nextOf_35 : decode cX6_nextOf 35 = .ok (.goto (-31), 3) := by decide +kernel
theorem dX6_nextOf_38 : decode cX6_nextOf 38 = .ok (.iload_n 2, 1) := by decide +kernel
theorem dX6_nextOf_39 : decode cX6_nextOf 39 = .ok (.ireturn, 1) := by decide +kernel
noncomputable def s_X6_nextOf_4 (a0 : Nat) (x1 : Int32) (M : Me) (v1 : Int32) (v2 : Int32) : Option ((Int32 × Int32) ⊕ (Int32 × Int32)) :=
  if (6 : Int32) ≤ v2 then (
    some (Sum.inr (v1, v2))
  ) else (
    (
      if ((x1 >>> (v2 &&& 31)) &&& (1 : Int32)) = (1 : Int32) then (
        gr M a0 6 1 fun o3 =>
        li M o3 v2 fun v4 =>
        some v4
      ) else (
        some (0 : Int32)
      )
    ).bind fun v5 =>
    let_v ((v1 ||| v5)) fun v6 =>
    let_v (v2 + (1 : Int32)) fun v7 =>
    some (Sum.inl (v6, v7))
  )
noncomputable def b_X6_nextOf (a0 : Nat) (x1 : Int32) (M : Me) : Option (Int32) :=
  (lp (fun s => s_X6_nextOf_4 a0 x1 M s.1 s.2) ((0 : Int32), (0 : Int32))).bind fun e8 =>
  some e8.1
noncomputable def f_X6_nextOf (a0 : Nat) (x1 : Int32) (M : Me) : Option (Int32) := ck M a0 6 (b_X6_nextOf a0 x1 M)
set_option maxRecDepth 20000 in
theorem vb_X6_nextOf (d : Nat) (hd : 0 ≤ d) (a0 : Nat) (x1 : Int32) (M : Me) : V (mX6_nextOf, d, 0, 0) (0, 0) M 0 [some (.ref a0), some (.int x1), none, none] [] (b_X6_nextOf a0 x1 M) (fun z => some (some (.int z), M)) := by
  unfold b_X6_nextOf
  refine v_iconst (q := 1) dX6_nextOf_0 rfl ic_0 ?_
  refine v_istore_n (q := 2) (loc2 := [some (.ref a0), some (.int x1), some (.int (0 : Int32)), none]) dX6_nextOf_1 rfl rfl rfl (Nat.le_of_ble_eq_true rfl) rfl ?_
  refine v_iconst (q := 3) dX6_nextOf_2 rfl ic_0 ?_
  refine v_istore_n (q := 4) (loc2 := [some (.ref a0), some (.int x1), some (.int (0 : Int32)), some (.int (0 : Int32))]) dX6_nextOf_3 rfl rfl rfl (Nat.le_of_ble_eq_true rfl) rfl ?_
  refine v_lps (S := Int32 × Int32) 38 (fun s => M) (fun s => [some (.ref a0), some (.int x1), some (.int s.1), some (.int s.2)]) (fun e8 => M) (fun e8 => [some (.ref a0), some (.int x1), some (.int e8.1), some (.int e8.2)]) (fun e8 => ?_) (fun k K hk hx s => ?_)
  · refine v_iload_n (q := 39) dX6_nextOf_38 rfl rfl rfl ?_
    exact v_iret rfl dX6_nextOf_39 ⟨Nat.le_of_ble_eq_true rfl, Nat.le_of_ble_eq_true rfl⟩ rfl
  · obtain ⟨v1, v2⟩ := s
    show V _ _ M 4 [some (.ref a0), some (.int x1), some (.int v1), some (.int v2)] [] (s_X6_nextOf_4 a0 x1 M v1 v2) _
    unfold s_X6_nextOf_4
    refine v_iload_n (q := 5) dX6_nextOf_4 rfl rfl rfl ?_
    refine v_bipush (q := 7) dX6_nextOf_5 rfl bp_6 ?_
    refine v_icmp_ge (tgt := 38) (q := 10) dX6_nextOf_7 rfl rfl ?_ ?_
    · exact v_inr (hx (v1, v2))
    · refine v_iload_n (q := 11) dX6_nextOf_10 rfl rfl rfl ?_
      refine v_iload_n (q := 12) dX6_nextOf_11 rfl rfl rfl ?_
      refine v_iload_n (q := 13) dX6_nextOf_12 rfl rfl rfl ?_
      refine v_ishr (q := 14) dX6_nextOf_13 rfl ?_
      refine v_iconst (q := 15) dX6_nextOf_14 rfl ic_1 ?_
      refine v_iand (q := 16) dX6_nextOf_15 rfl ?_
      refine v_iconst (q := 17) dX6_nextOf_16 rfl ic_1 ?_
      refine v_join (γ := Int32) 30 (fun v5 => M) (fun v5 => [some (.ref a0), some (.int x1), some (.int v1), some (.int v2)]) (fun v5 => [.int v5, .int v1]) (fun K hK => ?_) (fun v5 => ?_)
      · refine v_icmp_ne (tgt := 29) (q := 20) dX6_nextOf_17 rfl rfl ?_ ?_
        · refine v_iconst (q := 30) dX6_nextOf_29 rfl ic_0 ?_
          exact hK (0 : Int32)
        · refine v_aload_n (q := 21) dX6_nextOf_20 rfl rfl rfl ?_
          refine v_getRb (q := 24) dX6_nextOf_21 rfl fg_X6_15 (fun o3 => ?_)
          refine v_iload_n (q := 25) dX6_nextOf_24 rfl rfl rfl ?_
          refine v_iaload (q := 26) dX6_nextOf_25 rfl (fun v4 => ?_)
          refine v_goto (tgt := 30) dX6_nextOf_26 rfl ?_
          exact hK v4
      · refine v_ior (q := 31) dX6_nextOf_30 rfl ?_
        refine v_letI (fun v6 => ?_)
        refine v_istore_n (q := 32) (loc2 := [some (.ref a0), some (.int x1), some (.int v6), some (.int v2)]) dX6_nextOf_31 rfl rfl rfl (Nat.le_of_ble_eq_true rfl) rfl ?_
        refine v_iincL (q := 35) (x := v2) (cst := (1 : Int32)) (f := fun v7 => [some (.ref a0), some (.int x1), some (.int v6), some (.int v7)]) dX6_nextOf_32 rfl rfl ic_1 rfl (Nat.le_of_ble_eq_true rfl) (fun _ => rfl) (fun v7 => ?_)
        refine v_goto (tgt := 4) dX6_nextOf_35 rfl ?_
        exact v_inl (hk (v6, v7))
theorem ct_X6_nextOf (d : Nat) (hd : 0 ≤ d) (a0 : Nat) (x1 : Int32) (M : Me) (r : Int32) (hf : f_X6_nextOf a0 x1 M = some r) : me_k M a0 = some (6, nf_c 6) ∧ Ct yX6_nextOf mX6_nextOf d 0 0 [.ref a0, .int x1] M (some (.int r), M) := by
  obtain ⟨hk, hb⟩ := ck_some hf
  exact ⟨hk, ct_of (by decide +kernel) rfl rfl (Nat.le_of_ble_eq_true rfl) (vb_X6_nextOf d hd a0 x1 M) (by rw [hb]; rfl)⟩
theorem dX6_ringThrough_0 : decode cX6_ringThrough 0 = .ok (.iconst 1, 1) := by decide +kernel
theorem dX6_ringThrough_1 : decode cX6_ringThrough 1 = .ok (.iload_n 1, 1) := by decide +kernel
theorem dX6_ringThrough_2 : decode cX6_ringThrough 2 = .ok (.ishl, 1) := by decide +kernel
theorem dX6_ringThrough_3 : decode cX6_ringThrough 3 = .ok (.istore_n 2, 1) := by decide +kernel
theorem dX6_ringThrough_4 : decode cX6_ringThrough 4 = .ok (.iconst 1, 1) := by decide +kernel
theorem dX6_ringThrough_5 : decode cX6_ringThrough 5 = .ok (.istore_n 3, 1) := by decide +kernel
theorem dX6_ringThrough_6 : decode cX6_ringThrough 6 = .ok (.iload_n 3, 1) := by decide +kernel
theorem dX6_ringThrough_7 : decode cX6_ringThrough 7 = .ok (.bipush 6, 2) := by decide +kernel
theorem dX6_ringThrough_9 : decode cX6_ringThrough 9 = .ok (.if_icmp .gt 26, 3) := by decide +kernel
theorem dX6_ringThrough_12 : decode cX6_ringThrough 12 = .ok (.aload_n 0, 1) := by decide +kernel
theorem dX6_ringThrough_13 : decode cX6_ringThrough 13 = .ok (.iload_n 2, 1) := by decide +kernel
theorem dX6_ringThrough_14 : decode cX6_ringThrough 14 = .ok (.invokevirtual 66, 3) := by decide +kernel
theorem dX6_ringThrough_17 : decode cX6_ringThrough 17 = .ok (.istore_n 2, 1) := by decide +kernel
theorem dX6_ringThrough_18 : decode cX6_ringThrough 18 = .ok (.iload_n 2, 1) := by decide +kernel
theorem dX6_ringThrough_19 : decode cX6_ringThrough 19 = .ok (.iload_n 1, 1) := by decide +kernel
theorem dX6_ringThrough_20 : decode cX6_ringThrough 20 = .ok (.ishr, 1) := by decide +kernel
theorem dX6_ringThrough_21 : decode cX6_ringThrough 21 = .ok (.iconst 1, 1) := by decide +kernel
theorem dX6_ringThrough_22 : decode cX6_ringThrough 22 = .ok (.iand, 1) := by decide +kernel
theorem dX6_ringThrough_23 : decode cX6_ringThrough 23 = .ok (.iconst 1, 1) := by decide +kernel
theorem dX6_ringThrough_24 : decode cX6_ringThrough 24 = .ok (.if_icmp .ne 5, 3) := by decide +kernel
theorem dX6_ringThrough_27 : decode cX6_ringThrough 27 = .ok (.iload_n 3, 1) := by decide +kernel
theorem dX6_ringThrough_28 : decode cX6_ringThrough 28 = .ok (.ireturn, 1) := by decide +kernel
theorem dX6_ringThrough_29 : decode cX6_ringThrough 29 = .ok (.iinc 3 1, 3) := by decide +kernel
theorem dX6_ringThrough_32 : decode cX6_ringThrough 32 = .ok (.goto (-26), 3) := by decide +kernel
theorem dX6_ringThrough_35 : decode cX6_ringThrough 35 = .ok (.bipush 7, 2) := by decide +kernel
theorem dX6_ringThrough_37 : decode cX6_ringThrough 37 = .ok (.ireturn, 1) := by decide +kernel
noncomputable def s_X6_ringThrough_6 (a0 : Nat) (x1 : Int32) (M : Me) (v2 : Int32) (v3 : Int32) : Option ((Int32 × Int32) ⊕ ((Int32 × Int32) ⊕ (Int32))) :=
  if (6 : Int32) < v3 then (
    some (Sum.inr (Sum.inl (v2, v3)))
  ) else (
    cP (f_X6_nextOf a0 v2 M) fun v4 =>
    if ((v4 >>> (x1 &&& 31)) &&& (1 : Int32)) = (1 : Int32) then (
      some (Sum.inr (Sum.inr v3))
    ) else (
      let_v (v3 + (1 : Int32)) fun v5 =>
      some (Sum.inl (v4, v5))
    )
  )
noncomputable def b_X6_ringThrough (a0 : Nat) (x1 : Int32) (M : Me) : Option (Int32) :=
  let_v (((1 : Int32) <<< (x1 &&& 31))) fun v1 =>
  ex_r (lp (fun s => s_X6_ringThrough_6 a0 x1 M s.1 s.2) (v1, (1 : Int32))) (fun e6 =>
    some (7 : Int32)
  ) (fun t => some t)
noncomputable def f_X6_ringThrough (a0 : Nat) (x1 : Int32) (M : Me) : Option (Int32) := ck M a0 6 (b_X6_ringThrough a0 x1 M)
set_option maxRecDepth 20000 in
theorem vb_X6_ringThrough (d : Nat) (hd : 1 ≤ d) (a0 : Nat) (x1 : Int32) (M : Me) : V (mX6_ringThrough, d, 0, 0) (0, 0) M 0 [some (.ref a0), some (.int x1), none, none] [] (b_X6_ringThrough a0 x1 M) (fun z => some (some (.int z), M)) := by
  unfold b_X6_ringThrough
  refine v_iconst (q := 1) dX6_ringThrough_0 rfl ic_1 ?_
  refine v_iload_n (q := 2) dX6_ringThrough_1 rfl rfl rfl ?_
  refine v_ishl (q := 3) dX6_ringThrough_2 rfl ?_
  refine v_letI (fun v1 => ?_)
  refine v_istore_n (q := 4) (loc2 := [some (.ref a0), some (.int x1), some (.int v1), none]) dX6_ringThrough_3 rfl rfl rfl (Nat.le_of_ble_eq_true rfl) rfl ?_
  refine v_iconst (q := 5) dX6_ringThrough_4 rfl ic_1 ?_
  refine v_istore_n (q := 6) (loc2 := [some (.ref a0), some (.int x1), some (.int v1), some (.int (1 : Int32))]) dX6_ringThrough_5 rfl rfl rfl (Nat.le_of_ble_eq_true rfl) rfl ?_
  refine v_lpr (S := Int32 × Int32) 35 (fun s => M) (fun s => [some (.ref a0), some (.int x1), some (.int s.1), some (.int s.2)]) (fun e6 => M) (fun e6 => [some (.ref a0), some (.int x1), some (.int e6.1), some (.int e6.2)]) (fun e6 => ?_) (fun k K hk hx s => ?_)
  · refine v_bipush (q := 37) dX6_ringThrough_35 rfl bp_7 ?_
    exact v_iret rfl dX6_ringThrough_37 ⟨Nat.le_of_ble_eq_true rfl, Nat.le_of_ble_eq_true rfl⟩ rfl
  · obtain ⟨v2, v3⟩ := s
    show V _ _ M 6 [some (.ref a0), some (.int x1), some (.int v2), some (.int v3)] [] (s_X6_ringThrough_6 a0 x1 M v2 v3) _
    unfold s_X6_ringThrough_6
    refine v_iload_n (q := 7) dX6_ringThrough_6 rfl rfl rfl ?_
    refine v_bipush (q := 9) dX6_ringThrough_7 rfl bp_6 ?_
    refine v_icmp_gt (tgt := 35) (q := 12) dX6_ringThrough_9 rfl rfl ?_ ?_
    · exact v_inr (v_sml (hx (v2, v3)))
    · refine v_aload_n (q := 13) dX6_ringThrough_12 rfl rfl rfl ?_
      refine v_iload_n (q := 14) dX6_ringThrough_13 rfl rfl rfl ?_
      refine v_cPV1 (q := 17) (ct_X6_nextOf (d - 1) (by omega) _ _ _) dX6_ringThrough_14 rfl cc_X6_66 (by omega) (Nat.le_of_ble_eq_true rfl) ⟨Nat.le_of_ble_eq_true rfl, Nat.le_of_ble_eq_true rfl⟩ (fun v4 => ?_)
      refine v_istore_n (q := 18) (loc2 := [some (.ref a0), some (.int x1), some (.int v4), some (.int v3)]) dX6_ringThrough_17 rfl rfl rfl (Nat.le_of_ble_eq_true rfl) rfl ?_
      refine v_iload_n (q := 19) dX6_ringThrough_18 rfl rfl rfl ?_
      refine v_iload_n (q := 20) dX6_ringThrough_19 rfl rfl rfl ?_
      refine v_ishr (q := 21) dX6_ringThrough_20 rfl ?_
      refine v_iconst (q := 22) dX6_ringThrough_21 rfl ic_1 ?_
      refine v_iand (q := 23) dX6_ringThrough_22 rfl ?_
      refine v_iconst (q := 24) dX6_ringThrough_23 rfl ic_1 ?_
      refine v_icmp_ne (tgt := 29) (q := 27) dX6_ringThrough_24 rfl rfl ?_ ?_
      · refine v_iincL (q := 32) (x := v3) (cst := (1 : Int32)) (f := fun v5 => [some (.ref a0), some (.int x1), some (.int v4), some (.int v5)]) dX6_ringThrough_29 rfl rfl ic_1 rfl (Nat.le_of_ble_eq_true rfl) (fun _ => rfl) (fun v5 => ?_)
        refine v_goto (tgt := 6) dX6_ringThrough_32 rfl ?_
        exact v_inl (hk (v4, v5))
      · refine v_iload_n (q := 28) dX6_ringThrough_27 rfl rfl rfl ?_
        exact v_iret rfl dX6_ringThrough_28 ⟨Nat.le_of_ble_eq_true rfl, Nat.le_of_ble_eq_true rfl⟩ rfl
theorem ct_X6_ringThrough (d : Nat) (hd : 1 ≤ d) (a0 : Nat) (x1 : Int32) (M : Me) (r : Int32) (hf : f_X6_ringThrough a0 x1 M = some r) : me_k M a0 = some (6, nf_c 6) ∧ Ct yX6_ringThrough mX6_ringThrough d 0 0 [.ref a0, .int x1] M (some (.int r), M) := by
  obtain ⟨hk, hb⟩ := ck_some hf
  exact ⟨hk, ct_of (by decide +kernel) rfl rfl (Nat.le_of_ble_eq_true rfl) (vb_X6_ringThrough d hd a0 x1 M) (by rw [hb]; rfl)⟩
theorem dX6_shortestRing_0 : decode cX6_shortestRing 0 = .ok (.aload_n 0, 1) := by decide +kernel
theorem dX6_shortestRing_1 : decode cX6_shortestRing 1 = .ok (.getfield 15, 3) := by decide +kernel
theorem dX6_shortestRing_4 : decode cX6_shortestRing 4 = .ok (.iconst 0, 1) := by decide +kernel
theorem dX6_shortestRing_5 : decode cX6_shortestRing 5 = .ok (.invokestatic 49, 3) := by decide +kernel
theorem dX6_shortestRing_8 : decode cX6_shortestRing 8 = .ok (.iconst 0, 1) := by decide +kernel
theorem dX6_shortestRing_9 : decode cX6_shortestRing 9 = .ok (.istore_n 2, 1) := by decide +kernel
theorem dX6_shortestRing_10 : decode cX6_shortestRing 10 = .ok (.iload_n 2, 1) := by decide +kernel
theorem dX6_shortestRing_11 : decode cX6_shortestRing 11 = .ok (.bipush 12, 2) := by decide +kernel
theorem dX6_shortestRing_13 : decode cX6_shortestRing 13 = .ok (.if_icmp .ge 62, 3) := by decide +kernel
theorem dX6_shortestRing_16 : decode cX6_shortestRing 16 = .ok (.iload_n 2, 1) := by decide +kernel
theorem dX6_shortestRing_17 : decode cX6_shortestRing 17 = .ok (.aload_n 1, 1) := by decide +kernel
theorem dX6_shortestRing_18 : decode cX6_shortestRing 18 = .ok (.getfield 28, 3) := by decide +kernel
theorem dX6_shortestRing_21 : decode cX6_shortestRing 21 = .ok (.if_icmp .ge 54, 3) := by decide +kernel
theorem dX6_shortestRing_24 : decode cX6_shortestRing 24 = .ok (.aload_n 1, 1) := by decide +kernel
theorem dX6_shortestRing_25 : decode cX6_shortestRing 25 = .ok (.getfield 34, 3) := by decide +kernel
theorem dX6_shortestRing_28 : decode cX6_shortestRing 28 = .ok (.iload_n 2, 1) := by decide +kernel
theorem dX6_shortestRing_29 : decode cX6_shortestRing 29 = .ok (.aaload, 1) := by decide +kernel
theorem dX6_shortestRing_30 : decode cX6_shortestRing 30 = .ok (.getfield 38, 3) := by decide +kernel
theorem dX6_shortestRing_33 : decode cX6_shortestRing 33 = .ok (.iconst 0, 1) := by decide +kernel
theorem dX6_shortestRing_34 : decode cX6_shortestRing 34 = .ok (.iconst 5, 1) := by decide +kernel
theorem dX6_shortestRing_35 : decode cX6_shortestRing 35 = .ok (.invokestatic 55, 3) := by decide +kernel
theorem dX6_shortestRing_38 : decode cX6_shortestRing 38 = .ok (.ifCond .eq 31, 3) := by decide +kernel
theorem dX6_shortestRing_41 : decode cX6_shortestRing 41 = .ok (.aload_n 0, 1) := by decide +kernel
theorem dX6_shortestRing_42 : decode cX6_shortestRing 42 = .ok (.getfield 15, 3) := by decide +kernel
theorem dX6_shortestRing_45 : decode cX6_shortestRing 45 = .ok (.aload_n 1, 1) := by decide +kernel
theorem dX6_shortestRing_46 : decode cX6_shortestRing 46 = .ok (.getfield 34, 3) := by decide +kernel
theorem dX6_shortestRing_49 : decode cX6_shortestRing 49 = .ok (.iload_n 2, 1) := by decide +kernel
theorem dX6_shortestRing_50 : decode cX6_shortestRing 50 = .ok (.aaload, 1) := by decide +kernel
theorem dX6_shortestRing_51 : decode cX6_shortestRing 51 = .ok (.getfield 38, 3) := by decide +kernel
theorem dX6_shortestRing_54 : decode cX6_shortestRing 54 = .ok (.dup2, 1) := by decide +kernel
theorem dX6_shortestRing_55 : decode cX6_shortestRing 55 = .ok (.iaload, 1) := by decide +kernel
theorem dX6_shortestRing_56 : decode cX6_shortestRing 56 = .ok (.iconst 1, 1) := by decide +kernel
theorem dX6_shortestRing_57 : decode cX6_shortestRing 57 = .ok (.aload_n 1, 1) := by decide +kernel
theorem dX6_shortestRing_58 : decode cX6_shortestRing 58 = .ok (.getfield 34, 3) := by decide +kernel
theorem dX6_shortestRing_61 : decode cX6_shortestRing 61 = .ok (.iload_n 2, 1) := by decide +kernel
theorem dX6_shortestRing_62 : decode cX6_shortestRing 62 = .ok (.aaload, 1) := by decide +kernel
theorem dX6_shortestRing_63 : decode cX6_shortestRing 63 = .ok (.getfield 46, 3) := by decide +kernel
theorem dX6_shortestRing_66 : decode cX6_shortestRing 66 = .ok (.ishl, 1) := by decide +kernel
theorem dX6_shortestRing_67 : decode cX6_shortestRing 67 = .ok (.ior, 1) := by decide +kernel
theorem dX6_shortestRing_68 : decode cX6_shortestRing 68 = .ok (.iastore, 1) := by decide +kernel
theorem dX6_shortestRing_69 : decode cX6_shortestRing 69 = .ok (.iinc 2 1, 3) := by decide +kernel
theorem dX6_shortestRing_72 : decode cX6_shortestRing 72 = .ok (.goto (-62), 3) := by decide +kernel
theorem dX6_shortestRing_75 : decode cX6_shortestRing 75 = .ok (.bipush 7, 2) := by decide +kernel
theorem dX6_shortestRing_77 : decode cX6_shortestRing 77 = .ok (.istore_n 2, 1) := by decide +kernel
theorem dX6_shortestRing_78 : decode cX6_shortestRing 78 = .ok (.iconst 0, 1) := by decide +kernel
theorem dX6_shortestRing_79 : decode cX6_shortestRing 79 = .ok (.istore_n 3, 1) := by decide +kernel
theorem dX6_shortestRing_80 : decode cX6_shortestRing 80 = .ok (.iload_n 3, 1) := by decide +kernel
theorem dX6_shortestRing_81 : decode cX6_shortestRing 81 = .ok (.bipush 6, 2) := by decide +kernel
theorem dX6_shortestRing_83 : decode cX6_shortestRing 83 = .ok (.if_icmp .ge 19, 3) := by decide +kernel
theorem dX6_shortestRing_86 : decode cX6_shortestRing 86 = .ok (.iload_n 2, 1) := by decide +kernel
theorem dX6_shortestRing_87 : decode cX6_shortestRing 87 = .ok (.aload_n 0, 1) := by decide +kernel
theorem dX6_shortestRing_88 : decode cX6_shortestRing 88 = .ok (.iload_n 3, 1) := by decide +kernel
theorem dX6_shortestRing_89 : decode cX6_shortestRing 89 = .ok (.invokevirtual 59, 3) := by decide +kernel
theorem dX6_shortestRing_92 : decode cX6_shortestRing 92 = .ok (.invokestatic 63, 3) := by decide +kernel
theorem dX6_shortestRing_95 : decode cX6_shortestRing 95 = .ok (.istore_n 2, 1) := by decide +kernel
theorem dX6_shortestRing_96 : decode cX6_shortestRing 96 = .ok (.iinc 3 1, 3) := by decide +kernel
theorem dX6_shortestRing_99 : decode cX6_shortestRing 99 = .ok (.goto (-19), 3) := by decide +kernel
theorem dX6_shortestRing_102 : decode cX6_shortestRing 102 = .ok (.iload_n 2, 1) := by decide +kernel
theorem dX6_shortestRing_103 : decode cX6_shortestRing 103 = .ok (.bipush 6, 2) := by decide +kernel
theorem dX6_shortestRing_105 : decode cX6_shortestRing 105 = .ok (.if_icmp .gt 7, 3) := by decide +kernel
theorem dX6_shortestRing_108 : decode cX6_shortestRing 108 = .ok (.iload_n 2, 1) := by decide +kernel
theorem dX6_shortestRing_109 : decode cX6_shortestRing 109 = .ok (.goto 5, 3) := by decide +kernel
theorem dX6_shortestRing_112 : decode cX6_shortestRing 112 = .ok (.bipush (-6), 2) := by decide +kernel
theorem dX6_shortestRing_114 : decode cX6_shortestRing 114 = .ok (.ireturn, 1) := by decide +kernel
noncomputable def s_X6_shortestRing_10 (a0 : Nat) (a1 : Nat) (M3 : Me) (v4 : Int32) : Option ((Me × Int32) ⊕ (Me × Int32)) :=
  if (12 : Int32) ≤ v4 then (
    some (Sum.inr (M3, v4))
  ) else (
    gi M3 a1 2 0 fun v5 =>
    if v5 ≤ v4 then (
      some (Sum.inr (M3, v4))
    ) else (
      gr M3 a1 2 1 fun o6 =>
      lr M3 o6 23 v4 fun o7 =>
      gi M3 o7 1 0 fun v8 =>
      cP (f_X11_isWithin v8 (0 : Int32) (5 : Int32) M3) fun v9 =>
      (
        if v9 = 0 then (
          some M3
        ) else (
          gr M3 a0 6 1 fun o10 =>
          gr M3 a1 2 1 fun o11 =>
          lr M3 o11 23 v4 fun o12 =>
          gi M3 o12 1 0 fun v13 =>
          li M3 o10 v13 fun v14 =>
          gr M3 a1 2 1 fun o15 =>
          lr M3 o15 23 v4 fun o16 =>
          gi M3 o16 1 1 fun v17 =>
          si M3 o10 v13 (v14 ||| ((1 : Int32) <<< (v17 &&& 31))) fun M18 =>
          some M18
        )
      ).bind fun M19 =>
      let_v (v4 + (1 : Int32)) fun v20 =>
      some (Sum.inl (M19, v20))
    )
  )
noncomputable def s_X6_shortestRing_80 (a0 : Nat) (e21 : Me × Int32) (v22 : Int32) (v23 : Int32) : Option ((Int32 × Int32) ⊕ (Int32 × Int32)) :=
  if (6 : Int32) ≤ v23 then (
    some (Sum.inr (v22, v23))
  ) else (
    cP (f_X6_ringThrough a0 v23 e21.1) fun v24 =>
    let_v ((mn_i v22 v24)) fun v25 =>
    let_v (v23 + (1 : Int32)) fun v26 =>
    some (Sum.inl (v25, v26))
  )
noncomputable def b_X6_shortestRing (a0 : Nat) (a1 : Nat) (M : Me) : Option (Int32 × Me) :=
  gr M a0 6 1 fun o1 =>
  cM (f_J7_fill_53178 o1 (0 : Int32) M) fun M2 =>
  (lp (fun s => s_X6_shortestRing_10 a0 a1 s.1 s.2) (M2, (0 : Int32))).bind fun e21 =>
  (lp (fun s => s_X6_shortestRing_80 a0 e21 s.1 s.2) ((7 : Int32), (0 : Int32))).bind fun e27 =>
  (
    if (6 : Int32) < e27.1 then (
      some (-6 : Int32)
    ) else (
      some e27.1
    )
  ).bind fun v28 =>
  some (v28, e21.1)
noncomputable def f_X6_shortestRing (a0 : Nat) (a1 : Nat) (M : Me) : Option (Int32 × Me) := ck M a0 6 (b_X6_shortestRing a0 a1 M)
set_option maxRecDepth 20000 in
theorem vb_X6_shortestRing (d : Nat) (hd : 2 ≤ d) (a0 : Nat) (a1 : Nat) (M : Me) : V (mX6_shortestRing, d, 0, 0) (0, 0) M 0 [some (.ref a0), some (.ref a1), none, none] [] (b_X6_shortestRing a0 a1 M) (fun z => some (some (.int z.1), z.2)) := by
  unfold b_X6_shortestRing
  refine v_aload_n (q := 1) dX6_shortestRing_0 rfl rfl rfl ?_
  refine v_getRb (q := 4) dX6_shortestRing_1 rfl fg_X6_15 (fun o1 => ?_)
  refine v_iconst (q := 5) dX6_shortestRing_4 rfl ic_0 ?_
  refine v_cMS2 (q := 8) (ct_J7_fill_53178 (d - 1) (by omega) _ _ _) dX6_shortestRing_5 rfl cc_X6_49 (by omega) (Nat.le_of_ble_eq_true rfl) ⟨Nat.le_of_ble_eq_true rfl, Nat.le_of_ble_eq_true rfl⟩ (fun M2 => ?_)
  refine v_iconst (q := 9) dX6_shortestRing_8 rfl ic_0 ?_
  refine v_istore_n (q := 10) (loc2 := [some (.ref a0), some (.ref a1), some (.int (0 : Int32)), none]) dX6_shortestRing_9 rfl rfl rfl (Nat.le_of_ble_eq_true rfl) rfl ?_
  refine v_lps (S := Me × Int32) 75 (fun s => s.1) (fun s => [some (.ref a0), some (.ref a1), some (.int s.2), none]) (fun e21 => e21.1) (fun e21 => [some (.ref a0), some (.ref a1), some (.int e21.2), none]) (fun e21 => ?_) (fun k K hk hx s => ?_)
  · refine v_bipush (q := 77) dX6_shortestRing_75 rfl bp_7 ?_
    refine v_istore_n (q := 78) (loc2 := [some (.ref a0), some (.ref a1), some (.int (7 : Int32)), none]) dX6_shortestRing_77 rfl rfl rfl (Nat.le_of_ble_eq_true rfl) rfl ?_
    refine v_iconst (q := 79) dX6_shortestRing_78 rfl ic_0 ?_
    refine v_istore_n (q := 80) (loc2 := [some (.ref a0), some (.ref a1), some (.int (7 : Int32)), some (.int (0 : Int32))]) dX6_shortestRing_79 rfl rfl rfl (Nat.le_of_ble_eq_true rfl) rfl ?_
    refine v_lps (S := Int32 × Int32) 102 (fun s => e21.1) (fun s => [some (.ref a0), some (.ref a1), some (.int s.1), some (.int s.2)]) (fun e27 => e21.1) (fun e27 => [some (.ref a0), some (.ref a1), some (.int e27.1), some (.int e27.2)]) (fun e27 => ?_) (fun k K hk hx s => ?_)
    · refine v_iload_n (q := 103) dX6_shortestRing_102 rfl rfl rfl ?_
      refine v_bipush (q := 105) dX6_shortestRing_103 rfl bp_6 ?_
      refine v_join (γ := Int32) 114 (fun v28 => e21.1) (fun v28 => [some (.ref a0), some (.ref a1), some (.int e27.1), some (.int e27.2)]) (fun v28 => [.int v28]) (fun K hK => ?_) (fun v28 => ?_)
      · refine v_icmp_gt (tgt := 112) (q := 108) dX6_shortestRing_105 rfl rfl ?_ ?_
        · refine v_bipush (q := 114) dX6_shortestRing_112 rfl bp_m6 ?_
          exact hK (-6 : Int32)
        · refine v_iload_n (q := 109) dX6_shortestRing_108 rfl rfl rfl ?_
          refine v_goto (tgt := 114) dX6_shortestRing_109 rfl ?_
          exact hK e27.1
      · exact v_iret rfl dX6_shortestRing_114 ⟨Nat.le_of_ble_eq_true rfl, Nat.le_of_ble_eq_true rfl⟩ rfl
    · obtain ⟨v22, v23⟩ := s
      show V _ _ e21.1 80 [some (.ref a0), some (.ref a1), some (.int v22), some (.int v23)] [] (s_X6_shortestRing_80 a0 e21 v22 v23) _
      unfold s_X6_shortestRing_80
      refine v_iload_n (q := 81) dX6_shortestRing_80 rfl rfl rfl ?_
      refine v_bipush (q := 83) dX6_shortestRing_81 rfl bp_6 ?_
      refine v_icmp_ge (tgt := 102) (q := 86) dX6_shortestRing_83 rfl rfl ?_ ?_
      · exact v_inr (hx (v22, v23))
      · refine v_iload_n (q := 87) dX6_shortestRing_86 rfl rfl rfl ?_
        refine v_aload_n (q := 88) dX6_shortestRing_87 rfl rfl rfl ?_
        refine v_iload_n (q := 89) dX6_shortestRing_88 rfl rfl rfl ?_
        refine v_cPV1 (q := 92) (ct_X6_ringThrough (d - 1) (by omega) _ _ _) dX6_shortestRing_89 rfl cc_X6_59 (by omega) (Nat.le_of_ble_eq_true rfl) ⟨Nat.le_of_ble_eq_true rfl, Nat.le_of_ble_eq_true rfl⟩ (fun v24 => ?_)
        refine v_mn_i (q := 95) dX6_shortestRing_92 rfl cc_X6_63 (by show 1 ≤ d; omega) (Nat.le_of_ble_eq_true rfl) ⟨Nat.le_of_ble_eq_true rfl, Nat.le_of_ble_eq_true rfl⟩ ?_
        refine v_letI (fun v25 => ?_)
        refine v_istore_n (q := 96) (loc2 := [some (.ref a0), some (.ref a1), some (.int v25), some (.int v23)]) dX6_shortestRing_95 rfl rfl rfl (Nat.le_of_ble_eq_true rfl) rfl ?_
        refine v_iincL (q := 99) (x := v23) (cst := (1 : Int32)) (f := fun v26 => [some (.ref a0), some (.ref a1), some (.int v25), some (.int v26)]) dX6_shortestRing_96 rfl rfl ic_1 rfl (Nat.le_of_ble_eq_true rfl) (fun _ => rfl) (fun v26 => ?_)
        refine v_goto (tgt := 80) dX6_shortestRing_99 rfl ?_
        exact v_inl (hk (v25, v26))
  · obtain ⟨M3, v4⟩ := s
    show V _ _ M3 10 [some (.ref a0), some (.ref a1), some (.int v4), none] [] (s_X6_shortestRing_10 a0 a1 M3 v4) _
    unfold s_X6_shortestRing_10
    refine v_iload_n (q := 11) dX6_shortestRing_10 rfl rfl rfl ?_
    refine v_bipush (q := 13) dX6_shortestRing_11 rfl bp_12 ?_
    refine v_icmp_ge (tgt := 75) (q := 16) dX6_shortestRing_13 rfl rfl ?_ ?_
    · exact v_inr (hx (M3, v4))
    · refine v_iload_n (q := 17) dX6_shortestRing_16 rfl rfl rfl ?_
      refine v_aload_n (q := 18) dX6_shortestRing_17 rfl rfl rfl ?_
      refine v_getIb (q := 21) dX6_shortestRing_18 rfl fg_X6_28 (fun v5 => ?_)
      refine v_icmp_ge (tgt := 75) (q := 24) dX6_shortestRing_21 rfl rfl ?_ ?_
      · exact v_inr (hx (M3, v4))
      · refine v_aload_n (q := 25) dX6_shortestRing_24 rfl rfl rfl ?_
        refine v_getRb (q := 28) dX6_shortestRing_25 rfl fg_X6_34 (fun o6 => ?_)
        refine v_iload_n (q := 29) dX6_shortestRing_28 rfl rfl rfl ?_
        refine v_aaload (q := 30) (t0 := 3) dX6_shortestRing_29 rfl (Nat.le_of_ble_eq_true rfl) (fun _ => rfl) (fun o7 => ?_)
        refine v_getIb (q := 33) dX6_shortestRing_30 rfl fg_X6_38 (fun v8 => ?_)
        refine v_iconst (q := 34) dX6_shortestRing_33 rfl ic_0 ?_
        refine v_iconst (q := 35) dX6_shortestRing_34 rfl ic_5 ?_
        refine v_cPS3 (q := 38) (ct_X11_isWithin (d - 1) (by omega) _ _ _ _) dX6_shortestRing_35 rfl cc_X6_55 (by omega) (Nat.le_of_ble_eq_true rfl) ⟨Nat.le_of_ble_eq_true rfl, Nat.le_of_ble_eq_true rfl⟩ (fun v9 => ?_)
        refine v_join (γ := Me) 69 (fun M19 => M19) (fun M19 => [some (.ref a0), some (.ref a1), some (.int v4), none]) (fun M19 => []) (fun K hK => ?_) (fun M19 => ?_)
        · refine v_if_eq (tgt := 69) (q := 41) dX6_shortestRing_38 rfl rfl ?_ ?_
          · exact hK M3
          · refine v_aload_n (q := 42) dX6_shortestRing_41 rfl rfl rfl ?_
            refine v_getRb (q := 45) dX6_shortestRing_42 rfl fg_X6_15 (fun o10 => ?_)
            refine v_aload_n (q := 46) dX6_shortestRing_45 rfl rfl rfl ?_
            refine v_getRb (q := 49) dX6_shortestRing_46 rfl fg_X6_34 (fun o11 => ?_)
            refine v_iload_n (q := 50) dX6_shortestRing_49 rfl rfl rfl ?_
            refine v_aaload (q := 51) (t0 := 3) dX6_shortestRing_50 rfl (Nat.le_of_ble_eq_true rfl) (fun _ => rfl) (fun o12 => ?_)
            refine v_getIb (q := 54) dX6_shortestRing_51 rfl fg_X6_38 (fun v13 => ?_)
            refine v_dup2 (q := 55) dX6_shortestRing_54 rfl rfl rfl ?_
            refine v_iaload (q := 56) dX6_shortestRing_55 rfl (fun v14 => ?_)
            refine v_iconst (q := 57) dX6_shortestRing_56 rfl ic_1 ?_
            refine v_aload_n (q := 58) dX6_shortestRing_57 rfl rfl rfl ?_
            refine v_getRb (q := 61) dX6_shortestRing_58 rfl fg_X6_34 (fun o15 => ?_)
            refine v_iload_n (q := 62) dX6_shortestRing_61 rfl rfl rfl ?_
            refine v_aaload (q := 63) (t0 := 3) dX6_shortestRing_62 rfl (Nat.le_of_ble_eq_true rfl) (fun _ => rfl) (fun o16 => ?_)
            refine v_getIb (q := 66) dX6_shortestRing_63 rfl fg_X6_46 (fun v17 => ?_)
            refine v_ishl (q := 67) dX6_shortestRing_66 rfl ?_
            refine v_ior (q := 68) dX6_shortestRing_67 rfl ?_
            refine v_iastore (q := 69) dX6_shortestRing_68 rfl (fun M18 => ?_)
            exact hK M18
        · refine v_iincL (q := 72) (x := v4) (cst := (1 : Int32)) (f := fun v20 => [some (.ref a0), some (.ref a1), some (.int v20), none]) dX6_shortestRing_69 rfl rfl ic_1 rfl (Nat.le_of_ble_eq_true rfl) (fun _ => rfl) (fun v20 => ?_)
          refine v_goto (tgt := 10) dX6_shortestRing_72 rfl ?_
          exact v_inl (hk (M19, v20))
theorem ct_X6_shortestRing (d : Nat) (hd : 2 ≤ d) (a0 : Nat) (a1 : Nat) (M : Me) (r : Int32) (M2 : Me) (hf : f_X6_shortestRing a0 a1 M = some (r, M2)) : me_k M a0 = some (6, nf_c 6) ∧ Ct yX6_shortestRing mX6_shortestRing d 0 0 [.ref a0, .ref a1] M (some (.int r), M2) := by
  obtain ⟨hk, hb⟩ := ck_some hf
  exact ⟨hk, ct_of (by decide +kernel) rfl rfl (Nat.le_of_ble_eq_true rfl) (vb_X6_shortestRing d hd a0 a1 M) (by rw [hb]; rfl)⟩
theorem dX7_init_0 : decode cX7_init 0 = .ok (.aload_n 0, 1) := by decide +kernel
theorem dX7_init_1 : decode cX7_init 1 = .ok (.invokespecial 3, 3) := by decide +kernel
theorem dX7_init_4 : decode cX7_init 4 = .ok (.aload_n 0, 1) := by decide +kernel
theorem dX7_init_5 : decode cX7_init 5 = .ok (.bipush 60, 2) := by decide +kernel
theorem dX7_init_7 : decode cX7_init 7 = .ok (.newarray .int, 2) := by decide +kernel
theorem dX7_init_9 : decode cX7_init 9 = .ok (.putfield 9, 3) := by decide +kernel
theorem dX7_init_12 : decode cX7_init 12 = .ok (.return_, 1) := by decide +kernel
noncomputable def b_X7_init (a0 : Nat) (M : Me) : Option (Me) :=
  na M 20 60 fun o1 M2 =>
  pr M2 a0 7 1 o1 fun M3 =>
  some M3
noncomputable def f_X7_init (a0 : Nat) (M : Me) : Option (Me) := b_X7_init a0 M
set_option maxRecDepth 20000 in
theorem vb_X7_init (d : Nat) (hd : 1 ≤ d) (a0 : Nat) (M : Me) : V (mX7_init, d, 1, 60) (0, 0) M 0 [some (.ref a0)] [] (b_X7_init a0 M) (fun M2 => some (none, M2)) := by
  unfold b_X7_init
  refine v_aload_n (q := 1) dX7_init_0 rfl rfl rfl ?_
  refine v_oinit (q := 4) dX7_init_1 rfl cc_X7_3 aw_obj.1 aw_obj.2 (by show 1 ≤ d; omega) rfl ?_
  refine v_aload_n (q := 5) dX7_init_4 rfl rfl rfl ?_
  refine v_bipush (q := 7) dX7_init_5 rfl bp_60 ?_
  refine v_newIU (q := 9) (u2 := (1, 60)) dX7_init_7 rfl aw_int (by decide) (by decide) (Nat.le_of_ble_eq_true rfl) ⟨Nat.le_of_ble_eq_true rfl, Nat.le_of_ble_eq_true rfl⟩ rfl (fun o1 M2 => ?_)
  refine v_putRb (q := 12) dX7_init_9 rfl fp_X7_9 (fun M3 => ?_)
  exact v_vret rfl dX7_init_12 ⟨Nat.le_of_ble_eq_true rfl, Nat.le_of_ble_eq_true rfl⟩ rfl
theorem ct_X7_init (d : Nat) (hd : 1 ≤ d) (a0 : Nat) (M : Me) (r : Me) (hf : f_X7_init a0 M = some r) : Ct yX7_init mX7_init d 1 60 [.ref a0] M (none, r) := by
  have hb : b_X7_init a0 M = some r := hf
  exact ct_of (by decide +kernel) rfl rfl (Nat.le_of_ble_eq_true rfl) (vb_X7_init d hd a0 M) (by rw [hb]; rfl)
theorem dX7_add_0 : decode cX7_add 0 = .ok (.aload_n 0, 1) := by decide +kernel
theorem dX7_add_1 : decode cX7_add 1 = .ok (.getfield 15, 3) := by decide +kernel
theorem dX7_add_4 : decode cX7_add 4 = .ok (.bipush 60, 2) := by decide +kernel
theorem dX7_add_6 : decode cX7_add 6 = .ok (.if_icmp .ge 23, 3) := by decide +kernel
theorem dX7_add_9 : decode cX7_add 9 = .ok (.aload_n 0, 1) := by decide +kernel
theorem dX7_add_10 : decode cX7_add 10 = .ok (.getfield 9, 3) := by decide +kernel
theorem dX7_add_13 : decode cX7_add 13 = .ok (.aload_n 0, 1) := by decide +kernel
theorem dX7_add_14 : decode cX7_add 14 = .ok (.getfield 15, 3) := by decide +kernel
theorem dX7_add_17 : decode cX7_add 17 = .ok (.iload_n 1, 1) := by decide +kernel
theorem dX7_add_18 : decode cX7_add 18 = .ok (.iastore, 1) := by decide +kernel
theorem dX7_add_19 : decode cX7_add 19 = .ok (.aload_n 0, 1) := by decide +kernel
theorem dX7_add_20 : decode cX7_add 20 = .ok (.dup, 1) := by decide +kernel
theorem dX7_add_21 : decode cX7_add 21 = .ok (.getfield 15, 3) := by decide +kernel
theorem dX7_add_24 : decode cX7_add 24 = .ok (.iconst 1, 1) := by decide +kernel
theorem dX7_add_25 : decode cX7_add 25 = .ok (.iadd, 1) := by decide +kernel
theorem dX7_add_26 : decode cX7_add 26 = .ok (.putfield 15, 3) := by decide +kernel
theorem dX7_add_29 : decode cX7_add 29 = .ok (.return_, 1) := by decide +kernel
noncomputable def b_X7_add (a0 : Nat) (x1 : Int32) (M : Me) : Option (Me) :=
  gi M a0 7 0 fun v1 =>
  (
    if (60 : Int32) ≤ v1 then (
      some M
    ) else (
      gr M a0 7 1 fun o2 =>
      gi M a0 7 0 fun v3 =>
      si M o2 v3 x1 fun M4 =>
      gi M4 a0 7 0 fun v5 =>
      pi M4 a0 7 0 (v5 + (1 : Int32)) fun M6 =>
      some M6
    )
  ).bind fun M7 =>
  some M7
noncomputable def f_X7_add (a0 : Nat) (x1 : Int32) (M : Me) : Option (Me) := ck M a0 7 (b_X7_add a0 x1 M)
set_option maxRecDepth 20000 in
theorem vb_X7_add (d : Nat) (hd : 0 ≤ d) (a0 : Nat) (x1 : Int32) (M : Me) : V (mX7_add, d, 0, 0) (0, 0) M 0 [some (.ref a0), some (.int x1)] [] (b_X7_add a0 x1 M) (fun M2 => some (none, M2)) := by
  unfold b_X7_add
  refine v_aload_n (q := 1) dX7_add_0 rfl rfl rfl ?_
  refine v_getIb (q := 4) dX7_add_1 rfl fg_X7_15 (fun v1 => ?_)
  refine v_bipush (q := 6) dX7_add_4 rfl bp_60 ?_
  refine v_join (γ := Me) 29 (fun M7 => M7) (fun M7 => [some (.ref a0), some (.int x1)]) (fun M7 => []) (fun K hK => ?_) (fun M7 => ?_)
  · refine v_icmp_ge (tgt := 29) (q := 9) dX7_add_6 rfl rfl ?_ ?_
    · exact hK M
    · refine v_aload_n (q := 10) dX7_add_9 rfl rfl rfl ?_
      refine v_getRb (q := 13) dX7_add_10 rfl fg_X7_9 (fun o2 => ?_)
      refine v_aload_n (q := 14) dX7_add_13 rfl rfl rfl ?_
      refine v_getIb (q := 17) dX7_add_14 rfl fg_X7_15 (fun v3 => ?_)
      refine v_iload_n (q := 18) dX7_add_17 rfl rfl rfl ?_
      refine v_iastore (q := 19) dX7_add_18 rfl (fun M4 => ?_)
      refine v_aload_n (q := 20) dX7_add_19 rfl rfl rfl ?_
      refine v_dup (q := 21) dX7_add_20 rfl rfl ?_
      refine v_getIb (q := 24) dX7_add_21 rfl fg_X7_15 (fun v5 => ?_)
      refine v_iconst (q := 25) dX7_add_24 rfl ic_1 ?_
      refine v_iadd (q := 26) dX7_add_25 rfl ?_
      refine v_putIb (q := 29) dX7_add_26 rfl fp_X7_15 (fun M6 => ?_)
      exact hK M6
  · exact v_vret rfl dX7_add_29 ⟨Nat.le_of_ble_eq_true rfl, Nat.le_of_ble_eq_true rfl⟩ rfl
theorem ct_X7_add (d : Nat) (hd : 0 ≤ d) (a0 : Nat) (x1 : Int32) (M : Me) (r : Me) (hf : f_X7_add a0 x1 M = some r) : me_k M a0 = some (7, nf_c 7) ∧ Ct yX7_add mX7_add d 0 0 [.ref a0, .int x1] M (none, r) := by
  obtain ⟨hk, hb⟩ := ck_some hf
  exact ⟨hk, ct_of (by decide +kernel) rfl rfl (Nat.le_of_ble_eq_true rfl) (vb_X7_add d hd a0 x1 M) (by rw [hb]; rfl)⟩
theorem dX7_signAt_0 : decode cX7_signAt 0 = .ok (.iload_n 1, 1) := by decide +kernel
theorem dX7_signAt_1 : decode cX7_signAt 1 = .ok (.ifCond .lt 26, 3) := by decide +kernel
theorem dX7_signAt_4 : decode cX7_signAt 4 = .ok (.iload_n 1, 1) := by decide +kernel
theorem dX7_signAt_5 : decode cX7_signAt 5 = .ok (.aload_n 0, 1) := by decide +kernel
theorem dX7_signAt_6 : decode cX7_signAt 6 = .ok (.getfield 15, 3) := by decide +kernel
theorem dX7_signAt_9 : decode cX7_signAt 9 = .ok (.if_icmp .ge 18, 3) := by decide +kernel
theorem dX7_signAt_12 : decode cX7_signAt 12 = .ok (.iload_n 1, 1) := by decide +kernel
theorem dX7_signAt_13 : decode cX7_signAt 13 = .ok (.bipush 60, 2) := by decide +kernel
theorem dX7_signAt_15 : decode cX7_signAt 15 = .ok (.if_icmp .ge 12, 3) := by decide +kernel
theorem dX7_signAt_18 : decode cX7_signAt 18 = .ok (.aload_n 0, 1) := by decide +kernel
theorem dX7_signAt_19 : decode cX7_signAt 19 = .ok (.getfield 9, 3) := by decide +kernel
theorem dX7_signAt_22 : decode cX7_signAt 22 = .ok (.iload_n 1, 1) := by decide +kernel
theorem dX7_signAt_23 : decode cX7_signAt 23 = .ok (.iaload, 1) := by decide +kernel
theorem dX7_signAt_24 : decode cX7_signAt 24 = .ok (.goto 4, 3) := by decide +kernel
theorem dX7_signAt_27 : decode cX7_signAt 27 = .ok (.iconst 0, 1) := by decide +kernel
theorem dX7_signAt_28 : decode cX7_signAt 28 = .ok (.ireturn, 1) := by decide +kernel
noncomputable def b_X7_signAt (a0 : Nat) (x1 : Int32) (M : Me) : Option (Int32) :=
  (
    if x1 < 0 then (
      some (0 : Int32)
    ) else (
      gi M a0 7 0 fun v1 =>
      if v1 ≤ x1 then (
        some (0 : Int32)
      ) else (
        if (60 : Int32) ≤ x1 then (
          some (0 : Int32)
        ) else (
          gr M a0 7 1 fun o2 =>
          li M o2 x1 fun v3 =>
          some v3
        )
      )
    )
  ).bind fun v4 =>
  some v4
noncomputable def f_X7_signAt (a0 : Nat) (x1 : Int32) (M : Me) : Option (Int32) := ck M a0 7 (b_X7_signAt a0 x1 M)
set_option maxRecDepth 20000 in
theorem vb_X7_signAt (d : Nat) (hd : 0 ≤ d) (a0 : Nat) (x1 : Int32) (M : Me) : V (mX7_signAt, d, 0, 0) (0, 0) M 0 [some (.ref a0), some (.int x1)] [] (b_X7_signAt a0 x1 M) (fun z => some (some (.int z), M)) := by
  unfold b_X7_signAt
  refine v_iload_n (q := 1) dX7_signAt_0 rfl rfl rfl ?_
  refine v_join (γ := Int32) 28 (fun v4 => M) (fun v4 => [some (.ref a0), some (.int x1)]) (fun v4 => [.int v4]) (fun K hK => ?_) (fun v4 => ?_)
  · refine v_if_lt (tgt := 27) (q := 4) dX7_signAt_1 rfl rfl ?_ ?_
    · refine v_iconst (q := 28) dX7_signAt_27 rfl ic_0 ?_
      exact hK (0 : Int32)
    · refine v_iload_n (q := 5) dX7_signAt_4 rfl rfl rfl ?_
      refine v_aload_n (q := 6) dX7_signAt_5 rfl rfl rfl ?_
      refine v_getIb (q := 9) dX7_signAt_6 rfl fg_X7_15 (fun v1 => ?_)
      refine v_icmp_ge (tgt := 27) (q := 12) dX7_signAt_9 rfl rfl ?_ ?_
      · refine v_iconst (q := 28) dX7_signAt_27 rfl ic_0 ?_
        exact hK (0 : Int32)
      · refine v_iload_n (q := 13) dX7_signAt_12 rfl rfl rfl ?_
        refine v_bipush (q := 15) dX7_signAt_13 rfl bp_60 ?_
        refine v_icmp_ge (tgt := 27) (q := 18) dX7_signAt_15 rfl rfl ?_ ?_
        · refine v_iconst (q := 28) dX7_signAt_27 rfl ic_0 ?_
          exact hK (0 : Int32)
        · refine v_aload_n (q := 19) dX7_signAt_18 rfl rfl rfl ?_
          refine v_getRb (q := 22) dX7_signAt_19 rfl fg_X7_9 (fun o2 => ?_)
          refine v_iload_n (q := 23) dX7_signAt_22 rfl rfl rfl ?_
          refine v_iaload (q := 24) dX7_signAt_23 rfl (fun v3 => ?_)
          refine v_goto (tgt := 28) dX7_signAt_24 rfl ?_
          exact hK v3
  · exact v_iret rfl dX7_signAt_28 ⟨Nat.le_of_ble_eq_true rfl, Nat.le_of_ble_eq_true rfl⟩ rfl
theorem ct_X7_signAt (d : Nat) (hd : 0 ≤ d) (a0 : Nat) (x1 : Int32) (M : Me) (r : Int32) (hf : f_X7_signAt a0 x1 M = some r) : me_k M a0 = some (7, nf_c 7) ∧ Ct yX7_signAt mX7_signAt d 0 0 [.ref a0, .int x1] M (some (.int r), M) := by
  obtain ⟨hk, hb⟩ := ck_some hf
  exact ⟨hk, ct_of (by decide +kernel) rfl rfl (Nat.le_of_ble_eq_true rfl) (vb_X7_signAt d hd a0 x1 M) (by rw [hb]; rfl)⟩
theorem dX7_numberAt_0 : decode cX7_numberAt 0 = .ok (.bipush 10, 2) := by decide +kernel
theorem dX7_numberAt_2 : decode cX7_numberAt 2 = .ok (.aload_n 0, 1) := by decide +kernel
theorem dX7_numberAt_3 : decode cX7_numberAt 3 = .ok (.iload_n 1, 1) := by decide +kernel
theorem dX7_numberAt_4 : decode cX7_numberAt 4 = .ok (.invokevirtual 19, 3) := by decide +kernel
theorem dX7_numberAt_7 : decode cX7_numberAt 7 = .ok (.bipush 48, 2) := by decide +kernel
theorem dX7_numberAt_9 : decode cX7_numberAt 9 = .ok (.isub, 1) := by decide +kernel
theorem dX7_numberAt_10 : decode cX7_numberAt 10 = .ok (.imul, 1) := by decide +kernel
theorem dX7_numberAt_11 : decode cX7_numberAt 11 = .ok (.aload_n 0, 1) := by decide +kernel
theorem dX7_numberAt_12 : decode cX7_numberAt 12 = .ok (.iload_n 1, 1) := by decide +kernel
theorem dX7_numberAt_13 : decode cX7_numberAt 13 = .ok (.iconst 1, 1) := by decide +kernel
theorem dX7_numberAt_14 : decode cX7_numberAt 14 = .ok (.iadd, 1) := by decide +kernel
theorem dX7_numberAt_15 : decode cX7_numberAt 15 = .ok (.invokevirtual 19, 3) := by decide +kernel
theorem dX7_numberAt_18 : decode cX7_numberAt 18 = .ok (.iadd, 1) := by decide +kernel
theorem dX7_numberAt_19 : decode cX7_numberAt 19 = .ok (.bipush 48, 2) := by decide +kernel
theorem dX7_numberAt_21 : decode cX7_numberAt 21 = .ok (.isub, 1) := by decide +kernel
theorem dX7_numberAt_22 : decode cX7_numberAt 22 = .ok (.ireturn, 1) := by decide +kernel
noncomputable def b_X7_numberAt (a0 : Nat) (x1 : Int32) (M : Me) : Option (Int32) :=
  cP (f_X7_signAt a0 x1 M) fun v1 =>
  cP (f_X7_signAt a0 (x1 + (1 : Int32)) M) fun v2 =>
  some ((((10 : Int32) * (v1 - (48 : Int32))) + v2) - (48 : Int32))
noncomputable def f_X7_numberAt (a0 : Nat) (x1 : Int32) (M : Me) : Option (Int32) := ck M a0 7 (b_X7_numberAt a0 x1 M)
set_option maxRecDepth 20000 in
theorem vb_X7_numberAt (d : Nat) (hd : 1 ≤ d) (a0 : Nat) (x1 : Int32) (M : Me) : V (mX7_numberAt, d, 0, 0) (0, 0) M 0 [some (.ref a0), some (.int x1)] [] (b_X7_numberAt a0 x1 M) (fun z => some (some (.int z), M)) := by
  unfold b_X7_numberAt
  refine v_bipush (q := 2) dX7_numberAt_0 rfl bp_10 ?_
  refine v_aload_n (q := 3) dX7_numberAt_2 rfl rfl rfl ?_
  refine v_iload_n (q := 4) dX7_numberAt_3 rfl rfl rfl ?_
  refine v_cPV1 (q := 7) (ct_X7_signAt (d - 1) (by omega) _ _ _) dX7_numberAt_4 rfl cc_X7_19 (by omega) (Nat.le_of_ble_eq_true rfl) ⟨Nat.le_of_ble_eq_true rfl, Nat.le_of_ble_eq_true rfl⟩ (fun v1 => ?_)
  refine v_bipush (q := 9) dX7_numberAt_7 rfl bp_48 ?_
  refine v_isub (q := 10) dX7_numberAt_9 rfl ?_
  refine v_imul (q := 11) dX7_numberAt_10 rfl ?_
  refine v_aload_n (q := 12) dX7_numberAt_11 rfl rfl rfl ?_
  refine v_iload_n (q := 13) dX7_numberAt_12 rfl rfl rfl ?_
  refine v_iconst (q := 14) dX7_numberAt_13 rfl ic_1 ?_
  refine v_iadd (q := 15) dX7_numberAt_14 rfl ?_
  refine v_cPV1 (q := 18) (ct_X7_signAt (d - 1) (by omega) _ _ _) dX7_numberAt_15 rfl cc_X7_19 (by omega) (Nat.le_of_ble_eq_true rfl) ⟨Nat.le_of_ble_eq_true rfl, Nat.le_of_ble_eq_true rfl⟩ (fun v2 => ?_)
  refine v_iadd (q := 19) dX7_numberAt_18 rfl ?_
  refine v_bipush (q := 21) dX7_numberAt_19 rfl bp_48 ?_
  refine v_isub (q := 22) dX7_numberAt_21 rfl ?_
  exact v_iret rfl dX7_numberAt_22 ⟨Nat.le_of_ble_eq_true rfl, Nat.le_of_ble_eq_true rfl⟩ rfl
theorem ct_X7_numberAt (d : Nat) (hd : 1 ≤ d) (a0 : Nat) (x1 : Int32) (M : Me) (r : Int32) (hf : f_X7_numberAt a0 x1 M = some r) : me_k M a0 = some (7, nf_c 7) ∧ Ct yX7_numberAt mX7_numberAt d 0 0 [.ref a0, .int x1] M (some (.int r), M) := by
  obtain ⟨hk, hb⟩ := ck_some hf
  exact ⟨hk, ct_of (by decide +kernel) rfl rfl (Nat.le_of_ble_eq_true rfl) (vb_X7_numberAt d hd a0 x1 M) (by rw [hb]; rfl)⟩
theorem dX7_daysOf_0 : decode cX7_daysOf 0 = .ok (.iload_n 0, 1) := by decide +kernel
theorem dX7_daysOf_1 : decode cX7_daysOf 1 = .ok (.lookupswitch 43 #[(46, 35), (58, 37), (59, 40)], 35) := by decide +kernel
theorem dX7_daysOf_36 : decode cX7_daysOf 36 = .ok (.iconst 1, 1) := by decide +kernel
theorem dX7_daysOf_37 : decode cX7_daysOf 37 = .ok (.ireturn, 1) := by decide +kernel
theorem dX7_daysOf_38 : decode cX7_daysOf 38 = .ok (.bipush 10, 2) := by decide +kernel
theorem dX7_daysOf_40 : decode cX7_daysOf 40 = .ok (.ireturn, 1) := by decide +kernel
theorem dX7_daysOf_41 : decode cX7_daysOf 41 = .ok (.bipush 100, 2) := by decide +kernel
theorem dX7_daysOf_43 : decode cX7_daysOf 43 = .ok (.ireturn, 1) := by decide +kernel
theorem dX7_daysOf_44 : decode cX7_daysOf 44 = .ok (.iconst 0, 1) := by decide +kernel
theorem dX7_daysOf_45 : decode cX7_daysOf 45 = .ok (.ireturn, 1) := by decide +kernel
noncomputable def b_X7_daysOf (x0 : Int32) (M : Me) : Option (Int32) :=
  if x0 = (46 : Int32) then (
    some (1 : Int32)
  ) else (
    if x0 = (58 : Int32) then (
      some (10 : Int32)
    ) else (
      if x0 = (59 : Int32) then (
        some (100 : Int32)
      ) else (
        some (0 : Int32)
      )
    )
  )
noncomputable def f_X7_daysOf (x0 : Int32) (M : Me) : Option (Int32) := b_X7_daysOf x0 M
set_option maxRecDepth 20000 in
theorem vb_X7_daysOf (d : Nat) (hd : 0 ≤ d) (x0 : Int32) (M : Me) : V (mX7_daysOf, d, 0, 0) (0, 0) M 0 [some (.int x0)] [] (b_X7_daysOf x0 M) (fun z => some (some (.int z), M)) := by
  unfold b_X7_daysOf
  refine v_iload_n (q := 1) dX7_daysOf_0 rfl rfl rfl ?_
  refine v_ite (fun h46 => ?_) (fun h46 => ?_)
  · subst h46; refine v_lkpO (off := 35) (tgt := 36) dX7_daysOf_1 (by decide) (by decide) rfl ?_
    refine v_iconst (q := 37) dX7_daysOf_36 rfl ic_1 ?_
    exact v_iret rfl dX7_daysOf_37 ⟨Nat.le_of_ble_eq_true rfl, Nat.le_of_ble_eq_true rfl⟩ rfl
  · refine v_ite (fun h58 => ?_) (fun h58 => ?_)
    · subst h58; refine v_lkpO (off := 37) (tgt := 38) dX7_daysOf_1 (by decide) (by decide) rfl ?_
      refine v_bipush (q := 40) dX7_daysOf_38 rfl bp_10 ?_
      exact v_iret rfl dX7_daysOf_40 ⟨Nat.le_of_ble_eq_true rfl, Nat.le_of_ble_eq_true rfl⟩ rfl
    · refine v_ite (fun h59 => ?_) (fun h59 => ?_)
      · subst h59; refine v_lkpO (off := 40) (tgt := 41) dX7_daysOf_1 (by decide) (by decide) rfl ?_
        refine v_bipush (q := 43) dX7_daysOf_41 rfl bp_100 ?_
        exact v_iret rfl dX7_daysOf_43 ⟨Nat.le_of_ble_eq_true rfl, Nat.le_of_ble_eq_true rfl⟩ rfl
      · refine v_lkpO (off := 43) (tgt := 44) dX7_daysOf_1 (by decide) (by refine (lv_osw h46 (by decide)).trans ?_; refine (lv_osw h58 (by decide)).trans ?_; refine (lv_osw h59 (by decide)).trans ?_; exact rfl) rfl ?_
        refine v_iconst (q := 45) dX7_daysOf_44 rfl ic_0 ?_
        exact v_iret rfl dX7_daysOf_45 ⟨Nat.le_of_ble_eq_true rfl, Nat.le_of_ble_eq_true rfl⟩ rfl
theorem ct_X7_daysOf (d : Nat) (hd : 0 ≤ d) (x0 : Int32) (M : Me) (r : Int32) (hf : f_X7_daysOf x0 M = some r) : Ct yX7_daysOf mX7_daysOf d 0 0 [.int x0] M (some (.int r), M) := by
  have hb : b_X7_daysOf x0 M = some r := hf
  exact ct_of (by decide +kernel) rfl rfl (Nat.le_of_ble_eq_true rfl) (vb_X7_daysOf d hd x0 M) (by rw [hb]; rfl)
theorem dX7_isLetter_0 : decode cX7_isLetter 0 = .ok (.iload_n 0, 1) := by decide +kernel
theorem dX7_isLetter_1 : decode cX7_isLetter 1 = .ok (.bipush 65, 2) := by decide +kernel
theorem dX7_isLetter_3 : decode cX7_isLetter 3 = .ok (.if_icmp .lt 13, 3) := by decide +kernel
theorem dX7_isLetter_6 : decode cX7_isLetter 6 = .ok (.iload_n 0, 1) := by decide +kernel
theorem dX7_isLetter_7 : decode cX7_isLetter 7 = .ok (.bipush 71, 2) := by decide +kernel
theorem dX7_isLetter_9 : decode cX7_isLetter 9 = .ok (.if_icmp .ge 7, 3) := by decide +kernel
theorem dX7_isLetter_12 : decode cX7_isLetter 12 = .ok (.iconst 1, 1) := by decide +kernel
theorem dX7_isLetter_13 : decode cX7_isLetter 13 = .ok (.goto 4, 3) := by decide +kernel
theorem dX7_isLetter_16 : decode cX7_isLetter 16 = .ok (.iconst 0, 1) := by decide +kernel
theorem dX7_isLetter_17 : decode cX7_isLetter 17 = .ok (.ireturn, 1) := by decide +kernel
noncomputable def b_X7_isLetter (x0 : Int32) (M : Me) : Option (Int32) :=
  (
    if x0 < (65 : Int32) then (
      some (0 : Int32)
    ) else (
      if (71 : Int32) ≤ x0 then (
        some (0 : Int32)
      ) else (
        some (1 : Int32)
      )
    )
  ).bind fun v1 =>
  if v1 = 0 ∨ v1 = 1 then some v1 else none
noncomputable def f_X7_isLetter (x0 : Int32) (M : Me) : Option (Int32) := b_X7_isLetter x0 M
set_option maxRecDepth 20000 in
theorem vb_X7_isLetter (d : Nat) (hd : 0 ≤ d) (x0 : Int32) (M : Me) : V (mX7_isLetter, d, 0, 0) (0, 0) M 0 [some (.int x0)] [] (b_X7_isLetter x0 M) (fun z => some (some (.int z), M)) := by
  unfold b_X7_isLetter
  refine v_iload_n (q := 1) dX7_isLetter_0 rfl rfl rfl ?_
  refine v_bipush (q := 3) dX7_isLetter_1 rfl bp_65 ?_
  refine v_join (γ := Int32) 17 (fun v1 => M) (fun v1 => [some (.int x0)]) (fun v1 => [.int v1]) (fun K hK => ?_) (fun v1 => ?_)
  · refine v_icmp_lt (tgt := 16) (q := 6) dX7_isLetter_3 rfl rfl ?_ ?_
    · refine v_iconst (q := 17) dX7_isLetter_16 rfl ic_0 ?_
      exact hK (0 : Int32)
    · refine v_iload_n (q := 7) dX7_isLetter_6 rfl rfl rfl ?_
      refine v_bipush (q := 9) dX7_isLetter_7 rfl bp_71 ?_
      refine v_icmp_ge (tgt := 16) (q := 12) dX7_isLetter_9 rfl rfl ?_ ?_
      · refine v_iconst (q := 17) dX7_isLetter_16 rfl ic_0 ?_
        exact hK (0 : Int32)
      · refine v_iconst (q := 13) dX7_isLetter_12 rfl ic_1 ?_
        refine v_goto (tgt := 17) dX7_isLetter_13 rfl ?_
        exact hK (1 : Int32)
  · exact v_zretC rfl dX7_isLetter_17 ⟨Nat.le_of_ble_eq_true rfl, Nat.le_of_ble_eq_true rfl⟩ rfl
theorem ct_X7_isLetter (d : Nat) (hd : 0 ≤ d) (x0 : Int32) (M : Me) (r : Int32) (hf : f_X7_isLetter x0 M = some r) : Ct yX7_isLetter mX7_isLetter d 0 0 [.int x0] M (some (.int r), M) := by
  have hb : b_X7_isLetter x0 M = some r := hf
  exact ct_of (by decide +kernel) rfl rfl (Nat.le_of_ble_eq_true rfl) (vb_X7_isLetter d hd x0 M) (by rw [hb]; rfl)
theorem dX7_countGoodDigits_0 : decode cX7_countGoodDigits 0 = .ok (.aload_n 0, 1) := by decide +kernel
theorem dX7_countGoodDigits_1 : decode cX7_countGoodDigits 1 = .ok (.iload_n 1, 1) := by decide +kernel
theorem dX7_countGoodDigits_2 : decode cX7_countGoodDigits 2 = .ok (.invokevirtual 19, 3) := by decide +kernel
theorem dX7_countGoodDigits_5 : decode cX7_countGoodDigits 5 = .ok (.bipush 48, 2) := by decide +kernel
theorem dX7_countGoodDigits_7 : decode cX7_countGoodDigits 7 = .ok (.bipush 50, 2) := by decide +kernel
theorem dX7_countGoodDigits_9 : decode cX7_countGoodDigits 9 = .ok (.invokestatic 40, 3) := by decide +kernel
theorem dX7_countGoodDigits_12 : decode cX7_countGoodDigits 12 = .ok (.ifCond .ne 5, 3) := by decide +kernel
theorem dX7_countGoodDigits_15 : decode cX7_countGoodDigits 15 = .ok (.iconst 0, 1) := by decide +kernel
theorem dX7_countGoodDigits_16 : decode cX7_countGoodDigits 16 = .ok (.ireturn, 1) := by decide +kernel
theorem dX7_countGoodDigits_17 : decode cX7_countGoodDigits 17 = .ok (.aload_n 0, 1) := by decide +kernel
theorem dX7_countGoodDigits_18 : decode cX7_countGoodDigits 18 = .ok (.iload_n 1, 1) := by decide +kernel
theorem dX7_countGoodDigits_19 : decode cX7_countGoodDigits 19 = .ok (.iconst 1, 1) := by decide +kernel
theorem dX7_countGoodDigits_20 : decode cX7_countGoodDigits 20 = .ok (.iadd, 1) := by decide +kernel
theorem dX7_countGoodDigits_21 : decode cX7_countGoodDigits 21 = .ok (.invokevirtual 19, 3) := by decide +kernel
theorem dX7_countGoodDigits_24 : decode cX7_countGoodDigits 24 = .ok (.bipush 48, 2) := by decide +kernel
theorem dX7_countGoodDigits_26 : decode cX7_countGoodDigits 26 = .ok (.bipush 57, 2) := by decide +kernel
theorem dX7_countGoodDigits_28 : decode cX7_countGoodDigits 28 = .ok (.invokestatic 40, 3) := by decide +kernel
theorem dX7_countGoodDigits_31 : decode cX7_countGoodDigits 31 = .ok (.istore_n 2, 1) := by decide +kernel
theorem dX7_countGoodDigits_32 : decode cX7_countGoodDigits 32 = .ok (.iload_n 2, 1) := by decide +kernel
theorem dX7_countGoodDigits_33 : decode cX7_countGoodDigits 33 = .ok (.ifCond .eq 21, 3) := by decide +kernel
theorem dX7_countGoodDigits_36 : decode cX7_countGoodDigits 36 = .ok (.aload_n 0, 1) := by decide +kernel
theorem dX7_countGoodDigits_37 : decode cX7_countGoodDigits 37 = .ok (.iload_n 1, 1) := by decide +kernel
theorem dX7_countGoodDigits_38 : decode cX7_countGoodDigits 38 = .ok (.invokevirtual 44, 3) := by decide +kernel
theorem dX7_countGoodDigits_41 : decode cX7_countGoodDigits 41 = .ok (.iconst 1, 1) := by decide +kernel
theorem dX7_countGoodDigits_42 : decode cX7_countGoodDigits 42 = .ok (.bipush 20, 2) := by decide +kernel
theorem dX7_countGoodDigits_44 : decode cX7_countGoodDigits 44 = .ok (.invokestatic 40, 3) := by decide +kernel
theorem dX7_countGoodDigits_47 : decode cX7_countGoodDigits 47 = .ok (.ifCond .eq 7, 3) := by decide +kernel
theorem dX7_countGoodDigits_50 : decode cX7_countGoodDigits 50 = .ok (.iconst 2, 1) := by decide +kernel
theorem dX7_countGoodDigits_51 : decode cX7_countGoodDigits 51 = .ok (.goto 4, 3) := by decide +kernel
theorem dX7_countGoodDigits_54 : decode cX7_countGoodDigits 54 = .ok (.iconst 1, 1) := by decide +kernel
theorem dX7_countGoodDigits_55 : decode cX7_countGoodDigits 55 = .ok (.ireturn, 1) := by decide +kernel
noncomputable def b_X7_countGoodDigits (a0 : Nat) (x1 : Int32) (M : Me) : Option (Int32) :=
  cP (f_X7_signAt a0 x1 M) fun v1 =>
  cP (f_X11_isWithin v1 (48 : Int32) (50 : Int32) M) fun v2 =>
  if v2 = 0 then (
    some (0 : Int32)
  ) else (
    cP (f_X7_signAt a0 (x1 + (1 : Int32)) M) fun v3 =>
    cP (f_X11_isWithin v3 (48 : Int32) (57 : Int32) M) fun v4 =>
    (
      if v4 = 0 then (
        some (1 : Int32)
      ) else (
        cP (f_X7_numberAt a0 x1 M) fun v5 =>
        cP (f_X11_isWithin v5 (1 : Int32) (20 : Int32) M) fun v6 =>
        if v6 = 0 then (
          some (1 : Int32)
        ) else (
          some (2 : Int32)
        )
      )
    ).bind fun v7 =>
    some v7
  )
noncomputable def f_X7_countGoodDigits (a0 : Nat) (x1 : Int32) (M : Me) : Option (Int32) := ck M a0 7 (b_X7_countGoodDigits a0 x1 M)
set_option maxRecDepth 20000 in
theorem vb_X7_countGoodDigits (d : Nat) (hd : 2 ≤ d) (a0 : Nat) (x1 : Int32) (M : Me) : V (mX7_countGoodDigits, d, 0, 0) (0, 0) M 0 [some (.ref a0), some (.int x1), none] [] (b_X7_countGoodDigits a0 x1 M) (fun z => some (some (.int z), M)) := by
  unfold b_X7_countGoodDigits
  refine v_aload_n (q := 1) dX7_countGoodDigits_0 rfl rfl rfl ?_
  refine v_iload_n (q := 2) dX7_countGoodDigits_1 rfl rfl rfl ?_
  refine v_cPV1 (q := 5) (ct_X7_signAt (d - 1) (by omega) _ _ _) dX7_countGoodDigits_2 rfl cc_X7_19 (by omega) (Nat.le_of_ble_eq_true rfl) ⟨Nat.le_of_ble_eq_true rfl, Nat.le_of_ble_eq_true rfl⟩ (fun v1 => ?_)
  refine v_bipush (q := 7) dX7_countGoodDigits_5 rfl bp_48 ?_
  refine v_bipush (q := 9) dX7_countGoodDigits_7 rfl bp_50 ?_
  refine v_cPS3 (q := 12) (ct_X11_isWithin (d - 1) (by omega) _ _ _ _) dX7_countGoodDigits_9 rfl cc_X7_40 (by omega) (Nat.le_of_ble_eq_true rfl) ⟨Nat.le_of_ble_eq_true rfl, Nat.le_of_ble_eq_true rfl⟩ (fun v2 => ?_)
  refine v_if_ne (tgt := 17) (q := 15) dX7_countGoodDigits_12 rfl rfl ?_ ?_
  · refine v_aload_n (q := 18) dX7_countGoodDigits_17 rfl rfl rfl ?_
    refine v_iload_n (q := 19) dX7_countGoodDigits_18 rfl rfl rfl ?_
    refine v_iconst (q := 20) dX7_countGoodDigits_19 rfl ic_1 ?_
    refine v_iadd (q := 21) dX7_countGoodDigits_20 rfl ?_
    refine v_cPV1 (q := 24) (ct_X7_signAt (d - 1) (by omega) _ _ _) dX7_countGoodDigits_21 rfl cc_X7_19 (by omega) (Nat.le_of_ble_eq_true rfl) ⟨Nat.le_of_ble_eq_true rfl, Nat.le_of_ble_eq_true rfl⟩ (fun v3 => ?_)
    refine v_bipush (q := 26) dX7_countGoodDigits_24 rfl bp_48 ?_
    refine v_bipush (q := 28) dX7_countGoodDigits_26 rfl bp_57 ?_
    refine v_cPS3 (q := 31) (ct_X11_isWithin (d - 1) (by omega) _ _ _ _) dX7_countGoodDigits_28 rfl cc_X7_40 (by omega) (Nat.le_of_ble_eq_true rfl) ⟨Nat.le_of_ble_eq_true rfl, Nat.le_of_ble_eq_true rfl⟩ (fun v4 => ?_)
    refine v_istore_n (q := 32) (loc2 := [some (.ref a0), some (.int x1), some (.int v4)]) dX7_countGoodDigits_31 rfl rfl rfl (Nat.le_of_ble_eq_true rfl) rfl ?_
    refine v_iload_n (q := 33) dX7_countGoodDigits_32 rfl rfl rfl ?_
    refine v_join (γ := Int32) 55 (fun v7 => M) (fun v7 => [some (.ref a0), some (.int x1), some (.int v4)]) (fun v7 => [.int v7]) (fun K hK => ?_) (fun v7 => ?_)
    · refine v_if_eq (tgt := 54) (q := 36) dX7_countGoodDigits_33 rfl rfl ?_ ?_
      · refine v_iconst (q := 55) dX7_countGoodDigits_54 rfl ic_1 ?_
        exact hK (1 : Int32)
      · refine v_aload_n (q := 37) dX7_countGoodDigits_36 rfl rfl rfl ?_
        refine v_iload_n (q := 38) dX7_countGoodDigits_37 rfl rfl rfl ?_
        refine v_cPV1 (q := 41) (ct_X7_numberAt (d - 1) (by omega) _ _ _) dX7_countGoodDigits_38 rfl cc_X7_44 (by omega) (Nat.le_of_ble_eq_true rfl) ⟨Nat.le_of_ble_eq_true rfl, Nat.le_of_ble_eq_true rfl⟩ (fun v5 => ?_)
        refine v_iconst (q := 42) dX7_countGoodDigits_41 rfl ic_1 ?_
        refine v_bipush (q := 44) dX7_countGoodDigits_42 rfl bp_20 ?_
        refine v_cPS3 (q := 47) (ct_X11_isWithin (d - 1) (by omega) _ _ _ _) dX7_countGoodDigits_44 rfl cc_X7_40 (by omega) (Nat.le_of_ble_eq_true rfl) ⟨Nat.le_of_ble_eq_true rfl, Nat.le_of_ble_eq_true rfl⟩ (fun v6 => ?_)
        refine v_if_eq (tgt := 54) (q := 50) dX7_countGoodDigits_47 rfl rfl ?_ ?_
        · refine v_iconst (q := 55) dX7_countGoodDigits_54 rfl ic_1 ?_
          exact hK (1 : Int32)
        · refine v_iconst (q := 51) dX7_countGoodDigits_50 rfl ic_2 ?_
          refine v_goto (tgt := 55) dX7_countGoodDigits_51 rfl ?_
          exact hK (2 : Int32)
    · exact v_iret rfl dX7_countGoodDigits_55 ⟨Nat.le_of_ble_eq_true rfl, Nat.le_of_ble_eq_true rfl⟩ rfl
  · refine v_iconst (q := 16) dX7_countGoodDigits_15 rfl ic_0 ?_
    exact v_iret rfl dX7_countGoodDigits_16 ⟨Nat.le_of_ble_eq_true rfl, Nat.le_of_ble_eq_true rfl⟩ rfl
theorem ct_X7_countGoodDigits (d : Nat) (hd : 2 ≤ d) (a0 : Nat) (x1 : Int32) (M : Me) (r : Int32) (hf : f_X7_countGoodDigits a0 x1 M = some r) : me_k M a0 = some (7, nf_c 7) ∧ Ct yX7_countGoodDigits mX7_countGoodDigits d 0 0 [.ref a0, .int x1] M (some (.int r), M) := by
  obtain ⟨hk, hb⟩ := ck_some hf
  exact ⟨hk, ct_of (by decide +kernel) rfl rfl (Nat.le_of_ble_eq_true rfl) (vb_X7_countGoodDigits d hd a0 x1 M) (by rw [hb]; rfl)⟩
theorem dX7_countGood_0 : decode cX7_countGood 0 = .ok (.aload_n 0, 1) := by decide +kernel
theorem dX7_countGood_1 : decode cX7_countGood 1 = .ok (.iload_n 1, 1) := by decide +kernel
theorem dX7_countGood_2 : decode cX7_countGood 2 = .ok (.invokevirtual 19, 3) := by decide +kernel
theorem dX7_countGood_5 : decode cX7_countGood 5 = .ok (.invokestatic 34, 3) := by decide +kernel
theorem dX7_countGood_8 : decode cX7_countGood 8 = .ok (.ifCond .le 5, 3) := by decide +kernel
theorem dX7_countGood_11 : decode cX7_countGood 11 = .ok (.iconst 1, 1) := by decide +kernel
theorem dX7_countGood_12 : decode cX7_countGood 12 = .ok (.ireturn, 1) := by decide +kernel
theorem dX7_countGood_13 : decode cX7_countGood 13 = .ok (.aload_n 0, 1) := by decide +kernel
theorem dX7_countGood_14 : decode cX7_countGood 14 = .ok (.iload_n 1, 1) := by decide +kernel
theorem dX7_countGood_15 : decode cX7_countGood 15 = .ok (.invokevirtual 19, 3) := by decide +kernel
theorem dX7_countGood_18 : decode cX7_countGood 18 = .ok (.invokestatic 30, 3) := by decide +kernel
theorem dX7_countGood_21 : decode cX7_countGood 21 = .ok (.ifCond .ne 5, 3) := by decide +kernel
theorem dX7_countGood_24 : decode cX7_countGood 24 = .ok (.iconst 0, 1) := by decide +kernel
theorem dX7_countGood_25 : decode cX7_countGood 25 = .ok (.ireturn, 1) := by decide +kernel
theorem dX7_countGood_26 : decode cX7_countGood 26 = .ok (.aload_n 0, 1) := by decide +kernel
theorem dX7_countGood_27 : decode cX7_countGood 27 = .ok (.iload_n 1, 1) := by decide +kernel
theorem dX7_countGood_28 : decode cX7_countGood 28 = .ok (.iconst 1, 1) := by decide +kernel
theorem dX7_countGood_29 : decode cX7_countGood 29 = .ok (.iadd, 1) := by decide +kernel
theorem dX7_countGood_30 : decode cX7_countGood 30 = .ok (.invokevirtual 19, 3) := by decide +kernel
theorem dX7_countGood_33 : decode cX7_countGood 33 = .ok (.istore_n 3, 1) := by decide +kernel
theorem dX7_countGood_34 : decode cX7_countGood 34 = .ok (.iload_n 3, 1) := by decide +kernel
theorem dX7_countGood_35 : decode cX7_countGood 35 = .ok (.invokestatic 30, 3) := by decide +kernel
theorem dX7_countGood_38 : decode cX7_countGood 38 = .ok (.ifCond .eq 13, 3) := by decide +kernel
theorem dX7_countGood_41 : decode cX7_countGood 41 = .ok (.iconst 2, 1) := by decide +kernel
theorem dX7_countGood_42 : decode cX7_countGood 42 = .ok (.aload_n 0, 1) := by decide +kernel
theorem dX7_countGood_43 : decode cX7_countGood 43 = .ok (.iload_n 1, 1) := by decide +kernel
theorem dX7_countGood_44 : decode cX7_countGood 44 = .ok (.iconst 2, 1) := by decide +kernel
theorem dX7_countGood_45 : decode cX7_countGood 45 = .ok (.iadd, 1) := by decide +kernel
theorem dX7_countGood_46 : decode cX7_countGood 46 = .ok (.invokevirtual 37, 3) := by decide +kernel
theorem dX7_countGood_49 : decode cX7_countGood 49 = .ok (.iadd, 1) := by decide +kernel
theorem dX7_countGood_50 : decode cX7_countGood 50 = .ok (.ireturn, 1) := by decide +kernel
theorem dX7_countGood_51 : decode cX7_countGood 51 = .ok (.iload_n 3, 1) := by decide +kernel
theorem dX7_countGood_52 : decode cX7_countGood 52 = .ok (.bipush 48, 2) := by decide +kernel
theorem dX7_countGood_54 : decode cX7_countGood 54 = .ok (.if_icmp .lt 15, 3) := by decide +kernel
theorem dX7_countGood_57 : decode cX7_countGood 57 = .ok (.iload_n 3, 1) := by decide +kernel
theorem dX7_countGood_58 : decode cX7_countGood 58 = .ok (.bipush 48, 2) := by decide +kernel
theorem dX7_countGood_60 : decode cX7_countGood 60 = .ok (.iload_n 2, 1) := by decide +kernel
theorem dX7_countGood_61 : decode cX7_countGood 61 = .ok (.iadd, 1) := by decide +kernel
theorem dX7_countGood_62 : decode cX7_countGood 62 = .ok (.if_icmp .ge 7, 3) := by decide +kernel
theorem dX7_countGood_65 : decode cX7_countGood 65 = .ok (.iconst 1, 1) := by decide +kernel
theorem dX7_countGood_66 : decode cX7_countGood 66 = .ok (.goto 4, 3) := by decide +kernel
theorem dX7_countGood_69 : decode cX7_countGood 69 = .ok (.iconst 0, 1) := by decide +kernel
theorem dX7_countGood_70 : decode cX7_countGood 70 = .ok (.istore 4, 2) := by decide +kernel
theorem dX7_countGood_72 : decode cX7_countGood 72 = .ok (.iload 4, 2) := by decide +kernel
theorem dX7_countGood_74 : decode cX7_countGood 74 = .ok (.ifCond .ne 21, 3) := by decide +kernel
theorem dX7_countGood_77 : decode cX7_countGood 77 = .ok (.iload_n 3, 1) := by decide +kernel
theorem dX7_countGood_78 : decode cX7_countGood 78 = .ok (.bipush 61, 2) := by decide +kernel
theorem dX7_countGood_80 : decode cX7_countGood 80 = .ok (.if_icmp .eq 15, 3) := by decide +kernel
theorem dX7_countGood_83 : decode cX7_countGood 83 = .ok (.iload_n 3, 1) := by decide +kernel
theorem dX7_countGood_84 : decode cX7_countGood 84 = .ok (.bipush 33, 2) := by decide +kernel
theorem dX7_countGood_86 : decode cX7_countGood 86 = .ok (.if_icmp .eq 9, 3) := by decide +kernel
theorem dX7_countGood_89 : decode cX7_countGood 89 = .ok (.iload_n 3, 1) := by decide +kernel
theorem dX7_countGood_90 : decode cX7_countGood 90 = .ok (.bipush 47, 2) := by decide +kernel
theorem dX7_countGood_92 : decode cX7_countGood 92 = .ok (.if_icmp .ne 7, 3) := by decide +kernel
theorem dX7_countGood_95 : decode cX7_countGood 95 = .ok (.iconst 2, 1) := by decide +kernel
theorem dX7_countGood_96 : decode cX7_countGood 96 = .ok (.goto 4, 3) := by decide +kernel
theorem dX7_countGood_99 : decode cX7_countGood 99 = .ok (.iconst 1, 1) := by decide +kernel
theorem dX7_countGood_100 : decode cX7_countGood 100 = .ok (.ireturn, 1) := by decide +kernel
noncomputable def b_X7_countGood (a0 : Nat) (x1 : Int32) (x2 : Int32) (M : Me) : Option (Int32) :=
  cP (f_X7_signAt a0 x1 M) fun v1 =>
  cP (f_X7_daysOf v1 M) fun v2 =>
  if v2 ≤ 0 then (
    cP (f_X7_signAt a0 x1 M) fun v3 =>
    cP (f_X7_isLetter v3 M) fun v4 =>
    if v4 = 0 then (
      some (0 : Int32)
    ) else (
      cP (f_X7_signAt a0 (x1 + (1 : Int32)) M) fun v5 =>
      cP (f_X7_isLetter v5 M) fun v6 =>
      if v6 = 0 then (
        (
          if v5 < (48 : Int32) then (
            some (0 : Int32)
          ) else (
            if ((48 : Int32) + x2) ≤ v5 then (
              some (0 : Int32)
            ) else (
              some (1 : Int32)
            )
          )
        ).bind fun v7 =>
        (
          if v7 = 0 then (
            if v5 = (61 : Int32) then (
              some (2 : Int32)
            ) else (
              if v5 = (33 : Int32) then (
                some (2 : Int32)
              ) else (
                if v5 = (47 : Int32) then (
                  some (2 : Int32)
                ) else (
                  some (1 : Int32)
                )
              )
            )
          ) else (
            some (2 : Int32)
          )
        ).bind fun v8 =>
        some v8
      ) else (
        cP (f_X7_countGoodDigits a0 (x1 + (2 : Int32)) M) fun v9 =>
        some ((2 : Int32) + v9)
      )
    )
  ) else (
    some (1 : Int32)
  )
noncomputable def f_X7_countGood (a0 : Nat) (x1 : Int32) (x2 : Int32) (M : Me) : Option (Int32) := ck M a0 7 (b_X7_countGood a0 x1 x2 M)
set_option maxRecDepth 20000 in
theorem vb_X7_countGood (d : Nat) (hd : 3 ≤ d) (a0 : Nat) (x1 : Int32) (x2 : Int32) (M : Me) : V (mX7_countGood, d, 0, 0) (0, 0) M 0 [some (.ref a0), some (.int x1), some (.int x2), none, none] [] (b_X7_countGood a0 x1 x2 M) (fun z => some (some (.int z), M)) := by
  unfold b_X7_countGood
  refine v_aload_n (q := 1) dX7_countGood_0 rfl rfl rfl ?_
  refine v_iload_n (q := 2) dX7_countGood_1 rfl rfl rfl ?_
  refine v_cPV1 (q := 5) (ct_X7_signAt (d - 1) (by omega) _ _ _) dX7_countGood_2 rfl cc_X7_19 (by omega) (Nat.le_of_ble_eq_true rfl) ⟨Nat.le_of_ble_eq_true rfl, Nat.le_of_ble_eq_true rfl⟩ (fun v1 => ?_)
  refine v_cPS1 (q := 8) (ct_X7_daysOf (d - 1) (by omega) _ _) dX7_countGood_5 rfl cc_X7_34 (by omega) (Nat.le_of_ble_eq_true rfl) ⟨Nat.le_of_ble_eq_true rfl, Nat.le_of_ble_eq_true rfl⟩ (fun v2 => ?_)
  refine v_if_le (tgt := 13) (q := 11) dX7_countGood_8 rfl rfl ?_ ?_
  · refine v_aload_n (q := 14) dX7_countGood_13 rfl rfl rfl ?_
    refine v_iload_n (q := 15) dX7_countGood_14 rfl rfl rfl ?_
    refine v_cPV1 (q := 18) (ct_X7_signAt (d - 1) (by omega) _ _ _) dX7_countGood_15 rfl cc_X7_19 (by omega) (Nat.le_of_ble_eq_true rfl) ⟨Nat.le_of_ble_eq_true rfl, Nat.le_of_ble_eq_true rfl⟩ (fun v3 => ?_)
    refine v_cPS1 (q := 21) (ct_X7_isLetter (d - 1) (by omega) _ _) dX7_countGood_18 rfl cc_X7_30 (by omega) (Nat.le_of_ble_eq_true rfl) ⟨Nat.le_of_ble_eq_true rfl, Nat.le_of_ble_eq_true rfl⟩ (fun v4 => ?_)
    refine v_if_ne (tgt := 26) (q := 24) dX7_countGood_21 rfl rfl ?_ ?_
    · refine v_aload_n (q := 27) dX7_countGood_26 rfl rfl rfl ?_
      refine v_iload_n (q := 28) dX7_countGood_27 rfl rfl rfl ?_
      refine v_iconst (q := 29) dX7_countGood_28 rfl ic_1 ?_
      refine v_iadd (q := 30) dX7_countGood_29 rfl ?_
      refine v_cPV1 (q := 33) (ct_X7_signAt (d - 1) (by omega) _ _ _) dX7_countGood_30 rfl cc_X7_19 (by omega) (Nat.le_of_ble_eq_true rfl) ⟨Nat.le_of_ble_eq_true rfl, Nat.le_of_ble_eq_true rfl⟩ (fun v5 => ?_)
      refine v_istore_n (q := 34) (loc2 := [some (.ref a0), some (.int x1), some (.int x2), some (.int v5), none]) dX7_countGood_33 rfl rfl rfl (Nat.le_of_ble_eq_true rfl) rfl ?_
      refine v_iload_n (q := 35) dX7_countGood_34 rfl rfl rfl ?_
      refine v_cPS1 (q := 38) (ct_X7_isLetter (d - 1) (by omega) _ _) dX7_countGood_35 rfl cc_X7_30 (by omega) (Nat.le_of_ble_eq_true rfl) ⟨Nat.le_of_ble_eq_true rfl, Nat.le_of_ble_eq_true rfl⟩ (fun v6 => ?_)
      refine v_if_eq (tgt := 51) (q := 41) dX7_countGood_38 rfl rfl ?_ ?_
      · refine v_iload_n (q := 52) dX7_countGood_51 rfl rfl rfl ?_
        refine v_bipush (q := 54) dX7_countGood_52 rfl bp_48 ?_
        refine v_join (γ := Int32) 70 (fun v7 => M) (fun v7 => [some (.ref a0), some (.int x1), some (.int x2), some (.int v5), none]) (fun v7 => [.int v7]) (fun K hK => ?_) (fun v7 => ?_)
        · refine v_icmp_lt (tgt := 69) (q := 57) dX7_countGood_54 rfl rfl ?_ ?_
          · refine v_iconst (q := 70) dX7_countGood_69 rfl ic_0 ?_
            exact hK (0 : Int32)
          · refine v_iload_n (q := 58) dX7_countGood_57 rfl rfl rfl ?_
            refine v_bipush (q := 60) dX7_countGood_58 rfl bp_48 ?_
            refine v_iload_n (q := 61) dX7_countGood_60 rfl rfl rfl ?_
            refine v_iadd (q := 62) dX7_countGood_61 rfl ?_
            refine v_icmp_ge (tgt := 69) (q := 65) dX7_countGood_62 rfl rfl ?_ ?_
            · refine v_iconst (q := 70) dX7_countGood_69 rfl ic_0 ?_
              exact hK (0 : Int32)
            · refine v_iconst (q := 66) dX7_countGood_65 rfl ic_1 ?_
              refine v_goto (tgt := 70) dX7_countGood_66 rfl ?_
              exact hK (1 : Int32)
        · refine v_istore (q := 72) (loc2 := [some (.ref a0), some (.int x1), some (.int x2), some (.int v5), some (.int v7)]) dX7_countGood_70 rfl rfl (Nat.le_of_ble_eq_true rfl) rfl ?_
          refine v_iload (q := 74) dX7_countGood_72 rfl rfl ?_
          refine v_join (γ := Int32) 100 (fun v8 => M) (fun v8 => [some (.ref a0), some (.int x1), some (.int x2), some (.int v5), some (.int v7)]) (fun v8 => [.int v8]) (fun K hK => ?_) (fun v8 => ?_)
          · refine v_if_ne (tgt := 95) (q := 77) dX7_countGood_74 rfl rfl ?_ ?_
            · refine v_iconst (q := 96) dX7_countGood_95 rfl ic_2 ?_
              refine v_goto (tgt := 100) dX7_countGood_96 rfl ?_
              exact hK (2 : Int32)
            · refine v_iload_n (q := 78) dX7_countGood_77 rfl rfl rfl ?_
              refine v_bipush (q := 80) dX7_countGood_78 rfl bp_61 ?_
              refine v_icmp_eq (tgt := 95) (q := 83) dX7_countGood_80 rfl rfl ?_ ?_
              · refine v_iconst (q := 96) dX7_countGood_95 rfl ic_2 ?_
                refine v_goto (tgt := 100) dX7_countGood_96 rfl ?_
                exact hK (2 : Int32)
              · refine v_iload_n (q := 84) dX7_countGood_83 rfl rfl rfl ?_
                refine v_bipush (q := 86) dX7_countGood_84 rfl bp_33 ?_
                refine v_icmp_eq (tgt := 95) (q := 89) dX7_countGood_86 rfl rfl ?_ ?_
                · refine v_iconst (q := 96) dX7_countGood_95 rfl ic_2 ?_
                  refine v_goto (tgt := 100) dX7_countGood_96 rfl ?_
                  exact hK (2 : Int32)
                · refine v_iload_n (q := 90) dX7_countGood_89 rfl rfl rfl ?_
                  refine v_bipush (q := 92) dX7_countGood_90 rfl bp_47 ?_
                  refine v_icmp_ne (tgt := 99) (q := 95) dX7_countGood_92 rfl rfl ?_ ?_
                  · refine v_iconst (q := 100) dX7_countGood_99 rfl ic_1 ?_
                    exact hK (1 : Int32)
                  · refine v_iconst (q := 96) dX7_countGood_95 rfl ic_2 ?_
                    refine v_goto (tgt := 100) dX7_countGood_96 rfl ?_
                    exact hK (2 : Int32)
          · exact v_iret rfl dX7_countGood_100 ⟨Nat.le_of_ble_eq_true rfl, Nat.le_of_ble_eq_true rfl⟩ rfl
      · refine v_iconst (q := 42) dX7_countGood_41 rfl ic_2 ?_
        refine v_aload_n (q := 43) dX7_countGood_42 rfl rfl rfl ?_
        refine v_iload_n (q := 44) dX7_countGood_43 rfl rfl rfl ?_
        refine v_iconst (q := 45) dX7_countGood_44 rfl ic_2 ?_
        refine v_iadd (q := 46) dX7_countGood_45 rfl ?_
        refine v_cPV1 (q := 49) (ct_X7_countGoodDigits (d - 1) (by omega) _ _ _) dX7_countGood_46 rfl cc_X7_37 (by omega) (Nat.le_of_ble_eq_true rfl) ⟨Nat.le_of_ble_eq_true rfl, Nat.le_of_ble_eq_true rfl⟩ (fun v9 => ?_)
        refine v_iadd (q := 50) dX7_countGood_49 rfl ?_
        exact v_iret rfl dX7_countGood_50 ⟨Nat.le_of_ble_eq_true rfl, Nat.le_of_ble_eq_true rfl⟩ rfl
    · refine v_iconst (q := 25) dX7_countGood_24 rfl ic_0 ?_
      exact v_iret rfl dX7_countGood_25 ⟨Nat.le_of_ble_eq_true rfl, Nat.le_of_ble_eq_true rfl⟩ rfl
  · refine v_iconst (q := 12) dX7_countGood_11 rfl ic_1 ?_
    exact v_iret rfl dX7_countGood_12 ⟨Nat.le_of_ble_eq_true rfl, Nat.le_of_ble_eq_true rfl⟩ rfl
theorem ct_X7_countGood (d : Nat) (hd : 3 ≤ d) (a0 : Nat) (x1 : Int32) (x2 : Int32) (M : Me) (r : Int32) (hf : f_X7_countGood a0 x1 x2 M = some r) : me_k M a0 = some (7, nf_c 7) ∧ Ct yX7_countGood mX7_countGood d 0 0 [.ref a0, .int x1, .int x2] M (some (.int r), M) := by
  obtain ⟨hk, hb⟩ := ck_some hf
  exact ⟨hk, ct_of (by decide +kernel) rfl rfl (Nat.le_of_ble_eq_true rfl) (vb_X7_countGood d hd a0 x1 x2 M) (by rw [hb]; rfl)⟩
theorem dX7_signsOfAct_0 : decode cX7_signsOfAct 0 = .ok (.aload_n 0, 1) := by decide +kernel
theorem dX7_signsOfAct_1 : decode cX7_signsOfAct 1 = .ok (.iload_n 1, 1) := by decide +kernel
theorem dX7_signsOfAct_2 : decode cX7_signsOfAct 2 = .ok (.invokevirtual 19, 3) := by decide +kernel
theorem dX7_signsOfAct_5 : decode cX7_signsOfAct 5 = .ok (.invokestatic 30, 3) := by decide +kernel
theorem dX7_signsOfAct_8 : decode cX7_signsOfAct 8 = .ok (.ifCond .ne 5, 3) := by decide +kernel
theorem dX7_signsOfAct_11 : decode cX7_signsOfAct 11 = .ok (.iconst 1, 1) := by decide +kernel
theorem dX7_signsOfAct_12 : decode cX7_signsOfAct 12 = .ok (.ireturn, 1) := by decide +kernel
theorem dX7_signsOfAct_13 : decode cX7_signsOfAct 13 = .ok (.aload_n 0, 1) := by decide +kernel
theorem dX7_signsOfAct_14 : decode cX7_signsOfAct 14 = .ok (.iload_n 1, 1) := by decide +kernel
theorem dX7_signsOfAct_15 : decode cX7_signsOfAct 15 = .ok (.iconst 1, 1) := by decide +kernel
theorem dX7_signsOfAct_16 : decode cX7_signsOfAct 16 = .ok (.iadd, 1) := by decide +kernel
theorem dX7_signsOfAct_17 : decode cX7_signsOfAct 17 = .ok (.invokevirtual 19, 3) := by decide +kernel
theorem dX7_signsOfAct_20 : decode cX7_signsOfAct 20 = .ok (.invokestatic 30, 3) := by decide +kernel
theorem dX7_signsOfAct_23 : decode cX7_signsOfAct 23 = .ok (.ifCond .eq 7, 3) := by decide +kernel
theorem dX7_signsOfAct_26 : decode cX7_signsOfAct 26 = .ok (.iconst 4, 1) := by decide +kernel
theorem dX7_signsOfAct_27 : decode cX7_signsOfAct 27 = .ok (.goto 4, 3) := by decide +kernel
theorem dX7_signsOfAct_30 : decode cX7_signsOfAct 30 = .ok (.iconst 2, 1) := by decide +kernel
theorem dX7_signsOfAct_31 : decode cX7_signsOfAct 31 = .ok (.ireturn, 1) := by decide +kernel
noncomputable def b_X7_signsOfAct (a0 : Nat) (x1 : Int32) (M : Me) : Option (Int32) :=
  cP (f_X7_signAt a0 x1 M) fun v1 =>
  cP (f_X7_isLetter v1 M) fun v2 =>
  if v2 = 0 then (
    some (1 : Int32)
  ) else (
    cP (f_X7_signAt a0 (x1 + (1 : Int32)) M) fun v3 =>
    cP (f_X7_isLetter v3 M) fun v4 =>
    (
      if v4 = 0 then (
        some (2 : Int32)
      ) else (
        some (4 : Int32)
      )
    ).bind fun v5 =>
    some v5
  )
noncomputable def f_X7_signsOfAct (a0 : Nat) (x1 : Int32) (M : Me) : Option (Int32) := ck M a0 7 (b_X7_signsOfAct a0 x1 M)
set_option maxRecDepth 20000 in
theorem vb_X7_signsOfAct (d : Nat) (hd : 1 ≤ d) (a0 : Nat) (x1 : Int32) (M : Me) : V (mX7_signsOfAct, d, 0, 0) (0, 0) M 0 [some (.ref a0), some (.int x1)] [] (b_X7_signsOfAct a0 x1 M) (fun z => some (some (.int z), M)) := by
  unfold b_X7_signsOfAct
  refine v_aload_n (q := 1) dX7_signsOfAct_0 rfl rfl rfl ?_
  refine v_iload_n (q := 2) dX7_signsOfAct_1 rfl rfl rfl ?_
  refine v_cPV1 (q := 5) (ct_X7_signAt (d - 1) (by omega) _ _ _) dX7_signsOfAct_2 rfl cc_X7_19 (by omega) (Nat.le_of_ble_eq_true rfl) ⟨Nat.le_of_ble_eq_true rfl, Nat.le_of_ble_eq_true rfl⟩ (fun v1 => ?_)
  refine v_cPS1 (q := 8) (ct_X7_isLetter (d - 1) (by omega) _ _) dX7_signsOfAct_5 rfl cc_X7_30 (by omega) (Nat.le_of_ble_eq_true rfl) ⟨Nat.le_of_ble_eq_true rfl, Nat.le_of_ble_eq_true rfl⟩ (fun v2 => ?_)
  refine v_if_ne (tgt := 13) (q := 11) dX7_signsOfAct_8 rfl rfl ?_ ?_
  · refine v_aload_n (q := 14) dX7_signsOfAct_13 rfl rfl rfl ?_
    refine v_iload_n (q := 15) dX7_signsOfAct_14 rfl rfl rfl ?_
    refine v_iconst (q := 16) dX7_signsOfAct_15 rfl ic_1 ?_
    refine v_iadd (q := 17) dX7_signsOfAct_16 rfl ?_
    refine v_cPV1 (q := 20) (ct_X7_signAt (d - 1) (by omega) _ _ _) dX7_signsOfAct_17 rfl cc_X7_19 (by omega) (Nat.le_of_ble_eq_true rfl) ⟨Nat.le_of_ble_eq_true rfl, Nat.le_of_ble_eq_true rfl⟩ (fun v3 => ?_)
    refine v_cPS1 (q := 23) (ct_X7_isLetter (d - 1) (by omega) _ _) dX7_signsOfAct_20 rfl cc_X7_30 (by omega) (Nat.le_of_ble_eq_true rfl) ⟨Nat.le_of_ble_eq_true rfl, Nat.le_of_ble_eq_true rfl⟩ (fun v4 => ?_)
    refine v_join (γ := Int32) 31 (fun v5 => M) (fun v5 => [some (.ref a0), some (.int x1)]) (fun v5 => [.int v5]) (fun K hK => ?_) (fun v5 => ?_)
    · refine v_if_eq (tgt := 30) (q := 26) dX7_signsOfAct_23 rfl rfl ?_ ?_
      · refine v_iconst (q := 31) dX7_signsOfAct_30 rfl ic_2 ?_
        exact hK (2 : Int32)
      · refine v_iconst (q := 27) dX7_signsOfAct_26 rfl ic_4 ?_
        refine v_goto (tgt := 31) dX7_signsOfAct_27 rfl ?_
        exact hK (4 : Int32)
    · exact v_iret rfl dX7_signsOfAct_31 ⟨Nat.le_of_ble_eq_true rfl, Nat.le_of_ble_eq_true rfl⟩ rfl
  · refine v_iconst (q := 12) dX7_signsOfAct_11 rfl ic_1 ?_
    exact v_iret rfl dX7_signsOfAct_12 ⟨Nat.le_of_ble_eq_true rfl, Nat.le_of_ble_eq_true rfl⟩ rfl
theorem ct_X7_signsOfAct (d : Nat) (hd : 1 ≤ d) (a0 : Nat) (x1 : Int32) (M : Me) (r : Int32) (hf : f_X7_signsOfAct a0 x1 M = some r) : me_k M a0 = some (7, nf_c 7) ∧ Ct yX7_signsOfAct mX7_signsOfAct d 0 0 [.ref a0, .int x1] M (some (.int r), M) := by
  obtain ⟨hk, hb⟩ := ck_some hf
  exact ⟨hk, ct_of (by decide +kernel) rfl rfl (Nat.le_of_ble_eq_true rfl) (vb_X7_signsOfAct d hd a0 x1 M) (by rw [hb]; rfl)⟩
theorem dX7_findFault_0 : decode cX7_findFault 0 = .ok (.iconst 0, 1) := by decide +kernel
theorem dX7_findFault_1 : decode cX7_findFault 1 = .ok (.istore_n 2, 1) := by decide +kernel
theorem dX7_findFault_2 : decode cX7_findFault 2 = .ok (.iconst 0, 1) := by decide +kernel
theorem dX7_findFault_3 : decode cX7_findFault 3 = .ok (.istore_n 3, 1) := by decide +kernel
theorem dX7_findFault_4 : decode cX7_findFault 4 = .ok (.iload_n 3, 1) := by decide +kernel
theorem dX7_findFault_5 : decode cX7_findFault 5 = .ok (.bipush 60, 2) := by decide +kernel
theorem dX7_findFault_7 : decode cX7_findFault 7 = .ok (.if_icmp .ge 49, 3) := by decide +kernel
theorem dX7_findFault_10 : decode cX7_findFault 10 = .ok (.iload_n 2, 1) := by decide +kernel
theorem dX7_findFault_11 : decode cX7_findFault 11 = .ok (.aload_n 0, 1) := by decide +kernel
theorem dX7_findFault_12 : decode cX7_findFault 12 = .ok (.getfield 15, 3) := by decide +kernel
theorem dX7_findFault_15 : decode cX7_findFault 15 = .ok (.if_icmp .ge 41, 3) := by decide +kernel
theorem dX7_findFault_18 : decode cX7_findFault 18 = .ok (.aload_n 0, 1) := by decide +kernel
theorem dX7_findFault_19 : decode cX7_findFault 19 = .ok (.iload_n 2, 1) := by decide +kernel
theorem dX7_findFault_20 : decode cX7_findFault 20 = .ok (.iload_n 1, 1) := by decide +kernel
theorem dX7_findFault_21 : decode cX7_findFault 21 = .ok (.invokevirtual 23, 3) := by decide +kernel
theorem dX7_findFault_24 : decode cX7_findFault 24 = .ok (.istore 4, 2) := by decide +kernel
theorem dX7_findFault_26 : decode cX7_findFault 26 = .ok (.aload_n 0, 1) := by decide +kernel
theorem dX7_findFault_27 : decode cX7_findFault 27 = .ok (.iload_n 2, 1) := by decide +kernel
theorem dX7_findFault_28 : decode cX7_findFault 28 = .ok (.invokevirtual 27, 3) := by decide +kernel
theorem dX7_findFault_31 : decode cX7_findFault 31 = .ok (.istore 5, 2) := by decide +kernel
theorem dX7_findFault_33 : decode cX7_findFault 33 = .ok (.iload 4, 2) := by decide +kernel
theorem dX7_findFault_35 : decode cX7_findFault 35 = .ok (.iload 5, 2) := by decide +kernel
theorem dX7_findFault_37 : decode cX7_findFault 37 = .ok (.if_icmp .ge 8, 3) := by decide +kernel
theorem dX7_findFault_40 : decode cX7_findFault 40 = .ok (.iload_n 2, 1) := by decide +kernel
theorem dX7_findFault_41 : decode cX7_findFault 41 = .ok (.iload 4, 2) := by decide +kernel
theorem dX7_findFault_43 : decode cX7_findFault 43 = .ok (.iadd, 1) := by decide +kernel
theorem dX7_findFault_44 : decode cX7_findFault 44 = .ok (.ireturn, 1) := by decide +kernel
theorem dX7_findFault_45 : decode cX7_findFault 45 = .ok (.iload_n 2, 1) := by decide +kernel
theorem dX7_findFault_46 : decode cX7_findFault 46 = .ok (.iload 5, 2) := by decide +kernel
theorem dX7_findFault_48 : decode cX7_findFault 48 = .ok (.iadd, 1) := by decide +kernel
theorem dX7_findFault_49 : decode cX7_findFault 49 = .ok (.istore_n 2, 1) := by decide +kernel
theorem dX7_findFault_50 : decode cX7_findFault 50 = .ok (.iinc 3 1, 3) := by decide +kernel
theorem dX7_findFault_53 : decode cX7_findFault 53 = .ok (.goto (-49), 3) := by decide +kernel
theorem dX7_findFault_56 : decode cX7_findFault 56 = .ok (.bipush (-6), 2) := by decide +kernel
theorem dX7_findFault_58 : decode cX7_findFault 58 = .ok (.ireturn, 1) := by decide +kernel
noncomputable def s_X7_findFault_4 (a0 : Nat) (x1 : Int32) (M : Me) (v1 : Int32) (v2 : Int32) : Option ((Int32 × Int32) ⊕ ((Int32 × Int32) ⊕ (Int32))) :=
  if (60 : Int32) ≤ v2 then (
    some (Sum.inr (Sum.inl (v1, v2)))
  ) else (
    gi M a0 7 0 fun v3 =>
    if v3 ≤ v1 then (
      some (Sum.inr (Sum.inl (v1, v2)))
    ) else (
      cP (f_X7_countGood a0 v1 x1 M) fun v4 =>
      cP (f_X7_signsOfAct a0 v1 M) fun v5 =>
      if v5 ≤ v4 then (
        let_v ((v1 + v5)) fun v6 =>
        let_v (v2 + (1 : Int32)) fun v7 =>
        some (Sum.inl (v6, v7))
      ) else (
        some (Sum.inr (Sum.inr (v1 + v4)))
      )
    )
  )
noncomputable def b_X7_findFault (a0 : Nat) (x1 : Int32) (M : Me) : Option (Int32) :=
  ex_r (lp (fun s => s_X7_findFault_4 a0 x1 M s.1 s.2) ((0 : Int32), (0 : Int32))) (fun e8 =>
    some (-6 : Int32)
  ) (fun t => some t)
noncomputable def f_X7_findFault (a0 : Nat) (x1 : Int32) (M : Me) : Option (Int32) := ck M a0 7 (b_X7_findFault a0 x1 M)
set_option maxRecDepth 20000 in
theorem vb_X7_findFault (d : Nat) (hd : 4 ≤ d) (a0 : Nat) (x1 : Int32) (M : Me) : V (mX7_findFault, d, 0, 0) (0, 0) M 0 [some (.ref a0), some (.int x1), none, none, none, none] [] (b_X7_findFault a0 x1 M) (fun z => some (some (.int z), M)) := by
  unfold b_X7_findFault
  refine v_iconst (q := 1) dX7_findFault_0 rfl ic_0 ?_
  refine v_istore_n (q := 2) (loc2 := [some (.ref a0), some (.int x1), some (.int (0 : Int32)), none, none, none]) dX7_findFault_1 rfl rfl rfl (Nat.le_of_ble_eq_true rfl) rfl ?_
  refine v_iconst (q := 3) dX7_findFault_2 rfl ic_0 ?_
  refine v_istore_n (q := 4) (loc2 := [some (.ref a0), some (.int x1), some (.int (0 : Int32)), some (.int (0 : Int32)), none, none]) dX7_findFault_3 rfl rfl rfl (Nat.le_of_ble_eq_true rfl) rfl ?_
  refine v_lpr (S := Int32 × Int32) 56 (fun s => M) (fun s => [some (.ref a0), some (.int x1), some (.int s.1), some (.int s.2), none, none]) (fun e8 => M) (fun e8 => [some (.ref a0), some (.int x1), some (.int e8.1), some (.int e8.2), none, none]) (fun e8 => ?_) (fun k K hk hx s => ?_)
  · refine v_bipush (q := 58) dX7_findFault_56 rfl bp_m6 ?_
    exact v_iret rfl dX7_findFault_58 ⟨Nat.le_of_ble_eq_true rfl, Nat.le_of_ble_eq_true rfl⟩ rfl
  · obtain ⟨v1, v2⟩ := s
    show V _ _ M 4 [some (.ref a0), some (.int x1), some (.int v1), some (.int v2), none, none] [] (s_X7_findFault_4 a0 x1 M v1 v2) _
    unfold s_X7_findFault_4
    refine v_iload_n (q := 5) dX7_findFault_4 rfl rfl rfl ?_
    refine v_bipush (q := 7) dX7_findFault_5 rfl bp_60 ?_
    refine v_icmp_ge (tgt := 56) (q := 10) dX7_findFault_7 rfl rfl ?_ ?_
    · exact v_inr (v_sml (hx (v1, v2)))
    · refine v_iload_n (q := 11) dX7_findFault_10 rfl rfl rfl ?_
      refine v_aload_n (q := 12) dX7_findFault_11 rfl rfl rfl ?_
      refine v_getIb (q := 15) dX7_findFault_12 rfl fg_X7_15 (fun v3 => ?_)
      refine v_icmp_ge (tgt := 56) (q := 18) dX7_findFault_15 rfl rfl ?_ ?_
      · exact v_inr (v_sml (hx (v1, v2)))
      · refine v_aload_n (q := 19) dX7_findFault_18 rfl rfl rfl ?_
        refine v_iload_n (q := 20) dX7_findFault_19 rfl rfl rfl ?_
        refine v_iload_n (q := 21) dX7_findFault_20 rfl rfl rfl ?_
        refine v_cPV2 (q := 24) (ct_X7_countGood (d - 1) (by omega) _ _ _ _) dX7_findFault_21 rfl cc_X7_23 (by omega) (Nat.le_of_ble_eq_true rfl) ⟨Nat.le_of_ble_eq_true rfl, Nat.le_of_ble_eq_true rfl⟩ (fun v4 => ?_)
        refine v_istore (q := 26) (loc2 := [some (.ref a0), some (.int x1), some (.int v1), some (.int v2), some (.int v4), none]) dX7_findFault_24 rfl rfl (Nat.le_of_ble_eq_true rfl) rfl ?_
        refine v_aload_n (q := 27) dX7_findFault_26 rfl rfl rfl ?_
        refine v_iload_n (q := 28) dX7_findFault_27 rfl rfl rfl ?_
        refine v_cPV1 (q := 31) (ct_X7_signsOfAct (d - 1) (by omega) _ _ _) dX7_findFault_28 rfl cc_X7_27 (by omega) (Nat.le_of_ble_eq_true rfl) ⟨Nat.le_of_ble_eq_true rfl, Nat.le_of_ble_eq_true rfl⟩ (fun v5 => ?_)
        refine v_istore (q := 33) (loc2 := [some (.ref a0), some (.int x1), some (.int v1), some (.int v2), some (.int v4), some (.int v5)]) dX7_findFault_31 rfl rfl (Nat.le_of_ble_eq_true rfl) rfl ?_
        refine v_iload (q := 35) dX7_findFault_33 rfl rfl ?_
        refine v_iload (q := 37) dX7_findFault_35 rfl rfl ?_
        refine v_icmp_ge (tgt := 45) (q := 40) dX7_findFault_37 rfl rfl ?_ ?_
        · refine v_iload_n (q := 46) dX7_findFault_45 rfl rfl rfl ?_
          refine v_iload (q := 48) dX7_findFault_46 rfl rfl ?_
          refine v_iadd (q := 49) dX7_findFault_48 rfl ?_
          refine v_letI (fun v6 => ?_)
          refine v_istore_n (q := 50) (loc2 := [some (.ref a0), some (.int x1), some (.int v6), some (.int v2), some (.int v4), some (.int v5)]) dX7_findFault_49 rfl rfl rfl (Nat.le_of_ble_eq_true rfl) rfl ?_
          refine v_iincL (q := 53) (x := v2) (cst := (1 : Int32)) (f := fun v7 => [some (.ref a0), some (.int x1), some (.int v6), some (.int v7), some (.int v4), some (.int v5)]) dX7_findFault_50 rfl rfl ic_1 rfl (Nat.le_of_ble_eq_true rfl) (fun _ => rfl) (fun v7 => ?_)
          refine v_goto (tgt := 4) dX7_findFault_53 rfl ?_
          exact v_inl (v_weak (hk (v6, v7)) ⟨rfl, ⟨rfl, ⟨rfl, ⟨rfl, trivial⟩⟩⟩⟩)
        · refine v_iload_n (q := 41) dX7_findFault_40 rfl rfl rfl ?_
          refine v_iload (q := 43) dX7_findFault_41 rfl rfl ?_
          refine v_iadd (q := 44) dX7_findFault_43 rfl ?_
          exact v_iret rfl dX7_findFault_44 ⟨Nat.le_of_ble_eq_true rfl, Nat.le_of_ble_eq_true rfl⟩ rfl
theorem ct_X7_findFault (d : Nat) (hd : 4 ≤ d) (a0 : Nat) (x1 : Int32) (M : Me) (r : Int32) (hf : f_X7_findFault a0 x1 M = some r) : me_k M a0 = some (7, nf_c 7) ∧ Ct yX7_findFault mX7_findFault d 0 0 [.ref a0, .int x1] M (some (.int r), M) := by
  obtain ⟨hk, hb⟩ := ck_some hf
  exact ⟨hk, ct_of (by decide +kernel) rfl rfl (Nat.le_of_ble_eq_true rfl) (vb_X7_findFault d hd a0 x1 M) (by rw [hb]; rfl)⟩
theorem dX8_init_0 : decode cX8_init 0 = .ok (.aload_n 0, 1) := by decide +kernel
theorem dX8_init_1 : decode cX8_init 1 = .ok (.invokespecial 3, 3) := by decide +kernel
theorem dX8_init_4 : decode cX8_init 4 = .ok (.aload_n 0, 1) := by decide +kernel
theorem dX8_init_5 : decode cX8_init 5 = .ok (.bipush 64, 2) := by decide +kernel
theorem dX8_init_7 : decode cX8_init 7 = .ok (.newarray .int, 2) := by decide +kernel
theorem dX8_init_9 : decode cX8_init 9 = .ok (.putfield 9, 3) := by decide +kernel
theorem dX8_init_12 : decode cX8_init 12 = .ok (.return_, 1) := by decide +kernel
noncomputable def b_X8_init (a0 : Nat) (M : Me) : Option (Me) :=
  na M 20 64 fun o1 M2 =>
  pr M2 a0 8 0 o1 fun M3 =>
  some M3
noncomputable def f_X8_init (a0 : Nat) (M : Me) : Option (Me) := b_X8_init a0 M
set_option maxRecDepth 20000 in
theorem vb_X8_init (d : Nat) (hd : 1 ≤ d) (a0 : Nat) (M : Me) : V (mX8_init, d, 1, 64) (0, 0) M 0 [some (.ref a0)] [] (b_X8_init a0 M) (fun M2 => some (none, M2)) := by
  unfold b_X8_init
  refine v_aload_n (q := 1) dX8_init_0 rfl rfl rfl ?_
  refine v_oinit (q := 4) dX8_init_1 rfl cc_X8_3 aw_obj.1 aw_obj.2 (by show 1 ≤ d; omega) rfl ?_
  refine v_aload_n (q := 5) dX8_init_4 rfl rfl rfl ?_
  refine v_bipush (q := 7) dX8_init_5 rfl bp_64 ?_
  refine v_newIU (q := 9) (u2 := (1, 64)) dX8_init_7 rfl aw_int (by decide) (by decide) (Nat.le_of_ble_eq_true rfl) ⟨Nat.le_of_ble_eq_true rfl, Nat.le_of_ble_eq_true rfl⟩ rfl (fun o1 M2 => ?_)
  refine v_putRb (q := 12) dX8_init_9 rfl fp_X8_9 (fun M3 => ?_)
  exact v_vret rfl dX8_init_12 ⟨Nat.le_of_ble_eq_true rfl, Nat.le_of_ble_eq_true rfl⟩ rfl
theorem ct_X8_init (d : Nat) (hd : 1 ≤ d) (a0 : Nat) (M : Me) (r : Me) (hf : f_X8_init a0 M = some r) : Ct yX8_init mX8_init d 1 64 [.ref a0] M (none, r) := by
  have hb : b_X8_init a0 M = some r := hf
  exact ct_of (by decide +kernel) rfl rfl (Nat.le_of_ble_eq_true rfl) (vb_X8_init d hd a0 M) (by rw [hb]; rfl)
theorem dX8_addStriker_0 : decode cX8_addStriker 0 = .ok (.iload_n 2, 1) := by decide +kernel
theorem dX8_addStriker_1 : decode cX8_addStriker 1 = .ok (.invokestatic 35, 3) := by decide +kernel
theorem dX8_addStriker_4 : decode cX8_addStriker 4 = .ok (.istore_n 3, 1) := by decide +kernel
theorem dX8_addStriker_5 : decode cX8_addStriker 5 = .ok (.iload_n 3, 1) := by decide +kernel
theorem dX8_addStriker_6 : decode cX8_addStriker 6 = .ok (.aload_n 1, 1) := by decide +kernel
theorem dX8_addStriker_7 : decode cX8_addStriker 7 = .ok (.getfield 41, 3) := by decide +kernel
theorem dX8_addStriker_10 : decode cX8_addStriker 10 = .ok (.getfield 47, 3) := by decide +kernel
theorem dX8_addStriker_13 : decode cX8_addStriker 13 = .ok (.if_icmp .ge 9, 3) := by decide +kernel
theorem dX8_addStriker_16 : decode cX8_addStriker 16 = .ok (.iload_n 3, 1) := by decide +kernel
theorem dX8_addStriker_17 : decode cX8_addStriker 17 = .ok (.bipush 6, 2) := by decide +kernel
theorem dX8_addStriker_19 : decode cX8_addStriker 19 = .ok (.if_icmp .lt 4, 3) := by decide +kernel
theorem dX8_addStriker_22 : decode cX8_addStriker 22 = .ok (.return_, 1) := by decide +kernel
theorem dX8_addStriker_23 : decode cX8_addStriker 23 = .ok (.iconst 0, 1) := by decide +kernel
theorem dX8_addStriker_24 : decode cX8_addStriker 24 = .ok (.istore 4, 2) := by decide +kernel
theorem dX8_addStriker_26 : decode cX8_addStriker 26 = .ok (.iload 4, 2) := by decide +kernel
theorem dX8_addStriker_28 : decode cX8_addStriker 28 = .ok (.bipush 6, 2) := by decide +kernel
theorem dX8_addStriker_30 : decode cX8_addStriker 30 = .ok (.if_icmp .ge 109, 3) := by decide +kernel
theorem dX8_addStriker_33 : decode cX8_addStriker 33 = .ok (.aload_n 1, 1) := by decide +kernel
theorem dX8_addStriker_34 : decode cX8_addStriker 34 = .ok (.iload 4, 2) := by decide +kernel
theorem dX8_addStriker_36 : decode cX8_addStriker 36 = .ok (.invokevirtual 52, 3) := by decide +kernel
theorem dX8_addStriker_39 : decode cX8_addStriker 39 = .ok (.astore 5, 2) := by decide +kernel
theorem dX8_addStriker_41 : decode cX8_addStriker 41 = .ok (.iload_n 2, 1) := by decide +kernel
theorem dX8_addStriker_42 : decode cX8_addStriker 42 = .ok (.iload 4, 2) := by decide +kernel
theorem dX8_addStriker_44 : decode cX8_addStriker 44 = .ok (.ishr, 1) := by decide +kernel
theorem dX8_addStriker_45 : decode cX8_addStriker 45 = .ok (.iconst 1, 1) := by decide +kernel
theorem dX8_addStriker_46 : decode cX8_addStriker 46 = .ok (.iand, 1) := by decide +kernel
theorem dX8_addStriker_47 : decode cX8_addStriker 47 = .ok (.ifCond .ne 7, 3) := by decide +kernel
theorem dX8_addStriker_50 : decode cX8_addStriker 50 = .ok (.iconst 1, 1) := by decide +kernel
theorem dX8_addStriker_51 : decode cX8_addStriker 51 = .ok (.goto 4, 3) := by decide +kernel
theorem dX8_addStriker_54 : decode cX8_addStriker 54 = .ok (.iconst 0, 1) := by decide +kernel
theorem dX8_addStriker_55 : decode cX8_addStriker 55 = .ok (.istore 6, 2) := by decide +kernel
theorem dX8_addStriker_57 : decode cX8_addStriker 57 = .ok (.iload 4, 2) := by decide +kernel
theorem dX8_addStriker_59 : decode cX8_addStriker 59 = .ok (.aload_n 1, 1) := by decide +kernel
theorem dX8_addStriker_60 : decode cX8_addStriker 60 = .ok (.getfield 41, 3) := by decide +kernel
theorem dX8_addStriker_63 : decode cX8_addStriker 63 = .ok (.getfield 56, 3) := by decide +kernel
theorem dX8_addStriker_66 : decode cX8_addStriker 66 = .ok (.iload_n 3, 1) := by decide +kernel
theorem dX8_addStriker_67 : decode cX8_addStriker 67 = .ok (.iaload, 1) := by decide +kernel
theorem dX8_addStriker_68 : decode cX8_addStriker 68 = .ok (.if_icmp .eq 7, 3) := by decide +kernel
theorem dX8_addStriker_71 : decode cX8_addStriker 71 = .ok (.iconst 1, 1) := by decide +kernel
theorem dX8_addStriker_72 : decode cX8_addStriker 72 = .ok (.goto 4, 3) := by decide +kernel
theorem dX8_addStriker_75 : decode cX8_addStriker 75 = .ok (.iconst 0, 1) := by decide +kernel
theorem dX8_addStriker_76 : decode cX8_addStriker 76 = .ok (.istore 7, 2) := by decide +kernel
theorem dX8_addStriker_78 : decode cX8_addStriker 78 = .ok (.iload 6, 2) := by decide +kernel
theorem dX8_addStriker_80 : decode cX8_addStriker 80 = .ok (.ifCond .eq 53, 3) := by decide +kernel
theorem dX8_addStriker_83 : decode cX8_addStriker 83 = .ok (.iload 7, 2) := by decide +kernel
theorem dX8_addStriker_85 : decode cX8_addStriker 85 = .ok (.ifCond .eq 48, 3) := by decide +kernel
theorem dX8_addStriker_88 : decode cX8_addStriker 88 = .ok (.aload 5, 2) := by decide +kernel
theorem dX8_addStriker_90 : decode cX8_addStriker 90 = .ok (.getfield 59, 3) := by decide +kernel
theorem dX8_addStriker_93 : decode cX8_addStriker 93 = .ok (.ifCond .eq 40, 3) := by decide +kernel
theorem dX8_addStriker_96 : decode cX8_addStriker 96 = .ok (.aload 5, 2) := by decide +kernel
theorem dX8_addStriker_98 : decode cX8_addStriker 98 = .ok (.getfield 65, 3) := by decide +kernel
theorem dX8_addStriker_101 : decode cX8_addStriker 101 = .ok (.aload_n 1, 1) := by decide +kernel
theorem dX8_addStriker_102 : decode cX8_addStriker 102 = .ok (.getfield 41, 3) := by decide +kernel
theorem dX8_addStriker_105 : decode cX8_addStriker 105 = .ok (.getfield 68, 3) := by decide +kernel
theorem dX8_addStriker_108 : decode cX8_addStriker 108 = .ok (.iload_n 3, 1) := by decide +kernel
theorem dX8_addStriker_109 : decode cX8_addStriker 109 = .ok (.iaload, 1) := by decide +kernel
theorem dX8_addStriker_110 : decode cX8_addStriker 110 = .ok (.if_icmp .lt 23, 3) := by decide +kernel
theorem dX8_addStriker_113 : decode cX8_addStriker 113 = .ok (.aload_n 0, 1) := by decide +kernel
theorem dX8_addStriker_114 : decode cX8_addStriker 114 = .ok (.getfield 9, 3) := by decide +kernel
theorem dX8_addStriker_117 : decode cX8_addStriker 117 = .ok (.iload_n 2, 1) := by decide +kernel
theorem dX8_addStriker_118 : decode cX8_addStriker 118 = .ok (.iconst 1, 1) := by decide +kernel
theorem dX8_addStriker_119 : decode cX8_addStriker 119 = .ok (.iload 4, 2) := by decide +kernel
theorem dX8_addStriker_121 : decode cX8_addStriker 121 = .ok (.ishl, 1) := by decide +kernel
theorem dX8_addStriker_122 : decode cX8_addStriker 122 = .ok (.ior, 1) := by decide +kernel
theorem dX8_addStriker_123 : decode cX8_addStriker 123 = .ok (.dup2, 1) := by decide +kernel
theorem dX8_addStriker_124 : decode cX8_addStriker 124 = .ok (.iaload, 1) := by decide +kernel
theorem dX8_addStriker_125 : decode cX8_addStriker 125 = .ok (.aload_n 0, 1) := by decide +kernel
theorem dX8_addStriker_126 : decode cX8_addStriker 126 = .ok (.getfield 9, 3) := by decide +kernel
theorem dX8_addStriker_129 : decode cX8_addStriker 129 = .ok (.iload_n 2, 1) := by decide +kernel
theorem dX8_addStriker_130 : decode cX8_addStriker 130 = .ok (.iaload, 1) := by decide +kernel
theorem dX8_addStriker_131 : decode cX8_addStriker 131 = .ok (.iadd, 1) := by decide +kernel
theorem dX8_addStriker_132 : decode cX8_addStriker 132 = .ok (.iastore, 1) := by decide +kernel
theorem dX8_addStriker_133 : decode cX8_addStriker 133 = .ok (.iinc 4 1, 3) := by decide +kernel
theorem dX8_addStriker_136 : decode cX8_addStriker 136 = .ok (.goto (-110), 3) := by decide +kernel
theorem dX8_addStriker_139 : decode cX8_addStriker 139 = .ok (.return_, 1) := by decide +kernel
noncomputable def s_X8_addStriker_26 (a0 : Nat) (a1 : Nat) (x2 : Int32) (v1 : Int32) (M4 : Me) (v5 : Int32) : Option ((Me × Int32) ⊕ (Me × Int32)) :=
  if (6 : Int32) ≤ v5 then (
    some (Sum.inr (M4, v5))
  ) else (
    cR (f_X0_knightAt a1 v5 M4) fun o6 =>
    (
      if ((x2 >>> (v5 &&& 31)) &&& (1 : Int32)) = 0 then (
        some (1 : Int32)
      ) else (
        some (0 : Int32)
      )
    ).bind fun v7 =>
    gr M4 a1 0 3 fun o8 =>
    gr M4 o8 9 1 fun o9 =>
    li M4 o9 v1 fun v10 =>
    (
      if v5 = v10 then (
        some (0 : Int32)
      ) else (
        some (1 : Int32)
      )
    ).bind fun v11 =>
    (
      if v7 = 0 then (
        some M4
      ) else (
        if v11 = 0 then (
          some M4
        ) else (
          gi M4 o6 4 0 fun v12 =>
          if v12 = 0 then (
            some M4
          ) else (
            gi M4 o6 4 2 fun v13 =>
            gr M4 a1 0 3 fun o14 =>
            gr M4 o14 9 2 fun o15 =>
            li M4 o15 v1 fun v16 =>
            if v13 < v16 then (
              some M4
            ) else (
              gr M4 a0 8 0 fun o17 =>
              li M4 o17 (x2 ||| ((1 : Int32) <<< (v5 &&& 31))) fun v18 =>
              gr M4 a0 8 0 fun o19 =>
              li M4 o19 x2 fun v20 =>
              si M4 o17 (x2 ||| ((1 : Int32) <<< (v5 &&& 31))) (v18 + v20) fun M21 =>
              some M21
            )
          )
        )
      )
    ).bind fun M22 =>
    let_v (v5 + (1 : Int32)) fun v23 =>
    some (Sum.inl (M22, v23))
  )
noncomputable def b_X8_addStriker (a0 : Nat) (a1 : Nat) (x2 : Int32) (M : Me) : Option (Me) :=
  cP (f_J6_bitCount_0f7a4 x2 M) fun v1 =>
  gr M a1 0 3 fun o2 =>
  gi M o2 9 0 fun v3 =>
  if v3 ≤ v1 then (
    some M
  ) else (
    if v1 < (6 : Int32) then (
      (lp (fun s => s_X8_addStriker_26 a0 a1 x2 v1 s.1 s.2) (M, (0 : Int32))).bind fun e24 =>
      some e24.1
    ) else (
      some M
    )
  )
noncomputable def f_X8_addStriker (a0 : Nat) (a1 : Nat) (x2 : Int32) (M : Me) : Option (Me) := ck M a0 8 (b_X8_addStriker a0 a1 x2 M)
set_option maxRecDepth 20000 in
theorem vb_X8_addStriker (d : Nat) (hd : 1 ≤ d) (a0 : Nat) (a1 : Nat) (x2 : Int32) (M : Me) : V (mX8_addStriker, d, 0, 0) (0, 0) M 0 [some (.ref a0), some (.ref a1), some (.int x2), none, none, none, none, none] [] (b_X8_addStriker a0 a1 x2 M) (fun M2 => some (none, M2)) := by
  unfold b_X8_addStriker
  refine v_iload_n (q := 1) dX8_addStriker_0 rfl rfl rfl ?_
  refine v_cPS1 (q := 4) (ct_J6_bitCount_0f7a4 (d - 1) (by omega) _ _) dX8_addStriker_1 rfl cc_X8_35 (by omega) (Nat.le_of_ble_eq_true rfl) ⟨Nat.le_of_ble_eq_true rfl, Nat.le_of_ble_eq_true rfl⟩ (fun v1 => ?_)
  refine v_istore_n (q := 5) (loc2 := [some (.ref a0), some (.ref a1), some (.int x2), some (.int v1), none, none, none, none]) dX8_addStriker_4 rfl rfl rfl (Nat.le_of_ble_eq_true rfl) rfl ?_
  refine v_iload_n (q := 6) dX8_addStriker_5 rfl rfl rfl ?_
  refine v_aload_n (q := 7) dX8_addStriker_6 rfl rfl rfl ?_
  refine v_getRb (q := 10) dX8_addStriker_7 rfl fg_X8_41 (fun o2 => ?_)
  refine v_getIb (q := 13) dX8_addStriker_10 rfl fg_X8_47 (fun v3 => ?_)
  refine v_icmp_ge (tgt := 22) (q := 16) dX8_addStriker_13 rfl rfl ?_ ?_
  · exact v_vret rfl dX8_addStriker_22 ⟨Nat.le_of_ble_eq_true rfl, Nat.le_of_ble_eq_true rfl⟩ rfl
  · refine v_iload_n (q := 17) dX8_addStriker_16 rfl rfl rfl ?_
    refine v_bipush (q := 19) dX8_addStriker_17 rfl bp_6 ?_
    refine v_icmp_lt (tgt := 23) (q := 22) dX8_addStriker_19 rfl rfl ?_ ?_
    · refine v_iconst (q := 24) dX8_addStriker_23 rfl ic_0 ?_
      refine v_istore (q := 26) (loc2 := [some (.ref a0), some (.ref a1), some (.int x2), some (.int v1), some (.int (0 : Int32)), none, none, none]) dX8_addStriker_24 rfl rfl (Nat.le_of_ble_eq_true rfl) rfl ?_
      refine v_lps (S := Me × Int32) 139 (fun s => s.1) (fun s => [some (.ref a0), some (.ref a1), some (.int x2), some (.int v1), some (.int s.2), none, none, none]) (fun e24 => e24.1) (fun e24 => [some (.ref a0), some (.ref a1), some (.int x2), some (.int v1), some (.int e24.2), none, none, none]) (fun e24 => ?_) (fun k K hk hx s => ?_)
      · exact v_vret rfl dX8_addStriker_139 ⟨Nat.le_of_ble_eq_true rfl, Nat.le_of_ble_eq_true rfl⟩ rfl
      · obtain ⟨M4, v5⟩ := s
        show V _ _ M4 26 [some (.ref a0), some (.ref a1), some (.int x2), some (.int v1), some (.int v5), none, none, none] [] (s_X8_addStriker_26 a0 a1 x2 v1 M4 v5) _
        unfold s_X8_addStriker_26
        refine v_iload (q := 28) dX8_addStriker_26 rfl rfl ?_
        refine v_bipush (q := 30) dX8_addStriker_28 rfl bp_6 ?_
        refine v_icmp_ge (tgt := 139) (q := 33) dX8_addStriker_30 rfl rfl ?_ ?_
        · exact v_inr (hx (M4, v5))
        · refine v_aload_n (q := 34) dX8_addStriker_33 rfl rfl rfl ?_
          refine v_iload (q := 36) dX8_addStriker_34 rfl rfl ?_
          refine v_cRV1 (q := 39) (ct_X0_knightAt (d - 1) (by omega) _ _ _) dX8_addStriker_36 rfl cc_X8_52 (by omega) (Nat.le_of_ble_eq_true rfl) ⟨Nat.le_of_ble_eq_true rfl, Nat.le_of_ble_eq_true rfl⟩ (fun o6 => ?_)
          refine v_astore (q := 41) (loc2 := [some (.ref a0), some (.ref a1), some (.int x2), some (.int v1), some (.int v5), some (.ref o6), none, none]) dX8_addStriker_39 rfl rfl (Nat.le_of_ble_eq_true rfl) rfl ?_
          refine v_iload_n (q := 42) dX8_addStriker_41 rfl rfl rfl ?_
          refine v_iload (q := 44) dX8_addStriker_42 rfl rfl ?_
          refine v_ishr (q := 45) dX8_addStriker_44 rfl ?_
          refine v_iconst (q := 46) dX8_addStriker_45 rfl ic_1 ?_
          refine v_iand (q := 47) dX8_addStriker_46 rfl ?_
          refine v_join (γ := Int32) 55 (fun v7 => M4) (fun v7 => [some (.ref a0), some (.ref a1), some (.int x2), some (.int v1), some (.int v5), some (.ref o6), none, none]) (fun v7 => [.int v7]) (fun K hK => ?_) (fun v7 => ?_)
          · refine v_if_ne (tgt := 54) (q := 50) dX8_addStriker_47 rfl rfl ?_ ?_
            · refine v_iconst (q := 55) dX8_addStriker_54 rfl ic_0 ?_
              exact hK (0 : Int32)
            · refine v_iconst (q := 51) dX8_addStriker_50 rfl ic_1 ?_
              refine v_goto (tgt := 55) dX8_addStriker_51 rfl ?_
              exact hK (1 : Int32)
          · refine v_istore (q := 57) (loc2 := [some (.ref a0), some (.ref a1), some (.int x2), some (.int v1), some (.int v5), some (.ref o6), some (.int v7), none]) dX8_addStriker_55 rfl rfl (Nat.le_of_ble_eq_true rfl) rfl ?_
            refine v_iload (q := 59) dX8_addStriker_57 rfl rfl ?_
            refine v_aload_n (q := 60) dX8_addStriker_59 rfl rfl rfl ?_
            refine v_getRb (q := 63) dX8_addStriker_60 rfl fg_X8_41 (fun o8 => ?_)
            refine v_getRb (q := 66) dX8_addStriker_63 rfl fg_X8_56 (fun o9 => ?_)
            refine v_iload_n (q := 67) dX8_addStriker_66 rfl rfl rfl ?_
            refine v_iaload (q := 68) dX8_addStriker_67 rfl (fun v10 => ?_)
            refine v_join (γ := Int32) 76 (fun v11 => M4) (fun v11 => [some (.ref a0), some (.ref a1), some (.int x2), some (.int v1), some (.int v5), some (.ref o6), some (.int v7), none]) (fun v11 => [.int v11]) (fun K hK => ?_) (fun v11 => ?_)
            · refine v_icmp_eq (tgt := 75) (q := 71) dX8_addStriker_68 rfl rfl ?_ ?_
              · refine v_iconst (q := 76) dX8_addStriker_75 rfl ic_0 ?_
                exact hK (0 : Int32)
              · refine v_iconst (q := 72) dX8_addStriker_71 rfl ic_1 ?_
                refine v_goto (tgt := 76) dX8_addStriker_72 rfl ?_
                exact hK (1 : Int32)
            · refine v_istore (q := 78) (loc2 := [some (.ref a0), some (.ref a1), some (.int x2), some (.int v1), some (.int v5), some (.ref o6), some (.int v7), some (.int v11)]) dX8_addStriker_76 rfl rfl (Nat.le_of_ble_eq_true rfl) rfl ?_
              refine v_iload (q := 80) dX8_addStriker_78 rfl rfl ?_
              refine v_join (γ := Me) 133 (fun M22 => M22) (fun M22 => [some (.ref a0), some (.ref a1), some (.int x2), some (.int v1), some (.int v5), some (.ref o6), some (.int v7), some (.int v11)]) (fun M22 => []) (fun K hK => ?_) (fun M22 => ?_)
              · refine v_if_eq (tgt := 133) (q := 83) dX8_addStriker_80 rfl rfl ?_ ?_
                · exact hK M4
                · refine v_iload (q := 85) dX8_addStriker_83 rfl rfl ?_
                  refine v_if_eq (tgt := 133) (q := 88) dX8_addStriker_85 rfl rfl ?_ ?_
                  · exact hK M4
                  · refine v_aload (q := 90) dX8_addStriker_88 rfl rfl ?_
                    refine v_getIb (q := 93) dX8_addStriker_90 rfl fg_X8_59 (fun v12 => ?_)
                    refine v_if_eq (tgt := 133) (q := 96) dX8_addStriker_93 rfl rfl ?_ ?_
                    · exact hK M4
                    · refine v_aload (q := 98) dX8_addStriker_96 rfl rfl ?_
                      refine v_getIb (q := 101) dX8_addStriker_98 rfl fg_X8_65 (fun v13 => ?_)
                      refine v_aload_n (q := 102) dX8_addStriker_101 rfl rfl rfl ?_
                      refine v_getRb (q := 105) dX8_addStriker_102 rfl fg_X8_41 (fun o14 => ?_)
                      refine v_getRb (q := 108) dX8_addStriker_105 rfl fg_X8_68 (fun o15 => ?_)
                      refine v_iload_n (q := 109) dX8_addStriker_108 rfl rfl rfl ?_
                      refine v_iaload (q := 110) dX8_addStriker_109 rfl (fun v16 => ?_)
                      refine v_icmp_lt (tgt := 133) (q := 113) dX8_addStriker_110 rfl rfl ?_ ?_
                      · exact hK M4
                      · refine v_aload_n (q := 114) dX8_addStriker_113 rfl rfl rfl ?_
                        refine v_getRb (q := 117) dX8_addStriker_114 rfl fg_X8_9 (fun o17 => ?_)
                        refine v_iload_n (q := 118) dX8_addStriker_117 rfl rfl rfl ?_
                        refine v_iconst (q := 119) dX8_addStriker_118 rfl ic_1 ?_
                        refine v_iload (q := 121) dX8_addStriker_119 rfl rfl ?_
                        refine v_ishl (q := 122) dX8_addStriker_121 rfl ?_
                        refine v_ior (q := 123) dX8_addStriker_122 rfl ?_
                        refine v_dup2 (q := 124) dX8_addStriker_123 rfl rfl rfl ?_
                        refine v_iaload (q := 125) dX8_addStriker_124 rfl (fun v18 => ?_)
                        refine v_aload_n (q := 126) dX8_addStriker_125 rfl rfl rfl ?_
                        refine v_getRb (q := 129) dX8_addStriker_126 rfl fg_X8_9 (fun o19 => ?_)
                        refine v_iload_n (q := 130) dX8_addStriker_129 rfl rfl rfl ?_
                        refine v_iaload (q := 131) dX8_addStriker_130 rfl (fun v20 => ?_)
                        refine v_iadd (q := 132) dX8_addStriker_131 rfl ?_
                        refine v_iastore (q := 133) dX8_addStriker_132 rfl (fun M21 => ?_)
                        exact hK M21
              · refine v_iincL (q := 136) (x := v5) (cst := (1 : Int32)) (f := fun v23 => [some (.ref a0), some (.ref a1), some (.int x2), some (.int v1), some (.int v23), some (.ref o6), some (.int v7), some (.int v11)]) dX8_addStriker_133 rfl rfl ic_1 rfl (Nat.le_of_ble_eq_true rfl) (fun _ => rfl) (fun v23 => ?_)
                refine v_goto (tgt := 26) dX8_addStriker_136 rfl ?_
                exact v_inl (v_weak (hk (M22, v23)) ⟨rfl, ⟨rfl, ⟨rfl, ⟨rfl, ⟨rfl, trivial⟩⟩⟩⟩⟩)
    · exact v_vret rfl dX8_addStriker_22 ⟨Nat.le_of_ble_eq_true rfl, Nat.le_of_ble_eq_true rfl⟩ rfl
theorem ct_X8_addStriker (d : Nat) (hd : 1 ≤ d) (a0 : Nat) (a1 : Nat) (x2 : Int32) (M : Me) (r : Me) (hf : f_X8_addStriker a0 a1 x2 M = some r) : me_k M a0 = some (8, nf_c 8) ∧ Ct yX8_addStriker mX8_addStriker d 0 0 [.ref a0, .ref a1, .int x2] M (none, r) := by
  obtain ⟨hk, hb⟩ := ck_some hf
  exact ⟨hk, ct_of (by decide +kernel) rfl rfl (Nat.le_of_ble_eq_true rfl) (vb_X8_addStriker d hd a0 a1 x2 M) (by rw [hb]; rfl)⟩

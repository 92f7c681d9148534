theorem dX11_image_0 : decode cX11_image 0 = .ok (.iload_n 1, 1) := by decide +kernel
theorem dX11_image_1 : decode cX11_image 1 = .ok (.iconst 0, 1) := by decide +kernel
theorem dX11_image_2 : decode cX11_image 2 = .ok (.iconst 1, 1) := by decide +kernel
theorem dX11_image_3 : decode cX11_image 3 = .ok (.invokestatic 55, 3) := by decide +kernel
theorem dX11_image_6 : decode cX11_image 6 = .ok (.ifCond .ne 6, 3) := by decide +kernel
theorem dX11_image_9 : decode cX11_image 9 = .ok (.bipush (-2), 2) := by decide +kernel
theorem dX11_image_11 : decode cX11_image 11 = .ok (.ireturn, 1) := by decide +kernel
theorem dX11_image_12 : decode cX11_image 12 = .ok (.aload_n 0, 1) := by decide +kernel
theorem dX11_image_13 : decode cX11_image 13 = .ok (.getfield 23, 3) := by decide +kernel
theorem dX11_image_16 : decode cX11_image 16 = .ok (.iload_n 1, 1) := by decide +kernel
theorem dX11_image_17 : decode cX11_image 17 = .ok (.aaload, 1) := by decide +kernel
theorem dX11_image_18 : decode cX11_image 18 = .ok (.ifnonnull 16, 3) := by decide +kernel
theorem dX11_image_21 : decode cX11_image 21 = .ok (.aload_n 0, 1) := by decide +kernel
theorem dX11_image_22 : decode cX11_image 22 = .ok (.getfield 23, 3) := by decide +kernel
theorem dX11_image_25 : decode cX11_image 25 = .ok (.iload_n 1, 1) := by decide +kernel
theorem dX11_image_26 : decode cX11_image 26 = .ok (.new 16, 3) := by decide +kernel
theorem dX11_image_29 : decode cX11_image 29 = .ok (.dup, 1) := by decide +kernel
theorem dX11_image_30 : decode cX11_image 30 = .ok (.invokespecial 18, 3) := by decide +kernel
theorem dX11_image_33 : decode cX11_image 33 = .ok (.aastore, 1) := by decide +kernel
theorem dX11_image_34 : decode cX11_image 34 = .ok (.aload_n 0, 1) := by decide +kernel
theorem dX11_image_35 : decode cX11_image 35 = .ok (.getfield 23, 3) := by decide +kernel
theorem dX11_image_38 : decode cX11_image 38 = .ok (.iload_n 1, 1) := by decide +kernel
theorem dX11_image_39 : decode cX11_image 39 = .ok (.aaload, 1) := by decide +kernel
theorem dX11_image_40 : decode cX11_image 40 = .ok (.aload_n 0, 1) := by decide +kernel
theorem dX11_image_41 : decode cX11_image 41 = .ok (.getfield 19, 3) := by decide +kernel
theorem dX11_image_44 : decode cX11_image 44 = .ok (.invokevirtual 150, 3) := by decide +kernel
theorem dX11_image_47 : decode cX11_image 47 = .ok (.iconst 1, 1) := by decide +kernel
theorem dX11_image_48 : decode cX11_image 48 = .ok (.ireturn, 1) := by decide +kernel
noncomputable def b_X11_image (a0 : Nat) (x1 : Int32) (M : Me) : Option (Int32 × Me) :=
  cP (f_X11_isWithin x1 (0 : Int32) (1 : Int32) M) fun v1 =>
  if v1 = 0 then (
    some ((-2 : Int32), M)
  ) else (
    gr M a0 11 2 fun o2 =>
    (
      lo M o2 24 x1 fun z => if z = none then (
        gr M a0 11 2 fun o3 =>
        no M 0 fun o4 M5 =>
        cM (f_X0_init o4 M5) fun M6 =>
        sr M6 o3 24 0 x1 o4 fun M7 =>
        some M7
      ) else (
        some M
      )
    ).bind fun M8 =>
    gr M8 a0 11 2 fun o9 =>
    lr M8 o9 24 x1 fun o10 =>
    gr M8 a0 11 1 fun o11 =>
    cM (f_X0_copy o10 o11 M8) fun M12 =>
    some ((1 : Int32), M12)
  )
noncomputable def f_X11_image (a0 : Nat) (x1 : Int32) (M : Me) : Option (Int32 × Me) := ck M a0 11 (b_X11_image a0 x1 M)
set_option maxRecDepth 20000 in
theorem vb_X11_image (d : Nat) (hd : 4 ≤ d) (a0 : Nat) (x1 : Int32) (M : Me) : V (mX11_image, d, 28, 178) (0, 0) M 0 [some (.ref a0), some (.int x1)] [] (b_X11_image a0 x1 M) (fun z => some (some (.int z.1), z.2)) := by
  unfold b_X11_image
  refine v_iload_n (q := 1) dX11_image_0 rfl rfl rfl ?_
  refine v_iconst (q := 2) dX11_image_1 rfl ic_0 ?_
  refine v_iconst (q := 3) dX11_image_2 rfl ic_1 ?_
  refine v_cPS3 (q := 6) (ct_X11_isWithin (d - 1) (by omega) _ _ _ _) dX11_image_3 rfl cc_X11_55 (by omega) (Nat.le_of_ble_eq_true rfl) ⟨Nat.le_of_ble_eq_true rfl, Nat.le_of_ble_eq_true rfl⟩ (fun v1 => ?_)
  refine v_if_ne (tgt := 12) (q := 9) dX11_image_6 rfl rfl ?_ ?_
  · refine v_aload_n (q := 13) dX11_image_12 rfl rfl rfl ?_
    refine v_getRb (q := 16) dX11_image_13 rfl fg_X11_23 (fun o2 => ?_)
    refine v_iload_n (q := 17) dX11_image_16 rfl rfl rfl ?_
    refine v_joinU (u2 := (28, 178)) (γ := Me) 34 (fun M8 => M8) (fun M8 => [some (.ref a0), some (.int x1)]) (fun M8 => []) (fun K hK => ?_) (fun M8 => ?_)
    · refine v_aaloadN (q := 18) (t0 := 4) (q2 := 21) (tgt := 34) dX11_image_17 rfl (Nat.le_of_ble_eq_true rfl) (fun _ => rfl) dX11_image_18 rfl rfl ?_ ?_
      · exact v_widen (u2 := (28, 178)) (Nat.le_of_ble_eq_true rfl) (Nat.le_of_ble_eq_true rfl) (hK M)
      · refine v_aload_n (q := 22) dX11_image_21 rfl rfl rfl ?_
        refine v_getRb (q := 25) dX11_image_22 rfl fg_X11_23 (fun o3 => ?_)
        refine v_iload_n (q := 26) dX11_image_25 rfl rfl rfl ?_
        refine v_newU (q := 29) (u2 := (1, 6)) dX11_image_26 rfl cn_X11_16 ⟨Nat.le_of_ble_eq_true rfl, Nat.le_of_ble_eq_true rfl⟩ rfl (fun o4 M5 => ?_)
        refine v_dup (q := 30) dX11_image_29 rfl rfl ?_
        refine v_cMN0a (q := 33) (u2 := (28, 178)) (ct_X0_init (d - 1) (by omega) _ _) dX11_image_30 rfl cc_X11_18 (by omega) (Nat.le_of_ble_eq_true rfl) ⟨Nat.le_of_ble_eq_true rfl, Nat.le_of_ble_eq_true rfl⟩ rfl (fun M6 => ?_)
        refine v_aastore (q := 34) (t0 := 4) dX11_image_33 rfl (Nat.le_of_ble_eq_true rfl) (Nat.le_of_ble_eq_true rfl) (fun _ => rfl) (fun M7 => ?_)
        exact hK M7
    · refine v_aload_n (q := 35) dX11_image_34 rfl rfl rfl ?_
      refine v_getRb (q := 38) dX11_image_35 rfl fg_X11_23 (fun o9 => ?_)
      refine v_iload_n (q := 39) dX11_image_38 rfl rfl rfl ?_
      refine v_aaload (q := 40) (t0 := 4) dX11_image_39 rfl (Nat.le_of_ble_eq_true rfl) (fun _ => rfl) (fun o10 => ?_)
      refine v_aload_n (q := 41) dX11_image_40 rfl rfl rfl ?_
      refine v_getRb (q := 44) dX11_image_41 rfl fg_X11_19 (fun o11 => ?_)
      refine v_cMV1 (q := 47) (ct_X0_copy (d - 1) (by omega) _ _ _) dX11_image_44 rfl cc_X11_150 (by omega) (Nat.le_of_ble_eq_true rfl) ⟨Nat.le_of_ble_eq_true rfl, Nat.le_of_ble_eq_true rfl⟩ (fun M12 => ?_)
      refine v_iconst (q := 48) dX11_image_47 rfl ic_1 ?_
      exact v_iret rfl dX11_image_48 ⟨Nat.le_of_ble_eq_true rfl, Nat.le_of_ble_eq_true rfl⟩ rfl
  · refine v_bipush (q := 11) dX11_image_9 rfl bp_m2 ?_
    exact v_iret rfl dX11_image_11 ⟨Nat.le_of_ble_eq_true rfl, Nat.le_of_ble_eq_true rfl⟩ rfl
theorem ct_X11_image (d : Nat) (hd : 4 ≤ d) (a0 : Nat) (x1 : Int32) (M : Me) (r : Int32) (M2 : Me) (hf : f_X11_image a0 x1 M = some (r, M2)) : me_k M a0 = some (11, nf_c 11) ∧ Ct yX11_image mX11_image d 28 178 [.ref a0, .int x1] M (some (.int r), M2) := by
  obtain ⟨hk, hb⟩ := ck_some hf
  exact ⟨hk, ct_of (by decide +kernel) rfl rfl (Nat.le_of_ble_eq_true rfl) (vb_X11_image d hd a0 x1 M) (by rw [hb]; rfl)⟩
theorem dX11_restore_0 : decode cX11_restore 0 = .ok (.iload_n 1, 1) := by decide +kernel
theorem dX11_restore_1 : decode cX11_restore 1 = .ok (.iconst 0, 1) := by decide +kernel
theorem dX11_restore_2 : decode cX11_restore 2 = .ok (.iconst 1, 1) := by decide +kernel
theorem dX11_restore_3 : decode cX11_restore 3 = .ok (.invokestatic 55, 3) := by decide +kernel
theorem dX11_restore_6 : decode cX11_restore 6 = .ok (.ifCond .ne 6, 3) := by decide +kernel
theorem dX11_restore_9 : decode cX11_restore 9 = .ok (.bipush (-2), 2) := by decide +kernel
theorem dX11_restore_11 : decode cX11_restore 11 = .ok (.ireturn, 1) := by decide +kernel
theorem dX11_restore_12 : decode cX11_restore 12 = .ok (.aload_n 0, 1) := by decide +kernel
theorem dX11_restore_13 : decode cX11_restore 13 = .ok (.getfield 23, 3) := by decide +kernel
theorem dX11_restore_16 : decode cX11_restore 16 = .ok (.iload_n 1, 1) := by decide +kernel
theorem dX11_restore_17 : decode cX11_restore 17 = .ok (.aaload, 1) := by decide +kernel
theorem dX11_restore_18 : decode cX11_restore 18 = .ok (.ifnonnull 6, 3) := by decide +kernel
theorem dX11_restore_21 : decode cX11_restore 21 = .ok (.bipush (-3), 2) := by decide +kernel
theorem dX11_restore_23 : decode cX11_restore 23 = .ok (.ireturn, 1) := by decide +kernel
theorem dX11_restore_24 : decode cX11_restore 24 = .ok (.aload_n 0, 1) := by decide +kernel
theorem dX11_restore_25 : decode cX11_restore 25 = .ok (.getfield 19, 3) := by decide +kernel
theorem dX11_restore_28 : decode cX11_restore 28 = .ok (.aload_n 0, 1) := by decide +kernel
theorem dX11_restore_29 : decode cX11_restore 29 = .ok (.getfield 23, 3) := by decide +kernel
theorem dX11_restore_32 : decode cX11_restore 32 = .ok (.iload_n 1, 1) := by decide +kernel
theorem dX11_restore_33 : decode cX11_restore 33 = .ok (.aaload, 1) := by decide +kernel
theorem dX11_restore_34 : decode cX11_restore 34 = .ok (.invokevirtual 150, 3) := by decide +kernel
theorem dX11_restore_37 : decode cX11_restore 37 = .ok (.iconst 1, 1) := by decide +kernel
theorem dX11_restore_38 : decode cX11_restore 38 = .ok (.ireturn, 1) := by decide +kernel
noncomputable def b_X11_restore (a0 : Nat) (x1 : Int32) (M : Me) : Option (Int32 × Me) :=
  cP (f_X11_isWithin x1 (0 : Int32) (1 : Int32) M) fun v1 =>
  if v1 = 0 then (
    some ((-2 : Int32), M)
  ) else (
    gr M a0 11 2 fun o2 =>
    lo M o2 24 x1 fun z => if z = none then (
      some ((-3 : Int32), M)
    ) else (
      gr M a0 11 1 fun o3 =>
      gr M a0 11 2 fun o4 =>
      lr M o4 24 x1 fun o5 =>
      cM (f_X0_copy o3 o5 M) fun M6 =>
      some ((1 : Int32), M6)
    )
  )
noncomputable def f_X11_restore (a0 : Nat) (x1 : Int32) (M : Me) : Option (Int32 × Me) := ck M a0 11 (b_X11_restore a0 x1 M)
set_option maxRecDepth 20000 in
theorem vb_X11_restore (d : Nat) (hd : 3 ≤ d) (a0 : Nat) (x1 : Int32) (M : Me) : V (mX11_restore, d, 0, 0) (0, 0) M 0 [some (.ref a0), some (.int x1)] [] (b_X11_restore a0 x1 M) (fun z => some (some (.int z.1), z.2)) := by
  unfold b_X11_restore
  refine v_iload_n (q := 1) dX11_restore_0 rfl rfl rfl ?_
  refine v_iconst (q := 2) dX11_restore_1 rfl ic_0 ?_
  refine v_iconst (q := 3) dX11_restore_2 rfl ic_1 ?_
  refine v_cPS3 (q := 6) (ct_X11_isWithin (d - 1) (by omega) _ _ _ _) dX11_restore_3 rfl cc_X11_55 (by omega) (Nat.le_of_ble_eq_true rfl) ⟨Nat.le_of_ble_eq_true rfl, Nat.le_of_ble_eq_true rfl⟩ (fun v1 => ?_)
  refine v_if_ne (tgt := 12) (q := 9) dX11_restore_6 rfl rfl ?_ ?_
  · refine v_aload_n (q := 13) dX11_restore_12 rfl rfl rfl ?_
    refine v_getRb (q := 16) dX11_restore_13 rfl fg_X11_23 (fun o2 => ?_)
    refine v_iload_n (q := 17) dX11_restore_16 rfl rfl rfl ?_
    refine v_aaloadN (q := 18) (t0 := 4) (q2 := 21) (tgt := 24) dX11_restore_17 rfl (Nat.le_of_ble_eq_true rfl) (fun _ => rfl) dX11_restore_18 rfl rfl ?_ ?_
    · refine v_aload_n (q := 25) dX11_restore_24 rfl rfl rfl ?_
      refine v_getRb (q := 28) dX11_restore_25 rfl fg_X11_19 (fun o3 => ?_)
      refine v_aload_n (q := 29) dX11_restore_28 rfl rfl rfl ?_
      refine v_getRb (q := 32) dX11_restore_29 rfl fg_X11_23 (fun o4 => ?_)
      refine v_iload_n (q := 33) dX11_restore_32 rfl rfl rfl ?_
      refine v_aaload (q := 34) (t0 := 4) dX11_restore_33 rfl (Nat.le_of_ble_eq_true rfl) (fun _ => rfl) (fun o5 => ?_)
      refine v_cMV1 (q := 37) (ct_X0_copy (d - 1) (by omega) _ _ _) dX11_restore_34 rfl cc_X11_150 (by omega) (Nat.le_of_ble_eq_true rfl) ⟨Nat.le_of_ble_eq_true rfl, Nat.le_of_ble_eq_true rfl⟩ (fun M6 => ?_)
      refine v_iconst (q := 38) dX11_restore_37 rfl ic_1 ?_
      exact v_iret rfl dX11_restore_38 ⟨Nat.le_of_ble_eq_true rfl, Nat.le_of_ble_eq_true rfl⟩ rfl
    · refine v_bipush (q := 23) dX11_restore_21 rfl bp_m3 ?_
      exact v_iret rfl dX11_restore_23 ⟨Nat.le_of_ble_eq_true rfl, Nat.le_of_ble_eq_true rfl⟩ rfl
  · refine v_bipush (q := 11) dX11_restore_9 rfl bp_m2 ?_
    exact v_iret rfl dX11_restore_11 ⟨Nat.le_of_ble_eq_true rfl, Nat.le_of_ble_eq_true rfl⟩ rfl
theorem ct_X11_restore (d : Nat) (hd : 3 ≤ d) (a0 : Nat) (x1 : Int32) (M : Me) (r : Int32) (M2 : Me) (hf : f_X11_restore a0 x1 M = some (r, M2)) : me_k M a0 = some (11, nf_c 11) ∧ Ct yX11_restore mX11_restore d 0 0 [.ref a0, .int x1] M (some (.int r), M2) := by
  obtain ⟨hk, hb⟩ := ck_some hf
  exact ⟨hk, ct_of (by decide +kernel) rfl rfl (Nat.le_of_ble_eq_true rfl) (vb_X11_restore d hd a0 x1 M) (by rw [hb]; rfl)⟩
theorem dX11_toldOfKnight_0 : decode cX11_toldOfKnight 0 = .ok (.aload_n 0, 1) := by decide +kernel
theorem dX11_toldOfKnight_1 : decode cX11_toldOfKnight 1 = .ok (.getfield 19, 3) := by decide +kernel
theorem dX11_toldOfKnight_4 : decode cX11_toldOfKnight 4 = .ok (.iload_n 1, 1) := by decide +kernel
theorem dX11_toldOfKnight_5 : decode cX11_toldOfKnight 5 = .ok (.bipush 10, 2) := by decide +kernel
theorem dX11_toldOfKnight_7 : decode cX11_toldOfKnight 7 = .ok (.idiv, 1) := by decide +kernel
theorem dX11_toldOfKnight_8 : decode cX11_toldOfKnight 8 = .ok (.iconst 1, 1) := by decide +kernel
theorem dX11_toldOfKnight_9 : decode cX11_toldOfKnight 9 = .ok (.isub, 1) := by decide +kernel
theorem dX11_toldOfKnight_10 : decode cX11_toldOfKnight 10 = .ok (.invokevirtual 97, 3) := by decide +kernel
theorem dX11_toldOfKnight_13 : decode cX11_toldOfKnight 13 = .ok (.astore_n 2, 1) := by decide +kernel
theorem dX11_toldOfKnight_14 : decode cX11_toldOfKnight 14 = .ok (.iload_n 1, 1) := by decide +kernel
theorem dX11_toldOfKnight_15 : decode cX11_toldOfKnight 15 = .ok (.bipush 10, 2) := by decide +kernel
theorem dX11_toldOfKnight_17 : decode cX11_toldOfKnight 17 = .ok (.irem, 1) := by decide +kernel
theorem dX11_toldOfKnight_18 : decode cX11_toldOfKnight 18 = .ok (.istore_n 3, 1) := by decide +kernel
theorem dX11_toldOfKnight_19 : decode cX11_toldOfKnight 19 = .ok (.aload_n 2, 1) := by decide +kernel
theorem dX11_toldOfKnight_20 : decode cX11_toldOfKnight 20 = .ok (.getfield 101, 3) := by decide +kernel
theorem dX11_toldOfKnight_23 : decode cX11_toldOfKnight 23 = .ok (.ifCond .eq 12, 3) := by decide +kernel
theorem dX11_toldOfKnight_26 : decode cX11_toldOfKnight 26 = .ok (.iload_n 3, 1) := by decide +kernel
theorem dX11_toldOfKnight_27 : decode cX11_toldOfKnight 27 = .ok (.iconst 0, 1) := by decide +kernel
theorem dX11_toldOfKnight_28 : decode cX11_toldOfKnight 28 = .ok (.iconst 1, 1) := by decide +kernel
theorem dX11_toldOfKnight_29 : decode cX11_toldOfKnight 29 = .ok (.invokestatic 55, 3) := by decide +kernel
theorem dX11_toldOfKnight_32 : decode cX11_toldOfKnight 32 = .ok (.ifCond .ne 6, 3) := by decide +kernel
theorem dX11_toldOfKnight_35 : decode cX11_toldOfKnight 35 = .ok (.bipush (-2), 2) := by decide +kernel
theorem dX11_toldOfKnight_37 : decode cX11_toldOfKnight 37 = .ok (.ireturn, 1) := by decide +kernel
theorem dX11_toldOfKnight_38 : decode cX11_toldOfKnight 38 = .ok (.iload_n 3, 1) := by decide +kernel
theorem dX11_toldOfKnight_39 : decode cX11_toldOfKnight 39 = .ok (.ifCond .ne 10, 3) := by decide +kernel
theorem dX11_toldOfKnight_42 : decode cX11_toldOfKnight 42 = .ok (.aload_n 2, 1) := by decide +kernel
theorem dX11_toldOfKnight_43 : decode cX11_toldOfKnight 43 = .ok (.getfield 288, 3) := by decide +kernel
theorem dX11_toldOfKnight_46 : decode cX11_toldOfKnight 46 = .ok (.goto 7, 3) := by decide +kernel
theorem dX11_toldOfKnight_49 : decode cX11_toldOfKnight 49 = .ok (.aload_n 2, 1) := by decide +kernel
theorem dX11_toldOfKnight_50 : decode cX11_toldOfKnight 50 = .ok (.getfield 291, 3) := by decide +kernel
theorem dX11_toldOfKnight_53 : decode cX11_toldOfKnight 53 = .ok (.ireturn, 1) := by decide +kernel
noncomputable def b_X11_toldOfKnight (a0 : Nat) (x1 : Int32) (M : Me) : Option (Int32) :=
  gr M a0 11 1 fun o1 =>
  cR (f_X0_knightAt o1 ((x1 / (10 : Int32)) - (1 : Int32)) M) fun o2 =>
  let_v ((x1 - x1 / (10 : Int32) * (10 : Int32))) fun v3 =>
  gi M o2 4 0 fun v4 =>
  if v4 = 0 then (
    some (-2 : Int32)
  ) else (
    cP (f_X11_isWithin v3 (0 : Int32) (1 : Int32) M) fun v5 =>
    if v5 = 0 then (
      some (-2 : Int32)
    ) else (
      (
        if v3 = 0 then (
          gi M o2 4 2 fun v7 =>
          some v7
        ) else (
          gi M o2 4 1 fun v6 =>
          some v6
        )
      ).bind fun v8 =>
      some v8
    )
  )
noncomputable def f_X11_toldOfKnight (a0 : Nat) (x1 : Int32) (M : Me) : Option (Int32) := ck M a0 11 (b_X11_toldOfKnight a0 x1 M)
set_option maxRecDepth 20000 in
theorem vb_X11_toldOfKnight (d : Nat) (hd : 1 ≤ d) (a0 : Nat) (x1 : Int32) (M : Me) : V (mX11_toldOfKnight, d, 0, 0) (0, 0) M 0 [some (.ref a0), some (.int x1), none, none] [] (b_X11_toldOfKnight a0 x1 M) (fun z => some (some (.int z), M)) := by
  unfold b_X11_toldOfKnight
  refine v_aload_n (q := 1) dX11_toldOfKnight_0 rfl rfl rfl ?_
  refine v_getRb (q := 4) dX11_toldOfKnight_1 rfl fg_X11_19 (fun o1 => ?_)
  refine v_iload_n (q := 5) dX11_toldOfKnight_4 rfl rfl rfl ?_
  refine v_bipush (q := 7) dX11_toldOfKnight_5 rfl bp_10 ?_
  refine v_idivc (q := 8) dX11_toldOfKnight_7 rfl ne_10 ?_
  refine v_iconst (q := 9) dX11_toldOfKnight_8 rfl ic_1 ?_
  refine v_isub (q := 10) dX11_toldOfKnight_9 rfl ?_
  refine v_cRV1 (q := 13) (ct_X0_knightAt (d - 1) (by omega) _ _ _) dX11_toldOfKnight_10 rfl cc_X11_97 (by omega) (Nat.le_of_ble_eq_true rfl) ⟨Nat.le_of_ble_eq_true rfl, Nat.le_of_ble_eq_true rfl⟩ (fun o2 => ?_)
  refine v_astore_n (q := 14) (loc2 := [some (.ref a0), some (.int x1), some (.ref o2), none]) dX11_toldOfKnight_13 rfl rfl rfl (Nat.le_of_ble_eq_true rfl) rfl ?_
  refine v_iload_n (q := 15) dX11_toldOfKnight_14 rfl rfl rfl ?_
  refine v_bipush (q := 17) dX11_toldOfKnight_15 rfl bp_10 ?_
  refine v_iremc (q := 18) dX11_toldOfKnight_17 rfl ne_10 ?_
  refine v_letI (fun v3 => ?_)
  refine v_istore_n (q := 19) (loc2 := [some (.ref a0), some (.int x1), some (.ref o2), some (.int v3)]) dX11_toldOfKnight_18 rfl rfl rfl (Nat.le_of_ble_eq_true rfl) rfl ?_
  refine v_aload_n (q := 20) dX11_toldOfKnight_19 rfl rfl rfl ?_
  refine v_getIb (q := 23) dX11_toldOfKnight_20 rfl fg_X11_101 (fun v4 => ?_)
  refine v_if_eq (tgt := 35) (q := 26) dX11_toldOfKnight_23 rfl rfl ?_ ?_
  · refine v_bipush (q := 37) dX11_toldOfKnight_35 rfl bp_m2 ?_
    exact v_iret rfl dX11_toldOfKnight_37 ⟨Nat.le_of_ble_eq_true rfl, Nat.le_of_ble_eq_true rfl⟩ rfl
  · refine v_iload_n (q := 27) dX11_toldOfKnight_26 rfl rfl rfl ?_
    refine v_iconst (q := 28) dX11_toldOfKnight_27 rfl ic_0 ?_
    refine v_iconst (q := 29) dX11_toldOfKnight_28 rfl ic_1 ?_
    refine v_cPS3 (q := 32) (ct_X11_isWithin (d - 1) (by omega) _ _ _ _) dX11_toldOfKnight_29 rfl cc_X11_55 (by omega) (Nat.le_of_ble_eq_true rfl) ⟨Nat.le_of_ble_eq_true rfl, Nat.le_of_ble_eq_true rfl⟩ (fun v5 => ?_)
    refine v_if_ne (tgt := 38) (q := 35) dX11_toldOfKnight_32 rfl rfl ?_ ?_
    · refine v_iload_n (q := 39) dX11_toldOfKnight_38 rfl rfl rfl ?_
      refine v_join (γ := Int32) 53 (fun v8 => M) (fun v8 => [some (.ref a0), some (.int x1), some (.ref o2), some (.int v3)]) (fun v8 => [.int v8]) (fun K hK => ?_) (fun v8 => ?_)
      · refine v_if_ne (tgt := 49) (q := 42) dX11_toldOfKnight_39 rfl rfl ?_ ?_
        · refine v_aload_n (q := 50) dX11_toldOfKnight_49 rfl rfl rfl ?_
          refine v_getIb (q := 53) dX11_toldOfKnight_50 rfl fg_X11_291 (fun v6 => ?_)
          exact hK v6
        · refine v_aload_n (q := 43) dX11_toldOfKnight_42 rfl rfl rfl ?_
          refine v_getIb (q := 46) dX11_toldOfKnight_43 rfl fg_X11_288 (fun v7 => ?_)
          refine v_goto (tgt := 53) dX11_toldOfKnight_46 rfl ?_
          exact hK v7
      · exact v_iret rfl dX11_toldOfKnight_53 ⟨Nat.le_of_ble_eq_true rfl, Nat.le_of_ble_eq_true rfl⟩ rfl
    · refine v_bipush (q := 37) dX11_toldOfKnight_35 rfl bp_m2 ?_
      exact v_iret rfl dX11_toldOfKnight_37 ⟨Nat.le_of_ble_eq_true rfl, Nat.le_of_ble_eq_true rfl⟩ rfl
theorem ct_X11_toldOfKnight (d : Nat) (hd : 1 ≤ d) (a0 : Nat) (x1 : Int32) (M : Me) (r : Int32) (hf : f_X11_toldOfKnight a0 x1 M = some r) : me_k M a0 = some (11, nf_c 11) ∧ Ct yX11_toldOfKnight mX11_toldOfKnight d 0 0 [.ref a0, .int x1] M (some (.int r), M) := by
  obtain ⟨hk, hb⟩ := ck_some hf
  exact ⟨hk, ct_of (by decide +kernel) rfl rfl (Nat.le_of_ble_eq_true rfl) (vb_X11_toldOfKnight d hd a0 x1 M) (by rw [hb]; rfl)⟩
theorem dX11_toldOfRoad_0 : decode cX11_toldOfRoad 0 = .ok (.iload_n 1, 1) := by decide +kernel
theorem dX11_toldOfRoad_1 : decode cX11_toldOfRoad 1 = .ok (.bipush 100, 2) := by decide +kernel
theorem dX11_toldOfRoad_3 : decode cX11_toldOfRoad 3 = .ok (.idiv, 1) := by decide +kernel
theorem dX11_toldOfRoad_4 : decode cX11_toldOfRoad 4 = .ok (.iconst 1, 1) := by decide +kernel
theorem dX11_toldOfRoad_5 : decode cX11_toldOfRoad 5 = .ok (.isub, 1) := by decide +kernel
theorem dX11_toldOfRoad_6 : decode cX11_toldOfRoad 6 = .ok (.istore_n 2, 1) := by decide +kernel
theorem dX11_toldOfRoad_7 : decode cX11_toldOfRoad 7 = .ok (.iload_n 1, 1) := by decide +kernel
theorem dX11_toldOfRoad_8 : decode cX11_toldOfRoad 8 = .ok (.bipush 100, 2) := by decide +kernel
theorem dX11_toldOfRoad_10 : decode cX11_toldOfRoad 10 = .ok (.irem, 1) := by decide +kernel
theorem dX11_toldOfRoad_11 : decode cX11_toldOfRoad 11 = .ok (.istore_n 3, 1) := by decide +kernel
theorem dX11_toldOfRoad_12 : decode cX11_toldOfRoad 12 = .ok (.aload_n 0, 1) := by decide +kernel
theorem dX11_toldOfRoad_13 : decode cX11_toldOfRoad 13 = .ok (.getfield 19, 3) := by decide +kernel
theorem dX11_toldOfRoad_16 : decode cX11_toldOfRoad 16 = .ok (.getfield 59, 3) := by decide +kernel
theorem dX11_toldOfRoad_19 : decode cX11_toldOfRoad 19 = .ok (.iload_n 2, 1) := by decide +kernel
theorem dX11_toldOfRoad_20 : decode cX11_toldOfRoad 20 = .ok (.invokevirtual 73, 3) := by decide +kernel
theorem dX11_toldOfRoad_23 : decode cX11_toldOfRoad 23 = .ok (.ifCond .eq 22, 3) := by decide +kernel
theorem dX11_toldOfRoad_26 : decode cX11_toldOfRoad 26 = .ok (.aload_n 0, 1) := by decide +kernel
theorem dX11_toldOfRoad_27 : decode cX11_toldOfRoad 27 = .ok (.getfield 19, 3) := by decide +kernel
theorem dX11_toldOfRoad_30 : decode cX11_toldOfRoad 30 = .ok (.getfield 59, 3) := by decide +kernel
theorem dX11_toldOfRoad_33 : decode cX11_toldOfRoad 33 = .ok (.iload_n 3, 1) := by decide +kernel
theorem dX11_toldOfRoad_34 : decode cX11_toldOfRoad 34 = .ok (.invokevirtual 73, 3) := by decide +kernel
theorem dX11_toldOfRoad_37 : decode cX11_toldOfRoad 37 = .ok (.ifCond .eq 8, 3) := by decide +kernel
theorem dX11_toldOfRoad_40 : decode cX11_toldOfRoad 40 = .ok (.iload_n 2, 1) := by decide +kernel
theorem dX11_toldOfRoad_41 : decode cX11_toldOfRoad 41 = .ok (.iload_n 3, 1) := by decide +kernel
theorem dX11_toldOfRoad_42 : decode cX11_toldOfRoad 42 = .ok (.if_icmp .ne 6, 3) := by decide +kernel
theorem dX11_toldOfRoad_45 : decode cX11_toldOfRoad 45 = .ok (.bipush (-2), 2) := by decide +kernel
theorem dX11_toldOfRoad_47 : decode cX11_toldOfRoad 47 = .ok (.ireturn, 1) := by decide +kernel
theorem dX11_toldOfRoad_48 : decode cX11_toldOfRoad 48 = .ok (.aload_n 0, 1) := by decide +kernel
theorem dX11_toldOfRoad_49 : decode cX11_toldOfRoad 49 = .ok (.getfield 19, 3) := by decide +kernel
theorem dX11_toldOfRoad_52 : decode cX11_toldOfRoad 52 = .ok (.getfield 59, 3) := by decide +kernel
theorem dX11_toldOfRoad_55 : decode cX11_toldOfRoad 55 = .ok (.iload_n 2, 1) := by decide +kernel
theorem dX11_toldOfRoad_56 : decode cX11_toldOfRoad 56 = .ok (.iload_n 3, 1) := by decide +kernel
theorem dX11_toldOfRoad_57 : decode cX11_toldOfRoad 57 = .ok (.invokevirtual 77, 3) := by decide +kernel
theorem dX11_toldOfRoad_60 : decode cX11_toldOfRoad 60 = .ok (.ireturn, 1) := by decide +kernel
noncomputable def b_X11_toldOfRoad (a0 : Nat) (x1 : Int32) (M : Me) : Option (Int32) :=
  let_v (((x1 / (100 : Int32)) - (1 : Int32))) fun v1 =>
  let_v ((x1 - x1 / (100 : Int32) * (100 : Int32))) fun v2 =>
  gr M a0 11 1 fun o3 =>
  gr M o3 0 0 fun o4 =>
  cP (f_X5_hasChapel o4 v1 M) fun v5 =>
  if v5 = 0 then (
    some (-2 : Int32)
  ) else (
    gr M a0 11 1 fun o6 =>
    gr M o6 0 0 fun o7 =>
    cP (f_X5_hasChapel o7 v2 M) fun v8 =>
    if v8 = 0 then (
      some (-2 : Int32)
    ) else (
      if v1 = v2 then (
        some (-2 : Int32)
      ) else (
        gr M a0 11 1 fun o9 =>
        gr M o9 0 0 fun o10 =>
        cP (f_X5_roadDays o10 v1 v2 M) fun v11 =>
        some v11
      )
    )
  )
noncomputable def f_X11_toldOfRoad (a0 : Nat) (x1 : Int32) (M : Me) : Option (Int32) := ck M a0 11 (b_X11_toldOfRoad a0 x1 M)
set_option maxRecDepth 20000 in
theorem vb_X11_toldOfRoad (d : Nat) (hd : 1 ≤ d) (a0 : Nat) (x1 : Int32) (M : Me) : V (mX11_toldOfRoad, d, 0, 0) (0, 0) M 0 [some (.ref a0), some (.int x1), none, none] [] (b_X11_toldOfRoad a0 x1 M) (fun z => some (some (.int z), M)) := by
  unfold b_X11_toldOfRoad
  refine v_iload_n (q := 1) dX11_toldOfRoad_0 rfl rfl rfl ?_
  refine v_bipush (q := 3) dX11_toldOfRoad_1 rfl bp_100 ?_
  refine v_idivc (q := 4) dX11_toldOfRoad_3 rfl ne_100 ?_
  refine v_iconst (q := 5) dX11_toldOfRoad_4 rfl ic_1 ?_
  refine v_isub (q := 6) dX11_toldOfRoad_5 rfl ?_
  refine v_letI (fun v1 => ?_)
  refine v_istore_n (q := 7) (loc2 := [some (.ref a0), some (.int x1), some (.int v1), none]) dX11_toldOfRoad_6 rfl rfl rfl (Nat.le_of_ble_eq_true rfl) rfl ?_
  refine v_iload_n (q := 8) dX11_toldOfRoad_7 rfl rfl rfl ?_
  refine v_bipush (q := 10) dX11_toldOfRoad_8 rfl bp_100 ?_
  refine v_iremc (q := 11) dX11_toldOfRoad_10 rfl ne_100 ?_
  refine v_letI (fun v2 => ?_)
  refine v_istore_n (q := 12) (loc2 := [some (.ref a0), some (.int x1), some (.int v1), some (.int v2)]) dX11_toldOfRoad_11 rfl rfl rfl (Nat.le_of_ble_eq_true rfl) rfl ?_
  refine v_aload_n (q := 13) dX11_toldOfRoad_12 rfl rfl rfl ?_
  refine v_getRb (q := 16) dX11_toldOfRoad_13 rfl fg_X11_19 (fun o3 => ?_)
  refine v_getRb (q := 19) dX11_toldOfRoad_16 rfl fg_X11_59 (fun o4 => ?_)
  refine v_iload_n (q := 20) dX11_toldOfRoad_19 rfl rfl rfl ?_
  refine v_cPV1 (q := 23) (ct_X5_hasChapel (d - 1) (by omega) _ _ _) dX11_toldOfRoad_20 rfl cc_X11_73 (by omega) (Nat.le_of_ble_eq_true rfl) ⟨Nat.le_of_ble_eq_true rfl, Nat.le_of_ble_eq_true rfl⟩ (fun v5 => ?_)
  refine v_if_eq (tgt := 45) (q := 26) dX11_toldOfRoad_23 rfl rfl ?_ ?_
  · refine v_bipush (q := 47) dX11_toldOfRoad_45 rfl bp_m2 ?_
    exact v_iret rfl dX11_toldOfRoad_47 ⟨Nat.le_of_ble_eq_true rfl, Nat.le_of_ble_eq_true rfl⟩ rfl
  · refine v_aload_n (q := 27) dX11_toldOfRoad_26 rfl rfl rfl ?_
    refine v_getRb (q := 30) dX11_toldOfRoad_27 rfl fg_X11_19 (fun o6 => ?_)
    refine v_getRb (q := 33) dX11_toldOfRoad_30 rfl fg_X11_59 (fun o7 => ?_)
    refine v_iload_n (q := 34) dX11_toldOfRoad_33 rfl rfl rfl ?_
    refine v_cPV1 (q := 37) (ct_X5_hasChapel (d - 1) (by omega) _ _ _) dX11_toldOfRoad_34 rfl cc_X11_73 (by omega) (Nat.le_of_ble_eq_true rfl) ⟨Nat.le_of_ble_eq_true rfl, Nat.le_of_ble_eq_true rfl⟩ (fun v8 => ?_)
    refine v_if_eq (tgt := 45) (q := 40) dX11_toldOfRoad_37 rfl rfl ?_ ?_
    · refine v_bipush (q := 47) dX11_toldOfRoad_45 rfl bp_m2 ?_
      exact v_iret rfl dX11_toldOfRoad_47 ⟨Nat.le_of_ble_eq_true rfl, Nat.le_of_ble_eq_true rfl⟩ rfl
    · refine v_iload_n (q := 41) dX11_toldOfRoad_40 rfl rfl rfl ?_
      refine v_iload_n (q := 42) dX11_toldOfRoad_41 rfl rfl rfl ?_
      refine v_icmp_ne (tgt := 48) (q := 45) dX11_toldOfRoad_42 rfl rfl ?_ ?_
      · refine v_aload_n (q := 49) dX11_toldOfRoad_48 rfl rfl rfl ?_
        refine v_getRb (q := 52) dX11_toldOfRoad_49 rfl fg_X11_19 (fun o9 => ?_)
        refine v_getRb (q := 55) dX11_toldOfRoad_52 rfl fg_X11_59 (fun o10 => ?_)
        refine v_iload_n (q := 56) dX11_toldOfRoad_55 rfl rfl rfl ?_
        refine v_iload_n (q := 57) dX11_toldOfRoad_56 rfl rfl rfl ?_
        refine v_cPV2 (q := 60) (ct_X5_roadDays (d - 1) (by omega) _ _ _ _) dX11_toldOfRoad_57 rfl cc_X11_77 (by omega) (Nat.le_of_ble_eq_true rfl) ⟨Nat.le_of_ble_eq_true rfl, Nat.le_of_ble_eq_true rfl⟩ (fun v11 => ?_)
        exact v_iret rfl dX11_toldOfRoad_60 ⟨Nat.le_of_ble_eq_true rfl, Nat.le_of_ble_eq_true rfl⟩ rfl
      · refine v_bipush (q := 47) dX11_toldOfRoad_45 rfl bp_m2 ?_
        exact v_iret rfl dX11_toldOfRoad_47 ⟨Nat.le_of_ble_eq_true rfl, Nat.le_of_ble_eq_true rfl⟩ rfl
theorem ct_X11_toldOfRoad (d : Nat) (hd : 1 ≤ d) (a0 : Nat) (x1 : Int32) (M : Me) (r : Int32) (hf : f_X11_toldOfRoad a0 x1 M = some r) : me_k M a0 = some (11, nf_c 11) ∧ Ct yX11_toldOfRoad mX11_toldOfRoad d 0 0 [.ref a0, .int x1] M (some (.int r), M) := by
  obtain ⟨hk, hb⟩ := ck_some hf
  exact ⟨hk, ct_of (by decide +kernel) rfl rfl (Nat.le_of_ble_eq_true rfl) (vb_X11_toldOfRoad d hd a0 x1 M) (by rw [hb]; rfl)⟩
theorem dX11_told_0 : decode cX11_told 0 = .ok (.iload_n 1, 1) := by decide +kernel
theorem dX11_told_1 : decode cX11_told 1 = .ok (.tableswitch 96 0 5 #[39, 47, 58, 66, 74, 85], 39) := by decide +kernel
theorem dX11_told_40 : decode cX11_told 40 = .ok (.aload_n 0, 1) := by decide +kernel
theorem dX11_told_41 : decode cX11_told 41 = .ok (.getfield 10, 3) := by decide +kernel
theorem dX11_told_44 : decode cX11_told 44 = .ok (.getfield 126, 3) := by decide +kernel
theorem dX11_told_47 : decode cX11_told 47 = .ok (.ireturn, 1) := by decide +kernel
theorem dX11_told_48 : decode cX11_told 48 = .ok (.aload_n 0, 1) := by decide +kernel
theorem dX11_told_49 : decode cX11_told 49 = .ok (.getfield 19, 3) := by decide +kernel
theorem dX11_told_52 : decode cX11_told 52 = .ok (.getfield 59, 3) := by decide +kernel
theorem dX11_told_55 : decode cX11_told 55 = .ok (.getfield 63, 3) := by decide +kernel
theorem dX11_told_58 : decode cX11_told 58 = .ok (.ireturn, 1) := by decide +kernel
theorem dX11_told_59 : decode cX11_told 59 = .ok (.aload_n 0, 1) := by decide +kernel
theorem dX11_told_60 : decode cX11_told 60 = .ok (.getfield 19, 3) := by decide +kernel
theorem dX11_told_63 : decode cX11_told 63 = .ok (.invokevirtual 276, 3) := by decide +kernel
theorem dX11_told_66 : decode cX11_told 66 = .ok (.ireturn, 1) := by decide +kernel
theorem dX11_told_67 : decode cX11_told 67 = .ok (.aload_n 0, 1) := by decide +kernel
theorem dX11_told_68 : decode cX11_told 68 = .ok (.getfield 19, 3) := by decide +kernel
theorem dX11_told_71 : decode cX11_told 71 = .ok (.getfield 279, 3) := by decide +kernel
theorem dX11_told_74 : decode cX11_told 74 = .ok (.ireturn, 1) := by decide +kernel
theorem dX11_told_75 : decode cX11_told 75 = .ok (.aload_n 0, 1) := by decide +kernel
theorem dX11_told_76 : decode cX11_told 76 = .ok (.getfield 19, 3) := by decide +kernel
theorem dX11_told_79 : decode cX11_told 79 = .ok (.getfield 59, 3) := by decide +kernel
theorem dX11_told_82 : decode cX11_told 82 = .ok (.getfield 94, 3) := by decide +kernel
theorem dX11_told_85 : decode cX11_told 85 = .ok (.ireturn, 1) := by decide +kernel
theorem dX11_told_86 : decode cX11_told 86 = .ok (.aload_n 0, 1) := by decide +kernel
theorem dX11_told_87 : decode cX11_told 87 = .ok (.getfield 19, 3) := by decide +kernel
theorem dX11_told_90 : decode cX11_told 90 = .ok (.getfield 237, 3) := by decide +kernel
theorem dX11_told_93 : decode cX11_told 93 = .ok (.getfield 241, 3) := by decide +kernel
theorem dX11_told_96 : decode cX11_told 96 = .ok (.ireturn, 1) := by decide +kernel
theorem dX11_told_97 : decode cX11_told 97 = .ok (.iload_n 1, 1) := by decide +kernel
theorem dX11_told_98 : decode cX11_told 98 = .ok (.bipush 100, 2) := by decide +kernel
theorem dX11_told_100 : decode cX11_told 100 = .ok (.if_icmp .ge 11, 3) := by decide +kernel
theorem dX11_told_103 : decode cX11_told 103 = .ok (.aload_n 0, 1) := by decide +kernel
theorem dX11_told_104 : decode cX11_told 104 = .ok (.iload_n 1, 1) := by decide +kernel
theorem dX11_told_105 : decode cX11_told 105 = .ok (.invokevirtual 282, 3) := by decide +kernel
theorem dX11_told_108 : decode cX11_told 108 = .ok (.goto 8, 3) := by decide +kernel
theorem dX11_told_111 : decode cX11_told 111 = .ok (.aload_n 0, 1) := by decide +kernel
theorem dX11_told_112 : decode cX11_told 112 = .ok (.iload_n 1, 1) := by decide +kernel
theorem dX11_told_113 : decode cX11_told 113 = .ok (.invokevirtual 285, 3) := by decide +kernel
theorem dX11_told_116 : decode cX11_told 116 = .ok (.ireturn, 1) := by decide +kernel
noncomputable def b_X11_told (a0 : Nat) (x1 : Int32) (M : Me) : Option (Int32) :=
  if x1 = (0 : Int32) then (
    gr M a0 11 0 fun o1 =>
    gi M o1 7 0 fun v2 =>
    some v2
  ) else (
    if x1 = (1 : Int32) then (
      gr M a0 11 1 fun o3 =>
      gr M o3 0 0 fun o4 =>
      gi M o4 5 0 fun v5 =>
      some v5
    ) else (
      if x1 = (2 : Int32) then (
        gr M a0 11 1 fun o6 =>
        cP (f_X0_knightBits o6 M) fun v7 =>
        some v7
      ) else (
        if x1 = (3 : Int32) then (
          gr M a0 11 1 fun o8 =>
          gi M o8 0 5 fun v9 =>
          some v9
        ) else (
          if x1 = (4 : Int32) then (
            gr M a0 11 1 fun o10 =>
            gr M o10 0 0 fun o11 =>
            gi M o11 5 1 fun v12 =>
            some v12
          ) else (
            if x1 = (5 : Int32) then (
              gr M a0 11 1 fun o13 =>
              gr M o13 0 3 fun o14 =>
              gi M o14 9 0 fun v15 =>
              some v15
            ) else (
              (
                if (100 : Int32) ≤ x1 then (
                  cP (f_X11_toldOfRoad a0 x1 M) fun v16 =>
                  some v16
                ) else (
                  cP (f_X11_toldOfKnight a0 x1 M) fun v17 =>
                  some v17
                )
              ).bind fun v18 =>
              some v18
            )
          )
        )
      )
    )
  )
noncomputable def f_X11_told (a0 : Nat) (x1 : Int32) (M : Me) : Option (Int32) := ck M a0 11 (b_X11_told a0 x1 M)
set_option maxRecDepth 20000 in
theorem vb_X11_told (d : Nat) (hd : 2 ≤ d) (a0 : Nat) (x1 : Int32) (M : Me) : V (mX11_told, d, 0, 0) (0, 0) M 0 [some (.ref a0), some (.int x1)] [] (b_X11_told a0 x1 M) (fun z => some (some (.int z), M)) := by
  unfold b_X11_told
  refine v_iload_n (q := 1) dX11_told_0 rfl rfl rfl ?_
  refine v_ite (fun h0 => ?_) (fun h0 => ?_)
  · refine v_tbl_in (cst := (0 : Int32)) (off := 39) (tgt := 40) dX11_told_1 h0 (by decide) (by decide) (by decide) rfl ?_
    refine v_aload_n (q := 41) dX11_told_40 rfl rfl rfl ?_
    refine v_getRb (q := 44) dX11_told_41 rfl fg_X11_10 (fun o1 => ?_)
    refine v_getIb (q := 47) dX11_told_44 rfl fg_X11_126 (fun v2 => ?_)
    exact v_iret rfl dX11_told_47 ⟨Nat.le_of_ble_eq_true rfl, Nat.le_of_ble_eq_true rfl⟩ rfl
  · refine v_ite (fun h1 => ?_) (fun h1 => ?_)
    · refine v_tbl_in (cst := (1 : Int32)) (off := 47) (tgt := 48) dX11_told_1 h1 (by decide) (by decide) (by decide) rfl ?_
      refine v_aload_n (q := 49) dX11_told_48 rfl rfl rfl ?_
      refine v_getRb (q := 52) dX11_told_49 rfl fg_X11_19 (fun o3 => ?_)
      refine v_getRb (q := 55) dX11_told_52 rfl fg_X11_59 (fun o4 => ?_)
      refine v_getIb (q := 58) dX11_told_55 rfl fg_X11_63 (fun v5 => ?_)
      exact v_iret rfl dX11_told_58 ⟨Nat.le_of_ble_eq_true rfl, Nat.le_of_ble_eq_true rfl⟩ rfl
    · refine v_ite (fun h2 => ?_) (fun h2 => ?_)
      · refine v_tbl_in (cst := (2 : Int32)) (off := 58) (tgt := 59) dX11_told_1 h2 (by decide) (by decide) (by decide) rfl ?_
        refine v_aload_n (q := 60) dX11_told_59 rfl rfl rfl ?_
        refine v_getRb (q := 63) dX11_told_60 rfl fg_X11_19 (fun o6 => ?_)
        refine v_cPV0 (q := 66) (ct_X0_knightBits (d - 1) (by omega) _ _) dX11_told_63 rfl cc_X11_276 (by omega) (Nat.le_of_ble_eq_true rfl) ⟨Nat.le_of_ble_eq_true rfl, Nat.le_of_ble_eq_true rfl⟩ (fun v7 => ?_)
        exact v_iret rfl dX11_told_66 ⟨Nat.le_of_ble_eq_true rfl, Nat.le_of_ble_eq_true rfl⟩ rfl
      · refine v_ite (fun h3 => ?_) (fun h3 => ?_)
        · refine v_tbl_in (cst := (3 : Int32)) (off := 66) (tgt := 67) dX11_told_1 h3 (by decide) (by decide) (by decide) rfl ?_
          refine v_aload_n (q := 68) dX11_told_67 rfl rfl rfl ?_
          refine v_getRb (q := 71) dX11_told_68 rfl fg_X11_19 (fun o8 => ?_)
          refine v_getIb (q := 74) dX11_told_71 rfl fg_X11_279 (fun v9 => ?_)
          exact v_iret rfl dX11_told_74 ⟨Nat.le_of_ble_eq_true rfl, Nat.le_of_ble_eq_true rfl⟩ rfl
        · refine v_ite (fun h4 => ?_) (fun h4 => ?_)
          · refine v_tbl_in (cst := (4 : Int32)) (off := 74) (tgt := 75) dX11_told_1 h4 (by decide) (by decide) (by decide) rfl ?_
            refine v_aload_n (q := 76) dX11_told_75 rfl rfl rfl ?_
            refine v_getRb (q := 79) dX11_told_76 rfl fg_X11_19 (fun o10 => ?_)
            refine v_getRb (q := 82) dX11_told_79 rfl fg_X11_59 (fun o11 => ?_)
            refine v_getIb (q := 85) dX11_told_82 rfl fg_X11_94 (fun v12 => ?_)
            exact v_iret rfl dX11_told_85 ⟨Nat.le_of_ble_eq_true rfl, Nat.le_of_ble_eq_true rfl⟩ rfl
          · refine v_ite (fun h5 => ?_) (fun h5 => ?_)
            · refine v_tbl_in (cst := (5 : Int32)) (off := 85) (tgt := 86) dX11_told_1 h5 (by decide) (by decide) (by decide) rfl ?_
              refine v_aload_n (q := 87) dX11_told_86 rfl rfl rfl ?_
              refine v_getRb (q := 90) dX11_told_87 rfl fg_X11_19 (fun o13 => ?_)
              refine v_getRb (q := 93) dX11_told_90 rfl fg_X11_237 (fun o14 => ?_)
              refine v_getIb (q := 96) dX11_told_93 rfl fg_X11_241 (fun v15 => ?_)
              exact v_iret rfl dX11_told_96 ⟨Nat.le_of_ble_eq_true rfl, Nat.le_of_ble_eq_true rfl⟩ rfl
            · refine v_tbl_out (tgt := 97) dX11_told_1 (by have q0 := lv_neT h0 (a := 0) (by decide); have q1 := lv_neT h1 (a := 1) (by decide); have q2 := lv_neT h2 (a := 2) (by decide); have q3 := lv_neT h3 (a := 3) (by decide); have q4 := lv_neT h4 (a := 4) (by decide); have q5 := lv_neT h5 (a := 5) (by decide); omega) rfl ?_
              refine v_iload_n (q := 98) dX11_told_97 rfl rfl rfl ?_
              refine v_bipush (q := 100) dX11_told_98 rfl bp_100 ?_
              refine v_join (γ := Int32) 116 (fun v18 => M) (fun v18 => [some (.ref a0), some (.int x1)]) (fun v18 => [.int v18]) (fun K hK => ?_) (fun v18 => ?_)
              · refine v_icmp_ge (tgt := 111) (q := 103) dX11_told_100 rfl rfl ?_ ?_
                · refine v_aload_n (q := 112) dX11_told_111 rfl rfl rfl ?_
                  refine v_iload_n (q := 113) dX11_told_112 rfl rfl rfl ?_
                  refine v_cPV1 (q := 116) (ct_X11_toldOfRoad (d - 1) (by omega) _ _ _) dX11_told_113 rfl cc_X11_285 (by omega) (Nat.le_of_ble_eq_true rfl) ⟨Nat.le_of_ble_eq_true rfl, Nat.le_of_ble_eq_true rfl⟩ (fun v16 => ?_)
                  exact hK v16
                · refine v_aload_n (q := 104) dX11_told_103 rfl rfl rfl ?_
                  refine v_iload_n (q := 105) dX11_told_104 rfl rfl rfl ?_
                  refine v_cPV1 (q := 108) (ct_X11_toldOfKnight (d - 1) (by omega) _ _ _) dX11_told_105 rfl cc_X11_282 (by omega) (Nat.le_of_ble_eq_true rfl) ⟨Nat.le_of_ble_eq_true rfl, Nat.le_of_ble_eq_true rfl⟩ (fun v17 => ?_)
                  refine v_goto (tgt := 116) dX11_told_108 rfl ?_
                  exact hK v17
              · exact v_iret rfl dX11_told_116 ⟨Nat.le_of_ble_eq_true rfl, Nat.le_of_ble_eq_true rfl⟩ rfl
theorem ct_X11_told (d : Nat) (hd : 2 ≤ d) (a0 : Nat) (x1 : Int32) (M : Me) (r : Int32) (hf : f_X11_told a0 x1 M = some r) : me_k M a0 = some (11, nf_c 11) ∧ Ct yX11_told mX11_told d 0 0 [.ref a0, .int x1] M (some (.int r), M) := by
  obtain ⟨hk, hb⟩ := ck_some hf
  exact ⟨hk, ct_of (by decide +kernel) rfl rfl (Nat.le_of_ble_eq_true rfl) (vb_X11_told d hd a0 x1 M) (by rw [hb]; rfl)⟩
theorem dX12_init_0 : decode cX12_init 0 = .ok (.aload_n 0, 1) := by decide +kernel
theorem dX12_init_1 : decode cX12_init 1 = .ok (.invokespecial 1, 3) := by decide +kernel
theorem dX12_init_4 : decode cX12_init 4 = .ok (.aload_n 0, 1) := by decide +kernel
theorem dX12_init_5 : decode cX12_init 5 = .ok (.iconst 4, 1) := by decide +kernel
theorem dX12_init_6 : decode cX12_init 6 = .ok (.putfield 7, 3) := by decide +kernel
theorem dX12_init_9 : decode cX12_init 9 = .ok (.aload_n 0, 1) := by decide +kernel
theorem dX12_init_10 : decode cX12_init 10 = .ok (.bipush 25, 2) := by decide +kernel
theorem dX12_init_12 : decode cX12_init 12 = .ok (.newarray .int, 2) := by decide +kernel
theorem dX12_init_14 : decode cX12_init 14 = .ok (.putfield 13, 3) := by decide +kernel
theorem dX12_init_17 : decode cX12_init 17 = .ok (.aload_n 0, 1) := by decide +kernel
theorem dX12_init_18 : decode cX12_init 18 = .ok (.sipush 360, 3) := by decide +kernel
theorem dX12_init_21 : decode cX12_init 21 = .ok (.putfield 17, 3) := by decide +kernel
theorem dX12_init_24 : decode cX12_init 24 = .ok (.aload_n 0, 1) := by decide +kernel
theorem dX12_init_25 : decode cX12_init 25 = .ok (.bipush 6, 2) := by decide +kernel
theorem dX12_init_27 : decode cX12_init 27 = .ok (.newarray .int, 2) := by decide +kernel
theorem dX12_init_29 : decode cX12_init 29 = .ok (.putfield 20, 3) := by decide +kernel
theorem dX12_init_32 : decode cX12_init 32 = .ok (.aload_n 0, 1) := by decide +kernel
theorem dX12_init_33 : decode cX12_init 33 = .ok (.bipush 6, 2) := by decide +kernel
theorem dX12_init_35 : decode cX12_init 35 = .ok (.newarray .int, 2) := by decide +kernel
theorem dX12_init_37 : decode cX12_init 37 = .ok (.putfield 23, 3) := by decide +kernel
theorem dX12_init_40 : decode cX12_init 40 = .ok (.aload_n 0, 1) := by decide +kernel
theorem dX12_init_41 : decode cX12_init 41 = .ok (.bipush 12, 2) := by decide +kernel
theorem dX12_init_43 : decode cX12_init 43 = .ok (.newarray .int, 2) := by decide +kernel
theorem dX12_init_45 : decode cX12_init 45 = .ok (.putfield 26, 3) := by decide +kernel
theorem dX12_init_48 : decode cX12_init 48 = .ok (.aload_n 0, 1) := by decide +kernel
theorem dX12_init_49 : decode cX12_init 49 = .ok (.bipush 6, 2) := by decide +kernel
theorem dX12_init_51 : decode cX12_init 51 = .ok (.newarray .int, 2) := by decide +kernel
theorem dX12_init_53 : decode cX12_init 53 = .ok (.putfield 29, 3) := by decide +kernel
theorem dX12_init_56 : decode cX12_init 56 = .ok (.aload_n 0, 1) := by decide +kernel
theorem dX12_init_57 : decode cX12_init 57 = .ok (.bipush 6, 2) := by decide +kernel
theorem dX12_init_59 : decode cX12_init 59 = .ok (.newarray .int, 2) := by decide +kernel
theorem dX12_init_61 : decode cX12_init 61 = .ok (.putfield 32, 3) := by decide +kernel
theorem dX12_init_64 : decode cX12_init 64 = .ok (.aload_n 0, 1) := by decide +kernel
theorem dX12_init_65 : decode cX12_init 65 = .ok (.bipush 6, 2) := by decide +kernel
theorem dX12_init_67 : decode cX12_init 67 = .ok (.newarray .int, 2) := by decide +kernel
theorem dX12_init_69 : decode cX12_init 69 = .ok (.putfield 35, 3) := by decide +kernel
theorem dX12_init_72 : decode cX12_init 72 = .ok (.aload_n 0, 1) := by decide +kernel
theorem dX12_init_73 : decode cX12_init 73 = .ok (.bipush 6, 2) := by decide +kernel
theorem dX12_init_75 : decode cX12_init 75 = .ok (.newarray .int, 2) := by decide +kernel
theorem dX12_init_77 : decode cX12_init 77 = .ok (.putfield 38, 3) := by decide +kernel
theorem dX12_init_80 : decode cX12_init 80 = .ok (.aload_n 0, 1) := by decide +kernel
theorem dX12_init_81 : decode cX12_init 81 = .ok (.bipush 48, 2) := by decide +kernel
theorem dX12_init_83 : decode cX12_init 83 = .ok (.newarray .int, 2) := by decide +kernel
theorem dX12_init_85 : decode cX12_init 85 = .ok (.putfield 41, 3) := by decide +kernel
theorem dX12_init_88 : decode cX12_init 88 = .ok (.aload_n 0, 1) := by decide +kernel
theorem dX12_init_89 : decode cX12_init 89 = .ok (.bipush 60, 2) := by decide +kernel
theorem dX12_init_91 : decode cX12_init 91 = .ok (.newarray .int, 2) := by decide +kernel
theorem dX12_init_93 : decode cX12_init 93 = .ok (.putfield 44, 3) := by decide +kernel
theorem dX12_init_96 : decode cX12_init 96 = .ok (.aload_n 0, 1) := by decide +kernel
theorem dX12_init_97 : decode cX12_init 97 = .ok (.bipush 6, 2) := by decide +kernel
theorem dX12_init_99 : decode cX12_init 99 = .ok (.newarray .int, 2) := by decide +kernel
theorem dX12_init_101 : decode cX12_init 101 = .ok (.putfield 47, 3) := by decide +kernel
theorem dX12_init_104 : decode cX12_init 104 = .ok (.aload_n 0, 1) := by decide +kernel
theorem dX12_init_105 : decode cX12_init 105 = .ok (.bipush 6, 2) := by decide +kernel
theorem dX12_init_107 : decode cX12_init 107 = .ok (.newarray .int, 2) := by decide +kernel
theorem dX12_init_109 : decode cX12_init 109 = .ok (.putfield 50, 3) := by decide +kernel
theorem dX12_init_112 : decode cX12_init 112 = .ok (.aload_n 0, 1) := by decide +kernel
theorem dX12_init_113 : decode cX12_init 113 = .ok (.bipush 6, 2) := by decide +kernel
theorem dX12_init_115 : decode cX12_init 115 = .ok (.newarray .int, 2) := by decide +kernel
theorem dX12_init_117 : decode cX12_init 117 = .ok (.putfield 53, 3) := by decide +kernel
theorem dX12_init_120 : decode cX12_init 120 = .ok (.aload_n 0, 1) := by decide +kernel
theorem dX12_init_121 : decode cX12_init 121 = .ok (.bipush 6, 2) := by decide +kernel
theorem dX12_init_123 : decode cX12_init 123 = .ok (.newarray .int, 2) := by decide +kernel
theorem dX12_init_125 : decode cX12_init 125 = .ok (.putfield 56, 3) := by decide +kernel
theorem dX12_init_128 : decode cX12_init 128 = .ok (.aload_n 0, 1) := by decide +kernel
theorem dX12_init_129 : decode cX12_init 129 = .ok (.bipush 48, 2) := by decide +kernel
theorem dX12_init_131 : decode cX12_init 131 = .ok (.newarray .int, 2) := by decide +kernel
theorem dX12_init_133 : decode cX12_init 133 = .ok (.putfield 59, 3) := by decide +kernel
theorem dX12_init_136 : decode cX12_init 136 = .ok (.aload_n 0, 1) := by decide +kernel
theorem dX12_init_137 : decode cX12_init 137 = .ok (.iconst 5, 1) := by decide +kernel
theorem dX12_init_138 : decode cX12_init 138 = .ok (.newarray .int, 2) := by decide +kernel
theorem dX12_init_140 : decode cX12_init 140 = .ok (.putfield 62, 3) := by decide +kernel
theorem dX12_init_143 : decode cX12_init 143 = .ok (.aload_n 0, 1) := by decide +kernel
theorem dX12_init_144 : decode cX12_init 144 = .ok (.bipush 6, 2) := by decide +kernel
theorem dX12_init_146 : decode cX12_init 146 = .ok (.newarray .int, 2) := by decide +kernel
theorem dX12_init_148 : decode cX12_init 148 = .ok (.putfield 65, 3) := by decide +kernel
theorem dX12_init_151 : decode cX12_init 151 = .ok (.aload_n 0, 1) := by decide +kernel
theorem dX12_init_152 : decode cX12_init 152 = .ok (.bipush 64, 2) := by decide +kernel
theorem dX12_init_154 : decode cX12_init 154 = .ok (.newarray .int, 2) := by decide +kernel
theorem dX12_init_156 : decode cX12_init 156 = .ok (.putfield 68, 3) := by decide +kernel
theorem dX12_init_159 : decode cX12_init 159 = .ok (.aload_n 0, 1) := by decide +kernel
theorem dX12_init_160 : decode cX12_init 160 = .ok (.sipush 300, 3) := by decide +kernel
theorem dX12_init_163 : decode cX12_init 163 = .ok (.newarray .int, 2) := by decide +kernel
theorem dX12_init_165 : decode cX12_init 165 = .ok (.putfield 71, 3) := by decide +kernel
theorem dX12_init_168 : decode cX12_init 168 = .ok (.aload_n 0, 1) := by decide +kernel
theorem dX12_init_169 : decode cX12_init 169 = .ok (.iconst 2, 1) := by decide +kernel
theorem dX12_init_170 : decode cX12_init 170 = .ok (.newarray .boolean, 2) := by decide +kernel
theorem dX12_init_172 : decode cX12_init 172 = .ok (.putfield 74, 3) := by decide +kernel
theorem dX12_init_175 : decode cX12_init 175 = .ok (.aload_n 0, 1) := by decide +kernel
theorem dX12_init_176 : decode cX12_init 176 = .ok (.iconst 0, 1) := by decide +kernel
theorem dX12_init_177 : decode cX12_init 177 = .ok (.putfield 78, 3) := by decide +kernel
theorem dX12_init_180 : decode cX12_init 180 = .ok (.return_, 1) := by decide +kernel
noncomputable def b_X12_init (a0 : Nat) (M : Me) : Option (Me) :=
  pi M a0 12 0 (4 : Int32) fun M1 =>
  na M1 20 25 fun o2 M3 =>
  pr M3 a0 12 1 o2 fun M4 =>
  pi M4 a0 12 2 (360 : Int32) fun M5 =>
  na M5 20 6 fun o6 M7 =>
  pr M7 a0 12 4 o6 fun M8 =>
  na M8 20 6 fun o9 M10 =>
  pr M10 a0 12 5 o9 fun M11 =>
  na M11 20 12 fun o12 M13 =>
  pr M13 a0 12 7 o12 fun M14 =>
  na M14 20 6 fun o15 M16 =>
  pr M16 a0 12 9 o15 fun M17 =>
  na M17 20 6 fun o18 M19 =>
  pr M19 a0 12 10 o18 fun M20 =>
  na M20 20 6 fun o21 M22 =>
  pr M22 a0 12 11 o21 fun M23 =>
  na M23 20 6 fun o24 M25 =>
  pr M25 a0 12 12 o24 fun M26 =>
  na M26 20 48 fun o27 M28 =>
  pr M28 a0 12 14 o27 fun M29 =>
  na M29 20 60 fun o30 M31 =>
  pr M31 a0 12 16 o30 fun M32 =>
  na M32 20 6 fun o33 M34 =>
  pr M34 a0 12 18 o33 fun M35 =>
  na M35 20 6 fun o36 M37 =>
  pr M37 a0 12 19 o36 fun M38 =>
  na M38 20 6 fun o39 M40 =>
  pr M40 a0 12 20 o39 fun M41 =>
  na M41 20 6 fun o42 M43 =>
  pr M43 a0 12 21 o42 fun M44 =>
  na M44 20 48 fun o45 M46 =>
  pr M46 a0 12 23 o45 fun M47 =>
  na M47 20 5 fun o48 M49 =>
  pr M49 a0 12 26 o48 fun M50 =>
  na M50 20 6 fun o51 M52 =>
  pr M52 a0 12 27 o51 fun M53 =>
  na M53 20 64 fun o54 M55 =>
  pr M55 a0 12 28 o54 fun M56 =>
  na M56 20 300 fun o57 M58 =>
  pr M58 a0 12 30 o57 fun M59 =>
  na M59 21 2 fun o60 M61 =>
  pr M61 a0 12 31 o60 fun M62 =>
  pi M62 a0 12 3 (0 : Int32) fun M63 =>
  some M63
noncomputable def f_X12_init (a0 : Nat) (M : Me) : Option (Me) := b_X12_init a0 M
set_option maxRecDepth 20000 in
theorem vb_X12_init (d : Nat) (hd : 1 ≤ d) (a0 : Nat) (M : Me) : V (mX12_init, d, 20, 630) (0, 0) M 0 [some (.ref a0)] [] (b_X12_init a0 M) (fun M2 => some (none, M2)) := by
  unfold b_X12_init
  refine v_aload_n (q := 1) dX12_init_0 rfl rfl rfl ?_
  refine v_oinit (q := 4) dX12_init_1 rfl cc_X12_1 aw_obj.1 aw_obj.2 (by show 1 ≤ d; omega) rfl ?_
  refine v_aload_n (q := 5) dX12_init_4 rfl rfl rfl ?_
  refine v_iconst (q := 6) dX12_init_5 rfl ic_4 ?_
  refine v_putIb (q := 9) dX12_init_6 rfl fp_X12_7 (fun M1 => ?_)
  refine v_aload_n (q := 10) dX12_init_9 rfl rfl rfl ?_
  refine v_bipush (q := 12) dX12_init_10 rfl bp_25 ?_
  refine v_newIU (q := 14) (u2 := (1, 25)) dX12_init_12 rfl aw_int (by decide) (by decide) (Nat.le_of_ble_eq_true rfl) ⟨Nat.le_of_ble_eq_true rfl, Nat.le_of_ble_eq_true rfl⟩ rfl (fun o2 M3 => ?_)
  refine v_putRb (q := 17) dX12_init_14 rfl fp_X12_13 (fun M4 => ?_)
  refine v_aload_n (q := 18) dX12_init_17 rfl rfl rfl ?_
  refine v_sipush (q := 21) dX12_init_18 rfl sp_360 ?_
  refine v_putIb (q := 24) dX12_init_21 rfl fp_X12_17 (fun M5 => ?_)
  refine v_aload_n (q := 25) dX12_init_24 rfl rfl rfl ?_
  refine v_bipush (q := 27) dX12_init_25 rfl bp_6 ?_
  refine v_newIU (q := 29) (u2 := (2, 31)) dX12_init_27 rfl aw_int (by decide) (by decide) (Nat.le_of_ble_eq_true rfl) ⟨Nat.le_of_ble_eq_true rfl, Nat.le_of_ble_eq_true rfl⟩ rfl (fun o6 M7 => ?_)
  refine v_putRb (q := 32) dX12_init_29 rfl fp_X12_20 (fun M8 => ?_)
  refine v_aload_n (q := 33) dX12_init_32 rfl rfl rfl ?_
  refine v_bipush (q := 35) dX12_init_33 rfl bp_6 ?_
  refine v_newIU (q := 37) (u2 := (3, 37)) dX12_init_35 rfl aw_int (by decide) (by decide) (Nat.le_of_ble_eq_true rfl) ⟨Nat.le_of_ble_eq_true rfl, Nat.le_of_ble_eq_true rfl⟩ rfl (fun o9 M10 => ?_)
  refine v_putRb (q := 40) dX12_init_37 rfl fp_X12_23 (fun M11 => ?_)
  refine v_aload_n (q := 41) dX12_init_40 rfl rfl rfl ?_
  refine v_bipush (q := 43) dX12_init_41 rfl bp_12 ?_
  refine v_newIU (q := 45) (u2 := (4, 49)) dX12_init_43 rfl aw_int (by decide) (by decide) (Nat.le_of_ble_eq_true rfl) ⟨Nat.le_of_ble_eq_true rfl, Nat.le_of_ble_eq_true rfl⟩ rfl (fun o12 M13 => ?_)
  refine v_putRb (q := 48) dX12_init_45 rfl fp_X12_26 (fun M14 => ?_)
  refine v_aload_n (q := 49) dX12_init_48 rfl rfl rfl ?_
  refine v_bipush (q := 51) dX12_init_49 rfl bp_6 ?_
  refine v_newIU (q := 53) (u2 := (5, 55)) dX12_init_51 rfl aw_int (by decide) (by decide) (Nat.le_of_ble_eq_true rfl) ⟨Nat.le_of_ble_eq_true rfl, Nat.le_of_ble_eq_true rfl⟩ rfl (fun o15 M16 => ?_)
  refine v_putRb (q := 56) dX12_init_53 rfl fp_X12_29 (fun M17 => ?_)
  refine v_aload_n (q := 57) dX12_init_56 rfl rfl rfl ?_
  refine v_bipush (q := 59) dX12_init_57 rfl bp_6 ?_
  refine v_newIU (q := 61) (u2 := (6, 61)) dX12_init_59 rfl aw_int (by decide) (by decide) (Nat.le_of_ble_eq_true rfl) ⟨Nat.le_of_ble_eq_true rfl, Nat.le_of_ble_eq_true rfl⟩ rfl (fun o18 M19 => ?_)
  refine v_putRb (q := 64) dX12_init_61 rfl fp_X12_32 (fun M20 => ?_)
  refine v_aload_n (q := 65) dX12_init_64 rfl rfl rfl ?_
  refine v_bipush (q := 67) dX12_init_65 rfl bp_6 ?_
  refine v_newIU (q := 69) (u2 := (7, 67)) dX12_init_67 rfl aw_int (by decide) (by decide) (Nat.le_of_ble_eq_true rfl) ⟨Nat.le_of_ble_eq_true rfl, Nat.le_of_ble_eq_true rfl⟩ rfl (fun o21 M22 => ?_)
  refine v_putRb (q := 72) dX12_init_69 rfl fp_X12_35 (fun M23 => ?_)
  refine v_aload_n (q := 73) dX12_init_72 rfl rfl rfl ?_
  refine v_bipush (q := 75) dX12_init_73 rfl bp_6 ?_
  refine v_newIU (q := 77) (u2 := (8, 73)) dX12_init_75 rfl aw_int (by decide) (by decide) (Nat.le_of_ble_eq_true rfl) ⟨Nat.le_of_ble_eq_true rfl, Nat.le_of_ble_eq_true rfl⟩ rfl (fun o24 M25 => ?_)
  refine v_putRb (q := 80) dX12_init_77 rfl fp_X12_38 (fun M26 => ?_)
  refine v_aload_n (q := 81) dX12_init_80 rfl rfl rfl ?_
  refine v_bipush (q := 83) dX12_init_81 rfl bp_48 ?_
  refine v_newIU (q := 85) (u2 := (9, 121)) dX12_init_83 rfl aw_int (by decide) (by decide) (Nat.le_of_ble_eq_true rfl) ⟨Nat.le_of_ble_eq_true rfl, Nat.le_of_ble_eq_true rfl⟩ rfl (fun o27 M28 => ?_)
  refine v_putRb (q := 88) dX12_init_85 rfl fp_X12_41 (fun M29 => ?_)
  refine v_aload_n (q := 89) dX12_init_88 rfl rfl rfl ?_
  refine v_bipush (q := 91) dX12_init_89 rfl bp_60 ?_
  refine v_newIU (q := 93) (u2 := (10, 181)) dX12_init_91 rfl aw_int (by decide) (by decide) (Nat.le_of_ble_eq_true rfl) ⟨Nat.le_of_ble_eq_true rfl, Nat.le_of_ble_eq_true rfl⟩ rfl (fun o30 M31 => ?_)
  refine v_putRb (q := 96) dX12_init_93 rfl fp_X12_44 (fun M32 => ?_)
  refine v_aload_n (q := 97) dX12_init_96 rfl rfl rfl ?_
  refine v_bipush (q := 99) dX12_init_97 rfl bp_6 ?_
  refine v_newIU (q := 101) (u2 := (11, 187)) dX12_init_99 rfl aw_int (by decide) (by decide) (Nat.le_of_ble_eq_true rfl) ⟨Nat.le_of_ble_eq_true rfl, Nat.le_of_ble_eq_true rfl⟩ rfl (fun o33 M34 => ?_)
  refine v_putRb (q := 104) dX12_init_101 rfl fp_X12_47 (fun M35 => ?_)
  refine v_aload_n (q := 105) dX12_init_104 rfl rfl rfl ?_
  refine v_bipush (q := 107) dX12_init_105 rfl bp_6 ?_
  refine v_newIU (q := 109) (u2 := (12, 193)) dX12_init_107 rfl aw_int (by decide) (by decide) (Nat.le_of_ble_eq_true rfl) ⟨Nat.le_of_ble_eq_true rfl, Nat.le_of_ble_eq_true rfl⟩ rfl (fun o36 M37 => ?_)
  refine v_putRb (q := 112) dX12_init_109 rfl fp_X12_50 (fun M38 => ?_)
  refine v_aload_n (q := 113) dX12_init_112 rfl rfl rfl ?_
  refine v_bipush (q := 115) dX12_init_113 rfl bp_6 ?_
  refine v_newIU (q := 117) (u2 := (13, 199)) dX12_init_115 rfl aw_int (by decide) (by decide) (Nat.le_of_ble_eq_true rfl) ⟨Nat.le_of_ble_eq_true rfl, Nat.le_of_ble_eq_true rfl⟩ rfl (fun o39 M40 => ?_)
  refine v_putRb (q := 120) dX12_init_117 rfl fp_X12_53 (fun M41 => ?_)
  refine v_aload_n (q := 121) dX12_init_120 rfl rfl rfl ?_
  refine v_bipush (q := 123) dX12_init_121 rfl bp_6 ?_
  refine v_newIU (q := 125) (u2 := (14, 205)) dX12_init_123 rfl aw_int (by decide) (by decide) (Nat.le_of_ble_eq_true rfl) ⟨Nat.le_of_ble_eq_true rfl, Nat.le_of_ble_eq_true rfl⟩ rfl (fun o42 M43 => ?_)
  refine v_putRb (q := 128) dX12_init_125 rfl fp_X12_56 (fun M44 => ?_)
  refine v_aload_n (q := 129) dX12_init_128 rfl rfl rfl ?_
  refine v_bipush (q := 131) dX12_init_129 rfl bp_48 ?_
  refine v_newIU (q := 133) (u2 := (15, 253)) dX12_init_131 rfl aw_int (by decide) (by decide) (Nat.le_of_ble_eq_true rfl) ⟨Nat.le_of_ble_eq_true rfl, Nat.le_of_ble_eq_true rfl⟩ rfl (fun o45 M46 => ?_)
  refine v_putRb (q := 136) dX12_init_133 rfl fp_X12_59 (fun M47 => ?_)
  refine v_aload_n (q := 137) dX12_init_136 rfl rfl rfl ?_
  refine v_iconst (q := 138) dX12_init_137 rfl ic_5 ?_
  refine v_newIU (q := 140) (u2 := (16, 258)) dX12_init_138 rfl aw_int (by decide) (by decide) (Nat.le_of_ble_eq_true rfl) ⟨Nat.le_of_ble_eq_true rfl, Nat.le_of_ble_eq_true rfl⟩ rfl (fun o48 M49 => ?_)
  refine v_putRb (q := 143) dX12_init_140 rfl fp_X12_62 (fun M50 => ?_)
  refine v_aload_n (q := 144) dX12_init_143 rfl rfl rfl ?_
  refine v_bipush (q := 146) dX12_init_144 rfl bp_6 ?_
  refine v_newIU (q := 148) (u2 := (17, 264)) dX12_init_146 rfl aw_int (by decide) (by decide) (Nat.le_of_ble_eq_true rfl) ⟨Nat.le_of_ble_eq_true rfl, Nat.le_of_ble_eq_true rfl⟩ rfl (fun o51 M52 => ?_)
  refine v_putRb (q := 151) dX12_init_148 rfl fp_X12_65 (fun M53 => ?_)
  refine v_aload_n (q := 152) dX12_init_151 rfl rfl rfl ?_
  refine v_bipush (q := 154) dX12_init_152 rfl bp_64 ?_
  refine v_newIU (q := 156) (u2 := (18, 328)) dX12_init_154 rfl aw_int (by decide) (by decide) (Nat.le_of_ble_eq_true rfl) ⟨Nat.le_of_ble_eq_true rfl, Nat.le_of_ble_eq_true rfl⟩ rfl (fun o54 M55 => ?_)
  refine v_putRb (q := 159) dX12_init_156 rfl fp_X12_68 (fun M56 => ?_)
  refine v_aload_n (q := 160) dX12_init_159 rfl rfl rfl ?_
  refine v_sipush (q := 163) dX12_init_160 rfl sp_300 ?_
  refine v_newIU (q := 165) (u2 := (19, 628)) dX12_init_163 rfl aw_int (by decide) (by decide) (Nat.le_of_ble_eq_true rfl) ⟨Nat.le_of_ble_eq_true rfl, Nat.le_of_ble_eq_true rfl⟩ rfl (fun o57 M58 => ?_)
  refine v_putRb (q := 168) dX12_init_165 rfl fp_X12_71 (fun M59 => ?_)
  refine v_aload_n (q := 169) dX12_init_168 rfl rfl rfl ?_
  refine v_iconst (q := 170) dX12_init_169 rfl ic_2 ?_
  refine v_newZU (q := 172) (u2 := (20, 630)) dX12_init_170 rfl aw_boolean (by decide) (by decide) (Nat.le_of_ble_eq_true rfl) ⟨Nat.le_of_ble_eq_true rfl, Nat.le_of_ble_eq_true rfl⟩ rfl (fun o60 M61 => ?_)
  refine v_putRb (q := 175) dX12_init_172 rfl fp_X12_74 (fun M62 => ?_)
  refine v_aload_n (q := 176) dX12_init_175 rfl rfl rfl ?_
  refine v_iconst (q := 177) dX12_init_176 rfl ic_0 ?_
  refine v_putIb (q := 180) dX12_init_177 rfl fp_X12_78 (fun M63 => ?_)
  exact v_vret rfl dX12_init_180 ⟨Nat.le_of_ble_eq_true rfl, Nat.le_of_ble_eq_true rfl⟩ rfl
theorem ct_X12_init (d : Nat) (hd : 1 ≤ d) (a0 : Nat) (M : Me) (r : Me) (hf : f_X12_init a0 M = some r) : Ct yX12_init mX12_init d 20 630 [.ref a0] M (none, r) := by
  have hb : b_X12_init a0 M = some r := hf
  exact ct_of (by decide +kernel) rfl rfl (Nat.le_of_ble_eq_true rfl) (vb_X12_init d hd a0 M) (by rw [hb]; rfl)
theorem dX12_in_0 : decode cX12_in 0 = .ok (.iload_n 0, 1) := by decide +kernel
theorem dX12_in_1 : decode cX12_in 1 = .ok (.iload_n 1, 1) := by decide +kernel
theorem dX12_in_2 : decode cX12_in 2 = .ok (.if_icmp .lt 12, 3) := by decide +kernel
theorem dX12_in_5 : decode cX12_in 5 = .ok (.iload_n 0, 1) := by decide +kernel
theorem dX12_in_6 : decode cX12_in 6 = .ok (.iload_n 2, 1) := by decide +kernel
theorem dX12_in_7 : decode cX12_in 7 = .ok (.if_icmp .gt 7, 3) := by decide +kernel
theorem dX12_in_10 : decode cX12_in 10 = .ok (.iconst 1, 1) := by decide +kernel
theorem dX12_in_11 : decode cX12_in 11 = .ok (.goto 4, 3) := by decide +kernel
theorem dX12_in_14 : decode cX12_in 14 = .ok (.iconst 0, 1) := by decide +kernel
theorem dX12_in_15 : decode cX12_in 15 = .ok (.ireturn, 1) := by decide +kernel
noncomputable def b_X12_in (x0 : Int32) (x1 : Int32) (x2 : Int32) (M : Me) : Option (Int32) :=
  (
    if x0 < x1 then (
      some (0 : Int32)
    ) else (
      if x2 < x0 then (
        some (0 : Int32)
      ) else (
        some (1 : Int32)
      )
    )
  ).bind fun v1 =>
  if v1 = 0 ∨ v1 = 1 then some v1 else none
noncomputable def f_X12_in (x0 : Int32) (x1 : Int32) (x2 : Int32) (M : Me) : Option (Int32) := b_X12_in x0 x1 x2 M
set_option maxRecDepth 20000 in
theorem vb_X12_in (d : Nat) (hd : 0 ≤ d) (x0 : Int32) (x1 : Int32) (x2 : Int32) (M : Me) : V (mX12_in, d, 0, 0) (0, 0) M 0 [some (.int x0), some (.int x1), some (.int x2)] [] (b_X12_in x0 x1 x2 M) (fun z => some (some (.int z), M)) := by
  unfold b_X12_in
  refine v_iload_n (q := 1) dX12_in_0 rfl rfl rfl ?_
  refine v_iload_n (q := 2) dX12_in_1 rfl rfl rfl ?_
  refine v_join (γ := Int32) 15 (fun v1 => M) (fun v1 => [some (.int x0), some (.int x1), some (.int x2)]) (fun v1 => [.int v1]) (fun K hK => ?_) (fun v1 => ?_)
  · refine v_icmp_lt (tgt := 14) (q := 5) dX12_in_2 rfl rfl ?_ ?_
    · refine v_iconst (q := 15) dX12_in_14 rfl ic_0 ?_
      exact hK (0 : Int32)
    · refine v_iload_n (q := 6) dX12_in_5 rfl rfl rfl ?_
      refine v_iload_n (q := 7) dX12_in_6 rfl rfl rfl ?_
      refine v_icmp_gt (tgt := 14) (q := 10) dX12_in_7 rfl rfl ?_ ?_
      · refine v_iconst (q := 15) dX12_in_14 rfl ic_0 ?_
        exact hK (0 : Int32)
      · refine v_iconst (q := 11) dX12_in_10 rfl ic_1 ?_
        refine v_goto (tgt := 15) dX12_in_11 rfl ?_
        exact hK (1 : Int32)
  · exact v_zretC rfl dX12_in_15 ⟨Nat.le_of_ble_eq_true rfl, Nat.le_of_ble_eq_true rfl⟩ rfl
theorem ct_X12_in (d : Nat) (hd : 0 ≤ d) (x0 : Int32) (x1 : Int32) (x2 : Int32) (M : Me) (r : Int32) (hf : f_X12_in x0 x1 x2 M = some r) : Ct yX12_in mX12_in d 0 0 [.int x0, .int x1, .int x2] M (some (.int r), M) := by
  have hb : b_X12_in x0 x1 x2 M = some r := hf
  exact ct_of (by decide +kernel) rfl rfl (Nat.le_of_ble_eq_true rfl) (vb_X12_in d hd x0 x1 x2 M) (by rw [hb]; rfl)
theorem dX12_has_0 : decode cX12_has 0 = .ok (.iload_n 0, 1) := by decide +kernel
theorem dX12_has_1 : decode cX12_has 1 = .ok (.iload_n 1, 1) := by decide +kernel
theorem dX12_has_2 : decode cX12_has 2 = .ok (.ishr, 1) := by decide +kernel
theorem dX12_has_3 : decode cX12_has 3 = .ok (.iconst 1, 1) := by decide +kernel
theorem dX12_has_4 : decode cX12_has 4 = .ok (.iand, 1) := by decide +kernel
theorem dX12_has_5 : decode cX12_has 5 = .ok (.iconst 1, 1) := by decide +kernel
theorem dX12_has_6 : decode cX12_has 6 = .ok (.if_icmp .ne 7, 3) := by decide +kernel
theorem dX12_has_9 : decode cX12_has 9 = .ok (.iconst 1, 1) := by decide +kernel
theorem dX12_has_10 : decode cX12_has 10 = .ok (.goto 4, 3) := by decide +kernel
theorem dX12_has_13 : decode cX12_has 13 = .ok (.iconst 0, 1) := by decide +kernel
theorem dX12_has_14 : decode cX12_has 14 = .ok (.ireturn, 1) := by decide +kernel
noncomputable def b_X12_has (x0 : Int32) (x1 : Int32) (M : Me) : Option (Int32) :=
  (
    if ((x0 >>> (x1 &&& 31)) &&& (1 : Int32)) = (1 : Int32) then (
      some (1 : Int32)
    ) else (
      some (0 : Int32)
    )
  ).bind fun v1 =>
  if v1 = 0 ∨ v1 = 1 then some v1 else none
noncomputable def f_X12_has (x0 : Int32) (x1 : Int32) (M : Me) : Option (Int32) := b_X12_has x0 x1 M
set_option maxRecDepth 20000 in
theorem vb_X12_has (d : Nat) (hd : 0 ≤ d) (x0 : Int32) (x1 : Int32) (M : Me) : V (mX12_has, d, 0, 0) (0, 0) M 0 [some (.int x0), some (.int x1)] [] (b_X12_has x0 x1 M) (fun z => some (some (.int z), M)) := by
  unfold b_X12_has
  refine v_iload_n (q := 1) dX12_has_0 rfl rfl rfl ?_
  refine v_iload_n (q := 2) dX12_has_1 rfl rfl rfl ?_
  refine v_ishr (q := 3) dX12_has_2 rfl ?_
  refine v_iconst (q := 4) dX12_has_3 rfl ic_1 ?_
  refine v_iand (q := 5) dX12_has_4 rfl ?_
  refine v_iconst (q := 6) dX12_has_5 rfl ic_1 ?_
  refine v_join (γ := Int32) 14 (fun v1 => M) (fun v1 => [some (.int x0), some (.int x1)]) (fun v1 => [.int v1]) (fun K hK => ?_) (fun v1 => ?_)
  · refine v_icmp_ne (tgt := 13) (q := 9) dX12_has_6 rfl rfl ?_ ?_
    · refine v_iconst (q := 14) dX12_has_13 rfl ic_0 ?_
      exact hK (0 : Int32)
    · refine v_iconst (q := 10) dX12_has_9 rfl ic_1 ?_
      refine v_goto (tgt := 14) dX12_has_10 rfl ?_
      exact hK (1 : Int32)
  · exact v_zretC rfl dX12_has_14 ⟨Nat.le_of_ble_eq_true rfl, Nat.le_of_ble_eq_true rfl⟩ rfl
theorem ct_X12_has (d : Nat) (hd : 0 ≤ d) (x0 : Int32) (x1 : Int32) (M : Me) (r : Int32) (hf : f_X12_has x0 x1 M = some r) : Ct yX12_has mX12_has d 0 0 [.int x0, .int x1] M (some (.int r), M) := by
  have hb : b_X12_has x0 x1 M = some r := hf
  exact ct_of (by decide +kernel) rfl rfl (Nat.le_of_ble_eq_true rfl) (vb_X12_has d hd x0 x1 M) (by rw [hb]; rfl)
theorem dX12_bits_0 : decode cX12_bits 0 = .ok (.iconst 0, 1) := by decide +kernel
theorem dX12_bits_1 : decode cX12_bits 1 = .ok (.istore_n 1, 1) := by decide +kernel
theorem dX12_bits_2 : decode cX12_bits 2 = .ok (.iconst 0, 1) := by decide +kernel
theorem dX12_bits_3 : decode cX12_bits 3 = .ok (.istore_n 2, 1) := by decide +kernel
theorem dX12_bits_4 : decode cX12_bits 4 = .ok (.iload_n 2, 1) := by decide +kernel
theorem dX12_bits_5 : decode cX12_bits 5 = .ok (.bipush 12, 2) := by decide +kernel
theorem dX12_bits_7 : decode cX12_bits 7 = .ok (.if_icmp .ge 17, 3) := by decide +kernel
theorem dX12_bits_10 : decode cX12_bits 10 = .ok (.iload_n 1, 1) := by decide +kernel
theorem dX12_bits_11 : decode cX12_bits 11 = .ok (.iload_n 0, 1) := by decide +kernel
theorem dX12_bits_12 : decode cX12_bits 12 = .ok (.iload_n 2, 1) := by decide +kernel
theorem dX12_bits_13 : decode cX12_bits 13 = .ok (.ishr, 1) := by decide +kernel
theorem dX12_bits_14 : decode cX12_bits 14 = .ok (.iconst 1, 1) := by decide +kernel
theorem dX12_bits_15 : decode cX12_bits 15 = .ok (.iand, 1) := by decide +kernel
theorem dX12_bits_16 : decode cX12_bits 16 = .ok (.iadd, 1) := by decide +kernel
theorem dX12_bits_17 : decode cX12_bits 17 = .ok (.istore_n 1, 1) := by decide +kernel
theorem dX12_bits_18 : decode cX12_bits 18 = .ok (.iinc 2 1, 3) := by decide +kernel
theorem dX12_bits_21 : decode cX12_bits 21 = .ok (.goto (-17), 3) := by decide +kernel
theorem dX12_bits_24 : decode cX12_bits 24 = .ok (.iload_n 1, 1) := by decide +kernel
theorem dX12_bits_25 : decode cX12_bits 25 = .ok (.ireturn, 1) := by decide +kernel
noncomputable def s_X12_bits_4 (x0 : Int32) (v1 : Int32) (v2 : Int32) : Option ((Int32 × Int32) ⊕ (Int32 × Int32)) :=
  if (12 : Int32) ≤ v2 then (
    some (Sum.inr (v1, v2))
  ) else (
    let_v ((v1 + ((x0 >>> (v2 &&& 31)) &&& (1 : Int32)))) fun v3 =>
    let_v (v2 + (1 : Int32)) fun v4 =>
    some (Sum.inl (v3, v4))
  )
noncomputable def b_X12_bits (x0 : Int32) (M : Me) : Option (Int32) :=
  (lp (fun s => s_X12_bits_4 x0 s.1 s.2) ((0 : Int32), (0 : Int32))).bind fun e5 =>
  some e5.1
noncomputable def f_X12_bits (x0 : Int32) (M : Me) : Option (Int32) := b_X12_bits x0 M
set_option maxRecDepth 20000 in
theorem vb_X12_bits (d : Nat) (hd : 0 ≤ d) (x0 : Int32) (M : Me) : V (mX12_bits, d, 0, 0) (0, 0) M 0 [some (.int x0), none, none] [] (b_X12_bits x0 M) (fun z => some (some (.int z), M)) := by
  unfold b_X12_bits
  refine v_iconst (q := 1) dX12_bits_0 rfl ic_0 ?_
  refine v_istore_n (q := 2) (loc2 := [some (.int x0), some (.int (0 : Int32)), none]) dX12_bits_1 rfl rfl rfl (Nat.le_of_ble_eq_true rfl) rfl ?_
  refine v_iconst (q := 3) dX12_bits_2 rfl ic_0 ?_
  refine v_istore_n (q := 4) (loc2 := [some (.int x0), some (.int (0 : Int32)), some (.int (0 : Int32))]) dX12_bits_3 rfl rfl rfl (Nat.le_of_ble_eq_true rfl) rfl ?_
  refine v_lps (S := Int32 × Int32) 24 (fun s => M) (fun s => [some (.int x0), some (.int s.1), some (.int s.2)]) (fun e5 => M) (fun e5 => [some (.int x0), some (.int e5.1), some (.int e5.2)]) (fun e5 => ?_) (fun k K hk hx s => ?_)
  · refine v_iload_n (q := 25) dX12_bits_24 rfl rfl rfl ?_
    exact v_iret rfl dX12_bits_25 ⟨Nat.le_of_ble_eq_true rfl, Nat.le_of_ble_eq_true rfl⟩ rfl
  · obtain ⟨v1, v2⟩ := s
    show V _ _ M 4 [some (.int x0), some (.int v1), some (.int v2)] [] (s_X12_bits_4 x0 v1 v2) _
    unfold s_X12_bits_4
    refine v_iload_n (q := 5) dX12_bits_4 rfl rfl rfl ?_
    refine v_bipush (q := 7) dX12_bits_5 rfl bp_12 ?_
    refine v_icmp_ge (tgt := 24) (q := 10) dX12_bits_7 rfl rfl ?_ ?_
    · exact v_inr (hx (v1, v2))
    · refine v_iload_n (q := 11) dX12_bits_10 rfl rfl rfl ?_
      refine v_iload_n (q := 12) dX12_bits_11 rfl rfl rfl ?_
      refine v_iload_n (q := 13) dX12_bits_12 rfl rfl rfl ?_
      refine v_ishr (q := 14) dX12_bits_13 rfl ?_
      refine v_iconst (q := 15) dX12_bits_14 rfl ic_1 ?_
      refine v_iand (q := 16) dX12_bits_15 rfl ?_
      refine v_iadd (q := 17) dX12_bits_16 rfl ?_
      refine v_letI (fun v3 => ?_)
      refine v_istore_n (q := 18) (loc2 := [some (.int x0), some (.int v3), some (.int v2)]) dX12_bits_17 rfl rfl rfl (Nat.le_of_ble_eq_true rfl) rfl ?_
      refine v_iincL (q := 21) (x := v2) (cst := (1 : Int32)) (f := fun v4 => [some (.int x0), some (.int v3), some (.int v4)]) dX12_bits_18 rfl rfl ic_1 rfl (Nat.le_of_ble_eq_true rfl) (fun _ => rfl) (fun v4 => ?_)
      refine v_goto (tgt := 4) dX12_bits_21 rfl ?_
      exact v_inl (hk (v3, v4))
theorem ct_X12_bits (d : Nat) (hd : 0 ≤ d) (x0 : Int32) (M : Me) (r : Int32) (hf : f_X12_bits x0 M = some r) : Ct yX12_bits mX12_bits d 0 0 [.int x0] M (some (.int r), M) := by
  have hb : b_X12_bits x0 M = some r := hf
  exact ct_of (by decide +kernel) rfl rfl (Nat.le_of_ble_eq_true rfl) (vb_X12_bits d hd x0 M) (by rw [hb]; rfl)
theorem dX12_isChapel_0 : decode cX12_isChapel 0 = .ok (.iload_n 1, 1) := by decide +kernel
theorem dX12_isChapel_1 : decode cX12_isChapel 1 = .ok (.iconst 0, 1) := by decide +kernel
theorem dX12_isChapel_2 : decode cX12_isChapel 2 = .ok (.aload_n 0, 1) := by decide +kernel
theorem dX12_isChapel_3 : decode cX12_isChapel 3 = .ok (.getfield 7, 3) := by decide +kernel
theorem dX12_isChapel_6 : decode cX12_isChapel 6 = .ok (.iconst 1, 1) := by decide +kernel
theorem dX12_isChapel_7 : decode cX12_isChapel 7 = .ok (.isub, 1) := by decide +kernel
theorem dX12_isChapel_8 : decode cX12_isChapel 8 = .ok (.invokestatic 81, 3) := by decide +kernel
theorem dX12_isChapel_11 : decode cX12_isChapel 11 = .ok (.ireturn, 1) := by decide +kernel
noncomputable def b_X12_isChapel (a0 : Nat) (x1 : Int32) (M : Me) : Option (Int32) :=
  gi M a0 12 0 fun v1 =>
  cP (f_X12_in x1 (0 : Int32) (v1 - (1 : Int32)) M) fun v2 =>
  if v2 = 0 ∨ v2 = 1 then some v2 else none
noncomputable def f_X12_isChapel (a0 : Nat) (x1 : Int32) (M : Me) : Option (Int32) := ck M a0 12 (b_X12_isChapel a0 x1 M)
set_option maxRecDepth 20000 in
theorem vb_X12_isChapel (d : Nat) (hd : 1 ≤ d) (a0 : Nat) (x1 : Int32) (M : Me) : V (mX12_isChapel, d, 0, 0) (0, 0) M 0 [some (.ref a0), some (.int x1)] [] (b_X12_isChapel a0 x1 M) (fun z => some (some (.int z), M)) := by
  unfold b_X12_isChapel
  refine v_iload_n (q := 1) dX12_isChapel_0 rfl rfl rfl ?_
  refine v_iconst (q := 2) dX12_isChapel_1 rfl ic_0 ?_
  refine v_aload_n (q := 3) dX12_isChapel_2 rfl rfl rfl ?_
  refine v_getIb (q := 6) dX12_isChapel_3 rfl fg_X12_7 (fun v1 => ?_)
  refine v_iconst (q := 7) dX12_isChapel_6 rfl ic_1 ?_
  refine v_isub (q := 8) dX12_isChapel_7 rfl ?_
  refine v_cPS3 (q := 11) (ct_X12_in (d - 1) (by omega) _ _ _ _) dX12_isChapel_8 rfl cc_X12_81 (by omega) (Nat.le_of_ble_eq_true rfl) ⟨Nat.le_of_ble_eq_true rfl, Nat.le_of_ble_eq_true rfl⟩ (fun v2 => ?_)
  exact v_zretC rfl dX12_isChapel_11 ⟨Nat.le_of_ble_eq_true rfl, Nat.le_of_ble_eq_true rfl⟩ rfl
theorem ct_X12_isChapel (d : Nat) (hd : 1 ≤ d) (a0 : Nat) (x1 : Int32) (M : Me) (r : Int32) (hf : f_X12_isChapel a0 x1 M = some r) : me_k M a0 = some (12, nf_c 12) ∧ Ct yX12_isChapel mX12_isChapel d 0 0 [.ref a0, .int x1] M (some (.int r), M) := by
  obtain ⟨hk, hb⟩ := ck_some hf
  exact ⟨hk, ct_of (by decide +kernel) rfl rfl (Nat.le_of_ble_eq_true rfl) (vb_X12_isChapel d hd a0 x1 M) (by rw [hb]; rfl)⟩
theorem dX12_isThere_0 : decode cX12_isThere 0 = .ok (.iload_n 1, 1) := by decide +kernel
theorem dX12_isThere_1 : decode cX12_isThere 1 = .ok (.iconst 0, 1) := by decide +kernel
theorem dX12_isThere_2 : decode cX12_isThere 2 = .ok (.iconst 5, 1) := by decide +kernel
theorem dX12_isThere_3 : decode cX12_isThere 3 = .ok (.invokestatic 81, 3) := by decide +kernel
theorem dX12_isThere_6 : decode cX12_isThere 6 = .ok (.ifCond .eq 18, 3) := by decide +kernel
theorem dX12_isThere_9 : decode cX12_isThere 9 = .ok (.aload_n 0, 1) := by decide +kernel
theorem dX12_isThere_10 : decode cX12_isThere 10 = .ok (.getfield 78, 3) := by decide +kernel
theorem dX12_isThere_13 : decode cX12_isThere 13 = .ok (.iload_n 1, 1) := by decide +kernel
theorem dX12_isThere_14 : decode cX12_isThere 14 = .ok (.invokestatic 85, 3) := by decide +kernel
theorem dX12_isThere_17 : decode cX12_isThere 17 = .ok (.ifCond .eq 7, 3) := by decide +kernel
theorem dX12_isThere_20 : decode cX12_isThere 20 = .ok (.iconst 1, 1) := by decide +kernel
theorem dX12_isThere_21 : decode cX12_isThere 21 = .ok (.goto 4, 3) := by decide +kernel
theorem dX12_isThere_24 : decode cX12_isThere 24 = .ok (.iconst 0, 1) := by decide +kernel
theorem dX12_isThere_25 : decode cX12_isThere 25 = .ok (.ireturn, 1) := by decide +kernel
noncomputable def b_X12_isThere (a0 : Nat) (x1 : Int32) (M : Me) : Option (Int32) :=
  cP (f_X12_in x1 (0 : Int32) (5 : Int32) M) fun v1 =>
  (
    if v1 = 0 then (
      some (0 : Int32)
    ) else (
      gi M a0 12 3 fun v2 =>
      cP (f_X12_has v2 x1 M) fun v3 =>
      if v3 = 0 then (
        some (0 : Int32)
      ) else (
        some (1 : Int32)
      )
    )
  ).bind fun v4 =>
  if v4 = 0 ∨ v4 = 1 then some v4 else none
noncomputable def f_X12_isThere (a0 : Nat) (x1 : Int32) (M : Me) : Option (Int32) := ck M a0 12 (b_X12_isThere a0 x1 M)
set_option maxRecDepth 20000 in
theorem vb_X12_isThere (d : Nat) (hd : 1 ≤ d) (a0 : Nat) (x1 : Int32) (M : Me) : V (mX12_isThere, d, 0, 0) (0, 0) M 0 [some (.ref a0), some (.int x1)] [] (b_X12_isThere a0 x1 M) (fun z => some (some (.int z), M)) := by
  unfold b_X12_isThere
  refine v_iload_n (q := 1) dX12_isThere_0 rfl rfl rfl ?_
  refine v_iconst (q := 2) dX12_isThere_1 rfl ic_0 ?_
  refine v_iconst (q := 3) dX12_isThere_2 rfl ic_5 ?_
  refine v_cPS3 (q := 6) (ct_X12_in (d - 1) (by omega) _ _ _ _) dX12_isThere_3 rfl cc_X12_81 (by omega) (Nat.le_of_ble_eq_true rfl) ⟨Nat.le_of_ble_eq_true rfl, Nat.le_of_ble_eq_true rfl⟩ (fun v1 => ?_)
  refine v_join (γ := Int32) 25 (fun v4 => M) (fun v4 => [some (.ref a0), some (.int x1)]) (fun v4 => [.int v4]) (fun K hK => ?_) (fun v4 => ?_)
  · refine v_if_eq (tgt := 24) (q := 9) dX12_isThere_6 rfl rfl ?_ ?_
    · refine v_iconst (q := 25) dX12_isThere_24 rfl ic_0 ?_
      exact hK (0 : Int32)
    · refine v_aload_n (q := 10) dX12_isThere_9 rfl rfl rfl ?_
      refine v_getIb (q := 13) dX12_isThere_10 rfl fg_X12_78 (fun v2 => ?_)
      refine v_iload_n (q := 14) dX12_isThere_13 rfl rfl rfl ?_
      refine v_cPS2 (q := 17) (ct_X12_has (d - 1) (by omega) _ _ _) dX12_isThere_14 rfl cc_X12_85 (by omega) (Nat.le_of_ble_eq_true rfl) ⟨Nat.le_of_ble_eq_true rfl, Nat.le_of_ble_eq_true rfl⟩ (fun v3 => ?_)
      refine v_if_eq (tgt := 24) (q := 20) dX12_isThere_17 rfl rfl ?_ ?_
      · refine v_iconst (q := 25) dX12_isThere_24 rfl ic_0 ?_
        exact hK (0 : Int32)
      · refine v_iconst (q := 21) dX12_isThere_20 rfl ic_1 ?_
        refine v_goto (tgt := 25) dX12_isThere_21 rfl ?_
        exact hK (1 : Int32)
  · exact v_zretC rfl dX12_isThere_25 ⟨Nat.le_of_ble_eq_true rfl, Nat.le_of_ble_eq_true rfl⟩ rfl
theorem ct_X12_isThere (d : Nat) (hd : 1 ≤ d) (a0 : Nat) (x1 : Int32) (M : Me) (r : Int32) (hf : f_X12_isThere a0 x1 M = some r) : me_k M a0 = some (12, nf_c 12) ∧ Ct yX12_isThere mX12_isThere d 0 0 [.ref a0, .int x1] M (some (.int r), M) := by
  obtain ⟨hk, hb⟩ := ck_some hf
  exact ⟨hk, ct_of (by decide +kernel) rfl rfl (Nat.le_of_ble_eq_true rfl) (vb_X12_isThere d hd a0 x1 M) (by rw [hb]; rfl)⟩
theorem dX12_chapels_0 : decode cX12_chapels 0 = .ok (.iload_n 1, 1) := by decide +kernel
theorem dX12_chapels_1 : decode cX12_chapels 1 = .ok (.iconst 2, 1) := by decide +kernel
theorem dX12_chapels_2 : decode cX12_chapels 2 = .ok (.iconst 5, 1) := by decide +kernel
theorem dX12_chapels_3 : decode cX12_chapels 3 = .ok (.invokestatic 81, 3) := by decide +kernel
theorem dX12_chapels_6 : decode cX12_chapels 6 = .ok (.ifCond .ne 6, 3) := by decide +kernel
theorem dX12_chapels_9 : decode cX12_chapels 9 = .ok (.bipush (-2), 2) := by decide +kernel
theorem dX12_chapels_11 : decode cX12_chapels 11 = .ok (.ireturn, 1) := by decide +kernel
theorem dX12_chapels_12 : decode cX12_chapels 12 = .ok (.aload_n 0, 1) := by decide +kernel
theorem dX12_chapels_13 : decode cX12_chapels 13 = .ok (.getfield 7, 3) := by decide +kernel
theorem dX12_chapels_16 : decode cX12_chapels 16 = .ok (.istore_n 2, 1) := by decide +kernel
theorem dX12_chapels_17 : decode cX12_chapels 17 = .ok (.aload_n 0, 1) := by decide +kernel
theorem dX12_chapels_18 : decode cX12_chapels 18 = .ok (.iload_n 1, 1) := by decide +kernel
theorem dX12_chapels_19 : decode cX12_chapels 19 = .ok (.putfield 7, 3) := by decide +kernel
theorem dX12_chapels_22 : decode cX12_chapels 22 = .ok (.aload_n 0, 1) := by decide +kernel
theorem dX12_chapels_23 : decode cX12_chapels 23 = .ok (.iconst 0, 1) := by decide +kernel
theorem dX12_chapels_24 : decode cX12_chapels 24 = .ok (.putfield 78, 3) := by decide +kernel
theorem dX12_chapels_27 : decode cX12_chapels 27 = .ok (.aload_n 0, 1) := by decide +kernel
theorem dX12_chapels_28 : decode cX12_chapels 28 = .ok (.iconst 0, 1) := by decide +kernel
theorem dX12_chapels_29 : decode cX12_chapels 29 = .ok (.putfield 89, 3) := by decide +kernel
theorem dX12_chapels_32 : decode cX12_chapels 32 = .ok (.aload_n 0, 1) := by decide +kernel
theorem dX12_chapels_33 : decode cX12_chapels 33 = .ok (.iconst 0, 1) := by decide +kernel
theorem dX12_chapels_34 : decode cX12_chapels 34 = .ok (.putfield 92, 3) := by decide +kernel
theorem dX12_chapels_37 : decode cX12_chapels 37 = .ok (.aload_n 0, 1) := by decide +kernel
theorem dX12_chapels_38 : decode cX12_chapels 38 = .ok (.iconst 0, 1) := by decide +kernel
theorem dX12_chapels_39 : decode cX12_chapels 39 = .ok (.putfield 95, 3) := by decide +kernel
theorem dX12_chapels_42 : decode cX12_chapels 42 = .ok (.iconst 0, 1) := by decide +kernel
theorem dX12_chapels_43 : decode cX12_chapels 43 = .ok (.istore_n 3, 1) := by decide +kernel
theorem dX12_chapels_44 : decode cX12_chapels 44 = .ok (.iload_n 3, 1) := by decide +kernel
theorem dX12_chapels_45 : decode cX12_chapels 45 = .ok (.bipush 25, 2) := by decide +kernel
theorem dX12_chapels_47 : decode cX12_chapels 47 = .ok (.if_icmp .ge 16, 3) := by decide +kernel
theorem dX12_chapels_50 : decode cX12_chapels 50 = .ok (.aload_n 0, 1) := by decide +kernel
theorem dX12_chapels_51 : decode cX12_chapels 51 = .ok (.getfield 13, 3) := by decide +kernel
theorem dX12_chapels_54 : decode cX12_chapels 54 = .ok (.iload_n 3, 1) := by decide +kernel
theorem dX12_chapels_55 : decode cX12_chapels 55 = .ok (.iconst 0, 1) := by decide +kernel
theorem dX12_chapels_56 : decode cX12_chapels 56 = .ok (.iastore, 1) := by decide +kernel
theorem dX12_chapels_57 : decode cX12_chapels 57 = .ok (.iinc 3 1, 3) := by decide +kernel
theorem dX12_chapels_60 : decode cX12_chapels 60 = .ok (.goto (-16), 3) := by decide +kernel
theorem dX12_chapels_63 : decode cX12_chapels 63 = .ok (.iload_n 2, 1) := by decide +kernel
theorem dX12_chapels_64 : decode cX12_chapels 64 = .ok (.ireturn, 1) := by decide +kernel
noncomputable def s_X12_chapels_44 (a0 : Nat) (M8 : Me) (v9 : Int32) : Option ((Me × Int32) ⊕ (Me × Int32)) :=
  if (25 : Int32) ≤ v9 then (
    some (Sum.inr (M8, v9))
  ) else (
    gr M8 a0 12 1 fun o10 =>
    si M8 o10 v9 (0 : Int32) fun M11 =>
    let_v (v9 + (1 : Int32)) fun v12 =>
    some (Sum.inl (M11, v12))
  )
noncomputable def b_X12_chapels (a0 : Nat) (x1 : Int32) (M : Me) : Option (Int32 × Me) :=
  cP (f_X12_in x1 (2 : Int32) (5 : Int32) M) fun v1 =>
  if v1 = 0 then (
    some ((-2 : Int32), M)
  ) else (
    gi M a0 12 0 fun v2 =>
    pi M a0 12 0 x1 fun M3 =>
    pi M3 a0 12 3 (0 : Int32) fun M4 =>
    pi M4 a0 12 6 (0 : Int32) fun M5 =>
    pi M5 a0 12 8 (0 : Int32) fun M6 =>
    pi M6 a0 12 13 (0 : Int32) fun M7 =>
    (lp (fun s => s_X12_chapels_44 a0 s.1 s.2) (M7, (0 : Int32))).bind fun e13 =>
    some (v2, e13.1)
  )
noncomputable def f_X12_chapels (a0 : Nat) (x1 : Int32) (M : Me) : Option (Int32 × Me) := ck M a0 12 (b_X12_chapels a0 x1 M)
set_option maxRecDepth 20000 in
theorem vb_X12_chapels (d : Nat) (hd : 1 ≤ d) (a0 : Nat) (x1 : Int32) (M : Me) : V (mX12_chapels, d, 0, 0) (0, 0) M 0 [some (.ref a0), some (.int x1), none, none] [] (b_X12_chapels a0 x1 M) (fun z => some (some (.int z.1), z.2)) := by
  unfold b_X12_chapels
  refine v_iload_n (q := 1) dX12_chapels_0 rfl rfl rfl ?_
  refine v_iconst (q := 2) dX12_chapels_1 rfl ic_2 ?_
  refine v_iconst (q := 3) dX12_chapels_2 rfl ic_5 ?_
  refine v_cPS3 (q := 6) (ct_X12_in (d - 1) (by omega) _ _ _ _) dX12_chapels_3 rfl cc_X12_81 (by omega) (Nat.le_of_ble_eq_true rfl) ⟨Nat.le_of_ble_eq_true rfl, Nat.le_of_ble_eq_true rfl⟩ (fun v1 => ?_)
  refine v_if_ne (tgt := 12) (q := 9) dX12_chapels_6 rfl rfl ?_ ?_
  · refine v_aload_n (q := 13) dX12_chapels_12 rfl rfl rfl ?_
    refine v_getIb (q := 16) dX12_chapels_13 rfl fg_X12_7 (fun v2 => ?_)
    refine v_istore_n (q := 17) (loc2 := [some (.ref a0), some (.int x1), some (.int v2), none]) dX12_chapels_16 rfl rfl rfl (Nat.le_of_ble_eq_true rfl) rfl ?_
    refine v_aload_n (q := 18) dX12_chapels_17 rfl rfl rfl ?_
    refine v_iload_n (q := 19) dX12_chapels_18 rfl rfl rfl ?_
    refine v_putIb (q := 22) dX12_chapels_19 rfl fp_X12_7 (fun M3 => ?_)
    refine v_aload_n (q := 23) dX12_chapels_22 rfl rfl rfl ?_
    refine v_iconst (q := 24) dX12_chapels_23 rfl ic_0 ?_
    refine v_putIb (q := 27) dX12_chapels_24 rfl fp_X12_78 (fun M4 => ?_)
    refine v_aload_n (q := 28) dX12_chapels_27 rfl rfl rfl ?_
    refine v_iconst (q := 29) dX12_chapels_28 rfl ic_0 ?_
    refine v_putIb (q := 32) dX12_chapels_29 rfl fp_X12_89 (fun M5 => ?_)
    refine v_aload_n (q := 33) dX12_chapels_32 rfl rfl rfl ?_
    refine v_iconst (q := 34) dX12_chapels_33 rfl ic_0 ?_
    refine v_putIb (q := 37) dX12_chapels_34 rfl fp_X12_92 (fun M6 => ?_)
    refine v_aload_n (q := 38) dX12_chapels_37 rfl rfl rfl ?_
    refine v_iconst (q := 39) dX12_chapels_38 rfl ic_0 ?_
    refine v_putIb (q := 42) dX12_chapels_39 rfl fp_X12_95 (fun M7 => ?_)
    refine v_iconst (q := 43) dX12_chapels_42 rfl ic_0 ?_
    refine v_istore_n (q := 44) (loc2 := [some (.ref a0), some (.int x1), some (.int v2), some (.int (0 : Int32))]) dX12_chapels_43 rfl rfl rfl (Nat.le_of_ble_eq_true rfl) rfl ?_
    refine v_lps (S := Me × Int32) 63 (fun s => s.1) (fun s => [some (.ref a0), some (.int x1), some (.int v2), some (.int s.2)]) (fun e13 => e13.1) (fun e13 => [some (.ref a0), some (.int x1), some (.int v2), some (.int e13.2)]) (fun e13 => ?_) (fun k K hk hx s => ?_)
    · refine v_iload_n (q := 64) dX12_chapels_63 rfl rfl rfl ?_
      exact v_iret rfl dX12_chapels_64 ⟨Nat.le_of_ble_eq_true rfl, Nat.le_of_ble_eq_true rfl⟩ rfl
    · obtain ⟨M8, v9⟩ := s
      show V _ _ M8 44 [some (.ref a0), some (.int x1), some (.int v2), some (.int v9)] [] (s_X12_chapels_44 a0 M8 v9) _
      unfold s_X12_chapels_44
      refine v_iload_n (q := 45) dX12_chapels_44 rfl rfl rfl ?_
      refine v_bipush (q := 47) dX12_chapels_45 rfl bp_25 ?_
      refine v_icmp_ge (tgt := 63) (q := 50) dX12_chapels_47 rfl rfl ?_ ?_
      · exact v_inr (hx (M8, v9))
      · refine v_aload_n (q := 51) dX12_chapels_50 rfl rfl rfl ?_
        refine v_getRb (q := 54) dX12_chapels_51 rfl fg_X12_13 (fun o10 => ?_)
        refine v_iload_n (q := 55) dX12_chapels_54 rfl rfl rfl ?_
        refine v_iconst (q := 56) dX12_chapels_55 rfl ic_0 ?_
        refine v_iastore (q := 57) dX12_chapels_56 rfl (fun M11 => ?_)
        refine v_iincL (q := 60) (x := v9) (cst := (1 : Int32)) (f := fun v12 => [some (.ref a0), some (.int x1), some (.int v2), some (.int v12)]) dX12_chapels_57 rfl rfl ic_1 rfl (Nat.le_of_ble_eq_true rfl) (fun _ => rfl) (fun v12 => ?_)
        refine v_goto (tgt := 44) dX12_chapels_60 rfl ?_
        exact v_inl (hk (M11, v12))
  · refine v_bipush (q := 11) dX12_chapels_9 rfl bp_m2 ?_
    exact v_iret rfl dX12_chapels_11 ⟨Nat.le_of_ble_eq_true rfl, Nat.le_of_ble_eq_true rfl⟩ rfl
theorem ct_X12_chapels (d : Nat) (hd : 1 ≤ d) (a0 : Nat) (x1 : Int32) (M : Me) (r : Int32) (M2 : Me) (hf : f_X12_chapels a0 x1 M = some (r, M2)) : me_k M a0 = some (12, nf_c 12) ∧ Ct yX12_chapels mX12_chapels d 0 0 [.ref a0, .int x1] M (some (.int r), M2) := by
  obtain ⟨hk, hb⟩ := ck_some hf
  exact ⟨hk, ct_of (by decide +kernel) rfl rfl (Nat.le_of_ble_eq_true rfl) (vb_X12_chapels d hd a0 x1 M) (by rw [hb]; rfl)⟩
theorem dX12_road_0 : decode cX12_road 0 = .ok (.aload_n 0, 1) := by decide +kernel
theorem dX12_road_1 : decode cX12_road 1 = .ok (.iload_n 1, 1) := by decide +kernel
theorem dX12_road_2 : decode cX12_road 2 = .ok (.invokevirtual 98, 3) := by decide +kernel
theorem dX12_road_5 : decode cX12_road 5 = .ok (.ifCond .eq 16, 3) := by decide +kernel
theorem dX12_road_8 : decode cX12_road 8 = .ok (.aload_n 0, 1) := by decide +kernel
theorem dX12_road_9 : decode cX12_road 9 = .ok (.iload_n 2, 1) := by decide +kernel
theorem dX12_road_10 : decode cX12_road 10 = .ok (.invokevirtual 98, 3) := by decide +kernel
theorem dX12_road_13 : decode cX12_road 13 = .ok (.ifCond .eq 8, 3) := by decide +kernel
theorem dX12_road_16 : decode cX12_road 16 = .ok (.iload_n 1, 1) := by decide +kernel
theorem dX12_road_17 : decode cX12_road 17 = .ok (.iload_n 2, 1) := by decide +kernel
theorem dX12_road_18 : decode cX12_road 18 = .ok (.if_icmp .ne 5, 3) := by decide +kernel
theorem dX12_road_21 : decode cX12_road 21 = .ok (.iconst (-1), 1) := by decide +kernel
theorem dX12_road_22 : decode cX12_road 22 = .ok (.ireturn, 1) := by decide +kernel
theorem dX12_road_23 : decode cX12_road 23 = .ok (.iload_n 3, 1) := by decide +kernel
theorem dX12_road_24 : decode cX12_road 24 = .ok (.iconst 0, 1) := by decide +kernel
theorem dX12_road_25 : decode cX12_road 25 = .ok (.bipush 99, 2) := by decide +kernel
theorem dX12_road_27 : decode cX12_road 27 = .ok (.invokestatic 81, 3) := by decide +kernel
theorem dX12_road_30 : decode cX12_road 30 = .ok (.ifCond .ne 6, 3) := by decide +kernel
theorem dX12_road_33 : decode cX12_road 33 = .ok (.bipush (-2), 2) := by decide +kernel
theorem dX12_road_35 : decode cX12_road 35 = .ok (.ireturn, 1) := by decide +kernel
theorem dX12_road_36 : decode cX12_road 36 = .ok (.aload_n 0, 1) := by decide +kernel
theorem dX12_road_37 : decode cX12_road 37 = .ok (.getfield 13, 3) := by decide +kernel
theorem dX12_road_40 : decode cX12_road 40 = .ok (.iconst 5, 1) := by decide +kernel
theorem dX12_road_41 : decode cX12_road 41 = .ok (.iload_n 1, 1) := by decide +kernel
theorem dX12_road_42 : decode cX12_road 42 = .ok (.imul, 1) := by decide +kernel
theorem dX12_road_43 : decode cX12_road 43 = .ok (.iload_n 2, 1) := by decide +kernel
theorem dX12_road_44 : decode cX12_road 44 = .ok (.iadd, 1) := by decide +kernel
theorem dX12_road_45 : decode cX12_road 45 = .ok (.iaload, 1) := by decide +kernel
theorem dX12_road_46 : decode cX12_road 46 = .ok (.istore 4, 2) := by decide +kernel
theorem dX12_road_48 : decode cX12_road 48 = .ok (.aload_n 0, 1) := by decide +kernel
theorem dX12_road_49 : decode cX12_road 49 = .ok (.getfield 13, 3) := by decide +kernel
theorem dX12_road_52 : decode cX12_road 52 = .ok (.iconst 5, 1) := by decide +kernel
theorem dX12_road_53 : decode cX12_road 53 = .ok (.iload_n 1, 1) := by decide +kernel
theorem dX12_road_54 : decode cX12_road 54 = .ok (.imul, 1) := by decide +kernel
theorem dX12_road_55 : decode cX12_road 55 = .ok (.iload_n 2, 1) := by decide +kernel
theorem dX12_road_56 : decode cX12_road 56 = .ok (.iadd, 1) := by decide +kernel
theorem dX12_road_57 : decode cX12_road 57 = .ok (.iload_n 3, 1) := by decide +kernel
theorem dX12_road_58 : decode cX12_road 58 = .ok (.iastore, 1) := by decide +kernel
theorem dX12_road_59 : decode cX12_road 59 = .ok (.aload_n 0, 1) := by decide +kernel
theorem dX12_road_60 : decode cX12_road 60 = .ok (.getfield 13, 3) := by decide +kernel
theorem dX12_road_63 : decode cX12_road 63 = .ok (.iconst 5, 1) := by decide +kernel
theorem dX12_road_64 : decode cX12_road 64 = .ok (.iload_n 2, 1) := by decide +kernel
theorem dX12_road_65 : decode cX12_road 65 = .ok (.imul, 1) := by decide +kernel
theorem dX12_road_66 : decode cX12_road 66 = .ok (.iload_n 1, 1) := by decide +kernel
theorem dX12_road_67 : decode cX12_road 67 = .ok (.iadd, 1) := by decide +kernel
theorem dX12_road_68 : decode cX12_road 68 = .ok (.iload_n 3, 1) := by decide +kernel
theorem dX12_road_69 : decode cX12_road 69 = .ok (.iastore, 1) := by decide +kernel
theorem dX12_road_70 : decode cX12_road 70 = .ok (.iload 4, 2) := by decide +kernel
theorem dX12_road_72 : decode cX12_road 72 = .ok (.ireturn, 1) := by decide +kernel
noncomputable def b_X12_road (a0 : Nat) (x1 : Int32) (x2 : Int32) (x3 : Int32) (M : Me) : Option (Int32 × Me) :=
  cP (f_X12_isChapel a0 x1 M) fun v1 =>
  if v1 = 0 then (
    some ((-1 : Int32), M)
  ) else (
    cP (f_X12_isChapel a0 x2 M) fun v2 =>
    if v2 = 0 then (
      some ((-1 : Int32), M)
    ) else (
      if x1 = x2 then (
        some ((-1 : Int32), M)
      ) else (
        cP (f_X12_in x3 (0 : Int32) (99 : Int32) M) fun v3 =>
        if v3 = 0 then (
          some ((-2 : Int32), M)
        ) else (
          gr M a0 12 1 fun o4 =>
          li M o4 (((5 : Int32) * x1) + x2) fun v5 =>
          gr M a0 12 1 fun o6 =>
          si M o6 (((5 : Int32) * x1) + x2) x3 fun M7 =>
          gr M7 a0 12 1 fun o8 =>
          si M7 o8 (((5 : Int32) * x2) + x1) x3 fun M9 =>
          some (v5, M9)
        )
      )
    )
  )
noncomputable def f_X12_road (a0 : Nat) (x1 : Int32) (x2 : Int32) (x3 : Int32) (M : Me) : Option (Int32 × Me) := ck M a0 12 (b_X12_road a0 x1 x2 x3 M)
set_option maxRecDepth 20000 in
theorem vb_X12_road (d : Nat) (hd : 2 ≤ d) (a0 : Nat) (x1 : Int32) (x2 : Int32) (x3 : Int32) (M : Me) : V (mX12_road, d, 0, 0) (0, 0) M 0 [some (.ref a0), some (.int x1), some (.int x2), some (.int x3), none] [] (b_X12_road a0 x1 x2 x3 M) (fun z => some (some (.int z.1), z.2)) := by
  unfold b_X12_road
  refine v_aload_n (q := 1) dX12_road_0 rfl rfl rfl ?_
  refine v_iload_n (q := 2) dX12_road_1 rfl rfl rfl ?_
  refine v_cPV1 (q := 5) (ct_X12_isChapel (d - 1) (by omega) _ _ _) dX12_road_2 rfl cc_X12_98 (by omega) (Nat.le_of_ble_eq_true rfl) ⟨Nat.le_of_ble_eq_true rfl, Nat.le_of_ble_eq_true rfl⟩ (fun v1 => ?_)
  refine v_if_eq (tgt := 21) (q := 8) dX12_road_5 rfl rfl ?_ ?_
  · refine v_iconst (q := 22) dX12_road_21 rfl ic_m1 ?_
    exact v_iret rfl dX12_road_22 ⟨Nat.le_of_ble_eq_true rfl, Nat.le_of_ble_eq_true rfl⟩ rfl
  · refine v_aload_n (q := 9) dX12_road_8 rfl rfl rfl ?_
    refine v_iload_n (q := 10) dX12_road_9 rfl rfl rfl ?_
    refine v_cPV1 (q := 13) (ct_X12_isChapel (d - 1) (by omega) _ _ _) dX12_road_10 rfl cc_X12_98 (by omega) (Nat.le_of_ble_eq_true rfl) ⟨Nat.le_of_ble_eq_true rfl, Nat.le_of_ble_eq_true rfl⟩ (fun v2 => ?_)
    refine v_if_eq (tgt := 21) (q := 16) dX12_road_13 rfl rfl ?_ ?_
    · refine v_iconst (q := 22) dX12_road_21 rfl ic_m1 ?_
      exact v_iret rfl dX12_road_22 ⟨Nat.le_of_ble_eq_true rfl, Nat.le_of_ble_eq_true rfl⟩ rfl
    · refine v_iload_n (q := 17) dX12_road_16 rfl rfl rfl ?_
      refine v_iload_n (q := 18) dX12_road_17 rfl rfl rfl ?_
      refine v_icmp_ne (tgt := 23) (q := 21) dX12_road_18 rfl rfl ?_ ?_
      · refine v_iload_n (q := 24) dX12_road_23 rfl rfl rfl ?_
        refine v_iconst (q := 25) dX12_road_24 rfl ic_0 ?_
        refine v_bipush (q := 27) dX12_road_25 rfl bp_99 ?_
        refine v_cPS3 (q := 30) (ct_X12_in (d - 1) (by omega) _ _ _ _) dX12_road_27 rfl cc_X12_81 (by omega) (Nat.le_of_ble_eq_true rfl) ⟨Nat.le_of_ble_eq_true rfl, Nat.le_of_ble_eq_true rfl⟩ (fun v3 => ?_)
        refine v_if_ne (tgt := 36) (q := 33) dX12_road_30 rfl rfl ?_ ?_
        · refine v_aload_n (q := 37) dX12_road_36 rfl rfl rfl ?_
          refine v_getRb (q := 40) dX12_road_37 rfl fg_X12_13 (fun o4 => ?_)
          refine v_iconst (q := 41) dX12_road_40 rfl ic_5 ?_
          refine v_iload_n (q := 42) dX12_road_41 rfl rfl rfl ?_
          refine v_imul (q := 43) dX12_road_42 rfl ?_
          refine v_iload_n (q := 44) dX12_road_43 rfl rfl rfl ?_
          refine v_iadd (q := 45) dX12_road_44 rfl ?_
          refine v_iaload (q := 46) dX12_road_45 rfl (fun v5 => ?_)
          refine v_istore (q := 48) (loc2 := [some (.ref a0), some (.int x1), some (.int x2), some (.int x3), some (.int v5)]) dX12_road_46 rfl rfl (Nat.le_of_ble_eq_true rfl) rfl ?_
          refine v_aload_n (q := 49) dX12_road_48 rfl rfl rfl ?_
          refine v_getRb (q := 52) dX12_road_49 rfl fg_X12_13 (fun o6 => ?_)
          refine v_iconst (q := 53) dX12_road_52 rfl ic_5 ?_
          refine v_iload_n (q := 54) dX12_road_53 rfl rfl rfl ?_
          refine v_imul (q := 55) dX12_road_54 rfl ?_
          refine v_iload_n (q := 56) dX12_road_55 rfl rfl rfl ?_
          refine v_iadd (q := 57) dX12_road_56 rfl ?_
          refine v_iload_n (q := 58) dX12_road_57 rfl rfl rfl ?_
          refine v_iastore (q := 59) dX12_road_58 rfl (fun M7 => ?_)
          refine v_aload_n (q := 60) dX12_road_59 rfl rfl rfl ?_
          refine v_getRb (q := 63) dX12_road_60 rfl fg_X12_13 (fun o8 => ?_)
          refine v_iconst (q := 64) dX12_road_63 rfl ic_5 ?_
          refine v_iload_n (q := 65) dX12_road_64 rfl rfl rfl ?_
          refine v_imul (q := 66) dX12_road_65 rfl ?_
          refine v_iload_n (q := 67) dX12_road_66 rfl rfl rfl ?_
          refine v_iadd (q := 68) dX12_road_67 rfl ?_
          refine v_iload_n (q := 69) dX12_road_68 rfl rfl rfl ?_
          refine v_iastore (q := 70) dX12_road_69 rfl (fun M9 => ?_)
          refine v_iload (q := 72) dX12_road_70 rfl rfl ?_
          exact v_iret rfl dX12_road_72 ⟨Nat.le_of_ble_eq_true rfl, Nat.le_of_ble_eq_true rfl⟩ rfl
        · refine v_bipush (q := 35) dX12_road_33 rfl bp_m2 ?_
          exact v_iret rfl dX12_road_35 ⟨Nat.le_of_ble_eq_true rfl, Nat.le_of_ble_eq_true rfl⟩ rfl
      · refine v_iconst (q := 22) dX12_road_21 rfl ic_m1 ?_
        exact v_iret rfl dX12_road_22 ⟨Nat.le_of_ble_eq_true rfl, Nat.le_of_ble_eq_true rfl⟩ rfl
theorem ct_X12_road (d : Nat) (hd : 2 ≤ d) (a0 : Nat) (x1 : Int32) (x2 : Int32) (x3 : Int32) (M : Me) (r : Int32) (M2 : Me) (hf : f_X12_road a0 x1 x2 x3 M = some (r, M2)) : me_k M a0 = some (12, nf_c 12) ∧ Ct yX12_road mX12_road d 0 0 [.ref a0, .int x1, .int x2, .int x3] M (some (.int r), M2) := by
  obtain ⟨hk, hb⟩ := ck_some hf
  exact ⟨hk, ct_of (by decide +kernel) rfl rfl (Nat.le_of_ble_eq_true rfl) (vb_X12_road d hd a0 x1 x2 x3 M) (by rw [hb]; rfl)⟩
theorem dX12_yearOf_0 : decode cX12_yearOf 0 = .ok (.iload_n 1, 1) := by decide +kernel
theorem dX12_yearOf_1 : decode cX12_yearOf 1 = .ok (.bipush 10, 2) := by decide +kernel
theorem dX12_yearOf_3 : decode cX12_yearOf 3 = .ok (.sipush 400, 3) := by decide +kernel
theorem dX12_yearOf_6 : decode cX12_yearOf 6 = .ok (.invokestatic 81, 3) := by decide +kernel
theorem dX12_yearOf_9 : decode cX12_yearOf 9 = .ok (.ifCond .ne 6, 3) := by decide +kernel
theorem dX12_yearOf_12 : decode cX12_yearOf 12 = .ok (.bipush (-2), 2) := by decide +kernel
theorem dX12_yearOf_14 : decode cX12_yearOf 14 = .ok (.ireturn, 1) := by decide +kernel
theorem dX12_yearOf_15 : decode cX12_yearOf 15 = .ok (.aload_n 0, 1) := by decide +kernel
theorem dX12_yearOf_16 : decode cX12_yearOf 16 = .ok (.getfield 95, 3) := by decide +kernel
theorem dX12_yearOf_19 : decode cX12_yearOf 19 = .ok (.ifCond .le 6, 3) := by decide +kernel
theorem dX12_yearOf_22 : decode cX12_yearOf 22 = .ok (.bipush (-3), 2) := by decide +kernel
theorem dX12_yearOf_24 : decode cX12_yearOf 24 = .ok (.ireturn, 1) := by decide +kernel
theorem dX12_yearOf_25 : decode cX12_yearOf 25 = .ok (.aload_n 0, 1) := by decide +kernel
theorem dX12_yearOf_26 : decode cX12_yearOf 26 = .ok (.getfield 17, 3) := by decide +kernel
theorem dX12_yearOf_29 : decode cX12_yearOf 29 = .ok (.istore_n 2, 1) := by decide +kernel
theorem dX12_yearOf_30 : decode cX12_yearOf 30 = .ok (.aload_n 0, 1) := by decide +kernel
theorem dX12_yearOf_31 : decode cX12_yearOf 31 = .ok (.iload_n 1, 1) := by decide +kernel
theorem dX12_yearOf_32 : decode cX12_yearOf 32 = .ok (.putfield 17, 3) := by decide +kernel
theorem dX12_yearOf_35 : decode cX12_yearOf 35 = .ok (.iload_n 2, 1) := by decide +kernel
theorem dX12_yearOf_36 : decode cX12_yearOf 36 = .ok (.ireturn, 1) := by decide +kernel
noncomputable def b_X12_yearOf (a0 : Nat) (x1 : Int32) (M : Me) : Option (Int32 × Me) :=
  cP (f_X12_in x1 (10 : Int32) (400 : Int32) M) fun v1 =>
  if v1 = 0 then (
    some ((-2 : Int32), M)
  ) else (
    gi M a0 12 13 fun v2 =>
    if v2 ≤ 0 then (
      gi M a0 12 2 fun v3 =>
      pi M a0 12 2 x1 fun M4 =>
      some (v3, M4)
    ) else (
      some ((-3 : Int32), M)
    )
  )
noncomputable def f_X12_yearOf (a0 : Nat) (x1 : Int32) (M : Me) : Option (Int32 × Me) := ck M a0 12 (b_X12_yearOf a0 x1 M)
set_option maxRecDepth 20000 in
theorem vb_X12_yearOf (d : Nat) (hd : 1 ≤ d) (a0 : Nat) (x1 : Int32) (M : Me) : V (mX12_yearOf, d, 0, 0) (0, 0) M 0 [some (.ref a0), some (.int x1), none] [] (b_X12_yearOf a0 x1 M) (fun z => some (some (.int z.1), z.2)) := by
  unfold b_X12_yearOf
  refine v_iload_n (q := 1) dX12_yearOf_0 rfl rfl rfl ?_
  refine v_bipush (q := 3) dX12_yearOf_1 rfl bp_10 ?_
  refine v_sipush (q := 6) dX12_yearOf_3 rfl sp_400 ?_
  refine v_cPS3 (q := 9) (ct_X12_in (d - 1) (by omega) _ _ _ _) dX12_yearOf_6 rfl cc_X12_81 (by omega) (Nat.le_of_ble_eq_true rfl) ⟨Nat.le_of_ble_eq_true rfl, Nat.le_of_ble_eq_true rfl⟩ (fun v1 => ?_)
  refine v_if_ne (tgt := 15) (q := 12) dX12_yearOf_9 rfl rfl ?_ ?_
  · refine v_aload_n (q := 16) dX12_yearOf_15 rfl rfl rfl ?_
    refine v_getIb (q := 19) dX12_yearOf_16 rfl fg_X12_95 (fun v2 => ?_)
    refine v_if_le (tgt := 25) (q := 22) dX12_yearOf_19 rfl rfl ?_ ?_
    · refine v_aload_n (q := 26) dX12_yearOf_25 rfl rfl rfl ?_
      refine v_getIb (q := 29) dX12_yearOf_26 rfl fg_X12_17 (fun v3 => ?_)
      refine v_istore_n (q := 30) (loc2 := [some (.ref a0), some (.int x1), some (.int v3)]) dX12_yearOf_29 rfl rfl rfl (Nat.le_of_ble_eq_true rfl) rfl ?_
      refine v_aload_n (q := 31) dX12_yearOf_30 rfl rfl rfl ?_
      refine v_iload_n (q := 32) dX12_yearOf_31 rfl rfl rfl ?_
      refine v_putIb (q := 35) dX12_yearOf_32 rfl fp_X12_17 (fun M4 => ?_)
      refine v_iload_n (q := 36) dX12_yearOf_35 rfl rfl rfl ?_
      exact v_iret rfl dX12_yearOf_36 ⟨Nat.le_of_ble_eq_true rfl, Nat.le_of_ble_eq_true rfl⟩ rfl
    · refine v_bipush (q := 24) dX12_yearOf_22 rfl bp_m3 ?_
      exact v_iret rfl dX12_yearOf_24 ⟨Nat.le_of_ble_eq_true rfl, Nat.le_of_ble_eq_true rfl⟩ rfl
  · refine v_bipush (q := 14) dX12_yearOf_12 rfl bp_m2 ?_
    exact v_iret rfl dX12_yearOf_14 ⟨Nat.le_of_ble_eq_true rfl, Nat.le_of_ble_eq_true rfl⟩ rfl
theorem ct_X12_yearOf (d : Nat) (hd : 1 ≤ d) (a0 : Nat) (x1 : Int32) (M : Me) (r : Int32) (M2 : Me) (hf : f_X12_yearOf a0 x1 M = some (r, M2)) : me_k M a0 = some (12, nf_c 12) ∧ Ct yX12_yearOf mX12_yearOf d 0 0 [.ref a0, .int x1] M (some (.int r), M2) := by
  obtain ⟨hk, hb⟩ := ck_some hf
  exact ⟨hk, ct_of (by decide +kernel) rfl rfl (Nat.le_of_ble_eq_true rfl) (vb_X12_yearOf d hd a0 x1 M) (by rw [hb]; rfl)⟩
theorem dX12_knight_0 : decode cX12_knight 0 = .ok (.iload_n 1, 1) := by decide +kernel
theorem dX12_knight_1 : decode cX12_knight 1 = .ok (.iconst 0, 1) := by decide +kernel
theorem dX12_knight_2 : decode cX12_knight 2 = .ok (.iconst 5, 1) := by decide +kernel
theorem dX12_knight_3 : decode cX12_knight 3 = .ok (.invokestatic 81, 3) := by decide +kernel
theorem dX12_knight_6 : decode cX12_knight 6 = .ok (.ifCond .eq 11, 3) := by decide +kernel
theorem dX12_knight_9 : decode cX12_knight 9 = .ok (.aload_n 0, 1) := by decide +kernel
theorem dX12_knight_10 : decode cX12_knight 10 = .ok (.iload_n 2, 1) := by decide +kernel
theorem dX12_knight_11 : decode cX12_knight 11 = .ok (.invokevirtual 98, 3) := by decide +kernel
theorem dX12_knight_14 : decode cX12_knight 14 = .ok (.ifCond .ne 5, 3) := by decide +kernel
theorem dX12_knight_17 : decode cX12_knight 17 = .ok (.iconst (-1), 1) := by decide +kernel
theorem dX12_knight_18 : decode cX12_knight 18 = .ok (.ireturn, 1) := by decide +kernel
theorem dX12_knight_19 : decode cX12_knight 19 = .ok (.iload_n 3, 1) := by decide +kernel
theorem dX12_knight_20 : decode cX12_knight 20 = .ok (.iconst 1, 1) := by decide +kernel
theorem dX12_knight_21 : decode cX12_knight 21 = .ok (.bipush 20, 2) := by decide +kernel
theorem dX12_knight_23 : decode cX12_knight 23 = .ok (.invokestatic 81, 3) := by decide +kernel
theorem dX12_knight_26 : decode cX12_knight 26 = .ok (.ifCond .eq 25, 3) := by decide +kernel
theorem dX12_knight_29 : decode cX12_knight 29 = .ok (.iload 4, 2) := by decide +kernel
theorem dX12_knight_31 : decode cX12_knight 31 = .ok (.iconst 1, 1) := by decide +kernel
theorem dX12_knight_32 : decode cX12_knight 32 = .ok (.bipush 99, 2) := by decide +kernel
theorem dX12_knight_34 : decode cX12_knight 34 = .ok (.invokestatic 81, 3) := by decide +kernel
theorem dX12_knight_37 : decode cX12_knight 37 = .ok (.ifCond .eq 14, 3) := by decide +kernel
theorem dX12_knight_40 : decode cX12_knight 40 = .ok (.iload 5, 2) := by decide +kernel
theorem dX12_knight_42 : decode cX12_knight 42 = .ok (.iconst 0, 1) := by decide +kernel
theorem dX12_knight_43 : decode cX12_knight 43 = .ok (.bipush 99, 2) := by decide +kernel
theorem dX12_knight_45 : decode cX12_knight 45 = .ok (.invokestatic 81, 3) := by decide +kernel
theorem dX12_knight_48 : decode cX12_knight 48 = .ok (.ifCond .ne 6, 3) := by decide +kernel
theorem dX12_knight_51 : decode cX12_knight 51 = .ok (.bipush (-2), 2) := by decide +kernel
theorem dX12_knight_53 : decode cX12_knight 53 = .ok (.ireturn, 1) := by decide +kernel
theorem dX12_knight_54 : decode cX12_knight 54 = .ok (.aload_n 0, 1) := by decide +kernel
theorem dX12_knight_55 : decode cX12_knight 55 = .ok (.iload_n 1, 1) := by decide +kernel
theorem dX12_knight_56 : decode cX12_knight 56 = .ok (.invokevirtual 102, 3) := by decide +kernel
theorem dX12_knight_59 : decode cX12_knight 59 = .ok (.ifCond .eq 6, 3) := by decide +kernel
theorem dX12_knight_62 : decode cX12_knight 62 = .ok (.bipush (-3), 2) := by decide +kernel
theorem dX12_knight_64 : decode cX12_knight 64 = .ok (.ireturn, 1) := by decide +kernel
theorem dX12_knight_65 : decode cX12_knight 65 = .ok (.aload_n 0, 1) := by decide +kernel
theorem dX12_knight_66 : decode cX12_knight 66 = .ok (.dup, 1) := by decide +kernel
theorem dX12_knight_67 : decode cX12_knight 67 = .ok (.getfield 78, 3) := by decide +kernel
theorem dX12_knight_70 : decode cX12_knight 70 = .ok (.iconst 1, 1) := by decide +kernel
theorem dX12_knight_71 : decode cX12_knight 71 = .ok (.iload_n 1, 1) := by decide +kernel
theorem dX12_knight_72 : decode cX12_knight 72 = .ok (.ishl, 1) := by decide +kernel
theorem dX12_knight_73 : decode cX12_knight 73 = .ok (.ior, 1) := by decide +kernel
theorem dX12_knight_74 : decode cX12_knight 74 = .ok (.putfield 78, 3) := by decide +kernel
theorem dX12_knight_77 : decode cX12_knight 77 = .ok (.aload_n 0, 1) := by decide +kernel
theorem dX12_knight_78 : decode cX12_knight 78 = .ok (.getfield 20, 3) := by decide +kernel
theorem dX12_knight_81 : decode cX12_knight 81 = .ok (.iload_n 1, 1) := by decide +kernel
theorem dX12_knight_82 : decode cX12_knight 82 = .ok (.iload_n 3, 1) := by decide +kernel
theorem dX12_knight_83 : decode cX12_knight 83 = .ok (.iastore, 1) := by decide +kernel
theorem dX12_knight_84 : decode cX12_knight 84 = .ok (.aload_n 0, 1) := by decide +kernel
theorem dX12_knight_85 : decode cX12_knight 85 = .ok (.getfield 23, 3) := by decide +kernel
theorem dX12_knight_88 : decode cX12_knight 88 = .ok (.iload_n 1, 1) := by decide +kernel
theorem dX12_knight_89 : decode cX12_knight 89 = .ok (.iload_n 2, 1) := by decide +kernel
theorem dX12_knight_90 : decode cX12_knight 90 = .ok (.iastore, 1) := by decide +kernel
theorem dX12_knight_91 : decode cX12_knight 91 = .ok (.aload_n 0, 1) := by decide +kernel
theorem dX12_knight_92 : decode cX12_knight 92 = .ok (.getfield 29, 3) := by decide +kernel
theorem dX12_knight_95 : decode cX12_knight 95 = .ok (.iload_n 1, 1) := by decide +kernel
theorem dX12_knight_96 : decode cX12_knight 96 = .ok (.iload_n 2, 1) := by decide +kernel
theorem dX12_knight_97 : decode cX12_knight 97 = .ok (.iastore, 1) := by decide +kernel
theorem dX12_knight_98 : decode cX12_knight 98 = .ok (.aload_n 0, 1) := by decide +kernel
theorem dX12_knight_99 : decode cX12_knight 99 = .ok (.getfield 32, 3) := by decide +kernel
theorem dX12_knight_102 : decode cX12_knight 102 = .ok (.iload_n 1, 1) := by decide +kernel
theorem dX12_knight_103 : decode cX12_knight 103 = .ok (.iconst 0, 1) := by decide +kernel
theorem dX12_knight_104 : decode cX12_knight 104 = .ok (.iastore, 1) := by decide +kernel
theorem dX12_knight_105 : decode cX12_knight 105 = .ok (.aload_n 0, 1) := by decide +kernel
theorem dX12_knight_106 : decode cX12_knight 106 = .ok (.getfield 35, 3) := by decide +kernel
theorem dX12_knight_109 : decode cX12_knight 109 = .ok (.iload_n 1, 1) := by decide +kernel
theorem dX12_knight_110 : decode cX12_knight 110 = .ok (.iload 4, 2) := by decide +kernel
theorem dX12_knight_112 : decode cX12_knight 112 = .ok (.iastore, 1) := by decide +kernel
theorem dX12_knight_113 : decode cX12_knight 113 = .ok (.aload_n 0, 1) := by decide +kernel
theorem dX12_knight_114 : decode cX12_knight 114 = .ok (.getfield 38, 3) := by decide +kernel
theorem dX12_knight_117 : decode cX12_knight 117 = .ok (.iload_n 1, 1) := by decide +kernel
theorem dX12_knight_118 : decode cX12_knight 118 = .ok (.iload 5, 2) := by decide +kernel
theorem dX12_knight_120 : decode cX12_knight 120 = .ok (.iastore, 1) := by decide +kernel
theorem dX12_knight_121 : decode cX12_knight 121 = .ok (.aload_n 0, 1) := by decide +kernel
theorem dX12_knight_122 : decode cX12_knight 122 = .ok (.getfield 78, 3) := by decide +kernel
theorem dX12_knight_125 : decode cX12_knight 125 = .ok (.invokestatic 105, 3) := by decide +kernel
theorem dX12_knight_128 : decode cX12_knight 128 = .ok (.ireturn, 1) := by decide +kernel
noncomputable def b_X12_knight (a0 : Nat) (x1 : Int32) (x2 : Int32) (x3 : Int32) (x4 : Int32) (x5 : Int32) (M : Me) : Option (Int32 × Me) :=
  cP (f_X12_in x1 (0 : Int32) (5 : Int32) M) fun v1 =>
  if v1 = 0 then (
    some ((-1 : Int32), M)
  ) else (
    cP (f_X12_isChapel a0 x2 M) fun v2 =>
    if v2 = 0 then (
      some ((-1 : Int32), M)
    ) else (
      cP (f_X12_in x3 (1 : Int32) (20 : Int32) M) fun v3 =>
      if v3 = 0 then (
        some ((-2 : Int32), M)
      ) else (
        cP (f_X12_in x4 (1 : Int32) (99 : Int32) M) fun v4 =>
        if v4 = 0 then (
          some ((-2 : Int32), M)
        ) else (
          cP (f_X12_in x5 (0 : Int32) (99 : Int32) M) fun v5 =>
          if v5 = 0 then (
            some ((-2 : Int32), M)
          ) else (
            cP (f_X12_isThere a0 x1 M) fun v6 =>
            if v6 = 0 then (
              gi M a0 12 3 fun v7 =>
              pi M a0 12 3 (v7 ||| ((1 : Int32) <<< (x1 &&& 31))) fun M8 =>
              gr M8 a0 12 4 fun o9 =>
              si M8 o9 x1 x3 fun M10 =>
              gr M10 a0 12 5 fun o11 =>
              si M10 o11 x1 x2 fun M12 =>
              gr M12 a0 12 9 fun o13 =>
              si M12 o13 x1 x2 fun M14 =>
              gr M14 a0 12 10 fun o15 =>
              si M14 o15 x1 (0 : Int32) fun M16 =>
              gr M16 a0 12 11 fun o17 =>
              si M16 o17 x1 x4 fun M18 =>
              gr M18 a0 12 12 fun o19 =>
              si M18 o19 x1 x5 fun M20 =>
              gi M20 a0 12 3 fun v21 =>
              cP (f_X12_bits v21 M20) fun v22 =>
              some (v22, M20)
            ) else (
              some ((-3 : Int32), M)
            )
          )
        )
      )
    )
  )
noncomputable def f_X12_knight (a0 : Nat) (x1 : Int32) (x2 : Int32) (x3 : Int32) (x4 : Int32) (x5 : Int32) (M : Me) : Option (Int32 × Me) := ck M a0 12 (b_X12_knight a0 x1 x2 x3 x4 x5 M)
set_option maxRecDepth 20000 in
theorem vb_X12_knight (d : Nat) (hd : 2 ≤ d) (a0 : Nat) (x1 : Int32) (x2 : Int32) (x3 : Int32) (x4 : Int32) (x5 : Int32) (M : Me) : V (mX12_knight, d, 0, 0) (0, 0) M 0 [some (.ref a0), some (.int x1), some (.int x2), some (.int x3), some (.int x4), some (.int x5)] [] (b_X12_knight a0 x1 x2 x3 x4 x5 M) (fun z => some (some (.int z.1), z.2)) := by
  unfold b_X12_knight
  refine v_iload_n (q := 1) dX12_knight_0 rfl rfl rfl ?_
  refine v_iconst (q := 2) dX12_knight_1 rfl ic_0 ?_
  refine v_iconst (q := 3) dX12_knight_2 rfl ic_5 ?_
  refine v_cPS3 (q := 6) (ct_X12_in (d - 1) (by omega) _ _ _ _) dX12_knight_3 rfl cc_X12_81 (by omega) (Nat.le_of_ble_eq_true rfl) ⟨Nat.le_of_ble_eq_true rfl, Nat.le_of_ble_eq_true rfl⟩ (fun v1 => ?_)
  refine v_if_eq (tgt := 17) (q := 9) dX12_knight_6 rfl rfl ?_ ?_
  · refine v_iconst (q := 18) dX12_knight_17 rfl ic_m1 ?_
    exact v_iret rfl dX12_knight_18 ⟨Nat.le_of_ble_eq_true rfl, Nat.le_of_ble_eq_true rfl⟩ rfl
  · refine v_aload_n (q := 10) dX12_knight_9 rfl rfl rfl ?_
    refine v_iload_n (q := 11) dX12_knight_10 rfl rfl rfl ?_
    refine v_cPV1 (q := 14) (ct_X12_isChapel (d - 1) (by omega) _ _ _) dX12_knight_11 rfl cc_X12_98 (by omega) (Nat.le_of_ble_eq_true rfl) ⟨Nat.le_of_ble_eq_true rfl, Nat.le_of_ble_eq_true rfl⟩ (fun v2 => ?_)
    refine v_if_ne (tgt := 19) (q := 17) dX12_knight_14 rfl rfl ?_ ?_
    · refine v_iload_n (q := 20) dX12_knight_19 rfl rfl rfl ?_
      refine v_iconst (q := 21) dX12_knight_20 rfl ic_1 ?_
      refine v_bipush (q := 23) dX12_knight_21 rfl bp_20 ?_
      refine v_cPS3 (q := 26) (ct_X12_in (d - 1) (by omega) _ _ _ _) dX12_knight_23 rfl cc_X12_81 (by omega) (Nat.le_of_ble_eq_true rfl) ⟨Nat.le_of_ble_eq_true rfl, Nat.le_of_ble_eq_true rfl⟩ (fun v3 => ?_)
      refine v_if_eq (tgt := 51) (q := 29) dX12_knight_26 rfl rfl ?_ ?_
      · refine v_bipush (q := 53) dX12_knight_51 rfl bp_m2 ?_
        exact v_iret rfl dX12_knight_53 ⟨Nat.le_of_ble_eq_true rfl, Nat.le_of_ble_eq_true rfl⟩ rfl
      · refine v_iload (q := 31) dX12_knight_29 rfl rfl ?_
        refine v_iconst (q := 32) dX12_knight_31 rfl ic_1 ?_
        refine v_bipush (q := 34) dX12_knight_32 rfl bp_99 ?_
        refine v_cPS3 (q := 37) (ct_X12_in (d - 1) (by omega) _ _ _ _) dX12_knight_34 rfl cc_X12_81 (by omega) (Nat.le_of_ble_eq_true rfl) ⟨Nat.le_of_ble_eq_true rfl, Nat.le_of_ble_eq_true rfl⟩ (fun v4 => ?_)
        refine v_if_eq (tgt := 51) (q := 40) dX12_knight_37 rfl rfl ?_ ?_
        · refine v_bipush (q := 53) dX12_knight_51 rfl bp_m2 ?_
          exact v_iret rfl dX12_knight_53 ⟨Nat.le_of_ble_eq_true rfl, Nat.le_of_ble_eq_true rfl⟩ rfl
        · refine v_iload (q := 42) dX12_knight_40 rfl rfl ?_
          refine v_iconst (q := 43) dX12_knight_42 rfl ic_0 ?_
          refine v_bipush (q := 45) dX12_knight_43 rfl bp_99 ?_
          refine v_cPS3 (q := 48) (ct_X12_in (d - 1) (by omega) _ _ _ _) dX12_knight_45 rfl cc_X12_81 (by omega) (Nat.le_of_ble_eq_true rfl) ⟨Nat.le_of_ble_eq_true rfl, Nat.le_of_ble_eq_true rfl⟩ (fun v5 => ?_)
          refine v_if_ne (tgt := 54) (q := 51) dX12_knight_48 rfl rfl ?_ ?_
          · refine v_aload_n (q := 55) dX12_knight_54 rfl rfl rfl ?_
            refine v_iload_n (q := 56) dX12_knight_55 rfl rfl rfl ?_
            refine v_cPV1 (q := 59) (ct_X12_isThere (d - 1) (by omega) _ _ _) dX12_knight_56 rfl cc_X12_102 (by omega) (Nat.le_of_ble_eq_true rfl) ⟨Nat.le_of_ble_eq_true rfl, Nat.le_of_ble_eq_true rfl⟩ (fun v6 => ?_)
            refine v_if_eq (tgt := 65) (q := 62) dX12_knight_59 rfl rfl ?_ ?_
            · refine v_aload_n (q := 66) dX12_knight_65 rfl rfl rfl ?_
              refine v_dup (q := 67) dX12_knight_66 rfl rfl ?_
              refine v_getIb (q := 70) dX12_knight_67 rfl fg_X12_78 (fun v7 => ?_)
              refine v_iconst (q := 71) dX12_knight_70 rfl ic_1 ?_
              refine v_iload_n (q := 72) dX12_knight_71 rfl rfl rfl ?_
              refine v_ishl (q := 73) dX12_knight_72 rfl ?_
              refine v_ior (q := 74) dX12_knight_73 rfl ?_
              refine v_putIb (q := 77) dX12_knight_74 rfl fp_X12_78 (fun M8 => ?_)
              refine v_aload_n (q := 78) dX12_knight_77 rfl rfl rfl ?_
              refine v_getRb (q := 81) dX12_knight_78 rfl fg_X12_20 (fun o9 => ?_)
              refine v_iload_n (q := 82) dX12_knight_81 rfl rfl rfl ?_
              refine v_iload_n (q := 83) dX12_knight_82 rfl rfl rfl ?_
              refine v_iastore (q := 84) dX12_knight_83 rfl (fun M10 => ?_)
              refine v_aload_n (q := 85) dX12_knight_84 rfl rfl rfl ?_
              refine v_getRb (q := 88) dX12_knight_85 rfl fg_X12_23 (fun o11 => ?_)
              refine v_iload_n (q := 89) dX12_knight_88 rfl rfl rfl ?_
              refine v_iload_n (q := 90) dX12_knight_89 rfl rfl rfl ?_
              refine v_iastore (q := 91) dX12_knight_90 rfl (fun M12 => ?_)
              refine v_aload_n (q := 92) dX12_knight_91 rfl rfl rfl ?_
              refine v_getRb (q := 95) dX12_knight_92 rfl fg_X12_29 (fun o13 => ?_)
              refine v_iload_n (q := 96) dX12_knight_95 rfl rfl rfl ?_
              refine v_iload_n (q := 97) dX12_knight_96 rfl rfl rfl ?_
              refine v_iastore (q := 98) dX12_knight_97 rfl (fun M14 => ?_)
              refine v_aload_n (q := 99) dX12_knight_98 rfl rfl rfl ?_
              refine v_getRb (q := 102) dX12_knight_99 rfl fg_X12_32 (fun o15 => ?_)
              refine v_iload_n (q := 103) dX12_knight_102 rfl rfl rfl ?_
              refine v_iconst (q := 104) dX12_knight_103 rfl ic_0 ?_
              refine v_iastore (q := 105) dX12_knight_104 rfl (fun M16 => ?_)
              refine v_aload_n (q := 106) dX12_knight_105 rfl rfl rfl ?_
              refine v_getRb (q := 109) dX12_knight_106 rfl fg_X12_35 (fun o17 => ?_)
              refine v_iload_n (q := 110) dX12_knight_109 rfl rfl rfl ?_
              refine v_iload (q := 112) dX12_knight_110 rfl rfl ?_
              refine v_iastore (q := 113) dX12_knight_112 rfl (fun M18 => ?_)
              refine v_aload_n (q := 114) dX12_knight_113 rfl rfl rfl ?_
              refine v_getRb (q := 117) dX12_knight_114 rfl fg_X12_38 (fun o19 => ?_)
              refine v_iload_n (q := 118) dX12_knight_117 rfl rfl rfl ?_
              refine v_iload (q := 120) dX12_knight_118 rfl rfl ?_
              refine v_iastore (q := 121) dX12_knight_120 rfl (fun M20 => ?_)
              refine v_aload_n (q := 122) dX12_knight_121 rfl rfl rfl ?_
              refine v_getIb (q := 125) dX12_knight_122 rfl fg_X12_78 (fun v21 => ?_)
              refine v_cPS1 (q := 128) (ct_X12_bits (d - 1) (by omega) _ _) dX12_knight_125 rfl cc_X12_105 (by omega) (Nat.le_of_ble_eq_true rfl) ⟨Nat.le_of_ble_eq_true rfl, Nat.le_of_ble_eq_true rfl⟩ (fun v22 => ?_)
              exact v_iret rfl dX12_knight_128 ⟨Nat.le_of_ble_eq_true rfl, Nat.le_of_ble_eq_true rfl⟩ rfl
            · refine v_bipush (q := 64) dX12_knight_62 rfl bp_m3 ?_
              exact v_iret rfl dX12_knight_64 ⟨Nat.le_of_ble_eq_true rfl, Nat.le_of_ble_eq_true rfl⟩ rfl
          · refine v_bipush (q := 53) dX12_knight_51 rfl bp_m2 ?_
            exact v_iret rfl dX12_knight_53 ⟨Nat.le_of_ble_eq_true rfl, Nat.le_of_ble_eq_true rfl⟩ rfl
    · refine v_iconst (q := 18) dX12_knight_17 rfl ic_m1 ?_
      exact v_iret rfl dX12_knight_18 ⟨Nat.le_of_ble_eq_true rfl, Nat.le_of_ble_eq_true rfl⟩ rfl
theorem ct_X12_knight (d : Nat) (hd : 2 ≤ d) (a0 : Nat) (x1 : Int32) (x2 : Int32) (x3 : Int32) (x4 : Int32) (x5 : Int32) (M : Me) (r : Int32) (M2 : Me) (hf : f_X12_knight a0 x1 x2 x3 x4 x5 M = some (r, M2)) : me_k M a0 = some (12, nf_c 12) ∧ Ct yX12_knight mX12_knight d 0 0 [.ref a0, .int x1, .int x2, .int x3, .int x4, .int x5] M (some (.int r), M2) := by
  obtain ⟨hk, hb⟩ := ck_some hf
  exact ⟨hk, ct_of (by decide +kernel) rfl rfl (Nat.le_of_ble_eq_true rfl) (vb_X12_knight d hd a0 x1 x2 x3 x4 x5 M) (by rw [hb]; rfl)⟩

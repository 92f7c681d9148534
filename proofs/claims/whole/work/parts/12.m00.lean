theorem dX5_init_0 : decode cX5_init 0 = .ok (.aload_n 0, 1) := by decide +kernel
theorem dX5_init_1 : decode cX5_init 1 = .ok (.invokespecial 3, 3) := by decide +kernel
theorem dX5_init_4 : decode cX5_init 4 = .ok (.aload_n 0, 1) := by decide +kernel
theorem dX5_init_5 : decode cX5_init 5 = .ok (.iconst 4, 1) := by decide +kernel
theorem dX5_init_6 : decode cX5_init 6 = .ok (.putfield 9, 3) := by decide +kernel
theorem dX5_init_9 : decode cX5_init 9 = .ok (.aload_n 0, 1) := by decide +kernel
theorem dX5_init_10 : decode cX5_init 10 = .ok (.sipush 360, 3) := by decide +kernel
theorem dX5_init_13 : decode cX5_init 13 = .ok (.putfield 15, 3) := by decide +kernel
theorem dX5_init_16 : decode cX5_init 16 = .ok (.aload_n 0, 1) := by decide +kernel
theorem dX5_init_17 : decode cX5_init 17 = .ok (.bipush 25, 2) := by decide +kernel
theorem dX5_init_19 : decode cX5_init 19 = .ok (.newarray .int, 2) := by decide +kernel
theorem dX5_init_21 : decode cX5_init 21 = .ok (.putfield 18, 3) := by decide +kernel
theorem dX5_init_24 : decode cX5_init 24 = .ok (.return_, 1) := by decide +kernel
noncomputable def b_X5_init (a0 : Nat) (M : Me) : Option (Me) :=
  pi M a0 5 0 (4 : Int32) fun M1 =>
  pi M1 a0 5 1 (360 : Int32) fun M2 =>
  na M2 20 25 fun o3 M4 =>
  pr M4 a0 5 2 o3 fun M5 =>
  some M5
noncomputable def f_X5_init (a0 : Nat) (M : Me) : Option (Me) := b_X5_init a0 M
set_option maxRecDepth 20000 in
theorem vb_X5_init (d : Nat) (hd : 1 ≤ d) (a0 : Nat) (M : Me) : V (mX5_init, d, 1, 25) (0, 0) M 0 [some (.ref a0)] [] (b_X5_init a0 M) (fun M2 => some (none, M2)) := by
  unfold b_X5_init
  refine v_aload_n (q := 1) dX5_init_0 rfl rfl rfl ?_
  refine v_oinit (q := 4) dX5_init_1 rfl cc_X5_3 aw_obj.1 aw_obj.2 (by show 1 ≤ d; omega) rfl ?_
  refine v_aload_n (q := 5) dX5_init_4 rfl rfl rfl ?_
  refine v_iconst (q := 6) dX5_init_5 rfl ic_4 ?_
  refine v_putIb (q := 9) dX5_init_6 rfl fp_X5_9 (fun M1 => ?_)
  refine v_aload_n (q := 10) dX5_init_9 rfl rfl rfl ?_
  refine v_sipush (q := 13) dX5_init_10 rfl sp_360 ?_
  refine v_putIb (q := 16) dX5_init_13 rfl fp_X5_15 (fun M2 => ?_)
  refine v_aload_n (q := 17) dX5_init_16 rfl rfl rfl ?_
  refine v_bipush (q := 19) dX5_init_17 rfl bp_25 ?_
  refine v_newIU (q := 21) (u2 := (1, 25)) dX5_init_19 rfl aw_int (by decide) (by decide) (Nat.le_of_ble_eq_true rfl) ⟨Nat.le_of_ble_eq_true rfl, Nat.le_of_ble_eq_true rfl⟩ rfl (fun o3 M4 => ?_)
  refine v_putRb (q := 24) dX5_init_21 rfl fp_X5_18 (fun M5 => ?_)
  exact v_vret rfl dX5_init_24 ⟨Nat.le_of_ble_eq_true rfl, Nat.le_of_ble_eq_true rfl⟩ rfl
theorem ct_X5_init (d : Nat) (hd : 1 ≤ d) (a0 : Nat) (M : Me) (r : Me) (hf : f_X5_init a0 M = some r) : Ct yX5_init mX5_init d 1 25 [.ref a0] M (none, r) := by
  have hb : b_X5_init a0 M = some r := hf
  exact ct_of (by decide +kernel) rfl rfl (Nat.le_of_ble_eq_true rfl) (vb_X5_init d hd a0 M) (by rw [hb]; rfl)
theorem dX1_init_0 : decode cX1_init 0 = .ok (.aload_n 0, 1) := by decide +kernel
theorem dX1_init_1 : decode cX1_init 1 = .ok (.invokespecial 1, 3) := by decide +kernel
theorem dX1_init_4 : decode cX1_init 4 = .ok (.return_, 1) := by decide +kernel
noncomputable def b_X1_init (a0 : Nat) (M : Me) : Option (Me) :=
  some M
noncomputable def f_X1_init (a0 : Nat) (M : Me) : Option (Me) := b_X1_init a0 M
set_option maxRecDepth 20000 in
theorem vb_X1_init (d : Nat) (hd : 1 ≤ d) (a0 : Nat) (M : Me) : V (mX1_init, d, 0, 0) (0, 0) M 0 [some (.ref a0)] [] (b_X1_init a0 M) (fun M2 => some (none, M2)) := by
  unfold b_X1_init
  refine v_aload_n (q := 1) dX1_init_0 rfl rfl rfl ?_
  refine v_oinit (q := 4) dX1_init_1 rfl cc_X1_1 aw_obj.1 aw_obj.2 (by show 1 ≤ d; omega) rfl ?_
  exact v_vret rfl dX1_init_4 ⟨Nat.le_of_ble_eq_true rfl, Nat.le_of_ble_eq_true rfl⟩ rfl
theorem ct_X1_init (d : Nat) (hd : 1 ≤ d) (a0 : Nat) (M : Me) (r : Me) (hf : f_X1_init a0 M = some r) : Ct yX1_init mX1_init d 0 0 [.ref a0] M (none, r) := by
  have hb : b_X1_init a0 M = some r := hf
  exact ct_of (by decide +kernel) rfl rfl (Nat.le_of_ble_eq_true rfl) (vb_X1_init d hd a0 M) (by rw [hb]; rfl)
theorem dX2_init_0 : decode cX2_init 0 = .ok (.aload_n 0, 1) := by decide +kernel
theorem dX2_init_1 : decode cX2_init 1 = .ok (.invokespecial 3, 3) := by decide +kernel
theorem dX2_init_4 : decode cX2_init 4 = .ok (.aload_n 0, 1) := by decide +kernel
theorem dX2_init_5 : decode cX2_init 5 = .ok (.bipush 12, 2) := by decide +kernel
theorem dX2_init_7 : decode cX2_init 7 = .ok (.anewarray 9, 3) := by decide +kernel
theorem dX2_init_10 : decode cX2_init 10 = .ok (.putfield 11, 3) := by decide +kernel
theorem dX2_init_13 : decode cX2_init 13 = .ok (.iconst 0, 1) := by decide +kernel
theorem dX2_init_14 : decode cX2_init 14 = .ok (.istore_n 1, 1) := by decide +kernel
theorem dX2_init_15 : decode cX2_init 15 = .ok (.iload_n 1, 1) := by decide +kernel
theorem dX2_init_16 : decode cX2_init 16 = .ok (.bipush 12, 2) := by decide +kernel
theorem dX2_init_18 : decode cX2_init 18 = .ok (.if_icmp .ge 22, 3) := by decide +kernel
theorem dX2_init_21 : decode cX2_init 21 = .ok (.aload_n 0, 1) := by decide +kernel
theorem dX2_init_22 : decode cX2_init 22 = .ok (.getfield 11, 3) := by decide +kernel
theorem dX2_init_25 : decode cX2_init 25 = .ok (.iload_n 1, 1) := by decide +kernel
theorem dX2_init_26 : decode cX2_init 26 = .ok (.new 9, 3) := by decide +kernel
theorem dX2_init_29 : decode cX2_init 29 = .ok (.dup, 1) := by decide +kernel
theorem dX2_init_30 : decode cX2_init 30 = .ok (.invokespecial 17, 3) := by decide +kernel
theorem dX2_init_33 : decode cX2_init 33 = .ok (.aastore, 1) := by decide +kernel
theorem dX2_init_34 : decode cX2_init 34 = .ok (.iinc 1 1, 3) := by decide +kernel
theorem dX2_init_37 : decode cX2_init 37 = .ok (.goto (-22), 3) := by decide +kernel
theorem dX2_init_40 : decode cX2_init 40 = .ok (.return_, 1) := by decide +kernel
noncomputable def b_X2_init (a0 : Nat) (M : Me) : Option (Me) :=
  na M 23 12 fun o1 M2 =>
  pr M2 a0 2 1 o1 fun M3 =>
  gr M3 a0 2 1 fun o4 =>
  no M3 1 fun o5 M6 =>
  cM (f_X1_init o5 M6) fun M7 =>
  sr M7 o4 23 1 (0 : Int32) o5 fun M8 =>
  gr M8 a0 2 1 fun o9 =>
  no M8 1 fun o10 M11 =>
  cM (f_X1_init o10 M11) fun M12 =>
  sr M12 o9 23 1 (1 : Int32) o10 fun M13 =>
  gr M13 a0 2 1 fun o14 =>
  no M13 1 fun o15 M16 =>
  cM (f_X1_init o15 M16) fun M17 =>
  sr M17 o14 23 1 (2 : Int32) o15 fun M18 =>
  gr M18 a0 2 1 fun o19 =>
  no M18 1 fun o20 M21 =>
  cM (f_X1_init o20 M21) fun M22 =>
  sr M22 o19 23 1 (3 : Int32) o20 fun M23 =>
  gr M23 a0 2 1 fun o24 =>
  no M23 1 fun o25 M26 =>
  cM (f_X1_init o25 M26) fun M27 =>
  sr M27 o24 23 1 (4 : Int32) o25 fun M28 =>
  gr M28 a0 2 1 fun o29 =>
  no M28 1 fun o30 M31 =>
  cM (f_X1_init o30 M31) fun M32 =>
  sr M32 o29 23 1 (5 : Int32) o30 fun M33 =>
  gr M33 a0 2 1 fun o34 =>
  no M33 1 fun o35 M36 =>
  cM (f_X1_init o35 M36) fun M37 =>
  sr M37 o34 23 1 (6 : Int32) o35 fun M38 =>
  gr M38 a0 2 1 fun o39 =>
  no M38 1 fun o40 M41 =>
  cM (f_X1_init o40 M41) fun M42 =>
  sr M42 o39 23 1 (7 : Int32) o40 fun M43 =>
  gr M43 a0 2 1 fun o44 =>
  no M43 1 fun o45 M46 =>
  cM (f_X1_init o45 M46) fun M47 =>
  sr M47 o44 23 1 (8 : Int32) o45 fun M48 =>
  gr M48 a0 2 1 fun o49 =>
  no M48 1 fun o50 M51 =>
  cM (f_X1_init o50 M51) fun M52 =>
  sr M52 o49 23 1 (9 : Int32) o50 fun M53 =>
  gr M53 a0 2 1 fun o54 =>
  no M53 1 fun o55 M56 =>
  cM (f_X1_init o55 M56) fun M57 =>
  sr M57 o54 23 1 (10 : Int32) o55 fun M58 =>
  gr M58 a0 2 1 fun o59 =>
  no M58 1 fun o60 M61 =>
  cM (f_X1_init o60 M61) fun M62 =>
  sr M62 o59 23 1 (11 : Int32) o60 fun M63 =>
  some M63
noncomputable def f_X2_init (a0 : Nat) (M : Me) : Option (Me) := b_X2_init a0 M
set_option maxRecDepth 20000 in
theorem vb_X2_init (d : Nat) (hd : 2 ≤ d) (a0 : Nat) (M : Me) : V (mX2_init, d, 13, 72) (0, 0) M 0 [some (.ref a0), none] [] (b_X2_init a0 M) (fun M2 => some (none, M2)) := by
  unfold b_X2_init
  refine v_aload_n (q := 1) dX2_init_0 rfl rfl rfl ?_
  refine v_oinit (q := 4) dX2_init_1 rfl cc_X2_3 aw_obj.1 aw_obj.2 (by show 1 ≤ d; omega) rfl ?_
  refine v_aload_n (q := 5) dX2_init_4 rfl rfl rfl ?_
  refine v_bipush (q := 7) dX2_init_5 rfl bp_12 ?_
  refine v_newRU (q := 10) (t0 := 3) (u2 := (1, 12)) dX2_init_7 rfl (Nat.le_of_ble_eq_true rfl) (fun _ => rfl) cn_X2_9.2.1 ao_1 (by decide) (by decide) (Nat.le_of_ble_eq_true rfl) ⟨Nat.le_of_ble_eq_true rfl, Nat.le_of_ble_eq_true rfl⟩ rfl (fun o1 M2 => ?_)
  refine v_putRb (q := 13) dX2_init_10 rfl fp_X2_11 (fun M3 => ?_)
  refine v_iconst (q := 14) dX2_init_13 rfl ic_0 ?_
  refine v_istore_n (q := 15) (loc2 := [some (.ref a0), some (.int (0 : Int32))]) dX2_init_14 rfl rfl rfl (Nat.le_of_ble_eq_true rfl) rfl ?_
  refine v_iload_n (q := 16) dX2_init_15 rfl rfl rfl ?_
  refine v_bipush (q := 18) dX2_init_16 rfl bp_12 ?_
  refine v_icmp_geF (tgt := 40) (q := 21) dX2_init_18 rfl rfl (by decide) ?_
  refine v_aload_n (q := 22) dX2_init_21 rfl rfl rfl ?_
  refine v_getRb (q := 25) dX2_init_22 rfl fg_X2_11 (fun o4 => ?_)
  refine v_iload_n (q := 26) dX2_init_25 rfl rfl rfl ?_
  refine v_newU (q := 29) (u2 := (2, 17)) dX2_init_26 rfl cn_X2_9 ⟨Nat.le_of_ble_eq_true rfl, Nat.le_of_ble_eq_true rfl⟩ rfl (fun o5 M6 => ?_)
  refine v_dup (q := 30) dX2_init_29 rfl rfl ?_
  refine v_cMN0 (q := 33) (ct_X1_init (d - 1) (by omega) _ _) dX2_init_30 rfl cc_X2_17 (by omega) (Nat.le_of_ble_eq_true rfl) ⟨Nat.le_of_ble_eq_true rfl, Nat.le_of_ble_eq_true rfl⟩ (fun M7 => ?_)
  refine v_aastore (q := 34) (t0 := 3) dX2_init_33 rfl (Nat.le_of_ble_eq_true rfl) (Nat.le_of_ble_eq_true rfl) (fun _ => rfl) (fun M8 => ?_)
  refine v_iinc (q := 37) (v := (1 : Int32)) (loc2 := [some (.ref a0), some (.int (1 : Int32))]) dX2_init_34 rfl rfl (by decide) rfl (Nat.le_of_ble_eq_true rfl) rfl ?_
  refine v_goto (tgt := 15) dX2_init_37 rfl ?_
  refine v_iload_n (q := 16) dX2_init_15 rfl rfl rfl ?_
  refine v_bipush (q := 18) dX2_init_16 rfl bp_12 ?_
  refine v_icmp_geF (tgt := 40) (q := 21) dX2_init_18 rfl rfl (by decide) ?_
  refine v_aload_n (q := 22) dX2_init_21 rfl rfl rfl ?_
  refine v_getRb (q := 25) dX2_init_22 rfl fg_X2_11 (fun o9 => ?_)
  refine v_iload_n (q := 26) dX2_init_25 rfl rfl rfl ?_
  refine v_newU (q := 29) (u2 := (3, 22)) dX2_init_26 rfl cn_X2_9 ⟨Nat.le_of_ble_eq_true rfl, Nat.le_of_ble_eq_true rfl⟩ rfl (fun o10 M11 => ?_)
  refine v_dup (q := 30) dX2_init_29 rfl rfl ?_
  refine v_cMN0 (q := 33) (ct_X1_init (d - 1) (by omega) _ _) dX2_init_30 rfl cc_X2_17 (by omega) (Nat.le_of_ble_eq_true rfl) ⟨Nat.le_of_ble_eq_true rfl, Nat.le_of_ble_eq_true rfl⟩ (fun M12 => ?_)
  refine v_aastore (q := 34) (t0 := 3) dX2_init_33 rfl (Nat.le_of_ble_eq_true rfl) (Nat.le_of_ble_eq_true rfl) (fun _ => rfl) (fun M13 => ?_)
  refine v_iinc (q := 37) (v := (2 : Int32)) (loc2 := [some (.ref a0), some (.int (2 : Int32))]) dX2_init_34 rfl rfl (by decide) rfl (Nat.le_of_ble_eq_true rfl) rfl ?_
  refine v_goto (tgt := 15) dX2_init_37 rfl ?_
  refine v_iload_n (q := 16) dX2_init_15 rfl rfl rfl ?_
  refine v_bipush (q := 18) dX2_init_16 rfl bp_12 ?_
  refine v_icmp_geF (tgt := 40) (q := 21) dX2_init_18 rfl rfl (by decide) ?_
  refine v_aload_n (q := 22) dX2_init_21 rfl rfl rfl ?_
  refine v_getRb (q := 25) dX2_init_22 rfl fg_X2_11 (fun o14 => ?_)
  refine v_iload_n (q := 26) dX2_init_25 rfl rfl rfl ?_
  refine v_newU (q := 29) (u2 := (4, 27)) dX2_init_26 rfl cn_X2_9 ⟨Nat.le_of_ble_eq_true rfl, Nat.le_of_ble_eq_true rfl⟩ rfl (fun o15 M16 => ?_)
  refine v_dup (q := 30) dX2_init_29 rfl rfl ?_
  refine v_cMN0 (q := 33) (ct_X1_init (d - 1) (by omega) _ _) dX2_init_30 rfl cc_X2_17 (by omega) (Nat.le_of_ble_eq_true rfl) ⟨Nat.le_of_ble_eq_true rfl, Nat.le_of_ble_eq_true rfl⟩ (fun M17 => ?_)
  refine v_aastore (q := 34) (t0 := 3) dX2_init_33 rfl (Nat.le_of_ble_eq_true rfl) (Nat.le_of_ble_eq_true rfl) (fun _ => rfl) (fun M18 => ?_)
  refine v_iinc (q := 37) (v := (3 : Int32)) (loc2 := [some (.ref a0), some (.int (3 : Int32))]) dX2_init_34 rfl rfl (by decide) rfl (Nat.le_of_ble_eq_true rfl) rfl ?_
  refine v_goto (tgt := 15) dX2_init_37 rfl ?_
  refine v_iload_n (q := 16) dX2_init_15 rfl rfl rfl ?_
  refine v_bipush (q := 18) dX2_init_16 rfl bp_12 ?_
  refine v_icmp_geF (tgt := 40) (q := 21) dX2_init_18 rfl rfl (by decide) ?_
  refine v_aload_n (q := 22) dX2_init_21 rfl rfl rfl ?_
  refine v_getRb (q := 25) dX2_init_22 rfl fg_X2_11 (fun o19 => ?_)
  refine v_iload_n (q := 26) dX2_init_25 rfl rfl rfl ?_
  refine v_newU (q := 29) (u2 := (5, 32)) dX2_init_26 rfl cn_X2_9 ⟨Nat.le_of_ble_eq_true rfl, Nat.le_of_ble_eq_true rfl⟩ rfl (fun o20 M21 => ?_)
  refine v_dup (q := 30) dX2_init_29 rfl rfl ?_
  refine v_cMN0 (q := 33) (ct_X1_init (d - 1) (by omega) _ _) dX2_init_30 rfl cc_X2_17 (by omega) (Nat.le_of_ble_eq_true rfl) ⟨Nat.le_of_ble_eq_true rfl, Nat.le_of_ble_eq_true rfl⟩ (fun M22 => ?_)
  refine v_aastore (q := 34) (t0 := 3) dX2_init_33 rfl (Nat.le_of_ble_eq_true rfl) (Nat.le_of_ble_eq_true rfl) (fun _ => rfl) (fun M23 => ?_)
  refine v_iinc (q := 37) (v := (4 : Int32)) (loc2 := [some (.ref a0), some (.int (4 : Int32))]) dX2_init_34 rfl rfl (by decide) rfl (Nat.le_of_ble_eq_true rfl) rfl ?_
  refine v_goto (tgt := 15) dX2_init_37 rfl ?_
  refine v_iload_n (q := 16) dX2_init_15 rfl rfl rfl ?_
  refine v_bipush (q := 18) dX2_init_16 rfl bp_12 ?_
  refine v_icmp_geF (tgt := 40) (q := 21) dX2_init_18 rfl rfl (by decide) ?_
  refine v_aload_n (q := 22) dX2_init_21 rfl rfl rfl ?_
  refine v_getRb (q := 25) dX2_init_22 rfl fg_X2_11 (fun o24 => ?_)
  refine v_iload_n (q := 26) dX2_init_25 rfl rfl rfl ?_
  refine v_newU (q := 29) (u2 := (6, 37)) dX2_init_26 rfl cn_X2_9 ⟨Nat.le_of_ble_eq_true rfl, Nat.le_of_ble_eq_true rfl⟩ rfl (fun o25 M26 => ?_)
  refine v_dup (q := 30) dX2_init_29 rfl rfl ?_
  refine v_cMN0 (q := 33) (ct_X1_init (d - 1) (by omega) _ _) dX2_init_30 rfl cc_X2_17 (by omega) (Nat.le_of_ble_eq_true rfl) ⟨Nat.le_of_ble_eq_true rfl, Nat.le_of_ble_eq_true rfl⟩ (fun M27 => ?_)
  refine v_aastore (q := 34) (t0 := 3) dX2_init_33 rfl (Nat.le_of_ble_eq_true rfl) (Nat.le_of_ble_eq_true rfl) (fun _ => rfl) (fun M28 => ?_)
  refine v_iinc (q := 37) (v := (5 : Int32)) (loc2 := [some (.ref a0), some (.int (5 : Int32))]) dX2_init_34 rfl rfl (by decide) rfl (Nat.le_of_ble_eq_true rfl) rfl ?_
  refine v_goto (tgt := 15) dX2_init_37 rfl ?_
  refine v_iload_n (q := 16) dX2_init_15 rfl rfl rfl ?_
  refine v_bipush (q := 18) dX2_init_16 rfl bp_12 ?_
  refine v_icmp_geF (tgt := 40) (q := 21) dX2_init_18 rfl rfl (by decide) ?_
  refine v_aload_n (q := 22) dX2_init_21 rfl rfl rfl ?_
  refine v_getRb (q := 25) dX2_init_22 rfl fg_X2_11 (fun o29 => ?_)
  refine v_iload_n (q := 26) dX2_init_25 rfl rfl rfl ?_
  refine v_newU (q := 29) (u2 := (7, 42)) dX2_init_26 rfl cn_X2_9 ⟨Nat.le_of_ble_eq_true rfl, Nat.le_of_ble_eq_true rfl⟩ rfl (fun o30 M31 => ?_)
  refine v_dup (q := 30) dX2_init_29 rfl rfl ?_
  refine v_cMN0 (q := 33) (ct_X1_init (d - 1) (by omega) _ _) dX2_init_30 rfl cc_X2_17 (by omega) (Nat.le_of_ble_eq_true rfl) ⟨Nat.le_of_ble_eq_true rfl, Nat.le_of_ble_eq_true rfl⟩ (fun M32 => ?_)
  refine v_aastore (q := 34) (t0 := 3) dX2_init_33 rfl (Nat.le_of_ble_eq_true rfl) (Nat.le_of_ble_eq_true rfl) (fun _ => rfl) (fun M33 => ?_)
  refine v_iinc (q := 37) (v := (6 : Int32)) (loc2 := [some (.ref a0), some (.int (6 : Int32))]) dX2_init_34 rfl rfl (by decide) rfl (Nat.le_of_ble_eq_true rfl) rfl ?_
  refine v_goto (tgt := 15) dX2_init_37 rfl ?_
  refine v_iload_n (q := 16) dX2_init_15 rfl rfl rfl ?_
  refine v_bipush (q := 18) dX2_init_16 rfl bp_12 ?_
  refine v_icmp_geF (tgt := 40) (q := 21) dX2_init_18 rfl rfl (by decide) ?_
  refine v_aload_n (q := 22) dX2_init_21 rfl rfl rfl ?_
  refine v_getRb (q := 25) dX2_init_22 rfl fg_X2_11 (fun o34 => ?_)
  refine v_iload_n (q := 26) dX2_init_25 rfl rfl rfl ?_
  refine v_newU (q := 29) (u2 := (8, 47)) dX2_init_26 rfl cn_X2_9 ⟨Nat.le_of_ble_eq_true rfl, Nat.le_of_ble_eq_true rfl⟩ rfl (fun o35 M36 => ?_)
  refine v_dup (q := 30) dX2_init_29 rfl rfl ?_
  refine v_cMN0 (q := 33) (ct_X1_init (d - 1) (by omega) _ _) dX2_init_30 rfl cc_X2_17 (by omega) (Nat.le_of_ble_eq_true rfl) ⟨Nat.le_of_ble_eq_true rfl, Nat.le_of_ble_eq_true rfl⟩ (fun M37 => ?_)
  refine v_aastore (q := 34) (t0 := 3) dX2_init_33 rfl (Nat.le_of_ble_eq_true rfl) (Nat.le_of_ble_eq_true rfl) (fun _ => rfl) (fun M38 => ?_)
  refine v_iinc (q := 37) (v := (7 : Int32)) (loc2 := [some (.ref a0), some (.int (7 : Int32))]) dX2_init_34 rfl rfl (by decide) rfl (Nat.le_of_ble_eq_true rfl) rfl ?_
  refine v_goto (tgt := 15) dX2_init_37 rfl ?_
  refine v_iload_n (q := 16) dX2_init_15 rfl rfl rfl ?_
  refine v_bipush (q := 18) dX2_init_16 rfl bp_12 ?_
  refine v_icmp_geF (tgt := 40) (q := 21) dX2_init_18 rfl rfl (by decide) ?_
  refine v_aload_n (q := 22) dX2_init_21 rfl rfl rfl ?_
  refine v_getRb (q := 25) dX2_init_22 rfl fg_X2_11 (fun o39 => ?_)
  refine v_iload_n (q := 26) dX2_init_25 rfl rfl rfl ?_
  refine v_newU (q := 29) (u2 := (9, 52)) dX2_init_26 rfl cn_X2_9 ⟨Nat.le_of_ble_eq_true rfl, Nat.le_of_ble_eq_true rfl⟩ rfl (fun o40 M41 => ?_)
  refine v_dup (q := 30) dX2_init_29 rfl rfl ?_
  refine v_cMN0 (q := 33) (ct_X1_init (d - 1) (by omega) _ _) dX2_init_30 rfl cc_X2_17 (by omega) (Nat.le_of_ble_eq_true rfl) ⟨Nat.le_of_ble_eq_true rfl, Nat.le_of_ble_eq_true rfl⟩ (fun M42 => ?_)
  refine v_aastore (q := 34) (t0 := 3) dX2_init_33 rfl (Nat.le_of_ble_eq_true rfl) (Nat.le_of_ble_eq_true rfl) (fun _ => rfl) (fun M43 => ?_)
  refine v_iinc (q := 37) (v := (8 : Int32)) (loc2 := [some (.ref a0), some (.int (8 : Int32))]) dX2_init_34 rfl rfl (by decide) rfl (Nat.le_of_ble_eq_true rfl) rfl ?_
  refine v_goto (tgt := 15) dX2_init_37 rfl ?_
  refine v_iload_n (q := 16) dX2_init_15 rfl rfl rfl ?_
  refine v_bipush (q := 18) dX2_init_16 rfl bp_12 ?_
  refine v_icmp_geF (tgt := 40) (q := 21) dX2_init_18 rfl rfl (by decide) ?_
  refine v_aload_n (q := 22) dX2_init_21 rfl rfl rfl ?_
  refine v_getRb (q := 25) dX2_init_22 rfl fg_X2_11 (fun o44 => ?_)
  refine v_iload_n (q := 26) dX2_init_25 rfl rfl rfl ?_
  refine v_newU (q := 29) (u2 := (10, 57)) dX2_init_26 rfl cn_X2_9 ⟨Nat.le_of_ble_eq_true rfl, Nat.le_of_ble_eq_true rfl⟩ rfl (fun o45 M46 => ?_)
  refine v_dup (q := 30) dX2_init_29 rfl rfl ?_
  refine v_cMN0 (q := 33) (ct_X1_init (d - 1) (by omega) _ _) dX2_init_30 rfl cc_X2_17 (by omega) (Nat.le_of_ble_eq_true rfl) ⟨Nat.le_of_ble_eq_true rfl, Nat.le_of_ble_eq_true rfl⟩ (fun M47 => ?_)
  refine v_aastore (q := 34) (t0 := 3) dX2_init_33 rfl (Nat.le_of_ble_eq_true rfl) (Nat.le_of_ble_eq_true rfl) (fun _ => rfl) (fun M48 => ?_)
  refine v_iinc (q := 37) (v := (9 : Int32)) (loc2 := [some (.ref a0), some (.int (9 : Int32))]) dX2_init_34 rfl rfl (by decide) rfl (Nat.le_of_ble_eq_true rfl) rfl ?_
  refine v_goto (tgt := 15) dX2_init_37 rfl ?_
  refine v_iload_n (q := 16) dX2_init_15 rfl rfl rfl ?_
  refine v_bipush (q := 18) dX2_init_16 rfl bp_12 ?_
  refine v_icmp_geF (tgt := 40) (q := 21) dX2_init_18 rfl rfl (by decide) ?_
  refine v_aload_n (q := 22) dX2_init_21 rfl rfl rfl ?_
  refine v_getRb (q := 25) dX2_init_22 rfl fg_X2_11 (fun o49 => ?_)
  refine v_iload_n (q := 26) dX2_init_25 rfl rfl rfl ?_
  refine v_newU (q := 29) (u2 := (11, 62)) dX2_init_26 rfl cn_X2_9 ⟨Nat.le_of_ble_eq_true rfl, Nat.le_of_ble_eq_true rfl⟩ rfl (fun o50 M51 => ?_)
  refine v_dup (q := 30) dX2_init_29 rfl rfl ?_
  refine v_cMN0 (q := 33) (ct_X1_init (d - 1) (by omega) _ _) dX2_init_30 rfl cc_X2_17 (by omega) (Nat.le_of_ble_eq_true rfl) ⟨Nat.le_of_ble_eq_true rfl, Nat.le_of_ble_eq_true rfl⟩ (fun M52 => ?_)
  refine v_aastore (q := 34) (t0 := 3) dX2_init_33 rfl (Nat.le_of_ble_eq_true rfl) (Nat.le_of_ble_eq_true rfl) (fun _ => rfl) (fun M53 => ?_)
  refine v_iinc (q := 37) (v := (10 : Int32)) (loc2 := [some (.ref a0), some (.int (10 : Int32))]) dX2_init_34 rfl rfl (by decide) rfl (Nat.le_of_ble_eq_true rfl) rfl ?_
  refine v_goto (tgt := 15) dX2_init_37 rfl ?_
  refine v_iload_n (q := 16) dX2_init_15 rfl rfl rfl ?_
  refine v_bipush (q := 18) dX2_init_16 rfl bp_12 ?_
  refine v_icmp_geF (tgt := 40) (q := 21) dX2_init_18 rfl rfl (by decide) ?_
  refine v_aload_n (q := 22) dX2_init_21 rfl rfl rfl ?_
  refine v_getRb (q := 25) dX2_init_22 rfl fg_X2_11 (fun o54 => ?_)
  refine v_iload_n (q := 26) dX2_init_25 rfl rfl rfl ?_
  refine v_newU (q := 29) (u2 := (12, 67)) dX2_init_26 rfl cn_X2_9 ⟨Nat.le_of_ble_eq_true rfl, Nat.le_of_ble_eq_true rfl⟩ rfl (fun o55 M56 => ?_)
  refine v_dup (q := 30) dX2_init_29 rfl rfl ?_
  refine v_cMN0 (q := 33) (ct_X1_init (d - 1) (by omega) _ _) dX2_init_30 rfl cc_X2_17 (by omega) (Nat.le_of_ble_eq_true rfl) ⟨Nat.le_of_ble_eq_true rfl, Nat.le_of_ble_eq_true rfl⟩ (fun M57 => ?_)
  refine v_aastore (q := 34) (t0 := 3) dX2_init_33 rfl (Nat.le_of_ble_eq_true rfl) (Nat.le_of_ble_eq_true rfl) (fun _ => rfl) (fun M58 => ?_)
  refine v_iinc (q := 37) (v := (11 : Int32)) (loc2 := [some (.ref a0), some (.int (11 : Int32))]) dX2_init_34 rfl rfl (by decide) rfl (Nat.le_of_ble_eq_true rfl) rfl ?_
  refine v_goto (tgt := 15) dX2_init_37 rfl ?_
  refine v_iload_n (q := 16) dX2_init_15 rfl rfl rfl ?_
  refine v_bipush (q := 18) dX2_init_16 rfl bp_12 ?_
  refine v_icmp_geF (tgt := 40) (q := 21) dX2_init_18 rfl rfl (by decide) ?_
  refine v_aload_n (q := 22) dX2_init_21 rfl rfl rfl ?_
  refine v_getRb (q := 25) dX2_init_22 rfl fg_X2_11 (fun o59 => ?_)
  refine v_iload_n (q := 26) dX2_init_25 rfl rfl rfl ?_
  refine v_newU (q := 29) (u2 := (13, 72)) dX2_init_26 rfl cn_X2_9 ⟨Nat.le_of_ble_eq_true rfl, Nat.le_of_ble_eq_true rfl⟩ rfl (fun o60 M61 => ?_)
  refine v_dup (q := 30) dX2_init_29 rfl rfl ?_
  refine v_cMN0 (q := 33) (ct_X1_init (d - 1) (by omega) _ _) dX2_init_30 rfl cc_X2_17 (by omega) (Nat.le_of_ble_eq_true rfl) ⟨Nat.le_of_ble_eq_true rfl, Nat.le_of_ble_eq_true rfl⟩ (fun M62 => ?_)
  refine v_aastore (q := 34) (t0 := 3) dX2_init_33 rfl (Nat.le_of_ble_eq_true rfl) (Nat.le_of_ble_eq_true rfl) (fun _ => rfl) (fun M63 => ?_)
  refine v_iinc (q := 37) (v := (12 : Int32)) (loc2 := [some (.ref a0), some (.int (12 : Int32))]) dX2_init_34 rfl rfl (by decide) rfl (Nat.le_of_ble_eq_true rfl) rfl ?_
  refine v_goto (tgt := 15) dX2_init_37 rfl ?_
  refine v_iload_n (q := 16) dX2_init_15 rfl rfl rfl ?_
  refine v_bipush (q := 18) dX2_init_16 rfl bp_12 ?_
  refine v_icmp_geT (tgt := 40) dX2_init_18 rfl (by decide) ?_
  exact v_vret rfl dX2_init_40 ⟨Nat.le_of_ble_eq_true rfl, Nat.le_of_ble_eq_true rfl⟩ rfl
theorem ct_X2_init (d : Nat) (hd : 2 ≤ d) (a0 : Nat) (M : Me) (r : Me) (hf : f_X2_init a0 M = some r) : Ct yX2_init mX2_init d 13 72 [.ref a0] M (none, r) := by
  have hb : b_X2_init a0 M = some r := hf
  exact ct_of (by decide +kernel) rfl rfl (Nat.le_of_ble_eq_true rfl) (vb_X2_init d hd a0 M) (by rw [hb]; rfl)
theorem dX9_init_0 : decode cX9_init 0 = .ok (.aload_n 0, 1) := by decide +kernel
theorem dX9_init_1 : decode cX9_init 1 = .ok (.invokespecial 3, 3) := by decide +kernel
theorem dX9_init_4 : decode cX9_init 4 = .ok (.aload_n 0, 1) := by decide +kernel
theorem dX9_init_5 : decode cX9_init 5 = .ok (.bipush 6, 2) := by decide +kernel
theorem dX9_init_7 : decode cX9_init 7 = .ok (.newarray .int, 2) := by decide +kernel
theorem dX9_init_9 : decode cX9_init 9 = .ok (.putfield 9, 3) := by decide +kernel
theorem dX9_init_12 : decode cX9_init 12 = .ok (.aload_n 0, 1) := by decide +kernel
theorem dX9_init_13 : decode cX9_init 13 = .ok (.bipush 6, 2) := by decide +kernel
theorem dX9_init_15 : decode cX9_init 15 = .ok (.newarray .int, 2) := by decide +kernel
theorem dX9_init_17 : decode cX9_init 17 = .ok (.putfield 15, 3) := by decide +kernel
theorem dX9_init_20 : decode cX9_init 20 = .ok (.return_, 1) := by decide +kernel
noncomputable def b_X9_init (a0 : Nat) (M : Me) : Option (Me) :=
  na M 20 6 fun o1 M2 =>
  pr M2 a0 9 1 o1 fun M3 =>
  na M3 20 6 fun o4 M5 =>
  pr M5 a0 9 2 o4 fun M6 =>
  some M6
noncomputable def f_X9_init (a0 : Nat) (M : Me) : Option (Me) := b_X9_init a0 M
set_option maxRecDepth 20000 in
theorem vb_X9_init (d : Nat) (hd : 1 ≤ d) (a0 : Nat) (M : Me) : V (mX9_init, d, 2, 12) (0, 0) M 0 [some (.ref a0)] [] (b_X9_init a0 M) (fun M2 => some (none, M2)) := by
  unfold b_X9_init
  refine v_aload_n (q := 1) dX9_init_0 rfl rfl rfl ?_
  refine v_oinit (q := 4) dX9_init_1 rfl cc_X9_3 aw_obj.1 aw_obj.2 (by show 1 ≤ d; omega) rfl ?_
  refine v_aload_n (q := 5) dX9_init_4 rfl rfl rfl ?_
  refine v_bipush (q := 7) dX9_init_5 rfl bp_6 ?_
  refine v_newIU (q := 9) (u2 := (1, 6)) dX9_init_7 rfl aw_int (by decide) (by decide) (Nat.le_of_ble_eq_true rfl) ⟨Nat.le_of_ble_eq_true rfl, Nat.le_of_ble_eq_true rfl⟩ rfl (fun o1 M2 => ?_)
  refine v_putRb (q := 12) dX9_init_9 rfl fp_X9_9 (fun M3 => ?_)
  refine v_aload_n (q := 13) dX9_init_12 rfl rfl rfl ?_
  refine v_bipush (q := 15) dX9_init_13 rfl bp_6 ?_
  refine v_newIU (q := 17) (u2 := (2, 12)) dX9_init_15 rfl aw_int (by decide) (by decide) (Nat.le_of_ble_eq_true rfl) ⟨Nat.le_of_ble_eq_true rfl, Nat.le_of_ble_eq_true rfl⟩ rfl (fun o4 M5 => ?_)
  refine v_putRb (q := 20) dX9_init_17 rfl fp_X9_15 (fun M6 => ?_)
  exact v_vret rfl dX9_init_20 ⟨Nat.le_of_ble_eq_true rfl, Nat.le_of_ble_eq_true rfl⟩ rfl
theorem ct_X9_init (d : Nat) (hd : 1 ≤ d) (a0 : Nat) (M : Me) (r : Me) (hf : f_X9_init a0 M = some r) : Ct yX9_init mX9_init d 2 12 [.ref a0] M (none, r) := by
  have hb : b_X9_init a0 M = some r := hf
  exact ct_of (by decide +kernel) rfl rfl (Nat.le_of_ble_eq_true rfl) (vb_X9_init d hd a0 M) (by rw [hb]; rfl)
theorem dX4_init_0 : decode cX4_init 0 = .ok (.aload_n 0, 1) := by decide +kernel
theorem dX4_init_1 : decode cX4_init 1 = .ok (.invokespecial 3, 3) := by decide +kernel
theorem dX4_init_4 : decode cX4_init 4 = .ok (.return_, 1) := by decide +kernel
noncomputable def b_X4_init (a0 : Nat) (M : Me) : Option (Me) :=
  some M
noncomputable def f_X4_init (a0 : Nat) (M : Me) : Option (Me) := b_X4_init a0 M
set_option maxRecDepth 20000 in
theorem vb_X4_init (d : Nat) (hd : 1 ≤ d) (a0 : Nat) (M : Me) : V (mX4_init, d, 0, 0) (0, 0) M 0 [some (.ref a0)] [] (b_X4_init a0 M) (fun M2 => some (none, M2)) := by
  unfold b_X4_init
  refine v_aload_n (q := 1) dX4_init_0 rfl rfl rfl ?_
  refine v_oinit (q := 4) dX4_init_1 rfl cc_X4_3 aw_obj.1 aw_obj.2 (by show 1 ≤ d; omega) rfl ?_
  exact v_vret rfl dX4_init_4 ⟨Nat.le_of_ble_eq_true rfl, Nat.le_of_ble_eq_true rfl⟩ rfl
theorem ct_X4_init (d : Nat) (hd : 1 ≤ d) (a0 : Nat) (M : Me) (r : Me) (hf : f_X4_init a0 M = some r) : Ct yX4_init mX4_init d 0 0 [.ref a0] M (none, r) := by
  have hb : b_X4_init a0 M = some r := hf
  exact ct_of (by decide +kernel) rfl rfl (Nat.le_of_ble_eq_true rfl) (vb_X4_init d hd a0 M) (by rw [hb]; rfl)
theorem dX0_init_0 : decode cX0_init 0 = .ok (.aload_n 0, 1) := by decide +kernel
theorem dX0_init_1 : decode cX0_init 1 = .ok (.invokespecial 3, 3) := by decide +kernel
theorem dX0_init_4 : decode cX0_init 4 = .ok (.aload_n 0, 1) := by decide +kernel
theorem dX0_init_5 : decode cX0_init 5 = .ok (.new 9, 3) := by decide +kernel
theorem dX0_init_8 : decode cX0_init 8 = .ok (.dup, 1) := by decide +kernel
theorem dX0_init_9 : decode cX0_init 9 = .ok (.invokespecial 11, 3) := by decide +kernel
theorem dX0_init_12 : decode cX0_init 12 = .ok (.putfield 12, 3) := by decide +kernel
theorem dX0_init_15 : decode cX0_init 15 = .ok (.aload_n 0, 1) := by decide +kernel
theorem dX0_init_16 : decode cX0_init 16 = .ok (.bipush 6, 2) := by decide +kernel
theorem dX0_init_18 : decode cX0_init 18 = .ok (.anewarray 18, 3) := by decide +kernel
theorem dX0_init_21 : decode cX0_init 21 = .ok (.putfield 20, 3) := by decide +kernel
theorem dX0_init_24 : decode cX0_init 24 = .ok (.aload_n 0, 1) := by decide +kernel
theorem dX0_init_25 : decode cX0_init 25 = .ok (.new 24, 3) := by decide +kernel
theorem dX0_init_28 : decode cX0_init 28 = .ok (.dup, 1) := by decide +kernel
theorem dX0_init_29 : decode cX0_init 29 = .ok (.invokespecial 26, 3) := by decide +kernel
theorem dX0_init_32 : decode cX0_init 32 = .ok (.putfield 27, 3) := by decide +kernel
theorem dX0_init_35 : decode cX0_init 35 = .ok (.aload_n 0, 1) := by decide +kernel
theorem dX0_init_36 : decode cX0_init 36 = .ok (.new 31, 3) := by decide +kernel
theorem dX0_init_39 : decode cX0_init 39 = .ok (.dup, 1) := by decide +kernel
theorem dX0_init_40 : decode cX0_init 40 = .ok (.invokespecial 33, 3) := by decide +kernel
theorem dX0_init_43 : decode cX0_init 43 = .ok (.putfield 34, 3) := by decide +kernel
theorem dX0_init_46 : decode cX0_init 46 = .ok (.aload_n 0, 1) := by decide +kernel
theorem dX0_init_47 : decode cX0_init 47 = .ok (.new 18, 3) := by decide +kernel
theorem dX0_init_50 : decode cX0_init 50 = .ok (.dup, 1) := by decide +kernel
theorem dX0_init_51 : decode cX0_init 51 = .ok (.invokespecial 38, 3) := by decide +kernel
theorem dX0_init_54 : decode cX0_init 54 = .ok (.putfield 39, 3) := by decide +kernel
theorem dX0_init_57 : decode cX0_init 57 = .ok (.iconst 0, 1) := by decide +kernel
theorem dX0_init_58 : decode cX0_init 58 = .ok (.istore_n 1, 1) := by decide +kernel
theorem dX0_init_59 : decode cX0_init 59 = .ok (.iload_n 1, 1) := by decide +kernel
theorem dX0_init_60 : decode cX0_init 60 = .ok (.bipush 6, 2) := by decide +kernel
theorem dX0_init_62 : decode cX0_init 62 = .ok (.if_icmp .ge 22, 3) := by decide +kernel
theorem dX0_init_65 : decode cX0_init 65 = .ok (.aload_n 0, 1) := by decide +kernel
theorem dX0_init_66 : decode cX0_init 66 = .ok (.getfield 20, 3) := by decide +kernel
theorem dX0_init_69 : decode cX0_init 69 = .ok (.iload_n 1, 1) := by decide +kernel
theorem dX0_init_70 : decode cX0_init 70 = .ok (.new 18, 3) := by decide +kernel
theorem dX0_init_73 : decode cX0_init 73 = .ok (.dup, 1) := by decide +kernel
theorem dX0_init_74 : decode cX0_init 74 = .ok (.invokespecial 38, 3) := by decide +kernel
theorem dX0_init_77 : decode cX0_init 77 = .ok (.aastore, 1) := by decide +kernel
theorem dX0_init_78 : decode cX0_init 78 = .ok (.iinc 1 1, 3) := by decide +kernel
theorem dX0_init_81 : decode cX0_init 81 = .ok (.goto (-22), 3) := by decide +kernel
theorem dX0_init_84 : decode cX0_init 84 = .ok (.return_, 1) := by decide +kernel
noncomputable def b_X0_init (a0 : Nat) (M : Me) : Option (Me) :=
  no M 5 fun o1 M2 =>
  cM (f_X5_init o1 M2) fun M3 =>
  pr M3 a0 0 0 o1 fun M4 =>
  na M4 22 6 fun o5 M6 =>
  pr M6 a0 0 1 o5 fun M7 =>
  no M7 2 fun o8 M9 =>
  cM (f_X2_init o8 M9) fun M10 =>
  pr M10 a0 0 2 o8 fun M11 =>
  no M11 9 fun o12 M13 =>
  cM (f_X9_init o12 M13) fun M14 =>
  pr M14 a0 0 3 o12 fun M15 =>
  no M15 4 fun o16 M17 =>
  cM (f_X4_init o16 M17) fun M18 =>
  pr M18 a0 0 4 o16 fun M19 =>
  gr M19 a0 0 1 fun o20 =>
  no M19 4 fun o21 M22 =>
  cM (f_X4_init o21 M22) fun M23 =>
  sr M23 o20 22 4 (0 : Int32) o21 fun M24 =>
  gr M24 a0 0 1 fun o25 =>
  no M24 4 fun o26 M27 =>
  cM (f_X4_init o26 M27) fun M28 =>
  sr M28 o25 22 4 (1 : Int32) o26 fun M29 =>
  gr M29 a0 0 1 fun o30 =>
  no M29 4 fun o31 M32 =>
  cM (f_X4_init o31 M32) fun M33 =>
  sr M33 o30 22 4 (2 : Int32) o31 fun M34 =>
  gr M34 a0 0 1 fun o35 =>
  no M34 4 fun o36 M37 =>
  cM (f_X4_init o36 M37) fun M38 =>
  sr M38 o35 22 4 (3 : Int32) o36 fun M39 =>
  gr M39 a0 0 1 fun o40 =>
  no M39 4 fun o41 M42 =>
  cM (f_X4_init o41 M42) fun M43 =>
  sr M43 o40 22 4 (4 : Int32) o41 fun M44 =>
  gr M44 a0 0 1 fun o45 =>
  no M44 4 fun o46 M47 =>
  cM (f_X4_init o46 M47) fun M48 =>
  sr M48 o45 22 4 (5 : Int32) o46 fun M49 =>
  some M49
noncomputable def f_X0_init (a0 : Nat) (M : Me) : Option (Me) := b_X0_init a0 M
set_option maxRecDepth 20000 in
theorem vb_X0_init (d : Nat) (hd : 3 ≤ d) (a0 : Nat) (M : Me) : V (mX0_init, d, 27, 172) (0, 0) M 0 [some (.ref a0), none] [] (b_X0_init a0 M) (fun M2 => some (none, M2)) := by
  unfold b_X0_init
  refine v_aload_n (q := 1) dX0_init_0 rfl rfl rfl ?_
  refine v_oinit (q := 4) dX0_init_1 rfl cc_X0_3 aw_obj.1 aw_obj.2 (by show 1 ≤ d; omega) rfl ?_
  refine v_aload_n (q := 5) dX0_init_4 rfl rfl rfl ?_
  refine v_newU (q := 8) (u2 := (1, 3)) dX0_init_5 rfl cn_X0_9 ⟨Nat.le_of_ble_eq_true rfl, Nat.le_of_ble_eq_true rfl⟩ rfl (fun o1 M2 => ?_)
  refine v_dup (q := 9) dX0_init_8 rfl rfl ?_
  refine v_cMN0a (q := 12) (u2 := (2, 28)) (ct_X5_init (d - 1) (by omega) _ _) dX0_init_9 rfl cc_X0_11 (by omega) (Nat.le_of_ble_eq_true rfl) ⟨Nat.le_of_ble_eq_true rfl, Nat.le_of_ble_eq_true rfl⟩ rfl (fun M3 => ?_)
  refine v_putRb (q := 15) dX0_init_12 rfl fp_X0_12 (fun M4 => ?_)
  refine v_aload_n (q := 16) dX0_init_15 rfl rfl rfl ?_
  refine v_bipush (q := 18) dX0_init_16 rfl bp_6 ?_
  refine v_newRU (q := 21) (t0 := 2) (u2 := (3, 34)) dX0_init_18 rfl (Nat.le_of_ble_eq_true rfl) (fun _ => rfl) cn_X0_18.2.1 ao_4 (by decide) (by decide) (Nat.le_of_ble_eq_true rfl) ⟨Nat.le_of_ble_eq_true rfl, Nat.le_of_ble_eq_true rfl⟩ rfl (fun o5 M6 => ?_)
  refine v_putRb (q := 24) dX0_init_21 rfl fp_X0_20 (fun M7 => ?_)
  refine v_aload_n (q := 25) dX0_init_24 rfl rfl rfl ?_
  refine v_newU (q := 28) (u2 := (4, 36)) dX0_init_25 rfl cn_X0_24 ⟨Nat.le_of_ble_eq_true rfl, Nat.le_of_ble_eq_true rfl⟩ rfl (fun o8 M9 => ?_)
  refine v_dup (q := 29) dX0_init_28 rfl rfl ?_
  refine v_cMN0a (q := 32) (u2 := (17, 108)) (ct_X2_init (d - 1) (by omega) _ _) dX0_init_29 rfl cc_X0_26 (by omega) (Nat.le_of_ble_eq_true rfl) ⟨Nat.le_of_ble_eq_true rfl, Nat.le_of_ble_eq_true rfl⟩ rfl (fun M10 => ?_)
  refine v_putRb (q := 35) dX0_init_32 rfl fp_X0_27 (fun M11 => ?_)
  refine v_aload_n (q := 36) dX0_init_35 rfl rfl rfl ?_
  refine v_newU (q := 39) (u2 := (18, 111)) dX0_init_36 rfl cn_X0_31 ⟨Nat.le_of_ble_eq_true rfl, Nat.le_of_ble_eq_true rfl⟩ rfl (fun o12 M13 => ?_)
  refine v_dup (q := 40) dX0_init_39 rfl rfl ?_
  refine v_cMN0a (q := 43) (u2 := (20, 123)) (ct_X9_init (d - 1) (by omega) _ _) dX0_init_40 rfl cc_X0_33 (by omega) (Nat.le_of_ble_eq_true rfl) ⟨Nat.le_of_ble_eq_true rfl, Nat.le_of_ble_eq_true rfl⟩ rfl (fun M14 => ?_)
  refine v_putRb (q := 46) dX0_init_43 rfl fp_X0_34 (fun M15 => ?_)
  refine v_aload_n (q := 47) dX0_init_46 rfl rfl rfl ?_
  refine v_newU (q := 50) (u2 := (21, 130)) dX0_init_47 rfl cn_X0_18 ⟨Nat.le_of_ble_eq_true rfl, Nat.le_of_ble_eq_true rfl⟩ rfl (fun o16 M17 => ?_)
  refine v_dup (q := 51) dX0_init_50 rfl rfl ?_
  refine v_cMN0 (q := 54) (ct_X4_init (d - 1) (by omega) _ _) dX0_init_51 rfl cc_X0_38 (by omega) (Nat.le_of_ble_eq_true rfl) ⟨Nat.le_of_ble_eq_true rfl, Nat.le_of_ble_eq_true rfl⟩ (fun M18 => ?_)
  refine v_putRb (q := 57) dX0_init_54 rfl fp_X0_39 (fun M19 => ?_)
  refine v_iconst (q := 58) dX0_init_57 rfl ic_0 ?_
  refine v_istore_n (q := 59) (loc2 := [some (.ref a0), some (.int (0 : Int32))]) dX0_init_58 rfl rfl rfl (Nat.le_of_ble_eq_true rfl) rfl ?_
  refine v_iload_n (q := 60) dX0_init_59 rfl rfl rfl ?_
  refine v_bipush (q := 62) dX0_init_60 rfl bp_6 ?_
  refine v_icmp_geF (tgt := 84) (q := 65) dX0_init_62 rfl rfl (by decide) ?_
  refine v_aload_n (q := 66) dX0_init_65 rfl rfl rfl ?_
  refine v_getRb (q := 69) dX0_init_66 rfl fg_X0_20 (fun o20 => ?_)
  refine v_iload_n (q := 70) dX0_init_69 rfl rfl rfl ?_
  refine v_newU (q := 73) (u2 := (22, 137)) dX0_init_70 rfl cn_X0_18 ⟨Nat.le_of_ble_eq_true rfl, Nat.le_of_ble_eq_true rfl⟩ rfl (fun o21 M22 => ?_)
  refine v_dup (q := 74) dX0_init_73 rfl rfl ?_
  refine v_cMN0 (q := 77) (ct_X4_init (d - 1) (by omega) _ _) dX0_init_74 rfl cc_X0_38 (by omega) (Nat.le_of_ble_eq_true rfl) ⟨Nat.le_of_ble_eq_true rfl, Nat.le_of_ble_eq_true rfl⟩ (fun M23 => ?_)
  refine v_aastore (q := 78) (t0 := 2) dX0_init_77 rfl (Nat.le_of_ble_eq_true rfl) (Nat.le_of_ble_eq_true rfl) (fun _ => rfl) (fun M24 => ?_)
  refine v_iinc (q := 81) (v := (1 : Int32)) (loc2 := [some (.ref a0), some (.int (1 : Int32))]) dX0_init_78 rfl rfl (by decide) rfl (Nat.le_of_ble_eq_true rfl) rfl ?_
  refine v_goto (tgt := 59) dX0_init_81 rfl ?_
  refine v_iload_n (q := 60) dX0_init_59 rfl rfl rfl ?_
  refine v_bipush (q := 62) dX0_init_60 rfl bp_6 ?_
  refine v_icmp_geF (tgt := 84) (q := 65) dX0_init_62 rfl rfl (by decide) ?_
  refine v_aload_n (q := 66) dX0_init_65 rfl rfl rfl ?_
  refine v_getRb (q := 69) dX0_init_66 rfl fg_X0_20 (fun o25 => ?_)
  refine v_iload_n (q := 70) dX0_init_69 rfl rfl rfl ?_
  refine v_newU (q := 73) (u2 := (23, 144)) dX0_init_70 rfl cn_X0_18 ⟨Nat.le_of_ble_eq_true rfl, Nat.le_of_ble_eq_true rfl⟩ rfl (fun o26 M27 => ?_)
  refine v_dup (q := 74) dX0_init_73 rfl rfl ?_
  refine v_cMN0 (q := 77) (ct_X4_init (d - 1) (by omega) _ _) dX0_init_74 rfl cc_X0_38 (by omega) (Nat.le_of_ble_eq_true rfl) ⟨Nat.le_of_ble_eq_true rfl, Nat.le_of_ble_eq_true rfl⟩ (fun M28 => ?_)
  refine v_aastore (q := 78) (t0 := 2) dX0_init_77 rfl (Nat.le_of_ble_eq_true rfl) (Nat.le_of_ble_eq_true rfl) (fun _ => rfl) (fun M29 => ?_)
  refine v_iinc (q := 81) (v := (2 : Int32)) (loc2 := [some (.ref a0), some (.int (2 : Int32))]) dX0_init_78 rfl rfl (by decide) rfl (Nat.le_of_ble_eq_true rfl) rfl ?_
  refine v_goto (tgt := 59) dX0_init_81 rfl ?_
  refine v_iload_n (q := 60) dX0_init_59 rfl rfl rfl ?_
  refine v_bipush (q := 62) dX0_init_60 rfl bp_6 ?_
  refine v_icmp_geF (tgt := 84) (q := 65) dX0_init_62 rfl rfl (by decide) ?_
  refine v_aload_n (q := 66) dX0_init_65 rfl rfl rfl ?_
  refine v_getRb (q := 69) dX0_init_66 rfl fg_X0_20 (fun o30 => ?_)
  refine v_iload_n (q := 70) dX0_init_69 rfl rfl rfl ?_
  refine v_newU (q := 73) (u2 := (24, 151)) dX0_init_70 rfl cn_X0_18 ⟨Nat.le_of_ble_eq_true rfl, Nat.le_of_ble_eq_true rfl⟩ rfl (fun o31 M32 => ?_)
  refine v_dup (q := 74) dX0_init_73 rfl rfl ?_
  refine v_cMN0 (q := 77) (ct_X4_init (d - 1) (by omega) _ _) dX0_init_74 rfl cc_X0_38 (by omega) (Nat.le_of_ble_eq_true rfl) ⟨Nat.le_of_ble_eq_true rfl, Nat.le_of_ble_eq_true rfl⟩ (fun M33 => ?_)
  refine v_aastore (q := 78) (t0 := 2) dX0_init_77 rfl (Nat.le_of_ble_eq_true rfl) (Nat.le_of_ble_eq_true rfl) (fun _ => rfl) (fun M34 => ?_)
  refine v_iinc (q := 81) (v := (3 : Int32)) (loc2 := [some (.ref a0), some (.int (3 : Int32))]) dX0_init_78 rfl rfl (by decide) rfl (Nat.le_of_ble_eq_true rfl) rfl ?_
  refine v_goto (tgt := 59) dX0_init_81 rfl ?_
  refine v_iload_n (q := 60) dX0_init_59 rfl rfl rfl ?_
  refine v_bipush (q := 62) dX0_init_60 rfl bp_6 ?_
  refine v_icmp_geF (tgt := 84) (q := 65) dX0_init_62 rfl rfl (by decide) ?_
  refine v_aload_n (q := 66) dX0_init_65 rfl rfl rfl ?_
  refine v_getRb (q := 69) dX0_init_66 rfl fg_X0_20 (fun o35 => ?_)
  refine v_iload_n (q := 70) dX0_init_69 rfl rfl rfl ?_
  refine v_newU (q := 73) (u2 := (25, 158)) dX0_init_70 rfl cn_X0_18 ⟨Nat.le_of_ble_eq_true rfl, Nat.le_of_ble_eq_true rfl⟩ rfl (fun o36 M37 => ?_)
  refine v_dup (q := 74) dX0_init_73 rfl rfl ?_
  refine v_cMN0 (q := 77) (ct_X4_init (d - 1) (by omega) _ _) dX0_init_74 rfl cc_X0_38 (by omega) (Nat.le_of_ble_eq_true rfl) ⟨Nat.le_of_ble_eq_true rfl, Nat.le_of_ble_eq_true rfl⟩ (fun M38 => ?_)
  refine v_aastore (q := 78) (t0 := 2) dX0_init_77 rfl (Nat.le_of_ble_eq_true rfl) (Nat.le_of_ble_eq_true rfl) (fun _ => rfl) (fun M39 => ?_)
  refine v_iinc (q := 81) (v := (4 : Int32)) (loc2 := [some (.ref a0), some (.int (4 : Int32))]) dX0_init_78 rfl rfl (by decide) rfl (Nat.le_of_ble_eq_true rfl) rfl ?_
  refine v_goto (tgt := 59) dX0_init_81 rfl ?_
  refine v_iload_n (q := 60) dX0_init_59 rfl rfl rfl ?_
  refine v_bipush (q := 62) dX0_init_60 rfl bp_6 ?_
  refine v_icmp_geF (tgt := 84) (q := 65) dX0_init_62 rfl rfl (by decide) ?_
  refine v_aload_n (q := 66) dX0_init_65 rfl rfl rfl ?_
  refine v_getRb (q := 69) dX0_init_66 rfl fg_X0_20 (fun o40 => ?_)
  refine v_iload_n (q := 70) dX0_init_69 rfl rfl rfl ?_
  refine v_newU (q := 73) (u2 := (26, 165)) dX0_init_70 rfl cn_X0_18 ⟨Nat.le_of_ble_eq_true rfl, Nat.le_of_ble_eq_true rfl⟩ rfl (fun o41 M42 => ?_)
  refine v_dup (q := 74) dX0_init_73 rfl rfl ?_
  refine v_cMN0 (q := 77) (ct_X4_init (d - 1) (by omega) _ _) dX0_init_74 rfl cc_X0_38 (by omega) (Nat.le_of_ble_eq_true rfl) ⟨Nat.le_of_ble_eq_true rfl, Nat.le_of_ble_eq_true rfl⟩ (fun M43 => ?_)
  refine v_aastore (q := 78) (t0 := 2) dX0_init_77 rfl (Nat.le_of_ble_eq_true rfl) (Nat.le_of_ble_eq_true rfl) (fun _ => rfl) (fun M44 => ?_)
  refine v_iinc (q := 81) (v := (5 : Int32)) (loc2 := [some (.ref a0), some (.int (5 : Int32))]) dX0_init_78 rfl rfl (by decide) rfl (Nat.le_of_ble_eq_true rfl) rfl ?_
  refine v_goto (tgt := 59) dX0_init_81 rfl ?_
  refine v_iload_n (q := 60) dX0_init_59 rfl rfl rfl ?_
  refine v_bipush (q := 62) dX0_init_60 rfl bp_6 ?_
  refine v_icmp_geF (tgt := 84) (q := 65) dX0_init_62 rfl rfl (by decide) ?_
  refine v_aload_n (q := 66) dX0_init_65 rfl rfl rfl ?_
  refine v_getRb (q := 69) dX0_init_66 rfl fg_X0_20 (fun o45 => ?_)
  refine v_iload_n (q := 70) dX0_init_69 rfl rfl rfl ?_
  refine v_newU (q := 73) (u2 := (27, 172)) dX0_init_70 rfl cn_X0_18 ⟨Nat.le_of_ble_eq_true rfl, Nat.le_of_ble_eq_true rfl⟩ rfl (fun o46 M47 => ?_)
  refine v_dup (q := 74) dX0_init_73 rfl rfl ?_
  refine v_cMN0 (q := 77) (ct_X4_init (d - 1) (by omega) _ _) dX0_init_74 rfl cc_X0_38 (by omega) (Nat.le_of_ble_eq_true rfl) ⟨Nat.le_of_ble_eq_true rfl, Nat.le_of_ble_eq_true rfl⟩ (fun M48 => ?_)
  refine v_aastore (q := 78) (t0 := 2) dX0_init_77 rfl (Nat.le_of_ble_eq_true rfl) (Nat.le_of_ble_eq_true rfl) (fun _ => rfl) (fun M49 => ?_)
  refine v_iinc (q := 81) (v := (6 : Int32)) (loc2 := [some (.ref a0), some (.int (6 : Int32))]) dX0_init_78 rfl rfl (by decide) rfl (Nat.le_of_ble_eq_true rfl) rfl ?_
  refine v_goto (tgt := 59) dX0_init_81 rfl ?_
  refine v_iload_n (q := 60) dX0_init_59 rfl rfl rfl ?_
  refine v_bipush (q := 62) dX0_init_60 rfl bp_6 ?_
  refine v_icmp_geT (tgt := 84) dX0_init_62 rfl (by decide) ?_
  exact v_vret rfl dX0_init_84 ⟨Nat.le_of_ble_eq_true rfl, Nat.le_of_ble_eq_true rfl⟩ rfl
theorem ct_X0_init (d : Nat) (hd : 3 ≤ d) (a0 : Nat) (M : Me) (r : Me) (hf : f_X0_init a0 M = some r) : Ct yX0_init mX0_init d 27 172 [.ref a0] M (none, r) := by
  have hb : b_X0_init a0 M = some r := hf
  exact ct_of (by decide +kernel) rfl rfl (Nat.le_of_ble_eq_true rfl) (vb_X0_init d hd a0 M) (by rw [hb]; rfl)
theorem dX5_copy_0 : decode cX5_copy 0 = .ok (.aload_n 0, 1) := by decide +kernel
theorem dX5_copy_1 : decode cX5_copy 1 = .ok (.aload_n 1, 1) := by decide +kernel
theorem dX5_copy_2 : decode cX5_copy 2 = .ok (.getfield 9, 3) := by decide +kernel
theorem dX5_copy_5 : decode cX5_copy 5 = .ok (.putfield 9, 3) := by decide +kernel
theorem dX5_copy_8 : decode cX5_copy 8 = .ok (.aload_n 0, 1) := by decide +kernel
theorem dX5_copy_9 : decode cX5_copy 9 = .ok (.aload_n 1, 1) := by decide +kernel
theorem dX5_copy_10 : decode cX5_copy 10 = .ok (.getfield 15, 3) := by decide +kernel
theorem dX5_copy_13 : decode cX5_copy 13 = .ok (.putfield 15, 3) := by decide +kernel
theorem dX5_copy_16 : decode cX5_copy 16 = .ok (.aload_n 1, 1) := by decide +kernel
theorem dX5_copy_17 : decode cX5_copy 17 = .ok (.getfield 18, 3) := by decide +kernel
theorem dX5_copy_20 : decode cX5_copy 20 = .ok (.iconst 0, 1) := by decide +kernel
theorem dX5_copy_21 : decode cX5_copy 21 = .ok (.aload_n 0, 1) := by decide +kernel
theorem dX5_copy_22 : decode cX5_copy 22 = .ok (.getfield 18, 3) := by decide +kernel
theorem dX5_copy_25 : decode cX5_copy 25 = .ok (.iconst 0, 1) := by decide +kernel
theorem dX5_copy_26 : decode cX5_copy 26 = .ok (.aload_n 0, 1) := by decide +kernel
theorem dX5_copy_27 : decode cX5_copy 27 = .ok (.getfield 18, 3) := by decide +kernel
theorem dX5_copy_30 : decode cX5_copy 30 = .ok (.arraylength, 1) := by decide +kernel
theorem dX5_copy_31 : decode cX5_copy 31 = .ok (.invokestatic 22, 3) := by decide +kernel
theorem dX5_copy_34 : decode cX5_copy 34 = .ok (.return_, 1) := by decide +kernel
noncomputable def b_X5_copy (a0 : Nat) (a1 : Nat) (M : Me) : Option (Me) :=
  gi M a1 5 0 fun v1 =>
  pi M a0 5 0 v1 fun M2 =>
  gi M2 a1 5 1 fun v3 =>
  pi M2 a0 5 1 v3 fun M4 =>
  gr M4 a1 5 2 fun o5 =>
  gr M4 a0 5 2 fun o6 =>
  gr M4 a0 5 2 fun o7 =>
  al M4 o7 20 fun v8 =>
  ac M4 o5 (0 : Int32) o6 (0 : Int32) v8 fun M9 =>
  some M9
noncomputable def f_X5_copy (a0 : Nat) (a1 : Nat) (M : Me) : Option (Me) := ck M a0 5 (b_X5_copy a0 a1 M)
set_option maxRecDepth 20000 in
theorem vb_X5_copy (d : Nat) (hd : 1 ≤ d) (a0 : Nat) (a1 : Nat) (M : Me) : V (mX5_copy, d, 0, 0) (0, 0) M 0 [some (.ref a0), some (.ref a1)] [] (b_X5_copy a0 a1 M) (fun M2 => some (none, M2)) := by
  unfold b_X5_copy
  refine v_aload_n (q := 1) dX5_copy_0 rfl rfl rfl ?_
  refine v_aload_n (q := 2) dX5_copy_1 rfl rfl rfl ?_
  refine v_getIb (q := 5) dX5_copy_2 rfl fg_X5_9 (fun v1 => ?_)
  refine v_putIb (q := 8) dX5_copy_5 rfl fp_X5_9 (fun M2 => ?_)
  refine v_aload_n (q := 9) dX5_copy_8 rfl rfl rfl ?_
  refine v_aload_n (q := 10) dX5_copy_9 rfl rfl rfl ?_
  refine v_getIb (q := 13) dX5_copy_10 rfl fg_X5_15 (fun v3 => ?_)
  refine v_putIb (q := 16) dX5_copy_13 rfl fp_X5_15 (fun M4 => ?_)
  refine v_aload_n (q := 17) dX5_copy_16 rfl rfl rfl ?_
  refine v_getRb (q := 20) dX5_copy_17 rfl fg_X5_18 (fun o5 => ?_)
  refine v_iconst (q := 21) dX5_copy_20 rfl ic_0 ?_
  refine v_aload_n (q := 22) dX5_copy_21 rfl rfl rfl ?_
  refine v_getRb (q := 25) dX5_copy_22 rfl fg_X5_18 (fun o6 => ?_)
  refine v_iconst (q := 26) dX5_copy_25 rfl ic_0 ?_
  refine v_aload_n (q := 27) dX5_copy_26 rfl rfl rfl ?_
  refine v_getRb (q := 30) dX5_copy_27 rfl fg_X5_18 (fun o7 => ?_)
  refine v_alen (q := 31) (t0 := 0) dX5_copy_30 rfl (Nat.le_of_ble_eq_true rfl) (fun _ => rfl) (fun v8 => ?_)
  refine v_acopy (q := 34) dX5_copy_31 rfl cc_X5_22 aw_copy.1 aw_copy.2.1 aw_copy.2.2 (by show 1 ≤ d; omega) rfl (fun M9 => ?_)
  exact v_vret rfl dX5_copy_34 ⟨Nat.le_of_ble_eq_true rfl, Nat.le_of_ble_eq_true rfl⟩ rfl
theorem ct_X5_copy (d : Nat) (hd : 1 ≤ d) (a0 : Nat) (a1 : Nat) (M : Me) (r : Me) (hf : f_X5_copy a0 a1 M = some r) : me_k M a0 = some (5, nf_c 5) ∧ Ct yX5_copy mX5_copy d 0 0 [.ref a0, .ref a1] M (none, r) := by
  obtain ⟨hk, hb⟩ := ck_some hf
  exact ⟨hk, ct_of (by decide +kernel) rfl rfl (Nat.le_of_ble_eq_true rfl) (vb_X5_copy d hd a0 a1 M) (by rw [hb]; rfl)⟩
theorem dX4_copy_0 : decode cX4_copy 0 = .ok (.aload_n 0, 1) := by decide +kernel
theorem dX4_copy_1 : decode cX4_copy 1 = .ok (.aload_n 1, 1) := by decide +kernel
theorem dX4_copy_2 : decode cX4_copy 2 = .ok (.getfield 9, 3) := by decide +kernel
theorem dX4_copy_5 : decode cX4_copy 5 = .ok (.putfield 9, 3) := by decide +kernel
theorem dX4_copy_8 : decode cX4_copy 8 = .ok (.aload_n 0, 1) := by decide +kernel
theorem dX4_copy_9 : decode cX4_copy 9 = .ok (.aload_n 1, 1) := by decide +kernel
theorem dX4_copy_10 : decode cX4_copy 10 = .ok (.getfield 15, 3) := by decide +kernel
theorem dX4_copy_13 : decode cX4_copy 13 = .ok (.putfield 15, 3) := by decide +kernel
theorem dX4_copy_16 : decode cX4_copy 16 = .ok (.aload_n 0, 1) := by decide +kernel
theorem dX4_copy_17 : decode cX4_copy 17 = .ok (.aload_n 1, 1) := by decide +kernel
theorem dX4_copy_18 : decode cX4_copy 18 = .ok (.getfield 19, 3) := by decide +kernel
theorem dX4_copy_21 : decode cX4_copy 21 = .ok (.putfield 19, 3) := by decide +kernel
theorem dX4_copy_24 : decode cX4_copy 24 = .ok (.aload_n 0, 1) := by decide +kernel
theorem dX4_copy_25 : decode cX4_copy 25 = .ok (.aload_n 1, 1) := by decide +kernel
theorem dX4_copy_26 : decode cX4_copy 26 = .ok (.getfield 22, 3) := by decide +kernel
theorem dX4_copy_29 : decode cX4_copy 29 = .ok (.putfield 22, 3) := by decide +kernel
theorem dX4_copy_32 : decode cX4_copy 32 = .ok (.aload_n 0, 1) := by decide +kernel
theorem dX4_copy_33 : decode cX4_copy 33 = .ok (.aload_n 1, 1) := by decide +kernel
theorem dX4_copy_34 : decode cX4_copy 34 = .ok (.getfield 25, 3) := by decide +kernel
theorem dX4_copy_37 : decode cX4_copy 37 = .ok (.putfield 25, 3) := by decide +kernel
theorem dX4_copy_40 : decode cX4_copy 40 = .ok (.aload_n 0, 1) := by decide +kernel
theorem dX4_copy_41 : decode cX4_copy 41 = .ok (.aload_n 1, 1) := by decide +kernel
theorem dX4_copy_42 : decode cX4_copy 42 = .ok (.getfield 28, 3) := by decide +kernel
theorem dX4_copy_45 : decode cX4_copy 45 = .ok (.putfield 28, 3) := by decide +kernel
theorem dX4_copy_48 : decode cX4_copy 48 = .ok (.aload_n 0, 1) := by decide +kernel
theorem dX4_copy_49 : decode cX4_copy 49 = .ok (.aload_n 1, 1) := by decide +kernel
theorem dX4_copy_50 : decode cX4_copy 50 = .ok (.getfield 31, 3) := by decide +kernel
theorem dX4_copy_53 : decode cX4_copy 53 = .ok (.putfield 31, 3) := by decide +kernel
theorem dX4_copy_56 : decode cX4_copy 56 = .ok (.return_, 1) := by decide +kernel
noncomputable def b_X4_copy (a0 : Nat) (a1 : Nat) (M : Me) : Option (Me) :=
  gi M a1 4 0 fun v1 =>
  pz M a0 4 0 v1 fun M2 =>
  gi M2 a1 4 1 fun v3 =>
  pi M2 a0 4 1 v3 fun M4 =>
  gi M4 a1 4 2 fun v5 =>
  pi M4 a0 4 2 v5 fun M6 =>
  gi M6 a1 4 3 fun v7 =>
  pi M6 a0 4 3 v7 fun M8 =>
  gi M8 a1 4 4 fun v9 =>
  pi M8 a0 4 4 v9 fun M10 =>
  gi M10 a1 4 5 fun v11 =>
  pi M10 a0 4 5 v11 fun M12 =>
  gi M12 a1 4 6 fun v13 =>
  pi M12 a0 4 6 v13 fun M14 =>
  some M14
noncomputable def f_X4_copy (a0 : Nat) (a1 : Nat) (M : Me) : Option (Me) := ck M a0 4 (b_X4_copy a0 a1 M)
set_option maxRecDepth 20000 in
theorem vb_X4_copy (d : Nat) (hd : 0 ≤ d) (a0 : Nat) (a1 : Nat) (M : Me) : V (mX4_copy, d, 0, 0) (0, 0) M 0 [some (.ref a0), some (.ref a1)] [] (b_X4_copy a0 a1 M) (fun M2 => some (none, M2)) := by
  unfold b_X4_copy
  refine v_aload_n (q := 1) dX4_copy_0 rfl rfl rfl ?_
  refine v_aload_n (q := 2) dX4_copy_1 rfl rfl rfl ?_
  refine v_getIb (q := 5) dX4_copy_2 rfl fg_X4_9 (fun v1 => ?_)
  refine v_putZb (q := 8) dX4_copy_5 rfl fp_X4_9 (fun M2 => ?_)
  refine v_aload_n (q := 9) dX4_copy_8 rfl rfl rfl ?_
  refine v_aload_n (q := 10) dX4_copy_9 rfl rfl rfl ?_
  refine v_getIb (q := 13) dX4_copy_10 rfl fg_X4_15 (fun v3 => ?_)
  refine v_putIb (q := 16) dX4_copy_13 rfl fp_X4_15 (fun M4 => ?_)
  refine v_aload_n (q := 17) dX4_copy_16 rfl rfl rfl ?_
  refine v_aload_n (q := 18) dX4_copy_17 rfl rfl rfl ?_
  refine v_getIb (q := 21) dX4_copy_18 rfl fg_X4_19 (fun v5 => ?_)
  refine v_putIb (q := 24) dX4_copy_21 rfl fp_X4_19 (fun M6 => ?_)
  refine v_aload_n (q := 25) dX4_copy_24 rfl rfl rfl ?_
  refine v_aload_n (q := 26) dX4_copy_25 rfl rfl rfl ?_
  refine v_getIb (q := 29) dX4_copy_26 rfl fg_X4_22 (fun v7 => ?_)
  refine v_putIb (q := 32) dX4_copy_29 rfl fp_X4_22 (fun M8 => ?_)
  refine v_aload_n (q := 33) dX4_copy_32 rfl rfl rfl ?_
  refine v_aload_n (q := 34) dX4_copy_33 rfl rfl rfl ?_
  refine v_getIb (q := 37) dX4_copy_34 rfl fg_X4_25 (fun v9 => ?_)
  refine v_putIb (q := 40) dX4_copy_37 rfl fp_X4_25 (fun M10 => ?_)
  refine v_aload_n (q := 41) dX4_copy_40 rfl rfl rfl ?_
  refine v_aload_n (q := 42) dX4_copy_41 rfl rfl rfl ?_
  refine v_getIb (q := 45) dX4_copy_42 rfl fg_X4_28 (fun v11 => ?_)
  refine v_putIb (q := 48) dX4_copy_45 rfl fp_X4_28 (fun M12 => ?_)
  refine v_aload_n (q := 49) dX4_copy_48 rfl rfl rfl ?_
  refine v_aload_n (q := 50) dX4_copy_49 rfl rfl rfl ?_
  refine v_getIb (q := 53) dX4_copy_50 rfl fg_X4_31 (fun v13 => ?_)
  refine v_putIb (q := 56) dX4_copy_53 rfl fp_X4_31 (fun M14 => ?_)
  exact v_vret rfl dX4_copy_56 ⟨Nat.le_of_ble_eq_true rfl, Nat.le_of_ble_eq_true rfl⟩ rfl
theorem ct_X4_copy (d : Nat) (hd : 0 ≤ d) (a0 : Nat) (a1 : Nat) (M : Me) (r : Me) (hf : f_X4_copy a0 a1 M = some r) : me_k M a0 = some (4, nf_c 4) ∧ Ct yX4_copy mX4_copy d 0 0 [.ref a0, .ref a1] M (none, r) := by
  obtain ⟨hk, hb⟩ := ck_some hf
  exact ⟨hk, ct_of (by decide +kernel) rfl rfl (Nat.le_of_ble_eq_true rfl) (vb_X4_copy d hd a0 a1 M) (by rw [hb]; rfl)⟩
theorem dX1_set_0 : decode cX1_set 0 = .ok (.aload_n 0, 1) := by decide +kernel
theorem dX1_set_1 : decode cX1_set 1 = .ok (.iload_n 1, 1) := by decide +kernel
theorem dX1_set_2 : decode cX1_set 2 = .ok (.putfield 7, 3) := by decide +kernel
theorem dX1_set_5 : decode cX1_set 5 = .ok (.aload_n 0, 1) := by decide +kernel
theorem dX1_set_6 : decode cX1_set 6 = .ok (.iload_n 2, 1) := by decide +kernel
theorem dX1_set_7 : decode cX1_set 7 = .ok (.putfield 13, 3) := by decide +kernel
theorem dX1_set_10 : decode cX1_set 10 = .ok (.aload_n 0, 1) := by decide +kernel
theorem dX1_set_11 : decode cX1_set 11 = .ok (.iload_n 3, 1) := by decide +kernel
theorem dX1_set_12 : decode cX1_set 12 = .ok (.putfield 16, 3) := by decide +kernel
theorem dX1_set_15 : decode cX1_set 15 = .ok (.aload_n 0, 1) := by decide +kernel
theorem dX1_set_16 : decode cX1_set 16 = .ok (.iload 4, 2) := by decide +kernel
theorem dX1_set_18 : decode cX1_set 18 = .ok (.putfield 19, 3) := by decide +kernel
theorem dX1_set_21 : decode cX1_set 21 = .ok (.aload_n 0, 1) := by decide +kernel
theorem dX1_set_22 : decode cX1_set 22 = .ok (.iconst 0, 1) := by decide +kernel
theorem dX1_set_23 : decode cX1_set 23 = .ok (.putfield 22, 3) := by decide +kernel
theorem dX1_set_26 : decode cX1_set 26 = .ok (.return_, 1) := by decide +kernel
noncomputable def b_X1_set (a0 : Nat) (x1 : Int32) (x2 : Int32) (x3 : Int32) (x4 : Int32) (M : Me) : Option (Me) :=
  pi M a0 1 0 x1 fun M1 =>
  pi M1 a0 1 1 x2 fun M2 =>
  pi M2 a0 1 2 x3 fun M3 =>
  pi M3 a0 1 3 x4 fun M4 =>
  pz M4 a0 1 4 (0 : Int32) fun M5 =>
  some M5
noncomputable def f_X1_set (a0 : Nat) (x1 : Int32) (x2 : Int32) (x3 : Int32) (x4 : Int32) (M : Me) : Option (Me) := ck M a0 1 (b_X1_set a0 x1 x2 x3 x4 M)
set_option maxRecDepth 20000 in
theorem vb_X1_set (d : Nat) (hd : 0 ≤ d) (a0 : Nat) (x1 : Int32) (x2 : Int32) (x3 : Int32) (x4 : Int32) (M : Me) : V (mX1_set, d, 0, 0) (0, 0) M 0 [some (.ref a0), some (.int x1), some (.int x2), some (.int x3), some (.int x4)] [] (b_X1_set a0 x1 x2 x3 x4 M) (fun M2 => some (none, M2)) := by
  unfold b_X1_set
  refine v_aload_n (q := 1) dX1_set_0 rfl rfl rfl ?_
  refine v_iload_n (q := 2) dX1_set_1 rfl rfl rfl ?_
  refine v_putIb (q := 5) dX1_set_2 rfl fp_X1_7 (fun M1 => ?_)
  refine v_aload_n (q := 6) dX1_set_5 rfl rfl rfl ?_
  refine v_iload_n (q := 7) dX1_set_6 rfl rfl rfl ?_
  refine v_putIb (q := 10) dX1_set_7 rfl fp_X1_13 (fun M2 => ?_)
  refine v_aload_n (q := 11) dX1_set_10 rfl rfl rfl ?_
  refine v_iload_n (q := 12) dX1_set_11 rfl rfl rfl ?_
  refine v_putIb (q := 15) dX1_set_12 rfl fp_X1_16 (fun M3 => ?_)
  refine v_aload_n (q := 16) dX1_set_15 rfl rfl rfl ?_
  refine v_iload (q := 18) dX1_set_16 rfl rfl ?_
  refine v_putIb (q := 21) dX1_set_18 rfl fp_X1_19 (fun M4 => ?_)
  refine v_aload_n (q := 22) dX1_set_21 rfl rfl rfl ?_
  refine v_iconst (q := 23) dX1_set_22 rfl ic_0 ?_
  refine v_putZb (q := 26) dX1_set_23 rfl fp_X1_22 (fun M5 => ?_)
  exact v_vret rfl dX1_set_26 ⟨Nat.le_of_ble_eq_true rfl, Nat.le_of_ble_eq_true rfl⟩ rfl
theorem ct_X1_set (d : Nat) (hd : 0 ≤ d) (a0 : Nat) (x1 : Int32) (x2 : Int32) (x3 : Int32) (x4 : Int32) (M : Me) (r : Me) (hf : f_X1_set a0 x1 x2 x3 x4 M = some r) : me_k M a0 = some (1, nf_c 1) ∧ Ct yX1_set mX1_set d 0 0 [.ref a0, .int x1, .int x2, .int x3, .int x4] M (none, r) := by
  obtain ⟨hk, hb⟩ := ck_some hf
  exact ⟨hk, ct_of (by decide +kernel) rfl rfl (Nat.le_of_ble_eq_true rfl) (vb_X1_set d hd a0 x1 x2 x3 x4 M) (by rw [hb]; rfl)⟩
theorem dX2_copy_0 : decode cX2_copy 0 = .ok (.aload_n 0, 1) := by decide +kernel
theorem dX2_copy_1 : decode cX2_copy 1 = .ok (.aload_n 1, 1) := by decide +kernel
theorem dX2_copy_2 : decode cX2_copy 2 = .ok (.getfield 18, 3) := by decide +kernel
theorem dX2_copy_5 : decode cX2_copy 5 = .ok (.putfield 18, 3) := by decide +kernel
theorem dX2_copy_8 : decode cX2_copy 8 = .ok (.iconst 0, 1) := by decide +kernel
theorem dX2_copy_9 : decode cX2_copy 9 = .ok (.istore_n 2, 1) := by decide +kernel
theorem dX2_copy_10 : decode cX2_copy 10 = .ok (.iload_n 2, 1) := by decide +kernel
theorem dX2_copy_11 : decode cX2_copy 11 = .ok (.bipush 12, 2) := by decide +kernel
theorem dX2_copy_13 : decode cX2_copy 13 = .ok (.if_icmp .ge 49, 3) := by decide +kernel
theorem dX2_copy_16 : decode cX2_copy 16 = .ok (.iload_n 2, 1) := by decide +kernel
theorem dX2_copy_17 : decode cX2_copy 17 = .ok (.aload_n 0, 1) := by decide +kernel
theorem dX2_copy_18 : decode cX2_copy 18 = .ok (.getfield 18, 3) := by decide +kernel
theorem dX2_copy_21 : decode cX2_copy 21 = .ok (.if_icmp .ge 41, 3) := by decide +kernel
theorem dX2_copy_24 : decode cX2_copy 24 = .ok (.aload_n 1, 1) := by decide +kernel
theorem dX2_copy_25 : decode cX2_copy 25 = .ok (.getfield 11, 3) := by decide +kernel
theorem dX2_copy_28 : decode cX2_copy 28 = .ok (.iload_n 2, 1) := by decide +kernel
theorem dX2_copy_29 : decode cX2_copy 29 = .ok (.aaload, 1) := by decide +kernel
theorem dX2_copy_30 : decode cX2_copy 30 = .ok (.astore_n 3, 1) := by decide +kernel
theorem dX2_copy_31 : decode cX2_copy 31 = .ok (.aload_n 0, 1) := by decide +kernel
theorem dX2_copy_32 : decode cX2_copy 32 = .ok (.getfield 11, 3) := by decide +kernel
theorem dX2_copy_35 : decode cX2_copy 35 = .ok (.iload_n 2, 1) := by decide +kernel
theorem dX2_copy_36 : decode cX2_copy 36 = .ok (.aaload, 1) := by decide +kernel
theorem dX2_copy_37 : decode cX2_copy 37 = .ok (.aload_n 3, 1) := by decide +kernel
theorem dX2_copy_38 : decode cX2_copy 38 = .ok (.getfield 22, 3) := by decide +kernel
theorem dX2_copy_41 : decode cX2_copy 41 = .ok (.aload_n 3, 1) := by decide +kernel
theorem dX2_copy_42 : decode cX2_copy 42 = .ok (.getfield 25, 3) := by decide +kernel
theorem dX2_copy_45 : decode cX2_copy 45 = .ok (.aload_n 3, 1) := by decide +kernel
theorem dX2_copy_46 : decode cX2_copy 46 = .ok (.getfield 28, 3) := by decide +kernel
theorem dX2_copy_49 : decode cX2_copy 49 = .ok (.aload_n 3, 1) := by decide +kernel
theorem dX2_copy_50 : decode cX2_copy 50 = .ok (.getfield 31, 3) := by decide +kernel
theorem dX2_copy_53 : decode cX2_copy 53 = .ok (.invokevirtual 34, 3) := by decide +kernel
theorem dX2_copy_56 : decode cX2_copy 56 = .ok (.iinc 2 1, 3) := by decide +kernel
theorem dX2_copy_59 : decode cX2_copy 59 = .ok (.goto (-49), 3) := by decide +kernel
theorem dX2_copy_62 : decode cX2_copy 62 = .ok (.return_, 1) := by decide +kernel
noncomputable def s_X2_copy_10 (a0 : Nat) (a1 : Nat) (M3 : Me) (v4 : Int32) : Option ((Me × Int32) ⊕ (Me × Int32)) :=
  if (12 : Int32) ≤ v4 then (
    some (Sum.inr (M3, v4))
  ) else (
    gi M3 a0 2 0 fun v5 =>
    if v5 ≤ v4 then (
      some (Sum.inr (M3, v4))
    ) else (
      gr M3 a1 2 1 fun o6 =>
      lr M3 o6 23 v4 fun o7 =>
      gr M3 a0 2 1 fun o8 =>
      lr M3 o8 23 v4 fun o9 =>
      gi M3 o7 1 0 fun v10 =>
      gi M3 o7 1 1 fun v11 =>
      gi M3 o7 1 2 fun v12 =>
      gi M3 o7 1 3 fun v13 =>
      cM (f_X1_set o9 v10 v11 v12 v13 M3) fun M14 =>
      let_v (v4 + (1 : Int32)) fun v15 =>
      some (Sum.inl (M14, v15))
    )
  )
noncomputable def b_X2_copy (a0 : Nat) (a1 : Nat) (M : Me) : Option (Me) :=
  gi M a1 2 0 fun v1 =>
  pi M a0 2 0 v1 fun M2 =>
  (lp (fun s => s_X2_copy_10 a0 a1 s.1 s.2) (M2, (0 : Int32))).bind fun e16 =>
  some e16.1
noncomputable def f_X2_copy (a0 : Nat) (a1 : Nat) (M : Me) : Option (Me) := ck M a0 2 (b_X2_copy a0 a1 M)
set_option maxRecDepth 20000 in
theorem vb_X2_copy (d : Nat) (hd : 1 ≤ d) (a0 : Nat) (a1 : Nat) (M : Me) : V (mX2_copy, d, 0, 0) (0, 0) M 0 [some (.ref a0), some (.ref a1), none, none] [] (b_X2_copy a0 a1 M) (fun M2 => some (none, M2)) := by
  unfold b_X2_copy
  refine v_aload_n (q := 1) dX2_copy_0 rfl rfl rfl ?_
  refine v_aload_n (q := 2) dX2_copy_1 rfl rfl rfl ?_
  refine v_getIb (q := 5) dX2_copy_2 rfl fg_X2_18 (fun v1 => ?_)
  refine v_putIb (q := 8) dX2_copy_5 rfl fp_X2_18 (fun M2 => ?_)
  refine v_iconst (q := 9) dX2_copy_8 rfl ic_0 ?_
  refine v_istore_n (q := 10) (loc2 := [some (.ref a0), some (.ref a1), some (.int (0 : Int32)), none]) dX2_copy_9 rfl rfl rfl (Nat.le_of_ble_eq_true rfl) rfl ?_
  refine v_lps (S := Me × Int32) 62 (fun s => s.1) (fun s => [some (.ref a0), some (.ref a1), some (.int s.2), none]) (fun e16 => e16.1) (fun e16 => [some (.ref a0), some (.ref a1), some (.int e16.2), none]) (fun e16 => ?_) (fun k K hk hx s => ?_)
  · exact v_vret rfl dX2_copy_62 ⟨Nat.le_of_ble_eq_true rfl, Nat.le_of_ble_eq_true rfl⟩ rfl
  · obtain ⟨M3, v4⟩ := s
    show V _ _ M3 10 [some (.ref a0), some (.ref a1), some (.int v4), none] [] (s_X2_copy_10 a0 a1 M3 v4) _
    unfold s_X2_copy_10
    refine v_iload_n (q := 11) dX2_copy_10 rfl rfl rfl ?_
    refine v_bipush (q := 13) dX2_copy_11 rfl bp_12 ?_
    refine v_icmp_ge (tgt := 62) (q := 16) dX2_copy_13 rfl rfl ?_ ?_
    · exact v_inr (hx (M3, v4))
    · refine v_iload_n (q := 17) dX2_copy_16 rfl rfl rfl ?_
      refine v_aload_n (q := 18) dX2_copy_17 rfl rfl rfl ?_
      refine v_getIb (q := 21) dX2_copy_18 rfl fg_X2_18 (fun v5 => ?_)
      refine v_icmp_ge (tgt := 62) (q := 24) dX2_copy_21 rfl rfl ?_ ?_
      · exact v_inr (hx (M3, v4))
      · refine v_aload_n (q := 25) dX2_copy_24 rfl rfl rfl ?_
        refine v_getRb (q := 28) dX2_copy_25 rfl fg_X2_11 (fun o6 => ?_)
        refine v_iload_n (q := 29) dX2_copy_28 rfl rfl rfl ?_
        refine v_aaload (q := 30) (t0 := 3) dX2_copy_29 rfl (Nat.le_of_ble_eq_true rfl) (fun _ => rfl) (fun o7 => ?_)
        refine v_astore_n (q := 31) (loc2 := [some (.ref a0), some (.ref a1), some (.int v4), some (.ref o7)]) dX2_copy_30 rfl rfl rfl (Nat.le_of_ble_eq_true rfl) rfl ?_
        refine v_aload_n (q := 32) dX2_copy_31 rfl rfl rfl ?_
        refine v_getRb (q := 35) dX2_copy_32 rfl fg_X2_11 (fun o8 => ?_)
        refine v_iload_n (q := 36) dX2_copy_35 rfl rfl rfl ?_
        refine v_aaload (q := 37) (t0 := 3) dX2_copy_36 rfl (Nat.le_of_ble_eq_true rfl) (fun _ => rfl) (fun o9 => ?_)
        refine v_aload_n (q := 38) dX2_copy_37 rfl rfl rfl ?_
        refine v_getIb (q := 41) dX2_copy_38 rfl fg_X2_22 (fun v10 => ?_)
        refine v_aload_n (q := 42) dX2_copy_41 rfl rfl rfl ?_
        refine v_getIb (q := 45) dX2_copy_42 rfl fg_X2_25 (fun v11 => ?_)
        refine v_aload_n (q := 46) dX2_copy_45 rfl rfl rfl ?_
        refine v_getIb (q := 49) dX2_copy_46 rfl fg_X2_28 (fun v12 => ?_)
        refine v_aload_n (q := 50) dX2_copy_49 rfl rfl rfl ?_
        refine v_getIb (q := 53) dX2_copy_50 rfl fg_X2_31 (fun v13 => ?_)
        refine v_cMV4 (q := 56) (ct_X1_set (d - 1) (by omega) _ _ _ _ _ _) dX2_copy_53 rfl cc_X2_34 (by omega) (Nat.le_of_ble_eq_true rfl) ⟨Nat.le_of_ble_eq_true rfl, Nat.le_of_ble_eq_true rfl⟩ (fun M14 => ?_)
        refine v_iincL (q := 59) (x := v4) (cst := (1 : Int32)) (f := fun v15 => [some (.ref a0), some (.ref a1), some (.int v15), some (.ref o7)]) dX2_copy_56 rfl rfl ic_1 rfl (Nat.le_of_ble_eq_true rfl) (fun _ => rfl) (fun v15 => ?_)
        refine v_goto (tgt := 10) dX2_copy_59 rfl ?_
        exact v_inl (v_weak (hk (M14, v15)) ⟨rfl, ⟨rfl, ⟨rfl, trivial⟩⟩⟩)
theorem ct_X2_copy (d : Nat) (hd : 1 ≤ d) (a0 : Nat) (a1 : Nat) (M : Me) (r : Me) (hf : f_X2_copy a0 a1 M = some r) : me_k M a0 = some (2, nf_c 2) ∧ Ct yX2_copy mX2_copy d 0 0 [.ref a0, .ref a1] M (none, r) := by
  obtain ⟨hk, hb⟩ := ck_some hf
  exact ⟨hk, ct_of (by decide +kernel) rfl rfl (Nat.le_of_ble_eq_true rfl) (vb_X2_copy d hd a0 a1 M) (by rw [hb]; rfl)⟩
theorem dX9_copy_0 : decode cX9_copy 0 = .ok (.aload_n 0, 1) := by decide +kernel
theorem dX9_copy_1 : decode cX9_copy 1 = .ok (.aload_n 1, 1) := by decide +kernel
theorem dX9_copy_2 : decode cX9_copy 2 = .ok (.getfield 18, 3) := by decide +kernel
theorem dX9_copy_5 : decode cX9_copy 5 = .ok (.putfield 18, 3) := by decide +kernel
theorem dX9_copy_8 : decode cX9_copy 8 = .ok (.aload_n 1, 1) := by decide +kernel
theorem dX9_copy_9 : decode cX9_copy 9 = .ok (.getfield 9, 3) := by decide +kernel
theorem dX9_copy_12 : decode cX9_copy 12 = .ok (.iconst 0, 1) := by decide +kernel
theorem dX9_copy_13 : decode cX9_copy 13 = .ok (.aload_n 0, 1) := by decide +kernel
theorem dX9_copy_14 : decode cX9_copy 14 = .ok (.getfield 9, 3) := by decide +kernel
theorem dX9_copy_17 : decode cX9_copy 17 = .ok (.iconst 0, 1) := by decide +kernel
theorem dX9_copy_18 : decode cX9_copy 18 = .ok (.bipush 6, 2) := by decide +kernel
theorem dX9_copy_20 : decode cX9_copy 20 = .ok (.invokestatic 22, 3) := by decide +kernel
theorem dX9_copy_23 : decode cX9_copy 23 = .ok (.aload_n 1, 1) := by decide +kernel
theorem dX9_copy_24 : decode cX9_copy 24 = .ok (.getfield 15, 3) := by decide +kernel
theorem dX9_copy_27 : decode cX9_copy 27 = .ok (.iconst 0, 1) := by decide +kernel
theorem dX9_copy_28 : decode cX9_copy 28 = .ok (.aload_n 0, 1) := by decide +kernel
theorem dX9_copy_29 : decode cX9_copy 29 = .ok (.getfield 15, 3) := by decide +kernel
theorem dX9_copy_32 : decode cX9_copy 32 = .ok (.iconst 0, 1) := by decide +kernel
theorem dX9_copy_33 : decode cX9_copy 33 = .ok (.bipush 6, 2) := by decide +kernel
theorem dX9_copy_35 : decode cX9_copy 35 = .ok (.invokestatic 22, 3) := by decide +kernel
theorem dX9_copy_38 : decode cX9_copy 38 = .ok (.return_, 1) := by decide +kernel
noncomputable def b_X9_copy (a0 : Nat) (a1 : Nat) (M : Me) : Option (Me) :=
  gi M a1 9 0 fun v1 =>
  pi M a0 9 0 v1 fun M2 =>
  gr M2 a1 9 1 fun o3 =>
  gr M2 a0 9 1 fun o4 =>
  ac M2 o3 (0 : Int32) o4 (0 : Int32) (6 : Int32) fun M5 =>
  gr M5 a1 9 2 fun o6 =>
  gr M5 a0 9 2 fun o7 =>
  ac M5 o6 (0 : Int32) o7 (0 : Int32) (6 : Int32) fun M8 =>
  some M8
noncomputable def f_X9_copy (a0 : Nat) (a1 : Nat) (M : Me) : Option (Me) := ck M a0 9 (b_X9_copy a0 a1 M)
set_option maxRecDepth 20000 in
theorem vb_X9_copy (d : Nat) (hd : 1 ≤ d) (a0 : Nat) (a1 : Nat) (M : Me) : V (mX9_copy, d, 0, 0) (0, 0) M 0 [some (.ref a0), some (.ref a1)] [] (b_X9_copy a0 a1 M) (fun M2 => some (none, M2)) := by
  unfold b_X9_copy
  refine v_aload_n (q := 1) dX9_copy_0 rfl rfl rfl ?_
  refine v_aload_n (q := 2) dX9_copy_1 rfl rfl rfl ?_
  refine v_getIb (q := 5) dX9_copy_2 rfl fg_X9_18 (fun v1 => ?_)
  refine v_putIb (q := 8) dX9_copy_5 rfl fp_X9_18 (fun M2 => ?_)
  refine v_aload_n (q := 9) dX9_copy_8 rfl rfl rfl ?_
  refine v_getRb (q := 12) dX9_copy_9 rfl fg_X9_9 (fun o3 => ?_)
  refine v_iconst (q := 13) dX9_copy_12 rfl ic_0 ?_
  refine v_aload_n (q := 14) dX9_copy_13 rfl rfl rfl ?_
  refine v_getRb (q := 17) dX9_copy_14 rfl fg_X9_9 (fun o4 => ?_)
  refine v_iconst (q := 18) dX9_copy_17 rfl ic_0 ?_
  refine v_bipush (q := 20) dX9_copy_18 rfl bp_6 ?_
  refine v_acopy (q := 23) dX9_copy_20 rfl cc_X9_22 aw_copy.1 aw_copy.2.1 aw_copy.2.2 (by show 1 ≤ d; omega) rfl (fun M5 => ?_)
  refine v_aload_n (q := 24) dX9_copy_23 rfl rfl rfl ?_
  refine v_getRb (q := 27) dX9_copy_24 rfl fg_X9_15 (fun o6 => ?_)
  refine v_iconst (q := 28) dX9_copy_27 rfl ic_0 ?_
  refine v_aload_n (q := 29) dX9_copy_28 rfl rfl rfl ?_
  refine v_getRb (q := 32) dX9_copy_29 rfl fg_X9_15 (fun o7 => ?_)
  refine v_iconst (q := 33) dX9_copy_32 rfl ic_0 ?_
  refine v_bipush (q := 35) dX9_copy_33 rfl bp_6 ?_
  refine v_acopy (q := 38) dX9_copy_35 rfl cc_X9_22 aw_copy.1 aw_copy.2.1 aw_copy.2.2 (by show 1 ≤ d; omega) rfl (fun M8 => ?_)
  exact v_vret rfl dX9_copy_38 ⟨Nat.le_of_ble_eq_true rfl, Nat.le_of_ble_eq_true rfl⟩ rfl
theorem ct_X9_copy (d : Nat) (hd : 1 ≤ d) (a0 : Nat) (a1 : Nat) (M : Me) (r : Me) (hf : f_X9_copy a0 a1 M = some r) : me_k M a0 = some (9, nf_c 9) ∧ Ct yX9_copy mX9_copy d 0 0 [.ref a0, .ref a1] M (none, r) := by
  obtain ⟨hk, hb⟩ := ck_some hf
  exact ⟨hk, ct_of (by decide +kernel) rfl rfl (Nat.le_of_ble_eq_true rfl) (vb_X9_copy d hd a0 a1 M) (by rw [hb]; rfl)⟩
theorem dX0_copy_0 : decode cX0_copy 0 = .ok (.aload_n 0, 1) := by decide +kernel
theorem dX0_copy_1 : decode cX0_copy 1 = .ok (.getfield 12, 3) := by decide +kernel
theorem dX0_copy_4 : decode cX0_copy 4 = .ok (.aload_n 1, 1) := by decide +kernel
theorem dX0_copy_5 : decode cX0_copy 5 = .ok (.getfield 12, 3) := by decide +kernel
theorem dX0_copy_8 : decode cX0_copy 8 = .ok (.invokevirtual 43, 3) := by decide +kernel
theorem dX0_copy_11 : decode cX0_copy 11 = .ok (.iconst 0, 1) := by decide +kernel
theorem dX0_copy_12 : decode cX0_copy 12 = .ok (.istore_n 2, 1) := by decide +kernel
theorem dX0_copy_13 : decode cX0_copy 13 = .ok (.iload_n 2, 1) := by decide +kernel
theorem dX0_copy_14 : decode cX0_copy 14 = .ok (.bipush 6, 2) := by decide +kernel
theorem dX0_copy_16 : decode cX0_copy 16 = .ok (.if_icmp .ge 24, 3) := by decide +kernel
theorem dX0_copy_19 : decode cX0_copy 19 = .ok (.aload_n 0, 1) := by decide +kernel
theorem dX0_copy_20 : decode cX0_copy 20 = .ok (.getfield 20, 3) := by decide +kernel
theorem dX0_copy_23 : decode cX0_copy 23 = .ok (.iload_n 2, 1) := by decide +kernel
theorem dX0_copy_24 : decode cX0_copy 24 = .ok (.aaload, 1) := by decide +kernel
theorem dX0_copy_25 : decode cX0_copy 25 = .ok (.aload_n 1, 1) := by decide +kernel
theorem dX0_copy_26 : decode cX0_copy 26 = .ok (.getfield 20, 3) := by decide +kernel
theorem dX0_copy_29 : decode cX0_copy 29 = .ok (.iload_n 2, 1) := by decide +kernel
theorem dX0_copy_30 : decode cX0_copy 30 = .ok (.aaload, 1) := by decide +kernel
theorem dX0_copy_31 : decode cX0_copy 31 = .ok (.invokevirtual 47, 3) := by decide +kernel
theorem dX0_copy_34 : decode cX0_copy 34 = .ok (.iinc 2 1, 3) := by decide +kernel
theorem dX0_copy_37 : decode cX0_copy 37 = .ok (.goto (-24), 3) := by decide +kernel
theorem dX0_copy_40 : decode cX0_copy 40 = .ok (.aload_n 0, 1) := by decide +kernel
theorem dX0_copy_41 : decode cX0_copy 41 = .ok (.getfield 27, 3) := by decide +kernel
theorem dX0_copy_44 : decode cX0_copy 44 = .ok (.aload_n 1, 1) := by decide +kernel
theorem dX0_copy_45 : decode cX0_copy 45 = .ok (.getfield 27, 3) := by decide +kernel
theorem dX0_copy_48 : decode cX0_copy 48 = .ok (.invokevirtual 50, 3) := by decide +kernel
theorem dX0_copy_51 : decode cX0_copy 51 = .ok (.aload_n 0, 1) := by decide +kernel
theorem dX0_copy_52 : decode cX0_copy 52 = .ok (.getfield 34, 3) := by decide +kernel
theorem dX0_copy_55 : decode cX0_copy 55 = .ok (.aload_n 1, 1) := by decide +kernel
theorem dX0_copy_56 : decode cX0_copy 56 = .ok (.getfield 34, 3) := by decide +kernel
theorem dX0_copy_59 : decode cX0_copy 59 = .ok (.invokevirtual 53, 3) := by decide +kernel
theorem dX0_copy_62 : decode cX0_copy 62 = .ok (.aload_n 0, 1) := by decide +kernel
theorem dX0_copy_63 : decode cX0_copy 63 = .ok (.aload_n 1, 1) := by decide +kernel
theorem dX0_copy_64 : decode cX0_copy 64 = .ok (.getfield 56, 3) := by decide +kernel
theorem dX0_copy_67 : decode cX0_copy 67 = .ok (.putfield 56, 3) := by decide +kernel
theorem dX0_copy_70 : decode cX0_copy 70 = .ok (.return_, 1) := by decide +kernel
noncomputable def s_X0_copy_13 (a0 : Nat) (a1 : Nat) (M4 : Me) (v5 : Int32) : Option ((Me × Int32) ⊕ (Me × Int32)) :=
  if (6 : Int32) ≤ v5 then (
    some (Sum.inr (M4, v5))
  ) else (
    gr M4 a0 0 1 fun o6 =>
    lr M4 o6 22 v5 fun o7 =>
    gr M4 a1 0 1 fun o8 =>
    lr M4 o8 22 v5 fun o9 =>
    cM (f_X4_copy o7 o9 M4) fun M10 =>
    let_v (v5 + (1 : Int32)) fun v11 =>
    some (Sum.inl (M10, v11))
  )
noncomputable def b_X0_copy (a0 : Nat) (a1 : Nat) (M : Me) : Option (Me) :=
  gr M a0 0 0 fun o1 =>
  gr M a1 0 0 fun o2 =>
  cM (f_X5_copy o1 o2 M) fun M3 =>
  (lp (fun s => s_X0_copy_13 a0 a1 s.1 s.2) (M3, (0 : Int32))).bind fun e12 =>
  gr e12.1 a0 0 2 fun o13 =>
  gr e12.1 a1 0 2 fun o14 =>
  cM (f_X2_copy o13 o14 e12.1) fun M15 =>
  gr M15 a0 0 3 fun o16 =>
  gr M15 a1 0 3 fun o17 =>
  cM (f_X9_copy o16 o17 M15) fun M18 =>
  gi M18 a1 0 5 fun v19 =>
  pi M18 a0 0 5 v19 fun M20 =>
  some M20
noncomputable def f_X0_copy (a0 : Nat) (a1 : Nat) (M : Me) : Option (Me) := ck M a0 0 (b_X0_copy a0 a1 M)
set_option maxRecDepth 20000 in
theorem vb_X0_copy (d : Nat) (hd : 2 ≤ d) (a0 : Nat) (a1 : Nat) (M : Me) : V (mX0_copy, d, 0, 0) (0, 0) M 0 [some (.ref a0), some (.ref a1), none] [] (b_X0_copy a0 a1 M) (fun M2 => some (none, M2)) := by
  unfold b_X0_copy
  refine v_aload_n (q := 1) dX0_copy_0 rfl rfl rfl ?_
  refine v_getRb (q := 4) dX0_copy_1 rfl fg_X0_12 (fun o1 => ?_)
  refine v_aload_n (q := 5) dX0_copy_4 rfl rfl rfl ?_
  refine v_getRb (q := 8) dX0_copy_5 rfl fg_X0_12 (fun o2 => ?_)
  refine v_cMV1 (q := 11) (ct_X5_copy (d - 1) (by omega) _ _ _) dX0_copy_8 rfl cc_X0_43 (by omega) (Nat.le_of_ble_eq_true rfl) ⟨Nat.le_of_ble_eq_true rfl, Nat.le_of_ble_eq_true rfl⟩ (fun M3 => ?_)
  refine v_iconst (q := 12) dX0_copy_11 rfl ic_0 ?_
  refine v_istore_n (q := 13) (loc2 := [some (.ref a0), some (.ref a1), some (.int (0 : Int32))]) dX0_copy_12 rfl rfl rfl (Nat.le_of_ble_eq_true rfl) rfl ?_
  refine v_lps (S := Me × Int32) 40 (fun s => s.1) (fun s => [some (.ref a0), some (.ref a1), some (.int s.2)]) (fun e12 => e12.1) (fun e12 => [some (.ref a0), some (.ref a1), some (.int e12.2)]) (fun e12 => ?_) (fun k K hk hx s => ?_)
  · refine v_aload_n (q := 41) dX0_copy_40 rfl rfl rfl ?_
    refine v_getRb (q := 44) dX0_copy_41 rfl fg_X0_27 (fun o13 => ?_)
    refine v_aload_n (q := 45) dX0_copy_44 rfl rfl rfl ?_
    refine v_getRb (q := 48) dX0_copy_45 rfl fg_X0_27 (fun o14 => ?_)
    refine v_cMV1 (q := 51) (ct_X2_copy (d - 1) (by omega) _ _ _) dX0_copy_48 rfl cc_X0_50 (by omega) (Nat.le_of_ble_eq_true rfl) ⟨Nat.le_of_ble_eq_true rfl, Nat.le_of_ble_eq_true rfl⟩ (fun M15 => ?_)
    refine v_aload_n (q := 52) dX0_copy_51 rfl rfl rfl ?_
    refine v_getRb (q := 55) dX0_copy_52 rfl fg_X0_34 (fun o16 => ?_)
    refine v_aload_n (q := 56) dX0_copy_55 rfl rfl rfl ?_
    refine v_getRb (q := 59) dX0_copy_56 rfl fg_X0_34 (fun o17 => ?_)
    refine v_cMV1 (q := 62) (ct_X9_copy (d - 1) (by omega) _ _ _) dX0_copy_59 rfl cc_X0_53 (by omega) (Nat.le_of_ble_eq_true rfl) ⟨Nat.le_of_ble_eq_true rfl, Nat.le_of_ble_eq_true rfl⟩ (fun M18 => ?_)
    refine v_aload_n (q := 63) dX0_copy_62 rfl rfl rfl ?_
    refine v_aload_n (q := 64) dX0_copy_63 rfl rfl rfl ?_
    refine v_getIb (q := 67) dX0_copy_64 rfl fg_X0_56 (fun v19 => ?_)
    refine v_putIb (q := 70) dX0_copy_67 rfl fp_X0_56 (fun M20 => ?_)
    exact v_vret rfl dX0_copy_70 ⟨Nat.le_of_ble_eq_true rfl, Nat.le_of_ble_eq_true rfl⟩ rfl
  · obtain ⟨M4, v5⟩ := s
    show V _ _ M4 13 [some (.ref a0), some (.ref a1), some (.int v5)] [] (s_X0_copy_13 a0 a1 M4 v5) _
    unfold s_X0_copy_13
    refine v_iload_n (q := 14) dX0_copy_13 rfl rfl rfl ?_
    refine v_bipush (q := 16) dX0_copy_14 rfl bp_6 ?_
    refine v_icmp_ge (tgt := 40) (q := 19) dX0_copy_16 rfl rfl ?_ ?_
    · exact v_inr (hx (M4, v5))
    · refine v_aload_n (q := 20) dX0_copy_19 rfl rfl rfl ?_
      refine v_getRb (q := 23) dX0_copy_20 rfl fg_X0_20 (fun o6 => ?_)
      refine v_iload_n (q := 24) dX0_copy_23 rfl rfl rfl ?_
      refine v_aaload (q := 25) (t0 := 2) dX0_copy_24 rfl (Nat.le_of_ble_eq_true rfl) (fun _ => rfl) (fun o7 => ?_)
      refine v_aload_n (q := 26) dX0_copy_25 rfl rfl rfl ?_
      refine v_getRb (q := 29) dX0_copy_26 rfl fg_X0_20 (fun o8 => ?_)
      refine v_iload_n (q := 30) dX0_copy_29 rfl rfl rfl ?_
      refine v_aaload (q := 31) (t0 := 2) dX0_copy_30 rfl (Nat.le_of_ble_eq_true rfl) (fun _ => rfl) (fun o9 => ?_)
      refine v_cMV1 (q := 34) (ct_X4_copy (d - 1) (by omega) _ _ _) dX0_copy_31 rfl cc_X0_47 (by omega) (Nat.le_of_ble_eq_true rfl) ⟨Nat.le_of_ble_eq_true rfl, Nat.le_of_ble_eq_true rfl⟩ (fun M10 => ?_)
      refine v_iincL (q := 37) (x := v5) (cst := (1 : Int32)) (f := fun v11 => [some (.ref a0), some (.ref a1), some (.int v11)]) dX0_copy_34 rfl rfl ic_1 rfl (Nat.le_of_ble_eq_true rfl) (fun _ => rfl) (fun v11 => ?_)
      refine v_goto (tgt := 13) dX0_copy_37 rfl ?_
      exact v_inl (hk (M10, v11))
theorem ct_X0_copy (d : Nat) (hd : 2 ≤ d) (a0 : Nat) (a1 : Nat) (M : Me) (r : Me) (hf : f_X0_copy a0 a1 M = some r) : me_k M a0 = some (0, nf_c 0) ∧ Ct yX0_copy mX0_copy d 0 0 [.ref a0, .ref a1] M (none, r) := by
  obtain ⟨hk, hb⟩ := ck_some hf
  exact ⟨hk, ct_of (by decide +kernel) rfl rfl (Nat.le_of_ble_eq_true rfl) (vb_X0_copy d hd a0 a1 M) (by rw [hb]; rfl)⟩
theorem dJ7_fill_53178_0 : decode cJ7_fill_53178 0 = .ok (.iconst 0, 1) := by decide +kernel
theorem dJ7_fill_53178_1 : decode cJ7_fill_53178 1 = .ok (.istore_n 2, 1) := by decide +kernel
theorem dJ7_fill_53178_2 : decode cJ7_fill_53178 2 = .ok (.aload_n 0, 1) := by decide +kernel
theorem dJ7_fill_53178_3 : decode cJ7_fill_53178 3 = .ok (.arraylength, 1) := by decide +kernel
theorem dJ7_fill_53178_4 : decode cJ7_fill_53178 4 = .ok (.istore_n 3, 1) := by decide +kernel
theorem dJ7_fill_53178_5 : decode cJ7_fill_53178 5 = .ok (.iload_n 2, 1) := by decide +kernel
theorem dJ7_fill_53178_6 : decode cJ7_fill_53178 6 = .ok (.iload_n 3, 1) := by decide +kernel
theorem dJ7_fill_53178_7 : decode cJ7_fill_53178 7 = .ok (.if_icmp .ge 13, 3) := by decide +kernel
theorem dJ7_fill_53178_10 : decode cJ7_fill_53178 10 = .ok (.aload_n 0, 1) := by decide +kernel
theorem dJ7_fill_53178_11 : decode cJ7_fill_53178 11 = .ok (.iload_n 2, 1) := by decide +kernel
theorem dJ7_fill_53178_12 : decode cJ7_fill_53178 12 = .ok (.iload_n 1, 1) := by decide +kernel
theorem dJ7_fill_53178_13 : decode cJ7_fill_53178 13 = .ok (.iastore, 1) := by decide +kernel
theorem dJ7_fill_53178_14 : decode cJ7_fill_53178 14 = .ok (.iinc 2 1, 3) := by decide +kernel
theorem dJ7_fill_53178_17 : decode cJ7_fill_53178 17 = .ok (.goto (-12), 3) := by decide +kernel
theorem dJ7_fill_53178_20 : decode cJ7_fill_53178 20 = .ok (.return_, 1) := by decide +kernel
noncomputable def s_J7_fill_53178_5 (a0 : Nat) (x1 : Int32) (v1 : Int32) (M2 : Me) (v3 : Int32) : Option ((Me × Int32) ⊕ (Me × Int32)) :=
  if v1 ≤ v3 then (
    some (Sum.inr (M2, v3))
  ) else (
    si M2 a0 v3 x1 fun M4 =>
    let_v (v3 + (1 : Int32)) fun v5 =>
    some (Sum.inl (M4, v5))
  )
noncomputable def b_J7_fill_53178 (a0 : Nat) (x1 : Int32) (M : Me) : Option (Me) :=
  al M a0 20 fun v1 =>
  (lp (fun s => s_J7_fill_53178_5 a0 x1 v1 s.1 s.2) (M, (0 : Int32))).bind fun e6 =>
  some e6.1
noncomputable def f_J7_fill_53178 (a0 : Nat) (x1 : Int32) (M : Me) : Option (Me) := b_J7_fill_53178 a0 x1 M
set_option maxRecDepth 20000 in
theorem vb_J7_fill_53178 (d : Nat) (hd : 0 ≤ d) (a0 : Nat) (x1 : Int32) (M : Me) : V (mJ7_fill_53178, d, 0, 0) (0, 0) M 0 [some (.ref a0), some (.int x1), none, none] [] (b_J7_fill_53178 a0 x1 M) (fun M2 => some (none, M2)) := by
  unfold b_J7_fill_53178
  refine v_iconst (q := 1) dJ7_fill_53178_0 rfl ic_0 ?_
  refine v_istore_n (q := 2) (loc2 := [some (.ref a0), some (.int x1), some (.int (0 : Int32)), none]) dJ7_fill_53178_1 rfl rfl rfl (Nat.le_of_ble_eq_true rfl) rfl ?_
  refine v_aload_n (q := 3) dJ7_fill_53178_2 rfl rfl rfl ?_
  refine v_alen (q := 4) (t0 := 0) dJ7_fill_53178_3 rfl (Nat.le_of_ble_eq_true rfl) (fun _ => rfl) (fun v1 => ?_)
  refine v_istore_n (q := 5) (loc2 := [some (.ref a0), some (.int x1), some (.int (0 : Int32)), some (.int v1)]) dJ7_fill_53178_4 rfl rfl rfl (Nat.le_of_ble_eq_true rfl) rfl ?_
  refine v_lps (S := Me × Int32) 20 (fun s => s.1) (fun s => [some (.ref a0), some (.int x1), some (.int s.2), some (.int v1)]) (fun e6 => e6.1) (fun e6 => [some (.ref a0), some (.int x1), some (.int e6.2), some (.int v1)]) (fun e6 => ?_) (fun k K hk hx s => ?_)
  · exact v_vret rfl dJ7_fill_53178_20 ⟨Nat.le_of_ble_eq_true rfl, Nat.le_of_ble_eq_true rfl⟩ rfl
  · obtain ⟨M2, v3⟩ := s
    show V _ _ M2 5 [some (.ref a0), some (.int x1), some (.int v3), some (.int v1)] [] (s_J7_fill_53178_5 a0 x1 v1 M2 v3) _
    unfold s_J7_fill_53178_5
    refine v_iload_n (q := 6) dJ7_fill_53178_5 rfl rfl rfl ?_
    refine v_iload_n (q := 7) dJ7_fill_53178_6 rfl rfl rfl ?_
    refine v_icmp_ge (tgt := 20) (q := 10) dJ7_fill_53178_7 rfl rfl ?_ ?_
    · exact v_inr (hx (M2, v3))
    · refine v_aload_n (q := 11) dJ7_fill_53178_10 rfl rfl rfl ?_
      refine v_iload_n (q := 12) dJ7_fill_53178_11 rfl rfl rfl ?_
      refine v_iload_n (q := 13) dJ7_fill_53178_12 rfl rfl rfl ?_
      refine v_iastore (q := 14) dJ7_fill_53178_13 rfl (fun M4 => ?_)
      refine v_iincL (q := 17) (x := v3) (cst := (1 : Int32)) (f := fun v5 => [some (.ref a0), some (.int x1), some (.int v5), some (.int v1)]) dJ7_fill_53178_14 rfl rfl ic_1 rfl (Nat.le_of_ble_eq_true rfl) (fun _ => rfl) (fun v5 => ?_)
      refine v_goto (tgt := 5) dJ7_fill_53178_17 rfl ?_
      exact v_inl (hk (M4, v5))
theorem ct_J7_fill_53178 (d : Nat) (hd : 0 ≤ d) (a0 : Nat) (x1 : Int32) (M : Me) (r : Me) (hf : f_J7_fill_53178 a0 x1 M = some r) : Ct yJ7_fill_53178 mJ7_fill_53178 d 0 0 [.ref a0, .int x1] M (none, r) := by
  have hb : b_J7_fill_53178 a0 x1 M = some r := hf
  exact ct_of (by decide +kernel) rfl rfl (Nat.le_of_ble_eq_true rfl) (vb_J7_fill_53178 d hd a0 x1 M) (by rw [hb]; rfl)
theorem dX4_leave_0 : decode cX4_leave 0 = .ok (.aload_n 0, 1) := by decide +kernel
theorem dX4_leave_1 : decode cX4_leave 1 = .ok (.iconst 0, 1) := by decide +kernel
theorem dX4_leave_2 : decode cX4_leave 2 = .ok (.putfield 9, 3) := by decide +kernel
theorem dX4_leave_5 : decode cX4_leave 5 = .ok (.return_, 1) := by decide +kernel
noncomputable def b_X4_leave (a0 : Nat) (M : Me) : Option (Me) :=
  pz M a0 4 0 (0 : Int32) fun M1 =>
  some M1
noncomputable def f_X4_leave (a0 : Nat) (M : Me) : Option (Me) := ck M a0 4 (b_X4_leave a0 M)
set_option maxRecDepth 20000 in
theorem vb_X4_leave (d : Nat) (hd : 0 ≤ d) (a0 : Nat) (M : Me) : V (mX4_leave, d, 0, 0) (0, 0) M 0 [some (.ref a0)] [] (b_X4_leave a0 M) (fun M2 => some (none, M2)) := by
  unfold b_X4_leave
  refine v_aload_n (q := 1) dX4_leave_0 rfl rfl rfl ?_
  refine v_iconst (q := 2) dX4_leave_1 rfl ic_0 ?_
  refine v_putZb (q := 5) dX4_leave_2 rfl fp_X4_9 (fun M1 => ?_)
  exact v_vret rfl dX4_leave_5 ⟨Nat.le_of_ble_eq_true rfl, Nat.le_of_ble_eq_true rfl⟩ rfl
theorem ct_X4_leave (d : Nat) (hd : 0 ≤ d) (a0 : Nat) (M : Me) (r : Me) (hf : f_X4_leave a0 M = some r) : me_k M a0 = some (4, nf_c 4) ∧ Ct yX4_leave mX4_leave d 0 0 [.ref a0] M (none, r) := by
  obtain ⟨hk, hb⟩ := ck_some hf
  exact ⟨hk, ct_of (by decide +kernel) rfl rfl (Nat.le_of_ble_eq_true rfl) (vb_X4_leave d hd a0 M) (by rw [hb]; rfl)⟩
theorem dX0_beginAnew_0 : decode cX0_beginAnew 0 = .ok (.aload_n 0, 1) := by decide +kernel
theorem dX0_beginAnew_1 : decode cX0_beginAnew 1 = .ok (.getfield 12, 3) := by decide +kernel
theorem dX0_beginAnew_4 : decode cX0_beginAnew 4 = .ok (.iload_n 1, 1) := by decide +kernel
theorem dX0_beginAnew_5 : decode cX0_beginAnew 5 = .ok (.putfield 60, 3) := by decide +kernel
theorem dX0_beginAnew_8 : decode cX0_beginAnew 8 = .ok (.aload_n 0, 1) := by decide +kernel
theorem dX0_beginAnew_9 : decode cX0_beginAnew 9 = .ok (.getfield 12, 3) := by decide +kernel
theorem dX0_beginAnew_12 : decode cX0_beginAnew 12 = .ok (.getfield 63, 3) := by decide +kernel
theorem dX0_beginAnew_15 : decode cX0_beginAnew 15 = .ok (.iconst 0, 1) := by decide +kernel
theorem dX0_beginAnew_16 : decode cX0_beginAnew 16 = .ok (.invokestatic 67, 3) := by decide +kernel
theorem dX0_beginAnew_19 : decode cX0_beginAnew 19 = .ok (.iconst 0, 1) := by decide +kernel
theorem dX0_beginAnew_20 : decode cX0_beginAnew 20 = .ok (.istore_n 2, 1) := by decide +kernel
theorem dX0_beginAnew_21 : decode cX0_beginAnew 21 = .ok (.iload_n 2, 1) := by decide +kernel
theorem dX0_beginAnew_22 : decode cX0_beginAnew 22 = .ok (.bipush 6, 2) := by decide +kernel
theorem dX0_beginAnew_24 : decode cX0_beginAnew 24 = .ok (.if_icmp .ge 18, 3) := by decide +kernel
theorem dX0_beginAnew_27 : decode cX0_beginAnew 27 = .ok (.aload_n 0, 1) := by decide +kernel
theorem dX0_beginAnew_28 : decode cX0_beginAnew 28 = .ok (.getfield 20, 3) := by decide +kernel
theorem dX0_beginAnew_31 : decode cX0_beginAnew 31 = .ok (.iload_n 2, 1) := by decide +kernel
theorem dX0_beginAnew_32 : decode cX0_beginAnew 32 = .ok (.aaload, 1) := by decide +kernel
theorem dX0_beginAnew_33 : decode cX0_beginAnew 33 = .ok (.invokevirtual 73, 3) := by decide +kernel
theorem dX0_beginAnew_36 : decode cX0_beginAnew 36 = .ok (.iinc 2 1, 3) := by decide +kernel
theorem dX0_beginAnew_39 : decode cX0_beginAnew 39 = .ok (.goto (-18), 3) := by decide +kernel
theorem dX0_beginAnew_42 : decode cX0_beginAnew 42 = .ok (.aload_n 0, 1) := by decide +kernel
theorem dX0_beginAnew_43 : decode cX0_beginAnew 43 = .ok (.getfield 27, 3) := by decide +kernel
theorem dX0_beginAnew_46 : decode cX0_beginAnew 46 = .ok (.iconst 0, 1) := by decide +kernel
theorem dX0_beginAnew_47 : decode cX0_beginAnew 47 = .ok (.putfield 76, 3) := by decide +kernel
theorem dX0_beginAnew_50 : decode cX0_beginAnew 50 = .ok (.aload_n 0, 1) := by decide +kernel
theorem dX0_beginAnew_51 : decode cX0_beginAnew 51 = .ok (.getfield 34, 3) := by decide +kernel
theorem dX0_beginAnew_54 : decode cX0_beginAnew 54 = .ok (.iconst 0, 1) := by decide +kernel
theorem dX0_beginAnew_55 : decode cX0_beginAnew 55 = .ok (.putfield 79, 3) := by decide +kernel
theorem dX0_beginAnew_58 : decode cX0_beginAnew 58 = .ok (.aload_n 0, 1) := by decide +kernel
theorem dX0_beginAnew_59 : decode cX0_beginAnew 59 = .ok (.iconst 0, 1) := by decide +kernel
theorem dX0_beginAnew_60 : decode cX0_beginAnew 60 = .ok (.putfield 56, 3) := by decide +kernel
theorem dX0_beginAnew_63 : decode cX0_beginAnew 63 = .ok (.return_, 1) := by decide +kernel
noncomputable def s_X0_beginAnew_21 (a0 : Nat) (M6 : Me) (v7 : Int32) : Option ((Me × Int32) ⊕ (Me × Int32)) :=
  if (6 : Int32) ≤ v7 then (
    some (Sum.inr (M6, v7))
  ) else (
    gr M6 a0 0 1 fun o8 =>
    lr M6 o8 22 v7 fun o9 =>
    cM (f_X4_leave o9 M6) fun M10 =>
    let_v (v7 + (1 : Int32)) fun v11 =>
    some (Sum.inl (M10, v11))
  )
noncomputable def b_X0_beginAnew (a0 : Nat) (x1 : Int32) (M : Me) : Option (Me) :=
  gr M a0 0 0 fun o1 =>
  pi M o1 5 0 x1 fun M2 =>
  gr M2 a0 0 0 fun o3 =>
  gr M2 o3 5 2 fun o4 =>
  cM (f_J7_fill_53178 o4 (0 : Int32) M2) fun M5 =>
  (lp (fun s => s_X0_beginAnew_21 a0 s.1 s.2) (M5, (0 : Int32))).bind fun e12 =>
  gr e12.1 a0 0 2 fun o13 =>
  pi e12.1 o13 2 0 (0 : Int32) fun M14 =>
  gr M14 a0 0 3 fun o15 =>
  pi M14 o15 9 0 (0 : Int32) fun M16 =>
  pi M16 a0 0 5 (0 : Int32) fun M17 =>
  some M17
noncomputable def f_X0_beginAnew (a0 : Nat) (x1 : Int32) (M : Me) : Option (Me) := ck M a0 0 (b_X0_beginAnew a0 x1 M)
set_option maxRecDepth 20000 in
theorem vb_X0_beginAnew (d : Nat) (hd : 1 ≤ d) (a0 : Nat) (x1 : Int32) (M : Me) : V (mX0_beginAnew, d, 0, 0) (0, 0) M 0 [some (.ref a0), some (.int x1), none] [] (b_X0_beginAnew a0 x1 M) (fun M2 => some (none, M2)) := by
  unfold b_X0_beginAnew
  refine v_aload_n (q := 1) dX0_beginAnew_0 rfl rfl rfl ?_
  refine v_getRb (q := 4) dX0_beginAnew_1 rfl fg_X0_12 (fun o1 => ?_)
  refine v_iload_n (q := 5) dX0_beginAnew_4 rfl rfl rfl ?_
  refine v_putIb (q := 8) dX0_beginAnew_5 rfl fp_X0_60 (fun M2 => ?_)
  refine v_aload_n (q := 9) dX0_beginAnew_8 rfl rfl rfl ?_
  refine v_getRb (q := 12) dX0_beginAnew_9 rfl fg_X0_12 (fun o3 => ?_)
  refine v_getRb (q := 15) dX0_beginAnew_12 rfl fg_X0_63 (fun o4 => ?_)
  refine v_iconst (q := 16) dX0_beginAnew_15 rfl ic_0 ?_
  refine v_cMS2 (q := 19) (ct_J7_fill_53178 (d - 1) (by omega) _ _ _) dX0_beginAnew_16 rfl cc_X0_67 (by omega) (Nat.le_of_ble_eq_true rfl) ⟨Nat.le_of_ble_eq_true rfl, Nat.le_of_ble_eq_true rfl⟩ (fun M5 => ?_)
  refine v_iconst (q := 20) dX0_beginAnew_19 rfl ic_0 ?_
  refine v_istore_n (q := 21) (loc2 := [some (.ref a0), some (.int x1), some (.int (0 : Int32))]) dX0_beginAnew_20 rfl rfl rfl (Nat.le_of_ble_eq_true rfl) rfl ?_
  refine v_lps (S := Me × Int32) 42 (fun s => s.1) (fun s => [some (.ref a0), some (.int x1), some (.int s.2)]) (fun e12 => e12.1) (fun e12 => [some (.ref a0), some (.int x1), some (.int e12.2)]) (fun e12 => ?_) (fun k K hk hx s => ?_)
  · refine v_aload_n (q := 43) dX0_beginAnew_42 rfl rfl rfl ?_
    refine v_getRb (q := 46) dX0_beginAnew_43 rfl fg_X0_27 (fun o13 => ?_)
    refine v_iconst (q := 47) dX0_beginAnew_46 rfl ic_0 ?_
    refine v_putIb (q := 50) dX0_beginAnew_47 rfl fp_X0_76 (fun M14 => ?_)
    refine v_aload_n (q := 51) dX0_beginAnew_50 rfl rfl rfl ?_
    refine v_getRb (q := 54) dX0_beginAnew_51 rfl fg_X0_34 (fun o15 => ?_)
    refine v_iconst (q := 55) dX0_beginAnew_54 rfl ic_0 ?_
    refine v_putIb (q := 58) dX0_beginAnew_55 rfl fp_X0_79 (fun M16 => ?_)
    refine v_aload_n (q := 59) dX0_beginAnew_58 rfl rfl rfl ?_
    refine v_iconst (q := 60) dX0_beginAnew_59 rfl ic_0 ?_
    refine v_putIb (q := 63) dX0_beginAnew_60 rfl fp_X0_56 (fun M17 => ?_)
    exact v_vret rfl dX0_beginAnew_63 ⟨Nat.le_of_ble_eq_true rfl, Nat.le_of_ble_eq_true rfl⟩ rfl
  · obtain ⟨M6, v7⟩ := s
    show V _ _ M6 21 [some (.ref a0), some (.int x1), some (.int v7)] [] (s_X0_beginAnew_21 a0 M6 v7) _
    unfold s_X0_beginAnew_21
    refine v_iload_n (q := 22) dX0_beginAnew_21 rfl rfl rfl ?_
    refine v_bipush (q := 24) dX0_beginAnew_22 rfl bp_6 ?_
    refine v_icmp_ge (tgt := 42) (q := 27) dX0_beginAnew_24 rfl rfl ?_ ?_
    · exact v_inr (hx (M6, v7))
    · refine v_aload_n (q := 28) dX0_beginAnew_27 rfl rfl rfl ?_
      refine v_getRb (q := 31) dX0_beginAnew_28 rfl fg_X0_20 (fun o8 => ?_)
      refine v_iload_n (q := 32) dX0_beginAnew_31 rfl rfl rfl ?_
      refine v_aaload (q := 33) (t0 := 2) dX0_beginAnew_32 rfl (Nat.le_of_ble_eq_true rfl) (fun _ => rfl) (fun o9 => ?_)
      refine v_cMV0 (q := 36) (ct_X4_leave (d - 1) (by omega) _ _) dX0_beginAnew_33 rfl cc_X0_73 (by omega) (Nat.le_of_ble_eq_true rfl) ⟨Nat.le_of_ble_eq_true rfl, Nat.le_of_ble_eq_true rfl⟩ (fun M10 => ?_)
      refine v_iincL (q := 39) (x := v7) (cst := (1 : Int32)) (f := fun v11 => [some (.ref a0), some (.int x1), some (.int v11)]) dX0_beginAnew_36 rfl rfl ic_1 rfl (Nat.le_of_ble_eq_true rfl) (fun _ => rfl) (fun v11 => ?_)
      refine v_goto (tgt := 21) dX0_beginAnew_39 rfl ?_
      exact v_inl (hk (M10, v11))
theorem ct_X0_beginAnew (d : Nat) (hd : 1 ≤ d) (a0 : Nat) (x1 : Int32) (M : Me) (r : Me) (hf : f_X0_beginAnew a0 x1 M = some r) : me_k M a0 = some (0, nf_c 0) ∧ Ct yX0_beginAnew mX0_beginAnew d 0 0 [.ref a0, .int x1] M (none, r) := by
  obtain ⟨hk, hb⟩ := ck_some hf
  exact ⟨hk, ct_of (by decide +kernel) rfl rfl (Nat.le_of_ble_eq_true rfl) (vb_X0_beginAnew d hd a0 x1 M) (by rw [hb]; rfl)⟩
theorem dX0_knightAt_0 : decode cX0_knightAt 0 = .ok (.iload_n 1, 1) := by decide +kernel
theorem dX0_knightAt_1 : decode cX0_knightAt 1 = .ok (.ifCond .lt 18, 3) := by decide +kernel
theorem dX0_knightAt_4 : decode cX0_knightAt 4 = .ok (.iload_n 1, 1) := by decide +kernel
theorem dX0_knightAt_5 : decode cX0_knightAt 5 = .ok (.bipush 6, 2) := by decide +kernel
theorem dX0_knightAt_7 : decode cX0_knightAt 7 = .ok (.if_icmp .ge 12, 3) := by decide +kernel
theorem dX0_knightAt_10 : decode cX0_knightAt 10 = .ok (.aload_n 0, 1) := by decide +kernel
theorem dX0_knightAt_11 : decode cX0_knightAt 11 = .ok (.getfield 20, 3) := by decide +kernel
theorem dX0_knightAt_14 : decode cX0_knightAt 14 = .ok (.iload_n 1, 1) := by decide +kernel
theorem dX0_knightAt_15 : decode cX0_knightAt 15 = .ok (.aaload, 1) := by decide +kernel
theorem dX0_knightAt_16 : decode cX0_knightAt 16 = .ok (.goto 7, 3) := by decide +kernel
theorem dX0_knightAt_19 : decode cX0_knightAt 19 = .ok (.aload_n 0, 1) := by decide +kernel
theorem dX0_knightAt_20 : decode cX0_knightAt 20 = .ok (.getfield 39, 3) := by decide +kernel
theorem dX0_knightAt_23 : decode cX0_knightAt 23 = .ok (.areturn, 1) := by decide +kernel
noncomputable def b_X0_knightAt (a0 : Nat) (x1 : Int32) (M : Me) : Option (Nat) :=
  (
    if x1 < 0 then (
      gr M a0 0 4 fun o1 =>
      some o1
    ) else (
      if (6 : Int32) ≤ x1 then (
        gr M a0 0 4 fun o2 =>
        some o2
      ) else (
        gr M a0 0 1 fun o3 =>
        lr M o3 22 x1 fun o4 =>
        some o4
      )
    )
  ).bind fun o5 =>
  some o5
noncomputable def f_X0_knightAt (a0 : Nat) (x1 : Int32) (M : Me) : Option (Nat) := ck M a0 0 (b_X0_knightAt a0 x1 M)
set_option maxRecDepth 20000 in
theorem vb_X0_knightAt (d : Nat) (hd : 0 ≤ d) (a0 : Nat) (x1 : Int32) (M : Me) : V (mX0_knightAt, d, 0, 0) (0, 0) M 0 [some (.ref a0), some (.int x1)] [] (b_X0_knightAt a0 x1 M) (fun z => some (some (.ref z), M)) := by
  unfold b_X0_knightAt
  refine v_iload_n (q := 1) dX0_knightAt_0 rfl rfl rfl ?_
  refine v_join (γ := Nat) 23 (fun o5 => M) (fun o5 => [some (.ref a0), some (.int x1)]) (fun o5 => [.ref o5]) (fun K hK => ?_) (fun o5 => ?_)
  · refine v_if_lt (tgt := 19) (q := 4) dX0_knightAt_1 rfl rfl ?_ ?_
    · refine v_aload_n (q := 20) dX0_knightAt_19 rfl rfl rfl ?_
      refine v_getRb (q := 23) dX0_knightAt_20 rfl fg_X0_39 (fun o1 => ?_)
      exact hK o1
    · refine v_iload_n (q := 5) dX0_knightAt_4 rfl rfl rfl ?_
      refine v_bipush (q := 7) dX0_knightAt_5 rfl bp_6 ?_
      refine v_icmp_ge (tgt := 19) (q := 10) dX0_knightAt_7 rfl rfl ?_ ?_
      · refine v_aload_n (q := 20) dX0_knightAt_19 rfl rfl rfl ?_
        refine v_getRb (q := 23) dX0_knightAt_20 rfl fg_X0_39 (fun o2 => ?_)
        exact hK o2
      · refine v_aload_n (q := 11) dX0_knightAt_10 rfl rfl rfl ?_
        refine v_getRb (q := 14) dX0_knightAt_11 rfl fg_X0_20 (fun o3 => ?_)
        refine v_iload_n (q := 15) dX0_knightAt_14 rfl rfl rfl ?_
        refine v_aaload (q := 16) (t0 := 2) dX0_knightAt_15 rfl (Nat.le_of_ble_eq_true rfl) (fun _ => rfl) (fun o4 => ?_)
        refine v_goto (tgt := 23) dX0_knightAt_16 rfl ?_
        exact hK o4
  · exact v_aret rfl dX0_knightAt_23 ⟨Nat.le_of_ble_eq_true rfl, Nat.le_of_ble_eq_true rfl⟩ rfl
theorem ct_X0_knightAt (d : Nat) (hd : 0 ≤ d) (a0 : Nat) (x1 : Int32) (M : Me) (r : Nat) (hf : f_X0_knightAt a0 x1 M = some r) : me_k M a0 = some (0, nf_c 0) ∧ Ct yX0_knightAt mX0_knightAt d 0 0 [.ref a0, .int x1] M (some (.ref r), M) := by
  obtain ⟨hk, hb⟩ := ck_some hf
  exact ⟨hk, ct_of (by decide +kernel) rfl rfl (Nat.le_of_ble_eq_true rfl) (vb_X0_knightAt d hd a0 x1 M) (by rw [hb]; rfl)⟩
theorem dX0_knightBits_0 : decode cX0_knightBits 0 = .ok (.iconst 0, 1) := by decide +kernel
theorem dX0_knightBits_1 : decode cX0_knightBits 1 = .ok (.istore_n 1, 1) := by decide +kernel
theorem dX0_knightBits_2 : decode cX0_knightBits 2 = .ok (.iconst 0, 1) := by decide +kernel
theorem dX0_knightBits_3 : decode cX0_knightBits 3 = .ok (.istore_n 2, 1) := by decide +kernel
theorem dX0_knightBits_4 : decode cX0_knightBits 4 = .ok (.iload_n 2, 1) := by decide +kernel
theorem dX0_knightBits_5 : decode cX0_knightBits 5 = .ok (.bipush 6, 2) := by decide +kernel
theorem dX0_knightBits_7 : decode cX0_knightBits 7 = .ok (.if_icmp .ge 31, 3) := by decide +kernel
theorem dX0_knightBits_10 : decode cX0_knightBits 10 = .ok (.iload_n 1, 1) := by decide +kernel
theorem dX0_knightBits_11 : decode cX0_knightBits 11 = .ok (.aload_n 0, 1) := by decide +kernel
theorem dX0_knightBits_12 : decode cX0_knightBits 12 = .ok (.getfield 20, 3) := by decide +kernel
theorem dX0_knightBits_15 : decode cX0_knightBits 15 = .ok (.iload_n 2, 1) := by decide +kernel
theorem dX0_knightBits_16 : decode cX0_knightBits 16 = .ok (.aaload, 1) := by decide +kernel
theorem dX0_knightBits_17 : decode cX0_knightBits 17 = .ok (.getfield 80, 3) := by decide +kernel
theorem dX0_knightBits_20 : decode cX0_knightBits 20 = .ok (.ifCond .eq 9, 3) := by decide +kernel
theorem dX0_knightBits_23 : decode cX0_knightBits 23 = .ok (.iconst 1, 1) := by decide +kernel
theorem dX0_knightBits_24 : decode cX0_knightBits 24 = .ok (.iload_n 2, 1) := by decide +kernel
theorem dX0_knightBits_25 : decode cX0_knightBits 25 = .ok (.ishl, 1) := by decide +kernel
theorem dX0_knightBits_26 : decode cX0_knightBits 26 = .ok (.goto 4, 3) := by decide +kernel
theorem dX0_knightBits_29 : decode cX0_knightBits 29 = .ok (.iconst 0, 1) := by decide +kernel
theorem dX0_knightBits_30 : decode cX0_knightBits 30 = .ok (.ior, 1) := by decide +kernel
theorem dX0_knightBits_31 : decode cX0_knightBits 31 = .ok (.istore_n 1, 1) := by decide +kernel
theorem dX0_knightBits_32 : decode cX0_knightBits 32 = .ok (.iinc 2 1, 3) := by decide +kernel
theorem dX0_knightBits_35 : decode cX0_knightBits 35 = .ok (.goto (-31), 3) := by decide +kernel
theorem dX0_knightBits_38 : decode cX0_knightBits 38 = .ok (.iload_n 1, 1) := by decide +kernel
theorem dX0_knightBits_39 : decode cX0_knightBits 39 = .ok (.ireturn, 1) := by decide +kernel
noncomputable def s_X0_knightBits_4 (a0 : Nat) (M : Me) (v1 : Int32) (v2 : Int32) : Option ((Int32 × Int32) ⊕ (Int32 × Int32)) :=
  if (6 : Int32) ≤ v2 then (
    some (Sum.inr (v1, v2))
  ) else (
    gr M a0 0 1 fun o3 =>
    lr M o3 22 v2 fun o4 =>
    gi M o4 4 0 fun v5 =>
    (
      if v5 = 0 then (
        some (0 : Int32)
      ) else (
        some ((1 : Int32) <<< (v2 &&& 31))
      )
    ).bind fun v6 =>
    let_v ((v1 ||| v6)) fun v7 =>
    let_v (v2 + (1 : Int32)) fun v8 =>
    some (Sum.inl (v7, v8))
  )
noncomputable def b_X0_knightBits (a0 : Nat) (M : Me) : Option (Int32) :=
  (lp (fun s => s_X0_knightBits_4 a0 M s.1 s.2) ((0 : Int32), (0 : Int32))).bind fun e9 =>
  some e9.1
noncomputable def f_X0_knightBits (a0 : Nat) (M : Me) : Option (Int32) := ck M a0 0 (b_X0_knightBits a0 M)
set_option maxRecDepth 20000 in
theorem vb_X0_knightBits (d : Nat) (hd : 0 ≤ d) (a0 : Nat) (M : Me) : V (mX0_knightBits, d, 0, 0) (0, 0) M 0 [some (.ref a0), none, none] [] (b_X0_knightBits a0 M) (fun z => some (some (.int z), M)) := by
  unfold b_X0_knightBits
  refine v_iconst (q := 1) dX0_knightBits_0 rfl ic_0 ?_
  refine v_istore_n (q := 2) (loc2 := [some (.ref a0), some (.int (0 : Int32)), none]) dX0_knightBits_1 rfl rfl rfl (Nat.le_of_ble_eq_true rfl) rfl ?_
  refine v_iconst (q := 3) dX0_knightBits_2 rfl ic_0 ?_
  refine v_istore_n (q := 4) (loc2 := [some (.ref a0), some (.int (0 : Int32)), some (.int (0 : Int32))]) dX0_knightBits_3 rfl rfl rfl (Nat.le_of_ble_eq_true rfl) rfl ?_
  refine v_lps (S := Int32 × Int32) 38 (fun s => M) (fun s => [some (.ref a0), some (.int s.1), some (.int s.2)]) (fun e9 => M) (fun e9 => [some (.ref a0), some (.int e9.1), some (.int e9.2)]) (fun e9 => ?_) (fun k K hk hx s => ?_)
  · refine v_iload_n (q := 39) dX0_knightBits_38 rfl rfl rfl ?_
    exact v_iret rfl dX0_knightBits_39 ⟨Nat.le_of_ble_eq_true rfl, Nat.le_of_ble_eq_true rfl⟩ rfl
  · obtain ⟨v1, v2⟩ := s
    show V _ _ M 4 [some (.ref a0), some (.int v1), some (.int v2)] [] (s_X0_knightBits_4 a0 M v1 v2) _
    unfold s_X0_knightBits_4
    refine v_iload_n (q := 5) dX0_knightBits_4 rfl rfl rfl ?_
    refine v_bipush (q := 7) dX0_knightBits_5 rfl bp_6 ?_
    refine v_icmp_ge (tgt := 38) (q := 10) dX0_knightBits_7 rfl rfl ?_ ?_
    · exact v_inr (hx (v1, v2))
    · refine v_iload_n (q := 11) dX0_knightBits_10 rfl rfl rfl ?_
      refine v_aload_n (q := 12) dX0_knightBits_11 rfl rfl rfl ?_
      refine v_getRb (q := 15) dX0_knightBits_12 rfl fg_X0_20 (fun o3 => ?_)
      refine v_iload_n (q := 16) dX0_knightBits_15 rfl rfl rfl ?_
      refine v_aaload (q := 17) (t0 := 2) dX0_knightBits_16 rfl (Nat.le_of_ble_eq_true rfl) (fun _ => rfl) (fun o4 => ?_)
      refine v_getIb (q := 20) dX0_knightBits_17 rfl fg_X0_80 (fun v5 => ?_)
      refine v_join (γ := Int32) 30 (fun v6 => M) (fun v6 => [some (.ref a0), some (.int v1), some (.int v2)]) (fun v6 => [.int v6, .int v1]) (fun K hK => ?_) (fun v6 => ?_)
      · refine v_if_eq (tgt := 29) (q := 23) dX0_knightBits_20 rfl rfl ?_ ?_
        · refine v_iconst (q := 30) dX0_knightBits_29 rfl ic_0 ?_
          exact hK (0 : Int32)
        · refine v_iconst (q := 24) dX0_knightBits_23 rfl ic_1 ?_
          refine v_iload_n (q := 25) dX0_knightBits_24 rfl rfl rfl ?_
          refine v_ishl (q := 26) dX0_knightBits_25 rfl ?_
          refine v_goto (tgt := 30) dX0_knightBits_26 rfl ?_
          exact hK ((1 : Int32) <<< (v2 &&& 31))
      · refine v_ior (q := 31) dX0_knightBits_30 rfl ?_
        refine v_letI (fun v7 => ?_)
        refine v_istore_n (q := 32) (loc2 := [some (.ref a0), some (.int v7), some (.int v2)]) dX0_knightBits_31 rfl rfl rfl (Nat.le_of_ble_eq_true rfl) rfl ?_
        refine v_iincL (q := 35) (x := v2) (cst := (1 : Int32)) (f := fun v8 => [some (.ref a0), some (.int v7), some (.int v8)]) dX0_knightBits_32 rfl rfl ic_1 rfl (Nat.le_of_ble_eq_true rfl) (fun _ => rfl) (fun v8 => ?_)
        refine v_goto (tgt := 4) dX0_knightBits_35 rfl ?_
        exact v_inl (hk (v7, v8))
theorem ct_X0_knightBits (d : Nat) (hd : 0 ≤ d) (a0 : Nat) (M : Me) (r : Int32) (hf : f_X0_knightBits a0 M = some r) : me_k M a0 = some (0, nf_c 0) ∧ Ct yX0_knightBits mX0_knightBits d 0 0 [.ref a0] M (some (.int r), M) := by
  obtain ⟨hk, hb⟩ := ck_some hf
  exact ⟨hk, ct_of (by decide +kernel) rfl rfl (Nat.le_of_ble_eq_true rfl) (vb_X0_knightBits d hd a0 M) (by rw [hb]; rfl)⟩
theorem dJ6_bitCount_0f7a4_0 : decode cJ6_bitCount_0f7a4 0 = .ok (.iload_n 0, 1) := by decide +kernel
theorem dJ6_bitCount_0f7a4_1 : decode cJ6_bitCount_0f7a4 1 = .ok (.iload_n 0, 1) := by decide +kernel
theorem dJ6_bitCount_0f7a4_2 : decode cJ6_bitCount_0f7a4 2 = .ok (.iconst 1, 1) := by decide +kernel
theorem dJ6_bitCount_0f7a4_3 : decode cJ6_bitCount_0f7a4 3 = .ok (.iushr, 1) := by decide +kernel
theorem dJ6_bitCount_0f7a4_4 : decode cJ6_bitCount_0f7a4 4 = .ok (.ldc_w 265, 3) := by decide +kernel
theorem dJ6_bitCount_0f7a4_7 : decode cJ6_bitCount_0f7a4 7 = .ok (.iand, 1) := by decide +kernel
theorem dJ6_bitCount_0f7a4_8 : decode cJ6_bitCount_0f7a4 8 = .ok (.isub, 1) := by decide +kernel
theorem dJ6_bitCount_0f7a4_9 : decode cJ6_bitCount_0f7a4 9 = .ok (.istore_n 0, 1) := by decide +kernel
theorem dJ6_bitCount_0f7a4_10 : decode cJ6_bitCount_0f7a4 10 = .ok (.iload_n 0, 1) := by decide +kernel
theorem dJ6_bitCount_0f7a4_11 : decode cJ6_bitCount_0f7a4 11 = .ok (.ldc_w 266, 3) := by decide +kernel
theorem dJ6_bitCount_0f7a4_14 : decode cJ6_bitCount_0f7a4 14 = .ok (.iand, 1) := by decide +kernel
theorem dJ6_bitCount_0f7a4_15 : decode cJ6_bitCount_0f7a4 15 = .ok (.iload_n 0, 1) := by decide +kernel
theorem dJ6_bitCount_0f7a4_16 : decode cJ6_bitCount_0f7a4 16 = .ok (.iconst 2, 1) := by decide +kernel
theorem dJ6_bitCount_0f7a4_17 : decode cJ6_bitCount_0f7a4 17 = .ok (.iushr, 1) := by decide +kernel
theorem dJ6_bitCount_0f7a4_18 : decode cJ6_bitCount_0f7a4 18 = .ok (.ldc_w 266, 3) := by decide +kernel
theorem dJ6_bitCount_0f7a4_21 : decode cJ6_bitCount_0f7a4 21 = .ok (.iand, 1) := by decide +kernel
theorem dJ6_bitCount_0f7a4_22 : decode cJ6_bitCount_0f7a4 22 = .ok (.iadd, 1) := by decide +kernel
theorem dJ6_bitCount_0f7a4_23 : decode cJ6_bitCount_0f7a4 23 = .ok (.istore_n 0, 1) := by decide +kernel
theorem dJ6_bitCount_0f7a4_24 : decode cJ6_bitCount_0f7a4 24 = .ok (.iload_n 0, 1) := by decide +kernel
theorem dJ6_bitCount_0f7a4_25 : decode cJ6_bitCount_0f7a4 25 = .ok (.iload_n 0, 1) := by decide +kernel
theorem dJ6_bitCount_0f7a4_26 : decode cJ6_bitCount_0f7a4 26 = .ok (.iconst 4, 1) := by decide +kernel
theorem dJ6_bitCount_0f7a4_27 : decode cJ6_bitCount_0f7a4 27 = .ok (.iushr, 1) := by decide +kernel
theorem dJ6_bitCount_0f7a4_28 : decode cJ6_bitCount_0f7a4 28 = .ok (.iadd, 1) := by decide +kernel
theorem dJ6_bitCount_0f7a4_29 : decode cJ6_bitCount_0f7a4 29 = .ok (.ldc_w 267, 3) := by decide +kernel
theorem dJ6_bitCount_0f7a4_32 : decode cJ6_bitCount_0f7a4 32 = .ok (.iand, 1) := by decide +kernel
theorem dJ6_bitCount_0f7a4_33 : decode cJ6_bitCount_0f7a4 33 = .ok (.istore_n 0, 1) := by decide +kernel
theorem dJ6_bitCount_0f7a4_34 : decode cJ6_bitCount_0f7a4 34 = .ok (.iload_n 0, 1) := by decide +kernel
theorem dJ6_bitCount_0f7a4_35 : decode cJ6_bitCount_0f7a4 35 = .ok (.iload_n 0, 1) := by decide +kernel
theorem dJ6_bitCount_0f7a4_36 : decode cJ6_bitCount_0f7a4 36 = .ok (.bipush 8, 2) := by decide +kernel
theorem dJ6_bitCount_0f7a4_38 : decode cJ6_bitCount_0f7a4 38 = .ok (.iushr, 1) := by decide +kernel
theorem dJ6_bitCount_0f7a4_39 : decode cJ6_bitCount_0f7a4 39 = .ok (.iadd, 1) := by decide +kernel
theorem dJ6_bitCount_0f7a4_40 : decode cJ6_bitCount_0f7a4 40 = .ok (.istore_n 0, 1) := by decide +kernel
theorem dJ6_bitCount_0f7a4_41 : decode cJ6_bitCount_0f7a4 41 = .ok (.iload_n 0, 1) := by decide +kernel
theorem dJ6_bitCount_0f7a4_42 : decode cJ6_bitCount_0f7a4 42 = .ok (.iload_n 0, 1) := by decide +kernel
theorem dJ6_bitCount_0f7a4_43 : decode cJ6_bitCount_0f7a4 43 = .ok (.bipush 16, 2) := by decide +kernel
theorem dJ6_bitCount_0f7a4_45 : decode cJ6_bitCount_0f7a4 45 = .ok (.iushr, 1) := by decide +kernel
theorem dJ6_bitCount_0f7a4_46 : decode cJ6_bitCount_0f7a4 46 = .ok (.iadd, 1) := by decide +kernel
theorem dJ6_bitCount_0f7a4_47 : decode cJ6_bitCount_0f7a4 47 = .ok (.istore_n 0, 1) := by decide +kernel
theorem dJ6_bitCount_0f7a4_48 : decode cJ6_bitCount_0f7a4 48 = .ok (.iload_n 0, 1) := by decide +kernel
theorem dJ6_bitCount_0f7a4_49 : decode cJ6_bitCount_0f7a4 49 = .ok (.bipush 63, 2) := by decide +kernel
theorem dJ6_bitCount_0f7a4_51 : decode cJ6_bitCount_0f7a4 51 = .ok (.iand, 1) := by decide +kernel
theorem dJ6_bitCount_0f7a4_52 : decode cJ6_bitCount_0f7a4 52 = .ok (.ireturn, 1) := by decide +kernel
noncomputable def b_J6_bitCount_0f7a4 (x0 : Int32) (M : Me) : Option (Int32) :=
  let_v ((x0 - (((x0.toUInt32 >>> ((1 : Int32).toUInt32 &&& Int32.toUInt32 31)).toInt32) &&& (1431655765 : Int32)))) fun v1 =>
  let_v (((v1 &&& (858993459 : Int32)) + (((v1.toUInt32 >>> ((2 : Int32).toUInt32 &&& Int32.toUInt32 31)).toInt32) &&& (858993459 : Int32)))) fun v2 =>
  let_v (((v2 + ((v2.toUInt32 >>> ((4 : Int32).toUInt32 &&& Int32.toUInt32 31)).toInt32)) &&& (252645135 : Int32))) fun v3 =>
  let_v ((v3 + ((v3.toUInt32 >>> ((8 : Int32).toUInt32 &&& Int32.toUInt32 31)).toInt32))) fun v4 =>
  let_v ((v4 + ((v4.toUInt32 >>> ((16 : Int32).toUInt32 &&& Int32.toUInt32 31)).toInt32))) fun v5 =>
  some (v5 &&& (63 : Int32))
noncomputable def f_J6_bitCount_0f7a4 (x0 : Int32) (M : Me) : Option (Int32) := b_J6_bitCount_0f7a4 x0 M
set_option maxRecDepth 20000 in
theorem vb_J6_bitCount_0f7a4 (d : Nat) (hd : 0 ≤ d) (x0 : Int32) (M : Me) : V (mJ6_bitCount_0f7a4, d, 0, 0) (0, 0) M 0 [some (.int x0)] [] (b_J6_bitCount_0f7a4 x0 M) (fun z => some (some (.int z), M)) := by
  unfold b_J6_bitCount_0f7a4
  refine v_iload_n (q := 1) dJ6_bitCount_0f7a4_0 rfl rfl rfl ?_
  refine v_iload_n (q := 2) dJ6_bitCount_0f7a4_1 rfl rfl rfl ?_
  refine v_iconst (q := 3) dJ6_bitCount_0f7a4_2 rfl ic_1 ?_
  refine v_iushr (q := 4) dJ6_bitCount_0f7a4_3 rfl ?_
  refine v_ldcw (q := 7) (v := (1431655765 : Int32)) kc_J6_265 dJ6_bitCount_0f7a4_4 rfl ?_
  refine v_iand (q := 8) dJ6_bitCount_0f7a4_7 rfl ?_
  refine v_isub (q := 9) dJ6_bitCount_0f7a4_8 rfl ?_
  refine v_letI (fun v1 => ?_)
  refine v_istore_n (q := 10) (loc2 := [some (.int v1)]) dJ6_bitCount_0f7a4_9 rfl rfl rfl (Nat.le_of_ble_eq_true rfl) rfl ?_
  refine v_iload_n (q := 11) dJ6_bitCount_0f7a4_10 rfl rfl rfl ?_
  refine v_ldcw (q := 14) (v := (858993459 : Int32)) kc_J6_266 dJ6_bitCount_0f7a4_11 rfl ?_
  refine v_iand (q := 15) dJ6_bitCount_0f7a4_14 rfl ?_
  refine v_iload_n (q := 16) dJ6_bitCount_0f7a4_15 rfl rfl rfl ?_
  refine v_iconst (q := 17) dJ6_bitCount_0f7a4_16 rfl ic_2 ?_
  refine v_iushr (q := 18) dJ6_bitCount_0f7a4_17 rfl ?_
  refine v_ldcw (q := 21) (v := (858993459 : Int32)) kc_J6_266 dJ6_bitCount_0f7a4_18 rfl ?_
  refine v_iand (q := 22) dJ6_bitCount_0f7a4_21 rfl ?_
  refine v_iadd (q := 23) dJ6_bitCount_0f7a4_22 rfl ?_
  refine v_letI (fun v2 => ?_)
  refine v_istore_n (q := 24) (loc2 := [some (.int v2)]) dJ6_bitCount_0f7a4_23 rfl rfl rfl (Nat.le_of_ble_eq_true rfl) rfl ?_
  refine v_iload_n (q := 25) dJ6_bitCount_0f7a4_24 rfl rfl rfl ?_
  refine v_iload_n (q := 26) dJ6_bitCount_0f7a4_25 rfl rfl rfl ?_
  refine v_iconst (q := 27) dJ6_bitCount_0f7a4_26 rfl ic_4 ?_
  refine v_iushr (q := 28) dJ6_bitCount_0f7a4_27 rfl ?_
  refine v_iadd (q := 29) dJ6_bitCount_0f7a4_28 rfl ?_
  refine v_ldcw (q := 32) (v := (252645135 : Int32)) kc_J6_267 dJ6_bitCount_0f7a4_29 rfl ?_
  refine v_iand (q := 33) dJ6_bitCount_0f7a4_32 rfl ?_
  refine v_letI (fun v3 => ?_)
  refine v_istore_n (q := 34) (loc2 := [some (.int v3)]) dJ6_bitCount_0f7a4_33 rfl rfl rfl (Nat.le_of_ble_eq_true rfl) rfl ?_
  refine v_iload_n (q := 35) dJ6_bitCount_0f7a4_34 rfl rfl rfl ?_
  refine v_iload_n (q := 36) dJ6_bitCount_0f7a4_35 rfl rfl rfl ?_
  refine v_bipush (q := 38) dJ6_bitCount_0f7a4_36 rfl bp_8 ?_
  refine v_iushr (q := 39) dJ6_bitCount_0f7a4_38 rfl ?_
  refine v_iadd (q := 40) dJ6_bitCount_0f7a4_39 rfl ?_
  refine v_letI (fun v4 => ?_)
  refine v_istore_n (q := 41) (loc2 := [some (.int v4)]) dJ6_bitCount_0f7a4_40 rfl rfl rfl (Nat.le_of_ble_eq_true rfl) rfl ?_
  refine v_iload_n (q := 42) dJ6_bitCount_0f7a4_41 rfl rfl rfl ?_
  refine v_iload_n (q := 43) dJ6_bitCount_0f7a4_42 rfl rfl rfl ?_
  refine v_bipush (q := 45) dJ6_bitCount_0f7a4_43 rfl bp_16 ?_
  refine v_iushr (q := 46) dJ6_bitCount_0f7a4_45 rfl ?_
  refine v_iadd (q := 47) dJ6_bitCount_0f7a4_46 rfl ?_
  refine v_letI (fun v5 => ?_)
  refine v_istore_n (q := 48) (loc2 := [some (.int v5)]) dJ6_bitCount_0f7a4_47 rfl rfl rfl (Nat.le_of_ble_eq_true rfl) rfl ?_
  refine v_iload_n (q := 49) dJ6_bitCount_0f7a4_48 rfl rfl rfl ?_
  refine v_bipush (q := 51) dJ6_bitCount_0f7a4_49 rfl bp_63 ?_
  refine v_iand (q := 52) dJ6_bitCount_0f7a4_51 rfl ?_
  exact v_iret rfl dJ6_bitCount_0f7a4_52 ⟨Nat.le_of_ble_eq_true rfl, Nat.le_of_ble_eq_true rfl⟩ rfl
theorem ct_J6_bitCount_0f7a4 (d : Nat) (hd : 0 ≤ d) (x0 : Int32) (M : Me) (r : Int32) (hf : f_J6_bitCount_0f7a4 x0 M = some r) : Ct yJ6_bitCount_0f7a4 mJ6_bitCount_0f7a4 d 0 0 [.int x0] M (some (.int r), M) := by
  have hb : b_J6_bitCount_0f7a4 x0 M = some r := hf
  exact ct_of (by decide +kernel) rfl rfl (Nat.le_of_ble_eq_true rfl) (vb_J6_bitCount_0f7a4 d hd x0 M) (by rw [hb]; rfl)
theorem dX0_countKnights_0 : decode cX0_countKnights 0 = .ok (.aload_n 0, 1) := by decide +kernel
theorem dX0_countKnights_1 : decode cX0_countKnights 1 = .ok (.invokevirtual 84, 3) := by decide +kernel
theorem dX0_countKnights_4 : decode cX0_countKnights 4 = .ok (.invokestatic 88, 3) := by decide +kernel
theorem dX0_countKnights_7 : decode cX0_countKnights 7 = .ok (.ireturn, 1) := by decide +kernel
noncomputable def b_X0_countKnights (a0 : Nat) (M : Me) : Option (Int32) :=
  cP (f_X0_knightBits a0 M) fun v1 =>
  cP (f_J6_bitCount_0f7a4 v1 M) fun v2 =>
  some v2
noncomputable def f_X0_countKnights (a0 : Nat) (M : Me) : Option (Int32) := ck M a0 0 (b_X0_countKnights a0 M)
set_option maxRecDepth 20000 in
theorem vb_X0_countKnights (d : Nat) (hd : 1 ≤ d) (a0 : Nat) (M : Me) : V (mX0_countKnights, d, 0, 0) (0, 0) M 0 [some (.ref a0)] [] (b_X0_countKnights a0 M) (fun z => some (some (.int z), M)) := by
  unfold b_X0_countKnights
  refine v_aload_n (q := 1) dX0_countKnights_0 rfl rfl rfl ?_
  refine v_cPV0 (q := 4) (ct_X0_knightBits (d - 1) (by omega) _ _) dX0_countKnights_1 rfl cc_X0_84 (by omega) (Nat.le_of_ble_eq_true rfl) ⟨Nat.le_of_ble_eq_true rfl, Nat.le_of_ble_eq_true rfl⟩ (fun v1 => ?_)
  refine v_cPS1 (q := 7) (ct_J6_bitCount_0f7a4 (d - 1) (by omega) _ _) dX0_countKnights_4 rfl cc_X0_88 (by omega) (Nat.le_of_ble_eq_true rfl) ⟨Nat.le_of_ble_eq_true rfl, Nat.le_of_ble_eq_true rfl⟩ (fun v2 => ?_)
  exact v_iret rfl dX0_countKnights_7 ⟨Nat.le_of_ble_eq_true rfl, Nat.le_of_ble_eq_true rfl⟩ rfl
theorem ct_X0_countKnights (d : Nat) (hd : 1 ≤ d) (a0 : Nat) (M : Me) (r : Int32) (hf : f_X0_countKnights a0 M = some r) : me_k M a0 = some (0, nf_c 0) ∧ Ct yX0_countKnights mX0_countKnights d 0 0 [.ref a0] M (some (.int r), M) := by
  obtain ⟨hk, hb⟩ := ck_some hf
  exact ⟨hk, ct_of (by decide +kernel) rfl rfl (Nat.le_of_ble_eq_true rfl) (vb_X0_countKnights d hd a0 M) (by rw [hb]; rfl)⟩
theorem dX4_isDead_0 : decode cX4_isDead 0 = .ok (.aload_n 0, 1) := by decide +kernel
theorem dX4_isDead_1 : decode cX4_isDead 1 = .ok (.getfield 9, 3) := by decide +kernel
theorem dX4_isDead_4 : decode cX4_isDead 4 = .ok (.ifCond .eq 14, 3) := by decide +kernel
theorem dX4_isDead_7 : decode cX4_isDead 7 = .ok (.aload_n 0, 1) := by decide +kernel
theorem dX4_isDead_8 : decode cX4_isDead 8 = .ok (.getfield 22, 3) := by decide +kernel
theorem dX4_isDead_11 : decode cX4_isDead 11 = .ok (.ifCond .ne 7, 3) := by decide +kernel
theorem dX4_isDead_14 : decode cX4_isDead 14 = .ok (.iconst 1, 1) := by decide +kernel
theorem dX4_isDead_15 : decode cX4_isDead 15 = .ok (.goto 4, 3) := by decide +kernel
theorem dX4_isDead_18 : decode cX4_isDead 18 = .ok (.iconst 0, 1) := by decide +kernel
theorem dX4_isDead_19 : decode cX4_isDead 19 = .ok (.ireturn, 1) := by decide +kernel
noncomputable def b_X4_isDead (a0 : Nat) (M : Me) : Option (Int32) :=
  gi M a0 4 0 fun v1 =>
  (
    if v1 = 0 then (
      some (0 : Int32)
    ) else (
      gi M a0 4 3 fun v2 =>
      if v2 = 0 then (
        some (1 : Int32)
      ) else (
        some (0 : Int32)
      )
    )
  ).bind fun v3 =>
  if v3 = 0 ∨ v3 = 1 then some v3 else none
noncomputable def f_X4_isDead (a0 : Nat) (M : Me) : Option (Int32) := ck M a0 4 (b_X4_isDead a0 M)
set_option maxRecDepth 20000 in
theorem vb_X4_isDead (d : Nat) (hd : 0 ≤ d) (a0 : Nat) (M : Me) : V (mX4_isDead, d, 0, 0) (0, 0) M 0 [some (.ref a0)] [] (b_X4_isDead a0 M) (fun z => some (some (.int z), M)) := by
  unfold b_X4_isDead
  refine v_aload_n (q := 1) dX4_isDead_0 rfl rfl rfl ?_
  refine v_getIb (q := 4) dX4_isDead_1 rfl fg_X4_9 (fun v1 => ?_)
  refine v_join (γ := Int32) 19 (fun v3 => M) (fun v3 => [some (.ref a0)]) (fun v3 => [.int v3]) (fun K hK => ?_) (fun v3 => ?_)
  · refine v_if_eq (tgt := 18) (q := 7) dX4_isDead_4 rfl rfl ?_ ?_
    · refine v_iconst (q := 19) dX4_isDead_18 rfl ic_0 ?_
      exact hK (0 : Int32)
    · refine v_aload_n (q := 8) dX4_isDead_7 rfl rfl rfl ?_
      refine v_getIb (q := 11) dX4_isDead_8 rfl fg_X4_22 (fun v2 => ?_)
      refine v_if_ne (tgt := 18) (q := 14) dX4_isDead_11 rfl rfl ?_ ?_
      · refine v_iconst (q := 19) dX4_isDead_18 rfl ic_0 ?_
        exact hK (0 : Int32)
      · refine v_iconst (q := 15) dX4_isDead_14 rfl ic_1 ?_
        refine v_goto (tgt := 19) dX4_isDead_15 rfl ?_
        exact hK (1 : Int32)
  · exact v_zretC rfl dX4_isDead_19 ⟨Nat.le_of_ble_eq_true rfl, Nat.le_of_ble_eq_true rfl⟩ rfl
theorem ct_X4_isDead (d : Nat) (hd : 0 ≤ d) (a0 : Nat) (M : Me) (r : Int32) (hf : f_X4_isDead a0 M = some r) : me_k M a0 = some (4, nf_c 4) ∧ Ct yX4_isDead mX4_isDead d 0 0 [.ref a0] M (some (.int r), M) := by
  obtain ⟨hk, hb⟩ := ck_some hf
  exact ⟨hk, ct_of (by decide +kernel) rfl rfl (Nat.le_of_ble_eq_true rfl) (vb_X4_isDead d hd a0 M) (by rw [hb]; rfl)⟩
theorem dX0_countDead_0 : decode cX0_countDead 0 = .ok (.iconst 0, 1) := by decide +kernel
theorem dX0_countDead_1 : decode cX0_countDead 1 = .ok (.istore_n 1, 1) := by decide +kernel
theorem dX0_countDead_2 : decode cX0_countDead 2 = .ok (.iconst 0, 1) := by decide +kernel
theorem dX0_countDead_3 : decode cX0_countDead 3 = .ok (.istore_n 2, 1) := by decide +kernel
theorem dX0_countDead_4 : decode cX0_countDead 4 = .ok (.iload_n 2, 1) := by decide +kernel
theorem dX0_countDead_5 : decode cX0_countDead 5 = .ok (.bipush 6, 2) := by decide +kernel
theorem dX0_countDead_7 : decode cX0_countDead 7 = .ok (.if_icmp .ge 29, 3) := by decide +kernel
theorem dX0_countDead_10 : decode cX0_countDead 10 = .ok (.iload_n 1, 1) := by decide +kernel
theorem dX0_countDead_11 : decode cX0_countDead 11 = .ok (.aload_n 0, 1) := by decide +kernel
theorem dX0_countDead_12 : decode cX0_countDead 12 = .ok (.getfield 20, 3) := by decide +kernel
theorem dX0_countDead_15 : decode cX0_countDead 15 = .ok (.iload_n 2, 1) := by decide +kernel
theorem dX0_countDead_16 : decode cX0_countDead 16 = .ok (.aaload, 1) := by decide +kernel
theorem dX0_countDead_17 : decode cX0_countDead 17 = .ok (.invokevirtual 94, 3) := by decide +kernel
theorem dX0_countDead_20 : decode cX0_countDead 20 = .ok (.ifCond .eq 7, 3) := by decide +kernel
theorem dX0_countDead_23 : decode cX0_countDead 23 = .ok (.iconst 1, 1) := by decide +kernel
theorem dX0_countDead_24 : decode cX0_countDead 24 = .ok (.goto 4, 3) := by decide +kernel
theorem dX0_countDead_27 : decode cX0_countDead 27 = .ok (.iconst 0, 1) := by decide +kernel
theorem dX0_countDead_28 : decode cX0_countDead 28 = .ok (.iadd, 1) := by decide +kernel
theorem dX0_countDead_29 : decode cX0_countDead 29 = .ok (.istore_n 1, 1) := by decide +kernel
theorem dX0_countDead_30 : decode cX0_countDead 30 = .ok (.iinc 2 1, 3) := by decide +kernel
theorem dX0_countDead_33 : decode cX0_countDead 33 = .ok (.goto (-29), 3) := by decide +kernel
theorem dX0_countDead_36 : decode cX0_countDead 36 = .ok (.iload_n 1, 1) := by decide +kernel
theorem dX0_countDead_37 : decode cX0_countDead 37 = .ok (.ireturn, 1) := by decide +kernel
noncomputable def s_X0_countDead_4 (a0 : Nat) (M : Me) (v1 : Int32) (v2 : Int32) : Option ((Int32 × Int32) ⊕ (Int32 × Int32)) :=
  if (6 : Int32) ≤ v2 then (
    some (Sum.inr (v1, v2))
  ) else (
    gr M a0 0 1 fun o3 =>
    lr M o3 22 v2 fun o4 =>
    cP (f_X4_isDead o4 M) fun v5 =>
    (
      if v5 = 0 then (
        some (0 : Int32)
      ) else (
        some (1 : Int32)
      )
    ).bind fun v6 =>
    let_v ((v1 + v6)) fun v7 =>
    let_v (v2 + (1 : Int32)) fun v8 =>
    some (Sum.inl (v7, v8))
  )
noncomputable def b_X0_countDead (a0 : Nat) (M : Me) : Option (Int32) :=
  (lp (fun s => s_X0_countDead_4 a0 M s.1 s.2) ((0 : Int32), (0 : Int32))).bind fun e9 =>
  some e9.1
noncomputable def f_X0_countDead (a0 : Nat) (M : Me) : Option (Int32) := ck M a0 0 (b_X0_countDead a0 M)
set_option maxRecDepth 20000 in
theorem vb_X0_countDead (d : Nat) (hd : 1 ≤ d) (a0 : Nat) (M : Me) : V (mX0_countDead, d, 0, 0) (0, 0) M 0 [some (.ref a0), none, none] [] (b_X0_countDead a0 M) (fun z => some (some (.int z), M)) := by
  unfold b_X0_countDead
  refine v_iconst (q := 1) dX0_countDead_0 rfl ic_0 ?_
  refine v_istore_n (q := 2) (loc2 := [some (.ref a0), some (.int (0 : Int32)), none]) dX0_countDead_1 rfl rfl rfl (Nat.le_of_ble_eq_true rfl) rfl ?_
  refine v_iconst (q := 3) dX0_countDead_2 rfl ic_0 ?_
  refine v_istore_n (q := 4) (loc2 := [some (.ref a0), some (.int (0 : Int32)), some (.int (0 : Int32))]) dX0_countDead_3 rfl rfl rfl (Nat.le_of_ble_eq_true rfl) rfl ?_
  refine v_lps (S := Int32 × Int32) 36 (fun s => M) (fun s => [some (.ref a0), some (.int s.1), some (.int s.2)]) (fun e9 => M) (fun e9 => [some (.ref a0), some (.int e9.1), some (.int e9.2)]) (fun e9 => ?_) (fun k K hk hx s => ?_)
  · refine v_iload_n (q := 37) dX0_countDead_36 rfl rfl rfl ?_
    exact v_iret rfl dX0_countDead_37 ⟨Nat.le_of_ble_eq_true rfl, Nat.le_of_ble_eq_true rfl⟩ rfl
  · obtain ⟨v1, v2⟩ := s
    show V _ _ M 4 [some (.ref a0), some (.int v1), some (.int v2)] [] (s_X0_countDead_4 a0 M v1 v2) _
    unfold s_X0_countDead_4
    refine v_iload_n (q := 5) dX0_countDead_4 rfl rfl rfl ?_
    refine v_bipush (q := 7) dX0_countDead_5 rfl bp_6 ?_
    refine v_icmp_ge (tgt := 36) (q := 10) dX0_countDead_7 rfl rfl ?_ ?_
    · exact v_inr (hx (v1, v2))
    · refine v_iload_n (q := 11) dX0_countDead_10 rfl rfl rfl ?_
      refine v_aload_n (q := 12) dX0_countDead_11 rfl rfl rfl ?_
      refine v_getRb (q := 15) dX0_countDead_12 rfl fg_X0_20 (fun o3 => ?_)
      refine v_iload_n (q := 16) dX0_countDead_15 rfl rfl rfl ?_
      refine v_aaload (q := 17) (t0 := 2) dX0_countDead_16 rfl (Nat.le_of_ble_eq_true rfl) (fun _ => rfl) (fun o4 => ?_)
      refine v_cPV0 (q := 20) (ct_X4_isDead (d - 1) (by omega) _ _) dX0_countDead_17 rfl cc_X0_94 (by omega) (Nat.le_of_ble_eq_true rfl) ⟨Nat.le_of_ble_eq_true rfl, Nat.le_of_ble_eq_true rfl⟩ (fun v5 => ?_)
      refine v_join (γ := Int32) 28 (fun v6 => M) (fun v6 => [some (.ref a0), some (.int v1), some (.int v2)]) (fun v6 => [.int v6, .int v1]) (fun K hK => ?_) (fun v6 => ?_)
      · refine v_if_eq (tgt := 27) (q := 23) dX0_countDead_20 rfl rfl ?_ ?_
        · refine v_iconst (q := 28) dX0_countDead_27 rfl ic_0 ?_
          exact hK (0 : Int32)
        · refine v_iconst (q := 24) dX0_countDead_23 rfl ic_1 ?_
          refine v_goto (tgt := 28) dX0_countDead_24 rfl ?_
          exact hK (1 : Int32)
      · refine v_iadd (q := 29) dX0_countDead_28 rfl ?_
        refine v_letI (fun v7 => ?_)
        refine v_istore_n (q := 30) (loc2 := [some (.ref a0), some (.int v7), some (.int v2)]) dX0_countDead_29 rfl rfl rfl (Nat.le_of_ble_eq_true rfl) rfl ?_
        refine v_iincL (q := 33) (x := v2) (cst := (1 : Int32)) (f := fun v8 => [some (.ref a0), some (.int v7), some (.int v8)]) dX0_countDead_30 rfl rfl ic_1 rfl (Nat.le_of_ble_eq_true rfl) (fun _ => rfl) (fun v8 => ?_)
        refine v_goto (tgt := 4) dX0_countDead_33 rfl ?_
        exact v_inl (hk (v7, v8))
theorem ct_X0_countDead (d : Nat) (hd : 1 ≤ d) (a0 : Nat) (M : Me) (r : Int32) (hf : f_X0_countDead a0 M = some r) : me_k M a0 = some (0, nf_c 0) ∧ Ct yX0_countDead mX0_countDead d 0 0 [.ref a0] M (some (.int r), M) := by
  obtain ⟨hk, hb⟩ := ck_some hf
  exact ⟨hk, ct_of (by decide +kernel) rfl rfl (Nat.le_of_ble_eq_true rfl) (vb_X0_countDead d hd a0 M) (by rw [hb]; rfl)⟩
theorem dX0_sumHonour_0 : decode cX0_sumHonour 0 = .ok (.iconst 0, 1) := by decide +kernel
theorem dX0_sumHonour_1 : decode cX0_sumHonour 1 = .ok (.istore_n 1, 1) := by decide +kernel
theorem dX0_sumHonour_2 : decode cX0_sumHonour 2 = .ok (.iconst 0, 1) := by decide +kernel
theorem dX0_sumHonour_3 : decode cX0_sumHonour 3 = .ok (.istore_n 2, 1) := by decide +kernel
theorem dX0_sumHonour_4 : decode cX0_sumHonour 4 = .ok (.iload_n 2, 1) := by decide +kernel
theorem dX0_sumHonour_5 : decode cX0_sumHonour 5 = .ok (.bipush 6, 2) := by decide +kernel
theorem dX0_sumHonour_7 : decode cX0_sumHonour 7 = .ok (.if_icmp .ge 37, 3) := by decide +kernel
theorem dX0_sumHonour_10 : decode cX0_sumHonour 10 = .ok (.iload_n 1, 1) := by decide +kernel
theorem dX0_sumHonour_11 : decode cX0_sumHonour 11 = .ok (.aload_n 0, 1) := by decide +kernel
theorem dX0_sumHonour_12 : decode cX0_sumHonour 12 = .ok (.getfield 20, 3) := by decide +kernel
theorem dX0_sumHonour_15 : decode cX0_sumHonour 15 = .ok (.iload_n 2, 1) := by decide +kernel
theorem dX0_sumHonour_16 : decode cX0_sumHonour 16 = .ok (.aaload, 1) := by decide +kernel
theorem dX0_sumHonour_17 : decode cX0_sumHonour 17 = .ok (.getfield 80, 3) := by decide +kernel
theorem dX0_sumHonour_20 : decode cX0_sumHonour 20 = .ok (.ifCond .eq 15, 3) := by decide +kernel
theorem dX0_sumHonour_23 : decode cX0_sumHonour 23 = .ok (.aload_n 0, 1) := by decide +kernel
theorem dX0_sumHonour_24 : decode cX0_sumHonour 24 = .ok (.getfield 20, 3) := by decide +kernel
theorem dX0_sumHonour_27 : decode cX0_sumHonour 27 = .ok (.iload_n 2, 1) := by decide +kernel
theorem dX0_sumHonour_28 : decode cX0_sumHonour 28 = .ok (.aaload, 1) := by decide +kernel
theorem dX0_sumHonour_29 : decode cX0_sumHonour 29 = .ok (.getfield 98, 3) := by decide +kernel
theorem dX0_sumHonour_32 : decode cX0_sumHonour 32 = .ok (.goto 4, 3) := by decide +kernel
theorem dX0_sumHonour_35 : decode cX0_sumHonour 35 = .ok (.iconst 0, 1) := by decide +kernel
theorem dX0_sumHonour_36 : decode cX0_sumHonour 36 = .ok (.iadd, 1) := by decide +kernel
theorem dX0_sumHonour_37 : decode cX0_sumHonour 37 = .ok (.istore_n 1, 1) := by decide +kernel
theorem dX0_sumHonour_38 : decode cX0_sumHonour 38 = .ok (.iinc 2 1, 3) := by decide +kernel
theorem dX0_sumHonour_41 : decode cX0_sumHonour 41 = .ok (.goto (-37), 3) := by decide +kernel
theorem dX0_sumHonour_44 : decode cX0_sumHonour 44 = .ok (.iload_n 1, 1) := by decide +kernel
theorem dX0_sumHonour_45 : decode cX0_sumHonour 45 = .ok (.ireturn, 1) := by decide +kernel
noncomputable def s_X0_sumHonour_4 (a0 : Nat) (M : Me) (v1 : Int32) (v2 : Int32) : Option ((Int32 × Int32) ⊕ (Int32 × Int32)) :=
  if (6 : Int32) ≤ v2 then (
    some (Sum.inr (v1, v2))
  ) else (
    gr M a0 0 1 fun o3 =>
    lr M o3 22 v2 fun o4 =>
    gi M o4 4 0 fun v5 =>
    (
      if v5 = 0 then (
        some (0 : Int32)
      ) else (
        gr M a0 0 1 fun o6 =>
        lr M o6 22 v2 fun o7 =>
        gi M o7 4 4 fun v8 =>
        some v8
      )
    ).bind fun v9 =>
    let_v ((v1 + v9)) fun v10 =>
    let_v (v2 + (1 : Int32)) fun v11 =>
    some (Sum.inl (v10, v11))
  )
noncomputable def b_X0_sumHonour (a0 : Nat) (M : Me) : Option (Int32) :=
  (lp (fun s => s_X0_sumHonour_4 a0 M s.1 s.2) ((0 : Int32), (0 : Int32))).bind fun e12 =>
  some e12.1
noncomputable def f_X0_sumHonour (a0 : Nat) (M : Me) : Option (Int32) := ck M a0 0 (b_X0_sumHonour a0 M)
set_option maxRecDepth 20000 in
theorem vb_X0_sumHonour (d : Nat) (hd : 0 ≤ d) (a0 : Nat) (M : Me) : V (mX0_sumHonour, d, 0, 0) (0, 0) M 0 [some (.ref a0), none, none] [] (b_X0_sumHonour a0 M) (fun z => some (some (.int z), M)) := by
  unfold b_X0_sumHonour
  refine v_iconst (q := 1) dX0_sumHonour_0 rfl ic_0 ?_
  refine v_istore_n (q := 2) (loc2 := [some (.ref a0), some (.int (0 : Int32)), none]) dX0_sumHonour_1 rfl rfl rfl (Nat.le_of_ble_eq_true rfl) rfl ?_
  refine v_iconst (q := 3) dX0_sumHonour_2 rfl ic_0 ?_
  refine v_istore_n (q := 4) (loc2 := [some (.ref a0), some (.int (0 : Int32)), some (.int (0 : Int32))]) dX0_sumHonour_3 rfl rfl rfl (Nat.le_of_ble_eq_true rfl) rfl ?_
  refine v_lps (S := Int32 × Int32) 44 (fun s => M) (fun s => [some (.ref a0), some (.int s.1), some (.int s.2)]) (fun e12 => M) (fun e12 => [some (.ref a0), some (.int e12.1), some (.int e12.2)]) (fun e12 => ?_) (fun k K hk hx s => ?_)
  · refine v_iload_n (q := 45) dX0_sumHonour_44 rfl rfl rfl ?_
    exact v_iret rfl dX0_sumHonour_45 ⟨Nat.le_of_ble_eq_true rfl, Nat.le_of_ble_eq_true rfl⟩ rfl
  · obtain ⟨v1, v2⟩ := s
    show V _ _ M 4 [some (.ref a0), some (.int v1), some (.int v2)] [] (s_X0_sumHonour_4 a0 M v1 v2) _
    unfold s_X0_sumHonour_4
    refine v_iload_n (q := 5) dX0_sumHonour_4 rfl rfl rfl ?_
    refine v_bipush (q := 7) dX0_sumHonour_5 rfl bp_6 ?_
    refine v_icmp_ge (tgt := 44) (q := 10) dX0_sumHonour_7 rfl rfl ?_ ?_
    · exact v_inr (hx (v1, v2))
    · refine v_iload_n (q := 11) dX0_sumHonour_10 rfl rfl rfl ?_
      refine v_aload_n (q := 12) dX0_sumHonour_11 rfl rfl rfl ?_
      refine v_getRb (q := 15) dX0_sumHonour_12 rfl fg_X0_20 (fun o3 => ?_)
      refine v_iload_n (q := 16) dX0_sumHonour_15 rfl rfl rfl ?_
      refine v_aaload (q := 17) (t0 := 2) dX0_sumHonour_16 rfl (Nat.le_of_ble_eq_true rfl) (fun _ => rfl) (fun o4 => ?_)
      refine v_getIb (q := 20) dX0_sumHonour_17 rfl fg_X0_80 (fun v5 => ?_)
      refine v_join (γ := Int32) 36 (fun v9 => M) (fun v9 => [some (.ref a0), some (.int v1), some (.int v2)]) (fun v9 => [.int v9, .int v1]) (fun K hK => ?_) (fun v9 => ?_)
      · refine v_if_eq (tgt := 35) (q := 23) dX0_sumHonour_20 rfl rfl ?_ ?_
        · refine v_iconst (q := 36) dX0_sumHonour_35 rfl ic_0 ?_
          exact hK (0 : Int32)
        · refine v_aload_n (q := 24) dX0_sumHonour_23 rfl rfl rfl ?_
          refine v_getRb (q := 27) dX0_sumHonour_24 rfl fg_X0_20 (fun o6 => ?_)
          refine v_iload_n (q := 28) dX0_sumHonour_27 rfl rfl rfl ?_
          refine v_aaload (q := 29) (t0 := 2) dX0_sumHonour_28 rfl (Nat.le_of_ble_eq_true rfl) (fun _ => rfl) (fun o7 => ?_)
          refine v_getIb (q := 32) dX0_sumHonour_29 rfl fg_X0_98 (fun v8 => ?_)
          refine v_goto (tgt := 36) dX0_sumHonour_32 rfl ?_
          exact hK v8
      · refine v_iadd (q := 37) dX0_sumHonour_36 rfl ?_
        refine v_letI (fun v10 => ?_)
        refine v_istore_n (q := 38) (loc2 := [some (.ref a0), some (.int v10), some (.int v2)]) dX0_sumHonour_37 rfl rfl rfl (Nat.le_of_ble_eq_true rfl) rfl ?_
        refine v_iincL (q := 41) (x := v2) (cst := (1 : Int32)) (f := fun v11 => [some (.ref a0), some (.int v10), some (.int v11)]) dX0_sumHonour_38 rfl rfl ic_1 rfl (Nat.le_of_ble_eq_true rfl) (fun _ => rfl) (fun v11 => ?_)
        refine v_goto (tgt := 4) dX0_sumHonour_41 rfl ?_
        exact v_inl (hk (v10, v11))
theorem ct_X0_sumHonour (d : Nat) (hd : 0 ≤ d) (a0 : Nat) (M : Me) (r : Int32) (hf : f_X0_sumHonour a0 M = some r) : me_k M a0 = some (0, nf_c 0) ∧ Ct yX0_sumHonour mX0_sumHonour d 0 0 [.ref a0] M (some (.int r), M) := by
  obtain ⟨hk, hb⟩ := ck_some hf
  exact ⟨hk, ct_of (by decide +kernel) rfl rfl (Nat.le_of_ble_eq_true rfl) (vb_X0_sumHonour d hd a0 M) (by rw [hb]; rfl)⟩

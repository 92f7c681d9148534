/-- round -/
theorem iv_op15 : ∀ n M, n < 512 → Iv n M → op_15 (Iv (n + 1)) M := by
  intro n M hn h x1 x2
  obtain ⟨hL, hlen, ⟨hCL, π, hCP, c0, y, t, D, nd, sg, hV, hR⟩, hJ, hP, hI⟩ := id h
  have ht70 : me_i M 70 3 = nI t := hV.1.2.2.1.1
  have ht := hV.1.2.2.1.2
  by_cases h1 : wl (st_m M) t x1 = 0
  · refine ⟨-1, M, M, ?_, ?_, h.next hn⟩
    · unfold f_X11_round b_X11_round
      rw [ck_e (lk_0 hL), gr_e (lk_0 hL) (lr_0_1 hL), cR_e (e_knightAt hCL), cP_e (e_isAlive hCL hR), if_pos h1]
    · unfold f_X12_round b_X12_round
      rw [ck_e (lk_70 hL), cP_e (e_isWell hL ht70 ht), if_pos h1]
  have hX := val_X hV
  have hW := val_W hV (by omega)
  have hST := ST.of hV (by omega)
  have hB : CB (x_of (st_m M) t y c0) M 3 (w_of (st_m M) D nd) := val_CB hV (by omega) hCL hCP hR.pn
  obtain ⟨k, hk, rfl, hkb, -⟩ := wl_yes h1
  have hkb2 : (x_of (st_m M) t y c0).1.testBit k = true := hkb
  -- the reference, behind the class
  have hwell : ∀ g : St, (∀ a z, ¬ (62 ≤ a ∧ a ≤ 64) → g a z = me_i M a z) → f_X12_isWell 70 (nI k) (me_w M g) = some (wl (st_m M) t (nI k)) := by
    intro g g1
    have wls : wl (st_m (me_w M g)) t (nI k) = wl (st_m M) t (nI k) := by
      unfold wl st_m
      rw [i_w, g1 _ _ (by omega)]
    rw [e_isWell (M := me_w M g) hL ((g1 _ _ (by omega)).trans ht70) ht, wls]
  have hst : ∀ g : St, (∀ a z, ¬ (62 ≤ a ∧ a ≤ 64) → g a z = me_i M a z) → ST (x_of (st_m M) t y c0) (w_of (st_m M) D nd) (st_m (me_w M g)) := fun g g1 => hST.same (fun a z q1 q2 => g1 a z (by omega))
  generalize x_of (st_m M) t y c0 = X at *
  generalize w_of (st_m M) D nd = w at *
  have h12 := hW.1
  have hA : ∀ m, jA X w k m = true → jQ X w k m = true := fun m h => mt_Q h
  have hBq : ∀ q m, jB X w k q m = true → jQ X w k m = true := fun q m h => mt_Q h
  have hQ : ∀ m, jQ X w k m = true → m < w.1.length := fun m h => jQ_lt h
  by_cases q0 : x2 = 0
  · subst q0
    obtain ⟨g, e1, e2⟩ := e_mostMet hX hW hL hB hk hkb2
    have hLg : Lay (me_w M g) := hL
    have hBg : CB X (me_w M g) 3 w := hB.out rfl (fun _ _ => rfl) (fun a z _ _ => e2 a z (by omega))
    obtain ⟨u, m1, m2⟩ := e_canMeet (M := me_w M g) (g := g) (S := ab (jQ X w k) 12) hX hW hLg (hst g e2) hk hkb2 (ab_lt 12) (fun m hm => by
      rw [ab_bit, Bool.and_eq_true] at hm; exact hm.2) (fun _ _ _ => rfl)
    rw [w_w] at m1
    simp only [i_w] at m2
    have l1 := jbs_le (A := jA X w k) (B := jB X w k) 12
    have l2 := cn12_le (ab (jQ X w k) 12)
    have hall := j_all hA hBq hQ h12
    refine ⟨if jbs (jA X w k) (jB X w k) 12 = cn (ab (jQ X w k) 12) 12 then 1 else 0, me_w M g, me_w M u, ?_, ?_, ?_⟩
    · unfold f_X11_round b_X11_round
      rw [ck_e (lk_0 hL), gr_e (lk_0 hL) (lr_0_1 hL), cR_e (e_knightAt hCL), cP_e (e_isAlive hCL hR), if_neg h1, if_pos rfl, gr_e (lk_0 hL) (lr_0_4 hL), gr_e (lk_0 hL) (lr_0_1 hL), cI_e e1, gr_e (lk_0 hLg) (lr_0_1 hLg), gr_e (lk_3 hLg) (lr_3_2 hLg), cP_e (e_countOwed hX hW hBg hk), i_eq (by omega) (by omega), b_ite]
    · unfold f_X12_round b_X12_round
      rw [ck_e (lk_70 hLg), cP_e (hwell g e2), if_neg h1, cP_e (e_in _ _ _ _), show in_v (0 : Int32) 0 2 = 1 by decide, if_neg (by decide), e_all hX hW hLg (hst g e2) hk]
      simp only [Option.bind_some]
      rw [if_pos trivial, cI_e m1]
      by_cases z : jbs (jA X w k) (jB X w k) 12 = cn (ab (jQ X w k) 12) 12
      · rw [if_pos z, if_pos (hall.mpr z), if_neg (by decide)]; rfl
      · rw [if_neg z, if_neg (fun y => z (hall.mp y)), if_pos rfl]; rfl
    · exact iv_j (M := M) (g := u) hn h (fun a z q1 q2 q3 q4 => by rw [m2 a z q4]; exact e2 a z (by omega))
  by_cases q1 : x2 = 1
  · subst q1
    obtain ⟨g, e1, e2⟩ := e_mostMet hX hW hL hB hk hkb2
    have hLg : Lay (me_w M g) := hL
    obtain ⟨u, z, m1, m2⟩ := e_sets (M := me_w M g) (e := (nI (ab (jQ X w k) 12), nI w.1.length)) hX hW hLg (hst g e2) hk hkb2 rfl
    rw [w_w] at m1
    simp only [i_w] at m2
    have hmr := jmr_bs hA hBq hQ h12
    refine ⟨nI (jbs (jA X w k) (jB X w k) 12), me_w M g, me_w M u, ?_, ?_, ?_⟩
    · unfold f_X11_round b_X11_round
      rw [ck_e (lk_0 hL), gr_e (lk_0 hL) (lr_0_1 hL), cR_e (e_knightAt hCL), cP_e (e_isAlive hCL hR), if_neg h1, if_neg q0, if_pos rfl, gr_e (lk_0 hL) (lr_0_4 hL), gr_e (lk_0 hL) (lr_0_1 hL), cI_e e1]
    · unfold f_X12_round b_X12_round
      rw [ck_e (lk_70 hLg), cP_e (hwell g e2), if_neg h1, cP_e (e_in _ _ _ _), show in_v (1 : Int32) 0 2 = 1 by decide, if_neg (by decide), e_all hX hW hLg (hst g e2) hk]
      simp only [Option.bind_some]
      rw [if_neg (by decide), if_pos trivial, m1, hmr]; rfl
    · exact iv_j (M := M) (g := u) hn h (fun a z q1 q2 q3 q4 => by rw [m2 a z q4]; exact e2 a z (by omega))
  by_cases q2 : x2 = 2
  · subst q2
    obtain ⟨g, e1, e2⟩ := e_barred hX hW hL hB hk hkb2
    have hLg : Lay (me_w M g) := hL
    obtain ⟨u, m1, m2⟩ := e_mbarI (M := me_w M g) (e := (nI (ab (jQ X w k) 12), nI w.1.length)) hX hW hLg (hst g e2) hk hkb2 rfl w.1.length 0 g (by omega) (fun _ _ _ => rfl)
    rw [w_w, w_w, nI_0] at m1
    simp only [i_w] at m2
    have cut := jfi_cut (A := jA X w k) (B := jB X w k) (e := 12 - w.1.length) w.1.length 0 (fun m hm => mt_n (by omega))
    rw [show w.1.length + (12 - w.1.length) = 12 by omega] at cut
    rw [← cut] at m1
    refine ⟨jv (jfi (jA X w k) (jB X w k) 12 0), me_w M g, me_w M u, ?_, ?_, ?_⟩
    · unfold f_X11_round b_X11_round
      rw [ck_e (lk_0 hL), gr_e (lk_0 hL) (lr_0_1 hL), cR_e (e_knightAt hCL), cP_e (e_isAlive hCL hR), if_neg h1, if_neg q0, if_neg q1, if_pos rfl, gr_e (lk_0 hL) (lr_0_4 hL), gr_e (lk_0 hL) (lr_0_1 hL), cI_e e1]
    · unfold f_X12_round b_X12_round
      rw [ck_e (lk_70 hLg), cP_e (hwell g e2), if_neg h1, cP_e (e_in _ _ _ _), show in_v (2 : Int32) 0 2 = 1 by decide, if_neg (by decide), e_all hX hW hLg (hst g e2) hk]
      simp only [Option.bind_some]
      rw [if_neg (by decide), if_neg (by decide)]
      exact m1
    · exact iv_j (M := M) (g := u) hn h (fun a z q1 q2 q3 q4 => by rw [m2 a z q4]; exact e2 a z (by omega))
  · have hin : in_v x2 0 2 = 0 := by
      apply Classical.byContradiction
      intro z
      rw [c_0, c_2] at z
      obtain ⟨v, -, hv, rfl⟩ := in_yes (by decide) (by decide) z
      match v, hv with
      | 0, _ => exact q0 nI_0
      | 1, _ => exact q1 c_1.symm
      | 2, _ => exact q2 c_2.symm
    refine ⟨-2, M, M, ?_, ?_, h.next hn⟩
    · unfold f_X11_round b_X11_round
      rw [ck_e (lk_0 hL), gr_e (lk_0 hL) (lr_0_1 hL), cR_e (e_knightAt hCL), cP_e (e_isAlive hCL hR), if_neg h1, if_neg q0, if_neg q1, if_neg q2]
    · unfold f_X12_round b_X12_round
      rw [ck_e (lk_70 hL), cP_e (e_isWell hL ht70 ht), if_neg h1, cP_e (e_in _ _ _ _), if_pos hin]

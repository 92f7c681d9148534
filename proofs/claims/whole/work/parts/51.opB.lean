/-- numbers as the code has them -/
theorem c_60 : (60 : Int32) = nI 60 := by decide +kernel
theorem c_33 : (33 : Int32) = nI 33 := by decide +kernel
theorem c_126 : (126 : Int32) = nI 126 := by decide +kernel
theorem c_0 : (0 : Int32) = nI 0 := by decide +kernel
theorem c_1 : (1 : Int32) = nI 1 := by decide +kernel
theorem c_2 : (2 : Int32) = nI 2 := by decide +kernel
theorem c_3 : (3 : Int32) = nI 3 := by decide +kernel
theorem c_4 : (4 : Int32) = nI 4 := by decide +kernel
theorem c_5 : (5 : Int32) = nI 5 := by decide +kernel
theorem c_6 : (6 : Int32) = nI 6 := by decide +kernel
theorem c_10 : (10 : Int32) = nI 10 := by decide +kernel
theorem c_12 : (12 : Int32) = nI 12 := by decide +kernel
theorem c_20 : (20 : Int32) = nI 20 := by decide +kernel
theorem c_25 : (25 : Int32) = nI 25 := by decide +kernel
theorem c_99 : (99 : Int32) = nI 99 := by decide +kernel
theorem c_100 : (100 : Int32) = nI 100 := by decide +kernel
theorem c_400 : (400 : Int32) = nI 400 := by decide +kernel
theorem lay_of {n : Nat} {M : Me} (h : Iv n M) : Lay M := h.1
/-- say -/
theorem iv_op5 : ∀ n M, n < 512 → Iv n M → op_5 (Iv (n + 1)) M := by
  intro n M hn h x1
  obtain ⟨hL, hlen, hC, hJ, ⟨p, hp, hp1, hp2, hp3⟩, hI⟩ := id h
  by_cases hx : in_v x1 33 126 = 0
  · refine ⟨-2, M, M, ?_, ?_, h.next hn⟩
    · unfold f_X11_say b_X11_say
      rw [ck_e (lk_0 hL), cP_e (e_isWithin _ _ _ _), if_pos hx]
    · unfold f_X12_say b_X12_say
      rw [ck_e (lk_70 hL), cP_e (e_in _ _ _ _), if_pos hx]
  · have hx2 := hx
    rw [c_33, c_126] at hx2
    obtain ⟨v, hv1, hv2, rfl⟩ := in_yes (by decide) (by decide) hx2
    by_cases hp60 : p < 60
    · refine ⟨nI (p + 1), me_si (me_si M 2 p (nI v)) 1 0 (nI (p + 1)), me_si (me_si (me_si (me_si M 2 p (nI v)) 1 0 (nI (p + 1))) 80 p (nI v)) 70 15 (nI (p + 1)), ?_, ?_, ?_⟩
      · unfold f_X11_say b_X11_say
        rw [ck_e (lk_0 hL), cP_e (e_isWithin _ _ _ _), if_neg hx, gr_e (lk_0 hL) (lr_0_0 hL), gi_e (lk_1 hL), hp1, c_60, if_pos (nI_lt hp60 (by decide)), gr_e (lk_0 hL) (lr_0_0 hL)]
        have e : f_X7_add 1 (nI v) M = some (me_si (me_si M 2 p (nI v)) 1 0 (nI (p + 1))) := by
          unfold f_X7_add b_X7_add
          rw [ck_e (lk_1 hL), gi_e (lk_1 hL), hp1, c_60, if_neg (nI_ge hp60 (by decide)), gr_e (lk_1 hL) (lr_1_1 hL), gi_e (lk_1 hL), hp1, si_e (lk_2 hL) hp60 (by decide), gi_e (lk_1 (la_si hL)), i_si, if_neg (by omega), hp1, pi_e (lk_1 (la_si hL)), nI_1]
          rfl
        rw [cM_e e, gr_e (lk_0 (la_si (la_si hL))) (lr_0_0 (la_si (la_si hL))), gi_e (lk_1 (la_si (la_si hL))), i_si, if_pos (by omega)]
      · have hL2 : Lay (me_si (me_si M 2 p (nI v)) 1 0 (nI (p + 1))) := hL
        have hp2b : me_i (me_si (me_si M 2 p (nI v)) 1 0 (nI (p + 1))) 70 15 = nI p := hp2
        unfold f_X12_say b_X12_say
        rw [ck_e (lk_70 hL2), cP_e (e_in _ _ _ _), if_neg hx, gi_e (lk_70 hL2), hp2b, c_60, n_eq (by omega) (by decide) |> fun e => if_neg (by rw [e]; omega), gr_e (lk_70 hL2) (lr_70_16 hL2), gi_e (lk_70 hL2), hp2b, si_e (lk_80 hL2) hp60 (by decide), gi_e (lk_70 (la_si hL2)), i_si, if_neg (by omega), hp2b, pi_e (lk_70 (la_si hL2)), gi_e (lk_70 (la_si (la_si hL2))), i_si, if_pos (by omega), nI_1]
      · refine h.pad rfl (fun a k => rfl) ⟨p + 1, by omega, ?_, ?_, fun i hi => ?_⟩ (fun a k ha => ?_)
        · rw [i_si, if_neg (by omega), i_si, if_neg (by omega), i_si, if_pos (by omega)]
        · rw [i_si, if_pos (by omega)]
        · by_cases hip : i = p
          · subst hip
            refine ⟨?_, v, hv1, hv2, ?_⟩
            · rw [i_si, if_neg (by omega), i_si, if_neg (by omega), i_si, if_neg (by omega), i_si, if_pos (by omega), i_si, if_neg (by omega), i_si, if_pos (by omega)]
            · rw [i_si, if_neg (by omega), i_si, if_pos (by omega)]
          · have e2 : me_i (me_si (me_si (me_si (me_si M 2 p (nI v)) 1 0 (nI (p + 1))) 80 p (nI v)) 70 15 (nI (p + 1))) 2 i = me_i M 2 i := by repeat rw [i_si, if_neg (by omega)]
            have e80 : me_i (me_si (me_si (me_si (me_si M 2 p (nI v)) 1 0 (nI (p + 1))) 80 p (nI v)) 70 15 (nI (p + 1))) 80 i = me_i M 80 i := by repeat rw [i_si, if_neg (by omega)]
            rw [e2, e80]
            exact hp3 i (by omega)
        · repeat rw [i_si, if_neg (by omega)]
    · have hpe : p = 60 := by omega
      subst hpe
      refine ⟨-4, M, M, ?_, ?_, h.next hn⟩
      · unfold f_X11_say b_X11_say
        rw [ck_e (lk_0 hL), cP_e (e_isWithin _ _ _ _), if_neg hx, gr_e (lk_0 hL) (lr_0_0 hL), gi_e (lk_1 hL), hp1, c_60, if_neg (nI_nlt (Nat.le_refl _) (by decide))]
      · unfold f_X12_say b_X12_say
        rw [ck_e (lk_70 hL), cP_e (e_in _ _ _ _), if_neg hx, gi_e (lk_70 hL), hp2, c_60, if_pos rfl]

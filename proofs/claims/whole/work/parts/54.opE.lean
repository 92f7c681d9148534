theorem cv_yes2 {c0 : Nat} {x : Int32} (hc : c0 < 1000) (h : ¬ cv c0 x = 0) : ∃ j, j < c0 ∧ x = nI j := by
  unfold cv at h
  split at h
  · exact absurd rfl h
  · split at h
    · exact absurd rfl h
    · rename_i h1 h2
      rw [Int32.lt_iff_toInt_lt, Int32.toInt_zero] at h1
      rw [Int32.le_iff_toInt_le, nI_toInt (by omega)] at h2
      refine ⟨x.toInt.toNat, by omega, ?_⟩
      apply Int32.toInt_inj.mp
      rw [nI_toInt (by omega)]; omega
theorem cv_one2 {c0 j : Nat} (hc : c0 < 1000) (hj : j < c0) : cv c0 (nI j) = 1 := by
  unfold cv
  rw [if_neg (nI_pos (by omega)), if_neg (nI_ge hj (by omega))]
theorem in_cv {c0 : Nat} {x : Int32} (hc : c0 < 1000) : in_v x 0 (nI c0 - 1) = cv c0 x := by
  unfold in_v cv
  by_cases h0 : x < 0
  · rw [if_pos h0, if_pos h0]
  · rw [if_neg h0, if_neg h0]
    have e2 : nI c0 - 1 < x ↔ nI c0 ≤ x := by
      rw [c_1, Int32.lt_iff_toInt_lt, Int32.le_iff_toInt_le, pk_sub_toInt (by omega) (by omega), nI_toInt (by omega)]; omega
    by_cases h2 : nI c0 ≤ x
    · rw [if_pos h2, if_pos (e2.mpr h2)]
    · rw [if_neg h2, if_neg (fun q => h2 (e2.mp q))]
theorem cv_01 (c0 : Nat) (x : Int32) : cv c0 x = 0 ∨ cv c0 x = 1 := by
  unfold cv
  split
  · exact Or.inl rfl
  · split
    · exact Or.inl rfl
    · exact Or.inr rfl
theorem tv_01 (t : Nat) (x : Int32) : tv t x = 0 ∨ tv t x = 1 := by
  unfold tv
  split
  · exact Or.inl rfl
  · split
    · exact Or.inl rfl
    · split
      · exact Or.inr rfl
      · exact Or.inl rfl
theorem e_dhas {M : Me} {a nd : Nat} {x : Int32} (hk : me_k M a = some (2, 2)) (hv : me_i M a 0 = nI nd) (hn : nd ≤ 12) : f_X2_has a x M = some (cv nd x) := by
  unfold f_X2_has b_X2_has cv
  rw [ck_e hk]
  split
  · rfl
  · rw [gi_e hk, hv]
    split
    · rfl
    · rename_i h1 h2
      rw [if_neg]
      · rfl
      · intro h
        apply h2
        rw [c_12, Int32.le_iff_toInt_le, nI_toInt (by omega)] at h
        rw [Int32.le_iff_toInt_le, nI_toInt (by omega)]
        omega
theorem e_dtell {M : Me} {a f : Nat} (hk : me_k M a = some (1, 5)) (hf : f ≤ 3) : f_X1_tell a (nI f) M = some (me_i M a f) := by
  unfold f_X1_tell b_X1_tell
  rw [ck_e hk]
  match f, hf with
  | 0, _ => rw [if_pos (by decide +kernel), gi_e hk]
  | 1, _ => rw [if_neg (by decide +kernel), if_pos (by decide +kernel), gi_e hk]
  | 2, _ => rw [if_neg (by decide +kernel), if_neg (by decide +kernel), if_pos (by decide +kernel), gi_e hk]
  | 3, _ => rw [if_neg (by decide +kernel), if_neg (by decide +kernel), if_neg (by decide +kernel), gi_e hk]
/-- debt -/
theorem iv_op12 : ∀ n M, n < 512 → Iv n M → op_12 (Iv (n + 1)) M := by
  intro n M hn h x1 x2
  obtain ⟨hL, hlen, ⟨hCL, π, hCP, c, y, t, D, nd, sg, hV, hR⟩, hJ, hP, hI⟩ := id h
  have hnd := hV.1.2.2.2.2.1
  have hd7 : me_i M 7 0 = nI nd := hR.2.2.2.1.1.trans hnd.1
  have hd70 : me_i M 70 13 = nI nd := hnd.1
  by_cases hx : in_v x2 0 3 = 0
  · refine ⟨-2, ?_, ?_, h.next hn⟩
    · unfold f_X11_debt b_X11_debt
      rw [ck_e (lk_0 hL), cP_e (e_isWithin _ _ _ _), if_pos hx]
    · unfold f_X12_debt b_X12_debt
      rw [ck_e (lk_70 hL), cP_e (e_in _ _ _ _), if_pos hx]
  have hx2 := hx
  rw [c_0, c_3] at hx2
  obtain ⟨f, -, hf, rfl⟩ := in_yes (by decide) (by decide) hx2
  by_cases hm : x1 = -1
  · refine ⟨nI nd, ?_, ?_, h.next hn⟩
    · unfold f_X11_debt b_X11_debt
      rw [ck_e (lk_0 hL), cP_e (e_isWithin _ _ _ _), if_neg hx, if_pos hm, gr_e (lk_0 hL) (lr_0_1 hL), gr_e (lk_3 hL) (lr_3_2 hL), gi_e (lk_7 hL), hd7]
    · unfold f_X12_debt b_X12_debt
      rw [ck_e (lk_70 hL), cP_e (e_in _ _ _ _), if_neg hx, if_pos hm, gi_e (lk_70 hL), hd70]
      rfl
  by_cases hc : cv nd x1 = 0
  · refine ⟨-6, ?_, ?_, h.next hn⟩
    · unfold f_X11_debt b_X11_debt
      rw [ck_e (lk_0 hL), cP_e (e_isWithin _ _ _ _), if_neg hx, if_neg hm, gr_e (lk_0 hL) (lr_0_1 hL), gr_e (lk_3 hL) (lr_3_2 hL), cP_e (e_dhas (lk_7 hL) hd7 hnd.2), if_pos hc]
      rfl
    · unfold f_X12_debt b_X12_debt
      rw [ck_e (lk_70 hL), cP_e (e_in _ _ _ _), if_neg hx, if_neg hm, gi_e (lk_70 hL), hd70, cP_e (e_in _ _ _ _), in_cv (by omega), if_pos hc]
      rfl
  · obtain ⟨i, hi, rfl⟩ := cv_yes2 (by omega) hc
    have hrow := hCP.1 i (by omega)
    have hrow2 : me_r M 8 i = some (9 + π i) := hrow.2
    have hk9 : me_k M (9 + π i) = some (1, 5) := hCL.2.2.2.2.1 (π i) hrow.1
    have hval : me_i M (9 + π i) f = me_i M 79 (4 * i + f) := by
      have q := hR.2.2.2.1.2 i hi
      match f, hf with
      | 0, _ => exact q.1
      | 1, _ => exact q.2.1
      | 2, _ => exact q.2.2.1
      | 3, _ => exact q.2.2.2.1
    refine ⟨me_i M 79 (4 * i + f), ?_, ?_, h.next hn⟩
    · unfold f_X11_debt b_X11_debt
      rw [ck_e (lk_0 hL), cP_e (e_isWithin _ _ _ _), if_neg hx, if_neg hm, gr_e (lk_0 hL) (lr_0_1 hL), gr_e (lk_3 hL) (lr_3_2 hL), cP_e (e_dhas (lk_7 hL) hd7 hnd.2), if_neg hc, gr_e (lk_0 hL) (lr_0_1 hL), gr_e (lk_3 hL) (lr_3_2 hL), gr_e (lk_7 hL) (lr_7_1 hL), lr_e (lk_8 hL) (by omega) (by decide) hrow2, cP_e (e_dtell hk9 hf), hval]
      rfl
    · unfold f_X12_debt b_X12_debt
      rw [ck_e (lk_70 hL), cP_e (e_in _ _ _ _), if_neg hx, if_neg hm, gi_e (lk_70 hL), hd70, cP_e (e_in _ _ _ _), in_cv (by omega), if_neg hc, gr_e (lk_70 hL) (lr_70_14 hL), c_4, pk_mul, nI_add, li_e (lk_79 hL) (by omega) (by decide)]
      rfl
/-! what a knight tells -/
def g_now (M : Me) : Nat → Nat → Int32 := fun a k => if a = 70 ∧ k = 17 then me_i M 70 8 else if a = 70 ∧ k = 22 then me_i M 70 13 else if a = 81 ∧ k < 6 then me_i M 75 k else if a = 82 ∧ k < 6 then me_i M 76 k else if a = 83 ∧ k < 6 then me_i M 77 k else if a = 84 ∧ k < 6 then me_i M 78 k else if a = 85 ∧ k < 48 then me_i M 79 k else me_i M a k
theorem e_asNow {M : Me} (h : Lay M) : f_X12_asNow 70 M = some (me_w M (g_now M)) := by
  unfold f_X12_asNow b_X12_asNow
  rw [ck_e (lk_70 h), gi_e (lk_70 h), pi_e (lk_70 h)]
  have hl := lp_up (step := fun s : Me × Int32 => s_X12_asNow_10 70 s.1 s.2) (fun j => (me_w M (fun a k => if a = 70 ∧ k = 17 then me_i M 70 8 else if a = 81 ∧ k < j then me_i M 75 k else if a = 82 ∧ k < j then me_i M 76 k else if a = 83 ∧ k < j then me_i M 77 k else if a = 84 ∧ k < j then me_i M 78 k else me_i M a k), nI j)) 6 (me_w M (fun a k => if a = 70 ∧ k = 17 then me_i M 70 8 else if a = 81 ∧ k < 6 then me_i M 75 k else if a = 82 ∧ k < 6 then me_i M 76 k else if a = 83 ∧ k < 6 then me_i M 77 k else if a = 84 ∧ k < 6 then me_i M 78 k else me_i M a k), nI 6) ?_ ?_ 0 (by decide)
  · rw [show (me_si M 70 17 (me_i M 70 8), (0 : Int32)) = (me_w M (fun a k => if a = 70 ∧ k = 17 then me_i M 70 8 else if a = 81 ∧ k < 0 then me_i M 75 k else if a = 82 ∧ k < 0 then me_i M 76 k else if a = 83 ∧ k < 0 then me_i M 77 k else if a = 84 ∧ k < 0 then me_i M 78 k else me_i M a k), nI 0) by
      rw [nI_0, w_si]
      congr 2
      funext a k
      rw [if_neg (show ¬ (a = 81 ∧ k < 0) by omega), if_neg (show ¬ (a = 82 ∧ k < 0) by omega), if_neg (show ¬ (a = 83 ∧ k < 0) by omega), if_neg (show ¬ (a = 84 ∧ k < 0) by omega)]]
    rw [hl]
    simp only [Option.bind_some]
    rw [gi_e (lk_70 (la_w h)), pi_e (lk_70 (la_w h))]
    have hl2 := lp_up (step := fun s : Me × Int32 => s_X12_asNow_80 70 s.1 s.2) (fun j => (me_w M (fun a k => if a = 70 ∧ k = 17 then me_i M 70 8 else if a = 70 ∧ k = 22 then me_i M 70 13 else if a = 81 ∧ k < 6 then me_i M 75 k else if a = 82 ∧ k < 6 then me_i M 76 k else if a = 83 ∧ k < 6 then me_i M 77 k else if a = 84 ∧ k < 6 then me_i M 78 k else if a = 85 ∧ k < j then me_i M 79 k else me_i M a k), nI j)) 48 (me_w M (g_now M), nI 48) ?_ ?_ 0 (by decide)
    · rw [show ((me_si (me_w M (fun a k => if a = 70 ∧ k = 17 then me_i M 70 8 else if a = 81 ∧ k < 6 then me_i M 75 k else if a = 82 ∧ k < 6 then me_i M 76 k else if a = 83 ∧ k < 6 then me_i M 77 k else if a = 84 ∧ k < 6 then me_i M 78 k else me_i M a k)) 70 22 (me_i (me_w M (fun a k => if a = 70 ∧ k = 17 then me_i M 70 8 else if a = 81 ∧ k < 6 then me_i M 75 k else if a = 82 ∧ k < 6 then me_i M 76 k else if a = 83 ∧ k < 6 then me_i M 77 k else if a = 84 ∧ k < 6 then me_i M 78 k else me_i M a k)) 70 13)), (0 : Int32)) = (me_w M (fun a k => if a = 70 ∧ k = 17 then me_i M 70 8 else if a = 70 ∧ k = 22 then me_i M 70 13 else if a = 81 ∧ k < 6 then me_i M 75 k else if a = 82 ∧ k < 6 then me_i M 76 k else if a = 83 ∧ k < 6 then me_i M 77 k else if a = 84 ∧ k < 6 then me_i M 78 k else if a = 85 ∧ k < 0 then me_i M 79 k else me_i M a k), nI 0) by
        rw [nI_0, w_step (g2 := fun a k => if a = 70 ∧ k = 17 then me_i M 70 8 else if a = 70 ∧ k = 22 then me_i M 70 13 else if a = 81 ∧ k < 6 then me_i M 75 k else if a = 82 ∧ k < 6 then me_i M 76 k else if a = 83 ∧ k < 6 then me_i M 77 k else if a = 84 ∧ k < 6 then me_i M 78 k else if a = 85 ∧ k < 0 then me_i M 79 k else me_i M a k)]
        intro a k
        rw [if_neg (show ¬ (a = 85 ∧ k < 0) by omega)]
        by_cases q : a = 70 ∧ k = 22
        · rw [if_pos q, if_neg (show ¬ (a = 70 ∧ k = 17) by omega), if_pos q]; rfl
        · rw [if_neg q, if_neg q]]
      rw [hl2]; rfl
    · intro j hj
      show s_X12_asNow_80 70 (me_w M _) (nI j) = _
      unfold s_X12_asNow_80 let_v
      rw [show (48 : Int32) = nI 48 by decide +kernel, if_neg (nI_ge hj (by decide)), gr_e (lk_70 (la_w h)) (lr_70_23 (la_w h)), gr_e (lk_70 (la_w h)) (lr_70_14 (la_w h)), li_e (lk_79 (la_w h)) hj (by decide), si_e (lk_85 (la_w h)) hj (by decide), nI_1]
      rw [w_step (g2 := fun a k => if a = 70 ∧ k = 17 then me_i M 70 8 else if a = 70 ∧ k = 22 then me_i M 70 13 else if a = 81 ∧ k < 6 then me_i M 75 k else if a = 82 ∧ k < 6 then me_i M 76 k else if a = 83 ∧ k < 6 then me_i M 77 k else if a = 84 ∧ k < 6 then me_i M 78 k else if a = 85 ∧ k < j + 1 then me_i M 79 k else me_i M a k)]
      intro a k
      by_cases q : a = 85 ∧ k = j
      · obtain ⟨rfl, rfl⟩ := q
        rw [if_pos ⟨rfl, rfl⟩, if_neg (by omega), if_neg (by omega), if_neg (by omega), if_neg (by omega), if_neg (by omega), if_neg (by omega), if_pos (by omega)]
        rfl
      · rw [if_neg q]
        by_cases q1 : a = 85 ∧ k < j
        · obtain ⟨rfl, q1⟩ := q1
          rw [if_neg (by omega), if_neg (by omega), if_neg (by omega), if_neg (by omega), if_neg (by omega), if_neg (by omega), if_pos (by omega), if_neg (by omega), if_neg (by omega), if_neg (by omega), if_neg (by omega), if_neg (by omega), if_neg (by omega), if_pos (by omega)]
        · rw [if_neg q1, if_neg (show ¬ (a = 85 ∧ k < j + 1) by omega)]
    · show s_X12_asNow_80 70 _ (nI 48) = _
      unfold s_X12_asNow_80
      rw [show (48 : Int32) = nI 48 by decide +kernel, if_pos (nI_le (Nat.le_refl _) (by decide))]
      rfl
  · intro j hj
    show s_X12_asNow_10 70 (me_w M _) (nI j) = _
    unfold s_X12_asNow_10 let_v
    rw [c_6, if_neg (nI_ge hj (by decide)), gr_e (lk_70 (la_w h)) (lr_70_18 (la_w h)), gr_e (lk_70 (la_w h)) (lr_70_9 (la_w h)), li_e (lk_75 (la_w h)) hj (by decide), si_e (lk_81 (la_w h)) hj (by decide)]
    rw [gr_e (lk_70 (la_si (la_w h))) (lr_70_19 (la_si (la_w h))), gr_e (lk_70 (la_si (la_w h))) (lr_70_10 (la_si (la_w h))), li_e (lk_76 (la_si (la_w h))) hj (by decide), si_e (lk_82 (la_si (la_w h))) hj (by decide)]
    rw [gr_e (lk_70 (la_si (la_si (la_w h)))) (lr_70_20 (la_si (la_si (la_w h)))), gr_e (lk_70 (la_si (la_si (la_w h)))) (lr_70_11 (la_si (la_si (la_w h)))), li_e (lk_77 (la_si (la_si (la_w h)))) hj (by decide), si_e (lk_83 (la_si (la_si (la_w h)))) hj (by decide)]
    rw [gr_e (lk_70 (la_si (la_si (la_si (la_w h))))) (lr_70_21 (la_si (la_si (la_si (la_w h))))), gr_e (lk_70 (la_si (la_si (la_si (la_w h))))) (lr_70_12 (la_si (la_si (la_si (la_w h))))), li_e (lk_78 (la_si (la_si (la_si (la_w h))))) hj (by decide), si_e (lk_84 (la_si (la_si (la_si (la_w h))))) hj (by decide), nI_1]
    show some (Sum.inl (me_w M (fun a k => if a = 84 ∧ k = j then me_i M 78 j else if a = 83 ∧ k = j then me_i M 77 j else if a = 82 ∧ k = j then me_i M 76 j else if a = 81 ∧ k = j then me_i M 75 j else if a = 70 ∧ k = 17 then me_i M 70 8 else if a = 81 ∧ k < j then me_i M 75 k else if a = 82 ∧ k < j then me_i M 76 k else if a = 83 ∧ k < j then me_i M 77 k else if a = 84 ∧ k < j then me_i M 78 k else me_i M a k), nI (j + 1))) = _
    refine congrArg (fun g => some (Sum.inl (me_w M g, nI (j + 1)))) ?_
    funext a k
    by_cases hk : k = j
    · subst hk
      by_cases q1 : a = 81
      · subst q1; rw [if_neg (by omega), if_neg (by omega), if_neg (by omega), if_pos (by omega), if_neg (by omega), if_pos (by omega)]
      · by_cases q2 : a = 82
        · subst q2; rw [if_neg (by omega), if_neg (by omega), if_pos (by omega), if_neg (by omega), if_neg (by omega), if_pos (by omega)]
        · by_cases q3 : a = 83
          · subst q3; rw [if_neg (by omega), if_pos (by omega), if_neg (by omega), if_neg (by omega), if_neg (by omega), if_pos (by omega)]
          · by_cases q4 : a = 84
            · subst q4; rw [if_pos (by omega), if_neg (by omega), if_neg (by omega), if_neg (by omega), if_neg (by omega), if_pos (by omega)]
            · simp [q1, q2, q3, q4]
    · simp only [hk, and_false, if_false]
      have e : (k < j + 1) = (k < j) := propext (by omega)
      simp only [e]
  · show s_X12_asNow_10 70 _ (nI 6) = _
    unfold s_X12_asNow_10
    rw [c_6, if_pos (nI_le (Nat.le_refl _) (by decide))]
/-- a knight tells: class -/
theorem e_ktell {M : Me} {a f : Nat} (hk : me_k M a = some (4, 7)) (ht : me_i M a 0 = 1) (hf : f ≤ 3) : f_X4_tell a (nI f) M = some (if f = 0 then (if me_i M a 6 ≤ 0 then me_i M a 5 else -6) else if f = 1 then me_i M a 3 else if f = 2 then me_i M a 4 + 10000 else if me_i M a 3 = 0 then 1 else 0) := by
  unfold f_X4_tell b_X4_tell
  rw [ck_e hk]
  match f, hf with
  | 0, _ =>
    rw [if_pos (by decide +kernel), gi_e hk, if_pos rfl]
    split
    · rw [gi_e hk]; rfl
    · rfl
  | 1, _ => rw [if_neg (by decide +kernel), if_pos (by decide +kernel), gi_e hk]; rfl
  | 2, _ => rw [if_neg (by decide +kernel), if_neg (by decide +kernel), if_pos (by decide +kernel), gi_e hk]; rfl
  | 3, _ =>
    have e : f_X4_isDead a M = some (if me_i M a 3 = 0 then 1 else 0) := by
      unfold f_X4_isDead b_X4_isDead
      rw [ck_e hk, gi_e hk, ht, if_neg (by decide), gi_e hk]
      split <;> rfl
    rw [if_neg (by decide +kernel), if_neg (by decide +kernel), if_neg (by decide +kernel), cP_e e]
    by_cases h0 : me_i M a 3 = 0
    · rw [if_pos h0]; rfl
    · rw [if_neg h0]; rfl
/-- the same: reference -/
theorem e_snow {M : Me} {k f : Nat} (h : Lay M) (hk : k < 6) (hf : f ≤ 3) : f_X12_stateNow 70 (nI k) (nI f) M = some (if f = 0 then (if me_i M 82 k ≤ 0 then me_i M 81 k else -6) else if f = 1 then me_i M 83 k else if f = 2 then me_i M 84 k + 10000 else if me_i M 83 k = 0 then 1 else 0) := by
  unfold f_X12_stateNow b_X12_stateNow
  rw [ck_e (lk_70 h)]
  match f, hf with
  | 0, _ =>
    rw [if_pos (by decide +kernel), gr_e (lk_70 h) (lr_70_19 h), li_e (lk_82 h) hk (by decide), if_pos rfl]
    split
    · rw [gr_e (lk_70 h) (lr_70_18 h), li_e (lk_81 h) hk (by decide)]; rfl
    · rfl
  | 1, _ => rw [if_neg (by decide +kernel), if_pos (by decide +kernel), gr_e (lk_70 h) (lr_70_20 h), li_e (lk_83 h) hk (by decide)]; rfl
  | 2, _ => rw [if_neg (by decide +kernel), if_neg (by decide +kernel), if_pos (by decide +kernel), gr_e (lk_70 h) (lr_70_21 h), li_e (lk_84 h) hk (by decide)]; rfl
  | 3, _ =>
    rw [if_neg (by decide +kernel), if_neg (by decide +kernel), if_neg (by decide +kernel), gr_e (lk_70 h) (lr_70_20 h), li_e (lk_83 h) hk (by decide)]
    by_cases h0 : me_i M 83 k = 0
    · rw [if_pos h0]; simp [h0]
    · rw [if_neg h0]; simp [h0]
theorem iv_now {n : Nat} {M : Me} (hn : n < 512) (h : Iv n M) : Iv (n + 1) (me_w M (g_now M)) := by
  refine (h.next hn).same rfl (fun a k _ => rfl) h.2.2.2.1 (fun a k ha => ?_)
  show g_now M a k = _
  unfold g_now
  rw [if_neg (by omega), if_neg (by omega), if_neg (by omega), if_neg (by omega), if_neg (by omega), if_neg (by omega), if_neg (by omega)]
/-- state -/
theorem iv_op10 : ∀ n M, n < 512 → Iv n M → op_10 (Iv (n + 1)) M := by
  intro n M hn h x1 x2
  obtain ⟨hL, hlen, ⟨hCL, π, hCP, c, y, t, D, nd, sg, hV, hR⟩, hJ, hP, hI⟩ := id h
  have ht70 : me_i M 70 3 = nI t := hV.1.2.2.1.1
  have ht := hV.1.2.2.1.2
  by_cases h1 : tv t x1 = 0
  · refine ⟨-1, M, ?_, ?_, h.next hn⟩
    · unfold f_X11_state b_X11_state
      rw [ck_e (lk_0 hL), gr_e (lk_0 hL) (lr_0_1 hL), cR_e (e_knightAt hCL), gi_e (kn_kind hCL), kn_there hR, if_pos h1]
    · unfold f_X12_state b_X12_state
      rw [ck_e (lk_70 hL), cP_e (e_isThere (lk_70 hL) ht70 ht), if_pos h1]
  by_cases hx : in_v x2 0 3 = 0
  · refine ⟨-2, M, ?_, ?_, h.next hn⟩
    · unfold f_X11_state b_X11_state
      rw [ck_e (lk_0 hL), gr_e (lk_0 hL) (lr_0_1 hL), cR_e (e_knightAt hCL), gi_e (kn_kind hCL), kn_there hR, if_neg h1, cP_e (e_isWithin _ _ _ _), if_pos hx]
      rfl
    · unfold f_X12_state b_X12_state
      rw [ck_e (lk_70 hL), cP_e (e_isThere (lk_70 hL) ht70 ht), if_neg h1, cP_e (e_in _ _ _ _), if_pos hx]
  obtain ⟨k, hk, rfl, hb⟩ := tv_yes h1
  have hx2 := hx
  rw [c_0, c_3] at hx2
  obtain ⟨f, -, hf, rfl⟩ := in_yes (by decide) (by decide) hx2
  have hkn := hR.2.1 k hk
  have hkt : me_i M (3 + 22 + k) 0 = 1 := by rw [hkn.1, if_pos hb]
  obtain ⟨q1, q2, q3, q4, q5, q6⟩ := hkn.2 hb
  refine ⟨if f = 0 then (if me_i M 76 k ≤ 0 then me_i M 75 k else -6) else if f = 1 then me_i M 77 k else if f = 2 then me_i M 78 k + 10000 else if me_i M 77 k = 0 then 1 else 0, me_w M (g_now M), ?_, ?_, iv_now hn h⟩
  · unfold f_X11_state b_X11_state
    rw [ck_e (lk_0 hL), gr_e (lk_0 hL) (lr_0_1 hL), cR_e (e_knightAt hCL), gi_e (kn_kind hCL), kn_there hR, if_neg h1, cP_e (e_isWithin _ _ _ _), if_neg hx, gr_e (lk_0 hL) (lr_0_1 hL), cR_e (e_knightAt hCL), kn_k hk, cP_e (e_ktell (hCL.2.2.2.2.2.2.2 k hk) hkt hf), q3, q4, q5, q6]
    rfl
  · unfold f_X12_state b_X12_state
    rw [ck_e (lk_70 hL), cP_e (e_isThere (lk_70 hL) ht70 ht), if_neg h1, cP_e (e_in _ _ _ _), if_neg hx, cM_e (e_asNow hL), cP_e (e_snow (la_w hL) hk hf)]
    have e81 : me_i (me_w M (g_now M)) 81 k = me_i M 75 k := by
      show g_now M 81 k = _
      unfold g_now; rw [if_neg (by omega), if_neg (by omega), if_pos (by omega)]
    have e82 : me_i (me_w M (g_now M)) 82 k = me_i M 76 k := by
      show g_now M 82 k = _
      unfold g_now; rw [if_neg (by omega), if_neg (by omega), if_neg (by omega), if_pos (by omega)]
    have e83 : me_i (me_w M (g_now M)) 83 k = me_i M 77 k := by
      show g_now M 83 k = _
      unfold g_now; rw [if_neg (by omega), if_neg (by omega), if_neg (by omega), if_neg (by omega), if_pos (by omega)]
    have e84 : me_i (me_w M (g_now M)) 84 k = me_i M 78 k := by
      show g_now M 84 k = _
      unfold g_now; rw [if_neg (by omega), if_neg (by omega), if_neg (by omega), if_neg (by omega), if_neg (by omega), if_pos (by omega)]
    rw [e81, e82, e83, e84]

/-! pieces of a court that a change leaves as they were -/
theorem rk_same {M N : Me} {c t : Nat} {st su : St} (h : ∀ k, k < 6 → me_i M (c + 22 + k) 0 = (if t.testBit k = true then 1 else 0) ∧ (t.testBit k = true → me_i M (c + 22 + k) 1 = st 73 k ∧ me_i M (c + 22 + k) 2 = st 72 k ∧ me_i M (c + 22 + k) 3 = st 77 k ∧ me_i M (c + 22 + k) 4 = st 78 k ∧ me_i M (c + 22 + k) 5 = st 75 k ∧ me_i M (c + 22 + k) 6 = st 76 k))
    (hi : ∀ k f, k < 6 → me_i N (c + 22 + k) f = me_i M (c + 22 + k) f) (hs : ∀ a k, 72 ≤ a → a ≤ 78 → a ≠ 74 → su a k = st a k) :
    ∀ k, k < 6 → me_i N (c + 22 + k) 0 = (if t.testBit k = true then 1 else 0) ∧ (t.testBit k = true → me_i N (c + 22 + k) 1 = su 73 k ∧ me_i N (c + 22 + k) 2 = su 72 k ∧ me_i N (c + 22 + k) 3 = su 77 k ∧ me_i N (c + 22 + k) 4 = su 78 k ∧ me_i N (c + 22 + k) 5 = su 75 k ∧ me_i N (c + 22 + k) 6 = su 76 k) := by
  intro k hk
  simp only [hi k _ hk, hs 72 k (by omega) (by omega) (by omega), hs 73 k (by omega) (by omega) (by omega), hs 75 k (by omega) (by omega) (by omega), hs 76 k (by omega) (by omega) (by omega), hs 77 k (by omega) (by omega) (by omega), hs 78 k (by omega) (by omega) (by omega)]
  exact h k hk
theorem rd_same {M N : Me} {c nd : Nat} {π : Nat → Nat} {st su : St} (hp : CP M c π) (hn : nd ≤ 12) (h : ∀ i, i < nd → me_i M (c + 6 + π i) 0 = st 79 (4 * i) ∧ me_i M (c + 6 + π i) 1 = st 79 (4 * i + 1) ∧ me_i M (c + 6 + π i) 2 = st 79 (4 * i + 2) ∧ me_i M (c + 6 + π i) 3 = st 79 (4 * i + 3) ∧ me_i M (c + 6 + π i) 4 = 0)
    (hi : ∀ k f, k < 12 → me_i N (c + 6 + k) f = me_i M (c + 6 + k) f) (hs : ∀ k, su 79 k = st 79 k) :
    ∀ i, i < nd → me_i N (c + 6 + π i) 0 = su 79 (4 * i) ∧ me_i N (c + 6 + π i) 1 = su 79 (4 * i + 1) ∧ me_i N (c + 6 + π i) 2 = su 79 (4 * i + 2) ∧ me_i N (c + 6 + π i) 3 = su 79 (4 * i + 3) ∧ me_i N (c + 6 + π i) 4 = 0 := by
  intro i h1
  have h2 := (hp.1 i (by omega)).1
  simp only [hi _ _ h2, hs]
  exact h i h1
theorem nI_ne {a b : Nat} (ha : a < 2 ^ 31) (hb : b < 2 ^ 31) (h : a ≠ b) : ¬ nI a = nI b := fun q => h ((nI_eq ha hb).mp q)
/-- yearOf -/
theorem iv_op2 : ∀ n M, n < 512 → Iv n M → op_2 (Iv (n + 1)) M := by
  intro n M hn h x1
  obtain ⟨hL, hlen, ⟨hCL, π, hCP, c, y, t, D, nd, sg, hV, hR⟩, hJ, hP, hI⟩ := id h
  have hnd := hV.1.2.2.2.2.1
  have hd7 : me_i M 7 0 = nI nd := hR.2.2.2.1.1.trans hnd.1
  have hd70 : me_i M 70 13 = nI nd := hnd.1
  have hy4 : me_i M 4 1 = nI y := hR.1.2.1.trans hV.1.2.1.1
  have hy70 : me_i M 70 2 = nI y := hV.1.2.1.1
  by_cases hx : in_v x1 10 400 = 0
  · refine ⟨-2, M, M, ?_, ?_, h.next hn⟩
    · unfold f_X11_yearOf b_X11_yearOf
      rw [ck_e (lk_0 hL), cP_e (e_isWithin _ _ _ _), if_pos hx]
    · unfold f_X12_yearOf b_X12_yearOf
      rw [ck_e (lk_70 hL), cP_e (e_in _ _ _ _), if_pos hx]
  · have hx2 := hx
    rw [c_10, c_400] at hx2
    obtain ⟨v, hv1, hv2, rfl⟩ := in_yes (by decide) (by decide) hx2
    by_cases h0 : nd = 0
    · subst h0
      refine ⟨nI y, me_si M 4 1 (nI v), me_si (me_si M 4 1 (nI v)) 70 2 (nI v), ?_, ?_, ?_⟩
      · unfold f_X11_yearOf b_X11_yearOf
        rw [ck_e (lk_0 hL), cP_e (e_isWithin _ _ _ _), if_neg hx, gr_e (lk_0 hL) (lr_0_1 hL), gr_e (lk_3 hL) (lr_3_2 hL), gi_e (lk_7 hL), hd7, if_pos (by decide +kernel), gr_e (lk_0 hL) (lr_0_1 hL), gr_e (lk_3 hL) (lr_3_0 hL), gi_e (lk_4 hL), gr_e (lk_0 hL) (lr_0_1 hL), gr_e (lk_3 hL) (lr_3_0 hL), pi_e (lk_4 hL), hy4]
      · have hL2 : Lay (me_si M 4 1 (nI v)) := hL
        have hd70b : me_i (me_si M 4 1 (nI v)) 70 13 = nI 0 := hd70
        have hy70b : me_i (me_si M 4 1 (nI v)) 70 2 = nI y := hy70
        unfold f_X12_yearOf b_X12_yearOf
        rw [ck_e (lk_70 hL2), cP_e (e_in _ _ _ _), if_neg hx, gi_e (lk_70 hL2), hd70b, if_pos (by decide +kernel), gi_e (lk_70 hL2), hy70b, pi_e (lk_70 hL2)]
      · obtain ⟨⟨h1, h2, h3, h4, h5, h6⟩, hVR, hVK, hVD, hVS⟩ := hV.later
        obtain ⟨⟨r1, r2, r3⟩, r4, r5, ⟨r6, r7⟩, r8, r9⟩ := hR
        refine h.cou rfl (fun a k _ => rfl) ⟨hCL, π, hCP, c, v, t, D, 0, sg, ⟨⟨h1, ⟨rfl, hv1, hv2⟩, h3, h4, h5, h6⟩, hVR, hVK, ⟨fun i hi => absurd hi (by omega), fun i j d1 d2 _ hj => absurd hj (by omega)⟩, hVS⟩, ⟨r1, rfl, r3⟩, ?_, r5, ⟨r6, fun i hi => absurd hi (by omega)⟩, r8, r9⟩ (fun a k ha => ?_)
        · exact rk_same r4 (fun k f hk => by repeat rw [i_si, if_neg (by omega)]) (fun a k _ _ _ => by unfold st_m; repeat rw [i_si, if_neg (by omega)])
        · repeat rw [i_si, if_neg (by omega)]
    · refine ⟨-3, M, M, ?_, ?_, h.next hn⟩
      · unfold f_X11_yearOf b_X11_yearOf
        rw [ck_e (lk_0 hL), cP_e (e_isWithin _ _ _ _), if_neg hx, gr_e (lk_0 hL) (lr_0_1 hL), gr_e (lk_3 hL) (lr_3_2 hL), gi_e (lk_7 hL), hd7, if_neg (nI_nle (by omega) (by omega))]
      · unfold f_X12_yearOf b_X12_yearOf
        rw [ck_e (lk_70 hL), cP_e (e_in _ _ _ _), if_neg hx, gi_e (lk_70 hL), hd70, if_neg (nI_nle (by omega) (by omega))]
/-- seen -/
theorem iv_op22 : ∀ n M, n < 512 → Iv n M → op_22 (Iv (n + 1)) M := by
  intro n M hn h x1 x2
  obtain ⟨hL, hlen, ⟨hCL, π, hCP, c, y, t, D, nd, sg, hV, hR⟩, hJ, hP, hI⟩ := id h
  have hsg := hV.1.2.2.2.2.2
  have hs21 : me_i M 21 0 = nI sg := hR.2.2.2.2.1.1.trans hsg.1
  have hs70 : me_i M 70 6 = nI sg := hsg.1
  by_cases hx : in_v x1 0 5 = 0
  · refine ⟨-1, M, M, ?_, ?_, h.next hn⟩
    · unfold f_X11_seen b_X11_seen
      rw [ck_e (lk_0 hL), cP_e (e_isWithin _ _ _ _), if_pos hx]
    · unfold f_X12_seen b_X12_seen
      rw [ck_e (lk_70 hL), cP_e (e_in _ _ _ _), if_pos hx]
  by_cases hz : in_v x2 1 20 = 0
  · refine ⟨-2, M, M, ?_, ?_, h.next hn⟩
    · unfold f_X11_seen b_X11_seen
      rw [ck_e (lk_0 hL), cP_e (e_isWithin _ _ _ _), if_neg hx, cP_e (e_isWithin _ _ _ _), if_pos hz]
    · unfold f_X12_seen b_X12_seen
      rw [ck_e (lk_70 hL), cP_e (e_in _ _ _ _), if_neg hx, cP_e (e_in _ _ _ _), if_pos hz]
  have hx2 := hx
  have hz2 := hz
  rw [c_0, c_5] at hx2
  rw [c_1, c_20] at hz2
  obtain ⟨k, -, hk5, rfl⟩ := in_yes (by decide) (by decide) hx2
  obtain ⟨v, hv1, hv2, rfl⟩ := in_yes (by decide) (by decide) hz2
  by_cases h6 : sg < 6
  · let M1 : Me := me_si (me_si (me_si M 22 sg (nI k)) 23 sg (nI v)) 21 0 (nI (sg + 1))
    have hL2 : Lay M1 := hL
    have hb70 : me_i M1 70 6 = nI sg := hs70
    refine ⟨nI (sg + 1), M1, me_si (me_si (me_si M1 74 (2 * sg) (nI k)) 74 (2 * sg + 1) (nI v)) 70 6 (nI (sg + 1)), ?_, ?_, ?_⟩
    · unfold f_X11_seen b_X11_seen
      rw [ck_e (lk_0 hL), cP_e (e_isWithin _ _ _ _), if_neg hx, cP_e (e_isWithin _ _ _ _), if_neg hz, gr_e (lk_0 hL) (lr_0_1 hL), gr_e (lk_3 hL) (lr_3_3 hL), gi_e (lk_21 hL), hs21, c_6, if_pos (nI_lt h6 (by decide)), gr_e (lk_0 hL) (lr_0_1 hL), gr_e (lk_3 hL) (lr_3_3 hL)]
      have e : f_X9_add 21 (nI k) (nI v) M = some M1 := by
        unfold f_X9_add b_X9_add
        rw [ck_e (lk_21 hL), gi_e (lk_21 hL), hs21, c_6, if_neg (nI_ge h6 (by decide)), gr_e (lk_21 hL) (lr_21_1 hL), gi_e (lk_21 hL), hs21, si_e (lk_22 hL) h6 (by decide), gr_e (lk_21 (la_si hL)) (lr_21_2 (la_si hL)), gi_e (lk_21 (la_si hL)), i_si, if_neg (by omega), hs21, si_e (lk_23 (la_si hL)) h6 (by decide), gi_e (lk_21 (la_si (la_si hL))), i_si, if_neg (by omega), i_si, if_neg (by omega), hs21, pi_e (lk_21 (la_si (la_si hL))), nI_1]
        rfl
      rw [cM_e e, gr_e (lk_0 hL2) (lr_0_1 hL2), gr_e (lk_3 hL2) (lr_3_3 hL2), gi_e (lk_21 hL2)]
      rfl
    · unfold f_X12_seen b_X12_seen
      rw [ck_e (lk_70 hL2), cP_e (e_in _ _ _ _), if_neg hx, cP_e (e_in _ _ _ _), if_neg hz, gi_e (lk_70 hL2), hb70, c_6, if_neg (nI_ne (by omega) (by decide) (by omega)), gr_e (lk_70 hL2) (lr_70_7 hL2), gi_e (lk_70 hL2), hb70, c_2, pk_mul, si_e (lk_74 hL2) (by omega) (by decide), gr_e (lk_70 (la_si hL2)) (lr_70_7 (la_si hL2)), gi_e (lk_70 (la_si hL2)), i_si, if_neg (by omega), hb70, pk_mul, nI_1, si_e (lk_74 (la_si hL2)) (by omega) (by decide), gi_e (lk_70 (la_si (la_si hL2))), i_si, if_neg (by omega), i_si, if_neg (by omega), hb70, pi_e (lk_70 (la_si (la_si hL2))), gi_e (lk_70 (la_si (la_si (la_si hL2)))), i_si, if_pos (by omega), nI_1]
    · obtain ⟨⟨h1, h2, h3, h4, h5, h6b⟩, hVR, hVK, hVD, hVS⟩ := hV.later
      obtain ⟨⟨r1, r2, r3⟩, r4, r5, ⟨r6, r7⟩, ⟨r8, r8b⟩, r9⟩ := hR
      refine h.cou rfl (fun a k _ => rfl) ⟨hCL, π, hCP, c, y, t, D, nd, sg + 1, ⟨⟨h1, h2, h3, h4, h5, ⟨rfl, by omega⟩⟩, hVR, hVK, hVD, ?_⟩, ⟨r1, r2, r3⟩, ?_, r5, ⟨r6, ?_⟩, ⟨rfl, ?_⟩, r9⟩ (fun a k ha => ?_)
      · intro i hi
        by_cases hie : i = sg
        · subst hie
          refine ⟨k, v, ?_, by omega, ?_, hv1, hv2⟩
          · unfold st_m; rw [i_si, if_neg (by omega), i_si, if_neg (by omega), i_si, if_pos (by omega)]
          · unfold st_m; rw [i_si, if_neg (by omega), i_si, if_pos (by omega)]
        · obtain ⟨k2, m2, g1, g2, g3, g4, g5⟩ := hVS i (by omega)
          refine ⟨k2, m2, ?_, g2, ?_, g4, g5⟩
          · rw [← g1]; unfold st_m; repeat rw [i_si, if_neg (by omega)]
          · rw [← g3]; unfold st_m; repeat rw [i_si, if_neg (by omega)]
      · exact rk_same r4 (fun k f hk => by repeat rw [i_si, if_neg (by omega)]) (fun a k _ _ _ => by unfold st_m; repeat rw [i_si, if_neg (by omega)])
      · exact rd_same hCP hV.nd r7 (fun k f hk => by repeat rw [i_si, if_neg (by omega)]) (fun k => by unfold st_m; repeat rw [i_si, if_neg (by omega)])
      · intro i hi
        by_cases hie : i = sg
        · subst hie
          refine ⟨?_, ?_⟩
          · unfold st_m
            rw [i_si, if_neg (by omega), i_si, if_neg (by omega), i_si, if_neg (by omega), i_si, if_neg (by omega), i_si, if_neg (by omega), i_si, if_pos (by omega), i_si, if_neg (by omega), i_si, if_neg (by omega), i_si, if_pos (by omega)]
          · unfold st_m
            rw [i_si, if_neg (by omega), i_si, if_neg (by omega), i_si, if_neg (by omega), i_si, if_neg (by omega), i_si, if_pos (by omega), i_si, if_neg (by omega), i_si, if_pos (by omega)]
        · obtain ⟨g1, g2⟩ := r8b i (by omega)
          refine ⟨?_, ?_⟩
          · unfold st_m at g1 ⊢
            repeat rw [i_si, if_neg (by omega)]
            exact g1
          · unfold st_m at g2 ⊢
            repeat rw [i_si, if_neg (by omega)]
            exact g2
      · repeat rw [i_si, if_neg (by omega)]
  · have he : sg = 6 := by omega
    subst he
    refine ⟨-4, M, M, ?_, ?_, h.next hn⟩
    · unfold f_X11_seen b_X11_seen
      rw [ck_e (lk_0 hL), cP_e (e_isWithin _ _ _ _), if_neg hx, cP_e (e_isWithin _ _ _ _), if_neg hz, gr_e (lk_0 hL) (lr_0_1 hL), gr_e (lk_3 hL) (lr_3_3 hL), gi_e (lk_21 hL), hs21, c_6, if_neg (nI_nlt (Nat.le_refl _) (by decide))]
    · unfold f_X12_seen b_X12_seen
      rw [ck_e (lk_70 hL), cP_e (e_in _ _ _ _), if_neg hx, cP_e (e_in _ _ _ _), if_neg hz, gi_e (lk_70 hL), hs70, c_6, if_pos rfl]

theorem tv_neg {t : Nat} {x : Int32} (h : x < 0) : tv t x = 0 := by unfold tv; rw [if_pos h]
theorem tv_big {t k : Nat} (h : 6 ≤ k) (h2 : k < 2 ^ 31) : tv t (nI k) = 0 := by
  unfold tv
  rw [if_neg (nI_pos h2), if_pos]
  rw [c_6]; exact nI_le h h2
/-- told -/
theorem iv_op29 : ∀ n M, n < 512 → Iv n M → op_29 (Iv (n + 1)) M := by
  intro n M hn h x1
  obtain ⟨hL, hlen, ⟨hCL, π, hCP, c, y, t, D, nd, sg, hV, hR⟩, hJ, ⟨p, hp, hp1, hp2, hp3⟩, hI⟩ := id h
  have hc := hV.1.1
  have hc5 := hc.2.2
  have h4 : me_i M 4 0 = nI c := hR.1.1.trans hc.1
  have h70 : me_i M 70 0 = nI c := hc.1
  have ht70 : me_i M 70 3 = nI t := hV.1.2.2.1.1
  have ht := hV.1.2.2.1.2
  have ex : f_X11_told 0 x1 M = ck M 0 11 (b_X11_told 0 x1 M) := rfl
  have em : f_X12_told 70 x1 M = ck M 70 12 (b_X12_told 70 x1 M) := rfl
  by_cases q0 : x1 = 0
  · refine ⟨nI p, ?_, ?_, h.next hn⟩
    · rw [ex, ck_e (lk_0 hL)]; unfold b_X11_told; rw [if_pos q0, gr_e (lk_0 hL) (lr_0_0 hL), gi_e (lk_1 hL), hp1]
    · rw [em, ck_e (lk_70 hL)]; unfold b_X12_told; rw [if_pos (by rw [q0]; decide), if_pos (by rw [q0]; decide), if_pos q0, gi_e (lk_70 hL), hp2]
  by_cases q1 : x1 = 1
  · refine ⟨nI c, ?_, ?_, h.next hn⟩
    · rw [ex, ck_e (lk_0 hL)]; unfold b_X11_told; rw [if_neg q0, if_pos q1, gr_e (lk_0 hL) (lr_0_1 hL), gr_e (lk_3 hL) (lr_3_0 hL), gi_e (lk_4 hL), h4]
    · rw [em, ck_e (lk_70 hL)]; unfold b_X12_told; rw [if_pos (by rw [q1]; decide), if_pos (by rw [q1]; decide), if_neg q0, if_pos q1, gi_e (lk_70 hL), h70]
  by_cases q2 : x1 = 2
  · refine ⟨nI t, ?_, ?_, h.next hn⟩
    · rw [ex, ck_e (lk_0 hL)]; unfold b_X11_told; rw [if_neg q0, if_neg q1, if_pos q2, gr_e (lk_0 hL) (lr_0_1 hL), cP_e (e_knightBits hCL ht (fun k hk => (hR.2.1 k hk).1))]
    · rw [em, ck_e (lk_70 hL)]; unfold b_X12_told; rw [if_pos (by rw [q2]; decide), if_pos (by rw [q2]; decide), if_neg q0, if_neg q1, if_pos q2, gi_e (lk_70 hL), ht70]
  by_cases q3 : x1 = 3
  · refine ⟨me_i M 70 8, ?_, ?_, h.next hn⟩
    · rw [ex, ck_e (lk_0 hL)]; unfold b_X11_told; rw [if_neg q0, if_neg q1, if_neg q2, if_pos q3, gr_e (lk_0 hL) (lr_0_1 hL), gi_e (lk_3 hL), hR.2.2.2.2.2]; rfl
    · rw [em, ck_e (lk_70 hL)]; unfold b_X12_told; rw [if_pos (by rw [q3]; decide), if_pos (by rw [q3]; decide), if_neg q0, if_neg q1, if_neg q2, if_pos q3, gi_e (lk_70 hL)]
  by_cases q4 : x1 = 4
  · refine ⟨me_i M 70 2, ?_, ?_, h.next hn⟩
    · rw [ex, ck_e (lk_0 hL)]; unfold b_X11_told; rw [if_neg q0, if_neg q1, if_neg q2, if_neg q3, if_pos q4, gr_e (lk_0 hL) (lr_0_1 hL), gr_e (lk_3 hL) (lr_3_0 hL), gi_e (lk_4 hL)]
      exact congrArg some hR.1.2.1
    · rw [em, ck_e (lk_70 hL)]; unfold b_X12_told; rw [if_pos (by rw [q4]; decide), if_pos (by rw [q4]; decide), if_neg q0, if_neg q1, if_neg q2, if_neg q3, if_pos q4, gi_e (lk_70 hL)]
  by_cases q5 : x1 = 5
  · refine ⟨me_i M 70 6, ?_, ?_, h.next hn⟩
    · rw [ex, ck_e (lk_0 hL)]; unfold b_X11_told; rw [if_neg q0, if_neg q1, if_neg q2, if_neg q3, if_neg q4, if_pos q5, gr_e (lk_0 hL) (lr_0_1 hL), gr_e (lk_3 hL) (lr_3_3 hL), gi_e (lk_21 hL)]
      exact congrArg some hR.2.2.2.2.1.1
    · rw [em, ck_e (lk_70 hL)]; unfold b_X12_told; rw [if_pos (by rw [q5]; decide), if_pos (by rw [q5]; decide), if_neg q0, if_neg q1, if_neg q2, if_neg q3, if_neg q4, if_pos q5, gi_e (lk_70 hL)]; rfl
  have exk : f_X11_toldOfKnight 0 x1 M = ck M 0 11 (b_X11_toldOfKnight 0 x1 M) := rfl
  have exr : f_X11_toldOfRoad 0 x1 M = ck M 0 11 (b_X11_toldOfRoad 0 x1 M) := rfl
  by_cases hr : x1 < 100
  · have hr2 : ¬ (100 : Int32) ≤ x1 := fun q => by rw [Int32.lt_iff_toInt_lt] at hr; rw [Int32.le_iff_toInt_le] at q; omega
    by_cases hk : x1 < 10
    · refine ⟨-2, ?_, ?_, h.next hn⟩
      · rw [ex, ck_e (lk_0 hL)]; unfold b_X11_told
        have e : f_X11_toldOfKnight 0 x1 M = some (-2) := by
          rw [exk, ck_e (lk_0 hL)]; unfold b_X11_toldOfKnight; simp only [let_v]
          rw [gr_e (lk_0 hL) (lr_0_1 hL), cR_e (e_knightAt hCL), gi_e (kn_kind hCL), kn_there hR, if_pos (tv_neg (ten_neg hk))]
        rw [if_neg q0, if_neg q1, if_neg q2, if_neg q3, if_neg q4, if_neg q5, if_neg hr2, cP_e e]; rfl
      · rw [em, ck_e (lk_70 hL)]; unfold b_X12_told; rw [if_pos hr, if_pos hk, if_neg q0, if_neg q1, if_neg q2, if_neg q3, if_neg q4, if_neg q5]; rfl
    · have hk2 := hk
      rw [c_10] at hk2
      obtain ⟨v, hv1, hv2, rfl⟩ := nn_of (by decide) hk2
      have hv3 : v < 100 := by
        rw [c_100, n_lt (by omega) (by decide)] at hr; exact hr
      have ediv : nI v / 10 - 1 = nI (v / 10 - 1) := by
        rw [c_10, pk_div (by omega) (by decide) (by decide), c_1, pk_sub (by omega)]
      have erem : nI v - nI v / 10 * 10 = nI (v % 10) := by
        rw [c_10, pk_rem (by omega) (by decide) (by decide)]
      have hval : ∃ r : Int32, f_X11_toldOfKnight 0 (nI v) M = some r ∧ b_X12_told 70 (nI v) M = some r := by
        by_cases hb : tv t (nI (v / 10 - 1)) = 0
        · refine ⟨-2, ?_, ?_⟩
          · rw [exk, ck_e (lk_0 hL)]; unfold b_X11_toldOfKnight; simp only [let_v]
            rw [gr_e (lk_0 hL) (lr_0_1 hL), ediv, cR_e (e_knightAt hCL), gi_e (kn_kind hCL), kn_there hR, if_pos hb]
          · unfold b_X12_told; simp only [let_v]
            rw [if_pos hr, if_neg hk, ediv, cP_e (e_isThere (lk_70 hL) ht70 ht), if_pos hb]; rfl
        · obtain ⟨k, hk6, hke, hkb⟩ := tv_yes hb
          obtain ⟨z1, z2, z3, z4, z5, z6⟩ := (hR.2.1 k hk6).2 hkb
          have hkk := hCL.2.2.2.2.2.2.2 k hk6
          by_cases hr1 : v % 10 = 0
          · refine ⟨me_i M 72 k, ?_, ?_⟩
            · rw [exk, ck_e (lk_0 hL)]; unfold b_X11_toldOfKnight; simp only [let_v]
              rw [gr_e (lk_0 hL) (lr_0_1 hL), ediv, cR_e (e_knightAt hCL), gi_e (kn_kind hCL), kn_there hR, if_neg hb, erem, hr1, cP_e (e_isWithin _ _ _ _), if_neg (by decide +kernel), if_pos (by decide +kernel), gi_e (kn_kind hCL), hke, kn_k hk6, z2]; rfl
            · unfold b_X12_told; simp only [let_v]
              rw [if_pos hr, if_neg hk, ediv, cP_e (e_isThere (lk_70 hL) ht70 ht), if_neg hb, erem, hr1, if_pos (by decide +kernel), if_pos (by decide +kernel), gr_e (lk_70 hL) (lr_70_4 hL), hke, li_e (lk_72 hL) hk6 (by decide)]; rfl
          · by_cases hr1b : v % 10 = 1
            · refine ⟨me_i M 73 k, ?_, ?_⟩
              · rw [exk, ck_e (lk_0 hL)]; unfold b_X11_toldOfKnight; simp only [let_v]
                rw [gr_e (lk_0 hL) (lr_0_1 hL), ediv, cR_e (e_knightAt hCL), gi_e (kn_kind hCL), kn_there hR, if_neg hb, erem, hr1b, cP_e (e_isWithin _ _ _ _), if_neg (by decide +kernel), if_neg (by decide +kernel), gi_e (kn_kind hCL), hke, kn_k hk6, z1]; rfl
              · unfold b_X12_told; simp only [let_v]
                rw [if_pos hr, if_neg hk, ediv, cP_e (e_isThere (lk_70 hL) ht70 ht), if_neg hb, erem, hr1b, if_pos (by decide +kernel), if_neg (by decide +kernel), gr_e (lk_70 hL) (lr_70_5 hL), hke, li_e (lk_73 hL) hk6 (by decide)]; rfl
            · have hin : in_v (nI (v % 10)) 0 1 = 0 := by
                unfold in_v
                rw [if_neg (nI_pos (by omega)), if_pos]
                rw [c_1]; exact nI_lt (by omega) (by omega)
              refine ⟨-2, ?_, ?_⟩
              · rw [exk, ck_e (lk_0 hL)]; unfold b_X11_toldOfKnight; simp only [let_v]
                rw [gr_e (lk_0 hL) (lr_0_1 hL), ediv, cR_e (e_knightAt hCL), gi_e (kn_kind hCL), kn_there hR, if_neg hb, erem, cP_e (e_isWithin _ _ _ _), if_pos hin]
              · unfold b_X12_told; simp only [let_v]
                rw [if_pos hr, if_neg hk, ediv, cP_e (e_isThere (lk_70 hL) ht70 ht), if_neg hb, erem, if_neg (by rw [c_1]; exact nI_ge (by omega) (by omega))]; rfl
      obtain ⟨r, hr1, hr3⟩ := hval
      refine ⟨r, ?_, ?_, h.next hn⟩
      · rw [ex, ck_e (lk_0 hL)]; unfold b_X11_told
        rw [if_neg q0, if_neg q1, if_neg q2, if_neg q3, if_neg q4, if_neg q5, if_neg hr2, cP_e hr1]; rfl
      · rw [em, ck_e (lk_70 hL)]; exact hr3
  · have hr2 : (100 : Int32) ≤ x1 := by
      rw [Int32.lt_iff_toInt_lt] at hr; rw [Int32.le_iff_toInt_le]; omega
    have hr3 := hr
    rw [c_100] at hr3
    obtain ⟨v, hv1, hv2, rfl⟩ := nn_of (by decide) hr3
    have ediv : nI v / 100 - 1 = nI (v / 100 - 1) := by
      rw [c_100, pk_div (by omega) (by decide) (by decide), c_1, pk_sub (by omega)]
    have erem : nI v - nI v / 100 * 100 = nI (v % 100) := by
      rw [c_100, pk_rem (by omega) (by decide) (by decide)]
    have hval : ∃ r : Int32, f_X11_toldOfRoad 0 (nI v) M = some r ∧ b_X12_told 70 (nI v) M = some r := by
      by_cases g1 : cv c (nI (v / 100 - 1)) = 0
      · refine ⟨-2, ?_, ?_⟩
        · rw [exr, ck_e (lk_0 hL)]; unfold b_X11_toldOfRoad; simp only [let_v]
          rw [ediv, erem, gr_e (lk_0 hL) (lr_0_1 hL), gr_e (lk_3 hL) (lr_3_0 hL), cP_e (e_hasChapel (lk_4 hL) h4 hc5), if_pos g1]
        · unfold b_X12_told; simp only [let_v]
          rw [if_neg hr, ediv, erem, cP_e (e_isChapel (lk_70 hL) h70 (by omega) hc5), if_pos g1]; rfl
      by_cases g2 : cv c (nI (v % 100)) = 0
      · refine ⟨-2, ?_, ?_⟩
        · rw [exr, ck_e (lk_0 hL)]; unfold b_X11_toldOfRoad; simp only [let_v]
          rw [ediv, erem, gr_e (lk_0 hL) (lr_0_1 hL), gr_e (lk_3 hL) (lr_3_0 hL), cP_e (e_hasChapel (lk_4 hL) h4 hc5), if_neg g1, gr_e (lk_0 hL) (lr_0_1 hL), gr_e (lk_3 hL) (lr_3_0 hL), cP_e (e_hasChapel (lk_4 hL) h4 hc5), if_pos g2]
        · unfold b_X12_told; simp only [let_v]
          rw [if_neg hr, ediv, erem, cP_e (e_isChapel (lk_70 hL) h70 (by omega) hc5), if_neg g1, cP_e (e_isChapel (lk_70 hL) h70 (by omega) hc5), if_pos g2]; rfl
      by_cases g3 : nI (v / 100 - 1) = nI (v % 100)
      · refine ⟨-2, ?_, ?_⟩
        · rw [exr, ck_e (lk_0 hL)]; unfold b_X11_toldOfRoad; simp only [let_v]
          rw [ediv, erem, gr_e (lk_0 hL) (lr_0_1 hL), gr_e (lk_3 hL) (lr_3_0 hL), cP_e (e_hasChapel (lk_4 hL) h4 hc5), if_neg g1, gr_e (lk_0 hL) (lr_0_1 hL), gr_e (lk_3 hL) (lr_3_0 hL), cP_e (e_hasChapel (lk_4 hL) h4 hc5), if_neg g2, if_pos g3]
        · unfold b_X12_told; simp only [let_v]
          rw [if_neg hr, ediv, erem, cP_e (e_isChapel (lk_70 hL) h70 (by omega) hc5), if_neg g1, cP_e (e_isChapel (lk_70 hL) h70 (by omega) hc5), if_neg g2, if_pos g3]; rfl
      obtain ⟨a, ha, ea⟩ := cv_yes hc5 g1
      obtain ⟨b, hb, eb⟩ := cv_yes hc5 g2
      refine ⟨me_i M 71 (5 * a + b), ?_, ?_⟩
      · rw [exr, ck_e (lk_0 hL)]; unfold b_X11_toldOfRoad; simp only [let_v]
        rw [ediv, erem, gr_e (lk_0 hL) (lr_0_1 hL), gr_e (lk_3 hL) (lr_3_0 hL), cP_e (e_hasChapel (lk_4 hL) h4 hc5), if_neg g1, gr_e (lk_0 hL) (lr_0_1 hL), gr_e (lk_3 hL) (lr_3_0 hL), cP_e (e_hasChapel (lk_4 hL) h4 hc5), if_neg g2, if_neg g3, gr_e (lk_0 hL) (lr_0_1 hL), gr_e (lk_3 hL) (lr_3_0 hL), ea, eb, cP_e (e_roadDays (lk_4 hL) (lr_4_2 hL) (lk_5 hL) (by omega) (by omega))]
        exact congrArg some (hR.1.2.2 (5 * a + b) (by omega))
      · unfold b_X12_told; simp only [let_v]
        rw [if_neg hr, ediv, erem, cP_e (e_isChapel (lk_70 hL) h70 (by omega) hc5), if_neg g1, cP_e (e_isChapel (lk_70 hL) h70 (by omega) hc5), if_neg g2, if_neg g3, gr_e (lk_70 hL) (lr_70_1 hL), ea, eb, c_5, pk_mul, nI_add, li_e (lk_71 hL) (by omega) (by decide)]
        rfl
    obtain ⟨r, hr4, hr5⟩ := hval
    refine ⟨r, ?_, ?_, h.next hn⟩
    · rw [ex, ck_e (lk_0 hL)]; unfold b_X11_told
      rw [if_neg q0, if_neg q1, if_neg q2, if_neg q3, if_neg q4, if_neg q5, if_pos hr2, cP_e hr4]; rfl
    · rw [em, ck_e (lk_70 hL)]; exact hr5

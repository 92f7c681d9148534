/-- roads of a land -/
theorem e_roadDays {M : Me} {l r a b : Nat} (hk : me_k M l = some (5, 3)) (hr : me_r M l 2 = some r) (hk2 : me_k M r = some (20, 25)) (ha : a < 5) (hb : b < 5) : f_X5_roadDays l (nI a) (nI b) M = some (me_i M r (5 * a + b)) := by
  unfold f_X5_roadDays b_X5_roadDays
  simp only [let_v]
  rw [ck_e hk, c_5, pk_mul, nI_add, if_neg (nI_pos (by omega)), gr_e hk hr, al_e hk2, if_neg (nI_ge (by omega) (by omega)), gr_e hk hr, li_e hk2 (by omega) (by omega), Nat.mul_comm a 5]
  rfl
theorem e_layRoad {M : Me} {l r a b c0 : Nat} {v : Int32} (hk : me_k M l = some (5, 3)) (hr : me_r M l 2 = some r) (hk2 : me_k M r = some (20, 25)) (hv : me_i M l 0 = nI c0) (hc : c0 ≤ 5) (ha : a < c0) (hb : b < c0) : f_X5_layRoad l (nI a) (nI b) v M = some (me_si (me_si M r (5 * a + b) v) r (5 * b + a) v) := by
  unfold f_X5_layRoad b_X5_layRoad
  rw [ck_e hk, cP_e (e_hasChapel hk hv hc), cv_one hc ha, if_neg (by decide), cP_e (e_hasChapel hk hv hc), cv_one hc hb, if_neg (by decide), gr_e hk hr, c_5, pk_mul, nI_add, si_e hk2 (by omega) (by omega), gr_e (by rw [k_si]; exact hk) (by rw [r_si]; exact hr), pk_mul, nI_add, si_e (by rw [k_si]; exact hk2) (by omega) (by omega), Nat.mul_comm a 5, Nat.mul_comm b 5]
  rfl
/-- road -/
theorem iv_op1 : ∀ n M, n < 512 → Iv n M → op_1 (Iv (n + 1)) M := by
  intro n M hn h x1 x2 x3
  obtain ⟨hL, hlen, ⟨hCL, π, hCP, c, y, t, D, nd, sg, hV, hR⟩, hJ, hP, hI⟩ := id h
  have hc := hV.1.1
  have hc5 := hc.2.2
  have h4 : me_i M 4 0 = nI c := hR.1.1.trans hc.1
  have h70 : me_i M 70 0 = nI c := hc.1
  have ex : f_X11_road 0 x1 x2 x3 M = ck M 0 11 (b_X11_road 0 x1 x2 x3 M) := rfl
  have em : ∀ N, f_X12_road 70 x1 x2 x3 N = ck N 70 12 (b_X12_road 70 x1 x2 x3 N) := fun _ => rfl
  by_cases h1 : cv c x1 = 0
  · refine ⟨-1, M, M, ?_, ?_, h.next hn⟩
    · rw [ex, ck_e (lk_0 hL)]; unfold b_X11_road
      rw [gr_e (lk_0 hL) (lr_0_1 hL), gr_e (lk_3 hL) (lr_3_0 hL), cP_e (e_hasChapel (lk_4 hL) h4 hc5), if_pos h1]
    · rw [em, ck_e (lk_70 hL)]; unfold b_X12_road
      rw [cP_e (e_isChapel (lk_70 hL) h70 (by omega) hc5), if_pos h1]
  by_cases h2 : cv c x2 = 0
  · refine ⟨-1, M, M, ?_, ?_, h.next hn⟩
    · rw [ex, ck_e (lk_0 hL)]; unfold b_X11_road
      rw [gr_e (lk_0 hL) (lr_0_1 hL), gr_e (lk_3 hL) (lr_3_0 hL), cP_e (e_hasChapel (lk_4 hL) h4 hc5), if_neg h1, gr_e (lk_0 hL) (lr_0_1 hL), gr_e (lk_3 hL) (lr_3_0 hL), cP_e (e_hasChapel (lk_4 hL) h4 hc5), if_pos h2]
    · rw [em, ck_e (lk_70 hL)]; unfold b_X12_road
      rw [cP_e (e_isChapel (lk_70 hL) h70 (by omega) hc5), if_neg h1, cP_e (e_isChapel (lk_70 hL) h70 (by omega) hc5), if_pos h2]
  by_cases h3 : x1 = x2
  · refine ⟨-1, M, M, ?_, ?_, h.next hn⟩
    · rw [ex, ck_e (lk_0 hL)]; unfold b_X11_road
      rw [gr_e (lk_0 hL) (lr_0_1 hL), gr_e (lk_3 hL) (lr_3_0 hL), cP_e (e_hasChapel (lk_4 hL) h4 hc5), if_neg h1, gr_e (lk_0 hL) (lr_0_1 hL), gr_e (lk_3 hL) (lr_3_0 hL), cP_e (e_hasChapel (lk_4 hL) h4 hc5), if_neg h2, if_pos h3]
    · rw [em, ck_e (lk_70 hL)]; unfold b_X12_road
      rw [cP_e (e_isChapel (lk_70 hL) h70 (by omega) hc5), if_neg h1, cP_e (e_isChapel (lk_70 hL) h70 (by omega) hc5), if_neg h2, if_pos h3]
  by_cases hx : in_v x3 0 99 = 0
  · refine ⟨-2, M, M, ?_, ?_, h.next hn⟩
    · rw [ex, ck_e (lk_0 hL)]; unfold b_X11_road
      rw [gr_e (lk_0 hL) (lr_0_1 hL), gr_e (lk_3 hL) (lr_3_0 hL), cP_e (e_hasChapel (lk_4 hL) h4 hc5), if_neg h1, gr_e (lk_0 hL) (lr_0_1 hL), gr_e (lk_3 hL) (lr_3_0 hL), cP_e (e_hasChapel (lk_4 hL) h4 hc5), if_neg h2, if_neg h3, cP_e (e_isWithin _ _ _ _), if_pos hx]
    · rw [em, ck_e (lk_70 hL)]; unfold b_X12_road
      rw [cP_e (e_isChapel (lk_70 hL) h70 (by omega) hc5), if_neg h1, cP_e (e_isChapel (lk_70 hL) h70 (by omega) hc5), if_neg h2, if_neg h3, cP_e (e_in _ _ _ _), if_pos hx]
  obtain ⟨a, ha, rfl⟩ := cv_yes hc5 h1
  obtain ⟨b, hb, rfl⟩ := cv_yes hc5 h2
  have hx2 := hx
  rw [c_0, c_99] at hx2
  obtain ⟨v, -, hv2, rfl⟩ := in_yes (by decide) (by decide) hx2
  have hab : a ≠ b := fun q => h3 (by rw [q])
  let M1 : Me := me_si (me_si M 5 (5 * a + b) (nI v)) 5 (5 * b + a) (nI v)
  have hL1 : Lay M1 := hL
  have h701 : me_i M1 70 0 = nI c := h70
  refine ⟨me_i M 5 (5 * a + b), M1, me_si (me_si M1 71 (5 * a + b) (nI v)) 71 (5 * b + a) (nI v), ?_, ?_, ?_⟩
  · rw [ex, ck_e (lk_0 hL)]; unfold b_X11_road
    rw [gr_e (lk_0 hL) (lr_0_1 hL), gr_e (lk_3 hL) (lr_3_0 hL), cP_e (e_hasChapel (lk_4 hL) h4 hc5), if_neg h1, gr_e (lk_0 hL) (lr_0_1 hL), gr_e (lk_3 hL) (lr_3_0 hL), cP_e (e_hasChapel (lk_4 hL) h4 hc5), if_neg h2, if_neg h3, cP_e (e_isWithin _ _ _ _), if_neg hx, gr_e (lk_0 hL) (lr_0_1 hL), gr_e (lk_3 hL) (lr_3_0 hL), cP_e (e_roadDays (lk_4 hL) (lr_4_2 hL) (lk_5 hL) (by omega) (by omega)), gr_e (lk_0 hL) (lr_0_1 hL), gr_e (lk_3 hL) (lr_3_0 hL), cM_e (e_layRoad (lk_4 hL) (lr_4_2 hL) (lk_5 hL) h4 hc5 ha hb)]
  · rw [em, ck_e (lk_70 hL1)]; unfold b_X12_road
    rw [cP_e (e_isChapel (lk_70 hL1) h701 (by omega) hc5), if_neg h1, cP_e (e_isChapel (lk_70 hL1) h701 (by omega) hc5), if_neg h2, if_neg h3, cP_e (e_in _ _ _ _), if_neg hx, gr_e (lk_70 hL1) (lr_70_1 hL1), c_5, pk_mul, nI_add, li_e (lk_71 hL1) (by omega) (by decide), gr_e (lk_70 hL1) (lr_70_1 hL1), si_e (lk_71 hL1) (by omega) (by decide), gr_e (lk_70 (la_si hL1)) (lr_70_1 (la_si hL1)), pk_mul, nI_add, si_e (lk_71 (la_si hL1)) (by omega) (by decide)]
    have e : me_i M1 71 (5 * a + b) = me_i M 5 (5 * a + b) := by
      rw [hR.1.2.2 (5 * a + b) (by omega)]; rfl
    rw [e]
  · obtain ⟨hVN, hVR, hVK, hVD, hVS⟩ := hV.later
    obtain ⟨⟨r1, r2, r3⟩, r4, r5, ⟨r6, r7⟩, ⟨r8, r8b⟩, r9⟩ := hR
    refine h.cou rfl (fun a k _ => rfl) ⟨hCL, π, hCP, c, y, t, D, nd, sg, ⟨hVN, ?_, hVK, hVD, hVS⟩, ⟨r1, r2, ?_⟩, ?_, r5, ⟨r6, ?_⟩, ⟨r8, r8b⟩, r9⟩ (fun a k ha => ?_)
    · intro i hi
      unfold st_m
      by_cases e1 : i = 5 * b + a
      · exact ⟨v, hv2, by rw [i_si, if_pos (by omega)]⟩
      · by_cases e2 : i = 5 * a + b
        · exact ⟨v, hv2, by rw [i_si, if_neg (by omega), i_si, if_pos (by omega)]⟩
        · obtain ⟨d, hd1, hd2⟩ := hVR i hi
          refine ⟨d, hd1, ?_⟩
          rw [← hd2]; unfold st_m
          repeat rw [i_si, if_neg (by omega)]
    · intro i hi
      unfold st_m
      by_cases e1 : i = 5 * b + a
      · rw [i_si, if_neg (by omega), i_si, if_neg (by omega), i_si, if_pos (by omega), i_si, if_pos (by omega)]
      · by_cases e2 : i = 5 * a + b
        · rw [i_si, if_neg (by omega), i_si, if_neg (by omega), i_si, if_neg (by omega), i_si, if_pos (by omega), i_si, if_neg (by omega), i_si, if_pos (by omega)]
        · have := r3 i hi
          unfold st_m at this
          repeat rw [i_si, if_neg (by omega)]
          exact this
    · exact rk_same r4 (fun k f hk => by repeat rw [i_si, if_neg (by omega)]) (fun a k _ _ _ => by unfold st_m; repeat rw [i_si, if_neg (by omega)])
    · exact rd_same hCP hV.nd r7 (fun k f hk => by repeat rw [i_si, if_neg (by omega)]) (fun k => by unfold st_m; repeat rw [i_si, if_neg (by omega)])
    · repeat rw [i_si, if_neg (by omega)]
/-- all of a court begins anew -/
def g_anew (M : Me) (c : Nat) (x : Int32) : Nat → Nat → Int32 := fun a k => if a = c + 1 ∧ k = 0 then x else if a = c + 2 ∧ k < 25 then 0 else if c + 22 ≤ a ∧ a < c + 28 ∧ k = 0 then 0 else if a = c + 4 ∧ k = 0 then 0 else if a = c + 18 ∧ k = 0 then 0 else if a = c ∧ k = 5 then 0 else me_i M a k
theorem e_beginAnew {M : Me} {c : Nat} {x : Int32} (h : CL M c) : f_X0_beginAnew c x M = some (me_w M (g_anew M c x)) := by
  obtain ⟨⟨a1, a2, a3, a4, a5, a6⟩, ⟨b1, b2, b3⟩, ⟨c1, c2⟩, ⟨d1, d2, d3⟩, e1, ⟨f1, f2, f3, f4, f5⟩, g1, g2⟩ := h
  unfold f_X0_beginAnew b_X0_beginAnew
  rw [ck_e a1, gr_e a1 a2, pi_e b1, gr_e (by rw [k_si]; exact a1) (by rw [r_si]; exact a2), gr_e (by rw [k_si]; exact b1) (by rw [r_si]; exact b2), cM_e (e_fill (by rw [k_si]; exact b3) (by decide))]
  have hl := lp_up (step := fun s : Me × Int32 => s_X0_beginAnew_21 c s.1 s.2) (fun j => (me_w M (fun a k => if a = c + 1 ∧ k = 0 then x else if a = c + 2 ∧ k < 25 then 0 else if c + 22 ≤ a ∧ a < c + 22 + j ∧ k = 0 then 0 else me_i M a k), nI j)) 6 (me_w M (fun a k => if a = c + 1 ∧ k = 0 then x else if a = c + 2 ∧ k < 25 then 0 else if c + 22 ≤ a ∧ a < c + 22 + 6 ∧ k = 0 then 0 else me_i M a k), nI 6) ?_ ?_ 0 (by decide)
  · rw [show (me_w (me_si M (c + 1) 0 x) (fun a k => if a = c + 2 ∧ k < 25 then 0 else me_i (me_si M (c + 1) 0 x) a k), (0 : Int32)) = (me_w M (fun a k => if a = c + 1 ∧ k = 0 then x else if a = c + 2 ∧ k < 25 then 0 else if c + 22 ≤ a ∧ a < c + 22 + 0 ∧ k = 0 then 0 else me_i M a k), nI 0) by
      rw [nI_0]
      congr 1
      show me_w M _ = me_w M _
      congr 1
      funext a k
      rw [i_si]
      by_cases q1 : a = c + 1 ∧ k = 0
      · rw [if_pos q1, if_neg (by omega), if_pos q1]
      · rw [if_neg q1, if_neg q1]
        by_cases q2 : a = c + 2 ∧ k < 25
        · rw [if_pos q2, if_pos q2]
        · rw [if_neg q2, if_neg q2, if_neg (by omega)]]
    rw [hl]
    simp only [Option.bind_some]
    rw [gr_e (by rw [k_w]; exact a1) (by rw [r_w]; exact a4), pi_e (by rw [k_w]; exact d1), gr_e (by rw [k_si, k_w]; exact a1) (by rw [r_si, r_w]; exact a5), pi_e (by rw [k_si, k_w]; exact f1), pi_e (by rw [k_si, k_si, k_w]; exact a1)]
    congr 1
    show me_w M _ = me_w M _
    congr 1
    funext a k
    unfold g_anew
    show (if a = c ∧ k = 5 then (0 : Int32) else if a = c + 18 ∧ k = 0 then 0 else if a = c + 4 ∧ k = 0 then 0 else if a = c + 1 ∧ k = 0 then x else if a = c + 2 ∧ k < 25 then 0 else if c + 22 ≤ a ∧ a < c + 22 + 6 ∧ k = 0 then 0 else me_i M a k) = _
    by_cases q6 : a = c ∧ k = 5
    · rw [if_pos q6, if_neg (by omega), if_neg (by omega), if_neg (by omega), if_neg (by omega), if_neg (by omega), if_pos q6]
    · rw [if_neg q6]
      by_cases q5 : a = c + 18 ∧ k = 0
      · rw [if_pos q5, if_neg (by omega), if_neg (by omega), if_neg (by omega), if_neg (by omega), if_pos q5]
      · rw [if_neg q5]
        by_cases q4 : a = c + 4 ∧ k = 0
        · rw [if_pos q4, if_neg (by omega), if_neg (by omega), if_neg (by omega), if_pos q4]
        · rw [if_neg q4]
          by_cases q1 : a = c + 1 ∧ k = 0
          · rw [if_pos q1, if_pos q1]
          · rw [if_neg q1, if_neg q1]
            by_cases q2 : a = c + 2 ∧ k < 25
            · rw [if_pos q2, if_pos q2]
            · rw [if_neg q2, if_neg q2]
              by_cases q3 : c + 22 ≤ a ∧ a < c + 28 ∧ k = 0
              · rw [if_pos (by omega), if_pos q3]
              · rw [if_neg (by omega), if_neg q3, if_neg q4, if_neg q5, if_neg q6]
  · intro j hj
    show s_X0_beginAnew_21 c (me_w M _) (nI j) = _
    unfold s_X0_beginAnew_21 let_v
    have e : ∀ g, f_X4_leave (c + 22 + j) (me_w M g) = some (me_si (me_w M g) (c + 22 + j) 0 0) := by
      intro g
      unfold f_X4_leave b_X4_leave
      rw [ck_e (by rw [k_w]; exact g2 j hj), pz_e (by rw [k_w]; exact g2 j hj) (Or.inl rfl)]
    rw [c_6, if_neg (nI_ge hj (by decide)), gr_e (by rw [k_w]; exact a1) (by rw [r_w]; exact a3), lr_e (by rw [k_w]; exact c1) hj (by decide) (by rw [r_w]; exact c2 j hj), cM_e (e _), nI_1]
    rw [w_step (g2 := fun a k => if a = c + 1 ∧ k = 0 then x else if a = c + 2 ∧ k < 25 then 0 else if c + 22 ≤ a ∧ a < c + 22 + (j + 1) ∧ k = 0 then 0 else me_i M a k)]
    intro a k
    by_cases q : a = c + 22 + j ∧ k = 0
    · rw [if_pos q, if_neg (by omega), if_neg (by omega), if_pos (by omega)]
    · rw [if_neg q]
      by_cases q1 : a = c + 1 ∧ k = 0
      · rw [if_pos q1, if_pos q1]
      · rw [if_neg q1, if_neg q1]
        by_cases q2 : a = c + 2 ∧ k < 25
        · rw [if_pos q2, if_pos q2]
        · rw [if_neg q2, if_neg q2]
          by_cases q3 : c + 22 ≤ a ∧ a < c + 22 + j ∧ k = 0
          · rw [if_pos q3, if_pos (by omega)]
          · rw [if_neg q3, if_neg (by omega)]
  · show s_X0_beginAnew_21 c _ (nI 6) = _
    unfold s_X0_beginAnew_21
    rw [c_6, if_pos (nI_le (Nat.le_refl _) (by decide))]
/-- the reference's chapels -/
def g_cha (M : Me) (x : Int32) : Nat → Nat → Int32 := fun a k => if a = 71 ∧ k < 25 then 0 else if a = 70 ∧ k = 0 then x else if a = 70 ∧ (k = 3 ∨ k = 6 ∨ k = 8 ∨ k = 13) then 0 else me_i M a k
theorem e_mchapels {M : Me} {x : Int32} (h : Lay M) (hx : ¬ in_v x 2 5 = 0) : f_X12_chapels 70 x M = some (me_i M 70 0, me_w M (g_cha M x)) := by
  unfold f_X12_chapels b_X12_chapels
  rw [ck_e (lk_70 h), cP_e (e_in _ _ _ _), if_neg hx, gi_e (lk_70 h), pi_e (lk_70 h), pi_e (lk_70 (la_si h)), pi_e (lk_70 (la_si (la_si h))), pi_e (lk_70 (la_si (la_si (la_si h)))), pi_e (lk_70 (la_si (la_si (la_si (la_si h)))))]
  have hl := lp_up (step := fun s : Me × Int32 => s_X12_chapels_44 70 s.1 s.2) (fun j => (me_w M (fun a k => if a = 71 ∧ k < j then 0 else if a = 70 ∧ k = 0 then x else if a = 70 ∧ (k = 3 ∨ k = 6 ∨ k = 8 ∨ k = 13) then 0 else me_i M a k), nI j)) 25 (me_w M (g_cha M x), nI 25) ?_ ?_ 0 (by decide)
  · rw [show (me_si (me_si (me_si (me_si (me_si M 70 0 x) 70 3 0) 70 6 0) 70 8 0) 70 13 0, (0 : Int32)) = (me_w M (fun a k => if a = 71 ∧ k < 0 then 0 else if a = 70 ∧ k = 0 then x else if a = 70 ∧ (k = 3 ∨ k = 6 ∨ k = 8 ∨ k = 13) then 0 else me_i M a k), nI 0) by
      rw [nI_0]
      congr 1
      show me_w M _ = me_w M _
      congr 1
      funext a k
      show (if a = 70 ∧ k = 13 then (0 : Int32) else if a = 70 ∧ k = 8 then 0 else if a = 70 ∧ k = 6 then 0 else if a = 70 ∧ k = 3 then 0 else if a = 70 ∧ k = 0 then x else me_i M a k) = _
      rw [if_neg (show ¬ (a = 71 ∧ k < 0) by omega)]
      by_cases q : a = 70
      · subst q
        by_cases q0 : k = 0
        · subst q0; rfl
        · by_cases q3 : k = 3 ∨ k = 6 ∨ k = 8 ∨ k = 13
          · rcases q3 with rfl | rfl | rfl | rfl <;> rfl
          · rw [if_neg (by omega), if_neg (by omega), if_neg (by omega), if_neg (by omega), if_neg (by omega), if_neg (by omega), if_neg (by omega)]
      · rw [if_neg (by omega), if_neg (by omega), if_neg (by omega), if_neg (by omega), if_neg (by omega), if_neg (by omega), if_neg (by omega)]]
    rw [hl]
    rfl
  · intro j hj
    show s_X12_chapels_44 70 (me_w M _) (nI j) = _
    unfold s_X12_chapels_44 let_v
    rw [c_25, if_neg (nI_ge hj (by decide)), gr_e (lk_70 (la_w h)) (lr_70_1 (la_w h)), si_e (lk_71 (la_w h)) hj (by decide), nI_1]
    rw [w_step (g2 := fun a k => if a = 71 ∧ k < j + 1 then 0 else if a = 70 ∧ k = 0 then x else if a = 70 ∧ (k = 3 ∨ k = 6 ∨ k = 8 ∨ k = 13) then 0 else me_i M a k)]
    intro a k
    by_cases q : a = 71 ∧ k = j
    · rw [if_pos q, if_pos (by omega)]
    · rw [if_neg q]
      by_cases q1 : a = 71 ∧ k < j
      · rw [if_pos q1, if_pos (by omega)]
      · rw [if_neg q1, if_neg (show ¬ (a = 71 ∧ k < j + 1) by omega)]
  · show s_X12_chapels_44 70 _ (nI 25) = _
    unfold s_X12_chapels_44
    rw [c_25, if_pos (nI_le (Nat.le_refl _) (by decide))]
    rfl
/-- chapels -/
theorem iv_op0 : ∀ n M, n < 512 → Iv n M → op_0 (Iv (n + 1)) M := by
  intro n M hn h x1
  obtain ⟨hL, hlen, ⟨hCL, π, hCP, c, y, t, D, nd, sg, hV, hR⟩, hJ, hP, hI⟩ := id h
  by_cases hx : in_v x1 2 5 = 0
  · refine ⟨-2, M, M, ?_, ?_, h.next hn⟩
    · unfold f_X11_chapels b_X11_chapels
      rw [ck_e (lk_0 hL), cP_e (e_isWithin _ _ _ _), if_pos hx]
    · unfold f_X12_chapels b_X12_chapels
      rw [ck_e (lk_70 hL), cP_e (e_in _ _ _ _), if_pos hx]
  · have hx2 := hx
    rw [c_2, c_5] at hx2
    obtain ⟨v, hv1, hv2, rfl⟩ := in_yes (by decide) (by decide) hx2
    refine ⟨me_i M 4 0, me_w M (g_anew M 3 (nI v)), me_w M (g_cha (me_w M (g_anew M 3 (nI v))) (nI v)), ?_, ?_, ?_⟩
    · unfold f_X11_chapels b_X11_chapels
      rw [ck_e (lk_0 hL), cP_e (e_isWithin _ _ _ _), if_neg hx, gr_e (lk_0 hL) (lr_0_1 hL), gr_e (lk_3 hL) (lr_3_0 hL), gi_e (lk_4 hL), gr_e (lk_0 hL) (lr_0_1 hL), cM_e (e_beginAnew hCL)]
    · rw [e_mchapels (la_w hL) hx]
      have e : me_i (me_w M (g_anew M 3 (nI v))) 70 0 = me_i M 4 0 := (hR.1.1.symm : me_i M 70 0 = me_i M 4 0)
      rw [e]; rfl
    · obtain ⟨⟨h1, h2, h3, h4, h5, h6⟩, hVR, hVK, hVD, hVS⟩ := hV.later
      obtain ⟨⟨r1, r2, r3⟩, r4, r5, ⟨r6, r7⟩, ⟨r8, r8b⟩, r9⟩ := hR
      refine h.cou rfl (fun a k _ => rfl) ⟨hCL, π, hCP, v, y, 0, 0, 0, 0, ⟨⟨⟨rfl, hv1, hv2⟩, h2, ⟨rfl, by decide⟩, ⟨rfl, by omega⟩, ⟨rfl, by decide⟩, ⟨rfl, by decide⟩⟩, ?_, ?_, ⟨fun i hi => absurd hi (by omega), fun i j d1 d2 _ hj => absurd hj (by omega)⟩, fun i hi => absurd hi (by omega)⟩, ⟨rfl, r2, ?_⟩, ?_, r5, ⟨rfl, fun i hi => absurd hi (by omega)⟩, ⟨rfl, fun i hi => absurd hi (by omega)⟩, rfl⟩ (fun a k ha => ?_)
      · intro i hi
        refine ⟨0, by decide, ?_⟩
        show g_cha _ _ 71 i = _
        unfold g_cha
        rw [if_pos (by omega)]; rfl
      · intro k _ ht; simp at ht
      · intro i hi
        have e1 : g_cha (me_w M (g_anew M 3 (nI v))) (nI v) (3 + 2) i = 0 := by
          unfold g_cha
          rw [if_neg (by omega), if_neg (by omega), if_neg (by omega), i_w]
          unfold g_anew
          rw [if_neg (by omega), if_pos (by omega)]
        have e2 : g_cha (me_w M (g_anew M 3 (nI v))) (nI v) 71 i = 0 := by
          unfold g_cha
          rw [if_pos (by omega)]
        exact e1.trans e2.symm
      · intro k hk
        refine ⟨?_, fun ht => by simp at ht⟩
        show g_cha _ _ (3 + 22 + k) 0 = _
        unfold g_cha
        rw [if_neg (by omega), if_neg (by omega), if_neg (by omega), i_w]
        unfold g_anew
        rw [if_neg (by omega), if_neg (by omega), if_pos (by omega)]
        simp
      · show g_cha _ _ a k = _
        unfold g_cha
        rw [if_neg (by omega), if_neg (by omega), if_neg (by omega), i_w]
        unfold g_anew
        rw [if_neg (by omega), if_neg (by omega), if_neg (by omega), if_neg (by omega), if_neg (by omega), if_neg (by omega)]

theorem bit_or : ∀ t, t < 64 → ∀ k, k < 6 → t.testBit k = false → (nI t ||| ((1 : Int32) <<< (nI k &&& 31))) = nI (t + 2 ^ k) ∧ t + 2 ^ k < 64 := by decide +kernel
theorem bit_add : ∀ t, t < 64 → ∀ k, k < 6 → t.testBit k = false → ∀ j, j < 6 → (t + 2 ^ k).testBit j = (if j = k then true else t.testBit j) := by decide +kernel
/-- a knight comes: his cell -/
theorem e_come {M : Me} {a : Nat} {x1 x2 x3 x4 : Int32} (hk : me_k M a = some (4, 7)) : f_X4_come a x1 x2 x3 x4 M = some (me_w M (fun x y => if x = a ∧ y < 7 then (if y = 0 then 1 else if y = 1 then x1 else if y = 2 then x2 else if y = 3 then x3 else if y = 4 then x4 else if y = 5 then x1 else 0) else me_i M x y)) := by
  unfold f_X4_come b_X4_come
  rw [ck_e hk, pz_e hk (Or.inr rfl), pi_e (by rw [k_si]; exact hk), pi_e (by rw [k_si, k_si]; exact hk), pi_e (by rw [k_si, k_si, k_si]; exact hk), pi_e (by rw [k_si, k_si, k_si, k_si]; exact hk), pi_e (by rw [k_si, k_si, k_si, k_si, k_si]; exact hk), pi_e (by rw [k_si, k_si, k_si, k_si, k_si, k_si]; exact hk)]
  refine congrArg some ?_
  show me_w M _ = me_w M _
  refine congrArg (me_w M) ?_
  funext x y
  show (if x = a ∧ y = 6 then (0 : Int32) else if x = a ∧ y = 5 then x1 else if x = a ∧ y = 4 then x4 else if x = a ∧ y = 3 then x3 else if x = a ∧ y = 2 then x2 else if x = a ∧ y = 1 then x1 else if x = a ∧ y = 0 then 1 else me_i M x y) = _
  by_cases q : x = a
  · subst q
    by_cases h7 : y < 7
    · rw [if_pos (show x = x ∧ y < 7 from ⟨rfl, h7⟩)]
      match y, h7 with
      | 0, _ => simp
      | 1, _ => simp
      | 2, _ => simp
      | 3, _ => simp
      | 4, _ => simp
      | 5, _ => simp
      | 6, _ => simp
    · rw [if_neg (by omega), if_neg (by omega), if_neg (by omega), if_neg (by omega), if_neg (by omega), if_neg (by omega), if_neg (by omega), if_neg (by omega)]
  · rw [if_neg (by omega), if_neg (by omega), if_neg (by omega), if_neg (by omega), if_neg (by omega), if_neg (by omega), if_neg (by omega), if_neg (by omega)]
/-- knight -/
theorem iv_op3 : ∀ n M, n < 512 → Iv n M → op_3 (Iv (n + 1)) M := by
  intro n M hn h x1 x2 x3 x4 x5
  obtain ⟨hL, hlen, ⟨hCL, π, hCP, c, y, t, D, nd, sg, hV, hR⟩, hJ, hP, hI⟩ := id h
  have hc := hV.1.1
  have hc5 := hc.2.2
  have h4 : me_i M 4 0 = nI c := hR.1.1.trans hc.1
  have h70 : me_i M 70 0 = nI c := hc.1
  have ht70 : me_i M 70 3 = nI t := hV.1.2.2.1.1
  have ht := hV.1.2.2.1.2
  have ex : f_X11_knight 0 x1 x2 x3 x4 x5 M = ck M 0 11 (b_X11_knight 0 x1 x2 x3 x4 x5 M) := rfl
  have em : ∀ N, f_X12_knight 70 x1 x2 x3 x4 x5 N = ck N 70 12 (b_X12_knight 70 x1 x2 x3 x4 x5 N) := fun _ => rfl
  by_cases h1 : in_v x1 0 5 = 0
  · refine ⟨-1, M, M, ?_, ?_, h.next hn⟩
    · rw [ex, ck_e (lk_0 hL)]; unfold b_X11_knight; rw [cP_e (e_isWithin _ _ _ _), if_pos h1]
    · rw [em, ck_e (lk_70 hL)]; unfold b_X12_knight; rw [cP_e (e_in _ _ _ _), if_pos h1]
  by_cases h2 : cv c x2 = 0
  · refine ⟨-1, M, M, ?_, ?_, h.next hn⟩
    · rw [ex, ck_e (lk_0 hL)]; unfold b_X11_knight
      rw [cP_e (e_isWithin _ _ _ _), if_neg h1, gr_e (lk_0 hL) (lr_0_1 hL), gr_e (lk_3 hL) (lr_3_0 hL), cP_e (e_hasChapel (lk_4 hL) h4 hc5), if_pos h2]
    · rw [em, ck_e (lk_70 hL)]; unfold b_X12_knight
      rw [cP_e (e_in _ _ _ _), if_neg h1, cP_e (e_isChapel (lk_70 hL) h70 (by omega) hc5), if_pos h2]
  by_cases h3 : in_v x3 1 20 = 0
  · refine ⟨-2, M, M, ?_, ?_, h.next hn⟩
    · rw [ex, ck_e (lk_0 hL)]; unfold b_X11_knight
      rw [cP_e (e_isWithin _ _ _ _), if_neg h1, gr_e (lk_0 hL) (lr_0_1 hL), gr_e (lk_3 hL) (lr_3_0 hL), cP_e (e_hasChapel (lk_4 hL) h4 hc5), if_neg h2, cP_e (e_isWithin _ _ _ _), if_pos h3]
    · rw [em, ck_e (lk_70 hL)]; unfold b_X12_knight
      rw [cP_e (e_in _ _ _ _), if_neg h1, cP_e (e_isChapel (lk_70 hL) h70 (by omega) hc5), if_neg h2, cP_e (e_in _ _ _ _), if_pos h3]
  by_cases h5 : in_v x4 1 99 = 0
  · refine ⟨-2, M, M, ?_, ?_, h.next hn⟩
    · rw [ex, ck_e (lk_0 hL)]; unfold b_X11_knight
      rw [cP_e (e_isWithin _ _ _ _), if_neg h1, gr_e (lk_0 hL) (lr_0_1 hL), gr_e (lk_3 hL) (lr_3_0 hL), cP_e (e_hasChapel (lk_4 hL) h4 hc5), if_neg h2, cP_e (e_isWithin _ _ _ _), if_neg h3, cP_e (e_isWithin _ _ _ _), if_pos h5]
    · rw [em, ck_e (lk_70 hL)]; unfold b_X12_knight
      rw [cP_e (e_in _ _ _ _), if_neg h1, cP_e (e_isChapel (lk_70 hL) h70 (by omega) hc5), if_neg h2, cP_e (e_in _ _ _ _), if_neg h3, cP_e (e_in _ _ _ _), if_pos h5]
  by_cases h6 : in_v x5 0 99 = 0
  · refine ⟨-2, M, M, ?_, ?_, h.next hn⟩
    · rw [ex, ck_e (lk_0 hL)]; unfold b_X11_knight
      rw [cP_e (e_isWithin _ _ _ _), if_neg h1, gr_e (lk_0 hL) (lr_0_1 hL), gr_e (lk_3 hL) (lr_3_0 hL), cP_e (e_hasChapel (lk_4 hL) h4 hc5), if_neg h2, cP_e (e_isWithin _ _ _ _), if_neg h3, cP_e (e_isWithin _ _ _ _), if_neg h5, cP_e (e_isWithin _ _ _ _), if_pos h6]
    · rw [em, ck_e (lk_70 hL)]; unfold b_X12_knight
      rw [cP_e (e_in _ _ _ _), if_neg h1, cP_e (e_isChapel (lk_70 hL) h70 (by omega) hc5), if_neg h2, cP_e (e_in _ _ _ _), if_neg h3, cP_e (e_in _ _ _ _), if_neg h5, cP_e (e_in _ _ _ _), if_pos h6]
  have g1 := h1
  have g3 := h3
  have g5 := h5
  rw [c_0, c_5] at g1
  rw [c_1, c_20] at g3
  rw [c_1, c_99] at g5
  obtain ⟨k, -, hk5, rfl⟩ := in_yes (by decide) (by decide) g1
  obtain ⟨q, hq, rfl⟩ := cv_yes hc5 h2
  obtain ⟨s, hs1, hs2, rfl⟩ := in_yes (by decide) (by decide) g3
  obtain ⟨b, hb1, hb2, rfl⟩ := in_yes (by decide) (by decide) g5
  have hk : k < 6 := by omega
  by_cases hb : t.testBit k = true
  · have htv : ¬ tv t (nI k) = 0 := by rw [tv_one hk hb]; decide
    refine ⟨-3, M, M, ?_, ?_, h.next hn⟩
    · rw [ex, ck_e (lk_0 hL)]; unfold b_X11_knight
      rw [cP_e (e_isWithin _ _ _ _), if_neg h1, gr_e (lk_0 hL) (lr_0_1 hL), gr_e (lk_3 hL) (lr_3_0 hL), cP_e (e_hasChapel (lk_4 hL) h4 hc5), if_neg h2, cP_e (e_isWithin _ _ _ _), if_neg h3, cP_e (e_isWithin _ _ _ _), if_neg h5, cP_e (e_isWithin _ _ _ _), if_neg h6, gr_e (lk_0 hL) (lr_0_1 hL), cR_e (e_knightAt hCL), gi_e (kn_kind hCL), kn_there hR, if_neg htv]
    · rw [em, ck_e (lk_70 hL)]; unfold b_X12_knight
      rw [cP_e (e_in _ _ _ _), if_neg h1, cP_e (e_isChapel (lk_70 hL) h70 (by omega) hc5), if_neg h2, cP_e (e_in _ _ _ _), if_neg h3, cP_e (e_in _ _ _ _), if_neg h5, cP_e (e_in _ _ _ _), if_neg h6, cP_e (e_isThere (lk_70 hL) ht70 ht), if_neg htv]
  have hbf : t.testBit k = false := by simpa using hb
  have htv : tv t (nI k) = 0 := by rw [tv_k hk, if_neg hb]
  obtain ⟨ho1, ho2⟩ := bit_or t ht k hk hbf
  have hba := bit_add t ht k hk hbf
  let M1 : Me := me_w M (fun x y => if x = 3 + 22 + k ∧ y < 7 then (if y = 0 then 1 else if y = 1 then nI q else if y = 2 then nI s else if y = 3 then nI b else if y = 4 then x5 else if y = 5 then nI q else 0) else me_i M x y)
  have hL1 : Lay M1 := hL
  have hCL1 : CL M1 3 := hCL
  have h701 : me_i M1 70 0 = nI c := by
    show (if 70 = 3 + 22 + k ∧ 0 < 7 then _ else me_i M 70 0) = _
    rw [if_neg (by omega)]; exact h70
  have ht701 : me_i M1 70 3 = nI t := by
    show (if 70 = 3 + 22 + k ∧ 3 < 7 then _ else me_i M 70 3) = _
    rw [if_neg (by omega)]; exact ht70
  have hb1' : ∀ j, j < 6 → me_i M1 (3 + 22 + j) 0 = (if (t + 2 ^ k).testBit j = true then 1 else 0) := by
    intro j hj
    show (if 3 + 22 + j = 3 + 22 + k ∧ 0 < 7 then _ else me_i M (3 + 22 + j) 0) = _
    rw [hba j hj]
    by_cases e : j = k
    · rw [if_pos (by omega), if_pos e]; rfl
    · rw [if_neg (by omega), if_neg e]; exact (hR.2.1 j hj).1
  let M2 : Me := me_si (me_si (me_si (me_si (me_si (me_si (me_si M1 70 3 (nI (t + 2 ^ k))) 72 k (nI s)) 73 k (nI q)) 75 k (nI q)) 76 k 0) 77 k (nI b)) 78 k x5
  refine ⟨nI (cn (t + 2 ^ k) 12), M1, M2, ?_, ?_, ?_⟩
  · rw [ex, ck_e (lk_0 hL)]; unfold b_X11_knight
    rw [cP_e (e_isWithin _ _ _ _), if_neg h1, gr_e (lk_0 hL) (lr_0_1 hL), gr_e (lk_3 hL) (lr_3_0 hL), cP_e (e_hasChapel (lk_4 hL) h4 hc5), if_neg h2, cP_e (e_isWithin _ _ _ _), if_neg h3, cP_e (e_isWithin _ _ _ _), if_neg h5, cP_e (e_isWithin _ _ _ _), if_neg h6, gr_e (lk_0 hL) (lr_0_1 hL), cR_e (e_knightAt hCL), gi_e (kn_kind hCL), kn_there hR, if_pos htv, kn_k hk, cM_e (e_come (hCL.2.2.2.2.2.2.2 k hk)), gr_e (lk_0 hL1) (lr_0_1 hL1), cP_e (e_countKnights hCL1 ho2 hb1')]
  · rw [em, ck_e (lk_70 hL1)]; unfold b_X12_knight
    rw [cP_e (e_in _ _ _ _), if_neg h1, cP_e (e_isChapel (lk_70 hL1) h701 (by omega) hc5), if_neg h2, cP_e (e_in _ _ _ _), if_neg h3, cP_e (e_in _ _ _ _), if_neg h5, cP_e (e_in _ _ _ _), if_neg h6, cP_e (e_isThere (lk_70 hL1) ht701 ht), if_pos htv, gi_e (lk_70 hL1), ht701, pi_e (lk_70 hL1), ho1]
    have A1 := la_si (a := 70) (k := 3) (v := nI (t + 2 ^ k)) hL1
    have A2 := la_si (a := 72) (k := k) (v := nI s) A1
    have A3 := la_si (a := 73) (k := k) (v := nI q) A2
    have A4 := la_si (a := 75) (k := k) (v := nI q) A3
    have A5 := la_si (a := 76) (k := k) (v := 0) A4
    have A6 := la_si (a := 77) (k := k) (v := nI b) A5
    have A7 := la_si (a := 78) (k := k) (v := x5) A6
    rw [gr_e (lk_70 A1) (lr_70_4 A1), si_e (lk_72 A1) hk (by decide), gr_e (lk_70 A2) (lr_70_5 A2), si_e (lk_73 A2) hk (by decide), gr_e (lk_70 A3) (lr_70_9 A3), si_e (lk_75 A3) hk (by decide), gr_e (lk_70 A4) (lr_70_10 A4), si_e (lk_76 A4) hk (by decide), gr_e (lk_70 A5) (lr_70_11 A5), si_e (lk_77 A5) hk (by decide), gr_e (lk_70 A6) (lr_70_12 A6), si_e (lk_78 A6) hk (by decide), gi_e (lk_70 A7)]
    have e : me_i M2 70 3 = nI (t + 2 ^ k) := rfl
    show cP (f_X12_bits (me_i M2 70 3) M2) (fun v22 => some (v22, M2)) = _
    rw [e, cP_e (e_bits (by omega))]
  · obtain ⟨⟨v1, v2, v3, v4, v5, v6⟩, hVR, hVK, hVD, hVS⟩ := hV.later
    obtain ⟨⟨r1, r2, r3⟩, r4, r5, ⟨r6, r7⟩, ⟨r8, r8b⟩, r9⟩ := hR
    have i1 : ∀ a f, ¬ a = 3 + 22 + k → me_i M1 a f = me_i M a f := fun a f ha => by
      show (if a = 3 + 22 + k ∧ f < 7 then _ else me_i M a f) = _
      rw [if_neg (by omega)]
    have i2 : ∀ a f, ¬ (a = 70 ∧ f = 3) → ¬ ((a = 72 ∨ a = 73 ∨ a = 75 ∨ a = 76 ∨ a = 77 ∨ a = 78) ∧ f = k) → me_i M2 a f = me_i M1 a f := fun a f g1 g2 => by
      show me_i (me_si _ _ _ _) a f = _
      rw [i_si, if_neg (by omega), i_si, if_neg (by omega), i_si, if_neg (by omega), i_si, if_neg (by omega), i_si, if_neg (by omega), i_si, if_neg (by omega), i_si, if_neg (by omega)]
    have i3 : ∀ a f, ¬ a = 3 + 22 + k → ¬ (a = 70 ∧ f = 3) → ¬ ((a = 72 ∨ a = 73 ∨ a = 75 ∨ a = 76 ∨ a = 77 ∨ a = 78) ∧ f = k) → me_i M2 a f = me_i M a f := fun a f g1 g2 g3 => (i2 a f g2 g3).trans (i1 a f g1)
    have k72 : me_i M2 72 k = nI s := by
      show me_i (me_si _ _ _ _) 72 k = _
      rw [i_si, if_neg (by omega), i_si, if_neg (by omega), i_si, if_neg (by omega), i_si, if_neg (by omega), i_si, if_neg (by omega), i_si, if_pos (by omega)]
    have k73 : me_i M2 73 k = nI q := by
      show me_i (me_si _ _ _ _) 73 k = _
      rw [i_si, if_neg (by omega), i_si, if_neg (by omega), i_si, if_neg (by omega), i_si, if_neg (by omega), i_si, if_pos (by omega)]
    have k75 : me_i M2 75 k = nI q := by
      show me_i (me_si _ _ _ _) 75 k = _
      rw [i_si, if_neg (by omega), i_si, if_neg (by omega), i_si, if_neg (by omega), i_si, if_pos (by omega)]
    have k76 : me_i M2 76 k = 0 := by
      show me_i (me_si _ _ _ _) 76 k = _
      rw [i_si, if_neg (by omega), i_si, if_neg (by omega), i_si, if_pos (by omega)]
    have k77 : me_i M2 77 k = nI b := by
      show me_i (me_si _ _ _ _) 77 k = _
      rw [i_si, if_neg (by omega), i_si, if_pos (by omega)]
    have k78 : me_i M2 78 k = x5 := by
      show me_i (me_si _ _ _ _) 78 k = _
      rw [i_si, if_pos (by omega)]
    refine h.cou rfl (fun a k _ => rfl) ⟨hCL, π, hCP, c, y, t + 2 ^ k, D, nd, sg, ⟨⟨?_, ?_, ⟨rfl, ho2⟩, ?_, ?_, ?_⟩, ?_, ?_, ?_, ?_⟩, ⟨?_, ?_, ?_⟩, ?_, ?_, ⟨?_, ?_⟩, ⟨?_, ?_⟩, ?_⟩ (fun a f ha => i3 a f (by omega) (by omega) (by omega))
    · exact ⟨(i3 70 0 (by omega) (by omega) (by omega)).trans v1.1, v1.2⟩
    · exact ⟨(i3 70 2 (by omega) (by omega) (by omega)).trans v2.1, v2.2⟩
    · exact ⟨(i3 70 8 (by omega) (by omega) (by omega)).trans v4.1, v4.2⟩
    · exact ⟨(i3 70 13 (by omega) (by omega) (by omega)).trans v5.1, v5.2⟩
    · exact ⟨(i3 70 6 (by omega) (by omega) (by omega)).trans v6.1, v6.2⟩
    · intro i hi
      show ∃ d, d ≤ 99 ∧ me_i M2 71 i = nI d
      rw [i3 71 i (by omega) (by omega) (by omega)]
      exact hVR i hi
    · intro j hj hjb
      rw [hba j hj] at hjb
      show (∃ s, me_i M2 72 j = nI s ∧ _) ∧ (∃ o, me_i M2 73 j = nI o ∧ _) ∧ (∃ p, me_i M2 75 j = nI p ∧ _) ∧ (∃ g, me_i M2 76 j = nI g ∧ _) ∧ (∃ b, me_i M2 77 j = nI b ∧ _)
      by_cases e : j = k
      · subst e
        rw [k72, k73, k75, k76, k77]
        exact ⟨⟨s, rfl, hs1, hs2⟩, ⟨q, rfl, hq⟩, ⟨q, rfl, hq⟩, ⟨0, c_0, by decide⟩, ⟨b, rfl, by omega⟩⟩
      · rw [if_neg e] at hjb
        rw [i3 72 j (by omega) (by omega) (by omega), i3 73 j (by omega) (by omega) (by omega), i3 75 j (by omega) (by omega) (by omega), i3 76 j (by omega) (by omega) (by omega), i3 77 j (by omega) (by omega) (by omega)]
        exact hVK j hj hjb
    · refine ⟨fun i hi => ?_, fun i j d1 d2 hij hj g1 g2 e1 e2 => ?_⟩
      · obtain ⟨s', q', m', d', z1, z2, z3, z4, z5, z6, z7, z8, z9, z10, z11, z12, z13⟩ := hVD.1 i hi
        have n1 : s' ≠ k := fun e => by rw [e] at z8; exact hb z8
        have n2 : q' ≠ k := fun e => by rw [e] at z9; exact hb z9
        refine ⟨s', q', m', d', ?_, ?_, ?_, ?_, z5, z6, z7, ?_, ?_, ?_, ?_, z12, z13⟩
        · exact (i3 79 _ (by omega) (by omega) (by omega)).trans z1
        · exact (i3 79 _ (by omega) (by omega) (by omega)).trans z2
        · exact (i3 79 _ (by omega) (by omega) (by omega)).trans z3
        · exact (i3 79 _ (by omega) (by omega) (by omega)).trans z4
        · rw [hba s' z5, if_neg n1]; exact z8
        · rw [hba q' z6, if_neg n2]; exact z9
        · show ¬ me_i M2 77 s' = 0
          rw [i3 77 s' (by omega) (by omega) (by omega)]; exact z10
        · show ¬ me_i M2 77 q' = 0
          rw [i3 77 q' (by omega) (by omega) (by omega)]; exact z11
      · exact hVD.2 i j d1 d2 hij hj g1 g2 ((i3 79 _ (by omega) (by omega) (by omega)).symm.trans e1) ((i3 79 _ (by omega) (by omega) (by omega)).symm.trans e2)
    · intro i hi
      show ∃ k m, me_i M2 74 (2 * i) = nI k ∧ k < 6 ∧ me_i M2 74 (2 * i + 1) = nI m ∧ _
      rw [i3 74 _ (by omega) (by omega) (by omega), i3 74 _ (by omega) (by omega) (by omega)]
      exact hVS i hi
    · exact (i3 4 0 (by omega) (by omega) (by omega)).trans (r1.trans (i3 70 0 (by omega) (by omega) (by omega)).symm)
    · exact (i3 4 1 (by omega) (by omega) (by omega)).trans (r2.trans (i3 70 2 (by omega) (by omega) (by omega)).symm)
    · intro i hi
      exact (i3 5 i (by omega) (by omega) (by omega)).trans ((r3 i hi).trans (i3 71 i (by omega) (by omega) (by omega)).symm)
    · intro j hj
      refine ⟨(i2 (3 + 22 + j) 0 (by omega) (by omega)).trans (hb1' j hj), fun hjb => ?_⟩
      rw [hba j hj] at hjb
      show me_i M2 (3 + 22 + j) 1 = me_i M2 73 j ∧ me_i M2 (3 + 22 + j) 2 = me_i M2 72 j ∧ me_i M2 (3 + 22 + j) 3 = me_i M2 77 j ∧ me_i M2 (3 + 22 + j) 4 = me_i M2 78 j ∧ me_i M2 (3 + 22 + j) 5 = me_i M2 75 j ∧ me_i M2 (3 + 22 + j) 6 = me_i M2 76 j
      have i2' : ∀ f, me_i M2 (3 + 22 + j) f = me_i M1 (3 + 22 + j) f := fun f => i2 _ f (by omega) (by omega)
      simp only [i2']
      by_cases e : j = k
      · subst e
        rw [k72, k73, k75, k76, k77, k78]
        have ee : ∀ f, f < 7 → me_i M1 (3 + 22 + j) f = (if f = 0 then 1 else if f = 1 then nI q else if f = 2 then nI s else if f = 3 then nI b else if f = 4 then x5 else if f = 5 then nI q else 0) := fun f hf => by
          show (if 3 + 22 + j = 3 + 22 + j ∧ f < 7 then _ else _) = _
          rw [if_pos ⟨rfl, hf⟩]
        rw [ee 1 (by decide), ee 2 (by decide), ee 3 (by decide), ee 4 (by decide), ee 5 (by decide), ee 6 (by decide)]
        exact ⟨rfl, rfl, rfl, rfl, rfl, rfl⟩
      · rw [if_neg e] at hjb
        rw [i3 72 j (by omega) (by omega) (by omega), i3 73 j (by omega) (by omega) (by omega), i3 75 j (by omega) (by omega) (by omega), i3 76 j (by omega) (by omega) (by omega), i3 77 j (by omega) (by omega) (by omega), i3 78 j (by omega) (by omega) (by omega)]
        have i1' : ∀ f, me_i M1 (3 + 22 + j) f = me_i M (3 + 22 + j) f := fun f => i1 _ f (by omega)
        simp only [i1']
        exact (r4 j hj).2 hjb
    · exact (i3 24 0 (by omega) (by omega) (by omega)).trans r5
    · exact (i3 7 0 (by omega) (by omega) (by omega)).trans (r6.trans (i3 70 13 (by omega) (by omega) (by omega)).symm)
    · exact rd_same hCP hV.nd r7 (fun j f hj => i3 _ f (by omega) (by omega) (by omega)) (fun j => i3 79 j (by omega) (by omega) (by omega))
    · exact (i3 21 0 (by omega) (by omega) (by omega)).trans (r8.trans (i3 70 6 (by omega) (by omega) (by omega)).symm)
    · intro i hi
      obtain ⟨z1, z2⟩ := r8b i hi
      exact ⟨(i3 22 i (by omega) (by omega) (by omega)).trans (z1.trans (i3 74 _ (by omega) (by omega) (by omega)).symm), (i3 23 i (by omega) (by omega) (by omega)).trans (z2.trans (i3 74 _ (by omega) (by omega) (by omega)).symm)⟩
    · exact (i3 3 5 (by omega) (by omega) (by omega)).trans (r9.trans (i3 70 8 (by omega) (by omega) (by omega)).symm)

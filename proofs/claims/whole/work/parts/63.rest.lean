theorem Cou.ag {n : Nat} {M N : Me} {c : Nat} {st su : St} (h : Cou n M c st) (hk : ∀ a, c ≤ a → a < c + 28 → me_k N a = me_k M a) (hr : ∀ a k, c ≤ a → a < c + 28 → me_r N a k = me_r M a k) (hi : ∀ a k, c ≤ a → a < c + 28 → me_i N a k = me_i M a k) (ha : Ag su st) : Cou n N c su := by
  obtain ⟨h1, π, h2, c0, y, t, D, nd, sg, h3, h4⟩ := h
  have h5 := h4.same h2 h3.nd hi
  exact ⟨h1.same hk (fun a k h5 h6 _ => hr a k h5 h6), π, h2.same (fun k => hr _ _ (by omega) (by omega)), c0, y, t, D, nd, sg, ha.val h3, (ha.rpn h3.nd h3.1.2.2.2.2.2.2 h5.pn).rep h5.2.2.1⟩
theorem im_70 (k : Nat) : im_o 70 k < 127 := by
  unfold im_o
  simp only [Nat.reduceEqDiff, if_false]
  repeat' split
  all_goals omega
/-- the reference's restore -/
theorem e_restore {M : Me} {j : Nat} (hL : Lay M) (hj : j < 2) (h9 : me_i M 90 j = 1) : ∃ g, f_X12_restore 70 (nI j) M = some (1, me_w M g) ∧ (∀ x y, ¬ (70 ≤ x ∧ x ≤ 79) → g x y = me_i M x y) ∧ (∀ y, ¬ (y = 0 ∨ y = 2 ∨ y = 3 ∨ y = 6 ∨ y = 8 ∨ y = 13) → g 70 y = me_i M 70 y) ∧ Ag g (st_i M j) := by
  obtain ⟨g1, e1, a1, b1⟩ := e_restore_32 (o := 150 * j) hL (by omega)
  obtain ⟨g2, e2, a2, b2⟩ := e_restore_60 (M := me_w M g1) (o := 150 * j) (la_w hL) (by omega)
  obtain ⟨g3, e3, a3, b3⟩ := e_restore_176 (M := me_w M g2) (o := 150 * j) (la_w hL) (by omega)
  obtain ⟨g4, e4, a4, b4⟩ := e_restore_207 (M := me_w M g3) (o := 150 * j) (la_w hL) (by omega)
  simp only [w_w, i_w] at e2 a2 b2 e3 a3 b3 e4 a4 b4
  have e89 : ∀ y, g4 89 y = me_i M 89 y := fun y => by rw [a4 _ _ (by omega), a3 _ _ (by omega), a2 _ _ (by omega), a1 _ _ (by omega)]
  have e89c : ∀ y, g3 89 y = me_i M 89 y := fun y => by rw [a3 _ _ (by omega), a2 _ _ (by omega), a1 _ _ (by omega)]
  have e89b : ∀ y, g2 89 y = me_i M 89 y := fun y => by rw [a2 _ _ (by omega), a1 _ _ (by omega)]
  have e89a : ∀ y, g1 89 y = me_i M 89 y := fun y => by rw [a1 _ _ (by omega)]
  refine ⟨fun x y => if x = 70 ∧ y = 13 then me_i M 89 (150 * j + 126) else if x = 70 ∧ y = 8 then me_i M 89 (150 * j + 125) else if x = 70 ∧ y = 6 then me_i M 89 (150 * j + 124) else if x = 70 ∧ y = 3 then me_i M 89 (150 * j + 123) else if x = 70 ∧ y = 2 then me_i M 89 (150 * j + 122) else if x = 70 ∧ y = 0 then me_i M 89 (150 * j + 121) else g4 x y, ?_, fun x y hxy => ?_, fun y hy => ?_, ?_⟩
  · unfold f_X12_restore b_X12_restore
    have hin : ¬ in_v (nI j) 0 1 = 0 := by rw [c_0, c_1, in_one (by decide) (by omega) (by omega)]; decide
    rw [ck_e (lk_70 hL), cP_e (e_in _ _ _ _), if_neg hin, gr_e (lk_70 hL) (lr_70_31 hL), lz_e (lk_90 hL) hj (by decide), h9, if_neg (by decide)]
    simp only [let_v, c_150, pk_mul]
    rw [e1]
    simp only [Option.bind_some]
    rw [e2]
    simp only [Option.bind_some]
    rw [e3]
    simp only [Option.bind_some]
    rw [e4]
    simp only [Option.bind_some]
    simp (disch := first | (simp only [Lay_si, Lay_w, CL_si, CL_w, CP_si, CP_w]; assumption) | assumption | omega) only [m_ck, m_gi, m_pi, m_gr1, m_gr4, m_gr5, m_gr7, m_gr9, m_gr10, m_gr11, m_gr12, m_gr14, m_gr16, m_gr18, m_gr19, m_gr20, m_gr21, m_gr23, m_gr26, m_gr27, m_gr28, m_gr30, m_gr31, m_li71, m_li72, m_li73, m_li74, m_li75, m_li76, m_li77, m_li78, m_li79, m_li80, m_li81, m_li82, m_li83, m_li84, m_li85, m_li86, m_li87, m_li88, m_li89, m_si71, m_si72, m_si73, m_si74, m_si75, m_si76, m_si77, m_si78, m_si79, m_si80, m_si81, m_si82, m_si83, m_si84, m_si85, m_si86, m_si87, m_si88, m_si89, nI_add, c_121, c_122, c_123, c_124, c_125, c_126, i_si, i_w, Nat.reduceEqDiff, false_and, if_false, e89]
    rfl
  · dsimp only
    rw [if_neg (by omega), if_neg (by omega), if_neg (by omega), if_neg (by omega), if_neg (by omega), if_neg (by omega), a4 _ _ (by omega), a3 _ _ (by omega), a2 _ _ (by omega), a1 _ _ (by omega)]
  · dsimp only
    rw [if_neg (by omega), if_neg (by omega), if_neg (by omega), if_neg (by omega), if_neg (by omega), if_neg (by omega), a4 _ _ (by omega), a3 _ _ (by omega), a2 _ _ (by omega), a1 _ _ (by omega)]
  · refine ⟨fun k hk => ?_, fun k hk => ?_, fun k hk => ?_, fun k hk => ?_, fun k hk => ?_⟩
    · rcases hk with rfl | rfl | rfl | rfl | rfl | rfl <;> rfl
    · simp only [Nat.reduceEqDiff, false_and, if_false]
      rw [a4 _ _ (by omega), a3 _ _ (by omega), a2 _ _ (by omega), b1 k hk]
      rfl
    · simp only [Nat.reduceEqDiff, false_and, if_false]
      obtain ⟨q1, q2, q3, q4, q5, q6⟩ := b2 k hk
      refine ⟨?_, ?_, ?_, ?_, ?_, ?_⟩
      · rw [a4 _ _ (by omega), a3 _ _ (by omega), q1, e89a, Nat.add_assoc]; rfl
      · rw [a4 _ _ (by omega), a3 _ _ (by omega), q2, e89a, Nat.add_assoc]; rfl
      · rw [a4 _ _ (by omega), a3 _ _ (by omega), q3, e89a, Nat.add_assoc]; rfl
      · rw [a4 _ _ (by omega), a3 _ _ (by omega), q4, e89a, Nat.add_assoc]; rfl
      · rw [a4 _ _ (by omega), a3 _ _ (by omega), q5, e89a, Nat.add_assoc]; rfl
      · rw [a4 _ _ (by omega), a3 _ _ (by omega), q6, e89a, Nat.add_assoc]; rfl
    · simp only [Nat.reduceEqDiff, false_and, if_false]
      rw [a4 _ _ (by omega), b3 k hk, e89b, Nat.add_assoc]; rfl
    · simp only [Nat.reduceEqDiff, false_and, if_false]
      rw [b4 k hk, e89c, Nat.add_assoc]; rfl
/-- the reference's image -/
theorem e_image {M : Me} {j : Nat} (hL : Lay M) (hj : j < 2) : ∃ g, f_X12_image 70 (nI j) M = some (1, me_w M g) ∧ (∀ x y, ¬ (x = 89 ∧ 150 * j ≤ y ∧ y < 150 * j + 127) → ¬ (x = 90 ∧ y = j) → g x y = me_i M x y) ∧ g 90 j = 1 ∧ Ag (fun a k => g 89 (150 * j + im_o a k)) (st_m M) := by
  obtain ⟨g1, e1, a1, b1⟩ := e_image_20 (o := 150 * j) hL (by omega)
  obtain ⟨g2, e2, a2, b2⟩ := e_image_48 (M := me_w M g1) (o := 150 * j) (la_w hL) (by omega)
  obtain ⟨g3, e3, a3, b3⟩ := e_image_164 (M := me_w M g2) (o := 150 * j) (la_w hL) (by omega)
  obtain ⟨g4, e4, a4, b4⟩ := e_image_195 (M := me_w M g3) (o := 150 * j) (la_w hL) (by omega)
  simp only [w_w, i_w] at e2 a2 b2 e3 a3 b3 e4 a4 b4
  have e70 : ∀ y, g4 70 y = me_i M 70 y := fun y => by rw [a4 _ _ (by omega), a3 _ _ (by omega), a2 _ _ (by omega), a1 _ _ (by omega)]
  refine ⟨fun x y => if x = 90 ∧ y = j then 1 else if x = 89 ∧ y = 150 * j + 126 then me_i M 70 13 else if x = 89 ∧ y = 150 * j + 125 then me_i M 70 8 else if x = 89 ∧ y = 150 * j + 124 then me_i M 70 6 else if x = 89 ∧ y = 150 * j + 123 then me_i M 70 3 else if x = 89 ∧ y = 150 * j + 122 then me_i M 70 2 else if x = 89 ∧ y = 150 * j + 121 then me_i M 70 0 else g4 x y, ?_, fun x y hxy hx9 => ?_, ?_, ?_⟩
  · unfold f_X12_image b_X12_image
    have hin : ¬ in_v (nI j) 0 1 = 0 := by rw [c_0, c_1, in_one (by decide) (by omega) (by omega)]; decide
    rw [ck_e (lk_70 hL), cP_e (e_in _ _ _ _), if_neg hin]
    simp only [let_v, c_150, pk_mul]
    rw [e1]
    simp only [Option.bind_some]
    rw [e2]
    simp only [Option.bind_some]
    rw [e3]
    simp only [Option.bind_some]
    rw [e4]
    simp only [Option.bind_some]
    simp (disch := first | (simp only [Lay_si, Lay_w, CL_si, CL_w, CP_si, CP_w]; assumption) | assumption | omega) only [m_ck, m_gi, m_pi, m_gr1, m_gr4, m_gr5, m_gr7, m_gr9, m_gr10, m_gr11, m_gr12, m_gr14, m_gr16, m_gr18, m_gr19, m_gr20, m_gr21, m_gr23, m_gr26, m_gr27, m_gr28, m_gr30, m_gr31, m_li71, m_li72, m_li73, m_li74, m_li75, m_li76, m_li77, m_li78, m_li79, m_li80, m_li81, m_li82, m_li83, m_li84, m_li85, m_li86, m_li87, m_li88, m_li89, m_si71, m_si72, m_si73, m_si74, m_si75, m_si76, m_si77, m_si78, m_si79, m_si80, m_si81, m_si82, m_si83, m_si84, m_si85, m_si86, m_si87, m_si88, m_si89, nI_add, c_121, c_122, c_123, c_124, c_125, c_126, i_si, i_w, Nat.reduceEqDiff, false_and, if_false, e70]
    rw [sz_e (n := 2) (by exact lk_90 hL) hj (by decide) (Or.inr rfl)]
    rfl
  · dsimp only
    rw [if_neg (by omega), if_neg (by omega), if_neg (by omega), if_neg (by omega), if_neg (by omega), if_neg (by omega), if_neg (by omega), a4 _ _ (by omega), a3 _ _ (by omega), a2 _ _ (by omega), a1 _ _ (by omega)]
  · dsimp only
    rw [if_pos ⟨rfl, rfl⟩]
  · refine ⟨fun k hk => ?_, fun k hk => ?_, fun k hk => ?_, fun k hk => ?_, fun k hk => ?_⟩
    · rcases hk with rfl | rfl | rfl | rfl | rfl | rfl
      · show (if 89 = 90 ∧ 150 * j + 121 = j then _ else _) = _
        simp; rfl
      · show (if 89 = 90 ∧ 150 * j + 122 = j then _ else _) = _
        simp; rfl
      · show (if 89 = 90 ∧ 150 * j + 123 = j then _ else _) = _
        simp; rfl
      · show (if 89 = 90 ∧ 150 * j + 124 = j then _ else _) = _
        simp; rfl
      · show (if 89 = 90 ∧ 150 * j + 125 = j then _ else _) = _
        simp; rfl
      · show (if 89 = 90 ∧ 150 * j + 126 = j then _ else _) = _
        simp; rfl
    · have e : im_o 71 k = k := rfl
      dsimp only
      rw [e]
      show _ = me_i M 71 k
      rw [if_neg (by omega), if_neg (by omega), if_neg (by omega), if_neg (by omega), if_neg (by omega), if_neg (by omega), if_neg (by omega), a4 _ _ (by omega), a3 _ _ (by omega), a2 _ _ (by omega), b1 k hk]
    · obtain ⟨q1, q2, q3, q4, q5, q6⟩ := b2 k hk
      simp only [Nat.add_assoc] at q1 q2 q3 q4 q5 q6
      refine ⟨?_, ?_, ?_, ?_, ?_, ?_⟩
      · have e : im_o 72 k = 25 + k := rfl
        dsimp only
        rw [e]
        show _ = me_i M 72 k
        rw [if_neg (by omega), if_neg (by omega), if_neg (by omega), if_neg (by omega), if_neg (by omega), if_neg (by omega), if_neg (by omega), a4 _ _ (by omega), a3 _ _ (by omega), q1, a1 _ _ (by omega)]
      · have e : im_o 73 k = 31 + k := rfl
        dsimp only
        rw [e]
        show _ = me_i M 73 k
        rw [if_neg (by omega), if_neg (by omega), if_neg (by omega), if_neg (by omega), if_neg (by omega), if_neg (by omega), if_neg (by omega), a4 _ _ (by omega), a3 _ _ (by omega), q2, a1 _ _ (by omega)]
      · have e : im_o 75 k = 37 + k := rfl
        dsimp only
        rw [e]
        show _ = me_i M 75 k
        rw [if_neg (by omega), if_neg (by omega), if_neg (by omega), if_neg (by omega), if_neg (by omega), if_neg (by omega), if_neg (by omega), a4 _ _ (by omega), a3 _ _ (by omega), q3, a1 _ _ (by omega)]
      · have e : im_o 76 k = 43 + k := rfl
        dsimp only
        rw [e]
        show _ = me_i M 76 k
        rw [if_neg (by omega), if_neg (by omega), if_neg (by omega), if_neg (by omega), if_neg (by omega), if_neg (by omega), if_neg (by omega), a4 _ _ (by omega), a3 _ _ (by omega), q4, a1 _ _ (by omega)]
      · have e : im_o 77 k = 49 + k := rfl
        dsimp only
        rw [e]
        show _ = me_i M 77 k
        rw [if_neg (by omega), if_neg (by omega), if_neg (by omega), if_neg (by omega), if_neg (by omega), if_neg (by omega), if_neg (by omega), a4 _ _ (by omega), a3 _ _ (by omega), q5, a1 _ _ (by omega)]
      · have e : im_o 78 k = 55 + k := rfl
        dsimp only
        rw [e]
        show _ = me_i M 78 k
        rw [if_neg (by omega), if_neg (by omega), if_neg (by omega), if_neg (by omega), if_neg (by omega), if_neg (by omega), if_neg (by omega), a4 _ _ (by omega), a3 _ _ (by omega), q6, a1 _ _ (by omega)]
    · have e : im_o 79 k = 61 + k := rfl
      dsimp only
      rw [e]
      show _ = me_i M 79 k
      have q := b3 k hk
      rw [Nat.add_assoc] at q
      rw [if_neg (by omega), if_neg (by omega), if_neg (by omega), if_neg (by omega), if_neg (by omega), if_neg (by omega), if_neg (by omega), a4 _ _ (by omega), q, a2 _ _ (by omega), a1 _ _ (by omega)]
    · have e : im_o 74 k = 109 + k := rfl
      dsimp only
      rw [e]
      show _ = me_i M 74 k
      have q := b4 k hk
      rw [Nat.add_assoc] at q
      rw [if_neg (by omega), if_neg (by omega), if_neg (by omega), if_neg (by omega), if_neg (by omega), if_neg (by omega), if_neg (by omega), q, a3 _ _ (by omega), a2 _ _ (by omega), a1 _ _ (by omega)]
/-- restore -/
theorem iv_op28 : ∀ n M, n < 512 → Iv n M → op_28 (Iv (n + 1)) M := by
  intro n M hn h x1
  obtain ⟨hL, hlen, ⟨hCL, π, hCP, c, y, t, D, nd, sg, hV, hR⟩, ⟨π2, hJ⟩, hP, c0, c1, i1, i2, i3, i4⟩ := id h
  by_cases hx : in_v x1 0 1 = 0
  · refine ⟨-2, M, M, ?_, ?_, h.next hn⟩
    · unfold f_X11_restore b_X11_restore
      rw [ck_e (lk_0 hL), cP_e (e_isWithin _ _ _ _), if_pos hx]
    · unfold f_X12_restore b_X12_restore
      rw [ck_e (lk_70 hL), cP_e (e_in _ _ _ _), if_pos hx]
  have hx2 := hx
  rw [c_0, c_1] at hx2
  obtain ⟨j, -, hj, rfl⟩ := in_yes (by decide) (by decide) hx2
  have r31 := i1 j (by omega)
  have v90 := i2 j (by omega)
  cases hcj : (if j = 0 then c0 else c1) with
  | none =>
    rw [hcj] at r31 v90
    refine ⟨-3, M, M, ?_, ?_, h.next hn⟩
    · unfold f_X11_restore b_X11_restore
      rw [ck_e (lk_0 hL), cP_e (e_isWithin _ _ _ _), if_neg hx, gr_e (lk_0 hL) (lr_0_2 hL), lo_e2 (lk_31 hL) (by omega) (by decide), r31, if_pos rfl]
    · unfold f_X12_restore b_X12_restore
      rw [ck_e (lk_70 hL), cP_e (e_in _ _ _ _), if_neg hx, gr_e (lk_70 hL) (lr_70_31 hL), lz_e (lk_90 hL) (by omega) (by decide), v90, if_pos rfl, if_pos rfl]
  | some cj =>
    obtain ⟨k1, k2, hB, πb, pB, c', y', t', D', nd', sg', hV', hR'⟩ := i3 j cj (by omega) hcj
    rw [hcj] at r31 v90
    rw [if_neg (by simp)] at v90
    obtain ⟨g, e1, f1, f2, f3⟩ := e_copy hCL hB hCP pB (by omega) hR'.pn hV'.1.2.2.2.2.1.1 hV'.nd hV'.1.2.2.2.2.2.2
    obtain ⟨g2, e2, f4, f5, f6⟩ := e_restore (M := me_w M g) (j := j) (la_w hL) (by omega) (by show g 90 j = 1; rw [f1 _ _ (by omega)]; exact v90)
    rw [w_w] at e2
    simp only [i_w] at f4 f5
    have hag : Ag (st_m (me_w M g2)) (st_i M j) := by
      have e : st_i (me_w M g) j = st_i M j := by
        funext a k
        show g 89 _ = me_i M 89 _
        exact f1 _ _ (by omega)
      rw [← e]
      exact f6
    refine ⟨1, me_w M g, me_w M g2, ?_, e2, ?_⟩
    · unfold f_X11_restore b_X11_restore
      rw [ck_e (lk_0 hL), cP_e (e_isWithin _ _ _ _), if_neg hx, gr_e (lk_0 hL) (lr_0_2 hL), lo_e2 (lk_31 hL) (by omega) (by decide), r31, if_neg (by simp), gr_e (lk_0 hL) (lr_0_1 hL), gr_e (lk_0 hL) (lr_0_2 hL), lr_e (lk_31 hL) (by omega) (by decide) r31, cM_e e1]
    · refine h.cou rfl (fun a k _ => rfl) ⟨hCL, π, hCP, c', y', t', D', nd', sg', hag.val hV'.later, ?_⟩ (fun a k ha => ?_)
      · have q : Rpn (me_w M g2) 3 π (st_i M j) t' nd' sg' := by
          have e : ∀ a k, 3 ≤ a → a ≤ 30 → g2 a k = g a k := fun a k _ _ => f4 a k (by omega)
          obtain ⟨⟨r1, r2, r3⟩, rK, ⟨r4, r5⟩, ⟨r6, r7⟩, r8⟩ := f3
          refine ⟨⟨?_, ?_, fun i hi => ?_⟩, fun k hk => ?_, ⟨?_, fun i hi => ?_⟩, ⟨?_, fun i hi => ?_⟩, ?_⟩
          · exact (e _ _ (by omega) (by omega)).trans r1
          · exact (e _ _ (by omega) (by omega)).trans r2
          · exact (e _ _ (by omega) (by omega)).trans (r3 i hi)
          · simp only [i_w, e (3 + 22 + k) _ (by omega) (by omega)]
            exact rK k hk
          · exact (e _ _ (by omega) (by omega)).trans r4
          · have hp := (hCP.1 i (Nat.lt_of_lt_of_le hi hV'.nd)).1
            simp only [i_w, e (3 + 6 + π i) _ (by omega) (by omega)]
            exact r5 i hi
          · exact (e _ _ (by omega) (by omega)).trans r6
          · simp only [i_w, e (3 + 19) _ (by omega) (by omega), e (3 + 20) _ (by omega) (by omega)]
            exact r7 i hi
          · exact (e _ _ (by omega) (by omega)).trans r8
        refine (hag.rpn hV'.nd hV'.1.2.2.2.2.2.2 q).rep ?_
        show g2 (3 + 21) 0 = 0
        rw [f4 _ _ (by omega), f2]
        exact hR.2.2.1
      · show g2 a k = me_i M a k
        by_cases h70 : a = 70
        · subst h70
          rw [f5 k (by omega), f1 _ _ (by omega)]
        · rw [f4 a k (by omega), f1 _ _ (by omega)]

/-! agreeing where they are read -/
def Ag (su st : St) : Prop := (∀ k, k = 0 ∨ k = 2 ∨ k = 3 ∨ k = 6 ∨ k = 8 ∨ k = 13 → su 70 k = st 70 k) ∧ (∀ k, k < 25 → su 71 k = st 71 k) ∧ (∀ k, k < 6 → su 72 k = st 72 k ∧ su 73 k = st 73 k ∧ su 75 k = st 75 k ∧ su 76 k = st 76 k ∧ su 77 k = st 77 k ∧ su 78 k = st 78 k) ∧ (∀ k, k < 48 → su 79 k = st 79 k) ∧ ∀ k, k < 12 → su 74 k = st 74 k
theorem Ag.val {n : Nat} {st su : St} {c y t D nd sg : Nat} (a : Ag su st) (h : Val n st c y t D nd sg) : Val n su c y t D nd sg := by
  obtain ⟨h70, h71, hk, h79, h74⟩ := a
  obtain ⟨⟨⟨a1, a2⟩, ⟨b1, b2⟩, ⟨c1, c2⟩, ⟨d1, d2⟩, ⟨e1, e2⟩, f1, f2⟩, hR, hK, hD, hS⟩ := h
  refine ⟨⟨⟨?_, a2⟩, ⟨?_, b2⟩, ⟨?_, c2⟩, ⟨?_, d2⟩, ⟨?_, e2⟩, ?_, f2⟩, ?_, ?_, ?_, ?_⟩
  · rw [h70 0 (by omega)]; exact a1
  · rw [h70 2 (by omega)]; exact b1
  · rw [h70 3 (by omega)]; exact c1
  · rw [h70 8 (by omega)]; exact d1
  · rw [h70 13 (by omega)]; exact e1
  · rw [h70 6 (by omega)]; exact f1
  · intro i hi; rw [h71 i hi]; exact hR i hi
  · intro k hk2 ht
    obtain ⟨q1, q2, q3, q4, q5, q6⟩ := hk k hk2
    rw [q1, q2, q3, q4, q5]
    exact hK k hk2 ht
  · refine ⟨fun i hi => ?_, fun i j d1 d2 h1 h2 h3 h4 h5 h6 => ?_⟩
    · obtain ⟨s, q, m, d, u1, u2, u3, u4, u5, u6, u7, u8, u9, u10, u11, u12⟩ := hD.1 i hi
      refine ⟨s, q, m, d, ?_, ?_, ?_, ?_, u5, u6, u7, u8, u9, ?_, ?_, u12⟩
      · rw [h79 _ (by omega)]; exact u1
      · rw [h79 _ (by omega)]; exact u2
      · rw [h79 _ (by omega)]; exact u3
      · rw [h79 _ (by omega)]; exact u4
      · rw [(hk s u5).2.2.2.2.1]; exact u10
      · rw [(hk q u6).2.2.2.2.1]; exact u11
    · rw [h79 _ (by omega)] at h5 h6
      exact hD.2 i j d1 d2 h1 h2 h3 h4 h5 h6
  · intro i hi
    rw [h74 _ (by omega), h74 _ (by omega)]
    exact hS i hi
theorem Ag.rpn {M : Me} {c : Nat} {π : Nat → Nat} {st su : St} {t nd sg : Nat} (a : Ag su st) (hnd : nd ≤ 12) (hsg : sg ≤ 6) (h : Rpn M c π st t nd sg) : Rpn M c π su t nd sg := by
  obtain ⟨h70, h71, hk, h79, h74⟩ := a
  obtain ⟨⟨r1, r2, r3⟩, rK, ⟨r4, r5⟩, ⟨r6, r7⟩, r8⟩ := h
  refine ⟨⟨?_, ?_, fun i hi => ?_⟩, fun k hk2 => ?_, ⟨?_, fun i hi => ?_⟩, ⟨?_, fun i hi => ?_⟩, ?_⟩
  · rw [h70 0 (by omega)]; exact r1
  · rw [h70 2 (by omega)]; exact r2
  · rw [h71 i hi]; exact r3 i hi
  · obtain ⟨q1, q2, q3, q4, q5, q6⟩ := hk k hk2
    rw [q1, q2, q3, q4, q5, q6]
    exact rK k hk2
  · rw [h70 13 (by omega)]; exact r4
  · rw [h79 _ (by omega), h79 _ (by omega), h79 _ (by omega), h79 _ (by omega)]; exact r5 i hi
  · rw [h70 6 (by omega)]; exact r6
  · rw [h74 _ (by omega), h74 _ (by omega)]; exact r7 i hi
  · rw [h70 8 (by omega)]; exact r8
theorem c_31 : (31 : Int32) = nI 31 := by decide +kernel
theorem c_37 : (37 : Int32) = nI 37 := by decide +kernel
theorem c_43 : (43 : Int32) = nI 43 := by decide +kernel
theorem c_48 : (48 : Int32) = nI 48 := by decide +kernel
theorem c_49 : (49 : Int32) = nI 49 := by decide +kernel
theorem c_55 : (55 : Int32) = nI 55 := by decide +kernel
theorem c_61 : (61 : Int32) = nI 61 := by decide +kernel
theorem c_109 : (109 : Int32) = nI 109 := by decide +kernel
theorem c_121 : (121 : Int32) = nI 121 := by decide +kernel
theorem c_122 : (122 : Int32) = nI 122 := by decide +kernel
theorem c_123 : (123 : Int32) = nI 123 := by decide +kernel
theorem c_124 : (124 : Int32) = nI 124 := by decide +kernel
theorem c_125 : (125 : Int32) = nI 125 := by decide +kernel
theorem c_150 : (150 : Int32) = nI 150 := by decide +kernel

theorem e_restore_32 {M : Me} {o : Nat} (hL : Lay M) (ho : o ≤ 150) : ∃ g, lp (fun s : Me × Int32 => s_X12_restore_32 70 (nI o) s.1 s.2) (M, 0) = some (me_w M g, nI 25) ∧ (∀ x y, x ≠ 71 → g x y = me_i M x y) ∧ (∀ i, i < 25 → g 71 i = me_i M 89 (o + i)) := by
  have hlp := lp_cnt (step := fun s : Me × Int32 => s_X12_restore_32 70 (nI o) s.1 s.2) 25
    (fun j s => ∃ g, s = (me_w M g, nI j) ∧ (∀ x y, x ≠ 71 → g x y = me_i M x y) ∧ (∀ i, i < j → g 71 i = me_i M 89 (o + i)))
    (fun s => ∃ g, s = (me_w M g, nI 25) ∧ (∀ x y, x ≠ 71 → g x y = me_i M x y) ∧ (∀ i, i < 25 → g 71 i = me_i M 89 (o + i)))
    ?_ ?_ (M, 0) ⟨fun x y => me_i M x y, by rw [nI_0]; rfl, fun _ _ _ => rfl, fun i hi => absurd hi (by omega)⟩
  · obtain ⟨x, hx, g, rfl, h1⟩ := hlp
    exact ⟨g, hx, h1⟩
  · rintro j s hj ⟨g, rfl, i1, i2⟩
    have n1 : ¬ nI 25 ≤ nI j := nI_ge hj (by omega)
    refine ⟨((me_si (me_w M g) 71 j (g 89 (o + j))), nI (j + 1)), ?_, fun x y => me_i (me_si (me_w M g) 71 j (g 89 (o + j))) x y, rfl, fun x y hxy => ?_, fun i hi => ?_⟩
    · show s_X12_restore_32 70 (nI o) (me_w M g) (nI j) = _
      unfold s_X12_restore_32
      rw [c_25, if_neg n1]
      simp (disch := first | (simp only [Lay_si, Lay_w, CL_si, CL_w, CP_si, CP_w]; assumption) | assumption | omega) only [m_ck, m_gi, m_pi, m_gr1, m_gr4, m_gr5, m_gr7, m_gr9, m_gr10, m_gr11, m_gr12, m_gr14, m_gr16, m_gr18, m_gr19, m_gr20, m_gr21, m_gr23, m_gr26, m_gr27, m_gr28, m_gr30, m_gr31, m_li71, m_li72, m_li73, m_li74, m_li75, m_li76, m_li77, m_li78, m_li79, m_li80, m_li81, m_li82, m_li83, m_li84, m_li85, m_li86, m_li87, m_li88, m_li89, m_si71, m_si72, m_si73, m_si74, m_si75, m_si76, m_si77, m_si78, m_si79, m_si80, m_si81, m_si82, m_si83, m_si84, m_si85, m_si86, m_si87, m_si88, m_si89, let_v, nI_add, nI_1, c_25, c_31, c_37, c_43, c_48, c_49, c_55, c_61, c_109, c_121, c_122, c_123, c_124, c_125, i_si, i_w, Nat.reduceEqDiff, false_and, if_false]
    · dsimp only
      rw [i_si, if_neg (by omega)]
      exact i1 x y hxy
    · dsimp only
      by_cases hij : i = j
      · subst hij
        have e : ∀ y, g 89 y = me_i M 89 y := fun y => i1 89 y (by omega)
        skip
        · rw [i_si, if_pos ⟨rfl, rfl⟩, e]
      · have q := i2 i (by omega)
        skip
        · rw [i_si, if_neg (by omega)]; exact q
  · rintro s ⟨g, rfl, i1, i2⟩
    refine ⟨(me_w M g, nI 25), ?_, g, rfl, i1, i2⟩
    show s_X12_restore_32 70 (nI o) (me_w M g) (nI 25) = _
    unfold s_X12_restore_32
    rw [c_25, if_pos (nI_le (Nat.le_refl _) (by omega))]
theorem e_restore_60 {M : Me} {o : Nat} (hL : Lay M) (ho : o ≤ 150) : ∃ g, lp (fun s : Me × Int32 => s_X12_restore_60 70 (nI o) s.1 s.2) (M, 0) = some (me_w M g, nI 6) ∧ (∀ x y, x ≠ 72 ∧ x ≠ 73 ∧ x ≠ 75 ∧ x ≠ 76 ∧ x ≠ 77 ∧ x ≠ 78 → g x y = me_i M x y) ∧ (∀ i, i < 6 → g 72 i = me_i M 89 (o + 25 + i) ∧ g 73 i = me_i M 89 (o + 31 + i) ∧ g 75 i = me_i M 89 (o + 37 + i) ∧ g 76 i = me_i M 89 (o + 43 + i) ∧ g 77 i = me_i M 89 (o + 49 + i) ∧ g 78 i = me_i M 89 (o + 55 + i)) := by
  have hlp := lp_cnt (step := fun s : Me × Int32 => s_X12_restore_60 70 (nI o) s.1 s.2) 6
    (fun j s => ∃ g, s = (me_w M g, nI j) ∧ (∀ x y, x ≠ 72 ∧ x ≠ 73 ∧ x ≠ 75 ∧ x ≠ 76 ∧ x ≠ 77 ∧ x ≠ 78 → g x y = me_i M x y) ∧ (∀ i, i < j → g 72 i = me_i M 89 (o + 25 + i) ∧ g 73 i = me_i M 89 (o + 31 + i) ∧ g 75 i = me_i M 89 (o + 37 + i) ∧ g 76 i = me_i M 89 (o + 43 + i) ∧ g 77 i = me_i M 89 (o + 49 + i) ∧ g 78 i = me_i M 89 (o + 55 + i)))
    (fun s => ∃ g, s = (me_w M g, nI 6) ∧ (∀ x y, x ≠ 72 ∧ x ≠ 73 ∧ x ≠ 75 ∧ x ≠ 76 ∧ x ≠ 77 ∧ x ≠ 78 → g x y = me_i M x y) ∧ (∀ i, i < 6 → g 72 i = me_i M 89 (o + 25 + i) ∧ g 73 i = me_i M 89 (o + 31 + i) ∧ g 75 i = me_i M 89 (o + 37 + i) ∧ g 76 i = me_i M 89 (o + 43 + i) ∧ g 77 i = me_i M 89 (o + 49 + i) ∧ g 78 i = me_i M 89 (o + 55 + i)))
    ?_ ?_ (M, 0) ⟨fun x y => me_i M x y, by rw [nI_0]; rfl, fun _ _ _ => rfl, fun i hi => absurd hi (by omega)⟩
  · obtain ⟨x, hx, g, rfl, h1⟩ := hlp
    exact ⟨g, hx, h1⟩
  · rintro j s hj ⟨g, rfl, i1, i2⟩
    have n1 : ¬ nI 6 ≤ nI j := nI_ge hj (by omega)
    refine ⟨((me_si (me_si (me_si (me_si (me_si (me_si (me_w M g) 72 j (g 89 (o + 25 + j))) 73 j (g 89 (o + 31 + j))) 75 j (g 89 (o + 37 + j))) 76 j (g 89 (o + 43 + j))) 77 j (g 89 (o + 49 + j))) 78 j (g 89 (o + 55 + j))), nI (j + 1)), ?_, fun x y => me_i (me_si (me_si (me_si (me_si (me_si (me_si (me_w M g) 72 j (g 89 (o + 25 + j))) 73 j (g 89 (o + 31 + j))) 75 j (g 89 (o + 37 + j))) 76 j (g 89 (o + 43 + j))) 77 j (g 89 (o + 49 + j))) 78 j (g 89 (o + 55 + j))) x y, rfl, fun x y hxy => ?_, fun i hi => ?_⟩
    · show s_X12_restore_60 70 (nI o) (me_w M g) (nI j) = _
      unfold s_X12_restore_60
      rw [c_6, if_neg n1]
      simp (disch := first | (simp only [Lay_si, Lay_w, CL_si, CL_w, CP_si, CP_w]; assumption) | assumption | omega) only [m_ck, m_gi, m_pi, m_gr1, m_gr4, m_gr5, m_gr7, m_gr9, m_gr10, m_gr11, m_gr12, m_gr14, m_gr16, m_gr18, m_gr19, m_gr20, m_gr21, m_gr23, m_gr26, m_gr27, m_gr28, m_gr30, m_gr31, m_li71, m_li72, m_li73, m_li74, m_li75, m_li76, m_li77, m_li78, m_li79, m_li80, m_li81, m_li82, m_li83, m_li84, m_li85, m_li86, m_li87, m_li88, m_li89, m_si71, m_si72, m_si73, m_si74, m_si75, m_si76, m_si77, m_si78, m_si79, m_si80, m_si81, m_si82, m_si83, m_si84, m_si85, m_si86, m_si87, m_si88, m_si89, let_v, nI_add, nI_1, c_25, c_31, c_37, c_43, c_48, c_49, c_55, c_61, c_109, c_121, c_122, c_123, c_124, c_125, i_si, i_w, Nat.reduceEqDiff, false_and, if_false]
    · dsimp only
      rw [i_si, if_neg (by omega), i_si, if_neg (by omega), i_si, if_neg (by omega), i_si, if_neg (by omega), i_si, if_neg (by omega), i_si, if_neg (by omega)]
      exact i1 x y hxy
    · dsimp only
      by_cases hij : i = j
      · subst hij
        have e : ∀ y, g 89 y = me_i M 89 y := fun y => i1 89 y (by omega)
        refine ⟨?_, ?_, ?_, ?_, ?_, ?_⟩
        · rw [i_si, if_neg (by omega), i_si, if_neg (by omega), i_si, if_neg (by omega), i_si, if_neg (by omega), i_si, if_neg (by omega), i_si, if_pos ⟨rfl, rfl⟩, e]
        · rw [i_si, if_neg (by omega), i_si, if_neg (by omega), i_si, if_neg (by omega), i_si, if_neg (by omega), i_si, if_pos ⟨rfl, rfl⟩, e]
        · rw [i_si, if_neg (by omega), i_si, if_neg (by omega), i_si, if_neg (by omega), i_si, if_pos ⟨rfl, rfl⟩, e]
        · rw [i_si, if_neg (by omega), i_si, if_neg (by omega), i_si, if_pos ⟨rfl, rfl⟩, e]
        · rw [i_si, if_neg (by omega), i_si, if_pos ⟨rfl, rfl⟩, e]
        · rw [i_si, if_pos ⟨rfl, rfl⟩, e]
      · have q := i2 i (by omega)
        refine ⟨?_, ?_, ?_, ?_, ?_, ?_⟩
        · rw [i_si, if_neg (by omega), i_si, if_neg (by omega), i_si, if_neg (by omega), i_si, if_neg (by omega), i_si, if_neg (by omega), i_si, if_neg (by omega)]; exact q.1
        · rw [i_si, if_neg (by omega), i_si, if_neg (by omega), i_si, if_neg (by omega), i_si, if_neg (by omega), i_si, if_neg (by omega), i_si, if_neg (by omega)]; exact q.2.1
        · rw [i_si, if_neg (by omega), i_si, if_neg (by omega), i_si, if_neg (by omega), i_si, if_neg (by omega), i_si, if_neg (by omega), i_si, if_neg (by omega)]; exact q.2.2.1
        · rw [i_si, if_neg (by omega), i_si, if_neg (by omega), i_si, if_neg (by omega), i_si, if_neg (by omega), i_si, if_neg (by omega), i_si, if_neg (by omega)]; exact q.2.2.2.1
        · rw [i_si, if_neg (by omega), i_si, if_neg (by omega), i_si, if_neg (by omega), i_si, if_neg (by omega), i_si, if_neg (by omega), i_si, if_neg (by omega)]; exact q.2.2.2.2.1
        · rw [i_si, if_neg (by omega), i_si, if_neg (by omega), i_si, if_neg (by omega), i_si, if_neg (by omega), i_si, if_neg (by omega), i_si, if_neg (by omega)]; exact q.2.2.2.2.2
  · rintro s ⟨g, rfl, i1, i2⟩
    refine ⟨(me_w M g, nI 6), ?_, g, rfl, i1, i2⟩
    show s_X12_restore_60 70 (nI o) (me_w M g) (nI 6) = _
    unfold s_X12_restore_60
    rw [c_6, if_pos (nI_le (Nat.le_refl _) (by omega))]
theorem e_restore_176 {M : Me} {o : Nat} (hL : Lay M) (ho : o ≤ 150) : ∃ g, lp (fun s : Me × Int32 => s_X12_restore_176 70 (nI o) s.1 s.2) (M, 0) = some (me_w M g, nI 48) ∧ (∀ x y, x ≠ 79 → g x y = me_i M x y) ∧ (∀ i, i < 48 → g 79 i = me_i M 89 (o + 61 + i)) := by
  have hlp := lp_cnt (step := fun s : Me × Int32 => s_X12_restore_176 70 (nI o) s.1 s.2) 48
    (fun j s => ∃ g, s = (me_w M g, nI j) ∧ (∀ x y, x ≠ 79 → g x y = me_i M x y) ∧ (∀ i, i < j → g 79 i = me_i M 89 (o + 61 + i)))
    (fun s => ∃ g, s = (me_w M g, nI 48) ∧ (∀ x y, x ≠ 79 → g x y = me_i M x y) ∧ (∀ i, i < 48 → g 79 i = me_i M 89 (o + 61 + i)))
    ?_ ?_ (M, 0) ⟨fun x y => me_i M x y, by rw [nI_0]; rfl, fun _ _ _ => rfl, fun i hi => absurd hi (by omega)⟩
  · obtain ⟨x, hx, g, rfl, h1⟩ := hlp
    exact ⟨g, hx, h1⟩
  · rintro j s hj ⟨g, rfl, i1, i2⟩
    have n1 : ¬ nI 48 ≤ nI j := nI_ge hj (by omega)
    refine ⟨((me_si (me_w M g) 79 j (g 89 (o + 61 + j))), nI (j + 1)), ?_, fun x y => me_i (me_si (me_w M g) 79 j (g 89 (o + 61 + j))) x y, rfl, fun x y hxy => ?_, fun i hi => ?_⟩
    · show s_X12_restore_176 70 (nI o) (me_w M g) (nI j) = _
      unfold s_X12_restore_176
      rw [c_48, if_neg n1]
      simp (disch := first | (simp only [Lay_si, Lay_w, CL_si, CL_w, CP_si, CP_w]; assumption) | assumption | omega) only [m_ck, m_gi, m_pi, m_gr1, m_gr4, m_gr5, m_gr7, m_gr9, m_gr10, m_gr11, m_gr12, m_gr14, m_gr16, m_gr18, m_gr19, m_gr20, m_gr21, m_gr23, m_gr26, m_gr27, m_gr28, m_gr30, m_gr31, m_li71, m_li72, m_li73, m_li74, m_li75, m_li76, m_li77, m_li78, m_li79, m_li80, m_li81, m_li82, m_li83, m_li84, m_li85, m_li86, m_li87, m_li88, m_li89, m_si71, m_si72, m_si73, m_si74, m_si75, m_si76, m_si77, m_si78, m_si79, m_si80, m_si81, m_si82, m_si83, m_si84, m_si85, m_si86, m_si87, m_si88, m_si89, let_v, nI_add, nI_1, c_25, c_31, c_37, c_43, c_48, c_49, c_55, c_61, c_109, c_121, c_122, c_123, c_124, c_125, i_si, i_w, Nat.reduceEqDiff, false_and, if_false]
    · dsimp only
      rw [i_si, if_neg (by omega)]
      exact i1 x y hxy
    · dsimp only
      by_cases hij : i = j
      · subst hij
        have e : ∀ y, g 89 y = me_i M 89 y := fun y => i1 89 y (by omega)
        skip
        · rw [i_si, if_pos ⟨rfl, rfl⟩, e]
      · have q := i2 i (by omega)
        skip
        · rw [i_si, if_neg (by omega)]; exact q
  · rintro s ⟨g, rfl, i1, i2⟩
    refine ⟨(me_w M g, nI 48), ?_, g, rfl, i1, i2⟩
    show s_X12_restore_176 70 (nI o) (me_w M g) (nI 48) = _
    unfold s_X12_restore_176
    rw [c_48, if_pos (nI_le (Nat.le_refl _) (by omega))]
theorem e_restore_207 {M : Me} {o : Nat} (hL : Lay M) (ho : o ≤ 150) : ∃ g, lp (fun s : Me × Int32 => s_X12_restore_207 70 (nI o) s.1 s.2) (M, 0) = some (me_w M g, nI 12) ∧ (∀ x y, x ≠ 74 → g x y = me_i M x y) ∧ (∀ i, i < 12 → g 74 i = me_i M 89 (o + 109 + i)) := by
  have hlp := lp_cnt (step := fun s : Me × Int32 => s_X12_restore_207 70 (nI o) s.1 s.2) 12
    (fun j s => ∃ g, s = (me_w M g, nI j) ∧ (∀ x y, x ≠ 74 → g x y = me_i M x y) ∧ (∀ i, i < j → g 74 i = me_i M 89 (o + 109 + i)))
    (fun s => ∃ g, s = (me_w M g, nI 12) ∧ (∀ x y, x ≠ 74 → g x y = me_i M x y) ∧ (∀ i, i < 12 → g 74 i = me_i M 89 (o + 109 + i)))
    ?_ ?_ (M, 0) ⟨fun x y => me_i M x y, by rw [nI_0]; rfl, fun _ _ _ => rfl, fun i hi => absurd hi (by omega)⟩
  · obtain ⟨x, hx, g, rfl, h1⟩ := hlp
    exact ⟨g, hx, h1⟩
  · rintro j s hj ⟨g, rfl, i1, i2⟩
    have n1 : ¬ nI 12 ≤ nI j := nI_ge hj (by omega)
    refine ⟨((me_si (me_w M g) 74 j (g 89 (o + 109 + j))), nI (j + 1)), ?_, fun x y => me_i (me_si (me_w M g) 74 j (g 89 (o + 109 + j))) x y, rfl, fun x y hxy => ?_, fun i hi => ?_⟩
    · show s_X12_restore_207 70 (nI o) (me_w M g) (nI j) = _
      unfold s_X12_restore_207
      rw [c_12, if_neg n1]
      simp (disch := first | (simp only [Lay_si, Lay_w, CL_si, CL_w, CP_si, CP_w]; assumption) | assumption | omega) only [m_ck, m_gi, m_pi, m_gr1, m_gr4, m_gr5, m_gr7, m_gr9, m_gr10, m_gr11, m_gr12, m_gr14, m_gr16, m_gr18, m_gr19, m_gr20, m_gr21, m_gr23, m_gr26, m_gr27, m_gr28, m_gr30, m_gr31, m_li71, m_li72, m_li73, m_li74, m_li75, m_li76, m_li77, m_li78, m_li79, m_li80, m_li81, m_li82, m_li83, m_li84, m_li85, m_li86, m_li87, m_li88, m_li89, m_si71, m_si72, m_si73, m_si74, m_si75, m_si76, m_si77, m_si78, m_si79, m_si80, m_si81, m_si82, m_si83, m_si84, m_si85, m_si86, m_si87, m_si88, m_si89, let_v, nI_add, nI_1, c_25, c_31, c_37, c_43, c_48, c_49, c_55, c_61, c_109, c_121, c_122, c_123, c_124, c_125, i_si, i_w, Nat.reduceEqDiff, false_and, if_false]
    · dsimp only
      rw [i_si, if_neg (by omega)]
      exact i1 x y hxy
    · dsimp only
      by_cases hij : i = j
      · subst hij
        have e : ∀ y, g 89 y = me_i M 89 y := fun y => i1 89 y (by omega)
        skip
        · rw [i_si, if_pos ⟨rfl, rfl⟩, e]
      · have q := i2 i (by omega)
        skip
        · rw [i_si, if_neg (by omega)]; exact q
  · rintro s ⟨g, rfl, i1, i2⟩
    refine ⟨(me_w M g, nI 12), ?_, g, rfl, i1, i2⟩
    show s_X12_restore_207 70 (nI o) (me_w M g) (nI 12) = _
    unfold s_X12_restore_207
    rw [c_12, if_pos (nI_le (Nat.le_refl _) (by omega))]
theorem e_image_20 {M : Me} {o : Nat} (hL : Lay M) (ho : o ≤ 150) : ∃ g, lp (fun s : Me × Int32 => s_X12_image_20 70 (nI o) s.1 s.2) (M, 0) = some (me_w M g, nI 25) ∧ (∀ x y, ¬ (x = 89 ∧ o ≤ y ∧ y < o + 25) → g x y = me_i M x y) ∧ (∀ i, i < 25 → g 89 (o + i) = me_i M 71 i) := by
  have hlp := lp_cnt (step := fun s : Me × Int32 => s_X12_image_20 70 (nI o) s.1 s.2) 25
    (fun j s => ∃ g, s = (me_w M g, nI j) ∧ (∀ x y, ¬ (x = 89 ∧ o ≤ y ∧ y < o + 25) → g x y = me_i M x y) ∧ (∀ i, i < j → g 89 (o + i) = me_i M 71 i))
    (fun s => ∃ g, s = (me_w M g, nI 25) ∧ (∀ x y, ¬ (x = 89 ∧ o ≤ y ∧ y < o + 25) → g x y = me_i M x y) ∧ (∀ i, i < 25 → g 89 (o + i) = me_i M 71 i))
    ?_ ?_ (M, 0) ⟨fun x y => me_i M x y, by rw [nI_0]; rfl, fun _ _ _ => rfl, fun i hi => absurd hi (by omega)⟩
  · obtain ⟨x, hx, g, rfl, h1⟩ := hlp
    exact ⟨g, hx, h1⟩
  · rintro j s hj ⟨g, rfl, i1, i2⟩
    have n1 : ¬ nI 25 ≤ nI j := nI_ge hj (by omega)
    refine ⟨((me_si (me_w M g) 89 (o + j) (g 71 j)), nI (j + 1)), ?_, fun x y => me_i (me_si (me_w M g) 89 (o + j) (g 71 j)) x y, rfl, fun x y hxy => ?_, fun i hi => ?_⟩
    · show s_X12_image_20 70 (nI o) (me_w M g) (nI j) = _
      unfold s_X12_image_20
      rw [c_25, if_neg n1]
      simp (disch := first | (simp only [Lay_si, Lay_w, CL_si, CL_w, CP_si, CP_w]; assumption) | assumption | omega) only [m_ck, m_gi, m_pi, m_gr1, m_gr4, m_gr5, m_gr7, m_gr9, m_gr10, m_gr11, m_gr12, m_gr14, m_gr16, m_gr18, m_gr19, m_gr20, m_gr21, m_gr23, m_gr26, m_gr27, m_gr28, m_gr30, m_gr31, m_li71, m_li72, m_li73, m_li74, m_li75, m_li76, m_li77, m_li78, m_li79, m_li80, m_li81, m_li82, m_li83, m_li84, m_li85, m_li86, m_li87, m_li88, m_li89, m_si71, m_si72, m_si73, m_si74, m_si75, m_si76, m_si77, m_si78, m_si79, m_si80, m_si81, m_si82, m_si83, m_si84, m_si85, m_si86, m_si87, m_si88, m_si89, let_v, nI_add, nI_1, c_25, c_31, c_37, c_43, c_48, c_49, c_55, c_61, c_109, c_121, c_122, c_123, c_124, c_125, i_si, i_w, Nat.reduceEqDiff, false_and, if_false]
    · dsimp only
      rw [i_si, if_neg (by omega)]
      exact i1 x y hxy
    · dsimp only
      by_cases hij : i = j
      · subst hij
        have e71 : g 71 i = me_i M 71 i := i1 71 i (by omega)
        skip
        · rw [i_si, if_pos ⟨rfl, rfl⟩, e71]
      · have q := i2 i (by omega)
        skip
        · rw [i_si, if_neg (by omega)]; exact q
  · rintro s ⟨g, rfl, i1, i2⟩
    refine ⟨(me_w M g, nI 25), ?_, g, rfl, i1, i2⟩
    show s_X12_image_20 70 (nI o) (me_w M g) (nI 25) = _
    unfold s_X12_image_20
    rw [c_25, if_pos (nI_le (Nat.le_refl _) (by omega))]
theorem e_image_48 {M : Me} {o : Nat} (hL : Lay M) (ho : o ≤ 150) : ∃ g, lp (fun s : Me × Int32 => s_X12_image_48 70 (nI o) s.1 s.2) (M, 0) = some (me_w M g, nI 6) ∧ (∀ x y, ¬ (x = 89 ∧ o + 25 ≤ y ∧ y < o + 61) → g x y = me_i M x y) ∧ (∀ i, i < 6 → g 89 (o + 25 + i) = me_i M 72 i ∧ g 89 (o + 31 + i) = me_i M 73 i ∧ g 89 (o + 37 + i) = me_i M 75 i ∧ g 89 (o + 43 + i) = me_i M 76 i ∧ g 89 (o + 49 + i) = me_i M 77 i ∧ g 89 (o + 55 + i) = me_i M 78 i) := by
  have hlp := lp_cnt (step := fun s : Me × Int32 => s_X12_image_48 70 (nI o) s.1 s.2) 6
    (fun j s => ∃ g, s = (me_w M g, nI j) ∧ (∀ x y, ¬ (x = 89 ∧ o + 25 ≤ y ∧ y < o + 61) → g x y = me_i M x y) ∧ (∀ i, i < j → g 89 (o + 25 + i) = me_i M 72 i ∧ g 89 (o + 31 + i) = me_i M 73 i ∧ g 89 (o + 37 + i) = me_i M 75 i ∧ g 89 (o + 43 + i) = me_i M 76 i ∧ g 89 (o + 49 + i) = me_i M 77 i ∧ g 89 (o + 55 + i) = me_i M 78 i))
    (fun s => ∃ g, s = (me_w M g, nI 6) ∧ (∀ x y, ¬ (x = 89 ∧ o + 25 ≤ y ∧ y < o + 61) → g x y = me_i M x y) ∧ (∀ i, i < 6 → g 89 (o + 25 + i) = me_i M 72 i ∧ g 89 (o + 31 + i) = me_i M 73 i ∧ g 89 (o + 37 + i) = me_i M 75 i ∧ g 89 (o + 43 + i) = me_i M 76 i ∧ g 89 (o + 49 + i) = me_i M 77 i ∧ g 89 (o + 55 + i) = me_i M 78 i))
    ?_ ?_ (M, 0) ⟨fun x y => me_i M x y, by rw [nI_0]; rfl, fun _ _ _ => rfl, fun i hi => absurd hi (by omega)⟩
  · obtain ⟨x, hx, g, rfl, h1⟩ := hlp
    exact ⟨g, hx, h1⟩
  · rintro j s hj ⟨g, rfl, i1, i2⟩
    have n1 : ¬ nI 6 ≤ nI j := nI_ge hj (by omega)
    refine ⟨((me_si (me_si (me_si (me_si (me_si (me_si (me_w M g) 89 (o + 25 + j) (g 72 j)) 89 (o + 31 + j) (g 73 j)) 89 (o + 37 + j) (g 75 j)) 89 (o + 43 + j) (g 76 j)) 89 (o + 49 + j) (g 77 j)) 89 (o + 55 + j) (g 78 j)), nI (j + 1)), ?_, fun x y => me_i (me_si (me_si (me_si (me_si (me_si (me_si (me_w M g) 89 (o + 25 + j) (g 72 j)) 89 (o + 31 + j) (g 73 j)) 89 (o + 37 + j) (g 75 j)) 89 (o + 43 + j) (g 76 j)) 89 (o + 49 + j) (g 77 j)) 89 (o + 55 + j) (g 78 j)) x y, rfl, fun x y hxy => ?_, fun i hi => ?_⟩
    · show s_X12_image_48 70 (nI o) (me_w M g) (nI j) = _
      unfold s_X12_image_48
      rw [c_6, if_neg n1]
      simp (disch := first | (simp only [Lay_si, Lay_w, CL_si, CL_w, CP_si, CP_w]; assumption) | assumption | omega) only [m_ck, m_gi, m_pi, m_gr1, m_gr4, m_gr5, m_gr7, m_gr9, m_gr10, m_gr11, m_gr12, m_gr14, m_gr16, m_gr18, m_gr19, m_gr20, m_gr21, m_gr23, m_gr26, m_gr27, m_gr28, m_gr30, m_gr31, m_li71, m_li72, m_li73, m_li74, m_li75, m_li76, m_li77, m_li78, m_li79, m_li80, m_li81, m_li82, m_li83, m_li84, m_li85, m_li86, m_li87, m_li88, m_li89, m_si71, m_si72, m_si73, m_si74, m_si75, m_si76, m_si77, m_si78, m_si79, m_si80, m_si81, m_si82, m_si83, m_si84, m_si85, m_si86, m_si87, m_si88, m_si89, let_v, nI_add, nI_1, c_25, c_31, c_37, c_43, c_48, c_49, c_55, c_61, c_109, c_121, c_122, c_123, c_124, c_125, i_si, i_w, Nat.reduceEqDiff, false_and, if_false]
    · dsimp only
      rw [i_si, if_neg (by omega), i_si, if_neg (by omega), i_si, if_neg (by omega), i_si, if_neg (by omega), i_si, if_neg (by omega), i_si, if_neg (by omega)]
      exact i1 x y hxy
    · dsimp only
      by_cases hij : i = j
      · subst hij
        have e72 : g 72 i = me_i M 72 i := i1 72 i (by omega)
        have e73 : g 73 i = me_i M 73 i := i1 73 i (by omega)
        have e75 : g 75 i = me_i M 75 i := i1 75 i (by omega)
        have e76 : g 76 i = me_i M 76 i := i1 76 i (by omega)
        have e77 : g 77 i = me_i M 77 i := i1 77 i (by omega)
        have e78 : g 78 i = me_i M 78 i := i1 78 i (by omega)
        refine ⟨?_, ?_, ?_, ?_, ?_, ?_⟩
        · rw [i_si, if_neg (by omega), i_si, if_neg (by omega), i_si, if_neg (by omega), i_si, if_neg (by omega), i_si, if_neg (by omega), i_si, if_pos ⟨rfl, rfl⟩, e72]
        · rw [i_si, if_neg (by omega), i_si, if_neg (by omega), i_si, if_neg (by omega), i_si, if_neg (by omega), i_si, if_pos ⟨rfl, rfl⟩, e73]
        · rw [i_si, if_neg (by omega), i_si, if_neg (by omega), i_si, if_neg (by omega), i_si, if_pos ⟨rfl, rfl⟩, e75]
        · rw [i_si, if_neg (by omega), i_si, if_neg (by omega), i_si, if_pos ⟨rfl, rfl⟩, e76]
        · rw [i_si, if_neg (by omega), i_si, if_pos ⟨rfl, rfl⟩, e77]
        · rw [i_si, if_pos ⟨rfl, rfl⟩, e78]
      · have q := i2 i (by omega)
        refine ⟨?_, ?_, ?_, ?_, ?_, ?_⟩
        · rw [i_si, if_neg (by omega), i_si, if_neg (by omega), i_si, if_neg (by omega), i_si, if_neg (by omega), i_si, if_neg (by omega), i_si, if_neg (by omega)]; exact q.1
        · rw [i_si, if_neg (by omega), i_si, if_neg (by omega), i_si, if_neg (by omega), i_si, if_neg (by omega), i_si, if_neg (by omega), i_si, if_neg (by omega)]; exact q.2.1
        · rw [i_si, if_neg (by omega), i_si, if_neg (by omega), i_si, if_neg (by omega), i_si, if_neg (by omega), i_si, if_neg (by omega), i_si, if_neg (by omega)]; exact q.2.2.1
        · rw [i_si, if_neg (by omega), i_si, if_neg (by omega), i_si, if_neg (by omega), i_si, if_neg (by omega), i_si, if_neg (by omega), i_si, if_neg (by omega)]; exact q.2.2.2.1
        · rw [i_si, if_neg (by omega), i_si, if_neg (by omega), i_si, if_neg (by omega), i_si, if_neg (by omega), i_si, if_neg (by omega), i_si, if_neg (by omega)]; exact q.2.2.2.2.1
        · rw [i_si, if_neg (by omega), i_si, if_neg (by omega), i_si, if_neg (by omega), i_si, if_neg (by omega), i_si, if_neg (by omega), i_si, if_neg (by omega)]; exact q.2.2.2.2.2
  · rintro s ⟨g, rfl, i1, i2⟩
    refine ⟨(me_w M g, nI 6), ?_, g, rfl, i1, i2⟩
    show s_X12_image_48 70 (nI o) (me_w M g) (nI 6) = _
    unfold s_X12_image_48
    rw [c_6, if_pos (nI_le (Nat.le_refl _) (by omega))]
theorem e_image_164 {M : Me} {o : Nat} (hL : Lay M) (ho : o ≤ 150) : ∃ g, lp (fun s : Me × Int32 => s_X12_image_164 70 (nI o) s.1 s.2) (M, 0) = some (me_w M g, nI 48) ∧ (∀ x y, ¬ (x = 89 ∧ o + 61 ≤ y ∧ y < o + 109) → g x y = me_i M x y) ∧ (∀ i, i < 48 → g 89 (o + 61 + i) = me_i M 79 i) := by
  have hlp := lp_cnt (step := fun s : Me × Int32 => s_X12_image_164 70 (nI o) s.1 s.2) 48
    (fun j s => ∃ g, s = (me_w M g, nI j) ∧ (∀ x y, ¬ (x = 89 ∧ o + 61 ≤ y ∧ y < o + 109) → g x y = me_i M x y) ∧ (∀ i, i < j → g 89 (o + 61 + i) = me_i M 79 i))
    (fun s => ∃ g, s = (me_w M g, nI 48) ∧ (∀ x y, ¬ (x = 89 ∧ o + 61 ≤ y ∧ y < o + 109) → g x y = me_i M x y) ∧ (∀ i, i < 48 → g 89 (o + 61 + i) = me_i M 79 i))
    ?_ ?_ (M, 0) ⟨fun x y => me_i M x y, by rw [nI_0]; rfl, fun _ _ _ => rfl, fun i hi => absurd hi (by omega)⟩
  · obtain ⟨x, hx, g, rfl, h1⟩ := hlp
    exact ⟨g, hx, h1⟩
  · rintro j s hj ⟨g, rfl, i1, i2⟩
    have n1 : ¬ nI 48 ≤ nI j := nI_ge hj (by omega)
    refine ⟨((me_si (me_w M g) 89 (o + 61 + j) (g 79 j)), nI (j + 1)), ?_, fun x y => me_i (me_si (me_w M g) 89 (o + 61 + j) (g 79 j)) x y, rfl, fun x y hxy => ?_, fun i hi => ?_⟩
    · show s_X12_image_164 70 (nI o) (me_w M g) (nI j) = _
      unfold s_X12_image_164
      rw [c_48, if_neg n1]
      simp (disch := first | (simp only [Lay_si, Lay_w, CL_si, CL_w, CP_si, CP_w]; assumption) | assumption | omega) only [m_ck, m_gi, m_pi, m_gr1, m_gr4, m_gr5, m_gr7, m_gr9, m_gr10, m_gr11, m_gr12, m_gr14, m_gr16, m_gr18, m_gr19, m_gr20, m_gr21, m_gr23, m_gr26, m_gr27, m_gr28, m_gr30, m_gr31, m_li71, m_li72, m_li73, m_li74, m_li75, m_li76, m_li77, m_li78, m_li79, m_li80, m_li81, m_li82, m_li83, m_li84, m_li85, m_li86, m_li87, m_li88, m_li89, m_si71, m_si72, m_si73, m_si74, m_si75, m_si76, m_si77, m_si78, m_si79, m_si80, m_si81, m_si82, m_si83, m_si84, m_si85, m_si86, m_si87, m_si88, m_si89, let_v, nI_add, nI_1, c_25, c_31, c_37, c_43, c_48, c_49, c_55, c_61, c_109, c_121, c_122, c_123, c_124, c_125, i_si, i_w, Nat.reduceEqDiff, false_and, if_false]
    · dsimp only
      rw [i_si, if_neg (by omega)]
      exact i1 x y hxy
    · dsimp only
      by_cases hij : i = j
      · subst hij
        have e79 : g 79 i = me_i M 79 i := i1 79 i (by omega)
        skip
        · rw [i_si, if_pos ⟨rfl, rfl⟩, e79]
      · have q := i2 i (by omega)
        skip
        · rw [i_si, if_neg (by omega)]; exact q
  · rintro s ⟨g, rfl, i1, i2⟩
    refine ⟨(me_w M g, nI 48), ?_, g, rfl, i1, i2⟩
    show s_X12_image_164 70 (nI o) (me_w M g) (nI 48) = _
    unfold s_X12_image_164
    rw [c_48, if_pos (nI_le (Nat.le_refl _) (by omega))]
theorem e_image_195 {M : Me} {o : Nat} (hL : Lay M) (ho : o ≤ 150) : ∃ g, lp (fun s : Me × Int32 => s_X12_image_195 70 (nI o) s.1 s.2) (M, 0) = some (me_w M g, nI 12) ∧ (∀ x y, ¬ (x = 89 ∧ o + 109 ≤ y ∧ y < o + 121) → g x y = me_i M x y) ∧ (∀ i, i < 12 → g 89 (o + 109 + i) = me_i M 74 i) := by
  have hlp := lp_cnt (step := fun s : Me × Int32 => s_X12_image_195 70 (nI o) s.1 s.2) 12
    (fun j s => ∃ g, s = (me_w M g, nI j) ∧ (∀ x y, ¬ (x = 89 ∧ o + 109 ≤ y ∧ y < o + 121) → g x y = me_i M x y) ∧ (∀ i, i < j → g 89 (o + 109 + i) = me_i M 74 i))
    (fun s => ∃ g, s = (me_w M g, nI 12) ∧ (∀ x y, ¬ (x = 89 ∧ o + 109 ≤ y ∧ y < o + 121) → g x y = me_i M x y) ∧ (∀ i, i < 12 → g 89 (o + 109 + i) = me_i M 74 i))
    ?_ ?_ (M, 0) ⟨fun x y => me_i M x y, by rw [nI_0]; rfl, fun _ _ _ => rfl, fun i hi => absurd hi (by omega)⟩
  · obtain ⟨x, hx, g, rfl, h1⟩ := hlp
    exact ⟨g, hx, h1⟩
  · rintro j s hj ⟨g, rfl, i1, i2⟩
    have n1 : ¬ nI 12 ≤ nI j := nI_ge hj (by omega)
    refine ⟨((me_si (me_w M g) 89 (o + 109 + j) (g 74 j)), nI (j + 1)), ?_, fun x y => me_i (me_si (me_w M g) 89 (o + 109 + j) (g 74 j)) x y, rfl, fun x y hxy => ?_, fun i hi => ?_⟩
    · show s_X12_image_195 70 (nI o) (me_w M g) (nI j) = _
      unfold s_X12_image_195
      rw [c_12, if_neg n1]
      simp (disch := first | (simp only [Lay_si, Lay_w, CL_si, CL_w, CP_si, CP_w]; assumption) | assumption | omega) only [m_ck, m_gi, m_pi, m_gr1, m_gr4, m_gr5, m_gr7, m_gr9, m_gr10, m_gr11, m_gr12, m_gr14, m_gr16, m_gr18, m_gr19, m_gr20, m_gr21, m_gr23, m_gr26, m_gr27, m_gr28, m_gr30, m_gr31, m_li71, m_li72, m_li73, m_li74, m_li75, m_li76, m_li77, m_li78, m_li79, m_li80, m_li81, m_li82, m_li83, m_li84, m_li85, m_li86, m_li87, m_li88, m_li89, m_si71, m_si72, m_si73, m_si74, m_si75, m_si76, m_si77, m_si78, m_si79, m_si80, m_si81, m_si82, m_si83, m_si84, m_si85, m_si86, m_si87, m_si88, m_si89, let_v, nI_add, nI_1, c_25, c_31, c_37, c_43, c_48, c_49, c_55, c_61, c_109, c_121, c_122, c_123, c_124, c_125, i_si, i_w, Nat.reduceEqDiff, false_and, if_false]
    · dsimp only
      rw [i_si, if_neg (by omega)]
      exact i1 x y hxy
    · dsimp only
      by_cases hij : i = j
      · subst hij
        have e74 : g 74 i = me_i M 74 i := i1 74 i (by omega)
        skip
        · rw [i_si, if_pos ⟨rfl, rfl⟩, e74]
      · have q := i2 i (by omega)
        skip
        · rw [i_si, if_neg (by omega)]; exact q
  · rintro s ⟨g, rfl, i1, i2⟩
    refine ⟨(me_w M g, nI 12), ?_, g, rfl, i1, i2⟩
    show s_X12_image_195 70 (nI o) (me_w M g) (nI 12) = _
    unfold s_X12_image_195
    rw [c_12, if_pos (nI_le (Nat.le_refl _) (by omega))]

/-! a state that tells (X, w) -/
def ST (X : Cx) (w : Wd) (st : St) : Prop :=
  (st 70 0 = nI X.2.2.1 ∧ st 70 2 = nI X.2.1 ∧ st 70 3 = nI X.1 ∧ st 70 8 = nI w.2.1 ∧ st 70 13 = nI w.1.length) ∧
  (∀ i, i < 25 → st 71 i = nI (X.2.2.2.2.2 i)) ∧
  (∀ k, k < 6 → X.1.testBit k = true → st 72 k = nI (X.2.2.2.1 k) ∧ st 73 k = nI (X.2.2.2.2.1 k) ∧ st 75 k = nI (w.2.2.1 k 5) ∧ st 76 k = nI (w.2.2.1 k 6) ∧ st 77 k = nI (w.2.2.1 k 3) ∧ st 78 k = w.2.2.2 k) ∧
  ∀ i r, w.1[i]? = some r → st 79 (4 * i) = nI r.1 ∧ st 79 (4 * i + 1) = nI r.2.1 ∧ st 79 (4 * i + 2) = nI r.2.2.1 ∧ st 79 (4 * i + 3) = nI r.2.2.2
theorem ST.of {n : Nat} {st : St} {c0 y t D nd sg : Nat} (h : Val n st c0 y t D nd sg) (hn : n ≤ 512) : ST (x_of st t y c0) (w_of st D nd) st := by
  obtain ⟨⟨a1, a2⟩, ⟨b1, b2, b3⟩, ⟨c1, c2⟩, ⟨d1, d2⟩, ⟨e1, e2⟩, f1⟩ := h.1
  refine ⟨⟨a1, b1, c1, d1, ?_⟩, fun i hi => (val_rd h hi).1, fun k hk ht => ?_, fun i r hi => ?_⟩
  · show _ = nI ((List.range nd).map _).length
    simp; exact e1
  · obtain ⟨⟨v1, v2⟩, ⟨v3, v4, v5⟩, -⟩ := val_kn (D := D) (nd := nd) h hk ht
    exact ⟨v1, v2, v4, v5, v3, rfl⟩
  · have hlt := (List.getElem?_eq_some_iff.mp hi).1
    have hlt2 : i < nd := by simpa [w_of] using hlt
    have er : r_of st i = r := by
      have : ((List.range nd).map (r_of st))[i]? = some r := hi
      rw [List.getElem?_map, List.getElem?_range hlt2] at this
      exact Option.some.inj this
    subst er
    obtain ⟨p1, p2, p3, p4, -⟩ := val_row h hn hlt2
    exact ⟨p1, p2, p3, p4⟩
theorem ST.val {n : Nat} {X : Cx} {w : Wd} {st : St} {sg : Nat} (h : ST X w st) (hX : XV X) (hW : WV X w) (hD : w.2.1 ≤ 6000 * n) (hs : st 70 6 = nI sg ∧ sg ≤ 6) (hS : VS st sg) : Val n st X.2.2.1 X.2.1 X.1 w.2.1 w.1.length sg := by
  obtain ⟨⟨a1, a2, a3, a4, a5⟩, hr, hk, hd⟩ := h
  obtain ⟨x1, x2, x3, x4, x5⟩ := hX
  obtain ⟨w1, w2, w3, w4, w5⟩ := hW
  refine ⟨⟨⟨a1, x3⟩, ⟨a2, x2⟩, ⟨a3, x1⟩, ⟨a4, hD⟩, ⟨a5, w1⟩, hs⟩, fun i hi => ⟨_, x5 i hi, hr i hi⟩, fun k hk6 ht => ?_, ⟨fun i hi => ?_, fun i j d1 d2 hij hj h1 h2 e1 e2 => ?_⟩, hS⟩
  · obtain ⟨k1, k2, k3, k4, k5, k6⟩ := hk k hk6 ht
    obtain ⟨y1, y2, y3⟩ := x4 k hk6 ht
    obtain ⟨z1, z2, z3⟩ := w3 k hk6 ht
    exact ⟨⟨_, k1, y1, y2⟩, ⟨_, k2, y3⟩, ⟨_, k3, z2⟩, ⟨_, k4, z3⟩, ⟨_, k5, z1⟩⟩
  · have hg : w.1[i]? = some w.1[i] := List.getElem?_eq_getElem hi
    obtain ⟨r1, r2, r3, r4⟩ := hd i _ hg
    obtain ⟨u1, u2, u3, u4, u5, u6, u7, u8, u9⟩ := w4 _ (List.getElem_mem hi)
    have q1 := (hk _ u1 u4).2.2.2.2.1
    have q2 := (hk _ u2 u5).2.2.2.2.1
    have b1 := (w3 _ u1 u4).1
    have b2 := (w3 _ u2 u5).1
    refine ⟨_, _, _, _, r1, r2, r3, r4, u1, u2, u3, u4, u5, ?_, ?_, u8, u9⟩
    · rw [q1]; exact nI_ne0 (by omega) (by omega)
    · rw [q2]; exact nI_ne0 (by omega) (by omega)
  · have hi : i < w.1.length := by omega
    obtain ⟨-, -, -, r4⟩ := hd i _ (List.getElem?_eq_getElem hi)
    obtain ⟨-, -, -, q4⟩ := hd j _ (List.getElem?_eq_getElem hj)
    obtain ⟨-, -, -, -, -, -, -, -, u9⟩ := w4 _ (List.getElem_mem hi)
    obtain ⟨-, -, -, -, -, -, -, -, v9⟩ := w4 _ (List.getElem_mem hj)
    have t1 : d1 = w.1[i].2.2.2 := (nI_eq h1 (by omega)).mp (e1.symm.trans r4)
    have t2 : d2 = w.1[j].2.2.2 := (nI_eq h2 (by omega)).mp (e2.symm.trans q4)
    by_cases hij2 : i = j
    · subst hij2; omega
    · rw [t1, t2]; exact List.pairwise_iff_getElem.mp w5 i j hi hj (by omega)
theorem CB.rpn {X : Cx} {N : Me} {c : Nat} {w : Wd} {st : St} {sg : Nat} (hB : CB X N c w) (h : ST X w st) (h18 : me_i N (c + 18) 0 = st 70 6) (hs : ∀ i, i < sg → me_i N (c + 19) i = st 74 (2 * i) ∧ me_i N (c + 20) i = st 74 (2 * i + 1)) : ∃ π, CP N c π ∧ Rpn N c π st X.1 w.1.length sg := by
  obtain ⟨⟨a1, a2, a3, a4, a5⟩, hr, hk, hd⟩ := h
  obtain ⟨π, n, rs, ⟨hCL, hCP, ⟨f1, f2, f3, f4⟩, hK, ⟨d1, d2, d3⟩, hw⟩, hm⟩ := hB
  have hl : w.1.length = n := by rw [hw, lv_all hm]; simp
  refine ⟨π, hCP, ⟨f2.trans a1.symm, f3.trans a2.symm, fun i hi => (f4 i hi).trans (hr i hi).symm⟩, fun k hk6 => ⟨(hK k hk6).1, fun ht => ?_⟩, ⟨?_, fun i hi => ?_⟩, ⟨h18, hs⟩, f1.trans a4.symm⟩
  · obtain ⟨k1, k2, k3, k4, k5, k6⟩ := hk k hk6 ht
    obtain ⟨s1, s2, s3, s4, s5, s6⟩ := (hK k hk6).2 ht
    exact ⟨s1.trans k2.symm, s2.trans k1.symm, s3.trans k5.symm, s4.trans k6.symm, s5.trans k3.symm, s6.trans k4.symm⟩
  · rw [d2, a5, hl]
  · have hg : w.1[i]? = some (rs (π i)) := by
      rw [hw, lv_all hm, List.getElem?_map, List.getElem?_map, List.getElem?_range (by omega)]; rfl
    obtain ⟨r1, r2, r3, r4⟩ := hd i _ hg
    obtain ⟨s0, s1, s2, s3, -⟩ := d3 i (by omega)
    exact ⟨s0.trans r1.symm, s1.trans r2.symm, s2.trans r3.symm, s3.trans r4.symm, hm i (by omega)⟩
theorem Rpn.st {X : Cx} {w : Wd} {N : Me} {c : Nat} {π : Nat → Nat} {st su : St} {sg : Nat} (h : Rpn N c π st X.1 w.1.length sg) (a : ST X w st) (b : ST X w su) (h6 : su 70 6 = st 70 6) (h74 : ∀ k, su 74 k = st 74 k) : Rpn N c π su X.1 w.1.length sg := by
  obtain ⟨⟨a1, a2, a3, a4, a5⟩, ar, ak, ad⟩ := a
  obtain ⟨⟨b1, b2, b3, b4, b5⟩, br, bk, bd⟩ := b
  obtain ⟨⟨r1, r2, r3⟩, rK, ⟨r4, r5⟩, ⟨r6, r7⟩, r8⟩ := h
  refine ⟨⟨r1.trans (a1.trans b1.symm), r2.trans (a2.trans b2.symm), fun i hi => (r3 i hi).trans ((ar i hi).trans (br i hi).symm)⟩, fun k hk => ⟨(rK k hk).1, fun ht => ?_⟩, ⟨r4.trans (a5.trans b5.symm), fun i hi => ?_⟩, ⟨r6.trans h6.symm, fun i hi => by rw [h74, h74]; exact r7 i hi⟩, r8.trans (a4.trans b4.symm)⟩
  · obtain ⟨s1, s2, s3, s4, s5, s6⟩ := (rK k hk).2 ht
    obtain ⟨p1, p2, p3, p4, p5, p6⟩ := ak k hk ht
    obtain ⟨q1, q2, q3, q4, q5, q6⟩ := bk k hk ht
    exact ⟨s1.trans (p2.trans q2.symm), s2.trans (p1.trans q1.symm), s3.trans (p5.trans q5.symm), s4.trans (p6.trans q6.symm), s5.trans (p3.trans q3.symm), s6.trans (p4.trans q4.symm)⟩
  · obtain ⟨s0, s1, s2, s3, s4⟩ := r5 i hi
    obtain ⟨p1, p2, p3, p4⟩ := ad i _ (List.getElem?_eq_getElem hi)
    obtain ⟨q1, q2, q3, q4⟩ := bd i _ (List.getElem?_eq_getElem hi)
    exact ⟨s0.trans (p1.trans q1.symm), s1.trans (p2.trans q2.symm), s2.trans (p3.trans q3.symm), s3.trans (p4.trans q4.symm), s4⟩
theorem Rpn.same {M N : Me} {c : Nat} {π : Nat → Nat} {st : St} {t nd sg : Nat} (h : Rpn M c π st t nd sg) (hp : CP M c π) (hn : nd ≤ 12) (hi : ∀ a k, c ≤ a → a < c + 28 → me_i N a k = me_i M a k) : Rpn N c π st t nd sg := by
  obtain ⟨⟨a1, a2, a3⟩, b1, ⟨c1, c2⟩, ⟨d1, d2⟩, e1⟩ := h
  refine ⟨⟨?_, ?_, fun i h1 => ?_⟩, fun k hk => ?_, ⟨?_, fun i h1 => ?_⟩, ⟨?_, fun i h1 => ?_⟩, ?_⟩
  · rw [hi _ _ (by omega) (by omega)]; exact a1
  · rw [hi _ _ (by omega) (by omega)]; exact a2
  · rw [hi _ _ (by omega) (by omega)]; exact a3 i h1
  · simp only [hi (c + 22 + k) _ (by omega) (by omega)]; exact b1 k hk
  · rw [hi _ _ (by omega) (by omega)]; exact c1
  · have h2 := (hp.1 i (by omega)).1
    simp only [hi (c + 6 + π i) _ (by omega) (by omega)]; exact c2 i h1
  · rw [hi _ _ (by omega) (by omega)]; exact d1
  · simp only [hi (c + 19) _ (by omega) (by omega), hi (c + 20) _ (by omega) (by omega)]; exact d2 i h1
  · rw [hi _ _ (by omega) (by omega)]; exact e1
theorem x_same {st su : St} {t y c0 : Nat} (h : ∀ a k, 71 ≤ a → a ≤ 79 → su a k = st a k) : x_of su t y c0 = x_of st t y c0 := by
  unfold x_of
  simp only [h 72 _ (by omega) (by omega), h 73 _ (by omega) (by omega), h 71 _ (by omega) (by omega)]
theorem w_same {st su : St} {D nd : Nat} (h : ∀ a k, 71 ≤ a → a ≤ 79 → su a k = st a k) : w_of su D nd = w_of st D nd := by
  unfold w_of r_of
  simp only [h 79 _ (by omega) (by omega), h 77 _ (by omega) (by omega), h 75 _ (by omega) (by omega), h 76 _ (by omega) (by omega), h 78 _ (by omega) (by omega)]
theorem cl33 {M : Me} (h : Lay M) : CL M 33 := by
  have h0 : CL M_0 33 := by unfold CL; decide +kernel
  exact h0.same (fun a _ _ => h.1 a (by omega)) (fun a k _ _ _ => h.2 a (by omega) (by omega) (by omega) (by omega) k)
theorem gn_o {M : Me} {a k : Nat} (h1 : ¬ (81 ≤ a ∧ a ≤ 85)) (h2 : ¬ (a = 70 ∧ (k = 17 ∨ k = 22))) : g_now M a k = me_i M a k := by
  unfold g_now
  rw [if_neg (by omega), if_neg (by omega), if_neg (by omega), if_neg (by omega), if_neg (by omega), if_neg (by omega), if_neg (by omega)]
theorem flt_lt {v : Nat → Nat} {c0 p : Nat} : ∀ f pl k, flt v c0 p f pl = some k → k ≤ p + 4 := by
  intro f
  induction f with
  | zero => intro pl k h; cases h
  | succ f ih =>
    intro pl k h
    unfold flt at h
    split at h
    · cases h
    · split at h
      · have := gd_le (v := v) (c0 := c0) pl
        have e := Option.some.inj h
        omega
      · exact ih _ _ h
/-! keep -/
theorem e_keep_10 {M : Me} (hL : Lay M) : ∃ g, lp (fun s : Me × Int32 => s_X12_keep_10 70 s.1 s.2) (M, 0) = some (me_w M g, nI 6) ∧ (∀ x y, ¬ (75 ≤ x ∧ x ≤ 78) → g x y = me_i M x y) ∧ (∀ i, i < 6 → g 75 i = me_i M 81 i ∧ g 76 i = me_i M 82 i ∧ g 77 i = me_i M 83 i ∧ g 78 i = me_i M 84 i) := by
  have hlp := lp_cnt (step := fun s : Me × Int32 => s_X12_keep_10 70 s.1 s.2) 6
    (fun j s => ∃ g, s = (me_w M g, nI j) ∧ (∀ x y, ¬ (75 ≤ x ∧ x ≤ 78) → g x y = me_i M x y) ∧ (∀ i, i < j → g 75 i = me_i M 81 i ∧ g 76 i = me_i M 82 i ∧ g 77 i = me_i M 83 i ∧ g 78 i = me_i M 84 i))
    (fun s => ∃ g, s = (me_w M g, nI 6) ∧ (∀ x y, ¬ (75 ≤ x ∧ x ≤ 78) → g x y = me_i M x y) ∧ (∀ i, i < 6 → g 75 i = me_i M 81 i ∧ g 76 i = me_i M 82 i ∧ g 77 i = me_i M 83 i ∧ g 78 i = me_i M 84 i))
    ?_ ?_ (M, 0) ⟨fun x y => me_i M x y, by rw [nI_0]; rfl, fun _ _ _ => rfl, fun i hi => absurd hi (by omega)⟩
  · obtain ⟨x, hx, g, rfl, h1⟩ := hlp
    exact ⟨g, hx, h1⟩
  · rintro j s hj ⟨g, rfl, i1, i2⟩
    have n1 : ¬ nI 6 ≤ nI j := nI_ge hj (by omega)
    refine ⟨(me_si (me_si (me_si (me_si (me_w M g) 75 j (g 81 j)) 76 j (g 82 j)) 77 j (g 83 j)) 78 j (g 84 j), nI (j + 1)), ?_, fun x y => me_i (me_si (me_si (me_si (me_si (me_w M g) 75 j (g 81 j)) 76 j (g 82 j)) 77 j (g 83 j)) 78 j (g 84 j)) x y, rfl, fun x y hxy => ?_, fun i hi => ?_⟩
    · show s_X12_keep_10 70 (me_w M g) (nI j) = _
      unfold s_X12_keep_10
      rw [c_6, if_neg n1]
      simp (disch := first | (simp only [Lay_si, Lay_w, CL_si, CL_w, CP_si, CP_w]; assumption) | assumption | omega) only [m_ck, m_gi, m_pi, m_gr1, m_gr4, m_gr5, m_gr7, m_gr9, m_gr10, m_gr11, m_gr12, m_gr14, m_gr16, m_gr18, m_gr19, m_gr20, m_gr21, m_gr23, m_gr26, m_gr27, m_gr28, m_gr30, m_gr31, m_li71, m_li72, m_li73, m_li74, m_li75, m_li76, m_li77, m_li78, m_li79, m_li80, m_li81, m_li82, m_li83, m_li84, m_li85, m_li86, m_li87, m_li88, m_li89, m_si71, m_si72, m_si73, m_si74, m_si75, m_si76, m_si77, m_si78, m_si79, m_si80, m_si81, m_si82, m_si83, m_si84, m_si85, m_si86, m_si87, m_si88, m_si89, let_v, nI_add, nI_1, i_si, i_w, Nat.reduceEqDiff, false_and, if_false]
    · dsimp only
      rw [i_si, if_neg (by omega), i_si, if_neg (by omega), i_si, if_neg (by omega), i_si, if_neg (by omega)]
      exact i1 x y hxy
    · dsimp only
      by_cases hij : i = j
      · subst hij
        refine ⟨?_, ?_, ?_, ?_⟩
        · rw [i_si, if_neg (by omega), i_si, if_neg (by omega), i_si, if_neg (by omega), i_si, if_pos ⟨rfl, rfl⟩, i1 _ _ (by omega)]
        · rw [i_si, if_neg (by omega), i_si, if_neg (by omega), i_si, if_pos ⟨rfl, rfl⟩, i1 _ _ (by omega)]
        · rw [i_si, if_neg (by omega), i_si, if_pos ⟨rfl, rfl⟩, i1 _ _ (by omega)]
        · rw [i_si, if_pos ⟨rfl, rfl⟩, i1 _ _ (by omega)]
      · have q := i2 i (by omega)
        refine ⟨?_, ?_, ?_, ?_⟩
        · rw [i_si, if_neg (by omega), i_si, if_neg (by omega), i_si, if_neg (by omega), i_si, if_neg (by omega)]; exact q.1
        · rw [i_si, if_neg (by omega), i_si, if_neg (by omega), i_si, if_neg (by omega), i_si, if_neg (by omega)]; exact q.2.1
        · rw [i_si, if_neg (by omega), i_si, if_neg (by omega), i_si, if_neg (by omega), i_si, if_neg (by omega)]; exact q.2.2.1
        · rw [i_si, if_neg (by omega), i_si, if_neg (by omega), i_si, if_neg (by omega), i_si, if_neg (by omega)]; exact q.2.2.2
  · rintro s ⟨g, rfl, i1, i2⟩
    refine ⟨(me_w M g, nI 6), ?_, g, rfl, i1, i2⟩
    show s_X12_keep_10 70 (me_w M g) (nI 6) = _
    unfold s_X12_keep_10
    rw [c_6, if_pos (nI_le (Nat.le_refl _) (by omega))]
theorem e_keep_80 {M : Me} (hL : Lay M) : ∃ g, lp (fun s : Me × Int32 => s_X12_keep_80 70 s.1 s.2) (M, 0) = some (me_w M g, nI 48) ∧ (∀ x y, x ≠ 79 → g x y = me_i M x y) ∧ (∀ i, i < 48 → g 79 i = me_i M 85 i) := by
  have hlp := lp_cnt (step := fun s : Me × Int32 => s_X12_keep_80 70 s.1 s.2) 48
    (fun j s => ∃ g, s = (me_w M g, nI j) ∧ (∀ x y, x ≠ 79 → g x y = me_i M x y) ∧ (∀ i, i < j → g 79 i = me_i M 85 i))
    (fun s => ∃ g, s = (me_w M g, nI 48) ∧ (∀ x y, x ≠ 79 → g x y = me_i M x y) ∧ (∀ i, i < 48 → g 79 i = me_i M 85 i))
    ?_ ?_ (M, 0) ⟨fun x y => me_i M x y, by rw [nI_0]; rfl, fun _ _ _ => rfl, fun i hi => absurd hi (by omega)⟩
  · obtain ⟨x, hx, g, rfl, h1⟩ := hlp
    exact ⟨g, hx, h1⟩
  · rintro j s hj ⟨g, rfl, i1, i2⟩
    have n1 : ¬ nI 48 ≤ nI j := nI_ge hj (by omega)
    refine ⟨(me_si (me_w M g) 79 j (g 85 j), nI (j + 1)), ?_, fun x y => me_i (me_si (me_w M g) 79 j (g 85 j)) x y, rfl, fun x y hxy => ?_, fun i hi => ?_⟩
    · show s_X12_keep_80 70 (me_w M g) (nI j) = _
      unfold s_X12_keep_80
      rw [c_48, if_neg n1]
      simp (disch := first | (simp only [Lay_si, Lay_w, CL_si, CL_w, CP_si, CP_w]; assumption) | assumption | omega) only [m_ck, m_gi, m_pi, m_gr1, m_gr4, m_gr5, m_gr7, m_gr9, m_gr10, m_gr11, m_gr12, m_gr14, m_gr16, m_gr18, m_gr19, m_gr20, m_gr21, m_gr23, m_gr26, m_gr27, m_gr28, m_gr30, m_gr31, m_li71, m_li72, m_li73, m_li74, m_li75, m_li76, m_li77, m_li78, m_li79, m_li80, m_li81, m_li82, m_li83, m_li84, m_li85, m_li86, m_li87, m_li88, m_li89, m_si71, m_si72, m_si73, m_si74, m_si75, m_si76, m_si77, m_si78, m_si79, m_si80, m_si81, m_si82, m_si83, m_si84, m_si85, m_si86, m_si87, m_si88, m_si89, let_v, nI_add, nI_1, i_si, i_w, Nat.reduceEqDiff, false_and, if_false]
    · dsimp only
      rw [i_si, if_neg (by omega)]
      exact i1 x y hxy
    · dsimp only
      by_cases hij : i = j
      · subst hij
        rw [i_si, if_pos ⟨rfl, rfl⟩, i1 _ _ (by omega)]
      · rw [i_si, if_neg (by omega)]; exact i2 i (by omega)
  · rintro s ⟨g, rfl, i1, i2⟩
    refine ⟨(me_w M g, nI 48), ?_, g, rfl, i1, i2⟩
    show s_X12_keep_80 70 (me_w M g) (nI 48) = _
    unfold s_X12_keep_80
    rw [c_48, if_pos (nI_le (Nat.le_refl _) (by omega))]
theorem e_keep {M : Me} (hL : Lay M) : ∃ g, f_X12_keep 70 M = some (me_w M g) ∧ (∀ x y, ¬ (75 ≤ x ∧ x ≤ 79) → ¬ (x = 70 ∧ (y = 8 ∨ y = 13)) → g x y = me_i M x y) ∧ g 70 8 = me_i M 70 17 ∧ g 70 13 = me_i M 70 22 ∧ (∀ i, i < 6 → g 75 i = me_i M 81 i ∧ g 76 i = me_i M 82 i ∧ g 77 i = me_i M 83 i ∧ g 78 i = me_i M 84 i) ∧ ∀ i, i < 48 → g 79 i = me_i M 85 i := by
  obtain ⟨g1, h1, a1, a2⟩ := e_keep_10 (M := me_si M 70 8 (me_i M 70 17)) hL
  obtain ⟨g2, h2, b1, b2⟩ := e_keep_80 (M := me_si (me_w (me_si M 70 8 (me_i M 70 17)) g1) 70 13 (g1 70 22)) hL
  have s1 : ∀ x y, ¬ (75 ≤ x ∧ x ≤ 78) → g1 x y = if x = 70 ∧ y = 8 then me_i M 70 17 else me_i M x y := fun x y q => by rw [a1 x y q, i_si]
  have s2 : ∀ x y, x ≠ 79 → g2 x y = if x = 70 ∧ y = 13 then g1 70 22 else g1 x y := fun x y q => by rw [b1 x y q, i_si, i_w]
  refine ⟨g2, ?_, fun x y q1 q2 => ?_, ?_, ?_, fun i hi => ?_, fun i hi => ?_⟩
  · unfold f_X12_keep b_X12_keep
    rw [m_ck hL, m_gi hL, m_pi hL, h1]
    simp only [Option.bind_some]
    rw [m_gi (by exact hL), m_pi (by exact hL), i_w, h2]
    rfl
  · rw [s2 x y (by omega), if_neg (by omega), s1 x y (by omega), if_neg (by omega)]
  · rw [s2 _ _ (by omega), if_neg (by omega), s1 _ _ (by omega), if_pos (by omega)]
  · rw [s2 _ _ (by omega), if_pos (by omega), s1 _ _ (by omega), if_neg (by omega)]
  · obtain ⟨q1, q2, q3, q4⟩ := a2 i hi
    have e : ∀ a, a ≠ 70 → me_i (me_si M 70 8 (me_i M 70 17)) a i = me_i M a i := fun a ha => by rw [i_si, if_neg (by omega)]
    refine ⟨?_, ?_, ?_, ?_⟩
    · rw [s2 _ _ (by omega), if_neg (by omega), q1, e _ (by omega)]
    · rw [s2 _ _ (by omega), if_neg (by omega), q2, e _ (by omega)]
    · rw [s2 _ _ (by omega), if_neg (by omega), q3, e _ (by omega)]
    · rw [s2 _ _ (by omega), if_neg (by omega), q4, e _ (by omega)]
  · rw [b2 i hi, i_si, if_neg (by omega), i_w, s1 _ _ (by omega), if_neg (by omega)]

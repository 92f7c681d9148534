section CS
variable {X : Cx} {M N : Me} {c D n : Nat} {π : Nat → Nat} {rs : Nat → Rw} {w : Wd} {kf : Nat → Nat → Nat} {ho : Nat → Int32}
theorem CB.cnt (h : CB X M c w) : me_i M (c + 4) 0 = nI w.1.length ∧ w.1.length ≤ 12 := by
  obtain ⟨π, n, rs, ⟨hCL, hCP, hF, hK, hD, hw⟩, hg⟩ := h
  have : w.1.length = n := by rw [hw, lv_all hg]; simp
  rw [this]
  exact ⟨hD.2.1, hD.1⟩
theorem CB.add {k q m d : Nat} (h : CB X M c w) (hl : w.1.length < 12) (hk : k < 6) (hq : q < 6) (hm : m ≤ 20) (hd : d < 2 ^ 30) : ∃ N, f_X2_add (c + 4) (nI k) (nI q) (nI m) (nI d) M = some N ∧ Fc M N c ∧ CB X N c (w.1 ++ [(k, q, m, d)], w.2) := by
  obtain ⟨π, n, rs, ⟨hCL, hCP, hF, hK, hD, hw⟩, hg⟩ := id h
  have hn : w.1.length = n := by rw [hw, lv_all hg]; simp
  obtain ⟨h12, hcn, hr⟩ := hD
  have hp := (hCP.1 n (by omega)).1
  generalize hgd : (fun x y => if x = c + 6 + π n ∧ y < 5 then (if y = 0 then nI k else if y = 1 then nI q else if y = 2 then nI m else if y = 3 then nI d else 0) else me_i M x y : Nat → Nat → Int32) = g
  have hset : f_X1_set (c + 6 + π n) (nI k) (nI q) (nI m) (nI d) M = some (me_w M g) := by rw [e_dset (hCL.2.2.2.2.1 _ hp), hgd]
  have gi : ∀ x y, x ≠ c + 6 + π n → g x y = me_i M x y := fun x y hx => by rw [← hgd]; dsimp only; rw [if_neg (by omega)]
  have hC1 : CL (me_w M g) c := hCL
  have hne : ∀ i, i < n → π i ≠ π n := fun i hi z => by have := hCP.2 i n (by omega) (by omega) z; omega
  have hI : ∀ x y, x ≠ c + 6 + π n → ¬ (x = c + 4 ∧ y = 0) → me_i (me_si (me_w M g) (c + 4) 0 (nI (n + 1))) x y = me_i M x y := fun x y h1 h2 => by rw [i_si, if_neg h2, i_w, gi x y h1]
  refine ⟨me_si (me_w M g) (c + 4) 0 (nI (n + 1)), ?_, ⟨rfl, fun _ _ _ => rfl, fun a j haj => hI a j (by omega) (by omega)⟩, π, n + 1, fun o => if o = π n then (k, q, m, d) else rs o, ⟨hCL, hCP, hF.same (fun a j haj => hI a j (by omega) (by omega)), hK.same (fun a j _ _ => hI a j (by omega) (by omega)), ⟨by omega, by rw [i_si, if_pos ⟨rfl, rfl⟩], fun i hi => ?_⟩, ?_⟩, fun i hi => ?_⟩
  · unfold f_X2_add b_X2_add
    rw [q_ck2 hCL, q_gi2 hCL, hcn, c_12, if_neg (nI_ge (by omega) (by omega)), q_d1 hCL, q_gi2 hCL, hcn, q_row hCL hCP (by omega), cM_e hset, q_gi2 hC1, i_w, gi _ _ (by omega), hcn, nI_1, q_pi2 hC1]
    rfl
  · dsimp only
    by_cases hin : i = n
    · subst hin
      rw [if_pos rfl]
      refine ⟨?_, ?_, ?_, ?_, hk, hq, by show m < 1000; omega, hd⟩
      · rw [i_si, if_neg (by omega), i_w, ← hgd]; dsimp only; rw [if_pos ⟨rfl, by omega⟩]; rfl
      · rw [i_si, if_neg (by omega), i_w, ← hgd]; dsimp only; rw [if_pos ⟨rfl, by omega⟩]; rfl
      · rw [i_si, if_neg (by omega), i_w, ← hgd]; dsimp only; rw [if_pos ⟨rfl, by omega⟩]; rfl
      · rw [i_si, if_neg (by omega), i_w, ← hgd]; dsimp only; rw [if_pos ⟨rfl, by omega⟩]; rfl
    · have h1 := hne i (by omega)
      rw [if_neg h1, hI _ _ (by omega) (by omega), hI _ _ (by omega) (by omega), hI _ _ (by omega) (by omega), hI _ _ (by omega) (by omega)]
      exact hr i (by omega)
  · rw [lv_all (fun i hi => ?_), List.range_succ, List.map_append, List.map_append]
    · show w.1 ++ _ = _
      congr 1
      · rw [hw, lv_all hg, List.map_map, List.map_map]
        apply range_map_congr
        intro i hi
        show rs (π i) = if π i = π n then _ else rs (π i)
        rw [if_neg (hne i hi)]
      · simp
    · by_cases hin : i = n
      · subst hin
        rw [i_si, if_neg (by omega), i_w, ← hgd]; dsimp only; rw [if_pos ⟨rfl, by omega⟩]; rfl
      · have h1 := hne i (by omega)
        rw [hI _ _ (by omega) (by omega)]
        exact hg i (by omega)
  · by_cases hin : i = n
    · subst hin
      rw [i_si, if_neg (by omega), i_w, ← hgd]; dsimp only; rw [if_pos ⟨rfl, by omega⟩]; rfl
    · have h1 := hne i (by omega)
      rw [hI _ _ (by omega) (by omega)]
      exact hg i (by omega)
theorem CB.CL (h : CB X M c w) : CL M c := h.choose_spec.choose_spec.choose_spec.1.1
theorem CB.K (h : CB X M c w) : CK X M c w.2.2.1 w.2.2.2 := h.choose_spec.choose_spec.choose_spec.1.2.2.2.1
theorem CB.F (h : CB X M c w) : CF X M c w.2.1 := h.choose_spec.choose_spec.choose_spec.1.2.2.1
theorem e_tryStrike {k q m : Nat} (hX : XV X) (hW : WV X w) (h : CB X M c w) (hk : k < 6) (hq : q < 6) (hm : m ≤ 20) : ∃ N, f_X0_tryStrike c (nI k) (nI q) (nI m) M = some (nI (a_why X k q m w), N) ∧ Fc M N c ∧ CB X N c (if a_why X k q m w = 0 then a_hit X k q m w else w) := by
  have hCL := h.CL
  have hK := h.K
  obtain ⟨W1, W2, W3, W4, W5⟩ := hW
  have ak := CK.alive hCL hK hk (fun z => (W3 k hk z).1)
  have aq := CK.alive hCL hK hq (fun z => (W3 q hq z).1)
  unfold f_X0_tryStrike b_X0_tryStrike a_why
  rw [q_ck hCL, q_knt hCL hk, q_knt hCL hq]
  by_cases h1n : ¬ (a_al X w k)
  · refine ⟨M, ?_, Fc.refl, by rw [if_pos h1n, if_neg (by decide)]; exact h⟩
    rw [if_neg h1n] at ak
    rw [cP_e ak, if_pos rfl, if_pos h1n]; rfl
  have h1 := Classical.not_not.mp h1n
  rw [if_pos h1] at ak
  rw [cP_e ak, if_neg (show ¬ (1 : Int32) = 0 by decide), if_neg (Classical.not_not.mpr h1)]
  by_cases h2n : ¬ (a_al X w q)
  · refine ⟨M, ?_, Fc.refl, by rw [if_pos h2n, if_neg (by decide)]; exact h⟩
    rw [if_neg h2n] at aq
    rw [cP_e aq, if_pos rfl, if_pos h2n]; rfl
  have h2 := Classical.not_not.mp h2n
  rw [if_pos h2] at aq
  rw [cP_e aq, if_neg (show ¬ (1 : Int32) = 0 by decide), if_neg (Classical.not_not.mpr h2)]
  obtain ⟨k1, k2, k3, k4, k5, k6⟩ := (hK k hk).2 h1.1
  obtain ⟨q1, q2, q3, q4, q5, q6⟩ := (hK q hq).2 h2.1
  have wk := W3 k hk h1.1
  have wq := W3 q hq h2.1
  have xk := hX.2.2.2.1 k hk h1.1
  have xc := hX.2.2.1
  by_cases h3 : k = q
  · refine ⟨M, ?_, Fc.refl, by rw [if_pos h3, if_neg (by decide)]; exact h⟩
    rw [if_pos h3, h3, if_pos rfl]; rfl
  rw [if_neg h3, if_neg (nI_ne (by omega) (by omega) h3), q_gi4 hCL hk, k6]
  by_cases h4 : 0 < w.2.2.1 k 6
  · refine ⟨M, ?_, Fc.refl, by rw [if_pos h4, if_neg (by decide)]; exact h⟩
    rw [if_pos h4, c_0, if_pos (nI_lt h4 (by omega))]; rfl
  rw [if_neg h4, c_0, if_neg (nI_nlt (by omega) (by omega)), q_gi4 hCL hq, q6]
  by_cases h5 : 0 < w.2.2.1 q 6
  · refine ⟨M, ?_, Fc.refl, by rw [if_pos h5, if_neg (by decide)]; exact h⟩
    rw [if_pos h5, if_neg (nI_ge h5 (by omega))]; rfl
  rw [if_neg h5, if_pos (nI_le (by omega) (by omega)), q_gi4 hCL hk, q_gi4 hCL hq, k5, q5]
  by_cases h6n : ¬ (w.2.2.1 k 5 = w.2.2.1 q 5)
  · refine ⟨M, ?_, Fc.refl, by rw [if_pos h6n, if_neg (by decide)]; exact h⟩
    rw [if_pos h6n, if_neg (nI_ne (by omega) (by omega) h6n)]; rfl
  have h6 := Classical.not_not.mp h6n
  rw [if_neg (Classical.not_not.mpr h6), h6, if_pos rfl, q_gi4 hCL hk, k2]
  by_cases h7 : X.2.2.2.1 k < m
  · refine ⟨M, ?_, Fc.refl, by rw [if_pos h7, if_neg (by decide)]; exact h⟩
    rw [if_pos h7, if_neg (nI_ge h7 (by omega))]; rfl
  rw [if_neg h7, if_pos (nI_le (by omega) (by omega)), q_c2 hCL, q_gi2 hCL, h.cnt.1, c_12]
  by_cases h8 : w.1.length = 12
  · refine ⟨M, ?_, Fc.refl, by rw [if_pos h8, if_neg (by decide)]; exact h⟩
    rw [if_pos h8, h8, if_neg (nI_nlt (Nat.le_refl _) (by omega))]; rfl
  rw [if_neg h8, if_pos (nI_lt (by omega) (by omega)), if_pos rfl]
  obtain ⟨π, n, rs, hV, hg⟩ := id h
  obtain ⟨g, e1, e2, e3⟩ := e_wound (k := q) (m := m) hV hq h2.1 wq.1 hm
  obtain ⟨N, e4, e5, e6, e7, e8⟩ := e3.sweep
  have F1 : Fc M (me_w M g) c := Fc.w (fun a j z => e2 a j (by omega))
  have F2 := F1.trans e5
  have hC1 : CL (me_w M g) c := hCL
  have hCN := e8.CL
  have wl : (a_wound q m w).1.length ≤ w.1.length := by
    unfold a_wound a_kill
    dsimp only
    split
    · exact List.length_filter_le _ _
    · exact Nat.le_refl _
  have upq : (a_wound q m w).2.2.1 q 3 = w.2.2.1 q 3 - m := if_pos ⟨rfl, rfl⟩
  have a2 := CK.alive hCN e8.K hq (fun _ => by rw [upq]; omega)
  rw [upq] at a2
  rw [cM_e e1, q_c2 hC1, cM_e e4]
  unfold a_hit
  by_cases h9 : w.2.2.1 q 3 ≤ m
  · refine ⟨N, ?_, F2, by rw [if_pos h9]; exact e8⟩
    rw [if_neg (by omega)] at a2
    rw [cP_e a2, if_pos (show (0 : Int32) = nI 0 by rw [nI_0])]; rfl
  · have hnk : (a_wound q m w).1 = w.1 := if_neg h9
    have hF := e8.F
    obtain ⟨N2, e9, e10, e11⟩ := CB.add (k := k) (q := q) (m := m) (d := w.2.1 + X.2.1 + 1) e8 (by omega) hk hq hm (by have := hX.2.1; omega)
    refine ⟨N2, ?_, F2.trans e10, by rw [if_neg h9, ← hnk]; exact e11⟩
    rw [if_pos ⟨h2.1, by omega⟩] at a2
    rw [cP_e a2, if_neg (show ¬ (1 : Int32) = nI 0 by rw [nI_0]; decide), q_c2 hCN, q_gi hCN, hF.1, q_c0 hCN, q_gi5 hCN, hF.2.2.1, nI_add, nI_1, show (a_wound q m w).2.1 = w.2.1 from rfl, cM_e e9]
    rfl
end CS

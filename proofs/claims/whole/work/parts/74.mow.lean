/-! why not, of the reference -/
section MB
variable {X : Cx} {M : Me} {g : St} {w : Wd}
theorem any_s {l : List Rw} {p : Rw → Bool} {i : Nat} {r : Rw} (h : l[i]? = some r) : (l.take (i + 1)).any p = ((l.take i).any p || p r) := by
  rw [(tk_s l i r h).1, List.any_append]
  simp
theorem e_isOwed {k : Nat} {x2 : Int32} {p : Rw → Bool} (hL : Lay M) (hR : RD g w.1) (hk : k < 6) (hB : ∀ r, r ∈ w.1 → RB r) (hp : (x2 < 0 ∧ p = fun r => decide (r.2.1 = k)) ∨ ∃ D, x2 = nI D ∧ D < 2 ^ 30 ∧ p = a_due k D) : f_X12_isOwed 70 (nI k) x2 (me_w M g) = some (if w.1.any p = true then 1 else 0) := by
  have hL2 : Lay (me_w M g) := hL
  have h12 := hR.1
  unfold f_X12_isOwed b_X12_isOwed
  rw [m_ck hL2]
  have hlp := lp_up (step := fun s : Int32 × Int32 => s_X12_isOwed_5 70 (nI k) x2 (me_w M g) s.1 s.2)
    (fun i => ((if (w.1.take i).any p = true then (1 : Int32) else 0), nI i)) w.1.length ((if w.1.any p = true then (1 : Int32) else 0), nI w.1.length) ?_ ?_ 0 (by omega)
  · rw [show ((0 : Int32), (0 : Int32)) = ((if (w.1.take 0).any p = true then (1 : Int32) else 0), nI 0) by rw [nI_0]; simp, hlp]
    simp only [Option.bind_some]
    split
    · rfl
    · rfl
  · intro i hi
    have hr : w.1[i]? = some w.1[i] := List.getElem?_eq_getElem hi
    generalize w.1[i] = r at hr
    obtain ⟨b0, b1, b2, b3⟩ := hB r (List.mem_of_getElem? hr)
    obtain ⟨r0, r1, r2, r3⟩ := hR.2.2 i r hr
    show s_X12_isOwed_5 70 (nI k) x2 (me_w M g) _ (nI i) = _
    unfold s_X12_isOwed_5
    simp only [let_v]
    rw [m_gi hL2, i_w, hR.2.1, if_neg (nI_ge hi (by omega)), any_s hr, nI_1]
    by_cases ha : (w.1.take i).any p = true
    · rw [if_pos ha, if_neg (show ¬ (1 : Int32) = 0 by decide), ha]
      rfl
    · rw [if_neg ha, if_pos rfl, m_gr23 hL2, c_4, pk_mul, c_1, nI_add, m_li85 hL2 (by omega), i_w, r1]
      have ha2 : (w.1.take i).any p = false := by simpa using ha
      rw [ha2, Bool.false_or]
      by_cases q1 : r.2.1 = k
      · rw [q1, if_pos rfl]
        rcases hp with ⟨hneg, rfl⟩ | ⟨D, rfl, hD, rfl⟩
        · rw [if_pos hneg]
          simp only [q1, Option.bind_some]
          rfl
        · rw [if_neg (nI_pos (by omega)), m_gr23 hL2, c_3, nI_add, m_li85 hL2 (by omega), i_w, r3]
          unfold a_due
          by_cases q2 : r.2.2.2 = D
          · rw [q2, if_pos rfl]
            simp only [q1, Option.bind_some]
            rfl
          · rw [if_neg (nI_ne (by omega) (by omega) q2)]
            simp only [q1, q2, Option.bind_some]
            rfl
      · rw [if_neg (nI_ne (by omega) (by omega) q1)]
        have hpf : p r = false := by
          rcases hp with ⟨hneg, rfl⟩ | ⟨D, rfl, hD, rfl⟩
          · simp [q1]
          · unfold a_due; simp [q1]
        simp only [hpf, Option.bind_some]
        rfl
  · show s_X12_isOwed_5 70 (nI k) x2 (me_w M g) _ (nI w.1.length) = _
    unfold s_X12_isOwed_5
    rw [m_gi hL2, i_w, hR.2.1, if_pos (nI_le (Nat.le_refl _) (by omega)), List.take_length]
theorem e_owesHere {k i : Nat} {r : Rw} (hX0 : XV X) (hW : WV X w) (hL : Lay M) (hRX : RX X g) (hD : g 70 17 = nI w.2.1) (hat : g 81 k = nI (w.2.2.1 k 5)) (hk : k < 6) (hp5 : w.2.2.1 k 5 < X.2.2.1) (hi : i < 12) (hr : r ∈ w.1) (r0 : g 85 (4 * i) = nI r.1) (r1 : g 85 (4 * i + 1) = nI r.2.1) (r3 : g 85 (4 * i + 3) = nI r.2.2.2) : f_X12_owesHere 70 (nI k) (nI i) (me_w M g) = some (if a_here X k w r = true then 1 else 0) := by
  have hL2 : Lay (me_w M g) := hL
  obtain ⟨b0, b1, b2, b3⟩ := hW.rb hX0 r hr
  obtain ⟨v1, v2, v3, v4, v5, v6, v7, v8, v9⟩ := hW.2.2.2.1 r hr
  have xs := hX0.2.2.2.1 _ v2 v5
  have xc := hX0.2.2.1
  have hDD := hW.2.1
  have ow := (hRX.2.2.2 _ v2 v5).2
  unfold f_X12_owesHere b_X12_owesHere a_here
  simp only [decide_eq_true_eq]
  rw [m_ck hL2, m_gr23 hL2, c_4, pk_mul, m_li85 hL2 (by omega), i_w, r0]
  by_cases q1 : r.1 = k
  · rw [q1, if_pos rfl, m_gr23 hL2, c_3, nI_add, m_li85 hL2 (by omega), i_w, r3, m_gi hL2, i_w, hD]
    by_cases q2 : r.2.2.2 = w.2.1
    · rw [q2, if_pos rfl, m_gr5 hL2, m_gr23 hL2, c_1, nI_add, m_li85 hL2 (by omega), i_w, r1, m_li73 hL2 v2, i_w, ow, m_gr18 hL2, m_li81 hL2 hk, i_w, hat]
      by_cases q3 : X.2.2.2.2.1 r.2.1 = w.2.2.1 k 5
      · rw [q3, if_pos rfl, if_pos ⟨rfl, rfl, rfl⟩]; rfl
      · rw [if_neg (nI_ne (by omega) (by omega) q3), if_neg (fun z => q3 z.2.2)]; rfl
    · rw [if_neg (nI_ne (by omega) (by omega) q2), if_neg (fun z => q2 z.2.1)]; rfl
  · rw [if_neg (nI_ne (by omega) (by omega) q1), if_neg (fun z => q1 z.1)]; rfl
theorem e_mwhyG {k ch : Nat} (hX0 : XV X) (hW : WV X w) (hL : Lay M) (h : RG X g w) (hk : k < 6) (hch : ch < 5) : f_X12_whyNot 70 (nI k) (nI (48 + ch)) (me_w M g) = some (nI (a_whyS X k ch w)) := by
  have hL2 : Lay (me_w M g) := hL
  have ak := e_malive hX0 hL h hk (fun z => (hW.2.2.1 k hk z).1)
  unfold f_X12_whyNot b_X12_whyNot a_whyS a_act
  rw [m_ck hL2, cP_e ak]
  by_cases h1n : ¬ (a_al X w k)
  · rw [if_neg h1n, if_pos rfl, if_pos h1n, c_1]; rfl
  have h1 := Classical.not_not.mp h1n
  obtain ⟨k1, k2, k3, k4⟩ := h.2.2.1 k hk h1.1
  have wk := hW.2.2.1 k hk h1.1
  have xc := hX0.2.2.1
  rw [if_pos h1, if_neg (show ¬ (1 : Int32) = 0 by decide), if_neg h1n, m_gr19 hL2, m_li82 hL2 hk, i_w, k2]
  by_cases h2 : 0 < w.2.2.1 k 6
  · rw [c_0, if_neg (nI_ge h2 (by omega)), if_pos h2, c_2]; rfl
  rw [c_0, if_pos (nI_le (by omega) (by omega)), if_neg h2, cP_e (e_in _ _ _ _), c_48, show (52 : Int32) = nI 52 by decide +kernel, in_one (by omega) (by omega) (by omega), if_neg (show ¬ (1 : Int32) = nI 0 by decide +kernel), m_gr1 hL2, m_gr18 hL2, m_li81 hL2 hk, i_w, k1, c_5, pk_mul, nI_add, pk_sub (by omega), show 5 * w.2.2.1 k 5 + (48 + ch) - 48 = 5 * w.2.2.1 k 5 + ch by omega, m_li71 hL2 (by omega), i_w, h.1.2.2.1 _ (by omega)]
  have hrd : X.2.2.2.2.2 (5 * w.2.2.1 k 5 + ch) ≤ 99 := hX0.2.2.2.2 _ (by omega)
  rw [if_neg (show ¬ (0 ≠ 0) by omega)]
  by_cases h5 : X.2.2.2.2.2 (5 * w.2.2.1 k 5 + ch) = 0
  · rw [h5, if_pos rfl, if_pos rfl]; rfl
  · rw [if_neg (nI_ne (by omega) (by omega) h5), if_neg h5]; rfl
theorem any_find {l : List Rw} {p : Rw → Bool} : l.any p = true ↔ ¬ l.find? p = none := by
  rw [List.find?_eq_none, List.any_eq_true]
  constructor
  · rintro ⟨x, h1, h2⟩ h3
    exact h3 x h1 h2
  · intro h
    apply Classical.byContradiction
    intro h2
    exact h (fun x hx hp => h2 ⟨x, hx, hp⟩)
theorem e_mwhyB {k : Nat} (hX0 : XV X) (hW : WV X w) (hL : Lay M) (h : RG X g w) (hk : k < 6) : f_X12_whyNot 70 (nI k) 61 (me_w M g) = some (nI (a_whyB X k w)) := by
  have hL2 : Lay (me_w M g) := hL
  have ak := e_malive hX0 hL h hk (fun z => (hW.2.2.1 k hk z).1)
  unfold f_X12_whyNot b_X12_whyNot a_whyB a_act
  rw [m_ck hL2, cP_e ak]
  by_cases h1n : ¬ (a_al X w k)
  · rw [if_neg h1n, if_pos rfl, if_pos h1n, c_1]; rfl
  have h1 := Classical.not_not.mp h1n
  obtain ⟨k1, k2, k3, k4⟩ := h.2.2.1 k hk h1.1
  have wk := hW.2.2.1 k hk h1.1
  have xc := hX0.2.2.1
  have xk := hX0.2.2.2.1 k hk h1.1
  have ow := (h.1.2.2.2 k hk h1.1).2
  have hDD := hW.2.1
  rw [if_pos h1, if_neg (show ¬ (1 : Int32) = 0 by decide), if_neg h1n, m_gr19 hL2, m_li82 hL2 hk, i_w, k2]
  by_cases h2 : 0 < w.2.2.1 k 6
  · rw [c_0, if_neg (nI_ge h2 (by omega)), if_pos h2, c_2]; rfl
  rw [c_0, if_pos (nI_le (by omega) (by omega)), if_neg h2, cP_e (e_in _ _ _ _), show in_v 61 48 52 = nI 0 by decide +kernel, if_pos rfl, if_pos rfl, m_gr18 hL2, m_li81 hL2 hk, i_w, k1, m_gr5 hL2, m_li73 hL2 hk, i_w, ow, if_neg (show ¬ (0 ≠ 0) by omega)]
  by_cases h3 : w.2.2.1 k 5 = X.2.2.2.2.1 k
  · rw [if_neg (Classical.not_not.mpr h3), h3, if_pos rfl, m_gi hL2, i_w, h.2.1, cP_e (e_isOwed (x2 := nI w.2.1) hL h.2.2.2 hk (hW.rb hX0) (Or.inr ⟨w.2.1, rfl, by omega, rfl⟩))]
    by_cases h4 : w.1.find? (a_due k w.2.1) = none
    · rw [if_pos h4, if_neg (fun z => any_find.mp z h4)]; rfl
    · rw [if_neg h4, if_pos (any_find.mpr h4)]; rfl
  · rw [if_pos h3, if_neg (nI_ne (by omega) (by omega) h3)]; rfl
theorem e_mwhyR {k : Nat} (hX0 : XV X) (hW : WV X w) (hL : Lay M) (h : RG X g w) (hk : k < 6) : f_X12_whyNot 70 (nI k) 47 (me_w M g) = some (nI (a_whyR X k w)) := by
  have hL2 : Lay (me_w M g) := hL
  have ak := e_malive hX0 hL h hk (fun z => (hW.2.2.1 k hk z).1)
  unfold f_X12_whyNot b_X12_whyNot a_whyR a_act
  rw [m_ck hL2, cP_e ak]
  by_cases h1n : ¬ (a_al X w k)
  · rw [if_neg h1n, if_pos rfl, if_pos h1n, c_1]; rfl
  have h1 := Classical.not_not.mp h1n
  obtain ⟨k1, k2, k3, k4⟩ := h.2.2.1 k hk h1.1
  have wk := hW.2.2.1 k hk h1.1
  rw [if_pos h1, if_neg (show ¬ (1 : Int32) = 0 by decide), if_neg h1n, m_gr19 hL2, m_li82 hL2 hk, i_w, k2]
  by_cases h2 : 0 < w.2.2.1 k 6
  · rw [c_0, if_neg (nI_ge h2 (by omega)), if_pos h2, c_2]; rfl
  rw [c_0, if_pos (nI_le (by omega) (by omega)), if_neg h2, cP_e (e_in _ _ _ _), show in_v 47 48 52 = nI 0 by decide +kernel, if_pos rfl, if_neg (show ¬ (47 : Int32) = 61 by decide), if_pos rfl, if_neg (show ¬ (0 ≠ 0) by omega), cP_e (e_isOwed (x2 := -1) hL h.2.2.2 hk (hW.rb hX0) (Or.inl ⟨by decide, rfl⟩))]
  have e : (w.1.filter (a_stay k)).length = w.1.length ↔ ¬ w.1.any (fun r => decide (r.2.1 = k)) = true := by
    rw [List.length_filter_eq_length_iff, List.any_eq_true]
    constructor
    · rintro h3 ⟨r, h4, h5⟩
      have := h3 r h4
      unfold a_stay at this
      simp at this h5
      exact this h5
    · intro h3 r h4
      unfold a_stay
      simp
      intro h5
      exact h3 ⟨r, h4, by simp [h5]⟩
  by_cases h3 : w.1.any (fun r => decide (r.2.1 = k)) = true
  · rw [if_pos h3, if_neg (fun z => e.mp z h3)]; rfl
  · rw [if_neg h3, if_pos (e.mpr h3)]; rfl
theorem e_mwhyF {k : Nat} (hX0 : XV X) (hW : WV X w) (hL : Lay M) (h : RG X g w) (hk : k < 6) : f_X12_whyNot 70 (nI k) 33 (me_w M g) = some (nI (a_whyF X k w)) := by
  have hL2 : Lay (me_w M g) := hL
  have ak := e_malive hX0 hL h hk (fun z => (hW.2.2.1 k hk z).1)
  unfold f_X12_whyNot b_X12_whyNot a_whyF a_act
  rw [m_ck hL2, cP_e ak]
  by_cases h1n : ¬ (a_al X w k)
  · rw [if_neg h1n, if_pos rfl, if_pos h1n, c_1]; rfl
  have h1 := Classical.not_not.mp h1n
  obtain ⟨k1, k2, k3, k4⟩ := h.2.2.1 k hk h1.1
  have wk := hW.2.2.1 k hk h1.1
  have h12 := hW.1
  rw [if_pos h1, if_neg (show ¬ (1 : Int32) = 0 by decide), if_neg h1n, m_gr19 hL2, m_li82 hL2 hk, i_w, k2]
  by_cases h2 : 0 < w.2.2.1 k 6
  · rw [c_0, if_neg (nI_ge h2 (by omega)), if_pos h2, c_2]; rfl
  rw [c_0, if_pos (nI_le (by omega) (by omega)), if_neg h2, cP_e (e_in _ _ _ _), show in_v 33 48 52 = nI 0 by decide +kernel, if_pos rfl, if_neg (show ¬ (33 : Int32) = 61 by decide), if_neg (show ¬ (33 : Int32) = 47 by decide), if_neg (show ¬ (0 ≠ 0) by omega)]
  have hlp := lp_up (step := fun s : Int32 × Int32 => s_X12_whyNot_124 70 (nI k) (me_w M g) s.1 s.2)
    (fun i => ((if (w.1.take i).any (a_here X k w) = true then (1 : Int32) else 0), nI i)) w.1.length ((if w.1.any (a_here X k w) = true then (1 : Int32) else 0), nI w.1.length) ?_ ?_ 0 (by omega)
  · rw [show (nI 0, nI 0) = ((if (w.1.take 0).any (a_here X k w) = true then (1 : Int32) else 0), nI 0) by rw [nI_0]; simp, hlp]
    simp only [Option.bind_some]
    by_cases h3 : w.1.any (a_here X k w) = true
    · rw [if_pos h3, if_pos h3]; rfl
    · rw [if_neg h3, if_neg h3]; rfl
  · intro i hi
    have hr : w.1[i]? = some w.1[i] := List.getElem?_eq_getElem hi
    generalize w.1[i] = r at hr
    obtain ⟨r0, r1, r2, r3⟩ := h.2.2.2.2.2 i r hr
    have eo := e_owesHere hX0 hW hL h.1 h.2.1 k1 hk wk.2.1 (by omega) (List.mem_of_getElem? hr) r0 r1 r3
    show s_X12_whyNot_124 70 (nI k) (me_w M g) _ (nI i) = _
    unfold s_X12_whyNot_124
    simp only [let_v]
    rw [m_gi hL2, i_w, h.2.2.2.2.1, if_neg (nI_ge hi (by omega)), any_s hr, nI_1]
    by_cases ha : (w.1.take i).any (a_here X k w) = true
    · rw [if_pos ha, if_neg (show ¬ (1 : Int32) = 0 by decide), ha]
      rfl
    · have ha2 : (w.1.take i).any (a_here X k w) = false := by simpa using ha
      rw [if_neg ha, if_pos rfl, ha2, Bool.false_or, cP_e eo]
      by_cases q : a_here X k w r = true
      · rw [if_pos q, if_neg (show ¬ (1 : Int32) = 0 by decide)]; rfl
      · rw [if_neg q, if_pos rfl]; rfl
  · show s_X12_whyNot_124 70 (nI k) (me_w M g) _ (nI w.1.length) = _
    unfold s_X12_whyNot_124
    rw [m_gi hL2, i_w, h.2.2.2.2.1, if_pos (nI_le (Nat.le_refl _) (by omega)), List.take_length]
end MB

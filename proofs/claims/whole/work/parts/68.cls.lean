/-! the acts of a court -/
section CA
variable {X : Cx} {M N : Me} {c D n : Nat} {π : Nat → Nat} {rs : Nat → Rw} {w : Wd} {kf : Nat → Nat → Nat} {ho : Nat → Int32}
theorem e_endAll {k : Nat} (hk : k < 6) (hCL : CL M c) (hCP : CP M c π) (hD : CD M c π n rs) : ∃ g, f_X2_endAllOf (c + 4) (nI k) M = some (me_w M g) ∧ (∀ a j, ¬ (c + 6 ≤ a ∧ a < c + 18 ∧ j = 4) → g a j = me_i M a j) ∧ (lv (me_w M g) c π n).map rs = a_kill k ((lv M c π n).map rs) := by
  obtain ⟨h12, hn, hr⟩ := hD
  unfold f_X2_endAllOf b_X2_endAllOf
  rw [q_ck2 hCL]
  have hlp := lp_cnt (step := fun s : Me × Int32 => s_X2_endAllOf_2 (c + 4) (nI k) s.1 s.2) n
    (fun i s => ∃ g, s = (me_w M g, nI i) ∧ (∀ a j, ¬ (c + 6 ≤ a ∧ a < c + 18 ∧ j = 4) → g a j = me_i M a j) ∧ ∀ j, j < n → g (c + 6 + π j) 4 = if j < i ∧ ((rs (π j)).1 = k ∨ (rs (π j)).2.1 = k) then 1 else me_i M (c + 6 + π j) 4)
    (fun s => ∃ g, s = (me_w M g, nI n) ∧ (∀ a j, ¬ (c + 6 ≤ a ∧ a < c + 18 ∧ j = 4) → g a j = me_i M a j) ∧ ∀ j, j < n → g (c + 6 + π j) 4 = if (rs (π j)).1 = k ∨ (rs (π j)).2.1 = k then 1 else me_i M (c + 6 + π j) 4)
    ?_ ?_ (M, 0) ⟨fun a j => me_i M a j, by rw [nI_0]; rfl, fun _ _ _ => rfl, fun j _ => by rw [if_neg (by omega)]⟩
  · obtain ⟨x, hx, g, rfl, h1, h2⟩ := hlp
    refine ⟨g, by rw [hx]; rfl, h1, ?_⟩
    unfold a_kill
    apply lv_step
    intro i hi
    rw [i_w, h2 i hi]
    by_cases q : (rs (π i)).1 = k ∨ (rs (π i)).2.1 = k
    · rw [if_pos q]
      simp [q]
    · rw [if_neg q]
      simp [q]
  · rintro i s hi ⟨g, rfl, h1, h2⟩
    obtain ⟨r0, r1, r2, r3, b0, b1, b2, b3⟩ := hr i hi
    have hp := (hCP.1 i (by omega)).1
    have n1 : ¬ (12 : Int32) ≤ nI i := by rw [c_12]; exact nI_ge (by omega) (by omega)
    have n2 : ¬ nI n ≤ nI i := nI_ge hi (by omega)
    have e4 : g (c + 4) 0 = nI n := by rw [h1 _ _ (by omega)]; exact hn
    have e0 : g (c + 6 + π i) 0 = nI (rs (π i)).1 := by rw [h1 _ _ (by omega)]; exact r0
    have e1 : g (c + 6 + π i) 1 = nI (rs (π i)).2.1 := by rw [h1 _ _ (by omega)]; exact r1
    have hCL2 : CL (me_w M g) c := hCL
    have hCP2 : CP (me_w M g) c π := hCP
    by_cases q : (rs (π i)).1 = k ∨ (rs (π i)).2.1 = k
    · refine ⟨(me_si (me_w M g) (c + 6 + π i) 4 1, nI (i + 1)), ?_, fun a j => if a = c + 6 + π i ∧ j = 4 then 1 else g a j, rfl, fun a j haj => ?_, fun j hj => ?_⟩
      · show s_X2_endAllOf_2 (c + 4) (nI k) (me_w M g) (nI i) = _
        unfold s_X2_endAllOf_2
        simp only [let_v]
        rw [if_neg n1, q_gi2 hCL2, i_w, e4, if_neg n2, q_d1 hCL2, q_row hCL2 hCP2 (by omega), q_gi1 hCL2 hp, i_w, e0, nI_1]
        by_cases q1 : (rs (π i)).1 = k
        · rw [q1, if_pos rfl, q_d1 hCL2, q_row hCL2 hCP2 (by omega), q_pz1 hCL2 hp (Or.inr rfl)]; rfl
        · rw [if_neg (nI_ne (by omega) (by omega) q1), q_d1 hCL2, q_row hCL2 hCP2 (by omega), q_gi1 hCL2 hp, i_w, e1, show (rs (π i)).2.1 = k by omega, if_pos rfl, q_d1 hCL2, q_row hCL2 hCP2 (by omega), q_pz1 hCL2 hp (Or.inr rfl)]; rfl
      · dsimp only
        rw [if_neg (by omega)]
        exact h1 a j haj
      · dsimp only
        by_cases hij : j = i
        · subst hij
          rw [if_pos ⟨rfl, rfl⟩, if_pos ⟨by omega, q⟩]
        · have hne : π j ≠ π i := fun z => hij (hCP.2 j i (by omega) (by omega) z)
          rw [if_neg (by omega), h2 j hj]
          have e : (j < i + 1) = (j < i) := propext (by omega)
          simp only [e]
    · refine ⟨(me_w M g, nI (i + 1)), ?_, g, rfl, h1, fun j hj => ?_⟩
      · show s_X2_endAllOf_2 (c + 4) (nI k) (me_w M g) (nI i) = _
        unfold s_X2_endAllOf_2
        simp only [let_v]
        rw [if_neg n1, q_gi2 hCL2, i_w, e4, if_neg n2, q_d1 hCL2, q_row hCL2 hCP2 (by omega), q_gi1 hCL2 hp, i_w, e0, if_neg (nI_ne (by omega) (by omega) (by omega)), q_d1 hCL2, q_row hCL2 hCP2 (by omega), q_gi1 hCL2 hp, i_w, e1, if_neg (nI_ne (by omega) (by omega) (by omega)), nI_1]; rfl
      · rw [h2 j hj]
        by_cases hij : j = i
        · subst hij
          rw [if_neg (by omega), if_neg (fun z => q z.2)]
        · have e : (j < i + 1) = (j < i) := propext (by omega)
          simp only [e]
  · rintro s ⟨g, rfl, h1, h2⟩
    have e4 : g (c + 4) 0 = nI n := by rw [h1 _ _ (by omega)]; exact hn
    refine ⟨(me_w M g, nI n), ?_, g, rfl, h1, fun j hj => ?_⟩
    · show s_X2_endAllOf_2 (c + 4) (nI k) (me_w M g) (nI n) = _
      unfold s_X2_endAllOf_2
      rw [q_gi2 (show CL (me_w M g) c from hCL), i_w, e4, if_pos (nI_le (Nat.le_refl _) (by omega))]
      split <;> rfl
    · rw [h2 j hj]
      by_cases q : (rs (π j)).1 = k ∨ (rs (π j)).2.1 = k
      · rw [if_pos ⟨hj, q⟩, if_pos q]
      · rw [if_neg (fun z => q z.2), if_neg q]
/-- a blow falls -/
theorem e_wound {k m : Nat} (h : CV X M c π n rs w) (hk : k < 6) (ht : X.1.testBit k = true) (hb : w.2.2.1 k 3 ≤ 99) (hm : m ≤ 20) : ∃ g, f_X0_wound c (nI k) (nI m) M = some (me_w M g) ∧ (∀ a j, a < c + 6 ∨ (c + 18 ≤ a ∧ a < c + 22) ∨ c + 28 ≤ a → g a j = me_i M a j) ∧ CV X (me_w M g) c π n rs (a_wound k m w) := by
  obtain ⟨hCL, hCP, hF, hK, hD, hw⟩ := id h
  have hkn := (hK k hk).2 ht
  have hC1 : CL (me_si M (c + 22 + k) 3 (nI (w.2.2.1 k 3 - m))) c := hCL
  have hK1 := CK.si (k := k) (f := 3) (v := w.2.2.1 k 3 - m) hK (Or.inl rfl)
  have hV1 : CV X (me_si M (c + 22 + k) 3 (nI (w.2.2.1 k 3 - m))) c π n rs (w.1, w.2.1, up w.2.2.1 k 3 (w.2.2.1 k 3 - m), w.2.2.2) := h.kn rfl (fun _ _ => rfl) (fun a j q => by rw [i_si, if_neg (by omega)]) hK1
  have hup : up w.2.2.1 k 3 (w.2.2.1 k 3 - m) k 3 = w.2.2.1 k 3 - m := if_pos ⟨rfl, rfl⟩
  have hdead := CK.dead hC1 hK1 hk ht (by rw [hup]; omega)
  rw [hup] at hdead
  unfold f_X0_wound b_X0_wound a_wound
  rw [q_ck hCL, q_knt hCL hk, q_gi4 hCL hk, hkn.2.2.1, mx_0 (by omega) (by omega), q_pi4 hCL hk]
  by_cases h0 : w.2.2.1 k 3 ≤ m
  · obtain ⟨g, e1, e2, e3⟩ := e_endAll (k := k) hk hC1 hV1.2.1 hV1.2.2.2.2.1
    refine ⟨g, ?_, ?_, ?_⟩
    · rw [if_pos (show w.2.2.1 k 3 - m = 0 by omega)] at hdead
      rw [cP_e hdead, if_neg (by decide), q_c2 hC1, cM_e e1]; rfl
    · intro a j haj
      rw [e2 a j (by omega), i_si, if_neg (by omega)]
    · obtain ⟨u1, u2, u3, u4, u5, u6⟩ := hV1
      refine ⟨u1, u2, u3.same (fun a j q => e2 a j (by omega)), u4.same (fun a j _ _ => e2 a j (by omega)), u5.same u2 (e2 _ _ (by omega)) (fun a j _ _ _ => e2 a j (by omega)), ?_⟩
      show (if w.2.2.1 k 3 ≤ m then a_kill k w.1 else w.1) = _
      rw [if_pos h0, show w.1 = _ from u6, ← e3]
      rfl
  · refine ⟨fun a j => me_i (me_si M (c + 22 + k) 3 (nI (w.2.2.1 k 3 - m))) a j, ?_, ?_, ?_⟩
    · rw [if_neg (show ¬ w.2.2.1 k 3 - m = 0 by omega)] at hdead
      rw [cP_e hdead, if_pos rfl]; rfl
    · intro a j haj
      dsimp only
      rw [i_si, if_neg (by omega)]
    · rw [if_neg h0]
      exact hV1
/-- the rows that are marked go -/
theorem CV.sweep (h : CV X M c π n rs w) : ∃ N, f_X2_sweep (c + 4) M = some N ∧ Fc M N c ∧ (∀ a k, ¬ (a = c + 4 ∧ k = 0) → me_i N a k = me_i M a k) ∧ me_i N (c + 4) 0 = nI w.1.length ∧ CB X N c w := by
  obtain ⟨hCL, hCP, hF, hK, hD, hw⟩ := h
  obtain ⟨N, π2, e1, e2, e3, e4, e5, e6, e7⟩ := e_sweep hCL hCP hD.2.1 hD.1
  have hk : ∀ a, me_k N a = me_k M a := fun a => by unfold me_k; rw [e2]
  have hl : (((List.range n).map π).filter (fun o => decide (me_i M (c + 6 + o) 4 = 0))).length ≤ n := by
    refine Nat.le_trans (List.length_filter_le _ _) ?_
    simp
  have hlw : w.1.length = (((List.range n).map π).filter (fun o => decide (me_i M (c + 6 + o) 4 = 0))).length := by rw [hw, List.length_map]; rfl
  generalize hn2 : (((List.range n).map π).filter (fun o => decide (me_i M (c + 6 + o) 4 = 0))).length = n2 at e6 e7 hl hlw
  have hrow : ∀ i, i < n2 → ∃ j, j < n ∧ π2 i = π j ∧ me_i M (c + 6 + π j) 4 = 0 := by
    intro i hi
    have : π2 i ∈ (List.range n2).map π2 := List.mem_map.mpr ⟨i, List.mem_range.mpr hi, rfl⟩
    rw [e7, List.mem_filter] at this
    obtain ⟨j, h1, h2⟩ := List.mem_map.mp this.1
    refine ⟨j, List.mem_range.mp h1, h2.symm, ?_⟩
    rw [h2]
    exact of_decide_eq_true this.2
  refine ⟨N, e1, ⟨e2, e3, fun a k q => e4 a k (by omega)⟩, e4, by rw [hlw]; exact e6, π2, n2, rs, ⟨hCL.same (fun a _ _ => hk a) (fun a k _ _ q => e3 a k q), e5, hF.same (fun a k q => e4 a k (by omega)), hK.same (fun a k _ _ => e4 a k (by omega)), ⟨by have := hD.1; omega, e6, fun i hi => ?_⟩, ?_⟩, fun i hi => ?_⟩
  · obtain ⟨j, j1, j2, j3⟩ := hrow i hi
    have hp := (hCP.1 j (by have := hD.1; omega)).1
    rw [j2, e4 _ _ (by omega), e4 _ _ (by omega), e4 _ _ (by omega), e4 _ _ (by omega)]
    exact hD.2.2 j j1
  · have hall : lv N c π2 n2 = (List.range n2).map π2 := lv_all (fun i hi => by
      obtain ⟨j, j1, j2, j3⟩ := hrow i hi
      rw [j2, e4 _ _ (by omega)]; exact j3)
    rw [hall, e7, hw]; rfl
  · obtain ⟨j, j1, j2, j3⟩ := hrow i hi
    rw [j2, e4 _ _ (by omega)]; exact j3
end CA

/-! setting out, flinching, remitting, days: of the court -/
def a_whyS (X : Cx) (k ch : Nat) (w : Wd) : Nat := if a_act X k w ≠ 0 then a_act X k w else if X.2.2.2.2.2 (5 * w.2.2.1 k 5 + ch) = 0 then 5 else 0
def a_set (X : Cx) (k ch : Nat) (w : Wd) : Wd := (w.1, w.2.1, up (up w.2.2.1 k 5 ch) k 6 (if w.2.1 % X.2.1 < 90 then 2 * X.2.2.2.2.2 (5 * w.2.2.1 k 5 + ch) else X.2.2.2.2.2 (5 * w.2.2.1 k 5 + ch)), w.2.2.2)
def a_here (X : Cx) (k : Nat) (w : Wd) (r : Rw) : Bool := decide (r.1 = k ∧ r.2.2.2 = w.2.1 ∧ X.2.2.2.2.1 r.2.1 = w.2.2.1 k 5)
def a_hv (X : Cx) (k : Nat) (w : Wd) (r : Rw) : Rw := if a_here X k w r = true then (r.1, r.2.1, r.2.2.1 / 2, r.2.2.2) else r
def a_whyF (X : Cx) (k : Nat) (w : Wd) : Nat := if a_act X k w ≠ 0 then a_act X k w else if w.1.any (a_here X k w) = true then 0 else 6
def a_fl (X : Cx) (k : Nat) (w : Wd) : Wd := (w.1.map (a_hv X k w), w.2.1, w.2.2.1, ups w.2.2.2 k (w.2.2.2 k - 2))
def a_stay (k : Nat) (r : Rw) : Bool := decide (¬ r.2.1 = k)
def a_whyR (X : Cx) (k : Nat) (w : Wd) : Nat := if a_act X k w ≠ 0 then a_act X k w else if (w.1.filter (a_stay k)).length = w.1.length then 6 else 0
def a_rm (k : Nat) (w : Wd) : Wd := (w.1.filter (a_stay k), w.2.1, w.2.2.1, ups w.2.2.2 k (w.2.2.2 k + nI (w.1.length - (w.1.filter (a_stay k)).length)))
def a_end (D d : Nat) (r : Rw) : Bool := decide (D ≤ r.2.2.2 ∧ r.2.2.2 < D + d)
def a_cnt (D d x : Nat) (l : List Rw) : Nat := l.countP (fun r => a_end D d r && decide (r.2.1 = x))
def a_pass (d : Nat) (w : Wd) : Wd := (w.1.filter (fun r => ! a_end w.2.1 d r), w.2.1 + d, fun x f => if f = 6 then w.2.2.1 x 6 - d else w.2.2.1 x f, fun x => w.2.2.2 x - nI (4 * a_cnt w.2.1 d x w.1))
theorem act_3 {X : Cx} {w : Wd} {k : Nat} : a_act X k w < 3 := by
  unfold a_act
  split
  · omega
  · split <;> omega
theorem sub_sub32 (v a b : Int32) : v - a - b = v - (a + b) := by
  simp [Int32.sub_eq_add_neg, Int32.neg_add, Int32.add_assoc]
section C2
variable {X : Cx} {M N : Me} {c D n : Nat} {π : Nat → Nat} {rs : Nat → Rw} {w : Wd}
theorem CB.kn {kf2 : Nat → Nat → Nat} {ho2 : Nat → Int32} (h : CB X M c w) (hl : N.1 = M.1) (hr : ∀ a k, me_r N a k = me_r M a k) (hi : ∀ a k, ¬ (c + 22 ≤ a ∧ a < c + 28) → me_i N a k = me_i M a k) (hK : CK X N c kf2 ho2) : CB X N c (w.1, w.2.1, kf2, ho2) := by
  obtain ⟨π, n, rs, hV, hg⟩ := h
  refine ⟨π, n, rs, hV.kn hl hr hi hK, fun i hi2 => ?_⟩
  have := (hV.2.1.1 i (by have := hV.2.2.2.2.1.1; omega)).1
  rw [hi _ _ (by omega)]
  exact hg i hi2
theorem e_setOut {k ch : Nat} (hX : XV X) (hW : WV X w) (h : CB X M c w) (hk : k < 6) (hch : ch < 5) : ∃ N, f_X0_trySetOut c (nI k) (nI ch) M = some (nI (a_whyS X k ch w), N) ∧ Fc M N c ∧ CB X N c (if a_whyS X k ch w = 0 then a_set X k ch w else w) := by
  have hCL := h.CL
  have hK := h.K
  have hF := h.F
  unfold f_X0_trySetOut b_X0_trySetOut a_whyS
  rw [q_ck hCL, cP_e (e_whyAct hW hCL hK hk)]
  by_cases h0n : ¬ a_act X k w = 0
  · refine ⟨M, ?_, Fc.refl, by rw [if_pos h0n, if_neg h0n]; exact h⟩
    have := act_3 (X := X) (w := w) (k := k)
    rw [if_pos h0n, c_0, if_neg (nI_ne (by omega) (by omega) h0n)]
  have h0 := Classical.not_not.mp h0n
  obtain ⟨al, g0⟩ := act_al h0
  have wk := hW.2.2.1 k hk al.1
  have xc := hX.2.2.1
  have xy := hX.2.1
  obtain ⟨k1, k2, k3, k4, k5, k6⟩ := (hK k hk).2 al.1
  have hDD := hW.2.1
  have hrd : X.2.2.2.2.2 (5 * w.2.2.1 k 5 + ch) ≤ 99 := hX.2.2.2.2 _ (by omega)
  generalize hR : X.2.2.2.2.2 (5 * w.2.2.1 k 5 + ch) = R at hrd
  have eroad : f_X5_roadDays (c + 1) (nI (w.2.2.1 k 5)) (nI ch) M = some (nI R) := by
    rw [e_roadDays hCL.2.1.1 hCL.2.1.2.1 hCL.2.1.2.2 (by omega) hch, hF.2.2.2 _ (by omega), hR]
  have ewin : f_X5_isWinter (c + 1) (nI w.2.1) M = some (if w.2.1 % X.2.1 < 90 then 1 else 0) := by
    have : w.2.1 % X.2.1 < X.2.1 := Nat.mod_lt _ (by omega)
    unfold f_X5_isWinter b_X5_isWinter
    rw [q_ck5 hCL, q_gi5 hCL, hF.2.2.1, cP_e (e_left (by omega) (by omega) (by omega)), show (90 : Int32) = nI 90 by decide +kernel]
    by_cases q : w.2.1 % X.2.1 < 90
    · rw [if_neg (nI_ge q (by omega)), if_pos q]; rfl
    · rw [if_pos (nI_le (by omega) (by omega)), if_neg q]; rfl
  generalize hT : (if w.2.1 % X.2.1 < 90 then 2 * R else R) = T
  have hT2 : T ≤ 198 ∧ (T = 0 ↔ R = 0) := by
    rw [← hT]; split <;> omega
  have edays : f_X5_daysUnderWay (c + 1) (nI (w.2.2.1 k 5)) (nI ch) (nI w.2.1) M = some (nI T) := by
    unfold f_X5_daysUnderWay b_X5_daysUnderWay
    rw [q_ck5 hCL, cP_e eroad, cP_e ewin, ← hT]
    by_cases q : w.2.1 % X.2.1 < 90
    · rw [if_pos q, if_pos q, if_neg (show ¬ (1 : Int32) = 0 by decide), c_2, pk_mul]; rfl
    · rw [if_neg q, if_neg q, if_pos rfl]; rfl
  rw [h0, if_pos (nI_0), q_knt hCL hk, q_c0 hCL, q_gi4 hCL hk, k5, q_gi hCL, hF.1, cP_e edays, if_neg (show ¬ (0 ≠ 0) by omega)]
  by_cases h5 : R = 0
  · refine ⟨M, ?_, Fc.refl, by rw [if_pos h5, if_neg (by decide)]; exact h⟩
    rw [if_pos h5, if_pos (by rw [hT2.2.mpr h5, nI_0])]; rfl
  · rw [if_neg h5, c_0, if_neg (nI_ne (by omega) (by omega) (by omega)), if_pos rfl, q_pi4 hCL hk, q_pi4 (by exact hCL) hk]
    have hK1 := CK.si (k := k) (f := 5) (v := ch) hK (by omega)
    have hK2 := CK.si (k := k) (f := 6) (v := T) hK1 (by omega)
    refine ⟨_, rfl, (Fc.si (by omega) (by omega)).trans (Fc.si (by omega) (by omega)), ?_⟩
    unfold a_set
    rw [hR, hT]
    exact h.kn rfl (fun _ _ => rfl) (fun a j q => by rw [i_si, if_neg (by omega), i_si, if_neg (by omega)]) hK2
theorem e_flinch {k : Nat} (hX : XV X) (hW : WV X w) (h : CB X M c w) (hk : k < 6) : ∃ N, f_X0_tryFlinch c (nI k) M = some (nI (a_whyF X k w), N) ∧ Fc M N c ∧ CB X N c (if a_whyF X k w = 0 then a_fl X k w else w) := by
  obtain ⟨π, n, rs, hV, hg⟩ := id h
  obtain ⟨hCL, hCP, hF, hK, hD, hw⟩ := id hV
  unfold f_X0_tryFlinch b_X0_tryFlinch a_whyF
  rw [q_ck hCL, cP_e (e_whyAct hW hCL hK hk)]
  by_cases h0n : ¬ a_act X k w = 0
  · refine ⟨M, ?_, Fc.refl, by rw [if_pos h0n, if_neg h0n]; exact h⟩
    have := act_3 (X := X) (w := w) (k := k)
    rw [if_pos h0n, c_0, if_neg (nI_ne (by omega) (by omega) h0n)]
  have h0 := Classical.not_not.mp h0n
  obtain ⟨al, g0⟩ := act_al h0
  have wk := hW.2.2.1 k hk al.1
  have xc := hX.2.2.1
  obtain ⟨k1, k2, k3, k4, k5, k6⟩ := (hK k hk).2 al.1
  have hDD := hW.2.1
  rw [h0, if_pos (nI_0), q_knt hCL hk, if_neg (show ¬ (0 ≠ 0) by omega)]
  have hwr : w.1 = (List.range n).map (fun i => rs (π i)) := by rw [hw, lv_all hg, List.map_map]; rfl
  have hmem : ∀ i, i < n → rs (π i) ∈ w.1 := fun i hi => by rw [hwr]; exact List.mem_map.mpr ⟨i, List.mem_range.mpr hi, rfl⟩
  obtain ⟨h12, hn, hr⟩ := id hD
  have hlp := lp_cnt (step := fun s : Me × Int32 × Int32 => s_X0_tryFlinch_24 c (nI k) (c + 22 + k) s.1 s.2.1 s.2.2) n
    (fun i s => ∃ g, s = (me_w M g, (if ∃ j, j < i ∧ a_here X k w (rs (π j)) = true then 1 else 0), nI i) ∧ (∀ a j, ¬ (c + 6 ≤ a ∧ a < c + 18 ∧ j = 2) → g a j = me_i M a j) ∧ ∀ j, j < n → g (c + 6 + π j) 2 = nI (if j < i then (a_hv X k w (rs (π j))).2.2.1 else (rs (π j)).2.2.1))
    (fun s => ∃ g, s = (me_w M g, (if ∃ j, j < n ∧ a_here X k w (rs (π j)) = true then 1 else 0), nI n) ∧ (∀ a j, ¬ (c + 6 ≤ a ∧ a < c + 18 ∧ j = 2) → g a j = me_i M a j) ∧ ∀ j, j < n → g (c + 6 + π j) 2 = nI (a_hv X k w (rs (π j))).2.2.1)
    ?_ ?_ (M, 0, 0) ⟨fun a j => me_i M a j, by rw [nI_0, if_neg (by rintro ⟨j, z, _⟩; omega)]; rfl, fun _ _ _ => rfl, fun j hj => by rw [if_neg (by omega)]; exact (hr j hj).2.2.1⟩
  · obtain ⟨x, hx, g, rfl, a1, a2⟩ := hlp
    rw [hx]
    simp only [Option.bind_some]
    have hany : w.1.any (a_here X k w) = true ↔ ∃ j, j < n ∧ a_here X k w (rs (π j)) = true := by
      rw [hwr, List.any_map, List.any_eq_true]
      constructor
      · rintro ⟨j, z1, z2⟩; exact ⟨j, List.mem_range.mp z1, z2⟩
      · rintro ⟨j, z1, z2⟩; exact ⟨j, List.mem_range.mpr z1, z2⟩
    have hhv : ∀ r : Rw, (a_hv X k w r).1 = r.1 ∧ (a_hv X k w r).2.1 = r.2.1 ∧ (a_hv X k w r).2.2.2 = r.2.2.2 ∧ (a_hv X k w r).2.2.1 ≤ r.2.2.1 := by
      intro r
      unfold a_hv
      split
      · exact ⟨rfl, rfl, rfl, Nat.div_le_self _ _⟩
      · exact ⟨rfl, rfl, rfl, Nat.le_refl _⟩
    have hV2 : CB X (me_w M g) c (w.1.map (a_hv X k w), w.2) := by
      refine ⟨π, n, fun o => a_hv X k w (rs o), ⟨hCL, hCP, hF.same (fun a j _ => a1 a j (by omega)), hK.same (fun a j _ _ => a1 a j (by omega)), ⟨h12, by rw [i_w, a1 _ _ (by omega)]; exact hn, fun i hi => ?_⟩, ?_⟩, fun i hi => ?_⟩
      · obtain ⟨r0, r1, r2, r3, b0, b1, b2, b3⟩ := hr i hi
        obtain ⟨v0, v1, v3, v4⟩ := hhv (rs (π i))
        rw [i_w, i_w, i_w, i_w, a1 _ _ (by omega), a1 _ _ (by omega), a2 i hi, a1 _ _ (by omega)]
        refine ⟨?_, ?_, rfl, ?_, ?_⟩
        · rw [v0]; exact r0
        · rw [v1]; exact r1
        · rw [v3]; exact r3
        · unfold RB
          rw [v0, v1, v3]
          exact ⟨b0, b1, Nat.lt_of_le_of_lt v4 b2, b3⟩
      · have e : lv (me_w M g) c π n = (List.range n).map π := lv_all (fun i hi => by rw [i_w, a1 _ _ (by omega)]; exact hg i hi)
        rw [e]
        show w.1.map _ = _
        rw [hwr, List.map_map, List.map_map]; rfl
      · rw [i_w, a1 _ _ (by omega)]; exact hg i hi
    by_cases hq : ∃ j, j < n ∧ a_here X k w (rs (π j)) = true
    · rw [if_pos hq, if_neg (show ¬ (1 : Int32) = 0 by decide), if_pos (hany.mpr hq), if_pos rfl]
      have hC2 : CL (me_w M g) c := hCL
      have k4' : me_i (me_w M g) (c + 22 + k) 4 = w.2.2.2 k := by rw [i_w, a1 _ _ (by omega)]; exact k4
      rw [q_gi4 hC2 hk, q_pi4 hC2 hk, k4', c_0]
      refine ⟨_, rfl, (Fc.w (fun a j z => a1 a j (by omega))).trans (Fc.si (by omega) (by omega)), ?_⟩
      exact hV2.kn rfl (fun _ _ => rfl) (fun a j z => by rw [i_si, if_neg (by omega)]) (CK.sh (k := k) hV2.K)
    · rw [if_neg hq, if_pos rfl, if_neg (fun z => hq (hany.mp z)), if_neg (by decide)]
      refine ⟨_, rfl, Fc.w (fun a j z => a1 a j (by omega)), ?_⟩
      have e : w.1.map (a_hv X k w) = w.1 := by
        rw [hwr, List.map_map]
        apply range_map_congr
        intro i hi
        show a_hv X k w (rs (π i)) = rs (π i)
        unfold a_hv
        rw [if_neg (fun z => hq ⟨i, hi, z⟩)]
      rw [e] at hV2
      exact hV2
  · rintro i s hi ⟨g, rfl, a1, a2⟩
    obtain ⟨r0, r1, r2, r3, b0, b1, b2, b3⟩ := hr i hi
    have hp := (hCP.1 i (by omega)).1
    obtain ⟨v1, v2, v3, v4, v5, v6, v7, v8, v9⟩ := hW.2.2.2.1 _ (hmem i hi)
    have hC2 : CL (me_w M g) c := hCL
    have hP2 : CP (me_w M g) c π := hCP
    have hK2 : CK X (me_w M g) c w.2.2.1 w.2.2.2 := hK.same (fun a j _ _ => a1 a j (by omega))
    have n1 : ¬ (12 : Int32) ≤ nI i := by rw [c_12]; exact nI_ge (by omega) (by omega)
    have n2 : ¬ nI n ≤ nI i := nI_ge hi (by omega)
    have e4 : me_i (me_w M g) (c + 4) 0 = nI n := by rw [i_w, a1 _ _ (by omega)]; exact hn
    have e0 : me_i (me_w M g) (c + 6 + π i) 0 = nI (rs (π i)).1 := by rw [i_w, a1 _ _ (by omega)]; exact r0
    have e1 : me_i (me_w M g) (c + 6 + π i) 1 = nI (rs (π i)).2.1 := by rw [i_w, a1 _ _ (by omega)]; exact r1
    have e2 : me_i (me_w M g) (c + 6 + π i) 2 = nI (rs (π i)).2.2.1 := by rw [i_w, a2 i hi, if_neg (by omega)]
    have e3 : me_i (me_w M g) (c + 6 + π i) 3 = nI (rs (π i)).2.2.2 := by rw [i_w, a1 _ _ (by omega)]; exact r3
    have e5 : me_i (me_w M g) c 5 = nI w.2.1 := by rw [i_w, a1 _ _ (by omega)]; exact hF.1
    have xs := hX.2.2.2.1 _ v2 v5
    have eIn := CK.isIn hC2 hK2 (k := k) (p := X.2.2.2.2.1 (rs (π i)).2.1) hk al.1 (by omega) (by omega) (by omega)
    have ko := ((hK2 _ v2).2 v5).1
    have st : s_X0_tryFlinch_24 c (nI k) (c + 22 + k) (me_w M g) (if ∃ j, j < i ∧ a_here X k w (rs (π j)) = true then 1 else 0) (nI i) = if a_here X k w (rs (π i)) = true then some (Sum.inl (me_si (me_w M g) (c + 6 + π i) 2 (nI ((rs (π i)).2.2.1 / 2)), 1, nI (i + 1))) else some (Sum.inl (me_w M g, (if ∃ j, j < i ∧ a_here X k w (rs (π j)) = true then 1 else 0), nI (i + 1))) := by
      generalize (if ∃ j, j < i ∧ a_here X k w (rs (π j)) = true then (1 : Int32) else 0) = vv
      unfold s_X0_tryFlinch_24 a_here
      simp only [let_v, decide_eq_true_eq]
      rw [if_neg n1, q_c2 hC2, q_gi2 hC2, e4, if_neg n2, q_c2 hC2, q_d1 hC2, q_row hC2 hP2 (by omega), q_gi1 hC2 hp, e0, nI_1]
      by_cases q1 : (rs (π i)).1 = k
      · rw [q1, if_pos rfl, q_gi1 hC2 hp, e3, q_gi hC2, e5]
        by_cases q2 : (rs (π i)).2.2.2 = w.2.1
        · rw [q2, if_pos rfl, q_gi1 hC2 hp, e1, q_knt hC2 v2, q_gi4 hC2 v2, ko]
          by_cases q3 : w.2.2.1 k 5 = X.2.2.2.2.1 (rs (π i)).2.1
          · rw [if_pos ⟨g0, q3⟩] at eIn
            rw [cP_e eIn, if_neg (show ¬ (1 : Int32) = 0 by decide), q_gi1 hC2 hp, e2, c_2, pk_div (by omega) (by omega) (by omega), q_pi1 hC2 hp, if_pos ⟨rfl, rfl, q3.symm⟩]; rfl
          · rw [if_neg (fun z => q3 z.2)] at eIn
            rw [cP_e eIn, if_pos rfl, if_neg (fun z => q3 z.2.2.symm)]; rfl
        · rw [if_neg (nI_ne (by omega) (by omega) q2), if_neg (fun z => q2 z.2.1)]; rfl
      · rw [if_neg (nI_ne (by omega) (by omega) q1), if_neg (fun z => q1 z.1)]; rfl
    by_cases hq : a_here X k w (rs (π i)) = true
    · rw [if_pos hq] at st
      refine ⟨_, st, fun a j => me_i (me_si (me_w M g) (c + 6 + π i) 2 (nI ((rs (π i)).2.2.1 / 2))) a j, ?_, fun a j haj => ?_, fun j hj => ?_⟩
      · rw [if_pos ⟨i, by omega, hq⟩]; rfl
      · dsimp only
        rw [i_si, if_neg (by omega)]
        exact a1 a j haj
      · dsimp only
        by_cases hji : j = i
        · subst hji
          rw [i_si, if_pos ⟨rfl, rfl⟩, if_pos (by omega)]
          unfold a_hv
          rw [if_pos hq]
        · have hne : π j ≠ π i := fun z => hji (hCP.2 j i (by omega) (by omega) z)
          rw [i_si, if_neg (by omega), i_w, a2 j hj]
          have e : (j < i + 1) = (j < i) := propext (by omega)
          simp only [e]
    · rw [if_neg hq] at st
      refine ⟨_, st, g, ?_, a1, fun j hj => ?_⟩
      · have e : (∃ j, j < i + 1 ∧ a_here X k w (rs (π j)) = true) = (∃ j, j < i ∧ a_here X k w (rs (π j)) = true) := propext ⟨fun ⟨j, z1, z2⟩ => ⟨j, by
          have : j ≠ i := fun z => hq (z ▸ z2)
          omega, z2⟩, fun ⟨j, z1, z2⟩ => ⟨j, by omega, z2⟩⟩
        simp only [e]
      · rw [a2 j hj]
        by_cases hji : j = i
        · subst hji
          rw [if_neg (by omega), if_pos (by omega)]
          unfold a_hv
          rw [if_neg hq]
        · have e : (j < i + 1) = (j < i) := propext (by omega)
          simp only [e]
  · rintro s ⟨g, rfl, a1, a2⟩
    refine ⟨_, ?_, g, rfl, a1, fun j hj => by rw [a2 j hj, if_pos hj]⟩
    show s_X0_tryFlinch_24 c (nI k) (c + 22 + k) (me_w M g) _ (nI n) = _
    unfold s_X0_tryFlinch_24
    have hC2 : CL (me_w M g) c := hCL
    have e4 : me_i (me_w M g) (c + 4) 0 = nI n := by rw [i_w, a1 _ _ (by omega)]; exact hn
    rw [q_c2 hC2, q_gi2 hC2, e4, if_pos (nI_le (Nat.le_refl _) (by omega))]
    split <;> rfl
theorem e_remit {k : Nat} (hW : WV X w) (h : CB X M c w) (hk : k < 6) : ∃ N, f_X0_tryRemit c (nI k) M = some (nI (a_whyR X k w), N) ∧ Fc M N c ∧ (∃ π, CP N c π) ∧ (a_whyR X k w = 0 → CB X N c (a_rm k w)) := by
  obtain ⟨π, n, rs, hV, hg⟩ := id h
  obtain ⟨hCL, hCP, hF, hK, hD, hw⟩ := id hV
  unfold f_X0_tryRemit b_X0_tryRemit a_whyR
  rw [q_ck hCL, cP_e (e_whyAct hW hCL hK hk)]
  by_cases h0n : ¬ a_act X k w = 0
  · refine ⟨M, ?_, Fc.refl, ⟨π, hCP⟩, fun z => absurd z (by rw [if_pos h0n]; exact h0n)⟩
    have := act_3 (X := X) (w := w) (k := k)
    rw [if_pos h0n, c_0, if_neg (nI_ne (by omega) (by omega) h0n)]
  have h0 := Classical.not_not.mp h0n
  obtain ⟨al, g0⟩ := act_al h0
  have hlen : w.1.length = n := by rw [hw, lv_all hg]; simp
  obtain ⟨h12, hn, hr⟩ := id hD
  rw [h0, if_pos (nI_0), q_c2 hCL, q_gi2 hCL, hn, if_neg (show ¬ (0 ≠ 0) by omega)]
  have hlp := lp_cnt (step := fun s : Me × Int32 => s_X0_tryRemit_23 c (nI k) s.1 s.2) n
    (fun i s => ∃ g, s = (me_w M g, nI i) ∧ (∀ a j, ¬ (c + 6 ≤ a ∧ a < c + 18 ∧ j = 4) → g a j = me_i M a j) ∧ ∀ j, j < n → g (c + 6 + π j) 4 = if j < i ∧ (rs (π j)).2.1 = k then 1 else 0)
    (fun s => ∃ g, s = (me_w M g, nI n) ∧ (∀ a j, ¬ (c + 6 ≤ a ∧ a < c + 18 ∧ j = 4) → g a j = me_i M a j) ∧ ∀ j, j < n → g (c + 6 + π j) 4 = if (rs (π j)).2.1 = k then 1 else 0)
    ?_ ?_ (M, 0) ⟨fun a j => me_i M a j, by rw [nI_0]; rfl, fun _ _ _ => rfl, fun j hj => by rw [if_neg (by omega)]; exact hg j hj⟩
  · obtain ⟨x, hx, g, rfl, a1, a2⟩ := hlp
    rw [hx]
    simp only [Option.bind_some]
    have hV2 : CV X (me_w M g) c π n rs (w.1.filter (a_stay k), w.2) := by
      refine ⟨hCL, hCP, hF.same (fun a j _ => a1 a j (by omega)), hK.same (fun a j _ _ => a1 a j (by omega)), hD.same hCP (a1 _ _ (by omega)) (fun a j _ _ _ => a1 a j (by omega)), ?_⟩
      show w.1.filter _ = _
      rw [hw]
      symm
      apply lv_step
      intro i hi
      rw [i_w, a2 i hi, hg i hi]
      unfold a_stay
      by_cases q : (rs (π i)).2.1 = k
      · rw [if_pos q]; simp [q]
      · rw [if_neg q]; simp [q]
    obtain ⟨N, s1, s2, s3, s4, s5⟩ := hV2.sweep
    have hCN := s5.CL
    have hl := List.length_filter_le (a_stay k) w.1
    obtain ⟨k1, k2, k3, k4, k5, k6⟩ := (s5.K k hk).2 al.1
    simp only [let_v]
    rw [q_c2 hV2.1, cM_e s1, q_c2 hCN, q_gi2 hCN, s4, ← hlen]
    rw [show nI w.1.length - nI (w.1.filter (a_stay k)).length = nI (w.1.length - (w.1.filter (a_stay k)).length) from pk_sub hl]
    rw [q_knt hCN hk, q_gi4 hCN hk, q_pi4 hCN hk, k4]
    have hB : CB X (me_si N (c + 22 + k) 4 (w.2.2.2 k + nI (w.1.length - (w.1.filter (a_stay k)).length))) c (a_rm k w) := s5.kn rfl (fun _ _ => rfl) (fun a j z => by rw [i_si, if_neg (by omega)]) (CK.sh (k := k) s5.K)
    refine ⟨me_si N (c + 22 + k) 4 (w.2.2.2 k + nI (w.1.length - (w.1.filter (a_stay k)).length)), ?_, ((Fc.w (fun a j z => a1 a j (by omega))).trans s2).trans (Fc.si (by omega) (by omega)), ?_, fun _ => hB⟩
    · by_cases q : (w.1.filter (a_stay k)).length = w.1.length
      · rw [if_pos q, q, Nat.sub_self, if_pos (show nI 0 ≤ (0 : Int32) by decide +kernel)]; rfl
      · rw [if_neg q, c_0, if_neg (nI_ge (by omega) (by omega))]; rfl
    · obtain ⟨π2, n2, rs2, hV3, hg3⟩ := hB
      exact ⟨π2, hV3.2.1⟩
  · rintro i s hi ⟨g, rfl, a1, a2⟩
    obtain ⟨r0, r1, r2, r3, b0, b1, b2, b3⟩ := hr i hi
    have hp := (hCP.1 i (by omega)).1
    have hC2 : CL (me_w M g) c := hCL
    have hP2 : CP (me_w M g) c π := hCP
    have n1 : ¬ (12 : Int32) ≤ nI i := by rw [c_12]; exact nI_ge (by omega) (by omega)
    have n2 : ¬ nI n ≤ nI i := nI_ge hi (by omega)
    have e4 : me_i (me_w M g) (c + 4) 0 = nI n := by rw [i_w, a1 _ _ (by omega)]; exact hn
    have e1 : me_i (me_w M g) (c + 6 + π i) 1 = nI (rs (π i)).2.1 := by rw [i_w, a1 _ _ (by omega)]; exact r1
    have hv : (if (rs (π i)).2.1 = k then (1 : Int32) else 0) = 0 ∨ (if (rs (π i)).2.1 = k then (1 : Int32) else 0) = 1 := by
      split
      · exact Or.inr rfl
      · exact Or.inl rfl
    refine ⟨(me_si (me_w M g) (c + 6 + π i) 4 (if (rs (π i)).2.1 = k then 1 else 0), nI (i + 1)), ?_, fun a j => me_i (me_si (me_w M g) (c + 6 + π i) 4 (if (rs (π i)).2.1 = k then 1 else 0)) a j, rfl, fun a j haj => ?_, fun j hj => ?_⟩
    · show s_X0_tryRemit_23 c (nI k) (me_w M g) (nI i) = _
      unfold s_X0_tryRemit_23
      simp only [let_v]
      rw [if_neg n1, q_c2 hC2, q_gi2 hC2, e4, if_neg n2, q_c2 hC2, q_d1 hC2, q_row hC2 hP2 (by omega), q_c2 hC2, q_d1 hC2, q_row hC2 hP2 (by omega), q_gi1 hC2 hp, e1]
      by_cases q : (rs (π i)).2.1 = k
      · rw [if_pos q] at hv
        rw [if_pos q, q, if_pos rfl]
        simp only [Option.bind_some]
        rw [q_pz1 hC2 hp hv, nI_1]
      · rw [if_neg q] at hv
        rw [if_neg q, if_neg (nI_ne (by omega) (by omega) q)]
        simp only [Option.bind_some]
        rw [q_pz1 hC2 hp hv, nI_1]
    · dsimp only
      rw [i_si, if_neg (by omega)]
      exact a1 a j haj
    · dsimp only
      by_cases hji : j = i
      · subst hji
        rw [i_si, if_pos ⟨rfl, rfl⟩]
        by_cases q : (rs (π j)).2.1 = k
        · rw [if_pos q, if_pos ⟨by omega, q⟩]
        · rw [if_neg q, if_neg (fun z => q z.2)]
      · have hne : π j ≠ π i := fun z => hji (hCP.2 j i (by omega) (by omega) z)
        rw [i_si, if_neg (by omega), i_w, a2 j hj]
        have e : (j < i + 1) = (j < i) := propext (by omega)
        simp only [e]
  · rintro s ⟨g, rfl, a1, a2⟩
    refine ⟨_, ?_, g, rfl, a1, fun j hj => ?_⟩
    · show s_X0_tryRemit_23 c (nI k) (me_w M g) (nI n) = _
      unfold s_X0_tryRemit_23
      have hC2 : CL (me_w M g) c := hCL
      have e4 : me_i (me_w M g) (c + 4) 0 = nI n := by rw [i_w, a1 _ _ (by omega)]; exact hn
      rw [q_c2 hC2, q_gi2 hC2, e4, if_pos (nI_le (Nat.le_refl _) (by omega))]
      split <;> rfl
    · rw [a2 j hj]
      by_cases q : (rs (π j)).2.1 = k
      · rw [if_pos q, if_pos ⟨hj, q⟩]
      · rw [if_neg q, if_neg (fun z => q z.2)]
theorem cnt_step {D d i : Nat} {f : Nat → Rw} {x : Nat} : a_cnt D d x ((List.range (i + 1)).map f) = a_cnt D d x ((List.range i).map f) + if a_end D d (f i) = true ∧ (f i).2.1 = x then 1 else 0 := by
  unfold a_cnt
  rw [List.range_succ, List.map_append, List.countP_append]
  congr 1
  simp only [List.map_cons, List.map_nil, List.countP_cons, List.countP_nil]
  by_cases h1 : a_end D d (f i) = true
  · by_cases h2 : (f i).2.1 = x
    · simp [h1, h2]
    · simp [h1, h2]
  · simp [h1]
theorem e_passDays {d : Nat} (hW : WV X w) (h : CB X M c w) (hd : d ≤ 100) : ∃ N, f_X0_passDays c (nI d) M = some N ∧ Fc M N c ∧ CB X N c (a_pass d w) := by
  obtain ⟨π, n, rs, hV, hg⟩ := id h
  obtain ⟨hCL, hCP, hF, hK, hD, hw⟩ := id hV
  obtain ⟨h12, hn, hr⟩ := id hD
  have hDD := hW.2.1
  have hwr : w.1 = (List.range n).map (fun i => rs (π i)) := by rw [hw, lv_all hg, List.map_map]; rfl
  have hmem : ∀ i, i < n → rs (π i) ∈ w.1 := fun i hi => by rw [hwr]; exact List.mem_map.mpr ⟨i, List.mem_range.mpr hi, rfl⟩
  unfold f_X0_passDays b_X0_passDays
  rw [q_ck hCL]
  have hlp := lp_cnt (step := fun s : Me × Int32 => s_X0_passDays_2 c (nI d) s.1 s.2) n
    (fun i s => ∃ g, s = (me_w M g, nI i) ∧ (∀ a j, ¬ (c + 6 ≤ a ∧ a < c + 18 ∧ j = 4) → ¬ (c + 22 ≤ a ∧ a < c + 28) → g a j = me_i M a j) ∧ (∀ j, j < n → g (c + 6 + π j) 4 = if j < i ∧ a_end w.2.1 d (rs (π j)) = true then 1 else 0) ∧ CK X (me_w M g) c w.2.2.1 (fun x => w.2.2.2 x - nI (4 * a_cnt w.2.1 d x ((List.range i).map (fun j => rs (π j))))))
    (fun s => ∃ g, s = (me_w M g, nI n) ∧ (∀ a j, ¬ (c + 6 ≤ a ∧ a < c + 18 ∧ j = 4) → ¬ (c + 22 ≤ a ∧ a < c + 28) → g a j = me_i M a j) ∧ (∀ j, j < n → g (c + 6 + π j) 4 = if a_end w.2.1 d (rs (π j)) = true then 1 else 0) ∧ CK X (me_w M g) c w.2.2.1 (fun x => w.2.2.2 x - nI (4 * a_cnt w.2.1 d x w.1)))
    ?_ ?_ (M, 0) ⟨fun a j => me_i M a j, by rw [nI_0]; rfl, fun _ _ _ _ => rfl, fun j hj => by rw [if_neg (by omega)]; exact hg j hj, ?_⟩
  · obtain ⟨x, hx, g, rfl, a1, a2, a3⟩ := hlp
    rw [hx]
    simp only [Option.bind_some]
    have hV2 : CV X (me_w M g) c π n rs (w.1.filter (fun r => ! a_end w.2.1 d r), w.2.1, w.2.2.1, fun x => w.2.2.2 x - nI (4 * a_cnt w.2.1 d x w.1)) := by
      refine ⟨hCL, hCP, hF.same (fun a j _ => a1 a j (by omega) (by omega)), a3, hD.same hCP (a1 _ _ (by omega) (by omega)) (fun a j _ _ _ => a1 a j (by omega) (by omega)), ?_⟩
      show w.1.filter _ = _
      rw [hw]
      symm
      apply lv_step
      intro i hi
      rw [i_w, a2 i hi, hg i hi]
      by_cases q : a_end w.2.1 d (rs (π i)) = true
      · rw [if_pos q]; simp [q]
      · rw [if_neg q]; simp [q]
    obtain ⟨N, s1, s2, s3, s4, s5⟩ := hV2.sweep
    have hCN := s5.CL
    have hKN := s5.K
    rw [q_c2 hV2.1, cM_e s1]
    have hlp2 := lp_cnt (step := fun s : Me × Int32 => s_X0_passDays_90 c (nI d) s.1 s.2) 6
      (fun i s => ∃ g, s = (me_w N g, nI i) ∧ (∀ a j, ¬ (c + 22 ≤ a ∧ a < c + 28) → g a j = me_i N a j) ∧ CK X (me_w N g) c (fun x f => if f = 6 ∧ x < i then w.2.2.1 x 6 - d else w.2.2.1 x f) (fun x => w.2.2.2 x - nI (4 * a_cnt w.2.1 d x w.1)))
      (fun s => ∃ g, s = (me_w N g, nI 6) ∧ (∀ a j, ¬ (c + 22 ≤ a ∧ a < c + 28) → g a j = me_i N a j) ∧ CK X (me_w N g) c (fun x f => if f = 6 then w.2.2.1 x 6 - d else w.2.2.1 x f) (fun x => w.2.2.2 x - nI (4 * a_cnt w.2.1 d x w.1)))
      ?_ ?_ (N, 0) ⟨fun a j => me_i N a j, by rw [nI_0]; rfl, fun _ _ _ => rfl, by
        have e : (fun x f => if f = 6 ∧ x < 0 then w.2.2.1 x 6 - d else w.2.2.1 x f) = w.2.2.1 := by funext x f; rw [if_neg (by omega)]
        rw [e]; exact hKN⟩
    · obtain ⟨x, hx2, g2, rfl, b1, b2⟩ := hlp2
      rw [hx2]
      simp only [Option.bind_some]
      have hB2 := s5.kn (N := me_w N g2) rfl (fun _ _ => rfl) b1 b2
      have hF2 := hB2.F
      rw [q_gi hB2.CL, hF2.1, nI_add, q_pi hB2.CL]
      refine ⟨_, rfl, (((Fc.w (fun a j z => a1 a j (by omega) (by omega))).trans s2).trans (Fc.w (fun a j z => b1 a j (by omega)))).trans (Fc.si (by omega) (by omega)), ?_⟩
      obtain ⟨π3, n3, rs3, ⟨u1, u2, u3, u4, u5, u6⟩, u7⟩ := hB2
      have u12 := u5.1
      refine ⟨π3, n3, rs3, ⟨u1, u2, ⟨by rw [i_si, if_pos ⟨rfl, rfl⟩]; rfl, by rw [i_si, if_neg (by omega)]; exact u3.2.1, by rw [i_si, if_neg (by omega)]; exact u3.2.2.1, fun i hi => by rw [i_si, if_neg (by omega)]; exact u3.2.2.2 i hi⟩, u4.same (fun a j _ _ => by rw [i_si, if_neg (by omega)]), u5.same u2 (by rw [i_si, if_neg (by omega)]) (fun a j _ _ _ => by rw [i_si, if_neg (by omega)]), ?_⟩, fun i hi => ?_⟩
      · rw [lv_same (M := me_w N g2) u2 u12 (fun a _ _ => by rw [i_si, if_neg (by omega)])]
        exact u6
      · rw [i_si, if_neg (by omega)]
        exact u7 i hi
    · rintro i s hi ⟨g2, rfl, b1, b2⟩
      have hC3 : CL (me_w N g2) c := hCN
      have n1 : ¬ (6 : Int32) ≤ nI i := (six_no hi).2
      refine ⟨(me_si (me_w N g2) (c + 22 + i) 6 (mx_i 0 (g2 (c + 22 + i) 6 - nI d)), nI (i + 1)), ?_, fun a j => me_i (me_si (me_w N g2) (c + 22 + i) 6 (mx_i 0 (g2 (c + 22 + i) 6 - nI d))) a j, rfl, fun a j haj => ?_, ?_⟩
      · show s_X0_passDays_90 c (nI d) (me_w N g2) (nI i) = _
        unfold s_X0_passDays_90
        simp only [let_v]
        rw [if_neg n1, q_c1 hC3, q_kn hC3 hi, q_c1 hC3, q_kn hC3 hi, q_gi4 hC3 hi, q_pi4 hC3 hi, nI_1, i_w]
      · dsimp only
        rw [i_si, if_neg (by omega)]
        exact b1 a j haj
      · show CK X (me_si (me_w N g2) (c + 22 + i) 6 (mx_i 0 (g2 (c + 22 + i) 6 - nI d))) c _ _
        intro x hx3
        by_cases hxi : x = i
        · subst hxi
          obtain ⟨z1, z2⟩ := b2 x hx3
          refine ⟨by rw [i_si, if_neg (by omega)]; exact z1, fun ht => ?_⟩
          obtain ⟨y1, y2, y3, y4, y5, y6⟩ := z2 ht
          have wx := hW.2.2.1 x hx3 ht
          have e6 : g2 (c + 22 + x) 6 = nI (w.2.2.1 x 6) := by
            have := y6
            dsimp only at this
            rw [i_w, if_neg (by omega)] at this
            exact this
          refine ⟨by rw [i_si, if_neg (by omega)]; exact y1, by rw [i_si, if_neg (by omega)]; exact y2, by rw [i_si, if_neg (by omega)]; exact y3, by rw [i_si, if_neg (by omega)]; exact y4, by rw [i_si, if_neg (by omega)]; exact y5, ?_⟩
          dsimp only
          rw [i_si, if_pos ⟨rfl, rfl⟩, e6, mx_0 (by omega) (by omega), if_pos ⟨rfl, by omega⟩]
        · have e : ∀ y, me_i (me_si (me_w N g2) (c + 22 + i) 6 (mx_i 0 (g2 (c + 22 + i) 6 - nI d))) (c + 22 + x) y = me_i (me_w N g2) (c + 22 + x) y := fun y => by rw [i_si, if_neg (by omega)]
          have e2 : ∀ f, (if f = 6 ∧ x < i + 1 then w.2.2.1 x 6 - d else w.2.2.1 x f) = (if f = 6 ∧ x < i then w.2.2.1 x 6 - d else w.2.2.1 x f) := by
            intro f
            by_cases z : f = 6 ∧ x < i
            · rw [if_pos z, if_pos (by omega)]
            · rw [if_neg z, if_neg (by omega)]
          have z := b2 x hx3
          dsimp only at z ⊢
          rw [e, e, e, e, e, e, e, e2, e2, e2]
          exact z
    · rintro s ⟨g2, rfl, b1, b2⟩
      refine ⟨_, ?_, g2, rfl, b1, ?_⟩
      · show s_X0_passDays_90 c (nI d) (me_w N g2) (nI 6) = _
        unfold s_X0_passDays_90
        rw [c_6, if_pos (nI_le (Nat.le_refl _) (by omega))]
      · intro x hx3
        have := b2 x hx3
        simp only [hx3, and_true] at this
        exact this
  · rintro i s hi ⟨g, rfl, a1, a2, a3⟩
    obtain ⟨r0, r1, r2, r3, b0, b1, b2, b3⟩ := hr i hi
    have hp := (hCP.1 i (by omega)).1
    obtain ⟨v1, v2, v3, v4, v5, v6, v7, v8, v9⟩ := hW.2.2.2.1 _ (hmem i hi)
    have hC2 : CL (me_w M g) c := hCL
    have hP2 : CP (me_w M g) c π := hCP
    have n1 : ¬ (12 : Int32) ≤ nI i := by rw [c_12]; exact nI_ge (by omega) (by omega)
    have n2 : ¬ nI n ≤ nI i := nI_ge hi (by omega)
    have e4 : me_i (me_w M g) (c + 4) 0 = nI n := by rw [i_w, a1 _ _ (by omega) (by omega)]; exact hn
    have e1 : me_i (me_w M g) (c + 6 + π i) 1 = nI (rs (π i)).2.1 := by rw [i_w, a1 _ _ (by omega) (by omega)]; exact r1
    have e3 : me_i (me_w M g) (c + 6 + π i) 3 = nI (rs (π i)).2.2.2 := by rw [i_w, a1 _ _ (by omega) (by omega)]; exact r3
    have e5 : me_i (me_w M g) c 5 = nI w.2.1 := by rw [i_w, a1 _ _ (by omega) (by omega)]; exact hF.1
    have ko := ((a3 _ v2).2 v5).2.2.2.1
    have st : s_X0_passDays_2 c (nI d) (me_w M g) (nI i) = if a_end w.2.1 d (rs (π i)) = true then some (Sum.inl (me_si (me_si (me_w M g) (c + 6 + π i) 4 1) (c + 22 + (rs (π i)).2.1) 4 (me_i (me_w M g) (c + 22 + (rs (π i)).2.1) 4 - 4), nI (i + 1))) else some (Sum.inl (me_w M g, nI (i + 1))) := by
      unfold s_X0_passDays_2 a_end
      simp only [let_v, decide_eq_true_eq]
      rw [if_neg n1, q_c2 hC2, q_gi2 hC2, e4, if_neg n2, q_c2 hC2, q_d1 hC2, q_row hC2 hP2 (by omega), q_gi1 hC2 hp, e3, q_gi hC2, e5, nI_1]
      by_cases q1 : (rs (π i)).2.2.2 < w.2.1
      · rw [if_pos (nI_lt q1 (by omega)), if_neg (by omega)]; rfl
      · rw [if_neg (nI_nlt (by omega) (by omega)), q_gi1 hC2 hp, e3, q_gi hC2, e5, nI_add]
        by_cases q2 : w.2.1 + d ≤ (rs (π i)).2.2.2
        · rw [if_pos (nI_le q2 (by omega)), if_neg (by omega)]; rfl
        · have e1b : me_i (me_si (me_w M g) (c + 6 + π i) 4 1) (c + 6 + π i) 1 = nI (rs (π i)).2.1 := by rw [i_si, if_neg (by omega)]; exact e1
          rw [if_neg (nI_ge (by omega) (by omega)), q_pz1 hC2 hp (Or.inr rfl), q_gi1 (by exact hC2) hp, e1b, q_knt (by exact hC2) v2, q_gi4 (by exact hC2) v2, q_pi4 (by exact hC2) v2, if_pos (by omega), i_si, if_neg (by omega)]; rfl
    by_cases hq : a_end w.2.1 d (rs (π i)) = true
    · rw [if_pos hq] at st
      refine ⟨_, st, fun a j => me_i (me_si (me_si (me_w M g) (c + 6 + π i) 4 1) (c + 22 + (rs (π i)).2.1) 4 (me_i (me_w M g) (c + 22 + (rs (π i)).2.1) 4 - 4)) a j, rfl, fun a j h1 h2 => ?_, fun j hj => ?_, ?_⟩
      · dsimp only
        rw [i_si, if_neg (by omega), i_si, if_neg (by omega)]
        exact a1 a j h1 h2
      · dsimp only
        by_cases hji : j = i
        · subst hji
          rw [i_si, if_neg (by omega), i_si, if_pos ⟨rfl, rfl⟩, if_pos ⟨by omega, hq⟩]
        · have hne : π j ≠ π i := fun z => hji (hCP.2 j i (by omega) (by omega) z)
          have hpj := (hCP.1 j (by omega)).1
          rw [i_si, if_neg (by omega), i_si, if_neg (by omega), i_w, a2 j hj]
          have e : (j < i + 1) = (j < i) := propext (by omega)
          simp only [e]
      · have hKa : CK X (me_si (me_w M g) (c + 6 + π i) 4 1) c w.2.2.1 (fun x => w.2.2.2 x - nI (4 * a_cnt w.2.1 d x ((List.range i).map (fun j => rs (π j))))) := a3.same (fun a j _ _ => by rw [i_si, if_neg (by omega)])
        have hKb := CK.sh (k := (rs (π i)).2.1) (v := me_i (me_w M g) (c + 22 + (rs (π i)).2.1) 4 - 4) hKa
        have e : ups (fun x => w.2.2.2 x - nI (4 * a_cnt w.2.1 d x ((List.range i).map (fun j => rs (π j))))) (rs (π i)).2.1 (me_i (me_w M g) (c + 22 + (rs (π i)).2.1) 4 - 4) = fun x => w.2.2.2 x - nI (4 * a_cnt w.2.1 d x ((List.range (i + 1)).map (fun j => rs (π j)))) := by
          funext x
          unfold ups
          rw [cnt_step]
          by_cases hx : x = (rs (π i)).2.1
          · rw [if_pos hx, if_pos ⟨hq, hx.symm⟩, ko, ← hx, c_4, sub_sub32, nI_add]
            congr 2
          · rw [if_neg hx, if_neg (fun z => hx z.2.symm)]; rfl
        rw [e] at hKb
        exact hKb
    · rw [if_neg hq] at st
      refine ⟨_, st, g, rfl, a1, fun j hj => ?_, ?_⟩
      · rw [a2 j hj]
        by_cases hji : j = i
        · subst hji
          rw [if_neg (by omega), if_neg (fun z => hq z.2)]
        · have e : (j < i + 1) = (j < i) := propext (by omega)
          simp only [e]
      · have e : (fun x => w.2.2.2 x - nI (4 * a_cnt w.2.1 d x ((List.range (i + 1)).map (fun j => rs (π j))))) = (fun x => w.2.2.2 x - nI (4 * a_cnt w.2.1 d x ((List.range i).map (fun j => rs (π j))))) := by
          funext x
          rw [cnt_step, if_neg (fun z => hq z.1)]; rfl
        rw [e]
        exact a3
  · rintro s ⟨g, rfl, a1, a2, a3⟩
    refine ⟨_, ?_, g, rfl, a1, fun j hj => ?_, ?_⟩
    · show s_X0_passDays_2 c (nI d) (me_w M g) (nI n) = _
      unfold s_X0_passDays_2
      have hC2 : CL (me_w M g) c := hCL
      have e4 : me_i (me_w M g) (c + 4) 0 = nI n := by rw [i_w, a1 _ _ (by omega) (by omega)]; exact hn
      rw [q_c2 hC2, q_gi2 hC2, e4, if_pos (nI_le (Nat.le_refl _) (by omega))]
      split <;> rfl
    · rw [a2 j hj]
      by_cases q : a_end w.2.1 d (rs (π j)) = true
      · rw [if_pos q, if_pos ⟨hj, q⟩]
      · rw [if_neg q, if_neg (fun z => q z.2)]
    · rw [hwr]; exact a3
  · have e : (fun x => w.2.2.2 x - nI (4 * a_cnt w.2.1 d x ((List.range 0).map (fun j => rs (π j))))) = w.2.2.2 := by
      funext x
      show w.2.2.2 x - nI 0 = _
      rw [nI_0]; simp
    rw [e]
    exact hK
end C2

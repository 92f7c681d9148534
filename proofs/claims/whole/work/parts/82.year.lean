/-! courts by draws -/
def a_nx1 (x : Nat) : Nat := (75 * x + 74) % 65537
def a_ys (X : Cx) (s : Nat × Nat × Nat × Wd) : Nat × Nat × Nat × Wd :=
  if a_why X (a_nx1 s.1 % 6) (a_nx1 s.1 / 6 % 6) 1 s.2.2.2 = 0 then (a_nx1 s.1, s.2.1 + 1, s.2.2.1, a_pass (a_nx1 s.1 / 64 % 40) (a_hit X (a_nx1 s.1 % 6) (a_nx1 s.1 / 6 % 6) 1 s.2.2.2))
  else if a_whyB X (a_nx1 s.1 % 6) s.2.2.2 = 0 then (a_nx1 s.1, s.2.1, s.2.2.1 + 1, a_pass (a_nx1 s.1 / 64 % 40) (a_gb X (a_nx1 s.1 % 6) 12 s.2.2.2))
  else (a_nx1 s.1, s.2.1, s.2.2.1, a_pass (a_nx1 s.1 / 64 % 40) s.2.2.2)
def a_yr (X : Cx) (x0 : Nat) (w0 : Wd) : Nat → Nat × Nat × Nat × Wd
  | 0 => (x0, 0, 0, w0)
  | j + 1 => a_ys X (a_yr X x0 w0 j)
theorem c_75 : (75 : Int32) = nI 75 := by decide +kernel
theorem c_74 : (74 : Int32) = nI 74 := by decide +kernel
theorem c_65537 : (65537 : Int32) = nI 65537 := by decide +kernel
theorem c_64 : (64 : Int32) = nI 64 := by decide +kernel
theorem c_40 : (40 : Int32) = nI 40 := by decide +kernel
theorem c_9999 : (9999 : Int32) = nI 9999 := by decide +kernel
theorem dr_x {x : Nat} (hx : x < 65537) : ((75 : Int32) * nI x + 74) - ((75 : Int32) * nI x + 74) / 65537 * 65537 = nI (a_nx1 x) := by
  rw [c_75, c_74, c_65537, pk_mul, nI_add, pk_rem (by omega) (by omega) (by omega)]; rfl
theorem dr_k {x : Nat} (hx : x < 65537) : nI x - nI x / 6 * 6 = nI (x % 6) := by
  rw [c_6, pk_rem (by omega) (by omega) (by omega)]
theorem dr_q {x : Nat} (hx : x < 65537) : nI x / 6 - nI x / 6 / 6 * 6 = nI (x / 6 % 6) := by
  rw [c_6, pk_div (by omega) (by omega) (by omega), pk_rem (Nat.lt_of_le_of_lt (Nat.div_le_self _ _) (by omega)) (by omega) (by omega)]
theorem dr_d {x : Nat} (hx : x < 65537) : nI x / 64 - nI x / 64 / 40 * 40 = nI (x / 64 % 40) := by
  rw [c_64, c_40, pk_div (by omega) (by omega) (by omega), pk_rem (Nat.lt_of_le_of_lt (Nat.div_le_self _ _) (by omega)) (by omega) (by omega)]
theorem nx1_lt {x : Nat} : a_nx1 x < 65537 := Nat.mod_lt _ (by omega)
section YR
variable {X : Cx} {w : Wd} {M N : Me} {g : St} {x a b j m : Nat}
theorem why_lt {k q m : Nat} : a_why X k q m w < 8 := by
  unfold a_why
  repeat' split
  all_goals omega
theorem whyB_lt {k : Nat} : a_whyB X k w < 8 := by
  have := act_3 (X := X) (w := w) (k := k)
  unfold a_whyB
  repeat' split
  all_goals omega
theorem hit_D {k q m : Nat} : (a_hit X k q m w).2.1 = w.2.1 := by
  unfold a_hit
  split <;> rfl
theorem whyB_t {k : Nat} (h : a_whyB X k w = 0) : X.1.testBit k = true := by
  unfold a_whyB at h
  split at h
  · rename_i q; exact absurd h q
  · rename_i q
    exact (act_al (Classical.not_not.mp q)).1.1
theorem ys_1 (h : a_why X (a_nx1 x % 6) (a_nx1 x / 6 % 6) 1 w = 0) : a_ys X (x, a, b, w) = (a_nx1 x, a + 1, b, a_pass (a_nx1 x / 64 % 40) (a_hit X (a_nx1 x % 6) (a_nx1 x / 6 % 6) 1 w)) := if_pos h
theorem ys_2 (h : ¬ a_why X (a_nx1 x % 6) (a_nx1 x / 6 % 6) 1 w = 0) (h2 : a_whyB X (a_nx1 x % 6) w = 0) : a_ys X (x, a, b, w) = (a_nx1 x, a, b + 1, a_pass (a_nx1 x / 64 % 40) (a_gb X (a_nx1 x % 6) 12 w)) := (if_neg h).trans (if_pos h2)
theorem ys_3 (h : ¬ a_why X (a_nx1 x % 6) (a_nx1 x / 6 % 6) 1 w = 0) (h2 : ¬ a_whyB X (a_nx1 x % 6) w = 0) : a_ys X (x, a, b, w) = (a_nx1 x, a, b, a_pass (a_nx1 x / 64 % 40) w) := (if_neg h).trans (if_neg h2)
theorem ys_WV (hW : WV X w) (hD : w.2.1 + 40 ≤ 4000000) : WV X (a_ys X (x, a, b, w)).2.2.2 ∧ (a_ys X (x, a, b, w)).2.2.2.2.1 ≤ w.2.1 + 40 ∧ (a_ys X (x, a, b, w)).1 < 65537 ∧ (a_ys X (x, a, b, w)).2.1 ≤ a + 1 ∧ (a_ys X (x, a, b, w)).2.2.1 ≤ b + 1 := by
  have d40 : a_nx1 x / 64 % 40 < 40 := Nat.mod_lt _ (by omega)
  have k6 : a_nx1 x % 6 < 6 := Nat.mod_lt _ (by omega)
  have q6 : a_nx1 x / 6 % 6 < 6 := Nat.mod_lt _ (by omega)
  by_cases h1 : a_why X (a_nx1 x % 6) (a_nx1 x / 6 % 6) 1 w = 0
  · rw [ys_1 h1]
    refine ⟨WV.pass (hW.hit k6 q6 (by omega) h1) (by rw [hit_D]; omega), ?_, nx1_lt, by dsimp only; omega, by dsimp only; omega⟩
    show (a_hit X _ _ 1 w).2.1 + _ ≤ _
    rw [hit_D]; omega
  · by_cases h2 : a_whyB X (a_nx1 x % 6) w = 0
    · rw [ys_2 h1 h2]
      refine ⟨WV.pass (WV.gb 12 w hW) (by rw [gb_D]; omega), ?_, nx1_lt, by dsimp only; omega, by dsimp only; omega⟩
      show (a_gb X _ 12 w).2.1 + _ ≤ _
      rw [gb_D]; omega
    · rw [ys_3 h1 h2]
      refine ⟨WV.pass hW (by omega), ?_, nx1_lt, by dsimp only; omega, by dsimp only; omega⟩
      show w.2.1 + _ ≤ _
      omega
theorem e_dstep (hX : XV X) (hW : WV X w) (hL : Lay N) (hB : CB X N 33 w) (h3 : me_i N 32 3 = nI a) (h4 : me_i N 32 4 = nI b) (hx : x < 65537) (hj : j < m) (hm : m < 100) :
    ∃ N2, s_X10_draw_24 32 (nI m) N (nI x) (nI j) = some (Sum.inl (N2, nI (a_ys X (x, a, b, w)).1, nI (j + 1))) ∧ Fh N N2 ∧ CB X N2 33 (a_ys X (x, a, b, w)).2.2.2 ∧ me_i N2 32 3 = nI (a_ys X (x, a, b, w)).2.1 ∧ me_i N2 32 4 = nI (a_ys X (x, a, b, w)).2.2.1 := by
  have d40 : a_nx1 x / 64 % 40 < 40 := Nat.mod_lt _ (by omega)
  have k6 : a_nx1 x % 6 < 6 := Nat.mod_lt _ (by omega)
  have q6 : a_nx1 x / 6 % 6 < 6 := Nat.mod_lt _ (by omega)
  have hx1 := nx1_lt (x := x)
  obtain ⟨N1, t1, f1, b1⟩ := e_tryStrike hX hW hB k6 q6 (show 1 ≤ 20 by omega)
  rw [← c_1] at t1
  have hL1 : Lay N1 := f1.fh.lay hL
  have wl := why_lt (X := X) (w := w) (k := a_nx1 x % 6) (q := a_nx1 x / 6 % 6) (m := 1)
  unfold s_X10_draw_24
  simp only [let_v]
  rw [if_neg (nI_ge hj (by omega)), dr_x hx, dr_k hx1, gr_e (lk_32 hL) (lr_32_0 hL), dr_q hx1, cI_e t1, dr_d hx1, i_eq0 (by omega), nI_1]
  by_cases h1 : a_why X (a_nx1 x % 6) (a_nx1 x / 6 % 6) 1 w = 0
  · rw [if_pos h1] at b1 ⊢
    rw [gi_e (lk_32 hL1), pi_e (lk_32 hL1), f1.2.2 _ _ (by omega), h3, nI_1]
    simp only [Option.bind_some]
    rw [gr_e (by exact lk_32 hL1) (by exact lr_32_0 hL1)]
    have b2 : CB X (me_si N1 32 3 (nI (a + 1))) 33 (a_hit X (a_nx1 x % 6) (a_nx1 x / 6 % 6) 1 w) := b1.out rfl (fun _ _ => rfl) (fun y z _ _ => by rw [i_si, if_neg (by omega)])
    obtain ⟨N2, p1, p2, p3⟩ := e_passDays (d := a_nx1 x / 64 % 40) (hW.hit k6 q6 (by omega) h1) b2 (by omega)
    rw [cM_e p1, ys_1 h1]
    refine ⟨N2, rfl, f1.fh.trans (Fh.si.trans p2.fh), p3, ?_, ?_⟩
    · rw [p2.2.2 _ _ (by omega), si_self]
    · rw [p2.2.2 _ _ (by omega), i_si, if_neg (by omega), f1.2.2 _ _ (by omega)]; exact h4
  · rw [if_neg h1] at b1 ⊢
    obtain ⟨N2, t2, f2, b2⟩ := e_tryBack hX hW b1 k6
    have hL2 : Lay N2 := f2.fh.lay hL1
    have wl2 := whyB_lt (X := X) (w := w) (k := a_nx1 x % 6)
    rw [gr_e (lk_32 hL1) (lr_32_0 hL1), cI_e t2, i_eq0 (by omega)]
    by_cases h2 : a_whyB X (a_nx1 x % 6) w = 0
    · rw [if_pos h2] at b2 ⊢
      rw [gi_e (lk_32 hL2), pi_e (lk_32 hL2), f2.2.2 _ _ (by omega), f1.2.2 _ _ (by omega), h4, nI_1]
      simp only [Option.bind_some]
      rw [gr_e (by exact lk_32 hL2) (by exact lr_32_0 hL2)]
      have b3 : CB X (me_si N2 32 4 (nI (b + 1))) 33 (a_gb X (a_nx1 x % 6) 12 w) := b2.out rfl (fun _ _ => rfl) (fun y z _ _ => by rw [i_si, if_neg (by omega)])
      obtain ⟨N3, p1, p2, p3⟩ := e_passDays (d := a_nx1 x / 64 % 40) (WV.gb 12 w hW) b3 (by omega)
      rw [cM_e p1, ys_2 h1 h2]
      refine ⟨N3, rfl, f1.fh.trans (f2.fh.trans (Fh.si.trans p2.fh)), p3, ?_, ?_⟩
      · rw [p2.2.2 _ _ (by omega), i_si, if_neg (by omega), f2.2.2 _ _ (by omega), f1.2.2 _ _ (by omega)]; exact h3
      · rw [p2.2.2 _ _ (by omega), si_self]
    · rw [if_neg h2] at b2 ⊢
      simp only [Option.bind_some]
      rw [gr_e (lk_32 hL2) (lr_32_0 hL2)]
      obtain ⟨N3, p1, p2, p3⟩ := e_passDays (d := a_nx1 x / 64 % 40) hW b2 (by omega)
      rw [cM_e p1, ys_3 h1 h2]
      refine ⟨N3, rfl, f1.fh.trans (f2.fh.trans p2.fh), p3, ?_, ?_⟩
      · rw [p2.2.2 _ _ (by omega), f2.2.2 _ _ (by omega), f1.2.2 _ _ (by omega)]; exact h3
      · rw [p2.2.2 _ _ (by omega), f2.2.2 _ _ (by omega), f1.2.2 _ _ (by omega)]; exact h4
theorem e_mdstep (hX : XV X) (hW : WV X w) (hL : Lay M) (hG : RG X g w) (hx : x < 65537) (hj : j < m) (hm : m < 100) (hD : w.2.1 + 40 ≤ 4000000) :
    ∃ h, s_X12_year_49 70 (nI m) (me_w M g) (nI x) (nI a) (nI b) (nI j) = some (Sum.inl (me_w M h, nI (a_ys X (x, a, b, w)).1, nI (a_ys X (x, a, b, w)).2.1, nI (a_ys X (x, a, b, w)).2.2.1, nI (j + 1))) ∧ Fg g h ∧ RG X h (a_ys X (x, a, b, w)).2.2.2 := by
  have d40 : a_nx1 x / 64 % 40 < 40 := Nat.mod_lt _ (by omega)
  have k6 : a_nx1 x % 6 < 6 := Nat.mod_lt _ (by omega)
  have q6 : a_nx1 x / 6 % 6 < 6 := Nat.mod_lt _ (by omega)
  have hx1 := nx1_lt (x := x)
  have t1 := e_mwhyS hX hW hL hG k6 q6 (show 1 ≤ 20 by omega)
  rw [← c_1] at t1
  have wl := why_lt (X := X) (w := w) (k := a_nx1 x % 6) (q := a_nx1 x / 6 % 6) (m := 1)
  unfold s_X12_year_49
  simp only [let_v]
  rw [if_neg (nI_ge hj (by omega)), dr_x hx, dr_k hx1, dr_q hx1, cP_e t1, dr_d hx1, i_eq0 (by omega)]
  by_cases h1 : a_why X (a_nx1 x % 6) (a_nx1 x / 6 % 6) 1 w = 0
  · obtain ⟨u, r1, r2, r3⟩ := e_mhit hX hW hL hG q6 (show 1 ≤ 20 by omega) h1
    rw [← c_1] at r1
    rw [if_pos h1, cM_e r1]
    simp only [Option.bind_some]
    obtain ⟨u2, p1, p2, p3⟩ := e_mpass (d := a_nx1 x / 64 % 40) hX (hW.hit k6 q6 (by omega) h1) hL r3 (by omega) (by rw [hit_D]; omega)
    rw [cM_e p1, nI_1, nI_1, ys_1 h1]
    exact ⟨u2, rfl, r2.trans p2, p3⟩
  · rw [if_neg h1, cP_e (e_mwhyB hX hW hL hG k6)]
    have wl2 := whyB_lt (X := X) (w := w) (k := a_nx1 x % 6)
    rw [i_eq0 (by omega)]
    by_cases h2 : a_whyB X (a_nx1 x % 6) w = 0
    · obtain ⟨u, r1, r2, r3⟩ := e_mgb hX hW hL hG k6 (whyB_t h2)
      rw [if_pos h2, cM_e r1]
      simp only [Option.bind_some]
      obtain ⟨u2, p1, p2, p3⟩ := e_mpass (d := a_nx1 x / 64 % 40) hX (WV.gb 12 w hW) hL r3 (by omega) (by rw [gb_D]; omega)
      rw [cM_e p1, nI_1, nI_1, ys_2 h1 h2]
      exact ⟨u2, rfl, r2.trans p2, p3⟩
    · rw [if_neg h2]
      simp only [Option.bind_some]
      obtain ⟨u2, p1, p2, p3⟩ := e_mpass (d := a_nx1 x / 64 % 40) hX hW hL hG (by omega) (by omega)
      rw [cM_e p1, nI_1, ys_3 h1 h2]
      exact ⟨u2, rfl, p2, p3⟩
theorem yr_WV {x0 D : Nat} {w0 : Wd} (hx : x0 < 65537) (hW : WV X w0) (hD0 : w0.2.1 ≤ D) (hD : D + 4000 ≤ 4000000) : ∀ j, j ≤ 100 → WV X (a_yr X x0 w0 j).2.2.2 ∧ (a_yr X x0 w0 j).2.2.2.2.1 ≤ D + 40 * j ∧ (a_yr X x0 w0 j).1 < 65537 ∧ (a_yr X x0 w0 j).2.1 ≤ j ∧ (a_yr X x0 w0 j).2.2.1 ≤ j := by
  intro j
  induction j with
  | zero => intro _; exact ⟨hW, by show w0.2.1 ≤ _; omega, hx, Nat.le_refl _, Nat.le_refl _⟩
  | succ j ih =>
    intro hj
    obtain ⟨i1, i2, i3, i4, i5⟩ := ih (by omega)
    have h := ys_WV (x := (a_yr X x0 w0 j).1) (a := (a_yr X x0 w0 j).2.1) (b := (a_yr X x0 w0 j).2.2.1) i1 (by omega)
    obtain ⟨s1, s2, s3, s4, s5⟩ := h
    refine ⟨s1, ?_, s3, ?_, ?_⟩
    · show (a_ys X (a_yr X x0 w0 j)).2.2.2.2.1 ≤ _
      have : (a_ys X (a_yr X x0 w0 j)).2.2.2.2.1 ≤ (a_yr X x0 w0 j).2.2.2.2.1 + 40 := s2
      omega
    · show (a_ys X (a_yr X x0 w0 j)).2.1 ≤ _
      have : (a_ys X (a_yr X x0 w0 j)).2.1 ≤ (a_yr X x0 w0 j).2.1 + 1 := s4
      omega
    · show (a_ys X (a_yr X x0 w0 j)).2.2.1 ≤ _
      have : (a_ys X (a_yr X x0 w0 j)).2.2.1 ≤ (a_yr X x0 w0 j).2.2.1 + 1 := s5
      omega
/-! the sums -/
def a_sm (X : Cx) (w : Wd) : Nat → Int32
  | 0 => 0
  | k + 1 => a_sm X w k + if X.1.testBit k = true then w.2.2.2 k else 0
def a_dd (X : Cx) (w : Wd) : Nat → Nat
  | 0 => 0
  | k + 1 => a_dd X w k + if X.1.testBit k = true ∧ w.2.2.1 k 3 = 0 then 1 else 0
theorem e_sumHonour (hB : CB X N 33 w) : f_X0_sumHonour 33 N = some (a_sm X w 6) := by
  have hCL := hB.CL
  have hK := hB.K
  unfold f_X0_sumHonour b_X0_sumHonour
  rw [q_ck hCL]
  have h := lp_up (step := fun s : Int32 × Int32 => s_X0_sumHonour_4 33 N s.1 s.2) (fun k => (a_sm X w k, nI k)) 6 (a_sm X w 6, nI 6) ?_ ?_ 0 (by decide)
  · rw [show ((0 : Int32), (0 : Int32)) = (a_sm X w 0, nI 0) by rw [nI_0]; rfl, h]; rfl
  · intro k hk
    show s_X0_sumHonour_4 33 N (a_sm X w k) (nI k) = _
    unfold s_X0_sumHonour_4
    simp only [let_v]
    rw [c_6, if_neg (nI_ge hk (by omega)), q_c1 hCL, q_kn hCL hk, q_gi4 hCL hk, (hK k hk).1, q_c1 hCL, q_kn hCL hk, q_gi4 hCL hk, nI_1]
    by_cases hb : X.1.testBit k = true
    · rw [if_pos hb, if_neg (by decide), ((hK k hk).2 hb).2.2.2.1]
      show _ = some (Sum.inl (a_sm X w k + _, _))
      rw [if_pos hb]; rfl
    · rw [if_neg hb, if_pos rfl]
      show _ = some (Sum.inl (a_sm X w k + _, _))
      rw [if_neg hb]; rfl
  · show s_X0_sumHonour_4 33 N (a_sm X w 6) (nI 6) = _
    unfold s_X0_sumHonour_4
    rw [c_6, if_pos (nI_le (Nat.le_refl _) (by omega))]
theorem dd_le : ∀ k, a_dd X w k ≤ k := by
  intro k
  induction k with
  | zero => exact Nat.le_refl _
  | succ k ih =>
    show a_dd X w k + _ ≤ _
    split <;> omega
theorem e_countDead (hW : WV X w) (hB : CB X N 33 w) : f_X0_countDead 33 N = some (nI (a_dd X w 6)) := by
  have hCL := hB.CL
  have hK := hB.K
  unfold f_X0_countDead b_X0_countDead
  rw [q_ck hCL]
  have h := lp_up (step := fun s : Int32 × Int32 => s_X0_countDead_4 33 N s.1 s.2) (fun k => (nI (a_dd X w k), nI k)) 6 (nI (a_dd X w 6), nI 6) ?_ ?_ 0 (by decide)
  · rw [show ((0 : Int32), (0 : Int32)) = (nI (a_dd X w 0), nI 0) by rw [nI_0]; rfl, h]; rfl
  · intro k hk
    show s_X0_countDead_4 33 N (nI (a_dd X w k)) (nI k) = _
    unfold s_X0_countDead_4
    simp only [let_v]
    rw [c_6, if_neg (nI_ge hk (by omega)), q_c1 hCL, q_kn hCL hk, nI_1]
    by_cases hb : X.1.testBit k = true
    · have hb3 := (hW.2.2.1 k hk hb).1
      rw [cP_e (hK.dead hCL hk hb hb3)]
      by_cases h0 : w.2.2.1 k 3 = 0
      · rw [if_pos h0, if_neg (by decide)]
        simp only [Option.bind_some]
        show _ = some (Sum.inl (nI (a_dd X w k + _), _))
        rw [if_pos ⟨hb, h0⟩, nI_1]
      · rw [if_neg h0, if_pos rfl]
        simp only [Option.bind_some]
        show _ = some (Sum.inl (nI (a_dd X w k + _), _))
        rw [if_neg (fun q => h0 q.2), c_0, nI_add]
    · have e : f_X4_isDead (33 + 22 + k) N = some 0 := by
        unfold f_X4_isDead b_X4_isDead
        rw [q_ck4 hCL hk, q_gi4 hCL hk, (hK k hk).1, if_neg hb, if_pos rfl]; rfl
      rw [cP_e e, if_pos rfl]
      simp only [Option.bind_some]
      show _ = some (Sum.inl (nI (a_dd X w k + _), _))
      rw [if_neg (fun q => hb q.1), c_0, nI_add]
  · show s_X0_countDead_4 33 N (nI (a_dd X w 6)) (nI 6) = _
    unfold s_X0_countDead_4
    rw [c_6, if_pos (nI_le (Nat.le_refl _) (by omega))]
theorem e_msums {e : Me × Int32 × Int32 × Int32 × Int32} (hX : XV X) (hW : WV X w) (hL : Lay M) (hG : RG X g w) (he : e.1 = me_w M g) : lp (fun s : Int32 × Int32 × Int32 => s_X12_year_161 70 e s.1 s.2.1 s.2.2) ((10000 : Int32), (0 : Int32), (0 : Int32)) = some (10000 + a_sm X w 6, nI (a_dd X w 6), nI 6) := by
  have hL2 : Lay (me_w M g) := hL
  have h := lp_up (step := fun s : Int32 × Int32 × Int32 => s_X12_year_161 70 e s.1 s.2.1 s.2.2) (fun k => (10000 + a_sm X w k, nI (a_dd X w k), nI k)) 6 (10000 + a_sm X w 6, nI (a_dd X w 6), nI 6) ?_ ?_ 0 (by decide)
  · rw [← h]
    show _ = lp _ (10000 + (0 : Int32), nI 0, nI 0)
    rw [nI_0, Int32.add_zero]
  · intro k hk
    show s_X12_year_161 70 e (10000 + a_sm X w k) (nI (a_dd X w k)) (nI k) = _
    unfold s_X12_year_161
    simp only [let_v]
    have h3 : me_i (me_w M g) 70 3 = nI X.1 := hG.1.2.1
    rw [he, c_6, if_neg (nI_ge hk (by omega)), m_gi hL2, h3, cP_e (e_has hX.1 hk)]
    by_cases hb : X.1.testBit k = true
    · obtain ⟨r1, r2, r3, r4⟩ := hG.2.2.1 k hk hb
      have hb3 := (hW.2.2.1 k hk hb).1
      rw [if_pos hb, if_neg (by decide), m_gr21 hL2, m_li84 hL2 hk]
      simp only [Option.bind_some]
      rw [m_gi hL2, h3, cP_e (e_has hX.1 hk), if_pos hb, if_neg (by decide), m_gr20 hL2, m_li83 hL2 hk, show me_i (me_w M g) 83 k = nI (w.2.2.1 k 3) from r3, show me_i (me_w M g) 84 k = w.2.2.2 k from r4, i_eq0 (by omega), nI_1]
      by_cases h0 : w.2.2.1 k 3 = 0
      · rw [if_pos h0]
        simp only [Option.bind_some]
        show _ = some (Sum.inl (10000 + (a_sm X w k + _), nI (a_dd X w k + _), _))
        rw [if_pos hb, if_pos ⟨hb, h0⟩, nI_1, Int32.add_assoc]
      · rw [if_neg h0]
        simp only [Option.bind_some]
        show _ = some (Sum.inl (10000 + (a_sm X w k + _), nI (a_dd X w k + _), _))
        rw [if_pos hb, if_neg (fun q => h0 q.2), c_0, nI_add, Int32.add_assoc]
    · rw [if_neg hb, if_pos rfl]
      simp only [Option.bind_some]
      rw [m_gi hL2, h3, cP_e (e_has hX.1 hk), if_neg hb, if_pos rfl, nI_1]
      simp only [Option.bind_some]
      show _ = some (Sum.inl (10000 + (a_sm X w k + _), nI (a_dd X w k + _), _))
      rw [if_neg hb, if_neg (fun q => hb q.1), Int32.add_zero, Int32.add_zero, Int32.add_zero]
      rfl
  · show s_X12_year_161 70 e (10000 + a_sm X w 6) (nI (a_dd X w 6)) (nI 6) = _
    unfold s_X12_year_161
    rw [c_6, if_pos (nI_le (Nat.le_refl _) (by omega))]
end YR
theorem iv_op26 : ∀ n M, n < 512 → Iv n M → op_26 (Iv (n + 1)) M := by
  intro n M hn h x1 x2 x3
  obtain ⟨hL, hlen, ⟨hCL, π, hCP, c0, y, t, D, nd, sg, hV, hR⟩, hJ, hP, hI⟩ := id h
  by_cases h1 : in_v x1 0 9999 = 0
  · refine ⟨-2, M, M, ?_, ?_, h.next hn⟩
    · unfold f_X11_year b_X11_year
      rw [ck_e (lk_0 hL), cP_e (e_isWithin _ _ _ _), if_pos h1]
    · unfold f_X12_year b_X12_year
      rw [ck_e (lk_70 hL), cP_e (e_in _ _ _ _), if_pos h1]
  by_cases h2 : in_v x2 1 99 = 0
  · refine ⟨-2, M, M, ?_, ?_, h.next hn⟩
    · unfold f_X11_year b_X11_year
      rw [ck_e (lk_0 hL), cP_e (e_isWithin _ _ _ _), if_neg h1, cP_e (e_isWithin _ _ _ _), if_pos h2]
    · unfold f_X12_year b_X12_year
      rw [ck_e (lk_70 hL), cP_e (e_in _ _ _ _), if_neg h1, cP_e (e_in _ _ _ _), if_pos h2]
  by_cases h3 : in_v x3 0 3 = 0
  · refine ⟨-2, M, M, ?_, ?_, h.next hn⟩
    · unfold f_X11_year b_X11_year
      rw [ck_e (lk_0 hL), cP_e (e_isWithin _ _ _ _), if_neg h1, cP_e (e_isWithin _ _ _ _), if_neg h2, cP_e (e_isWithin _ _ _ _), if_pos h3]
    · unfold f_X12_year b_X12_year
      rw [ck_e (lk_70 hL), cP_e (e_in _ _ _ _), if_neg h1, cP_e (e_in _ _ _ _), if_neg h2, cP_e (e_in _ _ _ _), if_pos h3]
  have h1b := h1
  have h2b := h2
  rw [c_0, c_9999] at h1b
  rw [c_1, c_99] at h2b
  obtain ⟨x0, -, hx0, rfl⟩ := in_yes (by decide) (by decide) h1b
  obtain ⟨m, hm1, hm, rfl⟩ := in_yes (by decide) (by decide) h2b
  have hX := val_X hV
  have hW := val_W hV (by omega)
  have hD := hV.1.2.2.2.1.2
  have hY := yr_WV (X := x_of (st_m M) t y c0) (x0 := x0) (D := D) (by omega) hW (by show D ≤ D; omega) (by omega)
  -- the class
  obtain ⟨g, π2, e1, f1, hJ2, f3⟩ := e_copy33 hL hCL hCP hJ hV hR
  have hLg : Lay (me_w M g) := la_w hL
  have hB : CB (x_of (st_m M) t y c0) (me_w M g) 33 (w_of (st_m M) D nd) := val_CB hV (by omega) (cl33 hLg) hJ2 f3
  have hcl := lp_cnt (step := fun s : Me × Int32 × Int32 => s_X10_draw_24 32 (nI m) s.1 s.2.1 s.2.2) m
    (fun j s => ∃ N, s = (N, nI (a_yr (x_of (st_m M) t y c0) x0 (w_of (st_m M) D nd) j).1, nI j) ∧ Fh (me_si (me_si (me_w M g) 32 3 0) 32 4 0) N ∧ CB (x_of (st_m M) t y c0) N 33 (a_yr (x_of (st_m M) t y c0) x0 (w_of (st_m M) D nd) j).2.2.2 ∧ me_i N 32 3 = nI (a_yr (x_of (st_m M) t y c0) x0 (w_of (st_m M) D nd) j).2.1 ∧ me_i N 32 4 = nI (a_yr (x_of (st_m M) t y c0) x0 (w_of (st_m M) D nd) j).2.2.1)
    (fun s => ∃ N, s = (N, nI (a_yr (x_of (st_m M) t y c0) x0 (w_of (st_m M) D nd) m).1, nI m) ∧ Fh (me_si (me_si (me_w M g) 32 3 0) 32 4 0) N ∧ CB (x_of (st_m M) t y c0) N 33 (a_yr (x_of (st_m M) t y c0) x0 (w_of (st_m M) D nd) m).2.2.2 ∧ me_i N 32 3 = nI (a_yr (x_of (st_m M) t y c0) x0 (w_of (st_m M) D nd) m).2.1 ∧ me_i N 32 4 = nI (a_yr (x_of (st_m M) t y c0) x0 (w_of (st_m M) D nd) m).2.2.1)
    ?_ ?_ (me_si (me_si (me_w M g) 32 3 0) 32 4 0, nI x0, 0) ⟨_, by rw [nI_0]; rfl, Fh.refl, hB.out rfl (fun _ _ => rfl) (fun a k _ _ => by rw [i_si, if_neg (by omega), i_si, if_neg (by omega)]), by rw [i_si, if_neg (by omega), si_self]; exact nI_0.symm, by rw [si_self]; exact nI_0.symm⟩
  rotate_left
  · rintro j s hj ⟨N, rfl, i1, i2, i3, i4⟩
    obtain ⟨y1, y2, y3, y4, y5⟩ := hY j (by omega)
    obtain ⟨N2, s1, s2, s3, s4, s5⟩ := e_dstep hX y1 (i1.lay hLg) i2 i3 i4 y3 hj (by omega)
    exact ⟨_, s1, N2, rfl, i1.trans s2, s3, s4, s5⟩
  · rintro s ⟨N, rfl, i1, i2, i3, i4⟩
    refine ⟨_, ?_, N, rfl, i1, i2, i3, i4⟩
    show s_X10_draw_24 32 (nI m) N _ (nI m) = _
    unfold s_X10_draw_24
    rw [if_pos (nI_le (Nat.le_refl _) (by omega))]
  obtain ⟨sx, l1, N, rfl, l2, l3, l4, l5⟩ := hcl
  have hLN : Lay N := l2.lay hLg
  have hFk : Fk M N := ⟨l2.1, l2.2.1, fun a k q => by rw [l2.2.2 a k (by omega), i_si, if_neg (by omega), i_si, if_neg (by omega)]; exact f1 a k (by omega)⟩
  have eD : f_X10_draw 32 3 (nI x0) (nI m) M = some N := by
    unfold f_X10_draw b_X10_draw
    rw [ck_e (lk_32 hL), gr_e (lk_32 hL) (lr_32_0 hL), cM_e e1, pi_e (by exact lk_32 hL), pi_e (by exact lk_32 hL), l1]
    rfl
  -- the reference
  have hs : ∀ a k, 70 ≤ a → me_i N a k = me_i M a k := fun a k q => hFk.2.2 a k (by omega)
  have hV2 : Val n (st_m N) c0 y t D nd sg := hV.same (fun k _ => hs _ _ (by omega)) (fun a k q _ => hs _ _ (by omega))
  have ex : x_of (st_m N) t y c0 = x_of (st_m M) t y c0 := x_same (fun a k q _ => hs _ _ (by omega))
  have ew : w_of (st_m N) D nd = w_of (st_m M) D nd := w_same (fun a k q _ => hs _ _ (by omega))
  have hG := val_RG hV2 (by omega)
  rw [ex, ew] at hG
  have hml := lp_cnt (step := fun s : Me × Int32 × Int32 × Int32 × Int32 => s_X12_year_49 70 (nI m) s.1 s.2.1 s.2.2.1 s.2.2.2.1 s.2.2.2.2) m
    (fun j s => ∃ u, s = (me_w N u, nI (a_yr (x_of (st_m M) t y c0) x0 (w_of (st_m M) D nd) j).1, nI (a_yr (x_of (st_m M) t y c0) x0 (w_of (st_m M) D nd) j).2.1, nI (a_yr (x_of (st_m M) t y c0) x0 (w_of (st_m M) D nd) j).2.2.1, nI j) ∧ Fg (g_now N) u ∧ RG (x_of (st_m M) t y c0) u (a_yr (x_of (st_m M) t y c0) x0 (w_of (st_m M) D nd) j).2.2.2)
    (fun s => ∃ u, s = (me_w N u, nI (a_yr (x_of (st_m M) t y c0) x0 (w_of (st_m M) D nd) m).1, nI (a_yr (x_of (st_m M) t y c0) x0 (w_of (st_m M) D nd) m).2.1, nI (a_yr (x_of (st_m M) t y c0) x0 (w_of (st_m M) D nd) m).2.2.1, nI m) ∧ Fg (g_now N) u ∧ RG (x_of (st_m M) t y c0) u (a_yr (x_of (st_m M) t y c0) x0 (w_of (st_m M) D nd) m).2.2.2)
    ?_ ?_ (me_w N (g_now N), nI x0, 0, 0, 0) ⟨g_now N, by rw [← nI_0]; rfl, Fg.refl, hG⟩
  rotate_left
  · rintro j s hj ⟨u, rfl, i1, i2⟩
    obtain ⟨y1, y2, y3, y4, y5⟩ := hY j (by omega)
    obtain ⟨u2, s1, s2, s3⟩ := e_mdstep (a := (a_yr (x_of (st_m M) t y c0) x0 (w_of (st_m M) D nd) j).2.1) (b := (a_yr (x_of (st_m M) t y c0) x0 (w_of (st_m M) D nd) j).2.2.1) hX y1 hLN i2 y3 hj (by omega) (by omega)
    exact ⟨_, s1, u2, rfl, i1.trans s2, s3⟩
  · rintro s ⟨u, rfl, i1, i2⟩
    refine ⟨_, ?_, u, rfl, i1, i2⟩
    show s_X12_year_49 70 (nI m) (me_w N u) _ _ _ (nI m) = _
    unfold s_X12_year_49
    rw [if_pos (nI_le (Nat.le_refl _) (by omega))]
  obtain ⟨sx, k1, u, rfl, k2, k3⟩ := hml
  obtain ⟨y1, y2, y3, y4, y5⟩ := hY m (by omega)
  have k4 := e_msums (e := (me_w N u, nI (a_yr (x_of (st_m M) t y c0) x0 (w_of (st_m M) D nd) m).1, nI (a_yr (x_of (st_m M) t y c0) x0 (w_of (st_m M) D nd) m).2.1, nI (a_yr (x_of (st_m M) t y c0) x0 (w_of (st_m M) D nd) m).2.2.1, nI m)) hX y1 hLN k3 rfl
  refine ⟨if x3 = 0 then nI (a_yr (x_of (st_m M) t y c0) x0 (w_of (st_m M) D nd) m).2.1 else if x3 = 1 then nI (a_yr (x_of (st_m M) t y c0) x0 (w_of (st_m M) D nd) m).2.2.1 else if x3 = 2 then 10000 + a_sm (x_of (st_m M) t y c0) (a_yr (x_of (st_m M) t y c0) x0 (w_of (st_m M) D nd) m).2.2.2 6 else nI (a_dd (x_of (st_m M) t y c0) (a_yr (x_of (st_m M) t y c0) x0 (w_of (st_m M) D nd) m).2.2.2 6), N, me_w N u, ?_, ?_, iv_heard hn h hFk l3.cp (fun a k q1 q2 => by rw [k2 a k q1 (by omega), gn_o q1 (by omega)])⟩
  · unfold f_X11_year b_X11_year
    rw [ck_e (lk_0 hL), cP_e (e_isWithin _ _ _ _), if_neg h1, cP_e (e_isWithin _ _ _ _), if_neg h2, cP_e (e_isWithin _ _ _ _), if_neg h3, gr_e (lk_0 hL) (lr_0_3 hL), gr_e (lk_0 hL) (lr_0_1 hL), cM_e eD]
    by_cases q0 : x3 = 0
    · rw [if_pos q0, if_pos q0, gr_e (lk_0 hLN) (lr_0_3 hLN), gi_e (lk_32 hLN), l4]
    rw [if_neg q0, if_neg q0]
    by_cases q1 : x3 = 1
    · rw [if_pos q1, if_pos q1, gr_e (lk_0 hLN) (lr_0_3 hLN), gi_e (lk_32 hLN), l5]
    rw [if_neg q1, if_neg q1]
    by_cases q2 : x3 = 2
    · rw [if_pos q2, if_pos q2, gr_e (lk_0 hLN) (lr_0_3 hLN), gr_e (lk_32 hLN) (lr_32_0 hLN), cP_e (e_sumHonour l3), Int32.add_comm]
    · rw [if_neg q2, if_neg q2, gr_e (lk_0 hLN) (lr_0_3 hLN), gr_e (lk_32 hLN) (lr_32_0 hLN), cP_e (e_countDead y1 l3)]
  · unfold f_X12_year b_X12_year
    rw [ck_e (lk_70 hLN), cP_e (e_in _ _ _ _), if_neg h1, cP_e (e_in _ _ _ _), if_neg h2, cP_e (e_in _ _ _ _), if_neg h3, cM_e (e_asNow hLN), k1]
    simp only [Option.bind_some]
    rw [k4]
    simp only [Option.bind_some]
    by_cases q0 : x3 = 0
    · rw [if_pos q0, if_pos q0]; rfl
    rw [if_neg q0, if_neg q0]
    by_cases q1 : x3 = 1
    · rw [if_pos q1, if_pos q1]; rfl
    rw [if_neg q1, if_neg q1]
    by_cases q2 : x3 = 2
    · rw [if_pos q2, if_pos q2]; rfl
    · rw [if_neg q2, if_neg q2]; rfl

/-! rounds, by the class -/
def jrow (w : Wd) (i : Nat) : Rw := (w.1[i]?).getD (0, 0, 0, 0)
def jA (X : Cx) (w : Wd) (k : Nat) : Nat → Bool := mt X w k (d0 X w k)
def jB (X : Cx) (w : Wd) (k : Nat) (i j : Nat) : Bool := mt X w k (d1 X (jrow w i)) j
def jQ (X : Cx) (w : Wd) (k : Nat) : Nat → Bool := mt X w k (fun _ => 0)
theorem mt_Q {X : Cx} {w : Wd} {k m : Nat} {F : Nat → Nat} (h : mt X w k F m = true) : jQ X w k m = true := by
  cases q : w.1[m]? with
  | none =>
    have : mt X w k F m = false := by unfold mt; rw [q]
    rw [this] at h; cases h
  | some r =>
    rw [mt_s q] at h
    show mt X w k (fun _ => 0) m = true
    rw [mt_s q]
    exact decide_eq_true ⟨(of_decide_eq_true h).1, Nat.zero_le _⟩
theorem jQ_lt {X : Cx} {w : Wd} {k m : Nat} (h : jQ X w k m = true) : m < w.1.length := by
  apply Classical.byContradiction
  intro z
  have : jQ X w k m = false := mt_n (by omega)
  rw [this] at h; cases h
theorem jpm_Q {X : Cx} {w : Wd} {k i : Nat} : ∀ j, 0 < jpm (jA X w k) (jB X w k) j i → jQ X w k i = true := by
  intro j
  induction j with
  | zero =>
    intro h
    apply Classical.byContradiction
    intro z
    have : jpm (jA X w k) (jB X w k) 0 i = 0 := if_neg (fun y => z (mt_Q y))
    omega
  | succ j ih =>
    intro h
    rw [jpm_s] at h
    by_cases c : j < i ∧ 0 < jpm (jA X w k) (jB X w k) j j ∧ jB X w k j i = true
    · exact mt_Q c.2.2
    · rw [if_neg c] at h; exact ih h
theorem bit_32 {x i : Nat} (hx : x < 2 ^ 31) (hi : i < 12) : ((nI x >>> (nI i &&& 31)) &&& 1) = if x.testBit i = true then (1 : Int32) else 0 := by
  have hs : ((nI i &&& 31).toBitVec.smod 32).toNat = i := by
    have : ∀ k, k < 12 → ((nI k &&& 31).toBitVec.smod 32).toNat = k := by decide +kernel
    exact this i hi
  have hm : x / 2 ^ i % 2 < 2 := Nat.mod_lt _ (by omega)
  rw [pk_shrN hx _ i hs, pk_andN (Nat.lt_of_le_of_lt (Nat.div_le_self _ _) (by omega)) 1 (by decide +kernel), Nat.pow_one, Nat.testBit_eq_decide_div_mod_eq]
  by_cases q : x / 2 ^ i % 2 = 1
  · rw [if_pos (decide_eq_true q), q]; rfl
  · rw [if_neg (fun z => q (of_decide_eq_true z)), show x / 2 ^ i % 2 = 0 by omega, nI_0]
theorem ab_31 {P : Nat → Bool} : ab P 12 < 2 ^ 31 := Nat.lt_of_lt_of_le (ab_lt 12) (by decide)
section RC2
variable {X : Cx} {w : Wd} {M : Me} {k : Nat}
theorem e_goOn {i : Nat} (hX : XV X) (hW : WV X w) (hL : Lay M) (hB : CB X M 3 w) (hi : i < w.1.length) : ∃ g, f_X3_goOnFrom 61 3 (nI i) M = some (me_w M g) ∧ (∀ a z, a ≠ 63 → g a z = me_i M a z) ∧ ∀ v, v < 5 → g 63 v = nI (d1 X (jrow w i) v) := by
  obtain ⟨π, c1, c2, c3, c4⟩ := hB.rd
  have hC := hB.CL
  have hg : w.1[i]? = some w.1[i] := List.getElem?_eq_getElem hi
  have er : jrow w i = w.1[i] := by unfold jrow; rw [hg]; rfl
  obtain ⟨p1, r0, r1, r2, r3⟩ := c4 i _ hg
  have hm := List.getElem_mem hi
  obtain ⟨b0, b1, -, b3⟩ := hW.rb hX _ hm
  obtain ⟨u1, u2, u3, u4, u5, u6, u7, u8, u9⟩ := hW.2.2.2.1 _ hm
  have xo := (hX.2.2.2.1 _ u2 u5).2.2
  have xy := hX.2.1
  have wD := hW.2.1
  obtain ⟨g, e1, e2, e3⟩ := e_fillF (A := 63) (hB.lc hX hL) (by omega) xo (show w.1[i].2.2.2 ≤ 5000000 by omega)
  refine ⟨g, ?_, e2, by rw [er]; exact e3⟩
  have ev : cv w.1.length (nI i) = 1 := by
    unfold cv
    rw [if_neg (nI_pos (by omega)), if_neg (nI_ge hi (by omega))]
  unfold f_X3_goOnFrom b_X3_goOnFrom
  rw [ck_e (lk_61 hL), q_c2 hC, cP_e (e_dhas (by exact lk_7 hL) (by exact c2) c3), ev, if_neg (by decide), q_c2 hC, q_d1 hC, q_row hC c1 (by omega), q_c0 hC, q_gi1 hC p1, r1, q_knt hC b1, q_gi4 hC b1, ((hB.K _ u2).2 u5).1, q_gi1 hC p1, r3, gr_e (lk_61 hL) (lr_61_1 hL), cM_e e1]
  rfl
theorem jrow_mem {i : Nat} (hi : i < w.1.length) : jrow w i ∈ w.1 := by
  have hg : w.1[i]? = some w.1[i] := List.getElem?_eq_getElem hi
  unfold jrow
  rw [hg]
  exact List.getElem_mem hi
theorem e_length {i : Nat} {g : St} (hX : XV X) (hW : WV X w) (hL : Lay M) (hB : CB X M 3 w) (hk : k < 6) (hi : i < w.1.length) (hpos : 0 < jpm (jA X w k) (jB X w k) i i) (g1 : ∀ a z, ¬ (62 ≤ a ∧ a ≤ 64) → g a z = me_i M a z) (g2 : ∀ m, m < 12 → g 64 m = nI (jpm (jA X w k) (jB X w k) i m)) : ∃ g', f_X3_lengthen 61 3 (nI k) (nI i) (me_w M g) = some (me_w M g') ∧ (∀ a z, ¬ (62 ≤ a ∧ a ≤ 64) → g' a z = me_i M a z) ∧ ∀ m, m < 12 → g' 64 m = nI (jpm (jA X w k) (jB X w k) (i + 1) m) := by
  have h12 := hW.1
  have hLg : Lay (me_w M g) := hL
  have hBg : CB X (me_w M g) 3 w := hB.out rfl (fun _ _ => rfl) (fun a z _ _ => g1 a z (by omega))
  obtain ⟨u, e1, e2, e3⟩ := e_goOn hX hW hLg hBg hi
  simp only [i_w] at e2
  have bd := d1_bd hX hW (jrow_mem hi)
  have hlp := lp_cnt (step := fun s : Me × Int32 => s_X3_lengthen_11 61 3 (nI k) (nI i) s.1 s.2) (12 - (i + 1))
    (fun t s => ∃ g, s = (me_w M g, nI (i + 1 + t)) ∧ (∀ a z, a ≠ 64 → g a z = u a z) ∧ ∀ m, m < 12 → g 64 m = nI (if m < i + 1 + t then jpm (jA X w k) (jB X w k) (i + 1) m else jpm (jA X w k) (jB X w k) i m))
    (fun s => ∃ g, s = (me_w M g, nI 12) ∧ (∀ a z, a ≠ 64 → g a z = u a z) ∧ ∀ m, m < 12 → g 64 m = nI (jpm (jA X w k) (jB X w k) (i + 1) m))
    ?_ ?_ (me_w M u, nI (i + 1)) ⟨u, rfl, fun _ _ _ => rfl, fun m hm => by
      rw [e2 _ _ (by omega), g2 m hm]
      by_cases q : m < i + 1 + 0
      · rw [if_pos q, jpm_s, if_neg (by omega)]
      · rw [if_neg q]⟩
  · obtain ⟨x, hx, g', rfl, a1, a2⟩ := hlp
    refine ⟨g', ?_, fun a z q => by rw [a1 _ _ (by omega), e2 _ _ (by omega)]; exact g1 a z q, a2⟩
    unfold f_X3_lengthen b_X3_lengthen
    simp only [let_v]
    rw [ck_e (lk_61 hLg), cM_e e1, nI_1, w_w, hx]; rfl
  · rintro t s ht ⟨g', rfl, a1, a2⟩
    have hL2 : Lay (me_w M g') := hL
    have hB2 : CB X (me_w M g') 3 w := hB.out rfl (fun _ _ => rfl) (fun a z q1 q2 => by rw [i_w, a1 _ _ (by omega), e2 _ _ (by omega)]; exact g1 _ _ (by omega))
    have hF : ∀ v, v < 5 → me_i (me_w M g') 63 v = nI (d1 X (jrow w i) v) := fun v hv => by rw [i_w, a1 _ _ (by omega)]; exact e3 v hv
    have em := e_isMet (A := 63) hX hW hL2 hB2 (lk_63 hL2) hF bd hk (show i + 1 + t < 12 by omega)
    have ej : g' 64 (i + 1 + t) = nI (jpm (jA X w k) (jB X w k) i (i + 1 + t)) := by rw [a2 _ (by omega), if_neg (by omega)]
    have ei : g' 64 i = nI (jpm (jA X w k) (jB X w k) i i) := by rw [a2 _ (by omega), if_pos (by omega), jpm_s, if_neg (by omega)]
    have l1 := jpm_le (A := jA X w k) (B := jB X w k) i i
    have l2 := jpm_le (A := jA X w k) (B := jB X w k) i (i + 1 + t)
    have nxt : ∀ m, m < 12 → m ≠ i + 1 + t → (if m < i + 1 + (t + 1) then jpm (jA X w k) (jB X w k) (i + 1) m else jpm (jA X w k) (jB X w k) i m) = (if m < i + 1 + t then jpm (jA X w k) (jB X w k) (i + 1) m else jpm (jA X w k) (jB X w k) i m) := by
      intro m _ hm
      by_cases q : m < i + 1 + t
      · rw [if_pos q, if_pos (by omega)]
      · rw [if_neg q, if_neg (by omega)]
    by_cases q : jB X w k i (i + 1 + t) = true
    · refine ⟨(me_si (me_w M g') 64 (i + 1 + t) (nI (jpm (jA X w k) (jB X w k) (i + 1) (i + 1 + t))), nI (i + 1 + (t + 1))), ?_, fun a z => me_i (me_si (me_w M g') 64 (i + 1 + t) (nI (jpm (jA X w k) (jB X w k) (i + 1) (i + 1 + t)))) a z, rfl, fun a z w2 => by dsimp only; rw [si_ne (by omega), i_w]; exact a1 a z w2, fun m hm => ?_⟩
      · show s_X3_lengthen_11 61 3 (nI k) (nI i) (me_w M g') (nI (i + 1 + t)) = _
        unfold s_X3_lengthen_11
        simp only [let_v]
        rw [c_12, if_neg (nI_ge (by omega) (by omega)), gr_e (lk_61 hL2) (lr_61_1 hL2), cP_e em, if_pos (show mt X w k (d1 X (jrow w i)) (i + 1 + t) = true from q), if_neg (by decide), gr_e (lk_61 hL2) (lr_61_2 hL2), gr_e (lk_61 hL2) (lr_61_2 hL2), li_e (lk_64 hL2) (by omega) (by decide), gr_e (lk_61 hL2) (lr_61_2 hL2), li_e (lk_64 hL2) (by omega) (by decide), i_w, i_w, ej, ei, nI_1, mx_n (by omega) (by omega), si_e (lk_64 hL2) (by omega) (by decide), nI_1, jpm_s, if_pos ⟨by omega, hpos, q⟩]
        rfl
      · dsimp only
        by_cases z : m = i + 1 + t
        · rw [z, si_self, if_pos (by omega)]
        · rw [si_ne (by omega), i_w, a2 m hm, nxt m hm z]
    · refine ⟨(me_w M g', nI (i + 1 + (t + 1))), ?_, g', rfl, a1, fun m hm => ?_⟩
      · show s_X3_lengthen_11 61 3 (nI k) (nI i) (me_w M g') (nI (i + 1 + t)) = _
        unfold s_X3_lengthen_11
        simp only [let_v]
        rw [c_12, if_neg (nI_ge (by omega) (by omega)), gr_e (lk_61 hL2) (lr_61_1 hL2), cP_e em, if_neg (show ¬ mt X w k (d1 X (jrow w i)) (i + 1 + t) = true from q), if_pos rfl, nI_1]
        rfl
      · by_cases z : m = i + 1 + t
        · rw [z, if_pos (by omega), jpm_s, if_neg (fun y => q y.2.2)]; exact ej
        · rw [a2 m hm, nxt m hm z]
  · rintro s ⟨g', rfl, a1, a2⟩
    rw [show i + 1 + (12 - (i + 1)) = 12 by omega]
    refine ⟨(me_w M g', nI 12), ?_, g', rfl, a1, fun m hm => by rw [a2 m hm, if_pos (by omega)]⟩
    show s_X3_lengthen_11 61 3 (nI k) (nI i) (me_w M g') (nI 12) = _
    unfold s_X3_lengthen_11
    rw [c_12, if_pos (nI_le (Nat.le_refl _) (by omega))]
theorem e_mostMet (hX : XV X) (hW : WV X w) (hL : Lay M) (hB : CB X M 3 w) (hk : k < 6) (ht : X.1.testBit k = true) : ∃ g, f_X3_mostMet 61 3 (nI k) M = some (nI (jbs (jA X w k) (jB X w k) 12), me_w M g) ∧ ∀ a z, ¬ (62 ≤ a ∧ a ≤ 64) → g a z = me_i M a z := by
  obtain ⟨u, e1, e2, e3⟩ := e_metAlone hX hW hL hB hk ht
  have h12 := hW.1
  have hlp := lp_cnt (step := fun s : Me × Int32 => s_X3_mostMet_10 61 (nI (ab (jA X w k) 12)) s.1 s.2) 12
    (fun i s => ∃ g, s = (me_w M g, nI i) ∧ (∀ a z, ¬ (62 ≤ a ∧ a ≤ 64) → g a z = me_i M a z) ∧ ∀ m, m < i → g 64 m = nI (jpm (jA X w k) (jB X w k) 0 m))
    (fun s => ∃ g, s = (me_w M g, nI 12) ∧ (∀ a z, ¬ (62 ≤ a ∧ a ≤ 64) → g a z = me_i M a z) ∧ ∀ m, m < 12 → g 64 m = nI (jpm (jA X w k) (jB X w k) 0 m))
    ?_ ?_ (me_w M u, 0) ⟨u, by rw [nI_0], fun a z q => e2 a z (by omega), fun m hm => absurd hm (by omega)⟩
  rotate_left
  · rintro i s hi ⟨g, rfl, a1, a2⟩
    have hL2 : Lay (me_w M g) := hL
    refine ⟨(me_si (me_w M g) 64 i (nI (jpm (jA X w k) (jB X w k) 0 i)), nI (i + 1)), ?_, fun a z => me_i (me_si (me_w M g) 64 i (nI (jpm (jA X w k) (jB X w k) 0 i))) a z, rfl, fun a z q => by dsimp only; rw [si_ne (by omega), i_w]; exact a1 a z q, fun m hm => ?_⟩
    · show s_X3_mostMet_10 61 (nI (ab (jA X w k) 12)) (me_w M g) (nI i) = _
      unfold s_X3_mostMet_10
      simp only [let_v]
      rw [c_12, if_neg (nI_ge hi (by omega)), gr_e (lk_61 hL2) (lr_61_2 hL2), bit_32 ab_31 hi, si_e (lk_64 hL2) hi (by decide), nI_1, ab_bit, decide_eq_true hi, Bool.true_and]
      show some (Sum.inl (me_si (me_w M g) 64 i _, _)) = some (Sum.inl (me_si (me_w M g) 64 i (nI (if jA X w k i = true then 1 else 0)), _))
      by_cases q : jA X w k i = true
      · rw [if_pos q, if_pos q]; rfl
      · rw [if_neg q, if_neg q, nI_0]
    · dsimp only
      by_cases z : m = i
      · rw [z, si_self]
      · rw [si_ne (by omega), i_w]; exact a2 m (by omega)
  · rintro s ⟨g, rfl, a1, a2⟩
    refine ⟨(me_w M g, nI 12), ?_, g, rfl, a1, a2⟩
    show s_X3_mostMet_10 61 _ (me_w M g) (nI 12) = _
    unfold s_X3_mostMet_10
    rw [c_12, if_pos (nI_le (Nat.le_refl _) (by omega))]
  obtain ⟨x, hx, g0, rfl, f1, f2⟩ := hlp
  have hlq := lp_cnt (step := fun s : Me × Int32 × Int32 => s_X3_mostMet_42 61 3 (nI k) s.1 s.2.1 s.2.2) 12
    (fun i s => ∃ g, s = (me_w M g, nI (jbs (jA X w k) (jB X w k) i), nI i) ∧ (∀ a z, ¬ (62 ≤ a ∧ a ≤ 64) → g a z = me_i M a z) ∧ ∀ m, m < 12 → g 64 m = nI (jpm (jA X w k) (jB X w k) i m))
    (fun s => ∃ g, s = (me_w M g, nI (jbs (jA X w k) (jB X w k) 12), nI 12) ∧ (∀ a z, ¬ (62 ≤ a ∧ a ≤ 64) → g a z = me_i M a z))
    ?_ ?_ (me_w M g0, 0, 0) ⟨g0, by rw [← nI_0]; rfl, f1, f2⟩
  rotate_left
  · rintro i s hi ⟨g, rfl, a1, a2⟩
    have hL2 : Lay (me_w M g) := hL
    have l1 := jpm_le (A := jA X w k) (B := jB X w k) i i
    have l2 := jbs_le (A := jA X w k) (B := jB X w k) i
    by_cases q : jpm (jA X w k) (jB X w k) i i = 0
    · refine ⟨(me_w M g, nI (jbs (jA X w k) (jB X w k) (i + 1)), nI (i + 1)), ?_, g, rfl, a1, fun m hm => by rw [jpm_s, if_neg (by omega)]; exact a2 m hm⟩
      show s_X3_mostMet_42 61 3 (nI k) (me_w M g) (nI (jbs (jA X w k) (jB X w k) i)) (nI i) = some (Sum.inl (me_w M g, nI (max (jbs (jA X w k) (jB X w k) i) (jpm (jA X w k) (jB X w k) i i)), nI (i + 1)))
      unfold s_X3_mostMet_42
      simp only [let_v]
      rw [c_12, if_neg (nI_ge hi (by omega)), gr_e (lk_61 hL2) (lr_61_2 hL2), li_e (lk_64 hL2) hi (by decide), i_w, a2 i hi, i_le0 (by omega), if_pos q, nI_1, q, Nat.max_eq_left (Nat.zero_le _)]
      rfl
    · have hin := jQ_lt (jpm_Q i (show 0 < jpm (jA X w k) (jB X w k) i i by omega))
      obtain ⟨g', b1, b2, b3⟩ := e_length hX hW hL hB hk hin (by omega) a1 a2
      refine ⟨(me_w M g', nI (jbs (jA X w k) (jB X w k) (i + 1)), nI (i + 1)), ?_, g', rfl, b2, b3⟩
      show s_X3_mostMet_42 61 3 (nI k) (me_w M g) (nI (jbs (jA X w k) (jB X w k) i)) (nI i) = some (Sum.inl (me_w M g', nI (max (jbs (jA X w k) (jB X w k) i) (jpm (jA X w k) (jB X w k) i i)), nI (i + 1)))
      unfold s_X3_mostMet_42
      simp only [let_v]
      rw [c_12, if_neg (nI_ge hi (by omega)), gr_e (lk_61 hL2) (lr_61_2 hL2), li_e (lk_64 hL2) hi (by decide), i_w, a2 i hi, i_le0 (by omega), if_neg q, gr_e (lk_61 hL2) (lr_61_2 hL2), li_e (lk_64 hL2) hi (by decide), i_w, a2 i hi, mx_n (by omega) (by omega), cM_e b1, nI_1]
      rfl
  · rintro s ⟨g, rfl, a1, a2⟩
    refine ⟨(me_w M g, nI (jbs (jA X w k) (jB X w k) 12), nI 12), ?_, g, rfl, a1⟩
    show s_X3_mostMet_42 61 3 (nI k) (me_w M g) _ (nI 12) = _
    unfold s_X3_mostMet_42
    rw [c_12, if_pos (nI_le (Nat.le_refl _) (by omega))]
  obtain ⟨x, hy, g, rfl, q1⟩ := hlq
  refine ⟨g, ?_, q1⟩
  unfold f_X3_mostMet b_X3_mostMet
  rw [ck_e (lk_61 hL), cI_e e1, show ab (mt X w k (d0 X w k)) 12 = ab (jA X w k) 12 from rfl, hx]
  simp only [Option.bind_some]
  rw [hy]; rfl
theorem e_countOwed (hX : XV X) (hW : WV X w) (hB : CB X M 3 w) (hk : k < 6) : f_X2_countOwedBy 7 (nI k) M = some (nI (cn (ab (jQ X w k) 12) 12)) := by
  obtain ⟨π, c1, c2, c3, c4⟩ := hB.rd
  have hC := hB.CL
  have hs : ∀ i, i ≤ 12 → cn (ab (jQ X w k) 12) i = sN (fun m => if jQ X w k m = true then 1 else 0) i := by
    intro i hi
    rw [cn_sN]
    apply sN_congr
    intro m hm
    rw [ab_bit, decide_eq_true (show m < 12 by omega), Bool.true_and]
  have hfin : cn (ab (jQ X w k) 12) 12 = sN (fun m => if jQ X w k m = true then 1 else 0) w.1.length := by
    have e : cn (ab (jQ X w k) 12) 12 = cn (ab (jQ X w k) 12) w.1.length := cn_skip 12 c3 (fun m h1 h2 => by
      rw [ab_bit, show jQ X w k m = false from mt_n h1, Bool.and_false])
    rw [e, hs _ c3]
  have h := lp_up (step := fun s : Int32 × Int32 => s_X2_countOwedBy_4 7 (nI k) M s.1 s.2) (fun i => (nI (sN (fun m => if jQ X w k m = true then 1 else 0) i), nI i)) w.1.length (nI (sN (fun m => if jQ X w k m = true then 1 else 0) w.1.length), nI w.1.length) ?_ ?_ 0 (by omega)
  · unfold f_X2_countOwedBy b_X2_countOwedBy
    rw [show (7 : Nat) = 3 + 4 from rfl, q_ck2 hC, show ((0 : Int32), (0 : Int32)) = (nI (sN (fun m => if jQ X w k m = true then 1 else 0) 0), nI 0) by rw [nI_0]; rfl]
    rw [show (3 : Nat) + 4 = 7 from rfl, h, hfin]; rfl
  · intro i hi
    have hg : w.1[i]? = some w.1[i] := List.getElem?_eq_getElem hi
    obtain ⟨p1, r0, -, -, -⟩ := c4 i _ hg
    obtain ⟨b0, -, -, -⟩ := hW.rb hX _ (List.getElem_mem hi)
    show s_X2_countOwedBy_4 (3 + 4) (nI k) M (nI (sN (fun m => if jQ X w k m = true then 1 else 0) i)) (nI i) = some (Sum.inl (nI (sN (fun m => if jQ X w k m = true then 1 else 0) (i + 1)), nI (i + 1)))
    rw [sN_s]
    unfold s_X2_countOwedBy_4
    simp only [let_v]
    rw [c_12, if_neg (nI_ge (by omega) (by omega)), q_gi2 hC, c2, if_neg (nI_ge hi (by omega)), q_d1 hC, q_row hC c1 (by omega), q_gi1 hC p1, r0, i_eq (by omega) (by omega), nI_1]
    have eq : jQ X w k i = decide (w.1[i].1 = k ∧ 0 ≤ w.1[i].2.2.2) := mt_s hg
    by_cases q : w.1[i].1 = k
    · rw [if_pos q, if_pos (by rw [eq]; exact decide_eq_true ⟨q, Nat.zero_le _⟩)]
      simp only [Option.bind_some]
      rw [nI_1]
    · rw [if_neg q, if_neg (fun z => q (of_decide_eq_true (eq ▸ z)).1)]
      simp only [Option.bind_some]
      rw [Int32.add_zero]; rfl
  · show s_X2_countOwedBy_4 (3 + 4) (nI k) M _ (nI w.1.length) = _
    unfold s_X2_countOwedBy_4
    rw [q_gi2 hC, c2, if_pos (nI_le (Nat.le_refl _) (by omega))]
    split <;> rfl
def jv (o : Option (Nat × Nat)) : Int32 := match o with
  | none => -6
  | some p => nI (100 * p.1 + p.2)
theorem e_barJ {i : Nat} {g : St} (hX : XV X) (hW : WV X w) (hL : Lay M) (hB : CB X (me_w M g) 3 w) (hk : k < 6) (hi : i < w.1.length) (hA : jA X w k i = true) (hF : ∀ v, v < 5 → g 63 v = nI (d1 X (jrow w i) v)) : ∀ f j, j + f = 12 → lp (fun s : Int32 => s_X3_findBarred_42 61 3 (nI k) (nI (ab (jA X w k) 12)) (nI i) (me_w M g) s) (nI j) = match jfj (jA X w k) (jB X w k) i f j with
    | none => some (Sum.inl (nI 12))
    | some m => some (Sum.inr (nI (100 * i + m), me_w M g)) := by
  have hL2 : Lay (me_w M g) := hL
  have h12 := hW.1
  have bd := d1_bd hX hW (jrow_mem hi)
  intro f
  induction f with
  | zero =>
    intro j hj
    rw [lp_eq, show j = 12 by omega]
    unfold s_X3_findBarred_42
    rw [c_12, if_pos (nI_le (Nat.le_refl _) (by omega))]; rfl
  | succ f ih =>
    intro j hj
    have em := e_isMet (A := 63) hX hW hL2 hB (lk_63 hL2) hF bd hk (show j < 12 by omega)
    rw [jfj_s]
    by_cases q : jbad (jA X w k) (jB X w k) i j = true
    · rw [if_pos q]
      unfold jbad at q
      rw [Bool.and_eq_true, Bool.and_eq_true, Bool.not_eq_true'] at q
      rw [lp_eq]
      unfold s_X3_findBarred_42
      rw [c_12, if_neg (nI_ge (by omega) (by omega)), bit_32 ab_31 (show j < 12 by omega), ab_bit, decide_eq_true (show j < 12 by omega), q.2.1, Bool.true_and, if_pos rfl, if_pos rfl, gr_e (lk_61 hL2) (lr_61_1 hL2), cP_e em, if_neg (show ¬ mt X w k (d1 X (jrow w i)) j = true from fun z => by rw [show mt X w k (d1 X (jrow w i)) j = false from q.2.2] at z; cases z), if_pos rfl, c_100, pk_mul, nI_add]
      rfl
    · rw [if_neg q, ← ih (j + 1) (by omega), lp_eq]
      have step : s_X3_findBarred_42 61 3 (nI k) (nI (ab (jA X w k) 12)) (nI i) (me_w M g) (nI j) = some (Sum.inl (nI (j + 1))) := by
        unfold s_X3_findBarred_42
        simp only [let_v]
        rw [c_12, if_neg (nI_ge (by omega) (by omega)), bit_32 ab_31 (show j < 12 by omega), ab_bit, decide_eq_true (show j < 12 by omega), Bool.true_and, nI_1]
        by_cases z : jA X w k j = true
        · have z2 : jB X w k i j = true := by
            apply Classical.byContradiction
            intro y
            apply q
            unfold jbad
            rw [hA, z, Bool.eq_false_iff.mpr y]; rfl
          rw [if_pos z, if_pos rfl, gr_e (lk_61 hL2) (lr_61_1 hL2), cP_e em, if_pos (show mt X w k (d1 X (jrow w i)) j = true from z2), if_neg (by decide)]
        · rw [if_neg z, if_neg (by decide)]
      rw [step]; rfl
theorem e_barI (hX : XV X) (hW : WV X w) (hL : Lay M) (hB : CB X M 3 w) (hk : k < 6) : ∀ f i g, i + f = 12 → (∀ a z, ¬ (62 ≤ a ∧ a ≤ 64) → g a z = me_i M a z) → ∃ g', ex_r (lp (fun s : Me × Int32 => s_X3_findBarred_10 61 3 (nI k) (nI (ab (jA X w k) 12)) s.1 s.2) (me_w M g, nI i)) (fun e => some ((-6 : Int32), e.1)) (fun t => some t) = some (jv (jfi (jA X w k) (jB X w k) f i), me_w M g') ∧ ∀ a z, ¬ (62 ≤ a ∧ a ≤ 64) → g' a z = me_i M a z := by
  intro f
  induction f with
  | zero =>
    intro i g hi g1
    refine ⟨g, ?_, g1⟩
    rw [lp_eq, show i = 12 by omega]
    show ex_r ((s_X3_findBarred_10 61 3 (nI k) _ (me_w M g) (nI 12)).bind _) _ _ = _
    unfold s_X3_findBarred_10
    rw [c_12, if_pos (nI_le (Nat.le_refl _) (by omega))]; rfl
  | succ f ih =>
    intro i g hi g1
    have hL2 : Lay (me_w M g) := hL
    have hBg : CB X (me_w M g) 3 w := hB.out rfl (fun _ _ => rfl) (fun a z _ _ => g1 a z (by omega))
    have hbit := bit_32 (x := ab (jA X w k) 12) ab_31 (show i < 12 by omega)
    rw [ab_bit, decide_eq_true (show i < 12 by omega), Bool.true_and] at hbit
    by_cases q : jA X w k i = true
    · have hin := jQ_lt (mt_Q q)
      obtain ⟨u, e1, e2, e3⟩ := e_goOn hX hW hL2 hBg hin
      simp only [i_w] at e2
      rw [w_w] at e1
      have u1 : ∀ a z, ¬ (62 ≤ a ∧ a ≤ 64) → u a z = me_i M a z := fun a z w2 => by rw [e2 _ _ (by omega)]; exact g1 a z w2
      have hBu : CB X (me_w M u) 3 w := hB.out rfl (fun _ _ => rfl) (fun a z _ _ => u1 a z (by omega))
      have hj := e_barJ (g := u) hX hW hL hBu hk hin q e3 (12 - (i + 1)) (i + 1) (by omega)
      rw [if_pos q] at hbit
      cases z : jfj (jA X w k) (jB X w k) i (12 - (i + 1)) (i + 1) with
      | some m =>
        rw [z] at hj
        refine ⟨u, ?_, u1⟩
        rw [jfi_s z, lp_eq]
        show ex_r ((s_X3_findBarred_10 61 3 (nI k) _ (me_w M g) (nI i)).bind _) _ _ = _
        unfold s_X3_findBarred_10
        simp only [let_v]
        rw [c_12, if_neg (nI_ge (by omega) (by omega)), hbit, if_neg (by decide), cM_e e1, nI_1, hj]; rfl
      | none =>
        rw [z] at hj
        obtain ⟨g', b1, b2⟩ := ih (i + 1) u (by omega) u1
        refine ⟨g', ?_, b2⟩
        rw [jfi_n z, ← b1, lp_eq]
        show ex_r ((s_X3_findBarred_10 61 3 (nI k) _ (me_w M g) (nI i)).bind _) _ _ = _
        have step : s_X3_findBarred_10 61 3 (nI k) (nI (ab (jA X w k) 12)) (me_w M g) (nI i) = some (Sum.inl (me_w M u, nI (i + 1))) := by
          unfold s_X3_findBarred_10
          simp only [let_v]
          rw [c_12, if_neg (nI_ge (by omega) (by omega)), hbit, if_neg (by decide), cM_e e1, nI_1, hj]; rfl
        rw [step]; rfl
    · rw [if_neg q] at hbit
      obtain ⟨g', b1, b2⟩ := ih (i + 1) g (by omega) g1
      refine ⟨g', ?_, b2⟩
      have z : jfj (jA X w k) (jB X w k) i (12 - (i + 1)) (i + 1) = none := jfj_no _ _ (fun m _ => by unfold jbad; rw [Bool.eq_false_iff.mpr q, Bool.false_and])
      rw [jfi_n z, ← b1, lp_eq]
      show ex_r ((s_X3_findBarred_10 61 3 (nI k) _ (me_w M g) (nI i)).bind _) _ _ = _
      have step : s_X3_findBarred_10 61 3 (nI k) (nI (ab (jA X w k) 12)) (me_w M g) (nI i) = some (Sum.inl (me_w M g, nI (i + 1))) := by
        unfold s_X3_findBarred_10
        simp only [let_v]
        rw [c_12, if_neg (nI_ge (by omega) (by omega)), hbit, if_pos rfl, nI_1]
      rw [step]; rfl
theorem e_barred (hX : XV X) (hW : WV X w) (hL : Lay M) (hB : CB X M 3 w) (hk : k < 6) (ht : X.1.testBit k = true) : ∃ g, f_X3_findBarred 61 3 (nI k) M = some (jv (jfi (jA X w k) (jB X w k) 12 0), me_w M g) ∧ ∀ a z, ¬ (62 ≤ a ∧ a ≤ 64) → g a z = me_i M a z := by
  obtain ⟨u, e1, e2, e3⟩ := e_metAlone hX hW hL hB hk ht
  obtain ⟨g, b1, b2⟩ := e_barI hX hW hL hB hk 12 0 u (by omega) (fun a z q => e2 a z (by omega))
  refine ⟨g, ?_, b2⟩
  rw [nI_0] at b1
  unfold f_X3_findBarred b_X3_findBarred
  rw [ck_e (lk_61 hL), cI_e e1]
  exact b1
end RC2

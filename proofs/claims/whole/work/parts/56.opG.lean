/-! reckoned -/
def tm (e y x : Nat) : Nat := if x / y = (x + e) / y then 1 else 0
def ct (d e y : Nat) : Nat → Nat
  | 0 => 0
  | j + 1 => ct d e y j + tm e y (d + j)
theorem ct_shift (d e y : Nat) : ∀ n, ct (d + 1) e y n + tm e y d = ct d e y n + tm e y (d + n) := by
  intro n
  induction n with
  | zero => rfl
  | succ n ih =>
    show ct (d + 1) e y n + tm e y (d + 1 + n) + tm e y d = ct d e y n + tm e y (d + n) + tm e y (d + (n + 1))
    rw [show d + 1 + n = d + (n + 1) by omega]
    omega
theorem tm_y {e y : Nat} (hy : 0 < y) (d : Nat) : tm e y (d + y) = tm e y d := by
  unfold tm
  rw [show d + y + e = d + e + y by omega, Nat.add_div_right _ hy, Nat.add_div_right _ hy]
  by_cases h : d / y = (d + e) / y
  · rw [if_pos h, if_pos (by omega)]
  · rw [if_neg h, if_neg (by omega)]
theorem ct_0 {e y : Nat} (hy : 0 < y) : ∀ n, n ≤ y → ct 0 e y n = min n (y - e) := by
  intro n
  induction n with
  | zero => intro _; simp [ct]
  | succ n ih =>
    intro hn
    show ct 0 e y n + tm e y (0 + n) = _
    rw [ih (by omega), Nat.zero_add]
    unfold tm
    rw [Nat.div_eq_of_lt (show n < y by omega)]
    by_cases h : n + e < y
    · rw [Nat.div_eq_of_lt h, if_pos rfl]; omega
    · have : 0 < (n + e) / y := Nat.div_pos (by omega) hy
      rw [if_neg (by omega)]; omega
theorem ct_all {e y : Nat} (hy : 0 < y) : ∀ d, ct d e y y = y - e := by
  intro d
  induction d with
  | zero => rw [ct_0 hy y (Nat.le_refl _)]; omega
  | succ d ih =>
    have h1 := ct_shift d e y y
    rw [tm_y hy] at h1
    omega
theorem e_left {M : Me} {d y : Nat} (hd : d < 2 ^ 31) (hy : 0 < y) (hy2 : y < 1000) : f_X11_leftOver (nI d) (nI y) M = some (nI (d % y)) := by
  unfold f_X11_leftOver b_X11_leftOver
  rw [if_neg (nI_nle hy (by omega)), if_neg (nI_ne0 hy (by omega)), pk_rem hd hy (by omega)]
  rfl
theorem e_cut {M : Me} {d y : Nat} (hd : d < 2 ^ 31) (hy : 0 < y) (hy2 : y < 1000) : f_X11_cut (nI d) (nI y) M = some (nI (d / y)) := by
  unfold f_X11_cut b_X11_cut
  rw [if_neg (nI_nle hy (by omega)), if_neg (nI_ne0 hy (by omega)), pk_div hd hy (by omega)]
  rfl
theorem mx_0 {y e : Nat} (hy : y < 1000) (he : e < 1000) : mx_i 0 (nI y - nI e) = nI (y - e) := by
  unfold mx_i
  by_cases h : e < y
  · rw [pk_sub (by omega), if_pos]
    rw [c_0]; exact nI_lt (by omega) (by omega)
  · rw [show y - e = 0 by omega]
    by_cases h2 : e = y
    · subst h2
      rw [pk_sub (Nat.le_refl _), Nat.sub_self, nI_0]; rfl
    · have h3 := pk_sneg (a := y) (b := e) (by omega) (by omega)
      rw [if_neg, nI_0]
      intro h4
      rw [Int32.lt_iff_toInt_lt] at h3 h4
      omega
/-- reckoned -/
theorem iv_op19 : ∀ n M, n < 512 → Iv n M → op_19 (Iv (n + 1)) M := by
  intro n M hn h x1 x2 x3
  obtain ⟨hL, hlen, ⟨hCL, π, hCP, c, y, t, D, nd, sg, hV, hR⟩, hJ, hP, hI⟩ := id h
  have hy := hV.1.2.1
  have hy4 : me_i M 4 1 = nI y := hR.1.2.1.trans hy.1
  have hy70 : me_i M 70 2 = nI y := hy.1
  have ex : f_X11_reckoned 0 x1 x2 x3 M = ck M 0 11 (b_X11_reckoned 0 x1 x2 x3 M) := rfl
  have em : f_X12_reckoned 70 x1 x2 x3 M = ck M 70 12 (b_X12_reckoned 70 x1 x2 x3 M) := rfl
  by_cases h1 : in_v x1 0 99999 = 0
  · refine ⟨-2, ?_, ?_, h.next hn⟩
    · rw [ex, ck_e (lk_0 hL)]; unfold b_X11_reckoned; rw [cP_e (e_isWithin _ _ _ _), if_pos h1]
    · rw [em, ck_e (lk_70 hL)]; unfold b_X12_reckoned; rw [cP_e (e_in _ _ _ _), if_pos h1]
  by_cases h2 : in_v x2 0 99 = 0
  · refine ⟨-2, ?_, ?_, h.next hn⟩
    · rw [ex, ck_e (lk_0 hL)]; unfold b_X11_reckoned; rw [cP_e (e_isWithin _ _ _ _), if_neg h1, cP_e (e_isWithin _ _ _ _), if_pos h2]
    · rw [em, ck_e (lk_70 hL)]; unfold b_X12_reckoned; rw [cP_e (e_in _ _ _ _), if_neg h1, cP_e (e_in _ _ _ _), if_pos h2]
  have g1 := h1
  have g2 := h2
  rw [c_0, show (99999 : Int32) = nI 99999 by decide +kernel] at g1
  rw [c_0, c_99] at g2
  obtain ⟨d, -, hd, rfl⟩ := in_yes (by decide) (by decide) g1
  obtain ⟨e, -, he, rfl⟩ := in_yes (by decide) (by decide) g2
  have hloop : lp (fun s => s_X12_reckoned_38 70 (nI d) (nI e) M s.1 s.2) ((0 : Int32), nI d) = some (nI (y - e), nI (d + y)) := by
    have hl := lp_up (step := fun s : Int32 × Int32 => s_X12_reckoned_38 70 (nI d) (nI e) M s.1 s.2) (fun j => (nI (ct d e y j), nI (d + j))) y (nI (ct d e y y), nI (d + y)) ?_ ?_ 0 (by omega)
    · rw [ct_all (by omega)] at hl
      rw [← hl]
      refine congrArg (lp _) ?_
      rw [show (0 : Int32) = nI (ct d e y 0) from nI_0.symm]; rfl
    · intro j hj
      show s_X12_reckoned_38 70 (nI d) (nI e) M (nI (ct d e y j)) (nI (d + j)) = _
      unfold s_X12_reckoned_38 let_v
      rw [gi_e (lk_70 hL), hy70, nI_add, if_neg (nI_ge (by omega) (by omega)), gi_e (lk_70 hL), hy70, if_neg (nI_ne0 (by omega) (by omega)), gi_e (lk_70 hL), hy70, if_neg (nI_ne0 (by omega) (by omega)), nI_add, pk_div (by omega) (by omega) (by omega), pk_div (by omega) (by omega) (by omega)]
      have hlt1 : (d + j) / y < 2 ^ 31 := Nat.lt_of_le_of_lt (Nat.div_le_self _ _) (by omega)
      have hlt2 : (d + j + e) / y < 2 ^ 31 := Nat.lt_of_le_of_lt (Nat.div_le_self _ _) (by omega)
      have ect : ct d e y (j + 1) = ct d e y j + tm e y (d + j) := rfl
      rw [ect]
      unfold tm
      by_cases hq : (d + j) / y = (d + j + e) / y
      · rw [if_pos (by rw [hq]), if_pos hq]
        simp only [Option.bind_some]
        rw [nI_1, nI_1]; rfl
      · rw [if_neg (nI_ne hlt1 hlt2 hq), if_neg hq]
        simp only [Option.bind_some]
        rw [nI_1, show nI (ct d e y j) + 0 = nI (ct d e y j + 0) by rw [c_0, nI_add]]; rfl
    · show s_X12_reckoned_38 70 (nI d) (nI e) M (nI (ct d e y y)) (nI (d + y)) = _
      unfold s_X12_reckoned_38
      rw [gi_e (lk_70 hL), hy70, nI_add, if_pos (nI_le (Nat.le_refl _) (by omega))]
  by_cases hz0 : x3 = 0
  · refine ⟨nI ((d + e) % y), ?_, ?_, h.next hn⟩
    · rw [ex, ck_e (lk_0 hL)]; unfold b_X11_reckoned
      rw [cP_e (e_isWithin _ _ _ _), if_neg h1, cP_e (e_isWithin _ _ _ _), if_neg h2, gr_e (lk_0 hL) (lr_0_1 hL), gr_e (lk_3 hL) (lr_3_0 hL), gi_e (lk_4 hL), hy4, if_pos hz0, nI_add, cP_e (e_left (by omega) (by omega) (by omega))]
    · rw [em, ck_e (lk_70 hL)]; unfold b_X12_reckoned
      rw [cP_e (e_in _ _ _ _), if_neg h1, cP_e (e_in _ _ _ _), if_neg h2, cP_e (e_in _ _ _ _), if_neg (by rw [hz0]; decide), hloop]
      simp only [Option.bind_some]
      rw [if_pos hz0, gi_e (lk_70 hL), hy70, if_neg (nI_ne0 (by omega) (by omega)), nI_add, pk_rem (by omega) (by omega) (by omega)]
      rfl
  by_cases hz1 : x3 = 1
  · refine ⟨nI ((d + e) / y), ?_, ?_, h.next hn⟩
    · rw [ex, ck_e (lk_0 hL)]; unfold b_X11_reckoned
      rw [cP_e (e_isWithin _ _ _ _), if_neg h1, cP_e (e_isWithin _ _ _ _), if_neg h2, gr_e (lk_0 hL) (lr_0_1 hL), gr_e (lk_3 hL) (lr_3_0 hL), gi_e (lk_4 hL), hy4, if_neg hz0, if_pos hz1, nI_add, cP_e (e_cut (by omega) (by omega) (by omega))]
    · rw [em, ck_e (lk_70 hL)]; unfold b_X12_reckoned
      rw [cP_e (e_in _ _ _ _), if_neg h1, cP_e (e_in _ _ _ _), if_neg h2, cP_e (e_in _ _ _ _), if_neg (by rw [hz1]; decide), hloop]
      simp only [Option.bind_some]
      rw [if_neg hz0, if_pos hz1, gi_e (lk_70 hL), hy70, if_neg (nI_ne0 (by omega) (by omega)), nI_add, pk_div (by omega) (by omega) (by omega)]
      rfl
  by_cases hz2 : x3 = 2
  · refine ⟨nI (y - e), ?_, ?_, h.next hn⟩
    · rw [ex, ck_e (lk_0 hL)]; unfold b_X11_reckoned
      rw [cP_e (e_isWithin _ _ _ _), if_neg h1, cP_e (e_isWithin _ _ _ _), if_neg h2, gr_e (lk_0 hL) (lr_0_1 hL), gr_e (lk_3 hL) (lr_3_0 hL), gi_e (lk_4 hL), hy4, if_neg hz0, if_neg hz1, if_pos hz2, mx_0 (by omega) (by omega)]
    · rw [em, ck_e (lk_70 hL)]; unfold b_X12_reckoned
      rw [cP_e (e_in _ _ _ _), if_neg h1, cP_e (e_in _ _ _ _), if_neg h2, cP_e (e_in _ _ _ _), if_neg (by rw [hz2]; decide), hloop]
      simp only [Option.bind_some]
      rw [if_neg hz0, if_neg hz1]
      rfl
  · have h3 : in_v x3 0 2 = 0 := by
      by_cases q : in_v x3 0 2 = 0
      · exact q
      · exfalso
        rw [c_0, c_2] at q
        obtain ⟨v, -, hv, rfl⟩ := in_yes (by decide) (by decide) q
        match v, hv with
        | 0, _ => exact hz0 nI_0
        | 1, _ => exact hz1 c_1.symm
        | 2, _ => exact hz2 c_2.symm
    refine ⟨-2, ?_, ?_, h.next hn⟩
    · rw [ex, ck_e (lk_0 hL)]; unfold b_X11_reckoned
      rw [cP_e (e_isWithin _ _ _ _), if_neg h1, cP_e (e_isWithin _ _ _ _), if_neg h2, gr_e (lk_0 hL) (lr_0_1 hL), gr_e (lk_3 hL) (lr_3_0 hL), gi_e (lk_4 hL), if_neg hz0, if_neg hz1, if_neg hz2]
    · rw [em, ck_e (lk_70 hL)]; unfold b_X12_reckoned
      rw [cP_e (e_in _ _ _ _), if_neg h1, cP_e (e_in _ _ _ _), if_neg h2, cP_e (e_in _ _ _ _), if_pos h3]
/-! told -/
theorem ten_neg {x : Int32} (h : x < 10) : x / 10 - 1 < 0 := by
  rw [Int32.lt_iff_toInt_lt] at h ⊢
  have h10 : (10 : Int32).toInt = 10 := by decide
  rw [h10] at h
  have h2 := Int32.le_toInt x
  have hdiv : (x / 10).toInt = x.toInt.tdiv 10 := by
    rw [Int32.toInt_div, h10]
    have h3 : x.toInt.tdiv 10 ≤ 0 := by
      by_cases q : 0 ≤ x.toInt
      · rw [Int.tdiv_eq_ediv_of_nonneg q]; omega
      · rw [show x.toInt = -(-x.toInt) by omega, Int.neg_tdiv, Int.tdiv_eq_ediv_of_nonneg (by omega)]; omega
    have h4 : -2 ^ 31 ≤ x.toInt.tdiv 10 := by
      by_cases q : 0 ≤ x.toInt
      · rw [Int.tdiv_eq_ediv_of_nonneg q]; omega
      · rw [show x.toInt = -(-x.toInt) by omega, Int.neg_tdiv, Int.tdiv_eq_ediv_of_nonneg (by omega)]; omega
    rw [Int.bmod_eq_of_le (by omega) (by omega)]
  have h3 : x.toInt.tdiv 10 ≤ 0 := by
    by_cases q : 0 ≤ x.toInt
    · rw [Int.tdiv_eq_ediv_of_nonneg q]; omega
    · rw [show x.toInt = -(-x.toInt) by omega, Int.neg_tdiv, Int.tdiv_eq_ediv_of_nonneg (by omega)]; omega
  have h4 : -2147483648 / 10 - 1 ≤ x.toInt.tdiv 10 := by
    by_cases q : 0 ≤ x.toInt
    · rw [Int.tdiv_eq_ediv_of_nonneg q]; omega
    · rw [show x.toInt = -(-x.toInt) by omega, Int.neg_tdiv, Int.tdiv_eq_ediv_of_nonneg (by omega)]; omega
  rw [Int32.toInt_sub, hdiv, show (1 : Int32).toInt = 1 by decide, Int.bmod_eq_of_le (by omega) (by omega), Int32.toInt_zero]
  omega
theorem nn_of {x : Int32} {lo : Nat} (hlo : lo < 2 ^ 31) (h : ¬ x < nI lo) : ∃ v, lo ≤ v ∧ v < 2 ^ 31 ∧ x = nI v := by
  rw [Int32.lt_iff_toInt_lt, nI_toInt hlo] at h
  have h2 := Int32.toInt_lt x
  refine ⟨x.toInt.toNat, by omega, by omega, ?_⟩
  apply Int32.toInt_inj.mp
  rw [nI_toInt (by omega)]; omega

/-! small methods, of both sides -/
/-- is it a chapel -/
def cv (c0 : Nat) (x : Int32) : Int32 := if x < 0 then 0 else if nI c0 ≤ x then 0 else 1
theorem cv_yes {c0 : Nat} {x : Int32} (hc : c0 ≤ 5) (h : ¬ cv c0 x = 0) : ∃ j, j < c0 ∧ x = nI j := by
  unfold cv at h
  split at h
  · exact absurd rfl h
  · split at h
    · exact absurd rfl h
    · rename_i h1 h2
      rw [Int32.lt_iff_toInt_lt, Int32.toInt_zero] at h1
      rw [Int32.le_iff_toInt_le, nI_toInt (by omega)] at h2
      refine ⟨x.toInt.toNat, by omega, ?_⟩
      apply Int32.toInt_inj.mp
      rw [nI_toInt (by omega)]; omega
theorem cv_one {c0 j : Nat} (hc : c0 ≤ 5) (hj : j < c0) : cv c0 (nI j) = 1 := by
  unfold cv
  rw [if_neg (nI_pos (by omega)), if_neg (nI_ge hj (by omega))]
theorem e_hasChapel {M : Me} {a c0 : Nat} {x : Int32} (hk : me_k M a = some (5, 3)) (hv : me_i M a 0 = nI c0) (hc : c0 ≤ 5) : f_X5_hasChapel a x M = some (cv c0 x) := by
  unfold f_X5_hasChapel b_X5_hasChapel cv
  rw [ck_e hk]
  split
  · rfl
  · rw [gi_e hk, hv]
    split
    · rfl
    · rename_i h1 h2
      rw [if_neg]
      · rfl
      · intro h
        apply h2
        rw [show (5 : Int32) = nI 5 by decide +kernel] at h
        rw [Int32.le_iff_toInt_le] at h ⊢
        rw [nI_toInt (by omega)] at h ⊢
        omega
theorem e_isChapel {M : Me} {c0 : Nat} {x : Int32} (hk : me_k M 70 = some (12, 32)) (hv : me_i M 70 0 = nI c0) (h1 : 1 ≤ c0) (hc : c0 ≤ 5) : f_X12_isChapel 70 x M = some (cv c0 x) := by
  unfold f_X12_isChapel b_X12_isChapel
  rw [ck_e hk, gi_e hk, hv, cP_e (e_in _ _ _ _)]
  have e : in_v x 0 (nI c0 - 1) = cv c0 x := by
    unfold in_v cv
    rw [show (1 : Int32) = nI 1 by decide +kernel, pk_sub h1]
    by_cases h0 : x < 0
    · rw [if_pos h0, if_pos h0]
    · rw [if_neg h0, if_neg h0]
      have e2 : nI (c0 - 1) < x ↔ nI c0 ≤ x := by
        rw [Int32.lt_iff_toInt_lt, Int32.le_iff_toInt_le, nI_toInt (by omega), nI_toInt (by omega)]; omega
      by_cases h2 : nI c0 ≤ x
      · rw [if_pos h2, if_pos (e2.mpr h2)]
      · rw [if_neg h2, if_neg (fun q => h2 (e2.mp q))]
  rw [e]
  unfold cv
  split
  · rfl
  · split <;> rfl
/-- is he there -/
def tv (t : Nat) (x : Int32) : Int32 := if x < 0 then 0 else if 6 ≤ x then 0 else if t.testBit x.toNatClampNeg = true then 1 else 0
theorem six {x : Int32} (h1 : ¬ x < 0) (h2 : ¬ 6 ≤ x) : ∃ k, k < 6 ∧ x = nI k := by
  rw [show (6 : Int32) = nI 6 by decide +kernel] at h2
  rw [Int32.lt_iff_toInt_lt, Int32.toInt_zero] at h1
  rw [Int32.le_iff_toInt_le, nI_toInt (by omega)] at h2
  refine ⟨x.toInt.toNat, by omega, ?_⟩
  apply Int32.toInt_inj.mp
  rw [nI_toInt (by omega)]; omega
theorem six_no {k : Nat} (h : k < 6) : ¬ nI k < 0 ∧ ¬ (6 : Int32) ≤ nI k := by
  refine ⟨nI_pos (by omega), ?_⟩
  rw [show (6 : Int32) = nI 6 by decide +kernel]
  exact nI_ge h (by omega)
theorem tv_k {t k : Nat} (h : k < 6) : tv t (nI k) = if t.testBit k = true then 1 else 0 := by
  unfold tv
  rw [if_neg (six_no h).1, if_neg (six_no h).2, nI_clamp (by omega)]
theorem tv_yes {t : Nat} {x : Int32} (h : ¬ tv t x = 0) : ∃ k, k < 6 ∧ x = nI k ∧ t.testBit k = true := by
  unfold tv at h
  split at h
  · exact absurd rfl h
  · split at h
    · exact absurd rfl h
    · rename_i h1 h2
      obtain ⟨k, hk, rfl⟩ := six h1 h2
      rw [nI_clamp (by omega)] at h
      split at h
      · exact ⟨k, hk, rfl, by assumption⟩
      · exact absurd rfl h
theorem tv_one {t k : Nat} (h : k < 6) (ht : t.testBit k = true) : tv t (nI k) = 1 := by rw [tv_k h, if_pos ht]
theorem bit_64 : ∀ t, t < 64 → ∀ k, k < 6 → ((nI t >>> (nI k &&& 31)) &&& 1) = (if t.testBit k = true then (1 : Int32) else 0) := by decide +kernel
theorem e_has {M : Me} {t k : Nat} (ht : t < 64) (hk : k < 6) : f_X12_has (nI t) (nI k) M = some (if t.testBit k = true then 1 else 0) := by
  unfold f_X12_has b_X12_has
  rw [bit_64 t ht k hk]
  split <;> rfl
theorem e_isThere {M : Me} {t : Nat} {x : Int32} (hk : me_k M 70 = some (12, 32)) (hv : me_i M 70 3 = nI t) (ht : t < 64) : f_X12_isThere 70 x M = some (tv t x) := by
  unfold f_X12_isThere b_X12_isThere
  rw [ck_e hk, cP_e (e_in _ _ _ _)]
  by_cases h : in_v x 0 5 = 0
  · have h2 := in_no h
    rw [if_pos h]
    have h3 : tv t x = 0 := by
      unfold tv
      rcases h2 with h2 | h2
      · rw [if_pos h2]
      · by_cases h4 : x < 0
        · rw [if_pos h4]
        · rw [if_neg h4, if_pos]
          rw [show (5 : Int32) = nI 5 by decide +kernel, Int32.lt_iff_toInt_lt, nI_toInt (by omega)] at h2
          rw [show (6 : Int32) = nI 6 by decide +kernel, Int32.le_iff_toInt_le, nI_toInt (by omega)]; omega
    rw [h3]; rfl
  · rw [if_neg h]
    obtain ⟨k, -, hk5, rfl⟩ := in_yes (lo := 0) (hi := 5) (by decide) (by decide) h
    rw [gi_e hk, hv, cP_e (e_has ht (by omega)), tv_k (by omega)]
    by_cases hb : t.testBit k = true
    · rw [if_pos hb]; rfl
    · rw [if_neg hb]; rfl
/-- the knight's cell -/
def kn_a (c : Nat) (x : Int32) : Nat := if x < 0 then c + 21 else if 6 ≤ x then c + 21 else c + 22 + x.toNatClampNeg
theorem kn_k {c k : Nat} (h : k < 6) : kn_a c (nI k) = c + 22 + k := by
  unfold kn_a
  rw [if_neg (six_no h).1, if_neg (six_no h).2, nI_clamp (by omega)]
theorem e_knightAt {M : Me} {c : Nat} {x : Int32} (h : CL M c) : f_X0_knightAt c x M = some (kn_a c x) := by
  obtain ⟨⟨a1, a2, a3, a4, a5, a6⟩, -, ⟨c1, c2⟩, -⟩ := h
  unfold f_X0_knightAt b_X0_knightAt kn_a
  rw [ck_e a1]
  by_cases h0 : x < 0
  · rw [if_pos h0, if_pos h0, gr_e a1 a6]; rfl
  · rw [if_neg h0, if_neg h0]
    by_cases h6 : 6 ≤ x
    · rw [if_pos h6, if_pos h6, gr_e a1 a6]; rfl
    · rw [if_neg h6, if_neg h6]
      obtain ⟨k, hk, rfl⟩ := six h0 h6
      rw [gr_e a1 a3, lr_e c1 hk (by decide) (c2 k hk), nI_clamp (by omega)]; rfl
theorem kn_kind {M : Me} {c : Nat} {x : Int32} (h : CL M c) : me_k M (kn_a c x) = some (4, 7) := by
  obtain ⟨-, -, -, -, -, -, g1, g2⟩ := h
  unfold kn_a
  split
  · exact g1
  · split
    · exact g1
    · obtain ⟨k, hk, rfl⟩ := six (by assumption) (by assumption)
      rw [nI_clamp (by omega)]
      exact g2 k hk
theorem kn_there {M : Me} {c : Nat} {π : Nat → Nat} {st : St} {t nd sg : Nat} {x : Int32} (hR : Rep M c π st t nd sg) : me_i M (kn_a c x) 0 = tv t x := by
  unfold kn_a tv
  split
  · exact hR.2.2.1
  · split
    · exact hR.2.2.1
    · obtain ⟨k, hk, rfl⟩ := six (by assumption) (by assumption)
      rw [nI_clamp (by omega)]
      exact (hR.2.1 k hk).1
/-- how many are there -/
def cn (t : Nat) : Nat → Nat
  | 0 => 0
  | k + 1 => cn t k + t / 2 ^ k % 2
theorem e_bits {M : Me} {t : Nat} (ht : t < 2 ^ 31) : f_X12_bits (nI t) M = some (nI (cn t 12)) := by
  unfold f_X12_bits b_X12_bits
  have h := lp_up (step := fun s : Int32 × Int32 => s_X12_bits_4 (nI t) s.1 s.2) (fun k => (nI (cn t k), nI k)) 12 (nI (cn t 12), nI 12) ?_ ?_ 0 (by decide)
  · rw [show ((0 : Int32), (0 : Int32)) = (nI (cn t 0), nI 0) by rw [nI_0]; rfl, h]; rfl
  · intro k hk
    show s_X12_bits_4 (nI t) (nI (cn t k)) (nI k) = _
    unfold s_X12_bits_4 let_v
    rw [show (12 : Int32) = nI 12 by decide +kernel, if_neg (nI_ge hk (by omega))]
    have hs : ((nI k &&& 31).toBitVec.smod 32).toNat = k := by
      have : ∀ k, k < 12 → ((nI k &&& 31).toBitVec.smod 32).toNat = k := by decide +kernel
      exact this k hk
    rw [pk_shrN ht _ k hs, pk_andN (Nat.lt_of_le_of_lt (Nat.div_le_self _ _) (by omega)) 1 (by decide +kernel), nI_add, nI_1]
    rfl
  · show s_X12_bits_4 (nI t) (nI (cn t 12)) (nI 12) = _
    unfold s_X12_bits_4
    rw [show (12 : Int32) = nI 12 by decide +kernel, if_pos (nI_le (Nat.le_refl _) (by omega))]
theorem kb_64 : ∀ t, t < 64 → ∀ k, k < 6 → (nI (t % 2 ^ k) ||| (if t.testBit k = true then (1 : Int32) <<< (nI k &&& 31) else 0)) = nI (t % 2 ^ (k + 1)) := by decide +kernel
theorem e_knightBits {M : Me} {c : Nat} {t : Nat} (h : CL M c) (ht : t < 64) (hR : ∀ k, k < 6 → me_i M (c + 22 + k) 0 = (if t.testBit k = true then 1 else 0)) : f_X0_knightBits c M = some (nI t) := by
  obtain ⟨⟨a1, a2, a3, a4, a5, a6⟩, -, ⟨c1, c2⟩, -, -, -, g1, g2⟩ := h
  unfold f_X0_knightBits b_X0_knightBits
  rw [ck_e a1]
  have h := lp_up (step := fun s : Int32 × Int32 => s_X0_knightBits_4 c M s.1 s.2) (fun k => (nI (t % 2 ^ k), nI k)) 6 (nI (t % 2 ^ 6), nI 6) ?_ ?_ 0 (by decide)
  · rw [show ((0 : Int32), (0 : Int32)) = (nI (t % 2 ^ 0), nI 0) by rw [Nat.pow_zero, Nat.mod_one]; decide +kernel, h]
    show some (nI (t % 2 ^ 6)) = some (nI t)
    rw [Nat.mod_eq_of_lt ht]
  · intro k hk
    show s_X0_knightBits_4 c M (nI (t % 2 ^ k)) (nI k) = _
    unfold s_X0_knightBits_4 let_v
    rw [show (6 : Int32) = nI 6 by decide +kernel, if_neg (nI_ge hk (by omega)), gr_e a1 a3, lr_e c1 hk (by decide) (c2 k hk), gi_e (g2 k hk), hR k hk]
    have e := kb_64 t ht k hk
    by_cases hb : t.testBit k = true
    · rw [if_pos hb] at e ⊢
      rw [if_neg (by decide)]
      simp only [Option.bind_some]
      rw [e, nI_1]
    · rw [if_neg hb] at e ⊢
      rw [if_pos rfl]
      simp only [Option.bind_some]
      rw [e, nI_1]
  · show s_X0_knightBits_4 c M (nI (t % 2 ^ 6)) (nI 6) = _
    unfold s_X0_knightBits_4
    rw [show (6 : Int32) = nI 6 by decide +kernel, if_pos (nI_le (Nat.le_refl _) (by omega))]
theorem bc_64 : ∀ t, t < 64 → f_J6_bitCount_0f7a4 (nI t) M_e = some (nI (cn t 12)) := by decide +kernel
theorem e_countKnights {M : Me} {c : Nat} {t : Nat} (h : CL M c) (ht : t < 64) (hR : ∀ k, k < 6 → me_i M (c + 22 + k) 0 = (if t.testBit k = true then 1 else 0)) : f_X0_countKnights c M = some (nI (cn t 12)) := by
  unfold f_X0_countKnights b_X0_countKnights
  rw [ck_e h.1.1, cP_e (e_knightBits h ht hR), cP_e (show f_J6_bitCount_0f7a4 (nI t) M = some (nI (cn t 12)) from bc_64 t ht)]
theorem w_step {M : Me} {g g2 : Nat → Nat → Int32} {a k : Nat} {v : Int32} (h : ∀ x y, (if x = a ∧ y = k then v else g x y) = g2 x y) : me_si (me_w M g) a k v = me_w M g2 := by
  show me_w M (fun x y => if x = a ∧ y = k then v else g x y) = _
  congr 1
  funext x y
  exact h x y
/-- Arrays.fill: a whole row of ints -/
theorem e_fill {M : Me} {a n : Nat} {v : Int32} (hk : me_k M a = some (20, n)) (hn : n < 1000) : f_J7_fill_53178 a v M = some (me_w M (fun x y => if x = a ∧ y < n then v else me_i M x y)) := by
  unfold f_J7_fill_53178 b_J7_fill_53178
  rw [al_e hk]
  have h := lp_up (step := fun s : Me × Int32 => s_J7_fill_53178_5 a v (nI n) s.1 s.2) (fun k => (me_w M (fun x y => if x = a ∧ y < k then v else me_i M x y), nI k)) n (me_w M (fun x y => if x = a ∧ y < n then v else me_i M x y), nI n) ?_ ?_ 0 (by omega)
  · rw [show (M, (0 : Int32)) = (me_w M (fun x y => if x = a ∧ y < 0 then v else me_i M x y), nI 0) by
      rw [nI_0]; congr 1; rw [← w_id M]; congr 1; funext x y; rw [if_neg (by omega)]; rfl]
    rw [h]; rfl
  · intro k hk2
    show s_J7_fill_53178_5 a v (nI n) _ (nI k) = _
    unfold s_J7_fill_53178_5 let_v
    rw [if_neg (nI_ge hk2 (by omega)), si_e (n := n) (by rw [k_w]; exact hk) hk2 (by omega), nI_1]
    show some (Sum.inl (me_si (me_w M _) a k v, nI (k + 1))) = _
    rw [w_step (g2 := fun x y => if x = a ∧ y < k + 1 then v else me_i M x y)]
    intro x y
    by_cases hx : x = a ∧ y = k
    · rw [if_pos hx, if_pos (by omega)]
    · rw [if_neg hx]
      by_cases hy : x = a ∧ y < k
      · rw [if_pos hy, if_pos (by omega)]
      · rw [if_neg hy, if_neg (by omega)]
  · show s_J7_fill_53178_5 a v (nI n) _ (nI n) = _
    unfold s_J7_fill_53178_5
    rw [if_pos (nI_le (Nat.le_refl _) (by omega))]

/-! snow -/
def chs (k : Nat) : Nat → Nat
  | 0 => 1
  | c + 1 => chs k c * (k - c) / (c + 1)
def cas (m k t : Nat) : Nat → Nat
  | 0 => 0
  | c + 1 => if c < m then cas m k t c else cas m k t c + chs k c * (10 - t) ^ c * t ^ (k - c)
theorem cas_s {m k t c : Nat} : cas m k t (c + 1) = if c < m then cas m k t c else cas m k t c + chs k c * (10 - t) ^ c * t ^ (k - c) := rfl
def hs (k c : Nat) : Nat → Nat
  | 0 => 0
  | n + 1 => hs k c n + (if k - cn n 12 = c then 1 else 0)
def srw (k : Nat) (G : Nat → Nat) : Nat → Nat
  | 0 => 0
  | n + 1 => srw k G n + G (k - cn n 12)
def sh (k : Nat) (G : Nat → Nat) (n : Nat) : Nat → Nat
  | 0 => 0
  | j + 1 => sh k G n j + hs k j n * G j
def gw (m k t c : Nat) : Nat := if c < m then 0 else t ^ (k - c) * (10 - t) ^ c
theorem hs_ok : ∀ k, k < 11 → ∀ c, c < 11 → hs k c (2 ^ k) = if c ≤ k then chs k c else 0 := by decide +kernel
theorem chs_le : ∀ k, k < 11 → ∀ c, c < 12 → chs k c ≤ 252 := by decide +kernel
theorem sh_s {k : Nat} {G : Nat → Nat} {n : Nat} : ∀ j, sh k G (n + 1) j = sh k G n j + (if k - cn n 12 < j then G (k - cn n 12) else 0) := by
  intro j
  induction j with
  | zero => rw [if_neg (by omega)]; rfl
  | succ j ih =>
    show sh k G (n + 1) j + (hs k j n + (if k - cn n 12 = j then 1 else 0)) * G j = sh k G n j + hs k j n * G j + _
    rw [ih, Nat.add_mul]
    by_cases q : k - cn n 12 = j
    · rw [if_pos q, if_neg (by omega), if_pos (by omega), q, Nat.one_mul]; omega
    · rw [if_neg q, Nat.zero_mul]
      by_cases q2 : k - cn n 12 < j
      · rw [if_pos q2, if_pos (by omega)]; omega
      · rw [if_neg q2, if_neg (by omega)]; omega
theorem sr_sh {k : Nat} {G : Nat → Nat} : ∀ n, srw k G n = sh k G n (k + 1) := by
  have z : ∀ j, sh k G 0 j = 0 := by
    intro j
    induction j with
    | zero => rfl
    | succ j ih =>
      show sh k G 0 j + hs k j 0 * G j = 0
      rw [ih, show hs k j 0 = 0 from rfl, Nat.zero_mul]
  intro n
  induction n with
  | zero => rw [z]; rfl
  | succ n ih =>
    rw [sh_s, if_pos (by omega), ← ih]; rfl
theorem sh_cas {m k t : Nat} (hk : k < 11) : ∀ j, j ≤ k + 1 → sh k (gw m k t) (2 ^ k) j = cas m k t j := by
  intro j
  induction j with
  | zero => intro _; rfl
  | succ j ih =>
    intro h
    show sh k (gw m k t) (2 ^ k) j + hs k j (2 ^ k) * gw m k t j = _
    rw [ih (by omega), hs_ok k hk j (by omega), if_pos (by omega), cas_s]
    unfold gw
    by_cases q : j < m
    · rw [if_pos q, if_pos q, Nat.mul_zero]; rfl
    · rw [if_neg q, if_neg q, Nat.mul_assoc, Nat.mul_comm ((10 - t) ^ j)]
theorem cn_s {r j : Nat} : cn r (j + 1) = cn r j + r / 2 ^ j % 2 := rfl
theorem cn_le (r : Nat) : ∀ j, cn r j ≤ j := by
  intro j
  induction j with
  | zero => exact Nat.le_refl _
  | succ j ih =>
    rw [cn_s]
    have : r / 2 ^ j % 2 < 2 := Nat.mod_lt _ (by omega)
    omega
theorem cn_hi {r k : Nat} (h : r < 2 ^ k) : ∀ j, k ≤ j → cn r j = cn r k := by
  intro j
  induction j with
  | zero => intro q; rw [show k = 0 by omega]
  | succ j ih =>
    intro q
    by_cases e : k = j + 1
    · rw [e]
    · rw [cn_s, ih (by omega), Nat.div_eq_of_lt (Nat.lt_of_lt_of_le h (Nat.pow_le_pow_right (by omega) (by omega)))]; rfl
def wt (r t : Nat) : Nat → Nat
  | 0 => 1
  | j + 1 => wt r t j * (if r / 2 ^ j % 2 = 1 then t else 10 - t)
theorem wt_eq {r t : Nat} : ∀ j, wt r t j = t ^ cn r j * (10 - t) ^ (j - cn r j) := by
  intro j
  induction j with
  | zero => show 1 = t ^ 0 * (10 - t) ^ 0; simp
  | succ j ih =>
    have hl := cn_le r j
    show wt r t j * _ = _
    rw [ih, cn_s]
    by_cases q : r / 2 ^ j % 2 = 1
    · rw [if_pos q, q, Nat.pow_succ, show j + 1 - (cn r j + 1) = j - cn r j by omega, Nat.mul_assoc, Nat.mul_comm ((10 - t) ^ (j - cn r j)), ← Nat.mul_assoc]
    · have q0 : r / 2 ^ j % 2 = 0 := by omega
      rw [if_neg q, q0, Nat.add_zero, show j + 1 - cn r j = (j - cn r j) + 1 by omega, Nat.pow_succ, Nat.mul_assoc]
/-! the class -/
theorem pw_all : ∀ b, b < 11 → ∀ e, e < 11 → it_r (fun s : Int64 × Int32 => s_X11_power_5 (nI b) (nI e) s.1 s.2) 12 (1, 0) = some (lN (b ^ e), nI e) := by decide +kernel
theorem e_power {b e : Nat} (hb : b < 11) (he : e < 11) (M : Me) : f_X11_power (nI b) (nI e) M = some (lN (b ^ e)) := by
  unfold f_X11_power b_X11_power
  rw [lp_some.mpr ⟨12, pw_all b hb e he⟩]; rfl
theorem e_gone {m k t : Nat} (hm : m ≤ 6) (hk : k ≤ 10) (ht : t ≤ 10) (M : Me) : f_X11_goneInTime (nI m) (nI k) (nI t) M = some (lN (cas m k t (k + 1))) := by
  unfold f_X11_goneInTime b_X11_goneInTime
  have h := lp_up (step := fun s : Int64 × Int64 × Int32 => s_X11_goneInTime_8 (nI m) (nI k) (nI t) M s.1 s.2.1 s.2.2) (fun c => (lN (cas m k t c), lN (chs k c), nI c)) (k + 1) (lN (cas m k t (k + 1)), lN (chs k (k + 1)), nI (k + 1)) ?_ ?_ 0 (by omega)
  · rw [show ((0 : Int64), (1 : Int64), (0 : Int32)) = (lN (cas m k t 0), lN (chs k 0), nI 0) by rw [nI_0]; rfl, h]; rfl
  · intro c hc
    have hl := chs_le k (by omega) c (by omega)
    show s_X11_goneInTime_8 (nI m) (nI k) (nI t) M (lN (cas m k t c)) (lN (chs k c)) (nI c) = some (Sum.inl (lN (cas m k t (c + 1)), lN (chs k c * (k - c) / (c + 1)), nI (c + 1)))
    have hml : chs k c * (k - c) ≤ 252 * 10 := Nat.mul_le_mul hl (by omega)
    unfold s_X11_goneInTime_8
    simp only [let_v]
    rw [if_neg (nI_nlt (by omega) (by omega)), c_10, pk_sub (by omega), pk_sub (show c ≤ k by omega), cL_e (e_power (by omega) (by omega) M), cL_e (e_power (by omega) (by omega) M), i_lt (by omega) (by omega), nI_1, nI_l (show c + 1 < 2 ^ 31 by omega), nI_l (show k - c < 2 ^ 31 by omega), lN_mul, lN_mul, lN_mul, lN_add, cas_s, pk_lDiv (by omega) (by omega) (by omega)]
    have hne : ¬ lN (c + 1) = 0 := by
      have e : (0 : Int64) = lN 0 := by decide +kernel
      rw [e]
      intro z
      have := (pk_lEQ (by omega) (by omega)).mp z
      omega
    by_cases q : c < m
    · rw [if_pos q, if_pos q]
      simp only [Option.bind_some]
      rw [if_neg hne]
    · rw [if_neg q, if_neg q]
      simp only [Option.bind_some]
      rw [if_neg hne]
  · show s_X11_goneInTime_8 (nI m) (nI k) (nI t) M _ _ (nI (k + 1)) = _
    unfold s_X11_goneInTime_8
    rw [if_pos (nI_lt (by omega) (by omega))]
/-! the reference -/
theorem e_hasR {M : Me} {r i : Nat} (hr : r < 2 ^ 31) (hi : i < 12) : f_X12_has (nI r) (nI i) M = some (if r / 2 ^ i % 2 = 1 then 1 else 0) := by
  unfold f_X12_has b_X12_has
  have hs : ((nI i &&& 31).toBitVec.smod 32).toNat = i := by
    have : ∀ k, k < 12 → ((nI k &&& 31).toBitVec.smod 32).toNat = k := by decide +kernel
    exact this i hi
  have hm : r / 2 ^ i % 2 < 2 := Nat.mod_lt _ (by omega)
  rw [pk_shrN hr _ i hs, pk_andN (Nat.lt_of_le_of_lt (Nat.div_le_self _ _) (by omega)) 1 (by decide +kernel), Nat.pow_one, c_1, i_eq (by omega) (by omega)]
  split <;> rfl
theorem e_sn64 {M : Me} {k t r : Nat} (hk : k ≤ 10) (ht : t ≤ 10) (hr : r < 2 ^ 31) : lp (fun s : Int64 × Int32 => s_X12_snow_64 (nI k) (nI t) M (nI r) s.1 s.2) (1, 0) = some (lN (wt r t k), nI k) := by
  have h := lp_up (step := fun s : Int64 × Int32 => s_X12_snow_64 (nI k) (nI t) M (nI r) s.1 s.2) (fun j => (lN (wt r t j), nI j)) k (lN (wt r t k), nI k) ?_ ?_ 0 (by omega)
  · rw [show ((1 : Int64), (0 : Int32)) = (lN (wt r t 0), nI 0) by rw [nI_0]; rfl, h]
  · intro j hj
    show s_X12_snow_64 (nI k) (nI t) M (nI r) (lN (wt r t j)) (nI j) = some (Sum.inl (lN (wt r t j * _), nI (j + 1)))
    unfold s_X12_snow_64
    simp only [let_v]
    rw [if_neg (nI_ge hj (by omega)), cP_e (e_hasR hr (by omega)), c_10, pk_sub (by omega), nI_l (show 10 - t < 2 ^ 31 by omega), nI_l (show t < 2 ^ 31 by omega), nI_1]
    by_cases q : r / 2 ^ j % 2 = 1
    · rw [if_pos q, if_neg (by decide), if_pos q]
      simp only [Option.bind_some]
      rw [lN_mul]
    · rw [if_neg q, if_pos rfl, if_neg q]
      simp only [Option.bind_some]
      rw [lN_mul]
  · show s_X12_snow_64 (nI k) (nI t) M (nI r) _ (nI k) = _
    unfold s_X12_snow_64
    rw [if_pos (nI_le (Nat.le_refl _) (by omega))]
theorem s_shl : ∀ k, k < 11 → (1 : Int32) <<< (nI k &&& 31) = nI (2 ^ k) := by decide +kernel
theorem e_sn50 {M : Me} {m k t : Nat} (hm : m ≤ 6) (hk : k ≤ 10) (ht : t ≤ 10) : lp (fun s : Int64 × Int32 => s_X12_snow_50 (nI m) (nI k) (nI t) M s.1 s.2) (0, 0) = some (lN (cas m k t (k + 1)), nI (2 ^ k)) := by
  have hp : 2 ^ k ≤ 2 ^ 10 := Nat.pow_le_pow_right (by omega) hk
  have h := lp_up (step := fun s : Int64 × Int32 => s_X12_snow_50 (nI m) (nI k) (nI t) M s.1 s.2) (fun r => (lN (srw k (gw m k t) r), nI r)) (2 ^ k) (lN (srw k (gw m k t) (2 ^ k)), nI (2 ^ k)) ?_ ?_ 0 (Nat.zero_le _)
  · rw [show ((0 : Int64), (0 : Int32)) = (lN (srw k (gw m k t) 0), nI 0) by rw [nI_0]; rfl, h, sr_sh, sh_cas (by omega) _ (Nat.le_refl _)]
  · intro r hr
    show s_X12_snow_50 (nI m) (nI k) (nI t) M (lN (srw k (gw m k t) r)) (nI r) = some (Sum.inl (lN (srw k (gw m k t) r + gw m k t (k - cn r 12)), nI (r + 1)))
    have e12 : cn r 12 = cn r k := cn_hi hr 12 (by omega)
    have hl := cn_le r k
    unfold s_X12_snow_50 gw
    simp only [let_v]
    rw [s_shl k (by omega), if_neg (nI_ge hr (by omega)), e_sn64 hk ht (by omega)]
    simp only [Option.bind_some]
    rw [cP_e (e_bits (by omega)), e12, pk_sub hl, i_lt (by omega) (by omega), nI_1]
    by_cases q : k - cn r k < m
    · rw [if_pos q, if_pos q]
      simp only [Option.bind_some]
      rw [show (0 : Int64) = lN 0 by decide +kernel, lN_add]
    · rw [if_neg q, if_neg q]
      simp only [Option.bind_some]
      rw [lN_add, wt_eq, show k - (k - cn r k) = cn r k by omega]
  · show s_X12_snow_50 (nI m) (nI k) (nI t) M _ (nI (2 ^ k)) = _
    unfold s_X12_snow_50
    rw [s_shl k (by omega), if_pos (nI_le (Nat.le_refl _) (by omega))]
noncomputable def gs_m (a b : Int64) : Option (Int64 × Int64) := it_r (fun s : Int64 × Int64 => s_X12_snow_143 s.1 s.2) 60 (a, b)
noncomputable def sn_ok (m k t : Nat) : Bool := match gc_c (lN (cas m k t (k + 1))) (lN (10 ^ k)), gs_m (lN (cas m k t (k + 1))) (lN (10 ^ k)) with
  | some (g, _, _), some (d, _) => decide (0 ≤ lg_cmp g 1) && decide (¬ g = 0) && decide (d = g)
  | _, _ => false
theorem sn_0 : ∀ m, m < 7 → ∀ k, k < 4 → ∀ t, t < 11 → sn_ok m k t = true := by decide +kernel
theorem sn_4 : ∀ m, m < 7 → ∀ k, k < 4 → ∀ t, t < 11 → sn_ok m (k + 4) t = true := by decide +kernel
theorem sn_8 : ∀ m, m < 7 → ∀ k, k < 3 → ∀ t, t < 11 → sn_ok m (k + 8) t = true := by decide +kernel
theorem sn_all {m k t : Nat} (hm : m ≤ 6) (hk : k ≤ 10) (ht : t ≤ 10) : sn_ok m k t = true := by
  by_cases h3 : k < 4
  · exact sn_0 m (by omega) k h3 t (by omega)
  · by_cases h6 : k < 8
    · have := sn_4 m (by omega) (k - 4) (by omega) t (by omega)
      rwa [show k - 4 + 4 = k by omega] at this
    · have := sn_8 m (by omega) (k - 8) (by omega) t (by omega)
      rwa [show k - 8 + 8 = k by omega] at this
theorem iv_op25 : ∀ n M, n < 512 → Iv n M → op_25 (Iv (n + 1)) M := by
  intro n M hn h x1 x2 x3 x4
  have hL := h.1
  have ex : f_X11_snow 0 x1 x2 x3 x4 M = ck M 0 11 (b_X11_snow 0 x1 x2 x3 x4 M) := rfl
  have em : f_X12_snow 70 x1 x2 x3 x4 M = ck M 70 12 (b_X12_snow 70 x1 x2 x3 x4 M) := rfl
  by_cases h1 : in_v x1 0 6 = 0
  · refine ⟨-1000000000000000002, ?_, ?_, h.next hn⟩
    · rw [ex, ck_e (lk_0 hL)]; unfold b_X11_snow; rw [cP_e (e_isWithin _ _ _ _), if_pos h1]
    · rw [em, ck_e (lk_70 hL)]; unfold b_X12_snow; rw [cP_e (e_in _ _ _ _), if_pos h1]
  by_cases h2 : in_v x2 0 10 = 0
  · refine ⟨-1000000000000000002, ?_, ?_, h.next hn⟩
    · rw [ex, ck_e (lk_0 hL)]; unfold b_X11_snow; rw [cP_e (e_isWithin _ _ _ _), if_neg h1, cP_e (e_isWithin _ _ _ _), if_pos h2]
    · rw [em, ck_e (lk_70 hL)]; unfold b_X12_snow; rw [cP_e (e_in _ _ _ _), if_neg h1, cP_e (e_in _ _ _ _), if_pos h2]
  by_cases h3 : in_v x3 0 10 = 0
  · refine ⟨-1000000000000000002, ?_, ?_, h.next hn⟩
    · rw [ex, ck_e (lk_0 hL)]; unfold b_X11_snow; rw [cP_e (e_isWithin _ _ _ _), if_neg h1, cP_e (e_isWithin _ _ _ _), if_neg h2, cP_e (e_tenths _ _), if_pos h3]
    · rw [em, ck_e (lk_70 hL)]; unfold b_X12_snow; rw [cP_e (e_in _ _ _ _), if_neg h1, cP_e (e_in _ _ _ _), if_neg h2, cP_e (e_in _ _ _ _), if_pos h3]
  by_cases h4 : in_v x4 0 1 = 0
  · refine ⟨-1000000000000000002, ?_, ?_, h.next hn⟩
    · rw [ex, ck_e (lk_0 hL)]; unfold b_X11_snow; rw [cP_e (e_isWithin _ _ _ _), if_neg h1, cP_e (e_isWithin _ _ _ _), if_neg h2, cP_e (e_tenths _ _), if_neg h3, cP_e (e_isWithin _ _ _ _), if_pos h4]
    · rw [em, ck_e (lk_70 hL)]; unfold b_X12_snow; rw [cP_e (e_in _ _ _ _), if_neg h1, cP_e (e_in _ _ _ _), if_neg h2, cP_e (e_in _ _ _ _), if_neg h3, cP_e (e_in _ _ _ _), if_pos h4]
  have g1 := h1
  have g2 := h2
  have g3 := h3
  rw [c_0, c_6] at g1
  rw [c_0, c_10] at g2 g3
  obtain ⟨m, -, hm, rfl⟩ := in_yes (by decide) (by decide) g1
  obtain ⟨k, -, hk, rfl⟩ := in_yes (by decide) (by decide) g2
  obtain ⟨t, -, ht, rfl⟩ := in_yes (by decide) (by decide) g3
  have hok := sn_all hm hk ht
  unfold sn_ok at hok
  cases hc : gc_c (lN (cas m k t (k + 1))) (lN (10 ^ k)) with
  | none => rw [hc] at hok; cases hok
  | some zc =>
    obtain ⟨g, g', g''⟩ := zc
    cases hd : gs_m (lN (cas m k t (k + 1))) (lN (10 ^ k)) with
    | none => rw [hc, hd] at hok; cases hok
    | some zd =>
      obtain ⟨d, d'⟩ := zd
      rw [hc, hd] at hok
      simp only [Bool.and_eq_true, decide_eq_true_eq] at hok
      obtain ⟨⟨k1, k2⟩, k3⟩ := hok
      subst k3
      have ecd : f_X11_commonDivisor (lN (cas m k t (k + 1))) (lN (10 ^ k)) M = some d := by
        unfold f_X11_commonDivisor b_X11_commonDivisor
        rw [lp_some.mpr ⟨60, hc⟩]; rfl
      refine ⟨if x4 = 0 then lN (cas m k t (k + 1)) / d else lN (10 ^ k) / d, ?_, ?_, h.next hn⟩
      · rw [ex, ck_e (lk_0 hL)]; unfold b_X11_snow
        rw [cP_e (e_isWithin _ _ _ _), if_neg h1, cP_e (e_isWithin _ _ _ _), if_neg h2, cP_e (e_tenths _ _), if_neg h3, cP_e (e_isWithin _ _ _ _), if_neg h4, cL_e (e_gone hm hk ht M), cL_e (e_tenTo hk M)]
        have ep : f_X11_partOf (lN (cas m k t (k + 1))) (lN (10 ^ k)) x4 M = some (if x4 = 0 then lN (cas m k t (k + 1)) / d else lN (10 ^ k) / d) := by
          unfold f_X11_partOf b_X11_partOf
          rw [cL_e ecd, if_pos k1, if_neg k2, if_neg k2, b_ite]
        rw [cL_e ep]
      · rw [em, ck_e (lk_70 hL)]; unfold b_X12_snow
        rw [cP_e (e_in _ _ _ _), if_neg h1, cP_e (e_in _ _ _ _), if_neg h2, cP_e (e_in _ _ _ _), if_neg h3, cP_e (e_in _ _ _ _), if_neg h4, e_sn50 hm hk ht]
        simp only [Option.bind_some]
        rw [cL_e (e_tens hk _), lp_some.mpr ⟨60, hd⟩]
        simp only [Option.bind_some]
        rw [if_neg k2, if_neg k2, b_ite]

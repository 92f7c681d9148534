theorem si_self {M : Me} {a k : Nat} {v : Int32} : me_i (me_si M a k v) a k = v := if_pos ⟨rfl, rfl⟩
/-! kept, keeps: finitely many questions, each answered by running both sides -/
theorem e_tenths (x : Int32) (M : Me) : f_X11_areTenths x M = some (in_v x 0 10) := by
  unfold f_X11_areTenths b_X11_areTenths
  rw [cP_e (e_isWithin _ _ _ _)]
  unfold in_v
  split
  · rfl
  · split <;> rfl
theorem pw_ten : ∀ k, k ≤ 10 → it_r (fun s : Int64 × Int32 => s_X11_power_5 10 (nI k) s.1 s.2) 12 (1, 0) = some (lN (10 ^ k), nI k) := by decide +kernel
theorem e_tenTo {k : Nat} (hk : k ≤ 10) (M : Me) : f_X11_tenTo (nI k) M = some (lN (10 ^ k)) := by
  unfold f_X11_tenTo b_X11_tenTo
  have h : f_X11_power 10 (nI k) M = some (lN (10 ^ k)) := by
    unfold f_X11_power b_X11_power
    rw [lp_some.mpr ⟨12, pw_ten k hk⟩]; rfl
  rw [cL_e h]
theorem tn_ten : ∀ k, k ≤ 10 → it_r (fun s : Int64 × Int32 => s_X12_tens_4 (nI k) s.1 s.2) 12 (1, 0) = some (lN (10 ^ k), nI k) := by decide +kernel
theorem e_tens {k : Nat} (hk : k ≤ 10) (M : Me) : f_X12_tens (nI k) M = some (lN (10 ^ k)) := by
  unfold f_X12_tens b_X12_tens
  rw [lp_some.mpr ⟨12, tn_ten k hk⟩]; rfl
/-- the class's -/
def exv (j u : Nat) (r : Int64) : Int64 := (nI u).toInt64 * lN (10 ^ (j - 1)) + 10 * r
def kbv (j t u : Nat) (r : Int64) : Int64 := (nI t).toInt64 * ((((nI (j - 1)) * nI u).toInt64 * lN (10 ^ (j - 1))) / 10) + ((10 : Int32) - nI t).toInt64 * (lN (10 ^ (j - 1)) + r)
theorem e_exch {j u : Nat} {r : Int64} (h1 : 1 ≤ j) (h2 : j ≤ 8) (M : Me) : f_X11_exchanged (nI j) (nI u) r M = some (exv j u r) := by
  unfold f_X11_exchanged b_X11_exchanged
  rw [c_1, pk_sub h1, cL_e (e_tenTo (by omega) M)]
  rfl
theorem e_kback {j t u : Nat} {r : Int64} (h1 : 1 ≤ j) (h2 : j ≤ 8) (M : Me) : f_X11_keptBack (nI j) (nI t) (nI u) r M = some (kbv j t u r) := by
  unfold f_X11_keptBack b_X11_keptBack
  simp only [let_v]
  rw [c_1, pk_sub h1, cL_e (e_tenTo (by omega) M), cL_e (e_tenTo (by omega) M)]
  rfl
def mkv (t u : Nat) : Nat → Int64
  | 0 => 0
  | j + 1 => mx_l (exv (j + 1) u (mkv t u j)) (kbv (j + 1) t u (mkv t u j))
theorem e_most {m t u : Nat} (hm : m ≤ 8) (M : Me) : f_X11_mostKept (nI m) (nI t) (nI u) M = some (mkv t u m) := by
  unfold f_X11_mostKept b_X11_mostKept
  have hl := lp_up (step := fun s : Int64 × Int32 => s_X11_mostKept_5 (nI m) (nI t) (nI u) M s.1 s.2) (fun j => (mkv t u j, nI (j + 1))) m (mkv t u m, nI (m + 1)) ?_ ?_ 0 (by omega)
  · rw [show ((0 : Int64), (1 : Int32)) = (mkv t u 0, nI (0 + 1)) from by rw [c_1]; rfl, hl]; rfl
  · intro j hj
    show s_X11_mostKept_5 (nI m) (nI t) (nI u) M (mkv t u j) (nI (j + 1)) = _
    unfold s_X11_mostKept_5
    simp only [let_v]
    rw [if_neg (nI_nlt (by omega) (by omega)), cL_e (e_exch (by omega) (by omega) M), cL_e (e_kback (by omega) (by omega) M), nI_1]
    rfl
  · show s_X11_mostKept_5 (nI m) (nI t) (nI u) M (mkv t u m) (nI (m + 1)) = _
    unfold s_X11_mostKept_5
    rw [if_pos (nI_lt (by omega) (by omega))]
/-- the reference's -/
def hex (j u : Nat) (w : Int64) : Int64 := lN (10 ^ 9) / 10 * (nI u).toInt64 + w
def hkb (j t u : Nat) (w : Int64) : Int64 := (lN (10 ^ 9) / 10 * (nI u).toInt64 * (nI (j - 1)).toInt64 * (nI t).toInt64 + (lN (10 ^ 9) + w) * ((10 : Int32) - nI t).toInt64) / 10
def hkf (j t u : Nat) (w : Int64) : Int32 := if lg_cmp (hkb j t u w) (hex j u w) ≤ 0 then 0 else 1
def hov (t u : Nat) : Nat → Int64
  | 0 => 0
  | j + 1 => if hkf (j + 1) t u (hov t u j) = 0 then hex (j + 1) u (hov t u j) else hkb (j + 1) t u (hov t u j)
def hof (t u : Nat) : Nat → Int32
  | 0 => 0
  | j + 1 => hkf (j + 1) t u (hov t u j)
theorem hkf_01 (j t u : Nat) (w : Int64) : hkf j t u w = 0 ∨ hkf j t u w = 1 := by
  unfold hkf
  split
  · exact Or.inl rfl
  · exact Or.inr rfl
theorem e_hosted {M : Me} {m t u : Nat} (h : Lay M) (hm : m ≤ 8) : f_X12_hosted 70 (nI m) (nI t) (nI u) M = some (hov t u m, me_si M 70 29 (hof t u m)) := by
  unfold f_X12_hosted b_X12_hosted
  rw [ck_e (lk_70 h), show (9 : Int32) = nI 9 by decide +kernel, cL_e (e_tens (by decide) M), pz_e (lk_70 h) (Or.inl rfl)]
  have hl := lp_up (step := fun s : Me × Int64 × Int32 => s_X12_hosted_18 70 (nI m) (nI t) (nI u) (lN (10 ^ 9)) s.1 s.2.1 s.2.2) (fun j => (me_si M 70 29 (hof t u j), hov t u j, nI (j + 1))) m (me_si M 70 29 (hof t u m), hov t u m, nI (m + 1)) ?_ ?_ 0 (by omega)
  · rw [show (me_si M 70 29 0, (0 : Int64), (1 : Int32)) = (me_si M 70 29 (hof t u 0), hov t u 0, nI (0 + 1)) from by rw [c_1]; rfl, hl]; rfl
  · intro j hj
    show s_X12_hosted_18 70 (nI m) (nI t) (nI u) (lN (10 ^ 9)) (me_si M 70 29 (hof t u j)) (hov t u j) (nI (j + 1)) = _
    unfold s_X12_hosted_18
    simp only [let_v]
    rw [if_neg (nI_nlt (by omega) (by omega)), c_1, pk_sub (by omega), b_ite]
    show pz (me_si M 70 29 (hof t u j)) 70 12 29 (hkf (j + 1) t u (hov t u j)) _ = _
    rw [pz_e (lk_70 (la_si h)) (hkf_01 _ _ _ _), gi_e (lk_70 (la_si (la_si h))), si_self, b_ite, nI_add]
    refine congrArg (fun z => some (Sum.inl z)) ?_
    refine Prod.ext ?_ rfl
    show me_si (me_si M 70 29 (hof t u j)) 70 29 (hkf (j + 1) t u (hov t u j)) = me_si M 70 29 (hkf (j + 1) t u (hov t u j))
    show me_w M _ = me_w M _
    refine congrArg (me_w M) ?_
    funext x y
    show (if x = 70 ∧ y = 29 then _ else if x = 70 ∧ y = 29 then _ else me_i M x y) = (if x = 70 ∧ y = 29 then _ else me_i M x y)
    by_cases q : x = 70 ∧ y = 29
    · rw [if_pos q, if_pos q]
    · rw [if_neg q, if_neg q, if_neg q]
  · show s_X12_hosted_18 70 (nI m) (nI t) (nI u) (lN (10 ^ 9)) (me_si M 70 29 (hof t u m)) (hov t u m) (nI (m + 1)) = _
    unfold s_X12_hosted_18
    rw [if_pos (nI_lt (by omega) (by omega))]
/-- what both gcds come to -/
noncomputable def gc_c (a b : Int64) : Option (Int64 × Int64 × Int32) := it_r (fun s : Int64 × Int64 × Int32 => s_X11_commonDivisor_9 s.1 s.2.1 s.2.2) 60 (a, b, 0)
noncomputable def gc_m (a b : Int64) : Option (Int64 × Int64) := it_r (fun s : Int64 × Int64 => s_X12_kept_68 s.1 s.2) 60 (a, b)
noncomputable def kp_ok (m t u : Nat) : Bool := match gc_c (mkv t u m) (lN (10 ^ m)), gc_m (hov t u m) (lN (10 ^ 9)) with
  | some (g, _, _), some (d, _) => decide (0 ≤ lg_cmp g 1) && decide (¬ g = 0) && decide (¬ d = 0) && decide (mkv t u m / g = hov t u m / d) && decide (lN (10 ^ m) / g = lN (10 ^ 9) / d)
  | _, _ => false
theorem kp_0 : ∀ m, m < 3 → ∀ t, t < 11 → ∀ u, u < 11 → kp_ok m t u = true := by decide +kernel
theorem kp_3 : ∀ m, m < 3 → ∀ t, t < 11 → ∀ u, u < 11 → kp_ok (m + 3) t u = true := by decide +kernel
theorem kp_6 : ∀ m, m < 3 → ∀ t, t < 11 → ∀ u, u < 11 → kp_ok (m + 6) t u = true := by decide +kernel
theorem kp_all {m t u : Nat} (hm : m ≤ 8) (ht : t ≤ 10) (hu : u ≤ 10) : kp_ok m t u = true := by
  by_cases h3 : m < 3
  · exact kp_0 m h3 t (by omega) u (by omega)
  · by_cases h6 : m < 6
    · have := kp_3 (m - 3) (by omega) t (by omega) u (by omega)
      rwa [show m - 3 + 3 = m by omega] at this
    · have := kp_6 (m - 6) (by omega) t (by omega) u (by omega)
      rwa [show m - 6 + 6 = m by omega] at this
theorem ke_all : ∀ m, m < 8 → ∀ t, t < 11 → ∀ u, u < 11 → (if lg_cmp (kbv (m + 1) t u (mkv t u m)) (exv (m + 1) u (mkv t u m)) ≤ 0 then (0 : Int32) else 1) = hof t u (m + 1) := by decide +kernel
theorem iv_29 {n : Nat} {M : Me} {v : Int32} (hn : n < 512) (h : Iv n M) : Iv (n + 1) (me_si M 70 29 v) := by
  refine (h.next hn).same rfl (fun a k _ => rfl) h.2.2.2.1 (fun a k ha => ?_)
  rw [i_si, if_neg (by omega)]
/-- kept -/
theorem iv_op20 : ∀ n M, n < 512 → Iv n M → op_20 (Iv (n + 1)) M := by
  intro n M hn h x1 x2 x3 x4
  have hL := h.1
  have ex : f_X11_kept 0 x1 x2 x3 x4 M = ck M 0 11 (b_X11_kept 0 x1 x2 x3 x4 M) := rfl
  have em : f_X12_kept 70 x1 x2 x3 x4 M = ck M 70 12 (b_X12_kept 70 x1 x2 x3 x4 M) := rfl
  by_cases h1 : in_v x1 0 8 = 0
  · refine ⟨-1000000000000000002, M, ?_, ?_, h.next hn⟩
    · rw [ex, ck_e (lk_0 hL)]; unfold b_X11_kept; rw [cP_e (e_isWithin _ _ _ _), if_pos h1]
    · rw [em, ck_e (lk_70 hL)]; unfold b_X12_kept; rw [cP_e (e_in _ _ _ _), if_pos h1]
  by_cases h2 : in_v x2 0 10 = 0
  · refine ⟨-1000000000000000002, M, ?_, ?_, h.next hn⟩
    · rw [ex, ck_e (lk_0 hL)]; unfold b_X11_kept; rw [cP_e (e_isWithin _ _ _ _), if_neg h1, cP_e (e_tenths _ _), if_pos h2]
    · rw [em, ck_e (lk_70 hL)]; unfold b_X12_kept; rw [cP_e (e_in _ _ _ _), if_neg h1, cP_e (e_in _ _ _ _), if_pos h2]
  by_cases h3 : in_v x3 0 10 = 0
  · refine ⟨-1000000000000000002, M, ?_, ?_, h.next hn⟩
    · rw [ex, ck_e (lk_0 hL)]; unfold b_X11_kept; rw [cP_e (e_isWithin _ _ _ _), if_neg h1, cP_e (e_tenths _ _), if_neg h2, cP_e (e_tenths _ _), if_pos h3]
    · rw [em, ck_e (lk_70 hL)]; unfold b_X12_kept; rw [cP_e (e_in _ _ _ _), if_neg h1, cP_e (e_in _ _ _ _), if_neg h2, cP_e (e_in _ _ _ _), if_pos h3]
  by_cases h4 : in_v x4 0 1 = 0
  · refine ⟨-1000000000000000002, M, ?_, ?_, h.next hn⟩
    · rw [ex, ck_e (lk_0 hL)]; unfold b_X11_kept; rw [cP_e (e_isWithin _ _ _ _), if_neg h1, cP_e (e_tenths _ _), if_neg h2, cP_e (e_tenths _ _), if_neg h3, cP_e (e_isWithin _ _ _ _), if_pos h4]
    · rw [em, ck_e (lk_70 hL)]; unfold b_X12_kept; rw [cP_e (e_in _ _ _ _), if_neg h1, cP_e (e_in _ _ _ _), if_neg h2, cP_e (e_in _ _ _ _), if_neg h3, cP_e (e_in _ _ _ _), if_pos h4]
  have g1 := h1
  have g2 := h2
  have g3 := h3
  rw [c_0, show (8 : Int32) = nI 8 by decide +kernel] at g1
  rw [c_0, c_10] at g2 g3
  obtain ⟨m, -, hm, rfl⟩ := in_yes (by decide) (by decide) g1
  obtain ⟨t, -, ht, rfl⟩ := in_yes (by decide) (by decide) g2
  obtain ⟨u, -, hu, rfl⟩ := in_yes (by decide) (by decide) g3
  have hk := kp_all hm ht hu
  unfold kp_ok at hk
  cases hc : gc_c (mkv t u m) (lN (10 ^ m)) with
  | none => rw [hc] at hk; cases hk
  | some zc =>
    obtain ⟨g, g', g''⟩ := zc
    cases hd : gc_m (hov t u m) (lN (10 ^ 9)) with
    | none => rw [hc, hd] at hk; cases hk
    | some zd =>
      obtain ⟨d, d'⟩ := zd
      rw [hc, hd] at hk
      simp only [Bool.and_eq_true, decide_eq_true_eq] at hk
      obtain ⟨⟨⟨⟨k1, k2⟩, k3⟩, k4⟩, k5⟩ := hk
      have ecd : f_X11_commonDivisor (mkv t u m) (lN (10 ^ m)) M = some g := by
        unfold f_X11_commonDivisor b_X11_commonDivisor
        rw [lp_some.mpr ⟨60, hc⟩]; rfl
      refine ⟨if x4 = 0 then mkv t u m / g else lN (10 ^ m) / g, me_si M 70 29 (hof t u m), ?_, ?_, iv_29 hn h⟩
      · rw [ex, ck_e (lk_0 hL)]; unfold b_X11_kept
        rw [cP_e (e_isWithin _ _ _ _), if_neg h1, cP_e (e_tenths _ _), if_neg h2, cP_e (e_tenths _ _), if_neg h3, cP_e (e_isWithin _ _ _ _), if_neg h4, cL_e (e_most hm M), cL_e (e_tenTo (by omega) M)]
        have ep : f_X11_partOf (mkv t u m) (lN (10 ^ m)) x4 M = some (if x4 = 0 then mkv t u m / g else lN (10 ^ m) / g) := by
          unfold f_X11_partOf b_X11_partOf
          rw [cL_e ecd, if_pos k1, if_neg k2, if_neg k2, b_ite]
        rw [cL_e ep]
      · rw [em, ck_e (lk_70 hL)]; unfold b_X12_kept
        rw [cP_e (e_in _ _ _ _), if_neg h1, cP_e (e_in _ _ _ _), if_neg h2, cP_e (e_in _ _ _ _), if_neg h3, cP_e (e_in _ _ _ _), if_neg h4, cE_e (e_hosted hL hm), show (9 : Int32) = nI 9 by decide +kernel, cL_e (e_tens (by decide) _), lp_some.mpr ⟨60, hd⟩]
        simp only [Option.bind_some]
        rw [if_neg k3, if_neg k3, b_ite, k4, k5]
/-- keeps -/
theorem iv_op21 : ∀ n M, n < 512 → Iv n M → op_21 (Iv (n + 1)) M := by
  intro n M hn h x1 x2 x3
  have hL := h.1
  have ex : f_X11_keeps 0 x1 x2 x3 M = ck M 0 11 (b_X11_keeps 0 x1 x2 x3 M) := rfl
  have em : f_X12_keeps 70 x1 x2 x3 M = ck M 70 12 (b_X12_keeps 70 x1 x2 x3 M) := rfl
  by_cases h1 : in_v x1 1 8 = 0
  · refine ⟨-2, M, ?_, ?_, h.next hn⟩
    · rw [ex, ck_e (lk_0 hL)]; unfold b_X11_keeps; rw [cP_e (e_isWithin _ _ _ _), if_pos h1]
    · rw [em, ck_e (lk_70 hL)]; unfold b_X12_keeps; rw [cP_e (e_in _ _ _ _), if_pos h1]
  by_cases h2 : in_v x2 0 10 = 0
  · refine ⟨-2, M, ?_, ?_, h.next hn⟩
    · rw [ex, ck_e (lk_0 hL)]; unfold b_X11_keeps; rw [cP_e (e_isWithin _ _ _ _), if_neg h1, cP_e (e_tenths _ _), if_pos h2]
    · rw [em, ck_e (lk_70 hL)]; unfold b_X12_keeps; rw [cP_e (e_in _ _ _ _), if_neg h1, cP_e (e_in _ _ _ _), if_pos h2]
  by_cases h3 : in_v x3 0 10 = 0
  · refine ⟨-2, M, ?_, ?_, h.next hn⟩
    · rw [ex, ck_e (lk_0 hL)]; unfold b_X11_keeps; rw [cP_e (e_isWithin _ _ _ _), if_neg h1, cP_e (e_tenths _ _), if_neg h2, cP_e (e_tenths _ _), if_pos h3]
    · rw [em, ck_e (lk_70 hL)]; unfold b_X12_keeps; rw [cP_e (e_in _ _ _ _), if_neg h1, cP_e (e_in _ _ _ _), if_neg h2, cP_e (e_in _ _ _ _), if_pos h3]
  have g1 := h1
  have g2 := h2
  have g3 := h3
  rw [c_1, show (8 : Int32) = nI 8 by decide +kernel] at g1
  rw [c_0, c_10] at g2 g3
  obtain ⟨m, hm1, hm, rfl⟩ := in_yes (by decide) (by decide) g1
  obtain ⟨t, -, ht, rfl⟩ := in_yes (by decide) (by decide) g2
  obtain ⟨u, -, hu, rfl⟩ := in_yes (by decide) (by decide) g3
  obtain ⟨m, rfl⟩ : ∃ z, m = z + 1 := ⟨m - 1, by omega⟩
  have hke := ke_all m (by omega) t (by omega) u (by omega)
  have h01 : hof t u (m + 1) = 0 ∨ hof t u (m + 1) = 1 := hkf_01 _ _ _ _
  refine ⟨hof t u (m + 1), me_si M 70 29 (hof t u (m + 1)), ?_, ?_, iv_29 hn h⟩
  · rw [ex, ck_e (lk_0 hL)]; unfold b_X11_keeps
    rw [cP_e (e_isWithin _ _ _ _), if_neg h1, cP_e (e_tenths _ _), if_neg h2, cP_e (e_tenths _ _), if_neg h3]
    rw [show nI (m + 1) - 1 = nI m from nI_pred m, cL_e (e_most (by omega) M), cL_e (e_kback (by omega) hm M), cL_e (e_exch (by omega) hm M), b_ite, hke]
  · rw [em, ck_e (lk_70 hL)]; unfold b_X12_keeps
    rw [cP_e (e_in _ _ _ _), if_neg h1, cP_e (e_in _ _ _ _), if_neg h2, cP_e (e_in _ _ _ _), if_neg h3, cE_e (e_hosted hL hm), gi_e (lk_70 (la_si hL)), si_self, b_ite]
    rcases h01 with e | e
    · rw [e]; rfl
    · rw [e]; rfl

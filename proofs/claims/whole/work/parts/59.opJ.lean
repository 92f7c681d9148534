/-! who is there and lives -/
def wl (st : St) (t : Nat) (x : Int32) : Int32 := if tv t x = 0 then 0 else if st 77 x.toNatClampNeg ≤ 0 then 0 else 1
theorem wl_yes {st : St} {t : Nat} {x : Int32} (h : ¬ wl st t x = 0) : ∃ k, k < 6 ∧ x = nI k ∧ t.testBit k = true ∧ ¬ st 77 k ≤ 0 := by
  unfold wl at h
  split at h
  · exact absurd rfl h
  · rename_i h1
    obtain ⟨k, hk, rfl, hb⟩ := tv_yes h1
    rw [nI_clamp (by omega)] at h
    split at h
    · exact absurd rfl h
    · exact ⟨k, hk, rfl, hb, by assumption⟩
theorem wl_01 (st : St) (t : Nat) (x : Int32) : wl st t x = 0 ∨ wl st t x = 1 := by
  unfold wl
  split
  · exact Or.inl rfl
  · split
    · exact Or.inl rfl
    · exact Or.inr rfl
theorem e_isAlive {M : Me} {c : Nat} {π : Nat → Nat} {st : St} {t nd sg : Nat} {x : Int32} (hCL : CL M c) (hR : Rep M c π st t nd sg) : f_X4_isAlive (kn_a c x) M = some (wl st t x) := by
  unfold f_X4_isAlive b_X4_isAlive wl
  rw [ck_e (kn_kind hCL), gi_e (kn_kind hCL), kn_there hR]
  by_cases h : tv t x = 0
  · rw [if_pos h, if_pos h]; rfl
  · rw [if_neg h, if_neg h, gi_e (kn_kind hCL)]
    obtain ⟨k, hk, rfl, hb⟩ := tv_yes h
    rw [kn_k hk, ((hR.2.1 k hk).2 hb).2.2.1, nI_clamp (by omega)]
    split <;> rfl
theorem e_isWell {M : Me} {t : Nat} {x : Int32} (h : Lay M) (hv : me_i M 70 3 = nI t) (ht : t < 64) : f_X12_isWell 70 x M = some (wl (st_m M) t x) := by
  unfold f_X12_isWell b_X12_isWell wl
  rw [ck_e (lk_70 h), cP_e (e_isThere (lk_70 h) hv ht)]
  by_cases h1 : tv t x = 0
  · rw [if_pos h1, if_pos h1]; rfl
  · rw [if_neg h1, if_neg h1]
    obtain ⟨k, hk, rfl, hb⟩ := tv_yes h1
    rw [gr_e (lk_70 h) (lr_70_11 h), li_e (lk_77 h) hk (by decide), nI_clamp (by omega)]
    show Option.bind (if me_i M 77 k ≤ 0 then some 0 else some 1) _ = some (if me_i M 77 k ≤ 0 then 0 else 1)
    split <;> rfl
/-! hard -/
def gn (w f bq sq bk : Int32) (s : Nat) : Int32 := if nI s < bq then w * nI s - f * mn_i (nI s) sq - (if mn_i (nI s) sq < bk then 0 else 1000) else w * nI s
def bs (g : Nat → Int32) : Nat → Nat
  | 0 => 0
  | j + 1 => if g (j + 1) ≤ g (bs g j) then bs g j else j + 1
theorem bs_le (g : Nat → Int32) : ∀ j, bs g j ≤ j := by
  intro j
  induction j with
  | zero => exact Nat.le_refl _
  | succ j ih =>
    show (if g (j + 1) ≤ g (bs g j) then bs g j else j + 1) ≤ j + 1
    split <;> omega
theorem e_gain {M : Me} {A B s : Nat} {w f : Int32} (hA : me_k M A = some (4, 7)) (hB : me_k M B = some (4, 7)) : f_X11_gainOf (nI s) A B w f M = some (gn w f (me_i M B 3) (me_i M B 2) (me_i M A 3) s) := by
  unfold f_X11_gainOf b_X11_gainOf gn
  simp only [let_v]
  rw [gi_e hB]
  by_cases h : nI s < me_i M B 3
  · rw [if_pos h, if_pos h, gi_e hB, gi_e hA, b_ite]
  · rw [if_neg h, if_neg h]
theorem e_best {M : Me} {A B S : Nat} {w f : Int32} (hA : me_k M A = some (4, 7)) (hB : me_k M B = some (4, 7)) (hS : me_i M A 2 = nI S) (hS2 : S ≤ 20) : f_X11_bestBlow A B w f M = some (nI (bs (gn w f (me_i M B 3) (me_i M B 2) (me_i M A 3)) S)) := by
  unfold f_X11_bestBlow b_X11_bestBlow
  have hl := lp_up (step := fun s : Int32 × Int32 => s_X11_bestBlow_6 A B w f M s.1 s.2) (fun j => (nI (bs (gn w f (me_i M B 3) (me_i M B 2) (me_i M A 3)) j), nI (j + 1))) S (nI (bs (gn w f (me_i M B 3) (me_i M B 2) (me_i M A 3)) S), nI (S + 1)) ?_ ?_ 0 (by omega)
  · rw [show ((0 : Int32), (1 : Int32)) = (nI (bs (gn w f (me_i M B 3) (me_i M B 2) (me_i M A 3)) 0), nI (0 + 1)) from by rw [c_0, c_1]; rfl, hl]; rfl
  · intro j hj
    show s_X11_bestBlow_6 A B w f M (nI (bs _ j)) (nI (j + 1)) = _
    unfold s_X11_bestBlow_6
    simp only [let_v]
    rw [c_20, if_neg (nI_nlt (by omega) (by omega)), gi_e hA, hS, if_neg (nI_nlt (by omega) (by omega)), cP_e (e_gain hA hB), cP_e (e_gain hA hB), b_ite, nI_1]
    refine congrArg (fun z => some (Sum.inl (z, nI (j + 1 + 1)))) ?_
    show (if _ then nI (bs _ j) else nI (j + 1)) = nI (if _ then bs _ j else j + 1)
    split <;> rfl
  · show s_X11_bestBlow_6 A B w f M (nI (bs _ S)) (nI (S + 1)) = _
    unfold s_X11_bestBlow_6
    rw [c_20]
    by_cases h : S = 20
    · subst h
      rw [if_pos (nI_lt (by omega) (by omega))]
    · rw [if_neg (nI_nlt (by omega) (by omega)), gi_e hA, hS, if_pos (nI_lt (by omega) (by omega))]
theorem e_mgain {s : Nat} {w f bq sq bk : Int32} : w * nI s - (if bq ≤ nI s then 0 else f * (if sq ≤ nI s then sq else nI s) + (if (if sq ≤ nI s then sq else nI s) < bk then 0 else 1000)) = gn w f bq sq bk s := by
  have e : (if sq ≤ nI s then sq else nI s) = mn_i (nI s) sq := by
    unfold mn_i
    by_cases h : sq < nI s
    · rw [if_pos h, if_pos (Int32.le_of_lt h)]
    · rw [if_neg h]
      by_cases h2 : sq ≤ nI s
      · rw [if_pos h2]
        exact Int32.le_antisymm h2 (Int32.not_lt.mp h)
      · rw [if_neg h2]
  unfold gn
  rw [e]
  by_cases h : nI s < bq
  · rw [if_pos h, if_neg (Int32.not_le.mpr h)]
    rw [Int32.sub_sub]
  · rw [if_neg h, if_pos (Int32.not_lt.mp h), Int32.sub_zero]
/-- hard -/
theorem iv_op16 : ∀ n M, n < 512 → Iv n M → op_16 (Iv (n + 1)) M := by
  intro n M hn h x1 x2 x3 x4 x5
  obtain ⟨hL, hlen, ⟨hCL, π, hCP, c, y, t, D, nd, sg, hV, hR⟩, hJ, hP, hI⟩ := id h
  have ht70 : me_i M 70 3 = nI t := hV.1.2.2.1.1
  have ht := hV.1.2.2.1.2
  have ex : f_X11_hard 0 x1 x2 x3 x4 x5 M = ck M 0 11 (b_X11_hard 0 x1 x2 x3 x4 x5 M) := rfl
  have em : f_X12_hard 70 x1 x2 x3 x4 x5 M = ck M 70 12 (b_X12_hard 70 x1 x2 x3 x4 x5 M) := rfl
  by_cases h1 : wl (st_m M) t x1 = 0
  · refine ⟨-1, ?_, ?_, h.next hn⟩
    · rw [ex, ck_e (lk_0 hL)]; unfold b_X11_hard; rw [gr_e (lk_0 hL) (lr_0_1 hL), cR_e (e_knightAt hCL), gr_e (lk_0 hL) (lr_0_1 hL), cR_e (e_knightAt hCL), cP_e (e_isAlive hCL hR), if_pos h1]
    · rw [em, ck_e (lk_70 hL)]; unfold b_X12_hard; rw [cP_e (e_isWell hL ht70 ht), if_pos h1]
  by_cases h2 : wl (st_m M) t x2 = 0
  · refine ⟨-1, ?_, ?_, h.next hn⟩
    · rw [ex, ck_e (lk_0 hL)]; unfold b_X11_hard; rw [gr_e (lk_0 hL) (lr_0_1 hL), cR_e (e_knightAt hCL), gr_e (lk_0 hL) (lr_0_1 hL), cR_e (e_knightAt hCL), cP_e (e_isAlive hCL hR), if_neg h1, cP_e (e_isAlive hCL hR), if_pos h2]
    · rw [em, ck_e (lk_70 hL)]; unfold b_X12_hard; rw [cP_e (e_isWell hL ht70 ht), if_neg h1, cP_e (e_isWell hL ht70 ht), if_pos h2]
  by_cases h3 : x1 = x2
  · refine ⟨-1, ?_, ?_, h.next hn⟩
    · rw [ex, ck_e (lk_0 hL)]; unfold b_X11_hard; rw [gr_e (lk_0 hL) (lr_0_1 hL), cR_e (e_knightAt hCL), gr_e (lk_0 hL) (lr_0_1 hL), cR_e (e_knightAt hCL), cP_e (e_isAlive hCL hR), if_neg h1, cP_e (e_isAlive hCL hR), if_neg h2, if_pos h3]
    · rw [em, ck_e (lk_70 hL)]; unfold b_X12_hard; rw [cP_e (e_isWell hL ht70 ht), if_neg h1, cP_e (e_isWell hL ht70 ht), if_neg h2, if_pos h3]
  by_cases h4 : in_v x3 0 20 = 0
  · refine ⟨-2, ?_, ?_, h.next hn⟩
    · rw [ex, ck_e (lk_0 hL)]; unfold b_X11_hard; rw [gr_e (lk_0 hL) (lr_0_1 hL), cR_e (e_knightAt hCL), gr_e (lk_0 hL) (lr_0_1 hL), cR_e (e_knightAt hCL), cP_e (e_isAlive hCL hR), if_neg h1, cP_e (e_isAlive hCL hR), if_neg h2, if_neg h3, cP_e (e_isWithin _ _ _ _), if_pos h4]
    · rw [em, ck_e (lk_70 hL)]; unfold b_X12_hard; rw [cP_e (e_isWell hL ht70 ht), if_neg h1, cP_e (e_isWell hL ht70 ht), if_neg h2, if_neg h3, cP_e (e_in _ _ _ _), if_pos h4]
  by_cases h5 : in_v x4 0 20 = 0
  · refine ⟨-2, ?_, ?_, h.next hn⟩
    · rw [ex, ck_e (lk_0 hL)]; unfold b_X11_hard; rw [gr_e (lk_0 hL) (lr_0_1 hL), cR_e (e_knightAt hCL), gr_e (lk_0 hL) (lr_0_1 hL), cR_e (e_knightAt hCL), cP_e (e_isAlive hCL hR), if_neg h1, cP_e (e_isAlive hCL hR), if_neg h2, if_neg h3, cP_e (e_isWithin _ _ _ _), if_neg h4, cP_e (e_isWithin _ _ _ _), if_pos h5]
    · rw [em, ck_e (lk_70 hL)]; unfold b_X12_hard; rw [cP_e (e_isWell hL ht70 ht), if_neg h1, cP_e (e_isWell hL ht70 ht), if_neg h2, if_neg h3, cP_e (e_in _ _ _ _), if_neg h4, cP_e (e_in _ _ _ _), if_pos h5]
  by_cases h6 : in_v x5 0 1 = 0
  · refine ⟨-2, ?_, ?_, h.next hn⟩
    · rw [ex, ck_e (lk_0 hL)]; unfold b_X11_hard; rw [gr_e (lk_0 hL) (lr_0_1 hL), cR_e (e_knightAt hCL), gr_e (lk_0 hL) (lr_0_1 hL), cR_e (e_knightAt hCL), cP_e (e_isAlive hCL hR), if_neg h1, cP_e (e_isAlive hCL hR), if_neg h2, if_neg h3, cP_e (e_isWithin _ _ _ _), if_neg h4, cP_e (e_isWithin _ _ _ _), if_neg h5, cP_e (e_isWithin _ _ _ _), if_pos h6]
    · rw [em, ck_e (lk_70 hL)]; unfold b_X12_hard; rw [cP_e (e_isWell hL ht70 ht), if_neg h1, cP_e (e_isWell hL ht70 ht), if_neg h2, if_neg h3, cP_e (e_in _ _ _ _), if_neg h4, cP_e (e_in _ _ _ _), if_neg h5, cP_e (e_in _ _ _ _), if_pos h6]
  obtain ⟨k, hk, rfl, hkb, hkl⟩ := wl_yes h1
  obtain ⟨q, hq, rfl, hqb, hql⟩ := wl_yes h2
  obtain ⟨a1, a2, a3, a4, a5, a6⟩ := (hR.2.1 k hk).2 hkb
  obtain ⟨b1, b2, b3, b4, b5, b6⟩ := (hR.2.1 q hq).2 hqb
  obtain ⟨⟨S, hS, hS1, hS2⟩, -⟩ := hV.2.2.1 k hk hkb
  have hA := hCL.2.2.2.2.2.2.2 k hk
  have hB := hCL.2.2.2.2.2.2.2 q hq
  let g : Nat → Int32 := gn x3 x4 (me_i M 77 q) (me_i M 72 q) (me_i M 77 k)
  have eg : ∀ s, f_X11_gainOf (nI s) (3 + 22 + k) (3 + 22 + q) x3 x4 M = some (g s) := fun s => by
    rw [e_gain hA hB, a3, b3, b2]; rfl
  have eb : f_X11_bestBlow (3 + 22 + k) (3 + 22 + q) x3 x4 M = some (nI (bs g S)) := by
    rw [e_best hA hB (a2.trans hS) hS2, a3, b3, b2]; rfl
  have g0 : g 0 = 0 := by
    show gn _ _ _ _ _ 0 = 0
    unfold gn
    have hq0 : nI 0 < me_i M 77 q := by rw [nI_0]; exact Int32.not_le.mp hql
    have hk0 : nI 0 < me_i M 77 k := by rw [nI_0]; exact Int32.not_le.mp hkl
    have hm : mn_i (nI 0) (me_i M 72 q) = nI 0 := by
      obtain ⟨⟨S', hS', hS1', hS2'⟩, -⟩ := hV.2.2.1 q hq hqb
      have : me_i M 72 q = nI S' := hS'
      unfold mn_i
      rw [this, if_neg (nI_nlt (by omega) (by omega))]
    rw [if_pos hq0, hm, if_pos hk0, nI_0]
    simp
  have hloop : lp (fun s => s_X12_hard_67 70 (nI k) (nI q) x3 x4 M s.1 s.2.1 s.2.2) ((-10000000 : Int32), (0 : Int32), (0 : Int32)) = some (g (bs g S), nI (bs g S), nI (S + 1)) := by
    have hst : ∀ (z : Int32 × Int32 × Int32) (j : Nat), j ≤ S → z.2.2 = nI j → s_X12_hard_67 70 (nI k) (nI q) x3 x4 M z.1 z.2.1 z.2.2 = some (Sum.inl (if g j ≤ z.1 then z.1 else g j, if g j ≤ z.1 then z.2.1 else nI j, nI (j + 1))) := by
      intro z j hj hz
      unfold s_X12_hard_67
      simp only [let_v]
      rw [hz, gr_e (lk_70 hL) (lr_70_4 hL), li_e (lk_72 hL) hk (by decide), show me_i M 72 k = nI S from hS, if_neg (nI_nlt hj (by omega)), gr_e (lk_70 hL) (lr_70_4 hL), li_e (lk_72 hL) hq (by decide), gr_e (lk_70 hL) (lr_70_4 hL), li_e (lk_72 hL) hq (by decide), b_ite, gr_e (lk_70 hL) (lr_70_11 hL), li_e (lk_77 hL) hq (by decide), b_ite]
      have e1 : (if (if me_i M 77 q ≤ nI j then (0 : Int32) else 1) = 0 then some (0 : Int32) else gr M 70 12 11 fun o19 => li M o19 (nI k) fun v20 => (if (if me_i M 72 q ≤ nI j then me_i M 72 q else nI j) < v20 then some (0 : Int32) else some 1000).bind fun v21 => some (x4 * (if me_i M 72 q ≤ nI j then me_i M 72 q else nI j) + v21)) = some (if me_i M 77 q ≤ nI j then 0 else x4 * (if me_i M 72 q ≤ nI j then me_i M 72 q else nI j) + (if (if me_i M 72 q ≤ nI j then me_i M 72 q else nI j) < me_i M 77 k then 0 else 1000)) := by
        by_cases hc : me_i M 77 q ≤ nI j
        · rw [if_pos hc, if_pos rfl, if_pos hc]
        · rw [if_neg hc, if_neg (by decide), if_neg hc, gr_e (lk_70 hL) (lr_70_11 hL), li_e (lk_77 hL) hk (by decide), b_ite]
      rw [e1]
      simp only [Option.bind_some]
      rw [e_mgain, b_ite, b_ite, nI_1]
    rw [lp_eq, hst _ 0 (by omega) (by rw [c_0])]
    have h0 : ¬ g 0 ≤ (-10000000 : Int32) := by rw [g0]; decide
    show lp _ (if g 0 ≤ (-10000000 : Int32) then (-10000000 : Int32) else g 0, if g 0 ≤ (-10000000 : Int32) then (0 : Int32) else nI 0, nI (0 + 1)) = _
    rw [if_neg h0, if_neg h0]
    have hl := lp_up (step := fun s : Int32 × Int32 × Int32 => s_X12_hard_67 70 (nI k) (nI q) x3 x4 M s.1 s.2.1 s.2.2) (fun j => (g (bs g j), nI (bs g j), nI (j + 1))) S (g (bs g S), nI (bs g S), nI (S + 1)) ?_ ?_ 0 (by omega)
    · exact hl
    · intro j hj
      rw [hst _ (j + 1) (by omega) rfl]
      refine congrArg (fun z => some (Sum.inl z)) ?_
      show (if g (j + 1) ≤ g (bs g j) then g (bs g j) else g (j + 1), if g (j + 1) ≤ g (bs g j) then nI (bs g j) else nI (j + 1), nI (j + 1 + 1)) = (g (if g (j + 1) ≤ g (bs g j) then bs g j else j + 1), nI (if g (j + 1) ≤ g (bs g j) then bs g j else j + 1), nI (j + 1 + 1))
      split <;> rfl
    · show s_X12_hard_67 70 (nI k) (nI q) x3 x4 M _ _ (nI (S + 1)) = _
      unfold s_X12_hard_67
      rw [gr_e (lk_70 hL) (lr_70_4 hL), li_e (lk_72 hL) hk (by decide), show me_i M 72 k = nI S from hS, if_pos (nI_lt (by omega) (by omega))]
  refine ⟨if x5 = 0 then nI (bs g S) else g (bs g S) + 10000, ?_, ?_, h.next hn⟩
  · rw [ex, ck_e (lk_0 hL)]; unfold b_X11_hard
    rw [gr_e (lk_0 hL) (lr_0_1 hL), cR_e (e_knightAt hCL), gr_e (lk_0 hL) (lr_0_1 hL), cR_e (e_knightAt hCL), cP_e (e_isAlive hCL hR), if_neg h1, cP_e (e_isAlive hCL hR), if_neg h2, if_neg h3, cP_e (e_isWithin _ _ _ _), if_neg h4, cP_e (e_isWithin _ _ _ _), if_neg h5, cP_e (e_isWithin _ _ _ _), if_neg h6, kn_k hk, kn_k hq, cP_e eb, cP_e (eg _), b_ite]
  · rw [em, ck_e (lk_70 hL)]; unfold b_X12_hard
    rw [cP_e (e_isWell hL ht70 ht), if_neg h1, cP_e (e_isWell hL ht70 ht), if_neg h2, if_neg h3, cP_e (e_in _ _ _ _), if_neg h4, cP_e (e_in _ _ _ _), if_neg h5, cP_e (e_in _ _ _ _), if_neg h6, hloop]
    simp only [Option.bind_some]
    rw [b_ite]

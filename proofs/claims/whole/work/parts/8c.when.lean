/-! when, inTime -/
theorem n_or (a b : Nat) : nI a ||| nI b = nI (a ||| b) := by
  apply Int32.toBitVec_inj.mp
  rw [Int32.toBitVec_or]
  exact (BitVec.ofNat_or (w := 32) (x := a) (y := b)).symm
theorem b_shl12 : ∀ k, k < 12 → (1 : Int32) <<< (nI k &&& 31) = nI (2 ^ k) := by decide +kernel
/-- a set by its bits -/
def ab (P : Nat → Bool) : Nat → Nat
  | 0 => 0
  | i + 1 => ab P i ||| (if P i = true then 2 ^ i else 0)
theorem ab_s {P : Nat → Bool} {i : Nat} : ab P (i + 1) = ab P i ||| (if P i = true then 2 ^ i else 0) := rfl
theorem ab_bit {P : Nat → Bool} {k : Nat} : ∀ n, (ab P n).testBit k = (decide (k < n) && P k) := by
  intro n
  induction n with
  | zero => show (0 : Nat).testBit k = _; simp
  | succ n ih =>
    rw [ab_s, Nat.testBit_or, ih]
    by_cases q : k = n
    · subst q
      rw [decide_eq_false (show ¬ k < k by omega), decide_eq_true (show k < k + 1 by omega)]
      by_cases w : P k = true
      · rw [if_pos w, w, Nat.testBit_two_pow_self]; rfl
      · rw [if_neg w, Bool.eq_false_iff.mpr w, Nat.zero_testBit]; rfl
    · have e : decide (k < n + 1) = decide (k < n) := by
        by_cases z : k < n
        · rw [decide_eq_true z, decide_eq_true (show k < n + 1 by omega)]
        · rw [decide_eq_false z, decide_eq_false (show ¬ k < n + 1 by omega)]
      rw [e]
      by_cases w : P n = true
      · rw [if_pos w, Nat.testBit_two_pow, decide_eq_false (show ¬ n = k from fun z => q z.symm), Bool.or_false]
      · rw [if_neg w, Nat.zero_testBit, Bool.or_false]
theorem ab_lt {P : Nat → Bool} : ∀ n, ab P n < 2 ^ n := by
  intro n
  induction n with
  | zero => show 0 < 1; omega
  | succ n ih =>
    rw [ab_s]
    have h1 : 2 ^ n < 2 ^ (n + 1) := Nat.pow_lt_pow_right (by omega) (by omega)
    refine Nat.or_lt_two_pow (by omega) ?_
    split
    · exact h1
    · exact Nat.two_pow_pos _
theorem ab_more {P : Nat → Bool} {n : Nat} (h : ∀ i, n ≤ i → P i = false) : ∀ d, ab P (n + d) = ab P n := by
  intro d
  induction d with
  | zero => rfl
  | succ d ih =>
    show ab P (n + d) ||| (if P (n + d) = true then 2 ^ (n + d) else 0) = _
    rw [ih, if_neg (by rw [h _ (by omega)]; simp), Nat.or_zero]
/-- the row i of the debts; whether he who has k can be there by F -/
def mt (X : Cx) (w : Wd) (k : Nat) (F : Nat → Nat) (i : Nat) : Bool := match w.1[i]? with
  | none => false
  | some r => decide (r.1 = k ∧ F (X.2.2.2.2.1 r.2.1) ≤ r.2.2.2)
theorem mt_n {X : Cx} {w : Wd} {k i : Nat} {F : Nat → Nat} (h : w.1.length ≤ i) : mt X w k F i = false := by
  unfold mt
  rw [List.getElem?_eq_none h]
theorem mt_s {X : Cx} {w : Wd} {k i : Nat} {F : Nat → Nat} {r : Rw} (h : w.1[i]? = some r) : mt X w k F i = decide (r.1 = k ∧ F (X.2.2.2.2.1 r.2.1) ≤ r.2.2.2) := by
  unfold mt
  rw [h]
def d0 (X : Cx) (w : Wd) (k : Nat) : Nat → Nat := dj X.2.2.2.2.2 X.2.1 X.2.2.1 (w.2.2.1 k 5) (w.2.1 + w.2.2.1 k 6)
def d1 (X : Cx) (r : Rw) : Nat → Nat := dj X.2.2.2.2.2 X.2.1 X.2.2.1 (X.2.2.2.2.1 r.2.1) r.2.2.2
section WN
variable {X : Cx} {w : Wd} {M : Me}
theorem CB.lc (hX : XV X) (hL : Lay M) (hB : CB X M 3 w) : LC M X.2.2.2.2.2 X.2.1 X.2.2.1 := by
  obtain ⟨-, f2, f3, f4⟩ := hB.F
  exact ⟨hL, f2, f3, fun i hi => ⟨f4 i hi, hX.2.2.2.2 i hi⟩, hX.2.2.1, hX.2.1⟩
theorem ST.lm (hX : XV X) (hL : Lay M) (h : ST X w (st_m M)) : LM M X.2.2.2.2.2 X.2.1 X.2.2.1 := ⟨hL, h.1.1, h.1.2.1, fun i hi => ⟨h.2.1 i hi, hX.2.2.2.2 i hi⟩, hX.2.2.1, hX.2.1⟩
theorem d0_bd {k : Nat} (hX : XV X) (hW : WV X w) (hk : k < 6) (ht : X.1.testBit k = true) : Bd 5100000 (d0 X w k) := by
  obtain ⟨-, w2, w3, -⟩ := hW
  have := (w3 k hk ht).2.2
  exact dj_bd hX.2.2.2.2 hX.2.2.1.2 (by omega)
theorem d1_bd {r : Rw} (hX : XV X) (hW : WV X w) (hr : r ∈ w.1) : Bd 5100000 (d1 X r) := by
  obtain ⟨-, w2, -, w4, -⟩ := hW
  obtain ⟨-, -, -, -, -, -, -, -, u9⟩ := w4 r hr
  have := hX.2.1
  exact dj_bd hX.2.2.2.2 hX.2.2.1.2 (by omega)
theorem e_setOff {k : Nat} (hX : XV X) (hW : WV X w) (hL : Lay M) (hB : CB X M 3 w) (hk : k < 6) (ht : X.1.testBit k = true) : ∃ g, f_X3_setOff 61 3 (nI k) M = some (me_w M g) ∧ (∀ a z, a ≠ 62 → g a z = me_i M a z) ∧ ∀ v, v < 5 → g 62 v = nI (d0 X w k v) := by
  have hC := hB.CL
  obtain ⟨k1, k2, k3, k4, k5, k6⟩ := (hB.K k hk).2 ht
  obtain ⟨-, w2, w3, -⟩ := id hW
  obtain ⟨p1, p2, p3⟩ := w3 k hk ht
  obtain ⟨g, e1, e2, e3⟩ := e_fillF (A := 62) (hB.lc hX hL) (by omega) p2 (show w.2.1 + w.2.2.1 k 6 ≤ 5000000 by omega)
  refine ⟨g, ?_, e2, e3⟩
  unfold f_X3_setOff b_X3_setOff
  rw [ck_e (lk_61 hL), q_knt hC hk, q_c0 hC, q_gi4 hC hk, k5, q_gi hC, hB.F.1, q_gi4 hC hk, k6, gr_e (lk_61 hL) (lr_61_0 hL), nI_add, cM_e e1]
theorem e_dayAt {A v : Nat} (hA : me_k M A = some (20, 5)) (hv : v < 5) : f_X3_dayAt A (nI v) M = some (me_i M A v) := by
  unfold f_X3_dayAt b_X3_dayAt
  rw [if_neg (nI_pos (by omega)), al_e hA, if_neg (nI_ge hv (by omega)), li_e hA hv (by decide)]; rfl
theorem e_isMet {k i A : Nat} {F : Nat → Nat} (hX : XV X) (hW : WV X w) (hL : Lay M) (hB : CB X M 3 w) (hA : me_k M A = some (20, 5)) (hF : ∀ v, v < 5 → me_i M A v = nI (F v)) (hb : Bd 5100000 F) (hk : k < 6) (hi : i < 12) : f_X3_isMet 3 (nI k) (nI i) A M = some (if mt X w k F i = true then 1 else 0) := by
  obtain ⟨π, c1, c2, c3, c4⟩ := hB.rd
  have hC := hB.CL
  have ei := INF_e
  unfold f_X3_isMet b_X3_isMet
  rw [q_c2 hC, cP_e (e_dhas (by exact lk_7 hL) (by exact c2) c3)]
  by_cases q : i < w.1.length
  · have hg : w.1[i]? = some w.1[i] := List.getElem?_eq_getElem q
    obtain ⟨p1, r0, r1, r2, r3⟩ := c4 i _ hg
    have hm := List.getElem_mem q
    obtain ⟨b0, b1, -, b3⟩ := hW.rb hX _ hm
    obtain ⟨u1, u2, u3, u4, u5, u6, u7, u8, u9⟩ := hW.2.2.2.1 _ hm
    have xo := (hX.2.2.2.1 _ u2 u5).2.2
    have hc := hX.2.2.1
    have ev : cv w.1.length (nI i) = 1 := by
      unfold cv
      rw [if_neg (nI_pos (by omega)), if_neg (nI_ge q (by omega))]
    rw [ev, if_neg (by decide), q_c2 hC, q_d1 hC, q_row hC c1 hi, q_gi1 hC p1, r0, i_eq (by omega) (by omega), mt_s hg]
    by_cases q1 : w.1[i].1 = k
    · rw [if_pos q1, q_gi1 hC p1, r1, q_knt hC b1, q_gi4 hC b1, ((hB.K _ u2).2 u5).1, cP_e (e_dayAt hA (by omega)), hF _ (by omega), q_gi1 hC p1, r3, i_lt (by omega) (by have := hb (X.2.2.2.2.1 w.1[i].2.1); omega)]
      by_cases q2 : w.1[i].2.2.2 < F (X.2.2.2.2.1 w.1[i].2.1)
      · rw [if_pos q2, if_neg (fun z => by have := (of_decide_eq_true z).2; omega)]; rfl
      · rw [if_neg q2, if_pos (decide_eq_true ⟨q1, by omega⟩)]; rfl
    · rw [if_neg q1, if_neg (fun z => q1 (of_decide_eq_true z).1)]; rfl
  · have ev : cv w.1.length (nI i) = 0 := by
      unfold cv
      rw [if_neg (nI_pos (by omega)), if_pos (nI_le (by omega) (by omega))]
    rw [ev, if_pos rfl, mt_n (by omega)]; rfl
theorem e_metAlone {k : Nat} (hX : XV X) (hW : WV X w) (hL : Lay M) (hB : CB X M 3 w) (hk : k < 6) (ht : X.1.testBit k = true) : ∃ g, f_X3_metAlone 61 3 (nI k) M = some (nI (ab (mt X w k (d0 X w k)) 12), me_w M g) ∧ (∀ a z, a ≠ 62 → g a z = me_i M a z) ∧ ∀ v, v < 5 → g 62 v = nI (d0 X w k v) := by
  obtain ⟨g, e1, e2, e3⟩ := e_setOff hX hW hL hB hk ht
  refine ⟨g, ?_, e2, e3⟩
  have hL2 : Lay (me_w M g) := hL
  have hB2 : CB X (me_w M g) 3 w := hB.out rfl (fun _ _ => rfl) (fun a z _ _ => e2 a z (by omega))
  have hC2 := hB2.CL
  obtain ⟨π, c1, c2, c3, c4⟩ := hB2.rd
  have h := lp_up (step := fun s : Int32 × Int32 => s_X3_metAlone_11 61 3 (nI k) (me_w M g) s.1 s.2) (fun i => (nI (ab (mt X w k (d0 X w k)) i), nI i)) w.1.length (nI (ab (mt X w k (d0 X w k)) w.1.length), nI w.1.length) ?_ ?_ 0 (by omega)
  · unfold f_X3_metAlone b_X3_metAlone
    rw [ck_e (lk_61 hL), cM_e e1, show ((0 : Int32), (0 : Int32)) = (nI (ab (mt X w k (d0 X w k)) 0), nI 0) by rw [nI_0]; rfl, h]
    have e := ab_more (P := mt X w k (d0 X w k)) (n := w.1.length) (fun i hi => mt_n hi) (12 - w.1.length)
    rw [show w.1.length + (12 - w.1.length) = 12 by omega] at e
    rw [e]; rfl
  · intro i hi
    show s_X3_metAlone_11 61 3 (nI k) (me_w M g) (nI (ab (mt X w k (d0 X w k)) i)) (nI i) = some (Sum.inl (nI (ab (mt X w k (d0 X w k)) (i + 1)), nI (i + 1)))
    rw [ab_s]
    unfold s_X3_metAlone_11
    simp only [let_v]
    rw [c_12, if_neg (nI_ge (by omega) (by omega)), q_c2 hC2, q_gi2 hC2, c2, if_neg (nI_ge hi (by omega)), gr_e (lk_61 hL2) (lr_61_0 hL2), cP_e (e_isMet hX hW hL2 hB2 (lk_62 hL2) e3 (d0_bd hX hW hk ht) hk (by omega)), b_shl12 i (by omega), nI_1]
    by_cases q : mt X w k (d0 X w k) i = true
    · rw [if_pos q, if_neg (by decide), if_pos q]
      simp only [Option.bind_some]
      rw [n_or]
    · rw [if_neg q, if_pos rfl, if_neg q]
      simp only [Option.bind_some]
      rw [← nI_0, n_or]
  · show s_X3_metAlone_11 61 3 (nI k) (me_w M g) _ (nI w.1.length) = _
    unfold s_X3_metAlone_11
    rw [q_c2 hC2, q_gi2 hC2, c2, if_pos (nI_le (Nat.le_refl _) (by omega))]
    split <;> rfl
end WN
theorem iv_j {n : Nat} {M : Me} {g : St} (hn : n < 512) (h : Iv n M) (hi : ∀ a z, a ≠ 62 → a ≠ 63 → a ≠ 64 → a ≠ 86 → g a z = me_i M a z) : Iv (n + 1) (me_w M g) :=
  (h.next hn).same rfl (fun _ _ _ => rfl) h.2.2.2.1 (fun a k q => hi a k (by omega) (by omega) (by omega) (by omega))
theorem ST.same {X : Cx} {w : Wd} {M : Me} {g : St} (h : ST X w (st_m M)) (hi : ∀ a z, 70 ≤ a → a ≤ 79 → g a z = me_i M a z) : ST X w (st_m (me_w M g)) := by
  have e : ∀ a z, 70 ≤ a → a ≤ 79 → st_m (me_w M g) a z = st_m M a z := fun a z h1 h2 => hi a z h1 h2
  obtain ⟨⟨a1, a2, a3, a4, a5⟩, hr, hk, hd⟩ := h
  refine ⟨⟨(e _ _ (by omega) (by omega)).trans a1, (e _ _ (by omega) (by omega)).trans a2, (e _ _ (by omega) (by omega)).trans a3, (e _ _ (by omega) (by omega)).trans a4, (e _ _ (by omega) (by omega)).trans a5⟩, fun i hi2 => (e _ _ (by omega) (by omega)).trans (hr i hi2), fun k hk6 ht => ?_, fun i r hi2 => ?_⟩
  · rw [e _ _ (by omega) (by omega), e _ _ (by omega) (by omega), e _ _ (by omega) (by omega), e _ _ (by omega) (by omega), e _ _ (by omega) (by omega), e _ _ (by omega) (by omega)]
    exact hk k hk6 ht
  · rw [e _ _ (by omega) (by omega), e _ _ (by omega) (by omega), e _ _ (by omega) (by omega), e _ _ (by omega) (by omega)]
    exact hd i r hi2
theorem iv_op13 : ∀ n M, n < 512 → Iv n M → op_13 (Iv (n + 1)) M := by
  intro n M hn h x1 x2
  obtain ⟨hL, hlen, ⟨hCL, π, hCP, c0, y, t, D, nd, sg, hV, hR⟩, hJ, hP, hI⟩ := id h
  have ht70 : me_i M 70 3 = nI t := hV.1.2.2.1.1
  have ht := hV.1.2.2.1.2
  have hc := hV.1.1
  have h4 : me_i M 4 0 = nI c0 := hR.1.1.trans hc.1
  by_cases h1 : wl (st_m M) t x1 = 0
  · refine ⟨-1, M, M, ?_, ?_, h.next hn⟩
    · unfold f_X11_when b_X11_when
      rw [ck_e (lk_0 hL), gr_e (lk_0 hL) (lr_0_1 hL), cR_e (e_knightAt hCL), cP_e (e_isAlive hCL hR), if_pos h1]
    · unfold f_X12_when b_X12_when
      rw [ck_e (lk_70 hL), cP_e (e_isWell hL ht70 ht), if_pos h1]
  by_cases h2 : cv c0 x2 = 0
  · refine ⟨-1, M, M, ?_, ?_, h.next hn⟩
    · unfold f_X11_when b_X11_when
      rw [ck_e (lk_0 hL), gr_e (lk_0 hL) (lr_0_1 hL), cR_e (e_knightAt hCL), cP_e (e_isAlive hCL hR), if_neg h1, gr_e (lk_0 hL) (lr_0_1 hL), gr_e (lk_3 hL) (lr_3_0 hL), cP_e (e_hasChapel (lk_4 hL) h4 hc.2.2), if_pos h2]
    · unfold f_X12_when b_X12_when
      rw [ck_e (lk_70 hL), cP_e (e_isWell hL ht70 ht), if_neg h1, cP_e (e_isChapel (lk_70 hL) hc.1 (by omega) hc.2.2), if_pos h2]
  obtain ⟨k, hk, rfl, hkb, -⟩ := wl_yes h1
  obtain ⟨v, hv, rfl⟩ := cv_yes hc.2.2 h2
  have hX := val_X hV
  have hW := val_W hV (by omega)
  have hST := ST.of hV (by omega)
  have hB : CB (x_of (st_m M) t y c0) M 3 (w_of (st_m M) D nd) := val_CB hV (by omega) hCL hCP hR.pn
  have hkb2 : (x_of (st_m M) t y c0).1.testBit k = true := hkb
  have bd := d0_bd hX hW hk hkb2
  have ei := INF_e
  obtain ⟨g, e1, e2, e3⟩ := e_setOff hX hW hL hB hk hkb2
  have hLg : Lay (me_w M g) := hL
  have hST2 : ST (x_of (st_m M) t y c0) (w_of (st_m M) D nd) (st_m (me_w M g)) := hST.same (fun a z q1 q2 => e2 a z (by omega))
  obtain ⟨k1, k2, k3, k4, k5, k6⟩ := hST2.2.2.1 k hk hkb2
  obtain ⟨p1, p2, p3⟩ := hW.2.2.1 k hk hkb2
  have hwD := hW.2.1
  obtain ⟨u, m1, m2, m3⟩ := e_layJ (st := (w_of (st_m M) D nd).2.2.1 k 5) (s := (w_of (st_m M) D nd).2.1 + (w_of (st_m M) D nd).2.2.1 k 6) (hST2.lm hX hLg) p2 (by omega)
  have hLu : Lay (me_w (me_w M g) u) := hL
  have bv := bd v
  refine ⟨if d0 (x_of (st_m M) t y c0) (w_of (st_m M) D nd) k v = INF then -6 else nI (d0 (x_of (st_m M) t y c0) (w_of (st_m M) D nd) k v), me_w M g, me_w (me_w M g) u, ?_, ?_, ?_⟩
  · unfold f_X11_when b_X11_when
    have ef : f_X3_firstDay 61 3 (nI k) (nI v) M = some (nI (d0 (x_of (st_m M) t y c0) (w_of (st_m M) D nd) k v), me_w M g) := by
      unfold f_X3_firstDay b_X3_firstDay
      rw [ck_e (lk_61 hL), cM_e e1, gr_e (lk_61 hLg) (lr_61_0 hLg), cP_e (e_dayAt (lk_62 hLg) (by omega)), i_w, e3 v (by omega)]
    rw [ck_e (lk_0 hL), gr_e (lk_0 hL) (lr_0_1 hL), cR_e (e_knightAt hCL), cP_e (e_isAlive hCL hR), if_neg h1, gr_e (lk_0 hL) (lr_0_1 hL), gr_e (lk_3 hL) (lr_3_0 hL), cP_e (e_hasChapel (lk_4 hL) h4 hc.2.2), if_neg h2, gr_e (lk_0 hL) (lr_0_4 hL), gr_e (lk_0 hL) (lr_0_1 hL), cI_e ef, c_INF, i_le (by omega) (by omega)]
    by_cases q : d0 (x_of (st_m M) t y c0) (w_of (st_m M) D nd) k v = INF
    · rw [if_pos q, if_pos (by omega)]; rfl
    · rw [if_neg q, if_neg (by omega)]; rfl
  · unfold f_X12_when b_X12_when
    have wls : wl (st_m (me_w M g)) t (nI k) = wl (st_m M) t (nI k) := by
      unfold wl st_m
      rw [i_w, e2 _ _ (by omega)]
    rw [ck_e (lk_70 hLg), cP_e (e_isWell hLg ((e2 _ _ (by omega)).trans ht70) ht), wls, if_neg h1, cP_e (e_isChapel (lk_70 hLg) ((e2 _ _ (by omega)).trans hc.1) (by omega) hc.2.2), if_neg h2, m_gr9 hLg, m_li75 hLg hk, m_gi hLg, m_gr10 hLg, m_li76 hLg hk, show me_i (me_w M g) 75 k = _ from k3, show me_i (me_w M g) 76 k = _ from k4, show me_i (me_w M g) 70 8 = _ from hST2.1.2.2.2.1, nI_add, cM_e m1, m_gr26 hLu, m_li86 hLu (by omega), i_w, m3 v (by omega), c_10m, i_eq (by omega) (by omega)]
    by_cases q : d0 (x_of (st_m M) t y c0) (w_of (st_m M) D nd) k v = INF
    · rw [if_pos q, if_pos]
      · rfl
      · show min (d0 (x_of (st_m M) t y c0) (w_of (st_m M) D nd) k v) 10000000 = _
        omega
    · have q2 : min (d0 (x_of (st_m M) t y c0) (w_of (st_m M) D nd) k v) 10000000 = d0 (x_of (st_m M) t y c0) (w_of (st_m M) D nd) k v := by omega
      rw [if_neg q, show dj (x_of (st_m M) t y c0).2.2.2.2.2 (x_of (st_m M) t y c0).2.1 (x_of (st_m M) t y c0).2.2.1 ((w_of (st_m M) D nd).2.2.1 k 5) ((w_of (st_m M) D nd).2.1 + (w_of (st_m M) D nd).2.2.1 k 6) v = d0 (x_of (st_m M) t y c0) (w_of (st_m M) D nd) k v from rfl, q2, if_neg (by omega), m_gr26 hLu, m_li86 hLu (by omega), i_w, m3 v (by omega), show dj (x_of (st_m M) t y c0).2.2.2.2.2 (x_of (st_m M) t y c0).2.1 (x_of (st_m M) t y c0).2.2.1 ((w_of (st_m M) D nd).2.2.1 k 5) ((w_of (st_m M) D nd).2.1 + (w_of (st_m M) D nd).2.2.1 k 6) v = d0 (x_of (st_m M) t y c0) (w_of (st_m M) D nd) k v from rfl, q2]
      rfl
  · exact iv_j (M := M) (g := u) hn h (fun a z q1 _ _ q4 => by rw [m2 a z q4, i_w]; exact e2 a z q1)
theorem iv_op14 : ∀ n M, n < 512 → Iv n M → op_14 (Iv (n + 1)) M := by
  intro n M hn h x1
  obtain ⟨hL, hlen, ⟨hCL, π, hCP, c0, y, t, D, nd, sg, hV, hR⟩, hJ, hP, hI⟩ := id h
  have ht70 : me_i M 70 3 = nI t := hV.1.2.2.1.1
  have ht := hV.1.2.2.1.2
  by_cases h1 : wl (st_m M) t x1 = 0
  · refine ⟨-1, M, M, ?_, ?_, h.next hn⟩
    · unfold f_X11_inTime b_X11_inTime
      rw [ck_e (lk_0 hL), gr_e (lk_0 hL) (lr_0_1 hL), cR_e (e_knightAt hCL), cP_e (e_isAlive hCL hR), if_pos h1]
    · unfold f_X12_inTime b_X12_inTime
      rw [ck_e (lk_70 hL), cP_e (e_isWell hL ht70 ht), if_pos h1]
  obtain ⟨k, hk, rfl, hkb, -⟩ := wl_yes h1
  have hX := val_X hV
  have hW := val_W hV (by omega)
  have hST := ST.of hV (by omega)
  have hB : CB (x_of (st_m M) t y c0) M 3 (w_of (st_m M) D nd) := val_CB hV (by omega) hCL hCP hR.pn
  have hkb2 : (x_of (st_m M) t y c0).1.testBit k = true := hkb
  obtain ⟨g, e1, e2, e3⟩ := e_metAlone hX hW hL hB hk hkb2
  have hLg : Lay (me_w M g) := hL
  have hST2 : ST (x_of (st_m M) t y c0) (w_of (st_m M) D nd) (st_m (me_w M g)) := hST.same (fun a z q1 q2 => e2 a z (by omega))
  have bd := d0_bd hX hW hk hkb2
  have hlm := hST2.lm hX hLg
  generalize x_of (st_m M) t y c0 = X at *
  generalize w_of (st_m M) D nd = w at *
  have ei := INF_e
  obtain ⟨k1, k2, k3, k4, k5, k6⟩ := hST2.2.2.1 k hk hkb2
  obtain ⟨p1, p2, p3⟩ := hW.2.2.1 k hk hkb2
  have hwD := hW.2.1
  have h12 := hW.1
  obtain ⟨u, m1, m2, m3⟩ := e_layJ (st := w.2.2.1 k 5) (s := w.2.1 + w.2.2.1 k 6) hlm p2 (by omega)
  have hLu : Lay (me_w (me_w M g) u) := hL
  have hST3 : ST X w (st_m (me_w (me_w M g) u)) := hST2.same (fun a z q1 q2 => m2 a z (by omega))
  have h13 : me_i (me_w (me_w M g) u) 70 13 = nI w.1.length := hST3.1.2.2.2.2
  have hlp := lp_up (step := fun s : Int32 × Int32 => s_X12_inTime_35 70 (nI k) (me_w (me_w M g) u) s.1 s.2) (fun i => (nI (ab (mt X w k (d0 X w k)) i), nI i)) w.1.length (nI (ab (mt X w k (d0 X w k)) w.1.length), nI w.1.length) ?_ ?_ 0 (by omega)
  rotate_left
  · intro i hi
    show s_X12_inTime_35 70 (nI k) (me_w (me_w M g) u) (nI (ab (mt X w k (d0 X w k)) i)) (nI i) = some (Sum.inl (nI (ab (mt X w k (d0 X w k)) (i + 1)), nI (i + 1)))
    have hg : w.1[i]? = some w.1[i] := List.getElem?_eq_getElem hi
    have hm := List.getElem_mem hi
    obtain ⟨r0, r1, r2, r3⟩ := hST3.2.2.2 i _ hg
    obtain ⟨b0, b1, -, b3⟩ := hW.rb hX _ hm
    obtain ⟨u1, u2, u3, u4, u5, u6, u7, u8, u9⟩ := hW.2.2.2.1 _ hm
    have xo := (hX.2.2.2.1 _ u2 u5).2.2
    have xc := hX.2.2.1
    have xy := hX.2.1
    have own := (hST3.2.2.1 _ u2 u5).2.1
    have bo := bd (X.2.2.2.2.1 w.1[i].2.1)
    have ix4 : (4 : Int32) * nI i = nI (4 * i) := by rw [c_4, pk_mul]
    have nx3 : nI (4 * i) + 3 = nI (4 * i + 3) := by rw [c_3, nI_add]
    rw [ab_s, mt_s hg]
    unfold s_X12_inTime_35
    simp only [let_v]
    rw [m_gi hLu, h13, if_neg (nI_ge hi (by omega)), ix4, nI_1, nI_1, nx3, m_gr14 hLu, m_li79 hLu (by omega), show me_i (me_w (me_w M g) u) 79 (4 * i) = _ from r0, i_eq (by omega) (by omega), b_shl12 i (by omega)]
    by_cases q1 : w.1[i].1 = k
    · rw [if_pos q1, m_gr26 hLu, m_gr5 hLu, m_gr14 hLu, m_li79 hLu (by omega), show me_i (me_w (me_w M g) u) 79 (4 * i + 1) = _ from r1, m_li73 hLu b1, show me_i (me_w (me_w M g) u) 73 w.1[i].2.1 = _ from own, m_li86 hLu (by omega), m_gr14 hLu, m_li79 hLu (by omega), show me_i (me_w (me_w M g) u) 79 (4 * i + 3) = _ from r3, i_w, m3 _ (by omega), i_lt (by omega) (by omega), show dj X.2.2.2.2.2 X.2.1 X.2.2.1 (w.2.2.1 k 5) (w.2.1 + w.2.2.1 k 6) (X.2.2.2.2.1 w.1[i].2.1) = d0 X w k (X.2.2.2.2.1 w.1[i].2.1) from rfl]
      by_cases q2 : w.1[i].2.2.2 < min (d0 X w k (X.2.2.2.2.1 w.1[i].2.1)) 10000000
      · rw [if_pos q2, if_neg (fun z => by have := (of_decide_eq_true z).2; omega)]
        simp only [Option.bind_some, if_true]
        rw [← nI_0, n_or]
      · rw [if_neg q2, if_pos (decide_eq_true ⟨q1, by omega⟩)]
        simp only [Option.bind_some]
        rw [if_neg (by decide)]
        simp only [Option.bind_some]
        rw [n_or]
    · rw [if_neg q1, if_neg (fun z => q1 (of_decide_eq_true z).1)]
      simp only [Option.bind_some, if_true]
      rw [← nI_0, n_or]
  · show s_X12_inTime_35 70 (nI k) (me_w (me_w M g) u) _ (nI w.1.length) = _
    unfold s_X12_inTime_35
    rw [m_gi hLu, h13, if_pos (nI_le (Nat.le_refl _) (by omega))]
  refine ⟨nI (ab (mt X w k (d0 X w k)) 12), me_w M g, me_w (me_w M g) u, ?_, ?_, ?_⟩
  · unfold f_X11_inTime b_X11_inTime
    rw [ck_e (lk_0 hL), gr_e (lk_0 hL) (lr_0_1 hL), cR_e (e_knightAt hCL), cP_e (e_isAlive hCL hR), if_neg h1, gr_e (lk_0 hL) (lr_0_4 hL), gr_e (lk_0 hL) (lr_0_1 hL), cI_e e1]
  · unfold f_X12_inTime b_X12_inTime
    have wls : wl (st_m (me_w M g)) t (nI k) = wl (st_m M) t (nI k) := by
      unfold wl st_m
      rw [i_w, e2 _ _ (by omega)]
    have e := ab_more (P := mt X w k (d0 X w k)) (n := w.1.length) (fun i hi => mt_n hi) (12 - w.1.length)
    rw [show w.1.length + (12 - w.1.length) = 12 by omega] at e
    rw [ck_e (lk_70 hLg), cP_e (e_isWell hLg ((e2 _ _ (by omega)).trans ht70) ht), wls, if_neg h1, m_gr9 hLg, m_li75 hLg hk, m_gi hLg, m_gr10 hLg, m_li76 hLg hk, show me_i (me_w M g) 75 k = _ from k3, show me_i (me_w M g) 76 k = _ from k4, show me_i (me_w M g) 70 8 = _ from hST2.1.2.2.2.1, nI_add, cM_e m1, show ((0 : Int32), (0 : Int32)) = (nI (ab (mt X w k (d0 X w k)) 0), nI 0) by rw [nI_0]; rfl, hlp, e]
    rfl
  · exact iv_j (M := M) (g := u) hn h (fun a z q1 _ _ q4 => by rw [m2 a z q4, i_w]; exact e2 a z q1)

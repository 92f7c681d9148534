/-! journeys, by both sides -/
theorem c_90 : (90 : Int32) = nI 90 := by decide +kernel
theorem c_INF : (1000000000 : Int32) = nI INF := by decide +kernel
theorem c_10m : (10000000 : Int32) = nI 10000000 := by decide +kernel
theorem INF_e : INF = 1000000000 := rfl
/-- how the class's land is read -/
def LC (M : Me) (R : Nat → Nat) (y c : Nat) : Prop := Lay M ∧ me_i M 4 0 = nI c ∧ me_i M 4 1 = nI y ∧ (∀ i, i < 25 → me_i M 5 i = nI (R i) ∧ R i ≤ 99) ∧ (2 ≤ c ∧ c ≤ 5) ∧ 10 ≤ y ∧ y ≤ 400
def LM (M : Me) (R : Nat → Nat) (y c : Nat) : Prop := Lay M ∧ me_i M 70 0 = nI c ∧ me_i M 70 2 = nI y ∧ (∀ i, i < 25 → me_i M 71 i = nI (R i) ∧ R i ≤ 99) ∧ (2 ≤ c ∧ c ≤ 5) ∧ 10 ≤ y ∧ y ≤ 400
section JL
variable {M : Me} {R : Nat → Nat} {y c : Nat}
theorem LC.same {g : St} (h : LC M R y c) (hi : ∀ a z, a < 10 → g a z = me_i M a z) : LC (me_w M g) R y c := by
  obtain ⟨h1, h2, h3, h4, h5⟩ := h
  exact ⟨h1, (hi _ _ (by omega)).trans h2, (hi _ _ (by omega)).trans h3, fun i hi2 => ⟨(hi _ _ (by omega)).trans (h4 i hi2).1, (h4 i hi2).2⟩, h5⟩
theorem LM.same {g : St} (h : LM M R y c) (hi : ∀ a z, a = 70 ∨ a = 71 → g a z = me_i M a z) : LM (me_w M g) R y c := by
  obtain ⟨h1, h2, h3, h4, h5⟩ := h
  exact ⟨h1, (hi _ _ (by omega)).trans h2, (hi _ _ (by omega)).trans h3, fun i hi2 => ⟨(hi _ _ (by omega)).trans (h4 i hi2).1, (h4 i hi2).2⟩, h5⟩
theorem e_across {u v d : Nat} (h : LC M R y c) (hu : u < 5) (hv : v < 5) (hd : d < 100000000) : f_X5_firstAcross 4 (nI u) (nI v) (nI d) M = some (nI (if R (5 * u + v) = 0 then INF else ar y d (R (5 * u + v)))) := by
  obtain ⟨hL, h2, h3, h4, h5, h6⟩ := h
  obtain ⟨r1, r2⟩ := h4 (5 * u + v) (by omega)
  have hm := Nat.mod_lt d (show 0 < y by omega)
  have hml := Nat.mod_le d y
  have er := e_roadDays (M := M) (lk_4 hL) (lr_4_2 hL) (lk_5 hL) hu hv
  rw [r1] at er
  unfold f_X5_firstAcross b_X5_firstAcross ar
  simp only [let_v]
  rw [ck_e (lk_4 hL), cP_e er, i_eq0 (by omega), c_INF]
  generalize R (5 * u + v) = r at r2
  by_cases q0 : r = 0
  · rw [if_pos q0, if_pos q0]
  rw [if_neg q0, if_neg q0, gi_e (lk_4 hL), h3, cP_e (e_left (by omega) (by omega) (by omega)), c_90, i_lt (by omega) (by omega)]
  by_cases q1 : d % y < 90
  · rw [if_pos q1, if_pos q1, gi_e (lk_4 hL), h3, i_le (by omega) (by omega), c_2, pk_mul, nI_add, pk_sub hml, nI_add, nI_add]
    by_cases q2 : y ≤ 90
    · rw [if_pos q2, if_neg (by omega)]; rfl
    · rw [if_neg q2, if_pos (by omega), mn_n (by omega) (by omega)]; rfl
  · rw [if_neg q1, if_neg q1, nI_add]
theorem row_stop {u j : Nat} {F : Nat → Nat} (h : INF ≤ rw_ R y u F j u) : ∀ n, rw_ R y u F (j + n) = rw_ R y u F j := by
  intro n
  induction n with
  | zero => rfl
  | succ n ih =>
    show rx R y u (j + n) (rw_ R y u F (j + n)) = _
    rw [rx_id (by rw [rx_at, if_pos (Or.inr (by rw [ih]; exact h))])]
    exact ih
theorem e_row {A u : Nat} {F : Nat → Nat} (hC : LC M R y c) (hA : 62 ≤ A ∧ A ≤ 63) (hu : u < c) (hb : ∀ j, j ≤ 5 → Bd 90000000 (rw_ R y u F j)) : ∀ n j g, j + n = c → (∀ a z, a ≠ A → g a z = me_i M a z) → (∀ v, v < 5 → g A v = nI (rw_ R y u F j v)) → ∃ g' z, lp (fun s : Me × Int32 => s_X5_fillFirstDays_58 4 A (nI u) s.1 s.2) (me_w M g, nI j) = some (me_w M g', z) ∧ (∀ a z, a ≠ A → g' a z = me_i M a z) ∧ ∀ v, v < 5 → g' A v = nI (rw_ R y u F c v) := by
  have hkA : ∀ g : St, me_k (me_w M g) A = some (20, 5) := fun g => by
    have : A = 62 ∨ A = 63 := by omega
    rcases this with rfl | rfl
    · exact lk_62 hC.1
    · exact lk_63 hC.1
  intro n
  induction n with
  | zero =>
    intro j g hj g1 g2
    have hC2 : LC (me_w M g) R y c := hC.same (fun a z q => g1 a z (by omega))
    have hc5 := hC.2.2.2.2.1
    refine ⟨g, nI j, ?_, g1, fun v hv => by rw [g2 v hv, show j = c by omega]⟩
    rw [lp_eq]
    show (s_X5_fillFirstDays_58 4 A (nI u) (me_w M g) (nI j)).bind _ = _
    unfold s_X5_fillFirstDays_58
    rw [gi_e (lk_4 hC2.1), hC2.2.1, if_pos (nI_le (by omega) (by omega))]; rfl
  | succ n ih =>
    intro j g hj g1 g2
    have hC2 : LC (me_w M g) R y c := hC.same (fun a z q => g1 a z (by omega))
    have hc5 := hC.2.2.2.2.1
    have bu := hb j (by omega) u
    have bj := hb j (by omega) j
    have ei := INF_e
    by_cases q : INF ≤ rw_ R y u F j u
    · refine ⟨g, nI j, ?_, g1, fun v hv => ?_⟩
      · rw [lp_eq]
        show (s_X5_fillFirstDays_58 4 A (nI u) (me_w M g) (nI j)).bind _ = _
        unfold s_X5_fillFirstDays_58
        rw [gi_e (lk_4 hC2.1), hC2.2.1, if_neg (nI_ge (by omega) (by omega)), c_5, if_neg (nI_ge (by omega) (by omega)), li_e (hkA g) (by omega) (by decide), i_w, g2 u (by omega), c_INF, if_pos (nI_le q (by omega))]; rfl
      · have e := row_stop q (n + 1)
        rw [show j + (n + 1) = c by omega] at e
        rw [g2 v hv, e]
    · have hfu : rw_ R y u F j u ≤ 90000000 := by omega
      obtain ⟨-, r2⟩ := hC.2.2.2.1 (5 * u + j) (by omega)
      have al := ar_le (y := y) (d := rw_ R y u F j u) (r := R (5 * u + j))
      have step : s_X5_fillFirstDays_58 4 A (nI u) (me_w M g) (nI j) = some (Sum.inl (me_si (me_w M g) A j (nI (rw_ R y u F (j + 1) j)), nI (j + 1))) := by
        unfold s_X5_fillFirstDays_58
        simp only [let_v]
        rw [gi_e (lk_4 hC2.1), hC2.2.1, if_neg (nI_ge (by omega) (by omega)), c_5, if_neg (nI_ge (by omega) (by omega)), li_e (hkA g) (by omega) (by decide), i_w, g2 u (by omega), c_INF, if_neg (nI_ge (by omega) (by omega)), li_e (hkA g) (by omega) (by decide), i_w, g2 j (by omega), li_e (hkA g) (by omega) (by decide), i_w, g2 u (by omega), cP_e (e_across hC2 (by omega) (by omega) (by omega)), si_e (hkA g) (by omega) (by decide), nI_1]
        show _ = some (Sum.inl (me_si (me_w M g) A j (nI (rx R y u j (rw_ R y u F j) j)), nI (j + 1)))
        rw [rx_at]
        by_cases z : R (5 * u + j) = 0
        · rw [if_pos z, if_pos (Or.inl z), mn_n (by omega) (by omega), Nat.min_eq_left (by omega)]
        · rw [if_neg z, if_neg (fun w => w.elim z q), mn_n (by omega) (by omega)]
      obtain ⟨g', z, i1, i2, i3⟩ := ih (j + 1) (fun a b => me_i (me_si (me_w M g) A j (nI (rw_ R y u F (j + 1) j))) a b) (by omega) (fun a b w => by rw [si_ne (by omega), i_w]; exact g1 a b w) (fun v hv => by
        by_cases w : v = j
        · rw [w, si_self]
        · rw [si_ne (by omega), i_w, g2 v hv]
          show _ = nI (rx R y u j (rw_ R y u F j) v)
          rw [rx_ne w])
      refine ⟨g', z, ?_, i2, i3⟩
      rw [lp_eq]
      show (s_X5_fillFirstDays_58 4 A (nI u) (me_w M g) (nI j)).bind _ = _
      rw [step]
      exact i1
theorem e_pass {A : Nat} {F : Nat → Nat} (hC : LC M R y c) (hA : 62 ≤ A ∧ A ≤ 63) (hb : ∀ u, u < c → ∀ j, j ≤ 5 → Bd 90000000 (rw_ R y u (pf R y c F u) j)) {g : St} (g1 : ∀ a z, a ≠ A → g a z = me_i M a z) (g2 : ∀ v, v < 5 → g A v = nI (F v)) : ∃ g', lp (fun s : Me × Int32 => s_X5_fillFirstDays_40 4 A s.1 s.2) (me_w M g, 0) = some (me_w M g', nI c) ∧ (∀ a z, a ≠ A → g' a z = me_i M a z) ∧ ∀ v, v < 5 → g' A v = nI (pf R y c F c v) := by
  have hc5 := hC.2.2.2.2.1
  have hlp := lp_cnt (step := fun s : Me × Int32 => s_X5_fillFirstDays_40 4 A s.1 s.2) c
    (fun u s => ∃ g, s = (me_w M g, nI u) ∧ (∀ a z, a ≠ A → g a z = me_i M a z) ∧ ∀ v, v < 5 → g A v = nI (pf R y c F u v))
    (fun s => ∃ g, s = (me_w M g, nI c) ∧ (∀ a z, a ≠ A → g a z = me_i M a z) ∧ ∀ v, v < 5 → g A v = nI (pf R y c F c v))
    ?_ ?_ (me_w M g, 0) ⟨g, by rw [nI_0], g1, g2⟩
  · obtain ⟨x, hx, g', rfl, h1⟩ := hlp
    exact ⟨g', hx, h1⟩
  · rintro u s hu ⟨g, rfl, a1, a2⟩
    have hC2 : LC (me_w M g) R y c := hC.same (fun a z q => a1 a z (by omega))
    obtain ⟨g', z, i1, i2, i3⟩ := e_row hC hA hu (hb u hu) c 0 g (by omega) a1 a2
    rw [nI_0] at i1
    refine ⟨(me_w M g', nI (u + 1)), ?_, g', rfl, i2, i3⟩
    show s_X5_fillFirstDays_40 4 A (me_w M g) (nI u) = _
    unfold s_X5_fillFirstDays_40
    simp only [let_v]
    rw [gi_e (lk_4 hC2.1), hC2.2.1, if_neg (nI_ge hu (by omega)), c_5, if_neg (nI_ge (by omega) (by omega)), i1, nI_1]; rfl
  · rintro s ⟨g, rfl, a1, a2⟩
    have hC2 : LC (me_w M g) R y c := hC.same (fun a z q => a1 a z (by omega))
    refine ⟨(me_w M g, nI c), ?_, g, rfl, a1, a2⟩
    show s_X5_fillFirstDays_40 4 A (me_w M g) (nI c) = _
    unfold s_X5_fillFirstDays_40
    rw [gi_e (lk_4 hC2.1), hC2.2.1, if_pos (nI_le (Nat.le_refl _) (by omega))]
theorem it_bd {st s : Nat} (hR : ∀ i, i < 25 → R i ≤ 99) (hc : c ≤ 5) (hs : s ≤ 5000000) {p : Nat} (hp : p ≤ 5) : ∀ u, u < c → ∀ j, j ≤ 5 → Bd 5100000 (rw_ R y u (pf R y c (itp R y c (f_0 st s) p) u) j) := by
  intro u hu j hj
  have h1 := bd_it (R := R) (y := y) (st := st) (s := s) hR hc p
  have h2 := bd_pf (y := y) h1 hR hc u (by omega)
  have h3 := bd_rw (u := u) (y := y) h2 hR (by omega) j hj
  refine h3.up ?_
  have : 198 * c * u ≤ 198 * 5 * 5 := Nat.mul_le_mul (Nat.mul_le_mul (Nat.le_refl _) hc) (by omega)
  omega
def dj (R : Nat → Nat) (y c st s : Nat) : Nat → Nat := itp R y c (f_0 st s) (c - 1)
theorem dj_bd {st s : Nat} (hR : ∀ i, i < 25 → R i ≤ 99) (hc : c ≤ 5) (hs : s ≤ 5000000) : Bd 5100000 (dj R y c st s) := (bd_it hR hc (c - 1)).up (by omega)
theorem e_fillF {A st s : Nat} (hC : LC M R y c) (hA : 62 ≤ A ∧ A ≤ 63) (hst : st < c) (hs : s ≤ 5000000) : ∃ g, f_X5_fillFirstDays 4 (nI st) (nI s) A M = some (me_w M g) ∧ (∀ a z, a ≠ A → g a z = me_i M a z) ∧ ∀ v, v < 5 → g A v = nI (dj R y c st s v) := by
  have hc5 := hC.2.2.2.2.1
  have hkA : ∀ g : St, me_k (me_w M g) A = some (20, 5) := fun g => by
    have : A = 62 ∨ A = 63 := by omega
    rcases this with rfl | rfl
    · exact lk_62 hC.1
    · exact lk_63 hC.1
  have eF := e_fill (M := M) (a := A) (n := 5) (v := 1000000000) (hkA (fun a z => me_i M a z)) (by omega)
  have hR : ∀ i, i < 25 → R i ≤ 99 := fun i hi => (hC.2.2.2.1 i hi).2
  have hlp := lp_cnt (step := fun s : Me × Int32 => s_X5_fillFirstDays_28 4 A s.1 s.2) (c - 1)
    (fun p x => ∃ g, x = (me_w M g, nI (p + 1)) ∧ (∀ a z, a ≠ A → g a z = me_i M a z) ∧ ∀ v, v < 5 → g A v = nI (itp R y c (f_0 st s) p v))
    (fun x => ∃ g, x = (me_w M g, nI c) ∧ (∀ a z, a ≠ A → g a z = me_i M a z) ∧ ∀ v, v < 5 → g A v = nI (itp R y c (f_0 st s) (c - 1) v))
    ?_ ?_ (me_si (me_w M (fun x z => if x = A ∧ z < 5 then 1000000000 else me_i M x z)) A st (nI s), 1) ⟨_, by rw [← c_1]; rfl, fun a z q => by
      show (if a = A ∧ z = _ then _ else if a = A ∧ z < 5 then _ else _) = _
      rw [if_neg (by omega), if_neg (by omega)], fun v hv => by
      show (if A = A ∧ v = st then nI s else if A = A ∧ v < 5 then (1000000000 : Int32) else _) = nI (if v = st then s else INF)
      by_cases q : v = st
      · rw [if_pos ⟨rfl, q⟩, if_pos q]
      · rw [if_neg (fun z => q z.2), if_pos ⟨rfl, hv⟩, if_neg q, c_INF]⟩
  · obtain ⟨x, hx, g, rfl, h1, h2⟩ := hlp
    refine ⟨g, ?_, h1, h2⟩
    have e4 : (me_i (me_w M (fun x z => if x = A ∧ z < 5 then (1000000000 : Int32) else me_i M x z)) 4 0) = nI c := by
      rw [i_w, if_neg (by omega)]; exact hC.2.1
    unfold f_X5_fillFirstDays b_X5_fillFirstDays
    rw [ck_e (lk_4 hC.1), cM_e eF, cP_e (e_hasChapel (by exact lk_4 hC.1) e4 hc5.2), cv_one hc5.2 hst, if_neg (by decide), al_e (hkA _), c_5, if_pos (nI_le (Nat.le_refl _) (by decide)), si_e (hkA _) (by omega) (by decide), hx]
    rfl
  · rintro p x hp ⟨g, rfl, a1, a2⟩
    have hC2 : LC (me_w M g) R y c := hC.same (fun a z q => a1 a z (by omega))
    obtain ⟨g', i1, i2, i3⟩ := e_pass hC hA (fun u hu j hj => (it_bd (st := st) (s := s) (y := y) hR hc5.2 hs (show p ≤ 5 by omega) u hu j hj).up (by omega)) a1 a2
    refine ⟨(me_w M g', nI (p + 2)), ?_, g', rfl, i2, i3⟩
    show s_X5_fillFirstDays_28 4 A (me_w M g) (nI (p + 1)) = _
    unfold s_X5_fillFirstDays_28
    simp only [let_v]
    rw [gi_e (lk_4 hC2.1), hC2.2.1, if_neg (nI_ge (by omega) (by omega)), i1, nI_1]; rfl
  · rintro x ⟨g, rfl, a1, a2⟩
    have hC2 : LC (me_w M g) R y c := hC.same (fun a z q => a1 a z (by omega))
    rw [show c - 1 + 1 = c by omega]
    refine ⟨(me_w M g, nI c), ?_, g, rfl, a1, a2⟩
    show s_X5_fillFirstDays_28 4 A (me_w M g) (nI c) = _
    unfold s_X5_fillFirstDays_28
    rw [gi_e (lk_4 hC2.1), hC2.2.1, if_pos (nI_le (Nat.le_refl _) (by omega))]
/-! the reference -/
theorem e_arrival {d r : Nat} (h : LM M R y c) (hr : r ≤ 99) (hd : d ≤ 9000000) : f_X12_arrival 70 (nI d) (nI r) M = some (nI (ar y d r)) := by
  obtain ⟨hL, h2, h3, h4, h5, h6⟩ := h
  have hm := Nat.mod_lt d (show 0 < y by omega)
  have hml := Nat.mod_le d y
  unfold f_X12_arrival b_X12_arrival ar
  simp only [let_v]
  rw [m_ck hL, m_gi hL, h3, if_neg (nI_ne0 (by omega) (by omega)), pk_rem (by omega) (by omega) (by omega), c_90, i_le (by omega) (by omega), c_2, pk_mul, nI_add, nI_add, pk_sub hml, nI_add, nI_add, c_10m]
  by_cases q1 : d % y < 90
  · rw [if_neg (show ¬ 90 ≤ d % y by omega), if_pos q1]
    simp only [Option.bind_some]
    rw [m_gi hL, h3, i_lt (by omega) (by omega)]
    by_cases q2 : 90 < y
    · rw [if_pos q2, if_pos q2, if_neg (nI_ge q1 (by omega))]
      simp only [Option.bind_some]
      rw [i_le (by omega) (by omega)]
      by_cases q3 : d - d % y + 90 + r ≤ d + 2 * r
      · rw [if_pos q3, Nat.min_eq_right q3]; rfl
      · rw [if_neg q3, Nat.min_eq_left (by omega)]; rfl
    · rw [if_neg q2, if_neg q2]
      simp only [Option.bind_some]
      rw [i_le (by omega) (by omega), if_neg (by omega)]; rfl
  · rw [if_pos (show 90 ≤ d % y by omega), if_neg q1]
    simp only [Option.bind_some]
    rw [m_gi hL, h3, i_lt (by omega) (by omega), if_pos (show 90 < y by omega), if_pos (nI_le (show 90 ≤ d % y by omega) (by omega))]
    simp only [Option.bind_some]
    rw [i_le (by omega) (by omega), if_neg (by omega)]; rfl
def FL (F h : Nat → Nat) (fl : Int32) : Prop := (fl = 0 ∧ h = F) ∨ (fl = 1 ∧ ¬ h = F)
theorem e_mrow {u : Nat} {F P : Nat → Nat} (hM : LM M R y c) (hu : u < c) (hb : ∀ j, j ≤ 5 → Bd 5100000 (rw_ R y u F j)) (hP : ∀ x, F x ≤ P x) {g : St} {fl : Int32} (g1 : ∀ a z, a ≠ 86 → g a z = me_i M a z) (g2 : ∀ v, v < 5 → g 86 v = nI (min (F v) 10000000)) (hfl : FL P F fl) : ∃ g' fl', lp (fun s : Me × Int32 × Int32 => s_X12_layJourneys_53 70 (nI u) s.1 s.2.1 s.2.2) (me_w M g, fl, 0) = some (me_w M g', fl', nI c) ∧ (∀ a z, a ≠ 86 → g' a z = me_i M a z) ∧ (∀ v, v < 5 → g' 86 v = nI (min (rw_ R y u F c v) 10000000)) ∧ FL P (rw_ R y u F c) fl' := by
  have hc5 := hM.2.2.2.2.1
  have ei := INF_e
  have hlp := lp_cnt (step := fun s : Me × Int32 × Int32 => s_X12_layJourneys_53 70 (nI u) s.1 s.2.1 s.2.2) c
    (fun j s => ∃ g fl, s = (me_w M g, fl, nI j) ∧ (∀ a z, a ≠ 86 → g a z = me_i M a z) ∧ (∀ v, v < 5 → g 86 v = nI (min (rw_ R y u F j v) 10000000)) ∧ FL P (rw_ R y u F j) fl)
    (fun s => ∃ g fl, s = (me_w M g, fl, nI c) ∧ (∀ a z, a ≠ 86 → g a z = me_i M a z) ∧ (∀ v, v < 5 → g 86 v = nI (min (rw_ R y u F c v) 10000000)) ∧ FL P (rw_ R y u F c) fl)
    ?_ ?_ (me_w M g, fl, 0) ⟨g, fl, by rw [nI_0], g1, g2, hfl⟩
  · obtain ⟨x, hx, g', fl', rfl, h1⟩ := hlp
    exact ⟨g', fl', hx, h1⟩
  · rintro j s hj ⟨g, fl, rfl, a1, a2, a3⟩
    have hM2 : LM (me_w M g) R y c := hM.same (fun a z q => a1 a z (by omega))
    have hL2 := hM2.1
    obtain ⟨r1, r2⟩ := hM2.2.2.2.1 (5 * u + j) (by omega)
    have bu := hb j (by omega) u
    have bj := hb j (by omega) j
    have ix : (5 : Int32) * nI u + nI j = nI (5 * u + j) := by rw [c_5, pk_mul, nI_add]
    have e86 : ∀ v, v < 5 → me_i (me_w M g) 86 v = nI (min (rw_ R y u F j v) 10000000) := fun v hv => a2 v hv
    by_cases q : R (5 * u + j) = 0 ∨ INF ≤ rw_ R y u F j u
    · have eid : rw_ R y u F (j + 1) = rw_ R y u F j := rx_id (by rw [rx_at, if_pos q])
      refine ⟨(me_w M g, fl, nI (j + 1)), ?_, g, fl, rfl, a1, by rw [eid]; exact a2, by rw [eid]; exact a3⟩
      show s_X12_layJourneys_53 70 (nI u) (me_w M g) fl (nI j) = _
      unfold s_X12_layJourneys_53
      simp only [let_v]
      rw [m_gi hL2, hM2.2.1, if_neg (nI_ge hj (by omega)), m_gr1 hL2, ix, m_li71 hL2 (by omega), r1, i_le0 (by omega), nI_1]
      by_cases q1 : R (5 * u + j) = 0
      · rw [if_pos q1]; rfl
      · rw [if_neg q1, m_gr26 hL2, m_li86 hL2 (by omega), e86 u (by omega), c_10m, if_pos (nI_le (by omega) (by omega))]; rfl
    · have hfu : rw_ R y u F j u ≤ 5100000 := by omega
      have al := ar_le (y := y) (d := rw_ R y u F j u) (r := R (5 * u + j))
      have ev : rw_ R y u F (j + 1) j = min (rw_ R y u F j j) (ar y (rw_ R y u F j u) (R (5 * u + j))) := by
        show rx R y u j (rw_ R y u F j) j = _
        rw [rx_at, if_neg q]
      have step : ∃ fl2, s_X12_layJourneys_53 70 (nI u) (me_w M g) fl (nI j) = some (Sum.inl (me_si (me_w M g) 86 j (nI (min (rw_ R y u F (j + 1) j) 10000000)), fl2, nI (j + 1))) ∧ FL P (rw_ R y u F (j + 1)) fl2 := by
        refine ⟨if fl = 0 then (if rw_ R y u F j j ≤ ar y (rw_ R y u F j u) (R (5 * u + j)) then 0 else 1) else 1, ?_, ?_⟩
        · unfold s_X12_layJourneys_53
          simp only [let_v]
          rw [m_gi hL2, hM2.2.1, if_neg (nI_ge hj (by omega)), m_gr1 hL2, ix, m_li71 hL2 (by omega), r1, i_le0 (by omega), if_neg (by omega), m_gr26 hL2, m_li86 hL2 (by omega), e86 u (by omega), c_10m, if_neg (nI_ge (by omega) (by omega)), m_gr26 hL2, m_li86 hL2 (by omega), e86 u (by omega), m_gr1 hL2, m_li71 hL2 (by omega), r1, Nat.min_eq_left (show rw_ R y u F j u ≤ 10000000 by omega), cP_e (e_arrival hM2 r2 (by omega)), m_gr26 hL2, m_li86 hL2 (by omega), e86 j (by omega), i_le (by omega) (by omega), nI_1, ev]
          have e1 : (min (rw_ R y u F j j) 10000000 ≤ ar y (rw_ R y u F j u) (R (5 * u + j))) = (rw_ R y u F j j ≤ ar y (rw_ R y u F j u) (R (5 * u + j))) := propext (by omega)
          have efl : (if fl = 0 then if min (rw_ R y u F j j) 10000000 ≤ ar y (rw_ R y u F j u) (R (5 * u + j)) then some (0 : Int32) else some 1 else some 1) = some (if fl = 0 then (if rw_ R y u F j j ≤ ar y (rw_ R y u F j u) (R (5 * u + j)) then 0 else 1) else 1) := by
            by_cases z : fl = 0
            · rw [if_pos z, if_pos z]
              by_cases w : rw_ R y u F j j ≤ ar y (rw_ R y u F j u) (R (5 * u + j))
              · rw [if_pos (e1.symm ▸ w), if_pos w]
              · rw [if_neg (e1.symm ▸ w), if_neg w]
            · rw [if_neg z, if_neg z]
          rw [efl]
          simp only [Option.bind_some]
          rw [m_gr26 hL2, m_gr26 hL2, m_li86 hL2 (by omega), e86 j (by omega), i_le (by omega) (by omega)]
          by_cases w : rw_ R y u F j j ≤ ar y (rw_ R y u F j u) (R (5 * u + j))
          · rw [if_pos (e1.symm ▸ w), Nat.min_eq_left w, m_gr26 hL2, m_li86 hL2 (by omega), e86 j (by omega)]
            simp only [Option.bind_some]
            rw [m_si86 hL2 (by omega)]; rfl
          · rw [if_neg (e1.symm ▸ w), Nat.min_eq_right (show ar y (rw_ R y u F j u) (R (5 * u + j)) ≤ rw_ R y u F j j by omega), Nat.min_eq_left (show ar y (rw_ R y u F j u) (R (5 * u + j)) ≤ 10000000 by omega)]
            simp only [Option.bind_some]
            rw [m_si86 hL2 (by omega)]; rfl
        · rcases a3 with ⟨b1, b2⟩ | ⟨b1, b2⟩
          · rw [if_pos b1]
            by_cases w : rw_ R y u F j j ≤ ar y (rw_ R y u F j u) (R (5 * u + j))
            · left
              refine ⟨if_pos w, ?_⟩
              rw [← b2]
              exact rx_id (by rw [show rx R y u j (rw_ R y u F j) j = _ from ev, Nat.min_eq_left w])
            · right
              refine ⟨if_neg w, fun z => ?_⟩
              have : rw_ R y u F (j + 1) j = rw_ R y u F j j := by rw [z, b2]
              rw [ev] at this
              omega
          · rw [if_neg (by rw [b1]; decide)]
            right
            refine ⟨rfl, fun z => b2 (funext fun x => ?_)⟩
            have l1 : rw_ R y u F (j + 1) x ≤ rw_ R y u F j x := rx_le
            have l2 := rw_le (R := R) (y := y) (u := u) (f := F) (x := x) j
            have l3 := hP x
            have l4 : rw_ R y u F (j + 1) x = P x := by rw [z]
            omega
      obtain ⟨fl2, st1, st2⟩ := step
      refine ⟨_, st1, fun a b => me_i (me_si (me_w M g) 86 j (nI (min (rw_ R y u F (j + 1) j) 10000000))) a b, fl2, rfl, fun a z w => by dsimp only; rw [si_ne (by omega), i_w]; exact a1 a z w, fun v hv => ?_, st2⟩
      dsimp only
      by_cases w : v = j
      · rw [w, si_self]
      · rw [si_ne (by omega), i_w, a2 v hv]
        show _ = nI (min (rx R y u j (rw_ R y u F j) v) 10000000)
        rw [rx_ne w]
  · rintro s ⟨g, fl, rfl, a1, a2, a3⟩
    have hM2 : LM (me_w M g) R y c := hM.same (fun a z q => a1 a z (by omega))
    refine ⟨(me_w M g, fl, nI c), ?_, g, fl, rfl, a1, a2, a3⟩
    show s_X12_layJourneys_53 70 (nI u) (me_w M g) fl (nI c) = _
    unfold s_X12_layJourneys_53
    rw [m_gi hM2.1, hM2.2.1, if_pos (nI_le (Nat.le_refl _) (by omega))]
theorem e_mpassJ {F : Nat → Nat} (hM : LM M R y c) (hb : ∀ u, u < c → ∀ j, j ≤ 5 → Bd 5100000 (rw_ R y u (pf R y c F u) j)) {g : St} (g1 : ∀ a z, a ≠ 86 → g a z = me_i M a z) (g2 : ∀ v, v < 5 → g 86 v = nI (min (F v) 10000000)) : ∃ g' fl', lp (fun s : Me × Int32 × Int32 => s_X12_layJourneys_41 70 s.1 s.2.1 s.2.2) (me_w M g, 0, 0) = some (me_w M g', fl', nI c) ∧ (∀ a z, a ≠ 86 → g' a z = me_i M a z) ∧ (∀ v, v < 5 → g' 86 v = nI (min (pf R y c F c v) 10000000)) ∧ FL F (pf R y c F c) fl' := by
  have hc5 := hM.2.2.2.2.1
  have hlp := lp_cnt (step := fun s : Me × Int32 × Int32 => s_X12_layJourneys_41 70 s.1 s.2.1 s.2.2) c
    (fun u s => ∃ g fl, s = (me_w M g, fl, nI u) ∧ (∀ a z, a ≠ 86 → g a z = me_i M a z) ∧ (∀ v, v < 5 → g 86 v = nI (min (pf R y c F u v) 10000000)) ∧ FL F (pf R y c F u) fl)
    (fun s => ∃ g fl, s = (me_w M g, fl, nI c) ∧ (∀ a z, a ≠ 86 → g a z = me_i M a z) ∧ (∀ v, v < 5 → g 86 v = nI (min (pf R y c F c v) 10000000)) ∧ FL F (pf R y c F c) fl)
    ?_ ?_ (me_w M g, 0, 0) ⟨g, 0, by rw [nI_0], g1, g2, Or.inl ⟨rfl, rfl⟩⟩
  · obtain ⟨x, hx, g', fl', rfl, h1⟩ := hlp
    exact ⟨g', fl', hx, h1⟩
  · rintro u s hu ⟨g, fl, rfl, a1, a2, a3⟩
    have hM2 : LM (me_w M g) R y c := hM.same (fun a z q => a1 a z (by omega))
    obtain ⟨g', fl', i1, i2, i3, i4⟩ := e_mrow hM hu (hb u hu) (fun x => pf_le u) a1 a2 a3
    refine ⟨(me_w M g', fl', nI (u + 1)), ?_, g', fl', rfl, i2, i3, i4⟩
    show s_X12_layJourneys_41 70 (me_w M g) fl (nI u) = _
    unfold s_X12_layJourneys_41
    simp only [let_v]
    rw [m_gi hM2.1, hM2.2.1, if_neg (nI_ge hu (by omega)), i1, nI_1]; rfl
  · rintro s ⟨g, fl, rfl, a1, a2, a3⟩
    have hM2 : LM (me_w M g) R y c := hM.same (fun a z q => a1 a z (by omega))
    refine ⟨(me_w M g, fl, nI c), ?_, g, fl, rfl, a1, a2, a3⟩
    show s_X12_layJourneys_41 70 (me_w M g) fl (nI c) = _
    unfold s_X12_layJourneys_41
    rw [m_gi hM2.1, hM2.2.1, if_pos (nI_le (Nat.le_refl _) (by omega))]
theorem e_mwhile {st s : Nat} (hM : LM M R y c) (hst : st < c) (hs : s ≤ 5000000) : ∀ k p g, p + k = c - 1 → (∀ a z, a ≠ 86 → g a z = me_i M a z) → (∀ v, v < 5 → g 86 v = nI (min (itp R y c (f_0 st s) p v) 10000000)) → ∃ g' z, lp (fun s : Me × Int32 => s_X12_layJourneys_32 70 s.1 s.2) (me_w M g, 1) = some (me_w M g', z) ∧ (∀ a z, a ≠ 86 → g' a z = me_i M a z) ∧ ∀ v, v < 5 → g' 86 v = nI (min (dj R y c st s v) 10000000) := by
  have hc5 := hM.2.2.2.2.1
  have ei := INF_e
  have hR : ∀ i, i < 25 → R i ≤ 99 := fun i hi => (hM.2.2.2.1 i hi).2
  intro k
  induction k with
  | zero =>
    intro p g hp g1 g2
    obtain ⟨g', fl', i1, i2, i3, i4⟩ := e_mpassJ (F := itp R y c (f_0 st s) p) hM (it_bd hR hc5.2 hs (by omega)) g1 g2
    have e := it_enough (R := R) (y := y) (c := c) (st := st) (s := s) hM.2.2.2.2.2.1 (by omega) hst
    have hpc : p = c - 1 := by omega
    have e2 : pf R y c (itp R y c (f_0 st s) p) c = itp R y c (f_0 st s) p := by
      rw [hpc]
      have : itp R y c (f_0 st s) (c - 1 + 1) = itp R y c (f_0 st s) (c - 1) := by rw [show c - 1 + 1 = c by omega]; exact e
      exact this
    rcases i4 with ⟨z1, z2⟩ | ⟨z1, z2⟩
    · refine ⟨g', fl', ?_, i2, fun v hv => by rw [i3 v hv, e2, hpc]; rfl⟩
      rw [lp_eq]
      show (s_X12_layJourneys_32 70 (me_w M g) 1).bind _ = _
      unfold s_X12_layJourneys_32
      rw [if_neg (by decide), i1]
      show lp (fun s : Me × Int32 => s_X12_layJourneys_32 70 s.1 s.2) (me_w M g', fl') = _
      rw [lp_eq]
      show (s_X12_layJourneys_32 70 (me_w M g') fl').bind _ = _
      unfold s_X12_layJourneys_32
      rw [if_pos z1]; rfl
    · exact absurd e2 z2
  | succ k ih =>
    intro p g hp g1 g2
    obtain ⟨g', fl', i1, i2, i3, i4⟩ := e_mpassJ (F := itp R y c (f_0 st s) p) hM (it_bd hR hc5.2 hs (by omega)) g1 g2
    rcases i4 with ⟨z1, z2⟩ | ⟨z1, z2⟩
    · have e3 : dj R y c st s = itp R y c (f_0 st s) p := by
        have := it_stay (R := R) (y := y) (c := c) (f := f_0 st s) (N := p) z2 (k + 1)
        rw [hp] at this
        exact this
      refine ⟨g', fl', ?_, i2, fun v hv => by rw [i3 v hv, z2, e3]⟩
      rw [lp_eq]
      show (s_X12_layJourneys_32 70 (me_w M g) 1).bind _ = _
      unfold s_X12_layJourneys_32
      rw [if_neg (by decide), i1]
      show lp (fun s : Me × Int32 => s_X12_layJourneys_32 70 s.1 s.2) (me_w M g', fl') = _
      rw [lp_eq]
      show (s_X12_layJourneys_32 70 (me_w M g') fl').bind _ = _
      unfold s_X12_layJourneys_32
      rw [if_pos z1]; rfl
    · obtain ⟨g'', z, j1, j2, j3⟩ := ih (p + 1) g' (by omega) i2 i3
      refine ⟨g'', z, ?_, j2, j3⟩
      rw [lp_eq]
      show (s_X12_layJourneys_32 70 (me_w M g) 1).bind _ = _
      unfold s_X12_layJourneys_32
      rw [if_neg (by decide), i1]
      show lp (fun s : Me × Int32 => s_X12_layJourneys_32 70 s.1 s.2) (me_w M g', fl') = _
      rw [z1]
      exact j1
theorem e_layJ {st s : Nat} (hM : LM M R y c) (hst : st < c) (hs : s ≤ 5000000) : ∃ g, f_X12_layJourneys 70 (nI st) (nI s) M = some (me_w M g) ∧ (∀ a z, a ≠ 86 → g a z = me_i M a z) ∧ ∀ v, v < 5 → g 86 v = nI (min (dj R y c st s v) 10000000) := by
  have hc5 := hM.2.2.2.2.1
  have ei := INF_e
  have hlp := lp_cnt (step := fun x : Me × Int32 => s_X12_layJourneys_2 70 (nI st) (nI s) x.1 x.2) 5
    (fun j x => ∃ g, x = (me_w M g, nI j) ∧ (∀ a z, a ≠ 86 → g a z = me_i M a z) ∧ ∀ v, v < j → g 86 v = nI (min (f_0 st s v) 10000000))
    (fun x => ∃ g, x = (me_w M g, nI 5) ∧ (∀ a z, a ≠ 86 → g a z = me_i M a z) ∧ ∀ v, v < 5 → g 86 v = nI (min (f_0 st s v) 10000000))
    ?_ ?_ (M, 0) ⟨fun a z => me_i M a z, by rw [nI_0]; rfl, fun _ _ _ => rfl, fun v hv => absurd hv (by omega)⟩
  · obtain ⟨x, hx, g, rfl, h1, h2⟩ := hlp
    obtain ⟨g', z, j1, j2, j3⟩ := e_mwhile hM hst hs (c - 1) 0 g (by omega) h1 h2
    refine ⟨g', ?_, j2, j3⟩
    unfold f_X12_layJourneys b_X12_layJourneys
    rw [m_ck hM.1, hx]
    simp only [Option.bind_some]
    rw [j1]; rfl
  · rintro j x hj ⟨g, rfl, a1, a2⟩
    have hL2 : Lay (me_w M g) := hM.1
    refine ⟨(me_si (me_w M g) 86 j (nI (min (f_0 st s j) 10000000)), nI (j + 1)), ?_, _, rfl, fun a z w => ?_, fun v hv => ?_⟩
    · show s_X12_layJourneys_2 70 (nI st) (nI s) (me_w M g) (nI j) = _
      unfold s_X12_layJourneys_2 f_0
      simp only [let_v]
      rw [c_5, if_neg (nI_ge hj (by omega)), m_gr26 hL2, i_eq (by omega) (by omega), nI_1, c_10m]
      by_cases q : j = st
      · rw [if_pos q, if_pos q, Nat.min_eq_left (by omega)]
        simp only [Option.bind_some]
        rw [m_si86 hL2 hj]
      · rw [if_neg q, if_neg q, Nat.min_eq_right (by omega)]
        simp only [Option.bind_some]
        rw [m_si86 hL2 hj]
    · show (if a = 86 ∧ z = _ then _ else g a z) = _
      rw [if_neg (by omega)]; exact a1 a z w
    · show (if 86 = 86 ∧ v = j then _ else g 86 v) = _
      by_cases q : v = j
      · rw [if_pos ⟨rfl, q⟩, q]
      · rw [if_neg (fun z => q z.2)]; exact a2 v (by omega)
  · rintro x ⟨g, rfl, a1, a2⟩
    refine ⟨(me_w M g, nI 5), ?_, g, rfl, a1, a2⟩
    show s_X12_layJourneys_2 70 (nI st) (nI s) (me_w M g) (nI 5) = _
    unfold s_X12_layJourneys_2
    rw [c_5, if_pos (nI_le (Nat.le_refl _) (by omega))]
end JL

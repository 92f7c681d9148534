/-! settled, by both sides -/
theorem mx_n {a b : Nat} (ha : a < 2 ^ 31) (hb : b < 2 ^ 31) : mx_i (nI a) (nI b) = nI (max a b) := by
  unfold mx_i
  rw [i_lt ha hb]
  by_cases h : a < b
  · rw [if_pos h, Nat.max_eq_right (by omega)]
  · rw [if_neg h, Nat.max_eq_left (by omega)]
theorem bit_mul {p : Prop} [Decidable p] {x : Int32} : (if p then (1 : Int32) else 0) * x = if p then x else 0 := by
  by_cases h : p
  · rw [if_pos h, if_pos h, Int32.one_mul]
  · rw [if_neg h, if_neg h, Int32.zero_mul]
theorem sub_ite {p : Prop} [Decidable p] {v x : Int32} : v - (if p then x else 0) = v + (if p then - x else 0) := by
  by_cases h : p
  · rw [if_pos h, if_pos h, Int32.sub_eq_add_neg]
  · rw [if_neg h, if_neg h, Int32.add_zero, Int32.sub_zero]
section SE
variable {X : Cx} {M : Me} {w : Wd} {l : List Rw} {S : Nat}
theorem e_csum (hL : Lay M) (hB : CB X M 3 w) (hrb : ∀ r, r ∈ w.1 → RB r) (hS : S < 64) : f_X6_sumOf 65 (nI S) 7 M = some (cs S w.1) := by
  obtain ⟨π, c1, c2, c3, c4⟩ := hB.rd
  have hC := hB.CL
  unfold f_X6_sumOf b_X6_sumOf
  rw [ck_e (lk_65 hL)]
  have h := lp_up (step := fun s : Int32 × Int32 => s_X6_sumOf_5 (nI S) 7 M s.1 s.2) (fun i => (cs S (w.1.take i), nI i)) w.1.length (cs S w.1, nI w.1.length) ?_ ?_ 0 (by omega)
  · rw [show ((0 : Int32), (0 : Int32)) = (cs S (w.1.take 0), nI 0) by rw [nI_0]; rfl, h]; rfl
  · intro i hi
    have hg : w.1[i]? = some w.1[i] := List.getElem?_eq_getElem hi
    obtain ⟨p1, r0, r1, r2, -⟩ := c4 i _ hg
    obtain ⟨b0, b1, -, -⟩ := hrb _ (List.getElem_mem hi)
    show s_X6_sumOf_5 (nI S) (3 + 4) M (cs S (w.1.take i)) (nI i) = some (Sum.inl (cs S (w.1.take (i + 1)), nI (i + 1)))
    rw [cs_s hg]
    unfold s_X6_sumOf_5 csf
    simp only [let_v]
    rw [c_12, if_neg (nI_ge (by omega) (by omega)), q_gi2 hC, c2, if_neg (nI_ge hi (by omega)), q_d1 hC, q_row hC c1 (by omega), q_gi1 hC p1, q_gi1 hC p1, q_gi1 hC p1, q_gi1 hC p1, r0, r1, r2, bit_64 S hS _ b0, bit_64 S hS _ b1, bit_mul, bit_mul, sub_ite, nI_1]
  · show s_X6_sumOf_5 (nI S) (3 + 4) M (cs S (w.1.take w.1.length)) (nI w.1.length) = _
    unfold s_X6_sumOf_5
    rw [q_gi2 hC, c2, if_pos (nI_le (Nat.le_refl _) (by omega)), List.take_length]
    split <;> rfl
theorem mxf_b {a : Nat → Nat} (ha : ∀ T, T < S → a T ≤ T) (hS : S < 64) (k : Nat) : mxf a S k < 64 := by
  have := mxf_le ha k
  omega
theorem e_cmx {a : Nat → Nat} (hL : Lay M) (ha : ∀ T, T < S → a T ≤ T) (h66 : ∀ T, T < S → me_i M 66 T = nI (a T)) (hS : S < 64) : lp (fun s : Int32 × Int32 => s_X6_fewestPayments_20 65 M (nI S) s.1 s.2) (0, 0) = some (nI (mxf a S 6), nI 6) := by
  have h := lp_up (step := fun s : Int32 × Int32 => s_X6_fewestPayments_20 65 M (nI S) s.1 s.2) (fun k => (nI (mxf a S k), nI k)) 6 (nI (mxf a S 6), nI 6) ?_ ?_ 0 (by decide)
  · rw [show ((0 : Int32), (0 : Int32)) = (nI (mxf a S 0), nI 0) by rw [nI_0]; rfl, h]
  · intro k hk
    show s_X6_fewestPayments_20 65 M (nI S) (nI (mxf a S k)) (nI k) = some (Sum.inl (nI (mxf a S (k + 1)), nI (k + 1)))
    rw [mxf_s]
    unfold s_X6_fewestPayments_20
    simp only [let_v]
    rw [c_6, if_neg (nI_ge hk (by omega)), bit_64 S hS k hk, nI_1]
    by_cases hb : S.testBit k = true
    · have hs := bit_sub hb
      have := ha _ hs
      have := mxf_b ha hS k
      rw [if_pos hb, if_pos rfl, if_pos hb, (t_clr S hS k hk hb).1, gr_e (lk_65 hL) (lr_65_0 hL), li_e (lk_66 hL) (by omega) (by decide), h66 _ hs, mx_n (by omega) (by omega)]; rfl
    · rw [if_neg hb, if_neg (by decide), if_neg hb]; rfl
  · show s_X6_fewestPayments_20 65 M (nI S) (nI (mxf a S 6)) (nI 6) = _
    unfold s_X6_fewestPayments_20
    rw [c_6, if_pos (nI_le (Nat.le_refl _) (by omega))]
theorem e_few (hL : Lay M) (hB : CB X M 3 w) (hrb : ∀ r, r ∈ w.1 → RB r) : ∃ g, f_X6_fewestPayments 65 7 M = some ((6 : Int32) - nI (tb (V_c (fun S => cs S w.1)) 64 63), me_w M g) ∧ ∀ a z, a ≠ 66 → g a z = me_i M a z := by
  have hle := tb_le (V_c_le (z := fun S => cs S w.1))
  have hlp := lp_cnt (step := fun s : Me × Int32 => s_X6_fewestPayments_9 65 7 s.1 s.2) 63
    (fun j s => ∃ g, s = (me_w M g, nI (j + 1)) ∧ (∀ a z, a ≠ 66 → g a z = me_i M a z) ∧ ∀ T, T < j + 1 → g 66 T = nI (tb (V_c (fun S => cs S w.1)) (j + 1) T))
    (fun s => ∃ g, s = (me_w M g, nI 64) ∧ (∀ a z, a ≠ 66 → g a z = me_i M a z) ∧ ∀ T, T < 64 → g 66 T = nI (tb (V_c (fun S => cs S w.1)) 64 T))
    ?_ ?_ (me_si M 66 0 0, 1) ⟨fun a z => me_i (me_si M 66 0 0) a z, by rw [← c_1]; rfl, fun a z q => by dsimp only; rw [si_ne (by omega)], fun T hT => by
      have : T = 0 := by omega
      subst this
      dsimp only
      rw [si_self, tb_s, if_pos rfl]
      unfold V_c
      rw [if_pos rfl, nI_0]⟩
  · obtain ⟨x, hx, g, rfl, a1, a2⟩ := hlp
    refine ⟨g, ?_, a1⟩
    have hL2 : Lay (me_w M g) := hL
    have e0 : si M 66 0 0 = fun Kf => (Kf (me_si M 66 0 0) : Option (Int32 × Me)) := by
      funext Kf
      rw [c_0, si_e (lk_66 hL) (by omega) (by decide)]
    unfold f_X6_fewestPayments b_X6_fewestPayments
    rw [ck_e (lk_65 hL), gr_e (lk_65 hL) (lr_65_0 hL), e0]
    dsimp only
    rw [hx]
    simp only [Option.bind_some]
    rw [gr_e (lk_65 hL2) (lr_65_0 hL2), show (63 : Int32) = nI 63 by decide +kernel, li_e (lk_66 hL2) (by omega) (by decide), i_w, a2 63 (by omega)]
  · rintro j s hj ⟨g, rfl, a1, a2⟩
    have hL2 : Lay (me_w M g) := hL
    have hB2 : CB X (me_w M g) 3 w := hB.out rfl (fun _ _ => rfl) (fun a z q1 q2 => a1 _ _ (by omega))
    have ha : ∀ T, T < j + 1 → tb (V_c (fun S => cs S w.1)) (j + 1) T ≤ T := fun T hT => hle T _ hT
    have mb := mxf_b ha (by omega) 6
    refine ⟨(me_si (me_w M g) 66 (j + 1) (nI (V_c (fun S => cs S w.1) (tb (V_c (fun S => cs S w.1)) (j + 1)) (j + 1))), nI (j + 2)), ?_, _, rfl, fun a z q => ?_, fun T hT => ?_⟩
    · show s_X6_fewestPayments_9 65 7 (me_w M g) (nI (j + 1)) = _
      unfold s_X6_fewestPayments_9 V_c
      simp only [let_v]
      rw [c_64, if_neg (nI_ge (by omega) (by omega)), e_cmx hL2 ha a2 (by omega)]
      simp only [Option.bind_some]
      rw [gr_e (lk_65 hL2) (lr_65_0 hL2), cP_e (e_csum hL2 hB2 hrb (by omega)), if_neg (show ¬ j + 1 = 0 by omega), nI_1]
      by_cases hz : cs (j + 1) w.1 = 0
      · rw [if_pos hz, if_pos hz]
        simp only [Option.bind_some]
        rw [si_e (lk_66 hL2) (by omega) (by decide), nI_1]
        rfl
      · rw [if_neg hz, if_neg hz]
        simp only [Option.bind_some]
        rw [si_e (lk_66 hL2) (by omega) (by decide), Int32.add_zero]
        rfl
    · show (if a = 66 ∧ z = _ then _ else g a z) = _
      rw [if_neg (by omega)]; exact a1 a z q
    · show (if 66 = 66 ∧ T = j + 1 then _ else g 66 T) = _
      rw [tb_s]
      by_cases q : T = j + 1
      · rw [if_pos ⟨rfl, q⟩, if_pos q]
      · rw [if_neg (fun z => q z.2), if_neg q]; exact a2 T (by omega)
  · rintro s ⟨g, rfl, a1, a2⟩
    refine ⟨(me_w M g, nI 64), ?_, g, rfl, a1, a2⟩
    show s_X6_fewestPayments_9 65 7 (me_w M g) (nI 64) = _
    unfold s_X6_fewestPayments_9
    rw [c_64, if_pos (nI_le (Nat.le_refl _) (by omega))]
/-! of the reference -/
theorem e_lay2 (hL : Lay M) : ∃ g, lp (fun s : Me × Int32 => s_X12_layBalance_2 70 s.1 s.2) (M, 0) = some (me_w M g, nI 6) ∧ (∀ a z, a ≠ 87 → g a z = me_i M a z) ∧ ∀ k, k < 6 → g 87 k = 0 := by
  have hlp := lp_cnt (step := fun s : Me × Int32 => s_X12_layBalance_2 70 s.1 s.2) 6
    (fun j s => ∃ g, s = (me_w M g, nI j) ∧ (∀ a z, a ≠ 87 → g a z = me_i M a z) ∧ ∀ k, k < j → g 87 k = 0)
    (fun s => ∃ g, s = (me_w M g, nI 6) ∧ (∀ a z, a ≠ 87 → g a z = me_i M a z) ∧ ∀ k, k < 6 → g 87 k = 0)
    ?_ ?_ (M, 0) ⟨fun x y => me_i M x y, by rw [nI_0]; rfl, fun _ _ _ => rfl, fun i hi => absurd hi (by omega)⟩
  · obtain ⟨x, hx, g, rfl, h1⟩ := hlp
    exact ⟨g, hx, h1⟩
  · rintro j s hj ⟨g, rfl, a1, a2⟩
    have hL2 : Lay (me_w M g) := hL
    refine ⟨(me_si (me_w M g) 87 j 0, nI (j + 1)), ?_, _, rfl, fun a z q => ?_, fun k hk => ?_⟩
    · show s_X12_layBalance_2 70 (me_w M g) (nI j) = _
      unfold s_X12_layBalance_2
      simp only [let_v]
      rw [c_6, if_neg (nI_ge hj (by omega)), m_gr27 hL2, m_si87 hL2 hj, nI_1]
    · show (if a = 87 ∧ z = _ then _ else g a z) = _
      rw [if_neg (by omega)]; exact a1 a z q
    · show (if 87 = 87 ∧ k = j then _ else g 87 k) = _
      by_cases q : k = j
      · rw [if_pos ⟨rfl, q⟩]
      · rw [if_neg (fun z => q z.2)]; exact a2 k (by omega)
  · rintro s ⟨g, rfl, a1, a2⟩
    refine ⟨(me_w M g, nI 6), ?_, g, rfl, a1, a2⟩
    show s_X12_layBalance_2 70 (me_w M g) (nI 6) = _
    unfold s_X12_layBalance_2
    rw [c_6, if_pos (nI_le (Nat.le_refl _) (by omega))]
theorem e_layB (hL : Lay M) (hrb : ∀ r, r ∈ l → RB r) (h12 : l.length ≤ 12) (h13 : me_i M 70 13 = nI l.length) (hr : ∀ i r, l[i]? = some r → me_i M 79 (4 * i) = nI r.1 ∧ me_i M 79 (4 * i + 1) = nI r.2.1 ∧ me_i M 79 (4 * i + 2) = nI r.2.2.1) : ∃ g, f_X12_layBalance 70 M = some (me_w M g) ∧ (∀ a z, a ≠ 87 → g a z = me_i M a z) ∧ ∀ k, k < 6 → g 87 k = bl l k := by
  obtain ⟨g0, z1, z2, z3⟩ := e_lay2 hL
  have hlp := lp_cnt (step := fun s : Me × Int32 => s_X12_layBalance_23 70 s.1 s.2) l.length
    (fun j s => ∃ g, s = (me_w M g, nI j) ∧ (∀ a z, a ≠ 87 → g a z = me_i M a z) ∧ ∀ k, k < 6 → g 87 k = bl (l.take j) k)
    (fun s => ∃ g, s = (me_w M g, nI l.length) ∧ (∀ a z, a ≠ 87 → g a z = me_i M a z) ∧ ∀ k, k < 6 → g 87 k = bl l k)
    ?_ ?_ (me_w M g0, 0) ⟨g0, by rw [nI_0], z2, fun k hk => by rw [z3 k hk, List.take_zero]; rfl⟩
  · obtain ⟨x, hx, g, rfl, h1, h2⟩ := hlp
    refine ⟨g, ?_, h1, h2⟩
    unfold f_X12_layBalance b_X12_layBalance
    rw [m_ck hL, z1]
    simp only [Option.bind_some]
    rw [hx]; rfl
  · rintro i s hi ⟨g, rfl, a1, a2⟩
    have hL2 : Lay (me_w M g) := hL
    have hg : l[i]? = some l[i] := List.getElem?_eq_getElem hi
    obtain ⟨r0, r1, r2⟩ := hr i _ hg
    obtain ⟨b0, b1, -, -⟩ := hrb _ (List.getElem_mem hi)
    have e0 : me_i (me_w M g) 79 (4 * i) = nI l[i].1 := by rw [i_w, a1 _ _ (by omega)]; exact r0
    have e1 : ∀ v, me_i (me_si (me_w M g) 87 l[i].1 v) 79 (4 * i + 1) = nI l[i].2.1 := fun v => by rw [si_ne (by omega), i_w, a1 _ _ (by omega)]; exact r1
    have e2 : me_i (me_w M g) 79 (4 * i + 2) = nI l[i].2.2.1 := by rw [i_w, a1 _ _ (by omega)]; exact r2
    have e3 : ∀ v, me_i (me_si (me_w M g) 87 l[i].1 v) 79 (4 * i + 2) = nI l[i].2.2.1 := fun v => by rw [si_ne (by omega)]; exact e2
    have ix4 : ∀ n : Nat, (4 : Int32) * nI n = nI (4 * n) := fun n => by rw [c_4, pk_mul]
    have nx2 : ∀ n : Nat, nI n + 2 = nI (n + 2) := fun n => by rw [c_2, nI_add]
    refine ⟨(me_si (me_si (me_w M g) 87 l[i].1 (g 87 l[i].1 + nI l[i].2.2.1)) 87 l[i].2.1 (me_i (me_si (me_w M g) 87 l[i].1 (g 87 l[i].1 + nI l[i].2.2.1)) 87 l[i].2.1 - nI l[i].2.2.1), nI (i + 1)), ?_, _, rfl, fun a z q => ?_, fun k hk => ?_⟩
    · show s_X12_layBalance_23 70 (me_w M g) (nI i) = _
      unfold s_X12_layBalance_23
      simp only [let_v, ix4, nI_1, nx2]
      rw [m_gi hL2, i_w, a1 _ _ (by omega), h13, if_neg (nI_ge hi (by omega)), m_gr27 hL2, m_gr14 hL2, m_li79 hL2 (by omega), e0, m_li87 hL2 b0, m_gr14 hL2, m_li79 hL2 (by omega), e2, m_si87 hL2 b0, m_gr27 (by exact hL2), m_gr14 (by exact hL2), m_li79 (by exact hL2) (by omega), i_w, e1, m_li87 (by exact hL2) b1, m_gr14 (by exact hL2), m_li79 (by exact hL2) (by omega), e3, m_si87 (by exact hL2) b1]
    · show (if a = 87 ∧ z = _ then _ else if a = 87 ∧ z = _ then _ else g a z) = _
      rw [if_neg (by omega), if_neg (by omega)]; exact a1 a z q
    · show (if 87 = 87 ∧ k = l[i].2.1 then (if 87 = 87 ∧ l[i].2.1 = l[i].1 then g 87 l[i].1 + nI l[i].2.2.1 else g 87 l[i].2.1) - nI l[i].2.2.1 else if 87 = 87 ∧ k = l[i].1 then g 87 l[i].1 + nI l[i].2.2.1 else g 87 k) = _
      rw [bl_s hg, a2 _ b0, a2 _ b1, a2 _ hk, Int32.sub_eq_add_neg]
      unfold blf ups
      simp only [true_and]
  · rintro s ⟨g, rfl, a1, a2⟩
    refine ⟨(me_w M g, nI l.length), ?_, g, rfl, a1, fun k hk => by rw [a2 k hk, List.take_length]⟩
    show s_X12_layBalance_23 70 (me_w M g) (nI l.length) = _
    unfold s_X12_layBalance_23
    rw [m_gi (by exact hL), i_w, a1 _ _ (by omega), h13, if_pos (nI_le (Nat.le_refl _) (by omega))]
theorem e_msum {b : Nat → Int32} (hL : Lay M) (hb : ∀ k, k < 6 → me_i M 87 k = b k) (hS : S < 64) : f_X12_sumOf 70 (nI S) M = some (sumB b S 6) := by
  unfold f_X12_sumOf b_X12_sumOf
  rw [m_ck hL]
  have h := lp_up (step := fun s : Int32 × Int32 => s_X12_sumOf_4 70 (nI S) M s.1 s.2) (fun k => (sumB b S k, nI k)) 6 (sumB b S 6, nI 6) ?_ ?_ 0 (by decide)
  · rw [show ((0 : Int32), (0 : Int32)) = (sumB b S 0, nI 0) by rw [nI_0]; rfl, h]; rfl
  · intro k hk
    show s_X12_sumOf_4 70 (nI S) M (sumB b S k) (nI k) = some (Sum.inl (sumB b S (k + 1), nI (k + 1)))
    rw [sumB_s]
    unfold s_X12_sumOf_4
    simp only [let_v]
    rw [c_6, if_neg (nI_ge hk (by omega)), cP_e (e_has hS hk), nI_1]
    by_cases q : S.testBit k = true
    · rw [if_pos q, if_neg (by decide), if_pos q, m_gr27 hL, m_li87 hL hk, hb k hk]; rfl
    · rw [if_neg q, if_pos rfl, if_neg q]; rfl
  · show s_X12_sumOf_4 70 (nI S) M (sumB b S 6) (nI 6) = _
    unfold s_X12_sumOf_4
    rw [c_6, if_pos (nI_le (Nat.le_refl _) (by omega))]
theorem e_mall {b : Nat → Int32} (hL : Lay M) (hb : ∀ k, k < 6 → me_i M 87 k = b k) : lp (fun s : Int32 × Int32 => s_X12_settled_8 70 M s.1 s.2) (0, 0) = some (nI (alf b 6), nI 6) := by
  have h := lp_up (step := fun s : Int32 × Int32 => s_X12_settled_8 70 M s.1 s.2) (fun k => (nI (alf b k), nI k)) 6 (nI (alf b 6), nI 6) ?_ ?_ 0 (by decide)
  · rw [show ((0 : Int32), (0 : Int32)) = (nI (alf b 0), nI 0) by rw [nI_0]; rfl, h]
  · intro k hk
    show s_X12_settled_8 70 M (nI (alf b k)) (nI k) = some (Sum.inl (nI (alf b k ||| _), nI (k + 1)))
    unfold s_X12_settled_8
    simp only [let_v]
    rw [c_6, if_neg (nI_ge hk (by omega)), m_gr27 hL, m_li87 hL hk, hb k hk, b_shl k hk, nI_1]
    have al := alf_lt (b := b) k (by omega)
    by_cases q : b k = 0
    · rw [if_pos q, if_pos q]
      simp only [Option.bind_some]
      rw [← nI_0, b_or _ al _ (by omega)]
    · rw [if_neg q, if_neg q]
      simp only [Option.bind_some]
      rw [b_or _ al _ (b_pow k hk)]
  · show s_X12_settled_8 70 M (nI (alf b 6)) (nI 6) = _
    unfold s_X12_settled_8
    rw [c_6, if_pos (nI_le (Nat.le_refl _) (by omega))]
theorem e_mmx {a : Nat → Nat} (hL : Lay M) (ha : ∀ T, T < S → a T ≤ T) (h88 : ∀ T, T < S → me_i M 88 T = nI (a T)) (hS : S < 64) : lp (fun s : Int32 × Int32 => s_X12_settled_52 70 M (nI S) s.1 s.2) (0, 0) = some (nI (mxf a S 6), nI 6) := by
  have h := lp_up (step := fun s : Int32 × Int32 => s_X12_settled_52 70 M (nI S) s.1 s.2) (fun k => (nI (mxf a S k), nI k)) 6 (nI (mxf a S 6), nI 6) ?_ ?_ 0 (by decide)
  · rw [show ((0 : Int32), (0 : Int32)) = (nI (mxf a S 0), nI 0) by rw [nI_0]; rfl, h]
  · intro k hk
    show s_X12_settled_52 70 M (nI S) (nI (mxf a S k)) (nI k) = some (Sum.inl (nI (mxf a S (k + 1)), nI (k + 1)))
    rw [mxf_s]
    unfold s_X12_settled_52
    simp only [let_v]
    rw [c_6, if_neg (nI_ge hk (by omega)), cP_e (e_has hS hk), nI_1]
    by_cases hb : S.testBit k = true
    · have hs := bit_sub hb
      have := ha _ hs
      have := mxf_b ha hS k
      rw [if_pos hb, if_neg (by decide), if_pos hb, (t_clr S hS k hk hb).1, m_gr28 hL, m_li88 hL (by omega), h88 _ hs, i_le (by omega) (by omega)]
      by_cases q : a (S - 2 ^ k) ≤ mxf a S k
      · rw [if_pos q, Nat.max_eq_left q]; rfl
      · rw [if_neg q, Nat.max_eq_right (by omega)]; rfl
    · rw [if_neg hb, if_pos rfl, if_neg hb]; rfl
  · show s_X12_settled_52 70 M (nI S) (nI (mxf a S 6)) (nI 6) = _
    unfold s_X12_settled_52
    rw [c_6, if_pos (nI_le (Nat.le_refl _) (by omega))]
theorem t_sub : ∀ S, S < 64 → ∀ A, A < 64 → ((nI S &&& (nI A ^^^ (-1 : Int32))) = 0 ↔ S &&& A = S) := by decide +kernel
theorem t_63 : ∀ A, A < 64 → 63 &&& A = A := by decide +kernel
theorem e_mset2 {e : Int32 × Int32} {A : Nat} {b : Nat → Int32} (hL : Lay M) (hb : ∀ k, k < 6 → me_i M 87 k = b k) (hA : A < 64) (he : e.1 = nI A) : ∃ g, lp (fun s : Me × Int32 => s_X12_settled_41 70 e s.1 s.2) (M, 0) = some (me_w M g, nI 64) ∧ (∀ a z, a ≠ 88 → g a z = me_i M a z) ∧ ∀ T, T < 64 → g 88 T = nI (tb (V_r (fun S => sumB b S 6) A) 64 T) := by
  have hle := tb_le (V_r_le (z := fun S => sumB b S 6) (A := A))
  have hlp := lp_cnt (step := fun s : Me × Int32 => s_X12_settled_41 70 e s.1 s.2) 64
    (fun j s => ∃ g, s = (me_w M g, nI j) ∧ (∀ a z, a ≠ 88 → g a z = me_i M a z) ∧ ∀ T, T < j → g 88 T = nI (tb (V_r (fun S => sumB b S 6) A) j T))
    (fun s => ∃ g, s = (me_w M g, nI 64) ∧ (∀ a z, a ≠ 88 → g a z = me_i M a z) ∧ ∀ T, T < 64 → g 88 T = nI (tb (V_r (fun S => sumB b S 6) A) 64 T))
    ?_ ?_ (M, 0) ⟨fun a z => me_i M a z, by rw [nI_0]; rfl, fun _ _ _ => rfl, fun T hT => absurd hT (by omega)⟩
  · obtain ⟨x, hx, g, rfl, a1, a2⟩ := hlp
    exact ⟨g, hx, a1, a2⟩
  · rintro j s hj ⟨g, rfl, a1, a2⟩
    have hL2 : Lay (me_w M g) := hL
    have ha : ∀ T, T < j → tb (V_r (fun S => sumB b S 6) A) j T ≤ T := fun T hT => hle T _ hT
    have hb2 : ∀ k, k < 6 → me_i (me_w M g) 87 k = b k := fun k hk => by rw [i_w, a1 _ _ (by omega)]; exact hb k hk
    have mb := mxf_b ha (by omega) 6
    refine ⟨(me_si (me_w M g) 88 j (nI (V_r (fun S => sumB b S 6) A (tb (V_r (fun S => sumB b S 6) A) j) j)), nI (j + 1)), ?_, _, rfl, fun a z q => ?_, fun T hT => ?_⟩
    · show s_X12_settled_41 70 e (me_w M g) (nI j) = _
      unfold s_X12_settled_41 V_r
      simp only [let_v]
      rw [c_64, if_neg (nI_ge (by omega) (by omega)), e_mmx hL2 ha a2 (by omega)]
      simp only [Option.bind_some]
      rw [m_gr28 hL2, he, i_eq0 (by omega), nI_1]
      by_cases q0 : j = 0
      · rw [if_pos q0, if_neg (fun z => z.1 q0)]
        simp only [Option.bind_some]
        rw [m_si88 hL2 hj, Int32.add_zero]; rfl
      · rw [if_neg q0, cP_e (e_msum hL2 hb2 (by omega))]
        by_cases q1 : j &&& A = j
        · rw [if_pos ((t_sub j hj A hA).mpr q1)]
          by_cases q2 : sumB b j 6 = 0
          · rw [if_pos q2, if_pos ⟨q0, q1, q2⟩]
            simp only [Option.bind_some]
            rw [m_si88 hL2 hj, nI_1]; rfl
          · rw [if_neg q2, if_neg (fun z => q2 z.2.2)]
            simp only [Option.bind_some]
            rw [m_si88 hL2 hj, Int32.add_zero]; rfl
        · rw [if_neg (fun z => q1 ((t_sub j hj A hA).mp z)), if_neg (fun z => q1 z.2.1)]
          simp only [Option.bind_some]
          rw [m_si88 hL2 hj, Int32.add_zero]; rfl
    · show (if a = 88 ∧ z = _ then _ else g a z) = _
      rw [if_neg (by omega)]; exact a1 a z q
    · show (if 88 = 88 ∧ T = j then _ else g 88 T) = _
      rw [tb_s]
      by_cases q : T = j
      · rw [if_pos ⟨rfl, q⟩, if_pos q]
      · rw [if_neg (fun z => q z.2), if_neg q]; exact a2 T (by omega)
  · rintro s ⟨g, rfl, a1, a2⟩
    refine ⟨(me_w M g, nI 64), ?_, g, rfl, a1, a2⟩
    show s_X12_settled_41 70 e (me_w M g) (nI 64) = _
    unfold s_X12_settled_41
    rw [c_64, if_pos (nI_le (Nat.le_refl _) (by omega))]
end SE
theorem iv_op17 : ∀ n M, n < 512 → Iv n M → op_17 (Iv (n + 1)) M := by
  intro n M hn h
  obtain ⟨hL, hlen, ⟨hCL, π, hCP, c0, y, t, D, nd, sg, hV, hR⟩, hJ, hP, hI⟩ := id h
  have hX := val_X hV
  have hW := val_W hV (by omega)
  have hST := ST.of hV (by omega)
  have hB0 : CB (x_of (st_m M) t y c0) M 3 (w_of (st_m M) D nd) := val_CB hV (by omega) hCL hCP hR.pn
  have hrb := hW.rb hX
  obtain ⟨g, k1, k2⟩ := e_few hL hB0 hrb
  have hLg : Lay (me_w M g) := hL
  have h13 : me_i (me_w M g) 70 13 = nI (w_of (st_m M) D nd).1.length := by
    rw [i_w, k2 _ _ (by omega)]; exact hST.1.2.2.2.2
  have hrow : ∀ i r, (w_of (st_m M) D nd).1[i]? = some r → me_i (me_w M g) 79 (4 * i) = nI r.1 ∧ me_i (me_w M g) 79 (4 * i + 1) = nI r.2.1 ∧ me_i (me_w M g) 79 (4 * i + 2) = nI r.2.2.1 := by
    intro i r hr
    obtain ⟨q1, q2, q3, -⟩ := hST.2.2.2 i r hr
    rw [i_w, i_w, i_w, k2 _ _ (by omega), k2 _ _ (by omega), k2 _ _ (by omega)]
    exact ⟨q1, q2, q3⟩
  obtain ⟨u, m1, m2, m3⟩ := e_layB hLg hrb hW.1 h13 hrow
  have hLu : Lay (me_w M u) := hL
  have m4 := e_mall (M := me_w M u) hLu m3
  have hA := alf_lt (b := bl (w_of (st_m M) D nd).1) 6 (by omega)
  obtain ⟨v, n1, n2, n3⟩ := e_mset2 (M := me_w M u) (e := (nI (alf (bl (w_of (st_m M) D nd).1) 6), nI 6)) hLu m3 hA rfl
  have hLv : Lay (me_w M v) := hL
  have hl6 : ∀ r, r ∈ (w_of (st_m M) D nd).1 → r.1 < 6 ∧ r.2.1 < 6 := fun r hr => ⟨(hrb r hr).1, (hrb r hr).2.1⟩
  have hz : (fun S => sumB (bl (w_of (st_m M) D nd).1) S 6) = fun S => cs S (w_of (st_m M) D nd).1 := by
    funext S; exact sumB_bl hl6
  have hAb : ∀ k, k < 6 → ((alf (bl (w_of (st_m M) D nd).1) 6).testBit k = true ↔ ¬ bl (w_of (st_m M) D nd).1 k = 0) := fun k hk => ⟨fun z => ((alf_bit 6).mp z).2, fun z => (alf_bit 6).mpr ⟨hk, z⟩⟩
  have hcr : ∀ S, S < 64 → tb (V_r (fun S => sumB (bl (w_of (st_m M) D nd).1) S 6) (alf (bl (w_of (st_m M) D nd).1) 6)) 64 S = V_r (fun S => sumB (bl (w_of (st_m M) D nd).1) S 6) (alf (bl (w_of (st_m M) D nd).1) 6) (tb (V_r (fun S => sumB (bl (w_of (st_m M) D nd).1) S 6) (alf (bl (w_of (st_m M) D nd).1) 6)) 64) S := fun S hS => tb_fix V_r_loc hS
  have hs := settle (z := fun S => sumB (bl (w_of (st_m M) D nd).1) S 6) (A := alf (bl (w_of (st_m M) D nd).1) 6) (c := tb (V_c (fun S => sumB (bl (w_of (st_m M) D nd).1) S 6)) 64) hA (fun S hS => sumB_and hAb 6 (by omega)) (by
    have e : ∀ n, sumB (bl (w_of (st_m M) D nd).1) 0 n = 0 := by
      intro n
      induction n with
      | zero => rfl
      | succ n ih => rw [sumB_s, ih]; simp
    exact e 6) (fun S hS => tb_fix V_c_loc hS) hcr 63 (by omega)
  have hcard := r_card hcr _ hA
  have z6 := (zf_3 63 (by omega) _ hA).2.2.2
  rw [t_63 _ hA] at hs
  rw [← hz] at k1
  refine ⟨nI (cn (alf (bl (w_of (st_m M) D nd).1) 6) 12 - tb (V_r (fun S => sumB (bl (w_of (st_m M) D nd).1) S 6) (alf (bl (w_of (st_m M) D nd).1) 6)) 64 (alf (bl (w_of (st_m M) D nd).1) 6)), me_w M g, me_w M v, ?_, ?_, ?_⟩
  · unfold f_X11_settled b_X11_settled
    rw [ck_e (lk_0 hL), gr_e (lk_0 hL) (lr_0_5 hL), gr_e (lk_0 hL) (lr_0_1 hL), gr_e (lk_3 hL) (lr_3_2 hL), cI_e k1, hs, c_6, pk_sub (by omega)]
    congr 3
    omega
  · unfold f_X12_settled b_X12_settled
    rw [ck_e (lk_70 hLg), cM_e m1]
    rw [show me_w (me_w M g) u = me_w M u from rfl, m4]
    simp only [Option.bind_some]
    rw [n1]
    simp only [Option.bind_some]
    rw [cP_e (e_bits (by omega)), m_gr28 (by exact hL), m_li88 (by exact hL) hA, i_w, n3 _ hA, pk_sub hcard]
    rfl
  · refine (h.next hn).same rfl (fun _ _ _ => rfl) hJ (fun a k q => ?_)
    rw [i_w, n2 _ _ (by omega), i_w, m2 _ _ (by omega), i_w, k2 _ _ (by omega)]

/-! A COURT IS HEARD, by both sides -/
def Fh (M N : Me) : Prop := N.1 = M.1 ∧ (∀ a k, a ≠ 38 → me_r N a k = me_r M a k) ∧ ∀ a k, (a < 32 ∨ (51 ≤ a ∧ a < 55) ∨ 61 ≤ a) → me_i N a k = me_i M a k
theorem Fh.refl {M : Me} : Fh M M := ⟨rfl, fun _ _ _ => rfl, fun _ _ _ => rfl⟩
theorem Fh.trans {M N P : Me} (h : Fh M N) (g : Fh N P) : Fh M P := ⟨g.1.trans h.1, fun a k q => (g.2.1 a k q).trans (h.2.1 a k q), fun a k q => (g.2.2 a k q).trans (h.2.2 a k q)⟩
theorem Fc.fh {M N : Me} (h : Fc M N 33) : Fh M N := ⟨h.1, fun a k q => h.2.1 a k (by omega), fun a k q => h.2.2 a k (by omega)⟩
theorem Fh.si {M : Me} {k : Nat} {v : Int32} : Fh M (me_si M 32 k v) := ⟨rfl, fun _ _ _ => rfl, fun a j q => by rw [i_si, if_neg (by omega)]⟩
theorem Fh.lay {M N : Me} (h : Fh M N) (hL : Lay M) : Lay N := ⟨fun a ha => by
  have := hL.1 a ha
  unfold me_k at this ⊢
  rw [h.1]; exact this, fun a ha q1 q2 q3 k => (h.2.1 a k q2).trans (hL.2 a ha q1 q2 q3 k)⟩
theorem Fh.pd {M N : Me} {p : Nat} {v : Nat → Nat} (h : Fh M N) (hP : PD M p v) : PD N p v := hP.same (h.2.2 _ _ (by omega)) (fun k => h.2.2 _ _ (by omega)) (h.2.2 _ _ (by omega)) (fun k => h.2.2 _ _ (by omega))
theorem CB.out {X : Cx} {M N : Me} {c : Nat} {w : Wd} (h : CB X M c w) (hl : N.1 = M.1) (hr : ∀ a k, me_r N a k = me_r M a k) (hi : ∀ a k, c ≤ a → a < c + 28 → me_i N a k = me_i M a k) : CB X N c w := by
  obtain ⟨π, n, rs, ⟨h1, h2, h3, h4, h5, h6⟩, h7⟩ := h
  have hk : ∀ a, me_k N a = me_k M a := fun a => by unfold me_k; rw [hl]
  have h12 := h5.1
  refine ⟨π, n, rs, ⟨h1.same (fun a _ _ => hk a) (fun a k _ _ _ => hr a k), h2.same (fun k => hr _ _), h3.same (fun a k q => hi a k (by omega) (by omega)), h4.same (fun a k _ _ => hi a k (by omega) (by omega)), h5.same h2 (hi _ _ (by omega) (by omega)) (fun a k _ _ _ => hi a k (by omega) (by omega)), ?_⟩, fun i q => ?_⟩
  · rw [lv_same h2 h12 (fun a _ _ => hi a 4 (by omega) (by omega))]; exact h6
  · have := (h2.1 i (by omega)).1
    rw [hi _ _ (by omega) (by omega)]; exact h7 i q
def a_run (X : Cx) (v : Nat → Nat) (p : Nat) : Nat → Nat → Nat → Wd → Nat × Nat × Wd
  | 0, _, a, w => (a, 0, w)
  | f + 1, pl, a, w => if p ≤ pl then (a, 0, w) else if (a_do X v pl w).1 = 0 then a_run X v p f (pl + ndd v pl) (a + 1) (a_do X v pl w).2 else (a, (a_do X v pl w).1, w)
section HH
variable {X : Cx} {p : Nat} {v : Nat → Nat}
theorem run_end {f pl a : Nat} {w : Wd} (h : p ≤ pl) : a_run X v p f pl a w = (a, 0, w) := by
  cases f with
  | zero => rfl
  | succ f => unfold a_run; rw [if_pos h]
theorem run_go {f pl a : Nat} {w : Wd} (h : ¬ p ≤ pl) (h0 : (a_do X v pl w).1 = 0) : a_run X v p (f + 1) pl a w = a_run X v p f (pl + ndd v pl) (a + 1) (a_do X v pl w).2 := by
  show (if p ≤ pl then _ else _) = _
  rw [if_neg h, if_pos h0]
theorem run_no {f pl a : Nat} {w : Wd} (h : ¬ p ≤ pl) (h0 : ¬ (a_do X v pl w).1 = 0) : a_run X v p (f + 1) pl a w = (a, (a_do X v pl w).1, w) := by
  show (if p ≤ pl then _ else _) = _
  rw [if_neg h, if_neg h0]
theorem flt_s {c0 f pl : Nat} (h : flt v c0 p (f + 1) pl = none) (hp : ¬ p ≤ pl) : ¬ gd v c0 pl < ndd v pl ∧ flt v c0 p f (pl + ndd v pl) = none := by
  unfold flt at h
  rw [if_neg hp] at h
  by_cases q : gd v c0 pl < ndd v pl
  · rw [if_pos q] at h; cases h
  · rw [if_neg q] at h; exact ⟨q, h⟩
theorem run_WV {M : Me} (hX : XV X) (hP : PM M p v) : ∀ f pl a w, p ≤ pl + f → flt v X.2.2.1 p f pl = none → WV X w → w.2.1 + 100 * (p - pl) ≤ 4000000 → WV X (a_run X v p f pl a w).2.2 ∧ (a_run X v p f pl a w).2.2.2.1 ≤ w.2.1 + 100 * (p - pl) ∧ (a_run X v p f pl a w).1 ≤ a + (p - pl) ∧ (a_run X v p f pl a w).2.1 < 8 := by
  intro f
  induction f with
  | zero =>
    intro pl a w h1 h2 h3 h4
    exact ⟨h3, by show w.2.1 ≤ _; omega, by show a ≤ _; omega, by show 0 < 8; omega⟩
  | succ f ih =>
    intro pl a w h1 h2 h3 h4
    by_cases hp : p ≤ pl
    · rw [run_end hp]
      exact ⟨h3, by show w.2.1 ≤ _; omega, by show a ≤ _; omega, by show 0 < 8; omega⟩
    · obtain ⟨g1, g2⟩ := flt_s h2 hp
      have hwf := wf_of hP g1
      have n1 := ndd_le (v := v) pl
      by_cases h0 : (a_do X v pl w).1 = 0
      · obtain ⟨w1, w2⟩ := do_WV hX h3 hwf (by omega) h0
        rw [run_go hp h0]
        obtain ⟨i1, i2, i3, i4⟩ := ih (pl + ndd v pl) (a + 1) (a_do X v pl w).2 (by omega) g2 w1 (by omega)
        exact ⟨i1, by omega, by omega, i4⟩
      · rw [run_no hp h0]
        exact ⟨h3, by show w.2.1 ≤ _; omega, by show a ≤ _; omega, do_lt⟩
theorem e_hearL (hX : XV X) : ∀ f pl tn a w M, p ≤ pl + f → pl ≤ 64 → tn ≤ pl → flt v X.2.2.1 p f pl = none → Lay M → PD M p v → WV X w → CB X M 33 w → me_i M 32 1 = nI a → me_i M 32 2 = 0 → w.2.1 + 100 * (p - pl) ≤ 4000000 →
    ∃ N, ex_r (lp (fun s : Me × Int32 × Int32 => s_X10_hear_23 32 1 s.1 s.2.1 s.2.2) (M, nI pl, nI tn)) (fun e => some ((1 : Int32), e.1)) (fun t => some t) = some ((if (a_run X v p f pl a w).2.1 = 0 then (1 : Int32) else 0), N) ∧ Fh M N ∧ (∃ π, CP N 33 π) ∧ me_i N 32 1 = nI (a_run X v p f pl a w).1 ∧ me_i N 32 2 = nI (a_run X v p f pl a w).2.1 ∧ ((a_run X v p f pl a w).2.1 = 0 → CB X N 33 (a_run X v p f pl a w).2.2) := by
  have hend : ∀ f pl tn a w M, p ≤ pl → pl ≤ 64 → tn ≤ pl → Lay M → PD M p v → CB X M 33 w → me_i M 32 1 = nI a → me_i M 32 2 = 0 →
    ∃ N, ex_r (lp (fun s : Me × Int32 × Int32 => s_X10_hear_23 32 1 s.1 s.2.1 s.2.2) (M, nI pl, nI tn)) (fun e => some ((1 : Int32), e.1)) (fun t => some t) = some ((if (a_run X v p f pl a w).2.1 = 0 then (1 : Int32) else 0), N) ∧ Fh M N ∧ (∃ π, CP N 33 π) ∧ me_i N 32 1 = nI (a_run X v p f pl a w).1 ∧ me_i N 32 2 = nI (a_run X v p f pl a w).2.1 ∧ ((a_run X v p f pl a w).2.1 = 0 → CB X N 33 (a_run X v p f pl a w).2.2) := by
    intro f pl tn a w M h1 h2 h3 hL hP hB e1 e2
    rw [run_end h1]
    refine ⟨M, ?_, Fh.refl, hB.cp, e1, by rw [e2, nI_0], fun _ => hB⟩
    rw [lp_eq]
    show ex_r ((s_X10_hear_23 32 1 M (nI pl) (nI tn)).bind _) _ _ = _
    have e : s_X10_hear_23 32 1 M (nI pl) (nI tn) = some (Sum.inr (Sum.inl (M, nI pl, nI tn))) := by
      unfold s_X10_hear_23
      rw [gi_e (lk_1 hL), hP.2.1, if_pos (nI_le h1 (by omega))]
      split <;> rfl
    rw [e]; rfl
  intro f
  induction f with
  | zero =>
    intro pl tn a w M h1 h2 h3 h4 hL hP hW hB e1 e2 hD
    exact hend 0 pl tn a w M (by omega) h2 h3 hL hP hB e1 e2
  | succ f ih =>
    intro pl tn a w M h1 h2 h3 h4 hL hP hW hB e1 e2 hD
    have h60 := hP.1
    by_cases hp : p ≤ pl
    · exact hend (f + 1) pl tn a w M hp h2 h3 hL hP hB e1 e2
    · obtain ⟨g1, g2⟩ := flt_s h4 hp
      have hwf := wf_of hP.pm g1
      have n1 := ndd_le (v := v) pl
      obtain ⟨N, t1, t2, t3, t4⟩ := e_tryAct hX hW hL hP hB (by omega) hwf
      have hLN : Lay N := t2.fh.lay hL
      have dlt := do_lt (X := X) (w := w) (v := v) (pl := pl)
      have step : s_X10_hear_23 32 1 M (nI pl) (nI tn) = if (a_do X v pl w).1 = 0 then some (Sum.inl (me_si (me_si N 32 2 (nI (a_do X v pl w).1)) 32 1 (nI (a + 1)), nI (pl + ndd v pl), nI (tn + 1))) else some (Sum.inr (Sum.inr ((0 : Int32), me_si N 32 2 (nI (a_do X v pl w).1)))) := by
        unfold s_X10_hear_23
        simp only [let_v]
        rw [c_60, if_neg (nI_ge (by omega) (by omega)), gi_e (lk_1 hL), hP.2.1, if_neg (nI_ge (by omega) (by omega)), cI_e t1, pi_e (lk_32 hLN), gi_e (by exact lk_32 hLN), si_self, i_eq0 (by omega)]
        by_cases h0 : (a_do X v pl w).1 = 0
        · rw [if_pos h0, if_pos h0, gi_e (by exact lk_32 hLN), pi_e (by exact lk_32 hLN), i_si, if_neg (by omega), t2.2.2 _ _ (by omega), e1, nI_1]
          have hP2 : PD (me_si (me_si N 32 2 (nI (a_do X v pl w).1)) 32 1 (nI (a + 1))) p v := (t2.fh.trans (Fh.si.trans Fh.si)).pd hP
          rw [cP_e (e_signsOf (by exact hLN) hP2 (by omega)), nI_add, nI_1]
        · rw [if_neg h0, if_neg h0]
      by_cases h0 : (a_do X v pl w).1 = 0
      · obtain ⟨w1, w2⟩ := do_WV hX hW hwf (by omega) h0
        rw [if_pos h0] at step
        have hF : Fh M (me_si (me_si N 32 2 (nI (a_do X v pl w).1)) 32 1 (nI (a + 1))) := t2.fh.trans (Fh.si.trans Fh.si)
        obtain ⟨N2, i1, i2, i3, i4, i5, i6⟩ := ih (pl + ndd v pl) (tn + 1) (a + 1) (a_do X v pl w).2 (me_si (me_si N 32 2 (nI (a_do X v pl w).1)) 32 1 (nI (a + 1))) (by omega) (by omega) (by omega) g2 (hF.lay hL) (hF.pd hP) w1 ((t4 h0).out rfl (fun _ _ => rfl) (fun x y _ _ => by rw [i_si, if_neg (by omega), i_si, if_neg (by omega)])) si_self (by rw [i_si, if_neg (by omega), si_self, h0, nI_0]) (by omega)
        rw [run_go hp h0]
        refine ⟨N2, ?_, hF.trans i2, i3, i4, i5, i6⟩
        rw [lp_eq]
        show ex_r ((s_X10_hear_23 32 1 M (nI pl) (nI tn)).bind _) _ _ = _
        rw [step]
        exact i1
      · rw [if_neg h0] at step
        rw [run_no hp h0]
        refine ⟨me_si N 32 2 (nI (a_do X v pl w).1), ?_, t2.fh.trans Fh.si, t3, ?_, si_self, fun z => absurd z h0⟩
        · rw [lp_eq]
          show ex_r ((s_X10_hear_23 32 1 M (nI pl) (nI tn)).bind _) _ _ = _
          rw [step, if_neg h0]; rfl
        · rw [i_si, if_neg (by omega), t2.2.2 _ _ (by omega)]; exact e1
theorem e_courtL {M : Me} (hX : XV X) (hL : Lay M) : ∀ f pl a w g, p ≤ pl + f → pl ≤ 64 → flt v X.2.2.1 p f pl = none → PM (me_w M g) p v → WV X w → RG X g w → g 70 25 = nI a → w.2.1 + 100 * (p - pl) ≤ 4000000 →
    ∃ h, ex_r (lp (fun s : Me × Int32 => s_X12_goCourt_11 70 s.1 s.2) (me_w M g, nI pl)) (fun e => some ((-6 : Int32), e.1)) (fun t => some t) = some ((if (a_run X v p f pl a w).2.1 = 0 then (-6 : Int32) else nI (a_run X v p f pl a w).1), me_w M h) ∧ Fw g h ∧ h 70 25 = nI (a_run X v p f pl a w).1 ∧ ((a_run X v p f pl a w).2.1 ≠ 0 → h 70 24 = nI (a_run X v p f pl a w).2.1) ∧ ((a_run X v p f pl a w).2.1 = 0 → RG X h (a_run X v p f pl a w).2.2) := by
  have hend : ∀ f pl a w g, p ≤ pl → pl ≤ 64 → PM (me_w M g) p v → RG X g w → g 70 25 = nI a →
    ∃ h, ex_r (lp (fun s : Me × Int32 => s_X12_goCourt_11 70 s.1 s.2) (me_w M g, nI pl)) (fun e => some ((-6 : Int32), e.1)) (fun t => some t) = some ((if (a_run X v p f pl a w).2.1 = 0 then (-6 : Int32) else nI (a_run X v p f pl a w).1), me_w M h) ∧ Fw g h ∧ h 70 25 = nI (a_run X v p f pl a w).1 ∧ ((a_run X v p f pl a w).2.1 ≠ 0 → h 70 24 = nI (a_run X v p f pl a w).2.1) ∧ ((a_run X v p f pl a w).2.1 = 0 → RG X h (a_run X v p f pl a w).2.2) := by
    intro f pl a w g h1 h2 hP hG e1
    have hL2 : Lay (me_w M g) := hL
    have h15 : g 70 15 = nI p := hP.2.2.1
    rw [run_end h1]
    refine ⟨g, ?_, fun _ _ _ _ => rfl, e1, fun z => absurd rfl z, fun _ => hG⟩
    rw [lp_eq]
    show ex_r ((s_X12_goCourt_11 70 (me_w M g) (nI pl)).bind _) _ _ = _
    have e : s_X12_goCourt_11 70 (me_w M g) (nI pl) = some (Sum.inr (Sum.inl (me_w M g, nI pl))) := by
      unfold s_X12_goCourt_11
      rw [m_gi hL2, i_w, h15, if_pos (nI_le h1 (by omega))]
    rw [e]; rfl
  intro f
  induction f with
  | zero =>
    intro pl a w g h1 h2 h3 hP hW hG e1 hD
    exact hend 0 pl a w g (by omega) h2 hP hG e1
  | succ f ih =>
    intro pl a w g h1 h2 h3 hP hW hG e1 hD
    have h60 := hP.1
    by_cases hp : p ≤ pl
    · exact hend (f + 1) pl a w g hp h2 hP hG e1
    · obtain ⟨g1, g2⟩ := flt_s h3 hp
      have hwf := wf_of hP g1
      have n1 := ndd_le (v := v) pl
      obtain ⟨h5, f1, f2, f3, f4⟩ := e_mstep hX hW hL hP hG (by omega) hwf (by omega) e1
      by_cases h0 : (a_do X v pl w).1 = 0
      · obtain ⟨w1, w2⟩ := do_WV hX hW hwf (by omega) h0
        obtain ⟨f5, f6, f7⟩ := f3 h0
        have hP5 : PM (me_w M h5) p v := hP.same (f1 _ _ (by omega) (by omega)) (fun k => f1 _ _ (by omega) (by omega))
        obtain ⟨h6, i1, i2, i3, i4, i5⟩ := ih (pl + ndd v pl) (a + 1) (a_do X v pl w).2 h5 (by omega) (by omega) g2 hP5 w1 f5 f6 (by omega)
        rw [run_go hp h0]
        refine ⟨h6, ?_, f1.trans i2, i3, i4, i5⟩
        rw [lp_eq]
        show ex_r ((s_X12_goCourt_11 70 (me_w M g) (nI pl)).bind _) _ _ = _
        rw [f7]
        exact i1
      · obtain ⟨f5, f6⟩ := f4 h0
        rw [run_no hp h0]
        refine ⟨h5, ?_, f1, f5, fun _ => f2, fun z => absurd z h0⟩
        rw [lp_eq]
        show ex_r ((s_X12_goCourt_11 70 (me_w M g) (nI pl)).bind _) _ _ = _
        rw [f6, if_neg h0]; rfl
end HH
/-! a state told without a memory -/
def x_of (st : St) (t y c0 : Nat) : Cx := (t, y, c0, fun k => (st 72 k).toNatClampNeg, fun k => (st 73 k).toNatClampNeg, fun i => (st 71 i).toNatClampNeg)
def r_of (st : St) (i : Nat) : Rw := ((st 79 (4 * i)).toNatClampNeg, (st 79 (4 * i + 1)).toNatClampNeg, (st 79 (4 * i + 2)).toNatClampNeg, (st 79 (4 * i + 3)).toNatClampNeg)
def w_of (st : St) (D nd : Nat) : Wd := ((List.range nd).map (r_of st), D, fun k f => if f = 3 then (st 77 k).toNatClampNeg else if f = 5 then (st 75 k).toNatClampNeg else (st 76 k).toNatClampNeg, fun k => st 78 k)
theorem cl_n {x : Int32} {n : Nat} (h : x = nI n) (hn : n < 2 ^ 31) : x.toNatClampNeg = n ∧ x = nI x.toNatClampNeg := by
  rw [h, nI_clamp hn]; exact ⟨rfl, rfl⟩
section AA
variable {n : Nat} {st : St} {c0 y t D nd sg : Nat}
theorem val_row (h : Val n st c0 y t D nd sg) (hn : n ≤ 512) {i : Nat} (hi : i < nd) : st 79 (4 * i) = nI (r_of st i).1 ∧ st 79 (4 * i + 1) = nI (r_of st i).2.1 ∧ st 79 (4 * i + 2) = nI (r_of st i).2.2.1 ∧ st 79 (4 * i + 3) = nI (r_of st i).2.2.2 ∧ (r_of st i).1 < 6 ∧ (r_of st i).2.1 < 6 ∧ (r_of st i).1 ≠ (r_of st i).2.1 ∧ t.testBit (r_of st i).1 = true ∧ t.testBit (r_of st i).2.1 = true ∧ ¬ st 77 (r_of st i).1 = 0 ∧ ¬ st 77 (r_of st i).2.1 = 0 ∧ (r_of st i).2.2.1 ≤ 20 ∧ (r_of st i).2.2.2 ≤ D + y + 1 := by
  obtain ⟨⟨-, ⟨b1, b2, b3⟩, -, ⟨d1, d2⟩, ⟨e1, e2⟩, -⟩, hR, hK, hD, hS⟩ := h
  obtain ⟨s, q, m, d, u1, u2, u3, u4, u5, u6, u7, u8, u9, u10, u11, u12, u13⟩ := hD.1 i hi
  have f1 := cl_n u1 (by omega)
  have f2 := cl_n u2 (by omega)
  have f3 := cl_n u3 (by omega)
  have f4 := cl_n u4 (by omega)
  refine ⟨f1.2, f2.2, f3.2, f4.2, ?_⟩
  unfold r_of
  dsimp only
  rw [f1.1, f2.1, f3.1, f4.1]
  exact ⟨u5, u6, u7, u8, u9, u10, u11, u12, u13⟩
theorem val_kn (h : Val n st c0 y t D nd sg) {k : Nat} (hk : k < 6) (ht : t.testBit k = true) : (st 72 k = nI ((x_of st t y c0).2.2.2.1 k) ∧ st 73 k = nI ((x_of st t y c0).2.2.2.2.1 k)) ∧ (st 77 k = nI ((w_of st D nd).2.2.1 k 3) ∧ st 75 k = nI ((w_of st D nd).2.2.1 k 5) ∧ st 76 k = nI ((w_of st D nd).2.2.1 k 6)) ∧ (1 ≤ (x_of st t y c0).2.2.2.1 k ∧ (x_of st t y c0).2.2.2.1 k ≤ 20 ∧ (x_of st t y c0).2.2.2.2.1 k < c0) ∧ ((w_of st D nd).2.2.1 k 3 ≤ 99 ∧ (w_of st D nd).2.2.1 k 5 < c0 ∧ (w_of st D nd).2.2.1 k 6 ≤ 198) := by
  obtain ⟨⟨⟨a1, a2⟩, -, -, -, -, -⟩, hR, hK, hD, hS⟩ := h
  obtain ⟨⟨s, k1, k2, k3⟩, ⟨o, k4, k5⟩, ⟨pp, k6, k7⟩, ⟨g, k8, k9⟩, b, k10, k11⟩ := hK k hk ht
  have f1 := cl_n k1 (by omega)
  have f2 := cl_n k4 (by omega)
  have f3 := cl_n k6 (by omega)
  have f4 := cl_n k8 (by omega)
  have f5 := cl_n k10 (by omega)
  have e3 : (w_of st D nd).2.2.1 k 3 = (st 77 k).toNatClampNeg := rfl
  have e5 : (w_of st D nd).2.2.1 k 5 = (st 75 k).toNatClampNeg := rfl
  have e6 : (w_of st D nd).2.2.1 k 6 = (st 76 k).toNatClampNeg := rfl
  refine ⟨⟨f1.2, f2.2⟩, ?_, ?_, ?_⟩
  · rw [e3, e5, e6]; exact ⟨f5.2, f3.2, f4.2⟩
  · show 1 ≤ (st 72 k).toNatClampNeg ∧ (st 72 k).toNatClampNeg ≤ 20 ∧ (st 73 k).toNatClampNeg < c0
    rw [f1.1, f2.1]; exact ⟨k2, k3, k5⟩
  · rw [e3, e5, e6, f5.1, f3.1, f4.1]; exact ⟨k11, k7, k9⟩
theorem val_rd (h : Val n st c0 y t D nd sg) {i : Nat} (hi : i < 25) : st 71 i = nI ((x_of st t y c0).2.2.2.2.2 i) ∧ (x_of st t y c0).2.2.2.2.2 i ≤ 99 := by
  obtain ⟨d, h1, h2⟩ := h.2.1 i hi
  have f := cl_n h2 (by omega)
  refine ⟨f.2, ?_⟩
  show (st 71 i).toNatClampNeg ≤ 99
  rw [f.1]; exact h1
theorem val_X (h : Val n st c0 y t D nd sg) : XV (x_of st t y c0) := by
  obtain ⟨⟨a1, a2⟩, ⟨b1, b2⟩, ⟨c1, c2⟩, -⟩ := h.1
  exact ⟨c2, b2, a2, fun k hk ht => (val_kn h hk ht).2.2.1, fun i hi => (val_rd h hi).2⟩
theorem val_W (h : Val n st c0 y t D nd sg) (hn : n ≤ 512) : WV (x_of st t y c0) (w_of st D nd) := by
  obtain ⟨⟨a1, a2⟩, ⟨b1, b2, b3⟩, ⟨c1, c2⟩, ⟨d1, d2⟩, ⟨e1, e2⟩, f1⟩ := h.1
  refine ⟨?_, ?_, fun k hk ht => (val_kn h hk ht).2.2.2, fun r hr => ?_, ?_⟩
  · show ((List.range nd).map _).length ≤ 12
    simp; exact e2
  · show D ≤ 4000000
    omega
  · obtain ⟨i, hi, rfl⟩ := List.mem_map.mp hr
    obtain ⟨-, -, -, -, u5, u6, u7, u8, u9, u10, u11, u12, u13⟩ := val_row h hn (List.mem_range.mp hi)
    have k3 := fun k hk ht => (val_kn (D := D) (nd := nd) h (k := k) hk ht).2.1.1
    refine ⟨u5, u6, u7, u8, u9, fun z => u10 ?_, fun z => u11 ?_, u12, u13⟩
    · rw [k3 _ u5 u8, z, nI_0]
    · rw [k3 _ u6 u9, z, nI_0]
  · show ((List.range nd).map (r_of st)).Pairwise _
    rw [List.pairwise_map, List.pairwise_iff_getElem]
    intro i j hi hj hij
    simp only [List.length_range] at hi hj
    simp only [List.getElem_range]
    obtain ⟨-, -, -, p4, -, -, -, -, -, -, -, -, p13⟩ := val_row h hn hi
    obtain ⟨-, -, -, q4, -, -, -, -, -, -, -, -, q13⟩ := val_row h hn hj
    exact h.2.2.2.1.2 i j _ _ (by omega) hj (by omega) (by omega) p4 q4
theorem val_CB {M : Me} {c : Nat} {π : Nat → Nat} (h : Val n st c0 y t D nd sg) (hn : n ≤ 512) (hCL : CL M c) (hCP : CP M c π) (hR : Rpn M c π st t nd sg) : CB (x_of st t y c0) M c (w_of st D nd) := by
  obtain ⟨⟨a1, a2⟩, ⟨b1, b2, b3⟩, ⟨c1, c2⟩, ⟨d1, d2⟩, ⟨e1, e2⟩, f1⟩ := h.1
  obtain ⟨⟨r1, r2, r3⟩, rK, ⟨r4, r5⟩, ⟨r6, r7⟩, r8⟩ := hR
  have hinj : ∀ i j, i < nd → j < nd → π i = π j → i = j := fun i j hi hj => hCP.2 i j (by omega) (by omega)
  have hrs : ∃ rs : Nat → Rw, ∀ i, i < nd → rs (π i) = r_of st i := by
    refine ⟨fun o => match (List.range nd).find? (fun i => decide (π i = o)) with
      | some i => r_of st i
      | none => (0, 0, 0, 0), fun i hi => ?_⟩
    have hf : (List.range nd).find? (fun j => decide (π j = π i)) = some i := by
      cases hc : (List.range nd).find? (fun j => decide (π j = π i)) with
      | none =>
        rw [List.find?_eq_none] at hc
        exact absurd (by simp) (hc i (List.mem_range.mpr hi))
      | some j =>
        have h1 := List.find?_some hc
        have h2 := List.mem_of_find?_eq_some hc
        rw [hinj j i (List.mem_range.mp h2) hi (of_decide_eq_true h1)]
    show (match (List.range nd).find? (fun j => decide (π j = π i)) with
      | some i => r_of st i
      | none => (0, 0, 0, 0)) = _
    rw [hf]
  obtain ⟨rs, hrs⟩ := hrs
  have hg : ∀ i, i < nd → me_i M (c + 6 + π i) 4 = 0 := fun i hi => (r5 i hi).2.2.2.2
  refine ⟨π, nd, rs, ⟨hCL, hCP, ⟨r8.trans d1, r1.trans a1, r2.trans b1, fun i hi => (r3 i hi).trans (val_rd h hi).1⟩, fun k hk => ⟨(rK k hk).1, fun ht => ?_⟩, ⟨e2, r4.trans e1, fun i hi => ?_⟩, ?_⟩, hg⟩
  · obtain ⟨s1, s2, s3, s4, s5, s6⟩ := (rK k hk).2 ht
    obtain ⟨⟨v1, v2⟩, ⟨v3, v4, v5⟩, -⟩ := val_kn (D := D) (nd := nd) h hk ht
    exact ⟨s1.trans v2, s2.trans v1, s3.trans v3, s4, s5.trans v4, s6.trans v5⟩
  · obtain ⟨s0, s1, s2, s3, s4⟩ := r5 i hi
    obtain ⟨p1, p2, p3, p4, p5, p6, p7, p8, p9, p10, p11, p12, p13⟩ := val_row h hn hi
    rw [hrs i hi]
    exact ⟨s0.trans p1, s1.trans p2, s2.trans p3, s3.trans p4, p5, p6, by omega, by omega⟩
  · rw [lv_all hg, List.map_map]
    show (List.range nd).map _ = _
    apply range_map_congr
    intro i hi
    exact (hrs i hi).symm
theorem val_RG {M : Me} (h : Val n (st_m M) c0 y t D nd sg) (hn : n ≤ 512) : RG (x_of (st_m M) t y c0) (g_now M) (w_of (st_m M) D nd) := by
  obtain ⟨⟨a1, a2⟩, ⟨b1, b2, b3⟩, ⟨c1, c2⟩, ⟨d1, d2⟩, ⟨e1, e2⟩, f1⟩ := h.1
  have gk : ∀ a k, a ≠ 81 → a ≠ 82 → a ≠ 83 → a ≠ 84 → a ≠ 85 → ¬ (a = 70 ∧ (k = 17 ∨ k = 22)) → g_now M a k = st_m M a k := by
    intro a k h1 h2 h3 h4 h5 h6
    unfold g_now
    rw [if_neg (by omega), if_neg (by omega), if_neg (by omega), if_neg (by omega), if_neg (by omega), if_neg (by omega), if_neg (by omega)]; rfl
  refine ⟨⟨?_, ?_, fun i hi => ?_, fun k hk ht => ?_⟩, ?_, fun k hk ht => ?_, ?_, ?_, fun i r hi => ?_⟩
  · rw [gk _ _ (by omega) (by omega) (by omega) (by omega) (by omega) (by omega)]; exact b1
  · rw [gk _ _ (by omega) (by omega) (by omega) (by omega) (by omega) (by omega)]; exact c1
  · rw [gk _ _ (by omega) (by omega) (by omega) (by omega) (by omega) (by omega)]; exact (val_rd h hi).1
  · rw [gk _ _ (by omega) (by omega) (by omega) (by omega) (by omega) (by omega), gk _ _ (by omega) (by omega) (by omega) (by omega) (by omega) (by omega)]
    exact (val_kn (D := D) (nd := nd) h hk ht).1
  · unfold g_now
    rw [if_pos ⟨rfl, rfl⟩]; exact d1
  · obtain ⟨-, ⟨v3, v4, v5⟩, -⟩ := val_kn (D := D) (nd := nd) h hk ht
    refine ⟨?_, ?_, ?_, ?_⟩
    · unfold g_now
      rw [if_neg (by omega), if_neg (by omega), if_pos (by omega)]; exact v4
    · unfold g_now
      rw [if_neg (by omega), if_neg (by omega), if_neg (by omega), if_pos (by omega)]; exact v5
    · unfold g_now
      rw [if_neg (by omega), if_neg (by omega), if_neg (by omega), if_neg (by omega), if_pos (by omega)]; exact v3
    · unfold g_now
      rw [if_neg (by omega), if_neg (by omega), if_neg (by omega), if_neg (by omega), if_neg (by omega), if_pos (by omega)]; rfl
  · show ((List.range nd).map _).length ≤ 12
    simp; exact e2
  · show _ = nI ((List.range nd).map _).length
    unfold g_now
    rw [if_neg (by omega), if_pos ⟨rfl, rfl⟩]
    simp
    exact e1
  · have hlt := (List.getElem?_eq_some_iff.mp hi).1
    have hlt2 : i < nd := by simpa [w_of] using hlt
    have er : r_of (st_m M) i = r := by
      have : ((List.range nd).map (r_of (st_m M)))[i]? = some r := hi
      rw [List.getElem?_map, List.getElem?_range hlt2] at this
      exact Option.some.inj this
    subst er
    obtain ⟨p1, p2, p3, p4, -⟩ := val_row h hn hlt2
    have g85 : ∀ q, q < 48 → g_now M 85 q = st_m M 79 q := by
      intro q hq
      unfold g_now
      rw [if_neg (by omega), if_neg (by omega), if_neg (by omega), if_neg (by omega), if_neg (by omega), if_neg (by omega), if_pos ⟨rfl, hq⟩]; rfl
    rw [g85 _ (by omega), g85 _ (by omega), g85 _ (by omega), g85 _ (by omega)]
    exact ⟨p1, p2, p3, p4⟩
end AA

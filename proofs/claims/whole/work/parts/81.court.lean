/-! judge, done, behind -/
def Fk (M N : Me) : Prop := N.1 = M.1 ∧ (∀ a k, a ≠ 38 → me_r N a k = me_r M a k) ∧ ∀ a k, (a < 32 ∨ 61 ≤ a) → me_i N a k = me_i M a k
theorem Fk.lay {M N : Me} (h : Fk M N) (hL : Lay M) : Lay N := by
  have hk : ∀ a, me_k N a = me_k M a := fun a => by unfold me_k; rw [h.1]
  exact ⟨fun a ha => (hk a).trans (hL.1 a ha), fun a ha h1 h2 h3 k => (h.2.1 a k h2).trans (hL.2 a ha h1 h2 h3 k)⟩
/-- the run of the pad's text over the state that M tells -/
abbrev run_of (M : Me) (c0 y t D nd p : Nat) (v : Nat → Nat) : Nat × Nat × Wd := a_run (x_of (st_m M) t y c0) v p 60 0 0 (w_of (st_m M) D nd)
section RC
variable {n : Nat} {M : Me} {c0 y t D nd sg p : Nat} {v : Nat → Nat}
theorem e_copy33 {π : Nat → Nat} (hL : Lay M) (hCL : CL M 3) (hCP : CP M 3 π) (hJ : ∃ π, CP M 33 π) (hV : Val n (st_m M) c0 y t D nd sg) (hR : Rep M 3 π (st_m M) t nd sg) :
    ∃ g π2, f_X0_copy 33 3 M = some (me_w M g) ∧ (∀ x z, (x < 33 ∨ 61 ≤ x) → g x z = me_i M x z) ∧ CP M 33 π2 ∧ Rpn (me_w M g) 33 π2 (st_m M) t nd sg := by
  obtain ⟨π2, hJ⟩ := hJ
  obtain ⟨g, e1, f1, f2, f3⟩ := e_copy (cl33 hL) hCL hJ hCP (by omega) hR.pn hV.1.2.2.2.2.1.1 hV.nd hV.1.2.2.2.2.2.2
  exact ⟨g, π2, e1, fun x z q => f1 x z (by omega), hJ, f3⟩
theorem e_hear {π : Nat → Nat} (hn : n < 512) (hL : Lay M) (hCL : CL M 3) (hCP : CP M 3 π) (hJ : ∃ π, CP M 33 π) (hV : Val n (st_m M) c0 y t D nd sg) (hR : Rep M 3 π (st_m M) t nd sg) (hP : PD M p v) (hf : flt v c0 p 60 0 = none) :
    ∃ N, f_X10_hear 32 1 3 M = some ((if (run_of M c0 y t D nd p v).2.1 = 0 then (1 : Int32) else 0), N) ∧ Fk M N ∧ (∃ π, CP N 33 π) ∧ me_i N 32 1 = nI (run_of M c0 y t D nd p v).1 ∧ me_i N 32 2 = nI (run_of M c0 y t D nd p v).2.1 ∧ (me_i N 51 0 = st_m M 70 6 ∧ ∀ i, i < sg → me_i N 52 i = st_m M 74 (2 * i) ∧ me_i N 53 i = st_m M 74 (2 * i + 1)) ∧ ((run_of M c0 y t D nd p v).2.1 = 0 → CB (x_of (st_m M) t y c0) N 33 (run_of M c0 y t D nd p v).2.2) := by
  obtain ⟨g, π2, e1, f1, hJ2, f3⟩ := e_copy33 hL hCL hCP hJ hV hR
  have hLg : Lay (me_w M g) := la_w hL
  have hB : CB (x_of (st_m M) t y c0) (me_w M g) 33 (w_of (st_m M) D nd) := val_CB hV (by omega) (cl33 hLg) hJ2 f3
  have hPg : PD (me_si (me_si (me_w M g) 32 1 0) 32 2 0) p v := by
    refine hP.same ?_ (fun k => ?_) ?_ (fun k => ?_)
    · rw [i_si, if_neg (by omega), i_si, if_neg (by omega)]; exact f1 _ _ (by omega)
    · rw [i_si, if_neg (by omega), i_si, if_neg (by omega)]; exact f1 _ _ (by omega)
    · rw [i_si, if_neg (by omega), i_si, if_neg (by omega)]; exact f1 _ _ (by omega)
    · rw [i_si, if_neg (by omega), i_si, if_neg (by omega)]; exact f1 _ _ (by omega)
  have h60 := hP.1
  have hD := hV.1.2.2.2.1.2
  obtain ⟨N, h1, h2, h3, h4, h5, h6⟩ := e_hearL (p := p) (v := v) (val_X hV) 60 0 0 0 (w_of (st_m M) D nd) (me_si (me_si (me_w M g) 32 1 0) 32 2 0) (by omega) (by omega) (by omega) hf hLg hPg (val_W hV (by omega)) (hB.out rfl (fun _ _ => rfl) (fun x z _ _ => by rw [i_si, if_neg (by omega), i_si, if_neg (by omega)])) (by rw [i_si, if_neg (by omega), si_self, nI_0]) si_self (by show D + 100 * (p - 0) ≤ 4000000; omega)
  rw [nI_0] at h1
  have hi : ∀ a k, (a < 32 ∨ (51 ≤ a ∧ a < 55) ∨ 61 ≤ a) → me_i N a k = g a k := fun a k q => by
    rw [h2.2.2 a k q, i_si, if_neg (by omega), i_si, if_neg (by omega)]; rfl
  refine ⟨N, ?_, ⟨h2.1, h2.2.1, fun a k q => (hi a k (by omega)).trans (f1 a k (by omega))⟩, h3, h4, h5, ⟨(hi _ _ (by omega)).trans f3.2.2.2.1.1, fun i hi2 => ⟨(hi _ _ (by omega)).trans (f3.2.2.2.1.2 i hi2).1, (hi _ _ (by omega)).trans (f3.2.2.2.1.2 i hi2).2⟩⟩, h6⟩
  unfold f_X10_hear b_X10_hear
  rw [ck_e (lk_32 hL), gr_e (lk_32 hL) (lr_32_0 hL), cM_e e1, pi_e (by exact lk_32 hL), pi_e (by exact lk_32 hL)]
  exact h1
theorem e_court {N : Me} (hn : n < 512) (hL : Lay N) (hV : Val n (st_m M) c0 y t D nd sg) (hs : ∀ a k, 70 ≤ a → me_i N a k = me_i M a k) (hP : PM N p v) (hf : flt v c0 p 60 0 = none) :
    ∃ h, f_X12_goCourt 70 N = some ((if (run_of M c0 y t D nd p v).2.1 = 0 then (-6 : Int32) else nI (run_of M c0 y t D nd p v).1), me_w N h) ∧ (∀ a k, ¬ (81 ≤ a ∧ a ≤ 85) → ¬ (a = 70 ∧ (k = 17 ∨ k = 22 ∨ k = 24 ∨ k = 25)) → h a k = me_i N a k) ∧ h 70 25 = nI (run_of M c0 y t D nd p v).1 ∧ ((run_of M c0 y t D nd p v).2.1 ≠ 0 → h 70 24 = nI (run_of M c0 y t D nd p v).2.1) ∧ ((run_of M c0 y t D nd p v).2.1 = 0 → RG (x_of (st_m M) t y c0) h (run_of M c0 y t D nd p v).2.2) := by
  have hV2 : Val n (st_m N) c0 y t D nd sg := hV.same (fun k _ => hs _ _ (by omega)) (fun a k q _ => hs _ _ (by omega))
  have ex : x_of (st_m N) t y c0 = x_of (st_m M) t y c0 := x_same (fun a k q _ => hs _ _ (by omega))
  have ew : w_of (st_m N) D nd = w_of (st_m M) D nd := w_same (fun a k q _ => hs _ _ (by omega))
  have hG := val_RG hV2 (by omega)
  rw [ex, ew] at hG
  have hPg : PM (me_w N (ss (g_now N) 70 25 0)) p v := by
    refine hP.same ?_ (fun k => ?_)
    · rw [i_w, ss_ne (by omega), gn_o (by omega) (by omega)]
    · rw [i_w, ss_ne (by omega), gn_o (by omega) (by omega)]
  have h60 := hP.1
  have hD := hV.1.2.2.2.1.2
  obtain ⟨h, h1, h2, h3, h4, h5⟩ := e_courtL (p := p) (v := v) (M := N) (val_X hV) hL 60 0 0 (w_of (st_m M) D nd) (ss (g_now N) 70 25 0) (by omega) (by omega) hf hPg (val_W hV (by omega)) (hG.s (Or.inr rfl)) (by rw [ss_at, nI_0]) (by show D + 100 * (p - 0) ≤ 4000000; omega)
  rw [nI_0] at h1
  refine ⟨h, ?_, fun a k q1 q2 => ?_, h3, h4, h5⟩
  · unfold f_X12_goCourt b_X12_goCourt
    rw [m_ck hL, cM_e (e_asNow hL), m_pi (by exact hL)]
    exact h1
  · rw [h2 a k q1 q2, ss_ne (by omega), gn_o q1 (by omega)]
theorem e_bar {N : Me} (hn : n < 512) (hL : Lay N) (hV : Val n (st_m M) c0 y t D nd sg) (hs : ∀ a k, 70 ≤ a → me_i N a k = me_i M a k) (hP : PM N p v) (hf : flt v c0 p 60 0 = none) (hF : f_X12_faultOf 70 N = some (-6)) :
    ∃ h, f_X12_barOfCourt 70 N = some ((if (run_of M c0 y t D nd p v).2.1 = 0 then (0 : Int32) else -5), me_w N h) ∧ (∀ a k, ¬ (81 ≤ a ∧ a ≤ 85) → ¬ (a = 70 ∧ (k = 17 ∨ k = 22 ∨ k = 24 ∨ k = 25)) → h a k = me_i N a k) ∧ h 70 25 = nI (run_of M c0 y t D nd p v).1 ∧ ((run_of M c0 y t D nd p v).2.1 = 0 → RG (x_of (st_m M) t y c0) h (run_of M c0 y t D nd p v).2.2) := by
  obtain ⟨h, h1, h2, h3, h4, h5⟩ := e_court hn hL hV hs hP hf
  refine ⟨h, ?_, h2, h3, h5⟩
  have hD := hV.1.2.2.2.1.2
  have h60 := hP.1
  have hr := (run_WV (M := N) (val_X hV) hP 60 0 0 (w_of (st_m M) D nd) (by omega) hf (val_W hV (by omega)) (by show D + 100 * (p - 0) ≤ 4000000; omega)).2.2.1
  unfold f_X12_barOfCourt b_X12_barOfCourt
  rw [m_ck hL, cP_e hF, if_neg (by decide), cI_e h1]
  by_cases h0 : (run_of M c0 y t D nd p v).2.1 = 0
  · rw [if_pos h0, if_pos h0, if_pos (by decide)]; rfl
  · rw [if_neg h0, if_neg h0, if_neg (nI_pos (by show (a_run _ _ _ _ _ _ _).1 < _; omega))]; rfl
/-- the invariant after a hearing -/
theorem iv_heard {N : Me} {h : St} (hn : n < 512) (hI : Iv n M) (hF : Fk M N) (hp : ∃ π, CP N 33 π) (h2 : ∀ a k, ¬ (81 ≤ a ∧ a ≤ 85) → ¬ (a = 70 ∧ (k = 17 ∨ k = 22 ∨ k = 24 ∨ k = 25)) → h a k = me_i N a k) : Iv (n + 1) (me_w N h) := by
  refine (hI.next hn).same hF.1 hF.2.1 hp (fun a k q => ?_)
  rw [i_w, h2 a k (by omega) (by omega)]
  exact hF.2.2 a k (by omega)
end RC
theorem iv_op8 : ∀ n M, n < 512 → Iv n M → op_8 (Iv (n + 1)) M := by
  intro n M hn h x1
  obtain ⟨hL, hlen, ⟨hCL, π, hCP, c0, y, t, D, nd, sg, hV, hR⟩, hJ, hP, hI⟩ := id h
  by_cases hx : in_v x1 0 1 = 0
  · refine ⟨-2, M, M, ?_, ?_, h.next hn⟩
    · unfold f_X11_judge b_X11_judge
      rw [ck_e (lk_0 hL), cP_e (e_isWithin _ _ _ _), if_pos hx]
    · unfold f_X12_judge b_X12_judge
      rw [ck_e (lk_70 hL), cP_e (e_in _ _ _ _), if_pos hx]
  obtain ⟨p, v, hPD⟩ := hP.pd
  have h60 := hPD.1
  have hc := hV.1.1
  obtain ⟨e1, e2⟩ := e_faults hL hPD (show me_i M 4 0 = nI c0 from hR.1.1.trans hc.1) hc.1 (by omega) hc.2.2
  cases hf : flt v c0 p 60 0 with
  | some k =>
    have hk := flt_lt _ _ _ hf
    rw [hf] at e1 e2
    have e3 : fvl (some k) = nI k := rfl
    rw [e3] at e1 e2
    refine ⟨-5, M, M, ?_, ?_, h.next hn⟩
    · unfold f_X11_judge b_X11_judge
      rw [ck_e (lk_0 hL), cP_e (e_isWithin _ _ _ _), if_neg hx, cP_e e1, if_neg]
      intro q
      exact nI_pos (n := k) (by omega) (by rw [q]; decide)
    · unfold f_X12_judge b_X12_judge
      rw [ck_e (lk_70 hL), cP_e (e_in _ _ _ _), if_neg hx, cP_e e2, if_neg (nI_pos (by omega))]
  | none =>
    rw [hf] at e1 e2
    obtain ⟨N, h1, h2, h3, h4, h5, h6, h7⟩ := e_hear hn hL hCL hCP hJ hV hR hPD hf
    have hLN := h2.lay hL
    have hPN : PD N p v := hPD.same (h2.2.2 _ _ (by omega)) (fun k => h2.2.2 _ _ (by omega)) (h2.2.2 _ _ (by omega)) (fun k => h2.2.2 _ _ (by omega))
    have hs : ∀ a k, 70 ≤ a → me_i N a k = me_i M a k := fun a k q => h2.2.2 a k (by omega)
    obtain ⟨-, e2N⟩ := e_faults hLN hPN (show me_i N 4 0 = nI c0 from (h2.2.2 _ _ (by omega)).trans (hR.1.1.trans hc.1)) ((hs _ _ (by omega)).trans hc.1) (by omega) hc.2.2
    rw [hf] at e2N
    obtain ⟨u, g1, g2, g3, g4, g5⟩ := e_court hn hLN hV hs hPN.pm hf
    have hD := hV.1.2.2.2.1.2
    have hr := (run_WV (M := N) (val_X hV) hPN.pm 60 0 0 (w_of (st_m M) D nd) (by omega) hf (val_W hV (by omega)) (by show D + 100 * (p - 0) ≤ 4000000; omega)).2.2
    have hr1 : (run_of M c0 y t D nd p v).1 ≤ 60 := by have := hr.1; show (a_run _ _ _ _ _ _ _).1 ≤ _; omega
    refine ⟨if (run_of M c0 y t D nd p v).2.1 = 0 then -6 else if x1 = 0 then nI (run_of M c0 y t D nd p v).1 else nI (run_of M c0 y t D nd p v).2.1, N, me_w N u, ?_, ?_, iv_heard hn h h2 h3 g2⟩
    · unfold f_X11_judge b_X11_judge
      rw [ck_e (lk_0 hL), cP_e (e_isWithin _ _ _ _), if_neg hx, cP_e e1, if_pos (by rfl), gr_e (lk_0 hL) (lr_0_3 hL), gr_e (lk_0 hL) (lr_0_0 hL), gr_e (lk_0 hL) (lr_0_1 hL), cI_e h1]
      by_cases h0 : (run_of M c0 y t D nd p v).2.1 = 0
      · rw [if_pos h0, if_pos h0, if_neg (by decide)]
      · rw [if_neg h0, if_neg h0, if_pos rfl, gr_e (lk_0 hLN) (lr_0_3 hLN), gr_e (lk_0 hLN) (lr_0_3 hLN), gi_e (lk_32 hLN), gi_e (lk_32 hLN), h4, h5]
        by_cases q : x1 = 0
        · rw [if_pos q, if_pos q]; rfl
        · rw [if_neg q, if_neg q]; rfl
    · unfold f_X12_judge b_X12_judge
      rw [ck_e (lk_70 hLN), cP_e (e_in _ _ _ _), if_neg hx, cP_e e2N, if_pos (by decide), cI_e g1]
      by_cases h0 : (run_of M c0 y t D nd p v).2.1 = 0
      · rw [if_pos h0, if_pos h0, if_pos (by decide)]; rfl
      · rw [if_neg h0, if_neg h0, if_neg (nI_pos (by omega)), gi_e (by exact lk_70 hLN), i_w, g4 h0]
        by_cases q : x1 = 0
        · rw [if_pos q, if_pos q]; rfl
        · rw [if_neg q, if_neg q]; rfl
theorem iv_op11 : ∀ n M, n < 512 → Iv n M → op_11 (Iv (n + 1)) M := by
  intro n M hn h x1 x2
  obtain ⟨hL, hlen, ⟨hCL, π, hCP, c0, y, t, D, nd, sg, hV, hR⟩, hJ, hP, hI⟩ := id h
  have ht70 : me_i M 70 3 = nI t := hV.1.2.2.1.1
  have ht := hV.1.2.2.1.2
  by_cases hx1 : tv t x1 = 0
  · refine ⟨-1, M, M, ?_, ?_, h.next hn⟩
    · unfold f_X11_behind b_X11_behind
      rw [ck_e (lk_0 hL), gr_e (lk_0 hL) (lr_0_1 hL), cR_e (e_knightAt hCL), gi_e (kn_kind hCL), kn_there hR, if_pos hx1]
    · unfold f_X12_behind b_X12_behind
      rw [ck_e (lk_70 hL), cP_e (e_isThere (lk_70 hL) ht70 ht), if_pos hx1]
  by_cases hx : in_v x2 0 3 = 0
  · refine ⟨-2, M, M, ?_, ?_, h.next hn⟩
    · unfold f_X11_behind b_X11_behind
      rw [ck_e (lk_0 hL), gr_e (lk_0 hL) (lr_0_1 hL), cR_e (e_knightAt hCL), gi_e (kn_kind hCL), kn_there hR, if_neg hx1, cP_e (e_isWithin _ _ _ _), if_pos hx]
    · unfold f_X12_behind b_X12_behind
      rw [ck_e (lk_70 hL), cP_e (e_isThere (lk_70 hL) ht70 ht), if_neg hx1, cP_e (e_in _ _ _ _), if_pos hx]
  obtain ⟨k, hk, rfl, hb⟩ := tv_yes hx1
  have hx2 := hx
  rw [c_0, c_3] at hx2
  obtain ⟨f, -, hf3, rfl⟩ := in_yes (by decide) (by decide) hx2
  obtain ⟨p, v, hPD⟩ := hP.pd
  have h60 := hPD.1
  have hc := hV.1.1
  obtain ⟨e1, e2⟩ := e_faults hL hPD (show me_i M 4 0 = nI c0 from hR.1.1.trans hc.1) hc.1 (by omega) hc.2.2
  cases hf : flt v c0 p 60 0 with
  | some j =>
    have hj := flt_lt _ _ _ hf
    rw [hf] at e1 e2
    have e3 : fvl (some j) = nI j := rfl
    rw [e3] at e1 e2
    refine ⟨-5, M, M, ?_, ?_, h.next hn⟩
    · unfold f_X11_behind b_X11_behind
      rw [ck_e (lk_0 hL), gr_e (lk_0 hL) (lr_0_1 hL), cR_e (e_knightAt hCL), gi_e (kn_kind hCL), kn_there hR, if_neg hx1, cP_e (e_isWithin _ _ _ _), if_neg hx, cP_e e1, if_neg]
      intro q
      exact nI_pos (n := j) (by omega) (by rw [q]; decide)
    · unfold f_X12_behind b_X12_behind
      have eb : f_X12_barOfCourt 70 M = some (-5, M) := by
        unfold f_X12_barOfCourt b_X12_barOfCourt
        rw [m_ck hL, cP_e e2, if_pos (nI_pos' (by omega))]; rfl
      rw [ck_e (lk_70 hL), cP_e (e_isThere (lk_70 hL) ht70 ht), if_neg hx1, cP_e (e_in _ _ _ _), if_neg hx, cI_e eb, if_neg (by decide)]; rfl
  | none =>
    rw [hf] at e1 e2
    obtain ⟨N, h1, h2, h3, h4, h5, h6, h7⟩ := e_hear hn hL hCL hCP hJ hV hR hPD hf
    have hLN := h2.lay hL
    have hPN : PD N p v := hPD.same (h2.2.2 _ _ (by omega)) (fun k => h2.2.2 _ _ (by omega)) (h2.2.2 _ _ (by omega)) (fun k => h2.2.2 _ _ (by omega))
    have hs : ∀ a k, 70 ≤ a → me_i N a k = me_i M a k := fun a k q => h2.2.2 a k (by omega)
    obtain ⟨-, e2N⟩ := e_faults hLN hPN (show me_i N 4 0 = nI c0 from (h2.2.2 _ _ (by omega)).trans (hR.1.1.trans hc.1)) ((hs _ _ (by omega)).trans hc.1) (by omega) hc.2.2
    rw [hf] at e2N
    obtain ⟨u, g1, g2, g3, g5⟩ := e_bar hn hLN hV hs hPN.pm hf e2N
    have ht70N : me_i N 70 3 = nI t := (hs _ _ (by omega)).trans ht70
    have hD := hV.1.2.2.2.1.2
    have hr := (run_WV (M := N) (val_X hV) hPN.pm 60 0 0 (w_of (st_m M) D nd) (by omega) hf (val_W hV (by omega)) (by show D + 100 * (p - 0) ≤ 4000000; omega))
    by_cases h0 : (run_of M c0 y t D nd p v).2.1 = 0
    · have hB := h7 h0
      have hG := g5 h0
      have hK := hB.K k hk
      have hb2 : (x_of (st_m M) t y c0).1.testBit k = true := hb
      obtain ⟨s1, s2, s3, s4, s5, s6⟩ := hK.2 hb2
      obtain ⟨r1, r2, r3, r4⟩ := hG.2.2.1 k hk hb2
      have ht0 : me_i N (33 + 22 + k) 0 = 1 := by rw [hK.1, if_pos hb2]
      refine ⟨if f = 0 then (if me_i N (33 + 22 + k) 6 ≤ 0 then me_i N (33 + 22 + k) 5 else -6) else if f = 1 then me_i N (33 + 22 + k) 3 else if f = 2 then me_i N (33 + 22 + k) 4 + 10000 else if me_i N (33 + 22 + k) 3 = 0 then 1 else 0, N, me_w N u, ?_, ?_, iv_heard hn h h2 h3 g2⟩
      · unfold f_X11_behind b_X11_behind
        rw [ck_e (lk_0 hL), gr_e (lk_0 hL) (lr_0_1 hL), cR_e (e_knightAt hCL), gi_e (kn_kind hCL), kn_there hR, if_neg hx1, cP_e (e_isWithin _ _ _ _), if_neg hx, cP_e e1, if_pos (by rfl), gr_e (lk_0 hL) (lr_0_3 hL), gr_e (lk_0 hL) (lr_0_0 hL), gr_e (lk_0 hL) (lr_0_1 hL), cI_e h1, if_pos h0, if_neg (by decide), gr_e (lk_0 hLN) (lr_0_3 hLN), gr_e (lk_32 hLN) (lr_32_0 hLN), cR_e (e_knightAt hB.CL), kn_k hk, cP_e (e_ktell (hB.CL.2.2.2.2.2.2.2 k hk) ht0 hf3)]
      · unfold f_X12_behind b_X12_behind
        rw [ck_e (lk_70 hLN), cP_e (e_isThere (lk_70 hLN) ht70N ht), if_neg hx1, cP_e (e_in _ _ _ _), if_neg hx, cI_e g1, if_pos h0, if_pos (by decide), cP_e (e_snow (la_w hLN) hk hf3)]
        have e81 : me_i (me_w N u) 81 k = me_i N (33 + 22 + k) 5 := r1.trans s5.symm
        have e82 : me_i (me_w N u) 82 k = me_i N (33 + 22 + k) 6 := r2.trans s6.symm
        have e83 : me_i (me_w N u) 83 k = me_i N (33 + 22 + k) 3 := r3.trans s3.symm
        have e84 : me_i (me_w N u) 84 k = me_i N (33 + 22 + k) 4 := r4.trans s4.symm
        rw [e81, e82, e83, e84]
        rfl
    · refine ⟨-5, N, me_w N u, ?_, ?_, iv_heard hn h h2 h3 g2⟩
      · unfold f_X11_behind b_X11_behind
        rw [ck_e (lk_0 hL), gr_e (lk_0 hL) (lr_0_1 hL), cR_e (e_knightAt hCL), gi_e (kn_kind hCL), kn_there hR, if_neg hx1, cP_e (e_isWithin _ _ _ _), if_neg hx, cP_e e1, if_pos (by rfl), gr_e (lk_0 hL) (lr_0_3 hL), gr_e (lk_0 hL) (lr_0_0 hL), gr_e (lk_0 hL) (lr_0_1 hL), cI_e h1, if_neg h0, if_pos rfl]
      · unfold f_X12_behind b_X12_behind
        rw [ck_e (lk_70 hLN), cP_e (e_isThere (lk_70 hLN) ht70N ht), if_neg hx1, cP_e (e_in _ _ _ _), if_neg hx, cI_e g1, if_neg h0, if_neg (by decide)]; rfl
theorem iv_op9 : ∀ n M, n < 512 → Iv n M → op_9 (Iv (n + 1)) M := by
  intro n M hn h
  obtain ⟨hL, hlen, ⟨hCL, π, hCP, c0, y, t, D, nd, sg, hV, hR⟩, hJ, hP, hI⟩ := id h
  obtain ⟨p, v, hPD⟩ := hP.pd
  have h60 := hPD.1
  have hc := hV.1.1
  obtain ⟨e1, e2⟩ := e_faults hL hPD (show me_i M 4 0 = nI c0 from hR.1.1.trans hc.1) hc.1 (by omega) hc.2.2
  cases hf : flt v c0 p 60 0 with
  | some j =>
    have hj := flt_lt _ _ _ hf
    rw [hf] at e1 e2
    have e3 : fvl (some j) = nI j := rfl
    rw [e3] at e1 e2
    refine ⟨-5, M, M, ?_, ?_, h.next hn⟩
    · unfold f_X11_done b_X11_done
      rw [ck_e (lk_0 hL), cP_e e1, if_neg]
      intro q
      exact nI_pos (n := j) (by omega) (by rw [q]; decide)
    · unfold f_X12_done b_X12_done
      have eb : f_X12_barOfCourt 70 M = some (-5, M) := by
        unfold f_X12_barOfCourt b_X12_barOfCourt
        rw [m_ck hL, cP_e e2, if_pos (nI_pos' (by omega))]; rfl
      rw [ck_e (lk_70 hL), cI_e eb, if_neg (by decide)]
  | none =>
    rw [hf] at e1 e2
    obtain ⟨N, h1, h2, h3, h4, h5, ⟨h6, h6b⟩, h7⟩ := e_hear hn hL hCL hCP hJ hV hR hPD hf
    have hLN := h2.lay hL
    by_cases h0 : (run_of M c0 y t D nd p v).2.1 = 0
    · have hB := h7 h0
      have hCLN : CL N 3 := hCL.same (fun a _ _ => by unfold me_k; rw [h2.1]) (fun a k _ _ _ => h2.2.1 a k (by omega))
      have hCPN : CP N 3 π := hCP.same (fun k => h2.2.1 _ _ (by omega))
      have hD := hV.1.2.2.2.1.2
      have hr := (run_WV (M := M) (val_X hV) hPD.pm 60 0 0 (w_of (st_m M) D nd) (by omega) hf (val_W hV (by omega)) (by show D + 100 * (p - 0) ≤ 4000000; omega))
      have hsg := hV.1.2.2.2.2.2
      -- the state as it will be
      have hST0 : ∃ st0 : St, ST (x_of (st_m M) t y c0) (run_of M c0 y t D nd p v).2.2 st0 ∧ st0 70 6 = st_m M 70 6 ∧ (∀ k, st0 74 k = st_m M 74 k) := by
        have hG0 := ST.of hV (by omega)
        obtain ⟨⟨a1, a2, a3, a4, a5⟩, hr2, hk2, hd2⟩ := hG0
        refine ⟨fun a k => if a = 70 then (if k = 8 then nI (run_of M c0 y t D nd p v).2.2.2.1 else if k = 13 then nI (run_of M c0 y t D nd p v).2.2.1.length else st_m M 70 k) else if a = 75 then nI ((run_of M c0 y t D nd p v).2.2.2.2.1 k 5) else if a = 76 then nI ((run_of M c0 y t D nd p v).2.2.2.2.1 k 6) else if a = 77 then nI ((run_of M c0 y t D nd p v).2.2.2.2.1 k 3) else if a = 78 then (run_of M c0 y t D nd p v).2.2.2.2.2 k else if a = 79 then (match (run_of M c0 y t D nd p v).2.2.1[k / 4]? with
          | some r => nI (if k % 4 = 0 then r.1 else if k % 4 = 1 then r.2.1 else if k % 4 = 2 then r.2.2.1 else r.2.2.2)
          | none => 0) else st_m M a k, ⟨⟨a1, a2, a3, rfl, rfl⟩, hr2, fun k hk ht => ⟨(hk2 k hk ht).1, (hk2 k hk ht).2.1, rfl, rfl, rfl, rfl⟩, fun i r hi => ?_⟩, rfl, fun k => rfl⟩
        have m0 : 4 * i / 4 = i ∧ 4 * i % 4 = 0 := by omega
        have m1 : (4 * i + 1) / 4 = i ∧ (4 * i + 1) % 4 = 1 := by omega
        have m2 : (4 * i + 2) / 4 = i ∧ (4 * i + 2) % 4 = 2 := by omega
        have m3 : (4 * i + 3) / 4 = i ∧ (4 * i + 3) % 4 = 3 := by omega
        refine ⟨?_, ?_, ?_, ?_⟩
        · simp [m0.1, m0.2, hi]
        · simp [m1.1, m1.2, hi]
        · simp [m2.1, m2.2, hi]
        · simp [m3.1, m3.2, hi]
      obtain ⟨st0, hS0, hS6, hS74⟩ := hST0
      obtain ⟨π3, hCP3, hR3⟩ := hB.rpn (sg := sg) hS0 (by rw [hS6]; exact h6) (fun i hi => by rw [hS74, hS74]; exact h6b i hi)
      obtain ⟨g, k1, k2, k3, k4⟩ := e_copy hCLN hB.CL hCPN hCP3 (by omega) hR3 hS0.1.2.2.2.2 hr.1.1 hsg.2
      have hL2 : Lay (me_si (me_w N g) 1 0 0) := hLN
      have hr2 : (run_of M c0 y t D nd p v).2.2.2.1 ≤ D + 100 * (p - 0) := hr.2.1
      have hi1 : ∀ a k, 31 ≤ a → me_i (me_si (me_w N g) 1 0 0) a k = me_i N a k := fun a k q => by rw [i_si, if_neg (by omega), i_w, k2 a k (by omega)]
      have hs1 : ∀ a k, 70 ≤ a → me_i (me_si (me_w N g) 1 0 0) a k = me_i M a k := fun a k q => (hi1 a k (by omega)).trans (h2.2.2 a k (by omega))
      have hPM : PM (me_si (me_w N g) 1 0 0) p v := hPD.pm.same (hs1 _ _ (by omega)) (fun k => hs1 _ _ (by omega))
      have eF := e_faultM hL2 hPM ((hs1 70 0 (by omega)).trans hc.1) (by omega) hc.2.2
      rw [hf] at eF
      obtain ⟨u, g1, g2, g3, g5⟩ := e_bar hn hL2 hV hs1 hPM hf eF
      rw [if_pos h0] at g1
      have hG := g5 h0
      obtain ⟨g4, m1, m2, m3, m4, m5, m6⟩ := e_keep (M := me_w (me_si (me_w N g) 1 0 0) u) hL2
      simp only [i_w] at m2 m3 m4 m5 m6
      have s : ∀ a k, ¬ (a = 70 ∧ k = 15) → me_i (me_si (me_w N g4) 70 15 0) a k = g4 a k := fun a k q => by rw [i_si, if_neg q, i_w]
      refine ⟨nI (run_of M c0 y t D nd p v).1, me_si (me_w N g) 1 0 0, me_si (me_w N g4) 70 15 0, ?_, ?_, ?_⟩
      · unfold f_X11_done b_X11_done
        rw [ck_e (lk_0 hL), cP_e e1, if_pos (by rfl), gr_e (lk_0 hL) (lr_0_3 hL), gr_e (lk_0 hL) (lr_0_0 hL), gr_e (lk_0 hL) (lr_0_1 hL), cI_e h1, if_pos h0, if_neg (by decide), gr_e (lk_0 hLN) (lr_0_1 hLN), gr_e (lk_0 hLN) (lr_0_3 hLN), gr_e (lk_32 hLN) (lr_32_0 hLN), cM_e k1, gr_e (by exact lk_0 hLN) (by exact lr_0_0 hLN), pi_e (by exact lk_1 hLN), gr_e (by exact lk_0 hLN) (by exact lr_0_3 hLN), gi_e (by exact lk_32 hLN), hi1 _ _ (by omega), h4]
      · unfold f_X12_done b_X12_done
        rw [ck_e (lk_70 hL2), cI_e g1, if_pos (by decide), cM_e m1, m_pi (by exact hLN), m_gi (by exact hLN), i_si, if_neg (by omega), i_w, m2 _ _ (by omega) (by omega), g3]
        rfl
      · have hST : ST (x_of (st_m M) t y c0) (run_of M c0 y t D nd p v).2.2 (st_m (me_si (me_w N g4) 70 15 0)) := by
          obtain ⟨⟨x1, x2, x3, x4⟩, y1, y2, z1, z2, z3⟩ := hG
          unfold ST st_m
          refine ⟨⟨?_, ?_, ?_, ?_, ?_⟩, fun i hi => ?_, fun k hk ht => ?_, fun i r hi => ?_⟩
          · rw [s _ _ (by omega), m2 _ _ (by omega) (by omega), g2 _ _ (by omega) (by omega), hs1 _ _ (by omega)]; exact hc.1
          · rw [s _ _ (by omega), m2 _ _ (by omega) (by omega)]; exact x1
          · rw [s _ _ (by omega), m2 _ _ (by omega) (by omega)]; exact x2
          · rw [s _ _ (by omega), m3]; exact y1
          · rw [s _ _ (by omega), m4]; exact z2
          · rw [s _ _ (by omega), m2 _ _ (by omega) (by omega)]; exact x3 i hi
          · obtain ⟨q1, q2⟩ := x4 k hk ht
            obtain ⟨p1, p2, p3, p4⟩ := y2 k hk ht
            obtain ⟨n1, n2, n3, n4⟩ := m5 k hk
            refine ⟨?_, ?_, ?_, ?_, ?_, ?_⟩
            · rw [s _ _ (by omega), m2 _ _ (by omega) (by omega)]; exact q1
            · rw [s _ _ (by omega), m2 _ _ (by omega) (by omega)]; exact q2
            · rw [s _ _ (by omega), n1]; exact p1
            · rw [s _ _ (by omega), n2]; exact p2
            · rw [s _ _ (by omega), n3]; exact p3
            · rw [s _ _ (by omega), n4]; exact p4
          · have hl := (List.getElem?_eq_some_iff.mp hi).1
            obtain ⟨q1, q2, q3, q4⟩ := z3 i r hi
            refine ⟨?_, ?_, ?_, ?_⟩
            · rw [s _ _ (by omega), m6 _ (by omega)]; exact q1
            · rw [s _ _ (by omega), m6 _ (by omega)]; exact q2
            · rw [s _ _ (by omega), m6 _ (by omega)]; exact q3
            · rw [s _ _ (by omega), m6 _ (by omega)]; exact q4
        have s2 : ∀ a k, ¬ (75 ≤ a ∧ a ≤ 79) → ¬ (81 ≤ a ∧ a ≤ 85) → ¬ (a = 70 ∧ (k = 8 ∨ k = 13 ∨ k = 15 ∨ k = 17 ∨ k = 22 ∨ k = 24 ∨ k = 25)) → me_i (me_si (me_w N g4) 70 15 0) a k = me_i (me_si (me_w N g) 1 0 0) a k := fun a k q1 q2 q3 => by rw [s _ _ (by omega), m2 _ _ (by omega) (by omega), g2 _ _ (by omega) (by omega)]
        have e74 : ∀ k, st_m (me_si (me_w N g4) 70 15 0) 74 k = st_m M 74 k := fun k => (s2 _ _ (by omega) (by omega) (by omega)).trans (hs1 _ _ (by omega))
        have e706 : st_m (me_si (me_w N g4) 70 15 0) 70 6 = st_m M 70 6 := (s2 _ _ (by omega) (by omega) (by omega)).trans (hs1 _ _ (by omega))
        have eC : ∀ a k, 3 ≤ a → a < 3 + 28 → me_i (me_si (me_w N g4) 70 15 0) a k = me_i (me_w N g) a k := fun a k q1 q2 => by rw [s2 _ _ (by omega) (by omega) (by omega), i_si, if_neg (by omega)]
        have hRp := (((k4.same hCPN hr.1.1 eC).st hS0 hST (by rw [e706, hS6]) (fun k => by rw [e74, hS74])).rep (by rw [eC _ _ (by omega) (by omega), i_w, k3, h2.2.2 _ _ (by omega)]; exact hR.2.2.1))
        refine h.gen h2.1 (fun a k _ q2 => h2.2.1 a k q2) h3 ⟨hCLN, π, hCPN, c0, y, t, _, _, sg, hST.val (val_X hV) hr.1 (by omega) ⟨e706.trans hsg.1, hsg.2⟩ (fun i hi => by rw [e74, e74]; exact hV.2.2.2.2 i hi), hRp⟩ ⟨0, by omega, ?_, ?_, fun i hi => absurd hi (by omega)⟩ (fun a k q => ?_)
        · rw [s2 _ _ (by omega) (by omega) (by omega), si_self, nI_0]
        · rw [si_self, nI_0]
        · rw [s2 _ _ (by omega) (by omega) (by omega), hs1 _ _ (by omega)]
    · have hPN : PD N p v := hPD.same (h2.2.2 _ _ (by omega)) (fun k => h2.2.2 _ _ (by omega)) (h2.2.2 _ _ (by omega)) (fun k => h2.2.2 _ _ (by omega))
      have hs : ∀ a k, 70 ≤ a → me_i N a k = me_i M a k := fun a k q => h2.2.2 a k (by omega)
      obtain ⟨-, e2N⟩ := e_faults hLN hPN (show me_i N 4 0 = nI c0 from (h2.2.2 _ _ (by omega)).trans (hR.1.1.trans hc.1)) ((hs _ _ (by omega)).trans hc.1) (by omega) hc.2.2
      rw [hf] at e2N
      obtain ⟨u, g1, g2, g3, g5⟩ := e_bar hn hLN hV hs hPN.pm hf e2N
      refine ⟨-5, N, me_w N u, ?_, ?_, iv_heard hn h h2 h3 g2⟩
      · unfold f_X11_done b_X11_done
        rw [ck_e (lk_0 hL), cP_e e1, if_pos (by rfl), gr_e (lk_0 hL) (lr_0_3 hL), gr_e (lk_0 hL) (lr_0_0 hL), gr_e (lk_0 hL) (lr_0_1 hL), cI_e h1, if_neg h0, if_pos rfl]
      · unfold f_X12_done b_X12_done
        rw [ck_e (lk_70 hLN), cI_e g1, if_neg h0, if_neg (by decide)]

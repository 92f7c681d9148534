/-! what acts keep -/
section WW
variable {X : Cx} {w : Wd}
theorem WV.sub {ds : List Rw} (h : WV X w) (hs : ds.Sublist w.1) (ho : Nat → Int32) : WV X (ds, w.2.1, w.2.2.1, ho) := by
  obtain ⟨h1, h2, h3, h4, h5⟩ := h
  exact ⟨Nat.le_trans hs.length_le h1, h2, h3, fun r hr => h4 r (hs.subset hr), h5.sublist hs⟩
theorem WV.wound {k m : Nat} (h : WV X w) : WV X (a_wound k m w) := by
  obtain ⟨h1, h2, h3, h4, h5⟩ := h
  have hs : (a_wound k m w).1.Sublist w.1 := by
    unfold a_wound a_kill
    dsimp only
    split
    · exact List.filter_sublist
    · exact List.Sublist.refl _
  refine ⟨Nat.le_trans hs.length_le h1, h2, fun j hj ht => ?_, fun r hr => ?_, h5.sublist hs⟩
  · have := h3 j hj ht
    unfold a_wound up
    dsimp only
    by_cases hjk : j = k
    · subst hjk
      rw [if_pos ⟨rfl, rfl⟩, if_neg (by omega), if_neg (by omega)]
      omega
    · rw [if_neg (by omega), if_neg (by omega), if_neg (by omega)]
      omega
  · obtain ⟨v1, v2, v3, v4, v5, v6, v7, v8, v9⟩ := h4 r (hs.subset hr)
    refine ⟨v1, v2, v3, v4, v5, ?_, ?_, v8, v9⟩
    · unfold a_wound up
      dsimp only
      by_cases hk : r.1 = k
      · rw [if_pos ⟨hk, rfl⟩]
        intro h0
        unfold a_wound a_kill at hr
        dsimp only at hr
        rw [if_pos (by omega)] at hr
        have := of_decide_eq_true (List.mem_filter.mp hr).2
        omega
      · rw [if_neg (by omega)]; exact v6
    · unfold a_wound up
      dsimp only
      by_cases hk : r.2.1 = k
      · rw [if_pos ⟨hk, rfl⟩]
        intro h0
        unfold a_wound a_kill at hr
        dsimp only at hr
        rw [if_pos (by omega)] at hr
        have := of_decide_eq_true (List.mem_filter.mp hr).2
        omega
      · rw [if_neg (by omega)]; exact v7
theorem WV.nx {k : Nat} {r : Rw} (h : WV X w) : WV X (a_nx X k r w) := by
  unfold a_nx
  split
  · exact (h.sub (List.eraseP_sublist) _).wound
  · exact h.sub (List.eraseP_sublist) _
theorem nx_len {k : Nat} {r : Rw} (hf : w.1.find? (a_due k w.2.1) = some r) : (a_nx X k r w).1.length + 1 ≤ w.1.length := by
  have hm := find_mem hf
  have h1 : (w.1.eraseP (a_due k w.2.1)).length + 1 = w.1.length := by
    have := List.length_eraseP_of_mem hm.1 hm.2
    have : 0 < w.1.length := List.length_pos_of_mem hm.1
    omega
  unfold a_nx
  split
  · unfold a_wound a_kill
    dsimp only
    split
    · have := List.length_filter_le (fun r_1 : Rw => decide (¬ (r_1.1 = r.1 ∨ r_1.2.1 = r.1))) (w.1.eraseP (a_due k w.2.1))
      omega
    · omega
  · dsimp only
    omega
theorem nx_D {k : Nat} {r : Rw} : (a_nx X k r w).2.1 = w.2.1 := by
  unfold a_nx; split <;> rfl
theorem gb_none {k f : Nat} (h : w.1.find? (a_due k w.2.1) = none) : a_gb X k f w = w := by
  cases f with
  | zero => rfl
  | succ f => unfold a_gb; rw [h]
theorem gb_some {k f : Nat} {r : Rw} (h : w.1.find? (a_due k w.2.1) = some r) : a_gb X k (f + 1) w = a_gb X k f (a_nx X k r w) := by
  show (match w.1.find? (a_due k w.2.1) with | none => w | some r => a_gb X k f (a_nx X k r w)) = _
  rw [h]
theorem WV.gb {k : Nat} : ∀ (f : Nat) (w : Wd), WV X w → WV X (a_gb X k f w) := by
  intro f
  induction f with
  | zero => exact fun w h => h
  | succ f ih =>
    intro w h
    cases hf : w.1.find? (a_due k w.2.1) with
    | none => rw [gb_none hf]; exact h
    | some r => rw [gb_some hf]; exact ih _ h.nx
theorem gb_D {k : Nat} : ∀ (f : Nat) (w : Wd), (a_gb X k f w).2.1 = w.2.1 := by
  intro f
  induction f with
  | zero => exact fun w => rfl
  | succ f ih =>
    intro w
    cases hf : w.1.find? (a_due k w.2.1) with
    | none => rw [gb_none hf]
    | some r => rw [gb_some hf, ih, nx_D]
/-- enough is enough -/
theorem gb_more {k : Nat} : ∀ (f e : Nat) (w : Wd), w.1.length ≤ f → a_gb X k (f + e) w = a_gb X k f w := by
  intro f
  induction f with
  | zero =>
    intro e w h
    have : w.1 = [] := List.length_eq_zero_iff.mp (by omega)
    rw [gb_none (by rw [this]; rfl), gb_none (by rw [this]; rfl)]
  | succ f ih =>
    intro e w h
    cases hf : w.1.find? (a_due k w.2.1) with
    | none => rw [gb_none hf, gb_none hf]
    | some r =>
      have := nx_len (X := X) hf
      rw [show f + 1 + e = (f + e) + 1 by omega, gb_some hf, gb_some hf, ih e _ (by omega)]
def a_whyB (X : Cx) (k : Nat) (w : Wd) : Nat := if a_act X k w ≠ 0 then a_act X k w else if w.2.2.1 k 5 ≠ X.2.2.2.2.1 k then 6 else if w.1.find? (a_due k w.2.1) = none then 6 else 0
end WW
section CT
variable {X : Cx} {M N : Me} {c D n : Nat} {π : Nat → Nat} {rs : Nat → Rw} {w : Wd}
theorem e_whyAct {k : Nat} (hW : WV X w) (hCL : CL M c) (hK : CK X M c w.2.2.1 w.2.2.2) (hk : k < 6) : f_X0_whyNotActing c (nI k) M = some (nI (a_act X k w)) := by
  have ak := CK.alive hCL hK hk (fun z => (hW.2.2.1 k hk z).1)
  unfold f_X0_whyNotActing b_X0_whyNotActing a_act
  rw [q_ck hCL, q_knt hCL hk]
  by_cases h1n : ¬ a_al X w k
  · rw [if_neg h1n] at ak
    rw [cP_e ak, if_pos rfl, if_pos h1n, c_1]
  have h1 := Classical.not_not.mp h1n
  have := hW.2.2.1 k hk h1.1
  rw [if_pos h1] at ak
  rw [cP_e ak, if_neg (show ¬ (1 : Int32) = 0 by decide), if_neg h1n, q_knt hCL hk, q_gi4 hCL hk, ((hK k hk).2 h1.1).2.2.2.2.2, c_0, c_2]
  by_cases h2 : 0 < w.2.2.1 k 6
  · rw [if_neg (nI_ge h2 (by omega)), if_pos h2]; rfl
  · rw [if_pos (nI_le (by omega) (by omega)), if_neg h2]; rfl
theorem nI_m6 {i : Nat} (h : i < 12) : ¬ nI i = -6 := by
  have : ∀ i, i < 12 → ¬ nI i = -6 := by decide +kernel
  exact this i h
theorem act_al {k : Nat} (h : a_act X k w = 0) : a_al X w k ∧ w.2.2.1 k 6 = 0 := by
  unfold a_act at h
  split at h
  · cases h
  · split at h
    · cases h
    · rename_i h1 h2
      exact ⟨Classical.not_not.mp h1, by omega⟩
theorem e_tryBack {k : Nat} (hX : XV X) (hW : WV X w) (h : CB X M c w) (hk : k < 6) : ∃ N, f_X0_tryGiveBack c (nI k) M = some (nI (a_whyB X k w), N) ∧ Fc M N c ∧ CB X N c (if a_whyB X k w = 0 then a_gb X k 12 w else w) := by
  obtain ⟨π, n, rs, hV, hg⟩ := id h
  obtain ⟨hCL, hCP, hF, hK, hD, hw⟩ := id hV
  unfold f_X0_tryGiveBack b_X0_tryGiveBack a_whyB
  rw [q_ck hCL, cP_e (e_whyAct hW hCL hK hk)]
  by_cases h0n : ¬ a_act X k w = 0
  · refine ⟨M, ?_, Fc.refl, by rw [if_pos h0n, if_neg h0n]; exact h⟩
    have : a_act X k w < 3 := by unfold a_act; split; · omega
                                 · split <;> omega
    rw [if_pos h0n, c_0, if_neg (nI_ne (by omega) (by omega) h0n)]
  have h0 := Classical.not_not.mp h0n
  obtain ⟨al, g0⟩ := act_al h0
  have wk := hW.2.2.1 k hk al.1
  have xk := hX.2.2.2.1 k hk al.1
  have xc := hX.2.2.1
  obtain ⟨k1, k2, k3, k4, k5, k6⟩ := (hK k hk).2 al.1
  have hDD := hW.2.1
  have eIn := CK.isIn hCL hK (k := k) (p := X.2.2.2.2.1 k) hk al.1 (by omega) (by omega) (by omega)
  rw [h0, if_pos (nI_0), q_knt hCL hk, q_c2 hCL, q_gi hCL, hF.1, if_neg (show ¬ (0 ≠ 0) by omega)]
  by_cases h1 : w.2.2.1 k 5 = X.2.2.2.2.1 k
  · rw [if_neg (Classical.not_not.mpr h1)]
    rw [if_pos ⟨g0, h1⟩] at eIn
    have key : ∀ v, f_X2_findDueTo (c + 4) (nI k) (nI w.2.1) M = some v → ¬ v = -6 → ∃ N, lp (fun s : Me × Int32 × Int32 => s_X0_tryGiveBack_56 c (nI k) (c + 22 + k) s.1 s.2.1 s.2.2) (M, v, 0) = some N ∧ ∃ g, N.1 = me_w M g ∧ (∀ a j, a < c ∨ (c + 18 ≤ a ∧ a < c + 22) ∨ c + 28 ≤ a → g a j = me_i M a j) ∧ CV X (me_w M g) c π n rs (a_gb X k 12 w) := by
      intro v hv hv6
      have hlp := lp_by (step := fun s : Me × Int32 × Int32 => s_X0_tryGiveBack_56 c (nI k) (c + 22 + k) s.1 s.2.1 s.2.2)
        (fun s => ∃ g v j w1, s = (me_w M g, v, nI j) ∧ j ≤ 12 ∧ (∀ a j, a < c ∨ (c + 18 ≤ a ∧ a < c + 22) ∨ c + 28 ≤ a → g a j = me_i M a j) ∧ CV X (me_w M g) c π n rs w1 ∧ WV X w1 ∧ w1.2.1 = w.2.1 ∧ w1.1.length + j ≤ 12 ∧ a_gb X k (12 - j) w1 = a_gb X k 12 w ∧ f_X2_findDueTo (c + 4) (nI k) (nI w.2.1) (me_w M g) = some v)
        (fun x => ∃ g, x.1 = me_w M g ∧ (∀ a j, a < c ∨ (c + 18 ≤ a ∧ a < c + 22) ∨ c + 28 ≤ a → g a j = me_i M a j) ∧ CV X (me_w M g) c π n rs (a_gb X k 12 w))
        (fun s => 12 - s.2.2.toNatClampNeg) ?_ (M, v, 0) ⟨fun a j => me_i M a j, v, 0, w, by rw [nI_0]; rfl, by omega, fun _ _ _ => rfl, hV, hW, rfl, by have := hW.1; omega, rfl, hv⟩
      · exact hlp
      · rintro s ⟨g, v, j, w1, rfl, hj, a1, a2, a3, a4, a5, a6, a7⟩
        obtain ⟨hC1, hP1, hF1, hK1, hD1, hw1⟩ := id a2
        have ef := e_findDue (k := k) (D := w.2.1) hC1 hP1 hD1 hk (by omega)
        rw [← hw1, ← a4] at ef
        rw [← a4] at a7
        by_cases hj12 : j = 12
        · right
          subst hj12
          have hnil : w1.1 = [] := List.length_eq_zero_iff.mp (by omega)
          refine ⟨(me_w M g, v, nI 12), ?_, g, rfl, a1, by rw [← a6]; exact a2⟩
          show s_X0_tryGiveBack_56 c (nI k) (c + 22 + k) (me_w M g) v (nI 12) = _
          unfold s_X0_tryGiveBack_56
          rw [c_12, if_pos (nI_le (Nat.le_refl _) (by omega))]
        · have n1 : ¬ (12 : Int32) ≤ nI j := by rw [c_12]; exact nI_ge (by omega) (by omega)
          rcases ef with ⟨f1, f2⟩ | ⟨i, f1, f2, f3, f4, f5, f6⟩
          · right
            rw [f1] at a7
            obtain rfl := Option.some.inj a7
            refine ⟨(me_w M g, -6, nI j), ?_, g, rfl, a1, by rw [← a6, gb_none f2]; exact a2⟩
            show s_X0_tryGiveBack_56 c (nI k) (c + 22 + k) (me_w M g) (-6) (nI j) = _
            unfold s_X0_tryGiveBack_56
            rw [if_neg n1, if_pos rfl]
          · left
            rw [f2] at a7
            obtain rfl := Option.some.inj a7
            have h12 := hD1.1
            obtain ⟨g2, b1, b2, b3⟩ := e_backOne hX a3 a2 hk al.1 f1 f3 f4 f5 (find_mem f6).1
            rw [w_w] at b1 b3
            obtain ⟨hC2, hP2, hF2, hK2, hD2, hw2⟩ := id b3
            have ln := nx_len (X := X) f6
            have ef2 : ∃ v2, f_X2_findDueTo (c + 4) (nI k) (nI w.2.1) (me_w M g2) = some v2 := by
              rcases e_findDue (k := k) (D := w.2.1) hC2 hP2 hD2 hk (by omega) with ⟨z, _⟩ | ⟨_, _, z, _⟩
              · exact ⟨_, z⟩
              · exact ⟨_, z⟩
            obtain ⟨v2, ev2⟩ := ef2
            refine ⟨(me_w M g2, v2, nI (j + 1)), ?_, ⟨g2, v2, j + 1, a_nx X k (rs (π i)) w1, rfl, by omega, fun a j z => ?_, b3, a3.nx, by rw [nx_D, a4], by omega, ?_, ev2⟩, ?_⟩
            · show s_X0_tryGiveBack_56 c (nI k) (c + 22 + k) (me_w M g) (nI i) (nI j) = _
              unfold s_X0_tryGiveBack_56
              have e5 : me_i (me_w M g2) c 5 = nI w.2.1 := by rw [hF2.1, nx_D, a4]
              rw [if_neg n1, if_neg (nI_m6 (by omega)), cM_e b1, q_c2 hC2, q_gi hC2, e5, cP_e ev2]
              simp only [let_v, nI_1]
            · rw [b2 a j (by omega)]; exact a1 a j z
            · rw [← a6, show 12 - j = (12 - (j + 1)) + 1 by omega, gb_some f6]
            · show 12 - (nI (j + 1)).toNatClampNeg < 12 - (nI j).toNatClampNeg
              rw [nI_clamp (by omega), nI_clamp (by omega)]; omega
    rcases e_findDue (k := k) (D := w.2.1) hCL hCP hD hk (by omega) with ⟨f1, f2⟩ | ⟨i, f1, f2, f3, f4, f5, f6⟩
    · rw [← hw] at f2
      rw [f2, if_pos rfl]
      refine ⟨M, ?_, Fc.refl, by rw [if_neg (by decide)]; exact h⟩
      rw [cP_e f1, q_gi4 hCL hk, k1, cP_e eIn, if_neg (show ¬ (1 : Int32) = 0 by decide), if_pos rfl]; rfl
    · rw [← hw] at f6
      have h12 := hD.1
      rw [f6, if_neg (by simp), if_pos rfl]
      obtain ⟨x, e1, g, rfl_, e2, e3⟩ := key _ f2 (nI_m6 (by omega))
      obtain ⟨N, s1, s2, s3, s4, s5⟩ := e3.sweep
      refine ⟨N, ?_, (Fc.w e2).trans s2, s5⟩
      rw [cP_e f2, q_gi4 hCL hk, k1, cP_e eIn, if_neg (show ¬ (1 : Int32) = 0 by decide), if_neg (nI_m6 (by omega)), e1]
      simp only [Option.bind_some]
      rw [rfl_, q_c2 e3.1, cM_e s1, c_0]
  · rw [if_pos h1]
    rw [if_neg (fun z => h1 z.2)] at eIn
    have ef : ∃ v2, f_X2_findDueTo (c + 4) (nI k) (nI w.2.1) M = some v2 := by
      rcases e_findDue (k := k) (D := w.2.1) hCL hCP hD hk (by omega) with ⟨z, _⟩ | ⟨_, _, z, _⟩
      · exact ⟨_, z⟩
      · exact ⟨_, z⟩
    obtain ⟨v, ev⟩ := ef
    refine ⟨M, ?_, Fc.refl, by rw [if_neg (by decide)]; exact h⟩
    rw [cP_e ev, q_gi4 hCL hk, k1, cP_e eIn, if_pos rfl]; rfl
end CT

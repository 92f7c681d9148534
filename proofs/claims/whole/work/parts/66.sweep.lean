/-! Debts.sweep: those that stay keep their order -/
theorem range_map_congr {α : Type} {n : Nat} {f g : Nat → α} (h : ∀ i, i < n → f i = g i) : (List.range n).map f = (List.range n).map g := by
  apply List.map_congr_left
  intro i hi
  exact h i (List.mem_range.mp hi)
theorem e_sweep {M : Me} {c n : Nat} {π : Nat → Nat} (hCL : CL M c) (hCP : CP M c π) (hn : me_i M (c + 4) 0 = nI n) (h12 : n ≤ 12) :
    ∃ N π2, f_X2_sweep (c + 4) M = some N ∧ N.1 = M.1 ∧ (∀ a k, a ≠ c + 5 → me_r N a k = me_r M a k) ∧ (∀ a k, ¬ (a = c + 4 ∧ k = 0) → me_i N a k = me_i M a k) ∧ CP N c π2 ∧
      me_i N (c + 4) 0 = nI (((List.range n).map π).filter (fun o => decide (me_i M (c + 6 + o) 4 = 0))).length ∧
      (List.range (((List.range n).map π).filter (fun o => decide (me_i M (c + 6 + o) 4 = 0))).length).map π2 = ((List.range n).map π).filter (fun o => decide (me_i M (c + 6 + o) 4 = 0)) := by
  unfold f_X2_sweep b_X2_sweep
  rw [q_ck2 hCL]
  have hlp := lp_cnt (step := fun s : Me × Int32 × Int32 => s_X2_sweep_4 (c + 4) s.1 s.2.1 s.2.2) n
    (fun i s => ∃ N s0 π2, s = (N, nI s0, nI i) ∧ s0 ≤ i ∧ N.1 = M.1 ∧ N.2.2 = M.2.2 ∧ (∀ a k, a ≠ c + 5 → me_r N a k = me_r M a k) ∧ CP N c π2 ∧ (∀ j, i ≤ j → π2 j = π j) ∧ (List.range s0).map π2 = ((List.range i).map π).filter (fun o => decide (me_i M (c + 6 + o) 4 = 0)))
    (fun s => ∃ N s0 π2, s = (N, nI s0, nI n) ∧ s0 ≤ n ∧ N.1 = M.1 ∧ N.2.2 = M.2.2 ∧ (∀ a k, a ≠ c + 5 → me_r N a k = me_r M a k) ∧ CP N c π2 ∧ (List.range s0).map π2 = ((List.range n).map π).filter (fun o => decide (me_i M (c + 6 + o) 4 = 0)))
    ?_ ?_ (M, 0, 0) ?_
  · obtain ⟨x, hx, N, s0, π2, rfl, h1, h2, h3, h4, h5, h6⟩ := hlp
    have hl : (((List.range n).map π).filter (fun o => decide (me_i M (c + 6 + o) 4 = 0))).length = s0 := by rw [← h6]; simp
    have hk : ∀ a, me_k N a = me_k M a := fun a => by unfold me_k; rw [h2]
    have hCN : CL N c := hCL.same (fun a _ _ => hk a) (fun a k _ _ h => h4 a k h)
    refine ⟨me_si N (c + 4) 0 (nI s0), π2, ?_, h2, h4, ?_, h5, ?_, ?_⟩
    · rw [hx]
      simp only [Option.bind_some]
      rw [q_pi2 hCN]
    · intro a k hak
      rw [i_si, if_neg hak]
      show N.2.2 a k = _
      rw [h3]; rfl
    · rw [hl, i_si, if_pos ⟨rfl, rfl⟩]
    · rw [hl, h6]
  · rintro i s hi ⟨N, s0, π2, rfl, h1, h2, h3, h4, h5, h6, h7⟩
    have hk : ∀ a, me_k N a = me_k M a := fun a => by unfold me_k; rw [h2]
    have hCN : CL N c := hCL.same (fun a _ _ => hk a) (fun a k _ _ h => h4 a k h)
    have hI : ∀ a k, me_i N a k = me_i M a k := fun a k => by show N.2.2 a k = _; rw [h3]; rfl
    have n1 : ¬ (12 : Int32) ≤ nI i := by rw [c_12]; exact nI_ge (by omega) (by omega)
    have n2 : ¬ nI n ≤ nI i := nI_ge hi (by omega)
    have e6 : π2 i = π i := h6 i (Nat.le_refl _)
    have hpi := (h5.1 i (by omega)).1
    have hps := (h5.1 s0 (by omega)).1
    by_cases hg : me_i M (c + 6 + π i) 4 = 0
    · refine ⟨(me_sr (me_sr N (c + 5) i (some (c + 6 + π2 s0))) (c + 5) s0 (some (c + 6 + π2 i)), nI (s0 + 1), nI (i + 1)), ?_, _, s0 + 1, fun x => if x = s0 then π2 i else if x = i then π2 s0 else π2 x, rfl, by omega, h2, h3, ?_, ?_, ?_, ?_⟩
      · show s_X2_sweep_4 (c + 4) N (nI s0) (nI i) = _
        unfold s_X2_sweep_4
        have hCN2 : CL (me_sr N (c + 5) i (some (c + 6 + π2 s0))) c := hCN.same (fun _ _ _ => rfl) (fun a k _ _ h => by rw [r_sr, if_neg (by omega)])
        rw [if_neg n1, q_gi2 hCN, hI, hn, if_neg n2, q_d1 hCN, q_row hCN h5 (by omega), q_gi1 hCN hpi, hI, e6, if_pos hg, q_d1 hCN, q_d1 hCN, q_row hCN h5 (by omega), sr_e hCN.2.2.2.1.2.2 (by omega) (by decide) (hCN.2.2.2.2.1 _ hps), q_d1 hCN2, sr_e hCN2.2.2.2.1.2.2 (by omega) (by decide) (hCN2.2.2.2.2.1 _ (by rw [← e6]; exact hpi))]
        simp only [let_v, Option.bind_some, nI_1]
      · intro a k ha
        rw [r_sr, if_neg (by omega), r_sr, if_neg (by omega)]
        exact h4 a k ha
      · refine ⟨fun j hj => ⟨?_, ?_⟩, fun j k hj hk2 hjk => ?_⟩
        · dsimp only
          split
          · exact hpi
          · split
            · exact hps
            · exact (h5.1 j hj).1
        · dsimp only
          rw [r_sr, r_sr]
          by_cases q1 : j = s0
          · rw [if_pos ⟨rfl, q1⟩, if_pos q1]
          · rw [if_neg (by omega), if_neg q1]
            by_cases q2 : j = i
            · rw [if_pos ⟨rfl, q2⟩, if_pos q2]
            · rw [if_neg (by omega), if_neg q2]
              exact (h5.1 j hj).2
        · dsimp only at hjk
          have inj := h5.2
          by_cases a1 : j = s0
          · by_cases b1 : k = s0
            · omega
            · rw [if_pos a1, if_neg b1] at hjk
              by_cases b2 : k = i
              · rw [if_pos b2] at hjk
                have := inj i s0 (by omega) (by omega) hjk
                omega
              · rw [if_neg b2] at hjk
                have := inj i k (by omega) (by omega) hjk
                omega
          · rw [if_neg a1] at hjk
            by_cases a2 : j = i
            · rw [if_pos a2] at hjk
              by_cases b1 : k = s0
              · rw [if_pos b1] at hjk
                have := inj s0 i (by omega) (by omega) hjk
                omega
              · rw [if_neg b1] at hjk
                by_cases b2 : k = i
                · omega
                · rw [if_neg b2] at hjk
                  have := inj s0 k (by omega) (by omega) hjk
                  omega
            · rw [if_neg a2] at hjk
              by_cases b1 : k = s0
              · rw [if_pos b1] at hjk
                have := inj j i (by omega) (by omega) hjk
                omega
              · rw [if_neg b1] at hjk
                by_cases b2 : k = i
                · rw [if_pos b2] at hjk
                  have := inj j s0 (by omega) (by omega) hjk
                  omega
                · rw [if_neg b2] at hjk
                  exact inj j k hj hk2 hjk
      · intro j hj
        dsimp only
        rw [if_neg (by omega), if_neg (by omega)]
        exact h6 j (by omega)
      · rw [List.range_succ, List.map_append, List.range_succ, List.map_append, List.filter_append, ← h7]
        congr 1
        · apply range_map_congr
          intro x hx
          rw [if_neg (by omega), if_neg (by omega)]
        · simp only [List.map_cons, List.map_nil, if_true]
          rw [List.filter_cons_of_pos (by simp [hg]), e6]
          rfl
    · refine ⟨(N, nI s0, nI (i + 1)), ?_, N, s0, π2, rfl, by omega, h2, h3, h4, h5, fun j hj => h6 j (by omega), ?_⟩
      · show s_X2_sweep_4 (c + 4) N (nI s0) (nI i) = _
        unfold s_X2_sweep_4
        rw [if_neg n1, q_gi2 hCN, hI, hn, if_neg n2, q_d1 hCN, q_row hCN h5 (by omega), q_gi1 hCN hpi, hI, e6, if_neg hg]
        simp only [let_v, Option.bind_some, nI_1]
      · rw [List.range_succ, List.map_append, List.filter_append, ← h7]
        simp [hg]
  · rintro s ⟨N, s0, π2, rfl, h1, h2, h3, h4, h5, h6, h7⟩
    have hk : ∀ a, me_k N a = me_k M a := fun a => by unfold me_k; rw [h2]
    have hCN : CL N c := hCL.same (fun a _ _ => hk a) (fun a k _ _ h => h4 a k h)
    have hI : ∀ a k, me_i N a k = me_i M a k := fun a k => by show N.2.2 a k = _; rw [h3]; rfl
    refine ⟨(N, nI s0, nI n), ?_, N, s0, π2, rfl, h1, h2, h3, h4, h5, h7⟩
    show s_X2_sweep_4 (c + 4) N (nI s0) (nI n) = _
    unfold s_X2_sweep_4
    rw [q_gi2 hCN, hI, hn, if_pos (nI_le (Nat.le_refl _) (by omega))]
    split <;> rfl
  · exact ⟨M, 0, π, by rw [nI_0], Nat.le_refl _, rfl, rfl, fun _ _ _ => rfl, hCP, fun _ _ => rfl, rfl⟩

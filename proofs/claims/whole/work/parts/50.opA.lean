theorem x_wipe {M : Me} (h : Lay M) : f_X11_wipe 0 M = some (me_i M 1 0, me_si M 1 0 0) := by
  simp only [f_X11_wipe, b_X11_wipe, gi, gr, pi, ck, k_si, r_si, nf_0, nf_7, nf_11, nf_12, Option.bind_some, if_true, la_k h, la_r h]
theorem m_wipe {M : Me} (h : Lay M) : f_X12_wipe 70 M = some (me_i M 70 15, me_si M 70 15 0) := by
  simp only [f_X12_wipe, b_X12_wipe, gi, gr, pi, ck, k_si, r_si, nf_0, nf_7, nf_11, nf_12, Option.bind_some, if_true, la_k h, la_r h]
/-- wipe -/
theorem iv_op6 : ∀ n M, n < 512 → Iv n M → op_6 (Iv (n + 1)) M := by
  intro n M hn h
  obtain ⟨hL, hlen, hC, hJ, ⟨p, hp, hp1, hp2, hp3⟩, hI⟩ := id h
  refine ⟨_, _, me_si (me_si M 1 0 0) 70 15 0, x_wipe hL, ?_, ?_⟩
  · rw [m_wipe (la_si hL), i_si, if_neg (by omega), hp2, hp1]
  · refine h.pad rfl (fun a k => rfl) ⟨0, by decide, ?_, ?_, fun i hi => absurd hi (by omega)⟩ (fun a k ha => ?_)
    · rw [i_si, if_neg (by omega), i_si, if_pos (by omega)]; rfl
    · rw [i_si, if_pos (by omega)]; rfl
    · repeat rw [i_si, if_neg (by omega)]
theorem x_forget {M : Me} (h : Lay M) : f_X11_forget 0 M = some (me_i M 21 0, me_si M 21 0 0) := by
  simp only [f_X11_forget, b_X11_forget, gi, gr, pi, ck, k_si, r_si, nf_0, nf_9, nf_11, nf_12, Option.bind_some, if_true, la_k h, la_r h]
theorem m_forget {M : Me} (h : Lay M) : f_X12_forget 70 M = some (me_i M 70 6, me_si M 70 6 0) := by
  simp only [f_X12_forget, b_X12_forget, gi, gr, pi, ck, k_si, r_si, nf_0, nf_7, nf_11, nf_12, Option.bind_some, if_true, la_k h, la_r h]
/-- forget -/
theorem iv_op23 : ∀ n M, n < 512 → Iv n M → op_23 (Iv (n + 1)) M := by
  intro n M hn h
  obtain ⟨hL, hlen, ⟨hCL, π, hCP, c, y, t, D, nd, sg, hV, hR⟩, hJ, hP, hI⟩ := id h
  have hs : me_i M 21 0 = me_i M 70 6 := hR.2.2.2.2.1.1
  refine ⟨_, _, me_si (me_si M 21 0 0) 70 6 0, x_forget hL, ?_, ?_⟩
  · rw [m_forget (la_si hL), i_si, if_neg (by omega), hs]
  · refine h.cou rfl (fun a k _ => rfl) ⟨hCL, π, hCP, c, y, t, D, nd, 0, ?_, ?_⟩ (fun a k ha => ?_)
    · obtain ⟨⟨h1, h2, h3, h4, h5, h6⟩, hVR, hVK, hVD, hVS⟩ := hV.later
      refine ⟨⟨?_, ?_, ?_, ?_, ?_, ?_⟩, ?_, ?_, ?_, fun i hi => absurd hi (by omega)⟩
      · exact h1
      · exact h2
      · exact h3
      · exact h4
      · exact h5
      · exact ⟨rfl, by decide⟩
      · exact hVR
      · exact hVK
      · exact hVD
    · obtain ⟨h1, h2, h3, h4, ⟨h5, h6⟩, h7⟩ := hR
      refine ⟨h1, ?_, h3, ?_, ⟨rfl, fun i hi => absurd hi (by omega)⟩, h7⟩
      · intro k hk
        have e : ∀ f, me_i (me_si (me_si M 21 0 0) 70 6 0) (3 + 22 + k) f = me_i M (3 + 22 + k) f := fun f => by repeat rw [i_si, if_neg (by omega)]
        simp only [e]
        exact h2 k hk
      · refine ⟨h4.1, fun i hi => ?_⟩
        have hpi := (hCP.1 i (by have := hV.nd; omega)).1
        have e : ∀ f, me_i (me_si (me_si M 21 0 0) 70 6 0) (3 + 6 + π i) f = me_i M (3 + 6 + π i) f := fun f => by repeat rw [i_si, if_neg (by omega)]
        simp only [e]
        exact h4.2 i hi
    · repeat rw [i_si, if_neg (by omega)]

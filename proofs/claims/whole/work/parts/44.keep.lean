/-! how the invariant is kept -/
theorem Iv.gen {n : Nat} {M N : Me} (h : Iv n M) (hl : N.1 = M.1) (hr : ∀ a k, a ≠ 8 → a ≠ 38 → me_r N a k = me_r M a k) (hJ : ∃ π, CP N 33 π) (hC : Cou (n + 1) N 3 (st_m N)) (hP : PadR N) (hi : ∀ a k, 89 ≤ a → me_i N a k = me_i M a k) : Iv (n + 1) N := by
  have hk : ∀ a, me_k N a = me_k M a := fun a => by unfold me_k; rw [hl]
  obtain ⟨⟨h1, h1b⟩, h2, h3, h4, h5, h6⟩ := h
  refine ⟨⟨fun a ha => by rw [hk]; exact h1 a ha, fun a ha g1 g2 g3 k => by rw [hr a k g1 g2]; exact h1b a ha g1 g2 g3 k⟩, by rw [hl]; exact h2, hC, hJ, hP, ?_⟩
  exact h6.later.same (by rw [hl]; exact Nat.le_refl _) (fun a _ _ => hk a) (fun a k _ => hr a k (by omega) (by omega)) (fun k => hr 31 k (by omega) (by omega)) (fun a k ha => hi a k (by omega)) (fun k => hi 89 k (by omega)) (fun k => hi 90 k (by omega))
theorem PadR.same {M N : Me} (h : PadR M) (h1 : me_i N 1 0 = me_i M 1 0) (h2 : ∀ k, me_i N 2 k = me_i M 2 k) (h3 : me_i N 70 15 = me_i M 70 15) (h4 : ∀ k, me_i N 80 k = me_i M 80 k) : PadR N := by
  obtain ⟨p, h⟩ := h
  refine ⟨p, ?_⟩
  simp only [h1, h2, h3, h4]
  exact h
/-- a change of the pad alone -/
theorem Iv.pad {n : Nat} {M N : Me} (h : Iv n M) (hl : N.1 = M.1) (hr : ∀ a k, me_r N a k = me_r M a k) (hP : PadR N) (hi : ∀ a k, ¬ (a = 1 ∨ a = 2 ∨ a = 80 ∨ (a = 70 ∧ k = 15)) → me_i N a k = me_i M a k) : Iv (n + 1) N := by
  obtain ⟨π, hπ⟩ := h.2.2.2.1
  refine h.gen hl (fun a k _ _ => hr a k) ⟨π, hπ.same (fun k => hr _ _)⟩ ?_ hP (fun a k ha => hi a k (by omega))
  have hk : ∀ a, me_k N a = me_k M a := fun a => by unfold me_k; rw [hl]
  exact h.2.2.1.later.same (fun a _ _ => hk a) (fun a k _ _ => hr a k) (fun a k _ _ => hi a k (by omega)) (fun k _ => hi 70 k (by omega)) (fun a k _ _ => hi a k (by omega))
/-- a change of the court and of the reference's main state alone -/
theorem Iv.cou {n : Nat} {M N : Me} (h : Iv n M) (hl : N.1 = M.1) (hr : ∀ a k, a ≠ 8 → me_r N a k = me_r M a k) (hC : Cou (n + 1) N 3 (st_m N)) (hi : ∀ a k, ¬ ((3 ≤ a ∧ a ≤ 30) ∨ (70 ≤ a ∧ a ≤ 79 ∧ ¬ (a = 70 ∧ k = 15))) → me_i N a k = me_i M a k) : Iv (n + 1) N := by
  obtain ⟨π, hπ⟩ := h.2.2.2.1
  refine h.gen hl (fun a k h1 _ => hr a k h1) ⟨π, hπ.same (fun k => hr _ _ (by omega))⟩ hC ?_ (fun a k ha => hi a k (by omega))
  exact h.2.2.2.2.1.same (hi 1 0 (by omega)) (fun k => hi 2 k (by omega)) (hi 70 15 (by omega)) (fun k => hi 80 k (by omega))
theorem Iv.next {n : Nat} {M : Me} (hn : n < 512) (h : Iv n M) : Iv (n + 1) M := iv_stay n M hn h

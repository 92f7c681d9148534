/-! who, by both sides -/
theorem b_and : ∀ a, a < 64 → ∀ b, b < 64 → nI a &&& nI b = nI (a &&& b) := by decide +kernel
def Zw (E : Nat → Nat → Bool) (sg S j T : Nat) : Nat := if T = 0 then 1 else sN (fun k => if (T.testBit k && (decide (T - 2 ^ k < S ∨ (T - 2 ^ k = S ∧ k < j)) && (decide (cn T 12 ≤ sg) && E (cn T 12 - 1) k))) = true then Ww E sg (T - 2 ^ k) else 0) 6
section ZW
variable {E : Nat → Nat → Bool} {sg S T j : Nat}
theorem Zw_W (hT : T < 64) (h : T ≤ S) : Zw E sg S 0 T = Ww E sg T := by
  rw [Ww_eq hT]
  unfold Zw V_w
  by_cases q : T = 0
  · rw [if_pos q, if_pos q]
  · rw [if_neg q, if_neg q]
    apply sN_congr
    intro k _
    by_cases hb : T.testBit k = true
    · have := bit_sub hb
      rw [decide_eq_true (show T - 2 ^ k < S ∨ (T - 2 ^ k = S ∧ k < 0) from Or.inl (by omega)), Bool.true_and]
    · rw [Bool.eq_false_iff.mpr hb, Bool.false_and, Bool.false_and]
theorem Zw_6 : Zw E sg S 6 T = Zw E sg (S + 1) 0 T := by
  unfold Zw
  by_cases q : T = 0
  · rw [if_pos q, if_pos q]
  · rw [if_neg q, if_neg q]
    apply sN_congr
    intro k hk
    have e : (T - 2 ^ k < S ∨ (T - 2 ^ k = S ∧ k < 6)) = (T - 2 ^ k < S + 1 ∨ (T - 2 ^ k = S + 1 ∧ k < 0)) := propext (by omega)
    simp only [e]
theorem Zw_skip (hT : T < 64) (h : sg ≤ cn S 12 ∨ Ww E sg S = 0) : Zw E sg S 0 T = Zw E sg (S + 1) 0 T := by
  unfold Zw
  by_cases q : T = 0
  · rw [if_pos q, if_pos q]
  · rw [if_neg q, if_neg q]
    apply sN_congr
    intro k hk
    by_cases hb : T.testBit k = true
    · by_cases hx : T - 2 ^ k = S
      · rcases h with h | h
        · have := cn_sub T hT k hk hb
          rw [hx] at this
          rw [decide_eq_false (show ¬ cn T 12 ≤ sg by omega)]
          simp only [Bool.false_and, Bool.and_false]
        · rw [hx, h]
          split <;> split <;> rfl
      · have e : (T - 2 ^ k < S ∨ (T - 2 ^ k = S ∧ k < 0)) = (T - 2 ^ k < S + 1 ∨ (T - 2 ^ k = S + 1 ∧ k < 0)) := propext (by omega)
        simp only [e]
    · rw [Bool.eq_false_iff.mpr hb, Bool.false_and, Bool.false_and]
theorem Zw_step (hT : T < 64) (hS : S < 64) (hj : j < 6) (hp : cn S 12 < sg) : Zw E sg S (j + 1) T = if (S.testBit j = false ∧ E (cn S 12) j = true) ∧ T = S ||| 2 ^ j then Zw E sg S j T + Ww E sg S else Zw E sg S j T := by
  have fo := for_iff hS hT hj
  unfold Zw
  by_cases q : T = 0
  · rw [if_pos q, if_pos q, if_neg]
    rintro ⟨⟨h1, -⟩, h2⟩
    have := (fo.mp ⟨h1, h2.symm⟩).1
    rw [q] at this
    simp at this
  · rw [if_neg q, if_neg q]
    have one := sN_one (j := j) (g := fun k => if (T.testBit k && (decide (T - 2 ^ k < S ∨ (T - 2 ^ k = S ∧ k < j + 1)) && (decide (cn T 12 ≤ sg) && E (cn T 12 - 1) k))) = true then Ww E sg (T - 2 ^ k) else 0) (h := fun k => if (T.testBit k && (decide (T - 2 ^ k < S ∨ (T - 2 ^ k = S ∧ k < j)) && (decide (cn T 12 ≤ sg) && E (cn T 12 - 1) k))) = true then Ww E sg (T - 2 ^ k) else 0) 6 (fun k hk hkj => by
      have e : (T - 2 ^ k < S ∨ (T - 2 ^ k = S ∧ k < j + 1)) = (T - 2 ^ k < S ∨ (T - 2 ^ k = S ∧ k < j)) := propext (by omega)
      simp only [e]) hj
    by_cases hx : T.testBit j = true ∧ S = T - 2 ^ j
    · have hb := fo.mpr hx
      have hc2 := cn_sub T hT j hj hx.1
      rw [← hx.2] at hc2
      have eo : (if (T.testBit j && (decide (T - 2 ^ j < S ∨ (T - 2 ^ j = S ∧ j < j)) && (decide (cn T 12 ≤ sg) && E (cn T 12 - 1) j))) = true then Ww E sg (T - 2 ^ j) else 0) = 0 := by
        rw [decide_eq_false (show ¬ (T - 2 ^ j < S ∨ (T - 2 ^ j = S ∧ j < j)) by omega), Bool.false_and, Bool.and_false]
        exact if_neg (by simp)
      have en : (if (T.testBit j && (decide (T - 2 ^ j < S ∨ (T - 2 ^ j = S ∧ j < j + 1)) && (decide (cn T 12 ≤ sg) && E (cn T 12 - 1) j))) = true then Ww E sg (T - 2 ^ j) else 0) = if E (cn S 12) j = true then Ww E sg S else 0 := by
        rw [decide_eq_true (show T - 2 ^ j < S ∨ (T - 2 ^ j = S ∧ j < j + 1) by omega), hx.1, decide_eq_true (show cn T 12 ≤ sg by omega), show cn T 12 - 1 = cn S 12 by omega, ← hx.2]
        rfl
      rw [eo, en] at one
      by_cases hE : E (cn S 12) j = true
      · rw [if_pos ⟨⟨hb.1, hE⟩, hb.2.symm⟩]
        rw [if_pos hE] at one
        omega
      · rw [if_neg (fun z => hE z.1.2)]
        rw [if_neg hE] at one
        omega
    · rw [if_neg (fun z => hx (fo.mp ⟨z.1.1, z.2.symm⟩))]
      apply sN_congr
      intro k hk
      by_cases hkj : k = j
      · subst hkj
        by_cases hb : T.testBit k = true
        · have e : (T - 2 ^ k < S ∨ (T - 2 ^ k = S ∧ k < k + 1)) = (T - 2 ^ k < S ∨ (T - 2 ^ k = S ∧ k < k)) := propext (by
            have : T - 2 ^ k ≠ S := fun z => hx ⟨hb, z.symm⟩
            omega)
          simp only [e]
        · rw [Bool.eq_false_iff.mpr hb, Bool.false_and, Bool.false_and]
      · have e : (T - 2 ^ k < S ∨ (T - 2 ^ k = S ∧ k < j + 1)) = (T - 2 ^ k < S ∨ (T - 2 ^ k = S ∧ k < j)) := propext (by omega)
        simp only [e]
theorem Zw_0 : Zw E sg 0 0 T = if T = 0 then 1 else 0 := by
  unfold Zw
  by_cases q : T = 0
  · rw [if_pos q, if_pos q]
  · rw [if_neg q, if_neg q]
    apply sN_zero
    intro k _
    rw [decide_eq_false (show ¬ (T - 2 ^ k < 0 ∨ (T - 2 ^ k = 0 ∧ k < 0)) by omega), Bool.false_and, Bool.and_false]
    exact if_neg (by simp)
end ZW
def Ew (t : Nat) (kk mm str : Nat → Nat) (j s : Nat) : Bool := t.testBit s && (decide (s ≠ kk j) && decide (mm j ≤ str s))
theorem or_ne {S k : Nat} (h : S.testBit k = false) : S ≠ S ||| 2 ^ k := by
  intro z
  have e : (S ||| 2 ^ k).testBit k = true := by rw [Nat.testBit_or, Nat.testBit_two_pow_self, Bool.or_true]
  rw [← z, h] at e
  cases e
section WC
variable {M : Me} {t sg : Nat} {kk mm str : Nat → Nat}
/-- what the class reads -/
def WR (M : Me) (t sg : Nat) (kk mm str : Nat → Nat) : Prop := CL M 3 ∧ Lay M ∧ t < 64 ∧ sg ≤ 6 ∧ me_i M 21 0 = nI sg ∧ (∀ j, j < sg → me_i M 22 j = nI (kk j) ∧ kk j < 6 ∧ me_i M 23 j = nI (mm j) ∧ mm j ≤ 20) ∧ ∀ k, k < 6 → me_i M (3 + 22 + k) 0 = (if t.testBit k = true then 1 else 0) ∧ (t.testBit k = true → me_i M (3 + 22 + k) 2 = nI (str k) ∧ str k ≤ 20)
theorem WR.same {g : St} (h : WR M t sg kk mm str) (hi : ∀ a z, a < 68 → g a z = me_i M a z) : WR (me_w M g) t sg kk mm str := by
  obtain ⟨h1, h2, h3, h4, h5, h6, h7⟩ := h
  refine ⟨h1, h2, h3, h4, (hi _ _ (by omega)).trans h5, fun j hj => ?_, fun k hk => ?_⟩
  · rw [i_w, i_w, hi _ _ (by omega), hi _ _ (by omega)]; exact h6 j hj
  · rw [i_w, i_w, hi _ _ (by omega), hi _ _ (by omega)]; exact h7 k hk
theorem e_add26 {S p j : Nat} {g : St} (hW : WR (me_w M g) t sg kk mm str) (hS : S < 64) (hp : p < sg) (hj : j < 6) :
    s_X8_addStriker_26 68 3 (nI S) (nI p) (me_w M g) (nI j) = if S.testBit j = false ∧ Ew t kk mm str p j = true then some (Sum.inl (me_si (me_w M g) 69 (S ||| 2 ^ j) (g 69 (S ||| 2 ^ j) + g 69 S), nI (j + 1))) else some (Sum.inl (me_w M g, nI (j + 1))) := by
  obtain ⟨hC, hL, h3, h4, h5, h6, h7⟩ := hW
  obtain ⟨a1, a2, a3, a4⟩ := h6 p hp
  obtain ⟨b1, b2⟩ := h7 j hj
  have ol : S ||| 2 ^ j < 64 := or_64 hS (b_pow j hj)
  unfold s_X8_addStriker_26 Ew
  simp only [let_v]
  rw [c_6, if_neg (nI_ge hj (by omega)), q_knt hC hj, bit_64 S hS j hj, nI_1]
  by_cases q1 : S.testBit j = true
  · rw [if_pos q1, if_neg (show ¬ (1 : Int32) = 0 by decide), if_neg (show ¬ (S.testBit j = false ∧ _) from fun z => by rw [q1] at z; cases z.1)]
    simp only [Option.bind_some]
    rw [q_c3 hC, q_s1 hC, q_li19 hC (by omega)]
    by_cases q2 : nI j = me_i (me_w M g) (3 + 19) p
    · rw [if_pos q2]; rfl
    · rw [if_neg q2]; rfl
  · have q1f : S.testBit j = false := Bool.eq_false_iff.mpr q1
    rw [if_neg q1, if_pos rfl]
    simp only [Option.bind_some]
    rw [q_c3 hC, q_s1 hC, q_li19 hC (by omega), show me_i (me_w M g) (3 + 19) p = nI (kk p) from a1, i_eq (by omega) (by omega)]
    by_cases q2 : j = kk p
    · rw [if_pos q2]
      simp only [Option.bind_some]
      rw [if_neg (show ¬ (1 : Int32) = 0 by decide), if_pos trivial, if_neg]
      · rfl
      · rintro ⟨-, z⟩
        rw [Bool.and_eq_true, Bool.and_eq_true, decide_eq_true_eq] at z
        exact z.2.1 q2
    · rw [if_neg q2]
      simp only [Option.bind_some]
      rw [if_neg (show ¬ (1 : Int32) = 0 by decide), if_neg (show ¬ (1 : Int32) = 0 by decide), q_gi4 hC hj, b1]
      by_cases q3 : t.testBit j = true
      · obtain ⟨b3, b4⟩ := b2 q3
        rw [if_pos q3, if_neg (show ¬ (1 : Int32) = 0 by decide), q_gi4 hC hj, b3, q_c3 hC, q_s2 hC, q_li20 hC (by omega), show me_i (me_w M g) (3 + 20) p = nI (mm p) from a3, i_lt (by omega) (by omega)]
        by_cases q4 : str j < mm p
        · rw [if_pos q4, if_neg]
          · rfl
          · rintro ⟨-, z⟩
            rw [Bool.and_eq_true, Bool.and_eq_true, decide_eq_true_eq, decide_eq_true_eq] at z
            omega
        · rw [if_neg q4, gr_e (lk_68 hL) (lr_68_0 hL), b_shl j hj, b_or S hS _ (b_pow j hj), li_e (lk_69 hL) ol (by decide), gr_e (lk_68 hL) (lr_68_0 hL), li_e (lk_69 hL) hS (by decide), si_e (lk_69 hL) ol (by decide), if_pos]
          · rfl
          · refine ⟨q1f, ?_⟩
            rw [q3, decide_eq_true q2, decide_eq_true (show mm p ≤ str j by omega)]; rfl
      · rw [if_neg q3, if_pos rfl, if_neg]
        · rfl
        · rintro ⟨-, z⟩
          rw [Bool.and_eq_true] at z
          exact q3 z.1
theorem e_addS {S : Nat} {g : St} (hW : WR M t sg kk mm str) (h69 : ∀ T, T < 64 → me_i M 69 T = nI (Zw (Ew t kk mm str) sg S 0 T)) (hS : S < 64) : ∃ g, f_X8_addStriker 68 3 (nI S) M = some (me_w M g) ∧ (∀ a z, a ≠ 69 → g a z = me_i M a z) ∧ ∀ T, T < 64 → g 69 T = nI (Zw (Ew t kk mm str) sg (S + 1) 0 T) := by
  obtain ⟨hC, hL, h3, h4, h5, h6, h7⟩ := id hW
  have h66 := cn6 S hS
  unfold f_X8_addStriker b_X8_addStriker
  rw [ck_e (lk_68 hL), cP_e (show f_J6_bitCount_0f7a4 (nI S) M = some (nI (cn S 12)) from bc_64 S hS), q_c3 hC, q_gi9 hC, show me_i M (3 + 18) 0 = nI sg from h5, i_le (by omega) (by omega)]
  by_cases hp : sg ≤ cn S 12
  · rw [if_pos hp]
    exact ⟨fun a z => me_i M a z, rfl, fun _ _ _ => rfl, fun T hT => (h69 T hT).trans (by rw [Zw_skip hT (Or.inl hp)])⟩
  · rw [if_neg hp, c_6, if_pos (nI_lt (by omega) (by omega))]
    have hlp := lp_cnt (step := fun s : Me × Int32 => s_X8_addStriker_26 68 3 (nI S) (nI (cn S 12)) s.1 s.2) 6
      (fun j s => ∃ g, s = (me_w M g, nI j) ∧ (∀ a z, a ≠ 69 → g a z = me_i M a z) ∧ ∀ T, T < 64 → g 69 T = nI (Zw (Ew t kk mm str) sg S j T))
      (fun s => ∃ g, s = (me_w M g, nI 6) ∧ (∀ a z, a ≠ 69 → g a z = me_i M a z) ∧ ∀ T, T < 64 → g 69 T = nI (Zw (Ew t kk mm str) sg S 6 T))
      ?_ ?_ (M, 0) ⟨fun a z => me_i M a z, by rw [nI_0]; rfl, fun _ _ _ => rfl, h69⟩
    · obtain ⟨x, hx, g, rfl, a1, a2⟩ := hlp
      rw [hx]
      exact ⟨g, rfl, a1, fun T hT => by rw [a2 T hT, Zw_6]⟩
    · rintro j s hj ⟨g, rfl, a1, a2⟩
      have st := e_add26 (hW.same (fun a z q => a1 a z (by omega))) hS (show cn S 12 < sg by omega) hj
      have ol : S ||| 2 ^ j < 64 := or_64 hS (b_pow j hj)
      by_cases q : S.testBit j = false ∧ Ew t kk mm str (cn S 12) j = true
      · rw [if_pos q] at st
        refine ⟨_, st, _, rfl, fun a z w => ?_, fun T hT => ?_⟩
        · show (if a = 69 ∧ z = _ then _ else g a z) = _
          rw [if_neg (by omega)]; exact a1 a z w
        · show (if 69 = 69 ∧ T = S ||| 2 ^ j then g 69 (S ||| 2 ^ j) + g 69 S else g 69 T) = _
          rw [Zw_step hT hS hj (by omega)]
          by_cases w : T = S ||| 2 ^ j
          · rw [if_pos ⟨rfl, w⟩, if_pos ⟨q, w⟩, a2 _ ol, a2 _ hS, nI_add, w]
            congr 2
            -- what lies at S is not touched
            have e : ∀ i, i ≤ 6 → Zw (Ew t kk mm str) sg S i S = Ww (Ew t kk mm str) sg S := by
              intro i
              induction i with
              | zero => intro _; exact Zw_W hS (Nat.le_refl _)
              | succ i ih =>
                intro hi
                rw [Zw_step hS hS (by omega) (by omega), if_neg (fun z => or_ne z.1.1 z.2)]
                exact ih (by omega)
            exact e j (by omega)
          · rw [if_neg (fun z => w z.2), if_neg (fun z => w z.2), a2 T hT]
      · rw [if_neg q] at st
        refine ⟨_, st, g, rfl, a1, fun T hT => ?_⟩
        rw [Zw_step hT hS hj (by omega), if_neg (fun z => q z.1)]
        exact a2 T hT
    · rintro s ⟨g, rfl, a1, a2⟩
      refine ⟨(me_w M g, nI 6), ?_, g, rfl, a1, a2⟩
      show s_X8_addStriker_26 68 3 (nI S) (nI (cn S 12)) (me_w M g) (nI 6) = _
      unfold s_X8_addStriker_26
      rw [c_6, if_pos (nI_le (Nat.le_refl _) (by omega))]
theorem e_fit17 (hW : WR M t sg kk mm str) (h69 : ∀ T, T < 64 → me_i M 69 T = nI (Zw (Ew t kk mm str) sg 0 0 T)) : ∃ g, lp (fun s : Me × Int32 => s_X8_fit_17 68 3 s.1 s.2) (M, 0) = some (me_w M g, nI 64) ∧ (∀ a z, a ≠ 69 → g a z = me_i M a z) ∧ ∀ T, T < 64 → g 69 T = nI (Ww (Ew t kk mm str) sg T) := by
  have hlp := lp_cnt (step := fun s : Me × Int32 => s_X8_fit_17 68 3 s.1 s.2) 64
    (fun S s => ∃ g, s = (me_w M g, nI S) ∧ (∀ a z, a ≠ 69 → g a z = me_i M a z) ∧ ∀ T, T < 64 → g 69 T = nI (Zw (Ew t kk mm str) sg S 0 T))
    (fun s => ∃ g, s = (me_w M g, nI 64) ∧ (∀ a z, a ≠ 69 → g a z = me_i M a z) ∧ ∀ T, T < 64 → g 69 T = nI (Zw (Ew t kk mm str) sg 64 0 T))
    ?_ ?_ (M, 0) ⟨fun a z => me_i M a z, by rw [nI_0]; rfl, fun _ _ _ => rfl, h69⟩
  · obtain ⟨x, hx, g, rfl, a1, a2⟩ := hlp
    exact ⟨g, hx, a1, fun T hT => by rw [a2 T hT, Zw_W hT (by omega)]⟩
  · rintro S s hS ⟨g, rfl, a1, a2⟩
    have hW2 : WR (me_w M g) t sg kk mm str := hW.same (fun a z q => a1 a z (by omega))
    have hL2 : Lay (me_w M g) := hW2.2.1
    have wS := Ww_le (E := Ew t kk mm str) (sg := sg) hS
    obtain ⟨u, u1, u2, u3⟩ := e_addS (M := me_w M g) (g := g) hW2 a2 hS
    by_cases q : Ww (Ew t kk mm str) sg S = 0
    · refine ⟨(me_w M g, nI (S + 1)), ?_, g, rfl, a1, fun T hT => by rw [a2 T hT, Zw_skip hT (Or.inr q)]⟩
      show s_X8_fit_17 68 3 (me_w M g) (nI S) = _
      unfold s_X8_fit_17
      simp only [let_v]
      rw [c_64, if_neg (nI_ge hS (by omega)), gr_e (lk_68 hL2) (lr_68_0 hL2), li_e (lk_69 hL2) hS (by decide), i_w, a2 S hS, Zw_W hS (Nat.le_refl _), i_le0 (by omega), if_pos q, nI_1]
      rfl
    · refine ⟨(me_w M u, nI (S + 1)), ?_, u, rfl, fun a z w => (u2 a z w).trans (a1 a z w), u3⟩
      show s_X8_fit_17 68 3 (me_w M g) (nI S) = _
      unfold s_X8_fit_17
      simp only [let_v]
      rw [c_64, if_neg (nI_ge hS (by omega)), gr_e (lk_68 hL2) (lr_68_0 hL2), li_e (lk_69 hL2) hS (by decide), i_w, a2 S hS, Zw_W hS (Nat.le_refl _), i_le0 (by omega), if_neg q, cM_e u1, nI_1]
      rfl
  · rintro s ⟨g, rfl, a1, a2⟩
    refine ⟨(me_w M g, nI 64), ?_, g, rfl, a1, a2⟩
    show s_X8_fit_17 68 3 (me_w M g) (nI 64) = _
    unfold s_X8_fit_17
    rw [c_64, if_pos (nI_le (Nat.le_refl _) (by omega))]
theorem orP_lt {P : Nat → Bool} : ∀ n, n ≤ 64 → orP P n < 64 := by
  intro n
  induction n with
  | zero => intro _; show 0 < 64; omega
  | succ n ih =>
    intro h
    show (if P n = true then orP P n ||| n else orP P n) < 64
    split
    · exact or_64 (ih (by omega)) (by omega)
    · exact ih (by omega)
theorem anP_lt {P : Nat → Bool} : ∀ n, anP P n < 64 := by
  intro n
  induction n with
  | zero => show 63 < 64; omega
  | succ n ih =>
    show (if P n = true then anP P n &&& n else anP P n) < 64
    split
    · exact Nat.lt_of_le_of_lt Nat.and_le_left ih
    · exact ih
theorem e_fit62 (hW : WR M t sg kk mm str) (h69 : ∀ T, T < 64 → me_i M 69 T = nI (Ww (Ew t kk mm str) sg T)) (r1 : me_i M 68 1 = 0) (r2 : me_i M 68 2 = 0) (r3 : me_i M 68 3 = 63) : ∃ g, lp (fun s : Me × Int32 => s_X8_fit_62 68 3 s.1 s.2) (M, 0) = some (me_w M g, nI 64) ∧ (∀ a z, a ≠ 68 → g a z = me_i M a z) ∧ g 68 1 = nI (sN (fun T => if P_w (Ew t kk mm str) sg T = true then Ww (Ew t kk mm str) sg T else 0) 64) ∧ g 68 2 = nI (orP (P_w (Ew t kk mm str) sg) 64) ∧ g 68 3 = nI (anP (P_w (Ew t kk mm str) sg) 64) := by
  have hlp := lp_cnt (step := fun s : Me × Int32 => s_X8_fit_62 68 3 s.1 s.2) 64
    (fun S s => ∃ g, s = (me_w M g, nI S) ∧ (∀ a z, a ≠ 68 → g a z = me_i M a z) ∧ g 68 1 = nI (sN (fun T => if P_w (Ew t kk mm str) sg T = true then Ww (Ew t kk mm str) sg T else 0) S) ∧ g 68 2 = nI (orP (P_w (Ew t kk mm str) sg) S) ∧ g 68 3 = nI (anP (P_w (Ew t kk mm str) sg) S))
    (fun s => ∃ g, s = (me_w M g, nI 64) ∧ (∀ a z, a ≠ 68 → g a z = me_i M a z) ∧ g 68 1 = nI (sN (fun T => if P_w (Ew t kk mm str) sg T = true then Ww (Ew t kk mm str) sg T else 0) 64) ∧ g 68 2 = nI (orP (P_w (Ew t kk mm str) sg) 64) ∧ g 68 3 = nI (anP (P_w (Ew t kk mm str) sg) 64))
    ?_ ?_ (M, 0) ⟨fun a z => me_i M a z, by rw [nI_0]; rfl, fun _ _ _ => rfl, r1.trans nI_0.symm, r2.trans nI_0.symm, r3.trans (show (63 : Int32) = nI 63 by decide +kernel)⟩
  · obtain ⟨x, hx, g, rfl, a1⟩ := hlp
    exact ⟨g, hx, a1⟩
  · rintro S s hS ⟨g, rfl, a1, a2, a3, a4⟩
    obtain ⟨hC, hL, h3, h4, h5, h6, h7⟩ := id hW
    have hL2 : Lay (me_w M g) := hL
    have hC2 : CL (me_w M g) 3 := hC
    have wS := Ww_le (E := Ew t kk mm str) (sg := sg) hS
    have cS := cn6 S hS
    have e69 : me_i (me_w M g) 69 S = nI (Ww (Ew t kk mm str) sg S) := (a1 _ _ (by omega)).trans (h69 S hS)
    have e21 : me_i (me_w M g) (3 + 18) 0 = nI sg := (a1 _ _ (by omega)).trans h5
    by_cases q : P_w (Ew t kk mm str) sg S = true
    · have q2 := q
      unfold P_w at q2
      rw [Bool.and_eq_true, decide_eq_true_eq, decide_eq_true_eq] at q2
      refine ⟨((me_si (me_si (me_si (me_w M g) 68 1 (nI (sN (fun T => if P_w (Ew t kk mm str) sg T = true then Ww (Ew t kk mm str) sg T else 0) S + Ww (Ew t kk mm str) sg S))) 68 2 (nI (orP (P_w (Ew t kk mm str) sg) S ||| S))) 68 3 (nI (anP (P_w (Ew t kk mm str) sg) S &&& S))), nI (S + 1)), ?_, fun a z => me_i (me_si (me_si (me_si (me_w M g) 68 1 (nI (sN (fun T => if P_w (Ew t kk mm str) sg T = true then Ww (Ew t kk mm str) sg T else 0) S + Ww (Ew t kk mm str) sg S))) 68 2 (nI (orP (P_w (Ew t kk mm str) sg) S ||| S))) 68 3 (nI (anP (P_w (Ew t kk mm str) sg) S &&& S))) a z, rfl, fun a z w => ?_, ?_, ?_, ?_⟩
      · show s_X8_fit_62 68 3 (me_w M g) (nI S) = _
        unfold s_X8_fit_62
        simp only [let_v]
        rw [c_64, if_neg (nI_ge hS (by omega)), gr_e (lk_68 hL2) (lr_68_0 hL2), li_e (lk_69 hL2) hS (by decide), e69, i_le0 (by omega), if_neg (by omega), cP_e (show f_J6_bitCount_0f7a4 (nI S) (me_w M g) = some (nI (cn S 12)) from bc_64 S hS), q_c3 hC2, q_gi9 hC2, e21, i_eq (by omega) (by omega), if_pos q2.2, gi_e (lk_68 hL2), gr_e (lk_68 hL2) (lr_68_0 hL2), li_e (lk_69 hL2) hS (by decide), e69, pi_e (lk_68 hL2), gi_e (by exact lk_68 hL2), pi_e (by exact lk_68 hL2), gi_e (by exact lk_68 hL2), pi_e (by exact lk_68 hL2), si_ne (by omega), si_ne (by omega), si_ne (by omega), i_w, i_w, i_w, a2, a3, a4, nI_add, b_or _ (orP_lt S (by omega)) _ hS, b_and _ (anP_lt S) _ hS, nI_1]
        rfl
      · dsimp only
        rw [si_ne (by omega), si_ne (by omega), si_ne (by omega), i_w]; exact a1 a z w
      · dsimp only
        rw [si_ne (by omega), si_ne (by omega), si_self, sN_s, if_pos q]
      · dsimp only
        rw [si_ne (by omega), si_self]
        show _ = nI (if P_w (Ew t kk mm str) sg S = true then _ else _)
        rw [if_pos q]
      · dsimp only
        rw [si_self]
        show _ = nI (if P_w (Ew t kk mm str) sg S = true then _ else _)
        rw [if_pos q]
    · refine ⟨(me_w M g, nI (S + 1)), ?_, g, rfl, a1, ?_, ?_, ?_⟩
      · show s_X8_fit_62 68 3 (me_w M g) (nI S) = _
        unfold s_X8_fit_62
        simp only [let_v]
        rw [c_64, if_neg (nI_ge hS (by omega)), gr_e (lk_68 hL2) (lr_68_0 hL2), li_e (lk_69 hL2) hS (by decide), e69, i_le0 (by omega), cP_e (show f_J6_bitCount_0f7a4 (nI S) (me_w M g) = some (nI (cn S 12)) from bc_64 S hS), q_c3 hC2, q_gi9 hC2, e21, i_eq (by omega) (by omega), nI_1]
        by_cases q2 : Ww (Ew t kk mm str) sg S = 0
        · rw [if_pos q2]; rfl
        · rw [if_neg q2, if_neg]
          · rfl
          · intro q3
            apply q
            unfold P_w
            rw [decide_eq_true (show 0 < Ww (Ew t kk mm str) sg S by omega), decide_eq_true q3]; rfl
      · rw [sN_s, if_neg q]; exact a2
      · show _ = nI (if P_w (Ew t kk mm str) sg S = true then _ else _)
        rw [if_neg q]; exact a3
      · show _ = nI (if P_w (Ew t kk mm str) sg S = true then _ else _)
        rw [if_neg q]; exact a4
  · rintro s ⟨g, rfl, a1, a2⟩
    refine ⟨(me_w M g, nI 64), ?_, g, rfl, a1, a2⟩
    show s_X8_fit_62 68 3 (me_w M g) (nI 64) = _
    unfold s_X8_fit_62
    rw [c_64, if_pos (nI_le (Nat.le_refl _) (by omega))]
theorem e_fit (hW : WR M t sg kk mm str) : ∃ g, f_X8_fit 68 3 M = some (me_w M g) ∧ (∀ a z, a ≠ 68 → a ≠ 69 → g a z = me_i M a z) ∧ g 68 1 = nI (sN (fun T => if P_w (Ew t kk mm str) sg T = true then Ww (Ew t kk mm str) sg T else 0) 64) ∧ g 68 2 = nI (orP (P_w (Ew t kk mm str) sg) 64) ∧ g 68 3 = nI (anP (P_w (Ew t kk mm str) sg) 64 &&& orP (P_w (Ew t kk mm str) sg) 64) := by
  have hL := hW.2.1
  have eF := e_fill (M := M) (a := 69) (n := 64) (v := 0) (lk_69 hL) (by omega)
  obtain ⟨g1, p1, p2, p3⟩ := e_fit17 (M := me_w M (fun a z => if a = 69 ∧ z = 0 then 1 else if a = 69 ∧ z < 64 then 0 else me_i M a z)) (t := t) (sg := sg) (kk := kk) (mm := mm) (str := str) (hW.same (fun a z q => by rw [if_neg (by omega), if_neg (by omega)])) (fun T hT => by
    rw [Zw_0, i_w]
    by_cases q : T = 0
    · rw [if_pos ⟨rfl, q⟩, if_pos q]; rfl
    · rw [if_neg (fun z => q z.2), if_pos ⟨rfl, hT⟩, if_neg q, nI_0])
  rw [w_w] at p1
  have q2 : ∀ a z, a ≠ 69 → g1 a z = me_i M a z := fun a z w => by rw [p2 a z w, i_w, if_neg (by omega), if_neg (by omega)]
  obtain ⟨g2, s1, s2, s3, s4, s5⟩ := e_fit62 (M := me_w M (fun a z => me_i (me_si (me_si (me_si (me_w M g1) 68 1 0) 68 2 0) 68 3 63) a z)) (t := t) (sg := sg) (kk := kk) (mm := mm) (str := str) (hW.same (fun a z w => by rw [si_ne (by omega), si_ne (by omega), si_ne (by omega), i_w, q2 _ _ (by omega)])) (fun T hT => by rw [i_w, si_ne (by omega), si_ne (by omega), si_ne (by omega), i_w]; exact p3 T hT) (by rw [i_w, si_ne (by omega), si_ne (by omega), si_self]) (by rw [i_w, si_ne (by omega), si_self]) (by rw [i_w, si_self])
  rw [w_w] at s1
  have a64 := anP_lt (P := P_w (Ew t kk mm str) sg) 64
  have o64 := orP_lt (P := P_w (Ew t kk mm str) sg) 64 (Nat.le_refl _)
  refine ⟨fun a z => me_i (me_si (me_w M g2) 68 3 (nI (anP (P_w (Ew t kk mm str) sg) 64 &&& orP (P_w (Ew t kk mm str) sg) 64))) a z, ?_, fun a z w1 w2 => ?_, ?_, ?_, ?_⟩
  · unfold f_X8_fit b_X8_fit
    have e0 : si (me_w M (fun x y => if x = 69 ∧ y < 64 then 0 else me_i M x y)) 69 0 1 = fun Kf => (Kf (me_w M (fun a z => if a = 69 ∧ z = 0 then 1 else if a = 69 ∧ z < 64 then 0 else me_i M a z)) : Option Me) := by
      funext Kf
      rw [c_0, si_e (lk_69 (by exact hL)) (by omega) (by decide)]; rfl
    rw [ck_e (lk_68 hL), gr_e (lk_68 hL) (lr_68_0 hL), cM_e eF, gr_e (by exact lk_68 hL) (by exact lr_68_0 hL), e0]
    dsimp only
    rw [p1]
    simp only [Option.bind_some]
    rw [pi_e (by exact lk_68 hL), pi_e (by exact lk_68 hL), pi_e (by exact lk_68 hL)]
    rw [show me_si (me_si (me_si (me_w M g1) 68 1 0) 68 2 0) 68 3 63 = me_w M (fun a z => me_i (me_si (me_si (me_si (me_w M g1) 68 1 0) 68 2 0) 68 3 63) a z) from rfl, s1]
    simp only [Option.bind_some]
    rw [gi_e (by exact lk_68 hL), gi_e (by exact lk_68 hL), pi_e (by exact lk_68 hL), i_w, i_w, s4, s5, b_and _ a64 _ o64]
    rfl
  · dsimp only
    rw [si_ne (by omega), i_w, s2 _ _ w1, i_w, si_ne (by omega), si_ne (by omega), si_ne (by omega), i_w, q2 _ _ w2]
  · dsimp only
    rw [si_ne (by omega), i_w]; exact s3
  · dsimp only
    rw [si_ne (by omega), i_w]; exact s4
  · exact si_self
/-! the reference -/
def WM (M : Me) (t sg : Nat) (kk mm str : Nat → Nat) : Prop := Lay M ∧ t < 64 ∧ sg ≤ 6 ∧ me_i M 70 3 = nI t ∧ me_i M 70 6 = nI sg ∧ (∀ j, j < sg → me_i M 74 (2 * j) = nI (kk j) ∧ kk j < 6 ∧ me_i M 74 (2 * j + 1) = nI (mm j) ∧ mm j ≤ 20) ∧ ∀ k, k < 6 → t.testBit k = true → me_i M 72 k = nI (str k) ∧ str k ≤ 20
theorem vst_up {E : Nat → Nat → Bool} {c : Nat} : ∀ d p, vst E c p = none → vst E c (p + d) = none := by
  intro d
  induction d with
  | zero => intro p h; exact h
  | succ d ih => intro p h; exact vst_n (ih p h)
theorem e_code {c : Nat} (hW : WM M t sg kk mm str) (hc6 : c < 46656) : ∀ f j S, j + f = sg → vst (Ew t kk mm str) c j = some S → ∃ z : Int32 × Int32 × Int32 × Int32, lp (fun s : Int32 × Int32 × Int32 × Int32 => s_X12_who_66 70 M s.1 s.2.1 s.2.2.1 s.2.2.2) (nI (c / 6 ^ j), nI S, 1, nI j) = some z ∧ ((∃ T, vst (Ew t kk mm str) c sg = some T ∧ z.2.1 = nI T ∧ z.2.2.1 = 1) ∨ (vst (Ew t kk mm str) c sg = none ∧ z.2.2.1 = 0)) := by
  obtain ⟨hL, ht, hsg, h3, h6, hS, hK⟩ := hW
  intro f
  induction f with
  | zero =>
    intro j S hj hv
    have hj2 : j = sg := by omega
    refine ⟨(nI (c / 6 ^ j), nI S, 1, nI j), ?_, Or.inl ⟨S, by rw [← hj2]; exact hv, rfl, rfl⟩⟩
    rw [lp_eq]
    show (s_X12_who_66 70 M (nI (c / 6 ^ j)) (nI S) 1 (nI j)).bind _ = _
    unfold s_X12_who_66
    rw [m_gi hL, h6, if_pos (nI_le (by omega) (by omega))]; rfl
  | succ f ih =>
    intro j S hj hv
    have hS64 := vst_lt _ _ hv
    obtain ⟨a1, a2, a3, a4⟩ := hS j (by omega)
    have hd : c / 6 ^ j % 6 < 6 := Nat.mod_lt _ (by omega)
    have hq : c / 6 ^ j ≤ c := Nat.div_le_self _ _
    have hdd : c / 6 ^ j / 6 = c / 6 ^ (j + 1) := by rw [Nat.div_div_eq_div_mul, Nat.pow_succ]
    have ix2 : (2 : Int32) * nI j = nI (2 * j) := by rw [c_2, pk_mul]
    have step : s_X12_who_66 70 M (nI (c / 6 ^ j)) (nI S) 1 (nI j) = some (Sum.inl (nI (c / 6 ^ (j + 1)), nI (S ||| 2 ^ (c / 6 ^ j % 6)), (if (Ew t kk mm str j (c / 6 ^ j % 6) && ! S.testBit (c / 6 ^ j % 6)) = true then 1 else 0), nI (j + 1))) := by
      unfold s_X12_who_66 Ew
      simp only [let_v]
      rw [m_gi hL, h6, if_neg (nI_ge (by omega) (by omega)), if_neg (show ¬ (1 : Int32) = 0 by decide), c_6, pk_rem (by omega) (by omega) (by omega), pk_div (by omega) (by omega) (by omega), hdd, cP_e (e_isThere (lk_70 hL) h3 ht), tv_k hd, ix2, b_shl _ hd, b_or _ hS64 _ (b_pow _ hd), nI_1, nI_1]
      generalize c / 6 ^ j % 6 = d at hd
      by_cases q1 : t.testBit d = true
      · obtain ⟨k1, k2⟩ := hK d hd q1
        rw [if_pos q1, if_neg (show ¬ (1 : Int32) = 0 by decide), m_gr7 hL, m_li74 hL (by omega), a1, i_eq (by omega) (by omega), q1, Bool.true_and]
        by_cases q2 : d = kk j
        · rw [if_pos q2, decide_eq_false (show ¬ d ≠ kk j from fun z => z q2), Bool.false_and, Bool.false_and]; rfl
        · rw [if_neg q2, m_gr4 hL, m_li72 hL hd, k1, m_gr7 hL, m_li74 hL (by omega), a3, i_lt (by omega) (by omega), decide_eq_true q2, Bool.true_and]
          by_cases q3 : str d < mm j
          · rw [if_pos q3, decide_eq_false (show ¬ mm j ≤ str d by omega), Bool.false_and]; rfl
          · rw [if_neg q3, decide_eq_true (show mm j ≤ str d by omega), Bool.true_and, cP_e (e_has hS64 hd)]
            by_cases q4 : S.testBit d = true
            · rw [if_pos q4, if_neg (show ¬ (1 : Int32) = 0 by decide), q4]; rfl
            · rw [if_neg q4, if_pos rfl, Bool.eq_false_iff.mpr q4]; rfl
      · rw [if_neg q1, if_pos rfl, Bool.eq_false_iff.mpr q1, Bool.false_and, Bool.false_and]; rfl
    by_cases w : (Ew t kk mm str j (c / 6 ^ j % 6) && ! S.testBit (c / 6 ^ j % 6)) = true
    · rw [if_pos w] at step
      have hv2 : vst (Ew t kk mm str) c (j + 1) = some (S ||| 2 ^ (c / 6 ^ j % 6)) := by rw [vst_s hv, if_pos w]
      obtain ⟨z, z1, z2⟩ := ih (j + 1) _ (by omega) hv2
      refine ⟨z, ?_, z2⟩
      rw [lp_eq]
      show (s_X12_who_66 70 M (nI (c / 6 ^ j)) (nI S) 1 (nI j)).bind _ = _
      rw [step]
      exact z1
    · rw [if_neg w] at step
      have hv2 : vst (Ew t kk mm str) c (j + 1) = none := by rw [vst_s hv, if_neg w]
      have hv3 : vst (Ew t kk mm str) c sg = none := by
        have := vst_up f (j + 1) hv2
        rwa [show j + 1 + f = sg by omega] at this
      refine ⟨(nI (c / 6 ^ (j + 1)), nI (S ||| 2 ^ (c / 6 ^ j % 6)), 0, nI (j + 1)), ?_, Or.inr ⟨hv3, rfl⟩⟩
      rw [lp_eq]
      show (s_X12_who_66 70 M (nI (c / 6 ^ j)) (nI S) 1 (nI j)).bind _ = _
      rw [step]
      show lp _ (nI (c / 6 ^ (j + 1)), nI (S ||| 2 ^ (c / 6 ^ j % 6)), 0, nI (j + 1)) = _
      rw [lp_eq]
      show (s_X12_who_66 70 M (nI (c / 6 ^ (j + 1))) (nI (S ||| 2 ^ (c / 6 ^ j % 6))) 0 (nI (j + 1))).bind _ = _
      unfold s_X12_who_66
      rw [m_gi hL, if_pos rfl]
      split <;> rfl
theorem nv_le {v : Nat → Option Nat} : ∀ n, nv v n ≤ n := by
  intro n
  induction n with
  | zero => exact Nat.le_refl _
  | succ n ih => show nv v n + _ ≤ _; split <;> omega
theorem orC_lt {v : Nat → Option Nat} (hv : ∀ c T, v c = some T → T < 64) : ∀ n, orC v n < 64 := by
  intro n
  induction n with
  | zero => show 0 < 64; omega
  | succ n ih =>
    cases q : v n with
    | none => rw [orC_n q]; exact ih
    | some T => rw [orC_s q]; exact or_64 ih (hv n T q)
theorem anC_lt {v : Nat → Option Nat} : ∀ n, anC v n < 64 := by
  intro n
  induction n with
  | zero => show 63 < 64; omega
  | succ n ih =>
    cases q : v n with
    | none => rw [anC_n q]; exact ih
    | some T => rw [anC_s q]; exact Nat.lt_of_le_of_lt Nat.and_le_left ih
theorem e_who16 (hW : WM M t sg kk mm str) : lp (fun s : Int32 × Int32 => s_X12_who_16 70 M s.1 s.2) (1, 0) = some (nI (6 ^ sg), nI sg) := by
  obtain ⟨hL, ht, hsg, h3, h6, -, -⟩ := hW
  have h := lp_up (step := fun s : Int32 × Int32 => s_X12_who_16 70 M s.1 s.2) (fun j => (nI (6 ^ j), nI j)) sg (nI (6 ^ sg), nI sg) ?_ ?_ 0 (by omega)
  · rw [show ((1 : Int32), (0 : Int32)) = (nI (6 ^ 0), nI 0) by rw [nI_0]; rfl, h]
  · intro j hj
    show s_X12_who_16 70 M (nI (6 ^ j)) (nI j) = _
    unfold s_X12_who_16
    simp only [let_v]
    rw [m_gi hL, h6, if_neg (nI_ge hj (by omega)), c_6, pk_mul, nI_1, Nat.pow_succ]
  · show s_X12_who_16 70 M (nI (6 ^ sg)) (nI sg) = _
    unfold s_X12_who_16
    rw [m_gi hL, h6, if_pos (nI_le (Nat.le_refl _) (by omega))]
theorem e_who47 {e : Int32 × Int32} (hW : WM M t sg kk mm str) (he : e.1 = nI (6 ^ sg)) : lp (fun s : Int32 × Int32 × Int32 × Int32 => s_X12_who_47 70 M e s.1 s.2.1 s.2.2.1 s.2.2.2) (0, 0, 63, 0) = some (nI (nv (fun c => vst (Ew t kk mm str) c sg) (6 ^ sg)), nI (orC (fun c => vst (Ew t kk mm str) c sg) (6 ^ sg)), nI (anC (fun c => vst (Ew t kk mm str) c sg) (6 ^ sg)), nI (6 ^ sg)) := by
  have hp := p6_le hW.2.2.1
  have hvl : ∀ c T, vst (Ew t kk mm str) c sg = some T → T < 64 := fun c T h => vst_lt _ _ h
  have h := lp_up (step := fun s : Int32 × Int32 × Int32 × Int32 => s_X12_who_47 70 M e s.1 s.2.1 s.2.2.1 s.2.2.2) (fun n => (nI (nv (fun c => vst (Ew t kk mm str) c sg) n), nI (orC (fun c => vst (Ew t kk mm str) c sg) n), nI (anC (fun c => vst (Ew t kk mm str) c sg) n), nI n)) (6 ^ sg) (nI (nv (fun c => vst (Ew t kk mm str) c sg) (6 ^ sg)), nI (orC (fun c => vst (Ew t kk mm str) c sg) (6 ^ sg)), nI (anC (fun c => vst (Ew t kk mm str) c sg) (6 ^ sg)), nI (6 ^ sg)) ?_ ?_ 0 (Nat.zero_le _)
  · rw [show ((0 : Int32), (0 : Int32), (63 : Int32), (0 : Int32)) = (nI (nv (fun c => vst (Ew t kk mm str) c sg) 0), nI (orC (fun c => vst (Ew t kk mm str) c sg) 0), nI (anC (fun c => vst (Ew t kk mm str) c sg) 0), nI 0) by rw [nI_0]; rfl, h]
  · intro n hn
    show s_X12_who_47 70 M e (nI (nv (fun c => vst (Ew t kk mm str) c sg) n)) (nI (orC (fun c => vst (Ew t kk mm str) c sg) n)) (nI (anC (fun c => vst (Ew t kk mm str) c sg) n)) (nI n) = some (Sum.inl (nI (nv (fun c => vst (Ew t kk mm str) c sg) n + (if vst (Ew t kk mm str) n sg = none then 0 else 1)), nI (orC (fun c => vst (Ew t kk mm str) c sg) (n + 1)), nI (anC (fun c => vst (Ew t kk mm str) c sg) (n + 1)), nI (n + 1)))
    obtain ⟨z, z1, z2⟩ := e_code (c := n) hW (by omega) sg 0 0 (by omega) rfl
    rw [Nat.pow_zero, Nat.div_one, nI_0] at z1
    unfold s_X12_who_47
    simp only [let_v]
    rw [he, if_neg (nI_ge hn (by omega)), z1]
    simp only [Option.bind_some]
    rcases z2 with ⟨T, v1, v2, v3⟩ | ⟨v1, v3⟩
    · have hT := vst_lt _ _ v1
      rw [v3, if_neg (show ¬ (1 : Int32) = 0 by decide), v2, v1, if_neg (fun y => by cases y), orC_s (v := fun c => vst (Ew t kk mm str) c sg) v1, anC_s (v := fun c => vst (Ew t kk mm str) c sg) v1, ← b_or _ (orC_lt hvl n) _ hT, ← b_and _ (anC_lt n) _ hT, ← nI_1, ← nI_1]
      rfl
    · rw [← nI_1, v3, if_pos rfl, v1, if_pos rfl, orC_n (v := fun c => vst (Ew t kk mm str) c sg) v1, anC_n (v := fun c => vst (Ew t kk mm str) c sg) v1]
      rfl
  · show s_X12_who_47 70 M e _ _ _ (nI (6 ^ sg)) = _
    unfold s_X12_who_47
    rw [he, if_pos (nI_le (Nat.le_refl _) (by omega))]
end WC
theorem iv_op24 : ∀ n M, n < 512 → Iv n M → op_24 (Iv (n + 1)) M := by
  intro n M hn h x1
  obtain ⟨hL, hlen, ⟨hCL, π, hCP, c0, y, t, D, nd, sg, hV, hR⟩, hJ, hP, hI⟩ := id h
  by_cases hx : in_v x1 0 2 = 0
  · refine ⟨-2, M, ?_, ?_, h.next hn⟩
    · unfold f_X11_who b_X11_who
      rw [ck_e (lk_0 hL), cP_e (e_isWithin _ _ _ _), if_pos hx]
    · unfold f_X12_who b_X12_who
      rw [ck_e (lk_70 hL), cP_e (e_in _ _ _ _), if_pos hx]
  have hsg := hV.1.2.2.2.2.2
  have ht := hV.1.2.2.1
  have hs : ∀ j, j < sg → st_m M 74 (2 * j) = nI (st_m M 74 (2 * j)).toNatClampNeg ∧ (st_m M 74 (2 * j)).toNatClampNeg < 6 ∧ st_m M 74 (2 * j + 1) = nI (st_m M 74 (2 * j + 1)).toNatClampNeg ∧ (st_m M 74 (2 * j + 1)).toNatClampNeg ≤ 20 := by
    intro j hj
    obtain ⟨k, m, q1, q2, q3, q4, q5⟩ := hV.2.2.2.2 j hj
    have f1 := cl_n q1 (by omega)
    have f2 := cl_n q3 (by omega)
    exact ⟨f1.2, by rw [f1.1]; exact q2, f2.2, by rw [f2.1]; exact q5⟩
  have hk : ∀ k, k < 6 → t.testBit k = true → st_m M 72 k = nI (st_m M 72 k).toNatClampNeg ∧ (st_m M 72 k).toNatClampNeg ≤ 20 := by
    intro k hk6 hb
    obtain ⟨s, q1, q2, q3⟩ := (hV.2.2.1 k hk6 hb).1
    have f1 := cl_n q1 (by omega)
    exact ⟨f1.2, by rw [f1.1]; exact q3⟩
  have hWR : WR M t sg (fun j => (st_m M 74 (2 * j)).toNatClampNeg) (fun j => (st_m M 74 (2 * j + 1)).toNatClampNeg) (fun k => (st_m M 72 k).toNatClampNeg) := by
    refine ⟨hCL, hL, ht.2, hsg.2, hR.2.2.2.2.1.1.trans hsg.1, fun j hj => ?_, fun k hk6 => ⟨(hR.2.1 k hk6).1, fun hb => ?_⟩⟩
    · obtain ⟨q1, q2, q3, q4⟩ := hs j hj
      obtain ⟨r1, r2⟩ := hR.2.2.2.2.1.2 j hj
      exact ⟨r1.trans q1, q2, r2.trans q3, q4⟩
    · exact ⟨((hR.2.1 k hk6).2 hb).2.1.trans (hk k hk6 hb).1, (hk k hk6 hb).2⟩
  obtain ⟨g, g1, g2, g3, g4, g5⟩ := e_fit hWR
  have hLg : Lay (me_w M g) := hL
  have sg2 : ∀ a z, 70 ≤ a → me_i (me_w M g) a z = st_m M a z := fun a z q => g2 a z (by omega) (by omega)
  have hWM : WM (me_w M g) t sg (fun j => (st_m M 74 (2 * j)).toNatClampNeg) (fun j => (st_m M 74 (2 * j + 1)).toNatClampNeg) (fun k => (st_m M 72 k).toNatClampNeg) := by
    refine ⟨hLg, ht.2, hsg.2, (sg2 _ _ (by omega)).trans ht.1, (sg2 _ _ (by omega)).trans hsg.1, fun j hj => ?_, fun k hk6 hb => ?_⟩
    · rw [sg2 _ _ (by omega), sg2 _ _ (by omega)]; exact hs j hj
    · rw [sg2 _ _ (by omega)]; exact hk k hk6 hb
  have m1 := e_who16 hWM
  have m2 := e_who47 (e := (nI (6 ^ sg), nI sg)) hWM rfl
  obtain ⟨w1, w2, w3⟩ := who_eq (E := Ew t (fun j => (st_m M 74 (2 * j)).toNatClampNeg) (fun j => (st_m M 74 (2 * j + 1)).toNatClampNeg) (fun k => (st_m M 72 k).toNatClampNeg)) (sg := sg)
  have nl := nv_le (v := fun c => vst (Ew t (fun j => (st_m M 74 (2 * j)).toNatClampNeg) (fun j => (st_m M 74 (2 * j + 1)).toNatClampNeg) (fun k => (st_m M 72 k).toNatClampNeg)) c sg) (6 ^ sg)
  have p6 := p6_le hsg.2
  rw [← w1] at g3
  rw [← w2] at g4
  rw [← w3] at g5
  refine ⟨if x1 = 0 then me_i (me_w M g) 68 1 else if x1 = 1 then me_i (me_w M g) 68 2 else me_i (me_w M g) 68 3, me_w M g, ?_, ?_, (h.next hn).same rfl (fun _ _ _ => rfl) hJ (fun a k q => g2 a k (by omega) (by omega))⟩
  · unfold f_X11_who b_X11_who
    rw [ck_e (lk_0 hL), cP_e (e_isWithin _ _ _ _), if_neg hx, gr_e (lk_0 hL) (lr_0_6 hL), gr_e (lk_0 hL) (lr_0_1 hL), cM_e g1]
    rw [gr_e (lk_0 hLg) (lr_0_6 hLg), gi_e (lk_68 hLg)]
    by_cases q0 : x1 = 0
    · rw [if_pos q0, if_pos q0]
    rw [if_neg q0, if_neg q0]
    by_cases q1 : x1 = 1
    · rw [if_pos q1, if_pos q1, gr_e (lk_0 hLg) (lr_0_6 hLg), gi_e (lk_68 hLg)]; rfl
    · rw [if_neg q1, if_neg q1, gr_e (lk_0 hLg) (lr_0_6 hLg), gi_e (lk_68 hLg)]; rfl
  · unfold f_X12_who b_X12_who
    rw [ck_e (lk_70 hLg), cP_e (e_in _ _ _ _), if_neg hx, m1]
    simp only [Option.bind_some]
    rw [m2]
    simp only [Option.bind_some]
    rw [i_w, i_w, i_w, g3, g4, g5, i_eq0 (by omega)]
    by_cases q0 : x1 = 0
    · rw [if_pos q0, if_pos q0]; rfl
    rw [if_neg q0, if_neg q0]
    by_cases q1 : x1 = 1
    · rw [if_pos q1, if_pos q1]; rfl
    rw [if_neg q1, if_neg q1]
    by_cases q2 : nv (fun c => vst (Ew t (fun j => (st_m M 74 (2 * j)).toNatClampNeg) (fun j => (st_m M 74 (2 * j + 1)).toNatClampNeg) (fun k => (st_m M 72 k).toNatClampNeg)) c sg) (6 ^ sg) = 0
    · rw [if_pos q2, if_pos q2, nI_0]; rfl
    · rw [if_neg q2, if_neg q2]; rfl

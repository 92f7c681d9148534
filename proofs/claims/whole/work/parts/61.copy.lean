/-! a court is copied -/
theorem lp_cnt {S E : Type} {step : S → Option (S ⊕ E)} (n : Nat) (I : Nat → S → Prop) (P : E → Prop) (hs : ∀ k s, k < n → I k s → ∃ t, step s = some (.inl t) ∧ I (k + 1) t) (he : ∀ s, I n s → ∃ x, step s = some (.inr x) ∧ P x) : ∀ s, I 0 s → ∃ x, lp step s = some x ∧ P x := by
  have key : ∀ d k s, k + d = n → I k s → ∃ x, lp step s = some x ∧ P x := by
    intro d
    induction d with
    | zero =>
      intro k s hk hI
      obtain rfl : k = n := by omega
      obtain ⟨x, h1, h2⟩ := he s hI
      exact ⟨x, by rw [lp_eq, h1]; rfl, h2⟩
    | succ d ih =>
      intro k s hk hI
      obtain ⟨t, h1, h2⟩ := hs k s (by omega) hI
      obtain ⟨x, h3, h4⟩ := ih (k + 1) t (by omega) h2
      exact ⟨x, by rw [lp_eq, h1]; exact h3, h4⟩
  exact fun s h => key n 0 s (by omega) h
theorem ac_e {β : Type} {M : Me} {a0 a n m : Nat} {Kf : Me → Option β} (h0 : me_k M a0 = some (20, m)) (h1 : me_k M a = some (20, m)) (hn : n ≤ m) (hm : m < 1000) : ac M a0 0 a 0 (nI n) Kf = Kf (me_w M (fun x y => if x = a ∧ y < n then me_i M a0 y else me_i M x y)) := by
  unfold ac
  rw [ln_e h0, ln_e h1]
  simp only [Option.bind_some]
  have e0 : (0 : Int32).toNatClampNeg = 0 := by decide +kernel
  rw [if_neg, nI_clamp (by omega), e0]
  · congr 1
    unfold me_cp me_w
    congr 2
    funext x y
    unfold va_cpy
    by_cases hx : x = a
    · subst hx
      simp only [if_true, true_and, Nat.zero_le, Nat.zero_add, Nat.sub_zero]
      rfl
    · simp [hx]; rfl
  · rw [nI_clamp (by omega), e0]
    rintro (q | q | q | q | q)
    · revert q; decide +kernel
    · revert q; decide +kernel
    · exact nI_pos (by omega) q
    · omega
    · omega
/-- what a court tells, but for nobody -/
def Rpn (M : Me) (c : Nat) (π : Nat → Nat) (st : St) (t nd sg : Nat) : Prop :=
  (me_i M (c + 1) 0 = st 70 0 ∧ me_i M (c + 1) 1 = st 70 2 ∧ ∀ i, i < 25 → me_i M (c + 2) i = st 71 i) ∧
  (∀ k, k < 6 → me_i M (c + 22 + k) 0 = (if t.testBit k = true then 1 else 0) ∧ (t.testBit k = true → me_i M (c + 22 + k) 1 = st 73 k ∧ me_i M (c + 22 + k) 2 = st 72 k ∧ me_i M (c + 22 + k) 3 = st 77 k ∧ me_i M (c + 22 + k) 4 = st 78 k ∧ me_i M (c + 22 + k) 5 = st 75 k ∧ me_i M (c + 22 + k) 6 = st 76 k)) ∧
  (me_i M (c + 4) 0 = st 70 13 ∧ ∀ i, i < nd → me_i M (c + 6 + π i) 0 = st 79 (4 * i) ∧ me_i M (c + 6 + π i) 1 = st 79 (4 * i + 1) ∧ me_i M (c + 6 + π i) 2 = st 79 (4 * i + 2) ∧ me_i M (c + 6 + π i) 3 = st 79 (4 * i + 3) ∧ me_i M (c + 6 + π i) 4 = 0) ∧
  (me_i M (c + 18) 0 = st 70 6 ∧ ∀ i, i < sg → me_i M (c + 19) i = st 74 (2 * i) ∧ me_i M (c + 20) i = st 74 (2 * i + 1)) ∧
  me_i M c 5 = st 70 8
theorem Rep.pn {M : Me} {c : Nat} {π : Nat → Nat} {st : St} {t nd sg : Nat} (h : Rep M c π st t nd sg) : Rpn M c π st t nd sg := ⟨h.1, h.2.1, h.2.2.2⟩
theorem Rpn.rep {M : Me} {c : Nat} {π : Nat → Nat} {st : St} {t nd sg : Nat} (h : Rpn M c π st t nd sg) (h0 : me_i M (c + 21) 0 = 0) : Rep M c π st t nd sg := ⟨h.1, h.2.1, h0, h.2.2⟩
theorem e_kcopy {M : Me} {a b : Nat} (ha : me_k M a = some (4, 7)) (hb : me_k M b = some (4, 7)) (hab : a ≠ b) (h01 : me_i M b 0 = 0 ∨ me_i M b 0 = 1) : f_X4_copy a b M = some (me_w M (fun x y => if x = a ∧ y < 7 then me_i M b y else me_i M x y)) := by
  unfold f_X4_copy b_X4_copy
  have e : ∀ {N : Me} {k : Nat} {v : Int32} {y : Nat}, me_i (me_si N a k v) b y = me_i N b y := by
    intro N k v y
    rw [i_si, if_neg (by omega)]
  rw [ck_e ha, gi_e hb, pz_e ha h01, gi_e (by exact hb), pi_e (by exact ha), gi_e (by exact hb), pi_e (by exact ha), gi_e (by exact hb), pi_e (by exact ha), gi_e (by exact hb), pi_e (by exact ha), gi_e (by exact hb), pi_e (by exact ha), gi_e (by exact hb), pi_e (by exact ha)]
  simp only [e]
  unfold me_w
  congr 1
  unfold me_si
  congr 2
  funext x y
  by_cases hx : x = a
  · subst hx
    simp only [true_and]
    match y with
    | 0 => rfl
    | 1 => rfl
    | 2 => rfl
    | 3 => rfl
    | 4 => rfl
    | 5 => rfl
    | 6 => rfl
    | y + 7 =>
      rw [if_neg (by omega), if_neg (by omega), if_neg (by omega), if_neg (by omega), if_neg (by omega), if_neg (by omega), if_neg (by omega), if_neg (by omega)]
      rfl
  · simp [hx]; rfl
theorem e_dset {M : Me} {a : Nat} {v0 v1 v2 v3 : Int32} (ha : me_k M a = some (1, 5)) : f_X1_set a v0 v1 v2 v3 M = some (me_w M (fun x y => if x = a ∧ y < 5 then (if y = 0 then v0 else if y = 1 then v1 else if y = 2 then v2 else if y = 3 then v3 else 0) else me_i M x y)) := by
  unfold f_X1_set b_X1_set
  rw [ck_e ha, pi_e ha, pi_e (by exact ha), pi_e (by exact ha), pi_e (by exact ha), pz_e (by exact ha) (Or.inl rfl)]
  unfold me_w
  congr 1
  unfold me_si
  congr 2
  funext x y
  by_cases hx : x = a
  · subst hx
    simp only [true_and]
    match y with
    | 0 => rfl
    | 1 => rfl
    | 2 => rfl
    | 3 => rfl
    | 4 => rfl
    | y + 5 =>
      rw [if_neg (by omega), if_neg (by omega), if_neg (by omega), if_neg (by omega), if_neg (by omega), if_neg (by omega)]
      rfl
  · simp [hx]; rfl
/-- Debts.copy -/
theorem e_dcopy {M : Me} {a b nd : Nat} {πa πb : Nat → Nat} (hA : CL M a) (hB : CL M b) (pA : CP M a πa) (pB : CP M b πb) (hd : a + 28 ≤ b ∨ b + 28 ≤ a) (hn : me_i M (b + 4) 0 = nI nd) (hnd : nd ≤ 12) :
    ∃ g, f_X2_copy (a + 4) (b + 4) M = some (me_w M g) ∧ (∀ x y, (x < a + 4 ∨ a + 18 ≤ x) → g x y = me_i M x y) ∧ g (a + 4) 0 = nI nd ∧ ∀ i, i < nd → ∀ y, y < 5 → g (a + 6 + πa i) y = if y = 4 then 0 else me_i M (b + 6 + πb i) y := by
  unfold f_X2_copy b_X2_copy
  rw [q_ck2 hA, q_gi2 hB, q_pi2 hA, hn]
  have hlp := lp_cnt (step := fun s : Me × Int32 => s_X2_copy_10 (a + 4) (b + 4) s.1 s.2) nd
    (fun j s => ∃ g, s = (me_w M g, nI j) ∧ (∀ x y, (x < a + 4 ∨ a + 18 ≤ x) → g x y = me_i M x y) ∧ g (a + 4) 0 = nI nd ∧ ∀ i, i < j → ∀ y, y < 5 → g (a + 6 + πa i) y = if y = 4 then 0 else me_i M (b + 6 + πb i) y)
    (fun x => ∃ g, x = (me_w M g, nI nd) ∧ (∀ x y, (x < a + 4 ∨ a + 18 ≤ x) → g x y = me_i M x y) ∧ g (a + 4) 0 = nI nd ∧ ∀ i, i < nd → ∀ y, y < 5 → g (a + 6 + πa i) y = if y = 4 then 0 else me_i M (b + 6 + πb i) y)
    ?_ ?_ (me_si M (a + 4) 0 (nI nd), 0) ?_
  · obtain ⟨x, hx, g, hg, h1⟩ := hlp
    refine ⟨g, ?_, h1⟩
    rw [hx, hg]; rfl
  · rintro j s hj ⟨g, rfl, g1, g2, g3⟩
    have hA2 : CL (me_w M g) a := hA
    have hB2 : CL (me_w M g) b := hB
    have pA2 : CP (me_w M g) a πa := pA
    have pB2 : CP (me_w M g) b πb := pB
    have hpa := (pA.1 j (by omega)).1
    have hpb := (pB.1 j (by omega)).1
    have n1 : ¬ (12 : Int32) ≤ nI j := by rw [c_12]; exact nI_ge (by omega) (by omega)
    have n2 : ¬ nI nd ≤ nI j := nI_ge hj (by omega)
    refine ⟨(me_w M (fun x y => if x = a + 6 + πa j ∧ y < 5 then (if y = 0 then g (b + 6 + πb j) 0 else if y = 1 then g (b + 6 + πb j) 1 else if y = 2 then g (b + 6 + πb j) 2 else if y = 3 then g (b + 6 + πb j) 3 else 0) else g x y), nI (j + 1)), ?_, _, rfl, ?_, ?_, ?_⟩
    · show s_X2_copy_10 (a + 4) (b + 4) (me_w M g) (nI j) = _
      unfold s_X2_copy_10 let_v
      rw [if_neg n1, q_gi2 hA2, show me_i (me_w M g) (a + 4) 0 = nI nd from g2, if_neg n2, q_d1 hB2, q_row hB2 pB2 (by omega), q_d1 hA2, q_row hA2 pA2 (by omega), q_gi1 hB2 hpb, q_gi1 hB2 hpb, q_gi1 hB2 hpb, q_gi1 hB2 hpb, cM_e (e_dset (hA2.2.2.2.2.1 _ hpa)), nI_1]
      rfl
    · intro x y hxy
      show (if x = a + 6 + πa j ∧ y < 5 then _ else g x y) = _
      rw [if_neg (by omega)]
      exact g1 x y hxy
    · show (if a + 4 = a + 6 + πa j ∧ 0 < 5 then _ else g (a + 4) 0) = _
      rw [if_neg (by omega)]
      exact g2
    · intro i hi y hy
      show (if a + 6 + πa i = a + 6 + πa j ∧ y < 5 then _ else g (a + 6 + πa i) y) = _
      by_cases hij : i = j
      · subst hij
        rw [if_pos ⟨rfl, hy⟩]
        have e : ∀ y, g (b + 6 + πb i) y = me_i M (b + 6 + πb i) y := fun y => g1 _ _ (by omega)
        simp only [e]
        match y, hy with
        | 0, _ => rfl
        | 1, _ => rfl
        | 2, _ => rfl
        | 3, _ => rfl
        | 4, _ => rfl
      · have hne : πa i ≠ πa j := fun q => hij (pA.2 i j (by omega) (by omega) q)
        rw [if_neg (by omega)]
        exact g3 i (by omega) y hy
  · rintro s ⟨g, rfl, g1, g2, g3⟩
    refine ⟨(me_w M g, nI nd), ?_, g, rfl, g1, g2, g3⟩
    show s_X2_copy_10 (a + 4) (b + 4) (me_w M g) (nI nd) = _
    unfold s_X2_copy_10
    rw [q_gi2 (show CL (me_w M g) a from hA), show me_i (me_w M g) (a + 4) 0 = nI nd from g2, if_pos (nI_le (Nat.le_refl _) (by omega))]
    split <;> rfl
  · refine ⟨fun x y => if x = a + 4 ∧ y = 0 then nI nd else me_i M x y, rfl, fun x y hxy => ?_, if_pos ⟨rfl, rfl⟩, fun i hi => absurd hi (by omega)⟩
    show (if x = a + 4 ∧ y = 0 then _ else _) = _
    rw [if_neg (by omega)]
/-- Court.copy -/
theorem e_copy {M : Me} {a b : Nat} {πa πb : Nat → Nat} {st : St} {t nd sg : Nat} (hA : CL M a) (hB : CL M b) (pA : CP M a πa) (pB : CP M b πb) (hd : a + 28 ≤ b ∨ b + 28 ≤ a) (hR : Rpn M b πb st t nd sg) (hn : st 70 13 = nI nd) (hnd : nd ≤ 12) (hsg : sg ≤ 6) :
    ∃ g, f_X0_copy a b M = some (me_w M g) ∧ (∀ x y, (x < a ∨ a + 28 ≤ x) → g x y = me_i M x y) ∧ g (a + 21) 0 = me_i M (a + 21) 0 ∧ Rpn (me_w M g) a πa st t nd sg := by
  obtain ⟨⟨r1, r2, r3⟩, rK, ⟨r4, r5⟩, ⟨r6, r7⟩, r8⟩ := hR
  -- the land
  have h5 : ∃ g1, f_X5_copy (a + 1) (b + 1) M = some (me_w M g1) ∧ (∀ x y, (x ≠ a + 1 ∧ x ≠ a + 2) → g1 x y = me_i M x y) ∧ g1 (a + 1) 0 = me_i M (b + 1) 0 ∧ g1 (a + 1) 1 = me_i M (b + 1) 1 ∧ ∀ i, i < 25 → g1 (a + 2) i = me_i M (b + 2) i := by
    unfold f_X5_copy b_X5_copy
    rw [q_ck5 hA, q_gi5 hB, q_pi5 hA, q_gi5 (by exact hB), q_pi5 (by exact hA), q_l2 (by exact hB), q_l2 (by exact hA), q_l2 (by exact hA), al_e (by exact hA.2.1.2.2), ac_e (m := 25) (by exact hB.2.1.2.2) (by exact hA.2.1.2.2) (by omega) (by omega)]
    refine ⟨_, rfl, fun x y hxy => ?_, ?_, ?_, fun i hi => ?_⟩
    · show (if x = a + 2 ∧ y < 25 then _ else _) = _
      rw [if_neg (by omega), i_si, if_neg (by omega), i_si, if_neg (by omega)]
    · show (if a + 1 = a + 2 ∧ 0 < 25 then _ else _) = _
      rw [if_neg (by omega), i_si, if_neg (by omega), i_si, if_pos ⟨rfl, rfl⟩]
    · show (if a + 1 = a + 2 ∧ 1 < 25 then _ else _) = _
      rw [if_neg (by omega), i_si, if_pos ⟨rfl, rfl⟩, i_si, if_neg (by omega)]
    · show (if a + 2 = a + 2 ∧ i < 25 then _ else _) = _
      rw [if_pos ⟨rfl, hi⟩, i_si, if_neg (by omega), i_si, if_neg (by omega)]
  obtain ⟨g1, e1, f1, f2, f3, f4⟩ := h5
  have hA1 : CL (me_w M g1) a := hA
  -- the knights
  have hk : ∃ g2, lp (fun s : Me × Int32 => s_X0_copy_13 a b s.1 s.2) (me_w M g1, 0) = some (me_w M g2, nI 6) ∧ (∀ x y, (x < a + 22 ∨ a + 28 ≤ x) → g2 x y = g1 x y) ∧ ∀ i, i < 6 → ∀ y, y < 7 → g2 (a + 22 + i) y = me_i M (b + 22 + i) y := by
    have hlp := lp_cnt (step := fun s : Me × Int32 => s_X0_copy_13 a b s.1 s.2) 6
      (fun j s => ∃ g, s = (me_w M g, nI j) ∧ (∀ x y, (x < a + 22 ∨ a + 28 ≤ x) → g x y = g1 x y) ∧ ∀ i, i < j → ∀ y, y < 7 → g (a + 22 + i) y = me_i M (b + 22 + i) y)
      (fun x => ∃ g, x = (me_w M g, nI 6) ∧ (∀ x y, (x < a + 22 ∨ a + 28 ≤ x) → g x y = g1 x y) ∧ ∀ i, i < 6 → ∀ y, y < 7 → g (a + 22 + i) y = me_i M (b + 22 + i) y)
      ?_ ?_ (me_w M g1, 0) ?_
    · obtain ⟨x, hx, g, rfl, h1⟩ := hlp
      exact ⟨g, hx, h1⟩
    · rintro j s hj ⟨g, rfl, i1, i2⟩
      have hA2 : CL (me_w M g) a := hA
      have hB2 : CL (me_w M g) b := hB
      have n1 : ¬ (6 : Int32) ≤ nI j := (six_no hj).2
      have hb : ∀ y, g (b + 22 + j) y = me_i M (b + 22 + j) y := fun y => by rw [i1 _ _ (by omega), f1 _ _ (by omega)]
      refine ⟨(me_w M (fun x y => if x = a + 22 + j ∧ y < 7 then g (b + 22 + j) y else g x y), nI (j + 1)), ?_, _, rfl, fun x y hxy => ?_, fun i hi y hy => ?_⟩
      · show s_X0_copy_13 a b (me_w M g) (nI j) = _
        unfold s_X0_copy_13 let_v
        rw [if_neg n1, q_c1 hA2, q_kn hA2 hj, q_c1 hB2, q_kn hB2 hj, cM_e (e_kcopy (hA2.2.2.2.2.2.2.2 j hj) (hB2.2.2.2.2.2.2.2 j hj) (by omega) (by
          show g (b + 22 + j) 0 = 0 ∨ g (b + 22 + j) 0 = 1
          rw [hb, (rK j hj).1]
          split
          · exact Or.inr rfl
          · exact Or.inl rfl)), nI_1]
        rfl
      · show (if x = a + 22 + j ∧ y < 7 then _ else g x y) = _
        rw [if_neg (by omega)]
        exact i1 x y hxy
      · show (if a + 22 + i = a + 22 + j ∧ y < 7 then _ else g (a + 22 + i) y) = _
        by_cases hij : i = j
        · subst hij
          rw [if_pos ⟨rfl, hy⟩, hb]
        · rw [if_neg (by omega)]
          exact i2 i (by omega) y hy
    · rintro s ⟨g, rfl, i1, i2⟩
      refine ⟨(me_w M g, nI 6), ?_, g, rfl, i1, i2⟩
      show s_X0_copy_13 a b (me_w M g) (nI 6) = _
      unfold s_X0_copy_13
      rw [c_6, if_pos (nI_le (Nat.le_refl _) (by omega))]
    · exact ⟨g1, by rw [nI_0], fun x y _ => rfl, fun i hi => absurd hi (by omega)⟩
  obtain ⟨g2, e2, f5, f6⟩ := hk
  have hA2 : CL (me_w M g2) a := hA
  have hB2 : CL (me_w M g2) b := hB
  have hb2 : ∀ x y, b ≤ x → x < b + 28 → g2 x y = me_i M x y := fun x y _ _ => by rw [f5 _ _ (by omega), f1 _ _ (by omega)]
  obtain ⟨g3, e3, f7, f8, f9⟩ := e_dcopy (M := me_w M g2) (nd := nd) hA2 hB2 pA pB hd (by show g2 (b + 4) 0 = _; rw [hb2 _ _ (by omega) (by omega), r4, hn]) hnd
  rw [w_w] at e3
  have hA3 : CL (me_w M g3) a := hA
  have hB3 : CL (me_w M g3) b := hB
  have hb3 : ∀ x y, b ≤ x → x < b + 28 → g3 x y = me_i M x y := fun x y _ _ => by rw [f7 _ _ (by omega)]; exact hb2 x y (by omega) (by omega)
  -- the sights
  have h9 : ∃ g4, f_X9_copy (a + 18) (b + 18) (me_w M g3) = some (me_w M g4) ∧ (∀ x y, (x < a + 18 ∨ a + 21 ≤ x) → g4 x y = g3 x y) ∧ g4 (a + 18) 0 = me_i M (b + 18) 0 ∧ ∀ i, i < 6 → g4 (a + 19) i = me_i M (b + 19) i ∧ g4 (a + 20) i = me_i M (b + 20) i := by
    unfold f_X9_copy b_X9_copy
    rw [q_ck9 hA3, q_gi9 hB3, q_pi9 hA3, q_s1 (by exact hB), q_s1 (by exact hA), c_6, ac_e (m := 6) (by exact hB.2.2.2.2.2.1.2.2.2.1) (by exact hA.2.2.2.2.2.1.2.2.2.1) (by omega) (by omega), q_s2 (by exact hB), q_s2 (by exact hA), ac_e (m := 6) (by exact hB.2.2.2.2.2.1.2.2.2.2) (by exact hA.2.2.2.2.2.1.2.2.2.2) (by omega) (by omega)]
    refine ⟨_, rfl, fun x y hxy => ?_, ?_, fun i hi => ⟨?_, ?_⟩⟩
    · show (if x = a + 20 ∧ y < 6 then _ else if x = a + 19 ∧ y < 6 then _ else if x = a + 18 ∧ y = 0 then _ else g3 x y) = _
      rw [if_neg (by omega), if_neg (by omega), if_neg (by omega)]
    · show (if a + 18 = a + 20 ∧ 0 < 6 then _ else if a + 18 = a + 19 ∧ 0 < 6 then _ else if a + 18 = a + 18 ∧ 0 = 0 then g3 (b + 18) 0 else _) = _
      rw [if_neg (by omega), if_neg (by omega), if_pos ⟨rfl, rfl⟩, hb3 _ _ (by omega) (by omega)]
    · show (if a + 19 = a + 20 ∧ i < 6 then _ else if a + 19 = a + 19 ∧ i < 6 then (if b + 19 = a + 18 ∧ i = 0 then _ else g3 (b + 19) i) else _) = _
      rw [if_neg (by omega), if_pos ⟨rfl, hi⟩, if_neg (by omega), hb3 _ _ (by omega) (by omega)]
    · show (if a + 20 = a + 20 ∧ i < 6 then (if b + 20 = a + 19 ∧ i < 6 then _ else if b + 20 = a + 18 ∧ i = 0 then _ else g3 (b + 20) i) else _) = _
      rw [if_pos ⟨rfl, hi⟩, if_neg (by omega), if_neg (by omega), hb3 _ _ (by omega) (by omega)]
  obtain ⟨g4, e4, f10, f11, f12⟩ := h9
  have hA4 : CL (me_w M g4) a := hA
  have hB4 : CL (me_w M g4) b := hB
  refine ⟨fun x y => if x = a ∧ y = 5 then me_i M b 5 else g4 x y, ?_, fun x y hxy => ?_, ?_, ⟨?_, ?_, ?_⟩, ?_, ⟨?_, ?_⟩, ⟨?_, ?_⟩, ?_⟩
  · unfold f_X0_copy b_X0_copy
    rw [q_ck hA, q_c0 hA, q_c0 hB, cM_e e1, e2]
    simp only [Option.bind_some]
    rw [q_c2 hA2, q_c2 hB2, cM_e e3, q_c3 hA3, q_c3 hB3, cM_e e4, q_gi hB4, q_pi hA4]
    rw [show me_i (me_w M g4) b 5 = me_i M b 5 by show g4 b 5 = _; rw [f10 _ _ (by omega), hb3 _ _ (by omega) (by omega)]]
    rfl
  · show (if x = a ∧ y = 5 then _ else g4 x y) = _
    rw [if_neg (by omega), f10 _ _ (by omega), f7 _ _ (by omega)]
    show g2 x y = _
    rw [f5 _ _ (by omega), f1 _ _ (by omega)]
  · show (if a + 21 = a ∧ 0 = 5 then _ else g4 (a + 21) 0) = _
    rw [if_neg (by omega), f10 _ _ (by omega), f7 _ _ (by omega)]
    show g2 _ _ = _
    rw [f5 _ _ (by omega), f1 _ _ (by omega)]
  · show (if a + 1 = a ∧ 0 = 5 then _ else g4 (a + 1) 0) = _
    rw [if_neg (by omega), f10 _ _ (by omega), f7 _ _ (by omega)]
    show g2 _ _ = _
    rw [f5 _ _ (by omega), f2, r1]
  · show (if a + 1 = a ∧ 1 = 5 then _ else g4 (a + 1) 1) = _
    rw [if_neg (by omega), f10 _ _ (by omega), f7 _ _ (by omega)]
    show g2 _ _ = _
    rw [f5 _ _ (by omega), f3, r2]
  · intro i hi
    show (if a + 2 = a ∧ i = 5 then _ else g4 (a + 2) i) = _
    rw [if_neg (by omega), f10 _ _ (by omega), f7 _ _ (by omega)]
    show g2 _ _ = _
    rw [f5 _ _ (by omega), f4 i hi, r3 i hi]
  · intro k hk
    have e : ∀ y, y < 7 → me_i (me_w M (fun x y => if x = a ∧ y = 5 then me_i M b 5 else g4 x y)) (a + 22 + k) y = me_i M (b + 22 + k) y := by
      intro y hy
      show (if a + 22 + k = a ∧ y = 5 then _ else g4 (a + 22 + k) y) = _
      rw [if_neg (by omega), f10 _ _ (by omega), f7 _ _ (by omega)]
      exact f6 k hk y hy
    rw [e 0 (by omega), e 1 (by omega), e 2 (by omega), e 3 (by omega), e 4 (by omega), e 5 (by omega), e 6 (by omega)]
    exact rK k hk
  · show (if a + 4 = a ∧ 0 = 5 then _ else g4 (a + 4) 0) = _
    rw [if_neg (by omega), f10 _ _ (by omega), f8, hn]
  · intro i hi
    have hpa := (pA.1 i (by omega)).1
    have hpb := (pB.1 i (by omega)).1
    have e : ∀ y, y < 5 → me_i (me_w M (fun x y => if x = a ∧ y = 5 then me_i M b 5 else g4 x y)) (a + 6 + πa i) y = if y = 4 then 0 else me_i M (b + 6 + πb i) y := by
      intro y hy
      show (if a + 6 + πa i = a ∧ y = 5 then _ else g4 (a + 6 + πa i) y) = _
      rw [if_neg (by omega), f10 _ _ (by omega), f9 i hi y hy]
      by_cases h4 : y = 4
      · rw [if_pos h4, if_pos h4]
      · rw [if_neg h4, if_neg h4]
        exact hb2 _ _ (by omega) (by omega)
    rw [e 0 (by omega), e 1 (by omega), e 2 (by omega), e 3 (by omega), e 4 (by omega)]
    obtain ⟨s1, s2, s3, s4, -⟩ := r5 i hi
    exact ⟨s1, s2, s3, s4, rfl⟩
  · show (if a + 18 = a ∧ 0 = 5 then _ else g4 (a + 18) 0) = _
    rw [if_neg (by omega), f11, r6]
  · intro i hi
    have e19 : me_i (me_w M (fun x y => if x = a ∧ y = 5 then me_i M b 5 else g4 x y)) (a + 19) i = g4 (a + 19) i := by
      show (if a + 19 = a ∧ i = 5 then _ else g4 (a + 19) i) = _
      rw [if_neg (by omega)]
    have e20 : me_i (me_w M (fun x y => if x = a ∧ y = 5 then me_i M b 5 else g4 x y)) (a + 20) i = g4 (a + 20) i := by
      show (if a + 20 = a ∧ i = 5 then _ else g4 (a + 20) i) = _
      rw [if_neg (by omega)]
    rw [e19, e20, (f12 i (by omega)).1, (f12 i (by omega)).2]
    exact r7 i hi
  · show (if a = a ∧ 5 = 5 then me_i M b 5 else _) = _
    rw [if_pos ⟨rfl, rfl⟩, r8]

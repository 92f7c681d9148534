/-! AN ACT OF THE PAD, told once; each side does it -/
section WX
variable {X : Cx} {w : Wd}
theorem why_0 {k q m : Nat} (h : a_why X k q m w = 0) : a_al X w k ∧ a_al X w q ∧ k ≠ q ∧ w.1.length ≠ 12 := by
  unfold a_why at h
  split at h; · cases h
  split at h; · cases h
  split at h; · cases h
  split at h; · cases h
  split at h; · cases h
  split at h; · cases h
  split at h; · cases h
  split at h; · cases h
  rename_i z1 z2 z3 z4 z5 z6 z7 z8
  exact ⟨Classical.not_not.mp z1, Classical.not_not.mp z2, z3, z8⟩
theorem WV.hit {k q m : Nat} (hW : WV X w) (hk : k < 6) (hq : q < 6) (hm : m ≤ 20) (hy : a_why X k q m w = 0) : WV X (a_hit X k q m w) := by
  obtain ⟨al, aq, hne, h12⟩ := why_0 hy
  unfold a_hit
  by_cases h9 : w.2.2.1 q 3 ≤ m
  · rw [if_pos h9]; exact hW.wound
  · rw [if_neg h9]
    have hw := hW.wound (k := q) (m := m)
    have hnk : (a_wound q m w).1 = w.1 := if_neg h9
    obtain ⟨h1, h2, h3, h4, h5⟩ := hw
    rw [hnk] at h1 h4 h5
    refine ⟨by simp; omega, h2, h3, fun r hr => ?_, ?_⟩
    · rcases List.mem_append.mp hr with hr | hr
      · exact h4 r hr
      · obtain rfl := List.mem_singleton.mp hr
        refine ⟨hk, hq, hne, al.1, aq.1, ?_, ?_, hm, Nat.le_refl _⟩
        · show (a_wound q m w).2.2.1 k 3 ≠ 0
          unfold a_wound up
          dsimp only
          rw [if_neg (by omega)]
          exact al.2
        · show (a_wound q m w).2.2.1 q 3 ≠ 0
          unfold a_wound up
          dsimp only
          rw [if_pos ⟨rfl, rfl⟩]
          omega
    · rw [List.pairwise_append]
      refine ⟨h5, List.pairwise_singleton _ _, fun a ha b hb => ?_⟩
      obtain rfl := List.mem_singleton.mp hb
      exact (h4 a ha).2.2.2.2.2.2.2.2
theorem WV.set {k ch : Nat} (hX : XV X) (hW : WV X w) (hk : k < 6) (hch : ch < X.2.2.1) (ha : a_al X w k) : WV X (a_set X k ch w) := by
  obtain ⟨h1, h2, h3, h4, h5⟩ := hW
  have wk := h3 k hk ha.1
  have xc := hX.2.2.1
  have hrd : X.2.2.2.2.2 (5 * w.2.2.1 k 5 + ch) ≤ 99 := hX.2.2.2.2 _ (by omega)
  have e3 : ∀ x, (a_set X k ch w).2.2.1 x 3 = w.2.2.1 x 3 := by
    intro x
    unfold a_set up
    dsimp only
    rw [if_neg (by omega), if_neg (by omega)]
  refine ⟨h1, h2, fun j hj ht => ?_, fun r hr => ?_, h5⟩
  · have wj := h3 j hj ht
    rw [e3]
    unfold a_set up
    dsimp only
    by_cases hjk : j = k
    · subst hjk
      rw [if_neg (by omega), if_pos ⟨rfl, rfl⟩, if_pos ⟨rfl, rfl⟩]
      refine ⟨wj.1, hch, ?_⟩
      split <;> omega
    · rw [if_neg (by omega), if_neg (by omega), if_neg (by omega), if_neg (by omega)]
      exact wj
  · obtain ⟨v1, v2, v3, v4, v5, v6, v7, v8, v9⟩ := h4 r hr
    exact ⟨v1, v2, v3, v4, v5, by rw [e3]; exact v6, by rw [e3]; exact v7, v8, v9⟩
theorem WV.fl {k : Nat} (hW : WV X w) : WV X (a_fl X k w) := by
  obtain ⟨h1, h2, h3, h4, h5⟩ := hW
  have hhv : ∀ r : Rw, (a_hv X k w r).1 = r.1 ∧ (a_hv X k w r).2.1 = r.2.1 ∧ (a_hv X k w r).2.2.2 = r.2.2.2 ∧ (a_hv X k w r).2.2.1 ≤ r.2.2.1 := by
    intro r
    unfold a_hv
    split
    · exact ⟨rfl, rfl, rfl, Nat.div_le_self _ _⟩
    · exact ⟨rfl, rfl, rfl, Nat.le_refl _⟩
  refine ⟨?_, h2, h3, fun r hr => ?_, ?_⟩
  · show (w.1.map _).length ≤ 12
    rw [List.length_map]; exact h1
  · obtain ⟨r0, hr0, rfl⟩ := List.mem_map.mp hr
    obtain ⟨q0, q1, q3, q4⟩ := hhv r0
    obtain ⟨v1, v2, v3, v4, v5, v6, v7, v8, v9⟩ := h4 r0 hr0
    unfold RV
    rw [q0, q1, q3]
    exact ⟨v1, v2, v3, v4, v5, v6, v7, by omega, v9⟩
  · show (w.1.map _).Pairwise _
    rw [List.pairwise_map]
    refine h5.imp (fun {a b} hab => ?_)
    rw [(hhv a).2.2.1, (hhv b).2.2.1]; exact hab
theorem WV.rm {k : Nat} (hW : WV X w) : WV X (a_rm k w) := hW.sub List.filter_sublist _
end WX
def nm (v : Nat → Nat) (pl : Nat) : Nat := 10 * (v (pl + 2) - 48) + (v (pl + 3) - 48)
def a_do (X : Cx) (v : Nat → Nat) (pl : Nat) (w : Wd) : Nat × Wd :=
  if 0 < dyo (v pl) then (0, a_pass (dyo (v pl)) w)
  else if ltr (v (pl + 1)) then (a_why X (v pl - 65) (v (pl + 1) - 65) (nm v pl) w, a_hit X (v pl - 65) (v (pl + 1) - 65) (nm v pl) w)
  else if v (pl + 1) = 61 then (a_whyB X (v pl - 65) w, a_gb X (v pl - 65) 12 w)
  else if v (pl + 1) = 33 then (a_whyF X (v pl - 65) w, a_fl X (v pl - 65) w)
  else if v (pl + 1) = 47 then (a_whyR X (v pl - 65) w, a_rm (v pl - 65) w)
  else (a_whyS X (v pl - 65) (v (pl + 1) - 48) w, a_set X (v pl - 65) (v (pl + 1) - 48) w)
/-- a text that can be, at this place -/
def WF (v : Nat → Nat) (c0 p pl : Nat) : Prop := (0 < dyo (v pl) ∧ ¬ ltr (v pl) ∧ ndd v pl = 1) ∨ (¬ 0 < dyo (v pl) ∧ ltr (v pl) ∧ ((ltr (v (pl + 1)) ∧ dg1 (v (pl + 2)) ∧ dg2 (v (pl + 2)) (v (pl + 3)) ∧ pl + 3 < p ∧ ndd v pl = 4) ∨ (¬ ltr (v (pl + 1)) ∧ sec c0 (v (pl + 1)) ∧ pl + 1 < p ∧ ndd v pl = 2)))
theorem wf_of {M : Me} {p c0 pl : Nat} {v : Nat → Nat} (h : PM M p v) (hg : ¬ gd v c0 pl < ndd v pl) : WF v c0 p pl := by
  by_cases q1 : ltr (v pl)
  · right
    have hd0 : ¬ 0 < dyo (v pl) := by
      unfold dyo
      rw [if_neg (by omega), if_neg (by omega), if_neg (by omega)]; omega
    refine ⟨hd0, q1, ?_⟩
    by_cases q2 : ltr (v (pl + 1))
    · left
      have eN : ndd v pl = 4 := by unfold ndd; rw [if_pos q1, if_pos q2]
      have eG : gd v c0 pl = 2 + gdd v (pl + 2) := by unfold gd; rw [if_neg hd0, if_pos q1, if_pos q2]
      rw [eN, eG] at hg
      unfold gdd at hg
      by_cases q3 : dg1 (v (pl + 2))
      · rw [if_pos q3] at hg
        by_cases q4 : dg2 (v (pl + 2)) (v (pl + 3))
        · exact ⟨q2, q3, q4, h.lt (i := pl + 3) (by omega), eN⟩
        · rw [if_neg q4] at hg; omega
      · rw [if_neg q3] at hg; omega
    · right
      have eN : ndd v pl = 2 := by unfold ndd; rw [if_pos q1, if_neg q2]
      have eG : gd v c0 pl = if sec c0 (v (pl + 1)) then 2 else 1 := by unfold gd; rw [if_neg hd0, if_pos q1, if_neg q2]
      rw [eN, eG] at hg
      by_cases q3 : sec c0 (v (pl + 1))
      · exact ⟨q2, q3, h.lt (by omega), eN⟩
      · rw [if_neg q3] at hg; omega
  · left
    have eN : ndd v pl = 1 := by unfold ndd; rw [if_neg q1]
    by_cases q2 : 0 < dyo (v pl)
    · exact ⟨q2, q1, eN⟩
    · have eG : gd v c0 pl = 0 := by unfold gd; rw [if_neg q2, if_neg q1]
      rw [eN, eG] at hg; omega
section DD
variable {X : Cx} {M : Me} {w : Wd} {p pl : Nat} {v : Nat → Nat}
theorem do_WV (hX : XV X) (hW : WV X w) (hf : WF v X.2.2.1 p pl) (hD : w.2.1 + 100 ≤ 4000000) (h0 : (a_do X v pl w).1 = 0) : WV X (a_do X v pl w).2 ∧ (a_do X v pl w).2.2.1 ≤ w.2.1 + 100 := by
  have hdy := dyo_le (v pl)
  rcases hf with ⟨q1, q2, q3⟩ | ⟨q1, q2, ⟨q3, q4, q5, q6, q7⟩ | ⟨q3, q4, q5, q6⟩⟩
  · unfold a_do at h0 ⊢
    rw [if_pos q1] at h0 ⊢
    exact ⟨hW.pass (by omega), by show w.2.1 + _ ≤ _; omega⟩
  · unfold a_do at h0 ⊢
    rw [if_neg q1, if_pos q3] at h0 ⊢
    refine ⟨hW.hit (by omega) (by omega) (by unfold nm; omega) h0, ?_⟩
    show (a_hit X _ _ _ w).2.1 ≤ _
    unfold a_hit
    split
    · show w.2.1 ≤ _; omega
    · show w.2.1 ≤ _; omega
  · unfold a_do at h0 ⊢
    rw [if_neg q1, if_neg q3] at h0 ⊢
    by_cases z1 : v (pl + 1) = 61
    · rw [if_pos z1] at h0 ⊢
      refine ⟨WV.gb _ _ hW, ?_⟩
      show (a_gb X _ 12 w).2.1 ≤ _
      rw [gb_D]; omega
    · rw [if_neg z1] at h0 ⊢
      by_cases z2 : v (pl + 1) = 33
      · rw [if_pos z2] at h0 ⊢
        exact ⟨hW.fl, by show w.2.1 ≤ _; omega⟩
      · rw [if_neg z2] at h0 ⊢
        by_cases z3 : v (pl + 1) = 47
        · rw [if_pos z3] at h0 ⊢
          exact ⟨hW.rm, by show w.2.1 ≤ _; omega⟩
        · rw [if_neg z3] at h0 ⊢
          have ha : a_act X (v pl - 65) w = 0 := by
            have h0b : a_whyS X (v pl - 65) (v (pl + 1) - 48) w = 0 := h0
            unfold a_whyS at h0b
            split at h0b
            · rename_i z; exact absurd h0b z
            · rename_i z; exact Classical.not_not.mp z
          exact ⟨hW.set hX (by omega) (by omega) (act_al ha).1, by show w.2.1 ≤ _; omega⟩
theorem do_lt : (a_do X v pl w).1 < 8 := by
  have ha := fun k => act_3 (X := X) (w := w) (k := k)
  unfold a_do
  split
  · show (0 : Nat) < 8; omega
  · split
    · show a_why X _ _ _ w < 8
      unfold a_why
      repeat' split
      all_goals omega
    · split
      · show a_whyB X _ w < 8
        unfold a_whyB
        have := ha (v pl - 65)
        repeat' split
        all_goals omega
      · split
        · show a_whyF X _ w < 8
          unfold a_whyF
          have := ha (v pl - 65)
          repeat' split
          all_goals omega
        · split
          · show a_whyR X _ w < 8
            unfold a_whyR
            have := ha (v pl - 65)
            repeat' split
            all_goals omega
          · show a_whyS X _ _ w < 8
            unfold a_whyS
            have := ha (v pl - 65)
            repeat' split
            all_goals omega
theorem CB.cp {c : Nat} (h : CB X M c w) : ∃ π, CP M c π := by
  obtain ⟨π, n, rs, hV, _⟩ := h
  exact ⟨π, hV.2.1⟩
/-- the class tries it -/
theorem e_tryAct (hX : XV X) (hW : WV X w) (hL : Lay M) (hP : PD M p v) (h : CB X M 33 w) (hpl : pl < p) (hf : WF v X.2.2.1 p pl) : ∃ N, f_X10_tryAct 32 1 (nI pl) M = some (nI (a_do X v pl w).1, N) ∧ Fc M N 33 ∧ (∃ π, CP N 33 π) ∧ ((a_do X v pl w).1 = 0 → CB X N 33 (a_do X v pl w).2) := by
  have h60 := hP.1
  have hdy := dyo_le (v pl)
  have a0 := hP.le pl
  have a1 := hP.le (pl + 1)
  have xc := hX.2.2.1
  unfold f_X10_tryAct b_X10_tryAct
  simp only [let_v]
  rw [ck_e (lk_32 hL), cP_e (e_signAt hL hP (by omega)), cP_e (e_daysC (by omega)), i_le0 (by omega)]
  rcases hf with ⟨q1, q2, q3⟩ | ⟨q1, q2, hf⟩
  · obtain ⟨N, e1, e2, e3⟩ := e_passDays (d := dyo (v pl)) hW h (by omega)
    rw [if_neg (by omega), gr_e (lk_32 hL) (lr_32_0 hL), cM_e e1]
    unfold a_do
    rw [if_pos q1]
    exact ⟨N, by rw [c_0], e2, e3.cp, fun _ => e3⟩
  · rw [if_pos (show dyo (v pl) = 0 by omega), cP_e (e_signAt hL hP (by omega)), c_65, pk_sub (by omega), nI_1, cP_e (e_signAt hL hP (by omega)), cP_e (e_letter (by omega))]
    rcases hf with ⟨q3, q4, q5, q6, q7⟩ | ⟨q3, q4, q5, q6⟩
    · rw [if_pos q3, if_neg (show ¬ (1 : Int32) = 0 by decide), gr_e (lk_32 hL) (lr_32_0 hL), c_2, nI_add, cP_e (e_numberAt hL hP (by omega) (by omega) (show 48 ≤ v (pl + 2 + 1) by have : v (pl + 2 + 1) = v (pl + 3) := rfl; omega)), pk_sub (by omega)]
      obtain ⟨N, e1, e2, e3⟩ := e_tryStrike (k := v pl - 65) (q := v (pl + 1) - 65) (m := nm v pl) hX hW h (by omega) (by omega) (by unfold nm; omega)
      unfold a_do
      rw [if_neg q1, if_pos q3]
      refine ⟨N, ?_, e2, e3.cp, fun z => ?_⟩
      · rw [show 10 * (v (pl + 2) - 48) + (v (pl + 2 + 1) - 48) = nm v pl from rfl, cI_e e1]
      · rw [if_pos z] at e3
        exact e3
    · rw [if_neg q3, if_pos rfl, c_33, c_47, c_61, i_eq (by omega) (by omega), i_eq (by omega) (by omega), i_eq (by omega) (by omega)]
      unfold a_do
      rw [if_neg q1, if_neg q3]
      by_cases z2 : v (pl + 1) = 33
      · obtain ⟨N, e1, e2, e3⟩ := e_flinch (k := v pl - 65) hX hW h (by omega)
        rw [if_pos z2, if_neg (by omega), if_pos z2, gr_e (lk_32 hL) (lr_32_0 hL), cI_e e1]
        exact ⟨N, rfl, e2, e3.cp, fun z => by rw [if_pos z] at e3; exact e3⟩
      · rw [if_neg z2, if_neg z2]
        by_cases z3 : v (pl + 1) = 47
        · obtain ⟨N, e1, e2, e4, e3⟩ := e_remit (k := v pl - 65) hW h (by omega)
          rw [if_pos z3, if_neg (by omega), if_pos z3, gr_e (lk_32 hL) (lr_32_0 hL), cI_e e1]
          exact ⟨N, rfl, e2, e4, e3⟩
        · rw [if_neg z3, if_neg z3]
          by_cases z1 : v (pl + 1) = 61
          · obtain ⟨N, e1, e2, e3⟩ := e_tryBack (k := v pl - 65) hX hW h (by omega)
            rw [if_pos z1, if_pos z1, gr_e (lk_32 hL) (lr_32_0 hL), cI_e e1]
            exact ⟨N, rfl, e2, e3.cp, fun z => by rw [if_pos z] at e3; exact e3⟩
          · obtain ⟨N, e1, e2, e3⟩ := e_setOut (k := v pl - 65) (ch := v (pl + 1) - 48) hX hW h (by omega) (by omega)
            rw [if_neg z1, if_neg z1, gr_e (lk_32 hL) (lr_32_0 hL), c_48, pk_sub (by omega), cI_e e1]
            exact ⟨N, rfl, e2, e3.cp, fun z => by rw [if_pos z] at e3; exact e3⟩
end DD
/-- the reference's court leaves as it is -/
def Fw (g h : St) : Prop := ∀ a k, ¬ (81 ≤ a ∧ a ≤ 85) → ¬ (a = 70 ∧ (k = 17 ∨ k = 22 ∨ k = 24 ∨ k = 25)) → h a k = g a k
theorem Fw.trans {g h f : St} (a : Fw g h) (b : Fw h f) : Fw g f := fun x y q r => (b x y q r).trans (a x y q r)
theorem Fg.fw {g h : St} (a : Fg g h) : Fw g h := fun x y q r => a x y q (by omega)
theorem Fw.s24 {g : St} {v : Int32} : Fw g (ss g 70 24 v) := fun x y q r => ss_ne (by omega)
theorem Fw.s25 {g : St} {v : Int32} : Fw g (ss g 70 25 v) := fun x y q r => ss_ne (by omega)
theorem RG.s {X : Cx} {g : St} {w : Wd} {k : Nat} {v : Int32} (h : RG X g w) (hk : k = 24 ∨ k = 25) : RG X (ss g 70 k v) w := by
  obtain ⟨⟨h1, h2, h3, h4⟩, h5, h6, h7⟩ := h
  refine ⟨⟨by rw [ss_ne (by omega)]; exact h1, by rw [ss_ne (by omega)]; exact h2, fun i hi => by rw [ss_ne (by omega)]; exact h3 i hi, fun j hj ht => by rw [ss_ne (by omega), ss_ne (by omega)]; exact h4 j hj ht⟩, by rw [ss_ne (by omega)]; exact h5, h6.same (fun x y _ _ => ss_ne (by omega)), h7.same (ss_ne (by omega)) (fun y => ss_ne (by omega))⟩
section DM
variable {X : Cx} {M : Me} {g : St} {w : Wd} {p pl a : Nat} {v : Nat → Nat}
theorem tail_0 {u : St} {n : Int32} (hL : Lay M) (h24 : u 70 24 = nI 0) (h25 : u 70 25 = nI a) : (gi (me_w M u) 70 12 24 fun v49 => if v49 ≤ 0 then (gi (me_w M u) 70 12 25 fun v50 => pi (me_w M u) 70 12 25 (v50 + (1 : Int32)) fun M51 => some (Sum.inl (M51, n))) else (gi (me_w M u) 70 12 25 fun v52 => (some (Sum.inr (Sum.inr (v52, me_w M u))) : Option ((Me × Int32) ⊕ ((Me × Int32) ⊕ (Int32 × Me)))))) = some (Sum.inl (me_w M (ss u 70 25 (nI (a + 1))), n)) := by
  have hL2 : Lay (me_w M u) := hL
  rw [m_gi hL2, i_w, h24, if_pos (show nI 0 ≤ (0 : Int32) by decide +kernel), m_gi hL2, i_w, h25, m_pi hL2, nI_1, w_ss]
theorem tail_1 {u : St} {n : Int32} {y : Nat} (hL : Lay M) (hy : 0 < y) (hy2 : y < 8) (h24 : u 70 24 = nI y) (h25 : u 70 25 = nI a) : (gi (me_w M u) 70 12 24 fun v49 => if v49 ≤ 0 then (gi (me_w M u) 70 12 25 fun v50 => pi (me_w M u) 70 12 25 (v50 + (1 : Int32)) fun M51 => some (Sum.inl (M51, n))) else (gi (me_w M u) 70 12 25 fun v52 => (some (Sum.inr (Sum.inr (v52, me_w M u))) : Option ((Me × Int32) ⊕ ((Me × Int32) ⊕ (Int32 × Me)))))) = some (Sum.inr (Sum.inr (nI a, me_w M u))) := by
  have hL2 : Lay (me_w M u) := hL
  rw [m_gi hL2, i_w, h24, if_neg (nI_nle hy (by omega)), m_gi hL2, i_w, h25]
/-- and the reference does it -/
theorem e_mstep (hX : XV X) (hW : WV X w) (hL : Lay M) (hP : PM (me_w M g) p v) (h : RG X g w) (hpl : pl < p) (hf : WF v X.2.2.1 p pl) (hD : w.2.1 + 100 ≤ 4000000) (h25 : g 70 25 = nI a) : ∃ h2, Fw g h2 ∧ h2 70 24 = nI (a_do X v pl w).1 ∧ ((a_do X v pl w).1 = 0 → RG X h2 (a_do X v pl w).2 ∧ h2 70 25 = nI (a + 1) ∧ s_X12_goCourt_11 70 (me_w M g) (nI pl) = some (Sum.inl (me_w M h2, nI (pl + ndd v pl)))) ∧ ((a_do X v pl w).1 ≠ 0 → h2 70 25 = nI a ∧ s_X12_goCourt_11 70 (me_w M g) (nI pl) = some (Sum.inr (Sum.inr (nI a, me_w M h2)))) := by
  have hL2 : ∀ q : St, Lay (me_w M q) := fun q => hL
  have h60 := hP.1
  have hdy := dyo_le (v pl)
  have a0 := hP.le pl
  have a1 := hP.le (pl + 1)
  have xc := hX.2.2.1
  have s0 : ∀ i, i < p → g 80 i = nI (v i) := fun i hi => (hP.2.2.2.1 i hi).2.1
  have hG0 : RG X (ss g 70 24 0) w := h.s (Or.inl rfl)
  have s1 : ∀ i, i < p → ss g 70 24 0 80 i = nI (v i) := fun i hi => by rw [ss_ne (by omega)]; exact s0 i hi
  have r25 : ss g 70 24 0 70 25 = nI a := by rw [ss_ne (by omega)]; exact h25
  have h15 : g 70 15 = nI p := hP.2.2.1
  have dlt := do_lt (X := X) (w := w) (v := v) (pl := pl)
  have pre : s_X12_goCourt_11 70 (me_w M g) (nI pl) = s_X12_goCourt_11 70 (me_w M g) (nI pl) := rfl
  conv at pre =>
    rhs
    unfold s_X12_goCourt_11
  simp only [let_v] at pre
  rw [m_gi (hL2 g), i_w, h15, if_neg (nI_ge hpl (by omega)), m_gr16 (hL2 g), m_li80 (hL2 g) (by omega), i_w, s0 pl hpl, cP_e (e_daysM (by omega)), m_pi (hL2 g), w_ss, i_le0 (by omega)] at pre
  rcases hf with ⟨q1, q2, q3⟩ | ⟨q1, q2, hf⟩
  · obtain ⟨h1, e1, e2, e3⟩ := e_mpass (d := dyo (v pl)) hX hW hL hG0 (by omega) (by omega)
    rw [if_neg (by omega), cM_e e1] at pre
    simp only [Option.bind_some] at pre
    have d1 : (a_do X v pl w) = (0, a_pass (dyo (v pl)) w) := by unfold a_do; rw [if_pos q1]
    have u24 : h1 70 24 = nI 0 := by rw [e2 _ _ (by omega) (by omega), ss_at, c_0]
    have u25 : h1 70 25 = nI a := by rw [e2 _ _ (by omega) (by omega)]; exact r25
    rw [tail_0 hL u24 u25, nI_1] at pre
    rw [d1]
    refine ⟨ss h1 70 25 (nI (a + 1)), (Fw.s24.trans e2.fw).trans Fw.s25, by rw [ss_ne (by omega)]; exact u24, fun _ => ⟨e3.s (Or.inr rfl), ss_at, ?_⟩, fun z => absurd rfl z⟩
    rw [q3]; exact pre
  · rw [if_pos (show dyo (v pl) = 0 by omega), m_gr16 (hL2 _), nI_1] at pre
    rcases hf with ⟨q3, q4, q5, q6, q7⟩ | ⟨q3, q4, q5, q6⟩
    · have b3 : 48 ≤ v (pl + 3) := q5.1.1
      have hnm : nm v pl ≤ 20 := by unfold nm; omega
      rw [m_li80 (hL2 _) (by omega), i_w, s1 _ (by omega), cP_e (e_in _ _ _ _), show in_v (nI (v (pl + 1))) 65 70 = 1 by rw [c_65, c_70, in_n (by omega) (by omega) (by omega), if_pos q3], if_neg (show ¬ (1 : Int32) = 0 by decide), m_gr16 (hL2 _), c_2, nI_add, m_li80 (hL2 _) (by omega), i_w, s1 _ (by omega), m_gr16 (hL2 _), c_3, nI_add, m_li80 (hL2 _) (by omega), i_w, s1 _ (by omega), c_48, pk_sub (show 48 ≤ v (pl + 2) by omega), c_10, pk_mul, nI_add, pk_sub (by omega), show 10 * (v (pl + 2) - 48) + v (pl + 3) - 48 = nm v pl by unfold nm; omega, m_gr16 (hL2 _), m_li80 (hL2 _) (by omega), i_w, s1 _ (by omega), m_gr16 (hL2 _), m_li80 (hL2 _) (by omega), i_w, s1 _ (by omega), c_65, pk_sub (show 65 ≤ v pl by omega), pk_sub (show 65 ≤ v (pl + 1) by omega), cP_e (e_mwhyS hX hW hL hG0 (by omega) (by omega) hnm), m_pi (hL2 _), w_ss, m_gi (hL2 _), i_w, ss_at] at pre
      have d1 : (a_do X v pl w) = (a_why X (v pl - 65) (v (pl + 1) - 65) (nm v pl) w, a_hit X (v pl - 65) (v (pl + 1) - 65) (nm v pl) w) := by unfold a_do; rw [if_neg q1, if_pos q3]
      rw [d1] at dlt ⊢
      have dlt2 : a_why X (v pl - 65) (v (pl + 1) - 65) (nm v pl) w < 8 := dlt
      have hG1 : RG X (ss (ss g 70 24 0) 70 24 (nI (a_why X (v pl - 65) (v (pl + 1) - 65) (nm v pl) w))) w := hG0.s (Or.inl rfl)
      have s2 : ∀ i, i < p → ss (ss g 70 24 0) 70 24 (nI (a_why X (v pl - 65) (v (pl + 1) - 65) (nm v pl) w)) 80 i = nI (v i) := fun i hi => by rw [ss_ne (by omega)]; exact s1 i hi
      by_cases hy : a_why X (v pl - 65) (v (pl + 1) - 65) (nm v pl) w = 0
      · obtain ⟨h1, e1, e2, e3⟩ := e_mhit (k := v pl - 65) (q := v (pl + 1) - 65) (m := nm v pl) hX hW hL hG1 (by omega) hnm hy
        have u24 : h1 70 24 = nI 0 := by rw [e2 _ _ (by omega) (by omega), ss_at, hy]
        have u25 : h1 70 25 = nI a := by rw [e2 _ _ (by omega) (by omega), ss_ne (by omega)]; exact r25
        rw [if_pos (by rw [hy, nI_0]), m_gr16 (hL2 _), m_li80 (hL2 _) (by omega), i_w, s2 _ (by omega), m_gr16 (hL2 _), m_li80 (hL2 _) (by omega), i_w, s2 _ (by omega), pk_sub (show 65 ≤ v pl by omega), pk_sub (show 65 ≤ v (pl + 1) by omega), cM_e e1] at pre
        simp only [Option.bind_some] at pre
        rw [tail_0 hL u24 u25, c_4, nI_add] at pre
        refine ⟨ss h1 70 25 (nI (a + 1)), ((Fw.s24.trans Fw.s24).trans e2.fw).trans Fw.s25, by rw [ss_ne (by omega), u24, hy], fun _ => ⟨e3.s (Or.inr rfl), ss_at, ?_⟩, fun z => absurd hy z⟩
        rw [q7]; exact pre
      · have u25 : ss (ss g 70 24 0) 70 24 (nI (a_why X (v pl - 65) (v (pl + 1) - 65) (nm v pl) w)) 70 25 = nI a := by rw [ss_ne (by omega)]; exact r25
        rw [if_neg (nI_ne0 (by omega) (by omega))] at pre
        simp only [Option.bind_some] at pre
        rw [tail_1 hL (by omega) dlt2 ss_at u25] at pre
        exact ⟨_, Fw.s24.trans Fw.s24, ss_at, fun z => absurd z hy, fun _ => ⟨u25, pre⟩⟩
    · rw [m_li80 (hL2 _) (by omega), i_w, s1 _ (by omega), cP_e (e_in _ _ _ _), show in_v (nI (v (pl + 1))) 65 70 = 0 by rw [c_65, c_70, in_n (by omega) (by omega) (by omega), if_neg q3], if_pos rfl, m_gr16 (hL2 _), m_li80 (hL2 _) (by omega), i_w, s1 _ (by omega), m_gr16 (hL2 _), m_li80 (hL2 _) (by omega), i_w, s1 _ (by omega), c_65, pk_sub (show 65 ≤ v pl by omega)] at pre
      have key : ∀ y w2, y < 8 → f_X12_whyNot 70 (nI (v pl - 65)) (nI (v (pl + 1))) (me_w M (ss g 70 24 0)) = some (nI y) → (y = 0 → ∃ h1, f_X12_act 70 (nI (v pl - 65)) (nI (v (pl + 1))) (me_w M (ss (ss g 70 24 0) 70 24 (nI y))) = some (me_w M h1) ∧ Fg (ss (ss g 70 24 0) 70 24 (nI y)) h1 ∧ RG X h1 w2) → a_do X v pl w = (y, w2) → ∃ h2, Fw g h2 ∧ h2 70 24 = nI (a_do X v pl w).1 ∧ ((a_do X v pl w).1 = 0 → RG X h2 (a_do X v pl w).2 ∧ h2 70 25 = nI (a + 1) ∧ s_X12_goCourt_11 70 (me_w M g) (nI pl) = some (Sum.inl (me_w M h2, nI (pl + ndd v pl)))) ∧ ((a_do X v pl w).1 ≠ 0 → h2 70 25 = nI a ∧ s_X12_goCourt_11 70 (me_w M g) (nI pl) = some (Sum.inr (Sum.inr (nI a, me_w M h2)))) := by
        intro y w2 hy8 e1 e2 e3
        rw [e3]
        rw [cP_e e1, m_pi (hL2 _), w_ss, m_gi (hL2 _), i_w, ss_at] at pre
        have s2 : ∀ i, i < p → ss (ss g 70 24 0) 70 24 (nI y) 80 i = nI (v i) := fun i hi => by rw [ss_ne (by omega)]; exact s1 i hi
        by_cases hy : y = 0
        · obtain ⟨h1, f1, f2, f3⟩ := e2 hy
          have u24 : h1 70 24 = nI 0 := by rw [f2 _ _ (by omega) (by omega), ss_at, hy]
          have u25 : h1 70 25 = nI a := by rw [f2 _ _ (by omega) (by omega), ss_ne (by omega)]; exact r25
          rw [if_pos (by rw [hy, nI_0]), m_gr16 (hL2 _), m_li80 (hL2 _) (by omega), i_w, s2 _ (by omega), m_gr16 (hL2 _), m_li80 (hL2 _) (by omega), i_w, s2 _ (by omega), pk_sub (show 65 ≤ v pl by omega), cM_e f1] at pre
          simp only [Option.bind_some] at pre
          rw [tail_0 hL u24 u25, c_2, nI_add] at pre
          refine ⟨ss h1 70 25 (nI (a + 1)), ((Fw.s24.trans Fw.s24).trans f2.fw).trans Fw.s25, by rw [ss_ne (by omega), u24, hy], fun _ => ⟨f3.s (Or.inr rfl), ss_at, ?_⟩, fun z => absurd hy z⟩
          rw [q6]; exact pre
        · have u25 : ss (ss g 70 24 0) 70 24 (nI y) 70 25 = nI a := by rw [ss_ne (by omega)]; exact r25
          rw [if_neg (nI_ne0 (by omega) (by omega))] at pre
          simp only [Option.bind_some] at pre
          rw [tail_1 hL (by omega) hy8 ss_at u25] at pre
          exact ⟨_, Fw.s24.trans Fw.s24, ss_at, fun z => absurd z hy, fun _ => ⟨u25, pre⟩⟩
      have d0 : a_do X v pl w = if v (pl + 1) = 61 then (a_whyB X (v pl - 65) w, a_gb X (v pl - 65) 12 w) else if v (pl + 1) = 33 then (a_whyF X (v pl - 65) w, a_fl X (v pl - 65) w) else if v (pl + 1) = 47 then (a_whyR X (v pl - 65) w, a_rm (v pl - 65) w) else (a_whyS X (v pl - 65) (v (pl + 1) - 48) w, a_set X (v pl - 65) (v (pl + 1) - 48) w) := by
        unfold a_do; rw [if_neg q1, if_neg q3]
      by_cases z1 : v (pl + 1) = 61
      · rw [if_pos z1] at d0
        rw [d0] at dlt
        refine key _ _ dlt ?_ ?_ d0
        · rw [z1, ← c_61]; exact e_mwhyB hX hW hL hG0 (by omega)
        · intro hy
          have al : X.1.testBit (v pl - 65) = true := by
            unfold a_whyB at hy
            split at hy
            · rename_i z; exact absurd hy z
            · rename_i z; exact (act_al (Classical.not_not.mp z)).1.1
          obtain ⟨h1, f1, f2, f3⟩ := e_mgb (k := v pl - 65) hX hW hL (hG0.s (k := 24) (v := nI (a_whyB X (v pl - 65) w)) (Or.inl rfl)) (by omega) al
          refine ⟨h1, ?_, f2, f3⟩
          rw [z1, ← c_61]
          unfold f_X12_act b_X12_act
          rw [m_ck (hL2 _), cP_e (e_in _ _ _ _), show in_v 61 48 52 = 0 by decide +kernel, if_pos rfl, if_pos rfl, cM_e f1]
          rfl
      · rw [if_neg z1] at d0
        by_cases z2 : v (pl + 1) = 33
        · rw [if_pos z2] at d0
          rw [d0] at dlt
          refine key _ _ dlt ?_ ?_ d0
          · rw [z2, ← c_33]; exact e_mwhyF hX hW hL hG0 (by omega)
          · intro hy
            rw [z2, ← c_33]
            exact e_mflinch hX hW hL (hG0.s (Or.inl rfl)) (by omega) hy
        · rw [if_neg z2] at d0
          by_cases z3 : v (pl + 1) = 47
          · rw [if_pos z3] at d0
            rw [d0] at dlt
            refine key _ _ dlt ?_ ?_ d0
            · rw [z3, ← c_47]; exact e_mwhyR hX hW hL hG0 (by omega)
            · intro hy
              rw [z3, ← c_47]
              have al : X.1.testBit (v pl - 65) = true := by
                unfold a_whyR at hy
                split at hy
                · rename_i z; exact absurd hy z
                · rename_i z; exact (act_al (Classical.not_not.mp z)).1.1
              exact e_mremit hX hW hL (hG0.s (Or.inl rfl)) (by omega) al
          · rw [if_neg z3] at d0
            rw [d0] at dlt
            have e48 : v (pl + 1) = 48 + (v (pl + 1) - 48) := by omega
            refine key _ _ dlt ?_ ?_ d0
            · rw [e48, show 48 + (v (pl + 1) - 48) - 48 = v (pl + 1) - 48 by omega]
              exact e_mwhyG hX hW hL hG0 (by omega) (by omega)
            · intro hy
              rw [e48, show 48 + (v (pl + 1) - 48) - 48 = v (pl + 1) - 48 by omega] at hy ⊢
              exact e_mset hX hW hL (hG0.s (Or.inl rfl)) (by omega) (by omega) hy
end DM

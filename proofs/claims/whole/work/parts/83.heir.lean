/-! heirs -/
theorem si_ne {M : Me} {a k x y : Nat} {v : Int32} (h : ¬ (x = a ∧ y = k)) : me_i (me_si M a k v) x y = me_i M x y := if_neg h
def h_v (k to : Nat) (r : Rw) : Rw := if r.1 = k ∨ r.2.1 = k then (if r.1 = k then to else r.1, if r.2.1 = k then to else r.2.1, r.2.2.1 / 2, r.2.2.2) else r
def h_gone (k to : Nat) (r : Rw) : Prop := (r.1 = k ∨ r.2.1 = k) ∧ (r.2.2.1 / 2 = 0 ∨ (if r.1 = k then to else r.1) = (if r.2.1 = k then to else r.2.1))
def h_dec (k to : Nat) (r : Rw) : Decidable (h_gone k to r) := by unfold h_gone; exact inferInstance
def h_st (k to : Nat) (r : Rw) : Bool := ! (@decide (h_gone k to r) (h_dec k to r))
theorem h_st_t {k to : Nat} {r : Rw} : h_st k to r = true ↔ ¬ h_gone k to r := by
  unfold h_st
  cases h_dec k to r with
  | isTrue h => simp [decide, h]
  | isFalse h => simp [decide, h]
def h_rows (k to : Nat) (l : List Rw) : List Rw := (l.filter (h_st k to)).map (h_v k to)
theorem h_v_yes {k to : Nat} {r : Rw} (h : r.1 = k ∨ r.2.1 = k) : h_v k to r = (if r.1 = k then to else r.1, if r.2.1 = k then to else r.2.1, r.2.2.1 / 2, r.2.2.2) := if_pos h
theorem h_v_no {k to : Nat} {r : Rw} (h : ¬ (r.1 = k ∨ r.2.1 = k)) : h_v k to r = r := if_neg h
theorem h_v_day {k to : Nat} {r : Rw} : (h_v k to r).2.2.2 = r.2.2.2 := by unfold h_v; split <;> rfl
theorem h_v_rb {k to : Nat} {r : Rw} (ht : to < 6) (h : RB r) : RB (h_v k to r) := by
  by_cases q : r.1 = k ∨ r.2.1 = k
  · rw [h_v_yes q]
    obtain ⟨h1, h2, h3, h4⟩ := h
    refine ⟨?_, ?_, Nat.lt_of_le_of_lt (Nat.div_le_self _ _) h3, h4⟩
    · dsimp only; split <;> omega
    · dsimp only; split <;> omega
  · rw [h_v_no q]; exact h
theorem h_if {M : Me} {o f s k to : Nat} (hk : me_k M o = some (1, 5)) (hv : me_i M o f = nI s) (hs : s < 6) (hk6 : k < 6) : (if nI s = nI k then some (nI to) else gi M o 1 f fun v => some v) = some (nI (if s = k then to else s)) := by
  rw [gi_e hk, hv]
  by_cases q : s = k
  · rw [if_pos (by rw [q]), if_pos q]
  · rw [if_neg (nI_ne (by omega) (by omega) q), if_neg q]
theorem h_body {M : Me} {o s q m k to : Nat} (hk : me_k M o = some (1, 5)) (e0 : me_i M o 0 = nI s) (e1 : me_i M o 1 = nI q) (e2 : me_i M o 2 = nI m) (hs : s < 6) (hq : q < 6) (hm : m < 1000) (hk6 : k < 6) (ht : to < 6) :
    (gi M o 1 0 fun v7 => (if v7 = nI k then some (nI to) else gi M o 1 0 fun v8 => some v8).bind fun v9 => pi M o 1 0 v9 fun M10 => gi M10 o 1 1 fun v11 => (if v11 = nI k then some (nI to) else gi M10 o 1 1 fun v12 => some v12).bind fun v13 => pi M10 o 1 1 v13 fun M14 => gi M14 o 1 2 fun v15 => pi M14 o 1 2 (v15 / (2 : Int32)) fun M16 => gi M16 o 1 2 fun v17 => (if v17 = 0 then some (1 : Int32) else gi M16 o 1 0 fun v18 => gi M16 o 1 1 fun v19 => if v18 = v19 then some (1 : Int32) else some (0 : Int32)).bind fun v20 => pz M16 o 1 4 v20 fun M21 => some M21) =
    some (me_si (me_si (me_si (me_si M o 0 (nI (if s = k then to else s))) o 1 (nI (if q = k then to else q))) o 2 (nI (m / 2))) o 4 (if m / 2 = 0 ∨ (if s = k then to else s) = (if q = k then to else q) then 1 else 0)) := by
  have a6 : (if s = k then to else s) < 6 := by split <;> omega
  have b6 : (if q = k then to else q) < 6 := by split <;> omega
  rw [gi_e hk, e0, h_if hk e0 hs hk6]
  simp only [Option.bind_some]
  have f1 : me_i (me_si M o 0 (nI (if s = k then to else s))) o 1 = nI q := by rw [si_ne (by omega)]; exact e1
  rw [pi_e hk, gi_e (by exact hk), f1, h_if (by exact hk) f1 hq hk6]
  simp only [Option.bind_some]
  rw [pi_e (by exact hk), gi_e (by exact hk), si_ne (by omega), si_ne (by omega), e2, c_2, pk_div (by omega) (by omega) (by omega), pi_e (by exact hk), gi_e (by exact hk), si_self, gi_e (by exact hk), gi_e (by exact hk), si_ne (by omega), si_ne (by omega), si_self, si_ne (by omega), si_self, i_eq0 (by omega)]
  generalize (if s = k then to else s) = s2 at a6 ⊢
  generalize (if q = k then to else q) = q2 at b6 ⊢
  rw [i_eq (by omega) (by omega)]
  by_cases z1 : m / 2 = 0
  · rw [if_pos z1, if_pos (Or.inl z1)]
    simp only [Option.bind_some]
    rw [pz_e (by exact hk) (Or.inr rfl)]
  · rw [if_neg z1]
    by_cases z2 : s2 = q2
    · rw [if_pos z2, if_pos (Or.inr z2)]
      simp only [Option.bind_some]
      rw [pz_e (by exact hk) (Or.inr rfl)]
    · rw [if_neg z2, if_neg (fun z => z.elim z1 z2)]
      simp only [Option.bind_some]
      rw [pz_e (by exact hk) (Or.inl rfl)]
section HE
variable {X : Cx} {M : Me} {c : Nat} {w : Wd} {k to : Nat}
theorem e_inherit (h : CB X M c w) (hk : k < 6) (ht : to < 6) : ∃ N, f_X2_inherit (c + 4) (nI k) (nI to) M = some N ∧ Fc M N c ∧ CB X N c (h_rows k to w.1, w.2) := by
  obtain ⟨π, n, rs, hV, hg⟩ := id h
  obtain ⟨hCL, hCP, hF, hK, hD, hw⟩ := id hV
  obtain ⟨h12, hn, hr⟩ := id hD
  unfold f_X2_inherit b_X2_inherit
  rw [q_ck2 hCL]
  have hlp := lp_cnt (step := fun s : Me × Int32 => s_X2_inherit_2 (c + 4) (nI k) (nI to) s.1 s.2) n
    (fun i s => ∃ g, s = (me_w M g, nI i) ∧ (∀ a j, ¬ (c + 6 ≤ a ∧ a < c + 18) → g a j = me_i M a j) ∧ ∀ j, j < n → g (c + 6 + π j) 0 = nI (if j < i then h_v k to (rs (π j)) else rs (π j)).1 ∧ g (c + 6 + π j) 1 = nI (if j < i then h_v k to (rs (π j)) else rs (π j)).2.1 ∧ g (c + 6 + π j) 2 = nI (if j < i then h_v k to (rs (π j)) else rs (π j)).2.2.1 ∧ g (c + 6 + π j) 3 = nI (rs (π j)).2.2.2 ∧ g (c + 6 + π j) 4 = (if j < i ∧ h_st k to (rs (π j)) = false then 1 else 0))
    (fun s => ∃ g, s = (me_w M g, nI n) ∧ (∀ a j, ¬ (c + 6 ≤ a ∧ a < c + 18) → g a j = me_i M a j) ∧ ∀ j, j < n → g (c + 6 + π j) 0 = nI (h_v k to (rs (π j))).1 ∧ g (c + 6 + π j) 1 = nI (h_v k to (rs (π j))).2.1 ∧ g (c + 6 + π j) 2 = nI (h_v k to (rs (π j))).2.2.1 ∧ g (c + 6 + π j) 3 = nI (rs (π j)).2.2.2 ∧ g (c + 6 + π j) 4 = (if h_st k to (rs (π j)) = false then 1 else 0))
    ?_ ?_ (M, 0) ⟨fun a j => me_i M a j, by rw [nI_0]; rfl, fun _ _ _ => rfl, fun j hj => by
      obtain ⟨r0, r1, r2, r3, b⟩ := hr j hj
      rw [if_neg (by omega), if_neg (by omega)]
      exact ⟨r0, r1, r2, r3, hg j hj⟩⟩
  · obtain ⟨x, hx, g, rfl, a1, a2⟩ := hlp
    rw [hx]
    simp only [Option.bind_some]
    have hV2 : CV X (me_w M g) c π n (fun o => h_v k to (rs o)) (h_rows k to w.1, w.2) := by
      refine ⟨hCL, hCP, hF.same (fun a j _ => a1 a j (by omega)), hK.same (fun a j _ _ => a1 a j (by omega)), ⟨h12, by rw [i_w, a1 _ _ (by omega)]; exact hn, fun i hi => ?_⟩, ?_⟩
      · obtain ⟨r0, r1, r2, r3, b⟩ := hr i hi
        obtain ⟨s0, s1, s2, s3, s4⟩ := a2 i hi
        exact ⟨s0, s1, s2, by rw [h_v_day]; exact s3, h_v_rb ht b⟩
      · have e := lv_step (M := M) (N := me_w M g) (c := c) (π := π) (n := n) (rs := rs) (p := h_st k to) (fun i hi => by
          rw [i_w, (a2 i hi).2.2.2.2, hg i hi]
          cases h_st k to (rs (π i)) <;> simp)
        show (w.1.filter (h_st k to)).map (h_v k to) = _
        rw [hw, ← e, List.map_map]; rfl
    obtain ⟨N, s1, s2, -, -, s5⟩ := hV2.sweep
    rw [cM_e s1]
    exact ⟨N, rfl, (Fc.w (fun a j z => a1 a j (by omega))).trans s2, s5⟩
  · rintro i s hi ⟨g, rfl, a1, a2⟩
    obtain ⟨r0, r1, r2, r3, b0, b1, b2, b3⟩ := hr i hi
    obtain ⟨g0, g1, g2, g3, g4⟩ := a2 i hi
    rw [if_neg (by omega)] at g0 g1 g2
    rw [if_neg (by omega)] at g4
    have hp := (hCP.1 i (by omega)).1
    have hC2 : CL (me_w M g) c := hCL
    have hP2 : CP (me_w M g) c π := hCP
    have n1 : ¬ (12 : Int32) ≤ nI i := by rw [c_12]; exact nI_ge (by omega) (by omega)
    have n2 : ¬ nI n ≤ nI i := nI_ge hi (by omega)
    have e4 : me_i (me_w M g) (c + 4) 0 = nI n := by rw [i_w, a1 _ _ (by omega)]; exact hn
    have hbd := h_body (M := me_w M g) (o := c + 6 + π i) (k := k) (to := to) (hCL.2.2.2.2.1 _ hp) g0 g1 g2 b0 b1 b2 hk ht
    have hne : ∀ j, j < n → j ≠ i → π j ≠ π i := fun j hj hji z => hji (hCP.2 j i (by omega) (by omega) z)
    by_cases hq : (rs (π i)).1 = k ∨ (rs (π i)).2.1 = k
    · refine ⟨_, ?_, fun a j => me_i (me_si (me_si (me_si (me_si (me_w M g) (c + 6 + π i) 0 (nI (if (rs (π i)).1 = k then to else (rs (π i)).1))) (c + 6 + π i) 1 (nI (if (rs (π i)).2.1 = k then to else (rs (π i)).2.1))) (c + 6 + π i) 2 (nI ((rs (π i)).2.2.1 / 2))) (c + 6 + π i) 4 (if (rs (π i)).2.2.1 / 2 = 0 ∨ (if (rs (π i)).1 = k then to else (rs (π i)).1) = (if (rs (π i)).2.1 = k then to else (rs (π i)).2.1) then 1 else 0)) a j, rfl, fun a j haj => ?_, fun j hj => ?_⟩
      · show s_X2_inherit_2 (c + 4) (nI k) (nI to) (me_w M g) (nI i) = _
        unfold s_X2_inherit_2
        simp only [let_v]
        rw [if_neg n1, q_gi2 hC2, e4, if_neg n2, q_d1 hC2, q_row hC2 hP2 (by omega), q_gi1 hC2 hp, show me_i (me_w M g) (c + 6 + π i) 0 = _ from g0, nI_1]
        by_cases q1 : (rs (π i)).1 = k
        · rw [if_pos (show nI (rs (π i)).1 = nI k by rw [q1]), hbd]; rfl
        · rw [if_neg (nI_ne (by omega) (by omega) q1), q_gi1 hC2 hp, show me_i (me_w M g) (c + 6 + π i) 1 = _ from g1, if_pos (show nI (rs (π i)).2.1 = nI k by rw [hq.resolve_left q1]), hbd]; rfl
      · dsimp only
        rw [si_ne (by omega), si_ne (by omega), si_ne (by omega), si_ne (by omega)]
        exact a1 a j haj
      · dsimp only
        by_cases hji : j = i
        · subst hji
          rw [if_pos (show j < j + 1 by omega), h_v_yes hq]
          refine ⟨?_, ?_, ?_, ?_, ?_⟩
          · rw [si_ne (by omega), si_ne (by omega), si_ne (by omega), si_self]
          · rw [si_ne (by omega), si_ne (by omega), si_self]
          · rw [si_ne (by omega), si_self]
          · rw [si_ne (by omega), si_ne (by omega), si_ne (by omega), si_ne (by omega)]; exact g3
          · rw [si_self]
            by_cases z : h_st k to (rs (π j)) = true
            · rw [if_neg, if_neg]
              · rw [z]; simp
              · intro y; exact h_st_t.mp z ⟨hq, y⟩
            · rw [if_pos, if_pos]
              · exact ⟨by omega, by simpa using z⟩
              · have y := Classical.not_not.mp (fun y => z (h_st_t.mpr y))
                exact y.2
        · have hnj := hne j hj hji
          have e : (j < i + 1) = (j < i) := propext (by omega)
          rw [si_ne (by omega), si_ne (by omega), si_ne (by omega), si_ne (by omega), si_ne (by omega), si_ne (by omega), si_ne (by omega), si_ne (by omega), si_ne (by omega), si_ne (by omega), si_ne (by omega), si_ne (by omega), si_ne (by omega), si_ne (by omega), si_ne (by omega), si_ne (by omega), si_ne (by omega), si_ne (by omega), si_ne (by omega), si_ne (by omega)]
          simp only [e]
          exact a2 j hj
    · refine ⟨(me_w M g, nI (i + 1)), ?_, g, rfl, a1, fun j hj => ?_⟩
      · show s_X2_inherit_2 (c + 4) (nI k) (nI to) (me_w M g) (nI i) = _
        unfold s_X2_inherit_2
        simp only [let_v]
        rw [if_neg n1, q_gi2 hC2, e4, if_neg n2, q_d1 hC2, q_row hC2 hP2 (by omega), q_gi1 hC2 hp, show me_i (me_w M g) (c + 6 + π i) 0 = _ from g0, nI_1, if_neg (nI_ne (by omega) (by omega) (fun z => hq (Or.inl z))), q_gi1 hC2 hp, show me_i (me_w M g) (c + 6 + π i) 1 = _ from g1, if_neg (nI_ne (by omega) (by omega) (fun z => hq (Or.inr z)))]; rfl
      · by_cases hji : j = i
        · subst hji
          have z : h_st k to (rs (π j)) = true := h_st_t.mpr (fun y => hq y.1)
          rw [if_pos (show j < j + 1 by omega), h_v_no hq, if_neg (show ¬ (j < j + 1 ∧ h_st k to (rs (π j)) = false) by rw [z]; simp)]
          exact ⟨g0, g1, g2, g3, g4⟩
        · have e : (j < i + 1) = (j < i) := propext (by omega)
          simp only [e]
          exact a2 j hj
  · rintro s ⟨g, rfl, a1, a2⟩
    refine ⟨(me_w M g, nI n), ?_, g, rfl, a1, fun j hj => ?_⟩
    · show s_X2_inherit_2 (c + 4) (nI k) (nI to) (me_w M g) (nI n) = _
      unfold s_X2_inherit_2
      have hC2 : CL (me_w M g) c := hCL
      have e4 : me_i (me_w M g) (c + 4) 0 = nI n := by rw [i_w, a1 _ _ (by omega)]; exact hn
      rw [q_gi2 hC2, e4, if_pos (nI_le (Nat.le_refl _) (by omega))]
      split <;> rfl
    · have q := a2 j hj
      simp only [hj, if_true, true_and] at q
      exact q
theorem CB.leave {Y : Cx} (h : CB X M c w) (h1 : Y.2 = X.2) (hb : ∀ j, j < 6 → Y.1.testBit j = (if j = k then false else X.1.testBit j)) : CB Y (me_si M (c + 22 + k) 0 0) c w := by
  obtain ⟨π, n, rs, ⟨hCL, hCP, hF, hK, hD, hw⟩, hm⟩ := h
  have ei : ∀ a j, ¬ a = c + 22 + k → me_i (me_si M (c + 22 + k) 0 0) a j = me_i M a j := fun a j q => by rw [si_ne (by omega)]
  have hp : ∀ i, i < n → π i < 12 := fun i hi => (hCP.1 i (by have := hD.1; omega)).1
  refine ⟨π, n, rs, ⟨hCL, hCP, ?_, fun j hj => ?_, hD.same hCP (ei _ _ (by omega)) (fun a j q1 q2 _ => ei _ _ (by omega)), ?_⟩, fun i hi => ?_⟩
  · have q := hF.same (N := me_si M (c + 22 + k) 0 0) (fun a j _ => ei _ _ (by omega))
    unfold CF at q ⊢
    rw [h1]
    exact q
  · rw [hb j hj, h1]
    by_cases q : j = k
    · subst q
      rw [if_pos rfl, si_self]
      exact ⟨rfl, fun z => by cases z⟩
    · rw [if_neg q]
      have q2 := hK j hj
      have e : ∀ f, me_i (me_si M (c + 22 + k) 0 0) (c + 22 + j) f = me_i M (c + 22 + j) f := fun f => ei _ _ (by omega)
      simp only [e]
      exact q2
  · rw [lv_same hCP hD.1 (fun a q1 q2 => ei _ _ (by omega))]; exact hw
  · rw [ei _ _ (by have := hp i hi; omega)]; exact hm i hi
/-! of the reference -/
def RT (g : St) (l : List Rw) : Prop := ∀ i r, l[i]? = some r → g 79 (4 * i) = nI r.1 ∧ g 79 (4 * i + 1) = nI r.2.1 ∧ g 79 (4 * i + 2) = nI r.2.2.1 ∧ g 79 (4 * i + 3) = nI r.2.2.2
def ps (g : St) (n : Nat) (r : Rw) : St := ss (ss (ss (ss g 79 (4 * n) (nI r.1)) 79 (4 * n + 1) (nI r.2.1)) 79 (4 * n + 2) (nI r.2.2.1)) 79 (4 * n + 3) (nI r.2.2.2)
theorem ps_ne {g : St} {n a b : Nat} {r : Rw} (h : ¬ (a = 79 ∧ 4 * n ≤ b ∧ b ≤ 4 * n + 3)) : ps g n r a b = g a b := by
  unfold ps
  rw [ss_ne (by omega), ss_ne (by omega), ss_ne (by omega), ss_ne (by omega)]
theorem RT.push {g : St} {l : List Rw} {r : Rw} (h3 : RT g l) : RT (ps g l.length r) (l ++ [r]) := by
  intro i q hi
  by_cases hil : i < l.length
  · rw [List.getElem?_append_left hil] at hi
    obtain ⟨r0, r1, r2, r3⟩ := h3 i q hi
    refine ⟨?_, ?_, ?_, ?_⟩
    · rw [ps_ne (by omega)]; exact r0
    · rw [ps_ne (by omega)]; exact r1
    · rw [ps_ne (by omega)]; exact r2
    · rw [ps_ne (by omega)]; exact r3
  · have hlt := (List.getElem?_eq_some_iff.mp hi).1
    simp at hlt
    have hie : i = l.length := by omega
    subst hie
    rw [List.getElem?_append_right (Nat.le_refl _), Nat.sub_self] at hi
    obtain rfl : r = q := by simpa using hi
    unfold ps
    refine ⟨?_, ?_, ?_, ?_⟩
    · rw [ss_ne (by omega), ss_ne (by omega), ss_ne (by omega), ss_at]
    · rw [ss_ne (by omega), ss_ne (by omega), ss_at]
    · rw [ss_ne (by omega), ss_at]
    · rw [ss_at]
theorem h_rows_s {l : List Rw} {i : Nat} {r : Rw} (h : l[i]? = some r) : h_rows k to (l.take (i + 1)) = h_rows k to (l.take i) ++ (if h_st k to r = true then [h_v k to r] else []) := by
  unfold h_rows
  rw [(tk_s l i r h).1, List.filter_append, List.map_append]
  congr 1
  by_cases q : h_st k to r = true
  · rw [if_pos q, List.filter_cons_of_pos q]; rfl
  · rw [if_neg q, List.filter_cons_of_neg q]; rfl
theorem h_rows_len {l : List Rw} : (h_rows k to l).length ≤ l.length := by
  unfold h_rows
  rw [List.length_map]
  exact List.length_filter_le _ _
theorem e_hstep {g : St} {l : List Rw} {i : Nat} {r : Rw} (hL : Lay M) (h13 : g 70 13 = nI l.length) (h12 : l.length ≤ 12) (hr : l[i]? = some r) (hB : RB r) (hk : k < 6) (ht : to < 6) (hT : RT g (h_rows k to (l.take i))) (hU : ∀ j q, i ≤ j → l[j]? = some q → g 79 (4 * j) = nI q.1 ∧ g 79 (4 * j + 1) = nI q.2.1 ∧ g 79 (4 * j + 2) = nI q.2.2.1 ∧ g 79 (4 * j + 3) = nI q.2.2.2) :
    ∃ h, s_X12_heir_37 70 (nI k) (nI to) (me_w M g) (nI (h_rows k to (l.take i)).length) (nI i) = some (Sum.inl (me_w M h, nI (h_rows k to (l.take (i + 1))).length, nI (i + 1))) ∧ (∀ a b, a ≠ 79 → h a b = g a b) ∧ RT h (h_rows k to (l.take (i + 1))) ∧ (∀ j q, i + 1 ≤ j → l[j]? = some q → h 79 (4 * j) = nI q.1 ∧ h 79 (4 * j + 1) = nI q.2.1 ∧ h 79 (4 * j + 2) = nI q.2.2.1 ∧ h 79 (4 * j + 3) = nI q.2.2.2) := by
  have hi := (List.getElem?_eq_some_iff.mp hr).1
  obtain ⟨u0, u1, u2, u3⟩ := hU i r (Nat.le_refl _) hr
  obtain ⟨b0, b1, b2, b3⟩ := hB
  have hL2 : Lay (me_w M g) := hL
  have hle : (h_rows k to (l.take i)).length ≤ i := by
    have := h_rows_len (k := k) (to := to) (l := l.take i)
    have q : (l.take i).length ≤ i := by rw [List.length_take]; omega
    omega
  have hU2 : ∀ (v : Rw) j q, i + 1 ≤ j → l[j]? = some q → ps g (h_rows k to (l.take i)).length v 79 (4 * j) = nI q.1 ∧ ps g (h_rows k to (l.take i)).length v 79 (4 * j + 1) = nI q.2.1 ∧ ps g (h_rows k to (l.take i)).length v 79 (4 * j + 2) = nI q.2.2.1 ∧ ps g (h_rows k to (l.take i)).length v 79 (4 * j + 3) = nI q.2.2.2 := by
    intro v j q hj hq
    rw [ps_ne (by omega), ps_ne (by omega), ps_ne (by omega), ps_ne (by omega)]
    exact hU j q (by omega) hq
  have wr : ∀ s q m : Nat, (gr (me_w M g) 70 12 14 fun o32 => si (me_w M g) o32 (nI (4 * (h_rows k to (l.take i)).length)) (nI s) fun M33 => gr M33 70 12 14 fun o34 => si M33 o34 (nI (4 * (h_rows k to (l.take i)).length + 1)) (nI q) fun M35 => gr M35 70 12 14 fun o36 => si M35 o36 (nI (4 * (h_rows k to (l.take i)).length + 2)) (nI m) fun M37 => gr M37 70 12 14 fun o38 => gr M37 70 12 14 fun o39 => li M37 o39 (nI (4 * i + 3)) fun v40 => si M37 o38 (nI (4 * (h_rows k to (l.take i)).length + 3)) v40 fun M41 => some (M41, nI ((h_rows k to (l.take i)).length + 1))) = some (me_w M (ps g (h_rows k to (l.take i)).length (s, q, m, r.2.2.2)), nI ((h_rows k to (l.take i)).length + 1)) := by
    intro s q m
    generalize (h_rows k to (l.take i)).length = a at hle
    rw [m_gr14 hL2, m_si79 hL2 (by omega), m_gr14 (by exact hL2), m_si79 (by exact hL2) (by omega), m_gr14 (by exact hL2), m_si79 (by exact hL2) (by omega), m_gr14 (by exact hL2), m_gr14 (by exact hL2), m_li79 (by exact hL2) (by omega), m_si79 (by exact hL2) (by omega), si_ne (by omega), si_ne (by omega), si_ne (by omega), i_w, u3]
    rfl
  have ix4 : ∀ n : Nat, (4 : Int32) * nI n = nI (4 * n) := fun n => by rw [c_4, pk_mul]
  have nx2 : ∀ n : Nat, nI n + 2 = nI (n + 2) := fun n => by rw [c_2, nI_add]
  have nx3 : ∀ n : Nat, nI n + 3 = nI (n + 3) := fun n => by rw [c_3, nI_add]
  have e13 : (if nI r.1 = nI k then some (1 : Int32) else if nI r.2.1 = nI k then some (1 : Int32) else some (0 : Int32)) = some (if r.1 = k ∨ r.2.1 = k then 1 else 0) := by
    rw [i_eq (by omega) (by omega), i_eq (by omega) (by omega)]
    by_cases q1 : r.1 = k
    · rw [if_pos q1, if_pos (Or.inl q1)]
    · rw [if_neg q1]
      by_cases q2 : r.2.1 = k
      · rw [if_pos q2, if_pos (Or.inr q2)]
      · rw [if_neg q2, if_neg (fun z => z.elim q1 q2)]
  have e19 : (if nI r.1 = nI k then some (nI to) else some (nI r.1)) = some (nI (if r.1 = k then to else r.1)) := by
    rw [i_eq (by omega) (by omega)]; split <;> rfl
  have e20 : (if nI r.2.1 = nI k then some (nI to) else some (nI r.2.1)) = some (nI (if r.2.1 = k then to else r.2.1)) := by
    rw [i_eq (by omega) (by omega)]; split <;> rfl
  have step : (h_gone k to r → s_X12_heir_37 70 (nI k) (nI to) (me_w M g) (nI (h_rows k to (l.take i)).length) (nI i) = some (Sum.inl (me_w M g, nI (h_rows k to (l.take i)).length, nI (i + 1)))) ∧ (¬ h_gone k to r → s_X12_heir_37 70 (nI k) (nI to) (me_w M g) (nI (h_rows k to (l.take i)).length) (nI i) = some (Sum.inl (me_w M (ps g (h_rows k to (l.take i)).length (h_v k to r)), nI ((h_rows k to (l.take i)).length + 1), nI (i + 1)))) := by
    unfold s_X12_heir_37
    simp only [let_v, ix4, nI_1, nx2, nx3]
    rw [m_gi hL2, show me_i (me_w M g) 70 13 = nI l.length from h13, if_neg (nI_ge hi (by omega)), m_gr14 hL2, m_li79 hL2 (by omega), m_gr14 hL2, m_li79 hL2 (by omega), show me_i (me_w M g) 79 (4 * i) = nI r.1 from u0, show me_i (me_w M g) 79 (4 * i + 1) = nI r.2.1 from u1, e13]
    simp only [Option.bind_some]
    by_cases hq : r.1 = k ∨ r.2.1 = k
    · have a6 : (if r.1 = k then to else r.1) < 6 := by split <;> omega
      have b6 : (if r.2.1 = k then to else r.2.1) < 6 := by split <;> omega
      rw [if_pos hq, if_neg (show ¬ (1 : Int32) = 0 by decide), m_gr14 hL2, m_li79 hL2 (by omega), show me_i (me_w M g) 79 (4 * i + 2) = nI r.2.2.1 from u2, c_2, pk_div (by omega) (by omega) (by omega)]
      simp only [Option.bind_some]
      rw [e19]
      simp only [Option.bind_some]
      rw [e20]
      simp only [Option.bind_some]
      rw [if_neg (show ¬ (1 : Int32) = 0 by decide), i_le0 (by omega), i_eq (by omega) (by omega), wr]
      refine ⟨fun z => ?_, fun z => ?_⟩
      · by_cases z1 : r.2.2.1 / 2 = 0
        · rw [if_pos z1]; rfl
        · rw [if_neg z1, if_pos (z.2.resolve_left z1)]; rfl
      · rw [if_neg (fun z1 => z ⟨hq, Or.inl z1⟩), if_neg (fun z1 => z ⟨hq, Or.inr z1⟩), h_v_yes hq]; rfl
    · rw [if_neg hq, if_pos rfl, m_gr14 hL2, m_li79 hL2 (by omega), show me_i (me_w M g) 79 (4 * i + 2) = nI r.2.2.1 from u2]
      simp only [Option.bind_some, if_true]
      rw [e19]
      simp only [Option.bind_some]
      rw [e20]
      simp only [Option.bind_some]
      rw [wr, if_neg (fun z => hq (Or.inl z)), if_neg (fun z => hq (Or.inr z))]
      refine ⟨fun z => absurd z.1 hq, fun z => ?_⟩
      rw [h_v_no hq]; rfl
  rw [h_rows_s hr]
  by_cases z : h_gone k to r
  · have q : ¬ h_st k to r = true := fun y => h_st_t.mp y z
    rw [if_neg q, List.append_nil]
    exact ⟨g, step.1 z, fun _ _ _ => rfl, hT, fun j q hj hq => hU j q (by omega) hq⟩
  · rw [if_pos (h_st_t.mpr z), List.length_append]
    exact ⟨_, step.2 z, fun a b q => ps_ne (by omega), hT.push, hU2 _⟩
end HE
theorem t_clr : ∀ t, t < 64 → ∀ k, k < 6 → t.testBit k = true → (nI t &&& (((1 : Int32) <<< (nI k &&& 31)) ^^^ (-1 : Int32)) = nI (t - 2 ^ k)) ∧ t - 2 ^ k < 64 ∧ ∀ j, j < 6 → (t - 2 ^ k).testBit j = (if j = k then false else t.testBit j) := by decide +kernel
theorem iv_op4 : ∀ n M, n < 512 → Iv n M → op_4 (Iv (n + 1)) M := by
  intro n M hn h x1 x2
  obtain ⟨hL, hlen, ⟨hCL, π, hCP, c0, y, t, D, nd, sg, hV, hR⟩, hJ, hP, hI⟩ := id h
  have ht70 : me_i M 70 3 = nI t := hV.1.2.2.1.1
  have ht := hV.1.2.2.1.2
  by_cases h1 : tv t x1 = 0
  · refine ⟨-1, M, M, ?_, ?_, h.next hn⟩
    · unfold f_X11_heir b_X11_heir
      rw [ck_e (lk_0 hL), gr_e (lk_0 hL) (lr_0_1 hL), cR_e (e_knightAt hCL), gi_e (kn_kind hCL), kn_there hR, if_pos h1]
    · unfold f_X12_heir b_X12_heir
      rw [ck_e (lk_70 hL), cP_e (e_isThere (lk_70 hL) ht70 ht), if_pos h1]
  by_cases h2 : wl (st_m M) t x2 = 0
  · refine ⟨-1, M, M, ?_, ?_, h.next hn⟩
    · unfold f_X11_heir b_X11_heir
      rw [ck_e (lk_0 hL), gr_e (lk_0 hL) (lr_0_1 hL), cR_e (e_knightAt hCL), gi_e (kn_kind hCL), kn_there hR, if_neg h1, gr_e (lk_0 hL) (lr_0_1 hL), cR_e (e_knightAt hCL), cP_e (e_isAlive hCL hR), if_pos h2]
    · unfold f_X12_heir b_X12_heir
      rw [ck_e (lk_70 hL), cP_e (e_isThere (lk_70 hL) ht70 ht), if_neg h1, cP_e (e_isThere (lk_70 hL) ht70 ht)]
      by_cases h3 : tv t x2 = 0
      · rw [if_pos h3]
      · rw [if_neg h3]
        by_cases h4 : x1 = x2
        · rw [if_pos h4]
        · rw [if_neg h4]
          unfold wl at h2
          rw [if_neg h3] at h2
          obtain ⟨q, hq, rfl, hqb⟩ := tv_yes h3
          rw [nI_clamp (by omega)] at h2
          obtain ⟨b, hb1, hb2⟩ := (hV.2.2.1 q hq hqb).2.2.2.2
          rw [hb1, i_le0 (by omega)] at h2
          have hb0 : b = 0 := by
            by_cases hb0 : b = 0
            · exact hb0
            · rw [if_neg hb0] at h2; exact absurd h2 (by decide)
          rw [m_gr11 hL, m_li77 hL hq, show me_i M 77 q = nI b from hb1, hb0, if_pos nI_0]
  obtain ⟨k, hk, rfl, hkb⟩ := tv_yes h1
  obtain ⟨q, hq, rfl, hqb, hqw⟩ := wl_yes h2
  have h3 : ¬ tv t (nI q) = 0 := by rw [tv_one hq hqb]; decide
  by_cases h4 : k = q
  · subst h4
    refine ⟨-1, M, M, ?_, ?_, h.next hn⟩
    · unfold f_X11_heir b_X11_heir
      rw [ck_e (lk_0 hL), gr_e (lk_0 hL) (lr_0_1 hL), cR_e (e_knightAt hCL), gi_e (kn_kind hCL), kn_there hR, if_neg h1, gr_e (lk_0 hL) (lr_0_1 hL), cR_e (e_knightAt hCL), cP_e (e_isAlive hCL hR), if_neg h2, if_pos rfl]
    · unfold f_X12_heir b_X12_heir
      rw [ck_e (lk_70 hL), cP_e (e_isThere (lk_70 hL) ht70 ht), if_neg h1, cP_e (e_isThere (lk_70 hL) ht70 ht), if_neg h3, if_pos rfl]
  have h4b : ¬ nI k = nI q := nI_ne (by omega) (by omega) h4
  obtain ⟨b, hb1, hb2⟩ := (hV.2.2.1 q hq hqb).2.2.2.2
  have hb0 : b ≠ 0 := fun z => hqw (by rw [hb1, z, nI_0]; decide)
  obtain ⟨tc1, tc2, tc3⟩ := t_clr t ht k hk hkb
  have hX := val_X hV
  have hW := val_W hV (by omega)
  have hST := ST.of hV (by omega)
  have hB0 : CB (x_of (st_m M) t y c0) M 3 (w_of (st_m M) D nd) := val_CB hV (by omega) hCL hCP hR.pn
  have hB1 : CB (t - 2 ^ k, (x_of (st_m M) t y c0).2) (me_si M (3 + 22 + k) 0 0) 3 (w_of (st_m M) D nd) := hB0.leave rfl tc3
  obtain ⟨N, i1, i2, i3⟩ := e_inherit hB1 hk hq
  have hLN : Lay N := ⟨fun a ha => by unfold me_k; rw [i2.1]; exact hL.1 a ha, fun a ha q1 q2 q3 z => (i2.2.1 a z (by omega)).trans (hL.2 a ha q1 q2 q3 z)⟩
  have hsN : ∀ a z, (a < 3 ∨ 31 ≤ a) → me_i N a z = me_i M a z := fun a z q1 => by rw [i2.2.2 a z (by omega), si_ne (by omega)]
  have hlen2 : (w_of (st_m M) D nd).1.length ≤ 12 := hW.1
  have h13 : me_i N 70 13 = nI (w_of (st_m M) D nd).1.length := (hsN _ _ (by omega)).trans hST.1.2.2.2.2
  have hrow : ∀ j r, (w_of (st_m M) D nd).1[j]? = some r → me_i N 79 (4 * j) = nI r.1 ∧ me_i N 79 (4 * j + 1) = nI r.2.1 ∧ me_i N 79 (4 * j + 2) = nI r.2.2.1 ∧ me_i N 79 (4 * j + 3) = nI r.2.2.2 := by
    intro j r hr
    rw [hsN _ _ (by omega), hsN _ _ (by omega), hsN _ _ (by omega), hsN _ _ (by omega)]
    exact hST.2.2.2 j r hr
  have hlp := lp_cnt (step := fun s : Me × Int32 × Int32 => s_X12_heir_37 70 (nI k) (nI q) s.1 s.2.1 s.2.2) (w_of (st_m M) D nd).1.length
    (fun i s => ∃ g, s = (me_w N g, nI (h_rows k q ((w_of (st_m M) D nd).1.take i)).length, nI i) ∧ (∀ a z, a ≠ 79 → g a z = me_i N a z) ∧ RT g (h_rows k q ((w_of (st_m M) D nd).1.take i)) ∧ (∀ j r, i ≤ j → (w_of (st_m M) D nd).1[j]? = some r → g 79 (4 * j) = nI r.1 ∧ g 79 (4 * j + 1) = nI r.2.1 ∧ g 79 (4 * j + 2) = nI r.2.2.1 ∧ g 79 (4 * j + 3) = nI r.2.2.2))
    (fun s => ∃ g, s = (me_w N g, nI (h_rows k q (w_of (st_m M) D nd).1).length, nI (w_of (st_m M) D nd).1.length) ∧ (∀ a z, a ≠ 79 → g a z = me_i N a z) ∧ RT g (h_rows k q (w_of (st_m M) D nd).1))
    ?_ ?_ (N, 0, 0) ⟨fun a z => me_i N a z, by rw [List.take_zero]; exact congrArg (fun z => (N, z, z)) nI_0.symm, fun _ _ _ => rfl, fun i r hi => (by rw [List.take_zero] at hi; cases hi), fun j r _ hr => hrow j r hr⟩
  rotate_left
  · rintro i s hi ⟨g, rfl, a1, a2, a3⟩
    have hr : (w_of (st_m M) D nd).1[i]? = some (w_of (st_m M) D nd).1[i] := List.getElem?_eq_getElem hi
    obtain ⟨u, s1, s2, s3, s4⟩ := e_hstep hLN ((a1 70 13 (by omega)).trans h13) hlen2 hr (hW.rb hX _ (List.getElem_mem hi)) hk hq a2 a3
    exact ⟨_, s1, u, rfl, fun a z q1 => (s2 a z q1).trans (a1 a z q1), s3, s4⟩
  · rintro s ⟨g, rfl, a1, a2, a3⟩
    rw [List.take_length] at a2 ⊢
    refine ⟨_, ?_, g, rfl, a1, a2⟩
    show s_X12_heir_37 70 (nI k) (nI q) (me_w N g) _ (nI (w_of (st_m M) D nd).1.length) = _
    unfold s_X12_heir_37
    rw [m_gi (by exact hLN), show me_i (me_w N g) 70 13 = _ from (a1 70 13 (by omega)).trans h13, if_pos (nI_le (Nat.le_refl _) (by omega))]
  obtain ⟨sx, l1, g, rfl, l2, l3⟩ := hlp
  have hl3 : (h_rows k q (w_of (st_m M) D nd).1).length ≤ 12 := Nat.le_trans h_rows_len hlen2
  have h70 : g 70 3 = nI t := (l2 70 3 (by omega)).trans ((hsN _ _ (by omega)).trans ht70)
  have sM : ∀ a z, a ≠ 79 → ¬ (a = 70 ∧ (z = 13 ∨ z = 3)) → me_i (me_si (me_si (me_w N g) 70 13 (nI (h_rows k q (w_of (st_m M) D nd).1).length)) 70 3 (nI (t - 2 ^ k))) a z = me_i N a z := fun a z q1 q2 => by rw [si_ne (by omega), si_ne (by omega), i_w, l2 _ _ q1]
  refine ⟨nI (cn (t - 2 ^ k) 12), N, me_si (me_si (me_w N g) 70 13 (nI (h_rows k q (w_of (st_m M) D nd).1).length)) 70 3 (nI (t - 2 ^ k)), ?_, ?_, ?_⟩
  · unfold f_X11_heir b_X11_heir
    have eL : f_X4_leave (3 + 22 + k) M = some (me_si M (3 + 22 + k) 0 0) := by
      unfold f_X4_leave b_X4_leave
      rw [q_ck4 hCL hk, q_pz4 hCL hk (Or.inl rfl)]
    have eK : f_X0_countKnights 3 N = some (nI (cn (t - 2 ^ k) 12)) := e_countKnights i3.CL tc2 (fun j hj => (i3.K j hj).1)
    rw [ck_e (lk_0 hL), gr_e (lk_0 hL) (lr_0_1 hL), cR_e (e_knightAt hCL), gi_e (kn_kind hCL), kn_there hR, if_neg h1, gr_e (lk_0 hL) (lr_0_1 hL), cR_e (e_knightAt hCL), cP_e (e_isAlive hCL hR), if_neg h2, if_neg h4b, gr_e (lk_0 hL) (lr_0_1 hL), cR_e (e_knightAt hCL), kn_k hk, cM_e eL, gr_e (by exact lk_0 hL) (by exact lr_0_1 hL), gr_e (by exact lk_3 hL) (by exact lr_3_2 hL), cM_e i1, gr_e (lk_0 hLN) (lr_0_1 hLN), cP_e eK]
  · unfold f_X12_heir b_X12_heir
    have t70N : me_i N 70 3 = nI t := (hsN _ _ (by omega)).trans ht70
    have b77 : me_i N 77 q = nI b := (hsN _ _ (by omega)).trans hb1
    rw [ck_e (lk_70 hLN), cP_e (e_isThere (lk_70 hLN) t70N ht), if_neg h1, cP_e (e_isThere (lk_70 hLN) t70N ht), if_neg h3, if_neg h4b, m_gr11 hLN, m_li77 hLN hq, b77, if_neg (nI_ne0 (by omega) (by omega)), l1]
    simp only [Option.bind_some]
    rw [m_pi (by exact hLN), m_gi (by exact hLN), m_pi (by exact hLN), m_gi (by exact hLN), si_self, si_ne (by omega), i_w, h70, tc1, cP_e (e_bits (by omega))]
  · have hST2 : ST (t - 2 ^ k, (x_of (st_m M) t y c0).2) (h_rows k q (w_of (st_m M) D nd).1, (w_of (st_m M) D nd).2) (st_m (me_si (me_si (me_w N g) 70 13 (nI (h_rows k q (w_of (st_m M) D nd).1).length)) 70 3 (nI (t - 2 ^ k)))) := by
      obtain ⟨⟨a1, a2, a3, a4, a5⟩, hr2, hk2, hd2⟩ := id hST
      have sS : ∀ a z, 31 ≤ a → a ≠ 79 → ¬ (a = 70 ∧ (z = 13 ∨ z = 3)) → st_m (me_si (me_si (me_w N g) 70 13 (nI (h_rows k q (w_of (st_m M) D nd).1).length)) 70 3 (nI (t - 2 ^ k))) a z = st_m M a z := fun a z q1 q2 q3 => (sM a z q2 q3).trans (hsN a z (by omega))
      refine ⟨⟨(sS _ _ (by omega) (by omega) (by omega)).trans a1, (sS _ _ (by omega) (by omega) (by omega)).trans a2, si_self, (sS _ _ (by omega) (by omega) (by omega)).trans a4, (si_ne (by omega)).trans si_self⟩, fun i hi => (sS _ _ (by omega) (by omega) (by omega)).trans (hr2 i hi), fun j hj hjt => ?_, fun i r hi => ?_⟩
      · have hjt2 : (t - 2 ^ k).testBit j = true := hjt
        rw [tc3 j hj] at hjt2
        have hjt3 : t.testBit j = true := by
          by_cases z : j = k
          · rw [if_pos z] at hjt2; cases hjt2
          · rw [if_neg z] at hjt2; exact hjt2
        rw [sS _ _ (by omega) (by omega) (by omega), sS _ _ (by omega) (by omega) (by omega), sS _ _ (by omega) (by omega) (by omega), sS _ _ (by omega) (by omega) (by omega), sS _ _ (by omega) (by omega) (by omega), sS _ _ (by omega) (by omega) (by omega)]
        exact hk2 j hj hjt3
      · have q3 := l3 i r hi
        have e : ∀ z, st_m (me_si (me_si (me_w N g) 70 13 (nI (h_rows k q (w_of (st_m M) D nd).1).length)) 70 3 (nI (t - 2 ^ k))) 79 z = g 79 z := fun z => (si_ne (by omega)).trans (si_ne (by omega))
        rw [e, e, e, e]
        exact q3
    have hX2 : XV (t - 2 ^ k, (x_of (st_m M) t y c0).2) := by
      obtain ⟨x1, x2, x3, x4, x5⟩ := hX
      refine ⟨tc2, x2, x3, fun j hj hjt => x4 j hj ?_, x5⟩
      have hjt2 : (t - 2 ^ k).testBit j = true := hjt
      rw [tc3 j hj] at hjt2
      by_cases z : j = k
      · rw [if_pos z] at hjt2; cases hjt2
      · rw [if_neg z] at hjt2; exact hjt2
    have tb : ∀ j, j < 6 → j ≠ k → t.testBit j = true → (t - 2 ^ k).testBit j = true := fun j hj z hjt => by rw [tc3 j hj, if_neg z]; exact hjt
    have hW2 : WV (t - 2 ^ k, (x_of (st_m M) t y c0).2) (h_rows k q (w_of (st_m M) D nd).1, (w_of (st_m M) D nd).2) := by
      have w3 : (w_of (st_m M) D nd).2.2.1 q 3 ≠ 0 := by
        have e := (hST.2.2.1 q hq hqb).2.2.2.2.1
        intro z
        rw [z] at e
        exact hb0 ((nI_eq (by omega) (by omega)).mp (hb1.symm.trans e))
      obtain ⟨w1, w2, w4, w5, w6⟩ := hW
      refine ⟨hl3, w2, fun j hj hjt => w4 j hj ?_, fun r hr => ?_, ?_⟩
      · have hjt2 : (t - 2 ^ k).testBit j = true := hjt
        rw [tc3 j hj] at hjt2
        by_cases z : j = k
        · rw [if_pos z] at hjt2; cases hjt2
        · rw [if_neg z] at hjt2; exact hjt2
      · obtain ⟨s, hs, rfl⟩ := List.mem_map.mp hr
        obtain ⟨hs1, hs2⟩ := List.mem_filter.mp hs
        obtain ⟨u1, u2, u3, u4, u5, u6, u7, u8, u9⟩ := w5 s hs1
        have hng := h_st_t.mp hs2
        by_cases z : s.1 = k ∨ s.2.1 = k
        · rw [h_v_yes z]
          have z2 : ¬ (if s.1 = k then q else s.1) = (if s.2.1 = k then q else s.2.1) := fun y => hng ⟨z, Or.inr y⟩
          refine ⟨?_, ?_, z2, ?_, ?_, ?_, ?_, Nat.le_trans (Nat.div_le_self _ _) u8, u9⟩
          · dsimp only; split <;> omega
          · dsimp only; split <;> omega
          · dsimp only
            split
            · exact tb q hq (fun y => h4 y.symm) hqb
            · exact tb _ u1 (by assumption) u4
          · dsimp only
            split
            · exact tb q hq (fun y => h4 y.symm) hqb
            · exact tb _ u2 (by assumption) u5
          · dsimp only
            split
            · exact w3
            · exact u6
          · dsimp only
            split
            · exact w3
            · exact u7
        · rw [h_v_no z]
          exact ⟨u1, u2, u3, tb _ u1 (fun y => z (Or.inl y)) u4, tb _ u2 (fun y => z (Or.inr y)) u5, u6, u7, u8, u9⟩
      · unfold h_rows
        rw [List.pairwise_map]
        refine (w6.sublist List.filter_sublist).imp ?_
        intro a z hab
        rw [h_v_day, h_v_day]; exact hab
    have e74 : ∀ z, st_m (me_si (me_si (me_w N g) 70 13 (nI (h_rows k q (w_of (st_m M) D nd).1).length)) 70 3 (nI (t - 2 ^ k))) 74 z = st_m M 74 z := fun z => (sM _ _ (by omega) (by omega)).trans (hsN _ _ (by omega))
    have e706 : st_m (me_si (me_si (me_w N g) 70 13 (nI (h_rows k q (w_of (st_m M) D nd).1).length)) 70 3 (nI (t - 2 ^ k))) 70 6 = st_m M 70 6 := (sM _ _ (by omega) (by omega)).trans (hsN _ _ (by omega))
    have hB4 : CB (t - 2 ^ k, (x_of (st_m M) t y c0).2) (me_si (me_si (me_w N g) 70 13 (nI (h_rows k q (w_of (st_m M) D nd).1).length)) 70 3 (nI (t - 2 ^ k))) 3 (h_rows k q (w_of (st_m M) D nd).1, (w_of (st_m M) D nd).2) := i3.out rfl (fun _ _ => rfl) (fun a z q1 q2 => sM _ _ (by omega) (by omega))
    have i18 : ∀ a z, 21 ≤ a → a < 25 → me_i (me_si (me_si (me_w N g) 70 13 (nI (h_rows k q (w_of (st_m M) D nd).1).length)) 70 3 (nI (t - 2 ^ k))) a z = me_i M a z := fun a z q1 q2 => by rw [sM _ _ (by omega) (by omega), i2.2.2 a z (by omega), si_ne (by omega)]
    obtain ⟨π3, p1, p2⟩ := hB4.rpn (sg := sg) hST2 (by rw [e706, i18 _ _ (by omega) (by omega)]; exact hR.2.2.2.2.1.1) (fun i hi => by rw [e74, e74, i18 _ _ (by omega) (by omega), i18 _ _ (by omega) (by omega)]; exact hR.2.2.2.2.1.2 i hi)
    have hsg := hV.1.2.2.2.2.2
    have hD := hV.1.2.2.2.1.2
    refine h.cou i2.1 (fun a z q1 => i2.2.1 a z (by omega)) ⟨hB4.CL, π3, p1, c0, y, t - 2 ^ k, D, _, sg, hST2.val hX2 hW2 (by show D ≤ _; omega) ⟨e706.trans hsg.1, hsg.2⟩ (fun i hi => by rw [e74, e74]; exact hV.2.2.2.2 i hi), p2.rep (by rw [i18 _ _ (by omega) (by omega)]; exact hR.2.2.1)⟩ (fun a z q1 => ?_)
    rw [sM _ _ (by omega) (by omega), hsN _ _ (by omega)]

/-! acts, of the reference -/
theorem up_comm {f : Nat → Nat → Nat} {k i j a b : Nat} (h : i ≠ j) : up (up f k i a) k j b = up (up f k j b) k i a := by
  funext x y
  unfold up
  by_cases h1 : x = k ∧ y = j
  · rw [if_pos h1, if_neg (by omega), if_pos h1]
  · rw [if_neg h1]
    by_cases h2 : x = k ∧ y = i
    · rw [if_pos h2, if_pos h2]
    · rw [if_neg h2, if_neg h2, if_neg h1]
theorem dw_len {l : List Rw} {p : Rw → Bool} {i : Nat} : (dw l p i).length ≤ l.length := by
  unfold dw
  have h1 := List.length_filter_le p (l.drop i)
  have h2 : (l.take i ++ l.drop i).length = l.length := by rw [List.take_append_drop]
  rw [List.length_append] at h2 ⊢
  omega
section MC
variable {X : Cx} {M : Me} {g : St} {w : Wd}
theorem e_mset {k ch : Nat} (hX0 : XV X) (hW : WV X w) (hL : Lay M) (h : RG X g w) (hk : k < 6) (hch : ch < 5) (hwhy : a_whyS X k ch w = 0) : ∃ h, f_X12_act 70 (nI k) (nI (48 + ch)) (me_w M g) = some (me_w M h) ∧ Fg g h ∧ RG X h (a_set X k ch w) := by
  have hL2 : ∀ q : St, Lay (me_w M q) := fun q => hL
  unfold a_whyS at hwhy
  split at hwhy
  · rename_i z; exact absurd hwhy z
  rename_i z0
  obtain ⟨al, g0⟩ := act_al (Classical.not_not.mp z0)
  obtain ⟨k1, k2, k3, k4⟩ := h.2.2.1 k hk al.1
  have wk := hW.2.2.1 k hk al.1
  have xc := hX0.2.2.1
  have xy := hX0.2.1
  have hDD := hW.2.1
  have hrd : X.2.2.2.2.2 (5 * w.2.2.1 k 5 + ch) ≤ 99 := hX0.2.2.2.2 _ (by omega)
  unfold f_X12_act b_X12_act a_set
  rw [m_ck (hL2 g), cP_e (e_in _ _ _ _), c_48, show (52 : Int32) = nI 52 by decide +kernel, in_one (by omega) (by omega) (by omega), if_neg (show ¬ (1 : Int32) = 0 by decide), m_gr1 (hL2 g), m_gr18 (hL2 g), m_li81 (hL2 g) hk, i_w, k1, c_5, pk_mul, nI_add, pk_sub (by omega), show 5 * w.2.2.1 k 5 + (48 + ch) - 48 = 5 * w.2.2.1 k 5 + ch by omega, m_li71 (hL2 g) (by omega), i_w, h.1.2.2.1 _ (by omega)]
  generalize X.2.2.2.2.2 (5 * w.2.2.1 k 5 + ch) = R at hrd ⊢
  have hmod : w.2.1 % X.2.1 < X.2.1 := Nat.mod_lt _ (by omega)
  rw [m_gr19 (hL2 g), m_gi (hL2 g), m_gi (hL2 g), i_w, i_w, h.2.1, h.1.1, if_neg (nI_ne0 (by omega) (by omega)), pk_rem (by omega) (by omega) (by omega), show (90 : Int32) = nI 90 by decide +kernel, c_2, pk_mul]
  generalize hT : (if w.2.1 % X.2.1 < 90 then 2 * R else R) = T
  have eT : (if nI 90 ≤ nI (w.2.1 % X.2.1) then some (nI R) else some (nI (2 * R))) = some (nI T) := by
    rw [← hT]
    by_cases q : w.2.1 % X.2.1 < 90
    · rw [if_neg (nI_ge q (by omega)), if_pos q]
    · rw [if_pos (nI_le (by omega) (by omega)), if_neg q]
  rw [eT]
  simp only [Option.bind_some]
  rw [m_si82 (hL2 g) hk, w_ss, m_gr18 (hL2 _), m_si81 (hL2 _) hk, w_ss, pk_sub (by omega), show 48 + ch - 48 = ch by omega]
  have hF : Fg g (ss (ss g 82 k (nI T)) 81 k (nI ch)) := (Fg.ss (by omega)).trans (Fg.ss (by omega))
  refine ⟨_, rfl, hF, h.1.same hF, ?_, ?_, ?_⟩
  · rw [ss_ne (by omega), ss_ne (by omega)]; exact h.2.1
  · show RK X _ (up (up w.2.2.1 k 5 ch) k 6 T) w.2.2.2
    rw [up_comm (by omega)]
    exact (h.2.2.1.s6).s5
  · exact h.2.2.2.same (by rw [ss_ne (by omega), ss_ne (by omega)]) (fun y => by rw [ss_ne (by omega), ss_ne (by omega)])
theorem e_mflinch {k : Nat} (hX0 : XV X) (hW : WV X w) (hL : Lay M) (h : RG X g w) (hk : k < 6) (hwhy : a_whyF X k w = 0) : ∃ h, f_X12_act 70 (nI k) 33 (me_w M g) = some (me_w M h) ∧ Fg g h ∧ RG X h (a_fl X k w) := by
  have hL2 : ∀ q : St, Lay (me_w M q) := fun q => hL
  unfold a_whyF at hwhy
  split at hwhy
  · rename_i z; exact absurd hwhy z
  rename_i z0
  obtain ⟨al, g0⟩ := act_al (Classical.not_not.mp z0)
  obtain ⟨k1, k2, k3, k4⟩ := h.2.2.1 k hk al.1
  have wk := hW.2.2.1 k hk al.1
  have h12 := hW.1
  have hR := h.2.2.2
  unfold f_X12_act b_X12_act
  rw [m_ck (hL2 g), cP_e (e_in _ _ _ _), show in_v 33 48 52 = 0 by decide +kernel, if_pos rfl, if_neg (show ¬ (33 : Int32) = 61 by decide), if_pos rfl]
  obtain ⟨x, hx, h2, rfl, f1, f2⟩ := lp_cnt (step := fun s : Me × Int32 => s_X12_act_92 70 (nI k) s.1 s.2) w.1.length
    (fun i s => ∃ h, s = (me_w M h, nI i) ∧ (∀ a y, ¬ (a = 85 ∧ y % 4 = 2) → h a y = g a y) ∧ ∀ j r, w.1[j]? = some r → h 85 (4 * j + 2) = nI (if j < i then (a_hv X k w r).2.2.1 else r.2.2.1))
    (fun x => ∃ h, x = (me_w M h, nI w.1.length) ∧ (∀ a y, ¬ (a = 85 ∧ y % 4 = 2) → h a y = g a y) ∧ ∀ j r, w.1[j]? = some r → h 85 (4 * j + 2) = nI (a_hv X k w r).2.2.1)
    (by
      rintro i s hi ⟨h2, rfl, f1, f2⟩
      have hr : w.1[i]? = some w.1[i] := List.getElem?_eq_getElem hi
      generalize w.1[i] = r at hr
      obtain ⟨r0, r1, r2, r3⟩ := hR.2.2 i r hr
      have hb := hW.rb hX0 r (List.mem_of_getElem? hr)
      have hX2 : RX X h2 := h.1.same (fun a y z1 z2 => f1 a y (by omega))
      have eo := e_owesHere (g := h2) (i := i) hX0 hW hL hX2 (by rw [f1 _ _ (by omega)]; exact h.2.1) (by rw [f1 _ _ (by omega)]; exact k1) hk wk.2.1 (by omega) (List.mem_of_getElem? hr) (by rw [f1 _ _ (by omega)]; exact r0) (by rw [f1 _ _ (by omega)]; exact r1) (by rw [f1 _ _ (by omega)]; exact r3)
      have e2 : h2 85 (4 * i + 2) = nI r.2.2.1 := by rw [f2 i r hr, if_neg (by omega)]
      refine ⟨(me_w M (ss h2 85 (4 * i + 2) (nI (a_hv X k w r).2.2.1)), nI (i + 1)), ?_, _, rfl, fun a y z => ?_, fun j q hj => ?_⟩
      · show s_X12_act_92 70 (nI k) (me_w M h2) (nI i) = _
        unfold s_X12_act_92 a_hv
        simp only [let_v]
        rw [m_gi (hL2 h2), i_w, f1 _ _ (by omega), hR.2.1, if_neg (nI_ge hi (by omega)), m_gr23 (hL2 h2), cP_e eo, c_4, pk_mul, c_2, nI_add]
        by_cases q : a_here X k w r = true
        · rw [if_pos q, if_pos q, if_neg (show ¬ (1 : Int32) = 0 by decide), m_gr23 (hL2 h2), m_li85 (hL2 h2) (by omega), i_w, e2, pk_div (by have := hb.2.2.1; omega) (by omega) (by omega)]
          simp only [Option.bind_some]
          rw [m_si85 (hL2 h2) (by omega), w_ss, nI_1]
        · rw [if_neg q, if_neg q, if_pos rfl, m_gr23 (hL2 h2), m_li85 (hL2 h2) (by omega), i_w, e2]
          simp only [Option.bind_some]
          rw [m_si85 (hL2 h2) (by omega), w_ss, nI_1]
      · rw [ss_ne (by omega)]; exact f1 a y z
      · by_cases hji : j = i
        · subst hji
          rw [hr] at hj
          obtain rfl := Option.some.inj hj
          rw [ss_at, if_pos (by omega)]
        · rw [ss_ne (by omega), f2 j q hj]
          have e : (j < i + 1) = (j < i) := propext (by omega)
          simp only [e])
    (by
      rintro s ⟨h2, rfl, f1, f2⟩
      refine ⟨_, ?_, h2, rfl, f1, fun j r hj => ?_⟩
      · show s_X12_act_92 70 (nI k) (me_w M h2) (nI w.1.length) = _
        unfold s_X12_act_92
        rw [m_gi (hL2 h2), i_w, f1 _ _ (by omega), hR.2.1, if_pos (nI_le (Nat.le_refl _) (by omega))]
      · rw [f2 j r hj, if_pos (List.getElem?_eq_some_iff.mp hj).1])
    (me_w M g, 0) ⟨g, by rw [nI_0], fun _ _ _ => rfl, fun j r hj => by rw [if_neg (by omega)]; exact (hR.2.2 j r hj).2.2.1⟩
  rw [hx]
  simp only [Option.bind_some]
  have hF1 : Fg g h2 := fun a y z1 z2 => f1 a y (by omega)
  have hF2 : Fg h2 (ss h2 84 k (w.2.2.2 k - 2)) := Fg.ss (by omega)
  have hhv : ∀ r : Rw, (a_hv X k w r).1 = r.1 ∧ (a_hv X k w r).2.1 = r.2.1 ∧ (a_hv X k w r).2.2.2 = r.2.2.2 := by
    intro r
    unfold a_hv
    split <;> exact ⟨rfl, rfl, rfl⟩
  rw [m_gr21 (hL2 h2), m_li84 (hL2 h2) hk, i_w, f1 _ _ (by omega), k4, m_si84 (hL2 h2) hk, w_ss]
  refine ⟨_, rfl, hF1.trans hF2, (h.1.same hF1).same hF2, ?_, ?_, ?_, ?_, fun i r hi => ?_⟩
  · rw [ss_ne (by omega), f1 _ _ (by omega)]; exact h.2.1
  · exact (h.2.2.1.same (fun x y _ _ => f1 x y (by omega))).sh
  · show (w.1.map _).length ≤ 12
    rw [List.length_map]; omega
  · show _ = nI (w.1.map _).length
    rw [List.length_map, ss_ne (by omega), f1 _ _ (by omega)]; exact hR.2.1
  · have hi2 : (w.1[i]?).map (a_hv X k w) = some r := by rw [← List.getElem?_map]; exact hi
    obtain ⟨r', e1, rfl⟩ := Option.map_eq_some_iff.mp hi2
    obtain ⟨q0, q1, q3⟩ := hhv r'
    obtain ⟨r0, r1, r2, r3⟩ := hR.2.2 i r' e1
    rw [ss_ne (by omega), ss_ne (by omega), ss_ne (by omega), ss_ne (by omega), f1 _ _ (by omega), f1 _ _ (by omega), f2 i r' e1, f1 _ _ (by omega), q0, q1, q3]
    exact ⟨r0, r1, rfl, r3⟩
theorem e_mremit {k : Nat} (hX0 : XV X) (hW : WV X w) (hL : Lay M) (h : RG X g w) (hk : k < 6) (ht : X.1.testBit k = true) : ∃ h, f_X12_act 70 (nI k) 47 (me_w M g) = some (me_w M h) ∧ Fg g h ∧ RG X h (a_rm k w) := by
  have hL2 : ∀ q : St, Lay (me_w M q) := fun q => hL
  have hR := h.2.2.2
  have h12 := hW.1
  have hK := h.2.2.1
  unfold f_X12_act b_X12_act
  rw [m_ck (hL2 g), cP_e (e_in _ _ _ _), show in_v 47 48 52 = 0 by decide +kernel, if_pos rfl, if_neg (show ¬ (47 : Int32) = 61 by decide), if_neg (show ¬ (47 : Int32) = 33 by decide), m_gi (hL2 g), i_w, hR.2.1]
  simp only [let_v]
  obtain ⟨x, hx, h2, rfl, f0, f1, f2, f3⟩ := lp_dn (step := fun s : Me × Int32 => s_X12_act_170 70 (nI k) s.1 s.2)
    (fun j s => ∃ h, s = (me_w M h, nI j - 1) ∧ j ≤ w.1.length ∧ Fg g h ∧ h 70 17 = g 70 17 ∧ RK X h w.2.2.1 (ups w.2.2.2 k (w.2.2.2 k + nI (w.1.length - (dw w.1 (a_stay k) j).length))) ∧ RD h (dw w.1 (a_stay k) j))
    (fun x => ∃ h, x = (me_w M h, nI 0 - 1) ∧ Fg g h ∧ h 70 17 = g 70 17 ∧ RK X h w.2.2.1 (ups w.2.2.2 k (w.2.2.2 k + nI (w.1.length - (w.1.filter (a_stay k)).length))) ∧ RD h (w.1.filter (a_stay k)))
    (by
      rintro j s ⟨h2, rfl, hj, f0, f1, f2, f3⟩
      have hjr : w.1[j]? = some w.1[j] := List.getElem?_eq_getElem (by omega)
      generalize w.1[j] = r at hjr
      have hrb := hW.rb hX0 r (List.mem_of_getElem? hjr)
      obtain ⟨d1, d2⟩ := dw_at (p := a_stay k) hjr
      obtain ⟨r0, r1, r2, r3⟩ := f3.2.2 j r d1
      have dl := dw_len (l := w.1) (p := a_stay k) (i := j + 1)
      show ∃ t, s_X12_act_170 70 (nI k) (me_w M h2) (nI (j + 1) - 1) = _ ∧ _
      rw [nI_pred]
      by_cases q : r.2.1 = k
      · obtain ⟨h3, p1, p2, p3⟩ := e_forgive hL f3 d2
        have hns : ¬ a_stay k r = true := by unfold a_stay; simp [q]
        have el : (dw w.1 (a_stay k) j).length + 1 = (dw w.1 (a_stay k) (j + 1)).length := by
          rw [← dw_no hjr hns, List.length_eraseIdx_of_lt d2]; omega
        rw [dw_no hjr hns] at p3
        have e84 : h3 84 k = w.2.2.2 k + nI (w.1.length - (dw w.1 (a_stay k) (j + 1)).length) := by
          rw [p2 _ _ (by omega) (by omega), (f2 k hk ht).2.2.2]
          exact if_pos rfl
        refine ⟨(me_w M (ss h3 84 k (h3 84 k + 1)), nI j - 1), ?_, _, rfl, by omega, ?_, ?_, ?_, ?_⟩
        · unfold s_X12_act_170
          simp only [let_v, m1_sub]
          rw [if_neg (nI_pos (by omega)), m_gr23 (hL2 h2), c_4, pk_mul, show (1 : Int32) = nI 1 from c_1, nI_add, m_li85 (hL2 h2) (by omega), i_w, r1, q, if_pos rfl, cM_e p1, m_gr21 (hL2 h3), m_li84 (hL2 h3) hk, i_w, m_si84 (hL2 h3) hk, w_ss]
          rfl
        · exact (f0.trans (fun a y z1 z2 => p2 a y (by omega) (by omega))).trans (Fg.ss (by omega))
        · rw [ss_ne (by omega), p2 _ _ (by omega) (by omega)]; exact f1
        · have hK3 : RK X h3 w.2.2.1 (ups w.2.2.2 k (w.2.2.2 k + nI (w.1.length - (dw w.1 (a_stay k) (j + 1)).length))) := f2.same (fun x y _ _ => p2 x y (by omega) (by omega))
          have hK4 := hK3.sh (k := k) (v := h3 84 k + 1)
          have e : ups (ups w.2.2.2 k (w.2.2.2 k + nI (w.1.length - (dw w.1 (a_stay k) (j + 1)).length))) k (h3 84 k + 1) = ups w.2.2.2 k (w.2.2.2 k + nI (w.1.length - (dw w.1 (a_stay k) j).length)) := by
            funext x
            unfold ups
            by_cases hx : x = k
            · rw [if_pos hx, if_pos hx, e84, Int32.add_assoc, nI_1]
              congr 2
              omega
            · rw [if_neg hx, if_neg hx, if_neg hx]
          rw [e] at hK4
          exact hK4
        · exact p3.same (ss_ne (by omega)) (fun y => ss_ne (by omega))
      · have hs : a_stay k r = true := by unfold a_stay; simp [q]
        rw [dw_yes hjr hs] at f2 f3
        refine ⟨(me_w M h2, nI j - 1), ?_, h2, rfl, by omega, f0, f1, f2, f3⟩
        unfold s_X12_act_170
        simp only [let_v, m1_sub]
        rw [if_neg (nI_pos (by omega)), m_gr23 (hL2 h2), c_4, pk_mul, show (1 : Int32) = nI 1 from c_1, nI_add, m_li85 (hL2 h2) (by omega), i_w, r1, if_neg (nI_ne (by have := hrb.2.1; omega) (by omega) q)]
        rfl)
    (by
      rintro s ⟨h2, rfl, hj, f0, f1, f2, f3⟩
      rw [dw_0] at f2 f3
      refine ⟨_, ?_, h2, rfl, f0, f1, f2, f3⟩
      show s_X12_act_170 70 (nI k) (me_w M h2) (nI 0 - 1) = _
      unfold s_X12_act_170
      rw [if_pos m1_neg])
    w.1.length (me_w M g, nI w.1.length - 1) ⟨g, rfl, Nat.le_refl _, Fg.refl, rfl, by
      rw [dw_all, Nat.sub_self, nI_0]
      have e : ups w.2.2.2 k (w.2.2.2 k + 0) = w.2.2.2 := by
        funext x
        unfold ups
        by_cases hx : x = k
        · rw [if_pos hx, hx, Int32.add_zero]
        · rw [if_neg hx]
      rw [e]
      exact hK, by rw [dw_all]; exact hR⟩
  rw [hx]
  exact ⟨h2, rfl, f0, h.1.same f0, f1.trans h.2.1, f2, f3⟩
/-- the first that is due goes -/
theorem er_first : ∀ (l : List Rw) (p : Rw → Bool) (i : Nat) (r : Rw), (∀ j q, j < i → l[j]? = some q → p q = false) → l[i]? = some r → p r = true → l.eraseP p = l.eraseIdx i ∧ l.find? p = some r := by
  intro l p
  induction l with
  | nil => intro i r _ h; simp at h
  | cons a l ih =>
    intro i r hb h hp
    cases i with
    | zero =>
      simp at h
      subst h
      simp [hp]
    | succ i =>
      have ha : p a = false := hb 0 a (by omega) rfl
      obtain ⟨h1, h2⟩ := ih i r (fun j q hj hq => hb (j + 1) q (by omega) (by simpa using hq)) (by simpa using h) hp
      simp [ha, h1, h2]
theorem find_none_of {l : List Rw} {p : Rw → Bool} (h : ∀ j q, j < l.length → l[j]? = some q → p q = false) : l.find? p = none := by
  rw [List.find?_eq_none]
  intro r hr
  obtain ⟨j, hj, rfl⟩ := List.mem_iff_getElem.mp hr
  rw [h j _ hj (List.getElem?_eq_getElem hj)]
  simp
theorem m1_1 (n : Nat) : nI n + (-1) + 1 = nI n := by rw [Int32.add_assoc]; simp
theorem e_mgb {k : Nat} (hX0 : XV X) (hW : WV X w) (hL : Lay M) (h : RG X g w) (hk : k < 6) (ht : X.1.testBit k = true) : ∃ h, f_X12_giveBack 70 (nI k) (me_w M g) = some (me_w M h) ∧ Fg g h ∧ RG X h (a_gb X k 12 w) := by
  have hL2 : ∀ q : St, Lay (me_w M q) := fun q => hL
  have xk := hX0.2.2.2.1 k hk ht
  have xc := hX0.2.2.1
  unfold f_X12_giveBack b_X12_giveBack
  rw [m_ck (hL2 g)]
  obtain ⟨x, hx, h2, e1, e2, e3⟩ := lp_by (step := fun s : Me × Int32 => s_X12_giveBack_2 70 (nI k) s.1 s.2)
    (fun s => ∃ h1 w1 i f, s = (me_w M h1, nI i) ∧ i ≤ w1.1.length ∧ Fg g h1 ∧ RG X h1 w1 ∧ WV X w1 ∧ (∀ j q, j < i → w1.1[j]? = some q → a_due k w1.2.1 q = false) ∧ w1.1.length ≤ f ∧ a_gb X k f w1 = a_gb X k 12 w)
    (fun x => ∃ h1, x.1 = me_w M h1 ∧ Fg g h1 ∧ RG X h1 (a_gb X k 12 w))
    (fun s => 14 * (me_i s.1 70 22).toNatClampNeg - s.2.toNatClampNeg)
    (by
      rintro s ⟨h1, w1, i, f, rfl, hi, a1, a2, a3, a4, a5, a6⟩
      have hR := a2.2.2.2
      have h12 := hR.1
      have hDD := a3.2.1
      by_cases hin : i = w1.1.length
      · right
        subst hin
        refine ⟨(me_w M h1, nI w1.1.length), ?_, h1, rfl, a1, ?_⟩
        · show s_X12_giveBack_2 70 (nI k) (me_w M h1) (nI w1.1.length) = _
          unfold s_X12_giveBack_2
          rw [m_gi (hL2 h1), i_w, hR.2.1, if_pos (nI_le (Nat.le_refl _) (by omega))]
        · rw [← a6, gb_none (find_none_of a4)]
          exact a2
      · left
        have hr : w1.1[i]? = some w1.1[i] := List.getElem?_eq_getElem (by omega)
        generalize w1.1[i] = r at hr
        obtain ⟨r0, r1, r2, r3⟩ := hR.2.2 i r hr
        have hmem := List.mem_of_getElem? hr
        obtain ⟨b0, b1, b2, b3⟩ := a3.rb hX0 r hmem
        by_cases hd : a_due k w1.2.1 r = true
        · have hd2 : r.2.1 = k ∧ r.2.2.2 = w1.2.1 := by unfold a_due at hd; exact of_decide_eq_true hd
          obtain ⟨er, fd⟩ := er_first w1.1 (a_due k w1.2.1) i r a4 hr hd
          obtain ⟨v1, v2, v3, v4, v5, v6, v7, v8, v9⟩ := a3.2.2.2.1 r hmem
          have wS := a3.2.2.1 _ v1 v4
          obtain ⟨k1, k2, k3, k4⟩ := a2.2.2.1 _ v1 v4
          obtain ⟨sk, ow⟩ := a2.1.2.2.2 k hk ht
          obtain ⟨h3, p1, p2, p3⟩ := e_forgive hL hR (show i < w1.1.length by omega)
          rw [← er] at p3
          have hF3 : Fg h1 h3 := fun a y z1 z2 => p2 a y (by omega) (by omega)
          have hK3 : RK X h3 w1.2.2.1 w1.2.2.2 := a2.2.2.1.same (fun x y _ _ => p2 x y (by omega) (by omega))
          have hD3 : h3 70 17 = nI w1.2.1 := by rw [p2 _ _ (by omega) (by omega)]; exact a2.2.1
          have k4' : h3 84 r.1 = w1.2.2.2 r.1 := by rw [p2 _ _ (by omega) (by omega)]; exact k4
          have nl := nx_len (X := X) fd
          have emin : (if nI (X.2.2.2.1 k) ≤ nI r.2.2.1 then some (nI (X.2.2.2.1 k)) else some (nI r.2.2.1)) = some (nI (min r.2.2.1 (X.2.2.2.1 k))) := by
            by_cases hl : X.2.2.2.1 k ≤ r.2.2.1
            · rw [if_pos (nI_le hl (by omega)), Nat.min_eq_right hl]
            · rw [if_neg (nI_ge (by omega) (by omega)), Nat.min_eq_left (by omega)]
          have ehere : (if nI (w1.2.2.1 r.1 6) = 0 then (if nI (w1.2.2.1 r.1 5) = nI (X.2.2.2.2.1 k) then some (1 : Int32) else some 0) else some 0) = some (if w1.2.2.1 r.1 6 = 0 ∧ w1.2.2.1 r.1 5 = X.2.2.2.2.1 k then 1 else 0) := by
            by_cases z1 : w1.2.2.1 r.1 6 = 0
            · rw [z1, if_pos nI_0]
              by_cases z2 : w1.2.2.1 r.1 5 = X.2.2.2.2.1 k
              · rw [z2, if_pos rfl, if_pos ⟨rfl, rfl⟩]
              · rw [if_neg (nI_ne (by omega) (by omega) z2), if_neg (fun z => z2 z.2)]
            · rw [if_neg (nI_ne0 (by omega) (by omega)), if_neg (fun z => z1 z.1)]
          have pre : s_X12_giveBack_2 70 (nI k) (me_w M h1) (nI i) = (if (if w1.2.2.1 r.1 6 = 0 ∧ w1.2.2.1 r.1 5 = X.2.2.2.2.1 k then (1 : Int32) else 0) = 0 then some (me_w M (ss (ss h3 84 r.1 (w1.2.2.2 r.1 + (-5))) 84 k (ss h3 84 r.1 (w1.2.2.2 r.1 + (-5)) 84 k + 0)), nI i + (-1)) else cM (f_X12_strike 70 (nI r.1) (nI (min r.2.2.1 (X.2.2.2.1 k))) (me_w M (ss (ss h3 84 r.1 (w1.2.2.2 r.1 + 1)) 84 k (ss h3 84 r.1 (w1.2.2.2 r.1 + 1) 84 k + 3)))) (fun N => some (N, -1))).bind (fun q => some (Sum.inl (q.1, q.2 + 1))) := by
            unfold s_X12_giveBack_2
            simp only [let_v]
            rw [m_gi (hL2 h1), i_w, hR.2.1, if_neg (nI_ge (by omega) (by omega)), m_gr23 (hL2 h1), c_4, pk_mul, show nI (4 * i) + 1 = nI (4 * i + 1) from nI_1 _, m_li85 (hL2 h1) (by omega), i_w, r1, hd2.1, if_pos rfl, m_gr23 (hL2 h1), show nI (4 * i) + 3 = nI (4 * i + 3) by rw [c_3, nI_add], m_li85 (hL2 h1) (by omega), i_w, r3, m_gi (hL2 h1), i_w, a2.2.1, hd2.2, if_pos rfl, m_gr23 (hL2 h1), m_li85 (hL2 h1) (by omega), i_w, r0, m_gr23 (hL2 h1), show nI (4 * i) + 2 = nI (4 * i + 2) by rw [c_2, nI_add], m_li85 (hL2 h1) (by omega), i_w, r2, m_gr4 (hL2 h1), m_li72 (hL2 h1) hk, i_w, sk, m_gr4 (hL2 h1), m_li72 (hL2 h1) hk, i_w, sk, m_gr23 (hL2 h1), m_li85 (hL2 h1) (by omega), i_w, r2, emin]
            simp only [Option.bind_some]
            rw [m_gr19 (hL2 h1), m_li82 (hL2 h1) v1, i_w, k2, m_gr18 (hL2 h1), m_li81 (hL2 h1) v1, i_w, k1, m_gr5 (hL2 h1), m_li73 (hL2 h1) hk, i_w, ow, ehere]
            simp only [Option.bind_some]
            rw [cM_e p1, m_gr21 (hL2 h3), m_li84 (hL2 h3) v1, i_w, k4']
            by_cases hh : w1.2.2.1 r.1 6 = 0 ∧ w1.2.2.1 r.1 5 = X.2.2.2.2.1 k
            · rw [if_pos hh, if_neg (show ¬ (1 : Int32) = 0 by decide), if_neg (show ¬ (1 : Int32) = 0 by decide)]
              simp only [Option.bind_some]
              rw [m_si84 (hL2 h3) v1, w_ss, m_gr21 (hL2 _), m_li84 (hL2 _) hk, i_w, m_si84 (hL2 _) hk, w_ss, if_neg (show ¬ (1 : Int32) = 0 by decide), if_neg (show ¬ (1 : Int32) = 0 by decide)]
            · rw [if_neg hh, if_pos rfl, if_pos rfl]
              simp only [Option.bind_some]
              rw [m_si84 (hL2 h3) v1, w_ss, m_gr21 (hL2 _), m_li84 (hL2 _) hk, i_w, m_si84 (hL2 _) hk, w_ss, if_pos trivial, if_pos trivial]
          have hnx : WV X (a_nx X k r w1) := a3.nx
          have hgb : a_gb X k (f - 1) (a_nx X k r w1) = a_gb X k 12 w := by
            have hf : f = (f - 1) + 1 := by omega
            rw [← a6, hf, gb_some fd]
            rfl
          by_cases hh : w1.2.2.1 r.1 6 = 0 ∧ w1.2.2.1 r.1 5 = X.2.2.2.2.1 k
          · have hnxe : a_nx X k r w1 = a_wound r.1 (min r.2.2.1 (X.2.2.2.1 k)) (w1.1.eraseP (a_due k w1.2.1), w1.2.1, w1.2.2.1, ups (ups w1.2.2.2 r.1 (w1.2.2.2 r.1 + 1)) k (ups w1.2.2.2 r.1 (w1.2.2.2 r.1 + 1) k + 3)) := if_pos hh
            have hK4 := hK3.sh (k := r.1) (v := w1.2.2.2 r.1 + 1)
            have e84 : ss h3 84 r.1 (w1.2.2.2 r.1 + 1) 84 k = ups w1.2.2.2 r.1 (w1.2.2.2 r.1 + 1) k := (hK4 k hk ht).2.2.2
            have hK5 := hK4.sh (k := k) (v := ss h3 84 r.1 (w1.2.2.2 r.1 + 1) 84 k + 3)
            rw [if_pos hh, if_neg (show ¬ (1 : Int32) = 0 by decide)] at pre
            have hF5 : Fg h1 (ss (ss h3 84 r.1 (w1.2.2.2 r.1 + 1)) 84 k (ss h3 84 r.1 (w1.2.2.2 r.1 + 1) 84 k + 3)) := (hF3.trans (Fg.ss (by omega))).trans (Fg.ss (by omega))
            rw [e84] at hK5 hF5 pre
            have hG : RG X (ss (ss h3 84 r.1 (w1.2.2.2 r.1 + 1)) 84 k (ups w1.2.2.2 r.1 (w1.2.2.2 r.1 + 1) k + 3)) (w1.1.eraseP (a_due k w1.2.1), w1.2.1, w1.2.2.1, ups (ups w1.2.2.2 r.1 (w1.2.2.2 r.1 + 1)) k (ups w1.2.2.2 r.1 (w1.2.2.2 r.1 + 1) k + 3)) :=
              ⟨a2.1.same hF5, by rw [ss_ne (by omega), ss_ne (by omega)]; exact hD3, hK5, p3.same (by rw [ss_ne (by omega), ss_ne (by omega)]) (fun y => by rw [ss_ne (by omega), ss_ne (by omega)])⟩
            obtain ⟨h6, s1, s2, s3⟩ := e_mstrike (k := r.1) (m := min r.2.2.1 (X.2.2.2.1 k)) hL hG v1 v4 wS.1 (by omega) (fun q hq => a3.rb hX0 q (List.mem_of_mem_eraseP hq))
            rw [← hnxe] at s3
            rw [cM_e s1] at pre
            refine ⟨(me_w M h6, nI 0), ?_, ⟨h6, a_nx X k r w1, 0, f - 1, rfl, by omega, (a1.trans hF5).trans s2, s3, hnx, fun j q hj => absurd hj (by omega), by omega, hgb⟩, ?_⟩
            · show s_X12_giveBack_2 70 (nI k) (me_w M h1) (nI i) = _
              rw [pre]
              simp only [Option.bind_some]
              rw [show (-1 : Int32) + 1 = nI 0 by decide +kernel]
            · show 14 * (h6 70 22).toNatClampNeg - (nI 0).toNatClampNeg < 14 * (h1 70 22).toNatClampNeg - (nI i).toNatClampNeg
              rw [hR.2.1, s3.2.2.2.2.1, nI_clamp (by omega), nI_clamp (by omega), nI_clamp (by omega), nI_clamp (by omega)]
              omega
          · have hnxe : a_nx X k r w1 = (w1.1.eraseP (a_due k w1.2.1), w1.2.1, w1.2.2.1, ups w1.2.2.2 r.1 (w1.2.2.2 r.1 - 5)) := if_neg hh
            have hK4 := hK3.sh (k := r.1) (v := w1.2.2.2 r.1 + (-5))
            have hK5 := hK4.sh (k := k) (v := ss h3 84 r.1 (w1.2.2.2 r.1 + (-5)) 84 k + 0)
            have e84 : ss h3 84 r.1 (w1.2.2.2 r.1 + (-5)) 84 k = ups w1.2.2.2 r.1 (w1.2.2.2 r.1 + (-5)) k := (hK4 k hk ht).2.2.2
            rw [if_neg hh, if_pos rfl] at pre
            have hF5 : Fg h1 (ss (ss h3 84 r.1 (w1.2.2.2 r.1 + (-5))) 84 k (ss h3 84 r.1 (w1.2.2.2 r.1 + (-5)) 84 k + 0)) := (hF3.trans (Fg.ss (by omega))).trans (Fg.ss (by omega))
            rw [e84] at hK5 hF5 pre
            have eh : ups (ups w1.2.2.2 r.1 (w1.2.2.2 r.1 + (-5))) k (ups w1.2.2.2 r.1 (w1.2.2.2 r.1 + (-5)) k + 0) = ups w1.2.2.2 r.1 (w1.2.2.2 r.1 - 5) := by
              funext x
              rw [Int32.add_zero]
              have e5 : w1.2.2.2 r.1 - 5 = w1.2.2.2 r.1 + (-5) := by rw [Int32.sub_eq_add_neg]
              rw [e5]
              show (if x = k then _ else _) = _
              by_cases hxk : x = k
              · rw [if_pos hxk, hxk]
              · rw [if_neg hxk]
            rw [eh] at hK5
            have hG : RG X (ss (ss h3 84 r.1 (w1.2.2.2 r.1 + (-5))) 84 k (ups w1.2.2.2 r.1 (w1.2.2.2 r.1 + (-5)) k + 0)) (a_nx X k r w1) := by
              rw [hnxe]
              exact ⟨a2.1.same hF5, by rw [ss_ne (by omega), ss_ne (by omega)]; exact hD3, hK5, p3.same (by rw [ss_ne (by omega), ss_ne (by omega)]) (fun y => by rw [ss_ne (by omega), ss_ne (by omega)])⟩
            refine ⟨(me_w M (ss (ss h3 84 r.1 (w1.2.2.2 r.1 + (-5))) 84 k (ups w1.2.2.2 r.1 (w1.2.2.2 r.1 + (-5)) k + 0)), nI i), ?_, ⟨_, a_nx X k r w1, i, f - 1, rfl, ?_, a1.trans hF5, hG, hnx, fun j q hj hq => ?_, by omega, hgb⟩, ?_⟩
            · show s_X12_giveBack_2 70 (nI k) (me_w M h1) (nI i) = _
              rw [pre]
              simp only [Option.bind_some]
              rw [m1_1]
            · rw [hnxe, er]
              show i ≤ (w1.1.eraseIdx i).length
              rw [List.length_eraseIdx_of_lt (by omega)]; omega
            · rw [hnxe, er] at hq
              have hq2 : (w1.1.eraseIdx i)[j]? = some q := hq
              rw [List.getElem?_eraseIdx, if_pos hj] at hq2
              rw [nx_D]
              exact a4 j q hj hq2
            · show 14 * (ss (ss h3 84 r.1 (w1.2.2.2 r.1 + (-5))) 84 k (ups w1.2.2.2 r.1 (w1.2.2.2 r.1 + (-5)) k + 0) 70 22).toNatClampNeg - (nI i).toNatClampNeg < 14 * (h1 70 22).toNatClampNeg - (nI i).toNatClampNeg
              rw [hR.2.1, hG.2.2.2.2.1, nI_clamp (by omega), nI_clamp (by omega), nI_clamp (by omega)]
              omega
        · refine ⟨(me_w M h1, nI (i + 1)), ?_, ⟨h1, w1, i + 1, f, rfl, by omega, a1, a2, a3, fun j q hj hq => ?_, a5, a6⟩, ?_⟩
          · show s_X12_giveBack_2 70 (nI k) (me_w M h1) (nI i) = _
            unfold s_X12_giveBack_2
            simp only [let_v]
            rw [m_gi (hL2 h1), i_w, hR.2.1, if_neg (nI_ge (by omega) (by omega)), m_gr23 (hL2 h1), c_4, pk_mul, show nI (4 * i) + 1 = nI (4 * i + 1) from nI_1 _, m_li85 (hL2 h1) (by omega), i_w, r1]
            by_cases q1 : r.2.1 = k
            · have q2 : ¬ r.2.2.2 = w1.2.1 := fun z => hd (by unfold a_due; simp [q1, z])
              rw [q1, if_pos rfl, m_gr23 (hL2 h1), show nI (4 * i) + 3 = nI (4 * i + 3) by rw [c_3, nI_add], m_li85 (hL2 h1) (by omega), i_w, r3, m_gi (hL2 h1), i_w, a2.2.1, if_neg (nI_ne (by omega) (by omega) q2)]
              simp only [Option.bind_some]
              rw [nI_1]
            · rw [if_neg (nI_ne (by omega) (by omega) q1)]
              simp only [Option.bind_some]
              rw [nI_1]
          · by_cases hji : j = i
            · subst hji
              rw [hr] at hq
              obtain rfl := Option.some.inj hq
              simpa using hd
            · exact a4 j q (by omega) hq
          · show 14 * (h1 70 22).toNatClampNeg - (nI (i + 1)).toNatClampNeg < 14 * (h1 70 22).toNatClampNeg - (nI i).toNatClampNeg
            rw [hR.2.1, nI_clamp (by omega), nI_clamp (by omega), nI_clamp (by omega)]
            omega)
    (me_w M g, 0) ⟨g, w, 0, 12, by rw [nI_0], by omega, Fg.refl, h, hW, fun j q hj => absurd hj (by omega), hW.1, rfl⟩
  rw [hx]
  simp only [Option.bind_some]
  rw [e1]
  exact ⟨h2, rfl, e2, e3⟩
end MC

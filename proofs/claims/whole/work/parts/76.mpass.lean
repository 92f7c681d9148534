/-! days, of the reference -/
theorem end_1 {D : Nat} {r : Rw} : a_end D 1 r = true ↔ r.2.2.2 = D := by
  unfold a_end
  rw [decide_eq_true_eq]
  omega
theorem cnt_cons {D d x : Nat} {r : Rw} {l : List Rw} : a_cnt D d x (r :: l) = a_cnt D d x l + if a_end D d r = true ∧ r.2.1 = x then 1 else 0 := by
  unfold a_cnt
  rw [List.countP_cons]
  by_cases h1 : a_end D d r = true
  · by_cases h2 : r.2.1 = x
    · simp [h1, h2]
    · simp [h1, h2]
  · simp [h1]
theorem cnt_add {D d x : Nat} : ∀ l : List Rw, a_cnt D (d + 1) x l = a_cnt D d x l + a_cnt (D + d) 1 x (l.filter (fun r => ! a_end D d r)) := by
  intro l
  induction l with
  | nil => rfl
  | cons r l ih =>
    rw [cnt_cons, cnt_cons, ih]
    by_cases h1 : a_end D d r = true
    · rw [List.filter_cons_of_neg (by simp [h1])]
      have h2 : a_end D (d + 1) r = true := by unfold a_end at h1 ⊢; rw [decide_eq_true_eq] at h1 ⊢; omega
      simp only [h1, h2, true_and]
      omega
    · rw [List.filter_cons_of_pos (by simp [h1]), cnt_cons]
      have h2 : a_end D (d + 1) r = true ↔ a_end (D + d) 1 r = true := by
        rw [end_1]
        unfold a_end at h1 ⊢
        rw [decide_eq_true_eq] at h1 ⊢
        omega
      simp only [h2]
      simp only [h1]
      simp
      omega
theorem pass_0 (w : Wd) : a_pass 0 w = w := by
  obtain ⟨l, D, kf, ho⟩ := w
  unfold a_pass
  have e1 : l.filter (fun r => ! a_end D 0 r) = l := by
    rw [List.filter_eq_self]
    intro r _
    unfold a_end
    simp
    omega
  have e2 : ∀ x, a_cnt D 0 x l = 0 := by
    intro x
    unfold a_cnt
    rw [List.countP_eq_zero]
    intro r _
    unfold a_end
    simp
    omega
  dsimp only
  rw [e1]
  simp only [e2]
  congr 1
  congr 1
  congr 1
  · funext x f
    by_cases h : f = 6
    · rw [if_pos h, h]; rfl
    · rw [if_neg h]
  · funext x
    show ho x - nI 0 = _
    rw [nI_0]; simp
theorem pass_s (d : Nat) (w : Wd) : a_pass 1 (a_pass d w) = a_pass (d + 1) w := by
  obtain ⟨l, D, kf, ho⟩ := w
  unfold a_pass
  dsimp only
  congr 1
  · rw [List.filter_filter]
    apply List.filter_congr
    intro r _
    have h : a_end D (d + 1) r = (a_end (D + d) 1 r || a_end D d r) := by
      have h1 := end_1 (D := D + d) (r := r)
      unfold a_end at *
      rw [Bool.eq_iff_iff, Bool.or_eq_true, decide_eq_true_eq, decide_eq_true_eq]
      rw [decide_eq_true_eq] at h1
      rw [decide_eq_true_eq, h1]
      omega
    rw [h]
    simp
  · congr 1
    congr 1
    · funext x f
      by_cases h : f = 6
      · rw [if_pos h, if_pos rfl, if_pos h]; omega
      · rw [if_neg h, if_neg h, if_neg h]
    · funext x
      rw [sub_sub32, nI_add, cnt_add (D := D) (d := d) (x := x) l]
      congr 2
      omega
section MD
variable {X : Cx} {M : Me} {g : St} {w : Wd}
theorem e_mday (hX0 : XV X) (hW : WV X w) (hL : Lay M) (h : RG X g w) : ∃ h1 h2 h3, lp (fun s : Me × Int32 => s_X12_pass_14 70 s.1 s.2) (me_w M g, nI w.1.length - 1) = some (me_w M h1, nI 0 - 1) ∧ lp (fun s : Me × Int32 => s_X12_pass_67 70 s.1 s.2) (me_w M h1, 0) = some (me_w M h2, nI 6) ∧ h3 = ss h2 70 17 (nI (w.2.1 + 1)) ∧ h2 70 17 = nI w.2.1 ∧ Fg g h3 ∧ RG X h3 (a_pass 1 w) := by
  have hL2 : ∀ q : St, Lay (me_w M q) := fun q => hL
  have hR := h.2.2.2
  have h12 := hW.1
  have hDD := hW.2.1
  obtain ⟨x, hx, h1, rfl, f0, f1, f2, f3⟩ := lp_dn (step := fun s : Me × Int32 => s_X12_pass_14 70 s.1 s.2)
    (fun j s => ∃ h, s = (me_w M h, nI j - 1) ∧ j ≤ w.1.length ∧ Fg g h ∧ h 70 17 = nI w.2.1 ∧ RK X h w.2.2.1 (fun x => w.2.2.2 x - nI (4 * a_cnt w.2.1 1 x (w.1.drop j))) ∧ RD h (dw w.1 (fun r => ! a_end w.2.1 1 r) j))
    (fun x => ∃ h, x = (me_w M h, nI 0 - 1) ∧ Fg g h ∧ h 70 17 = nI w.2.1 ∧ RK X h w.2.2.1 (fun x => w.2.2.2 x - nI (4 * a_cnt w.2.1 1 x w.1)) ∧ RD h (w.1.filter (fun r => ! a_end w.2.1 1 r)))
    (by
      rintro j s ⟨h2, rfl, hj, f0, f1, f2, f3⟩
      have hjr : w.1[j]? = some w.1[j] := List.getElem?_eq_getElem (by omega)
      generalize w.1[j] = r at hjr
      have hmem := List.mem_of_getElem? hjr
      have hrb := hW.rb hX0 r hmem
      obtain ⟨v1, v2, v3, v4, v5, v6, v7, v8, v9⟩ := hW.2.2.2.1 r hmem
      obtain ⟨d1, d2⟩ := dw_at (p := fun r => ! a_end w.2.1 1 r) hjr
      obtain ⟨r0, r1, r2, r3⟩ := f3.2.2 j r d1
      have hdr := (tk_s w.1 j r hjr).2
      have y := hX0.2.1
      show ∃ t, s_X12_pass_14 70 (me_w M h2) (nI (j + 1) - 1) = _ ∧ _
      rw [nI_pred]
      by_cases q : r.2.2.2 = w.2.1
      · have he : a_end w.2.1 1 r = true := end_1.mpr q
        have f3b : RD (ss h2 84 r.2.1 (h2 84 r.2.1 - 4)) (dw w.1 (fun r => ! a_end w.2.1 1 r) (j + 1)) := f3.same (ss_ne (by omega)) (fun y => ss_ne (by omega))
        obtain ⟨h3, p1, p2, p3⟩ := e_forgive hL f3b d2
        rw [dw_no hjr (by simp [he])] at p3
        have e84 : h2 84 r.2.1 = w.2.2.2 r.2.1 - nI (4 * a_cnt w.2.1 1 r.2.1 (w.1.drop (j + 1))) := (f2 _ v2 v5).2.2.2
        refine ⟨(me_w M h3, nI j - 1), ?_, _, rfl, by omega, ?_, ?_, ?_, p3⟩
        · unfold s_X12_pass_14
          simp only [let_v, m1_sub]
          rw [if_neg (nI_pos (by omega)), m_gr23 (hL2 h2), show (4 : Int32) * nI j = nI (4 * j) by rw [c_4, pk_mul], show nI (4 * j) + 3 = nI (4 * j + 3) by rw [c_3, nI_add], m_li85 (hL2 h2) (by omega), i_w, r3, m_gi (hL2 h2), i_w, f1, q, if_pos rfl, m_gr21 (hL2 h2), m_gr23 (hL2 h2), show nI (4 * j) + 1 = nI (4 * j + 1) from nI_1 _, m_li85 (hL2 h2) (by omega), i_w, r1, m_li84 (hL2 h2) v2, i_w, m_si84 (hL2 h2) v2, w_ss, cM_e p1]
          rfl
        · exact (f0.trans (Fg.ss (by omega))).trans (fun a y z1 z2 => p2 a y (by omega) (by omega))
        · rw [p2 _ _ (by omega) (by omega), ss_ne (by omega)]; exact f1
        · have hK3 := (f2.sh (k := r.2.1) (v := h2 84 r.2.1 - 4)).same (h := h3) (fun x y _ _ => p2 x y (by omega) (by omega))
          have e : ups (fun x => w.2.2.2 x - nI (4 * a_cnt w.2.1 1 x (w.1.drop (j + 1)))) r.2.1 (h2 84 r.2.1 - 4) = fun x => w.2.2.2 x - nI (4 * a_cnt w.2.1 1 x (w.1.drop j)) := by
            funext x
            unfold ups
            rw [hdr, cnt_cons]
            by_cases hx : x = r.2.1
            · rw [if_pos hx, if_pos ⟨he, hx.symm⟩, e84, ← hx, c_4, sub_sub32, nI_add]
              congr 2
            · rw [if_neg hx, if_neg (fun z => hx z.2.symm)]; rfl
          rw [e] at hK3
          exact hK3
      · have he : ¬ a_end w.2.1 1 r = true := fun z => q (end_1.mp z)
        rw [dw_yes hjr (by simp [he])] at f3
        refine ⟨(me_w M h2, nI j - 1), ?_, h2, rfl, by omega, f0, f1, ?_, f3⟩
        · unfold s_X12_pass_14
          simp only [let_v, m1_sub]
          rw [if_neg (nI_pos (by omega)), m_gr23 (hL2 h2), show (4 : Int32) * nI j = nI (4 * j) by rw [c_4, pk_mul], show nI (4 * j) + 3 = nI (4 * j + 3) by rw [c_3, nI_add], m_li85 (hL2 h2) (by omega), i_w, r3, m_gi (hL2 h2), i_w, f1, if_neg (nI_ne (by have := hrb.2.2.2; omega) (by omega) q)]
          rfl
        · have e : (fun x => w.2.2.2 x - nI (4 * a_cnt w.2.1 1 x (w.1.drop j))) = (fun x => w.2.2.2 x - nI (4 * a_cnt w.2.1 1 x (w.1.drop (j + 1)))) := by
            funext x
            rw [hdr, cnt_cons, if_neg (fun z => he z.1)]; rfl
          rw [e]
          exact f2)
    (by
      rintro s ⟨h2, rfl, hj, f0, f1, f2, f3⟩
      rw [dw_0] at f3
      refine ⟨_, ?_, h2, rfl, f0, f1, f2, f3⟩
      show s_X12_pass_14 70 (me_w M h2) (nI 0 - 1) = _
      unfold s_X12_pass_14
      rw [if_pos m1_neg])
    w.1.length (me_w M g, nI w.1.length - 1) ⟨g, rfl, Nat.le_refl _, Fg.refl, h.2.1, by
      have e : (fun x => w.2.2.2 x - nI (4 * a_cnt w.2.1 1 x (w.1.drop w.1.length))) = w.2.2.2 := by
        funext x
        rw [List.drop_length]
        show w.2.2.2 x - nI 0 = _
        rw [nI_0]; simp
      rw [e]
      exact h.2.2.1, by rw [dw_all]; exact hR⟩
  obtain ⟨x2, hx2, h2, rfl, u0, u1⟩ := lp_cnt (step := fun s : Me × Int32 => s_X12_pass_67 70 s.1 s.2) 6
    (fun i s => ∃ h, s = (me_w M h, nI i) ∧ (∀ a y, a ≠ 82 → h a y = h1 a y) ∧ (∀ k, k < 6 → h 82 k = if k < i then h1 82 k - (if h1 82 k ≤ 0 then 0 else 1) else h1 82 k))
    (fun x => ∃ h, x = (me_w M h, nI 6) ∧ (∀ a y, a ≠ 82 → h a y = h1 a y) ∧ (∀ k, k < 6 → h 82 k = h1 82 k - (if h1 82 k ≤ 0 then 0 else 1)))
    (by
      rintro i s hi ⟨h3, rfl, u0, u1⟩
      have n1 : ¬ (6 : Int32) ≤ nI i := (six_no hi).2
      have e1 : h3 82 i = h1 82 i := by rw [u1 i hi, if_neg (by omega)]
      refine ⟨(me_w M (ss h3 82 i (h1 82 i - (if h1 82 i ≤ 0 then 0 else 1))), nI (i + 1)), ?_, _, rfl, fun a y z => ?_, fun k hk => ?_⟩
      · show s_X12_pass_67 70 (me_w M h3) (nI i) = _
        unfold s_X12_pass_67
        simp only [let_v]
        rw [if_neg n1, m_gr19 (hL2 h3), m_li82 (hL2 h3) hi, i_w, e1, m_gr19 (hL2 h3), m_li82 (hL2 h3) hi, i_w, e1, b_ite, m_si82 (hL2 h3) hi, w_ss, nI_1]
      · rw [ss_ne (by omega)]; exact u0 a y z
      · by_cases hki : k = i
        · subst hki
          rw [ss_at]; exact (if_pos (by omega)).symm
        · rw [ss_ne (by omega), u1 k hk]
          have e : (k < i + 1) = (k < i) := propext (by omega)
          simp only [e])
    (by
      rintro s ⟨h3, rfl, u0, u1⟩
      refine ⟨_, ?_, h3, rfl, u0, fun k hk => by rw [u1 k hk, if_pos hk]⟩
      show s_X12_pass_67 70 (me_w M h3) (nI 6) = _
      unfold s_X12_pass_67
      rw [c_6, if_pos (nI_le (Nat.le_refl _) (by omega))])
    (me_w M h1, 0) ⟨h1, by rw [nI_0], fun _ _ _ => rfl, fun k hk => by rw [if_neg (by omega)]⟩
  have hF2 : Fg h1 h2 := fun a y z1 z2 => u0 a y (by omega)
  have hF3 : Fg h2 (ss h2 70 17 (nI (w.2.1 + 1))) := Fg.ss (by omega)
  refine ⟨h1, h2, _, hx, hx2, rfl, by rw [u0 _ _ (by omega)]; exact f1, (f0.trans hF2).trans hF3, ((h.1.same f0).same hF2).same hF3, ss_at, ?_, ?_⟩
  · intro k hk ht
    obtain ⟨k1, k2, k3, k4⟩ := f2 k hk ht
    have wk := hW.2.2.1 k hk ht
    rw [ss_ne (by omega), ss_ne (by omega), ss_ne (by omega), ss_ne (by omega), u0 _ _ (by omega), u1 k hk, u0 _ _ (by omega), u0 _ _ (by omega), k2]
    refine ⟨k1, ?_, k3, k4⟩
    show _ = nI (if 6 = 6 then w.2.2.1 k 6 - 1 else w.2.2.1 k 6)
    rw [if_pos rfl]
    by_cases z : w.2.2.1 k 6 = 0
    · rw [z, if_pos (show nI 0 ≤ (0 : Int32) by decide +kernel)]; rfl
    · rw [c_0, if_neg (nI_ge (by omega) (by omega)), c_1, pk_sub (by omega)]
  · exact f3.same (by rw [ss_ne (by omega), u0 _ _ (by omega)]) (fun y => by rw [ss_ne (by omega), u0 _ _ (by omega)])
theorem WV.pass {d : Nat} (hW : WV X w) (hd : w.2.1 + d ≤ 4000000) : WV X (a_pass d w) := by
  obtain ⟨h1, h2, h3, h4, h5⟩ := hW
  have hs : (a_pass d w).1.Sublist w.1 := List.filter_sublist
  refine ⟨Nat.le_trans hs.length_le h1, hd, fun k hk ht => ?_, fun r hr => ?_, h5.sublist hs⟩
  · have := h3 k hk ht
    unfold a_pass
    dsimp only
    rw [if_neg (by omega), if_neg (by omega), if_pos rfl]
    omega
  · obtain ⟨v1, v2, v3, v4, v5, v6, v7, v8, v9⟩ := h4 r (hs.subset hr)
    refine ⟨v1, v2, v3, v4, v5, ?_, ?_, v8, ?_⟩
    · show (if 3 = 6 then w.2.2.1 r.1 6 - d else w.2.2.1 r.1 3) ≠ 0
      rw [if_neg (by omega)]; exact v6
    · show (if 3 = 6 then w.2.2.1 r.2.1 6 - d else w.2.2.1 r.2.1 3) ≠ 0
      rw [if_neg (by omega)]; exact v7
    · show _ ≤ w.2.1 + d + X.2.1 + 1
      omega
theorem e_mpass {d : Nat} (hX0 : XV X) (hW : WV X w) (hL : Lay M) (h : RG X g w) (hd : d ≤ 100) (hD : w.2.1 + d ≤ 4000000) : ∃ h, f_X12_pass 70 (nI d) (me_w M g) = some (me_w M h) ∧ Fg g h ∧ RG X h (a_pass d w) := by
  have hL2 : ∀ q : St, Lay (me_w M q) := fun q => hL
  unfold f_X12_pass b_X12_pass
  rw [m_ck (hL2 g)]
  obtain ⟨x, hx, h1, rfl, f0, f1⟩ := lp_cnt (step := fun s : Me × Int32 => s_X12_pass_2 70 (nI d) s.1 s.2) d
    (fun i s => ∃ h, s = (me_w M h, nI i) ∧ Fg g h ∧ RG X h (a_pass i w))
    (fun x => ∃ h, x = (me_w M h, nI d) ∧ Fg g h ∧ RG X h (a_pass d w))
    (by
      rintro i s hi ⟨h2, rfl, f0, f1⟩
      have hWi : WV X (a_pass i w) := hW.pass (by omega)
      obtain ⟨u1, u2, u3, e1, e2, e3, e4, e5, e6⟩ := e_mday hX0 hWi hL f1
      rw [pass_s] at e6
      refine ⟨(me_w M u3, nI (i + 1)), ?_, u3, rfl, f0.trans e5, e6⟩
      show s_X12_pass_2 70 (nI d) (me_w M h2) (nI i) = _
      unfold s_X12_pass_2
      simp only [let_v]
      rw [if_neg (nI_ge hi (by omega)), m_gi (hL2 h2), i_w, f1.2.2.2.2.1, e1]
      simp only [Option.bind_some]
      rw [e2]
      simp only [Option.bind_some]
      rw [m_gi (hL2 u2), i_w, e4, nI_1, m_pi (hL2 u2), w_ss, ← e3, nI_1])
    (by
      rintro s ⟨h2, rfl, f0, f1⟩
      refine ⟨_, ?_, h2, rfl, f0, f1⟩
      show s_X12_pass_2 70 (nI d) (me_w M h2) (nI d) = _
      unfold s_X12_pass_2
      rw [if_pos (nI_le (Nat.le_refl _) (by omega))])
    (me_w M g, 0) ⟨g, by rw [nI_0], Fg.refl, by rw [pass_0]; exact h⟩
  rw [hx]
  exact ⟨h1, rfl, f0, f1⟩
end MD

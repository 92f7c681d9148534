/-! THE REFERENCE'S ACTS. Its working state, told by g: address, place, int -/
def RX (X : Cx) (g : St) : Prop := g 70 2 = nI X.2.1 ∧ g 70 3 = nI X.1 ∧ (∀ i, i < 25 → g 71 i = nI (X.2.2.2.2.2 i)) ∧ ∀ k, k < 6 → X.1.testBit k = true → g 72 k = nI (X.2.2.2.1 k) ∧ g 73 k = nI (X.2.2.2.2.1 k)
def RK (X : Cx) (g : St) (kf : Nat → Nat → Nat) (ho : Nat → Int32) : Prop := ∀ k, k < 6 → X.1.testBit k = true → g 81 k = nI (kf k 5) ∧ g 82 k = nI (kf k 6) ∧ g 83 k = nI (kf k 3) ∧ g 84 k = ho k
def RD (g : St) (l : List Rw) : Prop := l.length ≤ 12 ∧ g 70 22 = nI l.length ∧ ∀ i r, l[i]? = some r → g 85 (4 * i) = nI r.1 ∧ g 85 (4 * i + 1) = nI r.2.1 ∧ g 85 (4 * i + 2) = nI r.2.2.1 ∧ g 85 (4 * i + 3) = nI r.2.2.2
def RG (X : Cx) (g : St) (w : Wd) : Prop := RX X g ∧ g 70 17 = nI w.2.1 ∧ RK X g w.2.2.1 w.2.2.2 ∧ RD g w.1
/-- what its acts leave as it is -/
def Fg (g h : St) : Prop := ∀ a k, ¬ (81 ≤ a ∧ a ≤ 85) → ¬ (a = 70 ∧ (k = 17 ∨ k = 22)) → h a k = g a k
theorem Fg.refl {g : St} : Fg g g := fun _ _ _ _ => rfl
theorem Fg.trans {g h f : St} (a : Fg g h) (b : Fg h f) : Fg g f := fun x y q r => (b x y q r).trans (a x y q r)
def ss (g : St) (a k : Nat) (v : Int32) : St := fun x y => if x = a ∧ y = k then v else g x y
theorem w_ss {M : Me} {g : St} {a k : Nat} {v : Int32} : me_si (me_w M g) a k v = me_w M (ss g a k v) := rfl
theorem ss_at {g : St} {a k : Nat} {v : Int32} : ss g a k v a k = v := if_pos ⟨rfl, rfl⟩
theorem ss_ne {g : St} {a k x y : Nat} {v : Int32} (h : ¬ (x = a ∧ y = k)) : ss g a k v x y = g x y := if_neg h
theorem Fg.ss {g : St} {a k : Nat} {v : Int32} (h : (81 ≤ a ∧ a ≤ 85) ∨ (a = 70 ∧ (k = 17 ∨ k = 22))) : Fg g (ss g a k v) := fun x y q r => ss_ne (fun z => by
  obtain ⟨rfl, rfl⟩ := z
  rcases h with h | h
  · exact q h
  · exact r h)
theorem RX.same {X : Cx} {g h : St} (a : RX X g) (f : Fg g h) : RX X h := by
  obtain ⟨h1, h2, h3, h4⟩ := a
  refine ⟨by rw [f _ _ (by omega) (by omega)]; exact h1, by rw [f _ _ (by omega) (by omega)]; exact h2, fun i hi => by rw [f _ _ (by omega) (by omega)]; exact h3 i hi, fun k hk ht => ?_⟩
  rw [f _ _ (by omega) (by omega), f _ _ (by omega) (by omega)]
  exact h4 k hk ht
theorem RK.same {X : Cx} {g h : St} {kf : Nat → Nat → Nat} {ho : Nat → Int32} (a : RK X g kf ho) (f : ∀ x y, 81 ≤ x → x ≤ 84 → h x y = g x y) : RK X h kf ho := by
  intro k hk ht
  rw [f _ _ (by omega) (by omega), f _ _ (by omega) (by omega), f _ _ (by omega) (by omega), f _ _ (by omega) (by omega)]
  exact a k hk ht
theorem RD.same {g h : St} {l : List Rw} (a : RD g l) (f1 : h 70 22 = g 70 22) (f : ∀ y, h 85 y = g 85 y) : RD h l := by
  obtain ⟨h1, h2, h3⟩ := a
  refine ⟨h1, by rw [f1]; exact h2, fun i r hi => ?_⟩
  rw [f, f, f, f]
  exact h3 i r hi
theorem RK.s3 {X : Cx} {g : St} {kf : Nat → Nat → Nat} {ho : Nat → Int32} {k v : Nat} (h : RK X g kf ho) : RK X (ss g 83 k (nI v)) (up kf k 3 v) ho := by
  intro j hj ht
  obtain ⟨h1, h2, h3, h4⟩ := h j hj ht
  unfold up
  refine ⟨by rw [ss_ne (by omega), if_neg (by omega)]; exact h1, by rw [ss_ne (by omega), if_neg (by omega)]; exact h2, ?_, by rw [ss_ne (by omega)]; exact h4⟩
  by_cases q : j = k
  · subst q; rw [ss_at, if_pos ⟨rfl, rfl⟩]
  · rw [ss_ne (by omega), if_neg (by omega)]; exact h3
theorem RK.s5 {X : Cx} {g : St} {kf : Nat → Nat → Nat} {ho : Nat → Int32} {k v : Nat} (h : RK X g kf ho) : RK X (ss g 81 k (nI v)) (up kf k 5 v) ho := by
  intro j hj ht
  obtain ⟨h1, h2, h3, h4⟩ := h j hj ht
  unfold up
  refine ⟨?_, by rw [ss_ne (by omega), if_neg (by omega)]; exact h2, by rw [ss_ne (by omega), if_neg (by omega)]; exact h3, by rw [ss_ne (by omega)]; exact h4⟩
  by_cases q : j = k
  · subst q; rw [ss_at, if_pos ⟨rfl, rfl⟩]
  · rw [ss_ne (by omega), if_neg (by omega)]; exact h1
theorem RK.s6 {X : Cx} {g : St} {kf : Nat → Nat → Nat} {ho : Nat → Int32} {k v : Nat} (h : RK X g kf ho) : RK X (ss g 82 k (nI v)) (up kf k 6 v) ho := by
  intro j hj ht
  obtain ⟨h1, h2, h3, h4⟩ := h j hj ht
  unfold up
  refine ⟨by rw [ss_ne (by omega), if_neg (by omega)]; exact h1, ?_, by rw [ss_ne (by omega), if_neg (by omega)]; exact h3, by rw [ss_ne (by omega)]; exact h4⟩
  by_cases q : j = k
  · subst q; rw [ss_at, if_pos ⟨rfl, rfl⟩]
  · rw [ss_ne (by omega), if_neg (by omega)]; exact h2
theorem RK.sh {X : Cx} {g : St} {kf : Nat → Nat → Nat} {ho : Nat → Int32} {k : Nat} {v : Int32} (h : RK X g kf ho) : RK X (ss g 84 k v) kf (ups ho k v) := by
  intro j hj ht
  obtain ⟨h1, h2, h3, h4⟩ := h j hj ht
  unfold ups
  refine ⟨by rw [ss_ne (by omega)]; exact h1, by rw [ss_ne (by omega)]; exact h2, by rw [ss_ne (by omega)]; exact h3, ?_⟩
  by_cases q : j = k
  · subst q; rw [ss_at, if_pos rfl]
  · rw [ss_ne (by omega), if_neg q]; exact h4
/-- a loop with a number that falls -/
theorem lp_dn {S E : Type} {step : S → Option (S ⊕ E)} (I : Nat → S → Prop) (P : E → Prop) (hs : ∀ k s, I (k + 1) s → ∃ t, step s = some (.inl t) ∧ I k t) (he : ∀ s, I 0 s → ∃ x, step s = some (.inr x) ∧ P x) : ∀ n s, I n s → ∃ x, lp step s = some x ∧ P x := by
  intro n
  induction n with
  | zero =>
    intro s h
    obtain ⟨x, h1, h2⟩ := he s h
    exact ⟨x, by rw [lp_eq, h1]; rfl, h2⟩
  | succ n ih =>
    intro s h
    obtain ⟨t, h1, h2⟩ := hs n s h
    obtain ⟨x, h3, h4⟩ := ih t h2
    exact ⟨x, by rw [lp_eq, h1]; exact h3, h4⟩
theorem m1_sub (x : Int32) : x + (-1) = x - 1 := by rw [Int32.sub_eq_add_neg]
theorem m1_neg : nI 0 - 1 < 0 := by decide +kernel
/-- forgive: a row goes, those behind it move up -/
def fq (g : St) (i s : Nat) : St := fun a k => if a = 85 ∧ 4 * i ≤ k ∧ k < 4 * i + s then g 85 (k + 4) else g a k
theorem fq_o {g : St} {i s a k : Nat} (h : a ≠ 85) : fq g i s a k = g a k := if_neg (fun q => h q.1)
theorem e_forgive {M : Me} {g : St} {l : List Rw} {i : Nat} (hL : Lay M) (hD : RD g l) (hi : i < l.length) : ∃ h, f_X12_forgive 70 (nI i) (me_w M g) = some (me_w M h) ∧ (∀ a k, a ≠ 85 → ¬ (a = 70 ∧ k = 22) → h a k = g a k) ∧ RD h (l.eraseIdx i) := by
  obtain ⟨h12, hn, hr⟩ := hD
  have hL2 : ∀ q : St, Lay (me_w M q) := fun q => hL
  have e0 : fq g i 0 = g := by funext a k; exact if_neg (by omega)
  unfold f_X12_forgive b_X12_forgive
  rw [m_ck (hL2 g)]
  simp only [let_v]
  rw [c_4, pk_mul]
  have hlp := lp_up (step := fun s : Me × Int32 => s_X12_forgive_4 70 s.1 s.2)
    (fun s => (me_w M (fq g i s), nI (4 * i + s)))
    (4 * (l.length - 1 - i)) (me_w M (fq g i (4 * (l.length - 1 - i))), nI (4 * i + 4 * (l.length - 1 - i))) ?_ ?_ 0 (by omega)
  · rw [e0] at hlp
    rw [show nI (4 * i) = nI (4 * i + 0) from rfl, hlp]
    simp only [Option.bind_some]
    rw [m_gi (hL2 _), m_pi (hL2 _), i_w, fq_o (by decide), hn, c_1, pk_sub (by omega)]
    refine ⟨ss (fq g i (4 * (l.length - 1 - i))) 70 22 (nI (l.length - 1)), rfl, fun a k h1 h2 => ?_, ?_, ?_, fun j r hj => ?_⟩
    · rw [ss_ne h2, fq_o h1]
    · rw [List.length_eraseIdx_of_lt hi]; omega
    · rw [List.length_eraseIdx_of_lt hi, ss_at]
    · rw [ss_ne (by omega), ss_ne (by omega), ss_ne (by omega), ss_ne (by omega)]
      rw [List.getElem?_eraseIdx] at hj
      unfold fq
      by_cases hji : j < i
      · rw [if_pos hji] at hj
        rw [if_neg (by omega), if_neg (by omega), if_neg (by omega), if_neg (by omega)]
        exact hr j r hj
      · rw [if_neg hji] at hj
        have hlt : j + 1 < l.length := (List.getElem?_eq_some_iff.mp hj).1
        have h4 := hr (j + 1) r hj
        rw [if_pos (by omega), if_pos (by omega), if_pos (by omega), if_pos (by omega)]
        rw [show 4 * j + 4 = 4 * (j + 1) by omega, show 4 * j + 1 + 4 = 4 * (j + 1) + 1 by omega, show 4 * j + 2 + 4 = 4 * (j + 1) + 2 by omega, show 4 * j + 3 + 4 = 4 * (j + 1) + 3 by omega]
        exact h4
  · intro s hs
    show s_X12_forgive_4 70 (me_w M _) (nI (4 * i + s)) = _
    unfold s_X12_forgive_4
    simp only [let_v]
    rw [m_gi (hL2 _), i_w, fq_o (by decide), hn, c_4, pk_mul, nI_add, if_neg (nI_ge (by omega) (by omega)), m_gr23 (hL2 _), m_gr23 (hL2 _), m_li85 (hL2 _) (by omega), m_si85 (hL2 _) (by omega), nI_1, i_w]
    rw [w_step (g2 := fq g i (s + 1))]
    · rfl
    · intro x y
      unfold fq
      by_cases hx : x = 85 ∧ y = 4 * i + s
      · rw [if_pos hx, if_neg (by omega), if_pos (by omega), hx.2]
      · rw [if_neg hx]
        by_cases h2 : x = 85 ∧ 4 * i ≤ y ∧ y < 4 * i + s
        · rw [if_pos h2, if_pos (by omega)]
        · rw [if_neg h2, if_neg (by omega)]
  · show s_X12_forgive_4 70 (me_w M _) (nI _) = _
    unfold s_X12_forgive_4
    rw [m_gi (hL2 _), i_w, fq_o (by decide), hn, c_4, pk_mul, nI_add, if_pos (nI_le (by omega) (by omega))]
/-- rows that go, from the last to the first -/
def dw (l : List Rw) (p : Rw → Bool) (i : Nat) : List Rw := l.take i ++ (l.drop i).filter p
theorem tk_s : ∀ (l : List Rw) (i : Nat) (r : Rw), l[i]? = some r → l.take (i + 1) = l.take i ++ [r] ∧ l.drop i = r :: l.drop (i + 1) := by
  intro l
  induction l with
  | nil => intro i r h; simp at h
  | cons a l ih =>
    intro i r h
    cases i with
    | zero =>
      simp at h
      subst h
      exact ⟨rfl, rfl⟩
    | succ i =>
      obtain ⟨h1, h2⟩ := ih i r (by simpa using h)
      refine ⟨?_, ?_⟩
      · show a :: l.take (i + 1) = a :: (l.take i ++ [r])
        rw [h1]
      · show l.drop i = r :: l.drop (i + 1)
        rw [h2]
theorem dw_all (l : List Rw) (p : Rw → Bool) : dw l p l.length = l := by unfold dw; simp
theorem dw_0 (l : List Rw) (p : Rw → Bool) : dw l p 0 = l.filter p := by unfold dw; simp
theorem dw_at {l : List Rw} {p : Rw → Bool} {i : Nat} {r : Rw} (h : l[i]? = some r) : (dw l p (i + 1))[i]? = some r ∧ i < (dw l p (i + 1)).length := by
  have hl : i < l.length := (List.getElem?_eq_some_iff.mp h).1
  have h1 : (l.take i).length = i := by rw [List.length_take]; omega
  have e : (dw l p (i + 1))[i]? = some r := by
    unfold dw
    rw [(tk_s l i r h).1, List.append_assoc, List.getElem?_append_right (by omega), h1, Nat.sub_self]
    rfl
  exact ⟨e, (List.getElem?_eq_some_iff.mp e).1⟩
theorem dw_yes {l : List Rw} {p : Rw → Bool} {i : Nat} {r : Rw} (h : l[i]? = some r) (hp : p r = true) : dw l p (i + 1) = dw l p i := by
  unfold dw
  rw [(tk_s l i r h).1, (tk_s l i r h).2, List.filter_cons_of_pos hp, List.append_assoc]
  rfl
theorem dw_no {l : List Rw} {p : Rw → Bool} {i : Nat} {r : Rw} (h : l[i]? = some r) (hp : ¬ p r = true) : (dw l p (i + 1)).eraseIdx i = dw l p i := by
  have hl : i < l.length := (List.getElem?_eq_some_iff.mp h).1
  have h1 : (l.take i).length = i := by rw [List.length_take]; omega
  unfold dw
  rw [(tk_s l i r h).1, (tk_s l i r h).2, List.filter_cons_of_neg hp, List.append_assoc, List.eraseIdx_append_of_length_le (by omega), h1, Nat.sub_self]
  rfl
theorem WV.rb {X : Cx} {w : Wd} (hX : XV X) (hW : WV X w) : ∀ r, r ∈ w.1 → RB r := by
  intro r hr
  obtain ⟨v1, v2, v3, v4, v5, v6, v7, v8, v9⟩ := hW.2.2.2.1 r hr
  have := hX.2.1
  have := hW.2.1
  exact ⟨v1, v2, by omega, by omega⟩
section MA
variable {X : Cx} {M : Me} {g : St} {w : Wd}
theorem e_mstrike {k m : Nat} (hL : Lay M) (h : RG X g w) (hk : k < 6) (ht : X.1.testBit k = true) (hb : w.2.2.1 k 3 ≤ 99) (hm : m ≤ 20) (hB : ∀ r, r ∈ w.1 → RB r) : ∃ h, f_X12_strike 70 (nI k) (nI m) (me_w M g) = some (me_w M h) ∧ Fg g h ∧ RG X h (a_wound k m w) := by
  obtain ⟨hX, hD, hK, hR⟩ := h
  have hL2 : ∀ q : St, Lay (me_w M q) := fun q => hL
  have h3 := (hK k hk ht).2.2.1
  have hR1 : RD (ss g 83 k (nI (w.2.2.1 k 3 - m))) w.1 := hR.same (ss_ne (by omega)) (fun y => ss_ne (by omega))
  have hF1 : Fg g (ss g 83 k (nI (w.2.2.1 k 3 - m))) := Fg.ss (by omega)
  have hK1 := hK.s3 (k := k) (v := w.2.2.1 k 3 - m)
  unfold f_X12_strike b_X12_strike a_wound
  rw [m_ck (hL2 g), m_gr20 (hL2 g), m_gr20 (hL2 g), m_li83 (hL2 g) hk, i_w, h3]
  by_cases hc : w.2.2.1 k 3 ≤ m
  · have e0 : w.2.2.1 k 3 - m = 0 := by omega
    rw [if_pos (nI_le hc (by omega))]
    simp only [Option.bind_some]
    rw [c_0, m_si83 (hL2 g) hk, w_ss, show nI 0 = nI (w.2.2.1 k 3 - m) by rw [e0], m_gr20 (hL2 _), m_li83 (hL2 _) hk, i_w, ss_at, if_pos rfl, m_gi (hL2 _), i_w, hR1.2.1]
    simp only [let_v]
    obtain ⟨x, hx, h2, rfl, q1, q2⟩ := lp_dn (step := fun s : Me × Int32 => s_X12_strike_44 70 (nI k) s.1 s.2)
      (fun j s => ∃ h, s = (me_w M h, nI j - 1) ∧ j ≤ w.1.length ∧ (∀ a y, a ≠ 85 → ¬ (a = 70 ∧ y = 22) → h a y = ss g 83 k (nI (w.2.2.1 k 3 - m)) a y) ∧ RD h (dw w.1 (fun r => decide (¬ (r.1 = k ∨ r.2.1 = k))) j))
      (fun x => ∃ h, x = (me_w M h, nI 0 - 1) ∧ (∀ a y, a ≠ 85 → ¬ (a = 70 ∧ y = 22) → h a y = ss g 83 k (nI (w.2.2.1 k 3 - m)) a y) ∧ RD h (a_kill k w.1))
      (by
        rintro j s ⟨h, rfl, hj, f1, f2⟩
        have hjr : w.1[j]? = some w.1[j] := List.getElem?_eq_getElem (by omega)
        generalize w.1[j] = r at hjr
        have hrb := hB r (List.mem_of_getElem? hjr)
        obtain ⟨d1, d2⟩ := dw_at (p := fun r => decide (¬ (r.1 = k ∨ r.2.1 = k))) hjr
        obtain ⟨r0, r1, r2, r3⟩ := f2.2.2 j r d1
        have h12 := f2.1
        have hst : s_X12_strike_44 70 (nI k) (me_w M h) (nI j) = if r.1 = k ∨ r.2.1 = k then (f_X12_forgive 70 (nI j) (me_w M h)).bind (fun M2 => some (Sum.inl (M2, nI j - 1))) else some (Sum.inl (me_w M h, nI j - 1)) := by
          unfold s_X12_strike_44
          simp only [let_v, m1_sub]
          rw [if_neg (nI_pos (by omega)), m_gr23 (hL2 h), c_4, pk_mul, m_li85 (hL2 h) (by omega), i_w, r0]
          by_cases q1 : r.1 = k
          · rw [q1, if_pos rfl, if_pos (Or.inl rfl)]
            unfold cM
            cases f_X12_forgive 70 (nI j) (me_w M h) <;> rfl
          · rw [if_neg (nI_ne (by have := hrb.1; omega) (by omega) q1), m_gr23 (hL2 h), c_1, nI_add, m_li85 (hL2 h) (by omega), i_w, r1]
            by_cases q2 : r.2.1 = k
            · rw [q2, if_pos rfl, if_pos (Or.inr rfl)]
              unfold cM
              cases f_X12_forgive 70 (nI j) (me_w M h) <;> rfl
            · rw [if_neg (nI_ne (by have := hrb.2.1; omega) (by omega) q2), if_neg (by omega)]; rfl
        show ∃ t, s_X12_strike_44 70 (nI k) (me_w M h) (nI (j + 1) - 1) = _ ∧ _
        rw [nI_pred, hst]
        by_cases q : r.1 = k ∨ r.2.1 = k
        · obtain ⟨h3, p1, p2, p3⟩ := e_forgive hL f2 d2
          rw [if_pos q, p1]
          refine ⟨_, rfl, h3, rfl, by omega, fun a y z1 z2 => (p2 a y z1 z2).trans (f1 a y z1 z2), ?_⟩
          rw [dw_no hjr (by simp [q])] at p3
          exact p3
        · rw [if_neg q]
          refine ⟨_, rfl, h, rfl, by omega, f1, ?_⟩
          rw [dw_yes hjr (by simp [q])] at f2
          exact f2)
      (by
        rintro s ⟨h, rfl, hj, f1, f2⟩
        refine ⟨_, ?_, h, rfl, f1, ?_⟩
        · show s_X12_strike_44 70 (nI k) (me_w M h) (nI 0 - 1) = _
          unfold s_X12_strike_44
          rw [if_pos m1_neg]
        · rw [dw_0] at f2
          exact f2)
      w.1.length (me_w M (ss g 83 k (nI (w.2.2.1 k 3 - m))), nI w.1.length - 1) ⟨_, rfl, Nat.le_refl _, fun _ _ _ _ => rfl, by rw [dw_all]; exact hR1⟩
    rw [hx]
    refine ⟨h2, rfl, hF1.trans (fun a y z1 z2 => q1 a y (by omega) (by omega)), (hX.same hF1).same (fun a y z1 z2 => q1 a y (by omega) (by omega)), ?_, ?_, ?_⟩
    · rw [q1 _ _ (by omega) (by omega), ss_ne (by omega)]; exact hD
    · exact hK1.same (fun x y _ _ => q1 x y (by omega) (by omega))
    · rw [if_pos hc]; exact q2
  · rw [if_neg (nI_ge (by omega) (by omega)), m_gr20 (hL2 g), m_li83 (hL2 g) hk, i_w, h3, pk_sub (by omega)]
    simp only [Option.bind_some]
    rw [m_si83 (hL2 g) hk, w_ss, m_gr20 (hL2 _), m_li83 (hL2 _) hk, i_w, ss_at, if_neg (nI_ne0 (by omega) (by omega)), if_neg hc]
    exact ⟨_, rfl, hF1, hX.same hF1, by rw [ss_ne (by omega)]; exact hD, hK1, hR1⟩
theorem e_malive {k : Nat} (hX0 : XV X) (hL : Lay M) (h : RG X g w) (hk : k < 6) (hb : X.1.testBit k = true → w.2.2.1 k 3 ≤ 99) : f_X12_isAlive 70 (nI k) (me_w M g) = some (if a_al X w k then 1 else 0) := by
  have hL2 : Lay (me_w M g) := hL
  unfold f_X12_isAlive b_X12_isAlive
  rw [m_ck hL2, cP_e (e_isThere (lk_70 hL2) (show me_i (me_w M g) 70 3 = nI X.1 from h.1.2.1) hX0.1), tv_k hk]
  by_cases ht : X.1.testBit k = true
  · have h1 := (h.2.2.1 k hk ht).2.2.1
    have := hb ht
    rw [if_pos ht, if_neg (show ¬ (1 : Int32) = 0 by decide), m_gr20 hL2, m_li83 hL2 hk, i_w, h1]
    by_cases h0 : w.2.2.1 k 3 = 0
    · rw [if_neg (show ¬ a_al X w k from fun z => z.2 h0), h0, if_pos (show nI 0 ≤ (0 : Int32) by decide +kernel)]; rfl
    · rw [c_0, if_neg (nI_ge (by omega) (by omega)), if_pos (show a_al X w k from ⟨ht, h0⟩)]; rfl
  · rw [if_neg ht, if_pos rfl, if_neg (show ¬ a_al X w k from fun z => ht z.1)]; rfl
theorem e_mwhyS {k q m : Nat} (hX0 : XV X) (hW : WV X w) (hL : Lay M) (h : RG X g w) (hk : k < 6) (hq : q < 6) (hm : m ≤ 20) : f_X12_whyNotStrike 70 (nI k) (nI q) (nI m) (me_w M g) = some (nI (a_why X k q m w)) := by
  have hL2 : Lay (me_w M g) := hL
  obtain ⟨W1, W2, W3, W4, W5⟩ := hW
  have ak := e_malive hX0 hL h hk (fun z => (W3 k hk z).1)
  have aq := e_malive hX0 hL h hq (fun z => (W3 q hq z).1)
  unfold f_X12_whyNotStrike b_X12_whyNotStrike a_why
  rw [m_ck hL2, cP_e ak]
  by_cases h1n : ¬ (a_al X w k)
  · rw [if_neg h1n, if_pos rfl, if_pos h1n, c_1]
  have h1 := Classical.not_not.mp h1n
  rw [if_pos h1, if_neg (show ¬ (1 : Int32) = 0 by decide), if_neg h1n, cP_e aq]
  by_cases h2n : ¬ (a_al X w q)
  · rw [if_neg h2n, if_pos rfl, if_pos h2n, c_1]
  have h2 := Classical.not_not.mp h2n
  rw [if_pos h2, if_neg (show ¬ (1 : Int32) = 0 by decide), if_neg h2n]
  obtain ⟨k1, k2, k3, k4⟩ := h.2.2.1 k hk h1.1
  obtain ⟨q1, q2, q3, q4⟩ := h.2.2.1 q hq h2.1
  have sk := (h.1.2.2.2 k hk h1.1).1
  have wk := W3 k hk h1.1
  have wq := W3 q hq h2.1
  have xk := hX0.2.2.2.1 k hk h1.1
  have xc := hX0.2.2.1
  by_cases h3 : k = q
  · rw [if_pos h3, h3, if_pos rfl, c_1]
  rw [if_neg h3, if_neg (nI_ne (by omega) (by omega) h3), m_gr19 hL2, m_li82 hL2 hk, i_w, k2]
  by_cases h4 : 0 < w.2.2.1 k 6
  · rw [if_pos h4, c_0, if_pos (nI_lt h4 (by omega)), c_2]
  rw [if_neg h4, c_0, if_neg (nI_nlt (by omega) (by omega)), m_gr19 hL2, m_li82 hL2 hq, i_w, q2]
  by_cases h5 : 0 < w.2.2.1 q 6
  · rw [if_pos h5, if_neg (nI_ge h5 (by omega)), c_2]
  rw [if_neg h5, if_pos (nI_le (by omega) (by omega)), m_gr18 hL2, m_li81 hL2 hk, m_gr18 hL2, m_li81 hL2 hq, i_w, i_w, k1, q1]
  by_cases h6n : ¬ (w.2.2.1 k 5 = w.2.2.1 q 5)
  · rw [if_pos h6n, if_neg (nI_ne (by omega) (by omega) h6n)]; rfl
  have h6 := Classical.not_not.mp h6n
  rw [if_neg h6n, h6, if_pos rfl, m_gr4 hL2, m_li72 hL2 hk, i_w, sk]
  by_cases h7 : X.2.2.2.1 k < m
  · rw [if_pos h7, if_neg (nI_ge h7 (by omega))]; rfl
  rw [if_neg h7, if_pos (nI_le (by omega) (by omega)), m_gi hL2, i_w, h.2.2.2.2.1, c_12]
  by_cases h8 : w.1.length = 12
  · rw [if_pos h8, h8, if_pos rfl]; rfl
  · rw [if_neg h8, if_neg (nI_ne (by omega) (by omega) h8)]; rfl
/-- a row more -/
theorem RD.push {l : List Rw} {a b c d : Nat} (h : RD g l) (hl : l.length < 12) : RD (ss (ss (ss (ss (ss g 85 (4 * l.length) (nI a)) 85 (4 * l.length + 1) (nI b)) 85 (4 * l.length + 2) (nI c)) 85 (4 * l.length + 3) (nI d)) 70 22 (nI (l.length + 1))) (l ++ [(a, b, c, d)]) := by
  obtain ⟨h1, h2, h3⟩ := h
  refine ⟨by simp; omega, by rw [ss_at]; simp, fun i r hi => ?_⟩
  by_cases hil : i < l.length
  · rw [List.getElem?_append_left hil] at hi
    obtain ⟨r0, r1, r2, r3⟩ := h3 i r hi
    refine ⟨?_, ?_, ?_, ?_⟩
    · rw [ss_ne (by omega), ss_ne (by omega), ss_ne (by omega), ss_ne (by omega), ss_ne (by omega)]; exact r0
    · rw [ss_ne (by omega), ss_ne (by omega), ss_ne (by omega), ss_ne (by omega), ss_ne (by omega)]; exact r1
    · rw [ss_ne (by omega), ss_ne (by omega), ss_ne (by omega), ss_ne (by omega), ss_ne (by omega)]; exact r2
    · rw [ss_ne (by omega), ss_ne (by omega), ss_ne (by omega), ss_ne (by omega), ss_ne (by omega)]; exact r3
  · have hlt := (List.getElem?_eq_some_iff.mp hi).1
    simp at hlt
    have hie : i = l.length := by omega
    subst hie
    rw [List.getElem?_append_right (Nat.le_refl _), Nat.sub_self] at hi
    obtain rfl : (a, b, c, d) = r := by simpa using hi
    refine ⟨?_, ?_, ?_, ?_⟩
    · rw [ss_ne (by omega), ss_ne (by omega), ss_ne (by omega), ss_ne (by omega), ss_at]
    · rw [ss_ne (by omega), ss_ne (by omega), ss_ne (by omega), ss_at]
    · rw [ss_ne (by omega), ss_ne (by omega), ss_at]
    · rw [ss_ne (by omega), ss_at]
theorem e_mhit {k q m : Nat} (hX0 : XV X) (hW : WV X w) (hL : Lay M) (h : RG X g w) (hq : q < 6) (hm : m ≤ 20) (hwhy : a_why X k q m w = 0) : ∃ h, f_X12_hit 70 (nI k) (nI q) (nI m) (me_w M g) = some (me_w M h) ∧ Fg g h ∧ RG X h (a_hit X k q m w) := by
  have hL2 : ∀ q : St, Lay (me_w M q) := fun q => hL
  have hw := hwhy
  unfold a_why at hw
  split at hw; · cases hw
  split at hw; · cases hw
  split at hw; · cases hw
  split at hw; · cases hw
  split at hw; · cases hw
  split at hw; · cases hw
  split at hw; · cases hw
  split at hw; · cases hw
  rename_i z1 z2 z3 z4 z5 z6 z7 z8
  have aq := Classical.not_not.mp z2
  have wq := hW.2.2.1 q hq aq.1
  have wl := hW.1
  obtain ⟨h1, e1, e2, e3⟩ := e_mstrike (k := q) (m := m) hL h hq aq.1 wq.1 hm (hW.rb hX0)
  obtain ⟨r1, r2, r3, r4⟩ := id e3
  unfold f_X12_hit b_X12_hit a_hit
  rw [m_ck (hL2 g), cM_e e1, m_gr20 (hL2 _), m_li83 (hL2 _) hq, i_w, (r3 q hq aq.1).2.2.1, show (a_wound q m w).2.2.1 q 3 = w.2.2.1 q 3 - m from if_pos ⟨rfl, rfl⟩]
  by_cases h9 : w.2.2.1 q 3 ≤ m
  · rw [c_0, if_pos (nI_le (by omega) (by omega)), if_pos h9]
    exact ⟨_, rfl, e2, e3⟩
  · have hnk : (a_wound q m w).1 = w.1 := if_neg h9
    rw [hnk] at r4
    have hy := r1.1
    have r22 : ∀ v1, ss h1 85 v1 (nI k) 70 22 = nI w.1.length := fun v1 => by rw [ss_ne (by omega)]; exact r4.2.1
    rw [c_0, if_neg (nI_ge (by omega) (by omega)), if_neg h9, m_gr23 (hL2 _), m_gi (hL2 _), i_w, r4.2.1, c_4, pk_mul, m_si85 (hL2 _) (by omega), w_ss,
      m_gr23 (hL2 _), m_gi (hL2 _), i_w, ss_ne (by omega), r4.2.1, pk_mul, c_1, nI_add, m_si85 (hL2 _) (by omega), w_ss,
      m_gr23 (hL2 _), m_gi (hL2 _), i_w, ss_ne (by omega), ss_ne (by omega), r4.2.1, pk_mul, c_2, nI_add, m_si85 (hL2 _) (by omega), w_ss,
      m_gr23 (hL2 _), m_gi (hL2 _), i_w, ss_ne (by omega), ss_ne (by omega), ss_ne (by omega), r4.2.1, pk_mul, m_gi (hL2 _), m_gi (hL2 _), i_w, i_w, ss_ne (by omega), ss_ne (by omega), ss_ne (by omega), ss_ne (by omega), ss_ne (by omega), ss_ne (by omega), r2, hy, nI_add, nI_add, c_3, nI_add, m_si85 (hL2 _) (by omega), w_ss,
      m_gi (hL2 _), i_w, ss_ne (by omega), ss_ne (by omega), ss_ne (by omega), ss_ne (by omega), r4.2.1, nI_add, m_pi (hL2 _), w_ss]
    have hF : Fg h1 (ss (ss (ss (ss (ss h1 85 (4 * w.1.length) (nI k)) 85 (4 * w.1.length + 1) (nI q)) 85 (4 * w.1.length + 2) (nI m)) 85 (4 * w.1.length + 3) (nI ((a_wound q m w).2.1 + X.2.1 + 1))) 70 22 (nI (w.1.length + 1))) := ((((Fg.ss (by omega)).trans (Fg.ss (by omega))).trans (Fg.ss (by omega))).trans (Fg.ss (by omega))).trans (Fg.ss (by omega))
    refine ⟨_, rfl, e2.trans hF, r1.same hF, ?_, ?_, r4.push (by omega)⟩
    · rw [ss_ne (by omega), ss_ne (by omega), ss_ne (by omega), ss_ne (by omega), ss_ne (by omega)]; exact r2
    · exact r3.same (fun x y _ _ => by rw [ss_ne (by omega), ss_ne (by omega), ss_ne (by omega), ss_ne (by omega), ss_ne (by omega)])
end MA

/-! blows are given back -/
def a_due (k D : Nat) (r : Rw) : Bool := decide (r.2.1 = k ∧ r.2.2.2 = D)
def a_nx (X : Cx) (k : Nat) (r : Rw) (w : Wd) : Wd :=
  if w.2.2.1 r.1 6 = 0 ∧ w.2.2.1 r.1 5 = X.2.2.2.2.1 k then a_wound r.1 (min r.2.2.1 (X.2.2.2.1 k)) (w.1.eraseP (a_due k w.2.1), w.2.1, w.2.2.1, ups (ups w.2.2.2 r.1 (w.2.2.2 r.1 + 1)) k (ups w.2.2.2 r.1 (w.2.2.2 r.1 + 1) k + 3))
  else (w.1.eraseP (a_due k w.2.1), w.2.1, w.2.2.1, ups w.2.2.2 r.1 (w.2.2.2 r.1 - 5))
def a_gb (X : Cx) (k : Nat) : Nat → Wd → Wd
  | 0, w => w
  | f + 1, w => match w.1.find? (a_due k w.2.1) with
    | none => w
    | some r => a_gb X k f (a_nx X k r w)
section CG
variable {X : Cx} {M N : Me} {c D n : Nat} {π : Nat → Nat} {rs : Nat → Rw} {w : Wd} {kf : Nat → Nat → Nat} {ho : Nat → Int32}
def lvr (M : Me) (c : Nat) (π : Nat → Nat) (i n : Nat) : List Nat := ((List.range (n - i - 1)).map (fun j => π (i + 1 + j))).filter (fun o => decide (me_i M (c + 6 + o) 4 = 0))
theorem lv_split {i : Nat} (hi : i < n) : lv M c π n = lv M c π i ++ ((if me_i M (c + 6 + π i) 4 = 0 then [π i] else []) ++ lvr M c π i n) := by
  unfold lv lvr
  have e : List.range n = List.range i ++ (i :: (List.range (n - i - 1)).map (fun j => i + 1 + j)) := by
    have h1 : n = i + ((n - i - 1) + 1) := by omega
    have h2 : List.range (i + ((n - i - 1) + 1)) = List.range i ++ (i :: (List.range (n - i - 1)).map (fun j => i + 1 + j)) := by
      rw [List.range_add, List.range_succ_eq_map, List.map_cons, List.map_map]
      congr 2
      apply List.map_congr_left
      intro j _
      show i + (j + 1) = i + 1 + j
      omega
    rw [← h2, ← h1]
  rw [e, List.map_append, List.filter_append, List.map_cons, List.filter_cons, List.map_map]
  congr 1
  by_cases h : me_i M (c + 6 + π i) 4 = 0
  · simp [h, Function.comp_def]
  · simp [h, Function.comp_def]
/-- the first that is due -/
theorem e_findDue {k : Nat} (hCL : CL M c) (hCP : CP M c π) (hD : CD M c π n rs) (hk : k < 6) (hDD : D < 2 ^ 30) :
    (f_X2_findDueTo (c + 4) (nI k) (nI D) M = some (-6) ∧ ((lv M c π n).map rs).find? (a_due k D) = none) ∨
    ∃ i, i < n ∧ f_X2_findDueTo (c + 4) (nI k) (nI D) M = some (nI i) ∧ me_i M (c + 6 + π i) 4 = 0 ∧ a_due k D (rs (π i)) = true ∧ (∀ r, r ∈ (lv M c π i).map rs → a_due k D r = false) ∧ ((lv M c π n).map rs).find? (a_due k D) = some (rs (π i)) := by
  obtain ⟨h12, hn, hr⟩ := hD
  unfold f_X2_findDueTo b_X2_findDueTo
  rw [q_ck2 hCL]
  have hlp := lp_by (step := fun s : Int32 => s_X2_findDueTo_2 (c + 4) (nI k) (nI D) M s)
    (fun s => ∃ i, s = nI i ∧ i ≤ n ∧ ∀ j, j < i → me_i M (c + 6 + π j) 4 = 0 → a_due k D (rs (π j)) = false)
    (fun x => (x = Sum.inl (nI n) ∧ ∀ j, j < n → me_i M (c + 6 + π j) 4 = 0 → a_due k D (rs (π j)) = false) ∨ ∃ i, i < n ∧ x = Sum.inr (nI i) ∧ me_i M (c + 6 + π i) 4 = 0 ∧ a_due k D (rs (π i)) = true ∧ ∀ j, j < i → me_i M (c + 6 + π j) 4 = 0 → a_due k D (rs (π j)) = false)
    (fun s => n - s.toNatClampNeg) ?_ 0 ⟨0, by rw [nI_0], by omega, fun j hj => absurd hj (by omega)⟩
  · obtain ⟨x, hx, ⟨rfl, h1⟩ | ⟨i, hi, rfl, h1, h2, h3⟩⟩ := hlp
    · left
      refine ⟨by rw [hx]; rfl, ?_⟩
      rw [List.find?_eq_none]
      intro r hrr
      obtain ⟨o, ho, rfl⟩ := List.mem_map.mp hrr
      unfold lv at ho
      rw [List.mem_filter] at ho
      obtain ⟨j, hj, rfl⟩ := List.mem_map.mp ho.1
      rw [h1 j (List.mem_range.mp hj) (of_decide_eq_true ho.2)]
      simp
    · right
      have hbef : ∀ r, r ∈ (lv M c π i).map rs → a_due k D r = false := by
        intro r hrr
        obtain ⟨o, ho, rfl⟩ := List.mem_map.mp hrr
        unfold lv at ho
        rw [List.mem_filter] at ho
        obtain ⟨j, hj, rfl⟩ := List.mem_map.mp ho.1
        exact h3 j (List.mem_range.mp hj) (of_decide_eq_true ho.2)
      refine ⟨i, hi, by rw [hx]; rfl, h1, h2, hbef, ?_⟩
      rw [lv_split hi, if_pos h1, List.map_append, List.find?_append, List.find?_eq_none.mpr (fun r q => by rw [hbef r q]; simp)]
      simp [h2]
  · rintro s ⟨i, rfl, hi, hb⟩
    have hcl : (nI i).toNatClampNeg = i := nI_clamp (by omega)
    by_cases hin : i = n
    · subst hin
      right
      refine ⟨Sum.inl (nI i), ?_, Or.inl ⟨rfl, hb⟩⟩
      show s_X2_findDueTo_2 (c + 4) (nI k) (nI D) M (nI i) = _
      unfold s_X2_findDueTo_2
      rw [q_gi2 hCL, hn, if_pos (nI_le (Nat.le_refl _) (by omega))]
      split <;> rfl
    · obtain ⟨r0, r1, r2, r3, b0, b1, b2, b3⟩ := hr i (by omega)
      have hp := (hCP.1 i (by omega)).1
      have n1 : ¬ (12 : Int32) ≤ nI i := by rw [c_12]; exact nI_ge (by omega) (by omega)
      have n2 : ¬ nI n ≤ nI i := nI_ge (by omega) (by omega)
      have st : s_X2_findDueTo_2 (c + 4) (nI k) (nI D) M (nI i) = if (rs (π i)).2.1 = k ∧ (rs (π i)).2.2.2 = D ∧ me_i M (c + 6 + π i) 4 = 0 then some (Sum.inr (Sum.inr (nI i))) else some (Sum.inl (nI (i + 1))) := by
        unfold s_X2_findDueTo_2
        simp only [let_v]
        rw [if_neg n1, q_gi2 hCL, hn, if_neg n2, q_d1 hCL, q_row hCL hCP (by omega), q_gi1 hCL hp, r1]
        by_cases q1 : (rs (π i)).2.1 = k
        · rw [q1, if_pos rfl, q_d1 hCL, q_row hCL hCP (by omega), q_gi1 hCL hp, r3]
          by_cases q2 : (rs (π i)).2.2.2 = D
          · rw [q2, if_pos rfl, q_d1 hCL, q_row hCL hCP (by omega), q_gi1 hCL hp]
            by_cases q3 : me_i M (c + 6 + π i) 4 = 0
            · rw [if_pos q3, if_pos ⟨rfl, rfl, q3⟩]
            · rw [if_neg q3, if_neg (fun z => q3 z.2.2), nI_1]
          · rw [if_neg (nI_ne (by omega) (by omega) q2), if_neg (fun z => q2 z.2.1), nI_1]
        · rw [if_neg (nI_ne (by omega) (by omega) q1), if_neg (fun z => q1 z.1), nI_1]
      by_cases hq : (rs (π i)).2.1 = k ∧ (rs (π i)).2.2.2 = D ∧ me_i M (c + 6 + π i) 4 = 0
      · right
        rw [if_pos hq] at st
        exact ⟨_, st, Or.inr ⟨i, by omega, rfl, hq.2.2, by unfold a_due; simp [hq.1, hq.2.1], hb⟩⟩
      · left
        rw [if_neg hq] at st
        refine ⟨_, st, ⟨i + 1, rfl, by omega, fun j hj hl => ?_⟩, ?_⟩
        · by_cases hji : j = i
          · subst hji
            unfold a_due
            apply decide_eq_false
            exact fun z => hq ⟨z.1, z.2, hl⟩
          · exact hb j (by omega) hl
        · rw [hcl, nI_clamp (by omega)]; omega
/-- a row is marked -/
theorem CV.mark {i k : Nat} (h : CV X M c π n rs w) (hi : i < n) (h0 : me_i M (c + 6 + π i) 4 = 0) (hd : a_due k w.2.1 (rs (π i)) = true) (hb : ∀ r, r ∈ (lv M c π i).map rs → a_due k w.2.1 r = false) : CV X (me_si M (c + 6 + π i) 4 1) c π n rs (w.1.eraseP (a_due k w.2.1), w.2) := by
  obtain ⟨hCL, hCP, hF, hK, hD, hw⟩ := h
  have h12 := hD.1
  have hp := (hCP.1 i (by omega)).1
  refine ⟨hCL, hCP, hF.same (fun a j q => by rw [i_si, if_neg (by omega)]), hK.same (fun a j _ _ => by rw [i_si, if_neg (by omega)]), hD.same hCP (by rw [i_si, if_neg (by omega)]) (fun a j _ _ _ => by rw [i_si, if_neg (by omega)]), ?_⟩
  show w.1.eraseP _ = _
  have e1 : lv (me_si M (c + 6 + π i) 4 1) c π i = lv M c π i := by
    unfold lv
    apply List.filter_congr
    intro o ho
    obtain ⟨j, hj, rfl⟩ := List.mem_map.mp ho
    have : π j ≠ π i := fun z => by have := hCP.2 j i (by have := List.mem_range.mp hj; omega) (by omega) z; have := List.mem_range.mp hj; omega
    rw [i_si, if_neg (by omega)]
  have e2 : lvr (me_si M (c + 6 + π i) 4 1) c π i n = lvr M c π i n := by
    unfold lvr
    apply List.filter_congr
    intro o ho
    obtain ⟨j, hj, rfl⟩ := List.mem_map.mp ho
    have hj2 := List.mem_range.mp hj
    have : π (i + 1 + j) ≠ π i := fun z => by have := hCP.2 (i + 1 + j) i (by omega) (by omega) z; omega
    rw [i_si, if_neg (by omega)]
  rw [hw, lv_split hi, if_pos h0, lv_split hi, if_neg (by rw [i_si, if_pos ⟨rfl, rfl⟩]; decide), e1, e2]
  simp only [List.map_append, List.map_cons, List.map_nil, List.nil_append]
  rw [List.eraseP_append_right _ (fun r q => by rw [hb r q]; simp)]
  simp [hd]
theorem find_mem {p : Rw → Bool} {l : List Rw} {r : Rw} (h : l.find? p = some r) : r ∈ l ∧ p r = true := ⟨List.mem_of_find?_eq_some h, List.find?_some h⟩
theorem sub_5 (v : Int32) : v - 5 = v + (-5) := by rw [Int32.sub_eq_add_neg]
/-- one blow is given back -/
theorem e_backOne {i k : Nat} (hX : XV X) (hW : WV X w) (h : CV X M c π n rs w) (hk : k < 6) (ht : X.1.testBit k = true) (hi : i < n) (h0 : me_i M (c + 6 + π i) 4 = 0) (hd : a_due k w.2.1 (rs (π i)) = true) (hb : ∀ r, r ∈ (lv M c π i).map rs → a_due k w.2.1 r = false) (hm : rs (π i) ∈ w.1) :
    ∃ g, f_X0_giveBackOne c (c + 22 + k) (nI i) M = some (me_w M g) ∧ (∀ a j, a < c + 6 ∨ (c + 18 ≤ a ∧ a < c + 22) ∨ c + 28 ≤ a → g a j = me_i M a j) ∧ CV X (me_w M g) c π n rs (a_nx X k (rs (π i)) w) := by
  have hV1 := h.mark hi h0 hd hb
  obtain ⟨hCL, hCP, hF, hK, hD, hw⟩ := id h
  obtain ⟨r0, r1, r2, r3, b0, b1, b2, b3⟩ := hD.2.2 i hi
  have h12 := hD.1
  have hp := (hCP.1 i (by omega)).1
  obtain ⟨v1, v2, v3, v4, v5, v6, v7, v8, v9⟩ := hW.2.2.2.1 _ hm
  have hC1 : CL (me_si M (c + 6 + π i) 4 1) c := hCL
  have hK1 := hV1.2.2.2.1
  have wS := hW.2.2.1 _ v1 v4
  have xk := hX.2.2.2.1 k hk ht
  have xc := hX.2.2.1
  obtain ⟨k1, k2, k3, k4, k5, k6⟩ := (hK1 k hk).2 ht
  obtain ⟨s1, s2, s3, s4, s5, s6⟩ := (hK1 _ v1).2 v4
  have eIn := CK.isIn hC1 hK1 (k := (rs (π i)).1) (p := X.2.2.2.2.1 k) v1 v4 (by show w.2.2.1 _ 5 < 1000; omega) (by show w.2.2.1 _ 6 < 1000; omega) (by omega)
  have hdue : (rs (π i)).2.1 = k := (of_decide_eq_true hd).1
  have hne : (rs (π i)).1 ≠ k := by rw [← hdue]; exact v3
  have ehas : f_X2_has (c + 4) (nI i) M = some 1 := by rw [e_dhas hCL.2.2.2.1.1 hD.2.1 h12, cv_one2 (by omega) hi]
  have er0 : me_i (me_si M (c + 6 + π i) 4 1) (c + 6 + π i) 0 = nI (rs (π i)).1 := by rw [i_si, if_neg (by omega)]; exact r0
  unfold f_X0_giveBackOne b_X0_giveBackOne a_nx
  rw [q_ck hCL, q_c2 hCL, cP_e ehas, if_neg (show ¬ (1 : Int32) = 0 by decide), q_c2 hCL, q_d1 hCL, q_row hCL hCP (by omega), q_pz1 hCL hp (Or.inr rfl), q_gi1 hC1 hp, er0, q_knt hC1 v1, q_gi4 hC1 hk, k1, cP_e eIn]
  by_cases hh : w.2.2.1 (rs (π i)).1 6 = 0 ∧ w.2.2.1 (rs (π i)).1 5 = X.2.2.2.2.1 k
  · rw [if_pos hh, if_pos hh, if_neg (show ¬ (1 : Int32) = 0 by decide), q_gi4 hC1 v1, s4, q_pi4 hC1 v1, q_gi4 (by exact hC1) hk, q_pi4 (by exact hC1) hk, q_gi1 (by exact hC1) hp, q_gi1 (by exact hC1) hp, q_gi4 (by exact hC1) hk]
    have hV2 := hV1.kn (N := me_si (me_si M (c + 6 + π i) 4 1) (c + 22 + (rs (π i)).1) 4 (w.2.2.2 (rs (π i)).1 + 1)) rfl (fun _ _ => rfl) (fun a j q => by rw [i_si, if_neg (by omega)]) (CK.sh (k := (rs (π i)).1) (v := w.2.2.2 (rs (π i)).1 + 1) hK1)
    have hV3 := hV2.kn (N := me_si (me_si (me_si M (c + 6 + π i) 4 1) (c + 22 + (rs (π i)).1) 4 (w.2.2.2 (rs (π i)).1 + 1)) (c + 22 + k) 4 (ups w.2.2.2 (rs (π i)).1 (w.2.2.2 (rs (π i)).1 + 1) k + 3)) rfl (fun _ _ => rfl) (fun a j q => by rw [i_si, if_neg (by omega)]) (CK.sh (k := k) (v := ups w.2.2.2 (rs (π i)).1 (w.2.2.2 (rs (π i)).1 + 1) k + 3) hV2.2.2.2.1)
    have eg : me_i (me_si (me_si M (c + 6 + π i) 4 1) (c + 22 + (rs (π i)).1) 4 (w.2.2.2 (rs (π i)).1 + 1)) (c + 22 + k) 4 = ups w.2.2.2 (rs (π i)).1 (w.2.2.2 (rs (π i)).1 + 1) k := ((hV2.2.2.2.1 k hk).2 ht).2.2.2.1
    rw [show me_i (me_si (me_si M (c + 6 + π i) 4 1) (c + 22 + (rs (π i)).1) 4 ((w.1.eraseP (a_due k w.2.1), w.2).2.2.2 (rs (π i)).1 + 1)) (c + 22 + k) 4 = ups w.2.2.2 (rs (π i)).1 (w.2.2.2 (rs (π i)).1 + 1) k from eg]
    have q0 := (hV3.2.2.2.2.1.2.2 i hi)
    have qk := ((hV3.2.2.2.1 k hk).2 ht).2.1
    have emin : mn_i (nI (rs (π i)).2.2.1) (nI (X.2.2.2.1 k)) = nI (min (rs (π i)).2.2.1 (X.2.2.2.1 k)) := by
      unfold mn_i
      by_cases hl : X.2.2.2.1 k < (rs (π i)).2.2.1
      · rw [if_pos (nI_lt hl (by omega))]; congr 1; omega
      · rw [if_neg (nI_nlt (by omega) (by omega))]; congr 1; omega
    obtain ⟨g, e1, e2, e3⟩ := e_wound (k := (rs (π i)).1) (m := min (rs (π i)).2.2.1 (X.2.2.2.1 k)) hV3 v1 v4 wS.1 (by omega)
    refine ⟨g, ?_, fun a j haj => ?_, e3⟩
    · rw [show me_i (me_si (me_si (me_si M (c + 6 + π i) 4 1) (c + 22 + (rs (π i)).1) 4 ((w.1.eraseP (a_due k w.2.1), w.2).2.2.2 (rs (π i)).1 + 1)) (c + 22 + k) 4 (ups w.2.2.2 (rs (π i)).1 (w.2.2.2 (rs (π i)).1 + 1) k + 3)) (c + 6 + π i) 0 = nI (rs (π i)).1 from q0.1, show me_i (me_si (me_si (me_si M (c + 6 + π i) 4 1) (c + 22 + (rs (π i)).1) 4 ((w.1.eraseP (a_due k w.2.1), w.2).2.2.2 (rs (π i)).1 + 1)) (c + 22 + k) 4 (ups w.2.2.2 (rs (π i)).1 (w.2.2.2 (rs (π i)).1 + 1) k + 3)) (c + 6 + π i) 2 = nI (rs (π i)).2.2.1 from q0.2.2.1, show me_i (me_si (me_si (me_si M (c + 6 + π i) 4 1) (c + 22 + (rs (π i)).1) 4 ((w.1.eraseP (a_due k w.2.1), w.2).2.2.2 (rs (π i)).1 + 1)) (c + 22 + k) 4 (ups w.2.2.2 (rs (π i)).1 (w.2.2.2 (rs (π i)).1 + 1) k + 3)) (c + 22 + k) 2 = nI (X.2.2.2.1 k) from qk, emin, cM_e e1]
      rfl
    · rw [e2 a j haj, i_si, if_neg (by omega), i_si, if_neg (by omega), i_si, if_neg (by omega)]
  · rw [if_neg hh, if_neg hh, if_pos rfl, q_gi4 hC1 v1, s4, q_pi4 hC1 v1]
    refine ⟨fun a j => me_i (me_si (me_si M (c + 6 + π i) 4 1) (c + 22 + (rs (π i)).1) 4 (w.2.2.2 (rs (π i)).1 - 5)) a j, rfl, fun a j haj => ?_, ?_⟩
    · dsimp only
      rw [i_si, if_neg (by omega), i_si, if_neg (by omega)]
    · exact hV1.kn (N := me_si (me_si M (c + 6 + π i) 4 1) (c + 22 + (rs (π i)).1) 4 (w.2.2.2 (rs (π i)).1 - 5)) rfl (fun _ _ => rfl) (fun a j q => by rw [i_si, if_neg (by omega)]) (CK.sh (k := (rs (π i)).1) (v := w.2.2.2 (rs (π i)).1 - 5) hK1)
end CG

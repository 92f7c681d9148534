/-! THE PAD: p signs, v i at place i, 0 behind the last -/
def PD (M : Me) (p : Nat) (v : Nat → Nat) : Prop := p ≤ 60 ∧ me_i M 1 0 = nI p ∧ me_i M 70 15 = nI p ∧ (∀ i, i < p → me_i M 2 i = nI (v i) ∧ me_i M 80 i = nI (v i) ∧ 33 ≤ v i ∧ v i ≤ 126) ∧ ∀ i, p ≤ i → v i = 0
theorem PadR.pd {M : Me} (h : PadR M) : ∃ p v, PD M p v := by
  obtain ⟨p, h1, h2, h3, h4⟩ := h
  refine ⟨p, fun i => if i < p then (me_i M 80 i).toNatClampNeg else 0, h1, h2, h3, fun i hi => ?_, fun i hi => if_neg (by omega)⟩
  obtain ⟨a, v, b, c, d⟩ := h4 i hi
  dsimp only
  rw [if_pos hi, a, d, nI_clamp (by omega)]
  exact ⟨rfl, rfl, b, c⟩
theorem PD.same {M N : Me} {p : Nat} {v : Nat → Nat} (h : PD M p v) (h1 : me_i N 1 0 = me_i M 1 0) (h2 : ∀ k, me_i N 2 k = me_i M 2 k) (h3 : me_i N 70 15 = me_i M 70 15) (h4 : ∀ k, me_i N 80 k = me_i M 80 k) : PD N p v := by
  obtain ⟨a, b, c, d, e⟩ := h
  exact ⟨a, h1.trans b, h3.trans c, fun i hi => by rw [h2, h4]; exact d i hi, e⟩
theorem PD.le {M : Me} {p : Nat} {v : Nat → Nat} (h : PD M p v) (i : Nat) : v i ≤ 126 := by
  by_cases hi : i < p
  · exact (h.2.2.2.1 i hi).2.2.2
  · rw [h.2.2.2.2 i (by omega)]; omega
theorem PD.lt {M : Me} {p : Nat} {v : Nat → Nat} (h : PD M p v) {i : Nat} (hv : v i ≠ 0) : i < p := by
  apply Classical.byContradiction
  intro hi
  exact hv (h.2.2.2.2 i (by omega))
/-- of the reference alone -/
def PM (M : Me) (p : Nat) (v : Nat → Nat) : Prop := p ≤ 60 ∧ True ∧ me_i M 70 15 = nI p ∧ (∀ i, i < p → True ∧ me_i M 80 i = nI (v i) ∧ 33 ≤ v i ∧ v i ≤ 126) ∧ ∀ i, p ≤ i → v i = 0
theorem PD.pm {M : Me} {p : Nat} {v : Nat → Nat} (h : PD M p v) : PM M p v := ⟨h.1, trivial, h.2.2.1, fun i hi => ⟨trivial, (h.2.2.2.1 i hi).2⟩, h.2.2.2.2⟩
theorem PM.same {M N : Me} {p : Nat} {v : Nat → Nat} (h : PM M p v) (h3 : me_i N 70 15 = me_i M 70 15) (h4 : ∀ k, me_i N 80 k = me_i M 80 k) : PM N p v := by
  obtain ⟨a, b, c, d, e⟩ := h
  exact ⟨a, b, h3.trans c, fun i hi => by rw [h4]; exact d i hi, e⟩
theorem PM.le {M : Me} {p : Nat} {v : Nat → Nat} (h : PM M p v) (i : Nat) : v i ≤ 126 := by
  by_cases hi : i < p
  · exact (h.2.2.2.1 i hi).2.2.2
  · rw [h.2.2.2.2 i (by omega)]; omega
theorem PM.lt {M : Me} {p : Nat} {v : Nat → Nat} (h : PM M p v) {i : Nat} (hv : v i ≠ 0) : i < p := by
  apply Classical.byContradiction
  intro hi
  exact hv (h.2.2.2.2 i (by omega))
abbrev ltr (s : Nat) : Prop := 65 ≤ s ∧ s ≤ 70
def dyo (s : Nat) : Nat := if s = 46 then 1 else if s = 58 then 10 else if s = 59 then 100 else 0
def ndd (v : Nat → Nat) (i : Nat) : Nat := if ltr (v i) then (if ltr (v (i + 1)) then 4 else 2) else 1
abbrev dg1 (s : Nat) : Prop := 48 ≤ s ∧ s ≤ 50
abbrev dg2 (s u : Nat) : Prop := (48 ≤ u ∧ u ≤ 57) ∧ 1 ≤ 10 * (s - 48) + (u - 48) ∧ 10 * (s - 48) + (u - 48) ≤ 20
abbrev sec (c0 s : Nat) : Prop := (48 ≤ s ∧ s < 48 + c0) ∨ s = 61 ∨ s = 33 ∨ s = 47
def gdd (v : Nat → Nat) (i : Nat) : Nat := if dg1 (v i) then (if dg2 (v i) (v (i + 1)) then 2 else 1) else 0
def gd (v : Nat → Nat) (c0 i : Nat) : Nat := if 0 < dyo (v i) then 1 else if ltr (v i) then (if ltr (v (i + 1)) then 2 + gdd v (i + 2) else if sec c0 (v (i + 1)) then 2 else 1) else 0
def flt (v : Nat → Nat) (c0 p : Nat) : Nat → Nat → Option Nat
  | 0, _ => none
  | f + 1, pl => if p ≤ pl then none else if gd v c0 pl < ndd v pl then some (pl + gd v c0 pl) else flt v c0 p f (pl + ndd v pl)
def fvl (o : Option Nat) : Int32 := match o with
  | none => -6
  | some k => nI k
theorem dyo_le (s : Nat) : dyo s ≤ 100 := by unfold dyo; split; · omega
                                             · split; · omega
                                               · split <;> omega
theorem c_46 : (46 : Int32) = nI 46 := by decide +kernel
theorem c_58 : (58 : Int32) = nI 58 := by decide +kernel
theorem c_59 : (59 : Int32) = nI 59 := by decide +kernel
theorem c_65 : (65 : Int32) = nI 65 := by decide +kernel
theorem c_70 : (70 : Int32) = nI 70 := by decide +kernel
theorem c_71 : (71 : Int32) = nI 71 := by decide +kernel
theorem c_57 : (57 : Int32) = nI 57 := by decide +kernel
theorem c_50 : (50 : Int32) = nI 50 := by decide +kernel
theorem c_47 : (47 : Int32) = nI 47 := by decide +kernel
theorem i_lt {α : Type} {a b : Nat} {x y : α} (ha : a < 2 ^ 31) (hb : b < 2 ^ 31) : (if nI a < nI b then x else y) = if a < b then x else y := by
  by_cases h : a < b
  · rw [if_pos h, if_pos (nI_lt h hb)]
  · rw [if_neg h, if_neg (nI_nlt (by omega) ha)]
theorem i_le {α : Type} {a b : Nat} {x y : α} (ha : a < 2 ^ 31) (hb : b < 2 ^ 31) : (if nI a ≤ nI b then x else y) = if a ≤ b then x else y := by
  by_cases h : a ≤ b
  · rw [if_pos h, if_pos (nI_le h hb)]
  · rw [if_neg h, if_neg (nI_ge (by omega) ha)]
theorem i_eq {α : Type} {a b : Nat} {x y : α} (ha : a < 2 ^ 31) (hb : b < 2 ^ 31) : (if nI a = nI b then x else y) = if a = b then x else y := by
  by_cases h : a = b
  · rw [if_pos h, h, if_pos rfl]
  · rw [if_neg h, if_neg (nI_ne ha hb h)]
theorem i_le0 {α : Type} {a : Nat} {x y : α} (ha : a < 2 ^ 31) : (if nI a ≤ 0 then x else y) = if a = 0 then x else y := by
  by_cases h : a = 0
  · rw [if_pos h, h, if_pos (show nI 0 ≤ (0 : Int32) by decide +kernel)]
  · rw [if_neg h, if_neg (nI_nle (by omega) ha)]
theorem i_eq0 {α : Type} {a : Nat} {x y : α} (ha : a < 2 ^ 31) : (if nI a = 0 then x else y) = if a = 0 then x else y := by
  by_cases h : a = 0
  · rw [if_pos h, h, if_pos nI_0]
  · rw [if_neg h, if_neg (nI_ne0 (by omega) ha)]
theorem in_n {s lo hi : Nat} (hs : s < 2 ^ 31) (hlo : lo < 2 ^ 31) (hhi : hi < 2 ^ 31) : in_v (nI s) (nI lo) (nI hi) = if lo ≤ s ∧ s ≤ hi then 1 else 0 := by
  unfold in_v
  rw [i_lt hs hlo, i_lt hhi hs]
  by_cases h1 : s < lo
  · rw [if_pos h1, if_neg (by omega)]
  · rw [if_neg h1]
    by_cases h2 : hi < s
    · rw [if_pos h2, if_neg (by omega)]
    · rw [if_neg h2, if_pos (by omega)]
theorem e_letter {M : Me} {s : Nat} (hs : s < 1000) : f_X7_isLetter (nI s) M = some (if ltr s then 1 else 0) := by
  unfold f_X7_isLetter b_X7_isLetter
  rw [c_65, c_71, i_lt (by omega) (by omega), i_le (by omega) (by omega)]
  by_cases h1 : s < 65
  · rw [if_pos h1, if_neg (by omega)]; rfl
  · rw [if_neg h1]
    by_cases h2 : 71 ≤ s
    · rw [if_pos h2, if_neg (by omega)]; rfl
    · rw [if_neg h2, if_pos (by omega)]; rfl
theorem e_daysC {M : Me} {s : Nat} (hs : s < 1000) : f_X7_daysOf (nI s) M = some (nI (dyo s)) := by
  unfold f_X7_daysOf b_X7_daysOf dyo
  rw [c_46, c_58, c_59, i_eq (by omega) (by omega), i_eq (by omega) (by omega), i_eq (by omega) (by omega)]
  split
  · rfl
  · split
    · rfl
    · split <;> rfl
theorem e_daysM {M : Me} {s : Nat} (hs : s < 1000) : f_X12_daysOf (nI s) M = some (nI (dyo s)) := by
  unfold f_X12_daysOf b_X12_daysOf dyo
  rw [c_46, c_58, c_59, i_eq (by omega) (by omega), i_eq (by omega) (by omega), i_eq (by omega) (by omega)]
  split
  · rfl
  · split
    · rfl
    · split <;> rfl
section PP
variable {M : Me} {p c0 : Nat} {v : Nat → Nat}
theorem e_signAt {i : Nat} (hL : Lay M) (h : PD M p v) (hi : i < 1000) : f_X7_signAt 1 (nI i) M = some (nI (v i)) := by
  obtain ⟨a, b, c, d, e⟩ := h
  unfold f_X7_signAt b_X7_signAt
  rw [ck_e (lk_1 hL), if_neg (nI_pos (by omega)), gi_e (lk_1 hL), b, i_le (by omega) (by omega)]
  by_cases h1 : p ≤ i
  · rw [if_pos h1, e i h1]; rfl
  · rw [if_neg h1, c_60, if_neg (nI_ge (by omega) (by omega)), gr_e (lk_1 hL) (lr_1_1 hL), li_e (lk_2 hL) (by omega) (by decide), (d i (by omega)).1]; rfl
theorem e_numberAt {i : Nat} (hL : Lay M) (h : PD M p v) (hi : i < 900) (h1 : 48 ≤ v i) (h2 : 48 ≤ v (i + 1)) : f_X7_numberAt 1 (nI i) M = some (nI (10 * (v i - 48) + (v (i + 1) - 48))) := by
  unfold f_X7_numberAt b_X7_numberAt
  rw [ck_e (lk_1 hL), cP_e (e_signAt hL h (by omega)), nI_1, cP_e (e_signAt hL h (by omega)), c_48, c_10, pk_sub h1, pk_mul, nI_add, pk_sub (by omega)]
  congr 2
  omega
theorem e_goodDigits {i : Nat} (hL : Lay M) (h : PD M p v) (hi : i < 900) : f_X7_countGoodDigits 1 (nI i) M = some (nI (gdd v i)) := by
  have a1 := h.le i
  have a2 := h.le (i + 1)
  unfold f_X7_countGoodDigits b_X7_countGoodDigits gdd
  rw [ck_e (lk_1 hL), cP_e (e_signAt hL h (by omega)), cP_e (e_isWithin _ _ _ _), c_48, c_50, in_n (by omega) (by omega) (by omega)]
  by_cases q1 : dg1 (v i)
  · rw [if_pos q1, if_neg (show ¬ (1 : Int32) = 0 by decide), if_pos q1, nI_1, cP_e (e_signAt hL h (by omega)), cP_e (e_isWithin _ _ _ _), c_57, in_n (by omega) (by omega) (by omega)]
    by_cases q2 : 48 ≤ v (i + 1) ∧ v (i + 1) ≤ 57
    · rw [if_pos q2, if_neg (show ¬ (1 : Int32) = 0 by decide), cP_e (e_numberAt hL h hi q1.1 q2.1), cP_e (e_isWithin _ _ _ _), show in_v (nI (10 * (v i - 48) + (v (i + 1) - 48))) 1 20 = in_v (nI (10 * (v i - 48) + (v (i + 1) - 48))) (nI 1) (nI 20) by rw [← c_1, ← c_20], in_n (by omega) (by omega) (by omega)]
      by_cases q3 : 1 ≤ 10 * (v i - 48) + (v (i + 1) - 48) ∧ 10 * (v i - 48) + (v (i + 1) - 48) ≤ 20
      · rw [if_pos q3, if_neg (show ¬ (1 : Int32) = 0 by decide), if_pos ⟨q2, q3⟩]; rfl
      · rw [if_neg q3, if_pos rfl, if_neg (fun z => q3 z.2)]; rfl
    · rw [if_neg q2, if_pos rfl, if_neg (fun z => q2 z.1)]; rfl
  · rw [if_neg q1, if_pos rfl, if_neg q1, c_0]
theorem e_good {i : Nat} (hL : Lay M) (h : PD M p v) (hi : i < 800) (hc : c0 ≤ 5) : f_X7_countGood 1 (nI i) (nI c0) M = some (nI (gd v c0 i)) := by
  have a1 := h.le i
  have a2 := h.le (i + 1)
  have a3 := dyo_le (v i)
  unfold f_X7_countGood b_X7_countGood gd
  rw [ck_e (lk_1 hL), cP_e (e_signAt hL h (by omega)), cP_e (e_daysC (by omega))]
  by_cases q1 : 0 < dyo (v i)
  · rw [i_le0 (by omega), if_neg (by omega), if_pos q1, c_1]
  · rw [i_le0 (by omega), if_pos (show dyo (v i) = 0 by omega), if_neg q1, cP_e (e_signAt hL h (by omega)), cP_e (e_letter (by omega))]
    by_cases q2 : ltr (v i)
    · rw [if_pos q2, if_neg (show ¬ (1 : Int32) = 0 by decide), if_pos q2, nI_1, cP_e (e_signAt hL h (by omega)), cP_e (e_letter (by omega))]
      by_cases q3 : ltr (v (i + 1))
      · rw [if_pos q3, if_neg (show ¬ (1 : Int32) = 0 by decide), if_pos q3, c_2, nI_add, cP_e (e_goodDigits hL h (by omega)), nI_add]
      · rw [if_neg q3, if_pos rfl, if_neg q3, c_48, nI_add, i_lt (by omega) (by omega), i_le (by omega) (by omega), c_61, c_33, c_47, i_eq (by omega) (by omega), i_eq (by omega) (by omega), i_eq (by omega) (by omega)]
        by_cases q4 : v (i + 1) < 48
        · rw [if_pos q4]
          simp only [Option.bind_some]
          rw [if_pos (trivial)]
          by_cases q5 : v (i + 1) = 61
          · omega
          · rw [if_neg q5]
            by_cases q6 : v (i + 1) = 33
            · rw [if_pos q6, if_pos (by omega)]; rfl
            · rw [if_neg q6]
              by_cases q7 : v (i + 1) = 47
              · rw [if_pos q7, if_pos (by omega)]; rfl
              · rw [if_neg q7, if_neg (by omega)]; rfl
        · rw [if_neg q4]
          by_cases q8 : 48 + c0 ≤ v (i + 1)
          · rw [if_pos q8]
            simp only [Option.bind_some]
            rw [if_pos (trivial)]
            by_cases q5 : v (i + 1) = 61
            · rw [if_pos q5, if_pos (by omega)]; rfl
            · rw [if_neg q5]
              by_cases q6 : v (i + 1) = 33
              · omega
              · rw [if_neg q6]
                by_cases q7 : v (i + 1) = 47
                · omega
                · rw [if_neg q7, if_neg (by omega)]; rfl
          · rw [if_neg q8, if_pos (show sec c0 (v (i + 1)) by omega)]; rfl
    · rw [if_neg q2, if_pos rfl, if_neg q2, c_0]
theorem e_signsOf {i : Nat} (hL : Lay M) (h : PD M p v) (hi : i < 800) : f_X7_signsOfAct 1 (nI i) M = some (nI (ndd v i)) := by
  have a1 := h.le i
  have a2 := h.le (i + 1)
  unfold f_X7_signsOfAct b_X7_signsOfAct ndd
  rw [ck_e (lk_1 hL), cP_e (e_signAt hL h (by omega)), cP_e (e_letter (by omega))]
  by_cases q2 : ltr (v i)
  · rw [if_pos q2, if_neg (show ¬ (1 : Int32) = 0 by decide), if_pos q2, nI_1, cP_e (e_signAt hL h (by omega)), cP_e (e_letter (by omega))]
    by_cases q3 : ltr (v (i + 1))
    · rw [if_pos q3, if_neg (show ¬ (1 : Int32) = 0 by decide), if_pos q3, c_4]; rfl
    · rw [if_neg q3, if_pos rfl, if_neg q3, c_2]; rfl
  · rw [if_neg q2, if_pos rfl, if_neg q2, c_1]
theorem ndd_le (i : Nat) : 1 ≤ ndd v i ∧ ndd v i ≤ 4 := by
  unfold ndd
  split
  · split <;> omega
  · omega
theorem gd_le (i : Nat) : gd v c0 i ≤ 4 := by
  unfold gd gdd
  split
  · omega
  · split
    · split
      · split
        · split <;> omega
        · omega
      · split <;> omega
    · omega
theorem e_ffault (hL : Lay M) (h : PD M p v) (hc : c0 ≤ 5) : ∀ f pl acts, p ≤ pl + f → acts ≤ pl → pl ≤ 64 → ex_r (lp (fun s : Int32 × Int32 => s_X7_findFault_4 1 (nI c0) M s.1 s.2) (nI pl, nI acts)) (fun _ => some (-6 : Int32)) (fun t => some t) = some (fvl (flt v c0 p f pl)) := by
  have h60 := h.1
  have hend : ∀ pl acts, p ≤ pl → pl ≤ 64 → acts ≤ pl → ex_r (lp (fun s : Int32 × Int32 => s_X7_findFault_4 1 (nI c0) M s.1 s.2) (nI pl, nI acts)) (fun _ => some (-6 : Int32)) (fun t => some t) = some (-6) := by
    intro pl acts h1 h2 h3
    rw [lp_eq]
    show ex_r ((s_X7_findFault_4 1 (nI c0) M (nI pl) (nI acts)).bind _) _ _ = _
    have e : s_X7_findFault_4 1 (nI c0) M (nI pl) (nI acts) = some (Sum.inr (Sum.inl (nI pl, nI acts))) := by
      unfold s_X7_findFault_4
      rw [gi_e (lk_1 hL), h.2.1, if_pos (nI_le h1 (by omega))]
      split <;> rfl
    rw [e]; rfl
  intro f
  induction f with
  | zero =>
    intro pl acts h1 h2 h3
    exact hend pl acts (by omega) h3 h2
  | succ f ih =>
    intro pl acts h1 h2 h3
    by_cases q : p ≤ pl
    · rw [hend pl acts q h3 h2]
      unfold flt
      rw [if_pos q]; rfl
    · have n1 := ndd_le (v := v) pl
      have n2 := gd_le (v := v) (c0 := c0) pl
      rw [lp_eq]
      show ex_r ((s_X7_findFault_4 1 (nI c0) M (nI pl) (nI acts)).bind _) _ _ = _
      unfold s_X7_findFault_4 flt
      simp only [let_v]
      rw [c_60, if_neg (nI_ge (by omega) (by omega)), gi_e (lk_1 hL), h.2.1, if_neg (nI_ge (by omega) (by omega)), cP_e (e_good hL h (by omega) hc), cP_e (e_signsOf hL h (by omega)), if_neg q, i_le (by omega) (by omega)]
      by_cases q2 : ndd v pl ≤ gd v c0 pl
      · rw [if_pos q2, if_neg (by omega), nI_add, nI_1]
        exact ih (pl + ndd v pl) (acts + 1) (by omega) (by omega) (by omega)
      · rw [if_neg q2, if_pos (by omega), nI_add]; rfl
theorem cv_n {s : Nat} (hc : c0 ≤ 5) (hs : s ≤ 126) : cv c0 (nI s - nI 48) = if 48 ≤ s ∧ s < 48 + c0 then 1 else 0 := by
  unfold cv
  by_cases h1 : s < 48
  · rw [if_pos (pk_sneg (by omega) h1), if_neg (by omega)]
  · rw [pk_sub (by omega), if_neg (nI_pos (by omega)), i_le (by omega) (by omega)]
    by_cases h2 : c0 ≤ s - 48
    · rw [if_pos h2, if_neg (by omega)]
    · rw [if_neg h2, if_pos (by omega)]
theorem rs_end {st : Int32} {k : Nat} (hL : Lay M) (h : PM M p v) (hk : p ≤ k) (hk2 : k ≤ 100) : s_X12_faultOf_4 70 M st (nI k) = some (Sum.inr (Sum.inl (st, nI k))) := by
  unfold s_X12_faultOf_4
  rw [m_gi hL, h.2.2.1, if_pos (nI_le hk (by omega))]
theorem rs_0 {k : Nat} (hL : Lay M) (h : PM M p v) (hk : k < p) : s_X12_faultOf_4 70 M 0 (nI k) = if ltr (v k) then some (Sum.inl (1, nI (k + 1))) else if 0 < dyo (v k) then some (Sum.inl (0, nI (k + 1))) else some (Sum.inr (Sum.inr (nI k))) := by
  have h60 := h.1
  have a1 := h.le k
  have a3 := dyo_le (v k)
  unfold s_X12_faultOf_4
  simp only [let_v]
  rw [m_gi hL, h.2.2.1, if_neg (nI_ge hk (by omega)), m_gr16 hL, m_li80 hL (by omega), (h.2.2.2.1 k hk).2.1, cP_e (e_in _ _ _ _), c_65, c_70, in_n (by omega) (by omega) (by omega), nI_1, if_pos trivial]
  by_cases q : ltr (v k)
  · rw [if_pos q, if_pos q]
    rfl
  · rw [if_neg q, if_neg q, if_pos rfl, cP_e (e_daysM (by omega)), i_le0 (by omega)]
    by_cases q2 : 0 < dyo (v k)
    · rw [if_neg (show ¬ dyo (v k) = 0 by omega), if_pos q2]; rfl
    · rw [if_pos (show dyo (v k) = 0 by omega), if_neg q2]; rfl
theorem rs_1 {k : Nat} (hL : Lay M) (h : PM M p v) (hc0 : me_i M 70 0 = nI c0) (hc1 : 1 ≤ c0) (hc : c0 ≤ 5) (hk : k < p) : s_X12_faultOf_4 70 M 1 (nI k) = if ltr (v k) then some (Sum.inl (2, nI (k + 1))) else if sec c0 (v k) then some (Sum.inl (0, nI (k + 1))) else some (Sum.inr (Sum.inr (nI k))) := by
  have h60 := h.1
  have a1 := h.le k
  unfold s_X12_faultOf_4
  simp only [let_v]
  rw [m_gi hL, h.2.2.1, if_neg (nI_ge hk (by omega)), m_gr16 hL, m_li80 hL (by omega), (h.2.2.2.1 k hk).2.1, cP_e (e_in _ _ _ _), c_65, c_70, in_n (by omega) (by omega) (by omega), nI_1, if_neg (show ¬ (1 : Int32) = 0 by decide), if_pos trivial]
  by_cases q : ltr (v k)
  · rw [if_pos q, if_pos q]
    rfl
  · rw [if_neg q, if_neg q, if_pos rfl, c_48, cP_e (e_isChapel (lk_70 hL) hc0 hc1 hc), cv_n hc a1, c_61, c_33, c_47, i_eq (by omega) (by omega), i_eq (by omega) (by omega), i_eq (by omega) (by omega)]
    by_cases q1 : 48 ≤ v k ∧ v k < 48 + c0
    · rw [if_pos q1, if_neg (show ¬ (1 : Int32) = 0 by decide), if_pos (Or.inl q1)]; rfl
    · rw [if_neg q1, if_pos rfl]
      by_cases q5 : v k = 61
      · rw [if_pos q5, if_pos (show sec c0 (v k) by omega)]; rfl
      · rw [if_neg q5]
        by_cases q6 : v k = 33
        · rw [if_pos q6, if_pos (show sec c0 (v k) by omega)]; rfl
        · rw [if_neg q6]
          by_cases q7 : v k = 47
          · rw [if_pos q7, if_pos (show sec c0 (v k) by omega)]; rfl
          · rw [if_neg q7, if_neg (show ¬ sec c0 (v k) by omega)]; rfl
theorem rs_2 {k : Nat} (hL : Lay M) (h : PM M p v) (hk : k < p) : s_X12_faultOf_4 70 M 2 (nI k) = if dg1 (v k) then some (Sum.inl (3, nI (k + 1))) else some (Sum.inr (Sum.inr (nI k))) := by
  have h60 := h.1
  have a1 := h.le k
  unfold s_X12_faultOf_4
  simp only [let_v]
  rw [m_gi hL, h.2.2.1, if_neg (nI_ge hk (by omega)), m_gr16 hL, m_li80 hL (by omega), (h.2.2.2.1 k hk).2.1, cP_e (e_in _ _ _ _), nI_1, if_neg (show ¬ (2 : Int32) = 0 by decide), if_neg (show ¬ (2 : Int32) = 1 by decide), if_pos trivial, cP_e (e_in _ _ _ _), c_48, c_50, in_n (by omega) (by omega) (by omega)]
  by_cases q : dg1 (v k)
  · rw [if_pos q, if_pos q]; rfl
  · rw [if_neg q, if_neg q]; rfl
theorem rs_3 {k : Nat} (hL : Lay M) (h : PM M p v) (hk : k + 1 < p) (hd : dg1 (v k)) : s_X12_faultOf_4 70 M 3 (nI (k + 1)) = if dg2 (v k) (v (k + 1)) then some (Sum.inl (0, nI (k + 2))) else some (Sum.inr (Sum.inr (nI (k + 1)))) := by
  have h60 := h.1
  have a1 := h.le k
  have a2 := h.le (k + 1)
  unfold s_X12_faultOf_4
  simp only [let_v]
  rw [m_gi hL, h.2.2.1, if_neg (nI_ge hk (by omega)), m_gr16 hL, m_li80 hL (by omega), (h.2.2.2.1 (k + 1) hk).2.1, cP_e (e_in _ _ _ _), if_neg (show ¬ (3 : Int32) = 0 by decide), if_neg (show ¬ (3 : Int32) = 1 by decide), if_neg (show ¬ (3 : Int32) = 2 by decide), m_gr16 hL, nI_pred, m_li80 hL (by omega), (h.2.2.2.1 k (by omega)).2.1, cP_e (e_in _ _ _ _), c_48, c_57, in_n (by omega) (by omega) (by omega)]
  by_cases q : 48 ≤ v (k + 1) ∧ v (k + 1) ≤ 57
  · rw [if_pos q, if_neg (show ¬ (1 : Int32) = 0 by decide), pk_sub hd.1, c_10, pk_mul, nI_add, pk_sub (by omega), show 10 * (v k - 48) + v (k + 1) - 48 = 10 * (v k - 48) + (v (k + 1) - 48) by omega, cP_e (e_in _ _ _ _), show in_v (nI (10 * (v k - 48) + (v (k + 1) - 48))) 1 20 = in_v (nI (10 * (v k - 48) + (v (k + 1) - 48))) (nI 1) (nI 20) by rw [← c_1, ← c_20], in_n (by omega) (by omega) (by omega)]
    by_cases q3 : 1 ≤ 10 * (v k - 48) + (v (k + 1) - 48) ∧ 10 * (v k - 48) + (v (k + 1) - 48) ≤ 20
    · rw [if_pos q3, if_pos (show dg2 (v k) (v (k + 1)) from ⟨q, q3⟩)]
      rw [show nI (k + 2) = nI (k + 1) + 1 by rw [nI_1]]
      rfl
    · rw [if_neg q3, if_neg (show ¬ dg2 (v k) (v (k + 1)) from fun z => q3 z.2)]; rfl
  · rw [if_neg q, if_neg (show ¬ dg2 (v k) (v (k + 1)) from fun z => q z.1)]; rfl
/-- what the reference makes of its loop's end -/
noncomputable def rfx (M : Me) (st : Int32) (k : Nat) : Option Int32 := ex_r (lp (fun s : Int32 × Int32 => s_X12_faultOf_4 70 M s.1 s.2) (st, nI k)) (fun e22 =>
    (
      if e22.1 = 0 then (
        some (-6 : Int32)
      ) else (
        gi M 70 12 15 fun v23 =>
        some v23
      )
    ).bind fun v24 =>
    some v24
  ) (fun t => some t)
theorem rfx_go {st st2 : Int32} {k k2 : Nat} (h : s_X12_faultOf_4 70 M st (nI k) = some (Sum.inl (st2, nI k2))) : rfx M st k = rfx M st2 k2 := by
  unfold rfx
  rw [lp_eq]
  show ex_r ((s_X12_faultOf_4 70 M st (nI k)).bind _) _ _ = _
  rw [h]; rfl
theorem rfx_no {st : Int32} {k : Nat} (h : s_X12_faultOf_4 70 M st (nI k) = some (Sum.inr (Sum.inr (nI k)))) : rfx M st k = some (nI k) := by
  unfold rfx
  rw [lp_eq]
  show ex_r ((s_X12_faultOf_4 70 M st (nI k)).bind _) _ _ = _
  rw [h]; rfl
theorem rfx_end {st : Int32} {k : Nat} (hL : Lay M) (h : PM M p v) (hk : p ≤ k) (hk2 : k ≤ 100) : rfx M st k = some (if st = 0 then -6 else nI p) := by
  unfold rfx
  rw [lp_eq]
  show ex_r ((s_X12_faultOf_4 70 M st (nI k)).bind _) _ _ = _
  rw [rs_end hL h hk hk2]
  show (if st = 0 then some (-6 : Int32) else gi M 70 12 15 fun v23 => some v23).bind _ = _
  rw [m_gi hL, h.2.2.1]
  split <;> rfl
theorem rfx_f (hL : Lay M) (h : PM M p v) (hc0 : me_i M 70 0 = nI c0) (hc1 : 1 ≤ c0) (hc : c0 ≤ 5) : ∀ f pl, p ≤ pl + f → pl ≤ 64 → rfx M 0 pl = some (fvl (flt v c0 p f pl)) := by
  have h60 := h.1
  intro f
  induction f with
  | zero =>
    intro pl h1 h2
    rw [rfx_end hL h (by omega) (by omega), if_pos rfl]; rfl
  | succ f ih =>
    intro pl h1 h2
    unfold flt
    by_cases q : p ≤ pl
    · rw [rfx_end hL h q (by omega), if_pos rfl, if_pos q]; rfl
    rw [if_neg q]
    have r0 := rs_0 (k := pl) hL h (by omega)
    have key : ∀ n, gd v c0 pl = n → ndd v pl = n → rfx M 0 pl = rfx M 0 (pl + n) → rfx M 0 pl = some (fvl (if gd v c0 pl < ndd v pl then some (pl + gd v c0 pl) else flt v c0 p f (pl + ndd v pl))) := by
      intro n e1 e2 e3
      have := ndd_le (v := v) pl
      rw [e1, e2, if_neg (by omega), e3]
      exact ih (pl + n) (by omega) (by omega)
    have bad : ∀ n m, gd v c0 pl = n → ndd v pl = m → n < m → rfx M 0 pl = some (nI (pl + n)) → rfx M 0 pl = some (fvl (if gd v c0 pl < ndd v pl then some (pl + gd v c0 pl) else flt v c0 p f (pl + ndd v pl))) := by
      intro n m e1 e2 e3 e4
      rw [e1, e2, if_pos e3, e4]; rfl
    by_cases q1 : ltr (v pl)
    · have hd0 : ¬ 0 < dyo (v pl) := by
        unfold dyo
        rw [if_neg (by omega), if_neg (by omega), if_neg (by omega)]; omega
      rw [if_pos q1] at r0
      have g0 := rfx_go r0
      by_cases hp1 : pl + 1 < p
      · have r1 := rs_1 (k := pl + 1) hL h hc0 hc1 hc hp1
        by_cases q2 : ltr (v (pl + 1))
        · rw [if_pos q2] at r1
          have g1 := rfx_go r1
          have eN : ndd v pl = 4 := by unfold ndd; rw [if_pos q1, if_pos q2]
          have eG : gd v c0 pl = 2 + gdd v (pl + 2) := by unfold gd; rw [if_neg hd0, if_pos q1, if_pos q2]
          by_cases hp2 : pl + 2 < p
          · have r2 := rs_2 (k := pl + 2) hL h hp2
            by_cases q3 : dg1 (v (pl + 2))
            · rw [if_pos q3] at r2
              have g2 := rfx_go r2
              by_cases hp3 : pl + 3 < p
              · have r3 := rs_3 (k := pl + 2) hL h hp3 q3
                by_cases q4 : dg2 (v (pl + 2)) (v (pl + 3))
                · rw [if_pos q4] at r3
                  have g3 := rfx_go r3
                  exact key 4 (by rw [eG]; unfold gdd; rw [if_pos q3, if_pos q4]) eN (g0.trans (g1.trans (g2.trans g3)))
                · rw [if_neg q4] at r3
                  exact bad 3 4 (by rw [eG]; unfold gdd; rw [if_pos q3, if_neg q4]) eN (by omega) (g0.trans (g1.trans (g2.trans (rfx_no r3))))
              · have e0 := h.2.2.2.2 (pl + 3) (by omega)
                have q4 : ¬ dg2 (v (pl + 2)) (v (pl + 3)) := by rw [e0]; omega
                refine bad 3 4 (by rw [eG]; unfold gdd; rw [if_pos q3, if_neg q4]) eN (by omega) (g0.trans (g1.trans (g2.trans ?_)))
                rw [rfx_end hL h (by omega) (by omega), if_neg (by decide), show p = pl + 3 by omega]
            · rw [if_neg q3] at r2
              exact bad 2 4 (by rw [eG]; unfold gdd; rw [if_neg q3]) eN (by omega) (g0.trans (g1.trans (rfx_no r2)))
          · have e0 := h.2.2.2.2 (pl + 2) (by omega)
            have q3 : ¬ dg1 (v (pl + 2)) := by rw [e0]; omega
            refine bad 2 4 (by rw [eG]; unfold gdd; rw [if_neg q3]) eN (by omega) (g0.trans (g1.trans ?_))
            rw [rfx_end hL h (by omega) (by omega), if_neg (by decide), show p = pl + 2 by omega]
        · have eN : ndd v pl = 2 := by unfold ndd; rw [if_pos q1, if_neg q2]
          rw [if_neg q2] at r1
          by_cases q3 : sec c0 (v (pl + 1))
          · rw [if_pos q3] at r1
            exact key 2 (by unfold gd; rw [if_neg hd0, if_pos q1, if_neg q2, if_pos q3]) eN (g0.trans (rfx_go r1))
          · rw [if_neg q3] at r1
            exact bad 1 2 (by unfold gd; rw [if_neg hd0, if_pos q1, if_neg q2, if_neg q3]) eN (by omega) (g0.trans (rfx_no r1))
      · have e0 := h.2.2.2.2 (pl + 1) (by omega)
        have q2 : ¬ ltr (v (pl + 1)) := by rw [e0]; omega
        have q3 : ¬ sec c0 (v (pl + 1)) := by rw [e0]; omega
        refine bad 1 2 (by unfold gd; rw [if_neg hd0, if_pos q1, if_neg q2, if_neg q3]) (by unfold ndd; rw [if_pos q1, if_neg q2]) (by omega) (g0.trans ?_)
        rw [rfx_end hL h (by omega) (by omega), if_neg (by decide), show p = pl + 1 by omega]
    · rw [if_neg q1] at r0
      have eN : ndd v pl = 1 := by unfold ndd; rw [if_neg q1]
      by_cases q2 : 0 < dyo (v pl)
      · rw [if_pos q2] at r0
        exact key 1 (by unfold gd; rw [if_pos q2]) eN (rfx_go r0)
      · rw [if_neg q2] at r0
        exact bad 0 1 (by unfold gd; rw [if_neg q2, if_neg q1]) eN (by omega) (rfx_no r0)
end PP
theorem e_faultM {M : Me} {p c0 : Nat} {v : Nat → Nat} (hL : Lay M) (h : PM M p v) (hc0 : me_i M 70 0 = nI c0) (hc1 : 1 ≤ c0) (hc : c0 ≤ 5) : f_X12_faultOf 70 M = some (fvl (flt v c0 p 60 0)) := by
  have h60 := h.1
  unfold f_X12_faultOf b_X12_faultOf
  rw [m_ck hL]
  have e := rfx_f hL h hc0 hc1 hc 60 0 (by omega) (by omega)
  unfold rfx at e
  rw [nI_0] at e
  exact e
/-- both say the same fault -/
theorem e_faults {M : Me} {p c0 : Nat} {v : Nat → Nat} (hL : Lay M) (h : PD M p v) (h4 : me_i M 4 0 = nI c0) (hc0 : me_i M 70 0 = nI c0) (hc1 : 1 ≤ c0) (hc : c0 ≤ 5) : f_X11_fault 0 M = some (fvl (flt v c0 p 60 0)) ∧ f_X12_faultOf 70 M = some (fvl (flt v c0 p 60 0)) := by
  have h60 := h.1
  refine ⟨?_, ?_⟩
  · unfold f_X11_fault b_X11_fault
    rw [ck_e (lk_0 hL), gr_e (lk_0 hL) (lr_0_0 hL), gr_e (lk_0 hL) (lr_0_1 hL), gr_e (lk_3 hL) (lr_3_0 hL), gi_e (lk_4 hL), h4]
    have e := e_ffault (c0 := c0) hL h hc 60 0 0 (by omega) (by omega) (by omega)
    rw [nI_0] at e
    have e2 : f_X7_findFault 1 (nI c0) M = some (fvl (flt v c0 p 60 0)) := by
      unfold f_X7_findFault b_X7_findFault
      rw [ck_e (lk_1 hL)]
      exact e
    rw [cP_e e2]
  · exact e_faultM hL h.pm hc0 hc1 hc
theorem iv_op7 : ∀ n M, n < 512 → Iv n M → op_7 (Iv (n + 1)) M := by
  intro n M hn h
  obtain ⟨p, v, hp⟩ := h.2.2.2.2.1.pd
  obtain ⟨hCL, π, hCP, c0, y, t, D, nd, sg, hV, hR⟩ := h.2.2.1
  have c1 := hV.1.1
  obtain ⟨e1, e2⟩ := e_faults h.1 hp (show me_i M 4 0 = nI c0 from hR.1.1.trans c1.1) c1.1 (by omega) c1.2.2
  refine ⟨_, e1, ?_, h.next hn⟩
  unfold f_X12_fault b_X12_fault
  rw [m_ck h.1, cP_e e2]

/-! rings -/
theorem b_or : ∀ a, a < 64 → ∀ b, b < 64 → nI a ||| nI b = nI (a ||| b) := by decide +kernel
theorem b_shl : ∀ k, k < 6 → (1 : Int32) <<< (nI k &&& 31) = nI (2 ^ k) := by decide +kernel
theorem b_pow : ∀ k, k < 6 → 2 ^ k < 64 := by decide
theorem or_64 {a b : Nat} (ha : a < 64) (hb : b < 64) : a ||| b < 64 := Nat.or_lt_two_pow (n := 6) ha hb
theorem b_mod : ∀ o, o < 64 → ∀ r, r < 6 → (o % 2 ^ r ||| (if o.testBit r = true then 2 ^ r else 0)) = o % 2 ^ (r + 1) := by decide +kernel
/-- a court's debts, read -/
theorem CB.rd {X : Cx} {M : Me} {c : Nat} {w : Wd} (h : CB X M c w) : ∃ π, CP M c π ∧ me_i M (c + 4) 0 = nI w.1.length ∧ w.1.length ≤ 12 ∧ ∀ i r, w.1[i]? = some r → π i < 12 ∧ me_i M (c + 6 + π i) 0 = nI r.1 ∧ me_i M (c + 6 + π i) 1 = nI r.2.1 ∧ me_i M (c + 6 + π i) 2 = nI r.2.2.1 ∧ me_i M (c + 6 + π i) 3 = nI r.2.2.2 := by
  obtain ⟨π, n, rs, ⟨hCL, hCP, hF, hK, ⟨d1, d2, d3⟩, hw⟩, hm⟩ := h
  have hl : w.1.length = n := by rw [hw, lv_all hm]; simp
  refine ⟨π, hCP, by rw [hl]; exact d2, by omega, fun i r hi => ?_⟩
  have hlt := (List.getElem?_eq_some_iff.mp hi).1
  have hg : w.1[i]? = some (rs (π i)) := by
    rw [hw, lv_all hm, List.getElem?_map, List.getElem?_map, List.getElem?_range (by omega)]; rfl
  obtain rfl : rs (π i) = r := Option.some.inj (hg.symm.trans hi)
  obtain ⟨s0, s1, s2, s3, -⟩ := d3 i (by omega)
  exact ⟨(hCP.1 i (by omega)).1, s0, s1, s2, s3⟩
def ow (l : List Rw) (k : Nat) : Nat := l.foldl (fun a r => if r.1 = k then a ||| 2 ^ r.2.1 else a) 0
theorem ow_lt0 {k : Nat} : ∀ (l : List Rw) (a : Nat), (∀ r, r ∈ l → r.2.1 < 6) → a < 64 → l.foldl (fun a r => if r.1 = k then a ||| 2 ^ r.2.1 else a) a < 64 := by
  intro l
  induction l with
  | nil => intro a _ h; exact h
  | cons r l ih =>
    intro a h ha
    rw [List.foldl_cons]
    refine ih _ (fun q hq => h q (List.mem_cons_of_mem _ hq)) ?_
    split
    · exact or_64 ha (b_pow _ (h r List.mem_cons_self))
    · exact ha
theorem ow_lt {l : List Rw} {k : Nat} (h : ∀ r, r ∈ l → r.2.1 < 6) : ow l k < 64 := ow_lt0 l 0 h (by omega)
theorem ow_s {l : List Rw} {k i : Nat} {r : Rw} (h : l[i]? = some r) : ow (l.take (i + 1)) k = if r.1 = k then ow (l.take i) k ||| 2 ^ r.2.1 else ow (l.take i) k := by
  unfold ow
  rw [(tk_s l i r h).1, List.foldl_append]; rfl
theorem ow_bit0 {k q : Nat} : ∀ (l : List Rw) (a : Nat), (l.foldl (fun a r => if r.1 = k then a ||| 2 ^ r.2.1 else a) a).testBit q = (a.testBit q || l.any (fun r => decide (r.1 = k ∧ r.2.1 = q))) := by
  intro l
  induction l with
  | nil => intro a; simp
  | cons r l ih =>
    intro a
    rw [List.foldl_cons, ih, List.any_cons]
    by_cases h : r.1 = k
    · rw [if_pos h, Nat.testBit_or, Nat.testBit_two_pow, Bool.or_assoc]
      simp [h]
    · rw [if_neg h]
      simp [h]
theorem ow_bit {l : List Rw} {k q : Nat} : (ow l k).testBit q = l.any (fun r => decide (r.1 = k ∧ r.2.1 = q)) := by
  unfold ow
  rw [ow_bit0]; simp
def nx (l : List Rw) (S : Nat) : Nat → Nat
  | 0 => 0
  | k + 1 => nx l S k ||| (if S.testBit k = true then ow l k else 0)
theorem nx_lt {l : List Rw} {S : Nat} (h : ∀ r, r ∈ l → r.2.1 < 6) : ∀ k, nx l S k < 64 := by
  intro k
  induction k with
  | zero => show 0 < 64; omega
  | succ k ih =>
    show nx l S k ||| _ < 64
    refine or_64 ih ?_
    split
    · exact ow_lt h
    · omega
def rtf (l : List Rw) (k : Nat) : Nat → Nat → Nat → Nat
  | 0, _, _ => 7
  | f + 1, S, s => if (nx l S 6).testBit k = true then s else rtf l k f (nx l S 6) (s + 1)
def rlf (l : List Rw) (k : Nat) : Nat → Nat → Nat → Nat → Nat
  | 0, L, _, _ => L
  | f + 1, L, S, s => rlf l k f (if (nx l S 6).testBit k = true then (if L ≤ s then L else s) else L) (nx l S 6) (s + 1)
theorem rtf_s {l : List Rw} {k f S s : Nat} : rtf l k (f + 1) S s = if (nx l S 6).testBit k = true then s else rtf l k f (nx l S 6) (s + 1) := rfl
theorem rtf_ge {l : List Rw} {k : Nat} : ∀ f S s, s + f = 7 → s ≤ rtf l k f S s ∧ rtf l k f S s ≤ 7 := by
  intro f
  induction f with
  | zero => intro S s h; show s ≤ 7 ∧ 7 ≤ 7; omega
  | succ f ih =>
    intro S s h
    have := ih (nx l S 6) (s + 1) (by omega)
    rw [rtf_s]
    split <;> omega
theorem rlf_eq {l : List Rw} {k : Nat} : ∀ f L S s, s + f = 7 → rlf l k f L S s = if rtf l k f S s = 7 then L else min L (rtf l k f S s) := by
  intro f
  induction f with
  | zero => intro L S s h; exact (if_pos (show rtf l k 0 S s = 7 from rfl)).symm
  | succ f ih =>
    intro L S s h
    have g := rtf_ge (l := l) (k := k) f (nx l S 6) (s + 1) (by omega)
    show rlf l k f (if (nx l S 6).testBit k = true then (if L ≤ s then L else s) else L) (nx l S 6) (s + 1) = _
    rw [ih _ _ _ (by omega), rtf_s]
    by_cases hb : (nx l S 6).testBit k = true
    · rw [if_pos hb, if_pos hb, if_neg (show ¬ s = 7 by omega)]
      by_cases hL : L ≤ s
      · rw [if_pos hL]
        by_cases q : rtf l k f (nx l S 6) (s + 1) = 7
        · rw [if_pos q]; omega
        · rw [if_neg q]; omega
      · rw [if_neg hL]
        by_cases q : rtf l k f (nx l S 6) (s + 1) = 7
        · rw [if_pos q]; omega
        · rw [if_neg q]; omega
    · rw [if_neg hb, if_neg hb]
def rmc (l : List Rw) : Nat → Nat
  | 0 => 7
  | k + 1 => min (rmc l k) (rtf l k 6 (2 ^ k) 1)
def rmm (l : List Rw) : Nat → Nat
  | 0 => 10000000
  | k + 1 => rlf l k 6 (rmm l k) (2 ^ k) 1
theorem rm_rel {l : List Rw} : ∀ k, (rmc l k = 7 ∧ rmm l k = 10000000) ∨ (rmc l k = rmm l k ∧ rmc l k ≤ 6) := by
  intro k
  induction k with
  | zero => exact Or.inl ⟨rfl, rfl⟩
  | succ k ih =>
    have g := rtf_ge (l := l) (k := k) 6 (2 ^ k) 1 (by omega)
    have e := rlf_eq (l := l) (k := k) 6 (rmm l k) (2 ^ k) 1 (by omega)
    show (min (rmc l k) (rtf l k 6 (2 ^ k) 1) = 7 ∧ rlf l k 6 (rmm l k) (2 ^ k) 1 = 10000000) ∨ (min (rmc l k) (rtf l k 6 (2 ^ k) 1) = rlf l k 6 (rmm l k) (2 ^ k) 1 ∧ min (rmc l k) (rtf l k 6 (2 ^ k) 1) ≤ 6)
    rw [e]
    by_cases q : rtf l k 6 (2 ^ k) 1 = 7
    · rw [if_pos q]; omega
    · rw [if_neg q]; omega
section RI
variable {M : Me} {l : List Rw}
theorem e_nextOf {S : Nat} (hL : Lay M) (hl : ∀ r, r ∈ l → r.2.1 < 6) (h67 : ∀ k, k < 6 → me_i M 67 k = nI (ow l k)) (hS : S < 64) : f_X6_nextOf 65 (nI S) M = some (nI (nx l S 6)) := by
  unfold f_X6_nextOf b_X6_nextOf
  rw [ck_e (lk_65 hL)]
  have h := lp_up (step := fun s : Int32 × Int32 => s_X6_nextOf_4 65 (nI S) M s.1 s.2) (fun k => (nI (nx l S k), nI k)) 6 (nI (nx l S 6), nI 6) ?_ ?_ 0 (by decide)
  · rw [show ((0 : Int32), (0 : Int32)) = (nI (nx l S 0), nI 0) by rw [nI_0]; rfl, h]; rfl
  · intro k hk
    show s_X6_nextOf_4 65 (nI S) M (nI (nx l S k)) (nI k) = _
    unfold s_X6_nextOf_4
    simp only [let_v]
    rw [c_6, if_neg (nI_ge hk (by omega)), bit_64 S hS k hk, gr_e (lk_65 hL) (lr_65_1 hL), li_e (lk_67 hL) hk (by decide), h67 k hk, nI_1]
    by_cases hb : S.testBit k = true
    · rw [if_pos hb, if_pos rfl]
      simp only [Option.bind_some]
      show _ = some (Sum.inl (nI (nx l S k ||| _), _))
      rw [if_pos hb, b_or _ (nx_lt hl k) _ (ow_lt hl)]
    · rw [if_neg hb, if_neg (by decide)]
      simp only [Option.bind_some]
      show _ = some (Sum.inl (nI (nx l S k ||| _), _))
      rw [if_neg hb, ← b_or _ (nx_lt hl k) _ (show 0 < 64 by omega), nI_0]
  · show s_X6_nextOf_4 65 (nI S) M (nI (nx l S 6)) (nI 6) = _
    unfold s_X6_nextOf_4
    rw [c_6, if_pos (nI_le (Nat.le_refl _) (by omega))]
theorem e_ringT {k : Nat} (hL : Lay M) (hl : ∀ r, r ∈ l → r.2.1 < 6) (h67 : ∀ k, k < 6 → me_i M 67 k = nI (ow l k)) (hk : k < 6) : f_X6_ringThrough 65 (nI k) M = some (nI (rtf l k 6 (2 ^ k) 1)) := by
  unfold f_X6_ringThrough b_X6_ringThrough
  simp only [let_v]
  rw [ck_e (lk_65 hL), b_shl k hk]
  have hlp : ∀ f S s, s + f = 7 → S < 64 → ex_r (lp (fun s : Int32 × Int32 => s_X6_ringThrough_6 65 (nI k) M s.1 s.2) (nI S, nI s)) (fun _ => some (7 : Int32)) (fun t => some t) = some (nI (rtf l k f S s)) := by
    intro f
    induction f with
    | zero =>
      intro S s h1 h2
      rw [lp_eq]
      show ex_r ((s_X6_ringThrough_6 65 (nI k) M (nI S) (nI s)).bind _) _ _ = _
      unfold s_X6_ringThrough_6
      rw [c_6, if_pos (nI_lt (by omega) (by omega))]; rfl
    | succ f ih =>
      intro S s h1 h2
      rw [lp_eq]
      show ex_r ((s_X6_ringThrough_6 65 (nI k) M (nI S) (nI s)).bind _) _ _ = _
      rw [rtf_s]
      unfold s_X6_ringThrough_6
      simp only [let_v]
      rw [c_6, if_neg (nI_nlt (by omega) (by omega)), cP_e (e_nextOf hL hl h67 h2), bit_64 _ (nx_lt hl 6) k hk, nI_1]
      by_cases hb : (nx l S 6).testBit k = true
      · rw [if_pos hb, if_pos rfl, if_pos hb]; rfl
      · rw [if_neg hb, if_neg (by decide), if_neg hb]
        exact ih (nx l S 6) (s + 1) (by omega) (nx_lt hl 6)
  have h := hlp 6 (2 ^ k) 1 (by omega) (b_pow k hk)
  rw [← c_1] at h
  exact h
theorem e_owes {k q : Nat} (hL : Lay M) (hB : ∀ r, r ∈ l → RB r) (h12 : l.length ≤ 12) (h13 : me_i M 70 13 = nI l.length) (hr : ∀ i r, l[i]? = some r → me_i M 79 (4 * i) = nI r.1 ∧ me_i M 79 (4 * i + 1) = nI r.2.1) (hk : k < 6) (hq : q < 6) : f_X12_owes 70 (nI k) (nI q) M = some (if (ow l k).testBit q = true then 1 else 0) := by
  unfold f_X12_owes b_X12_owes
  rw [m_ck hL]
  have h := lp_up (step := fun s : Int32 × Int32 => s_X12_owes_5 70 (nI k) (nI q) M s.1 s.2) (fun i => ((if (l.take i).any (fun r => decide (r.1 = k ∧ r.2.1 = q)) = true then 1 else 0), nI i)) l.length ((if l.any (fun r => decide (r.1 = k ∧ r.2.1 = q)) = true then 1 else 0), nI l.length) ?_ ?_ 0 (by omega)
  · rw [show ((0 : Int32), (0 : Int32)) = ((if (l.take 0).any (fun r => decide (r.1 = k ∧ r.2.1 = q)) = true then 1 else 0), nI 0) by rw [nI_0]; rfl, h, ow_bit]
    simp only [Option.bind_some]
    by_cases z : l.any (fun r => decide (r.1 = k ∧ r.2.1 = q)) = true
    · rw [if_pos z, if_pos (Or.inr rfl)]
    · rw [if_neg z, if_pos (Or.inl rfl)]
  · intro i hi
    have hg : l[i]? = some l[i] := List.getElem?_eq_getElem hi
    obtain ⟨r0, r1⟩ := hr i _ hg
    obtain ⟨b0, b1, -, -⟩ := hB _ (List.getElem_mem hi)
    show s_X12_owes_5 70 (nI k) (nI q) M (if (l.take i).any (fun r => decide (r.1 = k ∧ r.2.1 = q)) = true then 1 else 0) (nI i) = _
    rw [any_s hg]
    unfold s_X12_owes_5
    simp only [let_v]
    rw [m_gi hL, h13, if_neg (nI_ge hi (by omega)), c_4, pk_mul, nI_1, nI_1]
    by_cases z : (l.take i).any (fun r => decide (r.1 = k ∧ r.2.1 = q)) = true
    · rw [if_pos z, if_neg (by decide), z, Bool.true_or, if_pos rfl]; rfl
    · rw [if_neg z, if_pos rfl, m_gr14 hL, m_li79 hL (by omega), r0, i_eq (by omega) (by omega)]
      have z2 : (l.take i).any (fun r => decide (r.1 = k ∧ r.2.1 = q)) = false := Bool.eq_false_iff.mpr z
      rw [z2, Bool.false_or]
      by_cases z3 : l[i].1 = k
      · rw [if_pos z3, m_gr14 hL, m_li79 hL (by omega), r1, i_eq (by omega) (by omega)]
        by_cases z4 : l[i].2.1 = q
        · rw [if_pos z4, if_pos (decide_eq_true ⟨z3, z4⟩)]; rfl
        · rw [if_neg z4, if_neg (fun y => z4 (of_decide_eq_true y).2)]; rfl
      · rw [if_neg z3, if_neg (fun y => z3 (of_decide_eq_true y).1)]; rfl
  · show s_X12_owes_5 70 (nI k) (nI q) M (if (l.take l.length).any _ = true then 1 else 0) (nI l.length) = _
    unfold s_X12_owes_5
    rw [m_gi hL, h13, if_pos (nI_le (Nat.le_refl _) (by omega)), List.take_length]
theorem e_ring41 {S q m : Nat} (hL : Lay M) (hl : ∀ r, r ∈ l → r.2.1 < 6) (ho : ∀ k q, k < 6 → q < 6 → f_X12_owes 70 (nI k) (nI q) M = some (if (ow l k).testBit q = true then 1 else 0)) (hS : S < 64) (hq : q < 6) (hm : m < 64) : ∃ z, lp (fun s : Int32 × Int32 => s_X12_ring_41 70 M (nI S) (nI q) s.1 s.2) (nI m, 0) = some (nI (m ||| (if S.testBit q = true then ow l q else 0)), z) := by
  by_cases hb : S.testBit q = true
  · have ol := ow_lt (k := q) hl
    have h := lp_up (step := fun s : Int32 × Int32 => s_X12_ring_41 70 M (nI S) (nI q) s.1 s.2) (fun r => (nI (m ||| (ow l q % 2 ^ r)), nI r)) 6 (nI (m ||| (ow l q % 2 ^ 6)), nI 6) ?_ ?_ 0 (by decide)
    · refine ⟨nI 6, ?_⟩
      rw [if_pos hb]
      have e0 : (nI m, (0 : Int32)) = (nI (m ||| (ow l q % 2 ^ 0)), nI 0) := by
        rw [Nat.pow_zero, Nat.mod_one, Nat.or_zero, nI_0]
      rw [e0, h, Nat.mod_eq_of_lt (show ow l q < 2 ^ 6 from ol)]
    · intro r hr
      show s_X12_ring_41 70 M (nI S) (nI q) (nI (m ||| (ow l q % 2 ^ r))) (nI r) = _
      unfold s_X12_ring_41
      simp only [let_v]
      have ml : ow l q % 2 ^ r < 64 := Nat.lt_of_le_of_lt (Nat.mod_le _ _) ol
      have e := b_mod (ow l q) ol r hr
      rw [c_6, if_neg (nI_ge hr (by omega)), cP_e (e_has hS hq), if_pos hb, if_neg (by decide), cP_e (ho q r hq hr), b_shl r hr, nI_1]
      by_cases z : (ow l q).testBit r = true
      · rw [if_pos z] at e ⊢
        rw [if_neg (by decide)]
        simp only [Option.bind_some]
        rw [b_or _ (or_64 hm ml) _ (b_pow r hr), Nat.or_assoc, e]
      · rw [if_neg z] at e ⊢
        rw [if_pos rfl]
        simp only [Option.bind_some]
        rw [← nI_0, b_or _ (or_64 hm ml) _ (show 0 < 64 by omega), Nat.or_assoc, e]
    · show s_X12_ring_41 70 M (nI S) (nI q) _ (nI 6) = _
      unfold s_X12_ring_41
      rw [c_6, if_pos (nI_le (Nat.le_refl _) (by omega))]
  · refine ⟨0, ?_⟩
    rw [lp_eq]
    show (s_X12_ring_41 70 M (nI S) (nI q) (nI m) 0).bind _ = _
    unfold s_X12_ring_41
    rw [if_neg (by decide), cP_e (e_has hS hq), if_neg hb, if_pos rfl, if_neg hb, Nat.or_zero]; rfl
theorem e_ring31 {S : Nat} (hL : Lay M) (hl : ∀ r, r ∈ l → r.2.1 < 6) (ho : ∀ k q, k < 6 → q < 6 → f_X12_owes 70 (nI k) (nI q) M = some (if (ow l k).testBit q = true then 1 else 0)) (hS : S < 64) : lp (fun s : Int32 × Int32 => s_X12_ring_31 70 M (nI S) s.1 s.2) (0, 0) = some (nI (nx l S 6), nI 6) := by
  have h := lp_up (step := fun s : Int32 × Int32 => s_X12_ring_31 70 M (nI S) s.1 s.2) (fun k => (nI (nx l S k), nI k)) 6 (nI (nx l S 6), nI 6) ?_ ?_ 0 (by decide)
  · rw [show ((0 : Int32), (0 : Int32)) = (nI (nx l S 0), nI 0) by rw [nI_0]; rfl, h]
  · intro k hk
    show s_X12_ring_31 70 M (nI S) (nI (nx l S k)) (nI k) = _
    obtain ⟨z, hz⟩ := e_ring41 hL hl ho hS hk (nx_lt (S := S) hl k)
    unfold s_X12_ring_31
    simp only [let_v]
    rw [c_6, if_neg (nI_ge hk (by omega)), hz, nI_1]; rfl
  · show s_X12_ring_31 70 M (nI S) _ (nI 6) = _
    unfold s_X12_ring_31
    rw [c_6, if_pos (nI_le (Nat.le_refl _) (by omega))]
theorem c_7 : (7 : Int32) = nI 7 := by decide +kernel
theorem e_ring18 {k : Nat} (hL : Lay M) (hl : ∀ r, r ∈ l → r.2.1 < 6) (ho : ∀ k q, k < 6 → q < 6 → f_X12_owes 70 (nI k) (nI q) M = some (if (ow l k).testBit q = true then 1 else 0)) (hk : k < 6) : ∀ f L S s, s + f = 7 → S < 64 → L ≤ 10000000 → ∃ z, lp (fun s : Int32 × Int32 × Int32 => s_X12_ring_18 70 M (nI k) s.1 s.2.1 s.2.2) (nI L, nI S, nI s) = some (nI (rlf l k f L S s), z) := by
  intro f
  induction f with
  | zero =>
    intro L S s h1 h2 h3
    refine ⟨(nI S, nI s), ?_⟩
    rw [lp_eq]
    show (s_X12_ring_18 70 M (nI k) (nI L) (nI S) (nI s)).bind _ = _
    unfold s_X12_ring_18
    rw [c_7, if_pos (nI_le (by omega) (by omega))]; rfl
  | succ f ih =>
    intro L S s h1 h2 h3
    obtain ⟨z, hz⟩ := ih (if (nx l S 6).testBit k = true then (if L ≤ s then L else s) else L) (nx l S 6) (s + 1) (by omega) (nx_lt hl 6) (by split <;> (try split) <;> omega)
    refine ⟨z, ?_⟩
    rw [lp_eq]
    show (s_X12_ring_18 70 M (nI k) (nI L) (nI S) (nI s)).bind _ = _
    have e : s_X12_ring_18 70 M (nI k) (nI L) (nI S) (nI s) = some (Sum.inl (nI (if (nx l S 6).testBit k = true then (if L ≤ s then L else s) else L), nI (nx l S 6), nI (s + 1))) := by
      unfold s_X12_ring_18
      simp only [let_v]
      rw [c_7, if_neg (nI_ge (by omega) (by omega)), e_ring31 hL hl ho h2]
      simp only [Option.bind_some]
      rw [cP_e (e_has (nx_lt hl 6) hk), i_le (by omega) (by omega), nI_1]
      by_cases hb : (nx l S 6).testBit k = true
      · rw [if_pos hb, if_neg (by decide), if_pos hb]
        by_cases q : L ≤ s
        · rw [if_pos q, if_pos q]; rfl
        · rw [if_neg q, if_neg q]; rfl
      · rw [if_neg hb, if_pos rfl, if_neg hb]; rfl
    rw [e]
    exact hz
theorem rmc_le : ∀ k, rmc l k ≤ 7 := by
  intro k
  induction k with
  | zero => exact Nat.le_refl _
  | succ k ih => show min _ _ ≤ 7; omega
theorem rmm_le : ∀ k, rmm l k ≤ 10000000 := by
  intro k
  have := rm_rel (l := l) k
  omega
end RI
theorem mn_n {a b : Nat} (ha : a < 2 ^ 31) (hb : b < 2 ^ 31) : mn_i (nI a) (nI b) = nI (min a b) := by
  unfold mn_i
  rw [i_lt hb ha]
  by_cases h : b < a
  · rw [if_pos h, Nat.min_eq_right (by omega)]
  · rw [if_neg h, Nat.min_eq_left (by omega)]
theorem iv_op18 : ∀ n M, n < 512 → Iv n M → op_18 (Iv (n + 1)) M := by
  intro n M hn h
  obtain ⟨hL, hlen, ⟨hCL, π, hCP, c0, y, t, D, nd, sg, hV, hR⟩, hJ, hP, hI⟩ := id h
  have hX := val_X hV
  have hW := val_W hV (by omega)
  have hST := ST.of hV (by omega)
  have hB0 : CB (x_of (st_m M) t y c0) M 3 (w_of (st_m M) D nd) := val_CB hV (by omega) hCL hCP hR.pn
  obtain ⟨π2, c1, c2, c3, c4⟩ := hB0.rd
  have hrb := hW.rb hX
  generalize hw : (w_of (st_m M) D nd).1 = l at c2 c3 c4 hrb
  have hl : ∀ r, r ∈ l → r.2.1 < 6 := fun r hr => (hrb r hr).2.1
  have hlt : ∀ i r, r ∈ l.take i → r.2.1 < 6 := fun i r hr => hl r (List.mem_of_mem_take hr)
  have eF := e_fill (M := M) (a := 67) (n := 6) (v := 0) (lk_67 hL) (by omega)
  have hlp := lp_cnt (step := fun s : Me × Int32 => s_X6_shortestRing_10 65 7 s.1 s.2) l.length
    (fun i s => ∃ g, s = (me_w M g, nI i) ∧ (∀ a z, a ≠ 67 → g a z = me_i M a z) ∧ ∀ k, k < 6 → g 67 k = nI (ow (l.take i) k))
    (fun s => ∃ g, s = (me_w M g, nI l.length) ∧ (∀ a z, a ≠ 67 → g a z = me_i M a z) ∧ ∀ k, k < 6 → g 67 k = nI (ow l k))
    ?_ ?_ (me_w M (fun x y => if x = 67 ∧ y < 6 then 0 else me_i M x y), 0) ⟨_, by rw [nI_0], fun a z q => if_neg (by omega), fun k hk => by rw [if_pos ⟨rfl, hk⟩, List.take_zero]; exact nI_0.symm⟩
  rotate_left
  · rintro i s hi ⟨g, rfl, a1, a2⟩
    have hg : l[i]? = some l[i] := List.getElem?_eq_getElem hi
    obtain ⟨p1, r0, r1, -, -⟩ := c4 i _ hg
    obtain ⟨b0, b1, -, -⟩ := hrb _ (List.getElem_mem hi)
    have hC2 : CL (me_w M g) 3 := hCL
    have hP2 : CP (me_w M g) 3 π2 := c1
    have hL2 : Lay (me_w M g) := hL
    have e9 : in_v (nI l[i].1) 0 5 = 1 := by
      rw [c_0, c_5, in_n (by omega) (by omega) (by omega)]
      exact if_pos ⟨by omega, by omega⟩
    refine ⟨(me_si (me_w M g) 67 l[i].1 (nI (ow (l.take i) l[i].1 ||| 2 ^ l[i].2.1)), nI (i + 1)), ?_, _, rfl, fun a z q => ?_, fun k hk => ?_⟩
    · show s_X6_shortestRing_10 65 (3 + 4) (me_w M g) (nI i) = _
      unfold s_X6_shortestRing_10
      simp only [let_v]
      rw [c_12, if_neg (nI_ge (by omega) (by omega)), q_gi2 hC2, i_w, a1 _ _ (by omega), c2, if_neg (nI_ge hi (by omega)), q_d1 hC2, q_row hC2 hP2 (by omega), q_gi1 hC2 p1, i_w, a1 _ _ (by omega), r0, cP_e (e_isWithin _ _ _ _), e9, if_neg (show ¬ (1 : Int32) = 0 by decide), gr_e (lk_65 hL2) (lr_65_1 hL2), q_d1 hC2, q_row hC2 hP2 (by omega), q_gi1 hC2 p1, i_w, a1 _ _ (by omega), r0, li_e (lk_67 hL2) b0 (by decide), i_w, a2 _ b0, q_d1 hC2, q_row hC2 hP2 (by omega), q_gi1 hC2 p1, i_w, a1 _ _ (by omega), r1, b_shl _ b1, b_or _ (ow_lt (hlt i)) _ (b_pow _ b1), si_e (lk_67 hL2) b0 (by decide), nI_1]
      rfl
    · show (if a = 67 ∧ z = _ then _ else g a z) = _
      rw [if_neg (by omega)]; exact a1 a z q
    · show (if 67 = 67 ∧ k = _ then _ else g 67 k) = _
      rw [ow_s hg]
      by_cases q : l[i].1 = k
      · rw [if_pos ⟨rfl, q.symm⟩, if_pos q, q]
      · rw [if_neg (fun z => q z.2.symm), if_neg q]; exact a2 k hk
  · rintro s ⟨g, rfl, a1, a2⟩
    refine ⟨(me_w M g, nI l.length), ?_, g, rfl, a1, fun k hk => by rw [a2 k hk, List.take_length]⟩
    show s_X6_shortestRing_10 65 (3 + 4) (me_w M g) (nI l.length) = _
    unfold s_X6_shortestRing_10
    rw [q_gi2 (show CL (me_w M g) 3 from hCL), i_w, a1 _ _ (by omega), c2, if_pos (nI_le (Nat.le_refl _) (by omega))]
    split <;> rfl
  obtain ⟨sx, l1, g, rfl, l2, l3⟩ := hlp
  have hLg : Lay (me_w M g) := hL
  -- the class's answer
  have hcl := lp_up (step := fun s : Int32 × Int32 => s_X6_shortestRing_80 65 (me_w M g, nI l.length) s.1 s.2) (fun k => (nI (rmc l k), nI k)) 6 (nI (rmc l 6), nI 6) ?_ ?_ 0 (by decide)
  rotate_left
  · intro k hk
    show s_X6_shortestRing_80 65 (me_w M g, nI l.length) (nI (rmc l k)) (nI k) = _
    have := rmc_le (l := l) k
    have := rtf_ge (l := l) (k := k) 6 (2 ^ k) 1 (by omega)
    unfold s_X6_shortestRing_80
    simp only [let_v]
    rw [c_6, if_neg (nI_ge hk (by omega)), cP_e (e_ringT hLg hl l3 hk), mn_n (by omega) (by omega), nI_1]; rfl
  · show s_X6_shortestRing_80 65 (me_w M g, nI l.length) (nI (rmc l 6)) (nI 6) = _
    unfold s_X6_shortestRing_80
    rw [c_6, if_pos (nI_le (Nat.le_refl _) (by omega))]
  -- the reference's
  have h13 : me_i (me_w M g) 70 13 = nI l.length := by
    rw [i_w, l2 _ _ (by omega), ← hw]; exact hST.1.2.2.2.2
  have hrow : ∀ i r, l[i]? = some r → me_i (me_w M g) 79 (4 * i) = nI r.1 ∧ me_i (me_w M g) 79 (4 * i + 1) = nI r.2.1 := by
    intro i r hr
    rw [← hw] at hr
    obtain ⟨q1, q2, -, -⟩ := hST.2.2.2 i r hr
    rw [i_w, i_w, l2 _ _ (by omega), l2 _ _ (by omega)]
    exact ⟨q1, q2⟩
  have ho : ∀ k q, k < 6 → q < 6 → f_X12_owes 70 (nI k) (nI q) (me_w M g) = some (if (ow l k).testBit q = true then 1 else 0) := fun k q hk hq => e_owes hLg hrb c3 h13 hrow hk hq
  have hml := lp_up (step := fun s : Int32 × Int32 => s_X12_ring_5 70 (me_w M g) s.1 s.2) (fun k => (nI (rmm l k), nI k)) 6 (nI (rmm l 6), nI 6) ?_ ?_ 0 (by decide)
  rotate_left
  · intro k hk
    show s_X12_ring_5 70 (me_w M g) (nI (rmm l k)) (nI k) = _
    obtain ⟨z, hz⟩ := e_ring18 hLg hl ho hk 6 (rmm l k) (2 ^ k) 1 (by omega) (b_pow k hk) (rmm_le k)
    rw [← c_1] at hz
    unfold s_X12_ring_5
    simp only [let_v]
    rw [c_6, if_neg (nI_ge hk (by omega)), b_shl k hk, hz, nI_1]; rfl
  · show s_X12_ring_5 70 (me_w M g) (nI (rmm l 6)) (nI 6) = _
    unfold s_X12_ring_5
    rw [c_6, if_pos (nI_le (Nat.le_refl _) (by omega))]
  have hrel := rm_rel (l := l) 6
  have r7 := rmc_le (l := l) 6
  have rF := rmm_le (l := l) 6
  refine ⟨if 6 < rmc l 6 then -6 else nI (rmc l 6), me_w M g, ?_, ?_, (h.next hn).same rfl (fun _ _ _ => rfl) hJ (fun a k q => l2 a k (by omega))⟩
  · unfold f_X11_ring b_X11_ring
    have e : f_X6_shortestRing 65 7 M = some (if 6 < rmc l 6 then -6 else nI (rmc l 6), me_w M g) := by
      unfold f_X6_shortestRing b_X6_shortestRing
      rw [ck_e (lk_65 hL), gr_e (lk_65 hL) (lr_65_1 hL), cM_e eF, l1]
      simp only [Option.bind_some]
      rw [show ((7 : Int32), (0 : Int32)) = (nI (rmc l 0), nI 0) by rw [nI_0]; rfl, hcl]
      simp only [Option.bind_some]
      rw [c_6, i_lt (by omega) (by omega)]
      by_cases q : 6 < rmc l 6
      · rw [if_pos q, if_pos q]; rfl
      · rw [if_neg q, if_neg q]; rfl
    rw [ck_e (lk_0 hL), gr_e (lk_0 hL) (lr_0_5 hL), gr_e (lk_0 hL) (lr_0_1 hL), gr_e (lk_3 hL) (lr_3_2 hL), cI_e e]
  · unfold f_X12_ring b_X12_ring
    rw [ck_e (lk_70 hLg), show ((10000000 : Int32), (0 : Int32)) = (nI (rmm l 0), nI 0) by rw [nI_0]; rfl, hml]
    simp only [Option.bind_some]
    rw [show (10000000 : Int32) = nI 10000000 by decide +kernel, i_eq (by omega) (by omega)]
    by_cases q : rmm l 6 = 10000000
    · rw [if_pos q, if_pos (by omega)]; rfl
    · rw [if_neg q, if_neg (by omega), show rmc l 6 = rmm l 6 by omega]; rfl

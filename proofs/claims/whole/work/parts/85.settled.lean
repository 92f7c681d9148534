/-! how debts are settled -/
def mxf (a : Nat → Nat) (S : Nat) : Nat → Nat
  | 0 => 0
  | k + 1 => if S.testBit k = true then max (mxf a S k) (a (S - 2 ^ k)) else mxf a S k
def tb (V : (Nat → Nat) → Nat → Nat) : Nat → Nat → Nat
  | 0, _ => 0
  | S + 1, T => if T = S then V (tb V S) S else tb V S T
theorem tb_s {V : (Nat → Nat) → Nat → Nat} {S T : Nat} : tb V (S + 1) T = if T = S then V (tb V S) S else tb V S T := rfl
theorem tb_eq {V : (Nat → Nat) → Nat → Nat} : ∀ S T, T < S → tb V S T = V (tb V T) T := by
  intro S
  induction S with
  | zero => intro T h; omega
  | succ S ih =>
    intro T h
    rw [tb_s]
    by_cases q : T = S
    · rw [if_pos q, q]
    · rw [if_neg q]; exact ih T (by omega)
def loc_V (V : (Nat → Nat) → Nat → Nat) : Prop := ∀ a b S, (∀ U, U < S → a U = b U) → V a S = V b S
theorem tb_fix {V : (Nat → Nat) → Nat → Nat} (hV : loc_V V) {S T : Nat} (h : T < S) : tb V S T = V (tb V S) T := by
  rw [tb_eq S T h]
  apply hV
  intro U hU
  rw [tb_eq T U hU, tb_eq S U (by omega)]
theorem bit_ge {S k : Nat} (h : S.testBit k = true) : 2 ^ k ≤ S := Nat.ge_two_pow_of_testBit h
theorem bit_sub {S k : Nat} (h : S.testBit k = true) : S - 2 ^ k < S := by
  have := bit_ge h
  have := Nat.two_pow_pos k
  omega
theorem mxf_s {a : Nat → Nat} {S k : Nat} : mxf a S (k + 1) = if S.testBit k = true then max (mxf a S k) (a (S - 2 ^ k)) else mxf a S k := rfl
theorem mxf_loc {a b : Nat → Nat} {S : Nat} (h : ∀ U, U < S → a U = b U) : ∀ k, mxf a S k = mxf b S k := by
  intro k
  induction k with
  | zero => rfl
  | succ k ih =>
    rw [mxf_s, mxf_s, ih]
    by_cases hb : S.testBit k = true
    · rw [if_pos hb, if_pos hb, h _ (bit_sub hb)]
    · rw [if_neg hb, if_neg hb]
theorem mxf_le {a : Nat → Nat} {S : Nat} (h : ∀ U, U < S → a U ≤ U) : ∀ k, mxf a S k ≤ S - 1 := by
  intro k
  induction k with
  | zero => exact Nat.zero_le _
  | succ k ih =>
    rw [mxf_s]
    by_cases hb : S.testBit k = true
    · rw [if_pos hb]
      have := h _ (bit_sub hb)
      have := bit_sub hb
      omega
    · rw [if_neg hb]; exact ih
theorem mxf_up {a : Nat → Nat} {S : Nat} : ∀ n k, k < n → S.testBit k = true → a (S - 2 ^ k) ≤ mxf a S n := by
  intro n
  induction n with
  | zero => intro k h; omega
  | succ n ih =>
    intro k h hb
    rw [mxf_s]
    by_cases q : k = n
    · subst q; rw [if_pos hb]; omega
    · have := ih k (by omega) hb
      split <;> omega
theorem mxf_is {a : Nat → Nat} {S : Nat} : ∀ n, mxf a S n = 0 ∨ ∃ k, k < n ∧ S.testBit k = true ∧ mxf a S n = a (S - 2 ^ k) := by
  intro n
  induction n with
  | zero => exact Or.inl rfl
  | succ n ih =>
    rw [mxf_s]
    by_cases hb : S.testBit n = true
    · rw [if_pos hb]
      by_cases q : mxf a S n ≤ a (S - 2 ^ n)
      · right; exact ⟨n, by omega, hb, by omega⟩
      · rcases ih with ih | ⟨k, h1, h2, h3⟩
        · omega
        · right; exact ⟨k, by omega, h2, by omega⟩
    · rw [if_neg hb]
      rcases ih with ih | ⟨k, h1, h2, h3⟩
      · exact Or.inl ih
      · right; exact ⟨k, by omega, h2, h3⟩
theorem tb_le {V : (Nat → Nat) → Nat → Nat} (hV : ∀ a S, (∀ U, U < S → a U ≤ U) → V a S ≤ S) : ∀ T S, T < S → tb V S T ≤ T := by
  intro T
  induction T using Nat.strongRecOn with
  | _ T ih =>
    intro S h
    rw [tb_eq S T h]
    exact hV _ _ (fun U hU => ih U hU T hU)
/-! sums -/
def sumB (b : Nat → Int32) (S : Nat) : Nat → Int32
  | 0 => 0
  | k + 1 => sumB b S k + if S.testBit k = true then b k else 0
theorem sumB_s {b : Nat → Int32} {S k : Nat} : sumB b S (k + 1) = sumB b S k + if S.testBit k = true then b k else 0 := rfl
theorem sumB_ups {b : Nat → Int32} {S k : Nat} {v : Int32} : ∀ n, sumB (ups b k (b k + v)) S n = sumB b S n + if k < n ∧ S.testBit k = true then v else 0 := by
  intro n
  induction n with
  | zero => rw [if_neg (by omega)]; exact (Int32.add_zero _).symm
  | succ n ih =>
    rw [sumB_s, sumB_s, ih]
    by_cases q : k = n
    · subst q
      rw [if_neg (show ¬ (k < k ∧ S.testBit k = true) by omega), Int32.add_zero]
      have e : ups b k (b k + v) k = b k + v := if_pos rfl
      rw [e]
      by_cases hb : S.testBit k = true
      · rw [if_pos hb, if_pos hb, if_pos ⟨by omega, hb⟩, Int32.add_assoc]
      · rw [if_neg hb, if_neg hb, if_neg (fun z => hb z.2), Int32.add_zero, Int32.add_zero]
    · have e : ups b k (b k + v) n = b n := if_neg (fun z => q z.symm)
      rw [e]
      have e2 : (k < n + 1 ∧ S.testBit k = true) = (k < n ∧ S.testBit k = true) := propext ⟨fun z => ⟨by omega, z.2⟩, fun z => ⟨by omega, z.2⟩⟩
      simp only [e2]
      rw [Int32.add_assoc, Int32.add_comm (if k < n ∧ S.testBit k = true then v else 0), ← Int32.add_assoc]
def blf (b : Nat → Int32) (r : Rw) : Nat → Int32 := ups (ups b r.1 (b r.1 + nI r.2.2.1)) r.2.1 (ups b r.1 (b r.1 + nI r.2.2.1) r.2.1 + - nI r.2.2.1)
def bl (l : List Rw) : Nat → Int32 := l.foldl blf (fun _ => 0)
def csf (S : Nat) (v : Int32) (r : Rw) : Int32 := v + (if S.testBit r.1 = true then nI r.2.2.1 else 0) + (if S.testBit r.2.1 = true then - nI r.2.2.1 else 0)
def cs (S : Nat) (l : List Rw) : Int32 := l.foldl (csf S) 0
theorem bl_s {l : List Rw} {i : Nat} {r : Rw} (h : l[i]? = some r) : bl (l.take (i + 1)) = blf (bl (l.take i)) r := by
  unfold bl
  rw [(tk_s l i r h).1, List.foldl_append]; rfl
theorem cs_s {l : List Rw} {i S : Nat} {r : Rw} (h : l[i]? = some r) : cs S (l.take (i + 1)) = csf S (cs S (l.take i)) r := by
  unfold cs
  rw [(tk_s l i r h).1, List.foldl_append]; rfl
theorem sumB_bl0 {S : Nat} : ∀ (l : List Rw) (b : Nat → Int32), (∀ r, r ∈ l → r.1 < 6 ∧ r.2.1 < 6) → sumB (l.foldl blf b) S 6 = l.foldl (csf S) (sumB b S 6) := by
  intro l
  induction l with
  | nil => intro b _; rfl
  | cons r l ih =>
    intro b h
    rw [List.foldl_cons, List.foldl_cons, ih _ (fun q hq => h q (List.mem_cons_of_mem _ hq))]
    congr 1
    obtain ⟨h1, h2⟩ := h r List.mem_cons_self
    unfold blf csf
    rw [sumB_ups, sumB_ups]
    simp only [h1, h2, true_and]
theorem sumB_bl {S : Nat} {l : List Rw} (h : ∀ r, r ∈ l → r.1 < 6 ∧ r.2.1 < 6) : sumB (bl l) S 6 = cs S l := by
  have e : ∀ n, sumB (fun _ => 0) S n = 0 := by
    intro n
    induction n with
    | zero => rfl
    | succ n ih => rw [sumB_s, ih]; split <;> rfl
  unfold bl cs
  rw [sumB_bl0 l _ h, e]
def alf (b : Nat → Int32) : Nat → Nat
  | 0 => 0
  | k + 1 => alf b k ||| (if b k = 0 then 0 else 2 ^ k)
theorem alf_lt {b : Nat → Int32} : ∀ n, n ≤ 6 → alf b n < 64 := by
  intro n
  induction n with
  | zero => intro _; show 0 < 64; omega
  | succ n ih =>
    intro h
    show alf b n ||| _ < 64
    refine or_64 (ih (by omega)) ?_
    split
    · omega
    · exact b_pow n (by omega)
theorem alf_bit {b : Nat → Int32} {k : Nat} : ∀ n, (alf b n).testBit k = true ↔ k < n ∧ ¬ b k = 0 := by
  intro n
  induction n with
  | zero => show (0 : Nat).testBit k = true ↔ _; simp
  | succ n ih =>
    show (alf b n ||| (if b n = 0 then 0 else 2 ^ n)).testBit k = true ↔ _
    rw [Nat.testBit_or, Bool.or_eq_true, ih]
    by_cases q : b n = 0
    · rw [if_pos q]
      constructor
      · rintro (z | z)
        · exact ⟨by omega, z.2⟩
        · simp at z
      · rintro ⟨z1, z2⟩
        left
        refine ⟨?_, z2⟩
        have : k ≠ n := fun z => z2 (z ▸ q)
        omega
    · rw [if_neg q, Nat.testBit_two_pow]
      constructor
      · rintro (z | z)
        · exact ⟨by omega, z.2⟩
        · have : n = k := by simpa using z
          subst this
          exact ⟨by omega, q⟩
      · rintro ⟨z1, z2⟩
        by_cases z : k = n
        · right; simp [z]
        · left; exact ⟨by omega, z2⟩
theorem sumB_and {b : Nat → Int32} {S A : Nat} (hA : ∀ k, k < 6 → (A.testBit k = true ↔ ¬ b k = 0)) : ∀ n, n ≤ 6 → sumB b S n = sumB b (S &&& A) n := by
  intro n
  induction n with
  | zero => intro _; rfl
  | succ n ih =>
    intro h
    rw [sumB_s, sumB_s, ih (by omega), Nat.testBit_and]
    congr 1
    have q := hA n (by omega)
    by_cases z : A.testBit n = true
    · rw [z, Bool.and_true]
    · have e : b n = 0 := Classical.not_not.mp (fun y => z (q.mpr y))
      rw [e]
      split <;> split <;> rfl
/-! the theorem -/
def zc (S A : Nat) : Nat := cn (S &&& (63 - A)) 6
theorem zf_12 : ∀ S, S < 64 → ∀ A, A < 64 → ∀ k, k < 6 → (! S.testBit k || (if A.testBit k = true then decide ((S - 2 ^ k) &&& A = (S &&& A) - 2 ^ k) && decide (zc (S - 2 ^ k) A = zc S A) && (S &&& A).testBit k else decide ((S - 2 ^ k) &&& A = S &&& A) && decide (zc (S - 2 ^ k) A + 1 = zc S A))) = true := by
  unfold zc; decide +kernel
theorem zf_1 {S A k : Nat} (hS : S < 64) (hA : A < 64) (hk : k < 6) (h1 : S.testBit k = true) (h2 : A.testBit k = false) : (S - 2 ^ k) &&& A = S &&& A ∧ zc (S - 2 ^ k) A + 1 = zc S A := by
  have h := zf_12 S hS A hA k hk
  rw [h1, h2] at h
  simpa using h
theorem zf_2 {S A k : Nat} (hS : S < 64) (hA : A < 64) (hk : k < 6) (h1 : S.testBit k = true) (h2 : A.testBit k = true) : (S - 2 ^ k) &&& A = (S &&& A) - 2 ^ k ∧ zc (S - 2 ^ k) A = zc S A ∧ (S &&& A).testBit k = true := by
  have h := zf_12 S hS A hA k hk
  rw [if_pos h2, h1] at h
  simp only [Bool.not_true, Bool.false_or, Bool.and_eq_true, decide_eq_true_eq] at h
  exact ⟨h.1.1, h.1.2, h.2⟩
theorem zf_3 : ∀ S, S < 64 → ∀ A, A < 64 → (S &&& A) &&& A = S &&& A ∧ S &&& A < 64 ∧ zc 0 A = 0 ∧ zc 63 A + cn A 12 = 6 := by
  unfold zc; decide +kernel
theorem zf_4 : ∀ S, S < 64 → S ≠ 0 → ∃ k, k < 6 ∧ S.testBit k = true := by
  intro S hS h0
  have h : ∀ S, S < 64 → S ≠ 0 → (S.testBit 0 || S.testBit 1 || S.testBit 2 || S.testBit 3 || S.testBit 4 || S.testBit 5) = true := by decide +kernel
  have q := h S hS h0
  simp only [Bool.or_eq_true] at q
  rcases q with ((((q | q) | q) | q) | q) | q
  · exact ⟨0, by omega, q⟩
  · exact ⟨1, by omega, q⟩
  · exact ⟨2, by omega, q⟩
  · exact ⟨3, by omega, q⟩
  · exact ⟨4, by omega, q⟩
  · exact ⟨5, by omega, q⟩
theorem cn_sub : ∀ S, S < 64 → ∀ k, k < 6 → S.testBit k = true → cn (S - 2 ^ k) 12 + 1 = cn S 12 := by decide +kernel
def V_c (z : Nat → Int32) (a : Nat → Nat) (S : Nat) : Nat := if S = 0 then 0 else mxf a S 6 + (if z S = 0 then 1 else 0)
def V_r (z : Nat → Int32) (A : Nat) (a : Nat → Nat) (S : Nat) : Nat := mxf a S 6 + (if S ≠ 0 ∧ S &&& A = S ∧ z S = 0 then 1 else 0)
theorem V_c_loc {z : Nat → Int32} : loc_V (V_c z) := fun a b S h => by unfold V_c; rw [mxf_loc h]
theorem V_r_loc {z : Nat → Int32} {A : Nat} : loc_V (V_r z A) := fun a b S h => by unfold V_r; rw [mxf_loc h]
theorem V_c_le {z : Nat → Int32} : ∀ a S, (∀ U, U < S → a U ≤ U) → V_c z a S ≤ S := by
  intro a S h
  have := mxf_le h 6
  unfold V_c
  split
  · omega
  · split <;> omega
theorem V_r_le {z : Nat → Int32} {A : Nat} : ∀ a S, (∀ U, U < S → a U ≤ U) → V_r z A a S ≤ S := by
  intro a S h
  have := mxf_le h 6
  unfold V_r
  split <;> omega
theorem settle {z : Nat → Int32} {A : Nat} {c r : Nat → Nat} (hA : A < 64) (hz : ∀ S, S < 64 → z S = z (S &&& A)) (hz0 : z 0 = 0) (hc : ∀ S, S < 64 → c S = V_c z c S) (hr : ∀ S, S < 64 → r S = V_r z A r S) : ∀ S, S < 64 → c S = r (S &&& A) + zc S A := by
  have r0 : r 0 = 0 := by
    rw [hr 0 (by omega)]
    unfold V_r
    rw [if_neg (fun q => q.1 rfl)]
    rcases mxf_is (a := r) (S := 0) 6 with q | ⟨k, _, q, _⟩
    · omega
    · simp at q
  intro S
  induction S using Nat.strongRecOn with
  | _ S ih =>
    intro hS
    obtain ⟨f1, f2, f3, -⟩ := zf_3 S hS A hA
    by_cases h0 : S = 0
    · subst h0
      rw [Nat.zero_and, r0, f3, hc 0 (by omega)]
      unfold V_c
      rw [if_pos rfl]
    · have ec : c S = mxf c S 6 + (if z S = 0 then 1 else 0) := by rw [hc S hS]; unfold V_c; rw [if_neg h0]
      have er : r (S &&& A) = mxf r (S &&& A) 6 + (if S &&& A ≠ 0 ∧ (S &&& A) &&& A = S &&& A ∧ z (S &&& A) = 0 then 1 else 0) := hr _ f2
      rw [← hz S hS] at er
      -- what each knight gives
      have g1 : ∀ k, k < 6 → S.testBit k = true → A.testBit k = false → c (S - 2 ^ k) + 1 = r (S &&& A) + zc S A := by
        intro k hk hb ha
        obtain ⟨q1, q2⟩ := zf_1 hS hA hk hb ha
        have := ih (S - 2 ^ k) (bit_sub hb) (Nat.lt_of_le_of_lt (Nat.sub_le _ _) hS)
        rw [q1] at this
        omega
      have g2 : ∀ k, k < 6 → S.testBit k = true → A.testBit k = true → c (S - 2 ^ k) = r ((S &&& A) - 2 ^ k) + zc S A ∧ (S &&& A).testBit k = true := by
        intro k hk hb ha
        obtain ⟨q1, q2, q3⟩ := zf_2 hS hA hk hb ha
        have := ih (S - 2 ^ k) (bit_sub hb) (Nat.lt_of_le_of_lt (Nat.sub_le _ _) hS)
        rw [q1, q2] at this
        exact ⟨this, q3⟩
      by_cases hB : S &&& A = 0
      · obtain ⟨k, hk, hb⟩ := zf_4 S hS h0
        have ha : A.testBit k = false := by
          cases q : A.testBit k with
          | false => rfl
          | true =>
            have := (g2 k hk hb q).2
            rw [hB] at this
            simp at this
        have e1 := g1 k hk hb ha
        have u1 := mxf_up (a := c) 6 k hk hb
        have zz : z S = 0 := by rw [hz S hS, hB]; exact hz0
        rw [hB, r0] at e1 ⊢
        rw [ec, if_pos zz]
        rcases mxf_is (a := c) (S := S) 6 with q | ⟨j, hj, hjb, q⟩
        · omega
        · have hja : A.testBit j = false := by
            cases q : A.testBit j with
            | false => rfl
            | true =>
              have := (g2 j hj hjb q).2
              rw [hB] at this
              simp at this
          have e2 := g1 j hj hjb hja
          rw [hB, r0] at e2
          omega
      · have lower : mxf r (S &&& A) 6 + zc S A ≤ mxf c S 6 := by
          have hex : ∃ k, k < 6 ∧ (S &&& A).testBit k = true ∧ mxf r (S &&& A) 6 ≤ r ((S &&& A) - 2 ^ k) := by
            rcases mxf_is (a := r) (S := S &&& A) 6 with q | ⟨j, hj, hjb, q⟩
            · obtain ⟨k, hk, hb⟩ := zf_4 _ f2 hB
              exact ⟨k, hk, hb, by omega⟩
            · exact ⟨j, hj, hjb, by omega⟩
          obtain ⟨k, hk, hb, hle⟩ := hex
          rw [Nat.testBit_and, Bool.and_eq_true] at hb
          have e := (g2 k hk hb.1 hb.2).1
          have u := mxf_up (a := c) 6 k hk hb.1
          omega
        have upper : mxf c S 6 ≤ mxf r (S &&& A) 6 + zc S A := by
          rcases mxf_is (a := c) (S := S) 6 with q | ⟨j, hj, hjb, q⟩
          · omega
          · cases ha : A.testBit j with
            | false =>
              have e := g1 j hj hjb ha
              have : r (S &&& A) ≤ mxf r (S &&& A) 6 + 1 := by rw [er]; split <;> omega
              omega
            | true =>
              obtain ⟨e, e2⟩ := g2 j hj hjb ha
              have u := mxf_up (a := r) 6 j hj e2
              omega
        rw [ec]
        by_cases zz : z S = 0
        · rw [if_pos ⟨hB, f1, zz⟩] at er
          rw [if_pos zz]; omega
        · rw [if_neg (fun q => zz q.2.2)] at er
          rw [if_neg zz]; omega
theorem r_card {z : Nat → Int32} {A : Nat} {r : Nat → Nat} (hr : ∀ S, S < 64 → r S = V_r z A r S) : ∀ S, S < 64 → r S ≤ cn S 12 := by
  intro S
  induction S using Nat.strongRecOn with
  | _ S ih =>
    intro hS
    have m : mxf r S 6 + (if S = 0 then 0 else 1) ≤ cn S 12 := by
      by_cases h0 : S = 0
      · rw [if_pos h0]
        rcases mxf_is (a := r) (S := S) 6 with q | ⟨k, _, q, _⟩
        · omega
        · rw [h0] at q; simp at q
      · rw [if_neg h0]
        rcases mxf_is (a := r) (S := S) 6 with q | ⟨k, hk, hb, q⟩
        · obtain ⟨k, hk, hb⟩ := zf_4 S hS h0
          have := cn_sub S hS k hk hb
          omega
        · have := cn_sub S hS k hk hb
          have := ih _ (bit_sub hb) (by have := bit_sub hb; omega)
          omega
    rw [hr S hS]
    unfold V_r
    by_cases h0 : S = 0
    · rw [if_neg (fun q => q.1 h0)]; omega
    · rw [if_neg h0] at m
      split <;> omega

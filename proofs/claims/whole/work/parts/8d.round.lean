/-! ROUNDS: A i: the debt i can be met from where he is; B i j: j can be met from i -/
def jrc (A : Nat → Bool) (B : Nat → Nat → Bool) : Option Nat → Nat → Bool
  | none, i => A i
  | some q, i => B q i
def jsc (A : Nat → Bool) (B : Nat → Nat → Bool) (S : Nat) : Nat → Option (Option Nat)
  | 0 => some none
  | i + 1 => match jsc A B S i with
    | none => none
    | some p => if S.testBit i = true then (if jrc A B p i = true then some (some i) else none) else some p
def jpm (A : Nat → Bool) (B : Nat → Nat → Bool) : Nat → Nat → Nat
  | 0, j => if A j = true then 1 else 0
  | i + 1, j => if i < j ∧ 0 < jpm A B i i ∧ B i j = true then max (jpm A B i j) (jpm A B i i + 1) else jpm A B i j
def jbs (A : Nat → Bool) (B : Nat → Nat → Bool) : Nat → Nat
  | 0 => 0
  | i + 1 => max (jbs A B i) (jpm A B i i)
def jmr (A : Nat → Bool) (B : Nat → Nat → Bool) : Nat → Nat
  | 0 => 0
  | S + 1 => if jmr A B S < cn S 12 ∧ (jsc A B S 12).isSome = true then cn S 12 else jmr A B S
section JR
variable {A : Nat → Bool} {B : Nat → Nat → Bool}
theorem jsc_n {S i : Nat} (h : jsc A B S i = none) : jsc A B S (i + 1) = none := by
  show (match jsc A B S i with
    | none => none
    | some p => _) = none
  rw [h]
theorem jsc_s {S i : Nat} {p : Option Nat} (h : jsc A B S i = some p) : jsc A B S (i + 1) = if S.testBit i = true then (if jrc A B p i = true then some (some i) else none) else some p := by
  show (match jsc A B S i with
    | none => none
    | some p => _) = _
  rw [h]
theorem jsc_0 {S i : Nat} (h : S.testBit i = false) : jsc A B S (i + 1) = jsc A B S i := by
  cases q : jsc A B S i with
  | none => rw [jsc_n q]
  | some p => rw [jsc_s q, if_neg (by rw [h]; simp)]
theorem jsc_skip {S a : Nat} : ∀ b, a ≤ b → (∀ m, a ≤ m → m < b → S.testBit m = false) → jsc A B S b = jsc A B S a := by
  intro b
  induction b with
  | zero => intro h _; rw [show a = 0 by omega]
  | succ b ih =>
    intro h q
    by_cases e : a = b + 1
    · rw [e]
    · rw [jsc_0 (q b (by omega) (by omega)), ih (by omega) (fun m h1 h2 => q m h1 (by omega))]
theorem jsc_congr {S T : Nat} : ∀ i, (∀ m, m < i → S.testBit m = T.testBit m) → jsc A B S i = jsc A B T i := by
  intro i
  induction i with
  | zero => intro _; rfl
  | succ i ih =>
    intro h
    have e := ih (fun m hm => h m (by omega))
    cases q : jsc A B T i with
    | none => rw [jsc_n q, jsc_n (e.trans q)]
    | some p => rw [jsc_s q, jsc_s (e.trans q), h i (by omega)]
theorem jsc_none {S i : Nat} (h : jsc A B S i = none) : ∀ d, jsc A B S (i + d) = none := by
  intro d
  induction d with
  | zero => exact h
  | succ d ih => exact jsc_n ih
theorem cn_bit {S i : Nat} : cn S (i + 1) = cn S i + if S.testBit i = true then 1 else 0 := by
  rw [cn_s, Nat.testBit_eq_decide_div_mod_eq]
  have h : S / 2 ^ i % 2 < 2 := Nat.mod_lt _ (by omega)
  by_cases q : S / 2 ^ i % 2 = 1
  · rw [if_pos (decide_eq_true q), q]
  · rw [if_neg (fun z => q (of_decide_eq_true z))]; omega
theorem cn_skip {S a : Nat} : ∀ b, a ≤ b → (∀ m, a ≤ m → m < b → S.testBit m = false) → cn S b = cn S a := by
  intro b
  induction b with
  | zero => intro h _; rw [show a = 0 by omega]
  | succ b ih =>
    intro h q
    by_cases e : a = b + 1
    · rw [e]
    · rw [cn_bit, q b (by omega) (by omega), if_neg (by simp), ih (by omega) (fun m h1 h2 => q m h1 (by omega))]; rfl
theorem cn_congr {S T : Nat} : ∀ i, (∀ m, m < i → S.testBit m = T.testBit m) → cn S i = cn T i := by
  intro i
  induction i with
  | zero => intro _; rfl
  | succ i ih => intro h; rw [cn_bit, cn_bit, ih (fun m hm => h m (by omega)), h i (by omega)]
theorem cn_sN {S : Nat} : ∀ i, cn S i = sN (fun m => if S.testBit m = true then 1 else 0) i := by
  intro i
  induction i with
  | zero => rfl
  | succ i ih => rw [cn_bit, sN_s, ih]
theorem jpm_s {i j : Nat} : jpm A B (i + 1) j = if i < j ∧ 0 < jpm A B i i ∧ B i j = true then max (jpm A B i j) (jpm A B i i + 1) else jpm A B i j := rfl
theorem jpm_mono {i j : Nat} : ∀ k, i ≤ k → jpm A B i j ≤ jpm A B k j := by
  intro k
  induction k with
  | zero => intro h; rw [show i = 0 by omega]; exact Nat.le_refl _
  | succ k ih =>
    intro h
    by_cases e : i = k + 1
    · rw [e]; exact Nat.le_refl _
    · have := ih (by omega)
      rw [jpm_s]
      split <;> omega
theorem jpm_le : ∀ i j, jpm A B i j ≤ i + 1 := by
  intro i
  induction i with
  | zero => intro j; show (if A j = true then 1 else 0) ≤ 1; split <;> omega
  | succ i ih =>
    intro j
    have h1 := ih j
    have h2 := ih i
    rw [jpm_s]
    split <;> omega
theorem jbs_ge {m : Nat} : ∀ n, m < n → jpm A B m m ≤ jbs A B n := by
  intro n
  induction n with
  | zero => intro h; omega
  | succ n ih =>
    intro h
    show _ ≤ max (jbs A B n) (jpm A B n n)
    by_cases e : m = n
    · rw [e]; omega
    · have := ih (by omega); omega
theorem jbs_is : ∀ n, jbs A B n = 0 ∨ ∃ m, m < n ∧ jbs A B n = jpm A B m m ∧ 0 < jpm A B m m := by
  intro n
  induction n with
  | zero => exact Or.inl rfl
  | succ n ih =>
    show max (jbs A B n) (jpm A B n n) = 0 ∨ ∃ m, m < n + 1 ∧ max (jbs A B n) (jpm A B n n) = jpm A B m m ∧ 0 < jpm A B m m
    by_cases q : jbs A B n < jpm A B n n
    · right; exact ⟨n, by omega, by omega, by omega⟩
    · rcases ih with z | ⟨m, h1, h2, h3⟩
      · left; omega
      · right; exact ⟨m, by omega, by omega, h3⟩
theorem jbs_le : ∀ n, jbs A B n ≤ n := by
  intro n
  induction n with
  | zero => exact Nat.le_refl _
  | succ n ih =>
    have := jpm_le (A := A) (B := B) n n
    show max (jbs A B n) (jpm A B n n) ≤ n + 1
    omega
/-- a round is no longer than the longest that ends where it ends -/
theorem jsc_pm {S : Nat} : ∀ i p, jsc A B S i = some p → (p = none ∧ cn S i = 0) ∨ ∃ m, p = some m ∧ m < i ∧ cn S i ≤ jpm A B m m ∧ 0 < jpm A B m m := by
  intro i
  induction i with
  | zero => intro p h; left; exact ⟨(Option.some.inj h).symm, rfl⟩
  | succ i ih =>
    intro p h
    cases q : jsc A B S i with
    | none => rw [jsc_n q] at h; cases h
    | some r =>
      rw [jsc_s q] at h
      rw [cn_bit]
      by_cases hb : S.testBit i = true
      · rw [if_pos hb] at h ⊢
        by_cases hr : jrc A B r i = true
        · rw [if_pos hr] at h
          have e := Option.some.inj h
          right
          rcases ih r q with ⟨z1, z2⟩ | ⟨m, z1, z2, z3, z4⟩
          · rw [z1] at hr
            have h0 : jpm A B 0 i = 1 := if_pos hr
            have := jpm_mono (A := A) (B := B) (i := 0) (j := i) i (by omega)
            exact ⟨i, e.symm, by omega, by omega, by omega⟩
          · rw [z1] at hr
            have h1 : jpm A B (m + 1) i = max (jpm A B m i) (jpm A B m m + 1) := by rw [jpm_s, if_pos ⟨z2, z4, hr⟩]
            have := jpm_mono (A := A) (B := B) (i := m + 1) (j := i) i (by omega)
            exact ⟨i, e.symm, by omega, by omega, by omega⟩
        · rw [if_neg hr] at h; cases h
      · rw [if_neg hb] at h ⊢
        have e := Option.some.inj h
        subst e
        rcases ih r q with ⟨z1, z2⟩ | ⟨m, z1, z2, z3, z4⟩
        · left; exact ⟨z1, by omega⟩
        · right; exact ⟨m, z1, by omega, by omega, z4⟩
theorem jsc_bs {S : Nat} (h : (jsc A B S 12).isSome = true) : cn S 12 ≤ jbs A B 12 := by
  obtain ⟨p, hp⟩ := Option.isSome_iff_exists.mp h
  rcases jsc_pm 12 p hp with ⟨-, z⟩ | ⟨m, -, z2, z3, -⟩
  · omega
  · have := jbs_ge (A := A) (B := B) 12 z2
    omega
theorem lt_bit {S a m : Nat} (h : S < 2 ^ a) (hm : a ≤ m) : S.testBit m = false := Nat.testBit_lt_two_pow (Nat.lt_of_lt_of_le h (Nat.pow_le_pow_right (by omega) hm))
/-- and the longest is a round -/
theorem jpm_sc : ∀ i j, j ≤ i → 0 < jpm A B j i → ∃ S, S < 2 ^ (i + 1) ∧ cn S (i + 1) = jpm A B j i ∧ jsc A B S (i + 1) = some (some i) := by
  intro i
  induction i using Nat.strongRecOn with
  | _ i ihi =>
    intro j
    induction j with
    | zero =>
      intro _ h
      have hA : A i = true := by
        apply Classical.byContradiction
        intro z
        have : jpm A B 0 i = 0 := if_neg z
        omega
      have e : jpm A B 0 i = 1 := if_pos hA
      have hb : ∀ m, 0 ≤ m → m < i → (2 ^ i).testBit m = false := fun m _ hm => by rw [Nat.testBit_two_pow]; exact decide_eq_false (by omega)
      refine ⟨2 ^ i, Nat.pow_lt_pow_right (by omega) (by omega), ?_, ?_⟩
      · rw [cn_bit, cn_skip i (by omega) hb, Nat.testBit_two_pow_self, e]; rfl
      · have z : jsc A B (2 ^ i) i = some none := by rw [jsc_skip i (Nat.zero_le _) hb]; rfl
        rw [jsc_s z, Nat.testBit_two_pow_self, if_pos rfl, if_pos (show jrc A B none i = true from hA)]
    | succ j ihj =>
      intro hj h
      rw [jpm_s] at h ⊢
      by_cases c : j < i ∧ 0 < jpm A B j j ∧ B j i = true
      · rw [if_pos c] at h ⊢
        by_cases q : jpm A B j j + 1 ≤ jpm A B j i
        · rw [Nat.max_eq_left q] at h ⊢
          exact ihj (by omega) h
        · rw [Nat.max_eq_right (by omega)]
          obtain ⟨T, t1, t2, t3⟩ := ihi j c.1 j (Nat.le_refl _) c.2.1
          have hbit : ∀ m, (T ||| 2 ^ i).testBit m = (T.testBit m || decide (i = m)) := fun m => by rw [Nat.testBit_or, Nat.testBit_two_pow]
          have hlo : ∀ m, m < j + 1 → (T ||| 2 ^ i).testBit m = T.testBit m := fun m hm => by rw [hbit, decide_eq_false (by omega), Bool.or_false]
          have hmid : ∀ m, j + 1 ≤ m → m < i → (T ||| 2 ^ i).testBit m = false := fun m h1 h2 => by rw [hbit, decide_eq_false (by omega), Bool.or_false, lt_bit t1 h1]
          have hi : (T ||| 2 ^ i).testBit i = true := by rw [hbit, decide_eq_true rfl, Bool.or_true]
          refine ⟨T ||| 2 ^ i, Nat.or_lt_two_pow (Nat.lt_of_lt_of_le t1 (Nat.pow_le_pow_right (by omega) (by omega))) (Nat.pow_lt_pow_right (by omega) (by omega)), ?_, ?_⟩
          · rw [cn_bit, if_pos hi, cn_skip i c.1 hmid, cn_congr (j + 1) hlo, t2]
          · have z : jsc A B (T ||| 2 ^ i) i = some (some j) := by rw [jsc_skip i c.1 hmid, jsc_congr (j + 1) hlo, t3]
            rw [jsc_s z, if_pos hi, if_pos (show jrc A B (some j) i = true from c.2.2)]
      · rw [if_neg c] at h ⊢
        exact ihj (by omega) h
/-- all that are in a round are his -/
theorem jsc_Q {Q : Nat → Bool} (hA : ∀ m, A m = true → Q m = true) (hB : ∀ q m, B q m = true → Q m = true) {S : Nat} : ∀ i p, jsc A B S i = some p → ∀ m, m < i → S.testBit m = true → Q m = true := by
  intro i
  induction i with
  | zero => intro p _ m hm; omega
  | succ i ih =>
    intro p h m hm hb
    cases q : jsc A B S i with
    | none => rw [jsc_n q] at h; cases h
    | some r =>
      by_cases e : m = i
      · subst e
        rw [jsc_s q, if_pos hb] at h
        by_cases hr : jrc A B r m = true
        · cases r with
          | none => exact hA m hr
          | some z => exact hB z m hr
        · rw [if_neg hr] at h; cases h
      · exact ih r q m (by omega) hb
theorem jmr_s {S : Nat} : jmr A B (S + 1) = if jmr A B S < cn S 12 ∧ (jsc A B S 12).isSome = true then cn S 12 else jmr A B S := rfl
theorem jmr_ge {S : Nat} (h : (jsc A B S 12).isSome = true) : ∀ N, S < N → cn S 12 ≤ jmr A B N := by
  intro N
  induction N with
  | zero => intro q; omega
  | succ N ih =>
    intro q
    rw [jmr_s]
    by_cases e : S = N
    · subst e
      by_cases z : jmr A B S < cn S 12
      · rw [if_pos ⟨z, h⟩]; exact Nat.le_refl _
      · rw [if_neg (fun y => z y.1)]; omega
    · have := ih (by omega)
      split <;> omega
theorem jmr_is : ∀ N, jmr A B N = 0 ∨ ∃ S, S < N ∧ (jsc A B S 12).isSome = true ∧ cn S 12 = jmr A B N := by
  intro N
  induction N with
  | zero => exact Or.inl rfl
  | succ N ih =>
    rw [jmr_s]
    by_cases z : jmr A B N < cn N 12 ∧ (jsc A B N 12).isSome = true
    · rw [if_pos z]; right; exact ⟨N, by omega, z.2, rfl⟩
    · rw [if_neg z]
      rcases ih with y | ⟨S, h1, h2, h3⟩
      · exact Or.inl y
      · right; exact ⟨S, by omega, h2, h3⟩
theorem jpm_set {m n : Nat} {Q : Nat → Bool} (hA : ∀ m, A m = true → Q m = true) (hB : ∀ q m, B q m = true → Q m = true) (hQ : ∀ m, Q m = true → m < n) (hm : m < 12) (hn : n ≤ 12) (h : 0 < jpm A B m m) : ∃ S, S < 2 ^ n ∧ cn S 12 = jpm A B m m ∧ (jsc A B S 12).isSome = true ∧ ∀ j, S.testBit j = true → Q j = true := by
  obtain ⟨S, s1, s2, s3⟩ := jpm_sc m m (Nat.le_refl _) h
  have hq := jsc_Q hA hB (m + 1) _ s3
  have hbig : ∀ j, m + 1 ≤ j → S.testBit j = false := fun j hj => lt_bit s1 hj
  have hmb : S.testBit m = true := by
    apply Classical.byContradiction
    intro z
    have e := jsc_0 (A := A) (B := B) (Bool.eq_false_iff.mpr z)
    rw [s3] at e
    rcases jsc_pm m _ e.symm with ⟨y, -⟩ | ⟨r, y1, y2, -⟩
    · cases y
    · have := Option.some.inj y1
      omega
  have hmn : m < n := hQ m (hq m (by omega) hmb)
  refine ⟨S, Nat.lt_of_lt_of_le s1 (Nat.pow_le_pow_right (by omega) (by omega)), ?_, ?_, fun j hj => ?_⟩
  · rw [cn_skip 12 (show m + 1 ≤ 12 by omega) (fun j h1 _ => hbig j h1), s2]
  · rw [jsc_skip 12 (show m + 1 ≤ 12 by omega) (fun j h1 _ => hbig j h1), s3]; rfl
  · have : j < m + 1 := by
      apply Classical.byContradiction
      intro z
      rw [hbig j (by omega)] at hj
      cases hj
    exact hq j this hj
theorem jmr_bs {n : Nat} {Q : Nat → Bool} (hA : ∀ m, A m = true → Q m = true) (hB : ∀ q m, B q m = true → Q m = true) (hQ : ∀ m, Q m = true → m < n) (hn : n ≤ 12) : jmr A B (2 ^ n) = jbs A B 12 := by
  apply Nat.le_antisymm
  · rcases jmr_is (A := A) (B := B) (2 ^ n) with z | ⟨S, -, z2, z3⟩
    · omega
    · have := jsc_bs z2
      omega
  · rcases jbs_is (A := A) (B := B) 12 with z | ⟨m, z1, z2, z3⟩
    · omega
    · obtain ⟨S, s1, s2, s3, -⟩ := jpm_set hA hB hQ z1 hn z3
      have := jmr_ge s3 _ s1
      omega
theorem j_all {n : Nat} {Q : Nat → Bool} (hA : ∀ m, A m = true → Q m = true) (hB : ∀ q m, B q m = true → Q m = true) (hQ : ∀ m, Q m = true → m < n) (hn : n ≤ 12) : (jsc A B (ab Q 12) 12).isSome = true ↔ jbs A B 12 = cn (ab Q 12) 12 := by
  have sub : ∀ S, (∀ j, S.testBit j = true → Q j = true) → cn S 12 ≤ cn (ab Q 12) 12 := by
    intro S h
    rw [cn_sN, cn_sN]
    apply sN_le
    intro k hk
    by_cases z : S.testBit k = true
    · rw [if_pos z, if_pos]
      · exact Nat.le_refl _
      · rw [ab_bit, decide_eq_true hk, h k z]; rfl
    · rw [if_neg z]; exact Nat.zero_le _
  constructor
  · intro h
    apply Nat.le_antisymm
    · rcases jbs_is (A := A) (B := B) 12 with z | ⟨m, z1, z2, z3⟩
      · omega
      · obtain ⟨S, s1, s2, s3, s4⟩ := jpm_set hA hB hQ z1 hn z3
        have := sub S s4
        omega
    · exact jsc_bs h
  · intro h
    rcases jbs_is (A := A) (B := B) 12 with z | ⟨m, z1, z2, z3⟩
    · have hz : ∀ m, 0 ≤ m → m < 12 → (ab Q 12).testBit m = false := by
        intro m _ hm
        apply Bool.eq_false_iff.mpr
        intro y
        have := sN_lt (a := fun _ => 0) (b := fun m => if (ab Q 12).testBit m = true then 1 else 0) (j := m) 12 (fun k _ => Nat.zero_le _) hm (by rw [if_pos y]; omega)
        rw [← cn_sN] at this
        omega
      rw [jsc_skip 12 (Nat.zero_le _) hz]; rfl
    · obtain ⟨S, s1, s2, s3, s4⟩ := jpm_set hA hB hQ z1 hn z3
      have heq : ∀ m, m < 12 → (ab Q 12).testBit m = S.testBit m := by
        intro m hm
        cases y : S.testBit m with
        | true => rw [ab_bit, decide_eq_true hm, s4 m y]; rfl
        | false =>
          apply Bool.eq_false_iff.mpr
          intro x
          have := sN_lt (a := fun m => if S.testBit m = true then 1 else 0) (b := fun m => if (ab Q 12).testBit m = true then 1 else 0) (j := m) 12 (fun k hk => by
            by_cases z : S.testBit k = true
            · rw [if_pos z, if_pos]
              · exact Nat.le_refl _
              · rw [ab_bit, decide_eq_true hk, s4 k z]; rfl
            · rw [if_neg z]; exact Nat.zero_le _) hm (by rw [if_pos x, y, if_neg (by simp)]; omega)
          rw [← cn_sN, ← cn_sN] at this
          omega
      rw [jsc_congr 12 heq]; exact s3
/-- one, and two -/
theorem j_one {i : Nat} (hi : i < 12) : (jsc A B (2 ^ i) 12).isSome = A i := by
  have hb : ∀ m, m ≠ i → (2 ^ i).testBit m = false := fun m hm => by rw [Nat.testBit_two_pow]; exact decide_eq_false (fun z => hm z.symm)
  have z : jsc A B (2 ^ i) i = some none := by rw [jsc_skip i (Nat.zero_le _) (fun m _ hm => hb m (by omega))]; rfl
  rw [jsc_skip 12 (show i + 1 ≤ 12 by omega) (fun m hm _ => hb m (by omega)), jsc_s z, Nat.testBit_two_pow_self, if_pos rfl]
  show (if A i = true then _ else _ : Option (Option Nat)).isSome = A i
  cases A i <;> rfl
theorem j_two {i j : Nat} (hij : i < j) (hj : j < 12) : (jsc A B (2 ^ i ||| 2 ^ j) 12).isSome = (A i && B i j) := by
  have hbit : ∀ m, (2 ^ i ||| 2 ^ j).testBit m = (decide (i = m) || decide (j = m)) := fun m => by rw [Nat.testBit_or, Nat.testBit_two_pow, Nat.testBit_two_pow]
  have hb : ∀ m, m ≠ i → m ≠ j → (2 ^ i ||| 2 ^ j).testBit m = false := fun m h1 h2 => by rw [hbit, decide_eq_false (fun z => h1 z.symm), decide_eq_false (fun z => h2 z.symm)]; rfl
  have hi : (2 ^ i ||| 2 ^ j).testBit i = true := by rw [hbit, decide_eq_true rfl]; rfl
  have hjb : (2 ^ i ||| 2 ^ j).testBit j = true := by rw [hbit, decide_eq_true (show j = j from rfl), Bool.or_true]
  have z : jsc A B (2 ^ i ||| 2 ^ j) i = some none := by rw [jsc_skip i (Nat.zero_le _) (fun m _ hm => hb m (by omega) (by omega))]; rfl
  rw [jsc_skip 12 (show j + 1 ≤ 12 by omega) (fun m hm _ => hb m (by omega) (by omega))]
  have z1 : jsc A B (2 ^ i ||| 2 ^ j) (i + 1) = if A i = true then some (some i) else none := by
    rw [jsc_s z, if_pos hi]; rfl
  have z2 : jsc A B (2 ^ i ||| 2 ^ j) j = if A i = true then some (some i) else none := by
    rw [jsc_skip j (show i + 1 ≤ j by omega) (fun m h1 h2 => hb m (by omega) (by omega)), z1]
  cases hA : A i with
  | false =>
    rw [hA] at z2
    rw [jsc_n (z2.trans (if_neg (by simp)))]; rfl
  | true =>
    rw [hA] at z2
    rw [jsc_s (z2.trans (if_pos rfl)), if_pos hjb]
    show (if B i j = true then _ else _ : Option (Option Nat)).isSome = (true && B i j)
    cases B i j <;> rfl
end JR
/-- two that can not be both -/
def jbad (A : Nat → Bool) (B : Nat → Nat → Bool) (i j : Nat) : Bool := A i && (A j && ! B i j)
def jfj (A : Nat → Bool) (B : Nat → Nat → Bool) (i : Nat) : Nat → Nat → Option Nat
  | 0, _ => none
  | f + 1, j => if jbad A B i j = true then some j else jfj A B i f (j + 1)
def jfi (A : Nat → Bool) (B : Nat → Nat → Bool) : Nat → Nat → Option (Nat × Nat)
  | 0, _ => none
  | f + 1, i => match jfj A B i (12 - (i + 1)) (i + 1) with
    | some j => some (i, j)
    | none => jfi A B f (i + 1)
theorem jfj_s {A : Nat → Bool} {B : Nat → Nat → Bool} {i f j : Nat} : jfj A B i (f + 1) j = if jbad A B i j = true then some j else jfj A B i f (j + 1) := rfl
theorem jfj_no {A : Nat → Bool} {B : Nat → Nat → Bool} {i : Nat} : ∀ f j, (∀ m, j ≤ m → jbad A B i m = false) → jfj A B i f j = none := by
  intro f
  induction f with
  | zero => intro j _; rfl
  | succ f ih =>
    intro j h
    rw [jfj_s, h j (Nat.le_refl _), if_neg (by simp)]
    exact ih (j + 1) (fun m hm => h m (by omega))
theorem jfj_lt {A : Nat → Bool} {B : Nat → Nat → Bool} {i : Nat} : ∀ f j m, jfj A B i f j = some m → j ≤ m ∧ m < j + f := by
  intro f
  induction f with
  | zero => intro j m h; cases h
  | succ f ih =>
    intro j m h
    rw [jfj_s] at h
    by_cases q : jbad A B i j = true
    · rw [if_pos q] at h
      have := Option.some.inj h
      omega
    · rw [if_neg q] at h
      have := ih (j + 1) m h
      omega
theorem jfi_s {A : Nat → Bool} {B : Nat → Nat → Bool} {f i j : Nat} (h : jfj A B i (12 - (i + 1)) (i + 1) = some j) : jfi A B (f + 1) i = some (i, j) := by
  show (match jfj A B i (12 - (i + 1)) (i + 1) with
    | some j => some (i, j)
    | none => jfi A B f (i + 1)) = _
  rw [h]
theorem jfi_n {A : Nat → Bool} {B : Nat → Nat → Bool} {f i : Nat} (h : jfj A B i (12 - (i + 1)) (i + 1) = none) : jfi A B (f + 1) i = jfi A B f (i + 1) := by
  show (match jfj A B i (12 - (i + 1)) (i + 1) with
    | some j => some (i, j)
    | none => jfi A B f (i + 1)) = _
  rw [h]
theorem jfi_no {A : Nat → Bool} {B : Nat → Nat → Bool} : ∀ f i, (∀ m, i ≤ m → A m = false) → jfi A B f i = none := by
  intro f
  induction f with
  | zero => intro i _; rfl
  | succ f ih =>
    intro i h
    rw [jfi_n (jfj_no _ _ (fun m _ => by unfold jbad; rw [h i (Nat.le_refl _), Bool.false_and]))]
    exact ih (i + 1) (fun m hm => h m (by omega))

/-! who struck whom: rows by codes, and by sets -/
def sN (g : Nat → Nat) : Nat → Nat
  | 0 => 0
  | k + 1 => sN g k + g k
theorem sN_s {g : Nat → Nat} {k : Nat} : sN g (k + 1) = sN g k + g k := rfl
theorem sN_congr {g h : Nat → Nat} : ∀ n, (∀ k, k < n → g k = h k) → sN g n = sN h n := by
  intro n
  induction n with
  | zero => intro _; rfl
  | succ n ih => intro q; rw [sN_s, sN_s, ih (fun k hk => q k (by omega)), q n (by omega)]
theorem sN_zero {g : Nat → Nat} : ∀ n, (∀ k, k < n → g k = 0) → sN g n = 0 := by
  intro n
  induction n with
  | zero => intro _; rfl
  | succ n ih => intro q; rw [sN_s, ih (fun k hk => q k (by omega)), q n (by omega)]
theorem sN_one {g h : Nat → Nat} {j : Nat} : ∀ n, (∀ k, k < n → k ≠ j → g k = h k) → j < n → sN g n + h j = sN h n + g j := by
  intro n
  induction n with
  | zero => intro _ h; omega
  | succ n ih =>
    intro q hj
    rw [sN_s, sN_s]
    by_cases e : j = n
    · subst e
      have := sN_congr (g := g) (h := h) j (fun k hk => q k (by omega) (by omega))
      omega
    · have := ih (fun k hk => q k (by omega)) (by omega)
      have := q n (by omega) (by omega)
      omega
theorem sN_add {g h : Nat → Nat} : ∀ n, sN (fun k => g k + h k) n = sN g n + sN h n := by
  intro n
  induction n with
  | zero => rfl
  | succ n ih => rw [sN_s, sN_s, sN_s, ih]; omega
theorem sN_ind {j : Nat} : ∀ n, sN (fun k => if k = j then 1 else 0) n = if j < n then 1 else 0 := by
  intro n
  induction n with
  | zero => rfl
  | succ n ih =>
    rw [sN_s, ih]
    by_cases q : j < n
    · rw [if_pos q, if_neg (by omega), if_pos (by omega)]
    · rw [if_neg q]
      by_cases e : n = j
      · rw [if_pos e, if_pos (by omega)]
      · rw [if_neg e, if_neg (by omega)]
theorem sN_le {g h : Nat → Nat} : ∀ n, (∀ k, k < n → g k ≤ h k) → sN g n ≤ sN h n := by
  intro n
  induction n with
  | zero => intro _; exact Nat.le_refl _
  | succ n ih =>
    intro q
    have := ih (fun k hk => q k (by omega))
    have := q n (by omega)
    rw [sN_s, sN_s]; omega
def vst (E : Nat → Nat → Bool) (c : Nat) : Nat → Option Nat
  | 0 => some 0
  | p + 1 => match vst E c p with
    | none => none
    | some S => if (E p (c / 6 ^ p % 6) && ! S.testBit (c / 6 ^ p % 6)) = true then some (S ||| 2 ^ (c / 6 ^ p % 6)) else none
theorem vst_n {E : Nat → Nat → Bool} {c p : Nat} (h : vst E c p = none) : vst E c (p + 1) = none := by
  show (match vst E c p with
    | none => none
    | some S => _) = none
  rw [h]
theorem vst_s {E : Nat → Nat → Bool} {c p S : Nat} (h : vst E c p = some S) : vst E c (p + 1) = if (E p (c / 6 ^ p % 6) && ! S.testBit (c / 6 ^ p % 6)) = true then some (S ||| 2 ^ (c / 6 ^ p % 6)) else none := by
  show (match vst E c p with
    | none => none
    | some S => _) = _
  rw [h]
theorem vst_lt {E : Nat → Nat → Bool} {c : Nat} : ∀ p S, vst E c p = some S → S < 64 := by
  intro p
  induction p with
  | zero => intro S h; have := Option.some.inj h; omega
  | succ p ih =>
    intro S h
    cases q : vst E c p with
    | none => rw [vst_n q] at h; cases h
    | some T =>
      rw [vst_s q] at h
      split at h
      · have e := Option.some.inj h
        rw [← e]
        exact or_64 (ih T q) (b_pow _ (Nat.mod_lt _ (by omega)))
      · cases h
theorem vst_congr {E : Nat → Nat → Bool} {c d : Nat} : ∀ p, (∀ j, j < p → c / 6 ^ j % 6 = d / 6 ^ j % 6) → vst E c p = vst E d p := by
  intro p
  induction p with
  | zero => intro _; rfl
  | succ p ih =>
    intro h
    have e := ih (fun j hj => h j (by omega))
    cases q : vst E d p with
    | none => rw [vst_n q, vst_n (e.trans q)]
    | some T => rw [vst_s q, vst_s (e.trans q), h p (by omega)]
theorem dig_lo {c d p j : Nat} (hj : j < p) : (d * 6 ^ p + c) / 6 ^ j % 6 = c / 6 ^ j % 6 := by
  obtain ⟨r, rfl⟩ : ∃ r, p = j + 1 + r := ⟨p - j - 1, by omega⟩
  have e : d * 6 ^ (j + 1 + r) = d * 6 ^ r * 6 * 6 ^ j := by
    rw [Nat.pow_add, Nat.pow_succ, Nat.mul_comm (6 ^ j * 6), Nat.mul_comm (6 ^ j) 6, ← Nat.mul_assoc, ← Nat.mul_assoc]
  rw [e, Nat.add_comm, Nat.add_mul_div_right _ _ (Nat.pow_pos (by omega)), Nat.add_mul_mod_self_right]
theorem dig_hi {c d p : Nat} (hc : c < 6 ^ p) (hd : d < 6) : (d * 6 ^ p + c) / 6 ^ p % 6 = d := by
  rw [Nat.add_comm, Nat.add_mul_div_right _ _ (Nat.pow_pos (by omega)), Nat.div_eq_of_lt hc, Nat.zero_add, Nat.mod_eq_of_lt hd]
/-- how many codes have this set -/
def hc (v : Nat → Option Nat) (T : Nat) : Nat → Nat
  | 0 => 0
  | n + 1 => hc v T n + (if v n = some T then 1 else 0)
theorem hc_s {v : Nat → Option Nat} {T n : Nat} : hc v T (n + 1) = hc v T n + (if v n = some T then 1 else 0) := rfl
theorem hc_add {v : Nat → Option Nat} {T a : Nat} : ∀ b, hc v T (a + b) = hc v T a + hc (fun c => v (a + c)) T b := by
  intro b
  induction b with
  | zero => rfl
  | succ b ih =>
    show hc v T (a + b) + (if v (a + b) = some T then 1 else 0) = _
    rw [ih, hc_s]; omega
theorem hc_le {v : Nat → Option Nat} {T : Nat} : ∀ n, hc v T n ≤ n := by
  intro n
  induction n with
  | zero => exact Nat.le_refl _
  | succ n ih => rw [hc_s]; split <;> omega
theorem hc_pos {v : Nat → Option Nat} {T : Nat} : ∀ n, 0 < hc v T n ↔ ∃ c, c < n ∧ v c = some T := by
  intro n
  induction n with
  | zero => exact ⟨fun h => absurd h (by show ¬ 0 < 0; omega), fun ⟨c, h, _⟩ => absurd h (by omega)⟩
  | succ n ih =>
    rw [hc_s]
    constructor
    · intro h
      by_cases q : v n = some T
      · exact ⟨n, by omega, q⟩
      · rw [if_neg q] at h
        obtain ⟨c, h1, h2⟩ := ih.mp (by omega)
        exact ⟨c, by omega, h2⟩
    · rintro ⟨c, h1, h2⟩
      by_cases q : c = n
      · subst q; rw [if_pos h2]; omega
      · have := ih.mpr ⟨c, by omega, h2⟩
        omega
theorem hc_eq {u v : Nat → Option Nat} {T S : Nat} : ∀ n, (∀ c, c < n → (u c = some T ↔ v c = some S)) → hc u T n = hc v S n := by
  intro n
  induction n with
  | zero => intro _; rfl
  | succ n ih =>
    intro h
    rw [hc_s, hc_s, ih (fun c hc => h c (by omega))]
    have := h n (by omega)
    by_cases q : u n = some T
    · rw [if_pos q, if_pos (this.mp q)]
    · rw [if_neg q, if_neg (fun z => q (this.mpr z))]
theorem hc_no {v : Nat → Option Nat} {T : Nat} : ∀ n, (∀ c, c < n → ¬ v c = some T) → hc v T n = 0 := by
  intro n
  induction n with
  | zero => intro _; rfl
  | succ n ih => intro h; rw [hc_s, ih (fun c hc => h c (by omega)), if_neg (h n (by omega))]
theorem f_or : ∀ S, S < 64 → ∀ T, T < 64 → ∀ k, k < 6 → ((! S.testBit k && decide (S ||| 2 ^ k = T)) = (T.testBit k && decide (S = T - 2 ^ k))) := by decide +kernel
theorem for_iff {S T k : Nat} (hS : S < 64) (hT : T < 64) (hk : k < 6) : (S.testBit k = false ∧ S ||| 2 ^ k = T) ↔ (T.testBit k = true ∧ S = T - 2 ^ k) := by
  have h := f_or S hS T hT k hk
  constructor
  · rintro ⟨a, b⟩
    rw [a, b] at h
    simpa using h.symm
  · rintro ⟨a, b⟩
    rw [a, decide_eq_true b] at h
    simpa using h
theorem cn_0 : ∀ T, T < 64 → cn T 12 = 0 → T = 0 := by decide +kernel
theorem hc_step {E : Nat → Nat → Bool} {p T : Nat} (hT : T < 64) : hc (fun c => vst E c (p + 1)) T (6 ^ (p + 1)) = sN (fun d => if (T.testBit d && E p d) = true then hc (fun c => vst E c p) (T - 2 ^ d) (6 ^ p) else 0) 6 := by
  have blk : ∀ d, d ≤ 6 → hc (fun c => vst E c (p + 1)) T (d * 6 ^ p) = sN (fun d => if (T.testBit d && E p d) = true then hc (fun c => vst E c p) (T - 2 ^ d) (6 ^ p) else 0) d := by
    intro d
    induction d with
    | zero => intro _; rw [Nat.zero_mul]; rfl
    | succ d ih =>
      intro hd
      rw [Nat.succ_mul, hc_add, ih (by omega), sN_s]
      congr 1
      have key : ∀ c, c < 6 ^ p → (vst E (d * 6 ^ p + c) (p + 1) = some T ↔ (E p d = true ∧ T.testBit d = true ∧ vst E c p = some (T - 2 ^ d))) := by
        intro c hc2
        have e1 : vst E (d * 6 ^ p + c) p = vst E c p := vst_congr p (fun j hj => dig_lo hj)
        cases q : vst E c p with
        | none =>
          rw [vst_n (e1.trans q)]
          constructor
          · intro z; cases z
          · rintro ⟨_, _, z⟩; cases z
        | some S =>
          have hS := vst_lt _ _ q
          rw [vst_s (e1.trans q), dig_hi hc2 (by omega)]
          have fo := for_iff hS hT (show d < 6 by omega)
          by_cases w : (E p d && ! S.testBit d) = true
          · rw [if_pos w]
            rw [Bool.and_eq_true, Bool.not_eq_true'] at w
            constructor
            · intro z
              have := fo.mp ⟨w.2, Option.some.inj z⟩
              exact ⟨w.1, this.1, by rw [this.2]⟩
            · rintro ⟨_, z1, z2⟩
              have := fo.mpr ⟨z1, Option.some.inj z2⟩
              rw [this.2]
          · rw [if_neg w]
            constructor
            · intro z; cases z
            · rintro ⟨z0, z1, z2⟩
              have := fo.mpr ⟨z1, Option.some.inj z2⟩
              exact absurd (by rw [Bool.and_eq_true, Bool.not_eq_true']; exact ⟨z0, this.1⟩) w
      by_cases w : (T.testBit d && E p d) = true
      · rw [if_pos w]
        rw [Bool.and_eq_true] at w
        apply hc_eq
        intro c hc2
        rw [key c hc2]
        exact ⟨fun z => z.2.2, fun z => ⟨w.2, w.1, z⟩⟩
      · rw [if_neg w]
        apply hc_no
        intro c hc2 z
        obtain ⟨z0, z1, -⟩ := (key c hc2).mp z
        exact w (by rw [z1, z0]; rfl)
  have := blk 6 (Nat.le_refl _)
  rw [Nat.pow_succ, Nat.mul_comm (6 ^ p) 6]
  exact this
/-- rows by sets -/
def V_w (E : Nat → Nat → Bool) (sg : Nat) (a : Nat → Nat) (T : Nat) : Nat := if T = 0 then 1 else sN (fun k => if (T.testBit k && (decide (cn T 12 ≤ sg) && E (cn T 12 - 1) k)) = true then a (T - 2 ^ k) else 0) 6
theorem V_w_loc {E : Nat → Nat → Bool} {sg : Nat} : loc_V (V_w E sg) := by
  intro a b S h
  unfold V_w
  by_cases q : S = 0
  · rw [if_pos q, if_pos q]
  · rw [if_neg q, if_neg q]
    apply sN_congr
    intro k _
    by_cases w : (S.testBit k && (decide (cn S 12 ≤ sg) && E (cn S 12 - 1) k)) = true
    · rw [if_pos w, if_pos w]
      rw [Bool.and_eq_true] at w
      exact h _ (bit_sub w.1)
    · rw [if_neg w, if_neg w]
def Ww (E : Nat → Nat → Bool) (sg : Nat) (T : Nat) : Nat := tb (V_w E sg) 64 T
theorem Ww_eq {E : Nat → Nat → Bool} {sg T : Nat} (hT : T < 64) : Ww E sg T = V_w E sg (Ww E sg) T := tb_fix V_w_loc hT
theorem hc_W {E : Nat → Nat → Bool} {sg : Nat} : ∀ p, p ≤ sg → ∀ T, T < 64 → hc (fun c => vst E c p) T (6 ^ p) = if cn T 12 = p then Ww E sg T else 0 := by
  intro p
  induction p with
  | zero =>
    intro _ T hT
    rw [Nat.pow_zero, hc_s]
    show 0 + (if (some 0 : Option Nat) = some T then 1 else 0) = _
    by_cases q : T = 0
    · subst q
      rw [if_pos rfl, if_pos (by decide), Ww_eq hT]
      unfold V_w
      rw [if_pos rfl]
    · rw [if_neg (fun z => q (Option.some.inj z).symm), if_neg (fun z => q (cn_0 T hT z))]
  | succ p ih =>
    intro hp T hT
    rw [hc_step hT]
    by_cases q : cn T 12 = p + 1
    · rw [if_pos q, Ww_eq hT]
      unfold V_w
      rw [if_neg (fun z => by rw [z] at q; revert q; show ¬ (cn 0 12 = p + 1); rw [show cn 0 12 = 0 by decide]; omega)]
      apply sN_congr
      intro d hd
      rw [q, Nat.add_sub_cancel, decide_eq_true hp, Bool.true_and]
      by_cases w : (T.testBit d && E p d) = true
      · rw [if_pos w, if_pos w]
        rw [Bool.and_eq_true] at w
        rw [ih (by omega) _ (Nat.lt_of_le_of_lt (Nat.sub_le _ _) hT), if_pos]
        have := cn_sub T hT d hd w.1
        omega
      · rw [if_neg w, if_neg w]
    · rw [if_neg q]
      apply sN_zero
      intro d hd
      by_cases w : (T.testBit d && E p d) = true
      · rw [if_pos w]
        rw [Bool.and_eq_true] at w
        rw [ih (by omega) _ (Nat.lt_of_le_of_lt (Nat.sub_le _ _) hT), if_neg]
        have := cn_sub T hT d hd w.1
        omega
      · rw [if_neg w]
theorem p6_le {p : Nat} (h : p ≤ 6) : 6 ^ p ≤ 46656 := Nat.pow_le_pow_right (n := 6) (by omega) h
theorem cn6 : ∀ T, T < 64 → cn T 12 ≤ 6 := by decide +kernel
theorem Ww_le {E : Nat → Nat → Bool} {sg T : Nat} (hT : T < 64) : Ww E sg T ≤ 46656 := by
  by_cases q : cn T 12 ≤ sg
  · have h := hc_W (E := E) (sg := sg) (cn T 12) q T hT
    rw [if_pos rfl] at h
    have := hc_le (v := fun c => vst E c (cn T 12)) (T := T) (6 ^ cn T 12)
    have := p6_le (cn6 T hT)
    omega
  · rw [Ww_eq hT]
    unfold V_w
    by_cases z : T = 0
    · rw [if_pos z]; omega
    · rw [if_neg z, sN_zero]
      · omega
      · intro k _
        rw [decide_eq_false q, Bool.false_and, Bool.and_false]
        exact if_neg (by simp)
/-- the sums, the bits -/
def nv (v : Nat → Option Nat) : Nat → Nat
  | 0 => 0
  | n + 1 => nv v n + (if v n = none then 0 else 1)
theorem nv_hc {v : Nat → Option Nat} (hv : ∀ c T, v c = some T → T < 64) : ∀ n, nv v n = sN (fun T => hc v T n) 64 := by
  intro n
  induction n with
  | zero => exact (sN_zero 64 (fun _ _ => rfl)).symm
  | succ n ih =>
    show nv v n + _ = sN (fun T => hc v T n + (if v n = some T then 1 else 0)) 64
    rw [sN_add, ih]
    congr 1
    cases q : v n with
    | none =>
      rw [if_pos rfl]
      exact (sN_zero 64 (fun k _ => if_neg (fun z => by cases z))).symm
    | some S =>
      rw [if_neg (fun z => by cases z)]
      have e := sN_ind (j := S) 64
      rw [if_pos (hv n S q)] at e
      refine e.symm.trans (sN_congr 64 ?_)
      intro k _
      by_cases z : k = S
      · rw [if_pos z, if_pos (by rw [z])]
      · rw [if_neg z, if_neg (fun y => z (Option.some.inj y).symm)]
def orC (v : Nat → Option Nat) : Nat → Nat
  | 0 => 0
  | n + 1 => match v n with
    | none => orC v n
    | some T => orC v n ||| T
def anC (v : Nat → Option Nat) : Nat → Nat
  | 0 => 63
  | n + 1 => match v n with
    | none => anC v n
    | some T => anC v n &&& T
def orP (P : Nat → Bool) : Nat → Nat
  | 0 => 0
  | n + 1 => if P n = true then orP P n ||| n else orP P n
def anP (P : Nat → Bool) : Nat → Nat
  | 0 => 63
  | n + 1 => if P n = true then anP P n &&& n else anP P n
theorem orC_n {v : Nat → Option Nat} {n : Nat} (h : v n = none) : orC v (n + 1) = orC v n := by
  show (match v n with
    | none => orC v n
    | some T => orC v n ||| T) = _
  rw [h]
theorem orC_s {v : Nat → Option Nat} {n T : Nat} (h : v n = some T) : orC v (n + 1) = orC v n ||| T := by
  show (match v n with
    | none => orC v n
    | some T => orC v n ||| T) = _
  rw [h]
theorem anC_n {v : Nat → Option Nat} {n : Nat} (h : v n = none) : anC v (n + 1) = anC v n := by
  show (match v n with
    | none => anC v n
    | some T => anC v n &&& T) = _
  rw [h]
theorem anC_s {v : Nat → Option Nat} {n T : Nat} (h : v n = some T) : anC v (n + 1) = anC v n &&& T := by
  show (match v n with
    | none => anC v n
    | some T => anC v n &&& T) = _
  rw [h]
theorem orC_bit {v : Nat → Option Nat} {k : Nat} : ∀ n, (orC v n).testBit k = true ↔ ∃ c T, c < n ∧ v c = some T ∧ T.testBit k = true := by
  intro n
  induction n with
  | zero =>
    show (0 : Nat).testBit k = true ↔ _
    simp
  | succ n ih =>
    cases q : v n with
    | none =>
      rw [orC_n q, ih]
      constructor
      · rintro ⟨c, T, h1, h2⟩; exact ⟨c, T, by omega, h2⟩
      · rintro ⟨c, T, h1, h2, h3⟩
        have : c ≠ n := fun z => by rw [z, q] at h2; cases h2
        exact ⟨c, T, by omega, h2, h3⟩
    | some S =>
      rw [orC_s q, Nat.testBit_or, Bool.or_eq_true, ih]
      constructor
      · rintro (⟨c, T, h1, h2⟩ | h)
        · exact ⟨c, T, by omega, h2⟩
        · exact ⟨n, S, by omega, q, h⟩
      · rintro ⟨c, T, h1, h2, h3⟩
        by_cases z : c = n
        · right
          rw [z, q] at h2
          rw [Option.some.inj h2]; exact h3
        · left; exact ⟨c, T, by omega, h2, h3⟩
theorem anC_bit {v : Nat → Option Nat} {k : Nat} : ∀ n, (anC v n).testBit k = true ↔ (63 : Nat).testBit k = true ∧ ∀ c T, c < n → v c = some T → T.testBit k = true := by
  intro n
  induction n with
  | zero => exact ⟨fun h => ⟨h, fun c T hc => absurd hc (by omega)⟩, fun h => h.1⟩
  | succ n ih =>
    cases q : v n with
    | none =>
      rw [anC_n q, ih]
      constructor
      · rintro ⟨h0, h⟩
        refine ⟨h0, fun c T h1 h2 => ?_⟩
        have : c ≠ n := fun z => by rw [z, q] at h2; cases h2
        exact h c T (by omega) h2
      · rintro ⟨h0, h⟩; exact ⟨h0, fun c T h1 h2 => h c T (by omega) h2⟩
    | some S =>
      rw [anC_s q, Nat.testBit_and, Bool.and_eq_true, ih]
      constructor
      · rintro ⟨⟨h0, h⟩, hS⟩
        refine ⟨h0, fun c T h1 h2 => ?_⟩
        by_cases z : c = n
        · rw [z, q] at h2
          rw [← Option.some.inj h2]; exact hS
        · exact h c T (by omega) h2
      · rintro ⟨h0, h⟩
        exact ⟨⟨h0, fun c T h1 h2 => h c T (by omega) h2⟩, h n S (by omega) q⟩
theorem orP_bit {P : Nat → Bool} {k : Nat} : ∀ n, (orP P n).testBit k = true ↔ ∃ T, T < n ∧ P T = true ∧ T.testBit k = true := by
  intro n
  induction n with
  | zero =>
    show (0 : Nat).testBit k = true ↔ _
    simp
  | succ n ih =>
    show (if P n = true then orP P n ||| n else orP P n).testBit k = true ↔ _
    by_cases q : P n = true
    · rw [if_pos q, Nat.testBit_or, Bool.or_eq_true, ih]
      constructor
      · rintro (⟨T, h1, h2⟩ | h)
        · exact ⟨T, by omega, h2⟩
        · exact ⟨n, by omega, q, h⟩
      · rintro ⟨T, h1, h2, h3⟩
        by_cases z : T = n
        · right; rw [← z]; exact h3
        · left; exact ⟨T, by omega, h2, h3⟩
    · rw [if_neg q, ih]
      constructor
      · rintro ⟨T, h1, h2⟩; exact ⟨T, by omega, h2⟩
      · rintro ⟨T, h1, h2, h3⟩
        have : T ≠ n := fun z => q (z ▸ h2)
        exact ⟨T, by omega, h2, h3⟩
theorem anP_bit {P : Nat → Bool} {k : Nat} : ∀ n, (anP P n).testBit k = true ↔ (63 : Nat).testBit k = true ∧ ∀ T, T < n → P T = true → T.testBit k = true := by
  intro n
  induction n with
  | zero => exact ⟨fun h => ⟨h, fun T hT => absurd hT (by omega)⟩, fun h => h.1⟩
  | succ n ih =>
    show (if P n = true then anP P n &&& n else anP P n).testBit k = true ↔ _
    by_cases q : P n = true
    · rw [if_pos q, Nat.testBit_and, Bool.and_eq_true, ih]
      constructor
      · rintro ⟨⟨h0, h⟩, hS⟩
        refine ⟨h0, fun T h1 h2 => ?_⟩
        by_cases z : T = n
        · rw [z]; exact hS
        · exact h T (by omega) h2
      · rintro ⟨h0, h⟩
        exact ⟨⟨h0, fun T h1 h2 => h T (by omega) h2⟩, h n (by omega) q⟩
    · rw [if_neg q, ih]
      constructor
      · rintro ⟨h0, h⟩
        refine ⟨h0, fun T h1 h2 => ?_⟩
        have : T ≠ n := fun z => q (z ▸ h2)
        exact h T (by omega) h2
      · rintro ⟨h0, h⟩; exact ⟨h0, fun T h1 h2 => h T (by omega) h2⟩
def P_w (E : Nat → Nat → Bool) (sg T : Nat) : Bool := decide (0 < Ww E sg T) && decide (cn T 12 = sg)
/-- what both come to -/
theorem who_eq {E : Nat → Nat → Bool} {sg : Nat} : nv (fun c => vst E c sg) (6 ^ sg) = sN (fun T => if P_w E sg T = true then Ww E sg T else 0) 64 ∧ orC (fun c => vst E c sg) (6 ^ sg) = orP (P_w E sg) 64 ∧ (if nv (fun c => vst E c sg) (6 ^ sg) = 0 then 0 else anC (fun c => vst E c sg) (6 ^ sg)) = anP (P_w E sg) 64 &&& orP (P_w E sg) 64 := by
  have hv : ∀ c T, vst E c sg = some T → T < 64 := fun c T h => vst_lt _ _ h
  have hP : ∀ T, T < 64 → (P_w E sg T = true ↔ ∃ c, c < 6 ^ sg ∧ vst E c sg = some T) := by
    intro T hT
    have h := hc_W (E := E) (sg := sg) sg (Nat.le_refl _) T hT
    have hp := hc_pos (v := fun c => vst E c sg) (T := T) (6 ^ sg)
    rw [← hp, h]
    unfold P_w
    rw [Bool.and_eq_true, decide_eq_true_eq, decide_eq_true_eq]
    by_cases q : cn T 12 = sg
    · rw [if_pos q]; exact ⟨fun z => z.1, fun z => ⟨z, q⟩⟩
    · rw [if_neg q]; exact ⟨fun z => absurd z.2 q, fun z => absurd z (by omega)⟩
  have e1 : nv (fun c => vst E c sg) (6 ^ sg) = sN (fun T => if P_w E sg T = true then Ww E sg T else 0) 64 := by
    rw [nv_hc hv]
    apply sN_congr
    intro T hT
    rw [hc_W sg (Nat.le_refl _) T hT]
    unfold P_w
    by_cases q : cn T 12 = sg
    · rw [if_pos q, decide_eq_true q, Bool.and_true]
      by_cases z : 0 < Ww E sg T
      · rw [if_pos (decide_eq_true z)]
      · rw [if_neg (fun y => z (of_decide_eq_true y))]; omega
    · rw [if_neg q, decide_eq_false q, Bool.and_false]
      exact (if_neg (by simp)).symm
  have e2 : orC (fun c => vst E c sg) (6 ^ sg) = orP (P_w E sg) 64 := by
    apply Nat.eq_of_testBit_eq
    intro k
    rw [Bool.eq_iff_iff, orC_bit, orP_bit]
    constructor
    · rintro ⟨c, T, h1, h2, h3⟩
      exact ⟨T, hv c T h2, (hP T (hv c T h2)).mpr ⟨c, h1, h2⟩, h3⟩
    · rintro ⟨T, h1, h2, h3⟩
      obtain ⟨c, g1, g2⟩ := (hP T h1).mp h2
      exact ⟨c, T, g1, g2, h3⟩
  refine ⟨e1, e2, ?_⟩
  have e3 : anC (fun c => vst E c sg) (6 ^ sg) = anP (P_w E sg) 64 := by
    apply Nat.eq_of_testBit_eq
    intro k
    rw [Bool.eq_iff_iff, anC_bit, anP_bit]
    constructor
    · rintro ⟨h0, h⟩
      refine ⟨h0, fun T h1 h2 => ?_⟩
      obtain ⟨c, g1, g2⟩ := (hP T h1).mp h2
      exact h c T g1 g2
    · rintro ⟨h0, h⟩
      exact ⟨h0, fun c T h1 h2 => h T (hv c T h2) ((hP T (hv c T h2)).mpr ⟨c, h1, h2⟩)⟩
  have hn : nv (fun c => vst E c sg) (6 ^ sg) = 0 ↔ ¬ ∃ T, T < 64 ∧ P_w E sg T = true := by
    rw [e1]
    constructor
    · rintro h ⟨T, h1, h2⟩
      have hle : (fun k => if k = T then 1 else 0) T ≤ Ww E sg T := by
        unfold P_w at h2
        rw [Bool.and_eq_true, decide_eq_true_eq] at h2
        dsimp only
        rw [if_pos rfl]; exact h2.1
      have : sN (fun k => if k = T then 1 else 0) 64 ≤ sN (fun T => if P_w E sg T = true then Ww E sg T else 0) 64 := by
        apply sN_le
        intro k _
        by_cases z : k = T
        · rw [if_pos z, z, if_pos h2]
          have : (fun k => if k = T then 1 else 0) T = 1 := if_pos rfl
          omega
        · rw [if_neg z]; exact Nat.zero_le _
      rw [sN_ind, if_pos h1, h] at this
      omega
    · intro h
      apply sN_zero
      intro T hT
      exact if_neg (fun z => h ⟨T, hT, z⟩)
  rw [e3]
  by_cases z : nv (fun c => vst E c sg) (6 ^ sg) = 0
  · rw [if_pos z]
    have hno := hn.mp z
    apply Nat.eq_of_testBit_eq
    intro k
    rw [Nat.testBit_and]
    have : (orP (P_w E sg) 64).testBit k = false := by
      rw [← Bool.not_eq_true]
      intro y
      obtain ⟨T, h1, h2, -⟩ := (orP_bit 64).mp y
      exact hno ⟨T, h1, h2⟩
    rw [this, Bool.and_false, Nat.zero_testBit]
  · rw [if_neg z]
    have hex : ∃ T, T < 64 ∧ P_w E sg T = true := Classical.not_not.mp (fun y => z (hn.mpr y))
    obtain ⟨T, h1, h2⟩ := hex
    apply Nat.eq_of_testBit_eq
    intro k
    rw [Nat.testBit_and]
    cases q : (anP (P_w E sg) 64).testBit k with
    | false => rfl
    | true =>
      have := ((anP_bit 64).mp q).2 T h1 h2
      rw [(orP_bit 64).mpr ⟨T, h1, h2, this⟩]; rfl

/-! rounds, by the reference -/
theorem sub_iff {S T : Nat} (hS : S < 2 ^ 12) : (nI S &&& (nI T ^^^ (-1 : Int32))) = 0 ↔ ∀ m, m < 12 → S.testBit m = true → T.testBit m = true := by
  have h1 : (-1 : Int32).toBitVec = BitVec.allOnes 32 := by decide +kernel
  have h0 : (0 : Int32).toBitVec = 0#32 := by decide +kernel
  rw [← Int32.toBitVec_inj, Int32.toBitVec_and, Int32.toBitVec_xor, h1, h0]
  show (BitVec.ofNat 32 S &&& (BitVec.ofNat 32 T ^^^ BitVec.allOnes 32)) = 0#32 ↔ _
  have hb : ∀ i, i < 32 → (BitVec.ofNat 32 S &&& (BitVec.ofNat 32 T ^^^ BitVec.allOnes 32)).getLsbD i = (S.testBit i && ! T.testBit i) := by
    intro i hi
    rw [BitVec.getLsbD_and, BitVec.getLsbD_xor, BitVec.getLsbD_ofNat, BitVec.getLsbD_ofNat, BitVec.getLsbD_allOnes, decide_eq_true hi, Bool.true_and, Bool.true_and, Bool.xor_true]
  constructor
  · intro h m hm hs
    have e := hb m (by omega)
    rw [h, BitVec.getLsbD_zero, hs, Bool.true_and] at e
    cases q : T.testBit m with
    | true => rfl
    | false => rw [q] at e; cases e
  · intro h
    apply BitVec.eq_of_getLsbD_eq
    intro i hi
    rw [hb i hi, BitVec.getLsbD_zero]
    by_cases q : i < 12
    · cases z : S.testBit i with
      | false => rfl
      | true => rw [h i q z]; rfl
    · rw [Nat.testBit_lt_two_pow (Nat.lt_of_lt_of_le hS (Nat.pow_le_pow_right (by omega) (by omega)))]; rfl
theorem t_clr12a : ∀ i, i < 12 → ∀ a, a < 64 → ∀ b, b < 64 → (64 * a + b).testBit i = true → nI (64 * a + b) &&& (((1 : Int32) <<< (nI i &&& 31)) ^^^ (-1 : Int32)) = nI (64 * a + b - 2 ^ i) := by decide +kernel
theorem t_clr12 (i : Nat) (hi : i < 12) (L : Nat) (hL : L < 4096) (h : L.testBit i = true) : nI L &&& (((1 : Int32) <<< (nI i &&& 31)) ^^^ (-1 : Int32)) = nI (L - 2 ^ i) := by
  have e : 64 * (L / 64) + L % 64 = L := by omega
  have := t_clr12a i hi (L / 64) (by omega) (L % 64) (by omega)
  rw [e] at this
  exact this h
theorem b_shl13 : ∀ k, k < 13 → (1 : Int32) <<< (nI k &&& 31) = nI (2 ^ k) := by decide +kernel
/-- the bits from i on -/
def hb (S i : Nat) : Nat := S / 2 ^ i * 2 ^ i
theorem hb_bit {S i m : Nat} : (hb S i).testBit m = (decide (i ≤ m) && S.testBit m) := by
  unfold hb
  rw [Nat.testBit_mul_two_pow, Nat.testBit_div_two_pow]
  by_cases h : i ≤ m
  · rw [decide_eq_true h, show m - i + i = m by omega]
  · rw [decide_eq_false h, Bool.false_and, Bool.false_and]
theorem hb_le {S i : Nat} : hb S i ≤ S := Nat.div_mul_le_self _ _
theorem hb_s {S i : Nat} : hb S i = hb S (i + 1) + if S.testBit i = true then 2 ^ i else 0 := by
  unfold hb
  have e1 : S / 2 ^ (i + 1) = S / 2 ^ i / 2 := by rw [Nat.pow_succ, Nat.div_div_eq_div_mul]
  rw [e1, Nat.testBit_eq_decide_div_mod_eq, Nat.pow_succ]
  generalize S / 2 ^ i = q
  have e2 : q = q / 2 * 2 + q % 2 := by omega
  have h2 : q % 2 < 2 := Nat.mod_lt _ (by omega)
  by_cases z : q % 2 = 1
  · rw [if_pos (decide_eq_true z)]
    rw [z] at e2
    have : q * 2 ^ i = (q / 2 * 2 + 1) * 2 ^ i := by rw [← e2]
    rw [this, Nat.add_mul, Nat.one_mul, Nat.mul_comm (2 ^ i) 2, Nat.mul_assoc]
  · rw [if_neg (fun y => z (of_decide_eq_true y))]
    have z0 : q % 2 = 0 := by omega
    rw [z0] at e2
    have : q * 2 ^ i = (q / 2 * 2 + 0) * 2 ^ i := by rw [← e2]
    rw [this, Nat.add_zero, Nat.add_zero, Nat.mul_comm (2 ^ i) 2, Nat.mul_assoc]
theorem hb_0 {S : Nat} : hb S 0 = S := by
  unfold hb
  rw [Nat.pow_zero, Nat.div_one, Nat.mul_one]
theorem e_hasT {M : Me} {r i : Nat} (hr : r < 2 ^ 31) (hi : i < 12) : f_X12_has (nI r) (nI i) M = some (if r.testBit i = true then 1 else 0) := by
  rw [e_hasR hr hi, Nat.testBit_eq_decide_div_mod_eq]
  by_cases q : r / 2 ^ i % 2 = 1
  · rw [if_pos q, if_pos (decide_eq_true q)]
  · rw [if_neg q, if_neg (fun z => q (of_decide_eq_true z))]
def chP (X : Cx) (w : Wd) (k : Nat) : Option Nat → Nat
  | none => w.2.2.1 k 5
  | some q => X.2.2.2.2.1 (jrow w q).2.1
def frP (w : Wd) (k : Nat) : Option Nat → Nat
  | none => w.2.1 + w.2.2.1 k 6
  | some q => (jrow w q).2.2.2
theorem jrc_dj {X : Cx} {w : Wd} {k i : Nat} {p : Option Nat} : jrc (jA X w k) (jB X w k) p i = mt X w k (dj X.2.2.2.2.2 X.2.1 X.2.2.1 (chP X w k p) (frP w k p)) i := by
  cases p <;> rfl
section RM
variable {X : Cx} {w : Wd} {M : Me} {k : Nat}
theorem e_next {L i : Nat} (hX : XV X) (hW : WV X w) (hL : Lay M) (hST : ST X w (st_m M)) (hi : i < w.1.length) (hL31 : L < 4096) (hlo : ∀ m, m < i → L.testBit m = false) (hbi : L.testBit i = true) : lp (fun s : Int32 × Int32 => s_X12_canMeet_35 70 M (nI L) s.1 s.2) (-6, 0) = some (nI i, nI w.1.length) := by
  have h12 := hW.1
  have h13 : me_i M 70 13 = nI w.1.length := hST.1.2.2.2.2
  have hlp := lp_up (step := fun s : Int32 × Int32 => s_X12_canMeet_35 70 M (nI L) s.1 s.2) (fun m => ((if m ≤ i then (-6 : Int32) else nI i), nI m)) w.1.length (nI i, nI w.1.length) ?_ ?_ 0 (by omega)
  · rw [show ((-6 : Int32), (0 : Int32)) = ((if 0 ≤ i then (-6 : Int32) else nI i), nI 0) by rw [nI_0, if_pos (Nat.zero_le _)], hlp]
  · intro m hm
    show s_X12_canMeet_35 70 M (nI L) (if m ≤ i then (-6 : Int32) else nI i) (nI m) = some (Sum.inl ((if m + 1 ≤ i then (-6 : Int32) else nI i), nI (m + 1)))
    unfold s_X12_canMeet_35
    simp only [let_v]
    rw [m_gi hL, h13, if_neg (nI_ge hm (by omega)), cP_e (e_hasT (by omega) (by omega)), nI_1]
    by_cases q1 : m < i
    · rw [hlo m q1, if_neg (show ¬ false = true by simp), if_pos rfl, if_pos (show m ≤ i by omega), if_pos (show m + 1 ≤ i by omega)]; rfl
    · rw [if_neg (show ¬ m + 1 ≤ i by omega)]
      by_cases q2 : m = i
      · subst q2
        rw [hbi, if_pos rfl, if_neg (by decide), if_pos (Nat.le_refl _), if_pos (by decide)]; rfl
      · rw [if_neg (show ¬ m ≤ i by omega)]
        by_cases q3 : L.testBit m = true
        · have hgm : w.1[m]? = some w.1[m] := List.getElem?_eq_getElem hm
          have hgi : w.1[i]? = some w.1[i] := List.getElem?_eq_getElem hi
          obtain ⟨-, -, -, a3⟩ := hST.2.2.2 m _ hgm
          obtain ⟨-, -, -, b3⟩ := hST.2.2.2 i _ hgi
          have rm := hW.rb hX _ (List.getElem_mem hm)
          have ri := hW.rb hX _ (List.getElem_mem hi)
          have srt := List.pairwise_iff_getElem.mp hW.2.2.2.2 i m hi hm (by omega)
          have ix : ∀ n : Nat, (4 : Int32) * nI n + 3 = nI (4 * n + 3) := fun n => by rw [c_4, pk_mul, c_3, nI_add]
          obtain ⟨-, -, -, rm3⟩ := rm
          obtain ⟨-, -, -, ri3⟩ := ri
          rw [if_pos q3, if_neg (by decide), if_neg (nI_pos (by omega)), ix, ix, m_gr14 hL, m_li79 hL (by omega), show me_i M 79 (4 * m + 3) = _ from a3, m_gr14 hL, m_li79 hL (by omega), show me_i M 79 (4 * i + 3) = _ from b3, if_pos (nI_le srt (by omega))]; rfl
        · rw [if_neg q3, if_pos rfl]; rfl
  · show s_X12_canMeet_35 70 M (nI L) (if w.1.length ≤ i then (-6 : Int32) else nI i) (nI w.1.length) = _
    unfold s_X12_canMeet_35
    rw [m_gi hL, h13, if_pos (nI_le (Nat.le_refl _) (by omega)), if_neg (by omega)]
theorem e_cm {S : Nat} (hX : XV X) (hW : WV X w) (hL : Lay M) (hST : ST X w (st_m M)) (hk : k < 6) (ht : X.1.testBit k = true) (hS : S < 4096) (hQ : ∀ m, S.testBit m = true → jQ X w k m = true) : ∀ d i p g, i + d = 12 → jsc (jA X w k) (jB X w k) S i = some p → (∀ q, p = some q → q < w.1.length) → (∀ a z, a ≠ 86 → g a z = me_i M a z) → ∃ g', ex_r (lp (fun s : Me × Int32 × Int32 × Int32 => s_X12_canMeet_23 70 s.1 s.2.1 s.2.2.1 s.2.2.2) (me_w M g, nI (chP X w k p), nI (frP w k p), nI (hb S i))) (fun e => some ((1 : Int32), e.1)) (fun t => some t) = some ((if (jsc (jA X w k) (jB X w k) S 12).isSome = true then 1 else 0), me_w M g') ∧ ∀ a z, a ≠ 86 → g' a z = me_i M a z := by
  have h12 := hW.1
  have ei := INF_e
  intro d
  induction d with
  | zero =>
    intro i p g hi hp hq g1
    have e12 : i = 12 := by omega
    subst e12
    have z : hb S 12 = 0 := by
      unfold hb
      rw [Nat.div_eq_of_lt (show S < 2 ^ 12 from hS), Nat.zero_mul]
    refine ⟨g, ?_, g1⟩
    rw [hp, z, lp_eq]
    show ex_r ((s_X12_canMeet_23 70 (me_w M g) _ _ (nI 0)).bind _) _ _ = _
    unfold s_X12_canMeet_23
    rw [if_pos nI_0]; rfl
  | succ d ih =>
    intro i p g hi hp hq g1
    by_cases hbit : S.testBit i = true
    · -- the debt i is next
      have hQi := hQ i hbit
      have hin := jQ_lt hQi
      have hg : w.1[i]? = some w.1[i] := List.getElem?_eq_getElem hin
      have er : jrow w i = w.1[i] := by unfold jrow; rw [hg]; rfl
      have hrk : w.1[i].1 = k := by
        have : jQ X w k i = decide (w.1[i].1 = k ∧ 0 ≤ w.1[i].2.2.2) := mt_s hg
        rw [this] at hQi
        exact (of_decide_eq_true hQi).1
      have hm := List.getElem_mem hin
      obtain ⟨b0, b1, -, b3⟩ := hW.rb hX _ hm
      obtain ⟨u1, u2, u3, u4, u5, u6, u7, u8, u9⟩ := hW.2.2.2.1 _ hm
      have xo := (hX.2.2.2.1 _ u2 u5).2.2
      have xc := hX.2.2.1
      have xy := hX.2.1
      have wD := hW.2.1
      have hLg : Lay (me_w M g) := hL
      have hSTg : ST X w (st_m (me_w M g)) := hST.same (fun a z q1 q2 => g1 a z (by omega))
      have hpos : chP X w k p < X.2.2.1 ∧ frP w k p ≤ 5000000 := by
        cases p with
        | none =>
          have := hW.2.2.1 k hk ht
          exact ⟨this.2.1, by show w.2.1 + w.2.2.1 k 6 ≤ _; omega⟩
        | some q =>
          have hqn := hq q rfl
          obtain ⟨v1, v2, v3, v4, v5, v6, v7, v8, v9⟩ := hW.2.2.2.1 _ (jrow_mem hqn)
          exact ⟨(hX.2.2.2.1 _ v2 v5).2.2, by show (jrow w q).2.2.2 ≤ _; omega⟩
      obtain ⟨u, m1, m2, m3⟩ := e_layJ (hSTg.lm hX hLg) hpos.1 hpos.2
      rw [w_w] at m1
      simp only [i_w] at m2
      have bdF := dj_bd (R := X.2.2.2.2.2) (y := X.2.1) (c := X.2.2.1) (st := chP X w k p) (s := frP w k p) hX.2.2.2.2 xc.2 hpos.2
      have bF := bdF (X.2.2.2.2.1 w.1[i].2.1)
      have u1' : ∀ a z, a ≠ 86 → u a z = me_i M a z := fun a z q => (m2 a z q).trans (g1 a z q)
      have hLu : Lay (me_w M u) := hL
      have hSTu : ST X w (st_m (me_w M u)) := hST.same (fun a z q1 q2 => u1' a z (by omega))
      obtain ⟨r0, r1, r2, r3⟩ := hSTu.2.2.2 i _ hg
      have own := (hSTu.2.2.1 _ u2 u5).2.1
      have hl := hb_le (S := S) (i := i)
      have hbi : (hb S i).testBit i = true := by rw [hb_bit, decide_eq_true (Nat.le_refl _), hbit]; rfl
      have hlo : ∀ m, m < i → (hb S i).testBit m = false := fun m hm => by rw [hb_bit, decide_eq_false (by omega), Bool.false_and]
      have hne : ¬ hb S i = 0 := fun z => by rw [z] at hbi; simp at hbi
      have hnx := e_next hX hW hLg hSTg hin (by omega) hlo hbi
      have hsub : hb S i - 2 ^ i = hb S (i + 1) := by
        have := hb_s (S := S) (i := i)
        rw [if_pos hbit] at this
        omega
      have ix4 : (4 : Int32) * nI i = nI (4 * i) := by rw [c_4, pk_mul]
      have nx3 : nI (4 * i) + 3 = nI (4 * i + 3) := by rw [c_3, nI_add]
      have ejr : jrc (jA X w k) (jB X w k) p i = decide (w.1[i].1 = k ∧ dj X.2.2.2.2.2 X.2.1 X.2.2.1 (chP X w k p) (frP w k p) (X.2.2.2.2.1 w.1[i].2.1) ≤ w.1[i].2.2.2) := by rw [jrc_dj, mt_s hg]
      have step : s_X12_canMeet_23 70 (me_w M g) (nI (chP X w k p)) (nI (frP w k p)) (nI (hb S i)) = if dj X.2.2.2.2.2 X.2.1 X.2.2.1 (chP X w k p) (frP w k p) (X.2.2.2.2.1 w.1[i].2.1) ≤ w.1[i].2.2.2 then some (Sum.inl (me_w M u, nI (X.2.2.2.2.1 w.1[i].2.1), nI w.1[i].2.2.2, nI (hb S (i + 1)))) else some (Sum.inr (Sum.inr ((0 : Int32), me_w M u))) := by
        unfold s_X12_canMeet_23
        simp only [let_v]
        rw [if_neg (nI_ne0 (by omega) (by omega)), hnx]
        simp only [Option.bind_some]
        rw [cM_e m1, ix4, nI_1, nx3, m_gr5 hLu, m_gr14 hLu, m_li79 hLu (by omega), show me_i (me_w M u) 79 (4 * i + 1) = _ from r1, m_li73 hLu b1, show me_i (me_w M u) 73 w.1[i].2.1 = _ from own, m_gr14 hLu, m_li79 hLu (by omega), show me_i (me_w M u) 79 (4 * i + 3) = _ from r3, m_gr26 hLu, m_li86 hLu (by omega), i_w, m3 _ (by omega), i_le (by omega) (by omega), t_clr12 i (by omega) _ (by omega) hbi, hsub]
        by_cases q : dj X.2.2.2.2.2 X.2.1 X.2.2.1 (chP X w k p) (frP w k p) (X.2.2.2.2.1 w.1[i].2.1) ≤ w.1[i].2.2.2
        · rw [if_pos (by omega), if_pos q]
        · rw [if_neg (by omega), if_neg q]
      by_cases q : dj X.2.2.2.2.2 X.2.1 X.2.2.1 (chP X w k p) (frP w k p) (X.2.2.2.2.1 w.1[i].2.1) ≤ w.1[i].2.2.2
      · rw [if_pos q] at step
        have hp2 : jsc (jA X w k) (jB X w k) S (i + 1) = some (some i) := by rw [jsc_s hp, if_pos hbit, if_pos (by rw [ejr]; exact decide_eq_true ⟨hrk, q⟩)]
        obtain ⟨g', b1', b2'⟩ := ih (i + 1) (some i) u (by omega) hp2 (fun q hq2 => by rw [← Option.some.inj hq2]; exact hin) u1'
        refine ⟨g', ?_, b2'⟩
        rw [lp_eq]
        show ex_r ((s_X12_canMeet_23 70 (me_w M g) (nI (chP X w k p)) (nI (frP w k p)) (nI (hb S i))).bind _) _ _ = _
        rw [step]
        have e1 : chP X w k (some i) = X.2.2.2.2.1 w.1[i].2.1 := by show X.2.2.2.2.1 (jrow w i).2.1 = _; rw [er]
        have e2 : frP w k (some i) = w.1[i].2.2.2 := by show (jrow w i).2.2.2 = _; rw [er]
        rw [e1, e2] at b1'
        exact b1'
      · rw [if_neg q] at step
        have hp2 : jsc (jA X w k) (jB X w k) S (i + 1) = none := by rw [jsc_s hp, if_pos hbit, if_neg (fun z => q (of_decide_eq_true (ejr ▸ z)).2)]
        have hp3 := jsc_none hp2 d
        rw [show i + 1 + d = 12 by omega] at hp3
        refine ⟨u, ?_, u1'⟩
        rw [lp_eq]
        show ex_r ((s_X12_canMeet_23 70 (me_w M g) (nI (chP X w k p)) (nI (frP w k p)) (nI (hb S i))).bind _) _ _ = _
        rw [step, hp3]; rfl
    · have e := hb_s (S := S) (i := i)
      rw [if_neg hbit, Nat.add_zero] at e
      have hp2 : jsc (jA X w k) (jB X w k) S (i + 1) = some p := by rw [jsc_0 (Bool.eq_false_iff.mpr hbit)]; exact hp
      rw [e]
      exact ih (i + 1) p g (by omega) hp2 hq g1
theorem e_canMeet {S : Nat} {g : St} (hX : XV X) (hW : WV X w) (hL : Lay M) (hST : ST X w (st_m M)) (hk : k < 6) (ht : X.1.testBit k = true) (hS : S < 4096) (hQ : ∀ m, S.testBit m = true → jQ X w k m = true) (g1 : ∀ a z, a ≠ 86 → g a z = me_i M a z) : ∃ g', f_X12_canMeet 70 (nI k) (nI S) (me_w M g) = some ((if (jsc (jA X w k) (jB X w k) S 12).isSome = true then 1 else 0), me_w M g') ∧ ∀ a z, a ≠ 86 → g' a z = me_i M a z := by
  obtain ⟨g', b1, b2⟩ := e_cm hX hW hL hST hk ht hS hQ 12 0 none g (by omega) rfl (fun q hq => by cases hq) g1
  refine ⟨g', ?_, b2⟩
  have hLg : Lay (me_w M g) := hL
  have hSTg : ST X w (st_m (me_w M g)) := hST.same (fun a z q1 q2 => g1 a z (by omega))
  obtain ⟨k1, k2, k3, k4, k5, k6⟩ := hSTg.2.2.1 k hk ht
  rw [hb_0] at b1
  unfold f_X12_canMeet b_X12_canMeet
  simp only [let_v]
  rw [m_ck hLg, m_gr9 hLg, m_li75 hLg hk, m_gi hLg, m_gr10 hLg, m_li76 hLg hk, show me_i (me_w M g) 75 k = _ from k3, show me_i (me_w M g) 76 k = _ from k4, show me_i (me_w M g) 70 8 = _ from hSTg.1.2.2.2.1, nI_add]
  exact b1
theorem e_all (hX : XV X) (hW : WV X w) (hL : Lay M) (hST : ST X w (st_m M)) (hk : k < 6) : lp (fun s : Int32 × Int32 => s_X12_round_27 70 (nI k) M s.1 s.2) (0, 0) = some (nI (ab (jQ X w k) 12), nI w.1.length) := by
  have h12 := hW.1
  have h13 : me_i M 70 13 = nI w.1.length := hST.1.2.2.2.2
  have e := ab_more (P := jQ X w k) (n := w.1.length) (fun i hi => mt_n hi) (12 - w.1.length)
  rw [show w.1.length + (12 - w.1.length) = 12 by omega] at e
  have h := lp_up (step := fun s : Int32 × Int32 => s_X12_round_27 70 (nI k) M s.1 s.2) (fun i => (nI (ab (jQ X w k) i), nI i)) w.1.length (nI (ab (jQ X w k) w.1.length), nI w.1.length) ?_ ?_ 0 (by omega)
  · rw [show ((0 : Int32), (0 : Int32)) = (nI (ab (jQ X w k) 0), nI 0) by rw [nI_0]; rfl, h, e]
  · intro i hi
    have hg : w.1[i]? = some w.1[i] := List.getElem?_eq_getElem hi
    obtain ⟨r0, -, -, -⟩ := hST.2.2.2 i _ hg
    obtain ⟨b0, -, -, -⟩ := hW.rb hX _ (List.getElem_mem hi)
    have eq : jQ X w k i = decide (w.1[i].1 = k ∧ 0 ≤ w.1[i].2.2.2) := mt_s hg
    have ix4 : (4 : Int32) * nI i = nI (4 * i) := by rw [c_4, pk_mul]
    show s_X12_round_27 70 (nI k) M (nI (ab (jQ X w k) i)) (nI i) = some (Sum.inl (nI (ab (jQ X w k) (i + 1)), nI (i + 1)))
    rw [ab_s]
    unfold s_X12_round_27
    simp only [let_v]
    rw [m_gi hL, h13, if_neg (nI_ge hi (by omega)), ix4, m_gr14 hL, m_li79 hL (by omega), show me_i M 79 (4 * i) = _ from r0, i_eq (by omega) (by omega), b_shl12 i (by omega), nI_1]
    by_cases q : w.1[i].1 = k
    · rw [if_pos q, if_pos (by rw [eq]; exact decide_eq_true ⟨q, Nat.zero_le _⟩)]
      simp only [Option.bind_some]
      rw [n_or]
    · rw [if_neg q, if_neg (fun z => q (of_decide_eq_true (eq ▸ z)).1)]
      simp only [Option.bind_some]
      rw [← nI_0, n_or]
  · show s_X12_round_27 70 (nI k) M _ (nI w.1.length) = _
    unfold s_X12_round_27
    rw [m_gi hL, h13, if_pos (nI_le (Nat.le_refl _) (by omega))]
theorem cn12_le (S : Nat) : cn S 12 ≤ 12 := cn_le S 12
theorem jmr_le {A : Nat → Bool} {B : Nat → Nat → Bool} : ∀ N, jmr A B N ≤ 12 := by
  intro N
  induction N with
  | zero => exact Nat.zero_le _
  | succ N ih =>
    have := cn12_le N
    rw [jmr_s]
    split <;> omega
theorem e_sets {e : Int32 × Int32} (hX : XV X) (hW : WV X w) (hL : Lay M) (hST : ST X w (st_m M)) (hk : k < 6) (ht : X.1.testBit k = true) (he : e.1 = nI (ab (jQ X w k) 12)) : ∃ g z, lp (fun s : Me × Int32 × Int32 => s_X12_round_96 70 (nI k) e s.1 s.2.1 s.2.2) (M, 0, 0) = some (me_w M g, nI (jmr (jA X w k) (jB X w k) (2 ^ w.1.length)), z) ∧ ∀ a z, a ≠ 86 → g a z = me_i M a z := by
  have h12 := hW.1
  have hp : 2 ^ w.1.length ≤ 2 ^ 12 := Nat.pow_le_pow_right (by omega) h12
  have hlp := lp_cnt (step := fun s : Me × Int32 × Int32 => s_X12_round_96 70 (nI k) e s.1 s.2.1 s.2.2) (2 ^ w.1.length)
    (fun S s => ∃ g, s = (me_w M g, nI (jmr (jA X w k) (jB X w k) S), nI S) ∧ ∀ a z, a ≠ 86 → g a z = me_i M a z)
    (fun s => ∃ g, s = (me_w M g, nI (jmr (jA X w k) (jB X w k) (2 ^ w.1.length)), nI (2 ^ w.1.length)) ∧ ∀ a z, a ≠ 86 → g a z = me_i M a z)
    ?_ ?_ (M, 0, 0) ⟨fun a z => me_i M a z, by rw [← nI_0]; rfl, fun _ _ _ => rfl⟩
  · obtain ⟨x, hx, g, rfl, h1⟩ := hlp
    exact ⟨g, _, hx, h1⟩
  · rintro S s hS ⟨g, rfl, g1⟩
    have hLg : Lay (me_w M g) := hL
    have hSTg : ST X w (st_m (me_w M g)) := hST.same (fun a z q1 q2 => g1 a z (by omega))
    have h13 : me_i (me_w M g) 70 13 = nI w.1.length := hSTg.1.2.2.2.2
    have hS12 : S < 2 ^ 12 := Nat.lt_of_lt_of_le hS hp
    have hc := cn12_le S
    have hj := jmr_le (A := jA X w k) (B := jB X w k) S
    have hsub := sub_iff (S := S) (T := ab (jQ X w k) 12) hS12
    show ∃ t, s_X12_round_96 70 (nI k) e (me_w M g) (nI (jmr (jA X w k) (jB X w k) S)) (nI S) = some (Sum.inl t) ∧ ∃ g, t = (me_w M g, nI (jmr (jA X w k) (jB X w k) (S + 1)), nI (S + 1)) ∧ ∀ a z, a ≠ 86 → g a z = me_i M a z
    rw [jmr_s]
    by_cases q : ∀ m, m < 12 → S.testBit m = true → (ab (jQ X w k) 12).testBit m = true
    · have hQ : ∀ m, S.testBit m = true → jQ X w k m = true := by
        intro m hm
        have hm12 : m < 12 := by
          apply Classical.byContradiction
          intro z
          rw [lt_bit hS12 (by omega)] at hm
          cases hm
        have := q m hm12 hm
        rw [ab_bit, decide_eq_true hm12, Bool.true_and] at this
        exact this
      obtain ⟨g', b1, b2⟩ := e_canMeet hX hW hL hST hk ht hS12 hQ g1
      have hLg' : Lay (me_w M g') := hL
      by_cases q2 : jmr (jA X w k) (jB X w k) S < cn S 12
      · by_cases q3 : (jsc (jA X w k) (jB X w k) S 12).isSome = true
        · refine ⟨(me_w M g', nI (cn S 12), nI (S + 1)), ?_, g', by rw [if_pos ⟨q2, q3⟩], b2⟩
          rw [if_pos q3] at b1
          unfold s_X12_round_96
          simp only [let_v]
          rw [m_gi hLg, h13, b_shl13 _ (by omega), if_neg (nI_ge hS (by omega)), he, if_pos (hsub.mpr q), cP_e (e_bits (by omega)), i_le (by omega) (by omega), if_neg (show ¬ cn S 12 ≤ jmr (jA X w k) (jB X w k) S by omega), nI_1]
          simp only [Option.bind_some]
          rw [if_neg (by decide), cI_e b1, if_neg (by decide), cP_e (e_bits (by omega))]
          rfl
        · refine ⟨(me_w M g', nI (jmr (jA X w k) (jB X w k) S), nI (S + 1)), ?_, g', by rw [if_neg (fun z => q3 z.2)], b2⟩
          rw [if_neg q3] at b1
          unfold s_X12_round_96
          simp only [let_v]
          rw [m_gi hLg, h13, b_shl13 _ (by omega), if_neg (nI_ge hS (by omega)), he, if_pos (hsub.mpr q), cP_e (e_bits (by omega)), i_le (by omega) (by omega), if_neg (show ¬ cn S 12 ≤ jmr (jA X w k) (jB X w k) S by omega), nI_1]
          simp only [Option.bind_some]
          rw [if_neg (by decide), cI_e b1, if_pos rfl]
          rfl
      · refine ⟨(me_w M g, nI (jmr (jA X w k) (jB X w k) S), nI (S + 1)), ?_, g, by rw [if_neg (fun z => q2 z.1)], g1⟩
        unfold s_X12_round_96
        simp only [let_v]
        rw [m_gi hLg, h13, b_shl13 _ (by omega), if_neg (nI_ge hS (by omega)), he, if_pos (hsub.mpr q), cP_e (e_bits (by omega)), i_le (by omega) (by omega), if_pos (show cn S 12 ≤ jmr (jA X w k) (jB X w k) S by omega), nI_1]
        simp only [Option.bind_some, if_true]
    · have q3 : ¬ (jsc (jA X w k) (jB X w k) S 12).isSome = true := by
        intro z
        obtain ⟨p, hp2⟩ := Option.isSome_iff_exists.mp z
        apply q
        intro m hm hb2
        rw [ab_bit, decide_eq_true hm, Bool.true_and]
        exact jsc_Q (Q := jQ X w k) (fun m h => mt_Q h) (fun q m h => mt_Q h) 12 p hp2 m hm hb2
      refine ⟨(me_w M g, nI (jmr (jA X w k) (jB X w k) S), nI (S + 1)), ?_, g, by rw [if_neg (fun z => q3 z.2)], g1⟩
      unfold s_X12_round_96
      simp only [let_v]
      rw [m_gi hLg, h13, b_shl13 _ (by omega), if_neg (nI_ge hS (by omega)), he, if_neg (fun z => q (hsub.mp z)), nI_1]
      simp only [Option.bind_some, if_true]
  · rintro s ⟨g, rfl, g1⟩
    have hLg : Lay (me_w M g) := hL
    have hSTg : ST X w (st_m (me_w M g)) := hST.same (fun a z q1 q2 => g1 a z (by omega))
    have h13 : me_i (me_w M g) 70 13 = nI w.1.length := hSTg.1.2.2.2.2
    refine ⟨(me_w M g, nI (jmr (jA X w k) (jB X w k) (2 ^ w.1.length)), nI (2 ^ w.1.length)), ?_, g, rfl, g1⟩
    show s_X12_round_96 70 (nI k) e (me_w M g) _ (nI (2 ^ w.1.length)) = _
    unfold s_X12_round_96
    rw [m_gi hLg, h13, b_shl13 _ (by omega), if_pos (nI_le (Nat.le_refl _) (by omega))]
/-! two that can not be both -/
theorem jfj_cut {A : Nat → Bool} {B : Nat → Nat → Bool} {i e : Nat} : ∀ f j, (∀ m, j + f ≤ m → jbad A B i m = false) → jfj A B i (f + e) j = jfj A B i f j := by
  intro f
  induction f with
  | zero => intro j h; rw [Nat.zero_add, jfj_no e j (fun m hm => h m (by omega))]; rfl
  | succ f ih =>
    intro j h
    rw [show f + 1 + e = (f + e) + 1 by omega, jfj_s, jfj_s, ih (j + 1) (fun m hm => h m (by omega))]
theorem jfi_cut {A : Nat → Bool} {B : Nat → Nat → Bool} {e : Nat} : ∀ f i, (∀ m, i + f ≤ m → A m = false) → jfi A B (f + e) i = jfi A B f i := by
  intro f
  induction f with
  | zero => intro i h; rw [Nat.zero_add, jfi_no e i (fun m hm => h m (by omega))]; rfl
  | succ f ih =>
    intro i h
    have r := ih (i + 1) (fun m hm => h m (by omega))
    rw [show f + 1 + e = (f + e) + 1 by omega]
    cases q : jfj A B i (12 - (i + 1)) (i + 1) with
    | none => rw [jfi_n q, jfi_n q, r]
    | some j => rw [jfi_s q, jfi_s q]
theorem pw_lt {i : Nat} (h : i < 12) : 2 ^ i < 4096 := (Nat.pow_lt_pow_right (by omega) h : 2 ^ i < 2 ^ 12)
theorem e_mbarJ {e : Int32 × Int32} {i : Nat} (hX : XV X) (hW : WV X w) (hL : Lay M) (hST : ST X w (st_m M)) (hk : k < 6) (ht : X.1.testBit k = true) (he : e.1 = nI (ab (jQ X w k) 12)) (hi : i < w.1.length) : ∀ f j g, j + f = w.1.length → i < j → (∀ a z, a ≠ 86 → g a z = me_i M a z) → ∃ g', (∀ a z, a ≠ 86 → g' a z = me_i M a z) ∧ lp (fun s : Me × Int32 => s_X12_round_187 70 (nI k) e (nI i) s.1 s.2) (me_w M g, nI j) = match jfj (jA X w k) (jB X w k) i f j with
    | none => some (Sum.inl (me_w M g', nI w.1.length))
    | some m => some (Sum.inr (nI (100 * i + m), me_w M g')) := by
  have h12 := hW.1
  intro f
  induction f with
  | zero =>
    intro j g hj hij g1
    have hLg : Lay (me_w M g) := hL
    have hSTg : ST X w (st_m (me_w M g)) := hST.same (fun a z q1 q2 => g1 a z (by omega))
    have h13 : me_i (me_w M g) 70 13 = nI w.1.length := hSTg.1.2.2.2.2
    refine ⟨g, g1, ?_⟩
    rw [lp_eq, show j = w.1.length by omega]
    show (s_X12_round_187 70 (nI k) e (nI i) (me_w M g) (nI w.1.length)).bind _ = _
    unfold s_X12_round_187
    rw [m_gi hLg, h13, if_pos (nI_le (Nat.le_refl _) (by omega))]; rfl
  | succ f ih =>
    intro j g hj hij g1
    have hLg : Lay (me_w M g) := hL
    have hSTg : ST X w (st_m (me_w M g)) := hST.same (fun a z q1 q2 => g1 a z (by omega))
    have h13 : me_i (me_w M g) 70 13 = nI w.1.length := hSTg.1.2.2.2.2
    have hbi : ∀ m, (2 ^ i).testBit m = true → m = i := fun m hm => by rw [Nat.testBit_two_pow] at hm; exact (of_decide_eq_true hm).symm
    have hbj : ∀ m, (2 ^ j).testBit m = true → m = j := fun m hm => by rw [Nat.testBit_two_pow] at hm; exact (of_decide_eq_true hm).symm
    -- what a step does
    have step : ∃ g', (∀ a z, a ≠ 86 → g' a z = me_i M a z) ∧ s_X12_round_187 70 (nI k) e (nI i) (me_w M g) (nI j) = if jbad (jA X w k) (jB X w k) i j = true then some (Sum.inr (Sum.inr (nI (100 * i + j), me_w M g'))) else some (Sum.inl (me_w M g', nI (j + 1))) := by
      by_cases q1 : jQ X w k i = true
      · by_cases q2 : jQ X w k j = true
        · obtain ⟨g2, b1, b2⟩ := e_canMeet (S := 2 ^ i) hX hW hL hST hk ht (pw_lt (by omega)) (fun m hm => by rw [hbi m hm]; exact q1) g1
          rw [j_one (show i < 12 by omega)] at b1
          by_cases q3 : jA X w k i = true
          · rw [if_pos q3] at b1
            obtain ⟨g3, b3, b4⟩ := e_canMeet (S := 2 ^ j) hX hW hL hST hk ht (pw_lt (by omega)) (fun m hm => by rw [hbj m hm]; exact q2) b2
            rw [j_one (show j < 12 by omega)] at b3
            by_cases q4 : jA X w k j = true
            · rw [if_pos q4] at b3
              obtain ⟨g4, b5, b6⟩ := e_canMeet (S := 2 ^ i ||| 2 ^ j) hX hW hL hST hk ht (Nat.or_lt_two_pow (n := 12) (pw_lt (by omega)) (pw_lt (by omega))) (fun m hm => by
                rw [Nat.testBit_or, Bool.or_eq_true] at hm
                rcases hm with hm | hm
                · rw [hbi m hm]; exact q1
                · rw [hbj m hm]; exact q2) b4
              rw [j_two hij (show j < 12 by omega), q3, Bool.true_and] at b5
              refine ⟨g4, b6, ?_⟩
              unfold s_X12_round_187 jbad
              simp only [let_v]
              rw [m_gi hLg, h13, if_neg (nI_ge (by omega) (by omega)), he, cP_e (e_hasT ab_31 (by omega)), ab_bit, decide_eq_true (show i < 12 by omega), q1, Bool.true_and, if_pos rfl, if_neg (by decide), cP_e (e_hasT ab_31 (by omega)), ab_bit, decide_eq_true (show j < 12 by omega), q2, Bool.true_and, if_pos rfl, if_neg (by decide), b_shl12 i (by omega), b_shl12 j (by omega), cI_e b1, if_neg (by decide), cI_e b3, if_neg (by decide)]
              simp only [Option.bind_some]
              rw [if_neg (by decide), n_or, cI_e b5, q3, q4, Bool.true_and, Bool.true_and, nI_1, c_100, pk_mul, nI_add]
              cases jB X w k i j <;> rfl
            · rw [if_neg q4] at b3
              refine ⟨g3, b4, ?_⟩
              unfold s_X12_round_187 jbad
              simp only [let_v]
              rw [m_gi hLg, h13, if_neg (nI_ge (by omega) (by omega)), he, cP_e (e_hasT ab_31 (by omega)), ab_bit, decide_eq_true (show i < 12 by omega), q1, Bool.true_and, if_pos rfl, if_neg (by decide), cP_e (e_hasT ab_31 (by omega)), ab_bit, decide_eq_true (show j < 12 by omega), q2, Bool.true_and, if_pos rfl, if_neg (by decide), b_shl12 i (by omega), b_shl12 j (by omega), cI_e b1, if_neg (by decide), cI_e b3, if_pos rfl, Bool.eq_false_iff.mpr q4, Bool.false_and, Bool.and_false, nI_1]
              rfl
          · rw [if_neg q3] at b1
            refine ⟨g2, b2, ?_⟩
            unfold s_X12_round_187 jbad
            simp only [let_v]
            rw [m_gi hLg, h13, if_neg (nI_ge (by omega) (by omega)), he, cP_e (e_hasT ab_31 (by omega)), ab_bit, decide_eq_true (show i < 12 by omega), q1, Bool.true_and, if_pos rfl, if_neg (by decide), cP_e (e_hasT ab_31 (by omega)), ab_bit, decide_eq_true (show j < 12 by omega), q2, Bool.true_and, if_pos rfl, if_neg (by decide), b_shl12 i (by omega), cI_e b1, if_pos rfl, Bool.eq_false_iff.mpr q3, Bool.false_and, nI_1]
            rfl
        · have q4 : jA X w k j = false := Bool.eq_false_iff.mpr (fun z => q2 (mt_Q z))
          refine ⟨g, g1, ?_⟩
          unfold s_X12_round_187 jbad
          simp only [let_v]
          rw [m_gi hLg, h13, if_neg (nI_ge (by omega) (by omega)), he, cP_e (e_hasT ab_31 (by omega)), ab_bit, decide_eq_true (show i < 12 by omega), q1, Bool.true_and, if_pos rfl, if_neg (by decide), cP_e (e_hasT ab_31 (by omega)), ab_bit, decide_eq_true (show j < 12 by omega), Bool.eq_false_iff.mpr q2, Bool.and_false, if_neg (show ¬ false = true by simp), if_pos rfl, q4, Bool.false_and, Bool.and_false, nI_1]
          rfl
      · have q3 : jA X w k i = false := Bool.eq_false_iff.mpr (fun z => q1 (mt_Q z))
        refine ⟨g, g1, ?_⟩
        unfold s_X12_round_187 jbad
        simp only [let_v]
        rw [m_gi hLg, h13, if_neg (nI_ge (by omega) (by omega)), he, cP_e (e_hasT ab_31 (by omega)), ab_bit, decide_eq_true (show i < 12 by omega), Bool.eq_false_iff.mpr q1, Bool.and_false, if_neg (show ¬ false = true by simp), if_pos rfl, q3, Bool.false_and, nI_1]
        rfl
    obtain ⟨g2, s1, s2⟩ := step
    rw [jfj_s]
    by_cases q : jbad (jA X w k) (jB X w k) i j = true
    · rw [if_pos q] at s2 ⊢
      refine ⟨g2, s1, ?_⟩
      rw [lp_eq]
      show (s_X12_round_187 70 (nI k) e (nI i) (me_w M g) (nI j)).bind _ = _
      rw [s2]; rfl
    · rw [if_neg q] at s2 ⊢
      obtain ⟨g3, t1, t2⟩ := ih (j + 1) g2 (by omega) (by omega) s1
      refine ⟨g3, t1, ?_⟩
      rw [← t2, lp_eq]
      show (s_X12_round_187 70 (nI k) e (nI i) (me_w M g) (nI j)).bind _ = _
      rw [s2]; rfl
theorem e_mbarI {e : Int32 × Int32} (hX : XV X) (hW : WV X w) (hL : Lay M) (hST : ST X w (st_m M)) (hk : k < 6) (ht : X.1.testBit k = true) (he : e.1 = nI (ab (jQ X w k) 12)) : ∀ f i g, i + f = w.1.length → (∀ a z, a ≠ 86 → g a z = me_i M a z) → ∃ g', ex_r (lp (fun s : Me × Int32 => s_X12_round_172 70 (nI k) e s.1 s.2) (me_w M g, nI i)) (fun e => some ((-6 : Int32), e.1)) (fun t => some t) = some (jv (jfi (jA X w k) (jB X w k) f i), me_w M g') ∧ ∀ a z, a ≠ 86 → g' a z = me_i M a z := by
  have h12 := hW.1
  have hAn : ∀ m, w.1.length ≤ m → jA X w k m = false := fun m hm => mt_n hm
  intro f
  induction f with
  | zero =>
    intro i g hi g1
    have hLg : Lay (me_w M g) := hL
    have hSTg : ST X w (st_m (me_w M g)) := hST.same (fun a z q1 q2 => g1 a z (by omega))
    have h13 : me_i (me_w M g) 70 13 = nI w.1.length := hSTg.1.2.2.2.2
    refine ⟨g, ?_, g1⟩
    rw [lp_eq, show i = w.1.length by omega]
    show ex_r ((s_X12_round_172 70 (nI k) e (me_w M g) (nI w.1.length)).bind _) _ _ = _
    unfold s_X12_round_172
    rw [m_gi hLg, h13, if_pos (nI_le (Nat.le_refl _) (by omega))]; rfl
  | succ f ih =>
    intro i g hi g1
    have hLg : Lay (me_w M g) := hL
    have hSTg : ST X w (st_m (me_w M g)) := hST.same (fun a z q1 q2 => g1 a z (by omega))
    have h13 : me_i (me_w M g) 70 13 = nI w.1.length := hSTg.1.2.2.2.2
    obtain ⟨u, u1, u2⟩ := e_mbarJ hX hW hL hST hk ht he (show i < w.1.length by omega) f (i + 1) g (by omega) (by omega) g1
    have cut := jfj_cut (A := jA X w k) (B := jB X w k) (i := i) (e := 12 - w.1.length) f (i + 1) (fun m hm => by unfold jbad; rw [hAn m (by omega), Bool.false_and, Bool.and_false])
    rw [show f + (12 - w.1.length) = 12 - (i + 1) by omega] at cut
    cases z : jfj (jA X w k) (jB X w k) i f (i + 1) with
    | some m =>
      rw [z] at u2 cut
      refine ⟨u, ?_, u1⟩
      rw [jfi_s cut, lp_eq]
      show ex_r ((s_X12_round_172 70 (nI k) e (me_w M g) (nI i)).bind _) _ _ = _
      unfold s_X12_round_172
      simp only [let_v]
      rw [m_gi hLg, h13, if_neg (nI_ge (by omega) (by omega)), nI_1, u2]; rfl
    | none =>
      rw [z] at u2 cut
      obtain ⟨g', b1, b2⟩ := ih (i + 1) u (by omega) u1
      refine ⟨g', ?_, b2⟩
      rw [jfi_n cut, ← b1, lp_eq]
      show ex_r ((s_X12_round_172 70 (nI k) e (me_w M g) (nI i)).bind _) _ _ = _
      have step : s_X12_round_172 70 (nI k) e (me_w M g) (nI i) = some (Sum.inl (me_w M u, nI (i + 1))) := by
        unfold s_X12_round_172
        simp only [let_v]
        rw [m_gi hLg, h13, if_neg (nI_ge (by omega) (by omega)), nI_1, u2]; rfl
      rw [step]; rfl
end RM

/-! the law's loop, over an invariant Iv n M (n calls are done); made so far: 91 cells and 1259 slots at the start, 28 and 178 a call at most -/
section LD
variable {p : Program} {l : Launch} {e : Env} {s : State} {m : MethodId} {below : List Frame} {meth : Method} {c : Code} {K : Kn} {b0 L : Nat} {xs : Nat → Int32}
theorem l_back {M : Me} {u : Nat × Nat} {i v : Int32} (C : La p s m meth c K b0 L xs) (hv : i + 6 = v) (k : Lw p l e s m below meth c K b0 M u v 18 []) : Lw p l e s m below meth c K b0 M u i 1090 [] := by
  intro H locs ls hP hS hz hl
  refine lv_iinc (v := v) (lv' := [(3, .int v), (0, .ref b0), (1, .ref (s.heap.size + 0)), (2, .ref (s.heap.size + 70))]) C.1.1 C.1.2.1 dL_law_1090 hl (k := 3) rfl (by rw [← hv]; rfl) (by decide) rfl (fun ls hl => ?_)
  refine lv_goto (tgt := 18) C.1.1 C.1.2.1 dL_law_1093 (by decide) ?_
  exact k H locs ls hP hS hz (lv_sub hl [1, 2, 3, 0] rfl)
theorem l_wide {M : Me} {u u2 : Nat × Nat} {i : Int32} {pc : Nat} {st : List Value} (h1 : u.1 ≤ u2.1) (h2 : u.2 ≤ u2.2) (k : Lw p l e s m below meth c K b0 M u2 i pc st) : Lw p l e s m below meth c K b0 M u i pc st := by
  intro H locs ls hP hS hz hl
  exact W.widen (k := u2.1) (n := u2.2) h1 h2 (k H locs ls hP hS hz hl)
theorem l_loop {Iv : Nat → Me → Prop} (hL : L ≤ 3072) (C : La p s m meth c K b0 L xs) (hstay : ∀ n M, n < 512 → Iv n M → Iv (n + 1) M) (ho0 : ∀ n M, n < 512 → Iv n M → op_0 (Iv (n + 1)) M) (ho1 : ∀ n M, n < 512 → Iv n M → op_1 (Iv (n + 1)) M) (ho2 : ∀ n M, n < 512 → Iv n M → op_2 (Iv (n + 1)) M) (ho3 : ∀ n M, n < 512 → Iv n M → op_3 (Iv (n + 1)) M) (ho4 : ∀ n M, n < 512 → Iv n M → op_4 (Iv (n + 1)) M) (ho5 : ∀ n M, n < 512 → Iv n M → op_5 (Iv (n + 1)) M) (ho6 : ∀ n M, n < 512 → Iv n M → op_6 (Iv (n + 1)) M) (ho7 : ∀ n M, n < 512 → Iv n M → op_7 (Iv (n + 1)) M) (ho8 : ∀ n M, n < 512 → Iv n M → op_8 (Iv (n + 1)) M) (ho9 : ∀ n M, n < 512 → Iv n M → op_9 (Iv (n + 1)) M) (ho10 : ∀ n M, n < 512 → Iv n M → op_10 (Iv (n + 1)) M) (ho11 : ∀ n M, n < 512 → Iv n M → op_11 (Iv (n + 1)) M) (ho12 : ∀ n M, n < 512 → Iv n M → op_12 (Iv (n + 1)) M) (ho13 : ∀ n M, n < 512 → Iv n M → op_13 (Iv (n + 1)) M) (ho14 : ∀ n M, n < 512 → Iv n M → op_14 (Iv (n + 1)) M) (ho15 : ∀ n M, n < 512 → Iv n M → op_15 (Iv (n + 1)) M) (ho16 : ∀ n M, n < 512 → Iv n M → op_16 (Iv (n + 1)) M) (ho17 : ∀ n M, n < 512 → Iv n M → op_17 (Iv (n + 1)) M) (ho18 : ∀ n M, n < 512 → Iv n M → op_18 (Iv (n + 1)) M) (ho19 : ∀ n M, n < 512 → Iv n M → op_19 (Iv (n + 1)) M) (ho20 : ∀ n M, n < 512 → Iv n M → op_20 (Iv (n + 1)) M) (ho21 : ∀ n M, n < 512 → Iv n M → op_21 (Iv (n + 1)) M) (ho22 : ∀ n M, n < 512 → Iv n M → op_22 (Iv (n + 1)) M) (ho23 : ∀ n M, n < 512 → Iv n M → op_23 (Iv (n + 1)) M) (ho24 : ∀ n M, n < 512 → Iv n M → op_24 (Iv (n + 1)) M) (ho25 : ∀ n M, n < 512 → Iv n M → op_25 (Iv (n + 1)) M) (ho26 : ∀ n M, n < 512 → Iv n M → op_26 (Iv (n + 1)) M) (ho27 : ∀ n M, n < 512 → Iv n M → op_27 (Iv (n + 1)) M) (ho28 : ∀ n M, n < 512 → Iv n M → op_28 (Iv (n + 1)) M) (ho29 : ∀ n M, n < 512 → Iv n M → op_29 (Iv (n + 1)) M) :
    ∀ (n k : Nat) (M : Me), 6 * k ≤ L + 5 → L < 6 * (k + n) → Iv k M → Lw p l e s m below meth c K b0 M (91 + 28 * k, 1259 + 178 * k) (nI (6 * k)) 18 [] := by
  intro n
  induction n with
  | zero =>
    intro k M h1 h2 hI H locs ls hP hS hz hl
    refine lv_iload_n C.1.1 C.1.2.1 dL_law_18 rfl (lv_at hl 3 rfl) ?_
    refine lv_aload_n C.1.1 C.1.2.1 dL_law_19 rfl (lv_at hl 0 rfl) ?_
    refine va_slen C.1.1 C.1.2.1 C.2.1 C.2.2 (Nat.not_le.mpr C.2.2) hS dL_law_20 ?_
    refine lv_bipush (v := 6) C.1.1 C.1.2.1 dL_law_21 (by decide) ?_
    refine lv_isub C.1.1 C.1.2.1 dL_law_23 ?_
    refine lv_icmp_gt (tgt := 1096) C.1.1 C.1.2.1 dL_law_24 (by decide) (fun _ => ?_) (fun hc => ?_)
    · refine lv_iconst (v := 1) C.1.1 C.1.2.1 dL_law_1096 (by decide) ?_
      refine va_forget (fun q hq => hS.2.2 q hq) ?_
      refine W.widen (k := 600000) (n := 7302250) (by show 91 + 28 * k ≤ 600000; omega) (by show 1259 + 178 * k ≤ 7302250; omega) ?_
      exact lw_ret C.1.1 C.1.2.1 C.1.2.2.1 C.1.2.2.2.2.2.2.2.1 dL_law_1097
    · exfalso
      apply hc
      rw [show (Int32.ofNat L) = nI L from rfl, show (6 : Int32) = nI 6 by decide +kernel, Int32.lt_iff_toInt_lt, pk_sub_toInt (by omega) (by omega), nI_toInt (by omega)]
      omega
  | succ n ih =>
    intro k M h1 h2 hI H locs ls hP hS hz hl
    refine lv_iload_n C.1.1 C.1.2.1 dL_law_18 rfl (lv_at hl 3 rfl) ?_
    refine lv_aload_n C.1.1 C.1.2.1 dL_law_19 rfl (lv_at hl 0 rfl) ?_
    refine va_slen C.1.1 C.1.2.1 C.2.1 C.2.2 (Nat.not_le.mpr C.2.2) hS dL_law_20 ?_
    refine lv_bipush (v := 6) C.1.1 C.1.2.1 dL_law_21 (by decide) ?_
    refine lv_isub C.1.1 C.1.2.1 dL_law_23 ?_
    refine lv_icmp_gt (tgt := 1096) C.1.1 C.1.2.1 dL_law_24 (by decide) (fun _ => ?_) (fun hc => ?_)
    · refine lv_iconst (v := 1) C.1.1 C.1.2.1 dL_law_1096 (by decide) ?_
      refine va_forget (fun q hq => hS.2.2 q hq) ?_
      refine W.widen (k := 600000) (n := 7302250) (by show 91 + 28 * k ≤ 600000; omega) (by show 1259 + 178 * k ≤ 7302250; omega) ?_
      exact lw_ret C.1.1 C.1.2.1 C.1.2.2.1 C.1.2.2.2.2.2.2.2.1 dL_law_1097
    · have hk : 6 * k + 6 ≤ L := by
        rw [show (Int32.ofNat L) = nI L from rfl, show (6 : Int32) = nI 6 by decide +kernel, Int32.lt_iff_toInt_lt, pk_sub_toInt (by omega) (by omega), nI_toInt (by omega)] at hc
        omega
      have hk5 : k < 512 := by omega
      have hin : ∀ (j : Nat) (v : Int32), v = nI j → j < 6 → vp_in (nI (6 * k) + v) L := fun j v hv hj => by
        rw [hv, nI_add]; exact vp_in_nI (by omega) (by omega)
      have g1 := hin 1 1 (by decide +kernel) (by decide)
      have g2 := hin 2 2 (by decide +kernel) (by decide)
      have g3 := hin 3 3 (by decide +kernel) (by decide)
      have g4 := hin 4 4 (by decide +kernel) (by decide)
      have g5 := hin 5 5 (by decide +kernel) (by decide)
      have hstp : nI (6 * k) + 6 = nI (6 * (k + 1)) := by
        rw [show (6 : Int32) = nI 6 by decide +kernel, nI_add]; rfl
      have nxt : ∀ M2, Iv (k + 1) M2 → ∀ u : Nat × Nat, u.1 ≤ 91 + 28 * k + 28 → u.2 ≤ 1259 + 178 * k + 178 → Lw p l e s m below meth c K b0 M2 u (nI (6 * k)) 1090 [] := fun M2 h2' u hu1 hu2 =>
        l_back C hstp (l_wide (u2 := (91 + 28 * (k + 1), 1259 + 178 * (k + 1))) (by show u.1 ≤ 91 + 28 * (k + 1); omega) (by show u.2 ≤ 1259 + 178 * (k + 1); omega) (ih (k + 1) M2 (by omega) (by omega) h2'))
      refine lv_aload_n C.1.1 C.1.2.1 dL_law_27 rfl (lv_at hl 0 rfl) ?_
      refine lv_iload_n C.1.1 C.1.2.1 dL_law_28 rfl (lv_at hl 3 rfl) ?_
      refine va_sld C.1.1 C.1.2.1 C.2.1 C.2.2 (Nat.not_le.mpr C.2.2) hS (vp_in_nI (by omega) (by omega)) dL_law_29 ?_
      refine lv_bipush (v := 31) C.1.1 C.1.2.1 dL_law_30 (by decide) ?_
      refine lv_iand C.1.1 C.1.2.1 dL_law_32 ?_
      obtain ⟨j, hj, hje⟩ := pk_andE (xs (nI (6 * k)).toNatClampNeg) (m := 31) 5 (by decide +kernel)
      rw [hje]
      match j, hj with
      | 0, _ =>
        refine lv_tableIn (off := 135) (tgt := 168) C.1.1 C.1.2.1 dL_law_33 (by decide +kernel) (by decide +kernel) (by decide +kernel) (by decide) ?_
        exact lc_0 (P := Iv (k + 1)) C g1 ⟨by show 91 + 28 * k + 0 ≤ 600000; omega, by show 1259 + 178 * k + 0 ≤ 7302250; omega⟩ (ho0 k M hk5 hI) (fun M2 hp => nxt M2 hp _ (by show 91 + 28 * k + 0 ≤ _; omega) (by show 1259 + 178 * k + 0 ≤ _; omega)) H locs ls hP hS hz hl
      | 1, _ =>
        refine lv_tableIn (off := 158) (tgt := 191) C.1.1 C.1.2.1 dL_law_33 (by decide +kernel) (by decide +kernel) (by decide +kernel) (by decide) ?_
        exact lc_1 (P := Iv (k + 1)) C g1 g2 g3 ⟨by show 91 + 28 * k + 0 ≤ 600000; omega, by show 1259 + 178 * k + 0 ≤ 7302250; omega⟩ (ho1 k M hk5 hI) (fun M2 hp => nxt M2 hp _ (by show 91 + 28 * k + 0 ≤ _; omega) (by show 1259 + 178 * k + 0 ≤ _; omega)) H locs ls hP hS hz hl
      | 2, _ =>
        refine lv_tableIn (off := 201) (tgt := 234) C.1.1 C.1.2.1 dL_law_33 (by decide +kernel) (by decide +kernel) (by decide +kernel) (by decide) ?_
        exact lc_2 (P := Iv (k + 1)) C g1 ⟨by show 91 + 28 * k + 0 ≤ 600000; omega, by show 1259 + 178 * k + 0 ≤ 7302250; omega⟩ (ho2 k M hk5 hI) (fun M2 hp => nxt M2 hp _ (by show 91 + 28 * k + 0 ≤ _; omega) (by show 1259 + 178 * k + 0 ≤ _; omega)) H locs ls hP hS hz hl
      | 3, _ =>
        refine lv_tableIn (off := 224) (tgt := 257) C.1.1 C.1.2.1 dL_law_33 (by decide +kernel) (by decide +kernel) (by decide +kernel) (by decide) ?_
        exact lc_3 (P := Iv (k + 1)) C g1 g2 g3 g4 g5 ⟨by show 91 + 28 * k + 0 ≤ 600000; omega, by show 1259 + 178 * k + 0 ≤ 7302250; omega⟩ (ho3 k M hk5 hI) (fun M2 hp => nxt M2 hp _ (by show 91 + 28 * k + 0 ≤ _; omega) (by show 1259 + 178 * k + 0 ≤ _; omega)) H locs ls hP hS hz hl
      | 4, _ =>
        refine lv_tableIn (off := 287) (tgt := 320) C.1.1 C.1.2.1 dL_law_33 (by decide +kernel) (by decide +kernel) (by decide +kernel) (by decide) ?_
        exact lc_4 (P := Iv (k + 1)) C g1 g2 ⟨by show 91 + 28 * k + 0 ≤ 600000; omega, by show 1259 + 178 * k + 0 ≤ 7302250; omega⟩ (ho4 k M hk5 hI) (fun M2 hp => nxt M2 hp _ (by show 91 + 28 * k + 0 ≤ _; omega) (by show 1259 + 178 * k + 0 ≤ _; omega)) H locs ls hP hS hz hl
      | 5, _ =>
        refine lv_tableIn (off := 320) (tgt := 353) C.1.1 C.1.2.1 dL_law_33 (by decide +kernel) (by decide +kernel) (by decide +kernel) (by decide) ?_
        exact lc_5 (P := Iv (k + 1)) C g1 ⟨by show 91 + 28 * k + 0 ≤ 600000; omega, by show 1259 + 178 * k + 0 ≤ 7302250; omega⟩ (ho5 k M hk5 hI) (fun M2 hp => nxt M2 hp _ (by show 91 + 28 * k + 0 ≤ _; omega) (by show 1259 + 178 * k + 0 ≤ _; omega)) H locs ls hP hS hz hl
      | 6, _ =>
        refine lv_tableIn (off := 343) (tgt := 376) C.1.1 C.1.2.1 dL_law_33 (by decide +kernel) (by decide +kernel) (by decide +kernel) (by decide) ?_
        exact lc_6 (P := Iv (k + 1)) C  ⟨by show 91 + 28 * k + 0 ≤ 600000; omega, by show 1259 + 178 * k + 0 ≤ 7302250; omega⟩ (ho6 k M hk5 hI) (fun M2 hp => nxt M2 hp _ (by show 91 + 28 * k + 0 ≤ _; omega) (by show 1259 + 178 * k + 0 ≤ _; omega)) H locs ls hP hS hz hl
      | 7, _ =>
        refine lv_tableIn (off := 356) (tgt := 389) C.1.1 C.1.2.1 dL_law_33 (by decide +kernel) (by decide +kernel) (by decide +kernel) (by decide) ?_
        exact lc_7 (P := Iv (k + 1)) C  ⟨by show 91 + 28 * k + 0 ≤ 600000; omega, by show 1259 + 178 * k + 0 ≤ 7302250; omega⟩ (ho7 k M hk5 hI) (fun M2 hp => nxt M2 hp _ (by show 91 + 28 * k + 0 ≤ _; omega) (by show 1259 + 178 * k + 0 ≤ _; omega)) H locs ls hP hS hz hl
      | 8, _ =>
        refine lv_tableIn (off := 369) (tgt := 402) C.1.1 C.1.2.1 dL_law_33 (by decide +kernel) (by decide +kernel) (by decide +kernel) (by decide) ?_
        exact lc_8 (P := Iv (k + 1)) C g1 ⟨by show 91 + 28 * k + 0 ≤ 600000; omega, by show 1259 + 178 * k + 0 ≤ 7302250; omega⟩ (ho8 k M hk5 hI) (fun M2 hp => nxt M2 hp _ (by show 91 + 28 * k + 0 ≤ _; omega) (by show 1259 + 178 * k + 0 ≤ _; omega)) H locs ls hP hS hz hl
      | 9, _ =>
        refine lv_tableIn (off := 392) (tgt := 425) C.1.1 C.1.2.1 dL_law_33 (by decide +kernel) (by decide +kernel) (by decide +kernel) (by decide) ?_
        exact lc_9 (P := Iv (k + 1)) C  ⟨by show 91 + 28 * k + 0 ≤ 600000; omega, by show 1259 + 178 * k + 0 ≤ 7302250; omega⟩ (ho9 k M hk5 hI) (fun M2 hp => nxt M2 hp _ (by show 91 + 28 * k + 0 ≤ _; omega) (by show 1259 + 178 * k + 0 ≤ _; omega)) H locs ls hP hS hz hl
      | 10, _ =>
        refine lv_tableIn (off := 405) (tgt := 438) C.1.1 C.1.2.1 dL_law_33 (by decide +kernel) (by decide +kernel) (by decide +kernel) (by decide) ?_
        exact lc_10 (P := Iv (k + 1)) C g1 g2 ⟨by show 91 + 28 * k + 0 ≤ 600000; omega, by show 1259 + 178 * k + 0 ≤ 7302250; omega⟩ (ho10 k M hk5 hI) (fun M2 hp => nxt M2 hp _ (by show 91 + 28 * k + 0 ≤ _; omega) (by show 1259 + 178 * k + 0 ≤ _; omega)) H locs ls hP hS hz hl
      | 11, _ =>
        refine lv_tableIn (off := 438) (tgt := 471) C.1.1 C.1.2.1 dL_law_33 (by decide +kernel) (by decide +kernel) (by decide +kernel) (by decide) ?_
        exact lc_11 (P := Iv (k + 1)) C g1 g2 ⟨by show 91 + 28 * k + 0 ≤ 600000; omega, by show 1259 + 178 * k + 0 ≤ 7302250; omega⟩ (ho11 k M hk5 hI) (fun M2 hp => nxt M2 hp _ (by show 91 + 28 * k + 0 ≤ _; omega) (by show 1259 + 178 * k + 0 ≤ _; omega)) H locs ls hP hS hz hl
      | 12, _ =>
        refine lv_tableIn (off := 471) (tgt := 504) C.1.1 C.1.2.1 dL_law_33 (by decide +kernel) (by decide +kernel) (by decide +kernel) (by decide) ?_
        exact lc_12 (P := Iv (k + 1)) C g1 g2 ⟨by show 91 + 28 * k + 0 ≤ 600000; omega, by show 1259 + 178 * k + 0 ≤ 7302250; omega⟩ (ho12 k M hk5 hI) (fun M2 hp => nxt M2 hp _ (by show 91 + 28 * k + 0 ≤ _; omega) (by show 1259 + 178 * k + 0 ≤ _; omega)) H locs ls hP hS hz hl
      | 13, _ =>
        refine lv_tableIn (off := 504) (tgt := 537) C.1.1 C.1.2.1 dL_law_33 (by decide +kernel) (by decide +kernel) (by decide +kernel) (by decide) ?_
        exact lc_13 (P := Iv (k + 1)) C g1 g2 ⟨by show 91 + 28 * k + 0 ≤ 600000; omega, by show 1259 + 178 * k + 0 ≤ 7302250; omega⟩ (ho13 k M hk5 hI) (fun M2 hp => nxt M2 hp _ (by show 91 + 28 * k + 0 ≤ _; omega) (by show 1259 + 178 * k + 0 ≤ _; omega)) H locs ls hP hS hz hl
      | 14, _ =>
        refine lv_tableIn (off := 537) (tgt := 570) C.1.1 C.1.2.1 dL_law_33 (by decide +kernel) (by decide +kernel) (by decide +kernel) (by decide) ?_
        exact lc_14 (P := Iv (k + 1)) C g1 ⟨by show 91 + 28 * k + 0 ≤ 600000; omega, by show 1259 + 178 * k + 0 ≤ 7302250; omega⟩ (ho14 k M hk5 hI) (fun M2 hp => nxt M2 hp _ (by show 91 + 28 * k + 0 ≤ _; omega) (by show 1259 + 178 * k + 0 ≤ _; omega)) H locs ls hP hS hz hl
      | 15, _ =>
        refine lv_tableIn (off := 560) (tgt := 593) C.1.1 C.1.2.1 dL_law_33 (by decide +kernel) (by decide +kernel) (by decide +kernel) (by decide) ?_
        exact lc_15 (P := Iv (k + 1)) C g1 g2 ⟨by show 91 + 28 * k + 0 ≤ 600000; omega, by show 1259 + 178 * k + 0 ≤ 7302250; omega⟩ (ho15 k M hk5 hI) (fun M2 hp => nxt M2 hp _ (by show 91 + 28 * k + 0 ≤ _; omega) (by show 1259 + 178 * k + 0 ≤ _; omega)) H locs ls hP hS hz hl
      | 16, _ =>
        refine lv_tableIn (off := 593) (tgt := 626) C.1.1 C.1.2.1 dL_law_33 (by decide +kernel) (by decide +kernel) (by decide +kernel) (by decide) ?_
        exact lc_16 (P := Iv (k + 1)) C g1 g2 g3 g4 g5 ⟨by show 91 + 28 * k + 0 ≤ 600000; omega, by show 1259 + 178 * k + 0 ≤ 7302250; omega⟩ (ho16 k M hk5 hI) (fun M2 hp => nxt M2 hp _ (by show 91 + 28 * k + 0 ≤ _; omega) (by show 1259 + 178 * k + 0 ≤ _; omega)) H locs ls hP hS hz hl
      | 17, _ =>
        refine lv_tableIn (off := 656) (tgt := 689) C.1.1 C.1.2.1 dL_law_33 (by decide +kernel) (by decide +kernel) (by decide +kernel) (by decide) ?_
        exact lc_17 (P := Iv (k + 1)) C  ⟨by show 91 + 28 * k + 0 ≤ 600000; omega, by show 1259 + 178 * k + 0 ≤ 7302250; omega⟩ (ho17 k M hk5 hI) (fun M2 hp => nxt M2 hp _ (by show 91 + 28 * k + 0 ≤ _; omega) (by show 1259 + 178 * k + 0 ≤ _; omega)) H locs ls hP hS hz hl
      | 18, _ =>
        refine lv_tableIn (off := 669) (tgt := 702) C.1.1 C.1.2.1 dL_law_33 (by decide +kernel) (by decide +kernel) (by decide +kernel) (by decide) ?_
        exact lc_18 (P := Iv (k + 1)) C  ⟨by show 91 + 28 * k + 0 ≤ 600000; omega, by show 1259 + 178 * k + 0 ≤ 7302250; omega⟩ (ho18 k M hk5 hI) (fun M2 hp => nxt M2 hp _ (by show 91 + 28 * k + 0 ≤ _; omega) (by show 1259 + 178 * k + 0 ≤ _; omega)) H locs ls hP hS hz hl
      | 19, _ =>
        refine lv_tableIn (off := 682) (tgt := 715) C.1.1 C.1.2.1 dL_law_33 (by decide +kernel) (by decide +kernel) (by decide +kernel) (by decide) ?_
        exact lc_19 (P := Iv (k + 1)) C g1 g2 g3 ⟨by show 91 + 28 * k + 0 ≤ 600000; omega, by show 1259 + 178 * k + 0 ≤ 7302250; omega⟩ (ho19 k M hk5 hI) (fun M2 hp => nxt M2 hp _ (by show 91 + 28 * k + 0 ≤ _; omega) (by show 1259 + 178 * k + 0 ≤ _; omega)) H locs ls hP hS hz hl
      | 20, _ =>
        refine lv_tableIn (off := 725) (tgt := 758) C.1.1 C.1.2.1 dL_law_33 (by decide +kernel) (by decide +kernel) (by decide +kernel) (by decide) ?_
        exact lc_20 (P := Iv (k + 1)) C g1 g2 g3 g4 ⟨by show 91 + 28 * k + 0 ≤ 600000; omega, by show 1259 + 178 * k + 0 ≤ 7302250; omega⟩ (ho20 k M hk5 hI) (fun M2 hp => nxt M2 hp _ (by show 91 + 28 * k + 0 ≤ _; omega) (by show 1259 + 178 * k + 0 ≤ _; omega)) H locs ls hP hS hz hl
      | 21, _ =>
        refine lv_tableIn (off := 779) (tgt := 812) C.1.1 C.1.2.1 dL_law_33 (by decide +kernel) (by decide +kernel) (by decide +kernel) (by decide) ?_
        exact lc_21 (P := Iv (k + 1)) C g1 g2 g3 ⟨by show 91 + 28 * k + 0 ≤ 600000; omega, by show 1259 + 178 * k + 0 ≤ 7302250; omega⟩ (ho21 k M hk5 hI) (fun M2 hp => nxt M2 hp _ (by show 91 + 28 * k + 0 ≤ _; omega) (by show 1259 + 178 * k + 0 ≤ _; omega)) H locs ls hP hS hz hl
      | 22, _ =>
        refine lv_tableIn (off := 822) (tgt := 855) C.1.1 C.1.2.1 dL_law_33 (by decide +kernel) (by decide +kernel) (by decide +kernel) (by decide) ?_
        exact lc_22 (P := Iv (k + 1)) C g1 g2 ⟨by show 91 + 28 * k + 0 ≤ 600000; omega, by show 1259 + 178 * k + 0 ≤ 7302250; omega⟩ (ho22 k M hk5 hI) (fun M2 hp => nxt M2 hp _ (by show 91 + 28 * k + 0 ≤ _; omega) (by show 1259 + 178 * k + 0 ≤ _; omega)) H locs ls hP hS hz hl
      | 23, _ =>
        refine lv_tableIn (off := 855) (tgt := 888) C.1.1 C.1.2.1 dL_law_33 (by decide +kernel) (by decide +kernel) (by decide +kernel) (by decide) ?_
        exact lc_23 (P := Iv (k + 1)) C  ⟨by show 91 + 28 * k + 0 ≤ 600000; omega, by show 1259 + 178 * k + 0 ≤ 7302250; omega⟩ (ho23 k M hk5 hI) (fun M2 hp => nxt M2 hp _ (by show 91 + 28 * k + 0 ≤ _; omega) (by show 1259 + 178 * k + 0 ≤ _; omega)) H locs ls hP hS hz hl
      | 24, _ =>
        refine lv_tableIn (off := 868) (tgt := 901) C.1.1 C.1.2.1 dL_law_33 (by decide +kernel) (by decide +kernel) (by decide +kernel) (by decide) ?_
        exact lc_24 (P := Iv (k + 1)) C g1 ⟨by show 91 + 28 * k + 0 ≤ 600000; omega, by show 1259 + 178 * k + 0 ≤ 7302250; omega⟩ (ho24 k M hk5 hI) (fun M2 hp => nxt M2 hp _ (by show 91 + 28 * k + 0 ≤ _; omega) (by show 1259 + 178 * k + 0 ≤ _; omega)) H locs ls hP hS hz hl
      | 25, _ =>
        refine lv_tableIn (off := 891) (tgt := 924) C.1.1 C.1.2.1 dL_law_33 (by decide +kernel) (by decide +kernel) (by decide +kernel) (by decide) ?_
        exact lc_25 (P := Iv (k + 1)) C g1 g2 g3 g4 ⟨by show 91 + 28 * k + 0 ≤ 600000; omega, by show 1259 + 178 * k + 0 ≤ 7302250; omega⟩ (ho25 k M hk5 hI) (fun M2 hp => nxt M2 hp _ (by show 91 + 28 * k + 0 ≤ _; omega) (by show 1259 + 178 * k + 0 ≤ _; omega)) H locs ls hP hS hz hl
      | 26, _ =>
        refine lv_tableIn (off := 945) (tgt := 978) C.1.1 C.1.2.1 dL_law_33 (by decide +kernel) (by decide +kernel) (by decide +kernel) (by decide) ?_
        exact lc_26 (P := Iv (k + 1)) C g1 g2 g3 ⟨by show 91 + 28 * k + 0 ≤ 600000; omega, by show 1259 + 178 * k + 0 ≤ 7302250; omega⟩ (ho26 k M hk5 hI) (fun M2 hp => nxt M2 hp _ (by show 91 + 28 * k + 0 ≤ _; omega) (by show 1259 + 178 * k + 0 ≤ _; omega)) H locs ls hP hS hz hl
      | 27, _ =>
        refine lv_tableIn (off := 988) (tgt := 1021) C.1.1 C.1.2.1 dL_law_33 (by decide +kernel) (by decide +kernel) (by decide +kernel) (by decide) ?_
        exact lc_27 (P := Iv (k + 1)) C g1 ⟨by show 91 + 28 * k + 28 ≤ 600000; omega, by show 1259 + 178 * k + 178 ≤ 7302250; omega⟩ (ho27 k M hk5 hI) (fun M2 hp => nxt M2 hp _ (by show 91 + 28 * k + 28 ≤ _; omega) (by show 1259 + 178 * k + 178 ≤ _; omega)) H locs ls hP hS hz hl
      | 28, _ =>
        refine lv_tableIn (off := 1011) (tgt := 1044) C.1.1 C.1.2.1 dL_law_33 (by decide +kernel) (by decide +kernel) (by decide +kernel) (by decide) ?_
        exact lc_28 (P := Iv (k + 1)) C g1 ⟨by show 91 + 28 * k + 0 ≤ 600000; omega, by show 1259 + 178 * k + 0 ≤ 7302250; omega⟩ (ho28 k M hk5 hI) (fun M2 hp => nxt M2 hp _ (by show 91 + 28 * k + 0 ≤ _; omega) (by show 1259 + 178 * k + 0 ≤ _; omega)) H locs ls hP hS hz hl
      | 29, _ =>
        refine lv_tableIn (off := 1034) (tgt := 1067) C.1.1 C.1.2.1 dL_law_33 (by decide +kernel) (by decide +kernel) (by decide +kernel) (by decide) ?_
        exact lc_29 (P := Iv (k + 1)) C g1 ⟨by show 91 + 28 * k + 0 ≤ 600000; omega, by show 1259 + 178 * k + 0 ≤ 7302250; omega⟩ (ho29 k M hk5 hI) (fun M2 hp => nxt M2 hp _ (by show 91 + 28 * k + 0 ≤ _; omega) (by show 1259 + 178 * k + 0 ≤ _; omega)) H locs ls hP hS hz hl
      | 30, _ =>
        refine lv_tableOut (tgt := 1090) C.1.1 C.1.2.1 dL_law_33 (by decide +kernel) (by decide) ?_
        exact nxt M (hstay k M hk5 hI) _ (by show 91 + 28 * k ≤ _; omega) (by show 1259 + 178 * k ≤ _; omega) H locs ls hP hS hz hl
      | 31, _ =>
        refine lv_tableOut (tgt := 1090) C.1.1 C.1.2.1 dL_law_33 (by decide +kernel) (by decide) ?_
        exact nxt M (hstay k M hk5 hI) _ (by show 91 + 28 * k ≤ _; omega) (by show 1259 + 178 * k ≤ _; omega) H locs ls hP hS hz hl
      | j + 32, hj => exact absurd hj (by omega)
end LD

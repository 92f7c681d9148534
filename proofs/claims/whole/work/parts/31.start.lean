/-! the law's start -/
theorem in_st : ∀ ci, ci < 13 → Cond.instantiable (rx_c ci) (nf_c ci) ∈ gw_s := by
  intro ci h
  match ci, h with
  | 0, _ => exact gw_i1 43 rfl rfl
  | 1, _ => exact gw_i1 79 rfl rfl
  | 2, _ => exact gw_i1 72 rfl rfl
  | 3, _ => exact gw_i2 13 rfl rfl
  | 4, _ => exact gw_i1 152 rfl rfl
  | 5, _ => exact gw_i1 49 rfl rfl
  | 6, _ => exact gw_i2 29 rfl rfl
  | 7, _ => exact gw_i1 27 rfl rfl
  | 8, _ => exact gw_i2 42 rfl rfl
  | 9, _ => exact gw_i1 132 rfl rfl
  | 10, _ => exact gw_i1 224 rfl rfl
  | 11, _ => exact gw_i1 19 rfl rfl
  | 12, _ => exact gw_i4 118 rfl rfl
theorem kn_ex {s : State} {args : Array Value} (hts : ∀ w ∈ lw_tbl, w.before args s = true) : ∃ K : Kn, kn_K K s := by
  have hg : ∀ w ∈ gw_s, w.before args s = true := fun w hw => hts w (List.mem_filter.mp hw).1
  have hc : ∀ ci, ∃ (cC : ClassId) (iS : Nat → Nat), ci < 13 → u_Kn s (rx_c ci) (tb_f ci) (nf_c ci) cC iS := by
    intro ci
    by_cases h : ci < 13
    · obtain ⟨cC, iS, hk⟩ := u_known (n := nf_c ci) hg (cl_in ci h) (hg _ (in_st ci h))
      exact ⟨cC, iS, fun _ => hk⟩
    · exact ⟨0, fun _ => 0, fun q => absurd q h⟩
  obtain ⟨cI, kI, coI, f1, f2, f3⟩ := Cond.arrayClass_spec (hg _ aw_int)
  obtain ⟨cZ, kZ, coZ, g1, g2, g3⟩ := Cond.arrayClass_spec (hg _ aw_boolean)
  have hn : ∀ w ∈ nw_s, va_Nw w s := by
    intro w hw
    have hq := (List.mem_filter.mp hw).2
    have hb := hts w (List.mem_filter.mp hw).1
    unfold nw_q at hq
    split at hq
    · exact va_Nw.of rfl hb
    · exact va_Nw.of rfl hb
    · exact va_AO.of hb
    · cases hq
  obtain ⟨co4, c4, k4, a1, a2, a3, a4, a5⟩ := Cond.arrayOver_spec (hn _ ao_4)
  obtain ⟨co1, c1, k1, b1, b2, b3, b4, b5⟩ := Cond.arrayOver_spec (hn _ ao_1)
  obtain ⟨co0, c0, k0, d1, d2, d3, d4, d5⟩ := Cond.arrayOver_spec (hn _ ao_0)
  refine ⟨(fun ci => (hc ci).choose, fun ci => (hc ci).choose_spec.choose, fun k => if k = 20 then cI else if k = 21 then cZ else if k = 22 then c4 else if k = 23 then c1 else c0), ⟨fun ci q hq => ?_, fun k q hq => ?_⟩, hn⟩
  · have h13 : ci < 13 := (List.getElem?_eq_some_iff.mp hq).1
    rw [cl_at ci h13] at hq
    cases hq
    exact (hc ci).choose_spec.choose_spec h13
  · match k, hq with
    | 0, hq => cases hq; exact ⟨fun n z => ⟨fun k h => (by cases h), kI, f2, coI, f3⟩, f1⟩
    | 1, hq => cases hq; exact ⟨fun n z => ⟨fun k h => (by cases h), kZ, g2, coZ, g3⟩, g1⟩
    | 2, hq => cases hq; exact ⟨fun n z => ⟨fun k h => (by cases h), k4, a3, co4, a4⟩, ⟨k4, co4, a3, a4, a1, a5⟩⟩
    | 3, hq => cases hq; exact ⟨fun n z => ⟨fun k h => (by cases h), k1, b3, co1, b4⟩, ⟨k1, co1, b3, b4, b1, b5⟩⟩
    | 4, hq => cases hq; exact ⟨fun n z => ⟨fun k h => (by cases h), k0, d3, co0, d4⟩, ⟨k0, co0, d3, d4, d1, d5⟩⟩
    | k + 5, hq => simp [ty_s] at hq
section LE
variable {p : Program} {l : Launch} {e : Env} {s : State} {m : MethodId} {args : Array Value} {below : List Frame} {meth : Method} {c : Code} {K : Kn} {b : Nat} {H : Heap} {locs : List Loc} {ls : Array Slot} {X : Xc} {u : Nat × Nat} {M : Me} {pc : Nat} {st : List Value} {Q : State → Prop}
theorem w_new {ci index : Nat} (A : Am X p s m args meth c K b) (hP : va_P (K.1, K.2.1) cl_s (en_c K.2.2 b M) H) (hS : va_S (fun q => b ≤ q) s.heap H locs) (hz : H.size = b + M.1.length) (hdg : decode X.1.2.1 pc = .ok (.new index, 3)) (hw : no_k X.1.1 index ci) (hu : u.1 + 1 ≤ X.2.2.1 ∧ u.2 + nf_c ci ≤ X.2.2.2)
    (k : ∀ (H1 : Heap), va_P (K.1, K.2.1) cl_s (en_c K.2.2 b (me_nw M (ci, nf_c ci))) H1 → va_S (fun q => b ≤ q) s.heap H1 locs → H1.size = b + (me_nw M (ci, nf_c ci)).1.length → W p l e (rm_d X.2.1 X.2.2.1 X.2.2.2) s m args below meth c H1 locs (u.1 + 1) (u.2 + nf_c ci) Q (F0 m (pc + 3) ls (.ref (b + M.1.length) :: st))) :
    W p l e (rm_d X.2.1 X.2.2.1 X.2.2.2) s m args below meth c H locs u.1 u.2 Q (F0 m pc ls st) := by
  obtain ⟨hc, h1, h2, h3⟩ := hw
  refine h_new A.1 A.2.1 A.2.2.2.2.2.1 (cl_in ci hc) (ty_f ci) (cl_ty ci hc) A.2.2.2.2.1 (A.2.2.2.2.2.1 _ h1) (A.2.2.2.2.2.1 _ h2) (A.2.2.2.2.2.1 _ h3) A.2.2.2.2.2.2.1.1 hP hS (cl_at ci hc) (fs := (List.range (nf_c ci)).map (fun k => if is_r (ty_f ci k) = true then va_rf (up_o b none) else .int 0)) (fun j hj => ?_) hu.1 hu.2 hdg (fun H1 hz1 hP1 hS1 => ?_)
  · rw [cl_df ci hc j hj]
    simp [vp_V, hj]
    rfl
  · rw [hz] at hP1 ⊢
    refine k H1 ?_ hS1 (by rw [hz1, hz]; simp [me_nw]; omega)
    rw [en_new, ce_obj hc]
    exact hP1
end LE
theorem cc_L_9 : cn_k RL 9 yX11_init mX11_init 0 := ⟨⟨Or.inl (gw_i1 20 rfl rfl), cw_X11_init⟩, rfl, gw_i1 21 rfl rfl, rfl⟩
theorem cc_L_12 : cn_k RL 12 yX12_init mX12_init 0 := ⟨⟨Or.inl (gw_i4 119 rfl rfl), cw_X12_init⟩, rfl, gw_i4 120 rfl rfl, rfl⟩
theorem cn_L_7 : no_k RL 7 11 := ⟨by decide, gw_i1 18 rfl rfl, gw_i1 19 rfl rfl, gw_i1 1 rfl rfl⟩
theorem cn_L_10 : no_k RL 10 12 := ⟨by decide, gw_i4 117 rfl rfl, gw_i4 118 rfl rfl, gw_i1 13 rfl rfl⟩
def M_e : Me := ([], fun _ _ => none, fun _ _ => 0)
noncomputable def M_b : Me := (f_X11_init 0 (me_nw M_e (11, 7))).getD M_e
noncomputable def M_0 : Me := (f_X12_init 70 (me_nw M_b (12, 32))).getD M_e
theorem M_b_ok : f_X11_init 0 (me_nw M_e (11, 7)) = some M_b := by
  have h : (f_X11_init 0 (me_nw M_e (11, 7))).isSome = true := by decide +kernel
  unfold M_b
  cases h2 : f_X11_init 0 (me_nw M_e (11, 7)) with
  | none => rw [h2] at h; cases h
  | some z => rfl
theorem M_b_len : M_b.1.length = 70 := by decide +kernel
theorem M_0_ok : f_X12_init 70 (me_nw M_b (12, 32)) = some M_0 := by
  have h : (f_X12_init 70 (me_nw M_b (12, 32))).isSome = true := by decide +kernel
  unfold M_0
  cases h2 : f_X12_init 70 (me_nw M_b (12, 32)) with
  | none => rw [h2] at h; cases h
  | some z => rfl
/-- THE LAW, from its entry, over an invariant -/
theorem start_of {Iv : Nat → Me → Prop} (h0 : Iv 0 M_0) (hstay : ∀ n M, n < 512 → Iv n M → Iv (n + 1) M) (ho0 : ∀ n M, n < 512 → Iv n M → op_0 (Iv (n + 1)) M) (ho1 : ∀ n M, n < 512 → Iv n M → op_1 (Iv (n + 1)) M) (ho2 : ∀ n M, n < 512 → Iv n M → op_2 (Iv (n + 1)) M) (ho3 : ∀ n M, n < 512 → Iv n M → op_3 (Iv (n + 1)) M) (ho4 : ∀ n M, n < 512 → Iv n M → op_4 (Iv (n + 1)) M) (ho5 : ∀ n M, n < 512 → Iv n M → op_5 (Iv (n + 1)) M) (ho6 : ∀ n M, n < 512 → Iv n M → op_6 (Iv (n + 1)) M) (ho7 : ∀ n M, n < 512 → Iv n M → op_7 (Iv (n + 1)) M) (ho8 : ∀ n M, n < 512 → Iv n M → op_8 (Iv (n + 1)) M) (ho9 : ∀ n M, n < 512 → Iv n M → op_9 (Iv (n + 1)) M) (ho10 : ∀ n M, n < 512 → Iv n M → op_10 (Iv (n + 1)) M) (ho11 : ∀ n M, n < 512 → Iv n M → op_11 (Iv (n + 1)) M) (ho12 : ∀ n M, n < 512 → Iv n M → op_12 (Iv (n + 1)) M) (ho13 : ∀ n M, n < 512 → Iv n M → op_13 (Iv (n + 1)) M) (ho14 : ∀ n M, n < 512 → Iv n M → op_14 (Iv (n + 1)) M) (ho15 : ∀ n M, n < 512 → Iv n M → op_15 (Iv (n + 1)) M) (ho16 : ∀ n M, n < 512 → Iv n M → op_16 (Iv (n + 1)) M) (ho17 : ∀ n M, n < 512 → Iv n M → op_17 (Iv (n + 1)) M) (ho18 : ∀ n M, n < 512 → Iv n M → op_18 (Iv (n + 1)) M) (ho19 : ∀ n M, n < 512 → Iv n M → op_19 (Iv (n + 1)) M) (ho20 : ∀ n M, n < 512 → Iv n M → op_20 (Iv (n + 1)) M) (ho21 : ∀ n M, n < 512 → Iv n M → op_21 (Iv (n + 1)) M) (ho22 : ∀ n M, n < 512 → Iv n M → op_22 (Iv (n + 1)) M) (ho23 : ∀ n M, n < 512 → Iv n M → op_23 (Iv (n + 1)) M) (ho24 : ∀ n M, n < 512 → Iv n M → op_24 (Iv (n + 1)) M) (ho25 : ∀ n M, n < 512 → Iv n M → op_25 (Iv (n + 1)) M) (ho26 : ∀ n M, n < 512 → Iv n M → op_26 (Iv (n + 1)) M) (ho27 : ∀ n M, n < 512 → Iv n M → op_27 (Iv (n + 1)) M) (ho28 : ∀ n M, n < 512 → Iv n M → op_28 (Iv (n + 1)) M) (ho29 : ∀ n M, n < 512 → Iv n M → op_29 (Iv (n + 1)) M) {p : Program} {e : Env} {s : State} {m : MethodId} {below : List Frame} {meth : Method} {c : Code} (l : Launch) {b L : Nat} {xs : Nat → Int32} (hL : L ≤ 3072) (C0 : lw_At p s m meth c b L xs) : W p l e room_1 s m #[Value.ref b] below meth c s.heap [] 0 0 (lw_Z below #[Value.ref b] s) (entryFrame m ([Value.ref b] : List Value).toArray 4) := by
  obtain ⟨hx, hb, hr, hml, hown, hts, hX, hbl, hlocks, hgv⟩ := C0
  obtain ⟨K, hK⟩ := kn_ex hts
  have A : Am (lw_X meth.name) p s m #[Value.ref b] meth c K s.heap.size := ⟨hx, hb, hr, hml, hown, fun w hw => hts w (List.mem_filter.mp hw).1, hK, hlocks, rfl, Nat.le_refl _⟩
  have C : La p s m meth c K b L xs := ⟨A, hX, hbl⟩
  have hl := lv_entry ([.ref b]) (n := 4) (Nat.le_of_ble_eq_true rfl)
  rw [lg_entry_eq]
  generalize (lg_sl ([.ref b]) ++ List.replicate (4 - (lg_sl ([.ref b])).length) Slot.unset).toArray = ls at hl ⊢
  have hl : lv_has ls 4 [(0, .ref b)] := hl
  have hP0 : va_P (K.1, K.2.1) cl_s (en_c K.2.2 s.heap.size M_e) s.heap := fun k q h => by simp [en_c, M_e] at h
  refine w_new (X := lw_X meth.name) (u := (0, 0)) (M := M_e) (ci := 11) (st := []) A hP0 va_S.rf (by simp [M_e]) dL_law_0 cn_L_7 ⟨Nat.le_of_ble_eq_true rfl, Nat.le_of_ble_eq_true rfl⟩ (fun H hP hS hz => ?_)
  refine lv_dup hx hb dL_law_3 rfl ?_
  refine w_callN (X := lw_X meth.name) (u := (1, 7)) (a := 0) (av := []) (st := [.ref 0]) (M := me_nw M_e (11, 7)) A hP hS hz hl.1 (ct_X11_init 8 (by decide) 0 _ M_b M_b_ok) dL_law_4 cc_L_9 rfl (Nat.le_refl 9) (Nat.le_of_ble_eq_true rfl) ⟨Nat.le_of_ble_eq_true rfl, Nat.le_of_ble_eq_true rfl⟩ (fun H locs hP hS hz => ?_)
  refine lv_astore_n (lv' := [(1, .ref (s.heap.size + 0)), (0, .ref b)]) hx hb dL_law_7 rfl hl (by decide) rfl (fun ls hl => ?_)
  refine w_new (X := lw_X meth.name) (u := (1 + 69, 7 + 590)) (M := M_b) (ci := 12) (st := []) A hP hS hz dL_law_8 cn_L_10 ⟨Nat.le_of_ble_eq_true rfl, Nat.le_of_ble_eq_true rfl⟩ (fun H hP hS hz => ?_)
  rw [M_b_len]
  refine lv_dup hx hb dL_law_11 rfl ?_
  refine w_callN (X := lw_X meth.name) (u := (1 + 69 + 1, 7 + 590 + 32)) (a := 70) (av := []) (st := [.ref 70]) (M := me_nw M_b (12, 32)) A hP hS hz hl.1 (ct_X12_init 8 (by decide) 70 _ M_0 M_0_ok) dL_law_12 cc_L_12 rfl (Nat.le_refl 9) (Nat.le_of_ble_eq_true rfl) ⟨Nat.le_of_ble_eq_true rfl, Nat.le_of_ble_eq_true rfl⟩ (fun H locs hP hS hz => ?_)
  refine lv_astore_n (lv' := [(2, .ref (s.heap.size + 70)), (1, .ref (s.heap.size + 0)), (0, .ref b)]) hx hb dL_law_15 rfl hl (by decide) rfl (fun ls hl => ?_)
  refine lv_iconst (v := 0) hx hb dL_law_16 (by decide) ?_
  refine lv_istore_n (lv' := [(3, .int 0), (2, .ref (s.heap.size + 70)), (1, .ref (s.heap.size + 0)), (0, .ref b)]) hx hb dL_law_17 rfl hl (by decide) rfl (fun ls hl => ?_)
  exact l_loop hL C hstay ho0 ho1 ho2 ho3 ho4 ho5 ho6 ho7 ho8 ho9 ho10 ho11 ho12 ho13 ho14 ho15 ho16 ho17 ho18 ho19 ho20 ho21 ho22 ho23 ho24 ho25 ho26 ho27 ho28 ho29 1000 0 M_0 (by omega) (by omega) h0 H locs ls hP hS hz (lv_sub hl [3, 2, 1, 0] rfl)

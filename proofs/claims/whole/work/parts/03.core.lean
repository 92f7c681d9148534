/-! THE MEMORY OF THE SYSTEM, AS A VALUE. Cell a of the memory lies at the address b + a, where b is the heap's size at the law's start.
 kinds: (c, n): c < 20: an object of class c of cl_s, with n fields; 20: int[], 21: boolean[], 22: Knight[], 23: Debt[], 24: Court[], of n places -/
abbrev cl_s : List vw_C := [(RX0, TX0, 6), (RX1, TX1, 5), (RX2, TX2, 2), (RX3, TX3, 3), (RX4, TX4, 7), (RX5, TX5, 3), (RX6, TX6, 2), (RX7, TX7, 2), (RX8, TX8, 4), (RX9, TX9, 3), (RX10, TX10, 5), (RX11, TX11, 7), (RX12, TX12, 32)]
def ty_f (c : Nat) : Nat → FieldType := match c with
  | 0 => tyX0 | 1 => tyX1 | 2 => tyX2 | 3 => tyX3 | 4 => tyX4 | 5 => tyX5 | 6 => tyX6 | 7 => tyX7 | 8 => tyX8 | 9 => tyX9 | 10 => tyX10 | 11 => tyX11 | _ => tyX12
def tb_f (c : Nat) : u_T := match c with
  | 0 => TX0 | 1 => TX1 | 2 => TX2 | 3 => TX3 | 4 => TX4 | 5 => TX5 | 6 => TX6 | 7 => TX7 | 8 => TX8 | 9 => TX9 | 10 => TX10 | 11 => TX11 | _ => TX12
def nf_c (c : Nat) : Nat := match c with
  | 0 => 6 | 1 => 5 | 2 => 2 | 3 => 3 | 4 => 7 | 5 => 3 | 6 => 2 | 7 => 2 | 8 => 4 | 9 => 3 | 10 => 5 | 11 => 7 | _ => 32
def rx_c (c : Nat) : String := match c with
  | 0 => RX0 | 1 => RX1 | 2 => RX2 | 3 => RX3 | 4 => RX4 | 5 => RX5 | 6 => RX6 | 7 => RX7 | 8 => RX8 | 9 => RX9 | 10 => RX10 | 11 => RX11 | _ => RX12
def is_r (t : FieldType) : Bool := match t with
  | .object _ => true
  | .array _ => true
  | _ => false
/-- words that stay true as the machine warms: those that a contract may hold; nest mates' links and arrays of references apart -/
def gw_s : List Cond := lw_tbl.filter goodWord
def nw_q : Cond → Bool
  | .fieldLinkNest _ _ _ _ _ _ => true
  | .methodLinkNest _ _ _ _ => true
  | .arrayOver (.object _) => true
  | _ => false
def nw_s : List Cond := lw_tbl.filter nw_q
theorem gw_in {w : Cond} (i : Nat) (h : lw_tbl[i]? = some w) (hg : goodWord w = true) : w ∈ gw_s := List.mem_filter.mpr ⟨List.mem_of_getElem? h, hg⟩
theorem nw_in {w : Cond} (i : Nat) (h : lw_tbl[i]? = some w) (hg : nw_q w = true) : w ∈ nw_s := List.mem_filter.mpr ⟨List.mem_of_getElem? h, hg⟩
theorem gw_good : ∀ w ∈ gw_s, (w.onTables && w.keeps) = true ∨ ∃ ty, w = .arrayClass ty := fun w h => good_of_word (List.mem_filter.mp h).2
theorem nw_warm {w : Cond} (hq : nw_q w = true) {s U : State} (hW : s.WarmedH U.vm) (h : va_Nw w s) : va_Nw w U := by
  unfold nw_q at hq
  split at hq
  · exact va_Nw.warmF hW h
  · exact va_Nw.warmM hW h
  · exact va_AO.moved hW.alike h
  · cases hq
theorem nw_same {w : Cond} (hq : nw_q w = true) {s U : State} (hv : s.vm = U.vm) (h : va_Nw w s) : va_Nw w U := by
  unfold nw_q at hq
  split at hq
  · exact va_Nw.same rfl hv h
  · exact va_Nw.same rfl hv h
  · exact va_AO.moved (by rw [hv]; exact Vm.Alike.refl _) h
  · cases hq
theorem cl_at : ∀ ci, ci < 13 → cl_s[ci]? = some (rx_c ci, tb_f ci, nf_c ci) := by
  intro ci h
  match ci, h with
  | 0, _ => rfl
  | 1, _ => rfl
  | 2, _ => rfl
  | 3, _ => rfl
  | 4, _ => rfl
  | 5, _ => rfl
  | 6, _ => rfl
  | 7, _ => rfl
  | 8, _ => rfl
  | 9, _ => rfl
  | 10, _ => rfl
  | 11, _ => rfl
  | 12, _ => rfl
theorem cl_ty : ∀ ci, ci < 13 → ∀ k, k < nf_c ci → parseFieldDescriptor (tb_f ci k).2.2.1 = some (ty_f ci k) := by
  intro ci h
  match ci, h with
  | 0, _ => exact tyX0_ok
  | 1, _ => exact tyX1_ok
  | 2, _ => exact tyX2_ok
  | 3, _ => exact tyX3_ok
  | 4, _ => exact tyX4_ok
  | 5, _ => exact tyX5_ok
  | 6, _ => exact tyX6_ok
  | 7, _ => exact tyX7_ok
  | 8, _ => exact tyX8_ok
  | 9, _ => exact tyX9_ok
  | 10, _ => exact tyX10_ok
  | 11, _ => exact tyX11_ok
  | 12, _ => exact tyX12_ok
theorem cl_nm : ∀ ci, ci < 13 → ∀ a, a < nf_c ci → ∀ b, b < nf_c ci → a ≠ b → (tb_f ci a).2.1 ≠ (tb_f ci b).2.1 := by
  intro ci h
  match ci, h with
  | 0, _ => exact nmX0
  | 1, _ => exact nmX1
  | 2, _ => exact nmX2
  | 3, _ => exact nmX3
  | 4, _ => exact nmX4
  | 5, _ => exact nmX5
  | 6, _ => exact nmX6
  | 7, _ => exact nmX7
  | 8, _ => exact nmX8
  | 9, _ => exact nmX9
  | 10, _ => exact nmX10
  | 11, _ => exact nmX11
  | 12, _ => exact nmX12
theorem cl_in0 : ∀ w ∈ u_ws RX0 TX0 6, w ∈ gw_s := by decide +kernel
theorem cl_in1 : ∀ w ∈ u_ws RX1 TX1 5, w ∈ gw_s := by decide +kernel
theorem cl_in2 : ∀ w ∈ u_ws RX2 TX2 2, w ∈ gw_s := by decide +kernel
theorem cl_in3 : ∀ w ∈ u_ws RX3 TX3 3, w ∈ gw_s := by decide +kernel
theorem cl_in4 : ∀ w ∈ u_ws RX4 TX4 7, w ∈ gw_s := by decide +kernel
theorem cl_in5 : ∀ w ∈ u_ws RX5 TX5 3, w ∈ gw_s := by decide +kernel
theorem cl_in6 : ∀ w ∈ u_ws RX6 TX6 2, w ∈ gw_s := by decide +kernel
theorem cl_in7 : ∀ w ∈ u_ws RX7 TX7 2, w ∈ gw_s := by decide +kernel
theorem cl_in8 : ∀ w ∈ u_ws RX8 TX8 4, w ∈ gw_s := by decide +kernel
theorem cl_in9 : ∀ w ∈ u_ws RX9 TX9 3, w ∈ gw_s := by decide +kernel
theorem cl_in10 : ∀ w ∈ u_ws RX10 TX10 5, w ∈ gw_s := by decide +kernel
theorem cl_in11 : ∀ w ∈ u_ws RX11 TX11 7, w ∈ gw_s := by decide +kernel
theorem cl_in12 : ∀ w ∈ u_ws RX12 TX12 32, w ∈ gw_s := by decide +kernel
theorem cl_in : ∀ ci, ci < 13 → ∀ w ∈ u_ws (rx_c ci) (tb_f ci) (nf_c ci), w ∈ gw_s := by
  intro ci h
  match ci, h with
  | 0, _ => exact cl_in0
  | 1, _ => exact cl_in1
  | 2, _ => exact cl_in2
  | 3, _ => exact cl_in3
  | 4, _ => exact cl_in4
  | 5, _ => exact cl_in5
  | 6, _ => exact cl_in6
  | 7, _ => exact cl_in7
  | 8, _ => exact cl_in8
  | 9, _ => exact cl_in9
  | 10, _ => exact cl_in10
  | 11, _ => exact cl_in11
  | 12, _ => exact cl_in12
/-! memory -/
abbrev Me : Type := List (Nat × Nat) × (Nat → Nat → Option Nat) × (Nat → Nat → Int32)
def me_k (M : Me) (a : Nat) : Option (Nat × Nat) := M.1[a]?
def me_r (M : Me) (a k : Nat) : Option Nat := M.2.1 a k
def me_i (M : Me) (a k : Nat) : Int32 := M.2.2 a k
def me_si (M : Me) (a k : Nat) (v : Int32) : Me := (M.1, M.2.1, fun x y => if x = a ∧ y = k then v else M.2.2 x y)
def me_sr (M : Me) (a k : Nat) (o : Option Nat) : Me := (M.1, fun x y => if x = a ∧ y = k then o else M.2.1 x y, M.2.2)
def me_cp (M : Me) (a a0 sp dp n : Nat) : Me := (M.1, M.2.1, fun x y => if x = a then va_cpy (M.2.2 a0) (M.2.2 a) sp dp n y else M.2.2 x y)
def me_nw (M : Me) (kd : Nat × Nat) : Me := (M.1 ++ [kd], fun x y => if x = M.1.length then none else M.2.1 x y, fun x y => if x = M.1.length then 0 else M.2.2 x y)
def up_v (b : Nat) (v : Value) : Value := match v with
  | .ref a => .ref (b + a)
  | v => v
def up_o (b : Nat) (o : Option Nat) : Option Nat := o.map (fun a => b + a)
theorem up_cat (b : Nat) (v : Value) : (up_v b v).category = v.category := by cases v <;> rfl
/-- a cell, as the kit's worlds have it -/
def ce_l (dA : Nat → ClassId) (b : Nat) (kd : Nat × Nat) (r : Nat → Option Nat) (i : Nat → Int32) : va_E :=
  if kd.1 < 20 then .inr (kd.1, (List.range kd.2).map (fun k => if is_r (ty_f kd.1 k) = true then va_rf (up_o b (r k)) else .int (i k)))
  else if kd.1 < 22 then .inl (dA kd.1, kd.2, .inl i)
  else .inl (dA kd.1, kd.2, .inr (.inr (.inr (.inr (fun j => up_o b (r j))))))
def en_c (dA : Nat → ClassId) (b : Nat) (M : Me) : va_W := M.1.mapIdx (fun a kd => (b + a, ce_l dA b kd (M.2.1 a) (M.2.2 a)))
theorem en_get {dA : Nat → ClassId} {b : Nat} {M : Me} (a : Nat) : (en_c dA b M)[a]? = (M.1[a]?).map (fun kd => (b + a, ce_l dA b kd (M.2.1 a) (M.2.2 a))) := by
  simp [en_c, List.getElem?_mapIdx]
theorem en_at {dA : Nat → ClassId} {b : Nat} {M : Me} {a : Nat} {kd : Nat × Nat} (h : me_k M a = some kd) : (en_c dA b M)[a]? = some (b + a, ce_l dA b kd (M.2.1 a) (M.2.2 a)) := by
  rw [en_get, show M.1[a]? = some kd from h]; rfl
theorem en_D {dA : Nat → ClassId} {b : Nat} {M : Me} : va_D (fun q => b ≤ q) (en_c dA b M) := by
  refine ⟨fun i j p q hi hj hpq => ?_, fun k q hk => ?_⟩
  · rw [en_get] at hi hj
    obtain ⟨x, -, rfl⟩ := Option.map_eq_some_iff.mp hi
    obtain ⟨y, -, rfl⟩ := Option.map_eq_some_iff.mp hj
    have h2 : b + i = b + j := hpq
    omega
  · rw [en_get] at hk
    obtain ⟨x, -, rfl⟩ := Option.map_eq_some_iff.mp hk
    exact Nat.le_add_right b k
theorem en_ext {w w2 : va_W} (h : ∀ a : Nat, w[a]? = w2[a]?) : w = w2 := List.ext_getElem? h
/-- two memories that differ in one cell alone -/
theorem en_set {dA : Nat → ClassId} {b : Nat} {M N : Me} {a : Nat} {kd : Nat × Nat} {e : va_E} (hk : me_k M a = some kd) (h1 : N.1 = M.1) (ho : ∀ x, x ≠ a → N.2.1 x = M.2.1 x ∧ N.2.2 x = M.2.2 x) (he : ce_l dA b kd (N.2.1 a) (N.2.2 a) = e) : (en_c dA b M).set a (b + a, e) = en_c dA b N := by
  apply en_ext
  intro x
  rw [List.getElem?_set, en_get, en_get, h1]
  by_cases hx : a = x
  · subst hx
    have hk2 : M.1[a]? = some kd := hk
    have hl : a < M.1.length := (List.getElem?_eq_some_iff.mp hk2).1
    rw [if_pos rfl, if_pos (by simpa [en_c] using hl), hk2]
    simp only [Option.map_some]
    rw [he]
  · rw [if_neg hx, (ho x (fun q => hx q.symm)).1, (ho x (fun q => hx q.symm)).2]
theorem en_new {dA : Nat → ClassId} {b : Nat} {M : Me} {kd : Nat × Nat} : en_c dA b (me_nw M kd) = en_c dA b M ++ [(b + M.1.length, ce_l dA b kd (fun _ => none) (fun _ => 0))] := by
  apply en_ext
  intro x
  rw [en_get]
  show ((M.1 ++ [kd])[x]?).map _ = _
  by_cases hx : x < M.1.length
  · rw [List.getElem?_append_left hx, List.getElem?_append_left (by simpa [en_c] using hx), en_get]
    have hn : ¬ x = M.1.length := by omega
    simp only [me_nw, if_neg hn]
  · by_cases hx2 : x = M.1.length
    · subst hx2
      rw [List.getElem?_append_right (Nat.le_refl _), List.getElem?_append_right (by simp [en_c])]
      simp [me_nw, en_c]
    · rw [List.getElem?_append_right (by omega), List.getElem?_append_right (by simp [en_c]; omega)]
      have h1 : ¬ x - M.1.length = 0 := by omega
      have h2 : ([kd] : List (Nat × Nat))[x - M.1.length]? = none := by
        apply List.getElem?_eq_none; simp; omega
      have h3 : ∀ z : Nat × va_E, ([z] : va_W)[x - (en_c dA b M).length]? = none := by
        intro z; apply List.getElem?_eq_none; simp [en_c]; omega
      rw [h2, h3]; rfl

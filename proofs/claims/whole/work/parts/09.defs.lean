/-! rules with their facts in one, and the calls by the kind of what they answer -/
def ck {β : Type} (M : Me) (a ci : Nat) (F : Option β) : Option β := if me_k M a = some (ci, nf_c ci) then F else none
theorem ck_some {β : Type} {M : Me} {a ci : Nat} {F : Option β} {r : β} (h : ck M a ci F = some r) : me_k M a = some (ci, nf_c ci) ∧ F = some r := by
  unfold ck at h
  split at h
  · rename_i h0; exact ⟨h0, h⟩
  · cases h
def cI {β : Type} (x : Option (Int32 × Me)) (Kf : Int32 → Me → Option β) : Option β := x.bind (fun z => Kf z.1 z.2)
def cE {β : Type} (x : Option (Int64 × Me)) (Kf : Int64 → Me → Option β) : Option β := x.bind (fun z => Kf z.1 z.2)
def cP {β : Type} (x : Option Int32) (Kf : Int32 → Option β) : Option β := x.bind Kf
def cL {β : Type} (x : Option Int64) (Kf : Int64 → Option β) : Option β := x.bind Kf
def cR {β : Type} (x : Option Nat) (Kf : Nat → Option β) : Option β := x.bind Kf
def cM {β : Type} (x : Option Me) (Kf : Me → Option β) : Option β := x.bind Kf
def ex_r {E T β : Type} (x : Option (E ⊕ T)) (H : E → Option β) (P : T → Option β) : Option β := x.bind (fun z => match z with
  | .inl e => H e
  | .inr t => P t)
def fi_k (own : String) (index ci k : Nat) : Prop := fl_k own index ci k ∧ ci < 13 ∧ k < nf_c ci ∧ is_r (ty_f ci k) = false
def fr_k (own : String) (index ci k : Nat) : Prop := fl_k own index ci k ∧ ci < 13 ∧ k < nf_c ci ∧ is_r (ty_f ci k) = true
def wi_k (own : String) (index ci k : Nat) : Prop := fl_k own index ci k ∧ ci < 13 ∧ k < nf_c ci ∧ ty_f ci k = .int ∧ (tb_f ci k).2.2.2 = false
def wz_k (own : String) (index ci k : Nat) : Prop := fl_k own index ci k ∧ ci < 13 ∧ k < nf_c ci ∧ ty_f ci k = .boolean ∧ (tb_f ci k).2.2.2 = false
def wr_k (own : String) (index ci k : Nat) : Prop := Cond.fieldLink own index (tb_f ci k).1 (tb_f ci k).2.1 (tb_f ci k).2.2.1 ∈ gw_s ∧ ci < 13 ∧ k < nf_c ci ∧ is_r (ty_f ci k) = true ∧ (tb_f ci k).2.2.2 = true ∧ (tb_f ci k).1 = own
def cv_k (own : String) (index : Nat) (y : MethodName) (Y : My) (n ci : Nat) : Prop := cw_k own index y Y n ∧ Cond.instanceMethod y ∈ gw_s ∧ Cond.selects y.cls y y ∈ gw_s ∧ ci < 13 ∧ y.cls = rx_c ci
def cs_k (own : String) (index : Nat) (y : MethodName) (Y : My) (n : Nat) : Prop := cw_k own index y Y n ∧ Cond.static y ∈ gw_s
def cn_k (own : String) (index : Nat) (y : MethodName) (Y : My) (n : Nat) : Prop := cw_k own index y Y n ∧ Y.2.2.2.1 = none ∧ Cond.instanceMethod y ∈ gw_s ∧ y.name = "<init>"
def no_k (own : String) (index ci : Nat) : Prop := ci < 13 ∧ Cond.classLink own index (rx_c ci) ∈ gw_s ∧ Cond.instantiable (rx_c ci) (nf_c ci) ∈ gw_s ∧ Cond.initialized (rx_c ci) ∈ gw_s
def mx_i (x y : Int32) : Int32 := if x < y then y else x
def mn_i (x y : Int32) : Int32 := if y < x then y else x
def mx_l (x y : Int64) : Int64 := if y < x then x else y
def lo_l : List (Option Value) → List (Option Value) → Prop
  | [], _ => True
  | none :: l2, _ :: l => lo_l l2 l
  | none :: _, [] => False
  | some v :: l2, w :: l => w = some v ∧ lo_l l2 l
  | some _ :: _, [] => False
theorem lo_ls : ∀ (l2 l : List (Option Value)), lo_l l2 l → ∀ (k : Nat) (v : Value), l2[k]? = some (some v) → l[k]? = some (some v) := by
  intro l2
  induction l2 with
  | nil => intro l _ k v h; cases h
  | cons a l2 ih =>
    intro l h k v hk
    cases l with
    | nil => cases a <;> exact h.elim
    | cons w l =>
      cases a with
      | none =>
        cases k with
        | zero => cases hk
        | succ k => exact ih l h k v hk
      | some z =>
        obtain ⟨h1, h2⟩ := h
        cases k with
        | zero => subst h1; exact hk
        | succ k => exact ih l h2 k v hk

theorem gw_i0 {w : Cond} (i : Nat) (h : (k2_sels lw_privs)[i]? = some w) (hg : goodWord w = true) : w ∈ gw_s := List.mem_filter.mpr ⟨List.mem_append_left _ (List.mem_of_getElem? h), hg⟩
theorem nw_i0 {w : Cond} (i : Nat) (h : (k2_sels lw_privs)[i]? = some w) (hg : nw_q w = true) : w ∈ nw_s := List.mem_filter.mpr ⟨List.mem_append_left _ (List.mem_of_getElem? h), hg⟩
theorem tb_1 {w : Cond} (h : w ∈ tables_1_1) : w ∈ tables_1 := List.mem_append_left _ h
theorem gw_i1 {w : Cond} (i : Nat) (h : (tables_1_1)[i]? = some w) (hg : goodWord w = true) : w ∈ gw_s := List.mem_filter.mpr ⟨List.mem_append_right _ (tb_1 (List.mem_of_getElem? h)), hg⟩
theorem nw_i1 {w : Cond} (i : Nat) (h : (tables_1_1)[i]? = some w) (hg : nw_q w = true) : w ∈ nw_s := List.mem_filter.mpr ⟨List.mem_append_right _ (tb_1 (List.mem_of_getElem? h)), hg⟩
theorem tb_2 {w : Cond} (h : w ∈ tables_1_2) : w ∈ tables_1 := List.mem_append_right _ (List.mem_append_left _ h)
theorem gw_i2 {w : Cond} (i : Nat) (h : (tables_1_2)[i]? = some w) (hg : goodWord w = true) : w ∈ gw_s := List.mem_filter.mpr ⟨List.mem_append_right _ (tb_2 (List.mem_of_getElem? h)), hg⟩
theorem nw_i2 {w : Cond} (i : Nat) (h : (tables_1_2)[i]? = some w) (hg : nw_q w = true) : w ∈ nw_s := List.mem_filter.mpr ⟨List.mem_append_right _ (tb_2 (List.mem_of_getElem? h)), hg⟩
theorem tb_3 {w : Cond} (h : w ∈ tables_1_3) : w ∈ tables_1 := List.mem_append_right _ (List.mem_append_right _ (List.mem_append_left _ h))
theorem gw_i3 {w : Cond} (i : Nat) (h : (tables_1_3)[i]? = some w) (hg : goodWord w = true) : w ∈ gw_s := List.mem_filter.mpr ⟨List.mem_append_right _ (tb_3 (List.mem_of_getElem? h)), hg⟩
theorem nw_i3 {w : Cond} (i : Nat) (h : (tables_1_3)[i]? = some w) (hg : nw_q w = true) : w ∈ nw_s := List.mem_filter.mpr ⟨List.mem_append_right _ (tb_3 (List.mem_of_getElem? h)), hg⟩
theorem tb_4 {w : Cond} (h : w ∈ tables_1_4) : w ∈ tables_1 := List.mem_append_right _ (List.mem_append_right _ (List.mem_append_right _ (List.mem_append_left _ h)))
theorem gw_i4 {w : Cond} (i : Nat) (h : (tables_1_4)[i]? = some w) (hg : goodWord w = true) : w ∈ gw_s := List.mem_filter.mpr ⟨List.mem_append_right _ (tb_4 (List.mem_of_getElem? h)), hg⟩
theorem nw_i4 {w : Cond} (i : Nat) (h : (tables_1_4)[i]? = some w) (hg : nw_q w = true) : w ∈ nw_s := List.mem_filter.mpr ⟨List.mem_append_right _ (tb_4 (List.mem_of_getElem? h)), hg⟩
theorem tb_5 {w : Cond} (h : w ∈ tables_1_5) : w ∈ tables_1 := List.mem_append_right _ (List.mem_append_right _ (List.mem_append_right _ (List.mem_append_right _ (h))))
theorem gw_i5 {w : Cond} (i : Nat) (h : (tables_1_5)[i]? = some w) (hg : goodWord w = true) : w ∈ gw_s := List.mem_filter.mpr ⟨List.mem_append_right _ (tb_5 (List.mem_of_getElem? h)), hg⟩
theorem nw_i5 {w : Cond} (i : Nat) (h : (tables_1_5)[i]? = some w) (hg : nw_q w = true) : w ∈ nw_s := List.mem_filter.mpr ⟨List.mem_append_right _ (tb_5 (List.mem_of_getElem? h)), hg⟩

/-! THE JUDGEMENT V: from this place of the method, in this memory, with these locals and this stack, the method comes to what the pure value F, carried on by G, says -/
/-- own class, bytes, places for locals, return type, name -/
abbrev My : Type := String × ByteArray × Nat × Option FieldType × String
/-- the method; the depth of calls that is left; the cells and slots that it may make -/
abbrev Xc : Type := My × Nat × Nat × Nat
abbrev Kn : Type := (Nat → ClassId) × (Nat → Nat → Nat) × (Nat → ClassId)
abbrev Rs : Type := Option Value × Me
def ty_s (K : Kn) : List (ClassId × FieldType) := [(K.2.2 20, .int), (K.2.2 21, .boolean), (K.2.2 22, .object RX4), (K.2.2 23, .object RX1), (K.2.2 24, .object RX0)]
def kn_K (K : Kn) (s : State) : Prop := va_K (K.1, K.2.1) cl_s (ty_s K) s ∧ ∀ w ∈ nw_s, va_Nw w s
theorem kn_K.warm {K : Kn} {s U : State} (hW : s.WarmedH U.vm) (h : kn_K K s) : kn_K K U := ⟨va_K.moved hW.alike h.1, fun w hw => nw_warm (List.mem_filter.mp hw).2 hW (h.2 w hw)⟩
theorem kn_K.same {K : Kn} {s U : State} (hv : s.vm = U.vm) (h : kn_K K s) : kn_K K U := ⟨va_K.moved (by rw [hv]; exact Vm.Alike.refl _) h.1, fun w hw => nw_same (List.mem_filter.mp hw).2 hv (h.2 w hw)⟩
def ho_d (K : Kn) (b : Nat) (M : Me) (U : State) : Prop := U.heap.size = b + M.1.length ∧ va_P (K.1, K.2.1) cl_s (en_c K.2.2 b M) U.heap ∧ kn_K K U
def rm_d (d mc ms : Nat) : Room := { frames := d, cells := mc, slots := ms, locals := 38 * d }
def qc_r (K : Kn) (b : Nat) (res : Rs) : Array Value → State → Outcome → State → Prop := fun _ st o t => o = .returned (res.1.map (up_v b)) ∧ ho_d K b res.2 t ∧ va_F (fun q => b ≤ q) st t
/-- a method's contract, exact: called with av in the memory M it answers res.1, and the memory is res.2 then -/
def Ct (y : MethodName) (Y : My) (d mc ms : Nat) (av : List Value) (M : Me) (res : Rs) : Prop :=
  ∀ (l : Launch) (K : Kn) (b : Nat), Met l y (.code y Y.2.1 Y.2.2.1 Y.2.2.2.1 :: gw_s) (rm_d d mc ms) (va_Pc (av.map (up_v b)) (ho_d K b M)) (qc_r K b res) mc ms (fun q => b ≤ q)
def Am (X : Xc) (p : Program) (s : State) (m : MethodId) (args : Array Value) (meth : Method) (c : Code) (K : Kn) (b : Nat) : Prop :=
  p.tables.exec = Jvm.exec ∧ c.code = X.1.2.1 ∧ meth.sig.returnType = X.1.2.2.2.1 ∧ c.maxLocals = X.1.2.2.1 ∧ s.vm.findClass X.1.1 = some m.cls ∧ (∀ w ∈ gw_s, w.before args s = true) ∧ kn_K K s ∧ meth.locks = false ∧ meth.name = X.1.2.2.2.2 ∧ b ≤ s.heap.size
def lo_k (b nL : Nat) (loc : List (Option Value)) (ls : Array Slot) : Prop := ls.size = nL ∧ lv_wf ls ∧ ∀ (k : Nat) (v : Value), loc[k]? = some (some v) → ls[k]? = some (.val (up_v b v))
def Vd (X : Xc) (u : Nat × Nat) (M : Me) (pc : Nat) (loc : List (Option Value)) (st : List Value) (res : Rs) : Prop :=
  ∀ (p : Program) (l : Launch) (e : Env) (s : State) (m : MethodId) (args : Array Value) (below : List Frame) (meth : Method) (c : Code) (K : Kn) (b : Nat) (H : Heap) (locs : List Loc) (ls : Array Slot),
    Am X p s m args meth c K b → va_P (K.1, K.2.1) cl_s (en_c K.2.2 b M) H → va_S (fun q => b ≤ q) s.heap H locs → H.size = b + M.1.length → lo_k b X.1.2.2.1 loc ls →
    W p l e (rm_d X.2.1 X.2.2.1 X.2.2.2) s m args below meth c H locs u.1 u.2 (MQ below (qc_r K b res) args s X.2.2.1 X.2.2.2 (fun q => b ≤ q)) (F0 m pc ls (st.map (up_v b)))
def V (X : Xc) (u : Nat × Nat) (M : Me) (pc : Nat) (loc : List (Option Value)) (st : List Value) {β : Type} (F : Option β) (G : β → Option Rs) : Prop :=
  ∀ res : Rs, F.bind G = some res → Vd X u M pc loc st res
section JA
variable {X : Xc} {u : Nat × Nat} {M : Me} {pc q : Nat} {loc : List (Option Value)} {st : List Value} {β : Type} {F : Option β} {G : β → Option Rs}
/-- constants -/
theorem v_iconst {n : Int} {v : Int32} (hdg : decode X.1.2.1 pc = .ok (.iconst n, 1)) (hq : pc + 1 = q) (hv : Int32.ofInt n = v) (k : V X u M q loc (.int v :: st) F G) : V X u M pc loc st F G := by
  subst hq
  intro res hres p l e s m args below meth c K b H locs ls A hP hS hz hl
  exact lv_iconst A.1 A.2.1 hdg hv (k res hres p l e s m args below meth c K b H locs ls A hP hS hz hl)
theorem v_bipush {n : Int} {v : Int32} (hdg : decode X.1.2.1 pc = .ok (.bipush n, 2)) (hq : pc + 2 = q) (hv : (Int8.ofInt n).toInt32 = v) (k : V X u M q loc (.int v :: st) F G) : V X u M pc loc st F G := by
  subst hq
  intro res hres p l e s m args below meth c K b H locs ls A hP hS hz hl
  exact lv_bipush A.1 A.2.1 hdg hv (k res hres p l e s m args below meth c K b H locs ls A hP hS hz hl)
theorem v_sipush {n : Int} {v : Int32} (hdg : decode X.1.2.1 pc = .ok (.sipush n, 3)) (hq : pc + 3 = q) (hv : (Int16.ofInt n).toInt32 = v) (k : V X u M q loc (.int v :: st) F G) : V X u M pc loc st F G := by
  subst hq
  intro res hres p l e s m args below meth c K b H locs ls A hP hS hz hl
  exact lv_sipush A.1 A.2.1 hdg hv (k res hres p l e s m args below meth c K b H locs ls A hP hS hz hl)
theorem v_lconst {n : Fin 2} {v : Int64} (hdg : decode X.1.2.1 pc = .ok (.lconst n, 1)) (hq : pc + 1 = q) (hv : Int64.ofNat (n : Nat) = v) (k : V X u M q loc (.long v :: st) F G) : V X u M pc loc st F G := by
  subst hq
  intro res hres p l e s m args below meth c K b H locs ls A hP hS hz hl
  exact lv_lconst A.1 A.2.1 hdg hv (k res hres p l e s m args below meth c K b H locs ls A hP hS hz hl)
theorem v_ldc {index : Nat} {v : Int32} (hc : Cond.constant X.1.1 index v ∈ gw_s) (hdg : decode X.1.2.1 pc = .ok (.ldc index, 2)) (hq : pc + 2 = q) (k : V X u M q loc (.int v :: st) F G) : V X u M pc loc st F G := by
  subst hq
  intro res hres p l e s m args below meth c K b H locs ls A hP hS hz hl
  exact lv_ldc A.1 A.2.1 A.2.2.2.2.1 (A.2.2.2.2.2.1 _ hc) hdg (k res hres p l e s m args below meth c K b H locs ls A hP hS hz hl)
theorem v_ldcw {index : Nat} {v : Int32} (hc : Cond.constant X.1.1 index v ∈ gw_s) (hdg : decode X.1.2.1 pc = .ok (.ldc_w index, 3)) (hq : pc + 3 = q) (k : V X u M q loc (.int v :: st) F G) : V X u M pc loc st F G := by
  subst hq
  intro res hres p l e s m args below meth c K b H locs ls A hP hS hz hl
  exact lv_ldcw A.1 A.2.1 A.2.2.2.2.1 (A.2.2.2.2.2.1 _ hc) hdg (k res hres p l e s m args below meth c K b H locs ls A hP hS hz hl)
theorem v_ldc2 {index : Nat} {v : Int64} (hc : Cond.constantLong X.1.1 index v ∈ gw_s) (hdg : decode X.1.2.1 pc = .ok (.ldc2_w index, 3)) (hq : pc + 3 = q) (k : V X u M q loc (.long v :: st) F G) : V X u M pc loc st F G := by
  subst hq
  intro res hres p l e s m args below meth c K b H locs ls A hP hS hz hl
  exact lv_ldc2 A.1 A.2.1 A.2.2.2.2.1 (A.2.2.2.2.2.1 _ hc) hdg (k res hres p l e s m args below meth c K b H locs ls A hP hS hz hl)
/-- loads, by the place in the list of locals -/
theorem v_iload_n {j : Fin 4} {i : Nat} {x : Int32} (hdg : decode X.1.2.1 pc = .ok (.iload_n j, 1)) (hq : pc + 1 = q) (hj : (j : Nat) = i) (hl0 : loc[i]? = some (some (.int x))) (k : V X u M q loc (.int x :: st) F G) : V X u M pc loc st F G := by
  subst hq
  intro res hres p l e s m args below meth c K b H locs ls A hP hS hz hl
  exact lv_iload_n A.1 A.2.1 hdg hj (hl.2.2 i _ hl0) (k res hres p l e s m args below meth c K b H locs ls A hP hS hz hl)
theorem v_iload {i : Nat} {x : Int32} (hdg : decode X.1.2.1 pc = .ok (.iload i, 2)) (hq : pc + 2 = q) (hl0 : loc[i]? = some (some (.int x))) (k : V X u M q loc (.int x :: st) F G) : V X u M pc loc st F G := by
  subst hq
  intro res hres p l e s m args below meth c K b H locs ls A hP hS hz hl
  exact lv_iload A.1 A.2.1 hdg (hl.2.2 i _ hl0) (k res hres p l e s m args below meth c K b H locs ls A hP hS hz hl)
theorem v_lload_n {j : Fin 4} {i : Nat} {x : Int64} (hdg : decode X.1.2.1 pc = .ok (.lload_n j, 1)) (hq : pc + 1 = q) (hj : (j : Nat) = i) (hl0 : loc[i]? = some (some (.long x))) (k : V X u M q loc (.long x :: st) F G) : V X u M pc loc st F G := by
  subst hq
  intro res hres p l e s m args below meth c K b H locs ls A hP hS hz hl
  exact lv_lload_n A.1 A.2.1 hdg hj (hl.2.2 i _ hl0) (k res hres p l e s m args below meth c K b H locs ls A hP hS hz hl)
theorem v_lload {i : Nat} {x : Int64} (hdg : decode X.1.2.1 pc = .ok (.lload i, 2)) (hq : pc + 2 = q) (hl0 : loc[i]? = some (some (.long x))) (k : V X u M q loc (.long x :: st) F G) : V X u M pc loc st F G := by
  subst hq
  intro res hres p l e s m args below meth c K b H locs ls A hP hS hz hl
  exact lv_lload A.1 A.2.1 hdg (hl.2.2 i _ hl0) (k res hres p l e s m args below meth c K b H locs ls A hP hS hz hl)
theorem v_aload_n {j : Fin 4} {i : Nat} {x : Nat} (hdg : decode X.1.2.1 pc = .ok (.aload_n j, 1)) (hq : pc + 1 = q) (hj : (j : Nat) = i) (hl0 : loc[i]? = some (some (.ref x))) (k : V X u M q loc (.ref x :: st) F G) : V X u M pc loc st F G := by
  subst hq
  intro res hres p l e s m args below meth c K b H locs ls A hP hS hz hl
  exact lv_aload_n A.1 A.2.1 hdg hj (hl.2.2 i _ hl0) (k res hres p l e s m args below meth c K b H locs ls A hP hS hz hl)
theorem v_aload {i : Nat} {x : Nat} (hdg : decode X.1.2.1 pc = .ok (.aload i, 2)) (hq : pc + 2 = q) (hl0 : loc[i]? = some (some (.ref x))) (k : V X u M q loc (.ref x :: st) F G) : V X u M pc loc st F G := by
  subst hq
  intro res hres p l e s m args below meth c K b H locs ls A hP hS hz hl
  exact lv_aload A.1 A.2.1 hdg (hl.2.2 i _ hl0) (k res hres p l e s m args below meth c K b H locs ls A hP hS hz hl)
end JA
/-- no value of two places right ahead of this one -/
def nl_k (loc : List (Option Value)) (k : Nat) : Bool := match k with
  | 0 => true
  | j + 1 => match loc[j]? with
    | some (some v) => v.category == 1
    | _ => true
theorem lo_has {b nL : Nat} {loc : List (Option Value)} {ls : Array Slot} (h : lo_k b nL loc ls) : lv_has ls nL ((List.range loc.length).filterMap (fun k => (loc[k]?.join).map (fun v => (k, up_v b v)))) := by
  refine ⟨h.1, h.2.1, fun q hq => ?_⟩
  obtain ⟨k, -, hk⟩ := List.mem_filterMap.mp hq
  obtain ⟨v, hv, rfl⟩ := Option.map_eq_some_iff.mp hk
  have h3 : loc[k]? = some (some v) := by
    cases h4 : loc[k]? with
    | none => rw [h4] at hv; cases hv
    | some z => rw [h4] at hv; cases z with
      | none => cases hv
      | some w => rw [show w = v from Option.some.inj hv]
  exact h.2.2 k v h3
theorem lo_mem {b : Nat} {loc : List (Option Value)} {k : Nat} {v : Value} (h : loc[k]? = some (some v)) : (k, up_v b v) ∈ (List.range loc.length).filterMap (fun k => (loc[k]?.join).map (fun v => (k, up_v b v))) := by
  refine List.mem_filterMap.mpr ⟨k, List.mem_range.mpr (List.getElem?_eq_some_iff.mp h).1, ?_⟩
  rw [h]; rfl
theorem lo_st1 {b nL : Nat} {loc : List (Option Value)} {ls2 : Array Slot} {i : Nat} {v : Value} (hn : nl_k loc i = true)
    (h : lv_has ls2 nL ((i, up_v b v) :: ((List.range loc.length).filterMap (fun k => (loc[k]?.join).map (fun v => (k, up_v b v)))).filter (fun q => !(q.1 == i) && !(q.1 + 1 == i && q.2.category == 2)))) : lo_k b nL (loc.set i (some v)) ls2 := by
  refine ⟨h.1, h.2.1, fun k w hk => ?_⟩
  rw [List.getElem?_set] at hk
  by_cases hi : i = k
  · subst hi
    rw [if_pos rfl] at hk
    split at hk
    · cases hk
      exact h.2.2 _ List.mem_cons_self
    · cases hk
  · rw [if_neg hi] at hk
    refine h.2.2 (k, up_v b w) (List.mem_cons_of_mem _ (List.mem_filter.mpr ⟨lo_mem hk, ?_⟩))
    have h1 : (k == i) = false := by simp; exact fun q => hi q.symm
    by_cases h2 : k + 1 = i
    · subst h2
      have h3 : w.category = 1 := by
        unfold nl_k at hn
        simp only [hk] at hn
        simpa using hn
      simp [up_cat, h3]
    · simp [h2]; exact fun q => hi q.symm
theorem lo_st2 {b nL : Nat} {loc : List (Option Value)} {ls2 : Array Slot} {i : Nat} {v : Value} (hn : nl_k loc i = true)
    (h : lv_has ls2 nL ((i, up_v b v) :: ((List.range loc.length).filterMap (fun k => (loc[k]?.join).map (fun v => (k, up_v b v)))).filter (fun q => !(q.1 == i) && (!(q.1 == i + 1) && !(q.1 + 1 == i && q.2.category == 2))))) : lo_k b nL ((loc.set i (some v)).set (i + 1) none) ls2 := by
  refine ⟨h.1, h.2.1, fun k w hk => ?_⟩
  rw [List.getElem?_set] at hk
  by_cases hi1 : i + 1 = k
  · subst hi1
    rw [if_pos rfl] at hk
    split at hk <;> cases hk
  · rw [if_neg hi1, List.getElem?_set] at hk
    by_cases hi : i = k
    · subst hi
      rw [if_pos rfl] at hk
      split at hk
      · cases hk
        exact h.2.2 _ List.mem_cons_self
      · cases hk
    · rw [if_neg hi] at hk
      refine h.2.2 (k, up_v b w) (List.mem_cons_of_mem _ (List.mem_filter.mpr ⟨lo_mem hk, ?_⟩))
      by_cases h2 : k + 1 = i
      · subst h2
        have h3 : w.category = 1 := by
          unfold nl_k at hn
          simp only [hk] at hn
          simpa using hn
        simp [up_cat, h3]
        omega
      · simp [h2]
        exact ⟨fun q => hi q.symm, fun q => hi1 q.symm⟩
section JB
variable {X : Xc} {u : Nat × Nat} {M : Me} {pc q : Nat} {loc loc2 : List (Option Value)} {st : List Value} {β : Type} {F : Option β} {G : β → Option Rs}
theorem v_istore_n {j : Fin 4} {i : Nat} {x : Int32} (hdg : decode X.1.2.1 pc = .ok (.istore_n j, 1)) (hq : pc + 1 = q) (hj : (j : Nat) = i) (hn : nl_k loc i = true) (hL : i < X.1.2.2.1) (he : loc.set i (some (.int x)) = loc2) (k : V X u M q loc2 st F G) : V X u M pc loc (.int x :: st) F G := by
  subst hq; subst he
  intro res hres p l e s m args below meth c K b H locs ls A hP hS hz hl
  exact lv_istore_n A.1 A.2.1 hdg hj (lo_has hl) hL rfl (fun ls2 h2 => k res hres p l e s m args below meth c K b H locs ls2 A hP hS hz (lo_st1 (v := .int x) hn h2))
theorem v_istore {i : Nat} {x : Int32} (hdg : decode X.1.2.1 pc = .ok (.istore i, 2)) (hq : pc + 2 = q) (hn : nl_k loc i = true) (hL : i < X.1.2.2.1) (he : loc.set i (some (.int x)) = loc2) (k : V X u M q loc2 st F G) : V X u M pc loc (.int x :: st) F G := by
  subst hq; subst he
  intro res hres p l e s m args below meth c K b H locs ls A hP hS hz hl
  exact lv_istore A.1 A.2.1 hdg (lo_has hl) hL rfl (fun ls2 h2 => k res hres p l e s m args below meth c K b H locs ls2 A hP hS hz (lo_st1 (v := .int x) hn h2))
theorem v_lstore_n {j : Fin 4} {i : Nat} {x : Int64} (hdg : decode X.1.2.1 pc = .ok (.lstore_n j, 1)) (hq : pc + 1 = q) (hj : (j : Nat) = i) (hn : nl_k loc i = true) (hL : i + 1 < X.1.2.2.1) (he : (loc.set i (some (.long x))).set (i + 1) none = loc2) (k : V X u M q loc2 st F G) : V X u M pc loc (.long x :: st) F G := by
  subst hq; subst he
  intro res hres p l e s m args below meth c K b H locs ls A hP hS hz hl
  exact lv_lstore_n A.1 A.2.1 hdg hj (lo_has hl) hL rfl (fun ls2 h2 => k res hres p l e s m args below meth c K b H locs ls2 A hP hS hz (lo_st2 (v := .long x) hn h2))
theorem v_lstore {i : Nat} {x : Int64} (hdg : decode X.1.2.1 pc = .ok (.lstore i, 2)) (hq : pc + 2 = q) (hn : nl_k loc i = true) (hL : i + 1 < X.1.2.2.1) (he : (loc.set i (some (.long x))).set (i + 1) none = loc2) (k : V X u M q loc2 st F G) : V X u M pc loc (.long x :: st) F G := by
  subst hq; subst he
  intro res hres p l e s m args below meth c K b H locs ls A hP hS hz hl
  exact lv_lstore A.1 A.2.1 hdg (lo_has hl) hL rfl (fun ls2 h2 => k res hres p l e s m args below meth c K b H locs ls2 A hP hS hz (lo_st2 (v := .long x) hn h2))
theorem v_astore_n {j : Fin 4} {i : Nat} {x : Nat} (hdg : decode X.1.2.1 pc = .ok (.astore_n j, 1)) (hq : pc + 1 = q) (hj : (j : Nat) = i) (hn : nl_k loc i = true) (hL : i < X.1.2.2.1) (he : loc.set i (some (.ref x)) = loc2) (k : V X u M q loc2 st F G) : V X u M pc loc (.ref x :: st) F G := by
  subst hq; subst he
  intro res hres p l e s m args below meth c K b H locs ls A hP hS hz hl
  exact lv_astore_n A.1 A.2.1 hdg hj (lo_has hl) hL rfl (fun ls2 h2 => k res hres p l e s m args below meth c K b H locs ls2 A hP hS hz (lo_st1 (v := .ref x) hn h2))
theorem v_astore {i : Nat} {x : Nat} (hdg : decode X.1.2.1 pc = .ok (.astore i, 2)) (hq : pc + 2 = q) (hn : nl_k loc i = true) (hL : i < X.1.2.2.1) (he : loc.set i (some (.ref x)) = loc2) (k : V X u M q loc2 st F G) : V X u M pc loc (.ref x :: st) F G := by
  subst hq; subst he
  intro res hres p l e s m args below meth c K b H locs ls A hP hS hz hl
  exact lv_astore A.1 A.2.1 hdg (lo_has hl) hL rfl (fun ls2 h2 => k res hres p l e s m args below meth c K b H locs ls2 A hP hS hz (lo_st1 (v := .ref x) hn h2))
theorem v_iinc {i : Nat} {n : Int} {x v : Int32} (hdg : decode X.1.2.1 pc = .ok (.iinc i n, 3)) (hq : pc + 3 = q) (hl0 : loc[i]? = some (some (.int x))) (hv : x + Int32.ofInt n = v) (hn : nl_k loc i = true) (hL : i < X.1.2.2.1) (he : loc.set i (some (.int v)) = loc2) (k : V X u M q loc2 st F G) : V X u M pc loc st F G := by
  subst hq; subst he
  intro res hres p l e s m args below meth c K b H locs ls A hP hS hz hl
  obtain ⟨kk, hkk⟩ := List.getElem?_of_mem (lo_mem (b := b) hl0)
  exact lv_iinc A.1 A.2.1 hdg (lo_has hl) hkk hv hL rfl (fun ls2 h2 => k res hres p l e s m args below meth c K b H locs ls2 A hP hS hz (lo_st1 (v := .int v) hn h2))
end JB

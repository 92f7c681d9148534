/-! what an instruction on the heap does to the memory, as a pure value: none where the machine itself would throw -/
def gi {β : Type} (M : Me) (a ci k : Nat) (Kf : Int32 → Option β) : Option β := if me_k M a = some (ci, nf_c ci) then Kf (me_i M a k) else none
def gr {β : Type} (M : Me) (a ci k : Nat) (Kf : Nat → Option β) : Option β := if me_k M a = some (ci, nf_c ci) then (me_r M a k).bind Kf else none
def pi {β : Type} (M : Me) (a ci k : Nat) (v : Int32) (Kf : Me → Option β) : Option β := if me_k M a = some (ci, nf_c ci) then Kf (me_si M a k v) else none
def pz {β : Type} (M : Me) (a ci k : Nat) (v : Int32) (Kf : Me → Option β) : Option β := if me_k M a = some (ci, nf_c ci) ∧ (v = 0 ∨ v = 1) then Kf (me_si M a k v) else none
def pr {β : Type} (M : Me) (a ci k o : Nat) (Kf : Me → Option β) : Option β := if me_k M a = some (ci, nf_c ci) then Kf (me_sr M a k (some o)) else none
def ln (M : Me) (a kd : Nat) : Option Nat := (me_k M a).bind (fun q => if q.1 = kd then some q.2 else none)
def li {β : Type} (M : Me) (a : Nat) (i : Int32) (Kf : Int32 → Option β) : Option β := (ln M a 20).bind (fun n => if i < 0 ∨ n ≤ i.toNatClampNeg then none else Kf (me_i M a i.toNatClampNeg))
def lz {β : Type} (M : Me) (a : Nat) (i : Int32) (Kf : Int32 → Option β) : Option β := (ln M a 21).bind (fun n => if i < 0 ∨ n ≤ i.toNatClampNeg then none else Kf (me_i M a i.toNatClampNeg))
def si {β : Type} (M : Me) (a : Nat) (i v : Int32) (Kf : Me → Option β) : Option β := (ln M a 20).bind (fun n => if i < 0 ∨ n ≤ i.toNatClampNeg then none else Kf (me_si M a i.toNatClampNeg v))
def sz {β : Type} (M : Me) (a : Nat) (i v : Int32) (Kf : Me → Option β) : Option β := (ln M a 21).bind (fun n => if i < 0 ∨ n ≤ i.toNatClampNeg ∨ ¬ (v = 0 ∨ v = 1) then none else Kf (me_si M a i.toNatClampNeg v))
def lr {β : Type} (M : Me) (a kd : Nat) (i : Int32) (Kf : Nat → Option β) : Option β := (ln M a kd).bind (fun n => if i < 0 ∨ n ≤ i.toNatClampNeg then none else (me_r M a i.toNatClampNeg).bind Kf)
def lo {β : Type} (M : Me) (a kd : Nat) (i : Int32) (Kf : Option Nat → Option β) : Option β := (ln M a kd).bind (fun n => if i < 0 ∨ n ≤ i.toNatClampNeg then none else Kf (me_r M a i.toNatClampNeg))
def sr {β : Type} (M : Me) (a kd ci : Nat) (i : Int32) (o : Nat) (Kf : Me → Option β) : Option β := (ln M a kd).bind (fun n => if i < 0 ∨ n ≤ i.toNatClampNeg ∨ ¬ me_k M o = some (ci, nf_c ci) then none else Kf (me_sr M a i.toNatClampNeg (some o)))
def al {β : Type} (M : Me) (a kd : Nat) (Kf : Int32 → Option β) : Option β := (ln M a kd).bind (fun n => Kf (Int32.ofNat n))
def no {β : Type} (M : Me) (ci : Nat) (Kf : Nat → Me → Option β) : Option β := Kf M.1.length (me_nw M (ci, nf_c ci))
def na {β : Type} (M : Me) (kd n : Nat) (Kf : Nat → Me → Option β) : Option β := Kf M.1.length (me_nw M (kd, n))
def ac {β : Type} (M : Me) (a0 : Nat) (sp : Int32) (a : Nat) (dp n : Int32) (Kf : Me → Option β) : Option β := (ln M a0 20).bind (fun n0 => (ln M a 20).bind (fun n1 => if sp < 0 ∨ dp < 0 ∨ n < 0 ∨ n0 < sp.toNatClampNeg + n.toNatClampNeg ∨ n1 < dp.toNatClampNeg + n.toNatClampNeg then none else Kf (me_cp M a a0 sp.toNatClampNeg dp.toNatClampNeg n.toNatClampNeg)))
theorem ln_some {M : Me} {a kd n : Nat} (h : ln M a kd = some n) : me_k M a = some (kd, n) := by
  unfold ln at h
  cases hk : me_k M a with
  | none => rw [hk] at h; cases h
  | some q =>
    obtain ⟨q1, q2⟩ := q
    rw [hk] at h
    simp only [Option.bind_some] at h
    split at h
    · rename_i e; cases h; rw [show q1 = kd from e]
    · cases h
/-- a field's link in a class's table -/
def fl_k (own : String) (index ci k : Nat) : Prop := Cond.fieldLink own index (tb_f ci k).1 (tb_f ci k).2.1 (tb_f ci k).2.2.1 ∈ gw_s ∨ ∃ host, Cond.fieldLinkNest own index (tb_f ci k).1 (tb_f ci k).2.1 (tb_f ci k).2.2.1 host ∈ nw_s
theorem fl_use {own : String} {index ci k : Nat} (h : fl_k own index ci k) {X : Xc} {p : Program} {s : State} {m : MethodId} {args : Array Value} {meth : Method} {c : Code} {K : Kn} {b : Nat} (A : Am X p s m args meth c K b) :
    (Cond.fieldLink own index (tb_f ci k).1 (tb_f ci k).2.1 (tb_f ci k).2.2.1).before args s = true ∨ ∃ host, (Cond.fieldLinkNest own index (tb_f ci k).1 (tb_f ci k).2.1 (tb_f ci k).2.2.1 host).before args s = true := by
  rcases h with h | ⟨host, h⟩
  · exact Or.inl (A.2.2.2.2.2.1 _ h)
  · exact Or.inr ⟨host, va_Nw.use rfl (A.2.2.2.2.2.2.1.2 _ h)⟩
theorem ce_obj {dA : Nat → ClassId} {b ci : Nat} {r : Nat → Option Nat} {i : Nat → Int32} (hc : ci < 13) : ce_l dA b (ci, nf_c ci) r i = .inr (ci, (List.range (nf_c ci)).map (fun k => if is_r (ty_f ci k) = true then va_rf (up_o b (r k)) else .int (i k))) := by
  unfold ce_l
  rw [if_pos (show ci < 20 by omega)]
theorem ob_set {b ci k : Nat} {r r2 : Nat → Option Nat} {i i2 : Nat → Int32} {v : Value} (hk : k < nf_c ci) (hv : (if is_r (ty_f ci k) = true then va_rf (up_o b (r2 k)) else .int (i2 k)) = v) (ho : ∀ x, x ≠ k → r2 x = r x ∧ i2 x = i x) :
    (List.range (nf_c ci)).map (fun k => if is_r (ty_f ci k) = true then va_rf (up_o b (r2 k)) else .int (i2 k)) = ((List.range (nf_c ci)).map (fun k => if is_r (ty_f ci k) = true then va_rf (up_o b (r k)) else .int (i k))).set k v := by
  apply List.ext_getElem?
  intro x
  rw [List.getElem?_set, List.getElem?_map, List.getElem?_map]
  by_cases hx : k = x
  · subst hx
    rw [if_pos rfl, if_pos (by simpa using hk), List.getElem?_range hk]
    simp only [Option.map_some]
    rw [hv]
  · rw [if_neg hx]
    by_cases hl : x < nf_c ci
    · rw [List.getElem?_range hl]
      simp only [Option.map_some]
      rw [(ho x (fun q => hx q.symm)).1, (ho x (fun q => hx q.symm)).2]
    · rw [List.getElem?_eq_none (by simpa using hl)]
      rfl
section JE
variable {X : Xc} {u : Nat × Nat} {M : Me} {pc q : Nat} {loc : List (Option Value)} {st : List Value} {β : Type} {G : β → Option Rs}
theorem v_getI {a ci k index : Nat} {Kf : Int32 → Option β} (hdg : decode X.1.2.1 pc = .ok (.getfield index, 3)) (hq : pc + 3 = q) (hf : fl_k X.1.1 index ci k) (hc : ci < 13) (hk : k < nf_c ci) (ht : is_r (ty_f ci k) = false) (kk : ∀ v, V X u M q loc (.int v :: st) (Kf v) G) : V X u M pc loc (.ref a :: st) (gi M a ci k Kf) G := by
  subst hq
  intro res hres p l e s m args below meth c K b H locs ls A hP hS hz hl
  unfold gi at hres
  split at hres
  · rename_i hkd
    refine h_get A.1 A.2.1 A.2.2.2.2.2.1 (cl_in ci hc) A.2.2.2.2.1 A.2.2.2.2.2.2.1.1 hP a (by rw [en_at hkd, ce_obj hc]) (cl_at ci hc) k hk (fl_use hf A) (v := .int (me_i M a k)) ?_ hdg (kk _ res hres p l e s m args below meth c K b H locs ls A hP hS hz hl)
    rw [List.getElem?_map, List.getElem?_range hk]
    simp only [Option.map_some, ht]
    rfl
  · cases hres
theorem v_getR {a ci k index : Nat} {Kf : Nat → Option β} (hdg : decode X.1.2.1 pc = .ok (.getfield index, 3)) (hq : pc + 3 = q) (hf : fl_k X.1.1 index ci k) (hc : ci < 13) (hk : k < nf_c ci) (ht : is_r (ty_f ci k) = true) (kk : ∀ o, V X u M q loc (.ref o :: st) (Kf o) G) : V X u M pc loc (.ref a :: st) (gr M a ci k Kf) G := by
  subst hq
  intro res hres p l e s m args below meth c K b H locs ls A hP hS hz hl
  unfold gr at hres
  split at hres
  · rename_i hkd
    cases ho : me_r M a k with
    | none => rw [ho] at hres; cases hres
    | some o =>
      rw [ho] at hres
      refine h_get A.1 A.2.1 A.2.2.2.2.2.1 (cl_in ci hc) A.2.2.2.2.1 A.2.2.2.2.2.2.1.1 hP a (by rw [en_at hkd, ce_obj hc]) (cl_at ci hc) k hk (fl_use hf A) (v := .ref (b + o)) ?_ hdg (kk _ res hres p l e s m args below meth c K b H locs ls A hP hS hz hl)
      rw [List.getElem?_map, List.getElem?_range hk]
      have ho2 : M.2.1 a k = some o := ho
      simp only [Option.map_some, ht, ho2]
      rfl
  · cases hres
theorem v_putI {a ci k index : Nat} {x : Int32} {Kf : Me → Option β} (hdg : decode X.1.2.1 pc = .ok (.putfield index, 3)) (hq : pc + 3 = q) (hf : fl_k X.1.1 index ci k) (hc : ci < 13) (hk : k < nf_c ci) (ht : ty_f ci k = .int) (hfin : (tb_f ci k).2.2.2 = false) (kk : ∀ M2, V X u M2 q loc st (Kf M2) G) : V X u M pc loc (.int x :: .ref a :: st) (pi M a ci k x Kf) G := by
  subst hq
  intro res hres p l e s m args below meth c K b H locs ls A hP hS hz hl
  unfold pi at hres
  split at hres
  · rename_i hkd
    refine h_put A.1 A.2.1 A.2.2.2.2.2.1 (cl_in ci hc) (ty_f ci) (cl_ty ci hc) (cl_nm ci hc) A.2.2.2.2.1 A.2.2.2.2.2.2.1.1 hP en_D hS a (by rw [en_at hkd, ce_obj hc]) (cl_at ci hc) k hk (fl_use hf A) hfin (v := .int x) (cl_ty ci hc k hk) (by rw [ht]; rfl) (by rw [ht]; rfl) (by simpa using hk) hdg (fun H1 locs1 hz1 hP1 hS1 => ?_)
    refine kk _ res hres p l e s m args below meth c K b H1 locs1 ls A ?_ hS1 (hz1.trans hz) hl
    rw [en_set (N := me_si M a k x) hkd rfl (fun y hy => ⟨rfl, by funext z; simp [me_si, hy]⟩) ?_] at hP1
    · exact hP1
    · rw [ce_obj hc, ← ob_set (r2 := M.2.1 a) (i2 := (me_si M a k x).2.2 a) hk (by rw [ht]; simp [is_r, me_si]) (fun y hy => ⟨rfl, by simp [me_si, hy]⟩)]
      rfl
  · cases hres
theorem v_putZ {a ci k index : Nat} {x : Int32} {Kf : Me → Option β} (hdg : decode X.1.2.1 pc = .ok (.putfield index, 3)) (hq : pc + 3 = q) (hf : fl_k X.1.1 index ci k) (hc : ci < 13) (hk : k < nf_c ci) (ht : ty_f ci k = .boolean) (hfin : (tb_f ci k).2.2.2 = false) (kk : ∀ M2, V X u M2 q loc st (Kf M2) G) : V X u M pc loc (.int x :: .ref a :: st) (pz M a ci k x Kf) G := by
  subst hq
  intro res hres p l e s m args below meth c K b H locs ls A hP hS hz hl
  unfold pz at hres
  split at hres
  · rename_i hkd
    obtain ⟨hkd, hx⟩ := hkd
    refine h_put A.1 A.2.1 A.2.2.2.2.2.1 (cl_in ci hc) (ty_f ci) (cl_ty ci hc) (cl_nm ci hc) A.2.2.2.2.1 A.2.2.2.2.2.2.1.1 hP en_D hS a (by rw [en_at hkd, ce_obj hc]) (cl_at ci hc) k hk (fl_use hf A) hfin (v := .int x) (cl_ty ci hc k hk) (by rw [ht]; rcases hx with rfl | rfl <;> decide +kernel) (by rw [ht]; rcases hx with rfl | rfl <;> decide +kernel) (by simpa using hk) hdg (fun H1 locs1 hz1 hP1 hS1 => ?_)
    refine kk _ res hres p l e s m args below meth c K b H1 locs1 ls A ?_ hS1 (hz1.trans hz) hl
    rw [en_set (N := me_si M a k x) hkd rfl (fun y hy => ⟨rfl, by funext z; simp [me_si, hy]⟩) ?_] at hP1
    · exact hP1
    · rw [ce_obj hc, ← ob_set (r2 := M.2.1 a) (i2 := (me_si M a k x).2.2 a) hk (by rw [ht]; simp [is_r, me_si]) (fun y hy => ⟨rfl, by simp [me_si, hy]⟩)]
      rfl
  · cases hres
theorem v_putR {a ci k o index : Nat} {Kf : Me → Option β} (hdg : decode X.1.2.1 pc = .ok (.putfield index, 3)) (hq : pc + 3 = q) (hf : Cond.fieldLink X.1.1 index (tb_f ci k).1 (tb_f ci k).2.1 (tb_f ci k).2.2.1 ∈ gw_s) (hc : ci < 13) (hk : k < nf_c ci) (ht : is_r (ty_f ci k) = true) (hfin : (tb_f ci k).2.2.2 = true) (hn : X.1.2.2.2.2 = "<init>") (hd : (tb_f ci k).1 = X.1.1) (kk : ∀ M2, V X u M2 q loc st (Kf M2) G) : V X u M pc loc (.ref o :: .ref a :: st) (pr M a ci k o Kf) G := by
  subst hq
  intro res hres p l e s m args below meth c K b H locs ls A hP hS hz hl
  unfold pr at hres
  split at hres
  · rename_i hkd
    have hnar : narrow (ty_f ci k) (.ref (b + o)) = .ref (b + o) := by
      cases h9 : ty_f ci k <;> rw [h9] at ht <;> first | rfl | (cases ht)
    have hfit : fits (ty_f ci k) (.ref (b + o)) = true := by
      cases h9 : ty_f ci k <;> rw [h9] at ht <;> first | rfl | (cases ht)
    refine h_putF A.1 A.2.1 A.2.2.2.2.2.1 (cl_in ci hc) (ty_f ci) (cl_ty ci hc) (cl_nm ci hc) A.2.2.2.2.1 A.2.2.2.2.2.2.1.1 hP en_D hS a (by rw [en_at hkd, ce_obj hc]) (cl_at ci hc) k hk (A.2.2.2.2.2.1 _ hf) hfin (A.2.2.2.2.2.2.2.2.1.trans hn) hd (v := .ref (b + o)) (cl_ty ci hc k hk) hnar hfit (by simpa using hk) hdg (fun H1 locs1 hz1 hP1 hS1 => ?_)
    refine kk _ res hres p l e s m args below meth c K b H1 locs1 ls A ?_ hS1 (hz1.trans hz) hl
    rw [en_set (N := me_sr M a k (some o)) hkd rfl (fun y hy => ⟨by funext z; simp [me_sr, hy], rfl⟩) ?_] at hP1
    · exact hP1
    · rw [ce_obj hc, ← ob_set (r2 := (me_sr M a k (some o)).2.1 a) (i2 := M.2.2 a) hk (by rw [ht]; simp [me_sr, up_o, va_rf]) (fun y hy => ⟨by simp [me_sr, hy], rfl⟩)]
      rfl
  · cases hres
theorem ce_int {dA : Nat → ClassId} {b n : Nat} {r : Nat → Option Nat} {i : Nat → Int32} : ce_l dA b (20, n) r i = .inl (dA 20, n, .inl i) := rfl
theorem ce_boo {dA : Nat → ClassId} {b n : Nat} {r : Nat → Option Nat} {i : Nat → Int32} : ce_l dA b (21, n) r i = .inl (dA 21, n, .inl i) := rfl
theorem ce_ref {dA : Nat → ClassId} {b n kd : Nat} {r : Nat → Option Nat} {i : Nat → Int32} (h : 22 ≤ kd) : ce_l dA b (kd, n) r i = .inl (dA kd, n, .inr (.inr (.inr (.inr (fun j => up_o b (r j)))))) := by
  unfold ce_l
  rw [if_neg (show ¬ kd < 20 by omega), if_neg (show ¬ kd < 22 by omega)]
theorem v_iaload {a : Nat} {i : Int32} {Kf : Int32 → Option β} (hdg : decode X.1.2.1 pc = .ok (.iaload, 1)) (hq : pc + 1 = q) (kk : ∀ v, V X u M q loc (.int v :: st) (Kf v) G) : V X u M pc loc (.int i :: .ref a :: st) (li M a i Kf) G := by
  subst hq
  intro res hres p l e s m args below meth c K b H locs ls A hP hS hz hl
  unfold li at hres
  cases hn : ln M a 20 with
  | none => rw [hn] at hres; cases hres
  | some n =>
    rw [hn] at hres
    simp only [Option.bind_some] at hres
    split at hres
    · cases hres
    · rename_i hi
      exact va_iald (f := M.2.2 a) A.1 A.2.1 A.2.2.2.2.2.2.1.1 hP a 0 (by rw [en_at (ln_some hn), ce_int]) rfl hi hdg (kk _ res hres p l e s m args below meth c K b H locs ls A hP hS hz hl)
theorem v_baload {a : Nat} {i : Int32} {Kf : Int32 → Option β} (hdg : decode X.1.2.1 pc = .ok (.baload, 1)) (hq : pc + 1 = q) (kk : ∀ v, V X u M q loc (.int v :: st) (Kf v) G) : V X u M pc loc (.int i :: .ref a :: st) (lz M a i Kf) G := by
  subst hq
  intro res hres p l e s m args below meth c K b H locs ls A hP hS hz hl
  unfold lz at hres
  cases hn : ln M a 21 with
  | none => rw [hn] at hres; cases hres
  | some n =>
    rw [hn] at hres
    simp only [Option.bind_some] at hres
    split at hres
    · cases hres
    · rename_i hi
      exact va_zald (f := M.2.2 a) A.1 A.2.1 A.2.2.2.2.2.2.1.1 hP a 1 (by rw [en_at (ln_some hn), ce_boo]) rfl hi hdg (kk _ res hres p l e s m args below meth c K b H locs ls A hP hS hz hl)
theorem v_iastore {a : Nat} {i x : Int32} {Kf : Me → Option β} (hdg : decode X.1.2.1 pc = .ok (.iastore, 1)) (hq : pc + 1 = q) (kk : ∀ M2, V X u M2 q loc st (Kf M2) G) : V X u M pc loc (.int x :: .int i :: .ref a :: st) (si M a i x Kf) G := by
  subst hq
  intro res hres p l e s m args below meth c K b H locs ls A hP hS hz hl
  unfold si at hres
  cases hn : ln M a 20 with
  | none => rw [hn] at hres; cases hres
  | some n =>
    rw [hn] at hres
    simp only [Option.bind_some] at hres
    split at hres
    · cases hres
    · rename_i hi
      refine h_iast A.1 A.2.1 A.2.2.2.2.2.2.1.1 hP en_D hS a 0 (by rw [en_at (ln_some hn), ce_int]) rfl hi hdg (fun H1 locs1 hz1 hP1 hS1 => ?_)
      refine kk _ res hres p l e s m args below meth c K b H1 locs1 ls A ?_ hS1 (hz1.trans hz) hl
      rw [en_set (N := me_si M a i.toNatClampNeg x) (ln_some hn) rfl (fun y hy => ⟨rfl, by funext z; simp [me_si, hy]⟩) ?_] at hP1
      · exact hP1
      · rw [ce_int, show (me_si M a i.toNatClampNeg x).2.2 a = upd (M.2.2 a) i.toNatClampNeg x by funext z; simp [me_si, upd]]
theorem v_bastore {a : Nat} {i x : Int32} {Kf : Me → Option β} (hdg : decode X.1.2.1 pc = .ok (.bastore, 1)) (hq : pc + 1 = q) (kk : ∀ M2, V X u M2 q loc st (Kf M2) G) : V X u M pc loc (.int x :: .int i :: .ref a :: st) (sz M a i x Kf) G := by
  subst hq
  intro res hres p l e s m args below meth c K b H locs ls A hP hS hz hl
  unfold sz at hres
  cases hn : ln M a 21 with
  | none => rw [hn] at hres; cases hres
  | some n =>
    rw [hn] at hres
    simp only [Option.bind_some] at hres
    split at hres
    · cases hres
    · rename_i hi
      have hi2 : vp_in i n := fun q => hi (q.elim Or.inl (fun q => Or.inr (Or.inl q)))
      have hx : x = 0 ∨ x = 1 := Classical.byContradiction (fun q => hi (Or.inr (Or.inr q)))
      have hv : vp_nar .boolean x = x := by rcases hx with rfl | rfl <;> decide +kernel
      refine h_zast A.1 A.2.1 A.2.2.2.2.2.2.1.1 hP en_D hS a 1 (by rw [en_at (ln_some hn), ce_boo]) rfl hi2 hdg (fun H1 locs1 hz1 hP1 hS1 => ?_)
      refine kk _ res hres p l e s m args below meth c K b H1 locs1 ls A ?_ hS1 (hz1.trans hz) hl
      rw [hv] at hP1
      rw [en_set (N := me_si M a i.toNatClampNeg x) (ln_some hn) rfl (fun y hy => ⟨rfl, by funext z; simp [me_si, hy]⟩) ?_] at hP1
      · exact hP1
      · rw [ce_boo, show (me_si M a i.toNatClampNeg x).2.2 a = upd (M.2.2 a) i.toNatClampNeg x by funext z; simp [me_si, upd]]
/-- a read of a place of references that may be null -/
theorem v_aaloadO {a kd t0 : Nat} {C : String} {i : Int32} {Kf : Option Nat → Option β} (hdg : decode X.1.2.1 pc = .ok (.aaload, 1)) (hq : pc + 1 = q) (hkd : 22 ≤ kd) (ht : ∀ K : Kn, (ty_s K)[t0]? = some (K.2.2 kd, .object C)) (kk : ∀ o : Option Nat, ∀ (p : Program) (l : Launch) (e : Env) (s : State) (m : MethodId) (args : Array Value) (below : List Frame) (meth : Method) (c : Code) (K : Kn) (b : Nat) (H : Heap) (locs : List Loc) (ls : Array Slot) (res : Rs), (Kf o).bind G = some res →
    Am X p s m args meth c K b → va_P (K.1, K.2.1) cl_s (en_c K.2.2 b M) H → va_S (fun q => b ≤ q) s.heap H locs → H.size = b + M.1.length → lo_k b X.1.2.2.1 loc ls →
    W p l e (rm_d X.2.1 X.2.2.1 X.2.2.2) s m args below meth c H locs u.1 u.2 (MQ below (qc_r K b res) args s X.2.2.1 X.2.2.2 (fun q => b ≤ q)) (F0 m q ls (va_rf (up_o b o) :: st.map (up_v b)))) : V X u M pc loc (.int i :: .ref a :: st) (lo M a kd i Kf) G := by
  subst hq
  intro res hres p l e s m args below meth c K b H locs ls A hP hS hz hl
  unfold lo at hres
  cases hn : ln M a kd with
  | none => rw [hn] at hres; cases hres
  | some n =>
    rw [hn] at hres
    simp only [Option.bind_some] at hres
    split at hres
    · cases hres
    · rename_i hi
      exact va_aldq A.1 A.2.1 A.2.2.2.2.2.2.1.1 hP a t0 (by rw [en_at (ln_some hn), ce_ref hkd]) (ht K) hi hdg (kk _ p l e s m args below meth c K b H locs ls res hres A hP hS hz hl)
theorem v_aaload {a kd t0 : Nat} {C : String} {i : Int32} {Kf : Nat → Option β} (hdg : decode X.1.2.1 pc = .ok (.aaload, 1)) (hq : pc + 1 = q) (hkd : 22 ≤ kd) (ht : ∀ K : Kn, (ty_s K)[t0]? = some (K.2.2 kd, .object C)) (kk : ∀ o, V X u M q loc (.ref o :: st) (Kf o) G) : V X u M pc loc (.int i :: .ref a :: st) (lr M a kd i Kf) G := by
  have h := v_aaloadO (G := G) (X := X) (u := u) (M := M) (loc := loc) (st := st) (a := a) (i := i) (Kf := fun o => o.bind Kf) hdg hq hkd ht (fun o p l e s m args below meth c K b H locs ls res hres A hP hS hz hl => by
    cases o with
    | none => cases hres
    | some o => exact kk o res hres p l e s m args below meth c K b H locs ls A hP hS hz hl)
  exact h
/-- a place that may be null, asked at once whether it is -/
theorem v_aaloadN {a kd t0 q2 tgt : Nat} {C : String} {i : Int32} {off : Int} {F1 F2 : Option β} (hdg : decode X.1.2.1 pc = .ok (.aaload, 1)) (hq : pc + 1 = q) (hkd : 22 ≤ kd) (ht : ∀ K : Kn, (ty_s K)[t0]? = some (K.2.2 kd, .object C)) (hdg2 : decode X.1.2.1 q = .ok (.ifnonnull off, 3)) (htg : (q : Int) + off = (tgt : Int)) (hq2 : q + 3 = q2)
    (k1 : V X u M tgt loc st F1 G) (k2 : V X u M q2 loc st F2 G) : V X u M pc loc (.int i :: .ref a :: st) (lo M a kd i (fun o => if o = none then F2 else F1)) G := by
  subst hq2
  refine v_aaloadO hdg hq hkd ht (fun o p l e s m args below meth c K b H locs ls res hres A hP hS hz hl => ?_)
  cases o with
  | none => exact lv_ifnonnullN A.1 A.2.1 hdg2 (k2 res (by rw [if_pos rfl] at hres; exact hres) p l e s m args below meth c K b H locs ls A hP hS hz hl)
  | some x => exact lv_ifnonnull A.1 A.2.1 hdg2 htg (k1 res (by rw [if_neg (fun h => by cases h)] at hres; exact hres) p l e s m args below meth c K b H locs ls A hP hS hz hl)
theorem v_aastore {a kd t0 ci o : Nat} {i : Int32} {Kf : Me → Option β} (hdg : decode X.1.2.1 pc = .ok (.aastore, 1)) (hq : pc + 1 = q) (hkd : 22 ≤ kd) (hc : ci < 13) (ht : ∀ K : Kn, (ty_s K)[t0]? = some (K.2.2 kd, .object (rx_c ci))) (kk : ∀ M2, V X u M2 q loc st (Kf M2) G) : V X u M pc loc (.ref o :: .int i :: .ref a :: st) (sr M a kd ci i o Kf) G := by
  subst hq
  intro res hres p l e s m args below meth c K b H locs ls A hP hS hz hl
  unfold sr at hres
  cases hn : ln M a kd with
  | none => rw [hn] at hres; cases hres
  | some n =>
    rw [hn] at hres
    simp only [Option.bind_some] at hres
    split at hres
    · cases hres
    · rename_i hi
      have hi2 : vp_in i n := fun q => hi (q.elim Or.inl (fun q => Or.inr (Or.inl q)))
      have hko : me_k M o = some (ci, nf_c ci) := Classical.byContradiction (fun q => hi (Or.inr (Or.inr q)))
      refine h_astq A.1 A.2.1 A.2.2.2.2.2.2.1.1 hP en_D hS a t0 o ci (r := (rx_c ci, tb_f ci, nf_c ci)) (by rw [en_at (ln_some hn), ce_ref hkd]) (ht K) (by rw [en_at hko, ce_obj hc]) (cl_at ci hc) hi2 hdg (fun H1 locs1 hz1 hP1 hS1 => ?_)
      refine kk _ res hres p l e s m args below meth c K b H1 locs1 ls A ?_ hS1 (hz1.trans hz) hl
      rw [en_set (N := me_sr M a i.toNatClampNeg (some o)) (ln_some hn) rfl (fun y hy => ⟨by funext z; simp [me_sr, hy], rfl⟩) ?_] at hP1
      · exact hP1
      · rw [ce_ref hkd, show (fun j => up_o b ((me_sr M a i.toNatClampNeg (some o)).2.1 a j)) = va_up (fun j => up_o b (M.2.1 a j)) i.toNatClampNeg (some (b + o)) by
          funext z
          by_cases hzz : z = i.toNatClampNeg <;> simp [me_sr, va_up, hzz, up_o]]
theorem v_alen {a kd t0 : Nat} {ty : FieldType} {Kf : Int32 → Option β} (hdg : decode X.1.2.1 pc = .ok (.arraylength, 1)) (hq : pc + 1 = q) (hkd : 20 ≤ kd) (ht : ∀ K : Kn, (ty_s K)[t0]? = some (K.2.2 kd, ty)) (kk : ∀ v, V X u M q loc (.int v :: st) (Kf v) G) : V X u M pc loc (.ref a :: st) (al M a kd Kf) G := by
  subst hq
  intro res hres p l e s m args below meth c K b H locs ls A hP hS hz hl
  unfold al at hres
  cases hn : ln M a kd with
  | none => rw [hn] at hres; cases hres
  | some n =>
    rw [hn] at hres
    simp only [Option.bind_some] at hres
    have hce : ∃ x : vp_A, ce_l K.2.2 b (kd, n) (M.2.1 a) (M.2.2 a) = .inl (K.2.2 kd, x) ∧ x.1 = n := by
      unfold ce_l
      rw [if_neg (show ¬ kd < 20 by omega)]
      split
      · exact ⟨_, rfl, rfl⟩
      · exact ⟨_, rfl, rfl⟩
    obtain ⟨x, hx1, hx2⟩ := hce
    exact va_alen A.1 A.2.1 A.2.2.2.2.2.2.1.1 hP a t0 (by rw [en_at (ln_some hn), hx1]) (ht K) (v := Int32.ofNat n) (by rw [hx2]) hdg (kk _ res hres p l e s m args below meth c K b H locs ls A hP hS hz hl)
end JE

section JH
variable {Y0 : My} {D mc0 ms0 : Nat} {u u2 : Nat × Nat} {M : Me} {pc q : Nat} {loc loc2 : List (Option Value)} {st : List Value} {β γ : Type} {G : β → Option Rs} {F : Option β}
theorem v_weak {X : Xc} (k : V X u M pc loc2 st F G) (h : lo_l loc2 loc) : V X u M pc loc st F G := by
  intro res hres p l e s m args below meth c K b H locs ls A hP hS hz hl
  exact k res hres p l e s m args below meth c K b H locs ls A hP hS hz ⟨hl.1, hl.2.1, fun i v hi => hl.2.2 i v (lo_ls _ _ h i v hi)⟩
theorem v_widen {X : Xc} (h1 : u.1 ≤ u2.1) (h2 : u.2 ≤ u2.2) (k : V X u2 M pc loc st F G) : V X u M pc loc st F G := by
  intro res hres p l e s m args below meth c K b H locs ls A hP hS hz hl
  exact W.widen (k := u2.1) (n := u2.2) h1 h2 (k res hres p l e s m args below meth c K b H locs ls A hP hS hz hl)
theorem v_joinU {X : Xc} {F : Option γ} {Hh : γ → Option β} (jp : Nat) (eM : γ → Me) (eL : γ → List (Option Value)) (eS : γ → List Value)
    (kF : ∀ K : γ → Option Rs, (∀ v, V X u2 (eM v) jp (eL v) (eS v) (some v) K) → V X u M pc loc st F K)
    (kH : ∀ v, V X u2 (eM v) jp (eL v) (eS v) (Hh v) G) : V X u M pc loc st (F.bind Hh) G :=
  v_bind (kF _ (fun v => kH v))
theorem v_lps {X : Xc} {S E : Type} {step : S → Option (S ⊕ E)} {s0 : S} {Hh : E → Option β} (xp : Nat) (eM : S → Me) (eL : S → List (Option Value)) (xM : E → Me) (xL : E → List (Option Value))
    (hx : ∀ z, V X u (xM z) xp (xL z) [] (Hh z) G)
    (hb : ∀ (k : S → Option Rs) (K : E → Option Rs), (∀ t, V X u (eM t) pc (eL t) [] (some t) k) → (∀ z, V X u (xM z) xp (xL z) [] (some z) K) → ∀ t, V X u (eM t) pc (eL t) [] (step t) (lg_k k K)) : V X u (eM s0) pc (eL s0) [] ((lp step s0).bind Hh) G :=
  v_bind (v_loop eM eL (fun k hk t => hb k _ hk (fun z => hx z) t))
def sm_k {E T : Type} (K : E → Option Rs) (L : T → Option Rs) : E ⊕ T → Option Rs := fun z => match z with
  | .inl e => K e
  | .inr t => L t
theorem v_sml {X : Xc} {E T : Type} {x : E} {K : E → Option Rs} {L : T → Option Rs} (h : V X u M pc loc st (some x) K) : V X u M pc loc st (some (Sum.inl x : E ⊕ T)) (sm_k K L) := h
theorem v_lpr {X : Xc} {S E T : Type} {step : S → Option (S ⊕ (E ⊕ T))} {s0 : S} {Hh : E → Option β} {P : T → Option β} (xp : Nat) (eM : S → Me) (eL : S → List (Option Value)) (xM : E → Me) (xL : E → List (Option Value))
    (hx : ∀ z, V X u (xM z) xp (xL z) [] (Hh z) G)
    (hb : ∀ (k : S → Option Rs) (K : E → Option Rs), (∀ t, V X u (eM t) pc (eL t) [] (some t) k) → (∀ z, V X u (xM z) xp (xL z) [] (some z) K) → ∀ t, V X u (eM t) pc (eL t) [] (step t) (lg_k k (sm_k K (fun t => (P t).bind G)))) : V X u (eM s0) pc (eL s0) [] (ex_r (lp step s0) Hh P) G := by
  unfold ex_r
  refine v_bind ?_
  have h := v_loop (X := X) (u := u) (pc := pc) (s0 := s0) (step := step) (K := sm_k (fun z => (Hh z).bind G) (fun t => (P t).bind G)) eM eL (fun k hk t => hb k _ hk (fun z => hx z) t)
  intro res hres
  refine h res ?_
  rw [← hres]
  congr 1
  funext v
  cases v <;> rfl
theorem v_letI {X : Xc} {e : Int32} {Kf : Int32 → Option β} (k : ∀ x, V X u M pc loc (.int x :: st) (Kf x) G) : V X u M pc loc (.int e :: st) (let_v e Kf) G := k e
theorem v_letJ {X : Xc} {e : Int64} {Kf : Int64 → Option β} (k : ∀ x, V X u M pc loc (.long x :: st) (Kf x) G) : V X u M pc loc (.long e :: st) (let_v e Kf) G := k e
theorem v_iincL {X : Xc} {i : Nat} {n : Int} {x cst : Int32} {f : Int32 → List (Option Value)} {Kf : Int32 → Option β} (hdg : decode X.1.2.1 pc = .ok (.iinc i n, 3)) (hq : pc + 3 = q) (hl0 : loc[i]? = some (some (.int x))) (hv : Int32.ofInt n = cst) (hn : nl_k loc i = true) (hL : i < X.1.2.2.1) (he : ∀ v, loc.set i (some (.int v)) = f v) (k : ∀ v, V X u M q (f v) st (Kf v) G) : V X u M pc loc st (let_v (x + cst) Kf) G :=
  v_iinc hdg hq hl0 (by rw [hv]) hn hL (he _) (k _)
theorem v_lcmp {X : Xc} {x y : Int64} (hdg : decode X.1.2.1 pc = .ok (.lcmp, 1)) (hq : pc + 1 = q) (k : V X u M q loc (.int (lg_cmp x y) :: st) F G) : V X u M pc loc (.long y :: .long x :: st) F G := by
  subst hq
  intro res hres p l e s m args below meth c K b H locs ls A hP hS hz hl
  exact W.lcmp A.1 A.2.1 hdg (k res hres p l e s m args below meth c K b H locs ls A hP hS hz hl)
theorem v_icmp_geT {X : Xc} {x y : Int32} {off : Int} {tgt : Nat} (hdg : decode X.1.2.1 pc = .ok (.if_icmp .ge off, 3)) (ht : (pc : Int) + off = (tgt : Int)) (h : y ≤ x) (k : V X u M tgt loc st F G) : V X u M pc loc (.int y :: .int x :: st) F G := by
  intro res hres p l e s m args below meth c K b H locs ls A hP hS hz hl
  exact lv_icmp_ge A.1 A.2.1 hdg ht (fun _ => k res hres p l e s m args below meth c K b H locs ls A hP hS hz hl) (fun h2 => absurd h h2)
theorem v_icmp_geF {X : Xc} {x y : Int32} {off : Int} {tgt : Nat} (hdg : decode X.1.2.1 pc = .ok (.if_icmp .ge off, 3)) (ht : (pc : Int) + off = (tgt : Int)) (hq : pc + 3 = q) (h : ¬ y ≤ x) (k : V X u M q loc st F G) : V X u M pc loc (.int y :: .int x :: st) F G := by
  subst hq
  intro res hres p l e s m args below meth c K b H locs ls A hP hS hz hl
  exact lv_icmp_ge A.1 A.2.1 hdg ht (fun h2 => absurd h2 h) (fun _ => k res hres p l e s m args below meth c K b H locs ls A hP hS hz hl)
theorem v_lkpO {X : Xc} {x : Int32} {dflt : Int} {ps : Array (Int × Int)} {len : Nat} {off : Int} {tgt : Nat} (hdg : decode X.1.2.1 pc = .ok (.lookupswitch dflt ps, len)) (hp : (ps.toList.zip (ps.toList.drop 1)).all (fun (a, next) => a.1 < next.1) = true) (ho : Op.lookupswitch.offset ps.toList dflt x.toInt = off) (ht : (pc : Int) + off = (tgt : Int)) (k : V X u M tgt loc st F G) : V X u M pc loc (.int x :: st) F G := v_lkp hdg hp ho ht k
theorem v_mx_i {X : Xc} {index : Nat} {x y : Int32} (hdg : decode X.1.2.1 pc = .ok (.invokestatic index, 3)) (hq : pc + 3 = q) (hw : Cond.methodLink X.1.1 index Lib.Math.max.name ∈ gw_s) (hd : 1 ≤ X.2.1) (hst : (st.map fun v => v.category).sum ≤ 8) (hu : u.1 ≤ X.2.2.1 ∧ u.2 ≤ X.2.2.2) (k : V X u M q loc (.int (mx_i x y) :: st) F G) : V X u M pc loc (.int y :: .int x :: st) F G := by
  subst hq
  intro res hres p l e s m args below meth c K b H locs ls A hP hS hz hl
  have hrest : ((st.map (up_v b)).map fun v => v.category).sum ≤ 8 := by
    rw [List.map_map]; rw [show ((fun v : Value => v.category) ∘ up_v b) = (fun v => v.category) by funext v; exact up_cat b v]; exact hst
  exact va_mmax A.1 A.2.1 (A.2.2.2.1.trans hl.1.symm) A.2.2.2.2.1 (A.2.2.2.2.2.1 _ hw) (A.2.2.2.2.2.1 _ aw_mx_i.1) (A.2.2.2.2.2.1 _ aw_mx_i.2.1) (A.2.2.2.2.2.1 _ aw_mx_i.2.2) hd (by show _ + 13 ≤ 38 * X.2.1; omega) hu.1 hu.2 hdg (k res hres p l e s m args below meth c K b H locs ls A hP hS hz hl)
theorem v_mn_i {X : Xc} {index : Nat} {x y : Int32} (hdg : decode X.1.2.1 pc = .ok (.invokestatic index, 3)) (hq : pc + 3 = q) (hw : Cond.methodLink X.1.1 index Lib.Math.min.name ∈ gw_s) (hd : 1 ≤ X.2.1) (hst : (st.map fun v => v.category).sum ≤ 8) (hu : u.1 ≤ X.2.2.1 ∧ u.2 ≤ X.2.2.2) (k : V X u M q loc (.int (mn_i x y) :: st) F G) : V X u M pc loc (.int y :: .int x :: st) F G := by
  subst hq
  intro res hres p l e s m args below meth c K b H locs ls A hP hS hz hl
  have hrest : ((st.map (up_v b)).map fun v => v.category).sum ≤ 8 := by
    rw [List.map_map]; rw [show ((fun v : Value => v.category) ∘ up_v b) = (fun v => v.category) by funext v; exact up_cat b v]; exact hst
  exact va_mmin A.1 A.2.1 (A.2.2.2.1.trans hl.1.symm) A.2.2.2.2.1 (A.2.2.2.2.2.1 _ hw) (A.2.2.2.2.2.1 _ aw_mn_i.1) (A.2.2.2.2.2.1 _ aw_mn_i.2.1) (A.2.2.2.2.2.1 _ aw_mn_i.2.2) hd (by show _ + 13 ≤ 38 * X.2.1; omega) hu.1 hu.2 hdg (k res hres p l e s m args below meth c K b H locs ls A hP hS hz hl)
theorem v_mx_l {X : Xc} {index : Nat} {x y : Int64} (hdg : decode X.1.2.1 pc = .ok (.invokestatic index, 3)) (hq : pc + 3 = q) (hw : Cond.methodLink X.1.1 index Lib.MathLoose.max_long.x ∈ gw_s) (hd : 1 ≤ X.2.1) (hst : (st.map fun v => v.category).sum ≤ 8) (hu : u.1 ≤ X.2.2.1 ∧ u.2 ≤ X.2.2.2) (k : V X u M q loc (.long (mx_l x y) :: st) F G) : V X u M pc loc (.long y :: .long x :: st) F G := by
  subst hq
  intro res hres p l e s m args below meth c K b H locs ls A hP hS hz hl
  have hrest : ((st.map (up_v b)).map fun v => v.category).sum ≤ 8 := by
    rw [List.map_map]; rw [show ((fun v : Value => v.category) ∘ up_v b) = (fun v => v.category) by funext v; exact up_cat b v]; exact hst
  exact va_mmax_long A.1 A.2.1 (A.2.2.2.1.trans hl.1.symm) A.2.2.2.2.1 (A.2.2.2.2.2.1 _ hw) (A.2.2.2.2.2.1 _ aw_mx_l.1) (A.2.2.2.2.2.1 _ aw_mx_l.2.1) (A.2.2.2.2.2.1 _ aw_mx_l.2.2) hd (by show _ + 15 ≤ 38 * X.2.1; omega) hu.1 hu.2 hdg (k res hres p l e s m args below meth c K b H locs ls A hP hS hz hl)
theorem v_zretC {X : Xc} {F : Option β} {x : Int32} (hr : X.1.2.2.2.1 = some .boolean) (hdg : decode X.1.2.1 pc = .ok (.ireturn, 1)) (hu : u.1 ≤ X.2.2.1 ∧ u.2 ≤ X.2.2.2) (hF : F.bind G = some (some (.int x), M)) : V X u M pc loc [.int x] (if x = 0 ∨ x = 1 then F else none) G := by
  intro res hres
  split at hres
  · rename_i hx
    exact v_zret hr hdg hu hF hx res hres
  · cases hres
theorem v_getIb {X : Xc} {a ci k index : Nat} {Kf : Int32 → Option β} (hdg : decode X.1.2.1 pc = .ok (.getfield index, 3)) (hq : pc + 3 = q) (hf : fi_k X.1.1 index ci k) (kk : ∀ v, V X u M q loc (.int v :: st) (Kf v) G) : V X u M pc loc (.ref a :: st) (gi M a ci k Kf) G := v_getI hdg hq hf.1 hf.2.1 hf.2.2.1 hf.2.2.2 kk
theorem v_getRb {X : Xc} {a ci k index : Nat} {Kf : Nat → Option β} (hdg : decode X.1.2.1 pc = .ok (.getfield index, 3)) (hq : pc + 3 = q) (hf : fr_k X.1.1 index ci k) (kk : ∀ o, V X u M q loc (.ref o :: st) (Kf o) G) : V X u M pc loc (.ref a :: st) (gr M a ci k Kf) G := v_getR hdg hq hf.1 hf.2.1 hf.2.2.1 hf.2.2.2 kk
theorem v_putIb {X : Xc} {a ci k index : Nat} {x : Int32} {Kf : Me → Option β} (hdg : decode X.1.2.1 pc = .ok (.putfield index, 3)) (hq : pc + 3 = q) (hf : wi_k X.1.1 index ci k) (kk : ∀ M2, V X u M2 q loc st (Kf M2) G) : V X u M pc loc (.int x :: .ref a :: st) (pi M a ci k x Kf) G := v_putI hdg hq hf.1 hf.2.1 hf.2.2.1 hf.2.2.2.1 hf.2.2.2.2 kk
theorem v_putZb {X : Xc} {a ci k index : Nat} {x : Int32} {Kf : Me → Option β} (hdg : decode X.1.2.1 pc = .ok (.putfield index, 3)) (hq : pc + 3 = q) (hf : wz_k X.1.1 index ci k) (kk : ∀ M2, V X u M2 q loc st (Kf M2) G) : V X u M pc loc (.int x :: .ref a :: st) (pz M a ci k x Kf) G := v_putZ hdg hq hf.1 hf.2.1 hf.2.2.1 hf.2.2.2.1 hf.2.2.2.2 kk
theorem v_putRb {own : String} {cc : ByteArray} {nL : Nat} {ret : Option FieldType} {a ci k o index : Nat} {Kf : Me → Option β} (hdg : decode cc pc = .ok (.putfield index, 3)) (hq : pc + 3 = q) (hf : wr_k own index ci k) (kk : ∀ M2, V ((own, cc, nL, ret, "<init>"), D, mc0, ms0) u M2 q loc st (Kf M2) G) : V ((own, cc, nL, ret, "<init>"), D, mc0, ms0) u M pc loc (.ref o :: .ref a :: st) (pr M a ci k o Kf) G := v_putR hdg hq hf.1 hf.2.1 hf.2.2.1 hf.2.2.2.1 hf.2.2.2.2.1 rfl hf.2.2.2.2.2 kk
theorem v_newU {X : Xc} {ci index : Nat} {Kf : Nat → Me → Option β} (hdg : decode X.1.2.1 pc = .ok (.new index, 3)) (hq : pc + 3 = q) (hw : no_k X.1.1 index ci) (hu : u2.1 ≤ X.2.2.1 ∧ u2.2 ≤ X.2.2.2) (he : (u.1 + 1, u.2 + nf_c ci) = u2) (kk : ∀ a M2, V X u2 M2 q loc (.ref a :: st) (Kf a M2) G) : V X u M pc loc st (no M ci Kf) G := by
  subst he
  exact v_new hdg hq hw.1 hw.2.1 hw.2.2.1 hw.2.2.2 hu kk
theorem v_newIU {X : Xc} {n : Int32} {N : Nat} {Kf : Nat → Me → Option β} (hdg : decode X.1.2.1 pc = .ok (.newarray .int, 2)) (hq : pc + 2 = q) (h1 : Cond.arrayClass .int ∈ gw_s) (hn : ¬ n < 0) (hN : n.toNatClampNeg = N) (hs : N ≤ 1000) (hu : u2.1 ≤ X.2.2.1 ∧ u2.2 ≤ X.2.2.2) (he : (u.1 + 1, u.2 + N) = u2) (kk : ∀ a M2, V X u2 M2 q loc (.ref a :: st) (Kf a M2) G) : V X u M pc loc (.int n :: st) (na M 20 N Kf) G := by
  subst he
  exact v_newI hdg hq h1 hn hN hs hu kk
theorem v_newZU {X : Xc} {n : Int32} {N : Nat} {Kf : Nat → Me → Option β} (hdg : decode X.1.2.1 pc = .ok (.newarray .boolean, 2)) (hq : pc + 2 = q) (h1 : Cond.arrayClass .boolean ∈ gw_s) (hn : ¬ n < 0) (hN : n.toNatClampNeg = N) (hs : N ≤ 1000) (hu : u2.1 ≤ X.2.2.1 ∧ u2.2 ≤ X.2.2.2) (he : (u.1 + 1, u.2 + N) = u2) (kk : ∀ a M2, V X u2 M2 q loc (.ref a :: st) (Kf a M2) G) : V X u M pc loc (.int n :: st) (na M 21 N Kf) G := by
  subst he
  exact v_newZ hdg hq h1 hn hN hs hu kk
theorem v_newRU {X : Xc} {n : Int32} {N kd t0 index : Nat} {C : String} {Kf : Nat → Me → Option β} (hdg : decode X.1.2.1 pc = .ok (.anewarray index, 3)) (hq : pc + 3 = q) (hkd : 22 ≤ kd) (ht : ∀ K : Kn, (ty_s K)[t0]? = some (K.2.2 kd, .object C)) (h1 : Cond.classLink X.1.1 index C ∈ gw_s) (h2 : Cond.arrayOver (.object C) ∈ nw_s) (hn : ¬ n < 0) (hN : n.toNatClampNeg = N) (hs : N ≤ 1000) (hu : u2.1 ≤ X.2.2.1 ∧ u2.2 ≤ X.2.2.2) (he : (u.1 + 1, u.2 + N) = u2) (kk : ∀ a M2, V X u2 M2 q loc (.ref a :: st) (Kf a M2) G) : V X u M pc loc (.int n :: st) (na M kd N Kf) G := by
  subst he
  exact v_newR hdg hq hkd ht h1 h2 hn hN hs hu kk
theorem v_cEV3 {y : MethodName} {Y : My} {d index a ci : Nat} {w1 w2 w3 : Value} {x : Option (Int64 × Me)} {Kf : Int64 → Me → Option β} (hC : ∀ r M2, x = some (r, M2) → me_k M a = some (ci, nf_c ci) ∧ Ct y Y d 0 0 [.ref a, w1, w2, w3] M (some (.long r), M2)) (hdg : decode Y0.2.1 pc = .ok (.invokevirtual index, 3)) (hq : pc + 3 = q) (hw : cv_k Y0.1 index y Y 3 ci) (hd : d + 1 ≤ D) (hst : (st.map fun v => v.category).sum ≤ 8) (hu : u.1 ≤ mc0 ∧ u.2 ≤ ms0) (kk : ∀ r M2, V (Y0, D, mc0, ms0) u M2 q loc (.long r :: st) (Kf r M2) G) : V (Y0, D, mc0, ms0) u M pc loc (w3 :: w2 :: w1 :: .ref a :: st) (cE x Kf) G := by
  intro res hres
  unfold cE at hres
  cases hx : x with
  | none => rw [hx] at hres; cases hres
  | some r0 =>
    rw [hx] at hres
    obtain ⟨r, M2⟩ := r0
    obtain ⟨hk, hc⟩ := hC r M2 hx
    exact v_callV (X := (Y0, D, mc0, ms0)) (mc := 0) (ms := 0) (av := [w1, w2, w3]) hc hdg hq hw.1 hw.2.1 hw.2.2.1 rfl hd hw.2.2.2.1 hw.2.2.2.2 hk hst hu (kk r M2) res hres
theorem v_cIV0 {y : MethodName} {Y : My} {d index a ci : Nat} {x : Option (Int32 × Me)} {Kf : Int32 → Me → Option β} (hC : ∀ r M2, x = some (r, M2) → me_k M a = some (ci, nf_c ci) ∧ Ct y Y d 0 0 [.ref a] M (some (.int r), M2)) (hdg : decode Y0.2.1 pc = .ok (.invokevirtual index, 3)) (hq : pc + 3 = q) (hw : cv_k Y0.1 index y Y 0 ci) (hd : d + 1 ≤ D) (hst : (st.map fun v => v.category).sum ≤ 8) (hu : u.1 ≤ mc0 ∧ u.2 ≤ ms0) (kk : ∀ r M2, V (Y0, D, mc0, ms0) u M2 q loc (.int r :: st) (Kf r M2) G) : V (Y0, D, mc0, ms0) u M pc loc (.ref a :: st) (cI x Kf) G := by
  intro res hres
  unfold cI at hres
  cases hx : x with
  | none => rw [hx] at hres; cases hres
  | some r0 =>
    rw [hx] at hres
    obtain ⟨r, M2⟩ := r0
    obtain ⟨hk, hc⟩ := hC r M2 hx
    exact v_callV (X := (Y0, D, mc0, ms0)) (mc := 0) (ms := 0) (av := []) hc hdg hq hw.1 hw.2.1 hw.2.2.1 rfl hd hw.2.2.2.1 hw.2.2.2.2 hk hst hu (kk r M2) res hres
theorem v_cIV1 {y : MethodName} {Y : My} {d index a ci : Nat} {w1 : Value} {x : Option (Int32 × Me)} {Kf : Int32 → Me → Option β} (hC : ∀ r M2, x = some (r, M2) → me_k M a = some (ci, nf_c ci) ∧ Ct y Y d 0 0 [.ref a, w1] M (some (.int r), M2)) (hdg : decode Y0.2.1 pc = .ok (.invokevirtual index, 3)) (hq : pc + 3 = q) (hw : cv_k Y0.1 index y Y 1 ci) (hd : d + 1 ≤ D) (hst : (st.map fun v => v.category).sum ≤ 8) (hu : u.1 ≤ mc0 ∧ u.2 ≤ ms0) (kk : ∀ r M2, V (Y0, D, mc0, ms0) u M2 q loc (.int r :: st) (Kf r M2) G) : V (Y0, D, mc0, ms0) u M pc loc (w1 :: .ref a :: st) (cI x Kf) G := by
  intro res hres
  unfold cI at hres
  cases hx : x with
  | none => rw [hx] at hres; cases hres
  | some r0 =>
    rw [hx] at hres
    obtain ⟨r, M2⟩ := r0
    obtain ⟨hk, hc⟩ := hC r M2 hx
    exact v_callV (X := (Y0, D, mc0, ms0)) (mc := 0) (ms := 0) (av := [w1]) hc hdg hq hw.1 hw.2.1 hw.2.2.1 rfl hd hw.2.2.2.1 hw.2.2.2.2 hk hst hu (kk r M2) res hres
theorem v_cIV2 {y : MethodName} {Y : My} {d index a ci : Nat} {w1 w2 : Value} {x : Option (Int32 × Me)} {Kf : Int32 → Me → Option β} (hC : ∀ r M2, x = some (r, M2) → me_k M a = some (ci, nf_c ci) ∧ Ct y Y d 0 0 [.ref a, w1, w2] M (some (.int r), M2)) (hdg : decode Y0.2.1 pc = .ok (.invokevirtual index, 3)) (hq : pc + 3 = q) (hw : cv_k Y0.1 index y Y 2 ci) (hd : d + 1 ≤ D) (hst : (st.map fun v => v.category).sum ≤ 8) (hu : u.1 ≤ mc0 ∧ u.2 ≤ ms0) (kk : ∀ r M2, V (Y0, D, mc0, ms0) u M2 q loc (.int r :: st) (Kf r M2) G) : V (Y0, D, mc0, ms0) u M pc loc (w2 :: w1 :: .ref a :: st) (cI x Kf) G := by
  intro res hres
  unfold cI at hres
  cases hx : x with
  | none => rw [hx] at hres; cases hres
  | some r0 =>
    rw [hx] at hres
    obtain ⟨r, M2⟩ := r0
    obtain ⟨hk, hc⟩ := hC r M2 hx
    exact v_callV (X := (Y0, D, mc0, ms0)) (mc := 0) (ms := 0) (av := [w1, w2]) hc hdg hq hw.1 hw.2.1 hw.2.2.1 rfl hd hw.2.2.2.1 hw.2.2.2.2 hk hst hu (kk r M2) res hres
theorem v_cIV3 {y : MethodName} {Y : My} {d index a ci : Nat} {w1 w2 w3 : Value} {x : Option (Int32 × Me)} {Kf : Int32 → Me → Option β} (hC : ∀ r M2, x = some (r, M2) → me_k M a = some (ci, nf_c ci) ∧ Ct y Y d 0 0 [.ref a, w1, w2, w3] M (some (.int r), M2)) (hdg : decode Y0.2.1 pc = .ok (.invokevirtual index, 3)) (hq : pc + 3 = q) (hw : cv_k Y0.1 index y Y 3 ci) (hd : d + 1 ≤ D) (hst : (st.map fun v => v.category).sum ≤ 8) (hu : u.1 ≤ mc0 ∧ u.2 ≤ ms0) (kk : ∀ r M2, V (Y0, D, mc0, ms0) u M2 q loc (.int r :: st) (Kf r M2) G) : V (Y0, D, mc0, ms0) u M pc loc (w3 :: w2 :: w1 :: .ref a :: st) (cI x Kf) G := by
  intro res hres
  unfold cI at hres
  cases hx : x with
  | none => rw [hx] at hres; cases hres
  | some r0 =>
    rw [hx] at hres
    obtain ⟨r, M2⟩ := r0
    obtain ⟨hk, hc⟩ := hC r M2 hx
    exact v_callV (X := (Y0, D, mc0, ms0)) (mc := 0) (ms := 0) (av := [w1, w2, w3]) hc hdg hq hw.1 hw.2.1 hw.2.2.1 rfl hd hw.2.2.2.1 hw.2.2.2.2 hk hst hu (kk r M2) res hres
theorem v_cLS1 {y : MethodName} {Y : My} {d index : Nat} {w1 : Value} {x : Option Int64} {Kf : Int64 → Option β} (hC : ∀ r, x = some r → Ct y Y d 0 0 [w1] M (some (.long r), M)) (hdg : decode Y0.2.1 pc = .ok (.invokestatic index, 3)) (hq : pc + 3 = q) (hw : cs_k Y0.1 index y Y 1) (hd : d + 1 ≤ D) (hst : (st.map fun v => v.category).sum ≤ 8) (hu : u.1 ≤ mc0 ∧ u.2 ≤ ms0) (kk : ∀ r, V (Y0, D, mc0, ms0) u M q loc (.long r :: st) (Kf r) G) : V (Y0, D, mc0, ms0) u M pc loc (w1 :: st) (cL x Kf) G := by
  intro res hres
  unfold cL at hres
  cases hx : x with
  | none => rw [hx] at hres; cases hres
  | some r0 =>
    rw [hx] at hres
    obtain ⟨r, rfl⟩ : ∃ z, z = r0 := ⟨_, rfl⟩
    exact v_callS (X := (Y0, D, mc0, ms0)) (mc := 0) (ms := 0) (av := [w1]) (hC r hx) hdg hq hw.1 hw.2 rfl hd hst hu (kk r) res hres
theorem v_cLS2 {y : MethodName} {Y : My} {d index : Nat} {w1 w2 : Value} {x : Option Int64} {Kf : Int64 → Option β} (hC : ∀ r, x = some r → Ct y Y d 0 0 [w1, w2] M (some (.long r), M)) (hdg : decode Y0.2.1 pc = .ok (.invokestatic index, 3)) (hq : pc + 3 = q) (hw : cs_k Y0.1 index y Y 2) (hd : d + 1 ≤ D) (hst : (st.map fun v => v.category).sum ≤ 8) (hu : u.1 ≤ mc0 ∧ u.2 ≤ ms0) (kk : ∀ r, V (Y0, D, mc0, ms0) u M q loc (.long r :: st) (Kf r) G) : V (Y0, D, mc0, ms0) u M pc loc (w2 :: w1 :: st) (cL x Kf) G := by
  intro res hres
  unfold cL at hres
  cases hx : x with
  | none => rw [hx] at hres; cases hres
  | some r0 =>
    rw [hx] at hres
    obtain ⟨r, rfl⟩ : ∃ z, z = r0 := ⟨_, rfl⟩
    exact v_callS (X := (Y0, D, mc0, ms0)) (mc := 0) (ms := 0) (av := [w1, w2]) (hC r hx) hdg hq hw.1 hw.2 rfl hd hst hu (kk r) res hres
theorem v_cLS3 {y : MethodName} {Y : My} {d index : Nat} {w1 w2 w3 : Value} {x : Option Int64} {Kf : Int64 → Option β} (hC : ∀ r, x = some r → Ct y Y d 0 0 [w1, w2, w3] M (some (.long r), M)) (hdg : decode Y0.2.1 pc = .ok (.invokestatic index, 3)) (hq : pc + 3 = q) (hw : cs_k Y0.1 index y Y 3) (hd : d + 1 ≤ D) (hst : (st.map fun v => v.category).sum ≤ 8) (hu : u.1 ≤ mc0 ∧ u.2 ≤ ms0) (kk : ∀ r, V (Y0, D, mc0, ms0) u M q loc (.long r :: st) (Kf r) G) : V (Y0, D, mc0, ms0) u M pc loc (w3 :: w2 :: w1 :: st) (cL x Kf) G := by
  intro res hres
  unfold cL at hres
  cases hx : x with
  | none => rw [hx] at hres; cases hres
  | some r0 =>
    rw [hx] at hres
    obtain ⟨r, rfl⟩ : ∃ z, z = r0 := ⟨_, rfl⟩
    exact v_callS (X := (Y0, D, mc0, ms0)) (mc := 0) (ms := 0) (av := [w1, w2, w3]) (hC r hx) hdg hq hw.1 hw.2 rfl hd hst hu (kk r) res hres
theorem v_cLS4 {y : MethodName} {Y : My} {d index : Nat} {w1 w2 w3 w4 : Value} {x : Option Int64} {Kf : Int64 → Option β} (hC : ∀ r, x = some r → Ct y Y d 0 0 [w1, w2, w3, w4] M (some (.long r), M)) (hdg : decode Y0.2.1 pc = .ok (.invokestatic index, 3)) (hq : pc + 3 = q) (hw : cs_k Y0.1 index y Y 4) (hd : d + 1 ≤ D) (hst : (st.map fun v => v.category).sum ≤ 8) (hu : u.1 ≤ mc0 ∧ u.2 ≤ ms0) (kk : ∀ r, V (Y0, D, mc0, ms0) u M q loc (.long r :: st) (Kf r) G) : V (Y0, D, mc0, ms0) u M pc loc (w4 :: w3 :: w2 :: w1 :: st) (cL x Kf) G := by
  intro res hres
  unfold cL at hres
  cases hx : x with
  | none => rw [hx] at hres; cases hres
  | some r0 =>
    rw [hx] at hres
    obtain ⟨r, rfl⟩ : ∃ z, z = r0 := ⟨_, rfl⟩
    exact v_callS (X := (Y0, D, mc0, ms0)) (mc := 0) (ms := 0) (av := [w1, w2, w3, w4]) (hC r hx) hdg hq hw.1 hw.2 rfl hd hst hu (kk r) res hres
theorem v_cMN0 {y : MethodName} {Y : My} {d index a : Nat} {x : Option Me} {Kf : Me → Option β} (hC : ∀ r, x = some r → Ct y Y d 0 0 [.ref a] M (none, r)) (hdg : decode Y0.2.1 pc = .ok (.invokespecial index, 3)) (hq : pc + 3 = q) (hw : cn_k Y0.1 index y Y 0) (hd : d + 1 ≤ D) (hst : (st.map fun v => v.category).sum ≤ 8) (hu : u.1 ≤ mc0 ∧ u.2 ≤ ms0) (kk : ∀ r, V (Y0, D, mc0, ms0) u r q loc (st) (Kf r) G) : V (Y0, D, mc0, ms0) u M pc loc (.ref a :: st) (cM x Kf) G := by
  intro res hres
  unfold cM at hres
  cases hx : x with
  | none => rw [hx] at hres; cases hres
  | some r0 =>
    rw [hx] at hres
    obtain ⟨r, rfl⟩ : ∃ z, z = r0 := ⟨_, rfl⟩
    exact v_callN (X := (Y0, D, mc0, ms0)) (mc := 0) (ms := 0) (av := []) (hC r hx) hdg hq hw.1 hw.2.1 hw.2.2.1 hw.2.2.2 rfl hd hst hu (kk r) res hres
theorem v_cMN0a {y : MethodName} {Y : My} {d index mc ms a : Nat} {x : Option Me} {Kf : Me → Option β} (hC : ∀ r, x = some r → Ct y Y d mc ms [.ref a] M (none, r)) (hdg : decode Y0.2.1 pc = .ok (.invokespecial index, 3)) (hq : pc + 3 = q) (hw : cn_k Y0.1 index y Y 0) (hd : d + 1 ≤ D) (hst : (st.map fun v => v.category).sum ≤ 8) (hu : u2.1 ≤ mc0 ∧ u2.2 ≤ ms0) (he : (u.1 + mc, u.2 + ms) = u2) (kk : ∀ r, V (Y0, D, mc0, ms0) u2 r q loc (st) (Kf r) G) : V (Y0, D, mc0, ms0) u M pc loc (.ref a :: st) (cM x Kf) G := by
  subst he
  intro res hres
  unfold cM at hres
  cases hx : x with
  | none => rw [hx] at hres; cases hres
  | some r0 =>
    rw [hx] at hres
    obtain ⟨r, rfl⟩ : ∃ z, z = r0 := ⟨_, rfl⟩
    exact v_callN (X := (Y0, D, mc0, ms0)) (av := []) (hC r hx) hdg hq hw.1 hw.2.1 hw.2.2.1 hw.2.2.2 rfl hd hst hu (kk r) res hres
theorem v_cMS2 {y : MethodName} {Y : My} {d index : Nat} {w1 w2 : Value} {x : Option Me} {Kf : Me → Option β} (hC : ∀ r, x = some r → Ct y Y d 0 0 [w1, w2] M (none, r)) (hdg : decode Y0.2.1 pc = .ok (.invokestatic index, 3)) (hq : pc + 3 = q) (hw : cs_k Y0.1 index y Y 2) (hd : d + 1 ≤ D) (hst : (st.map fun v => v.category).sum ≤ 8) (hu : u.1 ≤ mc0 ∧ u.2 ≤ ms0) (kk : ∀ r, V (Y0, D, mc0, ms0) u r q loc (st) (Kf r) G) : V (Y0, D, mc0, ms0) u M pc loc (w2 :: w1 :: st) (cM x Kf) G := by
  intro res hres
  unfold cM at hres
  cases hx : x with
  | none => rw [hx] at hres; cases hres
  | some r0 =>
    rw [hx] at hres
    obtain ⟨r, rfl⟩ : ∃ z, z = r0 := ⟨_, rfl⟩
    exact v_callS (X := (Y0, D, mc0, ms0)) (mc := 0) (ms := 0) (av := [w1, w2]) (hC r hx) hdg hq hw.1 hw.2 rfl hd hst hu (kk r) res hres
theorem v_cMV0 {y : MethodName} {Y : My} {d index a ci : Nat} {x : Option Me} {Kf : Me → Option β} (hC : ∀ r, x = some r → me_k M a = some (ci, nf_c ci) ∧ Ct y Y d 0 0 [.ref a] M (none, r)) (hdg : decode Y0.2.1 pc = .ok (.invokevirtual index, 3)) (hq : pc + 3 = q) (hw : cv_k Y0.1 index y Y 0 ci) (hd : d + 1 ≤ D) (hst : (st.map fun v => v.category).sum ≤ 8) (hu : u.1 ≤ mc0 ∧ u.2 ≤ ms0) (kk : ∀ r, V (Y0, D, mc0, ms0) u r q loc (st) (Kf r) G) : V (Y0, D, mc0, ms0) u M pc loc (.ref a :: st) (cM x Kf) G := by
  intro res hres
  unfold cM at hres
  cases hx : x with
  | none => rw [hx] at hres; cases hres
  | some r0 =>
    rw [hx] at hres
    obtain ⟨r, rfl⟩ : ∃ z, z = r0 := ⟨_, rfl⟩
    obtain ⟨hk, hc⟩ := hC r hx
    exact v_callV (X := (Y0, D, mc0, ms0)) (mc := 0) (ms := 0) (av := []) hc hdg hq hw.1 hw.2.1 hw.2.2.1 rfl hd hw.2.2.2.1 hw.2.2.2.2 hk hst hu (kk r) res hres
theorem v_cMV1 {y : MethodName} {Y : My} {d index a ci : Nat} {w1 : Value} {x : Option Me} {Kf : Me → Option β} (hC : ∀ r, x = some r → me_k M a = some (ci, nf_c ci) ∧ Ct y Y d 0 0 [.ref a, w1] M (none, r)) (hdg : decode Y0.2.1 pc = .ok (.invokevirtual index, 3)) (hq : pc + 3 = q) (hw : cv_k Y0.1 index y Y 1 ci) (hd : d + 1 ≤ D) (hst : (st.map fun v => v.category).sum ≤ 8) (hu : u.1 ≤ mc0 ∧ u.2 ≤ ms0) (kk : ∀ r, V (Y0, D, mc0, ms0) u r q loc (st) (Kf r) G) : V (Y0, D, mc0, ms0) u M pc loc (w1 :: .ref a :: st) (cM x Kf) G := by
  intro res hres
  unfold cM at hres
  cases hx : x with
  | none => rw [hx] at hres; cases hres
  | some r0 =>
    rw [hx] at hres
    obtain ⟨r, rfl⟩ : ∃ z, z = r0 := ⟨_, rfl⟩
    obtain ⟨hk, hc⟩ := hC r hx
    exact v_callV (X := (Y0, D, mc0, ms0)) (mc := 0) (ms := 0) (av := [w1]) hc hdg hq hw.1 hw.2.1 hw.2.2.1 rfl hd hw.2.2.2.1 hw.2.2.2.2 hk hst hu (kk r) res hres
theorem v_cMV2 {y : MethodName} {Y : My} {d index a ci : Nat} {w1 w2 : Value} {x : Option Me} {Kf : Me → Option β} (hC : ∀ r, x = some r → me_k M a = some (ci, nf_c ci) ∧ Ct y Y d 0 0 [.ref a, w1, w2] M (none, r)) (hdg : decode Y0.2.1 pc = .ok (.invokevirtual index, 3)) (hq : pc + 3 = q) (hw : cv_k Y0.1 index y Y 2 ci) (hd : d + 1 ≤ D) (hst : (st.map fun v => v.category).sum ≤ 8) (hu : u.1 ≤ mc0 ∧ u.2 ≤ ms0) (kk : ∀ r, V (Y0, D, mc0, ms0) u r q loc (st) (Kf r) G) : V (Y0, D, mc0, ms0) u M pc loc (w2 :: w1 :: .ref a :: st) (cM x Kf) G := by
  intro res hres
  unfold cM at hres
  cases hx : x with
  | none => rw [hx] at hres; cases hres
  | some r0 =>
    rw [hx] at hres
    obtain ⟨r, rfl⟩ : ∃ z, z = r0 := ⟨_, rfl⟩
    obtain ⟨hk, hc⟩ := hC r hx
    exact v_callV (X := (Y0, D, mc0, ms0)) (mc := 0) (ms := 0) (av := [w1, w2]) hc hdg hq hw.1 hw.2.1 hw.2.2.1 rfl hd hw.2.2.2.1 hw.2.2.2.2 hk hst hu (kk r) res hres
theorem v_cMV3 {y : MethodName} {Y : My} {d index a ci : Nat} {w1 w2 w3 : Value} {x : Option Me} {Kf : Me → Option β} (hC : ∀ r, x = some r → me_k M a = some (ci, nf_c ci) ∧ Ct y Y d 0 0 [.ref a, w1, w2, w3] M (none, r)) (hdg : decode Y0.2.1 pc = .ok (.invokevirtual index, 3)) (hq : pc + 3 = q) (hw : cv_k Y0.1 index y Y 3 ci) (hd : d + 1 ≤ D) (hst : (st.map fun v => v.category).sum ≤ 8) (hu : u.1 ≤ mc0 ∧ u.2 ≤ ms0) (kk : ∀ r, V (Y0, D, mc0, ms0) u r q loc (st) (Kf r) G) : V (Y0, D, mc0, ms0) u M pc loc (w3 :: w2 :: w1 :: .ref a :: st) (cM x Kf) G := by
  intro res hres
  unfold cM at hres
  cases hx : x with
  | none => rw [hx] at hres; cases hres
  | some r0 =>
    rw [hx] at hres
    obtain ⟨r, rfl⟩ : ∃ z, z = r0 := ⟨_, rfl⟩
    obtain ⟨hk, hc⟩ := hC r hx
    exact v_callV (X := (Y0, D, mc0, ms0)) (mc := 0) (ms := 0) (av := [w1, w2, w3]) hc hdg hq hw.1 hw.2.1 hw.2.2.1 rfl hd hw.2.2.2.1 hw.2.2.2.2 hk hst hu (kk r) res hres
theorem v_cMV4 {y : MethodName} {Y : My} {d index a ci : Nat} {w1 w2 w3 w4 : Value} {x : Option Me} {Kf : Me → Option β} (hC : ∀ r, x = some r → me_k M a = some (ci, nf_c ci) ∧ Ct y Y d 0 0 [.ref a, w1, w2, w3, w4] M (none, r)) (hdg : decode Y0.2.1 pc = .ok (.invokevirtual index, 3)) (hq : pc + 3 = q) (hw : cv_k Y0.1 index y Y 4 ci) (hd : d + 1 ≤ D) (hst : (st.map fun v => v.category).sum ≤ 8) (hu : u.1 ≤ mc0 ∧ u.2 ≤ ms0) (kk : ∀ r, V (Y0, D, mc0, ms0) u r q loc (st) (Kf r) G) : V (Y0, D, mc0, ms0) u M pc loc (w4 :: w3 :: w2 :: w1 :: .ref a :: st) (cM x Kf) G := by
  intro res hres
  unfold cM at hres
  cases hx : x with
  | none => rw [hx] at hres; cases hres
  | some r0 =>
    rw [hx] at hres
    obtain ⟨r, rfl⟩ : ∃ z, z = r0 := ⟨_, rfl⟩
    obtain ⟨hk, hc⟩ := hC r hx
    exact v_callV (X := (Y0, D, mc0, ms0)) (mc := 0) (ms := 0) (av := [w1, w2, w3, w4]) hc hdg hq hw.1 hw.2.1 hw.2.2.1 rfl hd hw.2.2.2.1 hw.2.2.2.2 hk hst hu (kk r) res hres
theorem v_cPS1 {y : MethodName} {Y : My} {d index : Nat} {w1 : Value} {x : Option Int32} {Kf : Int32 → Option β} (hC : ∀ r, x = some r → Ct y Y d 0 0 [w1] M (some (.int r), M)) (hdg : decode Y0.2.1 pc = .ok (.invokestatic index, 3)) (hq : pc + 3 = q) (hw : cs_k Y0.1 index y Y 1) (hd : d + 1 ≤ D) (hst : (st.map fun v => v.category).sum ≤ 8) (hu : u.1 ≤ mc0 ∧ u.2 ≤ ms0) (kk : ∀ r, V (Y0, D, mc0, ms0) u M q loc (.int r :: st) (Kf r) G) : V (Y0, D, mc0, ms0) u M pc loc (w1 :: st) (cP x Kf) G := by
  intro res hres
  unfold cP at hres
  cases hx : x with
  | none => rw [hx] at hres; cases hres
  | some r0 =>
    rw [hx] at hres
    obtain ⟨r, rfl⟩ : ∃ z, z = r0 := ⟨_, rfl⟩
    exact v_callS (X := (Y0, D, mc0, ms0)) (mc := 0) (ms := 0) (av := [w1]) (hC r hx) hdg hq hw.1 hw.2 rfl hd hst hu (kk r) res hres
theorem v_cPS2 {y : MethodName} {Y : My} {d index : Nat} {w1 w2 : Value} {x : Option Int32} {Kf : Int32 → Option β} (hC : ∀ r, x = some r → Ct y Y d 0 0 [w1, w2] M (some (.int r), M)) (hdg : decode Y0.2.1 pc = .ok (.invokestatic index, 3)) (hq : pc + 3 = q) (hw : cs_k Y0.1 index y Y 2) (hd : d + 1 ≤ D) (hst : (st.map fun v => v.category).sum ≤ 8) (hu : u.1 ≤ mc0 ∧ u.2 ≤ ms0) (kk : ∀ r, V (Y0, D, mc0, ms0) u M q loc (.int r :: st) (Kf r) G) : V (Y0, D, mc0, ms0) u M pc loc (w2 :: w1 :: st) (cP x Kf) G := by
  intro res hres
  unfold cP at hres
  cases hx : x with
  | none => rw [hx] at hres; cases hres
  | some r0 =>
    rw [hx] at hres
    obtain ⟨r, rfl⟩ : ∃ z, z = r0 := ⟨_, rfl⟩
    exact v_callS (X := (Y0, D, mc0, ms0)) (mc := 0) (ms := 0) (av := [w1, w2]) (hC r hx) hdg hq hw.1 hw.2 rfl hd hst hu (kk r) res hres
theorem v_cPS3 {y : MethodName} {Y : My} {d index : Nat} {w1 w2 w3 : Value} {x : Option Int32} {Kf : Int32 → Option β} (hC : ∀ r, x = some r → Ct y Y d 0 0 [w1, w2, w3] M (some (.int r), M)) (hdg : decode Y0.2.1 pc = .ok (.invokestatic index, 3)) (hq : pc + 3 = q) (hw : cs_k Y0.1 index y Y 3) (hd : d + 1 ≤ D) (hst : (st.map fun v => v.category).sum ≤ 8) (hu : u.1 ≤ mc0 ∧ u.2 ≤ ms0) (kk : ∀ r, V (Y0, D, mc0, ms0) u M q loc (.int r :: st) (Kf r) G) : V (Y0, D, mc0, ms0) u M pc loc (w3 :: w2 :: w1 :: st) (cP x Kf) G := by
  intro res hres
  unfold cP at hres
  cases hx : x with
  | none => rw [hx] at hres; cases hres
  | some r0 =>
    rw [hx] at hres
    obtain ⟨r, rfl⟩ : ∃ z, z = r0 := ⟨_, rfl⟩
    exact v_callS (X := (Y0, D, mc0, ms0)) (mc := 0) (ms := 0) (av := [w1, w2, w3]) (hC r hx) hdg hq hw.1 hw.2 rfl hd hst hu (kk r) res hres
theorem v_cPS4 {y : MethodName} {Y : My} {d index : Nat} {w1 w2 w3 w4 : Value} {x : Option Int32} {Kf : Int32 → Option β} (hC : ∀ r, x = some r → Ct y Y d 0 0 [w1, w2, w3, w4] M (some (.int r), M)) (hdg : decode Y0.2.1 pc = .ok (.invokestatic index, 3)) (hq : pc + 3 = q) (hw : cs_k Y0.1 index y Y 4) (hd : d + 1 ≤ D) (hst : (st.map fun v => v.category).sum ≤ 8) (hu : u.1 ≤ mc0 ∧ u.2 ≤ ms0) (kk : ∀ r, V (Y0, D, mc0, ms0) u M q loc (.int r :: st) (Kf r) G) : V (Y0, D, mc0, ms0) u M pc loc (w4 :: w3 :: w2 :: w1 :: st) (cP x Kf) G := by
  intro res hres
  unfold cP at hres
  cases hx : x with
  | none => rw [hx] at hres; cases hres
  | some r0 =>
    rw [hx] at hres
    obtain ⟨r, rfl⟩ : ∃ z, z = r0 := ⟨_, rfl⟩
    exact v_callS (X := (Y0, D, mc0, ms0)) (mc := 0) (ms := 0) (av := [w1, w2, w3, w4]) (hC r hx) hdg hq hw.1 hw.2 rfl hd hst hu (kk r) res hres
theorem v_cPS5 {y : MethodName} {Y : My} {d index : Nat} {w1 w2 w3 w4 w5 : Value} {x : Option Int32} {Kf : Int32 → Option β} (hC : ∀ r, x = some r → Ct y Y d 0 0 [w1, w2, w3, w4, w5] M (some (.int r), M)) (hdg : decode Y0.2.1 pc = .ok (.invokestatic index, 3)) (hq : pc + 3 = q) (hw : cs_k Y0.1 index y Y 5) (hd : d + 1 ≤ D) (hst : (st.map fun v => v.category).sum ≤ 8) (hu : u.1 ≤ mc0 ∧ u.2 ≤ ms0) (kk : ∀ r, V (Y0, D, mc0, ms0) u M q loc (.int r :: st) (Kf r) G) : V (Y0, D, mc0, ms0) u M pc loc (w5 :: w4 :: w3 :: w2 :: w1 :: st) (cP x Kf) G := by
  intro res hres
  unfold cP at hres
  cases hx : x with
  | none => rw [hx] at hres; cases hres
  | some r0 =>
    rw [hx] at hres
    obtain ⟨r, rfl⟩ : ∃ z, z = r0 := ⟨_, rfl⟩
    exact v_callS (X := (Y0, D, mc0, ms0)) (mc := 0) (ms := 0) (av := [w1, w2, w3, w4, w5]) (hC r hx) hdg hq hw.1 hw.2 rfl hd hst hu (kk r) res hres
theorem v_cPV0 {y : MethodName} {Y : My} {d index a ci : Nat} {x : Option Int32} {Kf : Int32 → Option β} (hC : ∀ r, x = some r → me_k M a = some (ci, nf_c ci) ∧ Ct y Y d 0 0 [.ref a] M (some (.int r), M)) (hdg : decode Y0.2.1 pc = .ok (.invokevirtual index, 3)) (hq : pc + 3 = q) (hw : cv_k Y0.1 index y Y 0 ci) (hd : d + 1 ≤ D) (hst : (st.map fun v => v.category).sum ≤ 8) (hu : u.1 ≤ mc0 ∧ u.2 ≤ ms0) (kk : ∀ r, V (Y0, D, mc0, ms0) u M q loc (.int r :: st) (Kf r) G) : V (Y0, D, mc0, ms0) u M pc loc (.ref a :: st) (cP x Kf) G := by
  intro res hres
  unfold cP at hres
  cases hx : x with
  | none => rw [hx] at hres; cases hres
  | some r0 =>
    rw [hx] at hres
    obtain ⟨r, rfl⟩ : ∃ z, z = r0 := ⟨_, rfl⟩
    obtain ⟨hk, hc⟩ := hC r hx
    exact v_callV (X := (Y0, D, mc0, ms0)) (mc := 0) (ms := 0) (av := []) hc hdg hq hw.1 hw.2.1 hw.2.2.1 rfl hd hw.2.2.2.1 hw.2.2.2.2 hk hst hu (kk r) res hres
theorem v_cPV1 {y : MethodName} {Y : My} {d index a ci : Nat} {w1 : Value} {x : Option Int32} {Kf : Int32 → Option β} (hC : ∀ r, x = some r → me_k M a = some (ci, nf_c ci) ∧ Ct y Y d 0 0 [.ref a, w1] M (some (.int r), M)) (hdg : decode Y0.2.1 pc = .ok (.invokevirtual index, 3)) (hq : pc + 3 = q) (hw : cv_k Y0.1 index y Y 1 ci) (hd : d + 1 ≤ D) (hst : (st.map fun v => v.category).sum ≤ 8) (hu : u.1 ≤ mc0 ∧ u.2 ≤ ms0) (kk : ∀ r, V (Y0, D, mc0, ms0) u M q loc (.int r :: st) (Kf r) G) : V (Y0, D, mc0, ms0) u M pc loc (w1 :: .ref a :: st) (cP x Kf) G := by
  intro res hres
  unfold cP at hres
  cases hx : x with
  | none => rw [hx] at hres; cases hres
  | some r0 =>
    rw [hx] at hres
    obtain ⟨r, rfl⟩ : ∃ z, z = r0 := ⟨_, rfl⟩
    obtain ⟨hk, hc⟩ := hC r hx
    exact v_callV (X := (Y0, D, mc0, ms0)) (mc := 0) (ms := 0) (av := [w1]) hc hdg hq hw.1 hw.2.1 hw.2.2.1 rfl hd hw.2.2.2.1 hw.2.2.2.2 hk hst hu (kk r) res hres
theorem v_cPV2 {y : MethodName} {Y : My} {d index a ci : Nat} {w1 w2 : Value} {x : Option Int32} {Kf : Int32 → Option β} (hC : ∀ r, x = some r → me_k M a = some (ci, nf_c ci) ∧ Ct y Y d 0 0 [.ref a, w1, w2] M (some (.int r), M)) (hdg : decode Y0.2.1 pc = .ok (.invokevirtual index, 3)) (hq : pc + 3 = q) (hw : cv_k Y0.1 index y Y 2 ci) (hd : d + 1 ≤ D) (hst : (st.map fun v => v.category).sum ≤ 8) (hu : u.1 ≤ mc0 ∧ u.2 ≤ ms0) (kk : ∀ r, V (Y0, D, mc0, ms0) u M q loc (.int r :: st) (Kf r) G) : V (Y0, D, mc0, ms0) u M pc loc (w2 :: w1 :: .ref a :: st) (cP x Kf) G := by
  intro res hres
  unfold cP at hres
  cases hx : x with
  | none => rw [hx] at hres; cases hres
  | some r0 =>
    rw [hx] at hres
    obtain ⟨r, rfl⟩ : ∃ z, z = r0 := ⟨_, rfl⟩
    obtain ⟨hk, hc⟩ := hC r hx
    exact v_callV (X := (Y0, D, mc0, ms0)) (mc := 0) (ms := 0) (av := [w1, w2]) hc hdg hq hw.1 hw.2.1 hw.2.2.1 rfl hd hw.2.2.2.1 hw.2.2.2.2 hk hst hu (kk r) res hres
theorem v_cPV3 {y : MethodName} {Y : My} {d index a ci : Nat} {w1 w2 w3 : Value} {x : Option Int32} {Kf : Int32 → Option β} (hC : ∀ r, x = some r → me_k M a = some (ci, nf_c ci) ∧ Ct y Y d 0 0 [.ref a, w1, w2, w3] M (some (.int r), M)) (hdg : decode Y0.2.1 pc = .ok (.invokevirtual index, 3)) (hq : pc + 3 = q) (hw : cv_k Y0.1 index y Y 3 ci) (hd : d + 1 ≤ D) (hst : (st.map fun v => v.category).sum ≤ 8) (hu : u.1 ≤ mc0 ∧ u.2 ≤ ms0) (kk : ∀ r, V (Y0, D, mc0, ms0) u M q loc (.int r :: st) (Kf r) G) : V (Y0, D, mc0, ms0) u M pc loc (w3 :: w2 :: w1 :: .ref a :: st) (cP x Kf) G := by
  intro res hres
  unfold cP at hres
  cases hx : x with
  | none => rw [hx] at hres; cases hres
  | some r0 =>
    rw [hx] at hres
    obtain ⟨r, rfl⟩ : ∃ z, z = r0 := ⟨_, rfl⟩
    obtain ⟨hk, hc⟩ := hC r hx
    exact v_callV (X := (Y0, D, mc0, ms0)) (mc := 0) (ms := 0) (av := [w1, w2, w3]) hc hdg hq hw.1 hw.2.1 hw.2.2.1 rfl hd hw.2.2.2.1 hw.2.2.2.2 hk hst hu (kk r) res hres
theorem v_cRV1 {y : MethodName} {Y : My} {d index a ci : Nat} {w1 : Value} {x : Option Nat} {Kf : Nat → Option β} (hC : ∀ r, x = some r → me_k M a = some (ci, nf_c ci) ∧ Ct y Y d 0 0 [.ref a, w1] M (some (.ref r), M)) (hdg : decode Y0.2.1 pc = .ok (.invokevirtual index, 3)) (hq : pc + 3 = q) (hw : cv_k Y0.1 index y Y 1 ci) (hd : d + 1 ≤ D) (hst : (st.map fun v => v.category).sum ≤ 8) (hu : u.1 ≤ mc0 ∧ u.2 ≤ ms0) (kk : ∀ r, V (Y0, D, mc0, ms0) u M q loc (.ref r :: st) (Kf r) G) : V (Y0, D, mc0, ms0) u M pc loc (w1 :: .ref a :: st) (cR x Kf) G := by
  intro res hres
  unfold cR at hres
  cases hx : x with
  | none => rw [hx] at hres; cases hres
  | some r0 =>
    rw [hx] at hres
    obtain ⟨r, rfl⟩ : ∃ z, z = r0 := ⟨_, rfl⟩
    obtain ⟨hk, hc⟩ := hC r hx
    exact v_callV (X := (Y0, D, mc0, ms0)) (mc := 0) (ms := 0) (av := [w1]) hc hdg hq hw.1 hw.2.1 hw.2.2.1 rfl hd hw.2.2.2.1 hw.2.2.2.2 hk hst hu (kk r) res hres
end JH

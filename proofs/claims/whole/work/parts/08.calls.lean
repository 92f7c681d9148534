/-! making cells; calls; a contract out of V -/
theorem cl_df : ∀ ci, ci < 13 → ∀ j, j < nf_c ci → defaultValue (ty_f ci j) = (if is_r (ty_f ci j) = true then Value.null else .int 0) := by
  decide +kernel
section JF
variable {X : Xc} {u : Nat × Nat} {M : Me} {pc q : Nat} {loc : List (Option Value)} {st : List Value} {β : Type} {G : β → Option Rs}
theorem v_new {ci index : Nat} {Kf : Nat → Me → Option β} (hdg : decode X.1.2.1 pc = .ok (.new index, 3)) (hq : pc + 3 = q) (hc : ci < 13) (h1 : Cond.classLink X.1.1 index (rx_c ci) ∈ gw_s) (h2 : Cond.instantiable (rx_c ci) (nf_c ci) ∈ gw_s) (h3 : Cond.initialized (rx_c ci) ∈ gw_s) (hu : u.1 + 1 ≤ X.2.2.1 ∧ u.2 + nf_c ci ≤ X.2.2.2)
    (kk : ∀ a M2, V X (u.1 + 1, u.2 + nf_c ci) M2 q loc (.ref a :: st) (Kf a M2) G) : V X u M pc loc st (no M ci Kf) G := by
  subst hq
  intro res hres p l e s m args below meth c K b H locs ls A hP hS hz hl
  unfold no at hres
  refine h_new A.1 A.2.1 A.2.2.2.2.2.1 (cl_in ci hc) (ty_f ci) (cl_ty ci hc) A.2.2.2.2.1 (A.2.2.2.2.2.1 _ h1) (A.2.2.2.2.2.1 _ h2) (A.2.2.2.2.2.1 _ h3) A.2.2.2.2.2.2.1.1 hP hS (cl_at ci hc) (fs := (List.range (nf_c ci)).map (fun k => if is_r (ty_f ci k) = true then va_rf (up_o b none) else .int 0)) (fun j hj => ?_) hu.1 hu.2 hdg (fun H1 hz1 hP1 hS1 => ?_)
  · rw [cl_df ci hc j hj]
    simp [vp_V, hj]
    rfl
  · rw [hz] at hP1 ⊢
    refine kk _ _ res hres p l e s m args below meth c K b H1 locs ls A ?_ hS1 (by rw [hz1, hz]; simp [me_nw]; omega) hl
    rw [en_new, ce_obj hc]
    exact hP1
theorem v_newI {n : Int32} {N : Nat} {Kf : Nat → Me → Option β} (hdg : decode X.1.2.1 pc = .ok (.newarray .int, 2)) (hq : pc + 2 = q) (h1 : Cond.arrayClass .int ∈ gw_s) (hn : ¬ n < 0) (hN : n.toNatClampNeg = N) (hs : N ≤ 1000) (hu : u.1 + 1 ≤ X.2.2.1 ∧ u.2 + N ≤ X.2.2.2)
    (kk : ∀ a M2, V X (u.1 + 1, u.2 + N) M2 q loc (.ref a :: st) (Kf a M2) G) : V X u M pc loc (.int n :: st) (na M 20 N Kf) G := by
  subst hq
  intro res hres p l e s m args below meth c K b H locs ls A hP hS hz hl
  unfold na at hres
  refine h_newa (atype := .int) (ty := .int) A.1 A.2.1 (A.2.2.2.2.2.1 _ h1) rfl hP hS (a0 := (N, .inl (fun _ => 0))) (cA0 := K.2.2 20) (A.2.2.2.2.2.2.1.1.2 0 _ rfl).2 (fun _ => rfl) hn hN (by show N * 4 ≤ _; omega) hu.1 hu.2 hdg (fun H1 hz1 hP1 hS1 => ?_)
  rw [hz] at hP1 ⊢
  refine kk _ _ res hres p l e s m args below meth c K b H1 locs ls A ?_ hS1 (by rw [hz1, hz]; simp [me_nw]; omega) hl
  rw [en_new, ce_int]
  exact hP1
theorem v_newZ {n : Int32} {N : Nat} {Kf : Nat → Me → Option β} (hdg : decode X.1.2.1 pc = .ok (.newarray .boolean, 2)) (hq : pc + 2 = q) (h1 : Cond.arrayClass .boolean ∈ gw_s) (hn : ¬ n < 0) (hN : n.toNatClampNeg = N) (hs : N ≤ 1000) (hu : u.1 + 1 ≤ X.2.2.1 ∧ u.2 + N ≤ X.2.2.2)
    (kk : ∀ a M2, V X (u.1 + 1, u.2 + N) M2 q loc (.ref a :: st) (Kf a M2) G) : V X u M pc loc (.int n :: st) (na M 21 N Kf) G := by
  subst hq
  intro res hres p l e s m args below meth c K b H locs ls A hP hS hz hl
  unfold na at hres
  refine h_newa (atype := .boolean) (ty := .boolean) A.1 A.2.1 (A.2.2.2.2.2.1 _ h1) rfl hP hS (a0 := (N, .inl (fun _ => 0))) (cA0 := K.2.2 21) (A.2.2.2.2.2.2.1.1.2 1 _ rfl).2 (fun _ => rfl) hn hN (by show N * 1 ≤ _; omega) hu.1 hu.2 hdg (fun H1 hz1 hP1 hS1 => ?_)
  rw [hz] at hP1 ⊢
  refine kk _ _ res hres p l e s m args below meth c K b H1 locs ls A ?_ hS1 (by rw [hz1, hz]; simp [me_nw]; omega) hl
  rw [en_new, ce_boo]
  exact hP1
theorem v_newR {n : Int32} {N kd t0 index : Nat} {C : String} {Kf : Nat → Me → Option β} (hdg : decode X.1.2.1 pc = .ok (.anewarray index, 3)) (hq : pc + 3 = q) (hkd : 22 ≤ kd) (ht : ∀ K : Kn, (ty_s K)[t0]? = some (K.2.2 kd, .object C)) (h1 : Cond.classLink X.1.1 index C ∈ gw_s) (h2 : Cond.arrayOver (.object C) ∈ nw_s) (hn : ¬ n < 0) (hN : n.toNatClampNeg = N) (hs : N ≤ 1000) (hu : u.1 + 1 ≤ X.2.2.1 ∧ u.2 + N ≤ X.2.2.2)
    (kk : ∀ a M2, V X (u.1 + 1, u.2 + N) M2 q loc (.ref a :: st) (Kf a M2) G) : V X u M pc loc (.int n :: st) (na M kd N Kf) G := by
  subst hq
  intro res hres p l e s m args below meth c K b H locs ls A hP hS hz hl
  unfold na at hres
  obtain ⟨kA, comp, -, -, -, hf⟩ := (A.2.2.2.2.2.2.1.1.2 t0 _ (ht K)).2
  refine h_newq A.1 A.2.1 A.2.2.2.2.1 (A.2.2.2.2.2.1 _ h1) (A.2.2.2.2.2.2.1.2 _ h2) hP hS hf hn hN (by omega) hu.1 hu.2 hdg (fun H1 hz1 hP1 hS1 => ?_)
  rw [hz] at hP1 ⊢
  refine kk _ _ res hres p l e s m args below meth c K b H1 locs ls A ?_ hS1 (by rw [hz1, hz]; simp [me_nw]; omega) hl
  rw [en_new, ce_ref hkd]
  exact hP1
theorem v_acopy {a0 a index : Nat} {sp dp n : Int32} {Kf : Me → Option β} (hdg : decode X.1.2.1 pc = .ok (.invokestatic index, 3)) (hq : pc + 3 = q) (h1 : Cond.methodLink X.1.1 index arraycopyName ∈ gw_s) (h2 : Cond.native arraycopyName ∈ gw_s) (h3 : Cond.static arraycopyName ∈ gw_s) (h4 : Cond.initialized "java/lang/System" ∈ gw_s) (hd : 1 ≤ X.2.1) (hst : st = [])
    (kk : ∀ M2, V X u M2 q loc st (Kf M2) G) : V X u M pc loc (.int n :: .int dp :: .ref a :: .int sp :: .ref a0 :: st) (ac M a0 sp a dp n Kf) G := by
  subst hq
  subst hst
  intro res hres p l e s m args below meth c K b H locs ls A hP hS hz hl
  unfold ac at hres
  cases hn0 : ln M a0 20 with
  | none => rw [hn0] at hres; cases hres
  | some n0 =>
    rw [hn0] at hres
    simp only [Option.bind_some] at hres
    cases hn1 : ln M a 20 with
    | none => rw [hn1] at hres; cases hres
    | some n1 =>
      rw [hn1] at hres
      simp only [Option.bind_some] at hres
      split at hres
      · cases hres
      · rename_i hi
        have g1 : ¬ sp < 0 := fun q => hi (Or.inl q)
        have g2 : ¬ dp < 0 := fun q => hi (Or.inr (Or.inl q))
        have g3 : ¬ n < 0 := fun q => hi (Or.inr (Or.inr (Or.inl q)))
        have g4 : ¬ n0 < sp.toNatClampNeg + n.toNatClampNeg := fun q => hi (Or.inr (Or.inr (Or.inr (Or.inl q))))
        have g5 : ¬ n1 < dp.toNatClampNeg + n.toNatClampNeg := fun q => hi (Or.inr (Or.inr (Or.inr (Or.inr q))))
        have hloc : ((([] : List Value).map (up_v b)).map fun v => v.category).sum + (nativeFrameWords "java/lang/System" "arraycopy" 5 + 11) ≤ (rm_d X.2.1 X.2.2.1 X.2.2.2).locals := by
          have h9 : nativeFrameWords "java/lang/System" "arraycopy" 5 + 11 ≤ 38 := by decide +kernel
          show 0 + _ ≤ 38 * X.2.1
          omega
        refine h_copy A.1 A.2.1 (A.2.2.2.1.trans hl.1.symm) A.2.2.2.2.1 (A.2.2.2.2.2.1 _ h1) (A.2.2.2.2.2.1 _ h2) (A.2.2.2.2.2.1 _ h3) (A.2.2.2.2.2.1 _ h4) A.2.2.2.2.2.2.1.1 hP en_D hS a0 a 0 (f := M.2.2 a0) (g := M.2.2 a) (by rw [en_at (ln_some hn0), ce_int]) (by rw [en_at (ln_some hn1), ce_int]) rfl g1 g2 g3 (by omega) (by omega) hd hloc hdg (fun H1 locs1 hz1 hP1 hS1 => ?_)
        refine kk _ res hres p l e s m args below meth c K b H1 locs1 ls A ?_ hS1 (hz1.trans hz) hl
        rw [en_set (N := me_cp M a a0 sp.toNatClampNeg dp.toNatClampNeg n.toNatClampNeg) (ln_some hn1) rfl (fun y hy => ⟨rfl, by funext z; simp [me_cp, hy]⟩) ?_] at hP1
        · exact hP1
        · rw [ce_int, show (me_cp M a a0 sp.toNatClampNeg dp.toNatClampNeg n.toNatClampNeg).2.2 a = va_cpy (M.2.2 a0) (M.2.2 a) sp.toNatClampNeg dp.toNatClampNeg n.toNatClampNeg by funext z; simp [me_cp]]
theorem v_oinit {a index : Nat} {F : Option β} (hdg : decode X.1.2.1 pc = .ok (.invokespecial index, 3)) (hq : pc + 3 = q) (h1 : Cond.methodLink X.1.1 index Lib.objectInit ∈ gw_s) (h2 : Cond.instanceMethod Lib.objectInit ∈ gw_s) (h3 : Cond.code Lib.objectInit ⟨#[0xb1]⟩ 1 none ∈ gw_s) (hd : 1 ≤ X.2.1) (hst : st = []) (k : V X u M q loc st F G) : V X u M pc loc (.ref a :: st) F G := by
  subst hq
  subst hst
  intro res hres p l e s m args below meth c K b H locs ls A hP hS hz hl
  exact W.objInit A.1 A.2.1 A.2.2.2.2.1 (A.2.2.2.2.2.1 _ h1) (A.2.2.2.2.2.1 _ h2) (A.2.2.2.2.2.1 _ h3) rfl (hl.1.trans A.2.2.2.1.symm) rfl hdg hd (by show 2 * 0 + 0 + 12 ≤ 38 * X.2.1; omega) (k res hres p l e s m args below meth c K b H locs ls A hP hS hz hl)
end JF
theorem ho_blind {K : Kn} {b : Nat} {M : Me} {av : List Value} : FrameBlind (va_Pc av (ho_d K b M)) := by
  intro a U g mk h
  obtain ⟨h1, h2, h3, h4⟩ := h
  exact ⟨h1, h2, h3, kn_K.same (s := U) (U := U.calling g mk a) rfl h4⟩
/-- the words of a call -/
def cw_k (own : String) (index : Nat) (y : MethodName) (Y : My) (n : Nat) : Prop := (Cond.methodLink own index y ∈ gw_s ∨ ∃ host, Cond.methodLinkNest own index y host ∈ nw_s) ∧ Cond.code y Y.2.1 Y.2.2.1 Y.2.2.2.1 ∈ gw_s ∧ Cond.initialized y.cls ∈ gw_s ∧ (y.cls ≠ "java/lang/invoke/MethodHandle" ∧ y.cls ≠ "java/lang/invoke/VarHandle") ∧ (parseMethodDescriptor y.desc).map (fun d => d.parameters.length) = some n ∧ Y.2.2.1 ≤ 19
section JG
variable {X : Xc} {u : Nat × Nat} {M : Me} {pc q : Nat} {loc : List (Option Value)} {st : List Value} {β : Type} {F : Option β} {G : β → Option Rs}
theorem cw_ws {X : Xc} {p : Program} {s : State} {m : MethodId} {args : Array Value} {meth : Method} {c : Code} {K : Kn} {b : Nat} (A : Am X p s m args meth c K b) {w : Cond} (hw : w ∈ gw_s) : ∀ w2 ∈ (w :: gw_s), ∀ (a' : Array Value) (U : State), s.WarmedH U.vm → w2.before a' U = true := by
  intro w2 h2 a' U hW
  have h3 : w2 ∈ gw_s := by
    rcases List.mem_cons.mp h2 with rfl | h
    · exact hw
    · exact h
  exact word_at hW (gw_good _ h3) (A.2.2.2.2.2.1 _ h3)
/-- behind a call -/
theorem v_after {y : MethodName} {Y : My} {d mc ms : Nat} {res0 : Rs} {p : Program} {l : Launch} {e : Env} {s : State} {m : MethodId} {args : Array Value} {below : List Frame} {meth : Method} {c : Code} {K : Kn} {b : Nat} {H : Heap} {locs : List Loc} {ls : Array Slot} {st0 : List Value} {av : Array Value} {res : Rs}
    (hres : F.bind G = some res) (A : Am X p s m args meth c K b) (hS : va_S (fun q => b ≤ q) s.heap H locs) (hl : lo_k b X.1.2.2.1 loc ls)
    (hr : va_Run p l e (rm_d X.2.1 X.2.2.1 X.2.2.2) s m args below meth c H locs u.1 u.2 mc ms (F0 m pc ls st0) (st.map (up_v b)) (qc_r K b res0 av) (fun q => b ≤ q))
    (k : V X (u.1 + mc, u.2 + ms) res0.2 (pc + 3) loc (res0.1.toList ++ st) F G) :
    W p l e (rm_d X.2.1 X.2.2.1 X.2.2.2) s m args below meth c H locs u.1 u.2 (MQ below (qc_r K b res) args s X.2.2.1 X.2.2.2 (fun q => b ≤ q)) (F0 m pc ls st0) := by
  intro T hT Xs
  obtain ⟨v, st₀, t, T', L, h0, X', hL, e1, e2, ⟨hv, ⟨hz1, hP1, -⟩, hz, hk⟩, stp⟩ := hr T hT Xs
  cases hv
  rw [h0] at hz hk
  have hS1 : va_S (fun q => b ≤ q) s.heap T'.heap (locs ++ L) := ⟨Nat.le_trans hS.1 (by rw [e1]; exact hz), fun q h1 h2 => by rw [e1, hk q (Nat.lt_of_lt_of_le h1 hS.1) h2]; exact hS.2.1 q h1 h2, fun q hq => by
      rcases List.mem_append.mp hq with h | h
      · exact hS.2.2 q h
      · exact hL q h⟩
  obtain ⟨t2, a1, b1⟩ := k res hres p l e s m args below meth c K b T'.heap (locs ++ L) ls A (by rw [e1]; exact hP1) hS1 (by rw [e1]; exact hz1) hl T' rfl X'
  refine ⟨t2, stp t2 ?_, b1⟩
  have e9 : (res0.1.map (up_v b)).toList ++ st.map (up_v b) = (res0.1.toList ++ st).map (up_v b) := by
    cases res0.1 <;> rfl
  show Steps p.tables e below (T'.setTop (F0 m (pc + 3) ls ((res0.1.map (up_v b)).toList ++ st.map (up_v b)))) t2
  rw [e9]
  exact a1
theorem v_callV {y : MethodName} {Y : My} {d mc ms n ci a index : Nat} {av : List Value} {res0 : Rs} (hC : Ct y Y d mc ms (.ref a :: av) M res0) (hdg : decode X.1.2.1 pc = .ok (.invokevirtual index, 3)) (hq : pc + 3 = q) (hw : cw_k X.1.1 index y Y n) (h1 : Cond.instanceMethod y ∈ gw_s) (h2 : Cond.selects y.cls y y ∈ gw_s) (hn : av.length = n) (hd : d + 1 ≤ X.2.1) (hc : ci < 13) (hy : y.cls = rx_c ci) (hk : me_k M a = some (ci, nf_c ci)) (hst : (st.map fun v => v.category).sum ≤ 8) (hu : u.1 + mc ≤ X.2.2.1 ∧ u.2 + ms ≤ X.2.2.2)
    (k : V X (u.1 + mc, u.2 + ms) res0.2 q loc (res0.1.toList ++ st) F G) : V X u M pc loc (av.reverse ++ .ref a :: st) F G := by
  subst hq
  intro res hres p l e s m args below meth c K b H locs ls A hP hS hz hl
  obtain ⟨hlk, hcode, hini, hmh, hpd, hmL⟩ := hw
  have hstk : (av.reverse ++ .ref a :: st).map (up_v b) = (av.map (up_v b)).reverse ++ .ref (b + a) :: st.map (up_v b) := by
    rw [List.map_append, List.map_reverse]; rfl
  have hrest : ((st.map (up_v b)).map fun v => v.category).sum ≤ 8 := by
    rw [List.map_map]; rw [show ((fun v : Value => v.category) ∘ up_v b) = (fun v => v.category) by funext v; exact up_cat b v]; exact hst
  have hlen : ∀ sig, parseMethodDescriptor y.desc = some sig → n = sig.parameters.length := fun sig h => by
    rw [h] at hpd; exact (Option.some.inj hpd).symm
  have hpre : PreV s H y.cls (b + a) (va_Pc ((.ref a :: av).map (up_v b)) (ho_d K b M)) (av.map (up_v b)) :=
    ⟨ho_blind, by rw [hy]; exact va_recv A.2.2.2.2.2.2.1.1 hP (cl_at ci hc) (q0 := a) (by rw [en_at hk, ce_obj hc]), fun U hU hW => ⟨rfl, by rw [hU]; exact hz, by rw [hU]; exact hP, kn_K.warm hW A.2.2.2.2.2.2.1⟩⟩
  rw [hstk]
  rcases hlk with hlk | ⟨host, hlk⟩
  · exact v_after (mc := mc) (ms := ms) (y := y) (Y := Y) (d := d) hres A hS hl (va_runV (n := n) (As := av.map (up_v b)) (rest := st.map (up_v b)) ⟨A.1, A.2.1, A.2.2.2.1, A.2.2.2.2.1, A.2.2.2.2.2.1⟩ (hC l K b)
      ⟨⟨rfl, rfl, hd, (by show 8 + (Y.2.2.1 + 11) + 38 * d ≤ 38 * X.2.1; omega), cw_ws A hcode, List.mem_cons_self, A.2.2.2.2.2.1 _ hcode, A.2.2.2.2.2.1 _ hini, hmh, hlen, A.2.2.2.2.2.1 _ hlk⟩, A.2.2.2.2.2.1 _ h1, A.2.2.2.2.2.1 _ h2⟩ hpre rfl (by rw [List.length_map]; exact hn) hl.1 rfl (lv_room hrest) hdg hu) k
  · exact v_after (mc := mc) (ms := ms) (y := y) (Y := Y) (d := d) hres A hS hl (va_runVN (n := n) (As := av.map (up_v b)) (rest := st.map (up_v b)) ⟨A.1, A.2.1, A.2.2.2.1, A.2.2.2.2.1, A.2.2.2.2.2.1⟩ (hC l K b)
      ⟨⟨⟨rfl, rfl, hd, (by show 8 + (Y.2.2.1 + 11) + 38 * d ≤ 38 * X.2.1; omega), cw_ws A hcode, List.mem_cons_self⟩, A.2.2.2.2.2.1 _ hcode, A.2.2.2.2.2.1 _ hini, hmh, hlen, va_Nw.use rfl (A.2.2.2.2.2.2.1.2 _ hlk)⟩, A.2.2.2.2.2.1 _ h1, A.2.2.2.2.2.1 _ h2⟩ hpre rfl (by rw [List.length_map]; exact hn) hl.1 rfl (lv_room hrest) hdg hu) k
theorem v_callS {y : MethodName} {Y : My} {d mc ms n index : Nat} {av : List Value} {res0 : Rs} (hC : Ct y Y d mc ms av M res0) (hdg : decode X.1.2.1 pc = .ok (.invokestatic index, 3)) (hq : pc + 3 = q) (hw : cw_k X.1.1 index y Y n) (h1 : Cond.static y ∈ gw_s) (hn : av.length = n) (hd : d + 1 ≤ X.2.1) (hst : (st.map fun v => v.category).sum ≤ 8) (hu : u.1 + mc ≤ X.2.2.1 ∧ u.2 + ms ≤ X.2.2.2)
    (k : V X (u.1 + mc, u.2 + ms) res0.2 q loc (res0.1.toList ++ st) F G) : V X u M pc loc (av.reverse ++ st) F G := by
  subst hq
  intro res hres p l e s m args below meth c K b H locs ls A hP hS hz hl
  obtain ⟨hlk, hcode, hini, hmh, hpd, hmL⟩ := hw
  have hstk : (av.reverse ++ st).map (up_v b) = (av.map (up_v b)).reverse ++ st.map (up_v b) := by
    rw [List.map_append, List.map_reverse]
  have hrest : ((st.map (up_v b)).map fun v => v.category).sum ≤ 8 := by
    rw [List.map_map]; rw [show ((fun v : Value => v.category) ∘ up_v b) = (fun v => v.category) by funext v; exact up_cat b v]; exact hst
  have hlen : ∀ sig, parseMethodDescriptor y.desc = some sig → n = sig.parameters.length := fun sig h => by
    rw [h] at hpd; exact (Option.some.inj hpd).symm
  have hpre : PreS s H (va_Pc (av.map (up_v b)) (ho_d K b M)) (av.map (up_v b)) :=
    ⟨ho_blind, fun U hU hW => ⟨rfl, by rw [hU]; exact hz, by rw [hU]; exact hP, kn_K.warm hW A.2.2.2.2.2.2.1⟩⟩
  rw [hstk]
  rcases hlk with hlk | ⟨host, hlk⟩
  · exact v_after (mc := mc) (ms := ms) (y := y) (Y := Y) (d := d) hres A hS hl (va_runS (n := n) (As := av.map (up_v b)) (rest := st.map (up_v b)) ⟨A.1, A.2.1, A.2.2.2.1, A.2.2.2.2.1, A.2.2.2.2.2.1⟩ (hC l K b)
      ⟨⟨rfl, rfl, hd, (by show 8 + (Y.2.2.1 + 11) + 38 * d ≤ 38 * X.2.1; omega), cw_ws A hcode, List.mem_cons_self, A.2.2.2.2.2.1 _ hcode, A.2.2.2.2.2.1 _ hini, hmh, hlen, A.2.2.2.2.2.1 _ hlk⟩, A.2.2.2.2.2.1 _ h1⟩ hpre rfl (by rw [List.length_map]; exact hn) hl.1 rfl (lv_room hrest) hdg hu) k
  · exact v_after (mc := mc) (ms := ms) (y := y) (Y := Y) (d := d) hres A hS hl (va_runSN (n := n) (As := av.map (up_v b)) (rest := st.map (up_v b)) ⟨A.1, A.2.1, A.2.2.2.1, A.2.2.2.2.1, A.2.2.2.2.2.1⟩ (hC l K b)
      ⟨⟨⟨rfl, rfl, hd, (by show 8 + (Y.2.2.1 + 11) + 38 * d ≤ 38 * X.2.1; omega), cw_ws A hcode, List.mem_cons_self⟩, A.2.2.2.2.2.1 _ hcode, A.2.2.2.2.2.1 _ hini, hmh, hlen, va_Nw.use rfl (A.2.2.2.2.2.2.1.2 _ hlk)⟩, A.2.2.2.2.2.1 _ h1, trivial⟩ hpre rfl (by rw [List.length_map]; exact hn) hl.1 rfl (lv_room hrest) hdg hu) k
theorem v_callN {y : MethodName} {Y : My} {d mc ms n a index : Nat} {av : List Value} {res0 : Rs} (hC : Ct y Y d mc ms (.ref a :: av) M res0) (hdg : decode X.1.2.1 pc = .ok (.invokespecial index, 3)) (hq : pc + 3 = q) (hw : cw_k X.1.1 index y Y n) (hr : Y.2.2.2.1 = none) (h1 : Cond.instanceMethod y ∈ gw_s) (h2 : y.name = "<init>") (hn : av.length = n) (hd : d + 1 ≤ X.2.1) (hst : (st.map fun v => v.category).sum ≤ 8) (hu : u.1 + mc ≤ X.2.2.1 ∧ u.2 + ms ≤ X.2.2.2)
    (k : V X (u.1 + mc, u.2 + ms) res0.2 q loc (res0.1.toList ++ st) F G) : V X u M pc loc (av.reverse ++ .ref a :: st) F G := by
  subst hq
  intro res hres p l e s m args below meth c K b H locs ls A hP hS hz hl
  obtain ⟨hlk, hcode, hini, hmh, hpd, hmL⟩ := hw
  rw [hr] at hcode
  have hM := hC l K b
  rw [hr] at hM
  have hstk : (av.reverse ++ .ref a :: st).map (up_v b) = (av.map (up_v b)).reverse ++ .ref (b + a) :: st.map (up_v b) := by
    rw [List.map_append, List.map_reverse]; rfl
  have hrest : ((st.map (up_v b)).map fun v => v.category).sum ≤ 8 := by
    rw [List.map_map]; rw [show ((fun v : Value => v.category) ∘ up_v b) = (fun v => v.category) by funext v; exact up_cat b v]; exact hst
  have hlen : ∀ sig, parseMethodDescriptor y.desc = some sig → n = sig.parameters.length := fun sig h => by
    rw [h] at hpd; exact (Option.some.inj hpd).symm
  have hpre : PreS s H (va_Pc ((.ref a :: av).map (up_v b)) (ho_d K b M)) (.ref (b + a) :: av.map (up_v b)) :=
    ⟨ho_blind, fun U hU hW => ⟨rfl, by rw [hU]; exact hz, by rw [hU]; exact hP, kn_K.warm hW A.2.2.2.2.2.2.1⟩⟩
  rw [hstk]
  rcases hlk with hlk | ⟨host, hlk⟩
  · exact v_after (mc := mc) (ms := ms) (y := y) (Y := Y) (d := d) hres A hS hl (va_runI (n := n) (As := av.map (up_v b)) (rest := st.map (up_v b)) ⟨A.1, A.2.1, A.2.2.2.1, A.2.2.2.2.1, A.2.2.2.2.2.1⟩ hM
      ⟨⟨rfl, rfl, hd, (by show 8 + (Y.2.2.1 + 11) + 38 * d ≤ 38 * X.2.1; omega), cw_ws A hcode, List.mem_cons_self, A.2.2.2.2.2.1 _ hcode, A.2.2.2.2.2.1 _ hini, hmh, hlen, A.2.2.2.2.2.1 _ hlk⟩, h2, A.2.2.2.2.2.1 _ h1⟩ hpre rfl (by rw [List.length_map]; exact hn) hl.1 rfl (lv_room hrest) hdg hu) k
  · exact v_after (mc := mc) (ms := ms) (y := y) (Y := Y) (d := d) hres A hS hl (va_runIN (n := n) (As := av.map (up_v b)) (rest := st.map (up_v b)) ⟨A.1, A.2.1, A.2.2.2.1, A.2.2.2.2.1, A.2.2.2.2.2.1⟩ hM
      ⟨⟨⟨rfl, rfl, hd, (by show 8 + (Y.2.2.1 + 11) + 38 * d ≤ 38 * X.2.1; omega), cw_ws A hcode, List.mem_cons_self⟩, A.2.2.2.2.2.1 _ hcode, A.2.2.2.2.2.1 _ hini, hmh, hlen, va_Nw.use rfl (A.2.2.2.2.2.2.1.2 _ hlk)⟩, h2, A.2.2.2.2.2.1 _ h1⟩ hpre rfl (by rw [List.length_map]; exact hn) hl.1 rfl (lv_room hrest) hdg hu) k
end JG
/-! the entry -/
def lo_e (av : List Value) : List (Option Value) := av.flatMap (fun v => if v.category = 2 then [some v, none] else [some v])
theorem lo_sl (b : Nat) : ∀ (av : List Value), (lg_sl (av.map (up_v b))).length = (lo_e av).length ∧ ∀ (k : Nat) (v : Value), (lo_e av)[k]? = some (some v) → (lg_sl (av.map (up_v b)))[k]? = some (.val (up_v b v)) := by
  intro av
  induction av with
  | nil => exact ⟨rfl, fun k v h => by simp [lo_e] at h⟩
  | cons a av ih =>
    have e1 : lo_e (a :: av) = (if a.category = 2 then [some a, none] else [some a]) ++ lo_e av := rfl
    have e2 : lg_sl ((a :: av).map (up_v b)) = (if (up_v b a).category = 2 then [.val (up_v b a), .second] else [.val (up_v b a)]) ++ lg_sl (av.map (up_v b)) := rfl
    rw [e1, e2, up_cat]
    by_cases h : a.category = 2
    · rw [if_pos h, if_pos h]
      refine ⟨by simp [ih.1], fun k v hk => ?_⟩
      match k, hk with
      | 0, hk => simp at hk; subst hk; rfl
      | 1, hk => simp at hk
      | k + 2, hk => exact ih.2 k v hk
    · rw [if_neg h, if_neg h]
      refine ⟨by simp [ih.1], fun k v hk => ?_⟩
      match k, hk with
      | 0, hk => simp at hk; subst hk; rfl
      | k + 1, hk => exact ih.2 k v hk
theorem ct_of {y : MethodName} {Y : My} {d mc ms : Nat} {av : List Value} {M : Me} {res : Rs} {β : Type} {F : Option β} {G : β → Option Rs} (hy : plainName y.cls = true) (h1 : Y.1 = y.cls) (h2 : Y.2.2.2.2 = y.name) (hl : (lo_e av).length ≤ Y.2.2.1)
    (hV : V (Y, d, mc, ms) (0, 0) M 0 (lo_e av ++ List.replicate (Y.2.2.1 - (lo_e av).length) none) [] F G) (hF : F.bind G = some res) : Ct y Y d mc ms av M res := by
  intro l K b
  refine Met.ofW (cc := Y.2.1) (maxL := Y.2.2.1) (ret := Y.2.2.2.1) hy rfl ?_
  intro p e s m args below meth c s₁ B hml hv
  obtain ⟨rfl, hz, hP, hK⟩ := hv
  have hts := atoms_spec (ws := (Cond.code y Y.2.1 Y.2.2.1 Y.2.2.2.1 :: gw_s)) B.pre
  have hlen := (lo_sl b av).1
  have hent := lv_entry (av.map (up_v b)) (n := Y.2.2.1) (by rw [hlen]; exact hl)
  rw [lg_entry_eq]
  refine hV res hF p l e s m _ below meth c K b s.heap [] _ ⟨B.exec, B.bytes, B.returns, hml, by rw [h1]; exact findClass_of_methodNamed B.named, fun w hw => hts w (List.mem_cons_of_mem _ hw), hK, B.notSynchronized, by rw [h2]; exact (name_of_methodNamed B.named B.method).1, by rw [hz]; exact Nat.le_add_right _ _⟩ hP va_S.rf hz ⟨hent.1, hent.2.1, fun k v hk => ?_⟩
  by_cases hkl : k < (lo_e av).length
  · rw [List.getElem?_append_left hkl] at hk
    have h9 := (lo_sl b av).2 k v hk
    simp only [List.getElem?_toArray]
    rw [List.getElem?_append_left (by rw [hlen]; exact hkl)]
    exact h9
  · rw [List.getElem?_append_right (by omega)] at hk
    rw [List.getElem?_replicate] at hk
    split at hk <;> cases hk

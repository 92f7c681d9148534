section JC
variable {X : Xc} {u : Nat × Nat} {M : Me} {pc q : Nat} {loc : List (Option Value)} {st : List Value} {β : Type} {F F1 F2 : Option β} {G : β → Option Rs}
theorem v_iadd {x y : Int32} (hdg : decode X.1.2.1 pc = .ok (.iadd, 1)) (hq : pc + 1 = q) (k : V X u M q loc (.int (x + y) :: st) F G) : V X u M pc loc (.int y :: .int x :: st) F G := by
  subst hq
  intro res hres p l e s m args below meth c K b H locs ls A hP hS hz hl
  exact lv_iadd A.1 A.2.1 hdg (k res hres p l e s m args below meth c K b H locs ls A hP hS hz hl)
theorem v_isub {x y : Int32} (hdg : decode X.1.2.1 pc = .ok (.isub, 1)) (hq : pc + 1 = q) (k : V X u M q loc (.int (x - y) :: st) F G) : V X u M pc loc (.int y :: .int x :: st) F G := by
  subst hq
  intro res hres p l e s m args below meth c K b H locs ls A hP hS hz hl
  exact lv_isub A.1 A.2.1 hdg (k res hres p l e s m args below meth c K b H locs ls A hP hS hz hl)
theorem v_imul {x y : Int32} (hdg : decode X.1.2.1 pc = .ok (.imul, 1)) (hq : pc + 1 = q) (k : V X u M q loc (.int (x * y) :: st) F G) : V X u M pc loc (.int y :: .int x :: st) F G := by
  subst hq
  intro res hres p l e s m args below meth c K b H locs ls A hP hS hz hl
  exact lv_imul A.1 A.2.1 hdg (k res hres p l e s m args below meth c K b H locs ls A hP hS hz hl)
theorem v_iand {x y : Int32} (hdg : decode X.1.2.1 pc = .ok (.iand, 1)) (hq : pc + 1 = q) (k : V X u M q loc (.int (x &&& y) :: st) F G) : V X u M pc loc (.int y :: .int x :: st) F G := by
  subst hq
  intro res hres p l e s m args below meth c K b H locs ls A hP hS hz hl
  exact lv_iand A.1 A.2.1 hdg (k res hres p l e s m args below meth c K b H locs ls A hP hS hz hl)
theorem v_ior {x y : Int32} (hdg : decode X.1.2.1 pc = .ok (.ior, 1)) (hq : pc + 1 = q) (k : V X u M q loc (.int (x ||| y) :: st) F G) : V X u M pc loc (.int y :: .int x :: st) F G := by
  subst hq
  intro res hres p l e s m args below meth c K b H locs ls A hP hS hz hl
  exact lv_ior A.1 A.2.1 hdg (k res hres p l e s m args below meth c K b H locs ls A hP hS hz hl)
theorem v_ixor {x y : Int32} (hdg : decode X.1.2.1 pc = .ok (.ixor, 1)) (hq : pc + 1 = q) (k : V X u M q loc (.int (x ^^^ y) :: st) F G) : V X u M pc loc (.int y :: .int x :: st) F G := by
  subst hq
  intro res hres p l e s m args below meth c K b H locs ls A hP hS hz hl
  exact lv_ixor A.1 A.2.1 hdg (k res hres p l e s m args below meth c K b H locs ls A hP hS hz hl)
theorem v_ishl {x y : Int32} (hdg : decode X.1.2.1 pc = .ok (.ishl, 1)) (hq : pc + 1 = q) (k : V X u M q loc (.int (x <<< (y &&& 31)) :: st) F G) : V X u M pc loc (.int y :: .int x :: st) F G := by
  subst hq
  intro res hres p l e s m args below meth c K b H locs ls A hP hS hz hl
  exact lv_ishl A.1 A.2.1 hdg (k res hres p l e s m args below meth c K b H locs ls A hP hS hz hl)
theorem v_ishr {x y : Int32} (hdg : decode X.1.2.1 pc = .ok (.ishr, 1)) (hq : pc + 1 = q) (k : V X u M q loc (.int (x >>> (y &&& 31)) :: st) F G) : V X u M pc loc (.int y :: .int x :: st) F G := by
  subst hq
  intro res hres p l e s m args below meth c K b H locs ls A hP hS hz hl
  exact lv_ishr A.1 A.2.1 hdg (k res hres p l e s m args below meth c K b H locs ls A hP hS hz hl)
theorem v_ladd {x y : Int64} (hdg : decode X.1.2.1 pc = .ok (.ladd, 1)) (hq : pc + 1 = q) (k : V X u M q loc (.long (x + y) :: st) F G) : V X u M pc loc (.long y :: .long x :: st) F G := by
  subst hq
  intro res hres p l e s m args below meth c K b H locs ls A hP hS hz hl
  exact lv_ladd A.1 A.2.1 hdg (k res hres p l e s m args below meth c K b H locs ls A hP hS hz hl)
theorem v_lsub {x y : Int64} (hdg : decode X.1.2.1 pc = .ok (.lsub, 1)) (hq : pc + 1 = q) (k : V X u M q loc (.long (x - y) :: st) F G) : V X u M pc loc (.long y :: .long x :: st) F G := by
  subst hq
  intro res hres p l e s m args below meth c K b H locs ls A hP hS hz hl
  exact lv_lsub A.1 A.2.1 hdg (k res hres p l e s m args below meth c K b H locs ls A hP hS hz hl)
theorem v_lmul {x y : Int64} (hdg : decode X.1.2.1 pc = .ok (.lmul, 1)) (hq : pc + 1 = q) (k : V X u M q loc (.long (x * y) :: st) F G) : V X u M pc loc (.long y :: .long x :: st) F G := by
  subst hq
  intro res hres p l e s m args below meth c K b H locs ls A hP hS hz hl
  exact lv_lmul A.1 A.2.1 hdg (k res hres p l e s m args below meth c K b H locs ls A hP hS hz hl)
theorem v_idivc {x y : Int32} (hdg : decode X.1.2.1 pc = .ok (.idiv, 1)) (hq : pc + 1 = q) (hne : ¬ y = 0) (k : V X u M q loc (.int (x / y) :: st) F G) : V X u M pc loc (.int y :: .int x :: st) F G := by
  subst hq
  intro res hres p l e s m args below meth c K b H locs ls A hP hS hz hl
  exact lv_idiv A.1 A.2.1 hdg hne (k res hres p l e s m args below meth c K b H locs ls A hP hS hz hl)
theorem v_idiv {x y : Int32} (hdg : decode X.1.2.1 pc = .ok (.idiv, 1)) (hq : pc + 1 = q) (k : V X u M q loc (.int (x / y) :: st) F G) : V X u M pc loc (.int y :: .int x :: st) (if y = 0 then none else F) G := by
  intro res hres
  by_cases hne : y = 0
  · rw [if_pos hne] at hres; cases hres
  · rw [if_neg hne] at hres; exact v_idivc hdg hq hne k res hres
theorem v_iremc {x y : Int32} (hdg : decode X.1.2.1 pc = .ok (.irem, 1)) (hq : pc + 1 = q) (hne : ¬ y = 0) (k : V X u M q loc (.int (x - x / y * y) :: st) F G) : V X u M pc loc (.int y :: .int x :: st) F G := by
  subst hq
  intro res hres p l e s m args below meth c K b H locs ls A hP hS hz hl
  exact lv_irem A.1 A.2.1 hdg hne (k res hres p l e s m args below meth c K b H locs ls A hP hS hz hl)
theorem v_irem {x y : Int32} (hdg : decode X.1.2.1 pc = .ok (.irem, 1)) (hq : pc + 1 = q) (k : V X u M q loc (.int (x - x / y * y) :: st) F G) : V X u M pc loc (.int y :: .int x :: st) (if y = 0 then none else F) G := by
  intro res hres
  by_cases hne : y = 0
  · rw [if_pos hne] at hres; cases hres
  · rw [if_neg hne] at hres; exact v_iremc hdg hq hne k res hres
theorem v_ldivc {x y : Int64} (hdg : decode X.1.2.1 pc = .ok (.ldiv, 1)) (hq : pc + 1 = q) (hne : ¬ y = 0) (k : V X u M q loc (.long (x / y) :: st) F G) : V X u M pc loc (.long y :: .long x :: st) F G := by
  subst hq
  intro res hres p l e s m args below meth c K b H locs ls A hP hS hz hl
  exact lv_ldiv A.1 A.2.1 hdg hne (k res hres p l e s m args below meth c K b H locs ls A hP hS hz hl)
theorem v_ldiv {x y : Int64} (hdg : decode X.1.2.1 pc = .ok (.ldiv, 1)) (hq : pc + 1 = q) (k : V X u M q loc (.long (x / y) :: st) F G) : V X u M pc loc (.long y :: .long x :: st) (if y = 0 then none else F) G := by
  intro res hres
  by_cases hne : y = 0
  · rw [if_pos hne] at hres; cases hres
  · rw [if_neg hne] at hres; exact v_ldivc hdg hq hne k res hres
theorem v_lremc {x y : Int64} (hdg : decode X.1.2.1 pc = .ok (.lrem, 1)) (hq : pc + 1 = q) (hne : ¬ y = 0) (k : V X u M q loc (.long (x - x / y * y) :: st) F G) : V X u M pc loc (.long y :: .long x :: st) F G := by
  subst hq
  intro res hres p l e s m args below meth c K b H locs ls A hP hS hz hl
  exact lv_lrem A.1 A.2.1 hdg hne (k res hres p l e s m args below meth c K b H locs ls A hP hS hz hl)
theorem v_lrem {x y : Int64} (hdg : decode X.1.2.1 pc = .ok (.lrem, 1)) (hq : pc + 1 = q) (k : V X u M q loc (.long (x - x / y * y) :: st) F G) : V X u M pc loc (.long y :: .long x :: st) (if y = 0 then none else F) G := by
  intro res hres
  by_cases hne : y = 0
  · rw [if_pos hne] at hres; cases hres
  · rw [if_neg hne] at hres; exact v_lremc hdg hq hne k res hres
theorem v_iushr {x y : Int32} (hdg : decode X.1.2.1 pc = .ok (.iushr, 1)) (hq : pc + 1 = q) (k : V X u M q loc (.int ((x.toUInt32 >>> (y.toUInt32 &&& Int32.toUInt32 31)).toInt32) :: st) F G) : V X u M pc loc (.int y :: .int x :: st) F G := by
  subst hq
  intro res hres p l e s m args below meth c K b H locs ls A hP hS hz hl
  exact lv_iushr A.1 A.2.1 hdg rfl (k res hres p l e s m args below meth c K b H locs ls A hP hS hz hl)
theorem v_i2l {x : Int32} (hdg : decode X.1.2.1 pc = .ok (.i2l, 1)) (hq : pc + 1 = q) (k : V X u M q loc (.long x.toInt64 :: st) F G) : V X u M pc loc (.int x :: st) F G := by
  subst hq
  intro res hres p l e s m args below meth c K b H locs ls A hP hS hz hl
  exact lv_i2l A.1 A.2.1 hdg rfl (k res hres p l e s m args below meth c K b H locs ls A hP hS hz hl)
theorem v_dup {v : Value} (hdg : decode X.1.2.1 pc = .ok (.dup, 1)) (hq : pc + 1 = q) (hv : v.category = 1) (k : V X u M q loc (v :: v :: st) F G) : V X u M pc loc (v :: st) F G := by
  subst hq
  intro res hres p l e s m args below meth c K b H locs ls A hP hS hz hl
  exact lv_dup A.1 A.2.1 hdg (by rw [up_cat]; exact hv) (k res hres p l e s m args below meth c K b H locs ls A hP hS hz hl)
theorem v_pop {v : Value} (hdg : decode X.1.2.1 pc = .ok (.pop, 1)) (hq : pc + 1 = q) (hv : v.category = 1) (k : V X u M q loc st F G) : V X u M pc loc (v :: st) F G := by
  subst hq
  intro res hres p l e s m args below meth c K b H locs ls A hP hS hz hl
  exact lv_pop A.1 A.2.1 hdg (by rw [up_cat]; exact hv) (k res hres p l e s m args below meth c K b H locs ls A hP hS hz hl)
theorem v_pop2 {v : Value} (hdg : decode X.1.2.1 pc = .ok (.pop2, 1)) (hq : pc + 1 = q) (hv : v.category = 2) (k : V X u M q loc st F G) : V X u M pc loc (v :: st) F G := by
  subst hq
  intro res hres p l e s m args below meth c K b H locs ls A hP hS hz hl
  exact lv_pop2_2 A.1 A.2.1 hdg (by rw [up_cat]; exact hv) (k res hres p l e s m args below meth c K b H locs ls A hP hS hz hl)
theorem v_dup2 {v w : Value} (hdg : decode X.1.2.1 pc = .ok (.dup2, 1)) (hq : pc + 1 = q) (hv : v.category = 1) (hw : w.category = 1) (k : V X u M q loc (v :: w :: v :: w :: st) F G) : V X u M pc loc (v :: w :: st) F G := by
  subst hq
  intro res hres p l e s m args below meth c K b H locs ls A hP hS hz hl
  exact lv_dup2_11 A.1 A.2.1 hdg (by rw [up_cat]; exact hv) (by rw [up_cat]; exact hw) (k res hres p l e s m args below meth c K b H locs ls A hP hS hz hl)
theorem v_dupx1 {v w : Value} (hdg : decode X.1.2.1 pc = .ok (.dup_x1, 1)) (hq : pc + 1 = q) (hv : v.category = 1) (hw : w.category = 1) (k : V X u M q loc (v :: w :: v :: st) F G) : V X u M pc loc (v :: w :: st) F G := by
  subst hq
  intro res hres p l e s m args below meth c K b H locs ls A hP hS hz hl
  exact lv_dup_x1 A.1 A.2.1 hdg (by rw [up_cat]; exact hv) (by rw [up_cat]; exact hw) (k res hres p l e s m args below meth c K b H locs ls A hP hS hz hl)
theorem v_icmp_eq {x y : Int32} {off : Int} {tgt : Nat} (hdg : decode X.1.2.1 pc = .ok (.if_icmp .eq off, 3)) (ht : (pc : Int) + off = (tgt : Int)) (hq : pc + 3 = q) (k1 : V X u M tgt loc st F1 G) (k2 : V X u M q loc st F2 G) : V X u M pc loc (.int y :: .int x :: st) (if x = y then F1 else F2) G := by
  subst hq
  intro res hres p l e s m args below meth c K b H locs ls A hP hS hz hl
  exact lv_icmp_eq A.1 A.2.1 hdg ht (fun hc => (k1 res (by rw [if_pos hc] at hres; exact hres) p l e s m args below meth c K b H locs ls A hP hS hz hl)) (fun hc => (k2 res (by rw [if_neg hc] at hres; exact hres) p l e s m args below meth c K b H locs ls A hP hS hz hl))
theorem v_icmp_ne {x y : Int32} {off : Int} {tgt : Nat} (hdg : decode X.1.2.1 pc = .ok (.if_icmp .ne off, 3)) (ht : (pc : Int) + off = (tgt : Int)) (hq : pc + 3 = q) (k1 : V X u M tgt loc st F1 G) (k2 : V X u M q loc st F2 G) : V X u M pc loc (.int y :: .int x :: st) (if x = y then F2 else F1) G := by
  subst hq
  intro res hres p l e s m args below meth c K b H locs ls A hP hS hz hl
  exact lv_icmp_ne A.1 A.2.1 hdg ht (fun hc => (k1 res (by rw [if_neg hc] at hres; exact hres) p l e s m args below meth c K b H locs ls A hP hS hz hl)) (fun hc => (k2 res (by rw [if_pos hc] at hres; exact hres) p l e s m args below meth c K b H locs ls A hP hS hz hl))
theorem v_icmp_lt {x y : Int32} {off : Int} {tgt : Nat} (hdg : decode X.1.2.1 pc = .ok (.if_icmp .lt off, 3)) (ht : (pc : Int) + off = (tgt : Int)) (hq : pc + 3 = q) (k1 : V X u M tgt loc st F1 G) (k2 : V X u M q loc st F2 G) : V X u M pc loc (.int y :: .int x :: st) (if x < y then F1 else F2) G := by
  subst hq
  intro res hres p l e s m args below meth c K b H locs ls A hP hS hz hl
  exact lv_icmp_lt A.1 A.2.1 hdg ht (fun hc => (k1 res (by rw [if_pos hc] at hres; exact hres) p l e s m args below meth c K b H locs ls A hP hS hz hl)) (fun hc => (k2 res (by rw [if_neg hc] at hres; exact hres) p l e s m args below meth c K b H locs ls A hP hS hz hl))
theorem v_icmp_ge {x y : Int32} {off : Int} {tgt : Nat} (hdg : decode X.1.2.1 pc = .ok (.if_icmp .ge off, 3)) (ht : (pc : Int) + off = (tgt : Int)) (hq : pc + 3 = q) (k1 : V X u M tgt loc st F1 G) (k2 : V X u M q loc st F2 G) : V X u M pc loc (.int y :: .int x :: st) (if y ≤ x then F1 else F2) G := by
  subst hq
  intro res hres p l e s m args below meth c K b H locs ls A hP hS hz hl
  exact lv_icmp_ge A.1 A.2.1 hdg ht (fun hc => (k1 res (by rw [if_pos hc] at hres; exact hres) p l e s m args below meth c K b H locs ls A hP hS hz hl)) (fun hc => (k2 res (by rw [if_neg hc] at hres; exact hres) p l e s m args below meth c K b H locs ls A hP hS hz hl))
theorem v_icmp_gt {x y : Int32} {off : Int} {tgt : Nat} (hdg : decode X.1.2.1 pc = .ok (.if_icmp .gt off, 3)) (ht : (pc : Int) + off = (tgt : Int)) (hq : pc + 3 = q) (k1 : V X u M tgt loc st F1 G) (k2 : V X u M q loc st F2 G) : V X u M pc loc (.int y :: .int x :: st) (if y < x then F1 else F2) G := by
  subst hq
  intro res hres p l e s m args below meth c K b H locs ls A hP hS hz hl
  exact lv_icmp_gt A.1 A.2.1 hdg ht (fun hc => (k1 res (by rw [if_pos hc] at hres; exact hres) p l e s m args below meth c K b H locs ls A hP hS hz hl)) (fun hc => (k2 res (by rw [if_neg hc] at hres; exact hres) p l e s m args below meth c K b H locs ls A hP hS hz hl))
theorem v_icmp_le {x y : Int32} {off : Int} {tgt : Nat} (hdg : decode X.1.2.1 pc = .ok (.if_icmp .le off, 3)) (ht : (pc : Int) + off = (tgt : Int)) (hq : pc + 3 = q) (k1 : V X u M tgt loc st F1 G) (k2 : V X u M q loc st F2 G) : V X u M pc loc (.int y :: .int x :: st) (if x ≤ y then F1 else F2) G := by
  subst hq
  intro res hres p l e s m args below meth c K b H locs ls A hP hS hz hl
  exact lv_icmp_le A.1 A.2.1 hdg ht (fun hc => (k1 res (by rw [if_pos hc] at hres; exact hres) p l e s m args below meth c K b H locs ls A hP hS hz hl)) (fun hc => (k2 res (by rw [if_neg hc] at hres; exact hres) p l e s m args below meth c K b H locs ls A hP hS hz hl))
theorem v_if_eq {x : Int32} {off : Int} {tgt : Nat} (hdg : decode X.1.2.1 pc = .ok (.ifCond .eq off, 3)) (ht : (pc : Int) + off = (tgt : Int)) (hq : pc + 3 = q) (k1 : V X u M tgt loc st F1 G) (k2 : V X u M q loc st F2 G) : V X u M pc loc (.int x :: st) (if x = 0 then F1 else F2) G := by
  subst hq
  intro res hres p l e s m args below meth c K b H locs ls A hP hS hz hl
  exact lv_if_eq A.1 A.2.1 hdg ht (fun hc => (k1 res (by rw [if_pos hc] at hres; exact hres) p l e s m args below meth c K b H locs ls A hP hS hz hl)) (fun hc => (k2 res (by rw [if_neg hc] at hres; exact hres) p l e s m args below meth c K b H locs ls A hP hS hz hl))
theorem v_if_ne {x : Int32} {off : Int} {tgt : Nat} (hdg : decode X.1.2.1 pc = .ok (.ifCond .ne off, 3)) (ht : (pc : Int) + off = (tgt : Int)) (hq : pc + 3 = q) (k1 : V X u M tgt loc st F1 G) (k2 : V X u M q loc st F2 G) : V X u M pc loc (.int x :: st) (if x = 0 then F2 else F1) G := by
  subst hq
  intro res hres p l e s m args below meth c K b H locs ls A hP hS hz hl
  exact lv_if_ne A.1 A.2.1 hdg ht (fun hc => (k1 res (by rw [if_neg hc] at hres; exact hres) p l e s m args below meth c K b H locs ls A hP hS hz hl)) (fun hc => (k2 res (by rw [if_pos hc] at hres; exact hres) p l e s m args below meth c K b H locs ls A hP hS hz hl))
theorem v_if_lt {x : Int32} {off : Int} {tgt : Nat} (hdg : decode X.1.2.1 pc = .ok (.ifCond .lt off, 3)) (ht : (pc : Int) + off = (tgt : Int)) (hq : pc + 3 = q) (k1 : V X u M tgt loc st F1 G) (k2 : V X u M q loc st F2 G) : V X u M pc loc (.int x :: st) (if x < 0 then F1 else F2) G := by
  subst hq
  intro res hres p l e s m args below meth c K b H locs ls A hP hS hz hl
  exact lv_if_lt A.1 A.2.1 hdg ht (fun hc => (k1 res (by rw [if_pos hc] at hres; exact hres) p l e s m args below meth c K b H locs ls A hP hS hz hl)) (fun hc => (k2 res (by rw [if_neg hc] at hres; exact hres) p l e s m args below meth c K b H locs ls A hP hS hz hl))
theorem v_if_ge {x : Int32} {off : Int} {tgt : Nat} (hdg : decode X.1.2.1 pc = .ok (.ifCond .ge off, 3)) (ht : (pc : Int) + off = (tgt : Int)) (hq : pc + 3 = q) (k1 : V X u M tgt loc st F1 G) (k2 : V X u M q loc st F2 G) : V X u M pc loc (.int x :: st) (if 0 ≤ x then F1 else F2) G := by
  subst hq
  intro res hres p l e s m args below meth c K b H locs ls A hP hS hz hl
  exact lv_if_ge A.1 A.2.1 hdg ht (fun hc => (k1 res (by rw [if_pos hc] at hres; exact hres) p l e s m args below meth c K b H locs ls A hP hS hz hl)) (fun hc => (k2 res (by rw [if_neg hc] at hres; exact hres) p l e s m args below meth c K b H locs ls A hP hS hz hl))
theorem v_if_gt {x : Int32} {off : Int} {tgt : Nat} (hdg : decode X.1.2.1 pc = .ok (.ifCond .gt off, 3)) (ht : (pc : Int) + off = (tgt : Int)) (hq : pc + 3 = q) (k1 : V X u M tgt loc st F1 G) (k2 : V X u M q loc st F2 G) : V X u M pc loc (.int x :: st) (if 0 < x then F1 else F2) G := by
  subst hq
  intro res hres p l e s m args below meth c K b H locs ls A hP hS hz hl
  exact lv_if_gt A.1 A.2.1 hdg ht (fun hc => (k1 res (by rw [if_pos hc] at hres; exact hres) p l e s m args below meth c K b H locs ls A hP hS hz hl)) (fun hc => (k2 res (by rw [if_neg hc] at hres; exact hres) p l e s m args below meth c K b H locs ls A hP hS hz hl))
theorem v_if_le {x : Int32} {off : Int} {tgt : Nat} (hdg : decode X.1.2.1 pc = .ok (.ifCond .le off, 3)) (ht : (pc : Int) + off = (tgt : Int)) (hq : pc + 3 = q) (k1 : V X u M tgt loc st F1 G) (k2 : V X u M q loc st F2 G) : V X u M pc loc (.int x :: st) (if x ≤ 0 then F1 else F2) G := by
  subst hq
  intro res hres p l e s m args below meth c K b H locs ls A hP hS hz hl
  exact lv_if_le A.1 A.2.1 hdg ht (fun hc => (k1 res (by rw [if_pos hc] at hres; exact hres) p l e s m args below meth c K b H locs ls A hP hS hz hl)) (fun hc => (k2 res (by rw [if_neg hc] at hres; exact hres) p l e s m args below meth c K b H locs ls A hP hS hz hl))
theorem v_goto {off : Int} {tgt : Nat} (hdg : decode X.1.2.1 pc = .ok (.goto off, 3)) (ht : (pc : Int) + off = (tgt : Int)) (k : V X u M tgt loc st F G) : V X u M pc loc st F G := by
  intro res hres p l e s m args below meth c K b H locs ls A hP hS hz hl
  exact lv_goto A.1 A.2.1 hdg ht (k res hres p l e s m args below meth c K b H locs ls A hP hS hz hl)
theorem v_ifnn {r : Option Nat} {off : Int} {tgt : Nat} (hdg : decode X.1.2.1 pc = .ok (.ifnonnull off, 3)) (ht : (pc : Int) + off = (tgt : Int)) (hq : pc + 3 = q) (k1 : V X u M tgt loc st F1 G) (k2 : V X u M q loc st F2 G) : V X u M pc loc (va_rf r :: st) (if r = none then F2 else F1) G := by
  subst hq
  intro res hres p l e s m args below meth c K b H locs ls A hP hS hz hl
  cases r with
  | none => exact lv_ifnonnullN A.1 A.2.1 hdg (k2 res (by rw [if_pos rfl] at hres; exact hres) p l e s m args below meth c K b H locs ls A hP hS hz hl)
  | some x => exact lv_ifnonnull A.1 A.2.1 hdg ht (k1 res (by rw [if_neg (fun h => by cases h)] at hres; exact hres) p l e s m args below meth c K b H locs ls A hP hS hz hl)
theorem v_tbl_in {x cst : Int32} {dflt lo hi : Int} {offs : Array Int} {len : Nat} {off : Int} {tgt : Nat} (hdg : decode X.1.2.1 pc = .ok (.tableswitch dflt lo hi offs, len)) (hx : x = cst) (h1 : ¬ cst.toInt < lo) (h2 : ¬ hi < cst.toInt) (ho : offs[(cst.toInt - lo).toNat]? = some off) (ht : (pc : Int) + off = (tgt : Int)) (k : V X u M tgt loc st F G) : V X u M pc loc (.int x :: st) F G := by
  subst hx
  intro res hres p l e s m args below meth c K b H locs ls A hP hS hz hl
  exact lv_tableIn A.1 A.2.1 hdg h1 h2 ho ht (k res hres p l e s m args below meth c K b H locs ls A hP hS hz hl)
theorem v_tbl_out {x : Int32} {dflt lo hi : Int} {offs : Array Int} {len : Nat} {tgt : Nat} (hdg : decode X.1.2.1 pc = .ok (.tableswitch dflt lo hi offs, len)) (h : x.toInt < lo ∨ hi < x.toInt) (ht : (pc : Int) + dflt = (tgt : Int)) (k : V X u M tgt loc st F G) : V X u M pc loc (.int x :: st) F G := by
  intro res hres p l e s m args below meth c K b H locs ls A hP hS hz hl
  exact lv_tableOut A.1 A.2.1 hdg h ht (k res hres p l e s m args below meth c K b H locs ls A hP hS hz hl)
theorem v_lkp {x : Int32} {dflt : Int} {ps : Array (Int × Int)} {len : Nat} {off : Int} {tgt : Nat} (hdg : decode X.1.2.1 pc = .ok (.lookupswitch dflt ps, len)) (hp : (ps.toList.zip (ps.toList.drop 1)).all (fun (a, next) => a.1 < next.1) = true) (ho : Op.lookupswitch.offset ps.toList dflt x.toInt = off) (ht : (pc : Int) + off = (tgt : Int)) (k : V X u M tgt loc st F G) : V X u M pc loc (.int x :: st) F G := by
  intro res hres p l e s m args below meth c K b H locs ls A hP hS hz hl
  exact lv_lookup A.1 A.2.1 hdg hp ho ht (k res hres p l e s m args below meth c K b H locs ls A hP hS hz hl)
theorem v_ite {c0 : Prop} [Decidable c0] (k1 : c0 → V X u M pc loc st F1 G) (k2 : ¬ c0 → V X u M pc loc st F2 G) : V X u M pc loc st (if c0 then F1 else F2) G := by
  intro res hres
  by_cases hc : c0
  · rw [if_pos hc] at hres; exact k1 hc res hres
  · rw [if_neg hc] at hres; exact k2 hc res hres
theorem v_none : V X u M pc loc st (none : Option β) G := by
  intro res hres
  cases hres
end JC
section JD
variable {X : Xc} {u : Nat × Nat} {M : Me} {pc q : Nat} {loc : List (Option Value)} {st : List Value} {β γ : Type} {G : β → Option Rs}
/-- a region whose value is used behind it -/
theorem v_bind {F : Option γ} {Hh : γ → Option β} (k : V X u M pc loc st F (fun v => (Hh v).bind G)) : V X u M pc loc st (F.bind Hh) G := by
  intro res hres
  exact k res (by rw [Option.bind_assoc] at hres; exact hres)
/-- a region, and the place behind it to which all its ways lead -/
theorem v_join {F : Option γ} {Hh : γ → Option β} (jp : Nat) (eM : γ → Me) (eL : γ → List (Option Value)) (eS : γ → List Value)
    (kF : ∀ K : γ → Option Rs, (∀ v, V X u (eM v) jp (eL v) (eS v) (some v) K) → V X u M pc loc st F K)
    (kH : ∀ v, V X u (eM v) jp (eL v) (eS v) (Hh v) G) : V X u M pc loc st (F.bind Hh) G :=
  v_bind (kF _ (fun v => kH v))
/-- what is named is a value -/
def let_v {α : Type} (e : α) (K : α → Option β) : Option β := K e
theorem v_let {α : Type} {e : α} {Kf : α → Option β} (k : V X u M pc loc st (Kf e) G) : V X u M pc loc st (let_v e Kf) G := k
/-- a loop's rounds -/
def it_r {S E : Type} (step : S → Option (S ⊕ E)) : Nat → S → Option E
  | 0, _ => none
  | n + 1, s => (step s).bind (fun r => match r with
    | .inl t => it_r step n t
    | .inr x => some x)
theorem it_more {S E : Type} {step : S → Option (S ⊕ E)} : ∀ {n : Nat} {s : S} {x : E}, it_r step n s = some x → ∀ m, n ≤ m → it_r step m s = some x := by
  intro n
  induction n with
  | zero => intro s x h; cases h
  | succ n ih =>
    intro s x h m hm
    obtain ⟨m, rfl⟩ : ∃ z, m = z + 1 := ⟨m - 1, by omega⟩
    unfold it_r at h ⊢
    cases hs : step s with
    | none => rw [hs] at h; cases h
    | some r =>
      rw [hs] at h
      simp only [Option.bind_some] at h ⊢
      cases r with
      | inl t => exact ih h m (by omega)
      | inr y => exact h
noncomputable def lp {S E : Type} (step : S → Option (S ⊕ E)) (s : S) : Option E := @dite _ (∃ (n : Nat) (x : E), it_r step n s = some x) (Classical.propDecidable _) (fun h => some h.choose_spec.choose) (fun _ => none)
theorem lp_some {S E : Type} {step : S → Option (S ⊕ E)} {s : S} {x : E} : lp step s = some x ↔ ∃ n, it_r step n s = some x := by
  unfold lp
  constructor
  · intro h
    split at h
    · rename_i h0
      have h1 := h0.choose_spec.choose_spec
      rw [Option.some.inj h] at h1
      exact ⟨_, h1⟩
    · cases h
  · rintro ⟨n, hn⟩
    have h0 : ∃ (n : Nat) (x : E), it_r step n s = some x := ⟨n, x, hn⟩
    rw [dif_pos h0]
    have h1 := h0.choose_spec.choose_spec
    have h2 := it_more h1 (h0.choose + n) (by omega)
    have h3 := it_more hn (h0.choose + n) (by omega)
    rw [h2] at h3
    exact h3
theorem lp_eq {S E : Type} (step : S → Option (S ⊕ E)) (s : S) : lp step s = (step s).bind (fun r => match r with
    | .inl t => lp step t
    | .inr x => some x) := by
  cases hs : step s with
  | none =>
    cases hl : lp step s with
    | none => rfl
    | some x =>
      obtain ⟨n, hn⟩ := lp_some.mp hl
      cases n with
      | zero => cases hn
      | succ n => unfold it_r at hn; rw [hs] at hn; cases hn
  | some r =>
    simp only [Option.bind_some]
    cases r with
    | inr x => exact lp_some.mpr ⟨1, by unfold it_r; rw [hs]; rfl⟩
    | inl t =>
      show lp step s = lp step t
      cases ht : lp step t with
      | some x =>
        obtain ⟨n, hn⟩ := lp_some.mp ht
        exact lp_some.mpr ⟨n + 1, by unfold it_r; rw [hs]; exact hn⟩
      | none =>
        cases hl : lp step s with
        | none => rfl
        | some x =>
          obtain ⟨n, hn⟩ := lp_some.mp hl
          cases n with
          | zero => cases hn
          | succ n =>
            unfold it_r at hn; rw [hs] at hn
            rw [lp_some.mpr ⟨n, hn⟩] at ht
            cases ht
/-- where a round leads: back to the head, or out -/
def lg_k {S E : Type} (k : S → Option Rs) (K : E → Option Rs) : S ⊕ E → Option Rs := fun r => match r with
  | .inl t => k t
  | .inr x => K x
theorem v_loop {S E : Type} {step : S → Option (S ⊕ E)} {s0 : S} {K : E → Option Rs} (eM : S → Me) (eL : S → List (Option Value))
    (hb : ∀ k : S → Option Rs, (∀ t, V X u (eM t) pc (eL t) [] (some t) k) → ∀ t, V X u (eM t) pc (eL t) [] (step t) (lg_k k K)) : V X u (eM s0) pc (eL s0) [] (lp step s0) K := by
  intro res hres
  cases hl : lp step s0 with
  | none => rw [hl] at hres; cases hres
  | some x =>
    rw [hl] at hres
    obtain ⟨n, hn⟩ := lp_some.mp hl
    have key : ∀ (n : Nat) (t : S), V X u (eM t) pc (eL t) [] (it_r step n t) K := by
      intro n
      induction n with
      | zero => intro t; exact v_none
      | succ n ih =>
        intro t r2 h2
        refine hb (fun z => (it_r step n z).bind K) (fun z => ih z) t r2 ?_
        unfold it_r at h2
        rw [← h2, Option.bind_assoc]
        congr 1
        funext z
        cases z <;> rfl
    exact key n s0 res (by rw [hn]; exact hres)
theorem v_inl {S E : Type} {t : S} {k : S → Option Rs} {K : E → Option Rs} (h : V X u M pc loc st (some t) k) : V X u M pc loc st (some (Sum.inl t : S ⊕ E)) (lg_k k K) := h
theorem v_inr {S E : Type} {x : E} {k : S → Option Rs} {K : E → Option Rs} (h : V X u M pc loc st (some x) K) : V X u M pc loc st (some (Sum.inr x : S ⊕ E)) (lg_k k K) := h
theorem v_some {v : γ} {Hh : γ → Option β} (h : V X u M pc loc st (Hh v) G) : V X u M pc loc st (some v) (fun v => (Hh v).bind G) := h
/-- returns -/
theorem v_iret {F : Option β} {x : Int32} (hr : X.1.2.2.2.1 = some .int) (hdg : decode X.1.2.1 pc = .ok (.ireturn, 1)) (hu : u.1 ≤ X.2.2.1 ∧ u.2 ≤ X.2.2.2) (hF : F.bind G = some (some (.int x), M)) : V X u M pc loc [.int x] F G := by
  intro res hres p l e s m args below meth c K b H locs ls A hP hS hz hl
  rw [hF] at hres
  cases hres
  refine W.widen (k := X.2.2.1) (n := X.2.2.2) hu.1 hu.2 ?_
  exact W.iret A.1 A.2.1 (A.2.2.1.trans hr) (fun t ht hW => ⟨rfl, ⟨by rw [ht]; exact hz, by rw [ht]; exact hP, kn_K.warm hW A.2.2.2.2.2.2.1⟩, hS.F ht⟩) hS.2.2 hdg A.2.2.2.2.2.2.2.1
theorem v_zret {F : Option β} {x : Int32} (hr : X.1.2.2.2.1 = some .boolean) (hdg : decode X.1.2.1 pc = .ok (.ireturn, 1)) (hu : u.1 ≤ X.2.2.1 ∧ u.2 ≤ X.2.2.2) (hF : F.bind G = some (some (.int x), M)) (hx : x = 0 ∨ x = 1) : V X u M pc loc [.int x] F G := by
  intro res hres p l e s m args below meth c K b H locs ls A hP hS hz hl
  rw [hF] at hres
  cases hres
  refine W.widen (k := X.2.2.1) (n := X.2.2.2) hu.1 hu.2 ?_
  exact W.zret A.1 A.2.1 (A.2.2.1.trans hr) (by rcases hx with rfl | rfl <;> decide +kernel) (fun t ht hW => ⟨rfl, ⟨by rw [ht]; exact hz, by rw [ht]; exact hP, kn_K.warm hW A.2.2.2.2.2.2.1⟩, hS.F ht⟩) hS.2.2 hdg A.2.2.2.2.2.2.2.1
theorem v_lret {F : Option β} {x : Int64} (hr : X.1.2.2.2.1 = some .long) (hdg : decode X.1.2.1 pc = .ok (.lreturn, 1)) (hu : u.1 ≤ X.2.2.1 ∧ u.2 ≤ X.2.2.2) (hF : F.bind G = some (some (.long x), M)) : V X u M pc loc [.long x] F G := by
  intro res hres p l e s m args below meth c K b H locs ls A hP hS hz hl
  rw [hF] at hres
  cases hres
  refine W.widen (k := X.2.2.1) (n := X.2.2.2) hu.1 hu.2 ?_
  exact W.lret A.1 A.2.1 (A.2.2.1.trans hr) (fun t ht hW => ⟨rfl, ⟨by rw [ht]; exact hz, by rw [ht]; exact hP, kn_K.warm hW A.2.2.2.2.2.2.1⟩, hS.F ht⟩) hS.2.2 hdg A.2.2.2.2.2.2.2.1
theorem v_aret {F : Option β} {x : Nat} {n : String} (hr : X.1.2.2.2.1 = some (.object n)) (hdg : decode X.1.2.1 pc = .ok (.areturn, 1)) (hu : u.1 ≤ X.2.2.1 ∧ u.2 ≤ X.2.2.2) (hF : F.bind G = some (some (.ref x), M)) : V X u M pc loc [.ref x] F G := by
  intro res hres p l e s m args below meth c K b H locs ls A hP hS hz hl
  rw [hF] at hres
  cases hres
  refine W.widen (k := X.2.2.1) (n := X.2.2.2) hu.1 hu.2 ?_
  exact W.aret A.1 A.2.1 (A.2.2.1.trans hr) (Or.inl ⟨n, rfl⟩) (Or.inr ⟨_, rfl⟩) (fun t ht hW => ⟨rfl, ⟨by rw [ht]; exact hz, by rw [ht]; exact hP, kn_K.warm hW A.2.2.2.2.2.2.1⟩, hS.F ht⟩) hS.2.2 hdg A.2.2.2.2.2.2.2.1
theorem v_vret {F : Option β} (hr : X.1.2.2.2.1 = none) (hdg : decode X.1.2.1 pc = .ok (.return_, 1)) (hu : u.1 ≤ X.2.2.1 ∧ u.2 ≤ X.2.2.2) (hF : F.bind G = some (none, M)) : V X u M pc loc [] F G := by
  intro res hres p l e s m args below meth c K b H locs ls A hP hS hz hl
  rw [hF] at hres
  cases hres
  refine W.widen (k := X.2.2.1) (n := X.2.2.2) hu.1 hu.2 ?_
  exact W.vret A.1 A.2.1 (A.2.2.1.trans hr) (fun t ht hW => ⟨rfl, ⟨by rw [ht]; exact hz, by rw [ht]; exact hP, kn_K.warm hW A.2.2.2.2.2.2.1⟩, hS.F ht⟩) hS.2.2 hdg A.2.2.2.2.2.2.2.1
end JD

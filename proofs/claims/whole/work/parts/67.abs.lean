/-! ACTS, told without a memory. A debt: striker, struck, much, day. A state: debts, day, what knight k has (3 bears, 5 place, 6 toGo), honour. What acts leave as it is: who is there, year, chapels, strength, own chapels, roads -/
abbrev Rw : Type := Nat × Nat × Nat × Nat
abbrev Wd : Type := List Rw × Nat × (Nat → Nat → Nat) × (Nat → Int32)
abbrev Cx : Type := Nat × Nat × Nat × (Nat → Nat) × (Nat → Nat) × (Nat → Nat)
def up (f : Nat → Nat → Nat) (k j v : Nat) : Nat → Nat → Nat := fun x y => if x = k ∧ y = j then v else f x y
def ups (h : Nat → Int32) (k : Nat) (v : Int32) : Nat → Int32 := fun x => if x = k then v else h x
def XV (X : Cx) : Prop := X.1 < 64 ∧ (10 ≤ X.2.1 ∧ X.2.1 ≤ 400) ∧ (2 ≤ X.2.2.1 ∧ X.2.2.1 ≤ 5) ∧ (∀ k, k < 6 → X.1.testBit k = true → 1 ≤ X.2.2.2.1 k ∧ X.2.2.2.1 k ≤ 20 ∧ X.2.2.2.2.1 k < X.2.2.1) ∧ ∀ i, i < 25 → X.2.2.2.2.2 i ≤ 99
def RV (X : Cx) (w : Wd) (r : Rw) : Prop := r.1 < 6 ∧ r.2.1 < 6 ∧ r.1 ≠ r.2.1 ∧ X.1.testBit r.1 = true ∧ X.1.testBit r.2.1 = true ∧ w.2.2.1 r.1 3 ≠ 0 ∧ w.2.2.1 r.2.1 3 ≠ 0 ∧ r.2.2.1 ≤ 20 ∧ r.2.2.2 ≤ w.2.1 + X.2.1 + 1
def WV (X : Cx) (w : Wd) : Prop := w.1.length ≤ 12 ∧ w.2.1 ≤ 4000000 ∧ (∀ k, k < 6 → X.1.testBit k = true → w.2.2.1 k 3 ≤ 99 ∧ w.2.2.1 k 5 < X.2.2.1 ∧ w.2.2.1 k 6 ≤ 198) ∧ (∀ r, r ∈ w.1 → RV X w r) ∧ w.1.Pairwise (fun a b => a.2.2.2 ≤ b.2.2.2)
def a_kill (k : Nat) (ds : List Rw) : List Rw := ds.filter (fun r => decide (¬ (r.1 = k ∨ r.2.1 = k)))
def a_wound (k m : Nat) (w : Wd) : Wd := (if w.2.2.1 k 3 ≤ m then a_kill k w.1 else w.1, w.2.1, up w.2.2.1 k 3 (w.2.2.1 k 3 - m), w.2.2.2)
abbrev a_al (X : Cx) (w : Wd) (k : Nat) : Prop := X.1.testBit k = true ∧ w.2.2.1 k 3 ≠ 0
def a_why (X : Cx) (k q m : Nat) (w : Wd) : Nat := if ¬ a_al X w k then 1 else if ¬ a_al X w q then 1 else if k = q then 1 else if 0 < w.2.2.1 k 6 then 2 else if 0 < w.2.2.1 q 6 then 2 else if w.2.2.1 k 5 ≠ w.2.2.1 q 5 then 3 else if X.2.2.2.1 k < m then 4 else if w.1.length = 12 then 7 else 0
def a_hit (X : Cx) (k q m : Nat) (w : Wd) : Wd := if w.2.2.1 q 3 ≤ m then a_wound q m w else (w.1 ++ [(k, q, m, w.2.1 + X.2.1 + 1)], (a_wound q m w).2)
def a_act (X : Cx) (k : Nat) (w : Wd) : Nat := if ¬ a_al X w k then 1 else if 0 < w.2.2.1 k 6 then 2 else 0
/-! the court at c tells it; rs: what lies in each row's object -/
def CF (X : Cx) (M : Me) (c D : Nat) : Prop := me_i M c 5 = nI D ∧ me_i M (c + 1) 0 = nI X.2.2.1 ∧ me_i M (c + 1) 1 = nI X.2.1 ∧ ∀ i, i < 25 → me_i M (c + 2) i = nI (X.2.2.2.2.2 i)
def CK (X : Cx) (M : Me) (c : Nat) (kf : Nat → Nat → Nat) (ho : Nat → Int32) : Prop := ∀ k, k < 6 → me_i M (c + 22 + k) 0 = (if X.1.testBit k = true then 1 else 0) ∧ (X.1.testBit k = true → me_i M (c + 22 + k) 1 = nI (X.2.2.2.2.1 k) ∧ me_i M (c + 22 + k) 2 = nI (X.2.2.2.1 k) ∧ me_i M (c + 22 + k) 3 = nI (kf k 3) ∧ me_i M (c + 22 + k) 4 = ho k ∧ me_i M (c + 22 + k) 5 = nI (kf k 5) ∧ me_i M (c + 22 + k) 6 = nI (kf k 6))
def RB (r : Rw) : Prop := r.1 < 6 ∧ r.2.1 < 6 ∧ r.2.2.1 < 1000 ∧ r.2.2.2 < 2 ^ 30
def CD (M : Me) (c : Nat) (π : Nat → Nat) (n : Nat) (rs : Nat → Rw) : Prop := n ≤ 12 ∧ me_i M (c + 4) 0 = nI n ∧ ∀ i, i < n → me_i M (c + 6 + π i) 0 = nI (rs (π i)).1 ∧ me_i M (c + 6 + π i) 1 = nI (rs (π i)).2.1 ∧ me_i M (c + 6 + π i) 2 = nI (rs (π i)).2.2.1 ∧ me_i M (c + 6 + π i) 3 = nI (rs (π i)).2.2.2 ∧ RB (rs (π i))
def lv (M : Me) (c : Nat) (π : Nat → Nat) (n : Nat) : List Nat := ((List.range n).map π).filter (fun o => decide (me_i M (c + 6 + o) 4 = 0))
def CV (X : Cx) (M : Me) (c : Nat) (π : Nat → Nat) (n : Nat) (rs : Nat → Rw) (w : Wd) : Prop := CL M c ∧ CP M c π ∧ CF X M c w.2.1 ∧ CK X M c w.2.2.1 w.2.2.2 ∧ CD M c π n rs ∧ w.1 = (lv M c π n).map rs
/-- at an act's beginning and end no row is marked -/
def CB (X : Cx) (M : Me) (c : Nat) (w : Wd) : Prop := ∃ π n rs, CV X M c π n rs w ∧ ∀ i, i < n → me_i M (c + 6 + π i) 4 = 0
/-- what an act leaves as it is -/
def Fc (M N : Me) (c : Nat) : Prop := N.1 = M.1 ∧ (∀ a k, a ≠ c + 5 → me_r N a k = me_r M a k) ∧ ∀ a k, a < c ∨ (c + 18 ≤ a ∧ a < c + 22) ∨ c + 28 ≤ a → me_i N a k = me_i M a k
theorem Fc.refl {M : Me} {c : Nat} : Fc M M c := ⟨rfl, fun _ _ _ => rfl, fun _ _ _ => rfl⟩
theorem Fc.trans {M N P : Me} {c : Nat} (h : Fc M N c) (g : Fc N P c) : Fc M P c := ⟨g.1.trans h.1, fun a k q => (g.2.1 a k q).trans (h.2.1 a k q), fun a k q => (g.2.2 a k q).trans (h.2.2 a k q)⟩
theorem Fc.si {M : Me} {c a k : Nat} {v : Int32} (h1 : c ≤ a) (h2 : a < c + 18 ∨ (c + 22 ≤ a ∧ a < c + 28)) : Fc M (me_si M a k v) c := ⟨rfl, fun _ _ _ => rfl, fun x y _ => by rw [i_si, if_neg (by omega)]⟩
theorem Fc.w {M : Me} {c : Nat} {g : Nat → Nat → Int32} (h : ∀ a k, a < c ∨ (c + 18 ≤ a ∧ a < c + 22) ∨ c + 28 ≤ a → g a k = me_i M a k) : Fc M (me_w M g) c := ⟨rfl, fun _ _ _ => rfl, h⟩
section AB
variable {X : Cx} {M N : Me} {c D n : Nat} {π : Nat → Nat} {rs : Nat → Rw} {w : Wd} {kf : Nat → Nat → Nat} {ho : Nat → Int32}
theorem CF.same (h : CF X M c D) (hi : ∀ a k, a = c ∨ a = c + 1 ∨ a = c + 2 → me_i N a k = me_i M a k) : CF X N c D := by
  obtain ⟨h1, h2, h3, h4⟩ := h
  exact ⟨by rw [hi _ _ (by omega)]; exact h1, by rw [hi _ _ (by omega)]; exact h2, by rw [hi _ _ (by omega)]; exact h3, fun i q => by rw [hi _ _ (by omega)]; exact h4 i q⟩
theorem CK.same (h : CK X M c kf ho) (hi : ∀ a k, c + 22 ≤ a → a < c + 28 → me_i N a k = me_i M a k) : CK X N c kf ho := by
  intro k hk
  simp only [hi (c + 22 + k) _ (by omega) (by omega)]
  exact h k hk
theorem CD.same (h : CD M c π n rs) (hp : CP M c π) (h4 : me_i N (c + 4) 0 = me_i M (c + 4) 0) (hi : ∀ a k, c + 6 ≤ a → a < c + 18 → k < 4 → me_i N a k = me_i M a k) : CD N c π n rs := by
  obtain ⟨h1, h2, h3⟩ := h
  refine ⟨h1, by rw [h4]; exact h2, fun i q => ?_⟩
  have := (hp.1 i (by omega)).1
  rw [hi _ _ (by omega) (by omega) (by omega), hi _ _ (by omega) (by omega) (by omega), hi _ _ (by omega) (by omega) (by omega), hi _ _ (by omega) (by omega) (by omega)]
  exact h3 i q
theorem lv_same (hp : CP M c π) (hn : n ≤ 12) (hi : ∀ a, c + 6 ≤ a → a < c + 18 → me_i N a 4 = me_i M a 4) : lv N c π n = lv M c π n := by
  unfold lv
  apply List.filter_congr
  intro o ho
  obtain ⟨i, h1, rfl⟩ := List.mem_map.mp ho
  have := (hp.1 i (by have := List.mem_range.mp h1; omega)).1
  rw [hi _ (by omega) (by omega)]
/-- marks: the rows that stay -/
theorem lv_step {p : Rw → Bool} (hi : ∀ i, i < n → (me_i N (c + 6 + π i) 4 = 0 ↔ me_i M (c + 6 + π i) 4 = 0 ∧ p (rs (π i)) = true)) : (lv N c π n).map rs = ((lv M c π n).map rs).filter p := by
  rw [List.filter_map]
  congr 1
  unfold lv
  rw [List.filter_filter]
  apply List.filter_congr
  intro o ho
  obtain ⟨i, h1, rfl⟩ := List.mem_map.mp ho
  have h2 := hi i (List.mem_range.mp h1)
  by_cases hp : p (rs (π i)) = true
  · simp [h2, hp]
  · simp [h2, hp]
theorem lv_all (h : ∀ i, i < n → me_i M (c + 6 + π i) 4 = 0) : lv M c π n = (List.range n).map π := by
  unfold lv
  rw [List.filter_eq_self]
  intro o ho
  obtain ⟨i, h1, rfl⟩ := List.mem_map.mp ho
  simp [h i (List.mem_range.mp h1)]
theorem CK.si {k f v : Nat} (h : CK X M c kf ho) (hf : f = 3 ∨ f = 5 ∨ f = 6) : CK X (me_si M (c + 22 + k) f (nI v)) c (up kf k f v) ho := by
  intro j hj
  by_cases hjk : j = k
  · subst hjk
    obtain ⟨a1, a2⟩ := h j hj
    unfold up
    rcases hf with rfl | rfl | rfl
    · refine ⟨by rw [i_si, if_neg (by omega)]; exact a1, fun ht => ?_⟩
      obtain ⟨b1, b2, b3, b4, b5, b6⟩ := a2 ht
      refine ⟨by rw [i_si, if_neg (by omega)]; exact b1, by rw [i_si, if_neg (by omega)]; exact b2, by rw [i_si, if_pos ⟨rfl, rfl⟩, if_pos ⟨rfl, rfl⟩], by rw [i_si, if_neg (by omega)]; exact b4, by rw [i_si, if_neg (by omega), if_neg (by omega)]; exact b5, by rw [i_si, if_neg (by omega), if_neg (by omega)]; exact b6⟩
    · refine ⟨by rw [i_si, if_neg (by omega)]; exact a1, fun ht => ?_⟩
      obtain ⟨b1, b2, b3, b4, b5, b6⟩ := a2 ht
      refine ⟨by rw [i_si, if_neg (by omega)]; exact b1, by rw [i_si, if_neg (by omega)]; exact b2, by rw [i_si, if_neg (by omega), if_neg (by omega)]; exact b3, by rw [i_si, if_neg (by omega)]; exact b4, by rw [i_si, if_pos ⟨rfl, rfl⟩, if_pos ⟨rfl, rfl⟩], by rw [i_si, if_neg (by omega), if_neg (by omega)]; exact b6⟩
    · refine ⟨by rw [i_si, if_neg (by omega)]; exact a1, fun ht => ?_⟩
      obtain ⟨b1, b2, b3, b4, b5, b6⟩ := a2 ht
      refine ⟨by rw [i_si, if_neg (by omega)]; exact b1, by rw [i_si, if_neg (by omega)]; exact b2, by rw [i_si, if_neg (by omega), if_neg (by omega)]; exact b3, by rw [i_si, if_neg (by omega)]; exact b4, by rw [i_si, if_neg (by omega), if_neg (by omega)]; exact b5, by rw [i_si, if_pos ⟨rfl, rfl⟩, if_pos ⟨rfl, rfl⟩]⟩
  · have e : ∀ y, me_i (me_si M (c + 22 + k) f (nI v)) (c + 22 + j) y = me_i M (c + 22 + j) y := fun y => by rw [i_si, if_neg (by omega)]
    have e2 : ∀ y, up kf k f v j y = kf j y := fun y => by unfold up; rw [if_neg (by omega)]
    simp only [e, e2]
    exact h j hj
theorem CK.sh {k : Nat} {v : Int32} (h : CK X M c kf ho) : CK X (me_si M (c + 22 + k) 4 v) c kf (ups ho k v) := by
  intro j hj
  by_cases hjk : j = k
  · subst hjk
    obtain ⟨a1, a2⟩ := h j hj
    refine ⟨by rw [i_si, if_neg (by omega)]; exact a1, fun ht => ?_⟩
    obtain ⟨b1, b2, b3, b4, b5, b6⟩ := a2 ht
    refine ⟨by rw [i_si, if_neg (by omega)]; exact b1, by rw [i_si, if_neg (by omega)]; exact b2, by rw [i_si, if_neg (by omega)]; exact b3, by rw [i_si, if_pos ⟨rfl, rfl⟩]; unfold ups; rw [if_pos rfl], by rw [i_si, if_neg (by omega)]; exact b5, by rw [i_si, if_neg (by omega)]; exact b6⟩
  · have e : ∀ y, me_i (me_si M (c + 22 + k) 4 v) (c + 22 + j) y = me_i M (c + 22 + j) y := fun y => by rw [i_si, if_neg (by omega)]
    have e2 : ups ho k v j = ho j := by unfold ups; rw [if_neg hjk]
    simp only [e, e2]
    exact h j hj
/-- a change of knights' cells alone -/
theorem CV.kn {kf2 : Nat → Nat → Nat} {ho2 : Nat → Int32} (h : CV X M c π n rs w) (hl : N.1 = M.1) (hr : ∀ a k, me_r N a k = me_r M a k) (hi : ∀ a k, ¬ (c + 22 ≤ a ∧ a < c + 28) → me_i N a k = me_i M a k) (hK : CK X N c kf2 ho2) : CV X N c π n rs (w.1, w.2.1, kf2, ho2) := by
  obtain ⟨h1, h2, h3, h4, h5, h6⟩ := h
  have hk : ∀ a, me_k N a = me_k M a := fun a => by unfold me_k; rw [hl]
  refine ⟨h1.same (fun a _ _ => hk a) (fun a k _ _ _ => hr a k), h2.same (fun k => hr _ _), h3.same (fun a k q => hi a k (by omega)), hK, h5.same h2 (hi _ _ (by omega)) (fun a k _ _ _ => hi a k (by omega)), ?_⟩
  rw [lv_same h2 h5.1 (fun a _ _ => hi a 4 (by omega))]
  exact h6
/-- who is alive -/
theorem CK.alive (hCL : CL M c) (h : CK X M c kf ho) {k : Nat} (hk : k < 6) (hb : X.1.testBit k = true → kf k 3 ≤ 99) : f_X4_isAlive (c + 22 + k) M = some (if X.1.testBit k = true ∧ kf k 3 ≠ 0 then 1 else 0) := by
  unfold f_X4_isAlive b_X4_isAlive
  rw [q_ck4 hCL hk, q_gi4 hCL hk, (h k hk).1]
  by_cases ht : X.1.testBit k = true
  · rw [if_pos ht, if_neg (by decide), q_gi4 hCL hk, ((h k hk).2 ht).2.2.1]
    by_cases h0 : kf k 3 = 0
    · rw [h0, if_pos (show nI 0 ≤ (0 : Int32) by decide +kernel), if_neg (by simp)]; rfl
    · have := hb ht
      rw [c_0, if_neg (nI_ge (by omega) (by omega)), if_pos ⟨ht, h0⟩]; rfl
  · rw [if_neg ht, if_pos rfl, if_neg (fun q => ht q.1)]; rfl
theorem CK.dead (hCL : CL M c) (h : CK X M c kf ho) {k : Nat} (hk : k < 6) (ht : X.1.testBit k = true) (hb : kf k 3 ≤ 99) : f_X4_isDead (c + 22 + k) M = some (if kf k 3 = 0 then 1 else 0) := by
  unfold f_X4_isDead b_X4_isDead
  rw [q_ck4 hCL hk, q_gi4 hCL hk, (h k hk).1, if_pos ht, if_neg (by decide), q_gi4 hCL hk, ((h k hk).2 ht).2.2.1]
  by_cases h0 : kf k 3 = 0
  · rw [h0, if_pos (nI_0), if_pos rfl]; rfl
  · rw [c_0, if_neg (nI_ne (by omega) (by omega) h0), if_neg h0]; rfl
theorem CK.isIn (hCL : CL M c) (h : CK X M c kf ho) {k p : Nat} (hk : k < 6) (ht : X.1.testBit k = true) (h5 : kf k 5 < 1000) (h6 : kf k 6 < 1000) (hp : p < 1000) : f_X4_isIn (c + 22 + k) (nI p) M = some (if kf k 6 = 0 ∧ kf k 5 = p then 1 else 0) := by
  unfold f_X4_isIn b_X4_isIn
  obtain ⟨b1, b2, b3, b4, b5, b6⟩ := (h k hk).2 ht
  rw [q_ck4 hCL hk, q_gi4 hCL hk, b6]
  by_cases h0 : kf k 6 = 0
  · rw [h0, if_pos (nI_0), q_gi4 hCL hk, b5]
    by_cases h1 : kf k 5 = p
    · rw [h1, if_pos rfl, if_pos ⟨rfl, rfl⟩]; rfl
    · rw [if_neg (nI_ne (by omega) (by omega) h1), if_neg (by omega)]; rfl
  · rw [c_0, if_neg (nI_ne (by omega) (by omega) h0), if_neg (by omega)]; rfl
end AB

/-! THE INVARIANT. A state of the game is told as st : address → place → int, by the reference's own addresses (70: its fields, 71 road, 72 strength, 73 own, 74 sight, 75 place, 76 toGo, 77 bears, 78 honour, 79 debt) -/
abbrev St : Type := Nat → Nat → Int32
/-- its numbers: chapels c, year y, who is there t, day D, debts nd, sights sg -/
def VN (n : Nat) (st : St) (c y t D nd sg : Nat) : Prop := (st 70 0 = nI c ∧ 2 ≤ c ∧ c ≤ 5) ∧ (st 70 2 = nI y ∧ 10 ≤ y ∧ y ≤ 400) ∧ (st 70 3 = nI t ∧ t < 64) ∧ (st 70 8 = nI D ∧ D ≤ 6000 * n) ∧ (st 70 13 = nI nd ∧ nd ≤ 12) ∧ (st 70 6 = nI sg ∧ sg ≤ 6)
def VR (st : St) : Prop := ∀ i, i < 25 → ∃ d, d ≤ 99 ∧ st 71 i = nI d
def VK (st : St) (c t : Nat) : Prop := ∀ k, k < 6 → t.testBit k = true → (∃ s, st 72 k = nI s ∧ 1 ≤ s ∧ s ≤ 20) ∧ (∃ o, st 73 k = nI o ∧ o < c) ∧ (∃ p, st 75 k = nI p ∧ p < c) ∧ (∃ g, st 76 k = nI g ∧ g ≤ 198) ∧ (∃ b, st 77 k = nI b ∧ b ≤ 99)
def VD (st : St) (y t D nd : Nat) : Prop := (∀ i, i < nd → ∃ s q m d, st 79 (4 * i) = nI s ∧ st 79 (4 * i + 1) = nI q ∧ st 79 (4 * i + 2) = nI m ∧ st 79 (4 * i + 3) = nI d ∧ s < 6 ∧ q < 6 ∧ s ≠ q ∧ t.testBit s = true ∧ t.testBit q = true ∧ ¬ st 77 s = 0 ∧ ¬ st 77 q = 0 ∧ m ≤ 20 ∧ d ≤ D + y + 1) ∧
  ∀ i j d1 d2, i ≤ j → j < nd → d1 < 2 ^ 31 → d2 < 2 ^ 31 → st 79 (4 * i + 3) = nI d1 → st 79 (4 * j + 3) = nI d2 → d1 ≤ d2
def VS (st : St) (sg : Nat) : Prop := ∀ i, i < sg → ∃ k m, st 74 (2 * i) = nI k ∧ k < 6 ∧ st 74 (2 * i + 1) = nI m ∧ 1 ≤ m ∧ m ≤ 20
def Val (n : Nat) (st : St) (c y t D nd sg : Nat) : Prop := VN n st c y t D nd sg ∧ VR st ∧ VK st c t ∧ VD st y t D nd ∧ VS st sg
/-- a court's cells, at c and behind it -/
def CL (M : Me) (c : Nat) : Prop :=
  (me_k M c = some (0, 6) ∧ me_r M c 0 = some (c + 1) ∧ me_r M c 1 = some (c + 3) ∧ me_r M c 2 = some (c + 4) ∧ me_r M c 3 = some (c + 18) ∧ me_r M c 4 = some (c + 21)) ∧
  (me_k M (c + 1) = some (5, 3) ∧ me_r M (c + 1) 2 = some (c + 2) ∧ me_k M (c + 2) = some (20, 25)) ∧
  (me_k M (c + 3) = some (22, 6) ∧ ∀ k, k < 6 → me_r M (c + 3) k = some (c + 22 + k)) ∧
  (me_k M (c + 4) = some (2, 2) ∧ me_r M (c + 4) 1 = some (c + 5) ∧ me_k M (c + 5) = some (23, 12)) ∧
  (∀ k, k < 12 → me_k M (c + 6 + k) = some (1, 5)) ∧
  (me_k M (c + 18) = some (9, 3) ∧ me_r M (c + 18) 1 = some (c + 19) ∧ me_r M (c + 18) 2 = some (c + 20) ∧ me_k M (c + 19) = some (20, 6) ∧ me_k M (c + 20) = some (20, 6)) ∧
  (me_k M (c + 21) = some (4, 7) ∧ ∀ k, k < 6 → me_k M (c + 22 + k) = some (4, 7))
/-- where its rows of debts lie: each once -/
def CP (M : Me) (c : Nat) (π : Nat → Nat) : Prop := (∀ i, i < 12 → π i < 12 ∧ me_r M (c + 5) i = some (c + 6 + π i)) ∧ ∀ i j, i < 12 → j < 12 → π i = π j → i = j
/-- the court at c tells the state st -/
def Rep (M : Me) (c : Nat) (π : Nat → Nat) (st : St) (t nd sg : Nat) : Prop :=
  (me_i M (c + 1) 0 = st 70 0 ∧ me_i M (c + 1) 1 = st 70 2 ∧ ∀ i, i < 25 → me_i M (c + 2) i = st 71 i) ∧
  (∀ k, k < 6 → me_i M (c + 22 + k) 0 = (if t.testBit k = true then 1 else 0) ∧ (t.testBit k = true → me_i M (c + 22 + k) 1 = st 73 k ∧ me_i M (c + 22 + k) 2 = st 72 k ∧ me_i M (c + 22 + k) 3 = st 77 k ∧ me_i M (c + 22 + k) 4 = st 78 k ∧ me_i M (c + 22 + k) 5 = st 75 k ∧ me_i M (c + 22 + k) 6 = st 76 k)) ∧
  me_i M (c + 21) 0 = 0 ∧
  (me_i M (c + 4) 0 = st 70 13 ∧ ∀ i, i < nd → me_i M (c + 6 + π i) 0 = st 79 (4 * i) ∧ me_i M (c + 6 + π i) 1 = st 79 (4 * i + 1) ∧ me_i M (c + 6 + π i) 2 = st 79 (4 * i + 2) ∧ me_i M (c + 6 + π i) 3 = st 79 (4 * i + 3) ∧ me_i M (c + 6 + π i) 4 = 0) ∧
  (me_i M (c + 18) 0 = st 70 6 ∧ ∀ i, i < sg → me_i M (c + 19) i = st 74 (2 * i) ∧ me_i M (c + 20) i = st 74 (2 * i + 1)) ∧
  me_i M c 5 = st 70 8
/-- a court that holds a state -/
def Cou (n : Nat) (M : Me) (c : Nat) (st : St) : Prop := CL M c ∧ ∃ π, CP M c π ∧ ∃ c0 y t D nd sg, Val n st c0 y t D nd sg ∧ Rep M c π st t nd sg
/-- the reference's state, and that which its image j keeps -/
def st_m (M : Me) : St := fun a k => me_i M a k
def im_o (a k : Nat) : Nat := if a = 71 then k else if a = 72 then 25 + k else if a = 73 then 31 + k else if a = 75 then 37 + k else if a = 76 then 43 + k else if a = 77 then 49 + k else if a = 78 then 55 + k else if a = 79 then 61 + k else if a = 74 then 109 + k else if k = 0 then 121 else if k = 2 then 122 else if k = 3 then 123 else if k = 6 then 124 else if k = 8 then 125 else 126
def st_i (M : Me) (j : Nat) : St := fun a k => me_i M 89 (150 * j + im_o a k)
def PadR (M : Me) : Prop := ∃ p, p ≤ 60 ∧ me_i M 1 0 = nI p ∧ me_i M 70 15 = nI p ∧ ∀ i, i < p → me_i M 2 i = me_i M 80 i ∧ ∃ v, 33 ≤ v ∧ v ≤ 126 ∧ me_i M 80 i = nI v
def ImR (n : Nat) (M : Me) : Prop := ∃ c0 c1 : Option Nat, (∀ j, j < 2 → me_r M 31 j = (if j = 0 then c0 else c1)) ∧ (∀ j, j < 2 → me_i M 90 j = (if (if j = 0 then c0 else c1) = none then 0 else 1)) ∧
  (∀ j c, j < 2 → (if j = 0 then c0 else c1) = some c → 91 ≤ c ∧ c + 28 ≤ M.1.length ∧ Cou n M c (st_i M j)) ∧ ∀ a b, c0 = some a → c1 = some b → a + 28 ≤ b ∨ b + 28 ≤ a
def Iv (n : Nat) (M : Me) : Prop := Lay M ∧ 91 ≤ M.1.length ∧ Cou n M 3 (st_m M) ∧ (∃ π, CP M 33 π) ∧ PadR M ∧ ImR n M
/-! later is as good -/
theorem Val.later {n : Nat} {st : St} {c y t D nd sg : Nat} (h : Val n st c y t D nd sg) : Val (n + 1) st c y t D nd sg := by
  obtain ⟨⟨h1, h2, h3, ⟨h4, h5⟩, h6, h7⟩, h8⟩ := h
  exact ⟨⟨h1, h2, h3, ⟨h4, by omega⟩, h6, h7⟩, h8⟩
theorem Cou.later {n : Nat} {M : Me} {c : Nat} {st : St} (h : Cou n M c st) : Cou (n + 1) M c st := by
  obtain ⟨h1, π, h2, c0, y, t, D, nd, sg, h3, h4⟩ := h
  exact ⟨h1, π, h2, c0, y, t, D, nd, sg, h3.later, h4⟩
theorem ImR.later {n : Nat} {M : Me} (h : ImR n M) : ImR (n + 1) M := by
  obtain ⟨c0, c1, h1, h2, h3, h4⟩ := h
  exact ⟨c0, c1, h1, h2, fun j c hj hc => ⟨(h3 j c hj hc).1, (h3 j c hj hc).2.1, (h3 j c hj hc).2.2.later⟩, h4⟩
theorem iv_stay : ∀ n M, n < 512 → Iv n M → Iv (n + 1) M := by
  intro n M _ h
  obtain ⟨h1, h2, h3, h4, h5, h6⟩ := h
  exact ⟨h1, h2, h3.later, h4, h5, h6.later⟩
/-! what the invariant reads: other cells may change as they like -/
theorem CL.same {M N : Me} {c : Nat} (h : CL M c) (hk : ∀ a, c ≤ a → a < c + 28 → me_k N a = me_k M a) (hr : ∀ a k, c ≤ a → a < c + 28 → a ≠ c + 5 → me_r N a k = me_r M a k) : CL N c := by
  obtain ⟨⟨a1, a2, a3, a4, a5, a6⟩, ⟨b1, b2, b3⟩, ⟨c1, c2⟩, ⟨d1, d2, d3⟩, e1, ⟨f1, f2, f3, f4, f5⟩, g1, g2⟩ := h
  refine ⟨⟨?_, ?_, ?_, ?_, ?_, ?_⟩, ⟨?_, ?_, ?_⟩, ⟨?_, fun k hk2 => ?_⟩, ⟨?_, ?_, ?_⟩, fun k hk2 => ?_, ⟨?_, ?_, ?_, ?_, ?_⟩, ?_, fun k hk2 => ?_⟩
  · rw [hk _ (by omega) (by omega)]; exact a1
  · rw [hr _ _ (by omega) (by omega) (by omega)]; exact a2
  · rw [hr _ _ (by omega) (by omega) (by omega)]; exact a3
  · rw [hr _ _ (by omega) (by omega) (by omega)]; exact a4
  · rw [hr _ _ (by omega) (by omega) (by omega)]; exact a5
  · rw [hr _ _ (by omega) (by omega) (by omega)]; exact a6
  · rw [hk _ (by omega) (by omega)]; exact b1
  · rw [hr _ _ (by omega) (by omega) (by omega)]; exact b2
  · rw [hk _ (by omega) (by omega)]; exact b3
  · rw [hk _ (by omega) (by omega)]; exact c1
  · rw [hr _ _ (by omega) (by omega) (by omega)]; exact c2 k hk2
  · rw [hk _ (by omega) (by omega)]; exact d1
  · rw [hr _ _ (by omega) (by omega) (by omega)]; exact d2
  · rw [hk _ (by omega) (by omega)]; exact d3
  · rw [hk _ (by omega) (by omega)]; exact e1 k hk2
  · rw [hk _ (by omega) (by omega)]; exact f1
  · rw [hr _ _ (by omega) (by omega) (by omega)]; exact f2
  · rw [hr _ _ (by omega) (by omega) (by omega)]; exact f3
  · rw [hk _ (by omega) (by omega)]; exact f4
  · rw [hk _ (by omega) (by omega)]; exact f5
  · rw [hk _ (by omega) (by omega)]; exact g1
  · rw [hk _ (by omega) (by omega)]; exact g2 k hk2
theorem CP.same {M N : Me} {c : Nat} {π : Nat → Nat} (h : CP M c π) (hr : ∀ k, me_r N (c + 5) k = me_r M (c + 5) k) : CP N c π := ⟨fun i hi => ⟨(h.1 i hi).1, by rw [hr]; exact (h.1 i hi).2⟩, h.2⟩
theorem Rep.same {M N : Me} {c : Nat} {π : Nat → Nat} {st : St} {t nd sg : Nat} (h : Rep M c π st t nd sg) (hp : CP M c π) (hn : nd ≤ 12) (hi : ∀ a k, c ≤ a → a < c + 28 → me_i N a k = me_i M a k) : Rep N c π st t nd sg := by
  obtain ⟨⟨a1, a2, a3⟩, b1, b2, ⟨c1, c2⟩, ⟨d1, d2⟩, e1⟩ := h
  refine ⟨⟨?_, ?_, fun i h1 => ?_⟩, fun k hk => ?_, ?_, ⟨?_, fun i h1 => ?_⟩, ⟨?_, fun i h1 => ?_⟩, ?_⟩
  · rw [hi _ _ (by omega) (by omega)]; exact a1
  · rw [hi _ _ (by omega) (by omega)]; exact a2
  · rw [hi _ _ (by omega) (by omega)]; exact a3 i h1
  · simp only [hi (c + 22 + k) _ (by omega) (by omega)]; exact b1 k hk
  · rw [hi _ _ (by omega) (by omega)]; exact b2
  · rw [hi _ _ (by omega) (by omega)]; exact c1
  · have h2 := (hp.1 i (by omega)).1
    simp only [hi (c + 6 + π i) _ (by omega) (by omega)]; exact c2 i h1
  · rw [hi _ _ (by omega) (by omega)]; exact d1
  · simp only [hi (c + 19) _ (by omega) (by omega), hi (c + 20) _ (by omega) (by omega)]; exact d2 i h1
  · rw [hi _ _ (by omega) (by omega)]; exact e1
theorem Val.nd {n : Nat} {st : St} {c y t D nd sg : Nat} (h : Val n st c y t D nd sg) : nd ≤ 12 := h.1.2.2.2.2.1.2
/-- two states that agree where they are read -/
theorem Val.same {n : Nat} {st su : St} {c y t D nd sg : Nat} (h : Val n st c y t D nd sg) (h70 : ∀ k, k = 0 ∨ k = 2 ∨ k = 3 ∨ k = 6 ∨ k = 8 ∨ k = 13 → su 70 k = st 70 k) (ho : ∀ a k, 71 ≤ a → a ≤ 79 → su a k = st a k) : Val n su c y t D nd sg := by
  obtain ⟨⟨⟨a1, a2⟩, ⟨b1, b2⟩, ⟨c1, c2⟩, ⟨d1, d2⟩, ⟨e1, e2⟩, f1, f2⟩, hR, hK, hD, hS⟩ := h
  refine ⟨⟨⟨?_, a2⟩, ⟨?_, b2⟩, ⟨?_, c2⟩, ⟨?_, d2⟩, ⟨?_, e2⟩, ?_, f2⟩, ?_, ?_, ?_, ?_⟩
  · rw [h70 0 (by omega)]; exact a1
  · rw [h70 2 (by omega)]; exact b1
  · rw [h70 3 (by omega)]; exact c1
  · rw [h70 8 (by omega)]; exact d1
  · rw [h70 13 (by omega)]; exact e1
  · rw [h70 6 (by omega)]; exact f1
  · intro i hi; rw [ho _ _ (by omega) (by omega)]; exact hR i hi
  · intro k hk ht
    simp only [ho 72 _ (by omega) (by omega), ho 73 _ (by omega) (by omega), ho 75 _ (by omega) (by omega), ho 76 _ (by omega) (by omega), ho 77 _ (by omega) (by omega)]
    exact hK k hk ht
  · unfold VD
    simp only [ho 79 _ (by omega) (by omega), ho 77 _ (by omega) (by omega)]
    exact hD
  · intro i hi
    simp only [ho 74 _ (by omega) (by omega)]
    exact hS i hi
theorem Rep.same2 {M : Me} {c : Nat} {π : Nat → Nat} {st su : St} {t nd sg : Nat} (h : Rep M c π st t nd sg) (h70 : ∀ k, k = 0 ∨ k = 2 ∨ k = 3 ∨ k = 6 ∨ k = 8 ∨ k = 13 → su 70 k = st 70 k) (ho : ∀ a k, 71 ≤ a → a ≤ 79 → su a k = st a k) : Rep M c π su t nd sg := by
  unfold Rep at h ⊢
  simp only [h70 0 (by omega), h70 2 (by omega), h70 6 (by omega), h70 8 (by omega), h70 13 (by omega), ho 71 _ (by omega) (by omega), ho 72 _ (by omega) (by omega), ho 73 _ (by omega) (by omega), ho 74 _ (by omega) (by omega), ho 75 _ (by omega) (by omega), ho 76 _ (by omega) (by omega), ho 77 _ (by omega) (by omega), ho 78 _ (by omega) (by omega), ho 79 _ (by omega) (by omega)]
  exact h
theorem Cou.same {n : Nat} {M N : Me} {c : Nat} {st su : St} (h : Cou n M c st) (hk : ∀ a, c ≤ a → a < c + 28 → me_k N a = me_k M a) (hr : ∀ a k, c ≤ a → a < c + 28 → me_r N a k = me_r M a k) (hi : ∀ a k, c ≤ a → a < c + 28 → me_i N a k = me_i M a k) (h70 : ∀ k, k = 0 ∨ k = 2 ∨ k = 3 ∨ k = 6 ∨ k = 8 ∨ k = 13 → su 70 k = st 70 k) (ho : ∀ a k, 71 ≤ a → a ≤ 79 → su a k = st a k) : Cou n N c su := by
  obtain ⟨h1, π, h2, c0, y, t, D, nd, sg, h3, h4⟩ := h
  exact ⟨h1.same hk (fun a k h5 h6 _ => hr a k h5 h6), π, h2.same (fun k => hr _ _ (by omega) (by omega)), c0, y, t, D, nd, sg, h3.same h70 ho, (h4.same h2 h3.nd hi).same2 h70 ho⟩
theorem ImR.same {n : Nat} {M N : Me} (h : ImR n M) (hl : M.1.length ≤ N.1.length) (hk : ∀ a, 91 ≤ a → a < M.1.length → me_k N a = me_k M a) (hr : ∀ a k, 91 ≤ a → me_r N a k = me_r M a k) (hr31 : ∀ k, me_r N 31 k = me_r M 31 k) (hi : ∀ a k, 91 ≤ a → me_i N a k = me_i M a k) (h89 : ∀ k, me_i N 89 k = me_i M 89 k) (h90 : ∀ k, me_i N 90 k = me_i M 90 k) : ImR n N := by
  obtain ⟨c0, c1, h1, h2, h3, h4⟩ := h
  refine ⟨c0, c1, fun j hj => by rw [hr31]; exact h1 j hj, fun j hj => by rw [h90]; exact h2 j hj, fun j c hj hc => ?_, h4⟩
  obtain ⟨g1, g2, g3⟩ := h3 j c hj hc
  exact ⟨g1, by omega, g3.same (fun a h5 h6 => hk a (by omega) (by omega)) (fun a k h5 h6 => hr a k (by omega)) (fun a k h5 h6 => hi a k (by omega)) (fun k _ => h89 _) (fun a k _ _ => h89 _)⟩
/-- what is kept by a change in cells that the invariant doesn't read -/
theorem Iv.same {n : Nat} {M N : Me} (h : Iv n M) (hl : N.1 = M.1) (hr : ∀ a k, a ≠ 38 → me_r N a k = me_r M a k) (hp : ∃ π, CP N 33 π)
    (hi : ∀ a k, (a = 1 ∨ a = 2 ∨ (3 ≤ a ∧ a ≤ 30) ∨ (71 ≤ a ∧ a ≤ 80) ∨ 89 ≤ a ∨ (a = 70 ∧ (k = 0 ∨ k = 2 ∨ k = 3 ∨ k = 6 ∨ k = 8 ∨ k = 13 ∨ k = 15))) → me_i N a k = me_i M a k) : Iv n N := by
  have hk : ∀ a, me_k N a = me_k M a := fun a => by unfold me_k; rw [hl]
  obtain ⟨⟨h1, h1b⟩, h2, h3, h4, ⟨p, h5⟩, h6⟩ := h
  refine ⟨⟨fun a ha => by rw [hk]; exact h1 a ha, fun a ha g1 g2 g3 k => by rw [hr a k g2]; exact h1b a ha g1 g2 g3 k⟩, by rw [hl]; exact h2, ?_, hp, ⟨p, ?_⟩, ?_⟩
  · exact h3.same (fun a _ _ => hk a) (fun a k _ _ => hr a k (by omega)) (fun a k _ _ => hi a k (by omega)) (fun k hk2 => hi 70 k (by omega)) (fun a k _ _ => hi a k (by omega))
  · rw [hi 1 0 (by omega), hi 70 15 (by omega)]
    have e2 : ∀ i, me_i N 2 i = me_i M 2 i := fun i => hi 2 i (by omega)
    have e80 : ∀ i, me_i N 80 i = me_i M 80 i := fun i => hi 80 i (by omega)
    simp only [e2, e80]
    exact h5
  · exact h6.same (by rw [hl]; exact Nat.le_refl _) (fun a _ _ => hk a) (fun a k _ => hr a k (by omega)) (fun k => hr 31 k (by omega)) (fun a k _ => hi a k (by omega)) (fun k => hi 89 k (by omega)) (fun k => hi 90 k (by omega))
/-- the invariant at the start -/
theorem iv_0 : Iv 0 M_0 := by
  refine ⟨⟨fun a _ => rfl, fun a _ _ _ _ k => rfl⟩, by decide +kernel, ⟨?_, id, ?_, 4, 360, 0, 0, 0, 0, ⟨?_, ?_, ?_, ?_, ?_⟩, ?_⟩, ⟨id, ?_⟩, ⟨0, by decide, by decide +kernel, by decide +kernel, fun i hi => absurd hi (by omega)⟩, ?_⟩
  · unfold CL; decide +kernel
  · refine ⟨by decide +kernel, fun i j _ _ h => h⟩
  · unfold VN st_m; decide +kernel
  · have h : ∀ i, i < 25 → me_i M_0 71 i = nI 0 := by decide +kernel
    intro i hi; exact ⟨0, by decide, h i hi⟩
  · intro k _ ht; simp at ht
  · exact ⟨fun i hi => absurd hi (by omega), fun i j d1 d2 _ hj => absurd hj (by omega)⟩
  · intro i hi; exact absurd hi (by omega)
  · refine ⟨⟨by decide +kernel, by decide +kernel, ?_⟩, ?_, by decide +kernel, ⟨by decide +kernel, fun i hi => absurd hi (by omega)⟩, ⟨by decide +kernel, fun i hi => absurd hi (by omega)⟩, by decide +kernel⟩
    · unfold st_m; decide +kernel
    · have h : ∀ k, k < 6 → me_i M_0 (3 + 22 + k) 0 = 0 := by decide +kernel
      intro k hk
      refine ⟨by rw [h k hk]; simp, fun ht => by simp at ht⟩
  · refine ⟨by decide +kernel, fun i j _ _ h => h⟩
  · refine ⟨none, none, by decide +kernel, by decide +kernel, fun j c _ hc => ?_, fun a b ha _ => by cases ha⟩
    split at hc <;> cases hc

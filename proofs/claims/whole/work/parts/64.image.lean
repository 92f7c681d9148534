/-! a new court: a memory laid behind another -/
def jn (M X : Me) : Me := (M.1 ++ X.1, fun a k => if M.1.length ≤ a ∧ a < M.1.length + X.1.length then (me_r X (a - M.1.length) k).map (fun o => M.1.length + o) else me_r M a k, fun a k => if M.1.length ≤ a ∧ a < M.1.length + X.1.length then me_i X (a - M.1.length) k else me_i M a k)
section JN
variable {β γ : Type} {M X : Me}
theorem me_lt {a : Nat} {z : Nat × Nat} (h : me_k X a = some z) : a < X.1.length := by
  unfold me_k at h
  exact (List.getElem?_eq_some_iff.mp h).1
theorem jn_k {a : Nat} : me_k (jn M X) (M.1.length + a) = me_k X a := by
  show (M.1 ++ X.1)[M.1.length + a]? = X.1[a]?
  rw [List.getElem?_append_right (by omega), Nat.add_sub_cancel_left]
theorem jn_r {a k : Nat} (h : a < X.1.length) : me_r (jn M X) (M.1.length + a) k = (me_r X a k).map (fun o => M.1.length + o) := by
  show (if M.1.length ≤ M.1.length + a ∧ M.1.length + a < M.1.length + X.1.length then _ else _) = _
  rw [if_pos (by omega), Nat.add_sub_cancel_left]
theorem jn_i {a k : Nat} (h : a < X.1.length) : me_i (jn M X) (M.1.length + a) k = me_i X a k := by
  show (if M.1.length ≤ M.1.length + a ∧ M.1.length + a < M.1.length + X.1.length then _ else _) = _
  rw [if_pos (by omega), Nat.add_sub_cancel_left]
theorem jn_k0 {a : Nat} (h : a < M.1.length) : me_k (jn M X) a = me_k M a := by
  show (M.1 ++ X.1)[a]? = M.1[a]?
  rw [List.getElem?_append_left h]
theorem jn_r0 {a k : Nat} (h : a < M.1.length) : me_r (jn M X) a k = me_r M a k := if_neg (by omega)
theorem jn_i0 {a k : Nat} (h : a < M.1.length) : me_i (jn M X) a k = me_i M a k := if_neg (by omega)
theorem jn_l : (jn M X).1.length = M.1.length + X.1.length := by simp [jn]
theorem jn_nw {kd : Nat × Nat} : me_nw (jn M X) kd = jn M (me_nw X kd) := by
  have hl : (me_nw X kd).1.length = X.1.length + 1 := by simp [me_nw]
  unfold jn
  rw [hl]
  unfold me_nw
  refine Prod.ext ?_ (Prod.ext ?_ ?_)
  · simp
  · funext a k
    show (if a = (M.1 ++ X.1).length then none else if M.1.length ≤ a ∧ a < M.1.length + X.1.length then _ else _) = if M.1.length ≤ a ∧ a < M.1.length + (X.1.length + 1) then Option.map _ (if a - M.1.length = X.1.length then none else _) else _
    rw [List.length_append]
    by_cases h1 : a = M.1.length + X.1.length
    · rw [if_pos h1, if_pos (by omega), if_pos (by omega)]; rfl
    · rw [if_neg h1]
      by_cases h2 : M.1.length ≤ a ∧ a < M.1.length + X.1.length
      · rw [if_pos h2, if_pos (by omega), if_neg (by omega)]; rfl
      · rw [if_neg h2, if_neg (by omega)]
  · funext a k
    show (if a = (M.1 ++ X.1).length then 0 else if M.1.length ≤ a ∧ a < M.1.length + X.1.length then _ else _) = if M.1.length ≤ a ∧ a < M.1.length + (X.1.length + 1) then (if a - M.1.length = X.1.length then 0 else _) else _
    rw [List.length_append]
    by_cases h1 : a = M.1.length + X.1.length
    · rw [if_pos h1, if_pos (by omega), if_pos (by omega)]
    · rw [if_neg h1]
      by_cases h2 : M.1.length ≤ a ∧ a < M.1.length + X.1.length
      · rw [if_pos h2, if_pos (by omega), if_neg (by omega)]; rfl
      · rw [if_neg h2, if_neg (by omega)]
theorem jn_sr {a k o : Nat} (h : a < X.1.length) : me_sr (jn M X) (M.1.length + a) k (some (M.1.length + o)) = jn M (me_sr X a k (some o)) := by
  unfold me_sr jn
  refine Prod.ext rfl (Prod.ext ?_ rfl)
  funext x y
  show (if x = M.1.length + a ∧ y = k then _ else if M.1.length ≤ x ∧ x < M.1.length + X.1.length then _ else _) = if M.1.length ≤ x ∧ x < M.1.length + X.1.length then Option.map _ (if x - M.1.length = a ∧ y = k then _ else _) else _
  by_cases h1 : x = M.1.length + a ∧ y = k
  · rw [if_pos h1, if_pos (by omega), if_pos (by omega)]; rfl
  · rw [if_neg h1]
    by_cases h2 : M.1.length ≤ x ∧ x < M.1.length + X.1.length
    · rw [if_pos h2, if_pos h2, if_neg (by omega)]; rfl
    · rw [if_neg h2, if_neg h2]
theorem jn_si {a k : Nat} {v : Int32} (h : a < X.1.length) : me_si (jn M X) (M.1.length + a) k v = jn M (me_si X a k v) := by
  unfold me_si jn
  refine Prod.ext rfl (Prod.ext rfl ?_)
  funext x y
  show (if x = M.1.length + a ∧ y = k then _ else if M.1.length ≤ x ∧ x < M.1.length + X.1.length then _ else _) = if M.1.length ≤ x ∧ x < M.1.length + X.1.length then (if x - M.1.length = a ∧ y = k then _ else _) else _
  by_cases h1 : x = M.1.length + a ∧ y = k
  · rw [if_pos h1, if_pos (by omega), if_pos (by omega)]
  · rw [if_neg h1]
    by_cases h2 : M.1.length ≤ x ∧ x < M.1.length + X.1.length
    · rw [if_pos h2, if_pos h2, if_neg (by omega)]; rfl
    · rw [if_neg h2, if_neg h2]
theorem jn_no {ci : Nat} {K : Nat → Me → Option β} : no (jn M X) ci K = no X ci (fun o Y => K (M.1.length + o) (jn M Y)) := by
  unfold no; rw [jn_nw, jn_l]
theorem jn_na {kd n : Nat} {K : Nat → Me → Option β} : na (jn M X) kd n K = na X kd n (fun o Y => K (M.1.length + o) (jn M Y)) := by
  unfold na; rw [jn_nw, jn_l]
theorem jn_pi {a ci k : Nat} {v : Int32} {K : Me → Option β} : pi (jn M X) (M.1.length + a) ci k v K = pi X a ci k v (fun Y => K (jn M Y)) := by
  unfold pi; rw [jn_k]
  split
  · rw [jn_si (me_lt (by assumption))]
  · rfl
theorem jn_pr {a ci k o : Nat} {K : Me → Option β} : pr (jn M X) (M.1.length + a) ci k (M.1.length + o) K = pr X a ci k o (fun Y => K (jn M Y)) := by
  unfold pr; rw [jn_k]
  split
  · rw [jn_sr (me_lt (by assumption))]
  · rfl
theorem jn_gr {a ci k : Nat} {K : Nat → Option β} : gr (jn M X) (M.1.length + a) ci k K = gr X a ci k (fun o => K (M.1.length + o)) := by
  unfold gr; rw [jn_k]
  split
  · rw [jn_r (me_lt (by assumption))]
    cases me_r X a k <;> rfl
  · rfl
theorem jn_srr {a kd ci o : Nat} {i : Int32} {K : Me → Option β} : sr (jn M X) (M.1.length + a) kd ci i (M.1.length + o) K = sr X a kd ci i o (fun Y => K (jn M Y)) := by
  unfold sr ln; rw [jn_k, jn_k]
  cases hk : me_k X a with
  | none => rfl
  | some z => rw [jn_sr (me_lt hk)]
theorem jn_ck {a ci : Nat} {F : Option β} : ck (jn M X) (M.1.length + a) ci F = ck X a ci F := by
  unfold ck; rw [jn_k]
theorem jn_cM {x : Option Me} {K : Me → Option β} : cM (x.map (jn M)) K = cM x (fun Y => K (jn M Y)) := by
  cases x <;> rfl
theorem mp_no {ci : Nat} {K : Nat → Me → Option β} {f : β → γ} : (no X ci K).map f = no X ci (fun o Y => (K o Y).map f) := rfl
theorem mp_na {kd n : Nat} {K : Nat → Me → Option β} {f : β → γ} : (na X kd n K).map f = na X kd n (fun o Y => (K o Y).map f) := rfl
theorem mp_pi {a ci k : Nat} {v : Int32} {K : Me → Option β} {f : β → γ} : (pi X a ci k v K).map f = pi X a ci k v (fun Y => (K Y).map f) := by
  unfold pi; split <;> rfl
theorem mp_pr {a ci k o : Nat} {K : Me → Option β} {f : β → γ} : (pr X a ci k o K).map f = pr X a ci k o (fun Y => (K Y).map f) := by
  unfold pr; split <;> rfl
theorem mp_gr {a ci k : Nat} {K : Nat → Option β} {f : β → γ} : (gr X a ci k K).map f = gr X a ci k (fun o => (K o).map f) := by
  unfold gr; split
  · cases me_r X a k <;> rfl
  · rfl
theorem mp_sr {a kd ci o : Nat} {i : Int32} {K : Me → Option β} {f : β → γ} : (sr X a kd ci i o K).map f = sr X a kd ci i o (fun Y => (K Y).map f) := by
  unfold sr
  cases ln X a kd with
  | none => rfl
  | some n =>
    simp only [Option.bind_some]
    split <;> rfl
theorem mp_cM {x : Option Me} {K : Me → Option β} {f : β → γ} : (cM x K).map f = cM x (fun Y => (K Y).map f) := by
  cases x <;> rfl
theorem jn_X5 {a : Nat} : f_X5_init (M.1.length + a) (jn M X) = (f_X5_init a X).map (jn M) := by
  unfold f_X5_init b_X5_init
  simp only [jn_no, jn_na, jn_pi, jn_pr, jn_gr, jn_srr, jn_ck, mp_no, mp_na, mp_pi, mp_pr, mp_gr, mp_sr, Option.map_some]
theorem jn_X1 {a : Nat} : f_X1_init (M.1.length + a) (jn M X) = (f_X1_init a X).map (jn M) := rfl
theorem jn_X4 {a : Nat} : f_X4_init (M.1.length + a) (jn M X) = (f_X4_init a X).map (jn M) := rfl
theorem jn_X9 {a : Nat} : f_X9_init (M.1.length + a) (jn M X) = (f_X9_init a X).map (jn M) := by
  unfold f_X9_init b_X9_init
  simp only [jn_no, jn_na, jn_pi, jn_pr, jn_gr, jn_srr, jn_ck, mp_no, mp_na, mp_pi, mp_pr, mp_gr, mp_sr, Option.map_some]
theorem jn_X2 {a : Nat} : f_X2_init (M.1.length + a) (jn M X) = (f_X2_init a X).map (jn M) := by
  unfold f_X2_init b_X2_init
  simp only [jn_no, jn_na, jn_pi, jn_pr, jn_gr, jn_srr, jn_ck, mp_no, mp_na, mp_pi, mp_pr, mp_gr, mp_sr, Option.map_some, jn_X1, jn_cM, mp_cM]
theorem jn_X0 {a : Nat} : f_X0_init (M.1.length + a) (jn M X) = (f_X0_init a X).map (jn M) := by
  unfold f_X0_init b_X0_init
  simp only [jn_no, jn_na, jn_pi, jn_pr, jn_gr, jn_srr, jn_ck, mp_no, mp_na, mp_pi, mp_pr, mp_gr, mp_sr, Option.map_some, jn_X1, jn_X5, jn_X4, jn_X9, jn_X2, jn_cM, mp_cM]
end JN
noncomputable def M_c : Me := (f_X0_init 0 (me_nw M_e (0, 6))).getD M_e
theorem M_c_ok : f_X0_init 0 (me_nw M_e (0, 6)) = some M_c := by
  have h : (f_X0_init 0 (me_nw M_e (0, 6))).isSome = true := by decide +kernel
  unfold M_c
  cases h2 : f_X0_init 0 (me_nw M_e (0, 6)) with
  | none => rw [h2] at h; cases h
  | some z => rfl
theorem M_c_len : M_c.1.length = 28 := by decide +kernel
theorem e_new (M : Me) : f_X0_init M.1.length (me_nw M (0, 6)) = some (jn M M_c) := by
  have h := jn_X0 (M := M) (X := me_nw M_e (0, 6)) (a := 0)
  rw [M_c_ok, ← jn_nw] at h
  have e : jn M M_e = M := by
    unfold jn M_e
    refine Prod.ext ?_ (Prod.ext ?_ ?_)
    · show M.1 ++ [] = M.1
      simp
    · funext a k
      show (if M.1.length ≤ a ∧ a < M.1.length + 0 then _ else _) = _
      rw [if_neg (by omega)]; rfl
    · funext a k
      show (if M.1.length ≤ a ∧ a < M.1.length + 0 then _ else _) = _
      rw [if_neg (by omega)]; rfl
  rw [e] at h
  exact h
theorem new_CL (M : Me) : CL (jn M M_c) M.1.length ∧ CP (jn M M_c) M.1.length id ∧ me_i (jn M M_c) (M.1.length + 21) 0 = 0 := by
  have hk : ∀ a, me_k (jn M M_c) (M.1.length + a) = me_k M_c a := fun a => jn_k
  have hr : ∀ a k, a < 28 → me_r (jn M M_c) (M.1.length + a) k = (me_r M_c a k).map (fun o => M.1.length + o) := fun a k h => jn_r (by rw [M_c_len]; exact h)
  have hi : ∀ a k, a < 28 → me_i (jn M M_c) (M.1.length + a) k = me_i M_c a k := fun a k h => jn_i (by rw [M_c_len]; exact h)
  have hC : CL M_c 0 := by unfold CL; decide +kernel
  have hP : ∀ i, i < 12 → me_r M_c 5 i = some (6 + i) := by decide +kernel
  obtain ⟨⟨a1, a2, a3, a4, a5, a6⟩, ⟨b1, b2, b3⟩, ⟨c1, c2⟩, ⟨d1, d2, d3⟩, e1, ⟨f1, f2, f3, f4, f5⟩, g1, g2⟩ := hC
  have h0 : M.1.length = M.1.length + 0 := rfl
  refine ⟨⟨⟨?_, ?_, ?_, ?_, ?_, ?_⟩, ⟨?_, ?_, ?_⟩, ⟨?_, fun k hk2 => ?_⟩, ⟨?_, ?_, ?_⟩, fun k hk2 => ?_, ⟨?_, ?_, ?_, ?_, ?_⟩, ?_, fun k hk2 => ?_⟩, ⟨fun i hi => ⟨hi, ?_⟩, fun i j _ _ h => h⟩, ?_⟩
  · exact (hk 0).trans a1
  · exact (hr 0 0 (by omega)).trans (by rw [a2]; rfl)
  · exact (hr 0 1 (by omega)).trans (by rw [a3]; rfl)
  · exact (hr 0 2 (by omega)).trans (by rw [a4]; rfl)
  · exact (hr 0 3 (by omega)).trans (by rw [a5]; rfl)
  · exact (hr 0 4 (by omega)).trans (by rw [a6]; rfl)
  · exact (hk 1).trans b1
  · exact (hr 1 2 (by omega)).trans (by rw [show me_r M_c 1 2 = _ from b2]; rfl)
  · exact (hk 2).trans b3
  · exact (hk 3).trans c1
  · rw [hr 3 k (by omega), show me_r M_c 3 k = some (0 + 22 + k) from c2 k hk2]
    show some (M.1.length + (0 + 22 + k)) = _
    congr 1; omega
  · exact (hk 4).trans d1
  · exact (hr 4 1 (by omega)).trans (by rw [show me_r M_c 4 1 = _ from d2]; rfl)
  · exact (hk 5).trans d3
  · rw [Nat.add_assoc, hk]
    have := e1 k hk2
    rw [Nat.zero_add] at this
    exact this
  · exact (hk 18).trans f1
  · exact (hr 18 1 (by omega)).trans (by rw [show me_r M_c 18 1 = _ from f2]; rfl)
  · exact (hr 18 2 (by omega)).trans (by rw [show me_r M_c 18 2 = _ from f3]; rfl)
  · exact (hk 19).trans f4
  · exact (hk 20).trans f5
  · exact (hk 21).trans g1
  · rw [Nat.add_assoc, hk]
    have := g2 k hk2
    rw [Nat.zero_add] at this
    exact this
  · rw [hr 5 i (by omega), hP i hi]
    show some (M.1.length + (6 + i)) = some (M.1.length + 6 + i)
    congr 1; omega
  · rw [hi 21 0 (by omega)]; decide +kernel

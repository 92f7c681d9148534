/-- a court is kept as image j -/
theorem image_of {n : Nat} {N : Me} {j L : Nat} {d : Option Nat} {πb : Nat → Nat} (hj : j < 2) (hL : Lay N) (hlen : 91 ≤ N.1.length) (hC : Cou n N 3 (st_m N)) (hJ : ∃ π, CP N 33 π) (hP : PadR N)
    (hB : CL N L) (pB : CP N L πb) (h0 : me_i N (L + 21) 0 = 0) (hl1 : 91 ≤ L) (hl2 : L + 28 ≤ N.1.length)
    (r1 : me_r N 31 j = some L) (r2 : me_r N 31 (1 - j) = d) (v2 : me_i N 90 (1 - j) = if d = none then 0 else 1)
    (hd : ∀ c, d = some c → 91 ≤ c ∧ c + 28 ≤ N.1.length ∧ Cou n N c (st_i N (1 - j)) ∧ (c + 28 ≤ L ∨ L + 28 ≤ c)) :
    ∃ N1 N2, f_X0_copy L 3 N = some N1 ∧ f_X12_image 70 (nI j) N1 = some (1, N2) ∧ Iv (n + 1) N2 := by
  obtain ⟨hCL, π, hCP, c, y, t, D, nd, sg, hV, hR⟩ := id hC
  obtain ⟨g, e1, f1, f2, f3⟩ := e_copy hB hCL pB hCP (by omega) hR.pn hV.1.2.2.2.2.1.1 hV.nd hV.1.2.2.2.2.2.2
  obtain ⟨g2, e2, f4, f5, f6⟩ := e_image (M := me_w N g) (j := j) (la_w hL) hj
  rw [w_w] at e2
  simp only [i_w] at f4
  have hlow : ∀ x y, x < 89 → g2 x y = me_i N x y := fun x y _ => by rw [f4 _ _ (by omega) (by omega), f1 _ _ (by omega)]
  refine ⟨_, _, e1, e2, hL, hlen, ?_, hJ, ?_, if j = 0 then some L else d, if j = 0 then d else some L, fun k hk => ?_, fun k hk => ?_, fun k c2 hk hc => ?_, fun a b ha hb => ?_⟩
  · exact hC.later.ag (fun _ _ _ => rfl) (fun _ _ _ _ => rfl) (fun a k h1 h2 => hlow a k (by omega)) ⟨fun k _ => hlow _ _ (by omega), fun k _ => hlow _ _ (by omega), fun k _ => ⟨hlow _ _ (by omega), hlow _ _ (by omega), hlow _ _ (by omega), hlow _ _ (by omega), hlow _ _ (by omega), hlow _ _ (by omega)⟩, fun k _ => hlow _ _ (by omega), fun k _ => hlow _ _ (by omega)⟩
  · exact hP.same (hlow _ _ (by omega)) (fun k => hlow _ _ (by omega)) (hlow _ _ (by omega)) (fun k => hlow _ _ (by omega))
  · show me_r N 31 k = _
    match j, hj, k, hk with
    | 0, _, 0, _ => exact r1
    | 0, _, 1, _ => exact r2
    | 1, _, 0, _ => exact r2
    | 1, _, 1, _ => exact r1
  · show g2 90 k = _
    by_cases hkj : k = j
    · subst hkj
      rw [f5]
      match k, hk with
      | 0, _ => rfl
      | 1, _ => rfl
    · obtain rfl : k = 1 - j := by omega
      rw [f4 _ _ (by omega) (by omega), f1 _ _ (by omega), v2]
      match j, hj with
      | 0, _ => rfl
      | 1, _ => rfl
  · have hl : (me_w N g2).1.length = N.1.length := rfl
    rw [hl]
    by_cases hkj : k = j
    · subst hkj
      have e : c2 = L := by
        match k, hk, hc with
        | 0, _, hc => exact (Option.some.inj hc).symm
        | 1, _, hc => exact (Option.some.inj hc).symm
      subst e
      refine ⟨hl1, hl2, ?_⟩
      have hag : Ag (st_i (me_w N g2) k) (st_m N) := by
        have e : st_m (me_w N g) = fun a k => g a k := rfl
        obtain ⟨q1, q2, q3, q4, q5⟩ := f6
        have gl : ∀ x y, x < 89 → g x y = me_i N x y := fun x y _ => f1 _ _ (by omega)
        refine ⟨fun k hk => (q1 k hk).trans (gl _ _ (by omega)), fun k hk => (q2 k hk).trans (gl _ _ (by omega)), fun k hk => ?_, fun k hk => (q4 k hk).trans (gl _ _ (by omega)), fun k hk => (q5 k hk).trans (gl _ _ (by omega))⟩
        obtain ⟨p1, p2, p3, p4, p5, p6⟩ := q3 k hk
        exact ⟨p1.trans (gl _ _ (by omega)), p2.trans (gl _ _ (by omega)), p3.trans (gl _ _ (by omega)), p4.trans (gl _ _ (by omega)), p5.trans (gl _ _ (by omega)), p6.trans (gl _ _ (by omega))⟩
      have hh : Cou (n + 1) (me_w N g) c2 (st_m N) := ⟨hB, πb, pB, c, y, t, D, nd, sg, hV.later, f3.rep (by show g (c2 + 21) 0 = 0; rw [f2]; exact h0)⟩
      exact hh.ag (fun _ _ _ => rfl) (fun _ _ _ _ => rfl) (fun a k h1 h2 => f4 _ _ (by omega) (by omega)) hag
    · obtain rfl : k = 1 - j := by omega
      have e : d = some c2 := by
        match j, hj, hc with
        | 0, _, hc => exact hc
        | 1, _, hc => exact hc
      obtain ⟨q1, q2, q3, q4⟩ := hd c2 e
      refine ⟨q1, q2, ?_⟩
      have gi : ∀ y, 150 * (1 - j) ≤ y → y < 150 * (1 - j) + 127 → g2 89 y = me_i N 89 y := fun y _ _ => by rw [f4 _ _ (by omega) (by omega), f1 _ _ (by omega)]
      have hag : Ag (st_i (me_w N g2) (1 - j)) (st_i N (1 - j)) := by
        refine ⟨fun k _ => ?_, fun k hk => ?_, fun k hk => ?_, fun k hk => ?_, fun k hk => ?_⟩
        · exact gi _ (by omega) (by have := im_70 k; omega)
        · exact gi _ (by omega) (by have : im_o 71 k = k := rfl; omega)
        · have p1 : im_o 72 k = 25 + k := rfl
          have p2 : im_o 73 k = 31 + k := rfl
          have p3 : im_o 75 k = 37 + k := rfl
          have p4 : im_o 76 k = 43 + k := rfl
          have p5 : im_o 77 k = 49 + k := rfl
          have p6 : im_o 78 k = 55 + k := rfl
          exact ⟨gi _ (by omega) (by omega), gi _ (by omega) (by omega), gi _ (by omega) (by omega), gi _ (by omega) (by omega), gi _ (by omega) (by omega), gi _ (by omega) (by omega)⟩
        · exact gi _ (by omega) (by have : im_o 79 k = 61 + k := rfl; omega)
        · exact gi _ (by omega) (by have : im_o 74 k = 109 + k := rfl; omega)
      exact q3.later.ag (fun _ _ _ => rfl) (fun _ _ _ _ => rfl) (fun a k h1 h2 => (f4 _ _ (by omega) (by omega)).trans (f1 _ _ (by omega))) hag
  · match j, hj, ha, hb with
    | 0, _, ha, hb =>
      obtain rfl := Option.some.inj ha
      have := (hd b hb).2.2.2
      omega
    | 1, _, ha, hb =>
      obtain rfl := Option.some.inj hb
      have := (hd a ha).2.2.2
      omega
/-- image -/
theorem iv_op27 : ∀ n M, n < 512 → Iv n M → op_27 (Iv (n + 1)) M := by
  intro n M hn h x1
  obtain ⟨hL, hlen, hC, hJ, hP, c0, c1, i1, i2, i3, i4⟩ := id h
  by_cases hx : in_v x1 0 1 = 0
  · refine ⟨-2, M, M, ?_, ?_, h.next hn⟩
    · unfold f_X11_image b_X11_image
      rw [ck_e (lk_0 hL), cP_e (e_isWithin _ _ _ _), if_pos hx]
    · unfold f_X12_image b_X12_image
      rw [ck_e (lk_70 hL), cP_e (e_in _ _ _ _), if_pos hx]
  have hx2 := hx
  rw [c_0, c_1] at hx2
  obtain ⟨j, -, hj, rfl⟩ := in_yes (by decide) (by decide) hx2
  have r31 := i1 j (by omega)
  have r31b := i1 (1 - j) (by omega)
  have v90 := i2 (1 - j) (by omega)
  cases hcj : (if j = 0 then c0 else c1) with
  | none =>
    rw [hcj] at r31
    obtain ⟨nC, nP, n0⟩ := new_CL M
    have hl : (me_sr (jn M M_c) 31 j (some M.1.length)).1.length = M.1.length + 28 := by
      show (jn M M_c).1.length = _
      rw [jn_l, M_c_len]
    have kr : ∀ a k, a < M.1.length → a ≠ 31 → me_r (me_sr (jn M M_c) 31 j (some M.1.length)) a k = me_r M a k := by
      intro a k h1 h2
      rw [r_sr, if_neg (by omega), jn_r0 h1]
    have kr2 : me_r (me_sr (jn M M_c) 31 j (some M.1.length)) 31 (1 - j) = me_r M 31 (1 - j) := by
      rw [r_sr, if_neg (by omega), jn_r0 (by omega)]
    have ki : ∀ a k, a < M.1.length → me_i (me_sr (jn M M_c) 31 j (some M.1.length)) a k = me_i M a k := fun a k h1 => by rw [i_sr, jn_i0 h1]
    have kk : ∀ a, a < M.1.length → me_k (me_sr (jn M M_c) 31 j (some M.1.length)) a = me_k M a := fun a h1 => by rw [k_sr, jn_k0 h1]
    have hLN : Lay (me_sr (jn M M_c) 31 j (some M.1.length)) := ⟨fun a ha => by rw [kk a (by omega)]; exact hL.1 a ha, fun a ha q1 q2 q3 k => by rw [kr a k (by omega) q3]; exact hL.2 a ha q1 q2 q3 k⟩
    have hLj : Lay (jn M M_c) := ⟨fun a ha => by rw [jn_k0 (by omega)]; exact hL.1 a ha, fun a ha q1 q2 q3 k => by rw [jn_r0 (by omega)]; exact hL.2 a ha q1 q2 q3 k⟩
    have nC2 : CL (me_sr (jn M M_c) 31 j (some M.1.length)) M.1.length := nC.same (fun _ _ _ => rfl) (fun a k q1 q2 _ => by rw [r_sr, if_neg (by omega)])
    have nP2 : CP (me_sr (jn M M_c) 31 j (some M.1.length)) M.1.length id := nP.same (fun k => by rw [r_sr, if_neg (by omega)])
    obtain ⟨N1, N2, e1, e2, hIv⟩ := image_of (n := n) (N := me_sr (jn M M_c) 31 j (some M.1.length)) (j := j) (L := M.1.length) (d := me_r M 31 (1 - j)) (πb := id) (by omega) hLN (by omega)
      (hC.ag (fun a _ _ => kk a (by omega)) (fun a k _ _ => kr a k (by omega) (by omega)) (fun a k _ _ => ki a k (by omega)) ⟨fun k _ => ki _ _ (by omega), fun k _ => ki _ _ (by omega), fun k _ => ⟨ki _ _ (by omega), ki _ _ (by omega), ki _ _ (by omega), ki _ _ (by omega), ki _ _ (by omega), ki _ _ (by omega)⟩, fun k _ => ki _ _ (by omega), fun k _ => ki _ _ (by omega)⟩)
      (by obtain ⟨π2, q⟩ := hJ; exact ⟨π2, q.same (fun k => kr _ _ (by omega) (by omega))⟩)
      (hP.same (ki _ _ (by omega)) (fun k => ki _ _ (by omega)) (ki _ _ (by omega)) (fun k => ki _ _ (by omega)))
      nC2 nP2 n0 (by omega) (by omega) (by rw [r_sr, if_pos ⟨rfl, rfl⟩]) kr2 (by rw [ki _ _ (by omega), v90, r31b])
      (fun c hc => by
        rw [r31b] at hc
        obtain ⟨q1, q2, q3⟩ := i3 (1 - j) c (by omega) hc
        refine ⟨q1, by omega, ?_, Or.inl q2⟩
        exact q3.ag (fun a _ _ => kk a (by omega)) (fun a k _ _ => kr a k (by omega) (by omega)) (fun a k _ _ => ki a k (by omega)) ⟨fun k _ => ki _ _ (by omega), fun k _ => ki _ _ (by omega), fun k _ => ⟨ki _ _ (by omega), ki _ _ (by omega), ki _ _ (by omega), ki _ _ (by omega), ki _ _ (by omega), ki _ _ (by omega)⟩, fun k _ => ki _ _ (by omega), fun k _ => ki _ _ (by omega)⟩)
    refine ⟨1, N1, N2, ?_, e2, hIv⟩
    unfold f_X11_image b_X11_image
    rw [ck_e (lk_0 hL), cP_e (e_isWithin _ _ _ _), if_neg hx, gr_e (lk_0 hL) (lr_0_2 hL), lo_e2 (lk_31 hL) (by omega) (by decide), r31, if_pos rfl, gr_e (lk_0 hL) (lr_0_2 hL)]
    simp only [no]
    rw [show nf_c 0 = 6 from rfl, cM_e (e_new M), sr_e (lk_31 hLj) (by omega) (by decide) nC.1.1]
    simp only [Option.bind_some]
    rw [gr_e (lk_0 hLN) (lr_0_2 hLN), lr_e (lk_31 hLN) (by omega) (by decide) (show me_r (me_sr (jn M M_c) 31 j (some M.1.length)) 31 j = some M.1.length by rw [r_sr, if_pos ⟨rfl, rfl⟩]), gr_e (lk_0 hLN) (lr_0_1 hLN), cM_e e1]
  | some cj =>
    have q0 := i3 j cj (by omega) hcj
    rw [hcj] at r31
    obtain ⟨k1, k2, hB, πb, pB, c', y', t', D', nd', sg', hV', hR'⟩ := id q0
    obtain ⟨N1, N2, e1, e2, hIv⟩ := image_of (n := n) (N := M) (j := j) (L := cj) (d := me_r M 31 (1 - j)) (πb := πb) (by omega) hL hlen hC hJ hP hB pB hR'.2.2.1 k1 k2 r31 rfl (by rw [v90, r31b])
      (fun c hc => by
        rw [r31b] at hc
        obtain ⟨q1, q2, q3⟩ := i3 (1 - j) c (by omega) hc
        refine ⟨q1, q2, q3, ?_⟩
        match j, hj, hcj, hc with
        | 0, _, hcj, hc => have := i4 cj c hcj hc; omega
        | 1, _, hcj, hc => have := i4 c cj hc hcj; omega)
    refine ⟨1, N1, N2, ?_, e2, hIv⟩
    unfold f_X11_image b_X11_image
    rw [ck_e (lk_0 hL), cP_e (e_isWithin _ _ _ _), if_neg hx, gr_e (lk_0 hL) (lr_0_2 hL), lo_e2 (lk_31 hL) (by omega) (by decide), r31, if_neg (by simp)]
    simp only [Option.bind_some]
    rw [gr_e (lk_0 hL) (lr_0_2 hL), lr_e (lk_31 hL) (by omega) (by decide) r31, gr_e (lk_0 hL) (lr_0_1 hL), cM_e e1]

/-! JOURNEYS: the first day in each chapel. R: roads (5 a + b), y: the year, c: chapels; 10^9: never -/
def ar (y d r : Nat) : Nat := if d % y < 90 then (if 90 < y then min (d + 2 * r) (d - d % y + 90 + r) else d + 2 * r) else d + r
theorem mod_s {d y : Nat} (hy : 10 ≤ y) : (d % y + 1 < y ∧ (d + 1) % y = d % y + 1) ∨ (d % y + 1 = y ∧ (d + 1) % y = 0) := by
  have h := Nat.mod_lt d (show 0 < y by omega)
  have e : (d + 1) % y = (d % y + 1) % y := by rw [Nat.add_mod, Nat.mod_eq_of_lt (show 1 < y by omega)]
  by_cases q : d % y + 1 < y
  · left; exact ⟨q, by rw [e, Nat.mod_eq_of_lt q]⟩
  · right
    have q2 : d % y + 1 = y := by omega
    exact ⟨q2, by rw [e, q2, Nat.mod_self]⟩
theorem ar_s {y d r : Nat} (hy : 10 ≤ y) : ar y d r ≤ ar y (d + 1) r := by
  have h1 := Nat.mod_le d y
  have h2 := Nat.mod_le (d + 1) y
  unfold ar
  rcases mod_s (d := d) hy with ⟨q1, q2⟩ | ⟨q1, q2⟩
  · rw [q2]
    by_cases a : d % y < 90
    · rw [if_pos a]
      by_cases b : d % y + 1 < 90
      · rw [if_pos b]
        by_cases c : 90 < y
        · rw [if_pos c, if_pos c]; omega
        · rw [if_neg c, if_neg c]; omega
      · rw [if_neg b, if_pos (by omega)]; omega
    · rw [if_neg a, if_neg (by omega)]; omega
  · rw [q2, if_pos (show 0 < 90 by omega)]
    by_cases a : d % y < 90
    · rw [if_pos a, if_neg (by omega), if_neg (by omega)]; omega
    · rw [if_neg a, if_pos (by omega)]; omega
theorem ar_mono {y r d e : Nat} (hy : 10 ≤ y) (h : d ≤ e) : ar y d r ≤ ar y e r := by
  obtain ⟨k, rfl⟩ : ∃ k, e = d + k := ⟨e - d, by omega⟩
  clear h
  induction k with
  | zero => exact Nat.le_refl _
  | succ k ih => exact Nat.le_trans ih (ar_s hy)
theorem ar_gt {y d r : Nat} (hr : 0 < r) : d < ar y d r := by
  have h1 := Nat.mod_le d y
  unfold ar
  split
  · split <;> omega
  · omega
theorem ar_le {y d r : Nat} : ar y d r ≤ d + 2 * r := by
  unfold ar
  split
  · split <;> omega
  · omega
def INF : Nat := 1000000000
/-- one road -/
def rx (R : Nat → Nat) (y u v : Nat) (f : Nat → Nat) : Nat → Nat := fun x => if x = v then (if R (5 * u + v) = 0 ∨ INF ≤ f u then f v else min (f v) (ar y (f u) (R (5 * u + v)))) else f x
def rw_ (R : Nat → Nat) (y u : Nat) (f : Nat → Nat) : Nat → Nat → Nat
  | 0 => f
  | v + 1 => rx R y u v (rw_ R y u f v)
def pf (R : Nat → Nat) (y c : Nat) (f : Nat → Nat) : Nat → Nat → Nat
  | 0 => f
  | u + 1 => rw_ R y u (pf R y c f u) c
def itp (R : Nat → Nat) (y c : Nat) (f : Nat → Nat) : Nat → Nat → Nat
  | 0 => f
  | p + 1 => pf R y c (itp R y c f p) c
def f_0 (st s : Nat) : Nat → Nat := fun v => if v = st then s else INF
section JP
variable {R : Nat → Nat} {y c : Nat}
theorem rx_at {u v : Nat} {f : Nat → Nat} : rx R y u v f v = if R (5 * u + v) = 0 ∨ INF ≤ f u then f v else min (f v) (ar y (f u) (R (5 * u + v))) := if_pos rfl
theorem rx_ne {u v x : Nat} {f : Nat → Nat} (h : x ≠ v) : rx R y u v f x = f x := if_neg h
theorem rx_le {u v x : Nat} {f : Nat → Nat} : rx R y u v f x ≤ f x := by
  by_cases h : x = v
  · subst h
    rw [rx_at]
    split <;> omega
  · rw [rx_ne h]; exact Nat.le_refl _
theorem rx_id {u v : Nat} {f : Nat → Nat} (h : rx R y u v f v = f v) : rx R y u v f = f := by
  funext x
  by_cases q : x = v
  · rw [q]; exact h
  · exact rx_ne q
theorem rw_le {u : Nat} {f : Nat → Nat} {x : Nat} : ∀ j, rw_ R y u f j x ≤ f x := by
  intro j
  induction j with
  | zero => exact Nat.le_refl _
  | succ j ih => exact Nat.le_trans rx_le ih
theorem rw_mono {u : Nat} {f : Nat → Nat} {x i : Nat} : ∀ j, i ≤ j → rw_ R y u f j x ≤ rw_ R y u f i x := by
  intro j
  induction j with
  | zero => intro h; rw [show i = 0 by omega]; exact Nat.le_refl _
  | succ j ih =>
    intro h
    by_cases q : i = j + 1
    · rw [q]; exact Nat.le_refl _
    · exact Nat.le_trans rx_le (ih (by omega))
theorem pf_le {f : Nat → Nat} {x : Nat} : ∀ u, pf R y c f u x ≤ f x := by
  intro u
  induction u with
  | zero => exact Nat.le_refl _
  | succ u ih => exact Nat.le_trans (rw_le c) ih
theorem pf_mono {f : Nat → Nat} {x i : Nat} : ∀ u, i ≤ u → pf R y c f u x ≤ pf R y c f i x := by
  intro u
  induction u with
  | zero => intro h; rw [show i = 0 by omega]; exact Nat.le_refl _
  | succ u ih =>
    intro h
    by_cases q : i = u + 1
    · rw [q]; exact Nat.le_refl _
    · exact Nat.le_trans (rw_le c) (ih (by omega))
theorem it_le {f : Nat → Nat} {x : Nat} (p : Nat) : itp R y c f (p + 1) x ≤ itp R y c f p x := pf_le c
theorem it_mono {f : Nat → Nat} {x i : Nat} : ∀ p, i ≤ p → itp R y c f p x ≤ itp R y c f i x := by
  intro p
  induction p with
  | zero => intro h; rw [show i = 0 by omega]; exact Nat.le_refl _
  | succ p ih =>
    intro h
    by_cases q : i = p + 1
    · rw [q]; exact Nat.le_refl _
    · exact Nat.le_trans (it_le p) (ih (by omega))
/-- a pass goes along each road -/
theorem rw_road {u v : Nat} {f : Nat → Nat} (hy : 10 ≤ y) (hv : v < c) (hr : 0 < R (5 * u + v)) (hu : f u < INF) : rw_ R y u f c v ≤ ar y (f u) (R (5 * u + v)) := by
  refine Nat.le_trans (rw_mono (i := v + 1) c (by omega)) ?_
  show rx R y u v (rw_ R y u f v) v ≤ _
  have hl := rw_le (R := R) (y := y) (u := u) (f := f) (x := u) v
  rw [rx_at, if_neg (by omega)]
  exact Nat.le_trans (Nat.min_le_right _ _) (ar_mono hy hl)
theorem pf_road {u v : Nat} {f : Nat → Nat} (hy : 10 ≤ y) (hu : u < c) (hv : v < c) (hr : 0 < R (5 * u + v)) (hf : f u < INF) : pf R y c f c v ≤ ar y (f u) (R (5 * u + v)) := by
  refine Nat.le_trans (pf_mono (i := u + 1) c (by omega)) ?_
  have hl := pf_le (R := R) (y := y) (c := c) (f := f) (x := u) u
  exact Nat.le_trans (rw_road hy hv hr (by omega)) (ar_mono hy hl)
/-- what holds of each array on the way -/
def JT (R : Nat → Nat) (y c st s : Nat) (f : Nat → Nat) : Prop := f st = s ∧ (∀ v, f v ≤ INF ∧ s ≤ f v) ∧ ∀ v, v < c → v ≠ st → f v < INF → ∃ u, u < c ∧ f u < INF ∧ 0 < R (5 * u + v) ∧ ar y (f u) (R (5 * u + v)) ≤ f v
theorem jt_rx {st s u v : Nat} {f : Nat → Nat} (hy : 10 ≤ y) (h : JT R y c st s f) (hu : u < c) : JT R y c st s (rx R y u v f) := by
  obtain ⟨h1, h2, h3⟩ := id h
  by_cases q : R (5 * u + v) = 0 ∨ INF ≤ f u
  · rw [rx_id (by rw [rx_at, if_pos q])]; exact h
  · have hr : 0 < R (5 * u + v) := by omega
    have hfu : f u < INF := by omega
    have g := ar_gt (y := y) (d := f u) hr
    have su := (h2 u).2
    have ev : rx R y u v f v = min (f v) (ar y (f u) (R (5 * u + v))) := by rw [rx_at, if_neg q]
    refine ⟨?_, fun x => ⟨Nat.le_trans rx_le (h2 x).1, ?_⟩, fun x hx hst hf => ?_⟩
    · by_cases z : st = v
      · subst z; rw [ev, h1]; omega
      · rw [rx_ne z]; exact h1
    · by_cases z : x = v
      · subst z
        rw [ev]
        have := (h2 x).2
        omega
      · rw [rx_ne z]; exact (h2 x).2
    · have old : f x < INF → rx R y u v f x = f x → ∃ u0, u0 < c ∧ rx R y u v f u0 < INF ∧ 0 < R (5 * u0 + x) ∧ ar y (rx R y u v f u0) (R (5 * u0 + x)) ≤ rx R y u v f x := by
        intro a b
        obtain ⟨u0, a1, a2, a3, a4⟩ := h3 x hx hst a
        have hl : rx R y u v f u0 ≤ f u0 := rx_le
        exact ⟨u0, a1, by omega, a3, by rw [b]; exact Nat.le_trans (ar_mono hy hl) a4⟩
      by_cases z : x = v
      · subst z
        by_cases w : f x ≤ ar y (f u) (R (5 * u + x))
        · have e : rx R y u x f x = f x := by rw [ev, Nat.min_eq_left w]
          exact old (by rw [e] at hf; exact hf) e
        · have hl : rx R y u x f u ≤ f u := rx_le
          refine ⟨u, hu, by omega, hr, ?_⟩
          rw [ev]
          have := ar_mono (r := R (5 * u + x)) hy hl
          omega
      · have e : rx R y u v f x = f x := rx_ne z
        exact old (by rw [e] at hf; exact hf) e
theorem jt_rw {st s u : Nat} {f : Nat → Nat} (hy : 10 ≤ y) (h : JT R y c st s f) (hu : u < c) : ∀ j, JT R y c st s (rw_ R y u f j) := by
  intro j
  induction j with
  | zero => exact h
  | succ j ih => exact jt_rx hy ih hu
theorem jt_pf {st s : Nat} {f : Nat → Nat} (hy : 10 ≤ y) (h : JT R y c st s f) : ∀ u, u ≤ c → JT R y c st s (pf R y c f u) := by
  intro u
  induction u with
  | zero => intro _; exact h
  | succ u ih => intro hu; exact jt_rw hy (ih (by omega)) (by omega) c
theorem jt_it {st s : Nat} (hy : 10 ≤ y) (hs : s < INF) : ∀ p, JT R y c st s (itp R y c (f_0 st s) p) := by
  intro p
  induction p with
  | zero =>
    refine ⟨if_pos rfl, fun v => ?_, fun v _ hv hf => ?_⟩
    · show (if v = st then s else INF) ≤ INF ∧ s ≤ (if v = st then s else INF)
      split <;> omega
    · have e : itp R y c (f_0 st s) 0 v = INF := if_neg hv
      omega
  | succ p ih => exact jt_pf hy ih c (Nat.le_refl _)
/-- outside nothing changes -/
theorem rw_out {u x : Nat} {f : Nat → Nat} : ∀ j, j ≤ x → rw_ R y u f j x = f x := by
  intro j
  induction j with
  | zero => intro _; rfl
  | succ j ih => intro h; show rx R y u j (rw_ R y u f j) x = f x; rw [rx_ne (by omega)]; exact ih (by omega)
theorem pf_out {x : Nat} {f : Nat → Nat} (hx : c ≤ x) : ∀ u, pf R y c f u x = f x := by
  intro u
  induction u with
  | zero => rfl
  | succ u ih => show rw_ R y u (pf R y c f u) c x = f x; rw [rw_out c hx]; exact ih
theorem it_out {x : Nat} {f : Nat → Nat} (hx : c ≤ x) : ∀ p, itp R y c f p x = f x := by
  intro p
  induction p with
  | zero => rfl
  | succ p ih => show pf R y c (itp R y c f p) c x = f x; rw [pf_out hx]; exact ih
theorem sN_lt {a b : Nat → Nat} {j : Nat} : ∀ n, (∀ k, k < n → a k ≤ b k) → j < n → a j < b j → sN a n < sN b n := by
  intro n
  induction n with
  | zero => intro _ h; omega
  | succ n ih =>
    intro h hj hl
    rw [sN_s, sN_s]
    have := h n (by omega)
    by_cases q : j = n
    · subst q
      have := sN_le (g := a) (h := b) j (fun k hk => h k (by omega))
      omega
    · have := ih (fun k hk => h k (by omega)) (by omega) hl
      omega
theorem sN_sub {g : Nat → Nat} : ∀ n i, i ≤ n → sN g i ≤ sN g n := by
  intro n
  induction n with
  | zero => intro i h; rw [show i = 0 by omega]; exact Nat.le_refl _
  | succ n ih =>
    intro i h
    by_cases q : i = n + 1
    · rw [q]; exact Nat.le_refl _
    · have := ih i (by omega)
      rw [sN_s]; omega
/-- it comes to rest -/
theorem it_rest {f : Nat → Nat} : ∀ m p, sN (itp R y c f p) c ≤ m → ∃ N, itp R y c f (N + 1) = itp R y c f N := by
  intro m
  induction m with
  | zero =>
    intro p h
    refine ⟨p, funext fun x => ?_⟩
    by_cases hx : x < c
    · have z : ∀ n, n ≤ c → sN (itp R y c f p) n = 0 := by
        intro n hn
        have := sN_sub (g := itp R y c f p) c n hn
        omega
      have z1 := z (x + 1) (by omega)
      rw [sN_s] at z1
      have := it_le (R := R) (y := y) (c := c) (f := f) (x := x) p
      omega
    · rw [it_out (by omega), it_out (by omega)]
  | succ m ih =>
    intro p h
    by_cases q : itp R y c f (p + 1) = itp R y c f p
    · exact ⟨p, q⟩
    · have hex : ∃ x, ¬ itp R y c f (p + 1) x = itp R y c f p x := Classical.not_forall.mp (fun z => q (funext z))
      obtain ⟨x, hx⟩ := hex
      have hxc : x < c := by
        apply Classical.byContradiction
        intro z
        exact hx (by rw [it_out (by omega), it_out (by omega)])
      have hl := it_le (R := R) (y := y) (c := c) (f := f) (x := x) p
      have := sN_lt (a := itp R y c f (p + 1)) (b := itp R y c f p) (j := x) c (fun k _ => it_le p) hxc (by omega)
      exact ih (p + 1) (by omega)
theorem it_stay {f : Nat → Nat} {N : Nat} (h : itp R y c f (N + 1) = itp R y c f N) : ∀ k, itp R y c f (N + k) = itp R y c f N := by
  intro k
  induction k with
  | zero => rfl
  | succ k ih =>
    show pf R y c (itp R y c f (N + k)) c = _
    rw [ih]; exact h
/-- as many passes as there are other chapels -/
theorem it_enough {st s : Nat} (hy : 10 ≤ y) (hs : s < INF) (hst : st < c) : itp R y c (f_0 st s) c = itp R y c (f_0 st s) (c - 1) := by
  obtain ⟨N, hN⟩ := it_rest (R := R) (y := y) (c := c) (f := f_0 st s) (sN (itp R y c (f_0 st s) 0) c) 0 (Nat.le_refl _)
  have hg : ∀ p x, itp R y c (f_0 st s) N x ≤ itp R y c (f_0 st s) p x := by
    intro p x
    by_cases q : p ≤ N
    · exact it_mono N q
    · have e := it_stay hN (p - N)
      rw [show N + (p - N) = p by omega] at e
      rw [e]; exact Nat.le_refl _
  have hJ := jt_it (R := R) (y := y) (c := c) (st := st) (s := s) hy hs
  have key : ∀ p, sN (fun v => if itp R y c (f_0 st s) p v = itp R y c (f_0 st s) N v then 0 else 1) c = 0 ∨ sN (fun v => if itp R y c (f_0 st s) p v = itp R y c (f_0 st s) N v then 0 else 1) c + p + 1 ≤ c := by
    intro p
    induction p with
    | zero =>
      right
      have e1 : ∀ n, sN (fun _ => 1) n = n := by
        intro n
        induction n with
        | zero => rfl
        | succ n ih => rw [sN_s, ih]
      have := sN_lt (a := fun v => if itp R y c (f_0 st s) 0 v = itp R y c (f_0 st s) N v then 0 else 1) (b := fun _ => 1) (j := st) c (fun k _ => by split <;> omega) hst (by
        rw [if_pos (by rw [(hJ 0).1, (hJ N).1])]; omega)
      rw [e1] at this
      omega
    | succ p ih =>
      by_cases hb : ∃ v, v < c ∧ ¬ itp R y c (f_0 st s) p v = itp R y c (f_0 st s) N v
      · -- the first of them that is not yet right becomes so
        have hm : ∃ k v, (v < c ∧ ¬ itp R y c (f_0 st s) p v = itp R y c (f_0 st s) N v) ∧ itp R y c (f_0 st s) N v = k := by
          obtain ⟨v, hv⟩ := hb
          exact ⟨_, v, hv, rfl⟩
        obtain ⟨k, ⟨v, ⟨hv1, hv2⟩, hk⟩, hmin⟩ := pk_least _ hm
        have hlt : itp R y c (f_0 st s) N v < itp R y c (f_0 st s) p v := by
          have := hg p v
          omega
        have hvs : v ≠ st := fun z => hv2 (by rw [z, (hJ p).1, (hJ N).1])
        have hfin : itp R y c (f_0 st s) N v < INF := Nat.lt_of_lt_of_le hlt ((hJ p).2.1 v).1
        obtain ⟨u, u1, u2, u3, u4⟩ := (hJ N).2.2 v hv1 hvs hfin
        have hlu : itp R y c (f_0 st s) N u < itp R y c (f_0 st s) N v := Nat.lt_of_lt_of_le (ar_gt u3) u4
        have hu : itp R y c (f_0 st s) p u = itp R y c (f_0 st s) N u := by
          apply Classical.byContradiction
          intro z
          exact hmin _ (by omega) ⟨u, ⟨u1, z⟩, rfl⟩
        have hnew : itp R y c (f_0 st s) (p + 1) v = itp R y c (f_0 st s) N v := by
          have h1 := pf_road (R := R) (f := itp R y c (f_0 st s) p) hy u1 hv1 u3 (by rw [hu]; exact u2)
          have h2 : itp R y c (f_0 st s) (p + 1) v ≤ ar y (itp R y c (f_0 st s) p u) (R (5 * u + v)) := h1
          rw [hu] at h2
          have h3 := hg (p + 1) v
          omega
        have hd : sN (fun v => if itp R y c (f_0 st s) (p + 1) v = itp R y c (f_0 st s) N v then 0 else 1) c < sN (fun v => if itp R y c (f_0 st s) p v = itp R y c (f_0 st s) N v then 0 else 1) c := by
          refine sN_lt (j := v) c (fun k _ => ?_) hv1 ?_
          · by_cases z : itp R y c (f_0 st s) p k = itp R y c (f_0 st s) N k
            · rw [if_pos z, if_pos]
              · exact Nat.le_refl _
              · have h3 := hg (p + 1) k
                have h4 := it_le (R := R) (y := y) (c := c) (f := f_0 st s) (x := k) p
                omega
            · rw [if_neg z]; split <;> omega
          · rw [if_pos hnew, if_neg hv2]; omega
        rcases ih with ih | ih
        · omega
        · right; omega
      · left
        apply sN_zero
        intro k hk
        have z : itp R y c (f_0 st s) p k = itp R y c (f_0 st s) N k := Classical.not_not.mp (fun y => hb ⟨k, hk, y⟩)
        rw [if_pos]
        have h3 := hg (p + 1) k
        have h4 := it_le (R := R) (y := y) (c := c) (f := f_0 st s) (x := k) p
        omega
  have all : ∀ p, c - 1 ≤ p → itp R y c (f_0 st s) p = itp R y c (f_0 st s) N := by
    intro p hp
    funext x
    by_cases hx : x < c
    · have z : sN (fun v => if itp R y c (f_0 st s) p v = itp R y c (f_0 st s) N v then 0 else 1) c = 0 := by
        rcases key p with z | z <;> omega
      apply Classical.byContradiction
      intro w
      have := sN_lt (a := fun _ => 0) (b := fun v => if itp R y c (f_0 st s) p v = itp R y c (f_0 st s) N v then 0 else 1) (j := x) c (fun k _ => Nat.zero_le _) hx (by
        rw [if_neg w]; omega)
      omega
    · rw [it_out (by omega), it_out (by omega)]
  rw [all c (by omega), all (c - 1) (Nat.le_refl _)]
/-- bounds -/
def Bd (K : Nat) (f : Nat → Nat) : Prop := ∀ v, f v = INF ∨ f v ≤ K
theorem bd_rx {u v K : Nat} {f : Nat → Nat} (h : Bd K f) (hR : R (5 * u + v) ≤ 99) : Bd (K + 198) (rx R y u v f) := by
  intro x
  by_cases z : x = v
  · subst z
    rw [rx_at]
    by_cases q : R (5 * u + x) = 0 ∨ INF ≤ f u
    · rw [if_pos q]
      rcases h x with w | w
      · exact Or.inl w
      · exact Or.inr (by omega)
    · rw [if_neg q]
      have := ar_le (y := y) (d := f u) (r := R (5 * u + x))
      rcases h u with w | w
      · omega
      · right; omega
  · rw [rx_ne z]
    rcases h x with w | w
    · exact Or.inl w
    · exact Or.inr (by omega)
theorem bd_rw {u K : Nat} {f : Nat → Nat} (h : Bd K f) (hR : ∀ i, i < 25 → R i ≤ 99) (hu : u < 5) : ∀ j, j ≤ 5 → Bd (K + 198 * j) (rw_ R y u f j) := by
  intro j
  induction j with
  | zero => intro _; exact h
  | succ j ih =>
    intro hj
    have := bd_rx (u := u) (v := j) (y := y) (ih (by omega)) (hR _ (by omega))
    rw [show K + 198 * (j + 1) = K + 198 * j + 198 by omega]
    exact this
theorem bd_pf {K : Nat} {f : Nat → Nat} (h : Bd K f) (hR : ∀ i, i < 25 → R i ≤ 99) (hc : c ≤ 5) : ∀ u, u ≤ c → Bd (K + 198 * c * u) (pf R y c f u) := by
  intro u
  induction u with
  | zero => intro _; exact h
  | succ u ih =>
    intro hu
    have := bd_rw (u := u) (y := y) (ih (by omega)) hR (by omega) c hc
    rw [show K + 198 * c * (u + 1) = K + 198 * c * u + 198 * c by rw [Nat.mul_succ]; omega]
    exact this
theorem Bd.up {K L : Nat} {f : Nat → Nat} (h : Bd K f) (hl : K ≤ L) : Bd L f := fun v => (h v).elim Or.inl (fun z => Or.inr (by omega))
theorem bd_it {st s : Nat} (hR : ∀ i, i < 25 → R i ≤ 99) (hc : c ≤ 5) : ∀ p, Bd (s + 4950 * p) (itp R y c (f_0 st s) p) := by
  intro p
  induction p with
  | zero =>
    intro v
    show (if v = st then s else INF) = INF ∨ (if v = st then s else INF) ≤ s + 4950 * 0
    split
    · right; omega
    · left; rfl
  | succ p ih =>
    have := bd_pf (y := y) ih hR hc c (Nat.le_refl _)
    refine this.up ?_
    have : 198 * c * c ≤ 198 * 5 * 5 := Nat.mul_le_mul (Nat.mul_le_mul (Nat.le_refl _) hc) hc
    omega
end JP

/-! THE PURE PART: the memory's laws, one by one -/
theorem k_si {M : Me} {a k x : Nat} {v : Int32} : me_k (me_si M a k v) x = me_k M x := rfl
theorem k_sr {M : Me} {a k x : Nat} {o : Option Nat} : me_k (me_sr M a k o) x = me_k M x := rfl
theorem k_cp {M : Me} {a a0 sp dp n x : Nat} : me_k (me_cp M a a0 sp dp n) x = me_k M x := rfl
theorem r_si {M : Me} {a k x y : Nat} {v : Int32} : me_r (me_si M a k v) x y = me_r M x y := rfl
theorem r_cp {M : Me} {a a0 sp dp n x y : Nat} : me_r (me_cp M a a0 sp dp n) x y = me_r M x y := rfl
theorem i_sr {M : Me} {a k x y : Nat} {o : Option Nat} : me_i (me_sr M a k o) x y = me_i M x y := rfl
theorem i_si {M : Me} {a k x y : Nat} {v : Int32} : me_i (me_si M a k v) x y = if x = a ∧ y = k then v else me_i M x y := rfl
theorem r_sr {M : Me} {a k x y : Nat} {o : Option Nat} : me_r (me_sr M a k o) x y = if x = a ∧ y = k then o else me_r M x y := rfl
theorem i_cp {M : Me} {a a0 sp dp n x y : Nat} : me_i (me_cp M a a0 sp dp n) x y = if x = a then va_cpy (fun j => me_i M a0 j) (fun j => me_i M a j) sp dp n y else me_i M x y := rfl
theorem l_si {M : Me} {a k : Nat} {v : Int32} : (me_si M a k v).1 = M.1 := rfl
/-- other ints -/
def me_w (M : Me) (g : Nat → Nat → Int32) : Me := (M.1, M.2.1, g)
theorem k_w {M : Me} {g : Nat → Nat → Int32} {x : Nat} : me_k (me_w M g) x = me_k M x := rfl
theorem r_w {M : Me} {g : Nat → Nat → Int32} {x y : Nat} : me_r (me_w M g) x y = me_r M x y := rfl
theorem i_w {M : Me} {g : Nat → Nat → Int32} {x y : Nat} : me_i (me_w M g) x y = g x y := rfl
theorem w_id (M : Me) : me_w M (fun a k => me_i M a k) = M := rfl
theorem w_si {M : Me} {a k : Nat} {v : Int32} : me_si M a k v = me_w M (fun x y => if x = a ∧ y = k then v else me_i M x y) := rfl
theorem w_w {M : Me} {g h : Nat → Nat → Int32} : me_w (me_w M g) h = me_w M h := rfl
/-- the readings -/
theorem gi_e {β : Type} {M : Me} {a ci k : Nat} {Kf : Int32 → Option β} (h : me_k M a = some (ci, nf_c ci)) : gi M a ci k Kf = Kf (me_i M a k) := if_pos h
theorem gr_e {β : Type} {M : Me} {a ci k o : Nat} {Kf : Nat → Option β} (h : me_k M a = some (ci, nf_c ci)) (h2 : me_r M a k = some o) : gr M a ci k Kf = Kf o := by
  unfold gr; rw [if_pos h, h2]; rfl
theorem pi_e {β : Type} {M : Me} {a ci k : Nat} {v : Int32} {Kf : Me → Option β} (h : me_k M a = some (ci, nf_c ci)) : pi M a ci k v Kf = Kf (me_si M a k v) := if_pos h
theorem pz_e {β : Type} {M : Me} {a ci k : Nat} {v : Int32} {Kf : Me → Option β} (h : me_k M a = some (ci, nf_c ci)) (hv : v = 0 ∨ v = 1) : pz M a ci k v Kf = Kf (me_si M a k v) := if_pos ⟨h, hv⟩
theorem ck_e {β : Type} {M : Me} {a ci : Nat} {F : Option β} (h : me_k M a = some (ci, nf_c ci)) : ck M a ci F = F := if_pos h
theorem ln_e {M : Me} {a kd n : Nat} (h : me_k M a = some (kd, n)) : ln M a kd = some n := by
  unfold ln; rw [h]; simp
theorem nI_oob {j n : Nat} (hj : j < n) (hn : n < 2 ^ 31) : ¬ (nI j < 0 ∨ n ≤ (nI j).toNatClampNeg) := nI_in hj hn
theorem li_e {β : Type} {M : Me} {a j n : Nat} {Kf : Int32 → Option β} (h : me_k M a = some (20, n)) (hj : j < n) (hn : n < 2 ^ 31) : li M a (nI j) Kf = Kf (me_i M a j) := by
  unfold li; rw [ln_e h]; simp only [Option.bind_some]; rw [if_neg (nI_oob hj hn), nI_clamp (by omega)]
theorem lz_e {β : Type} {M : Me} {a j n : Nat} {Kf : Int32 → Option β} (h : me_k M a = some (21, n)) (hj : j < n) (hn : n < 2 ^ 31) : lz M a (nI j) Kf = Kf (me_i M a j) := by
  unfold lz; rw [ln_e h]; simp only [Option.bind_some]; rw [if_neg (nI_oob hj hn), nI_clamp (by omega)]
theorem si_e {β : Type} {M : Me} {a j n : Nat} {v : Int32} {Kf : Me → Option β} (h : me_k M a = some (20, n)) (hj : j < n) (hn : n < 2 ^ 31) : si M a (nI j) v Kf = Kf (me_si M a j v) := by
  unfold si; rw [ln_e h]; simp only [Option.bind_some]; rw [if_neg (nI_oob hj hn), nI_clamp (by omega)]
theorem sz_e {β : Type} {M : Me} {a j n : Nat} {v : Int32} {Kf : Me → Option β} (h : me_k M a = some (21, n)) (hj : j < n) (hn : n < 2 ^ 31) (hv : v = 0 ∨ v = 1) : sz M a (nI j) v Kf = Kf (me_si M a j v) := by
  unfold sz; rw [ln_e h]; simp only [Option.bind_some]
  rw [if_neg, nI_clamp (by omega)]
  rintro (q | q | q)
  · exact nI_oob hj hn (Or.inl q)
  · exact nI_oob hj hn (Or.inr q)
  · exact q hv
theorem lr_e {β : Type} {M : Me} {a kd j n o : Nat} {Kf : Nat → Option β} (h : me_k M a = some (kd, n)) (hj : j < n) (hn : n < 2 ^ 31) (ho : me_r M a j = some o) : lr M a kd (nI j) Kf = Kf o := by
  unfold lr; rw [ln_e h]; simp only [Option.bind_some]; rw [if_neg (nI_oob hj hn), nI_clamp (by omega), ho]; rfl
theorem lo_e2 {β : Type} {M : Me} {a kd j n : Nat} {Kf : Option Nat → Option β} (h : me_k M a = some (kd, n)) (hj : j < n) (hn : n < 2 ^ 31) : lo M a kd (nI j) Kf = Kf (me_r M a j) := by
  unfold lo; rw [ln_e h]; simp only [Option.bind_some]; rw [if_neg (nI_oob hj hn), nI_clamp (by omega)]
theorem sr_e {β : Type} {M : Me} {a kd ci j n o : Nat} {Kf : Me → Option β} (h : me_k M a = some (kd, n)) (hj : j < n) (hn : n < 2 ^ 31) (ho : me_k M o = some (ci, nf_c ci)) : sr M a kd ci (nI j) o Kf = Kf (me_sr M a j (some o)) := by
  unfold sr; rw [ln_e h]; simp only [Option.bind_some]
  rw [if_neg, nI_clamp (by omega)]
  rintro (q | q | q)
  · exact nI_oob hj hn (Or.inl q)
  · exact nI_oob hj hn (Or.inr q)
  · exact q ho
theorem al_e {β : Type} {M : Me} {a kd n : Nat} {Kf : Int32 → Option β} (h : me_k M a = some (kd, n)) : al M a kd Kf = Kf (nI n) := by
  unfold al; rw [ln_e h]; rfl
theorem cP_e {β : Type} {x : Option Int32} {r : Int32} {Kf : Int32 → Option β} (h : x = some r) : cP x Kf = Kf r := by rw [h]; rfl
theorem cR_e {β : Type} {x : Option Nat} {r : Nat} {Kf : Nat → Option β} (h : x = some r) : cR x Kf = Kf r := by rw [h]; rfl
theorem cL_e {β : Type} {x : Option Int64} {r : Int64} {Kf : Int64 → Option β} (h : x = some r) : cL x Kf = Kf r := by rw [h]; rfl
theorem cM_e {β : Type} {x : Option Me} {r : Me} {Kf : Me → Option β} (h : x = some r) : cM x Kf = Kf r := by rw [h]; rfl
theorem cI_e {β : Type} {x : Option (Int32 × Me)} {r : Int32} {M : Me} {Kf : Int32 → Me → Option β} (h : x = some (r, M)) : cI x Kf = Kf r M := by rw [h]; rfl
theorem cE_e {β : Type} {x : Option (Int64 × Me)} {r : Int64} {M : Me} {Kf : Int64 → Me → Option β} (h : x = some (r, M)) : cE x Kf = Kf r M := by rw [h]; rfl
theorem b_ite {α β : Type} {c : Prop} [Decidable c] {a b : α} {Kf : α → Option β} : (if c then some a else some b).bind Kf = Kf (if c then a else b) := by split <;> rfl
/-- loops: a measure that falls -/
theorem lp_by {S E : Type} {step : S → Option (S ⊕ E)} (I : S → Prop) (P : E → Prop) (μ : S → Nat) (h : ∀ s, I s → (∃ t, step s = some (.inl t) ∧ I t ∧ μ t < μ s) ∨ ∃ x, step s = some (.inr x) ∧ P x) : ∀ s, I s → ∃ x, lp step s = some x ∧ P x := by
  intro s
  generalize hn : μ s = n
  induction n using Nat.strongRecOn generalizing s with
  | _ n ih =>
    intro hI
    rw [lp_eq]
    rcases h s hI with ⟨t, h1, h2, h3⟩ | ⟨x, h1, h2⟩
    · rw [h1]
      exact ih (μ t) (by omega) t rfl h2
    · rw [h1]
      exact ⟨x, rfl, h2⟩
/-- a loop that counts: from k up to n -/
theorem lp_up {S E : Type} {step : S → Option (S ⊕ E)} (f : Nat → S) (n : Nat) (x : E) (hs : ∀ k, k < n → step (f k) = some (.inl (f (k + 1)))) (he : step (f n) = some (.inr x)) : ∀ k, k ≤ n → lp step (f k) = some x := by
  intro k hk
  obtain ⟨d, rfl⟩ : ∃ d, n = k + d := ⟨n - k, by omega⟩
  clear hk
  induction d generalizing k with
  | zero => rw [lp_eq, show step (f k) = some (Sum.inr x) from he]; rfl
  | succ d ih =>
    rw [lp_eq, hs k (by omega)]
    show lp step (f (k + 1)) = some x
    have := ih (k + 1) (fun j hj => hs j (by omega)) (by rw [show k + 1 + d = k + (d + 1) by omega]; exact he)
    exact this
/-- numbers: a value of a range is nI of its place there -/
theorem n_lt {a b : Nat} (ha : a < 2 ^ 31) (hb : b < 2 ^ 31) : (nI a < nI b) = (a < b) := propext (nI_ltI ha hb)
theorem n_le {a b : Nat} (ha : a < 2 ^ 31) (hb : b < 2 ^ 31) : (nI a ≤ nI b) = (a ≤ b) := propext (nI_leI ha hb)
theorem n_eq {a b : Nat} (ha : a < 2 ^ 31) (hb : b < 2 ^ 31) : (nI a = nI b) = (a = b) := propext (nI_eq ha hb)
theorem rg_of {x : Int32} (lo hi : Nat) (hhi : hi < 2 ^ 31) (hlo : lo ≤ hi) (h1 : ¬ x < nI lo) (h2 : ¬ nI hi < x) : ∃ n, lo ≤ n ∧ n ≤ hi ∧ x = nI n := by
  rw [Int32.lt_iff_toInt_lt] at h1 h2
  rw [nI_toInt hhi] at h2
  rw [nI_toInt (by omega)] at h1
  refine ⟨x.toInt.toNat, by omega, by omega, ?_⟩
  apply Int32.toInt_inj.mp
  rw [nI_toInt (by omega)]
  omega
/-- in(v, low, high), both of the class and of the reference -/
def in_v (x lo hi : Int32) : Int32 := if x < lo then 0 else if hi < x then 0 else 1
theorem e_isWithin (x lo hi : Int32) (M : Me) : f_X11_isWithin x lo hi M = some (in_v x lo hi) := by
  unfold f_X11_isWithin b_X11_isWithin in_v
  split
  · rfl
  · split <;> rfl
theorem e_in (x lo hi : Int32) (M : Me) : f_X12_in x lo hi M = some (in_v x lo hi) := by
  unfold f_X12_in b_X12_in in_v
  split
  · rfl
  · split <;> rfl
theorem in_no {x lo hi : Int32} (h : in_v x lo hi = 0) : x < lo ∨ hi < x := by
  unfold in_v at h
  split at h
  · left; assumption
  · split at h
    · right; assumption
    · cases h
theorem in_yes {x : Int32} {lo hi : Nat} (hhi : hi < 2 ^ 31) (hlo : lo ≤ hi) (h : ¬ in_v x (nI lo) (nI hi) = 0) : ∃ n, lo ≤ n ∧ n ≤ hi ∧ x = nI n := by
  unfold in_v at h
  split at h
  · exact absurd rfl h
  · split at h
    · exact absurd rfl h
    · exact rg_of lo hi hhi hlo (by assumption) (by assumption)
theorem in_one {n lo hi : Nat} (hhi : hi < 2 ^ 31) (h1 : lo ≤ n) (h2 : n ≤ hi) : in_v (nI n) (nI lo) (nI hi) = 1 := by
  unfold in_v
  rw [if_neg (nI_nlt h1 (by omega)), if_neg (nI_nlt h2 (by omega))]

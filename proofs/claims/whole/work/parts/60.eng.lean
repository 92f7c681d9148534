/-! readings and writings of the reference (m_) and of a court (q_) -/
theorem m_ck {β : Type} {M : Me} {F : Option β} (h : Lay M) : ck M 70 12 F = F := ck_e (lk_70 h)
theorem m_gi {β : Type} {M : Me} {k : Nat} {Kf : Int32 → Option β} (h : Lay M) : gi M 70 12 k Kf = Kf (me_i M 70 k) := gi_e (lk_70 h)
theorem m_pi {β : Type} {M : Me} {k : Nat} {v : Int32} {Kf : Me → Option β} (h : Lay M) : pi M 70 12 k v Kf = Kf (me_si M 70 k v) := pi_e (lk_70 h)
theorem m_gr1 {β : Type} {M : Me} {Kf : Nat → Option β} (h : Lay M) : gr M 70 12 1 Kf = Kf 71 := gr_e (lk_70 h) (lr_70_1 h)
theorem m_gr4 {β : Type} {M : Me} {Kf : Nat → Option β} (h : Lay M) : gr M 70 12 4 Kf = Kf 72 := gr_e (lk_70 h) (lr_70_4 h)
theorem m_gr5 {β : Type} {M : Me} {Kf : Nat → Option β} (h : Lay M) : gr M 70 12 5 Kf = Kf 73 := gr_e (lk_70 h) (lr_70_5 h)
theorem m_gr7 {β : Type} {M : Me} {Kf : Nat → Option β} (h : Lay M) : gr M 70 12 7 Kf = Kf 74 := gr_e (lk_70 h) (lr_70_7 h)
theorem m_gr9 {β : Type} {M : Me} {Kf : Nat → Option β} (h : Lay M) : gr M 70 12 9 Kf = Kf 75 := gr_e (lk_70 h) (lr_70_9 h)
theorem m_gr10 {β : Type} {M : Me} {Kf : Nat → Option β} (h : Lay M) : gr M 70 12 10 Kf = Kf 76 := gr_e (lk_70 h) (lr_70_10 h)
theorem m_gr11 {β : Type} {M : Me} {Kf : Nat → Option β} (h : Lay M) : gr M 70 12 11 Kf = Kf 77 := gr_e (lk_70 h) (lr_70_11 h)
theorem m_gr12 {β : Type} {M : Me} {Kf : Nat → Option β} (h : Lay M) : gr M 70 12 12 Kf = Kf 78 := gr_e (lk_70 h) (lr_70_12 h)
theorem m_gr14 {β : Type} {M : Me} {Kf : Nat → Option β} (h : Lay M) : gr M 70 12 14 Kf = Kf 79 := gr_e (lk_70 h) (lr_70_14 h)
theorem m_gr16 {β : Type} {M : Me} {Kf : Nat → Option β} (h : Lay M) : gr M 70 12 16 Kf = Kf 80 := gr_e (lk_70 h) (lr_70_16 h)
theorem m_gr18 {β : Type} {M : Me} {Kf : Nat → Option β} (h : Lay M) : gr M 70 12 18 Kf = Kf 81 := gr_e (lk_70 h) (lr_70_18 h)
theorem m_gr19 {β : Type} {M : Me} {Kf : Nat → Option β} (h : Lay M) : gr M 70 12 19 Kf = Kf 82 := gr_e (lk_70 h) (lr_70_19 h)
theorem m_gr20 {β : Type} {M : Me} {Kf : Nat → Option β} (h : Lay M) : gr M 70 12 20 Kf = Kf 83 := gr_e (lk_70 h) (lr_70_20 h)
theorem m_gr21 {β : Type} {M : Me} {Kf : Nat → Option β} (h : Lay M) : gr M 70 12 21 Kf = Kf 84 := gr_e (lk_70 h) (lr_70_21 h)
theorem m_gr23 {β : Type} {M : Me} {Kf : Nat → Option β} (h : Lay M) : gr M 70 12 23 Kf = Kf 85 := gr_e (lk_70 h) (lr_70_23 h)
theorem m_gr26 {β : Type} {M : Me} {Kf : Nat → Option β} (h : Lay M) : gr M 70 12 26 Kf = Kf 86 := gr_e (lk_70 h) (lr_70_26 h)
theorem m_gr27 {β : Type} {M : Me} {Kf : Nat → Option β} (h : Lay M) : gr M 70 12 27 Kf = Kf 87 := gr_e (lk_70 h) (lr_70_27 h)
theorem m_gr28 {β : Type} {M : Me} {Kf : Nat → Option β} (h : Lay M) : gr M 70 12 28 Kf = Kf 88 := gr_e (lk_70 h) (lr_70_28 h)
theorem m_gr30 {β : Type} {M : Me} {Kf : Nat → Option β} (h : Lay M) : gr M 70 12 30 Kf = Kf 89 := gr_e (lk_70 h) (lr_70_30 h)
theorem m_gr31 {β : Type} {M : Me} {Kf : Nat → Option β} (h : Lay M) : gr M 70 12 31 Kf = Kf 90 := gr_e (lk_70 h) (lr_70_31 h)
theorem m_li71 {β : Type} {M : Me} {j : Nat} {Kf : Int32 → Option β} (h : Lay M) (hj : j < 25) : li M 71 (nI j) Kf = Kf (me_i M 71 j) := li_e (lk_71 h) hj (by decide)
theorem m_si71 {β : Type} {M : Me} {j : Nat} {v : Int32} {Kf : Me → Option β} (h : Lay M) (hj : j < 25) : si M 71 (nI j) v Kf = Kf (me_si M 71 j v) := si_e (lk_71 h) hj (by decide)
theorem m_li72 {β : Type} {M : Me} {j : Nat} {Kf : Int32 → Option β} (h : Lay M) (hj : j < 6) : li M 72 (nI j) Kf = Kf (me_i M 72 j) := li_e (lk_72 h) hj (by decide)
theorem m_si72 {β : Type} {M : Me} {j : Nat} {v : Int32} {Kf : Me → Option β} (h : Lay M) (hj : j < 6) : si M 72 (nI j) v Kf = Kf (me_si M 72 j v) := si_e (lk_72 h) hj (by decide)
theorem m_li73 {β : Type} {M : Me} {j : Nat} {Kf : Int32 → Option β} (h : Lay M) (hj : j < 6) : li M 73 (nI j) Kf = Kf (me_i M 73 j) := li_e (lk_73 h) hj (by decide)
theorem m_si73 {β : Type} {M : Me} {j : Nat} {v : Int32} {Kf : Me → Option β} (h : Lay M) (hj : j < 6) : si M 73 (nI j) v Kf = Kf (me_si M 73 j v) := si_e (lk_73 h) hj (by decide)
theorem m_li74 {β : Type} {M : Me} {j : Nat} {Kf : Int32 → Option β} (h : Lay M) (hj : j < 12) : li M 74 (nI j) Kf = Kf (me_i M 74 j) := li_e (lk_74 h) hj (by decide)
theorem m_si74 {β : Type} {M : Me} {j : Nat} {v : Int32} {Kf : Me → Option β} (h : Lay M) (hj : j < 12) : si M 74 (nI j) v Kf = Kf (me_si M 74 j v) := si_e (lk_74 h) hj (by decide)
theorem m_li75 {β : Type} {M : Me} {j : Nat} {Kf : Int32 → Option β} (h : Lay M) (hj : j < 6) : li M 75 (nI j) Kf = Kf (me_i M 75 j) := li_e (lk_75 h) hj (by decide)
theorem m_si75 {β : Type} {M : Me} {j : Nat} {v : Int32} {Kf : Me → Option β} (h : Lay M) (hj : j < 6) : si M 75 (nI j) v Kf = Kf (me_si M 75 j v) := si_e (lk_75 h) hj (by decide)
theorem m_li76 {β : Type} {M : Me} {j : Nat} {Kf : Int32 → Option β} (h : Lay M) (hj : j < 6) : li M 76 (nI j) Kf = Kf (me_i M 76 j) := li_e (lk_76 h) hj (by decide)
theorem m_si76 {β : Type} {M : Me} {j : Nat} {v : Int32} {Kf : Me → Option β} (h : Lay M) (hj : j < 6) : si M 76 (nI j) v Kf = Kf (me_si M 76 j v) := si_e (lk_76 h) hj (by decide)
theorem m_li77 {β : Type} {M : Me} {j : Nat} {Kf : Int32 → Option β} (h : Lay M) (hj : j < 6) : li M 77 (nI j) Kf = Kf (me_i M 77 j) := li_e (lk_77 h) hj (by decide)
theorem m_si77 {β : Type} {M : Me} {j : Nat} {v : Int32} {Kf : Me → Option β} (h : Lay M) (hj : j < 6) : si M 77 (nI j) v Kf = Kf (me_si M 77 j v) := si_e (lk_77 h) hj (by decide)
theorem m_li78 {β : Type} {M : Me} {j : Nat} {Kf : Int32 → Option β} (h : Lay M) (hj : j < 6) : li M 78 (nI j) Kf = Kf (me_i M 78 j) := li_e (lk_78 h) hj (by decide)
theorem m_si78 {β : Type} {M : Me} {j : Nat} {v : Int32} {Kf : Me → Option β} (h : Lay M) (hj : j < 6) : si M 78 (nI j) v Kf = Kf (me_si M 78 j v) := si_e (lk_78 h) hj (by decide)
theorem m_li79 {β : Type} {M : Me} {j : Nat} {Kf : Int32 → Option β} (h : Lay M) (hj : j < 48) : li M 79 (nI j) Kf = Kf (me_i M 79 j) := li_e (lk_79 h) hj (by decide)
theorem m_si79 {β : Type} {M : Me} {j : Nat} {v : Int32} {Kf : Me → Option β} (h : Lay M) (hj : j < 48) : si M 79 (nI j) v Kf = Kf (me_si M 79 j v) := si_e (lk_79 h) hj (by decide)
theorem m_li80 {β : Type} {M : Me} {j : Nat} {Kf : Int32 → Option β} (h : Lay M) (hj : j < 60) : li M 80 (nI j) Kf = Kf (me_i M 80 j) := li_e (lk_80 h) hj (by decide)
theorem m_si80 {β : Type} {M : Me} {j : Nat} {v : Int32} {Kf : Me → Option β} (h : Lay M) (hj : j < 60) : si M 80 (nI j) v Kf = Kf (me_si M 80 j v) := si_e (lk_80 h) hj (by decide)
theorem m_li81 {β : Type} {M : Me} {j : Nat} {Kf : Int32 → Option β} (h : Lay M) (hj : j < 6) : li M 81 (nI j) Kf = Kf (me_i M 81 j) := li_e (lk_81 h) hj (by decide)
theorem m_si81 {β : Type} {M : Me} {j : Nat} {v : Int32} {Kf : Me → Option β} (h : Lay M) (hj : j < 6) : si M 81 (nI j) v Kf = Kf (me_si M 81 j v) := si_e (lk_81 h) hj (by decide)
theorem m_li82 {β : Type} {M : Me} {j : Nat} {Kf : Int32 → Option β} (h : Lay M) (hj : j < 6) : li M 82 (nI j) Kf = Kf (me_i M 82 j) := li_e (lk_82 h) hj (by decide)
theorem m_si82 {β : Type} {M : Me} {j : Nat} {v : Int32} {Kf : Me → Option β} (h : Lay M) (hj : j < 6) : si M 82 (nI j) v Kf = Kf (me_si M 82 j v) := si_e (lk_82 h) hj (by decide)
theorem m_li83 {β : Type} {M : Me} {j : Nat} {Kf : Int32 → Option β} (h : Lay M) (hj : j < 6) : li M 83 (nI j) Kf = Kf (me_i M 83 j) := li_e (lk_83 h) hj (by decide)
theorem m_si83 {β : Type} {M : Me} {j : Nat} {v : Int32} {Kf : Me → Option β} (h : Lay M) (hj : j < 6) : si M 83 (nI j) v Kf = Kf (me_si M 83 j v) := si_e (lk_83 h) hj (by decide)
theorem m_li84 {β : Type} {M : Me} {j : Nat} {Kf : Int32 → Option β} (h : Lay M) (hj : j < 6) : li M 84 (nI j) Kf = Kf (me_i M 84 j) := li_e (lk_84 h) hj (by decide)
theorem m_si84 {β : Type} {M : Me} {j : Nat} {v : Int32} {Kf : Me → Option β} (h : Lay M) (hj : j < 6) : si M 84 (nI j) v Kf = Kf (me_si M 84 j v) := si_e (lk_84 h) hj (by decide)
theorem m_li85 {β : Type} {M : Me} {j : Nat} {Kf : Int32 → Option β} (h : Lay M) (hj : j < 48) : li M 85 (nI j) Kf = Kf (me_i M 85 j) := li_e (lk_85 h) hj (by decide)
theorem m_si85 {β : Type} {M : Me} {j : Nat} {v : Int32} {Kf : Me → Option β} (h : Lay M) (hj : j < 48) : si M 85 (nI j) v Kf = Kf (me_si M 85 j v) := si_e (lk_85 h) hj (by decide)
theorem m_li86 {β : Type} {M : Me} {j : Nat} {Kf : Int32 → Option β} (h : Lay M) (hj : j < 5) : li M 86 (nI j) Kf = Kf (me_i M 86 j) := li_e (lk_86 h) hj (by decide)
theorem m_si86 {β : Type} {M : Me} {j : Nat} {v : Int32} {Kf : Me → Option β} (h : Lay M) (hj : j < 5) : si M 86 (nI j) v Kf = Kf (me_si M 86 j v) := si_e (lk_86 h) hj (by decide)
theorem m_li87 {β : Type} {M : Me} {j : Nat} {Kf : Int32 → Option β} (h : Lay M) (hj : j < 6) : li M 87 (nI j) Kf = Kf (me_i M 87 j) := li_e (lk_87 h) hj (by decide)
theorem m_si87 {β : Type} {M : Me} {j : Nat} {v : Int32} {Kf : Me → Option β} (h : Lay M) (hj : j < 6) : si M 87 (nI j) v Kf = Kf (me_si M 87 j v) := si_e (lk_87 h) hj (by decide)
theorem m_li88 {β : Type} {M : Me} {j : Nat} {Kf : Int32 → Option β} (h : Lay M) (hj : j < 64) : li M 88 (nI j) Kf = Kf (me_i M 88 j) := li_e (lk_88 h) hj (by decide)
theorem m_si88 {β : Type} {M : Me} {j : Nat} {v : Int32} {Kf : Me → Option β} (h : Lay M) (hj : j < 64) : si M 88 (nI j) v Kf = Kf (me_si M 88 j v) := si_e (lk_88 h) hj (by decide)
theorem m_li89 {β : Type} {M : Me} {j : Nat} {Kf : Int32 → Option β} (h : Lay M) (hj : j < 300) : li M 89 (nI j) Kf = Kf (me_i M 89 j) := li_e (lk_89 h) hj (by decide)
theorem m_si89 {β : Type} {M : Me} {j : Nat} {v : Int32} {Kf : Me → Option β} (h : Lay M) (hj : j < 300) : si M 89 (nI j) v Kf = Kf (me_si M 89 j v) := si_e (lk_89 h) hj (by decide)
section QC
variable {β : Type} {M : Me} {c : Nat}
theorem q_ck {F : Option β} (h : CL M c) : ck M (c) 0 F = F := ck_e (h.1.1)
theorem q_gi {k : Nat} {Kf : Int32 → Option β} (h : CL M c) : gi M (c) 0 k Kf = Kf (me_i M (c) k) := gi_e (h.1.1)
theorem q_pi {k : Nat} {v : Int32} {Kf : Me → Option β} (h : CL M c) : pi M (c) 0 k v Kf = Kf (me_si M (c) k v) := pi_e (h.1.1)
theorem q_pz {k : Nat} {v : Int32} {Kf : Me → Option β} (h : CL M c) (hv : v = 0 ∨ v = 1) : pz M (c) 0 k v Kf = Kf (me_si M (c) k v) := pz_e (h.1.1) hv
theorem q_ck5 {F : Option β} (h : CL M c) : ck M (c + 1) 5 F = F := ck_e (h.2.1.1)
theorem q_gi5 {k : Nat} {Kf : Int32 → Option β} (h : CL M c) : gi M (c + 1) 5 k Kf = Kf (me_i M (c + 1) k) := gi_e (h.2.1.1)
theorem q_pi5 {k : Nat} {v : Int32} {Kf : Me → Option β} (h : CL M c) : pi M (c + 1) 5 k v Kf = Kf (me_si M (c + 1) k v) := pi_e (h.2.1.1)
theorem q_pz5 {k : Nat} {v : Int32} {Kf : Me → Option β} (h : CL M c) (hv : v = 0 ∨ v = 1) : pz M (c + 1) 5 k v Kf = Kf (me_si M (c + 1) k v) := pz_e (h.2.1.1) hv
theorem q_ck2 {F : Option β} (h : CL M c) : ck M (c + 4) 2 F = F := ck_e (h.2.2.2.1.1)
theorem q_gi2 {k : Nat} {Kf : Int32 → Option β} (h : CL M c) : gi M (c + 4) 2 k Kf = Kf (me_i M (c + 4) k) := gi_e (h.2.2.2.1.1)
theorem q_pi2 {k : Nat} {v : Int32} {Kf : Me → Option β} (h : CL M c) : pi M (c + 4) 2 k v Kf = Kf (me_si M (c + 4) k v) := pi_e (h.2.2.2.1.1)
theorem q_pz2 {k : Nat} {v : Int32} {Kf : Me → Option β} (h : CL M c) (hv : v = 0 ∨ v = 1) : pz M (c + 4) 2 k v Kf = Kf (me_si M (c + 4) k v) := pz_e (h.2.2.2.1.1) hv
theorem q_ck1 {F : Option β} (h : CL M c) {o : Nat} (ho : o < 12) : ck M (c + 6 + o) 1 F = F := ck_e (h.2.2.2.2.1 o ho)
theorem q_gi1 {k : Nat} {Kf : Int32 → Option β} (h : CL M c) {o : Nat} (ho : o < 12) : gi M (c + 6 + o) 1 k Kf = Kf (me_i M (c + 6 + o) k) := gi_e (h.2.2.2.2.1 o ho)
theorem q_pi1 {k : Nat} {v : Int32} {Kf : Me → Option β} (h : CL M c) {o : Nat} (ho : o < 12) : pi M (c + 6 + o) 1 k v Kf = Kf (me_si M (c + 6 + o) k v) := pi_e (h.2.2.2.2.1 o ho)
theorem q_pz1 {k : Nat} {v : Int32} {Kf : Me → Option β} (h : CL M c) {o : Nat} (ho : o < 12) (hv : v = 0 ∨ v = 1) : pz M (c + 6 + o) 1 k v Kf = Kf (me_si M (c + 6 + o) k v) := pz_e (h.2.2.2.2.1 o ho) hv
theorem q_ck9 {F : Option β} (h : CL M c) : ck M (c + 18) 9 F = F := ck_e (h.2.2.2.2.2.1.1)
theorem q_gi9 {k : Nat} {Kf : Int32 → Option β} (h : CL M c) : gi M (c + 18) 9 k Kf = Kf (me_i M (c + 18) k) := gi_e (h.2.2.2.2.2.1.1)
theorem q_pi9 {k : Nat} {v : Int32} {Kf : Me → Option β} (h : CL M c) : pi M (c + 18) 9 k v Kf = Kf (me_si M (c + 18) k v) := pi_e (h.2.2.2.2.2.1.1)
theorem q_pz9 {k : Nat} {v : Int32} {Kf : Me → Option β} (h : CL M c) (hv : v = 0 ∨ v = 1) : pz M (c + 18) 9 k v Kf = Kf (me_si M (c + 18) k v) := pz_e (h.2.2.2.2.2.1.1) hv
theorem q_ckn {F : Option β} (h : CL M c) : ck M (c + 21) 4 F = F := ck_e (h.2.2.2.2.2.2.1)
theorem q_gin {k : Nat} {Kf : Int32 → Option β} (h : CL M c) : gi M (c + 21) 4 k Kf = Kf (me_i M (c + 21) k) := gi_e (h.2.2.2.2.2.2.1)
theorem q_pin {k : Nat} {v : Int32} {Kf : Me → Option β} (h : CL M c) : pi M (c + 21) 4 k v Kf = Kf (me_si M (c + 21) k v) := pi_e (h.2.2.2.2.2.2.1)
theorem q_pzn {k : Nat} {v : Int32} {Kf : Me → Option β} (h : CL M c) (hv : v = 0 ∨ v = 1) : pz M (c + 21) 4 k v Kf = Kf (me_si M (c + 21) k v) := pz_e (h.2.2.2.2.2.2.1) hv
theorem q_ck4 {F : Option β} (h : CL M c) {o : Nat} (ho : o < 6) : ck M (c + 22 + o) 4 F = F := ck_e (h.2.2.2.2.2.2.2 o ho)
theorem q_gi4 {k : Nat} {Kf : Int32 → Option β} (h : CL M c) {o : Nat} (ho : o < 6) : gi M (c + 22 + o) 4 k Kf = Kf (me_i M (c + 22 + o) k) := gi_e (h.2.2.2.2.2.2.2 o ho)
theorem q_pi4 {k : Nat} {v : Int32} {Kf : Me → Option β} (h : CL M c) {o : Nat} (ho : o < 6) : pi M (c + 22 + o) 4 k v Kf = Kf (me_si M (c + 22 + o) k v) := pi_e (h.2.2.2.2.2.2.2 o ho)
theorem q_pz4 {k : Nat} {v : Int32} {Kf : Me → Option β} (h : CL M c) {o : Nat} (ho : o < 6) (hv : v = 0 ∨ v = 1) : pz M (c + 22 + o) 4 k v Kf = Kf (me_si M (c + 22 + o) k v) := pz_e (h.2.2.2.2.2.2.2 o ho) hv
theorem q_c0 {Kf : Nat → Option β} (h : CL M c) : gr M c 0 0 Kf = Kf (c + 1) := gr_e h.1.1 h.1.2.1
theorem q_c1 {Kf : Nat → Option β} (h : CL M c) : gr M c 0 1 Kf = Kf (c + 3) := gr_e h.1.1 h.1.2.2.1
theorem q_c2 {Kf : Nat → Option β} (h : CL M c) : gr M c 0 2 Kf = Kf (c + 4) := gr_e h.1.1 h.1.2.2.2.1
theorem q_c3 {Kf : Nat → Option β} (h : CL M c) : gr M c 0 3 Kf = Kf (c + 18) := gr_e h.1.1 h.1.2.2.2.2.1
theorem q_c4 {Kf : Nat → Option β} (h : CL M c) : gr M c 0 4 Kf = Kf (c + 21) := gr_e h.1.1 h.1.2.2.2.2.2
theorem q_l2 {Kf : Nat → Option β} (h : CL M c) : gr M (c + 1) 5 2 Kf = Kf (c + 2) := gr_e h.2.1.1 h.2.1.2.1
theorem q_kn {j : Nat} {Kf : Nat → Option β} (h : CL M c) (hj : j < 6) : lr M (c + 3) 22 (nI j) Kf = Kf (c + 22 + j) := lr_e h.2.2.1.1 hj (by decide) (h.2.2.1.2 j hj)
theorem q_d1 {Kf : Nat → Option β} (h : CL M c) : gr M (c + 4) 2 1 Kf = Kf (c + 5) := gr_e h.2.2.2.1.1 h.2.2.2.1.2.1
theorem q_row {π : Nat → Nat} {j : Nat} {Kf : Nat → Option β} (h : CL M c) (hp : CP M c π) (hj : j < 12) : lr M (c + 5) 23 (nI j) Kf = Kf (c + 6 + π j) := lr_e h.2.2.2.1.2.2 hj (by decide) (hp.1 j hj).2
theorem q_s1 {Kf : Nat → Option β} (h : CL M c) : gr M (c + 18) 9 1 Kf = Kf (c + 19) := gr_e h.2.2.2.2.2.1.1 h.2.2.2.2.2.1.2.1
theorem q_s2 {Kf : Nat → Option β} (h : CL M c) : gr M (c + 18) 9 2 Kf = Kf (c + 20) := gr_e h.2.2.2.2.2.1.1 h.2.2.2.2.2.1.2.2.1
theorem q_li2 {j : Nat} {Kf : Int32 → Option β} (h : CL M c) (hj : j < 25) : li M (c + 2) (nI j) Kf = Kf (me_i M (c + 2) j) := li_e h.2.1.2.2 hj (by decide)
theorem q_li19 {j : Nat} {Kf : Int32 → Option β} (h : CL M c) (hj : j < 6) : li M (c + 19) (nI j) Kf = Kf (me_i M (c + 19) j) := li_e h.2.2.2.2.2.1.2.2.2.1 hj (by decide)
theorem q_li20 {j : Nat} {Kf : Int32 → Option β} (h : CL M c) (hj : j < 6) : li M (c + 20) (nI j) Kf = Kf (me_i M (c + 20) j) := li_e h.2.2.2.2.2.1.2.2.2.2 hj (by decide)
theorem q_knt {j : Nat} {Kf : Nat → Option β} (h : CL M c) (hj : j < 6) : cR (f_X0_knightAt c (nI j) M) Kf = Kf (c + 22 + j) := by rw [cR_e (e_knightAt h), kn_k hj]
end QC
theorem Lay_si {M : Me} {a k : Nat} {v : Int32} : Lay (me_si M a k v) = Lay M := rfl
theorem Lay_w {M : Me} {g : Nat → Nat → Int32} : Lay (me_w M g) = Lay M := rfl
theorem CL_si {M : Me} {c a k : Nat} {v : Int32} : CL (me_si M a k v) c = CL M c := rfl
theorem CL_w {M : Me} {c : Nat} {g : Nat → Nat → Int32} : CL (me_w M g) c = CL M c := rfl
theorem CP_si {M : Me} {c a k : Nat} {v : Int32} {π : Nat → Nat} : CP (me_si M a k v) c π = CP M c π := rfl
theorem CP_w {M : Me} {c : Nat} {π : Nat → Nat} {g : Nat → Nat → Int32} : CP (me_w M g) c π = CP M c π := rfl

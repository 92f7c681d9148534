theorem ic_m1 : Int32.ofInt (-1) = (-1 : Int32) := by decide
theorem ic_0 : Int32.ofInt (0) = (0 : Int32) := by decide
theorem ic_1 : Int32.ofInt (1) = (1 : Int32) := by decide
theorem ic_2 : Int32.ofInt (2) = (2 : Int32) := by decide
theorem ic_3 : Int32.ofInt (3) = (3 : Int32) := by decide
theorem ic_4 : Int32.ofInt (4) = (4 : Int32) := by decide
theorem ic_5 : Int32.ofInt (5) = (5 : Int32) := by decide
theorem bp_m6 : (Int8.ofInt (-6)).toInt32 = (-6 : Int32) := by decide
theorem bp_m5 : (Int8.ofInt (-5)).toInt32 = (-5 : Int32) := by decide
theorem bp_m4 : (Int8.ofInt (-4)).toInt32 = (-4 : Int32) := by decide
theorem bp_m3 : (Int8.ofInt (-3)).toInt32 = (-3 : Int32) := by decide
theorem bp_m2 : (Int8.ofInt (-2)).toInt32 = (-2 : Int32) := by decide
theorem bp_6 : (Int8.ofInt (6)).toInt32 = (6 : Int32) := by decide
theorem bp_7 : (Int8.ofInt (7)).toInt32 = (7 : Int32) := by decide
theorem bp_8 : (Int8.ofInt (8)).toInt32 = (8 : Int32) := by decide
theorem bp_9 : (Int8.ofInt (9)).toInt32 = (9 : Int32) := by decide
theorem bp_10 : (Int8.ofInt (10)).toInt32 = (10 : Int32) := by decide
theorem bp_12 : (Int8.ofInt (12)).toInt32 = (12 : Int32) := by decide
theorem bp_16 : (Int8.ofInt (16)).toInt32 = (16 : Int32) := by decide
theorem bp_20 : (Int8.ofInt (20)).toInt32 = (20 : Int32) := by decide
theorem bp_25 : (Int8.ofInt (25)).toInt32 = (25 : Int32) := by decide
theorem bp_31 : (Int8.ofInt (31)).toInt32 = (31 : Int32) := by decide
theorem bp_33 : (Int8.ofInt (33)).toInt32 = (33 : Int32) := by decide
theorem bp_37 : (Int8.ofInt (37)).toInt32 = (37 : Int32) := by decide
theorem bp_40 : (Int8.ofInt (40)).toInt32 = (40 : Int32) := by decide
theorem bp_43 : (Int8.ofInt (43)).toInt32 = (43 : Int32) := by decide
theorem bp_46 : (Int8.ofInt (46)).toInt32 = (46 : Int32) := by decide
theorem bp_47 : (Int8.ofInt (47)).toInt32 = (47 : Int32) := by decide
theorem bp_48 : (Int8.ofInt (48)).toInt32 = (48 : Int32) := by decide
theorem bp_49 : (Int8.ofInt (49)).toInt32 = (49 : Int32) := by decide
theorem bp_50 : (Int8.ofInt (50)).toInt32 = (50 : Int32) := by decide
theorem bp_52 : (Int8.ofInt (52)).toInt32 = (52 : Int32) := by decide
theorem bp_55 : (Int8.ofInt (55)).toInt32 = (55 : Int32) := by decide
theorem bp_57 : (Int8.ofInt (57)).toInt32 = (57 : Int32) := by decide
theorem bp_58 : (Int8.ofInt (58)).toInt32 = (58 : Int32) := by decide
theorem bp_59 : (Int8.ofInt (59)).toInt32 = (59 : Int32) := by decide
theorem bp_60 : (Int8.ofInt (60)).toInt32 = (60 : Int32) := by decide
theorem bp_61 : (Int8.ofInt (61)).toInt32 = (61 : Int32) := by decide
theorem bp_63 : (Int8.ofInt (63)).toInt32 = (63 : Int32) := by decide
theorem bp_64 : (Int8.ofInt (64)).toInt32 = (64 : Int32) := by decide
theorem bp_65 : (Int8.ofInt (65)).toInt32 = (65 : Int32) := by decide
theorem bp_70 : (Int8.ofInt (70)).toInt32 = (70 : Int32) := by decide
theorem bp_71 : (Int8.ofInt (71)).toInt32 = (71 : Int32) := by decide
theorem bp_74 : (Int8.ofInt (74)).toInt32 = (74 : Int32) := by decide
theorem bp_75 : (Int8.ofInt (75)).toInt32 = (75 : Int32) := by decide
theorem bp_90 : (Int8.ofInt (90)).toInt32 = (90 : Int32) := by decide
theorem bp_99 : (Int8.ofInt (99)).toInt32 = (99 : Int32) := by decide
theorem bp_100 : (Int8.ofInt (100)).toInt32 = (100 : Int32) := by decide
theorem bp_109 : (Int8.ofInt (109)).toInt32 = (109 : Int32) := by decide
theorem bp_121 : (Int8.ofInt (121)).toInt32 = (121 : Int32) := by decide
theorem bp_122 : (Int8.ofInt (122)).toInt32 = (122 : Int32) := by decide
theorem bp_123 : (Int8.ofInt (123)).toInt32 = (123 : Int32) := by decide
theorem bp_124 : (Int8.ofInt (124)).toInt32 = (124 : Int32) := by decide
theorem bp_125 : (Int8.ofInt (125)).toInt32 = (125 : Int32) := by decide
theorem bp_126 : (Int8.ofInt (126)).toInt32 = (126 : Int32) := by decide
theorem sp_150 : (Int16.ofInt (150)).toInt32 = (150 : Int32) := by decide
theorem sp_200 : (Int16.ofInt (200)).toInt32 = (200 : Int32) := by decide
theorem sp_300 : (Int16.ofInt (300)).toInt32 = (300 : Int32) := by decide
theorem sp_360 : (Int16.ofInt (360)).toInt32 = (360 : Int32) := by decide
theorem sp_400 : (Int16.ofInt (400)).toInt32 = (400 : Int32) := by decide
theorem sp_1000 : (Int16.ofInt (1000)).toInt32 = (1000 : Int32) := by decide
theorem sp_9999 : (Int16.ofInt (9999)).toInt32 = (9999 : Int32) := by decide
theorem sp_10000 : (Int16.ofInt (10000)).toInt32 = (10000 : Int32) := by decide
theorem ne_2 : ¬ (2 : Int32) = 0 := by decide
theorem ne_6 : ¬ (6 : Int32) = 0 := by decide
theorem ne_10 : ¬ (10 : Int32) = 0 := by decide
theorem ne_40 : ¬ (40 : Int32) = 0 := by decide
theorem ne_64 : ¬ (64 : Int32) = 0 := by decide
theorem ne_100 : ¬ (100 : Int32) = 0 := by decide
theorem ne_65537 : ¬ (65537 : Int32) = 0 := by decide
theorem nl_10 : ¬ (10 : Int64) = 0 := by decide
theorem kc_J6_265 : Cond.constant RJ6 265 (1431655765 : Int32) ∈ gw_s := gw_i2 147 rfl rfl
theorem kc_J6_266 : Cond.constant RJ6 266 (858993459 : Int32) ∈ gw_s := gw_i2 148 rfl rfl
theorem kc_J6_267 : Cond.constant RJ6 267 (252645135 : Int32) ∈ gw_s := gw_i2 149 rfl rfl
theorem kc_X10_82 : Cond.constant RX10 82 (65537 : Int32) ∈ gw_s := gw_i4 87 rfl rfl
theorem kc_X11_171 : Cond.constant RX11 171 (1000000000 : Int32) ∈ gw_s := gw_i3 156 rfl rfl
theorem kc_X11_200 : Cond.constant RX11 200 (99999 : Int32) ∈ gw_s := gw_i4 2 rfl rfl
theorem kc_X12_184 : Cond.constant RX12 184 (10000000 : Int32) ∈ gw_s := gw_i5 133 rfl rfl
theorem kc_X12_197 : Cond.constant RX12 197 (-10000000 : Int32) ∈ gw_s := gw_i5 154 rfl rfl
theorem kc_X12_207 : Cond.constant RX12 207 (99999 : Int32) ∈ gw_s := gw_i5 179 rfl rfl
theorem kc_X12_224 : Cond.constant RX12 224 (65537 : Int32) ∈ gw_s := gw_i5 217 rfl rfl
theorem kc_X3_107 : Cond.constant RX3 107 (1000000000 : Int32) ∈ gw_s := gw_i3 155 rfl rfl
theorem kc_X5_42 : Cond.constant RX5 42 (1000000000 : Int32) ∈ gw_s := gw_i3 145 rfl rfl
theorem kl_X11_215 : Cond.constantLong RX11 215 (-1000000000000000002 : Int64) ∈ gw_s := gw_i4 15 rfl rfl
theorem kl_X11_303 : Cond.constantLong RX11 303 (10 : Int64) ∈ gw_s := gw_i4 28 rfl rfl
theorem kl_X12_208 : Cond.constantLong RX12 208 (10 : Int64) ∈ gw_s := gw_i5 192 rfl rfl
theorem kl_X12_218 : Cond.constantLong RX12 218 (-1000000000000000002 : Int64) ∈ gw_s := gw_i5 184 rfl rfl
theorem fg_X0_12 : fr_k RX0 12 0 0 := ⟨Or.inl (gw_i1 195 rfl rfl), by decide, by decide, rfl⟩
theorem fg_X0_20 : fr_k RX0 20 0 1 := ⟨Or.inl (gw_i1 198 rfl rfl), by decide, by decide, rfl⟩
theorem fg_X0_27 : fr_k RX0 27 0 2 := ⟨Or.inl (gw_i1 199 rfl rfl), by decide, by decide, rfl⟩
theorem fg_X0_34 : fr_k RX0 34 0 3 := ⟨Or.inl (gw_i1 202 rfl rfl), by decide, by decide, rfl⟩
theorem fg_X0_39 : fr_k RX0 39 0 4 := ⟨Or.inl (gw_i1 205 rfl rfl), by decide, by decide, rfl⟩
theorem fg_X0_56 : fi_k RX0 56 0 5 := ⟨Or.inl (gw_i1 206 rfl rfl), by decide, by decide, rfl⟩
theorem fg_X0_63 : fr_k RX0 63 5 2 := ⟨Or.inr ⟨"BlowOwed", nw_i1 61 rfl rfl⟩, by decide, by decide, rfl⟩
theorem fg_X0_76 : fi_k RX0 76 2 0 := ⟨Or.inr ⟨"BlowOwed", nw_i1 119 rfl rfl⟩, by decide, by decide, rfl⟩
theorem fg_X0_80 : fi_k RX0 80 4 0 := ⟨Or.inr ⟨"BlowOwed", nw_i1 159 rfl rfl⟩, by decide, by decide, rfl⟩
theorem fg_X0_98 : fi_k RX0 98 4 4 := ⟨Or.inr ⟨"BlowOwed", nw_i1 173 rfl rfl⟩, by decide, by decide, rfl⟩
theorem fg_X0_108 : fi_k RX0 108 4 6 := ⟨Or.inr ⟨"BlowOwed", nw_i1 179 rfl rfl⟩, by decide, by decide, rfl⟩
theorem fg_X0_111 : fi_k RX0 111 4 5 := ⟨Or.inr ⟨"BlowOwed", nw_i1 176 rfl rfl⟩, by decide, by decide, rfl⟩
theorem fg_X0_114 : fi_k RX0 114 4 2 := ⟨Or.inr ⟨"BlowOwed", nw_i1 167 rfl rfl⟩, by decide, by decide, rfl⟩
theorem fg_X0_124 : fi_k RX0 124 5 1 := ⟨Or.inr ⟨"BlowOwed", nw_i1 59 rfl rfl⟩, by decide, by decide, rfl⟩
theorem fg_X0_142 : fi_k RX0 142 4 1 := ⟨Or.inr ⟨"BlowOwed", nw_i1 163 rfl rfl⟩, by decide, by decide, rfl⟩
theorem fg_X0_156 : fr_k RX0 156 2 1 := ⟨Or.inr ⟨"BlowOwed", nw_i1 124 rfl rfl⟩, by decide, by decide, rfl⟩
theorem fg_X0_165 : fi_k RX0 165 1 0 := ⟨Or.inr ⟨"BlowOwed", nw_i1 88 rfl rfl⟩, by decide, by decide, rfl⟩
theorem fg_X0_168 : fi_k RX0 168 1 2 := ⟨Or.inr ⟨"BlowOwed", nw_i1 97 rfl rfl⟩, by decide, by decide, rfl⟩
theorem fg_X0_176 : fi_k RX0 176 1 3 := ⟨Or.inr ⟨"BlowOwed", nw_i1 101 rfl rfl⟩, by decide, by decide, rfl⟩
theorem fg_X0_177 : fi_k RX0 177 1 1 := ⟨Or.inr ⟨"BlowOwed", nw_i1 93 rfl rfl⟩, by decide, by decide, rfl⟩
theorem fg_X0_180 : fi_k RX0 180 4 3 := ⟨Or.inr ⟨"BlowOwed", nw_i1 170 rfl rfl⟩, by decide, by decide, rfl⟩
theorem fg_X1_7 : fi_k RX1 7 1 0 := ⟨Or.inl (gw_i1 84 rfl rfl), by decide, by decide, rfl⟩
theorem fg_X1_13 : fi_k RX1 13 1 1 := ⟨Or.inl (gw_i1 89 rfl rfl), by decide, by decide, rfl⟩
theorem fg_X1_16 : fi_k RX1 16 1 2 := ⟨Or.inl (gw_i1 94 rfl rfl), by decide, by decide, rfl⟩
theorem fg_X1_19 : fi_k RX1 19 1 3 := ⟨Or.inl (gw_i1 98 rfl rfl), by decide, by decide, rfl⟩
theorem fg_X10_12 : fr_k RX10 12 10 0 := ⟨Or.inl (gw_i1 231 rfl rfl), by decide, by decide, rfl⟩
theorem fg_X10_22 : fi_k RX10 22 10 1 := ⟨Or.inl (gw_i1 233 rfl rfl), by decide, by decide, rfl⟩
theorem fg_X10_26 : fi_k RX10 26 10 2 := ⟨Or.inl (gw_i1 235 rfl rfl), by decide, by decide, rfl⟩
theorem fg_X10_29 : fi_k RX10 29 7 0 := ⟨Or.inr ⟨"BlowOwed", nw_i1 33 rfl rfl⟩, by decide, by decide, rfl⟩
theorem fg_X10_76 : fi_k RX10 76 10 3 := ⟨Or.inl (gw_i1 237 rfl rfl), by decide, by decide, rfl⟩
theorem fg_X10_79 : fi_k RX10 79 10 4 := ⟨Or.inl (gw_i1 239 rfl rfl), by decide, by decide, rfl⟩
theorem fg_X11_10 : fr_k RX11 10 11 0 := ⟨Or.inl (gw_i2 63 rfl rfl), by decide, by decide, rfl⟩
theorem fg_X11_19 : fr_k RX11 19 11 1 := ⟨Or.inl (gw_i2 64 rfl rfl), by decide, by decide, rfl⟩
theorem fg_X11_23 : fr_k RX11 23 11 2 := ⟨Or.inl (gw_i2 65 rfl rfl), by decide, by decide, rfl⟩
theorem fg_X11_30 : fr_k RX11 30 11 3 := ⟨Or.inl (gw_i2 66 rfl rfl), by decide, by decide, rfl⟩
theorem fg_X11_37 : fr_k RX11 37 11 4 := ⟨Or.inl (gw_i2 67 rfl rfl), by decide, by decide, rfl⟩
theorem fg_X11_44 : fr_k RX11 44 11 5 := ⟨Or.inl (gw_i2 68 rfl rfl), by decide, by decide, rfl⟩
theorem fg_X11_51 : fr_k RX11 51 11 6 := ⟨Or.inl (gw_i2 69 rfl rfl), by decide, by decide, rfl⟩
theorem fg_X11_59 : fr_k RX11 59 0 0 := ⟨Or.inr ⟨"BlowOwed", nw_i1 196 rfl rfl⟩, by decide, by decide, rfl⟩
theorem fg_X11_63 : fi_k RX11 63 5 0 := ⟨Or.inr ⟨"BlowOwed", nw_i1 55 rfl rfl⟩, by decide, by decide, rfl⟩
theorem fg_X11_85 : fr_k RX11 85 0 2 := ⟨Or.inr ⟨"BlowOwed", nw_i1 201 rfl rfl⟩, by decide, by decide, rfl⟩
theorem fg_X11_89 : fi_k RX11 89 2 0 := ⟨Or.inr ⟨"BlowOwed", nw_i1 120 rfl rfl⟩, by decide, by decide, rfl⟩
theorem fg_X11_94 : fi_k RX11 94 5 1 := ⟨Or.inr ⟨"BlowOwed", nw_i1 58 rfl rfl⟩, by decide, by decide, rfl⟩
theorem fg_X11_101 : fi_k RX11 101 4 0 := ⟨Or.inr ⟨"BlowOwed", nw_i1 160 rfl rfl⟩, by decide, by decide, rfl⟩
theorem fg_X11_126 : fi_k RX11 126 7 0 := ⟨Or.inr ⟨"BlowOwed", nw_i1 34 rfl rfl⟩, by decide, by decide, rfl⟩
theorem fg_X11_141 : fi_k RX11 141 10 1 := ⟨Or.inr ⟨"BlowOwed", nw_i1 234 rfl rfl⟩, by decide, by decide, rfl⟩
theorem fg_X11_144 : fi_k RX11 144 10 2 := ⟨Or.inr ⟨"BlowOwed", nw_i1 236 rfl rfl⟩, by decide, by decide, rfl⟩
theorem fg_X11_147 : fr_k RX11 147 10 0 := ⟨Or.inr ⟨"BlowOwed", nw_i1 232 rfl rfl⟩, by decide, by decide, rfl⟩
theorem fg_X11_160 : fr_k RX11 160 2 1 := ⟨Or.inr ⟨"BlowOwed", nw_i1 125 rfl rfl⟩, by decide, by decide, rfl⟩
theorem fg_X11_237 : fr_k RX11 237 0 3 := ⟨Or.inr ⟨"BlowOwed", nw_i1 204 rfl rfl⟩, by decide, by decide, rfl⟩
theorem fg_X11_241 : fi_k RX11 241 9 0 := ⟨Or.inr ⟨"BlowOwed", nw_i1 140 rfl rfl⟩, by decide, by decide, rfl⟩
theorem fg_X11_249 : fi_k RX11 249 8 1 := ⟨Or.inr ⟨"BlowOwed", nw_i2 49 rfl rfl⟩, by decide, by decide, rfl⟩
theorem fg_X11_251 : fi_k RX11 251 8 2 := ⟨Or.inr ⟨"BlowOwed", nw_i2 51 rfl rfl⟩, by decide, by decide, rfl⟩
theorem fg_X11_254 : fi_k RX11 254 8 3 := ⟨Or.inr ⟨"BlowOwed", nw_i2 53 rfl rfl⟩, by decide, by decide, rfl⟩
theorem fg_X11_264 : fi_k RX11 264 10 3 := ⟨Or.inr ⟨"BlowOwed", nw_i1 238 rfl rfl⟩, by decide, by decide, rfl⟩
theorem fg_X11_267 : fi_k RX11 267 10 4 := ⟨Or.inr ⟨"BlowOwed", nw_i2 0 rfl rfl⟩, by decide, by decide, rfl⟩
theorem fg_X11_279 : fi_k RX11 279 0 5 := ⟨Or.inr ⟨"BlowOwed", nw_i1 208 rfl rfl⟩, by decide, by decide, rfl⟩
theorem fg_X11_288 : fi_k RX11 288 4 2 := ⟨Or.inr ⟨"BlowOwed", nw_i1 168 rfl rfl⟩, by decide, by decide, rfl⟩
theorem fg_X11_291 : fi_k RX11 291 4 1 := ⟨Or.inr ⟨"BlowOwed", nw_i1 164 rfl rfl⟩, by decide, by decide, rfl⟩
theorem fg_X11_294 : fi_k RX11 294 4 3 := ⟨Or.inr ⟨"BlowOwed", nw_i1 171 rfl rfl⟩, by decide, by decide, rfl⟩
theorem fg_X12_7 : fi_k RX12 7 12 0 := ⟨Or.inl (gw_i4 123 rfl rfl), by decide, by decide, rfl⟩
theorem fg_X12_13 : fr_k RX12 13 12 1 := ⟨Or.inl (gw_i4 124 rfl rfl), by decide, by decide, rfl⟩
theorem fg_X12_17 : fi_k RX12 17 12 2 := ⟨Or.inl (gw_i4 125 rfl rfl), by decide, by decide, rfl⟩
theorem fg_X12_20 : fr_k RX12 20 12 4 := ⟨Or.inl (gw_i4 127 rfl rfl), by decide, by decide, rfl⟩
theorem fg_X12_23 : fr_k RX12 23 12 5 := ⟨Or.inl (gw_i4 128 rfl rfl), by decide, by decide, rfl⟩
theorem fg_X12_26 : fr_k RX12 26 12 7 := ⟨Or.inl (gw_i4 130 rfl rfl), by decide, by decide, rfl⟩
theorem fg_X12_29 : fr_k RX12 29 12 9 := ⟨Or.inl (gw_i4 132 rfl rfl), by decide, by decide, rfl⟩
theorem fg_X12_32 : fr_k RX12 32 12 10 := ⟨Or.inl (gw_i4 133 rfl rfl), by decide, by decide, rfl⟩
theorem fg_X12_35 : fr_k RX12 35 12 11 := ⟨Or.inl (gw_i4 134 rfl rfl), by decide, by decide, rfl⟩
theorem fg_X12_38 : fr_k RX12 38 12 12 := ⟨Or.inl (gw_i4 135 rfl rfl), by decide, by decide, rfl⟩
theorem fg_X12_41 : fr_k RX12 41 12 14 := ⟨Or.inl (gw_i4 137 rfl rfl), by decide, by decide, rfl⟩
theorem fg_X12_44 : fr_k RX12 44 12 16 := ⟨Or.inl (gw_i4 139 rfl rfl), by decide, by decide, rfl⟩
theorem fg_X12_47 : fr_k RX12 47 12 18 := ⟨Or.inl (gw_i4 141 rfl rfl), by decide, by decide, rfl⟩
theorem fg_X12_50 : fr_k RX12 50 12 19 := ⟨Or.inl (gw_i4 142 rfl rfl), by decide, by decide, rfl⟩
theorem fg_X12_53 : fr_k RX12 53 12 20 := ⟨Or.inl (gw_i4 143 rfl rfl), by decide, by decide, rfl⟩
theorem fg_X12_56 : fr_k RX12 56 12 21 := ⟨Or.inl (gw_i4 144 rfl rfl), by decide, by decide, rfl⟩
theorem fg_X12_59 : fr_k RX12 59 12 23 := ⟨Or.inl (gw_i4 146 rfl rfl), by decide, by decide, rfl⟩
theorem fg_X12_62 : fr_k RX12 62 12 26 := ⟨Or.inl (gw_i4 149 rfl rfl), by decide, by decide, rfl⟩
theorem fg_X12_65 : fr_k RX12 65 12 27 := ⟨Or.inl (gw_i4 150 rfl rfl), by decide, by decide, rfl⟩
theorem fg_X12_68 : fr_k RX12 68 12 28 := ⟨Or.inl (gw_i4 151 rfl rfl), by decide, by decide, rfl⟩
theorem fg_X12_71 : fr_k RX12 71 12 30 := ⟨Or.inl (gw_i4 153 rfl rfl), by decide, by decide, rfl⟩
theorem fg_X12_74 : fr_k RX12 74 12 31 := ⟨Or.inl (gw_i4 154 rfl rfl), by decide, by decide, rfl⟩
theorem fg_X12_78 : fi_k RX12 78 12 3 := ⟨Or.inl (gw_i4 126 rfl rfl), by decide, by decide, rfl⟩
theorem fg_X12_89 : fi_k RX12 89 12 6 := ⟨Or.inl (gw_i4 129 rfl rfl), by decide, by decide, rfl⟩
theorem fg_X12_92 : fi_k RX12 92 12 8 := ⟨Or.inl (gw_i4 131 rfl rfl), by decide, by decide, rfl⟩
theorem fg_X12_95 : fi_k RX12 95 12 13 := ⟨Or.inl (gw_i4 136 rfl rfl), by decide, by decide, rfl⟩
theorem fg_X12_109 : fi_k RX12 109 12 15 := ⟨Or.inl (gw_i4 138 rfl rfl), by decide, by decide, rfl⟩
theorem fg_X12_119 : fi_k RX12 119 12 17 := ⟨Or.inl (gw_i4 140 rfl rfl), by decide, by decide, rfl⟩
theorem fg_X12_122 : fi_k RX12 122 12 22 := ⟨Or.inl (gw_i4 145 rfl rfl), by decide, by decide, rfl⟩
theorem fg_X12_148 : fi_k RX12 148 12 25 := ⟨Or.inl (gw_i4 148 rfl rfl), by decide, by decide, rfl⟩
theorem fg_X12_151 : fi_k RX12 151 12 24 := ⟨Or.inl (gw_i4 147 rfl rfl), by decide, by decide, rfl⟩
theorem fg_X12_214 : fi_k RX12 214 12 29 := ⟨Or.inl (gw_i4 152 rfl rfl), by decide, by decide, rfl⟩
theorem fg_X2_11 : fr_k RX2 11 2 1 := ⟨Or.inl (gw_i1 121 rfl rfl), by decide, by decide, rfl⟩
theorem fg_X2_18 : fi_k RX2 18 2 0 := ⟨Or.inl (gw_i1 116 rfl rfl), by decide, by decide, rfl⟩
theorem fg_X2_22 : fi_k RX2 22 1 0 := ⟨Or.inr ⟨"BlowOwed", nw_i1 85 rfl rfl⟩, by decide, by decide, rfl⟩
theorem fg_X2_25 : fi_k RX2 25 1 1 := ⟨Or.inr ⟨"BlowOwed", nw_i1 90 rfl rfl⟩, by decide, by decide, rfl⟩
theorem fg_X2_28 : fi_k RX2 28 1 2 := ⟨Or.inr ⟨"BlowOwed", nw_i1 95 rfl rfl⟩, by decide, by decide, rfl⟩
theorem fg_X2_31 : fi_k RX2 31 1 3 := ⟨Or.inr ⟨"BlowOwed", nw_i1 99 rfl rfl⟩, by decide, by decide, rfl⟩
theorem fg_X2_38 : fi_k RX2 38 1 4 := ⟨Or.inr ⟨"BlowOwed", nw_i1 103 rfl rfl⟩, by decide, by decide, rfl⟩
theorem fg_X3_9 : fr_k RX3 9 3 0 := ⟨Or.inl (gw_i2 18 rfl rfl), by decide, by decide, rfl⟩
theorem fg_X3_15 : fr_k RX3 15 3 1 := ⟨Or.inl (gw_i2 19 rfl rfl), by decide, by decide, rfl⟩
theorem fg_X3_18 : fr_k RX3 18 3 2 := ⟨Or.inl (gw_i2 20 rfl rfl), by decide, by decide, rfl⟩
theorem fg_X3_29 : fr_k RX3 29 0 2 := ⟨Or.inr ⟨"BlowOwed", nw_i1 200 rfl rfl⟩, by decide, by decide, rfl⟩
theorem fg_X3_35 : fi_k RX3 35 2 0 := ⟨Or.inr ⟨"BlowOwed", nw_i1 118 rfl rfl⟩, by decide, by decide, rfl⟩
theorem fg_X3_66 : fr_k RX3 66 0 0 := ⟨Or.inr ⟨"BlowOwed", nw_i1 197 rfl rfl⟩, by decide, by decide, rfl⟩
theorem fg_X3_70 : fi_k RX3 70 4 5 := ⟨Or.inr ⟨"BlowOwed", nw_i1 175 rfl rfl⟩, by decide, by decide, rfl⟩
theorem fg_X3_75 : fi_k RX3 75 0 5 := ⟨Or.inr ⟨"BlowOwed", nw_i1 207 rfl rfl⟩, by decide, by decide, rfl⟩
theorem fg_X3_78 : fi_k RX3 78 4 6 := ⟨Or.inr ⟨"BlowOwed", nw_i1 178 rfl rfl⟩, by decide, by decide, rfl⟩
theorem fg_X3_91 : fr_k RX3 91 2 1 := ⟨Or.inr ⟨"BlowOwed", nw_i1 123 rfl rfl⟩, by decide, by decide, rfl⟩
theorem fg_X3_95 : fi_k RX3 95 1 1 := ⟨Or.inr ⟨"BlowOwed", nw_i1 92 rfl rfl⟩, by decide, by decide, rfl⟩
theorem fg_X3_100 : fi_k RX3 100 4 1 := ⟨Or.inr ⟨"BlowOwed", nw_i1 162 rfl rfl⟩, by decide, by decide, rfl⟩
theorem fg_X3_103 : fi_k RX3 103 1 3 := ⟨Or.inr ⟨"BlowOwed", nw_i1 100 rfl rfl⟩, by decide, by decide, rfl⟩
theorem fg_X3_104 : fi_k RX3 104 1 0 := ⟨Or.inr ⟨"BlowOwed", nw_i1 87 rfl rfl⟩, by decide, by decide, rfl⟩
theorem fg_X4_9 : fi_k RX4 9 4 0 := ⟨Or.inl (gw_i1 157 rfl rfl), by decide, by decide, rfl⟩
theorem fg_X4_15 : fi_k RX4 15 4 1 := ⟨Or.inl (gw_i1 161 rfl rfl), by decide, by decide, rfl⟩
theorem fg_X4_19 : fi_k RX4 19 4 2 := ⟨Or.inl (gw_i1 165 rfl rfl), by decide, by decide, rfl⟩
theorem fg_X4_22 : fi_k RX4 22 4 3 := ⟨Or.inl (gw_i1 169 rfl rfl), by decide, by decide, rfl⟩
theorem fg_X4_25 : fi_k RX4 25 4 4 := ⟨Or.inl (gw_i1 172 rfl rfl), by decide, by decide, rfl⟩
theorem fg_X4_28 : fi_k RX4 28 4 5 := ⟨Or.inl (gw_i1 174 rfl rfl), by decide, by decide, rfl⟩
theorem fg_X4_31 : fi_k RX4 31 4 6 := ⟨Or.inl (gw_i1 177 rfl rfl), by decide, by decide, rfl⟩
theorem fg_X5_9 : fi_k RX5 9 5 0 := ⟨Or.inl (gw_i1 54 rfl rfl), by decide, by decide, rfl⟩
theorem fg_X5_15 : fi_k RX5 15 5 1 := ⟨Or.inl (gw_i1 57 rfl rfl), by decide, by decide, rfl⟩
theorem fg_X5_18 : fr_k RX5 18 5 2 := ⟨Or.inl (gw_i1 60 rfl rfl), by decide, by decide, rfl⟩
theorem fg_X6_9 : fr_k RX6 9 6 0 := ⟨Or.inl (gw_i2 34 rfl rfl), by decide, by decide, rfl⟩
theorem fg_X6_15 : fr_k RX6 15 6 1 := ⟨Or.inl (gw_i2 35 rfl rfl), by decide, by decide, rfl⟩
theorem fg_X6_28 : fi_k RX6 28 2 0 := ⟨Or.inr ⟨"BlowOwed", nw_i1 117 rfl rfl⟩, by decide, by decide, rfl⟩
theorem fg_X6_34 : fr_k RX6 34 2 1 := ⟨Or.inr ⟨"BlowOwed", nw_i1 122 rfl rfl⟩, by decide, by decide, rfl⟩
theorem fg_X6_38 : fi_k RX6 38 1 0 := ⟨Or.inr ⟨"BlowOwed", nw_i1 86 rfl rfl⟩, by decide, by decide, rfl⟩
theorem fg_X6_43 : fi_k RX6 43 1 2 := ⟨Or.inr ⟨"BlowOwed", nw_i1 96 rfl rfl⟩, by decide, by decide, rfl⟩
theorem fg_X6_46 : fi_k RX6 46 1 1 := ⟨Or.inr ⟨"BlowOwed", nw_i1 91 rfl rfl⟩, by decide, by decide, rfl⟩
theorem fg_X7_9 : fr_k RX7 9 7 1 := ⟨Or.inl (gw_i1 35 rfl rfl), by decide, by decide, rfl⟩
theorem fg_X7_15 : fi_k RX7 15 7 0 := ⟨Or.inl (gw_i1 32 rfl rfl), by decide, by decide, rfl⟩
theorem fg_X8_9 : fr_k RX8 9 8 0 := ⟨Or.inl (gw_i2 47 rfl rfl), by decide, by decide, rfl⟩
theorem fg_X8_25 : fi_k RX8 25 8 1 := ⟨Or.inl (gw_i2 48 rfl rfl), by decide, by decide, rfl⟩
theorem fg_X8_29 : fi_k RX8 29 8 2 := ⟨Or.inl (gw_i2 50 rfl rfl), by decide, by decide, rfl⟩
theorem fg_X8_32 : fi_k RX8 32 8 3 := ⟨Or.inl (gw_i2 52 rfl rfl), by decide, by decide, rfl⟩
theorem fg_X8_41 : fr_k RX8 41 0 3 := ⟨Or.inr ⟨"BlowOwed", nw_i1 203 rfl rfl⟩, by decide, by decide, rfl⟩
theorem fg_X8_47 : fi_k RX8 47 9 0 := ⟨Or.inr ⟨"BlowOwed", nw_i1 138 rfl rfl⟩, by decide, by decide, rfl⟩
theorem fg_X8_56 : fr_k RX8 56 9 1 := ⟨Or.inr ⟨"BlowOwed", nw_i1 142 rfl rfl⟩, by decide, by decide, rfl⟩
theorem fg_X8_59 : fi_k RX8 59 4 0 := ⟨Or.inr ⟨"BlowOwed", nw_i1 158 rfl rfl⟩, by decide, by decide, rfl⟩
theorem fg_X8_65 : fi_k RX8 65 4 2 := ⟨Or.inr ⟨"BlowOwed", nw_i1 166 rfl rfl⟩, by decide, by decide, rfl⟩
theorem fg_X8_68 : fr_k RX8 68 9 2 := ⟨Or.inr ⟨"BlowOwed", nw_i1 144 rfl rfl⟩, by decide, by decide, rfl⟩
theorem fg_X9_9 : fr_k RX9 9 9 1 := ⟨Or.inl (gw_i1 141 rfl rfl), by decide, by decide, rfl⟩
theorem fg_X9_15 : fr_k RX9 15 9 2 := ⟨Or.inl (gw_i1 143 rfl rfl), by decide, by decide, rfl⟩
theorem fg_X9_18 : fi_k RX9 18 9 0 := ⟨Or.inl (gw_i1 137 rfl rfl), by decide, by decide, rfl⟩
theorem fp_X0_12 : wr_k RX0 12 0 0 := ⟨gw_i1 195 rfl rfl, by decide, by decide, rfl, rfl, rfl⟩
theorem fp_X0_20 : wr_k RX0 20 0 1 := ⟨gw_i1 198 rfl rfl, by decide, by decide, rfl, rfl, rfl⟩
theorem fp_X0_27 : wr_k RX0 27 0 2 := ⟨gw_i1 199 rfl rfl, by decide, by decide, rfl, rfl, rfl⟩
theorem fp_X0_34 : wr_k RX0 34 0 3 := ⟨gw_i1 202 rfl rfl, by decide, by decide, rfl, rfl, rfl⟩
theorem fp_X0_39 : wr_k RX0 39 0 4 := ⟨gw_i1 205 rfl rfl, by decide, by decide, rfl, rfl, rfl⟩
theorem fp_X0_56 : wi_k RX0 56 0 5 := ⟨Or.inl (gw_i1 206 rfl rfl), by decide, by decide, rfl, rfl⟩
theorem fp_X0_60 : wi_k RX0 60 5 0 := ⟨Or.inr ⟨"BlowOwed", nw_i1 56 rfl rfl⟩, by decide, by decide, rfl, rfl⟩
theorem fp_X0_76 : wi_k RX0 76 2 0 := ⟨Or.inr ⟨"BlowOwed", nw_i1 119 rfl rfl⟩, by decide, by decide, rfl, rfl⟩
theorem fp_X0_79 : wi_k RX0 79 9 0 := ⟨Or.inr ⟨"BlowOwed", nw_i1 139 rfl rfl⟩, by decide, by decide, rfl, rfl⟩
theorem fp_X0_98 : wi_k RX0 98 4 4 := ⟨Or.inr ⟨"BlowOwed", nw_i1 173 rfl rfl⟩, by decide, by decide, rfl, rfl⟩
theorem fp_X0_108 : wi_k RX0 108 4 6 := ⟨Or.inr ⟨"BlowOwed", nw_i1 179 rfl rfl⟩, by decide, by decide, rfl, rfl⟩
theorem fp_X0_111 : wi_k RX0 111 4 5 := ⟨Or.inr ⟨"BlowOwed", nw_i1 176 rfl rfl⟩, by decide, by decide, rfl, rfl⟩
theorem fp_X0_160 : wz_k RX0 160 1 4 := ⟨Or.inr ⟨"BlowOwed", nw_i1 104 rfl rfl⟩, by decide, by decide, rfl, rfl⟩
theorem fp_X0_168 : wi_k RX0 168 1 2 := ⟨Or.inr ⟨"BlowOwed", nw_i1 97 rfl rfl⟩, by decide, by decide, rfl, rfl⟩
theorem fp_X0_180 : wi_k RX0 180 4 3 := ⟨Or.inr ⟨"BlowOwed", nw_i1 170 rfl rfl⟩, by decide, by decide, rfl, rfl⟩
theorem fp_X1_7 : wi_k RX1 7 1 0 := ⟨Or.inl (gw_i1 84 rfl rfl), by decide, by decide, rfl, rfl⟩
theorem fp_X1_13 : wi_k RX1 13 1 1 := ⟨Or.inl (gw_i1 89 rfl rfl), by decide, by decide, rfl, rfl⟩
theorem fp_X1_16 : wi_k RX1 16 1 2 := ⟨Or.inl (gw_i1 94 rfl rfl), by decide, by decide, rfl, rfl⟩
theorem fp_X1_19 : wi_k RX1 19 1 3 := ⟨Or.inl (gw_i1 98 rfl rfl), by decide, by decide, rfl, rfl⟩
theorem fp_X1_22 : wz_k RX1 22 1 4 := ⟨Or.inl (gw_i1 102 rfl rfl), by decide, by decide, rfl, rfl⟩
theorem fp_X10_12 : wr_k RX10 12 10 0 := ⟨gw_i1 231 rfl rfl, by decide, by decide, rfl, rfl, rfl⟩
theorem fp_X10_22 : wi_k RX10 22 10 1 := ⟨Or.inl (gw_i1 233 rfl rfl), by decide, by decide, rfl, rfl⟩
theorem fp_X10_26 : wi_k RX10 26 10 2 := ⟨Or.inl (gw_i1 235 rfl rfl), by decide, by decide, rfl, rfl⟩
theorem fp_X10_76 : wi_k RX10 76 10 3 := ⟨Or.inl (gw_i1 237 rfl rfl), by decide, by decide, rfl, rfl⟩
theorem fp_X10_79 : wi_k RX10 79 10 4 := ⟨Or.inl (gw_i1 239 rfl rfl), by decide, by decide, rfl, rfl⟩
theorem fp_X11_10 : wr_k RX11 10 11 0 := ⟨gw_i2 63 rfl rfl, by decide, by decide, rfl, rfl, rfl⟩
theorem fp_X11_19 : wr_k RX11 19 11 1 := ⟨gw_i2 64 rfl rfl, by decide, by decide, rfl, rfl, rfl⟩
theorem fp_X11_23 : wr_k RX11 23 11 2 := ⟨gw_i2 65 rfl rfl, by decide, by decide, rfl, rfl, rfl⟩
theorem fp_X11_30 : wr_k RX11 30 11 3 := ⟨gw_i2 66 rfl rfl, by decide, by decide, rfl, rfl, rfl⟩
theorem fp_X11_37 : wr_k RX11 37 11 4 := ⟨gw_i2 67 rfl rfl, by decide, by decide, rfl, rfl, rfl⟩
theorem fp_X11_44 : wr_k RX11 44 11 5 := ⟨gw_i2 68 rfl rfl, by decide, by decide, rfl, rfl, rfl⟩
theorem fp_X11_51 : wr_k RX11 51 11 6 := ⟨gw_i2 69 rfl rfl, by decide, by decide, rfl, rfl, rfl⟩
theorem fp_X11_94 : wi_k RX11 94 5 1 := ⟨Or.inr ⟨"BlowOwed", nw_i1 58 rfl rfl⟩, by decide, by decide, rfl, rfl⟩
theorem fp_X11_126 : wi_k RX11 126 7 0 := ⟨Or.inr ⟨"BlowOwed", nw_i1 34 rfl rfl⟩, by decide, by decide, rfl, rfl⟩
theorem fp_X11_241 : wi_k RX11 241 9 0 := ⟨Or.inr ⟨"BlowOwed", nw_i1 140 rfl rfl⟩, by decide, by decide, rfl, rfl⟩
theorem fp_X12_7 : wi_k RX12 7 12 0 := ⟨Or.inl (gw_i4 123 rfl rfl), by decide, by decide, rfl, rfl⟩
theorem fp_X12_13 : wr_k RX12 13 12 1 := ⟨gw_i4 124 rfl rfl, by decide, by decide, rfl, rfl, rfl⟩
theorem fp_X12_17 : wi_k RX12 17 12 2 := ⟨Or.inl (gw_i4 125 rfl rfl), by decide, by decide, rfl, rfl⟩
theorem fp_X12_20 : wr_k RX12 20 12 4 := ⟨gw_i4 127 rfl rfl, by decide, by decide, rfl, rfl, rfl⟩
theorem fp_X12_23 : wr_k RX12 23 12 5 := ⟨gw_i4 128 rfl rfl, by decide, by decide, rfl, rfl, rfl⟩
theorem fp_X12_26 : wr_k RX12 26 12 7 := ⟨gw_i4 130 rfl rfl, by decide, by decide, rfl, rfl, rfl⟩
theorem fp_X12_29 : wr_k RX12 29 12 9 := ⟨gw_i4 132 rfl rfl, by decide, by decide, rfl, rfl, rfl⟩
theorem fp_X12_32 : wr_k RX12 32 12 10 := ⟨gw_i4 133 rfl rfl, by decide, by decide, rfl, rfl, rfl⟩
theorem fp_X12_35 : wr_k RX12 35 12 11 := ⟨gw_i4 134 rfl rfl, by decide, by decide, rfl, rfl, rfl⟩
theorem fp_X12_38 : wr_k RX12 38 12 12 := ⟨gw_i4 135 rfl rfl, by decide, by decide, rfl, rfl, rfl⟩
theorem fp_X12_41 : wr_k RX12 41 12 14 := ⟨gw_i4 137 rfl rfl, by decide, by decide, rfl, rfl, rfl⟩
theorem fp_X12_44 : wr_k RX12 44 12 16 := ⟨gw_i4 139 rfl rfl, by decide, by decide, rfl, rfl, rfl⟩
theorem fp_X12_47 : wr_k RX12 47 12 18 := ⟨gw_i4 141 rfl rfl, by decide, by decide, rfl, rfl, rfl⟩
theorem fp_X12_50 : wr_k RX12 50 12 19 := ⟨gw_i4 142 rfl rfl, by decide, by decide, rfl, rfl, rfl⟩
theorem fp_X12_53 : wr_k RX12 53 12 20 := ⟨gw_i4 143 rfl rfl, by decide, by decide, rfl, rfl, rfl⟩
theorem fp_X12_56 : wr_k RX12 56 12 21 := ⟨gw_i4 144 rfl rfl, by decide, by decide, rfl, rfl, rfl⟩
theorem fp_X12_59 : wr_k RX12 59 12 23 := ⟨gw_i4 146 rfl rfl, by decide, by decide, rfl, rfl, rfl⟩
theorem fp_X12_62 : wr_k RX12 62 12 26 := ⟨gw_i4 149 rfl rfl, by decide, by decide, rfl, rfl, rfl⟩
theorem fp_X12_65 : wr_k RX12 65 12 27 := ⟨gw_i4 150 rfl rfl, by decide, by decide, rfl, rfl, rfl⟩
theorem fp_X12_68 : wr_k RX12 68 12 28 := ⟨gw_i4 151 rfl rfl, by decide, by decide, rfl, rfl, rfl⟩
theorem fp_X12_71 : wr_k RX12 71 12 30 := ⟨gw_i4 153 rfl rfl, by decide, by decide, rfl, rfl, rfl⟩
theorem fp_X12_74 : wr_k RX12 74 12 31 := ⟨gw_i4 154 rfl rfl, by decide, by decide, rfl, rfl, rfl⟩
theorem fp_X12_78 : wi_k RX12 78 12 3 := ⟨Or.inl (gw_i4 126 rfl rfl), by decide, by decide, rfl, rfl⟩
theorem fp_X12_89 : wi_k RX12 89 12 6 := ⟨Or.inl (gw_i4 129 rfl rfl), by decide, by decide, rfl, rfl⟩
theorem fp_X12_92 : wi_k RX12 92 12 8 := ⟨Or.inl (gw_i4 131 rfl rfl), by decide, by decide, rfl, rfl⟩
theorem fp_X12_95 : wi_k RX12 95 12 13 := ⟨Or.inl (gw_i4 136 rfl rfl), by decide, by decide, rfl, rfl⟩
theorem fp_X12_109 : wi_k RX12 109 12 15 := ⟨Or.inl (gw_i4 138 rfl rfl), by decide, by decide, rfl, rfl⟩
theorem fp_X12_119 : wi_k RX12 119 12 17 := ⟨Or.inl (gw_i4 140 rfl rfl), by decide, by decide, rfl, rfl⟩
theorem fp_X12_122 : wi_k RX12 122 12 22 := ⟨Or.inl (gw_i4 145 rfl rfl), by decide, by decide, rfl, rfl⟩
theorem fp_X12_148 : wi_k RX12 148 12 25 := ⟨Or.inl (gw_i4 148 rfl rfl), by decide, by decide, rfl, rfl⟩
theorem fp_X12_151 : wi_k RX12 151 12 24 := ⟨Or.inl (gw_i4 147 rfl rfl), by decide, by decide, rfl, rfl⟩
theorem fp_X12_214 : wz_k RX12 214 12 29 := ⟨Or.inl (gw_i4 152 rfl rfl), by decide, by decide, rfl, rfl⟩
theorem fp_X2_11 : wr_k RX2 11 2 1 := ⟨gw_i1 121 rfl rfl, by decide, by decide, rfl, rfl, rfl⟩
theorem fp_X2_18 : wi_k RX2 18 2 0 := ⟨Or.inl (gw_i1 116 rfl rfl), by decide, by decide, rfl, rfl⟩
theorem fp_X2_22 : wi_k RX2 22 1 0 := ⟨Or.inr ⟨"BlowOwed", nw_i1 85 rfl rfl⟩, by decide, by decide, rfl, rfl⟩
theorem fp_X2_25 : wi_k RX2 25 1 1 := ⟨Or.inr ⟨"BlowOwed", nw_i1 90 rfl rfl⟩, by decide, by decide, rfl, rfl⟩
theorem fp_X2_28 : wi_k RX2 28 1 2 := ⟨Or.inr ⟨"BlowOwed", nw_i1 95 rfl rfl⟩, by decide, by decide, rfl, rfl⟩
theorem fp_X2_38 : wz_k RX2 38 1 4 := ⟨Or.inr ⟨"BlowOwed", nw_i1 103 rfl rfl⟩, by decide, by decide, rfl, rfl⟩
theorem fp_X3_9 : wr_k RX3 9 3 0 := ⟨gw_i2 18 rfl rfl, by decide, by decide, rfl, rfl, rfl⟩
theorem fp_X3_15 : wr_k RX3 15 3 1 := ⟨gw_i2 19 rfl rfl, by decide, by decide, rfl, rfl, rfl⟩
theorem fp_X3_18 : wr_k RX3 18 3 2 := ⟨gw_i2 20 rfl rfl, by decide, by decide, rfl, rfl, rfl⟩
theorem fp_X4_9 : wz_k RX4 9 4 0 := ⟨Or.inl (gw_i1 157 rfl rfl), by decide, by decide, rfl, rfl⟩
theorem fp_X4_15 : wi_k RX4 15 4 1 := ⟨Or.inl (gw_i1 161 rfl rfl), by decide, by decide, rfl, rfl⟩
theorem fp_X4_19 : wi_k RX4 19 4 2 := ⟨Or.inl (gw_i1 165 rfl rfl), by decide, by decide, rfl, rfl⟩
theorem fp_X4_22 : wi_k RX4 22 4 3 := ⟨Or.inl (gw_i1 169 rfl rfl), by decide, by decide, rfl, rfl⟩
theorem fp_X4_25 : wi_k RX4 25 4 4 := ⟨Or.inl (gw_i1 172 rfl rfl), by decide, by decide, rfl, rfl⟩
theorem fp_X4_28 : wi_k RX4 28 4 5 := ⟨Or.inl (gw_i1 174 rfl rfl), by decide, by decide, rfl, rfl⟩
theorem fp_X4_31 : wi_k RX4 31 4 6 := ⟨Or.inl (gw_i1 177 rfl rfl), by decide, by decide, rfl, rfl⟩
theorem fp_X5_9 : wi_k RX5 9 5 0 := ⟨Or.inl (gw_i1 54 rfl rfl), by decide, by decide, rfl, rfl⟩
theorem fp_X5_15 : wi_k RX5 15 5 1 := ⟨Or.inl (gw_i1 57 rfl rfl), by decide, by decide, rfl, rfl⟩
theorem fp_X5_18 : wr_k RX5 18 5 2 := ⟨gw_i1 60 rfl rfl, by decide, by decide, rfl, rfl, rfl⟩
theorem fp_X6_9 : wr_k RX6 9 6 0 := ⟨gw_i2 34 rfl rfl, by decide, by decide, rfl, rfl, rfl⟩
theorem fp_X6_15 : wr_k RX6 15 6 1 := ⟨gw_i2 35 rfl rfl, by decide, by decide, rfl, rfl, rfl⟩
theorem fp_X7_9 : wr_k RX7 9 7 1 := ⟨gw_i1 35 rfl rfl, by decide, by decide, rfl, rfl, rfl⟩
theorem fp_X7_15 : wi_k RX7 15 7 0 := ⟨Or.inl (gw_i1 32 rfl rfl), by decide, by decide, rfl, rfl⟩
theorem fp_X8_9 : wr_k RX8 9 8 0 := ⟨gw_i2 47 rfl rfl, by decide, by decide, rfl, rfl, rfl⟩
theorem fp_X8_25 : wi_k RX8 25 8 1 := ⟨Or.inl (gw_i2 48 rfl rfl), by decide, by decide, rfl, rfl⟩
theorem fp_X8_29 : wi_k RX8 29 8 2 := ⟨Or.inl (gw_i2 50 rfl rfl), by decide, by decide, rfl, rfl⟩
theorem fp_X8_32 : wi_k RX8 32 8 3 := ⟨Or.inl (gw_i2 52 rfl rfl), by decide, by decide, rfl, rfl⟩
theorem fp_X9_9 : wr_k RX9 9 9 1 := ⟨gw_i1 141 rfl rfl, by decide, by decide, rfl, rfl, rfl⟩
theorem fp_X9_15 : wr_k RX9 15 9 2 := ⟨gw_i1 143 rfl rfl, by decide, by decide, rfl, rfl, rfl⟩
theorem fp_X9_18 : wi_k RX9 18 9 0 := ⟨Or.inl (gw_i1 137 rfl rfl), by decide, by decide, rfl, rfl⟩
theorem cn_X0_9 : no_k RX0 9 5 := ⟨by decide, gw_i1 48 rfl rfl, gw_i1 49 rfl rfl, gw_i1 4 rfl rfl⟩
theorem cn_X0_18 : no_k RX0 18 4 := ⟨by decide, gw_i1 69 rfl rfl, gw_i1 152 rfl rfl, gw_i1 8 rfl rfl⟩
theorem cn_X0_24 : no_k RX0 24 2 := ⟨by decide, gw_i1 71 rfl rfl, gw_i1 72 rfl rfl, gw_i1 5 rfl rfl⟩
theorem cn_X0_31 : no_k RX0 31 9 := ⟨by decide, gw_i1 131 rfl rfl, gw_i1 132 rfl rfl, gw_i1 7 rfl rfl⟩
theorem cn_X10_9 : no_k RX10 9 0 := ⟨by decide, gw_i1 229 rfl rfl, gw_i1 43 rfl rfl, gw_i1 3 rfl rfl⟩
theorem cn_X11_7 : no_k RX11 7 7 := ⟨by decide, gw_i1 26 rfl rfl, gw_i1 27 rfl rfl, gw_i1 2 rfl rfl⟩
theorem cn_X11_16 : no_k RX11 16 0 := ⟨by decide, gw_i1 42 rfl rfl, gw_i1 43 rfl rfl, gw_i1 3 rfl rfl⟩
theorem cn_X11_27 : no_k RX11 27 10 := ⟨by decide, gw_i1 223 rfl rfl, gw_i1 224 rfl rfl, gw_i1 9 rfl rfl⟩
theorem cn_X11_34 : no_k RX11 34 3 := ⟨by decide, gw_i2 12 rfl rfl, gw_i2 13 rfl rfl, gw_i1 10 rfl rfl⟩
theorem cn_X11_41 : no_k RX11 41 6 := ⟨by decide, gw_i2 28 rfl rfl, gw_i2 29 rfl rfl, gw_i1 11 rfl rfl⟩
theorem cn_X11_48 : no_k RX11 48 8 := ⟨by decide, gw_i2 41 rfl rfl, gw_i2 42 rfl rfl, gw_i1 12 rfl rfl⟩
theorem cn_X2_9 : no_k RX2 9 1 := ⟨by decide, gw_i1 77 rfl rfl, gw_i1 79 rfl rfl, gw_i1 6 rfl rfl⟩
theorem ao_0 : Cond.arrayOver (.object RX0) ∈ nw_s := nw_i1 222 rfl rfl
theorem ao_1 : Cond.arrayOver (.object RX1) ∈ nw_s := nw_i1 78 rfl rfl
theorem ao_4 : Cond.arrayOver (.object RX4) ∈ nw_s := nw_i1 70 rfl rfl
theorem aw_int : Cond.arrayClass .int ∈ gw_s := gw_i1 41 rfl rfl
theorem aw_boolean : Cond.arrayClass .boolean ∈ gw_s := gw_i4 220 rfl rfl
theorem aw_copy : Cond.native arraycopyName ∈ gw_s ∧ Cond.static arraycopyName ∈ gw_s ∧ Cond.initialized "java/lang/System" ∈ gw_s := ⟨gw_i2 233 rfl rfl, gw_i2 232 rfl rfl, gw_i1 16 rfl rfl⟩
theorem aw_obj : Cond.instanceMethod Lib.objectInit ∈ gw_s ∧ Cond.code Lib.objectInit ⟨#[0xb1]⟩ 1 none ∈ gw_s := ⟨gw_i1 24 rfl rfl, gw_i1 25 rfl rfl⟩
abbrev mX5_init : My := (RX5, cX5_init, 1, none, "<init>")
theorem cw_X5_init : Cond.code yX5_init mX5_init.2.1 mX5_init.2.2.1 mX5_init.2.2.2.1 ∈ gw_s ∧ Cond.initialized yX5_init.cls ∈ gw_s ∧ (yX5_init.cls ≠ "java/lang/invoke/MethodHandle" ∧ yX5_init.cls ≠ "java/lang/invoke/VarHandle") ∧ (parseMethodDescriptor yX5_init.desc).map (fun d => d.parameters.length) = some 0 ∧ mX5_init.2.2.1 ≤ 19 := ⟨gw_i1 52 rfl rfl, gw_i1 4 rfl rfl, ⟨by decide +kernel, by decide +kernel⟩, by decide +kernel, by decide⟩
abbrev mX1_init : My := (RX1, cX1_init, 1, none, "<init>")
theorem cw_X1_init : Cond.code yX1_init mX1_init.2.1 mX1_init.2.2.1 mX1_init.2.2.2.1 ∈ gw_s ∧ Cond.initialized yX1_init.cls ∈ gw_s ∧ (yX1_init.cls ≠ "java/lang/invoke/MethodHandle" ∧ yX1_init.cls ≠ "java/lang/invoke/VarHandle") ∧ (parseMethodDescriptor yX1_init.desc).map (fun d => d.parameters.length) = some 0 ∧ mX1_init.2.2.1 ≤ 19 := ⟨gw_i1 82 rfl rfl, gw_i1 6 rfl rfl, ⟨by decide +kernel, by decide +kernel⟩, by decide +kernel, by decide⟩
abbrev mX2_init : My := (RX2, cX2_init, 2, none, "<init>")
theorem cw_X2_init : Cond.code yX2_init mX2_init.2.1 mX2_init.2.2.1 mX2_init.2.2.2.1 ∈ gw_s ∧ Cond.initialized yX2_init.cls ∈ gw_s ∧ (yX2_init.cls ≠ "java/lang/invoke/MethodHandle" ∧ yX2_init.cls ≠ "java/lang/invoke/VarHandle") ∧ (parseMethodDescriptor yX2_init.desc).map (fun d => d.parameters.length) = some 0 ∧ mX2_init.2.2.1 ≤ 19 := ⟨gw_i1 75 rfl rfl, gw_i1 5 rfl rfl, ⟨by decide +kernel, by decide +kernel⟩, by decide +kernel, by decide⟩
abbrev mX9_init : My := (RX9, cX9_init, 1, none, "<init>")
theorem cw_X9_init : Cond.code yX9_init mX9_init.2.1 mX9_init.2.2.1 mX9_init.2.2.2.1 ∈ gw_s ∧ Cond.initialized yX9_init.cls ∈ gw_s ∧ (yX9_init.cls ≠ "java/lang/invoke/MethodHandle" ∧ yX9_init.cls ≠ "java/lang/invoke/VarHandle") ∧ (parseMethodDescriptor yX9_init.desc).map (fun d => d.parameters.length) = some 0 ∧ mX9_init.2.2.1 ≤ 19 := ⟨gw_i1 135 rfl rfl, gw_i1 7 rfl rfl, ⟨by decide +kernel, by decide +kernel⟩, by decide +kernel, by decide⟩
abbrev mX4_init : My := (RX4, cX4_init, 1, none, "<init>")
theorem cw_X4_init : Cond.code yX4_init mX4_init.2.1 mX4_init.2.2.1 mX4_init.2.2.2.1 ∈ gw_s ∧ Cond.initialized yX4_init.cls ∈ gw_s ∧ (yX4_init.cls ≠ "java/lang/invoke/MethodHandle" ∧ yX4_init.cls ≠ "java/lang/invoke/VarHandle") ∧ (parseMethodDescriptor yX4_init.desc).map (fun d => d.parameters.length) = some 0 ∧ mX4_init.2.2.1 ≤ 19 := ⟨gw_i1 155 rfl rfl, gw_i1 8 rfl rfl, ⟨by decide +kernel, by decide +kernel⟩, by decide +kernel, by decide⟩
abbrev mX0_init : My := (RX0, cX0_init, 2, none, "<init>")
theorem cw_X0_init : Cond.code yX0_init mX0_init.2.1 mX0_init.2.2.1 mX0_init.2.2.2.1 ∈ gw_s ∧ Cond.initialized yX0_init.cls ∈ gw_s ∧ (yX0_init.cls ≠ "java/lang/invoke/MethodHandle" ∧ yX0_init.cls ≠ "java/lang/invoke/VarHandle") ∧ (parseMethodDescriptor yX0_init.desc).map (fun d => d.parameters.length) = some 0 ∧ mX0_init.2.2.1 ≤ 19 := ⟨gw_i1 46 rfl rfl, gw_i1 3 rfl rfl, ⟨by decide +kernel, by decide +kernel⟩, by decide +kernel, by decide⟩
abbrev mX5_copy : My := (RX5, cX5_copy, 2, none, "copy")
theorem cw_X5_copy : Cond.code yX5_copy mX5_copy.2.1 mX5_copy.2.2.1 mX5_copy.2.2.2.1 ∈ gw_s ∧ Cond.initialized yX5_copy.cls ∈ gw_s ∧ (yX5_copy.cls ≠ "java/lang/invoke/MethodHandle" ∧ yX5_copy.cls ≠ "java/lang/invoke/VarHandle") ∧ (parseMethodDescriptor yX5_copy.desc).map (fun d => d.parameters.length) = some 1 ∧ mX5_copy.2.2.1 ≤ 19 := ⟨gw_i2 230 rfl rfl, gw_i1 4 rfl rfl, ⟨by decide +kernel, by decide +kernel⟩, by decide +kernel, by decide⟩
abbrev mX4_copy : My := (RX4, cX4_copy, 2, none, "copy")
theorem cw_X4_copy : Cond.code yX4_copy mX4_copy.2.1 mX4_copy.2.2.1 mX4_copy.2.2.2.1 ∈ gw_s ∧ Cond.initialized yX4_copy.cls ∈ gw_s ∧ (yX4_copy.cls ≠ "java/lang/invoke/MethodHandle" ∧ yX4_copy.cls ≠ "java/lang/invoke/VarHandle") ∧ (parseMethodDescriptor yX4_copy.desc).map (fun d => d.parameters.length) = some 1 ∧ mX4_copy.2.2.1 ≤ 19 := ⟨gw_i2 237 rfl rfl, gw_i1 8 rfl rfl, ⟨by decide +kernel, by decide +kernel⟩, by decide +kernel, by decide⟩
abbrev mX1_set : My := (RX1, cX1_set, 5, none, "set")
theorem cw_X1_set : Cond.code yX1_set mX1_set.2.1 mX1_set.2.2.1 mX1_set.2.2.2.1 ∈ gw_s ∧ Cond.initialized yX1_set.cls ∈ gw_s ∧ (yX1_set.cls ≠ "java/lang/invoke/MethodHandle" ∧ yX1_set.cls ≠ "java/lang/invoke/VarHandle") ∧ (parseMethodDescriptor yX1_set.desc).map (fun d => d.parameters.length) = some 4 ∧ mX1_set.2.2.1 ≤ 19 := ⟨gw_i3 5 rfl rfl, gw_i1 6 rfl rfl, ⟨by decide +kernel, by decide +kernel⟩, by decide +kernel, by decide⟩
abbrev mX2_copy : My := (RX2, cX2_copy, 4, none, "copy")
theorem cw_X2_copy : Cond.code yX2_copy mX2_copy.2.1 mX2_copy.2.2.1 mX2_copy.2.2.2.1 ∈ gw_s ∧ Cond.initialized yX2_copy.cls ∈ gw_s ∧ (yX2_copy.cls ≠ "java/lang/invoke/MethodHandle" ∧ yX2_copy.cls ≠ "java/lang/invoke/VarHandle") ∧ (parseMethodDescriptor yX2_copy.desc).map (fun d => d.parameters.length) = some 1 ∧ mX2_copy.2.2.1 ≤ 19 := ⟨gw_i3 1 rfl rfl, gw_i1 5 rfl rfl, ⟨by decide +kernel, by decide +kernel⟩, by decide +kernel, by decide⟩
abbrev mX9_copy : My := (RX9, cX9_copy, 2, none, "copy")
theorem cw_X9_copy : Cond.code yX9_copy mX9_copy.2.1 mX9_copy.2.2.1 mX9_copy.2.2.2.1 ∈ gw_s ∧ Cond.initialized yX9_copy.cls ∈ gw_s ∧ (yX9_copy.cls ≠ "java/lang/invoke/MethodHandle" ∧ yX9_copy.cls ≠ "java/lang/invoke/VarHandle") ∧ (parseMethodDescriptor yX9_copy.desc).map (fun d => d.parameters.length) = some 1 ∧ mX9_copy.2.2.1 ≤ 19 := ⟨gw_i3 9 rfl rfl, gw_i1 7 rfl rfl, ⟨by decide +kernel, by decide +kernel⟩, by decide +kernel, by decide⟩
abbrev mX0_copy : My := (RX0, cX0_copy, 3, none, "copy")
theorem cw_X0_copy : Cond.code yX0_copy mX0_copy.2.1 mX0_copy.2.2.1 mX0_copy.2.2.2.1 ∈ gw_s ∧ Cond.initialized yX0_copy.cls ∈ gw_s ∧ (yX0_copy.cls ≠ "java/lang/invoke/MethodHandle" ∧ yX0_copy.cls ≠ "java/lang/invoke/VarHandle") ∧ (parseMethodDescriptor yX0_copy.desc).map (fun d => d.parameters.length) = some 1 ∧ mX0_copy.2.2.1 ≤ 19 := ⟨gw_i2 226 rfl rfl, gw_i1 3 rfl rfl, ⟨by decide +kernel, by decide +kernel⟩, by decide +kernel, by decide⟩
abbrev mJ7_fill_53178 : My := (RJ7, cJ7_fill_53178, 4, none, "fill")
theorem cw_J7_fill_53178 : Cond.code yJ7_fill_53178 mJ7_fill_53178.2.1 mJ7_fill_53178.2.2.1 mJ7_fill_53178.2.2.2.1 ∈ gw_s ∧ Cond.initialized yJ7_fill_53178.cls ∈ gw_s ∧ (yJ7_fill_53178.cls ≠ "java/lang/invoke/MethodHandle" ∧ yJ7_fill_53178.cls ≠ "java/lang/invoke/VarHandle") ∧ (parseMethodDescriptor yJ7_fill_53178.desc).map (fun d => d.parameters.length) = some 2 ∧ mJ7_fill_53178.2.2.1 ≤ 19 := ⟨gw_i2 98 rfl rfl, gw_i1 14 rfl rfl, ⟨by decide +kernel, by decide +kernel⟩, by decide +kernel, by decide⟩
abbrev mX4_leave : My := (RX4, cX4_leave, 1, none, "leave")
theorem cw_X4_leave : Cond.code yX4_leave mX4_leave.2.1 mX4_leave.2.2.1 mX4_leave.2.2.2.1 ∈ gw_s ∧ Cond.initialized yX4_leave.cls ∈ gw_s ∧ (yX4_leave.cls ≠ "java/lang/invoke/MethodHandle" ∧ yX4_leave.cls ≠ "java/lang/invoke/VarHandle") ∧ (parseMethodDescriptor yX4_leave.desc).map (fun d => d.parameters.length) = some 0 ∧ mX4_leave.2.2.1 ≤ 19 := ⟨gw_i2 102 rfl rfl, gw_i1 8 rfl rfl, ⟨by decide +kernel, by decide +kernel⟩, by decide +kernel, by decide⟩
abbrev mX0_beginAnew : My := (RX0, cX0_beginAnew, 3, none, "beginAnew")
theorem cw_X0_beginAnew : Cond.code yX0_beginAnew mX0_beginAnew.2.1 mX0_beginAnew.2.2.1 mX0_beginAnew.2.2.2.1 ∈ gw_s ∧ Cond.initialized yX0_beginAnew.cls ∈ gw_s ∧ (yX0_beginAnew.cls ≠ "java/lang/invoke/MethodHandle" ∧ yX0_beginAnew.cls ≠ "java/lang/invoke/VarHandle") ∧ (parseMethodDescriptor yX0_beginAnew.desc).map (fun d => d.parameters.length) = some 1 ∧ mX0_beginAnew.2.2.1 ≤ 19 := ⟨gw_i2 95 rfl rfl, gw_i1 3 rfl rfl, ⟨by decide +kernel, by decide +kernel⟩, by decide +kernel, by decide⟩
abbrev mX0_knightAt : My := (RX0, cX0_knightAt, 2, some (.object "BlowOwed$Knight"), "knightAt")
theorem cw_X0_knightAt : Cond.code yX0_knightAt mX0_knightAt.2.1 mX0_knightAt.2.2.1 mX0_knightAt.2.2.2.1 ∈ gw_s ∧ Cond.initialized yX0_knightAt.cls ∈ gw_s ∧ (yX0_knightAt.cls ≠ "java/lang/invoke/MethodHandle" ∧ yX0_knightAt.cls ≠ "java/lang/invoke/VarHandle") ∧ (parseMethodDescriptor yX0_knightAt.desc).map (fun d => d.parameters.length) = some 1 ∧ mX0_knightAt.2.2.1 ≤ 19 := ⟨gw_i2 131 rfl rfl, gw_i1 3 rfl rfl, ⟨by decide +kernel, by decide +kernel⟩, by decide +kernel, by decide⟩
abbrev mX0_knightBits : My := (RX0, cX0_knightBits, 3, some .int, "knightBits")
theorem cw_X0_knightBits : Cond.code yX0_knightBits mX0_knightBits.2.1 mX0_knightBits.2.2.1 mX0_knightBits.2.2.2.1 ∈ gw_s ∧ Cond.initialized yX0_knightBits.cls ∈ gw_s ∧ (yX0_knightBits.cls ≠ "java/lang/invoke/MethodHandle" ∧ yX0_knightBits.cls ≠ "java/lang/invoke/VarHandle") ∧ (parseMethodDescriptor yX0_knightBits.desc).map (fun d => d.parameters.length) = some 0 ∧ mX0_knightBits.2.2.1 ≤ 19 := ⟨gw_i2 143 rfl rfl, gw_i1 3 rfl rfl, ⟨by decide +kernel, by decide +kernel⟩, by decide +kernel, by decide⟩
abbrev mJ6_bitCount_0f7a4 : My := (RJ6, cJ6_bitCount_0f7a4, 1, some .int, "bitCount")
theorem cw_J6_bitCount_0f7a4 : Cond.code yJ6_bitCount_0f7a4 mJ6_bitCount_0f7a4.2.1 mJ6_bitCount_0f7a4.2.2.1 mJ6_bitCount_0f7a4.2.2.2.1 ∈ gw_s ∧ Cond.initialized yJ6_bitCount_0f7a4.cls ∈ gw_s ∧ (yJ6_bitCount_0f7a4.cls ≠ "java/lang/invoke/MethodHandle" ∧ yJ6_bitCount_0f7a4.cls ≠ "java/lang/invoke/VarHandle") ∧ (parseMethodDescriptor yJ6_bitCount_0f7a4.desc).map (fun d => d.parameters.length) = some 1 ∧ mJ6_bitCount_0f7a4.2.2.1 ≤ 19 := ⟨gw_i2 146 rfl rfl, gw_i1 15 rfl rfl, ⟨by decide +kernel, by decide +kernel⟩, by decide +kernel, by decide⟩
abbrev mX0_countKnights : My := (RX0, cX0_countKnights, 1, some .int, "countKnights")
theorem cw_X0_countKnights : Cond.code yX0_countKnights mX0_countKnights.2.1 mX0_countKnights.2.2.1 mX0_countKnights.2.2.2.1 ∈ gw_s ∧ Cond.initialized yX0_countKnights.cls ∈ gw_s ∧ (yX0_countKnights.cls ≠ "java/lang/invoke/MethodHandle" ∧ yX0_countKnights.cls ≠ "java/lang/invoke/VarHandle") ∧ (parseMethodDescriptor yX0_countKnights.desc).map (fun d => d.parameters.length) = some 0 ∧ mX0_countKnights.2.2.1 ≤ 19 := ⟨gw_i2 139 rfl rfl, gw_i1 3 rfl rfl, ⟨by decide +kernel, by decide +kernel⟩, by decide +kernel, by decide⟩
abbrev mX4_isDead : My := (RX4, cX4_isDead, 1, some .boolean, "isDead")
theorem cw_X4_isDead : Cond.code yX4_isDead mX4_isDead.2.1 mX4_isDead.2.2.1 mX4_isDead.2.2.2.1 ∈ gw_s ∧ Cond.initialized yX4_isDead.cls ∈ gw_s ∧ (yX4_isDead.cls ≠ "java/lang/invoke/MethodHandle" ∧ yX4_isDead.cls ≠ "java/lang/invoke/VarHandle") ∧ (parseMethodDescriptor yX4_isDead.desc).map (fun d => d.parameters.length) = some 0 ∧ mX4_isDead.2.2.1 ≤ 19 := ⟨gw_i3 40 rfl rfl, gw_i1 8 rfl rfl, ⟨by decide +kernel, by decide +kernel⟩, by decide +kernel, by decide⟩
abbrev mX0_countDead : My := (RX0, cX0_countDead, 3, some .int, "countDead")
theorem cw_X0_countDead : Cond.code yX0_countDead mX0_countDead.2.1 mX0_countDead.2.2.1 mX0_countDead.2.2.2.1 ∈ gw_s ∧ Cond.initialized yX0_countDead.cls ∈ gw_s ∧ (yX0_countDead.cls ≠ "java/lang/invoke/MethodHandle" ∧ yX0_countDead.cls ≠ "java/lang/invoke/VarHandle") ∧ (parseMethodDescriptor yX0_countDead.desc).map (fun d => d.parameters.length) = some 0 ∧ mX0_countDead.2.2.1 ≤ 19 := ⟨gw_i4 95 rfl rfl, gw_i1 3 rfl rfl, ⟨by decide +kernel, by decide +kernel⟩, by decide +kernel, by decide⟩
abbrev mX0_sumHonour : My := (RX0, cX0_sumHonour, 3, some .int, "sumHonour")
theorem cw_X0_sumHonour : Cond.code yX0_sumHonour mX0_sumHonour.2.1 mX0_sumHonour.2.2.1 mX0_sumHonour.2.2.2.1 ∈ gw_s ∧ Cond.initialized yX0_sumHonour.cls ∈ gw_s ∧ (yX0_sumHonour.cls ≠ "java/lang/invoke/MethodHandle" ∧ yX0_sumHonour.cls ≠ "java/lang/invoke/VarHandle") ∧ (parseMethodDescriptor yX0_sumHonour.desc).map (fun d => d.parameters.length) = some 0 ∧ mX0_sumHonour.2.2.1 ≤ 19 := ⟨gw_i4 91 rfl rfl, gw_i1 3 rfl rfl, ⟨by decide +kernel, by decide +kernel⟩, by decide +kernel, by decide⟩
abbrev mX4_isAlive : My := (RX4, cX4_isAlive, 1, some .boolean, "isAlive")
theorem cw_X4_isAlive : Cond.code yX4_isAlive mX4_isAlive.2.1 mX4_isAlive.2.2.1 mX4_isAlive.2.2.2.1 ∈ gw_s ∧ Cond.initialized yX4_isAlive.cls ∈ gw_s ∧ (yX4_isAlive.cls ≠ "java/lang/invoke/MethodHandle" ∧ yX4_isAlive.cls ≠ "java/lang/invoke/VarHandle") ∧ (parseMethodDescriptor yX4_isAlive.desc).map (fun d => d.parameters.length) = some 0 ∧ mX4_isAlive.2.2.1 ≤ 19 := ⟨gw_i2 157 rfl rfl, gw_i1 8 rfl rfl, ⟨by decide +kernel, by decide +kernel⟩, by decide +kernel, by decide⟩
abbrev mX2_endAllOf : My := (RX2, cX2_endAllOf, 3, none, "endAllOf")
theorem cw_X2_endAllOf : Cond.code yX2_endAllOf mX2_endAllOf.2.1 mX2_endAllOf.2.2.1 mX2_endAllOf.2.2.2.1 ∈ gw_s ∧ Cond.initialized yX2_endAllOf.cls ∈ gw_s ∧ (yX2_endAllOf.cls ≠ "java/lang/invoke/MethodHandle" ∧ yX2_endAllOf.cls ≠ "java/lang/invoke/VarHandle") ∧ (parseMethodDescriptor yX2_endAllOf.desc).map (fun d => d.parameters.length) = some 1 ∧ mX2_endAllOf.2.2.1 ≤ 19 := ⟨gw_i3 44 rfl rfl, gw_i1 5 rfl rfl, ⟨by decide +kernel, by decide +kernel⟩, by decide +kernel, by decide⟩
abbrev mX0_wound : My := (RX0, cX0_wound, 4, none, "wound")
theorem cw_X0_wound : Cond.code yX0_wound mX0_wound.2.1 mX0_wound.2.2.1 mX0_wound.2.2.2.1 ∈ gw_s ∧ Cond.initialized yX0_wound.cls ∈ gw_s ∧ (yX0_wound.cls ≠ "java/lang/invoke/MethodHandle" ∧ yX0_wound.cls ≠ "java/lang/invoke/VarHandle") ∧ (parseMethodDescriptor yX0_wound.desc).map (fun d => d.parameters.length) = some 2 ∧ mX0_wound.2.2.1 ≤ 19 := ⟨gw_i3 36 rfl rfl, gw_i1 3 rfl rfl, ⟨by decide +kernel, by decide +kernel⟩, by decide +kernel, by decide⟩
abbrev mX2_sweep : My := (RX2, cX2_sweep, 4, none, "sweep")
theorem cw_X2_sweep : Cond.code yX2_sweep mX2_sweep.2.1 mX2_sweep.2.2.1 mX2_sweep.2.2.2.1 ∈ gw_s ∧ Cond.initialized yX2_sweep.cls ∈ gw_s ∧ (yX2_sweep.cls ≠ "java/lang/invoke/MethodHandle" ∧ yX2_sweep.cls ≠ "java/lang/invoke/VarHandle") ∧ (parseMethodDescriptor yX2_sweep.desc).map (fun d => d.parameters.length) = some 0 ∧ mX2_sweep.2.2.1 ≤ 19 := ⟨gw_i2 166 rfl rfl, gw_i1 5 rfl rfl, ⟨by decide +kernel, by decide +kernel⟩, by decide +kernel, by decide⟩
abbrev mX2_add : My := (RX2, cX2_add, 5, none, "add")
theorem cw_X2_add : Cond.code yX2_add mX2_add.2.1 mX2_add.2.2.1 mX2_add.2.2.2.1 ∈ gw_s ∧ Cond.initialized yX2_add.cls ∈ gw_s ∧ (yX2_add.cls ≠ "java/lang/invoke/MethodHandle" ∧ yX2_add.cls ≠ "java/lang/invoke/VarHandle") ∧ (parseMethodDescriptor yX2_add.desc).map (fun d => d.parameters.length) = some 4 ∧ mX2_add.2.2.1 ≤ 19 := ⟨gw_i3 48 rfl rfl, gw_i1 5 rfl rfl, ⟨by decide +kernel, by decide +kernel⟩, by decide +kernel, by decide⟩
abbrev mX0_tryStrike : My := (RX0, cX0_tryStrike, 6, some .int, "tryStrike")
theorem cw_X0_tryStrike : Cond.code yX0_tryStrike mX0_tryStrike.2.1 mX0_tryStrike.2.2.1 mX0_tryStrike.2.2.2.1 ∈ gw_s ∧ Cond.initialized yX0_tryStrike.cls ∈ gw_s ∧ (yX0_tryStrike.cls ≠ "java/lang/invoke/MethodHandle" ∧ yX0_tryStrike.cls ≠ "java/lang/invoke/VarHandle") ∧ (parseMethodDescriptor yX0_tryStrike.desc).map (fun d => d.parameters.length) = some 3 ∧ mX0_tryStrike.2.2.1 ≤ 19 := ⟨gw_i3 31 rfl rfl, gw_i1 3 rfl rfl, ⟨by decide +kernel, by decide +kernel⟩, by decide +kernel, by decide⟩
abbrev mX0_whyNotActing : My := (RX0, cX0_whyNotActing, 2, some .int, "whyNotActing")
theorem cw_X0_whyNotActing : Cond.code yX0_whyNotActing mX0_whyNotActing.2.1 mX0_whyNotActing.2.2.1 mX0_whyNotActing.2.2.2.1 ∈ gw_s ∧ Cond.initialized yX0_whyNotActing.cls ∈ gw_s ∧ (yX0_whyNotActing.cls ≠ "java/lang/invoke/MethodHandle" ∧ yX0_whyNotActing.cls ≠ "java/lang/invoke/VarHandle") ∧ (parseMethodDescriptor yX0_whyNotActing.desc).map (fun d => d.parameters.length) = some 1 ∧ mX0_whyNotActing.2.2.1 ≤ 19 := ⟨gw_i3 56 rfl rfl, gw_i1 3 rfl rfl, ⟨by decide +kernel, by decide +kernel⟩, by decide +kernel, by decide⟩
abbrev mX5_roadDays : My := (RX5, cX5_roadDays, 4, some .int, "roadDays")
theorem cw_X5_roadDays : Cond.code yX5_roadDays mX5_roadDays.2.1 mX5_roadDays.2.2.1 mX5_roadDays.2.2.2.1 ∈ gw_s ∧ Cond.initialized yX5_roadDays.cls ∈ gw_s ∧ (yX5_roadDays.cls ≠ "java/lang/invoke/MethodHandle" ∧ yX5_roadDays.cls ≠ "java/lang/invoke/VarHandle") ∧ (parseMethodDescriptor yX5_roadDays.desc).map (fun d => d.parameters.length) = some 2 ∧ mX5_roadDays.2.2.1 ≤ 19 := ⟨gw_i2 114 rfl rfl, gw_i1 4 rfl rfl, ⟨by decide +kernel, by decide +kernel⟩, by decide +kernel, by decide⟩
abbrev mX11_leftOver : My := (RX11, cX11_leftOver, 2, some .int, "leftOver")
theorem cw_X11_leftOver : Cond.code yX11_leftOver mX11_leftOver.2.1 mX11_leftOver.2.2.1 mX11_leftOver.2.2.2.1 ∈ gw_s ∧ Cond.initialized yX11_leftOver.cls ∈ gw_s ∧ (yX11_leftOver.cls ≠ "java/lang/invoke/MethodHandle" ∧ yX11_leftOver.cls ≠ "java/lang/invoke/VarHandle") ∧ (parseMethodDescriptor yX11_leftOver.desc).map (fun d => d.parameters.length) = some 2 ∧ mX11_leftOver.2.2.1 ≤ 19 := ⟨gw_i3 99 rfl rfl, gw_i1 1 rfl rfl, ⟨by decide +kernel, by decide +kernel⟩, by decide +kernel, by decide⟩
abbrev mX5_isWinter : My := (RX5, cX5_isWinter, 2, some .boolean, "isWinter")
theorem cw_X5_isWinter : Cond.code yX5_isWinter mX5_isWinter.2.1 mX5_isWinter.2.2.1 mX5_isWinter.2.2.2.1 ∈ gw_s ∧ Cond.initialized yX5_isWinter.cls ∈ gw_s ∧ (yX5_isWinter.cls ≠ "java/lang/invoke/MethodHandle" ∧ yX5_isWinter.cls ≠ "java/lang/invoke/VarHandle") ∧ (parseMethodDescriptor yX5_isWinter.desc).map (fun d => d.parameters.length) = some 1 ∧ mX5_isWinter.2.2.1 ≤ 19 := ⟨gw_i3 96 rfl rfl, gw_i1 4 rfl rfl, ⟨by decide +kernel, by decide +kernel⟩, by decide +kernel, by decide⟩
abbrev mX5_daysUnderWay : My := (RX5, cX5_daysUnderWay, 5, some .int, "daysUnderWay")
theorem cw_X5_daysUnderWay : Cond.code yX5_daysUnderWay mX5_daysUnderWay.2.1 mX5_daysUnderWay.2.2.1 mX5_daysUnderWay.2.2.2.1 ∈ gw_s ∧ Cond.initialized yX5_daysUnderWay.cls ∈ gw_s ∧ (yX5_daysUnderWay.cls ≠ "java/lang/invoke/MethodHandle" ∧ yX5_daysUnderWay.cls ≠ "java/lang/invoke/VarHandle") ∧ (parseMethodDescriptor yX5_daysUnderWay.desc).map (fun d => d.parameters.length) = some 3 ∧ mX5_daysUnderWay.2.2.1 ≤ 19 := ⟨gw_i3 91 rfl rfl, gw_i1 4 rfl rfl, ⟨by decide +kernel, by decide +kernel⟩, by decide +kernel, by decide⟩
abbrev mX0_trySetOut : My := (RX0, cX0_trySetOut, 6, some .int, "trySetOut")
theorem cw_X0_trySetOut : Cond.code yX0_trySetOut mX0_trySetOut.2.1 mX0_trySetOut.2.2.1 mX0_trySetOut.2.2.2.1 ∈ gw_s ∧ Cond.initialized yX0_trySetOut.cls ∈ gw_s ∧ (yX0_trySetOut.cls ≠ "java/lang/invoke/MethodHandle" ∧ yX0_trySetOut.cls ≠ "java/lang/invoke/VarHandle") ∧ (parseMethodDescriptor yX0_trySetOut.desc).map (fun d => d.parameters.length) = some 2 ∧ mX0_trySetOut.2.2.1 ≤ 19 := ⟨gw_i3 87 rfl rfl, gw_i1 3 rfl rfl, ⟨by decide +kernel, by decide +kernel⟩, by decide +kernel, by decide⟩
abbrev mX2_findDueTo : My := (RX2, cX2_findDueTo, 4, some .int, "findDueTo")
theorem cw_X2_findDueTo : Cond.code yX2_findDueTo mX2_findDueTo.2.1 mX2_findDueTo.2.2.1 mX2_findDueTo.2.2.2.1 ∈ gw_s ∧ Cond.initialized yX2_findDueTo.cls ∈ gw_s ∧ (yX2_findDueTo.cls ≠ "java/lang/invoke/MethodHandle" ∧ yX2_findDueTo.cls ≠ "java/lang/invoke/VarHandle") ∧ (parseMethodDescriptor yX2_findDueTo.desc).map (fun d => d.parameters.length) = some 2 ∧ mX2_findDueTo.2.2.1 ≤ 19 := ⟨gw_i3 60 rfl rfl, gw_i1 5 rfl rfl, ⟨by decide +kernel, by decide +kernel⟩, by decide +kernel, by decide⟩
abbrev mX4_isIn : My := (RX4, cX4_isIn, 2, some .boolean, "isIn")
theorem cw_X4_isIn : Cond.code yX4_isIn mX4_isIn.2.1 mX4_isIn.2.2.1 mX4_isIn.2.2.2.1 ∈ gw_s ∧ Cond.initialized yX4_isIn.cls ∈ gw_s ∧ (yX4_isIn.cls ≠ "java/lang/invoke/MethodHandle" ∧ yX4_isIn.cls ≠ "java/lang/invoke/VarHandle") ∧ (parseMethodDescriptor yX4_isIn.desc).map (fun d => d.parameters.length) = some 1 ∧ mX4_isIn.2.2.1 ≤ 19 := ⟨gw_i3 64 rfl rfl, gw_i1 8 rfl rfl, ⟨by decide +kernel, by decide +kernel⟩, by decide +kernel, by decide⟩
abbrev mX2_has : My := (RX2, cX2_has, 2, some .boolean, "has")
theorem cw_X2_has : Cond.code yX2_has mX2_has.2.1 mX2_has.2.2.1 mX2_has.2.2.2.1 ∈ gw_s ∧ Cond.initialized yX2_has.cls ∈ gw_s ∧ (yX2_has.cls ≠ "java/lang/invoke/MethodHandle" ∧ yX2_has.cls ≠ "java/lang/invoke/VarHandle") ∧ (parseMethodDescriptor yX2_has.desc).map (fun d => d.parameters.length) = some 1 ∧ mX2_has.2.2.1 ≤ 19 := ⟨gw_i3 72 rfl rfl, gw_i1 5 rfl rfl, ⟨by decide +kernel, by decide +kernel⟩, by decide +kernel, by decide⟩
abbrev mX0_giveBackOne : My := (RX0, cX0_giveBackOne, 5, none, "giveBackOne")
theorem cw_X0_giveBackOne : Cond.code yX0_giveBackOne mX0_giveBackOne.2.1 mX0_giveBackOne.2.2.1 mX0_giveBackOne.2.2.2.1 ∈ gw_s ∧ Cond.initialized yX0_giveBackOne.cls ∈ gw_s ∧ (yX0_giveBackOne.cls ≠ "java/lang/invoke/MethodHandle" ∧ yX0_giveBackOne.cls ≠ "java/lang/invoke/VarHandle") ∧ (parseMethodDescriptor yX0_giveBackOne.desc).map (fun d => d.parameters.length) = some 2 ∧ mX0_giveBackOne.2.2.1 ≤ 19 := ⟨gw_i3 68 rfl rfl, gw_i1 3 rfl rfl, ⟨by decide +kernel, by decide +kernel⟩, by decide +kernel, by decide⟩
abbrev mX0_tryGiveBack : My := (RX0, cX0_tryGiveBack, 6, some .int, "tryGiveBack")
theorem cw_X0_tryGiveBack : Cond.code yX0_tryGiveBack mX0_tryGiveBack.2.1 mX0_tryGiveBack.2.2.1 mX0_tryGiveBack.2.2.2.1 ∈ gw_s ∧ Cond.initialized yX0_tryGiveBack.cls ∈ gw_s ∧ (yX0_tryGiveBack.cls ≠ "java/lang/invoke/MethodHandle" ∧ yX0_tryGiveBack.cls ≠ "java/lang/invoke/VarHandle") ∧ (parseMethodDescriptor yX0_tryGiveBack.desc).map (fun d => d.parameters.length) = some 1 ∧ mX0_tryGiveBack.2.2.1 ≤ 19 := ⟨gw_i3 52 rfl rfl, gw_i1 3 rfl rfl, ⟨by decide +kernel, by decide +kernel⟩, by decide +kernel, by decide⟩
abbrev mX0_tryFlinch : My := (RX0, cX0_tryFlinch, 7, some .int, "tryFlinch")
theorem cw_X0_tryFlinch : Cond.code yX0_tryFlinch mX0_tryFlinch.2.1 mX0_tryFlinch.2.2.1 mX0_tryFlinch.2.2.2.1 ∈ gw_s ∧ Cond.initialized yX0_tryFlinch.cls ∈ gw_s ∧ (yX0_tryFlinch.cls ≠ "java/lang/invoke/MethodHandle" ∧ yX0_tryFlinch.cls ≠ "java/lang/invoke/VarHandle") ∧ (parseMethodDescriptor yX0_tryFlinch.desc).map (fun d => d.parameters.length) = some 1 ∧ mX0_tryFlinch.2.2.1 ≤ 19 := ⟨gw_i3 79 rfl rfl, gw_i1 3 rfl rfl, ⟨by decide +kernel, by decide +kernel⟩, by decide +kernel, by decide⟩
abbrev mX0_tryRemit : My := (RX0, cX0_tryRemit, 5, some .int, "tryRemit")
theorem cw_X0_tryRemit : Cond.code yX0_tryRemit mX0_tryRemit.2.1 mX0_tryRemit.2.2.1 mX0_tryRemit.2.2.2.1 ∈ gw_s ∧ Cond.initialized yX0_tryRemit.cls ∈ gw_s ∧ (yX0_tryRemit.cls ≠ "java/lang/invoke/MethodHandle" ∧ yX0_tryRemit.cls ≠ "java/lang/invoke/VarHandle") ∧ (parseMethodDescriptor yX0_tryRemit.desc).map (fun d => d.parameters.length) = some 1 ∧ mX0_tryRemit.2.2.1 ≤ 19 := ⟨gw_i3 83 rfl rfl, gw_i1 3 rfl rfl, ⟨by decide +kernel, by decide +kernel⟩, by decide +kernel, by decide⟩
abbrev mX0_passDays : My := (RX0, cX0_passDays, 4, none, "passDays")
theorem cw_X0_passDays : Cond.code yX0_passDays mX0_passDays.2.1 mX0_passDays.2.2.1 mX0_passDays.2.2.2.1 ∈ gw_s ∧ Cond.initialized yX0_passDays.cls ∈ gw_s ∧ (yX0_passDays.cls ≠ "java/lang/invoke/MethodHandle" ∧ yX0_passDays.cls ≠ "java/lang/invoke/VarHandle") ∧ (parseMethodDescriptor yX0_passDays.desc).map (fun d => d.parameters.length) = some 1 ∧ mX0_passDays.2.2.1 ≤ 19 := ⟨gw_i3 20 rfl rfl, gw_i1 3 rfl rfl, ⟨by decide +kernel, by decide +kernel⟩, by decide +kernel, by decide⟩
abbrev mX1_tell : My := (RX1, cX1_tell, 2, some .int, "tell")
theorem cw_X1_tell : Cond.code yX1_tell mX1_tell.2.1 mX1_tell.2.2.1 mX1_tell.2.2.2.1 ∈ gw_s ∧ Cond.initialized yX1_tell.cls ∈ gw_s ∧ (yX1_tell.cls ≠ "java/lang/invoke/MethodHandle" ∧ yX1_tell.cls ≠ "java/lang/invoke/VarHandle") ∧ (parseMethodDescriptor yX1_tell.desc).map (fun d => d.parameters.length) = some 1 ∧ mX1_tell.2.2.1 ≤ 19 := ⟨gw_i3 127 rfl rfl, gw_i1 6 rfl rfl, ⟨by decide +kernel, by decide +kernel⟩, by decide +kernel, by decide⟩
abbrev mX2_inherit : My := (RX2, cX2_inherit, 5, none, "inherit")
theorem cw_X2_inherit : Cond.code yX2_inherit mX2_inherit.2.1 mX2_inherit.2.2.1 mX2_inherit.2.2.2.1 ∈ gw_s ∧ Cond.initialized yX2_inherit.cls ∈ gw_s ∧ (yX2_inherit.cls ≠ "java/lang/invoke/MethodHandle" ∧ yX2_inherit.cls ≠ "java/lang/invoke/VarHandle") ∧ (parseMethodDescriptor yX2_inherit.desc).map (fun d => d.parameters.length) = some 2 ∧ mX2_inherit.2.2.1 ≤ 19 := ⟨gw_i2 162 rfl rfl, gw_i1 5 rfl rfl, ⟨by decide +kernel, by decide +kernel⟩, by decide +kernel, by decide⟩
abbrev mX2_countOwedBy : My := (RX2, cX2_countOwedBy, 4, some .int, "countOwedBy")
theorem cw_X2_countOwedBy : Cond.code yX2_countOwedBy mX2_countOwedBy.2.1 mX2_countOwedBy.2.2.1 mX2_countOwedBy.2.2.2.1 ∈ gw_s ∧ Cond.initialized yX2_countOwedBy.cls ∈ gw_s ∧ (yX2_countOwedBy.cls ≠ "java/lang/invoke/MethodHandle" ∧ yX2_countOwedBy.cls ≠ "java/lang/invoke/VarHandle") ∧ (parseMethodDescriptor yX2_countOwedBy.desc).map (fun d => d.parameters.length) = some 1 ∧ mX2_countOwedBy.2.2.1 ≤ 19 := ⟨gw_i3 190 rfl rfl, gw_i1 5 rfl rfl, ⟨by decide +kernel, by decide +kernel⟩, by decide +kernel, by decide⟩
abbrev mX3_init : My := (RX3, cX3_init, 1, none, "<init>")
theorem cw_X3_init : Cond.code yX3_init mX3_init.2.1 mX3_init.2.2.1 mX3_init.2.2.2.1 ∈ gw_s ∧ Cond.initialized yX3_init.cls ∈ gw_s ∧ (yX3_init.cls ≠ "java/lang/invoke/MethodHandle" ∧ yX3_init.cls ≠ "java/lang/invoke/VarHandle") ∧ (parseMethodDescriptor yX3_init.desc).map (fun d => d.parameters.length) = some 0 ∧ mX3_init.2.2.1 ≤ 19 := ⟨gw_i2 16 rfl rfl, gw_i1 10 rfl rfl, ⟨by decide +kernel, by decide +kernel⟩, by decide +kernel, by decide⟩
abbrev mX5_hasChapel : My := (RX5, cX5_hasChapel, 2, some .boolean, "hasChapel")
theorem cw_X5_hasChapel : Cond.code yX5_hasChapel mX5_hasChapel.2.1 mX5_hasChapel.2.2.1 mX5_hasChapel.2.2.2.1 ∈ gw_s ∧ Cond.initialized yX5_hasChapel.cls ∈ gw_s ∧ (yX5_hasChapel.cls ≠ "java/lang/invoke/MethodHandle" ∧ yX5_hasChapel.cls ≠ "java/lang/invoke/VarHandle") ∧ (parseMethodDescriptor yX5_hasChapel.desc).map (fun d => d.parameters.length) = some 1 ∧ mX5_hasChapel.2.2.1 ≤ 19 := ⟨gw_i2 110 rfl rfl, gw_i1 4 rfl rfl, ⟨by decide +kernel, by decide +kernel⟩, by decide +kernel, by decide⟩
abbrev mX5_firstAcross : My := (RX5, cX5_firstAcross, 8, some .int, "firstAcross")
theorem cw_X5_firstAcross : Cond.code yX5_firstAcross mX5_firstAcross.2.1 mX5_firstAcross.2.2.1 mX5_firstAcross.2.2.2.1 ∈ gw_s ∧ Cond.initialized yX5_firstAcross.cls ∈ gw_s ∧ (yX5_firstAcross.cls ≠ "java/lang/invoke/MethodHandle" ∧ yX5_firstAcross.cls ≠ "java/lang/invoke/VarHandle") ∧ (parseMethodDescriptor yX5_firstAcross.desc).map (fun d => d.parameters.length) = some 3 ∧ mX5_firstAcross.2.2.1 ≤ 19 := ⟨gw_i3 150 rfl rfl, gw_i1 4 rfl rfl, ⟨by decide +kernel, by decide +kernel⟩, by decide +kernel, by decide⟩
abbrev mX5_fillFirstDays : My := (RX5, cX5_fillFirstDays, 7, none, "fillFirstDays")
theorem cw_X5_fillFirstDays : Cond.code yX5_fillFirstDays mX5_fillFirstDays.2.1 mX5_fillFirstDays.2.2.1 mX5_fillFirstDays.2.2.2.1 ∈ gw_s ∧ Cond.initialized yX5_fillFirstDays.cls ∈ gw_s ∧ (yX5_fillFirstDays.cls ≠ "java/lang/invoke/MethodHandle" ∧ yX5_fillFirstDays.cls ≠ "java/lang/invoke/VarHandle") ∧ (parseMethodDescriptor yX5_fillFirstDays.desc).map (fun d => d.parameters.length) = some 3 ∧ mX5_fillFirstDays.2.2.1 ≤ 19 := ⟨gw_i3 144 rfl rfl, gw_i1 4 rfl rfl, ⟨by decide +kernel, by decide +kernel⟩, by decide +kernel, by decide⟩
abbrev mX3_setOff : My := (RX3, cX3_setOff, 4, none, "setOff")
theorem cw_X3_setOff : Cond.code yX3_setOff mX3_setOff.2.1 mX3_setOff.2.2.1 mX3_setOff.2.2.2.1 ∈ gw_s ∧ Cond.initialized yX3_setOff.cls ∈ gw_s ∧ (yX3_setOff.cls ≠ "java/lang/invoke/MethodHandle" ∧ yX3_setOff.cls ≠ "java/lang/invoke/VarHandle") ∧ (parseMethodDescriptor yX3_setOff.desc).map (fun d => d.parameters.length) = some 2 ∧ mX3_setOff.2.2.1 ≤ 19 := ⟨gw_i3 139 rfl rfl, gw_i1 10 rfl rfl, ⟨by decide +kernel, by decide +kernel⟩, by decide +kernel, by decide⟩
abbrev mX3_dayAt : My := (RX3, cX3_dayAt, 2, some .int, "dayAt")
theorem cw_X3_dayAt : Cond.code yX3_dayAt mX3_dayAt.2.1 mX3_dayAt.2.2.1 mX3_dayAt.2.2.2.1 ∈ gw_s ∧ Cond.initialized yX3_dayAt.cls ∈ gw_s ∧ (yX3_dayAt.cls ≠ "java/lang/invoke/MethodHandle" ∧ yX3_dayAt.cls ≠ "java/lang/invoke/VarHandle") ∧ (parseMethodDescriptor yX3_dayAt.desc).map (fun d => d.parameters.length) = some 2 ∧ mX3_dayAt.2.2.1 ≤ 19 := ⟨gw_i3 154 rfl rfl, gw_i1 10 rfl rfl, ⟨by decide +kernel, by decide +kernel⟩, by decide +kernel, by decide⟩
abbrev mX3_firstDay : My := (RX3, cX3_firstDay, 4, some .int, "firstDay")
theorem cw_X3_firstDay : Cond.code yX3_firstDay mX3_firstDay.2.1 mX3_firstDay.2.2.1 mX3_firstDay.2.2.2.1 ∈ gw_s ∧ Cond.initialized yX3_firstDay.cls ∈ gw_s ∧ (yX3_firstDay.cls ≠ "java/lang/invoke/MethodHandle" ∧ yX3_firstDay.cls ≠ "java/lang/invoke/VarHandle") ∧ (parseMethodDescriptor yX3_firstDay.desc).map (fun d => d.parameters.length) = some 3 ∧ mX3_firstDay.2.2.1 ≤ 19 := ⟨gw_i3 135 rfl rfl, gw_i1 10 rfl rfl, ⟨by decide +kernel, by decide +kernel⟩, by decide +kernel, by decide⟩
abbrev mX3_isMet : My := (RX3, cX3_isMet, 5, some .boolean, "isMet")
theorem cw_X3_isMet : Cond.code yX3_isMet mX3_isMet.2.1 mX3_isMet.2.2.1 mX3_isMet.2.2.2.1 ∈ gw_s ∧ Cond.initialized yX3_isMet.cls ∈ gw_s ∧ (yX3_isMet.cls ≠ "java/lang/invoke/MethodHandle" ∧ yX3_isMet.cls ≠ "java/lang/invoke/VarHandle") ∧ (parseMethodDescriptor yX3_isMet.desc).map (fun d => d.parameters.length) = some 4 ∧ mX3_isMet.2.2.1 ≤ 19 := ⟨gw_i3 167 rfl rfl, gw_i1 10 rfl rfl, ⟨by decide +kernel, by decide +kernel⟩, by decide +kernel, by decide⟩
abbrev mX3_metAlone : My := (RX3, cX3_metAlone, 5, some .int, "metAlone")
theorem cw_X3_metAlone : Cond.code yX3_metAlone mX3_metAlone.2.1 mX3_metAlone.2.2.1 mX3_metAlone.2.2.2.1 ∈ gw_s ∧ Cond.initialized yX3_metAlone.cls ∈ gw_s ∧ (yX3_metAlone.cls ≠ "java/lang/invoke/MethodHandle" ∧ yX3_metAlone.cls ≠ "java/lang/invoke/VarHandle") ∧ (parseMethodDescriptor yX3_metAlone.desc).map (fun d => d.parameters.length) = some 2 ∧ mX3_metAlone.2.2.1 ≤ 19 := ⟨gw_i3 164 rfl rfl, gw_i1 10 rfl rfl, ⟨by decide +kernel, by decide +kernel⟩, by decide +kernel, by decide⟩
abbrev mX3_goOnFrom : My := (RX3, cX3_goOnFrom, 4, none, "goOnFrom")
theorem cw_X3_goOnFrom : Cond.code yX3_goOnFrom mX3_goOnFrom.2.1 mX3_goOnFrom.2.2.1 mX3_goOnFrom.2.2.2.1 ∈ gw_s ∧ Cond.initialized yX3_goOnFrom.cls ∈ gw_s ∧ (yX3_goOnFrom.cls ≠ "java/lang/invoke/MethodHandle" ∧ yX3_goOnFrom.cls ≠ "java/lang/invoke/VarHandle") ∧ (parseMethodDescriptor yX3_goOnFrom.desc).map (fun d => d.parameters.length) = some 2 ∧ mX3_goOnFrom.2.2.1 ≤ 19 := ⟨gw_i3 186 rfl rfl, gw_i1 10 rfl rfl, ⟨by decide +kernel, by decide +kernel⟩, by decide +kernel, by decide⟩
abbrev mX3_lengthen : My := (RX3, cX3_lengthen, 5, none, "lengthen")
theorem cw_X3_lengthen : Cond.code yX3_lengthen mX3_lengthen.2.1 mX3_lengthen.2.2.1 mX3_lengthen.2.2.2.1 ∈ gw_s ∧ Cond.initialized yX3_lengthen.cls ∈ gw_s ∧ (yX3_lengthen.cls ≠ "java/lang/invoke/MethodHandle" ∧ yX3_lengthen.cls ≠ "java/lang/invoke/VarHandle") ∧ (parseMethodDescriptor yX3_lengthen.desc).map (fun d => d.parameters.length) = some 3 ∧ mX3_lengthen.2.2.1 ≤ 19 := ⟨gw_i3 182 rfl rfl, gw_i1 10 rfl rfl, ⟨by decide +kernel, by decide +kernel⟩, by decide +kernel, by decide⟩
abbrev mX3_mostMet : My := (RX3, cX3_mostMet, 6, some .int, "mostMet")
theorem cw_X3_mostMet : Cond.code yX3_mostMet mX3_mostMet.2.1 mX3_mostMet.2.2.1 mX3_mostMet.2.2.2.1 ∈ gw_s ∧ Cond.initialized yX3_mostMet.cls ∈ gw_s ∧ (yX3_mostMet.cls ≠ "java/lang/invoke/MethodHandle" ∧ yX3_mostMet.cls ≠ "java/lang/invoke/VarHandle") ∧ (parseMethodDescriptor yX3_mostMet.desc).map (fun d => d.parameters.length) = some 2 ∧ mX3_mostMet.2.2.1 ≤ 19 := ⟨gw_i3 176 rfl rfl, gw_i1 10 rfl rfl, ⟨by decide +kernel, by decide +kernel⟩, by decide +kernel, by decide⟩
abbrev mX3_findBarred : My := (RX3, cX3_findBarred, 6, some .int, "findBarred")
theorem cw_X3_findBarred : Cond.code yX3_findBarred mX3_findBarred.2.1 mX3_findBarred.2.2.1 mX3_findBarred.2.2.2.1 ∈ gw_s ∧ Cond.initialized yX3_findBarred.cls ∈ gw_s ∧ (yX3_findBarred.cls ≠ "java/lang/invoke/MethodHandle" ∧ yX3_findBarred.cls ≠ "java/lang/invoke/VarHandle") ∧ (parseMethodDescriptor yX3_findBarred.desc).map (fun d => d.parameters.length) = some 2 ∧ mX3_findBarred.2.2.1 ≤ 19 := ⟨gw_i3 194 rfl rfl, gw_i1 10 rfl rfl, ⟨by decide +kernel, by decide +kernel⟩, by decide +kernel, by decide⟩
abbrev mX4_come : My := (RX4, cX4_come, 5, none, "come")
theorem cw_X4_come : Cond.code yX4_come mX4_come.2.1 mX4_come.2.2.1 mX4_come.2.2.2.1 ∈ gw_s ∧ Cond.initialized yX4_come.cls ∈ gw_s ∧ (yX4_come.cls ≠ "java/lang/invoke/MethodHandle" ∧ yX4_come.cls ≠ "java/lang/invoke/VarHandle") ∧ (parseMethodDescriptor yX4_come.desc).map (fun d => d.parameters.length) = some 4 ∧ mX4_come.2.2.1 ≤ 19 := ⟨gw_i2 135 rfl rfl, gw_i1 8 rfl rfl, ⟨by decide +kernel, by decide +kernel⟩, by decide +kernel, by decide⟩
abbrev mX4_tell : My := (RX4, cX4_tell, 2, some .int, "tell")
theorem cw_X4_tell : Cond.code yX4_tell mX4_tell.2.1 mX4_tell.2.2.1 mX4_tell.2.2.2.1 ∈ gw_s ∧ Cond.initialized yX4_tell.cls ∈ gw_s ∧ (yX4_tell.cls ≠ "java/lang/invoke/MethodHandle" ∧ yX4_tell.cls ≠ "java/lang/invoke/VarHandle") ∧ (parseMethodDescriptor yX4_tell.desc).map (fun d => d.parameters.length) = some 1 ∧ mX4_tell.2.2.1 ≤ 19 := ⟨gw_i3 113 rfl rfl, gw_i1 8 rfl rfl, ⟨by decide +kernel, by decide +kernel⟩, by decide +kernel, by decide⟩
abbrev mX5_layRoad : My := (RX5, cX5_layRoad, 4, none, "layRoad")
theorem cw_X5_layRoad : Cond.code yX5_layRoad mX5_layRoad.2.1 mX5_layRoad.2.2.1 mX5_layRoad.2.2.2.1 ∈ gw_s ∧ Cond.initialized yX5_layRoad.cls ∈ gw_s ∧ (yX5_layRoad.cls ≠ "java/lang/invoke/MethodHandle" ∧ yX5_layRoad.cls ≠ "java/lang/invoke/VarHandle") ∧ (parseMethodDescriptor yX5_layRoad.desc).map (fun d => d.parameters.length) = some 3 ∧ mX5_layRoad.2.2.1 ≤ 19 := ⟨gw_i2 118 rfl rfl, gw_i1 4 rfl rfl, ⟨by decide +kernel, by decide +kernel⟩, by decide +kernel, by decide⟩
abbrev mX6_init : My := (RX6, cX6_init, 1, none, "<init>")
theorem cw_X6_init : Cond.code yX6_init mX6_init.2.1 mX6_init.2.2.1 mX6_init.2.2.2.1 ∈ gw_s ∧ Cond.initialized yX6_init.cls ∈ gw_s ∧ (yX6_init.cls ≠ "java/lang/invoke/MethodHandle" ∧ yX6_init.cls ≠ "java/lang/invoke/VarHandle") ∧ (parseMethodDescriptor yX6_init.desc).map (fun d => d.parameters.length) = some 0 ∧ mX6_init.2.2.1 ≤ 19 := ⟨gw_i2 32 rfl rfl, gw_i1 11 rfl rfl, ⟨by decide +kernel, by decide +kernel⟩, by decide +kernel, by decide⟩
abbrev mX6_sumOf : My := (RX6, cX6_sumOf, 6, some .int, "sumOf")
theorem cw_X6_sumOf : Cond.code yX6_sumOf mX6_sumOf.2.1 mX6_sumOf.2.2.1 mX6_sumOf.2.2.2.1 ∈ gw_s ∧ Cond.initialized yX6_sumOf.cls ∈ gw_s ∧ (yX6_sumOf.cls ≠ "java/lang/invoke/MethodHandle" ∧ yX6_sumOf.cls ≠ "java/lang/invoke/VarHandle") ∧ (parseMethodDescriptor yX6_sumOf.desc).map (fun d => d.parameters.length) = some 2 ∧ mX6_sumOf.2.2.1 ≤ 19 := ⟨gw_i3 218 rfl rfl, gw_i1 11 rfl rfl, ⟨by decide +kernel, by decide +kernel⟩, by decide +kernel, by decide⟩
abbrev mX6_fewestPayments : My := (RX6, cX6_fewestPayments, 5, some .int, "fewestPayments")
theorem cw_X6_fewestPayments : Cond.code yX6_fewestPayments mX6_fewestPayments.2.1 mX6_fewestPayments.2.2.1 mX6_fewestPayments.2.2.2.1 ∈ gw_s ∧ Cond.initialized yX6_fewestPayments.cls ∈ gw_s ∧ (yX6_fewestPayments.cls ≠ "java/lang/invoke/MethodHandle" ∧ yX6_fewestPayments.cls ≠ "java/lang/invoke/VarHandle") ∧ (parseMethodDescriptor yX6_fewestPayments.desc).map (fun d => d.parameters.length) = some 1 ∧ mX6_fewestPayments.2.2.1 ≤ 19 := ⟨gw_i3 213 rfl rfl, gw_i1 11 rfl rfl, ⟨by decide +kernel, by decide +kernel⟩, by decide +kernel, by decide⟩
abbrev mX11_isWithin : My := (RX11, cX11_isWithin, 3, some .boolean, "isWithin")
theorem cw_X11_isWithin : Cond.code yX11_isWithin mX11_isWithin.2.1 mX11_isWithin.2.2.1 mX11_isWithin.2.2.2.1 ∈ gw_s ∧ Cond.initialized yX11_isWithin.cls ∈ gw_s ∧ (yX11_isWithin.cls ≠ "java/lang/invoke/MethodHandle" ∧ yX11_isWithin.cls ≠ "java/lang/invoke/VarHandle") ∧ (parseMethodDescriptor yX11_isWithin.desc).map (fun d => d.parameters.length) = some 3 ∧ mX11_isWithin.2.2.1 ≤ 19 := ⟨gw_i2 91 rfl rfl, gw_i1 1 rfl rfl, ⟨by decide +kernel, by decide +kernel⟩, by decide +kernel, by decide⟩
abbrev mX6_nextOf : My := (RX6, cX6_nextOf, 4, some .int, "nextOf")
theorem cw_X6_nextOf : Cond.code yX6_nextOf mX6_nextOf.2.1 mX6_nextOf.2.2.1 mX6_nextOf.2.2.2.1 ∈ gw_s ∧ Cond.initialized yX6_nextOf.cls ∈ gw_s ∧ (yX6_nextOf.cls ≠ "java/lang/invoke/MethodHandle" ∧ yX6_nextOf.cls ≠ "java/lang/invoke/VarHandle") ∧ (parseMethodDescriptor yX6_nextOf.desc).map (fun d => d.parameters.length) = some 1 ∧ mX6_nextOf.2.2.1 ≤ 19 := ⟨gw_i3 236 rfl rfl, gw_i1 11 rfl rfl, ⟨by decide +kernel, by decide +kernel⟩, by decide +kernel, by decide⟩
abbrev mX6_ringThrough : My := (RX6, cX6_ringThrough, 4, some .int, "ringThrough")
theorem cw_X6_ringThrough : Cond.code yX6_ringThrough mX6_ringThrough.2.1 mX6_ringThrough.2.2.1 mX6_ringThrough.2.2.2.1 ∈ gw_s ∧ Cond.initialized yX6_ringThrough.cls ∈ gw_s ∧ (yX6_ringThrough.cls ≠ "java/lang/invoke/MethodHandle" ∧ yX6_ringThrough.cls ≠ "java/lang/invoke/VarHandle") ∧ (parseMethodDescriptor yX6_ringThrough.desc).map (fun d => d.parameters.length) = some 1 ∧ mX6_ringThrough.2.2.1 ≤ 19 := ⟨gw_i3 232 rfl rfl, gw_i1 11 rfl rfl, ⟨by decide +kernel, by decide +kernel⟩, by decide +kernel, by decide⟩
abbrev mX6_shortestRing : My := (RX6, cX6_shortestRing, 4, some .int, "shortestRing")
theorem cw_X6_shortestRing : Cond.code yX6_shortestRing mX6_shortestRing.2.1 mX6_shortestRing.2.2.1 mX6_shortestRing.2.2.2.1 ∈ gw_s ∧ Cond.initialized yX6_shortestRing.cls ∈ gw_s ∧ (yX6_shortestRing.cls ≠ "java/lang/invoke/MethodHandle" ∧ yX6_shortestRing.cls ≠ "java/lang/invoke/VarHandle") ∧ (parseMethodDescriptor yX6_shortestRing.desc).map (fun d => d.parameters.length) = some 1 ∧ mX6_shortestRing.2.2.1 ≤ 19 := ⟨gw_i3 226 rfl rfl, gw_i1 11 rfl rfl, ⟨by decide +kernel, by decide +kernel⟩, by decide +kernel, by decide⟩
abbrev mX7_init : My := (RX7, cX7_init, 1, none, "<init>")
theorem cw_X7_init : Cond.code yX7_init mX7_init.2.1 mX7_init.2.2.1 mX7_init.2.2.2.1 ∈ gw_s ∧ Cond.initialized yX7_init.cls ∈ gw_s ∧ (yX7_init.cls ≠ "java/lang/invoke/MethodHandle" ∧ yX7_init.cls ≠ "java/lang/invoke/VarHandle") ∧ (parseMethodDescriptor yX7_init.desc).map (fun d => d.parameters.length) = some 0 ∧ mX7_init.2.2.1 ≤ 19 := ⟨gw_i1 30 rfl rfl, gw_i1 2 rfl rfl, ⟨by decide +kernel, by decide +kernel⟩, by decide +kernel, by decide⟩
abbrev mX7_add : My := (RX7, cX7_add, 2, none, "add")
theorem cw_X7_add : Cond.code yX7_add mX7_add.2.1 mX7_add.2.2.1 mX7_add.2.2.2.1 ∈ gw_s ∧ Cond.initialized yX7_add.cls ∈ gw_s ∧ (yX7_add.cls ≠ "java/lang/invoke/MethodHandle" ∧ yX7_add.cls ≠ "java/lang/invoke/VarHandle") ∧ (parseMethodDescriptor yX7_add.desc).map (fun d => d.parameters.length) = some 1 ∧ mX7_add.2.2.1 ≤ 19 := ⟨gw_i2 174 rfl rfl, gw_i1 2 rfl rfl, ⟨by decide +kernel, by decide +kernel⟩, by decide +kernel, by decide⟩
abbrev mX7_signAt : My := (RX7, cX7_signAt, 2, some .int, "signAt")
theorem cw_X7_signAt : Cond.code yX7_signAt mX7_signAt.2.1 mX7_signAt.2.2.1 mX7_signAt.2.2.2.1 ∈ gw_s ∧ Cond.initialized yX7_signAt.cls ∈ gw_s ∧ (yX7_signAt.cls ≠ "java/lang/invoke/MethodHandle" ∧ yX7_signAt.cls ≠ "java/lang/invoke/VarHandle") ∧ (parseMethodDescriptor yX7_signAt.desc).map (fun d => d.parameters.length) = some 1 ∧ mX7_signAt.2.2.1 ≤ 19 := ⟨gw_i2 194 rfl rfl, gw_i1 2 rfl rfl, ⟨by decide +kernel, by decide +kernel⟩, by decide +kernel, by decide⟩
abbrev mX7_numberAt : My := (RX7, cX7_numberAt, 2, some .int, "numberAt")
theorem cw_X7_numberAt : Cond.code yX7_numberAt mX7_numberAt.2.1 mX7_numberAt.2.2.1 mX7_numberAt.2.2.2.1 ∈ gw_s ∧ Cond.initialized yX7_numberAt.cls ∈ gw_s ∧ (yX7_numberAt.cls ≠ "java/lang/invoke/MethodHandle" ∧ yX7_numberAt.cls ≠ "java/lang/invoke/VarHandle") ∧ (parseMethodDescriptor yX7_numberAt.desc).map (fun d => d.parameters.length) = some 1 ∧ mX7_numberAt.2.2.1 ≤ 19 := ⟨gw_i2 209 rfl rfl, gw_i1 2 rfl rfl, ⟨by decide +kernel, by decide +kernel⟩, by decide +kernel, by decide⟩
abbrev mX7_daysOf : My := (RX7, cX7_daysOf, 1, some .int, "daysOf")
theorem cw_X7_daysOf : Cond.code yX7_daysOf mX7_daysOf.2.1 mX7_daysOf.2.2.1 mX7_daysOf.2.2.2.1 ∈ gw_s ∧ Cond.initialized yX7_daysOf.cls ∈ gw_s ∧ (yX7_daysOf.cls ≠ "java/lang/invoke/MethodHandle" ∧ yX7_daysOf.cls ≠ "java/lang/invoke/VarHandle") ∧ (parseMethodDescriptor yX7_daysOf.desc).map (fun d => d.parameters.length) = some 1 ∧ mX7_daysOf.2.2.1 ≤ 19 := ⟨gw_i2 197 rfl rfl, gw_i1 2 rfl rfl, ⟨by decide +kernel, by decide +kernel⟩, by decide +kernel, by decide⟩
abbrev mX7_isLetter : My := (RX7, cX7_isLetter, 1, some .boolean, "isLetter")
theorem cw_X7_isLetter : Cond.code yX7_isLetter mX7_isLetter.2.1 mX7_isLetter.2.2.1 mX7_isLetter.2.2.2.1 ∈ gw_s ∧ Cond.initialized yX7_isLetter.cls ∈ gw_s ∧ (yX7_isLetter.cls ≠ "java/lang/invoke/MethodHandle" ∧ yX7_isLetter.cls ≠ "java/lang/invoke/VarHandle") ∧ (parseMethodDescriptor yX7_isLetter.desc).map (fun d => d.parameters.length) = some 1 ∧ mX7_isLetter.2.2.1 ≤ 19 := ⟨gw_i2 200 rfl rfl, gw_i1 2 rfl rfl, ⟨by decide +kernel, by decide +kernel⟩, by decide +kernel, by decide⟩
abbrev mX7_countGoodDigits : My := (RX7, cX7_countGoodDigits, 3, some .int, "countGoodDigits")
theorem cw_X7_countGoodDigits : Cond.code yX7_countGoodDigits mX7_countGoodDigits.2.1 mX7_countGoodDigits.2.2.1 mX7_countGoodDigits.2.2.2.1 ∈ gw_s ∧ Cond.initialized yX7_countGoodDigits.cls ∈ gw_s ∧ (yX7_countGoodDigits.cls ≠ "java/lang/invoke/MethodHandle" ∧ yX7_countGoodDigits.cls ≠ "java/lang/invoke/VarHandle") ∧ (parseMethodDescriptor yX7_countGoodDigits.desc).map (fun d => d.parameters.length) = some 1 ∧ mX7_countGoodDigits.2.2.1 ≤ 19 := ⟨gw_i2 204 rfl rfl, gw_i1 2 rfl rfl, ⟨by decide +kernel, by decide +kernel⟩, by decide +kernel, by decide⟩
abbrev mX7_countGood : My := (RX7, cX7_countGood, 5, some .int, "countGood")
theorem cw_X7_countGood : Cond.code yX7_countGood mX7_countGood.2.1 mX7_countGood.2.2.1 mX7_countGood.2.2.2.1 ∈ gw_s ∧ Cond.initialized yX7_countGood.cls ∈ gw_s ∧ (yX7_countGood.cls ≠ "java/lang/invoke/MethodHandle" ∧ yX7_countGood.cls ≠ "java/lang/invoke/VarHandle") ∧ (parseMethodDescriptor yX7_countGood.desc).map (fun d => d.parameters.length) = some 2 ∧ mX7_countGood.2.2.1 ≤ 19 := ⟨gw_i2 190 rfl rfl, gw_i1 2 rfl rfl, ⟨by decide +kernel, by decide +kernel⟩, by decide +kernel, by decide⟩
abbrev mX7_signsOfAct : My := (RX7, cX7_signsOfAct, 2, some .int, "signsOfAct")
theorem cw_X7_signsOfAct : Cond.code yX7_signsOfAct mX7_signsOfAct.2.1 mX7_signsOfAct.2.2.1 mX7_signsOfAct.2.2.2.1 ∈ gw_s ∧ Cond.initialized yX7_signsOfAct.cls ∈ gw_s ∧ (yX7_signsOfAct.cls ≠ "java/lang/invoke/MethodHandle" ∧ yX7_signsOfAct.cls ≠ "java/lang/invoke/VarHandle") ∧ (parseMethodDescriptor yX7_signsOfAct.desc).map (fun d => d.parameters.length) = some 1 ∧ mX7_signsOfAct.2.2.1 ≤ 19 := ⟨gw_i2 213 rfl rfl, gw_i1 2 rfl rfl, ⟨by decide +kernel, by decide +kernel⟩, by decide +kernel, by decide⟩
abbrev mX7_findFault : My := (RX7, cX7_findFault, 6, some .int, "findFault")
theorem cw_X7_findFault : Cond.code yX7_findFault mX7_findFault.2.1 mX7_findFault.2.2.1 mX7_findFault.2.2.2.1 ∈ gw_s ∧ Cond.initialized yX7_findFault.cls ∈ gw_s ∧ (yX7_findFault.cls ≠ "java/lang/invoke/MethodHandle" ∧ yX7_findFault.cls ≠ "java/lang/invoke/VarHandle") ∧ (parseMethodDescriptor yX7_findFault.desc).map (fun d => d.parameters.length) = some 1 ∧ mX7_findFault.2.2.1 ≤ 19 := ⟨gw_i2 186 rfl rfl, gw_i1 2 rfl rfl, ⟨by decide +kernel, by decide +kernel⟩, by decide +kernel, by decide⟩
abbrev mX8_init : My := (RX8, cX8_init, 1, none, "<init>")
theorem cw_X8_init : Cond.code yX8_init mX8_init.2.1 mX8_init.2.2.1 mX8_init.2.2.2.1 ∈ gw_s ∧ Cond.initialized yX8_init.cls ∈ gw_s ∧ (yX8_init.cls ≠ "java/lang/invoke/MethodHandle" ∧ yX8_init.cls ≠ "java/lang/invoke/VarHandle") ∧ (parseMethodDescriptor yX8_init.desc).map (fun d => d.parameters.length) = some 0 ∧ mX8_init.2.2.1 ≤ 19 := ⟨gw_i2 45 rfl rfl, gw_i1 12 rfl rfl, ⟨by decide +kernel, by decide +kernel⟩, by decide +kernel, by decide⟩
abbrev mX8_addStriker : My := (RX8, cX8_addStriker, 8, none, "addStriker")
theorem cw_X8_addStriker : Cond.code yX8_addStriker mX8_addStriker.2.1 mX8_addStriker.2.2.1 mX8_addStriker.2.2.2.1 ∈ gw_s ∧ Cond.initialized yX8_addStriker.cls ∈ gw_s ∧ (yX8_addStriker.cls ≠ "java/lang/invoke/MethodHandle" ∧ yX8_addStriker.cls ≠ "java/lang/invoke/VarHandle") ∧ (parseMethodDescriptor yX8_addStriker.desc).map (fun d => d.parameters.length) = some 2 ∧ mX8_addStriker.2.2.1 ≤ 19 := ⟨gw_i4 69 rfl rfl, gw_i1 12 rfl rfl, ⟨by decide +kernel, by decide +kernel⟩, by decide +kernel, by decide⟩
abbrev mX8_fit : My := (RX8, cX8_fit, 3, none, "fit")
theorem cw_X8_fit : Cond.code yX8_fit mX8_fit.2.1 mX8_fit.2.2.1 mX8_fit.2.2.2.1 ∈ gw_s ∧ Cond.initialized yX8_fit.cls ∈ gw_s ∧ (yX8_fit.cls ≠ "java/lang/invoke/MethodHandle" ∧ yX8_fit.cls ≠ "java/lang/invoke/VarHandle") ∧ (parseMethodDescriptor yX8_fit.desc).map (fun d => d.parameters.length) = some 1 ∧ mX8_fit.2.2.1 ≤ 19 := ⟨gw_i4 64 rfl rfl, gw_i1 12 rfl rfl, ⟨by decide +kernel, by decide +kernel⟩, by decide +kernel, by decide⟩
abbrev mX9_add : My := (RX9, cX9_add, 3, none, "add")
theorem cw_X9_add : Cond.code yX9_add mX9_add.2.1 mX9_add.2.2.1 mX9_add.2.2.2.1 ∈ gw_s ∧ Cond.initialized yX9_add.cls ∈ gw_s ∧ (yX9_add.cls ≠ "java/lang/invoke/MethodHandle" ∧ yX9_add.cls ≠ "java/lang/invoke/VarHandle") ∧ (parseMethodDescriptor yX9_add.desc).map (fun d => d.parameters.length) = some 2 ∧ mX9_add.2.2.1 ≤ 19 := ⟨gw_i4 52 rfl rfl, gw_i1 7 rfl rfl, ⟨by decide +kernel, by decide +kernel⟩, by decide +kernel, by decide⟩
abbrev mX10_init : My := (RX10, cX10_init, 1, none, "<init>")
theorem cw_X10_init : Cond.code yX10_init mX10_init.2.1 mX10_init.2.2.1 mX10_init.2.2.2.1 ∈ gw_s ∧ Cond.initialized yX10_init.cls ∈ gw_s ∧ (yX10_init.cls ≠ "java/lang/invoke/MethodHandle" ∧ yX10_init.cls ≠ "java/lang/invoke/VarHandle") ∧ (parseMethodDescriptor yX10_init.desc).map (fun d => d.parameters.length) = some 0 ∧ mX10_init.2.2.1 ≤ 19 := ⟨gw_i1 227 rfl rfl, gw_i1 9 rfl rfl, ⟨by decide +kernel, by decide +kernel⟩, by decide +kernel, by decide⟩
abbrev mX10_tryAct : My := (RX10, cX10_tryAct, 6, some .int, "tryAct")
theorem cw_X10_tryAct : Cond.code yX10_tryAct mX10_tryAct.2.1 mX10_tryAct.2.2.1 mX10_tryAct.2.2.2.1 ∈ gw_s ∧ Cond.initialized yX10_tryAct.cls ∈ gw_s ∧ (yX10_tryAct.cls ≠ "java/lang/invoke/MethodHandle" ∧ yX10_tryAct.cls ≠ "java/lang/invoke/VarHandle") ∧ (parseMethodDescriptor yX10_tryAct.desc).map (fun d => d.parameters.length) = some 2 ∧ mX10_tryAct.2.2.1 ≤ 19 := ⟨gw_i3 14 rfl rfl, gw_i1 9 rfl rfl, ⟨by decide +kernel, by decide +kernel⟩, by decide +kernel, by decide⟩
abbrev mX10_hear : My := (RX10, cX10_hear, 5, some .boolean, "hear")
theorem cw_X10_hear : Cond.code yX10_hear mX10_hear.2.1 mX10_hear.2.2.1 mX10_hear.2.2.2.1 ∈ gw_s ∧ Cond.initialized yX10_hear.cls ∈ gw_s ∧ (yX10_hear.cls ≠ "java/lang/invoke/MethodHandle" ∧ yX10_hear.cls ≠ "java/lang/invoke/VarHandle") ∧ (parseMethodDescriptor yX10_hear.desc).map (fun d => d.parameters.length) = some 2 ∧ mX10_hear.2.2.1 ≤ 19 := ⟨gw_i2 222 rfl rfl, gw_i1 9 rfl rfl, ⟨by decide +kernel, by decide +kernel⟩, by decide +kernel, by decide⟩
abbrev mX10_draw : My := (RX10, cX10_draw, 7, none, "draw")
theorem cw_X10_draw : Cond.code yX10_draw mX10_draw.2.1 mX10_draw.2.2.1 mX10_draw.2.2.2.1 ∈ gw_s ∧ Cond.initialized yX10_draw.cls ∈ gw_s ∧ (yX10_draw.cls ≠ "java/lang/invoke/MethodHandle" ∧ yX10_draw.cls ≠ "java/lang/invoke/VarHandle") ∧ (parseMethodDescriptor yX10_draw.desc).map (fun d => d.parameters.length) = some 3 ∧ mX10_draw.2.2.1 ≤ 19 := ⟨gw_i4 86 rfl rfl, gw_i1 9 rfl rfl, ⟨by decide +kernel, by decide +kernel⟩, by decide +kernel, by decide⟩
abbrev mX11_init : My := (RX11, cX11_init, 1, none, "<init>")
theorem cw_X11_init : Cond.code yX11_init mX11_init.2.1 mX11_init.2.2.1 mX11_init.2.2.2.1 ∈ gw_s ∧ Cond.initialized yX11_init.cls ∈ gw_s ∧ (yX11_init.cls ≠ "java/lang/invoke/MethodHandle" ∧ yX11_init.cls ≠ "java/lang/invoke/VarHandle") ∧ (parseMethodDescriptor yX11_init.desc).map (fun d => d.parameters.length) = some 0 ∧ mX11_init.2.2.1 ≤ 19 := ⟨gw_i1 22 rfl rfl, gw_i1 1 rfl rfl, ⟨by decide +kernel, by decide +kernel⟩, by decide +kernel, by decide⟩
abbrev mX11_chapels : My := (RX11, cX11_chapels, 3, some .int, "chapels")
theorem cw_X11_chapels : Cond.code yX11_chapels mX11_chapels.2.1 mX11_chapels.2.2.1 mX11_chapels.2.2.2.1 ∈ gw_s ∧ Cond.initialized yX11_chapels.cls ∈ gw_s ∧ (yX11_chapels.cls ≠ "java/lang/invoke/MethodHandle" ∧ yX11_chapels.cls ≠ "java/lang/invoke/VarHandle") ∧ (parseMethodDescriptor yX11_chapels.desc).map (fun d => d.parameters.length) = some 1 ∧ mX11_chapels.2.2.1 ≤ 19 := ⟨gw_i2 88 rfl rfl, gw_i1 1 rfl rfl, ⟨by decide +kernel, by decide +kernel⟩, by decide +kernel, by decide⟩
abbrev mX11_road : My := (RX11, cX11_road, 5, some .int, "road")
theorem cw_X11_road : Cond.code yX11_road mX11_road.2.1 mX11_road.2.2.1 mX11_road.2.2.2.1 ∈ gw_s ∧ Cond.initialized yX11_road.cls ∈ gw_s ∧ (yX11_road.cls ≠ "java/lang/invoke/MethodHandle" ∧ yX11_road.cls ≠ "java/lang/invoke/VarHandle") ∧ (parseMethodDescriptor yX11_road.desc).map (fun d => d.parameters.length) = some 3 ∧ mX11_road.2.2.1 ≤ 19 := ⟨gw_i2 106 rfl rfl, gw_i1 1 rfl rfl, ⟨by decide +kernel, by decide +kernel⟩, by decide +kernel, by decide⟩
abbrev mX11_yearOf : My := (RX11, cX11_yearOf, 3, some .int, "yearOf")
theorem cw_X11_yearOf : Cond.code yX11_yearOf mX11_yearOf.2.1 mX11_yearOf.2.2.1 mX11_yearOf.2.2.2.1 ∈ gw_s ∧ Cond.initialized yX11_yearOf.cls ∈ gw_s ∧ (yX11_yearOf.cls ≠ "java/lang/invoke/MethodHandle" ∧ yX11_yearOf.cls ≠ "java/lang/invoke/VarHandle") ∧ (parseMethodDescriptor yX11_yearOf.desc).map (fun d => d.parameters.length) = some 1 ∧ mX11_yearOf.2.2.1 ≤ 19 := ⟨gw_i2 123 rfl rfl, gw_i1 1 rfl rfl, ⟨by decide +kernel, by decide +kernel⟩, by decide +kernel, by decide⟩
abbrev mX11_knight : My := (RX11, cX11_knight, 7, some .int, "knight")
theorem cw_X11_knight : Cond.code yX11_knight mX11_knight.2.1 mX11_knight.2.2.1 mX11_knight.2.2.2.1 ∈ gw_s ∧ Cond.initialized yX11_knight.cls ∈ gw_s ∧ (yX11_knight.cls ≠ "java/lang/invoke/MethodHandle" ∧ yX11_knight.cls ≠ "java/lang/invoke/VarHandle") ∧ (parseMethodDescriptor yX11_knight.desc).map (fun d => d.parameters.length) = some 5 ∧ mX11_knight.2.2.1 ≤ 19 := ⟨gw_i2 127 rfl rfl, gw_i1 1 rfl rfl, ⟨by decide +kernel, by decide +kernel⟩, by decide +kernel, by decide⟩
abbrev mX11_heir : My := (RX11, cX11_heir, 3, some .int, "heir")
theorem cw_X11_heir : Cond.code yX11_heir mX11_heir.2.1 mX11_heir.2.2.1 mX11_heir.2.2.2.1 ∈ gw_s ∧ Cond.initialized yX11_heir.cls ∈ gw_s ∧ (yX11_heir.cls ≠ "java/lang/invoke/MethodHandle" ∧ yX11_heir.cls ≠ "java/lang/invoke/VarHandle") ∧ (parseMethodDescriptor yX11_heir.desc).map (fun d => d.parameters.length) = some 2 ∧ mX11_heir.2.2.1 ≤ 19 := ⟨gw_i2 153 rfl rfl, gw_i1 1 rfl rfl, ⟨by decide +kernel, by decide +kernel⟩, by decide +kernel, by decide⟩
abbrev mX11_say : My := (RX11, cX11_say, 2, some .int, "say")
theorem cw_X11_say : Cond.code yX11_say mX11_say.2.1 mX11_say.2.2.1 mX11_say.2.2.2.1 ∈ gw_s ∧ Cond.initialized yX11_say.cls ∈ gw_s ∧ (yX11_say.cls ≠ "java/lang/invoke/MethodHandle" ∧ yX11_say.cls ≠ "java/lang/invoke/VarHandle") ∧ (parseMethodDescriptor yX11_say.desc).map (fun d => d.parameters.length) = some 1 ∧ mX11_say.2.2.1 ≤ 19 := ⟨gw_i2 170 rfl rfl, gw_i1 1 rfl rfl, ⟨by decide +kernel, by decide +kernel⟩, by decide +kernel, by decide⟩
abbrev mX11_wipe : My := (RX11, cX11_wipe, 2, some .int, "wipe")
theorem cw_X11_wipe : Cond.code yX11_wipe mX11_wipe.2.1 mX11_wipe.2.2.1 mX11_wipe.2.2.2.1 ∈ gw_s ∧ Cond.initialized yX11_wipe.cls ∈ gw_s ∧ (yX11_wipe.cls ≠ "java/lang/invoke/MethodHandle" ∧ yX11_wipe.cls ≠ "java/lang/invoke/VarHandle") ∧ (parseMethodDescriptor yX11_wipe.desc).map (fun d => d.parameters.length) = some 0 ∧ mX11_wipe.2.2.1 ≤ 19 := ⟨gw_i2 178 rfl rfl, gw_i1 1 rfl rfl, ⟨by decide +kernel, by decide +kernel⟩, by decide +kernel, by decide⟩
abbrev mX11_fault : My := (RX11, cX11_fault, 1, some .int, "fault")
theorem cw_X11_fault : Cond.code yX11_fault mX11_fault.2.1 mX11_fault.2.2.1 mX11_fault.2.2.2.1 ∈ gw_s ∧ Cond.initialized yX11_fault.cls ∈ gw_s ∧ (yX11_fault.cls ≠ "java/lang/invoke/MethodHandle" ∧ yX11_fault.cls ≠ "java/lang/invoke/VarHandle") ∧ (parseMethodDescriptor yX11_fault.desc).map (fun d => d.parameters.length) = some 0 ∧ mX11_fault.2.2.1 ≤ 19 := ⟨gw_i2 182 rfl rfl, gw_i1 1 rfl rfl, ⟨by decide +kernel, by decide +kernel⟩, by decide +kernel, by decide⟩
abbrev mX11_judge : My := (RX11, cX11_judge, 2, some .int, "judge")
theorem cw_X11_judge : Cond.code yX11_judge mX11_judge.2.1 mX11_judge.2.2.1 mX11_judge.2.2.2.1 ∈ gw_s ∧ Cond.initialized yX11_judge.cls ∈ gw_s ∧ (yX11_judge.cls ≠ "java/lang/invoke/MethodHandle" ∧ yX11_judge.cls ≠ "java/lang/invoke/VarHandle") ∧ (parseMethodDescriptor yX11_judge.desc).map (fun d => d.parameters.length) = some 1 ∧ mX11_judge.2.2.1 ≤ 19 := ⟨gw_i2 217 rfl rfl, gw_i1 1 rfl rfl, ⟨by decide +kernel, by decide +kernel⟩, by decide +kernel, by decide⟩
abbrev mX11_done : My := (RX11, cX11_done, 1, some .int, "done")
theorem cw_X11_done : Cond.code yX11_done mX11_done.2.1 mX11_done.2.2.1 mX11_done.2.2.2.1 ∈ gw_s ∧ Cond.initialized yX11_done.cls ∈ gw_s ∧ (yX11_done.cls ≠ "java/lang/invoke/MethodHandle" ∧ yX11_done.cls ≠ "java/lang/invoke/VarHandle") ∧ (parseMethodDescriptor yX11_done.desc).map (fun d => d.parameters.length) = some 0 ∧ mX11_done.2.2.1 ≤ 19 := ⟨gw_i3 104 rfl rfl, gw_i1 1 rfl rfl, ⟨by decide +kernel, by decide +kernel⟩, by decide +kernel, by decide⟩
abbrev mX11_state : My := (RX11, cX11_state, 3, some .int, "state")
theorem cw_X11_state : Cond.code yX11_state mX11_state.2.1 mX11_state.2.2.1 mX11_state.2.2.2.1 ∈ gw_s ∧ Cond.initialized yX11_state.cls ∈ gw_s ∧ (yX11_state.cls ≠ "java/lang/invoke/MethodHandle" ∧ yX11_state.cls ≠ "java/lang/invoke/VarHandle") ∧ (parseMethodDescriptor yX11_state.desc).map (fun d => d.parameters.length) = some 2 ∧ mX11_state.2.2.1 ≤ 19 := ⟨gw_i3 109 rfl rfl, gw_i1 1 rfl rfl, ⟨by decide +kernel, by decide +kernel⟩, by decide +kernel, by decide⟩
abbrev mX11_behind : My := (RX11, cX11_behind, 3, some .int, "behind")
theorem cw_X11_behind : Cond.code yX11_behind mX11_behind.2.1 mX11_behind.2.2.1 mX11_behind.2.2.2.1 ∈ gw_s ∧ Cond.initialized yX11_behind.cls ∈ gw_s ∧ (yX11_behind.cls ≠ "java/lang/invoke/MethodHandle" ∧ yX11_behind.cls ≠ "java/lang/invoke/VarHandle") ∧ (parseMethodDescriptor yX11_behind.desc).map (fun d => d.parameters.length) = some 2 ∧ mX11_behind.2.2.1 ≤ 19 := ⟨gw_i3 118 rfl rfl, gw_i1 1 rfl rfl, ⟨by decide +kernel, by decide +kernel⟩, by decide +kernel, by decide⟩
abbrev mX11_debt : My := (RX11, cX11_debt, 3, some .int, "debt")
theorem cw_X11_debt : Cond.code yX11_debt mX11_debt.2.1 mX11_debt.2.2.1 mX11_debt.2.2.2.1 ∈ gw_s ∧ Cond.initialized yX11_debt.cls ∈ gw_s ∧ (yX11_debt.cls ≠ "java/lang/invoke/MethodHandle" ∧ yX11_debt.cls ≠ "java/lang/invoke/VarHandle") ∧ (parseMethodDescriptor yX11_debt.desc).map (fun d => d.parameters.length) = some 2 ∧ mX11_debt.2.2.1 ≤ 19 := ⟨gw_i3 122 rfl rfl, gw_i1 1 rfl rfl, ⟨by decide +kernel, by decide +kernel⟩, by decide +kernel, by decide⟩
abbrev mX11_when : My := (RX11, cX11_when, 4, some .int, "when")
theorem cw_X11_when : Cond.code yX11_when mX11_when.2.1 mX11_when.2.2.1 mX11_when.2.2.2.1 ∈ gw_s ∧ Cond.initialized yX11_when.cls ∈ gw_s ∧ (yX11_when.cls ≠ "java/lang/invoke/MethodHandle" ∧ yX11_when.cls ≠ "java/lang/invoke/VarHandle") ∧ (parseMethodDescriptor yX11_when.desc).map (fun d => d.parameters.length) = some 2 ∧ mX11_when.2.2.1 ≤ 19 := ⟨gw_i3 131 rfl rfl, gw_i1 1 rfl rfl, ⟨by decide +kernel, by decide +kernel⟩, by decide +kernel, by decide⟩
abbrev mX11_inTime : My := (RX11, cX11_inTime, 2, some .int, "inTime")
theorem cw_X11_inTime : Cond.code yX11_inTime mX11_inTime.2.1 mX11_inTime.2.2.1 mX11_inTime.2.2.2.1 ∈ gw_s ∧ Cond.initialized yX11_inTime.cls ∈ gw_s ∧ (yX11_inTime.cls ≠ "java/lang/invoke/MethodHandle" ∧ yX11_inTime.cls ≠ "java/lang/invoke/VarHandle") ∧ (parseMethodDescriptor yX11_inTime.desc).map (fun d => d.parameters.length) = some 1 ∧ mX11_inTime.2.2.1 ≤ 19 := ⟨gw_i3 160 rfl rfl, gw_i1 1 rfl rfl, ⟨by decide +kernel, by decide +kernel⟩, by decide +kernel, by decide⟩
abbrev mX11_round : My := (RX11, cX11_round, 3, some .int, "round")
theorem cw_X11_round : Cond.code yX11_round mX11_round.2.1 mX11_round.2.2.1 mX11_round.2.2.2.1 ∈ gw_s ∧ Cond.initialized yX11_round.cls ∈ gw_s ∧ (yX11_round.cls ≠ "java/lang/invoke/MethodHandle" ∧ yX11_round.cls ≠ "java/lang/invoke/VarHandle") ∧ (parseMethodDescriptor yX11_round.desc).map (fun d => d.parameters.length) = some 2 ∧ mX11_round.2.2.1 ≤ 19 := ⟨gw_i3 172 rfl rfl, gw_i1 1 rfl rfl, ⟨by decide +kernel, by decide +kernel⟩, by decide +kernel, by decide⟩
abbrev mX11_gainOf : My := (RX11, cX11_gainOf, 8, some .int, "gainOf")
theorem cw_X11_gainOf : Cond.code yX11_gainOf mX11_gainOf.2.1 mX11_gainOf.2.2.1 mX11_gainOf.2.2.2.1 ∈ gw_s ∧ Cond.initialized yX11_gainOf.cls ∈ gw_s ∧ (yX11_gainOf.cls ≠ "java/lang/invoke/MethodHandle" ∧ yX11_gainOf.cls ≠ "java/lang/invoke/VarHandle") ∧ (parseMethodDescriptor yX11_gainOf.desc).map (fun d => d.parameters.length) = some 5 ∧ mX11_gainOf.2.2.1 ≤ 19 := ⟨gw_i3 204 rfl rfl, gw_i1 1 rfl rfl, ⟨by decide +kernel, by decide +kernel⟩, by decide +kernel, by decide⟩
abbrev mX11_bestBlow : My := (RX11, cX11_bestBlow, 6, some .int, "bestBlow")
theorem cw_X11_bestBlow : Cond.code yX11_bestBlow mX11_bestBlow.2.1 mX11_bestBlow.2.2.1 mX11_bestBlow.2.2.2.1 ∈ gw_s ∧ Cond.initialized yX11_bestBlow.cls ∈ gw_s ∧ (yX11_bestBlow.cls ≠ "java/lang/invoke/MethodHandle" ∧ yX11_bestBlow.cls ≠ "java/lang/invoke/VarHandle") ∧ (parseMethodDescriptor yX11_bestBlow.desc).map (fun d => d.parameters.length) = some 4 ∧ mX11_bestBlow.2.2.1 ≤ 19 := ⟨gw_i3 201 rfl rfl, gw_i1 1 rfl rfl, ⟨by decide +kernel, by decide +kernel⟩, by decide +kernel, by decide⟩
abbrev mX11_hard : My := (RX11, cX11_hard, 9, some .int, "hard")
theorem cw_X11_hard : Cond.code yX11_hard mX11_hard.2.1 mX11_hard.2.2.1 mX11_hard.2.2.2.1 ∈ gw_s ∧ Cond.initialized yX11_hard.cls ∈ gw_s ∧ (yX11_hard.cls ≠ "java/lang/invoke/MethodHandle" ∧ yX11_hard.cls ≠ "java/lang/invoke/VarHandle") ∧ (parseMethodDescriptor yX11_hard.desc).map (fun d => d.parameters.length) = some 5 ∧ mX11_hard.2.2.1 ≤ 19 := ⟨gw_i3 198 rfl rfl, gw_i1 1 rfl rfl, ⟨by decide +kernel, by decide +kernel⟩, by decide +kernel, by decide⟩
abbrev mX11_settled : My := (RX11, cX11_settled, 1, some .int, "settled")
theorem cw_X11_settled : Cond.code yX11_settled mX11_settled.2.1 mX11_settled.2.2.1 mX11_settled.2.2.2.1 ∈ gw_s ∧ Cond.initialized yX11_settled.cls ∈ gw_s ∧ (yX11_settled.cls ≠ "java/lang/invoke/MethodHandle" ∧ yX11_settled.cls ≠ "java/lang/invoke/VarHandle") ∧ (parseMethodDescriptor yX11_settled.desc).map (fun d => d.parameters.length) = some 0 ∧ mX11_settled.2.2.1 ≤ 19 := ⟨gw_i3 209 rfl rfl, gw_i1 1 rfl rfl, ⟨by decide +kernel, by decide +kernel⟩, by decide +kernel, by decide⟩
abbrev mX11_ring : My := (RX11, cX11_ring, 1, some .int, "ring")
theorem cw_X11_ring : Cond.code yX11_ring mX11_ring.2.1 mX11_ring.2.2.1 mX11_ring.2.2.2.1 ∈ gw_s ∧ Cond.initialized yX11_ring.cls ∈ gw_s ∧ (yX11_ring.cls ≠ "java/lang/invoke/MethodHandle" ∧ yX11_ring.cls ≠ "java/lang/invoke/VarHandle") ∧ (parseMethodDescriptor yX11_ring.desc).map (fun d => d.parameters.length) = some 0 ∧ mX11_ring.2.2.1 ≤ 19 := ⟨gw_i3 222 rfl rfl, gw_i1 1 rfl rfl, ⟨by decide +kernel, by decide +kernel⟩, by decide +kernel, by decide⟩
abbrev mX11_cut : My := (RX11, cX11_cut, 2, some .int, "cut")
theorem cw_X11_cut : Cond.code yX11_cut mX11_cut.2.1 mX11_cut.2.2.1 mX11_cut.2.2.2.1 ∈ gw_s ∧ Cond.initialized yX11_cut.cls ∈ gw_s ∧ (yX11_cut.cls ≠ "java/lang/invoke/MethodHandle" ∧ yX11_cut.cls ≠ "java/lang/invoke/VarHandle") ∧ (parseMethodDescriptor yX11_cut.desc).map (fun d => d.parameters.length) = some 2 ∧ mX11_cut.2.2.1 ≤ 19 := ⟨gw_i4 6 rfl rfl, gw_i1 1 rfl rfl, ⟨by decide +kernel, by decide +kernel⟩, by decide +kernel, by decide⟩
abbrev mX11_reckoned : My := (RX11, cX11_reckoned, 5, some .int, "reckoned")
theorem cw_X11_reckoned : Cond.code yX11_reckoned mX11_reckoned.2.1 mX11_reckoned.2.2.1 mX11_reckoned.2.2.2.1 ∈ gw_s ∧ Cond.initialized yX11_reckoned.cls ∈ gw_s ∧ (yX11_reckoned.cls ≠ "java/lang/invoke/MethodHandle" ∧ yX11_reckoned.cls ≠ "java/lang/invoke/VarHandle") ∧ (parseMethodDescriptor yX11_reckoned.desc).map (fun d => d.parameters.length) = some 3 ∧ mX11_reckoned.2.2.1 ≤ 19 := ⟨gw_i4 1 rfl rfl, gw_i1 1 rfl rfl, ⟨by decide +kernel, by decide +kernel⟩, by decide +kernel, by decide⟩
abbrev mX11_areTenths : My := (RX11, cX11_areTenths, 1, some .boolean, "areTenths")
theorem cw_X11_areTenths : Cond.code yX11_areTenths mX11_areTenths.2.1 mX11_areTenths.2.2.1 mX11_areTenths.2.2.2.1 ∈ gw_s ∧ Cond.initialized yX11_areTenths.cls ∈ gw_s ∧ (yX11_areTenths.cls ≠ "java/lang/invoke/MethodHandle" ∧ yX11_areTenths.cls ≠ "java/lang/invoke/VarHandle") ∧ (parseMethodDescriptor yX11_areTenths.desc).map (fun d => d.parameters.length) = some 1 ∧ mX11_areTenths.2.2.1 ≤ 19 := ⟨gw_i4 14 rfl rfl, gw_i1 1 rfl rfl, ⟨by decide +kernel, by decide +kernel⟩, by decide +kernel, by decide⟩
abbrev mX11_power : My := (RX11, cX11_power, 5, some .long, "power")
theorem cw_X11_power : Cond.code yX11_power mX11_power.2.1 mX11_power.2.2.1 mX11_power.2.2.2.1 ∈ gw_s ∧ Cond.initialized yX11_power.cls ∈ gw_s ∧ (yX11_power.cls ≠ "java/lang/invoke/MethodHandle" ∧ yX11_power.cls ≠ "java/lang/invoke/VarHandle") ∧ (parseMethodDescriptor yX11_power.desc).map (fun d => d.parameters.length) = some 2 ∧ mX11_power.2.2.1 ≤ 19 := ⟨gw_i4 27 rfl rfl, gw_i1 1 rfl rfl, ⟨by decide +kernel, by decide +kernel⟩, by decide +kernel, by decide⟩
abbrev mX11_tenTo : My := (RX11, cX11_tenTo, 1, some .long, "tenTo")
theorem cw_X11_tenTo : Cond.code yX11_tenTo mX11_tenTo.2.1 mX11_tenTo.2.2.1 mX11_tenTo.2.2.2.1 ∈ gw_s ∧ Cond.initialized yX11_tenTo.cls ∈ gw_s ∧ (yX11_tenTo.cls ≠ "java/lang/invoke/MethodHandle" ∧ yX11_tenTo.cls ≠ "java/lang/invoke/VarHandle") ∧ (parseMethodDescriptor yX11_tenTo.desc).map (fun d => d.parameters.length) = some 1 ∧ mX11_tenTo.2.2.1 ≤ 19 := ⟨gw_i4 24 rfl rfl, gw_i1 1 rfl rfl, ⟨by decide +kernel, by decide +kernel⟩, by decide +kernel, by decide⟩
abbrev mX11_exchanged : My := (RX11, cX11_exchanged, 4, some .long, "exchanged")
theorem cw_X11_exchanged : Cond.code yX11_exchanged mX11_exchanged.2.1 mX11_exchanged.2.2.1 mX11_exchanged.2.2.2.1 ∈ gw_s ∧ Cond.initialized yX11_exchanged.cls ∈ gw_s ∧ (yX11_exchanged.cls ≠ "java/lang/invoke/MethodHandle" ∧ yX11_exchanged.cls ≠ "java/lang/invoke/VarHandle") ∧ (parseMethodDescriptor yX11_exchanged.desc).map (fun d => d.parameters.length) = some 3 ∧ mX11_exchanged.2.2.1 ≤ 19 := ⟨gw_i4 21 rfl rfl, gw_i1 1 rfl rfl, ⟨by decide +kernel, by decide +kernel⟩, by decide +kernel, by decide⟩
abbrev mX11_keptBack : My := (RX11, cX11_keptBack, 9, some .long, "keptBack")
theorem cw_X11_keptBack : Cond.code yX11_keptBack mX11_keptBack.2.1 mX11_keptBack.2.2.1 mX11_keptBack.2.2.2.1 ∈ gw_s ∧ Cond.initialized yX11_keptBack.cls ∈ gw_s ∧ (yX11_keptBack.cls ≠ "java/lang/invoke/MethodHandle" ∧ yX11_keptBack.cls ≠ "java/lang/invoke/VarHandle") ∧ (parseMethodDescriptor yX11_keptBack.desc).map (fun d => d.parameters.length) = some 4 ∧ mX11_keptBack.2.2.1 ≤ 19 := ⟨gw_i4 31 rfl rfl, gw_i1 1 rfl rfl, ⟨by decide +kernel, by decide +kernel⟩, by decide +kernel, by decide⟩
abbrev mX11_mostKept : My := (RX11, cX11_mostKept, 6, some .long, "mostKept")
theorem cw_X11_mostKept : Cond.code yX11_mostKept mX11_mostKept.2.1 mX11_mostKept.2.2.1 mX11_mostKept.2.2.2.1 ∈ gw_s ∧ Cond.initialized yX11_mostKept.cls ∈ gw_s ∧ (yX11_mostKept.cls ≠ "java/lang/invoke/MethodHandle" ∧ yX11_mostKept.cls ≠ "java/lang/invoke/VarHandle") ∧ (parseMethodDescriptor yX11_mostKept.desc).map (fun d => d.parameters.length) = some 3 ∧ mX11_mostKept.2.2.1 ≤ 19 := ⟨gw_i4 18 rfl rfl, gw_i1 1 rfl rfl, ⟨by decide +kernel, by decide +kernel⟩, by decide +kernel, by decide⟩
abbrev mX11_commonDivisor : My := (RX11, cX11_commonDivisor, 11, some .long, "commonDivisor")
theorem cw_X11_commonDivisor : Cond.code yX11_commonDivisor mX11_commonDivisor.2.1 mX11_commonDivisor.2.2.1 mX11_commonDivisor.2.2.2.1 ∈ gw_s ∧ Cond.initialized yX11_commonDivisor.cls ∈ gw_s ∧ (yX11_commonDivisor.cls ≠ "java/lang/invoke/MethodHandle" ∧ yX11_commonDivisor.cls ≠ "java/lang/invoke/VarHandle") ∧ (parseMethodDescriptor yX11_commonDivisor.desc).map (fun d => d.parameters.length) = some 2 ∧ mX11_commonDivisor.2.2.1 ≤ 19 := ⟨gw_i4 40 rfl rfl, gw_i1 1 rfl rfl, ⟨by decide +kernel, by decide +kernel⟩, by decide +kernel, by decide⟩
abbrev mX11_partOf : My := (RX11, cX11_partOf, 7, some .long, "partOf")
theorem cw_X11_partOf : Cond.code yX11_partOf mX11_partOf.2.1 mX11_partOf.2.2.1 mX11_partOf.2.2.2.1 ∈ gw_s ∧ Cond.initialized yX11_partOf.cls ∈ gw_s ∧ (yX11_partOf.cls ≠ "java/lang/invoke/MethodHandle" ∧ yX11_partOf.cls ≠ "java/lang/invoke/VarHandle") ∧ (parseMethodDescriptor yX11_partOf.desc).map (fun d => d.parameters.length) = some 3 ∧ mX11_partOf.2.2.1 ≤ 19 := ⟨gw_i4 37 rfl rfl, gw_i1 1 rfl rfl, ⟨by decide +kernel, by decide +kernel⟩, by decide +kernel, by decide⟩
abbrev mX11_kept : My := (RX11, cX11_kept, 5, some .long, "kept")
theorem cw_X11_kept : Cond.code yX11_kept mX11_kept.2.1 mX11_kept.2.2.1 mX11_kept.2.2.2.1 ∈ gw_s ∧ Cond.initialized yX11_kept.cls ∈ gw_s ∧ (yX11_kept.cls ≠ "java/lang/invoke/MethodHandle" ∧ yX11_kept.cls ≠ "java/lang/invoke/VarHandle") ∧ (parseMethodDescriptor yX11_kept.desc).map (fun d => d.parameters.length) = some 4 ∧ mX11_kept.2.2.1 ≤ 19 := ⟨gw_i4 11 rfl rfl, gw_i1 1 rfl rfl, ⟨by decide +kernel, by decide +kernel⟩, by decide +kernel, by decide⟩
abbrev mX11_keeps : My := (RX11, cX11_keeps, 6, some .int, "keeps")
theorem cw_X11_keeps : Cond.code yX11_keeps mX11_keeps.2.1 mX11_keeps.2.2.1 mX11_keeps.2.2.2.1 ∈ gw_s ∧ Cond.initialized yX11_keeps.cls ∈ gw_s ∧ (yX11_keeps.cls ≠ "java/lang/invoke/MethodHandle" ∧ yX11_keeps.cls ≠ "java/lang/invoke/VarHandle") ∧ (parseMethodDescriptor yX11_keeps.desc).map (fun d => d.parameters.length) = some 3 ∧ mX11_keeps.2.2.1 ≤ 19 := ⟨gw_i4 44 rfl rfl, gw_i1 1 rfl rfl, ⟨by decide +kernel, by decide +kernel⟩, by decide +kernel, by decide⟩
abbrev mX11_seen : My := (RX11, cX11_seen, 3, some .int, "seen")
theorem cw_X11_seen : Cond.code yX11_seen mX11_seen.2.1 mX11_seen.2.2.1 mX11_seen.2.2.2.1 ∈ gw_s ∧ Cond.initialized yX11_seen.cls ∈ gw_s ∧ (yX11_seen.cls ≠ "java/lang/invoke/MethodHandle" ∧ yX11_seen.cls ≠ "java/lang/invoke/VarHandle") ∧ (parseMethodDescriptor yX11_seen.desc).map (fun d => d.parameters.length) = some 2 ∧ mX11_seen.2.2.1 ≤ 19 := ⟨gw_i4 48 rfl rfl, gw_i1 1 rfl rfl, ⟨by decide +kernel, by decide +kernel⟩, by decide +kernel, by decide⟩
abbrev mX11_forget : My := (RX11, cX11_forget, 2, some .int, "forget")
theorem cw_X11_forget : Cond.code yX11_forget mX11_forget.2.1 mX11_forget.2.2.1 mX11_forget.2.2.2.1 ∈ gw_s ∧ Cond.initialized yX11_forget.cls ∈ gw_s ∧ (yX11_forget.cls ≠ "java/lang/invoke/MethodHandle" ∧ yX11_forget.cls ≠ "java/lang/invoke/VarHandle") ∧ (parseMethodDescriptor yX11_forget.desc).map (fun d => d.parameters.length) = some 0 ∧ mX11_forget.2.2.1 ≤ 19 := ⟨gw_i4 56 rfl rfl, gw_i1 1 rfl rfl, ⟨by decide +kernel, by decide +kernel⟩, by decide +kernel, by decide⟩
abbrev mX11_who : My := (RX11, cX11_who, 2, some .int, "who")
theorem cw_X11_who : Cond.code yX11_who mX11_who.2.1 mX11_who.2.2.1 mX11_who.2.2.2.1 ∈ gw_s ∧ Cond.initialized yX11_who.cls ∈ gw_s ∧ (yX11_who.cls ≠ "java/lang/invoke/MethodHandle" ∧ yX11_who.cls ≠ "java/lang/invoke/VarHandle") ∧ (parseMethodDescriptor yX11_who.desc).map (fun d => d.parameters.length) = some 1 ∧ mX11_who.2.2.1 ≤ 19 := ⟨gw_i4 60 rfl rfl, gw_i1 1 rfl rfl, ⟨by decide +kernel, by decide +kernel⟩, by decide +kernel, by decide⟩
abbrev mX11_goneInTime : My := (RX11, cX11_goneInTime, 8, some .long, "goneInTime")
theorem cw_X11_goneInTime : Cond.code yX11_goneInTime mX11_goneInTime.2.1 mX11_goneInTime.2.2.1 mX11_goneInTime.2.2.2.1 ∈ gw_s ∧ Cond.initialized yX11_goneInTime.cls ∈ gw_s ∧ (yX11_goneInTime.cls ≠ "java/lang/invoke/MethodHandle" ∧ yX11_goneInTime.cls ≠ "java/lang/invoke/VarHandle") ∧ (parseMethodDescriptor yX11_goneInTime.desc).map (fun d => d.parameters.length) = some 3 ∧ mX11_goneInTime.2.2.1 ≤ 19 := ⟨gw_i4 78 rfl rfl, gw_i1 1 rfl rfl, ⟨by decide +kernel, by decide +kernel⟩, by decide +kernel, by decide⟩
abbrev mX11_snow : My := (RX11, cX11_snow, 5, some .long, "snow")
theorem cw_X11_snow : Cond.code yX11_snow mX11_snow.2.1 mX11_snow.2.2.1 mX11_snow.2.2.2.1 ∈ gw_s ∧ Cond.initialized yX11_snow.cls ∈ gw_s ∧ (yX11_snow.cls ≠ "java/lang/invoke/MethodHandle" ∧ yX11_snow.cls ≠ "java/lang/invoke/VarHandle") ∧ (parseMethodDescriptor yX11_snow.desc).map (fun d => d.parameters.length) = some 4 ∧ mX11_snow.2.2.1 ≤ 19 := ⟨gw_i4 75 rfl rfl, gw_i1 1 rfl rfl, ⟨by decide +kernel, by decide +kernel⟩, by decide +kernel, by decide⟩
abbrev mX11_year : My := (RX11, cX11_year, 4, some .int, "year")
theorem cw_X11_year : Cond.code yX11_year mX11_year.2.1 mX11_year.2.2.1 mX11_year.2.2.2.1 ∈ gw_s ∧ Cond.initialized yX11_year.cls ∈ gw_s ∧ (yX11_year.cls ≠ "java/lang/invoke/MethodHandle" ∧ yX11_year.cls ≠ "java/lang/invoke/VarHandle") ∧ (parseMethodDescriptor yX11_year.desc).map (fun d => d.parameters.length) = some 3 ∧ mX11_year.2.2.1 ≤ 19 := ⟨gw_i4 82 rfl rfl, gw_i1 1 rfl rfl, ⟨by decide +kernel, by decide +kernel⟩, by decide +kernel, by decide⟩
abbrev mX11_image : My := (RX11, cX11_image, 2, some .int, "image")
theorem cw_X11_image : Cond.code yX11_image mX11_image.2.1 mX11_image.2.2.1 mX11_image.2.2.2.1 ∈ gw_s ∧ Cond.initialized yX11_image.cls ∈ gw_s ∧ (yX11_image.cls ≠ "java/lang/invoke/MethodHandle" ∧ yX11_image.cls ≠ "java/lang/invoke/VarHandle") ∧ (parseMethodDescriptor yX11_image.desc).map (fun d => d.parameters.length) = some 1 ∧ mX11_image.2.2.1 ≤ 19 := ⟨gw_i4 99 rfl rfl, gw_i1 1 rfl rfl, ⟨by decide +kernel, by decide +kernel⟩, by decide +kernel, by decide⟩
abbrev mX11_restore : My := (RX11, cX11_restore, 2, some .int, "restore")
theorem cw_X11_restore : Cond.code yX11_restore mX11_restore.2.1 mX11_restore.2.2.1 mX11_restore.2.2.2.1 ∈ gw_s ∧ Cond.initialized yX11_restore.cls ∈ gw_s ∧ (yX11_restore.cls ≠ "java/lang/invoke/MethodHandle" ∧ yX11_restore.cls ≠ "java/lang/invoke/VarHandle") ∧ (parseMethodDescriptor yX11_restore.desc).map (fun d => d.parameters.length) = some 1 ∧ mX11_restore.2.2.1 ≤ 19 := ⟨gw_i4 103 rfl rfl, gw_i1 1 rfl rfl, ⟨by decide +kernel, by decide +kernel⟩, by decide +kernel, by decide⟩
abbrev mX11_toldOfKnight : My := (RX11, cX11_toldOfKnight, 4, some .int, "toldOfKnight")
theorem cw_X11_toldOfKnight : Cond.code yX11_toldOfKnight mX11_toldOfKnight.2.1 mX11_toldOfKnight.2.2.1 mX11_toldOfKnight.2.2.2.1 ∈ gw_s ∧ Cond.initialized yX11_toldOfKnight.cls ∈ gw_s ∧ (yX11_toldOfKnight.cls ≠ "java/lang/invoke/MethodHandle" ∧ yX11_toldOfKnight.cls ≠ "java/lang/invoke/VarHandle") ∧ (parseMethodDescriptor yX11_toldOfKnight.desc).map (fun d => d.parameters.length) = some 1 ∧ mX11_toldOfKnight.2.2.1 ≤ 19 := ⟨gw_i4 112 rfl rfl, gw_i1 1 rfl rfl, ⟨by decide +kernel, by decide +kernel⟩, by decide +kernel, by decide⟩
abbrev mX11_toldOfRoad : My := (RX11, cX11_toldOfRoad, 4, some .int, "toldOfRoad")
theorem cw_X11_toldOfRoad : Cond.code yX11_toldOfRoad mX11_toldOfRoad.2.1 mX11_toldOfRoad.2.2.1 mX11_toldOfRoad.2.2.2.1 ∈ gw_s ∧ Cond.initialized yX11_toldOfRoad.cls ∈ gw_s ∧ (yX11_toldOfRoad.cls ≠ "java/lang/invoke/MethodHandle" ∧ yX11_toldOfRoad.cls ≠ "java/lang/invoke/VarHandle") ∧ (parseMethodDescriptor yX11_toldOfRoad.desc).map (fun d => d.parameters.length) = some 1 ∧ mX11_toldOfRoad.2.2.1 ≤ 19 := ⟨gw_i4 116 rfl rfl, gw_i1 1 rfl rfl, ⟨by decide +kernel, by decide +kernel⟩, by decide +kernel, by decide⟩
abbrev mX11_told : My := (RX11, cX11_told, 2, some .int, "told")
theorem cw_X11_told : Cond.code yX11_told mX11_told.2.1 mX11_told.2.2.1 mX11_told.2.2.2.1 ∈ gw_s ∧ Cond.initialized yX11_told.cls ∈ gw_s ∧ (yX11_told.cls ≠ "java/lang/invoke/MethodHandle" ∧ yX11_told.cls ≠ "java/lang/invoke/VarHandle") ∧ (parseMethodDescriptor yX11_told.desc).map (fun d => d.parameters.length) = some 1 ∧ mX11_told.2.2.1 ≤ 19 := ⟨gw_i4 107 rfl rfl, gw_i1 1 rfl rfl, ⟨by decide +kernel, by decide +kernel⟩, by decide +kernel, by decide⟩
abbrev mX12_init : My := (RX12, cX12_init, 1, none, "<init>")
theorem cw_X12_init : Cond.code yX12_init mX12_init.2.1 mX12_init.2.2.1 mX12_init.2.2.2.1 ∈ gw_s ∧ Cond.initialized yX12_init.cls ∈ gw_s ∧ (yX12_init.cls ≠ "java/lang/invoke/MethodHandle" ∧ yX12_init.cls ≠ "java/lang/invoke/VarHandle") ∧ (parseMethodDescriptor yX12_init.desc).map (fun d => d.parameters.length) = some 0 ∧ mX12_init.2.2.1 ≤ 19 := ⟨gw_i4 121 rfl rfl, gw_i1 13 rfl rfl, ⟨by decide +kernel, by decide +kernel⟩, by decide +kernel, by decide⟩
abbrev mX12_in : My := (RX12, cX12_in, 3, some .boolean, "in")
theorem cw_X12_in : Cond.code yX12_in mX12_in.2.1 mX12_in.2.2.1 mX12_in.2.2.2.1 ∈ gw_s ∧ Cond.initialized yX12_in.cls ∈ gw_s ∧ (yX12_in.cls ≠ "java/lang/invoke/MethodHandle" ∧ yX12_in.cls ≠ "java/lang/invoke/VarHandle") ∧ (parseMethodDescriptor yX12_in.desc).map (fun d => d.parameters.length) = some 3 ∧ mX12_in.2.2.1 ≤ 19 := ⟨gw_i4 227 rfl rfl, gw_i1 13 rfl rfl, ⟨by decide +kernel, by decide +kernel⟩, by decide +kernel, by decide⟩
abbrev mX12_has : My := (RX12, cX12_has, 2, some .boolean, "has")
theorem cw_X12_has : Cond.code yX12_has mX12_has.2.1 mX12_has.2.2.1 mX12_has.2.2.2.1 ∈ gw_s ∧ Cond.initialized yX12_has.cls ∈ gw_s ∧ (yX12_has.cls ≠ "java/lang/invoke/MethodHandle" ∧ yX12_has.cls ≠ "java/lang/invoke/VarHandle") ∧ (parseMethodDescriptor yX12_has.desc).map (fun d => d.parameters.length) = some 2 ∧ mX12_has.2.2.1 ≤ 19 := ⟨gw_i5 10 rfl rfl, gw_i1 13 rfl rfl, ⟨by decide +kernel, by decide +kernel⟩, by decide +kernel, by decide⟩
abbrev mX12_bits : My := (RX12, cX12_bits, 3, some .int, "bits")
theorem cw_X12_bits : Cond.code yX12_bits mX12_bits.2.1 mX12_bits.2.2.1 mX12_bits.2.2.2.1 ∈ gw_s ∧ Cond.initialized yX12_bits.cls ∈ gw_s ∧ (yX12_bits.cls ≠ "java/lang/invoke/MethodHandle" ∧ yX12_bits.cls ≠ "java/lang/invoke/VarHandle") ∧ (parseMethodDescriptor yX12_bits.desc).map (fun d => d.parameters.length) = some 1 ∧ mX12_bits.2.2.1 ≤ 19 := ⟨gw_i5 13 rfl rfl, gw_i1 13 rfl rfl, ⟨by decide +kernel, by decide +kernel⟩, by decide +kernel, by decide⟩
abbrev mX12_isChapel : My := (RX12, cX12_isChapel, 2, some .boolean, "isChapel")
theorem cw_X12_isChapel : Cond.code yX12_isChapel mX12_isChapel.2.1 mX12_isChapel.2.2.1 mX12_isChapel.2.2.2.1 ∈ gw_s ∧ Cond.initialized yX12_isChapel.cls ∈ gw_s ∧ (yX12_isChapel.cls ≠ "java/lang/invoke/MethodHandle" ∧ yX12_isChapel.cls ≠ "java/lang/invoke/VarHandle") ∧ (parseMethodDescriptor yX12_isChapel.desc).map (fun d => d.parameters.length) = some 1 ∧ mX12_isChapel.2.2.1 ≤ 19 := ⟨gw_i4 235 rfl rfl, gw_i1 13 rfl rfl, ⟨by decide +kernel, by decide +kernel⟩, by decide +kernel, by decide⟩
abbrev mX12_isThere : My := (RX12, cX12_isThere, 2, some .boolean, "isThere")
theorem cw_X12_isThere : Cond.code yX12_isThere mX12_isThere.2.1 mX12_isThere.2.2.1 mX12_isThere.2.2.2.1 ∈ gw_s ∧ Cond.initialized yX12_isThere.cls ∈ gw_s ∧ (yX12_isThere.cls ≠ "java/lang/invoke/MethodHandle" ∧ yX12_isThere.cls ≠ "java/lang/invoke/VarHandle") ∧ (parseMethodDescriptor yX12_isThere.desc).map (fun d => d.parameters.length) = some 1 ∧ mX12_isThere.2.2.1 ≤ 19 := ⟨gw_i5 7 rfl rfl, gw_i1 13 rfl rfl, ⟨by decide +kernel, by decide +kernel⟩, by decide +kernel, by decide⟩
abbrev mX12_chapels : My := (RX12, cX12_chapels, 4, some .int, "chapels")
theorem cw_X12_chapels : Cond.code yX12_chapels mX12_chapels.2.1 mX12_chapels.2.2.1 mX12_chapels.2.2.2.1 ∈ gw_s ∧ Cond.initialized yX12_chapels.cls ∈ gw_s ∧ (yX12_chapels.cls ≠ "java/lang/invoke/MethodHandle" ∧ yX12_chapels.cls ≠ "java/lang/invoke/VarHandle") ∧ (parseMethodDescriptor yX12_chapels.desc).map (fun d => d.parameters.length) = some 1 ∧ mX12_chapels.2.2.1 ≤ 19 := ⟨gw_i4 224 rfl rfl, gw_i1 13 rfl rfl, ⟨by decide +kernel, by decide +kernel⟩, by decide +kernel, by decide⟩
abbrev mX12_road : My := (RX12, cX12_road, 5, some .int, "road")
theorem cw_X12_road : Cond.code yX12_road mX12_road.2.1 mX12_road.2.2.1 mX12_road.2.2.2.1 ∈ gw_s ∧ Cond.initialized yX12_road.cls ∈ gw_s ∧ (yX12_road.cls ≠ "java/lang/invoke/MethodHandle" ∧ yX12_road.cls ≠ "java/lang/invoke/VarHandle") ∧ (parseMethodDescriptor yX12_road.desc).map (fun d => d.parameters.length) = some 3 ∧ mX12_road.2.2.1 ≤ 19 := ⟨gw_i4 231 rfl rfl, gw_i1 13 rfl rfl, ⟨by decide +kernel, by decide +kernel⟩, by decide +kernel, by decide⟩
abbrev mX12_yearOf : My := (RX12, cX12_yearOf, 3, some .int, "yearOf")
theorem cw_X12_yearOf : Cond.code yX12_yearOf mX12_yearOf.2.1 mX12_yearOf.2.2.1 mX12_yearOf.2.2.2.1 ∈ gw_s ∧ Cond.initialized yX12_yearOf.cls ∈ gw_s ∧ (yX12_yearOf.cls ≠ "java/lang/invoke/MethodHandle" ∧ yX12_yearOf.cls ≠ "java/lang/invoke/VarHandle") ∧ (parseMethodDescriptor yX12_yearOf.desc).map (fun d => d.parameters.length) = some 1 ∧ mX12_yearOf.2.2.1 ≤ 19 := ⟨gw_i4 239 rfl rfl, gw_i1 13 rfl rfl, ⟨by decide +kernel, by decide +kernel⟩, by decide +kernel, by decide⟩
abbrev mX12_knight : My := (RX12, cX12_knight, 6, some .int, "knight")
theorem cw_X12_knight : Cond.code yX12_knight mX12_knight.2.1 mX12_knight.2.2.1 mX12_knight.2.2.2.1 ∈ gw_s ∧ Cond.initialized yX12_knight.cls ∈ gw_s ∧ (yX12_knight.cls ≠ "java/lang/invoke/MethodHandle" ∧ yX12_knight.cls ≠ "java/lang/invoke/VarHandle") ∧ (parseMethodDescriptor yX12_knight.desc).map (fun d => d.parameters.length) = some 5 ∧ mX12_knight.2.2.1 ≤ 19 := ⟨gw_i5 3 rfl rfl, gw_i1 13 rfl rfl, ⟨by decide +kernel, by decide +kernel⟩, by decide +kernel, by decide⟩
abbrev mX12_heir : My := (RX12, cX12_heir, 9, some .int, "heir")
theorem cw_X12_heir : Cond.code yX12_heir mX12_heir.2.1 mX12_heir.2.2.1 mX12_heir.2.2.2.1 ∈ gw_s ∧ Cond.initialized yX12_heir.cls ∈ gw_s ∧ (yX12_heir.cls ≠ "java/lang/invoke/MethodHandle" ∧ yX12_heir.cls ≠ "java/lang/invoke/VarHandle") ∧ (parseMethodDescriptor yX12_heir.desc).map (fun d => d.parameters.length) = some 2 ∧ mX12_heir.2.2.1 ≤ 19 := ⟨gw_i5 17 rfl rfl, gw_i1 13 rfl rfl, ⟨by decide +kernel, by decide +kernel⟩, by decide +kernel, by decide⟩
abbrev mX12_say : My := (RX12, cX12_say, 2, some .int, "say")
theorem cw_X12_say : Cond.code yX12_say mX12_say.2.1 mX12_say.2.2.1 mX12_say.2.2.2.1 ∈ gw_s ∧ Cond.initialized yX12_say.cls ∈ gw_s ∧ (yX12_say.cls ≠ "java/lang/invoke/MethodHandle" ∧ yX12_say.cls ≠ "java/lang/invoke/VarHandle") ∧ (parseMethodDescriptor yX12_say.desc).map (fun d => d.parameters.length) = some 1 ∧ mX12_say.2.2.1 ≤ 19 := ⟨gw_i5 21 rfl rfl, gw_i1 13 rfl rfl, ⟨by decide +kernel, by decide +kernel⟩, by decide +kernel, by decide⟩
abbrev mX12_wipe : My := (RX12, cX12_wipe, 2, some .int, "wipe")
theorem cw_X12_wipe : Cond.code yX12_wipe mX12_wipe.2.1 mX12_wipe.2.2.1 mX12_wipe.2.2.2.1 ∈ gw_s ∧ Cond.initialized yX12_wipe.cls ∈ gw_s ∧ (yX12_wipe.cls ≠ "java/lang/invoke/MethodHandle" ∧ yX12_wipe.cls ≠ "java/lang/invoke/VarHandle") ∧ (parseMethodDescriptor yX12_wipe.desc).map (fun d => d.parameters.length) = some 0 ∧ mX12_wipe.2.2.1 ≤ 19 := ⟨gw_i5 25 rfl rfl, gw_i1 13 rfl rfl, ⟨by decide +kernel, by decide +kernel⟩, by decide +kernel, by decide⟩
abbrev mX12_daysOf : My := (RX12, cX12_daysOf, 1, some .int, "daysOf")
theorem cw_X12_daysOf : Cond.code yX12_daysOf mX12_daysOf.2.1 mX12_daysOf.2.2.1 mX12_daysOf.2.2.2.1 ∈ gw_s ∧ Cond.initialized yX12_daysOf.cls ∈ gw_s ∧ (yX12_daysOf.cls ≠ "java/lang/invoke/MethodHandle" ∧ yX12_daysOf.cls ≠ "java/lang/invoke/VarHandle") ∧ (parseMethodDescriptor yX12_daysOf.desc).map (fun d => d.parameters.length) = some 1 ∧ mX12_daysOf.2.2.1 ≤ 19 := ⟨gw_i5 36 rfl rfl, gw_i1 13 rfl rfl, ⟨by decide +kernel, by decide +kernel⟩, by decide +kernel, by decide⟩
abbrev mX12_faultOf : My := (RX12, cX12_faultOf, 7, some .int, "faultOf")
theorem cw_X12_faultOf : Cond.code yX12_faultOf mX12_faultOf.2.1 mX12_faultOf.2.2.1 mX12_faultOf.2.2.2.1 ∈ gw_s ∧ Cond.initialized yX12_faultOf.cls ∈ gw_s ∧ (yX12_faultOf.cls ≠ "java/lang/invoke/MethodHandle" ∧ yX12_faultOf.cls ≠ "java/lang/invoke/VarHandle") ∧ (parseMethodDescriptor yX12_faultOf.desc).map (fun d => d.parameters.length) = some 0 ∧ mX12_faultOf.2.2.1 ≤ 19 := ⟨gw_i5 33 rfl rfl, gw_i1 13 rfl rfl, ⟨by decide +kernel, by decide +kernel⟩, by decide +kernel, by decide⟩
abbrev mX12_fault : My := (RX12, cX12_fault, 1, some .int, "fault")
theorem cw_X12_fault : Cond.code yX12_fault mX12_fault.2.1 mX12_fault.2.2.1 mX12_fault.2.2.2.1 ∈ gw_s ∧ Cond.initialized yX12_fault.cls ∈ gw_s ∧ (yX12_fault.cls ≠ "java/lang/invoke/MethodHandle" ∧ yX12_fault.cls ≠ "java/lang/invoke/VarHandle") ∧ (parseMethodDescriptor yX12_fault.desc).map (fun d => d.parameters.length) = some 0 ∧ mX12_fault.2.2.1 ≤ 19 := ⟨gw_i5 29 rfl rfl, gw_i1 13 rfl rfl, ⟨by decide +kernel, by decide +kernel⟩, by decide +kernel, by decide⟩
abbrev mX12_asNow : My := (RX12, cX12_asNow, 2, none, "asNow")
theorem cw_X12_asNow : Cond.code yX12_asNow mX12_asNow.2.1 mX12_asNow.2.2.1 mX12_asNow.2.2.2.1 ∈ gw_s ∧ Cond.initialized yX12_asNow.cls ∈ gw_s ∧ (yX12_asNow.cls ≠ "java/lang/invoke/MethodHandle" ∧ yX12_asNow.cls ≠ "java/lang/invoke/VarHandle") ∧ (parseMethodDescriptor yX12_asNow.desc).map (fun d => d.parameters.length) = some 0 ∧ mX12_asNow.2.2.1 ≤ 19 := ⟨gw_i5 48 rfl rfl, gw_i1 13 rfl rfl, ⟨by decide +kernel, by decide +kernel⟩, by decide +kernel, by decide⟩
abbrev mX12_keep : My := (RX12, cX12_keep, 2, none, "keep")
theorem cw_X12_keep : Cond.code yX12_keep mX12_keep.2.1 mX12_keep.2.2.1 mX12_keep.2.2.2.1 ∈ gw_s ∧ Cond.initialized yX12_keep.cls ∈ gw_s ∧ (yX12_keep.cls ≠ "java/lang/invoke/MethodHandle" ∧ yX12_keep.cls ≠ "java/lang/invoke/VarHandle") ∧ (parseMethodDescriptor yX12_keep.desc).map (fun d => d.parameters.length) = some 0 ∧ mX12_keep.2.2.1 ≤ 19 := ⟨gw_i5 104 rfl rfl, gw_i1 13 rfl rfl, ⟨by decide +kernel, by decide +kernel⟩, by decide +kernel, by decide⟩
abbrev mX12_forgive : My := (RX12, cX12_forgive, 3, none, "forgive")
theorem cw_X12_forgive : Cond.code yX12_forgive mX12_forgive.2.1 mX12_forgive.2.2.1 mX12_forgive.2.2.2.1 ∈ gw_s ∧ Cond.initialized yX12_forgive.cls ∈ gw_s ∧ (yX12_forgive.cls ≠ "java/lang/invoke/MethodHandle" ∧ yX12_forgive.cls ≠ "java/lang/invoke/VarHandle") ∧ (parseMethodDescriptor yX12_forgive.desc).map (fun d => d.parameters.length) = some 1 ∧ mX12_forgive.2.2.1 ≤ 19 := ⟨gw_i5 56 rfl rfl, gw_i1 13 rfl rfl, ⟨by decide +kernel, by decide +kernel⟩, by decide +kernel, by decide⟩
abbrev mX12_strike : My := (RX12, cX12_strike, 4, none, "strike")
theorem cw_X12_strike : Cond.code yX12_strike mX12_strike.2.1 mX12_strike.2.2.1 mX12_strike.2.2.2.1 ∈ gw_s ∧ Cond.initialized yX12_strike.cls ∈ gw_s ∧ (yX12_strike.cls ≠ "java/lang/invoke/MethodHandle" ∧ yX12_strike.cls ≠ "java/lang/invoke/VarHandle") ∧ (parseMethodDescriptor yX12_strike.desc).map (fun d => d.parameters.length) = some 2 ∧ mX12_strike.2.2.1 ≤ 19 := ⟨gw_i5 72 rfl rfl, gw_i1 13 rfl rfl, ⟨by decide +kernel, by decide +kernel⟩, by decide +kernel, by decide⟩
abbrev mX12_isAlive : My := (RX12, cX12_isAlive, 2, some .boolean, "isAlive")
theorem cw_X12_isAlive : Cond.code yX12_isAlive mX12_isAlive.2.1 mX12_isAlive.2.2.1 mX12_isAlive.2.2.2.1 ∈ gw_s ∧ Cond.initialized yX12_isAlive.cls ∈ gw_s ∧ (yX12_isAlive.cls ≠ "java/lang/invoke/MethodHandle" ∧ yX12_isAlive.cls ≠ "java/lang/invoke/VarHandle") ∧ (parseMethodDescriptor yX12_isAlive.desc).map (fun d => d.parameters.length) = some 1 ∧ mX12_isAlive.2.2.1 ≤ 19 := ⟨gw_i5 64 rfl rfl, gw_i1 13 rfl rfl, ⟨by decide +kernel, by decide +kernel⟩, by decide +kernel, by decide⟩
abbrev mX12_whyNotStrike : My := (RX12, cX12_whyNotStrike, 4, some .int, "whyNotStrike")
theorem cw_X12_whyNotStrike : Cond.code yX12_whyNotStrike mX12_whyNotStrike.2.1 mX12_whyNotStrike.2.2.1 mX12_whyNotStrike.2.2.2.1 ∈ gw_s ∧ Cond.initialized yX12_whyNotStrike.cls ∈ gw_s ∧ (yX12_whyNotStrike.cls ≠ "java/lang/invoke/MethodHandle" ∧ yX12_whyNotStrike.cls ≠ "java/lang/invoke/VarHandle") ∧ (parseMethodDescriptor yX12_whyNotStrike.desc).map (fun d => d.parameters.length) = some 3 ∧ mX12_whyNotStrike.2.2.1 ≤ 19 := ⟨gw_i5 60 rfl rfl, gw_i1 13 rfl rfl, ⟨by decide +kernel, by decide +kernel⟩, by decide +kernel, by decide⟩
abbrev mX12_hit : My := (RX12, cX12_hit, 4, none, "hit")
theorem cw_X12_hit : Cond.code yX12_hit mX12_hit.2.1 mX12_hit.2.2.1 mX12_hit.2.2.2.1 ∈ gw_s ∧ Cond.initialized yX12_hit.cls ∈ gw_s ∧ (yX12_hit.cls ≠ "java/lang/invoke/MethodHandle" ∧ yX12_hit.cls ≠ "java/lang/invoke/VarHandle") ∧ (parseMethodDescriptor yX12_hit.desc).map (fun d => d.parameters.length) = some 3 ∧ mX12_hit.2.2.1 ≤ 19 := ⟨gw_i5 68 rfl rfl, gw_i1 13 rfl rfl, ⟨by decide +kernel, by decide +kernel⟩, by decide +kernel, by decide⟩
abbrev mX12_isOwed : My := (RX12, cX12_isOwed, 5, some .boolean, "isOwed")
theorem cw_X12_isOwed : Cond.code yX12_isOwed mX12_isOwed.2.1 mX12_isOwed.2.2.1 mX12_isOwed.2.2.2.1 ∈ gw_s ∧ Cond.initialized yX12_isOwed.cls ∈ gw_s ∧ (yX12_isOwed.cls ≠ "java/lang/invoke/MethodHandle" ∧ yX12_isOwed.cls ≠ "java/lang/invoke/VarHandle") ∧ (parseMethodDescriptor yX12_isOwed.desc).map (fun d => d.parameters.length) = some 2 ∧ mX12_isOwed.2.2.1 ≤ 19 := ⟨gw_i5 80 rfl rfl, gw_i1 13 rfl rfl, ⟨by decide +kernel, by decide +kernel⟩, by decide +kernel, by decide⟩
abbrev mX12_owesHere : My := (RX12, cX12_owesHere, 3, some .boolean, "owesHere")
theorem cw_X12_owesHere : Cond.code yX12_owesHere mX12_owesHere.2.1 mX12_owesHere.2.2.1 mX12_owesHere.2.2.2.1 ∈ gw_s ∧ Cond.initialized yX12_owesHere.cls ∈ gw_s ∧ (yX12_owesHere.cls ≠ "java/lang/invoke/MethodHandle" ∧ yX12_owesHere.cls ≠ "java/lang/invoke/VarHandle") ∧ (parseMethodDescriptor yX12_owesHere.desc).map (fun d => d.parameters.length) = some 2 ∧ mX12_owesHere.2.2.1 ≤ 19 := ⟨gw_i5 84 rfl rfl, gw_i1 13 rfl rfl, ⟨by decide +kernel, by decide +kernel⟩, by decide +kernel, by decide⟩
abbrev mX12_whyNot : My := (RX12, cX12_whyNot, 5, some .int, "whyNot")
theorem cw_X12_whyNot : Cond.code yX12_whyNot mX12_whyNot.2.1 mX12_whyNot.2.2.1 mX12_whyNot.2.2.2.1 ∈ gw_s ∧ Cond.initialized yX12_whyNot.cls ∈ gw_s ∧ (yX12_whyNot.cls ≠ "java/lang/invoke/MethodHandle" ∧ yX12_whyNot.cls ≠ "java/lang/invoke/VarHandle") ∧ (parseMethodDescriptor yX12_whyNot.desc).map (fun d => d.parameters.length) = some 2 ∧ mX12_whyNot.2.2.1 ≤ 19 := ⟨gw_i5 76 rfl rfl, gw_i1 13 rfl rfl, ⟨by decide +kernel, by decide +kernel⟩, by decide +kernel, by decide⟩
abbrev mX12_giveBack : My := (RX12, cX12_giveBack, 6, none, "giveBack")
theorem cw_X12_giveBack : Cond.code yX12_giveBack mX12_giveBack.2.1 mX12_giveBack.2.2.1 mX12_giveBack.2.2.2.1 ∈ gw_s ∧ Cond.initialized yX12_giveBack.cls ∈ gw_s ∧ (yX12_giveBack.cls ≠ "java/lang/invoke/MethodHandle" ∧ yX12_giveBack.cls ≠ "java/lang/invoke/VarHandle") ∧ (parseMethodDescriptor yX12_giveBack.desc).map (fun d => d.parameters.length) = some 1 ∧ mX12_giveBack.2.2.1 ≤ 19 := ⟨gw_i5 92 rfl rfl, gw_i1 13 rfl rfl, ⟨by decide +kernel, by decide +kernel⟩, by decide +kernel, by decide⟩
abbrev mX12_act : My := (RX12, cX12_act, 4, none, "act")
theorem cw_X12_act : Cond.code yX12_act mX12_act.2.1 mX12_act.2.2.1 mX12_act.2.2.2.1 ∈ gw_s ∧ Cond.initialized yX12_act.cls ∈ gw_s ∧ (yX12_act.cls ≠ "java/lang/invoke/MethodHandle" ∧ yX12_act.cls ≠ "java/lang/invoke/VarHandle") ∧ (parseMethodDescriptor yX12_act.desc).map (fun d => d.parameters.length) = some 2 ∧ mX12_act.2.2.1 ≤ 19 := ⟨gw_i5 88 rfl rfl, gw_i1 13 rfl rfl, ⟨by decide +kernel, by decide +kernel⟩, by decide +kernel, by decide⟩
abbrev mX12_pass : My := (RX12, cX12_pass, 4, none, "pass")
theorem cw_X12_pass : Cond.code yX12_pass mX12_pass.2.1 mX12_pass.2.2.1 mX12_pass.2.2.2.1 ∈ gw_s ∧ Cond.initialized yX12_pass.cls ∈ gw_s ∧ (yX12_pass.cls ≠ "java/lang/invoke/MethodHandle" ∧ yX12_pass.cls ≠ "java/lang/invoke/VarHandle") ∧ (parseMethodDescriptor yX12_pass.desc).map (fun d => d.parameters.length) = some 1 ∧ mX12_pass.2.2.1 ≤ 19 := ⟨gw_i5 52 rfl rfl, gw_i1 13 rfl rfl, ⟨by decide +kernel, by decide +kernel⟩, by decide +kernel, by decide⟩
abbrev mX12_goCourt : My := (RX12, cX12_goCourt, 4, some .int, "goCourt")
theorem cw_X12_goCourt : Cond.code yX12_goCourt mX12_goCourt.2.1 mX12_goCourt.2.2.1 mX12_goCourt.2.2.2.1 ∈ gw_s ∧ Cond.initialized yX12_goCourt.cls ∈ gw_s ∧ (yX12_goCourt.cls ≠ "java/lang/invoke/MethodHandle" ∧ yX12_goCourt.cls ≠ "java/lang/invoke/VarHandle") ∧ (parseMethodDescriptor yX12_goCourt.desc).map (fun d => d.parameters.length) = some 0 ∧ mX12_goCourt.2.2.1 ≤ 19 := ⟨gw_i5 44 rfl rfl, gw_i1 13 rfl rfl, ⟨by decide +kernel, by decide +kernel⟩, by decide +kernel, by decide⟩
abbrev mX12_judge : My := (RX12, cX12_judge, 3, some .int, "judge")
theorem cw_X12_judge : Cond.code yX12_judge mX12_judge.2.1 mX12_judge.2.2.1 mX12_judge.2.2.2.1 ∈ gw_s ∧ Cond.initialized yX12_judge.cls ∈ gw_s ∧ (yX12_judge.cls ≠ "java/lang/invoke/MethodHandle" ∧ yX12_judge.cls ≠ "java/lang/invoke/VarHandle") ∧ (parseMethodDescriptor yX12_judge.desc).map (fun d => d.parameters.length) = some 1 ∧ mX12_judge.2.2.1 ≤ 19 := ⟨gw_i5 40 rfl rfl, gw_i1 13 rfl rfl, ⟨by decide +kernel, by decide +kernel⟩, by decide +kernel, by decide⟩
abbrev mX12_barOfCourt : My := (RX12, cX12_barOfCourt, 1, some .int, "barOfCourt")
theorem cw_X12_barOfCourt : Cond.code yX12_barOfCourt mX12_barOfCourt.2.1 mX12_barOfCourt.2.2.1 mX12_barOfCourt.2.2.2.1 ∈ gw_s ∧ Cond.initialized yX12_barOfCourt.cls ∈ gw_s ∧ (yX12_barOfCourt.cls ≠ "java/lang/invoke/MethodHandle" ∧ yX12_barOfCourt.cls ≠ "java/lang/invoke/VarHandle") ∧ (parseMethodDescriptor yX12_barOfCourt.desc).map (fun d => d.parameters.length) = some 0 ∧ mX12_barOfCourt.2.2.1 ≤ 19 := ⟨gw_i5 100 rfl rfl, gw_i1 13 rfl rfl, ⟨by decide +kernel, by decide +kernel⟩, by decide +kernel, by decide⟩
abbrev mX12_done : My := (RX12, cX12_done, 1, some .int, "done")
theorem cw_X12_done : Cond.code yX12_done mX12_done.2.1 mX12_done.2.2.1 mX12_done.2.2.2.1 ∈ gw_s ∧ Cond.initialized yX12_done.cls ∈ gw_s ∧ (yX12_done.cls ≠ "java/lang/invoke/MethodHandle" ∧ yX12_done.cls ≠ "java/lang/invoke/VarHandle") ∧ (parseMethodDescriptor yX12_done.desc).map (fun d => d.parameters.length) = some 0 ∧ mX12_done.2.2.1 ≤ 19 := ⟨gw_i5 96 rfl rfl, gw_i1 13 rfl rfl, ⟨by decide +kernel, by decide +kernel⟩, by decide +kernel, by decide⟩
abbrev mX12_stateNow : My := (RX12, cX12_stateNow, 3, some .int, "stateNow")
theorem cw_X12_stateNow : Cond.code yX12_stateNow mX12_stateNow.2.1 mX12_stateNow.2.2.1 mX12_stateNow.2.2.2.1 ∈ gw_s ∧ Cond.initialized yX12_stateNow.cls ∈ gw_s ∧ (yX12_stateNow.cls ≠ "java/lang/invoke/MethodHandle" ∧ yX12_stateNow.cls ≠ "java/lang/invoke/VarHandle") ∧ (parseMethodDescriptor yX12_stateNow.desc).map (fun d => d.parameters.length) = some 2 ∧ mX12_stateNow.2.2.1 ≤ 19 := ⟨gw_i5 112 rfl rfl, gw_i1 13 rfl rfl, ⟨by decide +kernel, by decide +kernel⟩, by decide +kernel, by decide⟩
abbrev mX12_state : My := (RX12, cX12_state, 3, some .int, "state")
theorem cw_X12_state : Cond.code yX12_state mX12_state.2.1 mX12_state.2.2.1 mX12_state.2.2.2.1 ∈ gw_s ∧ Cond.initialized yX12_state.cls ∈ gw_s ∧ (yX12_state.cls ≠ "java/lang/invoke/MethodHandle" ∧ yX12_state.cls ≠ "java/lang/invoke/VarHandle") ∧ (parseMethodDescriptor yX12_state.desc).map (fun d => d.parameters.length) = some 2 ∧ mX12_state.2.2.1 ≤ 19 := ⟨gw_i5 108 rfl rfl, gw_i1 13 rfl rfl, ⟨by decide +kernel, by decide +kernel⟩, by decide +kernel, by decide⟩
abbrev mX12_behind : My := (RX12, cX12_behind, 3, some .int, "behind")
theorem cw_X12_behind : Cond.code yX12_behind mX12_behind.2.1 mX12_behind.2.2.1 mX12_behind.2.2.2.1 ∈ gw_s ∧ Cond.initialized yX12_behind.cls ∈ gw_s ∧ (yX12_behind.cls ≠ "java/lang/invoke/MethodHandle" ∧ yX12_behind.cls ≠ "java/lang/invoke/VarHandle") ∧ (parseMethodDescriptor yX12_behind.desc).map (fun d => d.parameters.length) = some 2 ∧ mX12_behind.2.2.1 ≤ 19 := ⟨gw_i5 116 rfl rfl, gw_i1 13 rfl rfl, ⟨by decide +kernel, by decide +kernel⟩, by decide +kernel, by decide⟩
abbrev mX12_debt : My := (RX12, cX12_debt, 3, some .int, "debt")
theorem cw_X12_debt : Cond.code yX12_debt mX12_debt.2.1 mX12_debt.2.2.1 mX12_debt.2.2.2.1 ∈ gw_s ∧ Cond.initialized yX12_debt.cls ∈ gw_s ∧ (yX12_debt.cls ≠ "java/lang/invoke/MethodHandle" ∧ yX12_debt.cls ≠ "java/lang/invoke/VarHandle") ∧ (parseMethodDescriptor yX12_debt.desc).map (fun d => d.parameters.length) = some 2 ∧ mX12_debt.2.2.1 ≤ 19 := ⟨gw_i5 120 rfl rfl, gw_i1 13 rfl rfl, ⟨by decide +kernel, by decide +kernel⟩, by decide +kernel, by decide⟩
abbrev mX12_arrival : My := (RX12, cX12_arrival, 6, some .int, "arrival")
theorem cw_X12_arrival : Cond.code yX12_arrival mX12_arrival.2.1 mX12_arrival.2.2.1 mX12_arrival.2.2.2.1 ∈ gw_s ∧ Cond.initialized yX12_arrival.cls ∈ gw_s ∧ (yX12_arrival.cls ≠ "java/lang/invoke/MethodHandle" ∧ yX12_arrival.cls ≠ "java/lang/invoke/VarHandle") ∧ (parseMethodDescriptor yX12_arrival.desc).map (fun d => d.parameters.length) = some 2 ∧ mX12_arrival.2.2.1 ≤ 19 := ⟨gw_i5 137 rfl rfl, gw_i1 13 rfl rfl, ⟨by decide +kernel, by decide +kernel⟩, by decide +kernel, by decide⟩
abbrev mX12_layJourneys : My := (RX12, cX12_layJourneys, 7, none, "layJourneys")
theorem cw_X12_layJourneys : Cond.code yX12_layJourneys mX12_layJourneys.2.1 mX12_layJourneys.2.2.1 mX12_layJourneys.2.2.2.1 ∈ gw_s ∧ Cond.initialized yX12_layJourneys.cls ∈ gw_s ∧ (yX12_layJourneys.cls ≠ "java/lang/invoke/MethodHandle" ∧ yX12_layJourneys.cls ≠ "java/lang/invoke/VarHandle") ∧ (parseMethodDescriptor yX12_layJourneys.desc).map (fun d => d.parameters.length) = some 2 ∧ mX12_layJourneys.2.2.1 ≤ 19 := ⟨gw_i5 132 rfl rfl, gw_i1 13 rfl rfl, ⟨by decide +kernel, by decide +kernel⟩, by decide +kernel, by decide⟩
abbrev mX12_isWell : My := (RX12, cX12_isWell, 2, some .boolean, "isWell")
theorem cw_X12_isWell : Cond.code yX12_isWell mX12_isWell.2.1 mX12_isWell.2.2.1 mX12_isWell.2.2.2.1 ∈ gw_s ∧ Cond.initialized yX12_isWell.cls ∈ gw_s ∧ (yX12_isWell.cls ≠ "java/lang/invoke/MethodHandle" ∧ yX12_isWell.cls ≠ "java/lang/invoke/VarHandle") ∧ (parseMethodDescriptor yX12_isWell.desc).map (fun d => d.parameters.length) = some 1 ∧ mX12_isWell.2.2.1 ≤ 19 := ⟨gw_i5 128 rfl rfl, gw_i1 13 rfl rfl, ⟨by decide +kernel, by decide +kernel⟩, by decide +kernel, by decide⟩
abbrev mX12_when : My := (RX12, cX12_when, 3, some .int, "when")
theorem cw_X12_when : Cond.code yX12_when mX12_when.2.1 mX12_when.2.2.1 mX12_when.2.2.2.1 ∈ gw_s ∧ Cond.initialized yX12_when.cls ∈ gw_s ∧ (yX12_when.cls ≠ "java/lang/invoke/MethodHandle" ∧ yX12_when.cls ≠ "java/lang/invoke/VarHandle") ∧ (parseMethodDescriptor yX12_when.desc).map (fun d => d.parameters.length) = some 2 ∧ mX12_when.2.2.1 ≤ 19 := ⟨gw_i5 124 rfl rfl, gw_i1 13 rfl rfl, ⟨by decide +kernel, by decide +kernel⟩, by decide +kernel, by decide⟩
abbrev mX12_inTime : My := (RX12, cX12_inTime, 5, some .int, "inTime")
theorem cw_X12_inTime : Cond.code yX12_inTime mX12_inTime.2.1 mX12_inTime.2.2.1 mX12_inTime.2.2.2.1 ∈ gw_s ∧ Cond.initialized yX12_inTime.cls ∈ gw_s ∧ (yX12_inTime.cls ≠ "java/lang/invoke/MethodHandle" ∧ yX12_inTime.cls ≠ "java/lang/invoke/VarHandle") ∧ (parseMethodDescriptor yX12_inTime.desc).map (fun d => d.parameters.length) = some 1 ∧ mX12_inTime.2.2.1 ≤ 19 := ⟨gw_i5 141 rfl rfl, gw_i1 13 rfl rfl, ⟨by decide +kernel, by decide +kernel⟩, by decide +kernel, by decide⟩
abbrev mX12_canMeet : My := (RX12, cX12_canMeet, 8, some .boolean, "canMeet")
theorem cw_X12_canMeet : Cond.code yX12_canMeet mX12_canMeet.2.1 mX12_canMeet.2.2.1 mX12_canMeet.2.2.2.1 ∈ gw_s ∧ Cond.initialized yX12_canMeet.cls ∈ gw_s ∧ (yX12_canMeet.cls ≠ "java/lang/invoke/MethodHandle" ∧ yX12_canMeet.cls ≠ "java/lang/invoke/VarHandle") ∧ (parseMethodDescriptor yX12_canMeet.desc).map (fun d => d.parameters.length) = some 2 ∧ mX12_canMeet.2.2.1 ≤ 19 := ⟨gw_i5 149 rfl rfl, gw_i1 13 rfl rfl, ⟨by decide +kernel, by decide +kernel⟩, by decide +kernel, by decide⟩
abbrev mX12_round : My := (RX12, cX12_round, 7, some .int, "round")
theorem cw_X12_round : Cond.code yX12_round mX12_round.2.1 mX12_round.2.2.1 mX12_round.2.2.2.1 ∈ gw_s ∧ Cond.initialized yX12_round.cls ∈ gw_s ∧ (yX12_round.cls ≠ "java/lang/invoke/MethodHandle" ∧ yX12_round.cls ≠ "java/lang/invoke/VarHandle") ∧ (parseMethodDescriptor yX12_round.desc).map (fun d => d.parameters.length) = some 2 ∧ mX12_round.2.2.1 ≤ 19 := ⟨gw_i5 145 rfl rfl, gw_i1 13 rfl rfl, ⟨by decide +kernel, by decide +kernel⟩, by decide +kernel, by decide⟩
abbrev mX12_hard : My := (RX12, cX12_hard, 12, some .int, "hard")
theorem cw_X12_hard : Cond.code yX12_hard mX12_hard.2.1 mX12_hard.2.2.1 mX12_hard.2.2.2.1 ∈ gw_s ∧ Cond.initialized yX12_hard.cls ∈ gw_s ∧ (yX12_hard.cls ≠ "java/lang/invoke/MethodHandle" ∧ yX12_hard.cls ≠ "java/lang/invoke/VarHandle") ∧ (parseMethodDescriptor yX12_hard.desc).map (fun d => d.parameters.length) = some 5 ∧ mX12_hard.2.2.1 ≤ 19 := ⟨gw_i5 153 rfl rfl, gw_i1 13 rfl rfl, ⟨by decide +kernel, by decide +kernel⟩, by decide +kernel, by decide⟩
abbrev mX12_layBalance : My := (RX12, cX12_layBalance, 2, none, "layBalance")
theorem cw_X12_layBalance : Cond.code yX12_layBalance mX12_layBalance.2.1 mX12_layBalance.2.2.1 mX12_layBalance.2.2.2.1 ∈ gw_s ∧ Cond.initialized yX12_layBalance.cls ∈ gw_s ∧ (yX12_layBalance.cls ≠ "java/lang/invoke/MethodHandle" ∧ yX12_layBalance.cls ≠ "java/lang/invoke/VarHandle") ∧ (parseMethodDescriptor yX12_layBalance.desc).map (fun d => d.parameters.length) = some 0 ∧ mX12_layBalance.2.2.1 ≤ 19 := ⟨gw_i5 162 rfl rfl, gw_i1 13 rfl rfl, ⟨by decide +kernel, by decide +kernel⟩, by decide +kernel, by decide⟩
abbrev mX12_sumOf : My := (RX12, cX12_sumOf, 4, some .int, "sumOf")
theorem cw_X12_sumOf : Cond.code yX12_sumOf mX12_sumOf.2.1 mX12_sumOf.2.2.1 mX12_sumOf.2.2.2.1 ∈ gw_s ∧ Cond.initialized yX12_sumOf.cls ∈ gw_s ∧ (yX12_sumOf.cls ≠ "java/lang/invoke/MethodHandle" ∧ yX12_sumOf.cls ≠ "java/lang/invoke/VarHandle") ∧ (parseMethodDescriptor yX12_sumOf.desc).map (fun d => d.parameters.length) = some 1 ∧ mX12_sumOf.2.2.1 ≤ 19 := ⟨gw_i5 166 rfl rfl, gw_i1 13 rfl rfl, ⟨by decide +kernel, by decide +kernel⟩, by decide +kernel, by decide⟩
abbrev mX12_settled : My := (RX12, cX12_settled, 6, some .int, "settled")
theorem cw_X12_settled : Cond.code yX12_settled mX12_settled.2.1 mX12_settled.2.2.1 mX12_settled.2.2.2.1 ∈ gw_s ∧ Cond.initialized yX12_settled.cls ∈ gw_s ∧ (yX12_settled.cls ≠ "java/lang/invoke/MethodHandle" ∧ yX12_settled.cls ≠ "java/lang/invoke/VarHandle") ∧ (parseMethodDescriptor yX12_settled.desc).map (fun d => d.parameters.length) = some 0 ∧ mX12_settled.2.2.1 ≤ 19 := ⟨gw_i5 158 rfl rfl, gw_i1 13 rfl rfl, ⟨by decide +kernel, by decide +kernel⟩, by decide +kernel, by decide⟩
abbrev mX12_owes : My := (RX12, cX12_owes, 5, some .boolean, "owes")
theorem cw_X12_owes : Cond.code yX12_owes mX12_owes.2.1 mX12_owes.2.2.1 mX12_owes.2.2.2.1 ∈ gw_s ∧ Cond.initialized yX12_owes.cls ∈ gw_s ∧ (yX12_owes.cls ≠ "java/lang/invoke/MethodHandle" ∧ yX12_owes.cls ≠ "java/lang/invoke/VarHandle") ∧ (parseMethodDescriptor yX12_owes.desc).map (fun d => d.parameters.length) = some 2 ∧ mX12_owes.2.2.1 ≤ 19 := ⟨gw_i5 174 rfl rfl, gw_i1 13 rfl rfl, ⟨by decide +kernel, by decide +kernel⟩, by decide +kernel, by decide⟩
abbrev mX12_ring : My := (RX12, cX12_ring, 8, some .int, "ring")
theorem cw_X12_ring : Cond.code yX12_ring mX12_ring.2.1 mX12_ring.2.2.1 mX12_ring.2.2.2.1 ∈ gw_s ∧ Cond.initialized yX12_ring.cls ∈ gw_s ∧ (yX12_ring.cls ≠ "java/lang/invoke/MethodHandle" ∧ yX12_ring.cls ≠ "java/lang/invoke/VarHandle") ∧ (parseMethodDescriptor yX12_ring.desc).map (fun d => d.parameters.length) = some 0 ∧ mX12_ring.2.2.1 ≤ 19 := ⟨gw_i5 170 rfl rfl, gw_i1 13 rfl rfl, ⟨by decide +kernel, by decide +kernel⟩, by decide +kernel, by decide⟩
abbrev mX12_reckoned : My := (RX12, cX12_reckoned, 6, some .int, "reckoned")
theorem cw_X12_reckoned : Cond.code yX12_reckoned mX12_reckoned.2.1 mX12_reckoned.2.2.1 mX12_reckoned.2.2.2.1 ∈ gw_s ∧ Cond.initialized yX12_reckoned.cls ∈ gw_s ∧ (yX12_reckoned.cls ≠ "java/lang/invoke/MethodHandle" ∧ yX12_reckoned.cls ≠ "java/lang/invoke/VarHandle") ∧ (parseMethodDescriptor yX12_reckoned.desc).map (fun d => d.parameters.length) = some 3 ∧ mX12_reckoned.2.2.1 ≤ 19 := ⟨gw_i5 178 rfl rfl, gw_i1 13 rfl rfl, ⟨by decide +kernel, by decide +kernel⟩, by decide +kernel, by decide⟩
abbrev mX12_tens : My := (RX12, cX12_tens, 4, some .long, "tens")
theorem cw_X12_tens : Cond.code yX12_tens mX12_tens.2.1 mX12_tens.2.2.1 mX12_tens.2.2.2.1 ∈ gw_s ∧ Cond.initialized yX12_tens.cls ∈ gw_s ∧ (yX12_tens.cls ≠ "java/lang/invoke/MethodHandle" ∧ yX12_tens.cls ≠ "java/lang/invoke/VarHandle") ∧ (parseMethodDescriptor yX12_tens.desc).map (fun d => d.parameters.length) = some 1 ∧ mX12_tens.2.2.1 ≤ 19 := ⟨gw_i5 191 rfl rfl, gw_i1 13 rfl rfl, ⟨by decide +kernel, by decide +kernel⟩, by decide +kernel, by decide⟩
abbrev mX12_hosted : My := (RX12, cX12_hosted, 15, some .long, "hosted")
theorem cw_X12_hosted : Cond.code yX12_hosted mX12_hosted.2.1 mX12_hosted.2.2.1 mX12_hosted.2.2.2.1 ∈ gw_s ∧ Cond.initialized yX12_hosted.cls ∈ gw_s ∧ (yX12_hosted.cls ≠ "java/lang/invoke/MethodHandle" ∧ yX12_hosted.cls ≠ "java/lang/invoke/VarHandle") ∧ (parseMethodDescriptor yX12_hosted.desc).map (fun d => d.parameters.length) = some 3 ∧ mX12_hosted.2.2.1 ≤ 19 := ⟨gw_i5 188 rfl rfl, gw_i1 13 rfl rfl, ⟨by decide +kernel, by decide +kernel⟩, by decide +kernel, by decide⟩
abbrev mX12_kept : My := (RX12, cX12_kept, 15, some .long, "kept")
theorem cw_X12_kept : Cond.code yX12_kept mX12_kept.2.1 mX12_kept.2.2.1 mX12_kept.2.2.2.1 ∈ gw_s ∧ Cond.initialized yX12_kept.cls ∈ gw_s ∧ (yX12_kept.cls ≠ "java/lang/invoke/MethodHandle" ∧ yX12_kept.cls ≠ "java/lang/invoke/VarHandle") ∧ (parseMethodDescriptor yX12_kept.desc).map (fun d => d.parameters.length) = some 4 ∧ mX12_kept.2.2.1 ≤ 19 := ⟨gw_i5 183 rfl rfl, gw_i1 13 rfl rfl, ⟨by decide +kernel, by decide +kernel⟩, by decide +kernel, by decide⟩
abbrev mX12_keeps : My := (RX12, cX12_keeps, 4, some .int, "keeps")
theorem cw_X12_keeps : Cond.code yX12_keeps mX12_keeps.2.1 mX12_keeps.2.2.1 mX12_keeps.2.2.2.1 ∈ gw_s ∧ Cond.initialized yX12_keeps.cls ∈ gw_s ∧ (yX12_keeps.cls ≠ "java/lang/invoke/MethodHandle" ∧ yX12_keeps.cls ≠ "java/lang/invoke/VarHandle") ∧ (parseMethodDescriptor yX12_keeps.desc).map (fun d => d.parameters.length) = some 3 ∧ mX12_keeps.2.2.1 ≤ 19 := ⟨gw_i5 196 rfl rfl, gw_i1 13 rfl rfl, ⟨by decide +kernel, by decide +kernel⟩, by decide +kernel, by decide⟩
abbrev mX12_seen : My := (RX12, cX12_seen, 3, some .int, "seen")
theorem cw_X12_seen : Cond.code yX12_seen mX12_seen.2.1 mX12_seen.2.2.1 mX12_seen.2.2.2.1 ∈ gw_s ∧ Cond.initialized yX12_seen.cls ∈ gw_s ∧ (yX12_seen.cls ≠ "java/lang/invoke/MethodHandle" ∧ yX12_seen.cls ≠ "java/lang/invoke/VarHandle") ∧ (parseMethodDescriptor yX12_seen.desc).map (fun d => d.parameters.length) = some 2 ∧ mX12_seen.2.2.1 ≤ 19 := ⟨gw_i5 200 rfl rfl, gw_i1 13 rfl rfl, ⟨by decide +kernel, by decide +kernel⟩, by decide +kernel, by decide⟩
abbrev mX12_forget : My := (RX12, cX12_forget, 2, some .int, "forget")
theorem cw_X12_forget : Cond.code yX12_forget mX12_forget.2.1 mX12_forget.2.2.1 mX12_forget.2.2.2.1 ∈ gw_s ∧ Cond.initialized yX12_forget.cls ∈ gw_s ∧ (yX12_forget.cls ≠ "java/lang/invoke/MethodHandle" ∧ yX12_forget.cls ≠ "java/lang/invoke/VarHandle") ∧ (parseMethodDescriptor yX12_forget.desc).map (fun d => d.parameters.length) = some 0 ∧ mX12_forget.2.2.1 ≤ 19 := ⟨gw_i5 204 rfl rfl, gw_i1 13 rfl rfl, ⟨by decide +kernel, by decide +kernel⟩, by decide +kernel, by decide⟩
abbrev mX12_who : My := (RX12, cX12_who, 12, some .int, "who")
theorem cw_X12_who : Cond.code yX12_who mX12_who.2.1 mX12_who.2.2.1 mX12_who.2.2.2.1 ∈ gw_s ∧ Cond.initialized yX12_who.cls ∈ gw_s ∧ (yX12_who.cls ≠ "java/lang/invoke/MethodHandle" ∧ yX12_who.cls ≠ "java/lang/invoke/VarHandle") ∧ (parseMethodDescriptor yX12_who.desc).map (fun d => d.parameters.length) = some 1 ∧ mX12_who.2.2.1 ≤ 19 := ⟨gw_i5 208 rfl rfl, gw_i1 13 rfl rfl, ⟨by decide +kernel, by decide +kernel⟩, by decide +kernel, by decide⟩
abbrev mX12_snow : My := (RX12, cX12_snow, 15, some .long, "snow")
theorem cw_X12_snow : Cond.code yX12_snow mX12_snow.2.1 mX12_snow.2.2.1 mX12_snow.2.2.2.1 ∈ gw_s ∧ Cond.initialized yX12_snow.cls ∈ gw_s ∧ (yX12_snow.cls ≠ "java/lang/invoke/MethodHandle" ∧ yX12_snow.cls ≠ "java/lang/invoke/VarHandle") ∧ (parseMethodDescriptor yX12_snow.desc).map (fun d => d.parameters.length) = some 4 ∧ mX12_snow.2.2.1 ≤ 19 := ⟨gw_i5 212 rfl rfl, gw_i1 13 rfl rfl, ⟨by decide +kernel, by decide +kernel⟩, by decide +kernel, by decide⟩
abbrev mX12_year : My := (RX12, cX12_year, 10, some .int, "year")
theorem cw_X12_year : Cond.code yX12_year mX12_year.2.1 mX12_year.2.2.1 mX12_year.2.2.2.1 ∈ gw_s ∧ Cond.initialized yX12_year.cls ∈ gw_s ∧ (yX12_year.cls ≠ "java/lang/invoke/MethodHandle" ∧ yX12_year.cls ≠ "java/lang/invoke/VarHandle") ∧ (parseMethodDescriptor yX12_year.desc).map (fun d => d.parameters.length) = some 3 ∧ mX12_year.2.2.1 ≤ 19 := ⟨gw_i5 216 rfl rfl, gw_i1 13 rfl rfl, ⟨by decide +kernel, by decide +kernel⟩, by decide +kernel, by decide⟩
abbrev mX12_image : My := (RX12, cX12_image, 4, some .int, "image")
theorem cw_X12_image : Cond.code yX12_image mX12_image.2.1 mX12_image.2.2.1 mX12_image.2.2.2.1 ∈ gw_s ∧ Cond.initialized yX12_image.cls ∈ gw_s ∧ (yX12_image.cls ≠ "java/lang/invoke/MethodHandle" ∧ yX12_image.cls ≠ "java/lang/invoke/VarHandle") ∧ (parseMethodDescriptor yX12_image.desc).map (fun d => d.parameters.length) = some 1 ∧ mX12_image.2.2.1 ≤ 19 := ⟨gw_i5 221 rfl rfl, gw_i1 13 rfl rfl, ⟨by decide +kernel, by decide +kernel⟩, by decide +kernel, by decide⟩
abbrev mX12_restore : My := (RX12, cX12_restore, 4, some .int, "restore")
theorem cw_X12_restore : Cond.code yX12_restore mX12_restore.2.1 mX12_restore.2.2.1 mX12_restore.2.2.2.1 ∈ gw_s ∧ Cond.initialized yX12_restore.cls ∈ gw_s ∧ (yX12_restore.cls ≠ "java/lang/invoke/MethodHandle" ∧ yX12_restore.cls ≠ "java/lang/invoke/VarHandle") ∧ (parseMethodDescriptor yX12_restore.desc).map (fun d => d.parameters.length) = some 1 ∧ mX12_restore.2.2.1 ≤ 19 := ⟨gw_i5 225 rfl rfl, gw_i1 13 rfl rfl, ⟨by decide +kernel, by decide +kernel⟩, by decide +kernel, by decide⟩
abbrev mX12_told : My := (RX12, cX12_told, 4, some .int, "told")
theorem cw_X12_told : Cond.code yX12_told mX12_told.2.1 mX12_told.2.2.1 mX12_told.2.2.2.1 ∈ gw_s ∧ Cond.initialized yX12_told.cls ∈ gw_s ∧ (yX12_told.cls ≠ "java/lang/invoke/MethodHandle" ∧ yX12_told.cls ≠ "java/lang/invoke/VarHandle") ∧ (parseMethodDescriptor yX12_told.desc).map (fun d => d.parameters.length) = some 1 ∧ mX12_told.2.2.1 ≤ 19 := ⟨gw_i5 229 rfl rfl, gw_i1 13 rfl rfl, ⟨by decide +kernel, by decide +kernel⟩, by decide +kernel, by decide⟩
theorem aw_mx_i : Cond.static Lib.Math.max.name ∈ gw_s ∧ Cond.initialized "java/lang/Math" ∈ gw_s ∧ Cond.code Lib.Math.max.name Lib.Math.max.code 2 (some .int) ∈ gw_s := ⟨gw_i3 24 rfl rfl, gw_i1 17 rfl rfl, gw_i3 25 rfl rfl⟩
theorem aw_mn_i : Cond.static Lib.Math.min.name ∈ gw_s ∧ Cond.initialized "java/lang/Math" ∈ gw_s ∧ Cond.code Lib.Math.min.name Lib.Math.min.code 2 (some .int) ∈ gw_s := ⟨gw_i3 74 rfl rfl, gw_i1 17 rfl rfl, gw_i3 75 rfl rfl⟩
theorem aw_mx_l : Cond.static Lib.MathLoose.max_long.x ∈ gw_s ∧ Cond.initialized "java/lang/Math" ∈ gw_s ∧ Cond.code Lib.MathLoose.max_long.x Lib.MathLoose.max_long.code 4 (some .long) ∈ gw_s := ⟨gw_i4 33 rfl rfl, gw_i1 17 rfl rfl, gw_i4 34 rfl rfl⟩
theorem cc_X0_3 : Cond.methodLink RX0 3 Lib.objectInit ∈ gw_s := gw_i1 47 rfl rfl
theorem cc_X0_11 : cn_k RX0 11 yX5_init mX5_init 0 := ⟨⟨Or.inr ⟨"BlowOwed", nw_i1 50 rfl rfl⟩, cw_X5_init⟩, rfl, gw_i1 51 rfl rfl, rfl⟩
theorem cc_X0_26 : cn_k RX0 26 yX2_init mX2_init 0 := ⟨⟨Or.inr ⟨"BlowOwed", nw_i1 73 rfl rfl⟩, cw_X2_init⟩, rfl, gw_i1 74 rfl rfl, rfl⟩
theorem cc_X0_33 : cn_k RX0 33 yX9_init mX9_init 0 := ⟨⟨Or.inr ⟨"BlowOwed", nw_i1 133 rfl rfl⟩, cw_X9_init⟩, rfl, gw_i1 134 rfl rfl, rfl⟩
theorem cc_X0_38 : cn_k RX0 38 yX4_init mX4_init 0 := ⟨⟨Or.inr ⟨"BlowOwed", nw_i1 153 rfl rfl⟩, cw_X4_init⟩, rfl, gw_i1 154 rfl rfl, rfl⟩
theorem cc_X0_43 : cv_k RX0 43 yX5_copy mX5_copy 1 5 := ⟨⟨Or.inr ⟨"BlowOwed", nw_i2 227 rfl rfl⟩, cw_X5_copy⟩, gw_i2 229 rfl rfl, gw_i0 21 rfl rfl, by decide, rfl⟩
theorem cc_X0_47 : cv_k RX0 47 yX4_copy mX4_copy 1 4 := ⟨⟨Or.inr ⟨"BlowOwed", nw_i2 234 rfl rfl⟩, cw_X4_copy⟩, gw_i2 236 rfl rfl, gw_i0 22 rfl rfl, by decide, rfl⟩
theorem cc_X0_50 : cv_k RX0 50 yX2_copy mX2_copy 1 2 := ⟨⟨Or.inr ⟨"BlowOwed", nw_i2 238 rfl rfl⟩, cw_X2_copy⟩, gw_i3 0 rfl rfl, gw_i0 23 rfl rfl, by decide, rfl⟩
theorem cc_X0_53 : cv_k RX0 53 yX9_copy mX9_copy 1 9 := ⟨⟨Or.inr ⟨"BlowOwed", nw_i3 6 rfl rfl⟩, cw_X9_copy⟩, gw_i3 8 rfl rfl, gw_i0 25 rfl rfl, by decide, rfl⟩
theorem cc_X0_67 : cs_k RX0 67 yJ7_fill_53178 mJ7_fill_53178 2 := ⟨⟨Or.inl (gw_i2 96 rfl rfl), cw_J7_fill_53178⟩, gw_i2 97 rfl rfl⟩
theorem cc_X0_73 : cv_k RX0 73 yX4_leave mX4_leave 0 4 := ⟨⟨Or.inr ⟨"BlowOwed", nw_i2 99 rfl rfl⟩, cw_X4_leave⟩, gw_i2 101 rfl rfl, gw_i0 1 rfl rfl, by decide, rfl⟩
theorem cc_X0_84 : cv_k RX0 84 yX0_knightBits mX0_knightBits 0 0 := ⟨⟨Or.inl (gw_i2 140 rfl rfl), cw_X0_knightBits⟩, gw_i2 142 rfl rfl, gw_i0 8 rfl rfl, by decide, rfl⟩
theorem cc_X0_88 : cs_k RX0 88 yJ6_bitCount_0f7a4 mJ6_bitCount_0f7a4 1 := ⟨⟨Or.inl (gw_i2 144 rfl rfl), cw_J6_bitCount_0f7a4⟩, gw_i2 145 rfl rfl⟩
theorem cc_X0_94 : cv_k RX0 94 yX4_isDead mX4_isDead 0 4 := ⟨⟨Or.inr ⟨"BlowOwed", nw_i3 37 rfl rfl⟩, cw_X4_isDead⟩, gw_i3 39 rfl rfl, gw_i0 30 rfl rfl, by decide, rfl⟩
theorem cc_X0_101 : cv_k RX0 101 yX0_knightAt mX0_knightAt 1 0 := ⟨⟨Or.inl (gw_i3 21 rfl rfl), cw_X0_knightAt⟩, gw_i2 130 rfl rfl, gw_i0 5 rfl rfl, by decide, rfl⟩
theorem cc_X0_105 : cv_k RX0 105 yX4_isAlive mX4_isAlive 0 4 := ⟨⟨Or.inr ⟨"BlowOwed", nw_i3 32 rfl rfl⟩, cw_X4_isAlive⟩, gw_i2 156 rfl rfl, gw_i0 9 rfl rfl, by decide, rfl⟩
theorem cc_X0_117 : cv_k RX0 117 yX0_wound mX0_wound 2 0 := ⟨⟨Or.inl (gw_i3 33 rfl rfl), cw_X0_wound⟩, gw_i3 35 rfl rfl, gw_i0 29 rfl rfl, by decide, rfl⟩
theorem cc_X0_121 : cv_k RX0 121 yX2_sweep mX2_sweep 0 2 := ⟨⟨Or.inr ⟨"BlowOwed", nw_i3 22 rfl rfl⟩, cw_X2_sweep⟩, gw_i2 165 rfl rfl, gw_i0 11 rfl rfl, by decide, rfl⟩
theorem cc_X0_127 : cv_k RX0 127 yX2_add mX2_add 4 2 := ⟨⟨Or.inr ⟨"BlowOwed", nw_i3 45 rfl rfl⟩, cw_X2_add⟩, gw_i3 47 rfl rfl, gw_i0 32 rfl rfl, by decide, rfl⟩
theorem cc_X0_131 : cv_k RX0 131 yX0_whyNotActing mX0_whyNotActing 1 0 := ⟨⟨Or.inl (gw_i3 53 rfl rfl), cw_X0_whyNotActing⟩, gw_i3 55 rfl rfl, gw_i0 34 rfl rfl, by decide, rfl⟩
theorem cc_X0_134 : cv_k RX0 134 yX5_daysUnderWay mX5_daysUnderWay 3 5 := ⟨⟨Or.inr ⟨"BlowOwed", nw_i3 88 rfl rfl⟩, cw_X5_daysUnderWay⟩, gw_i3 90 rfl rfl, gw_i0 42 rfl rfl, by decide, rfl⟩
theorem cc_X0_138 : cv_k RX0 138 yX2_findDueTo mX2_findDueTo 2 2 := ⟨⟨Or.inr ⟨"BlowOwed", nw_i3 57 rfl rfl⟩, cw_X2_findDueTo⟩, gw_i3 59 rfl rfl, gw_i0 35 rfl rfl, by decide, rfl⟩
theorem cc_X0_145 : cv_k RX0 145 yX4_isIn mX4_isIn 1 4 := ⟨⟨Or.inr ⟨"BlowOwed", nw_i3 61 rfl rfl⟩, cw_X4_isIn⟩, gw_i3 63 rfl rfl, gw_i0 36 rfl rfl, by decide, rfl⟩
theorem cc_X0_149 : cv_k RX0 149 yX0_giveBackOne mX0_giveBackOne 2 0 := ⟨⟨Or.inl (gw_i3 65 rfl rfl), cw_X0_giveBackOne⟩, gw_i3 67 rfl rfl, gw_i0 37 rfl rfl, by decide, rfl⟩
theorem cc_X0_153 : cv_k RX0 153 yX2_has mX2_has 1 2 := ⟨⟨Or.inr ⟨"BlowOwed", nw_i3 69 rfl rfl⟩, cw_X2_has⟩, gw_i3 71 rfl rfl, gw_i0 38 rfl rfl, by decide, rfl⟩
theorem cc_X0_171 : Cond.methodLink RX0 171 Lib.Math.min.name ∈ gw_s := gw_i3 73 rfl rfl
theorem cc_X0_183 : Cond.methodLink RX0 183 Lib.Math.max.name ∈ gw_s := gw_i3 23 rfl rfl
theorem cc_X0_186 : cv_k RX0 186 yX2_endAllOf mX2_endAllOf 1 2 := ⟨⟨Or.inr ⟨"BlowOwed", nw_i3 41 rfl rfl⟩, cw_X2_endAllOf⟩, gw_i3 43 rfl rfl, gw_i0 31 rfl rfl, by decide, rfl⟩
theorem cc_X1_1 : Cond.methodLink RX1 1 Lib.objectInit ∈ gw_s := gw_i1 83 rfl rfl
theorem cc_X10_3 : Cond.methodLink RX10 3 Lib.objectInit ∈ gw_s := gw_i1 228 rfl rfl
theorem cc_X10_11 : cn_k RX10 11 yX0_init mX0_init 0 := ⟨⟨Or.inr ⟨"BlowOwed", nw_i1 230 rfl rfl⟩, cw_X0_init⟩, rfl, gw_i1 45 rfl rfl, rfl⟩
theorem cc_X10_18 : cv_k RX10 18 yX0_copy mX0_copy 1 0 := ⟨⟨Or.inr ⟨"BlowOwed", nw_i2 223 rfl rfl⟩, cw_X0_copy⟩, gw_i2 225 rfl rfl, gw_i0 20 rfl rfl, by decide, rfl⟩
theorem cc_X10_34 : cv_k RX10 34 yX10_tryAct mX10_tryAct 2 10 := ⟨⟨Or.inl (gw_i3 11 rfl rfl), cw_X10_tryAct⟩, gw_i3 13 rfl rfl, gw_i0 26 rfl rfl, by decide, rfl⟩
theorem cc_X10_38 : cv_k RX10 38 yX7_signsOfAct mX7_signsOfAct 1 7 := ⟨⟨Or.inr ⟨"BlowOwed", nw_i3 100 rfl rfl⟩, cw_X7_signsOfAct⟩, gw_i2 212 rfl rfl, gw_i0 18 rfl rfl, by decide, rfl⟩
theorem cc_X10_42 : cv_k RX10 42 yX7_signAt mX7_signAt 1 7 := ⟨⟨Or.inr ⟨"BlowOwed", nw_i3 15 rfl rfl⟩, cw_X7_signAt⟩, gw_i2 193 rfl rfl, gw_i0 15 rfl rfl, by decide, rfl⟩
theorem cc_X10_45 : cs_k RX10 45 yX7_daysOf mX7_daysOf 1 := ⟨⟨Or.inr ⟨"BlowOwed", nw_i3 16 rfl rfl⟩, cw_X7_daysOf⟩, gw_i2 196 rfl rfl⟩
theorem cc_X10_48 : cv_k RX10 48 yX0_passDays mX0_passDays 1 0 := ⟨⟨Or.inr ⟨"BlowOwed", nw_i3 17 rfl rfl⟩, cw_X0_passDays⟩, gw_i3 19 rfl rfl, gw_i0 27 rfl rfl, by decide, rfl⟩
theorem cc_X10_52 : cs_k RX10 52 yX7_isLetter mX7_isLetter 1 := ⟨⟨Or.inr ⟨"BlowOwed", nw_i3 26 rfl rfl⟩, cw_X7_isLetter⟩, gw_i2 199 rfl rfl⟩
theorem cc_X10_56 : cv_k RX10 56 yX7_numberAt mX7_numberAt 1 7 := ⟨⟨Or.inr ⟨"BlowOwed", nw_i3 27 rfl rfl⟩, cw_X7_numberAt⟩, gw_i2 208 rfl rfl, gw_i0 17 rfl rfl, by decide, rfl⟩
theorem cc_X10_59 : cv_k RX10 59 yX0_tryStrike mX0_tryStrike 3 0 := ⟨⟨Or.inr ⟨"BlowOwed", nw_i3 28 rfl rfl⟩, cw_X0_tryStrike⟩, gw_i3 30 rfl rfl, gw_i0 28 rfl rfl, by decide, rfl⟩
theorem cc_X10_63 : cv_k RX10 63 yX0_tryGiveBack mX0_tryGiveBack 1 0 := ⟨⟨Or.inr ⟨"BlowOwed", nw_i3 49 rfl rfl⟩, cw_X0_tryGiveBack⟩, gw_i3 51 rfl rfl, gw_i0 33 rfl rfl, by decide, rfl⟩
theorem cc_X10_66 : cv_k RX10 66 yX0_tryFlinch mX0_tryFlinch 1 0 := ⟨⟨Or.inr ⟨"BlowOwed", nw_i3 76 rfl rfl⟩, cw_X0_tryFlinch⟩, gw_i3 78 rfl rfl, gw_i0 39 rfl rfl, by decide, rfl⟩
theorem cc_X10_69 : cv_k RX10 69 yX0_tryRemit mX0_tryRemit 1 0 := ⟨⟨Or.inr ⟨"BlowOwed", nw_i3 80 rfl rfl⟩, cw_X0_tryRemit⟩, gw_i3 82 rfl rfl, gw_i0 40 rfl rfl, by decide, rfl⟩
theorem cc_X10_72 : cv_k RX10 72 yX0_trySetOut mX0_trySetOut 2 0 := ⟨⟨Or.inr ⟨"BlowOwed", nw_i3 84 rfl rfl⟩, cw_X0_trySetOut⟩, gw_i3 86 rfl rfl, gw_i0 41 rfl rfl, by decide, rfl⟩
theorem cc_X11_1 : Cond.methodLink RX11 1 Lib.objectInit ∈ gw_s := gw_i1 23 rfl rfl
theorem cc_X11_9 : cn_k RX11 9 yX7_init mX7_init 0 := ⟨⟨Or.inr ⟨"BlowOwed", nw_i1 28 rfl rfl⟩, cw_X7_init⟩, rfl, gw_i1 29 rfl rfl, rfl⟩
theorem cc_X11_18 : cn_k RX11 18 yX0_init mX0_init 0 := ⟨⟨Or.inr ⟨"BlowOwed", nw_i1 44 rfl rfl⟩, cw_X0_init⟩, rfl, gw_i1 45 rfl rfl, rfl⟩
theorem cc_X11_29 : cn_k RX11 29 yX10_init mX10_init 0 := ⟨⟨Or.inr ⟨"BlowOwed", nw_i1 225 rfl rfl⟩, cw_X10_init⟩, rfl, gw_i1 226 rfl rfl, rfl⟩
theorem cc_X11_36 : cn_k RX11 36 yX3_init mX3_init 0 := ⟨⟨Or.inr ⟨"BlowOwed", nw_i2 14 rfl rfl⟩, cw_X3_init⟩, rfl, gw_i2 15 rfl rfl, rfl⟩
theorem cc_X11_43 : cn_k RX11 43 yX6_init mX6_init 0 := ⟨⟨Or.inr ⟨"BlowOwed", nw_i2 30 rfl rfl⟩, cw_X6_init⟩, rfl, gw_i2 31 rfl rfl, rfl⟩
theorem cc_X11_50 : cn_k RX11 50 yX8_init mX8_init 0 := ⟨⟨Or.inr ⟨"BlowOwed", nw_i2 43 rfl rfl⟩, cw_X8_init⟩, rfl, gw_i2 44 rfl rfl, rfl⟩
theorem cc_X11_55 : cs_k RX11 55 yX11_isWithin mX11_isWithin 3 := ⟨⟨Or.inl (gw_i2 89 rfl rfl), cw_X11_isWithin⟩, gw_i2 90 rfl rfl⟩
theorem cc_X11_69 : cv_k RX11 69 yX0_beginAnew mX0_beginAnew 1 0 := ⟨⟨Or.inr ⟨"BlowOwed", nw_i2 92 rfl rfl⟩, cw_X0_beginAnew⟩, gw_i2 94 rfl rfl, gw_i0 0 rfl rfl, by decide, rfl⟩
theorem cc_X11_73 : cv_k RX11 73 yX5_hasChapel mX5_hasChapel 1 5 := ⟨⟨Or.inr ⟨"BlowOwed", nw_i2 107 rfl rfl⟩, cw_X5_hasChapel⟩, gw_i2 109 rfl rfl, gw_i0 2 rfl rfl, by decide, rfl⟩
theorem cc_X11_77 : cv_k RX11 77 yX5_roadDays mX5_roadDays 2 5 := ⟨⟨Or.inr ⟨"BlowOwed", nw_i2 111 rfl rfl⟩, cw_X5_roadDays⟩, gw_i2 113 rfl rfl, gw_i0 3 rfl rfl, by decide, rfl⟩
theorem cc_X11_81 : cv_k RX11 81 yX5_layRoad mX5_layRoad 3 5 := ⟨⟨Or.inr ⟨"BlowOwed", nw_i2 115 rfl rfl⟩, cw_X5_layRoad⟩, gw_i2 117 rfl rfl, gw_i0 4 rfl rfl, by decide, rfl⟩
theorem cc_X11_97 : cv_k RX11 97 yX0_knightAt mX0_knightAt 1 0 := ⟨⟨Or.inr ⟨"BlowOwed", nw_i2 128 rfl rfl⟩, cw_X0_knightAt⟩, gw_i2 130 rfl rfl, gw_i0 5 rfl rfl, by decide, rfl⟩
theorem cc_X11_107 : cv_k RX11 107 yX4_come mX4_come 4 4 := ⟨⟨Or.inr ⟨"BlowOwed", nw_i2 132 rfl rfl⟩, cw_X4_come⟩, gw_i2 134 rfl rfl, gw_i0 6 rfl rfl, by decide, rfl⟩
theorem cc_X11_111 : cv_k RX11 111 yX0_countKnights mX0_countKnights 0 0 := ⟨⟨Or.inr ⟨"BlowOwed", nw_i2 136 rfl rfl⟩, cw_X0_countKnights⟩, gw_i2 138 rfl rfl, gw_i0 7 rfl rfl, by decide, rfl⟩
theorem cc_X11_115 : cv_k RX11 115 yX4_isAlive mX4_isAlive 0 4 := ⟨⟨Or.inr ⟨"BlowOwed", nw_i2 154 rfl rfl⟩, cw_X4_isAlive⟩, gw_i2 156 rfl rfl, gw_i0 9 rfl rfl, by decide, rfl⟩
theorem cc_X11_119 : cv_k RX11 119 yX4_leave mX4_leave 0 4 := ⟨⟨Or.inr ⟨"BlowOwed", nw_i2 158 rfl rfl⟩, cw_X4_leave⟩, gw_i2 101 rfl rfl, gw_i0 1 rfl rfl, by decide, rfl⟩
theorem cc_X11_122 : cv_k RX11 122 yX2_inherit mX2_inherit 2 2 := ⟨⟨Or.inr ⟨"BlowOwed", nw_i2 159 rfl rfl⟩, cw_X2_inherit⟩, gw_i2 161 rfl rfl, gw_i0 10 rfl rfl, by decide, rfl⟩
theorem cc_X11_127 : cv_k RX11 127 yX7_add mX7_add 1 7 := ⟨⟨Or.inr ⟨"BlowOwed", nw_i2 171 rfl rfl⟩, cw_X7_add⟩, gw_i2 173 rfl rfl, gw_i0 12 rfl rfl, by decide, rfl⟩
theorem cc_X11_130 : cv_k RX11 130 yX7_findFault mX7_findFault 1 7 := ⟨⟨Or.inr ⟨"BlowOwed", nw_i2 183 rfl rfl⟩, cw_X7_findFault⟩, gw_i2 185 rfl rfl, gw_i0 13 rfl rfl, by decide, rfl⟩
theorem cc_X11_134 : cv_k RX11 134 yX11_fault mX11_fault 0 11 := ⟨⟨Or.inl (gw_i2 218 rfl rfl), cw_X11_fault⟩, gw_i2 180 rfl rfl, gw_i2 181 rfl rfl, by decide, rfl⟩
theorem cc_X11_137 : cv_k RX11 137 yX10_hear mX10_hear 2 10 := ⟨⟨Or.inr ⟨"BlowOwed", nw_i2 219 rfl rfl⟩, cw_X10_hear⟩, gw_i2 221 rfl rfl, gw_i0 19 rfl rfl, by decide, rfl⟩
theorem cc_X11_150 : cv_k RX11 150 yX0_copy mX0_copy 1 0 := ⟨⟨Or.inr ⟨"BlowOwed", nw_i3 105 rfl rfl⟩, cw_X0_copy⟩, gw_i2 225 rfl rfl, gw_i0 20 rfl rfl, by decide, rfl⟩
theorem cc_X11_154 : cv_k RX11 154 yX4_tell mX4_tell 1 4 := ⟨⟨Or.inr ⟨"BlowOwed", nw_i3 110 rfl rfl⟩, cw_X4_tell⟩, gw_i3 112 rfl rfl, gw_i0 44 rfl rfl, by decide, rfl⟩
theorem cc_X11_157 : cv_k RX11 157 yX2_has mX2_has 1 2 := ⟨⟨Or.inr ⟨"BlowOwed", nw_i3 123 rfl rfl⟩, cw_X2_has⟩, gw_i3 71 rfl rfl, gw_i0 38 rfl rfl, by decide, rfl⟩
theorem cc_X11_164 : cv_k RX11 164 yX1_tell mX1_tell 1 1 := ⟨⟨Or.inr ⟨"BlowOwed", nw_i3 124 rfl rfl⟩, cw_X1_tell⟩, gw_i3 126 rfl rfl, gw_i0 45 rfl rfl, by decide, rfl⟩
theorem cc_X11_167 : cv_k RX11 167 yX3_firstDay mX3_firstDay 3 3 := ⟨⟨Or.inr ⟨"BlowOwed", nw_i3 132 rfl rfl⟩, cw_X3_firstDay⟩, gw_i3 134 rfl rfl, gw_i0 46 rfl rfl, by decide, rfl⟩
theorem cc_X11_172 : cv_k RX11 172 yX3_metAlone mX3_metAlone 2 3 := ⟨⟨Or.inr ⟨"BlowOwed", nw_i3 161 rfl rfl⟩, cw_X3_metAlone⟩, gw_i3 163 rfl rfl, gw_i0 50 rfl rfl, by decide, rfl⟩
theorem cc_X11_176 : cv_k RX11 176 yX3_mostMet mX3_mostMet 2 3 := ⟨⟨Or.inr ⟨"BlowOwed", nw_i3 173 rfl rfl⟩, cw_X3_mostMet⟩, gw_i3 175 rfl rfl, gw_i0 51 rfl rfl, by decide, rfl⟩
theorem cc_X11_179 : cv_k RX11 179 yX2_countOwedBy mX2_countOwedBy 1 2 := ⟨⟨Or.inr ⟨"BlowOwed", nw_i3 187 rfl rfl⟩, cw_X2_countOwedBy⟩, gw_i3 189 rfl rfl, gw_i0 54 rfl rfl, by decide, rfl⟩
theorem cc_X11_182 : cv_k RX11 182 yX3_findBarred mX3_findBarred 2 3 := ⟨⟨Or.inr ⟨"BlowOwed", nw_i3 191 rfl rfl⟩, cw_X3_findBarred⟩, gw_i3 193 rfl rfl, gw_i0 55 rfl rfl, by decide, rfl⟩
theorem cc_X11_185 : cs_k RX11 185 yX11_bestBlow mX11_bestBlow 4 := ⟨⟨Or.inl (gw_i3 199 rfl rfl), cw_X11_bestBlow⟩, gw_i3 200 rfl rfl⟩
theorem cc_X11_189 : cs_k RX11 189 yX11_gainOf mX11_gainOf 5 := ⟨⟨Or.inl (gw_i3 202 rfl rfl), cw_X11_gainOf⟩, gw_i3 203 rfl rfl⟩
theorem cc_X11_193 : cv_k RX11 193 yX6_fewestPayments mX6_fewestPayments 1 6 := ⟨⟨Or.inr ⟨"BlowOwed", nw_i3 210 rfl rfl⟩, cw_X6_fewestPayments⟩, gw_i3 212 rfl rfl, gw_i0 56 rfl rfl, by decide, rfl⟩
theorem cc_X11_197 : cv_k RX11 197 yX6_shortestRing mX6_shortestRing 1 6 := ⟨⟨Or.inr ⟨"BlowOwed", nw_i3 223 rfl rfl⟩, cw_X6_shortestRing⟩, gw_i3 225 rfl rfl, gw_i0 58 rfl rfl, by decide, rfl⟩
theorem cc_X11_201 : cs_k RX11 201 yX11_leftOver mX11_leftOver 2 := ⟨⟨Or.inl (gw_i4 3 rfl rfl), cw_X11_leftOver⟩, gw_i3 98 rfl rfl⟩
theorem cc_X11_204 : cs_k RX11 204 yX11_cut mX11_cut 2 := ⟨⟨Or.inl (gw_i4 4 rfl rfl), cw_X11_cut⟩, gw_i4 5 rfl rfl⟩
theorem cc_X11_207 : Cond.methodLink RX11 207 Lib.Math.max.name ∈ gw_s := gw_i4 7 rfl rfl
theorem cc_X11_212 : cs_k RX11 212 yX11_areTenths mX11_areTenths 1 := ⟨⟨Or.inl (gw_i4 12 rfl rfl), cw_X11_areTenths⟩, gw_i4 13 rfl rfl⟩
theorem cc_X11_217 : cs_k RX11 217 yX11_mostKept mX11_mostKept 3 := ⟨⟨Or.inl (gw_i4 16 rfl rfl), cw_X11_mostKept⟩, gw_i4 17 rfl rfl⟩
theorem cc_X11_221 : cs_k RX11 221 yX11_tenTo mX11_tenTo 1 := ⟨⟨Or.inl (gw_i4 22 rfl rfl), cw_X11_tenTo⟩, gw_i4 23 rfl rfl⟩
theorem cc_X11_225 : cs_k RX11 225 yX11_partOf mX11_partOf 3 := ⟨⟨Or.inl (gw_i4 35 rfl rfl), cw_X11_partOf⟩, gw_i4 36 rfl rfl⟩
theorem cc_X11_229 : cs_k RX11 229 yX11_keptBack mX11_keptBack 4 := ⟨⟨Or.inl (gw_i4 29 rfl rfl), cw_X11_keptBack⟩, gw_i4 30 rfl rfl⟩
theorem cc_X11_233 : cs_k RX11 233 yX11_exchanged mX11_exchanged 3 := ⟨⟨Or.inl (gw_i4 19 rfl rfl), cw_X11_exchanged⟩, gw_i4 20 rfl rfl⟩
theorem cc_X11_244 : cv_k RX11 244 yX9_add mX9_add 2 9 := ⟨⟨Or.inr ⟨"BlowOwed", nw_i4 49 rfl rfl⟩, cw_X9_add⟩, gw_i4 51 rfl rfl, gw_i0 61 rfl rfl, by decide, rfl⟩
theorem cc_X11_246 : cv_k RX11 246 yX8_fit mX8_fit 1 8 := ⟨⟨Or.inr ⟨"BlowOwed", nw_i4 61 rfl rfl⟩, cw_X8_fit⟩, gw_i4 63 rfl rfl, gw_i0 62 rfl rfl, by decide, rfl⟩
theorem cc_X11_257 : cs_k RX11 257 yX11_goneInTime mX11_goneInTime 3 := ⟨⟨Or.inl (gw_i4 76 rfl rfl), cw_X11_goneInTime⟩, gw_i4 77 rfl rfl⟩
theorem cc_X11_260 : cv_k RX11 260 yX10_draw mX10_draw 3 10 := ⟨⟨Or.inr ⟨"BlowOwed", nw_i4 83 rfl rfl⟩, cw_X10_draw⟩, gw_i4 85 rfl rfl, gw_i0 64 rfl rfl, by decide, rfl⟩
theorem cc_X11_270 : cv_k RX11 270 yX0_sumHonour mX0_sumHonour 0 0 := ⟨⟨Or.inr ⟨"BlowOwed", nw_i4 88 rfl rfl⟩, cw_X0_sumHonour⟩, gw_i4 90 rfl rfl, gw_i0 65 rfl rfl, by decide, rfl⟩
theorem cc_X11_273 : cv_k RX11 273 yX0_countDead mX0_countDead 0 0 := ⟨⟨Or.inr ⟨"BlowOwed", nw_i4 92 rfl rfl⟩, cw_X0_countDead⟩, gw_i4 94 rfl rfl, gw_i0 66 rfl rfl, by decide, rfl⟩
theorem cc_X11_276 : cv_k RX11 276 yX0_knightBits mX0_knightBits 0 0 := ⟨⟨Or.inr ⟨"BlowOwed", nw_i4 108 rfl rfl⟩, cw_X0_knightBits⟩, gw_i2 142 rfl rfl, gw_i0 8 rfl rfl, by decide, rfl⟩
theorem cc_X11_282 : cv_k RX11 282 yX11_toldOfKnight mX11_toldOfKnight 1 11 := ⟨⟨Or.inl (gw_i4 109 rfl rfl), cw_X11_toldOfKnight⟩, gw_i4 111 rfl rfl, gw_i0 67 rfl rfl, by decide, rfl⟩
theorem cc_X11_285 : cv_k RX11 285 yX11_toldOfRoad mX11_toldOfRoad 1 11 := ⟨⟨Or.inl (gw_i4 113 rfl rfl), cw_X11_toldOfRoad⟩, gw_i4 115 rfl rfl, gw_i0 68 rfl rfl, by decide, rfl⟩
theorem cc_X11_297 : Cond.methodLink RX11 297 Lib.Math.min.name ∈ gw_s := gw_i3 205 rfl rfl
theorem cc_X11_300 : Cond.methodLink RX11 300 Lib.MathLoose.max_long.x ∈ gw_s := gw_i4 32 rfl rfl
theorem cc_X11_305 : cs_k RX11 305 yX11_power mX11_power 2 := ⟨⟨Or.inl (gw_i4 25 rfl rfl), cw_X11_power⟩, gw_i4 26 rfl rfl⟩
theorem cc_X11_309 : cs_k RX11 309 yX11_commonDivisor mX11_commonDivisor 2 := ⟨⟨Or.inl (gw_i4 38 rfl rfl), cw_X11_commonDivisor⟩, gw_i4 39 rfl rfl⟩
theorem cc_X12_1 : Cond.methodLink RX12 1 Lib.objectInit ∈ gw_s := gw_i4 122 rfl rfl
theorem cc_X12_81 : cs_k RX12 81 yX12_in mX12_in 3 := ⟨⟨Or.inl (gw_i4 225 rfl rfl), cw_X12_in⟩, gw_i4 226 rfl rfl⟩
theorem cc_X12_85 : cs_k RX12 85 yX12_has mX12_has 2 := ⟨⟨Or.inl (gw_i5 8 rfl rfl), cw_X12_has⟩, gw_i5 9 rfl rfl⟩
theorem cc_X12_98 : cv_k RX12 98 yX12_isChapel mX12_isChapel 1 12 := ⟨⟨Or.inl (gw_i4 232 rfl rfl), cw_X12_isChapel⟩, gw_i4 234 rfl rfl, gw_i0 69 rfl rfl, by decide, rfl⟩
theorem cc_X12_102 : cv_k RX12 102 yX12_isThere mX12_isThere 1 12 := ⟨⟨Or.inl (gw_i5 4 rfl rfl), cw_X12_isThere⟩, gw_i5 6 rfl rfl, gw_i0 70 rfl rfl, by decide, rfl⟩
theorem cc_X12_105 : cs_k RX12 105 yX12_bits mX12_bits 1 := ⟨⟨Or.inl (gw_i5 11 rfl rfl), cw_X12_bits⟩, gw_i5 12 rfl rfl⟩
theorem cc_X12_112 : cs_k RX12 112 yX12_daysOf mX12_daysOf 1 := ⟨⟨Or.inl (gw_i5 34 rfl rfl), cw_X12_daysOf⟩, gw_i5 35 rfl rfl⟩
theorem cc_X12_115 : cv_k RX12 115 yX12_faultOf mX12_faultOf 0 12 := ⟨⟨Or.inl (gw_i5 30 rfl rfl), cw_X12_faultOf⟩, gw_i5 32 rfl rfl, gw_i0 71 rfl rfl, by decide, rfl⟩
theorem cc_X12_125 : cv_k RX12 125 yX12_forgive mX12_forgive 1 12 := ⟨⟨Or.inl (gw_i5 53 rfl rfl), cw_X12_forgive⟩, gw_i5 55 rfl rfl, gw_i0 75 rfl rfl, by decide, rfl⟩
theorem cc_X12_129 : cv_k RX12 129 yX12_isAlive mX12_isAlive 1 12 := ⟨⟨Or.inl (gw_i5 61 rfl rfl), cw_X12_isAlive⟩, gw_i5 63 rfl rfl, gw_i0 77 rfl rfl, by decide, rfl⟩
theorem cc_X12_132 : cv_k RX12 132 yX12_strike mX12_strike 2 12 := ⟨⟨Or.inl (gw_i5 69 rfl rfl), cw_X12_strike⟩, gw_i5 71 rfl rfl, gw_i0 79 rfl rfl, by decide, rfl⟩
theorem cc_X12_136 : cv_k RX12 136 yX12_isOwed mX12_isOwed 2 12 := ⟨⟨Or.inl (gw_i5 77 rfl rfl), cw_X12_isOwed⟩, gw_i5 79 rfl rfl, gw_i0 81 rfl rfl, by decide, rfl⟩
theorem cc_X12_139 : cv_k RX12 139 yX12_owesHere mX12_owesHere 2 12 := ⟨⟨Or.inl (gw_i5 81 rfl rfl), cw_X12_owesHere⟩, gw_i5 83 rfl rfl, gw_i0 82 rfl rfl, by decide, rfl⟩
theorem cc_X12_142 : cv_k RX12 142 yX12_giveBack mX12_giveBack 1 12 := ⟨⟨Or.inl (gw_i5 89 rfl rfl), cw_X12_giveBack⟩, gw_i5 91 rfl rfl, gw_i0 84 rfl rfl, by decide, rfl⟩
theorem cc_X12_145 : cv_k RX12 145 yX12_asNow mX12_asNow 0 12 := ⟨⟨Or.inl (gw_i5 45 rfl rfl), cw_X12_asNow⟩, gw_i5 47 rfl rfl, gw_i0 73 rfl rfl, by decide, rfl⟩
theorem cc_X12_154 : cv_k RX12 154 yX12_pass mX12_pass 1 12 := ⟨⟨Or.inl (gw_i5 49 rfl rfl), cw_X12_pass⟩, gw_i5 51 rfl rfl, gw_i0 74 rfl rfl, by decide, rfl⟩
theorem cc_X12_157 : cv_k RX12 157 yX12_whyNotStrike mX12_whyNotStrike 3 12 := ⟨⟨Or.inl (gw_i5 57 rfl rfl), cw_X12_whyNotStrike⟩, gw_i5 59 rfl rfl, gw_i0 76 rfl rfl, by decide, rfl⟩
theorem cc_X12_161 : cv_k RX12 161 yX12_hit mX12_hit 3 12 := ⟨⟨Or.inl (gw_i5 65 rfl rfl), cw_X12_hit⟩, gw_i5 67 rfl rfl, gw_i0 78 rfl rfl, by decide, rfl⟩
theorem cc_X12_165 : cv_k RX12 165 yX12_whyNot mX12_whyNot 2 12 := ⟨⟨Or.inl (gw_i5 73 rfl rfl), cw_X12_whyNot⟩, gw_i5 75 rfl rfl, gw_i0 80 rfl rfl, by decide, rfl⟩
theorem cc_X12_169 : cv_k RX12 169 yX12_act mX12_act 2 12 := ⟨⟨Or.inl (gw_i5 85 rfl rfl), cw_X12_act⟩, gw_i5 87 rfl rfl, gw_i0 83 rfl rfl, by decide, rfl⟩
theorem cc_X12_172 : cv_k RX12 172 yX12_goCourt mX12_goCourt 0 12 := ⟨⟨Or.inl (gw_i5 41 rfl rfl), cw_X12_goCourt⟩, gw_i5 43 rfl rfl, gw_i0 72 rfl rfl, by decide, rfl⟩
theorem cc_X12_175 : cv_k RX12 175 yX12_barOfCourt mX12_barOfCourt 0 12 := ⟨⟨Or.inl (gw_i5 97 rfl rfl), cw_X12_barOfCourt⟩, gw_i5 99 rfl rfl, gw_i0 85 rfl rfl, by decide, rfl⟩
theorem cc_X12_178 : cv_k RX12 178 yX12_keep mX12_keep 0 12 := ⟨⟨Or.inl (gw_i5 101 rfl rfl), cw_X12_keep⟩, gw_i5 103 rfl rfl, gw_i0 86 rfl rfl, by decide, rfl⟩
theorem cc_X12_181 : cv_k RX12 181 yX12_stateNow mX12_stateNow 2 12 := ⟨⟨Or.inl (gw_i5 109 rfl rfl), cw_X12_stateNow⟩, gw_i5 111 rfl rfl, gw_i0 87 rfl rfl, by decide, rfl⟩
theorem cc_X12_185 : cv_k RX12 185 yX12_arrival mX12_arrival 2 12 := ⟨⟨Or.inl (gw_i5 134 rfl rfl), cw_X12_arrival⟩, gw_i5 136 rfl rfl, gw_i0 90 rfl rfl, by decide, rfl⟩
theorem cc_X12_188 : cv_k RX12 188 yX12_isWell mX12_isWell 1 12 := ⟨⟨Or.inl (gw_i5 125 rfl rfl), cw_X12_isWell⟩, gw_i5 127 rfl rfl, gw_i0 88 rfl rfl, by decide, rfl⟩
theorem cc_X12_191 : cv_k RX12 191 yX12_layJourneys mX12_layJourneys 2 12 := ⟨⟨Or.inl (gw_i5 129 rfl rfl), cw_X12_layJourneys⟩, gw_i5 131 rfl rfl, gw_i0 89 rfl rfl, by decide, rfl⟩
theorem cc_X12_194 : cv_k RX12 194 yX12_canMeet mX12_canMeet 2 12 := ⟨⟨Or.inl (gw_i5 146 rfl rfl), cw_X12_canMeet⟩, gw_i5 148 rfl rfl, gw_i0 91 rfl rfl, by decide, rfl⟩
theorem cc_X12_198 : cv_k RX12 198 yX12_layBalance mX12_layBalance 0 12 := ⟨⟨Or.inl (gw_i5 159 rfl rfl), cw_X12_layBalance⟩, gw_i5 161 rfl rfl, gw_i0 92 rfl rfl, by decide, rfl⟩
theorem cc_X12_201 : cv_k RX12 201 yX12_sumOf mX12_sumOf 1 12 := ⟨⟨Or.inl (gw_i5 163 rfl rfl), cw_X12_sumOf⟩, gw_i5 165 rfl rfl, gw_i0 93 rfl rfl, by decide, rfl⟩
theorem cc_X12_204 : cv_k RX12 204 yX12_owes mX12_owes 2 12 := ⟨⟨Or.inl (gw_i5 171 rfl rfl), cw_X12_owes⟩, gw_i5 173 rfl rfl, gw_i0 94 rfl rfl, by decide, rfl⟩
theorem cc_X12_210 : cs_k RX12 210 yX12_tens mX12_tens 1 := ⟨⟨Or.inl (gw_i5 189 rfl rfl), cw_X12_tens⟩, gw_i5 190 rfl rfl⟩
theorem cc_X12_220 : cv_k RX12 220 yX12_hosted mX12_hosted 3 12 := ⟨⟨Or.inl (gw_i5 185 rfl rfl), cw_X12_hosted⟩, gw_i5 187 rfl rfl, gw_i0 95 rfl rfl, by decide, rfl⟩
theorem cc_X2_3 : Cond.methodLink RX2 3 Lib.objectInit ∈ gw_s := gw_i1 76 rfl rfl
theorem cc_X2_17 : cn_k RX2 17 yX1_init mX1_init 0 := ⟨⟨Or.inr ⟨"BlowOwed", nw_i1 80 rfl rfl⟩, cw_X1_init⟩, rfl, gw_i1 81 rfl rfl, rfl⟩
theorem cc_X2_34 : cv_k RX2 34 yX1_set mX1_set 4 1 := ⟨⟨Or.inr ⟨"BlowOwed", nw_i3 2 rfl rfl⟩, cw_X1_set⟩, gw_i3 4 rfl rfl, gw_i0 24 rfl rfl, by decide, rfl⟩
theorem cc_X2_42 : cv_k RX2 42 yX2_sweep mX2_sweep 0 2 := ⟨⟨Or.inl (gw_i2 163 rfl rfl), cw_X2_sweep⟩, gw_i2 165 rfl rfl, gw_i0 11 rfl rfl, by decide, rfl⟩
theorem cc_X3_3 : Cond.methodLink RX3 3 Lib.objectInit ∈ gw_s := gw_i2 17 rfl rfl
theorem cc_X3_21 : cv_k RX3 21 yX3_setOff mX3_setOff 2 3 := ⟨⟨Or.inl (gw_i3 136 rfl rfl), cw_X3_setOff⟩, gw_i3 138 rfl rfl, gw_i0 47 rfl rfl, by decide, rfl⟩
theorem cc_X3_25 : cs_k RX3 25 yX3_dayAt mX3_dayAt 2 := ⟨⟨Or.inl (gw_i3 152 rfl rfl), cw_X3_dayAt⟩, gw_i3 153 rfl rfl⟩
theorem cc_X3_41 : cs_k RX3 41 yX3_isMet mX3_isMet 4 := ⟨⟨Or.inl (gw_i3 165 rfl rfl), cw_X3_isMet⟩, gw_i3 166 rfl rfl⟩
theorem cc_X3_45 : cv_k RX3 45 yX3_metAlone mX3_metAlone 2 3 := ⟨⟨Or.inl (gw_i3 177 rfl rfl), cw_X3_metAlone⟩, gw_i3 163 rfl rfl, gw_i0 50 rfl rfl, by decide, rfl⟩
theorem cc_X3_49 : Cond.methodLink RX3 49 Lib.Math.max.name ∈ gw_s := gw_i3 178 rfl rfl
theorem cc_X3_55 : cv_k RX3 55 yX3_lengthen mX3_lengthen 3 3 := ⟨⟨Or.inl (gw_i3 179 rfl rfl), cw_X3_lengthen⟩, gw_i3 181 rfl rfl, gw_i0 52 rfl rfl, by decide, rfl⟩
theorem cc_X3_59 : cv_k RX3 59 yX3_goOnFrom mX3_goOnFrom 2 3 := ⟨⟨Or.inl (gw_i3 183 rfl rfl), cw_X3_goOnFrom⟩, gw_i3 185 rfl rfl, gw_i0 53 rfl rfl, by decide, rfl⟩
theorem cc_X3_62 : cv_k RX3 62 yX0_knightAt mX0_knightAt 1 0 := ⟨⟨Or.inr ⟨"BlowOwed", nw_i3 140 rfl rfl⟩, cw_X0_knightAt⟩, gw_i2 130 rfl rfl, gw_i0 5 rfl rfl, by decide, rfl⟩
theorem cc_X3_81 : cv_k RX3 81 yX5_fillFirstDays mX5_fillFirstDays 3 5 := ⟨⟨Or.inr ⟨"BlowOwed", nw_i3 141 rfl rfl⟩, cw_X5_fillFirstDays⟩, gw_i3 143 rfl rfl, gw_i0 48 rfl rfl, by decide, rfl⟩
theorem cc_X3_87 : cv_k RX3 87 yX2_has mX2_has 1 2 := ⟨⟨Or.inr ⟨"BlowOwed", nw_i3 168 rfl rfl⟩, cw_X2_has⟩, gw_i3 71 rfl rfl, gw_i0 38 rfl rfl, by decide, rfl⟩
theorem cc_X4_3 : Cond.methodLink RX4 3 Lib.objectInit ∈ gw_s := gw_i1 156 rfl rfl
theorem cc_X4_34 : cv_k RX4 34 yX4_isDead mX4_isDead 0 4 := ⟨⟨Or.inl (gw_i3 114 rfl rfl), cw_X4_isDead⟩, gw_i3 39 rfl rfl, gw_i0 30 rfl rfl, by decide, rfl⟩
theorem cc_X5_3 : Cond.methodLink RX5 3 Lib.objectInit ∈ gw_s := gw_i1 53 rfl rfl
theorem cc_X5_22 : Cond.methodLink RX5 22 arraycopyName ∈ gw_s := gw_i2 231 rfl rfl
theorem cc_X5_28 : cv_k RX5 28 yX5_hasChapel mX5_hasChapel 1 5 := ⟨⟨Or.inl (gw_i2 119 rfl rfl), cw_X5_hasChapel⟩, gw_i2 109 rfl rfl, gw_i0 2 rfl rfl, by decide, rfl⟩
theorem cc_X5_32 : cs_k RX5 32 yX11_leftOver mX11_leftOver 2 := ⟨⟨Or.inr ⟨"BlowOwed", nw_i3 97 rfl rfl⟩, cw_X11_leftOver⟩, gw_i3 98 rfl rfl⟩
theorem cc_X5_36 : cv_k RX5 36 yX5_roadDays mX5_roadDays 2 5 := ⟨⟨Or.inl (gw_i3 92 rfl rfl), cw_X5_roadDays⟩, gw_i2 113 rfl rfl, gw_i0 3 rfl rfl, by decide, rfl⟩
theorem cc_X5_39 : cv_k RX5 39 yX5_isWinter mX5_isWinter 1 5 := ⟨⟨Or.inl (gw_i3 93 rfl rfl), cw_X5_isWinter⟩, gw_i3 95 rfl rfl, gw_i0 43 rfl rfl, by decide, rfl⟩
theorem cc_X5_43 : Cond.methodLink RX5 43 Lib.Math.min.name ∈ gw_s := gw_i3 151 rfl rfl
theorem cc_X5_48 : cs_k RX5 48 yJ7_fill_53178 mJ7_fill_53178 2 := ⟨⟨Or.inl (gw_i3 146 rfl rfl), cw_J7_fill_53178⟩, gw_i2 97 rfl rfl⟩
theorem cc_X5_54 : cv_k RX5 54 yX5_firstAcross mX5_firstAcross 3 5 := ⟨⟨Or.inl (gw_i3 147 rfl rfl), cw_X5_firstAcross⟩, gw_i3 149 rfl rfl, gw_i0 49 rfl rfl, by decide, rfl⟩
theorem cc_X6_3 : Cond.methodLink RX6 3 Lib.objectInit ∈ gw_s := gw_i2 33 rfl rfl
theorem cc_X6_18 : Cond.methodLink RX6 18 Lib.Math.max.name ∈ gw_s := gw_i3 214 rfl rfl
theorem cc_X6_24 : cv_k RX6 24 yX6_sumOf mX6_sumOf 2 6 := ⟨⟨Or.inl (gw_i3 215 rfl rfl), cw_X6_sumOf⟩, gw_i3 217 rfl rfl, gw_i0 57 rfl rfl, by decide, rfl⟩
theorem cc_X6_49 : cs_k RX6 49 yJ7_fill_53178 mJ7_fill_53178 2 := ⟨⟨Or.inl (gw_i3 227 rfl rfl), cw_J7_fill_53178⟩, gw_i2 97 rfl rfl⟩
theorem cc_X6_55 : cs_k RX6 55 yX11_isWithin mX11_isWithin 3 := ⟨⟨Or.inr ⟨"BlowOwed", nw_i3 228 rfl rfl⟩, cw_X11_isWithin⟩, gw_i2 90 rfl rfl⟩
theorem cc_X6_59 : cv_k RX6 59 yX6_ringThrough mX6_ringThrough 1 6 := ⟨⟨Or.inl (gw_i3 229 rfl rfl), cw_X6_ringThrough⟩, gw_i3 231 rfl rfl, gw_i0 59 rfl rfl, by decide, rfl⟩
theorem cc_X6_63 : Cond.methodLink RX6 63 Lib.Math.min.name ∈ gw_s := gw_i3 237 rfl rfl
theorem cc_X6_66 : cv_k RX6 66 yX6_nextOf mX6_nextOf 1 6 := ⟨⟨Or.inl (gw_i3 233 rfl rfl), cw_X6_nextOf⟩, gw_i3 235 rfl rfl, gw_i0 60 rfl rfl, by decide, rfl⟩
theorem cc_X7_3 : Cond.methodLink RX7 3 Lib.objectInit ∈ gw_s := gw_i1 31 rfl rfl
theorem cc_X7_19 : cv_k RX7 19 yX7_signAt mX7_signAt 1 7 := ⟨⟨Or.inl (gw_i2 191 rfl rfl), cw_X7_signAt⟩, gw_i2 193 rfl rfl, gw_i0 15 rfl rfl, by decide, rfl⟩
theorem cc_X7_23 : cv_k RX7 23 yX7_countGood mX7_countGood 2 7 := ⟨⟨Or.inl (gw_i2 187 rfl rfl), cw_X7_countGood⟩, gw_i2 189 rfl rfl, gw_i0 14 rfl rfl, by decide, rfl⟩
theorem cc_X7_27 : cv_k RX7 27 yX7_signsOfAct mX7_signsOfAct 1 7 := ⟨⟨Or.inl (gw_i2 210 rfl rfl), cw_X7_signsOfAct⟩, gw_i2 212 rfl rfl, gw_i0 18 rfl rfl, by decide, rfl⟩
theorem cc_X7_30 : cs_k RX7 30 yX7_isLetter mX7_isLetter 1 := ⟨⟨Or.inl (gw_i2 198 rfl rfl), cw_X7_isLetter⟩, gw_i2 199 rfl rfl⟩
theorem cc_X7_34 : cs_k RX7 34 yX7_daysOf mX7_daysOf 1 := ⟨⟨Or.inl (gw_i2 195 rfl rfl), cw_X7_daysOf⟩, gw_i2 196 rfl rfl⟩
theorem cc_X7_37 : cv_k RX7 37 yX7_countGoodDigits mX7_countGoodDigits 1 7 := ⟨⟨Or.inl (gw_i2 201 rfl rfl), cw_X7_countGoodDigits⟩, gw_i2 203 rfl rfl, gw_i0 16 rfl rfl, by decide, rfl⟩
theorem cc_X7_40 : cs_k RX7 40 yX11_isWithin mX11_isWithin 3 := ⟨⟨Or.inr ⟨"BlowOwed", nw_i2 205 rfl rfl⟩, cw_X11_isWithin⟩, gw_i2 90 rfl rfl⟩
theorem cc_X7_44 : cv_k RX7 44 yX7_numberAt mX7_numberAt 1 7 := ⟨⟨Or.inl (gw_i2 206 rfl rfl), cw_X7_numberAt⟩, gw_i2 208 rfl rfl, gw_i0 17 rfl rfl, by decide, rfl⟩
theorem cc_X8_3 : Cond.methodLink RX8 3 Lib.objectInit ∈ gw_s := gw_i2 46 rfl rfl
theorem cc_X8_15 : cs_k RX8 15 yJ7_fill_53178 mJ7_fill_53178 2 := ⟨⟨Or.inl (gw_i4 65 rfl rfl), cw_J7_fill_53178⟩, gw_i2 97 rfl rfl⟩
theorem cc_X8_21 : cv_k RX8 21 yX8_addStriker mX8_addStriker 2 8 := ⟨⟨Or.inl (gw_i4 66 rfl rfl), cw_X8_addStriker⟩, gw_i4 68 rfl rfl, gw_i0 63 rfl rfl, by decide, rfl⟩
theorem cc_X8_35 : cs_k RX8 35 yJ6_bitCount_0f7a4 mJ6_bitCount_0f7a4 1 := ⟨⟨Or.inl (gw_i4 70 rfl rfl), cw_J6_bitCount_0f7a4⟩, gw_i2 145 rfl rfl⟩
theorem cc_X8_52 : cv_k RX8 52 yX0_knightAt mX0_knightAt 1 0 := ⟨⟨Or.inr ⟨"BlowOwed", nw_i4 71 rfl rfl⟩, cw_X0_knightAt⟩, gw_i2 130 rfl rfl, gw_i0 5 rfl rfl, by decide, rfl⟩
theorem cc_X9_3 : Cond.methodLink RX9 3 Lib.objectInit ∈ gw_s := gw_i1 136 rfl rfl
theorem cc_X9_22 : Cond.methodLink RX9 22 arraycopyName ∈ gw_s := gw_i3 10 rfl rfl

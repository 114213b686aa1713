/-- a number that no step of the kernel unfolds -/
noncomputable def gk_fuel : Nat := Classical.choose (⟨3000, rfl⟩ : ∃ n : Nat, n = 3000)
theorem gk_fuel_eq : gk_fuel = 3000 := Classical.choose_spec (⟨3000, rfl⟩ : ∃ n : Nat, n = 3000)
theorem kc_b_m100 : (Int8.ofInt (-100)).toInt32 = (-100) := by decide
theorem kc_b_6 : (Int8.ofInt 6).toInt32 = 6 := by decide
theorem kc_b_7 : (Int8.ofInt 7).toInt32 = 7 := by decide
theorem kc_b_8 : (Int8.ofInt 8).toInt32 = 8 := by decide
theorem kc_b_9 : (Int8.ofInt 9).toInt32 = 9 := by decide
theorem kc_b_10 : (Int8.ofInt 10).toInt32 = 10 := by decide
theorem kc_b_11 : (Int8.ofInt 11).toInt32 = 11 := by decide
theorem kc_b_12 : (Int8.ofInt 12).toInt32 = 12 := by decide
theorem kc_b_13 : (Int8.ofInt 13).toInt32 = 13 := by decide
theorem kc_b_14 : (Int8.ofInt 14).toInt32 = 14 := by decide
theorem kc_b_15 : (Int8.ofInt 15).toInt32 = 15 := by decide
theorem kc_b_16 : (Int8.ofInt 16).toInt32 = 16 := by decide
theorem kc_b_20 : (Int8.ofInt 20).toInt32 = 20 := by decide
theorem kc_b_24 : (Int8.ofInt 24).toInt32 = 24 := by decide
theorem kc_b_30 : (Int8.ofInt 30).toInt32 = 30 := by decide
theorem kc_b_31 : (Int8.ofInt 31).toInt32 = 31 := by decide
theorem kc_b_40 : (Int8.ofInt 40).toInt32 = 40 := by decide
theorem kc_b_41 : (Int8.ofInt 41).toInt32 = 41 := by decide
theorem kc_b_50 : (Int8.ofInt 50).toInt32 = 50 := by decide
theorem kc_b_60 : (Int8.ofInt 60).toInt32 = 60 := by decide
theorem kc_b_63 : (Int8.ofInt 63).toInt32 = 63 := by decide
theorem kc_b_70 : (Int8.ofInt 70).toInt32 = 70 := by decide
theorem kc_b_80 : (Int8.ofInt 80).toInt32 = 80 := by decide
theorem kc_b_100 : (Int8.ofInt 100).toInt32 = 100 := by decide
theorem kc_b_127 : (Int8.ofInt 127).toInt32 = 127 := by decide
theorem kc_i_m1 : Int32.ofInt (-1) = (-1) := by decide
theorem kc_i_0 : Int32.ofInt 0 = 0 := by decide
theorem kc_i_1 : Int32.ofInt 1 = 1 := by decide
theorem kc_i_2 : Int32.ofInt 2 = 2 := by decide
theorem kc_i_3 : Int32.ofInt 3 = 3 := by decide
theorem kc_i_4 : Int32.ofInt 4 = 4 := by decide
theorem kc_i_5 : Int32.ofInt 5 = 5 := by decide
theorem kc_l_0 : Int64.ofNat ((0 : Fin 2) : Nat) = 0 := by decide
theorem kc_l_1 : Int64.ofNat ((1 : Fin 2) : Nat) = 1 := by decide
theorem kc_s_m1000 : (Int16.ofInt (-1000)).toInt32 = (-1000) := by decide
theorem kc_s_255 : (Int16.ofInt 255).toInt32 = 255 := by decide
theorem kc_s_256 : (Int16.ofInt 256).toInt32 = 256 := by decide
theorem kc_s_1000 : (Int16.ofInt 1000).toInt32 = 1000 := by decide
theorem kc_s_2000 : (Int16.ofInt 2000).toInt32 = 2000 := by decide
theorem kc_s_3000 : (Int16.ofInt 3000).toInt32 = 3000 := by decide
theorem kc_s_4000 : (Int16.ofInt 4000).toInt32 = 4000 := by decide
set_option maxRecDepth 20000 in
theorem fl_RX7_17 : gk_FL RX7 17 17 0 12 := ⟨RX7, TX7, 10, rfl, by decide, by decide, by decide, by decide, gk_t2 (List.mem_of_getElem? (i := 34) rfl) rfl⟩
set_option maxRecDepth 20000 in
theorem fl_RX7_21 : gk_FL RX7 21 17 1 12 := ⟨RX7, TX7, 10, rfl, by decide, by decide, by decide, by decide, gk_t2 (List.mem_of_getElem? (i := 35) rfl) rfl⟩
set_option maxRecDepth 20000 in
theorem fl_RX7_27 : gk_FL RX7 27 17 2 13 := ⟨RX7, TX7, 10, rfl, by decide, by decide, by decide, by decide, gk_t2 (List.mem_of_getElem? (i := 36) rfl) rfl⟩
set_option maxRecDepth 20000 in
theorem fl_RX7_34 : gk_FL RX7 34 17 3 10 := ⟨RX7, TX7, 10, rfl, by decide, by decide, by decide, by decide, gk_t2 (List.mem_of_getElem? (i := 37) rfl) rfl⟩
set_option maxRecDepth 20000 in
theorem fl_RX7_41 : gk_FL RX7 41 17 4 14 := ⟨RX7, TX7, 10, rfl, by decide, by decide, by decide, by decide, gk_t2 (List.mem_of_getElem? (i := 38) rfl) rfl⟩
set_option maxRecDepth 20000 in
theorem fl_RX7_45 : gk_FL RX7 45 17 5 100 := ⟨RX7, TX7, 10, rfl, by decide, by decide, by decide, by decide, gk_t2 (List.mem_of_getElem? (i := 39) rfl) rfl⟩
set_option maxRecDepth 20000 in
theorem fl_RX7_49 : gk_FL RX7 49 12 7 0 := ⟨RX2, TX2, 11, rfl, by decide, by decide, by decide, by decide, gk_t1 (List.mem_of_getElem? (i := 161) rfl) rfl⟩
set_option maxRecDepth 20000 in
theorem fl_RX7_64 : gk_FL RX7 64 12 0 16 := ⟨RX2, TX2, 11, rfl, by decide, by decide, by decide, by decide, gk_t1 (List.mem_of_getElem? (i := 147) rfl) rfl⟩
set_option maxRecDepth 20000 in
theorem fl_RX7_80 : gk_FL RX7 80 16 0 102 := ⟨RX6, TX6, 2, rfl, by decide, by decide, by decide, by decide, gk_t1 (List.mem_of_getElem? (i := 74) rfl) rfl⟩
set_option maxRecDepth 20000 in
theorem fl_RX7_84 : gk_FL RX7 84 15 5 2 := ⟨RX5, TX5, 6, rfl, by decide, by decide, by decide, by decide, gk_t1 (List.mem_of_getElem? (i := 58) rfl) rfl⟩
set_option maxRecDepth 20000 in
theorem fl_RX7_93 : gk_FL RX7 93 15 2 0 := ⟨RX5, TX5, 6, rfl, by decide, by decide, by decide, by decide, gk_t1 (List.mem_of_getElem? (i := 47) rfl) rfl⟩
set_option maxRecDepth 20000 in
theorem fl_RX7_121 : gk_FL RX7 121 12 10 0 := ⟨RX2, TX2, 11, rfl, by decide, by decide, by decide, by decide, gk_t1 (List.mem_of_getElem? (i := 168) rfl) rfl⟩
set_option maxRecDepth 20000 in
theorem fl_RX7_134 : gk_FL RX7 134 17 7 2 := ⟨RX7, TX7, 10, rfl, by decide, by decide, by decide, by decide, gk_t2 (List.mem_of_getElem? (i := 41) rfl) rfl⟩
set_option maxRecDepth 20000 in
theorem fl_RX7_137 : gk_FL RX7 137 17 8 0 := ⟨RX7, TX7, 10, rfl, by decide, by decide, by decide, by decide, gk_t2 (List.mem_of_getElem? (i := 42) rfl) rfl⟩
set_option maxRecDepth 20000 in
theorem fl_RX7_140 : gk_FL RX7 140 15 0 0 := ⟨RX5, TX5, 6, rfl, by decide, by decide, by decide, by decide, gk_t1 (List.mem_of_getElem? (i := 38) rfl) rfl⟩
set_option maxRecDepth 20000 in
theorem fl_RX7_143 : gk_FL RX7 143 15 1 0 := ⟨RX5, TX5, 6, rfl, by decide, by decide, by decide, by decide, gk_t1 (List.mem_of_getElem? (i := 42) rfl) rfl⟩
set_option maxRecDepth 20000 in
theorem fl_RX7_146 : gk_FL RX7 146 15 3 0 := ⟨RX5, TX5, 6, rfl, by decide, by decide, by decide, by decide, gk_t1 (List.mem_of_getElem? (i := 52) rfl) rfl⟩
set_option maxRecDepth 20000 in
theorem fl_RX7_149 : gk_FL RX7 149 15 4 0 := ⟨RX5, TX5, 6, rfl, by decide, by decide, by decide, by decide, gk_t1 (List.mem_of_getElem? (i := 56) rfl) rfl⟩
set_option maxRecDepth 20000 in
theorem fl_RX7_152 : gk_FL RX7 152 12 2 100 := ⟨RX2, TX2, 11, rfl, by decide, by decide, by decide, by decide, gk_t1 (List.mem_of_getElem? (i := 151) rfl) rfl⟩
set_option maxRecDepth 20000 in
theorem fl_RX7_155 : gk_FL RX7 155 12 3 100 := ⟨RX2, TX2, 11, rfl, by decide, by decide, by decide, by decide, gk_t1 (List.mem_of_getElem? (i := 153) rfl) rfl⟩
set_option maxRecDepth 20000 in
theorem fl_RX7_158 : gk_FL RX7 158 12 4 100 := ⟨RX2, TX2, 11, rfl, by decide, by decide, by decide, by decide, gk_t1 (List.mem_of_getElem? (i := 155) rfl) rfl⟩
set_option maxRecDepth 20000 in
theorem fl_RX7_170 : gk_FL RX7 170 12 1 101 := ⟨RX2, TX2, 11, rfl, by decide, by decide, by decide, by decide, gk_t1 (List.mem_of_getElem? (i := 149) rfl) rfl⟩
set_option maxRecDepth 20000 in
theorem fl_RX7_174 : gk_FL RX7 174 11 0 0 := ⟨RX1, TX1, 11, rfl, by decide, by decide, by decide, by decide, gk_t1 (List.mem_of_getElem? (i := 97) rfl) rfl⟩
set_option maxRecDepth 20000 in
theorem fl_RX7_179 : gk_FL RX7 179 11 1 0 := ⟨RX1, TX1, 11, rfl, by decide, by decide, by decide, by decide, gk_t1 (List.mem_of_getElem? (i := 100) rfl) rfl⟩
set_option maxRecDepth 20000 in
theorem fl_RX7_182 : gk_FL RX7 182 11 2 0 := ⟨RX1, TX1, 11, rfl, by decide, by decide, by decide, by decide, gk_t1 (List.mem_of_getElem? (i := 102) rfl) rfl⟩
set_option maxRecDepth 20000 in
theorem fl_RX7_185 : gk_FL RX7 185 11 3 0 := ⟨RX1, TX1, 11, rfl, by decide, by decide, by decide, by decide, gk_t1 (List.mem_of_getElem? (i := 106) rfl) rfl⟩
set_option maxRecDepth 20000 in
theorem fl_RX7_188 : gk_FL RX7 188 11 4 0 := ⟨RX1, TX1, 11, rfl, by decide, by decide, by decide, by decide, gk_t1 (List.mem_of_getElem? (i := 109) rfl) rfl⟩
set_option maxRecDepth 20000 in
theorem fl_RX7_191 : gk_FL RX7 191 11 5 0 := ⟨RX1, TX1, 11, rfl, by decide, by decide, by decide, by decide, gk_t1 (List.mem_of_getElem? (i := 112) rfl) rfl⟩
set_option maxRecDepth 20000 in
theorem fl_RX7_194 : gk_FL RX7 194 11 6 0 := ⟨RX1, TX1, 11, rfl, by decide, by decide, by decide, by decide, gk_t1 (List.mem_of_getElem? (i := 115) rfl) rfl⟩
set_option maxRecDepth 20000 in
theorem fl_RX7_197 : gk_FL RX7 197 11 7 0 := ⟨RX1, TX1, 11, rfl, by decide, by decide, by decide, by decide, gk_t1 (List.mem_of_getElem? (i := 117) rfl) rfl⟩
set_option maxRecDepth 20000 in
theorem fl_RX7_213 : gk_FL RX7 213 12 9 0 := ⟨RX2, TX2, 11, rfl, by decide, by decide, by decide, by decide, gk_t1 (List.mem_of_getElem? (i := 166) rfl) rfl⟩
set_option maxRecDepth 20000 in
theorem fl_RX7_216 : gk_FL RX7 216 12 5 100 := ⟨RX2, TX2, 11, rfl, by decide, by decide, by decide, by decide, gk_t1 (List.mem_of_getElem? (i := 157) rfl) rfl⟩
set_option maxRecDepth 20000 in
theorem fl_RX7_219 : gk_FL RX7 219 12 6 100 := ⟨RX2, TX2, 11, rfl, by decide, by decide, by decide, by decide, gk_t1 (List.mem_of_getElem? (i := 159) rfl) rfl⟩
set_option maxRecDepth 20000 in
theorem fl_RX7_232 : gk_FL RX7 232 17 6 0 := ⟨RX7, TX7, 10, rfl, by decide, by decide, by decide, by decide, gk_t2 (List.mem_of_getElem? (i := 40) rfl) rfl⟩
set_option maxRecDepth 20000 in
theorem fl_RX7_235 : gk_FL RX7 235 13 3 100 := ⟨RX3, TX3, 8, rfl, by decide, by decide, by decide, by decide, gk_t1 (List.mem_of_getElem? (i := 208) rfl) rfl⟩
set_option maxRecDepth 20000 in
theorem fl_RX7_244 : gk_FL RX7 244 16 1 0 := ⟨RX6, TX6, 2, rfl, by decide, by decide, by decide, by decide, gk_t1 (List.mem_of_getElem? (i := 78) rfl) rfl⟩
set_option maxRecDepth 20000 in
theorem fl_RX7_250 : gk_FL RX7 250 13 0 16 := ⟨RX3, TX3, 8, rfl, by decide, by decide, by decide, by decide, gk_t1 (List.mem_of_getElem? (i := 204) rfl) rfl⟩
set_option maxRecDepth 20000 in
theorem fl_RX7_258 : gk_FL RX7 258 12 8 0 := ⟨RX2, TX2, 11, rfl, by decide, by decide, by decide, by decide, gk_t1 (List.mem_of_getElem? (i := 164) rfl) rfl⟩
set_option maxRecDepth 20000 in
theorem fl_RX7_265 : gk_FL RX7 265 10 1 0 := ⟨RX0, TX0, 6, rfl, by decide, by decide, by decide, by decide, gk_t1 (List.mem_of_getElem? (i := 239) rfl) rfl⟩
set_option maxRecDepth 20000 in
theorem fl_RX7_272 : gk_FL RX7 272 10 0 100 := ⟨RX0, TX0, 6, rfl, by decide, by decide, by decide, by decide, gk_t1 (List.mem_of_getElem? (i := 237) rfl) rfl⟩
set_option maxRecDepth 20000 in
theorem fl_RX7_295 : gk_FL RX7 295 14 0 100 := ⟨RX4, TX4, 3, rfl, by decide, by decide, by decide, by decide, gk_t2 (List.mem_of_getElem? (i := 24) rfl) rfl⟩
set_option maxRecDepth 20000 in
theorem fl_RX7_318 : gk_FL RX7 318 17 9 0 := ⟨RX7, TX7, 10, rfl, by decide, by decide, by decide, by decide, gk_t2 (List.mem_of_getElem? (i := 43) rfl) rfl⟩
set_option maxRecDepth 20000 in
theorem fl_RX0_9 : gk_FL RX0 9 10 0 100 := ⟨RX0, TX0, 6, rfl, by decide, by decide, by decide, by decide, gk_t1 (List.mem_of_getElem? (i := 236) rfl) rfl⟩
set_option maxRecDepth 20000 in
theorem fl_RX0_15 : gk_FL RX0 15 10 1 0 := ⟨RX0, TX0, 6, rfl, by decide, by decide, by decide, by decide, gk_t1 (List.mem_of_getElem? (i := 238) rfl) rfl⟩
set_option maxRecDepth 20000 in
theorem fl_RX0_19 : gk_FL RX0 19 15 1 0 := ⟨RX5, TX5, 6, rfl, by decide, by decide, by decide, by decide, gk_t1 (List.mem_of_getElem? (i := 39) rfl) rfl⟩
set_option maxRecDepth 20000 in
theorem fl_RX0_24 : gk_FL RX0 24 10 2 0 := ⟨RX0, TX0, 6, rfl, by decide, by decide, by decide, by decide, gk_t2 (List.mem_of_getElem? (i := 0) rfl) rfl⟩
set_option maxRecDepth 20000 in
theorem fl_RX0_27 : gk_FL RX0 27 10 3 0 := ⟨RX0, TX0, 6, rfl, by decide, by decide, by decide, by decide, gk_t2 (List.mem_of_getElem? (i := 1) rfl) rfl⟩
set_option maxRecDepth 20000 in
theorem fl_RX0_30 : gk_FL RX0 30 15 2 0 := ⟨RX5, TX5, 6, rfl, by decide, by decide, by decide, by decide, gk_t1 (List.mem_of_getElem? (i := 45) rfl) rfl⟩
set_option maxRecDepth 20000 in
theorem fl_RX0_33 : gk_FL RX0 33 10 4 0 := ⟨RX0, TX0, 6, rfl, by decide, by decide, by decide, by decide, gk_t2 (List.mem_of_getElem? (i := 2) rfl) rfl⟩
set_option maxRecDepth 20000 in
theorem fl_RX0_36 : gk_FL RX0 36 15 3 0 := ⟨RX5, TX5, 6, rfl, by decide, by decide, by decide, by decide, gk_t1 (List.mem_of_getElem? (i := 50) rfl) rfl⟩
set_option maxRecDepth 20000 in
theorem fl_RX0_39 : gk_FL RX0 39 10 5 0 := ⟨RX0, TX0, 6, rfl, by decide, by decide, by decide, by decide, gk_t2 (List.mem_of_getElem? (i := 3) rfl) rfl⟩
set_option maxRecDepth 20000 in
theorem fl_RX1_9 : gk_FL RX1 9 11 0 0 := ⟨RX1, TX1, 11, rfl, by decide, by decide, by decide, by decide, gk_t1 (List.mem_of_getElem? (i := 95) rfl) rfl⟩
set_option maxRecDepth 20000 in
theorem fl_RX1_15 : gk_FL RX1 15 11 1 0 := ⟨RX1, TX1, 11, rfl, by decide, by decide, by decide, by decide, gk_t1 (List.mem_of_getElem? (i := 98) rfl) rfl⟩
set_option maxRecDepth 20000 in
theorem fl_RX1_18 : gk_FL RX1 18 11 2 0 := ⟨RX1, TX1, 11, rfl, by decide, by decide, by decide, by decide, gk_t1 (List.mem_of_getElem? (i := 101) rfl) rfl⟩
set_option maxRecDepth 20000 in
theorem fl_RX1_21 : gk_FL RX1 21 11 3 0 := ⟨RX1, TX1, 11, rfl, by decide, by decide, by decide, by decide, gk_t1 (List.mem_of_getElem? (i := 104) rfl) rfl⟩
set_option maxRecDepth 20000 in
theorem fl_RX1_24 : gk_FL RX1 24 11 4 0 := ⟨RX1, TX1, 11, rfl, by decide, by decide, by decide, by decide, gk_t1 (List.mem_of_getElem? (i := 107) rfl) rfl⟩
set_option maxRecDepth 20000 in
theorem fl_RX1_27 : gk_FL RX1 27 11 5 0 := ⟨RX1, TX1, 11, rfl, by decide, by decide, by decide, by decide, gk_t1 (List.mem_of_getElem? (i := 110) rfl) rfl⟩
set_option maxRecDepth 20000 in
theorem fl_RX1_30 : gk_FL RX1 30 11 6 0 := ⟨RX1, TX1, 11, rfl, by decide, by decide, by decide, by decide, gk_t1 (List.mem_of_getElem? (i := 113) rfl) rfl⟩
set_option maxRecDepth 20000 in
theorem fl_RX1_33 : gk_FL RX1 33 11 7 0 := ⟨RX1, TX1, 11, rfl, by decide, by decide, by decide, by decide, gk_t1 (List.mem_of_getElem? (i := 116) rfl) rfl⟩
set_option maxRecDepth 20000 in
theorem fl_RX1_36 : gk_FL RX1 36 11 8 0 := ⟨RX1, TX1, 11, rfl, by decide, by decide, by decide, by decide, gk_t1 (List.mem_of_getElem? (i := 118) rfl) rfl⟩
set_option maxRecDepth 20000 in
theorem fl_RX1_39 : gk_FL RX1 39 11 9 0 := ⟨RX1, TX1, 11, rfl, by decide, by decide, by decide, by decide, gk_t1 (List.mem_of_getElem? (i := 119) rfl) rfl⟩
set_option maxRecDepth 20000 in
theorem fl_RX1_42 : gk_FL RX1 42 11 10 1 := ⟨RX1, TX1, 11, rfl, by decide, by decide, by decide, by decide, gk_t1 (List.mem_of_getElem? (i := 120) rfl) rfl⟩
set_option maxRecDepth 20000 in
theorem fl_RX2_9 : gk_FL RX2 9 12 2 100 := ⟨RX2, TX2, 11, rfl, by decide, by decide, by decide, by decide, gk_t1 (List.mem_of_getElem? (i := 150) rfl) rfl⟩
set_option maxRecDepth 20000 in
theorem fl_RX2_15 : gk_FL RX2 15 12 3 100 := ⟨RX2, TX2, 11, rfl, by decide, by decide, by decide, by decide, gk_t1 (List.mem_of_getElem? (i := 152) rfl) rfl⟩
set_option maxRecDepth 20000 in
theorem fl_RX2_18 : gk_FL RX2 18 12 4 100 := ⟨RX2, TX2, 11, rfl, by decide, by decide, by decide, by decide, gk_t1 (List.mem_of_getElem? (i := 154) rfl) rfl⟩
set_option maxRecDepth 20000 in
theorem fl_RX2_21 : gk_FL RX2 21 12 5 100 := ⟨RX2, TX2, 11, rfl, by decide, by decide, by decide, by decide, gk_t1 (List.mem_of_getElem? (i := 156) rfl) rfl⟩
set_option maxRecDepth 20000 in
theorem fl_RX2_24 : gk_FL RX2 24 12 6 100 := ⟨RX2, TX2, 11, rfl, by decide, by decide, by decide, by decide, gk_t1 (List.mem_of_getElem? (i := 158) rfl) rfl⟩
set_option maxRecDepth 20000 in
theorem fl_RX2_27 : gk_FL RX2 27 12 0 16 := ⟨RX2, TX2, 11, rfl, by decide, by decide, by decide, by decide, gk_t1 (List.mem_of_getElem? (i := 145) rfl) rfl⟩
set_option maxRecDepth 20000 in
theorem fl_RX2_33 : gk_FL RX2 33 12 1 101 := ⟨RX2, TX2, 11, rfl, by decide, by decide, by decide, by decide, gk_t1 (List.mem_of_getElem? (i := 148) rfl) rfl⟩
set_option maxRecDepth 20000 in
theorem fl_RX2_38 : gk_FL RX2 38 12 7 0 := ⟨RX2, TX2, 11, rfl, by decide, by decide, by decide, by decide, gk_t1 (List.mem_of_getElem? (i := 160) rfl) rfl⟩
set_option maxRecDepth 20000 in
theorem fl_RX2_42 : gk_FL RX2 42 12 8 0 := ⟨RX2, TX2, 11, rfl, by decide, by decide, by decide, by decide, gk_t1 (List.mem_of_getElem? (i := 163) rfl) rfl⟩
set_option maxRecDepth 20000 in
theorem fl_RX2_51 : gk_FL RX2 51 12 9 0 := ⟨RX2, TX2, 11, rfl, by decide, by decide, by decide, by decide, gk_t1 (List.mem_of_getElem? (i := 165) rfl) rfl⟩
set_option maxRecDepth 20000 in
theorem fl_RX2_54 : gk_FL RX2 54 12 10 0 := ⟨RX2, TX2, 11, rfl, by decide, by decide, by decide, by decide, gk_t1 (List.mem_of_getElem? (i := 167) rfl) rfl⟩
set_option maxRecDepth 20000 in
theorem fl_RX2_65 : gk_FL RX2 65 11 4 0 := ⟨RX1, TX1, 11, rfl, by decide, by decide, by decide, by decide, gk_t1 (List.mem_of_getElem? (i := 108) rfl) rfl⟩
set_option maxRecDepth 20000 in
theorem fl_RX2_71 : gk_FL RX2 71 11 1 0 := ⟨RX1, TX1, 11, rfl, by decide, by decide, by decide, by decide, gk_t1 (List.mem_of_getElem? (i := 99) rfl) rfl⟩
set_option maxRecDepth 20000 in
theorem fl_RX2_74 : gk_FL RX2 74 11 5 0 := ⟨RX1, TX1, 11, rfl, by decide, by decide, by decide, by decide, gk_t1 (List.mem_of_getElem? (i := 111) rfl) rfl⟩
set_option maxRecDepth 20000 in
theorem fl_RX2_77 : gk_FL RX2 77 11 0 0 := ⟨RX1, TX1, 11, rfl, by decide, by decide, by decide, by decide, gk_t1 (List.mem_of_getElem? (i := 96) rfl) rfl⟩
set_option maxRecDepth 20000 in
theorem fl_RX2_107 : gk_FL RX2 107 11 6 0 := ⟨RX1, TX1, 11, rfl, by decide, by decide, by decide, by decide, gk_t1 (List.mem_of_getElem? (i := 114) rfl) rfl⟩
set_option maxRecDepth 20000 in
theorem fl_RX2_110 : gk_FL RX2 110 11 3 0 := ⟨RX1, TX1, 11, rfl, by decide, by decide, by decide, by decide, gk_t1 (List.mem_of_getElem? (i := 105) rfl) rfl⟩
set_option maxRecDepth 20000 in
theorem fl_RX2_123 : gk_FL RX2 123 16 0 102 := ⟨RX6, TX6, 2, rfl, by decide, by decide, by decide, by decide, gk_t1 (List.mem_of_getElem? (i := 75) rfl) rfl⟩
set_option maxRecDepth 20000 in
theorem fl_RX2_127 : gk_FL RX2 127 15 3 0 := ⟨RX5, TX5, 6, rfl, by decide, by decide, by decide, by decide, gk_t1 (List.mem_of_getElem? (i := 53) rfl) rfl⟩
set_option maxRecDepth 20000 in
theorem fl_RX2_181 : gk_FL RX2 181 15 1 0 := ⟨RX5, TX5, 6, rfl, by decide, by decide, by decide, by decide, gk_t1 (List.mem_of_getElem? (i := 43) rfl) rfl⟩
set_option maxRecDepth 20000 in
theorem fl_RX2_184 : gk_FL RX2 184 16 1 0 := ⟨RX6, TX6, 2, rfl, by decide, by decide, by decide, by decide, gk_t1 (List.mem_of_getElem? (i := 77) rfl) rfl⟩
set_option maxRecDepth 20000 in
theorem fl_RX2_198 : gk_FL RX2 198 15 2 0 := ⟨RX5, TX5, 6, rfl, by decide, by decide, by decide, by decide, gk_t1 (List.mem_of_getElem? (i := 48) rfl) rfl⟩
set_option maxRecDepth 20000 in
theorem fl_RX3_12 : gk_FL RX3 12 13 0 16 := ⟨RX3, TX3, 8, rfl, by decide, by decide, by decide, by decide, gk_t1 (List.mem_of_getElem? (i := 203) rfl) rfl⟩
set_option maxRecDepth 20000 in
theorem fl_RX3_20 : gk_FL RX3 20 13 1 103 := ⟨RX3, TX3, 8, rfl, by decide, by decide, by decide, by decide, gk_t1 (List.mem_of_getElem? (i := 205) rfl) rfl⟩
set_option maxRecDepth 20000 in
theorem fl_RX3_24 : gk_FL RX3 24 13 2 100 := ⟨RX3, TX3, 8, rfl, by decide, by decide, by decide, by decide, gk_t1 (List.mem_of_getElem? (i := 206) rfl) rfl⟩
set_option maxRecDepth 20000 in
theorem fl_RX3_28 : gk_FL RX3 28 13 3 100 := ⟨RX3, TX3, 8, rfl, by decide, by decide, by decide, by decide, gk_t1 (List.mem_of_getElem? (i := 207) rfl) rfl⟩
set_option maxRecDepth 20000 in
theorem fl_RX3_34 : gk_FL RX3 34 12 0 16 := ⟨RX2, TX2, 11, rfl, by decide, by decide, by decide, by decide, gk_t1 (List.mem_of_getElem? (i := 146) rfl) rfl⟩
set_option maxRecDepth 20000 in
theorem fl_RX3_39 : gk_FL RX3 39 12 7 0 := ⟨RX2, TX2, 11, rfl, by decide, by decide, by decide, by decide, gk_t1 (List.mem_of_getElem? (i := 162) rfl) rfl⟩
set_option maxRecDepth 20000 in
theorem fl_RX3_43 : gk_FL RX3 43 13 5 0 := ⟨RX3, TX3, 8, rfl, by decide, by decide, by decide, by decide, gk_t1 (List.mem_of_getElem? (i := 210) rfl) rfl⟩
set_option maxRecDepth 20000 in
theorem fl_RX3_46 : gk_FL RX3 46 13 6 0 := ⟨RX3, TX3, 8, rfl, by decide, by decide, by decide, by decide, gk_t1 (List.mem_of_getElem? (i := 211) rfl) rfl⟩
set_option maxRecDepth 20000 in
theorem fl_RX3_49 : gk_FL RX3 49 13 7 0 := ⟨RX3, TX3, 8, rfl, by decide, by decide, by decide, by decide, gk_t1 (List.mem_of_getElem? (i := 212) rfl) rfl⟩
set_option maxRecDepth 20000 in
theorem fl_RX3_52 : gk_FL RX3 52 13 4 0 := ⟨RX3, TX3, 8, rfl, by decide, by decide, by decide, by decide, gk_t1 (List.mem_of_getElem? (i := 209) rfl) rfl⟩
set_option maxRecDepth 20000 in
theorem fl_RX4_9 : gk_FL RX4 9 14 0 100 := ⟨RX4, TX4, 3, rfl, by decide, by decide, by decide, by decide, gk_t2 (List.mem_of_getElem? (i := 23) rfl) rfl⟩
set_option maxRecDepth 20000 in
theorem fl_RX4_15 : gk_FL RX4 15 14 1 100 := ⟨RX4, TX4, 3, rfl, by decide, by decide, by decide, by decide, gk_t2 (List.mem_of_getElem? (i := 25) rfl) rfl⟩
set_option maxRecDepth 20000 in
theorem fl_RX4_18 : gk_FL RX4 18 14 2 100 := ⟨RX4, TX4, 3, rfl, by decide, by decide, by decide, by decide, gk_t2 (List.mem_of_getElem? (i := 26) rfl) rfl⟩
set_option maxRecDepth 20000 in
theorem fl_RX5_9 : gk_FL RX5 9 15 0 0 := ⟨RX5, TX5, 6, rfl, by decide, by decide, by decide, by decide, gk_t1 (List.mem_of_getElem? (i := 36) rfl) rfl⟩
set_option maxRecDepth 20000 in
theorem fl_RX5_15 : gk_FL RX5 15 15 1 0 := ⟨RX5, TX5, 6, rfl, by decide, by decide, by decide, by decide, gk_t1 (List.mem_of_getElem? (i := 40) rfl) rfl⟩
set_option maxRecDepth 20000 in
theorem fl_RX5_18 : gk_FL RX5 18 15 2 0 := ⟨RX5, TX5, 6, rfl, by decide, by decide, by decide, by decide, gk_t1 (List.mem_of_getElem? (i := 44) rfl) rfl⟩
set_option maxRecDepth 20000 in
theorem fl_RX5_21 : gk_FL RX5 21 15 3 0 := ⟨RX5, TX5, 6, rfl, by decide, by decide, by decide, by decide, gk_t1 (List.mem_of_getElem? (i := 49) rfl) rfl⟩
set_option maxRecDepth 20000 in
theorem fl_RX5_24 : gk_FL RX5 24 15 4 0 := ⟨RX5, TX5, 6, rfl, by decide, by decide, by decide, by decide, gk_t1 (List.mem_of_getElem? (i := 54) rfl) rfl⟩
set_option maxRecDepth 20000 in
theorem fl_RX5_27 : gk_FL RX5 27 15 5 2 := ⟨RX5, TX5, 6, rfl, by decide, by decide, by decide, by decide, gk_t1 (List.mem_of_getElem? (i := 57) rfl) rfl⟩
set_option maxRecDepth 20000 in
theorem fl_RX6_11 : gk_FL RX6 11 16 0 102 := ⟨RX6, TX6, 2, rfl, by decide, by decide, by decide, by decide, gk_t1 (List.mem_of_getElem? (i := 73) rfl) rfl⟩
set_option maxRecDepth 20000 in
theorem fl_RX6_18 : gk_FL RX6 18 16 1 0 := ⟨RX6, TX6, 2, rfl, by decide, by decide, by decide, by decide, gk_t1 (List.mem_of_getElem? (i := 76) rfl) rfl⟩
set_option maxRecDepth 20000 in
theorem fl_RX6_30 : gk_FL RX6 30 15 0 0 := ⟨RX5, TX5, 6, rfl, by decide, by decide, by decide, by decide, gk_t1 (List.mem_of_getElem? (i := 37) rfl) rfl⟩
set_option maxRecDepth 20000 in
theorem fl_RX6_33 : gk_FL RX6 33 15 1 0 := ⟨RX5, TX5, 6, rfl, by decide, by decide, by decide, by decide, gk_t1 (List.mem_of_getElem? (i := 41) rfl) rfl⟩
set_option maxRecDepth 20000 in
theorem fl_RX6_36 : gk_FL RX6 36 15 2 0 := ⟨RX5, TX5, 6, rfl, by decide, by decide, by decide, by decide, gk_t1 (List.mem_of_getElem? (i := 46) rfl) rfl⟩
set_option maxRecDepth 20000 in
theorem fl_RX6_39 : gk_FL RX6 39 15 3 0 := ⟨RX5, TX5, 6, rfl, by decide, by decide, by decide, by decide, gk_t1 (List.mem_of_getElem? (i := 51) rfl) rfl⟩
set_option maxRecDepth 20000 in
theorem fl_RX6_42 : gk_FL RX6 42 15 4 0 := ⟨RX5, TX5, 6, rfl, by decide, by decide, by decide, by decide, gk_t1 (List.mem_of_getElem? (i := 55) rfl) rfl⟩
set_option maxRecDepth 20000 in
theorem fl_RX6_45 : gk_FL RX6 45 15 5 2 := ⟨RX5, TX5, 6, rfl, by decide, by decide, by decide, by decide, gk_t1 (List.mem_of_getElem? (i := 59) rfl) rfl⟩
set_option maxRecDepth 20000 in
theorem fl_RX8_7 : gk_FL RX8 7 18 0 100 := ⟨RX8, TX8, 40, rfl, by decide, by decide, by decide, by decide, gk_t4 (List.mem_of_getElem? (i := 59) rfl) rfl⟩
set_option maxRecDepth 20000 in
theorem fl_RX8_13 : gk_FL RX8 13 18 1 100 := ⟨RX8, TX8, 40, rfl, by decide, by decide, by decide, by decide, gk_t4 (List.mem_of_getElem? (i := 60) rfl) rfl⟩
set_option maxRecDepth 20000 in
theorem fl_RX8_16 : gk_FL RX8 16 18 2 100 := ⟨RX8, TX8, 40, rfl, by decide, by decide, by decide, by decide, gk_t4 (List.mem_of_getElem? (i := 61) rfl) rfl⟩
set_option maxRecDepth 20000 in
theorem fl_RX8_19 : gk_FL RX8 19 18 3 100 := ⟨RX8, TX8, 40, rfl, by decide, by decide, by decide, by decide, gk_t4 (List.mem_of_getElem? (i := 62) rfl) rfl⟩
set_option maxRecDepth 20000 in
theorem fl_RX8_22 : gk_FL RX8 22 18 4 100 := ⟨RX8, TX8, 40, rfl, by decide, by decide, by decide, by decide, gk_t4 (List.mem_of_getElem? (i := 63) rfl) rfl⟩
set_option maxRecDepth 20000 in
theorem fl_RX8_25 : gk_FL RX8 25 18 5 100 := ⟨RX8, TX8, 40, rfl, by decide, by decide, by decide, by decide, gk_t4 (List.mem_of_getElem? (i := 64) rfl) rfl⟩
set_option maxRecDepth 20000 in
theorem fl_RX8_28 : gk_FL RX8 28 18 6 100 := ⟨RX8, TX8, 40, rfl, by decide, by decide, by decide, by decide, gk_t4 (List.mem_of_getElem? (i := 65) rfl) rfl⟩
set_option maxRecDepth 20000 in
theorem fl_RX8_31 : gk_FL RX8 31 18 7 100 := ⟨RX8, TX8, 40, rfl, by decide, by decide, by decide, by decide, gk_t4 (List.mem_of_getElem? (i := 66) rfl) rfl⟩
set_option maxRecDepth 20000 in
theorem fl_RX8_34 : gk_FL RX8 34 18 8 100 := ⟨RX8, TX8, 40, rfl, by decide, by decide, by decide, by decide, gk_t4 (List.mem_of_getElem? (i := 67) rfl) rfl⟩
set_option maxRecDepth 20000 in
theorem fl_RX8_37 : gk_FL RX8 37 18 9 100 := ⟨RX8, TX8, 40, rfl, by decide, by decide, by decide, by decide, gk_t4 (List.mem_of_getElem? (i := 68) rfl) rfl⟩
set_option maxRecDepth 20000 in
theorem fl_RX8_40 : gk_FL RX8 40 18 10 100 := ⟨RX8, TX8, 40, rfl, by decide, by decide, by decide, by decide, gk_t4 (List.mem_of_getElem? (i := 69) rfl) rfl⟩
set_option maxRecDepth 20000 in
theorem fl_RX8_43 : gk_FL RX8 43 18 11 100 := ⟨RX8, TX8, 40, rfl, by decide, by decide, by decide, by decide, gk_t4 (List.mem_of_getElem? (i := 70) rfl) rfl⟩
set_option maxRecDepth 20000 in
theorem fl_RX8_46 : gk_FL RX8 46 18 12 100 := ⟨RX8, TX8, 40, rfl, by decide, by decide, by decide, by decide, gk_t4 (List.mem_of_getElem? (i := 71) rfl) rfl⟩
set_option maxRecDepth 20000 in
theorem fl_RX8_49 : gk_FL RX8 49 18 13 100 := ⟨RX8, TX8, 40, rfl, by decide, by decide, by decide, by decide, gk_t4 (List.mem_of_getElem? (i := 72) rfl) rfl⟩
set_option maxRecDepth 20000 in
theorem fl_RX8_52 : gk_FL RX8 52 18 14 100 := ⟨RX8, TX8, 40, rfl, by decide, by decide, by decide, by decide, gk_t4 (List.mem_of_getElem? (i := 73) rfl) rfl⟩
set_option maxRecDepth 20000 in
theorem fl_RX8_55 : gk_FL RX8 55 18 15 100 := ⟨RX8, TX8, 40, rfl, by decide, by decide, by decide, by decide, gk_t4 (List.mem_of_getElem? (i := 74) rfl) rfl⟩
set_option maxRecDepth 20000 in
theorem fl_RX8_58 : gk_FL RX8 58 18 16 100 := ⟨RX8, TX8, 40, rfl, by decide, by decide, by decide, by decide, gk_t4 (List.mem_of_getElem? (i := 75) rfl) rfl⟩
set_option maxRecDepth 20000 in
theorem fl_RX8_61 : gk_FL RX8 61 18 17 100 := ⟨RX8, TX8, 40, rfl, by decide, by decide, by decide, by decide, gk_t4 (List.mem_of_getElem? (i := 76) rfl) rfl⟩
set_option maxRecDepth 20000 in
theorem fl_RX8_64 : gk_FL RX8 64 18 18 100 := ⟨RX8, TX8, 40, rfl, by decide, by decide, by decide, by decide, gk_t4 (List.mem_of_getElem? (i := 77) rfl) rfl⟩
set_option maxRecDepth 20000 in
theorem fl_RX8_67 : gk_FL RX8 67 18 19 100 := ⟨RX8, TX8, 40, rfl, by decide, by decide, by decide, by decide, gk_t4 (List.mem_of_getElem? (i := 78) rfl) rfl⟩
set_option maxRecDepth 20000 in
theorem fl_RX8_70 : gk_FL RX8 70 18 20 100 := ⟨RX8, TX8, 40, rfl, by decide, by decide, by decide, by decide, gk_t4 (List.mem_of_getElem? (i := 79) rfl) rfl⟩
set_option maxRecDepth 20000 in
theorem fl_RX8_73 : gk_FL RX8 73 18 21 100 := ⟨RX8, TX8, 40, rfl, by decide, by decide, by decide, by decide, gk_t4 (List.mem_of_getElem? (i := 80) rfl) rfl⟩
set_option maxRecDepth 20000 in
theorem fl_RX8_76 : gk_FL RX8 76 18 22 100 := ⟨RX8, TX8, 40, rfl, by decide, by decide, by decide, by decide, gk_t4 (List.mem_of_getElem? (i := 81) rfl) rfl⟩
set_option maxRecDepth 20000 in
theorem fl_RX8_79 : gk_FL RX8 79 18 26 100 := ⟨RX8, TX8, 40, rfl, by decide, by decide, by decide, by decide, gk_t4 (List.mem_of_getElem? (i := 85) rfl) rfl⟩
set_option maxRecDepth 20000 in
theorem fl_RX8_82 : gk_FL RX8 82 18 27 100 := ⟨RX8, TX8, 40, rfl, by decide, by decide, by decide, by decide, gk_t4 (List.mem_of_getElem? (i := 86) rfl) rfl⟩
set_option maxRecDepth 20000 in
theorem fl_RX8_85 : gk_FL RX8 85 18 29 100 := ⟨RX8, TX8, 40, rfl, by decide, by decide, by decide, by decide, gk_t4 (List.mem_of_getElem? (i := 88) rfl) rfl⟩
set_option maxRecDepth 20000 in
theorem fl_RX8_88 : gk_FL RX8 88 18 30 100 := ⟨RX8, TX8, 40, rfl, by decide, by decide, by decide, by decide, gk_t4 (List.mem_of_getElem? (i := 89) rfl) rfl⟩
set_option maxRecDepth 20000 in
theorem fl_RX8_91 : gk_FL RX8 91 18 31 100 := ⟨RX8, TX8, 40, rfl, by decide, by decide, by decide, by decide, gk_t4 (List.mem_of_getElem? (i := 90) rfl) rfl⟩
set_option maxRecDepth 20000 in
theorem fl_RX8_94 : gk_FL RX8 94 18 34 100 := ⟨RX8, TX8, 40, rfl, by decide, by decide, by decide, by decide, gk_t4 (List.mem_of_getElem? (i := 93) rfl) rfl⟩
set_option maxRecDepth 20000 in
theorem fl_RX8_97 : gk_FL RX8 97 18 35 100 := ⟨RX8, TX8, 40, rfl, by decide, by decide, by decide, by decide, gk_t4 (List.mem_of_getElem? (i := 94) rfl) rfl⟩
set_option maxRecDepth 20000 in
theorem fl_RX8_100 : gk_FL RX8 100 18 37 100 := ⟨RX8, TX8, 40, rfl, by decide, by decide, by decide, by decide, gk_t4 (List.mem_of_getElem? (i := 96) rfl) rfl⟩
set_option maxRecDepth 20000 in
theorem fl_RX8_103 : gk_FL RX8 103 18 38 100 := ⟨RX8, TX8, 40, rfl, by decide, by decide, by decide, by decide, gk_t4 (List.mem_of_getElem? (i := 97) rfl) rfl⟩
set_option maxRecDepth 20000 in
theorem fl_RX8_106 : gk_FL RX8 106 18 39 100 := ⟨RX8, TX8, 40, rfl, by decide, by decide, by decide, by decide, gk_t4 (List.mem_of_getElem? (i := 98) rfl) rfl⟩
set_option maxRecDepth 20000 in
theorem fl_RX8_109 : gk_FL RX8 109 18 25 0 := ⟨RX8, TX8, 40, rfl, by decide, by decide, by decide, by decide, gk_t4 (List.mem_of_getElem? (i := 84) rfl) rfl⟩
set_option maxRecDepth 20000 in
theorem fl_RX8_212 : gk_FL RX8 212 18 28 0 := ⟨RX8, TX8, 40, rfl, by decide, by decide, by decide, by decide, gk_t4 (List.mem_of_getElem? (i := 87) rfl) rfl⟩
set_option maxRecDepth 20000 in
theorem fl_RX8_223 : gk_FL RX8 223 18 23 2 := ⟨RX8, TX8, 40, rfl, by decide, by decide, by decide, by decide, gk_t4 (List.mem_of_getElem? (i := 82) rfl) rfl⟩
set_option maxRecDepth 20000 in
theorem fl_RX8_227 : gk_FL RX8 227 18 24 0 := ⟨RX8, TX8, 40, rfl, by decide, by decide, by decide, by decide, gk_t4 (List.mem_of_getElem? (i := 83) rfl) rfl⟩
set_option maxRecDepth 20000 in
theorem fl_RX8_236 : gk_FL RX8 236 18 32 0 := ⟨RX8, TX8, 40, rfl, by decide, by decide, by decide, by decide, gk_t4 (List.mem_of_getElem? (i := 91) rfl) rfl⟩
set_option maxRecDepth 20000 in
theorem fl_RX8_280 : gk_FL RX8 280 18 33 0 := ⟨RX8, TX8, 40, rfl, by decide, by decide, by decide, by decide, gk_t4 (List.mem_of_getElem? (i := 92) rfl) rfl⟩
set_option maxRecDepth 20000 in
theorem fl_RX8_286 : gk_FL RX8 286 18 36 0 := ⟨RX8, TX8, 40, rfl, by decide, by decide, by decide, by decide, gk_t4 (List.mem_of_getElem? (i := 95) rfl) rfl⟩
set_option maxRecDepth 20000 in
theorem fp_RX7_49 : gk_FP RX7 49 12 7 0 .int := ⟨RX2, TX2, 11, rfl, by decide, by decide, by decide, by decide, gk_t1 (List.mem_of_getElem? (i := 161) rfl) rfl, rfl, tyX2_ok 7 (by decide)⟩
set_option maxRecDepth 20000 in
theorem fp_RX7_84 : gk_FP RX7 84 15 5 2 .boolean := ⟨RX5, TX5, 6, rfl, by decide, by decide, by decide, by decide, gk_t1 (List.mem_of_getElem? (i := 58) rfl) rfl, rfl, tyX5_ok 5 (by decide)⟩
set_option maxRecDepth 20000 in
theorem fp_RX7_93 : gk_FP RX7 93 15 2 0 .int := ⟨RX5, TX5, 6, rfl, by decide, by decide, by decide, by decide, gk_t1 (List.mem_of_getElem? (i := 47) rfl) rfl, rfl, tyX5_ok 2 (by decide)⟩
set_option maxRecDepth 20000 in
theorem fp_RX7_134 : gk_FP RX7 134 17 7 2 .boolean := ⟨RX7, TX7, 10, rfl, by decide, by decide, by decide, by decide, gk_t2 (List.mem_of_getElem? (i := 41) rfl) rfl, rfl, tyX7_ok 7 (by decide)⟩
set_option maxRecDepth 20000 in
theorem fp_RX7_137 : gk_FP RX7 137 17 8 0 .int := ⟨RX7, TX7, 10, rfl, by decide, by decide, by decide, by decide, gk_t2 (List.mem_of_getElem? (i := 42) rfl) rfl, rfl, tyX7_ok 8 (by decide)⟩
set_option maxRecDepth 20000 in
theorem fp_RX7_232 : gk_FP RX7 232 17 6 0 .int := ⟨RX7, TX7, 10, rfl, by decide, by decide, by decide, by decide, gk_t2 (List.mem_of_getElem? (i := 40) rfl) rfl, rfl, tyX7_ok 6 (by decide)⟩
set_option maxRecDepth 20000 in
theorem fp_RX7_318 : gk_FP RX7 318 17 9 0 .int := ⟨RX7, TX7, 10, rfl, by decide, by decide, by decide, by decide, gk_t2 (List.mem_of_getElem? (i := 43) rfl) rfl, rfl, tyX7_ok 9 (by decide)⟩
set_option maxRecDepth 20000 in
theorem fp_RX0_15 : gk_FP RX0 15 10 1 0 .int := ⟨RX0, TX0, 6, rfl, by decide, by decide, by decide, by decide, gk_t1 (List.mem_of_getElem? (i := 238) rfl) rfl, rfl, tyX0_ok 1 (by decide)⟩
set_option maxRecDepth 20000 in
theorem fp_RX0_24 : gk_FP RX0 24 10 2 0 .int := ⟨RX0, TX0, 6, rfl, by decide, by decide, by decide, by decide, gk_t2 (List.mem_of_getElem? (i := 0) rfl) rfl, rfl, tyX0_ok 2 (by decide)⟩
set_option maxRecDepth 20000 in
theorem fp_RX0_27 : gk_FP RX0 27 10 3 0 .int := ⟨RX0, TX0, 6, rfl, by decide, by decide, by decide, by decide, gk_t2 (List.mem_of_getElem? (i := 1) rfl) rfl, rfl, tyX0_ok 3 (by decide)⟩
set_option maxRecDepth 20000 in
theorem fp_RX0_33 : gk_FP RX0 33 10 4 0 .int := ⟨RX0, TX0, 6, rfl, by decide, by decide, by decide, by decide, gk_t2 (List.mem_of_getElem? (i := 2) rfl) rfl, rfl, tyX0_ok 4 (by decide)⟩
set_option maxRecDepth 20000 in
theorem fp_RX0_39 : gk_FP RX0 39 10 5 0 .int := ⟨RX0, TX0, 6, rfl, by decide, by decide, by decide, by decide, gk_t2 (List.mem_of_getElem? (i := 3) rfl) rfl, rfl, tyX0_ok 5 (by decide)⟩
set_option maxRecDepth 20000 in
theorem fp_RX1_9 : gk_FP RX1 9 11 0 0 .int := ⟨RX1, TX1, 11, rfl, by decide, by decide, by decide, by decide, gk_t1 (List.mem_of_getElem? (i := 95) rfl) rfl, rfl, tyX1_ok 0 (by decide)⟩
set_option maxRecDepth 20000 in
theorem fp_RX1_15 : gk_FP RX1 15 11 1 0 .int := ⟨RX1, TX1, 11, rfl, by decide, by decide, by decide, by decide, gk_t1 (List.mem_of_getElem? (i := 98) rfl) rfl, rfl, tyX1_ok 1 (by decide)⟩
set_option maxRecDepth 20000 in
theorem fp_RX1_18 : gk_FP RX1 18 11 2 0 .int := ⟨RX1, TX1, 11, rfl, by decide, by decide, by decide, by decide, gk_t1 (List.mem_of_getElem? (i := 101) rfl) rfl, rfl, tyX1_ok 2 (by decide)⟩
set_option maxRecDepth 20000 in
theorem fp_RX1_21 : gk_FP RX1 21 11 3 0 .int := ⟨RX1, TX1, 11, rfl, by decide, by decide, by decide, by decide, gk_t1 (List.mem_of_getElem? (i := 104) rfl) rfl, rfl, tyX1_ok 3 (by decide)⟩
set_option maxRecDepth 20000 in
theorem fp_RX1_24 : gk_FP RX1 24 11 4 0 .int := ⟨RX1, TX1, 11, rfl, by decide, by decide, by decide, by decide, gk_t1 (List.mem_of_getElem? (i := 107) rfl) rfl, rfl, tyX1_ok 4 (by decide)⟩
set_option maxRecDepth 20000 in
theorem fp_RX1_27 : gk_FP RX1 27 11 5 0 .int := ⟨RX1, TX1, 11, rfl, by decide, by decide, by decide, by decide, gk_t1 (List.mem_of_getElem? (i := 110) rfl) rfl, rfl, tyX1_ok 5 (by decide)⟩
set_option maxRecDepth 20000 in
theorem fp_RX1_30 : gk_FP RX1 30 11 6 0 .int := ⟨RX1, TX1, 11, rfl, by decide, by decide, by decide, by decide, gk_t1 (List.mem_of_getElem? (i := 113) rfl) rfl, rfl, tyX1_ok 6 (by decide)⟩
set_option maxRecDepth 20000 in
theorem fp_RX1_33 : gk_FP RX1 33 11 7 0 .int := ⟨RX1, TX1, 11, rfl, by decide, by decide, by decide, by decide, gk_t1 (List.mem_of_getElem? (i := 116) rfl) rfl, rfl, tyX1_ok 7 (by decide)⟩
set_option maxRecDepth 20000 in
theorem fp_RX1_36 : gk_FP RX1 36 11 8 0 .int := ⟨RX1, TX1, 11, rfl, by decide, by decide, by decide, by decide, gk_t1 (List.mem_of_getElem? (i := 118) rfl) rfl, rfl, tyX1_ok 8 (by decide)⟩
set_option maxRecDepth 20000 in
theorem fp_RX1_39 : gk_FP RX1 39 11 9 0 .int := ⟨RX1, TX1, 11, rfl, by decide, by decide, by decide, by decide, gk_t1 (List.mem_of_getElem? (i := 119) rfl) rfl, rfl, tyX1_ok 9 (by decide)⟩
set_option maxRecDepth 20000 in
theorem fp_RX1_42 : gk_FP RX1 42 11 10 1 .long := ⟨RX1, TX1, 11, rfl, by decide, by decide, by decide, by decide, gk_t1 (List.mem_of_getElem? (i := 120) rfl) rfl, rfl, tyX1_ok 10 (by decide)⟩
set_option maxRecDepth 20000 in
theorem fp_RX2_38 : gk_FP RX2 38 12 7 0 .int := ⟨RX2, TX2, 11, rfl, by decide, by decide, by decide, by decide, gk_t1 (List.mem_of_getElem? (i := 160) rfl) rfl, rfl, tyX2_ok 7 (by decide)⟩
set_option maxRecDepth 20000 in
theorem fp_RX2_42 : gk_FP RX2 42 12 8 0 .int := ⟨RX2, TX2, 11, rfl, by decide, by decide, by decide, by decide, gk_t1 (List.mem_of_getElem? (i := 163) rfl) rfl, rfl, tyX2_ok 8 (by decide)⟩
set_option maxRecDepth 20000 in
theorem fp_RX2_51 : gk_FP RX2 51 12 9 0 .int := ⟨RX2, TX2, 11, rfl, by decide, by decide, by decide, by decide, gk_t1 (List.mem_of_getElem? (i := 165) rfl) rfl, rfl, tyX2_ok 9 (by decide)⟩
set_option maxRecDepth 20000 in
theorem fp_RX2_54 : gk_FP RX2 54 12 10 0 .int := ⟨RX2, TX2, 11, rfl, by decide, by decide, by decide, by decide, gk_t1 (List.mem_of_getElem? (i := 167) rfl) rfl, rfl, tyX2_ok 10 (by decide)⟩
set_option maxRecDepth 20000 in
theorem fp_RX2_65 : gk_FP RX2 65 11 4 0 .int := ⟨RX1, TX1, 11, rfl, by decide, by decide, by decide, by decide, gk_t1 (List.mem_of_getElem? (i := 108) rfl) rfl, rfl, tyX1_ok 4 (by decide)⟩
set_option maxRecDepth 20000 in
theorem fp_RX2_71 : gk_FP RX2 71 11 1 0 .int := ⟨RX1, TX1, 11, rfl, by decide, by decide, by decide, by decide, gk_t1 (List.mem_of_getElem? (i := 99) rfl) rfl, rfl, tyX1_ok 1 (by decide)⟩
set_option maxRecDepth 20000 in
theorem fp_RX2_74 : gk_FP RX2 74 11 5 0 .int := ⟨RX1, TX1, 11, rfl, by decide, by decide, by decide, by decide, gk_t1 (List.mem_of_getElem? (i := 111) rfl) rfl, rfl, tyX1_ok 5 (by decide)⟩
set_option maxRecDepth 20000 in
theorem fp_RX2_107 : gk_FP RX2 107 11 6 0 .int := ⟨RX1, TX1, 11, rfl, by decide, by decide, by decide, by decide, gk_t1 (List.mem_of_getElem? (i := 114) rfl) rfl, rfl, tyX1_ok 6 (by decide)⟩
set_option maxRecDepth 20000 in
theorem fp_RX2_207 : gk_FP RX2 207 11 2 0 .int := ⟨RX1, TX1, 11, rfl, by decide, by decide, by decide, by decide, gk_t1 (List.mem_of_getElem? (i := 103) rfl) rfl, rfl, tyX1_ok 2 (by decide)⟩
set_option maxRecDepth 20000 in
theorem fp_RX3_39 : gk_FP RX3 39 12 7 0 .int := ⟨RX2, TX2, 11, rfl, by decide, by decide, by decide, by decide, gk_t1 (List.mem_of_getElem? (i := 162) rfl) rfl, rfl, tyX2_ok 7 (by decide)⟩
set_option maxRecDepth 20000 in
theorem fp_RX3_43 : gk_FP RX3 43 13 5 0 .int := ⟨RX3, TX3, 8, rfl, by decide, by decide, by decide, by decide, gk_t1 (List.mem_of_getElem? (i := 210) rfl) rfl, rfl, tyX3_ok 5 (by decide)⟩
set_option maxRecDepth 20000 in
theorem fp_RX3_46 : gk_FP RX3 46 13 6 0 .int := ⟨RX3, TX3, 8, rfl, by decide, by decide, by decide, by decide, gk_t1 (List.mem_of_getElem? (i := 211) rfl) rfl, rfl, tyX3_ok 6 (by decide)⟩
set_option maxRecDepth 20000 in
theorem fp_RX3_49 : gk_FP RX3 49 13 7 0 .int := ⟨RX3, TX3, 8, rfl, by decide, by decide, by decide, by decide, gk_t1 (List.mem_of_getElem? (i := 212) rfl) rfl, rfl, tyX3_ok 7 (by decide)⟩
set_option maxRecDepth 20000 in
theorem fp_RX3_52 : gk_FP RX3 52 13 4 0 .int := ⟨RX3, TX3, 8, rfl, by decide, by decide, by decide, by decide, gk_t1 (List.mem_of_getElem? (i := 209) rfl) rfl, rfl, tyX3_ok 4 (by decide)⟩
set_option maxRecDepth 20000 in
theorem fp_RX5_9 : gk_FP RX5 9 15 0 0 .int := ⟨RX5, TX5, 6, rfl, by decide, by decide, by decide, by decide, gk_t1 (List.mem_of_getElem? (i := 36) rfl) rfl, rfl, tyX5_ok 0 (by decide)⟩
set_option maxRecDepth 20000 in
theorem fp_RX5_15 : gk_FP RX5 15 15 1 0 .int := ⟨RX5, TX5, 6, rfl, by decide, by decide, by decide, by decide, gk_t1 (List.mem_of_getElem? (i := 40) rfl) rfl, rfl, tyX5_ok 1 (by decide)⟩
set_option maxRecDepth 20000 in
theorem fp_RX5_18 : gk_FP RX5 18 15 2 0 .int := ⟨RX5, TX5, 6, rfl, by decide, by decide, by decide, by decide, gk_t1 (List.mem_of_getElem? (i := 44) rfl) rfl, rfl, tyX5_ok 2 (by decide)⟩
set_option maxRecDepth 20000 in
theorem fp_RX5_21 : gk_FP RX5 21 15 3 0 .int := ⟨RX5, TX5, 6, rfl, by decide, by decide, by decide, by decide, gk_t1 (List.mem_of_getElem? (i := 49) rfl) rfl, rfl, tyX5_ok 3 (by decide)⟩
set_option maxRecDepth 20000 in
theorem fp_RX5_24 : gk_FP RX5 24 15 4 0 .int := ⟨RX5, TX5, 6, rfl, by decide, by decide, by decide, by decide, gk_t1 (List.mem_of_getElem? (i := 54) rfl) rfl, rfl, tyX5_ok 4 (by decide)⟩
set_option maxRecDepth 20000 in
theorem fp_RX5_27 : gk_FP RX5 27 15 5 2 .boolean := ⟨RX5, TX5, 6, rfl, by decide, by decide, by decide, by decide, gk_t1 (List.mem_of_getElem? (i := 57) rfl) rfl, rfl, tyX5_ok 5 (by decide)⟩
set_option maxRecDepth 20000 in
theorem fp_RX6_18 : gk_FP RX6 18 16 1 0 .int := ⟨RX6, TX6, 2, rfl, by decide, by decide, by decide, by decide, gk_t1 (List.mem_of_getElem? (i := 76) rfl) rfl, rfl, tyX6_ok 1 (by decide)⟩
set_option maxRecDepth 20000 in
theorem fp_RX6_30 : gk_FP RX6 30 15 0 0 .int := ⟨RX5, TX5, 6, rfl, by decide, by decide, by decide, by decide, gk_t1 (List.mem_of_getElem? (i := 37) rfl) rfl, rfl, tyX5_ok 0 (by decide)⟩
set_option maxRecDepth 20000 in
theorem fp_RX6_33 : gk_FP RX6 33 15 1 0 .int := ⟨RX5, TX5, 6, rfl, by decide, by decide, by decide, by decide, gk_t1 (List.mem_of_getElem? (i := 41) rfl) rfl, rfl, tyX5_ok 1 (by decide)⟩
set_option maxRecDepth 20000 in
theorem fp_RX6_36 : gk_FP RX6 36 15 2 0 .int := ⟨RX5, TX5, 6, rfl, by decide, by decide, by decide, by decide, gk_t1 (List.mem_of_getElem? (i := 46) rfl) rfl, rfl, tyX5_ok 2 (by decide)⟩
set_option maxRecDepth 20000 in
theorem fp_RX6_39 : gk_FP RX6 39 15 3 0 .int := ⟨RX5, TX5, 6, rfl, by decide, by decide, by decide, by decide, gk_t1 (List.mem_of_getElem? (i := 51) rfl) rfl, rfl, tyX5_ok 3 (by decide)⟩
set_option maxRecDepth 20000 in
theorem fp_RX6_42 : gk_FP RX6 42 15 4 0 .int := ⟨RX5, TX5, 6, rfl, by decide, by decide, by decide, by decide, gk_t1 (List.mem_of_getElem? (i := 55) rfl) rfl, rfl, tyX5_ok 4 (by decide)⟩
set_option maxRecDepth 20000 in
theorem fp_RX6_45 : gk_FP RX6 45 15 5 2 .boolean := ⟨RX5, TX5, 6, rfl, by decide, by decide, by decide, by decide, gk_t1 (List.mem_of_getElem? (i := 59) rfl) rfl, rfl, tyX5_ok 5 (by decide)⟩
set_option maxRecDepth 20000 in
theorem fp_RX8_109 : gk_FP RX8 109 18 25 0 .int := ⟨RX8, TX8, 40, rfl, by decide, by decide, by decide, by decide, gk_t4 (List.mem_of_getElem? (i := 84) rfl) rfl, rfl, tyX8_ok 25 (by decide)⟩
set_option maxRecDepth 20000 in
theorem fp_RX8_212 : gk_FP RX8 212 18 28 0 .int := ⟨RX8, TX8, 40, rfl, by decide, by decide, by decide, by decide, gk_t4 (List.mem_of_getElem? (i := 87) rfl) rfl, rfl, tyX8_ok 28 (by decide)⟩
set_option maxRecDepth 20000 in
theorem fp_RX8_223 : gk_FP RX8 223 18 23 2 .boolean := ⟨RX8, TX8, 40, rfl, by decide, by decide, by decide, by decide, gk_t4 (List.mem_of_getElem? (i := 82) rfl) rfl, rfl, tyX8_ok 23 (by decide)⟩
set_option maxRecDepth 20000 in
theorem fp_RX8_227 : gk_FP RX8 227 18 24 0 .int := ⟨RX8, TX8, 40, rfl, by decide, by decide, by decide, by decide, gk_t4 (List.mem_of_getElem? (i := 83) rfl) rfl, rfl, tyX8_ok 24 (by decide)⟩
set_option maxRecDepth 20000 in
theorem fp_RX8_236 : gk_FP RX8 236 18 32 0 .int := ⟨RX8, TX8, 40, rfl, by decide, by decide, by decide, by decide, gk_t4 (List.mem_of_getElem? (i := 91) rfl) rfl, rfl, tyX8_ok 32 (by decide)⟩
set_option maxRecDepth 20000 in
theorem fp_RX8_280 : gk_FP RX8 280 18 33 0 .int := ⟨RX8, TX8, 40, rfl, by decide, by decide, by decide, by decide, gk_t4 (List.mem_of_getElem? (i := 92) rfl) rfl, rfl, tyX8_ok 33 (by decide)⟩
set_option maxRecDepth 20000 in
theorem fp_RX8_286 : gk_FP RX8 286 18 36 0 .int := ⟨RX8, TX8, 40, rfl, by decide, by decide, by decide, by decide, gk_t4 (List.mem_of_getElem? (i := 95) rfl) rfl, rfl, tyX8_ok 36 (by decide)⟩
set_option maxRecDepth 20000 in
theorem ml_RX7_53 : Cond.methodLink RX7 53 yX7_refused ∈ gk_U := gk_t2 (List.mem_of_getElem? (i := 69) rfl) rfl
set_option maxRecDepth 20000 in
theorem ml_RX7_57 : Cond.methodLink RX7 57 yX7_done ∈ gk_U := gk_t2 (List.mem_of_getElem? (i := 73) rfl) rfl
set_option maxRecDepth 20000 in
theorem ml_RX7_60 : Cond.methodLink RX7 60 yX7_isWish ∈ gk_U := gk_t2 (List.mem_of_getElem? (i := 81) rfl) rfl
set_option maxRecDepth 20000 in
theorem ml_RX7_68 : Cond.methodLink RX7 68 yX6_isFull ∈ gk_U := gk_t2 (List.mem_of_getElem? (i := 92) rfl) rfl
set_option maxRecDepth 20000 in
theorem ml_RX7_72 : Cond.methodLink RX7 72 yX6_added ∈ gk_U := gk_t2 (List.mem_of_getElem? (i := 96) rfl) rfl
set_option maxRecDepth 20000 in
theorem ml_RX7_76 : Cond.methodLink RX7 76 yX6_holds ∈ gk_U := gk_t2 (List.mem_of_getElem? (i := 105) rfl) rfl
set_option maxRecDepth 20000 in
theorem ml_RX7_90 : Cond.methodLink RX7 90 yX7_isRank ∈ gk_U := gk_t2 (List.mem_of_getElem? (i := 89) rfl) rfl
set_option maxRecDepth 20000 in
theorem ml_RX7_96 : Cond.methodLink RX7 96 yX2_isLine ∈ gk_U := gk_t2 (List.mem_of_getElem? (i := 85) rfl) rfl
set_option maxRecDepth 20000 in
theorem ml_RX7_99 : Cond.methodLink RX7 99 yX2_hasRoom ∈ gk_U := gk_t2 (List.mem_of_getElem? (i := 117) rfl) rfl
set_option maxRecDepth 20000 in
theorem ml_RX7_102 : Cond.methodLink RX7 102 yX2_isFree ∈ gk_U := gk_t2 (List.mem_of_getElem? (i := 121) rfl) rfl
set_option maxRecDepth 20000 in
theorem ml_RX7_105 : Cond.methodLink RX7 105 yX2_connect ∈ gk_U := gk_t2 (List.mem_of_getElem? (i := 125) rfl) rfl
set_option maxRecDepth 20000 in
theorem ml_RX7_109 : Cond.methodLink RX7 109 yX2_isRinging ∈ gk_U := gk_t2 (List.mem_of_getElem? (i := 207) rfl) rfl
set_option maxRecDepth 20000 in
theorem ml_RX7_112 : Cond.methodLink RX7 112 yX2_answer ∈ gk_U := gk_t2 (List.mem_of_getElem? (i := 211) rfl) rfl
set_option maxRecDepth 20000 in
theorem ml_RX7_115 : Cond.methodLink RX7 115 yX2_canHangUp ∈ gk_U := gk_t2 (List.mem_of_getElem? (i := 223) rfl) rfl
set_option maxRecDepth 20000 in
theorem ml_RX7_118 : Cond.methodLink RX7 118 yX2_hangUp ∈ gk_U := gk_t2 (List.mem_of_getElem? (i := 228) rfl) rfl
set_option maxRecDepth 20000 in
theorem ml_RX7_124 : Cond.methodLink RX7 124 yX2_pass ∈ gk_U := gk_t2 (List.mem_of_getElem? (i := 236) rfl) rfl
set_option maxRecDepth 20000 in
theorem ml_RX7_127 : Cond.methodLink RX7 127 yX2_copyFrom ∈ gk_U := gk_t3 (List.mem_of_getElem? (i := 22) rfl) rfl
set_option maxRecDepth 20000 in
theorem ml_RX7_131 : Cond.methodLink RX7 131 yX6_copyFrom ∈ gk_U := gk_t3 (List.mem_of_getElem? (i := 33) rfl) rfl
set_option maxRecDepth 20000 in
theorem ml_RX7_161 : Cond.methodLink RX7 161 yX6_countOn ∈ gk_U := gk_t3 (List.mem_of_getElem? (i := 53) rfl) rfl
set_option maxRecDepth 20000 in
theorem ml_RX7_164 : Cond.methodLink RX7 164 yX6_inOrder ∈ gk_U := gk_t3 (List.mem_of_getElem? (i := 57) rfl) rfl
set_option maxRecDepth 20000 in
theorem ml_RX7_167 : Cond.methodLink RX7 167 yX2_isCall ∈ gk_U := gk_t3 (List.mem_of_getElem? (i := 69) rfl) rfl
set_option maxRecDepth 20000 in
theorem ml_RX7_200 : Cond.methodLink RX7 200 yX1_lineAt ∈ gk_U := gk_t3 (List.mem_of_getElem? (i := 74) rfl) rfl
set_option maxRecDepth 20000 in
theorem ml_RX7_203 : Cond.methodLink RX7 203 yX1_payerAt ∈ gk_U := gk_t3 (List.mem_of_getElem? (i := 79) rfl) rfl
set_option maxRecDepth 20000 in
theorem ml_RX7_206 : Cond.methodLink RX7 206 yX1_actAt ∈ gk_U := gk_t3 (List.mem_of_getElem? (i := 84) rfl) rfl
set_option maxRecDepth 20000 in
theorem ml_RX7_209 : Cond.methodLink RX7 209 yX2_isTold ∈ gk_U := gk_t3 (List.mem_of_getElem? (i := 93) rfl) rfl
set_option maxRecDepth 20000 in
theorem ml_RX7_222 : Cond.methodLink RX7 222 yX7_isJudged ∈ gk_U := gk_t3 (List.mem_of_getElem? (i := 109) rfl) rfl
set_option maxRecDepth 20000 in
theorem ml_RX7_225 : Cond.methodLink RX7 225 yX3_open ∈ gk_U := gk_t3 (List.mem_of_getElem? (i := 119) rfl) rfl
set_option maxRecDepth 20000 in
theorem ml_RX7_229 : Cond.methodLink RX7 229 yX3_find ∈ gk_U := gk_t3 (List.mem_of_getElem? (i := 132) rfl) rfl
set_option maxRecDepth 20000 in
theorem ml_RX7_238 : Cond.methodLink RX7 238 arraycopyName ∈ gk_U := gk_t3 (List.mem_of_getElem? (i := 159) rfl) rfl
set_option maxRecDepth 20000 in
theorem ml_RX7_247 : Cond.methodLink RX7 247 yX5_isOfThoseThatAct ∈ gk_U := gk_t3 (List.mem_of_getElem? (i := 170) rfl) rfl
set_option maxRecDepth 20000 in
theorem ml_RX7_251 : Cond.methodLink RX7 251 yX6_leaveAlone ∈ gk_U := gk_t3 (List.mem_of_getElem? (i := 174) rfl) rfl
set_option maxRecDepth 20000 in
theorem ml_RX7_255 : Cond.methodLink RX7 255 yX6_placeOf ∈ gk_U := gk_t3 (List.mem_of_getElem? (i := 183) rfl) rfl
set_option maxRecDepth 20000 in
theorem ml_RX7_261 : Cond.methodLink RX7 261 yX2_countOpen ∈ gk_U := gk_t3 (List.mem_of_getElem? (i := 188) rfl) rfl
set_option maxRecDepth 20000 in
theorem ml_RX7_268 : Cond.methodLink RX7 268 yX0_run ∈ gk_U := gk_t3 (List.mem_of_getElem? (i := 196) rfl) rfl
set_option maxRecDepth 20000 in
theorem ml_RX7_275 : Cond.methodLink RX7 275 yX4_isSort ∈ gk_U := gk_t3 (List.mem_of_getElem? (i := 228) rfl) rfl
set_option maxRecDepth 20000 in
theorem ml_RX7_278 : Cond.methodLink RX7 278 yX4_isSheet ∈ gk_U := gk_t3 (List.mem_of_getElem? (i := 231) rfl) rfl
set_option maxRecDepth 20000 in
theorem ml_RX7_281 : Cond.methodLink RX7 281 yX4_lay ∈ gk_U := gk_t3 (List.mem_of_getElem? (i := 234) rfl) rfl
set_option maxRecDepth 20000 in
theorem ml_RX7_285 : Cond.methodLink RX7 285 yX4_isMissing ∈ gk_U := gk_t4 (List.mem_of_getElem? (i := 2) rfl) rfl
set_option maxRecDepth 20000 in
theorem ml_RX7_288 : Cond.methodLink RX7 288 yX4_hasPlaces ∈ gk_U := gk_t4 (List.mem_of_getElem? (i := 6) rfl) rfl
set_option maxRecDepth 20000 in
theorem ml_RX7_292 : Cond.methodLink RX7 292 yX4_write ∈ gk_U := gk_t4 (List.mem_of_getElem? (i := 10) rfl) rfl
set_option maxRecDepth 20000 in
theorem ml_RX7_298 : Cond.methodLink RX7 298 yX7_orderedFrom ∈ gk_U := gk_t4 (List.mem_of_getElem? (i := 18) rfl) rfl
set_option maxRecDepth 20000 in
theorem ml_RX7_301 : Cond.methodLink RX7 301 yJ9_floorMod_7cf53 ∈ gk_U := gk_t4 (List.mem_of_getElem? (i := 30) rfl) rfl
set_option maxRecDepth 20000 in
theorem ml_RX7_306 : Cond.methodLink RX7 306 yX7_takenForKind ∈ gk_U := gk_t4 (List.mem_of_getElem? (i := 33) rfl) rfl
set_option maxRecDepth 20000 in
theorem ml_RX7_309 : Cond.methodLink RX7 309 yX7_readAsShort ∈ gk_U := gk_t4 (List.mem_of_getElem? (i := 37) rfl) rfl
set_option maxRecDepth 20000 in
theorem ml_RX7_312 : Cond.methodLink RX7 312 yX7_copiedAsBytes ∈ gk_U := gk_t4 (List.mem_of_getElem? (i := 41) rfl) rfl
set_option maxRecDepth 20000 in
theorem ml_RX7_315 : Cond.methodLink RX7 315 yX7_putAmongShut ∈ gk_U := gk_t4 (List.mem_of_getElem? (i := 45) rfl) rfl
set_option maxRecDepth 20000 in
theorem ml_RX7_321 : Cond.methodLink RX7 321 yJ6_bitCount_0f7a4 ∈ gk_U := gk_t3 (List.mem_of_getElem? (i := 113) rfl) rfl
set_option maxRecDepth 20000 in
theorem ml_RX7_326 : Cond.methodLink RX7 326 yX4_read ∈ gk_U := gk_t4 (List.mem_of_getElem? (i := 22) rfl) rfl
set_option maxRecDepth 20000 in
theorem ml_RX0_42 : Cond.methodLink RX0 42 yX0_hear ∈ gk_U := gk_t3 (List.mem_of_getElem? (i := 200) rfl) rfl
set_option maxRecDepth 20000 in
theorem ml_RX0_46 : Cond.methodLink RX0 46 yX0_turn ∈ gk_U := gk_t3 (List.mem_of_getElem? (i := 212) rfl) rfl
set_option maxRecDepth 20000 in
theorem ml_RX0_49 : Cond.methodLink RX0 49 yX0_pay ∈ gk_U := gk_t3 (List.mem_of_getElem? (i := 208) rfl) rfl
set_option maxRecDepth 20000 in
theorem ml_RX0_52 : Cond.methodLink RX0 52 yX0_end ∈ gk_U := gk_t3 (List.mem_of_getElem? (i := 216) rfl) rfl
set_option maxRecDepth 20000 in
theorem ml_RX0_55 : Cond.methodLink RX0 55 yX0_begin ∈ gk_U := gk_t3 (List.mem_of_getElem? (i := 204) rfl) rfl
set_option maxRecDepth 20000 in
theorem ml_RX1_48 : Cond.methodLink RX1 48 yX1_lineAt ∈ gk_U := gk_t2 (List.mem_of_getElem? (i := 150) rfl) rfl
set_option maxRecDepth 20000 in
theorem ml_RX2_45 : Cond.methodLink RX2 45 yJ9_min_7cf53 ∈ gk_U := gk_t3 (List.mem_of_getElem? (i := 26) rfl) rfl
set_option maxRecDepth 20000 in
theorem ml_RX2_57 : Cond.methodLink RX2 57 yX1_copyFrom ∈ gk_U := gk_t3 (List.mem_of_getElem? (i := 29) rfl) rfl
set_option maxRecDepth 20000 in
theorem ml_RX2_61 : Cond.methodLink RX2 61 yX2_isFree ∈ gk_U := gk_t2 (List.mem_of_getElem? (i := 170) rfl) rfl
set_option maxRecDepth 20000 in
theorem ml_RX2_68 : Cond.methodLink RX2 68 yX2_isRinging ∈ gk_U := gk_t2 (List.mem_of_getElem? (i := 227) rfl) rfl
set_option maxRecDepth 20000 in
theorem ml_RX2_80 : Cond.methodLink RX2 80 yX6_hides ∈ gk_U := gk_t3 (List.mem_of_getElem? (i := 97) rfl) rfl
set_option maxRecDepth 20000 in
theorem ml_RX2_86 : Cond.methodLink RX2 86 yX2_opened ∈ gk_U := gk_t2 (List.mem_of_getElem? (i := 129) rfl) rfl
set_option maxRecDepth 20000 in
theorem ml_RX2_90 : Cond.methodLink RX2 90 yX2_go ∈ gk_U := gk_t2 (List.mem_of_getElem? (i := 138) rfl) rfl
set_option maxRecDepth 20000 in
theorem ml_RX2_94 : Cond.methodLink RX2 94 yX2_settle ∈ gk_U := gk_t2 (List.mem_of_getElem? (i := 199) rfl) rfl
set_option maxRecDepth 20000 in
theorem ml_RX2_97 : Cond.methodLink RX2 97 yX2_silence ∈ gk_U := gk_t2 (List.mem_of_getElem? (i := 215) rfl) rfl
set_option maxRecDepth 20000 in
theorem ml_RX2_100 : Cond.methodLink RX2 100 yX2_close ∈ gk_U := gk_t2 (List.mem_of_getElem? (i := 154) rfl) rfl
set_option maxRecDepth 20000 in
theorem ml_RX2_104 : Cond.methodLink RX2 104 yX2_charge ∈ gk_U := gk_t3 (List.mem_of_getElem? (i := 0) rfl) rfl
set_option maxRecDepth 20000 in
theorem ml_RX2_113 : Cond.methodLink RX2 113 yX1_lineAt ∈ gk_U := gk_t3 (List.mem_of_getElem? (i := 8) rfl) rfl
set_option maxRecDepth 20000 in
theorem ml_RX2_116 : Cond.methodLink RX2 116 yX6_onwardAfter ∈ gk_U := gk_t3 (List.mem_of_getElem? (i := 9) rfl) rfl
set_option maxRecDepth 20000 in
theorem ml_RX2_119 : Cond.methodLink RX2 119 yX1_note ∈ gk_U := gk_t2 (List.mem_of_getElem? (i := 195) rfl) rfl
set_option maxRecDepth 20000 in
theorem ml_RX2_132 : Cond.methodLink RX2 132 yX2_hasRoom ∈ gk_U := gk_t2 (List.mem_of_getElem? (i := 133) rfl) rfl
set_option maxRecDepth 20000 in
theorem ml_RX2_136 : Cond.methodLink RX2 136 yX2_dropBack ∈ gk_U := gk_t3 (List.mem_of_getElem? (i := 14) rfl) rfl
set_option maxRecDepth 20000 in
theorem ml_RX2_139 : Cond.methodLink RX2 139 yX2_canHangUp ∈ gk_U := gk_t3 (List.mem_of_getElem? (i := 144) rfl) rfl
set_option maxRecDepth 20000 in
theorem ml_RX2_142 : Cond.methodLink RX2 142 yX2_connect ∈ gk_U := gk_t3 (List.mem_of_getElem? (i := 150) rfl) rfl
set_option maxRecDepth 20000 in
theorem ml_RX2_145 : Cond.methodLink RX2 145 yX2_answer ∈ gk_U := gk_t3 (List.mem_of_getElem? (i := 151) rfl) rfl
set_option maxRecDepth 20000 in
theorem ml_RX2_148 : Cond.methodLink RX2 148 yX2_hangUp ∈ gk_U := gk_t3 (List.mem_of_getElem? (i := 152) rfl) rfl
set_option maxRecDepth 20000 in
theorem ml_RX2_151 : Cond.methodLink RX2 151 yX2_pass ∈ gk_U := gk_t3 (List.mem_of_getElem? (i := 153) rfl) rfl
set_option maxRecDepth 20000 in
theorem ml_RX2_154 : Cond.methodLink RX2 154 yX2_isTold ∈ gk_U := gk_t3 (List.mem_of_getElem? (i := 158) rfl) rfl
set_option maxRecDepth 20000 in
theorem ml_RX2_158 : Cond.methodLink RX2 158 yX1_open ∈ gk_U := gk_t2 (List.mem_of_getElem? (i := 134) rfl) rfl
set_option maxRecDepth 20000 in
theorem ml_RX2_161 : Cond.methodLink RX2 161 yX2_isCall ∈ gk_U := gk_t2 (List.mem_of_getElem? (i := 142) rfl) rfl
set_option maxRecDepth 20000 in
theorem ml_RX2_164 : Cond.methodLink RX2 164 yX1_comesRoundTo ∈ gk_U := gk_t2 (List.mem_of_getElem? (i := 146) rfl) rfl
set_option maxRecDepth 20000 in
theorem ml_RX2_167 : Cond.methodLink RX2 167 yX6_has ∈ gk_U := gk_t2 (List.mem_of_getElem? (i := 158) rfl) rfl
set_option maxRecDepth 20000 in
theorem ml_RX2_170 : Cond.methodLink RX2 170 yX1_enter ∈ gk_U := gk_t2 (List.mem_of_getElem? (i := 162) rfl) rfl
set_option maxRecDepth 20000 in
theorem ml_RX2_174 : Cond.methodLink RX2 174 yX2_firstThatActs ∈ gk_U := gk_t2 (List.mem_of_getElem? (i := 166) rfl) rfl
set_option maxRecDepth 20000 in
theorem ml_RX2_178 : Cond.methodLink RX2 178 yX2_arrive ∈ gk_U := gk_t2 (List.mem_of_getElem? (i := 183) rfl) rfl
set_option maxRecDepth 20000 in
theorem ml_RX2_187 : Cond.methodLink RX2 187 yX5_isOnFor ∈ gk_U := gk_t2 (List.mem_of_getElem? (i := 171) rfl) rfl
set_option maxRecDepth 20000 in
theorem ml_RX2_190 : Cond.methodLink RX2 190 yX5_shutsOut ∈ gk_U := gk_t2 (List.mem_of_getElem? (i := 175) rfl) rfl
set_option maxRecDepth 20000 in
theorem ml_RX2_194 : Cond.methodLink RX2 194 yX5_sendsOn ∈ gk_U := gk_t2 (List.mem_of_getElem? (i := 179) rfl) rfl
set_option maxRecDepth 20000 in
theorem ml_RX2_201 : Cond.methodLink RX2 201 yX2_addBack ∈ gk_U := gk_t2 (List.mem_of_getElem? (i := 187) rfl) rfl
set_option maxRecDepth 20000 in
theorem ml_RX2_204 : Cond.methodLink RX2 204 yX2_ringAt ∈ gk_U := gk_t2 (List.mem_of_getElem? (i := 191) rfl) rfl
set_option maxRecDepth 20000 in
theorem ml_RX2_210 : Cond.methodLink RX2 210 yX1_payerAt ∈ gk_U := gk_t3 (List.mem_of_getElem? (i := 4) rfl) rfl
set_option maxRecDepth 20000 in
theorem ml_RX3_35 : Cond.methodLink RX3 35 yX6_copyFrom ∈ gk_U := gk_t3 (List.mem_of_getElem? (i := 123) rfl) rfl
set_option maxRecDepth 20000 in
theorem ml_RX3_55 : Cond.methodLink RX3 55 yX3_list ∈ gk_U := gk_t3 (List.mem_of_getElem? (i := 124) rfl) rfl
set_option maxRecDepth 20000 in
theorem ml_RX3_59 : Cond.methodLink RX3 59 yX3_listOfEach ∈ gk_U := gk_t3 (List.mem_of_getElem? (i := 128) rfl) rfl
set_option maxRecDepth 20000 in
theorem ml_RX3_63 : Cond.methodLink RX3 63 yX3_search ∈ gk_U := gk_t3 (List.mem_of_getElem? (i := 136) rfl) rfl
set_option maxRecDepth 20000 in
theorem ml_RX3_67 : Cond.methodLink RX3 67 yX2_allows ∈ gk_U := gk_t3 (List.mem_of_getElem? (i := 140) rfl) rfl
set_option maxRecDepth 20000 in
theorem ml_RX3_71 : Cond.methodLink RX3 71 yX2_copyFrom ∈ gk_U := gk_t3 (List.mem_of_getElem? (i := 145) rfl) rfl
set_option maxRecDepth 20000 in
theorem ml_RX3_74 : Cond.methodLink RX3 74 yX2_perform ∈ gk_U := gk_t3 (List.mem_of_getElem? (i := 146) rfl) rfl
set_option maxRecDepth 20000 in
theorem ml_RX3_77 : Cond.methodLink RX3 77 yX2_breaks ∈ gk_U := gk_t3 (List.mem_of_getElem? (i := 154) rfl) rfl
set_option maxRecDepth 20000 in
theorem ml_RX6_22 : Cond.methodLink RX6 22 yX5_copyFrom ∈ gk_U := gk_t3 (List.mem_of_getElem? (i := 37) rfl) rfl
set_option maxRecDepth 20000 in
theorem ml_RX6_26 : Cond.methodLink RX6 26 yX6_isFull ∈ gk_U := gk_t2 (List.mem_of_getElem? (i := 100) rfl) rfl
set_option maxRecDepth 20000 in
theorem ml_RX6_49 : Cond.methodLink RX6 49 yX5_isOnFor ∈ gk_U := gk_t3 (List.mem_of_getElem? (i := 13) rfl) rfl
set_option maxRecDepth 20000 in
theorem ml_RX6_53 : Cond.methodLink RX6 53 yX6_placeOf ∈ gk_U := gk_t3 (List.mem_of_getElem? (i := 61) rfl) rfl
set_option maxRecDepth 20000 in
theorem ml_RX6_57 : Cond.methodLink RX6 57 yX5_isOfThoseThatAct ∈ gk_U := gk_t3 (List.mem_of_getElem? (i := 178) rfl) rfl
set_option maxRecDepth 20000 in
theorem ml_RX8_113 : Cond.methodLink RX8 113 yX8_refused ∈ gk_U := gk_t4 (List.mem_of_getElem? (i := 184) rfl) rfl
set_option maxRecDepth 20000 in
theorem ml_RX8_117 : Cond.methodLink RX8 117 yX8_done ∈ gk_U := gk_t4 (List.mem_of_getElem? (i := 188) rfl) rfl
set_option maxRecDepth 20000 in
theorem ml_RX8_120 : Cond.methodLink RX8 120 yX8_isLine ∈ gk_U := gk_t4 (List.mem_of_getElem? (i := 200) rfl) rfl
set_option maxRecDepth 20000 in
theorem ml_RX8_126 : Cond.methodLink RX8 126 yX8_isIn ∈ gk_U := gk_t4 (List.mem_of_getElem? (i := 205) rfl) rfl
set_option maxRecDepth 20000 in
theorem ml_RX8_134 : Cond.methodLink RX8 134 yX8_isGood ∈ gk_U := gk_t4 (List.mem_of_getElem? (i := 196) rfl) rfl
set_option maxRecDepth 20000 in
theorem ml_RX8_138 : Cond.methodLink RX8 138 yX8_adds ∈ gk_U := gk_t4 (List.mem_of_getElem? (i := 210) rfl) rfl
set_option maxRecDepth 20000 in
theorem ml_RX8_142 : Cond.methodLink RX8 142 yX8_isWish ∈ gk_U := gk_t4 (List.mem_of_getElem? (i := 218) rfl) rfl
set_option maxRecDepth 20000 in
theorem ml_RX8_145 : Cond.methodLink RX8 145 yX8_callOf ∈ gk_U := gk_t4 (List.mem_of_getElem? (i := 234) rfl) rfl
set_option maxRecDepth 20000 in
theorem ml_RX8_148 : Cond.methodLink RX8 148 yX8_isFree ∈ gk_U := gk_t4 (List.mem_of_getElem? (i := 230) rfl) rfl
set_option maxRecDepth 20000 in
theorem ml_RX8_151 : Cond.methodLink RX8 151 yX8_isHour ∈ gk_U := gk_t5 (List.mem_of_getElem? (i := 34) rfl) rfl
set_option maxRecDepth 20000 in
theorem ml_RX8_154 : Cond.methodLink RX8 154 yX8_knockAt ∈ gk_U := gk_t5 (List.mem_of_getElem? (i := 38) rfl) rfl
set_option maxRecDepth 20000 in
theorem ml_RX8_157 : Cond.methodLink RX8 157 yX8_wishBehind ∈ gk_U := gk_t5 (List.mem_of_getElem? (i := 26) rfl) rfl
set_option maxRecDepth 20000 in
theorem ml_RX8_161 : Cond.methodLink RX8 161 yX8_doesAct ∈ gk_U := gk_t5 (List.mem_of_getElem? (i := 30) rfl) rfl
set_option maxRecDepth 20000 in
theorem ml_RX8_165 : Cond.methodLink RX8 165 yX8_has ∈ gk_U := gk_t5 (List.mem_of_getElem? (i := 18) rfl) rfl
set_option maxRecDepth 20000 in
theorem ml_RX8_169 : Cond.methodLink RX8 169 yX8_isInRow ∈ gk_U := gk_t5 (List.mem_of_getElem? (i := 6) rfl) rfl
set_option maxRecDepth 20000 in
theorem ml_RX8_172 : Cond.methodLink RX8 172 yX8_ends ∈ gk_U := gk_t5 (List.mem_of_getElem? (i := 10) rfl) rfl
set_option maxRecDepth 20000 in
theorem ml_RX8_176 : Cond.methodLink RX8 176 yX8_comesTo ∈ gk_U := gk_t5 (List.mem_of_getElem? (i := 14) rfl) rfl
set_option maxRecDepth 20000 in
theorem ml_RX8_180 : Cond.methodLink RX8 180 yX8_actsAt ∈ gk_U := gk_t5 (List.mem_of_getElem? (i := 22) rfl) rfl
set_option maxRecDepth 20000 in
theorem ml_RX8_184 : Cond.methodLink RX8 184 yX8_arrives ∈ gk_U := gk_t5 (List.mem_of_getElem? (i := 42) rfl) rfl
set_option maxRecDepth 20000 in
theorem ml_RX8_187 : Cond.methodLink RX8 187 yX8_notes ∈ gk_U := gk_t5 (List.mem_of_getElem? (i := 54) rfl) rfl
set_option maxRecDepth 20000 in
theorem ml_RX8_190 : Cond.methodLink RX8 190 yX8_rings ∈ gk_U := gk_t5 (List.mem_of_getElem? (i := 46) rfl) rfl
set_option maxRecDepth 20000 in
theorem ml_RX8_193 : Cond.methodLink RX8 193 yX8_wishesBack ∈ gk_U := gk_t5 (List.mem_of_getElem? (i := 50) rfl) rfl
set_option maxRecDepth 20000 in
theorem ml_RX8_196 : Cond.methodLink RX8 196 yX8_goes ∈ gk_U := gk_t5 (List.mem_of_getElem? (i := 2) rfl) rfl
set_option maxRecDepth 20000 in
theorem ml_RX8_199 : Cond.methodLink RX8 199 yX8_settles ∈ gk_U := gk_t5 (List.mem_of_getElem? (i := 58) rfl) rfl
set_option maxRecDepth 20000 in
theorem ml_RX8_202 : Cond.methodLink RX8 202 yX8_dials ∈ gk_U := gk_t4 (List.mem_of_getElem? (i := 238) rfl) rfl
set_option maxRecDepth 20000 in
theorem ml_RX8_205 : Cond.methodLink RX8 205 yX8_rangOn ∈ gk_U := gk_t5 (List.mem_of_getElem? (i := 74) rfl) rfl
set_option maxRecDepth 20000 in
theorem ml_RX8_209 : Cond.methodLink RX8 209 yX8_callsBack ∈ gk_U := gk_t5 (List.mem_of_getElem? (i := 78) rfl) rfl
set_option maxRecDepth 20000 in
theorem ml_RX8_215 : Cond.methodLink RX8 215 yX8_keeps ∈ gk_U := gk_t5 (List.mem_of_getElem? (i := 90) rfl) rfl
set_option maxRecDepth 20000 in
theorem ml_RX8_219 : Cond.methodLink RX8 219 yX8_keepsAll ∈ gk_U := gk_t5 (List.mem_of_getElem? (i := 86) rfl) rfl
set_option maxRecDepth 20000 in
theorem ml_RX8_230 : Cond.methodLink RX8 230 yX8_isCall ∈ gk_U := gk_t5 (List.mem_of_getElem? (i := 110) rfl) rfl
set_option maxRecDepth 20000 in
theorem ml_RX8_233 : Cond.methodLink RX8 233 yX8_isTold ∈ gk_U := gk_t5 (List.mem_of_getElem? (i := 130) rfl) rfl
set_option maxRecDepth 20000 in
theorem ml_RX8_239 : Cond.methodLink RX8 239 yX8_dial ∈ gk_U := gk_t5 (List.mem_of_getElem? (i := 171) rfl) rfl
set_option maxRecDepth 20000 in
theorem ml_RX8_242 : Cond.methodLink RX8 242 yX8_take ∈ gk_U := gk_t5 (List.mem_of_getElem? (i := 172) rfl) rfl
set_option maxRecDepth 20000 in
theorem ml_RX8_245 : Cond.methodLink RX8 245 yX8_down ∈ gk_U := gk_t5 (List.mem_of_getElem? (i := 173) rfl) rfl
set_option maxRecDepth 20000 in
theorem ml_RX8_248 : Cond.methodLink RX8 248 yX8_tick ∈ gk_U := gk_t5 (List.mem_of_getElem? (i := 174) rfl) rfl
set_option maxRecDepth 20000 in
theorem ml_RX8_252 : Cond.methodLink RX8 252 yX8_empties ∈ gk_U := gk_t5 (List.mem_of_getElem? (i := 163) rfl) rfl
set_option maxRecDepth 20000 in
theorem ml_RX8_255 : Cond.methodLink RX8 255 yX8_isDone ∈ gk_U := gk_t5 (List.mem_of_getElem? (i := 167) rfl) rfl
set_option maxRecDepth 20000 in
theorem ml_RX8_258 : Cond.methodLink RX8 258 yX8_isBroken ∈ gk_U := gk_t5 (List.mem_of_getElem? (i := 175) rfl) rfl
set_option maxRecDepth 20000 in
theorem ml_RX8_261 : Cond.methodLink RX8 261 yX8_findDeeds ∈ gk_U := gk_t5 (List.mem_of_getElem? (i := 155) rfl) rfl
set_option maxRecDepth 20000 in
theorem ml_RX8_264 : Cond.methodLink RX8 264 yX8_breaks ∈ gk_U := gk_t5 (List.mem_of_getElem? (i := 159) rfl) rfl
set_option maxRecDepth 20000 in
theorem ml_RX8_269 : Cond.methodLink RX8 269 yX8_bits ∈ gk_U := gk_t5 (List.mem_of_getElem? (i := 147) rfl) rfl
set_option maxRecDepth 20000 in
theorem ml_RX8_274 : Cond.methodLink RX8 274 yX8_isAsked ∈ gk_U := gk_t5 (List.mem_of_getElem? (i := 142) rfl) rfl
set_option maxRecDepth 20000 in
theorem ml_RX8_277 : Cond.methodLink RX8 277 yX8_search ∈ gk_U := gk_t5 (List.mem_of_getElem? (i := 151) rfl) rfl
set_option maxRecDepth 20000 in
theorem ml_RX8_283 : Cond.methodLink RX8 283 yX8_isOfThese ∈ gk_U := gk_t5 (List.mem_of_getElem? (i := 187) rfl) rfl
set_option maxRecDepth 20000 in
theorem ml_RX8_289 : Cond.methodLink RX8 289 yX8_traces ∈ gk_U := gk_t5 (List.mem_of_getElem? (i := 207) rfl) rfl
set_option maxRecDepth 20000 in
theorem ml_RX8_291 : Cond.methodLink RX8 291 yX8_plainHear ∈ gk_U := gk_t5 (List.mem_of_getElem? (i := 215) rfl) rfl
set_option maxRecDepth 20000 in
theorem ml_RX8_294 : Cond.methodLink RX8 294 yX8_shutHear ∈ gk_U := gk_t5 (List.mem_of_getElem? (i := 211) rfl) rfl
set_option maxRecDepth 20000 in
theorem ml_RX8_297 : Cond.methodLink RX8 297 yX8_pay ∈ gk_U := gk_t5 (List.mem_of_getElem? (i := 219) rfl) rfl
set_option maxRecDepth 20000 in
theorem ml_RX8_300 : Cond.methodLink RX8 300 yX8_plainPay ∈ gk_U := gk_t5 (List.mem_of_getElem? (i := 223) rfl) rfl
set_option maxRecDepth 20000 in
theorem ml_RX8_303 : Cond.methodLink RX8 303 yX8_hear ∈ gk_U := gk_t5 (List.mem_of_getElem? (i := 203) rfl) rfl
set_option maxRecDepth 20000 in
theorem ml_RX8_306 : Cond.methodLink RX8 306 yX8_plainTurn ∈ gk_U := gk_t5 (List.mem_of_getElem? (i := 231) rfl) rfl
set_option maxRecDepth 20000 in
theorem ml_RX8_309 : Cond.methodLink RX8 309 yX8_turn ∈ gk_U := gk_t5 (List.mem_of_getElem? (i := 227) rfl) rfl
set_option maxRecDepth 20000 in
theorem ml_RX8_312 : Cond.methodLink RX8 312 yX8_plainEnd ∈ gk_U := gk_t5 (List.mem_of_getElem? (i := 239) rfl) rfl
set_option maxRecDepth 20000 in
theorem ml_RX8_315 : Cond.methodLink RX8 315 yX8_end ∈ gk_U := gk_t5 (List.mem_of_getElem? (i := 235) rfl) rfl
set_option maxRecDepth 20000 in
theorem ml_RX8_326 : Cond.methodLink RX8 326 yX8_byteOf ∈ gk_U := gk_t6 (List.mem_of_getElem? (i := 19) rfl) rfl
set_option maxRecDepth 20000 in
theorem ml_RX8_337 : Cond.methodLink RX8 337 yX8_modulo ∈ gk_U := gk_t6 (List.mem_of_getElem? (i := 34) rfl) rfl
set_option maxRecDepth 20000 in
theorem ml_RX8_340 : Cond.methodLink RX8 340 yX8_copied ∈ gk_U := gk_t6 (List.mem_of_getElem? (i := 37) rfl) rfl
set_option maxRecDepth 20000 in
theorem cl_RJ6_265 : Cond.constant RJ6 265 1431655765 ∈ gk_U := gk_t3 (List.mem_of_getElem? (i := 116) rfl) rfl
set_option maxRecDepth 20000 in
theorem cl_RJ6_266 : Cond.constant RJ6 266 858993459 ∈ gk_U := gk_t3 (List.mem_of_getElem? (i := 117) rfl) rfl
set_option maxRecDepth 20000 in
theorem cl_RJ6_267 : Cond.constant RJ6 267 252645135 ∈ gk_U := gk_t3 (List.mem_of_getElem? (i := 118) rfl) rfl
set_option maxRecDepth 20000 in
theorem cl_RX1_46 : Cond.constantLong RX1 46 31 ∈ gk_U := gk_t3 (List.mem_of_getElem? (i := 88) rfl) rfl
set_option maxRecDepth 20000 in
theorem cl_RX8_124 : Cond.constantLong RX8 124 7 ∈ gk_U := gk_t4 (List.mem_of_getElem? (i := 204) rfl) rfl
set_option maxRecDepth 20000 in
theorem cl_RX8_130 : Cond.constantLong RX8 130 9 ∈ gk_U := gk_t4 (List.mem_of_getElem? (i := 208) rfl) rfl
set_option maxRecDepth 20000 in
theorem cl_RX8_132 : Cond.constantLong RX8 132 31 ∈ gk_U := gk_t4 (List.mem_of_getElem? (i := 209) rfl) rfl
set_option maxRecDepth 20000 in
theorem cl_RX8_267 : Cond.constantLong RX8 267 2 ∈ gk_U := gk_t5 (List.mem_of_getElem? (i := 146) rfl) rfl
set_option maxRecDepth 20000 in
theorem cl_RX8_272 : Cond.constantLong RX8 272 3 ∈ gk_U := gk_t5 (List.mem_of_getElem? (i := 150) rfl) rfl
set_option maxRecDepth 20000 in
theorem cl_RX8_318 : Cond.constantLong RX8 318 (-1) ∈ gk_U := gk_t6 (List.mem_of_getElem? (i := 11) rfl) rfl
set_option maxRecDepth 20000 in
theorem cl_RX8_320 : Cond.constantLong RX8 320 40 ∈ gk_U := gk_t6 (List.mem_of_getElem? (i := 12) rfl) rfl
set_option maxRecDepth 20000 in
theorem cl_RX8_322 : Cond.constantLong RX8 322 (-1000) ∈ gk_U := gk_t6 (List.mem_of_getElem? (i := 17) rfl) rfl
set_option maxRecDepth 20000 in
theorem cl_RX8_324 : Cond.constantLong RX8 324 1000 ∈ gk_U := gk_t6 (List.mem_of_getElem? (i := 18) rfl) rfl
set_option maxRecDepth 20000 in
theorem cl_RX8_329 : Cond.constantLong RX8 329 5 ∈ gk_U := gk_t6 (List.mem_of_getElem? (i := 26) rfl) rfl
set_option maxRecDepth 20000 in
theorem cl_RX8_331 : Cond.constantLong RX8 331 6 ∈ gk_U := gk_t6 (List.mem_of_getElem? (i := 31) rfl) rfl
set_option maxRecDepth 20000 in
theorem cl_RX8_333 : Cond.constantLong RX8 333 (-100) ∈ gk_U := gk_t6 (List.mem_of_getElem? (i := 32) rfl) rfl
set_option maxRecDepth 20000 in
theorem cl_RX8_335 : Cond.constantLong RX8 335 100 ∈ gk_U := gk_t6 (List.mem_of_getElem? (i := 33) rfl) rfl
set_option maxRecDepth 20000 in
theorem ok_X0_begin : gk_OV yX0_begin cX0_begin 2 none 1 := ⟨gk_t3 (List.mem_of_getElem? (i := 206) rfl) rfl, gk_ts (List.mem_of_getElem? (i := 6) rfl) rfl, gk_t1 (List.mem_of_getElem? (i := 7) rfl) rfl, gk_t3 (List.mem_of_getElem? (i := 207) rfl) rfl, by decide +kernel, by decide⟩
set_option maxRecDepth 20000 in
theorem ok_X0_hear : gk_OV yX0_hear cX0_hear 3 (some .int) 2 := ⟨gk_t3 (List.mem_of_getElem? (i := 202) rfl) rfl, gk_ts (List.mem_of_getElem? (i := 5) rfl) rfl, gk_t1 (List.mem_of_getElem? (i := 7) rfl) rfl, gk_t3 (List.mem_of_getElem? (i := 203) rfl) rfl, by decide +kernel, by decide⟩
set_option maxRecDepth 20000 in
theorem ok_X0_pay : gk_OV yX0_pay cX0_pay 3 (some .int) 2 := ⟨gk_t3 (List.mem_of_getElem? (i := 210) rfl) rfl, gk_ts (List.mem_of_getElem? (i := 7) rfl) rfl, gk_t1 (List.mem_of_getElem? (i := 7) rfl) rfl, gk_t3 (List.mem_of_getElem? (i := 211) rfl) rfl, by decide +kernel, by decide⟩
set_option maxRecDepth 20000 in
theorem ok_X0_turn : gk_OV yX0_turn cX0_turn 3 (some .int) 2 := ⟨gk_t3 (List.mem_of_getElem? (i := 214) rfl) rfl, gk_ts (List.mem_of_getElem? (i := 8) rfl) rfl, gk_t1 (List.mem_of_getElem? (i := 7) rfl) rfl, gk_t3 (List.mem_of_getElem? (i := 215) rfl) rfl, by decide +kernel, by decide⟩
set_option maxRecDepth 20000 in
theorem ok_X0_end : gk_OV yX0_end cX0_end 3 (some .int) 2 := ⟨gk_t3 (List.mem_of_getElem? (i := 218) rfl) rfl, gk_ts (List.mem_of_getElem? (i := 9) rfl) rfl, gk_t1 (List.mem_of_getElem? (i := 7) rfl) rfl, gk_t3 (List.mem_of_getElem? (i := 219) rfl) rfl, by decide +kernel, by decide⟩
set_option maxRecDepth 20000 in
theorem ok_X1_lineAt : gk_OV yX1_lineAt cX1_lineAt 2 (some .int) 1 := ⟨gk_t2 (List.mem_of_getElem? (i := 151) rfl) rfl, gk_t2 (List.mem_of_getElem? (i := 152) rfl) rfl, gk_t1 (List.mem_of_getElem? (i := 5) rfl) rfl, gk_t2 (List.mem_of_getElem? (i := 153) rfl) rfl, by decide +kernel, by decide⟩
set_option maxRecDepth 20000 in
theorem ok_J9_min_7cf53 : gk_OS yJ9_min_7cf53 cJ9_min_7cf53 2 (some .int) 2 := ⟨gk_t3 (List.mem_of_getElem? (i := 27) rfl) rfl, gk_t1 (List.mem_of_getElem? (i := 10) rfl) rfl, gk_t3 (List.mem_of_getElem? (i := 28) rfl) rfl, by decide +kernel, by decide⟩
set_option maxRecDepth 20000 in
theorem ok_X1_copyFrom : gk_OV yX1_copyFrom cX1_copyFrom 2 none 1 := ⟨gk_t3 (List.mem_of_getElem? (i := 30) rfl) rfl, gk_t3 (List.mem_of_getElem? (i := 31) rfl) rfl, gk_t1 (List.mem_of_getElem? (i := 5) rfl) rfl, gk_t3 (List.mem_of_getElem? (i := 32) rfl) rfl, by decide +kernel, by decide⟩
set_option maxRecDepth 20000 in
theorem ok_X2_isFree : gk_OV yX2_isFree cX2_isFree 2 (some .boolean) 1 := ⟨gk_t2 (List.mem_of_getElem? (i := 122) rfl) rfl, gk_t2 (List.mem_of_getElem? (i := 123) rfl) rfl, gk_t1 (List.mem_of_getElem? (i := 2) rfl) rfl, gk_t2 (List.mem_of_getElem? (i := 124) rfl) rfl, by decide +kernel, by decide⟩
set_option maxRecDepth 20000 in
theorem ok_X2_isRinging : gk_OV yX2_isRinging cX2_isRinging 2 (some .boolean) 1 := ⟨gk_t2 (List.mem_of_getElem? (i := 208) rfl) rfl, gk_t2 (List.mem_of_getElem? (i := 209) rfl) rfl, gk_t1 (List.mem_of_getElem? (i := 2) rfl) rfl, gk_t2 (List.mem_of_getElem? (i := 210) rfl) rfl, by decide +kernel, by decide⟩
set_option maxRecDepth 20000 in
theorem ok_X5_isOnFor : gk_OV yX5_isOnFor cX5_isOnFor 2 (some .boolean) 1 := ⟨gk_t2 (List.mem_of_getElem? (i := 172) rfl) rfl, gk_t2 (List.mem_of_getElem? (i := 173) rfl) rfl, gk_t1 (List.mem_of_getElem? (i := 4) rfl) rfl, gk_t2 (List.mem_of_getElem? (i := 174) rfl) rfl, by decide +kernel, by decide⟩
set_option maxRecDepth 20000 in
theorem ok_X6_hides : gk_OV yX6_hides cX6_hides 5 (some .boolean) 2 := ⟨gk_t3 (List.mem_of_getElem? (i := 98) rfl) rfl, gk_t3 (List.mem_of_getElem? (i := 99) rfl) rfl, gk_t1 (List.mem_of_getElem? (i := 3) rfl) rfl, gk_t3 (List.mem_of_getElem? (i := 100) rfl) rfl, by decide +kernel, by decide⟩
set_option maxRecDepth 20000 in
theorem ok_X2_hasRoom : gk_OV yX2_hasRoom cX2_hasRoom 1 (some .boolean) 0 := ⟨gk_t2 (List.mem_of_getElem? (i := 118) rfl) rfl, gk_t2 (List.mem_of_getElem? (i := 119) rfl) rfl, gk_t1 (List.mem_of_getElem? (i := 2) rfl) rfl, gk_t2 (List.mem_of_getElem? (i := 120) rfl) rfl, by decide +kernel, by decide⟩
set_option maxRecDepth 20000 in
theorem ok_X1_open : gk_OV yX1_open cX1_open 2 none 1 := ⟨gk_t2 (List.mem_of_getElem? (i := 135) rfl) rfl, gk_t2 (List.mem_of_getElem? (i := 136) rfl) rfl, gk_t1 (List.mem_of_getElem? (i := 5) rfl) rfl, gk_t2 (List.mem_of_getElem? (i := 137) rfl) rfl, by decide +kernel, by decide⟩
set_option maxRecDepth 20000 in
theorem ok_X5_shutsOut : gk_OV yX5_shutsOut cX5_shutsOut 6 (some .boolean) 3 := ⟨gk_t2 (List.mem_of_getElem? (i := 176) rfl) rfl, gk_t2 (List.mem_of_getElem? (i := 177) rfl) rfl, gk_t1 (List.mem_of_getElem? (i := 4) rfl) rfl, gk_t2 (List.mem_of_getElem? (i := 178) rfl) rfl, by decide +kernel, by decide⟩
set_option maxRecDepth 20000 in
theorem ok_X5_sendsOn : gk_OV yX5_sendsOn cX5_sendsOn 2 (some .boolean) 1 := ⟨gk_t2 (List.mem_of_getElem? (i := 180) rfl) rfl, gk_t2 (List.mem_of_getElem? (i := 181) rfl) rfl, gk_t1 (List.mem_of_getElem? (i := 4) rfl) rfl, gk_t2 (List.mem_of_getElem? (i := 182) rfl) rfl, by decide +kernel, by decide⟩
set_option maxRecDepth 20000 in
theorem ok_X2_close : gk_OV yX2_close cX2_close 3 none 2 := ⟨gk_t2 (List.mem_of_getElem? (i := 155) rfl) rfl, gk_t2 (List.mem_of_getElem? (i := 156) rfl) rfl, gk_t1 (List.mem_of_getElem? (i := 2) rfl) rfl, gk_t2 (List.mem_of_getElem? (i := 157) rfl) rfl, by decide +kernel, by decide⟩
set_option maxRecDepth 20000 in
theorem ok_X6_has : gk_OV yX6_has cX6_has 5 (some .boolean) 2 := ⟨gk_t2 (List.mem_of_getElem? (i := 159) rfl) rfl, gk_t2 (List.mem_of_getElem? (i := 160) rfl) rfl, gk_t1 (List.mem_of_getElem? (i := 3) rfl) rfl, gk_t2 (List.mem_of_getElem? (i := 161) rfl) rfl, by decide +kernel, by decide⟩
set_option maxRecDepth 20000 in
theorem ok_X2_addBack : gk_OV yX2_addBack cX2_addBack 4 none 2 := ⟨gk_t2 (List.mem_of_getElem? (i := 188) rfl) rfl, gk_t2 (List.mem_of_getElem? (i := 189) rfl) rfl, gk_t1 (List.mem_of_getElem? (i := 2) rfl) rfl, gk_t2 (List.mem_of_getElem? (i := 190) rfl) rfl, by decide +kernel, by decide⟩
set_option maxRecDepth 20000 in
theorem ok_X2_ringAt : gk_OV yX2_ringAt cX2_ringAt 5 none 2 := ⟨gk_t2 (List.mem_of_getElem? (i := 192) rfl) rfl, gk_t2 (List.mem_of_getElem? (i := 193) rfl) rfl, gk_t1 (List.mem_of_getElem? (i := 2) rfl) rfl, gk_t2 (List.mem_of_getElem? (i := 194) rfl) rfl, by decide +kernel, by decide⟩
set_option maxRecDepth 20000 in
theorem ok_X2_isCall : gk_OV yX2_isCall cX2_isCall 2 (some .boolean) 1 := ⟨gk_t2 (List.mem_of_getElem? (i := 143) rfl) rfl, gk_t2 (List.mem_of_getElem? (i := 144) rfl) rfl, gk_t1 (List.mem_of_getElem? (i := 2) rfl) rfl, gk_t2 (List.mem_of_getElem? (i := 145) rfl) rfl, by decide +kernel, by decide⟩
set_option maxRecDepth 20000 in
theorem ok_X1_comesRoundTo : gk_OV yX1_comesRoundTo cX1_comesRoundTo 3 (some .boolean) 1 := ⟨gk_t2 (List.mem_of_getElem? (i := 147) rfl) rfl, gk_t2 (List.mem_of_getElem? (i := 148) rfl) rfl, gk_t1 (List.mem_of_getElem? (i := 5) rfl) rfl, gk_t2 (List.mem_of_getElem? (i := 149) rfl) rfl, by decide +kernel, by decide⟩
set_option maxRecDepth 20000 in
theorem ok_X1_enter : gk_OV yX1_enter cX1_enter 3 none 2 := ⟨gk_t2 (List.mem_of_getElem? (i := 163) rfl) rfl, gk_t2 (List.mem_of_getElem? (i := 164) rfl) rfl, gk_t1 (List.mem_of_getElem? (i := 5) rfl) rfl, gk_t2 (List.mem_of_getElem? (i := 165) rfl) rfl, by decide +kernel, by decide⟩
set_option maxRecDepth 20000 in
theorem ok_X2_firstThatActs : gk_OV yX2_firstThatActs cX2_firstThatActs 11 (some .int) 3 := ⟨gk_t2 (List.mem_of_getElem? (i := 167) rfl) rfl, gk_t2 (List.mem_of_getElem? (i := 168) rfl) rfl, gk_t1 (List.mem_of_getElem? (i := 2) rfl) rfl, gk_t2 (List.mem_of_getElem? (i := 169) rfl) rfl, by decide +kernel, by decide⟩
set_option maxRecDepth 20000 in
theorem ok_X2_arrive : gk_OV yX2_arrive cX2_arrive 7 none 2 := ⟨gk_t2 (List.mem_of_getElem? (i := 184) rfl) rfl, gk_t2 (List.mem_of_getElem? (i := 185) rfl) rfl, gk_t1 (List.mem_of_getElem? (i := 2) rfl) rfl, gk_t2 (List.mem_of_getElem? (i := 186) rfl) rfl, by decide +kernel, by decide⟩
set_option maxRecDepth 20000 in
theorem ok_X1_note : gk_OV yX1_note cX1_note 2 none 1 := ⟨gk_t2 (List.mem_of_getElem? (i := 196) rfl) rfl, gk_t2 (List.mem_of_getElem? (i := 197) rfl) rfl, gk_t1 (List.mem_of_getElem? (i := 5) rfl) rfl, gk_t2 (List.mem_of_getElem? (i := 198) rfl) rfl, by decide +kernel, by decide⟩
set_option maxRecDepth 20000 in
theorem ok_X2_opened : gk_OV yX2_opened cX2_opened 2 (some .int) 1 := ⟨gk_t2 (List.mem_of_getElem? (i := 130) rfl) rfl, gk_t2 (List.mem_of_getElem? (i := 131) rfl) rfl, gk_t1 (List.mem_of_getElem? (i := 2) rfl) rfl, gk_t2 (List.mem_of_getElem? (i := 132) rfl) rfl, by decide +kernel, by decide⟩
set_option maxRecDepth 20000 in
theorem ok_X2_go : gk_OV yX2_go cX2_go 10 none 3 := ⟨gk_t2 (List.mem_of_getElem? (i := 139) rfl) rfl, gk_t2 (List.mem_of_getElem? (i := 140) rfl) rfl, gk_t1 (List.mem_of_getElem? (i := 2) rfl) rfl, gk_t2 (List.mem_of_getElem? (i := 141) rfl) rfl, by decide +kernel, by decide⟩
set_option maxRecDepth 20000 in
theorem ok_X2_settle : gk_OV yX2_settle cX2_settle 3 none 0 := ⟨gk_t2 (List.mem_of_getElem? (i := 200) rfl) rfl, gk_t2 (List.mem_of_getElem? (i := 201) rfl) rfl, gk_t1 (List.mem_of_getElem? (i := 2) rfl) rfl, gk_t2 (List.mem_of_getElem? (i := 202) rfl) rfl, by decide +kernel, by decide⟩
set_option maxRecDepth 20000 in
theorem ok_X2_silence : gk_OV yX2_silence cX2_silence 3 none 1 := ⟨gk_t2 (List.mem_of_getElem? (i := 216) rfl) rfl, gk_t2 (List.mem_of_getElem? (i := 217) rfl) rfl, gk_t1 (List.mem_of_getElem? (i := 2) rfl) rfl, gk_t2 (List.mem_of_getElem? (i := 218) rfl) rfl, by decide +kernel, by decide⟩
set_option maxRecDepth 20000 in
theorem ok_X1_payerAt : gk_OV yX1_payerAt cX1_payerAt 2 (some .int) 1 := ⟨gk_t3 (List.mem_of_getElem? (i := 5) rfl) rfl, gk_t3 (List.mem_of_getElem? (i := 6) rfl) rfl, gk_t1 (List.mem_of_getElem? (i := 5) rfl) rfl, gk_t3 (List.mem_of_getElem? (i := 7) rfl) rfl, by decide +kernel, by decide⟩
set_option maxRecDepth 20000 in
theorem ok_X2_charge : gk_OV yX2_charge cX2_charge 4 none 0 := ⟨gk_t3 (List.mem_of_getElem? (i := 1) rfl) rfl, gk_t3 (List.mem_of_getElem? (i := 2) rfl) rfl, gk_t1 (List.mem_of_getElem? (i := 2) rfl) rfl, gk_t3 (List.mem_of_getElem? (i := 3) rfl) rfl, by decide +kernel, by decide⟩
set_option maxRecDepth 20000 in
theorem ok_X2_dropBack : gk_OV yX2_dropBack cX2_dropBack 3 none 1 := ⟨gk_t3 (List.mem_of_getElem? (i := 15) rfl) rfl, gk_t3 (List.mem_of_getElem? (i := 16) rfl) rfl, gk_t1 (List.mem_of_getElem? (i := 2) rfl) rfl, gk_t3 (List.mem_of_getElem? (i := 17) rfl) rfl, by decide +kernel, by decide⟩
set_option maxRecDepth 20000 in
theorem ok_X6_onwardAfter : gk_OV yX6_onwardAfter cX6_onwardAfter 7 (some .int) 2 := ⟨gk_t3 (List.mem_of_getElem? (i := 10) rfl) rfl, gk_t3 (List.mem_of_getElem? (i := 11) rfl) rfl, gk_t1 (List.mem_of_getElem? (i := 3) rfl) rfl, gk_t3 (List.mem_of_getElem? (i := 12) rfl) rfl, by decide +kernel, by decide⟩
set_option maxRecDepth 20000 in
theorem ok_X2_canHangUp : gk_OV yX2_canHangUp cX2_canHangUp 2 (some .boolean) 1 := ⟨gk_t2 (List.mem_of_getElem? (i := 224) rfl) rfl, gk_t2 (List.mem_of_getElem? (i := 225) rfl) rfl, gk_t1 (List.mem_of_getElem? (i := 2) rfl) rfl, gk_t2 (List.mem_of_getElem? (i := 226) rfl) rfl, by decide +kernel, by decide⟩
set_option maxRecDepth 20000 in
theorem ok_X2_connect : gk_OV yX2_connect cX2_connect 4 (some .int) 2 := ⟨gk_t2 (List.mem_of_getElem? (i := 126) rfl) rfl, gk_t2 (List.mem_of_getElem? (i := 127) rfl) rfl, gk_t1 (List.mem_of_getElem? (i := 2) rfl) rfl, gk_t2 (List.mem_of_getElem? (i := 128) rfl) rfl, by decide +kernel, by decide⟩
set_option maxRecDepth 20000 in
theorem ok_X2_answer : gk_OV yX2_answer cX2_answer 4 (some .int) 1 := ⟨gk_t2 (List.mem_of_getElem? (i := 212) rfl) rfl, gk_t2 (List.mem_of_getElem? (i := 213) rfl) rfl, gk_t1 (List.mem_of_getElem? (i := 2) rfl) rfl, gk_t2 (List.mem_of_getElem? (i := 214) rfl) rfl, by decide +kernel, by decide⟩
set_option maxRecDepth 20000 in
theorem ok_X2_hangUp : gk_OV yX2_hangUp cX2_hangUp 3 (some .int) 1 := ⟨gk_t2 (List.mem_of_getElem? (i := 229) rfl) rfl, gk_t2 (List.mem_of_getElem? (i := 230) rfl) rfl, gk_t1 (List.mem_of_getElem? (i := 2) rfl) rfl, gk_t2 (List.mem_of_getElem? (i := 231) rfl) rfl, by decide +kernel, by decide⟩
set_option maxRecDepth 20000 in
theorem ok_X2_pass : gk_OV yX2_pass cX2_pass 6 none 0 := ⟨gk_t2 (List.mem_of_getElem? (i := 237) rfl) rfl, gk_t2 (List.mem_of_getElem? (i := 238) rfl) rfl, gk_t1 (List.mem_of_getElem? (i := 2) rfl) rfl, gk_t2 (List.mem_of_getElem? (i := 239) rfl) rfl, by decide +kernel, by decide⟩
set_option maxRecDepth 20000 in
theorem ok_X2_isTold : gk_OV yX2_isTold cX2_isTold 4 (some .boolean) 2 := ⟨gk_t3 (List.mem_of_getElem? (i := 94) rfl) rfl, gk_t3 (List.mem_of_getElem? (i := 95) rfl) rfl, gk_t1 (List.mem_of_getElem? (i := 2) rfl) rfl, gk_t3 (List.mem_of_getElem? (i := 96) rfl) rfl, by decide +kernel, by decide⟩
set_option maxRecDepth 20000 in
theorem ok_X5_copyFrom : gk_OV yX5_copyFrom cX5_copyFrom 2 none 1 := ⟨gk_t3 (List.mem_of_getElem? (i := 38) rfl) rfl, gk_t3 (List.mem_of_getElem? (i := 39) rfl) rfl, gk_t1 (List.mem_of_getElem? (i := 4) rfl) rfl, gk_t3 (List.mem_of_getElem? (i := 40) rfl) rfl, by decide +kernel, by decide⟩
set_option maxRecDepth 20000 in
theorem ok_X3_list : gk_OV yX3_list cX3_list 2 none 1 := ⟨gk_t3 (List.mem_of_getElem? (i := 125) rfl) rfl, gk_t3 (List.mem_of_getElem? (i := 126) rfl) rfl, gk_t1 (List.mem_of_getElem? (i := 6) rfl) rfl, gk_t3 (List.mem_of_getElem? (i := 127) rfl) rfl, by decide +kernel, by decide⟩
set_option maxRecDepth 20000 in
theorem ok_X6_copyFrom : gk_OV yX6_copyFrom cX6_copyFrom 3 none 1 := ⟨gk_t3 (List.mem_of_getElem? (i := 34) rfl) rfl, gk_t3 (List.mem_of_getElem? (i := 35) rfl) rfl, gk_t1 (List.mem_of_getElem? (i := 3) rfl) rfl, gk_t3 (List.mem_of_getElem? (i := 36) rfl) rfl, by decide +kernel, by decide⟩
set_option maxRecDepth 20000 in
theorem ok_X3_listOfEach : gk_OV yX3_listOfEach cX3_listOfEach 4 none 2 := ⟨gk_t3 (List.mem_of_getElem? (i := 129) rfl) rfl, gk_t3 (List.mem_of_getElem? (i := 130) rfl) rfl, gk_t1 (List.mem_of_getElem? (i := 6) rfl) rfl, gk_t3 (List.mem_of_getElem? (i := 131) rfl) rfl, by decide +kernel, by decide⟩
set_option maxRecDepth 20000 in
theorem ok_X2_allows : gk_OV yX2_allows cX2_allows 3 (some .boolean) 1 := ⟨gk_t3 (List.mem_of_getElem? (i := 141) rfl) rfl, gk_t3 (List.mem_of_getElem? (i := 142) rfl) rfl, gk_t1 (List.mem_of_getElem? (i := 2) rfl) rfl, gk_t3 (List.mem_of_getElem? (i := 143) rfl) rfl, by decide +kernel, by decide⟩
set_option maxRecDepth 20000 in
theorem ok_X2_copyFrom : gk_OV yX2_copyFrom cX2_copyFrom 3 none 1 := ⟨gk_t3 (List.mem_of_getElem? (i := 23) rfl) rfl, gk_t3 (List.mem_of_getElem? (i := 24) rfl) rfl, gk_t1 (List.mem_of_getElem? (i := 2) rfl) rfl, gk_t3 (List.mem_of_getElem? (i := 25) rfl) rfl, by decide +kernel, by decide⟩
set_option maxRecDepth 20000 in
theorem ok_X2_perform : gk_OV yX2_perform cX2_perform 3 none 1 := ⟨gk_t3 (List.mem_of_getElem? (i := 147) rfl) rfl, gk_t3 (List.mem_of_getElem? (i := 148) rfl) rfl, gk_t1 (List.mem_of_getElem? (i := 2) rfl) rfl, gk_t3 (List.mem_of_getElem? (i := 149) rfl) rfl, by decide +kernel, by decide⟩
set_option maxRecDepth 20000 in
theorem ok_X2_breaks : gk_OV yX2_breaks cX2_breaks 5 (some .boolean) 3 := ⟨gk_t3 (List.mem_of_getElem? (i := 155) rfl) rfl, gk_t3 (List.mem_of_getElem? (i := 156) rfl) rfl, gk_t1 (List.mem_of_getElem? (i := 2) rfl) rfl, gk_t3 (List.mem_of_getElem? (i := 157) rfl) rfl, by decide +kernel, by decide⟩
set_option maxRecDepth 20000 in
theorem ok_X3_search : gk_OV yX3_search cX3_search 8 (some .boolean) 2 := ⟨gk_t3 (List.mem_of_getElem? (i := 138) rfl) rfl, gk_ts (List.mem_of_getElem? (i := 4) rfl) rfl, gk_t1 (List.mem_of_getElem? (i := 6) rfl) rfl, gk_t3 (List.mem_of_getElem? (i := 139) rfl) rfl, by decide +kernel, by decide⟩
set_option maxRecDepth 20000 in
theorem ok_X6_isFull : gk_OV yX6_isFull cX6_isFull 1 (some .boolean) 0 := ⟨gk_t2 (List.mem_of_getElem? (i := 93) rfl) rfl, gk_t2 (List.mem_of_getElem? (i := 94) rfl) rfl, gk_t1 (List.mem_of_getElem? (i := 3) rfl) rfl, gk_t2 (List.mem_of_getElem? (i := 95) rfl) rfl, by decide +kernel, by decide⟩
set_option maxRecDepth 20000 in
theorem ok_X6_placeOf : gk_OV yX6_placeOf cX6_placeOf 7 (some .int) 1 := ⟨gk_t3 (List.mem_of_getElem? (i := 62) rfl) rfl, gk_t3 (List.mem_of_getElem? (i := 63) rfl) rfl, gk_t1 (List.mem_of_getElem? (i := 3) rfl) rfl, gk_t3 (List.mem_of_getElem? (i := 64) rfl) rfl, by decide +kernel, by decide⟩
set_option maxRecDepth 20000 in
theorem ok_X5_isOfThoseThatAct : gk_OV yX5_isOfThoseThatAct cX5_isOfThoseThatAct 1 (some .boolean) 0 := ⟨gk_t3 (List.mem_of_getElem? (i := 171) rfl) rfl, gk_t3 (List.mem_of_getElem? (i := 172) rfl) rfl, gk_t1 (List.mem_of_getElem? (i := 4) rfl) rfl, gk_t3 (List.mem_of_getElem? (i := 173) rfl) rfl, by decide +kernel, by decide⟩
set_option maxRecDepth 20000 in
theorem ok_X7_done : gk_OV yX7_done cX7_done 2 (some .int) 1 := ⟨gk_t2 (List.mem_of_getElem? (i := 75) rfl) rfl, gk_ts (List.mem_of_getElem? (i := 1) rfl) rfl, gk_t1 (List.mem_of_getElem? (i := 1) rfl) rfl, gk_t2 (List.mem_of_getElem? (i := 76) rfl) rfl, by decide +kernel, by decide⟩
set_option maxRecDepth 20000 in
theorem ok_X7_refused : gk_OV yX7_refused cX7_refused 2 (some .int) 1 := ⟨gk_t2 (List.mem_of_getElem? (i := 71) rfl) rfl, gk_ts (List.mem_of_getElem? (i := 0) rfl) rfl, gk_t1 (List.mem_of_getElem? (i := 1) rfl) rfl, gk_t2 (List.mem_of_getElem? (i := 72) rfl) rfl, by decide +kernel, by decide⟩
set_option maxRecDepth 20000 in
theorem ok_X2_isLine : gk_OV yX2_isLine cX2_isLine 2 (some .boolean) 1 := ⟨gk_t2 (List.mem_of_getElem? (i := 86) rfl) rfl, gk_t2 (List.mem_of_getElem? (i := 87) rfl) rfl, gk_t1 (List.mem_of_getElem? (i := 2) rfl) rfl, gk_t2 (List.mem_of_getElem? (i := 88) rfl) rfl, by decide +kernel, by decide⟩
set_option maxRecDepth 20000 in
theorem ok_X7_isRank : gk_OS yX7_isRank cX7_isRank 1 (some .boolean) 1 := ⟨gk_t2 (List.mem_of_getElem? (i := 90) rfl) rfl, gk_t1 (List.mem_of_getElem? (i := 1) rfl) rfl, gk_t2 (List.mem_of_getElem? (i := 91) rfl) rfl, by decide +kernel, by decide⟩
set_option maxRecDepth 20000 in
theorem ok_X7_isWish : gk_OV yX7_isWish cX7_isWish 8 (some .boolean) 5 := ⟨gk_t2 (List.mem_of_getElem? (i := 83) rfl) rfl, gk_ts (List.mem_of_getElem? (i := 2) rfl) rfl, gk_t1 (List.mem_of_getElem? (i := 1) rfl) rfl, gk_t2 (List.mem_of_getElem? (i := 84) rfl) rfl, by decide +kernel, by decide⟩
set_option maxRecDepth 20000 in
theorem ok_X6_added : gk_OV yX6_added cX6_added 7 (some .int) 5 := ⟨gk_t2 (List.mem_of_getElem? (i := 97) rfl) rfl, gk_t2 (List.mem_of_getElem? (i := 98) rfl) rfl, gk_t1 (List.mem_of_getElem? (i := 3) rfl) rfl, gk_t2 (List.mem_of_getElem? (i := 99) rfl) rfl, by decide +kernel, by decide⟩
set_option maxRecDepth 20000 in
theorem ok_X6_holds : gk_OV yX6_holds cX6_holds 2 (some .boolean) 1 := ⟨gk_t2 (List.mem_of_getElem? (i := 106) rfl) rfl, gk_t2 (List.mem_of_getElem? (i := 107) rfl) rfl, gk_t1 (List.mem_of_getElem? (i := 3) rfl) rfl, gk_t2 (List.mem_of_getElem? (i := 108) rfl) rfl, by decide +kernel, by decide⟩
set_option maxRecDepth 20000 in
theorem ok_X6_countOn : gk_OV yX6_countOn cX6_countOn 4 (some .int) 1 := ⟨gk_t3 (List.mem_of_getElem? (i := 54) rfl) rfl, gk_t3 (List.mem_of_getElem? (i := 55) rfl) rfl, gk_t1 (List.mem_of_getElem? (i := 3) rfl) rfl, gk_t3 (List.mem_of_getElem? (i := 56) rfl) rfl, by decide +kernel, by decide⟩
set_option maxRecDepth 20000 in
theorem ok_X6_inOrder : gk_OV yX6_inOrder cX6_inOrder 4 (some .int) 2 := ⟨gk_t3 (List.mem_of_getElem? (i := 58) rfl) rfl, gk_t3 (List.mem_of_getElem? (i := 59) rfl) rfl, gk_t1 (List.mem_of_getElem? (i := 3) rfl) rfl, gk_t3 (List.mem_of_getElem? (i := 60) rfl) rfl, by decide +kernel, by decide⟩
set_option maxRecDepth 20000 in
theorem ok_X1_actAt : gk_OV yX1_actAt cX1_actAt 2 (some .int) 1 := ⟨gk_t3 (List.mem_of_getElem? (i := 85) rfl) rfl, gk_t3 (List.mem_of_getElem? (i := 86) rfl) rfl, gk_t1 (List.mem_of_getElem? (i := 5) rfl) rfl, gk_t3 (List.mem_of_getElem? (i := 87) rfl) rfl, by decide +kernel, by decide⟩
set_option maxRecDepth 20000 in
theorem ok_J6_bitCount_0f7a4 : gk_OS yJ6_bitCount_0f7a4 cJ6_bitCount_0f7a4 1 (some .int) 1 := ⟨gk_t3 (List.mem_of_getElem? (i := 114) rfl) rfl, gk_t1 (List.mem_of_getElem? (i := 11) rfl) rfl, gk_t3 (List.mem_of_getElem? (i := 115) rfl) rfl, by decide +kernel, by decide⟩
set_option maxRecDepth 20000 in
theorem ok_X7_isJudged : gk_OV yX7_isJudged cX7_isJudged 8 (some .boolean) 5 := ⟨gk_t3 (List.mem_of_getElem? (i := 111) rfl) rfl, gk_ts (List.mem_of_getElem? (i := 3) rfl) rfl, gk_t1 (List.mem_of_getElem? (i := 1) rfl) rfl, gk_t3 (List.mem_of_getElem? (i := 112) rfl) rfl, by decide +kernel, by decide⟩
set_option maxRecDepth 20000 in
theorem ok_X3_open : gk_OV yX3_open cX3_open 8 none 5 := ⟨gk_t3 (List.mem_of_getElem? (i := 120) rfl) rfl, gk_t3 (List.mem_of_getElem? (i := 121) rfl) rfl, gk_t1 (List.mem_of_getElem? (i := 6) rfl) rfl, gk_t3 (List.mem_of_getElem? (i := 122) rfl) rfl, by decide +kernel, by decide⟩
set_option maxRecDepth 20000 in
theorem ok_X3_find : gk_OV yX3_find cX3_find 3 (some .int) 1 := ⟨gk_t3 (List.mem_of_getElem? (i := 133) rfl) rfl, gk_t3 (List.mem_of_getElem? (i := 134) rfl) rfl, gk_t1 (List.mem_of_getElem? (i := 6) rfl) rfl, gk_t3 (List.mem_of_getElem? (i := 135) rfl) rfl, by decide +kernel, by decide⟩
set_option maxRecDepth 20000 in
theorem ok_X6_leaveAlone : gk_OV yX6_leaveAlone cX6_leaveAlone 3 none 1 := ⟨gk_t3 (List.mem_of_getElem? (i := 175) rfl) rfl, gk_t3 (List.mem_of_getElem? (i := 176) rfl) rfl, gk_t1 (List.mem_of_getElem? (i := 3) rfl) rfl, gk_t3 (List.mem_of_getElem? (i := 177) rfl) rfl, by decide +kernel, by decide⟩
set_option maxRecDepth 20000 in
theorem ok_X2_countOpen : gk_OV yX2_countOpen cX2_countOpen 3 (some .int) 0 := ⟨gk_t3 (List.mem_of_getElem? (i := 189) rfl) rfl, gk_t3 (List.mem_of_getElem? (i := 190) rfl) rfl, gk_t1 (List.mem_of_getElem? (i := 2) rfl) rfl, gk_t3 (List.mem_of_getElem? (i := 191) rfl) rfl, by decide +kernel, by decide⟩
set_option maxRecDepth 20000 in
theorem ok_X0_run : gk_OV yX0_run cX0_run 5 (some .int) 4 := ⟨gk_t3 (List.mem_of_getElem? (i := 197) rfl) rfl, gk_t3 (List.mem_of_getElem? (i := 198) rfl) rfl, gk_t1 (List.mem_of_getElem? (i := 7) rfl) rfl, gk_t3 (List.mem_of_getElem? (i := 199) rfl) rfl, by decide +kernel, by decide⟩
set_option maxRecDepth 20000 in
theorem ok_X4_isSheet : gk_OS yX4_isSheet cX4_isSheet 1 (some .boolean) 1 := ⟨gk_t3 (List.mem_of_getElem? (i := 232) rfl) rfl, gk_t1 (List.mem_of_getElem? (i := 8) rfl) rfl, gk_t3 (List.mem_of_getElem? (i := 233) rfl) rfl, by decide +kernel, by decide⟩
set_option maxRecDepth 20000 in
theorem ok_X4_lay : gk_OV yX4_lay cX4_lay 5 none 3 := ⟨gk_t3 (List.mem_of_getElem? (i := 235) rfl) rfl, gk_t3 (List.mem_of_getElem? (i := 236) rfl) rfl, gk_t1 (List.mem_of_getElem? (i := 8) rfl) rfl, gk_t3 (List.mem_of_getElem? (i := 237) rfl) rfl, by decide +kernel, by decide⟩
set_option maxRecDepth 20000 in
theorem ok_X4_isSort : gk_OS yX4_isSort cX4_isSort 1 (some .boolean) 1 := ⟨gk_t3 (List.mem_of_getElem? (i := 229) rfl) rfl, gk_t1 (List.mem_of_getElem? (i := 8) rfl) rfl, gk_t3 (List.mem_of_getElem? (i := 230) rfl) rfl, by decide +kernel, by decide⟩
set_option maxRecDepth 20000 in
theorem ok_X4_isMissing : gk_OV yX4_isMissing cX4_isMissing 2 (some .boolean) 1 := ⟨gk_t4 (List.mem_of_getElem? (i := 3) rfl) rfl, gk_t4 (List.mem_of_getElem? (i := 4) rfl) rfl, gk_t1 (List.mem_of_getElem? (i := 8) rfl) rfl, gk_t4 (List.mem_of_getElem? (i := 5) rfl) rfl, by decide +kernel, by decide⟩
set_option maxRecDepth 20000 in
theorem ok_X4_hasPlaces : gk_OV yX4_hasPlaces cX4_hasPlaces 4 (some .boolean) 3 := ⟨gk_t4 (List.mem_of_getElem? (i := 7) rfl) rfl, gk_t4 (List.mem_of_getElem? (i := 8) rfl) rfl, gk_t1 (List.mem_of_getElem? (i := 8) rfl) rfl, gk_t4 (List.mem_of_getElem? (i := 9) rfl) rfl, by decide +kernel, by decide⟩
set_option maxRecDepth 20000 in
theorem ok_X4_write : gk_OV yX4_write cX4_write 4 none 3 := ⟨gk_t4 (List.mem_of_getElem? (i := 11) rfl) rfl, gk_t4 (List.mem_of_getElem? (i := 12) rfl) rfl, gk_t1 (List.mem_of_getElem? (i := 8) rfl) rfl, gk_t4 (List.mem_of_getElem? (i := 13) rfl) rfl, by decide +kernel, by decide⟩
set_option maxRecDepth 20000 in
theorem ok_X4_read : gk_OV yX4_read cX4_read 3 (some .int) 2 := ⟨gk_t4 (List.mem_of_getElem? (i := 23) rfl) rfl, gk_t4 (List.mem_of_getElem? (i := 24) rfl) rfl, gk_t1 (List.mem_of_getElem? (i := 8) rfl) rfl, gk_t4 (List.mem_of_getElem? (i := 25) rfl) rfl, by decide +kernel, by decide⟩
set_option maxRecDepth 20000 in
theorem ok_X7_orderedFrom : gk_OV yX7_orderedFrom cX7_orderedFrom 8 (some .int) 2 := ⟨gk_t4 (List.mem_of_getElem? (i := 20) rfl) rfl, gk_ts (List.mem_of_getElem? (i := 10) rfl) rfl, gk_t1 (List.mem_of_getElem? (i := 1) rfl) rfl, gk_t4 (List.mem_of_getElem? (i := 21) rfl) rfl, by decide +kernel, by decide⟩
set_option maxRecDepth 20000 in
theorem ok_J9_floorMod_7cf53 : gk_OS yJ9_floorMod_7cf53 cJ9_floorMod_7cf53 3 (some .int) 2 := ⟨gk_t4 (List.mem_of_getElem? (i := 31) rfl) rfl, gk_t1 (List.mem_of_getElem? (i := 10) rfl) rfl, gk_t4 (List.mem_of_getElem? (i := 32) rfl) rfl, by decide +kernel, by decide⟩
set_option maxRecDepth 20000 in
theorem ok_X7_takenForKind : gk_OV yX7_takenForKind cX7_takenForKind 5 (some .int) 2 := ⟨gk_t4 (List.mem_of_getElem? (i := 35) rfl) rfl, gk_ts (List.mem_of_getElem? (i := 11) rfl) rfl, gk_t1 (List.mem_of_getElem? (i := 1) rfl) rfl, gk_t4 (List.mem_of_getElem? (i := 36) rfl) rfl, by decide +kernel, by decide⟩
set_option maxRecDepth 20000 in
theorem ok_X7_readAsShort : gk_OV yX7_readAsShort cX7_readAsShort 3 (some .int) 2 := ⟨gk_t4 (List.mem_of_getElem? (i := 39) rfl) rfl, gk_ts (List.mem_of_getElem? (i := 12) rfl) rfl, gk_t1 (List.mem_of_getElem? (i := 1) rfl) rfl, gk_t4 (List.mem_of_getElem? (i := 40) rfl) rfl, by decide +kernel, by decide⟩
set_option maxRecDepth 20000 in
theorem ok_X7_copiedAsBytes : gk_OV yX7_copiedAsBytes cX7_copiedAsBytes 5 (some .int) 2 := ⟨gk_t4 (List.mem_of_getElem? (i := 43) rfl) rfl, gk_ts (List.mem_of_getElem? (i := 13) rfl) rfl, gk_t1 (List.mem_of_getElem? (i := 1) rfl) rfl, gk_t4 (List.mem_of_getElem? (i := 44) rfl) rfl, by decide +kernel, by decide⟩
set_option maxRecDepth 20000 in
theorem ok_X7_putAmongShut : gk_OV yX7_putAmongShut cX7_putAmongShut 3 (some .int) 1 := ⟨gk_t4 (List.mem_of_getElem? (i := 47) rfl) rfl, gk_ts (List.mem_of_getElem? (i := 14) rfl) rfl, gk_t1 (List.mem_of_getElem? (i := 1) rfl) rfl, gk_t4 (List.mem_of_getElem? (i := 48) rfl) rfl, by decide +kernel, by decide⟩
set_option maxRecDepth 20000 in
theorem ok_X8_refused : gk_OV yX8_refused cX8_refused 2 (some .int) 1 := ⟨gk_t4 (List.mem_of_getElem? (i := 186) rfl) rfl, gk_ts (List.mem_of_getElem? (i := 15) rfl) rfl, gk_t1 (List.mem_of_getElem? (i := 9) rfl) rfl, gk_t4 (List.mem_of_getElem? (i := 187) rfl) rfl, by decide +kernel, by decide⟩
set_option maxRecDepth 20000 in
theorem ok_X8_done : gk_OV yX8_done cX8_done 2 (some .int) 1 := ⟨gk_t4 (List.mem_of_getElem? (i := 190) rfl) rfl, gk_ts (List.mem_of_getElem? (i := 16) rfl) rfl, gk_t1 (List.mem_of_getElem? (i := 9) rfl) rfl, gk_t4 (List.mem_of_getElem? (i := 191) rfl) rfl, by decide +kernel, by decide⟩
set_option maxRecDepth 20000 in
theorem ok_X8_isLine : gk_OV yX8_isLine cX8_isLine 2 (some .boolean) 1 := ⟨gk_t4 (List.mem_of_getElem? (i := 202) rfl) rfl, gk_ts (List.mem_of_getElem? (i := 18) rfl) rfl, gk_t1 (List.mem_of_getElem? (i := 9) rfl) rfl, gk_t4 (List.mem_of_getElem? (i := 203) rfl) rfl, by decide +kernel, by decide⟩
set_option maxRecDepth 20000 in
theorem ok_X8_isIn : gk_OS yX8_isIn cX8_isIn 6 (some .boolean) 3 := ⟨gk_t4 (List.mem_of_getElem? (i := 206) rfl) rfl, gk_t1 (List.mem_of_getElem? (i := 9) rfl) rfl, gk_t4 (List.mem_of_getElem? (i := 207) rfl) rfl, by decide +kernel, by decide⟩
set_option maxRecDepth 20000 in
theorem ok_X8_isGood : gk_OV yX8_isGood cX8_isGood 6 (some .boolean) 5 := ⟨gk_t4 (List.mem_of_getElem? (i := 198) rfl) rfl, gk_ts (List.mem_of_getElem? (i := 17) rfl) rfl, gk_t1 (List.mem_of_getElem? (i := 9) rfl) rfl, gk_t4 (List.mem_of_getElem? (i := 199) rfl) rfl, by decide +kernel, by decide⟩
set_option maxRecDepth 20000 in
theorem ok_X8_adds : gk_OV yX8_adds cX8_adds 7 (some .int) 5 := ⟨gk_t4 (List.mem_of_getElem? (i := 212) rfl) rfl, gk_ts (List.mem_of_getElem? (i := 19) rfl) rfl, gk_t1 (List.mem_of_getElem? (i := 9) rfl) rfl, gk_t4 (List.mem_of_getElem? (i := 213) rfl) rfl, by decide +kernel, by decide⟩
set_option maxRecDepth 20000 in
theorem ok_X8_isWish : gk_OV yX8_isWish cX8_isWish 2 (some .boolean) 1 := ⟨gk_t4 (List.mem_of_getElem? (i := 220) rfl) rfl, gk_ts (List.mem_of_getElem? (i := 20) rfl) rfl, gk_t1 (List.mem_of_getElem? (i := 9) rfl) rfl, gk_t4 (List.mem_of_getElem? (i := 221) rfl) rfl, by decide +kernel, by decide⟩
set_option maxRecDepth 20000 in
theorem ok_X8_callOf : gk_OV yX8_callOf cX8_callOf 3 (some .int) 1 := ⟨gk_t4 (List.mem_of_getElem? (i := 236) rfl) rfl, gk_ts (List.mem_of_getElem? (i := 22) rfl) rfl, gk_t1 (List.mem_of_getElem? (i := 9) rfl) rfl, gk_t4 (List.mem_of_getElem? (i := 237) rfl) rfl, by decide +kernel, by decide⟩
set_option maxRecDepth 20000 in
theorem ok_X8_isFree : gk_OV yX8_isFree cX8_isFree 2 (some .boolean) 1 := ⟨gk_t4 (List.mem_of_getElem? (i := 232) rfl) rfl, gk_ts (List.mem_of_getElem? (i := 21) rfl) rfl, gk_t1 (List.mem_of_getElem? (i := 9) rfl) rfl, gk_t4 (List.mem_of_getElem? (i := 233) rfl) rfl, by decide +kernel, by decide⟩
set_option maxRecDepth 20000 in
theorem ok_X8_isHour : gk_OV yX8_isHour cX8_isHour 2 (some .boolean) 1 := ⟨gk_t5 (List.mem_of_getElem? (i := 36) rfl) rfl, gk_ts (List.mem_of_getElem? (i := 32) rfl) rfl, gk_t1 (List.mem_of_getElem? (i := 9) rfl) rfl, gk_t5 (List.mem_of_getElem? (i := 37) rfl) rfl, by decide +kernel, by decide⟩
set_option maxRecDepth 20000 in
theorem ok_X8_knockAt : gk_OV yX8_knockAt cX8_knockAt 4 (some .int) 1 := ⟨gk_t5 (List.mem_of_getElem? (i := 40) rfl) rfl, gk_ts (List.mem_of_getElem? (i := 33) rfl) rfl, gk_t1 (List.mem_of_getElem? (i := 9) rfl) rfl, gk_t5 (List.mem_of_getElem? (i := 41) rfl) rfl, by decide +kernel, by decide⟩
set_option maxRecDepth 20000 in
theorem ok_X8_wishBehind : gk_OV yX8_wishBehind cX8_wishBehind 6 (some .int) 2 := ⟨gk_t5 (List.mem_of_getElem? (i := 28) rfl) rfl, gk_ts (List.mem_of_getElem? (i := 30) rfl) rfl, gk_t1 (List.mem_of_getElem? (i := 9) rfl) rfl, gk_t5 (List.mem_of_getElem? (i := 29) rfl) rfl, by decide +kernel, by decide⟩
set_option maxRecDepth 20000 in
theorem ok_X8_doesAct : gk_OV yX8_doesAct cX8_doesAct 6 (some .boolean) 3 := ⟨gk_t5 (List.mem_of_getElem? (i := 32) rfl) rfl, gk_ts (List.mem_of_getElem? (i := 31) rfl) rfl, gk_t1 (List.mem_of_getElem? (i := 9) rfl) rfl, gk_t5 (List.mem_of_getElem? (i := 33) rfl) rfl, by decide +kernel, by decide⟩
set_option maxRecDepth 20000 in
theorem ok_X8_has : gk_OV yX8_has cX8_has 5 (some .boolean) 2 := ⟨gk_t5 (List.mem_of_getElem? (i := 20) rfl) rfl, gk_ts (List.mem_of_getElem? (i := 28) rfl) rfl, gk_t1 (List.mem_of_getElem? (i := 9) rfl) rfl, gk_t5 (List.mem_of_getElem? (i := 21) rfl) rfl, by decide +kernel, by decide⟩
set_option maxRecDepth 20000 in
theorem ok_X8_ends : gk_OV yX8_ends cX8_ends 3 none 2 := ⟨gk_t5 (List.mem_of_getElem? (i := 12) rfl) rfl, gk_ts (List.mem_of_getElem? (i := 26) rfl) rfl, gk_t1 (List.mem_of_getElem? (i := 9) rfl) rfl, gk_t5 (List.mem_of_getElem? (i := 13) rfl) rfl, by decide +kernel, by decide⟩
set_option maxRecDepth 20000 in
theorem ok_X8_wishesBack : gk_OV yX8_wishesBack cX8_wishesBack 4 none 2 := ⟨gk_t5 (List.mem_of_getElem? (i := 52) rfl) rfl, gk_ts (List.mem_of_getElem? (i := 36) rfl) rfl, gk_t1 (List.mem_of_getElem? (i := 9) rfl) rfl, gk_t5 (List.mem_of_getElem? (i := 53) rfl) rfl, by decide +kernel, by decide⟩
set_option maxRecDepth 20000 in
theorem ok_X8_rings : gk_OV yX8_rings cX8_rings 3 none 2 := ⟨gk_t5 (List.mem_of_getElem? (i := 48) rfl) rfl, gk_ts (List.mem_of_getElem? (i := 35) rfl) rfl, gk_t1 (List.mem_of_getElem? (i := 9) rfl) rfl, gk_t5 (List.mem_of_getElem? (i := 49) rfl) rfl, by decide +kernel, by decide⟩
set_option maxRecDepth 20000 in
theorem ok_X8_isInRow : gk_OV yX8_isInRow cX8_isInRow 5 (some .boolean) 2 := ⟨gk_t5 (List.mem_of_getElem? (i := 8) rfl) rfl, gk_ts (List.mem_of_getElem? (i := 25) rfl) rfl, gk_t1 (List.mem_of_getElem? (i := 9) rfl) rfl, gk_t5 (List.mem_of_getElem? (i := 9) rfl) rfl, by decide +kernel, by decide⟩
set_option maxRecDepth 20000 in
theorem ok_X8_comesTo : gk_OV yX8_comesTo cX8_comesTo 5 none 3 := ⟨gk_t5 (List.mem_of_getElem? (i := 16) rfl) rfl, gk_ts (List.mem_of_getElem? (i := 27) rfl) rfl, gk_t1 (List.mem_of_getElem? (i := 9) rfl) rfl, gk_t5 (List.mem_of_getElem? (i := 17) rfl) rfl, by decide +kernel, by decide⟩
set_option maxRecDepth 20000 in
theorem ok_X8_actsAt : gk_OV yX8_actsAt cX8_actsAt 5 (some .int) 3 := ⟨gk_t5 (List.mem_of_getElem? (i := 24) rfl) rfl, gk_ts (List.mem_of_getElem? (i := 29) rfl) rfl, gk_t1 (List.mem_of_getElem? (i := 9) rfl) rfl, gk_t5 (List.mem_of_getElem? (i := 25) rfl) rfl, by decide +kernel, by decide⟩
set_option maxRecDepth 20000 in
theorem ok_X8_notes : gk_OV yX8_notes cX8_notes 3 none 2 := ⟨gk_t5 (List.mem_of_getElem? (i := 56) rfl) rfl, gk_ts (List.mem_of_getElem? (i := 37) rfl) rfl, gk_t1 (List.mem_of_getElem? (i := 9) rfl) rfl, gk_t5 (List.mem_of_getElem? (i := 57) rfl) rfl, by decide +kernel, by decide⟩
set_option maxRecDepth 20000 in
theorem ok_X8_arrives : gk_OV yX8_arrives cX8_arrives 6 none 2 := ⟨gk_t5 (List.mem_of_getElem? (i := 44) rfl) rfl, gk_ts (List.mem_of_getElem? (i := 34) rfl) rfl, gk_t1 (List.mem_of_getElem? (i := 9) rfl) rfl, gk_t5 (List.mem_of_getElem? (i := 45) rfl) rfl, by decide +kernel, by decide⟩
set_option maxRecDepth 20000 in
theorem ok_X8_goes : gk_OV yX8_goes cX8_goes 7 none 3 := ⟨gk_t5 (List.mem_of_getElem? (i := 4) rfl) rfl, gk_ts (List.mem_of_getElem? (i := 24) rfl) rfl, gk_t1 (List.mem_of_getElem? (i := 9) rfl) rfl, gk_t5 (List.mem_of_getElem? (i := 5) rfl) rfl, by decide +kernel, by decide⟩
set_option maxRecDepth 20000 in
theorem ok_X8_settles : gk_OV yX8_settles cX8_settles 3 none 0 := ⟨gk_t5 (List.mem_of_getElem? (i := 60) rfl) rfl, gk_ts (List.mem_of_getElem? (i := 38) rfl) rfl, gk_t1 (List.mem_of_getElem? (i := 9) rfl) rfl, gk_t5 (List.mem_of_getElem? (i := 61) rfl) rfl, by decide +kernel, by decide⟩
set_option maxRecDepth 20000 in
theorem ok_X8_dials : gk_OV yX8_dials cX8_dials 4 (some .int) 2 := ⟨gk_t5 (List.mem_of_getElem? (i := 0) rfl) rfl, gk_ts (List.mem_of_getElem? (i := 23) rfl) rfl, gk_t1 (List.mem_of_getElem? (i := 9) rfl) rfl, gk_t5 (List.mem_of_getElem? (i := 1) rfl) rfl, by decide +kernel, by decide⟩
set_option maxRecDepth 20000 in
theorem ok_X8_callsBack : gk_OV yX8_callsBack cX8_callsBack 5 none 0 := ⟨gk_t5 (List.mem_of_getElem? (i := 80) rfl) rfl, gk_ts (List.mem_of_getElem? (i := 40) rfl) rfl, gk_t1 (List.mem_of_getElem? (i := 9) rfl) rfl, gk_t5 (List.mem_of_getElem? (i := 81) rfl) rfl, by decide +kernel, by decide⟩
set_option maxRecDepth 20000 in
theorem ok_X8_rangOn : gk_OV yX8_rangOn cX8_rangOn 4 none 1 := ⟨gk_t5 (List.mem_of_getElem? (i := 76) rfl) rfl, gk_ts (List.mem_of_getElem? (i := 39) rfl) rfl, gk_t1 (List.mem_of_getElem? (i := 9) rfl) rfl, gk_t5 (List.mem_of_getElem? (i := 77) rfl) rfl, by decide +kernel, by decide⟩
set_option maxRecDepth 20000 in
theorem ok_X8_keeps : gk_OV yX8_keeps cX8_keeps 5 none 3 := ⟨gk_t5 (List.mem_of_getElem? (i := 92) rfl) rfl, gk_ts (List.mem_of_getElem? (i := 42) rfl) rfl, gk_t1 (List.mem_of_getElem? (i := 9) rfl) rfl, gk_t5 (List.mem_of_getElem? (i := 93) rfl) rfl, by decide +kernel, by decide⟩
set_option maxRecDepth 20000 in
theorem ok_X8_keepsAll : gk_OV yX8_keepsAll cX8_keepsAll 3 none 2 := ⟨gk_t5 (List.mem_of_getElem? (i := 88) rfl) rfl, gk_ts (List.mem_of_getElem? (i := 41) rfl) rfl, gk_t1 (List.mem_of_getElem? (i := 9) rfl) rfl, gk_t5 (List.mem_of_getElem? (i := 89) rfl) rfl, by decide +kernel, by decide⟩
set_option maxRecDepth 20000 in
theorem ok_X8_isCall : gk_OV yX8_isCall cX8_isCall 2 (some .boolean) 1 := ⟨gk_t5 (List.mem_of_getElem? (i := 112) rfl) rfl, gk_ts (List.mem_of_getElem? (i := 43) rfl) rfl, gk_t1 (List.mem_of_getElem? (i := 9) rfl) rfl, gk_t5 (List.mem_of_getElem? (i := 113) rfl) rfl, by decide +kernel, by decide⟩
set_option maxRecDepth 20000 in
theorem ok_X8_isTold : gk_OV yX8_isTold cX8_isTold 5 (some .boolean) 2 := ⟨gk_t5 (List.mem_of_getElem? (i := 132) rfl) rfl, gk_ts (List.mem_of_getElem? (i := 44) rfl) rfl, gk_t1 (List.mem_of_getElem? (i := 9) rfl) rfl, gk_t5 (List.mem_of_getElem? (i := 133) rfl) rfl, by decide +kernel, by decide⟩
set_option maxRecDepth 20000 in
theorem ok_X8_dial : gk_OV yX8_dial cX8_dial 3 (some .int) 2 := ⟨gk_t4 (List.mem_of_getElem? (i := 227) rfl) rfl, gk_t4 (List.mem_of_getElem? (i := 228) rfl) rfl, gk_t1 (List.mem_of_getElem? (i := 9) rfl) rfl, gk_t4 (List.mem_of_getElem? (i := 229) rfl) rfl, by decide +kernel, by decide⟩
set_option maxRecDepth 20000 in
theorem ok_X8_take : gk_OV yX8_take cX8_take 3 (some .int) 1 := ⟨gk_t5 (List.mem_of_getElem? (i := 63) rfl) rfl, gk_t5 (List.mem_of_getElem? (i := 64) rfl) rfl, gk_t1 (List.mem_of_getElem? (i := 9) rfl) rfl, gk_t5 (List.mem_of_getElem? (i := 65) rfl) rfl, by decide +kernel, by decide⟩
set_option maxRecDepth 20000 in
theorem ok_X8_down : gk_OV yX8_down cX8_down 3 (some .int) 1 := ⟨gk_t5 (List.mem_of_getElem? (i := 67) rfl) rfl, gk_t5 (List.mem_of_getElem? (i := 68) rfl) rfl, gk_t1 (List.mem_of_getElem? (i := 9) rfl) rfl, gk_t5 (List.mem_of_getElem? (i := 69) rfl) rfl, by decide +kernel, by decide⟩
set_option maxRecDepth 20000 in
theorem ok_X8_tick : gk_OV yX8_tick cX8_tick 3 (some .int) 0 := ⟨gk_t5 (List.mem_of_getElem? (i := 71) rfl) rfl, gk_t5 (List.mem_of_getElem? (i := 72) rfl) rfl, gk_t1 (List.mem_of_getElem? (i := 9) rfl) rfl, gk_t5 (List.mem_of_getElem? (i := 73) rfl) rfl, by decide +kernel, by decide⟩
set_option maxRecDepth 20000 in
theorem ok_X8_empties : gk_OV yX8_empties cX8_empties 2 none 0 := ⟨gk_t5 (List.mem_of_getElem? (i := 165) rfl) rfl, gk_ts (List.mem_of_getElem? (i := 49) rfl) rfl, gk_t1 (List.mem_of_getElem? (i := 9) rfl) rfl, gk_t5 (List.mem_of_getElem? (i := 166) rfl) rfl, by decide +kernel, by decide⟩
set_option maxRecDepth 20000 in
theorem ok_X8_isBroken : gk_OV yX8_isBroken cX8_isBroken 7 (some .boolean) 3 := ⟨gk_t5 (List.mem_of_getElem? (i := 177) rfl) rfl, gk_ts (List.mem_of_getElem? (i := 51) rfl) rfl, gk_t1 (List.mem_of_getElem? (i := 9) rfl) rfl, gk_t5 (List.mem_of_getElem? (i := 178) rfl) rfl, by decide +kernel, by decide⟩
set_option maxRecDepth 20000 in
theorem ok_X8_isDone : gk_OV yX8_isDone cX8_isDone 3 (some .boolean) 1 := ⟨gk_t5 (List.mem_of_getElem? (i := 169) rfl) rfl, gk_ts (List.mem_of_getElem? (i := 50) rfl) rfl, gk_t1 (List.mem_of_getElem? (i := 9) rfl) rfl, gk_t5 (List.mem_of_getElem? (i := 170) rfl) rfl, by decide +kernel, by decide⟩
set_option maxRecDepth 20000 in
theorem ok_X8_findDeeds : gk_OV yX8_findDeeds cX8_findDeeds 4 none 1 := ⟨gk_t5 (List.mem_of_getElem? (i := 157) rfl) rfl, gk_ts (List.mem_of_getElem? (i := 47) rfl) rfl, gk_t1 (List.mem_of_getElem? (i := 9) rfl) rfl, gk_t5 (List.mem_of_getElem? (i := 158) rfl) rfl, by decide +kernel, by decide⟩
set_option maxRecDepth 20000 in
theorem ok_X8_breaks : gk_OV yX8_breaks cX8_breaks 8 (some .boolean) 5 := ⟨gk_t5 (List.mem_of_getElem? (i := 161) rfl) rfl, gk_ts (List.mem_of_getElem? (i := 48) rfl) rfl, gk_t1 (List.mem_of_getElem? (i := 9) rfl) rfl, gk_t5 (List.mem_of_getElem? (i := 162) rfl) rfl, by decide +kernel, by decide⟩
set_option maxRecDepth 20000 in
theorem ok_X8_bits : gk_OS yX8_bits cX8_bits 3 (some .int) 1 := ⟨gk_t5 (List.mem_of_getElem? (i := 148) rfl) rfl, gk_t1 (List.mem_of_getElem? (i := 9) rfl) rfl, gk_t5 (List.mem_of_getElem? (i := 149) rfl) rfl, by decide +kernel, by decide⟩
set_option maxRecDepth 20000 in
theorem ok_X8_isAsked : gk_OV yX8_isAsked cX8_isAsked 6 (some .boolean) 5 := ⟨gk_t5 (List.mem_of_getElem? (i := 144) rfl) rfl, gk_ts (List.mem_of_getElem? (i := 45) rfl) rfl, gk_t1 (List.mem_of_getElem? (i := 9) rfl) rfl, gk_t5 (List.mem_of_getElem? (i := 145) rfl) rfl, by decide +kernel, by decide⟩
set_option maxRecDepth 20000 in
theorem ok_X8_search : gk_OV yX8_search cX8_search 11 (some .int) 5 := ⟨gk_t5 (List.mem_of_getElem? (i := 153) rfl) rfl, gk_ts (List.mem_of_getElem? (i := 46) rfl) rfl, gk_t1 (List.mem_of_getElem? (i := 9) rfl) rfl, gk_t5 (List.mem_of_getElem? (i := 154) rfl) rfl, by decide +kernel, by decide⟩
set_option maxRecDepth 20000 in
theorem ok_X8_isOfThese : gk_OV yX8_isOfThese cX8_isOfThese 2 (some .boolean) 1 := ⟨gk_t5 (List.mem_of_getElem? (i := 189) rfl) rfl, gk_ts (List.mem_of_getElem? (i := 52) rfl) rfl, gk_t1 (List.mem_of_getElem? (i := 9) rfl) rfl, gk_t5 (List.mem_of_getElem? (i := 190) rfl) rfl, by decide +kernel, by decide⟩
set_option maxRecDepth 20000 in
theorem ok_X8_traces : gk_OV yX8_traces cX8_traces 2 none 1 := ⟨gk_t5 (List.mem_of_getElem? (i := 209) rfl) rfl, gk_ts (List.mem_of_getElem? (i := 54) rfl) rfl, gk_t1 (List.mem_of_getElem? (i := 9) rfl) rfl, gk_t5 (List.mem_of_getElem? (i := 210) rfl) rfl, by decide +kernel, by decide⟩
set_option maxRecDepth 20000 in
theorem ok_X8_plainHear : gk_OV yX8_plainHear cX8_plainHear 3 (some .int) 2 := ⟨gk_t5 (List.mem_of_getElem? (i := 217) rfl) rfl, gk_ts (List.mem_of_getElem? (i := 56) rfl) rfl, gk_t1 (List.mem_of_getElem? (i := 9) rfl) rfl, gk_t5 (List.mem_of_getElem? (i := 218) rfl) rfl, by decide +kernel, by decide⟩
set_option maxRecDepth 20000 in
theorem ok_X8_plainPay : gk_OV yX8_plainPay cX8_plainPay 3 (some .int) 2 := ⟨gk_t5 (List.mem_of_getElem? (i := 225) rfl) rfl, gk_ts (List.mem_of_getElem? (i := 58) rfl) rfl, gk_t1 (List.mem_of_getElem? (i := 9) rfl) rfl, gk_t5 (List.mem_of_getElem? (i := 226) rfl) rfl, by decide +kernel, by decide⟩
set_option maxRecDepth 20000 in
theorem ok_X8_shutHear : gk_OV yX8_shutHear cX8_shutHear 3 (some .int) 2 := ⟨gk_t5 (List.mem_of_getElem? (i := 213) rfl) rfl, gk_ts (List.mem_of_getElem? (i := 55) rfl) rfl, gk_t1 (List.mem_of_getElem? (i := 9) rfl) rfl, gk_t5 (List.mem_of_getElem? (i := 214) rfl) rfl, by decide +kernel, by decide⟩
set_option maxRecDepth 20000 in
theorem ok_X8_pay : gk_OV yX8_pay cX8_pay 3 (some .int) 2 := ⟨gk_t5 (List.mem_of_getElem? (i := 221) rfl) rfl, gk_ts (List.mem_of_getElem? (i := 57) rfl) rfl, gk_t1 (List.mem_of_getElem? (i := 9) rfl) rfl, gk_t5 (List.mem_of_getElem? (i := 222) rfl) rfl, by decide +kernel, by decide⟩
set_option maxRecDepth 20000 in
theorem ok_X8_hear : gk_OV yX8_hear cX8_hear 4 (some .int) 2 := ⟨gk_t5 (List.mem_of_getElem? (i := 205) rfl) rfl, gk_ts (List.mem_of_getElem? (i := 53) rfl) rfl, gk_t1 (List.mem_of_getElem? (i := 9) rfl) rfl, gk_t5 (List.mem_of_getElem? (i := 206) rfl) rfl, by decide +kernel, by decide⟩
set_option maxRecDepth 20000 in
theorem ok_X8_plainTurn : gk_OV yX8_plainTurn cX8_plainTurn 3 (some .int) 2 := ⟨gk_t5 (List.mem_of_getElem? (i := 233) rfl) rfl, gk_ts (List.mem_of_getElem? (i := 60) rfl) rfl, gk_t1 (List.mem_of_getElem? (i := 9) rfl) rfl, gk_t5 (List.mem_of_getElem? (i := 234) rfl) rfl, by decide +kernel, by decide⟩
set_option maxRecDepth 20000 in
theorem ok_X8_turn : gk_OV yX8_turn cX8_turn 4 (some .int) 2 := ⟨gk_t5 (List.mem_of_getElem? (i := 229) rfl) rfl, gk_ts (List.mem_of_getElem? (i := 59) rfl) rfl, gk_t1 (List.mem_of_getElem? (i := 9) rfl) rfl, gk_t5 (List.mem_of_getElem? (i := 230) rfl) rfl, by decide +kernel, by decide⟩
set_option maxRecDepth 20000 in
theorem ok_X8_plainEnd : gk_OV yX8_plainEnd cX8_plainEnd 4 (some .int) 2 := ⟨gk_t6 (List.mem_of_getElem? (i := 1) rfl) rfl, gk_ts (List.mem_of_getElem? (i := 62) rfl) rfl, gk_t1 (List.mem_of_getElem? (i := 9) rfl) rfl, gk_t6 (List.mem_of_getElem? (i := 2) rfl) rfl, by decide +kernel, by decide⟩
set_option maxRecDepth 20000 in
theorem ok_X8_end : gk_OV yX8_end cX8_end 4 (some .int) 2 := ⟨gk_t5 (List.mem_of_getElem? (i := 237) rfl) rfl, gk_ts (List.mem_of_getElem? (i := 61) rfl) rfl, gk_t1 (List.mem_of_getElem? (i := 9) rfl) rfl, gk_t5 (List.mem_of_getElem? (i := 238) rfl) rfl, by decide +kernel, by decide⟩
set_option maxRecDepth 20000 in
theorem ok_X8_byteOf : gk_OS yX8_byteOf cX8_byteOf 2 (some .int) 1 := ⟨gk_t6 (List.mem_of_getElem? (i := 20) rfl) rfl, gk_t1 (List.mem_of_getElem? (i := 9) rfl) rfl, gk_t6 (List.mem_of_getElem? (i := 21) rfl) rfl, by decide +kernel, by decide⟩
set_option maxRecDepth 20000 in
theorem ok_X8_modulo : gk_OS yX8_modulo cX8_modulo 2 (some .int) 2 := ⟨gk_t6 (List.mem_of_getElem? (i := 35) rfl) rfl, gk_t1 (List.mem_of_getElem? (i := 9) rfl) rfl, gk_t6 (List.mem_of_getElem? (i := 36) rfl) rfl, by decide +kernel, by decide⟩
set_option maxRecDepth 20000 in
theorem ok_X8_copied : gk_OV yX8_copied cX8_copied 5 (some .int) 2 := ⟨gk_t6 (List.mem_of_getElem? (i := 39) rfl) rfl, gk_ts (List.mem_of_getElem? (i := 63) rfl) rfl, gk_t1 (List.mem_of_getElem? (i := 9) rfl) rfl, gk_t6 (List.mem_of_getElem? (i := 40) rfl) rfl, by decide +kernel, by decide⟩
theorem gk_acw : Cond.native arraycopyName ∈ gk_U ∧ Cond.static arraycopyName ∈ gk_U ∧ Cond.initialized "java/lang/System" ∈ gk_U := ⟨gk_t3 (List.mem_of_getElem? (i := 161) rfl) rfl, gk_t3 (List.mem_of_getElem? (i := 160) rfl) rfl, gk_t1 (List.mem_of_getElem? (i := 12) rfl) rfl⟩

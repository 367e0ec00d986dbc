/-! ===== the words of the tables, by their places; classes; methods ===== -/
theorem uw_X0 : ∀ w ∈ u_ws RX0 TX0 3, w ∈ dt_tbl := by decide +kernel
theorem Fc_X0 : dt_Fc 0 RX0 TX0 3 tyX0 := ⟨rfl, rfl, uw_X0, nmX0, tyX0_ok⟩
theorem uw_X1 : ∀ w ∈ u_ws RX1 TX1 6, w ∈ dt_tbl := by decide +kernel
theorem Fc_X1 : dt_Fc 1 RX1 TX1 6 tyX1 := ⟨rfl, rfl, uw_X1, nmX1, tyX1_ok⟩
theorem uw_X2 : ∀ w ∈ u_ws RX2 TX2 8, w ∈ dt_tbl := by decide +kernel
theorem Fc_X2 : dt_Fc 2 RX2 TX2 8 tyX2 := ⟨rfl, rfl, uw_X2, nmX2, tyX2_ok⟩
theorem uw_X3 : ∀ w ∈ u_ws RX3 TX3 7, w ∈ dt_tbl := by decide +kernel
theorem Fc_X3 : dt_Fc 3 RX3 TX3 7 tyX3 := ⟨rfl, rfl, uw_X3, nmX3, tyX3_ok⟩
theorem uw_X4 : ∀ w ∈ u_ws RX4 TX4 3, w ∈ dt_tbl := by decide +kernel
theorem Fc_X4 : dt_Fc 4 RX4 TX4 3 tyX4 := ⟨rfl, rfl, uw_X4, nmX4, tyX4_ok⟩
theorem uw_X5 : ∀ w ∈ u_ws RX5 TX5 13, w ∈ dt_tbl := by decide +kernel
theorem Fc_X5 : dt_Fc 5 RX5 TX5 13 tyX5 := ⟨rfl, rfl, uw_X5, nmX5, tyX5_ok⟩
theorem uw_X6 : ∀ w ∈ u_ws RX6 TX6 6, w ∈ dt_tbl := by decide +kernel
theorem Fc_X6 : dt_Fc 6 RX6 TX6 6 tyX6 := ⟨rfl, rfl, uw_X6, nmX6, tyX6_ok⟩
theorem uw_X7 : ∀ w ∈ u_ws RX7 TX7 8, w ∈ dt_tbl := by decide +kernel
theorem Fc_X7 : dt_Fc 7 RX7 TX7 8 tyX7 := ⟨rfl, rfl, uw_X7, nmX7, tyX7_ok⟩
theorem uw_X8 : ∀ w ∈ u_ws RX8 TX8 5, w ∈ dt_tbl := by decide +kernel
theorem Fc_X8 : dt_Fc 8 RX8 TX8 5 tyX8 := ⟨rfl, rfl, uw_X8, nmX8, tyX8_ok⟩
theorem uw_X9 : ∀ w ∈ u_ws RX9 TX9 12, w ∈ dt_tbl := by decide +kernel
theorem Fc_X9 : dt_Fc 9 RX9 TX9 12 tyX9 := ⟨rfl, rfl, uw_X9, nmX9, tyX9_ok⟩
theorem uw_X10 : ∀ w ∈ u_ws RX10 TX10 38, w ∈ dt_tbl := by decide +kernel
theorem Fc_X10 : dt_Fc 10 RX10 TX10 38 tyX10 := ⟨rfl, rfl, uw_X10, nmX10, tyX10_ok⟩
theorem hk_0 {nb : Nat} : 0 < 18 + nb ∧ dt_c 0 = 9 := ⟨by omega, by decide⟩
theorem hk_1 {nb : Nat} : 1 < 18 + nb ∧ dt_c 1 = 5 := ⟨by omega, by decide⟩
theorem hk_2 {nb : Nat} : 2 < 18 + nb ∧ dt_c 2 = 1 := ⟨by omega, by decide⟩
theorem hk_3 {nb : Nat} : 3 < 18 + nb ∧ dt_c 3 = 7 := ⟨by omega, by decide⟩
theorem hk_4 {nb : Nat} : 4 < 18 + nb ∧ dt_c 4 = 0 := ⟨by omega, by decide⟩
theorem hk_5 {nb : Nat} : 5 < 18 + nb ∧ dt_c 5 = 4 := ⟨by omega, by decide⟩
theorem hk_6 {nb : Nat} : 6 < 18 + nb ∧ dt_c 6 = 5 := ⟨by omega, by decide⟩
theorem hk_7 {nb : Nat} : 7 < 18 + nb ∧ dt_c 7 = 1 := ⟨by omega, by decide⟩
theorem hk_8 {nb : Nat} : 8 < 18 + nb ∧ dt_c 8 = 7 := ⟨by omega, by decide⟩
theorem hk_9 {nb : Nat} : 9 < 18 + nb ∧ dt_c 9 = 0 := ⟨by omega, by decide⟩
theorem hk_10 {nb : Nat} : 10 < 18 + nb ∧ dt_c 10 = 4 := ⟨by omega, by decide⟩
theorem hk_11 {nb : Nat} : 11 < 18 + nb ∧ dt_c 11 = 6 := ⟨by omega, by decide⟩
theorem hk_12 {nb : Nat} : 12 < 18 + nb ∧ dt_c 12 = 7 := ⟨by omega, by decide⟩
theorem hk_13 {nb : Nat} : 13 < 18 + nb ∧ dt_c 13 = 5 := ⟨by omega, by decide⟩
theorem hk_14 {nb : Nat} : 14 < 18 + nb ∧ dt_c 14 = 3 := ⟨by omega, by decide⟩
theorem hk_15 {nb : Nat} : 15 < 18 + nb ∧ dt_c 15 = 2 := ⟨by omega, by decide⟩
theorem hk_16 {nb : Nat} : 16 < 18 + nb ∧ dt_c 16 = 8 := ⟨by omega, by decide⟩
theorem hk_17 {nb : Nat} : 17 < 18 + nb ∧ dt_c 17 = 8 := ⟨by omega, by decide⟩
theorem hk_18 : 18 < 18 + 1 ∧ dt_c 18 = 10 := ⟨by omega, by decide⟩
theorem dt_k_row {a : Nat} (h : a < 8) : dt_k 10 (38 + a) = (1, 21) := by
  rcases (show a = 0 ∨ a = 1 ∨ a = 2 ∨ a = 3 ∨ a = 4 ∨ a = 5 ∨ a = 6 ∨ a = 7 by omega) with rfl | rfl | rfl | rfl | rfl | rfl | rfl | rfl <;> rfl
theorem cn_X3_40 : Cond.constant RX3 40 (1000000) ∈ dt_tbl := dt_tin (List.mem_of_getElem? (i := 892) (by decide +kernel)) rfl
theorem cn_J6_265 : Cond.constant RJ6 265 (1431655765) ∈ dt_tbl := dt_tin (List.mem_of_getElem? (i := 625) (by decide +kernel)) rfl
theorem cn_J6_266 : Cond.constant RJ6 266 (858993459) ∈ dt_tbl := dt_tin (List.mem_of_getElem? (i := 626) (by decide +kernel)) rfl
theorem cn_J6_267 : Cond.constant RJ6 267 (252645135) ∈ dt_tbl := dt_tin (List.mem_of_getElem? (i := 627) (by decide +kernel)) rfl
theorem cl_X4_34 : Cond.constantLong RX4 34 (10) ∈ dt_tbl := dt_tin (List.mem_of_getElem? (i := 1026) (by decide +kernel)) rfl
theorem cl_X9_280 : Cond.constantLong RX9 280 (-1) ∈ dt_tbl := dt_tin (List.mem_of_getElem? (i := 1021) (by decide +kernel)) rfl
theorem cl_X10_329 : Cond.constantLong RX10 329 (10) ∈ dt_tbl := dt_tin (List.mem_of_getElem? (i := 1530) (by decide +kernel)) rfl
theorem cl_X10_345 : Cond.constantLong RX10 345 (-1) ∈ dt_tbl := dt_tin (List.mem_of_getElem? (i := 1522) (by decide +kernel)) rfl
theorem fl_X0_15 : Cond.fieldLink RX0 15 RX0 (TX0 1).2.1 (TX0 1).2.2.1 ∈ dt_tbl := dt_tin (List.mem_of_getElem? (i := 255) (by decide +kernel)) rfl
theorem fl_X0_19 : Cond.fieldLink RX0 19 RX0 (TX0 2).2.1 (TX0 2).2.2.1 ∈ dt_tbl := dt_tin (List.mem_of_getElem? (i := 256) (by decide +kernel)) rfl
theorem fl_X0_9 : Cond.fieldLink RX0 9 RX0 (TX0 0).2.1 (TX0 0).2.2.1 ∈ dt_tbl := dt_tin (List.mem_of_getElem? (i := 253) (by decide +kernel)) rfl
theorem fl_X1_13 : Cond.fieldLink RX1 13 RX1 (TX1 1).2.1 (TX1 1).2.2.1 ∈ dt_tbl := dt_tin (List.mem_of_getElem? (i := 190) (by decide +kernel)) rfl
theorem fl_X1_16 : Cond.fieldLink RX1 16 RX1 (TX1 2).2.1 (TX1 2).2.2.1 ∈ dt_tbl := dt_tin (List.mem_of_getElem? (i := 192) (by decide +kernel)) rfl
theorem fl_X1_19 : Cond.fieldLink RX1 19 RX1 (TX1 3).2.1 (TX1 3).2.2.1 ∈ dt_tbl := dt_tin (List.mem_of_getElem? (i := 194) (by decide +kernel)) rfl
theorem fl_X1_22 : Cond.fieldLink RX1 22 RX1 (TX1 4).2.1 (TX1 4).2.2.1 ∈ dt_tbl := dt_tin (List.mem_of_getElem? (i := 196) (by decide +kernel)) rfl
theorem fl_X1_26 : Cond.fieldLink RX1 26 RX1 (TX1 5).2.1 (TX1 5).2.2.1 ∈ dt_tbl := dt_tin (List.mem_of_getElem? (i := 198) (by decide +kernel)) rfl
theorem fl_X1_7 : Cond.fieldLink RX1 7 RX1 (TX1 0).2.1 (TX1 0).2.2.1 ∈ dt_tbl := dt_tin (List.mem_of_getElem? (i := 188) (by decide +kernel)) rfl
theorem fl_X2_15 : Cond.fieldLink RX2 15 RX2 (TX2 1).2.1 (TX2 1).2.2.1 ∈ dt_tbl := dt_tin (List.mem_of_getElem? (i := 372) (by decide +kernel)) rfl
theorem fl_X2_18 : Cond.fieldLink RX2 18 RX2 (TX2 2).2.1 (TX2 2).2.2.1 ∈ dt_tbl := dt_tin (List.mem_of_getElem? (i := 373) (by decide +kernel)) rfl
theorem fl_X2_21 : Cond.fieldLink RX2 21 RX2 (TX2 3).2.1 (TX2 3).2.2.1 ∈ dt_tbl := dt_tin (List.mem_of_getElem? (i := 374) (by decide +kernel)) rfl
theorem fl_X2_24 : Cond.fieldLink RX2 24 RX2 (TX2 4).2.1 (TX2 4).2.2.1 ∈ dt_tbl := dt_tin (List.mem_of_getElem? (i := 375) (by decide +kernel)) rfl
theorem fl_X2_27 : Cond.fieldLink RX2 27 RX2 (TX2 5).2.1 (TX2 5).2.2.1 ∈ dt_tbl := dt_tin (List.mem_of_getElem? (i := 376) (by decide +kernel)) rfl
theorem fl_X2_30 : Cond.fieldLink RX2 30 RX2 (TX2 6).2.1 (TX2 6).2.2.1 ∈ dt_tbl := dt_tin (List.mem_of_getElem? (i := 377) (by decide +kernel)) rfl
theorem fl_X2_34 : Cond.fieldLink RX2 34 RX2 (TX2 7).2.1 (TX2 7).2.2.1 ∈ dt_tbl := dt_tin (List.mem_of_getElem? (i := 378) (by decide +kernel)) rfl
theorem fl_X2_37 : Cond.fieldLink RX2 37 RX5 (TX5 1).2.1 (TX5 1).2.2.1 ∈ dt_tbl := dt_tin (List.mem_of_getElem? (i := 127) (by decide +kernel)) rfl
theorem fl_X2_42 : Cond.fieldLink RX2 42 RX5 (TX5 6).2.1 (TX5 6).2.2.1 ∈ dt_tbl := dt_tin (List.mem_of_getElem? (i := 141) (by decide +kernel)) rfl
theorem fl_X2_54 : Cond.fieldLink RX2 54 RX5 (TX5 0).2.1 (TX5 0).2.2.1 ∈ dt_tbl := dt_tin (List.mem_of_getElem? (i := 125) (by decide +kernel)) rfl
theorem fl_X2_57 : Cond.fieldLink RX2 57 RX5 (TX5 2).2.1 (TX5 2).2.2.1 ∈ dt_tbl := dt_tin (List.mem_of_getElem? (i := 132) (by decide +kernel)) rfl
theorem fl_X2_9 : Cond.fieldLink RX2 9 RX2 (TX2 0).2.1 (TX2 0).2.2.1 ∈ dt_tbl := dt_tin (List.mem_of_getElem? (i := 371) (by decide +kernel)) rfl
theorem fl_X3_11 : Cond.fieldLink RX3 11 RX3 (TX3 0).2.1 (TX3 0).2.2.1 ∈ dt_tbl := dt_tin (List.mem_of_getElem? (i := 342) (by decide +kernel)) rfl
theorem fl_X3_15 : Cond.fieldLink RX3 15 RX3 (TX3 1).2.1 (TX3 1).2.2.1 ∈ dt_tbl := dt_tin (List.mem_of_getElem? (i := 343) (by decide +kernel)) rfl
theorem fl_X3_18 : Cond.fieldLink RX3 18 RX3 (TX3 2).2.1 (TX3 2).2.2.1 ∈ dt_tbl := dt_tin (List.mem_of_getElem? (i := 344) (by decide +kernel)) rfl
theorem fl_X3_21 : Cond.fieldLink RX3 21 RX3 (TX3 3).2.1 (TX3 3).2.2.1 ∈ dt_tbl := dt_tin (List.mem_of_getElem? (i := 345) (by decide +kernel)) rfl
theorem fl_X3_24 : Cond.fieldLink RX3 24 RX3 (TX3 4).2.1 (TX3 4).2.2.1 ∈ dt_tbl := dt_tin (List.mem_of_getElem? (i := 346) (by decide +kernel)) rfl
theorem fl_X3_28 : Cond.fieldLink RX3 28 RX3 (TX3 5).2.1 (TX3 5).2.2.1 ∈ dt_tbl := dt_tin (List.mem_of_getElem? (i := 347) (by decide +kernel)) rfl
theorem fl_X3_31 : Cond.fieldLink RX3 31 RX3 (TX3 6).2.1 (TX3 6).2.2.1 ∈ dt_tbl := dt_tin (List.mem_of_getElem? (i := 348) (by decide +kernel)) rfl
theorem fl_X3_45 : Cond.fieldLink RX3 45 RX5 (TX5 1).2.1 (TX5 1).2.2.1 ∈ dt_tbl := dt_tin (List.mem_of_getElem? (i := 129) (by decide +kernel)) rfl
theorem fl_X3_48 : Cond.fieldLink RX3 48 RX5 (TX5 6).2.1 (TX5 6).2.2.1 ∈ dt_tbl := dt_tin (List.mem_of_getElem? (i := 143) (by decide +kernel)) rfl
theorem fl_X3_51 : Cond.fieldLink RX3 51 RX5 (TX5 0).2.1 (TX5 0).2.2.1 ∈ dt_tbl := dt_tin (List.mem_of_getElem? (i := 124) (by decide +kernel)) rfl
theorem fl_X3_54 : Cond.fieldLink RX3 54 RX5 (TX5 2).2.1 (TX5 2).2.2.1 ∈ dt_tbl := dt_tin (List.mem_of_getElem? (i := 131) (by decide +kernel)) rfl
theorem fl_X4_15 : Cond.fieldLink RX4 15 RX4 (TX4 1).2.1 (TX4 1).2.2.1 ∈ dt_tbl := dt_tin (List.mem_of_getElem? (i := 271) (by decide +kernel)) rfl
theorem fl_X4_18 : Cond.fieldLink RX4 18 RX4 (TX4 2).2.1 (TX4 2).2.2.1 ∈ dt_tbl := dt_tin (List.mem_of_getElem? (i := 272) (by decide +kernel)) rfl
theorem fl_X4_9 : Cond.fieldLink RX4 9 RX4 (TX4 0).2.1 (TX4 0).2.2.1 ∈ dt_tbl := dt_tin (List.mem_of_getElem? (i := 270) (by decide +kernel)) rfl
theorem fl_X5_15 : Cond.fieldLink RX5 15 RX5 (TX5 1).2.1 (TX5 1).2.2.1 ∈ dt_tbl := dt_tin (List.mem_of_getElem? (i := 126) (by decide +kernel)) rfl
theorem fl_X5_18 : Cond.fieldLink RX5 18 RX5 (TX5 2).2.1 (TX5 2).2.2.1 ∈ dt_tbl := dt_tin (List.mem_of_getElem? (i := 130) (by decide +kernel)) rfl
theorem fl_X5_22 : Cond.fieldLink RX5 22 RX5 (TX5 3).2.1 (TX5 3).2.2.1 ∈ dt_tbl := dt_tin (List.mem_of_getElem? (i := 134) (by decide +kernel)) rfl
theorem fl_X5_25 : Cond.fieldLink RX5 25 RX5 (TX5 4).2.1 (TX5 4).2.2.1 ∈ dt_tbl := dt_tin (List.mem_of_getElem? (i := 136) (by decide +kernel)) rfl
theorem fl_X5_28 : Cond.fieldLink RX5 28 RX5 (TX5 5).2.1 (TX5 5).2.2.1 ∈ dt_tbl := dt_tin (List.mem_of_getElem? (i := 138) (by decide +kernel)) rfl
theorem fl_X5_31 : Cond.fieldLink RX5 31 RX5 (TX5 6).2.1 (TX5 6).2.2.1 ∈ dt_tbl := dt_tin (List.mem_of_getElem? (i := 140) (by decide +kernel)) rfl
theorem fl_X5_34 : Cond.fieldLink RX5 34 RX5 (TX5 7).2.1 (TX5 7).2.2.1 ∈ dt_tbl := dt_tin (List.mem_of_getElem? (i := 144) (by decide +kernel)) rfl
theorem fl_X5_37 : Cond.fieldLink RX5 37 RX5 (TX5 8).2.1 (TX5 8).2.2.1 ∈ dt_tbl := dt_tin (List.mem_of_getElem? (i := 146) (by decide +kernel)) rfl
theorem fl_X5_40 : Cond.fieldLink RX5 40 RX5 (TX5 9).2.1 (TX5 9).2.2.1 ∈ dt_tbl := dt_tin (List.mem_of_getElem? (i := 148) (by decide +kernel)) rfl
theorem fl_X5_43 : Cond.fieldLink RX5 43 RX5 (TX5 10).2.1 (TX5 10).2.2.1 ∈ dt_tbl := dt_tin (List.mem_of_getElem? (i := 150) (by decide +kernel)) rfl
theorem fl_X5_46 : Cond.fieldLink RX5 46 RX5 (TX5 11).2.1 (TX5 11).2.2.1 ∈ dt_tbl := dt_tin (List.mem_of_getElem? (i := 151) (by decide +kernel)) rfl
theorem fl_X5_49 : Cond.fieldLink RX5 49 RX5 (TX5 12).2.1 (TX5 12).2.2.1 ∈ dt_tbl := dt_tin (List.mem_of_getElem? (i := 152) (by decide +kernel)) rfl
theorem fl_X5_9 : Cond.fieldLink RX5 9 RX5 (TX5 0).2.1 (TX5 0).2.2.1 ∈ dt_tbl := dt_tin (List.mem_of_getElem? (i := 122) (by decide +kernel)) rfl
theorem fl_X6_11 : Cond.fieldLink RX6 11 RX6 (TX6 0).2.1 (TX6 0).2.2.1 ∈ dt_tbl := dt_tin (List.mem_of_getElem? (i := 308) (by decide +kernel)) rfl
theorem fl_X6_15 : Cond.fieldLink RX6 15 RX6 (TX6 1).2.1 (TX6 1).2.2.1 ∈ dt_tbl := dt_tin (List.mem_of_getElem? (i := 310) (by decide +kernel)) rfl
theorem fl_X6_18 : Cond.fieldLink RX6 18 RX6 (TX6 2).2.1 (TX6 2).2.2.1 ∈ dt_tbl := dt_tin (List.mem_of_getElem? (i := 312) (by decide +kernel)) rfl
theorem fl_X6_21 : Cond.fieldLink RX6 21 RX6 (TX6 3).2.1 (TX6 3).2.2.1 ∈ dt_tbl := dt_tin (List.mem_of_getElem? (i := 314) (by decide +kernel)) rfl
theorem fl_X6_24 : Cond.fieldLink RX6 24 RX6 (TX6 4).2.1 (TX6 4).2.2.1 ∈ dt_tbl := dt_tin (List.mem_of_getElem? (i := 316) (by decide +kernel)) rfl
theorem fl_X6_28 : Cond.fieldLink RX6 28 RX6 (TX6 5).2.1 (TX6 5).2.2.1 ∈ dt_tbl := dt_tin (List.mem_of_getElem? (i := 318) (by decide +kernel)) rfl
theorem fl_X7_11 : Cond.fieldLink RX7 11 RX7 (TX7 0).2.1 (TX7 0).2.2.1 ∈ dt_tbl := dt_tin (List.mem_of_getElem? (i := 219) (by decide +kernel)) rfl
theorem fl_X7_15 : Cond.fieldLink RX7 15 RX7 (TX7 1).2.1 (TX7 1).2.2.1 ∈ dt_tbl := dt_tin (List.mem_of_getElem? (i := 220) (by decide +kernel)) rfl
theorem fl_X7_18 : Cond.fieldLink RX7 18 RX7 (TX7 2).2.1 (TX7 2).2.2.1 ∈ dt_tbl := dt_tin (List.mem_of_getElem? (i := 221) (by decide +kernel)) rfl
theorem fl_X7_22 : Cond.fieldLink RX7 22 RX7 (TX7 3).2.1 (TX7 3).2.2.1 ∈ dt_tbl := dt_tin (List.mem_of_getElem? (i := 222) (by decide +kernel)) rfl
theorem fl_X7_25 : Cond.fieldLink RX7 25 RX7 (TX7 4).2.1 (TX7 4).2.2.1 ∈ dt_tbl := dt_tin (List.mem_of_getElem? (i := 223) (by decide +kernel)) rfl
theorem fl_X7_28 : Cond.fieldLink RX7 28 RX7 (TX7 5).2.1 (TX7 5).2.2.1 ∈ dt_tbl := dt_tin (List.mem_of_getElem? (i := 224) (by decide +kernel)) rfl
theorem fl_X7_31 : Cond.fieldLink RX7 31 RX7 (TX7 6).2.1 (TX7 6).2.2.1 ∈ dt_tbl := dt_tin (List.mem_of_getElem? (i := 226) (by decide +kernel)) rfl
theorem fl_X7_34 : Cond.fieldLink RX7 34 RX7 (TX7 7).2.1 (TX7 7).2.2.1 ∈ dt_tbl := dt_tin (List.mem_of_getElem? (i := 228) (by decide +kernel)) rfl
theorem fl_X8_10 : Cond.fieldLink RX8 10 RX8 (TX8 0).2.1 (TX8 0).2.2.1 ∈ dt_tbl := dt_tin (List.mem_of_getElem? (i := 281) (by decide +kernel)) rfl
theorem fl_X8_19 : Cond.fieldLink RX8 19 RX8 (TX8 1).2.1 (TX8 1).2.2.1 ∈ dt_tbl := dt_tin (List.mem_of_getElem? (i := 283) (by decide +kernel)) rfl
theorem fl_X8_26 : Cond.fieldLink RX8 26 RX8 (TX8 2).2.1 (TX8 2).2.2.1 ∈ dt_tbl := dt_tin (List.mem_of_getElem? (i := 285) (by decide +kernel)) rfl
theorem fl_X8_33 : Cond.fieldLink RX8 33 RX8 (TX8 3).2.1 (TX8 3).2.2.1 ∈ dt_tbl := dt_tin (List.mem_of_getElem? (i := 287) (by decide +kernel)) rfl
theorem fl_X8_40 : Cond.fieldLink RX8 40 RX8 (TX8 4).2.1 (TX8 4).2.2.1 ∈ dt_tbl := dt_tin (List.mem_of_getElem? (i := 289) (by decide +kernel)) rfl
theorem fl_X9_10 : Cond.fieldLink RX9 10 RX9 (TX9 0).2.1 (TX9 0).2.2.1 ∈ dt_tbl := dt_tin (List.mem_of_getElem? (i := 433) (by decide +kernel)) rfl
theorem fl_X9_107 : Cond.fieldLink RX9 107 RX5 (TX5 6).2.1 (TX5 6).2.2.1 ∈ dt_tbl := dt_tin (List.mem_of_getElem? (i := 142) (by decide +kernel)) rfl
theorem fl_X9_115 : Cond.fieldLink RX9 115 RX5 (TX5 12).2.1 (TX5 12).2.2.1 ∈ dt_tbl := dt_tin (List.mem_of_getElem? (i := 153) (by decide +kernel)) rfl
theorem fl_X9_116 : Cond.fieldLink RX9 116 RX5 (TX5 8).2.1 (TX5 8).2.2.1 ∈ dt_tbl := dt_tin (List.mem_of_getElem? (i := 147) (by decide +kernel)) rfl
theorem fl_X9_123 : Cond.fieldLink RX9 123 RX8 (TX8 1).2.1 (TX8 1).2.2.1 ∈ dt_tbl := dt_tin (List.mem_of_getElem? (i := 284) (by decide +kernel)) rfl
theorem fl_X9_142 : Cond.fieldLink RX9 142 RX5 (TX5 7).2.1 (TX5 7).2.2.1 ∈ dt_tbl := dt_tin (List.mem_of_getElem? (i := 145) (by decide +kernel)) rfl
theorem fl_X9_151 : Cond.fieldLink RX9 151 RX5 (TX5 2).2.1 (TX5 2).2.2.1 ∈ dt_tbl := dt_tin (List.mem_of_getElem? (i := 133) (by decide +kernel)) rfl
theorem fl_X9_154 : Cond.fieldLink RX9 154 RX5 (TX5 3).2.1 (TX5 3).2.2.1 ∈ dt_tbl := dt_tin (List.mem_of_getElem? (i := 135) (by decide +kernel)) rfl
theorem fl_X9_157 : Cond.fieldLink RX9 157 RX5 (TX5 4).2.1 (TX5 4).2.2.1 ∈ dt_tbl := dt_tin (List.mem_of_getElem? (i := 137) (by decide +kernel)) rfl
theorem fl_X9_16 : Cond.fieldLink RX9 16 RX9 (TX9 1).2.1 (TX9 1).2.2.1 ∈ dt_tbl := dt_tin (List.mem_of_getElem? (i := 434) (by decide +kernel)) rfl
theorem fl_X9_160 : Cond.fieldLink RX9 160 RX5 (TX5 5).2.1 (TX5 5).2.2.1 ∈ dt_tbl := dt_tin (List.mem_of_getElem? (i := 139) (by decide +kernel)) rfl
theorem fl_X9_170 : Cond.fieldLink RX9 170 RX8 (TX8 3).2.1 (TX8 3).2.2.1 ∈ dt_tbl := dt_tin (List.mem_of_getElem? (i := 288) (by decide +kernel)) rfl
theorem fl_X9_183 : Cond.fieldLink RX9 183 RX5 (TX5 9).2.1 (TX5 9).2.2.1 ∈ dt_tbl := dt_tin (List.mem_of_getElem? (i := 149) (by decide +kernel)) rfl
theorem fl_X9_186 : Cond.fieldLink RX9 186 RX1 (TX1 4).2.1 (TX1 4).2.2.1 ∈ dt_tbl := dt_tin (List.mem_of_getElem? (i := 197) (by decide +kernel)) rfl
theorem fl_X9_189 : Cond.fieldLink RX9 189 RX1 (TX1 3).2.1 (TX1 3).2.2.1 ∈ dt_tbl := dt_tin (List.mem_of_getElem? (i := 195) (by decide +kernel)) rfl
theorem fl_X9_19 : Cond.fieldLink RX9 19 RX9 (TX9 2).2.1 (TX9 2).2.2.1 ∈ dt_tbl := dt_tin (List.mem_of_getElem? (i := 435) (by decide +kernel)) rfl
theorem fl_X9_211 : Cond.fieldLink RX9 211 RX7 (TX7 6).2.1 (TX7 6).2.2.1 ∈ dt_tbl := dt_tin (List.mem_of_getElem? (i := 227) (by decide +kernel)) rfl
theorem fl_X9_214 : Cond.fieldLink RX9 214 RX8 (TX8 2).2.1 (TX8 2).2.2.1 ∈ dt_tbl := dt_tin (List.mem_of_getElem? (i := 286) (by decide +kernel)) rfl
theorem fl_X9_221 : Cond.fieldLink RX9 221 RX7 (TX7 5).2.1 (TX7 5).2.2.1 ∈ dt_tbl := dt_tin (List.mem_of_getElem? (i := 225) (by decide +kernel)) rfl
theorem fl_X9_224 : Cond.fieldLink RX9 224 RX7 (TX7 7).2.1 (TX7 7).2.2.1 ∈ dt_tbl := dt_tin (List.mem_of_getElem? (i := 229) (by decide +kernel)) rfl
theorem fl_X9_26 : Cond.fieldLink RX9 26 RX9 (TX9 3).2.1 (TX9 3).2.2.1 ∈ dt_tbl := dt_tin (List.mem_of_getElem? (i := 436) (by decide +kernel)) rfl
theorem fl_X9_267 : Cond.fieldLink RX9 267 RX8 (TX8 4).2.1 (TX8 4).2.2.1 ∈ dt_tbl := dt_tin (List.mem_of_getElem? (i := 290) (by decide +kernel)) rfl
theorem fl_X9_293 : Cond.fieldLink RX9 293 RX6 (TX6 0).2.1 (TX6 0).2.2.1 ∈ dt_tbl := dt_tin (List.mem_of_getElem? (i := 309) (by decide +kernel)) rfl
theorem fl_X9_296 : Cond.fieldLink RX9 296 RX6 (TX6 1).2.1 (TX6 1).2.2.1 ∈ dt_tbl := dt_tin (List.mem_of_getElem? (i := 311) (by decide +kernel)) rfl
theorem fl_X9_297 : Cond.fieldLink RX9 297 RX6 (TX6 2).2.1 (TX6 2).2.2.1 ∈ dt_tbl := dt_tin (List.mem_of_getElem? (i := 313) (by decide +kernel)) rfl
theorem fl_X9_30 : Cond.fieldLink RX9 30 RX9 (TX9 4).2.1 (TX9 4).2.2.1 ∈ dt_tbl := dt_tin (List.mem_of_getElem? (i := 437) (by decide +kernel)) rfl
theorem fl_X9_301 : Cond.fieldLink RX9 301 RX6 (TX6 3).2.1 (TX6 3).2.2.1 ∈ dt_tbl := dt_tin (List.mem_of_getElem? (i := 315) (by decide +kernel)) rfl
theorem fl_X9_313 : Cond.fieldLink RX9 313 RX1 (TX1 0).2.1 (TX1 0).2.2.1 ∈ dt_tbl := dt_tin (List.mem_of_getElem? (i := 189) (by decide +kernel)) rfl
theorem fl_X9_316 : Cond.fieldLink RX9 316 RX1 (TX1 1).2.1 (TX1 1).2.2.1 ∈ dt_tbl := dt_tin (List.mem_of_getElem? (i := 191) (by decide +kernel)) rfl
theorem fl_X9_319 : Cond.fieldLink RX9 319 RX1 (TX1 2).2.1 (TX1 2).2.2.1 ∈ dt_tbl := dt_tin (List.mem_of_getElem? (i := 193) (by decide +kernel)) rfl
theorem fl_X9_322 : Cond.fieldLink RX9 322 RX1 (TX1 5).2.1 (TX1 5).2.2.1 ∈ dt_tbl := dt_tin (List.mem_of_getElem? (i := 199) (by decide +kernel)) rfl
theorem fl_X9_325 : Cond.fieldLink RX9 325 RX0 (TX0 0).2.1 (TX0 0).2.2.1 ∈ dt_tbl := dt_tin (List.mem_of_getElem? (i := 254) (by decide +kernel)) rfl
theorem fl_X9_326 : Cond.fieldLink RX9 326 RX6 (TX6 4).2.1 (TX6 4).2.2.1 ∈ dt_tbl := dt_tin (List.mem_of_getElem? (i := 317) (by decide +kernel)) rfl
theorem fl_X9_34 : Cond.fieldLink RX9 34 RX9 (TX9 5).2.1 (TX9 5).2.2.1 ∈ dt_tbl := dt_tin (List.mem_of_getElem? (i := 438) (by decide +kernel)) rfl
theorem fl_X9_41 : Cond.fieldLink RX9 41 RX9 (TX9 6).2.1 (TX9 6).2.2.1 ∈ dt_tbl := dt_tin (List.mem_of_getElem? (i := 439) (by decide +kernel)) rfl
theorem fl_X9_45 : Cond.fieldLink RX9 45 RX9 (TX9 7).2.1 (TX9 7).2.2.1 ∈ dt_tbl := dt_tin (List.mem_of_getElem? (i := 440) (by decide +kernel)) rfl
theorem fl_X9_48 : Cond.fieldLink RX9 48 RX9 (TX9 8).2.1 (TX9 8).2.2.1 ∈ dt_tbl := dt_tin (List.mem_of_getElem? (i := 441) (by decide +kernel)) rfl
theorem fl_X9_54 : Cond.fieldLink RX9 54 RX9 (TX9 9).2.1 (TX9 9).2.2.1 ∈ dt_tbl := dt_tin (List.mem_of_getElem? (i := 442) (by decide +kernel)) rfl
theorem fl_X9_61 : Cond.fieldLink RX9 61 RX9 (TX9 10).2.1 (TX9 10).2.2.1 ∈ dt_tbl := dt_tin (List.mem_of_getElem? (i := 443) (by decide +kernel)) rfl
theorem fl_X9_68 : Cond.fieldLink RX9 68 RX9 (TX9 11).2.1 (TX9 11).2.2.1 ∈ dt_tbl := dt_tin (List.mem_of_getElem? (i := 444) (by decide +kernel)) rfl
theorem fl_X9_79 : Cond.fieldLink RX9 79 RX8 (TX8 0).2.1 (TX8 0).2.2.1 ∈ dt_tbl := dt_tin (List.mem_of_getElem? (i := 282) (by decide +kernel)) rfl
theorem fl_X9_82 : Cond.fieldLink RX9 82 RX5 (TX5 0).2.1 (TX5 0).2.2.1 ∈ dt_tbl := dt_tin (List.mem_of_getElem? (i := 123) (by decide +kernel)) rfl
theorem fl_X9_89 : Cond.fieldLink RX9 89 RX5 (TX5 1).2.1 (TX5 1).2.2.1 ∈ dt_tbl := dt_tin (List.mem_of_getElem? (i := 128) (by decide +kernel)) rfl
theorem fl_X10_13 : Cond.fieldLink RX10 13 RX10 (TX10 1).2.1 (TX10 1).2.2.1 ∈ dt_tbl := dt_tin (List.mem_of_getElem? (i := 1101) (by decide +kernel)) rfl
theorem fl_X10_132 : Cond.fieldLink RX10 132 RX10 (TX10 4).2.1 (TX10 4).2.2.1 ∈ dt_tbl := dt_tin (List.mem_of_getElem? (i := 1104) (by decide +kernel)) rfl
theorem fl_X10_16 : Cond.fieldLink RX10 16 RX10 (TX10 2).2.1 (TX10 2).2.2.1 ∈ dt_tbl := dt_tin (List.mem_of_getElem? (i := 1102) (by decide +kernel)) rfl
theorem fl_X10_170 : Cond.fieldLink RX10 170 RX10 (TX10 18).2.1 (TX10 18).2.2.1 ∈ dt_tbl := dt_tin (List.mem_of_getElem? (i := 1118) (by decide +kernel)) rfl
theorem fl_X10_173 : Cond.fieldLink RX10 173 RX10 (TX10 19).2.1 (TX10 19).2.2.1 ∈ dt_tbl := dt_tin (List.mem_of_getElem? (i := 1119) (by decide +kernel)) rfl
theorem fl_X10_176 : Cond.fieldLink RX10 176 RX10 (TX10 21).2.1 (TX10 21).2.2.1 ∈ dt_tbl := dt_tin (List.mem_of_getElem? (i := 1121) (by decide +kernel)) rfl
theorem fl_X10_19 : Cond.fieldLink RX10 19 RX10 (TX10 5).2.1 (TX10 5).2.2.1 ∈ dt_tbl := dt_tin (List.mem_of_getElem? (i := 1105) (by decide +kernel)) rfl
theorem fl_X10_221 : Cond.fieldLink RX10 221 RX10 (TX10 20).2.1 (TX10 20).2.2.1 ∈ dt_tbl := dt_tin (List.mem_of_getElem? (i := 1120) (by decide +kernel)) rfl
theorem fl_X10_23 : Cond.fieldLink RX10 23 RX10 (TX10 7).2.1 (TX10 7).2.2.1 ∈ dt_tbl := dt_tin (List.mem_of_getElem? (i := 1107) (by decide +kernel)) rfl
theorem fl_X10_233 : Cond.fieldLink RX10 233 RX10 (TX10 22).2.1 (TX10 22).2.2.1 ∈ dt_tbl := dt_tin (List.mem_of_getElem? (i := 1122) (by decide +kernel)) rfl
theorem fl_X10_236 : Cond.fieldLink RX10 236 RX10 (TX10 23).2.1 (TX10 23).2.2.1 ∈ dt_tbl := dt_tin (List.mem_of_getElem? (i := 1123) (by decide +kernel)) rfl
theorem fl_X10_239 : Cond.fieldLink RX10 239 RX10 (TX10 24).2.1 (TX10 24).2.2.1 ∈ dt_tbl := dt_tin (List.mem_of_getElem? (i := 1124) (by decide +kernel)) rfl
theorem fl_X10_248 : Cond.fieldLink RX10 248 RX10 (TX10 17).2.1 (TX10 17).2.2.1 ∈ dt_tbl := dt_tin (List.mem_of_getElem? (i := 1117) (by decide +kernel)) rfl
theorem fl_X10_251 : Cond.fieldLink RX10 251 RX10 (TX10 26).2.1 (TX10 26).2.2.1 ∈ dt_tbl := dt_tin (List.mem_of_getElem? (i := 1126) (by decide +kernel)) rfl
theorem fl_X10_26 : Cond.fieldLink RX10 26 RX10 (TX10 8).2.1 (TX10 8).2.2.1 ∈ dt_tbl := dt_tin (List.mem_of_getElem? (i := 1108) (by decide +kernel)) rfl
theorem fl_X10_283 : Cond.fieldLink RX10 283 RX10 (TX10 16).2.1 (TX10 16).2.2.1 ∈ dt_tbl := dt_tin (List.mem_of_getElem? (i := 1116) (by decide +kernel)) rfl
theorem fl_X10_289 : Cond.fieldLink RX10 289 RX10 (TX10 25).2.1 (TX10 25).2.2.1 ∈ dt_tbl := dt_tin (List.mem_of_getElem? (i := 1125) (by decide +kernel)) rfl
theorem fl_X10_29 : Cond.fieldLink RX10 29 RX10 (TX10 9).2.1 (TX10 9).2.2.1 ∈ dt_tbl := dt_tin (List.mem_of_getElem? (i := 1109) (by decide +kernel)) rfl
theorem fl_X10_307 : Cond.fieldLink RX10 307 RX10 (TX10 34).2.1 (TX10 34).2.2.1 ∈ dt_tbl := dt_tin (List.mem_of_getElem? (i := 1134) (by decide +kernel)) rfl
theorem fl_X10_310 : Cond.fieldLink RX10 310 RX10 (TX10 33).2.1 (TX10 33).2.2.1 ∈ dt_tbl := dt_tin (List.mem_of_getElem? (i := 1133) (by decide +kernel)) rfl
theorem fl_X10_323 : Cond.fieldLink RX10 323 RX10 (TX10 37).2.1 (TX10 37).2.2.1 ∈ dt_tbl := dt_tin (List.mem_of_getElem? (i := 1137) (by decide +kernel)) rfl
theorem fl_X10_34 : Cond.fieldLink RX10 34 RX10 (TX10 10).2.1 (TX10 10).2.2.1 ∈ dt_tbl := dt_tin (List.mem_of_getElem? (i := 1110) (by decide +kernel)) rfl
theorem fl_X10_347 : Cond.fieldLink RX10 347 RX10 (TX10 6).2.1 (TX10 6).2.2.1 ∈ dt_tbl := dt_tin (List.mem_of_getElem? (i := 1106) (by decide +kernel)) rfl
theorem fl_X10_37 : Cond.fieldLink RX10 37 RX10 (TX10 11).2.1 (TX10 11).2.2.1 ∈ dt_tbl := dt_tin (List.mem_of_getElem? (i := 1111) (by decide +kernel)) rfl
theorem fl_X10_40 : Cond.fieldLink RX10 40 RX10 (TX10 12).2.1 (TX10 12).2.2.1 ∈ dt_tbl := dt_tin (List.mem_of_getElem? (i := 1112) (by decide +kernel)) rfl
theorem fl_X10_43 : Cond.fieldLink RX10 43 RX10 (TX10 13).2.1 (TX10 13).2.2.1 ∈ dt_tbl := dt_tin (List.mem_of_getElem? (i := 1113) (by decide +kernel)) rfl
theorem fl_X10_46 : Cond.fieldLink RX10 46 RX10 (TX10 14).2.1 (TX10 14).2.2.1 ∈ dt_tbl := dt_tin (List.mem_of_getElem? (i := 1114) (by decide +kernel)) rfl
theorem fl_X10_49 : Cond.fieldLink RX10 49 RX10 (TX10 15).2.1 (TX10 15).2.2.1 ∈ dt_tbl := dt_tin (List.mem_of_getElem? (i := 1115) (by decide +kernel)) rfl
theorem fl_X10_52 : Cond.fieldLink RX10 52 RX10 (TX10 27).2.1 (TX10 27).2.2.1 ∈ dt_tbl := dt_tin (List.mem_of_getElem? (i := 1127) (by decide +kernel)) rfl
theorem fl_X10_55 : Cond.fieldLink RX10 55 RX10 (TX10 28).2.1 (TX10 28).2.2.1 ∈ dt_tbl := dt_tin (List.mem_of_getElem? (i := 1128) (by decide +kernel)) rfl
theorem fl_X10_58 : Cond.fieldLink RX10 58 RX10 (TX10 29).2.1 (TX10 29).2.2.1 ∈ dt_tbl := dt_tin (List.mem_of_getElem? (i := 1129) (by decide +kernel)) rfl
theorem fl_X10_61 : Cond.fieldLink RX10 61 RX10 (TX10 30).2.1 (TX10 30).2.2.1 ∈ dt_tbl := dt_tin (List.mem_of_getElem? (i := 1130) (by decide +kernel)) rfl
theorem fl_X10_64 : Cond.fieldLink RX10 64 RX10 (TX10 31).2.1 (TX10 31).2.2.1 ∈ dt_tbl := dt_tin (List.mem_of_getElem? (i := 1131) (by decide +kernel)) rfl
theorem fl_X10_67 : Cond.fieldLink RX10 67 RX10 (TX10 32).2.1 (TX10 32).2.2.1 ∈ dt_tbl := dt_tin (List.mem_of_getElem? (i := 1132) (by decide +kernel)) rfl
theorem fl_X10_7 : Cond.fieldLink RX10 7 RX10 (TX10 0).2.1 (TX10 0).2.2.1 ∈ dt_tbl := dt_tin (List.mem_of_getElem? (i := 1100) (by decide +kernel)) rfl
theorem fl_X10_70 : Cond.fieldLink RX10 70 RX10 (TX10 35).2.1 (TX10 35).2.2.1 ∈ dt_tbl := dt_tin (List.mem_of_getElem? (i := 1135) (by decide +kernel)) rfl
theorem fl_X10_73 : Cond.fieldLink RX10 73 RX10 (TX10 36).2.1 (TX10 36).2.2.1 ∈ dt_tbl := dt_tin (List.mem_of_getElem? (i := 1136) (by decide +kernel)) rfl
theorem fl_X10_80 : Cond.fieldLink RX10 80 RX10 (TX10 3).2.1 (TX10 3).2.2.1 ∈ dt_tbl := dt_tin (List.mem_of_getElem? (i := 1103) (by decide +kernel)) rfl
theorem ml_X0_22 : Cond.methodLink RX0 22 yJ7_fill_53178 ∈ dt_tbl := dt_tin (List.mem_of_getElem? (i := 427) (by decide +kernel)) rfl
theorem ml_X0_28 : Cond.methodLink RX0 28 arraycopyName ∈ dt_tbl := dt_tin (List.mem_of_getElem? (i := 1082) (by decide +kernel)) rfl
theorem ml_X0_34 : Cond.methodLink RX0 34 yJ6_bitCount_0f7a4 ∈ dt_tbl := dt_tin (List.mem_of_getElem? (i := 622) (by decide +kernel)) rfl
theorem ml_X0_40 : Cond.methodLink RX0 40 yX0_strengthOf ∈ dt_tbl := dt_tin (List.mem_of_getElem? (i := 628) (by decide +kernel)) rfl
theorem ml_X1_29 : Cond.methodLink RX1 29 yX1_dawn ∈ dt_tbl := dt_tin (List.mem_of_getElem? (i := 415) (by decide +kernel)) rfl
theorem ml_X2_43 : Cond.methodLink RX2 43 yX2_search ∈ dt_tbl := dt_tin (List.mem_of_getElem? (i := 959) (by decide +kernel)) rfl
theorem ml_X2_47 : Cond.methodLink RX2 47 yX2_blockOf ∈ dt_tbl := dt_tin (List.mem_of_getElem? (i := 948) (by decide +kernel)) rfl
theorem ml_X2_51 : Cond.methodLink RX2 51 yX2_count ∈ dt_tbl := dt_tin (List.mem_of_getElem? (i := 963) (by decide +kernel)) rfl
theorem ml_X2_60 : Cond.methodLink RX2 60 yX2_isTaken ∈ dt_tbl := dt_tin (List.mem_of_getElem? (i := 977) (by decide +kernel)) rfl
theorem ml_X2_64 : Cond.methodLink RX2 64 yX2_build ∈ dt_tbl := dt_tin (List.mem_of_getElem? (i := 967) (by decide +kernel)) rfl
theorem ml_X2_68 : Cond.methodLink RX2 68 yX5_weigh ∈ dt_tbl := dt_tin (List.mem_of_getElem? (i := 974) (by decide +kernel)) rfl
theorem ml_X2_71 : Cond.methodLink RX2 71 yX5_overloaded ∈ dt_tbl := dt_tin (List.mem_of_getElem? (i := 975) (by decide +kernel)) rfl
theorem ml_X2_75 : Cond.methodLink RX2 75 yX5_lift ∈ dt_tbl := dt_tin (List.mem_of_getElem? (i := 976) (by decide +kernel)) rfl
theorem ml_X2_79 : Cond.methodLink RX2 79 yX5_levelFor ∈ dt_tbl := dt_tin (List.mem_of_getElem? (i := 971) (by decide +kernel)) rfl
theorem ml_X2_83 : Cond.methodLink RX2 83 yX5_wouldStand ∈ dt_tbl := dt_tin (List.mem_of_getElem? (i := 972) (by decide +kernel)) rfl
theorem ml_X2_87 : Cond.methodLink RX2 87 yX5_drop ∈ dt_tbl := dt_tin (List.mem_of_getElem? (i := 973) (by decide +kernel)) rfl
theorem ml_X3_102 : Cond.methodLink RX3 102 Lib.Math.max.name ∈ dt_tbl := dt_tin (List.mem_of_getElem? (i := 924) (by decide +kernel)) rfl
theorem ml_X3_34 : Cond.methodLink RX3 34 yX5_tallest ∈ dt_tbl := dt_tin (List.mem_of_getElem? (i := 891) (by decide +kernel)) rfl
theorem ml_X3_41 : Cond.methodLink RX3 41 yX3_search ∈ dt_tbl := dt_tin (List.mem_of_getElem? (i := 893) (by decide +kernel)) rfl
theorem ml_X3_57 : Cond.methodLink RX3 57 yX3_step ∈ dt_tbl := dt_tin (List.mem_of_getElem? (i := 897) (by decide +kernel)) rfl
theorem ml_X3_61 : Cond.methodLink RX3 61 yX5_levelFor ∈ dt_tbl := dt_tin (List.mem_of_getElem? (i := 901) (by decide +kernel)) rfl
theorem ml_X3_69 : Cond.methodLink RX3 69 yX3_cameLate ∈ dt_tbl := dt_tin (List.mem_of_getElem? (i := 903) (by decide +kernel)) rfl
theorem ml_X3_73 : Cond.methodLink RX3 73 yX5_raise ∈ dt_tbl := dt_tin (List.mem_of_getElem? (i := 907) (by decide +kernel)) rfl
theorem ml_X3_76 : Cond.methodLink RX3 76 yX3_keep ∈ dt_tbl := dt_tin (List.mem_of_getElem? (i := 908) (by decide +kernel)) rfl
theorem ml_X3_80 : Cond.methodLink RX3 80 yX3_isHopeful ∈ dt_tbl := dt_tin (List.mem_of_getElem? (i := 913) (by decide +kernel)) rfl
theorem ml_X3_84 : Cond.methodLink RX3 84 yX5_lift ∈ dt_tbl := dt_tin (List.mem_of_getElem? (i := 925) (by decide +kernel)) rfl
theorem ml_X3_88 : Cond.methodLink RX3 88 arraycopyName ∈ dt_tbl := dt_tin (List.mem_of_getElem? (i := 912) (by decide +kernel)) rfl
theorem ml_X3_94 : Cond.methodLink RX3 94 yX5_isBare ∈ dt_tbl := dt_tin (List.mem_of_getElem? (i := 917) (by decide +kernel)) rfl
theorem ml_X3_98 : Cond.methodLink RX3 98 yX3_longestInYard ∈ dt_tbl := dt_tin (List.mem_of_getElem? (i := 921) (by decide +kernel)) rfl
theorem ml_X4_22 : Cond.methodLink RX4 22 yJ7_fill_53178 ∈ dt_tbl := dt_tin (List.mem_of_getElem? (i := 432) (by decide +kernel)) rfl
theorem ml_X4_28 : Cond.methodLink RX4 28 arraycopyName ∈ dt_tbl := dt_tin (List.mem_of_getElem? (i := 1087) (by decide +kernel)) rfl
theorem ml_X4_36 : Cond.methodLink RX4 36 yX4_goingOn ∈ dt_tbl := dt_tin (List.mem_of_getElem? (i := 1027) (by decide +kernel)) rfl
theorem ml_X4_40 : Cond.methodLink RX4 40 Lib.MathLoose.max_long.x ∈ dt_tbl := dt_tin (List.mem_of_getElem? (i := 1035) (by decide +kernel)) rfl
theorem ml_X4_46 : Cond.methodLink RX4 46 yX4_chanceAt ∈ dt_tbl := dt_tin (List.mem_of_getElem? (i := 1031) (by decide +kernel)) rfl
theorem ml_X5_103 : Cond.methodLink RX5 103 yX5_drop ∈ dt_tbl := dt_tin (List.mem_of_getElem? (i := 528) (by decide +kernel)) rfl
theorem ml_X5_107 : Cond.methodLink RX5 107 yX5_overloaded ∈ dt_tbl := dt_tin (List.mem_of_getElem? (i := 553) (by decide +kernel)) rfl
theorem ml_X5_110 : Cond.methodLink RX5 110 yX5_lift ∈ dt_tbl := dt_tin (List.mem_of_getElem? (i := 561) (by decide +kernel)) rfl
theorem ml_X5_113 : Cond.methodLink RX5 113 yX5_fits ∈ dt_tbl := dt_tin (List.mem_of_getElem? (i := 532) (by decide +kernel)) rfl
theorem ml_X5_116 : Cond.methodLink RX5 116 yX5_mark ∈ dt_tbl := dt_tin (List.mem_of_getElem? (i := 533) (by decide +kernel)) rfl
theorem ml_X5_120 : Cond.methodLink RX5 120 yX5_settle ∈ dt_tbl := dt_tin (List.mem_of_getElem? (i := 569) (by decide +kernel)) rfl
theorem ml_X5_124 : Cond.methodLink RX5 124 yX5_toYard ∈ dt_tbl := dt_tin (List.mem_of_getElem? (i := 573) (by decide +kernel)) rfl
theorem ml_X5_127 : Cond.methodLink RX5 127 Lib.Math.min.name ∈ dt_tbl := dt_tin (List.mem_of_getElem? (i := 713) (by decide +kernel)) rfl
theorem ml_X5_130 : Cond.methodLink RX5 130 yX5_bears ∈ dt_tbl := dt_tin (List.mem_of_getElem? (i := 557) (by decide +kernel)) rfl
theorem ml_X5_133 : Cond.methodLink RX5 133 yJ7_fill_53178 ∈ dt_tbl := dt_tin (List.mem_of_getElem? (i := 408) (by decide +kernel)) rfl
theorem ml_X5_139 : Cond.methodLink RX5 139 yX5_tallest ∈ dt_tbl := dt_tin (List.mem_of_getElem? (i := 541) (by decide +kernel)) rfl
theorem ml_X5_142 : Cond.methodLink RX5 142 yX5_share ∈ dt_tbl := dt_tin (List.mem_of_getElem? (i := 549) (by decide +kernel)) rfl
theorem ml_X5_52 : Cond.methodLink RX5 52 yX5_clearCells ∈ dt_tbl := dt_tin (List.mem_of_getElem? (i := 404) (by decide +kernel)) rfl
theorem ml_X5_55 : Cond.methodLink RX5 55 arraycopyName ∈ dt_tbl := dt_tin (List.mem_of_getElem? (i := 886) (by decide +kernel)) rfl
theorem ml_X5_61 : Cond.methodLink RX5 61 yX5_isKnown ∈ dt_tbl := dt_tin (List.mem_of_getElem? (i := 497) (by decide +kernel)) rfl
theorem ml_X5_65 : Cond.methodLink RX5 65 yX5_yardSet ∈ dt_tbl := dt_tin (List.mem_of_getElem? (i := 653) (by decide +kernel)) rfl
theorem ml_X5_69 : Cond.methodLink RX5 69 yJ6_bitCount_0f7a4 ∈ dt_tbl := dt_tin (List.mem_of_getElem? (i := 657) (by decide +kernel)) rfl
theorem ml_X5_75 : Cond.methodLink RX5 75 Lib.Math.max.name ∈ dt_tbl := dt_tin (List.mem_of_getElem? (i := 525) (by decide +kernel)) rfl
theorem ml_X5_81 : Cond.methodLink RX5 81 yX5_isInTower ∈ dt_tbl := dt_tin (List.mem_of_getElem? (i := 565) (by decide +kernel)) rfl
theorem ml_X5_84 : Cond.methodLink RX5 84 yX5_weigh ∈ dt_tbl := dt_tin (List.mem_of_getElem? (i := 537) (by decide +kernel)) rfl
theorem ml_X5_87 : Cond.methodLink RX5 87 yX5_heightAt ∈ dt_tbl := dt_tin (List.mem_of_getElem? (i := 521) (by decide +kernel)) rfl
theorem ml_X5_90 : Cond.methodLink RX5 90 yX5_isFree ∈ dt_tbl := dt_tin (List.mem_of_getElem? (i := 938) (by decide +kernel)) rfl
theorem ml_X5_93 : Cond.methodLink RX5 93 yX5_cellAt ∈ dt_tbl := dt_tin (List.mem_of_getElem? (i := 545) (by decide +kernel)) rfl
theorem ml_X5_96 : Cond.methodLink RX5 96 yX5_levelFor ∈ dt_tbl := dt_tin (List.mem_of_getElem? (i := 517) (by decide +kernel)) rfl
theorem ml_X5_99 : Cond.methodLink RX5 99 yX5_wouldStand ∈ dt_tbl := dt_tin (List.mem_of_getElem? (i := 513) (by decide +kernel)) rfl
theorem ml_X6_31 : Cond.methodLink RX6 31 Lib.Math.min.name ∈ dt_tbl := dt_tin (List.mem_of_getElem? (i := 591) (by decide +kernel)) rfl
theorem ml_X6_37 : Cond.methodLink RX6 37 yX6_newest ∈ dt_tbl := dt_tin (List.mem_of_getElem? (i := 1063) (by decide +kernel)) rfl
theorem ml_X7_102 : Cond.methodLink RX7 102 yX7_sum ∈ dt_tbl := dt_tin (List.mem_of_getElem? (i := 682) (by decide +kernel)) rfl
theorem ml_X7_105 : Cond.methodLink RX7 105 yX7_expectOrder ∈ dt_tbl := dt_tin (List.mem_of_getElem? (i := 694) (by decide +kernel)) rfl
theorem ml_X7_108 : Cond.methodLink RX7 108 yX7_isSo ∈ dt_tbl := dt_tin (List.mem_of_getElem? (i := 698) (by decide +kernel)) rfl
theorem ml_X7_112 : Cond.methodLink RX7 112 yX7_unit ∈ dt_tbl := dt_tin (List.mem_of_getElem? (i := 686) (by decide +kernel)) rfl
theorem ml_X7_115 : Cond.methodLink RX7 115 yX7_partOf ∈ dt_tbl := dt_tin (List.mem_of_getElem? (i := 690) (by decide +kernel)) rfl
theorem ml_X7_37 : Cond.methodLink RX7 37 arraycopyName ∈ dt_tbl := dt_tin (List.mem_of_getElem? (i := 868) (by decide +kernel)) rfl
theorem ml_X7_43 : Cond.methodLink RX7 43 yX7_tokenEnd ∈ dt_tbl := dt_tin (List.mem_of_getElem? (i := 738) (by decide +kernel)) rfl
theorem ml_X7_47 : Cond.methodLink RX7 47 yX7_codeOf ∈ dt_tbl := dt_tin (List.mem_of_getElem? (i := 747) (by decide +kernel)) rfl
theorem ml_X7_50 : Cond.methodLink RX7 50 yX7_peek ∈ dt_tbl := dt_tin (List.mem_of_getElem? (i := 666) (by decide +kernel)) rfl
theorem ml_X7_54 : Cond.methodLink RX7 54 yX7_fail ∈ dt_tbl := dt_tin (List.mem_of_getElem? (i := 670) (by decide +kernel)) rfl
theorem ml_X7_58 : Cond.methodLink RX7 58 yX7_either ∈ dt_tbl := dt_tin (List.mem_of_getElem? (i := 674) (by decide +kernel)) rfl
theorem ml_X7_62 : Cond.methodLink RX7 62 yX7_expect ∈ dt_tbl := dt_tin (List.mem_of_getElem? (i := 701) (by decide +kernel)) rfl
theorem ml_X7_65 : Cond.methodLink RX7 65 yX7_isLetter ∈ dt_tbl := dt_tin (List.mem_of_getElem? (i := 741) (by decide +kernel)) rfl
theorem ml_X7_69 : Cond.methodLink RX7 69 yX7_isDigit ∈ dt_tbl := dt_tin (List.mem_of_getElem? (i := 744) (by decide +kernel)) rfl
theorem ml_X7_72 : Cond.methodLink RX7 72 yX7_wordOf ∈ dt_tbl := dt_tin (List.mem_of_getElem? (i := 750) (by decide +kernel)) rfl
theorem ml_X7_75 : Cond.methodLink RX7 75 yX7_numberOf ∈ dt_tbl := dt_tin (List.mem_of_getElem? (i := 805) (by decide +kernel)) rfl
theorem ml_X7_80 : Cond.methodLink RX7 80 yJ0_indexOf_0f7a4 ∈ dt_tbl := dt_tin (List.mem_of_getElem? (i := 809) (by decide +kernel)) rfl
theorem ml_X7_88 : Cond.methodLink RX7 88 yJ0_length_8abf5 ∈ dt_tbl := dt_tin (List.mem_of_getElem? (i := 754) (by decide +kernel)) rfl
theorem ml_X7_91 : Cond.methodLink RX7 91 yJ0_charAt_5068e ∈ dt_tbl := dt_tin (List.mem_of_getElem? (i := 764) (by decide +kernel)) rfl
theorem ml_X7_95 : Cond.methodLink RX7 95 yX7_isSame ∈ dt_tbl := dt_tin (List.mem_of_getElem? (i := 802) (by decide +kernel)) rfl
theorem ml_X7_99 : Cond.methodLink RX7 99 yX7_claim ∈ dt_tbl := dt_tin (List.mem_of_getElem? (i := 678) (by decide +kernel)) rfl
theorem ml_X8_44 : Cond.methodLink RX8 44 yX5_begin ∈ dt_tbl := dt_tin (List.mem_of_getElem? (i := 400) (by decide +kernel)) rfl
theorem ml_X8_48 : Cond.methodLink RX8 48 yX1_begin ∈ dt_tbl := dt_tin (List.mem_of_getElem? (i := 411) (by decide +kernel)) rfl
theorem ml_X8_50 : Cond.methodLink RX8 50 yX7_begin ∈ dt_tbl := dt_tin (List.mem_of_getElem? (i := 419) (by decide +kernel)) rfl
theorem ml_X8_51 : Cond.methodLink RX8 51 yX0_begin ∈ dt_tbl := dt_tin (List.mem_of_getElem? (i := 423) (by decide +kernel)) rfl
theorem ml_X8_52 : Cond.methodLink RX8 52 yX4_begin ∈ dt_tbl := dt_tin (List.mem_of_getElem? (i := 428) (by decide +kernel)) rfl
theorem ml_X8_53 : Cond.methodLink RX8 53 yX5_become ∈ dt_tbl := dt_tin (List.mem_of_getElem? (i := 1072) (by decide +kernel)) rfl
theorem ml_X8_57 : Cond.methodLink RX8 57 yX1_become ∈ dt_tbl := dt_tin (List.mem_of_getElem? (i := 1073) (by decide +kernel)) rfl
theorem ml_X8_60 : Cond.methodLink RX8 60 yX7_become ∈ dt_tbl := dt_tin (List.mem_of_getElem? (i := 1077) (by decide +kernel)) rfl
theorem ml_X8_63 : Cond.methodLink RX8 63 yX0_become ∈ dt_tbl := dt_tin (List.mem_of_getElem? (i := 1078) (by decide +kernel)) rfl
theorem ml_X8_66 : Cond.methodLink RX8 66 yX4_become ∈ dt_tbl := dt_tin (List.mem_of_getElem? (i := 1083) (by decide +kernel)) rfl
theorem ml_X9_103 : Cond.methodLink RX9 103 yX9_refuse ∈ dt_tbl := dt_tin (List.mem_of_getElem? (i := 505) (by decide +kernel)) rfl
theorem ml_X9_111 : Cond.methodLink RX9 111 yX5_raise ∈ dt_tbl := dt_tin (List.mem_of_getElem? (i := 509) (by decide +kernel)) rfl
theorem ml_X9_119 : Cond.methodLink RX9 119 yX9_costOf ∈ dt_tbl := dt_tin (List.mem_of_getElem? (i := 577) (by decide +kernel)) rfl
theorem ml_X9_127 : Cond.methodLink RX9 127 yX1_carry ∈ dt_tbl := dt_tin (List.mem_of_getElem? (i := 583) (by decide +kernel)) rfl
theorem ml_X9_132 : Cond.methodLink RX9 132 yX6_remember ∈ dt_tbl := dt_tin (List.mem_of_getElem? (i := 587) (by decide +kernel)) rfl
theorem ml_X9_136 : Cond.methodLink RX9 136 yX5_isInTower ∈ dt_tbl := dt_tin (List.mem_of_getElem? (i := 598) (by decide +kernel)) rfl
theorem ml_X9_139 : Cond.methodLink RX9 139 yX5_isFree ∈ dt_tbl := dt_tin (List.mem_of_getElem? (i := 599) (by decide +kernel)) rfl
theorem ml_X9_145 : Cond.methodLink RX9 145 yX5_lift ∈ dt_tbl := dt_tin (List.mem_of_getElem? (i := 603) (by decide +kernel)) rfl
theorem ml_X9_148 : Cond.methodLink RX9 148 yX5_isKnown ∈ dt_tbl := dt_tin (List.mem_of_getElem? (i := 612) (by decide +kernel)) rfl
theorem ml_X9_163 : Cond.methodLink RX9 163 yX5_loadOf ∈ dt_tbl := dt_tin (List.mem_of_getElem? (i := 613) (by decide +kernel)) rfl
theorem ml_X9_167 : Cond.methodLink RX9 167 yX5_bears ∈ dt_tbl := dt_tin (List.mem_of_getElem? (i := 617) (by decide +kernel)) rfl
theorem ml_X9_174 : Cond.methodLink RX9 174 yX0_fewest ∈ dt_tbl := dt_tin (List.mem_of_getElem? (i := 618) (by decide +kernel)) rfl
theorem ml_X9_179 : Cond.methodLink RX9 179 yX5_tallest ∈ dt_tbl := dt_tin (List.mem_of_getElem? (i := 636) (by decide +kernel)) rfl
theorem ml_X9_192 : Cond.methodLink RX9 192 yX9_judge ∈ dt_tbl := dt_tin (List.mem_of_getElem? (i := 641) (by decide +kernel)) rfl
theorem ml_X9_195 : Cond.methodLink RX9 195 yX5_fall ∈ dt_tbl := dt_tin (List.mem_of_getElem? (i := 709) (by decide +kernel)) rfl
theorem ml_X9_198 : Cond.methodLink RX9 198 yX1_pass ∈ dt_tbl := dt_tin (List.mem_of_getElem? (i := 714) (by decide +kernel)) rfl
theorem ml_X9_201 : Cond.methodLink RX9 201 yX9_punch ∈ dt_tbl := dt_tin (List.mem_of_getElem? (i := 722) (by decide +kernel)) rfl
theorem ml_X9_204 : Cond.methodLink RX9 204 yX7_scan ∈ dt_tbl := dt_tin (List.mem_of_getElem? (i := 734) (by decide +kernel)) rfl
theorem ml_X9_208 : Cond.methodLink RX9 208 yX7_read ∈ dt_tbl := dt_tin (List.mem_of_getElem? (i := 662) (by decide +kernel)) rfl
theorem ml_X9_217 : Cond.methodLink RX9 217 yX7_become ∈ dt_tbl := dt_tin (List.mem_of_getElem? (i := 864) (by decide +kernel)) rfl
theorem ml_X9_227 : Cond.methodLink RX9 227 yX5_inYard ∈ dt_tbl := dt_tin (List.mem_of_getElem? (i := 649) (by decide +kernel)) rfl
theorem ml_X9_230 : Cond.methodLink RX9 230 yX3_isAsked ∈ dt_tbl := dt_tin (List.mem_of_getElem? (i := 879) (by decide +kernel)) rfl
theorem ml_X9_233 : Cond.methodLink RX9 233 yX5_become ∈ dt_tbl := dt_tin (List.mem_of_getElem? (i := 882) (by decide +kernel)) rfl
theorem ml_X9_236 : Cond.methodLink RX9 236 yX3_seek ∈ dt_tbl := dt_tin (List.mem_of_getElem? (i := 887) (by decide +kernel)) rfl
theorem ml_X9_240 : Cond.methodLink RX9 240 yX3_answer ∈ dt_tbl := dt_tin (List.mem_of_getElem? (i := 926) (by decide +kernel)) rfl
theorem ml_X9_243 : Cond.methodLink RX9 243 yX5_leastFree ∈ dt_tbl := dt_tin (List.mem_of_getElem? (i := 934) (by decide +kernel)) rfl
theorem ml_X9_246 : Cond.methodLink RX9 246 yJ6_bitCount_0f7a4 ∈ dt_tbl := dt_tin (List.mem_of_getElem? (i := 943) (by decide +kernel)) rfl
theorem ml_X9_251 : Cond.methodLink RX9 251 yX5_yardSet ∈ dt_tbl := dt_tin (List.mem_of_getElem? (i := 944) (by decide +kernel)) rfl
theorem ml_X9_254 : Cond.methodLink RX9 254 yX2_isAsked ∈ dt_tbl := dt_tin (List.mem_of_getElem? (i := 945) (by decide +kernel)) rfl
theorem ml_X9_256 : Cond.methodLink RX9 256 yX5_clear ∈ dt_tbl := dt_tin (List.mem_of_getElem? (i := 951) (by decide +kernel)) rfl
theorem ml_X9_259 : Cond.methodLink RX9 259 yX2_seek ∈ dt_tbl := dt_tin (List.mem_of_getElem? (i := 955) (by decide +kernel)) rfl
theorem ml_X9_260 : Cond.methodLink RX9 260 yX2_answer ∈ dt_tbl := dt_tin (List.mem_of_getElem? (i := 981) (by decide +kernel)) rfl
theorem ml_X9_261 : Cond.methodLink RX9 261 yX0_add ∈ dt_tbl := dt_tin (List.mem_of_getElem? (i := 989) (by decide +kernel)) rfl
theorem ml_X9_263 : Cond.methodLink RX9 263 yX0_setFoes ∈ dt_tbl := dt_tin (List.mem_of_getElem? (i := 997) (by decide +kernel)) rfl
theorem ml_X9_271 : Cond.methodLink RX9 271 yX4_setChance ∈ dt_tbl := dt_tin (List.mem_of_getElem? (i := 1005) (by decide +kernel)) rfl
theorem ml_X9_277 : Cond.methodLink RX9 277 yX4_setReward ∈ dt_tbl := dt_tin (List.mem_of_getElem? (i := 1013) (by decide +kernel)) rfl
theorem ml_X9_282 : Cond.methodLink RX9 282 yX4_best ∈ dt_tbl := dt_tin (List.mem_of_getElem? (i := 1022) (by decide +kernel)) rfl
theorem ml_X9_286 : Cond.methodLink RX9 286 yX4_odds ∈ dt_tbl := dt_tin (List.mem_of_getElem? (i := 1042) (by decide +kernel)) rfl
theorem ml_X9_290 : Cond.methodLink RX9 290 yX6_newest ∈ dt_tbl := dt_tin (List.mem_of_getElem? (i := 1050) (by decide +kernel)) rfl
theorem ml_X9_298 : Cond.methodLink RX9 298 yX5_drop ∈ dt_tbl := dt_tin (List.mem_of_getElem? (i := 1054) (by decide +kernel)) rfl
theorem ml_X9_304 : Cond.methodLink RX9 304 yX1_uncarry ∈ dt_tbl := dt_tin (List.mem_of_getElem? (i := 1055) (by decide +kernel)) rfl
theorem ml_X9_307 : Cond.methodLink RX9 307 yX6_dropNewest ∈ dt_tbl := dt_tin (List.mem_of_getElem? (i := 1059) (by decide +kernel)) rfl
theorem ml_X9_310 : Cond.methodLink RX9 310 yX8_become ∈ dt_tbl := dt_tin (List.mem_of_getElem? (i := 1068) (by decide +kernel)) rfl
theorem ml_X9_329 : Cond.methodLink RX9 329 yX7_tell ∈ dt_tbl := dt_tin (List.mem_of_getElem? (i := 645) (by decide +kernel)) rfl
theorem ml_X9_332 : Cond.methodLink RX9 332 yX5_isTopHoly ∈ dt_tbl := dt_tin (List.mem_of_getElem? (i := 658) (by decide +kernel)) rfl
theorem ml_X9_336 : Cond.methodLink RX9 336 Lib.Math.abs.name ∈ dt_tbl := dt_tin (List.mem_of_getElem? (i := 580) (by decide +kernel)) rfl
theorem ml_X9_72 : Cond.methodLink RX9 72 yX8_begin ∈ dt_tbl := dt_tin (List.mem_of_getElem? (i := 396) (by decide +kernel)) rfl
theorem ml_X9_76 : Cond.methodLink RX9 76 yX6_forget ∈ dt_tbl := dt_tin (List.mem_of_getElem? (i := 474) (by decide +kernel)) rfl
theorem ml_X9_85 : Cond.methodLink RX9 85 yX9_isPlace ∈ dt_tbl := dt_tin (List.mem_of_getElem? (i := 482) (by decide +kernel)) rfl
theorem ml_X9_92 : Cond.methodLink RX9 92 yX5_add ∈ dt_tbl := dt_tin (List.mem_of_getElem? (i := 485) (by decide +kernel)) rfl
theorem ml_X9_96 : Cond.methodLink RX9 96 yX5_isInYard ∈ dt_tbl := dt_tin (List.mem_of_getElem? (i := 493) (by decide +kernel)) rfl
theorem ml_X9_99 : Cond.methodLink RX9 99 yX5_fits ∈ dt_tbl := dt_tin (List.mem_of_getElem? (i := 501) (by decide +kernel)) rfl
theorem ml_L_100 : Cond.methodLink RL 100 yX10_pay ∈ dt_tbl := dt_tin (List.mem_of_getElem? (i := 1514) (by decide +kernel)) rfl
theorem ml_L_101 : Cond.methodLink RL 101 yX9_worth ∈ dt_tbl := dt_tin (List.mem_of_getElem? (i := 1017) (by decide +kernel)) rfl
theorem ml_L_105 : Cond.methodLink RL 105 yX10_worth ∈ dt_tbl := dt_tin (List.mem_of_getElem? (i := 1518) (by decide +kernel)) rfl
theorem ml_L_106 : Cond.methodLink RL 106 yX9_bet ∈ dt_tbl := dt_tin (List.mem_of_getElem? (i := 1038) (by decide +kernel)) rfl
theorem ml_L_110 : Cond.methodLink RL 110 yX10_bet ∈ dt_tbl := dt_tin (List.mem_of_getElem? (i := 1539) (by decide +kernel)) rfl
theorem ml_L_111 : Cond.methodLink RL 111 yX9_undo ∈ dt_tbl := dt_tin (List.mem_of_getElem? (i := 1046) (by decide +kernel)) rfl
theorem ml_L_115 : Cond.methodLink RL 115 yX10_undo ∈ dt_tbl := dt_tin (List.mem_of_getElem? (i := 1316) (by decide +kernel)) rfl
theorem ml_L_116 : Cond.methodLink RL 116 yX9_image ∈ dt_tbl := dt_tin (List.mem_of_getElem? (i := 1064) (by decide +kernel)) rfl
theorem ml_L_12 : Cond.methodLink RL 12 yX10_init ∈ dt_tbl := dt_tin (List.mem_of_getElem? (i := 1094) (by decide +kernel)) rfl
theorem ml_L_120 : Cond.methodLink RL 120 yX10_image ∈ dt_tbl := dt_tin (List.mem_of_getElem? (i := 1543) (by decide +kernel)) rfl
theorem ml_L_121 : Cond.methodLink RL 121 yX9_look ∈ dt_tbl := dt_tin (List.mem_of_getElem? (i := 1088) (by decide +kernel)) rfl
theorem ml_L_124 : Cond.methodLink RL 124 yX10_look ∈ dt_tbl := dt_tin (List.mem_of_getElem? (i := 1547) (by decide +kernel)) rfl
theorem ml_L_13 : Cond.methodLink RL 13 yX9_columns ∈ dt_tbl := dt_tin (List.mem_of_getElem? (i := 470) (by decide +kernel)) rfl
theorem ml_L_17 : Cond.methodLink RL 17 yX10_columns ∈ dt_tbl := dt_tin (List.mem_of_getElem? (i := 1215) (by decide +kernel)) rfl
theorem ml_L_18 : Cond.methodLink RL 18 yX9_block ∈ dt_tbl := dt_tin (List.mem_of_getElem? (i := 478) (by decide +kernel)) rfl
theorem ml_L_22 : Cond.methodLink RL 22 yX10_block ∈ dt_tbl := dt_tin (List.mem_of_getElem? (i := 1226) (by decide +kernel)) rfl
theorem ml_L_23 : Cond.methodLink RL 23 yX9_put ∈ dt_tbl := dt_tin (List.mem_of_getElem? (i := 489) (by decide +kernel)) rfl
theorem ml_L_27 : Cond.methodLink RL 27 yX10_put ∈ dt_tbl := dt_tin (List.mem_of_getElem? (i := 1237) (by decide +kernel)) rfl
theorem ml_L_28 : Cond.methodLink RL 28 yX9_take ∈ dt_tbl := dt_tin (List.mem_of_getElem? (i := 594) (by decide +kernel)) rfl
theorem ml_L_32 : Cond.methodLink RL 32 yX10_take ∈ dt_tbl := dt_tin (List.mem_of_getElem? (i := 1304) (by decide +kernel)) rfl
theorem ml_L_33 : Cond.methodLink RL 33 yX9_refused ∈ dt_tbl := dt_tin (List.mem_of_getElem? (i := 604) (by decide +kernel)) rfl
theorem ml_L_37 : Cond.methodLink RL 37 yX10_refused ∈ dt_tbl := dt_tin (List.mem_of_getElem? (i := 1312) (by decide +kernel)) rfl
theorem ml_L_38 : Cond.methodLink RL 38 yX9_of ∈ dt_tbl := dt_tin (List.mem_of_getElem? (i := 608) (by decide +kernel)) rfl
theorem ml_L_41 : Cond.methodLink RL 41 yX10_of ∈ dt_tbl := dt_tin (List.mem_of_getElem? (i := 1332) (by decide +kernel)) rfl
theorem ml_L_42 : Cond.methodLink RL 42 yX9_height ∈ dt_tbl := dt_tin (List.mem_of_getElem? (i := 632) (by decide +kernel)) rfl
theorem ml_L_45 : Cond.methodLink RL 45 yX10_height ∈ dt_tbl := dt_tin (List.mem_of_getElem? (i := 1347) (by decide +kernel)) rfl
theorem ml_L_46 : Cond.methodLink RL 46 yX9_noon ∈ dt_tbl := dt_tin (List.mem_of_getElem? (i := 637) (by decide +kernel)) rfl
theorem ml_L_50 : Cond.methodLink RL 50 yX10_noon ∈ dt_tbl := dt_tin (List.mem_of_getElem? (i := 1455) (by decide +kernel)) rfl
theorem ml_L_51 : Cond.methodLink RL 51 yX9_dusk ∈ dt_tbl := dt_tin (List.mem_of_getElem? (i := 705) (by decide +kernel)) rfl
theorem ml_L_54 : Cond.methodLink RL 54 yX10_dusk ∈ dt_tbl := dt_tin (List.mem_of_getElem? (i := 1478) (by decide +kernel)) rfl
theorem ml_L_55 : Cond.methodLink RL 55 yX9_feed ∈ dt_tbl := dt_tin (List.mem_of_getElem? (i := 718) (by decide +kernel)) rfl
theorem ml_L_58 : Cond.methodLink RL 58 yX10_feed ∈ dt_tbl := dt_tin (List.mem_of_getElem? (i := 1355) (by decide +kernel)) rfl
theorem ml_L_59 : Cond.methodLink RL 59 yX9_end ∈ dt_tbl := dt_tin (List.mem_of_getElem? (i := 726) (by decide +kernel)) rfl
theorem ml_L_62 : Cond.methodLink RL 62 yX10_end ∈ dt_tbl := dt_tin (List.mem_of_getElem? (i := 1359) (by decide +kernel)) rfl
theorem ml_L_63 : Cond.methodLink RL 63 yX9_text ∈ dt_tbl := dt_tin (List.mem_of_getElem? (i := 730) (by decide +kernel)) rfl
theorem ml_L_66 : Cond.methodLink RL 66 yX10_text ∈ dt_tbl := dt_tin (List.mem_of_getElem? (i := 1363) (by decide +kernel)) rfl
theorem ml_L_67 : Cond.methodLink RL 67 yX9_fault ∈ dt_tbl := dt_tin (List.mem_of_getElem? (i := 871) (by decide +kernel)) rfl
theorem ml_L_70 : Cond.methodLink RL 70 yX10_fault ∈ dt_tbl := dt_tin (List.mem_of_getElem? (i := 1451) (by decide +kernel)) rfl
theorem ml_L_71 : Cond.methodLink RL 71 yX9_plan ∈ dt_tbl := dt_tin (List.mem_of_getElem? (i := 875) (by decide +kernel)) rfl
theorem ml_L_74 : Cond.methodLink RL 74 yX10_plan ∈ dt_tbl := dt_tin (List.mem_of_getElem? (i := 1482) (by decide +kernel)) rfl
theorem ml_L_75 : Cond.methodLink RL 75 yX9_down ∈ dt_tbl := dt_tin (List.mem_of_getElem? (i := 930) (by decide +kernel)) rfl
theorem ml_L_78 : Cond.methodLink RL 78 yX10_down ∈ dt_tbl := dt_tin (List.mem_of_getElem? (i := 1494) (by decide +kernel)) rfl
theorem ml_L_79 : Cond.methodLink RL 79 yX9_which ∈ dt_tbl := dt_tin (List.mem_of_getElem? (i := 939) (by decide +kernel)) rfl
theorem ml_L_82 : Cond.methodLink RL 82 yX10_which ∈ dt_tbl := dt_tin (List.mem_of_getElem? (i := 1498) (by decide +kernel)) rfl
theorem ml_L_83 : Cond.methodLink RL 83 yX9_hand ∈ dt_tbl := dt_tin (List.mem_of_getElem? (i := 985) (by decide +kernel)) rfl
theorem ml_L_86 : Cond.methodLink RL 86 yX10_hand ∈ dt_tbl := dt_tin (List.mem_of_getElem? (i := 1320) (by decide +kernel)) rfl
theorem ml_L_87 : Cond.methodLink RL 87 yX9_quarrel ∈ dt_tbl := dt_tin (List.mem_of_getElem? (i := 993) (by decide +kernel)) rfl
theorem ml_L_9 : Cond.methodLink RL 9 yX9_init ∈ dt_tbl := dt_tin (List.mem_of_getElem? (i := 104) (by decide +kernel)) rfl
theorem ml_L_91 : Cond.methodLink RL 91 yX10_quarrel ∈ dt_tbl := dt_tin (List.mem_of_getElem? (i := 1324) (by decide +kernel)) rfl
theorem ml_L_92 : Cond.methodLink RL 92 yX9_wind ∈ dt_tbl := dt_tin (List.mem_of_getElem? (i := 1001) (by decide +kernel)) rfl
theorem ml_L_96 : Cond.methodLink RL 96 yX10_wind ∈ dt_tbl := dt_tin (List.mem_of_getElem? (i := 1510) (by decide +kernel)) rfl
theorem ml_L_97 : Cond.methodLink RL 97 yX9_pay ∈ dt_tbl := dt_tin (List.mem_of_getElem? (i := 1009) (by decide +kernel)) rfl
theorem ml_X10_100 : Cond.methodLink RX10 100 yX10_highOf ∈ dt_tbl := dt_tin (List.mem_of_getElem? (i := 1261) (by decide +kernel)) rfl
theorem ml_X10_104 : Cond.methodLink RX10 104 yX10_isBorne ∈ dt_tbl := dt_tin (List.mem_of_getElem? (i := 1276) (by decide +kernel)) rfl
theorem ml_X10_108 : Cond.methodLink RX10 108 yX10_laysGrid ∈ dt_tbl := dt_tin (List.mem_of_getElem? (i := 1268) (by decide +kernel)) rfl
theorem ml_X10_111 : Cond.methodLink RX10 111 yX10_laysLoads ∈ dt_tbl := dt_tin (List.mem_of_getElem? (i := 1284) (by decide +kernel)) rfl
theorem ml_X10_114 : Cond.methodLink RX10 114 yX10_bears ∈ dt_tbl := dt_tin (List.mem_of_getElem? (i := 1288) (by decide +kernel)) rfl
theorem ml_X10_117 : Cond.methodLink RX10 117 yX10_levelAt ∈ dt_tbl := dt_tin (List.mem_of_getElem? (i := 1257) (by decide +kernel)) rfl
theorem ml_X10_120 : Cond.methodLink RX10 120 yX10_standsThere ∈ dt_tbl := dt_tin (List.mem_of_getElem? (i := 1272) (by decide +kernel)) rfl
theorem ml_X10_124 : Cond.methodLink RX10 124 yX10_tooMuch ∈ dt_tbl := dt_tin (List.mem_of_getElem? (i := 1280) (by decide +kernel)) rfl
theorem ml_X10_128 : Cond.methodLink RX10 128 yX10_keeps ∈ dt_tbl := dt_tin (List.mem_of_getElem? (i := 1300) (by decide +kernel)) rfl
theorem ml_X10_135 : Cond.methodLink RX10 135 yX10_isBlock ∈ dt_tbl := dt_tin (List.mem_of_getElem? (i := 1241) (by decide +kernel)) rfl
theorem ml_X10_138 : Cond.methodLink RX10 138 yX10_laysTower ∈ dt_tbl := dt_tin (List.mem_of_getElem? (i := 1249) (by decide +kernel)) rfl
theorem ml_X10_141 : Cond.methodLink RX10 141 yX10_lays ∈ dt_tbl := dt_tin (List.mem_of_getElem? (i := 1253) (by decide +kernel)) rfl
theorem ml_X10_144 : Cond.methodLink RX10 144 yX10_costOf ∈ dt_tbl := dt_tin (List.mem_of_getElem? (i := 1292) (by decide +kernel)) rfl
theorem ml_X10_148 : Cond.methodLink RX10 148 yX10_carries ∈ dt_tbl := dt_tin (List.mem_of_getElem? (i := 1296) (by decide +kernel)) rfl
theorem ml_X10_152 : Cond.methodLink RX10 152 yX10_isOnTop ∈ dt_tbl := dt_tin (List.mem_of_getElem? (i := 1308) (by decide +kernel)) rfl
theorem ml_X10_155 : Cond.methodLink RX10 155 yX10_isHand ∈ dt_tbl := dt_tin (List.mem_of_getElem? (i := 1328) (by decide +kernel)) rfl
theorem ml_X10_158 : Cond.methodLink RX10 158 yX10_count ∈ dt_tbl := dt_tin (List.mem_of_getElem? (i := 1340) (by decide +kernel)) rfl
theorem ml_X10_161 : Cond.methodLink RX10 161 yX10_canCarry ∈ dt_tbl := dt_tin (List.mem_of_getElem? (i := 1343) (by decide +kernel)) rfl
theorem ml_X10_164 : Cond.methodLink RX10 164 yX10_hands ∈ dt_tbl := dt_tin (List.mem_of_getElem? (i := 1336) (by decide +kernel)) rfl
theorem ml_X10_167 : Cond.methodLink RX10 167 yX10_highest ∈ dt_tbl := dt_tin (List.mem_of_getElem? (i := 1351) (by decide +kernel)) rfl
theorem ml_X10_179 : Cond.methodLink RX10 179 yJ0_length_8abf5 ∈ dt_tbl := dt_tin (List.mem_of_getElem? (i := 1387) (by decide +kernel)) rfl
theorem ml_X10_184 : Cond.methodLink RX10 184 yJ0_charAt_5068e ∈ dt_tbl := dt_tin (List.mem_of_getElem? (i := 1388) (by decide +kernel)) rfl
theorem ml_X10_190 : Cond.methodLink RX10 190 yX10_is ∈ dt_tbl := dt_tin (List.mem_of_getElem? (i := 1383) (by decide +kernel)) rfl
theorem ml_X10_215 : Cond.methodLink RX10 215 yX10_nameWord ∈ dt_tbl := dt_tin (List.mem_of_getElem? (i := 1393) (by decide +kernel)) rfl
theorem ml_X10_218 : Cond.methodLink RX10 218 yX10_see ∈ dt_tbl := dt_tin (List.mem_of_getElem? (i := 1371) (by decide +kernel)) rfl
theorem ml_X10_224 : Cond.methodLink RX10 224 yX10_isLetter ∈ dt_tbl := dt_tin (List.mem_of_getElem? (i := 1375) (by decide +kernel)) rfl
theorem ml_X10_227 : Cond.methodLink RX10 227 yX10_word ∈ dt_tbl := dt_tin (List.mem_of_getElem? (i := 1378) (by decide +kernel)) rfl
theorem ml_X10_230 : Cond.methodLink RX10 230 yX10_isDigit ∈ dt_tbl := dt_tin (List.mem_of_getElem? (i := 1404) (by decide +kernel)) rfl
theorem ml_X10_242 : Cond.methodLink RX10 242 yX10_bad ∈ dt_tbl := dt_tin (List.mem_of_getElem? (i := 1411) (by decide +kernel)) rfl
theorem ml_X10_245 : Cond.methodLink RX10 245 yX10_next0 ∈ dt_tbl := dt_tin (List.mem_of_getElem? (i := 1367) (by decide +kernel)) rfl
theorem ml_X10_254 : Cond.methodLink RX10 254 yX10_product ∈ dt_tbl := dt_tin (List.mem_of_getElem? (i := 1443) (by decide +kernel)) rfl
theorem ml_X10_258 : Cond.methodLink RX10 258 yX10_lay ∈ dt_tbl := dt_tin (List.mem_of_getElem? (i := 1431) (by decide +kernel)) rfl
theorem ml_X10_262 : Cond.methodLink RX10 262 yX10_unit ∈ dt_tbl := dt_tin (List.mem_of_getElem? (i := 1447) (by decide +kernel)) rfl
theorem ml_X10_265 : Cond.methodLink RX10 265 yX10_every ∈ dt_tbl := dt_tin (List.mem_of_getElem? (i := 1419) (by decide +kernel)) rfl
theorem ml_X10_268 : Cond.methodLink RX10 268 yX10_oneTest ∈ dt_tbl := dt_tin (List.mem_of_getElem? (i := 1423) (by decide +kernel)) rfl
theorem ml_X10_271 : Cond.methodLink RX10 271 yX10_opens ∈ dt_tbl := dt_tin (List.mem_of_getElem? (i := 1427) (by decide +kernel)) rfl
theorem ml_X10_274 : Cond.methodLink RX10 274 yX10_any ∈ dt_tbl := dt_tin (List.mem_of_getElem? (i := 1415) (by decide +kernel)) rfl
theorem ml_X10_277 : Cond.methodLink RX10 277 yX10_need ∈ dt_tbl := dt_tin (List.mem_of_getElem? (i := 1435) (by decide +kernel)) rfl
theorem ml_X10_280 : Cond.methodLink RX10 280 yX10_sumUp ∈ dt_tbl := dt_tin (List.mem_of_getElem? (i := 1439) (by decide +kernel)) rfl
theorem ml_X10_286 : Cond.methodLink RX10 286 yX10_aLine ∈ dt_tbl := dt_tin (List.mem_of_getElem? (i := 1407) (by decide +kernel)) rfl
theorem ml_X10_292 : Cond.methodLink RX10 292 yX10_both ∈ dt_tbl := dt_tin (List.mem_of_getElem? (i := 1475) (by decide +kernel)) rfl
theorem ml_X10_295 : Cond.methodLink RX10 295 yX10_topOne ∈ dt_tbl := dt_tin (List.mem_of_getElem? (i := 1463) (by decide +kernel)) rfl
theorem ml_X10_298 : Cond.methodLink RX10 298 yX10_inTower ∈ dt_tbl := dt_tin (List.mem_of_getElem? (i := 1467) (by decide +kernel)) rfl
theorem ml_X10_301 : Cond.methodLink RX10 301 yX10_comesTo ∈ dt_tbl := dt_tin (List.mem_of_getElem? (i := 1471) (by decide +kernel)) rfl
theorem ml_X10_304 : Cond.methodLink RX10 304 yX10_judges ∈ dt_tbl := dt_tin (List.mem_of_getElem? (i := 1459) (by decide +kernel)) rfl
theorem ml_X10_313 : Cond.methodLink RX10 313 yX10_goesOn ∈ dt_tbl := dt_tin (List.mem_of_getElem? (i := 1490) (by decide +kernel)) rfl
theorem ml_X10_317 : Cond.methodLink RX10 317 yX10_plans ∈ dt_tbl := dt_tin (List.mem_of_getElem? (i := 1486) (by decide +kernel)) rfl
theorem ml_X10_320 : Cond.methodLink RX10 320 yX10_isTower ∈ dt_tbl := dt_tin (List.mem_of_getElem? (i := 1506) (by decide +kernel)) rfl
theorem ml_X10_326 : Cond.methodLink RX10 326 yX10_triesTowers ∈ dt_tbl := dt_tin (List.mem_of_getElem? (i := 1502) (by decide +kernel)) rfl
theorem ml_X10_331 : Cond.methodLink RX10 331 yX10_falls ∈ dt_tbl := dt_tin (List.mem_of_getElem? (i := 1535) (by decide +kernel)) rfl
theorem ml_X10_334 : Cond.methodLink RX10 334 yX10_worthFrom ∈ dt_tbl := dt_tin (List.mem_of_getElem? (i := 1523) (by decide +kernel)) rfl
theorem ml_X10_338 : Cond.methodLink RX10 338 yX10_tens ∈ dt_tbl := dt_tin (List.mem_of_getElem? (i := 1527) (by decide +kernel)) rfl
theorem ml_X10_342 : Cond.methodLink RX10 342 yX10_goesOnFrom ∈ dt_tbl := dt_tin (List.mem_of_getElem? (i := 1531) (by decide +kernel)) rfl
theorem ml_X10_76 : Cond.methodLink RX10 76 yX10_isIn ∈ dt_tbl := dt_tin (List.mem_of_getElem? (i := 1219) (by decide +kernel)) rfl
theorem ml_X10_83 : Cond.methodLink RX10 83 yX10_forgets ∈ dt_tbl := dt_tin (List.mem_of_getElem? (i := 1222) (by decide +kernel)) rfl
theorem ml_X10_86 : Cond.methodLink RX10 86 yX10_least ∈ dt_tbl := dt_tin (List.mem_of_getElem? (i := 1230) (by decide +kernel)) rfl
theorem ml_X10_90 : Cond.methodLink RX10 90 yX10_gives ∈ dt_tbl := dt_tin (List.mem_of_getElem? (i := 1233) (by decide +kernel)) rfl
theorem ml_X10_94 : Cond.methodLink RX10 94 yX10_own ∈ dt_tbl := dt_tin (List.mem_of_getElem? (i := 1245) (by decide +kernel)) rfl
theorem ml_X10_97 : Cond.methodLink RX10 97 yX10_most ∈ dt_tbl := dt_tin (List.mem_of_getElem? (i := 1265) (by decide +kernel)) rfl
theorem ml_J0_1059 : Cond.methodLink RJ0 1059 yJ3_checkIndex_8e157 ∈ dt_tbl := dt_tin (List.mem_of_getElem? (i := 780) (by decide +kernel)) rfl
theorem ml_J0_1062 : Cond.methodLink RJ0 1062 yJ3_checkFromToIndex_8c36e ∈ dt_tbl := dt_tin (List.mem_of_getElem? (i := 844) (by decide +kernel)) rfl
theorem ml_J0_335 : Cond.methodLink RJ0 335 yJ0_coder_7d493 ∈ dt_tbl := dt_tin (List.mem_of_getElem? (i := 758) (by decide +kernel)) rfl
theorem ml_J0_492 : Cond.methodLink RJ0 492 yJ0_isLatin1_aae02 ∈ dt_tbl := dt_tin (List.mem_of_getElem? (i := 768) (by decide +kernel)) rfl
theorem ml_J0_495 : Cond.methodLink RJ0 495 yJ1_charAt_3b067 ∈ dt_tbl := dt_tin (List.mem_of_getElem? (i := 772) (by decide +kernel)) rfl
theorem ml_J0_498 : Cond.methodLink RJ0 498 yJ2_charAt_3b067 ∈ dt_tbl := dt_tin (List.mem_of_getElem? (i := 783) (by decide +kernel)) rfl
theorem ml_J0_505 : Cond.methodLink RJ0 505 yJ0_length_8abf5 ∈ dt_tbl := dt_tin (List.mem_of_getElem? (i := 817) (by decide +kernel)) rfl
theorem ml_J0_633 : Cond.methodLink RJ0 633 yJ0_indexOf_7cf53 ∈ dt_tbl := dt_tin (List.mem_of_getElem? (i := 813) (by decide +kernel)) rfl
theorem ml_J0_637 : Cond.methodLink RJ0 637 yJ1_indexOf_4cfef ∈ dt_tbl := dt_tin (List.mem_of_getElem? (i := 818) (by decide +kernel)) rfl
theorem ml_J0_640 : Cond.methodLink RJ0 640 yJ2_indexOf_4cfef ∈ dt_tbl := dt_tin (List.mem_of_getElem? (i := 829) (by decide +kernel)) rfl
theorem ml_J1_38 : Cond.methodLink RJ1 38 Lib.Math.min.name ∈ dt_tbl := dt_tin (List.mem_of_getElem? (i := 825) (by decide +kernel)) rfl
theorem ml_J1_88 : Cond.methodLink RJ1 88 yJ1_canEncode_9a6ad ∈ dt_tbl := dt_tin (List.mem_of_getElem? (i := 821) (by decide +kernel)) rfl
theorem ml_J1_9 : Cond.methodLink RJ1 9 yJ0_checkIndex_df160 ∈ dt_tbl := dt_tin (List.mem_of_getElem? (i := 775) (by decide +kernel)) rfl
theorem ml_J1_92 : Cond.methodLink RJ1 92 Lib.Math.max.name ∈ dt_tbl := dt_tin (List.mem_of_getElem? (i := 824) (by decide +kernel)) rfl
theorem ml_J1_95 : Cond.methodLink RJ1 95 yJ1_indexOfChar_4cfef ∈ dt_tbl := dt_tin (List.mem_of_getElem? (i := 826) (by decide +kernel)) rfl
theorem mf_X0_begin : dt_mf yX0_begin cX0_begin 1 none 0 := ⟨dt_tin (List.mem_of_getElem? (i := 426) (by decide +kernel)) rfl, dt_tin (List.mem_of_getElem? (i := 424) (by decide +kernel)) rfl, dt_tin (List.mem_of_getElem? (i := 425) (by decide +kernel)) rfl, dt_tin (List.mem_of_getElem? (i := 87) (by decide +kernel)) rfl, by decide⟩
theorem mf_X0_become : dt_mf yX0_become cX0_become 2 none 1 := ⟨dt_tin (List.mem_of_getElem? (i := 1081) (by decide +kernel)) rfl, dt_tin (List.mem_of_getElem? (i := 1079) (by decide +kernel)) rfl, dt_tin (List.mem_of_getElem? (i := 1080) (by decide +kernel)) rfl, dt_tin (List.mem_of_getElem? (i := 87) (by decide +kernel)) rfl, by decide⟩
theorem mf_X0_add : dt_mf yX0_add cX0_add 2 (some .int) 1 := ⟨dt_tin (List.mem_of_getElem? (i := 992) (by decide +kernel)) rfl, dt_tin (List.mem_of_getElem? (i := 990) (by decide +kernel)) rfl, dt_tin (List.mem_of_getElem? (i := 991) (by decide +kernel)) rfl, dt_tin (List.mem_of_getElem? (i := 87) (by decide +kernel)) rfl, by decide⟩
theorem mf_X0_setFoes : dt_mf yX0_setFoes cX0_setFoes 4 (some .boolean) 3 := ⟨dt_tin (List.mem_of_getElem? (i := 1000) (by decide +kernel)) rfl, dt_tin (List.mem_of_getElem? (i := 998) (by decide +kernel)) rfl, dt_tin (List.mem_of_getElem? (i := 999) (by decide +kernel)) rfl, dt_tin (List.mem_of_getElem? (i := 87) (by decide +kernel)) rfl, by decide⟩
theorem mf_X0_fewest : dt_mf yX0_fewest cX0_fewest 5 (some .int) 1 := ⟨dt_tin (List.mem_of_getElem? (i := 621) (by decide +kernel)) rfl, dt_tin (List.mem_of_getElem? (i := 619) (by decide +kernel)) rfl, dt_tin (List.mem_of_getElem? (i := 620) (by decide +kernel)) rfl, dt_tin (List.mem_of_getElem? (i := 87) (by decide +kernel)) rfl, by decide⟩
theorem mf_X0_strengthOf : dt_mf yX0_strengthOf cX0_strengthOf 4 (some .int) 1 := ⟨dt_tin (List.mem_of_getElem? (i := 631) (by decide +kernel)) rfl, dt_tin (List.mem_of_getElem? (i := 630) (by decide +kernel)) rfl, dt_tin (List.mem_of_getElem? (i := 9) (by decide +kernel)) rfl, dt_tin (List.mem_of_getElem? (i := 87) (by decide +kernel)) rfl, by decide⟩
theorem mf_X1_begin : dt_mf yX1_begin cX1_begin 1 none 0 := ⟨dt_tin (List.mem_of_getElem? (i := 414) (by decide +kernel)) rfl, dt_tin (List.mem_of_getElem? (i := 412) (by decide +kernel)) rfl, dt_tin (List.mem_of_getElem? (i := 413) (by decide +kernel)) rfl, dt_tin (List.mem_of_getElem? (i := 85) (by decide +kernel)) rfl, by decide⟩
theorem mf_X1_become : dt_mf yX1_become cX1_become 2 none 1 := ⟨dt_tin (List.mem_of_getElem? (i := 1076) (by decide +kernel)) rfl, dt_tin (List.mem_of_getElem? (i := 1074) (by decide +kernel)) rfl, dt_tin (List.mem_of_getElem? (i := 1075) (by decide +kernel)) rfl, dt_tin (List.mem_of_getElem? (i := 85) (by decide +kernel)) rfl, by decide⟩
theorem mf_X1_carry : dt_mf yX1_carry cX1_carry 2 none 1 := ⟨dt_tin (List.mem_of_getElem? (i := 586) (by decide +kernel)) rfl, dt_tin (List.mem_of_getElem? (i := 584) (by decide +kernel)) rfl, dt_tin (List.mem_of_getElem? (i := 585) (by decide +kernel)) rfl, dt_tin (List.mem_of_getElem? (i := 85) (by decide +kernel)) rfl, by decide⟩
theorem mf_X1_uncarry : dt_mf yX1_uncarry cX1_uncarry 2 none 1 := ⟨dt_tin (List.mem_of_getElem? (i := 1058) (by decide +kernel)) rfl, dt_tin (List.mem_of_getElem? (i := 1056) (by decide +kernel)) rfl, dt_tin (List.mem_of_getElem? (i := 1057) (by decide +kernel)) rfl, dt_tin (List.mem_of_getElem? (i := 85) (by decide +kernel)) rfl, by decide⟩
theorem mf_X1_pass : dt_mf yX1_pass cX1_pass 1 none 0 := ⟨dt_tin (List.mem_of_getElem? (i := 717) (by decide +kernel)) rfl, dt_tin (List.mem_of_getElem? (i := 715) (by decide +kernel)) rfl, dt_tin (List.mem_of_getElem? (i := 716) (by decide +kernel)) rfl, dt_tin (List.mem_of_getElem? (i := 85) (by decide +kernel)) rfl, by decide⟩
theorem mf_X1_dawn : dt_mf yX1_dawn cX1_dawn 1 none 0 := ⟨dt_tin (List.mem_of_getElem? (i := 418) (by decide +kernel)) rfl, dt_tin (List.mem_of_getElem? (i := 417) (by decide +kernel)) rfl, dt_tin (List.mem_of_getElem? (i := 1) (by decide +kernel)) rfl, dt_tin (List.mem_of_getElem? (i := 85) (by decide +kernel)) rfl, by decide⟩
theorem mf_X2_seek : dt_mf yX2_seek cX2_seek 4 none 2 := ⟨dt_tin (List.mem_of_getElem? (i := 958) (by decide +kernel)) rfl, dt_tin (List.mem_of_getElem? (i := 956) (by decide +kernel)) rfl, dt_tin (List.mem_of_getElem? (i := 957) (by decide +kernel)) rfl, dt_tin (List.mem_of_getElem? (i := 91) (by decide +kernel)) rfl, by decide⟩
theorem ms_X2_isAsked : dt_ms yX2_isAsked cX2_isAsked 3 (some .boolean) 2 := ⟨dt_tin (List.mem_of_getElem? (i := 947) (by decide +kernel)) rfl, dt_tin (List.mem_of_getElem? (i := 946) (by decide +kernel)) rfl, dt_tin (List.mem_of_getElem? (i := 91) (by decide +kernel)) rfl, by decide⟩
theorem mf_X2_answer : dt_mf yX2_answer cX2_answer 3 (some .int) 1 := ⟨dt_tin (List.mem_of_getElem? (i := 984) (by decide +kernel)) rfl, dt_tin (List.mem_of_getElem? (i := 982) (by decide +kernel)) rfl, dt_tin (List.mem_of_getElem? (i := 983) (by decide +kernel)) rfl, dt_tin (List.mem_of_getElem? (i := 91) (by decide +kernel)) rfl, by decide⟩
theorem ms_X2_blockOf : dt_ms yX2_blockOf cX2_blockOf 1 (some .int) 1 := ⟨dt_tin (List.mem_of_getElem? (i := 950) (by decide +kernel)) rfl, dt_tin (List.mem_of_getElem? (i := 949) (by decide +kernel)) rfl, dt_tin (List.mem_of_getElem? (i := 91) (by decide +kernel)) rfl, by decide⟩
theorem mf_X2_search : dt_mf yX2_search cX2_search 5 none 2 := ⟨dt_tin (List.mem_of_getElem? (i := 962) (by decide +kernel)) rfl, dt_tin (List.mem_of_getElem? (i := 961) (by decide +kernel)) rfl, dt_tin (List.mem_of_getElem? (i := 26) (by decide +kernel)) rfl, dt_tin (List.mem_of_getElem? (i := 91) (by decide +kernel)) rfl, by decide⟩
theorem mf_X2_isTaken : dt_mf yX2_isTaken cX2_isTaken 5 (some .boolean) 2 := ⟨dt_tin (List.mem_of_getElem? (i := 980) (by decide +kernel)) rfl, dt_tin (List.mem_of_getElem? (i := 979) (by decide +kernel)) rfl, dt_tin (List.mem_of_getElem? (i := 29) (by decide +kernel)) rfl, dt_tin (List.mem_of_getElem? (i := 91) (by decide +kernel)) rfl, by decide⟩
theorem mf_X2_count : dt_mf yX2_count cX2_count 4 none 1 := ⟨dt_tin (List.mem_of_getElem? (i := 966) (by decide +kernel)) rfl, dt_tin (List.mem_of_getElem? (i := 965) (by decide +kernel)) rfl, dt_tin (List.mem_of_getElem? (i := 27) (by decide +kernel)) rfl, dt_tin (List.mem_of_getElem? (i := 91) (by decide +kernel)) rfl, by decide⟩
theorem mf_X2_build : dt_mf yX2_build cX2_build 5 (some .boolean) 1 := ⟨dt_tin (List.mem_of_getElem? (i := 970) (by decide +kernel)) rfl, dt_tin (List.mem_of_getElem? (i := 969) (by decide +kernel)) rfl, dt_tin (List.mem_of_getElem? (i := 28) (by decide +kernel)) rfl, dt_tin (List.mem_of_getElem? (i := 91) (by decide +kernel)) rfl, by decide⟩
theorem mf_X3_seek : dt_mf yX3_seek cX3_seek 5 none 2 := ⟨dt_tin (List.mem_of_getElem? (i := 890) (by decide +kernel)) rfl, dt_tin (List.mem_of_getElem? (i := 888) (by decide +kernel)) rfl, dt_tin (List.mem_of_getElem? (i := 889) (by decide +kernel)) rfl, dt_tin (List.mem_of_getElem? (i := 90) (by decide +kernel)) rfl, by decide⟩
theorem ms_X3_isAsked : dt_ms yX3_isAsked cX3_isAsked 1 (some .boolean) 1 := ⟨dt_tin (List.mem_of_getElem? (i := 881) (by decide +kernel)) rfl, dt_tin (List.mem_of_getElem? (i := 880) (by decide +kernel)) rfl, dt_tin (List.mem_of_getElem? (i := 90) (by decide +kernel)) rfl, by decide⟩
theorem mf_X3_answer : dt_mf yX3_answer cX3_answer 3 (some .int) 1 := ⟨dt_tin (List.mem_of_getElem? (i := 929) (by decide +kernel)) rfl, dt_tin (List.mem_of_getElem? (i := 927) (by decide +kernel)) rfl, dt_tin (List.mem_of_getElem? (i := 928) (by decide +kernel)) rfl, dt_tin (List.mem_of_getElem? (i := 90) (by decide +kernel)) rfl, by decide⟩
theorem mf_X3_search : dt_mf yX3_search cX3_search 6 none 3 := ⟨dt_tin (List.mem_of_getElem? (i := 896) (by decide +kernel)) rfl, dt_tin (List.mem_of_getElem? (i := 895) (by decide +kernel)) rfl, dt_tin (List.mem_of_getElem? (i := 21) (by decide +kernel)) rfl, dt_tin (List.mem_of_getElem? (i := 90) (by decide +kernel)) rfl, by decide⟩
theorem mf_X3_step : dt_mf yX3_step cX3_step 10 none 5 := ⟨dt_tin (List.mem_of_getElem? (i := 900) (by decide +kernel)) rfl, dt_tin (List.mem_of_getElem? (i := 899) (by decide +kernel)) rfl, dt_tin (List.mem_of_getElem? (i := 22) (by decide +kernel)) rfl, dt_tin (List.mem_of_getElem? (i := 90) (by decide +kernel)) rfl, by decide⟩
theorem mf_X3_keep : dt_mf yX3_keep cX3_keep 2 none 1 := ⟨dt_tin (List.mem_of_getElem? (i := 911) (by decide +kernel)) rfl, dt_tin (List.mem_of_getElem? (i := 910) (by decide +kernel)) rfl, dt_tin (List.mem_of_getElem? (i := 24) (by decide +kernel)) rfl, dt_tin (List.mem_of_getElem? (i := 90) (by decide +kernel)) rfl, by decide⟩
theorem mf_X3_cameLate : dt_mf yX3_cameLate cX3_cameLate 8 (some .boolean) 4 := ⟨dt_tin (List.mem_of_getElem? (i := 906) (by decide +kernel)) rfl, dt_tin (List.mem_of_getElem? (i := 905) (by decide +kernel)) rfl, dt_tin (List.mem_of_getElem? (i := 23) (by decide +kernel)) rfl, dt_tin (List.mem_of_getElem? (i := 90) (by decide +kernel)) rfl, by decide⟩
theorem mf_X3_isHopeful : dt_mf yX3_isHopeful cX3_isHopeful 6 (some .boolean) 2 := ⟨dt_tin (List.mem_of_getElem? (i := 916) (by decide +kernel)) rfl, dt_tin (List.mem_of_getElem? (i := 915) (by decide +kernel)) rfl, dt_tin (List.mem_of_getElem? (i := 25) (by decide +kernel)) rfl, dt_tin (List.mem_of_getElem? (i := 90) (by decide +kernel)) rfl, by decide⟩
theorem ms_X3_longestInYard : dt_ms yX3_longestInYard cX3_longestInYard 3 (some .int) 1 := ⟨dt_tin (List.mem_of_getElem? (i := 923) (by decide +kernel)) rfl, dt_tin (List.mem_of_getElem? (i := 922) (by decide +kernel)) rfl, dt_tin (List.mem_of_getElem? (i := 90) (by decide +kernel)) rfl, by decide⟩
theorem mf_X4_begin : dt_mf yX4_begin cX4_begin 1 none 0 := ⟨dt_tin (List.mem_of_getElem? (i := 431) (by decide +kernel)) rfl, dt_tin (List.mem_of_getElem? (i := 429) (by decide +kernel)) rfl, dt_tin (List.mem_of_getElem? (i := 430) (by decide +kernel)) rfl, dt_tin (List.mem_of_getElem? (i := 88) (by decide +kernel)) rfl, by decide⟩
theorem mf_X4_become : dt_mf yX4_become cX4_become 2 none 1 := ⟨dt_tin (List.mem_of_getElem? (i := 1086) (by decide +kernel)) rfl, dt_tin (List.mem_of_getElem? (i := 1084) (by decide +kernel)) rfl, dt_tin (List.mem_of_getElem? (i := 1085) (by decide +kernel)) rfl, dt_tin (List.mem_of_getElem? (i := 88) (by decide +kernel)) rfl, by decide⟩
theorem mf_X4_setChance : dt_mf yX4_setChance cX4_setChance 5 (some .boolean) 3 := ⟨dt_tin (List.mem_of_getElem? (i := 1008) (by decide +kernel)) rfl, dt_tin (List.mem_of_getElem? (i := 1006) (by decide +kernel)) rfl, dt_tin (List.mem_of_getElem? (i := 1007) (by decide +kernel)) rfl, dt_tin (List.mem_of_getElem? (i := 88) (by decide +kernel)) rfl, by decide⟩
theorem mf_X4_setReward : dt_mf yX4_setReward cX4_setReward 3 (some .boolean) 2 := ⟨dt_tin (List.mem_of_getElem? (i := 1016) (by decide +kernel)) rfl, dt_tin (List.mem_of_getElem? (i := 1014) (by decide +kernel)) rfl, dt_tin (List.mem_of_getElem? (i := 1015) (by decide +kernel)) rfl, dt_tin (List.mem_of_getElem? (i := 88) (by decide +kernel)) rfl, by decide⟩
theorem mf_X4_best : dt_mf yX4_best cX4_best 14 (some .long) 4 := ⟨dt_tin (List.mem_of_getElem? (i := 1025) (by decide +kernel)) rfl, dt_tin (List.mem_of_getElem? (i := 1023) (by decide +kernel)) rfl, dt_tin (List.mem_of_getElem? (i := 1024) (by decide +kernel)) rfl, dt_tin (List.mem_of_getElem? (i := 88) (by decide +kernel)) rfl, by decide⟩
theorem mf_X4_odds : dt_mf yX4_odds cX4_odds 8 (some .long) 2 := ⟨dt_tin (List.mem_of_getElem? (i := 1045) (by decide +kernel)) rfl, dt_tin (List.mem_of_getElem? (i := 1043) (by decide +kernel)) rfl, dt_tin (List.mem_of_getElem? (i := 1044) (by decide +kernel)) rfl, dt_tin (List.mem_of_getElem? (i := 88) (by decide +kernel)) rfl, by decide⟩
theorem mf_X4_goingOn : dt_mf yX4_goingOn cX4_goingOn 7 (some .long) 3 := ⟨dt_tin (List.mem_of_getElem? (i := 1030) (by decide +kernel)) rfl, dt_tin (List.mem_of_getElem? (i := 1029) (by decide +kernel)) rfl, dt_tin (List.mem_of_getElem? (i := 30) (by decide +kernel)) rfl, dt_tin (List.mem_of_getElem? (i := 88) (by decide +kernel)) rfl, by decide⟩
theorem mf_X4_chanceAt : dt_mf yX4_chanceAt cX4_chanceAt 4 (some .int) 2 := ⟨dt_tin (List.mem_of_getElem? (i := 1034) (by decide +kernel)) rfl, dt_tin (List.mem_of_getElem? (i := 1033) (by decide +kernel)) rfl, dt_tin (List.mem_of_getElem? (i := 31) (by decide +kernel)) rfl, dt_tin (List.mem_of_getElem? (i := 88) (by decide +kernel)) rfl, by decide⟩
theorem mf_X5_begin : dt_mf yX5_begin cX5_begin 2 none 1 := ⟨dt_tin (List.mem_of_getElem? (i := 403) (by decide +kernel)) rfl, dt_tin (List.mem_of_getElem? (i := 401) (by decide +kernel)) rfl, dt_tin (List.mem_of_getElem? (i := 402) (by decide +kernel)) rfl, dt_tin (List.mem_of_getElem? (i := 84) (by decide +kernel)) rfl, by decide⟩
theorem mf_X5_become : dt_mf yX5_become cX5_become 2 none 1 := ⟨dt_tin (List.mem_of_getElem? (i := 885) (by decide +kernel)) rfl, dt_tin (List.mem_of_getElem? (i := 883) (by decide +kernel)) rfl, dt_tin (List.mem_of_getElem? (i := 884) (by decide +kernel)) rfl, dt_tin (List.mem_of_getElem? (i := 84) (by decide +kernel)) rfl, by decide⟩
theorem mf_X5_add : dt_mf yX5_add cX5_add 6 (some .int) 5 := ⟨dt_tin (List.mem_of_getElem? (i := 488) (by decide +kernel)) rfl, dt_tin (List.mem_of_getElem? (i := 486) (by decide +kernel)) rfl, dt_tin (List.mem_of_getElem? (i := 487) (by decide +kernel)) rfl, dt_tin (List.mem_of_getElem? (i := 84) (by decide +kernel)) rfl, by decide⟩
theorem mf_X5_isKnown : dt_mf yX5_isKnown cX5_isKnown 2 (some .boolean) 1 := ⟨dt_tin (List.mem_of_getElem? (i := 500) (by decide +kernel)) rfl, dt_tin (List.mem_of_getElem? (i := 498) (by decide +kernel)) rfl, dt_tin (List.mem_of_getElem? (i := 499) (by decide +kernel)) rfl, dt_tin (List.mem_of_getElem? (i := 84) (by decide +kernel)) rfl, by decide⟩
theorem mf_X5_isInYard : dt_mf yX5_isInYard cX5_isInYard 2 (some .boolean) 1 := ⟨dt_tin (List.mem_of_getElem? (i := 496) (by decide +kernel)) rfl, dt_tin (List.mem_of_getElem? (i := 494) (by decide +kernel)) rfl, dt_tin (List.mem_of_getElem? (i := 495) (by decide +kernel)) rfl, dt_tin (List.mem_of_getElem? (i := 84) (by decide +kernel)) rfl, by decide⟩
theorem mf_X5_isInTower : dt_mf yX5_isInTower cX5_isInTower 2 (some .boolean) 1 := ⟨dt_tin (List.mem_of_getElem? (i := 568) (by decide +kernel)) rfl, dt_tin (List.mem_of_getElem? (i := 566) (by decide +kernel)) rfl, dt_tin (List.mem_of_getElem? (i := 567) (by decide +kernel)) rfl, dt_tin (List.mem_of_getElem? (i := 84) (by decide +kernel)) rfl, by decide⟩
theorem mf_X5_fits : dt_mf yX5_fits cX5_fits 3 (some .boolean) 2 := ⟨dt_tin (List.mem_of_getElem? (i := 504) (by decide +kernel)) rfl, dt_tin (List.mem_of_getElem? (i := 502) (by decide +kernel)) rfl, dt_tin (List.mem_of_getElem? (i := 503) (by decide +kernel)) rfl, dt_tin (List.mem_of_getElem? (i := 84) (by decide +kernel)) rfl, by decide⟩
theorem mf_X5_inYard : dt_mf yX5_inYard cX5_inYard 1 (some .int) 0 := ⟨dt_tin (List.mem_of_getElem? (i := 652) (by decide +kernel)) rfl, dt_tin (List.mem_of_getElem? (i := 650) (by decide +kernel)) rfl, dt_tin (List.mem_of_getElem? (i := 651) (by decide +kernel)) rfl, dt_tin (List.mem_of_getElem? (i := 84) (by decide +kernel)) rfl, by decide⟩
theorem mf_X5_yardSet : dt_mf yX5_yardSet cX5_yardSet 3 (some .int) 0 := ⟨dt_tin (List.mem_of_getElem? (i := 656) (by decide +kernel)) rfl, dt_tin (List.mem_of_getElem? (i := 654) (by decide +kernel)) rfl, dt_tin (List.mem_of_getElem? (i := 655) (by decide +kernel)) rfl, dt_tin (List.mem_of_getElem? (i := 84) (by decide +kernel)) rfl, by decide⟩
theorem mf_X5_tallest : dt_mf yX5_tallest cX5_tallest 3 (some .int) 0 := ⟨dt_tin (List.mem_of_getElem? (i := 544) (by decide +kernel)) rfl, dt_tin (List.mem_of_getElem? (i := 542) (by decide +kernel)) rfl, dt_tin (List.mem_of_getElem? (i := 543) (by decide +kernel)) rfl, dt_tin (List.mem_of_getElem? (i := 84) (by decide +kernel)) rfl, by decide⟩
theorem mf_X5_bears : dt_mf yX5_bears cX5_bears 4 (some .int) 1 := ⟨dt_tin (List.mem_of_getElem? (i := 560) (by decide +kernel)) rfl, dt_tin (List.mem_of_getElem? (i := 558) (by decide +kernel)) rfl, dt_tin (List.mem_of_getElem? (i := 559) (by decide +kernel)) rfl, dt_tin (List.mem_of_getElem? (i := 84) (by decide +kernel)) rfl, by decide⟩
theorem mf_X5_loadOf : dt_mf yX5_loadOf cX5_loadOf 2 (some .int) 1 := ⟨dt_tin (List.mem_of_getElem? (i := 616) (by decide +kernel)) rfl, dt_tin (List.mem_of_getElem? (i := 614) (by decide +kernel)) rfl, dt_tin (List.mem_of_getElem? (i := 615) (by decide +kernel)) rfl, dt_tin (List.mem_of_getElem? (i := 84) (by decide +kernel)) rfl, by decide⟩
theorem mf_X5_isFree : dt_mf yX5_isFree cX5_isFree 3 (some .boolean) 1 := ⟨dt_tin (List.mem_of_getElem? (i := 602) (by decide +kernel)) rfl, dt_tin (List.mem_of_getElem? (i := 600) (by decide +kernel)) rfl, dt_tin (List.mem_of_getElem? (i := 601) (by decide +kernel)) rfl, dt_tin (List.mem_of_getElem? (i := 84) (by decide +kernel)) rfl, by decide⟩
theorem mf_X5_leastFree : dt_mf yX5_leastFree cX5_leastFree 2 (some .int) 0 := ⟨dt_tin (List.mem_of_getElem? (i := 937) (by decide +kernel)) rfl, dt_tin (List.mem_of_getElem? (i := 935) (by decide +kernel)) rfl, dt_tin (List.mem_of_getElem? (i := 936) (by decide +kernel)) rfl, dt_tin (List.mem_of_getElem? (i := 84) (by decide +kernel)) rfl, by decide⟩
theorem mf_X5_isBare : dt_mf yX5_isBare cX5_isBare 3 (some .boolean) 1 := ⟨dt_tin (List.mem_of_getElem? (i := 920) (by decide +kernel)) rfl, dt_tin (List.mem_of_getElem? (i := 918) (by decide +kernel)) rfl, dt_tin (List.mem_of_getElem? (i := 919) (by decide +kernel)) rfl, dt_tin (List.mem_of_getElem? (i := 84) (by decide +kernel)) rfl, by decide⟩
theorem mf_X5_levelFor : dt_mf yX5_levelFor cX5_levelFor 5 (some .int) 2 := ⟨dt_tin (List.mem_of_getElem? (i := 520) (by decide +kernel)) rfl, dt_tin (List.mem_of_getElem? (i := 518) (by decide +kernel)) rfl, dt_tin (List.mem_of_getElem? (i := 519) (by decide +kernel)) rfl, dt_tin (List.mem_of_getElem? (i := 84) (by decide +kernel)) rfl, by decide⟩
theorem mf_X5_wouldStand : dt_mf yX5_wouldStand cX5_wouldStand 5 (some .boolean) 2 := ⟨dt_tin (List.mem_of_getElem? (i := 516) (by decide +kernel)) rfl, dt_tin (List.mem_of_getElem? (i := 514) (by decide +kernel)) rfl, dt_tin (List.mem_of_getElem? (i := 515) (by decide +kernel)) rfl, dt_tin (List.mem_of_getElem? (i := 84) (by decide +kernel)) rfl, by decide⟩
theorem mf_X5_raise : dt_mf yX5_raise cX5_raise 4 (some .int) 2 := ⟨dt_tin (List.mem_of_getElem? (i := 512) (by decide +kernel)) rfl, dt_tin (List.mem_of_getElem? (i := 510) (by decide +kernel)) rfl, dt_tin (List.mem_of_getElem? (i := 511) (by decide +kernel)) rfl, dt_tin (List.mem_of_getElem? (i := 84) (by decide +kernel)) rfl, by decide⟩
theorem mf_X5_drop : dt_mf yX5_drop cX5_drop 5 none 2 := ⟨dt_tin (List.mem_of_getElem? (i := 531) (by decide +kernel)) rfl, dt_tin (List.mem_of_getElem? (i := 529) (by decide +kernel)) rfl, dt_tin (List.mem_of_getElem? (i := 530) (by decide +kernel)) rfl, dt_tin (List.mem_of_getElem? (i := 84) (by decide +kernel)) rfl, by decide⟩
theorem mf_X5_lift : dt_mf yX5_lift cX5_lift 5 none 2 := ⟨dt_tin (List.mem_of_getElem? (i := 564) (by decide +kernel)) rfl, dt_tin (List.mem_of_getElem? (i := 562) (by decide +kernel)) rfl, dt_tin (List.mem_of_getElem? (i := 563) (by decide +kernel)) rfl, dt_tin (List.mem_of_getElem? (i := 84) (by decide +kernel)) rfl, by decide⟩
theorem mf_X5_fall : dt_mf yX5_fall cX5_fall 3 none 0 := ⟨dt_tin (List.mem_of_getElem? (i := 712) (by decide +kernel)) rfl, dt_tin (List.mem_of_getElem? (i := 710) (by decide +kernel)) rfl, dt_tin (List.mem_of_getElem? (i := 711) (by decide +kernel)) rfl, dt_tin (List.mem_of_getElem? (i := 84) (by decide +kernel)) rfl, by decide⟩
theorem mf_X5_clear : dt_mf yX5_clear cX5_clear 2 none 0 := ⟨dt_tin (List.mem_of_getElem? (i := 954) (by decide +kernel)) rfl, dt_tin (List.mem_of_getElem? (i := 952) (by decide +kernel)) rfl, dt_tin (List.mem_of_getElem? (i := 953) (by decide +kernel)) rfl, dt_tin (List.mem_of_getElem? (i := 84) (by decide +kernel)) rfl, by decide⟩
theorem mf_X5_isTopHoly : dt_mf yX5_isTopHoly cX5_isTopHoly 3 (some .boolean) 0 := ⟨dt_tin (List.mem_of_getElem? (i := 661) (by decide +kernel)) rfl, dt_tin (List.mem_of_getElem? (i := 659) (by decide +kernel)) rfl, dt_tin (List.mem_of_getElem? (i := 660) (by decide +kernel)) rfl, dt_tin (List.mem_of_getElem? (i := 84) (by decide +kernel)) rfl, by decide⟩
theorem mf_X5_overloaded : dt_mf yX5_overloaded cX5_overloaded 4 (some .int) 0 := ⟨dt_tin (List.mem_of_getElem? (i := 556) (by decide +kernel)) rfl, dt_tin (List.mem_of_getElem? (i := 554) (by decide +kernel)) rfl, dt_tin (List.mem_of_getElem? (i := 555) (by decide +kernel)) rfl, dt_tin (List.mem_of_getElem? (i := 84) (by decide +kernel)) rfl, by decide⟩
theorem mf_X5_weigh : dt_mf yX5_weigh cX5_weigh 4 none 0 := ⟨dt_tin (List.mem_of_getElem? (i := 540) (by decide +kernel)) rfl, dt_tin (List.mem_of_getElem? (i := 538) (by decide +kernel)) rfl, dt_tin (List.mem_of_getElem? (i := 539) (by decide +kernel)) rfl, dt_tin (List.mem_of_getElem? (i := 84) (by decide +kernel)) rfl, by decide⟩
theorem mf_X5_share : dt_mf yX5_share cX5_share 9 none 1 := ⟨dt_tin (List.mem_of_getElem? (i := 552) (by decide +kernel)) rfl, dt_tin (List.mem_of_getElem? (i := 551) (by decide +kernel)) rfl, dt_tin (List.mem_of_getElem? (i := 6) (by decide +kernel)) rfl, dt_tin (List.mem_of_getElem? (i := 84) (by decide +kernel)) rfl, by decide⟩
theorem mf_X5_toYard : dt_mf yX5_toYard cX5_toYard 3 none 2 := ⟨dt_tin (List.mem_of_getElem? (i := 576) (by decide +kernel)) rfl, dt_tin (List.mem_of_getElem? (i := 575) (by decide +kernel)) rfl, dt_tin (List.mem_of_getElem? (i := 8) (by decide +kernel)) rfl, dt_tin (List.mem_of_getElem? (i := 84) (by decide +kernel)) rfl, by decide⟩
theorem mf_X5_settle : dt_mf yX5_settle cX5_settle 4 none 1 := ⟨dt_tin (List.mem_of_getElem? (i := 572) (by decide +kernel)) rfl, dt_tin (List.mem_of_getElem? (i := 571) (by decide +kernel)) rfl, dt_tin (List.mem_of_getElem? (i := 7) (by decide +kernel)) rfl, dt_tin (List.mem_of_getElem? (i := 84) (by decide +kernel)) rfl, by decide⟩
theorem mf_X5_clearCells : dt_mf yX5_clearCells cX5_clearCells 1 none 0 := ⟨dt_tin (List.mem_of_getElem? (i := 407) (by decide +kernel)) rfl, dt_tin (List.mem_of_getElem? (i := 406) (by decide +kernel)) rfl, dt_tin (List.mem_of_getElem? (i := 0) (by decide +kernel)) rfl, dt_tin (List.mem_of_getElem? (i := 84) (by decide +kernel)) rfl, by decide⟩
theorem mf_X5_mark : dt_mf yX5_mark cX5_mark 4 none 3 := ⟨dt_tin (List.mem_of_getElem? (i := 536) (by decide +kernel)) rfl, dt_tin (List.mem_of_getElem? (i := 535) (by decide +kernel)) rfl, dt_tin (List.mem_of_getElem? (i := 4) (by decide +kernel)) rfl, dt_tin (List.mem_of_getElem? (i := 84) (by decide +kernel)) rfl, by decide⟩
theorem mf_X5_cellAt : dt_mf yX5_cellAt cX5_cellAt 4 (some .int) 2 := ⟨dt_tin (List.mem_of_getElem? (i := 548) (by decide +kernel)) rfl, dt_tin (List.mem_of_getElem? (i := 547) (by decide +kernel)) rfl, dt_tin (List.mem_of_getElem? (i := 5) (by decide +kernel)) rfl, dt_tin (List.mem_of_getElem? (i := 84) (by decide +kernel)) rfl, by decide⟩
theorem mf_X5_heightAt : dt_mf yX5_heightAt cX5_heightAt 2 (some .int) 1 := ⟨dt_tin (List.mem_of_getElem? (i := 524) (by decide +kernel)) rfl, dt_tin (List.mem_of_getElem? (i := 523) (by decide +kernel)) rfl, dt_tin (List.mem_of_getElem? (i := 3) (by decide +kernel)) rfl, dt_tin (List.mem_of_getElem? (i := 84) (by decide +kernel)) rfl, by decide⟩
theorem mf_X6_forget : dt_mf yX6_forget cX6_forget 1 none 0 := ⟨dt_tin (List.mem_of_getElem? (i := 477) (by decide +kernel)) rfl, dt_tin (List.mem_of_getElem? (i := 475) (by decide +kernel)) rfl, dt_tin (List.mem_of_getElem? (i := 476) (by decide +kernel)) rfl, dt_tin (List.mem_of_getElem? (i := 89) (by decide +kernel)) rfl, by decide⟩
theorem mf_X6_remember : dt_mf yX6_remember cX6_remember 5 none 4 := ⟨dt_tin (List.mem_of_getElem? (i := 590) (by decide +kernel)) rfl, dt_tin (List.mem_of_getElem? (i := 588) (by decide +kernel)) rfl, dt_tin (List.mem_of_getElem? (i := 589) (by decide +kernel)) rfl, dt_tin (List.mem_of_getElem? (i := 89) (by decide +kernel)) rfl, by decide⟩
theorem mf_X6_newest : dt_mf yX6_newest cX6_newest 1 (some .int) 0 := ⟨dt_tin (List.mem_of_getElem? (i := 1053) (by decide +kernel)) rfl, dt_tin (List.mem_of_getElem? (i := 1051) (by decide +kernel)) rfl, dt_tin (List.mem_of_getElem? (i := 1052) (by decide +kernel)) rfl, dt_tin (List.mem_of_getElem? (i := 89) (by decide +kernel)) rfl, by decide⟩
theorem mf_X6_dropNewest : dt_mf yX6_dropNewest cX6_dropNewest 1 none 0 := ⟨dt_tin (List.mem_of_getElem? (i := 1062) (by decide +kernel)) rfl, dt_tin (List.mem_of_getElem? (i := 1060) (by decide +kernel)) rfl, dt_tin (List.mem_of_getElem? (i := 1061) (by decide +kernel)) rfl, dt_tin (List.mem_of_getElem? (i := 89) (by decide +kernel)) rfl, by decide⟩
theorem mf_X7_begin : dt_mf yX7_begin cX7_begin 1 none 0 := ⟨dt_tin (List.mem_of_getElem? (i := 422) (by decide +kernel)) rfl, dt_tin (List.mem_of_getElem? (i := 420) (by decide +kernel)) rfl, dt_tin (List.mem_of_getElem? (i := 421) (by decide +kernel)) rfl, dt_tin (List.mem_of_getElem? (i := 86) (by decide +kernel)) rfl, by decide⟩
theorem mf_X7_become : dt_mf yX7_become cX7_become 2 none 1 := ⟨dt_tin (List.mem_of_getElem? (i := 867) (by decide +kernel)) rfl, dt_tin (List.mem_of_getElem? (i := 865) (by decide +kernel)) rfl, dt_tin (List.mem_of_getElem? (i := 866) (by decide +kernel)) rfl, dt_tin (List.mem_of_getElem? (i := 86) (by decide +kernel)) rfl, by decide⟩
theorem mf_X7_scan : dt_mf yX7_scan cX7_scan 5 none 2 := ⟨dt_tin (List.mem_of_getElem? (i := 737) (by decide +kernel)) rfl, dt_tin (List.mem_of_getElem? (i := 735) (by decide +kernel)) rfl, dt_tin (List.mem_of_getElem? (i := 736) (by decide +kernel)) rfl, dt_tin (List.mem_of_getElem? (i := 86) (by decide +kernel)) rfl, by decide⟩
theorem mf_X7_tell : dt_mf yX7_tell cX7_tell 3 none 2 := ⟨dt_tin (List.mem_of_getElem? (i := 648) (by decide +kernel)) rfl, dt_tin (List.mem_of_getElem? (i := 646) (by decide +kernel)) rfl, dt_tin (List.mem_of_getElem? (i := 647) (by decide +kernel)) rfl, dt_tin (List.mem_of_getElem? (i := 86) (by decide +kernel)) rfl, by decide⟩
theorem mf_X7_read : dt_mf yX7_read cX7_read 6 (some .int) 1 := ⟨dt_tin (List.mem_of_getElem? (i := 665) (by decide +kernel)) rfl, dt_tin (List.mem_of_getElem? (i := 663) (by decide +kernel)) rfl, dt_tin (List.mem_of_getElem? (i := 664) (by decide +kernel)) rfl, dt_tin (List.mem_of_getElem? (i := 86) (by decide +kernel)) rfl, by decide⟩
theorem ms_X7_tokenEnd : dt_ms yX7_tokenEnd cX7_tokenEnd 6 (some .int) 3 := ⟨dt_tin (List.mem_of_getElem? (i := 740) (by decide +kernel)) rfl, dt_tin (List.mem_of_getElem? (i := 739) (by decide +kernel)) rfl, dt_tin (List.mem_of_getElem? (i := 86) (by decide +kernel)) rfl, by decide⟩
theorem ms_X7_codeOf : dt_ms yX7_codeOf cX7_codeOf 4 (some .int) 3 := ⟨dt_tin (List.mem_of_getElem? (i := 749) (by decide +kernel)) rfl, dt_tin (List.mem_of_getElem? (i := 748) (by decide +kernel)) rfl, dt_tin (List.mem_of_getElem? (i := 86) (by decide +kernel)) rfl, by decide⟩
theorem ms_X7_numberOf : dt_ms yX7_numberOf cX7_numberOf 5 (some .int) 3 := ⟨dt_tin (List.mem_of_getElem? (i := 807) (by decide +kernel)) rfl, dt_tin (List.mem_of_getElem? (i := 806) (by decide +kernel)) rfl, dt_tin (List.mem_of_getElem? (i := 86) (by decide +kernel)) rfl, by decide⟩
theorem ms_X7_wordOf : dt_ms yX7_wordOf cX7_wordOf 6 (some .int) 3 := ⟨dt_tin (List.mem_of_getElem? (i := 752) (by decide +kernel)) rfl, dt_tin (List.mem_of_getElem? (i := 751) (by decide +kernel)) rfl, dt_tin (List.mem_of_getElem? (i := 86) (by decide +kernel)) rfl, by decide⟩
theorem ms_X7_isSame : dt_ms yX7_isSame cX7_isSame 5 (some .boolean) 4 := ⟨dt_tin (List.mem_of_getElem? (i := 804) (by decide +kernel)) rfl, dt_tin (List.mem_of_getElem? (i := 803) (by decide +kernel)) rfl, dt_tin (List.mem_of_getElem? (i := 86) (by decide +kernel)) rfl, by decide⟩
theorem ms_X7_isLetter : dt_ms yX7_isLetter cX7_isLetter 1 (some .boolean) 1 := ⟨dt_tin (List.mem_of_getElem? (i := 743) (by decide +kernel)) rfl, dt_tin (List.mem_of_getElem? (i := 742) (by decide +kernel)) rfl, dt_tin (List.mem_of_getElem? (i := 86) (by decide +kernel)) rfl, by decide⟩
theorem ms_X7_isDigit : dt_ms yX7_isDigit cX7_isDigit 1 (some .boolean) 1 := ⟨dt_tin (List.mem_of_getElem? (i := 746) (by decide +kernel)) rfl, dt_tin (List.mem_of_getElem? (i := 745) (by decide +kernel)) rfl, dt_tin (List.mem_of_getElem? (i := 86) (by decide +kernel)) rfl, by decide⟩
theorem mf_X7_peek : dt_mf yX7_peek cX7_peek 1 (some .int) 0 := ⟨dt_tin (List.mem_of_getElem? (i := 669) (by decide +kernel)) rfl, dt_tin (List.mem_of_getElem? (i := 668) (by decide +kernel)) rfl, dt_tin (List.mem_of_getElem? (i := 11) (by decide +kernel)) rfl, dt_tin (List.mem_of_getElem? (i := 86) (by decide +kernel)) rfl, by decide⟩
theorem mf_X7_fail : dt_mf yX7_fail cX7_fail 2 none 1 := ⟨dt_tin (List.mem_of_getElem? (i := 673) (by decide +kernel)) rfl, dt_tin (List.mem_of_getElem? (i := 672) (by decide +kernel)) rfl, dt_tin (List.mem_of_getElem? (i := 12) (by decide +kernel)) rfl, dt_tin (List.mem_of_getElem? (i := 86) (by decide +kernel)) rfl, by decide⟩
theorem mf_X7_expect : dt_mf yX7_expect cX7_expect 2 none 1 := ⟨dt_tin (List.mem_of_getElem? (i := 704) (by decide +kernel)) rfl, dt_tin (List.mem_of_getElem? (i := 703) (by decide +kernel)) rfl, dt_tin (List.mem_of_getElem? (i := 19) (by decide +kernel)) rfl, dt_tin (List.mem_of_getElem? (i := 86) (by decide +kernel)) rfl, by decide⟩
theorem mf_X7_either : dt_mf yX7_either cX7_either 7 (some .boolean) 1 := ⟨dt_tin (List.mem_of_getElem? (i := 677) (by decide +kernel)) rfl, dt_tin (List.mem_of_getElem? (i := 676) (by decide +kernel)) rfl, dt_tin (List.mem_of_getElem? (i := 13) (by decide +kernel)) rfl, dt_tin (List.mem_of_getElem? (i := 86) (by decide +kernel)) rfl, by decide⟩
theorem mf_X7_claim : dt_mf yX7_claim cX7_claim 5 (some .boolean) 1 := ⟨dt_tin (List.mem_of_getElem? (i := 681) (by decide +kernel)) rfl, dt_tin (List.mem_of_getElem? (i := 680) (by decide +kernel)) rfl, dt_tin (List.mem_of_getElem? (i := 14) (by decide +kernel)) rfl, dt_tin (List.mem_of_getElem? (i := 86) (by decide +kernel)) rfl, by decide⟩
theorem mf_X7_expectOrder : dt_mf yX7_expectOrder cX7_expectOrder 2 none 0 := ⟨dt_tin (List.mem_of_getElem? (i := 697) (by decide +kernel)) rfl, dt_tin (List.mem_of_getElem? (i := 696) (by decide +kernel)) rfl, dt_tin (List.mem_of_getElem? (i := 18) (by decide +kernel)) rfl, dt_tin (List.mem_of_getElem? (i := 86) (by decide +kernel)) rfl, by decide⟩
theorem ms_X7_isSo : dt_ms yX7_isSo cX7_isSo 3 (some .boolean) 3 := ⟨dt_tin (List.mem_of_getElem? (i := 700) (by decide +kernel)) rfl, dt_tin (List.mem_of_getElem? (i := 699) (by decide +kernel)) rfl, dt_tin (List.mem_of_getElem? (i := 86) (by decide +kernel)) rfl, by decide⟩
theorem mf_X7_sum : dt_mf yX7_sum cX7_sum 7 (some .int) 0 := ⟨dt_tin (List.mem_of_getElem? (i := 685) (by decide +kernel)) rfl, dt_tin (List.mem_of_getElem? (i := 684) (by decide +kernel)) rfl, dt_tin (List.mem_of_getElem? (i := 15) (by decide +kernel)) rfl, dt_tin (List.mem_of_getElem? (i := 86) (by decide +kernel)) rfl, by decide⟩
theorem mf_X7_partOf : dt_mf yX7_partOf cX7_partOf 3 (some .int) 1 := ⟨dt_tin (List.mem_of_getElem? (i := 693) (by decide +kernel)) rfl, dt_tin (List.mem_of_getElem? (i := 692) (by decide +kernel)) rfl, dt_tin (List.mem_of_getElem? (i := 17) (by decide +kernel)) rfl, dt_tin (List.mem_of_getElem? (i := 86) (by decide +kernel)) rfl, by decide⟩
theorem mf_X7_unit : dt_mf yX7_unit cX7_unit 3 (some .int) 0 := ⟨dt_tin (List.mem_of_getElem? (i := 689) (by decide +kernel)) rfl, dt_tin (List.mem_of_getElem? (i := 688) (by decide +kernel)) rfl, dt_tin (List.mem_of_getElem? (i := 16) (by decide +kernel)) rfl, dt_tin (List.mem_of_getElem? (i := 86) (by decide +kernel)) rfl, by decide⟩
theorem mf_X8_begin : dt_mf yX8_begin cX8_begin 2 none 1 := ⟨dt_tin (List.mem_of_getElem? (i := 399) (by decide +kernel)) rfl, dt_tin (List.mem_of_getElem? (i := 397) (by decide +kernel)) rfl, dt_tin (List.mem_of_getElem? (i := 398) (by decide +kernel)) rfl, dt_tin (List.mem_of_getElem? (i := 83) (by decide +kernel)) rfl, by decide⟩
theorem mf_X8_become : dt_mf yX8_become cX8_become 2 none 1 := ⟨dt_tin (List.mem_of_getElem? (i := 1071) (by decide +kernel)) rfl, dt_tin (List.mem_of_getElem? (i := 1069) (by decide +kernel)) rfl, dt_tin (List.mem_of_getElem? (i := 1070) (by decide +kernel)) rfl, dt_tin (List.mem_of_getElem? (i := 83) (by decide +kernel)) rfl, by decide⟩
theorem mf_X9_columns : dt_mf yX9_columns cX9_columns 2 (some .boolean) 1 := ⟨dt_tin (List.mem_of_getElem? (i := 473) (by decide +kernel)) rfl, dt_tin (List.mem_of_getElem? (i := 471) (by decide +kernel)) rfl, dt_tin (List.mem_of_getElem? (i := 472) (by decide +kernel)) rfl, dt_tin (List.mem_of_getElem? (i := 82) (by decide +kernel)) rfl, by decide⟩
theorem mf_X9_block : dt_mf yX9_block cX9_block 9 (some .int) 5 := ⟨dt_tin (List.mem_of_getElem? (i := 481) (by decide +kernel)) rfl, dt_tin (List.mem_of_getElem? (i := 479) (by decide +kernel)) rfl, dt_tin (List.mem_of_getElem? (i := 480) (by decide +kernel)) rfl, dt_tin (List.mem_of_getElem? (i := 82) (by decide +kernel)) rfl, by decide⟩
theorem mf_X9_put : dt_mf yX9_put cX9_put 8 (some .int) 2 := ⟨dt_tin (List.mem_of_getElem? (i := 492) (by decide +kernel)) rfl, dt_tin (List.mem_of_getElem? (i := 490) (by decide +kernel)) rfl, dt_tin (List.mem_of_getElem? (i := 491) (by decide +kernel)) rfl, dt_tin (List.mem_of_getElem? (i := 82) (by decide +kernel)) rfl, by decide⟩
theorem mf_X9_take : dt_mf yX9_take cX9_take 6 (some .boolean) 2 := ⟨dt_tin (List.mem_of_getElem? (i := 597) (by decide +kernel)) rfl, dt_tin (List.mem_of_getElem? (i := 595) (by decide +kernel)) rfl, dt_tin (List.mem_of_getElem? (i := 596) (by decide +kernel)) rfl, dt_tin (List.mem_of_getElem? (i := 82) (by decide +kernel)) rfl, by decide⟩
theorem mf_X9_refused : dt_mf yX9_refused cX9_refused 2 (some .int) 1 := ⟨dt_tin (List.mem_of_getElem? (i := 607) (by decide +kernel)) rfl, dt_tin (List.mem_of_getElem? (i := 605) (by decide +kernel)) rfl, dt_tin (List.mem_of_getElem? (i := 606) (by decide +kernel)) rfl, dt_tin (List.mem_of_getElem? (i := 82) (by decide +kernel)) rfl, by decide⟩
theorem mf_X9_of : dt_mf yX9_of cX9_of 4 (some .int) 2 := ⟨dt_tin (List.mem_of_getElem? (i := 611) (by decide +kernel)) rfl, dt_tin (List.mem_of_getElem? (i := 609) (by decide +kernel)) rfl, dt_tin (List.mem_of_getElem? (i := 610) (by decide +kernel)) rfl, dt_tin (List.mem_of_getElem? (i := 82) (by decide +kernel)) rfl, by decide⟩
theorem mf_X9_height : dt_mf yX9_height cX9_height 3 (some .int) 1 := ⟨dt_tin (List.mem_of_getElem? (i := 635) (by decide +kernel)) rfl, dt_tin (List.mem_of_getElem? (i := 633) (by decide +kernel)) rfl, dt_tin (List.mem_of_getElem? (i := 634) (by decide +kernel)) rfl, dt_tin (List.mem_of_getElem? (i := 82) (by decide +kernel)) rfl, by decide⟩
theorem mf_X9_noon : dt_mf yX9_noon cX9_noon 2 (some .int) 0 := ⟨dt_tin (List.mem_of_getElem? (i := 640) (by decide +kernel)) rfl, dt_tin (List.mem_of_getElem? (i := 638) (by decide +kernel)) rfl, dt_tin (List.mem_of_getElem? (i := 639) (by decide +kernel)) rfl, dt_tin (List.mem_of_getElem? (i := 82) (by decide +kernel)) rfl, by decide⟩
theorem mf_X9_dusk : dt_mf yX9_dusk cX9_dusk 2 (some .int) 0 := ⟨dt_tin (List.mem_of_getElem? (i := 708) (by decide +kernel)) rfl, dt_tin (List.mem_of_getElem? (i := 706) (by decide +kernel)) rfl, dt_tin (List.mem_of_getElem? (i := 707) (by decide +kernel)) rfl, dt_tin (List.mem_of_getElem? (i := 82) (by decide +kernel)) rfl, by decide⟩
theorem mf_X9_feed : dt_mf yX9_feed cX9_feed 6 (some .int) 5 := ⟨dt_tin (List.mem_of_getElem? (i := 721) (by decide +kernel)) rfl, dt_tin (List.mem_of_getElem? (i := 719) (by decide +kernel)) rfl, dt_tin (List.mem_of_getElem? (i := 720) (by decide +kernel)) rfl, dt_tin (List.mem_of_getElem? (i := 82) (by decide +kernel)) rfl, by decide⟩
theorem mf_X9_end : dt_mf yX9_end cX9_end 2 (some .boolean) 1 := ⟨dt_tin (List.mem_of_getElem? (i := 729) (by decide +kernel)) rfl, dt_tin (List.mem_of_getElem? (i := 727) (by decide +kernel)) rfl, dt_tin (List.mem_of_getElem? (i := 728) (by decide +kernel)) rfl, dt_tin (List.mem_of_getElem? (i := 82) (by decide +kernel)) rfl, by decide⟩
theorem mf_X9_text : dt_mf yX9_text cX9_text 1 (some .int) 0 := ⟨dt_tin (List.mem_of_getElem? (i := 733) (by decide +kernel)) rfl, dt_tin (List.mem_of_getElem? (i := 731) (by decide +kernel)) rfl, dt_tin (List.mem_of_getElem? (i := 732) (by decide +kernel)) rfl, dt_tin (List.mem_of_getElem? (i := 82) (by decide +kernel)) rfl, by decide⟩
theorem mf_X9_fault : dt_mf yX9_fault cX9_fault 2 (some .int) 1 := ⟨dt_tin (List.mem_of_getElem? (i := 874) (by decide +kernel)) rfl, dt_tin (List.mem_of_getElem? (i := 872) (by decide +kernel)) rfl, dt_tin (List.mem_of_getElem? (i := 873) (by decide +kernel)) rfl, dt_tin (List.mem_of_getElem? (i := 82) (by decide +kernel)) rfl, by decide⟩
theorem mf_X9_plan : dt_mf yX9_plan cX9_plan 4 (some .int) 2 := ⟨dt_tin (List.mem_of_getElem? (i := 878) (by decide +kernel)) rfl, dt_tin (List.mem_of_getElem? (i := 876) (by decide +kernel)) rfl, dt_tin (List.mem_of_getElem? (i := 877) (by decide +kernel)) rfl, dt_tin (List.mem_of_getElem? (i := 82) (by decide +kernel)) rfl, by decide⟩
theorem mf_X9_down : dt_mf yX9_down cX9_down 4 (some .int) 1 := ⟨dt_tin (List.mem_of_getElem? (i := 933) (by decide +kernel)) rfl, dt_tin (List.mem_of_getElem? (i := 931) (by decide +kernel)) rfl, dt_tin (List.mem_of_getElem? (i := 932) (by decide +kernel)) rfl, dt_tin (List.mem_of_getElem? (i := 82) (by decide +kernel)) rfl, by decide⟩
theorem mf_X9_which : dt_mf yX9_which cX9_which 3 (some .int) 2 := ⟨dt_tin (List.mem_of_getElem? (i := 942) (by decide +kernel)) rfl, dt_tin (List.mem_of_getElem? (i := 940) (by decide +kernel)) rfl, dt_tin (List.mem_of_getElem? (i := 941) (by decide +kernel)) rfl, dt_tin (List.mem_of_getElem? (i := 82) (by decide +kernel)) rfl, by decide⟩
theorem mf_X9_hand : dt_mf yX9_hand cX9_hand 2 (some .int) 1 := ⟨dt_tin (List.mem_of_getElem? (i := 988) (by decide +kernel)) rfl, dt_tin (List.mem_of_getElem? (i := 986) (by decide +kernel)) rfl, dt_tin (List.mem_of_getElem? (i := 987) (by decide +kernel)) rfl, dt_tin (List.mem_of_getElem? (i := 82) (by decide +kernel)) rfl, by decide⟩
theorem mf_X9_quarrel : dt_mf yX9_quarrel cX9_quarrel 4 (some .boolean) 3 := ⟨dt_tin (List.mem_of_getElem? (i := 996) (by decide +kernel)) rfl, dt_tin (List.mem_of_getElem? (i := 994) (by decide +kernel)) rfl, dt_tin (List.mem_of_getElem? (i := 995) (by decide +kernel)) rfl, dt_tin (List.mem_of_getElem? (i := 82) (by decide +kernel)) rfl, by decide⟩
theorem mf_X9_wind : dt_mf yX9_wind cX9_wind 4 (some .boolean) 3 := ⟨dt_tin (List.mem_of_getElem? (i := 1004) (by decide +kernel)) rfl, dt_tin (List.mem_of_getElem? (i := 1002) (by decide +kernel)) rfl, dt_tin (List.mem_of_getElem? (i := 1003) (by decide +kernel)) rfl, dt_tin (List.mem_of_getElem? (i := 82) (by decide +kernel)) rfl, by decide⟩
theorem mf_X9_pay : dt_mf yX9_pay cX9_pay 3 (some .boolean) 2 := ⟨dt_tin (List.mem_of_getElem? (i := 1012) (by decide +kernel)) rfl, dt_tin (List.mem_of_getElem? (i := 1010) (by decide +kernel)) rfl, dt_tin (List.mem_of_getElem? (i := 1011) (by decide +kernel)) rfl, dt_tin (List.mem_of_getElem? (i := 82) (by decide +kernel)) rfl, by decide⟩
theorem mf_X9_worth : dt_mf yX9_worth cX9_worth 6 (some .long) 4 := ⟨dt_tin (List.mem_of_getElem? (i := 1020) (by decide +kernel)) rfl, dt_tin (List.mem_of_getElem? (i := 1018) (by decide +kernel)) rfl, dt_tin (List.mem_of_getElem? (i := 1019) (by decide +kernel)) rfl, dt_tin (List.mem_of_getElem? (i := 82) (by decide +kernel)) rfl, by decide⟩
theorem mf_X9_bet : dt_mf yX9_bet cX9_bet 3 (some .long) 2 := ⟨dt_tin (List.mem_of_getElem? (i := 1041) (by decide +kernel)) rfl, dt_tin (List.mem_of_getElem? (i := 1039) (by decide +kernel)) rfl, dt_tin (List.mem_of_getElem? (i := 1040) (by decide +kernel)) rfl, dt_tin (List.mem_of_getElem? (i := 82) (by decide +kernel)) rfl, by decide⟩
theorem mf_X9_undo : dt_mf yX9_undo cX9_undo 3 (some .boolean) 0 := ⟨dt_tin (List.mem_of_getElem? (i := 1049) (by decide +kernel)) rfl, dt_tin (List.mem_of_getElem? (i := 1047) (by decide +kernel)) rfl, dt_tin (List.mem_of_getElem? (i := 1048) (by decide +kernel)) rfl, dt_tin (List.mem_of_getElem? (i := 82) (by decide +kernel)) rfl, by decide⟩
theorem mf_X9_image : dt_mf yX9_image cX9_image 2 (some .boolean) 1 := ⟨dt_tin (List.mem_of_getElem? (i := 1067) (by decide +kernel)) rfl, dt_tin (List.mem_of_getElem? (i := 1065) (by decide +kernel)) rfl, dt_tin (List.mem_of_getElem? (i := 1066) (by decide +kernel)) rfl, dt_tin (List.mem_of_getElem? (i := 82) (by decide +kernel)) rfl, by decide⟩
theorem mf_X9_look : dt_mf yX9_look cX9_look 2 (some .int) 1 := ⟨dt_tin (List.mem_of_getElem? (i := 1091) (by decide +kernel)) rfl, dt_tin (List.mem_of_getElem? (i := 1089) (by decide +kernel)) rfl, dt_tin (List.mem_of_getElem? (i := 1090) (by decide +kernel)) rfl, dt_tin (List.mem_of_getElem? (i := 82) (by decide +kernel)) rfl, by decide⟩
theorem mf_X9_refuse : dt_mf yX9_refuse cX9_refuse 3 none 2 := ⟨dt_tin (List.mem_of_getElem? (i := 508) (by decide +kernel)) rfl, dt_tin (List.mem_of_getElem? (i := 507) (by decide +kernel)) rfl, dt_tin (List.mem_of_getElem? (i := 2) (by decide +kernel)) rfl, dt_tin (List.mem_of_getElem? (i := 82) (by decide +kernel)) rfl, by decide⟩
theorem mf_X9_punch : dt_mf yX9_punch cX9_punch 3 none 1 := ⟨dt_tin (List.mem_of_getElem? (i := 725) (by decide +kernel)) rfl, dt_tin (List.mem_of_getElem? (i := 724) (by decide +kernel)) rfl, dt_tin (List.mem_of_getElem? (i := 20) (by decide +kernel)) rfl, dt_tin (List.mem_of_getElem? (i := 82) (by decide +kernel)) rfl, by decide⟩
theorem mf_X9_judge : dt_mf yX9_judge cX9_judge 6 (some .int) 1 := ⟨dt_tin (List.mem_of_getElem? (i := 644) (by decide +kernel)) rfl, dt_tin (List.mem_of_getElem? (i := 643) (by decide +kernel)) rfl, dt_tin (List.mem_of_getElem? (i := 10) (by decide +kernel)) rfl, dt_tin (List.mem_of_getElem? (i := 82) (by decide +kernel)) rfl, by decide⟩
theorem ms_X9_isPlace : dt_ms yX9_isPlace cX9_isPlace 1 (some .boolean) 1 := ⟨dt_tin (List.mem_of_getElem? (i := 484) (by decide +kernel)) rfl, dt_tin (List.mem_of_getElem? (i := 483) (by decide +kernel)) rfl, dt_tin (List.mem_of_getElem? (i := 82) (by decide +kernel)) rfl, by decide⟩
theorem ms_X9_costOf : dt_ms yX9_costOf cX9_costOf 3 (some .int) 3 := ⟨dt_tin (List.mem_of_getElem? (i := 579) (by decide +kernel)) rfl, dt_tin (List.mem_of_getElem? (i := 578) (by decide +kernel)) rfl, dt_tin (List.mem_of_getElem? (i := 82) (by decide +kernel)) rfl, by decide⟩
theorem ms_X10_isIn : dt_ms yX10_isIn cX10_isIn 3 (some .boolean) 3 := ⟨dt_tin (List.mem_of_getElem? (i := 1221) (by decide +kernel)) rfl, dt_tin (List.mem_of_getElem? (i := 1220) (by decide +kernel)) rfl, dt_tin (List.mem_of_getElem? (i := 93) (by decide +kernel)) rfl, by decide⟩
theorem ms_X10_least : dt_ms yX10_least cX10_least 2 (some .int) 2 := ⟨dt_tin (List.mem_of_getElem? (i := 1232) (by decide +kernel)) rfl, dt_tin (List.mem_of_getElem? (i := 1231) (by decide +kernel)) rfl, dt_tin (List.mem_of_getElem? (i := 93) (by decide +kernel)) rfl, by decide⟩
theorem ms_X10_most : dt_ms yX10_most cX10_most 2 (some .int) 2 := ⟨dt_tin (List.mem_of_getElem? (i := 1267) (by decide +kernel)) rfl, dt_tin (List.mem_of_getElem? (i := 1266) (by decide +kernel)) rfl, dt_tin (List.mem_of_getElem? (i := 93) (by decide +kernel)) rfl, by decide⟩
theorem mf_X10_isBlock : dt_mf yX10_isBlock cX10_isBlock 2 (some .boolean) 1 := ⟨dt_tin (List.mem_of_getElem? (i := 1244) (by decide +kernel)) rfl, dt_tin (List.mem_of_getElem? (i := 1243) (by decide +kernel)) rfl, dt_tin (List.mem_of_getElem? (i := 34) (by decide +kernel)) rfl, dt_tin (List.mem_of_getElem? (i := 93) (by decide +kernel)) rfl, by decide⟩
theorem mf_X10_own : dt_mf yX10_own cX10_own 3 (some .int) 2 := ⟨dt_tin (List.mem_of_getElem? (i := 1248) (by decide +kernel)) rfl, dt_tin (List.mem_of_getElem? (i := 1247) (by decide +kernel)) rfl, dt_tin (List.mem_of_getElem? (i := 35) (by decide +kernel)) rfl, dt_tin (List.mem_of_getElem? (i := 93) (by decide +kernel)) rfl, by decide⟩
theorem mf_X10_gives : dt_mf yX10_gives cX10_gives 4 none 3 := ⟨dt_tin (List.mem_of_getElem? (i := 1236) (by decide +kernel)) rfl, dt_tin (List.mem_of_getElem? (i := 1235) (by decide +kernel)) rfl, dt_tin (List.mem_of_getElem? (i := 33) (by decide +kernel)) rfl, dt_tin (List.mem_of_getElem? (i := 93) (by decide +kernel)) rfl, by decide⟩
theorem mf_X10_forgets : dt_mf yX10_forgets cX10_forgets 1 none 0 := ⟨dt_tin (List.mem_of_getElem? (i := 1225) (by decide +kernel)) rfl, dt_tin (List.mem_of_getElem? (i := 1224) (by decide +kernel)) rfl, dt_tin (List.mem_of_getElem? (i := 32) (by decide +kernel)) rfl, dt_tin (List.mem_of_getElem? (i := 93) (by decide +kernel)) rfl, by decide⟩
theorem mf_X10_columns : dt_mf yX10_columns cX10_columns 3 (some .boolean) 1 := ⟨dt_tin (List.mem_of_getElem? (i := 1218) (by decide +kernel)) rfl, dt_tin (List.mem_of_getElem? (i := 1216) (by decide +kernel)) rfl, dt_tin (List.mem_of_getElem? (i := 1217) (by decide +kernel)) rfl, dt_tin (List.mem_of_getElem? (i := 93) (by decide +kernel)) rfl, by decide⟩
theorem mf_X10_block : dt_mf yX10_block cX10_block 7 (some .int) 5 := ⟨dt_tin (List.mem_of_getElem? (i := 1229) (by decide +kernel)) rfl, dt_tin (List.mem_of_getElem? (i := 1227) (by decide +kernel)) rfl, dt_tin (List.mem_of_getElem? (i := 1228) (by decide +kernel)) rfl, dt_tin (List.mem_of_getElem? (i := 93) (by decide +kernel)) rfl, by decide⟩
theorem mf_X10_laysTower : dt_mf yX10_laysTower cX10_laysTower 2 none 0 := ⟨dt_tin (List.mem_of_getElem? (i := 1252) (by decide +kernel)) rfl, dt_tin (List.mem_of_getElem? (i := 1251) (by decide +kernel)) rfl, dt_tin (List.mem_of_getElem? (i := 36) (by decide +kernel)) rfl, dt_tin (List.mem_of_getElem? (i := 93) (by decide +kernel)) rfl, by decide⟩
theorem mf_X10_highOf : dt_mf yX10_highOf cX10_highOf 4 (some .int) 1 := ⟨dt_tin (List.mem_of_getElem? (i := 1264) (by decide +kernel)) rfl, dt_tin (List.mem_of_getElem? (i := 1263) (by decide +kernel)) rfl, dt_tin (List.mem_of_getElem? (i := 39) (by decide +kernel)) rfl, dt_tin (List.mem_of_getElem? (i := 93) (by decide +kernel)) rfl, by decide⟩
theorem mf_X10_highest : dt_mf yX10_highest cX10_highest 3 (some .int) 0 := ⟨dt_tin (List.mem_of_getElem? (i := 1354) (by decide +kernel)) rfl, dt_tin (List.mem_of_getElem? (i := 1353) (by decide +kernel)) rfl, dt_tin (List.mem_of_getElem? (i := 53) (by decide +kernel)) rfl, dt_tin (List.mem_of_getElem? (i := 93) (by decide +kernel)) rfl, by decide⟩
theorem mf_X10_levelAt : dt_mf yX10_levelAt cX10_levelAt 5 (some .int) 2 := ⟨dt_tin (List.mem_of_getElem? (i := 1260) (by decide +kernel)) rfl, dt_tin (List.mem_of_getElem? (i := 1259) (by decide +kernel)) rfl, dt_tin (List.mem_of_getElem? (i := 38) (by decide +kernel)) rfl, dt_tin (List.mem_of_getElem? (i := 93) (by decide +kernel)) rfl, by decide⟩
theorem mf_X10_laysGrid : dt_mf yX10_laysGrid cX10_laysGrid 3 none 0 := ⟨dt_tin (List.mem_of_getElem? (i := 1271) (by decide +kernel)) rfl, dt_tin (List.mem_of_getElem? (i := 1270) (by decide +kernel)) rfl, dt_tin (List.mem_of_getElem? (i := 40) (by decide +kernel)) rfl, dt_tin (List.mem_of_getElem? (i := 93) (by decide +kernel)) rfl, by decide⟩
theorem mf_X10_isBorne : dt_mf yX10_isBorne cX10_isBorne 3 (some .boolean) 2 := ⟨dt_tin (List.mem_of_getElem? (i := 1279) (by decide +kernel)) rfl, dt_tin (List.mem_of_getElem? (i := 1278) (by decide +kernel)) rfl, dt_tin (List.mem_of_getElem? (i := 42) (by decide +kernel)) rfl, dt_tin (List.mem_of_getElem? (i := 93) (by decide +kernel)) rfl, by decide⟩
theorem mf_X10_standsThere : dt_mf yX10_standsThere cX10_standsThere 3 (some .boolean) 1 := ⟨dt_tin (List.mem_of_getElem? (i := 1275) (by decide +kernel)) rfl, dt_tin (List.mem_of_getElem? (i := 1274) (by decide +kernel)) rfl, dt_tin (List.mem_of_getElem? (i := 41) (by decide +kernel)) rfl, dt_tin (List.mem_of_getElem? (i := 93) (by decide +kernel)) rfl, by decide⟩
theorem mf_X10_laysLoads : dt_mf yX10_laysLoads cX10_laysLoads 7 none 0 := ⟨dt_tin (List.mem_of_getElem? (i := 1287) (by decide +kernel)) rfl, dt_tin (List.mem_of_getElem? (i := 1286) (by decide +kernel)) rfl, dt_tin (List.mem_of_getElem? (i := 44) (by decide +kernel)) rfl, dt_tin (List.mem_of_getElem? (i := 93) (by decide +kernel)) rfl, by decide⟩
theorem mf_X10_bears : dt_mf yX10_bears cX10_bears 4 (some .int) 1 := ⟨dt_tin (List.mem_of_getElem? (i := 1291) (by decide +kernel)) rfl, dt_tin (List.mem_of_getElem? (i := 1290) (by decide +kernel)) rfl, dt_tin (List.mem_of_getElem? (i := 45) (by decide +kernel)) rfl, dt_tin (List.mem_of_getElem? (i := 93) (by decide +kernel)) rfl, by decide⟩
theorem mf_X10_tooMuch : dt_mf yX10_tooMuch cX10_tooMuch 3 (some .int) 0 := ⟨dt_tin (List.mem_of_getElem? (i := 1283) (by decide +kernel)) rfl, dt_tin (List.mem_of_getElem? (i := 1282) (by decide +kernel)) rfl, dt_tin (List.mem_of_getElem? (i := 43) (by decide +kernel)) rfl, dt_tin (List.mem_of_getElem? (i := 93) (by decide +kernel)) rfl, by decide⟩
theorem mf_X10_isOnTop : dt_mf yX10_isOnTop cX10_isOnTop 3 (some .boolean) 1 := ⟨dt_tin (List.mem_of_getElem? (i := 1311) (by decide +kernel)) rfl, dt_tin (List.mem_of_getElem? (i := 1310) (by decide +kernel)) rfl, dt_tin (List.mem_of_getElem? (i := 49) (by decide +kernel)) rfl, dt_tin (List.mem_of_getElem? (i := 93) (by decide +kernel)) rfl, by decide⟩
theorem mf_X10_lays : dt_mf yX10_lays cX10_lays 4 (some .int) 2 := ⟨dt_tin (List.mem_of_getElem? (i := 1256) (by decide +kernel)) rfl, dt_tin (List.mem_of_getElem? (i := 1255) (by decide +kernel)) rfl, dt_tin (List.mem_of_getElem? (i := 37) (by decide +kernel)) rfl, dt_tin (List.mem_of_getElem? (i := 93) (by decide +kernel)) rfl, by decide⟩
theorem mf_X10_costOf : dt_mf yX10_costOf cX10_costOf 5 (some .int) 3 := ⟨dt_tin (List.mem_of_getElem? (i := 1295) (by decide +kernel)) rfl, dt_tin (List.mem_of_getElem? (i := 1294) (by decide +kernel)) rfl, dt_tin (List.mem_of_getElem? (i := 46) (by decide +kernel)) rfl, dt_tin (List.mem_of_getElem? (i := 93) (by decide +kernel)) rfl, by decide⟩
theorem mf_X10_keeps : dt_mf yX10_keeps cX10_keeps 3 none 1 := ⟨dt_tin (List.mem_of_getElem? (i := 1303) (by decide +kernel)) rfl, dt_tin (List.mem_of_getElem? (i := 1302) (by decide +kernel)) rfl, dt_tin (List.mem_of_getElem? (i := 48) (by decide +kernel)) rfl, dt_tin (List.mem_of_getElem? (i := 93) (by decide +kernel)) rfl, by decide⟩
theorem mf_X10_carries : dt_mf yX10_carries cX10_carries 6 none 5 := ⟨dt_tin (List.mem_of_getElem? (i := 1299) (by decide +kernel)) rfl, dt_tin (List.mem_of_getElem? (i := 1298) (by decide +kernel)) rfl, dt_tin (List.mem_of_getElem? (i := 47) (by decide +kernel)) rfl, dt_tin (List.mem_of_getElem? (i := 93) (by decide +kernel)) rfl, by decide⟩
theorem mf_X10_put : dt_mf yX10_put cX10_put 3 (some .int) 2 := ⟨dt_tin (List.mem_of_getElem? (i := 1240) (by decide +kernel)) rfl, dt_tin (List.mem_of_getElem? (i := 1238) (by decide +kernel)) rfl, dt_tin (List.mem_of_getElem? (i := 1239) (by decide +kernel)) rfl, dt_tin (List.mem_of_getElem? (i := 93) (by decide +kernel)) rfl, by decide⟩
theorem mf_X10_take : dt_mf yX10_take cX10_take 3 (some .boolean) 2 := ⟨dt_tin (List.mem_of_getElem? (i := 1307) (by decide +kernel)) rfl, dt_tin (List.mem_of_getElem? (i := 1305) (by decide +kernel)) rfl, dt_tin (List.mem_of_getElem? (i := 1306) (by decide +kernel)) rfl, dt_tin (List.mem_of_getElem? (i := 93) (by decide +kernel)) rfl, by decide⟩
theorem mf_X10_refused : dt_mf yX10_refused cX10_refused 2 (some .int) 1 := ⟨dt_tin (List.mem_of_getElem? (i := 1315) (by decide +kernel)) rfl, dt_tin (List.mem_of_getElem? (i := 1313) (by decide +kernel)) rfl, dt_tin (List.mem_of_getElem? (i := 1314) (by decide +kernel)) rfl, dt_tin (List.mem_of_getElem? (i := 93) (by decide +kernel)) rfl, by decide⟩
theorem mf_X10_undo : dt_mf yX10_undo cX10_undo 2 (some .boolean) 0 := ⟨dt_tin (List.mem_of_getElem? (i := 1319) (by decide +kernel)) rfl, dt_tin (List.mem_of_getElem? (i := 1317) (by decide +kernel)) rfl, dt_tin (List.mem_of_getElem? (i := 1318) (by decide +kernel)) rfl, dt_tin (List.mem_of_getElem? (i := 93) (by decide +kernel)) rfl, by decide⟩
theorem mf_X10_hand : dt_mf yX10_hand cX10_hand 2 (some .int) 1 := ⟨dt_tin (List.mem_of_getElem? (i := 1323) (by decide +kernel)) rfl, dt_tin (List.mem_of_getElem? (i := 1321) (by decide +kernel)) rfl, dt_tin (List.mem_of_getElem? (i := 1322) (by decide +kernel)) rfl, dt_tin (List.mem_of_getElem? (i := 93) (by decide +kernel)) rfl, by decide⟩
theorem mf_X10_isHand : dt_mf yX10_isHand cX10_isHand 2 (some .boolean) 1 := ⟨dt_tin (List.mem_of_getElem? (i := 1331) (by decide +kernel)) rfl, dt_tin (List.mem_of_getElem? (i := 1330) (by decide +kernel)) rfl, dt_tin (List.mem_of_getElem? (i := 50) (by decide +kernel)) rfl, dt_tin (List.mem_of_getElem? (i := 93) (by decide +kernel)) rfl, by decide⟩
theorem mf_X10_quarrel : dt_mf yX10_quarrel cX10_quarrel 4 (some .boolean) 3 := ⟨dt_tin (List.mem_of_getElem? (i := 1327) (by decide +kernel)) rfl, dt_tin (List.mem_of_getElem? (i := 1325) (by decide +kernel)) rfl, dt_tin (List.mem_of_getElem? (i := 1326) (by decide +kernel)) rfl, dt_tin (List.mem_of_getElem? (i := 93) (by decide +kernel)) rfl, by decide⟩
theorem ms_X10_count : dt_ms yX10_count cX10_count 3 (some .int) 1 := ⟨dt_tin (List.mem_of_getElem? (i := 1342) (by decide +kernel)) rfl, dt_tin (List.mem_of_getElem? (i := 1341) (by decide +kernel)) rfl, dt_tin (List.mem_of_getElem? (i := 93) (by decide +kernel)) rfl, by decide⟩
theorem mf_X10_canCarry : dt_mf yX10_canCarry cX10_canCarry 6 (some .boolean) 2 := ⟨dt_tin (List.mem_of_getElem? (i := 1346) (by decide +kernel)) rfl, dt_tin (List.mem_of_getElem? (i := 1345) (by decide +kernel)) rfl, dt_tin (List.mem_of_getElem? (i := 52) (by decide +kernel)) rfl, dt_tin (List.mem_of_getElem? (i := 93) (by decide +kernel)) rfl, by decide⟩
theorem mf_X10_hands : dt_mf yX10_hands cX10_hands 4 (some .int) 1 := ⟨dt_tin (List.mem_of_getElem? (i := 1339) (by decide +kernel)) rfl, dt_tin (List.mem_of_getElem? (i := 1338) (by decide +kernel)) rfl, dt_tin (List.mem_of_getElem? (i := 51) (by decide +kernel)) rfl, dt_tin (List.mem_of_getElem? (i := 93) (by decide +kernel)) rfl, by decide⟩
theorem mf_X10_of : dt_mf yX10_of cX10_of 3 (some .int) 2 := ⟨dt_tin (List.mem_of_getElem? (i := 1335) (by decide +kernel)) rfl, dt_tin (List.mem_of_getElem? (i := 1333) (by decide +kernel)) rfl, dt_tin (List.mem_of_getElem? (i := 1334) (by decide +kernel)) rfl, dt_tin (List.mem_of_getElem? (i := 93) (by decide +kernel)) rfl, by decide⟩
theorem mf_X10_height : dt_mf yX10_height cX10_height 2 (some .int) 1 := ⟨dt_tin (List.mem_of_getElem? (i := 1350) (by decide +kernel)) rfl, dt_tin (List.mem_of_getElem? (i := 1348) (by decide +kernel)) rfl, dt_tin (List.mem_of_getElem? (i := 1349) (by decide +kernel)) rfl, dt_tin (List.mem_of_getElem? (i := 93) (by decide +kernel)) rfl, by decide⟩
theorem mf_X10_feed : dt_mf yX10_feed cX10_feed 8 (some .int) 5 := ⟨dt_tin (List.mem_of_getElem? (i := 1358) (by decide +kernel)) rfl, dt_tin (List.mem_of_getElem? (i := 1356) (by decide +kernel)) rfl, dt_tin (List.mem_of_getElem? (i := 1357) (by decide +kernel)) rfl, dt_tin (List.mem_of_getElem? (i := 93) (by decide +kernel)) rfl, by decide⟩
theorem mf_X10_end : dt_mf yX10_end cX10_end 2 (some .boolean) 1 := ⟨dt_tin (List.mem_of_getElem? (i := 1362) (by decide +kernel)) rfl, dt_tin (List.mem_of_getElem? (i := 1360) (by decide +kernel)) rfl, dt_tin (List.mem_of_getElem? (i := 1361) (by decide +kernel)) rfl, dt_tin (List.mem_of_getElem? (i := 93) (by decide +kernel)) rfl, by decide⟩
theorem mf_X10_see : dt_mf yX10_see cX10_see 2 (some .int) 1 := ⟨dt_tin (List.mem_of_getElem? (i := 1374) (by decide +kernel)) rfl, dt_tin (List.mem_of_getElem? (i := 1373) (by decide +kernel)) rfl, dt_tin (List.mem_of_getElem? (i := 55) (by decide +kernel)) rfl, dt_tin (List.mem_of_getElem? (i := 93) (by decide +kernel)) rfl, by decide⟩
theorem ms_X10_isLetter : dt_ms yX10_isLetter cX10_isLetter 1 (some .boolean) 1 := ⟨dt_tin (List.mem_of_getElem? (i := 1377) (by decide +kernel)) rfl, dt_tin (List.mem_of_getElem? (i := 1376) (by decide +kernel)) rfl, dt_tin (List.mem_of_getElem? (i := 93) (by decide +kernel)) rfl, by decide⟩
theorem ms_X10_isDigit : dt_ms yX10_isDigit cX10_isDigit 1 (some .boolean) 1 := ⟨dt_tin (List.mem_of_getElem? (i := 1406) (by decide +kernel)) rfl, dt_tin (List.mem_of_getElem? (i := 1405) (by decide +kernel)) rfl, dt_tin (List.mem_of_getElem? (i := 93) (by decide +kernel)) rfl, by decide⟩
theorem mf_X10_is : dt_mf yX10_is cX10_is 4 (some .boolean) 1 := ⟨dt_tin (List.mem_of_getElem? (i := 1386) (by decide +kernel)) rfl, dt_tin (List.mem_of_getElem? (i := 1385) (by decide +kernel)) rfl, dt_tin (List.mem_of_getElem? (i := 57) (by decide +kernel)) rfl, dt_tin (List.mem_of_getElem? (i := 93) (by decide +kernel)) rfl, by decide⟩
theorem mf_X10_nameWord : dt_mf yX10_nameWord cX10_nameWord 1 (some .int) 0 := ⟨dt_tin (List.mem_of_getElem? (i := 1396) (by decide +kernel)) rfl, dt_tin (List.mem_of_getElem? (i := 1395) (by decide +kernel)) rfl, dt_tin (List.mem_of_getElem? (i := 58) (by decide +kernel)) rfl, dt_tin (List.mem_of_getElem? (i := 93) (by decide +kernel)) rfl, by decide⟩
theorem mf_X10_word : dt_mf yX10_word cX10_word 1 (some .int) 0 := ⟨dt_tin (List.mem_of_getElem? (i := 1381) (by decide +kernel)) rfl, dt_tin (List.mem_of_getElem? (i := 1380) (by decide +kernel)) rfl, dt_tin (List.mem_of_getElem? (i := 56) (by decide +kernel)) rfl, dt_tin (List.mem_of_getElem? (i := 93) (by decide +kernel)) rfl, by decide⟩
theorem mf_X10_next0 : dt_mf yX10_next0 cX10_next0 3 none 0 := ⟨dt_tin (List.mem_of_getElem? (i := 1370) (by decide +kernel)) rfl, dt_tin (List.mem_of_getElem? (i := 1369) (by decide +kernel)) rfl, dt_tin (List.mem_of_getElem? (i := 54) (by decide +kernel)) rfl, dt_tin (List.mem_of_getElem? (i := 93) (by decide +kernel)) rfl, by decide⟩
theorem mf_X10_bad : dt_mf yX10_bad cX10_bad 2 (some .boolean) 1 := ⟨dt_tin (List.mem_of_getElem? (i := 1414) (by decide +kernel)) rfl, dt_tin (List.mem_of_getElem? (i := 1413) (by decide +kernel)) rfl, dt_tin (List.mem_of_getElem? (i := 60) (by decide +kernel)) rfl, dt_tin (List.mem_of_getElem? (i := 93) (by decide +kernel)) rfl, by decide⟩
theorem mf_X10_need : dt_mf yX10_need cX10_need 2 (some .boolean) 1 := ⟨dt_tin (List.mem_of_getElem? (i := 1438) (by decide +kernel)) rfl, dt_tin (List.mem_of_getElem? (i := 1437) (by decide +kernel)) rfl, dt_tin (List.mem_of_getElem? (i := 66) (by decide +kernel)) rfl, dt_tin (List.mem_of_getElem? (i := 93) (by decide +kernel)) rfl, by decide⟩
theorem mf_X10_lay : dt_mf yX10_lay cX10_lay 3 none 2 := ⟨dt_tin (List.mem_of_getElem? (i := 1434) (by decide +kernel)) rfl, dt_tin (List.mem_of_getElem? (i := 1433) (by decide +kernel)) rfl, dt_tin (List.mem_of_getElem? (i := 65) (by decide +kernel)) rfl, dt_tin (List.mem_of_getElem? (i := 93) (by decide +kernel)) rfl, by decide⟩
theorem mf_X10_opens : dt_mf yX10_opens cX10_opens 1 (some .boolean) 0 := ⟨dt_tin (List.mem_of_getElem? (i := 1430) (by decide +kernel)) rfl, dt_tin (List.mem_of_getElem? (i := 1429) (by decide +kernel)) rfl, dt_tin (List.mem_of_getElem? (i := 64) (by decide +kernel)) rfl, dt_tin (List.mem_of_getElem? (i := 93) (by decide +kernel)) rfl, by decide⟩
theorem mf_X10_sumUp : dt_mf yX10_sumUp cX10_sumUp 2 (some .boolean) 0 := ⟨dt_tin (List.mem_of_getElem? (i := 1442) (by decide +kernel)) rfl, dt_tin (List.mem_of_getElem? (i := 1441) (by decide +kernel)) rfl, dt_tin (List.mem_of_getElem? (i := 67) (by decide +kernel)) rfl, dt_tin (List.mem_of_getElem? (i := 93) (by decide +kernel)) rfl, by decide⟩
theorem mf_X10_product : dt_mf yX10_product cX10_product 3 (some .boolean) 0 := ⟨dt_tin (List.mem_of_getElem? (i := 1446) (by decide +kernel)) rfl, dt_tin (List.mem_of_getElem? (i := 1445) (by decide +kernel)) rfl, dt_tin (List.mem_of_getElem? (i := 68) (by decide +kernel)) rfl, dt_tin (List.mem_of_getElem? (i := 93) (by decide +kernel)) rfl, by decide⟩
theorem mf_X10_unit : dt_mf yX10_unit cX10_unit 2 (some .boolean) 0 := ⟨dt_tin (List.mem_of_getElem? (i := 1450) (by decide +kernel)) rfl, dt_tin (List.mem_of_getElem? (i := 1449) (by decide +kernel)) rfl, dt_tin (List.mem_of_getElem? (i := 69) (by decide +kernel)) rfl, dt_tin (List.mem_of_getElem? (i := 93) (by decide +kernel)) rfl, by decide⟩
theorem mf_X10_any : dt_mf yX10_any cX10_any 1 (some .boolean) 0 := ⟨dt_tin (List.mem_of_getElem? (i := 1418) (by decide +kernel)) rfl, dt_tin (List.mem_of_getElem? (i := 1417) (by decide +kernel)) rfl, dt_tin (List.mem_of_getElem? (i := 61) (by decide +kernel)) rfl, dt_tin (List.mem_of_getElem? (i := 93) (by decide +kernel)) rfl, by decide⟩
theorem mf_X10_every : dt_mf yX10_every cX10_every 1 (some .boolean) 0 := ⟨dt_tin (List.mem_of_getElem? (i := 1422) (by decide +kernel)) rfl, dt_tin (List.mem_of_getElem? (i := 1421) (by decide +kernel)) rfl, dt_tin (List.mem_of_getElem? (i := 62) (by decide +kernel)) rfl, dt_tin (List.mem_of_getElem? (i := 93) (by decide +kernel)) rfl, by decide⟩
theorem mf_X10_oneTest : dt_mf yX10_oneTest cX10_oneTest 2 (some .boolean) 0 := ⟨dt_tin (List.mem_of_getElem? (i := 1426) (by decide +kernel)) rfl, dt_tin (List.mem_of_getElem? (i := 1425) (by decide +kernel)) rfl, dt_tin (List.mem_of_getElem? (i := 63) (by decide +kernel)) rfl, dt_tin (List.mem_of_getElem? (i := 93) (by decide +kernel)) rfl, by decide⟩
theorem mf_X10_aLine : dt_mf yX10_aLine cX10_aLine 1 (some .boolean) 0 := ⟨dt_tin (List.mem_of_getElem? (i := 1410) (by decide +kernel)) rfl, dt_tin (List.mem_of_getElem? (i := 1409) (by decide +kernel)) rfl, dt_tin (List.mem_of_getElem? (i := 59) (by decide +kernel)) rfl, dt_tin (List.mem_of_getElem? (i := 93) (by decide +kernel)) rfl, by decide⟩
theorem mf_X10_text : dt_mf yX10_text cX10_text 3 (some .int) 0 := ⟨dt_tin (List.mem_of_getElem? (i := 1366) (by decide +kernel)) rfl, dt_tin (List.mem_of_getElem? (i := 1364) (by decide +kernel)) rfl, dt_tin (List.mem_of_getElem? (i := 1365) (by decide +kernel)) rfl, dt_tin (List.mem_of_getElem? (i := 93) (by decide +kernel)) rfl, by decide⟩
theorem mf_X10_fault : dt_mf yX10_fault cX10_fault 2 (some .int) 1 := ⟨dt_tin (List.mem_of_getElem? (i := 1454) (by decide +kernel)) rfl, dt_tin (List.mem_of_getElem? (i := 1452) (by decide +kernel)) rfl, dt_tin (List.mem_of_getElem? (i := 1453) (by decide +kernel)) rfl, dt_tin (List.mem_of_getElem? (i := 93) (by decide +kernel)) rfl, by decide⟩
theorem ms_X10_both : dt_ms yX10_both cX10_both 3 (some .int) 3 := ⟨dt_tin (List.mem_of_getElem? (i := 1477) (by decide +kernel)) rfl, dt_tin (List.mem_of_getElem? (i := 1476) (by decide +kernel)) rfl, dt_tin (List.mem_of_getElem? (i := 93) (by decide +kernel)) rfl, by decide⟩
theorem mf_X10_comesTo : dt_mf yX10_comesTo cX10_comesTo 7 (some .int) 2 := ⟨dt_tin (List.mem_of_getElem? (i := 1474) (by decide +kernel)) rfl, dt_tin (List.mem_of_getElem? (i := 1473) (by decide +kernel)) rfl, dt_tin (List.mem_of_getElem? (i := 73) (by decide +kernel)) rfl, dt_tin (List.mem_of_getElem? (i := 93) (by decide +kernel)) rfl, by decide⟩
theorem mf_X10_inTower : dt_mf yX10_inTower cX10_inTower 3 (some .int) 0 := ⟨dt_tin (List.mem_of_getElem? (i := 1470) (by decide +kernel)) rfl, dt_tin (List.mem_of_getElem? (i := 1469) (by decide +kernel)) rfl, dt_tin (List.mem_of_getElem? (i := 72) (by decide +kernel)) rfl, dt_tin (List.mem_of_getElem? (i := 93) (by decide +kernel)) rfl, by decide⟩
theorem mf_X10_topOne : dt_mf yX10_topOne cX10_topOne 3 (some .int) 0 := ⟨dt_tin (List.mem_of_getElem? (i := 1466) (by decide +kernel)) rfl, dt_tin (List.mem_of_getElem? (i := 1465) (by decide +kernel)) rfl, dt_tin (List.mem_of_getElem? (i := 71) (by decide +kernel)) rfl, dt_tin (List.mem_of_getElem? (i := 93) (by decide +kernel)) rfl, by decide⟩
theorem mf_X10_judges : dt_mf yX10_judges cX10_judges 4 (some .int) 1 := ⟨dt_tin (List.mem_of_getElem? (i := 1462) (by decide +kernel)) rfl, dt_tin (List.mem_of_getElem? (i := 1461) (by decide +kernel)) rfl, dt_tin (List.mem_of_getElem? (i := 70) (by decide +kernel)) rfl, dt_tin (List.mem_of_getElem? (i := 93) (by decide +kernel)) rfl, by decide⟩
theorem mf_X10_noon : dt_mf yX10_noon cX10_noon 1 (some .int) 0 := ⟨dt_tin (List.mem_of_getElem? (i := 1458) (by decide +kernel)) rfl, dt_tin (List.mem_of_getElem? (i := 1456) (by decide +kernel)) rfl, dt_tin (List.mem_of_getElem? (i := 1457) (by decide +kernel)) rfl, dt_tin (List.mem_of_getElem? (i := 93) (by decide +kernel)) rfl, by decide⟩
theorem mf_X10_dusk : dt_mf yX10_dusk cX10_dusk 4 (some .int) 0 := ⟨dt_tin (List.mem_of_getElem? (i := 1481) (by decide +kernel)) rfl, dt_tin (List.mem_of_getElem? (i := 1479) (by decide +kernel)) rfl, dt_tin (List.mem_of_getElem? (i := 1480) (by decide +kernel)) rfl, dt_tin (List.mem_of_getElem? (i := 93) (by decide +kernel)) rfl, by decide⟩
theorem mf_X10_goesOn : dt_mf yX10_goesOn cX10_goesOn 9 none 4 := ⟨dt_tin (List.mem_of_getElem? (i := 1493) (by decide +kernel)) rfl, dt_tin (List.mem_of_getElem? (i := 1492) (by decide +kernel)) rfl, dt_tin (List.mem_of_getElem? (i := 75) (by decide +kernel)) rfl, dt_tin (List.mem_of_getElem? (i := 93) (by decide +kernel)) rfl, by decide⟩
theorem mf_X10_plans : dt_mf yX10_plans cX10_plans 4 (some .int) 1 := ⟨dt_tin (List.mem_of_getElem? (i := 1489) (by decide +kernel)) rfl, dt_tin (List.mem_of_getElem? (i := 1488) (by decide +kernel)) rfl, dt_tin (List.mem_of_getElem? (i := 74) (by decide +kernel)) rfl, dt_tin (List.mem_of_getElem? (i := 93) (by decide +kernel)) rfl, by decide⟩
theorem mf_X10_plan : dt_mf yX10_plan cX10_plan 4 (some .int) 2 := ⟨dt_tin (List.mem_of_getElem? (i := 1485) (by decide +kernel)) rfl, dt_tin (List.mem_of_getElem? (i := 1483) (by decide +kernel)) rfl, dt_tin (List.mem_of_getElem? (i := 1484) (by decide +kernel)) rfl, dt_tin (List.mem_of_getElem? (i := 93) (by decide +kernel)) rfl, by decide⟩
theorem mf_X10_down : dt_mf yX10_down cX10_down 4 (some .int) 1 := ⟨dt_tin (List.mem_of_getElem? (i := 1497) (by decide +kernel)) rfl, dt_tin (List.mem_of_getElem? (i := 1495) (by decide +kernel)) rfl, dt_tin (List.mem_of_getElem? (i := 1496) (by decide +kernel)) rfl, dt_tin (List.mem_of_getElem? (i := 93) (by decide +kernel)) rfl, by decide⟩
theorem mf_X10_isTower : dt_mf yX10_isTower cX10_isTower 4 (some .boolean) 0 := ⟨dt_tin (List.mem_of_getElem? (i := 1509) (by decide +kernel)) rfl, dt_tin (List.mem_of_getElem? (i := 1508) (by decide +kernel)) rfl, dt_tin (List.mem_of_getElem? (i := 77) (by decide +kernel)) rfl, dt_tin (List.mem_of_getElem? (i := 93) (by decide +kernel)) rfl, by decide⟩
theorem mf_X10_triesTowers : dt_mf yX10_triesTowers cX10_triesTowers 5 none 2 := ⟨dt_tin (List.mem_of_getElem? (i := 1505) (by decide +kernel)) rfl, dt_tin (List.mem_of_getElem? (i := 1504) (by decide +kernel)) rfl, dt_tin (List.mem_of_getElem? (i := 76) (by decide +kernel)) rfl, dt_tin (List.mem_of_getElem? (i := 93) (by decide +kernel)) rfl, by decide⟩
theorem mf_X10_which : dt_mf yX10_which cX10_which 5 (some .int) 2 := ⟨dt_tin (List.mem_of_getElem? (i := 1501) (by decide +kernel)) rfl, dt_tin (List.mem_of_getElem? (i := 1499) (by decide +kernel)) rfl, dt_tin (List.mem_of_getElem? (i := 1500) (by decide +kernel)) rfl, dt_tin (List.mem_of_getElem? (i := 93) (by decide +kernel)) rfl, by decide⟩
theorem mf_X10_wind : dt_mf yX10_wind cX10_wind 4 (some .boolean) 3 := ⟨dt_tin (List.mem_of_getElem? (i := 1513) (by decide +kernel)) rfl, dt_tin (List.mem_of_getElem? (i := 1511) (by decide +kernel)) rfl, dt_tin (List.mem_of_getElem? (i := 1512) (by decide +kernel)) rfl, dt_tin (List.mem_of_getElem? (i := 93) (by decide +kernel)) rfl, by decide⟩
theorem mf_X10_pay : dt_mf yX10_pay cX10_pay 3 (some .boolean) 2 := ⟨dt_tin (List.mem_of_getElem? (i := 1517) (by decide +kernel)) rfl, dt_tin (List.mem_of_getElem? (i := 1515) (by decide +kernel)) rfl, dt_tin (List.mem_of_getElem? (i := 1516) (by decide +kernel)) rfl, dt_tin (List.mem_of_getElem? (i := 93) (by decide +kernel)) rfl, by decide⟩
theorem ms_X10_tens : dt_ms yX10_tens cX10_tens 4 (some .long) 1 := ⟨dt_tin (List.mem_of_getElem? (i := 1529) (by decide +kernel)) rfl, dt_tin (List.mem_of_getElem? (i := 1528) (by decide +kernel)) rfl, dt_tin (List.mem_of_getElem? (i := 93) (by decide +kernel)) rfl, by decide⟩
theorem mf_X10_falls : dt_mf yX10_falls cX10_falls 3 (some .int) 2 := ⟨dt_tin (List.mem_of_getElem? (i := 1538) (by decide +kernel)) rfl, dt_tin (List.mem_of_getElem? (i := 1537) (by decide +kernel)) rfl, dt_tin (List.mem_of_getElem? (i := 80) (by decide +kernel)) rfl, dt_tin (List.mem_of_getElem? (i := 93) (by decide +kernel)) rfl, by decide⟩
theorem mf_X10_goesOnFrom : dt_mf yX10_goesOnFrom cX10_goesOnFrom 5 (some .long) 3 := ⟨dt_tin (List.mem_of_getElem? (i := 1534) (by decide +kernel)) rfl, dt_tin (List.mem_of_getElem? (i := 1533) (by decide +kernel)) rfl, dt_tin (List.mem_of_getElem? (i := 79) (by decide +kernel)) rfl, dt_tin (List.mem_of_getElem? (i := 93) (by decide +kernel)) rfl, by decide⟩
theorem mf_X10_worthFrom : dt_mf yX10_worthFrom cX10_worthFrom 8 (some .long) 3 := ⟨dt_tin (List.mem_of_getElem? (i := 1526) (by decide +kernel)) rfl, dt_tin (List.mem_of_getElem? (i := 1525) (by decide +kernel)) rfl, dt_tin (List.mem_of_getElem? (i := 78) (by decide +kernel)) rfl, dt_tin (List.mem_of_getElem? (i := 93) (by decide +kernel)) rfl, by decide⟩
theorem mf_X10_worth : dt_mf yX10_worth cX10_worth 5 (some .long) 4 := ⟨dt_tin (List.mem_of_getElem? (i := 1521) (by decide +kernel)) rfl, dt_tin (List.mem_of_getElem? (i := 1519) (by decide +kernel)) rfl, dt_tin (List.mem_of_getElem? (i := 1520) (by decide +kernel)) rfl, dt_tin (List.mem_of_getElem? (i := 93) (by decide +kernel)) rfl, by decide⟩
theorem mf_X10_bet : dt_mf yX10_bet cX10_bet 6 (some .long) 2 := ⟨dt_tin (List.mem_of_getElem? (i := 1542) (by decide +kernel)) rfl, dt_tin (List.mem_of_getElem? (i := 1540) (by decide +kernel)) rfl, dt_tin (List.mem_of_getElem? (i := 1541) (by decide +kernel)) rfl, dt_tin (List.mem_of_getElem? (i := 93) (by decide +kernel)) rfl, by decide⟩
theorem mf_X10_image : dt_mf yX10_image cX10_image 3 (some .boolean) 1 := ⟨dt_tin (List.mem_of_getElem? (i := 1546) (by decide +kernel)) rfl, dt_tin (List.mem_of_getElem? (i := 1544) (by decide +kernel)) rfl, dt_tin (List.mem_of_getElem? (i := 1545) (by decide +kernel)) rfl, dt_tin (List.mem_of_getElem? (i := 93) (by decide +kernel)) rfl, by decide⟩
theorem mf_X10_look : dt_mf yX10_look cX10_look 2 (some .int) 1 := ⟨dt_tin (List.mem_of_getElem? (i := 1550) (by decide +kernel)) rfl, dt_tin (List.mem_of_getElem? (i := 1548) (by decide +kernel)) rfl, dt_tin (List.mem_of_getElem? (i := 1549) (by decide +kernel)) rfl, dt_tin (List.mem_of_getElem? (i := 93) (by decide +kernel)) rfl, by decide⟩
theorem ms_J6_bitCount_0f7a4 : dt_ms yJ6_bitCount_0f7a4 cJ6_bitCount_0f7a4 1 (some .int) 1 := ⟨dt_tin (List.mem_of_getElem? (i := 624) (by decide +kernel)) rfl, dt_tin (List.mem_of_getElem? (i := 623) (by decide +kernel)) rfl, dt_tin (List.mem_of_getElem? (i := 95) (by decide +kernel)) rfl, by decide⟩
theorem mf_J0_length_8abf5 : dt_mf yJ0_length_8abf5 cJ0_length_8abf5 1 (some .int) 0 := ⟨dt_tin (List.mem_of_getElem? (i := 757) (by decide +kernel)) rfl, dt_tin (List.mem_of_getElem? (i := 755) (by decide +kernel)) rfl, dt_tin (List.mem_of_getElem? (i := 756) (by decide +kernel)) rfl, dt_tin (List.mem_of_getElem? (i := 96) (by decide +kernel)) rfl, by decide⟩
theorem mf_J0_charAt_5068e : dt_mf yJ0_charAt_5068e cJ0_charAt_5068e 2 (some .char) 1 := ⟨dt_tin (List.mem_of_getElem? (i := 767) (by decide +kernel)) rfl, dt_tin (List.mem_of_getElem? (i := 765) (by decide +kernel)) rfl, dt_tin (List.mem_of_getElem? (i := 766) (by decide +kernel)) rfl, dt_tin (List.mem_of_getElem? (i := 96) (by decide +kernel)) rfl, by decide⟩
theorem mf_J0_indexOf_0f7a4 : dt_mf yJ0_indexOf_0f7a4 cJ0_indexOf_0f7a4 2 (some .int) 1 := ⟨dt_tin (List.mem_of_getElem? (i := 812) (by decide +kernel)) rfl, dt_tin (List.mem_of_getElem? (i := 810) (by decide +kernel)) rfl, dt_tin (List.mem_of_getElem? (i := 811) (by decide +kernel)) rfl, dt_tin (List.mem_of_getElem? (i := 96) (by decide +kernel)) rfl, by decide⟩
theorem mf_J0_indexOf_7cf53 : dt_mf yJ0_indexOf_7cf53 cJ0_indexOf_7cf53 3 (some .int) 2 := ⟨dt_tin (List.mem_of_getElem? (i := 816) (by decide +kernel)) rfl, dt_tin (List.mem_of_getElem? (i := 814) (by decide +kernel)) rfl, dt_tin (List.mem_of_getElem? (i := 815) (by decide +kernel)) rfl, dt_tin (List.mem_of_getElem? (i := 96) (by decide +kernel)) rfl, by decide⟩
theorem mf_J0_coder_7d493 : dt_mf yJ0_coder_7d493 cJ0_coder_7d493 1 (some .byte) 0 := ⟨dt_tin (List.mem_of_getElem? (i := 761) (by decide +kernel)) rfl, dt_tin (List.mem_of_getElem? (i := 759) (by decide +kernel)) rfl, dt_tin (List.mem_of_getElem? (i := 760) (by decide +kernel)) rfl, dt_tin (List.mem_of_getElem? (i := 96) (by decide +kernel)) rfl, by decide⟩
theorem mf_J0_isLatin1_aae02 : dt_mf yJ0_isLatin1_aae02 cJ0_isLatin1_aae02 1 (some .boolean) 0 := ⟨dt_tin (List.mem_of_getElem? (i := 771) (by decide +kernel)) rfl, dt_tin (List.mem_of_getElem? (i := 769) (by decide +kernel)) rfl, dt_tin (List.mem_of_getElem? (i := 770) (by decide +kernel)) rfl, dt_tin (List.mem_of_getElem? (i := 96) (by decide +kernel)) rfl, by decide⟩
theorem ms_J0_checkIndex_df160 : dt_ms yJ0_checkIndex_df160 cJ0_checkIndex_df160 2 none 2 := ⟨dt_tin (List.mem_of_getElem? (i := 777) (by decide +kernel)) rfl, dt_tin (List.mem_of_getElem? (i := 776) (by decide +kernel)) rfl, dt_tin (List.mem_of_getElem? (i := 96) (by decide +kernel)) rfl, by decide⟩
theorem ms_J0_checkBoundsBeginEnd_23922 : dt_ms yJ0_checkBoundsBeginEnd_23922 cJ0_checkBoundsBeginEnd_23922 3 none 3 := ⟨dt_tin (List.mem_of_getElem? (i := 843) (by decide +kernel)) rfl, dt_tin (List.mem_of_getElem? (i := 842) (by decide +kernel)) rfl, dt_tin (List.mem_of_getElem? (i := 96) (by decide +kernel)) rfl, by decide⟩
theorem ms_J1_charAt_3b067 : dt_ms yJ1_charAt_3b067 cJ1_charAt_3b067 2 (some .char) 2 := ⟨dt_tin (List.mem_of_getElem? (i := 774) (by decide +kernel)) rfl, dt_tin (List.mem_of_getElem? (i := 773) (by decide +kernel)) rfl, dt_tin (List.mem_of_getElem? (i := 97) (by decide +kernel)) rfl, by decide⟩
theorem ms_J1_canEncode_9a6ad : dt_ms yJ1_canEncode_9a6ad cJ1_canEncode_9a6ad 1 (some .boolean) 1 := ⟨dt_tin (List.mem_of_getElem? (i := 823) (by decide +kernel)) rfl, dt_tin (List.mem_of_getElem? (i := 822) (by decide +kernel)) rfl, dt_tin (List.mem_of_getElem? (i := 97) (by decide +kernel)) rfl, by decide⟩
theorem ms_J1_indexOf_4cfef : dt_ms yJ1_indexOf_4cfef cJ1_indexOf_4cfef 4 (some .int) 4 := ⟨dt_tin (List.mem_of_getElem? (i := 820) (by decide +kernel)) rfl, dt_tin (List.mem_of_getElem? (i := 819) (by decide +kernel)) rfl, dt_tin (List.mem_of_getElem? (i := 97) (by decide +kernel)) rfl, by decide⟩
theorem ms_J1_indexOfChar_4cfef : dt_ms yJ1_indexOfChar_4cfef cJ1_indexOfChar_4cfef 6 (some .int) 4 := ⟨dt_tin (List.mem_of_getElem? (i := 828) (by decide +kernel)) rfl, dt_tin (List.mem_of_getElem? (i := 827) (by decide +kernel)) rfl, dt_tin (List.mem_of_getElem? (i := 97) (by decide +kernel)) rfl, by decide⟩
theorem ms_J7_fill_53178 : dt_ms yJ7_fill_53178 cJ7_fill_53178 4 none 2 := ⟨dt_tin (List.mem_of_getElem? (i := 410) (by decide +kernel)) rfl, dt_tin (List.mem_of_getElem? (i := 409) (by decide +kernel)) rfl, dt_tin (List.mem_of_getElem? (i := 92) (by decide +kernel)) rfl, by decide⟩
theorem ms_J3_checkIndex_8e157 : dt_ms yJ3_checkIndex_8e157 cJ3_checkIndex_8e157 3 (some .int) 3 := ⟨dt_tin (List.mem_of_getElem? (i := 782) (by decide +kernel)) rfl, dt_tin (List.mem_of_getElem? (i := 781) (by decide +kernel)) rfl, dt_tin (List.mem_of_getElem? (i := 98) (by decide +kernel)) rfl, by decide⟩
theorem ms_J3_checkFromToIndex_8c36e : dt_ms yJ3_checkFromToIndex_8c36e cJ3_checkFromToIndex_8c36e 4 (some .int) 4 := ⟨dt_tin (List.mem_of_getElem? (i := 846) (by decide +kernel)) rfl, dt_tin (List.mem_of_getElem? (i := 845) (by decide +kernel)) rfl, dt_tin (List.mem_of_getElem? (i := 98) (by decide +kernel)) rfl, by decide⟩

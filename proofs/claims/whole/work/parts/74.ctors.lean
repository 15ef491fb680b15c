theorem lm_RX0_3 : Cond.methodLink RX0 3 Lib.objectInit ∈ gt_tbl := gt_of (tb_1 (List.mem_of_getElem? (i := 40) (by decide +kernel))) rfl
theorem oi_in : Cond.instanceMethod Lib.objectInit ∈ gt_tbl := gt_of (tb_1 (List.mem_of_getElem? (i := 21) (by decide +kernel))) rfl
theorem oi_co : Cond.code Lib.objectInit ⟨#[0xb1]⟩ 1 none ∈ gt_tbl := gt_of (tb_1 (List.mem_of_getElem? (i := 22) (by decide +kernel))) rfl
theorem ac_cI : Cond.arrayClass .int ∈ gt_tbl := gt_of (tb_1 (List.mem_of_getElem? (i := 62) (by decide +kernel))) rfl
theorem lm_RX6_1 : Cond.methodLink RX6 1 Lib.objectInit ∈ gt_tbl := gt_of (tb_1 (List.mem_of_getElem? (i := 117) (by decide +kernel))) rfl
theorem ac_cJ : Cond.arrayClass .long ∈ gt_tbl := gt_of (tb_1 (List.mem_of_getElem? (i := 84) (by decide +kernel))) rfl
theorem lm_RX2_3 : Cond.methodLink RX2 3 Lib.objectInit ∈ gt_tbl := gt_of (tb_1 (List.mem_of_getElem? (i := 96) (by decide +kernel))) rfl
theorem lm_RX3_3 : Cond.methodLink RX3 3 Lib.objectInit ∈ gt_tbl := gt_of (tb_2 (List.mem_of_getElem? (i := 0) (by decide +kernel))) rfl
theorem lm_RX4_3 : Cond.methodLink RX4 3 Lib.objectInit ∈ gt_tbl := gt_of (tb_1 (List.mem_of_getElem? (i := 111) (by decide +kernel))) rfl
theorem lc_RX4_9 : Cond.classLink RX4 9 RX6 ∈ gt_tbl := gt_of (tb_1 (List.mem_of_getElem? (i := 112) (by decide +kernel))) rfl
theorem in_WL : Cond.instantiable RX6 3 ∈ gt_tbl := gt_of (tb_1 (List.mem_of_getElem? (i := 113) (by decide +kernel))) rfl
theorem ii_WL : Cond.initialized RX6 ∈ gt_tbl := gt_of (tb_1 (List.mem_of_getElem? (i := 9) (by decide +kernel))) rfl
theorem lm_RX4_11 : Cond.methodLink RX4 11 yX6_init ∈ gt_tbl := gt_of (tb_1 (List.mem_of_getElem? (i := 114) (by decide +kernel))) rfl
theorem mi_WL_init : MI yX6_init cX6_init 2 1 := ⟨gt_of (tb_1 (List.mem_of_getElem? (i := 116) (by decide +kernel))) rfl, gt_of (tb_1 (List.mem_of_getElem? (i := 9) (by decide +kernel))) rfl, gt_of (tb_1 (List.mem_of_getElem? (i := 115) (by decide +kernel))) rfl, rfl, by decide +kernel, by decide +kernel, by decide +kernel⟩
theorem lm_RX5_3 : Cond.methodLink RX5 3 Lib.objectInit ∈ gt_tbl := gt_of (tb_1 (List.mem_of_getElem? (i := 34) (by decide +kernel))) rfl
theorem lc_RX5_9 : Cond.classLink RX5 9 RX0 ∈ gt_tbl := gt_of (tb_1 (List.mem_of_getElem? (i := 35) (by decide +kernel))) rfl
theorem in_Au : Cond.instantiable RX0 4 ∈ gt_tbl := gt_of (tb_1 (List.mem_of_getElem? (i := 36) (by decide +kernel))) rfl
theorem ii_Au : Cond.initialized RX0 ∈ gt_tbl := gt_of (tb_1 (List.mem_of_getElem? (i := 4) (by decide +kernel))) rfl
theorem lm_RX5_11 : Cond.methodLink RX5 11 yX0_init ∈ gt_tbl := gt_of (tb_1 (List.mem_of_getElem? (i := 37) (by decide +kernel))) rfl
theorem mi_Au_init : MI yX0_init cX0_init 2 1 := ⟨gt_of (tb_1 (List.mem_of_getElem? (i := 39) (by decide +kernel))) rfl, gt_of (tb_1 (List.mem_of_getElem? (i := 4) (by decide +kernel))) rfl, gt_of (tb_1 (List.mem_of_getElem? (i := 38) (by decide +kernel))) rfl, rfl, by decide +kernel, by decide +kernel, by decide +kernel⟩
theorem lm_RX5_20 : Cond.methodLink RX5 20 yX0_shape ∈ gt_tbl := gt_of (tb_1 (List.mem_of_getElem? (i := 63) (by decide +kernel))) rfl
theorem lm_RX1_3 : Cond.methodLink RX1 3 Lib.objectInit ∈ gt_tbl := gt_of (tb_1 (List.mem_of_getElem? (i := 90) (by decide +kernel))) rfl
theorem lc_RX1_9 : Cond.classLink RX1 9 RX2 ∈ gt_tbl := gt_of (tb_1 (List.mem_of_getElem? (i := 91) (by decide +kernel))) rfl
theorem in_Qu : Cond.instantiable RX2 2 ∈ gt_tbl := gt_of (tb_1 (List.mem_of_getElem? (i := 92) (by decide +kernel))) rfl
theorem ii_Qu : Cond.initialized RX2 ∈ gt_tbl := gt_of (tb_1 (List.mem_of_getElem? (i := 7) (by decide +kernel))) rfl
theorem mi_Qu_init : MI yX2_init cX2_init 1 0 := ⟨gt_of (tb_1 (List.mem_of_getElem? (i := 95) (by decide +kernel))) rfl, gt_of (tb_1 (List.mem_of_getElem? (i := 7) (by decide +kernel))) rfl, gt_of (tb_1 (List.mem_of_getElem? (i := 94) (by decide +kernel))) rfl, rfl, by decide +kernel, by decide +kernel, by decide +kernel⟩
theorem lc_RX1_18 : Cond.classLink RX1 18 RX4 ∈ gt_tbl := gt_of (tb_1 (List.mem_of_getElem? (i := 106) (by decide +kernel))) rfl
theorem in_Ta : Cond.instantiable RX4 5 ∈ gt_tbl := gt_of (tb_1 (List.mem_of_getElem? (i := 107) (by decide +kernel))) rfl
theorem ii_Ta : Cond.initialized RX4 ∈ gt_tbl := gt_of (tb_1 (List.mem_of_getElem? (i := 8) (by decide +kernel))) rfl
theorem mi_Ta_init : MI yX4_init cX4_init 1 0 := ⟨gt_of (tb_1 (List.mem_of_getElem? (i := 110) (by decide +kernel))) rfl, gt_of (tb_1 (List.mem_of_getElem? (i := 8) (by decide +kernel))) rfl, gt_of (tb_1 (List.mem_of_getElem? (i := 109) (by decide +kernel))) rfl, rfl, by decide +kernel, by decide +kernel, by decide +kernel⟩
theorem lc_RX1_25 : Cond.classLink RX1 25 RX0 ∈ gt_tbl := gt_of (tb_1 (List.mem_of_getElem? (i := 158) (by decide +kernel))) rfl
theorem lm_RX1_27 : Cond.methodLink RX1 27 yX0_init ∈ gt_tbl := gt_of (tb_1 (List.mem_of_getElem? (i := 159) (by decide +kernel))) rfl
theorem lm_RX8_1 : Cond.methodLink RX8 1 Lib.objectInit ∈ gt_tbl := gt_of (tb_1 (List.mem_of_getElem? (i := 28) (by decide +kernel))) rfl
theorem lc_RX8_7 : Cond.classLink RX8 7 RX5 ∈ gt_tbl := gt_of (tb_1 (List.mem_of_getElem? (i := 29) (by decide +kernel))) rfl
theorem in_Te : Cond.instantiable RX5 3 ∈ gt_tbl := gt_of (tb_1 (List.mem_of_getElem? (i := 30) (by decide +kernel))) rfl
theorem ii_Te : Cond.initialized RX5 ∈ gt_tbl := gt_of (tb_1 (List.mem_of_getElem? (i := 3) (by decide +kernel))) rfl
theorem lm_RX8_9 : Cond.methodLink RX8 9 yX5_init ∈ gt_tbl := gt_of (tb_1 (List.mem_of_getElem? (i := 31) (by decide +kernel))) rfl
theorem mi_Te_init : MI yX5_init cX5_init 1 0 := ⟨gt_of (tb_1 (List.mem_of_getElem? (i := 33) (by decide +kernel))) rfl, gt_of (tb_1 (List.mem_of_getElem? (i := 3) (by decide +kernel))) rfl, gt_of (tb_1 (List.mem_of_getElem? (i := 32) (by decide +kernel))) rfl, rfl, by decide +kernel, by decide +kernel, by decide +kernel⟩
theorem lc_RX8_16 : Cond.classLink RX8 16 RX1 ∈ gt_tbl := gt_of (tb_1 (List.mem_of_getElem? (i := 85) (by decide +kernel))) rfl
theorem in_Le : Cond.instantiable RX1 10 ∈ gt_tbl := gt_of (tb_1 (List.mem_of_getElem? (i := 86) (by decide +kernel))) rfl
theorem ii_Le : Cond.initialized RX1 ∈ gt_tbl := gt_of (tb_1 (List.mem_of_getElem? (i := 6) (by decide +kernel))) rfl
theorem mi_Le_init : MI yX1_init cX1_init 1 0 := ⟨gt_of (tb_1 (List.mem_of_getElem? (i := 89) (by decide +kernel))) rfl, gt_of (tb_1 (List.mem_of_getElem? (i := 6) (by decide +kernel))) rfl, gt_of (tb_1 (List.mem_of_getElem? (i := 88) (by decide +kernel))) rfl, rfl, by decide +kernel, by decide +kernel, by decide +kernel⟩
theorem lm_RX9_1 : Cond.methodLink RX9 1 Lib.objectInit ∈ gt_tbl := gt_of (tb_1 (List.mem_of_getElem? (i := 20) (by decide +kernel))) rfl
theorem lc_RX9_7 : Cond.classLink RX9 7 RX8 ∈ gt_tbl := gt_of (tb_1 (List.mem_of_getElem? (i := 23) (by decide +kernel))) rfl
theorem in_Wo : Cond.instantiable RX8 2 ∈ gt_tbl := gt_of (tb_1 (List.mem_of_getElem? (i := 24) (by decide +kernel))) rfl
theorem ii_Wo : Cond.initialized RX8 ∈ gt_tbl := gt_of (tb_1 (List.mem_of_getElem? (i := 2) (by decide +kernel))) rfl
theorem lm_RX9_9 : Cond.methodLink RX9 9 yX8_init ∈ gt_tbl := gt_of (tb_1 (List.mem_of_getElem? (i := 25) (by decide +kernel))) rfl
theorem mi_Wo_init : MI yX8_init cX8_init 1 0 := ⟨gt_of (tb_1 (List.mem_of_getElem? (i := 27) (by decide +kernel))) rfl, gt_of (tb_1 (List.mem_of_getElem? (i := 2) (by decide +kernel))) rfl, gt_of (tb_1 (List.mem_of_getElem? (i := 26) (by decide +kernel))) rfl, rfl, by decide +kernel, by decide +kernel, by decide +kernel⟩
theorem lf_RX9_16 : Cond.fieldLink RX9 16 (TX9 1).1 (TX9 1).2.1 (TX9 1).2.2.1 ∈ gt_tbl := gt_of (tb_2 (List.mem_of_getElem? (i := 25) (by decide +kernel))) rfl
theorem lc_RX9_28 : Cond.classLink RX9 28 RX3 ∈ gt_tbl := gt_of (tb_1 (List.mem_of_getElem? (i := 235) (by decide +kernel))) rfl
theorem in_Se : Cond.instantiable RX3 7 ∈ gt_tbl := gt_of (tb_1 (List.mem_of_getElem? (i := 236) (by decide +kernel))) rfl
theorem ii_Se : Cond.initialized RX3 ∈ gt_tbl := gt_of (tb_1 (List.mem_of_getElem? (i := 12) (by decide +kernel))) rfl
theorem mi_Se_init : MI yX3_init cX3_init 1 0 := ⟨gt_of (tb_1 (List.mem_of_getElem? (i := 239) (by decide +kernel))) rfl, gt_of (tb_1 (List.mem_of_getElem? (i := 12) (by decide +kernel))) rfl, gt_of (tb_1 (List.mem_of_getElem? (i := 238) (by decide +kernel))) rfl, rfl, by decide +kernel, by decide +kernel, by decide +kernel⟩
theorem lm_RX10_1 : Cond.methodLink RX10 1 Lib.objectInit ∈ gt_tbl := gt_of (tb_3 (List.mem_of_getElem? (i := 195) (by decide +kernel))) rfl
theorem ac_cZ : Cond.arrayClass .boolean ∈ gt_tbl := gt_of (tb_4 (List.mem_of_getElem? (i := 21) (by decide +kernel))) rfl
theorem dX0_init_0 : decode cX0_init 0 = .ok (.aload_n 0, 1) := by decide +kernel
theorem dX0_init_1 : decode cX0_init 1 = .ok (.invokespecial 3, 3) := by decide +kernel
theorem dX0_init_4 : decode cX0_init 4 = .ok (.aload_n 0, 1) := by decide +kernel
theorem dX0_init_5 : decode cX0_init 5 = .ok (.iload_n 1, 1) := by decide +kernel
theorem dX0_init_6 : decode cX0_init 6 = .ok (.iconst 3, 1) := by decide +kernel
theorem dX0_init_7 : decode cX0_init 7 = .ok (.imul, 1) := by decide +kernel
theorem dX0_init_8 : decode cX0_init 8 = .ok (.newarray .int, 2) := by decide +kernel
theorem dX0_init_10 : decode cX0_init 10 = .ok (.putfield 9, 3) := by decide +kernel
theorem dX0_init_13 : decode cX0_init 13 = .ok (.aload_n 0, 1) := by decide +kernel
theorem dX0_init_14 : decode cX0_init 14 = .ok (.iload_n 1, 1) := by decide +kernel
theorem dX0_init_15 : decode cX0_init 15 = .ok (.newarray .int, 2) := by decide +kernel
theorem dX0_init_17 : decode cX0_init 17 = .ok (.putfield 15, 3) := by decide +kernel
theorem dX0_init_20 : decode cX0_init 20 = .ok (.aload_n 0, 1) := by decide +kernel
theorem dX0_init_21 : decode cX0_init 21 = .ok (.iconst 0, 1) := by decide +kernel
theorem dX0_init_22 : decode cX0_init 22 = .ok (.putfield 18, 3) := by decide +kernel
theorem dX0_init_25 : decode cX0_init 25 = .ok (.aload_n 0, 1) := by decide +kernel
theorem dX0_init_26 : decode cX0_init 26 = .ok (.iconst 0, 1) := by decide +kernel
theorem dX0_init_27 : decode cX0_init 27 = .ok (.putfield 22, 3) := by decide +kernel
theorem dX0_init_30 : decode cX0_init 30 = .ok (.return_, 1) := by decide +kernel
theorem dX6_init_0 : decode cX6_init 0 = .ok (.aload_n 0, 1) := by decide +kernel
theorem dX6_init_1 : decode cX6_init 1 = .ok (.invokespecial 1, 3) := by decide +kernel
theorem dX6_init_4 : decode cX6_init 4 = .ok (.aload_n 0, 1) := by decide +kernel
theorem dX6_init_5 : decode cX6_init 5 = .ok (.iload_n 1, 1) := by decide +kernel
theorem dX6_init_6 : decode cX6_init 6 = .ok (.newarray .long, 2) := by decide +kernel
theorem dX6_init_8 : decode cX6_init 8 = .ok (.putfield 7, 3) := by decide +kernel
theorem dX6_init_11 : decode cX6_init 11 = .ok (.aload_n 0, 1) := by decide +kernel
theorem dX6_init_12 : decode cX6_init 12 = .ok (.iconst 0, 1) := by decide +kernel
theorem dX6_init_13 : decode cX6_init 13 = .ok (.putfield 13, 3) := by decide +kernel
theorem dX6_init_16 : decode cX6_init 16 = .ok (.aload_n 0, 1) := by decide +kernel
theorem dX6_init_17 : decode cX6_init 17 = .ok (.iconst 0, 1) := by decide +kernel
theorem dX6_init_18 : decode cX6_init 18 = .ok (.putfield 17, 3) := by decide +kernel
theorem dX6_init_21 : decode cX6_init 21 = .ok (.return_, 1) := by decide +kernel
theorem dX2_init_0 : decode cX2_init 0 = .ok (.aload_n 0, 1) := by decide +kernel
theorem dX2_init_1 : decode cX2_init 1 = .ok (.invokespecial 3, 3) := by decide +kernel
theorem dX2_init_4 : decode cX2_init 4 = .ok (.aload_n 0, 1) := by decide +kernel
theorem dX2_init_5 : decode cX2_init 5 = .ok (.sipush 300, 3) := by decide +kernel
theorem dX2_init_8 : decode cX2_init 8 = .ok (.newarray .long, 2) := by decide +kernel
theorem dX2_init_10 : decode cX2_init 10 = .ok (.putfield 9, 3) := by decide +kernel
theorem dX2_init_13 : decode cX2_init 13 = .ok (.aload_n 0, 1) := by decide +kernel
theorem dX2_init_14 : decode cX2_init 14 = .ok (.iconst 0, 1) := by decide +kernel
theorem dX2_init_15 : decode cX2_init 15 = .ok (.putfield 15, 3) := by decide +kernel
theorem dX2_init_18 : decode cX2_init 18 = .ok (.return_, 1) := by decide +kernel
theorem dX3_init_0 : decode cX3_init 0 = .ok (.aload_n 0, 1) := by decide +kernel
theorem dX3_init_1 : decode cX3_init 1 = .ok (.invokespecial 3, 3) := by decide +kernel
theorem dX3_init_4 : decode cX3_init 4 = .ok (.aload_n 0, 1) := by decide +kernel
theorem dX3_init_5 : decode cX3_init 5 = .ok (.sipush 320, 3) := by decide +kernel
theorem dX3_init_8 : decode cX3_init 8 = .ok (.newarray .int, 2) := by decide +kernel
theorem dX3_init_10 : decode cX3_init 10 = .ok (.putfield 11, 3) := by decide +kernel
theorem dX3_init_13 : decode cX3_init 13 = .ok (.aload_n 0, 1) := by decide +kernel
theorem dX3_init_14 : decode cX3_init 14 = .ok (.sipush 320, 3) := by decide +kernel
theorem dX3_init_17 : decode cX3_init 17 = .ok (.newarray .int, 2) := by decide +kernel
theorem dX3_init_19 : decode cX3_init 19 = .ok (.putfield 15, 3) := by decide +kernel
theorem dX3_init_22 : decode cX3_init 22 = .ok (.aload_n 0, 1) := by decide +kernel
theorem dX3_init_23 : decode cX3_init 23 = .ok (.sipush 320, 3) := by decide +kernel
theorem dX3_init_26 : decode cX3_init 26 = .ok (.newarray .int, 2) := by decide +kernel
theorem dX3_init_28 : decode cX3_init 28 = .ok (.putfield 18, 3) := by decide +kernel
theorem dX3_init_31 : decode cX3_init 31 = .ok (.aload_n 0, 1) := by decide +kernel
theorem dX3_init_32 : decode cX3_init 32 = .ok (.sipush 320, 3) := by decide +kernel
theorem dX3_init_35 : decode cX3_init 35 = .ok (.newarray .int, 2) := by decide +kernel
theorem dX3_init_37 : decode cX3_init 37 = .ok (.putfield 21, 3) := by decide +kernel
theorem dX3_init_40 : decode cX3_init 40 = .ok (.aload_n 0, 1) := by decide +kernel
theorem dX3_init_41 : decode cX3_init 41 = .ok (.sipush 320, 3) := by decide +kernel
theorem dX3_init_44 : decode cX3_init 44 = .ok (.newarray .int, 2) := by decide +kernel
theorem dX3_init_46 : decode cX3_init 46 = .ok (.putfield 24, 3) := by decide +kernel
theorem dX3_init_49 : decode cX3_init 49 = .ok (.aload_n 0, 1) := by decide +kernel
theorem dX3_init_50 : decode cX3_init 50 = .ok (.iconst (-1), 1) := by decide +kernel
theorem dX3_init_51 : decode cX3_init 51 = .ok (.putfield 27, 3) := by decide +kernel
theorem dX3_init_54 : decode cX3_init 54 = .ok (.aload_n 0, 1) := by decide +kernel
theorem dX3_init_55 : decode cX3_init 55 = .ok (.iconst 0, 1) := by decide +kernel
theorem dX3_init_56 : decode cX3_init 56 = .ok (.putfield 31, 3) := by decide +kernel
theorem dX3_init_59 : decode cX3_init 59 = .ok (.return_, 1) := by decide +kernel
theorem dX4_init_0 : decode cX4_init 0 = .ok (.aload_n 0, 1) := by decide +kernel
theorem dX4_init_1 : decode cX4_init 1 = .ok (.invokespecial 3, 3) := by decide +kernel
theorem dX4_init_4 : decode cX4_init 4 = .ok (.aload_n 0, 1) := by decide +kernel
theorem dX4_init_5 : decode cX4_init 5 = .ok (.new 9, 3) := by decide +kernel
theorem dX4_init_8 : decode cX4_init 8 = .ok (.dup, 1) := by decide +kernel
theorem dX4_init_9 : decode cX4_init 9 = .ok (.bipush 40, 2) := by decide +kernel
theorem dX4_init_11 : decode cX4_init 11 = .ok (.invokespecial 11, 3) := by decide +kernel
theorem dX4_init_14 : decode cX4_init 14 = .ok (.putfield 14, 3) := by decide +kernel
theorem dX4_init_17 : decode cX4_init 17 = .ok (.aload_n 0, 1) := by decide +kernel
theorem dX4_init_18 : decode cX4_init 18 = .ok (.new 9, 3) := by decide +kernel
theorem dX4_init_21 : decode cX4_init 21 = .ok (.dup, 1) := by decide +kernel
theorem dX4_init_22 : decode cX4_init 22 = .ok (.bipush 16, 2) := by decide +kernel
theorem dX4_init_24 : decode cX4_init 24 = .ok (.invokespecial 11, 3) := by decide +kernel
theorem dX4_init_27 : decode cX4_init 27 = .ok (.putfield 20, 3) := by decide +kernel
theorem dX4_init_30 : decode cX4_init 30 = .ok (.aload_n 0, 1) := by decide +kernel
theorem dX4_init_31 : decode cX4_init 31 = .ok (.sipush 160, 3) := by decide +kernel
theorem dX4_init_34 : decode cX4_init 34 = .ok (.newarray .int, 2) := by decide +kernel
theorem dX4_init_36 : decode cX4_init 36 = .ok (.putfield 23, 3) := by decide +kernel
theorem dX4_init_39 : decode cX4_init 39 = .ok (.aload_n 0, 1) := by decide +kernel
theorem dX4_init_40 : decode cX4_init 40 = .ok (.sipush 160, 3) := by decide +kernel
theorem dX4_init_43 : decode cX4_init 43 = .ok (.newarray .int, 2) := by decide +kernel
theorem dX4_init_45 : decode cX4_init 45 = .ok (.putfield 27, 3) := by decide +kernel
theorem dX4_init_48 : decode cX4_init 48 = .ok (.aload_n 0, 1) := by decide +kernel
theorem dX4_init_49 : decode cX4_init 49 = .ok (.iconst 0, 1) := by decide +kernel
theorem dX4_init_50 : decode cX4_init 50 = .ok (.putfield 30, 3) := by decide +kernel
theorem dX4_init_53 : decode cX4_init 53 = .ok (.return_, 1) := by decide +kernel
theorem dX5_init_0 : decode cX5_init 0 = .ok (.aload_n 0, 1) := by decide +kernel
theorem dX5_init_1 : decode cX5_init 1 = .ok (.invokespecial 3, 3) := by decide +kernel
theorem dX5_init_4 : decode cX5_init 4 = .ok (.aload_n 0, 1) := by decide +kernel
theorem dX5_init_5 : decode cX5_init 5 = .ok (.new 9, 3) := by decide +kernel
theorem dX5_init_8 : decode cX5_init 8 = .ok (.dup, 1) := by decide +kernel
theorem dX5_init_9 : decode cX5_init 9 = .ok (.bipush 8, 2) := by decide +kernel
theorem dX5_init_11 : decode cX5_init 11 = .ok (.invokespecial 11, 3) := by decide +kernel
theorem dX5_init_14 : decode cX5_init 14 = .ok (.putfield 14, 3) := by decide +kernel
theorem dX5_init_17 : decode cX5_init 17 = .ok (.aload_n 0, 1) := by decide +kernel
theorem dX5_init_18 : decode cX5_init 18 = .ok (.getfield 14, 3) := by decide +kernel
theorem dX5_init_21 : decode cX5_init 21 = .ok (.iconst 1, 1) := by decide +kernel
theorem dX5_init_22 : decode cX5_init 22 = .ok (.iconst 2, 1) := by decide +kernel
theorem dX5_init_23 : decode cX5_init 23 = .ok (.invokevirtual 20, 3) := by decide +kernel
theorem dX5_init_26 : decode cX5_init 26 = .ok (.aload_n 0, 1) := by decide +kernel
theorem dX5_init_27 : decode cX5_init 27 = .ok (.iconst 4, 1) := by decide +kernel
theorem dX5_init_28 : decode cX5_init 28 = .ok (.newarray .long, 2) := by decide +kernel
theorem dX5_init_30 : decode cX5_init 30 = .ok (.putfield 24, 3) := by decide +kernel
theorem dX5_init_33 : decode cX5_init 33 = .ok (.aload_n 0, 1) := by decide +kernel
theorem dX5_init_34 : decode cX5_init 34 = .ok (.iconst 0, 1) := by decide +kernel
theorem dX5_init_35 : decode cX5_init 35 = .ok (.putfield 28, 3) := by decide +kernel
theorem dX5_init_38 : decode cX5_init 38 = .ok (.return_, 1) := by decide +kernel
theorem dX1_init_0 : decode cX1_init 0 = .ok (.aload_n 0, 1) := by decide +kernel
theorem dX1_init_1 : decode cX1_init 1 = .ok (.invokespecial 3, 3) := by decide +kernel
theorem dX1_init_4 : decode cX1_init 4 = .ok (.aload_n 0, 1) := by decide +kernel
theorem dX1_init_5 : decode cX1_init 5 = .ok (.new 9, 3) := by decide +kernel
theorem dX1_init_8 : decode cX1_init 8 = .ok (.dup, 1) := by decide +kernel
theorem dX1_init_9 : decode cX1_init 9 = .ok (.invokespecial 11, 3) := by decide +kernel
theorem dX1_init_12 : decode cX1_init 12 = .ok (.putfield 12, 3) := by decide +kernel
theorem dX1_init_15 : decode cX1_init 15 = .ok (.aload_n 0, 1) := by decide +kernel
theorem dX1_init_16 : decode cX1_init 16 = .ok (.new 18, 3) := by decide +kernel
theorem dX1_init_19 : decode cX1_init 19 = .ok (.dup, 1) := by decide +kernel
theorem dX1_init_20 : decode cX1_init 20 = .ok (.invokespecial 20, 3) := by decide +kernel
theorem dX1_init_23 : decode cX1_init 23 = .ok (.putfield 21, 3) := by decide +kernel
theorem dX1_init_26 : decode cX1_init 26 = .ok (.aload_n 0, 1) := by decide +kernel
theorem dX1_init_27 : decode cX1_init 27 = .ok (.new 25, 3) := by decide +kernel
theorem dX1_init_30 : decode cX1_init 30 = .ok (.dup, 1) := by decide +kernel
theorem dX1_init_31 : decode cX1_init 31 = .ok (.bipush 40, 2) := by decide +kernel
theorem dX1_init_33 : decode cX1_init 33 = .ok (.invokespecial 27, 3) := by decide +kernel
theorem dX1_init_36 : decode cX1_init 36 = .ok (.putfield 30, 3) := by decide +kernel
theorem dX1_init_39 : decode cX1_init 39 = .ok (.aload_n 0, 1) := by decide +kernel
theorem dX1_init_40 : decode cX1_init 40 = .ok (.bipush 40, 2) := by decide +kernel
theorem dX1_init_42 : decode cX1_init 42 = .ok (.newarray .int, 2) := by decide +kernel
theorem dX1_init_44 : decode cX1_init 44 = .ok (.putfield 34, 3) := by decide +kernel
theorem dX1_init_47 : decode cX1_init 47 = .ok (.aload_n 0, 1) := by decide +kernel
theorem dX1_init_48 : decode cX1_init 48 = .ok (.iconst 0, 1) := by decide +kernel
theorem dX1_init_49 : decode cX1_init 49 = .ok (.putfield 38, 3) := by decide +kernel
theorem dX1_init_52 : decode cX1_init 52 = .ok (.aload_n 0, 1) := by decide +kernel
theorem dX1_init_53 : decode cX1_init 53 = .ok (.sipush 200, 3) := by decide +kernel
theorem dX1_init_56 : decode cX1_init 56 = .ok (.putfield 42, 3) := by decide +kernel
theorem dX1_init_59 : decode cX1_init 59 = .ok (.aload_n 0, 1) := by decide +kernel
theorem dX1_init_60 : decode cX1_init 60 = .ok (.iconst 0, 1) := by decide +kernel
theorem dX1_init_61 : decode cX1_init 61 = .ok (.putfield 45, 3) := by decide +kernel
theorem dX1_init_64 : decode cX1_init 64 = .ok (.aload_n 0, 1) := by decide +kernel
theorem dX1_init_65 : decode cX1_init 65 = .ok (.ldc2_w 49, 3) := by decide +kernel
theorem dX1_init_68 : decode cX1_init 68 = .ok (.putfield 51, 3) := by decide +kernel
theorem dX1_init_71 : decode cX1_init 71 = .ok (.aload_n 0, 1) := by decide +kernel
theorem dX1_init_72 : decode cX1_init 72 = .ok (.iconst 0, 1) := by decide +kernel
theorem dX1_init_73 : decode cX1_init 73 = .ok (.putfield 55, 3) := by decide +kernel
theorem dX1_init_76 : decode cX1_init 76 = .ok (.aload_n 0, 1) := by decide +kernel
theorem dX1_init_77 : decode cX1_init 77 = .ok (.iconst 0, 1) := by decide +kernel
theorem dX1_init_78 : decode cX1_init 78 = .ok (.putfield 58, 3) := by decide +kernel
theorem dX1_init_81 : decode cX1_init 81 = .ok (.return_, 1) := by decide +kernel
theorem dX8_init_0 : decode cX8_init 0 = .ok (.aload_n 0, 1) := by decide +kernel
theorem dX8_init_1 : decode cX8_init 1 = .ok (.invokespecial 1, 3) := by decide +kernel
theorem dX8_init_4 : decode cX8_init 4 = .ok (.aload_n 0, 1) := by decide +kernel
theorem dX8_init_5 : decode cX8_init 5 = .ok (.new 7, 3) := by decide +kernel
theorem dX8_init_8 : decode cX8_init 8 = .ok (.dup, 1) := by decide +kernel
theorem dX8_init_9 : decode cX8_init 9 = .ok (.invokespecial 9, 3) := by decide +kernel
theorem dX8_init_12 : decode cX8_init 12 = .ok (.putfield 10, 3) := by decide +kernel
theorem dX8_init_15 : decode cX8_init 15 = .ok (.aload_n 0, 1) := by decide +kernel
theorem dX8_init_16 : decode cX8_init 16 = .ok (.new 16, 3) := by decide +kernel
theorem dX8_init_19 : decode cX8_init 19 = .ok (.dup, 1) := by decide +kernel
theorem dX8_init_20 : decode cX8_init 20 = .ok (.invokespecial 18, 3) := by decide +kernel
theorem dX8_init_23 : decode cX8_init 23 = .ok (.putfield 19, 3) := by decide +kernel
theorem dX8_init_26 : decode cX8_init 26 = .ok (.aload_n 0, 1) := by decide +kernel
theorem dX8_init_27 : decode cX8_init 27 = .ok (.getfield 19, 3) := by decide +kernel
theorem dX8_init_30 : decode cX8_init 30 = .ok (.aload_n 0, 1) := by decide +kernel
theorem dX8_init_31 : decode cX8_init 31 = .ok (.getfield 10, 3) := by decide +kernel
theorem dX8_init_34 : decode cX8_init 34 = .ok (.getfield 23, 3) := by decide +kernel
theorem dX8_init_37 : decode cX8_init 37 = .ok (.getfield 27, 3) := by decide +kernel
theorem dX8_init_40 : decode cX8_init 40 = .ok (.invokevirtual 33, 3) := by decide +kernel
theorem dX8_init_43 : decode cX8_init 43 = .ok (.return_, 1) := by decide +kernel
theorem dX9_init_0 : decode cX9_init 0 = .ok (.aload_n 0, 1) := by decide +kernel
theorem dX9_init_1 : decode cX9_init 1 = .ok (.invokespecial 1, 3) := by decide +kernel
theorem dX9_init_4 : decode cX9_init 4 = .ok (.aload_n 0, 1) := by decide +kernel
theorem dX9_init_5 : decode cX9_init 5 = .ok (.new 7, 3) := by decide +kernel
theorem dX9_init_8 : decode cX9_init 8 = .ok (.dup, 1) := by decide +kernel
theorem dX9_init_9 : decode cX9_init 9 = .ok (.invokespecial 9, 3) := by decide +kernel
theorem dX9_init_12 : decode cX9_init 12 = .ok (.putfield 10, 3) := by decide +kernel
theorem dX9_init_15 : decode cX9_init 15 = .ok (.aload_n 0, 1) := by decide +kernel
theorem dX9_init_16 : decode cX9_init 16 = .ok (.iconst 2, 1) := by decide +kernel
theorem dX9_init_17 : decode cX9_init 17 = .ok (.anewarray 7, 3) := by decide +kernel
theorem dX9_init_20 : decode cX9_init 20 = .ok (.putfield 16, 3) := by decide +kernel
theorem dX9_init_23 : decode cX9_init 23 = .ok (.aload_n 0, 1) := by decide +kernel
theorem dX9_init_24 : decode cX9_init 24 = .ok (.bipush 16, 2) := by decide +kernel
theorem dX9_init_26 : decode cX9_init 26 = .ok (.newarray .int, 2) := by decide +kernel
theorem dX9_init_28 : decode cX9_init 28 = .ok (.putfield 20, 3) := by decide +kernel
theorem dX9_init_31 : decode cX9_init 31 = .ok (.aload_n 0, 1) := by decide +kernel
theorem dX9_init_32 : decode cX9_init 32 = .ok (.iconst 0, 1) := by decide +kernel
theorem dX9_init_33 : decode cX9_init 33 = .ok (.putfield 24, 3) := by decide +kernel
theorem dX9_init_36 : decode cX9_init 36 = .ok (.aload_n 0, 1) := by decide +kernel
theorem dX9_init_37 : decode cX9_init 37 = .ok (.new 28, 3) := by decide +kernel
theorem dX9_init_40 : decode cX9_init 40 = .ok (.dup, 1) := by decide +kernel
theorem dX9_init_41 : decode cX9_init 41 = .ok (.invokespecial 30, 3) := by decide +kernel
theorem dX9_init_44 : decode cX9_init 44 = .ok (.putfield 31, 3) := by decide +kernel
theorem dX9_init_47 : decode cX9_init 47 = .ok (.return_, 1) := by decide +kernel
theorem dX10_init_0 : decode cX10_init 0 = .ok (.aload_n 0, 1) := by decide +kernel
theorem dX10_init_1 : decode cX10_init 1 = .ok (.invokespecial 1, 3) := by decide +kernel
theorem dX10_init_4 : decode cX10_init 4 = .ok (.aload_n 0, 1) := by decide +kernel
theorem dX10_init_5 : decode cX10_init 5 = .ok (.sipush 561, 3) := by decide +kernel
theorem dX10_init_8 : decode cX10_init 8 = .ok (.newarray .int, 2) := by decide +kernel
theorem dX10_init_10 : decode cX10_init 10 = .ok (.putfield 7, 3) := by decide +kernel
theorem dX10_init_13 : decode cX10_init 13 = .ok (.aload_n 0, 1) := by decide +kernel
theorem dX10_init_14 : decode cX10_init 14 = .ok (.sipush 1122, 3) := by decide +kernel
theorem dX10_init_17 : decode cX10_init 17 = .ok (.newarray .int, 2) := by decide +kernel
theorem dX10_init_19 : decode cX10_init 19 = .ok (.putfield 13, 3) := by decide +kernel
theorem dX10_init_22 : decode cX10_init 22 = .ok (.aload_n 0, 1) := by decide +kernel
theorem dX10_init_23 : decode cX10_init 23 = .ok (.sipush 360, 3) := by decide +kernel
theorem dX10_init_26 : decode cX10_init 26 = .ok (.newarray .long, 2) := by decide +kernel
theorem dX10_init_28 : decode cX10_init 28 = .ok (.putfield 16, 3) := by decide +kernel
theorem dX10_init_31 : decode cX10_init 31 = .ok (.aload_n 0, 1) := by decide +kernel
theorem dX10_init_32 : decode cX10_init 32 = .ok (.sipush 720, 3) := by decide +kernel
theorem dX10_init_35 : decode cX10_init 35 = .ok (.newarray .long, 2) := by decide +kernel
theorem dX10_init_37 : decode cX10_init 37 = .ok (.putfield 20, 3) := by decide +kernel
theorem dX10_init_40 : decode cX10_init 40 = .ok (.aload_n 0, 1) := by decide +kernel
theorem dX10_init_41 : decode cX10_init 41 = .ok (.iconst 2, 1) := by decide +kernel
theorem dX10_init_42 : decode cX10_init 42 = .ok (.newarray .boolean, 2) := by decide +kernel
theorem dX10_init_44 : decode cX10_init 44 = .ok (.putfield 23, 3) := by decide +kernel
theorem dX10_init_47 : decode cX10_init 47 = .ok (.aload_n 0, 1) := by decide +kernel
theorem dX10_init_48 : decode cX10_init 48 = .ok (.bipush 16, 2) := by decide +kernel
theorem dX10_init_50 : decode cX10_init 50 = .ok (.newarray .int, 2) := by decide +kernel
theorem dX10_init_52 : decode cX10_init 52 = .ok (.putfield 27, 3) := by decide +kernel
theorem dX10_init_55 : decode cX10_init 55 = .ok (.aload_n 0, 1) := by decide +kernel
theorem dX10_init_56 : decode cX10_init 56 = .ok (.bipush 8, 2) := by decide +kernel
theorem dX10_init_58 : decode cX10_init 58 = .ok (.newarray .int, 2) := by decide +kernel
theorem dX10_init_60 : decode cX10_init 60 = .ok (.putfield 30, 3) := by decide +kernel
theorem dX10_init_63 : decode cX10_init 63 = .ok (.aload_n 0, 1) := by decide +kernel
theorem dX10_init_64 : decode cX10_init 64 = .ok (.sipush 320, 3) := by decide +kernel
theorem dX10_init_67 : decode cX10_init 67 = .ok (.newarray .int, 2) := by decide +kernel
theorem dX10_init_69 : decode cX10_init 69 = .ok (.putfield 33, 3) := by decide +kernel
theorem dX10_init_72 : decode cX10_init 72 = .ok (.aload_n 0, 1) := by decide +kernel
theorem dX10_init_73 : decode cX10_init 73 = .ok (.sipush 320, 3) := by decide +kernel
theorem dX10_init_76 : decode cX10_init 76 = .ok (.newarray .int, 2) := by decide +kernel
theorem dX10_init_78 : decode cX10_init 78 = .ok (.putfield 36, 3) := by decide +kernel
theorem dX10_init_81 : decode cX10_init 81 = .ok (.aload_n 0, 1) := by decide +kernel
theorem dX10_init_82 : decode cX10_init 82 = .ok (.sipush 320, 3) := by decide +kernel
theorem dX10_init_85 : decode cX10_init 85 = .ok (.newarray .int, 2) := by decide +kernel
theorem dX10_init_87 : decode cX10_init 87 = .ok (.putfield 39, 3) := by decide +kernel
theorem dX10_init_90 : decode cX10_init 90 = .ok (.aload_n 0, 1) := by decide +kernel
theorem dX10_init_91 : decode cX10_init 91 = .ok (.sipush 320, 3) := by decide +kernel
theorem dX10_init_94 : decode cX10_init 94 = .ok (.newarray .boolean, 2) := by decide +kernel
theorem dX10_init_96 : decode cX10_init 96 = .ok (.putfield 42, 3) := by decide +kernel
theorem dX10_init_99 : decode cX10_init 99 = .ok (.aload_n 0, 1) := by decide +kernel
theorem dX10_init_100 : decode cX10_init 100 = .ok (.sipush 320, 3) := by decide +kernel
theorem dX10_init_103 : decode cX10_init 103 = .ok (.newarray .int, 2) := by decide +kernel
theorem dX10_init_105 : decode cX10_init 105 = .ok (.putfield 45, 3) := by decide +kernel
theorem dX10_init_108 : decode cX10_init 108 = .ok (.aload_n 0, 1) := by decide +kernel
theorem dX10_init_109 : decode cX10_init 109 = .ok (.sipush 160, 3) := by decide +kernel
theorem dX10_init_112 : decode cX10_init 112 = .ok (.newarray .int, 2) := by decide +kernel
theorem dX10_init_114 : decode cX10_init 114 = .ok (.putfield 48, 3) := by decide +kernel
theorem dX10_init_117 : decode cX10_init 117 = .ok (.aload_n 0, 1) := by decide +kernel
theorem dX10_init_118 : decode cX10_init 118 = .ok (.bipush 17, 2) := by decide +kernel
theorem dX10_init_120 : decode cX10_init 120 = .ok (.newarray .long, 2) := by decide +kernel
theorem dX10_init_122 : decode cX10_init 122 = .ok (.putfield 51, 3) := by decide +kernel
theorem dX10_init_125 : decode cX10_init 125 = .ok (.aload_n 0, 1) := by decide +kernel
theorem dX10_init_126 : decode cX10_init 126 = .ok (.bipush 40, 2) := by decide +kernel
theorem dX10_init_128 : decode cX10_init 128 = .ok (.newarray .int, 2) := by decide +kernel
theorem dX10_init_130 : decode cX10_init 130 = .ok (.putfield 54, 3) := by decide +kernel
theorem dX10_init_133 : decode cX10_init 133 = .ok (.aload_n 0, 1) := by decide +kernel
theorem dX10_init_134 : decode cX10_init 134 = .ok (.getfield 7, 3) := by decide +kernel
theorem dX10_init_137 : decode cX10_init 137 = .ok (.iconst 0, 1) := by decide +kernel
theorem dX10_init_138 : decode cX10_init 138 = .ok (.iconst 1, 1) := by decide +kernel
theorem dX10_init_139 : decode cX10_init 139 = .ok (.iastore, 1) := by decide +kernel
theorem dX10_init_140 : decode cX10_init 140 = .ok (.aload_n 0, 1) := by decide +kernel
theorem dX10_init_141 : decode cX10_init 141 = .ok (.getfield 7, 3) := by decide +kernel
theorem dX10_init_144 : decode cX10_init 144 = .ok (.iconst 1, 1) := by decide +kernel
theorem dX10_init_145 : decode cX10_init 145 = .ok (.iconst 2, 1) := by decide +kernel
theorem dX10_init_146 : decode cX10_init 146 = .ok (.iastore, 1) := by decide +kernel
theorem dX10_init_147 : decode cX10_init 147 = .ok (.aload_n 0, 1) := by decide +kernel
theorem dX10_init_148 : decode cX10_init 148 = .ok (.getfield 7, 3) := by decide +kernel
theorem dX10_init_151 : decode cX10_init 151 = .ok (.bipush 36, 2) := by decide +kernel
theorem dX10_init_153 : decode cX10_init 153 = .ok (.sipush 200, 3) := by decide +kernel
theorem dX10_init_156 : decode cX10_init 156 = .ok (.iastore, 1) := by decide +kernel
theorem dX10_init_157 : decode cX10_init 157 = .ok (.aload_n 0, 1) := by decide +kernel
theorem dX10_init_158 : decode cX10_init 158 = .ok (.invokevirtual 57, 3) := by decide +kernel
theorem dX10_init_161 : decode cX10_init 161 = .ok (.return_, 1) := by decide +kernel
theorem dv_Au : ∀ j, j < 4 → defaultValue (tyX0 j) = vp_V [.null, .null, .int 0, .int 0] j := by decide +kernel
theorem dv_WL : ∀ j, j < 3 → defaultValue (tyX6 j) = vp_V [.null, .int 0, .int 0] j := by decide +kernel
theorem dv_Qu : ∀ j, j < 2 → defaultValue (tyX2 j) = vp_V [.null, .int 0] j := by decide +kernel
theorem dv_Se : ∀ j, j < 7 → defaultValue (tyX3 j) = vp_V [.null, .null, .null, .null, .null, .int 0, .int 0] j := by decide +kernel
theorem dv_Ta : ∀ j, j < 5 → defaultValue (tyX4 j) = vp_V [.null, .null, .null, .null, .int 0] j := by decide +kernel
theorem dv_Te : ∀ j, j < 3 → defaultValue (tyX5 j) = vp_V [.null, .null, .int 0] j := by decide +kernel
theorem dv_Le : ∀ j, j < 10 → defaultValue (tyX1 j) = vp_V [.null, .null, .null, .null, .int 0, .int 0, .int 0, .long 0, .int 0, .int 0] j := by decide +kernel
theorem dv_Wo : ∀ j, j < 2 → defaultValue (tyX8 j) = vp_V [.null, .null] j := by decide +kernel
theorem dv_TL : ∀ j, j < 5 → defaultValue (tyX9 j) = vp_V [.null, .null, .null, .int 0, .null] j := by decide +kernel
theorem dv_Mo : ∀ j, j < 20 → defaultValue (tyX10 j) = vp_V [.null, .null, .null, .null, .null, .null, .int 0, .null, .null, .null, .null, .null, .null, .int 0, .null, .long 0, .null, .int 0, .null, .long 0] j := by decide +kernel
theorem eq_z {N : Nat} : (fun j => if j < N then (0 : Int32) else (fun _ : Nat => (0 : Int32)) j) = fun _ => 0 := funext fun j => by by_cases h : j < N; exact if_pos h; exact if_neg h
theorem eq_fill {N : Nat} (h : N < 2000) : f_Ar_fill N (0 : Int32) (fun _ => 0) = some (fun _ => 0) := by
  rw [s_Ar_fill h, eq_z]
theorem eq_shape8 : f_Au_shape 24 8 (1 : Int32) (2 : Int32) (fun _ => 0) (fun _ => 0) = some ((fun _ => 0), (fun _ => 0), (1 : Int32), (2 : Int32)) := by
  rw [f_Au_shape, s_Ar_fill (by decide), bd1_s, s_Ar_fill (by decide), bd1_s, eq_z, eq_z]
theorem eq_wl {N : Nat} (h0 : 0 < N) (hN : N < 1000) : f_WL_startAnew N (fun _ => 0) = some ((vp_updL (fun _ => 0) 0 (1 : Int64)), (1 : Int32), (0 : Int32)) := by
  have hl : f_Ws_lengthOf (1 : Int64) = some (0 : Int32) := s_Ws_lengthOf (w := []) wok_nil (Nat.zero_le _)
  have hg : ∀ {α : Type} (k : Option α), gIn (0 : Int32) N k = k := fun k => gIn_nI (a := 0) h0 (by omega)
  rw [f_WL_startAnew, f_WL_add, if_neg (show ¬ Int32.ofNat N ≤ (0 : Int32) from nI_ge (a := 0) h0 (by omega)), hg]
  simp only [bnd_eq]
  rw [hl, bd1_s, bd3_s]
  rfl
theorem eq_anew : f_Le_startAnew (2 : Int32) (fun _ => 0) (fun _ => 0) (fun _ => 0) (fun _ => 0) (fun _ => 0) (fun _ => 0) = some ((0 : Int32), (vp_updL (fun _ => 0) 0 (1 : Int64)), (1 : Int32), (0 : Int32), (vp_updL (fun _ => 0) 0 (1 : Int64)), (1 : Int32), (0 : Int32), (fun _ => 0), (fun _ => 0), (2 : Int32), (fun _ => 0), (fun _ => 0), (0 : Int32), (2 : Int32), (0 : Int32), (-1 : Int64), (0 : Int32), (0 : Int32)) := by
  rw [f_Le_startAnew, f_Ta_startAnew, eq_wl (by decide) (by decide), bd3_s, eq_wl (by decide) (by decide), bd3_s, eq_fill (by decide), bd1_s, bd1_s, bd9_s, f_Au_shape, eq_fill (by decide), bd1_s, eq_fill (by decide), bd1_s, bd4_s]
theorem eq_begins : f_Mo_begins (upd (upd (upd (fun _ => 0) 0 (1 : Int32)) 1 (2 : Int32)) 36 (200 : Int32)) (fun _ => 0) = some ((upd (upd (upd (upd (upd (upd (upd (upd (upd (upd (upd (fun _ => 0) 0 (1 : Int32)) 1 (2 : Int32)) 36 (200 : Int32)) 37 (0 : Int32)) 38 (1 : Int32)) 39 (1 : Int32)) 40 (0 : Int32)) 41 (0 : Int32)) 42 (0 : Int32)) 43 (0 : Int32)) 44 (-1 : Int32)), (vp_updL (vp_updL (fun _ => 0) 304 (0 : Int64)) 344 (0 : Int64))) := rfl
abbrev po_Au_init8 (cI cJ cZ cO : ClassId) (q0 : Nat) : va_W → Prop := fun w1 => ∃ (q1 q2 : Nat), w1 = [(q0, .inr (0, [.ref q1, .ref q2, .int 0, .int 0])), (q1, .inl (cI, 24, .inl (fun _ => 0))), (q2, .inl (cI, 8, .inl (fun _ => 0)))]
abbrev rm_Au_init8 : Room := { frames := 1, cells := 2, slots := 32, locals := 20 }
set_option maxRecDepth 100000 in
theorem c_Au_init8 {l : Launch} {D : va_G} {cI cJ cZ cO : ClassId} {q0 : Nat} : ctN l D cI cJ cZ cO yX0_init cX0_init 2 rm_Au_init8 2 32 [.ref q0, .int 8] [(q0, .inr (0, [.null, .null, .int 0, .int 0]))] (po_Au_init8 cI cJ cZ cO q0) := by
  refine ctN_of (by decide) rfl (Nat.le_of_ble_eq_true rfl) ?_
  intro p e s m below meth c Q A ls C0 hz hin hQ w hl
  have hl : lv_has ls 2 [(0, .ref q0), (1, .int 8)] := hl
  generalize List.toArray (α := Value) [.ref q0, .int 8] = args at C0 hQ ⊢
  obtain ⟨hx, hb, hml, hown, hts, -, -⟩ := id C0
  obtain ⟨H, eH⟩ : ∃ z, z = s.heap := ⟨_, rfl⟩
  obtain ⟨locs, eL⟩ : ∃ z : List Loc, z = [] := ⟨_, rfl⟩
  rw [← eH, ← eL] at w ⊢
  refine lv_aload_n hx hb dX0_init_0 rfl (lv_at hl 0 rfl) ?_
  refine r_objInit C0 hl lm_RX0_3 oi_in oi_co ⟨by decide, by decide⟩ (Nat.le_of_ble_eq_true rfl) dX0_init_1 ?_
  refine lv_aload_n hx hb dX0_init_4 rfl (lv_at hl 0 rfl) ?_
  refine lv_iload_n hx hb dX0_init_5 rfl (lv_at hl 1 rfl) ?_
  refine lv_iconst (v := (3 : Int32)) hx hb dX0_init_6 (by decide) ?_
  refine lv_imul hx hb dX0_init_7 ?_
  refine r_eqi (y := (24 : Int32)) (by decide) ?_
  refine r_newI (N := 24) C0 w ac_cI (by decide) (by decide) (Nat.le_of_ble_eq_true rfl) ⟨Nat.le_of_ble_eq_true rfl, Nat.le_of_ble_eq_true rfl⟩ dX0_init_8 (fun q1 H w => ?_)
  have w : Wd s A D [(q0, .inr (0, [.null, .null, .int 0, .int 0])), (q1, .inl (cI, 24, .inl (fun _ => 0)))] H _ := w
  refine r_putF C0 hin w 0 rfl kf_Au 0 (by decide) lf_RX0_9 rfl rfl rfl rfl (Nat.le_of_ble_eq_true rfl) dX0_init_10 (ws' := [(q0, .inr (0, [.ref q1, .null, .int 0, .int 0])), (q1, .inl (cI, 24, .inl (fun _ => 0)))]) rfl (fun H locs w => ?_)
  refine lv_aload_n hx hb dX0_init_13 rfl (lv_at hl 0 rfl) ?_
  refine lv_iload_n hx hb dX0_init_14 rfl (lv_at hl 1 rfl) ?_
  refine r_newI (N := 8) C0 w ac_cI (by decide) (by decide) (Nat.le_of_ble_eq_true rfl) ⟨Nat.le_of_ble_eq_true rfl, Nat.le_of_ble_eq_true rfl⟩ dX0_init_15 (fun q2 H w => ?_)
  have w : Wd s A D [(q0, .inr (0, [.ref q1, .null, .int 0, .int 0])), (q1, .inl (cI, 24, .inl (fun _ => 0))), (q2, .inl (cI, 8, .inl (fun _ => 0)))] H _ := w
  refine r_putF C0 hin w 0 rfl kf_Au 1 (by decide) lf_RX0_15 rfl rfl rfl rfl (Nat.le_of_ble_eq_true rfl) dX0_init_17 (ws' := [(q0, .inr (0, [.ref q1, .ref q2, .int 0, .int 0])), (q1, .inl (cI, 24, .inl (fun _ => 0))), (q2, .inl (cI, 8, .inl (fun _ => 0)))]) rfl (fun H locs w => ?_)
  refine lv_aload_n hx hb dX0_init_20 rfl (lv_at hl 0 rfl) ?_
  refine lv_iconst (v := (0 : Int32)) hx hb dX0_init_21 (by decide) ?_
  refine r_put C0 w 0 rfl kf_Au 2 (by decide) lf_RX0_18 rfl rfl rfl (Nat.le_of_ble_eq_true rfl) dX0_init_22 (ws' := [(q0, .inr (0, [.ref q1, .ref q2, .int 0, .int 0])), (q1, .inl (cI, 24, .inl (fun _ => 0))), (q2, .inl (cI, 8, .inl (fun _ => 0)))]) rfl (fun H locs w => ?_)
  refine lv_aload_n hx hb dX0_init_25 rfl (lv_at hl 0 rfl) ?_
  refine lv_iconst (v := (0 : Int32)) hx hb dX0_init_26 (by decide) ?_
  refine r_put C0 w 0 rfl kf_Au 3 (by decide) lf_RX0_22 rfl rfl rfl (Nat.le_of_ble_eq_true rfl) dX0_init_27 (ws' := [(q0, .inr (0, [.ref q1, .ref q2, .int 0, .int 0])), (q1, .inl (cI, 24, .inl (fun _ => 0))), (q2, .inl (cI, 8, .inl (fun _ => 0)))]) rfl (fun H locs w => ?_)
  refine W.widen (k := 2) (n := 32) (Nat.le_of_ble_eq_true rfl) (Nat.le_of_ble_eq_true rfl) ?_
  exact hQ 30 ls H _ _ dX0_init_30 ⟨q1, q2, rfl⟩ w
abbrev po_Au_init40 (cI cJ cZ cO : ClassId) (q0 : Nat) : va_W → Prop := fun w1 => ∃ (q1 q2 : Nat), w1 = [(q0, .inr (0, [.ref q1, .ref q2, .int 0, .int 0])), (q1, .inl (cI, 120, .inl (fun _ => 0))), (q2, .inl (cI, 40, .inl (fun _ => 0)))]
abbrev rm_Au_init40 : Room := { frames := 1, cells := 2, slots := 160, locals := 20 }
set_option maxRecDepth 100000 in
theorem c_Au_init40 {l : Launch} {D : va_G} {cI cJ cZ cO : ClassId} {q0 : Nat} : ctN l D cI cJ cZ cO yX0_init cX0_init 2 rm_Au_init40 2 160 [.ref q0, .int 40] [(q0, .inr (0, [.null, .null, .int 0, .int 0]))] (po_Au_init40 cI cJ cZ cO q0) := by
  refine ctN_of (by decide) rfl (Nat.le_of_ble_eq_true rfl) ?_
  intro p e s m below meth c Q A ls C0 hz hin hQ w hl
  have hl : lv_has ls 2 [(0, .ref q0), (1, .int 40)] := hl
  generalize List.toArray (α := Value) [.ref q0, .int 40] = args at C0 hQ ⊢
  obtain ⟨hx, hb, hml, hown, hts, -, -⟩ := id C0
  obtain ⟨H, eH⟩ : ∃ z, z = s.heap := ⟨_, rfl⟩
  obtain ⟨locs, eL⟩ : ∃ z : List Loc, z = [] := ⟨_, rfl⟩
  rw [← eH, ← eL] at w ⊢
  refine lv_aload_n hx hb dX0_init_0 rfl (lv_at hl 0 rfl) ?_
  refine r_objInit C0 hl lm_RX0_3 oi_in oi_co ⟨by decide, by decide⟩ (Nat.le_of_ble_eq_true rfl) dX0_init_1 ?_
  refine lv_aload_n hx hb dX0_init_4 rfl (lv_at hl 0 rfl) ?_
  refine lv_iload_n hx hb dX0_init_5 rfl (lv_at hl 1 rfl) ?_
  refine lv_iconst (v := (3 : Int32)) hx hb dX0_init_6 (by decide) ?_
  refine lv_imul hx hb dX0_init_7 ?_
  refine r_eqi (y := (120 : Int32)) (by decide) ?_
  refine r_newI (N := 120) C0 w ac_cI (by decide) (by decide) (Nat.le_of_ble_eq_true rfl) ⟨Nat.le_of_ble_eq_true rfl, Nat.le_of_ble_eq_true rfl⟩ dX0_init_8 (fun q1 H w => ?_)
  have w : Wd s A D [(q0, .inr (0, [.null, .null, .int 0, .int 0])), (q1, .inl (cI, 120, .inl (fun _ => 0)))] H _ := w
  refine r_putF C0 hin w 0 rfl kf_Au 0 (by decide) lf_RX0_9 rfl rfl rfl rfl (Nat.le_of_ble_eq_true rfl) dX0_init_10 (ws' := [(q0, .inr (0, [.ref q1, .null, .int 0, .int 0])), (q1, .inl (cI, 120, .inl (fun _ => 0)))]) rfl (fun H locs w => ?_)
  refine lv_aload_n hx hb dX0_init_13 rfl (lv_at hl 0 rfl) ?_
  refine lv_iload_n hx hb dX0_init_14 rfl (lv_at hl 1 rfl) ?_
  refine r_newI (N := 40) C0 w ac_cI (by decide) (by decide) (Nat.le_of_ble_eq_true rfl) ⟨Nat.le_of_ble_eq_true rfl, Nat.le_of_ble_eq_true rfl⟩ dX0_init_15 (fun q2 H w => ?_)
  have w : Wd s A D [(q0, .inr (0, [.ref q1, .null, .int 0, .int 0])), (q1, .inl (cI, 120, .inl (fun _ => 0))), (q2, .inl (cI, 40, .inl (fun _ => 0)))] H _ := w
  refine r_putF C0 hin w 0 rfl kf_Au 1 (by decide) lf_RX0_15 rfl rfl rfl rfl (Nat.le_of_ble_eq_true rfl) dX0_init_17 (ws' := [(q0, .inr (0, [.ref q1, .ref q2, .int 0, .int 0])), (q1, .inl (cI, 120, .inl (fun _ => 0))), (q2, .inl (cI, 40, .inl (fun _ => 0)))]) rfl (fun H locs w => ?_)
  refine lv_aload_n hx hb dX0_init_20 rfl (lv_at hl 0 rfl) ?_
  refine lv_iconst (v := (0 : Int32)) hx hb dX0_init_21 (by decide) ?_
  refine r_put C0 w 0 rfl kf_Au 2 (by decide) lf_RX0_18 rfl rfl rfl (Nat.le_of_ble_eq_true rfl) dX0_init_22 (ws' := [(q0, .inr (0, [.ref q1, .ref q2, .int 0, .int 0])), (q1, .inl (cI, 120, .inl (fun _ => 0))), (q2, .inl (cI, 40, .inl (fun _ => 0)))]) rfl (fun H locs w => ?_)
  refine lv_aload_n hx hb dX0_init_25 rfl (lv_at hl 0 rfl) ?_
  refine lv_iconst (v := (0 : Int32)) hx hb dX0_init_26 (by decide) ?_
  refine r_put C0 w 0 rfl kf_Au 3 (by decide) lf_RX0_22 rfl rfl rfl (Nat.le_of_ble_eq_true rfl) dX0_init_27 (ws' := [(q0, .inr (0, [.ref q1, .ref q2, .int 0, .int 0])), (q1, .inl (cI, 120, .inl (fun _ => 0))), (q2, .inl (cI, 40, .inl (fun _ => 0)))]) rfl (fun H locs w => ?_)
  refine W.widen (k := 2) (n := 160) (Nat.le_of_ble_eq_true rfl) (Nat.le_of_ble_eq_true rfl) ?_
  exact hQ 30 ls H _ _ dX0_init_30 ⟨q1, q2, rfl⟩ w
abbrev po_WL_init40 (cI cJ cZ cO : ClassId) (q0 : Nat) : va_W → Prop := fun w1 => ∃ (q1 : Nat), w1 = [(q0, .inr (6, [.ref q1, .int 0, .int 0])), (q1, .inl (cJ, 40, .inr (.inl (fun _ => 0))))]
abbrev rm_WL_init40 : Room := { frames := 1, cells := 1, slots := 40, locals := 20 }
set_option maxRecDepth 100000 in
theorem c_WL_init40 {l : Launch} {D : va_G} {cI cJ cZ cO : ClassId} {q0 : Nat} : ctN l D cI cJ cZ cO yX6_init cX6_init 2 rm_WL_init40 1 40 [.ref q0, .int 40] [(q0, .inr (6, [.null, .int 0, .int 0]))] (po_WL_init40 cI cJ cZ cO q0) := by
  refine ctN_of (by decide) rfl (Nat.le_of_ble_eq_true rfl) ?_
  intro p e s m below meth c Q A ls C0 hz hin hQ w hl
  have hl : lv_has ls 2 [(0, .ref q0), (1, .int 40)] := hl
  generalize List.toArray (α := Value) [.ref q0, .int 40] = args at C0 hQ ⊢
  obtain ⟨hx, hb, hml, hown, hts, -, -⟩ := id C0
  obtain ⟨H, eH⟩ : ∃ z, z = s.heap := ⟨_, rfl⟩
  obtain ⟨locs, eL⟩ : ∃ z : List Loc, z = [] := ⟨_, rfl⟩
  rw [← eH, ← eL] at w ⊢
  refine lv_aload_n hx hb dX6_init_0 rfl (lv_at hl 0 rfl) ?_
  refine r_objInit C0 hl lm_RX6_1 oi_in oi_co ⟨by decide, by decide⟩ (Nat.le_of_ble_eq_true rfl) dX6_init_1 ?_
  refine lv_aload_n hx hb dX6_init_4 rfl (lv_at hl 0 rfl) ?_
  refine lv_iload_n hx hb dX6_init_5 rfl (lv_at hl 1 rfl) ?_
  refine r_newJ (N := 40) C0 w ac_cJ (by decide) (by decide) (Nat.le_of_ble_eq_true rfl) ⟨Nat.le_of_ble_eq_true rfl, Nat.le_of_ble_eq_true rfl⟩ dX6_init_6 (fun q1 H w => ?_)
  have w : Wd s A D [(q0, .inr (6, [.null, .int 0, .int 0])), (q1, .inl (cJ, 40, .inr (.inl (fun _ => 0))))] H _ := w
  refine r_putF C0 hin w 0 rfl kf_WL 0 (by decide) lf_RX6_7 rfl rfl rfl rfl (Nat.le_of_ble_eq_true rfl) dX6_init_8 (ws' := [(q0, .inr (6, [.ref q1, .int 0, .int 0])), (q1, .inl (cJ, 40, .inr (.inl (fun _ => 0))))]) rfl (fun H locs w => ?_)
  refine lv_aload_n hx hb dX6_init_11 rfl (lv_at hl 0 rfl) ?_
  refine lv_iconst (v := (0 : Int32)) hx hb dX6_init_12 (by decide) ?_
  refine r_put C0 w 0 rfl kf_WL 1 (by decide) lf_RX6_13 rfl rfl rfl (Nat.le_of_ble_eq_true rfl) dX6_init_13 (ws' := [(q0, .inr (6, [.ref q1, .int 0, .int 0])), (q1, .inl (cJ, 40, .inr (.inl (fun _ => 0))))]) rfl (fun H locs w => ?_)
  refine lv_aload_n hx hb dX6_init_16 rfl (lv_at hl 0 rfl) ?_
  refine lv_iconst (v := (0 : Int32)) hx hb dX6_init_17 (by decide) ?_
  refine r_put C0 w 0 rfl kf_WL 2 (by decide) lf_RX6_17 rfl rfl rfl (Nat.le_of_ble_eq_true rfl) dX6_init_18 (ws' := [(q0, .inr (6, [.ref q1, .int 0, .int 0])), (q1, .inl (cJ, 40, .inr (.inl (fun _ => 0))))]) rfl (fun H locs w => ?_)
  refine W.widen (k := 1) (n := 40) (Nat.le_of_ble_eq_true rfl) (Nat.le_of_ble_eq_true rfl) ?_
  exact hQ 21 ls H _ _ dX6_init_21 ⟨q1, rfl⟩ w
abbrev po_WL_init16 (cI cJ cZ cO : ClassId) (q0 : Nat) : va_W → Prop := fun w1 => ∃ (q1 : Nat), w1 = [(q0, .inr (6, [.ref q1, .int 0, .int 0])), (q1, .inl (cJ, 16, .inr (.inl (fun _ => 0))))]
abbrev rm_WL_init16 : Room := { frames := 1, cells := 1, slots := 16, locals := 20 }
set_option maxRecDepth 100000 in
theorem c_WL_init16 {l : Launch} {D : va_G} {cI cJ cZ cO : ClassId} {q0 : Nat} : ctN l D cI cJ cZ cO yX6_init cX6_init 2 rm_WL_init16 1 16 [.ref q0, .int 16] [(q0, .inr (6, [.null, .int 0, .int 0]))] (po_WL_init16 cI cJ cZ cO q0) := by
  refine ctN_of (by decide) rfl (Nat.le_of_ble_eq_true rfl) ?_
  intro p e s m below meth c Q A ls C0 hz hin hQ w hl
  have hl : lv_has ls 2 [(0, .ref q0), (1, .int 16)] := hl
  generalize List.toArray (α := Value) [.ref q0, .int 16] = args at C0 hQ ⊢
  obtain ⟨hx, hb, hml, hown, hts, -, -⟩ := id C0
  obtain ⟨H, eH⟩ : ∃ z, z = s.heap := ⟨_, rfl⟩
  obtain ⟨locs, eL⟩ : ∃ z : List Loc, z = [] := ⟨_, rfl⟩
  rw [← eH, ← eL] at w ⊢
  refine lv_aload_n hx hb dX6_init_0 rfl (lv_at hl 0 rfl) ?_
  refine r_objInit C0 hl lm_RX6_1 oi_in oi_co ⟨by decide, by decide⟩ (Nat.le_of_ble_eq_true rfl) dX6_init_1 ?_
  refine lv_aload_n hx hb dX6_init_4 rfl (lv_at hl 0 rfl) ?_
  refine lv_iload_n hx hb dX6_init_5 rfl (lv_at hl 1 rfl) ?_
  refine r_newJ (N := 16) C0 w ac_cJ (by decide) (by decide) (Nat.le_of_ble_eq_true rfl) ⟨Nat.le_of_ble_eq_true rfl, Nat.le_of_ble_eq_true rfl⟩ dX6_init_6 (fun q1 H w => ?_)
  have w : Wd s A D [(q0, .inr (6, [.null, .int 0, .int 0])), (q1, .inl (cJ, 16, .inr (.inl (fun _ => 0))))] H _ := w
  refine r_putF C0 hin w 0 rfl kf_WL 0 (by decide) lf_RX6_7 rfl rfl rfl rfl (Nat.le_of_ble_eq_true rfl) dX6_init_8 (ws' := [(q0, .inr (6, [.ref q1, .int 0, .int 0])), (q1, .inl (cJ, 16, .inr (.inl (fun _ => 0))))]) rfl (fun H locs w => ?_)
  refine lv_aload_n hx hb dX6_init_11 rfl (lv_at hl 0 rfl) ?_
  refine lv_iconst (v := (0 : Int32)) hx hb dX6_init_12 (by decide) ?_
  refine r_put C0 w 0 rfl kf_WL 1 (by decide) lf_RX6_13 rfl rfl rfl (Nat.le_of_ble_eq_true rfl) dX6_init_13 (ws' := [(q0, .inr (6, [.ref q1, .int 0, .int 0])), (q1, .inl (cJ, 16, .inr (.inl (fun _ => 0))))]) rfl (fun H locs w => ?_)
  refine lv_aload_n hx hb dX6_init_16 rfl (lv_at hl 0 rfl) ?_
  refine lv_iconst (v := (0 : Int32)) hx hb dX6_init_17 (by decide) ?_
  refine r_put C0 w 0 rfl kf_WL 2 (by decide) lf_RX6_17 rfl rfl rfl (Nat.le_of_ble_eq_true rfl) dX6_init_18 (ws' := [(q0, .inr (6, [.ref q1, .int 0, .int 0])), (q1, .inl (cJ, 16, .inr (.inl (fun _ => 0))))]) rfl (fun H locs w => ?_)
  refine W.widen (k := 1) (n := 16) (Nat.le_of_ble_eq_true rfl) (Nat.le_of_ble_eq_true rfl) ?_
  exact hQ 21 ls H _ _ dX6_init_21 ⟨q1, rfl⟩ w
abbrev po_Qu_init (cI cJ cZ cO : ClassId) (q0 : Nat) : va_W → Prop := fun w1 => ∃ (q1 : Nat), w1 = [(q0, .inr (2, [.ref q1, .int 0])), (q1, .inl (cJ, 300, .inr (.inl (fun _ => 0))))]
abbrev rm_Qu_init : Room := { frames := 1, cells := 1, slots := 300, locals := 20 }
set_option maxRecDepth 100000 in
theorem c_Qu_init {l : Launch} {D : va_G} {cI cJ cZ cO : ClassId} {q0 : Nat} : ctN l D cI cJ cZ cO yX2_init cX2_init 1 rm_Qu_init 1 300 [.ref q0] [(q0, .inr (2, [.null, .int 0]))] (po_Qu_init cI cJ cZ cO q0) := by
  refine ctN_of (by decide) rfl (Nat.le_of_ble_eq_true rfl) ?_
  intro p e s m below meth c Q A ls C0 hz hin hQ w hl
  have hl : lv_has ls 1 [(0, .ref q0)] := hl
  generalize List.toArray (α := Value) [.ref q0] = args at C0 hQ ⊢
  obtain ⟨hx, hb, hml, hown, hts, -, -⟩ := id C0
  obtain ⟨H, eH⟩ : ∃ z, z = s.heap := ⟨_, rfl⟩
  obtain ⟨locs, eL⟩ : ∃ z : List Loc, z = [] := ⟨_, rfl⟩
  rw [← eH, ← eL] at w ⊢
  refine lv_aload_n hx hb dX2_init_0 rfl (lv_at hl 0 rfl) ?_
  refine r_objInit C0 hl lm_RX2_3 oi_in oi_co ⟨by decide, by decide⟩ (Nat.le_of_ble_eq_true rfl) dX2_init_1 ?_
  refine lv_aload_n hx hb dX2_init_4 rfl (lv_at hl 0 rfl) ?_
  refine lv_sipush (v := (300 : Int32)) hx hb dX2_init_5 (by decide) ?_
  refine r_newJ (N := 300) C0 w ac_cJ (by decide) (by decide) (Nat.le_of_ble_eq_true rfl) ⟨Nat.le_of_ble_eq_true rfl, Nat.le_of_ble_eq_true rfl⟩ dX2_init_8 (fun q1 H w => ?_)
  have w : Wd s A D [(q0, .inr (2, [.null, .int 0])), (q1, .inl (cJ, 300, .inr (.inl (fun _ => 0))))] H _ := w
  refine r_putF C0 hin w 0 rfl kf_Qu 0 (by decide) lf_RX2_9 rfl rfl rfl rfl (Nat.le_of_ble_eq_true rfl) dX2_init_10 (ws' := [(q0, .inr (2, [.ref q1, .int 0])), (q1, .inl (cJ, 300, .inr (.inl (fun _ => 0))))]) rfl (fun H locs w => ?_)
  refine lv_aload_n hx hb dX2_init_13 rfl (lv_at hl 0 rfl) ?_
  refine lv_iconst (v := (0 : Int32)) hx hb dX2_init_14 (by decide) ?_
  refine r_put C0 w 0 rfl kf_Qu 1 (by decide) lf_RX2_15 rfl rfl rfl (Nat.le_of_ble_eq_true rfl) dX2_init_15 (ws' := [(q0, .inr (2, [.ref q1, .int 0])), (q1, .inl (cJ, 300, .inr (.inl (fun _ => 0))))]) rfl (fun H locs w => ?_)
  refine W.widen (k := 1) (n := 300) (Nat.le_of_ble_eq_true rfl) (Nat.le_of_ble_eq_true rfl) ?_
  exact hQ 18 ls H _ _ dX2_init_18 ⟨q1, rfl⟩ w
abbrev po_Se_init (cI cJ cZ cO : ClassId) (q0 : Nat) : va_W → Prop := fun w1 => ∃ (q1 q2 q3 q4 q5 : Nat), w1 = [(q0, .inr (3, [.ref q1, .ref q2, .ref q3, .ref q4, .ref q5, .int (-1), .int 0])), (q1, .inl (cI, 320, .inl (fun _ => 0))), (q2, .inl (cI, 320, .inl (fun _ => 0))), (q3, .inl (cI, 320, .inl (fun _ => 0))), (q4, .inl (cI, 320, .inl (fun _ => 0))), (q5, .inl (cI, 320, .inl (fun _ => 0)))]
abbrev rm_Se_init : Room := { frames := 1, cells := 5, slots := 1600, locals := 20 }
set_option maxRecDepth 100000 in
theorem c_Se_init {l : Launch} {D : va_G} {cI cJ cZ cO : ClassId} {q0 : Nat} : ctN l D cI cJ cZ cO yX3_init cX3_init 1 rm_Se_init 5 1600 [.ref q0] [(q0, .inr (3, [.null, .null, .null, .null, .null, .int 0, .int 0]))] (po_Se_init cI cJ cZ cO q0) := by
  refine ctN_of (by decide) rfl (Nat.le_of_ble_eq_true rfl) ?_
  intro p e s m below meth c Q A ls C0 hz hin hQ w hl
  have hl : lv_has ls 1 [(0, .ref q0)] := hl
  generalize List.toArray (α := Value) [.ref q0] = args at C0 hQ ⊢
  obtain ⟨hx, hb, hml, hown, hts, -, -⟩ := id C0
  obtain ⟨H, eH⟩ : ∃ z, z = s.heap := ⟨_, rfl⟩
  obtain ⟨locs, eL⟩ : ∃ z : List Loc, z = [] := ⟨_, rfl⟩
  rw [← eH, ← eL] at w ⊢
  refine lv_aload_n hx hb dX3_init_0 rfl (lv_at hl 0 rfl) ?_
  refine r_objInit C0 hl lm_RX3_3 oi_in oi_co ⟨by decide, by decide⟩ (Nat.le_of_ble_eq_true rfl) dX3_init_1 ?_
  refine lv_aload_n hx hb dX3_init_4 rfl (lv_at hl 0 rfl) ?_
  refine lv_sipush (v := (320 : Int32)) hx hb dX3_init_5 (by decide) ?_
  refine r_newI (N := 320) C0 w ac_cI (by decide) (by decide) (Nat.le_of_ble_eq_true rfl) ⟨Nat.le_of_ble_eq_true rfl, Nat.le_of_ble_eq_true rfl⟩ dX3_init_8 (fun q1 H w => ?_)
  have w : Wd s A D [(q0, .inr (3, [.null, .null, .null, .null, .null, .int 0, .int 0])), (q1, .inl (cI, 320, .inl (fun _ => 0)))] H _ := w
  refine r_putF C0 hin w 0 rfl kf_Se 0 (by decide) lf_RX3_11 rfl rfl rfl rfl (Nat.le_of_ble_eq_true rfl) dX3_init_10 (ws' := [(q0, .inr (3, [.ref q1, .null, .null, .null, .null, .int 0, .int 0])), (q1, .inl (cI, 320, .inl (fun _ => 0)))]) rfl (fun H locs w => ?_)
  refine lv_aload_n hx hb dX3_init_13 rfl (lv_at hl 0 rfl) ?_
  refine lv_sipush (v := (320 : Int32)) hx hb dX3_init_14 (by decide) ?_
  refine r_newI (N := 320) C0 w ac_cI (by decide) (by decide) (Nat.le_of_ble_eq_true rfl) ⟨Nat.le_of_ble_eq_true rfl, Nat.le_of_ble_eq_true rfl⟩ dX3_init_17 (fun q2 H w => ?_)
  have w : Wd s A D [(q0, .inr (3, [.ref q1, .null, .null, .null, .null, .int 0, .int 0])), (q1, .inl (cI, 320, .inl (fun _ => 0))), (q2, .inl (cI, 320, .inl (fun _ => 0)))] H _ := w
  refine r_putF C0 hin w 0 rfl kf_Se 1 (by decide) lf_RX3_15 rfl rfl rfl rfl (Nat.le_of_ble_eq_true rfl) dX3_init_19 (ws' := [(q0, .inr (3, [.ref q1, .ref q2, .null, .null, .null, .int 0, .int 0])), (q1, .inl (cI, 320, .inl (fun _ => 0))), (q2, .inl (cI, 320, .inl (fun _ => 0)))]) rfl (fun H locs w => ?_)
  refine lv_aload_n hx hb dX3_init_22 rfl (lv_at hl 0 rfl) ?_
  refine lv_sipush (v := (320 : Int32)) hx hb dX3_init_23 (by decide) ?_
  refine r_newI (N := 320) C0 w ac_cI (by decide) (by decide) (Nat.le_of_ble_eq_true rfl) ⟨Nat.le_of_ble_eq_true rfl, Nat.le_of_ble_eq_true rfl⟩ dX3_init_26 (fun q3 H w => ?_)
  have w : Wd s A D [(q0, .inr (3, [.ref q1, .ref q2, .null, .null, .null, .int 0, .int 0])), (q1, .inl (cI, 320, .inl (fun _ => 0))), (q2, .inl (cI, 320, .inl (fun _ => 0))), (q3, .inl (cI, 320, .inl (fun _ => 0)))] H _ := w
  refine r_putF C0 hin w 0 rfl kf_Se 2 (by decide) lf_RX3_18 rfl rfl rfl rfl (Nat.le_of_ble_eq_true rfl) dX3_init_28 (ws' := [(q0, .inr (3, [.ref q1, .ref q2, .ref q3, .null, .null, .int 0, .int 0])), (q1, .inl (cI, 320, .inl (fun _ => 0))), (q2, .inl (cI, 320, .inl (fun _ => 0))), (q3, .inl (cI, 320, .inl (fun _ => 0)))]) rfl (fun H locs w => ?_)
  refine lv_aload_n hx hb dX3_init_31 rfl (lv_at hl 0 rfl) ?_
  refine lv_sipush (v := (320 : Int32)) hx hb dX3_init_32 (by decide) ?_
  refine r_newI (N := 320) C0 w ac_cI (by decide) (by decide) (Nat.le_of_ble_eq_true rfl) ⟨Nat.le_of_ble_eq_true rfl, Nat.le_of_ble_eq_true rfl⟩ dX3_init_35 (fun q4 H w => ?_)
  have w : Wd s A D [(q0, .inr (3, [.ref q1, .ref q2, .ref q3, .null, .null, .int 0, .int 0])), (q1, .inl (cI, 320, .inl (fun _ => 0))), (q2, .inl (cI, 320, .inl (fun _ => 0))), (q3, .inl (cI, 320, .inl (fun _ => 0))), (q4, .inl (cI, 320, .inl (fun _ => 0)))] H _ := w
  refine r_putF C0 hin w 0 rfl kf_Se 3 (by decide) lf_RX3_21 rfl rfl rfl rfl (Nat.le_of_ble_eq_true rfl) dX3_init_37 (ws' := [(q0, .inr (3, [.ref q1, .ref q2, .ref q3, .ref q4, .null, .int 0, .int 0])), (q1, .inl (cI, 320, .inl (fun _ => 0))), (q2, .inl (cI, 320, .inl (fun _ => 0))), (q3, .inl (cI, 320, .inl (fun _ => 0))), (q4, .inl (cI, 320, .inl (fun _ => 0)))]) rfl (fun H locs w => ?_)
  refine lv_aload_n hx hb dX3_init_40 rfl (lv_at hl 0 rfl) ?_
  refine lv_sipush (v := (320 : Int32)) hx hb dX3_init_41 (by decide) ?_
  refine r_newI (N := 320) C0 w ac_cI (by decide) (by decide) (Nat.le_of_ble_eq_true rfl) ⟨Nat.le_of_ble_eq_true rfl, Nat.le_of_ble_eq_true rfl⟩ dX3_init_44 (fun q5 H w => ?_)
  have w : Wd s A D [(q0, .inr (3, [.ref q1, .ref q2, .ref q3, .ref q4, .null, .int 0, .int 0])), (q1, .inl (cI, 320, .inl (fun _ => 0))), (q2, .inl (cI, 320, .inl (fun _ => 0))), (q3, .inl (cI, 320, .inl (fun _ => 0))), (q4, .inl (cI, 320, .inl (fun _ => 0))), (q5, .inl (cI, 320, .inl (fun _ => 0)))] H _ := w
  refine r_putF C0 hin w 0 rfl kf_Se 4 (by decide) lf_RX3_24 rfl rfl rfl rfl (Nat.le_of_ble_eq_true rfl) dX3_init_46 (ws' := [(q0, .inr (3, [.ref q1, .ref q2, .ref q3, .ref q4, .ref q5, .int 0, .int 0])), (q1, .inl (cI, 320, .inl (fun _ => 0))), (q2, .inl (cI, 320, .inl (fun _ => 0))), (q3, .inl (cI, 320, .inl (fun _ => 0))), (q4, .inl (cI, 320, .inl (fun _ => 0))), (q5, .inl (cI, 320, .inl (fun _ => 0)))]) rfl (fun H locs w => ?_)
  refine lv_aload_n hx hb dX3_init_49 rfl (lv_at hl 0 rfl) ?_
  refine lv_iconst (v := (-1 : Int32)) hx hb dX3_init_50 (by decide) ?_
  refine r_put C0 w 0 rfl kf_Se 5 (by decide) lf_RX3_27 rfl rfl rfl (Nat.le_of_ble_eq_true rfl) dX3_init_51 (ws' := [(q0, .inr (3, [.ref q1, .ref q2, .ref q3, .ref q4, .ref q5, .int (-1), .int 0])), (q1, .inl (cI, 320, .inl (fun _ => 0))), (q2, .inl (cI, 320, .inl (fun _ => 0))), (q3, .inl (cI, 320, .inl (fun _ => 0))), (q4, .inl (cI, 320, .inl (fun _ => 0))), (q5, .inl (cI, 320, .inl (fun _ => 0)))]) rfl (fun H locs w => ?_)
  refine lv_aload_n hx hb dX3_init_54 rfl (lv_at hl 0 rfl) ?_
  refine lv_iconst (v := (0 : Int32)) hx hb dX3_init_55 (by decide) ?_
  refine r_put C0 w 0 rfl kf_Se 6 (by decide) lf_RX3_31 rfl rfl rfl (Nat.le_of_ble_eq_true rfl) dX3_init_56 (ws' := [(q0, .inr (3, [.ref q1, .ref q2, .ref q3, .ref q4, .ref q5, .int (-1), .int 0])), (q1, .inl (cI, 320, .inl (fun _ => 0))), (q2, .inl (cI, 320, .inl (fun _ => 0))), (q3, .inl (cI, 320, .inl (fun _ => 0))), (q4, .inl (cI, 320, .inl (fun _ => 0))), (q5, .inl (cI, 320, .inl (fun _ => 0)))]) rfl (fun H locs w => ?_)
  refine W.widen (k := 5) (n := 1600) (Nat.le_of_ble_eq_true rfl) (Nat.le_of_ble_eq_true rfl) ?_
  exact hQ 59 ls H _ _ dX3_init_59 ⟨q1, q2, q3, q4, q5, rfl⟩ w
abbrev po_Ta_init (cI cJ cZ cO : ClassId) (q0 : Nat) : va_W → Prop := fun w1 => ∃ (q1 q2 q3 q4 q5 q6 : Nat), w1 = [(q0, .inr (4, [.ref q1, .ref q3, .ref q5, .ref q6, .int 0])), (q1, .inr (6, [.ref q2, .int 0, .int 0])), (q2, .inl (cJ, 40, .inr (.inl (fun _ => 0)))), (q3, .inr (6, [.ref q4, .int 0, .int 0])), (q4, .inl (cJ, 16, .inr (.inl (fun _ => 0)))), (q5, .inl (cI, 160, .inl (fun _ => 0))), (q6, .inl (cI, 160, .inl (fun _ => 0)))]
abbrev rm_Ta_init : Room := { frames := 2, cells := 6, slots := 382, locals := 41 }
set_option maxRecDepth 100000 in
theorem c_Ta_init {l : Launch} {D : va_G} {cI cJ cZ cO : ClassId} {q0 : Nat} : ctN l D cI cJ cZ cO yX4_init cX4_init 1 rm_Ta_init 6 382 [.ref q0] [(q0, .inr (4, [.null, .null, .null, .null, .int 0]))] (po_Ta_init cI cJ cZ cO q0) := by
  refine ctN_of (by decide) rfl (Nat.le_of_ble_eq_true rfl) ?_
  intro p e s m below meth c Q A ls C0 hz hin hQ w hl
  have hl : lv_has ls 1 [(0, .ref q0)] := hl
  generalize List.toArray (α := Value) [.ref q0] = args at C0 hQ ⊢
  obtain ⟨hx, hb, hml, hown, hts, -, -⟩ := id C0
  obtain ⟨H, eH⟩ : ∃ z, z = s.heap := ⟨_, rfl⟩
  obtain ⟨locs, eL⟩ : ∃ z : List Loc, z = [] := ⟨_, rfl⟩
  rw [← eH, ← eL] at w ⊢
  refine lv_aload_n hx hb dX4_init_0 rfl (lv_at hl 0 rfl) ?_
  refine r_objInit C0 hl lm_RX4_3 oi_in oi_co ⟨by decide, by decide⟩ (Nat.le_of_ble_eq_true rfl) dX4_init_1 ?_
  refine lv_aload_n hx hb dX4_init_4 rfl (lv_at hl 0 rfl) ?_
  refine r_new (fs := [.null, .int 0, .int 0]) C0 w kf_WL lc_RX4_9 in_WL ii_WL dv_WL ⟨Nat.le_of_ble_eq_true rfl, Nat.le_of_ble_eq_true rfl⟩ dX4_init_5 (fun q1 H w => ?_)
  have w : Wd s A D [(q0, .inr (4, [.null, .null, .null, .null, .int 0])), (q1, .inr (6, [.null, .int 0, .int 0]))] H _ := w
  refine lv_dup hx hb dX4_init_8 rfl ?_
  refine lv_bipush (v := (40 : Int32)) hx hb dX4_init_9 (by decide) ?_
  refine r_N (As := [.int 40]) (rest := [.ref q1, .ref q0]) C0 hz w (c_WL_init40 (q0 := q1)) (sp_of (ws := [(q0, .inr (4, [.null, .null, .null, .null, .int 0])), (q1, .inr (6, [.null, .int 0, .int 0]))]) (wc := [(q1, .inr (6, [.null, .int 0, .int 0]))]) [1] [0] rfl rfl) lm_RX4_11 mi_WL_init ⟨rfl, rfl⟩ ⟨by decide, by decide⟩ ⟨Nat.le_of_ble_eq_true rfl, Nat.le_of_ble_eq_true rfl⟩ rfl hl rfl (Nat.le_of_ble_eq_true rfl) dX4_init_11 (fun ws1 H locs hPo w => ?_)
  obtain ⟨q2, rfl⟩ := hPo
  have w : Wd s A D [(q0, .inr (4, [.null, .null, .null, .null, .int 0])), (q1, .inr (6, [.ref q2, .int 0, .int 0])), (q2, .inl (cJ, 40, .inr (.inl (fun _ => 0))))] H locs := w
  refine r_putF C0 hin w 0 rfl kf_Ta 0 (by decide) lf_RX4_14 rfl rfl rfl rfl (Nat.le_of_ble_eq_true rfl) dX4_init_14 (ws' := [(q0, .inr (4, [.ref q1, .null, .null, .null, .int 0])), (q1, .inr (6, [.ref q2, .int 0, .int 0])), (q2, .inl (cJ, 40, .inr (.inl (fun _ => 0))))]) rfl (fun H locs w => ?_)
  refine lv_aload_n hx hb dX4_init_17 rfl (lv_at hl 0 rfl) ?_
  refine r_new (fs := [.null, .int 0, .int 0]) C0 w kf_WL lc_RX4_9 in_WL ii_WL dv_WL ⟨Nat.le_of_ble_eq_true rfl, Nat.le_of_ble_eq_true rfl⟩ dX4_init_18 (fun q3 H w => ?_)
  have w : Wd s A D [(q0, .inr (4, [.ref q1, .null, .null, .null, .int 0])), (q1, .inr (6, [.ref q2, .int 0, .int 0])), (q2, .inl (cJ, 40, .inr (.inl (fun _ => 0)))), (q3, .inr (6, [.null, .int 0, .int 0]))] H _ := w
  refine lv_dup hx hb dX4_init_21 rfl ?_
  refine lv_bipush (v := (16 : Int32)) hx hb dX4_init_22 (by decide) ?_
  refine r_N (As := [.int 16]) (rest := [.ref q3, .ref q0]) C0 hz w (c_WL_init16 (q0 := q3)) (sp_of (ws := [(q0, .inr (4, [.ref q1, .null, .null, .null, .int 0])), (q1, .inr (6, [.ref q2, .int 0, .int 0])), (q2, .inl (cJ, 40, .inr (.inl (fun _ => 0)))), (q3, .inr (6, [.null, .int 0, .int 0]))]) (wc := [(q3, .inr (6, [.null, .int 0, .int 0]))]) [3] [0, 1, 2] rfl rfl) lm_RX4_11 mi_WL_init ⟨rfl, rfl⟩ ⟨by decide, by decide⟩ ⟨Nat.le_of_ble_eq_true rfl, Nat.le_of_ble_eq_true rfl⟩ rfl hl rfl (Nat.le_of_ble_eq_true rfl) dX4_init_24 (fun ws1 H locs hPo w => ?_)
  obtain ⟨q4, rfl⟩ := hPo
  have w : Wd s A D [(q0, .inr (4, [.ref q1, .null, .null, .null, .int 0])), (q1, .inr (6, [.ref q2, .int 0, .int 0])), (q2, .inl (cJ, 40, .inr (.inl (fun _ => 0)))), (q3, .inr (6, [.ref q4, .int 0, .int 0])), (q4, .inl (cJ, 16, .inr (.inl (fun _ => 0))))] H locs := w
  refine r_putF C0 hin w 0 rfl kf_Ta 1 (by decide) lf_RX4_20 rfl rfl rfl rfl (Nat.le_of_ble_eq_true rfl) dX4_init_27 (ws' := [(q0, .inr (4, [.ref q1, .ref q3, .null, .null, .int 0])), (q1, .inr (6, [.ref q2, .int 0, .int 0])), (q2, .inl (cJ, 40, .inr (.inl (fun _ => 0)))), (q3, .inr (6, [.ref q4, .int 0, .int 0])), (q4, .inl (cJ, 16, .inr (.inl (fun _ => 0))))]) rfl (fun H locs w => ?_)
  refine lv_aload_n hx hb dX4_init_30 rfl (lv_at hl 0 rfl) ?_
  refine lv_sipush (v := (160 : Int32)) hx hb dX4_init_31 (by decide) ?_
  refine r_newI (N := 160) C0 w ac_cI (by decide) (by decide) (Nat.le_of_ble_eq_true rfl) ⟨Nat.le_of_ble_eq_true rfl, Nat.le_of_ble_eq_true rfl⟩ dX4_init_34 (fun q5 H w => ?_)
  have w : Wd s A D [(q0, .inr (4, [.ref q1, .ref q3, .null, .null, .int 0])), (q1, .inr (6, [.ref q2, .int 0, .int 0])), (q2, .inl (cJ, 40, .inr (.inl (fun _ => 0)))), (q3, .inr (6, [.ref q4, .int 0, .int 0])), (q4, .inl (cJ, 16, .inr (.inl (fun _ => 0)))), (q5, .inl (cI, 160, .inl (fun _ => 0)))] H _ := w
  refine r_putF C0 hin w 0 rfl kf_Ta 2 (by decide) lf_RX4_23 rfl rfl rfl rfl (Nat.le_of_ble_eq_true rfl) dX4_init_36 (ws' := [(q0, .inr (4, [.ref q1, .ref q3, .ref q5, .null, .int 0])), (q1, .inr (6, [.ref q2, .int 0, .int 0])), (q2, .inl (cJ, 40, .inr (.inl (fun _ => 0)))), (q3, .inr (6, [.ref q4, .int 0, .int 0])), (q4, .inl (cJ, 16, .inr (.inl (fun _ => 0)))), (q5, .inl (cI, 160, .inl (fun _ => 0)))]) rfl (fun H locs w => ?_)
  refine lv_aload_n hx hb dX4_init_39 rfl (lv_at hl 0 rfl) ?_
  refine lv_sipush (v := (160 : Int32)) hx hb dX4_init_40 (by decide) ?_
  refine r_newI (N := 160) C0 w ac_cI (by decide) (by decide) (Nat.le_of_ble_eq_true rfl) ⟨Nat.le_of_ble_eq_true rfl, Nat.le_of_ble_eq_true rfl⟩ dX4_init_43 (fun q6 H w => ?_)
  have w : Wd s A D [(q0, .inr (4, [.ref q1, .ref q3, .ref q5, .null, .int 0])), (q1, .inr (6, [.ref q2, .int 0, .int 0])), (q2, .inl (cJ, 40, .inr (.inl (fun _ => 0)))), (q3, .inr (6, [.ref q4, .int 0, .int 0])), (q4, .inl (cJ, 16, .inr (.inl (fun _ => 0)))), (q5, .inl (cI, 160, .inl (fun _ => 0))), (q6, .inl (cI, 160, .inl (fun _ => 0)))] H _ := w
  refine r_putF C0 hin w 0 rfl kf_Ta 3 (by decide) lf_RX4_27 rfl rfl rfl rfl (Nat.le_of_ble_eq_true rfl) dX4_init_45 (ws' := [(q0, .inr (4, [.ref q1, .ref q3, .ref q5, .ref q6, .int 0])), (q1, .inr (6, [.ref q2, .int 0, .int 0])), (q2, .inl (cJ, 40, .inr (.inl (fun _ => 0)))), (q3, .inr (6, [.ref q4, .int 0, .int 0])), (q4, .inl (cJ, 16, .inr (.inl (fun _ => 0)))), (q5, .inl (cI, 160, .inl (fun _ => 0))), (q6, .inl (cI, 160, .inl (fun _ => 0)))]) rfl (fun H locs w => ?_)
  refine lv_aload_n hx hb dX4_init_48 rfl (lv_at hl 0 rfl) ?_
  refine lv_iconst (v := (0 : Int32)) hx hb dX4_init_49 (by decide) ?_
  refine r_put C0 w 0 rfl kf_Ta 4 (by decide) lf_RX4_30 rfl rfl rfl (Nat.le_of_ble_eq_true rfl) dX4_init_50 (ws' := [(q0, .inr (4, [.ref q1, .ref q3, .ref q5, .ref q6, .int 0])), (q1, .inr (6, [.ref q2, .int 0, .int 0])), (q2, .inl (cJ, 40, .inr (.inl (fun _ => 0)))), (q3, .inr (6, [.ref q4, .int 0, .int 0])), (q4, .inl (cJ, 16, .inr (.inl (fun _ => 0)))), (q5, .inl (cI, 160, .inl (fun _ => 0))), (q6, .inl (cI, 160, .inl (fun _ => 0)))]) rfl (fun H locs w => ?_)
  refine W.widen (k := 6) (n := 382) (Nat.le_of_ble_eq_true rfl) (Nat.le_of_ble_eq_true rfl) ?_
  exact hQ 53 ls H _ _ dX4_init_53 ⟨q1, q2, q3, q4, q5, q6, rfl⟩ w
abbrev po_Te_init (cI cJ cZ cO : ClassId) (q0 : Nat) : va_W → Prop := fun w1 => ∃ (q1 q2 q3 q4 : Nat), w1 = [(q0, .inr (5, [.ref q1, .ref q4, .int 0])), (q1, .inr (0, [.ref q2, .ref q3, .int (1 : Int32), .int (2 : Int32)])), (q2, .inl (cI, 24, .inl (fun _ => 0))), (q3, .inl (cI, 8, .inl (fun _ => 0))), (q4, .inl (cJ, 4, .inr (.inl (fun _ => 0))))]
abbrev rm_Te_init : Room := { frames := 2, cells := 4, slots := 40, locals := 45 }
set_option maxRecDepth 100000 in
theorem c_Te_init {l : Launch} {D : va_G} {cI cJ cZ cO : ClassId} {q0 : Nat} : ctN l D cI cJ cZ cO yX5_init cX5_init 1 rm_Te_init 4 40 [.ref q0] [(q0, .inr (5, [.null, .null, .int 0]))] (po_Te_init cI cJ cZ cO q0) := by
  refine ctN_of (by decide) rfl (Nat.le_of_ble_eq_true rfl) ?_
  intro p e s m below meth c Q A ls C0 hz hin hQ w hl
  have hl : lv_has ls 1 [(0, .ref q0)] := hl
  generalize List.toArray (α := Value) [.ref q0] = args at C0 hQ ⊢
  obtain ⟨hx, hb, hml, hown, hts, -, -⟩ := id C0
  obtain ⟨H, eH⟩ : ∃ z, z = s.heap := ⟨_, rfl⟩
  obtain ⟨locs, eL⟩ : ∃ z : List Loc, z = [] := ⟨_, rfl⟩
  rw [← eH, ← eL] at w ⊢
  refine lv_aload_n hx hb dX5_init_0 rfl (lv_at hl 0 rfl) ?_
  refine r_objInit C0 hl lm_RX5_3 oi_in oi_co ⟨by decide, by decide⟩ (Nat.le_of_ble_eq_true rfl) dX5_init_1 ?_
  refine lv_aload_n hx hb dX5_init_4 rfl (lv_at hl 0 rfl) ?_
  refine r_new (fs := [.null, .null, .int 0, .int 0]) C0 w kf_Au lc_RX5_9 in_Au ii_Au dv_Au ⟨Nat.le_of_ble_eq_true rfl, Nat.le_of_ble_eq_true rfl⟩ dX5_init_5 (fun q1 H w => ?_)
  have w : Wd s A D [(q0, .inr (5, [.null, .null, .int 0])), (q1, .inr (0, [.null, .null, .int 0, .int 0]))] H _ := w
  refine lv_dup hx hb dX5_init_8 rfl ?_
  refine lv_bipush (v := (8 : Int32)) hx hb dX5_init_9 (by decide) ?_
  refine r_N (As := [.int 8]) (rest := [.ref q1, .ref q0]) C0 hz w (c_Au_init8 (q0 := q1)) (sp_of (ws := [(q0, .inr (5, [.null, .null, .int 0])), (q1, .inr (0, [.null, .null, .int 0, .int 0]))]) (wc := [(q1, .inr (0, [.null, .null, .int 0, .int 0]))]) [1] [0] rfl rfl) lm_RX5_11 mi_Au_init ⟨rfl, rfl⟩ ⟨by decide, by decide⟩ ⟨Nat.le_of_ble_eq_true rfl, Nat.le_of_ble_eq_true rfl⟩ rfl hl rfl (Nat.le_of_ble_eq_true rfl) dX5_init_11 (fun ws1 H locs hPo w => ?_)
  obtain ⟨q2, q3, rfl⟩ := hPo
  have w : Wd s A D [(q0, .inr (5, [.null, .null, .int 0])), (q1, .inr (0, [.ref q2, .ref q3, .int 0, .int 0])), (q2, .inl (cI, 24, .inl (fun _ => 0))), (q3, .inl (cI, 8, .inl (fun _ => 0)))] H locs := w
  refine r_putF C0 hin w 0 rfl kf_Te 0 (by decide) lf_RX5_14 rfl rfl rfl rfl (Nat.le_of_ble_eq_true rfl) dX5_init_14 (ws' := [(q0, .inr (5, [.ref q1, .null, .int 0])), (q1, .inr (0, [.ref q2, .ref q3, .int 0, .int 0])), (q2, .inl (cI, 24, .inl (fun _ => 0))), (q3, .inl (cI, 8, .inl (fun _ => 0)))]) rfl (fun H locs w => ?_)
  refine lv_aload_n hx hb dX5_init_17 rfl (lv_at hl 0 rfl) ?_
  refine r_get C0 w 0 rfl kf_Te 0 (by decide) lf_RX5_14 rfl dX5_init_18 ?_
  refine lv_iconst (v := (1 : Int32)) hx hb dX5_init_21 (by decide) ?_
  refine lv_iconst (v := (2 : Int32)) hx hb dX5_init_22 (by decide) ?_
  have hp := sp_of (ws := [(q0, .inr (5, [.ref q1, .null, .int 0])), (q1, .inr (0, [.ref q2, .ref q3, .int 0, .int 0])), (q2, .inl (cI, 24, .inl (fun _ => 0))), (q3, .inl (cI, 8, .inl (fun _ => 0)))]) (wc := (ws_Au_shape cI cJ cZ q1 q2 q3 24 8 0 0 (fun _ => 0) (fun _ => 0))) [1, 2, 3] [0] rfl rfl
  have hp' : Rp (pk [(q0, .inr (5, [.ref q1, .null, .int 0])), (q1, .inr (0, [.ref q2, .ref q3, .int 0, .int 0])), (q2, .inl (cI, 24, .inl (fun _ => 0))), (q3, .inl (cI, 8, .inl (fun _ => 0)))] [0] ++ (ws_Au_shape cI cJ cZ q1 q2 q3 24 8 (1 : Int32) (2 : Int32) (fun _ => 0) (fun _ => 0))) [(q0, .inr (5, [.ref q1, .null, .int 0])), (q1, .inr (0, [.ref q2, .ref q3, .int (1 : Int32), .int (2 : Int32)])), (q2, .inl (cI, 24, .inl (fun _ => 0))), (q3, .inl (cI, 8, .inl (fun _ => 0)))] := ⟨[0, 1, 2, 3], rfl, rfl⟩
  refine r_VV (As := [.int 1, .int 2]) (rest := []) (wc' := (ws_Au_shape cI cJ cZ q1 q2 q3 24 8 (1 : Int32) (2 : Int32) (fun _ => 0) (fun _ => 0))) (ws' := [(q0, .inr (5, [.ref q1, .null, .int 0])), (q1, .inr (0, [.ref q2, .ref q3, .int (1 : Int32), .int (2 : Int32)])), (q2, .inl (cI, 24, .inl (fun _ => 0))), (q3, .inl (cI, 8, .inl (fun _ => 0)))]) C0 w (c_Au_shape eq_shape8) hp hp' lm_RX5_20 mv_Au_shape ⟨rfl, rfl⟩ ⟨by decide, by decide⟩ ⟨Nat.le_of_ble_eq_true rfl, Nat.le_of_ble_eq_true rfl⟩ (q0 := 1) rfl rfl rfl rfl hl rfl (Nat.le_of_ble_eq_true rfl) dX5_init_23 (fun H locs w => ?_)
  refine lv_aload_n hx hb dX5_init_26 rfl (lv_at hl 0 rfl) ?_
  refine lv_iconst (v := (4 : Int32)) hx hb dX5_init_27 (by decide) ?_
  refine r_newJ (N := 4) C0 w ac_cJ (by decide) (by decide) (Nat.le_of_ble_eq_true rfl) ⟨Nat.le_of_ble_eq_true rfl, Nat.le_of_ble_eq_true rfl⟩ dX5_init_28 (fun q4 H w => ?_)
  have w : Wd s A D [(q0, .inr (5, [.ref q1, .null, .int 0])), (q1, .inr (0, [.ref q2, .ref q3, .int (1 : Int32), .int (2 : Int32)])), (q2, .inl (cI, 24, .inl (fun _ => 0))), (q3, .inl (cI, 8, .inl (fun _ => 0))), (q4, .inl (cJ, 4, .inr (.inl (fun _ => 0))))] H _ := w
  refine r_putF C0 hin w 0 rfl kf_Te 1 (by decide) lf_RX5_24 rfl rfl rfl rfl (Nat.le_of_ble_eq_true rfl) dX5_init_30 (ws' := [(q0, .inr (5, [.ref q1, .ref q4, .int 0])), (q1, .inr (0, [.ref q2, .ref q3, .int (1 : Int32), .int (2 : Int32)])), (q2, .inl (cI, 24, .inl (fun _ => 0))), (q3, .inl (cI, 8, .inl (fun _ => 0))), (q4, .inl (cJ, 4, .inr (.inl (fun _ => 0))))]) rfl (fun H locs w => ?_)
  refine lv_aload_n hx hb dX5_init_33 rfl (lv_at hl 0 rfl) ?_
  refine lv_iconst (v := (0 : Int32)) hx hb dX5_init_34 (by decide) ?_
  refine r_put C0 w 0 rfl kf_Te 2 (by decide) lf_RX5_28 rfl rfl rfl (Nat.le_of_ble_eq_true rfl) dX5_init_35 (ws' := [(q0, .inr (5, [.ref q1, .ref q4, .int 0])), (q1, .inr (0, [.ref q2, .ref q3, .int (1 : Int32), .int (2 : Int32)])), (q2, .inl (cI, 24, .inl (fun _ => 0))), (q3, .inl (cI, 8, .inl (fun _ => 0))), (q4, .inl (cJ, 4, .inr (.inl (fun _ => 0))))]) rfl (fun H locs w => ?_)
  refine W.widen (k := 4) (n := 40) (Nat.le_of_ble_eq_true rfl) (Nat.le_of_ble_eq_true rfl) ?_
  exact hQ 38 ls H _ _ dX5_init_38 ⟨q1, q2, q3, q4, rfl⟩ w
abbrev po_Le_init (cI cJ cZ cO : ClassId) (q0 : Nat) : va_W → Prop := fun w1 => ∃ (q1 q2 q3 q4 q5 q6 q7 q8 q9 q10 q11 q12 q13 : Nat), w1 = [(q0, .inr (1, [.ref q1, .ref q3, .ref q10, .ref q13, .int 0, .int 200, .int 0, .long (-1), .int 0, .int 0])), (q1, .inr (2, [.ref q2, .int 0])), (q2, .inl (cJ, 300, .inr (.inl (fun _ => 0)))), (q3, .inr (4, [.ref q4, .ref q6, .ref q8, .ref q9, .int 0])), (q4, .inr (6, [.ref q5, .int 0, .int 0])), (q5, .inl (cJ, 40, .inr (.inl (fun _ => 0)))), (q6, .inr (6, [.ref q7, .int 0, .int 0])), (q7, .inl (cJ, 16, .inr (.inl (fun _ => 0)))), (q8, .inl (cI, 160, .inl (fun _ => 0))), (q9, .inl (cI, 160, .inl (fun _ => 0))), (q10, .inr (0, [.ref q11, .ref q12, .int 0, .int 0])), (q11, .inl (cI, 120, .inl (fun _ => 0))), (q12, .inl (cI, 40, .inl (fun _ => 0))), (q13, .inl (cI, 40, .inl (fun _ => 0)))]
abbrev rm_Le_init : Room := { frames := 3, cells := 13, slots := 893, locals := 61 }
set_option maxRecDepth 100000 in
theorem c_Le_init {l : Launch} {D : va_G} {cI cJ cZ cO : ClassId} {q0 : Nat} : ctN l D cI cJ cZ cO yX1_init cX1_init 1 rm_Le_init 13 893 [.ref q0] [(q0, .inr (1, [.null, .null, .null, .null, .int 0, .int 0, .int 0, .long 0, .int 0, .int 0]))] (po_Le_init cI cJ cZ cO q0) := by
  refine ctN_of (by decide) rfl (Nat.le_of_ble_eq_true rfl) ?_
  intro p e s m below meth c Q A ls C0 hz hin hQ w hl
  have hl : lv_has ls 1 [(0, .ref q0)] := hl
  generalize List.toArray (α := Value) [.ref q0] = args at C0 hQ ⊢
  obtain ⟨hx, hb, hml, hown, hts, -, -⟩ := id C0
  obtain ⟨H, eH⟩ : ∃ z, z = s.heap := ⟨_, rfl⟩
  obtain ⟨locs, eL⟩ : ∃ z : List Loc, z = [] := ⟨_, rfl⟩
  rw [← eH, ← eL] at w ⊢
  refine lv_aload_n hx hb dX1_init_0 rfl (lv_at hl 0 rfl) ?_
  refine r_objInit C0 hl lm_RX1_3 oi_in oi_co ⟨by decide, by decide⟩ (Nat.le_of_ble_eq_true rfl) dX1_init_1 ?_
  refine lv_aload_n hx hb dX1_init_4 rfl (lv_at hl 0 rfl) ?_
  refine r_new (fs := [.null, .int 0]) C0 w kf_Qu lc_RX1_9 in_Qu ii_Qu dv_Qu ⟨Nat.le_of_ble_eq_true rfl, Nat.le_of_ble_eq_true rfl⟩ dX1_init_5 (fun q1 H w => ?_)
  have w : Wd s A D [(q0, .inr (1, [.null, .null, .null, .null, .int 0, .int 0, .int 0, .long 0, .int 0, .int 0])), (q1, .inr (2, [.null, .int 0]))] H _ := w
  refine lv_dup hx hb dX1_init_8 rfl ?_
  refine r_NN (As := []) (rest := [.ref q1, .ref q0]) C0 hz w (c_Qu_init (q0 := q1)) (sp_of (ws := [(q0, .inr (1, [.null, .null, .null, .null, .int 0, .int 0, .int 0, .long 0, .int 0, .int 0])), (q1, .inr (2, [.null, .int 0]))]) (wc := [(q1, .inr (2, [.null, .int 0]))]) [1] [0] rfl rfl) hz.2.1 mi_Qu_init ⟨rfl, rfl⟩ ⟨by decide, by decide⟩ ⟨Nat.le_of_ble_eq_true rfl, Nat.le_of_ble_eq_true rfl⟩ rfl hl rfl (Nat.le_of_ble_eq_true rfl) dX1_init_9 (fun ws1 H locs hPo w => ?_)
  obtain ⟨q2, rfl⟩ := hPo
  have w : Wd s A D [(q0, .inr (1, [.null, .null, .null, .null, .int 0, .int 0, .int 0, .long 0, .int 0, .int 0])), (q1, .inr (2, [.ref q2, .int 0])), (q2, .inl (cJ, 300, .inr (.inl (fun _ => 0))))] H locs := w
  refine r_putF C0 hin w 0 rfl kf_Le 0 (by decide) lf_RX1_12 rfl rfl rfl rfl (Nat.le_of_ble_eq_true rfl) dX1_init_12 (ws' := [(q0, .inr (1, [.ref q1, .null, .null, .null, .int 0, .int 0, .int 0, .long 0, .int 0, .int 0])), (q1, .inr (2, [.ref q2, .int 0])), (q2, .inl (cJ, 300, .inr (.inl (fun _ => 0))))]) rfl (fun H locs w => ?_)
  refine lv_aload_n hx hb dX1_init_15 rfl (lv_at hl 0 rfl) ?_
  refine r_new (fs := [.null, .null, .null, .null, .int 0]) C0 w kf_Ta lc_RX1_18 in_Ta ii_Ta dv_Ta ⟨Nat.le_of_ble_eq_true rfl, Nat.le_of_ble_eq_true rfl⟩ dX1_init_16 (fun q3 H w => ?_)
  have w : Wd s A D [(q0, .inr (1, [.ref q1, .null, .null, .null, .int 0, .int 0, .int 0, .long 0, .int 0, .int 0])), (q1, .inr (2, [.ref q2, .int 0])), (q2, .inl (cJ, 300, .inr (.inl (fun _ => 0)))), (q3, .inr (4, [.null, .null, .null, .null, .int 0]))] H _ := w
  refine lv_dup hx hb dX1_init_19 rfl ?_
  refine r_NN (As := []) (rest := [.ref q3, .ref q0]) C0 hz w (c_Ta_init (q0 := q3)) (sp_of (ws := [(q0, .inr (1, [.ref q1, .null, .null, .null, .int 0, .int 0, .int 0, .long 0, .int 0, .int 0])), (q1, .inr (2, [.ref q2, .int 0])), (q2, .inl (cJ, 300, .inr (.inl (fun _ => 0)))), (q3, .inr (4, [.null, .null, .null, .null, .int 0]))]) (wc := [(q3, .inr (4, [.null, .null, .null, .null, .int 0]))]) [3] [0, 1, 2] rfl rfl) hz.2.2.1 mi_Ta_init ⟨rfl, rfl⟩ ⟨by decide, by decide⟩ ⟨Nat.le_of_ble_eq_true rfl, Nat.le_of_ble_eq_true rfl⟩ rfl hl rfl (Nat.le_of_ble_eq_true rfl) dX1_init_20 (fun ws1 H locs hPo w => ?_)
  obtain ⟨q4, q5, q6, q7, q8, q9, rfl⟩ := hPo
  have w : Wd s A D [(q0, .inr (1, [.ref q1, .null, .null, .null, .int 0, .int 0, .int 0, .long 0, .int 0, .int 0])), (q1, .inr (2, [.ref q2, .int 0])), (q2, .inl (cJ, 300, .inr (.inl (fun _ => 0)))), (q3, .inr (4, [.ref q4, .ref q6, .ref q8, .ref q9, .int 0])), (q4, .inr (6, [.ref q5, .int 0, .int 0])), (q5, .inl (cJ, 40, .inr (.inl (fun _ => 0)))), (q6, .inr (6, [.ref q7, .int 0, .int 0])), (q7, .inl (cJ, 16, .inr (.inl (fun _ => 0)))), (q8, .inl (cI, 160, .inl (fun _ => 0))), (q9, .inl (cI, 160, .inl (fun _ => 0)))] H locs := w
  refine r_putF C0 hin w 0 rfl kf_Le 1 (by decide) lf_RX1_21 rfl rfl rfl rfl (Nat.le_of_ble_eq_true rfl) dX1_init_23 (ws' := [(q0, .inr (1, [.ref q1, .ref q3, .null, .null, .int 0, .int 0, .int 0, .long 0, .int 0, .int 0])), (q1, .inr (2, [.ref q2, .int 0])), (q2, .inl (cJ, 300, .inr (.inl (fun _ => 0)))), (q3, .inr (4, [.ref q4, .ref q6, .ref q8, .ref q9, .int 0])), (q4, .inr (6, [.ref q5, .int 0, .int 0])), (q5, .inl (cJ, 40, .inr (.inl (fun _ => 0)))), (q6, .inr (6, [.ref q7, .int 0, .int 0])), (q7, .inl (cJ, 16, .inr (.inl (fun _ => 0)))), (q8, .inl (cI, 160, .inl (fun _ => 0))), (q9, .inl (cI, 160, .inl (fun _ => 0)))]) rfl (fun H locs w => ?_)
  refine lv_aload_n hx hb dX1_init_26 rfl (lv_at hl 0 rfl) ?_
  refine r_new (fs := [.null, .null, .int 0, .int 0]) C0 w kf_Au lc_RX1_25 in_Au ii_Au dv_Au ⟨Nat.le_of_ble_eq_true rfl, Nat.le_of_ble_eq_true rfl⟩ dX1_init_27 (fun q10 H w => ?_)
  have w : Wd s A D [(q0, .inr (1, [.ref q1, .ref q3, .null, .null, .int 0, .int 0, .int 0, .long 0, .int 0, .int 0])), (q1, .inr (2, [.ref q2, .int 0])), (q2, .inl (cJ, 300, .inr (.inl (fun _ => 0)))), (q3, .inr (4, [.ref q4, .ref q6, .ref q8, .ref q9, .int 0])), (q4, .inr (6, [.ref q5, .int 0, .int 0])), (q5, .inl (cJ, 40, .inr (.inl (fun _ => 0)))), (q6, .inr (6, [.ref q7, .int 0, .int 0])), (q7, .inl (cJ, 16, .inr (.inl (fun _ => 0)))), (q8, .inl (cI, 160, .inl (fun _ => 0))), (q9, .inl (cI, 160, .inl (fun _ => 0))), (q10, .inr (0, [.null, .null, .int 0, .int 0]))] H _ := w
  refine lv_dup hx hb dX1_init_30 rfl ?_
  refine lv_bipush (v := (40 : Int32)) hx hb dX1_init_31 (by decide) ?_
  refine r_N (As := [.int 40]) (rest := [.ref q10, .ref q0]) C0 hz w (c_Au_init40 (q0 := q10)) (sp_of (ws := [(q0, .inr (1, [.ref q1, .ref q3, .null, .null, .int 0, .int 0, .int 0, .long 0, .int 0, .int 0])), (q1, .inr (2, [.ref q2, .int 0])), (q2, .inl (cJ, 300, .inr (.inl (fun _ => 0)))), (q3, .inr (4, [.ref q4, .ref q6, .ref q8, .ref q9, .int 0])), (q4, .inr (6, [.ref q5, .int 0, .int 0])), (q5, .inl (cJ, 40, .inr (.inl (fun _ => 0)))), (q6, .inr (6, [.ref q7, .int 0, .int 0])), (q7, .inl (cJ, 16, .inr (.inl (fun _ => 0)))), (q8, .inl (cI, 160, .inl (fun _ => 0))), (q9, .inl (cI, 160, .inl (fun _ => 0))), (q10, .inr (0, [.null, .null, .int 0, .int 0]))]) (wc := [(q10, .inr (0, [.null, .null, .int 0, .int 0]))]) [10] [0, 1, 2, 3, 4, 5, 6, 7, 8, 9] rfl rfl) lm_RX1_27 mi_Au_init ⟨rfl, rfl⟩ ⟨by decide, by decide⟩ ⟨Nat.le_of_ble_eq_true rfl, Nat.le_of_ble_eq_true rfl⟩ rfl hl rfl (Nat.le_of_ble_eq_true rfl) dX1_init_33 (fun ws1 H locs hPo w => ?_)
  obtain ⟨q11, q12, rfl⟩ := hPo
  have w : Wd s A D [(q0, .inr (1, [.ref q1, .ref q3, .null, .null, .int 0, .int 0, .int 0, .long 0, .int 0, .int 0])), (q1, .inr (2, [.ref q2, .int 0])), (q2, .inl (cJ, 300, .inr (.inl (fun _ => 0)))), (q3, .inr (4, [.ref q4, .ref q6, .ref q8, .ref q9, .int 0])), (q4, .inr (6, [.ref q5, .int 0, .int 0])), (q5, .inl (cJ, 40, .inr (.inl (fun _ => 0)))), (q6, .inr (6, [.ref q7, .int 0, .int 0])), (q7, .inl (cJ, 16, .inr (.inl (fun _ => 0)))), (q8, .inl (cI, 160, .inl (fun _ => 0))), (q9, .inl (cI, 160, .inl (fun _ => 0))), (q10, .inr (0, [.ref q11, .ref q12, .int 0, .int 0])), (q11, .inl (cI, 120, .inl (fun _ => 0))), (q12, .inl (cI, 40, .inl (fun _ => 0)))] H locs := w
  refine r_putF C0 hin w 0 rfl kf_Le 2 (by decide) lf_RX1_30 rfl rfl rfl rfl (Nat.le_of_ble_eq_true rfl) dX1_init_36 (ws' := [(q0, .inr (1, [.ref q1, .ref q3, .ref q10, .null, .int 0, .int 0, .int 0, .long 0, .int 0, .int 0])), (q1, .inr (2, [.ref q2, .int 0])), (q2, .inl (cJ, 300, .inr (.inl (fun _ => 0)))), (q3, .inr (4, [.ref q4, .ref q6, .ref q8, .ref q9, .int 0])), (q4, .inr (6, [.ref q5, .int 0, .int 0])), (q5, .inl (cJ, 40, .inr (.inl (fun _ => 0)))), (q6, .inr (6, [.ref q7, .int 0, .int 0])), (q7, .inl (cJ, 16, .inr (.inl (fun _ => 0)))), (q8, .inl (cI, 160, .inl (fun _ => 0))), (q9, .inl (cI, 160, .inl (fun _ => 0))), (q10, .inr (0, [.ref q11, .ref q12, .int 0, .int 0])), (q11, .inl (cI, 120, .inl (fun _ => 0))), (q12, .inl (cI, 40, .inl (fun _ => 0)))]) rfl (fun H locs w => ?_)
  refine lv_aload_n hx hb dX1_init_39 rfl (lv_at hl 0 rfl) ?_
  refine lv_bipush (v := (40 : Int32)) hx hb dX1_init_40 (by decide) ?_
  refine r_newI (N := 40) C0 w ac_cI (by decide) (by decide) (Nat.le_of_ble_eq_true rfl) ⟨Nat.le_of_ble_eq_true rfl, Nat.le_of_ble_eq_true rfl⟩ dX1_init_42 (fun q13 H w => ?_)
  have w : Wd s A D [(q0, .inr (1, [.ref q1, .ref q3, .ref q10, .null, .int 0, .int 0, .int 0, .long 0, .int 0, .int 0])), (q1, .inr (2, [.ref q2, .int 0])), (q2, .inl (cJ, 300, .inr (.inl (fun _ => 0)))), (q3, .inr (4, [.ref q4, .ref q6, .ref q8, .ref q9, .int 0])), (q4, .inr (6, [.ref q5, .int 0, .int 0])), (q5, .inl (cJ, 40, .inr (.inl (fun _ => 0)))), (q6, .inr (6, [.ref q7, .int 0, .int 0])), (q7, .inl (cJ, 16, .inr (.inl (fun _ => 0)))), (q8, .inl (cI, 160, .inl (fun _ => 0))), (q9, .inl (cI, 160, .inl (fun _ => 0))), (q10, .inr (0, [.ref q11, .ref q12, .int 0, .int 0])), (q11, .inl (cI, 120, .inl (fun _ => 0))), (q12, .inl (cI, 40, .inl (fun _ => 0))), (q13, .inl (cI, 40, .inl (fun _ => 0)))] H _ := w
  refine r_putF C0 hin w 0 rfl kf_Le 3 (by decide) lf_RX1_34 rfl rfl rfl rfl (Nat.le_of_ble_eq_true rfl) dX1_init_44 (ws' := [(q0, .inr (1, [.ref q1, .ref q3, .ref q10, .ref q13, .int 0, .int 0, .int 0, .long 0, .int 0, .int 0])), (q1, .inr (2, [.ref q2, .int 0])), (q2, .inl (cJ, 300, .inr (.inl (fun _ => 0)))), (q3, .inr (4, [.ref q4, .ref q6, .ref q8, .ref q9, .int 0])), (q4, .inr (6, [.ref q5, .int 0, .int 0])), (q5, .inl (cJ, 40, .inr (.inl (fun _ => 0)))), (q6, .inr (6, [.ref q7, .int 0, .int 0])), (q7, .inl (cJ, 16, .inr (.inl (fun _ => 0)))), (q8, .inl (cI, 160, .inl (fun _ => 0))), (q9, .inl (cI, 160, .inl (fun _ => 0))), (q10, .inr (0, [.ref q11, .ref q12, .int 0, .int 0])), (q11, .inl (cI, 120, .inl (fun _ => 0))), (q12, .inl (cI, 40, .inl (fun _ => 0))), (q13, .inl (cI, 40, .inl (fun _ => 0)))]) rfl (fun H locs w => ?_)
  refine lv_aload_n hx hb dX1_init_47 rfl (lv_at hl 0 rfl) ?_
  refine lv_iconst (v := (0 : Int32)) hx hb dX1_init_48 (by decide) ?_
  refine r_put C0 w 0 rfl kf_Le 4 (by decide) lf_RX1_38 rfl rfl rfl (Nat.le_of_ble_eq_true rfl) dX1_init_49 (ws' := [(q0, .inr (1, [.ref q1, .ref q3, .ref q10, .ref q13, .int 0, .int 0, .int 0, .long 0, .int 0, .int 0])), (q1, .inr (2, [.ref q2, .int 0])), (q2, .inl (cJ, 300, .inr (.inl (fun _ => 0)))), (q3, .inr (4, [.ref q4, .ref q6, .ref q8, .ref q9, .int 0])), (q4, .inr (6, [.ref q5, .int 0, .int 0])), (q5, .inl (cJ, 40, .inr (.inl (fun _ => 0)))), (q6, .inr (6, [.ref q7, .int 0, .int 0])), (q7, .inl (cJ, 16, .inr (.inl (fun _ => 0)))), (q8, .inl (cI, 160, .inl (fun _ => 0))), (q9, .inl (cI, 160, .inl (fun _ => 0))), (q10, .inr (0, [.ref q11, .ref q12, .int 0, .int 0])), (q11, .inl (cI, 120, .inl (fun _ => 0))), (q12, .inl (cI, 40, .inl (fun _ => 0))), (q13, .inl (cI, 40, .inl (fun _ => 0)))]) rfl (fun H locs w => ?_)
  refine lv_aload_n hx hb dX1_init_52 rfl (lv_at hl 0 rfl) ?_
  refine lv_sipush (v := (200 : Int32)) hx hb dX1_init_53 (by decide) ?_
  refine r_put C0 w 0 rfl kf_Le 5 (by decide) lf_RX1_42 rfl rfl rfl (Nat.le_of_ble_eq_true rfl) dX1_init_56 (ws' := [(q0, .inr (1, [.ref q1, .ref q3, .ref q10, .ref q13, .int 0, .int 200, .int 0, .long 0, .int 0, .int 0])), (q1, .inr (2, [.ref q2, .int 0])), (q2, .inl (cJ, 300, .inr (.inl (fun _ => 0)))), (q3, .inr (4, [.ref q4, .ref q6, .ref q8, .ref q9, .int 0])), (q4, .inr (6, [.ref q5, .int 0, .int 0])), (q5, .inl (cJ, 40, .inr (.inl (fun _ => 0)))), (q6, .inr (6, [.ref q7, .int 0, .int 0])), (q7, .inl (cJ, 16, .inr (.inl (fun _ => 0)))), (q8, .inl (cI, 160, .inl (fun _ => 0))), (q9, .inl (cI, 160, .inl (fun _ => 0))), (q10, .inr (0, [.ref q11, .ref q12, .int 0, .int 0])), (q11, .inl (cI, 120, .inl (fun _ => 0))), (q12, .inl (cI, 40, .inl (fun _ => 0))), (q13, .inl (cI, 40, .inl (fun _ => 0)))]) rfl (fun H locs w => ?_)
  refine lv_aload_n hx hb dX1_init_59 rfl (lv_at hl 0 rfl) ?_
  refine lv_iconst (v := (0 : Int32)) hx hb dX1_init_60 (by decide) ?_
  refine r_put C0 w 0 rfl kf_Le 6 (by decide) lf_RX1_45 rfl rfl rfl (Nat.le_of_ble_eq_true rfl) dX1_init_61 (ws' := [(q0, .inr (1, [.ref q1, .ref q3, .ref q10, .ref q13, .int 0, .int 200, .int 0, .long 0, .int 0, .int 0])), (q1, .inr (2, [.ref q2, .int 0])), (q2, .inl (cJ, 300, .inr (.inl (fun _ => 0)))), (q3, .inr (4, [.ref q4, .ref q6, .ref q8, .ref q9, .int 0])), (q4, .inr (6, [.ref q5, .int 0, .int 0])), (q5, .inl (cJ, 40, .inr (.inl (fun _ => 0)))), (q6, .inr (6, [.ref q7, .int 0, .int 0])), (q7, .inl (cJ, 16, .inr (.inl (fun _ => 0)))), (q8, .inl (cI, 160, .inl (fun _ => 0))), (q9, .inl (cI, 160, .inl (fun _ => 0))), (q10, .inr (0, [.ref q11, .ref q12, .int 0, .int 0])), (q11, .inl (cI, 120, .inl (fun _ => 0))), (q12, .inl (cI, 40, .inl (fun _ => 0))), (q13, .inl (cI, 40, .inl (fun _ => 0)))]) rfl (fun H locs w => ?_)
  refine lv_aload_n hx hb dX1_init_64 rfl (lv_at hl 0 rfl) ?_
  refine lv_ldc2 (v := (-1 : Int64)) hx hb hown (hts _ ll_RX1_49) dX1_init_65 ?_
  refine r_put C0 w 0 rfl kf_Le 7 (by decide) lf_RX1_51 rfl rfl rfl (Nat.le_of_ble_eq_true rfl) dX1_init_68 (ws' := [(q0, .inr (1, [.ref q1, .ref q3, .ref q10, .ref q13, .int 0, .int 200, .int 0, .long (-1), .int 0, .int 0])), (q1, .inr (2, [.ref q2, .int 0])), (q2, .inl (cJ, 300, .inr (.inl (fun _ => 0)))), (q3, .inr (4, [.ref q4, .ref q6, .ref q8, .ref q9, .int 0])), (q4, .inr (6, [.ref q5, .int 0, .int 0])), (q5, .inl (cJ, 40, .inr (.inl (fun _ => 0)))), (q6, .inr (6, [.ref q7, .int 0, .int 0])), (q7, .inl (cJ, 16, .inr (.inl (fun _ => 0)))), (q8, .inl (cI, 160, .inl (fun _ => 0))), (q9, .inl (cI, 160, .inl (fun _ => 0))), (q10, .inr (0, [.ref q11, .ref q12, .int 0, .int 0])), (q11, .inl (cI, 120, .inl (fun _ => 0))), (q12, .inl (cI, 40, .inl (fun _ => 0))), (q13, .inl (cI, 40, .inl (fun _ => 0)))]) rfl (fun H locs w => ?_)
  refine lv_aload_n hx hb dX1_init_71 rfl (lv_at hl 0 rfl) ?_
  refine lv_iconst (v := (0 : Int32)) hx hb dX1_init_72 (by decide) ?_
  refine r_put C0 w 0 rfl kf_Le 8 (by decide) lf_RX1_55 rfl rfl rfl (Nat.le_of_ble_eq_true rfl) dX1_init_73 (ws' := [(q0, .inr (1, [.ref q1, .ref q3, .ref q10, .ref q13, .int 0, .int 200, .int 0, .long (-1), .int 0, .int 0])), (q1, .inr (2, [.ref q2, .int 0])), (q2, .inl (cJ, 300, .inr (.inl (fun _ => 0)))), (q3, .inr (4, [.ref q4, .ref q6, .ref q8, .ref q9, .int 0])), (q4, .inr (6, [.ref q5, .int 0, .int 0])), (q5, .inl (cJ, 40, .inr (.inl (fun _ => 0)))), (q6, .inr (6, [.ref q7, .int 0, .int 0])), (q7, .inl (cJ, 16, .inr (.inl (fun _ => 0)))), (q8, .inl (cI, 160, .inl (fun _ => 0))), (q9, .inl (cI, 160, .inl (fun _ => 0))), (q10, .inr (0, [.ref q11, .ref q12, .int 0, .int 0])), (q11, .inl (cI, 120, .inl (fun _ => 0))), (q12, .inl (cI, 40, .inl (fun _ => 0))), (q13, .inl (cI, 40, .inl (fun _ => 0)))]) rfl (fun H locs w => ?_)
  refine lv_aload_n hx hb dX1_init_76 rfl (lv_at hl 0 rfl) ?_
  refine lv_iconst (v := (0 : Int32)) hx hb dX1_init_77 (by decide) ?_
  refine r_put C0 w 0 rfl kf_Le 9 (by decide) lf_RX1_58 rfl rfl rfl (Nat.le_of_ble_eq_true rfl) dX1_init_78 (ws' := [(q0, .inr (1, [.ref q1, .ref q3, .ref q10, .ref q13, .int 0, .int 200, .int 0, .long (-1), .int 0, .int 0])), (q1, .inr (2, [.ref q2, .int 0])), (q2, .inl (cJ, 300, .inr (.inl (fun _ => 0)))), (q3, .inr (4, [.ref q4, .ref q6, .ref q8, .ref q9, .int 0])), (q4, .inr (6, [.ref q5, .int 0, .int 0])), (q5, .inl (cJ, 40, .inr (.inl (fun _ => 0)))), (q6, .inr (6, [.ref q7, .int 0, .int 0])), (q7, .inl (cJ, 16, .inr (.inl (fun _ => 0)))), (q8, .inl (cI, 160, .inl (fun _ => 0))), (q9, .inl (cI, 160, .inl (fun _ => 0))), (q10, .inr (0, [.ref q11, .ref q12, .int 0, .int 0])), (q11, .inl (cI, 120, .inl (fun _ => 0))), (q12, .inl (cI, 40, .inl (fun _ => 0))), (q13, .inl (cI, 40, .inl (fun _ => 0)))]) rfl (fun H locs w => ?_)
  refine W.widen (k := 13) (n := 893) (Nat.le_of_ble_eq_true rfl) (Nat.le_of_ble_eq_true rfl) ?_
  exact hQ 81 ls H _ _ dX1_init_81 ⟨q1, q2, q3, q4, q5, q6, q7, q8, q9, q10, q11, q12, q13, rfl⟩ w
abbrev po_Wo_init (cI cJ cZ cO : ClassId) (q0 : Nat) : va_W → Prop := fun w1 => ∃ (q1 q2 q3 q4 q5 q6 q7 q8 q9 q10 q11 q12 q13 q14 q15 q16 q17 q18 q19 : Nat), w1 = [(q0, .inr (7, [.ref q1, .ref q6])), (q1, .inr (5, [.ref q2, .ref q5, .int 0])), (q2, .inr (0, [.ref q3, .ref q4, .int (1 : Int32), .int (2 : Int32)])), (q3, .inl (cI, 24, .inl (fun _ => 0))), (q4, .inl (cI, 8, .inl (fun _ => 0))), (q5, .inl (cJ, 4, .inr (.inl (fun _ => 0)))), (q6, .inr (1, [.ref q7, .ref q9, .ref q16, .ref q19, .int 0, .int 200, .int (0 : Int32), .long (-1 : Int64), .int (0 : Int32), .int (0 : Int32)])), (q7, .inr (2, [.ref q8, .int (0 : Int32)])), (q8, .inl (cJ, 300, .inr (.inl (fun _ => 0)))), (q9, .inr (4, [.ref q10, .ref q12, .ref q14, .ref q15, .int (2 : Int32)])), (q10, .inr (6, [.ref q11, .int (1 : Int32), .int (0 : Int32)])), (q11, .inl (cJ, 40, .inr (.inl (vp_updL (fun _ => 0) 0 (1 : Int64))))), (q12, .inr (6, [.ref q13, .int (1 : Int32), .int (0 : Int32)])), (q13, .inl (cJ, 16, .inr (.inl (vp_updL (fun _ => 0) 0 (1 : Int64))))), (q14, .inl (cI, 160, .inl (fun _ => 0))), (q15, .inl (cI, 160, .inl (fun _ => 0))), (q16, .inr (0, [.ref q17, .ref q18, .int (0 : Int32), .int (2 : Int32)])), (q17, .inl (cI, 120, .inl (fun _ => 0))), (q18, .inl (cI, 40, .inl (fun _ => 0))), (q19, .inl (cI, 40, .inl (fun _ => 0)))]
abbrev rm_Wo_init : Room := { frames := 5, cells := 19, slots := 946, locals := 108 }
set_option maxRecDepth 100000 in
theorem c_Wo_init {l : Launch} {D : va_G} {cI cJ cZ cO : ClassId} {q0 : Nat} : ctN l D cI cJ cZ cO yX8_init cX8_init 1 rm_Wo_init 19 946 [.ref q0] [(q0, .inr (7, [.null, .null]))] (po_Wo_init cI cJ cZ cO q0) := by
  refine ctN_of (by decide) rfl (Nat.le_of_ble_eq_true rfl) ?_
  intro p e s m below meth c Q A ls C0 hz hin hQ w hl
  have hl : lv_has ls 1 [(0, .ref q0)] := hl
  generalize List.toArray (α := Value) [.ref q0] = args at C0 hQ ⊢
  obtain ⟨hx, hb, hml, hown, hts, -, -⟩ := id C0
  obtain ⟨H, eH⟩ : ∃ z, z = s.heap := ⟨_, rfl⟩
  obtain ⟨locs, eL⟩ : ∃ z : List Loc, z = [] := ⟨_, rfl⟩
  rw [← eH, ← eL] at w ⊢
  refine lv_aload_n hx hb dX8_init_0 rfl (lv_at hl 0 rfl) ?_
  refine r_objInit C0 hl lm_RX8_1 oi_in oi_co ⟨by decide, by decide⟩ (Nat.le_of_ble_eq_true rfl) dX8_init_1 ?_
  refine lv_aload_n hx hb dX8_init_4 rfl (lv_at hl 0 rfl) ?_
  refine r_new (fs := [.null, .null, .int 0]) C0 w kf_Te lc_RX8_7 in_Te ii_Te dv_Te ⟨Nat.le_of_ble_eq_true rfl, Nat.le_of_ble_eq_true rfl⟩ dX8_init_5 (fun q1 H w => ?_)
  have w : Wd s A D [(q0, .inr (7, [.null, .null])), (q1, .inr (5, [.null, .null, .int 0]))] H _ := w
  refine lv_dup hx hb dX8_init_8 rfl ?_
  refine r_N (As := []) (rest := [.ref q1, .ref q0]) C0 hz w (c_Te_init (q0 := q1)) (sp_of (ws := [(q0, .inr (7, [.null, .null])), (q1, .inr (5, [.null, .null, .int 0]))]) (wc := [(q1, .inr (5, [.null, .null, .int 0]))]) [1] [0] rfl rfl) lm_RX8_9 mi_Te_init ⟨rfl, rfl⟩ ⟨by decide, by decide⟩ ⟨Nat.le_of_ble_eq_true rfl, Nat.le_of_ble_eq_true rfl⟩ rfl hl rfl (Nat.le_of_ble_eq_true rfl) dX8_init_9 (fun ws1 H locs hPo w => ?_)
  obtain ⟨q2, q3, q4, q5, rfl⟩ := hPo
  have w : Wd s A D [(q0, .inr (7, [.null, .null])), (q1, .inr (5, [.ref q2, .ref q5, .int 0])), (q2, .inr (0, [.ref q3, .ref q4, .int (1 : Int32), .int (2 : Int32)])), (q3, .inl (cI, 24, .inl (fun _ => 0))), (q4, .inl (cI, 8, .inl (fun _ => 0))), (q5, .inl (cJ, 4, .inr (.inl (fun _ => 0))))] H locs := w
  refine r_putF C0 hin w 0 rfl kf_Wo 0 (by decide) lf_RX8_10 rfl rfl rfl rfl (Nat.le_of_ble_eq_true rfl) dX8_init_12 (ws' := [(q0, .inr (7, [.ref q1, .null])), (q1, .inr (5, [.ref q2, .ref q5, .int 0])), (q2, .inr (0, [.ref q3, .ref q4, .int (1 : Int32), .int (2 : Int32)])), (q3, .inl (cI, 24, .inl (fun _ => 0))), (q4, .inl (cI, 8, .inl (fun _ => 0))), (q5, .inl (cJ, 4, .inr (.inl (fun _ => 0))))]) rfl (fun H locs w => ?_)
  refine lv_aload_n hx hb dX8_init_15 rfl (lv_at hl 0 rfl) ?_
  refine r_new (fs := [.null, .null, .null, .null, .int 0, .int 0, .int 0, .long 0, .int 0, .int 0]) C0 w kf_Le lc_RX8_16 in_Le ii_Le dv_Le ⟨Nat.le_of_ble_eq_true rfl, Nat.le_of_ble_eq_true rfl⟩ dX8_init_16 (fun q6 H w => ?_)
  have w : Wd s A D [(q0, .inr (7, [.ref q1, .null])), (q1, .inr (5, [.ref q2, .ref q5, .int 0])), (q2, .inr (0, [.ref q3, .ref q4, .int (1 : Int32), .int (2 : Int32)])), (q3, .inl (cI, 24, .inl (fun _ => 0))), (q4, .inl (cI, 8, .inl (fun _ => 0))), (q5, .inl (cJ, 4, .inr (.inl (fun _ => 0)))), (q6, .inr (1, [.null, .null, .null, .null, .int 0, .int 0, .int 0, .long 0, .int 0, .int 0]))] H _ := w
  refine lv_dup hx hb dX8_init_19 rfl ?_
  refine r_NN (As := []) (rest := [.ref q6, .ref q0]) C0 hz w (c_Le_init (q0 := q6)) (sp_of (ws := [(q0, .inr (7, [.ref q1, .null])), (q1, .inr (5, [.ref q2, .ref q5, .int 0])), (q2, .inr (0, [.ref q3, .ref q4, .int (1 : Int32), .int (2 : Int32)])), (q3, .inl (cI, 24, .inl (fun _ => 0))), (q4, .inl (cI, 8, .inl (fun _ => 0))), (q5, .inl (cJ, 4, .inr (.inl (fun _ => 0)))), (q6, .inr (1, [.null, .null, .null, .null, .int 0, .int 0, .int 0, .long 0, .int 0, .int 0]))]) (wc := [(q6, .inr (1, [.null, .null, .null, .null, .int 0, .int 0, .int 0, .long 0, .int 0, .int 0]))]) [6] [0, 1, 2, 3, 4, 5] rfl rfl) hz.1 mi_Le_init ⟨rfl, rfl⟩ ⟨by decide, by decide⟩ ⟨Nat.le_of_ble_eq_true rfl, Nat.le_of_ble_eq_true rfl⟩ rfl hl rfl (Nat.le_of_ble_eq_true rfl) dX8_init_20 (fun ws1 H locs hPo w => ?_)
  obtain ⟨q7, q8, q9, q10, q11, q12, q13, q14, q15, q16, q17, q18, q19, rfl⟩ := hPo
  have w : Wd s A D [(q0, .inr (7, [.ref q1, .null])), (q1, .inr (5, [.ref q2, .ref q5, .int 0])), (q2, .inr (0, [.ref q3, .ref q4, .int (1 : Int32), .int (2 : Int32)])), (q3, .inl (cI, 24, .inl (fun _ => 0))), (q4, .inl (cI, 8, .inl (fun _ => 0))), (q5, .inl (cJ, 4, .inr (.inl (fun _ => 0)))), (q6, .inr (1, [.ref q7, .ref q9, .ref q16, .ref q19, .int 0, .int 200, .int 0, .long (-1), .int 0, .int 0])), (q7, .inr (2, [.ref q8, .int 0])), (q8, .inl (cJ, 300, .inr (.inl (fun _ => 0)))), (q9, .inr (4, [.ref q10, .ref q12, .ref q14, .ref q15, .int 0])), (q10, .inr (6, [.ref q11, .int 0, .int 0])), (q11, .inl (cJ, 40, .inr (.inl (fun _ => 0)))), (q12, .inr (6, [.ref q13, .int 0, .int 0])), (q13, .inl (cJ, 16, .inr (.inl (fun _ => 0)))), (q14, .inl (cI, 160, .inl (fun _ => 0))), (q15, .inl (cI, 160, .inl (fun _ => 0))), (q16, .inr (0, [.ref q17, .ref q18, .int 0, .int 0])), (q17, .inl (cI, 120, .inl (fun _ => 0))), (q18, .inl (cI, 40, .inl (fun _ => 0))), (q19, .inl (cI, 40, .inl (fun _ => 0)))] H locs := w
  refine r_putF C0 hin w 0 rfl kf_Wo 1 (by decide) lf_RX8_19 rfl rfl rfl rfl (Nat.le_of_ble_eq_true rfl) dX8_init_23 (ws' := [(q0, .inr (7, [.ref q1, .ref q6])), (q1, .inr (5, [.ref q2, .ref q5, .int 0])), (q2, .inr (0, [.ref q3, .ref q4, .int (1 : Int32), .int (2 : Int32)])), (q3, .inl (cI, 24, .inl (fun _ => 0))), (q4, .inl (cI, 8, .inl (fun _ => 0))), (q5, .inl (cJ, 4, .inr (.inl (fun _ => 0)))), (q6, .inr (1, [.ref q7, .ref q9, .ref q16, .ref q19, .int 0, .int 200, .int 0, .long (-1), .int 0, .int 0])), (q7, .inr (2, [.ref q8, .int 0])), (q8, .inl (cJ, 300, .inr (.inl (fun _ => 0)))), (q9, .inr (4, [.ref q10, .ref q12, .ref q14, .ref q15, .int 0])), (q10, .inr (6, [.ref q11, .int 0, .int 0])), (q11, .inl (cJ, 40, .inr (.inl (fun _ => 0)))), (q12, .inr (6, [.ref q13, .int 0, .int 0])), (q13, .inl (cJ, 16, .inr (.inl (fun _ => 0)))), (q14, .inl (cI, 160, .inl (fun _ => 0))), (q15, .inl (cI, 160, .inl (fun _ => 0))), (q16, .inr (0, [.ref q17, .ref q18, .int 0, .int 0])), (q17, .inl (cI, 120, .inl (fun _ => 0))), (q18, .inl (cI, 40, .inl (fun _ => 0))), (q19, .inl (cI, 40, .inl (fun _ => 0)))]) rfl (fun H locs w => ?_)
  refine lv_aload_n hx hb dX8_init_26 rfl (lv_at hl 0 rfl) ?_
  refine r_get C0 w 0 rfl kf_Wo 1 (by decide) lf_RX8_19 rfl dX8_init_27 ?_
  refine lv_aload_n hx hb dX8_init_30 rfl (lv_at hl 0 rfl) ?_
  refine r_get C0 w 0 rfl kf_Wo 0 (by decide) lf_RX8_10 rfl dX8_init_31 ?_
  refine r_get C0 w 1 rfl kf_Te 0 (by decide) lf_RX8_23 rfl dX8_init_34 ?_
  refine r_get C0 w 2 rfl kf_Au 3 (by decide) lf_RX8_27 rfl dX8_init_37 ?_
  have hp := sp_of (ws := [(q0, .inr (7, [.ref q1, .ref q6])), (q1, .inr (5, [.ref q2, .ref q5, .int 0])), (q2, .inr (0, [.ref q3, .ref q4, .int (1 : Int32), .int (2 : Int32)])), (q3, .inl (cI, 24, .inl (fun _ => 0))), (q4, .inl (cI, 8, .inl (fun _ => 0))), (q5, .inl (cJ, 4, .inr (.inl (fun _ => 0)))), (q6, .inr (1, [.ref q7, .ref q9, .ref q16, .ref q19, .int 0, .int 200, .int 0, .long (-1), .int 0, .int 0])), (q7, .inr (2, [.ref q8, .int 0])), (q8, .inl (cJ, 300, .inr (.inl (fun _ => 0)))), (q9, .inr (4, [.ref q10, .ref q12, .ref q14, .ref q15, .int 0])), (q10, .inr (6, [.ref q11, .int 0, .int 0])), (q11, .inl (cJ, 40, .inr (.inl (fun _ => 0)))), (q12, .inr (6, [.ref q13, .int 0, .int 0])), (q13, .inl (cJ, 16, .inr (.inl (fun _ => 0)))), (q14, .inl (cI, 160, .inl (fun _ => 0))), (q15, .inl (cI, 160, .inl (fun _ => 0))), (q16, .inr (0, [.ref q17, .ref q18, .int 0, .int 0])), (q17, .inl (cI, 120, .inl (fun _ => 0))), (q18, .inl (cI, 40, .inl (fun _ => 0))), (q19, .inl (cI, 40, .inl (fun _ => 0)))]) (wc := (ws_Le_startAnew cI cJ cZ q6 q7 q9 q16 q19 q8 q10 q12 q14 q15 q11 q13 q17 q18 0 200 0 (-1) 0 0 0 0 0 0 (fun _ => 0) 0 0 (fun _ => 0) (fun _ => 0) (fun _ => 0) 0 0 (fun _ => 0) (fun _ => 0))) [6, 7, 9, 10, 11, 12, 13, 14, 15, 16, 17, 18] [0, 1, 2, 3, 4, 5, 8, 19] rfl rfl
  have hp' : Rp (pk [(q0, .inr (7, [.ref q1, .ref q6])), (q1, .inr (5, [.ref q2, .ref q5, .int 0])), (q2, .inr (0, [.ref q3, .ref q4, .int (1 : Int32), .int (2 : Int32)])), (q3, .inl (cI, 24, .inl (fun _ => 0))), (q4, .inl (cI, 8, .inl (fun _ => 0))), (q5, .inl (cJ, 4, .inr (.inl (fun _ => 0)))), (q6, .inr (1, [.ref q7, .ref q9, .ref q16, .ref q19, .int 0, .int 200, .int 0, .long (-1), .int 0, .int 0])), (q7, .inr (2, [.ref q8, .int 0])), (q8, .inl (cJ, 300, .inr (.inl (fun _ => 0)))), (q9, .inr (4, [.ref q10, .ref q12, .ref q14, .ref q15, .int 0])), (q10, .inr (6, [.ref q11, .int 0, .int 0])), (q11, .inl (cJ, 40, .inr (.inl (fun _ => 0)))), (q12, .inr (6, [.ref q13, .int 0, .int 0])), (q13, .inl (cJ, 16, .inr (.inl (fun _ => 0)))), (q14, .inl (cI, 160, .inl (fun _ => 0))), (q15, .inl (cI, 160, .inl (fun _ => 0))), (q16, .inr (0, [.ref q17, .ref q18, .int 0, .int 0])), (q17, .inl (cI, 120, .inl (fun _ => 0))), (q18, .inl (cI, 40, .inl (fun _ => 0))), (q19, .inl (cI, 40, .inl (fun _ => 0)))] [0, 1, 2, 3, 4, 5, 8, 19] ++ (ws_Le_startAnew cI cJ cZ q6 q7 q9 q16 q19 q8 q10 q12 q14 q15 q11 q13 q17 q18 0 200 (0 : Int32) (-1 : Int64) (0 : Int32) (0 : Int32) (0 : Int32) (2 : Int32) (1 : Int32) (0 : Int32) (vp_updL (fun _ => 0) 0 (1 : Int64)) (1 : Int32) (0 : Int32) (vp_updL (fun _ => 0) 0 (1 : Int64)) (fun _ => 0) (fun _ => 0) (0 : Int32) (2 : Int32) (fun _ => 0) (fun _ => 0))) [(q0, .inr (7, [.ref q1, .ref q6])), (q1, .inr (5, [.ref q2, .ref q5, .int 0])), (q2, .inr (0, [.ref q3, .ref q4, .int (1 : Int32), .int (2 : Int32)])), (q3, .inl (cI, 24, .inl (fun _ => 0))), (q4, .inl (cI, 8, .inl (fun _ => 0))), (q5, .inl (cJ, 4, .inr (.inl (fun _ => 0)))), (q6, .inr (1, [.ref q7, .ref q9, .ref q16, .ref q19, .int 0, .int 200, .int (0 : Int32), .long (-1 : Int64), .int (0 : Int32), .int (0 : Int32)])), (q7, .inr (2, [.ref q8, .int (0 : Int32)])), (q8, .inl (cJ, 300, .inr (.inl (fun _ => 0)))), (q9, .inr (4, [.ref q10, .ref q12, .ref q14, .ref q15, .int (2 : Int32)])), (q10, .inr (6, [.ref q11, .int (1 : Int32), .int (0 : Int32)])), (q11, .inl (cJ, 40, .inr (.inl (vp_updL (fun _ => 0) 0 (1 : Int64))))), (q12, .inr (6, [.ref q13, .int (1 : Int32), .int (0 : Int32)])), (q13, .inl (cJ, 16, .inr (.inl (vp_updL (fun _ => 0) 0 (1 : Int64))))), (q14, .inl (cI, 160, .inl (fun _ => 0))), (q15, .inl (cI, 160, .inl (fun _ => 0))), (q16, .inr (0, [.ref q17, .ref q18, .int (0 : Int32), .int (2 : Int32)])), (q17, .inl (cI, 120, .inl (fun _ => 0))), (q18, .inl (cI, 40, .inl (fun _ => 0))), (q19, .inl (cI, 40, .inl (fun _ => 0)))] := ⟨[0, 1, 2, 3, 4, 5, 8, 9, 6, 10, 11, 12, 13, 14, 15, 16, 17, 18, 19, 7], rfl, rfl⟩
  refine r_VV (As := [.int 2]) (rest := []) (wc' := (ws_Le_startAnew cI cJ cZ q6 q7 q9 q16 q19 q8 q10 q12 q14 q15 q11 q13 q17 q18 0 200 (0 : Int32) (-1 : Int64) (0 : Int32) (0 : Int32) (0 : Int32) (2 : Int32) (1 : Int32) (0 : Int32) (vp_updL (fun _ => 0) 0 (1 : Int64)) (1 : Int32) (0 : Int32) (vp_updL (fun _ => 0) 0 (1 : Int64)) (fun _ => 0) (fun _ => 0) (0 : Int32) (2 : Int32) (fun _ => 0) (fun _ => 0))) (ws' := [(q0, .inr (7, [.ref q1, .ref q6])), (q1, .inr (5, [.ref q2, .ref q5, .int 0])), (q2, .inr (0, [.ref q3, .ref q4, .int (1 : Int32), .int (2 : Int32)])), (q3, .inl (cI, 24, .inl (fun _ => 0))), (q4, .inl (cI, 8, .inl (fun _ => 0))), (q5, .inl (cJ, 4, .inr (.inl (fun _ => 0)))), (q6, .inr (1, [.ref q7, .ref q9, .ref q16, .ref q19, .int 0, .int 200, .int (0 : Int32), .long (-1 : Int64), .int (0 : Int32), .int (0 : Int32)])), (q7, .inr (2, [.ref q8, .int (0 : Int32)])), (q8, .inl (cJ, 300, .inr (.inl (fun _ => 0)))), (q9, .inr (4, [.ref q10, .ref q12, .ref q14, .ref q15, .int (2 : Int32)])), (q10, .inr (6, [.ref q11, .int (1 : Int32), .int (0 : Int32)])), (q11, .inl (cJ, 40, .inr (.inl (vp_updL (fun _ => 0) 0 (1 : Int64))))), (q12, .inr (6, [.ref q13, .int (1 : Int32), .int (0 : Int32)])), (q13, .inl (cJ, 16, .inr (.inl (vp_updL (fun _ => 0) 0 (1 : Int64))))), (q14, .inl (cI, 160, .inl (fun _ => 0))), (q15, .inl (cI, 160, .inl (fun _ => 0))), (q16, .inr (0, [.ref q17, .ref q18, .int (0 : Int32), .int (2 : Int32)])), (q17, .inl (cI, 120, .inl (fun _ => 0))), (q18, .inl (cI, 40, .inl (fun _ => 0))), (q19, .inl (cI, 40, .inl (fun _ => 0)))]) C0 w (c_Le_startAnew eq_anew) hp hp' lm_RX8_33 mv_Le_startAnew ⟨rfl, rfl⟩ ⟨by decide, by decide⟩ ⟨Nat.le_of_ble_eq_true rfl, Nat.le_of_ble_eq_true rfl⟩ (q0 := 6) rfl rfl rfl rfl hl rfl (Nat.le_of_ble_eq_true rfl) dX8_init_40 (fun H locs w => ?_)
  refine W.widen (k := 19) (n := 946) (Nat.le_of_ble_eq_true rfl) (Nat.le_of_ble_eq_true rfl) ?_
  exact hQ 43 ls H _ _ dX8_init_43 ⟨q1, q2, q3, q4, q5, q6, q7, q8, q9, q10, q11, q12, q13, q14, q15, q16, q17, q18, q19, rfl⟩ w
abbrev po_TL_init (cI cJ cZ cO : ClassId) (q0 : Nat) : va_W → Prop := fun w1 => ∃ (q1 q2 q3 q4 q5 q6 q7 q8 q9 q10 q11 q12 q13 q14 q15 q16 q17 q18 q19 q20 q21 q22 q23 q24 q25 q26 q27 q28 : Nat), w1 = [(q0, .inr (8, [.ref q1, .ref q21, .ref q22, .int 0, .ref q23])), (q1, .inr (7, [.ref q2, .ref q7])), (q2, .inr (5, [.ref q3, .ref q6, .int 0])), (q3, .inr (0, [.ref q4, .ref q5, .int (1 : Int32), .int (2 : Int32)])), (q4, .inl (cI, 24, .inl (fun _ => 0))), (q5, .inl (cI, 8, .inl (fun _ => 0))), (q6, .inl (cJ, 4, .inr (.inl (fun _ => 0)))), (q7, .inr (1, [.ref q8, .ref q10, .ref q17, .ref q20, .int 0, .int 200, .int (0 : Int32), .long (-1 : Int64), .int (0 : Int32), .int (0 : Int32)])), (q8, .inr (2, [.ref q9, .int (0 : Int32)])), (q9, .inl (cJ, 300, .inr (.inl (fun _ => 0)))), (q10, .inr (4, [.ref q11, .ref q13, .ref q15, .ref q16, .int (2 : Int32)])), (q11, .inr (6, [.ref q12, .int (1 : Int32), .int (0 : Int32)])), (q12, .inl (cJ, 40, .inr (.inl (vp_updL (fun _ => 0) 0 (1 : Int64))))), (q13, .inr (6, [.ref q14, .int (1 : Int32), .int (0 : Int32)])), (q14, .inl (cJ, 16, .inr (.inl (vp_updL (fun _ => 0) 0 (1 : Int64))))), (q15, .inl (cI, 160, .inl (fun _ => 0))), (q16, .inl (cI, 160, .inl (fun _ => 0))), (q17, .inr (0, [.ref q18, .ref q19, .int (0 : Int32), .int (2 : Int32)])), (q18, .inl (cI, 120, .inl (fun _ => 0))), (q19, .inl (cI, 40, .inl (fun _ => 0))), (q20, .inl (cI, 40, .inl (fun _ => 0))), (q21, .inl (cO, 2, .inr (.inr (.inr (.inr (fun _ => none)))))), (q22, .inl (cI, 16, .inl (fun _ => 0))), (q23, .inr (3, [.ref q24, .ref q25, .ref q26, .ref q27, .ref q28, .int (-1), .int 0])), (q24, .inl (cI, 320, .inl (fun _ => 0))), (q25, .inl (cI, 320, .inl (fun _ => 0))), (q26, .inl (cI, 320, .inl (fun _ => 0))), (q27, .inl (cI, 320, .inl (fun _ => 0))), (q28, .inl (cI, 320, .inl (fun _ => 0)))]
abbrev rm_TL_init : Room := { frames := 6, cells := 28, slots := 2573, locals := 128 }
set_option maxRecDepth 100000 in
theorem c_TL_init {l : Launch} {D : va_G} {cI cJ cZ cO : ClassId} {q0 : Nat} : ctN l D cI cJ cZ cO yX9_init cX9_init 1 rm_TL_init 28 2573 [.ref q0] [(q0, .inr (8, [.null, .null, .null, .int 0, .null]))] (po_TL_init cI cJ cZ cO q0) := by
  refine ctN_of (by decide) rfl (Nat.le_of_ble_eq_true rfl) ?_
  intro p e s m below meth c Q A ls C0 hz hin hQ w hl
  have hl : lv_has ls 1 [(0, .ref q0)] := hl
  generalize List.toArray (α := Value) [.ref q0] = args at C0 hQ ⊢
  obtain ⟨hx, hb, hml, hown, hts, -, -⟩ := id C0
  obtain ⟨H, eH⟩ : ∃ z, z = s.heap := ⟨_, rfl⟩
  obtain ⟨locs, eL⟩ : ∃ z : List Loc, z = [] := ⟨_, rfl⟩
  rw [← eH, ← eL] at w ⊢
  refine lv_aload_n hx hb dX9_init_0 rfl (lv_at hl 0 rfl) ?_
  refine r_objInit C0 hl lm_RX9_1 oi_in oi_co ⟨by decide, by decide⟩ (Nat.le_of_ble_eq_true rfl) dX9_init_1 ?_
  refine lv_aload_n hx hb dX9_init_4 rfl (lv_at hl 0 rfl) ?_
  refine r_new (fs := [.null, .null]) C0 w kf_Wo lc_RX9_7 in_Wo ii_Wo dv_Wo ⟨Nat.le_of_ble_eq_true rfl, Nat.le_of_ble_eq_true rfl⟩ dX9_init_5 (fun q1 H w => ?_)
  have w : Wd s A D [(q0, .inr (8, [.null, .null, .null, .int 0, .null])), (q1, .inr (7, [.null, .null]))] H _ := w
  refine lv_dup hx hb dX9_init_8 rfl ?_
  refine r_N (As := []) (rest := [.ref q1, .ref q0]) C0 hz w (c_Wo_init (q0 := q1)) (sp_of (ws := [(q0, .inr (8, [.null, .null, .null, .int 0, .null])), (q1, .inr (7, [.null, .null]))]) (wc := [(q1, .inr (7, [.null, .null]))]) [1] [0] rfl rfl) lm_RX9_9 mi_Wo_init ⟨rfl, rfl⟩ ⟨by decide, by decide⟩ ⟨Nat.le_of_ble_eq_true rfl, Nat.le_of_ble_eq_true rfl⟩ rfl hl rfl (Nat.le_of_ble_eq_true rfl) dX9_init_9 (fun ws1 H locs hPo w => ?_)
  obtain ⟨q2, q3, q4, q5, q6, q7, q8, q9, q10, q11, q12, q13, q14, q15, q16, q17, q18, q19, q20, rfl⟩ := hPo
  have w : Wd s A D [(q0, .inr (8, [.null, .null, .null, .int 0, .null])), (q1, .inr (7, [.ref q2, .ref q7])), (q2, .inr (5, [.ref q3, .ref q6, .int 0])), (q3, .inr (0, [.ref q4, .ref q5, .int (1 : Int32), .int (2 : Int32)])), (q4, .inl (cI, 24, .inl (fun _ => 0))), (q5, .inl (cI, 8, .inl (fun _ => 0))), (q6, .inl (cJ, 4, .inr (.inl (fun _ => 0)))), (q7, .inr (1, [.ref q8, .ref q10, .ref q17, .ref q20, .int 0, .int 200, .int (0 : Int32), .long (-1 : Int64), .int (0 : Int32), .int (0 : Int32)])), (q8, .inr (2, [.ref q9, .int (0 : Int32)])), (q9, .inl (cJ, 300, .inr (.inl (fun _ => 0)))), (q10, .inr (4, [.ref q11, .ref q13, .ref q15, .ref q16, .int (2 : Int32)])), (q11, .inr (6, [.ref q12, .int (1 : Int32), .int (0 : Int32)])), (q12, .inl (cJ, 40, .inr (.inl (vp_updL (fun _ => 0) 0 (1 : Int64))))), (q13, .inr (6, [.ref q14, .int (1 : Int32), .int (0 : Int32)])), (q14, .inl (cJ, 16, .inr (.inl (vp_updL (fun _ => 0) 0 (1 : Int64))))), (q15, .inl (cI, 160, .inl (fun _ => 0))), (q16, .inl (cI, 160, .inl (fun _ => 0))), (q17, .inr (0, [.ref q18, .ref q19, .int (0 : Int32), .int (2 : Int32)])), (q18, .inl (cI, 120, .inl (fun _ => 0))), (q19, .inl (cI, 40, .inl (fun _ => 0))), (q20, .inl (cI, 40, .inl (fun _ => 0)))] H locs := w
  refine r_putF C0 hin w 0 rfl kf_TL 0 (by decide) lf_RX9_10 rfl rfl rfl rfl (Nat.le_of_ble_eq_true rfl) dX9_init_12 (ws' := [(q0, .inr (8, [.ref q1, .null, .null, .int 0, .null])), (q1, .inr (7, [.ref q2, .ref q7])), (q2, .inr (5, [.ref q3, .ref q6, .int 0])), (q3, .inr (0, [.ref q4, .ref q5, .int (1 : Int32), .int (2 : Int32)])), (q4, .inl (cI, 24, .inl (fun _ => 0))), (q5, .inl (cI, 8, .inl (fun _ => 0))), (q6, .inl (cJ, 4, .inr (.inl (fun _ => 0)))), (q7, .inr (1, [.ref q8, .ref q10, .ref q17, .ref q20, .int 0, .int 200, .int (0 : Int32), .long (-1 : Int64), .int (0 : Int32), .int (0 : Int32)])), (q8, .inr (2, [.ref q9, .int (0 : Int32)])), (q9, .inl (cJ, 300, .inr (.inl (fun _ => 0)))), (q10, .inr (4, [.ref q11, .ref q13, .ref q15, .ref q16, .int (2 : Int32)])), (q11, .inr (6, [.ref q12, .int (1 : Int32), .int (0 : Int32)])), (q12, .inl (cJ, 40, .inr (.inl (vp_updL (fun _ => 0) 0 (1 : Int64))))), (q13, .inr (6, [.ref q14, .int (1 : Int32), .int (0 : Int32)])), (q14, .inl (cJ, 16, .inr (.inl (vp_updL (fun _ => 0) 0 (1 : Int64))))), (q15, .inl (cI, 160, .inl (fun _ => 0))), (q16, .inl (cI, 160, .inl (fun _ => 0))), (q17, .inr (0, [.ref q18, .ref q19, .int (0 : Int32), .int (2 : Int32)])), (q18, .inl (cI, 120, .inl (fun _ => 0))), (q19, .inl (cI, 40, .inl (fun _ => 0))), (q20, .inl (cI, 40, .inl (fun _ => 0)))]) rfl (fun H locs w => ?_)
  refine lv_aload_n hx hb dX9_init_15 rfl (lv_at hl 0 rfl) ?_
  refine lv_iconst (v := (2 : Int32)) hx hb dX9_init_16 (by decide) ?_
  refine r_newq (N := 2) C0 hz w lc_RX9_7 (by decide) (by decide) (Nat.le_of_ble_eq_true rfl) ⟨Nat.le_of_ble_eq_true rfl, Nat.le_of_ble_eq_true rfl⟩ dX9_init_17 (fun q21 H w => ?_)
  have w : Wd s A D [(q0, .inr (8, [.ref q1, .null, .null, .int 0, .null])), (q1, .inr (7, [.ref q2, .ref q7])), (q2, .inr (5, [.ref q3, .ref q6, .int 0])), (q3, .inr (0, [.ref q4, .ref q5, .int (1 : Int32), .int (2 : Int32)])), (q4, .inl (cI, 24, .inl (fun _ => 0))), (q5, .inl (cI, 8, .inl (fun _ => 0))), (q6, .inl (cJ, 4, .inr (.inl (fun _ => 0)))), (q7, .inr (1, [.ref q8, .ref q10, .ref q17, .ref q20, .int 0, .int 200, .int (0 : Int32), .long (-1 : Int64), .int (0 : Int32), .int (0 : Int32)])), (q8, .inr (2, [.ref q9, .int (0 : Int32)])), (q9, .inl (cJ, 300, .inr (.inl (fun _ => 0)))), (q10, .inr (4, [.ref q11, .ref q13, .ref q15, .ref q16, .int (2 : Int32)])), (q11, .inr (6, [.ref q12, .int (1 : Int32), .int (0 : Int32)])), (q12, .inl (cJ, 40, .inr (.inl (vp_updL (fun _ => 0) 0 (1 : Int64))))), (q13, .inr (6, [.ref q14, .int (1 : Int32), .int (0 : Int32)])), (q14, .inl (cJ, 16, .inr (.inl (vp_updL (fun _ => 0) 0 (1 : Int64))))), (q15, .inl (cI, 160, .inl (fun _ => 0))), (q16, .inl (cI, 160, .inl (fun _ => 0))), (q17, .inr (0, [.ref q18, .ref q19, .int (0 : Int32), .int (2 : Int32)])), (q18, .inl (cI, 120, .inl (fun _ => 0))), (q19, .inl (cI, 40, .inl (fun _ => 0))), (q20, .inl (cI, 40, .inl (fun _ => 0))), (q21, .inl (cO, 2, .inr (.inr (.inr (.inr (fun _ => none))))))] H _ := w
  refine r_putF C0 hin w 0 rfl kf_TL 1 (by decide) lf_RX9_16 rfl rfl rfl rfl (Nat.le_of_ble_eq_true rfl) dX9_init_20 (ws' := [(q0, .inr (8, [.ref q1, .ref q21, .null, .int 0, .null])), (q1, .inr (7, [.ref q2, .ref q7])), (q2, .inr (5, [.ref q3, .ref q6, .int 0])), (q3, .inr (0, [.ref q4, .ref q5, .int (1 : Int32), .int (2 : Int32)])), (q4, .inl (cI, 24, .inl (fun _ => 0))), (q5, .inl (cI, 8, .inl (fun _ => 0))), (q6, .inl (cJ, 4, .inr (.inl (fun _ => 0)))), (q7, .inr (1, [.ref q8, .ref q10, .ref q17, .ref q20, .int 0, .int 200, .int (0 : Int32), .long (-1 : Int64), .int (0 : Int32), .int (0 : Int32)])), (q8, .inr (2, [.ref q9, .int (0 : Int32)])), (q9, .inl (cJ, 300, .inr (.inl (fun _ => 0)))), (q10, .inr (4, [.ref q11, .ref q13, .ref q15, .ref q16, .int (2 : Int32)])), (q11, .inr (6, [.ref q12, .int (1 : Int32), .int (0 : Int32)])), (q12, .inl (cJ, 40, .inr (.inl (vp_updL (fun _ => 0) 0 (1 : Int64))))), (q13, .inr (6, [.ref q14, .int (1 : Int32), .int (0 : Int32)])), (q14, .inl (cJ, 16, .inr (.inl (vp_updL (fun _ => 0) 0 (1 : Int64))))), (q15, .inl (cI, 160, .inl (fun _ => 0))), (q16, .inl (cI, 160, .inl (fun _ => 0))), (q17, .inr (0, [.ref q18, .ref q19, .int (0 : Int32), .int (2 : Int32)])), (q18, .inl (cI, 120, .inl (fun _ => 0))), (q19, .inl (cI, 40, .inl (fun _ => 0))), (q20, .inl (cI, 40, .inl (fun _ => 0))), (q21, .inl (cO, 2, .inr (.inr (.inr (.inr (fun _ => none))))))]) rfl (fun H locs w => ?_)
  refine lv_aload_n hx hb dX9_init_23 rfl (lv_at hl 0 rfl) ?_
  refine lv_bipush (v := (16 : Int32)) hx hb dX9_init_24 (by decide) ?_
  refine r_newI (N := 16) C0 w ac_cI (by decide) (by decide) (Nat.le_of_ble_eq_true rfl) ⟨Nat.le_of_ble_eq_true rfl, Nat.le_of_ble_eq_true rfl⟩ dX9_init_26 (fun q22 H w => ?_)
  have w : Wd s A D [(q0, .inr (8, [.ref q1, .ref q21, .null, .int 0, .null])), (q1, .inr (7, [.ref q2, .ref q7])), (q2, .inr (5, [.ref q3, .ref q6, .int 0])), (q3, .inr (0, [.ref q4, .ref q5, .int (1 : Int32), .int (2 : Int32)])), (q4, .inl (cI, 24, .inl (fun _ => 0))), (q5, .inl (cI, 8, .inl (fun _ => 0))), (q6, .inl (cJ, 4, .inr (.inl (fun _ => 0)))), (q7, .inr (1, [.ref q8, .ref q10, .ref q17, .ref q20, .int 0, .int 200, .int (0 : Int32), .long (-1 : Int64), .int (0 : Int32), .int (0 : Int32)])), (q8, .inr (2, [.ref q9, .int (0 : Int32)])), (q9, .inl (cJ, 300, .inr (.inl (fun _ => 0)))), (q10, .inr (4, [.ref q11, .ref q13, .ref q15, .ref q16, .int (2 : Int32)])), (q11, .inr (6, [.ref q12, .int (1 : Int32), .int (0 : Int32)])), (q12, .inl (cJ, 40, .inr (.inl (vp_updL (fun _ => 0) 0 (1 : Int64))))), (q13, .inr (6, [.ref q14, .int (1 : Int32), .int (0 : Int32)])), (q14, .inl (cJ, 16, .inr (.inl (vp_updL (fun _ => 0) 0 (1 : Int64))))), (q15, .inl (cI, 160, .inl (fun _ => 0))), (q16, .inl (cI, 160, .inl (fun _ => 0))), (q17, .inr (0, [.ref q18, .ref q19, .int (0 : Int32), .int (2 : Int32)])), (q18, .inl (cI, 120, .inl (fun _ => 0))), (q19, .inl (cI, 40, .inl (fun _ => 0))), (q20, .inl (cI, 40, .inl (fun _ => 0))), (q21, .inl (cO, 2, .inr (.inr (.inr (.inr (fun _ => none)))))), (q22, .inl (cI, 16, .inl (fun _ => 0)))] H _ := w
  refine r_putF C0 hin w 0 rfl kf_TL 2 (by decide) lf_RX9_20 rfl rfl rfl rfl (Nat.le_of_ble_eq_true rfl) dX9_init_28 (ws' := [(q0, .inr (8, [.ref q1, .ref q21, .ref q22, .int 0, .null])), (q1, .inr (7, [.ref q2, .ref q7])), (q2, .inr (5, [.ref q3, .ref q6, .int 0])), (q3, .inr (0, [.ref q4, .ref q5, .int (1 : Int32), .int (2 : Int32)])), (q4, .inl (cI, 24, .inl (fun _ => 0))), (q5, .inl (cI, 8, .inl (fun _ => 0))), (q6, .inl (cJ, 4, .inr (.inl (fun _ => 0)))), (q7, .inr (1, [.ref q8, .ref q10, .ref q17, .ref q20, .int 0, .int 200, .int (0 : Int32), .long (-1 : Int64), .int (0 : Int32), .int (0 : Int32)])), (q8, .inr (2, [.ref q9, .int (0 : Int32)])), (q9, .inl (cJ, 300, .inr (.inl (fun _ => 0)))), (q10, .inr (4, [.ref q11, .ref q13, .ref q15, .ref q16, .int (2 : Int32)])), (q11, .inr (6, [.ref q12, .int (1 : Int32), .int (0 : Int32)])), (q12, .inl (cJ, 40, .inr (.inl (vp_updL (fun _ => 0) 0 (1 : Int64))))), (q13, .inr (6, [.ref q14, .int (1 : Int32), .int (0 : Int32)])), (q14, .inl (cJ, 16, .inr (.inl (vp_updL (fun _ => 0) 0 (1 : Int64))))), (q15, .inl (cI, 160, .inl (fun _ => 0))), (q16, .inl (cI, 160, .inl (fun _ => 0))), (q17, .inr (0, [.ref q18, .ref q19, .int (0 : Int32), .int (2 : Int32)])), (q18, .inl (cI, 120, .inl (fun _ => 0))), (q19, .inl (cI, 40, .inl (fun _ => 0))), (q20, .inl (cI, 40, .inl (fun _ => 0))), (q21, .inl (cO, 2, .inr (.inr (.inr (.inr (fun _ => none)))))), (q22, .inl (cI, 16, .inl (fun _ => 0)))]) rfl (fun H locs w => ?_)
  refine lv_aload_n hx hb dX9_init_31 rfl (lv_at hl 0 rfl) ?_
  refine lv_iconst (v := (0 : Int32)) hx hb dX9_init_32 (by decide) ?_
  refine r_put C0 w 0 rfl kf_TL 3 (by decide) lf_RX9_24 rfl rfl rfl (Nat.le_of_ble_eq_true rfl) dX9_init_33 (ws' := [(q0, .inr (8, [.ref q1, .ref q21, .ref q22, .int 0, .null])), (q1, .inr (7, [.ref q2, .ref q7])), (q2, .inr (5, [.ref q3, .ref q6, .int 0])), (q3, .inr (0, [.ref q4, .ref q5, .int (1 : Int32), .int (2 : Int32)])), (q4, .inl (cI, 24, .inl (fun _ => 0))), (q5, .inl (cI, 8, .inl (fun _ => 0))), (q6, .inl (cJ, 4, .inr (.inl (fun _ => 0)))), (q7, .inr (1, [.ref q8, .ref q10, .ref q17, .ref q20, .int 0, .int 200, .int (0 : Int32), .long (-1 : Int64), .int (0 : Int32), .int (0 : Int32)])), (q8, .inr (2, [.ref q9, .int (0 : Int32)])), (q9, .inl (cJ, 300, .inr (.inl (fun _ => 0)))), (q10, .inr (4, [.ref q11, .ref q13, .ref q15, .ref q16, .int (2 : Int32)])), (q11, .inr (6, [.ref q12, .int (1 : Int32), .int (0 : Int32)])), (q12, .inl (cJ, 40, .inr (.inl (vp_updL (fun _ => 0) 0 (1 : Int64))))), (q13, .inr (6, [.ref q14, .int (1 : Int32), .int (0 : Int32)])), (q14, .inl (cJ, 16, .inr (.inl (vp_updL (fun _ => 0) 0 (1 : Int64))))), (q15, .inl (cI, 160, .inl (fun _ => 0))), (q16, .inl (cI, 160, .inl (fun _ => 0))), (q17, .inr (0, [.ref q18, .ref q19, .int (0 : Int32), .int (2 : Int32)])), (q18, .inl (cI, 120, .inl (fun _ => 0))), (q19, .inl (cI, 40, .inl (fun _ => 0))), (q20, .inl (cI, 40, .inl (fun _ => 0))), (q21, .inl (cO, 2, .inr (.inr (.inr (.inr (fun _ => none)))))), (q22, .inl (cI, 16, .inl (fun _ => 0)))]) rfl (fun H locs w => ?_)
  refine lv_aload_n hx hb dX9_init_36 rfl (lv_at hl 0 rfl) ?_
  refine r_new (fs := [.null, .null, .null, .null, .null, .int 0, .int 0]) C0 w kf_Se lc_RX9_28 in_Se ii_Se dv_Se ⟨Nat.le_of_ble_eq_true rfl, Nat.le_of_ble_eq_true rfl⟩ dX9_init_37 (fun q23 H w => ?_)
  have w : Wd s A D [(q0, .inr (8, [.ref q1, .ref q21, .ref q22, .int 0, .null])), (q1, .inr (7, [.ref q2, .ref q7])), (q2, .inr (5, [.ref q3, .ref q6, .int 0])), (q3, .inr (0, [.ref q4, .ref q5, .int (1 : Int32), .int (2 : Int32)])), (q4, .inl (cI, 24, .inl (fun _ => 0))), (q5, .inl (cI, 8, .inl (fun _ => 0))), (q6, .inl (cJ, 4, .inr (.inl (fun _ => 0)))), (q7, .inr (1, [.ref q8, .ref q10, .ref q17, .ref q20, .int 0, .int 200, .int (0 : Int32), .long (-1 : Int64), .int (0 : Int32), .int (0 : Int32)])), (q8, .inr (2, [.ref q9, .int (0 : Int32)])), (q9, .inl (cJ, 300, .inr (.inl (fun _ => 0)))), (q10, .inr (4, [.ref q11, .ref q13, .ref q15, .ref q16, .int (2 : Int32)])), (q11, .inr (6, [.ref q12, .int (1 : Int32), .int (0 : Int32)])), (q12, .inl (cJ, 40, .inr (.inl (vp_updL (fun _ => 0) 0 (1 : Int64))))), (q13, .inr (6, [.ref q14, .int (1 : Int32), .int (0 : Int32)])), (q14, .inl (cJ, 16, .inr (.inl (vp_updL (fun _ => 0) 0 (1 : Int64))))), (q15, .inl (cI, 160, .inl (fun _ => 0))), (q16, .inl (cI, 160, .inl (fun _ => 0))), (q17, .inr (0, [.ref q18, .ref q19, .int (0 : Int32), .int (2 : Int32)])), (q18, .inl (cI, 120, .inl (fun _ => 0))), (q19, .inl (cI, 40, .inl (fun _ => 0))), (q20, .inl (cI, 40, .inl (fun _ => 0))), (q21, .inl (cO, 2, .inr (.inr (.inr (.inr (fun _ => none)))))), (q22, .inl (cI, 16, .inl (fun _ => 0))), (q23, .inr (3, [.null, .null, .null, .null, .null, .int 0, .int 0]))] H _ := w
  refine lv_dup hx hb dX9_init_40 rfl ?_
  refine r_NN (As := []) (rest := [.ref q23, .ref q0]) C0 hz w (c_Se_init (q0 := q23)) (sp_of (ws := [(q0, .inr (8, [.ref q1, .ref q21, .ref q22, .int 0, .null])), (q1, .inr (7, [.ref q2, .ref q7])), (q2, .inr (5, [.ref q3, .ref q6, .int 0])), (q3, .inr (0, [.ref q4, .ref q5, .int (1 : Int32), .int (2 : Int32)])), (q4, .inl (cI, 24, .inl (fun _ => 0))), (q5, .inl (cI, 8, .inl (fun _ => 0))), (q6, .inl (cJ, 4, .inr (.inl (fun _ => 0)))), (q7, .inr (1, [.ref q8, .ref q10, .ref q17, .ref q20, .int 0, .int 200, .int (0 : Int32), .long (-1 : Int64), .int (0 : Int32), .int (0 : Int32)])), (q8, .inr (2, [.ref q9, .int (0 : Int32)])), (q9, .inl (cJ, 300, .inr (.inl (fun _ => 0)))), (q10, .inr (4, [.ref q11, .ref q13, .ref q15, .ref q16, .int (2 : Int32)])), (q11, .inr (6, [.ref q12, .int (1 : Int32), .int (0 : Int32)])), (q12, .inl (cJ, 40, .inr (.inl (vp_updL (fun _ => 0) 0 (1 : Int64))))), (q13, .inr (6, [.ref q14, .int (1 : Int32), .int (0 : Int32)])), (q14, .inl (cJ, 16, .inr (.inl (vp_updL (fun _ => 0) 0 (1 : Int64))))), (q15, .inl (cI, 160, .inl (fun _ => 0))), (q16, .inl (cI, 160, .inl (fun _ => 0))), (q17, .inr (0, [.ref q18, .ref q19, .int (0 : Int32), .int (2 : Int32)])), (q18, .inl (cI, 120, .inl (fun _ => 0))), (q19, .inl (cI, 40, .inl (fun _ => 0))), (q20, .inl (cI, 40, .inl (fun _ => 0))), (q21, .inl (cO, 2, .inr (.inr (.inr (.inr (fun _ => none)))))), (q22, .inl (cI, 16, .inl (fun _ => 0))), (q23, .inr (3, [.null, .null, .null, .null, .null, .int 0, .int 0]))]) (wc := [(q23, .inr (3, [.null, .null, .null, .null, .null, .int 0, .int 0]))]) [23] [0, 1, 2, 3, 4, 5, 6, 7, 8, 9, 10, 11, 12, 13, 14, 15, 16, 17, 18, 19, 20, 21, 22] rfl rfl) hz.2.2.2.1 mi_Se_init ⟨rfl, rfl⟩ ⟨by decide, by decide⟩ ⟨Nat.le_of_ble_eq_true rfl, Nat.le_of_ble_eq_true rfl⟩ rfl hl rfl (Nat.le_of_ble_eq_true rfl) dX9_init_41 (fun ws1 H locs hPo w => ?_)
  obtain ⟨q24, q25, q26, q27, q28, rfl⟩ := hPo
  have w : Wd s A D [(q0, .inr (8, [.ref q1, .ref q21, .ref q22, .int 0, .null])), (q1, .inr (7, [.ref q2, .ref q7])), (q2, .inr (5, [.ref q3, .ref q6, .int 0])), (q3, .inr (0, [.ref q4, .ref q5, .int (1 : Int32), .int (2 : Int32)])), (q4, .inl (cI, 24, .inl (fun _ => 0))), (q5, .inl (cI, 8, .inl (fun _ => 0))), (q6, .inl (cJ, 4, .inr (.inl (fun _ => 0)))), (q7, .inr (1, [.ref q8, .ref q10, .ref q17, .ref q20, .int 0, .int 200, .int (0 : Int32), .long (-1 : Int64), .int (0 : Int32), .int (0 : Int32)])), (q8, .inr (2, [.ref q9, .int (0 : Int32)])), (q9, .inl (cJ, 300, .inr (.inl (fun _ => 0)))), (q10, .inr (4, [.ref q11, .ref q13, .ref q15, .ref q16, .int (2 : Int32)])), (q11, .inr (6, [.ref q12, .int (1 : Int32), .int (0 : Int32)])), (q12, .inl (cJ, 40, .inr (.inl (vp_updL (fun _ => 0) 0 (1 : Int64))))), (q13, .inr (6, [.ref q14, .int (1 : Int32), .int (0 : Int32)])), (q14, .inl (cJ, 16, .inr (.inl (vp_updL (fun _ => 0) 0 (1 : Int64))))), (q15, .inl (cI, 160, .inl (fun _ => 0))), (q16, .inl (cI, 160, .inl (fun _ => 0))), (q17, .inr (0, [.ref q18, .ref q19, .int (0 : Int32), .int (2 : Int32)])), (q18, .inl (cI, 120, .inl (fun _ => 0))), (q19, .inl (cI, 40, .inl (fun _ => 0))), (q20, .inl (cI, 40, .inl (fun _ => 0))), (q21, .inl (cO, 2, .inr (.inr (.inr (.inr (fun _ => none)))))), (q22, .inl (cI, 16, .inl (fun _ => 0))), (q23, .inr (3, [.ref q24, .ref q25, .ref q26, .ref q27, .ref q28, .int (-1), .int 0])), (q24, .inl (cI, 320, .inl (fun _ => 0))), (q25, .inl (cI, 320, .inl (fun _ => 0))), (q26, .inl (cI, 320, .inl (fun _ => 0))), (q27, .inl (cI, 320, .inl (fun _ => 0))), (q28, .inl (cI, 320, .inl (fun _ => 0)))] H locs := w
  refine r_putF C0 hin w 0 rfl kf_TL 4 (by decide) lf_RX9_31 rfl rfl rfl rfl (Nat.le_of_ble_eq_true rfl) dX9_init_44 (ws' := [(q0, .inr (8, [.ref q1, .ref q21, .ref q22, .int 0, .ref q23])), (q1, .inr (7, [.ref q2, .ref q7])), (q2, .inr (5, [.ref q3, .ref q6, .int 0])), (q3, .inr (0, [.ref q4, .ref q5, .int (1 : Int32), .int (2 : Int32)])), (q4, .inl (cI, 24, .inl (fun _ => 0))), (q5, .inl (cI, 8, .inl (fun _ => 0))), (q6, .inl (cJ, 4, .inr (.inl (fun _ => 0)))), (q7, .inr (1, [.ref q8, .ref q10, .ref q17, .ref q20, .int 0, .int 200, .int (0 : Int32), .long (-1 : Int64), .int (0 : Int32), .int (0 : Int32)])), (q8, .inr (2, [.ref q9, .int (0 : Int32)])), (q9, .inl (cJ, 300, .inr (.inl (fun _ => 0)))), (q10, .inr (4, [.ref q11, .ref q13, .ref q15, .ref q16, .int (2 : Int32)])), (q11, .inr (6, [.ref q12, .int (1 : Int32), .int (0 : Int32)])), (q12, .inl (cJ, 40, .inr (.inl (vp_updL (fun _ => 0) 0 (1 : Int64))))), (q13, .inr (6, [.ref q14, .int (1 : Int32), .int (0 : Int32)])), (q14, .inl (cJ, 16, .inr (.inl (vp_updL (fun _ => 0) 0 (1 : Int64))))), (q15, .inl (cI, 160, .inl (fun _ => 0))), (q16, .inl (cI, 160, .inl (fun _ => 0))), (q17, .inr (0, [.ref q18, .ref q19, .int (0 : Int32), .int (2 : Int32)])), (q18, .inl (cI, 120, .inl (fun _ => 0))), (q19, .inl (cI, 40, .inl (fun _ => 0))), (q20, .inl (cI, 40, .inl (fun _ => 0))), (q21, .inl (cO, 2, .inr (.inr (.inr (.inr (fun _ => none)))))), (q22, .inl (cI, 16, .inl (fun _ => 0))), (q23, .inr (3, [.ref q24, .ref q25, .ref q26, .ref q27, .ref q28, .int (-1), .int 0])), (q24, .inl (cI, 320, .inl (fun _ => 0))), (q25, .inl (cI, 320, .inl (fun _ => 0))), (q26, .inl (cI, 320, .inl (fun _ => 0))), (q27, .inl (cI, 320, .inl (fun _ => 0))), (q28, .inl (cI, 320, .inl (fun _ => 0)))]) rfl (fun H locs w => ?_)
  refine W.widen (k := 28) (n := 2573) (Nat.le_of_ble_eq_true rfl) (Nat.le_of_ble_eq_true rfl) ?_
  exact hQ 47 ls H _ _ dX9_init_47 ⟨q1, q2, q3, q4, q5, q6, q7, q8, q9, q10, q11, q12, q13, q14, q15, q16, q17, q18, q19, q20, q21, q22, q23, q24, q25, q26, q27, q28, rfl⟩ w
abbrev po_Mo_init (cI cJ cZ cO : ClassId) (q0 : Nat) : va_W → Prop := fun w1 => ∃ (q1 q2 q3 q4 q5 q6 q7 q8 q9 q10 q11 q12 q13 q14 q15 : Nat), w1 = [(q0, .inr (9, [.ref q1, .ref q2, .ref q3, .ref q4, .ref q5, .ref q6, .int 0, .ref q7, .ref q8, .ref q9, .ref q10, .ref q11, .ref q12, .int 0, .ref q13, .long 0, .ref q14, .int 0, .ref q15, .long 0])), (q1, .inl (cI, 561, .inl (upd (upd (upd (upd (upd (upd (upd (upd (upd (upd (upd (fun _ => 0) 0 (1 : Int32)) 1 (2 : Int32)) 36 (200 : Int32)) 37 (0 : Int32)) 38 (1 : Int32)) 39 (1 : Int32)) 40 (0 : Int32)) 41 (0 : Int32)) 42 (0 : Int32)) 43 (0 : Int32)) 44 (-1 : Int32)))), (q2, .inl (cI, 1122, .inl (fun _ => 0))), (q3, .inl (cJ, 360, .inr (.inl (vp_updL (vp_updL (fun _ => 0) 304 (0 : Int64)) 344 (0 : Int64))))), (q4, .inl (cJ, 720, .inr (.inl (fun _ => 0)))), (q5, .inl (cZ, 2, .inl (fun _ => 0))), (q6, .inl (cI, 16, .inl (fun _ => 0))), (q7, .inl (cI, 8, .inl (fun _ => 0))), (q8, .inl (cI, 320, .inl (fun _ => 0))), (q9, .inl (cI, 320, .inl (fun _ => 0))), (q10, .inl (cI, 320, .inl (fun _ => 0))), (q11, .inl (cZ, 320, .inl (fun _ => 0))), (q12, .inl (cI, 320, .inl (fun _ => 0))), (q13, .inl (cI, 160, .inl (fun _ => 0))), (q14, .inl (cJ, 17, .inr (.inl (fun _ => 0)))), (q15, .inl (cI, 40, .inl (fun _ => 0)))]
abbrev rm_Mo_init : Room := { frames := 1, cells := 15, slots := 4606, locals := 20 }
set_option maxRecDepth 100000 in
theorem c_Mo_init {l : Launch} {D : va_G} {cI cJ cZ cO : ClassId} {q0 : Nat} : ctN l D cI cJ cZ cO yX10_init cX10_init 1 rm_Mo_init 15 4606 [.ref q0] [(q0, .inr (9, [.null, .null, .null, .null, .null, .null, .int 0, .null, .null, .null, .null, .null, .null, .int 0, .null, .long 0, .null, .int 0, .null, .long 0]))] (po_Mo_init cI cJ cZ cO q0) := by
  refine ctN_of (by decide) rfl (Nat.le_of_ble_eq_true rfl) ?_
  intro p e s m below meth c Q A ls C0 hz hin hQ w hl
  have hl : lv_has ls 1 [(0, .ref q0)] := hl
  generalize List.toArray (α := Value) [.ref q0] = args at C0 hQ ⊢
  obtain ⟨hx, hb, hml, hown, hts, -, -⟩ := id C0
  obtain ⟨H, eH⟩ : ∃ z, z = s.heap := ⟨_, rfl⟩
  obtain ⟨locs, eL⟩ : ∃ z : List Loc, z = [] := ⟨_, rfl⟩
  rw [← eH, ← eL] at w ⊢
  refine lv_aload_n hx hb dX10_init_0 rfl (lv_at hl 0 rfl) ?_
  refine r_objInit C0 hl lm_RX10_1 oi_in oi_co ⟨by decide, by decide⟩ (Nat.le_of_ble_eq_true rfl) dX10_init_1 ?_
  refine lv_aload_n hx hb dX10_init_4 rfl (lv_at hl 0 rfl) ?_
  refine lv_sipush (v := (561 : Int32)) hx hb dX10_init_5 (by decide) ?_
  refine r_newI (N := 561) C0 w ac_cI (by decide) (by decide) (Nat.le_of_ble_eq_true rfl) ⟨Nat.le_of_ble_eq_true rfl, Nat.le_of_ble_eq_true rfl⟩ dX10_init_8 (fun q1 H w => ?_)
  have w : Wd s A D [(q0, .inr (9, [.null, .null, .null, .null, .null, .null, .int 0, .null, .null, .null, .null, .null, .null, .int 0, .null, .long 0, .null, .int 0, .null, .long 0])), (q1, .inl (cI, 561, .inl (fun _ => 0)))] H _ := w
  refine r_putF C0 hin w 0 rfl kf_Mo 0 (by decide) lf_RX10_7 rfl rfl rfl rfl (Nat.le_of_ble_eq_true rfl) dX10_init_10 (ws' := [(q0, .inr (9, [.ref q1, .null, .null, .null, .null, .null, .int 0, .null, .null, .null, .null, .null, .null, .int 0, .null, .long 0, .null, .int 0, .null, .long 0])), (q1, .inl (cI, 561, .inl (fun _ => 0)))]) rfl (fun H locs w => ?_)
  refine lv_aload_n hx hb dX10_init_13 rfl (lv_at hl 0 rfl) ?_
  refine lv_sipush (v := (1122 : Int32)) hx hb dX10_init_14 (by decide) ?_
  refine r_newI (N := 1122) C0 w ac_cI (by decide) (by decide) (Nat.le_of_ble_eq_true rfl) ⟨Nat.le_of_ble_eq_true rfl, Nat.le_of_ble_eq_true rfl⟩ dX10_init_17 (fun q2 H w => ?_)
  have w : Wd s A D [(q0, .inr (9, [.ref q1, .null, .null, .null, .null, .null, .int 0, .null, .null, .null, .null, .null, .null, .int 0, .null, .long 0, .null, .int 0, .null, .long 0])), (q1, .inl (cI, 561, .inl (fun _ => 0))), (q2, .inl (cI, 1122, .inl (fun _ => 0)))] H _ := w
  refine r_putF C0 hin w 0 rfl kf_Mo 1 (by decide) lf_RX10_13 rfl rfl rfl rfl (Nat.le_of_ble_eq_true rfl) dX10_init_19 (ws' := [(q0, .inr (9, [.ref q1, .ref q2, .null, .null, .null, .null, .int 0, .null, .null, .null, .null, .null, .null, .int 0, .null, .long 0, .null, .int 0, .null, .long 0])), (q1, .inl (cI, 561, .inl (fun _ => 0))), (q2, .inl (cI, 1122, .inl (fun _ => 0)))]) rfl (fun H locs w => ?_)
  refine lv_aload_n hx hb dX10_init_22 rfl (lv_at hl 0 rfl) ?_
  refine lv_sipush (v := (360 : Int32)) hx hb dX10_init_23 (by decide) ?_
  refine r_newJ (N := 360) C0 w ac_cJ (by decide) (by decide) (Nat.le_of_ble_eq_true rfl) ⟨Nat.le_of_ble_eq_true rfl, Nat.le_of_ble_eq_true rfl⟩ dX10_init_26 (fun q3 H w => ?_)
  have w : Wd s A D [(q0, .inr (9, [.ref q1, .ref q2, .null, .null, .null, .null, .int 0, .null, .null, .null, .null, .null, .null, .int 0, .null, .long 0, .null, .int 0, .null, .long 0])), (q1, .inl (cI, 561, .inl (fun _ => 0))), (q2, .inl (cI, 1122, .inl (fun _ => 0))), (q3, .inl (cJ, 360, .inr (.inl (fun _ => 0))))] H _ := w
  refine r_putF C0 hin w 0 rfl kf_Mo 2 (by decide) lf_RX10_16 rfl rfl rfl rfl (Nat.le_of_ble_eq_true rfl) dX10_init_28 (ws' := [(q0, .inr (9, [.ref q1, .ref q2, .ref q3, .null, .null, .null, .int 0, .null, .null, .null, .null, .null, .null, .int 0, .null, .long 0, .null, .int 0, .null, .long 0])), (q1, .inl (cI, 561, .inl (fun _ => 0))), (q2, .inl (cI, 1122, .inl (fun _ => 0))), (q3, .inl (cJ, 360, .inr (.inl (fun _ => 0))))]) rfl (fun H locs w => ?_)
  refine lv_aload_n hx hb dX10_init_31 rfl (lv_at hl 0 rfl) ?_
  refine lv_sipush (v := (720 : Int32)) hx hb dX10_init_32 (by decide) ?_
  refine r_newJ (N := 720) C0 w ac_cJ (by decide) (by decide) (Nat.le_of_ble_eq_true rfl) ⟨Nat.le_of_ble_eq_true rfl, Nat.le_of_ble_eq_true rfl⟩ dX10_init_35 (fun q4 H w => ?_)
  have w : Wd s A D [(q0, .inr (9, [.ref q1, .ref q2, .ref q3, .null, .null, .null, .int 0, .null, .null, .null, .null, .null, .null, .int 0, .null, .long 0, .null, .int 0, .null, .long 0])), (q1, .inl (cI, 561, .inl (fun _ => 0))), (q2, .inl (cI, 1122, .inl (fun _ => 0))), (q3, .inl (cJ, 360, .inr (.inl (fun _ => 0)))), (q4, .inl (cJ, 720, .inr (.inl (fun _ => 0))))] H _ := w
  refine r_putF C0 hin w 0 rfl kf_Mo 3 (by decide) lf_RX10_20 rfl rfl rfl rfl (Nat.le_of_ble_eq_true rfl) dX10_init_37 (ws' := [(q0, .inr (9, [.ref q1, .ref q2, .ref q3, .ref q4, .null, .null, .int 0, .null, .null, .null, .null, .null, .null, .int 0, .null, .long 0, .null, .int 0, .null, .long 0])), (q1, .inl (cI, 561, .inl (fun _ => 0))), (q2, .inl (cI, 1122, .inl (fun _ => 0))), (q3, .inl (cJ, 360, .inr (.inl (fun _ => 0)))), (q4, .inl (cJ, 720, .inr (.inl (fun _ => 0))))]) rfl (fun H locs w => ?_)
  refine lv_aload_n hx hb dX10_init_40 rfl (lv_at hl 0 rfl) ?_
  refine lv_iconst (v := (2 : Int32)) hx hb dX10_init_41 (by decide) ?_
  refine r_newZ (N := 2) C0 w ac_cZ (by decide) (by decide) (Nat.le_of_ble_eq_true rfl) ⟨Nat.le_of_ble_eq_true rfl, Nat.le_of_ble_eq_true rfl⟩ dX10_init_42 (fun q5 H w => ?_)
  have w : Wd s A D [(q0, .inr (9, [.ref q1, .ref q2, .ref q3, .ref q4, .null, .null, .int 0, .null, .null, .null, .null, .null, .null, .int 0, .null, .long 0, .null, .int 0, .null, .long 0])), (q1, .inl (cI, 561, .inl (fun _ => 0))), (q2, .inl (cI, 1122, .inl (fun _ => 0))), (q3, .inl (cJ, 360, .inr (.inl (fun _ => 0)))), (q4, .inl (cJ, 720, .inr (.inl (fun _ => 0)))), (q5, .inl (cZ, 2, .inl (fun _ => 0)))] H _ := w
  refine r_putF C0 hin w 0 rfl kf_Mo 4 (by decide) lf_RX10_23 rfl rfl rfl rfl (Nat.le_of_ble_eq_true rfl) dX10_init_44 (ws' := [(q0, .inr (9, [.ref q1, .ref q2, .ref q3, .ref q4, .ref q5, .null, .int 0, .null, .null, .null, .null, .null, .null, .int 0, .null, .long 0, .null, .int 0, .null, .long 0])), (q1, .inl (cI, 561, .inl (fun _ => 0))), (q2, .inl (cI, 1122, .inl (fun _ => 0))), (q3, .inl (cJ, 360, .inr (.inl (fun _ => 0)))), (q4, .inl (cJ, 720, .inr (.inl (fun _ => 0)))), (q5, .inl (cZ, 2, .inl (fun _ => 0)))]) rfl (fun H locs w => ?_)
  refine lv_aload_n hx hb dX10_init_47 rfl (lv_at hl 0 rfl) ?_
  refine lv_bipush (v := (16 : Int32)) hx hb dX10_init_48 (by decide) ?_
  refine r_newI (N := 16) C0 w ac_cI (by decide) (by decide) (Nat.le_of_ble_eq_true rfl) ⟨Nat.le_of_ble_eq_true rfl, Nat.le_of_ble_eq_true rfl⟩ dX10_init_50 (fun q6 H w => ?_)
  have w : Wd s A D [(q0, .inr (9, [.ref q1, .ref q2, .ref q3, .ref q4, .ref q5, .null, .int 0, .null, .null, .null, .null, .null, .null, .int 0, .null, .long 0, .null, .int 0, .null, .long 0])), (q1, .inl (cI, 561, .inl (fun _ => 0))), (q2, .inl (cI, 1122, .inl (fun _ => 0))), (q3, .inl (cJ, 360, .inr (.inl (fun _ => 0)))), (q4, .inl (cJ, 720, .inr (.inl (fun _ => 0)))), (q5, .inl (cZ, 2, .inl (fun _ => 0))), (q6, .inl (cI, 16, .inl (fun _ => 0)))] H _ := w
  refine r_putF C0 hin w 0 rfl kf_Mo 5 (by decide) lf_RX10_27 rfl rfl rfl rfl (Nat.le_of_ble_eq_true rfl) dX10_init_52 (ws' := [(q0, .inr (9, [.ref q1, .ref q2, .ref q3, .ref q4, .ref q5, .ref q6, .int 0, .null, .null, .null, .null, .null, .null, .int 0, .null, .long 0, .null, .int 0, .null, .long 0])), (q1, .inl (cI, 561, .inl (fun _ => 0))), (q2, .inl (cI, 1122, .inl (fun _ => 0))), (q3, .inl (cJ, 360, .inr (.inl (fun _ => 0)))), (q4, .inl (cJ, 720, .inr (.inl (fun _ => 0)))), (q5, .inl (cZ, 2, .inl (fun _ => 0))), (q6, .inl (cI, 16, .inl (fun _ => 0)))]) rfl (fun H locs w => ?_)
  refine lv_aload_n hx hb dX10_init_55 rfl (lv_at hl 0 rfl) ?_
  refine lv_bipush (v := (8 : Int32)) hx hb dX10_init_56 (by decide) ?_
  refine r_newI (N := 8) C0 w ac_cI (by decide) (by decide) (Nat.le_of_ble_eq_true rfl) ⟨Nat.le_of_ble_eq_true rfl, Nat.le_of_ble_eq_true rfl⟩ dX10_init_58 (fun q7 H w => ?_)
  have w : Wd s A D [(q0, .inr (9, [.ref q1, .ref q2, .ref q3, .ref q4, .ref q5, .ref q6, .int 0, .null, .null, .null, .null, .null, .null, .int 0, .null, .long 0, .null, .int 0, .null, .long 0])), (q1, .inl (cI, 561, .inl (fun _ => 0))), (q2, .inl (cI, 1122, .inl (fun _ => 0))), (q3, .inl (cJ, 360, .inr (.inl (fun _ => 0)))), (q4, .inl (cJ, 720, .inr (.inl (fun _ => 0)))), (q5, .inl (cZ, 2, .inl (fun _ => 0))), (q6, .inl (cI, 16, .inl (fun _ => 0))), (q7, .inl (cI, 8, .inl (fun _ => 0)))] H _ := w
  refine r_putF C0 hin w 0 rfl kf_Mo 7 (by decide) lf_RX10_30 rfl rfl rfl rfl (Nat.le_of_ble_eq_true rfl) dX10_init_60 (ws' := [(q0, .inr (9, [.ref q1, .ref q2, .ref q3, .ref q4, .ref q5, .ref q6, .int 0, .ref q7, .null, .null, .null, .null, .null, .int 0, .null, .long 0, .null, .int 0, .null, .long 0])), (q1, .inl (cI, 561, .inl (fun _ => 0))), (q2, .inl (cI, 1122, .inl (fun _ => 0))), (q3, .inl (cJ, 360, .inr (.inl (fun _ => 0)))), (q4, .inl (cJ, 720, .inr (.inl (fun _ => 0)))), (q5, .inl (cZ, 2, .inl (fun _ => 0))), (q6, .inl (cI, 16, .inl (fun _ => 0))), (q7, .inl (cI, 8, .inl (fun _ => 0)))]) rfl (fun H locs w => ?_)
  refine lv_aload_n hx hb dX10_init_63 rfl (lv_at hl 0 rfl) ?_
  refine lv_sipush (v := (320 : Int32)) hx hb dX10_init_64 (by decide) ?_
  refine r_newI (N := 320) C0 w ac_cI (by decide) (by decide) (Nat.le_of_ble_eq_true rfl) ⟨Nat.le_of_ble_eq_true rfl, Nat.le_of_ble_eq_true rfl⟩ dX10_init_67 (fun q8 H w => ?_)
  have w : Wd s A D [(q0, .inr (9, [.ref q1, .ref q2, .ref q3, .ref q4, .ref q5, .ref q6, .int 0, .ref q7, .null, .null, .null, .null, .null, .int 0, .null, .long 0, .null, .int 0, .null, .long 0])), (q1, .inl (cI, 561, .inl (fun _ => 0))), (q2, .inl (cI, 1122, .inl (fun _ => 0))), (q3, .inl (cJ, 360, .inr (.inl (fun _ => 0)))), (q4, .inl (cJ, 720, .inr (.inl (fun _ => 0)))), (q5, .inl (cZ, 2, .inl (fun _ => 0))), (q6, .inl (cI, 16, .inl (fun _ => 0))), (q7, .inl (cI, 8, .inl (fun _ => 0))), (q8, .inl (cI, 320, .inl (fun _ => 0)))] H _ := w
  refine r_putF C0 hin w 0 rfl kf_Mo 8 (by decide) lf_RX10_33 rfl rfl rfl rfl (Nat.le_of_ble_eq_true rfl) dX10_init_69 (ws' := [(q0, .inr (9, [.ref q1, .ref q2, .ref q3, .ref q4, .ref q5, .ref q6, .int 0, .ref q7, .ref q8, .null, .null, .null, .null, .int 0, .null, .long 0, .null, .int 0, .null, .long 0])), (q1, .inl (cI, 561, .inl (fun _ => 0))), (q2, .inl (cI, 1122, .inl (fun _ => 0))), (q3, .inl (cJ, 360, .inr (.inl (fun _ => 0)))), (q4, .inl (cJ, 720, .inr (.inl (fun _ => 0)))), (q5, .inl (cZ, 2, .inl (fun _ => 0))), (q6, .inl (cI, 16, .inl (fun _ => 0))), (q7, .inl (cI, 8, .inl (fun _ => 0))), (q8, .inl (cI, 320, .inl (fun _ => 0)))]) rfl (fun H locs w => ?_)
  refine lv_aload_n hx hb dX10_init_72 rfl (lv_at hl 0 rfl) ?_
  refine lv_sipush (v := (320 : Int32)) hx hb dX10_init_73 (by decide) ?_
  refine r_newI (N := 320) C0 w ac_cI (by decide) (by decide) (Nat.le_of_ble_eq_true rfl) ⟨Nat.le_of_ble_eq_true rfl, Nat.le_of_ble_eq_true rfl⟩ dX10_init_76 (fun q9 H w => ?_)
  have w : Wd s A D [(q0, .inr (9, [.ref q1, .ref q2, .ref q3, .ref q4, .ref q5, .ref q6, .int 0, .ref q7, .ref q8, .null, .null, .null, .null, .int 0, .null, .long 0, .null, .int 0, .null, .long 0])), (q1, .inl (cI, 561, .inl (fun _ => 0))), (q2, .inl (cI, 1122, .inl (fun _ => 0))), (q3, .inl (cJ, 360, .inr (.inl (fun _ => 0)))), (q4, .inl (cJ, 720, .inr (.inl (fun _ => 0)))), (q5, .inl (cZ, 2, .inl (fun _ => 0))), (q6, .inl (cI, 16, .inl (fun _ => 0))), (q7, .inl (cI, 8, .inl (fun _ => 0))), (q8, .inl (cI, 320, .inl (fun _ => 0))), (q9, .inl (cI, 320, .inl (fun _ => 0)))] H _ := w
  refine r_putF C0 hin w 0 rfl kf_Mo 9 (by decide) lf_RX10_36 rfl rfl rfl rfl (Nat.le_of_ble_eq_true rfl) dX10_init_78 (ws' := [(q0, .inr (9, [.ref q1, .ref q2, .ref q3, .ref q4, .ref q5, .ref q6, .int 0, .ref q7, .ref q8, .ref q9, .null, .null, .null, .int 0, .null, .long 0, .null, .int 0, .null, .long 0])), (q1, .inl (cI, 561, .inl (fun _ => 0))), (q2, .inl (cI, 1122, .inl (fun _ => 0))), (q3, .inl (cJ, 360, .inr (.inl (fun _ => 0)))), (q4, .inl (cJ, 720, .inr (.inl (fun _ => 0)))), (q5, .inl (cZ, 2, .inl (fun _ => 0))), (q6, .inl (cI, 16, .inl (fun _ => 0))), (q7, .inl (cI, 8, .inl (fun _ => 0))), (q8, .inl (cI, 320, .inl (fun _ => 0))), (q9, .inl (cI, 320, .inl (fun _ => 0)))]) rfl (fun H locs w => ?_)
  refine lv_aload_n hx hb dX10_init_81 rfl (lv_at hl 0 rfl) ?_
  refine lv_sipush (v := (320 : Int32)) hx hb dX10_init_82 (by decide) ?_
  refine r_newI (N := 320) C0 w ac_cI (by decide) (by decide) (Nat.le_of_ble_eq_true rfl) ⟨Nat.le_of_ble_eq_true rfl, Nat.le_of_ble_eq_true rfl⟩ dX10_init_85 (fun q10 H w => ?_)
  have w : Wd s A D [(q0, .inr (9, [.ref q1, .ref q2, .ref q3, .ref q4, .ref q5, .ref q6, .int 0, .ref q7, .ref q8, .ref q9, .null, .null, .null, .int 0, .null, .long 0, .null, .int 0, .null, .long 0])), (q1, .inl (cI, 561, .inl (fun _ => 0))), (q2, .inl (cI, 1122, .inl (fun _ => 0))), (q3, .inl (cJ, 360, .inr (.inl (fun _ => 0)))), (q4, .inl (cJ, 720, .inr (.inl (fun _ => 0)))), (q5, .inl (cZ, 2, .inl (fun _ => 0))), (q6, .inl (cI, 16, .inl (fun _ => 0))), (q7, .inl (cI, 8, .inl (fun _ => 0))), (q8, .inl (cI, 320, .inl (fun _ => 0))), (q9, .inl (cI, 320, .inl (fun _ => 0))), (q10, .inl (cI, 320, .inl (fun _ => 0)))] H _ := w
  refine r_putF C0 hin w 0 rfl kf_Mo 10 (by decide) lf_RX10_39 rfl rfl rfl rfl (Nat.le_of_ble_eq_true rfl) dX10_init_87 (ws' := [(q0, .inr (9, [.ref q1, .ref q2, .ref q3, .ref q4, .ref q5, .ref q6, .int 0, .ref q7, .ref q8, .ref q9, .ref q10, .null, .null, .int 0, .null, .long 0, .null, .int 0, .null, .long 0])), (q1, .inl (cI, 561, .inl (fun _ => 0))), (q2, .inl (cI, 1122, .inl (fun _ => 0))), (q3, .inl (cJ, 360, .inr (.inl (fun _ => 0)))), (q4, .inl (cJ, 720, .inr (.inl (fun _ => 0)))), (q5, .inl (cZ, 2, .inl (fun _ => 0))), (q6, .inl (cI, 16, .inl (fun _ => 0))), (q7, .inl (cI, 8, .inl (fun _ => 0))), (q8, .inl (cI, 320, .inl (fun _ => 0))), (q9, .inl (cI, 320, .inl (fun _ => 0))), (q10, .inl (cI, 320, .inl (fun _ => 0)))]) rfl (fun H locs w => ?_)
  refine lv_aload_n hx hb dX10_init_90 rfl (lv_at hl 0 rfl) ?_
  refine lv_sipush (v := (320 : Int32)) hx hb dX10_init_91 (by decide) ?_
  refine r_newZ (N := 320) C0 w ac_cZ (by decide) (by decide) (Nat.le_of_ble_eq_true rfl) ⟨Nat.le_of_ble_eq_true rfl, Nat.le_of_ble_eq_true rfl⟩ dX10_init_94 (fun q11 H w => ?_)
  have w : Wd s A D [(q0, .inr (9, [.ref q1, .ref q2, .ref q3, .ref q4, .ref q5, .ref q6, .int 0, .ref q7, .ref q8, .ref q9, .ref q10, .null, .null, .int 0, .null, .long 0, .null, .int 0, .null, .long 0])), (q1, .inl (cI, 561, .inl (fun _ => 0))), (q2, .inl (cI, 1122, .inl (fun _ => 0))), (q3, .inl (cJ, 360, .inr (.inl (fun _ => 0)))), (q4, .inl (cJ, 720, .inr (.inl (fun _ => 0)))), (q5, .inl (cZ, 2, .inl (fun _ => 0))), (q6, .inl (cI, 16, .inl (fun _ => 0))), (q7, .inl (cI, 8, .inl (fun _ => 0))), (q8, .inl (cI, 320, .inl (fun _ => 0))), (q9, .inl (cI, 320, .inl (fun _ => 0))), (q10, .inl (cI, 320, .inl (fun _ => 0))), (q11, .inl (cZ, 320, .inl (fun _ => 0)))] H _ := w
  refine r_putF C0 hin w 0 rfl kf_Mo 11 (by decide) lf_RX10_42 rfl rfl rfl rfl (Nat.le_of_ble_eq_true rfl) dX10_init_96 (ws' := [(q0, .inr (9, [.ref q1, .ref q2, .ref q3, .ref q4, .ref q5, .ref q6, .int 0, .ref q7, .ref q8, .ref q9, .ref q10, .ref q11, .null, .int 0, .null, .long 0, .null, .int 0, .null, .long 0])), (q1, .inl (cI, 561, .inl (fun _ => 0))), (q2, .inl (cI, 1122, .inl (fun _ => 0))), (q3, .inl (cJ, 360, .inr (.inl (fun _ => 0)))), (q4, .inl (cJ, 720, .inr (.inl (fun _ => 0)))), (q5, .inl (cZ, 2, .inl (fun _ => 0))), (q6, .inl (cI, 16, .inl (fun _ => 0))), (q7, .inl (cI, 8, .inl (fun _ => 0))), (q8, .inl (cI, 320, .inl (fun _ => 0))), (q9, .inl (cI, 320, .inl (fun _ => 0))), (q10, .inl (cI, 320, .inl (fun _ => 0))), (q11, .inl (cZ, 320, .inl (fun _ => 0)))]) rfl (fun H locs w => ?_)
  refine lv_aload_n hx hb dX10_init_99 rfl (lv_at hl 0 rfl) ?_
  refine lv_sipush (v := (320 : Int32)) hx hb dX10_init_100 (by decide) ?_
  refine r_newI (N := 320) C0 w ac_cI (by decide) (by decide) (Nat.le_of_ble_eq_true rfl) ⟨Nat.le_of_ble_eq_true rfl, Nat.le_of_ble_eq_true rfl⟩ dX10_init_103 (fun q12 H w => ?_)
  have w : Wd s A D [(q0, .inr (9, [.ref q1, .ref q2, .ref q3, .ref q4, .ref q5, .ref q6, .int 0, .ref q7, .ref q8, .ref q9, .ref q10, .ref q11, .null, .int 0, .null, .long 0, .null, .int 0, .null, .long 0])), (q1, .inl (cI, 561, .inl (fun _ => 0))), (q2, .inl (cI, 1122, .inl (fun _ => 0))), (q3, .inl (cJ, 360, .inr (.inl (fun _ => 0)))), (q4, .inl (cJ, 720, .inr (.inl (fun _ => 0)))), (q5, .inl (cZ, 2, .inl (fun _ => 0))), (q6, .inl (cI, 16, .inl (fun _ => 0))), (q7, .inl (cI, 8, .inl (fun _ => 0))), (q8, .inl (cI, 320, .inl (fun _ => 0))), (q9, .inl (cI, 320, .inl (fun _ => 0))), (q10, .inl (cI, 320, .inl (fun _ => 0))), (q11, .inl (cZ, 320, .inl (fun _ => 0))), (q12, .inl (cI, 320, .inl (fun _ => 0)))] H _ := w
  refine r_putF C0 hin w 0 rfl kf_Mo 12 (by decide) lf_RX10_45 rfl rfl rfl rfl (Nat.le_of_ble_eq_true rfl) dX10_init_105 (ws' := [(q0, .inr (9, [.ref q1, .ref q2, .ref q3, .ref q4, .ref q5, .ref q6, .int 0, .ref q7, .ref q8, .ref q9, .ref q10, .ref q11, .ref q12, .int 0, .null, .long 0, .null, .int 0, .null, .long 0])), (q1, .inl (cI, 561, .inl (fun _ => 0))), (q2, .inl (cI, 1122, .inl (fun _ => 0))), (q3, .inl (cJ, 360, .inr (.inl (fun _ => 0)))), (q4, .inl (cJ, 720, .inr (.inl (fun _ => 0)))), (q5, .inl (cZ, 2, .inl (fun _ => 0))), (q6, .inl (cI, 16, .inl (fun _ => 0))), (q7, .inl (cI, 8, .inl (fun _ => 0))), (q8, .inl (cI, 320, .inl (fun _ => 0))), (q9, .inl (cI, 320, .inl (fun _ => 0))), (q10, .inl (cI, 320, .inl (fun _ => 0))), (q11, .inl (cZ, 320, .inl (fun _ => 0))), (q12, .inl (cI, 320, .inl (fun _ => 0)))]) rfl (fun H locs w => ?_)
  refine lv_aload_n hx hb dX10_init_108 rfl (lv_at hl 0 rfl) ?_
  refine lv_sipush (v := (160 : Int32)) hx hb dX10_init_109 (by decide) ?_
  refine r_newI (N := 160) C0 w ac_cI (by decide) (by decide) (Nat.le_of_ble_eq_true rfl) ⟨Nat.le_of_ble_eq_true rfl, Nat.le_of_ble_eq_true rfl⟩ dX10_init_112 (fun q13 H w => ?_)
  have w : Wd s A D [(q0, .inr (9, [.ref q1, .ref q2, .ref q3, .ref q4, .ref q5, .ref q6, .int 0, .ref q7, .ref q8, .ref q9, .ref q10, .ref q11, .ref q12, .int 0, .null, .long 0, .null, .int 0, .null, .long 0])), (q1, .inl (cI, 561, .inl (fun _ => 0))), (q2, .inl (cI, 1122, .inl (fun _ => 0))), (q3, .inl (cJ, 360, .inr (.inl (fun _ => 0)))), (q4, .inl (cJ, 720, .inr (.inl (fun _ => 0)))), (q5, .inl (cZ, 2, .inl (fun _ => 0))), (q6, .inl (cI, 16, .inl (fun _ => 0))), (q7, .inl (cI, 8, .inl (fun _ => 0))), (q8, .inl (cI, 320, .inl (fun _ => 0))), (q9, .inl (cI, 320, .inl (fun _ => 0))), (q10, .inl (cI, 320, .inl (fun _ => 0))), (q11, .inl (cZ, 320, .inl (fun _ => 0))), (q12, .inl (cI, 320, .inl (fun _ => 0))), (q13, .inl (cI, 160, .inl (fun _ => 0)))] H _ := w
  refine r_putF C0 hin w 0 rfl kf_Mo 14 (by decide) lf_RX10_48 rfl rfl rfl rfl (Nat.le_of_ble_eq_true rfl) dX10_init_114 (ws' := [(q0, .inr (9, [.ref q1, .ref q2, .ref q3, .ref q4, .ref q5, .ref q6, .int 0, .ref q7, .ref q8, .ref q9, .ref q10, .ref q11, .ref q12, .int 0, .ref q13, .long 0, .null, .int 0, .null, .long 0])), (q1, .inl (cI, 561, .inl (fun _ => 0))), (q2, .inl (cI, 1122, .inl (fun _ => 0))), (q3, .inl (cJ, 360, .inr (.inl (fun _ => 0)))), (q4, .inl (cJ, 720, .inr (.inl (fun _ => 0)))), (q5, .inl (cZ, 2, .inl (fun _ => 0))), (q6, .inl (cI, 16, .inl (fun _ => 0))), (q7, .inl (cI, 8, .inl (fun _ => 0))), (q8, .inl (cI, 320, .inl (fun _ => 0))), (q9, .inl (cI, 320, .inl (fun _ => 0))), (q10, .inl (cI, 320, .inl (fun _ => 0))), (q11, .inl (cZ, 320, .inl (fun _ => 0))), (q12, .inl (cI, 320, .inl (fun _ => 0))), (q13, .inl (cI, 160, .inl (fun _ => 0)))]) rfl (fun H locs w => ?_)
  refine lv_aload_n hx hb dX10_init_117 rfl (lv_at hl 0 rfl) ?_
  refine lv_bipush (v := (17 : Int32)) hx hb dX10_init_118 (by decide) ?_
  refine r_newJ (N := 17) C0 w ac_cJ (by decide) (by decide) (Nat.le_of_ble_eq_true rfl) ⟨Nat.le_of_ble_eq_true rfl, Nat.le_of_ble_eq_true rfl⟩ dX10_init_120 (fun q14 H w => ?_)
  have w : Wd s A D [(q0, .inr (9, [.ref q1, .ref q2, .ref q3, .ref q4, .ref q5, .ref q6, .int 0, .ref q7, .ref q8, .ref q9, .ref q10, .ref q11, .ref q12, .int 0, .ref q13, .long 0, .null, .int 0, .null, .long 0])), (q1, .inl (cI, 561, .inl (fun _ => 0))), (q2, .inl (cI, 1122, .inl (fun _ => 0))), (q3, .inl (cJ, 360, .inr (.inl (fun _ => 0)))), (q4, .inl (cJ, 720, .inr (.inl (fun _ => 0)))), (q5, .inl (cZ, 2, .inl (fun _ => 0))), (q6, .inl (cI, 16, .inl (fun _ => 0))), (q7, .inl (cI, 8, .inl (fun _ => 0))), (q8, .inl (cI, 320, .inl (fun _ => 0))), (q9, .inl (cI, 320, .inl (fun _ => 0))), (q10, .inl (cI, 320, .inl (fun _ => 0))), (q11, .inl (cZ, 320, .inl (fun _ => 0))), (q12, .inl (cI, 320, .inl (fun _ => 0))), (q13, .inl (cI, 160, .inl (fun _ => 0))), (q14, .inl (cJ, 17, .inr (.inl (fun _ => 0))))] H _ := w
  refine r_putF C0 hin w 0 rfl kf_Mo 16 (by decide) lf_RX10_51 rfl rfl rfl rfl (Nat.le_of_ble_eq_true rfl) dX10_init_122 (ws' := [(q0, .inr (9, [.ref q1, .ref q2, .ref q3, .ref q4, .ref q5, .ref q6, .int 0, .ref q7, .ref q8, .ref q9, .ref q10, .ref q11, .ref q12, .int 0, .ref q13, .long 0, .ref q14, .int 0, .null, .long 0])), (q1, .inl (cI, 561, .inl (fun _ => 0))), (q2, .inl (cI, 1122, .inl (fun _ => 0))), (q3, .inl (cJ, 360, .inr (.inl (fun _ => 0)))), (q4, .inl (cJ, 720, .inr (.inl (fun _ => 0)))), (q5, .inl (cZ, 2, .inl (fun _ => 0))), (q6, .inl (cI, 16, .inl (fun _ => 0))), (q7, .inl (cI, 8, .inl (fun _ => 0))), (q8, .inl (cI, 320, .inl (fun _ => 0))), (q9, .inl (cI, 320, .inl (fun _ => 0))), (q10, .inl (cI, 320, .inl (fun _ => 0))), (q11, .inl (cZ, 320, .inl (fun _ => 0))), (q12, .inl (cI, 320, .inl (fun _ => 0))), (q13, .inl (cI, 160, .inl (fun _ => 0))), (q14, .inl (cJ, 17, .inr (.inl (fun _ => 0))))]) rfl (fun H locs w => ?_)
  refine lv_aload_n hx hb dX10_init_125 rfl (lv_at hl 0 rfl) ?_
  refine lv_bipush (v := (40 : Int32)) hx hb dX10_init_126 (by decide) ?_
  refine r_newI (N := 40) C0 w ac_cI (by decide) (by decide) (Nat.le_of_ble_eq_true rfl) ⟨Nat.le_of_ble_eq_true rfl, Nat.le_of_ble_eq_true rfl⟩ dX10_init_128 (fun q15 H w => ?_)
  have w : Wd s A D [(q0, .inr (9, [.ref q1, .ref q2, .ref q3, .ref q4, .ref q5, .ref q6, .int 0, .ref q7, .ref q8, .ref q9, .ref q10, .ref q11, .ref q12, .int 0, .ref q13, .long 0, .ref q14, .int 0, .null, .long 0])), (q1, .inl (cI, 561, .inl (fun _ => 0))), (q2, .inl (cI, 1122, .inl (fun _ => 0))), (q3, .inl (cJ, 360, .inr (.inl (fun _ => 0)))), (q4, .inl (cJ, 720, .inr (.inl (fun _ => 0)))), (q5, .inl (cZ, 2, .inl (fun _ => 0))), (q6, .inl (cI, 16, .inl (fun _ => 0))), (q7, .inl (cI, 8, .inl (fun _ => 0))), (q8, .inl (cI, 320, .inl (fun _ => 0))), (q9, .inl (cI, 320, .inl (fun _ => 0))), (q10, .inl (cI, 320, .inl (fun _ => 0))), (q11, .inl (cZ, 320, .inl (fun _ => 0))), (q12, .inl (cI, 320, .inl (fun _ => 0))), (q13, .inl (cI, 160, .inl (fun _ => 0))), (q14, .inl (cJ, 17, .inr (.inl (fun _ => 0)))), (q15, .inl (cI, 40, .inl (fun _ => 0)))] H _ := w
  refine r_putF C0 hin w 0 rfl kf_Mo 18 (by decide) lf_RX10_54 rfl rfl rfl rfl (Nat.le_of_ble_eq_true rfl) dX10_init_130 (ws' := [(q0, .inr (9, [.ref q1, .ref q2, .ref q3, .ref q4, .ref q5, .ref q6, .int 0, .ref q7, .ref q8, .ref q9, .ref q10, .ref q11, .ref q12, .int 0, .ref q13, .long 0, .ref q14, .int 0, .ref q15, .long 0])), (q1, .inl (cI, 561, .inl (fun _ => 0))), (q2, .inl (cI, 1122, .inl (fun _ => 0))), (q3, .inl (cJ, 360, .inr (.inl (fun _ => 0)))), (q4, .inl (cJ, 720, .inr (.inl (fun _ => 0)))), (q5, .inl (cZ, 2, .inl (fun _ => 0))), (q6, .inl (cI, 16, .inl (fun _ => 0))), (q7, .inl (cI, 8, .inl (fun _ => 0))), (q8, .inl (cI, 320, .inl (fun _ => 0))), (q9, .inl (cI, 320, .inl (fun _ => 0))), (q10, .inl (cI, 320, .inl (fun _ => 0))), (q11, .inl (cZ, 320, .inl (fun _ => 0))), (q12, .inl (cI, 320, .inl (fun _ => 0))), (q13, .inl (cI, 160, .inl (fun _ => 0))), (q14, .inl (cJ, 17, .inr (.inl (fun _ => 0)))), (q15, .inl (cI, 40, .inl (fun _ => 0)))]) rfl (fun H locs w => ?_)
  refine lv_aload_n hx hb dX10_init_133 rfl (lv_at hl 0 rfl) ?_
  refine r_get C0 w 0 rfl kf_Mo 0 (by decide) lf_RX10_7 rfl dX10_init_134 ?_
  refine lv_iconst (v := (0 : Int32)) hx hb dX10_init_137 (by decide) ?_
  refine lv_iconst (v := (1 : Int32)) hx hb dX10_init_138 (by decide) ?_
  refine r_iast C0 w 1 rfl (f' := (upd (fun _ => 0) 0 (1 : Int32))) (k := 0) (by decide) (inl (by decide)) rfl dX10_init_139 (ws' := [(q0, .inr (9, [.ref q1, .ref q2, .ref q3, .ref q4, .ref q5, .ref q6, .int 0, .ref q7, .ref q8, .ref q9, .ref q10, .ref q11, .ref q12, .int 0, .ref q13, .long 0, .ref q14, .int 0, .ref q15, .long 0])), (q1, .inl (cI, 561, .inl (upd (fun _ => 0) 0 (1 : Int32)))), (q2, .inl (cI, 1122, .inl (fun _ => 0))), (q3, .inl (cJ, 360, .inr (.inl (fun _ => 0)))), (q4, .inl (cJ, 720, .inr (.inl (fun _ => 0)))), (q5, .inl (cZ, 2, .inl (fun _ => 0))), (q6, .inl (cI, 16, .inl (fun _ => 0))), (q7, .inl (cI, 8, .inl (fun _ => 0))), (q8, .inl (cI, 320, .inl (fun _ => 0))), (q9, .inl (cI, 320, .inl (fun _ => 0))), (q10, .inl (cI, 320, .inl (fun _ => 0))), (q11, .inl (cZ, 320, .inl (fun _ => 0))), (q12, .inl (cI, 320, .inl (fun _ => 0))), (q13, .inl (cI, 160, .inl (fun _ => 0))), (q14, .inl (cJ, 17, .inr (.inl (fun _ => 0)))), (q15, .inl (cI, 40, .inl (fun _ => 0)))]) rfl (fun H locs w => ?_)
  refine lv_aload_n hx hb dX10_init_140 rfl (lv_at hl 0 rfl) ?_
  refine r_get C0 w 0 rfl kf_Mo 0 (by decide) lf_RX10_7 rfl dX10_init_141 ?_
  refine lv_iconst (v := (1 : Int32)) hx hb dX10_init_144 (by decide) ?_
  refine lv_iconst (v := (2 : Int32)) hx hb dX10_init_145 (by decide) ?_
  refine r_iast C0 w 1 rfl (f' := (upd (upd (fun _ => 0) 0 (1 : Int32)) 1 (2 : Int32))) (k := 1) (by decide) (inl (by decide)) rfl dX10_init_146 (ws' := [(q0, .inr (9, [.ref q1, .ref q2, .ref q3, .ref q4, .ref q5, .ref q6, .int 0, .ref q7, .ref q8, .ref q9, .ref q10, .ref q11, .ref q12, .int 0, .ref q13, .long 0, .ref q14, .int 0, .ref q15, .long 0])), (q1, .inl (cI, 561, .inl (upd (upd (fun _ => 0) 0 (1 : Int32)) 1 (2 : Int32)))), (q2, .inl (cI, 1122, .inl (fun _ => 0))), (q3, .inl (cJ, 360, .inr (.inl (fun _ => 0)))), (q4, .inl (cJ, 720, .inr (.inl (fun _ => 0)))), (q5, .inl (cZ, 2, .inl (fun _ => 0))), (q6, .inl (cI, 16, .inl (fun _ => 0))), (q7, .inl (cI, 8, .inl (fun _ => 0))), (q8, .inl (cI, 320, .inl (fun _ => 0))), (q9, .inl (cI, 320, .inl (fun _ => 0))), (q10, .inl (cI, 320, .inl (fun _ => 0))), (q11, .inl (cZ, 320, .inl (fun _ => 0))), (q12, .inl (cI, 320, .inl (fun _ => 0))), (q13, .inl (cI, 160, .inl (fun _ => 0))), (q14, .inl (cJ, 17, .inr (.inl (fun _ => 0)))), (q15, .inl (cI, 40, .inl (fun _ => 0)))]) rfl (fun H locs w => ?_)
  refine lv_aload_n hx hb dX10_init_147 rfl (lv_at hl 0 rfl) ?_
  refine r_get C0 w 0 rfl kf_Mo 0 (by decide) lf_RX10_7 rfl dX10_init_148 ?_
  refine lv_bipush (v := (36 : Int32)) hx hb dX10_init_151 (by decide) ?_
  refine lv_sipush (v := (200 : Int32)) hx hb dX10_init_153 (by decide) ?_
  refine r_iast C0 w 1 rfl (f' := (upd (upd (upd (fun _ => 0) 0 (1 : Int32)) 1 (2 : Int32)) 36 (200 : Int32))) (k := 36) (by decide) (inl (by decide)) rfl dX10_init_156 (ws' := [(q0, .inr (9, [.ref q1, .ref q2, .ref q3, .ref q4, .ref q5, .ref q6, .int 0, .ref q7, .ref q8, .ref q9, .ref q10, .ref q11, .ref q12, .int 0, .ref q13, .long 0, .ref q14, .int 0, .ref q15, .long 0])), (q1, .inl (cI, 561, .inl (upd (upd (upd (fun _ => 0) 0 (1 : Int32)) 1 (2 : Int32)) 36 (200 : Int32)))), (q2, .inl (cI, 1122, .inl (fun _ => 0))), (q3, .inl (cJ, 360, .inr (.inl (fun _ => 0)))), (q4, .inl (cJ, 720, .inr (.inl (fun _ => 0)))), (q5, .inl (cZ, 2, .inl (fun _ => 0))), (q6, .inl (cI, 16, .inl (fun _ => 0))), (q7, .inl (cI, 8, .inl (fun _ => 0))), (q8, .inl (cI, 320, .inl (fun _ => 0))), (q9, .inl (cI, 320, .inl (fun _ => 0))), (q10, .inl (cI, 320, .inl (fun _ => 0))), (q11, .inl (cZ, 320, .inl (fun _ => 0))), (q12, .inl (cI, 320, .inl (fun _ => 0))), (q13, .inl (cI, 160, .inl (fun _ => 0))), (q14, .inl (cJ, 17, .inr (.inl (fun _ => 0)))), (q15, .inl (cI, 40, .inl (fun _ => 0)))]) rfl (fun H locs w => ?_)
  refine lv_aload_n hx hb dX10_init_157 rfl (lv_at hl 0 rfl) ?_
  have hp := sp_of (ws := [(q0, .inr (9, [.ref q1, .ref q2, .ref q3, .ref q4, .ref q5, .ref q6, .int 0, .ref q7, .ref q8, .ref q9, .ref q10, .ref q11, .ref q12, .int 0, .ref q13, .long 0, .ref q14, .int 0, .ref q15, .long 0])), (q1, .inl (cI, 561, .inl (upd (upd (upd (fun _ => 0) 0 (1 : Int32)) 1 (2 : Int32)) 36 (200 : Int32)))), (q2, .inl (cI, 1122, .inl (fun _ => 0))), (q3, .inl (cJ, 360, .inr (.inl (fun _ => 0)))), (q4, .inl (cJ, 720, .inr (.inl (fun _ => 0)))), (q5, .inl (cZ, 2, .inl (fun _ => 0))), (q6, .inl (cI, 16, .inl (fun _ => 0))), (q7, .inl (cI, 8, .inl (fun _ => 0))), (q8, .inl (cI, 320, .inl (fun _ => 0))), (q9, .inl (cI, 320, .inl (fun _ => 0))), (q10, .inl (cI, 320, .inl (fun _ => 0))), (q11, .inl (cZ, 320, .inl (fun _ => 0))), (q12, .inl (cI, 320, .inl (fun _ => 0))), (q13, .inl (cI, 160, .inl (fun _ => 0))), (q14, .inl (cJ, 17, .inr (.inl (fun _ => 0)))), (q15, .inl (cI, 40, .inl (fun _ => 0)))]) (wc := (ws_Mo_begins cI cJ cZ q0 q1 q2 q3 q4 q5 q6 q7 q8 q9 q10 q11 q12 q13 q14 q15 0 0 0 0 0 (upd (upd (upd (fun _ => 0) 0 (1 : Int32)) 1 (2 : Int32)) 36 (200 : Int32)) (fun _ => 0))) [0, 1, 3] [2, 4, 5, 6, 7, 8, 9, 10, 11, 12, 13, 14, 15] rfl rfl
  have hp' : Rp (pk [(q0, .inr (9, [.ref q1, .ref q2, .ref q3, .ref q4, .ref q5, .ref q6, .int 0, .ref q7, .ref q8, .ref q9, .ref q10, .ref q11, .ref q12, .int 0, .ref q13, .long 0, .ref q14, .int 0, .ref q15, .long 0])), (q1, .inl (cI, 561, .inl (upd (upd (upd (fun _ => 0) 0 (1 : Int32)) 1 (2 : Int32)) 36 (200 : Int32)))), (q2, .inl (cI, 1122, .inl (fun _ => 0))), (q3, .inl (cJ, 360, .inr (.inl (fun _ => 0)))), (q4, .inl (cJ, 720, .inr (.inl (fun _ => 0)))), (q5, .inl (cZ, 2, .inl (fun _ => 0))), (q6, .inl (cI, 16, .inl (fun _ => 0))), (q7, .inl (cI, 8, .inl (fun _ => 0))), (q8, .inl (cI, 320, .inl (fun _ => 0))), (q9, .inl (cI, 320, .inl (fun _ => 0))), (q10, .inl (cI, 320, .inl (fun _ => 0))), (q11, .inl (cZ, 320, .inl (fun _ => 0))), (q12, .inl (cI, 320, .inl (fun _ => 0))), (q13, .inl (cI, 160, .inl (fun _ => 0))), (q14, .inl (cJ, 17, .inr (.inl (fun _ => 0)))), (q15, .inl (cI, 40, .inl (fun _ => 0)))] [2, 4, 5, 6, 7, 8, 9, 10, 11, 12, 13, 14, 15] ++ (ws_Mo_begins cI cJ cZ q0 q1 q2 q3 q4 q5 q6 q7 q8 q9 q10 q11 q12 q13 q14 q15 0 0 0 0 0 (upd (upd (upd (upd (upd (upd (upd (upd (upd (upd (upd (fun _ => 0) 0 (1 : Int32)) 1 (2 : Int32)) 36 (200 : Int32)) 37 (0 : Int32)) 38 (1 : Int32)) 39 (1 : Int32)) 40 (0 : Int32)) 41 (0 : Int32)) 42 (0 : Int32)) 43 (0 : Int32)) 44 (-1 : Int32)) (vp_updL (vp_updL (fun _ => 0) 304 (0 : Int64)) 344 (0 : Int64)))) [(q0, .inr (9, [.ref q1, .ref q2, .ref q3, .ref q4, .ref q5, .ref q6, .int 0, .ref q7, .ref q8, .ref q9, .ref q10, .ref q11, .ref q12, .int 0, .ref q13, .long 0, .ref q14, .int 0, .ref q15, .long 0])), (q1, .inl (cI, 561, .inl (upd (upd (upd (upd (upd (upd (upd (upd (upd (upd (upd (fun _ => 0) 0 (1 : Int32)) 1 (2 : Int32)) 36 (200 : Int32)) 37 (0 : Int32)) 38 (1 : Int32)) 39 (1 : Int32)) 40 (0 : Int32)) 41 (0 : Int32)) 42 (0 : Int32)) 43 (0 : Int32)) 44 (-1 : Int32)))), (q2, .inl (cI, 1122, .inl (fun _ => 0))), (q3, .inl (cJ, 360, .inr (.inl (vp_updL (vp_updL (fun _ => 0) 304 (0 : Int64)) 344 (0 : Int64))))), (q4, .inl (cJ, 720, .inr (.inl (fun _ => 0)))), (q5, .inl (cZ, 2, .inl (fun _ => 0))), (q6, .inl (cI, 16, .inl (fun _ => 0))), (q7, .inl (cI, 8, .inl (fun _ => 0))), (q8, .inl (cI, 320, .inl (fun _ => 0))), (q9, .inl (cI, 320, .inl (fun _ => 0))), (q10, .inl (cI, 320, .inl (fun _ => 0))), (q11, .inl (cZ, 320, .inl (fun _ => 0))), (q12, .inl (cI, 320, .inl (fun _ => 0))), (q13, .inl (cI, 160, .inl (fun _ => 0))), (q14, .inl (cJ, 17, .inr (.inl (fun _ => 0)))), (q15, .inl (cI, 40, .inl (fun _ => 0)))] := ⟨[13, 14, 0, 15, 1, 2, 3, 4, 5, 6, 7, 8, 9, 10, 11, 12], rfl, rfl⟩
  refine r_VV (As := []) (rest := []) (wc' := (ws_Mo_begins cI cJ cZ q0 q1 q2 q3 q4 q5 q6 q7 q8 q9 q10 q11 q12 q13 q14 q15 0 0 0 0 0 (upd (upd (upd (upd (upd (upd (upd (upd (upd (upd (upd (fun _ => 0) 0 (1 : Int32)) 1 (2 : Int32)) 36 (200 : Int32)) 37 (0 : Int32)) 38 (1 : Int32)) 39 (1 : Int32)) 40 (0 : Int32)) 41 (0 : Int32)) 42 (0 : Int32)) 43 (0 : Int32)) 44 (-1 : Int32)) (vp_updL (vp_updL (fun _ => 0) 304 (0 : Int64)) 344 (0 : Int64)))) (ws' := [(q0, .inr (9, [.ref q1, .ref q2, .ref q3, .ref q4, .ref q5, .ref q6, .int 0, .ref q7, .ref q8, .ref q9, .ref q10, .ref q11, .ref q12, .int 0, .ref q13, .long 0, .ref q14, .int 0, .ref q15, .long 0])), (q1, .inl (cI, 561, .inl (upd (upd (upd (upd (upd (upd (upd (upd (upd (upd (upd (fun _ => 0) 0 (1 : Int32)) 1 (2 : Int32)) 36 (200 : Int32)) 37 (0 : Int32)) 38 (1 : Int32)) 39 (1 : Int32)) 40 (0 : Int32)) 41 (0 : Int32)) 42 (0 : Int32)) 43 (0 : Int32)) 44 (-1 : Int32)))), (q2, .inl (cI, 1122, .inl (fun _ => 0))), (q3, .inl (cJ, 360, .inr (.inl (vp_updL (vp_updL (fun _ => 0) 304 (0 : Int64)) 344 (0 : Int64))))), (q4, .inl (cJ, 720, .inr (.inl (fun _ => 0)))), (q5, .inl (cZ, 2, .inl (fun _ => 0))), (q6, .inl (cI, 16, .inl (fun _ => 0))), (q7, .inl (cI, 8, .inl (fun _ => 0))), (q8, .inl (cI, 320, .inl (fun _ => 0))), (q9, .inl (cI, 320, .inl (fun _ => 0))), (q10, .inl (cI, 320, .inl (fun _ => 0))), (q11, .inl (cZ, 320, .inl (fun _ => 0))), (q12, .inl (cI, 320, .inl (fun _ => 0))), (q13, .inl (cI, 160, .inl (fun _ => 0))), (q14, .inl (cJ, 17, .inr (.inl (fun _ => 0)))), (q15, .inl (cI, 40, .inl (fun _ => 0)))]) C0 w (c_Mo_begins eq_begins) hp hp' lm_RX10_57 mv_Mo_begins ⟨rfl, rfl⟩ ⟨by decide, by decide⟩ ⟨Nat.le_of_ble_eq_true rfl, Nat.le_of_ble_eq_true rfl⟩ (q0 := 0) rfl rfl rfl rfl hl rfl (Nat.le_of_ble_eq_true rfl) dX10_init_158 (fun H locs w => ?_)
  refine W.widen (k := 15) (n := 4606) (Nat.le_of_ble_eq_true rfl) (Nat.le_of_ble_eq_true rfl) ?_
  exact hQ 161 ls H _ _ dX10_init_161 ⟨q1, q2, q3, q4, q5, q6, q7, q8, q9, q10, q11, q12, q13, q14, q15, rfl⟩ w

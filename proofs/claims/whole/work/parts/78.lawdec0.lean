theorem lm_RL_13 : Cond.methodLink RL 13 yX9_reset ∈ gt_tbl := gt_of (tb_2 (List.mem_of_getElem? (i := 40) (by decide +kernel))) rfl
theorem mv_TL_reset : MV yX9_reset cX9_reset 3 (some .int) 2 := ⟨gt_of (tb_2 (List.mem_of_getElem? (i := 43) (by decide +kernel))) rfl, gt_of (tb_1 (List.mem_of_getElem? (i := 1) (by decide +kernel))) rfl, gt_of (tb_2 (List.mem_of_getElem? (i := 41) (by decide +kernel))) rfl, gt_of (tb_2 (List.mem_of_getElem? (i := 42) (by decide +kernel))) rfl, by decide +kernel, by decide +kernel, by decide +kernel⟩
theorem lm_RL_17 : Cond.methodLink RL 17 yX10_reset ∈ gt_tbl := gt_of (tb_4 (List.mem_of_getElem? (i := 22) (by decide +kernel))) rfl
theorem mv_Mo_reset : MV yX10_reset cX10_reset 4 (some .int) 2 := ⟨gt_of (tb_4 (List.mem_of_getElem? (i := 25) (by decide +kernel))) rfl, gt_of (tb_1 (List.mem_of_getElem? (i := 13) (by decide +kernel))) rfl, gt_of (tb_4 (List.mem_of_getElem? (i := 23) (by decide +kernel))) rfl, gt_of (tb_4 (List.mem_of_getElem? (i := 24) (by decide +kernel))) rfl, by decide +kernel, by decide +kernel, by decide +kernel⟩
theorem lm_RL_18 : Cond.methodLink RL 18 yX9_setMove ∈ gt_tbl := gt_of (tb_2 (List.mem_of_getElem? (i := 49) (by decide +kernel))) rfl
theorem mv_TL_setMove : MV yX9_setMove cX9_setMove 6 (some .int) 3 := ⟨gt_of (tb_2 (List.mem_of_getElem? (i := 52) (by decide +kernel))) rfl, gt_of (tb_1 (List.mem_of_getElem? (i := 1) (by decide +kernel))) rfl, gt_of (tb_2 (List.mem_of_getElem? (i := 50) (by decide +kernel))) rfl, gt_of (tb_2 (List.mem_of_getElem? (i := 51) (by decide +kernel))) rfl, by decide +kernel, by decide +kernel, by decide +kernel⟩
theorem lm_RL_22 : Cond.methodLink RL 22 yX10_setMove ∈ gt_tbl := gt_of (tb_4 (List.mem_of_getElem? (i := 29) (by decide +kernel))) rfl
theorem mv_Mo_setMove : MV yX10_setMove cX10_setMove 5 (some .int) 3 := ⟨gt_of (tb_4 (List.mem_of_getElem? (i := 32) (by decide +kernel))) rfl, gt_of (tb_1 (List.mem_of_getElem? (i := 13) (by decide +kernel))) rfl, gt_of (tb_4 (List.mem_of_getElem? (i := 30) (by decide +kernel))) rfl, gt_of (tb_4 (List.mem_of_getElem? (i := 31) (by decide +kernel))) rfl, by decide +kernel, by decide +kernel, by decide +kernel⟩
theorem lm_RL_23 : Cond.methodLink RL 23 yX9_setFinal ∈ gt_tbl := gt_of (tb_2 (List.mem_of_getElem? (i := 69) (by decide +kernel))) rfl
theorem mv_TL_setFinal : MV yX9_setFinal cX9_setFinal 5 (some .int) 2 := ⟨gt_of (tb_2 (List.mem_of_getElem? (i := 72) (by decide +kernel))) rfl, gt_of (tb_1 (List.mem_of_getElem? (i := 1) (by decide +kernel))) rfl, gt_of (tb_2 (List.mem_of_getElem? (i := 70) (by decide +kernel))) rfl, gt_of (tb_2 (List.mem_of_getElem? (i := 71) (by decide +kernel))) rfl, by decide +kernel, by decide +kernel, by decide +kernel⟩
theorem lm_RL_27 : Cond.methodLink RL 27 yX10_setFinal ∈ gt_tbl := gt_of (tb_4 (List.mem_of_getElem? (i := 41) (by decide +kernel))) rfl
theorem mv_Mo_setFinal : MV yX10_setFinal cX10_setFinal 3 (some .int) 2 := ⟨gt_of (tb_4 (List.mem_of_getElem? (i := 44) (by decide +kernel))) rfl, gt_of (tb_1 (List.mem_of_getElem? (i := 13) (by decide +kernel))) rfl, gt_of (tb_4 (List.mem_of_getElem? (i := 42) (by decide +kernel))) rfl, gt_of (tb_4 (List.mem_of_getElem? (i := 43) (by decide +kernel))) rfl, by decide +kernel, by decide +kernel, by decide +kernel⟩
theorem lm_RL_28 : Cond.methodLink RL 28 yX9_lie ∈ gt_tbl := gt_of (tb_2 (List.mem_of_getElem? (i := 77) (by decide +kernel))) rfl
theorem mv_TL_lie : MV yX9_lie cX9_lie 4 (some .int) 0 := ⟨gt_of (tb_2 (List.mem_of_getElem? (i := 80) (by decide +kernel))) rfl, gt_of (tb_1 (List.mem_of_getElem? (i := 1) (by decide +kernel))) rfl, gt_of (tb_2 (List.mem_of_getElem? (i := 78) (by decide +kernel))) rfl, gt_of (tb_2 (List.mem_of_getElem? (i := 79) (by decide +kernel))) rfl, by decide +kernel, by decide +kernel, by decide +kernel⟩
theorem lm_RL_32 : Cond.methodLink RL 32 yX10_lie ∈ gt_tbl := gt_of (tb_4 (List.mem_of_getElem? (i := 49) (by decide +kernel))) rfl
theorem mv_Mo_lie : MV yX10_lie cX10_lie 5 (some .int) 0 := ⟨gt_of (tb_4 (List.mem_of_getElem? (i := 52) (by decide +kernel))) rfl, gt_of (tb_1 (List.mem_of_getElem? (i := 13) (by decide +kernel))) rfl, gt_of (tb_4 (List.mem_of_getElem? (i := 50) (by decide +kernel))) rfl, gt_of (tb_4 (List.mem_of_getElem? (i := 51) (by decide +kernel))) rfl, by decide +kernel, by decide +kernel, by decide +kernel⟩
theorem lm_RL_33 : Cond.methodLink RL 33 yX9_state ∈ gt_tbl := gt_of (tb_2 (List.mem_of_getElem? (i := 104) (by decide +kernel))) rfl
theorem mv_TL_state : MV yX9_state cX9_state 4 (some .int) 2 := ⟨gt_of (tb_2 (List.mem_of_getElem? (i := 107) (by decide +kernel))) rfl, gt_of (tb_1 (List.mem_of_getElem? (i := 1) (by decide +kernel))) rfl, gt_of (tb_2 (List.mem_of_getElem? (i := 105) (by decide +kernel))) rfl, gt_of (tb_2 (List.mem_of_getElem? (i := 106) (by decide +kernel))) rfl, by decide +kernel, by decide +kernel, by decide +kernel⟩
theorem lm_RL_36 : Cond.methodLink RL 36 yX10_state ∈ gt_tbl := gt_of (tb_4 (List.mem_of_getElem? (i := 66) (by decide +kernel))) rfl
theorem mv_Mo_state : MV yX10_state cX10_state 3 (some .int) 2 := ⟨gt_of (tb_4 (List.mem_of_getElem? (i := 69) (by decide +kernel))) rfl, gt_of (tb_1 (List.mem_of_getElem? (i := 13) (by decide +kernel))) rfl, gt_of (tb_4 (List.mem_of_getElem? (i := 67) (by decide +kernel))) rfl, gt_of (tb_4 (List.mem_of_getElem? (i := 68) (by decide +kernel))) rfl, by decide +kernel, by decide +kernel, by decide +kernel⟩
theorem lm_RL_37 : Cond.methodLink RL 37 yX9_distinguish ∈ gt_tbl := gt_of (tb_2 (List.mem_of_getElem? (i := 126) (by decide +kernel))) rfl
theorem mv_TL_distinguish : MV yX9_distinguish cX9_distinguish 5 (some .int) 3 := ⟨gt_of (tb_2 (List.mem_of_getElem? (i := 129) (by decide +kernel))) rfl, gt_of (tb_1 (List.mem_of_getElem? (i := 1) (by decide +kernel))) rfl, gt_of (tb_2 (List.mem_of_getElem? (i := 127) (by decide +kernel))) rfl, gt_of (tb_2 (List.mem_of_getElem? (i := 128) (by decide +kernel))) rfl, by decide +kernel, by decide +kernel, by decide +kernel⟩
theorem lm_RL_40 : Cond.methodLink RL 40 yX10_distinguish ∈ gt_tbl := gt_of (tb_4 (List.mem_of_getElem? (i := 74) (by decide +kernel))) rfl
theorem mv_Mo_distinguish : MV yX10_distinguish cX10_distinguish 4 (some .int) 3 := ⟨gt_of (tb_4 (List.mem_of_getElem? (i := 77) (by decide +kernel))) rfl, gt_of (tb_1 (List.mem_of_getElem? (i := 13) (by decide +kernel))) rfl, gt_of (tb_4 (List.mem_of_getElem? (i := 75) (by decide +kernel))) rfl, gt_of (tb_4 (List.mem_of_getElem? (i := 76) (by decide +kernel))) rfl, by decide +kernel, by decide +kernel, by decide +kernel⟩
theorem lm_RL_41 : Cond.methodLink RL 41 yX9_leastStates ∈ gt_tbl := gt_of (tb_2 (List.mem_of_getElem? (i := 148) (by decide +kernel))) rfl
theorem lm_RL_44 : Cond.methodLink RL 44 yX10_leastStates ∈ gt_tbl := gt_of (tb_4 (List.mem_of_getElem? (i := 90) (by decide +kernel))) rfl
theorem lm_RL_45 : Cond.methodLink RL 45 yX9_accepts ∈ gt_tbl := gt_of (tb_2 (List.mem_of_getElem? (i := 156) (by decide +kernel))) rfl
theorem mv_TL_accepts : MV yX9_accepts cX9_accepts 3 (some .int) 0 := ⟨gt_of (tb_2 (List.mem_of_getElem? (i := 159) (by decide +kernel))) rfl, gt_of (tb_1 (List.mem_of_getElem? (i := 1) (by decide +kernel))) rfl, gt_of (tb_2 (List.mem_of_getElem? (i := 157) (by decide +kernel))) rfl, gt_of (tb_2 (List.mem_of_getElem? (i := 158) (by decide +kernel))) rfl, by decide +kernel, by decide +kernel, by decide +kernel⟩
theorem lm_RL_48 : Cond.methodLink RL 48 yX10_accepts ∈ gt_tbl := gt_of (tb_4 (List.mem_of_getElem? (i := 94) (by decide +kernel))) rfl
theorem mv_Mo_accepts : MV yX10_accepts cX10_accepts 3 (some .int) 0 := ⟨gt_of (tb_4 (List.mem_of_getElem? (i := 97) (by decide +kernel))) rfl, gt_of (tb_1 (List.mem_of_getElem? (i := 13) (by decide +kernel))) rfl, gt_of (tb_4 (List.mem_of_getElem? (i := 95) (by decide +kernel))) rfl, gt_of (tb_4 (List.mem_of_getElem? (i := 96) (by decide +kernel))) rfl, by decide +kernel, by decide +kernel, by decide +kernel⟩
theorem lm_RL_49 : Cond.methodLink RL 49 yX9_type ∈ gt_tbl := gt_of (tb_2 (List.mem_of_getElem? (i := 170) (by decide +kernel))) rfl
theorem mv_TL_type : MV yX9_type cX9_type 2 (some .int) 1 := ⟨gt_of (tb_2 (List.mem_of_getElem? (i := 173) (by decide +kernel))) rfl, gt_of (tb_1 (List.mem_of_getElem? (i := 1) (by decide +kernel))) rfl, gt_of (tb_2 (List.mem_of_getElem? (i := 171) (by decide +kernel))) rfl, gt_of (tb_2 (List.mem_of_getElem? (i := 172) (by decide +kernel))) rfl, by decide +kernel, by decide +kernel, by decide +kernel⟩
theorem lm_RL_53 : Cond.methodLink RL 53 yX10_type ∈ gt_tbl := gt_of (tb_4 (List.mem_of_getElem? (i := 109) (by decide +kernel))) rfl
theorem mv_Mo_type : MV yX10_type cX10_type 2 (some .int) 1 := ⟨gt_of (tb_4 (List.mem_of_getElem? (i := 112) (by decide +kernel))) rfl, gt_of (tb_1 (List.mem_of_getElem? (i := 13) (by decide +kernel))) rfl, gt_of (tb_4 (List.mem_of_getElem? (i := 110) (by decide +kernel))) rfl, gt_of (tb_4 (List.mem_of_getElem? (i := 111) (by decide +kernel))) rfl, by decide +kernel, by decide +kernel, by decide +kernel⟩
theorem lm_RL_54 : Cond.methodLink RL 54 yX9_clearText ∈ gt_tbl := gt_of (tb_2 (List.mem_of_getElem? (i := 174) (by decide +kernel))) rfl
theorem mv_TL_clearText : MV yX9_clearText cX9_clearText 2 (some .int) 0 := ⟨gt_of (tb_2 (List.mem_of_getElem? (i := 177) (by decide +kernel))) rfl, gt_of (tb_1 (List.mem_of_getElem? (i := 1) (by decide +kernel))) rfl, gt_of (tb_2 (List.mem_of_getElem? (i := 175) (by decide +kernel))) rfl, gt_of (tb_2 (List.mem_of_getElem? (i := 176) (by decide +kernel))) rfl, by decide +kernel, by decide +kernel, by decide +kernel⟩
theorem lm_RL_57 : Cond.methodLink RL 57 yX10_clearText ∈ gt_tbl := gt_of (tb_4 (List.mem_of_getElem? (i := 113) (by decide +kernel))) rfl
theorem mv_Mo_clearText : MV yX10_clearText cX10_clearText 2 (some .int) 0 := ⟨gt_of (tb_4 (List.mem_of_getElem? (i := 116) (by decide +kernel))) rfl, gt_of (tb_1 (List.mem_of_getElem? (i := 13) (by decide +kernel))) rfl, gt_of (tb_4 (List.mem_of_getElem? (i := 114) (by decide +kernel))) rfl, gt_of (tb_4 (List.mem_of_getElem? (i := 115) (by decide +kernel))) rfl, by decide +kernel, by decide +kernel, by decide +kernel⟩
theorem lm_RL_58 : Cond.methodLink RL 58 yX9_begin ∈ gt_tbl := gt_of (tb_2 (List.mem_of_getElem? (i := 178) (by decide +kernel))) rfl
theorem mv_TL_begin : MV yX9_begin cX9_begin 5 (some .int) 2 := ⟨gt_of (tb_2 (List.mem_of_getElem? (i := 181) (by decide +kernel))) rfl, gt_of (tb_1 (List.mem_of_getElem? (i := 1) (by decide +kernel))) rfl, gt_of (tb_2 (List.mem_of_getElem? (i := 179) (by decide +kernel))) rfl, gt_of (tb_2 (List.mem_of_getElem? (i := 180) (by decide +kernel))) rfl, by decide +kernel, by decide +kernel, by decide +kernel⟩
theorem lm_RL_61 : Cond.methodLink RL 61 yX10_begin ∈ gt_tbl := gt_of (tb_4 (List.mem_of_getElem? (i := 117) (by decide +kernel))) rfl
theorem mv_Mo_begin : MV yX10_begin cX10_begin 4 (some .int) 2 := ⟨gt_of (tb_4 (List.mem_of_getElem? (i := 120) (by decide +kernel))) rfl, gt_of (tb_1 (List.mem_of_getElem? (i := 13) (by decide +kernel))) rfl, gt_of (tb_4 (List.mem_of_getElem? (i := 118) (by decide +kernel))) rfl, gt_of (tb_4 (List.mem_of_getElem? (i := 119) (by decide +kernel))) rfl, by decide +kernel, by decide +kernel, by decide +kernel⟩
theorem lm_RL_62 : Cond.methodLink RL 62 yX9_step ∈ gt_tbl := gt_of (tb_2 (List.mem_of_getElem? (i := 182) (by decide +kernel))) rfl
theorem mv_TL_step : MV yX9_step cX9_step 1 (some .int) 0 := ⟨gt_of (tb_2 (List.mem_of_getElem? (i := 185) (by decide +kernel))) rfl, gt_of (tb_1 (List.mem_of_getElem? (i := 1) (by decide +kernel))) rfl, gt_of (tb_2 (List.mem_of_getElem? (i := 183) (by decide +kernel))) rfl, gt_of (tb_2 (List.mem_of_getElem? (i := 184) (by decide +kernel))) rfl, by decide +kernel, by decide +kernel, by decide +kernel⟩
theorem lm_RL_65 : Cond.methodLink RL 65 yX10_step ∈ gt_tbl := gt_of (tb_4 (List.mem_of_getElem? (i := 137) (by decide +kernel))) rfl
theorem lm_RL_66 : Cond.methodLink RL 66 yX9_learn ∈ gt_tbl := gt_of (tb_3 (List.mem_of_getElem? (i := 69) (by decide +kernel))) rfl
theorem mv_TL_learn : MV yX9_learn cX9_learn 4 (some .int) 1 := ⟨gt_of (tb_3 (List.mem_of_getElem? (i := 72) (by decide +kernel))) rfl, gt_of (tb_1 (List.mem_of_getElem? (i := 1) (by decide +kernel))) rfl, gt_of (tb_3 (List.mem_of_getElem? (i := 70) (by decide +kernel))) rfl, gt_of (tb_3 (List.mem_of_getElem? (i := 71) (by decide +kernel))) rfl, by decide +kernel, by decide +kernel, by decide +kernel⟩
theorem lm_RL_69 : Cond.methodLink RL 69 yX10_learn ∈ gt_tbl := gt_of (tb_4 (List.mem_of_getElem? (i := 212) (by decide +kernel))) rfl
theorem mv_Mo_learn : MV yX10_learn cX10_learn 4 (some .int) 1 := ⟨gt_of (tb_4 (List.mem_of_getElem? (i := 215) (by decide +kernel))) rfl, gt_of (tb_1 (List.mem_of_getElem? (i := 13) (by decide +kernel))) rfl, gt_of (tb_4 (List.mem_of_getElem? (i := 213) (by decide +kernel))) rfl, gt_of (tb_4 (List.mem_of_getElem? (i := 214) (by decide +kernel))) rfl, by decide +kernel, by decide +kernel, by decide +kernel⟩
theorem lm_RL_70 : Cond.methodLink RL 70 yX9_ask ∈ gt_tbl := gt_of (tb_3 (List.mem_of_getElem? (i := 73) (by decide +kernel))) rfl
theorem mv_TL_ask : MV yX9_ask cX9_ask 3 (some .int) 0 := ⟨gt_of (tb_3 (List.mem_of_getElem? (i := 76) (by decide +kernel))) rfl, gt_of (tb_1 (List.mem_of_getElem? (i := 1) (by decide +kernel))) rfl, gt_of (tb_3 (List.mem_of_getElem? (i := 74) (by decide +kernel))) rfl, gt_of (tb_3 (List.mem_of_getElem? (i := 75) (by decide +kernel))) rfl, by decide +kernel, by decide +kernel, by decide +kernel⟩
theorem lm_RL_73 : Cond.methodLink RL 73 yX10_ask ∈ gt_tbl := gt_of (tb_4 (List.mem_of_getElem? (i := 121) (by decide +kernel))) rfl
theorem mv_Mo_ask : MV yX10_ask cX10_ask 3 (some .int) 0 := ⟨gt_of (tb_4 (List.mem_of_getElem? (i := 124) (by decide +kernel))) rfl, gt_of (tb_1 (List.mem_of_getElem? (i := 13) (by decide +kernel))) rfl, gt_of (tb_4 (List.mem_of_getElem? (i := 122) (by decide +kernel))) rfl, gt_of (tb_4 (List.mem_of_getElem? (i := 123) (by decide +kernel))) rfl, by decide +kernel, by decide +kernel, by decide +kernel⟩
theorem lm_RL_74 : Cond.methodLink RL 74 yX9_word ∈ gt_tbl := gt_of (tb_3 (List.mem_of_getElem? (i := 78) (by decide +kernel))) rfl
theorem mv_TL_word : MV yX9_word cX9_word 6 (some .int) 3 := ⟨gt_of (tb_3 (List.mem_of_getElem? (i := 81) (by decide +kernel))) rfl, gt_of (tb_1 (List.mem_of_getElem? (i := 1) (by decide +kernel))) rfl, gt_of (tb_3 (List.mem_of_getElem? (i := 79) (by decide +kernel))) rfl, gt_of (tb_3 (List.mem_of_getElem? (i := 80) (by decide +kernel))) rfl, by decide +kernel, by decide +kernel, by decide +kernel⟩
theorem lm_RL_78 : Cond.methodLink RL 78 yX10_word ∈ gt_tbl := gt_of (tb_4 (List.mem_of_getElem? (i := 217) (by decide +kernel))) rfl
theorem mv_Mo_word : MV yX10_word cX10_word 4 (some .int) 3 := ⟨gt_of (tb_4 (List.mem_of_getElem? (i := 220) (by decide +kernel))) rfl, gt_of (tb_1 (List.mem_of_getElem? (i := 13) (by decide +kernel))) rfl, gt_of (tb_4 (List.mem_of_getElem? (i := 218) (by decide +kernel))) rfl, gt_of (tb_4 (List.mem_of_getElem? (i := 219) (by decide +kernel))) rfl, by decide +kernel, by decide +kernel, by decide +kernel⟩
theorem lm_RL_79 : Cond.methodLink RL 79 yX9_cell ∈ gt_tbl := gt_of (tb_3 (List.mem_of_getElem? (i := 93) (by decide +kernel))) rfl
theorem lm_RL_82 : Cond.methodLink RL 82 yX10_cell ∈ gt_tbl := gt_of (tb_4 (List.mem_of_getElem? (i := 225) (by decide +kernel))) rfl
theorem lm_RL_83 : Cond.methodLink RL 83 yX9_hypothesis ∈ gt_tbl := gt_of (tb_3 (List.mem_of_getElem? (i := 99) (by decide +kernel))) rfl
theorem mv_TL_hypothesis : MV yX9_hypothesis cX9_hypothesis 4 (some .int) 2 := ⟨gt_of (tb_3 (List.mem_of_getElem? (i := 102) (by decide +kernel))) rfl, gt_of (tb_1 (List.mem_of_getElem? (i := 1) (by decide +kernel))) rfl, gt_of (tb_3 (List.mem_of_getElem? (i := 100) (by decide +kernel))) rfl, gt_of (tb_3 (List.mem_of_getElem? (i := 101) (by decide +kernel))) rfl, by decide +kernel, by decide +kernel, by decide +kernel⟩
theorem lm_RL_86 : Cond.methodLink RL 86 yX10_hypothesis ∈ gt_tbl := gt_of (tb_4 (List.mem_of_getElem? (i := 229) (by decide +kernel))) rfl
theorem mv_Mo_hypothesis : MV yX10_hypothesis cX10_hypothesis 3 (some .int) 2 := ⟨gt_of (tb_4 (List.mem_of_getElem? (i := 232) (by decide +kernel))) rfl, gt_of (tb_1 (List.mem_of_getElem? (i := 13) (by decide +kernel))) rfl, gt_of (tb_4 (List.mem_of_getElem? (i := 230) (by decide +kernel))) rfl, gt_of (tb_4 (List.mem_of_getElem? (i := 231) (by decide +kernel))) rfl, by decide +kernel, by decide +kernel, by decide +kernel⟩
theorem lm_RL_87 : Cond.methodLink RL 87 yX9_guess ∈ gt_tbl := gt_of (tb_3 (List.mem_of_getElem? (i := 107) (by decide +kernel))) rfl
theorem mv_TL_guess : MV yX9_guess cX9_guess 4 (some .int) 0 := ⟨gt_of (tb_3 (List.mem_of_getElem? (i := 110) (by decide +kernel))) rfl, gt_of (tb_1 (List.mem_of_getElem? (i := 1) (by decide +kernel))) rfl, gt_of (tb_3 (List.mem_of_getElem? (i := 108) (by decide +kernel))) rfl, gt_of (tb_3 (List.mem_of_getElem? (i := 109) (by decide +kernel))) rfl, by decide +kernel, by decide +kernel, by decide +kernel⟩
theorem lm_RL_90 : Cond.methodLink RL 90 yX10_guess ∈ gt_tbl := gt_of (tb_4 (List.mem_of_getElem? (i := 233) (by decide +kernel))) rfl
theorem mv_Mo_guess : MV yX10_guess cX10_guess 5 (some .int) 0 := ⟨gt_of (tb_4 (List.mem_of_getElem? (i := 236) (by decide +kernel))) rfl, gt_of (tb_1 (List.mem_of_getElem? (i := 13) (by decide +kernel))) rfl, gt_of (tb_4 (List.mem_of_getElem? (i := 234) (by decide +kernel))) rfl, gt_of (tb_4 (List.mem_of_getElem? (i := 235) (by decide +kernel))) rfl, by decide +kernel, by decide +kernel, by decide +kernel⟩
theorem lm_RL_91 : Cond.methodLink RL 91 yX9_difference ∈ gt_tbl := gt_of (tb_3 (List.mem_of_getElem? (i := 111) (by decide +kernel))) rfl
theorem mv_TL_difference : MV yX9_difference cX9_difference 3 (some .int) 1 := ⟨gt_of (tb_3 (List.mem_of_getElem? (i := 114) (by decide +kernel))) rfl, gt_of (tb_1 (List.mem_of_getElem? (i := 1) (by decide +kernel))) rfl, gt_of (tb_3 (List.mem_of_getElem? (i := 112) (by decide +kernel))) rfl, gt_of (tb_3 (List.mem_of_getElem? (i := 113) (by decide +kernel))) rfl, by decide +kernel, by decide +kernel, by decide +kernel⟩
theorem lm_RL_94 : Cond.methodLink RL 94 yX10_difference ∈ gt_tbl := gt_of (tb_4 (List.mem_of_getElem? (i := 237) (by decide +kernel))) rfl
theorem mv_Mo_difference : MV yX10_difference cX10_difference 2 (some .int) 1 := ⟨gt_of (tb_5 (List.mem_of_getElem? (i := 0) (by decide +kernel))) rfl, gt_of (tb_1 (List.mem_of_getElem? (i := 13) (by decide +kernel))) rfl, gt_of (tb_4 (List.mem_of_getElem? (i := 238) (by decide +kernel))) rfl, gt_of (tb_4 (List.mem_of_getElem? (i := 239) (by decide +kernel))) rfl, by decide +kernel, by decide +kernel, by decide +kernel⟩
theorem lm_RL_95 : Cond.methodLink RL 95 yX9_counterexample ∈ gt_tbl := gt_of (tb_3 (List.mem_of_getElem? (i := 115) (by decide +kernel))) rfl
theorem mv_TL_counterexample : MV yX9_counterexample cX9_counterexample 4 (some .int) 1 := ⟨gt_of (tb_3 (List.mem_of_getElem? (i := 118) (by decide +kernel))) rfl, gt_of (tb_1 (List.mem_of_getElem? (i := 1) (by decide +kernel))) rfl, gt_of (tb_3 (List.mem_of_getElem? (i := 116) (by decide +kernel))) rfl, gt_of (tb_3 (List.mem_of_getElem? (i := 117) (by decide +kernel))) rfl, by decide +kernel, by decide +kernel, by decide +kernel⟩
theorem lm_RL_98 : Cond.methodLink RL 98 yX10_counterexample ∈ gt_tbl := gt_of (tb_5 (List.mem_of_getElem? (i := 1) (by decide +kernel))) rfl
theorem mv_Mo_counterexample : MV yX10_counterexample cX10_counterexample 2 (some .int) 1 := ⟨gt_of (tb_5 (List.mem_of_getElem? (i := 4) (by decide +kernel))) rfl, gt_of (tb_1 (List.mem_of_getElem? (i := 13) (by decide +kernel))) rfl, gt_of (tb_5 (List.mem_of_getElem? (i := 2) (by decide +kernel))) rfl, gt_of (tb_5 (List.mem_of_getElem? (i := 3) (by decide +kernel))) rfl, by decide +kernel, by decide +kernel, by decide +kernel⟩
theorem lm_RL_107 : Cond.methodLink RL 107 yX9_count ∈ gt_tbl := gt_of (tb_3 (List.mem_of_getElem? (i := 161) (by decide +kernel))) rfl
theorem lm_RL_110 : Cond.methodLink RL 110 yX10_count ∈ gt_tbl := gt_of (tb_5 (List.mem_of_getElem? (i := 13) (by decide +kernel))) rfl
theorem lm_RL_111 : Cond.methodLink RL 111 yX9_digest ∈ gt_tbl := gt_of (tb_3 (List.mem_of_getElem? (i := 165) (by decide +kernel))) rfl
theorem mv_TL_digest : MV yX9_digest cX9_digest 5 (some .long) 0 := ⟨gt_of (tb_3 (List.mem_of_getElem? (i := 168) (by decide +kernel))) rfl, gt_of (tb_1 (List.mem_of_getElem? (i := 1) (by decide +kernel))) rfl, gt_of (tb_3 (List.mem_of_getElem? (i := 166) (by decide +kernel))) rfl, gt_of (tb_3 (List.mem_of_getElem? (i := 167) (by decide +kernel))) rfl, by decide +kernel, by decide +kernel, by decide +kernel⟩
theorem lm_RL_115 : Cond.methodLink RL 115 yX10_digest ∈ gt_tbl := gt_of (tb_5 (List.mem_of_getElem? (i := 17) (by decide +kernel))) rfl
theorem mv_Mo_digest : MV yX10_digest cX10_digest 3 (some .long) 0 := ⟨gt_of (tb_5 (List.mem_of_getElem? (i := 20) (by decide +kernel))) rfl, gt_of (tb_1 (List.mem_of_getElem? (i := 13) (by decide +kernel))) rfl, gt_of (tb_5 (List.mem_of_getElem? (i := 18) (by decide +kernel))) rfl, gt_of (tb_5 (List.mem_of_getElem? (i := 19) (by decide +kernel))) rfl, by decide +kernel, by decide +kernel, by decide +kernel⟩
theorem lm_RL_99 : Cond.methodLink RL 99 yX9_save ∈ gt_tbl := gt_of (tb_3 (List.mem_of_getElem? (i := 119) (by decide +kernel))) rfl
theorem mv_TL_save : MV yX9_save cX9_save 2 (some .int) 1 := ⟨gt_of (tb_3 (List.mem_of_getElem? (i := 122) (by decide +kernel))) rfl, gt_of (tb_1 (List.mem_of_getElem? (i := 1) (by decide +kernel))) rfl, gt_of (tb_3 (List.mem_of_getElem? (i := 120) (by decide +kernel))) rfl, gt_of (tb_3 (List.mem_of_getElem? (i := 121) (by decide +kernel))) rfl, by decide +kernel, by decide +kernel, by decide +kernel⟩
theorem lm_RL_102 : Cond.methodLink RL 102 yX10_save ∈ gt_tbl := gt_of (tb_5 (List.mem_of_getElem? (i := 5) (by decide +kernel))) rfl
theorem mv_Mo_save : MV yX10_save cX10_save 3 (some .int) 1 := ⟨gt_of (tb_5 (List.mem_of_getElem? (i := 8) (by decide +kernel))) rfl, gt_of (tb_1 (List.mem_of_getElem? (i := 13) (by decide +kernel))) rfl, gt_of (tb_5 (List.mem_of_getElem? (i := 6) (by decide +kernel))) rfl, gt_of (tb_5 (List.mem_of_getElem? (i := 7) (by decide +kernel))) rfl, by decide +kernel, by decide +kernel, by decide +kernel⟩
theorem lm_RL_103 : Cond.methodLink RL 103 yX9_restore ∈ gt_tbl := gt_of (tb_3 (List.mem_of_getElem? (i := 157) (by decide +kernel))) rfl
theorem mv_TL_restore : MV yX9_restore cX9_restore 2 (some .int) 1 := ⟨gt_of (tb_3 (List.mem_of_getElem? (i := 160) (by decide +kernel))) rfl, gt_of (tb_1 (List.mem_of_getElem? (i := 1) (by decide +kernel))) rfl, gt_of (tb_3 (List.mem_of_getElem? (i := 158) (by decide +kernel))) rfl, gt_of (tb_3 (List.mem_of_getElem? (i := 159) (by decide +kernel))) rfl, by decide +kernel, by decide +kernel, by decide +kernel⟩
theorem lm_RL_106 : Cond.methodLink RL 106 yX10_restore ∈ gt_tbl := gt_of (tb_5 (List.mem_of_getElem? (i := 9) (by decide +kernel))) rfl
theorem mv_Mo_restore : MV yX10_restore cX10_restore 3 (some .int) 1 := ⟨gt_of (tb_5 (List.mem_of_getElem? (i := 12) (by decide +kernel))) rfl, gt_of (tb_1 (List.mem_of_getElem? (i := 13) (by decide +kernel))) rfl, gt_of (tb_5 (List.mem_of_getElem? (i := 10) (by decide +kernel))) rfl, gt_of (tb_5 (List.mem_of_getElem? (i := 11) (by decide +kernel))) rfl, by decide +kernel, by decide +kernel, by decide +kernel⟩
theorem dL_law_0 : decode cL_law 0 = .ok (.new 7, 3) := by decide +kernel
theorem dL_law_3 : decode cL_law 3 = .ok (.dup, 1) := by decide +kernel
theorem dL_law_4 : decode cL_law 4 = .ok (.invokespecial 9, 3) := by decide +kernel
theorem dL_law_7 : decode cL_law 7 = .ok (.astore_n 1, 1) := by decide +kernel
theorem dL_law_8 : decode cL_law 8 = .ok (.new 10, 3) := by decide +kernel
theorem dL_law_11 : decode cL_law 11 = .ok (.dup, 1) := by decide +kernel
theorem dL_law_12 : decode cL_law 12 = .ok (.invokespecial 12, 3) := by decide +kernel
theorem dL_law_15 : decode cL_law 15 = .ok (.astore_n 2, 1) := by decide +kernel
theorem dL_law_16 : decode cL_law 16 = .ok (.iconst 0, 1) := by decide +kernel
theorem dL_law_17 : decode cL_law 17 = .ok (.istore_n 3, 1) := by decide +kernel
theorem dL_law_18 : decode cL_law 18 = .ok (.iload_n 3, 1) := by decide +kernel
theorem dL_law_19 : decode cL_law 19 = .ok (.aload_n 0, 1) := by decide +kernel
theorem dL_law_20 : decode cL_law 20 = .ok (.arraylength, 1) := by decide +kernel
theorem dL_law_21 : decode cL_law 21 = .ok (.iconst 4, 1) := by decide +kernel
theorem dL_law_22 : decode cL_law 22 = .ok (.isub, 1) := by decide +kernel
theorem dL_law_23 : decode cL_law 23 = .ok (.if_icmp .gt 762, 3) := by decide +kernel
theorem dL_law_26 : decode cL_law 26 = .ok (.aload_n 0, 1) := by decide +kernel
theorem dL_law_27 : decode cL_law 27 = .ok (.iload_n 3, 1) := by decide +kernel
theorem dL_law_28 : decode cL_law 28 = .ok (.iaload, 1) := by decide +kernel
theorem dL_law_29 : decode cL_law 29 = .ok (.bipush 31, 2) := by decide +kernel
theorem dL_law_31 : decode cL_law 31 = .ok (.iand, 1) := by decide +kernel
theorem dL_law_32 : decode cL_law 32 = .ok (.tableswitch 747 0 23 #[112, 145, 188, 237, 250, 283, 326, 339, 352, 375, 388, 421, 434, 457, 470, 529, 572, 605, 618, 641, 664, 687, 710, 733], 112) := by decide +kernel
theorem dL_law_144 : decode cL_law 144 = .ok (.aload_n 1, 1) := by decide +kernel
theorem dL_law_145 : decode cL_law 145 = .ok (.aload_n 0, 1) := by decide +kernel
theorem dL_law_146 : decode cL_law 146 = .ok (.iload_n 3, 1) := by decide +kernel
theorem dL_law_147 : decode cL_law 147 = .ok (.iconst 1, 1) := by decide +kernel
theorem dL_law_148 : decode cL_law 148 = .ok (.iadd, 1) := by decide +kernel
theorem dL_law_149 : decode cL_law 149 = .ok (.iaload, 1) := by decide +kernel
theorem dL_law_150 : decode cL_law 150 = .ok (.aload_n 0, 1) := by decide +kernel
theorem dL_law_151 : decode cL_law 151 = .ok (.iload_n 3, 1) := by decide +kernel
theorem dL_law_152 : decode cL_law 152 = .ok (.iconst 2, 1) := by decide +kernel
theorem dL_law_153 : decode cL_law 153 = .ok (.iadd, 1) := by decide +kernel
theorem dL_law_154 : decode cL_law 154 = .ok (.iaload, 1) := by decide +kernel
theorem dL_law_155 : decode cL_law 155 = .ok (.invokevirtual 13, 3) := by decide +kernel
theorem dL_law_158 : decode cL_law 158 = .ok (.aload_n 2, 1) := by decide +kernel
theorem dL_law_159 : decode cL_law 159 = .ok (.aload_n 0, 1) := by decide +kernel
theorem dL_law_160 : decode cL_law 160 = .ok (.iload_n 3, 1) := by decide +kernel
theorem dL_law_161 : decode cL_law 161 = .ok (.iconst 1, 1) := by decide +kernel
theorem dL_law_162 : decode cL_law 162 = .ok (.iadd, 1) := by decide +kernel
theorem dL_law_163 : decode cL_law 163 = .ok (.iaload, 1) := by decide +kernel
theorem dL_law_164 : decode cL_law 164 = .ok (.aload_n 0, 1) := by decide +kernel
theorem dL_law_165 : decode cL_law 165 = .ok (.iload_n 3, 1) := by decide +kernel
theorem dL_law_166 : decode cL_law 166 = .ok (.iconst 2, 1) := by decide +kernel
theorem dL_law_167 : decode cL_law 167 = .ok (.iadd, 1) := by decide +kernel
theorem dL_law_168 : decode cL_law 168 = .ok (.iaload, 1) := by decide +kernel
theorem dL_law_169 : decode cL_law 169 = .ok (.invokevirtual 17, 3) := by decide +kernel
theorem dL_law_172 : decode cL_law 172 = .ok (.if_icmp .eq 607, 3) := by decide +kernel
theorem dL_law_175 : decode cL_law 175 = .ok (.iconst 0, 1) := by decide +kernel
theorem dL_law_176 : decode cL_law 176 = .ok (.ireturn, 1) := by decide +kernel
theorem dL_law_177 : decode cL_law 177 = .ok (.aload_n 1, 1) := by decide +kernel
theorem dL_law_178 : decode cL_law 178 = .ok (.aload_n 0, 1) := by decide +kernel
theorem dL_law_179 : decode cL_law 179 = .ok (.iload_n 3, 1) := by decide +kernel
theorem dL_law_180 : decode cL_law 180 = .ok (.iconst 1, 1) := by decide +kernel
theorem dL_law_181 : decode cL_law 181 = .ok (.iadd, 1) := by decide +kernel
theorem dL_law_182 : decode cL_law 182 = .ok (.iaload, 1) := by decide +kernel
theorem dL_law_183 : decode cL_law 183 = .ok (.aload_n 0, 1) := by decide +kernel
theorem dL_law_184 : decode cL_law 184 = .ok (.iload_n 3, 1) := by decide +kernel
theorem dL_law_185 : decode cL_law 185 = .ok (.iconst 2, 1) := by decide +kernel
theorem dL_law_186 : decode cL_law 186 = .ok (.iadd, 1) := by decide +kernel
theorem dL_law_187 : decode cL_law 187 = .ok (.iaload, 1) := by decide +kernel
theorem dL_law_188 : decode cL_law 188 = .ok (.aload_n 0, 1) := by decide +kernel
theorem dL_law_189 : decode cL_law 189 = .ok (.iload_n 3, 1) := by decide +kernel
theorem dL_law_190 : decode cL_law 190 = .ok (.iconst 3, 1) := by decide +kernel
theorem dL_law_191 : decode cL_law 191 = .ok (.iadd, 1) := by decide +kernel
theorem dL_law_192 : decode cL_law 192 = .ok (.iaload, 1) := by decide +kernel
theorem dL_law_193 : decode cL_law 193 = .ok (.invokevirtual 18, 3) := by decide +kernel
theorem dL_law_196 : decode cL_law 196 = .ok (.aload_n 2, 1) := by decide +kernel
theorem dL_law_197 : decode cL_law 197 = .ok (.aload_n 0, 1) := by decide +kernel
theorem dL_law_198 : decode cL_law 198 = .ok (.iload_n 3, 1) := by decide +kernel
theorem dL_law_199 : decode cL_law 199 = .ok (.iconst 1, 1) := by decide +kernel
theorem dL_law_200 : decode cL_law 200 = .ok (.iadd, 1) := by decide +kernel
theorem dL_law_201 : decode cL_law 201 = .ok (.iaload, 1) := by decide +kernel
theorem dL_law_202 : decode cL_law 202 = .ok (.aload_n 0, 1) := by decide +kernel
theorem dL_law_203 : decode cL_law 203 = .ok (.iload_n 3, 1) := by decide +kernel
theorem dL_law_204 : decode cL_law 204 = .ok (.iconst 2, 1) := by decide +kernel
theorem dL_law_205 : decode cL_law 205 = .ok (.iadd, 1) := by decide +kernel
theorem dL_law_206 : decode cL_law 206 = .ok (.iaload, 1) := by decide +kernel
theorem dL_law_207 : decode cL_law 207 = .ok (.aload_n 0, 1) := by decide +kernel
theorem dL_law_208 : decode cL_law 208 = .ok (.iload_n 3, 1) := by decide +kernel
theorem dL_law_209 : decode cL_law 209 = .ok (.iconst 3, 1) := by decide +kernel
theorem dL_law_210 : decode cL_law 210 = .ok (.iadd, 1) := by decide +kernel
theorem dL_law_211 : decode cL_law 211 = .ok (.iaload, 1) := by decide +kernel
theorem dL_law_212 : decode cL_law 212 = .ok (.invokevirtual 22, 3) := by decide +kernel
theorem dL_law_215 : decode cL_law 215 = .ok (.if_icmp .eq 564, 3) := by decide +kernel

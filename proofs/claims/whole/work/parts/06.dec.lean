theorem dJ7_fill_53178_0 : decode cJ7_fill_53178 0 = .ok (.iconst 0, 1) := by decide +kernel
theorem dJ7_fill_53178_1 : decode cJ7_fill_53178 1 = .ok (.istore_n 2, 1) := by decide +kernel
theorem dJ7_fill_53178_2 : decode cJ7_fill_53178 2 = .ok (.aload_n 0, 1) := by decide +kernel
theorem dJ7_fill_53178_3 : decode cJ7_fill_53178 3 = .ok (.arraylength, 1) := by decide +kernel
theorem dJ7_fill_53178_4 : decode cJ7_fill_53178 4 = .ok (.istore_n 3, 1) := by decide +kernel
theorem dJ7_fill_53178_5 : decode cJ7_fill_53178 5 = .ok (.iload_n 2, 1) := by decide +kernel
theorem dJ7_fill_53178_6 : decode cJ7_fill_53178 6 = .ok (.iload_n 3, 1) := by decide +kernel
theorem dJ7_fill_53178_7 : decode cJ7_fill_53178 7 = .ok (.if_icmp .ge 13, 3) := by decide +kernel
theorem dJ7_fill_53178_10 : decode cJ7_fill_53178 10 = .ok (.aload_n 0, 1) := by decide +kernel
theorem dJ7_fill_53178_11 : decode cJ7_fill_53178 11 = .ok (.iload_n 2, 1) := by decide +kernel
theorem dJ7_fill_53178_12 : decode cJ7_fill_53178 12 = .ok (.iload_n 1, 1) := by decide +kernel
theorem dJ7_fill_53178_13 : decode cJ7_fill_53178 13 = .ok (.iastore, 1) := by decide +kernel
theorem dJ7_fill_53178_14 : decode cJ7_fill_53178 14 = .ok (.iinc 2 1, 3) := by decide +kernel
theorem dJ7_fill_53178_17 : decode cJ7_fill_53178 17 = .ok (.goto (-12), 3) := by decide +kernel
theorem dJ7_fill_53178_20 : decode cJ7_fill_53178 20 = .ok (.return_, 1) := by decide +kernel
theorem dX0_shape_0 : decode cX0_shape 0 = .ok (.aload_n 0, 1) := by decide +kernel
theorem dX0_shape_1 : decode cX0_shape 1 = .ok (.iload_n 1, 1) := by decide +kernel
theorem dX0_shape_2 : decode cX0_shape 2 = .ok (.putfield 18, 3) := by decide +kernel
theorem dX0_shape_5 : decode cX0_shape 5 = .ok (.aload_n 0, 1) := by decide +kernel
theorem dX0_shape_6 : decode cX0_shape 6 = .ok (.iload_n 2, 1) := by decide +kernel
theorem dX0_shape_7 : decode cX0_shape 7 = .ok (.putfield 22, 3) := by decide +kernel
theorem dX0_shape_10 : decode cX0_shape 10 = .ok (.aload_n 0, 1) := by decide +kernel
theorem dX0_shape_11 : decode cX0_shape 11 = .ok (.getfield 9, 3) := by decide +kernel
theorem dX0_shape_14 : decode cX0_shape 14 = .ok (.iconst 0, 1) := by decide +kernel
theorem dX0_shape_15 : decode cX0_shape 15 = .ok (.invokestatic 25, 3) := by decide +kernel
theorem dX0_shape_18 : decode cX0_shape 18 = .ok (.aload_n 0, 1) := by decide +kernel
theorem dX0_shape_19 : decode cX0_shape 19 = .ok (.getfield 15, 3) := by decide +kernel
theorem dX0_shape_22 : decode cX0_shape 22 = .ok (.iconst 0, 1) := by decide +kernel
theorem dX0_shape_23 : decode cX0_shape 23 = .ok (.invokestatic 25, 3) := by decide +kernel
theorem dX0_shape_26 : decode cX0_shape 26 = .ok (.return_, 1) := by decide +kernel
theorem dX7_lengthOf_0 : decode cX7_lengthOf 0 = .ok (.iconst 0, 1) := by decide +kernel
theorem dX7_lengthOf_1 : decode cX7_lengthOf 1 = .ok (.istore_n 2, 1) := by decide +kernel
theorem dX7_lengthOf_2 : decode cX7_lengthOf 2 = .ok (.lload_n 0, 1) := by decide +kernel
theorem dX7_lengthOf_3 : decode cX7_lengthOf 3 = .ok (.iconst 2, 1) := by decide +kernel
theorem dX7_lengthOf_4 : decode cX7_lengthOf 4 = .ok (.lshr, 1) := by decide +kernel
theorem dX7_lengthOf_5 : decode cX7_lengthOf 5 = .ok (.lstore_n 3, 1) := by decide +kernel
theorem dX7_lengthOf_6 : decode cX7_lengthOf 6 = .ok (.lload_n 3, 1) := by decide +kernel
theorem dX7_lengthOf_7 : decode cX7_lengthOf 7 = .ok (.lconst 0, 1) := by decide +kernel
theorem dX7_lengthOf_8 : decode cX7_lengthOf 8 = .ok (.lcmp, 1) := by decide +kernel
theorem dX7_lengthOf_9 : decode cX7_lengthOf 9 = .ok (.ifCond .le 19, 3) := by decide +kernel
theorem dX7_lengthOf_12 : decode cX7_lengthOf 12 = .ok (.iload_n 2, 1) := by decide +kernel
theorem dX7_lengthOf_13 : decode cX7_lengthOf 13 = .ok (.bipush 16, 2) := by decide +kernel
theorem dX7_lengthOf_15 : decode cX7_lengthOf 15 = .ok (.if_icmp .ge 13, 3) := by decide +kernel
theorem dX7_lengthOf_18 : decode cX7_lengthOf 18 = .ok (.iinc 2 1, 3) := by decide +kernel
theorem dX7_lengthOf_21 : decode cX7_lengthOf 21 = .ok (.lload_n 3, 1) := by decide +kernel
theorem dX7_lengthOf_22 : decode cX7_lengthOf 22 = .ok (.iconst 2, 1) := by decide +kernel
theorem dX7_lengthOf_23 : decode cX7_lengthOf 23 = .ok (.lshr, 1) := by decide +kernel
theorem dX7_lengthOf_24 : decode cX7_lengthOf 24 = .ok (.lstore_n 3, 1) := by decide +kernel
theorem dX7_lengthOf_25 : decode cX7_lengthOf 25 = .ok (.goto (-19), 3) := by decide +kernel
theorem dX7_lengthOf_28 : decode cX7_lengthOf 28 = .ok (.iload_n 2, 1) := by decide +kernel
theorem dX7_lengthOf_29 : decode cX7_lengthOf 29 = .ok (.ireturn, 1) := by decide +kernel
theorem dX0_hasState_0 : decode cX0_hasState 0 = .ok (.iload_n 1, 1) := by decide +kernel
theorem dX0_hasState_1 : decode cX0_hasState 1 = .ok (.ifCond .lt 15, 3) := by decide +kernel
theorem dX0_hasState_4 : decode cX0_hasState 4 = .ok (.iload_n 1, 1) := by decide +kernel
theorem dX0_hasState_5 : decode cX0_hasState 5 = .ok (.aload_n 0, 1) := by decide +kernel
theorem dX0_hasState_6 : decode cX0_hasState 6 = .ok (.getfield 18, 3) := by decide +kernel
theorem dX0_hasState_9 : decode cX0_hasState 9 = .ok (.if_icmp .ge 7, 3) := by decide +kernel
theorem dX0_hasState_12 : decode cX0_hasState 12 = .ok (.iconst 1, 1) := by decide +kernel
theorem dX0_hasState_13 : decode cX0_hasState 13 = .ok (.goto 4, 3) := by decide +kernel
theorem dX0_hasState_16 : decode cX0_hasState 16 = .ok (.iconst 0, 1) := by decide +kernel
theorem dX0_hasState_17 : decode cX0_hasState 17 = .ok (.ireturn, 1) := by decide +kernel
theorem dX0_next_0 : decode cX0_next 0 = .ok (.aload_n 0, 1) := by decide +kernel
theorem dX0_next_1 : decode cX0_next 1 = .ok (.getfield 9, 3) := by decide +kernel
theorem dX0_next_4 : decode cX0_next 4 = .ok (.iload_n 1, 1) := by decide +kernel
theorem dX0_next_5 : decode cX0_next 5 = .ok (.iconst 3, 1) := by decide +kernel
theorem dX0_next_6 : decode cX0_next 6 = .ok (.imul, 1) := by decide +kernel
theorem dX0_next_7 : decode cX0_next 7 = .ok (.iload_n 2, 1) := by decide +kernel
theorem dX0_next_8 : decode cX0_next 8 = .ok (.iadd, 1) := by decide +kernel
theorem dX0_next_9 : decode cX0_next 9 = .ok (.iaload, 1) := by decide +kernel
theorem dX0_next_10 : decode cX0_next 10 = .ok (.ireturn, 1) := by decide +kernel
theorem dX7_join_0 : decode cX7_join 0 = .ok (.iconst 2, 1) := by decide +kernel
theorem dX7_join_1 : decode cX7_join 1 = .ok (.lload_n 0, 1) := by decide +kernel
theorem dX7_join_2 : decode cX7_join 2 = .ok (.invokestatic 11, 3) := by decide +kernel
theorem dX7_join_5 : decode cX7_join 5 = .ok (.imul, 1) := by decide +kernel
theorem dX7_join_6 : decode cX7_join 6 = .ok (.istore 4, 2) := by decide +kernel
theorem dX7_join_8 : decode cX7_join 8 = .ok (.lload_n 0, 1) := by decide +kernel
theorem dX7_join_9 : decode cX7_join 9 = .ok (.lconst 1, 1) := by decide +kernel
theorem dX7_join_10 : decode cX7_join 10 = .ok (.iload 4, 2) := by decide +kernel
theorem dX7_join_12 : decode cX7_join 12 = .ok (.lshl, 1) := by decide +kernel
theorem dX7_join_13 : decode cX7_join 13 = .ok (.lxor, 1) := by decide +kernel
theorem dX7_join_14 : decode cX7_join 14 = .ok (.lload_n 2, 1) := by decide +kernel
theorem dX7_join_15 : decode cX7_join 15 = .ok (.iload 4, 2) := by decide +kernel
theorem dX7_join_17 : decode cX7_join 17 = .ok (.lshl, 1) := by decide +kernel
theorem dX7_join_18 : decode cX7_join 18 = .ok (.lor, 1) := by decide +kernel
theorem dX7_join_19 : decode cX7_join 19 = .ok (.lreturn, 1) := by decide +kernel
theorem dX0_follow_0 : decode cX0_follow 0 = .ok (.iconst 0, 1) := by decide +kernel
theorem dX0_follow_1 : decode cX0_follow 1 = .ok (.istore 4, 2) := by decide +kernel
theorem dX0_follow_3 : decode cX0_follow 3 = .ok (.lload_n 1, 1) := by decide +kernel
theorem dX0_follow_4 : decode cX0_follow 4 = .ok (.lstore 5, 2) := by decide +kernel
theorem dX0_follow_6 : decode cX0_follow 6 = .ok (.iconst 0, 1) := by decide +kernel
theorem dX0_follow_7 : decode cX0_follow 7 = .ok (.istore 7, 2) := by decide +kernel
theorem dX0_follow_9 : decode cX0_follow 9 = .ok (.iload 7, 2) := by decide +kernel
theorem dX0_follow_11 : decode cX0_follow 11 = .ok (.iload_n 3, 1) := by decide +kernel
theorem dX0_follow_12 : decode cX0_follow 12 = .ok (.if_icmp .ge 34, 3) := by decide +kernel
theorem dX0_follow_15 : decode cX0_follow 15 = .ok (.aload_n 0, 1) := by decide +kernel
theorem dX0_follow_16 : decode cX0_follow 16 = .ok (.getfield 9, 3) := by decide +kernel
theorem dX0_follow_19 : decode cX0_follow 19 = .ok (.iload 4, 2) := by decide +kernel
theorem dX0_follow_21 : decode cX0_follow 21 = .ok (.iconst 3, 1) := by decide +kernel
theorem dX0_follow_22 : decode cX0_follow 22 = .ok (.imul, 1) := by decide +kernel
theorem dX0_follow_23 : decode cX0_follow 23 = .ok (.lload 5, 2) := by decide +kernel
theorem dX0_follow_25 : decode cX0_follow 25 = .ok (.ldc2_w 39, 3) := by decide +kernel
theorem dX0_follow_28 : decode cX0_follow 28 = .ok (.land, 1) := by decide +kernel
theorem dX0_follow_29 : decode cX0_follow 29 = .ok (.l2i, 1) := by decide +kernel
theorem dX0_follow_30 : decode cX0_follow 30 = .ok (.iadd, 1) := by decide +kernel
theorem dX0_follow_31 : decode cX0_follow 31 = .ok (.iaload, 1) := by decide +kernel
theorem dX0_follow_32 : decode cX0_follow 32 = .ok (.istore 4, 2) := by decide +kernel
theorem dX0_follow_34 : decode cX0_follow 34 = .ok (.lload 5, 2) := by decide +kernel
theorem dX0_follow_36 : decode cX0_follow 36 = .ok (.iconst 2, 1) := by decide +kernel
theorem dX0_follow_37 : decode cX0_follow 37 = .ok (.lshr, 1) := by decide +kernel
theorem dX0_follow_38 : decode cX0_follow 38 = .ok (.lstore 5, 2) := by decide +kernel
theorem dX0_follow_40 : decode cX0_follow 40 = .ok (.iinc 7 1, 3) := by decide +kernel
theorem dX0_follow_43 : decode cX0_follow 43 = .ok (.goto (-34), 3) := by decide +kernel
theorem dX0_follow_46 : decode cX0_follow 46 = .ok (.iload 4, 2) := by decide +kernel
theorem dX0_follow_48 : decode cX0_follow 48 = .ok (.ireturn, 1) := by decide +kernel
theorem dX0_verdict_0 : decode cX0_verdict 0 = .ok (.aload_n 0, 1) := by decide +kernel
theorem dX0_verdict_1 : decode cX0_verdict 1 = .ok (.getfield 15, 3) := by decide +kernel
theorem dX0_verdict_4 : decode cX0_verdict 4 = .ok (.aload_n 0, 1) := by decide +kernel
theorem dX0_verdict_5 : decode cX0_verdict 5 = .ok (.lload_n 1, 1) := by decide +kernel
theorem dX0_verdict_6 : decode cX0_verdict 6 = .ok (.lload_n 1, 1) := by decide +kernel
theorem dX0_verdict_7 : decode cX0_verdict 7 = .ok (.invokestatic 41, 3) := by decide +kernel
theorem dX0_verdict_10 : decode cX0_verdict 10 = .ok (.invokevirtual 47, 3) := by decide +kernel
theorem dX0_verdict_13 : decode cX0_verdict 13 = .ok (.iaload, 1) := by decide +kernel
theorem dX0_verdict_14 : decode cX0_verdict 14 = .ok (.ireturn, 1) := by decide +kernel

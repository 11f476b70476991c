theorem dJx00060_init_a7421_0 : decode cJx00060_init_a7421 0 = .ok (.aload_n 0, 1) := by decide +kernel
theorem dJx00060_init_a7421_1 : decode cJx00060_init_a7421 1 = .ok (.aload_n 1, 1) := by decide +kernel
theorem dJx00060_init_a7421_2 : decode cJx00060_init_a7421 2 = .ok (.invokespecial 7, 3) := by decide +kernel
theorem dJx00060_init_a7421_5 : decode cJx00060_init_a7421 5 = .ok (.return_, 1) := by decide +kernel
theorem dJ6_bitCount_0f7a4_0 : decode cJ6_bitCount_0f7a4 0 = .ok (.iload_n 0, 1) := by decide +kernel
theorem dJ6_bitCount_0f7a4_1 : decode cJ6_bitCount_0f7a4 1 = .ok (.iload_n 0, 1) := by decide +kernel
theorem dJ6_bitCount_0f7a4_2 : decode cJ6_bitCount_0f7a4 2 = .ok (.iconst 1, 1) := by decide +kernel
theorem dJ6_bitCount_0f7a4_3 : decode cJ6_bitCount_0f7a4 3 = .ok (.iushr, 1) := by decide +kernel
theorem dJ6_bitCount_0f7a4_4 : decode cJ6_bitCount_0f7a4 4 = .ok (.ldc_w 265, 3) := by decide +kernel
theorem dJ6_bitCount_0f7a4_7 : decode cJ6_bitCount_0f7a4 7 = .ok (.iand, 1) := by decide +kernel
theorem dJ6_bitCount_0f7a4_8 : decode cJ6_bitCount_0f7a4 8 = .ok (.isub, 1) := by decide +kernel
theorem dJ6_bitCount_0f7a4_9 : decode cJ6_bitCount_0f7a4 9 = .ok (.istore_n 0, 1) := by decide +kernel
theorem dJ6_bitCount_0f7a4_10 : decode cJ6_bitCount_0f7a4 10 = .ok (.iload_n 0, 1) := by decide +kernel
theorem dJ6_bitCount_0f7a4_11 : decode cJ6_bitCount_0f7a4 11 = .ok (.ldc_w 266, 3) := by decide +kernel
theorem dJ6_bitCount_0f7a4_14 : decode cJ6_bitCount_0f7a4 14 = .ok (.iand, 1) := by decide +kernel
theorem dJ6_bitCount_0f7a4_15 : decode cJ6_bitCount_0f7a4 15 = .ok (.iload_n 0, 1) := by decide +kernel
theorem dJ6_bitCount_0f7a4_16 : decode cJ6_bitCount_0f7a4 16 = .ok (.iconst 2, 1) := by decide +kernel
theorem dJ6_bitCount_0f7a4_17 : decode cJ6_bitCount_0f7a4 17 = .ok (.iushr, 1) := by decide +kernel
theorem dJ6_bitCount_0f7a4_18 : decode cJ6_bitCount_0f7a4 18 = .ok (.ldc_w 266, 3) := by decide +kernel
theorem dJ6_bitCount_0f7a4_21 : decode cJ6_bitCount_0f7a4 21 = .ok (.iand, 1) := by decide +kernel
theorem dJ6_bitCount_0f7a4_22 : decode cJ6_bitCount_0f7a4 22 = .ok (.iadd, 1) := by decide +kernel
theorem dJ6_bitCount_0f7a4_23 : decode cJ6_bitCount_0f7a4 23 = .ok (.istore_n 0, 1) := by decide +kernel
theorem dJ6_bitCount_0f7a4_24 : decode cJ6_bitCount_0f7a4 24 = .ok (.iload_n 0, 1) := by decide +kernel
theorem dJ6_bitCount_0f7a4_25 : decode cJ6_bitCount_0f7a4 25 = .ok (.iload_n 0, 1) := by decide +kernel
theorem dJ6_bitCount_0f7a4_26 : decode cJ6_bitCount_0f7a4 26 = .ok (.iconst 4, 1) := by decide +kernel
theorem dJ6_bitCount_0f7a4_27 : decode cJ6_bitCount_0f7a4 27 = .ok (.iushr, 1) := by decide +kernel
theorem dJ6_bitCount_0f7a4_28 : decode cJ6_bitCount_0f7a4 28 = .ok (.iadd, 1) := by decide +kernel
theorem dJ6_bitCount_0f7a4_29 : decode cJ6_bitCount_0f7a4 29 = .ok (.ldc_w 267, 3) := by decide +kernel
theorem dJ6_bitCount_0f7a4_32 : decode cJ6_bitCount_0f7a4 32 = .ok (.iand, 1) := by decide +kernel
theorem dJ6_bitCount_0f7a4_33 : decode cJ6_bitCount_0f7a4 33 = .ok (.istore_n 0, 1) := by decide +kernel
theorem dJ6_bitCount_0f7a4_34 : decode cJ6_bitCount_0f7a4 34 = .ok (.iload_n 0, 1) := by decide +kernel
theorem dJ6_bitCount_0f7a4_35 : decode cJ6_bitCount_0f7a4 35 = .ok (.iload_n 0, 1) := by decide +kernel
theorem dJ6_bitCount_0f7a4_36 : decode cJ6_bitCount_0f7a4 36 = .ok (.bipush 8, 2) := by decide +kernel
theorem dJ6_bitCount_0f7a4_38 : decode cJ6_bitCount_0f7a4 38 = .ok (.iushr, 1) := by decide +kernel
theorem dJ6_bitCount_0f7a4_39 : decode cJ6_bitCount_0f7a4 39 = .ok (.iadd, 1) := by decide +kernel
theorem dJ6_bitCount_0f7a4_40 : decode cJ6_bitCount_0f7a4 40 = .ok (.istore_n 0, 1) := by decide +kernel
theorem dJ6_bitCount_0f7a4_41 : decode cJ6_bitCount_0f7a4 41 = .ok (.iload_n 0, 1) := by decide +kernel
theorem dJ6_bitCount_0f7a4_42 : decode cJ6_bitCount_0f7a4 42 = .ok (.iload_n 0, 1) := by decide +kernel
theorem dJ6_bitCount_0f7a4_43 : decode cJ6_bitCount_0f7a4 43 = .ok (.bipush 16, 2) := by decide +kernel
theorem dJ6_bitCount_0f7a4_45 : decode cJ6_bitCount_0f7a4 45 = .ok (.iushr, 1) := by decide +kernel
theorem dJ6_bitCount_0f7a4_46 : decode cJ6_bitCount_0f7a4 46 = .ok (.iadd, 1) := by decide +kernel
theorem dJ6_bitCount_0f7a4_47 : decode cJ6_bitCount_0f7a4 47 = .ok (.istore_n 0, 1) := by decide +kernel
theorem dJ6_bitCount_0f7a4_48 : decode cJ6_bitCount_0f7a4 48 = .ok (.iload_n 0, 1) := by decide +kernel
theorem dJ6_bitCount_0f7a4_49 : decode cJ6_bitCount_0f7a4 49 = .ok (.bipush 63, 2) := by decide +kernel
theorem dJ6_bitCount_0f7a4_51 : decode cJ6_bitCount_0f7a4 51 = .ok (.iand, 1) := by decide +kernel
theorem dJ6_bitCount_0f7a4_52 : decode cJ6_bitCount_0f7a4 52 = .ok (.ireturn, 1) := by decide +kernel
theorem dJ9_max_7cf53_0 : decode cJ9_max_7cf53 0 = .ok (.iload_n 0, 1) := by decide +kernel
theorem dJ9_max_7cf53_1 : decode cJ9_max_7cf53 1 = .ok (.iload_n 1, 1) := by decide +kernel
theorem dJ9_max_7cf53_2 : decode cJ9_max_7cf53 2 = .ok (.if_icmp .lt 7, 3) := by decide +kernel
theorem dJ9_max_7cf53_5 : decode cJ9_max_7cf53 5 = .ok (.iload_n 0, 1) := by decide +kernel
theorem dJ9_max_7cf53_6 : decode cJ9_max_7cf53 6 = .ok (.goto 4, 3) := by decide +kernel
theorem dJ9_max_7cf53_9 : decode cJ9_max_7cf53 9 = .ok (.iload_n 1, 1) := by decide +kernel
theorem dJ9_max_7cf53_10 : decode cJ9_max_7cf53 10 = .ok (.ireturn, 1) := by decide +kernel
theorem dJ9_min_7cf53_0 : decode cJ9_min_7cf53 0 = .ok (.iload_n 0, 1) := by decide +kernel
theorem dJ9_min_7cf53_1 : decode cJ9_min_7cf53 1 = .ok (.iload_n 1, 1) := by decide +kernel
theorem dJ9_min_7cf53_2 : decode cJ9_min_7cf53 2 = .ok (.if_icmp .gt 7, 3) := by decide +kernel
theorem dJ9_min_7cf53_5 : decode cJ9_min_7cf53 5 = .ok (.iload_n 0, 1) := by decide +kernel
theorem dJ9_min_7cf53_6 : decode cJ9_min_7cf53 6 = .ok (.goto 4, 3) := by decide +kernel
theorem dJ9_min_7cf53_9 : decode cJ9_min_7cf53 9 = .ok (.iload_n 1, 1) := by decide +kernel
theorem dJ9_min_7cf53_10 : decode cJ9_min_7cf53 10 = .ok (.ireturn, 1) := by decide +kernel
theorem dX0_init_0 : decode cX0_init 0 = .ok (.aload_n 0, 1) := by decide +kernel
theorem dX0_init_1 : decode cX0_init 1 = .ok (.invokespecial 3, 3) := by decide +kernel
theorem dX0_init_4 : decode cX0_init 4 = .ok (.aload_n 0, 1) := by decide +kernel
theorem dX0_init_5 : decode cX0_init 5 = .ok (.bipush 8, 2) := by decide +kernel
theorem dX0_init_7 : decode cX0_init 7 = .ok (.newarray .int, 2) := by decide +kernel
theorem dX0_init_9 : decode cX0_init 9 = .ok (.putfield 9, 3) := by decide +kernel
theorem dX0_init_12 : decode cX0_init 12 = .ok (.aload_n 0, 1) := by decide +kernel
theorem dX0_init_13 : decode cX0_init 13 = .ok (.bipush 8, 2) := by decide +kernel
theorem dX0_init_15 : decode cX0_init 15 = .ok (.newarray .int, 2) := by decide +kernel
theorem dX0_init_17 : decode cX0_init 17 = .ok (.putfield 15, 3) := by decide +kernel
theorem dX0_init_20 : decode cX0_init 20 = .ok (.aload_n 0, 1) := by decide +kernel
theorem dX0_init_21 : decode cX0_init 21 = .ok (.iload_n 1, 1) := by decide +kernel
theorem dX0_init_22 : decode cX0_init 22 = .ok (.putfield 18, 3) := by decide +kernel
theorem dX0_init_25 : decode cX0_init 25 = .ok (.aload_n 0, 1) := by decide +kernel
theorem dX0_init_26 : decode cX0_init 26 = .ok (.iload_n 2, 1) := by decide +kernel
theorem dX0_init_27 : decode cX0_init 27 = .ok (.putfield 22, 3) := by decide +kernel
theorem dX0_init_30 : decode cX0_init 30 = .ok (.iconst 0, 1) := by decide +kernel
theorem dX0_init_31 : decode cX0_init 31 = .ok (.istore_n 3, 1) := by decide +kernel
theorem dX0_init_32 : decode cX0_init 32 = .ok (.iconst 0, 1) := by decide +kernel
theorem dX0_init_33 : decode cX0_init 33 = .ok (.istore 4, 2) := by decide +kernel
theorem dX0_init_35 : decode cX0_init 35 = .ok (.iload 4, 2) := by decide +kernel
theorem dX0_init_37 : decode cX0_init 37 = .ok (.iload_n 2, 1) := by decide +kernel
theorem dX0_init_38 : decode cX0_init 38 = .ok (.if_icmp .ge 18, 3) := by decide +kernel
theorem dX0_init_41 : decode cX0_init 41 = .ok (.iload_n 3, 1) := by decide +kernel
theorem dX0_init_42 : decode cX0_init 42 = .ok (.iconst 1, 1) := by decide +kernel
theorem dX0_init_43 : decode cX0_init 43 = .ok (.iload_n 1, 1) := by decide +kernel
theorem dX0_init_44 : decode cX0_init 44 = .ok (.iload 4, 2) := by decide +kernel
theorem dX0_init_46 : decode cX0_init 46 = .ok (.imul, 1) := by decide +kernel
theorem dX0_init_47 : decode cX0_init 47 = .ok (.ishl, 1) := by decide +kernel
theorem dX0_init_48 : decode cX0_init 48 = .ok (.ior, 1) := by decide +kernel
theorem dX0_init_49 : decode cX0_init 49 = .ok (.istore_n 3, 1) := by decide +kernel
theorem dX0_init_50 : decode cX0_init 50 = .ok (.iinc 4 1, 3) := by decide +kernel
theorem dX0_init_53 : decode cX0_init 53 = .ok (.goto (-18), 3) := by decide +kernel
theorem dX0_init_56 : decode cX0_init 56 = .ok (.aload_n 0, 1) := by decide +kernel
theorem dX0_init_57 : decode cX0_init 57 = .ok (.iload_n 3, 1) := by decide +kernel
theorem dX0_init_58 : decode cX0_init 58 = .ok (.putfield 25, 3) := by decide +kernel
theorem dX0_init_61 : decode cX0_init 61 = .ok (.aload_n 0, 1) := by decide +kernel
theorem dX0_init_62 : decode cX0_init 62 = .ok (.iload_n 3, 1) := by decide +kernel
theorem dX0_init_63 : decode cX0_init 63 = .ok (.iload_n 1, 1) := by decide +kernel
theorem dX0_init_64 : decode cX0_init 64 = .ok (.iconst 1, 1) := by decide +kernel
theorem dX0_init_65 : decode cX0_init 65 = .ok (.isub, 1) := by decide +kernel
theorem dX0_init_66 : decode cX0_init 66 = .ok (.ishl, 1) := by decide +kernel
theorem dX0_init_67 : decode cX0_init 67 = .ok (.putfield 28, 3) := by decide +kernel
theorem dX0_init_70 : decode cX0_init 70 = .ok (.aload_n 0, 1) := by decide +kernel
theorem dX0_init_71 : decode cX0_init 71 = .ok (.iconst 1, 1) := by decide +kernel
theorem dX0_init_72 : decode cX0_init 72 = .ok (.iload_n 1, 1) := by decide +kernel
theorem dX0_init_73 : decode cX0_init 73 = .ok (.ishl, 1) := by decide +kernel
theorem dX0_init_74 : decode cX0_init 74 = .ok (.iconst 1, 1) := by decide +kernel
theorem dX0_init_75 : decode cX0_init 75 = .ok (.isub, 1) := by decide +kernel
theorem dX0_init_76 : decode cX0_init 76 = .ok (.putfield 31, 3) := by decide +kernel
theorem dX0_init_79 : decode cX0_init 79 = .ok (.aload_n 0, 1) := by decide +kernel
theorem dX0_init_80 : decode cX0_init 80 = .ok (.aload_n 0, 1) := by decide +kernel
theorem dX0_init_81 : decode cX0_init 81 = .ok (.getfield 31, 3) := by decide +kernel
theorem dX0_init_84 : decode cX0_init 84 = .ok (.iload_n 1, 1) := by decide +kernel
theorem dX0_init_85 : decode cX0_init 85 = .ok (.iload_n 2, 1) := by decide +kernel
theorem dX0_init_86 : decode cX0_init 86 = .ok (.iconst 1, 1) := by decide +kernel
theorem dX0_init_87 : decode cX0_init 87 = .ok (.isub, 1) := by decide +kernel
theorem dX0_init_88 : decode cX0_init 88 = .ok (.imul, 1) := by decide +kernel
theorem dX0_init_89 : decode cX0_init 89 = .ok (.ishl, 1) := by decide +kernel
theorem dX0_init_90 : decode cX0_init 90 = .ok (.putfield 34, 3) := by decide +kernel
theorem dX0_init_93 : decode cX0_init 93 = .ok (.return_, 1) := by decide +kernel
theorem dX0_hasCell_0 : decode cX0_hasCell 0 = .ok (.iload_n 1, 1) := by decide +kernel
theorem dX0_hasCell_1 : decode cX0_hasCell 1 = .ok (.ifCond .lt 27, 3) := by decide +kernel
theorem dX0_hasCell_4 : decode cX0_hasCell 4 = .ok (.iload_n 1, 1) := by decide +kernel
theorem dX0_hasCell_5 : decode cX0_hasCell 5 = .ok (.aload_n 0, 1) := by decide +kernel
theorem dX0_hasCell_6 : decode cX0_hasCell 6 = .ok (.getfield 18, 3) := by decide +kernel
theorem dX0_hasCell_9 : decode cX0_hasCell 9 = .ok (.if_icmp .ge 19, 3) := by decide +kernel
theorem dX0_hasCell_12 : decode cX0_hasCell 12 = .ok (.iload_n 2, 1) := by decide +kernel
theorem dX0_hasCell_13 : decode cX0_hasCell 13 = .ok (.ifCond .lt 15, 3) := by decide +kernel
theorem dX0_hasCell_16 : decode cX0_hasCell 16 = .ok (.iload_n 2, 1) := by decide +kernel
theorem dX0_hasCell_17 : decode cX0_hasCell 17 = .ok (.aload_n 0, 1) := by decide +kernel
theorem dX0_hasCell_18 : decode cX0_hasCell 18 = .ok (.getfield 22, 3) := by decide +kernel
theorem dX0_hasCell_21 : decode cX0_hasCell 21 = .ok (.if_icmp .ge 7, 3) := by decide +kernel
theorem dX0_hasCell_24 : decode cX0_hasCell 24 = .ok (.iconst 1, 1) := by decide +kernel
theorem dX0_hasCell_25 : decode cX0_hasCell 25 = .ok (.goto 4, 3) := by decide +kernel
theorem dX0_hasCell_28 : decode cX0_hasCell 28 = .ok (.iconst 0, 1) := by decide +kernel
theorem dX0_hasCell_29 : decode cX0_hasCell 29 = .ok (.ireturn, 1) := by decide +kernel
theorem dX0_cellOf_0 : decode cX0_cellOf 0 = .ok (.aload_n 0, 1) := by decide +kernel
theorem dX0_cellOf_1 : decode cX0_cellOf 1 = .ok (.getfield 18, 3) := by decide +kernel
theorem dX0_cellOf_4 : decode cX0_cellOf 4 = .ok (.iload_n 2, 1) := by decide +kernel
theorem dX0_cellOf_5 : decode cX0_cellOf 5 = .ok (.imul, 1) := by decide +kernel
theorem dX0_cellOf_6 : decode cX0_cellOf 6 = .ok (.iload_n 1, 1) := by decide +kernel
theorem dX0_cellOf_7 : decode cX0_cellOf 7 = .ok (.iadd, 1) := by decide +kernel
theorem dX0_cellOf_8 : decode cX0_cellOf 8 = .ok (.ireturn, 1) := by decide +kernel
theorem dX0_bitOf_0 : decode cX0_bitOf 0 = .ok (.iconst 1, 1) := by decide +kernel
theorem dX0_bitOf_1 : decode cX0_bitOf 1 = .ok (.aload_n 0, 1) := by decide +kernel
theorem dX0_bitOf_2 : decode cX0_bitOf 2 = .ok (.iload_n 1, 1) := by decide +kernel
theorem dX0_bitOf_3 : decode cX0_bitOf 3 = .ok (.iload_n 2, 1) := by decide +kernel
theorem dX0_bitOf_4 : decode cX0_bitOf 4 = .ok (.invokevirtual 37, 3) := by decide +kernel
theorem dX0_bitOf_7 : decode cX0_bitOf 7 = .ok (.ishl, 1) := by decide +kernel
theorem dX0_bitOf_8 : decode cX0_bitOf 8 = .ok (.ireturn, 1) := by decide +kernel
theorem dX0_leastCell_0 : decode cX0_leastCell 0 = .ok (.iload_n 0, 1) := by decide +kernel
theorem dX0_leastCell_1 : decode cX0_leastCell 1 = .ok (.ifCond .ne 7, 3) := by decide +kernel
theorem dX0_leastCell_4 : decode cX0_leastCell 4 = .ok (.iconst (-1), 1) := by decide +kernel
theorem dX0_leastCell_5 : decode cX0_leastCell 5 = .ok (.goto 12, 3) := by decide +kernel
theorem dX0_leastCell_8 : decode cX0_leastCell 8 = .ok (.iload_n 0, 1) := by decide +kernel
theorem dX0_leastCell_9 : decode cX0_leastCell 9 = .ok (.iload_n 0, 1) := by decide +kernel
theorem dX0_leastCell_10 : decode cX0_leastCell 10 = .ok (.ineg, 1) := by decide +kernel
theorem dX0_leastCell_11 : decode cX0_leastCell 11 = .ok (.iand, 1) := by decide +kernel
theorem dX0_leastCell_12 : decode cX0_leastCell 12 = .ok (.iconst 1, 1) := by decide +kernel
theorem dX0_leastCell_13 : decode cX0_leastCell 13 = .ok (.isub, 1) := by decide +kernel
theorem dX0_leastCell_14 : decode cX0_leastCell 14 = .ok (.invokestatic 41, 3) := by decide +kernel
theorem dX0_leastCell_17 : decode cX0_leastCell 17 = .ok (.ireturn, 1) := by decide +kernel
theorem dX0_filled_0 : decode cX0_filled 0 = .ok (.aload_n 0, 1) := by decide +kernel
theorem dX0_filled_1 : decode cX0_filled 1 = .ok (.getfield 47, 3) := by decide +kernel
theorem dX0_filled_4 : decode cX0_filled 4 = .ok (.istore_n 1, 1) := by decide +kernel
theorem dX0_filled_5 : decode cX0_filled 5 = .ok (.iconst 0, 1) := by decide +kernel
theorem dX0_filled_6 : decode cX0_filled 6 = .ok (.istore_n 2, 1) := by decide +kernel
theorem dX0_filled_7 : decode cX0_filled 7 = .ok (.iload_n 2, 1) := by decide +kernel
theorem dX0_filled_8 : decode cX0_filled 8 = .ok (.aload_n 0, 1) := by decide +kernel
theorem dX0_filled_9 : decode cX0_filled 9 = .ok (.getfield 50, 3) := by decide +kernel
theorem dX0_filled_12 : decode cX0_filled 12 = .ok (.if_icmp .ge 18, 3) := by decide +kernel
theorem dX0_filled_15 : decode cX0_filled 15 = .ok (.iload_n 1, 1) := by decide +kernel
theorem dX0_filled_16 : decode cX0_filled 16 = .ok (.aload_n 0, 1) := by decide +kernel
theorem dX0_filled_17 : decode cX0_filled 17 = .ok (.getfield 15, 3) := by decide +kernel
theorem dX0_filled_20 : decode cX0_filled 20 = .ok (.iload_n 2, 1) := by decide +kernel
theorem dX0_filled_21 : decode cX0_filled 21 = .ok (.iaload, 1) := by decide +kernel
theorem dX0_filled_22 : decode cX0_filled 22 = .ok (.ior, 1) := by decide +kernel
theorem dX0_filled_23 : decode cX0_filled 23 = .ok (.istore_n 1, 1) := by decide +kernel
theorem dX0_filled_24 : decode cX0_filled 24 = .ok (.iinc 2 1, 3) := by decide +kernel
theorem dX0_filled_27 : decode cX0_filled 27 = .ok (.goto (-20), 3) := by decide +kernel
theorem dX0_filled_30 : decode cX0_filled 30 = .ok (.iload_n 1, 1) := by decide +kernel
theorem dX0_filled_31 : decode cX0_filled 31 = .ok (.ireturn, 1) := by decide +kernel
theorem dX0_setWall_0 : decode cX0_setWall 0 = .ok (.aload_n 0, 1) := by decide +kernel
theorem dX0_setWall_1 : decode cX0_setWall 1 = .ok (.invokevirtual 53, 3) := by decide +kernel
theorem dX0_setWall_4 : decode cX0_setWall 4 = .ok (.iload_n 1, 1) := by decide +kernel
theorem dX0_setWall_5 : decode cX0_setWall 5 = .ok (.iand, 1) := by decide +kernel
theorem dX0_setWall_6 : decode cX0_setWall 6 = .ok (.ifCond .ne 7, 3) := by decide +kernel
theorem dX0_setWall_9 : decode cX0_setWall 9 = .ok (.iconst 1, 1) := by decide +kernel
theorem dX0_setWall_10 : decode cX0_setWall 10 = .ok (.goto 4, 3) := by decide +kernel
theorem dX0_setWall_13 : decode cX0_setWall 13 = .ok (.iconst 0, 1) := by decide +kernel
theorem dX0_setWall_14 : decode cX0_setWall 14 = .ok (.istore_n 3, 1) := by decide +kernel
theorem dX0_setWall_15 : decode cX0_setWall 15 = .ok (.aload_n 0, 1) := by decide +kernel
theorem dX0_setWall_16 : decode cX0_setWall 16 = .ok (.getfield 47, 3) := by decide +kernel
theorem dX0_setWall_19 : decode cX0_setWall 19 = .ok (.iload_n 1, 1) := by decide +kernel
theorem dX0_setWall_20 : decode cX0_setWall 20 = .ok (.iand, 1) := by decide +kernel
theorem dX0_setWall_21 : decode cX0_setWall 21 = .ok (.ifCond .eq 7, 3) := by decide +kernel
theorem dX0_setWall_24 : decode cX0_setWall 24 = .ok (.iconst 1, 1) := by decide +kernel
theorem dX0_setWall_25 : decode cX0_setWall 25 = .ok (.goto 4, 3) := by decide +kernel
theorem dX0_setWall_28 : decode cX0_setWall 28 = .ok (.iconst 0, 1) := by decide +kernel
theorem dX0_setWall_29 : decode cX0_setWall 29 = .ok (.istore 4, 2) := by decide +kernel
theorem dX0_setWall_31 : decode cX0_setWall 31 = .ok (.iload_n 2, 1) := by decide +kernel
theorem dX0_setWall_32 : decode cX0_setWall 32 = .ok (.ifCond .eq 10, 3) := by decide +kernel
theorem dX0_setWall_35 : decode cX0_setWall 35 = .ok (.iload_n 3, 1) := by decide +kernel
theorem dX0_setWall_36 : decode cX0_setWall 36 = .ok (.ifCond .ne 13, 3) := by decide +kernel
theorem dX0_setWall_39 : decode cX0_setWall 39 = .ok (.goto 8, 3) := by decide +kernel
theorem dX0_setWall_42 : decode cX0_setWall 42 = .ok (.iload 4, 2) := by decide +kernel
theorem dX0_setWall_44 : decode cX0_setWall 44 = .ok (.ifCond .ne 5, 3) := by decide +kernel
theorem dX0_setWall_47 : decode cX0_setWall 47 = .ok (.iconst 0, 1) := by decide +kernel
theorem dX0_setWall_48 : decode cX0_setWall 48 = .ok (.ireturn, 1) := by decide +kernel
theorem dX0_setWall_49 : decode cX0_setWall 49 = .ok (.aload_n 0, 1) := by decide +kernel
theorem dX0_setWall_50 : decode cX0_setWall 50 = .ok (.dup, 1) := by decide +kernel
theorem dX0_setWall_51 : decode cX0_setWall 51 = .ok (.getfield 47, 3) := by decide +kernel
theorem dX0_setWall_54 : decode cX0_setWall 54 = .ok (.iload_n 1, 1) := by decide +kernel
theorem dX0_setWall_55 : decode cX0_setWall 55 = .ok (.ixor, 1) := by decide +kernel
theorem dX0_setWall_56 : decode cX0_setWall 56 = .ok (.putfield 47, 3) := by decide +kernel
theorem dX0_setWall_59 : decode cX0_setWall 59 = .ok (.iconst 1, 1) := by decide +kernel
theorem dX0_setWall_60 : decode cX0_setWall 60 = .ok (.ireturn, 1) := by decide +kernel
theorem dX0_addBlock_0 : decode cX0_addBlock 0 = .ok (.aload_n 0, 1) := by decide +kernel
theorem dX0_addBlock_1 : decode cX0_addBlock 1 = .ok (.getfield 50, 3) := by decide +kernel
theorem dX0_addBlock_4 : decode cX0_addBlock 4 = .ok (.bipush 8, 2) := by decide +kernel
theorem dX0_addBlock_6 : decode cX0_addBlock 6 = .ok (.if_icmp .lt 5, 3) := by decide +kernel
theorem dX0_addBlock_9 : decode cX0_addBlock 9 = .ok (.iconst (-1), 1) := by decide +kernel
theorem dX0_addBlock_10 : decode cX0_addBlock 10 = .ok (.ireturn, 1) := by decide +kernel
theorem dX0_addBlock_11 : decode cX0_addBlock 11 = .ok (.aload_n 0, 1) := by decide +kernel
theorem dX0_addBlock_12 : decode cX0_addBlock 12 = .ok (.getfield 9, 3) := by decide +kernel
theorem dX0_addBlock_15 : decode cX0_addBlock 15 = .ok (.aload_n 0, 1) := by decide +kernel
theorem dX0_addBlock_16 : decode cX0_addBlock 16 = .ok (.getfield 50, 3) := by decide +kernel
theorem dX0_addBlock_19 : decode cX0_addBlock 19 = .ok (.iload_n 1, 1) := by decide +kernel
theorem dX0_addBlock_20 : decode cX0_addBlock 20 = .ok (.iastore, 1) := by decide +kernel
theorem dX0_addBlock_21 : decode cX0_addBlock 21 = .ok (.aload_n 0, 1) := by decide +kernel
theorem dX0_addBlock_22 : decode cX0_addBlock 22 = .ok (.dup, 1) := by decide +kernel
theorem dX0_addBlock_23 : decode cX0_addBlock 23 = .ok (.getfield 50, 3) := by decide +kernel
theorem dX0_addBlock_26 : decode cX0_addBlock 26 = .ok (.iconst 1, 1) := by decide +kernel
theorem dX0_addBlock_27 : decode cX0_addBlock 27 = .ok (.iadd, 1) := by decide +kernel
theorem dX0_addBlock_28 : decode cX0_addBlock 28 = .ok (.putfield 50, 3) := by decide +kernel
theorem dX0_addBlock_31 : decode cX0_addBlock 31 = .ok (.aload_n 0, 1) := by decide +kernel
theorem dX0_addBlock_32 : decode cX0_addBlock 32 = .ok (.getfield 50, 3) := by decide +kernel
theorem dX0_addBlock_35 : decode cX0_addBlock 35 = .ok (.iconst 1, 1) := by decide +kernel
theorem dX0_addBlock_36 : decode cX0_addBlock 36 = .ok (.isub, 1) := by decide +kernel
theorem dX0_addBlock_37 : decode cX0_addBlock 37 = .ok (.ireturn, 1) := by decide +kernel
theorem dX0_addCell_0 : decode cX0_addCell 0 = .ok (.aload_n 0, 1) := by decide +kernel
theorem dX0_addCell_1 : decode cX0_addCell 1 = .ok (.invokevirtual 53, 3) := by decide +kernel
theorem dX0_addCell_4 : decode cX0_addCell 4 = .ok (.iload_n 2, 1) := by decide +kernel
theorem dX0_addCell_5 : decode cX0_addCell 5 = .ok (.iand, 1) := by decide +kernel
theorem dX0_addCell_6 : decode cX0_addCell 6 = .ok (.ifCond .eq 5, 3) := by decide +kernel
theorem dX0_addCell_9 : decode cX0_addCell 9 = .ok (.iconst 0, 1) := by decide +kernel
theorem dX0_addCell_10 : decode cX0_addCell 10 = .ok (.ireturn, 1) := by decide +kernel
theorem dX0_addCell_11 : decode cX0_addCell 11 = .ok (.aload_n 0, 1) := by decide +kernel
theorem dX0_addCell_12 : decode cX0_addCell 12 = .ok (.getfield 15, 3) := by decide +kernel
theorem dX0_addCell_15 : decode cX0_addCell 15 = .ok (.iload_n 1, 1) := by decide +kernel
theorem dX0_addCell_16 : decode cX0_addCell 16 = .ok (.dup2, 1) := by decide +kernel
theorem dX0_addCell_17 : decode cX0_addCell 17 = .ok (.iaload, 1) := by decide +kernel
theorem dX0_addCell_18 : decode cX0_addCell 18 = .ok (.iload_n 2, 1) := by decide +kernel
theorem dX0_addCell_19 : decode cX0_addCell 19 = .ok (.ior, 1) := by decide +kernel
theorem dX0_addCell_20 : decode cX0_addCell 20 = .ok (.iastore, 1) := by decide +kernel
theorem dX0_addCell_21 : decode cX0_addCell 21 = .ok (.iconst 1, 1) := by decide +kernel
theorem dX0_addCell_22 : decode cX0_addCell 22 = .ok (.ireturn, 1) := by decide +kernel
theorem dX0_slideBlock_0 : decode cX0_slideBlock 0 = .ok (.aload_n 0, 1) := by decide +kernel
theorem dX0_slideBlock_1 : decode cX0_slideBlock 1 = .ok (.invokevirtual 53, 3) := by decide +kernel
theorem dX0_slideBlock_4 : decode cX0_slideBlock 4 = .ok (.aload_n 0, 1) := by decide +kernel
theorem dX0_slideBlock_5 : decode cX0_slideBlock 5 = .ok (.getfield 15, 3) := by decide +kernel
theorem dX0_slideBlock_8 : decode cX0_slideBlock 8 = .ok (.iload_n 1, 1) := by decide +kernel
theorem dX0_slideBlock_9 : decode cX0_slideBlock 9 = .ok (.iaload, 1) := by decide +kernel
theorem dX0_slideBlock_10 : decode cX0_slideBlock 10 = .ok (.iconst (-1), 1) := by decide +kernel
theorem dX0_slideBlock_11 : decode cX0_slideBlock 11 = .ok (.ixor, 1) := by decide +kernel
theorem dX0_slideBlock_12 : decode cX0_slideBlock 12 = .ok (.iand, 1) := by decide +kernel
theorem dX0_slideBlock_13 : decode cX0_slideBlock 13 = .ok (.istore 4, 2) := by decide +kernel
theorem dX0_slideBlock_15 : decode cX0_slideBlock 15 = .ok (.iconst 0, 1) := by decide +kernel
theorem dX0_slideBlock_16 : decode cX0_slideBlock 16 = .ok (.istore 5, 2) := by decide +kernel
theorem dX0_slideBlock_18 : decode cX0_slideBlock 18 = .ok (.iload 5, 2) := by decide +kernel
theorem dX0_slideBlock_20 : decode cX0_slideBlock 20 = .ok (.iload_n 3, 1) := by decide +kernel
theorem dX0_slideBlock_21 : decode cX0_slideBlock 21 = .ok (.if_icmp .ge 46, 3) := by decide +kernel
theorem dX0_slideBlock_24 : decode cX0_slideBlock 24 = .ok (.iload 5, 2) := by decide +kernel
theorem dX0_slideBlock_26 : decode cX0_slideBlock 26 = .ok (.iconst 5, 1) := by decide +kernel
theorem dX0_slideBlock_27 : decode cX0_slideBlock 27 = .ok (.if_icmp .ge 40, 3) := by decide +kernel
theorem dX0_slideBlock_30 : decode cX0_slideBlock 30 = .ok (.aload_n 0, 1) := by decide +kernel
theorem dX0_slideBlock_31 : decode cX0_slideBlock 31 = .ok (.aload_n 0, 1) := by decide +kernel
theorem dX0_slideBlock_32 : decode cX0_slideBlock 32 = .ok (.getfield 15, 3) := by decide +kernel
theorem dX0_slideBlock_35 : decode cX0_slideBlock 35 = .ok (.iload_n 1, 1) := by decide +kernel
theorem dX0_slideBlock_36 : decode cX0_slideBlock 36 = .ok (.iaload, 1) := by decide +kernel
theorem dX0_slideBlock_37 : decode cX0_slideBlock 37 = .ok (.iload_n 2, 1) := by decide +kernel
theorem dX0_slideBlock_38 : decode cX0_slideBlock 38 = .ok (.iload 4, 2) := by decide +kernel
theorem dX0_slideBlock_40 : decode cX0_slideBlock 40 = .ok (.invokevirtual 57, 3) := by decide +kernel
theorem dX0_slideBlock_43 : decode cX0_slideBlock 43 = .ok (.istore 6, 2) := by decide +kernel
theorem dX0_slideBlock_45 : decode cX0_slideBlock 45 = .ok (.iload 6, 2) := by decide +kernel
theorem dX0_slideBlock_47 : decode cX0_slideBlock 47 = .ok (.ifCond .ne 6, 3) := by decide +kernel
theorem dX0_slideBlock_50 : decode cX0_slideBlock 50 = .ok (.goto 17, 3) := by decide +kernel
theorem dX0_slideBlock_53 : decode cX0_slideBlock 53 = .ok (.aload_n 0, 1) := by decide +kernel
theorem dX0_slideBlock_54 : decode cX0_slideBlock 54 = .ok (.getfield 15, 3) := by decide +kernel
theorem dX0_slideBlock_57 : decode cX0_slideBlock 57 = .ok (.iload_n 1, 1) := by decide +kernel
theorem dX0_slideBlock_58 : decode cX0_slideBlock 58 = .ok (.iload 6, 2) := by decide +kernel
theorem dX0_slideBlock_60 : decode cX0_slideBlock 60 = .ok (.iastore, 1) := by decide +kernel
theorem dX0_slideBlock_61 : decode cX0_slideBlock 61 = .ok (.iinc 5 1, 3) := by decide +kernel
theorem dX0_slideBlock_64 : decode cX0_slideBlock 64 = .ok (.goto (-46), 3) := by decide +kernel
theorem dX0_slideBlock_67 : decode cX0_slideBlock 67 = .ok (.iload 5, 2) := by decide +kernel
theorem dX0_slideBlock_69 : decode cX0_slideBlock 69 = .ok (.ireturn, 1) := by decide +kernel
theorem dX0_moved_0 : decode cX0_moved 0 = .ok (.iload_n 2, 1) := by decide +kernel
theorem dX0_moved_1 : decode cX0_moved 1 = .ok (.tableswitch 93 0 2 #[27, 48, 72], 27) := by decide +kernel
theorem dX0_moved_28 : decode cX0_moved 28 = .ok (.iload_n 1, 1) := by decide +kernel
theorem dX0_moved_29 : decode cX0_moved 29 = .ok (.aload_n 0, 1) := by decide +kernel
theorem dX0_moved_30 : decode cX0_moved 30 = .ok (.getfield 28, 3) := by decide +kernel
theorem dX0_moved_33 : decode cX0_moved 33 = .ok (.iand, 1) := by decide +kernel
theorem dX0_moved_34 : decode cX0_moved 34 = .ok (.ifCond .eq 7, 3) := by decide +kernel
theorem dX0_moved_37 : decode cX0_moved 37 = .ok (.iconst 0, 1) := by decide +kernel
theorem dX0_moved_38 : decode cX0_moved 38 = .ok (.goto 6, 3) := by decide +kernel
theorem dX0_moved_41 : decode cX0_moved 41 = .ok (.iload_n 1, 1) := by decide +kernel
theorem dX0_moved_42 : decode cX0_moved 42 = .ok (.iconst 1, 1) := by decide +kernel
theorem dX0_moved_43 : decode cX0_moved 43 = .ok (.ishl, 1) := by decide +kernel
theorem dX0_moved_44 : decode cX0_moved 44 = .ok (.istore 4, 2) := by decide +kernel
theorem dX0_moved_46 : decode cX0_moved 46 = .ok (.goto 69, 3) := by decide +kernel
theorem dX0_moved_49 : decode cX0_moved 49 = .ok (.iload_n 1, 1) := by decide +kernel
theorem dX0_moved_50 : decode cX0_moved 50 = .ok (.aload_n 0, 1) := by decide +kernel
theorem dX0_moved_51 : decode cX0_moved 51 = .ok (.getfield 34, 3) := by decide +kernel
theorem dX0_moved_54 : decode cX0_moved 54 = .ok (.iand, 1) := by decide +kernel
theorem dX0_moved_55 : decode cX0_moved 55 = .ok (.ifCond .eq 7, 3) := by decide +kernel
theorem dX0_moved_58 : decode cX0_moved 58 = .ok (.iconst 0, 1) := by decide +kernel
theorem dX0_moved_59 : decode cX0_moved 59 = .ok (.goto 9, 3) := by decide +kernel
theorem dX0_moved_62 : decode cX0_moved 62 = .ok (.iload_n 1, 1) := by decide +kernel
theorem dX0_moved_63 : decode cX0_moved 63 = .ok (.aload_n 0, 1) := by decide +kernel
theorem dX0_moved_64 : decode cX0_moved 64 = .ok (.getfield 18, 3) := by decide +kernel
theorem dX0_moved_67 : decode cX0_moved 67 = .ok (.ishl, 1) := by decide +kernel
theorem dX0_moved_68 : decode cX0_moved 68 = .ok (.istore 4, 2) := by decide +kernel
theorem dX0_moved_70 : decode cX0_moved 70 = .ok (.goto 45, 3) := by decide +kernel
theorem dX0_moved_73 : decode cX0_moved 73 = .ok (.iload_n 1, 1) := by decide +kernel
theorem dX0_moved_74 : decode cX0_moved 74 = .ok (.aload_n 0, 1) := by decide +kernel
theorem dX0_moved_75 : decode cX0_moved 75 = .ok (.getfield 25, 3) := by decide +kernel
theorem dX0_moved_78 : decode cX0_moved 78 = .ok (.iand, 1) := by decide +kernel
theorem dX0_moved_79 : decode cX0_moved 79 = .ok (.ifCond .eq 7, 3) := by decide +kernel
theorem dX0_moved_82 : decode cX0_moved 82 = .ok (.iconst 0, 1) := by decide +kernel
theorem dX0_moved_83 : decode cX0_moved 83 = .ok (.goto 6, 3) := by decide +kernel
theorem dX0_moved_86 : decode cX0_moved 86 = .ok (.iload_n 1, 1) := by decide +kernel
theorem dX0_moved_87 : decode cX0_moved 87 = .ok (.iconst 1, 1) := by decide +kernel
theorem dX0_moved_88 : decode cX0_moved 88 = .ok (.iushr, 1) := by decide +kernel
theorem dX0_moved_89 : decode cX0_moved 89 = .ok (.istore 4, 2) := by decide +kernel
theorem dX0_moved_91 : decode cX0_moved 91 = .ok (.goto 24, 3) := by decide +kernel
theorem dX0_moved_94 : decode cX0_moved 94 = .ok (.iload_n 1, 1) := by decide +kernel
theorem dX0_moved_95 : decode cX0_moved 95 = .ok (.aload_n 0, 1) := by decide +kernel
theorem dX0_moved_96 : decode cX0_moved 96 = .ok (.getfield 31, 3) := by decide +kernel
theorem dX0_moved_99 : decode cX0_moved 99 = .ok (.iand, 1) := by decide +kernel
theorem dX0_moved_100 : decode cX0_moved 100 = .ok (.ifCond .eq 7, 3) := by decide +kernel
theorem dX0_moved_103 : decode cX0_moved 103 = .ok (.iconst 0, 1) := by decide +kernel
theorem dX0_moved_104 : decode cX0_moved 104 = .ok (.goto 9, 3) := by decide +kernel
theorem dX0_moved_107 : decode cX0_moved 107 = .ok (.iload_n 1, 1) := by decide +kernel
theorem dX0_moved_108 : decode cX0_moved 108 = .ok (.aload_n 0, 1) := by decide +kernel
theorem dX0_moved_109 : decode cX0_moved 109 = .ok (.getfield 18, 3) := by decide +kernel
theorem dX0_moved_112 : decode cX0_moved 112 = .ok (.iushr, 1) := by decide +kernel
theorem dX0_moved_113 : decode cX0_moved 113 = .ok (.istore 4, 2) := by decide +kernel
theorem dX0_moved_115 : decode cX0_moved 115 = .ok (.iload 4, 2) := by decide +kernel
theorem dX0_moved_117 : decode cX0_moved 117 = .ok (.iload_n 3, 1) := by decide +kernel
theorem dX0_moved_118 : decode cX0_moved 118 = .ok (.iand, 1) := by decide +kernel
theorem dX0_moved_119 : decode cX0_moved 119 = .ok (.ifCond .eq 7, 3) := by decide +kernel
theorem dX0_moved_122 : decode cX0_moved 122 = .ok (.iconst 0, 1) := by decide +kernel
theorem dX0_moved_123 : decode cX0_moved 123 = .ok (.goto 5, 3) := by decide +kernel
theorem dX0_moved_126 : decode cX0_moved 126 = .ok (.iload 4, 2) := by decide +kernel
theorem dX0_moved_128 : decode cX0_moved 128 = .ok (.ireturn, 1) := by decide +kernel
theorem dX0_cornered_0 : decode cX0_cornered 0 = .ok (.iload_n 1, 1) := by decide +kernel
theorem dX0_cornered_1 : decode cX0_cornered 1 = .ok (.istore_n 2, 1) := by decide +kernel
theorem dX0_cornered_2 : decode cX0_cornered 2 = .ok (.iconst 0, 1) := by decide +kernel
theorem dX0_cornered_3 : decode cX0_cornered 3 = .ok (.istore_n 3, 1) := by decide +kernel
theorem dX0_cornered_4 : decode cX0_cornered 4 = .ok (.iload_n 3, 1) := by decide +kernel
theorem dX0_cornered_5 : decode cX0_cornered 5 = .ok (.iconst 5, 1) := by decide +kernel
theorem dX0_cornered_6 : decode cX0_cornered 6 = .ok (.if_icmp .ge 25, 3) := by decide +kernel
theorem dX0_cornered_9 : decode cX0_cornered 9 = .ok (.iload_n 2, 1) := by decide +kernel
theorem dX0_cornered_10 : decode cX0_cornered 10 = .ok (.aload_n 0, 1) := by decide +kernel
theorem dX0_cornered_11 : decode cX0_cornered 11 = .ok (.getfield 31, 3) := by decide +kernel
theorem dX0_cornered_14 : decode cX0_cornered 14 = .ok (.iand, 1) := by decide +kernel
theorem dX0_cornered_15 : decode cX0_cornered 15 = .ok (.ifCond .ne 16, 3) := by decide +kernel
theorem dX0_cornered_18 : decode cX0_cornered 18 = .ok (.iload_n 2, 1) := by decide +kernel
theorem dX0_cornered_19 : decode cX0_cornered 19 = .ok (.aload_n 0, 1) := by decide +kernel
theorem dX0_cornered_20 : decode cX0_cornered 20 = .ok (.getfield 18, 3) := by decide +kernel
theorem dX0_cornered_23 : decode cX0_cornered 23 = .ok (.iushr, 1) := by decide +kernel
theorem dX0_cornered_24 : decode cX0_cornered 24 = .ok (.istore_n 2, 1) := by decide +kernel
theorem dX0_cornered_25 : decode cX0_cornered 25 = .ok (.iinc 3 1, 3) := by decide +kernel
theorem dX0_cornered_28 : decode cX0_cornered 28 = .ok (.goto (-24), 3) := by decide +kernel
theorem dX0_cornered_31 : decode cX0_cornered 31 = .ok (.iconst 0, 1) := by decide +kernel
theorem dX0_cornered_32 : decode cX0_cornered 32 = .ok (.istore_n 3, 1) := by decide +kernel
theorem dX0_cornered_33 : decode cX0_cornered 33 = .ok (.iload_n 3, 1) := by decide +kernel
theorem dX0_cornered_34 : decode cX0_cornered 34 = .ok (.iconst 5, 1) := by decide +kernel
theorem dX0_cornered_35 : decode cX0_cornered 35 = .ok (.if_icmp .ge 22, 3) := by decide +kernel
theorem dX0_cornered_38 : decode cX0_cornered 38 = .ok (.iload_n 2, 1) := by decide +kernel
theorem dX0_cornered_39 : decode cX0_cornered 39 = .ok (.aload_n 0, 1) := by decide +kernel
theorem dX0_cornered_40 : decode cX0_cornered 40 = .ok (.getfield 25, 3) := by decide +kernel
theorem dX0_cornered_43 : decode cX0_cornered 43 = .ok (.iand, 1) := by decide +kernel
theorem dX0_cornered_44 : decode cX0_cornered 44 = .ok (.ifCond .ne 13, 3) := by decide +kernel
theorem dX0_cornered_47 : decode cX0_cornered 47 = .ok (.iload_n 2, 1) := by decide +kernel
theorem dX0_cornered_48 : decode cX0_cornered 48 = .ok (.iconst 1, 1) := by decide +kernel
theorem dX0_cornered_49 : decode cX0_cornered 49 = .ok (.iushr, 1) := by decide +kernel
theorem dX0_cornered_50 : decode cX0_cornered 50 = .ok (.istore_n 2, 1) := by decide +kernel
theorem dX0_cornered_51 : decode cX0_cornered 51 = .ok (.iinc 3 1, 3) := by decide +kernel
theorem dX0_cornered_54 : decode cX0_cornered 54 = .ok (.goto (-21), 3) := by decide +kernel
theorem dX0_cornered_57 : decode cX0_cornered 57 = .ok (.iload_n 2, 1) := by decide +kernel
theorem dX0_cornered_58 : decode cX0_cornered 58 = .ok (.ireturn, 1) := by decide +kernel
theorem dX0_areAlike_0 : decode cX0_areAlike 0 = .ok (.aload_n 0, 1) := by decide +kernel
theorem dX0_areAlike_1 : decode cX0_areAlike 1 = .ok (.getfield 9, 3) := by decide +kernel
theorem dX0_areAlike_4 : decode cX0_areAlike 4 = .ok (.iload_n 1, 1) := by decide +kernel
theorem dX0_areAlike_5 : decode cX0_areAlike 5 = .ok (.iaload, 1) := by decide +kernel
theorem dX0_areAlike_6 : decode cX0_areAlike 6 = .ok (.aload_n 0, 1) := by decide +kernel
theorem dX0_areAlike_7 : decode cX0_areAlike 7 = .ok (.getfield 9, 3) := by decide +kernel
theorem dX0_areAlike_10 : decode cX0_areAlike 10 = .ok (.iload_n 2, 1) := by decide +kernel
theorem dX0_areAlike_11 : decode cX0_areAlike 11 = .ok (.iaload, 1) := by decide +kernel
theorem dX0_areAlike_12 : decode cX0_areAlike 12 = .ok (.if_icmp .ne 30, 3) := by decide +kernel
theorem dX0_areAlike_15 : decode cX0_areAlike 15 = .ok (.aload_n 0, 1) := by decide +kernel
theorem dX0_areAlike_16 : decode cX0_areAlike 16 = .ok (.aload_n 0, 1) := by decide +kernel
theorem dX0_areAlike_17 : decode cX0_areAlike 17 = .ok (.getfield 15, 3) := by decide +kernel
theorem dX0_areAlike_20 : decode cX0_areAlike 20 = .ok (.iload_n 1, 1) := by decide +kernel
theorem dX0_areAlike_21 : decode cX0_areAlike 21 = .ok (.iaload, 1) := by decide +kernel
theorem dX0_areAlike_22 : decode cX0_areAlike 22 = .ok (.invokevirtual 61, 3) := by decide +kernel
theorem dX0_areAlike_25 : decode cX0_areAlike 25 = .ok (.aload_n 0, 1) := by decide +kernel
theorem dX0_areAlike_26 : decode cX0_areAlike 26 = .ok (.aload_n 0, 1) := by decide +kernel
theorem dX0_areAlike_27 : decode cX0_areAlike 27 = .ok (.getfield 15, 3) := by decide +kernel
theorem dX0_areAlike_30 : decode cX0_areAlike 30 = .ok (.iload_n 2, 1) := by decide +kernel
theorem dX0_areAlike_31 : decode cX0_areAlike 31 = .ok (.iaload, 1) := by decide +kernel
theorem dX0_areAlike_32 : decode cX0_areAlike 32 = .ok (.invokevirtual 61, 3) := by decide +kernel
theorem dX0_areAlike_35 : decode cX0_areAlike 35 = .ok (.if_icmp .ne 7, 3) := by decide +kernel
theorem dX0_areAlike_38 : decode cX0_areAlike 38 = .ok (.iconst 1, 1) := by decide +kernel
theorem dX0_areAlike_39 : decode cX0_areAlike 39 = .ok (.goto 4, 3) := by decide +kernel
theorem dX0_areAlike_42 : decode cX0_areAlike 42 = .ok (.iconst 0, 1) := by decide +kernel
theorem dX0_areAlike_43 : decode cX0_areAlike 43 = .ok (.ireturn, 1) := by decide +kernel
theorem dX0_pictureByte_0 : decode cX0_pictureByte 0 = .ok (.iload_n 1, 1) := by decide +kernel
theorem dX0_pictureByte_1 : decode cX0_pictureByte 1 = .ok (.aload_n 0, 1) := by decide +kernel
theorem dX0_pictureByte_2 : decode cX0_pictureByte 2 = .ok (.getfield 18, 3) := by decide +kernel
theorem dX0_pictureByte_5 : decode cX0_pictureByte 5 = .ok (.iconst 1, 1) := by decide +kernel
theorem dX0_pictureByte_6 : decode cX0_pictureByte 6 = .ok (.iadd, 1) := by decide +kernel
theorem dX0_pictureByte_7 : decode cX0_pictureByte 7 = .ok (.idiv, 1) := by decide +kernel
theorem dX0_pictureByte_8 : decode cX0_pictureByte 8 = .ok (.istore_n 2, 1) := by decide +kernel
theorem dX0_pictureByte_9 : decode cX0_pictureByte 9 = .ok (.iload_n 1, 1) := by decide +kernel
theorem dX0_pictureByte_10 : decode cX0_pictureByte 10 = .ok (.aload_n 0, 1) := by decide +kernel
theorem dX0_pictureByte_11 : decode cX0_pictureByte 11 = .ok (.getfield 18, 3) := by decide +kernel
theorem dX0_pictureByte_14 : decode cX0_pictureByte 14 = .ok (.iconst 1, 1) := by decide +kernel
theorem dX0_pictureByte_15 : decode cX0_pictureByte 15 = .ok (.iadd, 1) := by decide +kernel
theorem dX0_pictureByte_16 : decode cX0_pictureByte 16 = .ok (.irem, 1) := by decide +kernel
theorem dX0_pictureByte_17 : decode cX0_pictureByte 17 = .ok (.istore_n 3, 1) := by decide +kernel
theorem dX0_pictureByte_18 : decode cX0_pictureByte 18 = .ok (.iload_n 2, 1) := by decide +kernel
theorem dX0_pictureByte_19 : decode cX0_pictureByte 19 = .ok (.aload_n 0, 1) := by decide +kernel
theorem dX0_pictureByte_20 : decode cX0_pictureByte 20 = .ok (.getfield 22, 3) := by decide +kernel
theorem dX0_pictureByte_23 : decode cX0_pictureByte 23 = .ok (.if_icmp .lt 5, 3) := by decide +kernel
theorem dX0_pictureByte_26 : decode cX0_pictureByte 26 = .ok (.iconst (-1), 1) := by decide +kernel
theorem dX0_pictureByte_27 : decode cX0_pictureByte 27 = .ok (.ireturn, 1) := by decide +kernel
theorem dX0_pictureByte_28 : decode cX0_pictureByte 28 = .ok (.iload_n 3, 1) := by decide +kernel
theorem dX0_pictureByte_29 : decode cX0_pictureByte 29 = .ok (.aload_n 0, 1) := by decide +kernel
theorem dX0_pictureByte_30 : decode cX0_pictureByte 30 = .ok (.getfield 18, 3) := by decide +kernel
theorem dX0_pictureByte_33 : decode cX0_pictureByte 33 = .ok (.if_icmp .ne 8, 3) := by decide +kernel
theorem dX0_pictureByte_36 : decode cX0_pictureByte 36 = .ok (.bipush 10, 2) := by decide +kernel
theorem dX0_pictureByte_38 : decode cX0_pictureByte 38 = .ok (.goto 13, 3) := by decide +kernel
theorem dX0_pictureByte_41 : decode cX0_pictureByte 41 = .ok (.aload_n 0, 1) := by decide +kernel
theorem dX0_pictureByte_42 : decode cX0_pictureByte 42 = .ok (.aload_n 0, 1) := by decide +kernel
theorem dX0_pictureByte_43 : decode cX0_pictureByte 43 = .ok (.iload_n 3, 1) := by decide +kernel
theorem dX0_pictureByte_44 : decode cX0_pictureByte 44 = .ok (.iload_n 2, 1) := by decide +kernel
theorem dX0_pictureByte_45 : decode cX0_pictureByte 45 = .ok (.invokevirtual 64, 3) := by decide +kernel
theorem dX0_pictureByte_48 : decode cX0_pictureByte 48 = .ok (.invokevirtual 67, 3) := by decide +kernel
theorem dX0_pictureByte_51 : decode cX0_pictureByte 51 = .ok (.ireturn, 1) := by decide +kernel
theorem dX0_cellByte_0 : decode cX0_cellByte 0 = .ok (.aload_n 0, 1) := by decide +kernel
theorem dX0_cellByte_1 : decode cX0_cellByte 1 = .ok (.getfield 47, 3) := by decide +kernel
theorem dX0_cellByte_4 : decode cX0_cellByte 4 = .ok (.iload_n 1, 1) := by decide +kernel
theorem dX0_cellByte_5 : decode cX0_cellByte 5 = .ok (.iand, 1) := by decide +kernel
theorem dX0_cellByte_6 : decode cX0_cellByte 6 = .ok (.ifCond .eq 6, 3) := by decide +kernel
theorem dX0_cellByte_9 : decode cX0_cellByte 9 = .ok (.bipush 35, 2) := by decide +kernel
theorem dX0_cellByte_11 : decode cX0_cellByte 11 = .ok (.ireturn, 1) := by decide +kernel
theorem dX0_cellByte_12 : decode cX0_cellByte 12 = .ok (.iconst 0, 1) := by decide +kernel
theorem dX0_cellByte_13 : decode cX0_cellByte 13 = .ok (.istore_n 2, 1) := by decide +kernel
theorem dX0_cellByte_14 : decode cX0_cellByte 14 = .ok (.iload_n 2, 1) := by decide +kernel
theorem dX0_cellByte_15 : decode cX0_cellByte 15 = .ok (.aload_n 0, 1) := by decide +kernel
theorem dX0_cellByte_16 : decode cX0_cellByte 16 = .ok (.getfield 50, 3) := by decide +kernel
theorem dX0_cellByte_19 : decode cX0_cellByte 19 = .ok (.if_icmp .ge 30, 3) := by decide +kernel
theorem dX0_cellByte_22 : decode cX0_cellByte 22 = .ok (.aload_n 0, 1) := by decide +kernel
theorem dX0_cellByte_23 : decode cX0_cellByte 23 = .ok (.getfield 15, 3) := by decide +kernel
theorem dX0_cellByte_26 : decode cX0_cellByte 26 = .ok (.iload_n 2, 1) := by decide +kernel
theorem dX0_cellByte_27 : decode cX0_cellByte 27 = .ok (.iaload, 1) := by decide +kernel
theorem dX0_cellByte_28 : decode cX0_cellByte 28 = .ok (.iload_n 1, 1) := by decide +kernel
theorem dX0_cellByte_29 : decode cX0_cellByte 29 = .ok (.iand, 1) := by decide +kernel
theorem dX0_cellByte_30 : decode cX0_cellByte 30 = .ok (.ifCond .eq 13, 3) := by decide +kernel
theorem dX0_cellByte_33 : decode cX0_cellByte 33 = .ok (.bipush 97, 2) := by decide +kernel
theorem dX0_cellByte_35 : decode cX0_cellByte 35 = .ok (.aload_n 0, 1) := by decide +kernel
theorem dX0_cellByte_36 : decode cX0_cellByte 36 = .ok (.getfield 9, 3) := by decide +kernel
theorem dX0_cellByte_39 : decode cX0_cellByte 39 = .ok (.iload_n 2, 1) := by decide +kernel
theorem dX0_cellByte_40 : decode cX0_cellByte 40 = .ok (.iaload, 1) := by decide +kernel
theorem dX0_cellByte_41 : decode cX0_cellByte 41 = .ok (.iadd, 1) := by decide +kernel
theorem dX0_cellByte_42 : decode cX0_cellByte 42 = .ok (.ireturn, 1) := by decide +kernel
theorem dX0_cellByte_43 : decode cX0_cellByte 43 = .ok (.iinc 2 1, 3) := by decide +kernel
theorem dX0_cellByte_46 : decode cX0_cellByte 46 = .ok (.goto (-32), 3) := by decide +kernel
theorem dX0_cellByte_49 : decode cX0_cellByte 49 = .ok (.bipush 46, 2) := by decide +kernel
theorem dX0_cellByte_51 : decode cX0_cellByte 51 = .ok (.ireturn, 1) := by decide +kernel
theorem dX2_init_0 : decode cX2_init 0 = .ok (.aload_n 0, 1) := by decide +kernel
theorem dX2_init_1 : decode cX2_init 1 = .ok (.invokespecial 3, 3) := by decide +kernel
theorem dX2_init_4 : decode cX2_init 4 = .ok (.aload_n 0, 1) := by decide +kernel
theorem dX2_init_5 : decode cX2_init 5 = .ok (.bipush 6, 2) := by decide +kernel
theorem dX2_init_7 : decode cX2_init 7 = .ok (.newarray .boolean, 2) := by decide +kernel
theorem dX2_init_9 : decode cX2_init 9 = .ok (.putfield 9, 3) := by decide +kernel
theorem dX2_init_12 : decode cX2_init 12 = .ok (.aload_n 0, 1) := by decide +kernel
theorem dX2_init_13 : decode cX2_init 13 = .ok (.bipush 6, 2) := by decide +kernel
theorem dX2_init_15 : decode cX2_init 15 = .ok (.newarray .int, 2) := by decide +kernel
theorem dX2_init_17 : decode cX2_init 17 = .ok (.putfield 15, 3) := by decide +kernel
theorem dX2_init_20 : decode cX2_init 20 = .ok (.aload_n 0, 1) := by decide +kernel
theorem dX2_init_21 : decode cX2_init 21 = .ok (.bipush 6, 2) := by decide +kernel
theorem dX2_init_23 : decode cX2_init 23 = .ok (.newarray .int, 2) := by decide +kernel
theorem dX2_init_25 : decode cX2_init 25 = .ok (.putfield 19, 3) := by decide +kernel
theorem dX2_init_28 : decode cX2_init 28 = .ok (.return_, 1) := by decide +kernel
theorem dX2_add_0 : decode cX2_add 0 = .ok (.aload_n 0, 1) := by decide +kernel
theorem dX2_add_1 : decode cX2_add 1 = .ok (.getfield 22, 3) := by decide +kernel
theorem dX2_add_4 : decode cX2_add 4 = .ok (.bipush 6, 2) := by decide +kernel
theorem dX2_add_6 : decode cX2_add 6 = .ok (.if_icmp .lt 5, 3) := by decide +kernel
theorem dX2_add_9 : decode cX2_add 9 = .ok (.iconst (-1), 1) := by decide +kernel
theorem dX2_add_10 : decode cX2_add 10 = .ok (.ireturn, 1) := by decide +kernel
theorem dX2_add_11 : decode cX2_add 11 = .ok (.aload_n 0, 1) := by decide +kernel
theorem dX2_add_12 : decode cX2_add 12 = .ok (.getfield 9, 3) := by decide +kernel
theorem dX2_add_15 : decode cX2_add 15 = .ok (.aload_n 0, 1) := by decide +kernel
theorem dX2_add_16 : decode cX2_add 16 = .ok (.getfield 22, 3) := by decide +kernel
theorem dX2_add_19 : decode cX2_add 19 = .ok (.iload_n 1, 1) := by decide +kernel
theorem dX2_add_20 : decode cX2_add 20 = .ok (.bastore, 1) := by decide +kernel
theorem dX2_add_21 : decode cX2_add 21 = .ok (.aload_n 0, 1) := by decide +kernel
theorem dX2_add_22 : decode cX2_add 22 = .ok (.getfield 15, 3) := by decide +kernel
theorem dX2_add_25 : decode cX2_add 25 = .ok (.aload_n 0, 1) := by decide +kernel
theorem dX2_add_26 : decode cX2_add 26 = .ok (.getfield 22, 3) := by decide +kernel
theorem dX2_add_29 : decode cX2_add 29 = .ok (.iload_n 2, 1) := by decide +kernel
theorem dX2_add_30 : decode cX2_add 30 = .ok (.iastore, 1) := by decide +kernel
theorem dX2_add_31 : decode cX2_add 31 = .ok (.aload_n 0, 1) := by decide +kernel
theorem dX2_add_32 : decode cX2_add 32 = .ok (.getfield 19, 3) := by decide +kernel
theorem dX2_add_35 : decode cX2_add 35 = .ok (.aload_n 0, 1) := by decide +kernel
theorem dX2_add_36 : decode cX2_add 36 = .ok (.getfield 22, 3) := by decide +kernel
theorem dX2_add_39 : decode cX2_add 39 = .ok (.iload_n 3, 1) := by decide +kernel
theorem dX2_add_40 : decode cX2_add 40 = .ok (.iastore, 1) := by decide +kernel
theorem dX2_add_41 : decode cX2_add 41 = .ok (.aload_n 0, 1) := by decide +kernel
theorem dX2_add_42 : decode cX2_add 42 = .ok (.dup, 1) := by decide +kernel
theorem dX2_add_43 : decode cX2_add 43 = .ok (.getfield 22, 3) := by decide +kernel
theorem dX2_add_46 : decode cX2_add 46 = .ok (.iconst 1, 1) := by decide +kernel
theorem dX2_add_47 : decode cX2_add 47 = .ok (.iadd, 1) := by decide +kernel
theorem dX2_add_48 : decode cX2_add 48 = .ok (.putfield 22, 3) := by decide +kernel
theorem dX2_add_51 : decode cX2_add 51 = .ok (.aload_n 0, 1) := by decide +kernel
theorem dX2_add_52 : decode cX2_add 52 = .ok (.getfield 22, 3) := by decide +kernel
theorem dX2_add_55 : decode cX2_add 55 = .ok (.iconst 1, 1) := by decide +kernel
theorem dX2_add_56 : decode cX2_add 56 = .ok (.isub, 1) := by decide +kernel
theorem dX2_add_57 : decode cX2_add 57 = .ok (.ireturn, 1) := by decide +kernel
theorem dX2_removeAll_0 : decode cX2_removeAll 0 = .ok (.aload_n 0, 1) := by decide +kernel
theorem dX2_removeAll_1 : decode cX2_removeAll 1 = .ok (.getfield 22, 3) := by decide +kernel
theorem dX2_removeAll_4 : decode cX2_removeAll 4 = .ok (.istore_n 1, 1) := by decide +kernel
theorem dX2_removeAll_5 : decode cX2_removeAll 5 = .ok (.aload_n 0, 1) := by decide +kernel
theorem dX2_removeAll_6 : decode cX2_removeAll 6 = .ok (.iconst 0, 1) := by decide +kernel
theorem dX2_removeAll_7 : decode cX2_removeAll 7 = .ok (.putfield 22, 3) := by decide +kernel
theorem dX2_removeAll_10 : decode cX2_removeAll 10 = .ok (.iload_n 1, 1) := by decide +kernel
theorem dX2_removeAll_11 : decode cX2_removeAll 11 = .ok (.ireturn, 1) := by decide +kernel
theorem dX2_firstOpen_0 : decode cX2_firstOpen 0 = .ok (.iconst 0, 1) := by decide +kernel
theorem dX2_firstOpen_1 : decode cX2_firstOpen 1 = .ok (.istore_n 3, 1) := by decide +kernel
theorem dX2_firstOpen_2 : decode cX2_firstOpen 2 = .ok (.iload_n 3, 1) := by decide +kernel
theorem dX2_firstOpen_3 : decode cX2_firstOpen 3 = .ok (.aload_n 0, 1) := by decide +kernel
theorem dX2_firstOpen_4 : decode cX2_firstOpen 4 = .ok (.getfield 22, 3) := by decide +kernel
theorem dX2_firstOpen_7 : decode cX2_firstOpen 7 = .ok (.if_icmp .ge 69, 3) := by decide +kernel
theorem dX2_firstOpen_10 : decode cX2_firstOpen 10 = .ok (.aload_n 0, 1) := by decide +kernel
theorem dX2_firstOpen_11 : decode cX2_firstOpen 11 = .ok (.getfield 9, 3) := by decide +kernel
theorem dX2_firstOpen_14 : decode cX2_firstOpen 14 = .ok (.iload_n 3, 1) := by decide +kernel
theorem dX2_firstOpen_15 : decode cX2_firstOpen 15 = .ok (.baload, 1) := by decide +kernel
theorem dX2_firstOpen_16 : decode cX2_firstOpen 16 = .ok (.ifCond .eq 23, 3) := by decide +kernel
theorem dX2_firstOpen_19 : decode cX2_firstOpen 19 = .ok (.aload_n 1, 1) := by decide +kernel
theorem dX2_firstOpen_20 : decode cX2_firstOpen 20 = .ok (.aload_n 2, 1) := by decide +kernel
theorem dX2_firstOpen_21 : decode cX2_firstOpen 21 = .ok (.aload_n 0, 1) := by decide +kernel
theorem dX2_firstOpen_22 : decode cX2_firstOpen 22 = .ok (.getfield 15, 3) := by decide +kernel
theorem dX2_firstOpen_25 : decode cX2_firstOpen 25 = .ok (.iload_n 3, 1) := by decide +kernel
theorem dX2_firstOpen_26 : decode cX2_firstOpen 26 = .ok (.iaload, 1) := by decide +kernel
theorem dX2_firstOpen_27 : decode cX2_firstOpen 27 = .ok (.aload_n 0, 1) := by decide +kernel
theorem dX2_firstOpen_28 : decode cX2_firstOpen 28 = .ok (.getfield 19, 3) := by decide +kernel
theorem dX2_firstOpen_31 : decode cX2_firstOpen 31 = .ok (.iload_n 3, 1) := by decide +kernel
theorem dX2_firstOpen_32 : decode cX2_firstOpen 32 = .ok (.iaload, 1) := by decide +kernel
theorem dX2_firstOpen_33 : decode cX2_firstOpen 33 = .ok (.invokestatic 26, 3) := by decide +kernel
theorem dX2_firstOpen_36 : decode cX2_firstOpen 36 = .ok (.goto 25, 3) := by decide +kernel
theorem dX2_firstOpen_39 : decode cX2_firstOpen 39 = .ok (.aload_n 2, 1) := by decide +kernel
theorem dX2_firstOpen_40 : decode cX2_firstOpen 40 = .ok (.aload_n 0, 1) := by decide +kernel
theorem dX2_firstOpen_41 : decode cX2_firstOpen 41 = .ok (.getfield 15, 3) := by decide +kernel
theorem dX2_firstOpen_44 : decode cX2_firstOpen 44 = .ok (.iload_n 3, 1) := by decide +kernel
theorem dX2_firstOpen_45 : decode cX2_firstOpen 45 = .ok (.iaload, 1) := by decide +kernel
theorem dX2_firstOpen_46 : decode cX2_firstOpen 46 = .ok (.iaload, 1) := by decide +kernel
theorem dX2_firstOpen_47 : decode cX2_firstOpen 47 = .ok (.aload_n 0, 1) := by decide +kernel
theorem dX2_firstOpen_48 : decode cX2_firstOpen 48 = .ok (.getfield 19, 3) := by decide +kernel
theorem dX2_firstOpen_51 : decode cX2_firstOpen 51 = .ok (.iload_n 3, 1) := by decide +kernel
theorem dX2_firstOpen_52 : decode cX2_firstOpen 52 = .ok (.iaload, 1) := by decide +kernel
theorem dX2_firstOpen_53 : decode cX2_firstOpen 53 = .ok (.if_icmp .ne 7, 3) := by decide +kernel
theorem dX2_firstOpen_56 : decode cX2_firstOpen 56 = .ok (.iconst 1, 1) := by decide +kernel
theorem dX2_firstOpen_57 : decode cX2_firstOpen 57 = .ok (.goto 4, 3) := by decide +kernel
theorem dX2_firstOpen_60 : decode cX2_firstOpen 60 = .ok (.iconst 0, 1) := by decide +kernel
theorem dX2_firstOpen_61 : decode cX2_firstOpen 61 = .ok (.istore 4, 2) := by decide +kernel
theorem dX2_firstOpen_63 : decode cX2_firstOpen 63 = .ok (.iload 4, 2) := by decide +kernel
theorem dX2_firstOpen_65 : decode cX2_firstOpen 65 = .ok (.ifCond .ne 5, 3) := by decide +kernel
theorem dX2_firstOpen_68 : decode cX2_firstOpen 68 = .ok (.iload_n 3, 1) := by decide +kernel
theorem dX2_firstOpen_69 : decode cX2_firstOpen 69 = .ok (.ireturn, 1) := by decide +kernel
theorem dX2_firstOpen_70 : decode cX2_firstOpen 70 = .ok (.iinc 3 1, 3) := by decide +kernel
theorem dX2_firstOpen_73 : decode cX2_firstOpen 73 = .ok (.goto (-71), 3) := by decide +kernel
theorem dX2_firstOpen_76 : decode cX2_firstOpen 76 = .ok (.iconst (-1), 1) := by decide +kernel
theorem dX2_firstOpen_77 : decode cX2_firstOpen 77 = .ok (.ireturn, 1) := by decide +kernel
theorem dX2_kindIsAt_0 : decode cX2_kindIsAt 0 = .ok (.iconst 0, 1) := by decide +kernel
theorem dX2_kindIsAt_1 : decode cX2_kindIsAt 1 = .ok (.istore 4, 2) := by decide +kernel
theorem dX2_kindIsAt_3 : decode cX2_kindIsAt 3 = .ok (.iload 4, 2) := by decide +kernel
theorem dX2_kindIsAt_5 : decode cX2_kindIsAt 5 = .ok (.aload_n 0, 1) := by decide +kernel
theorem dX2_kindIsAt_6 : decode cX2_kindIsAt 6 = .ok (.getfield 30, 3) := by decide +kernel
theorem dX2_kindIsAt_9 : decode cX2_kindIsAt 9 = .ok (.if_icmp .ge 30, 3) := by decide +kernel
theorem dX2_kindIsAt_12 : decode cX2_kindIsAt 12 = .ok (.aload_n 0, 1) := by decide +kernel
theorem dX2_kindIsAt_13 : decode cX2_kindIsAt 13 = .ok (.getfield 35, 3) := by decide +kernel
theorem dX2_kindIsAt_16 : decode cX2_kindIsAt 16 = .ok (.iload 4, 2) := by decide +kernel
theorem dX2_kindIsAt_18 : decode cX2_kindIsAt 18 = .ok (.iaload, 1) := by decide +kernel
theorem dX2_kindIsAt_19 : decode cX2_kindIsAt 19 = .ok (.iload_n 2, 1) := by decide +kernel
theorem dX2_kindIsAt_20 : decode cX2_kindIsAt 20 = .ok (.if_icmp .ne 13, 3) := by decide +kernel
theorem dX2_kindIsAt_23 : decode cX2_kindIsAt 23 = .ok (.aload_n 1, 1) := by decide +kernel
theorem dX2_kindIsAt_24 : decode cX2_kindIsAt 24 = .ok (.iload 4, 2) := by decide +kernel
theorem dX2_kindIsAt_26 : decode cX2_kindIsAt 26 = .ok (.iaload, 1) := by decide +kernel
theorem dX2_kindIsAt_27 : decode cX2_kindIsAt 27 = .ok (.iload_n 3, 1) := by decide +kernel
theorem dX2_kindIsAt_28 : decode cX2_kindIsAt 28 = .ok (.if_icmp .ne 5, 3) := by decide +kernel
theorem dX2_kindIsAt_31 : decode cX2_kindIsAt 31 = .ok (.iconst 1, 1) := by decide +kernel
theorem dX2_kindIsAt_32 : decode cX2_kindIsAt 32 = .ok (.ireturn, 1) := by decide +kernel
theorem dX2_kindIsAt_33 : decode cX2_kindIsAt 33 = .ok (.iinc 4 1, 3) := by decide +kernel
theorem dX2_kindIsAt_36 : decode cX2_kindIsAt 36 = .ok (.goto (-33), 3) := by decide +kernel
theorem dX2_kindIsAt_39 : decode cX2_kindIsAt 39 = .ok (.iconst 0, 1) := by decide +kernel
theorem dX2_kindIsAt_40 : decode cX2_kindIsAt 40 = .ok (.ireturn, 1) := by decide +kernel
theorem dX3_init_0 : decode cX3_init 0 = .ok (.aload_n 0, 1) := by decide +kernel
theorem dX3_init_1 : decode cX3_init 1 = .ok (.invokespecial 3, 3) := by decide +kernel
theorem dX3_init_4 : decode cX3_init 4 = .ok (.aload_n 0, 1) := by decide +kernel
theorem dX3_init_5 : decode cX3_init 5 = .ok (.sipush 10000, 3) := by decide +kernel
theorem dX3_init_8 : decode cX3_init 8 = .ok (.newarray .int, 2) := by decide +kernel
theorem dX3_init_10 : decode cX3_init 10 = .ok (.putfield 9, 3) := by decide +kernel
theorem dX3_init_13 : decode cX3_init 13 = .ok (.return_, 1) := by decide +kernel
theorem dX3_keep_0 : decode cX3_keep 0 = .ok (.aload_n 0, 1) := by decide +kernel
theorem dX3_keep_1 : decode cX3_keep 1 = .ok (.aload_n 1, 1) := by decide +kernel
theorem dX3_keep_2 : decode cX3_keep 2 = .ok (.getfield 15, 3) := by decide +kernel
theorem dX3_keep_5 : decode cX3_keep 5 = .ok (.putfield 21, 3) := by decide +kernel
theorem dX3_keep_8 : decode cX3_keep 8 = .ok (.aload_n 0, 1) := by decide +kernel
theorem dX3_keep_9 : decode cX3_keep 9 = .ok (.iload_n 2, 1) := by decide +kernel
theorem dX3_keep_10 : decode cX3_keep 10 = .ok (.ifCond .eq 16, 3) := by decide +kernel
theorem dX3_keep_13 : decode cX3_keep 13 = .ok (.aload_n 1, 1) := by decide +kernel
theorem dX3_keep_14 : decode cX3_keep 14 = .ok (.aload_n 1, 1) := by decide +kernel
theorem dX3_keep_15 : decode cX3_keep 15 = .ok (.getfield 15, 3) := by decide +kernel
theorem dX3_keep_18 : decode cX3_keep 18 = .ok (.iconst 1, 1) := by decide +kernel
theorem dX3_keep_19 : decode cX3_keep 19 = .ok (.isub, 1) := by decide +kernel
theorem dX3_keep_20 : decode cX3_keep 20 = .ok (.invokestatic 24, 3) := by decide +kernel
theorem dX3_keep_23 : decode cX3_keep 23 = .ok (.goto 4, 3) := by decide +kernel
theorem dX3_keep_26 : decode cX3_keep 26 = .ok (.iconst 0, 1) := by decide +kernel
theorem dX3_keep_27 : decode cX3_keep 27 = .ok (.putfield 28, 3) := by decide +kernel
theorem dX3_keep_30 : decode cX3_keep 30 = .ok (.aload_n 1, 1) := by decide +kernel
theorem dX3_keep_31 : decode cX3_keep 31 = .ok (.getfield 15, 3) := by decide +kernel
theorem dX3_keep_34 : decode cX3_keep 34 = .ok (.iconst 1, 1) := by decide +kernel
theorem dX3_keep_35 : decode cX3_keep 35 = .ok (.isub, 1) := by decide +kernel
theorem dX3_keep_36 : decode cX3_keep 36 = .ok (.istore_n 3, 1) := by decide +kernel
theorem dX3_keep_37 : decode cX3_keep 37 = .ok (.aload_n 0, 1) := by decide +kernel
theorem dX3_keep_38 : decode cX3_keep 38 = .ok (.getfield 28, 3) := by decide +kernel
theorem dX3_keep_41 : decode cX3_keep 41 = .ok (.iconst 1, 1) := by decide +kernel
theorem dX3_keep_42 : decode cX3_keep 42 = .ok (.isub, 1) := by decide +kernel
theorem dX3_keep_43 : decode cX3_keep 43 = .ok (.istore 4, 2) := by decide +kernel
theorem dX3_keep_45 : decode cX3_keep 45 = .ok (.iload 4, 2) := by decide +kernel
theorem dX3_keep_47 : decode cX3_keep 47 = .ok (.ifCond .lt 29, 3) := by decide +kernel
theorem dX3_keep_50 : decode cX3_keep 50 = .ok (.aload_n 0, 1) := by decide +kernel
theorem dX3_keep_51 : decode cX3_keep 51 = .ok (.getfield 9, 3) := by decide +kernel
theorem dX3_keep_54 : decode cX3_keep 54 = .ok (.iload 4, 2) := by decide +kernel
theorem dX3_keep_56 : decode cX3_keep 56 = .ok (.aload_n 1, 1) := by decide +kernel
theorem dX3_keep_57 : decode cX3_keep 57 = .ok (.getfield 31, 3) := by decide +kernel
theorem dX3_keep_60 : decode cX3_keep 60 = .ok (.iload_n 3, 1) := by decide +kernel
theorem dX3_keep_61 : decode cX3_keep 61 = .ok (.iaload, 1) := by decide +kernel
theorem dX3_keep_62 : decode cX3_keep 62 = .ok (.iastore, 1) := by decide +kernel
theorem dX3_keep_63 : decode cX3_keep 63 = .ok (.aload_n 1, 1) := by decide +kernel
theorem dX3_keep_64 : decode cX3_keep 64 = .ok (.getfield 32, 3) := by decide +kernel
theorem dX3_keep_67 : decode cX3_keep 67 = .ok (.iload_n 3, 1) := by decide +kernel
theorem dX3_keep_68 : decode cX3_keep 68 = .ok (.iaload, 1) := by decide +kernel
theorem dX3_keep_69 : decode cX3_keep 69 = .ok (.istore_n 3, 1) := by decide +kernel
theorem dX3_keep_70 : decode cX3_keep 70 = .ok (.iinc 4 (-1), 3) := by decide +kernel
theorem dX3_keep_73 : decode cX3_keep 73 = .ok (.goto (-28), 3) := by decide +kernel
theorem dX3_keep_76 : decode cX3_keep 76 = .ok (.return_, 1) := by decide +kernel
theorem dX3_depthOf_0 : decode cX3_depthOf 0 = .ok (.iconst 0, 1) := by decide +kernel
theorem dX3_depthOf_1 : decode cX3_depthOf 1 = .ok (.istore_n 2, 1) := by decide +kernel
theorem dX3_depthOf_2 : decode cX3_depthOf 2 = .ok (.iload_n 1, 1) := by decide +kernel
theorem dX3_depthOf_3 : decode cX3_depthOf 3 = .ok (.istore_n 3, 1) := by decide +kernel
theorem dX3_depthOf_4 : decode cX3_depthOf 4 = .ok (.iload_n 3, 1) := by decide +kernel
theorem dX3_depthOf_5 : decode cX3_depthOf 5 = .ok (.ifCond .le 23, 3) := by decide +kernel
theorem dX3_depthOf_8 : decode cX3_depthOf 8 = .ok (.iload_n 2, 1) := by decide +kernel
theorem dX3_depthOf_9 : decode cX3_depthOf 9 = .ok (.sipush 10000, 3) := by decide +kernel
theorem dX3_depthOf_12 : decode cX3_depthOf 12 = .ok (.if_icmp .ge 16, 3) := by decide +kernel
theorem dX3_depthOf_15 : decode cX3_depthOf 15 = .ok (.iinc 2 1, 3) := by decide +kernel
theorem dX3_depthOf_18 : decode cX3_depthOf 18 = .ok (.aload_n 0, 1) := by decide +kernel
theorem dX3_depthOf_19 : decode cX3_depthOf 19 = .ok (.getfield 32, 3) := by decide +kernel
theorem dX3_depthOf_22 : decode cX3_depthOf 22 = .ok (.iload_n 3, 1) := by decide +kernel
theorem dX3_depthOf_23 : decode cX3_depthOf 23 = .ok (.iaload, 1) := by decide +kernel
theorem dX3_depthOf_24 : decode cX3_depthOf 24 = .ok (.istore_n 3, 1) := by decide +kernel
theorem dX3_depthOf_25 : decode cX3_depthOf 25 = .ok (.goto (-21), 3) := by decide +kernel
theorem dX3_depthOf_28 : decode cX3_depthOf 28 = .ok (.iload_n 2, 1) := by decide +kernel
theorem dX3_depthOf_29 : decode cX3_depthOf 29 = .ok (.ireturn, 1) := by decide +kernel
theorem dX4_init_0 : decode cX4_init 0 = .ok (.aload_n 0, 1) := by decide +kernel
theorem dX4_init_1 : decode cX4_init 1 = .ok (.invokespecial 3, 3) := by decide +kernel
theorem dX4_init_4 : decode cX4_init 4 = .ok (.aload_n 0, 1) := by decide +kernel
theorem dX4_init_5 : decode cX4_init 5 = .ok (.sipush 10000, 3) := by decide +kernel
theorem dX4_init_8 : decode cX4_init 8 = .ok (.newarray .long, 2) := by decide +kernel
theorem dX4_init_10 : decode cX4_init 10 = .ok (.putfield 9, 3) := by decide +kernel
theorem dX4_init_13 : decode cX4_init 13 = .ok (.aload_n 0, 1) := by decide +kernel
theorem dX4_init_14 : decode cX4_init 14 = .ok (.sipush 10000, 3) := by decide +kernel
theorem dX4_init_17 : decode cX4_init 17 = .ok (.newarray .long, 2) := by decide +kernel
theorem dX4_init_19 : decode cX4_init 19 = .ok (.putfield 15, 3) := by decide +kernel
theorem dX4_init_22 : decode cX4_init 22 = .ok (.aload_n 0, 1) := by decide +kernel
theorem dX4_init_23 : decode cX4_init 23 = .ok (.sipush 10000, 3) := by decide +kernel
theorem dX4_init_26 : decode cX4_init 26 = .ok (.newarray .int, 2) := by decide +kernel
theorem dX4_init_28 : decode cX4_init 28 = .ok (.putfield 18, 3) := by decide +kernel
theorem dX4_init_31 : decode cX4_init 31 = .ok (.aload_n 0, 1) := by decide +kernel
theorem dX4_init_32 : decode cX4_init 32 = .ok (.sipush 10000, 3) := by decide +kernel
theorem dX4_init_35 : decode cX4_init 35 = .ok (.newarray .int, 2) := by decide +kernel
theorem dX4_init_37 : decode cX4_init 37 = .ok (.putfield 22, 3) := by decide +kernel
theorem dX4_init_40 : decode cX4_init 40 = .ok (.aload_n 0, 1) := by decide +kernel
theorem dX4_init_41 : decode cX4_init 41 = .ok (.sipush 16384, 3) := by decide +kernel
theorem dX4_init_44 : decode cX4_init 44 = .ok (.newarray .int, 2) := by decide +kernel
theorem dX4_init_46 : decode cX4_init 46 = .ok (.putfield 25, 3) := by decide +kernel
theorem dX4_init_49 : decode cX4_init 49 = .ok (.aload_n 0, 1) := by decide +kernel
theorem dX4_init_50 : decode cX4_init 50 = .ok (.sipush 10000, 3) := by decide +kernel
theorem dX4_init_53 : decode cX4_init 53 = .ok (.newarray .int, 2) := by decide +kernel
theorem dX4_init_55 : decode cX4_init 55 = .ok (.putfield 28, 3) := by decide +kernel
theorem dX4_init_58 : decode cX4_init 58 = .ok (.return_, 1) := by decide +kernel
theorem dX4_bucketOf_0 : decode cX4_bucketOf 0 = .ok (.lload_n 0, 1) := by decide +kernel
theorem dX4_bucketOf_1 : decode cX4_bucketOf 1 = .ok (.ldc2_w 31, 3) := by decide +kernel
theorem dX4_bucketOf_4 : decode cX4_bucketOf 4 = .ok (.lmul, 1) := by decide +kernel
theorem dX4_bucketOf_5 : decode cX4_bucketOf 5 = .ok (.bipush 50, 2) := by decide +kernel
theorem dX4_bucketOf_7 : decode cX4_bucketOf 7 = .ok (.lushr, 1) := by decide +kernel
theorem dX4_bucketOf_8 : decode cX4_bucketOf 8 = .ok (.l2i, 1) := by decide +kernel
theorem dX4_bucketOf_9 : decode cX4_bucketOf 9 = .ok (.ireturn, 1) := by decide +kernel
theorem dX4_clear_0 : decode cX4_clear 0 = .ok (.iconst 0, 1) := by decide +kernel
theorem dX4_clear_1 : decode cX4_clear 1 = .ok (.istore_n 1, 1) := by decide +kernel
theorem dX4_clear_2 : decode cX4_clear 2 = .ok (.iload_n 1, 1) := by decide +kernel
theorem dX4_clear_3 : decode cX4_clear 3 = .ok (.aload_n 0, 1) := by decide +kernel
theorem dX4_clear_4 : decode cX4_clear 4 = .ok (.getfield 33, 3) := by decide +kernel
theorem dX4_clear_7 : decode cX4_clear 7 = .ok (.if_icmp .ge 24, 3) := by decide +kernel
theorem dX4_clear_10 : decode cX4_clear 10 = .ok (.aload_n 0, 1) := by decide +kernel
theorem dX4_clear_11 : decode cX4_clear 11 = .ok (.getfield 25, 3) := by decide +kernel
theorem dX4_clear_14 : decode cX4_clear 14 = .ok (.aload_n 0, 1) := by decide +kernel
theorem dX4_clear_15 : decode cX4_clear 15 = .ok (.getfield 9, 3) := by decide +kernel
theorem dX4_clear_18 : decode cX4_clear 18 = .ok (.iload_n 1, 1) := by decide +kernel
theorem dX4_clear_19 : decode cX4_clear 19 = .ok (.laload, 1) := by decide +kernel
theorem dX4_clear_20 : decode cX4_clear 20 = .ok (.invokestatic 37, 3) := by decide +kernel
theorem dX4_clear_23 : decode cX4_clear 23 = .ok (.iconst 0, 1) := by decide +kernel
theorem dX4_clear_24 : decode cX4_clear 24 = .ok (.iastore, 1) := by decide +kernel
theorem dX4_clear_25 : decode cX4_clear 25 = .ok (.iinc 1 1, 3) := by decide +kernel
theorem dX4_clear_28 : decode cX4_clear 28 = .ok (.goto (-26), 3) := by decide +kernel
theorem dX4_clear_31 : decode cX4_clear 31 = .ok (.aload_n 0, 1) := by decide +kernel
theorem dX4_clear_32 : decode cX4_clear 32 = .ok (.iconst 0, 1) := by decide +kernel
theorem dX4_clear_33 : decode cX4_clear 33 = .ok (.putfield 33, 3) := by decide +kernel
theorem dX4_clear_36 : decode cX4_clear 36 = .ok (.return_, 1) := by decide +kernel
theorem dX4_holds_0 : decode cX4_holds 0 = .ok (.aload_n 0, 1) := by decide +kernel
theorem dX4_holds_1 : decode cX4_holds 1 = .ok (.getfield 25, 3) := by decide +kernel
theorem dX4_holds_4 : decode cX4_holds 4 = .ok (.lload_n 1, 1) := by decide +kernel
theorem dX4_holds_5 : decode cX4_holds 5 = .ok (.invokestatic 37, 3) := by decide +kernel
theorem dX4_holds_8 : decode cX4_holds 8 = .ok (.iaload, 1) := by decide +kernel
theorem dX4_holds_9 : decode cX4_holds 9 = .ok (.istore_n 3, 1) := by decide +kernel
theorem dX4_holds_10 : decode cX4_holds 10 = .ok (.iconst 0, 1) := by decide +kernel
theorem dX4_holds_11 : decode cX4_holds 11 = .ok (.istore 4, 2) := by decide +kernel
theorem dX4_holds_13 : decode cX4_holds 13 = .ok (.iload 4, 2) := by decide +kernel
theorem dX4_holds_15 : decode cX4_holds 15 = .ok (.aload_n 0, 1) := by decide +kernel
theorem dX4_holds_16 : decode cX4_holds 16 = .ok (.getfield 33, 3) := by decide +kernel
theorem dX4_holds_19 : decode cX4_holds 19 = .ok (.if_icmp .ge 37, 3) := by decide +kernel
theorem dX4_holds_22 : decode cX4_holds 22 = .ok (.iload_n 3, 1) := by decide +kernel
theorem dX4_holds_23 : decode cX4_holds 23 = .ok (.ifCond .eq 33, 3) := by decide +kernel
theorem dX4_holds_26 : decode cX4_holds 26 = .ok (.aload_n 0, 1) := by decide +kernel
theorem dX4_holds_27 : decode cX4_holds 27 = .ok (.getfield 9, 3) := by decide +kernel
theorem dX4_holds_30 : decode cX4_holds 30 = .ok (.iload_n 3, 1) := by decide +kernel
theorem dX4_holds_31 : decode cX4_holds 31 = .ok (.iconst 1, 1) := by decide +kernel
theorem dX4_holds_32 : decode cX4_holds 32 = .ok (.isub, 1) := by decide +kernel
theorem dX4_holds_33 : decode cX4_holds 33 = .ok (.laload, 1) := by decide +kernel
theorem dX4_holds_34 : decode cX4_holds 34 = .ok (.lload_n 1, 1) := by decide +kernel
theorem dX4_holds_35 : decode cX4_holds 35 = .ok (.lcmp, 1) := by decide +kernel
theorem dX4_holds_36 : decode cX4_holds 36 = .ok (.ifCond .ne 5, 3) := by decide +kernel
theorem dX4_holds_39 : decode cX4_holds 39 = .ok (.iconst 1, 1) := by decide +kernel
theorem dX4_holds_40 : decode cX4_holds 40 = .ok (.ireturn, 1) := by decide +kernel
theorem dX4_holds_41 : decode cX4_holds 41 = .ok (.aload_n 0, 1) := by decide +kernel
theorem dX4_holds_42 : decode cX4_holds 42 = .ok (.getfield 28, 3) := by decide +kernel
theorem dX4_holds_45 : decode cX4_holds 45 = .ok (.iload_n 3, 1) := by decide +kernel
theorem dX4_holds_46 : decode cX4_holds 46 = .ok (.iconst 1, 1) := by decide +kernel
theorem dX4_holds_47 : decode cX4_holds 47 = .ok (.isub, 1) := by decide +kernel
theorem dX4_holds_48 : decode cX4_holds 48 = .ok (.iaload, 1) := by decide +kernel
theorem dX4_holds_49 : decode cX4_holds 49 = .ok (.istore_n 3, 1) := by decide +kernel
theorem dX4_holds_50 : decode cX4_holds 50 = .ok (.iinc 4 1, 3) := by decide +kernel
theorem dX4_holds_53 : decode cX4_holds 53 = .ok (.goto (-40), 3) := by decide +kernel
theorem dX4_holds_56 : decode cX4_holds 56 = .ok (.iconst 0, 1) := by decide +kernel
theorem dX4_holds_57 : decode cX4_holds 57 = .ok (.ireturn, 1) := by decide +kernel
theorem dX4_take_0 : decode cX4_take 0 = .ok (.aload_n 0, 1) := by decide +kernel
theorem dX4_take_1 : decode cX4_take 1 = .ok (.getfield 33, 3) := by decide +kernel
theorem dX4_take_4 : decode cX4_take 4 = .ok (.sipush 10000, 3) := by decide +kernel
theorem dX4_take_7 : decode cX4_take 7 = .ok (.if_icmp .lt 4, 3) := by decide +kernel
theorem dX4_take_10 : decode cX4_take 10 = .ok (.return_, 1) := by decide +kernel
theorem dX4_take_11 : decode cX4_take 11 = .ok (.lload_n 1, 1) := by decide +kernel
theorem dX4_take_12 : decode cX4_take 12 = .ok (.invokestatic 37, 3) := by decide +kernel
theorem dX4_take_15 : decode cX4_take 15 = .ok (.istore 7, 2) := by decide +kernel
theorem dX4_take_17 : decode cX4_take 17 = .ok (.aload_n 0, 1) := by decide +kernel
theorem dX4_take_18 : decode cX4_take 18 = .ok (.getfield 9, 3) := by decide +kernel
theorem dX4_take_21 : decode cX4_take 21 = .ok (.aload_n 0, 1) := by decide +kernel
theorem dX4_take_22 : decode cX4_take 22 = .ok (.getfield 33, 3) := by decide +kernel
theorem dX4_take_25 : decode cX4_take 25 = .ok (.lload_n 1, 1) := by decide +kernel
theorem dX4_take_26 : decode cX4_take 26 = .ok (.lastore, 1) := by decide +kernel
theorem dX4_take_27 : decode cX4_take 27 = .ok (.aload_n 0, 1) := by decide +kernel
theorem dX4_take_28 : decode cX4_take 28 = .ok (.getfield 15, 3) := by decide +kernel
theorem dX4_take_31 : decode cX4_take 31 = .ok (.aload_n 0, 1) := by decide +kernel
theorem dX4_take_32 : decode cX4_take 32 = .ok (.getfield 33, 3) := by decide +kernel
theorem dX4_take_35 : decode cX4_take 35 = .ok (.lload_n 3, 1) := by decide +kernel
theorem dX4_take_36 : decode cX4_take 36 = .ok (.lastore, 1) := by decide +kernel
theorem dX4_take_37 : decode cX4_take 37 = .ok (.aload_n 0, 1) := by decide +kernel
theorem dX4_take_38 : decode cX4_take 38 = .ok (.getfield 18, 3) := by decide +kernel
theorem dX4_take_41 : decode cX4_take 41 = .ok (.aload_n 0, 1) := by decide +kernel
theorem dX4_take_42 : decode cX4_take 42 = .ok (.getfield 33, 3) := by decide +kernel
theorem dX4_take_45 : decode cX4_take 45 = .ok (.iload 5, 2) := by decide +kernel
theorem dX4_take_47 : decode cX4_take 47 = .ok (.iastore, 1) := by decide +kernel
theorem dX4_take_48 : decode cX4_take 48 = .ok (.aload_n 0, 1) := by decide +kernel
theorem dX4_take_49 : decode cX4_take 49 = .ok (.getfield 22, 3) := by decide +kernel
theorem dX4_take_52 : decode cX4_take 52 = .ok (.aload_n 0, 1) := by decide +kernel
theorem dX4_take_53 : decode cX4_take 53 = .ok (.getfield 33, 3) := by decide +kernel
theorem dX4_take_56 : decode cX4_take 56 = .ok (.iload 6, 2) := by decide +kernel
theorem dX4_take_58 : decode cX4_take 58 = .ok (.iastore, 1) := by decide +kernel
theorem dX4_take_59 : decode cX4_take 59 = .ok (.aload_n 0, 1) := by decide +kernel
theorem dX4_take_60 : decode cX4_take 60 = .ok (.getfield 28, 3) := by decide +kernel
theorem dX4_take_63 : decode cX4_take 63 = .ok (.aload_n 0, 1) := by decide +kernel
theorem dX4_take_64 : decode cX4_take 64 = .ok (.getfield 33, 3) := by decide +kernel
theorem dX4_take_67 : decode cX4_take 67 = .ok (.aload_n 0, 1) := by decide +kernel
theorem dX4_take_68 : decode cX4_take 68 = .ok (.getfield 25, 3) := by decide +kernel
theorem dX4_take_71 : decode cX4_take 71 = .ok (.iload 7, 2) := by decide +kernel
theorem dX4_take_73 : decode cX4_take 73 = .ok (.iaload, 1) := by decide +kernel
theorem dX4_take_74 : decode cX4_take 74 = .ok (.iastore, 1) := by decide +kernel
theorem dX4_take_75 : decode cX4_take 75 = .ok (.aload_n 0, 1) := by decide +kernel
theorem dX4_take_76 : decode cX4_take 76 = .ok (.dup, 1) := by decide +kernel
theorem dX4_take_77 : decode cX4_take 77 = .ok (.getfield 33, 3) := by decide +kernel
theorem dX4_take_80 : decode cX4_take 80 = .ok (.iconst 1, 1) := by decide +kernel
theorem dX4_take_81 : decode cX4_take 81 = .ok (.iadd, 1) := by decide +kernel
theorem dX4_take_82 : decode cX4_take 82 = .ok (.putfield 33, 3) := by decide +kernel
theorem dX4_take_85 : decode cX4_take 85 = .ok (.aload_n 0, 1) := by decide +kernel
theorem dX4_take_86 : decode cX4_take 86 = .ok (.getfield 25, 3) := by decide +kernel
theorem dX4_take_89 : decode cX4_take 89 = .ok (.iload 7, 2) := by decide +kernel
theorem dX4_take_91 : decode cX4_take 91 = .ok (.aload_n 0, 1) := by decide +kernel
theorem dX4_take_92 : decode cX4_take 92 = .ok (.getfield 33, 3) := by decide +kernel
theorem dX4_take_95 : decode cX4_take 95 = .ok (.iastore, 1) := by decide +kernel
theorem dX4_take_96 : decode cX4_take 96 = .ok (.return_, 1) := by decide +kernel

theorem dX7_init_0 : decode cX7_init 0 = .ok (.aload_n 0, 1) := by decide +kernel
theorem dX7_init_1 : decode cX7_init 1 = .ok (.invokespecial 1, 3) := by decide +kernel
theorem dX7_init_4 : decode cX7_init 4 = .ok (.aload_n 0, 1) := by decide +kernel
theorem dX7_init_5 : decode cX7_init 5 = .ok (.bipush 8, 2) := by decide +kernel
theorem dX7_init_7 : decode cX7_init 7 = .ok (.newarray .int, 2) := by decide +kernel
theorem dX7_init_9 : decode cX7_init 9 = .ok (.putfield 7, 3) := by decide +kernel
theorem dX7_init_12 : decode cX7_init 12 = .ok (.aload_n 0, 1) := by decide +kernel
theorem dX7_init_13 : decode cX7_init 13 = .ok (.bipush 8, 2) := by decide +kernel
theorem dX7_init_15 : decode cX7_init 15 = .ok (.newarray .int, 2) := by decide +kernel
theorem dX7_init_17 : decode cX7_init 17 = .ok (.putfield 13, 3) := by decide +kernel
theorem dX7_init_20 : decode cX7_init 20 = .ok (.aload_n 0, 1) := by decide +kernel
theorem dX7_init_21 : decode cX7_init 21 = .ok (.bipush 6, 2) := by decide +kernel
theorem dX7_init_23 : decode cX7_init 23 = .ok (.newarray .int, 2) := by decide +kernel
theorem dX7_init_25 : decode cX7_init 25 = .ok (.putfield 16, 3) := by decide +kernel
theorem dX7_init_28 : decode cX7_init 28 = .ok (.aload_n 0, 1) := by decide +kernel
theorem dX7_init_29 : decode cX7_init 29 = .ok (.bipush 6, 2) := by decide +kernel
theorem dX7_init_31 : decode cX7_init 31 = .ok (.newarray .int, 2) := by decide +kernel
theorem dX7_init_33 : decode cX7_init 33 = .ok (.putfield 19, 3) := by decide +kernel
theorem dX7_init_36 : decode cX7_init 36 = .ok (.aload_n 0, 1) := by decide +kernel
theorem dX7_init_37 : decode cX7_init 37 = .ok (.ldc 22, 2) := by decide +kernel
theorem dX7_init_39 : decode cX7_init 39 = .ok (.newarray .int, 2) := by decide +kernel
theorem dX7_init_41 : decode cX7_init 41 = .ok (.putfield 23, 3) := by decide +kernel
theorem dX7_init_44 : decode cX7_init 44 = .ok (.aload_n 0, 1) := by decide +kernel
theorem dX7_init_45 : decode cX7_init 45 = .ok (.ldc 22, 2) := by decide +kernel
theorem dX7_init_47 : decode cX7_init 47 = .ok (.newarray .int, 2) := by decide +kernel
theorem dX7_init_49 : decode cX7_init 49 = .ok (.putfield 26, 3) := by decide +kernel
theorem dX7_init_52 : decode cX7_init 52 = .ok (.aload_n 0, 1) := by decide +kernel
theorem dX7_init_53 : decode cX7_init 53 = .ok (.sipush 10001, 3) := by decide +kernel
theorem dX7_init_56 : decode cX7_init 56 = .ok (.newarray .int, 2) := by decide +kernel
theorem dX7_init_58 : decode cX7_init 58 = .ok (.putfield 29, 3) := by decide +kernel
theorem dX7_init_61 : decode cX7_init 61 = .ok (.aload_n 0, 1) := by decide +kernel
theorem dX7_init_62 : decode cX7_init 62 = .ok (.sipush 10001, 3) := by decide +kernel
theorem dX7_init_65 : decode cX7_init 65 = .ok (.newarray .int, 2) := by decide +kernel
theorem dX7_init_67 : decode cX7_init 67 = .ok (.putfield 32, 3) := by decide +kernel
theorem dX7_init_70 : decode cX7_init 70 = .ok (.aload_n 0, 1) := by decide +kernel
theorem dX7_init_71 : decode cX7_init 71 = .ok (.ldc 35, 2) := by decide +kernel
theorem dX7_init_73 : decode cX7_init 73 = .ok (.newarray .int, 2) := by decide +kernel
theorem dX7_init_75 : decode cX7_init 75 = .ok (.putfield 36, 3) := by decide +kernel
theorem dX7_init_78 : decode cX7_init 78 = .ok (.aload_n 0, 1) := by decide +kernel
theorem dX7_init_79 : decode cX7_init 79 = .ok (.bipush 8, 2) := by decide +kernel
theorem dX7_init_81 : decode cX7_init 81 = .ok (.newarray .int, 2) := by decide +kernel
theorem dX7_init_83 : decode cX7_init 83 = .ok (.putfield 39, 3) := by decide +kernel
theorem dX7_init_86 : decode cX7_init 86 = .ok (.aload_n 0, 1) := by decide +kernel
theorem dX7_init_87 : decode cX7_init 87 = .ok (.bipush 8, 2) := by decide +kernel
theorem dX7_init_89 : decode cX7_init 89 = .ok (.newarray .int, 2) := by decide +kernel
theorem dX7_init_91 : decode cX7_init 91 = .ok (.putfield 42, 3) := by decide +kernel
theorem dX7_init_94 : decode cX7_init 94 = .ok (.aload_n 0, 1) := by decide +kernel
theorem dX7_init_95 : decode cX7_init 95 = .ok (.bipush 8, 2) := by decide +kernel
theorem dX7_init_97 : decode cX7_init 97 = .ok (.newarray .int, 2) := by decide +kernel
theorem dX7_init_99 : decode cX7_init 99 = .ok (.putfield 45, 3) := by decide +kernel
theorem dX7_init_102 : decode cX7_init 102 = .ok (.aload_n 0, 1) := by decide +kernel
theorem dX7_init_103 : decode cX7_init 103 = .ok (.sipush 10001, 3) := by decide +kernel
theorem dX7_init_106 : decode cX7_init 106 = .ok (.newarray .int, 2) := by decide +kernel
theorem dX7_init_108 : decode cX7_init 108 = .ok (.putfield 48, 3) := by decide +kernel
theorem dX7_init_111 : decode cX7_init 111 = .ok (.aload_n 0, 1) := by decide +kernel
theorem dX7_init_112 : decode cX7_init 112 = .ok (.bipush 64, 2) := by decide +kernel
theorem dX7_init_114 : decode cX7_init 114 = .ok (.newarray .boolean, 2) := by decide +kernel
theorem dX7_init_116 : decode cX7_init 116 = .ok (.putfield 51, 3) := by decide +kernel
theorem dX7_init_119 : decode cX7_init 119 = .ok (.aload_n 0, 1) := by decide +kernel
theorem dX7_init_120 : decode cX7_init 120 = .ok (.bipush 8, 2) := by decide +kernel
theorem dX7_init_122 : decode cX7_init 122 = .ok (.newarray .int, 2) := by decide +kernel
theorem dX7_init_124 : decode cX7_init 124 = .ok (.putfield 55, 3) := by decide +kernel
theorem dX7_init_127 : decode cX7_init 127 = .ok (.aload_n 0, 1) := by decide +kernel
theorem dX7_init_128 : decode cX7_init 128 = .ok (.bipush 8, 2) := by decide +kernel
theorem dX7_init_130 : decode cX7_init 130 = .ok (.newarray .int, 2) := by decide +kernel
theorem dX7_init_132 : decode cX7_init 132 = .ok (.putfield 58, 3) := by decide +kernel
theorem dX7_init_135 : decode cX7_init 135 = .ok (.aload_n 0, 1) := by decide +kernel
theorem dX7_init_136 : decode cX7_init 136 = .ok (.ldc 61, 2) := by decide +kernel
theorem dX7_init_138 : decode cX7_init 138 = .ok (.newarray .boolean, 2) := by decide +kernel
theorem dX7_init_140 : decode cX7_init 140 = .ok (.putfield 62, 3) := by decide +kernel
theorem dX7_init_143 : decode cX7_init 143 = .ok (.aload_n 0, 1) := by decide +kernel
theorem dX7_init_144 : decode cX7_init 144 = .ok (.ldc 61, 2) := by decide +kernel
theorem dX7_init_146 : decode cX7_init 146 = .ok (.newarray .int, 2) := by decide +kernel
theorem dX7_init_148 : decode cX7_init 148 = .ok (.putfield 65, 3) := by decide +kernel
theorem dX7_init_151 : decode cX7_init 151 = .ok (.aload_n 0, 1) := by decide +kernel
theorem dX7_init_152 : decode cX7_init 152 = .ok (.bipush 8, 2) := by decide +kernel
theorem dX7_init_154 : decode cX7_init 154 = .ok (.newarray .int, 2) := by decide +kernel
theorem dX7_init_156 : decode cX7_init 156 = .ok (.putfield 68, 3) := by decide +kernel
theorem dX7_init_159 : decode cX7_init 159 = .ok (.aload_n 0, 1) := by decide +kernel
theorem dX7_init_160 : decode cX7_init 160 = .ok (.bipush 8, 2) := by decide +kernel
theorem dX7_init_162 : decode cX7_init 162 = .ok (.newarray .int, 2) := by decide +kernel
theorem dX7_init_164 : decode cX7_init 164 = .ok (.putfield 71, 3) := by decide +kernel
theorem dX7_init_167 : decode cX7_init 167 = .ok (.aload_n 0, 1) := by decide +kernel
theorem dX7_init_168 : decode cX7_init 168 = .ok (.iload_n 1, 1) := by decide +kernel
theorem dX7_init_169 : decode cX7_init 169 = .ok (.iconst 1, 1) := by decide +kernel
theorem dX7_init_170 : decode cX7_init 170 = .ok (.if_icmp .ge 7, 3) := by decide +kernel
theorem dX7_init_173 : decode cX7_init 173 = .ok (.iconst 1, 1) := by decide +kernel
theorem dX7_init_174 : decode cX7_init 174 = .ok (.goto 13, 3) := by decide +kernel
theorem dX7_init_177 : decode cX7_init 177 = .ok (.iload_n 1, 1) := by decide +kernel
theorem dX7_init_178 : decode cX7_init 178 = .ok (.iconst 5, 1) := by decide +kernel
theorem dX7_init_179 : decode cX7_init 179 = .ok (.if_icmp .le 7, 3) := by decide +kernel
theorem dX7_init_182 : decode cX7_init 182 = .ok (.iconst 5, 1) := by decide +kernel
theorem dX7_init_183 : decode cX7_init 183 = .ok (.goto 4, 3) := by decide +kernel
theorem dX7_init_186 : decode cX7_init 186 = .ok (.iload_n 1, 1) := by decide +kernel
theorem dX7_init_187 : decode cX7_init 187 = .ok (.putfield 74, 3) := by decide +kernel
theorem dX7_init_190 : decode cX7_init 190 = .ok (.aload_n 0, 1) := by decide +kernel
theorem dX7_init_191 : decode cX7_init 191 = .ok (.iload_n 2, 1) := by decide +kernel
theorem dX7_init_192 : decode cX7_init 192 = .ok (.iconst 1, 1) := by decide +kernel
theorem dX7_init_193 : decode cX7_init 193 = .ok (.if_icmp .ge 7, 3) := by decide +kernel
theorem dX7_init_196 : decode cX7_init 196 = .ok (.iconst 1, 1) := by decide +kernel
theorem dX7_init_197 : decode cX7_init 197 = .ok (.goto 13, 3) := by decide +kernel
theorem dX7_init_200 : decode cX7_init 200 = .ok (.iload_n 2, 1) := by decide +kernel
theorem dX7_init_201 : decode cX7_init 201 = .ok (.iconst 5, 1) := by decide +kernel
theorem dX7_init_202 : decode cX7_init 202 = .ok (.if_icmp .le 7, 3) := by decide +kernel
theorem dX7_init_205 : decode cX7_init 205 = .ok (.iconst 5, 1) := by decide +kernel
theorem dX7_init_206 : decode cX7_init 206 = .ok (.goto 4, 3) := by decide +kernel
theorem dX7_init_209 : decode cX7_init 209 = .ok (.iload_n 2, 1) := by decide +kernel
theorem dX7_init_210 : decode cX7_init 210 = .ok (.putfield 78, 3) := by decide +kernel
theorem dX7_init_213 : decode cX7_init 213 = .ok (.return_, 1) := by decide +kernel
theorem dX7_thrown_0 : decode cX7_thrown 0 = .ok (.aload_n 0, 1) := by decide +kernel
theorem dX7_thrown_1 : decode cX7_thrown 1 = .ok (.getfield 81, 3) := by decide +kernel
theorem dX7_thrown_4 : decode cX7_thrown 4 = .ok (.ireturn, 1) := by decide +kernel
theorem dX7_throwsIf_0 : decode cX7_throwsIf 0 = .ok (.aload_n 0, 1) := by decide +kernel
theorem dX7_throwsIf_1 : decode cX7_throwsIf 1 = .ok (.iload_n 2, 1) := by decide +kernel
theorem dX7_throwsIf_2 : decode cX7_throwsIf 2 = .ok (.ifCond .eq 7, 3) := by decide +kernel
theorem dX7_throwsIf_5 : decode cX7_throwsIf 5 = .ok (.iload_n 1, 1) := by decide +kernel
theorem dX7_throwsIf_6 : decode cX7_throwsIf 6 = .ok (.goto 4, 3) := by decide +kernel
theorem dX7_throwsIf_9 : decode cX7_throwsIf 9 = .ok (.iconst 0, 1) := by decide +kernel
theorem dX7_throwsIf_10 : decode cX7_throwsIf 10 = .ok (.putfield 81, 3) := by decide +kernel
theorem dX7_throwsIf_13 : decode cX7_throwsIf 13 = .ok (.iload_n 2, 1) := by decide +kernel
theorem dX7_throwsIf_14 : decode cX7_throwsIf 14 = .ok (.ireturn, 1) := by decide +kernel
theorem dX7_isCell_0 : decode cX7_isCell 0 = .ok (.iload_n 1, 1) := by decide +kernel
theorem dX7_isCell_1 : decode cX7_isCell 1 = .ok (.ifCond .lt 27, 3) := by decide +kernel
theorem dX7_isCell_4 : decode cX7_isCell 4 = .ok (.iload_n 1, 1) := by decide +kernel
theorem dX7_isCell_5 : decode cX7_isCell 5 = .ok (.aload_n 0, 1) := by decide +kernel
theorem dX7_isCell_6 : decode cX7_isCell 6 = .ok (.getfield 74, 3) := by decide +kernel
theorem dX7_isCell_9 : decode cX7_isCell 9 = .ok (.if_icmp .ge 19, 3) := by decide +kernel
theorem dX7_isCell_12 : decode cX7_isCell 12 = .ok (.iload_n 2, 1) := by decide +kernel
theorem dX7_isCell_13 : decode cX7_isCell 13 = .ok (.ifCond .lt 15, 3) := by decide +kernel
theorem dX7_isCell_16 : decode cX7_isCell 16 = .ok (.iload_n 2, 1) := by decide +kernel
theorem dX7_isCell_17 : decode cX7_isCell 17 = .ok (.aload_n 0, 1) := by decide +kernel
theorem dX7_isCell_18 : decode cX7_isCell 18 = .ok (.getfield 78, 3) := by decide +kernel
theorem dX7_isCell_21 : decode cX7_isCell 21 = .ok (.if_icmp .ge 7, 3) := by decide +kernel
theorem dX7_isCell_24 : decode cX7_isCell 24 = .ok (.iconst 1, 1) := by decide +kernel
theorem dX7_isCell_25 : decode cX7_isCell 25 = .ok (.goto 4, 3) := by decide +kernel
theorem dX7_isCell_28 : decode cX7_isCell 28 = .ok (.iconst 0, 1) := by decide +kernel
theorem dX7_isCell_29 : decode cX7_isCell 29 = .ok (.ireturn, 1) := by decide +kernel
theorem dX7_isBlock_0 : decode cX7_isBlock 0 = .ok (.iload_n 1, 1) := by decide +kernel
theorem dX7_isBlock_1 : decode cX7_isBlock 1 = .ok (.ifCond .lt 15, 3) := by decide +kernel
theorem dX7_isBlock_4 : decode cX7_isBlock 4 = .ok (.iload_n 1, 1) := by decide +kernel
theorem dX7_isBlock_5 : decode cX7_isBlock 5 = .ok (.aload_n 0, 1) := by decide +kernel
theorem dX7_isBlock_6 : decode cX7_isBlock 6 = .ok (.getfield 84, 3) := by decide +kernel
theorem dX7_isBlock_9 : decode cX7_isBlock 9 = .ok (.if_icmp .ge 7, 3) := by decide +kernel
theorem dX7_isBlock_12 : decode cX7_isBlock 12 = .ok (.iconst 1, 1) := by decide +kernel
theorem dX7_isBlock_13 : decode cX7_isBlock 13 = .ok (.goto 4, 3) := by decide +kernel
theorem dX7_isBlock_16 : decode cX7_isBlock 16 = .ok (.iconst 0, 1) := by decide +kernel
theorem dX7_isBlock_17 : decode cX7_isBlock 17 = .ok (.ireturn, 1) := by decide +kernel
theorem dX7_blocked_0 : decode cX7_blocked 0 = .ok (.aload_n 0, 1) := by decide +kernel
theorem dX7_blocked_1 : decode cX7_blocked 1 = .ok (.getfield 87, 3) := by decide +kernel
theorem dX7_blocked_4 : decode cX7_blocked 4 = .ok (.istore_n 1, 1) := by decide +kernel
theorem dX7_blocked_5 : decode cX7_blocked 5 = .ok (.iconst 0, 1) := by decide +kernel
theorem dX7_blocked_6 : decode cX7_blocked 6 = .ok (.istore_n 2, 1) := by decide +kernel
theorem dX7_blocked_7 : decode cX7_blocked 7 = .ok (.iload_n 2, 1) := by decide +kernel
theorem dX7_blocked_8 : decode cX7_blocked 8 = .ok (.aload_n 0, 1) := by decide +kernel
theorem dX7_blocked_9 : decode cX7_blocked 9 = .ok (.getfield 84, 3) := by decide +kernel
theorem dX7_blocked_12 : decode cX7_blocked 12 = .ok (.if_icmp .ge 18, 3) := by decide +kernel
theorem dX7_blocked_15 : decode cX7_blocked 15 = .ok (.iload_n 1, 1) := by decide +kernel
theorem dX7_blocked_16 : decode cX7_blocked 16 = .ok (.aload_n 0, 1) := by decide +kernel
theorem dX7_blocked_17 : decode cX7_blocked 17 = .ok (.getfield 13, 3) := by decide +kernel
theorem dX7_blocked_20 : decode cX7_blocked 20 = .ok (.iload_n 2, 1) := by decide +kernel
theorem dX7_blocked_21 : decode cX7_blocked 21 = .ok (.iaload, 1) := by decide +kernel
theorem dX7_blocked_22 : decode cX7_blocked 22 = .ok (.ior, 1) := by decide +kernel
theorem dX7_blocked_23 : decode cX7_blocked 23 = .ok (.istore_n 1, 1) := by decide +kernel
theorem dX7_blocked_24 : decode cX7_blocked 24 = .ok (.iinc 2 1, 3) := by decide +kernel
theorem dX7_blocked_27 : decode cX7_blocked 27 = .ok (.goto (-20), 3) := by decide +kernel
theorem dX7_blocked_30 : decode cX7_blocked 30 = .ok (.iload_n 1, 1) := by decide +kernel
theorem dX7_blocked_31 : decode cX7_blocked 31 = .ok (.ireturn, 1) := by decide +kernel
theorem dX7_wall_0 : decode cX7_wall 0 = .ok (.aload_n 0, 1) := by decide +kernel
theorem dX7_wall_1 : decode cX7_wall 1 = .ok (.iconst 1, 1) := by decide +kernel
theorem dX7_wall_2 : decode cX7_wall 2 = .ok (.aload_n 0, 1) := by decide +kernel
theorem dX7_wall_3 : decode cX7_wall 3 = .ok (.iload_n 1, 1) := by decide +kernel
theorem dX7_wall_4 : decode cX7_wall 4 = .ok (.iload_n 2, 1) := by decide +kernel
theorem dX7_wall_5 : decode cX7_wall 5 = .ok (.invokevirtual 90, 3) := by decide +kernel
theorem dX7_wall_8 : decode cX7_wall 8 = .ok (.ifCond .ne 7, 3) := by decide +kernel
theorem dX7_wall_11 : decode cX7_wall 11 = .ok (.iconst 1, 1) := by decide +kernel
theorem dX7_wall_12 : decode cX7_wall 12 = .ok (.goto 4, 3) := by decide +kernel
theorem dX7_wall_15 : decode cX7_wall 15 = .ok (.iconst 0, 1) := by decide +kernel
theorem dX7_wall_16 : decode cX7_wall 16 = .ok (.invokevirtual 94, 3) := by decide +kernel
theorem dX7_wall_19 : decode cX7_wall 19 = .ok (.ifCond .eq 5, 3) := by decide +kernel
theorem dX7_wall_22 : decode cX7_wall 22 = .ok (.iconst 0, 1) := by decide +kernel
theorem dX7_wall_23 : decode cX7_wall 23 = .ok (.ireturn, 1) := by decide +kernel
theorem dX7_wall_24 : decode cX7_wall 24 = .ok (.iconst 1, 1) := by decide +kernel
theorem dX7_wall_25 : decode cX7_wall 25 = .ok (.aload_n 0, 1) := by decide +kernel
theorem dX7_wall_26 : decode cX7_wall 26 = .ok (.getfield 74, 3) := by decide +kernel
theorem dX7_wall_29 : decode cX7_wall 29 = .ok (.iload_n 2, 1) := by decide +kernel
theorem dX7_wall_30 : decode cX7_wall 30 = .ok (.imul, 1) := by decide +kernel
theorem dX7_wall_31 : decode cX7_wall 31 = .ok (.iload_n 1, 1) := by decide +kernel
theorem dX7_wall_32 : decode cX7_wall 32 = .ok (.iadd, 1) := by decide +kernel
theorem dX7_wall_33 : decode cX7_wall 33 = .ok (.ishl, 1) := by decide +kernel
theorem dX7_wall_34 : decode cX7_wall 34 = .ok (.istore 4, 2) := by decide +kernel
theorem dX7_wall_36 : decode cX7_wall 36 = .ok (.aload_n 0, 1) := by decide +kernel
theorem dX7_wall_37 : decode cX7_wall 37 = .ok (.getfield 87, 3) := by decide +kernel
theorem dX7_wall_40 : decode cX7_wall 40 = .ok (.iload 4, 2) := by decide +kernel
theorem dX7_wall_42 : decode cX7_wall 42 = .ok (.iand, 1) := by decide +kernel
theorem dX7_wall_43 : decode cX7_wall 43 = .ok (.ifCond .eq 7, 3) := by decide +kernel
theorem dX7_wall_46 : decode cX7_wall 46 = .ok (.iconst 1, 1) := by decide +kernel
theorem dX7_wall_47 : decode cX7_wall 47 = .ok (.goto 4, 3) := by decide +kernel
theorem dX7_wall_50 : decode cX7_wall 50 = .ok (.iconst 0, 1) := by decide +kernel
theorem dX7_wall_51 : decode cX7_wall 51 = .ok (.iload_n 3, 1) := by decide +kernel
theorem dX7_wall_52 : decode cX7_wall 52 = .ok (.if_icmp .eq 17, 3) := by decide +kernel
theorem dX7_wall_55 : decode cX7_wall 55 = .ok (.iload_n 3, 1) := by decide +kernel
theorem dX7_wall_56 : decode cX7_wall 56 = .ok (.ifCond .eq 15, 3) := by decide +kernel
theorem dX7_wall_59 : decode cX7_wall 59 = .ok (.aload_n 0, 1) := by decide +kernel
theorem dX7_wall_60 : decode cX7_wall 60 = .ok (.invokevirtual 98, 3) := by decide +kernel
theorem dX7_wall_63 : decode cX7_wall 63 = .ok (.iload 4, 2) := by decide +kernel
theorem dX7_wall_65 : decode cX7_wall 65 = .ok (.iand, 1) := by decide +kernel
theorem dX7_wall_66 : decode cX7_wall 66 = .ok (.ifCond .eq 5, 3) := by decide +kernel
theorem dX7_wall_69 : decode cX7_wall 69 = .ok (.iconst 0, 1) := by decide +kernel
theorem dX7_wall_70 : decode cX7_wall 70 = .ok (.ireturn, 1) := by decide +kernel
theorem dX7_wall_71 : decode cX7_wall 71 = .ok (.aload_n 0, 1) := by decide +kernel
theorem dX7_wall_72 : decode cX7_wall 72 = .ok (.aload_n 0, 1) := by decide +kernel
theorem dX7_wall_73 : decode cX7_wall 73 = .ok (.getfield 87, 3) := by decide +kernel
theorem dX7_wall_76 : decode cX7_wall 76 = .ok (.iload 4, 2) := by decide +kernel
theorem dX7_wall_78 : decode cX7_wall 78 = .ok (.ixor, 1) := by decide +kernel
theorem dX7_wall_79 : decode cX7_wall 79 = .ok (.putfield 87, 3) := by decide +kernel
theorem dX7_wall_82 : decode cX7_wall 82 = .ok (.iconst 1, 1) := by decide +kernel
theorem dX7_wall_83 : decode cX7_wall 83 = .ok (.ireturn, 1) := by decide +kernel
theorem dX7_block_0 : decode cX7_block 0 = .ok (.aload_n 0, 1) := by decide +kernel
theorem dX7_block_1 : decode cX7_block 1 = .ok (.iconst 1, 1) := by decide +kernel
theorem dX7_block_2 : decode cX7_block 2 = .ok (.iload_n 1, 1) := by decide +kernel
theorem dX7_block_3 : decode cX7_block 3 = .ok (.ifCond .lt 9, 3) := by decide +kernel
theorem dX7_block_6 : decode cX7_block 6 = .ok (.iload_n 1, 1) := by decide +kernel
theorem dX7_block_7 : decode cX7_block 7 = .ok (.bipush 25, 2) := by decide +kernel
theorem dX7_block_9 : decode cX7_block 9 = .ok (.if_icmp .le 7, 3) := by decide +kernel
theorem dX7_block_12 : decode cX7_block 12 = .ok (.iconst 1, 1) := by decide +kernel
theorem dX7_block_13 : decode cX7_block 13 = .ok (.goto 4, 3) := by decide +kernel
theorem dX7_block_16 : decode cX7_block 16 = .ok (.iconst 0, 1) := by decide +kernel
theorem dX7_block_17 : decode cX7_block 17 = .ok (.invokevirtual 94, 3) := by decide +kernel
theorem dX7_block_20 : decode cX7_block 20 = .ok (.ifCond .eq 5, 3) := by decide +kernel
theorem dX7_block_23 : decode cX7_block 23 = .ok (.iconst 0, 1) := by decide +kernel
theorem dX7_block_24 : decode cX7_block 24 = .ok (.ireturn, 1) := by decide +kernel
theorem dX7_block_25 : decode cX7_block 25 = .ok (.aload_n 0, 1) := by decide +kernel
theorem dX7_block_26 : decode cX7_block 26 = .ok (.getfield 84, 3) := by decide +kernel
theorem dX7_block_29 : decode cX7_block 29 = .ok (.bipush 8, 2) := by decide +kernel
theorem dX7_block_31 : decode cX7_block 31 = .ok (.if_icmp .ne 5, 3) := by decide +kernel
theorem dX7_block_34 : decode cX7_block 34 = .ok (.iconst (-1), 1) := by decide +kernel
theorem dX7_block_35 : decode cX7_block 35 = .ok (.ireturn, 1) := by decide +kernel
theorem dX7_block_36 : decode cX7_block 36 = .ok (.aload_n 0, 1) := by decide +kernel
theorem dX7_block_37 : decode cX7_block 37 = .ok (.getfield 7, 3) := by decide +kernel
theorem dX7_block_40 : decode cX7_block 40 = .ok (.aload_n 0, 1) := by decide +kernel
theorem dX7_block_41 : decode cX7_block 41 = .ok (.getfield 84, 3) := by decide +kernel
theorem dX7_block_44 : decode cX7_block 44 = .ok (.iload_n 1, 1) := by decide +kernel
theorem dX7_block_45 : decode cX7_block 45 = .ok (.iastore, 1) := by decide +kernel
theorem dX7_block_46 : decode cX7_block 46 = .ok (.aload_n 0, 1) := by decide +kernel
theorem dX7_block_47 : decode cX7_block 47 = .ok (.getfield 13, 3) := by decide +kernel
theorem dX7_block_50 : decode cX7_block 50 = .ok (.aload_n 0, 1) := by decide +kernel
theorem dX7_block_51 : decode cX7_block 51 = .ok (.getfield 84, 3) := by decide +kernel
theorem dX7_block_54 : decode cX7_block 54 = .ok (.iconst 0, 1) := by decide +kernel
theorem dX7_block_55 : decode cX7_block 55 = .ok (.iastore, 1) := by decide +kernel
theorem dX7_block_56 : decode cX7_block 56 = .ok (.aload_n 0, 1) := by decide +kernel
theorem dX7_block_57 : decode cX7_block 57 = .ok (.dup, 1) := by decide +kernel
theorem dX7_block_58 : decode cX7_block 58 = .ok (.getfield 84, 3) := by decide +kernel
theorem dX7_block_61 : decode cX7_block 61 = .ok (.iconst 1, 1) := by decide +kernel
theorem dX7_block_62 : decode cX7_block 62 = .ok (.iadd, 1) := by decide +kernel
theorem dX7_block_63 : decode cX7_block 63 = .ok (.putfield 84, 3) := by decide +kernel
theorem dX7_block_66 : decode cX7_block 66 = .ok (.aload_n 0, 1) := by decide +kernel
theorem dX7_block_67 : decode cX7_block 67 = .ok (.getfield 84, 3) := by decide +kernel
theorem dX7_block_70 : decode cX7_block 70 = .ok (.iconst 1, 1) := by decide +kernel
theorem dX7_block_71 : decode cX7_block 71 = .ok (.isub, 1) := by decide +kernel
theorem dX7_block_72 : decode cX7_block 72 = .ok (.ireturn, 1) := by decide +kernel
theorem dX7_cell_0 : decode cX7_cell 0 = .ok (.aload_n 0, 1) := by decide +kernel
theorem dX7_cell_1 : decode cX7_cell 1 = .ok (.iconst 1, 1) := by decide +kernel
theorem dX7_cell_2 : decode cX7_cell 2 = .ok (.aload_n 0, 1) := by decide +kernel
theorem dX7_cell_3 : decode cX7_cell 3 = .ok (.iload_n 1, 1) := by decide +kernel
theorem dX7_cell_4 : decode cX7_cell 4 = .ok (.invokevirtual 102, 3) := by decide +kernel
theorem dX7_cell_7 : decode cX7_cell 7 = .ok (.ifCond .eq 12, 3) := by decide +kernel
theorem dX7_cell_10 : decode cX7_cell 10 = .ok (.aload_n 0, 1) := by decide +kernel
theorem dX7_cell_11 : decode cX7_cell 11 = .ok (.iload_n 2, 1) := by decide +kernel
theorem dX7_cell_12 : decode cX7_cell 12 = .ok (.iload_n 3, 1) := by decide +kernel
theorem dX7_cell_13 : decode cX7_cell 13 = .ok (.invokevirtual 90, 3) := by decide +kernel
theorem dX7_cell_16 : decode cX7_cell 16 = .ok (.ifCond .ne 7, 3) := by decide +kernel
theorem dX7_cell_19 : decode cX7_cell 19 = .ok (.iconst 1, 1) := by decide +kernel
theorem dX7_cell_20 : decode cX7_cell 20 = .ok (.goto 4, 3) := by decide +kernel
theorem dX7_cell_23 : decode cX7_cell 23 = .ok (.iconst 0, 1) := by decide +kernel
theorem dX7_cell_24 : decode cX7_cell 24 = .ok (.invokevirtual 94, 3) := by decide +kernel
theorem dX7_cell_27 : decode cX7_cell 27 = .ok (.ifCond .eq 5, 3) := by decide +kernel
theorem dX7_cell_30 : decode cX7_cell 30 = .ok (.iconst 0, 1) := by decide +kernel
theorem dX7_cell_31 : decode cX7_cell 31 = .ok (.ireturn, 1) := by decide +kernel
theorem dX7_cell_32 : decode cX7_cell 32 = .ok (.iconst 1, 1) := by decide +kernel
theorem dX7_cell_33 : decode cX7_cell 33 = .ok (.aload_n 0, 1) := by decide +kernel
theorem dX7_cell_34 : decode cX7_cell 34 = .ok (.getfield 74, 3) := by decide +kernel
theorem dX7_cell_37 : decode cX7_cell 37 = .ok (.iload_n 3, 1) := by decide +kernel
theorem dX7_cell_38 : decode cX7_cell 38 = .ok (.imul, 1) := by decide +kernel
theorem dX7_cell_39 : decode cX7_cell 39 = .ok (.iload_n 2, 1) := by decide +kernel
theorem dX7_cell_40 : decode cX7_cell 40 = .ok (.iadd, 1) := by decide +kernel
theorem dX7_cell_41 : decode cX7_cell 41 = .ok (.ishl, 1) := by decide +kernel
theorem dX7_cell_42 : decode cX7_cell 42 = .ok (.istore 4, 2) := by decide +kernel
theorem dX7_cell_44 : decode cX7_cell 44 = .ok (.aload_n 0, 1) := by decide +kernel
theorem dX7_cell_45 : decode cX7_cell 45 = .ok (.invokevirtual 98, 3) := by decide +kernel
theorem dX7_cell_48 : decode cX7_cell 48 = .ok (.iload 4, 2) := by decide +kernel
theorem dX7_cell_50 : decode cX7_cell 50 = .ok (.iand, 1) := by decide +kernel
theorem dX7_cell_51 : decode cX7_cell 51 = .ok (.ifCond .eq 5, 3) := by decide +kernel
theorem dX7_cell_54 : decode cX7_cell 54 = .ok (.iconst 0, 1) := by decide +kernel
theorem dX7_cell_55 : decode cX7_cell 55 = .ok (.ireturn, 1) := by decide +kernel
theorem dX7_cell_56 : decode cX7_cell 56 = .ok (.aload_n 0, 1) := by decide +kernel
theorem dX7_cell_57 : decode cX7_cell 57 = .ok (.getfield 13, 3) := by decide +kernel
theorem dX7_cell_60 : decode cX7_cell 60 = .ok (.iload_n 1, 1) := by decide +kernel
theorem dX7_cell_61 : decode cX7_cell 61 = .ok (.aload_n 0, 1) := by decide +kernel
theorem dX7_cell_62 : decode cX7_cell 62 = .ok (.getfield 13, 3) := by decide +kernel
theorem dX7_cell_65 : decode cX7_cell 65 = .ok (.iload_n 1, 1) := by decide +kernel
theorem dX7_cell_66 : decode cX7_cell 66 = .ok (.iaload, 1) := by decide +kernel
theorem dX7_cell_67 : decode cX7_cell 67 = .ok (.iload 4, 2) := by decide +kernel
theorem dX7_cell_69 : decode cX7_cell 69 = .ok (.ior, 1) := by decide +kernel
theorem dX7_cell_70 : decode cX7_cell 70 = .ok (.iastore, 1) := by decide +kernel
theorem dX7_cell_71 : decode cX7_cell 71 = .ok (.iconst 1, 1) := by decide +kernel
theorem dX7_cell_72 : decode cX7_cell 72 = .ok (.ireturn, 1) := by decide +kernel
theorem dX7_placeOf_0 : decode cX7_placeOf 0 = .ok (.iconst 0, 1) := by decide +kernel
theorem dX7_placeOf_1 : decode cX7_placeOf 1 = .ok (.istore_n 1, 1) := by decide +kernel
theorem dX7_placeOf_2 : decode cX7_placeOf 2 = .ok (.iload_n 1, 1) := by decide +kernel
theorem dX7_placeOf_3 : decode cX7_placeOf 3 = .ok (.bipush 25, 2) := by decide +kernel
theorem dX7_placeOf_5 : decode cX7_placeOf 5 = .ok (.if_icmp .ge 20, 3) := by decide +kernel
theorem dX7_placeOf_8 : decode cX7_placeOf 8 = .ok (.iload_n 0, 1) := by decide +kernel
theorem dX7_placeOf_9 : decode cX7_placeOf 9 = .ok (.iload_n 1, 1) := by decide +kernel
theorem dX7_placeOf_10 : decode cX7_placeOf 10 = .ok (.ishr, 1) := by decide +kernel
theorem dX7_placeOf_11 : decode cX7_placeOf 11 = .ok (.iconst 1, 1) := by decide +kernel
theorem dX7_placeOf_12 : decode cX7_placeOf 12 = .ok (.iand, 1) := by decide +kernel
theorem dX7_placeOf_13 : decode cX7_placeOf 13 = .ok (.iconst 1, 1) := by decide +kernel
theorem dX7_placeOf_14 : decode cX7_placeOf 14 = .ok (.if_icmp .ne 5, 3) := by decide +kernel
theorem dX7_placeOf_17 : decode cX7_placeOf 17 = .ok (.iload_n 1, 1) := by decide +kernel
theorem dX7_placeOf_18 : decode cX7_placeOf 18 = .ok (.ireturn, 1) := by decide +kernel
theorem dX7_placeOf_19 : decode cX7_placeOf 19 = .ok (.iinc 1 1, 3) := by decide +kernel
theorem dX7_placeOf_22 : decode cX7_placeOf 22 = .ok (.goto (-20), 3) := by decide +kernel
theorem dX7_placeOf_25 : decode cX7_placeOf 25 = .ok (.iconst (-1), 1) := by decide +kernel
theorem dX7_placeOf_26 : decode cX7_placeOf 26 = .ok (.ireturn, 1) := by decide +kernel
theorem dX7_place_0 : decode cX7_place 0 = .ok (.aload_n 0, 1) := by decide +kernel
theorem dX7_place_1 : decode cX7_place 1 = .ok (.iconst 1, 1) := by decide +kernel
theorem dX7_place_2 : decode cX7_place 2 = .ok (.aload_n 0, 1) := by decide +kernel
theorem dX7_place_3 : decode cX7_place 3 = .ok (.iload_n 1, 1) := by decide +kernel
theorem dX7_place_4 : decode cX7_place 4 = .ok (.invokevirtual 102, 3) := by decide +kernel
theorem dX7_place_7 : decode cX7_place 7 = .ok (.ifCond .ne 7, 3) := by decide +kernel
theorem dX7_place_10 : decode cX7_place 10 = .ok (.iconst 1, 1) := by decide +kernel
theorem dX7_place_11 : decode cX7_place 11 = .ok (.goto 4, 3) := by decide +kernel
theorem dX7_place_14 : decode cX7_place 14 = .ok (.iconst 0, 1) := by decide +kernel
theorem dX7_place_15 : decode cX7_place 15 = .ok (.invokevirtual 94, 3) := by decide +kernel
theorem dX7_place_18 : decode cX7_place 18 = .ok (.ifCond .eq 7, 3) := by decide +kernel
theorem dX7_place_21 : decode cX7_place 21 = .ok (.iconst 0, 1) := by decide +kernel
theorem dX7_place_22 : decode cX7_place 22 = .ok (.goto 12, 3) := by decide +kernel
theorem dX7_place_25 : decode cX7_place 25 = .ok (.aload_n 0, 1) := by decide +kernel
theorem dX7_place_26 : decode cX7_place 26 = .ok (.getfield 13, 3) := by decide +kernel
theorem dX7_place_29 : decode cX7_place 29 = .ok (.iload_n 1, 1) := by decide +kernel
theorem dX7_place_30 : decode cX7_place 30 = .ok (.iaload, 1) := by decide +kernel
theorem dX7_place_31 : decode cX7_place 31 = .ok (.invokestatic 106, 3) := by decide +kernel
theorem dX7_place_34 : decode cX7_place 34 = .ok (.ireturn, 1) := by decide +kernel
theorem dX7_moved_0 : decode cX7_moved 0 = .ok (.iconst 0, 1) := by decide +kernel
theorem dX7_moved_1 : decode cX7_moved 1 = .ok (.istore_n 3, 1) := by decide +kernel
theorem dX7_moved_2 : decode cX7_moved 2 = .ok (.iload_n 3, 1) := by decide +kernel
theorem dX7_moved_3 : decode cX7_moved 3 = .ok (.aload_n 0, 1) := by decide +kernel
theorem dX7_moved_4 : decode cX7_moved 4 = .ok (.getfield 74, 3) := by decide +kernel
theorem dX7_moved_7 : decode cX7_moved 7 = .ok (.aload_n 0, 1) := by decide +kernel
theorem dX7_moved_8 : decode cX7_moved 8 = .ok (.getfield 78, 3) := by decide +kernel
theorem dX7_moved_11 : decode cX7_moved 11 = .ok (.imul, 1) := by decide +kernel
theorem dX7_moved_12 : decode cX7_moved 12 = .ok (.if_icmp .ge 88, 3) := by decide +kernel
theorem dX7_moved_15 : decode cX7_moved 15 = .ok (.iload_n 1, 1) := by decide +kernel
theorem dX7_moved_16 : decode cX7_moved 16 = .ok (.iload_n 3, 1) := by decide +kernel
theorem dX7_moved_17 : decode cX7_moved 17 = .ok (.ishr, 1) := by decide +kernel
theorem dX7_moved_18 : decode cX7_moved 18 = .ok (.iconst 1, 1) := by decide +kernel
theorem dX7_moved_19 : decode cX7_moved 19 = .ok (.iand, 1) := by decide +kernel
theorem dX7_moved_20 : decode cX7_moved 20 = .ok (.ifCond .ne 6, 3) := by decide +kernel
theorem dX7_moved_23 : decode cX7_moved 23 = .ok (.goto 71, 3) := by decide +kernel
theorem dX7_moved_26 : decode cX7_moved 26 = .ok (.iload_n 3, 1) := by decide +kernel
theorem dX7_moved_27 : decode cX7_moved 27 = .ok (.aload_n 0, 1) := by decide +kernel
theorem dX7_moved_28 : decode cX7_moved 28 = .ok (.getfield 74, 3) := by decide +kernel
theorem dX7_moved_31 : decode cX7_moved 31 = .ok (.irem, 1) := by decide +kernel
theorem dX7_moved_32 : decode cX7_moved 32 = .ok (.iload_n 2, 1) := by decide +kernel
theorem dX7_moved_33 : decode cX7_moved 33 = .ok (.ifCond .ne 7, 3) := by decide +kernel
theorem dX7_moved_36 : decode cX7_moved 36 = .ok (.iconst 1, 1) := by decide +kernel
theorem dX7_moved_37 : decode cX7_moved 37 = .ok (.goto 13, 3) := by decide +kernel
theorem dX7_moved_40 : decode cX7_moved 40 = .ok (.iload_n 2, 1) := by decide +kernel
theorem dX7_moved_41 : decode cX7_moved 41 = .ok (.iconst 2, 1) := by decide +kernel
theorem dX7_moved_42 : decode cX7_moved 42 = .ok (.if_icmp .ne 7, 3) := by decide +kernel
theorem dX7_moved_45 : decode cX7_moved 45 = .ok (.iconst (-1), 1) := by decide +kernel
theorem dX7_moved_46 : decode cX7_moved 46 = .ok (.goto 4, 3) := by decide +kernel
theorem dX7_moved_49 : decode cX7_moved 49 = .ok (.iconst 0, 1) := by decide +kernel
theorem dX7_moved_50 : decode cX7_moved 50 = .ok (.iadd, 1) := by decide +kernel
theorem dX7_moved_51 : decode cX7_moved 51 = .ok (.istore 4, 2) := by decide +kernel
theorem dX7_moved_53 : decode cX7_moved 53 = .ok (.iload_n 3, 1) := by decide +kernel
theorem dX7_moved_54 : decode cX7_moved 54 = .ok (.aload_n 0, 1) := by decide +kernel
theorem dX7_moved_55 : decode cX7_moved 55 = .ok (.getfield 74, 3) := by decide +kernel
theorem dX7_moved_58 : decode cX7_moved 58 = .ok (.idiv, 1) := by decide +kernel
theorem dX7_moved_59 : decode cX7_moved 59 = .ok (.iload_n 2, 1) := by decide +kernel
theorem dX7_moved_60 : decode cX7_moved 60 = .ok (.iconst 1, 1) := by decide +kernel
theorem dX7_moved_61 : decode cX7_moved 61 = .ok (.if_icmp .ne 7, 3) := by decide +kernel
theorem dX7_moved_64 : decode cX7_moved 64 = .ok (.iconst 1, 1) := by decide +kernel
theorem dX7_moved_65 : decode cX7_moved 65 = .ok (.goto 13, 3) := by decide +kernel
theorem dX7_moved_68 : decode cX7_moved 68 = .ok (.iload_n 2, 1) := by decide +kernel
theorem dX7_moved_69 : decode cX7_moved 69 = .ok (.iconst 3, 1) := by decide +kernel
theorem dX7_moved_70 : decode cX7_moved 70 = .ok (.if_icmp .ne 7, 3) := by decide +kernel
theorem dX7_moved_73 : decode cX7_moved 73 = .ok (.iconst (-1), 1) := by decide +kernel
theorem dX7_moved_74 : decode cX7_moved 74 = .ok (.goto 4, 3) := by decide +kernel
theorem dX7_moved_77 : decode cX7_moved 77 = .ok (.iconst 0, 1) := by decide +kernel
theorem dX7_moved_78 : decode cX7_moved 78 = .ok (.iadd, 1) := by decide +kernel
theorem dX7_moved_79 : decode cX7_moved 79 = .ok (.istore 5, 2) := by decide +kernel
theorem dX7_moved_81 : decode cX7_moved 81 = .ok (.aload_n 0, 1) := by decide +kernel
theorem dX7_moved_82 : decode cX7_moved 82 = .ok (.iload 4, 2) := by decide +kernel
theorem dX7_moved_84 : decode cX7_moved 84 = .ok (.iload 5, 2) := by decide +kernel
theorem dX7_moved_86 : decode cX7_moved 86 = .ok (.invokevirtual 90, 3) := by decide +kernel
theorem dX7_moved_89 : decode cX7_moved 89 = .ok (.ifCond .ne 5, 3) := by decide +kernel
theorem dX7_moved_92 : decode cX7_moved 92 = .ok (.iconst 0, 1) := by decide +kernel
theorem dX7_moved_93 : decode cX7_moved 93 = .ok (.ireturn, 1) := by decide +kernel
theorem dX7_moved_94 : decode cX7_moved 94 = .ok (.iinc 3 1, 3) := by decide +kernel
theorem dX7_moved_97 : decode cX7_moved 97 = .ok (.goto (-95), 3) := by decide +kernel
theorem dX7_moved_100 : decode cX7_moved 100 = .ok (.iload_n 2, 1) := by decide +kernel
theorem dX7_moved_101 : decode cX7_moved 101 = .ok (.iconst 2, 1) := by decide +kernel
theorem dX7_moved_102 : decode cX7_moved 102 = .ok (.irem, 1) := by decide +kernel
theorem dX7_moved_103 : decode cX7_moved 103 = .ok (.ifCond .ne 7, 3) := by decide +kernel
theorem dX7_moved_106 : decode cX7_moved 106 = .ok (.iconst 1, 1) := by decide +kernel
theorem dX7_moved_107 : decode cX7_moved 107 = .ok (.goto 7, 3) := by decide +kernel
theorem dX7_moved_110 : decode cX7_moved 110 = .ok (.aload_n 0, 1) := by decide +kernel
theorem dX7_moved_111 : decode cX7_moved 111 = .ok (.getfield 74, 3) := by decide +kernel
theorem dX7_moved_114 : decode cX7_moved 114 = .ok (.istore_n 3, 1) := by decide +kernel
theorem dX7_moved_115 : decode cX7_moved 115 = .ok (.iload_n 2, 1) := by decide +kernel
theorem dX7_moved_116 : decode cX7_moved 116 = .ok (.iconst 2, 1) := by decide +kernel
theorem dX7_moved_117 : decode cX7_moved 117 = .ok (.if_icmp .ge 9, 3) := by decide +kernel
theorem dX7_moved_120 : decode cX7_moved 120 = .ok (.iload_n 1, 1) := by decide +kernel
theorem dX7_moved_121 : decode cX7_moved 121 = .ok (.iload_n 3, 1) := by decide +kernel
theorem dX7_moved_122 : decode cX7_moved 122 = .ok (.ishl, 1) := by decide +kernel
theorem dX7_moved_123 : decode cX7_moved 123 = .ok (.goto 6, 3) := by decide +kernel
theorem dX7_moved_126 : decode cX7_moved 126 = .ok (.iload_n 1, 1) := by decide +kernel
theorem dX7_moved_127 : decode cX7_moved 127 = .ok (.iload_n 3, 1) := by decide +kernel
theorem dX7_moved_128 : decode cX7_moved 128 = .ok (.ishr, 1) := by decide +kernel
theorem dX7_moved_129 : decode cX7_moved 129 = .ok (.ireturn, 1) := by decide +kernel
theorem dX7_stepped_0 : decode cX7_stepped 0 = .ok (.aload_n 0, 1) := by decide +kernel
theorem dX7_stepped_1 : decode cX7_stepped 1 = .ok (.aload_n 1, 1) := by decide +kernel
theorem dX7_stepped_2 : decode cX7_stepped 2 = .ok (.iload_n 2, 1) := by decide +kernel
theorem dX7_stepped_3 : decode cX7_stepped 3 = .ok (.iaload, 1) := by decide +kernel
theorem dX7_stepped_4 : decode cX7_stepped 4 = .ok (.iload_n 3, 1) := by decide +kernel
theorem dX7_stepped_5 : decode cX7_stepped 5 = .ok (.invokevirtual 110, 3) := by decide +kernel
theorem dX7_stepped_8 : decode cX7_stepped 8 = .ok (.istore 4, 2) := by decide +kernel
theorem dX7_stepped_10 : decode cX7_stepped 10 = .ok (.aload_n 0, 1) := by decide +kernel
theorem dX7_stepped_11 : decode cX7_stepped 11 = .ok (.getfield 87, 3) := by decide +kernel
theorem dX7_stepped_14 : decode cX7_stepped 14 = .ok (.istore 5, 2) := by decide +kernel
theorem dX7_stepped_16 : decode cX7_stepped 16 = .ok (.iconst 0, 1) := by decide +kernel
theorem dX7_stepped_17 : decode cX7_stepped 17 = .ok (.istore 6, 2) := by decide +kernel
theorem dX7_stepped_19 : decode cX7_stepped 19 = .ok (.iload 6, 2) := by decide +kernel
theorem dX7_stepped_21 : decode cX7_stepped 21 = .ok (.aload_n 0, 1) := by decide +kernel
theorem dX7_stepped_22 : decode cX7_stepped 22 = .ok (.getfield 84, 3) := by decide +kernel
theorem dX7_stepped_25 : decode cX7_stepped 25 = .ok (.if_icmp .ge 28, 3) := by decide +kernel
theorem dX7_stepped_28 : decode cX7_stepped 28 = .ok (.iload 5, 2) := by decide +kernel
theorem dX7_stepped_30 : decode cX7_stepped 30 = .ok (.iload 6, 2) := by decide +kernel
theorem dX7_stepped_32 : decode cX7_stepped 32 = .ok (.iload_n 2, 1) := by decide +kernel
theorem dX7_stepped_33 : decode cX7_stepped 33 = .ok (.if_icmp .ne 7, 3) := by decide +kernel
theorem dX7_stepped_36 : decode cX7_stepped 36 = .ok (.iconst 0, 1) := by decide +kernel
theorem dX7_stepped_37 : decode cX7_stepped 37 = .ok (.goto 7, 3) := by decide +kernel
theorem dX7_stepped_40 : decode cX7_stepped 40 = .ok (.aload_n 1, 1) := by decide +kernel
theorem dX7_stepped_41 : decode cX7_stepped 41 = .ok (.iload 6, 2) := by decide +kernel
theorem dX7_stepped_43 : decode cX7_stepped 43 = .ok (.iaload, 1) := by decide +kernel
theorem dX7_stepped_44 : decode cX7_stepped 44 = .ok (.ior, 1) := by decide +kernel
theorem dX7_stepped_45 : decode cX7_stepped 45 = .ok (.istore 5, 2) := by decide +kernel
theorem dX7_stepped_47 : decode cX7_stepped 47 = .ok (.iinc 6 1, 3) := by decide +kernel
theorem dX7_stepped_50 : decode cX7_stepped 50 = .ok (.goto (-31), 3) := by decide +kernel
theorem dX7_stepped_53 : decode cX7_stepped 53 = .ok (.iload 4, 2) := by decide +kernel
theorem dX7_stepped_55 : decode cX7_stepped 55 = .ok (.iload 5, 2) := by decide +kernel
theorem dX7_stepped_57 : decode cX7_stepped 57 = .ok (.iand, 1) := by decide +kernel
theorem dX7_stepped_58 : decode cX7_stepped 58 = .ok (.ifCond .eq 7, 3) := by decide +kernel
theorem dX7_stepped_61 : decode cX7_stepped 61 = .ok (.iconst 0, 1) := by decide +kernel
theorem dX7_stepped_62 : decode cX7_stepped 62 = .ok (.goto 5, 3) := by decide +kernel
theorem dX7_stepped_65 : decode cX7_stepped 65 = .ok (.iload 4, 2) := by decide +kernel
theorem dX7_stepped_67 : decode cX7_stepped 67 = .ok (.ireturn, 1) := by decide +kernel
theorem dX7_slide_0 : decode cX7_slide 0 = .ok (.aload_n 0, 1) := by decide +kernel
theorem dX7_slide_1 : decode cX7_slide 1 = .ok (.iconst 1, 1) := by decide +kernel
theorem dX7_slide_2 : decode cX7_slide 2 = .ok (.aload_n 0, 1) := by decide +kernel
theorem dX7_slide_3 : decode cX7_slide 3 = .ok (.iload_n 1, 1) := by decide +kernel
theorem dX7_slide_4 : decode cX7_slide 4 = .ok (.invokevirtual 102, 3) := by decide +kernel
theorem dX7_slide_7 : decode cX7_slide 7 = .ok (.ifCond .eq 12, 3) := by decide +kernel
theorem dX7_slide_10 : decode cX7_slide 10 = .ok (.iload_n 2, 1) := by decide +kernel
theorem dX7_slide_11 : decode cX7_slide 11 = .ok (.ifCond .lt 8, 3) := by decide +kernel
theorem dX7_slide_14 : decode cX7_slide 14 = .ok (.iload_n 2, 1) := by decide +kernel
theorem dX7_slide_15 : decode cX7_slide 15 = .ok (.iconst 3, 1) := by decide +kernel
theorem dX7_slide_16 : decode cX7_slide 16 = .ok (.if_icmp .le 7, 3) := by decide +kernel
theorem dX7_slide_19 : decode cX7_slide 19 = .ok (.iconst 1, 1) := by decide +kernel
theorem dX7_slide_20 : decode cX7_slide 20 = .ok (.goto 4, 3) := by decide +kernel
theorem dX7_slide_23 : decode cX7_slide 23 = .ok (.iconst 0, 1) := by decide +kernel
theorem dX7_slide_24 : decode cX7_slide 24 = .ok (.invokevirtual 94, 3) := by decide +kernel
theorem dX7_slide_27 : decode cX7_slide 27 = .ok (.ifCond .eq 5, 3) := by decide +kernel
theorem dX7_slide_30 : decode cX7_slide 30 = .ok (.iconst 0, 1) := by decide +kernel
theorem dX7_slide_31 : decode cX7_slide 31 = .ok (.ireturn, 1) := by decide +kernel
theorem dX7_slide_32 : decode cX7_slide 32 = .ok (.iconst 0, 1) := by decide +kernel
theorem dX7_slide_33 : decode cX7_slide 33 = .ok (.istore 4, 2) := by decide +kernel
theorem dX7_slide_35 : decode cX7_slide 35 = .ok (.iload 4, 2) := by decide +kernel
theorem dX7_slide_37 : decode cX7_slide 37 = .ok (.iload_n 3, 1) := by decide +kernel
theorem dX7_slide_38 : decode cX7_slide 38 = .ok (.if_icmp .ge 7, 3) := by decide +kernel
theorem dX7_slide_41 : decode cX7_slide 41 = .ok (.iconst 1, 1) := by decide +kernel
theorem dX7_slide_42 : decode cX7_slide 42 = .ok (.goto 4, 3) := by decide +kernel
theorem dX7_slide_45 : decode cX7_slide 45 = .ok (.iconst 0, 1) := by decide +kernel
theorem dX7_slide_46 : decode cX7_slide 46 = .ok (.istore 5, 2) := by decide +kernel
theorem dX7_slide_48 : decode cX7_slide 48 = .ok (.iload 5, 2) := by decide +kernel
theorem dX7_slide_50 : decode cX7_slide 50 = .ok (.ifCond .eq 62, 3) := by decide +kernel
theorem dX7_slide_53 : decode cX7_slide 53 = .ok (.aload_n 0, 1) := by decide +kernel
theorem dX7_slide_54 : decode cX7_slide 54 = .ok (.aload_n 0, 1) := by decide +kernel
theorem dX7_slide_55 : decode cX7_slide 55 = .ok (.getfield 13, 3) := by decide +kernel
theorem dX7_slide_58 : decode cX7_slide 58 = .ok (.iload_n 1, 1) := by decide +kernel
theorem dX7_slide_59 : decode cX7_slide 59 = .ok (.iload_n 2, 1) := by decide +kernel
theorem dX7_slide_60 : decode cX7_slide 60 = .ok (.invokevirtual 114, 3) := by decide +kernel
theorem dX7_slide_63 : decode cX7_slide 63 = .ok (.istore 6, 2) := by decide +kernel
theorem dX7_slide_65 : decode cX7_slide 65 = .ok (.iload 6, 2) := by decide +kernel
theorem dX7_slide_67 : decode cX7_slide 67 = .ok (.ifCond .eq 7, 3) := by decide +kernel
theorem dX7_slide_70 : decode cX7_slide 70 = .ok (.iconst 1, 1) := by decide +kernel
theorem dX7_slide_71 : decode cX7_slide 71 = .ok (.goto 4, 3) := by decide +kernel
theorem dX7_slide_74 : decode cX7_slide 74 = .ok (.iconst 0, 1) := by decide +kernel
theorem dX7_slide_75 : decode cX7_slide 75 = .ok (.istore 5, 2) := by decide +kernel
theorem dX7_slide_77 : decode cX7_slide 77 = .ok (.iload 5, 2) := by decide +kernel
theorem dX7_slide_79 : decode cX7_slide 79 = .ok (.ifCond .ne 6, 3) := by decide +kernel
theorem dX7_slide_82 : decode cX7_slide 82 = .ok (.goto (-34), 3) := by decide +kernel
theorem dX7_slide_85 : decode cX7_slide 85 = .ok (.aload_n 0, 1) := by decide +kernel
theorem dX7_slide_86 : decode cX7_slide 86 = .ok (.getfield 13, 3) := by decide +kernel
theorem dX7_slide_89 : decode cX7_slide 89 = .ok (.iload_n 1, 1) := by decide +kernel
theorem dX7_slide_90 : decode cX7_slide 90 = .ok (.iload 6, 2) := by decide +kernel
theorem dX7_slide_92 : decode cX7_slide 92 = .ok (.iastore, 1) := by decide +kernel
theorem dX7_slide_93 : decode cX7_slide 93 = .ok (.iinc 4 1, 3) := by decide +kernel
theorem dX7_slide_96 : decode cX7_slide 96 = .ok (.iload 4, 2) := by decide +kernel
theorem dX7_slide_98 : decode cX7_slide 98 = .ok (.iload_n 3, 1) := by decide +kernel
theorem dX7_slide_99 : decode cX7_slide 99 = .ok (.if_icmp .ge 7, 3) := by decide +kernel
theorem dX7_slide_102 : decode cX7_slide 102 = .ok (.iconst 1, 1) := by decide +kernel
theorem dX7_slide_103 : decode cX7_slide 103 = .ok (.goto 4, 3) := by decide +kernel
theorem dX7_slide_106 : decode cX7_slide 106 = .ok (.iconst 0, 1) := by decide +kernel
theorem dX7_slide_107 : decode cX7_slide 107 = .ok (.istore 5, 2) := by decide +kernel
theorem dX7_slide_109 : decode cX7_slide 109 = .ok (.goto (-61), 3) := by decide +kernel
theorem dX7_slide_112 : decode cX7_slide 112 = .ok (.iload 4, 2) := by decide +kernel
theorem dX7_slide_114 : decode cX7_slide 114 = .ok (.ireturn, 1) := by decide +kernel
theorem dX7_goal_0 : decode cX7_goal 0 = .ok (.aload_n 0, 1) := by decide +kernel
theorem dX7_goal_1 : decode cX7_goal 1 = .ok (.iconst 1, 1) := by decide +kernel
theorem dX7_goal_2 : decode cX7_goal 2 = .ok (.aload_n 0, 1) := by decide +kernel
theorem dX7_goal_3 : decode cX7_goal 3 = .ok (.iload_n 1, 1) := by decide +kernel
theorem dX7_goal_4 : decode cX7_goal 4 = .ok (.invokevirtual 102, 3) := by decide +kernel
theorem dX7_goal_7 : decode cX7_goal 7 = .ok (.ifCond .eq 12, 3) := by decide +kernel
theorem dX7_goal_10 : decode cX7_goal 10 = .ok (.aload_n 0, 1) := by decide +kernel
theorem dX7_goal_11 : decode cX7_goal 11 = .ok (.iload_n 2, 1) := by decide +kernel
theorem dX7_goal_12 : decode cX7_goal 12 = .ok (.iload_n 3, 1) := by decide +kernel
theorem dX7_goal_13 : decode cX7_goal 13 = .ok (.invokevirtual 90, 3) := by decide +kernel
theorem dX7_goal_16 : decode cX7_goal 16 = .ok (.ifCond .ne 7, 3) := by decide +kernel
theorem dX7_goal_19 : decode cX7_goal 19 = .ok (.iconst 1, 1) := by decide +kernel
theorem dX7_goal_20 : decode cX7_goal 20 = .ok (.goto 4, 3) := by decide +kernel
theorem dX7_goal_23 : decode cX7_goal 23 = .ok (.iconst 0, 1) := by decide +kernel
theorem dX7_goal_24 : decode cX7_goal 24 = .ok (.invokevirtual 94, 3) := by decide +kernel
theorem dX7_goal_27 : decode cX7_goal 27 = .ok (.ifCond .eq 5, 3) := by decide +kernel
theorem dX7_goal_30 : decode cX7_goal 30 = .ok (.iconst 0, 1) := by decide +kernel
theorem dX7_goal_31 : decode cX7_goal 31 = .ok (.ireturn, 1) := by decide +kernel
theorem dX7_goal_32 : decode cX7_goal 32 = .ok (.aload_n 0, 1) := by decide +kernel
theorem dX7_goal_33 : decode cX7_goal 33 = .ok (.iload_n 1, 1) := by decide +kernel
theorem dX7_goal_34 : decode cX7_goal 34 = .ok (.iload_n 2, 1) := by decide +kernel
theorem dX7_goal_35 : decode cX7_goal 35 = .ok (.iload_n 3, 1) := by decide +kernel
theorem dX7_goal_36 : decode cX7_goal 36 = .ok (.invokevirtual 118, 3) := by decide +kernel
theorem dX7_goal_39 : decode cX7_goal 39 = .ok (.ireturn, 1) := by decide +kernel
theorem dX7_kindGoal_0 : decode cX7_kindGoal 0 = .ok (.aload_n 0, 1) := by decide +kernel
theorem dX7_kindGoal_1 : decode cX7_kindGoal 1 = .ok (.iconst 1, 1) := by decide +kernel
theorem dX7_kindGoal_2 : decode cX7_kindGoal 2 = .ok (.aload_n 0, 1) := by decide +kernel
theorem dX7_kindGoal_3 : decode cX7_kindGoal 3 = .ok (.iload_n 2, 1) := by decide +kernel
theorem dX7_kindGoal_4 : decode cX7_kindGoal 4 = .ok (.iload_n 3, 1) := by decide +kernel
theorem dX7_kindGoal_5 : decode cX7_kindGoal 5 = .ok (.invokevirtual 90, 3) := by decide +kernel
theorem dX7_kindGoal_8 : decode cX7_kindGoal 8 = .ok (.ifCond .ne 7, 3) := by decide +kernel
theorem dX7_kindGoal_11 : decode cX7_kindGoal 11 = .ok (.iconst 1, 1) := by decide +kernel
theorem dX7_kindGoal_12 : decode cX7_kindGoal 12 = .ok (.goto 4, 3) := by decide +kernel
theorem dX7_kindGoal_15 : decode cX7_kindGoal 15 = .ok (.iconst 0, 1) := by decide +kernel
theorem dX7_kindGoal_16 : decode cX7_kindGoal 16 = .ok (.invokevirtual 94, 3) := by decide +kernel
theorem dX7_kindGoal_19 : decode cX7_kindGoal 19 = .ok (.ifCond .ne 26, 3) := by decide +kernel
theorem dX7_kindGoal_22 : decode cX7_kindGoal 22 = .ok (.aload_n 0, 1) := by decide +kernel
theorem dX7_kindGoal_23 : decode cX7_kindGoal 23 = .ok (.iconst 2, 1) := by decide +kernel
theorem dX7_kindGoal_24 : decode cX7_kindGoal 24 = .ok (.iload_n 1, 1) := by decide +kernel
theorem dX7_kindGoal_25 : decode cX7_kindGoal 25 = .ok (.ifCond .lt 9, 3) := by decide +kernel
theorem dX7_kindGoal_28 : decode cX7_kindGoal 28 = .ok (.iload_n 1, 1) := by decide +kernel
theorem dX7_kindGoal_29 : decode cX7_kindGoal 29 = .ok (.bipush 25, 2) := by decide +kernel
theorem dX7_kindGoal_31 : decode cX7_kindGoal 31 = .ok (.if_icmp .le 7, 3) := by decide +kernel
theorem dX7_kindGoal_34 : decode cX7_kindGoal 34 = .ok (.iconst 1, 1) := by decide +kernel
theorem dX7_kindGoal_35 : decode cX7_kindGoal 35 = .ok (.goto 4, 3) := by decide +kernel
theorem dX7_kindGoal_38 : decode cX7_kindGoal 38 = .ok (.iconst 0, 1) := by decide +kernel
theorem dX7_kindGoal_39 : decode cX7_kindGoal 39 = .ok (.invokevirtual 94, 3) := by decide +kernel
theorem dX7_kindGoal_42 : decode cX7_kindGoal 42 = .ok (.ifCond .eq 5, 3) := by decide +kernel
theorem dX7_kindGoal_45 : decode cX7_kindGoal 45 = .ok (.iconst 0, 1) := by decide +kernel
theorem dX7_kindGoal_46 : decode cX7_kindGoal 46 = .ok (.ireturn, 1) := by decide +kernel
theorem dX7_kindGoal_47 : decode cX7_kindGoal 47 = .ok (.aload_n 0, 1) := by decide +kernel
theorem dX7_kindGoal_48 : decode cX7_kindGoal 48 = .ok (.bipush 100, 2) := by decide +kernel
theorem dX7_kindGoal_50 : decode cX7_kindGoal 50 = .ok (.iload_n 1, 1) := by decide +kernel
theorem dX7_kindGoal_51 : decode cX7_kindGoal 51 = .ok (.iadd, 1) := by decide +kernel
theorem dX7_kindGoal_52 : decode cX7_kindGoal 52 = .ok (.iload_n 2, 1) := by decide +kernel
theorem dX7_kindGoal_53 : decode cX7_kindGoal 53 = .ok (.iload_n 3, 1) := by decide +kernel
theorem dX7_kindGoal_54 : decode cX7_kindGoal 54 = .ok (.invokevirtual 118, 3) := by decide +kernel
theorem dX7_kindGoal_57 : decode cX7_kindGoal 57 = .ok (.ireturn, 1) := by decide +kernel
theorem dX7_addGoal_0 : decode cX7_addGoal 0 = .ok (.aload_n 0, 1) := by decide +kernel
theorem dX7_addGoal_1 : decode cX7_addGoal 1 = .ok (.getfield 122, 3) := by decide +kernel
theorem dX7_addGoal_4 : decode cX7_addGoal 4 = .ok (.bipush 6, 2) := by decide +kernel
theorem dX7_addGoal_6 : decode cX7_addGoal 6 = .ok (.if_icmp .ne 5, 3) := by decide +kernel
theorem dX7_addGoal_9 : decode cX7_addGoal 9 = .ok (.iconst (-1), 1) := by decide +kernel
theorem dX7_addGoal_10 : decode cX7_addGoal 10 = .ok (.ireturn, 1) := by decide +kernel
theorem dX7_addGoal_11 : decode cX7_addGoal 11 = .ok (.aload_n 0, 1) := by decide +kernel
theorem dX7_addGoal_12 : decode cX7_addGoal 12 = .ok (.getfield 16, 3) := by decide +kernel
theorem dX7_addGoal_15 : decode cX7_addGoal 15 = .ok (.aload_n 0, 1) := by decide +kernel
theorem dX7_addGoal_16 : decode cX7_addGoal 16 = .ok (.getfield 122, 3) := by decide +kernel
theorem dX7_addGoal_19 : decode cX7_addGoal 19 = .ok (.iload_n 1, 1) := by decide +kernel
theorem dX7_addGoal_20 : decode cX7_addGoal 20 = .ok (.iastore, 1) := by decide +kernel
theorem dX7_addGoal_21 : decode cX7_addGoal 21 = .ok (.aload_n 0, 1) := by decide +kernel
theorem dX7_addGoal_22 : decode cX7_addGoal 22 = .ok (.getfield 19, 3) := by decide +kernel
theorem dX7_addGoal_25 : decode cX7_addGoal 25 = .ok (.aload_n 0, 1) := by decide +kernel
theorem dX7_addGoal_26 : decode cX7_addGoal 26 = .ok (.getfield 122, 3) := by decide +kernel
theorem dX7_addGoal_29 : decode cX7_addGoal 29 = .ok (.aload_n 0, 1) := by decide +kernel
theorem dX7_addGoal_30 : decode cX7_addGoal 30 = .ok (.getfield 74, 3) := by decide +kernel
theorem dX7_addGoal_33 : decode cX7_addGoal 33 = .ok (.iload_n 3, 1) := by decide +kernel
theorem dX7_addGoal_34 : decode cX7_addGoal 34 = .ok (.imul, 1) := by decide +kernel
theorem dX7_addGoal_35 : decode cX7_addGoal 35 = .ok (.iload_n 2, 1) := by decide +kernel
theorem dX7_addGoal_36 : decode cX7_addGoal 36 = .ok (.iadd, 1) := by decide +kernel
theorem dX7_addGoal_37 : decode cX7_addGoal 37 = .ok (.iastore, 1) := by decide +kernel
theorem dX7_addGoal_38 : decode cX7_addGoal 38 = .ok (.aload_n 0, 1) := by decide +kernel
theorem dX7_addGoal_39 : decode cX7_addGoal 39 = .ok (.dup, 1) := by decide +kernel
theorem dX7_addGoal_40 : decode cX7_addGoal 40 = .ok (.getfield 122, 3) := by decide +kernel
theorem dX7_addGoal_43 : decode cX7_addGoal 43 = .ok (.iconst 1, 1) := by decide +kernel
theorem dX7_addGoal_44 : decode cX7_addGoal 44 = .ok (.iadd, 1) := by decide +kernel
theorem dX7_addGoal_45 : decode cX7_addGoal 45 = .ok (.putfield 122, 3) := by decide +kernel
theorem dX7_addGoal_48 : decode cX7_addGoal 48 = .ok (.aload_n 0, 1) := by decide +kernel
theorem dX7_addGoal_49 : decode cX7_addGoal 49 = .ok (.getfield 122, 3) := by decide +kernel
theorem dX7_addGoal_52 : decode cX7_addGoal 52 = .ok (.iconst 1, 1) := by decide +kernel
theorem dX7_addGoal_53 : decode cX7_addGoal 53 = .ok (.isub, 1) := by decide +kernel
theorem dX7_addGoal_54 : decode cX7_addGoal 54 = .ok (.ireturn, 1) := by decide +kernel
theorem dX7_noGoals_0 : decode cX7_noGoals 0 = .ok (.aload_n 0, 1) := by decide +kernel
theorem dX7_noGoals_1 : decode cX7_noGoals 1 = .ok (.iconst 0, 1) := by decide +kernel
theorem dX7_noGoals_2 : decode cX7_noGoals 2 = .ok (.putfield 81, 3) := by decide +kernel
theorem dX7_noGoals_5 : decode cX7_noGoals 5 = .ok (.aload_n 0, 1) := by decide +kernel
theorem dX7_noGoals_6 : decode cX7_noGoals 6 = .ok (.getfield 122, 3) := by decide +kernel
theorem dX7_noGoals_9 : decode cX7_noGoals 9 = .ok (.istore_n 1, 1) := by decide +kernel
theorem dX7_noGoals_10 : decode cX7_noGoals 10 = .ok (.aload_n 0, 1) := by decide +kernel
theorem dX7_noGoals_11 : decode cX7_noGoals 11 = .ok (.iconst 0, 1) := by decide +kernel
theorem dX7_noGoals_12 : decode cX7_noGoals 12 = .ok (.putfield 122, 3) := by decide +kernel
theorem dX7_noGoals_15 : decode cX7_noGoals 15 = .ok (.iload_n 1, 1) := by decide +kernel
theorem dX7_noGoals_16 : decode cX7_noGoals 16 = .ok (.ireturn, 1) := by decide +kernel
theorem dX7_isMet_0 : decode cX7_isMet 0 = .ok (.iconst 0, 1) := by decide +kernel
theorem dX7_isMet_1 : decode cX7_isMet 1 = .ok (.istore_n 3, 1) := by decide +kernel
theorem dX7_isMet_2 : decode cX7_isMet 2 = .ok (.iload_n 3, 1) := by decide +kernel
theorem dX7_isMet_3 : decode cX7_isMet 3 = .ok (.aload_n 0, 1) := by decide +kernel
theorem dX7_isMet_4 : decode cX7_isMet 4 = .ok (.getfield 84, 3) := by decide +kernel
theorem dX7_isMet_7 : decode cX7_isMet 7 = .ok (.if_icmp .ge 54, 3) := by decide +kernel
theorem dX7_isMet_10 : decode cX7_isMet 10 = .ok (.aload_n 0, 1) := by decide +kernel
theorem dX7_isMet_11 : decode cX7_isMet 11 = .ok (.getfield 16, 3) := by decide +kernel
theorem dX7_isMet_14 : decode cX7_isMet 14 = .ok (.iload_n 1, 1) := by decide +kernel
theorem dX7_isMet_15 : decode cX7_isMet 15 = .ok (.iaload, 1) := by decide +kernel
theorem dX7_isMet_16 : decode cX7_isMet 16 = .ok (.iload_n 3, 1) := by decide +kernel
theorem dX7_isMet_17 : decode cX7_isMet 17 = .ok (.if_icmp .eq 21, 3) := by decide +kernel
theorem dX7_isMet_20 : decode cX7_isMet 20 = .ok (.aload_n 0, 1) := by decide +kernel
theorem dX7_isMet_21 : decode cX7_isMet 21 = .ok (.getfield 16, 3) := by decide +kernel
theorem dX7_isMet_24 : decode cX7_isMet 24 = .ok (.iload_n 1, 1) := by decide +kernel
theorem dX7_isMet_25 : decode cX7_isMet 25 = .ok (.iaload, 1) := by decide +kernel
theorem dX7_isMet_26 : decode cX7_isMet 26 = .ok (.bipush 100, 2) := by decide +kernel
theorem dX7_isMet_28 : decode cX7_isMet 28 = .ok (.aload_n 0, 1) := by decide +kernel
theorem dX7_isMet_29 : decode cX7_isMet 29 = .ok (.getfield 7, 3) := by decide +kernel
theorem dX7_isMet_32 : decode cX7_isMet 32 = .ok (.iload_n 3, 1) := by decide +kernel
theorem dX7_isMet_33 : decode cX7_isMet 33 = .ok (.iaload, 1) := by decide +kernel
theorem dX7_isMet_34 : decode cX7_isMet 34 = .ok (.iadd, 1) := by decide +kernel
theorem dX7_isMet_35 : decode cX7_isMet 35 = .ok (.if_icmp .ne 20, 3) := by decide +kernel
theorem dX7_isMet_38 : decode cX7_isMet 38 = .ok (.aload_n 2, 1) := by decide +kernel
theorem dX7_isMet_39 : decode cX7_isMet 39 = .ok (.iload_n 3, 1) := by decide +kernel
theorem dX7_isMet_40 : decode cX7_isMet 40 = .ok (.iaload, 1) := by decide +kernel
theorem dX7_isMet_41 : decode cX7_isMet 41 = .ok (.invokestatic 106, 3) := by decide +kernel
theorem dX7_isMet_44 : decode cX7_isMet 44 = .ok (.aload_n 0, 1) := by decide +kernel
theorem dX7_isMet_45 : decode cX7_isMet 45 = .ok (.getfield 19, 3) := by decide +kernel
theorem dX7_isMet_48 : decode cX7_isMet 48 = .ok (.iload_n 1, 1) := by decide +kernel
theorem dX7_isMet_49 : decode cX7_isMet 49 = .ok (.iaload, 1) := by decide +kernel
theorem dX7_isMet_50 : decode cX7_isMet 50 = .ok (.if_icmp .ne 5, 3) := by decide +kernel
theorem dX7_isMet_53 : decode cX7_isMet 53 = .ok (.iconst 1, 1) := by decide +kernel
theorem dX7_isMet_54 : decode cX7_isMet 54 = .ok (.ireturn, 1) := by decide +kernel
theorem dX7_isMet_55 : decode cX7_isMet 55 = .ok (.iinc 3 1, 3) := by decide +kernel
theorem dX7_isMet_58 : decode cX7_isMet 58 = .ok (.goto (-56), 3) := by decide +kernel
theorem dX7_isMet_61 : decode cX7_isMet 61 = .ok (.iconst 0, 1) := by decide +kernel
theorem dX7_isMet_62 : decode cX7_isMet 62 = .ok (.ireturn, 1) := by decide +kernel
theorem dX7_openIn_0 : decode cX7_openIn 0 = .ok (.iconst 0, 1) := by decide +kernel
theorem dX7_openIn_1 : decode cX7_openIn 1 = .ok (.istore_n 2, 1) := by decide +kernel
theorem dX7_openIn_2 : decode cX7_openIn 2 = .ok (.iload_n 2, 1) := by decide +kernel
theorem dX7_openIn_3 : decode cX7_openIn 3 = .ok (.aload_n 0, 1) := by decide +kernel
theorem dX7_openIn_4 : decode cX7_openIn 4 = .ok (.getfield 122, 3) := by decide +kernel
theorem dX7_openIn_7 : decode cX7_openIn 7 = .ok (.if_icmp .ge 20, 3) := by decide +kernel
theorem dX7_openIn_10 : decode cX7_openIn 10 = .ok (.aload_n 0, 1) := by decide +kernel
theorem dX7_openIn_11 : decode cX7_openIn 11 = .ok (.iload_n 2, 1) := by decide +kernel
theorem dX7_openIn_12 : decode cX7_openIn 12 = .ok (.aload_n 1, 1) := by decide +kernel
theorem dX7_openIn_13 : decode cX7_openIn 13 = .ok (.invokevirtual 125, 3) := by decide +kernel
theorem dX7_openIn_16 : decode cX7_openIn 16 = .ok (.ifCond .ne 5, 3) := by decide +kernel
theorem dX7_openIn_19 : decode cX7_openIn 19 = .ok (.iload_n 2, 1) := by decide +kernel
theorem dX7_openIn_20 : decode cX7_openIn 20 = .ok (.ireturn, 1) := by decide +kernel
theorem dX7_openIn_21 : decode cX7_openIn 21 = .ok (.iinc 2 1, 3) := by decide +kernel
theorem dX7_openIn_24 : decode cX7_openIn 24 = .ok (.goto (-22), 3) := by decide +kernel
theorem dX7_openIn_27 : decode cX7_openIn 27 = .ok (.iconst (-1), 1) := by decide +kernel
theorem dX7_openIn_28 : decode cX7_openIn 28 = .ok (.ireturn, 1) := by decide +kernel
theorem dX7_open_0 : decode cX7_open 0 = .ok (.aload_n 0, 1) := by decide +kernel
theorem dX7_open_1 : decode cX7_open 1 = .ok (.iconst 0, 1) := by decide +kernel
theorem dX7_open_2 : decode cX7_open 2 = .ok (.putfield 81, 3) := by decide +kernel
theorem dX7_open_5 : decode cX7_open 5 = .ok (.aload_n 0, 1) := by decide +kernel
theorem dX7_open_6 : decode cX7_open 6 = .ok (.aload_n 0, 1) := by decide +kernel
theorem dX7_open_7 : decode cX7_open 7 = .ok (.getfield 13, 3) := by decide +kernel
theorem dX7_open_10 : decode cX7_open 10 = .ok (.invokevirtual 129, 3) := by decide +kernel
theorem dX7_open_13 : decode cX7_open 13 = .ok (.ireturn, 1) := by decide +kernel
theorem dX7_isShape_0 : decode cX7_isShape 0 = .ok (.iload_n 1, 1) := by decide +kernel
theorem dX7_isShape_1 : decode cX7_isShape 1 = .ok (.ifCond .eq 7, 3) := by decide +kernel
theorem dX7_isShape_4 : decode cX7_isShape 4 = .ok (.iload_n 2, 1) := by decide +kernel
theorem dX7_isShape_5 : decode cX7_isShape 5 = .ok (.ifCond .ne 14, 3) := by decide +kernel
theorem dX7_isShape_8 : decode cX7_isShape 8 = .ok (.iload_n 1, 1) := by decide +kernel
theorem dX7_isShape_9 : decode cX7_isShape 9 = .ok (.iload_n 2, 1) := by decide +kernel
theorem dX7_isShape_10 : decode cX7_isShape 10 = .ok (.if_icmp .ne 7, 3) := by decide +kernel
theorem dX7_isShape_13 : decode cX7_isShape 13 = .ok (.iconst 1, 1) := by decide +kernel
theorem dX7_isShape_14 : decode cX7_isShape 14 = .ok (.goto 4, 3) := by decide +kernel
theorem dX7_isShape_17 : decode cX7_isShape 17 = .ok (.iconst 0, 1) := by decide +kernel
theorem dX7_isShape_18 : decode cX7_isShape 18 = .ok (.ireturn, 1) := by decide +kernel
theorem dX7_isShape_19 : decode cX7_isShape 19 = .ok (.iload_n 1, 1) := by decide +kernel
theorem dX7_isShape_20 : decode cX7_isShape 20 = .ok (.invokestatic 106, 3) := by decide +kernel
theorem dX7_isShape_23 : decode cX7_isShape 23 = .ok (.istore_n 3, 1) := by decide +kernel
theorem dX7_isShape_24 : decode cX7_isShape 24 = .ok (.iload_n 2, 1) := by decide +kernel
theorem dX7_isShape_25 : decode cX7_isShape 25 = .ok (.invokestatic 106, 3) := by decide +kernel
theorem dX7_isShape_28 : decode cX7_isShape 28 = .ok (.istore 4, 2) := by decide +kernel
theorem dX7_isShape_30 : decode cX7_isShape 30 = .ok (.aload_n 0, 1) := by decide +kernel
theorem dX7_isShape_31 : decode cX7_isShape 31 = .ok (.getfield 78, 3) := by decide +kernel
theorem dX7_isShape_34 : decode cX7_isShape 34 = .ok (.ineg, 1) := by decide +kernel
theorem dX7_isShape_35 : decode cX7_isShape 35 = .ok (.istore 5, 2) := by decide +kernel
theorem dX7_isShape_37 : decode cX7_isShape 37 = .ok (.iload 5, 2) := by decide +kernel
theorem dX7_isShape_39 : decode cX7_isShape 39 = .ok (.aload_n 0, 1) := by decide +kernel
theorem dX7_isShape_40 : decode cX7_isShape 40 = .ok (.getfield 78, 3) := by decide +kernel
theorem dX7_isShape_43 : decode cX7_isShape 43 = .ok (.if_icmp .gt 57, 3) := by decide +kernel
theorem dX7_isShape_46 : decode cX7_isShape 46 = .ok (.aload_n 0, 1) := by decide +kernel
theorem dX7_isShape_47 : decode cX7_isShape 47 = .ok (.getfield 74, 3) := by decide +kernel
theorem dX7_isShape_50 : decode cX7_isShape 50 = .ok (.ineg, 1) := by decide +kernel
theorem dX7_isShape_51 : decode cX7_isShape 51 = .ok (.istore 6, 2) := by decide +kernel
theorem dX7_isShape_53 : decode cX7_isShape 53 = .ok (.iload 6, 2) := by decide +kernel
theorem dX7_isShape_55 : decode cX7_isShape 55 = .ok (.aload_n 0, 1) := by decide +kernel
theorem dX7_isShape_56 : decode cX7_isShape 56 = .ok (.getfield 74, 3) := by decide +kernel
theorem dX7_isShape_59 : decode cX7_isShape 59 = .ok (.if_icmp .gt 35, 3) := by decide +kernel
theorem dX7_isShape_62 : decode cX7_isShape 62 = .ok (.aload_n 0, 1) := by decide +kernel
theorem dX7_isShape_63 : decode cX7_isShape 63 = .ok (.iload_n 1, 1) := by decide +kernel
theorem dX7_isShape_64 : decode cX7_isShape 64 = .ok (.iload_n 3, 1) := by decide +kernel
theorem dX7_isShape_65 : decode cX7_isShape 65 = .ok (.iload 6, 2) := by decide +kernel
theorem dX7_isShape_67 : decode cX7_isShape 67 = .ok (.iload 5, 2) := by decide +kernel
theorem dX7_isShape_69 : decode cX7_isShape 69 = .ok (.invokevirtual 133, 3) := by decide +kernel
theorem dX7_isShape_72 : decode cX7_isShape 72 = .ok (.aload_n 0, 1) := by decide +kernel
theorem dX7_isShape_73 : decode cX7_isShape 73 = .ok (.iload_n 2, 1) := by decide +kernel
theorem dX7_isShape_74 : decode cX7_isShape 74 = .ok (.iload 4, 2) := by decide +kernel
theorem dX7_isShape_76 : decode cX7_isShape 76 = .ok (.iload 6, 2) := by decide +kernel
theorem dX7_isShape_78 : decode cX7_isShape 78 = .ok (.iload 5, 2) := by decide +kernel
theorem dX7_isShape_80 : decode cX7_isShape 80 = .ok (.invokevirtual 133, 3) := by decide +kernel
theorem dX7_isShape_83 : decode cX7_isShape 83 = .ok (.if_icmp .eq 5, 3) := by decide +kernel
theorem dX7_isShape_86 : decode cX7_isShape 86 = .ok (.iconst 0, 1) := by decide +kernel
theorem dX7_isShape_87 : decode cX7_isShape 87 = .ok (.ireturn, 1) := by decide +kernel
theorem dX7_isShape_88 : decode cX7_isShape 88 = .ok (.iinc 6 1, 3) := by decide +kernel
theorem dX7_isShape_91 : decode cX7_isShape 91 = .ok (.goto (-38), 3) := by decide +kernel
theorem dX7_isShape_94 : decode cX7_isShape 94 = .ok (.iinc 5 1, 3) := by decide +kernel
theorem dX7_isShape_97 : decode cX7_isShape 97 = .ok (.goto (-60), 3) := by decide +kernel
theorem dX7_isShape_100 : decode cX7_isShape 100 = .ok (.iconst 1, 1) := by decide +kernel
theorem dX7_isShape_101 : decode cX7_isShape 101 = .ok (.ireturn, 1) := by decide +kernel
theorem dX7_isIn_0 : decode cX7_isIn 0 = .ok (.iload_n 2, 1) := by decide +kernel
theorem dX7_isIn_1 : decode cX7_isIn 1 = .ok (.aload_n 0, 1) := by decide +kernel
theorem dX7_isIn_2 : decode cX7_isIn 2 = .ok (.getfield 74, 3) := by decide +kernel
theorem dX7_isIn_5 : decode cX7_isIn 5 = .ok (.irem, 1) := by decide +kernel
theorem dX7_isIn_6 : decode cX7_isIn 6 = .ok (.iload_n 3, 1) := by decide +kernel
theorem dX7_isIn_7 : decode cX7_isIn 7 = .ok (.iadd, 1) := by decide +kernel
theorem dX7_isIn_8 : decode cX7_isIn 8 = .ok (.istore 5, 2) := by decide +kernel
theorem dX7_isIn_10 : decode cX7_isIn 10 = .ok (.iload_n 2, 1) := by decide +kernel
theorem dX7_isIn_11 : decode cX7_isIn 11 = .ok (.aload_n 0, 1) := by decide +kernel
theorem dX7_isIn_12 : decode cX7_isIn 12 = .ok (.getfield 74, 3) := by decide +kernel
theorem dX7_isIn_15 : decode cX7_isIn 15 = .ok (.idiv, 1) := by decide +kernel
theorem dX7_isIn_16 : decode cX7_isIn 16 = .ok (.iload 4, 2) := by decide +kernel
theorem dX7_isIn_18 : decode cX7_isIn 18 = .ok (.iadd, 1) := by decide +kernel
theorem dX7_isIn_19 : decode cX7_isIn 19 = .ok (.istore 6, 2) := by decide +kernel
theorem dX7_isIn_21 : decode cX7_isIn 21 = .ok (.aload_n 0, 1) := by decide +kernel
theorem dX7_isIn_22 : decode cX7_isIn 22 = .ok (.iload 5, 2) := by decide +kernel
theorem dX7_isIn_24 : decode cX7_isIn 24 = .ok (.iload 6, 2) := by decide +kernel
theorem dX7_isIn_26 : decode cX7_isIn 26 = .ok (.invokevirtual 90, 3) := by decide +kernel
theorem dX7_isIn_29 : decode cX7_isIn 29 = .ok (.ifCond .eq 25, 3) := by decide +kernel
theorem dX7_isIn_32 : decode cX7_isIn 32 = .ok (.iload_n 1, 1) := by decide +kernel
theorem dX7_isIn_33 : decode cX7_isIn 33 = .ok (.aload_n 0, 1) := by decide +kernel
theorem dX7_isIn_34 : decode cX7_isIn 34 = .ok (.getfield 74, 3) := by decide +kernel
theorem dX7_isIn_37 : decode cX7_isIn 37 = .ok (.iload 6, 2) := by decide +kernel
theorem dX7_isIn_39 : decode cX7_isIn 39 = .ok (.imul, 1) := by decide +kernel
theorem dX7_isIn_40 : decode cX7_isIn 40 = .ok (.iload 5, 2) := by decide +kernel
theorem dX7_isIn_42 : decode cX7_isIn 42 = .ok (.iadd, 1) := by decide +kernel
theorem dX7_isIn_43 : decode cX7_isIn 43 = .ok (.ishr, 1) := by decide +kernel
theorem dX7_isIn_44 : decode cX7_isIn 44 = .ok (.iconst 1, 1) := by decide +kernel
theorem dX7_isIn_45 : decode cX7_isIn 45 = .ok (.iand, 1) := by decide +kernel
theorem dX7_isIn_46 : decode cX7_isIn 46 = .ok (.iconst 1, 1) := by decide +kernel
theorem dX7_isIn_47 : decode cX7_isIn 47 = .ok (.if_icmp .ne 7, 3) := by decide +kernel
theorem dX7_isIn_50 : decode cX7_isIn 50 = .ok (.iconst 1, 1) := by decide +kernel
theorem dX7_isIn_51 : decode cX7_isIn 51 = .ok (.goto 4, 3) := by decide +kernel
theorem dX7_isIn_54 : decode cX7_isIn 54 = .ok (.iconst 0, 1) := by decide +kernel
theorem dX7_isIn_55 : decode cX7_isIn 55 = .ok (.ireturn, 1) := by decide +kernel
theorem dX7_liken_0 : decode cX7_liken 0 = .ok (.iconst 0, 1) := by decide +kernel
theorem dX7_liken_1 : decode cX7_liken 1 = .ok (.istore_n 1, 1) := by decide +kernel
theorem dX7_liken_2 : decode cX7_liken 2 = .ok (.iload_n 1, 1) := by decide +kernel
theorem dX7_liken_3 : decode cX7_liken 3 = .ok (.aload_n 0, 1) := by decide +kernel
theorem dX7_liken_4 : decode cX7_liken 4 = .ok (.getfield 84, 3) := by decide +kernel
theorem dX7_liken_7 : decode cX7_liken 7 = .ok (.if_icmp .ge 71, 3) := by decide +kernel
theorem dX7_liken_10 : decode cX7_liken 10 = .ok (.aload_n 0, 1) := by decide +kernel
theorem dX7_liken_11 : decode cX7_liken 11 = .ok (.getfield 39, 3) := by decide +kernel
theorem dX7_liken_14 : decode cX7_liken 14 = .ok (.iload_n 1, 1) := by decide +kernel
theorem dX7_liken_15 : decode cX7_liken 15 = .ok (.iload_n 1, 1) := by decide +kernel
theorem dX7_liken_16 : decode cX7_liken 16 = .ok (.iastore, 1) := by decide +kernel
theorem dX7_liken_17 : decode cX7_liken 17 = .ok (.iload_n 1, 1) := by decide +kernel
theorem dX7_liken_18 : decode cX7_liken 18 = .ok (.iconst 1, 1) := by decide +kernel
theorem dX7_liken_19 : decode cX7_liken 19 = .ok (.isub, 1) := by decide +kernel
theorem dX7_liken_20 : decode cX7_liken 20 = .ok (.istore_n 2, 1) := by decide +kernel
theorem dX7_liken_21 : decode cX7_liken 21 = .ok (.iload_n 2, 1) := by decide +kernel
theorem dX7_liken_22 : decode cX7_liken 22 = .ok (.ifCond .lt 50, 3) := by decide +kernel
theorem dX7_liken_25 : decode cX7_liken 25 = .ok (.aload_n 0, 1) := by decide +kernel
theorem dX7_liken_26 : decode cX7_liken 26 = .ok (.getfield 7, 3) := by decide +kernel
theorem dX7_liken_29 : decode cX7_liken 29 = .ok (.iload_n 2, 1) := by decide +kernel
theorem dX7_liken_30 : decode cX7_liken 30 = .ok (.iaload, 1) := by decide +kernel
theorem dX7_liken_31 : decode cX7_liken 31 = .ok (.aload_n 0, 1) := by decide +kernel
theorem dX7_liken_32 : decode cX7_liken 32 = .ok (.getfield 7, 3) := by decide +kernel
theorem dX7_liken_35 : decode cX7_liken 35 = .ok (.iload_n 1, 1) := by decide +kernel
theorem dX7_liken_36 : decode cX7_liken 36 = .ok (.iaload, 1) := by decide +kernel
theorem dX7_liken_37 : decode cX7_liken 37 = .ok (.if_icmp .ne 29, 3) := by decide +kernel
theorem dX7_liken_40 : decode cX7_liken 40 = .ok (.aload_n 0, 1) := by decide +kernel
theorem dX7_liken_41 : decode cX7_liken 41 = .ok (.aload_n 0, 1) := by decide +kernel
theorem dX7_liken_42 : decode cX7_liken 42 = .ok (.getfield 13, 3) := by decide +kernel
theorem dX7_liken_45 : decode cX7_liken 45 = .ok (.iload_n 2, 1) := by decide +kernel
theorem dX7_liken_46 : decode cX7_liken 46 = .ok (.iaload, 1) := by decide +kernel
theorem dX7_liken_47 : decode cX7_liken 47 = .ok (.aload_n 0, 1) := by decide +kernel
theorem dX7_liken_48 : decode cX7_liken 48 = .ok (.getfield 13, 3) := by decide +kernel
theorem dX7_liken_51 : decode cX7_liken 51 = .ok (.iload_n 1, 1) := by decide +kernel
theorem dX7_liken_52 : decode cX7_liken 52 = .ok (.iaload, 1) := by decide +kernel
theorem dX7_liken_53 : decode cX7_liken 53 = .ok (.invokevirtual 137, 3) := by decide +kernel
theorem dX7_liken_56 : decode cX7_liken 56 = .ok (.ifCond .eq 10, 3) := by decide +kernel
theorem dX7_liken_59 : decode cX7_liken 59 = .ok (.aload_n 0, 1) := by decide +kernel
theorem dX7_liken_60 : decode cX7_liken 60 = .ok (.getfield 39, 3) := by decide +kernel
theorem dX7_liken_63 : decode cX7_liken 63 = .ok (.iload_n 1, 1) := by decide +kernel
theorem dX7_liken_64 : decode cX7_liken 64 = .ok (.iload_n 2, 1) := by decide +kernel
theorem dX7_liken_65 : decode cX7_liken 65 = .ok (.iastore, 1) := by decide +kernel
theorem dX7_liken_66 : decode cX7_liken 66 = .ok (.iinc 2 (-1), 3) := by decide +kernel
theorem dX7_liken_69 : decode cX7_liken 69 = .ok (.goto (-48), 3) := by decide +kernel
theorem dX7_liken_72 : decode cX7_liken 72 = .ok (.iinc 1 1, 3) := by decide +kernel
theorem dX7_liken_75 : decode cX7_liken 75 = .ok (.goto (-73), 3) := by decide +kernel
theorem dX7_liken_78 : decode cX7_liken 78 = .ok (.return_, 1) := by decide +kernel
theorem dX7_order_0 : decode cX7_order 0 = .ok (.iconst 0, 1) := by decide +kernel
theorem dX7_order_1 : decode cX7_order 1 = .ok (.istore_n 1, 1) := by decide +kernel
theorem dX7_order_2 : decode cX7_order 2 = .ok (.iload_n 1, 1) := by decide +kernel
theorem dX7_order_3 : decode cX7_order 3 = .ok (.bipush 8, 2) := by decide +kernel
theorem dX7_order_5 : decode cX7_order 5 = .ok (.if_icmp .ge 16, 3) := by decide +kernel
theorem dX7_order_8 : decode cX7_order 8 = .ok (.aload_n 0, 1) := by decide +kernel
theorem dX7_order_9 : decode cX7_order 9 = .ok (.getfield 45, 3) := by decide +kernel
theorem dX7_order_12 : decode cX7_order 12 = .ok (.iload_n 1, 1) := by decide +kernel
theorem dX7_order_13 : decode cX7_order 13 = .ok (.iconst 0, 1) := by decide +kernel
theorem dX7_order_14 : decode cX7_order 14 = .ok (.iastore, 1) := by decide +kernel
theorem dX7_order_15 : decode cX7_order 15 = .ok (.iinc 1 1, 3) := by decide +kernel
theorem dX7_order_18 : decode cX7_order 18 = .ok (.goto (-16), 3) := by decide +kernel
theorem dX7_order_21 : decode cX7_order 21 = .ok (.iconst 0, 1) := by decide +kernel
theorem dX7_order_22 : decode cX7_order 22 = .ok (.istore_n 1, 1) := by decide +kernel
theorem dX7_order_23 : decode cX7_order 23 = .ok (.iload_n 1, 1) := by decide +kernel
theorem dX7_order_24 : decode cX7_order 24 = .ok (.aload_n 0, 1) := by decide +kernel
theorem dX7_order_25 : decode cX7_order 25 = .ok (.getfield 84, 3) := by decide +kernel
theorem dX7_order_28 : decode cX7_order 28 = .ok (.if_icmp .ge 142, 3) := by decide +kernel
theorem dX7_order_31 : decode cX7_order 31 = .ok (.iconst 0, 1) := by decide +kernel
theorem dX7_order_32 : decode cX7_order 32 = .ok (.istore_n 2, 1) := by decide +kernel
theorem dX7_order_33 : decode cX7_order 33 = .ok (.iconst 0, 1) := by decide +kernel
theorem dX7_order_34 : decode cX7_order 34 = .ok (.istore_n 3, 1) := by decide +kernel
theorem dX7_order_35 : decode cX7_order 35 = .ok (.iload_n 3, 1) := by decide +kernel
theorem dX7_order_36 : decode cX7_order 36 = .ok (.aload_n 0, 1) := by decide +kernel
theorem dX7_order_37 : decode cX7_order 37 = .ok (.getfield 84, 3) := by decide +kernel
theorem dX7_order_40 : decode cX7_order 40 = .ok (.if_icmp .ge 62, 3) := by decide +kernel
theorem dX7_order_43 : decode cX7_order 43 = .ok (.aload_n 0, 1) := by decide +kernel
theorem dX7_order_44 : decode cX7_order 44 = .ok (.getfield 39, 3) := by decide +kernel
theorem dX7_order_47 : decode cX7_order 47 = .ok (.iload_n 3, 1) := by decide +kernel
theorem dX7_order_48 : decode cX7_order 48 = .ok (.iaload, 1) := by decide +kernel
theorem dX7_order_49 : decode cX7_order 49 = .ok (.aload_n 0, 1) := by decide +kernel
theorem dX7_order_50 : decode cX7_order 50 = .ok (.getfield 39, 3) := by decide +kernel
theorem dX7_order_53 : decode cX7_order 53 = .ok (.iload_n 1, 1) := by decide +kernel
theorem dX7_order_54 : decode cX7_order 54 = .ok (.iaload, 1) := by decide +kernel
theorem dX7_order_55 : decode cX7_order 55 = .ok (.if_icmp .ne 41, 3) := by decide +kernel
theorem dX7_order_58 : decode cX7_order 58 = .ok (.aload_n 0, 1) := by decide +kernel
theorem dX7_order_59 : decode cX7_order 59 = .ok (.getfield 42, 3) := by decide +kernel
theorem dX7_order_62 : decode cX7_order 62 = .ok (.iload_n 3, 1) := by decide +kernel
theorem dX7_order_63 : decode cX7_order 63 = .ok (.iaload, 1) := by decide +kernel
theorem dX7_order_64 : decode cX7_order 64 = .ok (.aload_n 0, 1) := by decide +kernel
theorem dX7_order_65 : decode cX7_order 65 = .ok (.getfield 42, 3) := by decide +kernel
theorem dX7_order_68 : decode cX7_order 68 = .ok (.iload_n 1, 1) := by decide +kernel
theorem dX7_order_69 : decode cX7_order 69 = .ok (.iaload, 1) := by decide +kernel
theorem dX7_order_70 : decode cX7_order 70 = .ok (.if_icmp .lt 23, 3) := by decide +kernel
theorem dX7_order_73 : decode cX7_order 73 = .ok (.aload_n 0, 1) := by decide +kernel
theorem dX7_order_74 : decode cX7_order 74 = .ok (.getfield 42, 3) := by decide +kernel
theorem dX7_order_77 : decode cX7_order 77 = .ok (.iload_n 3, 1) := by decide +kernel
theorem dX7_order_78 : decode cX7_order 78 = .ok (.iaload, 1) := by decide +kernel
theorem dX7_order_79 : decode cX7_order 79 = .ok (.aload_n 0, 1) := by decide +kernel
theorem dX7_order_80 : decode cX7_order 80 = .ok (.getfield 42, 3) := by decide +kernel
theorem dX7_order_83 : decode cX7_order 83 = .ok (.iload_n 1, 1) := by decide +kernel
theorem dX7_order_84 : decode cX7_order 84 = .ok (.iaload, 1) := by decide +kernel
theorem dX7_order_85 : decode cX7_order 85 = .ok (.if_icmp .ne 11, 3) := by decide +kernel
theorem dX7_order_88 : decode cX7_order 88 = .ok (.iload_n 3, 1) := by decide +kernel
theorem dX7_order_89 : decode cX7_order 89 = .ok (.iload_n 1, 1) := by decide +kernel
theorem dX7_order_90 : decode cX7_order 90 = .ok (.if_icmp .ge 6, 3) := by decide +kernel
theorem dX7_order_93 : decode cX7_order 93 = .ok (.iinc 2 1, 3) := by decide +kernel
theorem dX7_order_96 : decode cX7_order 96 = .ok (.iinc 3 1, 3) := by decide +kernel
theorem dX7_order_99 : decode cX7_order 99 = .ok (.goto (-64), 3) := by decide +kernel
theorem dX7_order_102 : decode cX7_order 102 = .ok (.iconst 0, 1) := by decide +kernel
theorem dX7_order_103 : decode cX7_order 103 = .ok (.istore_n 3, 1) := by decide +kernel
theorem dX7_order_104 : decode cX7_order 104 = .ok (.aload_n 0, 1) := by decide +kernel
theorem dX7_order_105 : decode cX7_order 105 = .ok (.getfield 39, 3) := by decide +kernel
theorem dX7_order_108 : decode cX7_order 108 = .ok (.iload_n 3, 1) := by decide +kernel
theorem dX7_order_109 : decode cX7_order 109 = .ok (.iaload, 1) := by decide +kernel
theorem dX7_order_110 : decode cX7_order 110 = .ok (.aload_n 0, 1) := by decide +kernel
theorem dX7_order_111 : decode cX7_order 111 = .ok (.getfield 39, 3) := by decide +kernel
theorem dX7_order_114 : decode cX7_order 114 = .ok (.iload_n 1, 1) := by decide +kernel
theorem dX7_order_115 : decode cX7_order 115 = .ok (.iaload, 1) := by decide +kernel
theorem dX7_order_116 : decode cX7_order 116 = .ok (.if_icmp .ne 7, 3) := by decide +kernel
theorem dX7_order_119 : decode cX7_order 119 = .ok (.iload_n 2, 1) := by decide +kernel
theorem dX7_order_120 : decode cX7_order 120 = .ok (.ifCond .le 32, 3) := by decide +kernel
theorem dX7_order_123 : decode cX7_order 123 = .ok (.iload_n 2, 1) := by decide +kernel
theorem dX7_order_124 : decode cX7_order 124 = .ok (.aload_n 0, 1) := by decide +kernel
theorem dX7_order_125 : decode cX7_order 125 = .ok (.getfield 39, 3) := by decide +kernel
theorem dX7_order_128 : decode cX7_order 128 = .ok (.iload_n 3, 1) := by decide +kernel
theorem dX7_order_129 : decode cX7_order 129 = .ok (.iaload, 1) := by decide +kernel
theorem dX7_order_130 : decode cX7_order 130 = .ok (.aload_n 0, 1) := by decide +kernel
theorem dX7_order_131 : decode cX7_order 131 = .ok (.getfield 39, 3) := by decide +kernel
theorem dX7_order_134 : decode cX7_order 134 = .ok (.iload_n 1, 1) := by decide +kernel
theorem dX7_order_135 : decode cX7_order 135 = .ok (.iaload, 1) := by decide +kernel
theorem dX7_order_136 : decode cX7_order 136 = .ok (.if_icmp .ne 7, 3) := by decide +kernel
theorem dX7_order_139 : decode cX7_order 139 = .ok (.iconst 1, 1) := by decide +kernel
theorem dX7_order_140 : decode cX7_order 140 = .ok (.goto 4, 3) := by decide +kernel
theorem dX7_order_143 : decode cX7_order 143 = .ok (.iconst 0, 1) := by decide +kernel
theorem dX7_order_144 : decode cX7_order 144 = .ok (.isub, 1) := by decide +kernel
theorem dX7_order_145 : decode cX7_order 145 = .ok (.istore_n 2, 1) := by decide +kernel
theorem dX7_order_146 : decode cX7_order 146 = .ok (.iinc 3 1, 3) := by decide +kernel
theorem dX7_order_149 : decode cX7_order 149 = .ok (.goto (-45), 3) := by decide +kernel
theorem dX7_order_152 : decode cX7_order 152 = .ok (.aload_n 0, 1) := by decide +kernel
theorem dX7_order_153 : decode cX7_order 153 = .ok (.getfield 45, 3) := by decide +kernel
theorem dX7_order_156 : decode cX7_order 156 = .ok (.iload_n 3, 1) := by decide +kernel
theorem dX7_order_157 : decode cX7_order 157 = .ok (.aload_n 0, 1) := by decide +kernel
theorem dX7_order_158 : decode cX7_order 158 = .ok (.getfield 42, 3) := by decide +kernel
theorem dX7_order_161 : decode cX7_order 161 = .ok (.iload_n 1, 1) := by decide +kernel
theorem dX7_order_162 : decode cX7_order 162 = .ok (.iaload, 1) := by decide +kernel
theorem dX7_order_163 : decode cX7_order 163 = .ok (.iastore, 1) := by decide +kernel
theorem dX7_order_164 : decode cX7_order 164 = .ok (.iinc 1 1, 3) := by decide +kernel
theorem dX7_order_167 : decode cX7_order 167 = .ok (.goto (-144), 3) := by decide +kernel
theorem dX7_order_170 : decode cX7_order 170 = .ok (.return_, 1) := by decide +kernel
theorem dX7_isKey_0 : decode cX7_isKey 0 = .ok (.iconst 0, 1) := by decide +kernel
theorem dX7_isKey_1 : decode cX7_isKey 1 = .ok (.istore_n 2, 1) := by decide +kernel
theorem dX7_isKey_2 : decode cX7_isKey 2 = .ok (.iload_n 2, 1) := by decide +kernel
theorem dX7_isKey_3 : decode cX7_isKey 3 = .ok (.bipush 8, 2) := by decide +kernel
theorem dX7_isKey_5 : decode cX7_isKey 5 = .ok (.if_icmp .ge 31, 3) := by decide +kernel
theorem dX7_isKey_8 : decode cX7_isKey 8 = .ok (.aload_n 0, 1) := by decide +kernel
theorem dX7_isKey_9 : decode cX7_isKey 9 = .ok (.getfield 26, 3) := by decide +kernel
theorem dX7_isKey_12 : decode cX7_isKey 12 = .ok (.bipush 8, 2) := by decide +kernel
theorem dX7_isKey_14 : decode cX7_isKey 14 = .ok (.iload_n 1, 1) := by decide +kernel
theorem dX7_isKey_15 : decode cX7_isKey 15 = .ok (.imul, 1) := by decide +kernel
theorem dX7_isKey_16 : decode cX7_isKey 16 = .ok (.iload_n 2, 1) := by decide +kernel
theorem dX7_isKey_17 : decode cX7_isKey 17 = .ok (.iadd, 1) := by decide +kernel
theorem dX7_isKey_18 : decode cX7_isKey 18 = .ok (.iaload, 1) := by decide +kernel
theorem dX7_isKey_19 : decode cX7_isKey 19 = .ok (.aload_n 0, 1) := by decide +kernel
theorem dX7_isKey_20 : decode cX7_isKey 20 = .ok (.getfield 45, 3) := by decide +kernel
theorem dX7_isKey_23 : decode cX7_isKey 23 = .ok (.iload_n 2, 1) := by decide +kernel
theorem dX7_isKey_24 : decode cX7_isKey 24 = .ok (.iaload, 1) := by decide +kernel
theorem dX7_isKey_25 : decode cX7_isKey 25 = .ok (.if_icmp .eq 5, 3) := by decide +kernel
theorem dX7_isKey_28 : decode cX7_isKey 28 = .ok (.iconst 0, 1) := by decide +kernel
theorem dX7_isKey_29 : decode cX7_isKey 29 = .ok (.ireturn, 1) := by decide +kernel
theorem dX7_isKey_30 : decode cX7_isKey 30 = .ok (.iinc 2 1, 3) := by decide +kernel
theorem dX7_isKey_33 : decode cX7_isKey 33 = .ok (.goto (-31), 3) := by decide +kernel
theorem dX7_isKey_36 : decode cX7_isKey 36 = .ok (.iconst 1, 1) := by decide +kernel
theorem dX7_isKey_37 : decode cX7_isKey 37 = .ok (.ireturn, 1) := by decide +kernel
theorem dX7_seatOf_0 : decode cX7_seatOf 0 = .ok (.iconst 0, 1) := by decide +kernel
theorem dX7_seatOf_1 : decode cX7_seatOf 1 = .ok (.istore_n 1, 1) := by decide +kernel
theorem dX7_seatOf_2 : decode cX7_seatOf 2 = .ok (.iconst 0, 1) := by decide +kernel
theorem dX7_seatOf_3 : decode cX7_seatOf 3 = .ok (.istore_n 2, 1) := by decide +kernel
theorem dX7_seatOf_4 : decode cX7_seatOf 4 = .ok (.iload_n 2, 1) := by decide +kernel
theorem dX7_seatOf_5 : decode cX7_seatOf 5 = .ok (.bipush 8, 2) := by decide +kernel
theorem dX7_seatOf_7 : decode cX7_seatOf 7 = .ok (.if_icmp .ge 31, 3) := by decide +kernel
theorem dX7_seatOf_10 : decode cX7_seatOf 10 = .ok (.iload_n 1, 1) := by decide +kernel
theorem dX7_seatOf_11 : decode cX7_seatOf 11 = .ok (.bipush 31, 2) := by decide +kernel
theorem dX7_seatOf_13 : decode cX7_seatOf 13 = .ok (.imul, 1) := by decide +kernel
theorem dX7_seatOf_14 : decode cX7_seatOf 14 = .ok (.aload_n 0, 1) := by decide +kernel
theorem dX7_seatOf_15 : decode cX7_seatOf 15 = .ok (.getfield 45, 3) := by decide +kernel
theorem dX7_seatOf_18 : decode cX7_seatOf 18 = .ok (.iload_n 2, 1) := by decide +kernel
theorem dX7_seatOf_19 : decode cX7_seatOf 19 = .ok (.iaload, 1) := by decide +kernel
theorem dX7_seatOf_20 : decode cX7_seatOf 20 = .ok (.iadd, 1) := by decide +kernel
theorem dX7_seatOf_21 : decode cX7_seatOf 21 = .ok (.aload_n 0, 1) := by decide +kernel
theorem dX7_seatOf_22 : decode cX7_seatOf 22 = .ok (.getfield 45, 3) := by decide +kernel
theorem dX7_seatOf_25 : decode cX7_seatOf 25 = .ok (.iload_n 2, 1) := by decide +kernel
theorem dX7_seatOf_26 : decode cX7_seatOf 26 = .ok (.iaload, 1) := by decide +kernel
theorem dX7_seatOf_27 : decode cX7_seatOf 27 = .ok (.bipush 7, 2) := by decide +kernel
theorem dX7_seatOf_29 : decode cX7_seatOf 29 = .ok (.iushr, 1) := by decide +kernel
theorem dX7_seatOf_30 : decode cX7_seatOf 30 = .ok (.iadd, 1) := by decide +kernel
theorem dX7_seatOf_31 : decode cX7_seatOf 31 = .ok (.istore_n 1, 1) := by decide +kernel
theorem dX7_seatOf_32 : decode cX7_seatOf 32 = .ok (.iinc 2 1, 3) := by decide +kernel
theorem dX7_seatOf_35 : decode cX7_seatOf 35 = .ok (.goto (-31), 3) := by decide +kernel
theorem dX7_seatOf_38 : decode cX7_seatOf 38 = .ok (.iload_n 1, 1) := by decide +kernel
theorem dX7_seatOf_39 : decode cX7_seatOf 39 = .ok (.iload_n 1, 1) := by decide +kernel
theorem dX7_seatOf_40 : decode cX7_seatOf 40 = .ok (.bipush 15, 2) := by decide +kernel
theorem dX7_seatOf_42 : decode cX7_seatOf 42 = .ok (.iushr, 1) := by decide +kernel
theorem dX7_seatOf_43 : decode cX7_seatOf 43 = .ok (.ixor, 1) := by decide +kernel
theorem dX7_seatOf_44 : decode cX7_seatOf 44 = .ok (.sipush 32767, 3) := by decide +kernel
theorem dX7_seatOf_47 : decode cX7_seatOf 47 = .ok (.iand, 1) := by decide +kernel
theorem dX7_seatOf_48 : decode cX7_seatOf 48 = .ok (.istore_n 2, 1) := by decide +kernel
theorem dX7_seatOf_49 : decode cX7_seatOf 49 = .ok (.aload_n 0, 1) := by decide +kernel
theorem dX7_seatOf_50 : decode cX7_seatOf 50 = .ok (.getfield 36, 3) := by decide +kernel
theorem dX7_seatOf_53 : decode cX7_seatOf 53 = .ok (.iload_n 2, 1) := by decide +kernel
theorem dX7_seatOf_54 : decode cX7_seatOf 54 = .ok (.iaload, 1) := by decide +kernel
theorem dX7_seatOf_55 : decode cX7_seatOf 55 = .ok (.ifCond .lt 26, 3) := by decide +kernel
theorem dX7_seatOf_58 : decode cX7_seatOf 58 = .ok (.aload_n 0, 1) := by decide +kernel
theorem dX7_seatOf_59 : decode cX7_seatOf 59 = .ok (.aload_n 0, 1) := by decide +kernel
theorem dX7_seatOf_60 : decode cX7_seatOf 60 = .ok (.getfield 36, 3) := by decide +kernel
theorem dX7_seatOf_63 : decode cX7_seatOf 63 = .ok (.iload_n 2, 1) := by decide +kernel
theorem dX7_seatOf_64 : decode cX7_seatOf 64 = .ok (.iaload, 1) := by decide +kernel
theorem dX7_seatOf_65 : decode cX7_seatOf 65 = .ok (.invokevirtual 140, 3) := by decide +kernel
theorem dX7_seatOf_68 : decode cX7_seatOf 68 = .ok (.ifCond .ne 13, 3) := by decide +kernel
theorem dX7_seatOf_71 : decode cX7_seatOf 71 = .ok (.iload_n 2, 1) := by decide +kernel
theorem dX7_seatOf_72 : decode cX7_seatOf 72 = .ok (.iconst 1, 1) := by decide +kernel
theorem dX7_seatOf_73 : decode cX7_seatOf 73 = .ok (.iadd, 1) := by decide +kernel
theorem dX7_seatOf_74 : decode cX7_seatOf 74 = .ok (.ldc 35, 2) := by decide +kernel
theorem dX7_seatOf_76 : decode cX7_seatOf 76 = .ok (.irem, 1) := by decide +kernel
theorem dX7_seatOf_77 : decode cX7_seatOf 77 = .ok (.istore_n 2, 1) := by decide +kernel
theorem dX7_seatOf_78 : decode cX7_seatOf 78 = .ok (.goto (-29), 3) := by decide +kernel
theorem dX7_seatOf_81 : decode cX7_seatOf 81 = .ok (.iload_n 2, 1) := by decide +kernel
theorem dX7_seatOf_82 : decode cX7_seatOf 82 = .ok (.ireturn, 1) := by decide +kernel
theorem dX7_isNew_0 : decode cX7_isNew 0 = .ok (.aload_n 0, 1) := by decide +kernel
theorem dX7_isNew_1 : decode cX7_isNew 1 = .ok (.invokevirtual 143, 3) := by decide +kernel
theorem dX7_isNew_4 : decode cX7_isNew 4 = .ok (.aload_n 0, 1) := by decide +kernel
theorem dX7_isNew_5 : decode cX7_isNew 5 = .ok (.invokevirtual 146, 3) := by decide +kernel
theorem dX7_isNew_8 : decode cX7_isNew 8 = .ok (.istore_n 3, 1) := by decide +kernel
theorem dX7_isNew_9 : decode cX7_isNew 9 = .ok (.aload_n 0, 1) := by decide +kernel
theorem dX7_isNew_10 : decode cX7_isNew 10 = .ok (.getfield 36, 3) := by decide +kernel
theorem dX7_isNew_13 : decode cX7_isNew 13 = .ok (.iload_n 3, 1) := by decide +kernel
theorem dX7_isNew_14 : decode cX7_isNew 14 = .ok (.iaload, 1) := by decide +kernel
theorem dX7_isNew_15 : decode cX7_isNew 15 = .ok (.ifCond .lt 5, 3) := by decide +kernel
theorem dX7_isNew_18 : decode cX7_isNew 18 = .ok (.iconst 0, 1) := by decide +kernel
theorem dX7_isNew_19 : decode cX7_isNew 19 = .ok (.ireturn, 1) := by decide +kernel
theorem dX7_isNew_20 : decode cX7_isNew 20 = .ok (.aload_n 0, 1) := by decide +kernel
theorem dX7_isNew_21 : decode cX7_isNew 21 = .ok (.getfield 36, 3) := by decide +kernel
theorem dX7_isNew_24 : decode cX7_isNew 24 = .ok (.iload_n 3, 1) := by decide +kernel
theorem dX7_isNew_25 : decode cX7_isNew 25 = .ok (.aload_n 0, 1) := by decide +kernel
theorem dX7_isNew_26 : decode cX7_isNew 26 = .ok (.getfield 149, 3) := by decide +kernel
theorem dX7_isNew_29 : decode cX7_isNew 29 = .ok (.iastore, 1) := by decide +kernel
theorem dX7_isNew_30 : decode cX7_isNew 30 = .ok (.iconst 0, 1) := by decide +kernel
theorem dX7_isNew_31 : decode cX7_isNew 31 = .ok (.istore 4, 2) := by decide +kernel
theorem dX7_isNew_33 : decode cX7_isNew 33 = .ok (.iload 4, 2) := by decide +kernel
theorem dX7_isNew_35 : decode cX7_isNew 35 = .ok (.bipush 8, 2) := by decide +kernel
theorem dX7_isNew_37 : decode cX7_isNew 37 = .ok (.if_icmp .ge 53, 3) := by decide +kernel
theorem dX7_isNew_40 : decode cX7_isNew 40 = .ok (.aload_n 0, 1) := by decide +kernel
theorem dX7_isNew_41 : decode cX7_isNew 41 = .ok (.getfield 23, 3) := by decide +kernel
theorem dX7_isNew_44 : decode cX7_isNew 44 = .ok (.bipush 8, 2) := by decide +kernel
theorem dX7_isNew_46 : decode cX7_isNew 46 = .ok (.aload_n 0, 1) := by decide +kernel
theorem dX7_isNew_47 : decode cX7_isNew 47 = .ok (.getfield 149, 3) := by decide +kernel
theorem dX7_isNew_50 : decode cX7_isNew 50 = .ok (.imul, 1) := by decide +kernel
theorem dX7_isNew_51 : decode cX7_isNew 51 = .ok (.iload 4, 2) := by decide +kernel
theorem dX7_isNew_53 : decode cX7_isNew 53 = .ok (.iadd, 1) := by decide +kernel
theorem dX7_isNew_54 : decode cX7_isNew 54 = .ok (.aload_n 0, 1) := by decide +kernel
theorem dX7_isNew_55 : decode cX7_isNew 55 = .ok (.getfield 42, 3) := by decide +kernel
theorem dX7_isNew_58 : decode cX7_isNew 58 = .ok (.iload 4, 2) := by decide +kernel
theorem dX7_isNew_60 : decode cX7_isNew 60 = .ok (.iaload, 1) := by decide +kernel
theorem dX7_isNew_61 : decode cX7_isNew 61 = .ok (.iastore, 1) := by decide +kernel
theorem dX7_isNew_62 : decode cX7_isNew 62 = .ok (.aload_n 0, 1) := by decide +kernel
theorem dX7_isNew_63 : decode cX7_isNew 63 = .ok (.getfield 26, 3) := by decide +kernel
theorem dX7_isNew_66 : decode cX7_isNew 66 = .ok (.bipush 8, 2) := by decide +kernel
theorem dX7_isNew_68 : decode cX7_isNew 68 = .ok (.aload_n 0, 1) := by decide +kernel
theorem dX7_isNew_69 : decode cX7_isNew 69 = .ok (.getfield 149, 3) := by decide +kernel
theorem dX7_isNew_72 : decode cX7_isNew 72 = .ok (.imul, 1) := by decide +kernel
theorem dX7_isNew_73 : decode cX7_isNew 73 = .ok (.iload 4, 2) := by decide +kernel
theorem dX7_isNew_75 : decode cX7_isNew 75 = .ok (.iadd, 1) := by decide +kernel
theorem dX7_isNew_76 : decode cX7_isNew 76 = .ok (.aload_n 0, 1) := by decide +kernel
theorem dX7_isNew_77 : decode cX7_isNew 77 = .ok (.getfield 45, 3) := by decide +kernel
theorem dX7_isNew_80 : decode cX7_isNew 80 = .ok (.iload 4, 2) := by decide +kernel
theorem dX7_isNew_82 : decode cX7_isNew 82 = .ok (.iaload, 1) := by decide +kernel
theorem dX7_isNew_83 : decode cX7_isNew 83 = .ok (.iastore, 1) := by decide +kernel
theorem dX7_isNew_84 : decode cX7_isNew 84 = .ok (.iinc 4 1, 3) := by decide +kernel
theorem dX7_isNew_87 : decode cX7_isNew 87 = .ok (.goto (-54), 3) := by decide +kernel
theorem dX7_isNew_90 : decode cX7_isNew 90 = .ok (.aload_n 0, 1) := by decide +kernel
theorem dX7_isNew_91 : decode cX7_isNew 91 = .ok (.getfield 29, 3) := by decide +kernel
theorem dX7_isNew_94 : decode cX7_isNew 94 = .ok (.aload_n 0, 1) := by decide +kernel
theorem dX7_isNew_95 : decode cX7_isNew 95 = .ok (.getfield 149, 3) := by decide +kernel
theorem dX7_isNew_98 : decode cX7_isNew 98 = .ok (.iload_n 1, 1) := by decide +kernel
theorem dX7_isNew_99 : decode cX7_isNew 99 = .ok (.iastore, 1) := by decide +kernel
theorem dX7_isNew_100 : decode cX7_isNew 100 = .ok (.aload_n 0, 1) := by decide +kernel
theorem dX7_isNew_101 : decode cX7_isNew 101 = .ok (.getfield 32, 3) := by decide +kernel
theorem dX7_isNew_104 : decode cX7_isNew 104 = .ok (.aload_n 0, 1) := by decide +kernel
theorem dX7_isNew_105 : decode cX7_isNew 105 = .ok (.getfield 149, 3) := by decide +kernel
theorem dX7_isNew_108 : decode cX7_isNew 108 = .ok (.iload_n 2, 1) := by decide +kernel
theorem dX7_isNew_109 : decode cX7_isNew 109 = .ok (.iastore, 1) := by decide +kernel
theorem dX7_isNew_110 : decode cX7_isNew 110 = .ok (.aload_n 0, 1) := by decide +kernel
theorem dX7_isNew_111 : decode cX7_isNew 111 = .ok (.dup, 1) := by decide +kernel
theorem dX7_isNew_112 : decode cX7_isNew 112 = .ok (.getfield 149, 3) := by decide +kernel
theorem dX7_isNew_115 : decode cX7_isNew 115 = .ok (.iconst 1, 1) := by decide +kernel
theorem dX7_isNew_116 : decode cX7_isNew 116 = .ok (.iadd, 1) := by decide +kernel
theorem dX7_isNew_117 : decode cX7_isNew 117 = .ok (.putfield 149, 3) := by decide +kernel
theorem dX7_isNew_120 : decode cX7_isNew 120 = .ok (.iconst 1, 1) := by decide +kernel
theorem dX7_isNew_121 : decode cX7_isNew 121 = .ok (.ireturn, 1) := by decide +kernel
theorem dX7_load_0 : decode cX7_load 0 = .ok (.iconst 0, 1) := by decide +kernel
theorem dX7_load_1 : decode cX7_load 1 = .ok (.istore_n 2, 1) := by decide +kernel
theorem dX7_load_2 : decode cX7_load 2 = .ok (.iload_n 2, 1) := by decide +kernel
theorem dX7_load_3 : decode cX7_load 3 = .ok (.bipush 8, 2) := by decide +kernel
theorem dX7_load_5 : decode cX7_load 5 = .ok (.if_icmp .ge 26, 3) := by decide +kernel
theorem dX7_load_8 : decode cX7_load 8 = .ok (.aload_n 0, 1) := by decide +kernel
theorem dX7_load_9 : decode cX7_load 9 = .ok (.getfield 42, 3) := by decide +kernel
theorem dX7_load_12 : decode cX7_load 12 = .ok (.iload_n 2, 1) := by decide +kernel
theorem dX7_load_13 : decode cX7_load 13 = .ok (.aload_n 0, 1) := by decide +kernel
theorem dX7_load_14 : decode cX7_load 14 = .ok (.getfield 23, 3) := by decide +kernel
theorem dX7_load_17 : decode cX7_load 17 = .ok (.bipush 8, 2) := by decide +kernel
theorem dX7_load_19 : decode cX7_load 19 = .ok (.iload_n 1, 1) := by decide +kernel
theorem dX7_load_20 : decode cX7_load 20 = .ok (.imul, 1) := by decide +kernel
theorem dX7_load_21 : decode cX7_load 21 = .ok (.iload_n 2, 1) := by decide +kernel
theorem dX7_load_22 : decode cX7_load 22 = .ok (.iadd, 1) := by decide +kernel
theorem dX7_load_23 : decode cX7_load 23 = .ok (.iaload, 1) := by decide +kernel
theorem dX7_load_24 : decode cX7_load 24 = .ok (.iastore, 1) := by decide +kernel
theorem dX7_load_25 : decode cX7_load 25 = .ok (.iinc 2 1, 3) := by decide +kernel
theorem dX7_load_28 : decode cX7_load 28 = .ok (.goto (-26), 3) := by decide +kernel
theorem dX7_load_31 : decode cX7_load 31 = .ok (.return_, 1) := by decide +kernel
theorem dX7_spread_0 : decode cX7_spread 0 = .ok (.aload_n 0, 1) := by decide +kernel
theorem dX7_spread_1 : decode cX7_spread 1 = .ok (.invokevirtual 152, 3) := by decide +kernel
theorem dX7_spread_4 : decode cX7_spread 4 = .ok (.iconst 0, 1) := by decide +kernel
theorem dX7_spread_5 : decode cX7_spread 5 = .ok (.istore 4, 2) := by decide +kernel
theorem dX7_spread_7 : decode cX7_spread 7 = .ok (.iload 4, 2) := by decide +kernel
theorem dX7_spread_9 : decode cX7_spread 9 = .ok (.ldc 35, 2) := by decide +kernel
theorem dX7_spread_11 : decode cX7_spread 11 = .ok (.if_icmp .ge 17, 3) := by decide +kernel
theorem dX7_spread_14 : decode cX7_spread 14 = .ok (.aload_n 0, 1) := by decide +kernel
theorem dX7_spread_15 : decode cX7_spread 15 = .ok (.getfield 36, 3) := by decide +kernel
theorem dX7_spread_18 : decode cX7_spread 18 = .ok (.iload 4, 2) := by decide +kernel
theorem dX7_spread_20 : decode cX7_spread 20 = .ok (.iconst (-1), 1) := by decide +kernel
theorem dX7_spread_21 : decode cX7_spread 21 = .ok (.iastore, 1) := by decide +kernel
theorem dX7_spread_22 : decode cX7_spread 22 = .ok (.iinc 4 1, 3) := by decide +kernel
theorem dX7_spread_25 : decode cX7_spread 25 = .ok (.goto (-18), 3) := by decide +kernel
theorem dX7_spread_28 : decode cX7_spread 28 = .ok (.aload_n 0, 1) := by decide +kernel
theorem dX7_spread_29 : decode cX7_spread 29 = .ok (.iconst 0, 1) := by decide +kernel
theorem dX7_spread_30 : decode cX7_spread 30 = .ok (.putfield 149, 3) := by decide +kernel
theorem dX7_spread_33 : decode cX7_spread 33 = .ok (.iconst 0, 1) := by decide +kernel
theorem dX7_spread_34 : decode cX7_spread 34 = .ok (.istore 4, 2) := by decide +kernel
theorem dX7_spread_36 : decode cX7_spread 36 = .ok (.iload 4, 2) := by decide +kernel
theorem dX7_spread_38 : decode cX7_spread 38 = .ok (.bipush 8, 2) := by decide +kernel
theorem dX7_spread_40 : decode cX7_spread 40 = .ok (.if_icmp .ge 36, 3) := by decide +kernel
theorem dX7_spread_43 : decode cX7_spread 43 = .ok (.aload_n 0, 1) := by decide +kernel
theorem dX7_spread_44 : decode cX7_spread 44 = .ok (.getfield 42, 3) := by decide +kernel
theorem dX7_spread_47 : decode cX7_spread 47 = .ok (.iload 4, 2) := by decide +kernel
theorem dX7_spread_49 : decode cX7_spread 49 = .ok (.iload 4, 2) := by decide +kernel
theorem dX7_spread_51 : decode cX7_spread 51 = .ok (.aload_n 0, 1) := by decide +kernel
theorem dX7_spread_52 : decode cX7_spread 52 = .ok (.getfield 84, 3) := by decide +kernel
theorem dX7_spread_55 : decode cX7_spread 55 = .ok (.if_icmp .ge 13, 3) := by decide +kernel
theorem dX7_spread_58 : decode cX7_spread 58 = .ok (.aload_n 0, 1) := by decide +kernel
theorem dX7_spread_59 : decode cX7_spread 59 = .ok (.getfield 13, 3) := by decide +kernel
theorem dX7_spread_62 : decode cX7_spread 62 = .ok (.iload 4, 2) := by decide +kernel
theorem dX7_spread_64 : decode cX7_spread 64 = .ok (.iaload, 1) := by decide +kernel
theorem dX7_spread_65 : decode cX7_spread 65 = .ok (.goto 4, 3) := by decide +kernel
theorem dX7_spread_68 : decode cX7_spread 68 = .ok (.iconst 0, 1) := by decide +kernel
theorem dX7_spread_69 : decode cX7_spread 69 = .ok (.iastore, 1) := by decide +kernel
theorem dX7_spread_70 : decode cX7_spread 70 = .ok (.iinc 4 1, 3) := by decide +kernel
theorem dX7_spread_73 : decode cX7_spread 73 = .ok (.goto (-37), 3) := by decide +kernel
theorem dX7_spread_76 : decode cX7_spread 76 = .ok (.aload_n 0, 1) := by decide +kernel
theorem dX7_spread_77 : decode cX7_spread 77 = .ok (.iconst (-1), 1) := by decide +kernel
theorem dX7_spread_78 : decode cX7_spread 78 = .ok (.iconst 0, 1) := by decide +kernel
theorem dX7_spread_79 : decode cX7_spread 79 = .ok (.invokevirtual 155, 3) := by decide +kernel
theorem dX7_spread_82 : decode cX7_spread 82 = .ok (.pop, 1) := by decide +kernel
theorem dX7_spread_83 : decode cX7_spread 83 = .ok (.iload_n 3, 1) := by decide +kernel
theorem dX7_spread_84 : decode cX7_spread 84 = .ok (.ifCond .eq 16, 3) := by decide +kernel
theorem dX7_spread_87 : decode cX7_spread 87 = .ok (.aload_n 0, 1) := by decide +kernel
theorem dX7_spread_88 : decode cX7_spread 88 = .ok (.aload_n 0, 1) := by decide +kernel
theorem dX7_spread_89 : decode cX7_spread 89 = .ok (.getfield 42, 3) := by decide +kernel
theorem dX7_spread_92 : decode cX7_spread 92 = .ok (.invokevirtual 129, 3) := by decide +kernel
theorem dX7_spread_95 : decode cX7_spread 95 = .ok (.ifCond .ge 5, 3) := by decide +kernel
theorem dX7_spread_98 : decode cX7_spread 98 = .ok (.iconst 0, 1) := by decide +kernel
theorem dX7_spread_99 : decode cX7_spread 99 = .ok (.ireturn, 1) := by decide +kernel
theorem dX7_spread_100 : decode cX7_spread 100 = .ok (.iconst 0, 1) := by decide +kernel
theorem dX7_spread_101 : decode cX7_spread 101 = .ok (.istore 4, 2) := by decide +kernel
theorem dX7_spread_103 : decode cX7_spread 103 = .ok (.iload 4, 2) := by decide +kernel
theorem dX7_spread_105 : decode cX7_spread 105 = .ok (.aload_n 0, 1) := by decide +kernel
theorem dX7_spread_106 : decode cX7_spread 106 = .ok (.getfield 149, 3) := by decide +kernel
theorem dX7_spread_109 : decode cX7_spread 109 = .ok (.if_icmp .ge 161, 3) := by decide +kernel
theorem dX7_spread_112 : decode cX7_spread 112 = .ok (.iconst 0, 1) := by decide +kernel
theorem dX7_spread_113 : decode cX7_spread 113 = .ok (.istore 5, 2) := by decide +kernel
theorem dX7_spread_115 : decode cX7_spread 115 = .ok (.iload 5, 2) := by decide +kernel
theorem dX7_spread_117 : decode cX7_spread 117 = .ok (.iconst 4, 1) := by decide +kernel
theorem dX7_spread_118 : decode cX7_spread 118 = .ok (.aload_n 0, 1) := by decide +kernel
theorem dX7_spread_119 : decode cX7_spread 119 = .ok (.getfield 84, 3) := by decide +kernel
theorem dX7_spread_122 : decode cX7_spread 122 = .ok (.imul, 1) := by decide +kernel
theorem dX7_spread_123 : decode cX7_spread 123 = .ok (.if_icmp .ge 141, 3) := by decide +kernel
theorem dX7_spread_126 : decode cX7_spread 126 = .ok (.aload_n 0, 1) := by decide +kernel
theorem dX7_spread_127 : decode cX7_spread 127 = .ok (.iload 4, 2) := by decide +kernel
theorem dX7_spread_129 : decode cX7_spread 129 = .ok (.invokevirtual 158, 3) := by decide +kernel
theorem dX7_spread_132 : decode cX7_spread 132 = .ok (.iload 5, 2) := by decide +kernel
theorem dX7_spread_134 : decode cX7_spread 134 = .ok (.iconst 4, 1) := by decide +kernel
theorem dX7_spread_135 : decode cX7_spread 135 = .ok (.idiv, 1) := by decide +kernel
theorem dX7_spread_136 : decode cX7_spread 136 = .ok (.istore 6, 2) := by decide +kernel
theorem dX7_spread_138 : decode cX7_spread 138 = .ok (.iconst 1, 1) := by decide +kernel
theorem dX7_spread_139 : decode cX7_spread 139 = .ok (.istore 7, 2) := by decide +kernel
theorem dX7_spread_141 : decode cX7_spread 141 = .ok (.iconst 1, 1) := by decide +kernel
theorem dX7_spread_142 : decode cX7_spread 142 = .ok (.istore 8, 2) := by decide +kernel
theorem dX7_spread_144 : decode cX7_spread 144 = .ok (.iload 7, 2) := by decide +kernel
theorem dX7_spread_146 : decode cX7_spread 146 = .ok (.ifCond .eq 112, 3) := by decide +kernel
theorem dX7_spread_149 : decode cX7_spread 149 = .ok (.aload_n 0, 1) := by decide +kernel
theorem dX7_spread_150 : decode cX7_spread 150 = .ok (.aload_n 0, 1) := by decide +kernel
theorem dX7_spread_151 : decode cX7_spread 151 = .ok (.getfield 42, 3) := by decide +kernel
theorem dX7_spread_154 : decode cX7_spread 154 = .ok (.iload 6, 2) := by decide +kernel
theorem dX7_spread_156 : decode cX7_spread 156 = .ok (.iload 5, 2) := by decide +kernel
theorem dX7_spread_158 : decode cX7_spread 158 = .ok (.iconst 4, 1) := by decide +kernel
theorem dX7_spread_159 : decode cX7_spread 159 = .ok (.irem, 1) := by decide +kernel
theorem dX7_spread_160 : decode cX7_spread 160 = .ok (.invokevirtual 114, 3) := by decide +kernel
theorem dX7_spread_163 : decode cX7_spread 163 = .ok (.istore 9, 2) := by decide +kernel
theorem dX7_spread_165 : decode cX7_spread 165 = .ok (.iload 9, 2) := by decide +kernel
theorem dX7_spread_167 : decode cX7_spread 167 = .ok (.ifCond .eq 12, 3) := by decide +kernel
theorem dX7_spread_170 : decode cX7_spread 170 = .ok (.iload_n 1, 1) := by decide +kernel
theorem dX7_spread_171 : decode cX7_spread 171 = .ok (.iconst 1, 1) := by decide +kernel
theorem dX7_spread_172 : decode cX7_spread 172 = .ok (.if_icmp .ne 7, 3) := by decide +kernel
theorem dX7_spread_175 : decode cX7_spread 175 = .ok (.iconst 1, 1) := by decide +kernel
theorem dX7_spread_176 : decode cX7_spread 176 = .ok (.goto 4, 3) := by decide +kernel
theorem dX7_spread_179 : decode cX7_spread 179 = .ok (.iconst 0, 1) := by decide +kernel
theorem dX7_spread_180 : decode cX7_spread 180 = .ok (.istore 7, 2) := by decide +kernel
theorem dX7_spread_182 : decode cX7_spread 182 = .ok (.iload 9, 2) := by decide +kernel
theorem dX7_spread_184 : decode cX7_spread 184 = .ok (.ifCond .ne 6, 3) := by decide +kernel
theorem dX7_spread_187 : decode cX7_spread 187 = .ok (.goto 65, 3) := by decide +kernel
theorem dX7_spread_190 : decode cX7_spread 190 = .ok (.aload_n 0, 1) := by decide +kernel
theorem dX7_spread_191 : decode cX7_spread 191 = .ok (.getfield 42, 3) := by decide +kernel
theorem dX7_spread_194 : decode cX7_spread 194 = .ok (.iload 6, 2) := by decide +kernel
theorem dX7_spread_196 : decode cX7_spread 196 = .ok (.iload 9, 2) := by decide +kernel
theorem dX7_spread_198 : decode cX7_spread 198 = .ok (.iastore, 1) := by decide +kernel
theorem dX7_spread_199 : decode cX7_spread 199 = .ok (.aload_n 0, 1) := by decide +kernel
theorem dX7_spread_200 : decode cX7_spread 200 = .ok (.iload 4, 2) := by decide +kernel
theorem dX7_spread_202 : decode cX7_spread 202 = .ok (.bipush 32, 2) := by decide +kernel
theorem dX7_spread_204 : decode cX7_spread 204 = .ok (.iload 8, 2) := by decide +kernel
theorem dX7_spread_206 : decode cX7_spread 206 = .ok (.imul, 1) := by decide +kernel
theorem dX7_spread_207 : decode cX7_spread 207 = .ok (.iload 5, 2) := by decide +kernel
theorem dX7_spread_209 : decode cX7_spread 209 = .ok (.iadd, 1) := by decide +kernel
theorem dX7_spread_210 : decode cX7_spread 210 = .ok (.invokevirtual 155, 3) := by decide +kernel
theorem dX7_spread_213 : decode cX7_spread 213 = .ok (.ifCond .ne 6, 3) := by decide +kernel
theorem dX7_spread_216 : decode cX7_spread 216 = .ok (.goto 36, 3) := by decide +kernel
theorem dX7_spread_219 : decode cX7_spread 219 = .ok (.aload_n 0, 1) := by decide +kernel
theorem dX7_spread_220 : decode cX7_spread 220 = .ok (.getfield 149, 3) := by decide +kernel
theorem dX7_spread_223 : decode cX7_spread 223 = .ok (.iload_n 2, 1) := by decide +kernel
theorem dX7_spread_224 : decode cX7_spread 224 = .ok (.if_icmp .le 6, 3) := by decide +kernel
theorem dX7_spread_227 : decode cX7_spread 227 = .ok (.bipush (-2), 2) := by decide +kernel
theorem dX7_spread_229 : decode cX7_spread 229 = .ok (.ireturn, 1) := by decide +kernel
theorem dX7_spread_230 : decode cX7_spread 230 = .ok (.iload_n 3, 1) := by decide +kernel
theorem dX7_spread_231 : decode cX7_spread 231 = .ok (.ifCond .eq 21, 3) := by decide +kernel
theorem dX7_spread_234 : decode cX7_spread 234 = .ok (.aload_n 0, 1) := by decide +kernel
theorem dX7_spread_235 : decode cX7_spread 235 = .ok (.aload_n 0, 1) := by decide +kernel
theorem dX7_spread_236 : decode cX7_spread 236 = .ok (.getfield 42, 3) := by decide +kernel
theorem dX7_spread_239 : decode cX7_spread 239 = .ok (.invokevirtual 129, 3) := by decide +kernel
theorem dX7_spread_242 : decode cX7_spread 242 = .ok (.ifCond .ge 10, 3) := by decide +kernel
theorem dX7_spread_245 : decode cX7_spread 245 = .ok (.aload_n 0, 1) := by decide +kernel
theorem dX7_spread_246 : decode cX7_spread 246 = .ok (.getfield 149, 3) := by decide +kernel
theorem dX7_spread_249 : decode cX7_spread 249 = .ok (.iconst 1, 1) := by decide +kernel
theorem dX7_spread_250 : decode cX7_spread 250 = .ok (.isub, 1) := by decide +kernel
theorem dX7_spread_251 : decode cX7_spread 251 = .ok (.ireturn, 1) := by decide +kernel
theorem dX7_spread_252 : decode cX7_spread 252 = .ok (.iinc 8 1, 3) := by decide +kernel
theorem dX7_spread_255 : decode cX7_spread 255 = .ok (.goto (-111), 3) := by decide +kernel
theorem dX7_spread_258 : decode cX7_spread 258 = .ok (.iinc 5 1, 3) := by decide +kernel
theorem dX7_spread_261 : decode cX7_spread 261 = .ok (.goto (-146), 3) := by decide +kernel
theorem dX7_spread_264 : decode cX7_spread 264 = .ok (.iinc 4 1, 3) := by decide +kernel
theorem dX7_spread_267 : decode cX7_spread 267 = .ok (.goto (-164), 3) := by decide +kernel
theorem dX7_spread_270 : decode cX7_spread 270 = .ok (.iconst (-1), 1) := by decide +kernel
theorem dX7_spread_271 : decode cX7_spread 271 = .ok (.ireturn, 1) := by decide +kernel
theorem dX7_search_0 : decode cX7_search 0 = .ok (.aload_n 0, 1) := by decide +kernel
theorem dX7_search_1 : decode cX7_search 1 = .ok (.iconst 0, 1) := by decide +kernel
theorem dX7_search_2 : decode cX7_search 2 = .ok (.putfield 81, 3) := by decide +kernel
theorem dX7_search_5 : decode cX7_search 5 = .ok (.iload_n 1, 1) := by decide +kernel
theorem dX7_search_6 : decode cX7_search 6 = .ok (.ifCond .lt 20, 3) := by decide +kernel
theorem dX7_search_9 : decode cX7_search 9 = .ok (.iload_n 1, 1) := by decide +kernel
theorem dX7_search_10 : decode cX7_search 10 = .ok (.iconst 1, 1) := by decide +kernel
theorem dX7_search_11 : decode cX7_search 11 = .ok (.if_icmp .gt 15, 3) := by decide +kernel
theorem dX7_search_14 : decode cX7_search 14 = .ok (.iload_n 2, 1) := by decide +kernel
theorem dX7_search_15 : decode cX7_search 15 = .ok (.iconst 1, 1) := by decide +kernel
theorem dX7_search_16 : decode cX7_search 16 = .ok (.if_icmp .lt 10, 3) := by decide +kernel
theorem dX7_search_19 : decode cX7_search 19 = .ok (.iload_n 2, 1) := by decide +kernel
theorem dX7_search_20 : decode cX7_search 20 = .ok (.sipush 10000, 3) := by decide +kernel
theorem dX7_search_23 : decode cX7_search 23 = .ok (.if_icmp .le 6, 3) := by decide +kernel
theorem dX7_search_26 : decode cX7_search 26 = .ok (.bipush (-3), 2) := by decide +kernel
theorem dX7_search_28 : decode cX7_search 28 = .ok (.ireturn, 1) := by decide +kernel
theorem dX7_search_29 : decode cX7_search 29 = .ok (.aload_n 0, 1) := by decide +kernel
theorem dX7_search_30 : decode cX7_search 30 = .ok (.iload_n 1, 1) := by decide +kernel
theorem dX7_search_31 : decode cX7_search 31 = .ok (.iload_n 2, 1) := by decide +kernel
theorem dX7_search_32 : decode cX7_search 32 = .ok (.iconst 1, 1) := by decide +kernel
theorem dX7_search_33 : decode cX7_search 33 = .ok (.invokevirtual 162, 3) := by decide +kernel
theorem dX7_search_36 : decode cX7_search 36 = .ok (.istore_n 3, 1) := by decide +kernel
theorem dX7_search_37 : decode cX7_search 37 = .ok (.aload_n 0, 1) := by decide +kernel
theorem dX7_search_38 : decode cX7_search 38 = .ok (.iload_n 3, 1) := by decide +kernel
theorem dX7_search_39 : decode cX7_search 39 = .ok (.bipush (-2), 2) := by decide +kernel
theorem dX7_search_41 : decode cX7_search 41 = .ok (.if_icmp .ne 7, 3) := by decide +kernel
theorem dX7_search_44 : decode cX7_search 44 = .ok (.iload_n 2, 1) := by decide +kernel
theorem dX7_search_45 : decode cX7_search 45 = .ok (.goto 7, 3) := by decide +kernel
theorem dX7_search_48 : decode cX7_search 48 = .ok (.aload_n 0, 1) := by decide +kernel
theorem dX7_search_49 : decode cX7_search 49 = .ok (.getfield 149, 3) := by decide +kernel
theorem dX7_search_52 : decode cX7_search 52 = .ok (.putfield 166, 3) := by decide +kernel
theorem dX7_search_55 : decode cX7_search 55 = .ok (.aload_n 0, 1) := by decide +kernel
theorem dX7_search_56 : decode cX7_search 56 = .ok (.iconst 0, 1) := by decide +kernel
theorem dX7_search_57 : decode cX7_search 57 = .ok (.putfield 169, 3) := by decide +kernel
theorem dX7_search_60 : decode cX7_search 60 = .ok (.iload_n 3, 1) := by decide +kernel
theorem dX7_search_61 : decode cX7_search 61 = .ok (.ifCond .ge 5, 3) := by decide +kernel
theorem dX7_search_64 : decode cX7_search 64 = .ok (.iload_n 3, 1) := by decide +kernel
theorem dX7_search_65 : decode cX7_search 65 = .ok (.ireturn, 1) := by decide +kernel
theorem dX7_search_66 : decode cX7_search 66 = .ok (.iload_n 3, 1) := by decide +kernel
theorem dX7_search_67 : decode cX7_search 67 = .ok (.istore 4, 2) := by decide +kernel
theorem dX7_search_69 : decode cX7_search 69 = .ok (.iload 4, 2) := by decide +kernel
theorem dX7_search_71 : decode cX7_search 71 = .ok (.ifCond .le 25, 3) := by decide +kernel
theorem dX7_search_74 : decode cX7_search 74 = .ok (.aload_n 0, 1) := by decide +kernel
theorem dX7_search_75 : decode cX7_search 75 = .ok (.dup, 1) := by decide +kernel
theorem dX7_search_76 : decode cX7_search 76 = .ok (.getfield 169, 3) := by decide +kernel
theorem dX7_search_79 : decode cX7_search 79 = .ok (.iconst 1, 1) := by decide +kernel
theorem dX7_search_80 : decode cX7_search 80 = .ok (.iadd, 1) := by decide +kernel
theorem dX7_search_81 : decode cX7_search 81 = .ok (.putfield 169, 3) := by decide +kernel
theorem dX7_search_84 : decode cX7_search 84 = .ok (.aload_n 0, 1) := by decide +kernel
theorem dX7_search_85 : decode cX7_search 85 = .ok (.getfield 29, 3) := by decide +kernel
theorem dX7_search_88 : decode cX7_search 88 = .ok (.iload 4, 2) := by decide +kernel
theorem dX7_search_90 : decode cX7_search 90 = .ok (.iaload, 1) := by decide +kernel
theorem dX7_search_91 : decode cX7_search 91 = .ok (.istore 4, 2) := by decide +kernel
theorem dX7_search_93 : decode cX7_search 93 = .ok (.goto (-24), 3) := by decide +kernel
theorem dX7_search_96 : decode cX7_search 96 = .ok (.aload_n 0, 1) := by decide +kernel
theorem dX7_search_97 : decode cX7_search 97 = .ok (.getfield 169, 3) := by decide +kernel
theorem dX7_search_100 : decode cX7_search 100 = .ok (.istore 4, 2) := by decide +kernel
theorem dX7_search_102 : decode cX7_search 102 = .ok (.iload_n 3, 1) := by decide +kernel
theorem dX7_search_103 : decode cX7_search 103 = .ok (.istore 5, 2) := by decide +kernel
theorem dX7_search_105 : decode cX7_search 105 = .ok (.iload 5, 2) := by decide +kernel
theorem dX7_search_107 : decode cX7_search 107 = .ok (.ifCond .le 32, 3) := by decide +kernel
theorem dX7_search_110 : decode cX7_search 110 = .ok (.iinc 4 (-1), 3) := by decide +kernel
theorem dX7_search_113 : decode cX7_search 113 = .ok (.aload_n 0, 1) := by decide +kernel
theorem dX7_search_114 : decode cX7_search 114 = .ok (.getfield 48, 3) := by decide +kernel
theorem dX7_search_117 : decode cX7_search 117 = .ok (.iload 4, 2) := by decide +kernel
theorem dX7_search_119 : decode cX7_search 119 = .ok (.aload_n 0, 1) := by decide +kernel
theorem dX7_search_120 : decode cX7_search 120 = .ok (.getfield 32, 3) := by decide +kernel
theorem dX7_search_123 : decode cX7_search 123 = .ok (.iload 5, 2) := by decide +kernel
theorem dX7_search_125 : decode cX7_search 125 = .ok (.iaload, 1) := by decide +kernel
theorem dX7_search_126 : decode cX7_search 126 = .ok (.iastore, 1) := by decide +kernel
theorem dX7_search_127 : decode cX7_search 127 = .ok (.aload_n 0, 1) := by decide +kernel
theorem dX7_search_128 : decode cX7_search 128 = .ok (.getfield 29, 3) := by decide +kernel
theorem dX7_search_131 : decode cX7_search 131 = .ok (.iload 5, 2) := by decide +kernel
theorem dX7_search_133 : decode cX7_search 133 = .ok (.iaload, 1) := by decide +kernel
theorem dX7_search_134 : decode cX7_search 134 = .ok (.istore 5, 2) := by decide +kernel
theorem dX7_search_136 : decode cX7_search 136 = .ok (.goto (-31), 3) := by decide +kernel
theorem dX7_search_139 : decode cX7_search 139 = .ok (.aload_n 0, 1) := by decide +kernel
theorem dX7_search_140 : decode cX7_search 140 = .ok (.getfield 169, 3) := by decide +kernel
theorem dX7_search_143 : decode cX7_search 143 = .ok (.ireturn, 1) := by decide +kernel
theorem dX7_step_0 : decode cX7_step 0 = .ok (.aload_n 0, 1) := by decide +kernel
theorem dX7_step_1 : decode cX7_step 1 = .ok (.iconst 0, 1) := by decide +kernel
theorem dX7_step_2 : decode cX7_step 2 = .ok (.putfield 81, 3) := by decide +kernel
theorem dX7_step_5 : decode cX7_step 5 = .ok (.iload_n 1, 1) := by decide +kernel
theorem dX7_step_6 : decode cX7_step 6 = .ok (.ifCond .lt 11, 3) := by decide +kernel
theorem dX7_step_9 : decode cX7_step 9 = .ok (.iload_n 1, 1) := by decide +kernel
theorem dX7_step_10 : decode cX7_step 10 = .ok (.aload_n 0, 1) := by decide +kernel
theorem dX7_step_11 : decode cX7_step 11 = .ok (.getfield 169, 3) := by decide +kernel
theorem dX7_step_14 : decode cX7_step 14 = .ok (.if_icmp .lt 7, 3) := by decide +kernel
theorem dX7_step_17 : decode cX7_step 17 = .ok (.iconst (-1), 1) := by decide +kernel
theorem dX7_step_18 : decode cX7_step 18 = .ok (.goto 9, 3) := by decide +kernel
theorem dX7_step_21 : decode cX7_step 21 = .ok (.aload_n 0, 1) := by decide +kernel
theorem dX7_step_22 : decode cX7_step 22 = .ok (.getfield 48, 3) := by decide +kernel
theorem dX7_step_25 : decode cX7_step 25 = .ok (.iload_n 1, 1) := by decide +kernel
theorem dX7_step_26 : decode cX7_step 26 = .ok (.iaload, 1) := by decide +kernel
theorem dX7_step_27 : decode cX7_step 27 = .ok (.ireturn, 1) := by decide +kernel
theorem dX7_states_0 : decode cX7_states 0 = .ok (.aload_n 0, 1) := by decide +kernel
theorem dX7_states_1 : decode cX7_states 1 = .ok (.iconst 0, 1) := by decide +kernel
theorem dX7_states_2 : decode cX7_states 2 = .ok (.putfield 81, 3) := by decide +kernel
theorem dX7_states_5 : decode cX7_states 5 = .ok (.aload_n 0, 1) := by decide +kernel
theorem dX7_states_6 : decode cX7_states 6 = .ok (.getfield 166, 3) := by decide +kernel
theorem dX7_states_9 : decode cX7_states 9 = .ok (.ireturn, 1) := by decide +kernel
theorem dX7_reach_0 : decode cX7_reach 0 = .ok (.aload_n 0, 1) := by decide +kernel
theorem dX7_reach_1 : decode cX7_reach 1 = .ok (.iconst 0, 1) := by decide +kernel
theorem dX7_reach_2 : decode cX7_reach 2 = .ok (.putfield 81, 3) := by decide +kernel
theorem dX7_reach_5 : decode cX7_reach 5 = .ok (.aload_n 0, 1) := by decide +kernel
theorem dX7_reach_6 : decode cX7_reach 6 = .ok (.iconst 0, 1) := by decide +kernel
theorem dX7_reach_7 : decode cX7_reach 7 = .ok (.sipush 10000, 3) := by decide +kernel
theorem dX7_reach_10 : decode cX7_reach 10 = .ok (.iconst 0, 1) := by decide +kernel
theorem dX7_reach_11 : decode cX7_reach 11 = .ok (.invokevirtual 162, 3) := by decide +kernel
theorem dX7_reach_14 : decode cX7_reach 14 = .ok (.bipush (-2), 2) := by decide +kernel
theorem dX7_reach_16 : decode cX7_reach 16 = .ok (.if_icmp .ne 8, 3) := by decide +kernel
theorem dX7_reach_19 : decode cX7_reach 19 = .ok (.bipush (-2), 2) := by decide +kernel
theorem dX7_reach_21 : decode cX7_reach 21 = .ok (.goto 7, 3) := by decide +kernel
theorem dX7_reach_24 : decode cX7_reach 24 = .ok (.aload_n 0, 1) := by decide +kernel
theorem dX7_reach_25 : decode cX7_reach 25 = .ok (.getfield 149, 3) := by decide +kernel
theorem dX7_reach_28 : decode cX7_reach 28 = .ok (.ireturn, 1) := by decide +kernel
theorem dX7_picture_0 : decode cX7_picture 0 = .ok (.aload_n 0, 1) := by decide +kernel
theorem dX7_picture_1 : decode cX7_picture 1 = .ok (.iconst 0, 1) := by decide +kernel
theorem dX7_picture_2 : decode cX7_picture 2 = .ok (.putfield 81, 3) := by decide +kernel
theorem dX7_picture_5 : decode cX7_picture 5 = .ok (.iload_n 1, 1) := by decide +kernel
theorem dX7_picture_6 : decode cX7_picture 6 = .ok (.ifCond .lt 18, 3) := by decide +kernel
theorem dX7_picture_9 : decode cX7_picture 9 = .ok (.iload_n 1, 1) := by decide +kernel
theorem dX7_picture_10 : decode cX7_picture 10 = .ok (.aload_n 0, 1) := by decide +kernel
theorem dX7_picture_11 : decode cX7_picture 11 = .ok (.getfield 74, 3) := by decide +kernel
theorem dX7_picture_14 : decode cX7_picture 14 = .ok (.iconst 1, 1) := by decide +kernel
theorem dX7_picture_15 : decode cX7_picture 15 = .ok (.iadd, 1) := by decide +kernel
theorem dX7_picture_16 : decode cX7_picture 16 = .ok (.aload_n 0, 1) := by decide +kernel
theorem dX7_picture_17 : decode cX7_picture 17 = .ok (.getfield 78, 3) := by decide +kernel
theorem dX7_picture_20 : decode cX7_picture 20 = .ok (.imul, 1) := by decide +kernel
theorem dX7_picture_21 : decode cX7_picture 21 = .ok (.if_icmp .lt 5, 3) := by decide +kernel
theorem dX7_picture_24 : decode cX7_picture 24 = .ok (.iconst (-1), 1) := by decide +kernel
theorem dX7_picture_25 : decode cX7_picture 25 = .ok (.ireturn, 1) := by decide +kernel
theorem dX7_picture_26 : decode cX7_picture 26 = .ok (.iload_n 1, 1) := by decide +kernel
theorem dX7_picture_27 : decode cX7_picture 27 = .ok (.aload_n 0, 1) := by decide +kernel
theorem dX7_picture_28 : decode cX7_picture 28 = .ok (.getfield 74, 3) := by decide +kernel
theorem dX7_picture_31 : decode cX7_picture 31 = .ok (.iconst 1, 1) := by decide +kernel
theorem dX7_picture_32 : decode cX7_picture 32 = .ok (.iadd, 1) := by decide +kernel
theorem dX7_picture_33 : decode cX7_picture 33 = .ok (.irem, 1) := by decide +kernel
theorem dX7_picture_34 : decode cX7_picture 34 = .ok (.istore_n 2, 1) := by decide +kernel
theorem dX7_picture_35 : decode cX7_picture 35 = .ok (.iload_n 2, 1) := by decide +kernel
theorem dX7_picture_36 : decode cX7_picture 36 = .ok (.aload_n 0, 1) := by decide +kernel
theorem dX7_picture_37 : decode cX7_picture 37 = .ok (.getfield 74, 3) := by decide +kernel
theorem dX7_picture_40 : decode cX7_picture 40 = .ok (.if_icmp .ne 6, 3) := by decide +kernel
theorem dX7_picture_43 : decode cX7_picture 43 = .ok (.bipush 10, 2) := by decide +kernel
theorem dX7_picture_45 : decode cX7_picture 45 = .ok (.ireturn, 1) := by decide +kernel
theorem dX7_picture_46 : decode cX7_picture 46 = .ok (.iconst 1, 1) := by decide +kernel
theorem dX7_picture_47 : decode cX7_picture 47 = .ok (.aload_n 0, 1) := by decide +kernel
theorem dX7_picture_48 : decode cX7_picture 48 = .ok (.getfield 74, 3) := by decide +kernel
theorem dX7_picture_51 : decode cX7_picture 51 = .ok (.iload_n 1, 1) := by decide +kernel
theorem dX7_picture_52 : decode cX7_picture 52 = .ok (.aload_n 0, 1) := by decide +kernel
theorem dX7_picture_53 : decode cX7_picture 53 = .ok (.getfield 74, 3) := by decide +kernel
theorem dX7_picture_56 : decode cX7_picture 56 = .ok (.iconst 1, 1) := by decide +kernel
theorem dX7_picture_57 : decode cX7_picture 57 = .ok (.iadd, 1) := by decide +kernel
theorem dX7_picture_58 : decode cX7_picture 58 = .ok (.idiv, 1) := by decide +kernel
theorem dX7_picture_59 : decode cX7_picture 59 = .ok (.imul, 1) := by decide +kernel
theorem dX7_picture_60 : decode cX7_picture 60 = .ok (.iload_n 2, 1) := by decide +kernel
theorem dX7_picture_61 : decode cX7_picture 61 = .ok (.iadd, 1) := by decide +kernel
theorem dX7_picture_62 : decode cX7_picture 62 = .ok (.ishl, 1) := by decide +kernel
theorem dX7_picture_63 : decode cX7_picture 63 = .ok (.istore_n 3, 1) := by decide +kernel
theorem dX7_picture_64 : decode cX7_picture 64 = .ok (.aload_n 0, 1) := by decide +kernel
theorem dX7_picture_65 : decode cX7_picture 65 = .ok (.getfield 87, 3) := by decide +kernel
theorem dX7_picture_68 : decode cX7_picture 68 = .ok (.iload_n 3, 1) := by decide +kernel
theorem dX7_picture_69 : decode cX7_picture 69 = .ok (.iand, 1) := by decide +kernel
theorem dX7_picture_70 : decode cX7_picture 70 = .ok (.ifCond .eq 6, 3) := by decide +kernel
theorem dX7_picture_73 : decode cX7_picture 73 = .ok (.bipush 35, 2) := by decide +kernel
theorem dX7_picture_75 : decode cX7_picture 75 = .ok (.ireturn, 1) := by decide +kernel
theorem dX7_picture_76 : decode cX7_picture 76 = .ok (.iconst 0, 1) := by decide +kernel
theorem dX7_picture_77 : decode cX7_picture 77 = .ok (.istore 4, 2) := by decide +kernel
theorem dX7_picture_79 : decode cX7_picture 79 = .ok (.iload 4, 2) := by decide +kernel
theorem dX7_picture_81 : decode cX7_picture 81 = .ok (.aload_n 0, 1) := by decide +kernel
theorem dX7_picture_82 : decode cX7_picture 82 = .ok (.getfield 84, 3) := by decide +kernel
theorem dX7_picture_85 : decode cX7_picture 85 = .ok (.if_icmp .ge 32, 3) := by decide +kernel
theorem dX7_picture_88 : decode cX7_picture 88 = .ok (.aload_n 0, 1) := by decide +kernel
theorem dX7_picture_89 : decode cX7_picture 89 = .ok (.getfield 13, 3) := by decide +kernel
theorem dX7_picture_92 : decode cX7_picture 92 = .ok (.iload 4, 2) := by decide +kernel
theorem dX7_picture_94 : decode cX7_picture 94 = .ok (.iaload, 1) := by decide +kernel
theorem dX7_picture_95 : decode cX7_picture 95 = .ok (.iload_n 3, 1) := by decide +kernel
theorem dX7_picture_96 : decode cX7_picture 96 = .ok (.iand, 1) := by decide +kernel
theorem dX7_picture_97 : decode cX7_picture 97 = .ok (.ifCond .eq 14, 3) := by decide +kernel
theorem dX7_picture_100 : decode cX7_picture 100 = .ok (.bipush 97, 2) := by decide +kernel
theorem dX7_picture_102 : decode cX7_picture 102 = .ok (.aload_n 0, 1) := by decide +kernel
theorem dX7_picture_103 : decode cX7_picture 103 = .ok (.getfield 7, 3) := by decide +kernel
theorem dX7_picture_106 : decode cX7_picture 106 = .ok (.iload 4, 2) := by decide +kernel
theorem dX7_picture_108 : decode cX7_picture 108 = .ok (.iaload, 1) := by decide +kernel
theorem dX7_picture_109 : decode cX7_picture 109 = .ok (.iadd, 1) := by decide +kernel
theorem dX7_picture_110 : decode cX7_picture 110 = .ok (.ireturn, 1) := by decide +kernel
theorem dX7_picture_111 : decode cX7_picture 111 = .ok (.iinc 4 1, 3) := by decide +kernel
theorem dX7_picture_114 : decode cX7_picture 114 = .ok (.goto (-35), 3) := by decide +kernel
theorem dX7_picture_117 : decode cX7_picture 117 = .ok (.bipush 46, 2) := by decide +kernel
theorem dX7_picture_119 : decode cX7_picture 119 = .ok (.ireturn, 1) := by decide +kernel
theorem dX7_isNode_0 : decode cX7_isNode 0 = .ok (.iload_n 1, 1) := by decide +kernel
theorem dX7_isNode_1 : decode cX7_isNode 1 = .ok (.ifCond .lt 15, 3) := by decide +kernel
theorem dX7_isNode_4 : decode cX7_isNode 4 = .ok (.iload_n 1, 1) := by decide +kernel
theorem dX7_isNode_5 : decode cX7_isNode 5 = .ok (.aload_n 0, 1) := by decide +kernel
theorem dX7_isNode_6 : decode cX7_isNode 6 = .ok (.getfield 172, 3) := by decide +kernel
theorem dX7_isNode_9 : decode cX7_isNode 9 = .ok (.if_icmp .ge 7, 3) := by decide +kernel
theorem dX7_isNode_12 : decode cX7_isNode 12 = .ok (.iconst 1, 1) := by decide +kernel
theorem dX7_isNode_13 : decode cX7_isNode 13 = .ok (.goto 4, 3) := by decide +kernel
theorem dX7_isNode_16 : decode cX7_isNode 16 = .ok (.iconst 0, 1) := by decide +kernel
theorem dX7_isNode_17 : decode cX7_isNode 17 = .ok (.ireturn, 1) := by decide +kernel
theorem dX7_node_0 : decode cX7_node 0 = .ok (.aload_n 0, 1) := by decide +kernel
theorem dX7_node_1 : decode cX7_node 1 = .ok (.iconst 0, 1) := by decide +kernel
theorem dX7_node_2 : decode cX7_node 2 = .ok (.putfield 81, 3) := by decide +kernel
theorem dX7_node_5 : decode cX7_node 5 = .ok (.aload_n 0, 1) := by decide +kernel
theorem dX7_node_6 : decode cX7_node 6 = .ok (.getfield 172, 3) := by decide +kernel
theorem dX7_node_9 : decode cX7_node 9 = .ok (.bipush 8, 2) := by decide +kernel
theorem dX7_node_11 : decode cX7_node 11 = .ok (.if_icmp .ne 5, 3) := by decide +kernel
theorem dX7_node_14 : decode cX7_node 14 = .ok (.iconst (-1), 1) := by decide +kernel
theorem dX7_node_15 : decode cX7_node 15 = .ok (.ireturn, 1) := by decide +kernel
theorem dX7_node_16 : decode cX7_node 16 = .ok (.aload_n 0, 1) := by decide +kernel
theorem dX7_node_17 : decode cX7_node 17 = .ok (.dup, 1) := by decide +kernel
theorem dX7_node_18 : decode cX7_node 18 = .ok (.getfield 172, 3) := by decide +kernel
theorem dX7_node_21 : decode cX7_node 21 = .ok (.iconst 1, 1) := by decide +kernel
theorem dX7_node_22 : decode cX7_node 22 = .ok (.iadd, 1) := by decide +kernel
theorem dX7_node_23 : decode cX7_node 23 = .ok (.putfield 172, 3) := by decide +kernel
theorem dX7_node_26 : decode cX7_node 26 = .ok (.iconst 0, 1) := by decide +kernel
theorem dX7_node_27 : decode cX7_node 27 = .ok (.istore_n 1, 1) := by decide +kernel
theorem dX7_node_28 : decode cX7_node 28 = .ok (.iload_n 1, 1) := by decide +kernel
theorem dX7_node_29 : decode cX7_node 29 = .ok (.aload_n 0, 1) := by decide +kernel
theorem dX7_node_30 : decode cX7_node 30 = .ok (.getfield 172, 3) := by decide +kernel
theorem dX7_node_33 : decode cX7_node 33 = .ok (.if_icmp .ge 16, 3) := by decide +kernel
theorem dX7_node_36 : decode cX7_node 36 = .ok (.aload_n 0, 1) := by decide +kernel
theorem dX7_node_37 : decode cX7_node 37 = .ok (.getfield 55, 3) := by decide +kernel
theorem dX7_node_40 : decode cX7_node 40 = .ok (.iload_n 1, 1) := by decide +kernel
theorem dX7_node_41 : decode cX7_node 41 = .ok (.iload_n 1, 1) := by decide +kernel
theorem dX7_node_42 : decode cX7_node 42 = .ok (.iastore, 1) := by decide +kernel
theorem dX7_node_43 : decode cX7_node 43 = .ok (.iinc 1 1, 3) := by decide +kernel
theorem dX7_node_46 : decode cX7_node 46 = .ok (.goto (-18), 3) := by decide +kernel
theorem dX7_node_49 : decode cX7_node 49 = .ok (.aload_n 0, 1) := by decide +kernel
theorem dX7_node_50 : decode cX7_node 50 = .ok (.getfield 172, 3) := by decide +kernel
theorem dX7_node_53 : decode cX7_node 53 = .ok (.iconst 1, 1) := by decide +kernel
theorem dX7_node_54 : decode cX7_node 54 = .ok (.isub, 1) := by decide +kernel
theorem dX7_node_55 : decode cX7_node 55 = .ok (.ireturn, 1) := by decide +kernel
theorem dX7_isJoined_0 : decode cX7_isJoined 0 = .ok (.aload_n 0, 1) := by decide +kernel
theorem dX7_isJoined_1 : decode cX7_isJoined 1 = .ok (.getfield 51, 3) := by decide +kernel
theorem dX7_isJoined_4 : decode cX7_isJoined 4 = .ok (.bipush 8, 2) := by decide +kernel
theorem dX7_isJoined_6 : decode cX7_isJoined 6 = .ok (.iload_n 1, 1) := by decide +kernel
theorem dX7_isJoined_7 : decode cX7_isJoined 7 = .ok (.imul, 1) := by decide +kernel
theorem dX7_isJoined_8 : decode cX7_isJoined 8 = .ok (.iload_n 2, 1) := by decide +kernel
theorem dX7_isJoined_9 : decode cX7_isJoined 9 = .ok (.iadd, 1) := by decide +kernel
theorem dX7_isJoined_10 : decode cX7_isJoined 10 = .ok (.baload, 1) := by decide +kernel
theorem dX7_isJoined_11 : decode cX7_isJoined 11 = .ok (.ireturn, 1) := by decide +kernel
theorem dX7_join_0 : decode cX7_join 0 = .ok (.aload_n 0, 1) := by decide +kernel
theorem dX7_join_1 : decode cX7_join 1 = .ok (.iconst 1, 1) := by decide +kernel
theorem dX7_join_2 : decode cX7_join 2 = .ok (.aload_n 0, 1) := by decide +kernel
theorem dX7_join_3 : decode cX7_join 3 = .ok (.iload_n 1, 1) := by decide +kernel
theorem dX7_join_4 : decode cX7_join 4 = .ok (.invokevirtual 175, 3) := by decide +kernel
theorem dX7_join_7 : decode cX7_join 7 = .ok (.ifCond .eq 11, 3) := by decide +kernel
theorem dX7_join_10 : decode cX7_join 10 = .ok (.aload_n 0, 1) := by decide +kernel
theorem dX7_join_11 : decode cX7_join 11 = .ok (.iload_n 2, 1) := by decide +kernel
theorem dX7_join_12 : decode cX7_join 12 = .ok (.invokevirtual 175, 3) := by decide +kernel
theorem dX7_join_15 : decode cX7_join 15 = .ok (.ifCond .ne 7, 3) := by decide +kernel
theorem dX7_join_18 : decode cX7_join 18 = .ok (.iconst 1, 1) := by decide +kernel
theorem dX7_join_19 : decode cX7_join 19 = .ok (.goto 4, 3) := by decide +kernel
theorem dX7_join_22 : decode cX7_join 22 = .ok (.iconst 0, 1) := by decide +kernel
theorem dX7_join_23 : decode cX7_join 23 = .ok (.invokevirtual 94, 3) := by decide +kernel
theorem dX7_join_26 : decode cX7_join 26 = .ok (.ifCond .ne 17, 3) := by decide +kernel
theorem dX7_join_29 : decode cX7_join 29 = .ok (.iload_n 1, 1) := by decide +kernel
theorem dX7_join_30 : decode cX7_join 30 = .ok (.iload_n 2, 1) := by decide +kernel
theorem dX7_join_31 : decode cX7_join 31 = .ok (.if_icmp .eq 12, 3) := by decide +kernel
theorem dX7_join_34 : decode cX7_join 34 = .ok (.aload_n 0, 1) := by decide +kernel
theorem dX7_join_35 : decode cX7_join 35 = .ok (.iload_n 1, 1) := by decide +kernel
theorem dX7_join_36 : decode cX7_join 36 = .ok (.iload_n 2, 1) := by decide +kernel
theorem dX7_join_37 : decode cX7_join 37 = .ok (.invokevirtual 178, 3) := by decide +kernel
theorem dX7_join_40 : decode cX7_join 40 = .ok (.ifCond .eq 5, 3) := by decide +kernel
theorem dX7_join_43 : decode cX7_join 43 = .ok (.iconst 0, 1) := by decide +kernel
theorem dX7_join_44 : decode cX7_join 44 = .ok (.ireturn, 1) := by decide +kernel
theorem dX7_join_45 : decode cX7_join 45 = .ok (.aload_n 0, 1) := by decide +kernel
theorem dX7_join_46 : decode cX7_join 46 = .ok (.getfield 51, 3) := by decide +kernel
theorem dX7_join_49 : decode cX7_join 49 = .ok (.bipush 8, 2) := by decide +kernel
theorem dX7_join_51 : decode cX7_join 51 = .ok (.iload_n 1, 1) := by decide +kernel
theorem dX7_join_52 : decode cX7_join 52 = .ok (.imul, 1) := by decide +kernel
theorem dX7_join_53 : decode cX7_join 53 = .ok (.iload_n 2, 1) := by decide +kernel
theorem dX7_join_54 : decode cX7_join 54 = .ok (.iadd, 1) := by decide +kernel
theorem dX7_join_55 : decode cX7_join 55 = .ok (.iconst 1, 1) := by decide +kernel
theorem dX7_join_56 : decode cX7_join 56 = .ok (.bastore, 1) := by decide +kernel
theorem dX7_join_57 : decode cX7_join 57 = .ok (.aload_n 0, 1) := by decide +kernel
theorem dX7_join_58 : decode cX7_join 58 = .ok (.getfield 51, 3) := by decide +kernel
theorem dX7_join_61 : decode cX7_join 61 = .ok (.bipush 8, 2) := by decide +kernel
theorem dX7_join_63 : decode cX7_join 63 = .ok (.iload_n 2, 1) := by decide +kernel
theorem dX7_join_64 : decode cX7_join 64 = .ok (.imul, 1) := by decide +kernel
theorem dX7_join_65 : decode cX7_join 65 = .ok (.iload_n 1, 1) := by decide +kernel
theorem dX7_join_66 : decode cX7_join 66 = .ok (.iadd, 1) := by decide +kernel
theorem dX7_join_67 : decode cX7_join 67 = .ok (.iconst 1, 1) := by decide +kernel
theorem dX7_join_68 : decode cX7_join 68 = .ok (.bastore, 1) := by decide +kernel
theorem dX7_join_69 : decode cX7_join 69 = .ok (.iconst 1, 1) := by decide +kernel
theorem dX7_join_70 : decode cX7_join 70 = .ok (.ireturn, 1) := by decide +kernel
theorem dX7_tile_0 : decode cX7_tile 0 = .ok (.aload_n 0, 1) := by decide +kernel
theorem dX7_tile_1 : decode cX7_tile 1 = .ok (.iconst 1, 1) := by decide +kernel
theorem dX7_tile_2 : decode cX7_tile 2 = .ok (.aload_n 0, 1) := by decide +kernel
theorem dX7_tile_3 : decode cX7_tile 3 = .ok (.iload_n 1, 1) := by decide +kernel
theorem dX7_tile_4 : decode cX7_tile 4 = .ok (.invokevirtual 175, 3) := by decide +kernel
theorem dX7_tile_7 : decode cX7_tile 7 = .ok (.ifCond .ne 7, 3) := by decide +kernel
theorem dX7_tile_10 : decode cX7_tile 10 = .ok (.iconst 1, 1) := by decide +kernel
theorem dX7_tile_11 : decode cX7_tile 11 = .ok (.goto 4, 3) := by decide +kernel
theorem dX7_tile_14 : decode cX7_tile 14 = .ok (.iconst 0, 1) := by decide +kernel
theorem dX7_tile_15 : decode cX7_tile 15 = .ok (.invokevirtual 94, 3) := by decide +kernel
theorem dX7_tile_18 : decode cX7_tile 18 = .ok (.ifCond .eq 7, 3) := by decide +kernel
theorem dX7_tile_21 : decode cX7_tile 21 = .ok (.iconst 0, 1) := by decide +kernel
theorem dX7_tile_22 : decode cX7_tile 22 = .ok (.goto 9, 3) := by decide +kernel
theorem dX7_tile_25 : decode cX7_tile 25 = .ok (.aload_n 0, 1) := by decide +kernel
theorem dX7_tile_26 : decode cX7_tile 26 = .ok (.getfield 55, 3) := by decide +kernel
theorem dX7_tile_29 : decode cX7_tile 29 = .ok (.iload_n 1, 1) := by decide +kernel
theorem dX7_tile_30 : decode cX7_tile 30 = .ok (.iaload, 1) := by decide +kernel
theorem dX7_tile_31 : decode cX7_tile 31 = .ok (.ireturn, 1) := by decide +kernel
theorem dX7_gap_0 : decode cX7_gap 0 = .ok (.iconst 0, 1) := by decide +kernel
theorem dX7_gap_1 : decode cX7_gap 1 = .ok (.istore_n 1, 1) := by decide +kernel
theorem dX7_gap_2 : decode cX7_gap 2 = .ok (.aload_n 0, 1) := by decide +kernel
theorem dX7_gap_3 : decode cX7_gap 3 = .ok (.getfield 55, 3) := by decide +kernel
theorem dX7_gap_6 : decode cX7_gap 6 = .ok (.iload_n 1, 1) := by decide +kernel
theorem dX7_gap_7 : decode cX7_gap 7 = .ok (.iaload, 1) := by decide +kernel
theorem dX7_gap_8 : decode cX7_gap 8 = .ok (.ifCond .eq 9, 3) := by decide +kernel
theorem dX7_gap_11 : decode cX7_gap 11 = .ok (.iinc 1 1, 3) := by decide +kernel
theorem dX7_gap_14 : decode cX7_gap 14 = .ok (.goto (-12), 3) := by decide +kernel
theorem dX7_gap_17 : decode cX7_gap 17 = .ok (.iload_n 1, 1) := by decide +kernel
theorem dX7_gap_18 : decode cX7_gap 18 = .ok (.ireturn, 1) := by decide +kernel
theorem dX7_exchange_0 : decode cX7_exchange 0 = .ok (.aload_n 0, 1) := by decide +kernel
theorem dX7_exchange_1 : decode cX7_exchange 1 = .ok (.getfield 55, 3) := by decide +kernel
theorem dX7_exchange_4 : decode cX7_exchange 4 = .ok (.iload_n 1, 1) := by decide +kernel
theorem dX7_exchange_5 : decode cX7_exchange 5 = .ok (.iaload, 1) := by decide +kernel
theorem dX7_exchange_6 : decode cX7_exchange 6 = .ok (.istore_n 3, 1) := by decide +kernel
theorem dX7_exchange_7 : decode cX7_exchange 7 = .ok (.aload_n 0, 1) := by decide +kernel
theorem dX7_exchange_8 : decode cX7_exchange 8 = .ok (.getfield 55, 3) := by decide +kernel
theorem dX7_exchange_11 : decode cX7_exchange 11 = .ok (.iload_n 1, 1) := by decide +kernel
theorem dX7_exchange_12 : decode cX7_exchange 12 = .ok (.aload_n 0, 1) := by decide +kernel
theorem dX7_exchange_13 : decode cX7_exchange 13 = .ok (.getfield 55, 3) := by decide +kernel
theorem dX7_exchange_16 : decode cX7_exchange 16 = .ok (.iload_n 2, 1) := by decide +kernel
theorem dX7_exchange_17 : decode cX7_exchange 17 = .ok (.iaload, 1) := by decide +kernel
theorem dX7_exchange_18 : decode cX7_exchange 18 = .ok (.iastore, 1) := by decide +kernel
theorem dX7_exchange_19 : decode cX7_exchange 19 = .ok (.aload_n 0, 1) := by decide +kernel
theorem dX7_exchange_20 : decode cX7_exchange 20 = .ok (.getfield 55, 3) := by decide +kernel
theorem dX7_exchange_23 : decode cX7_exchange 23 = .ok (.iload_n 2, 1) := by decide +kernel
theorem dX7_exchange_24 : decode cX7_exchange 24 = .ok (.iload_n 3, 1) := by decide +kernel
theorem dX7_exchange_25 : decode cX7_exchange 25 = .ok (.iastore, 1) := by decide +kernel
theorem dX7_exchange_26 : decode cX7_exchange 26 = .ok (.return_, 1) := by decide +kernel
theorem dX7_shift_0 : decode cX7_shift 0 = .ok (.aload_n 0, 1) := by decide +kernel
theorem dX7_shift_1 : decode cX7_shift 1 = .ok (.iconst 1, 1) := by decide +kernel
theorem dX7_shift_2 : decode cX7_shift 2 = .ok (.aload_n 0, 1) := by decide +kernel
theorem dX7_shift_3 : decode cX7_shift 3 = .ok (.iload_n 1, 1) := by decide +kernel
theorem dX7_shift_4 : decode cX7_shift 4 = .ok (.invokevirtual 175, 3) := by decide +kernel
theorem dX7_shift_7 : decode cX7_shift 7 = .ok (.ifCond .ne 7, 3) := by decide +kernel
theorem dX7_shift_10 : decode cX7_shift 10 = .ok (.iconst 1, 1) := by decide +kernel
theorem dX7_shift_11 : decode cX7_shift 11 = .ok (.goto 4, 3) := by decide +kernel
theorem dX7_shift_14 : decode cX7_shift 14 = .ok (.iconst 0, 1) := by decide +kernel
theorem dX7_shift_15 : decode cX7_shift 15 = .ok (.invokevirtual 94, 3) := by decide +kernel
theorem dX7_shift_18 : decode cX7_shift 18 = .ok (.ifCond .ne 24, 3) := by decide +kernel
theorem dX7_shift_21 : decode cX7_shift 21 = .ok (.aload_n 0, 1) := by decide +kernel
theorem dX7_shift_22 : decode cX7_shift 22 = .ok (.getfield 55, 3) := by decide +kernel
theorem dX7_shift_25 : decode cX7_shift 25 = .ok (.iload_n 1, 1) := by decide +kernel
theorem dX7_shift_26 : decode cX7_shift 26 = .ok (.iaload, 1) := by decide +kernel
theorem dX7_shift_27 : decode cX7_shift 27 = .ok (.ifCond .eq 15, 3) := by decide +kernel
theorem dX7_shift_30 : decode cX7_shift 30 = .ok (.aload_n 0, 1) := by decide +kernel
theorem dX7_shift_31 : decode cX7_shift 31 = .ok (.iload_n 1, 1) := by decide +kernel
theorem dX7_shift_32 : decode cX7_shift 32 = .ok (.aload_n 0, 1) := by decide +kernel
theorem dX7_shift_33 : decode cX7_shift 33 = .ok (.invokevirtual 181, 3) := by decide +kernel
theorem dX7_shift_36 : decode cX7_shift 36 = .ok (.invokevirtual 178, 3) := by decide +kernel
theorem dX7_shift_39 : decode cX7_shift 39 = .ok (.ifCond .ne 5, 3) := by decide +kernel
theorem dX7_shift_42 : decode cX7_shift 42 = .ok (.iconst 0, 1) := by decide +kernel
theorem dX7_shift_43 : decode cX7_shift 43 = .ok (.ireturn, 1) := by decide +kernel
theorem dX7_shift_44 : decode cX7_shift 44 = .ok (.aload_n 0, 1) := by decide +kernel
theorem dX7_shift_45 : decode cX7_shift 45 = .ok (.iload_n 1, 1) := by decide +kernel
theorem dX7_shift_46 : decode cX7_shift 46 = .ok (.aload_n 0, 1) := by decide +kernel
theorem dX7_shift_47 : decode cX7_shift 47 = .ok (.invokevirtual 181, 3) := by decide +kernel
theorem dX7_shift_50 : decode cX7_shift 50 = .ok (.invokevirtual 184, 3) := by decide +kernel
theorem dX7_shift_53 : decode cX7_shift 53 = .ok (.iconst 1, 1) := by decide +kernel
theorem dX7_shift_54 : decode cX7_shift 54 = .ok (.ireturn, 1) := by decide +kernel
theorem dX7_swap_0 : decode cX7_swap 0 = .ok (.aload_n 0, 1) := by decide +kernel
theorem dX7_swap_1 : decode cX7_swap 1 = .ok (.iconst 1, 1) := by decide +kernel
theorem dX7_swap_2 : decode cX7_swap 2 = .ok (.aload_n 0, 1) := by decide +kernel
theorem dX7_swap_3 : decode cX7_swap 3 = .ok (.iload_n 1, 1) := by decide +kernel
theorem dX7_swap_4 : decode cX7_swap 4 = .ok (.invokevirtual 175, 3) := by decide +kernel
theorem dX7_swap_7 : decode cX7_swap 7 = .ok (.ifCond .eq 11, 3) := by decide +kernel
theorem dX7_swap_10 : decode cX7_swap 10 = .ok (.aload_n 0, 1) := by decide +kernel
theorem dX7_swap_11 : decode cX7_swap 11 = .ok (.iload_n 2, 1) := by decide +kernel
theorem dX7_swap_12 : decode cX7_swap 12 = .ok (.invokevirtual 175, 3) := by decide +kernel
theorem dX7_swap_15 : decode cX7_swap 15 = .ok (.ifCond .ne 7, 3) := by decide +kernel
theorem dX7_swap_18 : decode cX7_swap 18 = .ok (.iconst 1, 1) := by decide +kernel
theorem dX7_swap_19 : decode cX7_swap 19 = .ok (.goto 4, 3) := by decide +kernel
theorem dX7_swap_22 : decode cX7_swap 22 = .ok (.iconst 0, 1) := by decide +kernel
theorem dX7_swap_23 : decode cX7_swap 23 = .ok (.invokevirtual 94, 3) := by decide +kernel
theorem dX7_swap_26 : decode cX7_swap 26 = .ok (.ifCond .ne 8, 3) := by decide +kernel
theorem dX7_swap_29 : decode cX7_swap 29 = .ok (.iload_n 1, 1) := by decide +kernel
theorem dX7_swap_30 : decode cX7_swap 30 = .ok (.iload_n 2, 1) := by decide +kernel
theorem dX7_swap_31 : decode cX7_swap 31 = .ok (.if_icmp .ne 5, 3) := by decide +kernel
theorem dX7_swap_34 : decode cX7_swap 34 = .ok (.iconst 0, 1) := by decide +kernel
theorem dX7_swap_35 : decode cX7_swap 35 = .ok (.ireturn, 1) := by decide +kernel
theorem dX7_swap_36 : decode cX7_swap 36 = .ok (.aload_n 0, 1) := by decide +kernel
theorem dX7_swap_37 : decode cX7_swap 37 = .ok (.iload_n 1, 1) := by decide +kernel
theorem dX7_swap_38 : decode cX7_swap 38 = .ok (.iload_n 2, 1) := by decide +kernel
theorem dX7_swap_39 : decode cX7_swap 39 = .ok (.invokevirtual 184, 3) := by decide +kernel
theorem dX7_swap_42 : decode cX7_swap 42 = .ok (.iconst 1, 1) := by decide +kernel
theorem dX7_swap_43 : decode cX7_swap 43 = .ok (.ireturn, 1) := by decide +kernel
theorem dX7_measure_0 : decode cX7_measure 0 = .ok (.iconst 0, 1) := by decide +kernel
theorem dX7_measure_1 : decode cX7_measure 1 = .ok (.istore_n 2, 1) := by decide +kernel
theorem dX7_measure_2 : decode cX7_measure 2 = .ok (.iload_n 2, 1) := by decide +kernel
theorem dX7_measure_3 : decode cX7_measure 3 = .ok (.aload_n 0, 1) := by decide +kernel
theorem dX7_measure_4 : decode cX7_measure 4 = .ok (.getfield 172, 3) := by decide +kernel
theorem dX7_measure_7 : decode cX7_measure 7 = .ok (.if_icmp .ge 26, 3) := by decide +kernel
theorem dX7_measure_10 : decode cX7_measure 10 = .ok (.aload_n 0, 1) := by decide +kernel
theorem dX7_measure_11 : decode cX7_measure 11 = .ok (.getfield 71, 3) := by decide +kernel
theorem dX7_measure_14 : decode cX7_measure 14 = .ok (.iload_n 2, 1) := by decide +kernel
theorem dX7_measure_15 : decode cX7_measure 15 = .ok (.iload_n 2, 1) := by decide +kernel
theorem dX7_measure_16 : decode cX7_measure 16 = .ok (.iload_n 1, 1) := by decide +kernel
theorem dX7_measure_17 : decode cX7_measure 17 = .ok (.if_icmp .ne 7, 3) := by decide +kernel
theorem dX7_measure_20 : decode cX7_measure 20 = .ok (.iconst 0, 1) := by decide +kernel
theorem dX7_measure_21 : decode cX7_measure 21 = .ok (.goto 5, 3) := by decide +kernel
theorem dX7_measure_24 : decode cX7_measure 24 = .ok (.bipush 99, 2) := by decide +kernel
theorem dX7_measure_26 : decode cX7_measure 26 = .ok (.iastore, 1) := by decide +kernel
theorem dX7_measure_27 : decode cX7_measure 27 = .ok (.iinc 2 1, 3) := by decide +kernel
theorem dX7_measure_30 : decode cX7_measure 30 = .ok (.goto (-28), 3) := by decide +kernel
theorem dX7_measure_33 : decode cX7_measure 33 = .ok (.iconst 0, 1) := by decide +kernel
theorem dX7_measure_34 : decode cX7_measure 34 = .ok (.istore_n 2, 1) := by decide +kernel
theorem dX7_measure_35 : decode cX7_measure 35 = .ok (.iload_n 2, 1) := by decide +kernel
theorem dX7_measure_36 : decode cX7_measure 36 = .ok (.aload_n 0, 1) := by decide +kernel
theorem dX7_measure_37 : decode cX7_measure 37 = .ok (.getfield 172, 3) := by decide +kernel
theorem dX7_measure_40 : decode cX7_measure 40 = .ok (.if_icmp .ge 86, 3) := by decide +kernel
theorem dX7_measure_43 : decode cX7_measure 43 = .ok (.iconst 0, 1) := by decide +kernel
theorem dX7_measure_44 : decode cX7_measure 44 = .ok (.istore_n 3, 1) := by decide +kernel
theorem dX7_measure_45 : decode cX7_measure 45 = .ok (.iload_n 3, 1) := by decide +kernel
theorem dX7_measure_46 : decode cX7_measure 46 = .ok (.aload_n 0, 1) := by decide +kernel
theorem dX7_measure_47 : decode cX7_measure 47 = .ok (.getfield 172, 3) := by decide +kernel
theorem dX7_measure_50 : decode cX7_measure 50 = .ok (.if_icmp .ge 70, 3) := by decide +kernel
theorem dX7_measure_53 : decode cX7_measure 53 = .ok (.iconst 0, 1) := by decide +kernel
theorem dX7_measure_54 : decode cX7_measure 54 = .ok (.istore 4, 2) := by decide +kernel
theorem dX7_measure_56 : decode cX7_measure 56 = .ok (.iload 4, 2) := by decide +kernel
theorem dX7_measure_58 : decode cX7_measure 58 = .ok (.aload_n 0, 1) := by decide +kernel
theorem dX7_measure_59 : decode cX7_measure 59 = .ok (.getfield 172, 3) := by decide +kernel
theorem dX7_measure_62 : decode cX7_measure 62 = .ok (.if_icmp .ge 52, 3) := by decide +kernel
theorem dX7_measure_65 : decode cX7_measure 65 = .ok (.aload_n 0, 1) := by decide +kernel
theorem dX7_measure_66 : decode cX7_measure 66 = .ok (.iload_n 3, 1) := by decide +kernel
theorem dX7_measure_67 : decode cX7_measure 67 = .ok (.iload 4, 2) := by decide +kernel
theorem dX7_measure_69 : decode cX7_measure 69 = .ok (.invokevirtual 178, 3) := by decide +kernel
theorem dX7_measure_72 : decode cX7_measure 72 = .ok (.ifCond .eq 36, 3) := by decide +kernel
theorem dX7_measure_75 : decode cX7_measure 75 = .ok (.aload_n 0, 1) := by decide +kernel
theorem dX7_measure_76 : decode cX7_measure 76 = .ok (.getfield 71, 3) := by decide +kernel
theorem dX7_measure_79 : decode cX7_measure 79 = .ok (.iload_n 3, 1) := by decide +kernel
theorem dX7_measure_80 : decode cX7_measure 80 = .ok (.iaload, 1) := by decide +kernel
theorem dX7_measure_81 : decode cX7_measure 81 = .ok (.iconst 1, 1) := by decide +kernel
theorem dX7_measure_82 : decode cX7_measure 82 = .ok (.iadd, 1) := by decide +kernel
theorem dX7_measure_83 : decode cX7_measure 83 = .ok (.aload_n 0, 1) := by decide +kernel
theorem dX7_measure_84 : decode cX7_measure 84 = .ok (.getfield 71, 3) := by decide +kernel
theorem dX7_measure_87 : decode cX7_measure 87 = .ok (.iload 4, 2) := by decide +kernel
theorem dX7_measure_89 : decode cX7_measure 89 = .ok (.iaload, 1) := by decide +kernel
theorem dX7_measure_90 : decode cX7_measure 90 = .ok (.if_icmp .ge 18, 3) := by decide +kernel
theorem dX7_measure_93 : decode cX7_measure 93 = .ok (.aload_n 0, 1) := by decide +kernel
theorem dX7_measure_94 : decode cX7_measure 94 = .ok (.getfield 71, 3) := by decide +kernel
theorem dX7_measure_97 : decode cX7_measure 97 = .ok (.iload 4, 2) := by decide +kernel
theorem dX7_measure_99 : decode cX7_measure 99 = .ok (.aload_n 0, 1) := by decide +kernel
theorem dX7_measure_100 : decode cX7_measure 100 = .ok (.getfield 71, 3) := by decide +kernel
theorem dX7_measure_103 : decode cX7_measure 103 = .ok (.iload_n 3, 1) := by decide +kernel
theorem dX7_measure_104 : decode cX7_measure 104 = .ok (.iaload, 1) := by decide +kernel
theorem dX7_measure_105 : decode cX7_measure 105 = .ok (.iconst 1, 1) := by decide +kernel
theorem dX7_measure_106 : decode cX7_measure 106 = .ok (.iadd, 1) := by decide +kernel
theorem dX7_measure_107 : decode cX7_measure 107 = .ok (.iastore, 1) := by decide +kernel
theorem dX7_measure_108 : decode cX7_measure 108 = .ok (.iinc 4 1, 3) := by decide +kernel
theorem dX7_measure_111 : decode cX7_measure 111 = .ok (.goto (-55), 3) := by decide +kernel
theorem dX7_measure_114 : decode cX7_measure 114 = .ok (.iinc 3 1, 3) := by decide +kernel
theorem dX7_measure_117 : decode cX7_measure 117 = .ok (.goto (-72), 3) := by decide +kernel
theorem dX7_measure_120 : decode cX7_measure 120 = .ok (.iinc 2 1, 3) := by decide +kernel
theorem dX7_measure_123 : decode cX7_measure 123 = .ok (.goto (-88), 3) := by decide +kernel
theorem dX7_measure_126 : decode cX7_measure 126 = .ok (.return_, 1) := by decide +kernel
theorem dX7_isEven_0 : decode cX7_isEven 0 = .ok (.iconst 0, 1) := by decide +kernel
theorem dX7_isEven_1 : decode cX7_isEven 1 = .ok (.istore_n 1, 1) := by decide +kernel
theorem dX7_isEven_2 : decode cX7_isEven 2 = .ok (.iload_n 1, 1) := by decide +kernel
theorem dX7_isEven_3 : decode cX7_isEven 3 = .ok (.aload_n 0, 1) := by decide +kernel
theorem dX7_isEven_4 : decode cX7_isEven 4 = .ok (.getfield 172, 3) := by decide +kernel
theorem dX7_isEven_7 : decode cX7_isEven 7 = .ok (.if_icmp .ge 16, 3) := by decide +kernel
theorem dX7_isEven_10 : decode cX7_isEven 10 = .ok (.aload_n 0, 1) := by decide +kernel
theorem dX7_isEven_11 : decode cX7_isEven 11 = .ok (.getfield 68, 3) := by decide +kernel
theorem dX7_isEven_14 : decode cX7_isEven 14 = .ok (.iload_n 1, 1) := by decide +kernel
theorem dX7_isEven_15 : decode cX7_isEven 15 = .ok (.iconst (-1), 1) := by decide +kernel
theorem dX7_isEven_16 : decode cX7_isEven 16 = .ok (.iastore, 1) := by decide +kernel
theorem dX7_isEven_17 : decode cX7_isEven 17 = .ok (.iinc 1 1, 3) := by decide +kernel
theorem dX7_isEven_20 : decode cX7_isEven 20 = .ok (.goto (-18), 3) := by decide +kernel
theorem dX7_isEven_23 : decode cX7_isEven 23 = .ok (.iconst 0, 1) := by decide +kernel
theorem dX7_isEven_24 : decode cX7_isEven 24 = .ok (.istore_n 1, 1) := by decide +kernel
theorem dX7_isEven_25 : decode cX7_isEven 25 = .ok (.iload_n 1, 1) := by decide +kernel
theorem dX7_isEven_26 : decode cX7_isEven 26 = .ok (.aload_n 0, 1) := by decide +kernel
theorem dX7_isEven_27 : decode cX7_isEven 27 = .ok (.getfield 172, 3) := by decide +kernel
theorem dX7_isEven_30 : decode cX7_isEven 30 = .ok (.if_icmp .ge 76, 3) := by decide +kernel
theorem dX7_isEven_33 : decode cX7_isEven 33 = .ok (.aload_n 0, 1) := by decide +kernel
theorem dX7_isEven_34 : decode cX7_isEven 34 = .ok (.getfield 68, 3) := by decide +kernel
theorem dX7_isEven_37 : decode cX7_isEven 37 = .ok (.iload_n 1, 1) := by decide +kernel
theorem dX7_isEven_38 : decode cX7_isEven 38 = .ok (.iaload, 1) := by decide +kernel
theorem dX7_isEven_39 : decode cX7_isEven 39 = .ok (.ifCond .lt 6, 3) := by decide +kernel
theorem dX7_isEven_42 : decode cX7_isEven 42 = .ok (.goto 58, 3) := by decide +kernel
theorem dX7_isEven_45 : decode cX7_isEven 45 = .ok (.aload_n 0, 1) := by decide +kernel
theorem dX7_isEven_46 : decode cX7_isEven 46 = .ok (.iload_n 1, 1) := by decide +kernel
theorem dX7_isEven_47 : decode cX7_isEven 47 = .ok (.invokevirtual 188, 3) := by decide +kernel
theorem dX7_isEven_50 : decode cX7_isEven 50 = .ok (.iconst 0, 1) := by decide +kernel
theorem dX7_isEven_51 : decode cX7_isEven 51 = .ok (.istore_n 2, 1) := by decide +kernel
theorem dX7_isEven_52 : decode cX7_isEven 52 = .ok (.iload_n 2, 1) := by decide +kernel
theorem dX7_isEven_53 : decode cX7_isEven 53 = .ok (.aload_n 0, 1) := by decide +kernel
theorem dX7_isEven_54 : decode cX7_isEven 54 = .ok (.getfield 172, 3) := by decide +kernel
theorem dX7_isEven_57 : decode cX7_isEven 57 = .ok (.if_icmp .ge 43, 3) := by decide +kernel
theorem dX7_isEven_60 : decode cX7_isEven 60 = .ok (.aload_n 0, 1) := by decide +kernel
theorem dX7_isEven_61 : decode cX7_isEven 61 = .ok (.getfield 68, 3) := by decide +kernel
theorem dX7_isEven_64 : decode cX7_isEven 64 = .ok (.iload_n 2, 1) := by decide +kernel
theorem dX7_isEven_65 : decode cX7_isEven 65 = .ok (.aload_n 0, 1) := by decide +kernel
theorem dX7_isEven_66 : decode cX7_isEven 66 = .ok (.getfield 71, 3) := by decide +kernel
theorem dX7_isEven_69 : decode cX7_isEven 69 = .ok (.iload_n 2, 1) := by decide +kernel
theorem dX7_isEven_70 : decode cX7_isEven 70 = .ok (.iaload, 1) := by decide +kernel
theorem dX7_isEven_71 : decode cX7_isEven 71 = .ok (.bipush 99, 2) := by decide +kernel
theorem dX7_isEven_73 : decode cX7_isEven 73 = .ok (.if_icmp .ge 14, 3) := by decide +kernel
theorem dX7_isEven_76 : decode cX7_isEven 76 = .ok (.aload_n 0, 1) := by decide +kernel
theorem dX7_isEven_77 : decode cX7_isEven 77 = .ok (.getfield 71, 3) := by decide +kernel
theorem dX7_isEven_80 : decode cX7_isEven 80 = .ok (.iload_n 2, 1) := by decide +kernel
theorem dX7_isEven_81 : decode cX7_isEven 81 = .ok (.iaload, 1) := by decide +kernel
theorem dX7_isEven_82 : decode cX7_isEven 82 = .ok (.iconst 2, 1) := by decide +kernel
theorem dX7_isEven_83 : decode cX7_isEven 83 = .ok (.irem, 1) := by decide +kernel
theorem dX7_isEven_84 : decode cX7_isEven 84 = .ok (.goto 9, 3) := by decide +kernel
theorem dX7_isEven_87 : decode cX7_isEven 87 = .ok (.aload_n 0, 1) := by decide +kernel
theorem dX7_isEven_88 : decode cX7_isEven 88 = .ok (.getfield 68, 3) := by decide +kernel
theorem dX7_isEven_91 : decode cX7_isEven 91 = .ok (.iload_n 2, 1) := by decide +kernel
theorem dX7_isEven_92 : decode cX7_isEven 92 = .ok (.iaload, 1) := by decide +kernel
theorem dX7_isEven_93 : decode cX7_isEven 93 = .ok (.iastore, 1) := by decide +kernel
theorem dX7_isEven_94 : decode cX7_isEven 94 = .ok (.iinc 2 1, 3) := by decide +kernel
theorem dX7_isEven_97 : decode cX7_isEven 97 = .ok (.goto (-45), 3) := by decide +kernel
theorem dX7_isEven_100 : decode cX7_isEven 100 = .ok (.iinc 1 1, 3) := by decide +kernel
theorem dX7_isEven_103 : decode cX7_isEven 103 = .ok (.goto (-78), 3) := by decide +kernel
theorem dX7_isEven_106 : decode cX7_isEven 106 = .ok (.iconst 0, 1) := by decide +kernel
theorem dX7_isEven_107 : decode cX7_isEven 107 = .ok (.istore_n 1, 1) := by decide +kernel
theorem dX7_isEven_108 : decode cX7_isEven 108 = .ok (.iload_n 1, 1) := by decide +kernel
theorem dX7_isEven_109 : decode cX7_isEven 109 = .ok (.aload_n 0, 1) := by decide +kernel
theorem dX7_isEven_110 : decode cX7_isEven 110 = .ok (.getfield 172, 3) := by decide +kernel
theorem dX7_isEven_113 : decode cX7_isEven 113 = .ok (.if_icmp .ge 51, 3) := by decide +kernel
theorem dX7_isEven_116 : decode cX7_isEven 116 = .ok (.iconst 0, 1) := by decide +kernel
theorem dX7_isEven_117 : decode cX7_isEven 117 = .ok (.istore_n 2, 1) := by decide +kernel
theorem dX7_isEven_118 : decode cX7_isEven 118 = .ok (.iload_n 2, 1) := by decide +kernel
theorem dX7_isEven_119 : decode cX7_isEven 119 = .ok (.aload_n 0, 1) := by decide +kernel
theorem dX7_isEven_120 : decode cX7_isEven 120 = .ok (.getfield 172, 3) := by decide +kernel
theorem dX7_isEven_123 : decode cX7_isEven 123 = .ok (.if_icmp .ge 35, 3) := by decide +kernel
theorem dX7_isEven_126 : decode cX7_isEven 126 = .ok (.aload_n 0, 1) := by decide +kernel
theorem dX7_isEven_127 : decode cX7_isEven 127 = .ok (.iload_n 1, 1) := by decide +kernel
theorem dX7_isEven_128 : decode cX7_isEven 128 = .ok (.iload_n 2, 1) := by decide +kernel
theorem dX7_isEven_129 : decode cX7_isEven 129 = .ok (.invokevirtual 178, 3) := by decide +kernel
theorem dX7_isEven_132 : decode cX7_isEven 132 = .ok (.ifCond .eq 20, 3) := by decide +kernel
theorem dX7_isEven_135 : decode cX7_isEven 135 = .ok (.aload_n 0, 1) := by decide +kernel
theorem dX7_isEven_136 : decode cX7_isEven 136 = .ok (.getfield 68, 3) := by decide +kernel
theorem dX7_isEven_139 : decode cX7_isEven 139 = .ok (.iload_n 1, 1) := by decide +kernel
theorem dX7_isEven_140 : decode cX7_isEven 140 = .ok (.iaload, 1) := by decide +kernel
theorem dX7_isEven_141 : decode cX7_isEven 141 = .ok (.aload_n 0, 1) := by decide +kernel
theorem dX7_isEven_142 : decode cX7_isEven 142 = .ok (.getfield 68, 3) := by decide +kernel
theorem dX7_isEven_145 : decode cX7_isEven 145 = .ok (.iload_n 2, 1) := by decide +kernel
theorem dX7_isEven_146 : decode cX7_isEven 146 = .ok (.iaload, 1) := by decide +kernel
theorem dX7_isEven_147 : decode cX7_isEven 147 = .ok (.if_icmp .ne 5, 3) := by decide +kernel
theorem dX7_isEven_150 : decode cX7_isEven 150 = .ok (.iconst 0, 1) := by decide +kernel
theorem dX7_isEven_151 : decode cX7_isEven 151 = .ok (.ireturn, 1) := by decide +kernel
theorem dX7_isEven_152 : decode cX7_isEven 152 = .ok (.iinc 2 1, 3) := by decide +kernel
theorem dX7_isEven_155 : decode cX7_isEven 155 = .ok (.goto (-37), 3) := by decide +kernel
theorem dX7_isEven_158 : decode cX7_isEven 158 = .ok (.iinc 1 1, 3) := by decide +kernel
theorem dX7_isEven_161 : decode cX7_isEven 161 = .ok (.goto (-53), 3) := by decide +kernel
theorem dX7_isEven_164 : decode cX7_isEven 164 = .ok (.iconst 1, 1) := by decide +kernel
theorem dX7_isEven_165 : decode cX7_isEven 165 = .ok (.ireturn, 1) := by decide +kernel
theorem dX7_even_0 : decode cX7_even 0 = .ok (.aload_n 0, 1) := by decide +kernel
theorem dX7_even_1 : decode cX7_even 1 = .ok (.iconst 0, 1) := by decide +kernel
theorem dX7_even_2 : decode cX7_even 2 = .ok (.putfield 81, 3) := by decide +kernel
theorem dX7_even_5 : decode cX7_even 5 = .ok (.aload_n 0, 1) := by decide +kernel
theorem dX7_even_6 : decode cX7_even 6 = .ok (.invokevirtual 191, 3) := by decide +kernel
theorem dX7_even_9 : decode cX7_even 9 = .ok (.ireturn, 1) := by decide +kernel
theorem dX7_parity_0 : decode cX7_parity 0 = .ok (.aload_n 0, 1) := by decide +kernel
theorem dX7_parity_1 : decode cX7_parity 1 = .ok (.iconst 0, 1) := by decide +kernel
theorem dX7_parity_2 : decode cX7_parity 2 = .ok (.putfield 81, 3) := by decide +kernel
theorem dX7_parity_5 : decode cX7_parity 5 = .ok (.aload_n 0, 1) := by decide +kernel
theorem dX7_parity_6 : decode cX7_parity 6 = .ok (.getfield 172, 3) := by decide +kernel
theorem dX7_parity_9 : decode cX7_parity 9 = .ok (.ifCond .eq 10, 3) := by decide +kernel
theorem dX7_parity_12 : decode cX7_parity 12 = .ok (.aload_n 0, 1) := by decide +kernel
theorem dX7_parity_13 : decode cX7_parity 13 = .ok (.invokevirtual 191, 3) := by decide +kernel
theorem dX7_parity_16 : decode cX7_parity 16 = .ok (.ifCond .ne 5, 3) := by decide +kernel
theorem dX7_parity_19 : decode cX7_parity 19 = .ok (.iconst (-1), 1) := by decide +kernel
theorem dX7_parity_20 : decode cX7_parity 20 = .ok (.ireturn, 1) := by decide +kernel
theorem dX7_parity_21 : decode cX7_parity 21 = .ok (.iconst 0, 1) := by decide +kernel
theorem dX7_parity_22 : decode cX7_parity 22 = .ok (.istore_n 1, 1) := by decide +kernel
theorem dX7_parity_23 : decode cX7_parity 23 = .ok (.iconst 0, 1) := by decide +kernel
theorem dX7_parity_24 : decode cX7_parity 24 = .ok (.istore_n 2, 1) := by decide +kernel
theorem dX7_parity_25 : decode cX7_parity 25 = .ok (.iload_n 2, 1) := by decide +kernel
theorem dX7_parity_26 : decode cX7_parity 26 = .ok (.aload_n 0, 1) := by decide +kernel
theorem dX7_parity_27 : decode cX7_parity 27 = .ok (.getfield 172, 3) := by decide +kernel
theorem dX7_parity_30 : decode cX7_parity 30 = .ok (.if_icmp .ge 50, 3) := by decide +kernel
theorem dX7_parity_33 : decode cX7_parity 33 = .ok (.iload_n 2, 1) := by decide +kernel
theorem dX7_parity_34 : decode cX7_parity 34 = .ok (.iconst 1, 1) := by decide +kernel
theorem dX7_parity_35 : decode cX7_parity 35 = .ok (.iadd, 1) := by decide +kernel
theorem dX7_parity_36 : decode cX7_parity 36 = .ok (.istore_n 3, 1) := by decide +kernel
theorem dX7_parity_37 : decode cX7_parity 37 = .ok (.iload_n 3, 1) := by decide +kernel
theorem dX7_parity_38 : decode cX7_parity 38 = .ok (.aload_n 0, 1) := by decide +kernel
theorem dX7_parity_39 : decode cX7_parity 39 = .ok (.getfield 172, 3) := by decide +kernel
theorem dX7_parity_42 : decode cX7_parity 42 = .ok (.if_icmp .ge 32, 3) := by decide +kernel
theorem dX7_parity_45 : decode cX7_parity 45 = .ok (.iload_n 1, 1) := by decide +kernel
theorem dX7_parity_46 : decode cX7_parity 46 = .ok (.aload_n 0, 1) := by decide +kernel
theorem dX7_parity_47 : decode cX7_parity 47 = .ok (.getfield 55, 3) := by decide +kernel
theorem dX7_parity_50 : decode cX7_parity 50 = .ok (.iload_n 2, 1) := by decide +kernel
theorem dX7_parity_51 : decode cX7_parity 51 = .ok (.iaload, 1) := by decide +kernel
theorem dX7_parity_52 : decode cX7_parity 52 = .ok (.aload_n 0, 1) := by decide +kernel
theorem dX7_parity_53 : decode cX7_parity 53 = .ok (.getfield 55, 3) := by decide +kernel
theorem dX7_parity_56 : decode cX7_parity 56 = .ok (.iload_n 3, 1) := by decide +kernel
theorem dX7_parity_57 : decode cX7_parity 57 = .ok (.iaload, 1) := by decide +kernel
theorem dX7_parity_58 : decode cX7_parity 58 = .ok (.if_icmp .le 7, 3) := by decide +kernel
theorem dX7_parity_61 : decode cX7_parity 61 = .ok (.iconst 1, 1) := by decide +kernel
theorem dX7_parity_62 : decode cX7_parity 62 = .ok (.goto 4, 3) := by decide +kernel
theorem dX7_parity_65 : decode cX7_parity 65 = .ok (.iconst 0, 1) := by decide +kernel
theorem dX7_parity_66 : decode cX7_parity 66 = .ok (.iadd, 1) := by decide +kernel
theorem dX7_parity_67 : decode cX7_parity 67 = .ok (.istore_n 1, 1) := by decide +kernel
theorem dX7_parity_68 : decode cX7_parity 68 = .ok (.iinc 3 1, 3) := by decide +kernel
theorem dX7_parity_71 : decode cX7_parity 71 = .ok (.goto (-34), 3) := by decide +kernel
theorem dX7_parity_74 : decode cX7_parity 74 = .ok (.iinc 2 1, 3) := by decide +kernel
theorem dX7_parity_77 : decode cX7_parity 77 = .ok (.goto (-52), 3) := by decide +kernel
theorem dX7_parity_80 : decode cX7_parity 80 = .ok (.aload_n 0, 1) := by decide +kernel
theorem dX7_parity_81 : decode cX7_parity 81 = .ok (.aload_n 0, 1) := by decide +kernel
theorem dX7_parity_82 : decode cX7_parity 82 = .ok (.invokevirtual 181, 3) := by decide +kernel
theorem dX7_parity_85 : decode cX7_parity 85 = .ok (.invokevirtual 188, 3) := by decide +kernel
theorem dX7_parity_88 : decode cX7_parity 88 = .ok (.iconst 0, 1) := by decide +kernel
theorem dX7_parity_89 : decode cX7_parity 89 = .ok (.istore_n 2, 1) := by decide +kernel
theorem dX7_parity_90 : decode cX7_parity 90 = .ok (.aload_n 0, 1) := by decide +kernel
theorem dX7_parity_91 : decode cX7_parity 91 = .ok (.getfield 71, 3) := by decide +kernel
theorem dX7_parity_94 : decode cX7_parity 94 = .ok (.iload_n 2, 1) := by decide +kernel
theorem dX7_parity_95 : decode cX7_parity 95 = .ok (.iaload, 1) := by decide +kernel
theorem dX7_parity_96 : decode cX7_parity 96 = .ok (.bipush 99, 2) := by decide +kernel
theorem dX7_parity_98 : decode cX7_parity 98 = .ok (.if_icmp .ne 9, 3) := by decide +kernel
theorem dX7_parity_101 : decode cX7_parity 101 = .ok (.iinc 2 1, 3) := by decide +kernel
theorem dX7_parity_104 : decode cX7_parity 104 = .ok (.goto (-14), 3) := by decide +kernel
theorem dX7_parity_107 : decode cX7_parity 107 = .ok (.iload_n 1, 1) := by decide +kernel
theorem dX7_parity_108 : decode cX7_parity 108 = .ok (.aload_n 0, 1) := by decide +kernel
theorem dX7_parity_109 : decode cX7_parity 109 = .ok (.getfield 71, 3) := by decide +kernel
theorem dX7_parity_112 : decode cX7_parity 112 = .ok (.iload_n 2, 1) := by decide +kernel
theorem dX7_parity_113 : decode cX7_parity 113 = .ok (.iaload, 1) := by decide +kernel
theorem dX7_parity_114 : decode cX7_parity 114 = .ok (.iadd, 1) := by decide +kernel
theorem dX7_parity_115 : decode cX7_parity 115 = .ok (.iconst 2, 1) := by decide +kernel
theorem dX7_parity_116 : decode cX7_parity 116 = .ok (.irem, 1) := by decide +kernel
theorem dX7_parity_117 : decode cX7_parity 117 = .ok (.ireturn, 1) := by decide +kernel
theorem dX7_rank_0 : decode cX7_rank 0 = .ok (.iconst 0, 1) := by decide +kernel
theorem dX7_rank_1 : decode cX7_rank 1 = .ok (.istore_n 1, 1) := by decide +kernel
theorem dX7_rank_2 : decode cX7_rank 2 = .ok (.iconst 0, 1) := by decide +kernel
theorem dX7_rank_3 : decode cX7_rank 3 = .ok (.istore_n 2, 1) := by decide +kernel
theorem dX7_rank_4 : decode cX7_rank 4 = .ok (.iload_n 2, 1) := by decide +kernel
theorem dX7_rank_5 : decode cX7_rank 5 = .ok (.aload_n 0, 1) := by decide +kernel
theorem dX7_rank_6 : decode cX7_rank 6 = .ok (.getfield 172, 3) := by decide +kernel
theorem dX7_rank_9 : decode cX7_rank 9 = .ok (.if_icmp .ge 66, 3) := by decide +kernel
theorem dX7_rank_12 : decode cX7_rank 12 = .ok (.iconst 0, 1) := by decide +kernel
theorem dX7_rank_13 : decode cX7_rank 13 = .ok (.istore_n 3, 1) := by decide +kernel
theorem dX7_rank_14 : decode cX7_rank 14 = .ok (.iload_n 2, 1) := by decide +kernel
theorem dX7_rank_15 : decode cX7_rank 15 = .ok (.iconst 1, 1) := by decide +kernel
theorem dX7_rank_16 : decode cX7_rank 16 = .ok (.iadd, 1) := by decide +kernel
theorem dX7_rank_17 : decode cX7_rank 17 = .ok (.istore 4, 2) := by decide +kernel
theorem dX7_rank_19 : decode cX7_rank 19 = .ok (.iload 4, 2) := by decide +kernel
theorem dX7_rank_21 : decode cX7_rank 21 = .ok (.aload_n 0, 1) := by decide +kernel
theorem dX7_rank_22 : decode cX7_rank 22 = .ok (.getfield 172, 3) := by decide +kernel
theorem dX7_rank_25 : decode cX7_rank 25 = .ok (.if_icmp .ge 33, 3) := by decide +kernel
theorem dX7_rank_28 : decode cX7_rank 28 = .ok (.iload_n 3, 1) := by decide +kernel
theorem dX7_rank_29 : decode cX7_rank 29 = .ok (.aload_n 0, 1) := by decide +kernel
theorem dX7_rank_30 : decode cX7_rank 30 = .ok (.getfield 58, 3) := by decide +kernel
theorem dX7_rank_33 : decode cX7_rank 33 = .ok (.iload 4, 2) := by decide +kernel
theorem dX7_rank_35 : decode cX7_rank 35 = .ok (.iaload, 1) := by decide +kernel
theorem dX7_rank_36 : decode cX7_rank 36 = .ok (.aload_n 0, 1) := by decide +kernel
theorem dX7_rank_37 : decode cX7_rank 37 = .ok (.getfield 58, 3) := by decide +kernel
theorem dX7_rank_40 : decode cX7_rank 40 = .ok (.iload_n 2, 1) := by decide +kernel
theorem dX7_rank_41 : decode cX7_rank 41 = .ok (.iaload, 1) := by decide +kernel
theorem dX7_rank_42 : decode cX7_rank 42 = .ok (.if_icmp .ge 7, 3) := by decide +kernel
theorem dX7_rank_45 : decode cX7_rank 45 = .ok (.iconst 1, 1) := by decide +kernel
theorem dX7_rank_46 : decode cX7_rank 46 = .ok (.goto 4, 3) := by decide +kernel
theorem dX7_rank_49 : decode cX7_rank 49 = .ok (.iconst 0, 1) := by decide +kernel
theorem dX7_rank_50 : decode cX7_rank 50 = .ok (.iadd, 1) := by decide +kernel
theorem dX7_rank_51 : decode cX7_rank 51 = .ok (.istore_n 3, 1) := by decide +kernel
theorem dX7_rank_52 : decode cX7_rank 52 = .ok (.iinc 4 1, 3) := by decide +kernel
theorem dX7_rank_55 : decode cX7_rank 55 = .ok (.goto (-36), 3) := by decide +kernel
theorem dX7_rank_58 : decode cX7_rank 58 = .ok (.iload_n 1, 1) := by decide +kernel
theorem dX7_rank_59 : decode cX7_rank 59 = .ok (.aload_n 0, 1) := by decide +kernel
theorem dX7_rank_60 : decode cX7_rank 60 = .ok (.getfield 172, 3) := by decide +kernel
theorem dX7_rank_63 : decode cX7_rank 63 = .ok (.iload_n 2, 1) := by decide +kernel
theorem dX7_rank_64 : decode cX7_rank 64 = .ok (.isub, 1) := by decide +kernel
theorem dX7_rank_65 : decode cX7_rank 65 = .ok (.imul, 1) := by decide +kernel
theorem dX7_rank_66 : decode cX7_rank 66 = .ok (.iload_n 3, 1) := by decide +kernel
theorem dX7_rank_67 : decode cX7_rank 67 = .ok (.iadd, 1) := by decide +kernel
theorem dX7_rank_68 : decode cX7_rank 68 = .ok (.istore_n 1, 1) := by decide +kernel
theorem dX7_rank_69 : decode cX7_rank 69 = .ok (.iinc 2 1, 3) := by decide +kernel
theorem dX7_rank_72 : decode cX7_rank 72 = .ok (.goto (-68), 3) := by decide +kernel
theorem dX7_rank_75 : decode cX7_rank 75 = .ok (.iload_n 1, 1) := by decide +kernel
theorem dX7_rank_76 : decode cX7_rank 76 = .ok (.ireturn, 1) := by decide +kernel
theorem dX7_unrank_0 : decode cX7_unrank 0 = .ok (.iload_n 1, 1) := by decide +kernel
theorem dX7_unrank_1 : decode cX7_unrank 1 = .ok (.istore_n 2, 1) := by decide +kernel
theorem dX7_unrank_2 : decode cX7_unrank 2 = .ok (.aload_n 0, 1) := by decide +kernel
theorem dX7_unrank_3 : decode cX7_unrank 3 = .ok (.getfield 172, 3) := by decide +kernel
theorem dX7_unrank_6 : decode cX7_unrank 6 = .ok (.iconst 1, 1) := by decide +kernel
theorem dX7_unrank_7 : decode cX7_unrank 7 = .ok (.isub, 1) := by decide +kernel
theorem dX7_unrank_8 : decode cX7_unrank 8 = .ok (.istore_n 3, 1) := by decide +kernel
theorem dX7_unrank_9 : decode cX7_unrank 9 = .ok (.iload_n 3, 1) := by decide +kernel
theorem dX7_unrank_10 : decode cX7_unrank 10 = .ok (.ifCond .lt 32, 3) := by decide +kernel
theorem dX7_unrank_13 : decode cX7_unrank 13 = .ok (.aload_n 0, 1) := by decide +kernel
theorem dX7_unrank_14 : decode cX7_unrank 14 = .ok (.getfield 58, 3) := by decide +kernel
theorem dX7_unrank_17 : decode cX7_unrank 17 = .ok (.iload_n 3, 1) := by decide +kernel
theorem dX7_unrank_18 : decode cX7_unrank 18 = .ok (.iload_n 2, 1) := by decide +kernel
theorem dX7_unrank_19 : decode cX7_unrank 19 = .ok (.aload_n 0, 1) := by decide +kernel
theorem dX7_unrank_20 : decode cX7_unrank 20 = .ok (.getfield 172, 3) := by decide +kernel
theorem dX7_unrank_23 : decode cX7_unrank 23 = .ok (.iload_n 3, 1) := by decide +kernel
theorem dX7_unrank_24 : decode cX7_unrank 24 = .ok (.isub, 1) := by decide +kernel
theorem dX7_unrank_25 : decode cX7_unrank 25 = .ok (.irem, 1) := by decide +kernel
theorem dX7_unrank_26 : decode cX7_unrank 26 = .ok (.iastore, 1) := by decide +kernel
theorem dX7_unrank_27 : decode cX7_unrank 27 = .ok (.iload_n 2, 1) := by decide +kernel
theorem dX7_unrank_28 : decode cX7_unrank 28 = .ok (.aload_n 0, 1) := by decide +kernel
theorem dX7_unrank_29 : decode cX7_unrank 29 = .ok (.getfield 172, 3) := by decide +kernel
theorem dX7_unrank_32 : decode cX7_unrank 32 = .ok (.iload_n 3, 1) := by decide +kernel
theorem dX7_unrank_33 : decode cX7_unrank 33 = .ok (.isub, 1) := by decide +kernel
theorem dX7_unrank_34 : decode cX7_unrank 34 = .ok (.idiv, 1) := by decide +kernel
theorem dX7_unrank_35 : decode cX7_unrank 35 = .ok (.istore_n 2, 1) := by decide +kernel
theorem dX7_unrank_36 : decode cX7_unrank 36 = .ok (.iinc 3 (-1), 3) := by decide +kernel
theorem dX7_unrank_39 : decode cX7_unrank 39 = .ok (.goto (-30), 3) := by decide +kernel
theorem dX7_unrank_42 : decode cX7_unrank 42 = .ok (.aload_n 0, 1) := by decide +kernel
theorem dX7_unrank_43 : decode cX7_unrank 43 = .ok (.getfield 172, 3) := by decide +kernel
theorem dX7_unrank_46 : decode cX7_unrank 46 = .ok (.iconst 1, 1) := by decide +kernel
theorem dX7_unrank_47 : decode cX7_unrank 47 = .ok (.isub, 1) := by decide +kernel
theorem dX7_unrank_48 : decode cX7_unrank 48 = .ok (.istore_n 3, 1) := by decide +kernel
theorem dX7_unrank_49 : decode cX7_unrank 49 = .ok (.iload_n 3, 1) := by decide +kernel
theorem dX7_unrank_50 : decode cX7_unrank 50 = .ok (.ifCond .lt 60, 3) := by decide +kernel
theorem dX7_unrank_53 : decode cX7_unrank 53 = .ok (.iload_n 3, 1) := by decide +kernel
theorem dX7_unrank_54 : decode cX7_unrank 54 = .ok (.iconst 1, 1) := by decide +kernel
theorem dX7_unrank_55 : decode cX7_unrank 55 = .ok (.iadd, 1) := by decide +kernel
theorem dX7_unrank_56 : decode cX7_unrank 56 = .ok (.istore 4, 2) := by decide +kernel
theorem dX7_unrank_58 : decode cX7_unrank 58 = .ok (.iload 4, 2) := by decide +kernel
theorem dX7_unrank_60 : decode cX7_unrank 60 = .ok (.aload_n 0, 1) := by decide +kernel
theorem dX7_unrank_61 : decode cX7_unrank 61 = .ok (.getfield 172, 3) := by decide +kernel
theorem dX7_unrank_64 : decode cX7_unrank 64 = .ok (.if_icmp .ge 40, 3) := by decide +kernel
theorem dX7_unrank_67 : decode cX7_unrank 67 = .ok (.aload_n 0, 1) := by decide +kernel
theorem dX7_unrank_68 : decode cX7_unrank 68 = .ok (.getfield 58, 3) := by decide +kernel
theorem dX7_unrank_71 : decode cX7_unrank 71 = .ok (.iload 4, 2) := by decide +kernel
theorem dX7_unrank_73 : decode cX7_unrank 73 = .ok (.dup2, 1) := by decide +kernel
theorem dX7_unrank_74 : decode cX7_unrank 74 = .ok (.iaload, 1) := by decide +kernel
theorem dX7_unrank_75 : decode cX7_unrank 75 = .ok (.aload_n 0, 1) := by decide +kernel
theorem dX7_unrank_76 : decode cX7_unrank 76 = .ok (.getfield 58, 3) := by decide +kernel
theorem dX7_unrank_79 : decode cX7_unrank 79 = .ok (.iload 4, 2) := by decide +kernel
theorem dX7_unrank_81 : decode cX7_unrank 81 = .ok (.iaload, 1) := by decide +kernel
theorem dX7_unrank_82 : decode cX7_unrank 82 = .ok (.aload_n 0, 1) := by decide +kernel
theorem dX7_unrank_83 : decode cX7_unrank 83 = .ok (.getfield 58, 3) := by decide +kernel
theorem dX7_unrank_86 : decode cX7_unrank 86 = .ok (.iload_n 3, 1) := by decide +kernel
theorem dX7_unrank_87 : decode cX7_unrank 87 = .ok (.iaload, 1) := by decide +kernel
theorem dX7_unrank_88 : decode cX7_unrank 88 = .ok (.if_icmp .lt 7, 3) := by decide +kernel
theorem dX7_unrank_91 : decode cX7_unrank 91 = .ok (.iconst 1, 1) := by decide +kernel
theorem dX7_unrank_92 : decode cX7_unrank 92 = .ok (.goto 4, 3) := by decide +kernel
theorem dX7_unrank_95 : decode cX7_unrank 95 = .ok (.iconst 0, 1) := by decide +kernel
theorem dX7_unrank_96 : decode cX7_unrank 96 = .ok (.iadd, 1) := by decide +kernel
theorem dX7_unrank_97 : decode cX7_unrank 97 = .ok (.iastore, 1) := by decide +kernel
theorem dX7_unrank_98 : decode cX7_unrank 98 = .ok (.iinc 4 1, 3) := by decide +kernel
theorem dX7_unrank_101 : decode cX7_unrank 101 = .ok (.goto (-43), 3) := by decide +kernel
theorem dX7_unrank_104 : decode cX7_unrank 104 = .ok (.iinc 3 (-1), 3) := by decide +kernel
theorem dX7_unrank_107 : decode cX7_unrank 107 = .ok (.goto (-58), 3) := by decide +kernel
theorem dX7_unrank_110 : decode cX7_unrank 110 = .ok (.return_, 1) := by decide +kernel
theorem dX7_go_0 : decode cX7_go 0 = .ok (.iconst 0, 1) := by decide +kernel
theorem dX7_go_1 : decode cX7_go 1 = .ok (.istore_n 1, 1) := by decide +kernel
theorem dX7_go_2 : decode cX7_go 2 = .ok (.iload_n 1, 1) := by decide +kernel
theorem dX7_go_3 : decode cX7_go 3 = .ok (.ldc 61, 2) := by decide +kernel
theorem dX7_go_5 : decode cX7_go 5 = .ok (.if_icmp .ge 16, 3) := by decide +kernel
theorem dX7_go_8 : decode cX7_go 8 = .ok (.aload_n 0, 1) := by decide +kernel
theorem dX7_go_9 : decode cX7_go 9 = .ok (.getfield 62, 3) := by decide +kernel
theorem dX7_go_12 : decode cX7_go 12 = .ok (.iload_n 1, 1) := by decide +kernel
theorem dX7_go_13 : decode cX7_go 13 = .ok (.iconst 0, 1) := by decide +kernel
theorem dX7_go_14 : decode cX7_go 14 = .ok (.bastore, 1) := by decide +kernel
theorem dX7_go_15 : decode cX7_go 15 = .ok (.iinc 1 1, 3) := by decide +kernel
theorem dX7_go_18 : decode cX7_go 18 = .ok (.goto (-16), 3) := by decide +kernel
theorem dX7_go_21 : decode cX7_go 21 = .ok (.iconst 0, 1) := by decide +kernel
theorem dX7_go_22 : decode cX7_go 22 = .ok (.istore_n 1, 1) := by decide +kernel
theorem dX7_go_23 : decode cX7_go 23 = .ok (.iload_n 1, 1) := by decide +kernel
theorem dX7_go_24 : decode cX7_go 24 = .ok (.aload_n 0, 1) := by decide +kernel
theorem dX7_go_25 : decode cX7_go 25 = .ok (.getfield 172, 3) := by decide +kernel
theorem dX7_go_28 : decode cX7_go 28 = .ok (.if_icmp .ge 21, 3) := by decide +kernel
theorem dX7_go_31 : decode cX7_go 31 = .ok (.aload_n 0, 1) := by decide +kernel
theorem dX7_go_32 : decode cX7_go 32 = .ok (.getfield 58, 3) := by decide +kernel
theorem dX7_go_35 : decode cX7_go 35 = .ok (.iload_n 1, 1) := by decide +kernel
theorem dX7_go_36 : decode cX7_go 36 = .ok (.aload_n 0, 1) := by decide +kernel
theorem dX7_go_37 : decode cX7_go 37 = .ok (.getfield 55, 3) := by decide +kernel
theorem dX7_go_40 : decode cX7_go 40 = .ok (.iload_n 1, 1) := by decide +kernel
theorem dX7_go_41 : decode cX7_go 41 = .ok (.iaload, 1) := by decide +kernel
theorem dX7_go_42 : decode cX7_go 42 = .ok (.iastore, 1) := by decide +kernel
theorem dX7_go_43 : decode cX7_go 43 = .ok (.iinc 1 1, 3) := by decide +kernel
theorem dX7_go_46 : decode cX7_go 46 = .ok (.goto (-23), 3) := by decide +kernel
theorem dX7_go_49 : decode cX7_go 49 = .ok (.aload_n 0, 1) := by decide +kernel
theorem dX7_go_50 : decode cX7_go 50 = .ok (.getfield 65, 3) := by decide +kernel
theorem dX7_go_53 : decode cX7_go 53 = .ok (.iconst 0, 1) := by decide +kernel
theorem dX7_go_54 : decode cX7_go 54 = .ok (.aload_n 0, 1) := by decide +kernel
theorem dX7_go_55 : decode cX7_go 55 = .ok (.invokevirtual 195, 3) := by decide +kernel
theorem dX7_go_58 : decode cX7_go 58 = .ok (.iastore, 1) := by decide +kernel
theorem dX7_go_59 : decode cX7_go 59 = .ok (.aload_n 0, 1) := by decide +kernel
theorem dX7_go_60 : decode cX7_go 60 = .ok (.getfield 62, 3) := by decide +kernel
theorem dX7_go_63 : decode cX7_go 63 = .ok (.aload_n 0, 1) := by decide +kernel
theorem dX7_go_64 : decode cX7_go 64 = .ok (.getfield 65, 3) := by decide +kernel
theorem dX7_go_67 : decode cX7_go 67 = .ok (.iconst 0, 1) := by decide +kernel
theorem dX7_go_68 : decode cX7_go 68 = .ok (.iaload, 1) := by decide +kernel
theorem dX7_go_69 : decode cX7_go 69 = .ok (.iconst 1, 1) := by decide +kernel
theorem dX7_go_70 : decode cX7_go 70 = .ok (.bastore, 1) := by decide +kernel
theorem dX7_go_71 : decode cX7_go 71 = .ok (.iconst 1, 1) := by decide +kernel
theorem dX7_go_72 : decode cX7_go 72 = .ok (.istore_n 1, 1) := by decide +kernel
theorem dX7_go_73 : decode cX7_go 73 = .ok (.iconst 0, 1) := by decide +kernel
theorem dX7_go_74 : decode cX7_go 74 = .ok (.istore_n 2, 1) := by decide +kernel
theorem dX7_go_75 : decode cX7_go 75 = .ok (.iload_n 2, 1) := by decide +kernel
theorem dX7_go_76 : decode cX7_go 76 = .ok (.iload_n 1, 1) := by decide +kernel
theorem dX7_go_77 : decode cX7_go 77 = .ok (.if_icmp .ge 125, 3) := by decide +kernel
theorem dX7_go_80 : decode cX7_go 80 = .ok (.iconst 0, 1) := by decide +kernel
theorem dX7_go_81 : decode cX7_go 81 = .ok (.istore_n 3, 1) := by decide +kernel
theorem dX7_go_82 : decode cX7_go 82 = .ok (.iload_n 3, 1) := by decide +kernel
theorem dX7_go_83 : decode cX7_go 83 = .ok (.aload_n 0, 1) := by decide +kernel
theorem dX7_go_84 : decode cX7_go 84 = .ok (.getfield 172, 3) := by decide +kernel
theorem dX7_go_87 : decode cX7_go 87 = .ok (.if_icmp .ge 109, 3) := by decide +kernel
theorem dX7_go_90 : decode cX7_go 90 = .ok (.aload_n 0, 1) := by decide +kernel
theorem dX7_go_91 : decode cX7_go 91 = .ok (.aload_n 0, 1) := by decide +kernel
theorem dX7_go_92 : decode cX7_go 92 = .ok (.getfield 65, 3) := by decide +kernel
theorem dX7_go_95 : decode cX7_go 95 = .ok (.iload_n 2, 1) := by decide +kernel
theorem dX7_go_96 : decode cX7_go 96 = .ok (.iaload, 1) := by decide +kernel
theorem dX7_go_97 : decode cX7_go 97 = .ok (.invokevirtual 198, 3) := by decide +kernel
theorem dX7_go_100 : decode cX7_go 100 = .ok (.iconst 0, 1) := by decide +kernel
theorem dX7_go_101 : decode cX7_go 101 = .ok (.istore 4, 2) := by decide +kernel
theorem dX7_go_103 : decode cX7_go 103 = .ok (.aload_n 0, 1) := by decide +kernel
theorem dX7_go_104 : decode cX7_go 104 = .ok (.getfield 58, 3) := by decide +kernel
theorem dX7_go_107 : decode cX7_go 107 = .ok (.iload 4, 2) := by decide +kernel
theorem dX7_go_109 : decode cX7_go 109 = .ok (.iaload, 1) := by decide +kernel
theorem dX7_go_110 : decode cX7_go 110 = .ok (.ifCond .eq 9, 3) := by decide +kernel
theorem dX7_go_113 : decode cX7_go 113 = .ok (.iinc 4 1, 3) := by decide +kernel
theorem dX7_go_116 : decode cX7_go 116 = .ok (.goto (-13), 3) := by decide +kernel
theorem dX7_go_119 : decode cX7_go 119 = .ok (.aload_n 0, 1) := by decide +kernel
theorem dX7_go_120 : decode cX7_go 120 = .ok (.iload_n 3, 1) := by decide +kernel
theorem dX7_go_121 : decode cX7_go 121 = .ok (.iload 4, 2) := by decide +kernel
theorem dX7_go_123 : decode cX7_go 123 = .ok (.invokevirtual 178, 3) := by decide +kernel
theorem dX7_go_126 : decode cX7_go 126 = .ok (.ifCond .ne 6, 3) := by decide +kernel
theorem dX7_go_129 : decode cX7_go 129 = .ok (.goto 61, 3) := by decide +kernel
theorem dX7_go_132 : decode cX7_go 132 = .ok (.aload_n 0, 1) := by decide +kernel
theorem dX7_go_133 : decode cX7_go 133 = .ok (.getfield 58, 3) := by decide +kernel
theorem dX7_go_136 : decode cX7_go 136 = .ok (.iload 4, 2) := by decide +kernel
theorem dX7_go_138 : decode cX7_go 138 = .ok (.aload_n 0, 1) := by decide +kernel
theorem dX7_go_139 : decode cX7_go 139 = .ok (.getfield 58, 3) := by decide +kernel
theorem dX7_go_142 : decode cX7_go 142 = .ok (.iload_n 3, 1) := by decide +kernel
theorem dX7_go_143 : decode cX7_go 143 = .ok (.iaload, 1) := by decide +kernel
theorem dX7_go_144 : decode cX7_go 144 = .ok (.iastore, 1) := by decide +kernel
theorem dX7_go_145 : decode cX7_go 145 = .ok (.aload_n 0, 1) := by decide +kernel
theorem dX7_go_146 : decode cX7_go 146 = .ok (.getfield 58, 3) := by decide +kernel
theorem dX7_go_149 : decode cX7_go 149 = .ok (.iload_n 3, 1) := by decide +kernel
theorem dX7_go_150 : decode cX7_go 150 = .ok (.iconst 0, 1) := by decide +kernel
theorem dX7_go_151 : decode cX7_go 151 = .ok (.iastore, 1) := by decide +kernel
theorem dX7_go_152 : decode cX7_go 152 = .ok (.aload_n 0, 1) := by decide +kernel
theorem dX7_go_153 : decode cX7_go 153 = .ok (.invokevirtual 195, 3) := by decide +kernel
theorem dX7_go_156 : decode cX7_go 156 = .ok (.istore 5, 2) := by decide +kernel
theorem dX7_go_158 : decode cX7_go 158 = .ok (.aload_n 0, 1) := by decide +kernel
theorem dX7_go_159 : decode cX7_go 159 = .ok (.getfield 62, 3) := by decide +kernel
theorem dX7_go_162 : decode cX7_go 162 = .ok (.iload 5, 2) := by decide +kernel
theorem dX7_go_164 : decode cX7_go 164 = .ok (.baload, 1) := by decide +kernel
theorem dX7_go_165 : decode cX7_go 165 = .ok (.ifCond .eq 6, 3) := by decide +kernel
theorem dX7_go_168 : decode cX7_go 168 = .ok (.goto 22, 3) := by decide +kernel
theorem dX7_go_171 : decode cX7_go 171 = .ok (.aload_n 0, 1) := by decide +kernel
theorem dX7_go_172 : decode cX7_go 172 = .ok (.getfield 62, 3) := by decide +kernel
theorem dX7_go_175 : decode cX7_go 175 = .ok (.iload 5, 2) := by decide +kernel
theorem dX7_go_177 : decode cX7_go 177 = .ok (.iconst 1, 1) := by decide +kernel
theorem dX7_go_178 : decode cX7_go 178 = .ok (.bastore, 1) := by decide +kernel
theorem dX7_go_179 : decode cX7_go 179 = .ok (.aload_n 0, 1) := by decide +kernel
theorem dX7_go_180 : decode cX7_go 180 = .ok (.getfield 65, 3) := by decide +kernel
theorem dX7_go_183 : decode cX7_go 183 = .ok (.iload_n 1, 1) := by decide +kernel
theorem dX7_go_184 : decode cX7_go 184 = .ok (.iload 5, 2) := by decide +kernel
theorem dX7_go_186 : decode cX7_go 186 = .ok (.iastore, 1) := by decide +kernel
theorem dX7_go_187 : decode cX7_go 187 = .ok (.iinc 1 1, 3) := by decide +kernel
theorem dX7_go_190 : decode cX7_go 190 = .ok (.iinc 3 1, 3) := by decide +kernel
theorem dX7_go_193 : decode cX7_go 193 = .ok (.goto (-111), 3) := by decide +kernel
theorem dX7_go_196 : decode cX7_go 196 = .ok (.iinc 2 1, 3) := by decide +kernel
theorem dX7_go_199 : decode cX7_go 199 = .ok (.goto (-124), 3) := by decide +kernel
theorem dX7_go_202 : decode cX7_go 202 = .ok (.iload_n 1, 1) := by decide +kernel
theorem dX7_go_203 : decode cX7_go 203 = .ok (.ireturn, 1) := by decide +kernel
theorem dX7_ways_0 : decode cX7_ways 0 = .ok (.aload_n 0, 1) := by decide +kernel
theorem dX7_ways_1 : decode cX7_ways 1 = .ok (.iconst 0, 1) := by decide +kernel
theorem dX7_ways_2 : decode cX7_ways 2 = .ok (.putfield 81, 3) := by decide +kernel
theorem dX7_ways_5 : decode cX7_ways 5 = .ok (.aload_n 0, 1) := by decide +kernel
theorem dX7_ways_6 : decode cX7_ways 6 = .ok (.getfield 172, 3) := by decide +kernel
theorem dX7_ways_9 : decode cX7_ways 9 = .ok (.ifCond .ne 7, 3) := by decide +kernel
theorem dX7_ways_12 : decode cX7_ways 12 = .ok (.iconst 0, 1) := by decide +kernel
theorem dX7_ways_13 : decode cX7_ways 13 = .ok (.goto 7, 3) := by decide +kernel
theorem dX7_ways_16 : decode cX7_ways 16 = .ok (.aload_n 0, 1) := by decide +kernel
theorem dX7_ways_17 : decode cX7_ways 17 = .ok (.invokevirtual 201, 3) := by decide +kernel
theorem dX7_ways_20 : decode cX7_ways 20 = .ok (.ireturn, 1) := by decide +kernel
theorem dX7_home_0 : decode cX7_home 0 = .ok (.aload_n 0, 1) := by decide +kernel
theorem dX7_home_1 : decode cX7_home 1 = .ok (.iconst 0, 1) := by decide +kernel
theorem dX7_home_2 : decode cX7_home 2 = .ok (.putfield 81, 3) := by decide +kernel
theorem dX7_home_5 : decode cX7_home 5 = .ok (.aload_n 0, 1) := by decide +kernel
theorem dX7_home_6 : decode cX7_home 6 = .ok (.getfield 172, 3) := by decide +kernel
theorem dX7_home_9 : decode cX7_home 9 = .ok (.ifCond .ne 5, 3) := by decide +kernel
theorem dX7_home_12 : decode cX7_home 12 = .ok (.iconst 1, 1) := by decide +kernel
theorem dX7_home_13 : decode cX7_home 13 = .ok (.ireturn, 1) := by decide +kernel
theorem dX7_home_14 : decode cX7_home 14 = .ok (.aload_n 0, 1) := by decide +kernel
theorem dX7_home_15 : decode cX7_home 15 = .ok (.invokevirtual 201, 3) := by decide +kernel
theorem dX7_home_18 : decode cX7_home 18 = .ok (.pop, 1) := by decide +kernel
theorem dX7_home_19 : decode cX7_home 19 = .ok (.aload_n 0, 1) := by decide +kernel
theorem dX7_home_20 : decode cX7_home 20 = .ok (.getfield 62, 3) := by decide +kernel
theorem dX7_home_23 : decode cX7_home 23 = .ok (.iconst 0, 1) := by decide +kernel
theorem dX7_home_24 : decode cX7_home 24 = .ok (.baload, 1) := by decide +kernel
theorem dX7_home_25 : decode cX7_home 25 = .ok (.ireturn, 1) := by decide +kernel

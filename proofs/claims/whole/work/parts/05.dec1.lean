theorem dX5_init_0 : decode cX5_init 0 = .ok (.aload_n 0, 1) := by decide +kernel
theorem dX5_init_1 : decode cX5_init 1 = .ok (.invokespecial 3, 3) := by decide +kernel
theorem dX5_init_4 : decode cX5_init 4 = .ok (.aload_n 0, 1) := by decide +kernel
theorem dX5_init_5 : decode cX5_init 5 = .ok (.bipush 8, 2) := by decide +kernel
theorem dX5_init_7 : decode cX5_init 7 = .ok (.newarray .int, 2) := by decide +kernel
theorem dX5_init_9 : decode cX5_init 9 = .ok (.putfield 9, 3) := by decide +kernel
theorem dX5_init_12 : decode cX5_init 12 = .ok (.aload_n 0, 1) := by decide +kernel
theorem dX5_init_13 : decode cX5_init 13 = .ok (.bipush 8, 2) := by decide +kernel
theorem dX5_init_15 : decode cX5_init 15 = .ok (.newarray .int, 2) := by decide +kernel
theorem dX5_init_17 : decode cX5_init 17 = .ok (.putfield 15, 3) := by decide +kernel
theorem dX5_init_20 : decode cX5_init 20 = .ok (.aload_n 0, 1) := by decide +kernel
theorem dX5_init_21 : decode cX5_init 21 = .ok (.bipush 8, 2) := by decide +kernel
theorem dX5_init_23 : decode cX5_init 23 = .ok (.newarray .int, 2) := by decide +kernel
theorem dX5_init_25 : decode cX5_init 25 = .ok (.putfield 18, 3) := by decide +kernel
theorem dX5_init_28 : decode cX5_init 28 = .ok (.aload_n 0, 1) := by decide +kernel
theorem dX5_init_29 : decode cX5_init 29 = .ok (.ldc 21, 2) := by decide +kernel
theorem dX5_init_31 : decode cX5_init 31 = .ok (.newarray .int, 2) := by decide +kernel
theorem dX5_init_33 : decode cX5_init 33 = .ok (.putfield 22, 3) := by decide +kernel
theorem dX5_init_36 : decode cX5_init 36 = .ok (.aload_n 0, 1) := by decide +kernel
theorem dX5_init_37 : decode cX5_init 37 = .ok (.ldc 25, 2) := by decide +kernel
theorem dX5_init_39 : decode cX5_init 39 = .ok (.newarray .long, 2) := by decide +kernel
theorem dX5_init_41 : decode cX5_init 41 = .ok (.putfield 26, 3) := by decide +kernel
theorem dX5_init_44 : decode cX5_init 44 = .ok (.return_, 1) := by decide +kernel
theorem dX5_addNode_0 : decode cX5_addNode 0 = .ok (.aload_n 0, 1) := by decide +kernel
theorem dX5_addNode_1 : decode cX5_addNode 1 = .ok (.getfield 30, 3) := by decide +kernel
theorem dX5_addNode_4 : decode cX5_addNode 4 = .ok (.bipush 8, 2) := by decide +kernel
theorem dX5_addNode_6 : decode cX5_addNode 6 = .ok (.if_icmp .lt 5, 3) := by decide +kernel
theorem dX5_addNode_9 : decode cX5_addNode 9 = .ok (.iconst (-1), 1) := by decide +kernel
theorem dX5_addNode_10 : decode cX5_addNode 10 = .ok (.ireturn, 1) := by decide +kernel
theorem dX5_addNode_11 : decode cX5_addNode 11 = .ok (.aload_n 0, 1) := by decide +kernel
theorem dX5_addNode_12 : decode cX5_addNode 12 = .ok (.dup, 1) := by decide +kernel
theorem dX5_addNode_13 : decode cX5_addNode 13 = .ok (.getfield 30, 3) := by decide +kernel
theorem dX5_addNode_16 : decode cX5_addNode 16 = .ok (.iconst 1, 1) := by decide +kernel
theorem dX5_addNode_17 : decode cX5_addNode 17 = .ok (.iadd, 1) := by decide +kernel
theorem dX5_addNode_18 : decode cX5_addNode 18 = .ok (.putfield 30, 3) := by decide +kernel
theorem dX5_addNode_21 : decode cX5_addNode 21 = .ok (.iconst 0, 1) := by decide +kernel
theorem dX5_addNode_22 : decode cX5_addNode 22 = .ok (.istore_n 1, 1) := by decide +kernel
theorem dX5_addNode_23 : decode cX5_addNode 23 = .ok (.iload_n 1, 1) := by decide +kernel
theorem dX5_addNode_24 : decode cX5_addNode 24 = .ok (.aload_n 0, 1) := by decide +kernel
theorem dX5_addNode_25 : decode cX5_addNode 25 = .ok (.getfield 30, 3) := by decide +kernel
theorem dX5_addNode_28 : decode cX5_addNode 28 = .ok (.if_icmp .ge 16, 3) := by decide +kernel
theorem dX5_addNode_31 : decode cX5_addNode 31 = .ok (.aload_n 0, 1) := by decide +kernel
theorem dX5_addNode_32 : decode cX5_addNode 32 = .ok (.getfield 9, 3) := by decide +kernel
theorem dX5_addNode_35 : decode cX5_addNode 35 = .ok (.iload_n 1, 1) := by decide +kernel
theorem dX5_addNode_36 : decode cX5_addNode 36 = .ok (.iload_n 1, 1) := by decide +kernel
theorem dX5_addNode_37 : decode cX5_addNode 37 = .ok (.iastore, 1) := by decide +kernel
theorem dX5_addNode_38 : decode cX5_addNode 38 = .ok (.iinc 1 1, 3) := by decide +kernel
theorem dX5_addNode_41 : decode cX5_addNode 41 = .ok (.goto (-18), 3) := by decide +kernel
theorem dX5_addNode_44 : decode cX5_addNode 44 = .ok (.aload_n 0, 1) := by decide +kernel
theorem dX5_addNode_45 : decode cX5_addNode 45 = .ok (.getfield 30, 3) := by decide +kernel
theorem dX5_addNode_48 : decode cX5_addNode 48 = .ok (.iconst 1, 1) := by decide +kernel
theorem dX5_addNode_49 : decode cX5_addNode 49 = .ok (.isub, 1) := by decide +kernel
theorem dX5_addNode_50 : decode cX5_addNode 50 = .ok (.ireturn, 1) := by decide +kernel
theorem dX5_areJoined_0 : decode cX5_areJoined 0 = .ok (.aload_n 0, 1) := by decide +kernel
theorem dX5_areJoined_1 : decode cX5_areJoined 1 = .ok (.getfield 15, 3) := by decide +kernel
theorem dX5_areJoined_4 : decode cX5_areJoined 4 = .ok (.iload_n 1, 1) := by decide +kernel
theorem dX5_areJoined_5 : decode cX5_areJoined 5 = .ok (.iaload, 1) := by decide +kernel
theorem dX5_areJoined_6 : decode cX5_areJoined 6 = .ok (.iload_n 2, 1) := by decide +kernel
theorem dX5_areJoined_7 : decode cX5_areJoined 7 = .ok (.iushr, 1) := by decide +kernel
theorem dX5_areJoined_8 : decode cX5_areJoined 8 = .ok (.iconst 1, 1) := by decide +kernel
theorem dX5_areJoined_9 : decode cX5_areJoined 9 = .ok (.iand, 1) := by decide +kernel
theorem dX5_areJoined_10 : decode cX5_areJoined 10 = .ok (.ifCond .eq 7, 3) := by decide +kernel
theorem dX5_areJoined_13 : decode cX5_areJoined 13 = .ok (.iconst 1, 1) := by decide +kernel
theorem dX5_areJoined_14 : decode cX5_areJoined 14 = .ok (.goto 4, 3) := by decide +kernel
theorem dX5_areJoined_17 : decode cX5_areJoined 17 = .ok (.iconst 0, 1) := by decide +kernel
theorem dX5_areJoined_18 : decode cX5_areJoined 18 = .ok (.ireturn, 1) := by decide +kernel
theorem dX5_addLine_0 : decode cX5_addLine 0 = .ok (.iload_n 1, 1) := by decide +kernel
theorem dX5_addLine_1 : decode cX5_addLine 1 = .ok (.iload_n 2, 1) := by decide +kernel
theorem dX5_addLine_2 : decode cX5_addLine 2 = .ok (.if_icmp .eq 12, 3) := by decide +kernel
theorem dX5_addLine_5 : decode cX5_addLine 5 = .ok (.aload_n 0, 1) := by decide +kernel
theorem dX5_addLine_6 : decode cX5_addLine 6 = .ok (.iload_n 1, 1) := by decide +kernel
theorem dX5_addLine_7 : decode cX5_addLine 7 = .ok (.iload_n 2, 1) := by decide +kernel
theorem dX5_addLine_8 : decode cX5_addLine 8 = .ok (.invokevirtual 34, 3) := by decide +kernel
theorem dX5_addLine_11 : decode cX5_addLine 11 = .ok (.ifCond .eq 5, 3) := by decide +kernel
theorem dX5_addLine_14 : decode cX5_addLine 14 = .ok (.iconst 0, 1) := by decide +kernel
theorem dX5_addLine_15 : decode cX5_addLine 15 = .ok (.ireturn, 1) := by decide +kernel
theorem dX5_addLine_16 : decode cX5_addLine 16 = .ok (.aload_n 0, 1) := by decide +kernel
theorem dX5_addLine_17 : decode cX5_addLine 17 = .ok (.getfield 15, 3) := by decide +kernel
theorem dX5_addLine_20 : decode cX5_addLine 20 = .ok (.iload_n 1, 1) := by decide +kernel
theorem dX5_addLine_21 : decode cX5_addLine 21 = .ok (.dup2, 1) := by decide +kernel
theorem dX5_addLine_22 : decode cX5_addLine 22 = .ok (.iaload, 1) := by decide +kernel
theorem dX5_addLine_23 : decode cX5_addLine 23 = .ok (.iconst 1, 1) := by decide +kernel
theorem dX5_addLine_24 : decode cX5_addLine 24 = .ok (.iload_n 2, 1) := by decide +kernel
theorem dX5_addLine_25 : decode cX5_addLine 25 = .ok (.ishl, 1) := by decide +kernel
theorem dX5_addLine_26 : decode cX5_addLine 26 = .ok (.ior, 1) := by decide +kernel
theorem dX5_addLine_27 : decode cX5_addLine 27 = .ok (.iastore, 1) := by decide +kernel
theorem dX5_addLine_28 : decode cX5_addLine 28 = .ok (.aload_n 0, 1) := by decide +kernel
theorem dX5_addLine_29 : decode cX5_addLine 29 = .ok (.getfield 15, 3) := by decide +kernel
theorem dX5_addLine_32 : decode cX5_addLine 32 = .ok (.iload_n 2, 1) := by decide +kernel
theorem dX5_addLine_33 : decode cX5_addLine 33 = .ok (.dup2, 1) := by decide +kernel
theorem dX5_addLine_34 : decode cX5_addLine 34 = .ok (.iaload, 1) := by decide +kernel
theorem dX5_addLine_35 : decode cX5_addLine 35 = .ok (.iconst 1, 1) := by decide +kernel
theorem dX5_addLine_36 : decode cX5_addLine 36 = .ok (.iload_n 1, 1) := by decide +kernel
theorem dX5_addLine_37 : decode cX5_addLine 37 = .ok (.ishl, 1) := by decide +kernel
theorem dX5_addLine_38 : decode cX5_addLine 38 = .ok (.ior, 1) := by decide +kernel
theorem dX5_addLine_39 : decode cX5_addLine 39 = .ok (.iastore, 1) := by decide +kernel
theorem dX5_addLine_40 : decode cX5_addLine 40 = .ok (.iconst 1, 1) := by decide +kernel
theorem dX5_addLine_41 : decode cX5_addLine 41 = .ok (.ireturn, 1) := by decide +kernel
theorem dX5_gapNode_0 : decode cX5_gapNode 0 = .ok (.iconst 0, 1) := by decide +kernel
theorem dX5_gapNode_1 : decode cX5_gapNode 1 = .ok (.istore_n 1, 1) := by decide +kernel
theorem dX5_gapNode_2 : decode cX5_gapNode 2 = .ok (.iload_n 1, 1) := by decide +kernel
theorem dX5_gapNode_3 : decode cX5_gapNode 3 = .ok (.aload_n 0, 1) := by decide +kernel
theorem dX5_gapNode_4 : decode cX5_gapNode 4 = .ok (.getfield 30, 3) := by decide +kernel
theorem dX5_gapNode_7 : decode cX5_gapNode 7 = .ok (.iconst 1, 1) := by decide +kernel
theorem dX5_gapNode_8 : decode cX5_gapNode 8 = .ok (.isub, 1) := by decide +kernel
theorem dX5_gapNode_9 : decode cX5_gapNode 9 = .ok (.if_icmp .ge 18, 3) := by decide +kernel
theorem dX5_gapNode_12 : decode cX5_gapNode 12 = .ok (.aload_n 0, 1) := by decide +kernel
theorem dX5_gapNode_13 : decode cX5_gapNode 13 = .ok (.getfield 9, 3) := by decide +kernel
theorem dX5_gapNode_16 : decode cX5_gapNode 16 = .ok (.iload_n 1, 1) := by decide +kernel
theorem dX5_gapNode_17 : decode cX5_gapNode 17 = .ok (.iaload, 1) := by decide +kernel
theorem dX5_gapNode_18 : decode cX5_gapNode 18 = .ok (.ifCond .eq 9, 3) := by decide +kernel
theorem dX5_gapNode_21 : decode cX5_gapNode 21 = .ok (.iinc 1 1, 3) := by decide +kernel
theorem dX5_gapNode_24 : decode cX5_gapNode 24 = .ok (.goto (-22), 3) := by decide +kernel
theorem dX5_gapNode_27 : decode cX5_gapNode 27 = .ok (.iload_n 1, 1) := by decide +kernel
theorem dX5_gapNode_28 : decode cX5_gapNode 28 = .ok (.ireturn, 1) := by decide +kernel
theorem dX5_moveToGap_0 : decode cX5_moveToGap 0 = .ok (.aload_n 0, 1) := by decide +kernel
theorem dX5_moveToGap_1 : decode cX5_moveToGap 1 = .ok (.invokevirtual 38, 3) := by decide +kernel
theorem dX5_moveToGap_4 : decode cX5_moveToGap 4 = .ok (.istore_n 2, 1) := by decide +kernel
theorem dX5_moveToGap_5 : decode cX5_moveToGap 5 = .ok (.aload_n 0, 1) := by decide +kernel
theorem dX5_moveToGap_6 : decode cX5_moveToGap 6 = .ok (.iload_n 2, 1) := by decide +kernel
theorem dX5_moveToGap_7 : decode cX5_moveToGap 7 = .ok (.iload_n 1, 1) := by decide +kernel
theorem dX5_moveToGap_8 : decode cX5_moveToGap 8 = .ok (.invokevirtual 34, 3) := by decide +kernel
theorem dX5_moveToGap_11 : decode cX5_moveToGap 11 = .ok (.ifCond .eq 16, 3) := by decide +kernel
theorem dX5_moveToGap_14 : decode cX5_moveToGap 14 = .ok (.aload_n 0, 1) := by decide +kernel
theorem dX5_moveToGap_15 : decode cX5_moveToGap 15 = .ok (.iload_n 2, 1) := by decide +kernel
theorem dX5_moveToGap_16 : decode cX5_moveToGap 16 = .ok (.iload_n 1, 1) := by decide +kernel
theorem dX5_moveToGap_17 : decode cX5_moveToGap 17 = .ok (.invokevirtual 42, 3) := by decide +kernel
theorem dX5_moveToGap_20 : decode cX5_moveToGap 20 = .ok (.ifCond .eq 7, 3) := by decide +kernel
theorem dX5_moveToGap_23 : decode cX5_moveToGap 23 = .ok (.iconst 1, 1) := by decide +kernel
theorem dX5_moveToGap_24 : decode cX5_moveToGap 24 = .ok (.goto 4, 3) := by decide +kernel
theorem dX5_moveToGap_27 : decode cX5_moveToGap 27 = .ok (.iconst 0, 1) := by decide +kernel
theorem dX5_moveToGap_28 : decode cX5_moveToGap 28 = .ok (.ireturn, 1) := by decide +kernel
theorem dX5_exchange_0 : decode cX5_exchange 0 = .ok (.iload_n 1, 1) := by decide +kernel
theorem dX5_exchange_1 : decode cX5_exchange 1 = .ok (.iload_n 2, 1) := by decide +kernel
theorem dX5_exchange_2 : decode cX5_exchange 2 = .ok (.if_icmp .ne 5, 3) := by decide +kernel
theorem dX5_exchange_5 : decode cX5_exchange 5 = .ok (.iconst 0, 1) := by decide +kernel
theorem dX5_exchange_6 : decode cX5_exchange 6 = .ok (.ireturn, 1) := by decide +kernel
theorem dX5_exchange_7 : decode cX5_exchange 7 = .ok (.aload_n 0, 1) := by decide +kernel
theorem dX5_exchange_8 : decode cX5_exchange 8 = .ok (.getfield 9, 3) := by decide +kernel
theorem dX5_exchange_11 : decode cX5_exchange 11 = .ok (.iload_n 1, 1) := by decide +kernel
theorem dX5_exchange_12 : decode cX5_exchange 12 = .ok (.iaload, 1) := by decide +kernel
theorem dX5_exchange_13 : decode cX5_exchange 13 = .ok (.istore_n 3, 1) := by decide +kernel
theorem dX5_exchange_14 : decode cX5_exchange 14 = .ok (.aload_n 0, 1) := by decide +kernel
theorem dX5_exchange_15 : decode cX5_exchange 15 = .ok (.getfield 9, 3) := by decide +kernel
theorem dX5_exchange_18 : decode cX5_exchange 18 = .ok (.iload_n 1, 1) := by decide +kernel
theorem dX5_exchange_19 : decode cX5_exchange 19 = .ok (.aload_n 0, 1) := by decide +kernel
theorem dX5_exchange_20 : decode cX5_exchange 20 = .ok (.getfield 9, 3) := by decide +kernel
theorem dX5_exchange_23 : decode cX5_exchange 23 = .ok (.iload_n 2, 1) := by decide +kernel
theorem dX5_exchange_24 : decode cX5_exchange 24 = .ok (.iaload, 1) := by decide +kernel
theorem dX5_exchange_25 : decode cX5_exchange 25 = .ok (.iastore, 1) := by decide +kernel
theorem dX5_exchange_26 : decode cX5_exchange 26 = .ok (.aload_n 0, 1) := by decide +kernel
theorem dX5_exchange_27 : decode cX5_exchange 27 = .ok (.getfield 9, 3) := by decide +kernel
theorem dX5_exchange_30 : decode cX5_exchange 30 = .ok (.iload_n 2, 1) := by decide +kernel
theorem dX5_exchange_31 : decode cX5_exchange 31 = .ok (.iload_n 3, 1) := by decide +kernel
theorem dX5_exchange_32 : decode cX5_exchange 32 = .ok (.iastore, 1) := by decide +kernel
theorem dX5_exchange_33 : decode cX5_exchange 33 = .ok (.iconst 1, 1) := by decide +kernel
theorem dX5_exchange_34 : decode cX5_exchange 34 = .ok (.ireturn, 1) := by decide +kernel
theorem dX5_measureDistances_0 : decode cX5_measureDistances 0 = .ok (.iconst 0, 1) := by decide +kernel
theorem dX5_measureDistances_1 : decode cX5_measureDistances 1 = .ok (.istore_n 1, 1) := by decide +kernel
theorem dX5_measureDistances_2 : decode cX5_measureDistances 2 = .ok (.iload_n 1, 1) := by decide +kernel
theorem dX5_measureDistances_3 : decode cX5_measureDistances 3 = .ok (.aload_n 0, 1) := by decide +kernel
theorem dX5_measureDistances_4 : decode cX5_measureDistances 4 = .ok (.getfield 30, 3) := by decide +kernel
theorem dX5_measureDistances_7 : decode cX5_measureDistances 7 = .ok (.if_icmp .ge 16, 3) := by decide +kernel
theorem dX5_measureDistances_10 : decode cX5_measureDistances 10 = .ok (.aload_n 0, 1) := by decide +kernel
theorem dX5_measureDistances_11 : decode cX5_measureDistances 11 = .ok (.getfield 18, 3) := by decide +kernel
theorem dX5_measureDistances_14 : decode cX5_measureDistances 14 = .ok (.iload_n 1, 1) := by decide +kernel
theorem dX5_measureDistances_15 : decode cX5_measureDistances 15 = .ok (.iconst (-1), 1) := by decide +kernel
theorem dX5_measureDistances_16 : decode cX5_measureDistances 16 = .ok (.iastore, 1) := by decide +kernel
theorem dX5_measureDistances_17 : decode cX5_measureDistances 17 = .ok (.iinc 1 1, 3) := by decide +kernel
theorem dX5_measureDistances_20 : decode cX5_measureDistances 20 = .ok (.goto (-18), 3) := by decide +kernel
theorem dX5_measureDistances_23 : decode cX5_measureDistances 23 = .ok (.iconst 0, 1) := by decide +kernel
theorem dX5_measureDistances_24 : decode cX5_measureDistances 24 = .ok (.istore_n 1, 1) := by decide +kernel
theorem dX5_measureDistances_25 : decode cX5_measureDistances 25 = .ok (.iload_n 1, 1) := by decide +kernel
theorem dX5_measureDistances_26 : decode cX5_measureDistances 26 = .ok (.aload_n 0, 1) := by decide +kernel
theorem dX5_measureDistances_27 : decode cX5_measureDistances 27 = .ok (.getfield 30, 3) := by decide +kernel
theorem dX5_measureDistances_30 : decode cX5_measureDistances 30 = .ok (.if_icmp .ge 30, 3) := by decide +kernel
theorem dX5_measureDistances_33 : decode cX5_measureDistances 33 = .ok (.aload_n 0, 1) := by decide +kernel
theorem dX5_measureDistances_34 : decode cX5_measureDistances 34 = .ok (.getfield 18, 3) := by decide +kernel
theorem dX5_measureDistances_37 : decode cX5_measureDistances 37 = .ok (.iload_n 1, 1) := by decide +kernel
theorem dX5_measureDistances_38 : decode cX5_measureDistances 38 = .ok (.iaload, 1) := by decide +kernel
theorem dX5_measureDistances_39 : decode cX5_measureDistances 39 = .ok (.iconst (-1), 1) := by decide +kernel
theorem dX5_measureDistances_40 : decode cX5_measureDistances 40 = .ok (.if_icmp .ne 14, 3) := by decide +kernel
theorem dX5_measureDistances_43 : decode cX5_measureDistances 43 = .ok (.aload_n 0, 1) := by decide +kernel
theorem dX5_measureDistances_44 : decode cX5_measureDistances 44 = .ok (.getfield 18, 3) := by decide +kernel
theorem dX5_measureDistances_47 : decode cX5_measureDistances 47 = .ok (.iload_n 1, 1) := by decide +kernel
theorem dX5_measureDistances_48 : decode cX5_measureDistances 48 = .ok (.iconst 0, 1) := by decide +kernel
theorem dX5_measureDistances_49 : decode cX5_measureDistances 49 = .ok (.iastore, 1) := by decide +kernel
theorem dX5_measureDistances_50 : decode cX5_measureDistances 50 = .ok (.aload_n 0, 1) := by decide +kernel
theorem dX5_measureDistances_51 : decode cX5_measureDistances 51 = .ok (.invokevirtual 45, 3) := by decide +kernel
theorem dX5_measureDistances_54 : decode cX5_measureDistances 54 = .ok (.iinc 1 1, 3) := by decide +kernel
theorem dX5_measureDistances_57 : decode cX5_measureDistances 57 = .ok (.goto (-32), 3) := by decide +kernel
theorem dX5_measureDistances_60 : decode cX5_measureDistances 60 = .ok (.return_, 1) := by decide +kernel
theorem dX5_spreadDistances_0 : decode cX5_spreadDistances 0 = .ok (.iconst 0, 1) := by decide +kernel
theorem dX5_spreadDistances_1 : decode cX5_spreadDistances 1 = .ok (.istore_n 1, 1) := by decide +kernel
theorem dX5_spreadDistances_2 : decode cX5_spreadDistances 2 = .ok (.iload_n 1, 1) := by decide +kernel
theorem dX5_spreadDistances_3 : decode cX5_spreadDistances 3 = .ok (.aload_n 0, 1) := by decide +kernel
theorem dX5_spreadDistances_4 : decode cX5_spreadDistances 4 = .ok (.getfield 30, 3) := by decide +kernel
theorem dX5_spreadDistances_7 : decode cX5_spreadDistances 7 = .ok (.if_icmp .ge 79, 3) := by decide +kernel
theorem dX5_spreadDistances_10 : decode cX5_spreadDistances 10 = .ok (.iconst 0, 1) := by decide +kernel
theorem dX5_spreadDistances_11 : decode cX5_spreadDistances 11 = .ok (.istore_n 2, 1) := by decide +kernel
theorem dX5_spreadDistances_12 : decode cX5_spreadDistances 12 = .ok (.iload_n 2, 1) := by decide +kernel
theorem dX5_spreadDistances_13 : decode cX5_spreadDistances 13 = .ok (.aload_n 0, 1) := by decide +kernel
theorem dX5_spreadDistances_14 : decode cX5_spreadDistances 14 = .ok (.getfield 30, 3) := by decide +kernel
theorem dX5_spreadDistances_17 : decode cX5_spreadDistances 17 = .ok (.if_icmp .ge 63, 3) := by decide +kernel
theorem dX5_spreadDistances_20 : decode cX5_spreadDistances 20 = .ok (.iconst 0, 1) := by decide +kernel
theorem dX5_spreadDistances_21 : decode cX5_spreadDistances 21 = .ok (.istore_n 3, 1) := by decide +kernel
theorem dX5_spreadDistances_22 : decode cX5_spreadDistances 22 = .ok (.iload_n 3, 1) := by decide +kernel
theorem dX5_spreadDistances_23 : decode cX5_spreadDistances 23 = .ok (.aload_n 0, 1) := by decide +kernel
theorem dX5_spreadDistances_24 : decode cX5_spreadDistances 24 = .ok (.getfield 30, 3) := by decide +kernel
theorem dX5_spreadDistances_27 : decode cX5_spreadDistances 27 = .ok (.if_icmp .ge 47, 3) := by decide +kernel
theorem dX5_spreadDistances_30 : decode cX5_spreadDistances 30 = .ok (.aload_n 0, 1) := by decide +kernel
theorem dX5_spreadDistances_31 : decode cX5_spreadDistances 31 = .ok (.getfield 18, 3) := by decide +kernel
theorem dX5_spreadDistances_34 : decode cX5_spreadDistances 34 = .ok (.iload_n 2, 1) := by decide +kernel
theorem dX5_spreadDistances_35 : decode cX5_spreadDistances 35 = .ok (.iaload, 1) := by decide +kernel
theorem dX5_spreadDistances_36 : decode cX5_spreadDistances 36 = .ok (.iload_n 1, 1) := by decide +kernel
theorem dX5_spreadDistances_37 : decode cX5_spreadDistances 37 = .ok (.if_icmp .ne 31, 3) := by decide +kernel
theorem dX5_spreadDistances_40 : decode cX5_spreadDistances 40 = .ok (.aload_n 0, 1) := by decide +kernel
theorem dX5_spreadDistances_41 : decode cX5_spreadDistances 41 = .ok (.getfield 18, 3) := by decide +kernel
theorem dX5_spreadDistances_44 : decode cX5_spreadDistances 44 = .ok (.iload_n 3, 1) := by decide +kernel
theorem dX5_spreadDistances_45 : decode cX5_spreadDistances 45 = .ok (.iaload, 1) := by decide +kernel
theorem dX5_spreadDistances_46 : decode cX5_spreadDistances 46 = .ok (.iconst (-1), 1) := by decide +kernel
theorem dX5_spreadDistances_47 : decode cX5_spreadDistances 47 = .ok (.if_icmp .ne 21, 3) := by decide +kernel
theorem dX5_spreadDistances_50 : decode cX5_spreadDistances 50 = .ok (.aload_n 0, 1) := by decide +kernel
theorem dX5_spreadDistances_51 : decode cX5_spreadDistances 51 = .ok (.iload_n 2, 1) := by decide +kernel
theorem dX5_spreadDistances_52 : decode cX5_spreadDistances 52 = .ok (.iload_n 3, 1) := by decide +kernel
theorem dX5_spreadDistances_53 : decode cX5_spreadDistances 53 = .ok (.invokevirtual 34, 3) := by decide +kernel
theorem dX5_spreadDistances_56 : decode cX5_spreadDistances 56 = .ok (.ifCond .eq 12, 3) := by decide +kernel
theorem dX5_spreadDistances_59 : decode cX5_spreadDistances 59 = .ok (.aload_n 0, 1) := by decide +kernel
theorem dX5_spreadDistances_60 : decode cX5_spreadDistances 60 = .ok (.getfield 18, 3) := by decide +kernel
theorem dX5_spreadDistances_63 : decode cX5_spreadDistances 63 = .ok (.iload_n 3, 1) := by decide +kernel
theorem dX5_spreadDistances_64 : decode cX5_spreadDistances 64 = .ok (.iload_n 1, 1) := by decide +kernel
theorem dX5_spreadDistances_65 : decode cX5_spreadDistances 65 = .ok (.iconst 1, 1) := by decide +kernel
theorem dX5_spreadDistances_66 : decode cX5_spreadDistances 66 = .ok (.iadd, 1) := by decide +kernel
theorem dX5_spreadDistances_67 : decode cX5_spreadDistances 67 = .ok (.iastore, 1) := by decide +kernel
theorem dX5_spreadDistances_68 : decode cX5_spreadDistances 68 = .ok (.iinc 3 1, 3) := by decide +kernel
theorem dX5_spreadDistances_71 : decode cX5_spreadDistances 71 = .ok (.goto (-49), 3) := by decide +kernel
theorem dX5_spreadDistances_74 : decode cX5_spreadDistances 74 = .ok (.iinc 2 1, 3) := by decide +kernel
theorem dX5_spreadDistances_77 : decode cX5_spreadDistances 77 = .ok (.goto (-65), 3) := by decide +kernel
theorem dX5_spreadDistances_80 : decode cX5_spreadDistances 80 = .ok (.iinc 1 1, 3) := by decide +kernel
theorem dX5_spreadDistances_83 : decode cX5_spreadDistances 83 = .ok (.goto (-81), 3) := by decide +kernel
theorem dX5_spreadDistances_86 : decode cX5_spreadDistances 86 = .ok (.return_, 1) := by decide +kernel
theorem dX5_hasTwoColours_0 : decode cX5_hasTwoColours 0 = .ok (.aload_n 0, 1) := by decide +kernel
theorem dX5_hasTwoColours_1 : decode cX5_hasTwoColours 1 = .ok (.invokevirtual 48, 3) := by decide +kernel
theorem dX5_hasTwoColours_4 : decode cX5_hasTwoColours 4 = .ok (.iconst 0, 1) := by decide +kernel
theorem dX5_hasTwoColours_5 : decode cX5_hasTwoColours 5 = .ok (.istore_n 1, 1) := by decide +kernel
theorem dX5_hasTwoColours_6 : decode cX5_hasTwoColours 6 = .ok (.iload_n 1, 1) := by decide +kernel
theorem dX5_hasTwoColours_7 : decode cX5_hasTwoColours 7 = .ok (.aload_n 0, 1) := by decide +kernel
theorem dX5_hasTwoColours_8 : decode cX5_hasTwoColours 8 = .ok (.getfield 30, 3) := by decide +kernel
theorem dX5_hasTwoColours_11 : decode cX5_hasTwoColours 11 = .ok (.if_icmp .ge 51, 3) := by decide +kernel
theorem dX5_hasTwoColours_14 : decode cX5_hasTwoColours 14 = .ok (.iconst 0, 1) := by decide +kernel
theorem dX5_hasTwoColours_15 : decode cX5_hasTwoColours 15 = .ok (.istore_n 2, 1) := by decide +kernel
theorem dX5_hasTwoColours_16 : decode cX5_hasTwoColours 16 = .ok (.iload_n 2, 1) := by decide +kernel
theorem dX5_hasTwoColours_17 : decode cX5_hasTwoColours 17 = .ok (.iload_n 1, 1) := by decide +kernel
theorem dX5_hasTwoColours_18 : decode cX5_hasTwoColours 18 = .ok (.if_icmp .ge 38, 3) := by decide +kernel
theorem dX5_hasTwoColours_21 : decode cX5_hasTwoColours 21 = .ok (.aload_n 0, 1) := by decide +kernel
theorem dX5_hasTwoColours_22 : decode cX5_hasTwoColours 22 = .ok (.iload_n 1, 1) := by decide +kernel
theorem dX5_hasTwoColours_23 : decode cX5_hasTwoColours 23 = .ok (.iload_n 2, 1) := by decide +kernel
theorem dX5_hasTwoColours_24 : decode cX5_hasTwoColours 24 = .ok (.invokevirtual 34, 3) := by decide +kernel
theorem dX5_hasTwoColours_27 : decode cX5_hasTwoColours 27 = .ok (.ifCond .eq 23, 3) := by decide +kernel
theorem dX5_hasTwoColours_30 : decode cX5_hasTwoColours 30 = .ok (.aload_n 0, 1) := by decide +kernel
theorem dX5_hasTwoColours_31 : decode cX5_hasTwoColours 31 = .ok (.getfield 18, 3) := by decide +kernel
theorem dX5_hasTwoColours_34 : decode cX5_hasTwoColours 34 = .ok (.iload_n 1, 1) := by decide +kernel
theorem dX5_hasTwoColours_35 : decode cX5_hasTwoColours 35 = .ok (.iaload, 1) := by decide +kernel
theorem dX5_hasTwoColours_36 : decode cX5_hasTwoColours 36 = .ok (.aload_n 0, 1) := by decide +kernel
theorem dX5_hasTwoColours_37 : decode cX5_hasTwoColours 37 = .ok (.getfield 18, 3) := by decide +kernel
theorem dX5_hasTwoColours_40 : decode cX5_hasTwoColours 40 = .ok (.iload_n 2, 1) := by decide +kernel
theorem dX5_hasTwoColours_41 : decode cX5_hasTwoColours 41 = .ok (.iaload, 1) := by decide +kernel
theorem dX5_hasTwoColours_42 : decode cX5_hasTwoColours 42 = .ok (.iadd, 1) := by decide +kernel
theorem dX5_hasTwoColours_43 : decode cX5_hasTwoColours 43 = .ok (.iconst 2, 1) := by decide +kernel
theorem dX5_hasTwoColours_44 : decode cX5_hasTwoColours 44 = .ok (.irem, 1) := by decide +kernel
theorem dX5_hasTwoColours_45 : decode cX5_hasTwoColours 45 = .ok (.ifCond .ne 5, 3) := by decide +kernel
theorem dX5_hasTwoColours_48 : decode cX5_hasTwoColours 48 = .ok (.iconst 0, 1) := by decide +kernel
theorem dX5_hasTwoColours_49 : decode cX5_hasTwoColours 49 = .ok (.ireturn, 1) := by decide +kernel
theorem dX5_hasTwoColours_50 : decode cX5_hasTwoColours 50 = .ok (.iinc 2 1, 3) := by decide +kernel
theorem dX5_hasTwoColours_53 : decode cX5_hasTwoColours 53 = .ok (.goto (-37), 3) := by decide +kernel
theorem dX5_hasTwoColours_56 : decode cX5_hasTwoColours 56 = .ok (.iinc 1 1, 3) := by decide +kernel
theorem dX5_hasTwoColours_59 : decode cX5_hasTwoColours 59 = .ok (.goto (-53), 3) := by decide +kernel
theorem dX5_hasTwoColours_62 : decode cX5_hasTwoColours 62 = .ok (.iconst 1, 1) := by decide +kernel
theorem dX5_hasTwoColours_63 : decode cX5_hasTwoColours 63 = .ok (.ireturn, 1) := by decide +kernel
theorem dX5_invariant_0 : decode cX5_invariant 0 = .ok (.aload_n 0, 1) := by decide +kernel
theorem dX5_invariant_1 : decode cX5_invariant 1 = .ok (.getfield 30, 3) := by decide +kernel
theorem dX5_invariant_4 : decode cX5_invariant 4 = .ok (.ifCond .eq 10, 3) := by decide +kernel
theorem dX5_invariant_7 : decode cX5_invariant 7 = .ok (.aload_n 0, 1) := by decide +kernel
theorem dX5_invariant_8 : decode cX5_invariant 8 = .ok (.invokevirtual 51, 3) := by decide +kernel
theorem dX5_invariant_11 : decode cX5_invariant 11 = .ok (.ifCond .ne 5, 3) := by decide +kernel
theorem dX5_invariant_14 : decode cX5_invariant 14 = .ok (.iconst (-1), 1) := by decide +kernel
theorem dX5_invariant_15 : decode cX5_invariant 15 = .ok (.ireturn, 1) := by decide +kernel
theorem dX5_invariant_16 : decode cX5_invariant 16 = .ok (.aload_n 0, 1) := by decide +kernel
theorem dX5_invariant_17 : decode cX5_invariant 17 = .ok (.invokevirtual 55, 3) := by decide +kernel
theorem dX5_invariant_20 : decode cX5_invariant 20 = .ok (.aload_n 0, 1) := by decide +kernel
theorem dX5_invariant_21 : decode cX5_invariant 21 = .ok (.getfield 18, 3) := by decide +kernel
theorem dX5_invariant_24 : decode cX5_invariant 24 = .ok (.aload_n 0, 1) := by decide +kernel
theorem dX5_invariant_25 : decode cX5_invariant 25 = .ok (.invokevirtual 38, 3) := by decide +kernel
theorem dX5_invariant_28 : decode cX5_invariant 28 = .ok (.iaload, 1) := by decide +kernel
theorem dX5_invariant_29 : decode cX5_invariant 29 = .ok (.iadd, 1) := by decide +kernel
theorem dX5_invariant_30 : decode cX5_invariant 30 = .ok (.iconst 2, 1) := by decide +kernel
theorem dX5_invariant_31 : decode cX5_invariant 31 = .ok (.irem, 1) := by decide +kernel
theorem dX5_invariant_32 : decode cX5_invariant 32 = .ok (.ireturn, 1) := by decide +kernel
theorem dX5_countInversions_0 : decode cX5_countInversions 0 = .ok (.iconst 0, 1) := by decide +kernel
theorem dX5_countInversions_1 : decode cX5_countInversions 1 = .ok (.istore_n 1, 1) := by decide +kernel
theorem dX5_countInversions_2 : decode cX5_countInversions 2 = .ok (.iconst 0, 1) := by decide +kernel
theorem dX5_countInversions_3 : decode cX5_countInversions 3 = .ok (.istore_n 2, 1) := by decide +kernel
theorem dX5_countInversions_4 : decode cX5_countInversions 4 = .ok (.iload_n 2, 1) := by decide +kernel
theorem dX5_countInversions_5 : decode cX5_countInversions 5 = .ok (.aload_n 0, 1) := by decide +kernel
theorem dX5_countInversions_6 : decode cX5_countInversions 6 = .ok (.getfield 30, 3) := by decide +kernel
theorem dX5_countInversions_9 : decode cX5_countInversions 9 = .ok (.if_icmp .ge 45, 3) := by decide +kernel
theorem dX5_countInversions_12 : decode cX5_countInversions 12 = .ok (.iload_n 2, 1) := by decide +kernel
theorem dX5_countInversions_13 : decode cX5_countInversions 13 = .ok (.iconst 1, 1) := by decide +kernel
theorem dX5_countInversions_14 : decode cX5_countInversions 14 = .ok (.iadd, 1) := by decide +kernel
theorem dX5_countInversions_15 : decode cX5_countInversions 15 = .ok (.istore_n 3, 1) := by decide +kernel
theorem dX5_countInversions_16 : decode cX5_countInversions 16 = .ok (.iload_n 3, 1) := by decide +kernel
theorem dX5_countInversions_17 : decode cX5_countInversions 17 = .ok (.aload_n 0, 1) := by decide +kernel
theorem dX5_countInversions_18 : decode cX5_countInversions 18 = .ok (.getfield 30, 3) := by decide +kernel
theorem dX5_countInversions_21 : decode cX5_countInversions 21 = .ok (.if_icmp .ge 27, 3) := by decide +kernel
theorem dX5_countInversions_24 : decode cX5_countInversions 24 = .ok (.aload_n 0, 1) := by decide +kernel
theorem dX5_countInversions_25 : decode cX5_countInversions 25 = .ok (.getfield 9, 3) := by decide +kernel
theorem dX5_countInversions_28 : decode cX5_countInversions 28 = .ok (.iload_n 2, 1) := by decide +kernel
theorem dX5_countInversions_29 : decode cX5_countInversions 29 = .ok (.iaload, 1) := by decide +kernel
theorem dX5_countInversions_30 : decode cX5_countInversions 30 = .ok (.aload_n 0, 1) := by decide +kernel
theorem dX5_countInversions_31 : decode cX5_countInversions 31 = .ok (.getfield 9, 3) := by decide +kernel
theorem dX5_countInversions_34 : decode cX5_countInversions 34 = .ok (.iload_n 3, 1) := by decide +kernel
theorem dX5_countInversions_35 : decode cX5_countInversions 35 = .ok (.iaload, 1) := by decide +kernel
theorem dX5_countInversions_36 : decode cX5_countInversions 36 = .ok (.if_icmp .le 6, 3) := by decide +kernel
theorem dX5_countInversions_39 : decode cX5_countInversions 39 = .ok (.iinc 1 1, 3) := by decide +kernel
theorem dX5_countInversions_42 : decode cX5_countInversions 42 = .ok (.iinc 3 1, 3) := by decide +kernel
theorem dX5_countInversions_45 : decode cX5_countInversions 45 = .ok (.goto (-29), 3) := by decide +kernel
theorem dX5_countInversions_48 : decode cX5_countInversions 48 = .ok (.iinc 2 1, 3) := by decide +kernel
theorem dX5_countInversions_51 : decode cX5_countInversions 51 = .ok (.goto (-47), 3) := by decide +kernel
theorem dX5_countInversions_54 : decode cX5_countInversions 54 = .ok (.iload_n 1, 1) := by decide +kernel
theorem dX5_countInversions_55 : decode cX5_countInversions 55 = .ok (.ireturn, 1) := by decide +kernel
theorem dX5_countArrangements_0 : decode cX5_countArrangements 0 = .ok (.aload_n 0, 1) := by decide +kernel
theorem dX5_countArrangements_1 : decode cX5_countArrangements 1 = .ok (.getfield 30, 3) := by decide +kernel
theorem dX5_countArrangements_4 : decode cX5_countArrangements 4 = .ok (.ifCond .ne 5, 3) := by decide +kernel
theorem dX5_countArrangements_7 : decode cX5_countArrangements 7 = .ok (.iconst 0, 1) := by decide +kernel
theorem dX5_countArrangements_8 : decode cX5_countArrangements 8 = .ok (.ireturn, 1) := by decide +kernel
theorem dX5_countArrangements_9 : decode cX5_countArrangements 9 = .ok (.aload_n 0, 1) := by decide +kernel
theorem dX5_countArrangements_10 : decode cX5_countArrangements 10 = .ok (.invokevirtual 58, 3) := by decide +kernel
theorem dX5_countArrangements_13 : decode cX5_countArrangements 13 = .ok (.aload_n 0, 1) := by decide +kernel
theorem dX5_countArrangements_14 : decode cX5_countArrangements 14 = .ok (.getfield 61, 3) := by decide +kernel
theorem dX5_countArrangements_17 : decode cX5_countArrangements 17 = .ok (.ireturn, 1) := by decide +kernel
theorem dX5_comesHome_0 : decode cX5_comesHome 0 = .ok (.iconst 0, 1) := by decide +kernel
theorem dX5_comesHome_1 : decode cX5_comesHome 1 = .ok (.istore_n 1, 1) := by decide +kernel
theorem dX5_comesHome_2 : decode cX5_comesHome 2 = .ok (.iconst 0, 1) := by decide +kernel
theorem dX5_comesHome_3 : decode cX5_comesHome 3 = .ok (.istore_n 2, 1) := by decide +kernel
theorem dX5_comesHome_4 : decode cX5_comesHome 4 = .ok (.iload_n 2, 1) := by decide +kernel
theorem dX5_comesHome_5 : decode cX5_comesHome 5 = .ok (.aload_n 0, 1) := by decide +kernel
theorem dX5_comesHome_6 : decode cX5_comesHome 6 = .ok (.getfield 30, 3) := by decide +kernel
theorem dX5_comesHome_9 : decode cX5_comesHome 9 = .ok (.if_icmp .ge 17, 3) := by decide +kernel
theorem dX5_comesHome_12 : decode cX5_comesHome 12 = .ok (.iload_n 1, 1) := by decide +kernel
theorem dX5_comesHome_13 : decode cX5_comesHome 13 = .ok (.iload_n 2, 1) := by decide +kernel
theorem dX5_comesHome_14 : decode cX5_comesHome 14 = .ok (.iconst 3, 1) := by decide +kernel
theorem dX5_comesHome_15 : decode cX5_comesHome 15 = .ok (.iload_n 2, 1) := by decide +kernel
theorem dX5_comesHome_16 : decode cX5_comesHome 16 = .ok (.imul, 1) := by decide +kernel
theorem dX5_comesHome_17 : decode cX5_comesHome 17 = .ok (.ishl, 1) := by decide +kernel
theorem dX5_comesHome_18 : decode cX5_comesHome 18 = .ok (.ior, 1) := by decide +kernel
theorem dX5_comesHome_19 : decode cX5_comesHome 19 = .ok (.istore_n 1, 1) := by decide +kernel
theorem dX5_comesHome_20 : decode cX5_comesHome 20 = .ok (.iinc 2 1, 3) := by decide +kernel
theorem dX5_comesHome_23 : decode cX5_comesHome 23 = .ok (.goto (-19), 3) := by decide +kernel
theorem dX5_comesHome_26 : decode cX5_comesHome 26 = .ok (.aload_n 0, 1) := by decide +kernel
theorem dX5_comesHome_27 : decode cX5_comesHome 27 = .ok (.invokevirtual 58, 3) := by decide +kernel
theorem dX5_comesHome_30 : decode cX5_comesHome 30 = .ok (.aload_n 0, 1) := by decide +kernel
theorem dX5_comesHome_31 : decode cX5_comesHome 31 = .ok (.iload_n 1, 1) := by decide +kernel
theorem dX5_comesHome_32 : decode cX5_comesHome 32 = .ok (.invokevirtual 64, 3) := by decide +kernel
theorem dX5_comesHome_35 : decode cX5_comesHome 35 = .ok (.ireturn, 1) := by decide +kernel
theorem dX5_findArrangements_0 : decode cX5_findArrangements 0 = .ok (.iconst 0, 1) := by decide +kernel
theorem dX5_findArrangements_1 : decode cX5_findArrangements 1 = .ok (.istore_n 1, 1) := by decide +kernel
theorem dX5_findArrangements_2 : decode cX5_findArrangements 2 = .ok (.iload_n 1, 1) := by decide +kernel
theorem dX5_findArrangements_3 : decode cX5_findArrangements 3 = .ok (.aload_n 0, 1) := by decide +kernel
theorem dX5_findArrangements_4 : decode cX5_findArrangements 4 = .ok (.getfield 61, 3) := by decide +kernel
theorem dX5_findArrangements_7 : decode cX5_findArrangements 7 = .ok (.if_icmp .ge 24, 3) := by decide +kernel
theorem dX5_findArrangements_10 : decode cX5_findArrangements 10 = .ok (.aload_n 0, 1) := by decide +kernel
theorem dX5_findArrangements_11 : decode cX5_findArrangements 11 = .ok (.getfield 26, 3) := by decide +kernel
theorem dX5_findArrangements_14 : decode cX5_findArrangements 14 = .ok (.aload_n 0, 1) := by decide +kernel
theorem dX5_findArrangements_15 : decode cX5_findArrangements 15 = .ok (.getfield 22, 3) := by decide +kernel
theorem dX5_findArrangements_18 : decode cX5_findArrangements 18 = .ok (.iload_n 1, 1) := by decide +kernel
theorem dX5_findArrangements_19 : decode cX5_findArrangements 19 = .ok (.iaload, 1) := by decide +kernel
theorem dX5_findArrangements_20 : decode cX5_findArrangements 20 = .ok (.invokestatic 68, 3) := by decide +kernel
theorem dX5_findArrangements_23 : decode cX5_findArrangements 23 = .ok (.lconst 0, 1) := by decide +kernel
theorem dX5_findArrangements_24 : decode cX5_findArrangements 24 = .ok (.lastore, 1) := by decide +kernel
theorem dX5_findArrangements_25 : decode cX5_findArrangements 25 = .ok (.iinc 1 1, 3) := by decide +kernel
theorem dX5_findArrangements_28 : decode cX5_findArrangements 28 = .ok (.goto (-26), 3) := by decide +kernel
theorem dX5_findArrangements_31 : decode cX5_findArrangements 31 = .ok (.aload_n 0, 1) := by decide +kernel
theorem dX5_findArrangements_32 : decode cX5_findArrangements 32 = .ok (.iconst 0, 1) := by decide +kernel
theorem dX5_findArrangements_33 : decode cX5_findArrangements 33 = .ok (.putfield 61, 3) := by decide +kernel
theorem dX5_findArrangements_36 : decode cX5_findArrangements 36 = .ok (.iconst 0, 1) := by decide +kernel
theorem dX5_findArrangements_37 : decode cX5_findArrangements 37 = .ok (.istore_n 1, 1) := by decide +kernel
theorem dX5_findArrangements_38 : decode cX5_findArrangements 38 = .ok (.iconst 0, 1) := by decide +kernel
theorem dX5_findArrangements_39 : decode cX5_findArrangements 39 = .ok (.istore_n 2, 1) := by decide +kernel
theorem dX5_findArrangements_40 : decode cX5_findArrangements 40 = .ok (.iload_n 2, 1) := by decide +kernel
theorem dX5_findArrangements_41 : decode cX5_findArrangements 41 = .ok (.aload_n 0, 1) := by decide +kernel
theorem dX5_findArrangements_42 : decode cX5_findArrangements 42 = .ok (.getfield 30, 3) := by decide +kernel
theorem dX5_findArrangements_45 : decode cX5_findArrangements 45 = .ok (.if_icmp .ge 22, 3) := by decide +kernel
theorem dX5_findArrangements_48 : decode cX5_findArrangements 48 = .ok (.iload_n 1, 1) := by decide +kernel
theorem dX5_findArrangements_49 : decode cX5_findArrangements 49 = .ok (.aload_n 0, 1) := by decide +kernel
theorem dX5_findArrangements_50 : decode cX5_findArrangements 50 = .ok (.getfield 9, 3) := by decide +kernel
theorem dX5_findArrangements_53 : decode cX5_findArrangements 53 = .ok (.iload_n 2, 1) := by decide +kernel
theorem dX5_findArrangements_54 : decode cX5_findArrangements 54 = .ok (.iaload, 1) := by decide +kernel
theorem dX5_findArrangements_55 : decode cX5_findArrangements 55 = .ok (.iconst 3, 1) := by decide +kernel
theorem dX5_findArrangements_56 : decode cX5_findArrangements 56 = .ok (.iload_n 2, 1) := by decide +kernel
theorem dX5_findArrangements_57 : decode cX5_findArrangements 57 = .ok (.imul, 1) := by decide +kernel
theorem dX5_findArrangements_58 : decode cX5_findArrangements 58 = .ok (.ishl, 1) := by decide +kernel
theorem dX5_findArrangements_59 : decode cX5_findArrangements 59 = .ok (.ior, 1) := by decide +kernel
theorem dX5_findArrangements_60 : decode cX5_findArrangements 60 = .ok (.istore_n 1, 1) := by decide +kernel
theorem dX5_findArrangements_61 : decode cX5_findArrangements 61 = .ok (.iinc 2 1, 3) := by decide +kernel
theorem dX5_findArrangements_64 : decode cX5_findArrangements 64 = .ok (.goto (-24), 3) := by decide +kernel
theorem dX5_findArrangements_67 : decode cX5_findArrangements 67 = .ok (.aload_n 0, 1) := by decide +kernel
theorem dX5_findArrangements_68 : decode cX5_findArrangements 68 = .ok (.iload_n 1, 1) := by decide +kernel
theorem dX5_findArrangements_69 : decode cX5_findArrangements 69 = .ok (.invokevirtual 72, 3) := by decide +kernel
theorem dX5_findArrangements_72 : decode cX5_findArrangements 72 = .ok (.iconst 0, 1) := by decide +kernel
theorem dX5_findArrangements_73 : decode cX5_findArrangements 73 = .ok (.istore_n 2, 1) := by decide +kernel
theorem dX5_findArrangements_74 : decode cX5_findArrangements 74 = .ok (.iload_n 2, 1) := by decide +kernel
theorem dX5_findArrangements_75 : decode cX5_findArrangements 75 = .ok (.aload_n 0, 1) := by decide +kernel
theorem dX5_findArrangements_76 : decode cX5_findArrangements 76 = .ok (.getfield 61, 3) := by decide +kernel
theorem dX5_findArrangements_79 : decode cX5_findArrangements 79 = .ok (.if_icmp .ge 25, 3) := by decide +kernel
theorem dX5_findArrangements_82 : decode cX5_findArrangements 82 = .ok (.iload_n 2, 1) := by decide +kernel
theorem dX5_findArrangements_83 : decode cX5_findArrangements 83 = .ok (.ldc 21, 2) := by decide +kernel
theorem dX5_findArrangements_85 : decode cX5_findArrangements 85 = .ok (.if_icmp .ge 19, 3) := by decide +kernel
theorem dX5_findArrangements_88 : decode cX5_findArrangements 88 = .ok (.aload_n 0, 1) := by decide +kernel
theorem dX5_findArrangements_89 : decode cX5_findArrangements 89 = .ok (.aload_n 0, 1) := by decide +kernel
theorem dX5_findArrangements_90 : decode cX5_findArrangements 90 = .ok (.getfield 22, 3) := by decide +kernel
theorem dX5_findArrangements_93 : decode cX5_findArrangements 93 = .ok (.iload_n 2, 1) := by decide +kernel
theorem dX5_findArrangements_94 : decode cX5_findArrangements 94 = .ok (.iaload, 1) := by decide +kernel
theorem dX5_findArrangements_95 : decode cX5_findArrangements 95 = .ok (.invokevirtual 76, 3) := by decide +kernel
theorem dX5_findArrangements_98 : decode cX5_findArrangements 98 = .ok (.iinc 2 1, 3) := by decide +kernel
theorem dX5_findArrangements_101 : decode cX5_findArrangements 101 = .ok (.goto (-27), 3) := by decide +kernel
theorem dX5_findArrangements_104 : decode cX5_findArrangements 104 = .ok (.return_, 1) := by decide +kernel
theorem dX5_markShifts_0 : decode cX5_markShifts 0 = .ok (.iconst 0, 1) := by decide +kernel
theorem dX5_markShifts_1 : decode cX5_markShifts 1 = .ok (.istore_n 2, 1) := by decide +kernel
theorem dX5_markShifts_2 : decode cX5_markShifts 2 = .ok (.iload_n 2, 1) := by decide +kernel
theorem dX5_markShifts_3 : decode cX5_markShifts 3 = .ok (.aload_n 0, 1) := by decide +kernel
theorem dX5_markShifts_4 : decode cX5_markShifts 4 = .ok (.getfield 30, 3) := by decide +kernel
theorem dX5_markShifts_7 : decode cX5_markShifts 7 = .ok (.iconst 1, 1) := by decide +kernel
theorem dX5_markShifts_8 : decode cX5_markShifts 8 = .ok (.isub, 1) := by decide +kernel
theorem dX5_markShifts_9 : decode cX5_markShifts 9 = .ok (.if_icmp .ge 20, 3) := by decide +kernel
theorem dX5_markShifts_12 : decode cX5_markShifts 12 = .ok (.iload_n 1, 1) := by decide +kernel
theorem dX5_markShifts_13 : decode cX5_markShifts 13 = .ok (.iconst 3, 1) := by decide +kernel
theorem dX5_markShifts_14 : decode cX5_markShifts 14 = .ok (.iload_n 2, 1) := by decide +kernel
theorem dX5_markShifts_15 : decode cX5_markShifts 15 = .ok (.imul, 1) := by decide +kernel
theorem dX5_markShifts_16 : decode cX5_markShifts 16 = .ok (.iushr, 1) := by decide +kernel
theorem dX5_markShifts_17 : decode cX5_markShifts 17 = .ok (.bipush 7, 2) := by decide +kernel
theorem dX5_markShifts_19 : decode cX5_markShifts 19 = .ok (.iand, 1) := by decide +kernel
theorem dX5_markShifts_20 : decode cX5_markShifts 20 = .ok (.ifCond .eq 9, 3) := by decide +kernel
theorem dX5_markShifts_23 : decode cX5_markShifts 23 = .ok (.iinc 2 1, 3) := by decide +kernel
theorem dX5_markShifts_26 : decode cX5_markShifts 26 = .ok (.goto (-24), 3) := by decide +kernel
theorem dX5_markShifts_29 : decode cX5_markShifts 29 = .ok (.iconst 0, 1) := by decide +kernel
theorem dX5_markShifts_30 : decode cX5_markShifts 30 = .ok (.istore_n 3, 1) := by decide +kernel
theorem dX5_markShifts_31 : decode cX5_markShifts 31 = .ok (.iload_n 3, 1) := by decide +kernel
theorem dX5_markShifts_32 : decode cX5_markShifts 32 = .ok (.aload_n 0, 1) := by decide +kernel
theorem dX5_markShifts_33 : decode cX5_markShifts 33 = .ok (.getfield 30, 3) := by decide +kernel
theorem dX5_markShifts_36 : decode cX5_markShifts 36 = .ok (.if_icmp .ge 47, 3) := by decide +kernel
theorem dX5_markShifts_39 : decode cX5_markShifts 39 = .ok (.aload_n 0, 1) := by decide +kernel
theorem dX5_markShifts_40 : decode cX5_markShifts 40 = .ok (.iload_n 2, 1) := by decide +kernel
theorem dX5_markShifts_41 : decode cX5_markShifts 41 = .ok (.iload_n 3, 1) := by decide +kernel
theorem dX5_markShifts_42 : decode cX5_markShifts 42 = .ok (.invokevirtual 34, 3) := by decide +kernel
theorem dX5_markShifts_45 : decode cX5_markShifts 45 = .ok (.ifCond .eq 32, 3) := by decide +kernel
theorem dX5_markShifts_48 : decode cX5_markShifts 48 = .ok (.iload_n 1, 1) := by decide +kernel
theorem dX5_markShifts_49 : decode cX5_markShifts 49 = .ok (.iconst 3, 1) := by decide +kernel
theorem dX5_markShifts_50 : decode cX5_markShifts 50 = .ok (.iload_n 3, 1) := by decide +kernel
theorem dX5_markShifts_51 : decode cX5_markShifts 51 = .ok (.imul, 1) := by decide +kernel
theorem dX5_markShifts_52 : decode cX5_markShifts 52 = .ok (.iushr, 1) := by decide +kernel
theorem dX5_markShifts_53 : decode cX5_markShifts 53 = .ok (.bipush 7, 2) := by decide +kernel
theorem dX5_markShifts_55 : decode cX5_markShifts 55 = .ok (.iand, 1) := by decide +kernel
theorem dX5_markShifts_56 : decode cX5_markShifts 56 = .ok (.istore 4, 2) := by decide +kernel
theorem dX5_markShifts_58 : decode cX5_markShifts 58 = .ok (.aload_n 0, 1) := by decide +kernel
theorem dX5_markShifts_59 : decode cX5_markShifts 59 = .ok (.iload_n 1, 1) := by decide +kernel
theorem dX5_markShifts_60 : decode cX5_markShifts 60 = .ok (.iload 4, 2) := by decide +kernel
theorem dX5_markShifts_62 : decode cX5_markShifts 62 = .ok (.iconst 3, 1) := by decide +kernel
theorem dX5_markShifts_63 : decode cX5_markShifts 63 = .ok (.iload_n 3, 1) := by decide +kernel
theorem dX5_markShifts_64 : decode cX5_markShifts 64 = .ok (.imul, 1) := by decide +kernel
theorem dX5_markShifts_65 : decode cX5_markShifts 65 = .ok (.ishl, 1) := by decide +kernel
theorem dX5_markShifts_66 : decode cX5_markShifts 66 = .ok (.ixor, 1) := by decide +kernel
theorem dX5_markShifts_67 : decode cX5_markShifts 67 = .ok (.iload 4, 2) := by decide +kernel
theorem dX5_markShifts_69 : decode cX5_markShifts 69 = .ok (.iconst 3, 1) := by decide +kernel
theorem dX5_markShifts_70 : decode cX5_markShifts 70 = .ok (.iload_n 2, 1) := by decide +kernel
theorem dX5_markShifts_71 : decode cX5_markShifts 71 = .ok (.imul, 1) := by decide +kernel
theorem dX5_markShifts_72 : decode cX5_markShifts 72 = .ok (.ishl, 1) := by decide +kernel
theorem dX5_markShifts_73 : decode cX5_markShifts 73 = .ok (.ixor, 1) := by decide +kernel
theorem dX5_markShifts_74 : decode cX5_markShifts 74 = .ok (.invokevirtual 72, 3) := by decide +kernel
theorem dX5_markShifts_77 : decode cX5_markShifts 77 = .ok (.iinc 3 1, 3) := by decide +kernel
theorem dX5_markShifts_80 : decode cX5_markShifts 80 = .ok (.goto (-49), 3) := by decide +kernel
theorem dX5_markShifts_83 : decode cX5_markShifts 83 = .ok (.return_, 1) := by decide +kernel
theorem dX5_markOf_0 : decode cX5_markOf 0 = .ok (.iload_n 0, 1) := by decide +kernel
theorem dX5_markOf_1 : decode cX5_markOf 1 = .ok (.ldc 79, 2) := by decide +kernel
theorem dX5_markOf_3 : decode cX5_markOf 3 = .ok (.iand, 1) := by decide +kernel
theorem dX5_markOf_4 : decode cX5_markOf 4 = .ok (.bipush 6, 2) := by decide +kernel
theorem dX5_markOf_6 : decode cX5_markOf 6 = .ok (.iushr, 1) := by decide +kernel
theorem dX5_markOf_7 : decode cX5_markOf 7 = .ok (.ireturn, 1) := by decide +kernel
theorem dX5_isMarked_0 : decode cX5_isMarked 0 = .ok (.aload_n 0, 1) := by decide +kernel
theorem dX5_isMarked_1 : decode cX5_isMarked 1 = .ok (.getfield 26, 3) := by decide +kernel
theorem dX5_isMarked_4 : decode cX5_isMarked 4 = .ok (.iload_n 1, 1) := by decide +kernel
theorem dX5_isMarked_5 : decode cX5_isMarked 5 = .ok (.invokestatic 68, 3) := by decide +kernel
theorem dX5_isMarked_8 : decode cX5_isMarked 8 = .ok (.laload, 1) := by decide +kernel
theorem dX5_isMarked_9 : decode cX5_isMarked 9 = .ok (.iload_n 1, 1) := by decide +kernel
theorem dX5_isMarked_10 : decode cX5_isMarked 10 = .ok (.bipush 63, 2) := by decide +kernel
theorem dX5_isMarked_12 : decode cX5_isMarked 12 = .ok (.iand, 1) := by decide +kernel
theorem dX5_isMarked_13 : decode cX5_isMarked 13 = .ok (.lushr, 1) := by decide +kernel
theorem dX5_isMarked_14 : decode cX5_isMarked 14 = .ok (.lconst 1, 1) := by decide +kernel
theorem dX5_isMarked_15 : decode cX5_isMarked 15 = .ok (.land, 1) := by decide +kernel
theorem dX5_isMarked_16 : decode cX5_isMarked 16 = .ok (.lconst 0, 1) := by decide +kernel
theorem dX5_isMarked_17 : decode cX5_isMarked 17 = .ok (.lcmp, 1) := by decide +kernel
theorem dX5_isMarked_18 : decode cX5_isMarked 18 = .ok (.ifCond .eq 7, 3) := by decide +kernel
theorem dX5_isMarked_21 : decode cX5_isMarked 21 = .ok (.iconst 1, 1) := by decide +kernel
theorem dX5_isMarked_22 : decode cX5_isMarked 22 = .ok (.goto 4, 3) := by decide +kernel
theorem dX5_isMarked_25 : decode cX5_isMarked 25 = .ok (.iconst 0, 1) := by decide +kernel
theorem dX5_isMarked_26 : decode cX5_isMarked 26 = .ok (.ireturn, 1) := by decide +kernel
theorem dX5_mark_0 : decode cX5_mark 0 = .ok (.aload_n 0, 1) := by decide +kernel
theorem dX5_mark_1 : decode cX5_mark 1 = .ok (.iload_n 1, 1) := by decide +kernel
theorem dX5_mark_2 : decode cX5_mark 2 = .ok (.invokevirtual 64, 3) := by decide +kernel
theorem dX5_mark_5 : decode cX5_mark 5 = .ok (.ifCond .ne 12, 3) := by decide +kernel
theorem dX5_mark_8 : decode cX5_mark 8 = .ok (.aload_n 0, 1) := by decide +kernel
theorem dX5_mark_9 : decode cX5_mark 9 = .ok (.getfield 61, 3) := by decide +kernel
theorem dX5_mark_12 : decode cX5_mark 12 = .ok (.ldc 21, 2) := by decide +kernel
theorem dX5_mark_14 : decode cX5_mark 14 = .ok (.if_icmp .lt 4, 3) := by decide +kernel
theorem dX5_mark_17 : decode cX5_mark 17 = .ok (.return_, 1) := by decide +kernel
theorem dX5_mark_18 : decode cX5_mark 18 = .ok (.aload_n 0, 1) := by decide +kernel
theorem dX5_mark_19 : decode cX5_mark 19 = .ok (.getfield 26, 3) := by decide +kernel
theorem dX5_mark_22 : decode cX5_mark 22 = .ok (.iload_n 1, 1) := by decide +kernel
theorem dX5_mark_23 : decode cX5_mark 23 = .ok (.invokestatic 68, 3) := by decide +kernel
theorem dX5_mark_26 : decode cX5_mark 26 = .ok (.dup2, 1) := by decide +kernel
theorem dX5_mark_27 : decode cX5_mark 27 = .ok (.laload, 1) := by decide +kernel
theorem dX5_mark_28 : decode cX5_mark 28 = .ok (.lconst 1, 1) := by decide +kernel
theorem dX5_mark_29 : decode cX5_mark 29 = .ok (.iload_n 1, 1) := by decide +kernel
theorem dX5_mark_30 : decode cX5_mark 30 = .ok (.bipush 63, 2) := by decide +kernel
theorem dX5_mark_32 : decode cX5_mark 32 = .ok (.iand, 1) := by decide +kernel
theorem dX5_mark_33 : decode cX5_mark 33 = .ok (.lshl, 1) := by decide +kernel
theorem dX5_mark_34 : decode cX5_mark 34 = .ok (.lor, 1) := by decide +kernel
theorem dX5_mark_35 : decode cX5_mark 35 = .ok (.lastore, 1) := by decide +kernel
theorem dX5_mark_36 : decode cX5_mark 36 = .ok (.aload_n 0, 1) := by decide +kernel
theorem dX5_mark_37 : decode cX5_mark 37 = .ok (.getfield 22, 3) := by decide +kernel
theorem dX5_mark_40 : decode cX5_mark 40 = .ok (.aload_n 0, 1) := by decide +kernel
theorem dX5_mark_41 : decode cX5_mark 41 = .ok (.getfield 61, 3) := by decide +kernel
theorem dX5_mark_44 : decode cX5_mark 44 = .ok (.iload_n 1, 1) := by decide +kernel
theorem dX5_mark_45 : decode cX5_mark 45 = .ok (.iastore, 1) := by decide +kernel
theorem dX5_mark_46 : decode cX5_mark 46 = .ok (.aload_n 0, 1) := by decide +kernel
theorem dX5_mark_47 : decode cX5_mark 47 = .ok (.dup, 1) := by decide +kernel
theorem dX5_mark_48 : decode cX5_mark 48 = .ok (.getfield 61, 3) := by decide +kernel
theorem dX5_mark_51 : decode cX5_mark 51 = .ok (.iconst 1, 1) := by decide +kernel
theorem dX5_mark_52 : decode cX5_mark 52 = .ok (.iadd, 1) := by decide +kernel
theorem dX5_mark_53 : decode cX5_mark 53 = .ok (.putfield 61, 3) := by decide +kernel
theorem dX5_mark_56 : decode cX5_mark 56 = .ok (.return_, 1) := by decide +kernel
theorem dX1_init_0 : decode cX1_init 0 = .ok (.aload_n 0, 1) := by decide +kernel
theorem dX1_init_1 : decode cX1_init 1 = .ok (.invokespecial 3, 3) := by decide +kernel
theorem dX1_init_4 : decode cX1_init 4 = .ok (.aload_n 0, 1) := by decide +kernel
theorem dX1_init_5 : decode cX1_init 5 = .ok (.new 9, 3) := by decide +kernel
theorem dX1_init_8 : decode cX1_init 8 = .ok (.dup, 1) := by decide +kernel
theorem dX1_init_9 : decode cX1_init 9 = .ok (.invokespecial 11, 3) := by decide +kernel
theorem dX1_init_12 : decode cX1_init 12 = .ok (.putfield 12, 3) := by decide +kernel
theorem dX1_init_15 : decode cX1_init 15 = .ok (.aload_n 0, 1) := by decide +kernel
theorem dX1_init_16 : decode cX1_init 16 = .ok (.bipush 8, 2) := by decide +kernel
theorem dX1_init_18 : decode cX1_init 18 = .ok (.newarray .int, 2) := by decide +kernel
theorem dX1_init_20 : decode cX1_init 20 = .ok (.putfield 18, 3) := by decide +kernel
theorem dX1_init_23 : decode cX1_init 23 = .ok (.aload_n 0, 1) := by decide +kernel
theorem dX1_init_24 : decode cX1_init 24 = .ok (.bipush 8, 2) := by decide +kernel
theorem dX1_init_26 : decode cX1_init 26 = .ok (.newarray .int, 2) := by decide +kernel
theorem dX1_init_28 : decode cX1_init 28 = .ok (.putfield 22, 3) := by decide +kernel
theorem dX1_init_31 : decode cX1_init 31 = .ok (.aload_n 0, 1) := by decide +kernel
theorem dX1_init_32 : decode cX1_init 32 = .ok (.bipush 8, 2) := by decide +kernel
theorem dX1_init_34 : decode cX1_init 34 = .ok (.newarray .int, 2) := by decide +kernel
theorem dX1_init_36 : decode cX1_init 36 = .ok (.putfield 25, 3) := by decide +kernel
theorem dX1_init_39 : decode cX1_init 39 = .ok (.aload_n 0, 1) := by decide +kernel
theorem dX1_init_40 : decode cX1_init 40 = .ok (.bipush 8, 2) := by decide +kernel
theorem dX1_init_42 : decode cX1_init 42 = .ok (.newarray .int, 2) := by decide +kernel
theorem dX1_init_44 : decode cX1_init 44 = .ok (.putfield 28, 3) := by decide +kernel
theorem dX1_init_47 : decode cX1_init 47 = .ok (.aload_n 0, 1) := by decide +kernel
theorem dX1_init_48 : decode cX1_init 48 = .ok (.bipush 8, 2) := by decide +kernel
theorem dX1_init_50 : decode cX1_init 50 = .ok (.newarray .int, 2) := by decide +kernel
theorem dX1_init_52 : decode cX1_init 52 = .ok (.putfield 31, 3) := by decide +kernel
theorem dX1_init_55 : decode cX1_init 55 = .ok (.aload_n 0, 1) := by decide +kernel
theorem dX1_init_56 : decode cX1_init 56 = .ok (.aload_n 1, 1) := by decide +kernel
theorem dX1_init_57 : decode cX1_init 57 = .ok (.putfield 34, 3) := by decide +kernel
theorem dX1_init_60 : decode cX1_init 60 = .ok (.aload_n 0, 1) := by decide +kernel
theorem dX1_init_61 : decode cX1_init 61 = .ok (.aload_n 2, 1) := by decide +kernel
theorem dX1_init_62 : decode cX1_init 62 = .ok (.putfield 38, 3) := by decide +kernel
theorem dX1_init_65 : decode cX1_init 65 = .ok (.return_, 1) := by decide +kernel
theorem dX1_presentOpenGoal_0 : decode cX1_presentOpenGoal 0 = .ok (.iconst 0, 1) := by decide +kernel
theorem dX1_presentOpenGoal_1 : decode cX1_presentOpenGoal 1 = .ok (.istore_n 1, 1) := by decide +kernel
theorem dX1_presentOpenGoal_2 : decode cX1_presentOpenGoal 2 = .ok (.iload_n 1, 1) := by decide +kernel
theorem dX1_presentOpenGoal_3 : decode cX1_presentOpenGoal 3 = .ok (.aload_n 0, 1) := by decide +kernel
theorem dX1_presentOpenGoal_4 : decode cX1_presentOpenGoal 4 = .ok (.getfield 34, 3) := by decide +kernel
theorem dX1_presentOpenGoal_7 : decode cX1_presentOpenGoal 7 = .ok (.getfield 42, 3) := by decide +kernel
theorem dX1_presentOpenGoal_10 : decode cX1_presentOpenGoal 10 = .ok (.if_icmp .ge 27, 3) := by decide +kernel
theorem dX1_presentOpenGoal_13 : decode cX1_presentOpenGoal 13 = .ok (.aload_n 0, 1) := by decide +kernel
theorem dX1_presentOpenGoal_14 : decode cX1_presentOpenGoal 14 = .ok (.getfield 25, 3) := by decide +kernel
theorem dX1_presentOpenGoal_17 : decode cX1_presentOpenGoal 17 = .ok (.iload_n 1, 1) := by decide +kernel
theorem dX1_presentOpenGoal_18 : decode cX1_presentOpenGoal 18 = .ok (.aload_n 0, 1) := by decide +kernel
theorem dX1_presentOpenGoal_19 : decode cX1_presentOpenGoal 19 = .ok (.getfield 34, 3) := by decide +kernel
theorem dX1_presentOpenGoal_22 : decode cX1_presentOpenGoal 22 = .ok (.getfield 48, 3) := by decide +kernel
theorem dX1_presentOpenGoal_25 : decode cX1_presentOpenGoal 25 = .ok (.iload_n 1, 1) := by decide +kernel
theorem dX1_presentOpenGoal_26 : decode cX1_presentOpenGoal 26 = .ok (.iaload, 1) := by decide +kernel
theorem dX1_presentOpenGoal_27 : decode cX1_presentOpenGoal 27 = .ok (.invokestatic 49, 3) := by decide +kernel
theorem dX1_presentOpenGoal_30 : decode cX1_presentOpenGoal 30 = .ok (.iastore, 1) := by decide +kernel
theorem dX1_presentOpenGoal_31 : decode cX1_presentOpenGoal 31 = .ok (.iinc 1 1, 3) := by decide +kernel
theorem dX1_presentOpenGoal_34 : decode cX1_presentOpenGoal 34 = .ok (.goto (-32), 3) := by decide +kernel
theorem dX1_presentOpenGoal_37 : decode cX1_presentOpenGoal 37 = .ok (.aload_n 0, 1) := by decide +kernel
theorem dX1_presentOpenGoal_38 : decode cX1_presentOpenGoal 38 = .ok (.getfield 38, 3) := by decide +kernel
theorem dX1_presentOpenGoal_41 : decode cX1_presentOpenGoal 41 = .ok (.aload_n 0, 1) := by decide +kernel
theorem dX1_presentOpenGoal_42 : decode cX1_presentOpenGoal 42 = .ok (.getfield 34, 3) := by decide +kernel
theorem dX1_presentOpenGoal_45 : decode cX1_presentOpenGoal 45 = .ok (.aload_n 0, 1) := by decide +kernel
theorem dX1_presentOpenGoal_46 : decode cX1_presentOpenGoal 46 = .ok (.getfield 25, 3) := by decide +kernel
theorem dX1_presentOpenGoal_49 : decode cX1_presentOpenGoal 49 = .ok (.invokevirtual 53, 3) := by decide +kernel
theorem dX1_presentOpenGoal_52 : decode cX1_presentOpenGoal 52 = .ok (.ireturn, 1) := by decide +kernel
theorem dX1_explore_0 : decode cX1_explore 0 = .ok (.aload_n 0, 1) := by decide +kernel
theorem dX1_explore_1 : decode cX1_explore 1 = .ok (.iload_n 2, 1) := by decide +kernel
theorem dX1_explore_2 : decode cX1_explore 2 = .ok (.putfield 59, 3) := by decide +kernel
theorem dX1_explore_5 : decode cX1_explore 5 = .ok (.aload_n 0, 1) := by decide +kernel
theorem dX1_explore_6 : decode cX1_explore 6 = .ok (.iload_n 1, 1) := by decide +kernel
theorem dX1_explore_7 : decode cX1_explore 7 = .ok (.ifCond .ne 7, 3) := by decide +kernel
theorem dX1_explore_10 : decode cX1_explore 10 = .ok (.iconst 1, 1) := by decide +kernel
theorem dX1_explore_11 : decode cX1_explore 11 = .ok (.goto 4, 3) := by decide +kernel
theorem dX1_explore_14 : decode cX1_explore 14 = .ok (.iconst 5, 1) := by decide +kernel
theorem dX1_explore_15 : decode cX1_explore 15 = .ok (.putfield 62, 3) := by decide +kernel
theorem dX1_explore_18 : decode cX1_explore 18 = .ok (.aload_n 0, 1) := by decide +kernel
theorem dX1_explore_19 : decode cX1_explore 19 = .ok (.iload_n 3, 1) := by decide +kernel
theorem dX1_explore_20 : decode cX1_explore 20 = .ok (.putfield 65, 3) := by decide +kernel
theorem dX1_explore_23 : decode cX1_explore 23 = .ok (.aload_n 0, 1) := by decide +kernel
theorem dX1_explore_24 : decode cX1_explore 24 = .ok (.getfield 12, 3) := by decide +kernel
theorem dX1_explore_27 : decode cX1_explore 27 = .ok (.invokevirtual 69, 3) := by decide +kernel
theorem dX1_explore_30 : decode cX1_explore 30 = .ok (.aload_n 0, 1) := by decide +kernel
theorem dX1_explore_31 : decode cX1_explore 31 = .ok (.invokevirtual 72, 3) := by decide +kernel
theorem dX1_explore_34 : decode cX1_explore 34 = .ok (.aload_n 0, 1) := by decide +kernel
theorem dX1_explore_35 : decode cX1_explore 35 = .ok (.invokevirtual 75, 3) := by decide +kernel
theorem dX1_explore_38 : decode cX1_explore 38 = .ok (.istore 4, 2) := by decide +kernel
theorem dX1_explore_40 : decode cX1_explore 40 = .ok (.iconst 0, 1) := by decide +kernel
theorem dX1_explore_41 : decode cX1_explore 41 = .ok (.istore 5, 2) := by decide +kernel
theorem dX1_explore_43 : decode cX1_explore 43 = .ok (.iload 4, 2) := by decide +kernel
theorem dX1_explore_45 : decode cX1_explore 45 = .ok (.iconst 1, 1) := by decide +kernel
theorem dX1_explore_46 : decode cX1_explore 46 = .ok (.if_icmp .ne 37, 3) := by decide +kernel
theorem dX1_explore_49 : decode cX1_explore 49 = .ok (.iload 5, 2) := by decide +kernel
theorem dX1_explore_51 : decode cX1_explore 51 = .ok (.aload_n 0, 1) := by decide +kernel
theorem dX1_explore_52 : decode cX1_explore 52 = .ok (.getfield 12, 3) := by decide +kernel
theorem dX1_explore_55 : decode cX1_explore 55 = .ok (.getfield 79, 3) := by decide +kernel
theorem dX1_explore_58 : decode cX1_explore 58 = .ok (.if_icmp .ge 25, 3) := by decide +kernel
theorem dX1_explore_61 : decode cX1_explore 61 = .ok (.iload 5, 2) := by decide +kernel
theorem dX1_explore_63 : decode cX1_explore 63 = .ok (.sipush 10000, 3) := by decide +kernel
theorem dX1_explore_66 : decode cX1_explore 66 = .ok (.if_icmp .ge 17, 3) := by decide +kernel
theorem dX1_explore_69 : decode cX1_explore 69 = .ok (.aload_n 0, 1) := by decide +kernel
theorem dX1_explore_70 : decode cX1_explore 70 = .ok (.iload 5, 2) := by decide +kernel
theorem dX1_explore_72 : decode cX1_explore 72 = .ok (.invokevirtual 82, 3) := by decide +kernel
theorem dX1_explore_75 : decode cX1_explore 75 = .ok (.istore 4, 2) := by decide +kernel
theorem dX1_explore_77 : decode cX1_explore 77 = .ok (.iinc 5 1, 3) := by decide +kernel
theorem dX1_explore_80 : decode cX1_explore 80 = .ok (.goto (-37), 3) := by decide +kernel
theorem dX1_explore_83 : decode cX1_explore 83 = .ok (.iload 4, 2) := by decide +kernel
theorem dX1_explore_85 : decode cX1_explore 85 = .ok (.iconst 1, 1) := by decide +kernel
theorem dX1_explore_86 : decode cX1_explore 86 = .ok (.if_icmp .ne 7, 3) := by decide +kernel
theorem dX1_explore_89 : decode cX1_explore 89 = .ok (.iconst (-1), 1) := by decide +kernel
theorem dX1_explore_90 : decode cX1_explore 90 = .ok (.goto 5, 3) := by decide +kernel
theorem dX1_explore_93 : decode cX1_explore 93 = .ok (.iload 4, 2) := by decide +kernel
theorem dX1_explore_95 : decode cX1_explore 95 = .ok (.ireturn, 1) := by decide +kernel
theorem dX1_findAlike_0 : decode cX1_findAlike 0 = .ok (.iconst 0, 1) := by decide +kernel
theorem dX1_findAlike_1 : decode cX1_findAlike 1 = .ok (.istore_n 1, 1) := by decide +kernel
theorem dX1_findAlike_2 : decode cX1_findAlike 2 = .ok (.iload_n 1, 1) := by decide +kernel
theorem dX1_findAlike_3 : decode cX1_findAlike 3 = .ok (.aload_n 0, 1) := by decide +kernel
theorem dX1_findAlike_4 : decode cX1_findAlike 4 = .ok (.getfield 34, 3) := by decide +kernel
theorem dX1_findAlike_7 : decode cX1_findAlike 7 = .ok (.getfield 42, 3) := by decide +kernel
theorem dX1_findAlike_10 : decode cX1_findAlike 10 = .ok (.if_icmp .ge 41, 3) := by decide +kernel
theorem dX1_findAlike_13 : decode cX1_findAlike 13 = .ok (.iconst 0, 1) := by decide +kernel
theorem dX1_findAlike_14 : decode cX1_findAlike 14 = .ok (.istore_n 2, 1) := by decide +kernel
theorem dX1_findAlike_15 : decode cX1_findAlike 15 = .ok (.iload_n 2, 1) := by decide +kernel
theorem dX1_findAlike_16 : decode cX1_findAlike 16 = .ok (.iload_n 1, 1) := by decide +kernel
theorem dX1_findAlike_17 : decode cX1_findAlike 17 = .ok (.if_icmp .ge 21, 3) := by decide +kernel
theorem dX1_findAlike_20 : decode cX1_findAlike 20 = .ok (.aload_n 0, 1) := by decide +kernel
theorem dX1_findAlike_21 : decode cX1_findAlike 21 = .ok (.getfield 34, 3) := by decide +kernel
theorem dX1_findAlike_24 : decode cX1_findAlike 24 = .ok (.iload_n 2, 1) := by decide +kernel
theorem dX1_findAlike_25 : decode cX1_findAlike 25 = .ok (.iload_n 1, 1) := by decide +kernel
theorem dX1_findAlike_26 : decode cX1_findAlike 26 = .ok (.invokevirtual 85, 3) := by decide +kernel
theorem dX1_findAlike_29 : decode cX1_findAlike 29 = .ok (.ifCond .ne 9, 3) := by decide +kernel
theorem dX1_findAlike_32 : decode cX1_findAlike 32 = .ok (.iinc 2 1, 3) := by decide +kernel
theorem dX1_findAlike_35 : decode cX1_findAlike 35 = .ok (.goto (-20), 3) := by decide +kernel
theorem dX1_findAlike_38 : decode cX1_findAlike 38 = .ok (.aload_n 0, 1) := by decide +kernel
theorem dX1_findAlike_39 : decode cX1_findAlike 39 = .ok (.getfield 18, 3) := by decide +kernel
theorem dX1_findAlike_42 : decode cX1_findAlike 42 = .ok (.iload_n 1, 1) := by decide +kernel
theorem dX1_findAlike_43 : decode cX1_findAlike 43 = .ok (.iload_n 2, 1) := by decide +kernel
theorem dX1_findAlike_44 : decode cX1_findAlike 44 = .ok (.iastore, 1) := by decide +kernel
theorem dX1_findAlike_45 : decode cX1_findAlike 45 = .ok (.iinc 1 1, 3) := by decide +kernel
theorem dX1_findAlike_48 : decode cX1_findAlike 48 = .ok (.goto (-46), 3) := by decide +kernel
theorem dX1_findAlike_51 : decode cX1_findAlike 51 = .ok (.return_, 1) := by decide +kernel
theorem dX1_offerPresent_0 : decode cX1_offerPresent 0 = .ok (.iconst 0, 1) := by decide +kernel
theorem dX1_offerPresent_1 : decode cX1_offerPresent 1 = .ok (.istore_n 1, 1) := by decide +kernel
theorem dX1_offerPresent_2 : decode cX1_offerPresent 2 = .ok (.iload_n 1, 1) := by decide +kernel
theorem dX1_offerPresent_3 : decode cX1_offerPresent 3 = .ok (.aload_n 0, 1) := by decide +kernel
theorem dX1_offerPresent_4 : decode cX1_offerPresent 4 = .ok (.getfield 34, 3) := by decide +kernel
theorem dX1_offerPresent_7 : decode cX1_offerPresent 7 = .ok (.getfield 42, 3) := by decide +kernel
theorem dX1_offerPresent_10 : decode cX1_offerPresent 10 = .ok (.if_icmp .ge 39, 3) := by decide +kernel
theorem dX1_offerPresent_13 : decode cX1_offerPresent 13 = .ok (.aload_n 0, 1) := by decide +kernel
theorem dX1_offerPresent_14 : decode cX1_offerPresent 14 = .ok (.getfield 22, 3) := by decide +kernel
theorem dX1_offerPresent_17 : decode cX1_offerPresent 17 = .ok (.iload_n 1, 1) := by decide +kernel
theorem dX1_offerPresent_18 : decode cX1_offerPresent 18 = .ok (.aload_n 0, 1) := by decide +kernel
theorem dX1_offerPresent_19 : decode cX1_offerPresent 19 = .ok (.getfield 34, 3) := by decide +kernel
theorem dX1_offerPresent_22 : decode cX1_offerPresent 22 = .ok (.getfield 48, 3) := by decide +kernel
theorem dX1_offerPresent_25 : decode cX1_offerPresent 25 = .ok (.iload_n 1, 1) := by decide +kernel
theorem dX1_offerPresent_26 : decode cX1_offerPresent 26 = .ok (.iaload, 1) := by decide +kernel
theorem dX1_offerPresent_27 : decode cX1_offerPresent 27 = .ok (.invokestatic 49, 3) := by decide +kernel
theorem dX1_offerPresent_30 : decode cX1_offerPresent 30 = .ok (.iastore, 1) := by decide +kernel
theorem dX1_offerPresent_31 : decode cX1_offerPresent 31 = .ok (.aload_n 0, 1) := by decide +kernel
theorem dX1_offerPresent_32 : decode cX1_offerPresent 32 = .ok (.getfield 25, 3) := by decide +kernel
theorem dX1_offerPresent_35 : decode cX1_offerPresent 35 = .ok (.iload_n 1, 1) := by decide +kernel
theorem dX1_offerPresent_36 : decode cX1_offerPresent 36 = .ok (.aload_n 0, 1) := by decide +kernel
theorem dX1_offerPresent_37 : decode cX1_offerPresent 37 = .ok (.getfield 22, 3) := by decide +kernel
theorem dX1_offerPresent_40 : decode cX1_offerPresent 40 = .ok (.iload_n 1, 1) := by decide +kernel
theorem dX1_offerPresent_41 : decode cX1_offerPresent 41 = .ok (.iaload, 1) := by decide +kernel
theorem dX1_offerPresent_42 : decode cX1_offerPresent 42 = .ok (.iastore, 1) := by decide +kernel
theorem dX1_offerPresent_43 : decode cX1_offerPresent 43 = .ok (.iinc 1 1, 3) := by decide +kernel
theorem dX1_offerPresent_46 : decode cX1_offerPresent 46 = .ok (.goto (-44), 3) := by decide +kernel
theorem dX1_offerPresent_49 : decode cX1_offerPresent 49 = .ok (.aload_n 0, 1) := by decide +kernel
theorem dX1_offerPresent_50 : decode cX1_offerPresent 50 = .ok (.iconst (-1), 1) := by decide +kernel
theorem dX1_offerPresent_51 : decode cX1_offerPresent 51 = .ok (.iconst 0, 1) := by decide +kernel
theorem dX1_offerPresent_52 : decode cX1_offerPresent 52 = .ok (.invokevirtual 89, 3) := by decide +kernel
theorem dX1_offerPresent_55 : decode cX1_offerPresent 55 = .ok (.ireturn, 1) := by decide +kernel
theorem dX1_expand_0 : decode cX1_expand 0 = .ok (.aload_n 0, 1) := by decide +kernel
theorem dX1_expand_1 : decode cX1_expand 1 = .ok (.aload_n 0, 1) := by decide +kernel
theorem dX1_expand_2 : decode cX1_expand 2 = .ok (.getfield 12, 3) := by decide +kernel
theorem dX1_expand_5 : decode cX1_expand 5 = .ok (.getfield 93, 3) := by decide +kernel
theorem dX1_expand_8 : decode cX1_expand 8 = .ok (.iload_n 1, 1) := by decide +kernel
theorem dX1_expand_9 : decode cX1_expand 9 = .ok (.laload, 1) := by decide +kernel
theorem dX1_expand_10 : decode cX1_expand 10 = .ok (.invokevirtual 97, 3) := by decide +kernel
theorem dX1_expand_13 : decode cX1_expand 13 = .ok (.istore_n 2, 1) := by decide +kernel
theorem dX1_expand_14 : decode cX1_expand 14 = .ok (.iconst 0, 1) := by decide +kernel
theorem dX1_expand_15 : decode cX1_expand 15 = .ok (.istore_n 3, 1) := by decide +kernel
theorem dX1_expand_16 : decode cX1_expand 16 = .ok (.iload_n 3, 1) := by decide +kernel
theorem dX1_expand_17 : decode cX1_expand 17 = .ok (.aload_n 0, 1) := by decide +kernel
theorem dX1_expand_18 : decode cX1_expand 18 = .ok (.getfield 34, 3) := by decide +kernel
theorem dX1_expand_21 : decode cX1_expand 21 = .ok (.getfield 42, 3) := by decide +kernel
theorem dX1_expand_24 : decode cX1_expand 24 = .ok (.if_icmp .ge 57, 3) := by decide +kernel
theorem dX1_expand_27 : decode cX1_expand 27 = .ok (.iload_n 2, 1) := by decide +kernel
theorem dX1_expand_28 : decode cX1_expand 28 = .ok (.aload_n 0, 1) := by decide +kernel
theorem dX1_expand_29 : decode cX1_expand 29 = .ok (.getfield 28, 3) := by decide +kernel
theorem dX1_expand_32 : decode cX1_expand 32 = .ok (.iload_n 3, 1) := by decide +kernel
theorem dX1_expand_33 : decode cX1_expand 33 = .ok (.iaload, 1) := by decide +kernel
theorem dX1_expand_34 : decode cX1_expand 34 = .ok (.iconst (-1), 1) := by decide +kernel
theorem dX1_expand_35 : decode cX1_expand 35 = .ok (.ixor, 1) := by decide +kernel
theorem dX1_expand_36 : decode cX1_expand 36 = .ok (.iand, 1) := by decide +kernel
theorem dX1_expand_37 : decode cX1_expand 37 = .ok (.istore 4, 2) := by decide +kernel
theorem dX1_expand_39 : decode cX1_expand 39 = .ok (.iconst 0, 1) := by decide +kernel
theorem dX1_expand_40 : decode cX1_expand 40 = .ok (.istore 5, 2) := by decide +kernel
theorem dX1_expand_42 : decode cX1_expand 42 = .ok (.iload 5, 2) := by decide +kernel
theorem dX1_expand_44 : decode cX1_expand 44 = .ok (.iconst 4, 1) := by decide +kernel
theorem dX1_expand_45 : decode cX1_expand 45 = .ok (.if_icmp .ge 30, 3) := by decide +kernel
theorem dX1_expand_48 : decode cX1_expand 48 = .ok (.aload_n 0, 1) := by decide +kernel
theorem dX1_expand_49 : decode cX1_expand 49 = .ok (.iload_n 1, 1) := by decide +kernel
theorem dX1_expand_50 : decode cX1_expand 50 = .ok (.iload_n 3, 1) := by decide +kernel
theorem dX1_expand_51 : decode cX1_expand 51 = .ok (.iload 5, 2) := by decide +kernel
theorem dX1_expand_53 : decode cX1_expand 53 = .ok (.iload 4, 2) := by decide +kernel
theorem dX1_expand_55 : decode cX1_expand 55 = .ok (.invokevirtual 101, 3) := by decide +kernel
theorem dX1_expand_58 : decode cX1_expand 58 = .ok (.istore 6, 2) := by decide +kernel
theorem dX1_expand_60 : decode cX1_expand 60 = .ok (.iload 6, 2) := by decide +kernel
theorem dX1_expand_62 : decode cX1_expand 62 = .ok (.iconst 1, 1) := by decide +kernel
theorem dX1_expand_63 : decode cX1_expand 63 = .ok (.if_icmp .eq 6, 3) := by decide +kernel
theorem dX1_expand_66 : decode cX1_expand 66 = .ok (.iload 6, 2) := by decide +kernel
theorem dX1_expand_68 : decode cX1_expand 68 = .ok (.ireturn, 1) := by decide +kernel
theorem dX1_expand_69 : decode cX1_expand 69 = .ok (.iinc 5 1, 3) := by decide +kernel
theorem dX1_expand_72 : decode cX1_expand 72 = .ok (.goto (-30), 3) := by decide +kernel
theorem dX1_expand_75 : decode cX1_expand 75 = .ok (.iinc 3 1, 3) := by decide +kernel
theorem dX1_expand_78 : decode cX1_expand 78 = .ok (.goto (-62), 3) := by decide +kernel
theorem dX1_expand_81 : decode cX1_expand 81 = .ok (.iconst 1, 1) := by decide +kernel
theorem dX1_expand_82 : decode cX1_expand 82 = .ok (.ireturn, 1) := by decide +kernel
theorem dX1_tryWay_0 : decode cX1_tryWay 0 = .ok (.aload_n 0, 1) := by decide +kernel
theorem dX1_tryWay_1 : decode cX1_tryWay 1 = .ok (.getfield 25, 3) := by decide +kernel
theorem dX1_tryWay_4 : decode cX1_tryWay 4 = .ok (.iload_n 2, 1) := by decide +kernel
theorem dX1_tryWay_5 : decode cX1_tryWay 5 = .ok (.iaload, 1) := by decide +kernel
theorem dX1_tryWay_6 : decode cX1_tryWay 6 = .ok (.istore 5, 2) := by decide +kernel
theorem dX1_tryWay_8 : decode cX1_tryWay 8 = .ok (.aload_n 0, 1) := by decide +kernel
theorem dX1_tryWay_9 : decode cX1_tryWay 9 = .ok (.getfield 28, 3) := by decide +kernel
theorem dX1_tryWay_12 : decode cX1_tryWay 12 = .ok (.iload_n 2, 1) := by decide +kernel
theorem dX1_tryWay_13 : decode cX1_tryWay 13 = .ok (.iaload, 1) := by decide +kernel
theorem dX1_tryWay_14 : decode cX1_tryWay 14 = .ok (.istore 6, 2) := by decide +kernel
theorem dX1_tryWay_16 : decode cX1_tryWay 16 = .ok (.iconst 1, 1) := by decide +kernel
theorem dX1_tryWay_17 : decode cX1_tryWay 17 = .ok (.istore 7, 2) := by decide +kernel
theorem dX1_tryWay_19 : decode cX1_tryWay 19 = .ok (.iconst 1, 1) := by decide +kernel
theorem dX1_tryWay_20 : decode cX1_tryWay 20 = .ok (.istore 8, 2) := by decide +kernel
theorem dX1_tryWay_22 : decode cX1_tryWay 22 = .ok (.iload 8, 2) := by decide +kernel
theorem dX1_tryWay_24 : decode cX1_tryWay 24 = .ok (.aload_n 0, 1) := by decide +kernel
theorem dX1_tryWay_25 : decode cX1_tryWay 25 = .ok (.getfield 62, 3) := by decide +kernel
theorem dX1_tryWay_28 : decode cX1_tryWay 28 = .ok (.if_icmp .gt 66, 3) := by decide +kernel
theorem dX1_tryWay_31 : decode cX1_tryWay 31 = .ok (.iload 7, 2) := by decide +kernel
theorem dX1_tryWay_33 : decode cX1_tryWay 33 = .ok (.iconst 1, 1) := by decide +kernel
theorem dX1_tryWay_34 : decode cX1_tryWay 34 = .ok (.if_icmp .ne 60, 3) := by decide +kernel
theorem dX1_tryWay_37 : decode cX1_tryWay 37 = .ok (.aload_n 0, 1) := by decide +kernel
theorem dX1_tryWay_38 : decode cX1_tryWay 38 = .ok (.getfield 34, 3) := by decide +kernel
theorem dX1_tryWay_41 : decode cX1_tryWay 41 = .ok (.iload 6, 2) := by decide +kernel
theorem dX1_tryWay_43 : decode cX1_tryWay 43 = .ok (.iload_n 3, 1) := by decide +kernel
theorem dX1_tryWay_44 : decode cX1_tryWay 44 = .ok (.iload 4, 2) := by decide +kernel
theorem dX1_tryWay_46 : decode cX1_tryWay 46 = .ok (.invokevirtual 105, 3) := by decide +kernel
theorem dX1_tryWay_49 : decode cX1_tryWay 49 = .ok (.istore 6, 2) := by decide +kernel
theorem dX1_tryWay_51 : decode cX1_tryWay 51 = .ok (.iload 6, 2) := by decide +kernel
theorem dX1_tryWay_53 : decode cX1_tryWay 53 = .ok (.ifCond .ne 6, 3) := by decide +kernel
theorem dX1_tryWay_56 : decode cX1_tryWay 56 = .ok (.goto 38, 3) := by decide +kernel
theorem dX1_tryWay_59 : decode cX1_tryWay 59 = .ok (.aload_n 0, 1) := by decide +kernel
theorem dX1_tryWay_60 : decode cX1_tryWay 60 = .ok (.getfield 25, 3) := by decide +kernel
theorem dX1_tryWay_63 : decode cX1_tryWay 63 = .ok (.iload_n 2, 1) := by decide +kernel
theorem dX1_tryWay_64 : decode cX1_tryWay 64 = .ok (.iload 6, 2) := by decide +kernel
theorem dX1_tryWay_66 : decode cX1_tryWay 66 = .ok (.invokestatic 49, 3) := by decide +kernel
theorem dX1_tryWay_69 : decode cX1_tryWay 69 = .ok (.iastore, 1) := by decide +kernel
theorem dX1_tryWay_70 : decode cX1_tryWay 70 = .ok (.aload_n 0, 1) := by decide +kernel
theorem dX1_tryWay_71 : decode cX1_tryWay 71 = .ok (.iload_n 1, 1) := by decide +kernel
theorem dX1_tryWay_72 : decode cX1_tryWay 72 = .ok (.bipush 32, 2) := by decide +kernel
theorem dX1_tryWay_74 : decode cX1_tryWay 74 = .ok (.iload 8, 2) := by decide +kernel
theorem dX1_tryWay_76 : decode cX1_tryWay 76 = .ok (.imul, 1) := by decide +kernel
theorem dX1_tryWay_77 : decode cX1_tryWay 77 = .ok (.iconst 4, 1) := by decide +kernel
theorem dX1_tryWay_78 : decode cX1_tryWay 78 = .ok (.iload_n 2, 1) := by decide +kernel
theorem dX1_tryWay_79 : decode cX1_tryWay 79 = .ok (.imul, 1) := by decide +kernel
theorem dX1_tryWay_80 : decode cX1_tryWay 80 = .ok (.iadd, 1) := by decide +kernel
theorem dX1_tryWay_81 : decode cX1_tryWay 81 = .ok (.iload_n 3, 1) := by decide +kernel
theorem dX1_tryWay_82 : decode cX1_tryWay 82 = .ok (.iadd, 1) := by decide +kernel
theorem dX1_tryWay_83 : decode cX1_tryWay 83 = .ok (.invokevirtual 89, 3) := by decide +kernel
theorem dX1_tryWay_86 : decode cX1_tryWay 86 = .ok (.istore 7, 2) := by decide +kernel
theorem dX1_tryWay_88 : decode cX1_tryWay 88 = .ok (.iinc 8 1, 3) := by decide +kernel
theorem dX1_tryWay_91 : decode cX1_tryWay 91 = .ok (.goto (-69), 3) := by decide +kernel
theorem dX1_tryWay_94 : decode cX1_tryWay 94 = .ok (.aload_n 0, 1) := by decide +kernel
theorem dX1_tryWay_95 : decode cX1_tryWay 95 = .ok (.getfield 25, 3) := by decide +kernel
theorem dX1_tryWay_98 : decode cX1_tryWay 98 = .ok (.iload_n 2, 1) := by decide +kernel
theorem dX1_tryWay_99 : decode cX1_tryWay 99 = .ok (.iload 5, 2) := by decide +kernel
theorem dX1_tryWay_101 : decode cX1_tryWay 101 = .ok (.iastore, 1) := by decide +kernel
theorem dX1_tryWay_102 : decode cX1_tryWay 102 = .ok (.iload 7, 2) := by decide +kernel
theorem dX1_tryWay_104 : decode cX1_tryWay 104 = .ok (.ireturn, 1) := by decide +kernel
theorem dX1_offer_0 : decode cX1_offer 0 = .ok (.aload_n 0, 1) := by decide +kernel
theorem dX1_offer_1 : decode cX1_offer 1 = .ok (.invokevirtual 109, 3) := by decide +kernel
theorem dX1_offer_4 : decode cX1_offer 4 = .ok (.lstore_n 3, 1) := by decide +kernel
theorem dX1_offer_5 : decode cX1_offer 5 = .ok (.aload_n 0, 1) := by decide +kernel
theorem dX1_offer_6 : decode cX1_offer 6 = .ok (.getfield 12, 3) := by decide +kernel
theorem dX1_offer_9 : decode cX1_offer 9 = .ok (.lload_n 3, 1) := by decide +kernel
theorem dX1_offer_10 : decode cX1_offer 10 = .ok (.invokevirtual 113, 3) := by decide +kernel
theorem dX1_offer_13 : decode cX1_offer 13 = .ok (.ifCond .eq 5, 3) := by decide +kernel
theorem dX1_offer_16 : decode cX1_offer 16 = .ok (.iconst 1, 1) := by decide +kernel
theorem dX1_offer_17 : decode cX1_offer 17 = .ok (.ireturn, 1) := by decide +kernel
theorem dX1_offer_18 : decode cX1_offer 18 = .ok (.aload_n 0, 1) := by decide +kernel
theorem dX1_offer_19 : decode cX1_offer 19 = .ok (.getfield 12, 3) := by decide +kernel
theorem dX1_offer_22 : decode cX1_offer 22 = .ok (.getfield 79, 3) := by decide +kernel
theorem dX1_offer_25 : decode cX1_offer 25 = .ok (.aload_n 0, 1) := by decide +kernel
theorem dX1_offer_26 : decode cX1_offer 26 = .ok (.getfield 59, 3) := by decide +kernel
theorem dX1_offer_29 : decode cX1_offer 29 = .ok (.if_icmp .lt 6, 3) := by decide +kernel
theorem dX1_offer_32 : decode cX1_offer 32 = .ok (.bipush (-2), 2) := by decide +kernel
theorem dX1_offer_34 : decode cX1_offer 34 = .ok (.ireturn, 1) := by decide +kernel
theorem dX1_offer_35 : decode cX1_offer 35 = .ok (.aload_n 0, 1) := by decide +kernel
theorem dX1_offer_36 : decode cX1_offer 36 = .ok (.getfield 12, 3) := by decide +kernel
theorem dX1_offer_39 : decode cX1_offer 39 = .ok (.lload_n 3, 1) := by decide +kernel
theorem dX1_offer_40 : decode cX1_offer 40 = .ok (.aload_n 0, 1) := by decide +kernel
theorem dX1_offer_41 : decode cX1_offer 41 = .ok (.invokevirtual 117, 3) := by decide +kernel
theorem dX1_offer_44 : decode cX1_offer 44 = .ok (.iload_n 1, 1) := by decide +kernel
theorem dX1_offer_45 : decode cX1_offer 45 = .ok (.iload_n 2, 1) := by decide +kernel
theorem dX1_offer_46 : decode cX1_offer 46 = .ok (.invokevirtual 120, 3) := by decide +kernel
theorem dX1_offer_49 : decode cX1_offer 49 = .ok (.aload_n 0, 1) := by decide +kernel
theorem dX1_offer_50 : decode cX1_offer 50 = .ok (.getfield 65, 3) := by decide +kernel
theorem dX1_offer_53 : decode cX1_offer 53 = .ok (.ifCond .eq 26, 3) := by decide +kernel
theorem dX1_offer_56 : decode cX1_offer 56 = .ok (.aload_n 0, 1) := by decide +kernel
theorem dX1_offer_57 : decode cX1_offer 57 = .ok (.getfield 38, 3) := by decide +kernel
theorem dX1_offer_60 : decode cX1_offer 60 = .ok (.aload_n 0, 1) := by decide +kernel
theorem dX1_offer_61 : decode cX1_offer 61 = .ok (.getfield 34, 3) := by decide +kernel
theorem dX1_offer_64 : decode cX1_offer 64 = .ok (.aload_n 0, 1) := by decide +kernel
theorem dX1_offer_65 : decode cX1_offer 65 = .ok (.getfield 25, 3) := by decide +kernel
theorem dX1_offer_68 : decode cX1_offer 68 = .ok (.invokevirtual 53, 3) := by decide +kernel
theorem dX1_offer_71 : decode cX1_offer 71 = .ok (.iconst (-1), 1) := by decide +kernel
theorem dX1_offer_72 : decode cX1_offer 72 = .ok (.if_icmp .ne 7, 3) := by decide +kernel
theorem dX1_offer_75 : decode cX1_offer 75 = .ok (.iconst 0, 1) := by decide +kernel
theorem dX1_offer_76 : decode cX1_offer 76 = .ok (.goto 4, 3) := by decide +kernel
theorem dX1_offer_79 : decode cX1_offer 79 = .ok (.iconst 1, 1) := by decide +kernel
theorem dX1_offer_80 : decode cX1_offer 80 = .ok (.ireturn, 1) := by decide +kernel
theorem dX1_layoutOfPlaces_0 : decode cX1_layoutOfPlaces 0 = .ok (.lconst 0, 1) := by decide +kernel
theorem dX1_layoutOfPlaces_1 : decode cX1_layoutOfPlaces 1 = .ok (.lstore_n 1, 1) := by decide +kernel
theorem dX1_layoutOfPlaces_2 : decode cX1_layoutOfPlaces 2 = .ok (.aload_n 0, 1) := by decide +kernel
theorem dX1_layoutOfPlaces_3 : decode cX1_layoutOfPlaces 3 = .ok (.getfield 34, 3) := by decide +kernel
theorem dX1_layoutOfPlaces_6 : decode cX1_layoutOfPlaces 6 = .ok (.getfield 42, 3) := by decide +kernel
theorem dX1_layoutOfPlaces_9 : decode cX1_layoutOfPlaces 9 = .ok (.iconst 1, 1) := by decide +kernel
theorem dX1_layoutOfPlaces_10 : decode cX1_layoutOfPlaces 10 = .ok (.isub, 1) := by decide +kernel
theorem dX1_layoutOfPlaces_11 : decode cX1_layoutOfPlaces 11 = .ok (.istore_n 3, 1) := by decide +kernel
theorem dX1_layoutOfPlaces_12 : decode cX1_layoutOfPlaces 12 = .ok (.iload_n 3, 1) := by decide +kernel
theorem dX1_layoutOfPlaces_13 : decode cX1_layoutOfPlaces 13 = .ok (.ifCond .lt 23, 3) := by decide +kernel
theorem dX1_layoutOfPlaces_16 : decode cX1_layoutOfPlaces 16 = .ok (.lload_n 1, 1) := by decide +kernel
theorem dX1_layoutOfPlaces_17 : decode cX1_layoutOfPlaces 17 = .ok (.iconst 5, 1) := by decide +kernel
theorem dX1_layoutOfPlaces_18 : decode cX1_layoutOfPlaces 18 = .ok (.lshl, 1) := by decide +kernel
theorem dX1_layoutOfPlaces_19 : decode cX1_layoutOfPlaces 19 = .ok (.aload_n 0, 1) := by decide +kernel
theorem dX1_layoutOfPlaces_20 : decode cX1_layoutOfPlaces 20 = .ok (.getfield 25, 3) := by decide +kernel
theorem dX1_layoutOfPlaces_23 : decode cX1_layoutOfPlaces 23 = .ok (.iload_n 3, 1) := by decide +kernel
theorem dX1_layoutOfPlaces_24 : decode cX1_layoutOfPlaces 24 = .ok (.iaload, 1) := by decide +kernel
theorem dX1_layoutOfPlaces_25 : decode cX1_layoutOfPlaces 25 = .ok (.iconst 1, 1) := by decide +kernel
theorem dX1_layoutOfPlaces_26 : decode cX1_layoutOfPlaces 26 = .ok (.iadd, 1) := by decide +kernel
theorem dX1_layoutOfPlaces_27 : decode cX1_layoutOfPlaces 27 = .ok (.i2l, 1) := by decide +kernel
theorem dX1_layoutOfPlaces_28 : decode cX1_layoutOfPlaces 28 = .ok (.lor, 1) := by decide +kernel
theorem dX1_layoutOfPlaces_29 : decode cX1_layoutOfPlaces 29 = .ok (.lstore_n 1, 1) := by decide +kernel
theorem dX1_layoutOfPlaces_30 : decode cX1_layoutOfPlaces 30 = .ok (.iinc 3 (-1), 3) := by decide +kernel
theorem dX1_layoutOfPlaces_33 : decode cX1_layoutOfPlaces 33 = .ok (.goto (-21), 3) := by decide +kernel
theorem dX1_layoutOfPlaces_36 : decode cX1_layoutOfPlaces 36 = .ok (.lload_n 1, 1) := by decide +kernel
theorem dX1_layoutOfPlaces_37 : decode cX1_layoutOfPlaces 37 = .ok (.lreturn, 1) := by decide +kernel
theorem dX1_load_0 : decode cX1_load 0 = .ok (.aload_n 0, 1) := by decide +kernel
theorem dX1_load_1 : decode cX1_load 1 = .ok (.getfield 34, 3) := by decide +kernel
theorem dX1_load_4 : decode cX1_load 4 = .ok (.getfield 124, 3) := by decide +kernel
theorem dX1_load_7 : decode cX1_load 7 = .ok (.istore_n 3, 1) := by decide +kernel
theorem dX1_load_8 : decode cX1_load 8 = .ok (.lload_n 1, 1) := by decide +kernel
theorem dX1_load_9 : decode cX1_load 9 = .ok (.lstore 4, 2) := by decide +kernel
theorem dX1_load_11 : decode cX1_load 11 = .ok (.iconst 0, 1) := by decide +kernel
theorem dX1_load_12 : decode cX1_load 12 = .ok (.istore 6, 2) := by decide +kernel
theorem dX1_load_14 : decode cX1_load 14 = .ok (.iload 6, 2) := by decide +kernel
theorem dX1_load_16 : decode cX1_load 16 = .ok (.aload_n 0, 1) := by decide +kernel
theorem dX1_load_17 : decode cX1_load 17 = .ok (.getfield 34, 3) := by decide +kernel
theorem dX1_load_20 : decode cX1_load 20 = .ok (.getfield 42, 3) := by decide +kernel
theorem dX1_load_23 : decode cX1_load 23 = .ok (.if_icmp .ge 100, 3) := by decide +kernel
theorem dX1_load_26 : decode cX1_load 26 = .ok (.aload_n 0, 1) := by decide +kernel
theorem dX1_load_27 : decode cX1_load 27 = .ok (.getfield 25, 3) := by decide +kernel
theorem dX1_load_30 : decode cX1_load 30 = .ok (.iload 6, 2) := by decide +kernel
theorem dX1_load_32 : decode cX1_load 32 = .ok (.lload 4, 2) := by decide +kernel
theorem dX1_load_34 : decode cX1_load 34 = .ok (.ldc2_w 127, 3) := by decide +kernel
theorem dX1_load_37 : decode cX1_load 37 = .ok (.land, 1) := by decide +kernel
theorem dX1_load_38 : decode cX1_load 38 = .ok (.l2i, 1) := by decide +kernel
theorem dX1_load_39 : decode cX1_load 39 = .ok (.iconst 1, 1) := by decide +kernel
theorem dX1_load_40 : decode cX1_load 40 = .ok (.isub, 1) := by decide +kernel
theorem dX1_load_41 : decode cX1_load 41 = .ok (.iastore, 1) := by decide +kernel
theorem dX1_load_42 : decode cX1_load 42 = .ok (.lload 4, 2) := by decide +kernel
theorem dX1_load_44 : decode cX1_load 44 = .ok (.iconst 5, 1) := by decide +kernel
theorem dX1_load_45 : decode cX1_load 45 = .ok (.lushr, 1) := by decide +kernel
theorem dX1_load_46 : decode cX1_load 46 = .ok (.lstore 4, 2) := by decide +kernel
theorem dX1_load_48 : decode cX1_load 48 = .ok (.aload_n 0, 1) := by decide +kernel
theorem dX1_load_49 : decode cX1_load 49 = .ok (.getfield 25, 3) := by decide +kernel
theorem dX1_load_52 : decode cX1_load 52 = .ok (.iload 6, 2) := by decide +kernel
theorem dX1_load_54 : decode cX1_load 54 = .ok (.iaload, 1) := by decide +kernel
theorem dX1_load_55 : decode cX1_load 55 = .ok (.aload_n 0, 1) := by decide +kernel
theorem dX1_load_56 : decode cX1_load 56 = .ok (.getfield 22, 3) := by decide +kernel
theorem dX1_load_59 : decode cX1_load 59 = .ok (.iload 6, 2) := by decide +kernel
theorem dX1_load_61 : decode cX1_load 61 = .ok (.iaload, 1) := by decide +kernel
theorem dX1_load_62 : decode cX1_load 62 = .ok (.isub, 1) := by decide +kernel
theorem dX1_load_63 : decode cX1_load 63 = .ok (.istore 7, 2) := by decide +kernel
theorem dX1_load_65 : decode cX1_load 65 = .ok (.aload_n 0, 1) := by decide +kernel
theorem dX1_load_66 : decode cX1_load 66 = .ok (.getfield 28, 3) := by decide +kernel
theorem dX1_load_69 : decode cX1_load 69 = .ok (.iload 6, 2) := by decide +kernel
theorem dX1_load_71 : decode cX1_load 71 = .ok (.iload 7, 2) := by decide +kernel
theorem dX1_load_73 : decode cX1_load 73 = .ok (.ifCond .lt 19, 3) := by decide +kernel
theorem dX1_load_76 : decode cX1_load 76 = .ok (.aload_n 0, 1) := by decide +kernel
theorem dX1_load_77 : decode cX1_load 77 = .ok (.getfield 34, 3) := by decide +kernel
theorem dX1_load_80 : decode cX1_load 80 = .ok (.getfield 48, 3) := by decide +kernel
theorem dX1_load_83 : decode cX1_load 83 = .ok (.iload 6, 2) := by decide +kernel
theorem dX1_load_85 : decode cX1_load 85 = .ok (.iaload, 1) := by decide +kernel
theorem dX1_load_86 : decode cX1_load 86 = .ok (.iload 7, 2) := by decide +kernel
theorem dX1_load_88 : decode cX1_load 88 = .ok (.ishl, 1) := by decide +kernel
theorem dX1_load_89 : decode cX1_load 89 = .ok (.goto 17, 3) := by decide +kernel
theorem dX1_load_92 : decode cX1_load 92 = .ok (.aload_n 0, 1) := by decide +kernel
theorem dX1_load_93 : decode cX1_load 93 = .ok (.getfield 34, 3) := by decide +kernel
theorem dX1_load_96 : decode cX1_load 96 = .ok (.getfield 48, 3) := by decide +kernel
theorem dX1_load_99 : decode cX1_load 99 = .ok (.iload 6, 2) := by decide +kernel
theorem dX1_load_101 : decode cX1_load 101 = .ok (.iaload, 1) := by decide +kernel
theorem dX1_load_102 : decode cX1_load 102 = .ok (.iload 7, 2) := by decide +kernel
theorem dX1_load_104 : decode cX1_load 104 = .ok (.ineg, 1) := by decide +kernel
theorem dX1_load_105 : decode cX1_load 105 = .ok (.iushr, 1) := by decide +kernel
theorem dX1_load_106 : decode cX1_load 106 = .ok (.iastore, 1) := by decide +kernel
theorem dX1_load_107 : decode cX1_load 107 = .ok (.iload_n 3, 1) := by decide +kernel
theorem dX1_load_108 : decode cX1_load 108 = .ok (.aload_n 0, 1) := by decide +kernel
theorem dX1_load_109 : decode cX1_load 109 = .ok (.getfield 28, 3) := by decide +kernel
theorem dX1_load_112 : decode cX1_load 112 = .ok (.iload 6, 2) := by decide +kernel
theorem dX1_load_114 : decode cX1_load 114 = .ok (.iaload, 1) := by decide +kernel
theorem dX1_load_115 : decode cX1_load 115 = .ok (.ior, 1) := by decide +kernel
theorem dX1_load_116 : decode cX1_load 116 = .ok (.istore_n 3, 1) := by decide +kernel
theorem dX1_load_117 : decode cX1_load 117 = .ok (.iinc 6 1, 3) := by decide +kernel
theorem dX1_load_120 : decode cX1_load 120 = .ok (.goto (-106), 3) := by decide +kernel
theorem dX1_load_123 : decode cX1_load 123 = .ok (.iload_n 3, 1) := by decide +kernel
theorem dX1_load_124 : decode cX1_load 124 = .ok (.ireturn, 1) := by decide +kernel
theorem dX1_keyOfPlaces_0 : decode cX1_keyOfPlaces 0 = .ok (.iconst 0, 1) := by decide +kernel
theorem dX1_keyOfPlaces_1 : decode cX1_keyOfPlaces 1 = .ok (.istore_n 1, 1) := by decide +kernel
theorem dX1_keyOfPlaces_2 : decode cX1_keyOfPlaces 2 = .ok (.iload_n 1, 1) := by decide +kernel
theorem dX1_keyOfPlaces_3 : decode cX1_keyOfPlaces 3 = .ok (.aload_n 0, 1) := by decide +kernel
theorem dX1_keyOfPlaces_4 : decode cX1_keyOfPlaces 4 = .ok (.getfield 34, 3) := by decide +kernel
theorem dX1_keyOfPlaces_7 : decode cX1_keyOfPlaces 7 = .ok (.getfield 42, 3) := by decide +kernel
theorem dX1_keyOfPlaces_10 : decode cX1_keyOfPlaces 10 = .ok (.if_icmp .ge 72, 3) := by decide +kernel
theorem dX1_keyOfPlaces_13 : decode cX1_keyOfPlaces 13 = .ok (.aload_n 0, 1) := by decide +kernel
theorem dX1_keyOfPlaces_14 : decode cX1_keyOfPlaces 14 = .ok (.getfield 18, 3) := by decide +kernel
theorem dX1_keyOfPlaces_17 : decode cX1_keyOfPlaces 17 = .ok (.iload_n 1, 1) := by decide +kernel
theorem dX1_keyOfPlaces_18 : decode cX1_keyOfPlaces 18 = .ok (.iaload, 1) := by decide +kernel
theorem dX1_keyOfPlaces_19 : decode cX1_keyOfPlaces 19 = .ok (.iconst 5, 1) := by decide +kernel
theorem dX1_keyOfPlaces_20 : decode cX1_keyOfPlaces 20 = .ok (.ishl, 1) := by decide +kernel
theorem dX1_keyOfPlaces_21 : decode cX1_keyOfPlaces 21 = .ok (.aload_n 0, 1) := by decide +kernel
theorem dX1_keyOfPlaces_22 : decode cX1_keyOfPlaces 22 = .ok (.getfield 25, 3) := by decide +kernel
theorem dX1_keyOfPlaces_25 : decode cX1_keyOfPlaces 25 = .ok (.iload_n 1, 1) := by decide +kernel
theorem dX1_keyOfPlaces_26 : decode cX1_keyOfPlaces 26 = .ok (.iaload, 1) := by decide +kernel
theorem dX1_keyOfPlaces_27 : decode cX1_keyOfPlaces 27 = .ok (.iadd, 1) := by decide +kernel
theorem dX1_keyOfPlaces_28 : decode cX1_keyOfPlaces 28 = .ok (.iconst 1, 1) := by decide +kernel
theorem dX1_keyOfPlaces_29 : decode cX1_keyOfPlaces 29 = .ok (.iadd, 1) := by decide +kernel
theorem dX1_keyOfPlaces_30 : decode cX1_keyOfPlaces 30 = .ok (.istore_n 2, 1) := by decide +kernel
theorem dX1_keyOfPlaces_31 : decode cX1_keyOfPlaces 31 = .ok (.iload_n 1, 1) := by decide +kernel
theorem dX1_keyOfPlaces_32 : decode cX1_keyOfPlaces 32 = .ok (.istore_n 3, 1) := by decide +kernel
theorem dX1_keyOfPlaces_33 : decode cX1_keyOfPlaces 33 = .ok (.iload_n 3, 1) := by decide +kernel
theorem dX1_keyOfPlaces_34 : decode cX1_keyOfPlaces 34 = .ok (.ifCond .le 35, 3) := by decide +kernel
theorem dX1_keyOfPlaces_37 : decode cX1_keyOfPlaces 37 = .ok (.aload_n 0, 1) := by decide +kernel
theorem dX1_keyOfPlaces_38 : decode cX1_keyOfPlaces 38 = .ok (.getfield 31, 3) := by decide +kernel
theorem dX1_keyOfPlaces_41 : decode cX1_keyOfPlaces 41 = .ok (.iload_n 3, 1) := by decide +kernel
theorem dX1_keyOfPlaces_42 : decode cX1_keyOfPlaces 42 = .ok (.iconst 1, 1) := by decide +kernel
theorem dX1_keyOfPlaces_43 : decode cX1_keyOfPlaces 43 = .ok (.isub, 1) := by decide +kernel
theorem dX1_keyOfPlaces_44 : decode cX1_keyOfPlaces 44 = .ok (.iaload, 1) := by decide +kernel
theorem dX1_keyOfPlaces_45 : decode cX1_keyOfPlaces 45 = .ok (.iload_n 2, 1) := by decide +kernel
theorem dX1_keyOfPlaces_46 : decode cX1_keyOfPlaces 46 = .ok (.if_icmp .le 23, 3) := by decide +kernel
theorem dX1_keyOfPlaces_49 : decode cX1_keyOfPlaces 49 = .ok (.aload_n 0, 1) := by decide +kernel
theorem dX1_keyOfPlaces_50 : decode cX1_keyOfPlaces 50 = .ok (.getfield 31, 3) := by decide +kernel
theorem dX1_keyOfPlaces_53 : decode cX1_keyOfPlaces 53 = .ok (.iload_n 3, 1) := by decide +kernel
theorem dX1_keyOfPlaces_54 : decode cX1_keyOfPlaces 54 = .ok (.aload_n 0, 1) := by decide +kernel
theorem dX1_keyOfPlaces_55 : decode cX1_keyOfPlaces 55 = .ok (.getfield 31, 3) := by decide +kernel
theorem dX1_keyOfPlaces_58 : decode cX1_keyOfPlaces 58 = .ok (.iload_n 3, 1) := by decide +kernel
theorem dX1_keyOfPlaces_59 : decode cX1_keyOfPlaces 59 = .ok (.iconst 1, 1) := by decide +kernel
theorem dX1_keyOfPlaces_60 : decode cX1_keyOfPlaces 60 = .ok (.isub, 1) := by decide +kernel
theorem dX1_keyOfPlaces_61 : decode cX1_keyOfPlaces 61 = .ok (.iaload, 1) := by decide +kernel
theorem dX1_keyOfPlaces_62 : decode cX1_keyOfPlaces 62 = .ok (.iastore, 1) := by decide +kernel
theorem dX1_keyOfPlaces_63 : decode cX1_keyOfPlaces 63 = .ok (.iinc 3 (-1), 3) := by decide +kernel
theorem dX1_keyOfPlaces_66 : decode cX1_keyOfPlaces 66 = .ok (.goto (-33), 3) := by decide +kernel
theorem dX1_keyOfPlaces_69 : decode cX1_keyOfPlaces 69 = .ok (.aload_n 0, 1) := by decide +kernel
theorem dX1_keyOfPlaces_70 : decode cX1_keyOfPlaces 70 = .ok (.getfield 31, 3) := by decide +kernel
theorem dX1_keyOfPlaces_73 : decode cX1_keyOfPlaces 73 = .ok (.iload_n 3, 1) := by decide +kernel
theorem dX1_keyOfPlaces_74 : decode cX1_keyOfPlaces 74 = .ok (.iload_n 2, 1) := by decide +kernel
theorem dX1_keyOfPlaces_75 : decode cX1_keyOfPlaces 75 = .ok (.iastore, 1) := by decide +kernel
theorem dX1_keyOfPlaces_76 : decode cX1_keyOfPlaces 76 = .ok (.iinc 1 1, 3) := by decide +kernel
theorem dX1_keyOfPlaces_79 : decode cX1_keyOfPlaces 79 = .ok (.goto (-77), 3) := by decide +kernel
theorem dX1_keyOfPlaces_82 : decode cX1_keyOfPlaces 82 = .ok (.lconst 0, 1) := by decide +kernel
theorem dX1_keyOfPlaces_83 : decode cX1_keyOfPlaces 83 = .ok (.lstore_n 1, 1) := by decide +kernel
theorem dX1_keyOfPlaces_84 : decode cX1_keyOfPlaces 84 = .ok (.iconst 0, 1) := by decide +kernel
theorem dX1_keyOfPlaces_85 : decode cX1_keyOfPlaces 85 = .ok (.istore_n 3, 1) := by decide +kernel
theorem dX1_keyOfPlaces_86 : decode cX1_keyOfPlaces 86 = .ok (.iload_n 3, 1) := by decide +kernel
theorem dX1_keyOfPlaces_87 : decode cX1_keyOfPlaces 87 = .ok (.aload_n 0, 1) := by decide +kernel
theorem dX1_keyOfPlaces_88 : decode cX1_keyOfPlaces 88 = .ok (.getfield 34, 3) := by decide +kernel
theorem dX1_keyOfPlaces_91 : decode cX1_keyOfPlaces 91 = .ok (.getfield 42, 3) := by decide +kernel
theorem dX1_keyOfPlaces_94 : decode cX1_keyOfPlaces 94 = .ok (.if_icmp .ge 24, 3) := by decide +kernel
theorem dX1_keyOfPlaces_97 : decode cX1_keyOfPlaces 97 = .ok (.lload_n 1, 1) := by decide +kernel
theorem dX1_keyOfPlaces_98 : decode cX1_keyOfPlaces 98 = .ok (.iconst 5, 1) := by decide +kernel
theorem dX1_keyOfPlaces_99 : decode cX1_keyOfPlaces 99 = .ok (.lshl, 1) := by decide +kernel
theorem dX1_keyOfPlaces_100 : decode cX1_keyOfPlaces 100 = .ok (.aload_n 0, 1) := by decide +kernel
theorem dX1_keyOfPlaces_101 : decode cX1_keyOfPlaces 101 = .ok (.getfield 31, 3) := by decide +kernel
theorem dX1_keyOfPlaces_104 : decode cX1_keyOfPlaces 104 = .ok (.iload_n 3, 1) := by decide +kernel
theorem dX1_keyOfPlaces_105 : decode cX1_keyOfPlaces 105 = .ok (.iaload, 1) := by decide +kernel
theorem dX1_keyOfPlaces_106 : decode cX1_keyOfPlaces 106 = .ok (.bipush 31, 2) := by decide +kernel
theorem dX1_keyOfPlaces_108 : decode cX1_keyOfPlaces 108 = .ok (.iand, 1) := by decide +kernel
theorem dX1_keyOfPlaces_109 : decode cX1_keyOfPlaces 109 = .ok (.i2l, 1) := by decide +kernel
theorem dX1_keyOfPlaces_110 : decode cX1_keyOfPlaces 110 = .ok (.lor, 1) := by decide +kernel
theorem dX1_keyOfPlaces_111 : decode cX1_keyOfPlaces 111 = .ok (.lstore_n 1, 1) := by decide +kernel
theorem dX1_keyOfPlaces_112 : decode cX1_keyOfPlaces 112 = .ok (.iinc 3 1, 3) := by decide +kernel
theorem dX1_keyOfPlaces_115 : decode cX1_keyOfPlaces 115 = .ok (.goto (-29), 3) := by decide +kernel
theorem dX1_keyOfPlaces_118 : decode cX1_keyOfPlaces 118 = .ok (.lload_n 1, 1) := by decide +kernel
theorem dX1_keyOfPlaces_119 : decode cX1_keyOfPlaces 119 = .ok (.lreturn, 1) := by decide +kernel
theorem dX6_init_0 : decode cX6_init 0 = .ok (.aload_n 0, 1) := by decide +kernel
theorem dX6_init_1 : decode cX6_init 1 = .ok (.invokespecial 1, 3) := by decide +kernel
theorem dX6_init_4 : decode cX6_init 4 = .ok (.aload_n 0, 1) := by decide +kernel
theorem dX6_init_5 : decode cX6_init 5 = .ok (.new 7, 3) := by decide +kernel
theorem dX6_init_8 : decode cX6_init 8 = .ok (.dup, 1) := by decide +kernel
theorem dX6_init_9 : decode cX6_init 9 = .ok (.iconst 1, 1) := by decide +kernel
theorem dX6_init_10 : decode cX6_init 10 = .ok (.iconst 5, 1) := by decide +kernel
theorem dX6_init_11 : decode cX6_init 11 = .ok (.iload_n 1, 1) := by decide +kernel
theorem dX6_init_12 : decode cX6_init 12 = .ok (.invokestatic 11, 3) := by decide +kernel
theorem dX6_init_15 : decode cX6_init 15 = .ok (.invokestatic 17, 3) := by decide +kernel
theorem dX6_init_18 : decode cX6_init 18 = .ok (.iconst 1, 1) := by decide +kernel
theorem dX6_init_19 : decode cX6_init 19 = .ok (.iconst 5, 1) := by decide +kernel
theorem dX6_init_20 : decode cX6_init 20 = .ok (.iload_n 2, 1) := by decide +kernel
theorem dX6_init_21 : decode cX6_init 21 = .ok (.invokestatic 11, 3) := by decide +kernel
theorem dX6_init_24 : decode cX6_init 24 = .ok (.invokestatic 17, 3) := by decide +kernel
theorem dX6_init_27 : decode cX6_init 27 = .ok (.invokespecial 20, 3) := by decide +kernel
theorem dX6_init_30 : decode cX6_init 30 = .ok (.putfield 23, 3) := by decide +kernel
theorem dX6_init_33 : decode cX6_init 33 = .ok (.aload_n 0, 1) := by decide +kernel
theorem dX6_init_34 : decode cX6_init 34 = .ok (.new 27, 3) := by decide +kernel
theorem dX6_init_37 : decode cX6_init 37 = .ok (.dup, 1) := by decide +kernel
theorem dX6_init_38 : decode cX6_init 38 = .ok (.invokespecial 29, 3) := by decide +kernel
theorem dX6_init_41 : decode cX6_init 41 = .ok (.putfield 30, 3) := by decide +kernel
theorem dX6_init_44 : decode cX6_init 44 = .ok (.aload_n 0, 1) := by decide +kernel
theorem dX6_init_45 : decode cX6_init 45 = .ok (.new 34, 3) := by decide +kernel
theorem dX6_init_48 : decode cX6_init 48 = .ok (.dup, 1) := by decide +kernel
theorem dX6_init_49 : decode cX6_init 49 = .ok (.aload_n 0, 1) := by decide +kernel
theorem dX6_init_50 : decode cX6_init 50 = .ok (.getfield 23, 3) := by decide +kernel
theorem dX6_init_53 : decode cX6_init 53 = .ok (.aload_n 0, 1) := by decide +kernel
theorem dX6_init_54 : decode cX6_init 54 = .ok (.getfield 30, 3) := by decide +kernel
theorem dX6_init_57 : decode cX6_init 57 = .ok (.invokespecial 36, 3) := by decide +kernel
theorem dX6_init_60 : decode cX6_init 60 = .ok (.putfield 39, 3) := by decide +kernel
theorem dX6_init_63 : decode cX6_init 63 = .ok (.aload_n 0, 1) := by decide +kernel
theorem dX6_init_64 : decode cX6_init 64 = .ok (.new 43, 3) := by decide +kernel
theorem dX6_init_67 : decode cX6_init 67 = .ok (.dup, 1) := by decide +kernel
theorem dX6_init_68 : decode cX6_init 68 = .ok (.invokespecial 45, 3) := by decide +kernel
theorem dX6_init_71 : decode cX6_init 71 = .ok (.putfield 46, 3) := by decide +kernel
theorem dX6_init_74 : decode cX6_init 74 = .ok (.aload_n 0, 1) := by decide +kernel
theorem dX6_init_75 : decode cX6_init 75 = .ok (.new 50, 3) := by decide +kernel
theorem dX6_init_78 : decode cX6_init 78 = .ok (.dup, 1) := by decide +kernel
theorem dX6_init_79 : decode cX6_init 79 = .ok (.invokespecial 52, 3) := by decide +kernel
theorem dX6_init_82 : decode cX6_init 82 = .ok (.putfield 53, 3) := by decide +kernel
theorem dX6_init_85 : decode cX6_init 85 = .ok (.return_, 1) := by decide +kernel
theorem dX6_wall_0 : decode cX6_wall 0 = .ok (.aload_n 0, 1) := by decide +kernel
theorem dX6_wall_1 : decode cX6_wall 1 = .ok (.iload_n 1, 1) := by decide +kernel
theorem dX6_wall_2 : decode cX6_wall 2 = .ok (.iload_n 2, 1) := by decide +kernel
theorem dX6_wall_3 : decode cX6_wall 3 = .ok (.invokevirtual 57, 3) := by decide +kernel
theorem dX6_wall_6 : decode cX6_wall 6 = .ok (.aload_n 0, 1) := by decide +kernel
theorem dX6_wall_7 : decode cX6_wall 7 = .ok (.getfield 23, 3) := by decide +kernel
theorem dX6_wall_10 : decode cX6_wall 10 = .ok (.aload_n 0, 1) := by decide +kernel
theorem dX6_wall_11 : decode cX6_wall 11 = .ok (.getfield 23, 3) := by decide +kernel
theorem dX6_wall_14 : decode cX6_wall 14 = .ok (.iload_n 1, 1) := by decide +kernel
theorem dX6_wall_15 : decode cX6_wall 15 = .ok (.iload_n 2, 1) := by decide +kernel
theorem dX6_wall_16 : decode cX6_wall 16 = .ok (.invokevirtual 60, 3) := by decide +kernel
theorem dX6_wall_19 : decode cX6_wall 19 = .ok (.iload_n 3, 1) := by decide +kernel
theorem dX6_wall_20 : decode cX6_wall 20 = .ok (.invokevirtual 63, 3) := by decide +kernel
theorem dX6_wall_23 : decode cX6_wall 23 = .ok (.ireturn, 1) := by decide +kernel
theorem dX6_block_0 : decode cX6_block 0 = .ok (.iload_n 1, 1) := by decide +kernel
theorem dX6_block_1 : decode cX6_block 1 = .ok (.invokestatic 67, 3) := by decide +kernel
theorem dX6_block_4 : decode cX6_block 4 = .ok (.aload_n 0, 1) := by decide +kernel
theorem dX6_block_5 : decode cX6_block 5 = .ok (.getfield 23, 3) := by decide +kernel
theorem dX6_block_8 : decode cX6_block 8 = .ok (.iload_n 1, 1) := by decide +kernel
theorem dX6_block_9 : decode cX6_block 9 = .ok (.invokevirtual 71, 3) := by decide +kernel
theorem dX6_block_12 : decode cX6_block 12 = .ok (.ireturn, 1) := by decide +kernel
theorem dX6_cell_0 : decode cX6_cell 0 = .ok (.aload_n 0, 1) := by decide +kernel
theorem dX6_cell_1 : decode cX6_cell 1 = .ok (.iload_n 1, 1) := by decide +kernel
theorem dX6_cell_2 : decode cX6_cell 2 = .ok (.invokevirtual 75, 3) := by decide +kernel
theorem dX6_cell_5 : decode cX6_cell 5 = .ok (.aload_n 0, 1) := by decide +kernel
theorem dX6_cell_6 : decode cX6_cell 6 = .ok (.iload_n 2, 1) := by decide +kernel
theorem dX6_cell_7 : decode cX6_cell 7 = .ok (.iload_n 3, 1) := by decide +kernel
theorem dX6_cell_8 : decode cX6_cell 8 = .ok (.invokevirtual 57, 3) := by decide +kernel
theorem dX6_cell_11 : decode cX6_cell 11 = .ok (.aload_n 0, 1) := by decide +kernel
theorem dX6_cell_12 : decode cX6_cell 12 = .ok (.getfield 23, 3) := by decide +kernel
theorem dX6_cell_15 : decode cX6_cell 15 = .ok (.iload_n 1, 1) := by decide +kernel
theorem dX6_cell_16 : decode cX6_cell 16 = .ok (.aload_n 0, 1) := by decide +kernel
theorem dX6_cell_17 : decode cX6_cell 17 = .ok (.getfield 23, 3) := by decide +kernel
theorem dX6_cell_20 : decode cX6_cell 20 = .ok (.iload_n 2, 1) := by decide +kernel
theorem dX6_cell_21 : decode cX6_cell 21 = .ok (.iload_n 3, 1) := by decide +kernel
theorem dX6_cell_22 : decode cX6_cell 22 = .ok (.invokevirtual 60, 3) := by decide +kernel
theorem dX6_cell_25 : decode cX6_cell 25 = .ok (.invokevirtual 78, 3) := by decide +kernel
theorem dX6_cell_28 : decode cX6_cell 28 = .ok (.ireturn, 1) := by decide +kernel
theorem dX6_place_0 : decode cX6_place 0 = .ok (.aload_n 0, 1) := by decide +kernel
theorem dX6_place_1 : decode cX6_place 1 = .ok (.iload_n 1, 1) := by decide +kernel
theorem dX6_place_2 : decode cX6_place 2 = .ok (.invokevirtual 75, 3) := by decide +kernel
theorem dX6_place_5 : decode cX6_place 5 = .ok (.aload_n 0, 1) := by decide +kernel
theorem dX6_place_6 : decode cX6_place 6 = .ok (.getfield 23, 3) := by decide +kernel
theorem dX6_place_9 : decode cX6_place 9 = .ok (.getfield 82, 3) := by decide +kernel
theorem dX6_place_12 : decode cX6_place 12 = .ok (.iload_n 1, 1) := by decide +kernel
theorem dX6_place_13 : decode cX6_place 13 = .ok (.iaload, 1) := by decide +kernel
theorem dX6_place_14 : decode cX6_place 14 = .ok (.invokestatic 86, 3) := by decide +kernel
theorem dX6_place_17 : decode cX6_place 17 = .ok (.ireturn, 1) := by decide +kernel
theorem dX6_slide_0 : decode cX6_slide 0 = .ok (.aload_n 0, 1) := by decide +kernel
theorem dX6_slide_1 : decode cX6_slide 1 = .ok (.iload_n 1, 1) := by decide +kernel
theorem dX6_slide_2 : decode cX6_slide 2 = .ok (.invokevirtual 75, 3) := by decide +kernel
theorem dX6_slide_5 : decode cX6_slide 5 = .ok (.iload_n 2, 1) := by decide +kernel
theorem dX6_slide_6 : decode cX6_slide 6 = .ok (.invokestatic 89, 3) := by decide +kernel
theorem dX6_slide_9 : decode cX6_slide 9 = .ok (.aload_n 0, 1) := by decide +kernel
theorem dX6_slide_10 : decode cX6_slide 10 = .ok (.getfield 23, 3) := by decide +kernel
theorem dX6_slide_13 : decode cX6_slide 13 = .ok (.iload_n 1, 1) := by decide +kernel
theorem dX6_slide_14 : decode cX6_slide 14 = .ok (.iload_n 2, 1) := by decide +kernel
theorem dX6_slide_15 : decode cX6_slide 15 = .ok (.iload_n 3, 1) := by decide +kernel
theorem dX6_slide_16 : decode cX6_slide 16 = .ok (.invokevirtual 92, 3) := by decide +kernel
theorem dX6_slide_19 : decode cX6_slide 19 = .ok (.ireturn, 1) := by decide +kernel
theorem dX6_goal_0 : decode cX6_goal 0 = .ok (.aload_n 0, 1) := by decide +kernel
theorem dX6_goal_1 : decode cX6_goal 1 = .ok (.iload_n 1, 1) := by decide +kernel
theorem dX6_goal_2 : decode cX6_goal 2 = .ok (.invokevirtual 75, 3) := by decide +kernel
theorem dX6_goal_5 : decode cX6_goal 5 = .ok (.aload_n 0, 1) := by decide +kernel
theorem dX6_goal_6 : decode cX6_goal 6 = .ok (.iload_n 2, 1) := by decide +kernel
theorem dX6_goal_7 : decode cX6_goal 7 = .ok (.iload_n 3, 1) := by decide +kernel
theorem dX6_goal_8 : decode cX6_goal 8 = .ok (.invokevirtual 57, 3) := by decide +kernel
theorem dX6_goal_11 : decode cX6_goal 11 = .ok (.aload_n 0, 1) := by decide +kernel
theorem dX6_goal_12 : decode cX6_goal 12 = .ok (.getfield 30, 3) := by decide +kernel
theorem dX6_goal_15 : decode cX6_goal 15 = .ok (.iconst 0, 1) := by decide +kernel
theorem dX6_goal_16 : decode cX6_goal 16 = .ok (.iload_n 1, 1) := by decide +kernel
theorem dX6_goal_17 : decode cX6_goal 17 = .ok (.aload_n 0, 1) := by decide +kernel
theorem dX6_goal_18 : decode cX6_goal 18 = .ok (.getfield 23, 3) := by decide +kernel
theorem dX6_goal_21 : decode cX6_goal 21 = .ok (.iload_n 2, 1) := by decide +kernel
theorem dX6_goal_22 : decode cX6_goal 22 = .ok (.iload_n 3, 1) := by decide +kernel
theorem dX6_goal_23 : decode cX6_goal 23 = .ok (.invokevirtual 96, 3) := by decide +kernel
theorem dX6_goal_26 : decode cX6_goal 26 = .ok (.invokevirtual 99, 3) := by decide +kernel
theorem dX6_goal_29 : decode cX6_goal 29 = .ok (.ireturn, 1) := by decide +kernel
theorem dX6_kindGoal_0 : decode cX6_kindGoal 0 = .ok (.aload_n 0, 1) := by decide +kernel
theorem dX6_kindGoal_1 : decode cX6_kindGoal 1 = .ok (.iload_n 2, 1) := by decide +kernel
theorem dX6_kindGoal_2 : decode cX6_kindGoal 2 = .ok (.iload_n 3, 1) := by decide +kernel
theorem dX6_kindGoal_3 : decode cX6_kindGoal 3 = .ok (.invokevirtual 57, 3) := by decide +kernel
theorem dX6_kindGoal_6 : decode cX6_kindGoal 6 = .ok (.iload_n 1, 1) := by decide +kernel
theorem dX6_kindGoal_7 : decode cX6_kindGoal 7 = .ok (.invokestatic 67, 3) := by decide +kernel
theorem dX6_kindGoal_10 : decode cX6_kindGoal 10 = .ok (.aload_n 0, 1) := by decide +kernel
theorem dX6_kindGoal_11 : decode cX6_kindGoal 11 = .ok (.getfield 30, 3) := by decide +kernel
theorem dX6_kindGoal_14 : decode cX6_kindGoal 14 = .ok (.iconst 1, 1) := by decide +kernel
theorem dX6_kindGoal_15 : decode cX6_kindGoal 15 = .ok (.iload_n 1, 1) := by decide +kernel
theorem dX6_kindGoal_16 : decode cX6_kindGoal 16 = .ok (.aload_n 0, 1) := by decide +kernel
theorem dX6_kindGoal_17 : decode cX6_kindGoal 17 = .ok (.getfield 23, 3) := by decide +kernel
theorem dX6_kindGoal_20 : decode cX6_kindGoal 20 = .ok (.iload_n 2, 1) := by decide +kernel
theorem dX6_kindGoal_21 : decode cX6_kindGoal 21 = .ok (.iload_n 3, 1) := by decide +kernel
theorem dX6_kindGoal_22 : decode cX6_kindGoal 22 = .ok (.invokevirtual 96, 3) := by decide +kernel
theorem dX6_kindGoal_25 : decode cX6_kindGoal 25 = .ok (.invokevirtual 99, 3) := by decide +kernel
theorem dX6_kindGoal_28 : decode cX6_kindGoal 28 = .ok (.ireturn, 1) := by decide +kernel
theorem dX6_noGoals_0 : decode cX6_noGoals 0 = .ok (.aload_n 0, 1) := by decide +kernel
theorem dX6_noGoals_1 : decode cX6_noGoals 1 = .ok (.getfield 30, 3) := by decide +kernel
theorem dX6_noGoals_4 : decode cX6_noGoals 4 = .ok (.invokevirtual 103, 3) := by decide +kernel
theorem dX6_noGoals_7 : decode cX6_noGoals 7 = .ok (.ireturn, 1) := by decide +kernel
theorem dX6_open_0 : decode cX6_open 0 = .ok (.aload_n 0, 1) := by decide +kernel
theorem dX6_open_1 : decode cX6_open 1 = .ok (.getfield 39, 3) := by decide +kernel
theorem dX6_open_4 : decode cX6_open 4 = .ok (.invokevirtual 107, 3) := by decide +kernel
theorem dX6_open_7 : decode cX6_open 7 = .ok (.ireturn, 1) := by decide +kernel
theorem dX6_search_0 : decode cX6_search 0 = .ok (.iload_n 1, 1) := by decide +kernel
theorem dX6_search_1 : decode cX6_search 1 = .ok (.ifCond .lt 20, 3) := by decide +kernel
theorem dX6_search_4 : decode cX6_search 4 = .ok (.iload_n 1, 1) := by decide +kernel
theorem dX6_search_5 : decode cX6_search 5 = .ok (.iconst 1, 1) := by decide +kernel
theorem dX6_search_6 : decode cX6_search 6 = .ok (.if_icmp .gt 15, 3) := by decide +kernel
theorem dX6_search_9 : decode cX6_search 9 = .ok (.iload_n 2, 1) := by decide +kernel
theorem dX6_search_10 : decode cX6_search 10 = .ok (.iconst 1, 1) := by decide +kernel
theorem dX6_search_11 : decode cX6_search 11 = .ok (.if_icmp .lt 10, 3) := by decide +kernel
theorem dX6_search_14 : decode cX6_search 14 = .ok (.iload_n 2, 1) := by decide +kernel
theorem dX6_search_15 : decode cX6_search 15 = .ok (.sipush 10000, 3) := by decide +kernel
theorem dX6_search_18 : decode cX6_search 18 = .ok (.if_icmp .le 6, 3) := by decide +kernel
theorem dX6_search_21 : decode cX6_search 21 = .ok (.bipush (-3), 2) := by decide +kernel
theorem dX6_search_23 : decode cX6_search 23 = .ok (.ireturn, 1) := by decide +kernel
theorem dX6_search_24 : decode cX6_search 24 = .ok (.aload_n 0, 1) := by decide +kernel
theorem dX6_search_25 : decode cX6_search 25 = .ok (.getfield 39, 3) := by decide +kernel
theorem dX6_search_28 : decode cX6_search 28 = .ok (.iload_n 1, 1) := by decide +kernel
theorem dX6_search_29 : decode cX6_search 29 = .ok (.iload_n 2, 1) := by decide +kernel
theorem dX6_search_30 : decode cX6_search 30 = .ok (.iconst 1, 1) := by decide +kernel
theorem dX6_search_31 : decode cX6_search 31 = .ok (.invokevirtual 110, 3) := by decide +kernel
theorem dX6_search_34 : decode cX6_search 34 = .ok (.istore_n 3, 1) := by decide +kernel
theorem dX6_search_35 : decode cX6_search 35 = .ok (.aload_n 0, 1) := by decide +kernel
theorem dX6_search_36 : decode cX6_search 36 = .ok (.getfield 46, 3) := by decide +kernel
theorem dX6_search_39 : decode cX6_search 39 = .ok (.aload_n 0, 1) := by decide +kernel
theorem dX6_search_40 : decode cX6_search 40 = .ok (.getfield 39, 3) := by decide +kernel
theorem dX6_search_43 : decode cX6_search 43 = .ok (.getfield 114, 3) := by decide +kernel
theorem dX6_search_46 : decode cX6_search 46 = .ok (.iload_n 3, 1) := by decide +kernel
theorem dX6_search_47 : decode cX6_search 47 = .ok (.ifCond .ne 7, 3) := by decide +kernel
theorem dX6_search_50 : decode cX6_search 50 = .ok (.iconst 1, 1) := by decide +kernel
theorem dX6_search_51 : decode cX6_search 51 = .ok (.goto 4, 3) := by decide +kernel
theorem dX6_search_54 : decode cX6_search 54 = .ok (.iconst 0, 1) := by decide +kernel
theorem dX6_search_55 : decode cX6_search 55 = .ok (.invokevirtual 118, 3) := by decide +kernel
theorem dX6_search_58 : decode cX6_search 58 = .ok (.iload_n 3, 1) := by decide +kernel
theorem dX6_search_59 : decode cX6_search 59 = .ok (.ifCond .ne 13, 3) := by decide +kernel
theorem dX6_search_62 : decode cX6_search 62 = .ok (.aload_n 0, 1) := by decide +kernel
theorem dX6_search_63 : decode cX6_search 63 = .ok (.getfield 46, 3) := by decide +kernel
theorem dX6_search_66 : decode cX6_search 66 = .ok (.getfield 122, 3) := by decide +kernel
theorem dX6_search_69 : decode cX6_search 69 = .ok (.goto 4, 3) := by decide +kernel
theorem dX6_search_72 : decode cX6_search 72 = .ok (.iload_n 3, 1) := by decide +kernel
theorem dX6_search_73 : decode cX6_search 73 = .ok (.ireturn, 1) := by decide +kernel
theorem dX6_step_0 : decode cX6_step 0 = .ok (.iload_n 1, 1) := by decide +kernel
theorem dX6_step_1 : decode cX6_step 1 = .ok (.ifCond .lt 26, 3) := by decide +kernel
theorem dX6_step_4 : decode cX6_step 4 = .ok (.iload_n 1, 1) := by decide +kernel
theorem dX6_step_5 : decode cX6_step 5 = .ok (.aload_n 0, 1) := by decide +kernel
theorem dX6_step_6 : decode cX6_step 6 = .ok (.getfield 46, 3) := by decide +kernel
theorem dX6_step_9 : decode cX6_step 9 = .ok (.getfield 122, 3) := by decide +kernel
theorem dX6_step_12 : decode cX6_step 12 = .ok (.if_icmp .ge 15, 3) := by decide +kernel
theorem dX6_step_15 : decode cX6_step 15 = .ok (.aload_n 0, 1) := by decide +kernel
theorem dX6_step_16 : decode cX6_step 16 = .ok (.getfield 46, 3) := by decide +kernel
theorem dX6_step_19 : decode cX6_step 19 = .ok (.getfield 126, 3) := by decide +kernel
theorem dX6_step_22 : decode cX6_step 22 = .ok (.iload_n 1, 1) := by decide +kernel
theorem dX6_step_23 : decode cX6_step 23 = .ok (.iaload, 1) := by decide +kernel
theorem dX6_step_24 : decode cX6_step 24 = .ok (.goto 4, 3) := by decide +kernel
theorem dX6_step_27 : decode cX6_step 27 = .ok (.iconst (-1), 1) := by decide +kernel
theorem dX6_step_28 : decode cX6_step 28 = .ok (.ireturn, 1) := by decide +kernel
theorem dX6_states_0 : decode cX6_states 0 = .ok (.aload_n 0, 1) := by decide +kernel
theorem dX6_states_1 : decode cX6_states 1 = .ok (.getfield 46, 3) := by decide +kernel
theorem dX6_states_4 : decode cX6_states 4 = .ok (.getfield 129, 3) := by decide +kernel
theorem dX6_states_7 : decode cX6_states 7 = .ok (.ireturn, 1) := by decide +kernel
theorem dX6_reach_0 : decode cX6_reach 0 = .ok (.aload_n 0, 1) := by decide +kernel
theorem dX6_reach_1 : decode cX6_reach 1 = .ok (.getfield 39, 3) := by decide +kernel
theorem dX6_reach_4 : decode cX6_reach 4 = .ok (.iconst 0, 1) := by decide +kernel
theorem dX6_reach_5 : decode cX6_reach 5 = .ok (.sipush 10000, 3) := by decide +kernel
theorem dX6_reach_8 : decode cX6_reach 8 = .ok (.iconst 0, 1) := by decide +kernel
theorem dX6_reach_9 : decode cX6_reach 9 = .ok (.invokevirtual 110, 3) := by decide +kernel
theorem dX6_reach_12 : decode cX6_reach 12 = .ok (.istore_n 1, 1) := by decide +kernel
theorem dX6_reach_13 : decode cX6_reach 13 = .ok (.iload_n 1, 1) := by decide +kernel
theorem dX6_reach_14 : decode cX6_reach 14 = .ok (.bipush (-2), 2) := by decide +kernel
theorem dX6_reach_16 : decode cX6_reach 16 = .ok (.if_icmp .ne 7, 3) := by decide +kernel
theorem dX6_reach_19 : decode cX6_reach 19 = .ok (.iload_n 1, 1) := by decide +kernel
theorem dX6_reach_20 : decode cX6_reach 20 = .ok (.goto 13, 3) := by decide +kernel
theorem dX6_reach_23 : decode cX6_reach 23 = .ok (.aload_n 0, 1) := by decide +kernel
theorem dX6_reach_24 : decode cX6_reach 24 = .ok (.getfield 39, 3) := by decide +kernel
theorem dX6_reach_27 : decode cX6_reach 27 = .ok (.getfield 114, 3) := by decide +kernel
theorem dX6_reach_30 : decode cX6_reach 30 = .ok (.getfield 132, 3) := by decide +kernel
theorem dX6_reach_33 : decode cX6_reach 33 = .ok (.ireturn, 1) := by decide +kernel
theorem dX6_picture_0 : decode cX6_picture 0 = .ok (.iload_n 1, 1) := by decide +kernel
theorem dX6_picture_1 : decode cX6_picture 1 = .ok (.ifCond .ge 7, 3) := by decide +kernel
theorem dX6_picture_4 : decode cX6_picture 4 = .ok (.iconst (-1), 1) := by decide +kernel
theorem dX6_picture_5 : decode cX6_picture 5 = .ok (.goto 11, 3) := by decide +kernel
theorem dX6_picture_8 : decode cX6_picture 8 = .ok (.aload_n 0, 1) := by decide +kernel
theorem dX6_picture_9 : decode cX6_picture 9 = .ok (.getfield 23, 3) := by decide +kernel
theorem dX6_picture_12 : decode cX6_picture 12 = .ok (.iload_n 1, 1) := by decide +kernel
theorem dX6_picture_13 : decode cX6_picture 13 = .ok (.invokevirtual 137, 3) := by decide +kernel
theorem dX6_picture_16 : decode cX6_picture 16 = .ok (.ireturn, 1) := by decide +kernel
theorem dX6_node_0 : decode cX6_node 0 = .ok (.aload_n 0, 1) := by decide +kernel
theorem dX6_node_1 : decode cX6_node 1 = .ok (.getfield 53, 3) := by decide +kernel
theorem dX6_node_4 : decode cX6_node 4 = .ok (.invokevirtual 140, 3) := by decide +kernel
theorem dX6_node_7 : decode cX6_node 7 = .ok (.ireturn, 1) := by decide +kernel
theorem dX6_join_0 : decode cX6_join 0 = .ok (.aload_n 0, 1) := by decide +kernel
theorem dX6_join_1 : decode cX6_join 1 = .ok (.iload_n 1, 1) := by decide +kernel
theorem dX6_join_2 : decode cX6_join 2 = .ok (.invokevirtual 143, 3) := by decide +kernel
theorem dX6_join_5 : decode cX6_join 5 = .ok (.aload_n 0, 1) := by decide +kernel
theorem dX6_join_6 : decode cX6_join 6 = .ok (.iload_n 2, 1) := by decide +kernel
theorem dX6_join_7 : decode cX6_join 7 = .ok (.invokevirtual 143, 3) := by decide +kernel
theorem dX6_join_10 : decode cX6_join 10 = .ok (.aload_n 0, 1) := by decide +kernel
theorem dX6_join_11 : decode cX6_join 11 = .ok (.getfield 53, 3) := by decide +kernel
theorem dX6_join_14 : decode cX6_join 14 = .ok (.iload_n 1, 1) := by decide +kernel
theorem dX6_join_15 : decode cX6_join 15 = .ok (.iload_n 2, 1) := by decide +kernel
theorem dX6_join_16 : decode cX6_join 16 = .ok (.invokevirtual 146, 3) := by decide +kernel
theorem dX6_join_19 : decode cX6_join 19 = .ok (.ireturn, 1) := by decide +kernel
theorem dX6_tile_0 : decode cX6_tile 0 = .ok (.aload_n 0, 1) := by decide +kernel
theorem dX6_tile_1 : decode cX6_tile 1 = .ok (.iload_n 1, 1) := by decide +kernel
theorem dX6_tile_2 : decode cX6_tile 2 = .ok (.invokevirtual 143, 3) := by decide +kernel
theorem dX6_tile_5 : decode cX6_tile 5 = .ok (.aload_n 0, 1) := by decide +kernel
theorem dX6_tile_6 : decode cX6_tile 6 = .ok (.getfield 53, 3) := by decide +kernel
theorem dX6_tile_9 : decode cX6_tile 9 = .ok (.getfield 149, 3) := by decide +kernel
theorem dX6_tile_12 : decode cX6_tile 12 = .ok (.iload_n 1, 1) := by decide +kernel
theorem dX6_tile_13 : decode cX6_tile 13 = .ok (.iaload, 1) := by decide +kernel
theorem dX6_tile_14 : decode cX6_tile 14 = .ok (.ireturn, 1) := by decide +kernel
theorem dX6_shift_0 : decode cX6_shift 0 = .ok (.aload_n 0, 1) := by decide +kernel
theorem dX6_shift_1 : decode cX6_shift 1 = .ok (.iload_n 1, 1) := by decide +kernel
theorem dX6_shift_2 : decode cX6_shift 2 = .ok (.invokevirtual 143, 3) := by decide +kernel
theorem dX6_shift_5 : decode cX6_shift 5 = .ok (.aload_n 0, 1) := by decide +kernel
theorem dX6_shift_6 : decode cX6_shift 6 = .ok (.getfield 53, 3) := by decide +kernel
theorem dX6_shift_9 : decode cX6_shift 9 = .ok (.iload_n 1, 1) := by decide +kernel
theorem dX6_shift_10 : decode cX6_shift 10 = .ok (.invokevirtual 152, 3) := by decide +kernel
theorem dX6_shift_13 : decode cX6_shift 13 = .ok (.ireturn, 1) := by decide +kernel
theorem dX6_swap_0 : decode cX6_swap 0 = .ok (.aload_n 0, 1) := by decide +kernel
theorem dX6_swap_1 : decode cX6_swap 1 = .ok (.iload_n 1, 1) := by decide +kernel
theorem dX6_swap_2 : decode cX6_swap 2 = .ok (.invokevirtual 143, 3) := by decide +kernel
theorem dX6_swap_5 : decode cX6_swap 5 = .ok (.aload_n 0, 1) := by decide +kernel
theorem dX6_swap_6 : decode cX6_swap 6 = .ok (.iload_n 2, 1) := by decide +kernel
theorem dX6_swap_7 : decode cX6_swap 7 = .ok (.invokevirtual 143, 3) := by decide +kernel
theorem dX6_swap_10 : decode cX6_swap 10 = .ok (.aload_n 0, 1) := by decide +kernel
theorem dX6_swap_11 : decode cX6_swap 11 = .ok (.getfield 53, 3) := by decide +kernel
theorem dX6_swap_14 : decode cX6_swap 14 = .ok (.iload_n 1, 1) := by decide +kernel
theorem dX6_swap_15 : decode cX6_swap 15 = .ok (.iload_n 2, 1) := by decide +kernel
theorem dX6_swap_16 : decode cX6_swap 16 = .ok (.invokevirtual 156, 3) := by decide +kernel
theorem dX6_swap_19 : decode cX6_swap 19 = .ok (.ireturn, 1) := by decide +kernel
theorem dX6_even_0 : decode cX6_even 0 = .ok (.aload_n 0, 1) := by decide +kernel
theorem dX6_even_1 : decode cX6_even 1 = .ok (.getfield 53, 3) := by decide +kernel
theorem dX6_even_4 : decode cX6_even 4 = .ok (.invokevirtual 159, 3) := by decide +kernel
theorem dX6_even_7 : decode cX6_even 7 = .ok (.ireturn, 1) := by decide +kernel
theorem dX6_parity_0 : decode cX6_parity 0 = .ok (.aload_n 0, 1) := by decide +kernel
theorem dX6_parity_1 : decode cX6_parity 1 = .ok (.getfield 53, 3) := by decide +kernel
theorem dX6_parity_4 : decode cX6_parity 4 = .ok (.invokevirtual 163, 3) := by decide +kernel
theorem dX6_parity_7 : decode cX6_parity 7 = .ok (.ireturn, 1) := by decide +kernel
theorem dX6_ways_0 : decode cX6_ways 0 = .ok (.aload_n 0, 1) := by decide +kernel
theorem dX6_ways_1 : decode cX6_ways 1 = .ok (.getfield 53, 3) := by decide +kernel
theorem dX6_ways_4 : decode cX6_ways 4 = .ok (.invokevirtual 166, 3) := by decide +kernel
theorem dX6_ways_7 : decode cX6_ways 7 = .ok (.ireturn, 1) := by decide +kernel
theorem dX6_home_0 : decode cX6_home 0 = .ok (.aload_n 0, 1) := by decide +kernel
theorem dX6_home_1 : decode cX6_home 1 = .ok (.getfield 53, 3) := by decide +kernel
theorem dX6_home_4 : decode cX6_home 4 = .ok (.invokevirtual 169, 3) := by decide +kernel
theorem dX6_home_7 : decode cX6_home 7 = .ok (.ireturn, 1) := by decide +kernel
theorem dX6_needCell_0 : decode cX6_needCell 0 = .ok (.aload_n 0, 1) := by decide +kernel
theorem dX6_needCell_1 : decode cX6_needCell 1 = .ok (.getfield 23, 3) := by decide +kernel
theorem dX6_needCell_4 : decode cX6_needCell 4 = .ok (.iload_n 1, 1) := by decide +kernel
theorem dX6_needCell_5 : decode cX6_needCell 5 = .ok (.iload_n 2, 1) := by decide +kernel
theorem dX6_needCell_6 : decode cX6_needCell 6 = .ok (.invokevirtual 172, 3) := by decide +kernel
theorem dX6_needCell_9 : decode cX6_needCell 9 = .ok (.ifCond .ne 13, 3) := by decide +kernel
theorem dX6_needCell_12 : decode cX6_needCell 12 = .ok (.new 175, 3) := by decide +kernel
theorem dX6_needCell_15 : decode cX6_needCell 15 = .ok (.dup, 1) := by decide +kernel
theorem dX6_needCell_16 : decode cX6_needCell 16 = .ok (.ldc 177, 2) := by decide +kernel
theorem dX6_needCell_18 : decode cX6_needCell 18 = .ok (.invokespecial 179, 3) := by decide +kernel
theorem dX6_needCell_21 : decode cX6_needCell 21 = .ok (.athrow, 1) := by decide +kernel
theorem dX6_needCell_22 : decode cX6_needCell 22 = .ok (.return_, 1) := by decide +kernel
theorem dX6_needBlock_0 : decode cX6_needBlock 0 = .ok (.iload_n 1, 1) := by decide +kernel
theorem dX6_needBlock_1 : decode cX6_needBlock 1 = .ok (.ifCond .lt 14, 3) := by decide +kernel
theorem dX6_needBlock_4 : decode cX6_needBlock 4 = .ok (.iload_n 1, 1) := by decide +kernel
theorem dX6_needBlock_5 : decode cX6_needBlock 5 = .ok (.aload_n 0, 1) := by decide +kernel
theorem dX6_needBlock_6 : decode cX6_needBlock 6 = .ok (.getfield 23, 3) := by decide +kernel
theorem dX6_needBlock_9 : decode cX6_needBlock 9 = .ok (.getfield 182, 3) := by decide +kernel
theorem dX6_needBlock_12 : decode cX6_needBlock 12 = .ok (.if_icmp .lt 13, 3) := by decide +kernel
theorem dX6_needBlock_15 : decode cX6_needBlock 15 = .ok (.new 175, 3) := by decide +kernel
theorem dX6_needBlock_18 : decode cX6_needBlock 18 = .ok (.dup, 1) := by decide +kernel
theorem dX6_needBlock_19 : decode cX6_needBlock 19 = .ok (.ldc 185, 2) := by decide +kernel
theorem dX6_needBlock_21 : decode cX6_needBlock 21 = .ok (.invokespecial 179, 3) := by decide +kernel
theorem dX6_needBlock_24 : decode cX6_needBlock 24 = .ok (.athrow, 1) := by decide +kernel
theorem dX6_needBlock_25 : decode cX6_needBlock 25 = .ok (.return_, 1) := by decide +kernel
theorem dX6_needWay_0 : decode cX6_needWay 0 = .ok (.iload_n 0, 1) := by decide +kernel
theorem dX6_needWay_1 : decode cX6_needWay 1 = .ok (.ifCond .lt 8, 3) := by decide +kernel
theorem dX6_needWay_4 : decode cX6_needWay 4 = .ok (.iload_n 0, 1) := by decide +kernel
theorem dX6_needWay_5 : decode cX6_needWay 5 = .ok (.iconst 4, 1) := by decide +kernel
theorem dX6_needWay_6 : decode cX6_needWay 6 = .ok (.if_icmp .lt 13, 3) := by decide +kernel
theorem dX6_needWay_9 : decode cX6_needWay 9 = .ok (.new 175, 3) := by decide +kernel
theorem dX6_needWay_12 : decode cX6_needWay 12 = .ok (.dup, 1) := by decide +kernel
theorem dX6_needWay_13 : decode cX6_needWay 13 = .ok (.ldc 187, 2) := by decide +kernel
theorem dX6_needWay_15 : decode cX6_needWay 15 = .ok (.invokespecial 179, 3) := by decide +kernel
theorem dX6_needWay_18 : decode cX6_needWay 18 = .ok (.athrow, 1) := by decide +kernel
theorem dX6_needWay_19 : decode cX6_needWay 19 = .ok (.return_, 1) := by decide +kernel
theorem dX6_needKind_0 : decode cX6_needKind 0 = .ok (.iload_n 0, 1) := by decide +kernel
theorem dX6_needKind_1 : decode cX6_needKind 1 = .ok (.ifCond .lt 9, 3) := by decide +kernel
theorem dX6_needKind_4 : decode cX6_needKind 4 = .ok (.iload_n 0, 1) := by decide +kernel
theorem dX6_needKind_5 : decode cX6_needKind 5 = .ok (.bipush 26, 2) := by decide +kernel
theorem dX6_needKind_7 : decode cX6_needKind 7 = .ok (.if_icmp .lt 13, 3) := by decide +kernel
theorem dX6_needKind_10 : decode cX6_needKind 10 = .ok (.new 189, 3) := by decide +kernel
theorem dX6_needKind_13 : decode cX6_needKind 13 = .ok (.dup, 1) := by decide +kernel
theorem dX6_needKind_14 : decode cX6_needKind 14 = .ok (.ldc 191, 2) := by decide +kernel
theorem dX6_needKind_16 : decode cX6_needKind 16 = .ok (.invokespecial 193, 3) := by decide +kernel
theorem dX6_needKind_19 : decode cX6_needKind 19 = .ok (.athrow, 1) := by decide +kernel
theorem dX6_needKind_20 : decode cX6_needKind 20 = .ok (.return_, 1) := by decide +kernel
theorem dX6_needNode_0 : decode cX6_needNode 0 = .ok (.iload_n 1, 1) := by decide +kernel
theorem dX6_needNode_1 : decode cX6_needNode 1 = .ok (.ifCond .lt 14, 3) := by decide +kernel
theorem dX6_needNode_4 : decode cX6_needNode 4 = .ok (.iload_n 1, 1) := by decide +kernel
theorem dX6_needNode_5 : decode cX6_needNode 5 = .ok (.aload_n 0, 1) := by decide +kernel
theorem dX6_needNode_6 : decode cX6_needNode 6 = .ok (.getfield 53, 3) := by decide +kernel
theorem dX6_needNode_9 : decode cX6_needNode 9 = .ok (.getfield 194, 3) := by decide +kernel
theorem dX6_needNode_12 : decode cX6_needNode 12 = .ok (.if_icmp .lt 13, 3) := by decide +kernel
theorem dX6_needNode_15 : decode cX6_needNode 15 = .ok (.new 175, 3) := by decide +kernel
theorem dX6_needNode_18 : decode cX6_needNode 18 = .ok (.dup, 1) := by decide +kernel
theorem dX6_needNode_19 : decode cX6_needNode 19 = .ok (.ldc 197, 2) := by decide +kernel
theorem dX6_needNode_21 : decode cX6_needNode 21 = .ok (.invokespecial 179, 3) := by decide +kernel
theorem dX6_needNode_24 : decode cX6_needNode 24 = .ok (.athrow, 1) := by decide +kernel
theorem dX6_needNode_25 : decode cX6_needNode 25 = .ok (.return_, 1) := by decide +kernel

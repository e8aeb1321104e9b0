theorem dX0_init_0 : decode cX0_init 0 = .ok (.aload_n 0, 1) := by decide +kernel
theorem dX0_init_1 : decode cX0_init 1 = .ok (.invokespecial 3, 3) := by decide +kernel
theorem dX0_init_4 : decode cX0_init 4 = .ok (.aload_n 0, 1) := by decide +kernel
theorem dX0_init_5 : decode cX0_init 5 = .ok (.bipush 16, 2) := by decide +kernel
theorem dX0_init_7 : decode cX0_init 7 = .ok (.newarray .int, 2) := by decide +kernel
theorem dX0_init_9 : decode cX0_init 9 = .ok (.putfield 9, 3) := by decide +kernel
theorem dX0_init_12 : decode cX0_init 12 = .ok (.aload_n 0, 1) := by decide +kernel
theorem dX0_init_13 : decode cX0_init 13 = .ok (.bipush 16, 2) := by decide +kernel
theorem dX0_init_15 : decode cX0_init 15 = .ok (.newarray .int, 2) := by decide +kernel
theorem dX0_init_17 : decode cX0_init 17 = .ok (.putfield 15, 3) := by decide +kernel
theorem dX0_init_20 : decode cX0_init 20 = .ok (.aload_n 0, 1) := by decide +kernel
theorem dX0_init_21 : decode cX0_init 21 = .ok (.bipush 8, 2) := by decide +kernel
theorem dX0_init_23 : decode cX0_init 23 = .ok (.newarray .int, 2) := by decide +kernel
theorem dX0_init_25 : decode cX0_init 25 = .ok (.putfield 18, 3) := by decide +kernel
theorem dX0_init_28 : decode cX0_init 28 = .ok (.aload_n 0, 1) := by decide +kernel
theorem dX0_init_29 : decode cX0_init 29 = .ok (.bipush 8, 2) := by decide +kernel
theorem dX0_init_31 : decode cX0_init 31 = .ok (.newarray .int, 2) := by decide +kernel
theorem dX0_init_33 : decode cX0_init 33 = .ok (.putfield 21, 3) := by decide +kernel
theorem dX0_init_36 : decode cX0_init 36 = .ok (.aload_n 0, 1) := by decide +kernel
theorem dX0_init_37 : decode cX0_init 37 = .ok (.bipush 8, 2) := by decide +kernel
theorem dX0_init_39 : decode cX0_init 39 = .ok (.newarray .int, 2) := by decide +kernel
theorem dX0_init_41 : decode cX0_init 41 = .ok (.putfield 24, 3) := by decide +kernel
theorem dX0_init_44 : decode cX0_init 44 = .ok (.aload_n 0, 1) := by decide +kernel
theorem dX0_init_45 : decode cX0_init 45 = .ok (.aload_n 1, 1) := by decide +kernel
theorem dX0_init_46 : decode cX0_init 46 = .ok (.putfield 27, 3) := by decide +kernel
theorem dX0_init_49 : decode cX0_init 49 = .ok (.return_, 1) := by decide +kernel
theorem dX0_look_0 : decode cX0_look 0 = .ok (.aload_n 0, 1) := by decide +kernel
theorem dX0_look_1 : decode cX0_look 1 = .ok (.iload_n 1, 1) := by decide +kernel
theorem dX0_look_2 : decode cX0_look 2 = .ok (.invokevirtual 31, 3) := by decide +kernel
theorem dX0_look_5 : decode cX0_look 5 = .ok (.aload_n 0, 1) := by decide +kernel
theorem dX0_look_6 : decode cX0_look 6 = .ok (.iconst 0, 1) := by decide +kernel
theorem dX0_look_7 : decode cX0_look 7 = .ok (.putfield 35, 3) := by decide +kernel
theorem dX0_look_10 : decode cX0_look 10 = .ok (.aload_n 0, 1) := by decide +kernel
theorem dX0_look_11 : decode cX0_look 11 = .ok (.iconst 0, 1) := by decide +kernel
theorem dX0_look_12 : decode cX0_look 12 = .ok (.putfield 39, 3) := by decide +kernel
theorem dX0_look_15 : decode cX0_look 15 = .ok (.aload_n 0, 1) := by decide +kernel
theorem dX0_look_16 : decode cX0_look 16 = .ok (.iconst 0, 1) := by decide +kernel
theorem dX0_look_17 : decode cX0_look 17 = .ok (.iconst 0, 1) := by decide +kernel
theorem dX0_look_18 : decode cX0_look 18 = .ok (.invokevirtual 42, 3) := by decide +kernel
theorem dX0_look_21 : decode cX0_look 21 = .ok (.aload_n 0, 1) := by decide +kernel
theorem dX0_look_22 : decode cX0_look 22 = .ok (.getfield 21, 3) := by decide +kernel
theorem dX0_look_25 : decode cX0_look 25 = .ok (.iconst (-1), 1) := by decide +kernel
theorem dX0_look_26 : decode cX0_look 26 = .ok (.invokestatic 46, 3) := by decide +kernel
theorem dX0_look_29 : decode cX0_look 29 = .ok (.iconst 0, 1) := by decide +kernel
theorem dX0_look_30 : decode cX0_look 30 = .ok (.istore_n 2, 1) := by decide +kernel
theorem dX0_look_31 : decode cX0_look 31 = .ok (.iload_n 2, 1) := by decide +kernel
theorem dX0_look_32 : decode cX0_look 32 = .ok (.aload_n 0, 1) := by decide +kernel
theorem dX0_look_33 : decode cX0_look 33 = .ok (.getfield 39, 3) := by decide +kernel
theorem dX0_look_36 : decode cX0_look 36 = .ok (.if_icmp .ge 28, 3) := by decide +kernel
theorem dX0_look_39 : decode cX0_look 39 = .ok (.aload_n 0, 1) := by decide +kernel
theorem dX0_look_40 : decode cX0_look 40 = .ok (.getfield 21, 3) := by decide +kernel
theorem dX0_look_43 : decode cX0_look 43 = .ok (.aload_n 0, 1) := by decide +kernel
theorem dX0_look_44 : decode cX0_look 44 = .ok (.getfield 18, 3) := by decide +kernel
theorem dX0_look_47 : decode cX0_look 47 = .ok (.iload_n 2, 1) := by decide +kernel
theorem dX0_look_48 : decode cX0_look 48 = .ok (.iaload, 1) := by decide +kernel
theorem dX0_look_49 : decode cX0_look 49 = .ok (.aload_n 0, 1) := by decide +kernel
theorem dX0_look_50 : decode cX0_look 50 = .ok (.getfield 39, 3) := by decide +kernel
theorem dX0_look_53 : decode cX0_look 53 = .ok (.iconst 1, 1) := by decide +kernel
theorem dX0_look_54 : decode cX0_look 54 = .ok (.isub, 1) := by decide +kernel
theorem dX0_look_55 : decode cX0_look 55 = .ok (.iload_n 2, 1) := by decide +kernel
theorem dX0_look_56 : decode cX0_look 56 = .ok (.isub, 1) := by decide +kernel
theorem dX0_look_57 : decode cX0_look 57 = .ok (.iastore, 1) := by decide +kernel
theorem dX0_look_58 : decode cX0_look 58 = .ok (.iinc 2 1, 3) := by decide +kernel
theorem dX0_look_61 : decode cX0_look 61 = .ok (.goto (-30), 3) := by decide +kernel
theorem dX0_look_64 : decode cX0_look 64 = .ok (.aload_n 0, 1) := by decide +kernel
theorem dX0_look_65 : decode cX0_look 65 = .ok (.invokevirtual 52, 3) := by decide +kernel
theorem dX0_look_68 : decode cX0_look 68 = .ok (.aload_n 0, 1) := by decide +kernel
theorem dX0_look_69 : decode cX0_look 69 = .ok (.invokevirtual 55, 3) := by decide +kernel
theorem dX0_look_72 : decode cX0_look 72 = .ok (.return_, 1) := by decide +kernel
theorem dX0_folds_0 : decode cX0_folds 0 = .ok (.aload_n 0, 1) := by decide +kernel
theorem dX0_folds_1 : decode cX0_folds 1 = .ok (.getfield 39, 3) := by decide +kernel
theorem dX0_folds_4 : decode cX0_folds 4 = .ok (.ifCond .le 14, 3) := by decide +kernel
theorem dX0_folds_7 : decode cX0_folds 7 = .ok (.aload_n 0, 1) := by decide +kernel
theorem dX0_folds_8 : decode cX0_folds 8 = .ok (.getfield 58, 3) := by decide +kernel
theorem dX0_folds_11 : decode cX0_folds 11 = .ok (.ifCond .ne 7, 3) := by decide +kernel
theorem dX0_folds_14 : decode cX0_folds 14 = .ok (.iconst 1, 1) := by decide +kernel
theorem dX0_folds_15 : decode cX0_folds 15 = .ok (.goto 4, 3) := by decide +kernel
theorem dX0_folds_18 : decode cX0_folds 18 = .ok (.iconst 0, 1) := by decide +kernel
theorem dX0_folds_19 : decode cX0_folds 19 = .ok (.ireturn, 1) := by decide +kernel
theorem dX0_nodeAt_0 : decode cX0_nodeAt 0 = .ok (.iload_n 1, 1) := by decide +kernel
theorem dX0_nodeAt_1 : decode cX0_nodeAt 1 = .ok (.ifCond .lt 27, 3) := by decide +kernel
theorem dX0_nodeAt_4 : decode cX0_nodeAt 4 = .ok (.iload_n 1, 1) := by decide +kernel
theorem dX0_nodeAt_5 : decode cX0_nodeAt 5 = .ok (.aload_n 0, 1) := by decide +kernel
theorem dX0_nodeAt_6 : decode cX0_nodeAt 6 = .ok (.getfield 39, 3) := by decide +kernel
theorem dX0_nodeAt_9 : decode cX0_nodeAt 9 = .ok (.if_icmp .ge 19, 3) := by decide +kernel
theorem dX0_nodeAt_12 : decode cX0_nodeAt 12 = .ok (.aload_n 0, 1) := by decide +kernel
theorem dX0_nodeAt_13 : decode cX0_nodeAt 13 = .ok (.getfield 18, 3) := by decide +kernel
theorem dX0_nodeAt_16 : decode cX0_nodeAt 16 = .ok (.aload_n 0, 1) := by decide +kernel
theorem dX0_nodeAt_17 : decode cX0_nodeAt 17 = .ok (.getfield 39, 3) := by decide +kernel
theorem dX0_nodeAt_20 : decode cX0_nodeAt 20 = .ok (.iconst 1, 1) := by decide +kernel
theorem dX0_nodeAt_21 : decode cX0_nodeAt 21 = .ok (.isub, 1) := by decide +kernel
theorem dX0_nodeAt_22 : decode cX0_nodeAt 22 = .ok (.iload_n 1, 1) := by decide +kernel
theorem dX0_nodeAt_23 : decode cX0_nodeAt 23 = .ok (.isub, 1) := by decide +kernel
theorem dX0_nodeAt_24 : decode cX0_nodeAt 24 = .ok (.iaload, 1) := by decide +kernel
theorem dX0_nodeAt_25 : decode cX0_nodeAt 25 = .ok (.goto 4, 3) := by decide +kernel
theorem dX0_nodeAt_28 : decode cX0_nodeAt 28 = .ok (.iconst (-1), 1) := by decide +kernel
theorem dX0_nodeAt_29 : decode cX0_nodeAt 29 = .ok (.ireturn, 1) := by decide +kernel
theorem dX0_placeOf_0 : decode cX0_placeOf 0 = .ok (.aload_n 0, 1) := by decide +kernel
theorem dX0_placeOf_1 : decode cX0_placeOf 1 = .ok (.getfield 27, 3) := by decide +kernel
theorem dX0_placeOf_4 : decode cX0_placeOf 4 = .ok (.iload_n 1, 1) := by decide +kernel
theorem dX0_placeOf_5 : decode cX0_placeOf 5 = .ok (.invokevirtual 61, 3) := by decide +kernel
theorem dX0_placeOf_8 : decode cX0_placeOf 8 = .ok (.ifCond .eq 12, 3) := by decide +kernel
theorem dX0_placeOf_11 : decode cX0_placeOf 11 = .ok (.aload_n 0, 1) := by decide +kernel
theorem dX0_placeOf_12 : decode cX0_placeOf 12 = .ok (.getfield 21, 3) := by decide +kernel
theorem dX0_placeOf_15 : decode cX0_placeOf 15 = .ok (.iload_n 1, 1) := by decide +kernel
theorem dX0_placeOf_16 : decode cX0_placeOf 16 = .ok (.iaload, 1) := by decide +kernel
theorem dX0_placeOf_17 : decode cX0_placeOf 17 = .ok (.goto 4, 3) := by decide +kernel
theorem dX0_placeOf_20 : decode cX0_placeOf 20 = .ok (.iconst (-1), 1) := by decide +kernel
theorem dX0_placeOf_21 : decode cX0_placeOf 21 = .ok (.ireturn, 1) := by decide +kernel
theorem dX0_stateOf_0 : decode cX0_stateOf 0 = .ok (.aload_n 0, 1) := by decide +kernel
theorem dX0_stateOf_1 : decode cX0_stateOf 1 = .ok (.getfield 27, 3) := by decide +kernel
theorem dX0_stateOf_4 : decode cX0_stateOf 4 = .ok (.iload_n 1, 1) := by decide +kernel
theorem dX0_stateOf_5 : decode cX0_stateOf 5 = .ok (.invokevirtual 61, 3) := by decide +kernel
theorem dX0_stateOf_8 : decode cX0_stateOf 8 = .ok (.ifCond .eq 23, 3) := by decide +kernel
theorem dX0_stateOf_11 : decode cX0_stateOf 11 = .ok (.iload_n 2, 1) := by decide +kernel
theorem dX0_stateOf_12 : decode cX0_stateOf 12 = .ok (.invokestatic 67, 3) := by decide +kernel
theorem dX0_stateOf_15 : decode cX0_stateOf 15 = .ok (.ifCond .eq 16, 3) := by decide +kernel
theorem dX0_stateOf_18 : decode cX0_stateOf 18 = .ok (.aload_n 0, 1) := by decide +kernel
theorem dX0_stateOf_19 : decode cX0_stateOf 19 = .ok (.getfield 15, 3) := by decide +kernel
theorem dX0_stateOf_22 : decode cX0_stateOf 22 = .ok (.iconst 2, 1) := by decide +kernel
theorem dX0_stateOf_23 : decode cX0_stateOf 23 = .ok (.iload_n 1, 1) := by decide +kernel
theorem dX0_stateOf_24 : decode cX0_stateOf 24 = .ok (.imul, 1) := by decide +kernel
theorem dX0_stateOf_25 : decode cX0_stateOf 25 = .ok (.iload_n 2, 1) := by decide +kernel
theorem dX0_stateOf_26 : decode cX0_stateOf 26 = .ok (.iadd, 1) := by decide +kernel
theorem dX0_stateOf_27 : decode cX0_stateOf 27 = .ok (.iaload, 1) := by decide +kernel
theorem dX0_stateOf_28 : decode cX0_stateOf 28 = .ok (.goto 4, 3) := by decide +kernel
theorem dX0_stateOf_31 : decode cX0_stateOf 31 = .ok (.iconst (-1), 1) := by decide +kernel
theorem dX0_stateOf_32 : decode cX0_stateOf 32 = .ok (.ireturn, 1) := by decide +kernel
theorem dX0_isHead_0 : decode cX0_isHead 0 = .ok (.aload_n 0, 1) := by decide +kernel
theorem dX0_isHead_1 : decode cX0_isHead 1 = .ok (.getfield 27, 3) := by decide +kernel
theorem dX0_isHead_4 : decode cX0_isHead 4 = .ok (.iload_n 1, 1) := by decide +kernel
theorem dX0_isHead_5 : decode cX0_isHead 5 = .ok (.invokevirtual 61, 3) := by decide +kernel
theorem dX0_isHead_8 : decode cX0_isHead 8 = .ok (.ifCond .eq 19, 3) := by decide +kernel
theorem dX0_isHead_11 : decode cX0_isHead 11 = .ok (.aload_n 0, 1) := by decide +kernel
theorem dX0_isHead_12 : decode cX0_isHead 12 = .ok (.getfield 70, 3) := by decide +kernel
theorem dX0_isHead_15 : decode cX0_isHead 15 = .ok (.iload_n 1, 1) := by decide +kernel
theorem dX0_isHead_16 : decode cX0_isHead 16 = .ok (.ishr, 1) := by decide +kernel
theorem dX0_isHead_17 : decode cX0_isHead 17 = .ok (.iconst 1, 1) := by decide +kernel
theorem dX0_isHead_18 : decode cX0_isHead 18 = .ok (.iand, 1) := by decide +kernel
theorem dX0_isHead_19 : decode cX0_isHead 19 = .ok (.iconst 1, 1) := by decide +kernel
theorem dX0_isHead_20 : decode cX0_isHead 20 = .ok (.if_icmp .ne 7, 3) := by decide +kernel
theorem dX0_isHead_23 : decode cX0_isHead 23 = .ok (.iconst 1, 1) := by decide +kernel
theorem dX0_isHead_24 : decode cX0_isHead 24 = .ok (.goto 4, 3) := by decide +kernel
theorem dX0_isHead_27 : decode cX0_isHead 27 = .ok (.iconst 0, 1) := by decide +kernel
theorem dX0_isHead_28 : decode cX0_isHead 28 = .ok (.ireturn, 1) := by decide +kernel
theorem dX0_isMerge_0 : decode cX0_isMerge 0 = .ok (.aload_n 0, 1) := by decide +kernel
theorem dX0_isMerge_1 : decode cX0_isMerge 1 = .ok (.getfield 27, 3) := by decide +kernel
theorem dX0_isMerge_4 : decode cX0_isMerge 4 = .ok (.iload_n 1, 1) := by decide +kernel
theorem dX0_isMerge_5 : decode cX0_isMerge 5 = .ok (.invokevirtual 61, 3) := by decide +kernel
theorem dX0_isMerge_8 : decode cX0_isMerge 8 = .ok (.ifCond .eq 19, 3) := by decide +kernel
theorem dX0_isMerge_11 : decode cX0_isMerge 11 = .ok (.aload_n 0, 1) := by decide +kernel
theorem dX0_isMerge_12 : decode cX0_isMerge 12 = .ok (.getfield 73, 3) := by decide +kernel
theorem dX0_isMerge_15 : decode cX0_isMerge 15 = .ok (.iload_n 1, 1) := by decide +kernel
theorem dX0_isMerge_16 : decode cX0_isMerge 16 = .ok (.ishr, 1) := by decide +kernel
theorem dX0_isMerge_17 : decode cX0_isMerge 17 = .ok (.iconst 1, 1) := by decide +kernel
theorem dX0_isMerge_18 : decode cX0_isMerge 18 = .ok (.iand, 1) := by decide +kernel
theorem dX0_isMerge_19 : decode cX0_isMerge 19 = .ok (.iconst 1, 1) := by decide +kernel
theorem dX0_isMerge_20 : decode cX0_isMerge 20 = .ok (.if_icmp .ne 7, 3) := by decide +kernel
theorem dX0_isMerge_23 : decode cX0_isMerge 23 = .ok (.iconst 1, 1) := by decide +kernel
theorem dX0_isMerge_24 : decode cX0_isMerge 24 = .ok (.goto 4, 3) := by decide +kernel
theorem dX0_isMerge_27 : decode cX0_isMerge 27 = .ok (.iconst 0, 1) := by decide +kernel
theorem dX0_isMerge_28 : decode cX0_isMerge 28 = .ok (.ireturn, 1) := by decide +kernel
theorem dX0_rules_0 : decode cX0_rules 0 = .ok (.aload_n 0, 1) := by decide +kernel
theorem dX0_rules_1 : decode cX0_rules 1 = .ok (.getfield 27, 3) := by decide +kernel
theorem dX0_rules_4 : decode cX0_rules 4 = .ok (.iload_n 1, 1) := by decide +kernel
theorem dX0_rules_5 : decode cX0_rules 5 = .ok (.invokevirtual 61, 3) := by decide +kernel
theorem dX0_rules_8 : decode cX0_rules 8 = .ok (.ifCond .eq 32, 3) := by decide +kernel
theorem dX0_rules_11 : decode cX0_rules 11 = .ok (.aload_n 0, 1) := by decide +kernel
theorem dX0_rules_12 : decode cX0_rules 12 = .ok (.getfield 27, 3) := by decide +kernel
theorem dX0_rules_15 : decode cX0_rules 15 = .ok (.iload_n 2, 1) := by decide +kernel
theorem dX0_rules_16 : decode cX0_rules 16 = .ok (.invokevirtual 61, 3) := by decide +kernel
theorem dX0_rules_19 : decode cX0_rules 19 = .ok (.ifCond .eq 21, 3) := by decide +kernel
theorem dX0_rules_22 : decode cX0_rules 22 = .ok (.aload_n 0, 1) := by decide +kernel
theorem dX0_rules_23 : decode cX0_rules 23 = .ok (.getfield 24, 3) := by decide +kernel
theorem dX0_rules_26 : decode cX0_rules 26 = .ok (.iload_n 2, 1) := by decide +kernel
theorem dX0_rules_27 : decode cX0_rules 27 = .ok (.iaload, 1) := by decide +kernel
theorem dX0_rules_28 : decode cX0_rules 28 = .ok (.iload_n 1, 1) := by decide +kernel
theorem dX0_rules_29 : decode cX0_rules 29 = .ok (.ishr, 1) := by decide +kernel
theorem dX0_rules_30 : decode cX0_rules 30 = .ok (.iconst 1, 1) := by decide +kernel
theorem dX0_rules_31 : decode cX0_rules 31 = .ok (.iand, 1) := by decide +kernel
theorem dX0_rules_32 : decode cX0_rules 32 = .ok (.iconst 1, 1) := by decide +kernel
theorem dX0_rules_33 : decode cX0_rules 33 = .ok (.if_icmp .ne 7, 3) := by decide +kernel
theorem dX0_rules_36 : decode cX0_rules 36 = .ok (.iconst 1, 1) := by decide +kernel
theorem dX0_rules_37 : decode cX0_rules 37 = .ok (.goto 4, 3) := by decide +kernel
theorem dX0_rules_40 : decode cX0_rules 40 = .ok (.iconst 0, 1) := by decide +kernel
theorem dX0_rules_41 : decode cX0_rules 41 = .ok (.ireturn, 1) := by decide +kernel
theorem dX0_ruledBy_0 : decode cX0_ruledBy 0 = .ok (.iconst 0, 1) := by decide +kernel
theorem dX0_ruledBy_1 : decode cX0_ruledBy 1 = .ok (.istore_n 2, 1) := by decide +kernel
theorem dX0_ruledBy_2 : decode cX0_ruledBy 2 = .ok (.iconst 0, 1) := by decide +kernel
theorem dX0_ruledBy_3 : decode cX0_ruledBy 3 = .ok (.istore_n 3, 1) := by decide +kernel
theorem dX0_ruledBy_4 : decode cX0_ruledBy 4 = .ok (.iload_n 3, 1) := by decide +kernel
theorem dX0_ruledBy_5 : decode cX0_ruledBy 5 = .ok (.aload_n 0, 1) := by decide +kernel
theorem dX0_ruledBy_6 : decode cX0_ruledBy 6 = .ok (.getfield 27, 3) := by decide +kernel
theorem dX0_ruledBy_9 : decode cX0_ruledBy 9 = .ok (.getfield 76, 3) := by decide +kernel
theorem dX0_ruledBy_12 : decode cX0_ruledBy 12 = .ok (.if_icmp .ge 26, 3) := by decide +kernel
theorem dX0_ruledBy_15 : decode cX0_ruledBy 15 = .ok (.iload_n 2, 1) := by decide +kernel
theorem dX0_ruledBy_16 : decode cX0_ruledBy 16 = .ok (.aload_n 0, 1) := by decide +kernel
theorem dX0_ruledBy_17 : decode cX0_ruledBy 17 = .ok (.iload_n 1, 1) := by decide +kernel
theorem dX0_ruledBy_18 : decode cX0_ruledBy 18 = .ok (.iload_n 3, 1) := by decide +kernel
theorem dX0_ruledBy_19 : decode cX0_ruledBy 19 = .ok (.invokevirtual 79, 3) := by decide +kernel
theorem dX0_ruledBy_22 : decode cX0_ruledBy 22 = .ok (.ifCond .eq 7, 3) := by decide +kernel
theorem dX0_ruledBy_25 : decode cX0_ruledBy 25 = .ok (.iconst 1, 1) := by decide +kernel
theorem dX0_ruledBy_26 : decode cX0_ruledBy 26 = .ok (.goto 4, 3) := by decide +kernel
theorem dX0_ruledBy_29 : decode cX0_ruledBy 29 = .ok (.iconst 0, 1) := by decide +kernel
theorem dX0_ruledBy_30 : decode cX0_ruledBy 30 = .ok (.iadd, 1) := by decide +kernel
theorem dX0_ruledBy_31 : decode cX0_ruledBy 31 = .ok (.istore_n 2, 1) := by decide +kernel
theorem dX0_ruledBy_32 : decode cX0_ruledBy 32 = .ok (.iinc 3 1, 3) := by decide +kernel
theorem dX0_ruledBy_35 : decode cX0_ruledBy 35 = .ok (.goto (-31), 3) := by decide +kernel
theorem dX0_ruledBy_38 : decode cX0_ruledBy 38 = .ok (.iload_n 2, 1) := by decide +kernel
theorem dX0_ruledBy_39 : decode cX0_ruledBy 39 = .ok (.ireturn, 1) := by decide +kernel
theorem dX0_lordOf_0 : decode cX0_lordOf 0 = .ok (.aload_n 0, 1) := by decide +kernel
theorem dX0_lordOf_1 : decode cX0_lordOf 1 = .ok (.getfield 27, 3) := by decide +kernel
theorem dX0_lordOf_4 : decode cX0_lordOf 4 = .ok (.iload_n 1, 1) := by decide +kernel
theorem dX0_lordOf_5 : decode cX0_lordOf 5 = .ok (.invokevirtual 61, 3) := by decide +kernel
theorem dX0_lordOf_8 : decode cX0_lordOf 8 = .ok (.ifCond .ne 5, 3) := by decide +kernel
theorem dX0_lordOf_11 : decode cX0_lordOf 11 = .ok (.iconst (-1), 1) := by decide +kernel
theorem dX0_lordOf_12 : decode cX0_lordOf 12 = .ok (.ireturn, 1) := by decide +kernel
theorem dX0_lordOf_13 : decode cX0_lordOf 13 = .ok (.aload_n 0, 1) := by decide +kernel
theorem dX0_lordOf_14 : decode cX0_lordOf 14 = .ok (.getfield 24, 3) := by decide +kernel
theorem dX0_lordOf_17 : decode cX0_lordOf 17 = .ok (.iload_n 1, 1) := by decide +kernel
theorem dX0_lordOf_18 : decode cX0_lordOf 18 = .ok (.iaload, 1) := by decide +kernel
theorem dX0_lordOf_19 : decode cX0_lordOf 19 = .ok (.iconst 1, 1) := by decide +kernel
theorem dX0_lordOf_20 : decode cX0_lordOf 20 = .ok (.iload_n 1, 1) := by decide +kernel
theorem dX0_lordOf_21 : decode cX0_lordOf 21 = .ok (.ishl, 1) := by decide +kernel
theorem dX0_lordOf_22 : decode cX0_lordOf 22 = .ok (.iconst (-1), 1) := by decide +kernel
theorem dX0_lordOf_23 : decode cX0_lordOf 23 = .ok (.ixor, 1) := by decide +kernel
theorem dX0_lordOf_24 : decode cX0_lordOf 24 = .ok (.iand, 1) := by decide +kernel
theorem dX0_lordOf_25 : decode cX0_lordOf 25 = .ok (.istore_n 2, 1) := by decide +kernel
theorem dX0_lordOf_26 : decode cX0_lordOf 26 = .ok (.iconst 0, 1) := by decide +kernel
theorem dX0_lordOf_27 : decode cX0_lordOf 27 = .ok (.istore_n 3, 1) := by decide +kernel
theorem dX0_lordOf_28 : decode cX0_lordOf 28 = .ok (.iload_n 3, 1) := by decide +kernel
theorem dX0_lordOf_29 : decode cX0_lordOf 29 = .ok (.aload_n 0, 1) := by decide +kernel
theorem dX0_lordOf_30 : decode cX0_lordOf 30 = .ok (.getfield 27, 3) := by decide +kernel
theorem dX0_lordOf_33 : decode cX0_lordOf 33 = .ok (.getfield 76, 3) := by decide +kernel
theorem dX0_lordOf_36 : decode cX0_lordOf 36 = .ok (.if_icmp .ge 25, 3) := by decide +kernel
theorem dX0_lordOf_39 : decode cX0_lordOf 39 = .ok (.iload_n 2, 1) := by decide +kernel
theorem dX0_lordOf_40 : decode cX0_lordOf 40 = .ok (.ifCond .eq 15, 3) := by decide +kernel
theorem dX0_lordOf_43 : decode cX0_lordOf 43 = .ok (.aload_n 0, 1) := by decide +kernel
theorem dX0_lordOf_44 : decode cX0_lordOf 44 = .ok (.getfield 24, 3) := by decide +kernel
theorem dX0_lordOf_47 : decode cX0_lordOf 47 = .ok (.iload_n 3, 1) := by decide +kernel
theorem dX0_lordOf_48 : decode cX0_lordOf 48 = .ok (.iaload, 1) := by decide +kernel
theorem dX0_lordOf_49 : decode cX0_lordOf 49 = .ok (.iload_n 2, 1) := by decide +kernel
theorem dX0_lordOf_50 : decode cX0_lordOf 50 = .ok (.if_icmp .ne 5, 3) := by decide +kernel
theorem dX0_lordOf_53 : decode cX0_lordOf 53 = .ok (.iload_n 3, 1) := by decide +kernel
theorem dX0_lordOf_54 : decode cX0_lordOf 54 = .ok (.ireturn, 1) := by decide +kernel
theorem dX0_lordOf_55 : decode cX0_lordOf 55 = .ok (.iinc 3 1, 3) := by decide +kernel
theorem dX0_lordOf_58 : decode cX0_lordOf 58 = .ok (.goto (-30), 3) := by decide +kernel
theorem dX0_lordOf_61 : decode cX0_lordOf 61 = .ok (.iconst (-1), 1) := by decide +kernel
theorem dX0_lordOf_62 : decode cX0_lordOf 62 = .ok (.ireturn, 1) := by decide +kernel
theorem dX0_findTargets_0 : decode cX0_findTargets 0 = .ok (.iconst 0, 1) := by decide +kernel
theorem dX0_findTargets_1 : decode cX0_findTargets 1 = .ok (.istore_n 2, 1) := by decide +kernel
theorem dX0_findTargets_2 : decode cX0_findTargets 2 = .ok (.iload_n 2, 1) := by decide +kernel
theorem dX0_findTargets_3 : decode cX0_findTargets 3 = .ok (.bipush 16, 2) := by decide +kernel
theorem dX0_findTargets_5 : decode cX0_findTargets 5 = .ok (.if_icmp .ge 99, 3) := by decide +kernel
theorem dX0_findTargets_8 : decode cX0_findTargets 8 = .ok (.iload_n 2, 1) := by decide +kernel
theorem dX0_findTargets_9 : decode cX0_findTargets 9 = .ok (.iconst 2, 1) := by decide +kernel
theorem dX0_findTargets_10 : decode cX0_findTargets 10 = .ok (.idiv, 1) := by decide +kernel
theorem dX0_findTargets_11 : decode cX0_findTargets 11 = .ok (.istore_n 3, 1) := by decide +kernel
theorem dX0_findTargets_12 : decode cX0_findTargets 12 = .ok (.aload_n 0, 1) := by decide +kernel
theorem dX0_findTargets_13 : decode cX0_findTargets 13 = .ok (.getfield 27, 3) := by decide +kernel
theorem dX0_findTargets_16 : decode cX0_findTargets 16 = .ok (.iload_n 3, 1) := by decide +kernel
theorem dX0_findTargets_17 : decode cX0_findTargets 17 = .ok (.iload_n 2, 1) := by decide +kernel
theorem dX0_findTargets_18 : decode cX0_findTargets 18 = .ok (.iconst 2, 1) := by decide +kernel
theorem dX0_findTargets_19 : decode cX0_findTargets 19 = .ok (.irem, 1) := by decide +kernel
theorem dX0_findTargets_20 : decode cX0_findTargets 20 = .ok (.invokevirtual 83, 3) := by decide +kernel
theorem dX0_findTargets_23 : decode cX0_findTargets 23 = .ok (.istore 4, 2) := by decide +kernel
theorem dX0_findTargets_25 : decode cX0_findTargets 25 = .ok (.aload_n 0, 1) := by decide +kernel
theorem dX0_findTargets_26 : decode cX0_findTargets 26 = .ok (.getfield 27, 3) := by decide +kernel
theorem dX0_findTargets_29 : decode cX0_findTargets 29 = .ok (.iload_n 3, 1) := by decide +kernel
theorem dX0_findTargets_30 : decode cX0_findTargets 30 = .ok (.invokevirtual 61, 3) := by decide +kernel
theorem dX0_findTargets_33 : decode cX0_findTargets 33 = .ok (.ifCond .eq 45, 3) := by decide +kernel
theorem dX0_findTargets_36 : decode cX0_findTargets 36 = .ok (.aload_n 0, 1) := by decide +kernel
theorem dX0_findTargets_37 : decode cX0_findTargets 37 = .ok (.getfield 27, 3) := by decide +kernel
theorem dX0_findTargets_40 : decode cX0_findTargets 40 = .ok (.iload 4, 2) := by decide +kernel
theorem dX0_findTargets_42 : decode cX0_findTargets 42 = .ok (.invokevirtual 61, 3) := by decide +kernel
theorem dX0_findTargets_45 : decode cX0_findTargets 45 = .ok (.ifCond .eq 33, 3) := by decide +kernel
theorem dX0_findTargets_48 : decode cX0_findTargets 48 = .ok (.iload_n 2, 1) := by decide +kernel
theorem dX0_findTargets_49 : decode cX0_findTargets 49 = .ok (.iconst 2, 1) := by decide +kernel
theorem dX0_findTargets_50 : decode cX0_findTargets 50 = .ok (.irem, 1) := by decide +kernel
theorem dX0_findTargets_51 : decode cX0_findTargets 51 = .ok (.aload_n 0, 1) := by decide +kernel
theorem dX0_findTargets_52 : decode cX0_findTargets 52 = .ok (.getfield 27, 3) := by decide +kernel
theorem dX0_findTargets_55 : decode cX0_findTargets 55 = .ok (.getfield 87, 3) := by decide +kernel
theorem dX0_findTargets_58 : decode cX0_findTargets 58 = .ok (.iload_n 3, 1) := by decide +kernel
theorem dX0_findTargets_59 : decode cX0_findTargets 59 = .ok (.iaload, 1) := by decide +kernel
theorem dX0_findTargets_60 : decode cX0_findTargets 60 = .ok (.invokestatic 90, 3) := by decide +kernel
theorem dX0_findTargets_63 : decode cX0_findTargets 63 = .ok (.if_icmp .ge 15, 3) := by decide +kernel
theorem dX0_findTargets_66 : decode cX0_findTargets 66 = .ok (.iload_n 1, 1) := by decide +kernel
theorem dX0_findTargets_67 : decode cX0_findTargets 67 = .ok (.iload_n 2, 1) := by decide +kernel
theorem dX0_findTargets_68 : decode cX0_findTargets 68 = .ok (.ishr, 1) := by decide +kernel
theorem dX0_findTargets_69 : decode cX0_findTargets 69 = .ok (.iconst 1, 1) := by decide +kernel
theorem dX0_findTargets_70 : decode cX0_findTargets 70 = .ok (.iand, 1) := by decide +kernel
theorem dX0_findTargets_71 : decode cX0_findTargets 71 = .ok (.ifCond .ne 7, 3) := by decide +kernel
theorem dX0_findTargets_74 : decode cX0_findTargets 74 = .ok (.iconst 1, 1) := by decide +kernel
theorem dX0_findTargets_75 : decode cX0_findTargets 75 = .ok (.goto 4, 3) := by decide +kernel
theorem dX0_findTargets_78 : decode cX0_findTargets 78 = .ok (.iconst 0, 1) := by decide +kernel
theorem dX0_findTargets_79 : decode cX0_findTargets 79 = .ok (.istore 5, 2) := by decide +kernel
theorem dX0_findTargets_81 : decode cX0_findTargets 81 = .ok (.aload_n 0, 1) := by decide +kernel
theorem dX0_findTargets_82 : decode cX0_findTargets 82 = .ok (.getfield 9, 3) := by decide +kernel
theorem dX0_findTargets_85 : decode cX0_findTargets 85 = .ok (.iload_n 2, 1) := by decide +kernel
theorem dX0_findTargets_86 : decode cX0_findTargets 86 = .ok (.iload 5, 2) := by decide +kernel
theorem dX0_findTargets_88 : decode cX0_findTargets 88 = .ok (.ifCond .eq 8, 3) := by decide +kernel
theorem dX0_findTargets_91 : decode cX0_findTargets 91 = .ok (.iload 4, 2) := by decide +kernel
theorem dX0_findTargets_93 : decode cX0_findTargets 93 = .ok (.goto 4, 3) := by decide +kernel
theorem dX0_findTargets_96 : decode cX0_findTargets 96 = .ok (.iconst (-1), 1) := by decide +kernel
theorem dX0_findTargets_97 : decode cX0_findTargets 97 = .ok (.iastore, 1) := by decide +kernel
theorem dX0_findTargets_98 : decode cX0_findTargets 98 = .ok (.iinc 2 1, 3) := by decide +kernel
theorem dX0_findTargets_101 : decode cX0_findTargets 101 = .ok (.goto (-99), 3) := by decide +kernel
theorem dX0_findTargets_104 : decode cX0_findTargets 104 = .ok (.return_, 1) := by decide +kernel
theorem dX0_doNode_0 : decode cX0_doNode 0 = .ok (.aload_n 0, 1) := by decide +kernel
theorem dX0_doNode_1 : decode cX0_doNode 1 = .ok (.getfield 27, 3) := by decide +kernel
theorem dX0_doNode_4 : decode cX0_doNode 4 = .ok (.iload_n 1, 1) := by decide +kernel
theorem dX0_doNode_5 : decode cX0_doNode 5 = .ok (.invokevirtual 61, 3) := by decide +kernel
theorem dX0_doNode_8 : decode cX0_doNode 8 = .ok (.ifCond .eq 18, 3) := by decide +kernel
theorem dX0_doNode_11 : decode cX0_doNode 11 = .ok (.iload_n 2, 1) := by decide +kernel
theorem dX0_doNode_12 : decode cX0_doNode 12 = .ok (.bipush 8, 2) := by decide +kernel
theorem dX0_doNode_14 : decode cX0_doNode 14 = .ok (.if_icmp .ge 12, 3) := by decide +kernel
theorem dX0_doNode_17 : decode cX0_doNode 17 = .ok (.aload_n 0, 1) := by decide +kernel
theorem dX0_doNode_18 : decode cX0_doNode 18 = .ok (.getfield 39, 3) := by decide +kernel
theorem dX0_doNode_21 : decode cX0_doNode 21 = .ok (.bipush 8, 2) := by decide +kernel
theorem dX0_doNode_23 : decode cX0_doNode 23 = .ok (.if_icmp .lt 4, 3) := by decide +kernel
theorem dX0_doNode_26 : decode cX0_doNode 26 = .ok (.return_, 1) := by decide +kernel
theorem dX0_doNode_27 : decode cX0_doNode 27 = .ok (.aload_n 0, 1) := by decide +kernel
theorem dX0_doNode_28 : decode cX0_doNode 28 = .ok (.dup, 1) := by decide +kernel
theorem dX0_doNode_29 : decode cX0_doNode 29 = .ok (.getfield 35, 3) := by decide +kernel
theorem dX0_doNode_32 : decode cX0_doNode 32 = .ok (.iconst 1, 1) := by decide +kernel
theorem dX0_doNode_33 : decode cX0_doNode 33 = .ok (.iload_n 1, 1) := by decide +kernel
theorem dX0_doNode_34 : decode cX0_doNode 34 = .ok (.ishl, 1) := by decide +kernel
theorem dX0_doNode_35 : decode cX0_doNode 35 = .ok (.ior, 1) := by decide +kernel
theorem dX0_doNode_36 : decode cX0_doNode 36 = .ok (.putfield 35, 3) := by decide +kernel
theorem dX0_doNode_39 : decode cX0_doNode 39 = .ok (.iconst 2, 1) := by decide +kernel
theorem dX0_doNode_40 : decode cX0_doNode 40 = .ok (.iload_n 1, 1) := by decide +kernel
theorem dX0_doNode_41 : decode cX0_doNode 41 = .ok (.imul, 1) := by decide +kernel
theorem dX0_doNode_42 : decode cX0_doNode 42 = .ok (.istore_n 3, 1) := by decide +kernel
theorem dX0_doNode_43 : decode cX0_doNode 43 = .ok (.iload_n 3, 1) := by decide +kernel
theorem dX0_doNode_44 : decode cX0_doNode 44 = .ok (.iconst 2, 1) := by decide +kernel
theorem dX0_doNode_45 : decode cX0_doNode 45 = .ok (.iload_n 1, 1) := by decide +kernel
theorem dX0_doNode_46 : decode cX0_doNode 46 = .ok (.imul, 1) := by decide +kernel
theorem dX0_doNode_47 : decode cX0_doNode 47 = .ok (.iconst 1, 1) := by decide +kernel
theorem dX0_doNode_48 : decode cX0_doNode 48 = .ok (.iadd, 1) := by decide +kernel
theorem dX0_doNode_49 : decode cX0_doNode 49 = .ok (.if_icmp .gt 44, 3) := by decide +kernel
theorem dX0_doNode_52 : decode cX0_doNode 52 = .ok (.aload_n 0, 1) := by decide +kernel
theorem dX0_doNode_53 : decode cX0_doNode 53 = .ok (.getfield 9, 3) := by decide +kernel
theorem dX0_doNode_56 : decode cX0_doNode 56 = .ok (.iload_n 3, 1) := by decide +kernel
theorem dX0_doNode_57 : decode cX0_doNode 57 = .ok (.iaload, 1) := by decide +kernel
theorem dX0_doNode_58 : decode cX0_doNode 58 = .ok (.istore 4, 2) := by decide +kernel
theorem dX0_doNode_60 : decode cX0_doNode 60 = .ok (.iload 4, 2) := by decide +kernel
theorem dX0_doNode_62 : decode cX0_doNode 62 = .ok (.iconst (-1), 1) := by decide +kernel
theorem dX0_doNode_63 : decode cX0_doNode 63 = .ok (.if_icmp .eq 24, 3) := by decide +kernel
theorem dX0_doNode_66 : decode cX0_doNode 66 = .ok (.aload_n 0, 1) := by decide +kernel
theorem dX0_doNode_67 : decode cX0_doNode 67 = .ok (.getfield 35, 3) := by decide +kernel
theorem dX0_doNode_70 : decode cX0_doNode 70 = .ok (.iload 4, 2) := by decide +kernel
theorem dX0_doNode_72 : decode cX0_doNode 72 = .ok (.ishr, 1) := by decide +kernel
theorem dX0_doNode_73 : decode cX0_doNode 73 = .ok (.iconst 1, 1) := by decide +kernel
theorem dX0_doNode_74 : decode cX0_doNode 74 = .ok (.iand, 1) := by decide +kernel
theorem dX0_doNode_75 : decode cX0_doNode 75 = .ok (.ifCond .ne 12, 3) := by decide +kernel
theorem dX0_doNode_78 : decode cX0_doNode 78 = .ok (.aload_n 0, 1) := by decide +kernel
theorem dX0_doNode_79 : decode cX0_doNode 79 = .ok (.iload 4, 2) := by decide +kernel
theorem dX0_doNode_81 : decode cX0_doNode 81 = .ok (.iload_n 2, 1) := by decide +kernel
theorem dX0_doNode_82 : decode cX0_doNode 82 = .ok (.iconst 1, 1) := by decide +kernel
theorem dX0_doNode_83 : decode cX0_doNode 83 = .ok (.iadd, 1) := by decide +kernel
theorem dX0_doNode_84 : decode cX0_doNode 84 = .ok (.invokevirtual 42, 3) := by decide +kernel
theorem dX0_doNode_87 : decode cX0_doNode 87 = .ok (.iinc 3 1, 3) := by decide +kernel
theorem dX0_doNode_90 : decode cX0_doNode 90 = .ok (.goto (-47), 3) := by decide +kernel
theorem dX0_doNode_93 : decode cX0_doNode 93 = .ok (.aload_n 0, 1) := by decide +kernel
theorem dX0_doNode_94 : decode cX0_doNode 94 = .ok (.getfield 18, 3) := by decide +kernel
theorem dX0_doNode_97 : decode cX0_doNode 97 = .ok (.aload_n 0, 1) := by decide +kernel
theorem dX0_doNode_98 : decode cX0_doNode 98 = .ok (.getfield 39, 3) := by decide +kernel
theorem dX0_doNode_101 : decode cX0_doNode 101 = .ok (.iload_n 1, 1) := by decide +kernel
theorem dX0_doNode_102 : decode cX0_doNode 102 = .ok (.iastore, 1) := by decide +kernel
theorem dX0_doNode_103 : decode cX0_doNode 103 = .ok (.aload_n 0, 1) := by decide +kernel
theorem dX0_doNode_104 : decode cX0_doNode 104 = .ok (.dup, 1) := by decide +kernel
theorem dX0_doNode_105 : decode cX0_doNode 105 = .ok (.getfield 39, 3) := by decide +kernel
theorem dX0_doNode_108 : decode cX0_doNode 108 = .ok (.iconst 1, 1) := by decide +kernel
theorem dX0_doNode_109 : decode cX0_doNode 109 = .ok (.iadd, 1) := by decide +kernel
theorem dX0_doNode_110 : decode cX0_doNode 110 = .ok (.putfield 39, 3) := by decide +kernel
theorem dX0_doNode_113 : decode cX0_doNode 113 = .ok (.return_, 1) := by decide +kernel
theorem dX0_findRulers_0 : decode cX0_findRulers 0 = .ok (.aload_n 0, 1) := by decide +kernel
theorem dX0_findRulers_1 : decode cX0_findRulers 1 = .ok (.getfield 24, 3) := by decide +kernel
theorem dX0_findRulers_4 : decode cX0_findRulers 4 = .ok (.iconst 0, 1) := by decide +kernel
theorem dX0_findRulers_5 : decode cX0_findRulers 5 = .ok (.invokestatic 46, 3) := by decide +kernel
theorem dX0_findRulers_8 : decode cX0_findRulers 8 = .ok (.iconst 0, 1) := by decide +kernel
theorem dX0_findRulers_9 : decode cX0_findRulers 9 = .ok (.istore_n 1, 1) := by decide +kernel
theorem dX0_findRulers_10 : decode cX0_findRulers 10 = .ok (.iload_n 1, 1) := by decide +kernel
theorem dX0_findRulers_11 : decode cX0_findRulers 11 = .ok (.aload_n 0, 1) := by decide +kernel
theorem dX0_findRulers_12 : decode cX0_findRulers 12 = .ok (.getfield 39, 3) := by decide +kernel
theorem dX0_findRulers_15 : decode cX0_findRulers 15 = .ok (.if_icmp .ge 37, 3) := by decide +kernel
theorem dX0_findRulers_18 : decode cX0_findRulers 18 = .ok (.aload_n 0, 1) := by decide +kernel
theorem dX0_findRulers_19 : decode cX0_findRulers 19 = .ok (.getfield 24, 3) := by decide +kernel
theorem dX0_findRulers_22 : decode cX0_findRulers 22 = .ok (.aload_n 0, 1) := by decide +kernel
theorem dX0_findRulers_23 : decode cX0_findRulers 23 = .ok (.getfield 18, 3) := by decide +kernel
theorem dX0_findRulers_26 : decode cX0_findRulers 26 = .ok (.iload_n 1, 1) := by decide +kernel
theorem dX0_findRulers_27 : decode cX0_findRulers 27 = .ok (.iaload, 1) := by decide +kernel
theorem dX0_findRulers_28 : decode cX0_findRulers 28 = .ok (.aload_n 0, 1) := by decide +kernel
theorem dX0_findRulers_29 : decode cX0_findRulers 29 = .ok (.getfield 18, 3) := by decide +kernel
theorem dX0_findRulers_32 : decode cX0_findRulers 32 = .ok (.iload_n 1, 1) := by decide +kernel
theorem dX0_findRulers_33 : decode cX0_findRulers 33 = .ok (.iaload, 1) := by decide +kernel
theorem dX0_findRulers_34 : decode cX0_findRulers 34 = .ok (.ifCond .ne 7, 3) := by decide +kernel
theorem dX0_findRulers_37 : decode cX0_findRulers 37 = .ok (.iconst 1, 1) := by decide +kernel
theorem dX0_findRulers_38 : decode cX0_findRulers 38 = .ok (.goto 7, 3) := by decide +kernel
theorem dX0_findRulers_41 : decode cX0_findRulers 41 = .ok (.aload_n 0, 1) := by decide +kernel
theorem dX0_findRulers_42 : decode cX0_findRulers 42 = .ok (.getfield 35, 3) := by decide +kernel
theorem dX0_findRulers_45 : decode cX0_findRulers 45 = .ok (.iastore, 1) := by decide +kernel
theorem dX0_findRulers_46 : decode cX0_findRulers 46 = .ok (.iinc 1 1, 3) := by decide +kernel
theorem dX0_findRulers_49 : decode cX0_findRulers 49 = .ok (.goto (-39), 3) := by decide +kernel
theorem dX0_findRulers_52 : decode cX0_findRulers 52 = .ok (.iconst 1, 1) := by decide +kernel
theorem dX0_findRulers_53 : decode cX0_findRulers 53 = .ok (.istore_n 1, 1) := by decide +kernel
theorem dX0_findRulers_54 : decode cX0_findRulers 54 = .ok (.iconst 0, 1) := by decide +kernel
theorem dX0_findRulers_55 : decode cX0_findRulers 55 = .ok (.istore_n 2, 1) := by decide +kernel
theorem dX0_findRulers_56 : decode cX0_findRulers 56 = .ok (.iload_n 1, 1) := by decide +kernel
theorem dX0_findRulers_57 : decode cX0_findRulers 57 = .ok (.ifCond .eq 62, 3) := by decide +kernel
theorem dX0_findRulers_60 : decode cX0_findRulers 60 = .ok (.iload_n 2, 1) := by decide +kernel
theorem dX0_findRulers_61 : decode cX0_findRulers 61 = .ok (.bipush 64, 2) := by decide +kernel
theorem dX0_findRulers_63 : decode cX0_findRulers 63 = .ok (.if_icmp .gt 56, 3) := by decide +kernel
theorem dX0_findRulers_66 : decode cX0_findRulers 66 = .ok (.iconst 0, 1) := by decide +kernel
theorem dX0_findRulers_67 : decode cX0_findRulers 67 = .ok (.istore_n 1, 1) := by decide +kernel
theorem dX0_findRulers_68 : decode cX0_findRulers 68 = .ok (.aload_n 0, 1) := by decide +kernel
theorem dX0_findRulers_69 : decode cX0_findRulers 69 = .ok (.getfield 39, 3) := by decide +kernel
theorem dX0_findRulers_72 : decode cX0_findRulers 72 = .ok (.iconst 1, 1) := by decide +kernel
theorem dX0_findRulers_73 : decode cX0_findRulers 73 = .ok (.isub, 1) := by decide +kernel
theorem dX0_findRulers_74 : decode cX0_findRulers 74 = .ok (.istore_n 3, 1) := by decide +kernel
theorem dX0_findRulers_75 : decode cX0_findRulers 75 = .ok (.iload_n 3, 1) := by decide +kernel
theorem dX0_findRulers_76 : decode cX0_findRulers 76 = .ok (.ifCond .lt 37, 3) := by decide +kernel
theorem dX0_findRulers_79 : decode cX0_findRulers 79 = .ok (.iload_n 1, 1) := by decide +kernel
theorem dX0_findRulers_80 : decode cX0_findRulers 80 = .ok (.aload_n 0, 1) := by decide +kernel
theorem dX0_findRulers_81 : decode cX0_findRulers 81 = .ok (.aload_n 0, 1) := by decide +kernel
theorem dX0_findRulers_82 : decode cX0_findRulers 82 = .ok (.getfield 18, 3) := by decide +kernel
theorem dX0_findRulers_85 : decode cX0_findRulers 85 = .ok (.iload_n 3, 1) := by decide +kernel
theorem dX0_findRulers_86 : decode cX0_findRulers 86 = .ok (.iaload, 1) := by decide +kernel
theorem dX0_findRulers_87 : decode cX0_findRulers 87 = .ok (.iconst 0, 1) := by decide +kernel
theorem dX0_findRulers_88 : decode cX0_findRulers 88 = .ok (.invokevirtual 94, 3) := by decide +kernel
theorem dX0_findRulers_91 : decode cX0_findRulers 91 = .ok (.ior, 1) := by decide +kernel
theorem dX0_findRulers_92 : decode cX0_findRulers 92 = .ok (.istore_n 1, 1) := by decide +kernel
theorem dX0_findRulers_93 : decode cX0_findRulers 93 = .ok (.iload_n 1, 1) := by decide +kernel
theorem dX0_findRulers_94 : decode cX0_findRulers 94 = .ok (.aload_n 0, 1) := by decide +kernel
theorem dX0_findRulers_95 : decode cX0_findRulers 95 = .ok (.aload_n 0, 1) := by decide +kernel
theorem dX0_findRulers_96 : decode cX0_findRulers 96 = .ok (.getfield 18, 3) := by decide +kernel
theorem dX0_findRulers_99 : decode cX0_findRulers 99 = .ok (.iload_n 3, 1) := by decide +kernel
theorem dX0_findRulers_100 : decode cX0_findRulers 100 = .ok (.iaload, 1) := by decide +kernel
theorem dX0_findRulers_101 : decode cX0_findRulers 101 = .ok (.iconst 1, 1) := by decide +kernel
theorem dX0_findRulers_102 : decode cX0_findRulers 102 = .ok (.invokevirtual 94, 3) := by decide +kernel
theorem dX0_findRulers_105 : decode cX0_findRulers 105 = .ok (.ior, 1) := by decide +kernel
theorem dX0_findRulers_106 : decode cX0_findRulers 106 = .ok (.istore_n 1, 1) := by decide +kernel
theorem dX0_findRulers_107 : decode cX0_findRulers 107 = .ok (.iinc 3 (-1), 3) := by decide +kernel
theorem dX0_findRulers_110 : decode cX0_findRulers 110 = .ok (.goto (-35), 3) := by decide +kernel
theorem dX0_findRulers_113 : decode cX0_findRulers 113 = .ok (.iinc 2 1, 3) := by decide +kernel
theorem dX0_findRulers_116 : decode cX0_findRulers 116 = .ok (.goto (-60), 3) := by decide +kernel
theorem dX0_findRulers_119 : decode cX0_findRulers 119 = .ok (.return_, 1) := by decide +kernel
theorem dX0_strikeBehind_0 : decode cX0_strikeBehind 0 = .ok (.aload_n 0, 1) := by decide +kernel
theorem dX0_strikeBehind_1 : decode cX0_strikeBehind 1 = .ok (.getfield 9, 3) := by decide +kernel
theorem dX0_strikeBehind_4 : decode cX0_strikeBehind 4 = .ok (.iconst 2, 1) := by decide +kernel
theorem dX0_strikeBehind_5 : decode cX0_strikeBehind 5 = .ok (.iload_n 1, 1) := by decide +kernel
theorem dX0_strikeBehind_6 : decode cX0_strikeBehind 6 = .ok (.imul, 1) := by decide +kernel
theorem dX0_strikeBehind_7 : decode cX0_strikeBehind 7 = .ok (.iload_n 2, 1) := by decide +kernel
theorem dX0_strikeBehind_8 : decode cX0_strikeBehind 8 = .ok (.iadd, 1) := by decide +kernel
theorem dX0_strikeBehind_9 : decode cX0_strikeBehind 9 = .ok (.iaload, 1) := by decide +kernel
theorem dX0_strikeBehind_10 : decode cX0_strikeBehind 10 = .ok (.istore_n 3, 1) := by decide +kernel
theorem dX0_strikeBehind_11 : decode cX0_strikeBehind 11 = .ok (.iload_n 3, 1) := by decide +kernel
theorem dX0_strikeBehind_12 : decode cX0_strikeBehind 12 = .ok (.iconst (-1), 1) := by decide +kernel
theorem dX0_strikeBehind_13 : decode cX0_strikeBehind 13 = .ok (.if_icmp .ne 5, 3) := by decide +kernel
theorem dX0_strikeBehind_16 : decode cX0_strikeBehind 16 = .ok (.iconst 0, 1) := by decide +kernel
theorem dX0_strikeBehind_17 : decode cX0_strikeBehind 17 = .ok (.ireturn, 1) := by decide +kernel
theorem dX0_strikeBehind_18 : decode cX0_strikeBehind 18 = .ok (.aload_n 0, 1) := by decide +kernel
theorem dX0_strikeBehind_19 : decode cX0_strikeBehind 19 = .ok (.getfield 24, 3) := by decide +kernel
theorem dX0_strikeBehind_22 : decode cX0_strikeBehind 22 = .ok (.iload_n 3, 1) := by decide +kernel
theorem dX0_strikeBehind_23 : decode cX0_strikeBehind 23 = .ok (.iaload, 1) := by decide +kernel
theorem dX0_strikeBehind_24 : decode cX0_strikeBehind 24 = .ok (.aload_n 0, 1) := by decide +kernel
theorem dX0_strikeBehind_25 : decode cX0_strikeBehind 25 = .ok (.getfield 24, 3) := by decide +kernel
theorem dX0_strikeBehind_28 : decode cX0_strikeBehind 28 = .ok (.iload_n 1, 1) := by decide +kernel
theorem dX0_strikeBehind_29 : decode cX0_strikeBehind 29 = .ok (.iaload, 1) := by decide +kernel
theorem dX0_strikeBehind_30 : decode cX0_strikeBehind 30 = .ok (.iconst 1, 1) := by decide +kernel
theorem dX0_strikeBehind_31 : decode cX0_strikeBehind 31 = .ok (.iload_n 3, 1) := by decide +kernel
theorem dX0_strikeBehind_32 : decode cX0_strikeBehind 32 = .ok (.ishl, 1) := by decide +kernel
theorem dX0_strikeBehind_33 : decode cX0_strikeBehind 33 = .ok (.ior, 1) := by decide +kernel
theorem dX0_strikeBehind_34 : decode cX0_strikeBehind 34 = .ok (.iand, 1) := by decide +kernel
theorem dX0_strikeBehind_35 : decode cX0_strikeBehind 35 = .ok (.istore 4, 2) := by decide +kernel
theorem dX0_strikeBehind_37 : decode cX0_strikeBehind 37 = .ok (.iload 4, 2) := by decide +kernel
theorem dX0_strikeBehind_39 : decode cX0_strikeBehind 39 = .ok (.aload_n 0, 1) := by decide +kernel
theorem dX0_strikeBehind_40 : decode cX0_strikeBehind 40 = .ok (.getfield 24, 3) := by decide +kernel
theorem dX0_strikeBehind_43 : decode cX0_strikeBehind 43 = .ok (.iload_n 3, 1) := by decide +kernel
theorem dX0_strikeBehind_44 : decode cX0_strikeBehind 44 = .ok (.iaload, 1) := by decide +kernel
theorem dX0_strikeBehind_45 : decode cX0_strikeBehind 45 = .ok (.if_icmp .eq 7, 3) := by decide +kernel
theorem dX0_strikeBehind_48 : decode cX0_strikeBehind 48 = .ok (.iconst 1, 1) := by decide +kernel
theorem dX0_strikeBehind_49 : decode cX0_strikeBehind 49 = .ok (.goto 4, 3) := by decide +kernel
theorem dX0_strikeBehind_52 : decode cX0_strikeBehind 52 = .ok (.iconst 0, 1) := by decide +kernel
theorem dX0_strikeBehind_53 : decode cX0_strikeBehind 53 = .ok (.istore 5, 2) := by decide +kernel
theorem dX0_strikeBehind_55 : decode cX0_strikeBehind 55 = .ok (.aload_n 0, 1) := by decide +kernel
theorem dX0_strikeBehind_56 : decode cX0_strikeBehind 56 = .ok (.getfield 24, 3) := by decide +kernel
theorem dX0_strikeBehind_59 : decode cX0_strikeBehind 59 = .ok (.iload_n 3, 1) := by decide +kernel
theorem dX0_strikeBehind_60 : decode cX0_strikeBehind 60 = .ok (.iload 4, 2) := by decide +kernel
theorem dX0_strikeBehind_62 : decode cX0_strikeBehind 62 = .ok (.iastore, 1) := by decide +kernel
theorem dX0_strikeBehind_63 : decode cX0_strikeBehind 63 = .ok (.iload 5, 2) := by decide +kernel
theorem dX0_strikeBehind_65 : decode cX0_strikeBehind 65 = .ok (.ireturn, 1) := by decide +kernel
theorem dX0_weighEdges_0 : decode cX0_weighEdges 0 = .ok (.aload_n 0, 1) := by decide +kernel
theorem dX0_weighEdges_1 : decode cX0_weighEdges 1 = .ok (.iconst 0, 1) := by decide +kernel
theorem dX0_weighEdges_2 : decode cX0_weighEdges 2 = .ok (.putfield 97, 3) := by decide +kernel
theorem dX0_weighEdges_5 : decode cX0_weighEdges 5 = .ok (.aload_n 0, 1) := by decide +kernel
theorem dX0_weighEdges_6 : decode cX0_weighEdges 6 = .ok (.iconst 0, 1) := by decide +kernel
theorem dX0_weighEdges_7 : decode cX0_weighEdges 7 = .ok (.putfield 100, 3) := by decide +kernel
theorem dX0_weighEdges_10 : decode cX0_weighEdges 10 = .ok (.aload_n 0, 1) := by decide +kernel
theorem dX0_weighEdges_11 : decode cX0_weighEdges 11 = .ok (.iconst 0, 1) := by decide +kernel
theorem dX0_weighEdges_12 : decode cX0_weighEdges 12 = .ok (.putfield 58, 3) := by decide +kernel
theorem dX0_weighEdges_15 : decode cX0_weighEdges 15 = .ok (.aload_n 0, 1) := by decide +kernel
theorem dX0_weighEdges_16 : decode cX0_weighEdges 16 = .ok (.iconst 0, 1) := by decide +kernel
theorem dX0_weighEdges_17 : decode cX0_weighEdges 17 = .ok (.putfield 70, 3) := by decide +kernel
theorem dX0_weighEdges_20 : decode cX0_weighEdges 20 = .ok (.aload_n 0, 1) := by decide +kernel
theorem dX0_weighEdges_21 : decode cX0_weighEdges 21 = .ok (.iconst 0, 1) := by decide +kernel
theorem dX0_weighEdges_22 : decode cX0_weighEdges 22 = .ok (.putfield 73, 3) := by decide +kernel
theorem dX0_weighEdges_25 : decode cX0_weighEdges 25 = .ok (.iconst 0, 1) := by decide +kernel
theorem dX0_weighEdges_26 : decode cX0_weighEdges 26 = .ok (.istore_n 1, 1) := by decide +kernel
theorem dX0_weighEdges_27 : decode cX0_weighEdges 27 = .ok (.iconst 0, 1) := by decide +kernel
theorem dX0_weighEdges_28 : decode cX0_weighEdges 28 = .ok (.istore_n 2, 1) := by decide +kernel
theorem dX0_weighEdges_29 : decode cX0_weighEdges 29 = .ok (.iload_n 2, 1) := by decide +kernel
theorem dX0_weighEdges_30 : decode cX0_weighEdges 30 = .ok (.bipush 16, 2) := by decide +kernel
theorem dX0_weighEdges_32 : decode cX0_weighEdges 32 = .ok (.if_icmp .ge 168, 3) := by decide +kernel
theorem dX0_weighEdges_35 : decode cX0_weighEdges 35 = .ok (.iload_n 2, 1) := by decide +kernel
theorem dX0_weighEdges_36 : decode cX0_weighEdges 36 = .ok (.iconst 2, 1) := by decide +kernel
theorem dX0_weighEdges_37 : decode cX0_weighEdges 37 = .ok (.idiv, 1) := by decide +kernel
theorem dX0_weighEdges_38 : decode cX0_weighEdges 38 = .ok (.istore_n 3, 1) := by decide +kernel
theorem dX0_weighEdges_39 : decode cX0_weighEdges 39 = .ok (.aload_n 0, 1) := by decide +kernel
theorem dX0_weighEdges_40 : decode cX0_weighEdges 40 = .ok (.getfield 9, 3) := by decide +kernel
theorem dX0_weighEdges_43 : decode cX0_weighEdges 43 = .ok (.iload_n 2, 1) := by decide +kernel
theorem dX0_weighEdges_44 : decode cX0_weighEdges 44 = .ok (.iaload, 1) := by decide +kernel
theorem dX0_weighEdges_45 : decode cX0_weighEdges 45 = .ok (.istore 4, 2) := by decide +kernel
theorem dX0_weighEdges_47 : decode cX0_weighEdges 47 = .ok (.aload_n 0, 1) := by decide +kernel
theorem dX0_weighEdges_48 : decode cX0_weighEdges 48 = .ok (.getfield 15, 3) := by decide +kernel
theorem dX0_weighEdges_51 : decode cX0_weighEdges 51 = .ok (.iload_n 2, 1) := by decide +kernel
theorem dX0_weighEdges_52 : decode cX0_weighEdges 52 = .ok (.iconst (-1), 1) := by decide +kernel
theorem dX0_weighEdges_53 : decode cX0_weighEdges 53 = .ok (.iastore, 1) := by decide +kernel
theorem dX0_weighEdges_54 : decode cX0_weighEdges 54 = .ok (.iload 4, 2) := by decide +kernel
theorem dX0_weighEdges_56 : decode cX0_weighEdges 56 = .ok (.iconst (-1), 1) := by decide +kernel
theorem dX0_weighEdges_57 : decode cX0_weighEdges 57 = .ok (.if_icmp .eq 137, 3) := by decide +kernel
theorem dX0_weighEdges_60 : decode cX0_weighEdges 60 = .ok (.aload_n 0, 1) := by decide +kernel
theorem dX0_weighEdges_61 : decode cX0_weighEdges 61 = .ok (.getfield 35, 3) := by decide +kernel
theorem dX0_weighEdges_64 : decode cX0_weighEdges 64 = .ok (.iload_n 3, 1) := by decide +kernel
theorem dX0_weighEdges_65 : decode cX0_weighEdges 65 = .ok (.ishr, 1) := by decide +kernel
theorem dX0_weighEdges_66 : decode cX0_weighEdges 66 = .ok (.iconst 1, 1) := by decide +kernel
theorem dX0_weighEdges_67 : decode cX0_weighEdges 67 = .ok (.iand, 1) := by decide +kernel
theorem dX0_weighEdges_68 : decode cX0_weighEdges 68 = .ok (.ifCond .ne 6, 3) := by decide +kernel
theorem dX0_weighEdges_71 : decode cX0_weighEdges 71 = .ok (.goto 123, 3) := by decide +kernel
theorem dX0_weighEdges_74 : decode cX0_weighEdges 74 = .ok (.aload_n 0, 1) := by decide +kernel
theorem dX0_weighEdges_75 : decode cX0_weighEdges 75 = .ok (.dup, 1) := by decide +kernel
theorem dX0_weighEdges_76 : decode cX0_weighEdges 76 = .ok (.getfield 97, 3) := by decide +kernel
theorem dX0_weighEdges_79 : decode cX0_weighEdges 79 = .ok (.iconst 1, 1) := by decide +kernel
theorem dX0_weighEdges_80 : decode cX0_weighEdges 80 = .ok (.iadd, 1) := by decide +kernel
theorem dX0_weighEdges_81 : decode cX0_weighEdges 81 = .ok (.putfield 97, 3) := by decide +kernel
theorem dX0_weighEdges_84 : decode cX0_weighEdges 84 = .ok (.iconst 1, 1) := by decide +kernel
theorem dX0_weighEdges_85 : decode cX0_weighEdges 85 = .ok (.iload 4, 2) := by decide +kernel
theorem dX0_weighEdges_87 : decode cX0_weighEdges 87 = .ok (.ishl, 1) := by decide +kernel
theorem dX0_weighEdges_88 : decode cX0_weighEdges 88 = .ok (.istore 5, 2) := by decide +kernel
theorem dX0_weighEdges_90 : decode cX0_weighEdges 90 = .ok (.aload_n 0, 1) := by decide +kernel
theorem dX0_weighEdges_91 : decode cX0_weighEdges 91 = .ok (.getfield 21, 3) := by decide +kernel
theorem dX0_weighEdges_94 : decode cX0_weighEdges 94 = .ok (.iload 4, 2) := by decide +kernel
theorem dX0_weighEdges_96 : decode cX0_weighEdges 96 = .ok (.iaload, 1) := by decide +kernel
theorem dX0_weighEdges_97 : decode cX0_weighEdges 97 = .ok (.aload_n 0, 1) := by decide +kernel
theorem dX0_weighEdges_98 : decode cX0_weighEdges 98 = .ok (.getfield 21, 3) := by decide +kernel
theorem dX0_weighEdges_101 : decode cX0_weighEdges 101 = .ok (.iload_n 3, 1) := by decide +kernel
theorem dX0_weighEdges_102 : decode cX0_weighEdges 102 = .ok (.iaload, 1) := by decide +kernel
theorem dX0_weighEdges_103 : decode cX0_weighEdges 103 = .ok (.if_icmp .le 31, 3) := by decide +kernel
theorem dX0_weighEdges_106 : decode cX0_weighEdges 106 = .ok (.aload_n 0, 1) := by decide +kernel
theorem dX0_weighEdges_107 : decode cX0_weighEdges 107 = .ok (.getfield 15, 3) := by decide +kernel
theorem dX0_weighEdges_110 : decode cX0_weighEdges 110 = .ok (.iload_n 2, 1) := by decide +kernel
theorem dX0_weighEdges_111 : decode cX0_weighEdges 111 = .ok (.iconst 0, 1) := by decide +kernel
theorem dX0_weighEdges_112 : decode cX0_weighEdges 112 = .ok (.iastore, 1) := by decide +kernel
theorem dX0_weighEdges_113 : decode cX0_weighEdges 113 = .ok (.aload_n 0, 1) := by decide +kernel
theorem dX0_weighEdges_114 : decode cX0_weighEdges 114 = .ok (.dup, 1) := by decide +kernel
theorem dX0_weighEdges_115 : decode cX0_weighEdges 115 = .ok (.getfield 73, 3) := by decide +kernel
theorem dX0_weighEdges_118 : decode cX0_weighEdges 118 = .ok (.iload_n 1, 1) := by decide +kernel
theorem dX0_weighEdges_119 : decode cX0_weighEdges 119 = .ok (.iload 5, 2) := by decide +kernel
theorem dX0_weighEdges_121 : decode cX0_weighEdges 121 = .ok (.iand, 1) := by decide +kernel
theorem dX0_weighEdges_122 : decode cX0_weighEdges 122 = .ok (.ior, 1) := by decide +kernel
theorem dX0_weighEdges_123 : decode cX0_weighEdges 123 = .ok (.putfield 73, 3) := by decide +kernel
theorem dX0_weighEdges_126 : decode cX0_weighEdges 126 = .ok (.iload_n 1, 1) := by decide +kernel
theorem dX0_weighEdges_127 : decode cX0_weighEdges 127 = .ok (.iload 5, 2) := by decide +kernel
theorem dX0_weighEdges_129 : decode cX0_weighEdges 129 = .ok (.ior, 1) := by decide +kernel
theorem dX0_weighEdges_130 : decode cX0_weighEdges 130 = .ok (.istore_n 1, 1) := by decide +kernel
theorem dX0_weighEdges_131 : decode cX0_weighEdges 131 = .ok (.goto 63, 3) := by decide +kernel
theorem dX0_weighEdges_134 : decode cX0_weighEdges 134 = .ok (.aload_n 0, 1) := by decide +kernel
theorem dX0_weighEdges_135 : decode cX0_weighEdges 135 = .ok (.getfield 24, 3) := by decide +kernel
theorem dX0_weighEdges_138 : decode cX0_weighEdges 138 = .ok (.iload_n 3, 1) := by decide +kernel
theorem dX0_weighEdges_139 : decode cX0_weighEdges 139 = .ok (.iaload, 1) := by decide +kernel
theorem dX0_weighEdges_140 : decode cX0_weighEdges 140 = .ok (.iload 5, 2) := by decide +kernel
theorem dX0_weighEdges_142 : decode cX0_weighEdges 142 = .ok (.iand, 1) := by decide +kernel
theorem dX0_weighEdges_143 : decode cX0_weighEdges 143 = .ok (.ifCond .eq 34, 3) := by decide +kernel
theorem dX0_weighEdges_146 : decode cX0_weighEdges 146 = .ok (.aload_n 0, 1) := by decide +kernel
theorem dX0_weighEdges_147 : decode cX0_weighEdges 147 = .ok (.getfield 15, 3) := by decide +kernel
theorem dX0_weighEdges_150 : decode cX0_weighEdges 150 = .ok (.iload_n 2, 1) := by decide +kernel
theorem dX0_weighEdges_151 : decode cX0_weighEdges 151 = .ok (.iconst 1, 1) := by decide +kernel
theorem dX0_weighEdges_152 : decode cX0_weighEdges 152 = .ok (.iastore, 1) := by decide +kernel
theorem dX0_weighEdges_153 : decode cX0_weighEdges 153 = .ok (.aload_n 0, 1) := by decide +kernel
theorem dX0_weighEdges_154 : decode cX0_weighEdges 154 = .ok (.dup, 1) := by decide +kernel
theorem dX0_weighEdges_155 : decode cX0_weighEdges 155 = .ok (.getfield 100, 3) := by decide +kernel
theorem dX0_weighEdges_158 : decode cX0_weighEdges 158 = .ok (.iconst 1, 1) := by decide +kernel
theorem dX0_weighEdges_159 : decode cX0_weighEdges 159 = .ok (.iadd, 1) := by decide +kernel
theorem dX0_weighEdges_160 : decode cX0_weighEdges 160 = .ok (.putfield 100, 3) := by decide +kernel
theorem dX0_weighEdges_163 : decode cX0_weighEdges 163 = .ok (.aload_n 0, 1) := by decide +kernel
theorem dX0_weighEdges_164 : decode cX0_weighEdges 164 = .ok (.dup, 1) := by decide +kernel
theorem dX0_weighEdges_165 : decode cX0_weighEdges 165 = .ok (.getfield 70, 3) := by decide +kernel
theorem dX0_weighEdges_168 : decode cX0_weighEdges 168 = .ok (.iload 5, 2) := by decide +kernel
theorem dX0_weighEdges_170 : decode cX0_weighEdges 170 = .ok (.ior, 1) := by decide +kernel
theorem dX0_weighEdges_171 : decode cX0_weighEdges 171 = .ok (.putfield 70, 3) := by decide +kernel
theorem dX0_weighEdges_174 : decode cX0_weighEdges 174 = .ok (.goto 20, 3) := by decide +kernel
theorem dX0_weighEdges_177 : decode cX0_weighEdges 177 = .ok (.aload_n 0, 1) := by decide +kernel
theorem dX0_weighEdges_178 : decode cX0_weighEdges 178 = .ok (.getfield 15, 3) := by decide +kernel
theorem dX0_weighEdges_181 : decode cX0_weighEdges 181 = .ok (.iload_n 2, 1) := by decide +kernel
theorem dX0_weighEdges_182 : decode cX0_weighEdges 182 = .ok (.iconst 2, 1) := by decide +kernel
theorem dX0_weighEdges_183 : decode cX0_weighEdges 183 = .ok (.iastore, 1) := by decide +kernel
theorem dX0_weighEdges_184 : decode cX0_weighEdges 184 = .ok (.aload_n 0, 1) := by decide +kernel
theorem dX0_weighEdges_185 : decode cX0_weighEdges 185 = .ok (.dup, 1) := by decide +kernel
theorem dX0_weighEdges_186 : decode cX0_weighEdges 186 = .ok (.getfield 58, 3) := by decide +kernel
theorem dX0_weighEdges_189 : decode cX0_weighEdges 189 = .ok (.iconst 1, 1) := by decide +kernel
theorem dX0_weighEdges_190 : decode cX0_weighEdges 190 = .ok (.iadd, 1) := by decide +kernel
theorem dX0_weighEdges_191 : decode cX0_weighEdges 191 = .ok (.putfield 58, 3) := by decide +kernel
theorem dX0_weighEdges_194 : decode cX0_weighEdges 194 = .ok (.iinc 2 1, 3) := by decide +kernel
theorem dX0_weighEdges_197 : decode cX0_weighEdges 197 = .ok (.goto (-168), 3) := by decide +kernel
theorem dX0_weighEdges_200 : decode cX0_weighEdges 200 = .ok (.return_, 1) := by decide +kernel
theorem dX1_init_0 : decode cX1_init 0 = .ok (.aload_n 0, 1) := by decide +kernel
theorem dX1_init_1 : decode cX1_init 1 = .ok (.invokespecial 3, 3) := by decide +kernel
theorem dX1_init_4 : decode cX1_init 4 = .ok (.aload_n 0, 1) := by decide +kernel
theorem dX1_init_5 : decode cX1_init 5 = .ok (.bipush 8, 2) := by decide +kernel
theorem dX1_init_7 : decode cX1_init 7 = .ok (.newarray .int, 2) := by decide +kernel
theorem dX1_init_9 : decode cX1_init 9 = .ok (.putfield 9, 3) := by decide +kernel
theorem dX1_init_12 : decode cX1_init 12 = .ok (.aload_n 0, 1) := by decide +kernel
theorem dX1_init_13 : decode cX1_init 13 = .ok (.bipush 8, 2) := by decide +kernel
theorem dX1_init_15 : decode cX1_init 15 = .ok (.newarray .int, 2) := by decide +kernel
theorem dX1_init_17 : decode cX1_init 17 = .ok (.putfield 15, 3) := by decide +kernel
theorem dX1_init_20 : decode cX1_init 20 = .ok (.aload_n 0, 1) := by decide +kernel
theorem dX1_init_21 : decode cX1_init 21 = .ok (.bipush 8, 2) := by decide +kernel
theorem dX1_init_23 : decode cX1_init 23 = .ok (.newarray .int, 2) := by decide +kernel
theorem dX1_init_25 : decode cX1_init 25 = .ok (.putfield 18, 3) := by decide +kernel
theorem dX1_init_28 : decode cX1_init 28 = .ok (.return_, 1) := by decide +kernel
theorem dX1_has_0 : decode cX1_has 0 = .ok (.iload_n 1, 1) := by decide +kernel
theorem dX1_has_1 : decode cX1_has 1 = .ok (.ifCond .lt 15, 3) := by decide +kernel
theorem dX1_has_4 : decode cX1_has 4 = .ok (.iload_n 1, 1) := by decide +kernel
theorem dX1_has_5 : decode cX1_has 5 = .ok (.aload_n 0, 1) := by decide +kernel
theorem dX1_has_6 : decode cX1_has 6 = .ok (.getfield 21, 3) := by decide +kernel
theorem dX1_has_9 : decode cX1_has 9 = .ok (.if_icmp .ge 7, 3) := by decide +kernel
theorem dX1_has_12 : decode cX1_has 12 = .ok (.iconst 1, 1) := by decide +kernel
theorem dX1_has_13 : decode cX1_has 13 = .ok (.goto 4, 3) := by decide +kernel
theorem dX1_has_16 : decode cX1_has 16 = .ok (.iconst 0, 1) := by decide +kernel
theorem dX1_has_17 : decode cX1_has 17 = .ok (.ireturn, 1) := by decide +kernel
theorem dX1_grow_0 : decode cX1_grow 0 = .ok (.aload_n 0, 1) := by decide +kernel
theorem dX1_grow_1 : decode cX1_grow 1 = .ok (.getfield 21, 3) := by decide +kernel
theorem dX1_grow_4 : decode cX1_grow 4 = .ok (.bipush 8, 2) := by decide +kernel
theorem dX1_grow_6 : decode cX1_grow 6 = .ok (.if_icmp .lt 5, 3) := by decide +kernel
theorem dX1_grow_9 : decode cX1_grow 9 = .ok (.iconst 0, 1) := by decide +kernel
theorem dX1_grow_10 : decode cX1_grow 10 = .ok (.ireturn, 1) := by decide +kernel
theorem dX1_grow_11 : decode cX1_grow 11 = .ok (.aload_n 0, 1) := by decide +kernel
theorem dX1_grow_12 : decode cX1_grow 12 = .ok (.getfield 9, 3) := by decide +kernel
theorem dX1_grow_15 : decode cX1_grow 15 = .ok (.aload_n 0, 1) := by decide +kernel
theorem dX1_grow_16 : decode cX1_grow 16 = .ok (.getfield 21, 3) := by decide +kernel
theorem dX1_grow_19 : decode cX1_grow 19 = .ok (.iload_n 1, 1) := by decide +kernel
theorem dX1_grow_20 : decode cX1_grow 20 = .ok (.iastore, 1) := by decide +kernel
theorem dX1_grow_21 : decode cX1_grow 21 = .ok (.aload_n 0, 1) := by decide +kernel
theorem dX1_grow_22 : decode cX1_grow 22 = .ok (.getfield 15, 3) := by decide +kernel
theorem dX1_grow_25 : decode cX1_grow 25 = .ok (.aload_n 0, 1) := by decide +kernel
theorem dX1_grow_26 : decode cX1_grow 26 = .ok (.getfield 21, 3) := by decide +kernel
theorem dX1_grow_29 : decode cX1_grow 29 = .ok (.iconst 0, 1) := by decide +kernel
theorem dX1_grow_30 : decode cX1_grow 30 = .ok (.iastore, 1) := by decide +kernel
theorem dX1_grow_31 : decode cX1_grow 31 = .ok (.aload_n 0, 1) := by decide +kernel
theorem dX1_grow_32 : decode cX1_grow 32 = .ok (.getfield 18, 3) := by decide +kernel
theorem dX1_grow_35 : decode cX1_grow 35 = .ok (.aload_n 0, 1) := by decide +kernel
theorem dX1_grow_36 : decode cX1_grow 36 = .ok (.getfield 21, 3) := by decide +kernel
theorem dX1_grow_39 : decode cX1_grow 39 = .ok (.iconst 0, 1) := by decide +kernel
theorem dX1_grow_40 : decode cX1_grow 40 = .ok (.iastore, 1) := by decide +kernel
theorem dX1_grow_41 : decode cX1_grow 41 = .ok (.aload_n 0, 1) := by decide +kernel
theorem dX1_grow_42 : decode cX1_grow 42 = .ok (.dup, 1) := by decide +kernel
theorem dX1_grow_43 : decode cX1_grow 43 = .ok (.getfield 21, 3) := by decide +kernel
theorem dX1_grow_46 : decode cX1_grow 46 = .ok (.iconst 1, 1) := by decide +kernel
theorem dX1_grow_47 : decode cX1_grow 47 = .ok (.iadd, 1) := by decide +kernel
theorem dX1_grow_48 : decode cX1_grow 48 = .ok (.putfield 21, 3) := by decide +kernel
theorem dX1_grow_51 : decode cX1_grow 51 = .ok (.iconst 1, 1) := by decide +kernel
theorem dX1_grow_52 : decode cX1_grow 52 = .ok (.ireturn, 1) := by decide +kernel
theorem dX1_target_0 : decode cX1_target 0 = .ok (.aload_n 0, 1) := by decide +kernel
theorem dX1_target_1 : decode cX1_target 1 = .ok (.iload_n 1, 1) := by decide +kernel
theorem dX1_target_2 : decode cX1_target 2 = .ok (.invokevirtual 25, 3) := by decide +kernel
theorem dX1_target_5 : decode cX1_target 5 = .ok (.ifCond .ne 5, 3) := by decide +kernel
theorem dX1_target_8 : decode cX1_target 8 = .ok (.iconst (-1), 1) := by decide +kernel
theorem dX1_target_9 : decode cX1_target 9 = .ok (.ireturn, 1) := by decide +kernel
theorem dX1_target_10 : decode cX1_target 10 = .ok (.iload_n 2, 1) := by decide +kernel
theorem dX1_target_11 : decode cX1_target 11 = .ok (.ifCond .ne 12, 3) := by decide +kernel
theorem dX1_target_14 : decode cX1_target 14 = .ok (.aload_n 0, 1) := by decide +kernel
theorem dX1_target_15 : decode cX1_target 15 = .ok (.getfield 15, 3) := by decide +kernel
theorem dX1_target_18 : decode cX1_target 18 = .ok (.iload_n 1, 1) := by decide +kernel
theorem dX1_target_19 : decode cX1_target 19 = .ok (.iaload, 1) := by decide +kernel
theorem dX1_target_20 : decode cX1_target 20 = .ok (.goto 9, 3) := by decide +kernel
theorem dX1_target_23 : decode cX1_target 23 = .ok (.aload_n 0, 1) := by decide +kernel
theorem dX1_target_24 : decode cX1_target 24 = .ok (.getfield 18, 3) := by decide +kernel
theorem dX1_target_27 : decode cX1_target 27 = .ok (.iload_n 1, 1) := by decide +kernel
theorem dX1_target_28 : decode cX1_target 28 = .ok (.iaload, 1) := by decide +kernel
theorem dX1_target_29 : decode cX1_target 29 = .ok (.ireturn, 1) := by decide +kernel
theorem dX1_put_0 : decode cX1_put 0 = .ok (.aload_n 0, 1) := by decide +kernel
theorem dX1_put_1 : decode cX1_put 1 = .ok (.iload_n 1, 1) := by decide +kernel
theorem dX1_put_2 : decode cX1_put 2 = .ok (.invokevirtual 25, 3) := by decide +kernel
theorem dX1_put_5 : decode cX1_put 5 = .ok (.ifCond .ne 4, 3) := by decide +kernel
theorem dX1_put_8 : decode cX1_put 8 = .ok (.return_, 1) := by decide +kernel
theorem dX1_put_9 : decode cX1_put 9 = .ok (.iload_n 2, 1) := by decide +kernel
theorem dX1_put_10 : decode cX1_put 10 = .ok (.ifCond .ne 13, 3) := by decide +kernel
theorem dX1_put_13 : decode cX1_put 13 = .ok (.aload_n 0, 1) := by decide +kernel
theorem dX1_put_14 : decode cX1_put 14 = .ok (.getfield 15, 3) := by decide +kernel
theorem dX1_put_17 : decode cX1_put 17 = .ok (.iload_n 1, 1) := by decide +kernel
theorem dX1_put_18 : decode cX1_put 18 = .ok (.iload_n 3, 1) := by decide +kernel
theorem dX1_put_19 : decode cX1_put 19 = .ok (.iastore, 1) := by decide +kernel
theorem dX1_put_20 : decode cX1_put 20 = .ok (.goto 10, 3) := by decide +kernel
theorem dX1_put_23 : decode cX1_put 23 = .ok (.aload_n 0, 1) := by decide +kernel
theorem dX1_put_24 : decode cX1_put 24 = .ok (.getfield 18, 3) := by decide +kernel
theorem dX1_put_27 : decode cX1_put 27 = .ok (.iload_n 1, 1) := by decide +kernel
theorem dX1_put_28 : decode cX1_put 28 = .ok (.iload_n 3, 1) := by decide +kernel
theorem dX1_put_29 : decode cX1_put 29 = .ok (.iastore, 1) := by decide +kernel
theorem dX1_put_30 : decode cX1_put 30 = .ok (.return_, 1) := by decide +kernel
theorem dX1_copyFrom_0 : decode cX1_copyFrom 0 = .ok (.aload_n 0, 1) := by decide +kernel
theorem dX1_copyFrom_1 : decode cX1_copyFrom 1 = .ok (.aload_n 1, 1) := by decide +kernel
theorem dX1_copyFrom_2 : decode cX1_copyFrom 2 = .ok (.getfield 21, 3) := by decide +kernel
theorem dX1_copyFrom_5 : decode cX1_copyFrom 5 = .ok (.putfield 21, 3) := by decide +kernel
theorem dX1_copyFrom_8 : decode cX1_copyFrom 8 = .ok (.aload_n 1, 1) := by decide +kernel
theorem dX1_copyFrom_9 : decode cX1_copyFrom 9 = .ok (.getfield 9, 3) := by decide +kernel
theorem dX1_copyFrom_12 : decode cX1_copyFrom 12 = .ok (.iconst 0, 1) := by decide +kernel
theorem dX1_copyFrom_13 : decode cX1_copyFrom 13 = .ok (.aload_n 0, 1) := by decide +kernel
theorem dX1_copyFrom_14 : decode cX1_copyFrom 14 = .ok (.getfield 9, 3) := by decide +kernel
theorem dX1_copyFrom_17 : decode cX1_copyFrom 17 = .ok (.iconst 0, 1) := by decide +kernel
theorem dX1_copyFrom_18 : decode cX1_copyFrom 18 = .ok (.bipush 8, 2) := by decide +kernel
theorem dX1_copyFrom_20 : decode cX1_copyFrom 20 = .ok (.invokestatic 29, 3) := by decide +kernel
theorem dX1_copyFrom_23 : decode cX1_copyFrom 23 = .ok (.aload_n 1, 1) := by decide +kernel
theorem dX1_copyFrom_24 : decode cX1_copyFrom 24 = .ok (.getfield 15, 3) := by decide +kernel
theorem dX1_copyFrom_27 : decode cX1_copyFrom 27 = .ok (.iconst 0, 1) := by decide +kernel
theorem dX1_copyFrom_28 : decode cX1_copyFrom 28 = .ok (.aload_n 0, 1) := by decide +kernel
theorem dX1_copyFrom_29 : decode cX1_copyFrom 29 = .ok (.getfield 15, 3) := by decide +kernel
theorem dX1_copyFrom_32 : decode cX1_copyFrom 32 = .ok (.iconst 0, 1) := by decide +kernel
theorem dX1_copyFrom_33 : decode cX1_copyFrom 33 = .ok (.bipush 8, 2) := by decide +kernel
theorem dX1_copyFrom_35 : decode cX1_copyFrom 35 = .ok (.invokestatic 29, 3) := by decide +kernel
theorem dX1_copyFrom_38 : decode cX1_copyFrom 38 = .ok (.aload_n 1, 1) := by decide +kernel
theorem dX1_copyFrom_39 : decode cX1_copyFrom 39 = .ok (.getfield 18, 3) := by decide +kernel
theorem dX1_copyFrom_42 : decode cX1_copyFrom 42 = .ok (.iconst 0, 1) := by decide +kernel
theorem dX1_copyFrom_43 : decode cX1_copyFrom 43 = .ok (.aload_n 0, 1) := by decide +kernel
theorem dX1_copyFrom_44 : decode cX1_copyFrom 44 = .ok (.getfield 18, 3) := by decide +kernel
theorem dX1_copyFrom_47 : decode cX1_copyFrom 47 = .ok (.iconst 0, 1) := by decide +kernel
theorem dX1_copyFrom_48 : decode cX1_copyFrom 48 = .ok (.bipush 8, 2) := by decide +kernel
theorem dX1_copyFrom_50 : decode cX1_copyFrom 50 = .ok (.invokestatic 29, 3) := by decide +kernel
theorem dX1_copyFrom_53 : decode cX1_copyFrom 53 = .ok (.return_, 1) := by decide +kernel
theorem dX2_init_0 : decode cX2_init 0 = .ok (.aload_n 0, 1) := by decide +kernel
theorem dX2_init_1 : decode cX2_init 1 = .ok (.invokespecial 3, 3) := by decide +kernel
theorem dX2_init_4 : decode cX2_init 4 = .ok (.aload_n 0, 1) := by decide +kernel
theorem dX2_init_5 : decode cX2_init 5 = .ok (.bipush 34, 2) := by decide +kernel
theorem dX2_init_7 : decode cX2_init 7 = .ok (.newarray .int, 2) := by decide +kernel
theorem dX2_init_9 : decode cX2_init 9 = .ok (.putfield 9, 3) := by decide +kernel
theorem dX2_init_12 : decode cX2_init 12 = .ok (.return_, 1) := by decide +kernel
theorem dX2_add_0 : decode cX2_add 0 = .ok (.aload_n 0, 1) := by decide +kernel
theorem dX2_add_1 : decode cX2_add 1 = .ok (.getfield 15, 3) := by decide +kernel
theorem dX2_add_4 : decode cX2_add 4 = .ok (.aload_n 0, 1) := by decide +kernel
theorem dX2_add_5 : decode cX2_add 5 = .ok (.getfield 9, 3) := by decide +kernel
theorem dX2_add_8 : decode cX2_add 8 = .ok (.arraylength, 1) := by decide +kernel
theorem dX2_add_9 : decode cX2_add 9 = .ok (.if_icmp .lt 5, 3) := by decide +kernel
theorem dX2_add_12 : decode cX2_add 12 = .ok (.iconst 0, 1) := by decide +kernel
theorem dX2_add_13 : decode cX2_add 13 = .ok (.ireturn, 1) := by decide +kernel
theorem dX2_add_14 : decode cX2_add 14 = .ok (.aload_n 0, 1) := by decide +kernel
theorem dX2_add_15 : decode cX2_add 15 = .ok (.getfield 9, 3) := by decide +kernel
theorem dX2_add_18 : decode cX2_add 18 = .ok (.aload_n 0, 1) := by decide +kernel
theorem dX2_add_19 : decode cX2_add 19 = .ok (.getfield 15, 3) := by decide +kernel
theorem dX2_add_22 : decode cX2_add 22 = .ok (.iload_n 1, 1) := by decide +kernel
theorem dX2_add_23 : decode cX2_add 23 = .ok (.iastore, 1) := by decide +kernel
theorem dX2_add_24 : decode cX2_add 24 = .ok (.aload_n 0, 1) := by decide +kernel
theorem dX2_add_25 : decode cX2_add 25 = .ok (.dup, 1) := by decide +kernel
theorem dX2_add_26 : decode cX2_add 26 = .ok (.getfield 15, 3) := by decide +kernel
theorem dX2_add_29 : decode cX2_add 29 = .ok (.iconst 1, 1) := by decide +kernel
theorem dX2_add_30 : decode cX2_add 30 = .ok (.iadd, 1) := by decide +kernel
theorem dX2_add_31 : decode cX2_add 31 = .ok (.putfield 15, 3) := by decide +kernel
theorem dX2_add_34 : decode cX2_add 34 = .ok (.iconst 1, 1) := by decide +kernel
theorem dX2_add_35 : decode cX2_add 35 = .ok (.ireturn, 1) := by decide +kernel
theorem dX2_readInto_0 : decode cX2_readInto 0 = .ok (.aload_n 1, 1) := by decide +kernel
theorem dX2_readInto_1 : decode cX2_readInto 1 = .ok (.iconst 0, 1) := by decide +kernel
theorem dX2_readInto_2 : decode cX2_readInto 2 = .ok (.putfield 19, 3) := by decide +kernel
theorem dX2_readInto_5 : decode cX2_readInto 5 = .ok (.aload_n 0, 1) := by decide +kernel
theorem dX2_readInto_6 : decode cX2_readInto 6 = .ok (.iconst 0, 1) := by decide +kernel
theorem dX2_readInto_7 : decode cX2_readInto 7 = .ok (.putfield 24, 3) := by decide +kernel
theorem dX2_readInto_10 : decode cX2_readInto 10 = .ok (.aload_n 0, 1) := by decide +kernel
theorem dX2_readInto_11 : decode cX2_readInto 11 = .ok (.iconst 0, 1) := by decide +kernel
theorem dX2_readInto_12 : decode cX2_readInto 12 = .ok (.putfield 28, 3) := by decide +kernel
theorem dX2_readInto_15 : decode cX2_readInto 15 = .ok (.iconst 1, 1) := by decide +kernel
theorem dX2_readInto_16 : decode cX2_readInto 16 = .ok (.istore_n 2, 1) := by decide +kernel
theorem dX2_readInto_17 : decode cX2_readInto 17 = .ok (.iconst 0, 1) := by decide +kernel
theorem dX2_readInto_18 : decode cX2_readInto 18 = .ok (.istore_n 3, 1) := by decide +kernel
theorem dX2_readInto_19 : decode cX2_readInto 19 = .ok (.iconst 0, 1) := by decide +kernel
theorem dX2_readInto_20 : decode cX2_readInto 20 = .ok (.istore 4, 2) := by decide +kernel
theorem dX2_readInto_22 : decode cX2_readInto 22 = .ok (.iconst 0, 1) := by decide +kernel
theorem dX2_readInto_23 : decode cX2_readInto 23 = .ok (.istore 5, 2) := by decide +kernel
theorem dX2_readInto_25 : decode cX2_readInto 25 = .ok (.iload 5, 2) := by decide +kernel
theorem dX2_readInto_27 : decode cX2_readInto 27 = .ok (.aload_n 0, 1) := by decide +kernel
theorem dX2_readInto_28 : decode cX2_readInto 28 = .ok (.getfield 15, 3) := by decide +kernel
theorem dX2_readInto_31 : decode cX2_readInto 31 = .ok (.if_icmp .ge 148, 3) := by decide +kernel
theorem dX2_readInto_34 : decode cX2_readInto 34 = .ok (.aload_n 0, 1) := by decide +kernel
theorem dX2_readInto_35 : decode cX2_readInto 35 = .ok (.getfield 9, 3) := by decide +kernel
theorem dX2_readInto_38 : decode cX2_readInto 38 = .ok (.iload 5, 2) := by decide +kernel
theorem dX2_readInto_40 : decode cX2_readInto 40 = .ok (.iaload, 1) := by decide +kernel
theorem dX2_readInto_41 : decode cX2_readInto 41 = .ok (.istore 6, 2) := by decide +kernel
theorem dX2_readInto_43 : decode cX2_readInto 43 = .ok (.iload_n 3, 1) := by decide +kernel
theorem dX2_readInto_44 : decode cX2_readInto 44 = .ok (.iload 4, 2) := by decide +kernel
theorem dX2_readInto_46 : decode cX2_readInto 46 = .ok (.if_icmp .ge 58, 3) := by decide +kernel
theorem dX2_readInto_49 : decode cX2_readInto 49 = .ok (.iload 6, 2) := by decide +kernel
theorem dX2_readInto_51 : decode cX2_readInto 51 = .ok (.bipush 48, 2) := by decide +kernel
theorem dX2_readInto_53 : decode cX2_readInto 53 = .ok (.if_icmp .lt 10, 3) := by decide +kernel
theorem dX2_readInto_56 : decode cX2_readInto 56 = .ok (.iload 6, 2) := by decide +kernel
theorem dX2_readInto_58 : decode cX2_readInto 58 = .ok (.bipush 55, 2) := by decide +kernel
theorem dX2_readInto_60 : decode cX2_readInto 60 = .ok (.if_icmp .le 6, 3) := by decide +kernel
theorem dX2_readInto_63 : decode cX2_readInto 63 = .ok (.iload 5, 2) := by decide +kernel
theorem dX2_readInto_65 : decode cX2_readInto 65 = .ok (.ireturn, 1) := by decide +kernel
theorem dX2_readInto_66 : decode cX2_readInto 66 = .ok (.aload_n 1, 1) := by decide +kernel
theorem dX2_readInto_67 : decode cX2_readInto 67 = .ok (.aload_n 1, 1) := by decide +kernel
theorem dX2_readInto_68 : decode cX2_readInto 68 = .ok (.getfield 19, 3) := by decide +kernel
theorem dX2_readInto_71 : decode cX2_readInto 71 = .ok (.iconst 1, 1) := by decide +kernel
theorem dX2_readInto_72 : decode cX2_readInto 72 = .ok (.isub, 1) := by decide +kernel
theorem dX2_readInto_73 : decode cX2_readInto 73 = .ok (.iload_n 3, 1) := by decide +kernel
theorem dX2_readInto_74 : decode cX2_readInto 74 = .ok (.iload 6, 2) := by decide +kernel
theorem dX2_readInto_76 : decode cX2_readInto 76 = .ok (.bipush 48, 2) := by decide +kernel
theorem dX2_readInto_78 : decode cX2_readInto 78 = .ok (.isub, 1) := by decide +kernel
theorem dX2_readInto_79 : decode cX2_readInto 79 = .ok (.invokevirtual 31, 3) := by decide +kernel
theorem dX2_readInto_82 : decode cX2_readInto 82 = .ok (.aload_n 0, 1) := by decide +kernel
theorem dX2_readInto_83 : decode cX2_readInto 83 = .ok (.aload_n 0, 1) := by decide +kernel
theorem dX2_readInto_84 : decode cX2_readInto 84 = .ok (.getfield 28, 3) := by decide +kernel
theorem dX2_readInto_87 : decode cX2_readInto 87 = .ok (.iload 6, 2) := by decide +kernel
theorem dX2_readInto_89 : decode cX2_readInto 89 = .ok (.bipush 48, 2) := by decide +kernel
theorem dX2_readInto_91 : decode cX2_readInto 91 = .ok (.isub, 1) := by decide +kernel
theorem dX2_readInto_92 : decode cX2_readInto 92 = .ok (.invokestatic 35, 3) := by decide +kernel
theorem dX2_readInto_95 : decode cX2_readInto 95 = .ok (.putfield 28, 3) := by decide +kernel
theorem dX2_readInto_98 : decode cX2_readInto 98 = .ok (.iinc 3 1, 3) := by decide +kernel
theorem dX2_readInto_101 : decode cX2_readInto 101 = .ok (.goto 72, 3) := by decide +kernel
theorem dX2_readInto_104 : decode cX2_readInto 104 = .ok (.iload_n 2, 1) := by decide +kernel
theorem dX2_readInto_105 : decode cX2_readInto 105 = .ok (.ifCond .eq 47, 3) := by decide +kernel
theorem dX2_readInto_108 : decode cX2_readInto 108 = .ok (.ldc 41, 2) := by decide +kernel
theorem dX2_readInto_110 : decode cX2_readInto 110 = .ok (.iload 6, 2) := by decide +kernel
theorem dX2_readInto_112 : decode cX2_readInto 112 = .ok (.i2c, 1) := by decide +kernel
theorem dX2_readInto_113 : decode cX2_readInto 113 = .ok (.invokevirtual 43, 3) := by decide +kernel
theorem dX2_readInto_116 : decode cX2_readInto 116 = .ok (.istore 7, 2) := by decide +kernel
theorem dX2_readInto_118 : decode cX2_readInto 118 = .ok (.iload 7, 2) := by decide +kernel
theorem dX2_readInto_120 : decode cX2_readInto 120 = .ok (.invokestatic 49, 3) := by decide +kernel
theorem dX2_readInto_123 : decode cX2_readInto 123 = .ok (.ifCond .eq 12, 3) := by decide +kernel
theorem dX2_readInto_126 : decode cX2_readInto 126 = .ok (.aload_n 1, 1) := by decide +kernel
theorem dX2_readInto_127 : decode cX2_readInto 127 = .ok (.iload 7, 2) := by decide +kernel
theorem dX2_readInto_129 : decode cX2_readInto 129 = .ok (.invokevirtual 53, 3) := by decide +kernel
theorem dX2_readInto_132 : decode cX2_readInto 132 = .ok (.ifCond .ne 6, 3) := by decide +kernel
theorem dX2_readInto_135 : decode cX2_readInto 135 = .ok (.iload 5, 2) := by decide +kernel
theorem dX2_readInto_137 : decode cX2_readInto 137 = .ok (.ireturn, 1) := by decide +kernel
theorem dX2_readInto_138 : decode cX2_readInto 138 = .ok (.iconst 0, 1) := by decide +kernel
theorem dX2_readInto_139 : decode cX2_readInto 139 = .ok (.istore_n 3, 1) := by decide +kernel
theorem dX2_readInto_140 : decode cX2_readInto 140 = .ok (.iload 7, 2) := by decide +kernel
theorem dX2_readInto_142 : decode cX2_readInto 142 = .ok (.invokestatic 56, 3) := by decide +kernel
theorem dX2_readInto_145 : decode cX2_readInto 145 = .ok (.istore 4, 2) := by decide +kernel
theorem dX2_readInto_147 : decode cX2_readInto 147 = .ok (.iconst 0, 1) := by decide +kernel
theorem dX2_readInto_148 : decode cX2_readInto 148 = .ok (.istore_n 2, 1) := by decide +kernel
theorem dX2_readInto_149 : decode cX2_readInto 149 = .ok (.goto 24, 3) := by decide +kernel
theorem dX2_readInto_152 : decode cX2_readInto 152 = .ok (.iload 6, 2) := by decide +kernel
theorem dX2_readInto_154 : decode cX2_readInto 154 = .ok (.bipush 44, 2) := by decide +kernel
theorem dX2_readInto_156 : decode cX2_readInto 156 = .ok (.if_icmp .ne 12, 3) := by decide +kernel
theorem dX2_readInto_159 : decode cX2_readInto 159 = .ok (.aload_n 1, 1) := by decide +kernel
theorem dX2_readInto_160 : decode cX2_readInto 160 = .ok (.getfield 19, 3) := by decide +kernel
theorem dX2_readInto_163 : decode cX2_readInto 163 = .ok (.bipush 8, 2) := by decide +kernel
theorem dX2_readInto_165 : decode cX2_readInto 165 = .ok (.if_icmp .lt 6, 3) := by decide +kernel
theorem dX2_readInto_168 : decode cX2_readInto 168 = .ok (.iload 5, 2) := by decide +kernel
theorem dX2_readInto_170 : decode cX2_readInto 170 = .ok (.ireturn, 1) := by decide +kernel
theorem dX2_readInto_171 : decode cX2_readInto 171 = .ok (.iconst 1, 1) := by decide +kernel
theorem dX2_readInto_172 : decode cX2_readInto 172 = .ok (.istore_n 2, 1) := by decide +kernel
theorem dX2_readInto_173 : decode cX2_readInto 173 = .ok (.iinc 5 1, 3) := by decide +kernel
theorem dX2_readInto_176 : decode cX2_readInto 176 = .ok (.goto (-151), 3) := by decide +kernel
theorem dX2_readInto_179 : decode cX2_readInto 179 = .ok (.aload_n 0, 1) := by decide +kernel
theorem dX2_readInto_180 : decode cX2_readInto 180 = .ok (.iload_n 2, 1) := by decide +kernel
theorem dX2_readInto_181 : decode cX2_readInto 181 = .ok (.ifCond .ne 13, 3) := by decide +kernel
theorem dX2_readInto_184 : decode cX2_readInto 184 = .ok (.iload_n 3, 1) := by decide +kernel
theorem dX2_readInto_185 : decode cX2_readInto 185 = .ok (.iload 4, 2) := by decide +kernel
theorem dX2_readInto_187 : decode cX2_readInto 187 = .ok (.if_icmp .ne 7, 3) := by decide +kernel
theorem dX2_readInto_190 : decode cX2_readInto 190 = .ok (.iconst 1, 1) := by decide +kernel
theorem dX2_readInto_191 : decode cX2_readInto 191 = .ok (.goto 4, 3) := by decide +kernel
theorem dX2_readInto_194 : decode cX2_readInto 194 = .ok (.iconst 0, 1) := by decide +kernel
theorem dX2_readInto_195 : decode cX2_readInto 195 = .ok (.putfield 24, 3) := by decide +kernel
theorem dX2_readInto_198 : decode cX2_readInto 198 = .ok (.aload_n 0, 1) := by decide +kernel
theorem dX2_readInto_199 : decode cX2_readInto 199 = .ok (.getfield 15, 3) := by decide +kernel
theorem dX2_readInto_202 : decode cX2_readInto 202 = .ok (.ireturn, 1) := by decide +kernel
theorem dX3_init_0 : decode cX3_init 0 = .ok (.aload_n 0, 1) := by decide +kernel
theorem dX3_init_1 : decode cX3_init 1 = .ok (.invokespecial 3, 3) := by decide +kernel
theorem dX3_init_4 : decode cX3_init 4 = .ok (.aload_n 0, 1) := by decide +kernel
theorem dX3_init_5 : decode cX3_init 5 = .ok (.bipush 6, 2) := by decide +kernel
theorem dX3_init_7 : decode cX3_init 7 = .ok (.newarray .int, 2) := by decide +kernel
theorem dX3_init_9 : decode cX3_init 9 = .ok (.putfield 9, 3) := by decide +kernel
theorem dX3_init_12 : decode cX3_init 12 = .ok (.aload_n 0, 1) := by decide +kernel
theorem dX3_init_13 : decode cX3_init 13 = .ok (.bipush 6, 2) := by decide +kernel
theorem dX3_init_15 : decode cX3_init 15 = .ok (.newarray .int, 2) := by decide +kernel
theorem dX3_init_17 : decode cX3_init 17 = .ok (.putfield 15, 3) := by decide +kernel
theorem dX3_init_20 : decode cX3_init 20 = .ok (.aload_n 0, 1) := by decide +kernel
theorem dX3_init_21 : decode cX3_init 21 = .ok (.bipush 6, 2) := by decide +kernel
theorem dX3_init_23 : decode cX3_init 23 = .ok (.newarray .int, 2) := by decide +kernel
theorem dX3_init_25 : decode cX3_init 25 = .ok (.putfield 18, 3) := by decide +kernel
theorem dX3_init_28 : decode cX3_init 28 = .ok (.return_, 1) := by decide +kernel
theorem dX3_add_0 : decode cX3_add 0 = .ok (.aload_n 0, 1) := by decide +kernel
theorem dX3_add_1 : decode cX3_add 1 = .ok (.getfield 21, 3) := by decide +kernel
theorem dX3_add_4 : decode cX3_add 4 = .ok (.bipush 6, 2) := by decide +kernel
theorem dX3_add_6 : decode cX3_add 6 = .ok (.if_icmp .lt 5, 3) := by decide +kernel
theorem dX3_add_9 : decode cX3_add 9 = .ok (.iconst 0, 1) := by decide +kernel
theorem dX3_add_10 : decode cX3_add 10 = .ok (.ireturn, 1) := by decide +kernel
theorem dX3_add_11 : decode cX3_add 11 = .ok (.aload_n 0, 1) := by decide +kernel
theorem dX3_add_12 : decode cX3_add 12 = .ok (.getfield 9, 3) := by decide +kernel
theorem dX3_add_15 : decode cX3_add 15 = .ok (.aload_n 0, 1) := by decide +kernel
theorem dX3_add_16 : decode cX3_add 16 = .ok (.getfield 21, 3) := by decide +kernel
theorem dX3_add_19 : decode cX3_add 19 = .ok (.iload_n 1, 1) := by decide +kernel
theorem dX3_add_20 : decode cX3_add 20 = .ok (.iastore, 1) := by decide +kernel
theorem dX3_add_21 : decode cX3_add 21 = .ok (.aload_n 0, 1) := by decide +kernel
theorem dX3_add_22 : decode cX3_add 22 = .ok (.getfield 15, 3) := by decide +kernel
theorem dX3_add_25 : decode cX3_add 25 = .ok (.aload_n 0, 1) := by decide +kernel
theorem dX3_add_26 : decode cX3_add 26 = .ok (.getfield 21, 3) := by decide +kernel
theorem dX3_add_29 : decode cX3_add 29 = .ok (.iload_n 2, 1) := by decide +kernel
theorem dX3_add_30 : decode cX3_add 30 = .ok (.iastore, 1) := by decide +kernel
theorem dX3_add_31 : decode cX3_add 31 = .ok (.aload_n 0, 1) := by decide +kernel
theorem dX3_add_32 : decode cX3_add 32 = .ok (.getfield 18, 3) := by decide +kernel
theorem dX3_add_35 : decode cX3_add 35 = .ok (.aload_n 0, 1) := by decide +kernel
theorem dX3_add_36 : decode cX3_add 36 = .ok (.getfield 21, 3) := by decide +kernel
theorem dX3_add_39 : decode cX3_add 39 = .ok (.iload_n 3, 1) := by decide +kernel
theorem dX3_add_40 : decode cX3_add 40 = .ok (.iastore, 1) := by decide +kernel
theorem dX3_add_41 : decode cX3_add 41 = .ok (.aload_n 0, 1) := by decide +kernel
theorem dX3_add_42 : decode cX3_add 42 = .ok (.dup, 1) := by decide +kernel
theorem dX3_add_43 : decode cX3_add 43 = .ok (.getfield 21, 3) := by decide +kernel
theorem dX3_add_46 : decode cX3_add 46 = .ok (.iconst 1, 1) := by decide +kernel
theorem dX3_add_47 : decode cX3_add 47 = .ok (.iadd, 1) := by decide +kernel
theorem dX3_add_48 : decode cX3_add 48 = .ok (.putfield 21, 3) := by decide +kernel
theorem dX3_add_51 : decode cX3_add 51 = .ok (.iconst 1, 1) := by decide +kernel
theorem dX3_add_52 : decode cX3_add 52 = .ok (.ireturn, 1) := by decide +kernel
theorem dX3_copyFrom_0 : decode cX3_copyFrom 0 = .ok (.aload_n 0, 1) := by decide +kernel
theorem dX3_copyFrom_1 : decode cX3_copyFrom 1 = .ok (.aload_n 1, 1) := by decide +kernel
theorem dX3_copyFrom_2 : decode cX3_copyFrom 2 = .ok (.getfield 21, 3) := by decide +kernel
theorem dX3_copyFrom_5 : decode cX3_copyFrom 5 = .ok (.putfield 21, 3) := by decide +kernel
theorem dX3_copyFrom_8 : decode cX3_copyFrom 8 = .ok (.aload_n 1, 1) := by decide +kernel
theorem dX3_copyFrom_9 : decode cX3_copyFrom 9 = .ok (.getfield 9, 3) := by decide +kernel
theorem dX3_copyFrom_12 : decode cX3_copyFrom 12 = .ok (.iconst 0, 1) := by decide +kernel
theorem dX3_copyFrom_13 : decode cX3_copyFrom 13 = .ok (.aload_n 0, 1) := by decide +kernel
theorem dX3_copyFrom_14 : decode cX3_copyFrom 14 = .ok (.getfield 9, 3) := by decide +kernel
theorem dX3_copyFrom_17 : decode cX3_copyFrom 17 = .ok (.iconst 0, 1) := by decide +kernel
theorem dX3_copyFrom_18 : decode cX3_copyFrom 18 = .ok (.bipush 6, 2) := by decide +kernel
theorem dX3_copyFrom_20 : decode cX3_copyFrom 20 = .ok (.invokestatic 25, 3) := by decide +kernel
theorem dX3_copyFrom_23 : decode cX3_copyFrom 23 = .ok (.aload_n 1, 1) := by decide +kernel
theorem dX3_copyFrom_24 : decode cX3_copyFrom 24 = .ok (.getfield 15, 3) := by decide +kernel
theorem dX3_copyFrom_27 : decode cX3_copyFrom 27 = .ok (.iconst 0, 1) := by decide +kernel
theorem dX3_copyFrom_28 : decode cX3_copyFrom 28 = .ok (.aload_n 0, 1) := by decide +kernel
theorem dX3_copyFrom_29 : decode cX3_copyFrom 29 = .ok (.getfield 15, 3) := by decide +kernel
theorem dX3_copyFrom_32 : decode cX3_copyFrom 32 = .ok (.iconst 0, 1) := by decide +kernel
theorem dX3_copyFrom_33 : decode cX3_copyFrom 33 = .ok (.bipush 6, 2) := by decide +kernel
theorem dX3_copyFrom_35 : decode cX3_copyFrom 35 = .ok (.invokestatic 25, 3) := by decide +kernel
theorem dX3_copyFrom_38 : decode cX3_copyFrom 38 = .ok (.aload_n 1, 1) := by decide +kernel
theorem dX3_copyFrom_39 : decode cX3_copyFrom 39 = .ok (.getfield 18, 3) := by decide +kernel
theorem dX3_copyFrom_42 : decode cX3_copyFrom 42 = .ok (.iconst 0, 1) := by decide +kernel
theorem dX3_copyFrom_43 : decode cX3_copyFrom 43 = .ok (.aload_n 0, 1) := by decide +kernel
theorem dX3_copyFrom_44 : decode cX3_copyFrom 44 = .ok (.getfield 18, 3) := by decide +kernel
theorem dX3_copyFrom_47 : decode cX3_copyFrom 47 = .ok (.iconst 0, 1) := by decide +kernel
theorem dX3_copyFrom_48 : decode cX3_copyFrom 48 = .ok (.bipush 6, 2) := by decide +kernel
theorem dX3_copyFrom_50 : decode cX3_copyFrom 50 = .ok (.invokestatic 25, 3) := by decide +kernel
theorem dX3_copyFrom_53 : decode cX3_copyFrom 53 = .ok (.return_, 1) := by decide +kernel
theorem dX3_sortsOf_0 : decode cX3_sortsOf 0 = .ok (.bipush 31, 2) := by decide +kernel
theorem dX3_sortsOf_2 : decode cX3_sortsOf 2 = .ok (.istore_n 2, 1) := by decide +kernel
theorem dX3_sortsOf_3 : decode cX3_sortsOf 3 = .ok (.iconst 0, 1) := by decide +kernel
theorem dX3_sortsOf_4 : decode cX3_sortsOf 4 = .ok (.istore_n 3, 1) := by decide +kernel
theorem dX3_sortsOf_5 : decode cX3_sortsOf 5 = .ok (.iload_n 3, 1) := by decide +kernel
theorem dX3_sortsOf_6 : decode cX3_sortsOf 6 = .ok (.aload_n 0, 1) := by decide +kernel
theorem dX3_sortsOf_7 : decode cX3_sortsOf 7 = .ok (.getfield 21, 3) := by decide +kernel
theorem dX3_sortsOf_10 : decode cX3_sortsOf 10 = .ok (.if_icmp .ge 37, 3) := by decide +kernel
theorem dX3_sortsOf_13 : decode cX3_sortsOf 13 = .ok (.aload_n 0, 1) := by decide +kernel
theorem dX3_sortsOf_14 : decode cX3_sortsOf 14 = .ok (.getfield 9, 3) := by decide +kernel
theorem dX3_sortsOf_17 : decode cX3_sortsOf 17 = .ok (.iload_n 3, 1) := by decide +kernel
theorem dX3_sortsOf_18 : decode cX3_sortsOf 18 = .ok (.iaload, 1) := by decide +kernel
theorem dX3_sortsOf_19 : decode cX3_sortsOf 19 = .ok (.iload_n 1, 1) := by decide +kernel
theorem dX3_sortsOf_20 : decode cX3_sortsOf 20 = .ok (.if_icmp .ne 21, 3) := by decide +kernel
theorem dX3_sortsOf_23 : decode cX3_sortsOf 23 = .ok (.iload_n 2, 1) := by decide +kernel
theorem dX3_sortsOf_24 : decode cX3_sortsOf 24 = .ok (.aload_n 0, 1) := by decide +kernel
theorem dX3_sortsOf_25 : decode cX3_sortsOf 25 = .ok (.getfield 15, 3) := by decide +kernel
theorem dX3_sortsOf_28 : decode cX3_sortsOf 28 = .ok (.iload_n 3, 1) := by decide +kernel
theorem dX3_sortsOf_29 : decode cX3_sortsOf 29 = .ok (.iaload, 1) := by decide +kernel
theorem dX3_sortsOf_30 : decode cX3_sortsOf 30 = .ok (.aload_n 0, 1) := by decide +kernel
theorem dX3_sortsOf_31 : decode cX3_sortsOf 31 = .ok (.getfield 18, 3) := by decide +kernel
theorem dX3_sortsOf_34 : decode cX3_sortsOf 34 = .ok (.iload_n 3, 1) := by decide +kernel
theorem dX3_sortsOf_35 : decode cX3_sortsOf 35 = .ok (.iaload, 1) := by decide +kernel
theorem dX3_sortsOf_36 : decode cX3_sortsOf 36 = .ok (.invokestatic 31, 3) := by decide +kernel
theorem dX3_sortsOf_39 : decode cX3_sortsOf 39 = .ok (.iand, 1) := by decide +kernel
theorem dX3_sortsOf_40 : decode cX3_sortsOf 40 = .ok (.istore_n 2, 1) := by decide +kernel
theorem dX3_sortsOf_41 : decode cX3_sortsOf 41 = .ok (.iinc 3 1, 3) := by decide +kernel
theorem dX3_sortsOf_44 : decode cX3_sortsOf 44 = .ok (.goto (-39), 3) := by decide +kernel
theorem dX3_sortsOf_47 : decode cX3_sortsOf 47 = .ok (.iload_n 2, 1) := by decide +kernel
theorem dX3_sortsOf_48 : decode cX3_sortsOf 48 = .ok (.ireturn, 1) := by decide +kernel
theorem dX3_askFor_0 : decode cX3_askFor 0 = .ok (.aload_n 0, 1) := by decide +kernel
theorem dX3_askFor_1 : decode cX3_askFor 1 = .ok (.iload_n 1, 1) := by decide +kernel
theorem dX3_askFor_2 : decode cX3_askFor 2 = .ok (.invokevirtual 35, 3) := by decide +kernel
theorem dX3_askFor_5 : decode cX3_askFor 5 = .ok (.istore_n 2, 1) := by decide +kernel
theorem dX3_askFor_6 : decode cX3_askFor 6 = .ok (.iconst (-1), 1) := by decide +kernel
theorem dX3_askFor_7 : decode cX3_askFor 7 = .ok (.istore_n 3, 1) := by decide +kernel
theorem dX3_askFor_8 : decode cX3_askFor 8 = .ok (.bipush 6, 2) := by decide +kernel
theorem dX3_askFor_10 : decode cX3_askFor 10 = .ok (.istore 4, 2) := by decide +kernel
theorem dX3_askFor_12 : decode cX3_askFor 12 = .ok (.iconst 1, 1) := by decide +kernel
theorem dX3_askFor_13 : decode cX3_askFor 13 = .ok (.istore 5, 2) := by decide +kernel
theorem dX3_askFor_15 : decode cX3_askFor 15 = .ok (.iload 5, 2) := by decide +kernel
theorem dX3_askFor_17 : decode cX3_askFor 17 = .ok (.iconst 3, 1) := by decide +kernel
theorem dX3_askFor_18 : decode cX3_askFor 18 = .ok (.if_icmp .gt 64, 3) := by decide +kernel
theorem dX3_askFor_21 : decode cX3_askFor 21 = .ok (.iload_n 2, 1) := by decide +kernel
theorem dX3_askFor_22 : decode cX3_askFor 22 = .ok (.ifCond .eq 60, 3) := by decide +kernel
theorem dX3_askFor_25 : decode cX3_askFor 25 = .ok (.iconst 0, 1) := by decide +kernel
theorem dX3_askFor_26 : decode cX3_askFor 26 = .ok (.istore 6, 2) := by decide +kernel
theorem dX3_askFor_28 : decode cX3_askFor 28 = .ok (.iconst 0, 1) := by decide +kernel
theorem dX3_askFor_29 : decode cX3_askFor 29 = .ok (.istore 7, 2) := by decide +kernel
theorem dX3_askFor_31 : decode cX3_askFor 31 = .ok (.iload 7, 2) := by decide +kernel
theorem dX3_askFor_33 : decode cX3_askFor 33 = .ok (.iconst 2, 1) := by decide +kernel
theorem dX3_askFor_34 : decode cX3_askFor 34 = .ok (.if_icmp .gt 28, 3) := by decide +kernel
theorem dX3_askFor_37 : decode cX3_askFor 37 = .ok (.iload 6, 2) := by decide +kernel
theorem dX3_askFor_39 : decode cX3_askFor 39 = .ok (.iload_n 2, 1) := by decide +kernel
theorem dX3_askFor_40 : decode cX3_askFor 40 = .ok (.iload 5, 2) := by decide +kernel
theorem dX3_askFor_42 : decode cX3_askFor 42 = .ok (.iload 7, 2) := by decide +kernel
theorem dX3_askFor_44 : decode cX3_askFor 44 = .ok (.invokestatic 31, 3) := by decide +kernel
theorem dX3_askFor_47 : decode cX3_askFor 47 = .ok (.iand, 1) := by decide +kernel
theorem dX3_askFor_48 : decode cX3_askFor 48 = .ok (.invokestatic 39, 3) := by decide +kernel
theorem dX3_askFor_51 : decode cX3_askFor 51 = .ok (.invokestatic 44, 3) := by decide +kernel
theorem dX3_askFor_54 : decode cX3_askFor 54 = .ok (.istore 6, 2) := by decide +kernel
theorem dX3_askFor_56 : decode cX3_askFor 56 = .ok (.iinc 7 1, 3) := by decide +kernel
theorem dX3_askFor_59 : decode cX3_askFor 59 = .ok (.goto (-28), 3) := by decide +kernel
theorem dX3_askFor_62 : decode cX3_askFor 62 = .ok (.iload 6, 2) := by decide +kernel
theorem dX3_askFor_64 : decode cX3_askFor 64 = .ok (.iload 4, 2) := by decide +kernel
theorem dX3_askFor_66 : decode cX3_askFor 66 = .ok (.if_icmp .ge 10, 3) := by decide +kernel
theorem dX3_askFor_69 : decode cX3_askFor 69 = .ok (.iload 6, 2) := by decide +kernel
theorem dX3_askFor_71 : decode cX3_askFor 71 = .ok (.istore 4, 2) := by decide +kernel
theorem dX3_askFor_73 : decode cX3_askFor 73 = .ok (.iload 5, 2) := by decide +kernel
theorem dX3_askFor_75 : decode cX3_askFor 75 = .ok (.istore_n 3, 1) := by decide +kernel
theorem dX3_askFor_76 : decode cX3_askFor 76 = .ok (.iinc 5 1, 3) := by decide +kernel
theorem dX3_askFor_79 : decode cX3_askFor 79 = .ok (.goto (-64), 3) := by decide +kernel
theorem dX3_askFor_82 : decode cX3_askFor 82 = .ok (.iload_n 3, 1) := by decide +kernel
theorem dX3_askFor_83 : decode cX3_askFor 83 = .ok (.ireturn, 1) := by decide +kernel
theorem dX3_sortsThatDo_0 : decode cX3_sortsThatDo 0 = .ok (.iconst 0, 1) := by decide +kernel
theorem dX3_sortsThatDo_1 : decode cX3_sortsThatDo 1 = .ok (.istore_n 2, 1) := by decide +kernel
theorem dX3_sortsThatDo_2 : decode cX3_sortsThatDo 2 = .ok (.iconst 0, 1) := by decide +kernel
theorem dX3_sortsThatDo_3 : decode cX3_sortsThatDo 3 = .ok (.istore_n 3, 1) := by decide +kernel
theorem dX3_sortsThatDo_4 : decode cX3_sortsThatDo 4 = .ok (.iload_n 3, 1) := by decide +kernel
theorem dX3_sortsThatDo_5 : decode cX3_sortsThatDo 5 = .ok (.iconst 5, 1) := by decide +kernel
theorem dX3_sortsThatDo_6 : decode cX3_sortsThatDo 6 = .ok (.if_icmp .ge 35, 3) := by decide +kernel
theorem dX3_sortsThatDo_9 : decode cX3_sortsThatDo 9 = .ok (.iload_n 3, 1) := by decide +kernel
theorem dX3_sortsThatDo_10 : decode cX3_sortsThatDo 10 = .ok (.iload_n 0, 1) := by decide +kernel
theorem dX3_sortsThatDo_11 : decode cX3_sortsThatDo 11 = .ok (.iconst 0, 1) := by decide +kernel
theorem dX3_sortsThatDo_12 : decode cX3_sortsThatDo 12 = .ok (.invokestatic 49, 3) := by decide +kernel
theorem dX3_sortsThatDo_15 : decode cX3_sortsThatDo 15 = .ok (.iload_n 1, 1) := by decide +kernel
theorem dX3_sortsThatDo_16 : decode cX3_sortsThatDo 16 = .ok (.if_icmp .eq 13, 3) := by decide +kernel
theorem dX3_sortsThatDo_19 : decode cX3_sortsThatDo 19 = .ok (.iload_n 3, 1) := by decide +kernel
theorem dX3_sortsThatDo_20 : decode cX3_sortsThatDo 20 = .ok (.iload_n 0, 1) := by decide +kernel
theorem dX3_sortsThatDo_21 : decode cX3_sortsThatDo 21 = .ok (.iconst 1, 1) := by decide +kernel
theorem dX3_sortsThatDo_22 : decode cX3_sortsThatDo 22 = .ok (.invokestatic 49, 3) := by decide +kernel
theorem dX3_sortsThatDo_25 : decode cX3_sortsThatDo 25 = .ok (.iload_n 1, 1) := by decide +kernel
theorem dX3_sortsThatDo_26 : decode cX3_sortsThatDo 26 = .ok (.if_icmp .ne 9, 3) := by decide +kernel
theorem dX3_sortsThatDo_29 : decode cX3_sortsThatDo 29 = .ok (.iload_n 2, 1) := by decide +kernel
theorem dX3_sortsThatDo_30 : decode cX3_sortsThatDo 30 = .ok (.iconst 1, 1) := by decide +kernel
theorem dX3_sortsThatDo_31 : decode cX3_sortsThatDo 31 = .ok (.iload_n 3, 1) := by decide +kernel
theorem dX3_sortsThatDo_32 : decode cX3_sortsThatDo 32 = .ok (.ishl, 1) := by decide +kernel
theorem dX3_sortsThatDo_33 : decode cX3_sortsThatDo 33 = .ok (.ior, 1) := by decide +kernel
theorem dX3_sortsThatDo_34 : decode cX3_sortsThatDo 34 = .ok (.istore_n 2, 1) := by decide +kernel
theorem dX3_sortsThatDo_35 : decode cX3_sortsThatDo 35 = .ok (.iinc 3 1, 3) := by decide +kernel
theorem dX3_sortsThatDo_38 : decode cX3_sortsThatDo 38 = .ok (.goto (-34), 3) := by decide +kernel
theorem dX3_sortsThatDo_41 : decode cX3_sortsThatDo 41 = .ok (.iload_n 2, 1) := by decide +kernel
theorem dX3_sortsThatDo_42 : decode cX3_sortsThatDo 42 = .ok (.ireturn, 1) := by decide +kernel
theorem dX4_init_0 : decode cX4_init 0 = .ok (.aload_n 0, 1) := by decide +kernel
theorem dX4_init_1 : decode cX4_init 1 = .ok (.invokespecial 3, 3) := by decide +kernel
theorem dX4_init_4 : decode cX4_init 4 = .ok (.aload_n 0, 1) := by decide +kernel
theorem dX4_init_5 : decode cX4_init 5 = .ok (.bipush 72, 2) := by decide +kernel
theorem dX4_init_7 : decode cX4_init 7 = .ok (.newarray .int, 2) := by decide +kernel
theorem dX4_init_9 : decode cX4_init 9 = .ok (.putfield 9, 3) := by decide +kernel
theorem dX4_init_12 : decode cX4_init 12 = .ok (.aload_n 0, 1) := by decide +kernel
theorem dX4_init_13 : decode cX4_init 13 = .ok (.bipush 16, 2) := by decide +kernel
theorem dX4_init_15 : decode cX4_init 15 = .ok (.newarray .int, 2) := by decide +kernel
theorem dX4_init_17 : decode cX4_init 17 = .ok (.putfield 15, 3) := by decide +kernel
theorem dX4_init_20 : decode cX4_init 20 = .ok (.aload_n 0, 1) := by decide +kernel
theorem dX4_init_21 : decode cX4_init 21 = .ok (.aload_n 1, 1) := by decide +kernel
theorem dX4_init_22 : decode cX4_init 22 = .ok (.putfield 18, 3) := by decide +kernel
theorem dX4_init_25 : decode cX4_init 25 = .ok (.aload_n 0, 1) := by decide +kernel
theorem dX4_init_26 : decode cX4_init 26 = .ok (.aload_n 2, 1) := by decide +kernel
theorem dX4_init_27 : decode cX4_init 27 = .ok (.putfield 22, 3) := by decide +kernel
theorem dX4_init_30 : decode cX4_init 30 = .ok (.return_, 1) := by decide +kernel
theorem dX4_write_0 : decode cX4_write 0 = .ok (.aload_n 0, 1) := by decide +kernel
theorem dX4_write_1 : decode cX4_write 1 = .ok (.iconst 0, 1) := by decide +kernel
theorem dX4_write_2 : decode cX4_write 2 = .ok (.putfield 26, 3) := by decide +kernel
theorem dX4_write_5 : decode cX4_write 5 = .ok (.aload_n 0, 1) := by decide +kernel
theorem dX4_write_6 : decode cX4_write 6 = .ok (.iconst 0, 1) := by decide +kernel
theorem dX4_write_7 : decode cX4_write 7 = .ok (.putfield 30, 3) := by decide +kernel
theorem dX4_write_10 : decode cX4_write 10 = .ok (.aload_n 0, 1) := by decide +kernel
theorem dX4_write_11 : decode cX4_write 11 = .ok (.iconst 0, 1) := by decide +kernel
theorem dX4_write_12 : decode cX4_write 12 = .ok (.putfield 33, 3) := by decide +kernel
theorem dX4_write_15 : decode cX4_write 15 = .ok (.aload_n 0, 1) := by decide +kernel
theorem dX4_write_16 : decode cX4_write 16 = .ok (.iconst 0, 1) := by decide +kernel
theorem dX4_write_17 : decode cX4_write 17 = .ok (.putfield 36, 3) := by decide +kernel
theorem dX4_write_20 : decode cX4_write 20 = .ok (.aload_n 0, 1) := by decide +kernel
theorem dX4_write_21 : decode cX4_write 21 = .ok (.iconst 0, 1) := by decide +kernel
theorem dX4_write_22 : decode cX4_write 22 = .ok (.putfield 39, 3) := by decide +kernel
theorem dX4_write_25 : decode cX4_write 25 = .ok (.aload_n 0, 1) := by decide +kernel
theorem dX4_write_26 : decode cX4_write 26 = .ok (.getfield 22, 3) := by decide +kernel
theorem dX4_write_29 : decode cX4_write 29 = .ok (.invokevirtual 42, 3) := by decide +kernel
theorem dX4_write_32 : decode cX4_write 32 = .ok (.ifCond .eq 9, 3) := by decide +kernel
theorem dX4_write_35 : decode cX4_write 35 = .ok (.aload_n 0, 1) := by decide +kernel
theorem dX4_write_36 : decode cX4_write 36 = .ok (.iconst 0, 1) := by decide +kernel
theorem dX4_write_37 : decode cX4_write 37 = .ok (.iconst 0, 1) := by decide +kernel
theorem dX4_write_38 : decode cX4_write 38 = .ok (.invokevirtual 48, 3) := by decide +kernel
theorem dX4_write_41 : decode cX4_write 41 = .ok (.return_, 1) := by decide +kernel
theorem dX4_putTree_0 : decode cX4_putTree 0 = .ok (.aload_n 0, 1) := by decide +kernel
theorem dX4_putTree_1 : decode cX4_putTree 1 = .ok (.getfield 18, 3) := by decide +kernel
theorem dX4_putTree_4 : decode cX4_putTree 4 = .ok (.iload_n 1, 1) := by decide +kernel
theorem dX4_putTree_5 : decode cX4_putTree 5 = .ok (.invokevirtual 52, 3) := by decide +kernel
theorem dX4_putTree_8 : decode cX4_putTree 8 = .ok (.ifCond .eq 9, 3) := by decide +kernel
theorem dX4_putTree_11 : decode cX4_putTree 11 = .ok (.iload_n 2, 1) := by decide +kernel
theorem dX4_putTree_12 : decode cX4_putTree 12 = .ok (.bipush 8, 2) := by decide +kernel
theorem dX4_putTree_14 : decode cX4_putTree 14 = .ok (.if_icmp .lt 4, 3) := by decide +kernel
theorem dX4_putTree_17 : decode cX4_putTree 17 = .ok (.return_, 1) := by decide +kernel
theorem dX4_putTree_18 : decode cX4_putTree 18 = .ok (.aload_n 0, 1) := by decide +kernel
theorem dX4_putTree_19 : decode cX4_putTree 19 = .ok (.getfield 22, 3) := by decide +kernel
theorem dX4_putTree_22 : decode cX4_putTree 22 = .ok (.iload_n 1, 1) := by decide +kernel
theorem dX4_putTree_23 : decode cX4_putTree 23 = .ok (.invokevirtual 58, 3) := by decide +kernel
theorem dX4_putTree_26 : decode cX4_putTree 26 = .ok (.istore_n 3, 1) := by decide +kernel
theorem dX4_putTree_27 : decode cX4_putTree 27 = .ok (.iload_n 3, 1) := by decide +kernel
theorem dX4_putTree_28 : decode cX4_putTree 28 = .ok (.ifCond .eq 11, 3) := by decide +kernel
theorem dX4_putTree_31 : decode cX4_putTree 31 = .ok (.aload_n 0, 1) := by decide +kernel
theorem dX4_putTree_32 : decode cX4_putTree 32 = .ok (.bipush 100, 2) := by decide +kernel
theorem dX4_putTree_34 : decode cX4_putTree 34 = .ok (.iload_n 1, 1) := by decide +kernel
theorem dX4_putTree_35 : decode cX4_putTree 35 = .ok (.iadd, 1) := by decide +kernel
theorem dX4_putTree_36 : decode cX4_putTree 36 = .ok (.invokevirtual 61, 3) := by decide +kernel
theorem dX4_putTree_39 : decode cX4_putTree 39 = .ok (.aload_n 0, 1) := by decide +kernel
theorem dX4_putTree_40 : decode cX4_putTree 40 = .ok (.iload_n 1, 1) := by decide +kernel
theorem dX4_putTree_41 : decode cX4_putTree 41 = .ok (.iload_n 2, 1) := by decide +kernel
theorem dX4_putTree_42 : decode cX4_putTree 42 = .ok (.invokevirtual 65, 3) := by decide +kernel
theorem dX4_putTree_45 : decode cX4_putTree 45 = .ok (.iload_n 3, 1) := by decide +kernel
theorem dX4_putTree_46 : decode cX4_putTree 46 = .ok (.ifCond .eq 10, 3) := by decide +kernel
theorem dX4_putTree_49 : decode cX4_putTree 49 = .ok (.aload_n 0, 1) := by decide +kernel
theorem dX4_putTree_50 : decode cX4_putTree 50 = .ok (.sipush 300, 3) := by decide +kernel
theorem dX4_putTree_53 : decode cX4_putTree 53 = .ok (.invokevirtual 68, 3) := by decide +kernel
theorem dX4_putTree_56 : decode cX4_putTree 56 = .ok (.return_, 1) := by decide +kernel
theorem dX4_putWithin_0 : decode cX4_putWithin 0 = .ok (.aload_n 0, 1) := by decide +kernel
theorem dX4_putWithin_1 : decode cX4_putWithin 1 = .ok (.getfield 22, 3) := by decide +kernel
theorem dX4_putWithin_4 : decode cX4_putWithin 4 = .ok (.getfield 71, 3) := by decide +kernel
theorem dX4_putWithin_7 : decode cX4_putWithin 7 = .ok (.iconst 1, 1) := by decide +kernel
theorem dX4_putWithin_8 : decode cX4_putWithin 8 = .ok (.isub, 1) := by decide +kernel
theorem dX4_putWithin_9 : decode cX4_putWithin 9 = .ok (.istore_n 3, 1) := by decide +kernel
theorem dX4_putWithin_10 : decode cX4_putWithin 10 = .ok (.iload_n 3, 1) := by decide +kernel
theorem dX4_putWithin_11 : decode cX4_putWithin 11 = .ok (.ifCond .le 41, 3) := by decide +kernel
theorem dX4_putWithin_14 : decode cX4_putWithin 14 = .ok (.aload_n 0, 1) := by decide +kernel
theorem dX4_putWithin_15 : decode cX4_putWithin 15 = .ok (.iload_n 1, 1) := by decide +kernel
theorem dX4_putWithin_16 : decode cX4_putWithin 16 = .ok (.aload_n 0, 1) := by decide +kernel
theorem dX4_putWithin_17 : decode cX4_putWithin 17 = .ok (.getfield 22, 3) := by decide +kernel
theorem dX4_putWithin_20 : decode cX4_putWithin 20 = .ok (.iload_n 3, 1) := by decide +kernel
theorem dX4_putWithin_21 : decode cX4_putWithin 21 = .ok (.invokevirtual 72, 3) := by decide +kernel
theorem dX4_putWithin_24 : decode cX4_putWithin 24 = .ok (.invokevirtual 76, 3) := by decide +kernel
theorem dX4_putWithin_27 : decode cX4_putWithin 27 = .ok (.ifCond .eq 19, 3) := by decide +kernel
theorem dX4_putWithin_30 : decode cX4_putWithin 30 = .ok (.aload_n 0, 1) := by decide +kernel
theorem dX4_putWithin_31 : decode cX4_putWithin 31 = .ok (.sipush 200, 3) := by decide +kernel
theorem dX4_putWithin_34 : decode cX4_putWithin 34 = .ok (.aload_n 0, 1) := by decide +kernel
theorem dX4_putWithin_35 : decode cX4_putWithin 35 = .ok (.getfield 22, 3) := by decide +kernel
theorem dX4_putWithin_38 : decode cX4_putWithin 38 = .ok (.iload_n 3, 1) := by decide +kernel
theorem dX4_putWithin_39 : decode cX4_putWithin 39 = .ok (.invokevirtual 72, 3) := by decide +kernel
theorem dX4_putWithin_42 : decode cX4_putWithin 42 = .ok (.iadd, 1) := by decide +kernel
theorem dX4_putWithin_43 : decode cX4_putWithin 43 = .ok (.invokevirtual 61, 3) := by decide +kernel
theorem dX4_putWithin_46 : decode cX4_putWithin 46 = .ok (.iinc 3 (-1), 3) := by decide +kernel
theorem dX4_putWithin_49 : decode cX4_putWithin 49 = .ok (.goto (-39), 3) := by decide +kernel
theorem dX4_putWithin_52 : decode cX4_putWithin 52 = .ok (.aload_n 0, 1) := by decide +kernel
theorem dX4_putWithin_53 : decode cX4_putWithin 53 = .ok (.iload_n 1, 1) := by decide +kernel
theorem dX4_putWithin_54 : decode cX4_putWithin 54 = .ok (.invokevirtual 80, 3) := by decide +kernel
theorem dX4_putWithin_57 : decode cX4_putWithin 57 = .ok (.aload_n 0, 1) := by decide +kernel
theorem dX4_putWithin_58 : decode cX4_putWithin 58 = .ok (.getfield 18, 3) := by decide +kernel
theorem dX4_putWithin_61 : decode cX4_putWithin 61 = .ok (.getfield 83, 3) := by decide +kernel
theorem dX4_putWithin_64 : decode cX4_putWithin 64 = .ok (.iload_n 1, 1) := by decide +kernel
theorem dX4_putWithin_65 : decode cX4_putWithin 65 = .ok (.iaload, 1) := by decide +kernel
theorem dX4_putWithin_66 : decode cX4_putWithin 66 = .ok (.invokestatic 86, 3) := by decide +kernel
theorem dX4_putWithin_69 : decode cX4_putWithin 69 = .ok (.istore_n 3, 1) := by decide +kernel
theorem dX4_putWithin_70 : decode cX4_putWithin 70 = .ok (.iload_n 3, 1) := by decide +kernel
theorem dX4_putWithin_71 : decode cX4_putWithin 71 = .ok (.iconst 1, 1) := by decide +kernel
theorem dX4_putWithin_72 : decode cX4_putWithin 72 = .ok (.if_icmp .lt 10, 3) := by decide +kernel
theorem dX4_putWithin_75 : decode cX4_putWithin 75 = .ok (.aload_n 0, 1) := by decide +kernel
theorem dX4_putWithin_76 : decode cX4_putWithin 76 = .ok (.iload_n 1, 1) := by decide +kernel
theorem dX4_putWithin_77 : decode cX4_putWithin 77 = .ok (.iconst 0, 1) := by decide +kernel
theorem dX4_putWithin_78 : decode cX4_putWithin 78 = .ok (.iload_n 2, 1) := by decide +kernel
theorem dX4_putWithin_79 : decode cX4_putWithin 79 = .ok (.invokevirtual 89, 3) := by decide +kernel
theorem dX4_putWithin_82 : decode cX4_putWithin 82 = .ok (.iload_n 3, 1) := by decide +kernel
theorem dX4_putWithin_83 : decode cX4_putWithin 83 = .ok (.iconst 2, 1) := by decide +kernel
theorem dX4_putWithin_84 : decode cX4_putWithin 84 = .ok (.if_icmp .ne 24, 3) := by decide +kernel
theorem dX4_putWithin_87 : decode cX4_putWithin 87 = .ok (.aload_n 0, 1) := by decide +kernel
theorem dX4_putWithin_88 : decode cX4_putWithin 88 = .ok (.sipush 400, 3) := by decide +kernel
theorem dX4_putWithin_91 : decode cX4_putWithin 91 = .ok (.invokevirtual 80, 3) := by decide +kernel
theorem dX4_putWithin_94 : decode cX4_putWithin 94 = .ok (.aload_n 0, 1) := by decide +kernel
theorem dX4_putWithin_95 : decode cX4_putWithin 95 = .ok (.iload_n 1, 1) := by decide +kernel
theorem dX4_putWithin_96 : decode cX4_putWithin 96 = .ok (.iconst 1, 1) := by decide +kernel
theorem dX4_putWithin_97 : decode cX4_putWithin 97 = .ok (.iload_n 2, 1) := by decide +kernel
theorem dX4_putWithin_98 : decode cX4_putWithin 98 = .ok (.invokevirtual 89, 3) := by decide +kernel
theorem dX4_putWithin_101 : decode cX4_putWithin 101 = .ok (.aload_n 0, 1) := by decide +kernel
theorem dX4_putWithin_102 : decode cX4_putWithin 102 = .ok (.sipush 401, 3) := by decide +kernel
theorem dX4_putWithin_105 : decode cX4_putWithin 105 = .ok (.invokevirtual 80, 3) := by decide +kernel
theorem dX4_putWithin_108 : decode cX4_putWithin 108 = .ok (.iconst 1, 1) := by decide +kernel
theorem dX4_putWithin_109 : decode cX4_putWithin 109 = .ok (.istore 4, 2) := by decide +kernel
theorem dX4_putWithin_111 : decode cX4_putWithin 111 = .ok (.iload 4, 2) := by decide +kernel
theorem dX4_putWithin_113 : decode cX4_putWithin 113 = .ok (.aload_n 0, 1) := by decide +kernel
theorem dX4_putWithin_114 : decode cX4_putWithin 114 = .ok (.getfield 22, 3) := by decide +kernel
theorem dX4_putWithin_117 : decode cX4_putWithin 117 = .ok (.getfield 71, 3) := by decide +kernel
theorem dX4_putWithin_120 : decode cX4_putWithin 120 = .ok (.if_icmp .ge 49, 3) := by decide +kernel
theorem dX4_putWithin_123 : decode cX4_putWithin 123 = .ok (.aload_n 0, 1) := by decide +kernel
theorem dX4_putWithin_124 : decode cX4_putWithin 124 = .ok (.iload_n 1, 1) := by decide +kernel
theorem dX4_putWithin_125 : decode cX4_putWithin 125 = .ok (.aload_n 0, 1) := by decide +kernel
theorem dX4_putWithin_126 : decode cX4_putWithin 126 = .ok (.getfield 22, 3) := by decide +kernel
theorem dX4_putWithin_129 : decode cX4_putWithin 129 = .ok (.iload 4, 2) := by decide +kernel
theorem dX4_putWithin_131 : decode cX4_putWithin 131 = .ok (.invokevirtual 72, 3) := by decide +kernel
theorem dX4_putWithin_134 : decode cX4_putWithin 134 = .ok (.invokevirtual 76, 3) := by decide +kernel
theorem dX4_putWithin_137 : decode cX4_putWithin 137 = .ok (.ifCond .eq 26, 3) := by decide +kernel
theorem dX4_putWithin_140 : decode cX4_putWithin 140 = .ok (.aload_n 0, 1) := by decide +kernel
theorem dX4_putWithin_141 : decode cX4_putWithin 141 = .ok (.sipush 301, 3) := by decide +kernel
theorem dX4_putWithin_144 : decode cX4_putWithin 144 = .ok (.invokevirtual 68, 3) := by decide +kernel
theorem dX4_putWithin_147 : decode cX4_putWithin 147 = .ok (.aload_n 0, 1) := by decide +kernel
theorem dX4_putWithin_148 : decode cX4_putWithin 148 = .ok (.aload_n 0, 1) := by decide +kernel
theorem dX4_putWithin_149 : decode cX4_putWithin 149 = .ok (.getfield 22, 3) := by decide +kernel
theorem dX4_putWithin_152 : decode cX4_putWithin 152 = .ok (.iload 4, 2) := by decide +kernel
theorem dX4_putWithin_154 : decode cX4_putWithin 154 = .ok (.invokevirtual 72, 3) := by decide +kernel
theorem dX4_putWithin_157 : decode cX4_putWithin 157 = .ok (.iload_n 2, 1) := by decide +kernel
theorem dX4_putWithin_158 : decode cX4_putWithin 158 = .ok (.iconst 1, 1) := by decide +kernel
theorem dX4_putWithin_159 : decode cX4_putWithin 159 = .ok (.iadd, 1) := by decide +kernel
theorem dX4_putWithin_160 : decode cX4_putWithin 160 = .ok (.invokevirtual 48, 3) := by decide +kernel
theorem dX4_putWithin_163 : decode cX4_putWithin 163 = .ok (.iinc 4 1, 3) := by decide +kernel
theorem dX4_putWithin_166 : decode cX4_putWithin 166 = .ok (.goto (-55), 3) := by decide +kernel
theorem dX4_putWithin_169 : decode cX4_putWithin 169 = .ok (.return_, 1) := by decide +kernel
theorem dX4_isBlockIn_0 : decode cX4_isBlockIn 0 = .ok (.aload_n 0, 1) := by decide +kernel
theorem dX4_isBlockIn_1 : decode cX4_isBlockIn 1 = .ok (.getfield 22, 3) := by decide +kernel
theorem dX4_isBlockIn_4 : decode cX4_isBlockIn 4 = .ok (.iload_n 2, 1) := by decide +kernel
theorem dX4_isBlockIn_5 : decode cX4_isBlockIn 5 = .ok (.invokevirtual 93, 3) := by decide +kernel
theorem dX4_isBlockIn_8 : decode cX4_isBlockIn 8 = .ok (.ifCond .eq 19, 3) := by decide +kernel
theorem dX4_isBlockIn_11 : decode cX4_isBlockIn 11 = .ok (.aload_n 0, 1) := by decide +kernel
theorem dX4_isBlockIn_12 : decode cX4_isBlockIn 12 = .ok (.getfield 22, 3) := by decide +kernel
theorem dX4_isBlockIn_15 : decode cX4_isBlockIn 15 = .ok (.iload_n 2, 1) := by decide +kernel
theorem dX4_isBlockIn_16 : decode cX4_isBlockIn 16 = .ok (.invokevirtual 96, 3) := by decide +kernel
theorem dX4_isBlockIn_19 : decode cX4_isBlockIn 19 = .ok (.iload_n 1, 1) := by decide +kernel
theorem dX4_isBlockIn_20 : decode cX4_isBlockIn 20 = .ok (.if_icmp .ne 7, 3) := by decide +kernel
theorem dX4_isBlockIn_23 : decode cX4_isBlockIn 23 = .ok (.iconst 1, 1) := by decide +kernel
theorem dX4_isBlockIn_24 : decode cX4_isBlockIn 24 = .ok (.goto 4, 3) := by decide +kernel
theorem dX4_isBlockIn_27 : decode cX4_isBlockIn 27 = .ok (.iconst 0, 1) := by decide +kernel
theorem dX4_isBlockIn_28 : decode cX4_isBlockIn 28 = .ok (.ireturn, 1) := by decide +kernel
theorem dX4_putBranch_0 : decode cX4_putBranch 0 = .ok (.aload_n 0, 1) := by decide +kernel
theorem dX4_putBranch_1 : decode cX4_putBranch 1 = .ok (.getfield 18, 3) := by decide +kernel
theorem dX4_putBranch_4 : decode cX4_putBranch 4 = .ok (.iload_n 1, 1) := by decide +kernel
theorem dX4_putBranch_5 : decode cX4_putBranch 5 = .ok (.iload_n 2, 1) := by decide +kernel
theorem dX4_putBranch_6 : decode cX4_putBranch 6 = .ok (.invokevirtual 99, 3) := by decide +kernel
theorem dX4_putBranch_9 : decode cX4_putBranch 9 = .ok (.istore 4, 2) := by decide +kernel
theorem dX4_putBranch_11 : decode cX4_putBranch 11 = .ok (.aload_n 0, 1) := by decide +kernel
theorem dX4_putBranch_12 : decode cX4_putBranch 12 = .ok (.getfield 22, 3) := by decide +kernel
theorem dX4_putBranch_15 : decode cX4_putBranch 15 = .ok (.iload_n 1, 1) := by decide +kernel
theorem dX4_putBranch_16 : decode cX4_putBranch 16 = .ok (.iload_n 2, 1) := by decide +kernel
theorem dX4_putBranch_17 : decode cX4_putBranch 17 = .ok (.invokevirtual 103, 3) := by decide +kernel
theorem dX4_putBranch_20 : decode cX4_putBranch 20 = .ok (.ifCond .eq 22, 3) := by decide +kernel
theorem dX4_putBranch_23 : decode cX4_putBranch 23 = .ok (.aload_n 0, 1) := by decide +kernel
theorem dX4_putBranch_24 : decode cX4_putBranch 24 = .ok (.sipush 500, 3) := by decide +kernel
theorem dX4_putBranch_27 : decode cX4_putBranch 27 = .ok (.aload_n 0, 1) := by decide +kernel
theorem dX4_putBranch_28 : decode cX4_putBranch 28 = .ok (.bipush 100, 2) := by decide +kernel
theorem dX4_putBranch_30 : decode cX4_putBranch 30 = .ok (.iload 4, 2) := by decide +kernel
theorem dX4_putBranch_32 : decode cX4_putBranch 32 = .ok (.iadd, 1) := by decide +kernel
theorem dX4_putBranch_33 : decode cX4_putBranch 33 = .ok (.invokevirtual 106, 3) := by decide +kernel
theorem dX4_putBranch_36 : decode cX4_putBranch 36 = .ok (.invokevirtual 109, 3) := by decide +kernel
theorem dX4_putBranch_39 : decode cX4_putBranch 39 = .ok (.goto 44, 3) := by decide +kernel
theorem dX4_putBranch_42 : decode cX4_putBranch 42 = .ok (.aload_n 0, 1) := by decide +kernel
theorem dX4_putBranch_43 : decode cX4_putBranch 43 = .ok (.getfield 22, 3) := by decide +kernel
theorem dX4_putBranch_46 : decode cX4_putBranch 46 = .ok (.iload 4, 2) := by decide +kernel
theorem dX4_putBranch_48 : decode cX4_putBranch 48 = .ok (.invokevirtual 93, 3) := by decide +kernel
theorem dX4_putBranch_51 : decode cX4_putBranch 51 = .ok (.ifCond .eq 23, 3) := by decide +kernel
theorem dX4_putBranch_54 : decode cX4_putBranch 54 = .ok (.aload_n 0, 1) := by decide +kernel
theorem dX4_putBranch_55 : decode cX4_putBranch 55 = .ok (.sipush 600, 3) := by decide +kernel
theorem dX4_putBranch_58 : decode cX4_putBranch 58 = .ok (.aload_n 0, 1) := by decide +kernel
theorem dX4_putBranch_59 : decode cX4_putBranch 59 = .ok (.sipush 200, 3) := by decide +kernel
theorem dX4_putBranch_62 : decode cX4_putBranch 62 = .ok (.iload 4, 2) := by decide +kernel
theorem dX4_putBranch_64 : decode cX4_putBranch 64 = .ok (.iadd, 1) := by decide +kernel
theorem dX4_putBranch_65 : decode cX4_putBranch 65 = .ok (.invokevirtual 106, 3) := by decide +kernel
theorem dX4_putBranch_68 : decode cX4_putBranch 68 = .ok (.invokevirtual 109, 3) := by decide +kernel
theorem dX4_putBranch_71 : decode cX4_putBranch 71 = .ok (.goto 12, 3) := by decide +kernel
theorem dX4_putBranch_74 : decode cX4_putBranch 74 = .ok (.aload_n 0, 1) := by decide +kernel
theorem dX4_putBranch_75 : decode cX4_putBranch 75 = .ok (.iload 4, 2) := by decide +kernel
theorem dX4_putBranch_77 : decode cX4_putBranch 77 = .ok (.iload_n 3, 1) := by decide +kernel
theorem dX4_putBranch_78 : decode cX4_putBranch 78 = .ok (.iconst 1, 1) := by decide +kernel
theorem dX4_putBranch_79 : decode cX4_putBranch 79 = .ok (.iadd, 1) := by decide +kernel
theorem dX4_putBranch_80 : decode cX4_putBranch 80 = .ok (.invokevirtual 48, 3) := by decide +kernel
theorem dX4_putBranch_83 : decode cX4_putBranch 83 = .ok (.return_, 1) := by decide +kernel
theorem dX4_depthOf_0 : decode cX4_depthOf 0 = .ok (.iconst 0, 1) := by decide +kernel
theorem dX4_depthOf_1 : decode cX4_depthOf 1 = .ok (.istore_n 2, 1) := by decide +kernel
theorem dX4_depthOf_2 : decode cX4_depthOf 2 = .ok (.iload_n 2, 1) := by decide +kernel
theorem dX4_depthOf_3 : decode cX4_depthOf 3 = .ok (.aload_n 0, 1) := by decide +kernel
theorem dX4_depthOf_4 : decode cX4_depthOf 4 = .ok (.getfield 39, 3) := by decide +kernel
theorem dX4_depthOf_7 : decode cX4_depthOf 7 = .ok (.if_icmp .ge 26, 3) := by decide +kernel
theorem dX4_depthOf_10 : decode cX4_depthOf 10 = .ok (.aload_n 0, 1) := by decide +kernel
theorem dX4_depthOf_11 : decode cX4_depthOf 11 = .ok (.getfield 15, 3) := by decide +kernel
theorem dX4_depthOf_14 : decode cX4_depthOf 14 = .ok (.aload_n 0, 1) := by decide +kernel
theorem dX4_depthOf_15 : decode cX4_depthOf 15 = .ok (.getfield 39, 3) := by decide +kernel
theorem dX4_depthOf_18 : decode cX4_depthOf 18 = .ok (.iconst 1, 1) := by decide +kernel
theorem dX4_depthOf_19 : decode cX4_depthOf 19 = .ok (.isub, 1) := by decide +kernel
theorem dX4_depthOf_20 : decode cX4_depthOf 20 = .ok (.iload_n 2, 1) := by decide +kernel
theorem dX4_depthOf_21 : decode cX4_depthOf 21 = .ok (.isub, 1) := by decide +kernel
theorem dX4_depthOf_22 : decode cX4_depthOf 22 = .ok (.iaload, 1) := by decide +kernel
theorem dX4_depthOf_23 : decode cX4_depthOf 23 = .ok (.iload_n 1, 1) := by decide +kernel
theorem dX4_depthOf_24 : decode cX4_depthOf 24 = .ok (.if_icmp .eq 9, 3) := by decide +kernel
theorem dX4_depthOf_27 : decode cX4_depthOf 27 = .ok (.iinc 2 1, 3) := by decide +kernel
theorem dX4_depthOf_30 : decode cX4_depthOf 30 = .ok (.goto (-28), 3) := by decide +kernel
theorem dX4_depthOf_33 : decode cX4_depthOf 33 = .ok (.iload_n 2, 1) := by decide +kernel
theorem dX4_depthOf_34 : decode cX4_depthOf 34 = .ok (.ireturn, 1) := by decide +kernel
theorem dX4_putWayOut_0 : decode cX4_putWayOut 0 = .ok (.aload_n 0, 1) := by decide +kernel
theorem dX4_putWayOut_1 : decode cX4_putWayOut 1 = .ok (.iload_n 1, 1) := by decide +kernel
theorem dX4_putWayOut_2 : decode cX4_putWayOut 2 = .ok (.iload_n 2, 1) := by decide +kernel
theorem dX4_putWayOut_3 : decode cX4_putWayOut 3 = .ok (.iadd, 1) := by decide +kernel
theorem dX4_putWayOut_4 : decode cX4_putWayOut 4 = .ok (.invokevirtual 80, 3) := by decide +kernel
theorem dX4_putWayOut_7 : decode cX4_putWayOut 7 = .ok (.aload_n 0, 1) := by decide +kernel
theorem dX4_putWayOut_8 : decode cX4_putWayOut 8 = .ok (.dup, 1) := by decide +kernel
theorem dX4_putWayOut_9 : decode cX4_putWayOut 9 = .ok (.getfield 30, 3) := by decide +kernel
theorem dX4_putWayOut_12 : decode cX4_putWayOut 12 = .ok (.iconst 1, 1) := by decide +kernel
theorem dX4_putWayOut_13 : decode cX4_putWayOut 13 = .ok (.iadd, 1) := by decide +kernel
theorem dX4_putWayOut_14 : decode cX4_putWayOut 14 = .ok (.putfield 30, 3) := by decide +kernel
theorem dX4_putWayOut_17 : decode cX4_putWayOut 17 = .ok (.aload_n 0, 1) := by decide +kernel
theorem dX4_putWayOut_18 : decode cX4_putWayOut 18 = .ok (.dup, 1) := by decide +kernel
theorem dX4_putWayOut_19 : decode cX4_putWayOut 19 = .ok (.getfield 33, 3) := by decide +kernel
theorem dX4_putWayOut_22 : decode cX4_putWayOut 22 = .ok (.iload_n 2, 1) := by decide +kernel
theorem dX4_putWayOut_23 : decode cX4_putWayOut 23 = .ok (.iadd, 1) := by decide +kernel
theorem dX4_putWayOut_24 : decode cX4_putWayOut 24 = .ok (.putfield 33, 3) := by decide +kernel
theorem dX4_putWayOut_27 : decode cX4_putWayOut 27 = .ok (.return_, 1) := by decide +kernel
theorem dX4_putOpening_0 : decode cX4_putOpening 0 = .ok (.aload_n 0, 1) := by decide +kernel
theorem dX4_putOpening_1 : decode cX4_putOpening 1 = .ok (.iload_n 1, 1) := by decide +kernel
theorem dX4_putOpening_2 : decode cX4_putOpening 2 = .ok (.invokevirtual 80, 3) := by decide +kernel
theorem dX4_putOpening_5 : decode cX4_putOpening 5 = .ok (.aload_n 0, 1) := by decide +kernel
theorem dX4_putOpening_6 : decode cX4_putOpening 6 = .ok (.getfield 39, 3) := by decide +kernel
theorem dX4_putOpening_9 : decode cX4_putOpening 9 = .ok (.aload_n 0, 1) := by decide +kernel
theorem dX4_putOpening_10 : decode cX4_putOpening 10 = .ok (.getfield 15, 3) := by decide +kernel
theorem dX4_putOpening_13 : decode cX4_putOpening 13 = .ok (.arraylength, 1) := by decide +kernel
theorem dX4_putOpening_14 : decode cX4_putOpening 14 = .ok (.if_icmp .ge 23, 3) := by decide +kernel
theorem dX4_putOpening_17 : decode cX4_putOpening 17 = .ok (.aload_n 0, 1) := by decide +kernel
theorem dX4_putOpening_18 : decode cX4_putOpening 18 = .ok (.getfield 15, 3) := by decide +kernel
theorem dX4_putOpening_21 : decode cX4_putOpening 21 = .ok (.aload_n 0, 1) := by decide +kernel
theorem dX4_putOpening_22 : decode cX4_putOpening 22 = .ok (.getfield 39, 3) := by decide +kernel
theorem dX4_putOpening_25 : decode cX4_putOpening 25 = .ok (.iload_n 1, 1) := by decide +kernel
theorem dX4_putOpening_26 : decode cX4_putOpening 26 = .ok (.iastore, 1) := by decide +kernel
theorem dX4_putOpening_27 : decode cX4_putOpening 27 = .ok (.aload_n 0, 1) := by decide +kernel
theorem dX4_putOpening_28 : decode cX4_putOpening 28 = .ok (.dup, 1) := by decide +kernel
theorem dX4_putOpening_29 : decode cX4_putOpening 29 = .ok (.getfield 39, 3) := by decide +kernel
theorem dX4_putOpening_32 : decode cX4_putOpening 32 = .ok (.iconst 1, 1) := by decide +kernel
theorem dX4_putOpening_33 : decode cX4_putOpening 33 = .ok (.iadd, 1) := by decide +kernel
theorem dX4_putOpening_34 : decode cX4_putOpening 34 = .ok (.putfield 39, 3) := by decide +kernel
theorem dX4_putOpening_37 : decode cX4_putOpening 37 = .ok (.aload_n 0, 1) := by decide +kernel
theorem dX4_putOpening_38 : decode cX4_putOpening 38 = .ok (.aload_n 0, 1) := by decide +kernel
theorem dX4_putOpening_39 : decode cX4_putOpening 39 = .ok (.getfield 36, 3) := by decide +kernel
theorem dX4_putOpening_42 : decode cX4_putOpening 42 = .ok (.aload_n 0, 1) := by decide +kernel
theorem dX4_putOpening_43 : decode cX4_putOpening 43 = .ok (.getfield 39, 3) := by decide +kernel
theorem dX4_putOpening_46 : decode cX4_putOpening 46 = .ok (.invokestatic 112, 3) := by decide +kernel
theorem dX4_putOpening_49 : decode cX4_putOpening 49 = .ok (.putfield 36, 3) := by decide +kernel
theorem dX4_putOpening_52 : decode cX4_putOpening 52 = .ok (.return_, 1) := by decide +kernel
theorem dX4_putClosing_0 : decode cX4_putClosing 0 = .ok (.aload_n 0, 1) := by decide +kernel
theorem dX4_putClosing_1 : decode cX4_putClosing 1 = .ok (.iload_n 1, 1) := by decide +kernel
theorem dX4_putClosing_2 : decode cX4_putClosing 2 = .ok (.invokevirtual 80, 3) := by decide +kernel
theorem dX4_putClosing_5 : decode cX4_putClosing 5 = .ok (.aload_n 0, 1) := by decide +kernel
theorem dX4_putClosing_6 : decode cX4_putClosing 6 = .ok (.iconst 0, 1) := by decide +kernel
theorem dX4_putClosing_7 : decode cX4_putClosing 7 = .ok (.aload_n 0, 1) := by decide +kernel
theorem dX4_putClosing_8 : decode cX4_putClosing 8 = .ok (.getfield 39, 3) := by decide +kernel
theorem dX4_putClosing_11 : decode cX4_putClosing 11 = .ok (.iconst 1, 1) := by decide +kernel
theorem dX4_putClosing_12 : decode cX4_putClosing 12 = .ok (.isub, 1) := by decide +kernel
theorem dX4_putClosing_13 : decode cX4_putClosing 13 = .ok (.invokestatic 112, 3) := by decide +kernel
theorem dX4_putClosing_16 : decode cX4_putClosing 16 = .ok (.putfield 39, 3) := by decide +kernel
theorem dX4_putClosing_19 : decode cX4_putClosing 19 = .ok (.return_, 1) := by decide +kernel
theorem dX4_put_0 : decode cX4_put 0 = .ok (.aload_n 0, 1) := by decide +kernel
theorem dX4_put_1 : decode cX4_put 1 = .ok (.getfield 26, 3) := by decide +kernel
theorem dX4_put_4 : decode cX4_put 4 = .ok (.aload_n 0, 1) := by decide +kernel
theorem dX4_put_5 : decode cX4_put 5 = .ok (.getfield 9, 3) := by decide +kernel
theorem dX4_put_8 : decode cX4_put 8 = .ok (.arraylength, 1) := by decide +kernel
theorem dX4_put_9 : decode cX4_put 9 = .ok (.if_icmp .ge 23, 3) := by decide +kernel
theorem dX4_put_12 : decode cX4_put 12 = .ok (.aload_n 0, 1) := by decide +kernel
theorem dX4_put_13 : decode cX4_put 13 = .ok (.getfield 9, 3) := by decide +kernel
theorem dX4_put_16 : decode cX4_put 16 = .ok (.aload_n 0, 1) := by decide +kernel
theorem dX4_put_17 : decode cX4_put 17 = .ok (.getfield 26, 3) := by decide +kernel
theorem dX4_put_20 : decode cX4_put 20 = .ok (.iload_n 1, 1) := by decide +kernel
theorem dX4_put_21 : decode cX4_put 21 = .ok (.iastore, 1) := by decide +kernel
theorem dX4_put_22 : decode cX4_put 22 = .ok (.aload_n 0, 1) := by decide +kernel
theorem dX4_put_23 : decode cX4_put 23 = .ok (.dup, 1) := by decide +kernel
theorem dX4_put_24 : decode cX4_put 24 = .ok (.getfield 26, 3) := by decide +kernel
theorem dX4_put_27 : decode cX4_put 27 = .ok (.iconst 1, 1) := by decide +kernel
theorem dX4_put_28 : decode cX4_put 28 = .ok (.iadd, 1) := by decide +kernel
theorem dX4_put_29 : decode cX4_put 29 = .ok (.putfield 26, 3) := by decide +kernel
theorem dX4_put_32 : decode cX4_put 32 = .ok (.return_, 1) := by decide +kernel
theorem dX5_init_0 : decode cX5_init 0 = .ok (.aload_n 0, 1) := by decide +kernel
theorem dX5_init_1 : decode cX5_init 1 = .ok (.invokespecial 3, 3) := by decide +kernel
theorem dX5_init_4 : decode cX5_init 4 = .ok (.aload_n 0, 1) := by decide +kernel
theorem dX5_init_5 : decode cX5_init 5 = .ok (.bipush 30, 2) := by decide +kernel
theorem dX5_init_7 : decode cX5_init 7 = .ok (.newarray .int, 2) := by decide +kernel
theorem dX5_init_9 : decode cX5_init 9 = .ok (.putfield 9, 3) := by decide +kernel
theorem dX5_init_12 : decode cX5_init 12 = .ok (.aload_n 0, 1) := by decide +kernel
theorem dX5_init_13 : decode cX5_init 13 = .ok (.bipush 8, 2) := by decide +kernel
theorem dX5_init_15 : decode cX5_init 15 = .ok (.newarray .int, 2) := by decide +kernel
theorem dX5_init_17 : decode cX5_init 17 = .ok (.putfield 15, 3) := by decide +kernel
theorem dX5_init_20 : decode cX5_init 20 = .ok (.return_, 1) := by decide +kernel
theorem dX5_go_0 : decode cX5_go 0 = .ok (.aload_n 0, 1) := by decide +kernel
theorem dX5_go_1 : decode cX5_go 1 = .ok (.getfield 15, 3) := by decide +kernel
theorem dX5_go_4 : decode cX5_go 4 = .ok (.iconst 0, 1) := by decide +kernel
theorem dX5_go_5 : decode cX5_go 5 = .ok (.invokestatic 18, 3) := by decide +kernel
theorem dX5_go_8 : decode cX5_go 8 = .ok (.aload_n 0, 1) := by decide +kernel
theorem dX5_go_9 : decode cX5_go 9 = .ok (.iconst 0, 1) := by decide +kernel
theorem dX5_go_10 : decode cX5_go 10 = .ok (.putfield 24, 3) := by decide +kernel
theorem dX5_go_13 : decode cX5_go 13 = .ok (.iload_n 2, 1) := by decide +kernel
theorem dX5_go_14 : decode cX5_go 14 = .ok (.istore_n 3, 1) := by decide +kernel
theorem dX5_go_15 : decode cX5_go 15 = .ok (.iconst 0, 1) := by decide +kernel
theorem dX5_go_16 : decode cX5_go 16 = .ok (.istore 4, 2) := by decide +kernel
theorem dX5_go_18 : decode cX5_go 18 = .ok (.aload_n 0, 1) := by decide +kernel
theorem dX5_go_19 : decode cX5_go 19 = .ok (.getfield 24, 3) := by decide +kernel
theorem dX5_go_22 : decode cX5_go 22 = .ok (.aload_n 0, 1) := by decide +kernel
theorem dX5_go_23 : decode cX5_go 23 = .ok (.getfield 9, 3) := by decide +kernel
theorem dX5_go_26 : decode cX5_go 26 = .ok (.arraylength, 1) := by decide +kernel
theorem dX5_go_27 : decode cX5_go 27 = .ok (.if_icmp .ge 104, 3) := by decide +kernel
theorem dX5_go_30 : decode cX5_go 30 = .ok (.aload_n 1, 1) := by decide +kernel
theorem dX5_go_31 : decode cX5_go 31 = .ok (.iload 4, 2) := by decide +kernel
theorem dX5_go_33 : decode cX5_go 33 = .ok (.invokevirtual 28, 3) := by decide +kernel
theorem dX5_go_36 : decode cX5_go 36 = .ok (.ifCond .eq 95, 3) := by decide +kernel
theorem dX5_go_39 : decode cX5_go 39 = .ok (.aload_n 0, 1) := by decide +kernel
theorem dX5_go_40 : decode cX5_go 40 = .ok (.getfield 9, 3) := by decide +kernel
theorem dX5_go_43 : decode cX5_go 43 = .ok (.aload_n 0, 1) := by decide +kernel
theorem dX5_go_44 : decode cX5_go 44 = .ok (.getfield 24, 3) := by decide +kernel
theorem dX5_go_47 : decode cX5_go 47 = .ok (.iload 4, 2) := by decide +kernel
theorem dX5_go_49 : decode cX5_go 49 = .ok (.iastore, 1) := by decide +kernel
theorem dX5_go_50 : decode cX5_go 50 = .ok (.aload_n 0, 1) := by decide +kernel
theorem dX5_go_51 : decode cX5_go 51 = .ok (.dup, 1) := by decide +kernel
theorem dX5_go_52 : decode cX5_go 52 = .ok (.getfield 24, 3) := by decide +kernel
theorem dX5_go_55 : decode cX5_go 55 = .ok (.iconst 1, 1) := by decide +kernel
theorem dX5_go_56 : decode cX5_go 56 = .ok (.iadd, 1) := by decide +kernel
theorem dX5_go_57 : decode cX5_go 57 = .ok (.putfield 24, 3) := by decide +kernel
theorem dX5_go_60 : decode cX5_go 60 = .ok (.aload_n 0, 1) := by decide +kernel
theorem dX5_go_61 : decode cX5_go 61 = .ok (.getfield 15, 3) := by decide +kernel
theorem dX5_go_64 : decode cX5_go 64 = .ok (.iload 4, 2) := by decide +kernel
theorem dX5_go_66 : decode cX5_go 66 = .ok (.dup2, 1) := by decide +kernel
theorem dX5_go_67 : decode cX5_go 67 = .ok (.iaload, 1) := by decide +kernel
theorem dX5_go_68 : decode cX5_go 68 = .ok (.iconst 1, 1) := by decide +kernel
theorem dX5_go_69 : decode cX5_go 69 = .ok (.iadd, 1) := by decide +kernel
theorem dX5_go_70 : decode cX5_go 70 = .ok (.iastore, 1) := by decide +kernel
theorem dX5_go_71 : decode cX5_go 71 = .ok (.aload_n 1, 1) := by decide +kernel
theorem dX5_go_72 : decode cX5_go 72 = .ok (.getfield 34, 3) := by decide +kernel
theorem dX5_go_75 : decode cX5_go 75 = .ok (.iload 4, 2) := by decide +kernel
theorem dX5_go_77 : decode cX5_go 77 = .ok (.iaload, 1) := by decide +kernel
theorem dX5_go_78 : decode cX5_go 78 = .ok (.aload_n 0, 1) := by decide +kernel
theorem dX5_go_79 : decode cX5_go 79 = .ok (.getfield 15, 3) := by decide +kernel
theorem dX5_go_82 : decode cX5_go 82 = .ok (.iload 4, 2) := by decide +kernel
theorem dX5_go_84 : decode cX5_go 84 = .ok (.iaload, 1) := by decide +kernel
theorem dX5_go_85 : decode cX5_go 85 = .ok (.iload_n 3, 1) := by decide +kernel
theorem dX5_go_86 : decode cX5_go 86 = .ok (.iconst 1, 1) := by decide +kernel
theorem dX5_go_87 : decode cX5_go 87 = .ok (.iand, 1) := by decide +kernel
theorem dX5_go_88 : decode cX5_go 88 = .ok (.invokestatic 37, 3) := by decide +kernel
theorem dX5_go_91 : decode cX5_go 91 = .ok (.istore 5, 2) := by decide +kernel
theorem dX5_go_93 : decode cX5_go 93 = .ok (.aload_n 1, 1) := by decide +kernel
theorem dX5_go_94 : decode cX5_go 94 = .ok (.getfield 34, 3) := by decide +kernel
theorem dX5_go_97 : decode cX5_go 97 = .ok (.iload 4, 2) := by decide +kernel
theorem dX5_go_99 : decode cX5_go 99 = .ok (.iaload, 1) := by decide +kernel
theorem dX5_go_100 : decode cX5_go 100 = .ok (.iconst 1, 1) := by decide +kernel
theorem dX5_go_101 : decode cX5_go 101 = .ok (.if_icmp .ne 7, 3) := by decide +kernel
theorem dX5_go_104 : decode cX5_go 104 = .ok (.iload_n 3, 1) := by decide +kernel
theorem dX5_go_105 : decode cX5_go 105 = .ok (.iconst 1, 1) := by decide +kernel
theorem dX5_go_106 : decode cX5_go 106 = .ok (.ishr, 1) := by decide +kernel
theorem dX5_go_107 : decode cX5_go 107 = .ok (.istore_n 3, 1) := by decide +kernel
theorem dX5_go_108 : decode cX5_go 108 = .ok (.iload 5, 2) := by decide +kernel
theorem dX5_go_110 : decode cX5_go 110 = .ok (.iconst 2, 1) := by decide +kernel
theorem dX5_go_111 : decode cX5_go 111 = .ok (.if_icmp .ne 7, 3) := by decide +kernel
theorem dX5_go_114 : decode cX5_go 114 = .ok (.iconst (-1), 1) := by decide +kernel
theorem dX5_go_115 : decode cX5_go 115 = .ok (.goto 11, 3) := by decide +kernel
theorem dX5_go_118 : decode cX5_go 118 = .ok (.aload_n 1, 1) := by decide +kernel
theorem dX5_go_119 : decode cX5_go 119 = .ok (.iload 4, 2) := by decide +kernel
theorem dX5_go_121 : decode cX5_go 121 = .ok (.iload 5, 2) := by decide +kernel
theorem dX5_go_123 : decode cX5_go 123 = .ok (.invokevirtual 41, 3) := by decide +kernel
theorem dX5_go_126 : decode cX5_go 126 = .ok (.istore 4, 2) := by decide +kernel
theorem dX5_go_128 : decode cX5_go 128 = .ok (.goto (-110), 3) := by decide +kernel
theorem dX5_go_131 : decode cX5_go 131 = .ok (.return_, 1) := by decide +kernel
theorem dX6_init_0 : decode cX6_init 0 = .ok (.aload_n 0, 1) := by decide +kernel
theorem dX6_init_1 : decode cX6_init 1 = .ok (.invokespecial 3, 3) := by decide +kernel
theorem dX6_init_4 : decode cX6_init 4 = .ok (.aload_n 0, 1) := by decide +kernel
theorem dX6_init_5 : decode cX6_init 5 = .ok (.new 9, 3) := by decide +kernel
theorem dX6_init_8 : decode cX6_init 8 = .ok (.dup, 1) := by decide +kernel
theorem dX6_init_9 : decode cX6_init 9 = .ok (.invokespecial 11, 3) := by decide +kernel
theorem dX6_init_12 : decode cX6_init 12 = .ok (.putfield 12, 3) := by decide +kernel
theorem dX6_init_15 : decode cX6_init 15 = .ok (.aload_n 0, 1) := by decide +kernel
theorem dX6_init_16 : decode cX6_init 16 = .ok (.new 16, 3) := by decide +kernel
theorem dX6_init_19 : decode cX6_init 19 = .ok (.dup, 1) := by decide +kernel
theorem dX6_init_20 : decode cX6_init 20 = .ok (.invokespecial 18, 3) := by decide +kernel
theorem dX6_init_23 : decode cX6_init 23 = .ok (.putfield 19, 3) := by decide +kernel
theorem dX6_init_26 : decode cX6_init 26 = .ok (.aload_n 0, 1) := by decide +kernel
theorem dX6_init_27 : decode cX6_init 27 = .ok (.new 23, 3) := by decide +kernel
theorem dX6_init_30 : decode cX6_init 30 = .ok (.dup, 1) := by decide +kernel
theorem dX6_init_31 : decode cX6_init 31 = .ok (.aload_n 0, 1) := by decide +kernel
theorem dX6_init_32 : decode cX6_init 32 = .ok (.getfield 19, 3) := by decide +kernel
theorem dX6_init_35 : decode cX6_init 35 = .ok (.invokespecial 25, 3) := by decide +kernel
theorem dX6_init_38 : decode cX6_init 38 = .ok (.putfield 28, 3) := by decide +kernel
theorem dX6_init_41 : decode cX6_init 41 = .ok (.aload_n 0, 1) := by decide +kernel
theorem dX6_init_42 : decode cX6_init 42 = .ok (.new 32, 3) := by decide +kernel
theorem dX6_init_45 : decode cX6_init 45 = .ok (.dup, 1) := by decide +kernel
theorem dX6_init_46 : decode cX6_init 46 = .ok (.aload_n 0, 1) := by decide +kernel
theorem dX6_init_47 : decode cX6_init 47 = .ok (.getfield 19, 3) := by decide +kernel
theorem dX6_init_50 : decode cX6_init 50 = .ok (.aload_n 0, 1) := by decide +kernel
theorem dX6_init_51 : decode cX6_init 51 = .ok (.getfield 28, 3) := by decide +kernel
theorem dX6_init_54 : decode cX6_init 54 = .ok (.invokespecial 34, 3) := by decide +kernel
theorem dX6_init_57 : decode cX6_init 57 = .ok (.putfield 37, 3) := by decide +kernel
theorem dX6_init_60 : decode cX6_init 60 = .ok (.aload_n 0, 1) := by decide +kernel
theorem dX6_init_61 : decode cX6_init 61 = .ok (.new 41, 3) := by decide +kernel
theorem dX6_init_64 : decode cX6_init 64 = .ok (.dup, 1) := by decide +kernel
theorem dX6_init_65 : decode cX6_init 65 = .ok (.invokespecial 43, 3) := by decide +kernel
theorem dX6_init_68 : decode cX6_init 68 = .ok (.putfield 44, 3) := by decide +kernel
theorem dX6_init_71 : decode cX6_init 71 = .ok (.aload_n 0, 1) := by decide +kernel
theorem dX6_init_72 : decode cX6_init 72 = .ok (.new 48, 3) := by decide +kernel
theorem dX6_init_75 : decode cX6_init 75 = .ok (.dup, 1) := by decide +kernel
theorem dX6_init_76 : decode cX6_init 76 = .ok (.invokespecial 50, 3) := by decide +kernel
theorem dX6_init_79 : decode cX6_init 79 = .ok (.putfield 51, 3) := by decide +kernel
theorem dX6_init_82 : decode cX6_init 82 = .ok (.aload_n 0, 1) := by decide +kernel
theorem dX6_init_83 : decode cX6_init 83 = .ok (.new 16, 3) := by decide +kernel
theorem dX6_init_86 : decode cX6_init 86 = .ok (.dup, 1) := by decide +kernel
theorem dX6_init_87 : decode cX6_init 87 = .ok (.invokespecial 18, 3) := by decide +kernel
theorem dX6_init_90 : decode cX6_init 90 = .ok (.putfield 55, 3) := by decide +kernel
theorem dX6_init_93 : decode cX6_init 93 = .ok (.aload_n 0, 1) := by decide +kernel
theorem dX6_init_94 : decode cX6_init 94 = .ok (.new 48, 3) := by decide +kernel
theorem dX6_init_97 : decode cX6_init 97 = .ok (.dup, 1) := by decide +kernel
theorem dX6_init_98 : decode cX6_init 98 = .ok (.invokespecial 50, 3) := by decide +kernel
theorem dX6_init_101 : decode cX6_init 101 = .ok (.putfield 58, 3) := by decide +kernel
theorem dX6_init_104 : decode cX6_init 104 = .ok (.aload_n 0, 1) := by decide +kernel
theorem dX6_init_105 : decode cX6_init 105 = .ok (.new 16, 3) := by decide +kernel
theorem dX6_init_108 : decode cX6_init 108 = .ok (.dup, 1) := by decide +kernel
theorem dX6_init_109 : decode cX6_init 109 = .ok (.invokespecial 18, 3) := by decide +kernel
theorem dX6_init_112 : decode cX6_init 112 = .ok (.putfield 61, 3) := by decide +kernel
theorem dX6_init_115 : decode cX6_init 115 = .ok (.aload_n 0, 1) := by decide +kernel
theorem dX6_init_116 : decode cX6_init 116 = .ok (.new 23, 3) := by decide +kernel
theorem dX6_init_119 : decode cX6_init 119 = .ok (.dup, 1) := by decide +kernel
theorem dX6_init_120 : decode cX6_init 120 = .ok (.aload_n 0, 1) := by decide +kernel
theorem dX6_init_121 : decode cX6_init 121 = .ok (.getfield 61, 3) := by decide +kernel
theorem dX6_init_124 : decode cX6_init 124 = .ok (.invokespecial 25, 3) := by decide +kernel
theorem dX6_init_127 : decode cX6_init 127 = .ok (.putfield 64, 3) := by decide +kernel
theorem dX6_init_130 : decode cX6_init 130 = .ok (.return_, 1) := by decide +kernel
theorem dX6_letter_0 : decode cX6_letter 0 = .ok (.iload_n 1, 1) := by decide +kernel
theorem dX6_letter_1 : decode cX6_letter 1 = .ok (.bipush 32, 2) := by decide +kernel
theorem dX6_letter_3 : decode cX6_letter 3 = .ok (.if_icmp .lt 9, 3) := by decide +kernel
theorem dX6_letter_6 : decode cX6_letter 6 = .ok (.iload_n 1, 1) := by decide +kernel
theorem dX6_letter_7 : decode cX6_letter 7 = .ok (.bipush 126, 2) := by decide +kernel
theorem dX6_letter_9 : decode cX6_letter 9 = .ok (.if_icmp .le 6, 3) := by decide +kernel
theorem dX6_letter_12 : decode cX6_letter 12 = .ok (.bipush (-102), 2) := by decide +kernel
theorem dX6_letter_14 : decode cX6_letter 14 = .ok (.ireturn, 1) := by decide +kernel
theorem dX6_letter_15 : decode cX6_letter 15 = .ok (.aload_n 0, 1) := by decide +kernel
theorem dX6_letter_16 : decode cX6_letter 16 = .ok (.getfield 12, 3) := by decide +kernel
theorem dX6_letter_19 : decode cX6_letter 19 = .ok (.iload_n 1, 1) := by decide +kernel
theorem dX6_letter_20 : decode cX6_letter 20 = .ok (.invokevirtual 67, 3) := by decide +kernel
theorem dX6_letter_23 : decode cX6_letter 23 = .ok (.ifCond .eq 13, 3) := by decide +kernel
theorem dX6_letter_26 : decode cX6_letter 26 = .ok (.aload_n 0, 1) := by decide +kernel
theorem dX6_letter_27 : decode cX6_letter 27 = .ok (.getfield 12, 3) := by decide +kernel
theorem dX6_letter_30 : decode cX6_letter 30 = .ok (.getfield 71, 3) := by decide +kernel
theorem dX6_letter_33 : decode cX6_letter 33 = .ok (.goto 5, 3) := by decide +kernel
theorem dX6_letter_36 : decode cX6_letter 36 = .ok (.bipush (-104), 2) := by decide +kernel
theorem dX6_letter_38 : decode cX6_letter 38 = .ok (.ireturn, 1) := by decide +kernel
theorem dX6_blank_0 : decode cX6_blank 0 = .ok (.aload_n 0, 1) := by decide +kernel
theorem dX6_blank_1 : decode cX6_blank 1 = .ok (.getfield 12, 3) := by decide +kernel
theorem dX6_blank_4 : decode cX6_blank 4 = .ok (.getfield 71, 3) := by decide +kernel
theorem dX6_blank_7 : decode cX6_blank 7 = .ok (.istore_n 1, 1) := by decide +kernel
theorem dX6_blank_8 : decode cX6_blank 8 = .ok (.aload_n 0, 1) := by decide +kernel
theorem dX6_blank_9 : decode cX6_blank 9 = .ok (.getfield 12, 3) := by decide +kernel
theorem dX6_blank_12 : decode cX6_blank 12 = .ok (.iconst 0, 1) := by decide +kernel
theorem dX6_blank_13 : decode cX6_blank 13 = .ok (.putfield 71, 3) := by decide +kernel
theorem dX6_blank_16 : decode cX6_blank 16 = .ok (.iload_n 1, 1) := by decide +kernel
theorem dX6_blank_17 : decode cX6_blank 17 = .ok (.ireturn, 1) := by decide +kernel
theorem dX6_fault_0 : decode cX6_fault 0 = .ok (.aload_n 0, 1) := by decide +kernel
theorem dX6_fault_1 : decode cX6_fault 1 = .ok (.getfield 12, 3) := by decide +kernel
theorem dX6_fault_4 : decode cX6_fault 4 = .ok (.aload_n 0, 1) := by decide +kernel
theorem dX6_fault_5 : decode cX6_fault 5 = .ok (.getfield 61, 3) := by decide +kernel
theorem dX6_fault_8 : decode cX6_fault 8 = .ok (.invokevirtual 75, 3) := by decide +kernel
theorem dX6_fault_11 : decode cX6_fault 11 = .ok (.ireturn, 1) := by decide +kernel
theorem dX6_graph_0 : decode cX6_graph 0 = .ok (.aload_n 0, 1) := by decide +kernel
theorem dX6_graph_1 : decode cX6_graph 1 = .ok (.getfield 12, 3) := by decide +kernel
theorem dX6_graph_4 : decode cX6_graph 4 = .ok (.aload_n 0, 1) := by decide +kernel
theorem dX6_graph_5 : decode cX6_graph 5 = .ok (.getfield 61, 3) := by decide +kernel
theorem dX6_graph_8 : decode cX6_graph 8 = .ok (.invokevirtual 75, 3) := by decide +kernel
theorem dX6_graph_11 : decode cX6_graph 11 = .ok (.aload_n 0, 1) := by decide +kernel
theorem dX6_graph_12 : decode cX6_graph 12 = .ok (.getfield 12, 3) := by decide +kernel
theorem dX6_graph_15 : decode cX6_graph 15 = .ok (.getfield 71, 3) := by decide +kernel
theorem dX6_graph_18 : decode cX6_graph 18 = .ok (.if_icmp .lt 30, 3) := by decide +kernel
theorem dX6_graph_21 : decode cX6_graph 21 = .ok (.aload_n 0, 1) := by decide +kernel
theorem dX6_graph_22 : decode cX6_graph 22 = .ok (.getfield 12, 3) := by decide +kernel
theorem dX6_graph_25 : decode cX6_graph 25 = .ok (.getfield 79, 3) := by decide +kernel
theorem dX6_graph_28 : decode cX6_graph 28 = .ok (.ifCond .eq 20, 3) := by decide +kernel
theorem dX6_graph_31 : decode cX6_graph 31 = .ok (.aload_n 0, 1) := by decide +kernel
theorem dX6_graph_32 : decode cX6_graph 32 = .ok (.getfield 12, 3) := by decide +kernel
theorem dX6_graph_35 : decode cX6_graph 35 = .ok (.getfield 83, 3) := by decide +kernel
theorem dX6_graph_38 : decode cX6_graph 38 = .ok (.aload_n 0, 1) := by decide +kernel
theorem dX6_graph_39 : decode cX6_graph 39 = .ok (.getfield 61, 3) := by decide +kernel
theorem dX6_graph_42 : decode cX6_graph 42 = .ok (.getfield 86, 3) := by decide +kernel
theorem dX6_graph_45 : decode cX6_graph 45 = .ok (.if_icmp .lt 6, 3) := by decide +kernel
theorem dX6_graph_48 : decode cX6_graph 48 = .ok (.bipush (-103), 2) := by decide +kernel
theorem dX6_graph_50 : decode cX6_graph 50 = .ok (.ireturn, 1) := by decide +kernel
theorem dX6_graph_51 : decode cX6_graph 51 = .ok (.aload_n 0, 1) := by decide +kernel
theorem dX6_graph_52 : decode cX6_graph 52 = .ok (.getfield 12, 3) := by decide +kernel
theorem dX6_graph_55 : decode cX6_graph 55 = .ok (.iconst 0, 1) := by decide +kernel
theorem dX6_graph_56 : decode cX6_graph 56 = .ok (.putfield 71, 3) := by decide +kernel
theorem dX6_graph_59 : decode cX6_graph 59 = .ok (.aload_n 0, 1) := by decide +kernel
theorem dX6_graph_60 : decode cX6_graph 60 = .ok (.dup, 1) := by decide +kernel
theorem dX6_graph_61 : decode cX6_graph 61 = .ok (.getfield 89, 3) := by decide +kernel
theorem dX6_graph_64 : decode cX6_graph 64 = .ok (.iconst 1, 1) := by decide +kernel
theorem dX6_graph_65 : decode cX6_graph 65 = .ok (.iadd, 1) := by decide +kernel
theorem dX6_graph_66 : decode cX6_graph 66 = .ok (.putfield 89, 3) := by decide +kernel
theorem dX6_graph_69 : decode cX6_graph 69 = .ok (.aload_n 0, 1) := by decide +kernel
theorem dX6_graph_70 : decode cX6_graph 70 = .ok (.iconst 0, 1) := by decide +kernel
theorem dX6_graph_71 : decode cX6_graph 71 = .ok (.putfield 92, 3) := by decide +kernel
theorem dX6_graph_74 : decode cX6_graph 74 = .ok (.aload_n 0, 1) := by decide +kernel
theorem dX6_graph_75 : decode cX6_graph 75 = .ok (.getfield 44, 3) := by decide +kernel
theorem dX6_graph_78 : decode cX6_graph 78 = .ok (.iconst 0, 1) := by decide +kernel
theorem dX6_graph_79 : decode cX6_graph 79 = .ok (.putfield 95, 3) := by decide +kernel
theorem dX6_graph_82 : decode cX6_graph 82 = .ok (.aload_n 0, 1) := by decide +kernel
theorem dX6_graph_83 : decode cX6_graph 83 = .ok (.getfield 51, 3) := by decide +kernel
theorem dX6_graph_86 : decode cX6_graph 86 = .ok (.iconst 0, 1) := by decide +kernel
theorem dX6_graph_87 : decode cX6_graph 87 = .ok (.putfield 96, 3) := by decide +kernel
theorem dX6_graph_90 : decode cX6_graph 90 = .ok (.aload_n 0, 1) := by decide +kernel
theorem dX6_graph_91 : decode cX6_graph 91 = .ok (.getfield 19, 3) := by decide +kernel
theorem dX6_graph_94 : decode cX6_graph 94 = .ok (.aload_n 0, 1) := by decide +kernel
theorem dX6_graph_95 : decode cX6_graph 95 = .ok (.getfield 61, 3) := by decide +kernel
theorem dX6_graph_98 : decode cX6_graph 98 = .ok (.invokevirtual 97, 3) := by decide +kernel
theorem dX6_graph_101 : decode cX6_graph 101 = .ok (.aload_n 0, 1) := by decide +kernel
theorem dX6_graph_102 : decode cX6_graph 102 = .ok (.invokevirtual 100, 3) := by decide +kernel
theorem dX6_graph_105 : decode cX6_graph 105 = .ok (.aload_n 0, 1) := by decide +kernel
theorem dX6_graph_106 : decode cX6_graph 106 = .ok (.getfield 19, 3) := by decide +kernel
theorem dX6_graph_109 : decode cX6_graph 109 = .ok (.getfield 86, 3) := by decide +kernel
theorem dX6_graph_112 : decode cX6_graph 112 = .ok (.ireturn, 1) := by decide +kernel
theorem dX6_node_0 : decode cX6_node 0 = .ok (.aload_n 0, 1) := by decide +kernel
theorem dX6_node_1 : decode cX6_node 1 = .ok (.getfield 19, 3) := by decide +kernel
theorem dX6_node_4 : decode cX6_node 4 = .ok (.iload_n 1, 1) := by decide +kernel
theorem dX6_node_5 : decode cX6_node 5 = .ok (.invokevirtual 103, 3) := by decide +kernel
theorem dX6_node_8 : decode cX6_node 8 = .ok (.ifCond .ne 6, 3) := by decide +kernel
theorem dX6_node_11 : decode cX6_node 11 = .ok (.bipush (-101), 2) := by decide +kernel
theorem dX6_node_13 : decode cX6_node 13 = .ok (.ireturn, 1) := by decide +kernel
theorem dX6_node_14 : decode cX6_node 14 = .ok (.iload_n 2, 1) := by decide +kernel
theorem dX6_node_15 : decode cX6_node 15 = .ok (.tableswitch 162 0 9 #[53, 63, 73, 83, 92, 101, 118, 135, 144, 153], 53) := by decide +kernel
theorem dX6_node_68 : decode cX6_node 68 = .ok (.aload_n 0, 1) := by decide +kernel
theorem dX6_node_69 : decode cX6_node 69 = .ok (.getfield 19, 3) := by decide +kernel
theorem dX6_node_72 : decode cX6_node 72 = .ok (.getfield 106, 3) := by decide +kernel
theorem dX6_node_75 : decode cX6_node 75 = .ok (.iload_n 1, 1) := by decide +kernel
theorem dX6_node_76 : decode cX6_node 76 = .ok (.iaload, 1) := by decide +kernel
theorem dX6_node_77 : decode cX6_node 77 = .ok (.ireturn, 1) := by decide +kernel
theorem dX6_node_78 : decode cX6_node 78 = .ok (.aload_n 0, 1) := by decide +kernel
theorem dX6_node_79 : decode cX6_node 79 = .ok (.getfield 19, 3) := by decide +kernel
theorem dX6_node_82 : decode cX6_node 82 = .ok (.getfield 110, 3) := by decide +kernel
theorem dX6_node_85 : decode cX6_node 85 = .ok (.iload_n 1, 1) := by decide +kernel
theorem dX6_node_86 : decode cX6_node 86 = .ok (.iaload, 1) := by decide +kernel
theorem dX6_node_87 : decode cX6_node 87 = .ok (.ireturn, 1) := by decide +kernel
theorem dX6_node_88 : decode cX6_node 88 = .ok (.aload_n 0, 1) := by decide +kernel
theorem dX6_node_89 : decode cX6_node 89 = .ok (.getfield 19, 3) := by decide +kernel
theorem dX6_node_92 : decode cX6_node 92 = .ok (.getfield 113, 3) := by decide +kernel
theorem dX6_node_95 : decode cX6_node 95 = .ok (.iload_n 1, 1) := by decide +kernel
theorem dX6_node_96 : decode cX6_node 96 = .ok (.iaload, 1) := by decide +kernel
theorem dX6_node_97 : decode cX6_node 97 = .ok (.ireturn, 1) := by decide +kernel
theorem dX6_node_98 : decode cX6_node 98 = .ok (.aload_n 0, 1) := by decide +kernel
theorem dX6_node_99 : decode cX6_node 99 = .ok (.getfield 28, 3) := by decide +kernel
theorem dX6_node_102 : decode cX6_node 102 = .ok (.iload_n 1, 1) := by decide +kernel
theorem dX6_node_103 : decode cX6_node 103 = .ok (.invokevirtual 116, 3) := by decide +kernel
theorem dX6_node_106 : decode cX6_node 106 = .ok (.ireturn, 1) := by decide +kernel
theorem dX6_node_107 : decode cX6_node 107 = .ok (.aload_n 0, 1) := by decide +kernel
theorem dX6_node_108 : decode cX6_node 108 = .ok (.getfield 28, 3) := by decide +kernel
theorem dX6_node_111 : decode cX6_node 111 = .ok (.iload_n 1, 1) := by decide +kernel
theorem dX6_node_112 : decode cX6_node 112 = .ok (.invokevirtual 120, 3) := by decide +kernel
theorem dX6_node_115 : decode cX6_node 115 = .ok (.ireturn, 1) := by decide +kernel
theorem dX6_node_116 : decode cX6_node 116 = .ok (.aload_n 0, 1) := by decide +kernel
theorem dX6_node_117 : decode cX6_node 117 = .ok (.getfield 28, 3) := by decide +kernel
theorem dX6_node_120 : decode cX6_node 120 = .ok (.iload_n 1, 1) := by decide +kernel
theorem dX6_node_121 : decode cX6_node 121 = .ok (.invokevirtual 123, 3) := by decide +kernel
theorem dX6_node_124 : decode cX6_node 124 = .ok (.ifCond .eq 7, 3) := by decide +kernel
theorem dX6_node_127 : decode cX6_node 127 = .ok (.iconst 1, 1) := by decide +kernel
theorem dX6_node_128 : decode cX6_node 128 = .ok (.goto 4, 3) := by decide +kernel
theorem dX6_node_131 : decode cX6_node 131 = .ok (.iconst 0, 1) := by decide +kernel
theorem dX6_node_132 : decode cX6_node 132 = .ok (.ireturn, 1) := by decide +kernel
theorem dX6_node_133 : decode cX6_node 133 = .ok (.aload_n 0, 1) := by decide +kernel
theorem dX6_node_134 : decode cX6_node 134 = .ok (.getfield 28, 3) := by decide +kernel
theorem dX6_node_137 : decode cX6_node 137 = .ok (.iload_n 1, 1) := by decide +kernel
theorem dX6_node_138 : decode cX6_node 138 = .ok (.invokevirtual 126, 3) := by decide +kernel
theorem dX6_node_141 : decode cX6_node 141 = .ok (.ifCond .eq 7, 3) := by decide +kernel
theorem dX6_node_144 : decode cX6_node 144 = .ok (.iconst 1, 1) := by decide +kernel
theorem dX6_node_145 : decode cX6_node 145 = .ok (.goto 4, 3) := by decide +kernel
theorem dX6_node_148 : decode cX6_node 148 = .ok (.iconst 0, 1) := by decide +kernel
theorem dX6_node_149 : decode cX6_node 149 = .ok (.ireturn, 1) := by decide +kernel
theorem dX6_node_150 : decode cX6_node 150 = .ok (.aload_n 0, 1) := by decide +kernel
theorem dX6_node_151 : decode cX6_node 151 = .ok (.getfield 28, 3) := by decide +kernel
theorem dX6_node_154 : decode cX6_node 154 = .ok (.iload_n 1, 1) := by decide +kernel
theorem dX6_node_155 : decode cX6_node 155 = .ok (.invokevirtual 129, 3) := by decide +kernel
theorem dX6_node_158 : decode cX6_node 158 = .ok (.ireturn, 1) := by decide +kernel
theorem dX6_node_159 : decode cX6_node 159 = .ok (.aload_n 0, 1) := by decide +kernel
theorem dX6_node_160 : decode cX6_node 160 = .ok (.getfield 51, 3) := by decide +kernel
theorem dX6_node_163 : decode cX6_node 163 = .ok (.iload_n 1, 1) := by decide +kernel
theorem dX6_node_164 : decode cX6_node 164 = .ok (.invokevirtual 132, 3) := by decide +kernel
theorem dX6_node_167 : decode cX6_node 167 = .ok (.ireturn, 1) := by decide +kernel
theorem dX6_node_168 : decode cX6_node 168 = .ok (.aload_n 0, 1) := by decide +kernel
theorem dX6_node_169 : decode cX6_node 169 = .ok (.getfield 51, 3) := by decide +kernel
theorem dX6_node_172 : decode cX6_node 172 = .ok (.iload_n 1, 1) := by decide +kernel
theorem dX6_node_173 : decode cX6_node 173 = .ok (.invokevirtual 135, 3) := by decide +kernel
theorem dX6_node_176 : decode cX6_node 176 = .ok (.ireturn, 1) := by decide +kernel
theorem dX6_node_177 : decode cX6_node 177 = .ok (.bipush (-102), 2) := by decide +kernel
theorem dX6_node_179 : decode cX6_node 179 = .ok (.ireturn, 1) := by decide +kernel
theorem dX6_as_0 : decode cX6_as 0 = .ok (.aload_n 0, 1) := by decide +kernel
theorem dX6_as_1 : decode cX6_as 1 = .ok (.getfield 19, 3) := by decide +kernel
theorem dX6_as_4 : decode cX6_as 4 = .ok (.iload_n 1, 1) := by decide +kernel
theorem dX6_as_5 : decode cX6_as 5 = .ok (.invokevirtual 103, 3) := by decide +kernel
theorem dX6_as_8 : decode cX6_as 8 = .ok (.ifCond .ne 6, 3) := by decide +kernel
theorem dX6_as_11 : decode cX6_as 11 = .ok (.bipush (-101), 2) := by decide +kernel
theorem dX6_as_13 : decode cX6_as 13 = .ok (.ireturn, 1) := by decide +kernel
theorem dX6_as_14 : decode cX6_as 14 = .ok (.iload_n 2, 1) := by decide +kernel
theorem dX6_as_15 : decode cX6_as 15 = .ok (.invokestatic 138, 3) := by decide +kernel
theorem dX6_as_18 : decode cX6_as 18 = .ok (.ifCond .ne 6, 3) := by decide +kernel
theorem dX6_as_21 : decode cX6_as 21 = .ok (.bipush (-102), 2) := by decide +kernel
theorem dX6_as_23 : decode cX6_as 23 = .ok (.ireturn, 1) := by decide +kernel
theorem dX6_as_24 : decode cX6_as 24 = .ok (.aload_n 0, 1) := by decide +kernel
theorem dX6_as_25 : decode cX6_as 25 = .ok (.getfield 19, 3) := by decide +kernel
theorem dX6_as_28 : decode cX6_as 28 = .ok (.getfield 106, 3) := by decide +kernel
theorem dX6_as_31 : decode cX6_as 31 = .ok (.iload_n 1, 1) := by decide +kernel
theorem dX6_as_32 : decode cX6_as 32 = .ok (.iaload, 1) := by decide +kernel
theorem dX6_as_33 : decode cX6_as 33 = .ok (.istore_n 3, 1) := by decide +kernel
theorem dX6_as_34 : decode cX6_as 34 = .ok (.iload_n 2, 1) := by decide +kernel
theorem dX6_as_35 : decode cX6_as 35 = .ok (.iload_n 3, 1) := by decide +kernel
theorem dX6_as_36 : decode cX6_as 36 = .ok (.if_icmp .eq 17, 3) := by decide +kernel
theorem dX6_as_39 : decode cX6_as 39 = .ok (.iload_n 2, 1) := by decide +kernel
theorem dX6_as_40 : decode cX6_as 40 = .ok (.ifCond .eq 13, 3) := by decide +kernel
theorem dX6_as_43 : decode cX6_as 43 = .ok (.iload_n 2, 1) := by decide +kernel
theorem dX6_as_44 : decode cX6_as 44 = .ok (.iconst 3, 1) := by decide +kernel
theorem dX6_as_45 : decode cX6_as 45 = .ok (.if_icmp .ne 12, 3) := by decide +kernel
theorem dX6_as_48 : decode cX6_as 48 = .ok (.iload_n 3, 1) := by decide +kernel
theorem dX6_as_49 : decode cX6_as 49 = .ok (.iconst 4, 1) := by decide +kernel
theorem dX6_as_50 : decode cX6_as 50 = .ok (.if_icmp .ne 7, 3) := by decide +kernel
theorem dX6_as_53 : decode cX6_as 53 = .ok (.iconst 1, 1) := by decide +kernel
theorem dX6_as_54 : decode cX6_as 54 = .ok (.goto 4, 3) := by decide +kernel
theorem dX6_as_57 : decode cX6_as 57 = .ok (.iconst 0, 1) := by decide +kernel
theorem dX6_as_58 : decode cX6_as 58 = .ok (.istore 4, 2) := by decide +kernel
theorem dX6_as_60 : decode cX6_as 60 = .ok (.iload 4, 2) := by decide +kernel
theorem dX6_as_62 : decode cX6_as 62 = .ok (.ifCond .eq 7, 3) := by decide +kernel
theorem dX6_as_65 : decode cX6_as 65 = .ok (.iload_n 1, 1) := by decide +kernel
theorem dX6_as_66 : decode cX6_as 66 = .ok (.goto 4, 3) := by decide +kernel
theorem dX6_as_69 : decode cX6_as 69 = .ok (.iconst (-1), 1) := by decide +kernel
theorem dX6_as_70 : decode cX6_as 70 = .ok (.ireturn, 1) := by decide +kernel
theorem dX6_dominates_0 : decode cX6_dominates 0 = .ok (.aload_n 0, 1) := by decide +kernel
theorem dX6_dominates_1 : decode cX6_dominates 1 = .ok (.getfield 19, 3) := by decide +kernel
theorem dX6_dominates_4 : decode cX6_dominates 4 = .ok (.iload_n 1, 1) := by decide +kernel
theorem dX6_dominates_5 : decode cX6_dominates 5 = .ok (.invokevirtual 103, 3) := by decide +kernel
theorem dX6_dominates_8 : decode cX6_dominates 8 = .ok (.ifCond .eq 14, 3) := by decide +kernel
theorem dX6_dominates_11 : decode cX6_dominates 11 = .ok (.aload_n 0, 1) := by decide +kernel
theorem dX6_dominates_12 : decode cX6_dominates 12 = .ok (.getfield 19, 3) := by decide +kernel
theorem dX6_dominates_15 : decode cX6_dominates 15 = .ok (.iload_n 2, 1) := by decide +kernel
theorem dX6_dominates_16 : decode cX6_dominates 16 = .ok (.invokevirtual 103, 3) := by decide +kernel
theorem dX6_dominates_19 : decode cX6_dominates 19 = .ok (.ifCond .ne 6, 3) := by decide +kernel
theorem dX6_dominates_22 : decode cX6_dominates 22 = .ok (.bipush (-101), 2) := by decide +kernel
theorem dX6_dominates_24 : decode cX6_dominates 24 = .ok (.ireturn, 1) := by decide +kernel
theorem dX6_dominates_25 : decode cX6_dominates 25 = .ok (.aload_n 0, 1) := by decide +kernel
theorem dX6_dominates_26 : decode cX6_dominates 26 = .ok (.getfield 28, 3) := by decide +kernel
theorem dX6_dominates_29 : decode cX6_dominates 29 = .ok (.iload_n 1, 1) := by decide +kernel
theorem dX6_dominates_30 : decode cX6_dominates 30 = .ok (.iload_n 2, 1) := by decide +kernel
theorem dX6_dominates_31 : decode cX6_dominates 31 = .ok (.invokevirtual 141, 3) := by decide +kernel
theorem dX6_dominates_34 : decode cX6_dominates 34 = .ok (.ifCond .eq 7, 3) := by decide +kernel
theorem dX6_dominates_37 : decode cX6_dominates 37 = .ok (.iconst 1, 1) := by decide +kernel
theorem dX6_dominates_38 : decode cX6_dominates 38 = .ok (.goto 4, 3) := by decide +kernel
theorem dX6_dominates_41 : decode cX6_dominates 41 = .ok (.iconst 0, 1) := by decide +kernel
theorem dX6_dominates_42 : decode cX6_dominates 42 = .ok (.ireturn, 1) := by decide +kernel
theorem dX6_edge_0 : decode cX6_edge 0 = .ok (.aload_n 0, 1) := by decide +kernel
theorem dX6_edge_1 : decode cX6_edge 1 = .ok (.getfield 19, 3) := by decide +kernel
theorem dX6_edge_4 : decode cX6_edge 4 = .ok (.iload_n 1, 1) := by decide +kernel
theorem dX6_edge_5 : decode cX6_edge 5 = .ok (.invokevirtual 103, 3) := by decide +kernel
theorem dX6_edge_8 : decode cX6_edge 8 = .ok (.ifCond .ne 6, 3) := by decide +kernel
theorem dX6_edge_11 : decode cX6_edge 11 = .ok (.bipush (-101), 2) := by decide +kernel
theorem dX6_edge_13 : decode cX6_edge 13 = .ok (.ireturn, 1) := by decide +kernel
theorem dX6_edge_14 : decode cX6_edge 14 = .ok (.iload_n 2, 1) := by decide +kernel
theorem dX6_edge_15 : decode cX6_edge 15 = .ok (.invokestatic 145, 3) := by decide +kernel
theorem dX6_edge_18 : decode cX6_edge 18 = .ok (.ifCond .ne 6, 3) := by decide +kernel
theorem dX6_edge_21 : decode cX6_edge 21 = .ok (.bipush (-102), 2) := by decide +kernel
theorem dX6_edge_23 : decode cX6_edge 23 = .ok (.ireturn, 1) := by decide +kernel
theorem dX6_edge_24 : decode cX6_edge 24 = .ok (.aload_n 0, 1) := by decide +kernel
theorem dX6_edge_25 : decode cX6_edge 25 = .ok (.getfield 28, 3) := by decide +kernel
theorem dX6_edge_28 : decode cX6_edge 28 = .ok (.iload_n 1, 1) := by decide +kernel
theorem dX6_edge_29 : decode cX6_edge 29 = .ok (.iload_n 2, 1) := by decide +kernel
theorem dX6_edge_30 : decode cX6_edge 30 = .ok (.invokevirtual 148, 3) := by decide +kernel
theorem dX6_edge_33 : decode cX6_edge 33 = .ok (.ireturn, 1) := by decide +kernel
theorem dX6_aim_0 : decode cX6_aim 0 = .ok (.aload_n 0, 1) := by decide +kernel
theorem dX6_aim_1 : decode cX6_aim 1 = .ok (.getfield 19, 3) := by decide +kernel
theorem dX6_aim_4 : decode cX6_aim 4 = .ok (.iload_n 1, 1) := by decide +kernel
theorem dX6_aim_5 : decode cX6_aim 5 = .ok (.invokevirtual 103, 3) := by decide +kernel
theorem dX6_aim_8 : decode cX6_aim 8 = .ok (.ifCond .eq 14, 3) := by decide +kernel
theorem dX6_aim_11 : decode cX6_aim 11 = .ok (.aload_n 0, 1) := by decide +kernel
theorem dX6_aim_12 : decode cX6_aim 12 = .ok (.getfield 19, 3) := by decide +kernel
theorem dX6_aim_15 : decode cX6_aim 15 = .ok (.iload_n 3, 1) := by decide +kernel
theorem dX6_aim_16 : decode cX6_aim 16 = .ok (.invokevirtual 103, 3) := by decide +kernel
theorem dX6_aim_19 : decode cX6_aim 19 = .ok (.ifCond .ne 6, 3) := by decide +kernel
theorem dX6_aim_22 : decode cX6_aim 22 = .ok (.bipush (-101), 2) := by decide +kernel
theorem dX6_aim_24 : decode cX6_aim 24 = .ok (.ireturn, 1) := by decide +kernel
theorem dX6_aim_25 : decode cX6_aim 25 = .ok (.iload_n 2, 1) := by decide +kernel
theorem dX6_aim_26 : decode cX6_aim 26 = .ok (.invokestatic 145, 3) := by decide +kernel
theorem dX6_aim_29 : decode cX6_aim 29 = .ok (.ifCond .ne 6, 3) := by decide +kernel
theorem dX6_aim_32 : decode cX6_aim 32 = .ok (.bipush (-102), 2) := by decide +kernel
theorem dX6_aim_34 : decode cX6_aim 34 = .ok (.ireturn, 1) := by decide +kernel
theorem dX6_aim_35 : decode cX6_aim 35 = .ok (.aload_n 0, 1) := by decide +kernel
theorem dX6_aim_36 : decode cX6_aim 36 = .ok (.getfield 19, 3) := by decide +kernel
theorem dX6_aim_39 : decode cX6_aim 39 = .ok (.iload_n 1, 1) := by decide +kernel
theorem dX6_aim_40 : decode cX6_aim 40 = .ok (.iload_n 2, 1) := by decide +kernel
theorem dX6_aim_41 : decode cX6_aim 41 = .ok (.invokevirtual 152, 3) := by decide +kernel
theorem dX6_aim_44 : decode cX6_aim 44 = .ok (.istore 4, 2) := by decide +kernel
theorem dX6_aim_46 : decode cX6_aim 46 = .ok (.aload_n 0, 1) := by decide +kernel
theorem dX6_aim_47 : decode cX6_aim 47 = .ok (.getfield 19, 3) := by decide +kernel
theorem dX6_aim_50 : decode cX6_aim 50 = .ok (.iload_n 1, 1) := by decide +kernel
theorem dX6_aim_51 : decode cX6_aim 51 = .ok (.iload_n 2, 1) := by decide +kernel
theorem dX6_aim_52 : decode cX6_aim 52 = .ok (.iload_n 3, 1) := by decide +kernel
theorem dX6_aim_53 : decode cX6_aim 53 = .ok (.invokevirtual 155, 3) := by decide +kernel
theorem dX6_aim_56 : decode cX6_aim 56 = .ok (.aload_n 0, 1) := by decide +kernel
theorem dX6_aim_57 : decode cX6_aim 57 = .ok (.invokevirtual 100, 3) := by decide +kernel
theorem dX6_aim_60 : decode cX6_aim 60 = .ok (.iload 4, 2) := by decide +kernel
theorem dX6_aim_62 : decode cX6_aim 62 = .ok (.ireturn, 1) := by decide +kernel
theorem dX6_be_0 : decode cX6_be 0 = .ok (.aload_n 0, 1) := by decide +kernel
theorem dX6_be_1 : decode cX6_be 1 = .ok (.getfield 19, 3) := by decide +kernel
theorem dX6_be_4 : decode cX6_be 4 = .ok (.iload_n 1, 1) := by decide +kernel
theorem dX6_be_5 : decode cX6_be 5 = .ok (.invokevirtual 103, 3) := by decide +kernel
theorem dX6_be_8 : decode cX6_be 8 = .ok (.ifCond .ne 6, 3) := by decide +kernel
theorem dX6_be_11 : decode cX6_be 11 = .ok (.bipush (-101), 2) := by decide +kernel
theorem dX6_be_13 : decode cX6_be 13 = .ok (.ireturn, 1) := by decide +kernel
theorem dX6_be_14 : decode cX6_be 14 = .ok (.iload_n 2, 1) := by decide +kernel
theorem dX6_be_15 : decode cX6_be 15 = .ok (.invokestatic 138, 3) := by decide +kernel
theorem dX6_be_18 : decode cX6_be 18 = .ok (.ifCond .ne 6, 3) := by decide +kernel
theorem dX6_be_21 : decode cX6_be 21 = .ok (.bipush (-102), 2) := by decide +kernel
theorem dX6_be_23 : decode cX6_be 23 = .ok (.ireturn, 1) := by decide +kernel
theorem dX6_be_24 : decode cX6_be 24 = .ok (.aload_n 0, 1) := by decide +kernel
theorem dX6_be_25 : decode cX6_be 25 = .ok (.getfield 19, 3) := by decide +kernel
theorem dX6_be_28 : decode cX6_be 28 = .ok (.getfield 106, 3) := by decide +kernel
theorem dX6_be_31 : decode cX6_be 31 = .ok (.iload_n 1, 1) := by decide +kernel
theorem dX6_be_32 : decode cX6_be 32 = .ok (.iaload, 1) := by decide +kernel
theorem dX6_be_33 : decode cX6_be 33 = .ok (.istore_n 3, 1) := by decide +kernel
theorem dX6_be_34 : decode cX6_be 34 = .ok (.aload_n 0, 1) := by decide +kernel
theorem dX6_be_35 : decode cX6_be 35 = .ok (.getfield 19, 3) := by decide +kernel
theorem dX6_be_38 : decode cX6_be 38 = .ok (.getfield 106, 3) := by decide +kernel
theorem dX6_be_41 : decode cX6_be 41 = .ok (.iload_n 1, 1) := by decide +kernel
theorem dX6_be_42 : decode cX6_be 42 = .ok (.iload_n 2, 1) := by decide +kernel
theorem dX6_be_43 : decode cX6_be 43 = .ok (.iastore, 1) := by decide +kernel
theorem dX6_be_44 : decode cX6_be 44 = .ok (.aload_n 0, 1) := by decide +kernel
theorem dX6_be_45 : decode cX6_be 45 = .ok (.invokevirtual 100, 3) := by decide +kernel
theorem dX6_be_48 : decode cX6_be 48 = .ok (.iload_n 3, 1) := by decide +kernel
theorem dX6_be_49 : decode cX6_be 49 = .ok (.ireturn, 1) := by decide +kernel
theorem dX6_walk_0 : decode cX6_walk 0 = .ok (.iload_n 1, 1) := by decide +kernel
theorem dX6_walk_1 : decode cX6_walk 1 = .ok (.ifCond .ge 6, 3) := by decide +kernel
theorem dX6_walk_4 : decode cX6_walk 4 = .ok (.bipush (-102), 2) := by decide +kernel
theorem dX6_walk_6 : decode cX6_walk 6 = .ok (.ireturn, 1) := by decide +kernel
theorem dX6_walk_7 : decode cX6_walk 7 = .ok (.aload_n 0, 1) := by decide +kernel
theorem dX6_walk_8 : decode cX6_walk 8 = .ok (.getfield 19, 3) := by decide +kernel
theorem dX6_walk_11 : decode cX6_walk 11 = .ok (.getfield 86, 3) := by decide +kernel
theorem dX6_walk_14 : decode cX6_walk 14 = .ok (.ifCond .ne 6, 3) := by decide +kernel
theorem dX6_walk_17 : decode cX6_walk 17 = .ok (.bipush (-103), 2) := by decide +kernel
theorem dX6_walk_19 : decode cX6_walk 19 = .ok (.ireturn, 1) := by decide +kernel
theorem dX6_walk_20 : decode cX6_walk 20 = .ok (.aload_n 0, 1) := by decide +kernel
theorem dX6_walk_21 : decode cX6_walk 21 = .ok (.getfield 44, 3) := by decide +kernel
theorem dX6_walk_24 : decode cX6_walk 24 = .ok (.aload_n 0, 1) := by decide +kernel
theorem dX6_walk_25 : decode cX6_walk 25 = .ok (.getfield 19, 3) := by decide +kernel
theorem dX6_walk_28 : decode cX6_walk 28 = .ok (.iload_n 1, 1) := by decide +kernel
theorem dX6_walk_29 : decode cX6_walk 29 = .ok (.invokevirtual 159, 3) := by decide +kernel
theorem dX6_walk_32 : decode cX6_walk 32 = .ok (.aload_n 0, 1) := by decide +kernel
theorem dX6_walk_33 : decode cX6_walk 33 = .ok (.getfield 44, 3) := by decide +kernel
theorem dX6_walk_36 : decode cX6_walk 36 = .ok (.getfield 95, 3) := by decide +kernel
theorem dX6_walk_39 : decode cX6_walk 39 = .ok (.ireturn, 1) := by decide +kernel
theorem dX6_visit_0 : decode cX6_visit 0 = .ok (.iload_n 1, 1) := by decide +kernel
theorem dX6_visit_1 : decode cX6_visit 1 = .ok (.ifCond .lt 26, 3) := by decide +kernel
theorem dX6_visit_4 : decode cX6_visit 4 = .ok (.iload_n 1, 1) := by decide +kernel
theorem dX6_visit_5 : decode cX6_visit 5 = .ok (.aload_n 0, 1) := by decide +kernel
theorem dX6_visit_6 : decode cX6_visit 6 = .ok (.getfield 44, 3) := by decide +kernel
theorem dX6_visit_9 : decode cX6_visit 9 = .ok (.getfield 95, 3) := by decide +kernel
theorem dX6_visit_12 : decode cX6_visit 12 = .ok (.if_icmp .ge 15, 3) := by decide +kernel
theorem dX6_visit_15 : decode cX6_visit 15 = .ok (.aload_n 0, 1) := by decide +kernel
theorem dX6_visit_16 : decode cX6_visit 16 = .ok (.getfield 44, 3) := by decide +kernel
theorem dX6_visit_19 : decode cX6_visit 19 = .ok (.getfield 163, 3) := by decide +kernel
theorem dX6_visit_22 : decode cX6_visit 22 = .ok (.iload_n 1, 1) := by decide +kernel
theorem dX6_visit_23 : decode cX6_visit 23 = .ok (.iaload, 1) := by decide +kernel
theorem dX6_visit_24 : decode cX6_visit 24 = .ok (.goto 5, 3) := by decide +kernel
theorem dX6_visit_27 : decode cX6_visit 27 = .ok (.bipush (-101), 2) := by decide +kernel
theorem dX6_visit_29 : decode cX6_visit 29 = .ok (.ireturn, 1) := by decide +kernel
theorem dX6_sign_0 : decode cX6_sign 0 = .ok (.iload_n 1, 1) := by decide +kernel
theorem dX6_sign_1 : decode cX6_sign 1 = .ok (.ifCond .lt 26, 3) := by decide +kernel
theorem dX6_sign_4 : decode cX6_sign 4 = .ok (.iload_n 1, 1) := by decide +kernel
theorem dX6_sign_5 : decode cX6_sign 5 = .ok (.aload_n 0, 1) := by decide +kernel
theorem dX6_sign_6 : decode cX6_sign 6 = .ok (.getfield 37, 3) := by decide +kernel
theorem dX6_sign_9 : decode cX6_sign 9 = .ok (.getfield 166, 3) := by decide +kernel
theorem dX6_sign_12 : decode cX6_sign 12 = .ok (.if_icmp .ge 15, 3) := by decide +kernel
theorem dX6_sign_15 : decode cX6_sign 15 = .ok (.aload_n 0, 1) := by decide +kernel
theorem dX6_sign_16 : decode cX6_sign 16 = .ok (.getfield 37, 3) := by decide +kernel
theorem dX6_sign_19 : decode cX6_sign 19 = .ok (.getfield 167, 3) := by decide +kernel
theorem dX6_sign_22 : decode cX6_sign 22 = .ok (.iload_n 1, 1) := by decide +kernel
theorem dX6_sign_23 : decode cX6_sign 23 = .ok (.iaload, 1) := by decide +kernel
theorem dX6_sign_24 : decode cX6_sign 24 = .ok (.goto 5, 3) := by decide +kernel
theorem dX6_sign_27 : decode cX6_sign 27 = .ok (.bipush (-101), 2) := by decide +kernel
theorem dX6_sign_29 : decode cX6_sign 29 = .ok (.ireturn, 1) := by decide +kernel
theorem dX6_fold_0 : decode cX6_fold 0 = .ok (.iload_n 1, 1) := by decide +kernel
theorem dX6_fold_1 : decode cX6_fold 1 = .ok (.ifCond .lt 8, 3) := by decide +kernel
theorem dX6_fold_4 : decode cX6_fold 4 = .ok (.iload_n 1, 1) := by decide +kernel
theorem dX6_fold_5 : decode cX6_fold 5 = .ok (.iconst 4, 1) := by decide +kernel
theorem dX6_fold_6 : decode cX6_fold 6 = .ok (.if_icmp .lt 6, 3) := by decide +kernel
theorem dX6_fold_9 : decode cX6_fold 9 = .ok (.bipush (-102), 2) := by decide +kernel
theorem dX6_fold_11 : decode cX6_fold 11 = .ok (.ireturn, 1) := by decide +kernel
theorem dX6_fold_12 : decode cX6_fold 12 = .ok (.aload_n 0, 1) := by decide +kernel
theorem dX6_fold_13 : decode cX6_fold 13 = .ok (.getfield 19, 3) := by decide +kernel
theorem dX6_fold_16 : decode cX6_fold 16 = .ok (.getfield 86, 3) := by decide +kernel
theorem dX6_fold_19 : decode cX6_fold 19 = .ok (.ifCond .ne 6, 3) := by decide +kernel
theorem dX6_fold_22 : decode cX6_fold 22 = .ok (.bipush (-103), 2) := by decide +kernel
theorem dX6_fold_24 : decode cX6_fold 24 = .ok (.ireturn, 1) := by decide +kernel
theorem dX6_fold_25 : decode cX6_fold 25 = .ok (.aload_n 0, 1) := by decide +kernel
theorem dX6_fold_26 : decode cX6_fold 26 = .ok (.getfield 28, 3) := by decide +kernel
theorem dX6_fold_29 : decode cX6_fold 29 = .ok (.invokevirtual 168, 3) := by decide +kernel
theorem dX6_fold_32 : decode cX6_fold 32 = .ok (.ifCond .ne 5, 3) := by decide +kernel
theorem dX6_fold_35 : decode cX6_fold 35 = .ok (.iconst (-1), 1) := by decide +kernel
theorem dX6_fold_36 : decode cX6_fold 36 = .ok (.ireturn, 1) := by decide +kernel
theorem dX6_fold_37 : decode cX6_fold 37 = .ok (.iload_n 1, 1) := by decide +kernel
theorem dX6_fold_38 : decode cX6_fold 38 = .ok (.tableswitch 50 0 2 #[26, 34, 42], 26) := by decide +kernel
theorem dX6_fold_64 : decode cX6_fold 64 = .ok (.aload_n 0, 1) := by decide +kernel
theorem dX6_fold_65 : decode cX6_fold 65 = .ok (.getfield 37, 3) := by decide +kernel
theorem dX6_fold_68 : decode cX6_fold 68 = .ok (.getfield 166, 3) := by decide +kernel
theorem dX6_fold_71 : decode cX6_fold 71 = .ok (.ireturn, 1) := by decide +kernel
theorem dX6_fold_72 : decode cX6_fold 72 = .ok (.aload_n 0, 1) := by decide +kernel
theorem dX6_fold_73 : decode cX6_fold 73 = .ok (.getfield 37, 3) := by decide +kernel
theorem dX6_fold_76 : decode cX6_fold 76 = .ok (.getfield 172, 3) := by decide +kernel
theorem dX6_fold_79 : decode cX6_fold 79 = .ok (.ireturn, 1) := by decide +kernel
theorem dX6_fold_80 : decode cX6_fold 80 = .ok (.aload_n 0, 1) := by decide +kernel
theorem dX6_fold_81 : decode cX6_fold 81 = .ok (.getfield 37, 3) := by decide +kernel
theorem dX6_fold_84 : decode cX6_fold 84 = .ok (.getfield 175, 3) := by decide +kernel
theorem dX6_fold_87 : decode cX6_fold 87 = .ok (.ireturn, 1) := by decide +kernel
theorem dX6_fold_88 : decode cX6_fold 88 = .ok (.aload_n 0, 1) := by decide +kernel
theorem dX6_fold_89 : decode cX6_fold 89 = .ok (.getfield 37, 3) := by decide +kernel
theorem dX6_fold_92 : decode cX6_fold 92 = .ok (.getfield 178, 3) := by decide +kernel
theorem dX6_fold_95 : decode cX6_fold 95 = .ok (.ireturn, 1) := by decide +kernel
theorem dX6_mend_0 : decode cX6_mend 0 = .ok (.iload_n 1, 1) := by decide +kernel
theorem dX6_mend_1 : decode cX6_mend 1 = .ok (.ifCond .lt 8, 3) := by decide +kernel
theorem dX6_mend_4 : decode cX6_mend 4 = .ok (.iload_n 1, 1) := by decide +kernel
theorem dX6_mend_5 : decode cX6_mend 5 = .ok (.iconst 1, 1) := by decide +kernel
theorem dX6_mend_6 : decode cX6_mend 6 = .ok (.if_icmp .le 6, 3) := by decide +kernel
theorem dX6_mend_9 : decode cX6_mend 9 = .ok (.bipush (-102), 2) := by decide +kernel
theorem dX6_mend_11 : decode cX6_mend 11 = .ok (.ireturn, 1) := by decide +kernel
theorem dX6_mend_12 : decode cX6_mend 12 = .ok (.aload_n 0, 1) := by decide +kernel
theorem dX6_mend_13 : decode cX6_mend 13 = .ok (.getfield 19, 3) := by decide +kernel
theorem dX6_mend_16 : decode cX6_mend 16 = .ok (.getfield 86, 3) := by decide +kernel
theorem dX6_mend_19 : decode cX6_mend 19 = .ok (.ifCond .eq 11, 3) := by decide +kernel
theorem dX6_mend_22 : decode cX6_mend 22 = .ok (.aload_n 0, 1) := by decide +kernel
theorem dX6_mend_23 : decode cX6_mend 23 = .ok (.getfield 181, 3) := by decide +kernel
theorem dX6_mend_26 : decode cX6_mend 26 = .ok (.iconst 5, 1) := by decide +kernel
theorem dX6_mend_27 : decode cX6_mend 27 = .ok (.if_icmp .lt 6, 3) := by decide +kernel
theorem dX6_mend_30 : decode cX6_mend 30 = .ok (.bipush (-103), 2) := by decide +kernel
theorem dX6_mend_32 : decode cX6_mend 32 = .ok (.ireturn, 1) := by decide +kernel
theorem dX6_mend_33 : decode cX6_mend 33 = .ok (.aload_n 0, 1) := by decide +kernel
theorem dX6_mend_34 : decode cX6_mend 34 = .ok (.dup, 1) := by decide +kernel
theorem dX6_mend_35 : decode cX6_mend 35 = .ok (.getfield 181, 3) := by decide +kernel
theorem dX6_mend_38 : decode cX6_mend 38 = .ok (.iconst 1, 1) := by decide +kernel
theorem dX6_mend_39 : decode cX6_mend 39 = .ok (.iadd, 1) := by decide +kernel
theorem dX6_mend_40 : decode cX6_mend 40 = .ok (.putfield 181, 3) := by decide +kernel
theorem dX6_mend_43 : decode cX6_mend 43 = .ok (.aload_n 0, 1) := by decide +kernel
theorem dX6_mend_44 : decode cX6_mend 44 = .ok (.invokevirtual 184, 3) := by decide +kernel
theorem dX6_mend_47 : decode cX6_mend 47 = .ok (.istore_n 2, 1) := by decide +kernel
theorem dX6_mend_48 : decode cX6_mend 48 = .ok (.iload_n 1, 1) := by decide +kernel
theorem dX6_mend_49 : decode cX6_mend 49 = .ok (.iconst 1, 1) := by decide +kernel
theorem dX6_mend_50 : decode cX6_mend 50 = .ok (.if_icmp .eq 8, 3) := by decide +kernel
theorem dX6_mend_53 : decode cX6_mend 53 = .ok (.iload_n 2, 1) := by decide +kernel
theorem dX6_mend_54 : decode cX6_mend 54 = .ok (.iconst (-1), 1) := by decide +kernel
theorem dX6_mend_55 : decode cX6_mend 55 = .ok (.if_icmp .ne 7, 3) := by decide +kernel
theorem dX6_mend_58 : decode cX6_mend 58 = .ok (.iload_n 2, 1) := by decide +kernel
theorem dX6_mend_59 : decode cX6_mend 59 = .ok (.goto 7, 3) := by decide +kernel
theorem dX6_mend_62 : decode cX6_mend 62 = .ok (.iload_n 2, 1) := by decide +kernel
theorem dX6_mend_63 : decode cX6_mend 63 = .ok (.invokestatic 188, 3) := by decide +kernel
theorem dX6_mend_66 : decode cX6_mend 66 = .ok (.ireturn, 1) := by decide +kernel
theorem dX6_see_0 : decode cX6_see 0 = .ok (.aload_n 0, 1) := by decide +kernel
theorem dX6_see_1 : decode cX6_see 1 = .ok (.getfield 19, 3) := by decide +kernel
theorem dX6_see_4 : decode cX6_see 4 = .ok (.iload_n 1, 1) := by decide +kernel
theorem dX6_see_5 : decode cX6_see 5 = .ok (.invokevirtual 103, 3) := by decide +kernel
theorem dX6_see_8 : decode cX6_see 8 = .ok (.ifCond .ne 6, 3) := by decide +kernel
theorem dX6_see_11 : decode cX6_see 11 = .ok (.bipush (-101), 2) := by decide +kernel
theorem dX6_see_13 : decode cX6_see 13 = .ok (.ireturn, 1) := by decide +kernel
theorem dX6_see_14 : decode cX6_see 14 = .ok (.iload_n 2, 1) := by decide +kernel
theorem dX6_see_15 : decode cX6_see 15 = .ok (.iconst 1, 1) := by decide +kernel
theorem dX6_see_16 : decode cX6_see 16 = .ok (.if_icmp .lt 17, 3) := by decide +kernel
theorem dX6_see_19 : decode cX6_see 19 = .ok (.iload_n 2, 1) := by decide +kernel
theorem dX6_see_20 : decode cX6_see 20 = .ok (.iconst 3, 1) := by decide +kernel
theorem dX6_see_21 : decode cX6_see 21 = .ok (.if_icmp .gt 12, 3) := by decide +kernel
theorem dX6_see_24 : decode cX6_see 24 = .ok (.iload_n 3, 1) := by decide +kernel
theorem dX6_see_25 : decode cX6_see 25 = .ok (.ifCond .lt 8, 3) := by decide +kernel
theorem dX6_see_28 : decode cX6_see 28 = .ok (.iload_n 3, 1) := by decide +kernel
theorem dX6_see_29 : decode cX6_see 29 = .ok (.iconst 2, 1) := by decide +kernel
theorem dX6_see_30 : decode cX6_see 30 = .ok (.if_icmp .le 6, 3) := by decide +kernel
theorem dX6_see_33 : decode cX6_see 33 = .ok (.bipush (-102), 2) := by decide +kernel
theorem dX6_see_35 : decode cX6_see 35 = .ok (.ireturn, 1) := by decide +kernel
theorem dX6_see_36 : decode cX6_see 36 = .ok (.aload_n 0, 1) := by decide +kernel
theorem dX6_see_37 : decode cX6_see 37 = .ok (.getfield 51, 3) := by decide +kernel
theorem dX6_see_40 : decode cX6_see 40 = .ok (.iload_n 1, 1) := by decide +kernel
theorem dX6_see_41 : decode cX6_see 41 = .ok (.iload_n 2, 1) := by decide +kernel
theorem dX6_see_42 : decode cX6_see 42 = .ok (.iload_n 3, 1) := by decide +kernel
theorem dX6_see_43 : decode cX6_see 43 = .ok (.invokevirtual 193, 3) := by decide +kernel
theorem dX6_see_46 : decode cX6_see 46 = .ok (.ifCond .eq 13, 3) := by decide +kernel
theorem dX6_see_49 : decode cX6_see 49 = .ok (.aload_n 0, 1) := by decide +kernel
theorem dX6_see_50 : decode cX6_see 50 = .ok (.getfield 51, 3) := by decide +kernel
theorem dX6_see_53 : decode cX6_see 53 = .ok (.getfield 96, 3) := by decide +kernel
theorem dX6_see_56 : decode cX6_see 56 = .ok (.goto 5, 3) := by decide +kernel
theorem dX6_see_59 : decode cX6_see 59 = .ok (.bipush (-104), 2) := by decide +kernel
theorem dX6_see_61 : decode cX6_see 61 = .ok (.ireturn, 1) := by decide +kernel
theorem dX6_forget_0 : decode cX6_forget 0 = .ok (.aload_n 0, 1) := by decide +kernel
theorem dX6_forget_1 : decode cX6_forget 1 = .ok (.getfield 51, 3) := by decide +kernel
theorem dX6_forget_4 : decode cX6_forget 4 = .ok (.getfield 96, 3) := by decide +kernel
theorem dX6_forget_7 : decode cX6_forget 7 = .ok (.istore_n 1, 1) := by decide +kernel
theorem dX6_forget_8 : decode cX6_forget 8 = .ok (.aload_n 0, 1) := by decide +kernel
theorem dX6_forget_9 : decode cX6_forget 9 = .ok (.getfield 51, 3) := by decide +kernel
theorem dX6_forget_12 : decode cX6_forget 12 = .ok (.iconst 0, 1) := by decide +kernel
theorem dX6_forget_13 : decode cX6_forget 13 = .ok (.putfield 96, 3) := by decide +kernel
theorem dX6_forget_16 : decode cX6_forget 16 = .ok (.iload_n 1, 1) := by decide +kernel
theorem dX6_forget_17 : decode cX6_forget 17 = .ok (.ireturn, 1) := by decide +kernel
theorem dX6_drawn_0 : decode cX6_drawn 0 = .ok (.iload_n 1, 1) := by decide +kernel
theorem dX6_drawn_1 : decode cX6_drawn 1 = .ok (.iconst 1, 1) := by decide +kernel
theorem dX6_drawn_2 : decode cX6_drawn 2 = .ok (.if_icmp .lt 22, 3) := by decide +kernel
theorem dX6_drawn_5 : decode cX6_drawn 5 = .ok (.iload_n 1, 1) := by decide +kernel
theorem dX6_drawn_6 : decode cX6_drawn 6 = .ok (.bipush 8, 2) := by decide +kernel
theorem dX6_drawn_8 : decode cX6_drawn 8 = .ok (.if_icmp .gt 16, 3) := by decide +kernel
theorem dX6_drawn_11 : decode cX6_drawn 11 = .ok (.iload_n 2, 1) := by decide +kernel
theorem dX6_drawn_12 : decode cX6_drawn 12 = .ok (.ifCond .lt 12, 3) := by decide +kernel
theorem dX6_drawn_15 : decode cX6_drawn 15 = .ok (.iload_n 3, 1) := by decide +kernel
theorem dX6_drawn_16 : decode cX6_drawn 16 = .ok (.ifCond .lt 8, 3) := by decide +kernel
theorem dX6_drawn_19 : decode cX6_drawn 19 = .ok (.iload_n 3, 1) := by decide +kernel
theorem dX6_drawn_20 : decode cX6_drawn 20 = .ok (.iconst 2, 1) := by decide +kernel
theorem dX6_drawn_21 : decode cX6_drawn 21 = .ok (.if_icmp .le 6, 3) := by decide +kernel
theorem dX6_drawn_24 : decode cX6_drawn 24 = .ok (.bipush (-102), 2) := by decide +kernel
theorem dX6_drawn_26 : decode cX6_drawn 26 = .ok (.ireturn, 1) := by decide +kernel
theorem dX6_drawn_27 : decode cX6_drawn 27 = .ok (.iconst 0, 1) := by decide +kernel
theorem dX6_drawn_28 : decode cX6_drawn 28 = .ok (.istore 4, 2) := by decide +kernel
theorem dX6_drawn_30 : decode cX6_drawn 30 = .ok (.iconst 0, 1) := by decide +kernel
theorem dX6_drawn_31 : decode cX6_drawn 31 = .ok (.istore 5, 2) := by decide +kernel
theorem dX6_drawn_33 : decode cX6_drawn 33 = .ok (.iload_n 2, 1) := by decide +kernel
theorem dX6_drawn_34 : decode cX6_drawn 34 = .ok (.istore 6, 2) := by decide +kernel
theorem dX6_drawn_36 : decode cX6_drawn 36 = .ok (.iconst 0, 1) := by decide +kernel
theorem dX6_drawn_37 : decode cX6_drawn 37 = .ok (.istore 7, 2) := by decide +kernel
theorem dX6_drawn_39 : decode cX6_drawn 39 = .ok (.iload 7, 2) := by decide +kernel
theorem dX6_drawn_41 : decode cX6_drawn 41 = .ok (.iload_n 1, 1) := by decide +kernel
theorem dX6_drawn_42 : decode cX6_drawn 42 = .ok (.if_icmp .ge 60, 3) := by decide +kernel
theorem dX6_drawn_45 : decode cX6_drawn 45 = .ok (.aload_n 0, 1) := by decide +kernel
theorem dX6_drawn_46 : decode cX6_drawn 46 = .ok (.iload 6, 2) := by decide +kernel
theorem dX6_drawn_48 : decode cX6_drawn 48 = .ok (.invokevirtual 196, 3) := by decide +kernel
theorem dX6_drawn_51 : decode cX6_drawn 51 = .ok (.istore 6, 2) := by decide +kernel
theorem dX6_drawn_53 : decode cX6_drawn 53 = .ok (.aload_n 0, 1) := by decide +kernel
theorem dX6_drawn_54 : decode cX6_drawn 54 = .ok (.getfield 64, 3) := by decide +kernel
theorem dX6_drawn_57 : decode cX6_drawn 57 = .ok (.iconst 0, 1) := by decide +kernel
theorem dX6_drawn_58 : decode cX6_drawn 58 = .ok (.invokevirtual 199, 3) := by decide +kernel
theorem dX6_drawn_61 : decode cX6_drawn 61 = .ok (.iload 4, 2) := by decide +kernel
theorem dX6_drawn_63 : decode cX6_drawn 63 = .ok (.aload_n 0, 1) := by decide +kernel
theorem dX6_drawn_64 : decode cX6_drawn 64 = .ok (.getfield 64, 3) := by decide +kernel
theorem dX6_drawn_67 : decode cX6_drawn 67 = .ok (.invokevirtual 168, 3) := by decide +kernel
theorem dX6_drawn_70 : decode cX6_drawn 70 = .ok (.ifCond .eq 7, 3) := by decide +kernel
theorem dX6_drawn_73 : decode cX6_drawn 73 = .ok (.iconst 1, 1) := by decide +kernel
theorem dX6_drawn_74 : decode cX6_drawn 74 = .ok (.goto 4, 3) := by decide +kernel
theorem dX6_drawn_77 : decode cX6_drawn 77 = .ok (.iconst 0, 1) := by decide +kernel
theorem dX6_drawn_78 : decode cX6_drawn 78 = .ok (.iadd, 1) := by decide +kernel
theorem dX6_drawn_79 : decode cX6_drawn 79 = .ok (.istore 4, 2) := by decide +kernel
theorem dX6_drawn_81 : decode cX6_drawn 81 = .ok (.iload 5, 2) := by decide +kernel
theorem dX6_drawn_83 : decode cX6_drawn 83 = .ok (.aload_n 0, 1) := by decide +kernel
theorem dX6_drawn_84 : decode cX6_drawn 84 = .ok (.getfield 64, 3) := by decide +kernel
theorem dX6_drawn_87 : decode cX6_drawn 87 = .ok (.getfield 203, 3) := by decide +kernel
theorem dX6_drawn_90 : decode cX6_drawn 90 = .ok (.invokestatic 188, 3) := by decide +kernel
theorem dX6_drawn_93 : decode cX6_drawn 93 = .ok (.iadd, 1) := by decide +kernel
theorem dX6_drawn_94 : decode cX6_drawn 94 = .ok (.istore 5, 2) := by decide +kernel
theorem dX6_drawn_96 : decode cX6_drawn 96 = .ok (.iinc 7 1, 3) := by decide +kernel
theorem dX6_drawn_99 : decode cX6_drawn 99 = .ok (.goto (-60), 3) := by decide +kernel
theorem dX6_drawn_102 : decode cX6_drawn 102 = .ok (.iload_n 3, 1) := by decide +kernel
theorem dX6_drawn_103 : decode cX6_drawn 103 = .ok (.lookupswitch 31 #[(0, 25), (1, 28)], 25) := by decide +kernel
theorem dX6_drawn_128 : decode cX6_drawn 128 = .ok (.iload 4, 2) := by decide +kernel
theorem dX6_drawn_130 : decode cX6_drawn 130 = .ok (.ireturn, 1) := by decide +kernel
theorem dX6_drawn_131 : decode cX6_drawn 131 = .ok (.iload 5, 2) := by decide +kernel
theorem dX6_drawn_133 : decode cX6_drawn 133 = .ok (.ireturn, 1) := by decide +kernel
theorem dX6_drawn_134 : decode cX6_drawn 134 = .ok (.iload 6, 2) := by decide +kernel
theorem dX6_drawn_136 : decode cX6_drawn 136 = .ok (.ireturn, 1) := by decide +kernel
theorem dX6_image_0 : decode cX6_image 0 = .ok (.aload_n 0, 1) := by decide +kernel
theorem dX6_image_1 : decode cX6_image 1 = .ok (.getfield 19, 3) := by decide +kernel
theorem dX6_image_4 : decode cX6_image 4 = .ok (.getfield 86, 3) := by decide +kernel
theorem dX6_image_7 : decode cX6_image 7 = .ok (.ifCond .ne 6, 3) := by decide +kernel
theorem dX6_image_10 : decode cX6_image 10 = .ok (.bipush (-103), 2) := by decide +kernel
theorem dX6_image_12 : decode cX6_image 12 = .ok (.ireturn, 1) := by decide +kernel
theorem dX6_image_13 : decode cX6_image 13 = .ok (.aload_n 0, 1) := by decide +kernel
theorem dX6_image_14 : decode cX6_image 14 = .ok (.iconst 1, 1) := by decide +kernel
theorem dX6_image_15 : decode cX6_image 15 = .ok (.putfield 92, 3) := by decide +kernel
theorem dX6_image_18 : decode cX6_image 18 = .ok (.aload_n 0, 1) := by decide +kernel
theorem dX6_image_19 : decode cX6_image 19 = .ok (.getfield 55, 3) := by decide +kernel
theorem dX6_image_22 : decode cX6_image 22 = .ok (.aload_n 0, 1) := by decide +kernel
theorem dX6_image_23 : decode cX6_image 23 = .ok (.getfield 19, 3) := by decide +kernel
theorem dX6_image_26 : decode cX6_image 26 = .ok (.invokevirtual 97, 3) := by decide +kernel
theorem dX6_image_29 : decode cX6_image 29 = .ok (.aload_n 0, 1) := by decide +kernel
theorem dX6_image_30 : decode cX6_image 30 = .ok (.getfield 58, 3) := by decide +kernel
theorem dX6_image_33 : decode cX6_image 33 = .ok (.aload_n 0, 1) := by decide +kernel
theorem dX6_image_34 : decode cX6_image 34 = .ok (.getfield 51, 3) := by decide +kernel
theorem dX6_image_37 : decode cX6_image 37 = .ok (.invokevirtual 206, 3) := by decide +kernel
theorem dX6_image_40 : decode cX6_image 40 = .ok (.aload_n 0, 1) := by decide +kernel
theorem dX6_image_41 : decode cX6_image 41 = .ok (.getfield 19, 3) := by decide +kernel
theorem dX6_image_44 : decode cX6_image 44 = .ok (.getfield 86, 3) := by decide +kernel
theorem dX6_image_47 : decode cX6_image 47 = .ok (.ireturn, 1) := by decide +kernel
theorem dX6_restore_0 : decode cX6_restore 0 = .ok (.aload_n 0, 1) := by decide +kernel
theorem dX6_restore_1 : decode cX6_restore 1 = .ok (.getfield 92, 3) := by decide +kernel
theorem dX6_restore_4 : decode cX6_restore 4 = .ok (.ifCond .ne 6, 3) := by decide +kernel
theorem dX6_restore_7 : decode cX6_restore 7 = .ok (.bipush (-103), 2) := by decide +kernel
theorem dX6_restore_9 : decode cX6_restore 9 = .ok (.ireturn, 1) := by decide +kernel
theorem dX6_restore_10 : decode cX6_restore 10 = .ok (.aload_n 0, 1) := by decide +kernel
theorem dX6_restore_11 : decode cX6_restore 11 = .ok (.getfield 19, 3) := by decide +kernel
theorem dX6_restore_14 : decode cX6_restore 14 = .ok (.aload_n 0, 1) := by decide +kernel
theorem dX6_restore_15 : decode cX6_restore 15 = .ok (.getfield 55, 3) := by decide +kernel
theorem dX6_restore_18 : decode cX6_restore 18 = .ok (.invokevirtual 97, 3) := by decide +kernel
theorem dX6_restore_21 : decode cX6_restore 21 = .ok (.aload_n 0, 1) := by decide +kernel
theorem dX6_restore_22 : decode cX6_restore 22 = .ok (.getfield 51, 3) := by decide +kernel
theorem dX6_restore_25 : decode cX6_restore 25 = .ok (.aload_n 0, 1) := by decide +kernel
theorem dX6_restore_26 : decode cX6_restore 26 = .ok (.getfield 58, 3) := by decide +kernel
theorem dX6_restore_29 : decode cX6_restore 29 = .ok (.invokevirtual 206, 3) := by decide +kernel
theorem dX6_restore_32 : decode cX6_restore 32 = .ok (.aload_n 0, 1) := by decide +kernel
theorem dX6_restore_33 : decode cX6_restore 33 = .ok (.invokevirtual 100, 3) := by decide +kernel
theorem dX6_restore_36 : decode cX6_restore 36 = .ok (.aload_n 0, 1) := by decide +kernel
theorem dX6_restore_37 : decode cX6_restore 37 = .ok (.getfield 19, 3) := by decide +kernel
theorem dX6_restore_40 : decode cX6_restore 40 = .ok (.getfield 86, 3) := by decide +kernel
theorem dX6_restore_43 : decode cX6_restore 43 = .ok (.ireturn, 1) := by decide +kernel
theorem dX6_count_0 : decode cX6_count 0 = .ok (.iload_n 1, 1) := by decide +kernel
theorem dX6_count_1 : decode cX6_count 1 = .ok (.tableswitch 159 0 11 #[63, 71, 79, 87, 95, 103, 114, 125, 133, 141, 149, 154], 63) := by decide +kernel
theorem dX6_count_64 : decode cX6_count 64 = .ok (.aload_n 0, 1) := by decide +kernel
theorem dX6_count_65 : decode cX6_count 65 = .ok (.getfield 19, 3) := by decide +kernel
theorem dX6_count_68 : decode cX6_count 68 = .ok (.getfield 86, 3) := by decide +kernel
theorem dX6_count_71 : decode cX6_count 71 = .ok (.ireturn, 1) := by decide +kernel
theorem dX6_count_72 : decode cX6_count 72 = .ok (.aload_n 0, 1) := by decide +kernel
theorem dX6_count_73 : decode cX6_count 73 = .ok (.getfield 28, 3) := by decide +kernel
theorem dX6_count_76 : decode cX6_count 76 = .ok (.getfield 209, 3) := by decide +kernel
theorem dX6_count_79 : decode cX6_count 79 = .ok (.ireturn, 1) := by decide +kernel
theorem dX6_count_80 : decode cX6_count 80 = .ok (.aload_n 0, 1) := by decide +kernel
theorem dX6_count_81 : decode cX6_count 81 = .ok (.getfield 28, 3) := by decide +kernel
theorem dX6_count_84 : decode cX6_count 84 = .ok (.getfield 210, 3) := by decide +kernel
theorem dX6_count_87 : decode cX6_count 87 = .ok (.ireturn, 1) := by decide +kernel
theorem dX6_count_88 : decode cX6_count 88 = .ok (.aload_n 0, 1) := by decide +kernel
theorem dX6_count_89 : decode cX6_count 89 = .ok (.getfield 28, 3) := by decide +kernel
theorem dX6_count_92 : decode cX6_count 92 = .ok (.getfield 213, 3) := by decide +kernel
theorem dX6_count_95 : decode cX6_count 95 = .ok (.ireturn, 1) := by decide +kernel
theorem dX6_count_96 : decode cX6_count 96 = .ok (.aload_n 0, 1) := by decide +kernel
theorem dX6_count_97 : decode cX6_count 97 = .ok (.getfield 28, 3) := by decide +kernel
theorem dX6_count_100 : decode cX6_count 100 = .ok (.getfield 216, 3) := by decide +kernel
theorem dX6_count_103 : decode cX6_count 103 = .ok (.ireturn, 1) := by decide +kernel
theorem dX6_count_104 : decode cX6_count 104 = .ok (.aload_n 0, 1) := by decide +kernel
theorem dX6_count_105 : decode cX6_count 105 = .ok (.getfield 28, 3) := by decide +kernel
theorem dX6_count_108 : decode cX6_count 108 = .ok (.getfield 203, 3) := by decide +kernel
theorem dX6_count_111 : decode cX6_count 111 = .ok (.invokestatic 188, 3) := by decide +kernel
theorem dX6_count_114 : decode cX6_count 114 = .ok (.ireturn, 1) := by decide +kernel
theorem dX6_count_115 : decode cX6_count 115 = .ok (.aload_n 0, 1) := by decide +kernel
theorem dX6_count_116 : decode cX6_count 116 = .ok (.getfield 28, 3) := by decide +kernel
theorem dX6_count_119 : decode cX6_count 119 = .ok (.getfield 219, 3) := by decide +kernel
theorem dX6_count_122 : decode cX6_count 122 = .ok (.invokestatic 188, 3) := by decide +kernel
theorem dX6_count_125 : decode cX6_count 125 = .ok (.ireturn, 1) := by decide +kernel
theorem dX6_count_126 : decode cX6_count 126 = .ok (.aload_n 0, 1) := by decide +kernel
theorem dX6_count_127 : decode cX6_count 127 = .ok (.getfield 44, 3) := by decide +kernel
theorem dX6_count_130 : decode cX6_count 130 = .ok (.getfield 95, 3) := by decide +kernel
theorem dX6_count_133 : decode cX6_count 133 = .ok (.ireturn, 1) := by decide +kernel
theorem dX6_count_134 : decode cX6_count 134 = .ok (.aload_n 0, 1) := by decide +kernel
theorem dX6_count_135 : decode cX6_count 135 = .ok (.getfield 51, 3) := by decide +kernel
theorem dX6_count_138 : decode cX6_count 138 = .ok (.getfield 96, 3) := by decide +kernel
theorem dX6_count_141 : decode cX6_count 141 = .ok (.ireturn, 1) := by decide +kernel
theorem dX6_count_142 : decode cX6_count 142 = .ok (.aload_n 0, 1) := by decide +kernel
theorem dX6_count_143 : decode cX6_count 143 = .ok (.getfield 12, 3) := by decide +kernel
theorem dX6_count_146 : decode cX6_count 146 = .ok (.getfield 71, 3) := by decide +kernel
theorem dX6_count_149 : decode cX6_count 149 = .ok (.ireturn, 1) := by decide +kernel
theorem dX6_count_150 : decode cX6_count 150 = .ok (.aload_n 0, 1) := by decide +kernel
theorem dX6_count_151 : decode cX6_count 151 = .ok (.getfield 89, 3) := by decide +kernel
theorem dX6_count_154 : decode cX6_count 154 = .ok (.ireturn, 1) := by decide +kernel
theorem dX6_count_155 : decode cX6_count 155 = .ok (.aload_n 0, 1) := by decide +kernel
theorem dX6_count_156 : decode cX6_count 156 = .ok (.getfield 181, 3) := by decide +kernel
theorem dX6_count_159 : decode cX6_count 159 = .ok (.ireturn, 1) := by decide +kernel
theorem dX6_count_160 : decode cX6_count 160 = .ok (.bipush (-102), 2) := by decide +kernel
theorem dX6_count_162 : decode cX6_count 162 = .ok (.ireturn, 1) := by decide +kernel
theorem dX6_digest_0 : decode cX6_digest 0 = .ok (.ldc2_w 222, 3) := by decide +kernel
theorem dX6_digest_3 : decode cX6_digest 3 = .ok (.lstore_n 1, 1) := by decide +kernel
theorem dX6_digest_4 : decode cX6_digest 4 = .ok (.iconst 0, 1) := by decide +kernel
theorem dX6_digest_5 : decode cX6_digest 5 = .ok (.istore_n 3, 1) := by decide +kernel
theorem dX6_digest_6 : decode cX6_digest 6 = .ok (.iload_n 3, 1) := by decide +kernel
theorem dX6_digest_7 : decode cX6_digest 7 = .ok (.aload_n 0, 1) := by decide +kernel
theorem dX6_digest_8 : decode cX6_digest 8 = .ok (.getfield 19, 3) := by decide +kernel
theorem dX6_digest_11 : decode cX6_digest 11 = .ok (.getfield 86, 3) := by decide +kernel
theorem dX6_digest_14 : decode cX6_digest 14 = .ok (.if_icmp .ge 68, 3) := by decide +kernel
theorem dX6_digest_17 : decode cX6_digest 17 = .ok (.iconst 0, 1) := by decide +kernel
theorem dX6_digest_18 : decode cX6_digest 18 = .ok (.istore 4, 2) := by decide +kernel
theorem dX6_digest_20 : decode cX6_digest 20 = .ok (.iload 4, 2) := by decide +kernel
theorem dX6_digest_22 : decode cX6_digest 22 = .ok (.bipush 10, 2) := by decide +kernel
theorem dX6_digest_24 : decode cX6_digest 24 = .ok (.if_icmp .ge 24, 3) := by decide +kernel
theorem dX6_digest_27 : decode cX6_digest 27 = .ok (.ldc2_w 224, 3) := by decide +kernel
theorem dX6_digest_30 : decode cX6_digest 30 = .ok (.lload_n 1, 1) := by decide +kernel
theorem dX6_digest_31 : decode cX6_digest 31 = .ok (.lmul, 1) := by decide +kernel
theorem dX6_digest_32 : decode cX6_digest 32 = .ok (.aload_n 0, 1) := by decide +kernel
theorem dX6_digest_33 : decode cX6_digest 33 = .ok (.iload_n 3, 1) := by decide +kernel
theorem dX6_digest_34 : decode cX6_digest 34 = .ok (.iload 4, 2) := by decide +kernel
theorem dX6_digest_36 : decode cX6_digest 36 = .ok (.invokevirtual 226, 3) := by decide +kernel
theorem dX6_digest_39 : decode cX6_digest 39 = .ok (.i2l, 1) := by decide +kernel
theorem dX6_digest_40 : decode cX6_digest 40 = .ok (.ladd, 1) := by decide +kernel
theorem dX6_digest_41 : decode cX6_digest 41 = .ok (.lstore_n 1, 1) := by decide +kernel
theorem dX6_digest_42 : decode cX6_digest 42 = .ok (.iinc 4 1, 3) := by decide +kernel
theorem dX6_digest_45 : decode cX6_digest 45 = .ok (.goto (-25), 3) := by decide +kernel
theorem dX6_digest_48 : decode cX6_digest 48 = .ok (.ldc2_w 224, 3) := by decide +kernel
theorem dX6_digest_51 : decode cX6_digest 51 = .ok (.lload_n 1, 1) := by decide +kernel
theorem dX6_digest_52 : decode cX6_digest 52 = .ok (.lmul, 1) := by decide +kernel
theorem dX6_digest_53 : decode cX6_digest 53 = .ok (.aload_n 0, 1) := by decide +kernel
theorem dX6_digest_54 : decode cX6_digest 54 = .ok (.iload_n 3, 1) := by decide +kernel
theorem dX6_digest_55 : decode cX6_digest 55 = .ok (.iconst 0, 1) := by decide +kernel
theorem dX6_digest_56 : decode cX6_digest 56 = .ok (.invokevirtual 229, 3) := by decide +kernel
theorem dX6_digest_59 : decode cX6_digest 59 = .ok (.i2l, 1) := by decide +kernel
theorem dX6_digest_60 : decode cX6_digest 60 = .ok (.ladd, 1) := by decide +kernel
theorem dX6_digest_61 : decode cX6_digest 61 = .ok (.lstore_n 1, 1) := by decide +kernel
theorem dX6_digest_62 : decode cX6_digest 62 = .ok (.ldc2_w 224, 3) := by decide +kernel
theorem dX6_digest_65 : decode cX6_digest 65 = .ok (.lload_n 1, 1) := by decide +kernel
theorem dX6_digest_66 : decode cX6_digest 66 = .ok (.lmul, 1) := by decide +kernel
theorem dX6_digest_67 : decode cX6_digest 67 = .ok (.aload_n 0, 1) := by decide +kernel
theorem dX6_digest_68 : decode cX6_digest 68 = .ok (.iload_n 3, 1) := by decide +kernel
theorem dX6_digest_69 : decode cX6_digest 69 = .ok (.iconst 1, 1) := by decide +kernel
theorem dX6_digest_70 : decode cX6_digest 70 = .ok (.invokevirtual 229, 3) := by decide +kernel
theorem dX6_digest_73 : decode cX6_digest 73 = .ok (.i2l, 1) := by decide +kernel
theorem dX6_digest_74 : decode cX6_digest 74 = .ok (.ladd, 1) := by decide +kernel
theorem dX6_digest_75 : decode cX6_digest 75 = .ok (.lstore_n 1, 1) := by decide +kernel
theorem dX6_digest_76 : decode cX6_digest 76 = .ok (.iinc 3 1, 3) := by decide +kernel
theorem dX6_digest_79 : decode cX6_digest 79 = .ok (.goto (-73), 3) := by decide +kernel
theorem dX6_digest_82 : decode cX6_digest 82 = .ok (.aload_n 0, 1) := by decide +kernel
theorem dX6_digest_83 : decode cX6_digest 83 = .ok (.getfield 19, 3) := by decide +kernel
theorem dX6_digest_86 : decode cX6_digest 86 = .ok (.getfield 86, 3) := by decide +kernel
theorem dX6_digest_89 : decode cX6_digest 89 = .ok (.ifCond .le 29, 3) := by decide +kernel
theorem dX6_digest_92 : decode cX6_digest 92 = .ok (.iconst 0, 1) := by decide +kernel
theorem dX6_digest_93 : decode cX6_digest 93 = .ok (.istore_n 3, 1) := by decide +kernel
theorem dX6_digest_94 : decode cX6_digest 94 = .ok (.iload_n 3, 1) := by decide +kernel
theorem dX6_digest_95 : decode cX6_digest 95 = .ok (.iconst 4, 1) := by decide +kernel
theorem dX6_digest_96 : decode cX6_digest 96 = .ok (.if_icmp .ge 22, 3) := by decide +kernel
theorem dX6_digest_99 : decode cX6_digest 99 = .ok (.ldc2_w 224, 3) := by decide +kernel
theorem dX6_digest_102 : decode cX6_digest 102 = .ok (.lload_n 1, 1) := by decide +kernel
theorem dX6_digest_103 : decode cX6_digest 103 = .ok (.lmul, 1) := by decide +kernel
theorem dX6_digest_104 : decode cX6_digest 104 = .ok (.aload_n 0, 1) := by decide +kernel
theorem dX6_digest_105 : decode cX6_digest 105 = .ok (.iload_n 3, 1) := by decide +kernel
theorem dX6_digest_106 : decode cX6_digest 106 = .ok (.invokevirtual 232, 3) := by decide +kernel
theorem dX6_digest_109 : decode cX6_digest 109 = .ok (.i2l, 1) := by decide +kernel
theorem dX6_digest_110 : decode cX6_digest 110 = .ok (.ladd, 1) := by decide +kernel
theorem dX6_digest_111 : decode cX6_digest 111 = .ok (.lstore_n 1, 1) := by decide +kernel
theorem dX6_digest_112 : decode cX6_digest 112 = .ok (.iinc 3 1, 3) := by decide +kernel
theorem dX6_digest_115 : decode cX6_digest 115 = .ok (.goto (-21), 3) := by decide +kernel
theorem dX6_digest_118 : decode cX6_digest 118 = .ok (.lload_n 1, 1) := by decide +kernel
theorem dX6_digest_119 : decode cX6_digest 119 = .ok (.aload_n 0, 1) := by decide +kernel
theorem dX6_digest_120 : decode cX6_digest 120 = .ok (.getfield 37, 3) := by decide +kernel
theorem dX6_digest_123 : decode cX6_digest 123 = .ok (.getfield 167, 3) := by decide +kernel
theorem dX6_digest_126 : decode cX6_digest 126 = .ok (.aload_n 0, 1) := by decide +kernel
theorem dX6_digest_127 : decode cX6_digest 127 = .ok (.getfield 37, 3) := by decide +kernel
theorem dX6_digest_130 : decode cX6_digest 130 = .ok (.getfield 166, 3) := by decide +kernel
theorem dX6_digest_133 : decode cX6_digest 133 = .ok (.invokestatic 235, 3) := by decide +kernel
theorem dX6_digest_136 : decode cX6_digest 136 = .ok (.lstore_n 1, 1) := by decide +kernel
theorem dX6_digest_137 : decode cX6_digest 137 = .ok (.lload_n 1, 1) := by decide +kernel
theorem dX6_digest_138 : decode cX6_digest 138 = .ok (.aload_n 0, 1) := by decide +kernel
theorem dX6_digest_139 : decode cX6_digest 139 = .ok (.getfield 44, 3) := by decide +kernel
theorem dX6_digest_142 : decode cX6_digest 142 = .ok (.getfield 163, 3) := by decide +kernel
theorem dX6_digest_145 : decode cX6_digest 145 = .ok (.aload_n 0, 1) := by decide +kernel
theorem dX6_digest_146 : decode cX6_digest 146 = .ok (.getfield 44, 3) := by decide +kernel
theorem dX6_digest_149 : decode cX6_digest 149 = .ok (.getfield 95, 3) := by decide +kernel
theorem dX6_digest_152 : decode cX6_digest 152 = .ok (.invokestatic 235, 3) := by decide +kernel
theorem dX6_digest_155 : decode cX6_digest 155 = .ok (.lstore_n 1, 1) := by decide +kernel
theorem dX6_digest_156 : decode cX6_digest 156 = .ok (.lload_n 1, 1) := by decide +kernel
theorem dX6_digest_157 : decode cX6_digest 157 = .ok (.aload_n 0, 1) := by decide +kernel
theorem dX6_digest_158 : decode cX6_digest 158 = .ok (.getfield 12, 3) := by decide +kernel
theorem dX6_digest_161 : decode cX6_digest 161 = .ok (.getfield 239, 3) := by decide +kernel
theorem dX6_digest_164 : decode cX6_digest 164 = .ok (.aload_n 0, 1) := by decide +kernel
theorem dX6_digest_165 : decode cX6_digest 165 = .ok (.getfield 12, 3) := by decide +kernel
theorem dX6_digest_168 : decode cX6_digest 168 = .ok (.getfield 71, 3) := by decide +kernel
theorem dX6_digest_171 : decode cX6_digest 171 = .ok (.invokestatic 235, 3) := by decide +kernel
theorem dX6_digest_174 : decode cX6_digest 174 = .ok (.lstore_n 1, 1) := by decide +kernel
theorem dX6_digest_175 : decode cX6_digest 175 = .ok (.iconst 0, 1) := by decide +kernel
theorem dX6_digest_176 : decode cX6_digest 176 = .ok (.istore_n 3, 1) := by decide +kernel
theorem dX6_digest_177 : decode cX6_digest 177 = .ok (.iload_n 3, 1) := by decide +kernel
theorem dX6_digest_178 : decode cX6_digest 178 = .ok (.bipush 12, 2) := by decide +kernel
theorem dX6_digest_180 : decode cX6_digest 180 = .ok (.if_icmp .ge 22, 3) := by decide +kernel
theorem dX6_digest_183 : decode cX6_digest 183 = .ok (.ldc2_w 224, 3) := by decide +kernel
theorem dX6_digest_186 : decode cX6_digest 186 = .ok (.lload_n 1, 1) := by decide +kernel
theorem dX6_digest_187 : decode cX6_digest 187 = .ok (.lmul, 1) := by decide +kernel
theorem dX6_digest_188 : decode cX6_digest 188 = .ok (.aload_n 0, 1) := by decide +kernel
theorem dX6_digest_189 : decode cX6_digest 189 = .ok (.iload_n 3, 1) := by decide +kernel
theorem dX6_digest_190 : decode cX6_digest 190 = .ok (.invokevirtual 242, 3) := by decide +kernel
theorem dX6_digest_193 : decode cX6_digest 193 = .ok (.i2l, 1) := by decide +kernel
theorem dX6_digest_194 : decode cX6_digest 194 = .ok (.ladd, 1) := by decide +kernel
theorem dX6_digest_195 : decode cX6_digest 195 = .ok (.lstore_n 1, 1) := by decide +kernel
theorem dX6_digest_196 : decode cX6_digest 196 = .ok (.iinc 3 1, 3) := by decide +kernel
theorem dX6_digest_199 : decode cX6_digest 199 = .ok (.goto (-22), 3) := by decide +kernel
theorem dX6_digest_202 : decode cX6_digest 202 = .ok (.lload_n 1, 1) := by decide +kernel
theorem dX6_digest_203 : decode cX6_digest 203 = .ok (.lreturn, 1) := by decide +kernel
theorem dX6_joined_0 : decode cX6_joined 0 = .ok (.lload_n 0, 1) := by decide +kernel
theorem dX6_joined_1 : decode cX6_joined 1 = .ok (.lstore 4, 2) := by decide +kernel
theorem dX6_joined_3 : decode cX6_joined 3 = .ok (.iconst 0, 1) := by decide +kernel
theorem dX6_joined_4 : decode cX6_joined 4 = .ok (.istore 6, 2) := by decide +kernel
theorem dX6_joined_6 : decode cX6_joined 6 = .ok (.iload 6, 2) := by decide +kernel
theorem dX6_joined_8 : decode cX6_joined 8 = .ok (.iload_n 3, 1) := by decide +kernel
theorem dX6_joined_9 : decode cX6_joined 9 = .ok (.if_icmp .ge 30, 3) := by decide +kernel
theorem dX6_joined_12 : decode cX6_joined 12 = .ok (.iload 6, 2) := by decide +kernel
theorem dX6_joined_14 : decode cX6_joined 14 = .ok (.aload_n 2, 1) := by decide +kernel
theorem dX6_joined_15 : decode cX6_joined 15 = .ok (.arraylength, 1) := by decide +kernel
theorem dX6_joined_16 : decode cX6_joined 16 = .ok (.if_icmp .ge 23, 3) := by decide +kernel
theorem dX6_joined_19 : decode cX6_joined 19 = .ok (.ldc2_w 224, 3) := by decide +kernel
theorem dX6_joined_22 : decode cX6_joined 22 = .ok (.lload 4, 2) := by decide +kernel
theorem dX6_joined_24 : decode cX6_joined 24 = .ok (.lmul, 1) := by decide +kernel
theorem dX6_joined_25 : decode cX6_joined 25 = .ok (.aload_n 2, 1) := by decide +kernel
theorem dX6_joined_26 : decode cX6_joined 26 = .ok (.iload 6, 2) := by decide +kernel
theorem dX6_joined_28 : decode cX6_joined 28 = .ok (.iaload, 1) := by decide +kernel
theorem dX6_joined_29 : decode cX6_joined 29 = .ok (.i2l, 1) := by decide +kernel
theorem dX6_joined_30 : decode cX6_joined 30 = .ok (.ladd, 1) := by decide +kernel
theorem dX6_joined_31 : decode cX6_joined 31 = .ok (.lstore 4, 2) := by decide +kernel
theorem dX6_joined_33 : decode cX6_joined 33 = .ok (.iinc 6 1, 3) := by decide +kernel
theorem dX6_joined_36 : decode cX6_joined 36 = .ok (.goto (-30), 3) := by decide +kernel
theorem dX6_joined_39 : decode cX6_joined 39 = .ok (.lload 4, 2) := by decide +kernel
theorem dX6_joined_41 : decode cX6_joined 41 = .ok (.lreturn, 1) := by decide +kernel
theorem dX6_lookAnew_0 : decode cX6_lookAnew 0 = .ok (.aload_n 0, 1) := by decide +kernel
theorem dX6_lookAnew_1 : decode cX6_lookAnew 1 = .ok (.getfield 28, 3) := by decide +kernel
theorem dX6_lookAnew_4 : decode cX6_lookAnew 4 = .ok (.iconst 0, 1) := by decide +kernel
theorem dX6_lookAnew_5 : decode cX6_lookAnew 5 = .ok (.invokevirtual 199, 3) := by decide +kernel
theorem dX6_lookAnew_8 : decode cX6_lookAnew 8 = .ok (.aload_n 0, 1) := by decide +kernel
theorem dX6_lookAnew_9 : decode cX6_lookAnew 9 = .ok (.getfield 37, 3) := by decide +kernel
theorem dX6_lookAnew_12 : decode cX6_lookAnew 12 = .ok (.invokevirtual 245, 3) := by decide +kernel
theorem dX6_lookAnew_15 : decode cX6_lookAnew 15 = .ok (.return_, 1) := by decide +kernel
theorem dX6_fewestLeftOut_0 : decode cX6_fewestLeftOut 0 = .ok (.aload_n 0, 1) := by decide +kernel
theorem dX6_fewestLeftOut_1 : decode cX6_fewestLeftOut 1 = .ok (.getfield 61, 3) := by decide +kernel
theorem dX6_fewestLeftOut_4 : decode cX6_fewestLeftOut 4 = .ok (.aload_n 0, 1) := by decide +kernel
theorem dX6_fewestLeftOut_5 : decode cX6_fewestLeftOut 5 = .ok (.getfield 19, 3) := by decide +kernel
theorem dX6_fewestLeftOut_8 : decode cX6_fewestLeftOut 8 = .ok (.invokevirtual 97, 3) := by decide +kernel
theorem dX6_fewestLeftOut_11 : decode cX6_fewestLeftOut 11 = .ok (.iconst (-1), 1) := by decide +kernel
theorem dX6_fewestLeftOut_12 : decode cX6_fewestLeftOut 12 = .ok (.istore_n 1, 1) := by decide +kernel
theorem dX6_fewestLeftOut_13 : decode cX6_fewestLeftOut 13 = .ok (.iconst 0, 1) := by decide +kernel
theorem dX6_fewestLeftOut_14 : decode cX6_fewestLeftOut 14 = .ok (.istore_n 2, 1) := by decide +kernel
theorem dX6_fewestLeftOut_15 : decode cX6_fewestLeftOut 15 = .ok (.iload_n 2, 1) := by decide +kernel
theorem dX6_fewestLeftOut_16 : decode cX6_fewestLeftOut 16 = .ok (.iconst 3, 1) := by decide +kernel
theorem dX6_fewestLeftOut_17 : decode cX6_fewestLeftOut 17 = .ok (.if_icmp .gt 23, 3) := by decide +kernel
theorem dX6_fewestLeftOut_20 : decode cX6_fewestLeftOut 20 = .ok (.iload_n 1, 1) := by decide +kernel
theorem dX6_fewestLeftOut_21 : decode cX6_fewestLeftOut 21 = .ok (.iconst (-1), 1) := by decide +kernel
theorem dX6_fewestLeftOut_22 : decode cX6_fewestLeftOut 22 = .ok (.if_icmp .ne 18, 3) := by decide +kernel
theorem dX6_fewestLeftOut_25 : decode cX6_fewestLeftOut 25 = .ok (.aload_n 0, 1) := by decide +kernel
theorem dX6_fewestLeftOut_26 : decode cX6_fewestLeftOut 26 = .ok (.iload_n 2, 1) := by decide +kernel
theorem dX6_fewestLeftOut_27 : decode cX6_fewestLeftOut 27 = .ok (.bipush 16, 2) := by decide +kernel
theorem dX6_fewestLeftOut_29 : decode cX6_fewestLeftOut 29 = .ok (.iconst 0, 1) := by decide +kernel
theorem dX6_fewestLeftOut_30 : decode cX6_fewestLeftOut 30 = .ok (.invokevirtual 248, 3) := by decide +kernel
theorem dX6_fewestLeftOut_33 : decode cX6_fewestLeftOut 33 = .ok (.istore_n 1, 1) := by decide +kernel
theorem dX6_fewestLeftOut_34 : decode cX6_fewestLeftOut 34 = .ok (.iinc 2 1, 3) := by decide +kernel
theorem dX6_fewestLeftOut_37 : decode cX6_fewestLeftOut 37 = .ok (.goto (-22), 3) := by decide +kernel
theorem dX6_fewestLeftOut_40 : decode cX6_fewestLeftOut 40 = .ok (.iload_n 1, 1) := by decide +kernel
theorem dX6_fewestLeftOut_41 : decode cX6_fewestLeftOut 41 = .ok (.ireturn, 1) := by decide +kernel
theorem dX6_leastLeftOut_0 : decode cX6_leastLeftOut 0 = .ok (.iload_n 1, 1) := by decide +kernel
theorem dX6_leastLeftOut_1 : decode cX6_leastLeftOut 1 = .ok (.ifCond .gt 27, 3) := by decide +kernel
theorem dX6_leastLeftOut_4 : decode cX6_leastLeftOut 4 = .ok (.aload_n 0, 1) := by decide +kernel
theorem dX6_leastLeftOut_5 : decode cX6_leastLeftOut 5 = .ok (.getfield 64, 3) := by decide +kernel
theorem dX6_leastLeftOut_8 : decode cX6_leastLeftOut 8 = .ok (.iload_n 3, 1) := by decide +kernel
theorem dX6_leastLeftOut_9 : decode cX6_leastLeftOut 9 = .ok (.invokevirtual 199, 3) := by decide +kernel
theorem dX6_leastLeftOut_12 : decode cX6_leastLeftOut 12 = .ok (.aload_n 0, 1) := by decide +kernel
theorem dX6_leastLeftOut_13 : decode cX6_leastLeftOut 13 = .ok (.getfield 64, 3) := by decide +kernel
theorem dX6_leastLeftOut_16 : decode cX6_leastLeftOut 16 = .ok (.invokevirtual 168, 3) := by decide +kernel
theorem dX6_leastLeftOut_19 : decode cX6_leastLeftOut 19 = .ok (.ifCond .eq 7, 3) := by decide +kernel
theorem dX6_leastLeftOut_22 : decode cX6_leastLeftOut 22 = .ok (.iload_n 3, 1) := by decide +kernel
theorem dX6_leastLeftOut_23 : decode cX6_leastLeftOut 23 = .ok (.goto 4, 3) := by decide +kernel
theorem dX6_leastLeftOut_26 : decode cX6_leastLeftOut 26 = .ok (.iconst (-1), 1) := by decide +kernel
theorem dX6_leastLeftOut_27 : decode cX6_leastLeftOut 27 = .ok (.ireturn, 1) := by decide +kernel
theorem dX6_leastLeftOut_28 : decode cX6_leastLeftOut 28 = .ok (.iload_n 1, 1) := by decide +kernel
theorem dX6_leastLeftOut_29 : decode cX6_leastLeftOut 29 = .ok (.iconst 1, 1) := by decide +kernel
theorem dX6_leastLeftOut_30 : decode cX6_leastLeftOut 30 = .ok (.isub, 1) := by decide +kernel
theorem dX6_leastLeftOut_31 : decode cX6_leastLeftOut 31 = .ok (.istore 4, 2) := by decide +kernel
theorem dX6_leastLeftOut_33 : decode cX6_leastLeftOut 33 = .ok (.iload 4, 2) := by decide +kernel
theorem dX6_leastLeftOut_35 : decode cX6_leastLeftOut 35 = .ok (.iload_n 2, 1) := by decide +kernel
theorem dX6_leastLeftOut_36 : decode cX6_leastLeftOut 36 = .ok (.if_icmp .ge 54, 3) := by decide +kernel
theorem dX6_leastLeftOut_39 : decode cX6_leastLeftOut 39 = .ok (.aload_n 0, 1) := by decide +kernel
theorem dX6_leastLeftOut_40 : decode cX6_leastLeftOut 40 = .ok (.getfield 28, 3) := by decide +kernel
theorem dX6_leastLeftOut_43 : decode cX6_leastLeftOut 43 = .ok (.iload 4, 2) := by decide +kernel
theorem dX6_leastLeftOut_45 : decode cX6_leastLeftOut 45 = .ok (.iconst 2, 1) := by decide +kernel
theorem dX6_leastLeftOut_46 : decode cX6_leastLeftOut 46 = .ok (.idiv, 1) := by decide +kernel
theorem dX6_leastLeftOut_47 : decode cX6_leastLeftOut 47 = .ok (.iload 4, 2) := by decide +kernel
theorem dX6_leastLeftOut_49 : decode cX6_leastLeftOut 49 = .ok (.iconst 2, 1) := by decide +kernel
theorem dX6_leastLeftOut_50 : decode cX6_leastLeftOut 50 = .ok (.irem, 1) := by decide +kernel
theorem dX6_leastLeftOut_51 : decode cX6_leastLeftOut 51 = .ok (.invokevirtual 148, 3) := by decide +kernel
theorem dX6_leastLeftOut_54 : decode cX6_leastLeftOut 54 = .ok (.iconst (-1), 1) := by decide +kernel
theorem dX6_leastLeftOut_55 : decode cX6_leastLeftOut 55 = .ok (.if_icmp .eq 29, 3) := by decide +kernel
theorem dX6_leastLeftOut_58 : decode cX6_leastLeftOut 58 = .ok (.aload_n 0, 1) := by decide +kernel
theorem dX6_leastLeftOut_59 : decode cX6_leastLeftOut 59 = .ok (.iload_n 1, 1) := by decide +kernel
theorem dX6_leastLeftOut_60 : decode cX6_leastLeftOut 60 = .ok (.iconst 1, 1) := by decide +kernel
theorem dX6_leastLeftOut_61 : decode cX6_leastLeftOut 61 = .ok (.isub, 1) := by decide +kernel
theorem dX6_leastLeftOut_62 : decode cX6_leastLeftOut 62 = .ok (.iload 4, 2) := by decide +kernel
theorem dX6_leastLeftOut_64 : decode cX6_leastLeftOut 64 = .ok (.iload_n 3, 1) := by decide +kernel
theorem dX6_leastLeftOut_65 : decode cX6_leastLeftOut 65 = .ok (.iconst 1, 1) := by decide +kernel
theorem dX6_leastLeftOut_66 : decode cX6_leastLeftOut 66 = .ok (.iload 4, 2) := by decide +kernel
theorem dX6_leastLeftOut_68 : decode cX6_leastLeftOut 68 = .ok (.ishl, 1) := by decide +kernel
theorem dX6_leastLeftOut_69 : decode cX6_leastLeftOut 69 = .ok (.ior, 1) := by decide +kernel
theorem dX6_leastLeftOut_70 : decode cX6_leastLeftOut 70 = .ok (.invokevirtual 248, 3) := by decide +kernel
theorem dX6_leastLeftOut_73 : decode cX6_leastLeftOut 73 = .ok (.istore 5, 2) := by decide +kernel
theorem dX6_leastLeftOut_75 : decode cX6_leastLeftOut 75 = .ok (.iload 5, 2) := by decide +kernel
theorem dX6_leastLeftOut_77 : decode cX6_leastLeftOut 77 = .ok (.iconst (-1), 1) := by decide +kernel
theorem dX6_leastLeftOut_78 : decode cX6_leastLeftOut 78 = .ok (.if_icmp .eq 6, 3) := by decide +kernel
theorem dX6_leastLeftOut_81 : decode cX6_leastLeftOut 81 = .ok (.iload 5, 2) := by decide +kernel
theorem dX6_leastLeftOut_83 : decode cX6_leastLeftOut 83 = .ok (.ireturn, 1) := by decide +kernel
theorem dX6_leastLeftOut_84 : decode cX6_leastLeftOut 84 = .ok (.iinc 4 1, 3) := by decide +kernel
theorem dX6_leastLeftOut_87 : decode cX6_leastLeftOut 87 = .ok (.goto (-54), 3) := by decide +kernel
theorem dX6_leastLeftOut_90 : decode cX6_leastLeftOut 90 = .ok (.iconst (-1), 1) := by decide +kernel
theorem dX6_leastLeftOut_91 : decode cX6_leastLeftOut 91 = .ok (.ireturn, 1) := by decide +kernel
theorem dX6_drawDraft_0 : decode cX6_drawDraft 0 = .ok (.iload_n 1, 1) := by decide +kernel
theorem dX6_drawDraft_1 : decode cX6_drawDraft 1 = .ok (.istore_n 2, 1) := by decide +kernel
theorem dX6_drawDraft_2 : decode cX6_drawDraft 2 = .ok (.aload_n 0, 1) := by decide +kernel
theorem dX6_drawDraft_3 : decode cX6_drawDraft 3 = .ok (.getfield 61, 3) := by decide +kernel
theorem dX6_drawDraft_6 : decode cX6_drawDraft 6 = .ok (.iconst 5, 1) := by decide +kernel
theorem dX6_drawDraft_7 : decode cX6_drawDraft 7 = .ok (.putfield 86, 3) := by decide +kernel
theorem dX6_drawDraft_10 : decode cX6_drawDraft 10 = .ok (.iconst 0, 1) := by decide +kernel
theorem dX6_drawDraft_11 : decode cX6_drawDraft 11 = .ok (.istore_n 3, 1) := by decide +kernel
theorem dX6_drawDraft_12 : decode cX6_drawDraft 12 = .ok (.iload_n 3, 1) := by decide +kernel
theorem dX6_drawDraft_13 : decode cX6_drawDraft 13 = .ok (.iconst 5, 1) := by decide +kernel
theorem dX6_drawDraft_14 : decode cX6_drawDraft 14 = .ok (.if_icmp .ge 66, 3) := by decide +kernel
theorem dX6_drawDraft_17 : decode cX6_drawDraft 17 = .ok (.iload_n 2, 1) := by decide +kernel
theorem dX6_drawDraft_18 : decode cX6_drawDraft 18 = .ok (.invokestatic 252, 3) := by decide +kernel
theorem dX6_drawDraft_21 : decode cX6_drawDraft 21 = .ok (.istore_n 2, 1) := by decide +kernel
theorem dX6_drawDraft_22 : decode cX6_drawDraft 22 = .ok (.aload_n 0, 1) := by decide +kernel
theorem dX6_drawDraft_23 : decode cX6_drawDraft 23 = .ok (.getfield 61, 3) := by decide +kernel
theorem dX6_drawDraft_26 : decode cX6_drawDraft 26 = .ok (.getfield 106, 3) := by decide +kernel
theorem dX6_drawDraft_29 : decode cX6_drawDraft 29 = .ok (.iload_n 3, 1) := by decide +kernel
theorem dX6_drawDraft_30 : decode cX6_drawDraft 30 = .ok (.iload_n 2, 1) := by decide +kernel
theorem dX6_drawDraft_31 : decode cX6_drawDraft 31 = .ok (.iconst 5, 1) := by decide +kernel
theorem dX6_drawDraft_32 : decode cX6_drawDraft 32 = .ok (.invokestatic 255, 3) := by decide +kernel
theorem dX6_drawDraft_35 : decode cX6_drawDraft 35 = .ok (.iastore, 1) := by decide +kernel
theorem dX6_drawDraft_36 : decode cX6_drawDraft 36 = .ok (.iload_n 2, 1) := by decide +kernel
theorem dX6_drawDraft_37 : decode cX6_drawDraft 37 = .ok (.invokestatic 252, 3) := by decide +kernel
theorem dX6_drawDraft_40 : decode cX6_drawDraft 40 = .ok (.istore_n 2, 1) := by decide +kernel
theorem dX6_drawDraft_41 : decode cX6_drawDraft 41 = .ok (.aload_n 0, 1) := by decide +kernel
theorem dX6_drawDraft_42 : decode cX6_drawDraft 42 = .ok (.getfield 61, 3) := by decide +kernel
theorem dX6_drawDraft_45 : decode cX6_drawDraft 45 = .ok (.getfield 110, 3) := by decide +kernel
theorem dX6_drawDraft_48 : decode cX6_drawDraft 48 = .ok (.iload_n 3, 1) := by decide +kernel
theorem dX6_drawDraft_49 : decode cX6_drawDraft 49 = .ok (.iload_n 2, 1) := by decide +kernel
theorem dX6_drawDraft_50 : decode cX6_drawDraft 50 = .ok (.iconst 5, 1) := by decide +kernel
theorem dX6_drawDraft_51 : decode cX6_drawDraft 51 = .ok (.invokestatic 255, 3) := by decide +kernel
theorem dX6_drawDraft_54 : decode cX6_drawDraft 54 = .ok (.iastore, 1) := by decide +kernel
theorem dX6_drawDraft_55 : decode cX6_drawDraft 55 = .ok (.iload_n 2, 1) := by decide +kernel
theorem dX6_drawDraft_56 : decode cX6_drawDraft 56 = .ok (.invokestatic 252, 3) := by decide +kernel
theorem dX6_drawDraft_59 : decode cX6_drawDraft 59 = .ok (.istore_n 2, 1) := by decide +kernel
theorem dX6_drawDraft_60 : decode cX6_drawDraft 60 = .ok (.aload_n 0, 1) := by decide +kernel
theorem dX6_drawDraft_61 : decode cX6_drawDraft 61 = .ok (.getfield 61, 3) := by decide +kernel
theorem dX6_drawDraft_64 : decode cX6_drawDraft 64 = .ok (.getfield 113, 3) := by decide +kernel
theorem dX6_drawDraft_67 : decode cX6_drawDraft 67 = .ok (.iload_n 3, 1) := by decide +kernel
theorem dX6_drawDraft_68 : decode cX6_drawDraft 68 = .ok (.iload_n 2, 1) := by decide +kernel
theorem dX6_drawDraft_69 : decode cX6_drawDraft 69 = .ok (.iconst 5, 1) := by decide +kernel
theorem dX6_drawDraft_70 : decode cX6_drawDraft 70 = .ok (.invokestatic 255, 3) := by decide +kernel
theorem dX6_drawDraft_73 : decode cX6_drawDraft 73 = .ok (.iastore, 1) := by decide +kernel
theorem dX6_drawDraft_74 : decode cX6_drawDraft 74 = .ok (.iinc 3 1, 3) := by decide +kernel
theorem dX6_drawDraft_77 : decode cX6_drawDraft 77 = .ok (.goto (-65), 3) := by decide +kernel
theorem dX6_drawDraft_80 : decode cX6_drawDraft 80 = .ok (.iload_n 2, 1) := by decide +kernel
theorem dX6_drawDraft_81 : decode cX6_drawDraft 81 = .ok (.ireturn, 1) := by decide +kernel
theorem dX6_nextSeed_0 : decode cX6_nextSeed 0 = .ok (.ldc2_w 258, 3) := by decide +kernel
theorem dX6_nextSeed_3 : decode cX6_nextSeed 3 = .ok (.iload_n 0, 1) := by decide +kernel
theorem dX6_nextSeed_4 : decode cX6_nextSeed 4 = .ok (.i2l, 1) := by decide +kernel
theorem dX6_nextSeed_5 : decode cX6_nextSeed 5 = .ok (.lmul, 1) := by decide +kernel
theorem dX6_nextSeed_6 : decode cX6_nextSeed 6 = .ok (.ldc2_w 260, 3) := by decide +kernel
theorem dX6_nextSeed_9 : decode cX6_nextSeed 9 = .ok (.ladd, 1) := by decide +kernel
theorem dX6_nextSeed_10 : decode cX6_nextSeed 10 = .ok (.ldc2_w 262, 3) := by decide +kernel
theorem dX6_nextSeed_13 : decode cX6_nextSeed 13 = .ok (.land, 1) := by decide +kernel
theorem dX6_nextSeed_14 : decode cX6_nextSeed 14 = .ok (.l2i, 1) := by decide +kernel
theorem dX6_nextSeed_15 : decode cX6_nextSeed 15 = .ok (.ireturn, 1) := by decide +kernel
theorem dX6_drawBy_0 : decode cX6_drawBy 0 = .ok (.iload_n 1, 1) := by decide +kernel
theorem dX6_drawBy_1 : decode cX6_drawBy 1 = .ok (.ifCond .le 12, 3) := by decide +kernel
theorem dX6_drawBy_4 : decode cX6_drawBy 4 = .ok (.iload_n 0, 1) := by decide +kernel
theorem dX6_drawBy_5 : decode cX6_drawBy 5 = .ok (.bipush 16, 2) := by decide +kernel
theorem dX6_drawBy_7 : decode cX6_drawBy 7 = .ok (.iushr, 1) := by decide +kernel
theorem dX6_drawBy_8 : decode cX6_drawBy 8 = .ok (.iload_n 1, 1) := by decide +kernel
theorem dX6_drawBy_9 : decode cX6_drawBy 9 = .ok (.irem, 1) := by decide +kernel
theorem dX6_drawBy_10 : decode cX6_drawBy 10 = .ok (.goto 4, 3) := by decide +kernel
theorem dX6_drawBy_13 : decode cX6_drawBy 13 = .ok (.iconst 0, 1) := by decide +kernel
theorem dX6_drawBy_14 : decode cX6_drawBy 14 = .ok (.ireturn, 1) := by decide +kernel
theorem dX6_isKind_0 : decode cX6_isKind 0 = .ok (.iload_n 0, 1) := by decide +kernel
theorem dX6_isKind_1 : decode cX6_isKind 1 = .ok (.ifCond .lt 12, 3) := by decide +kernel
theorem dX6_isKind_4 : decode cX6_isKind 4 = .ok (.iload_n 0, 1) := by decide +kernel
theorem dX6_isKind_5 : decode cX6_isKind 5 = .ok (.iconst 5, 1) := by decide +kernel
theorem dX6_isKind_6 : decode cX6_isKind 6 = .ok (.if_icmp .ge 7, 3) := by decide +kernel
theorem dX6_isKind_9 : decode cX6_isKind 9 = .ok (.iconst 1, 1) := by decide +kernel
theorem dX6_isKind_10 : decode cX6_isKind 10 = .ok (.goto 4, 3) := by decide +kernel
theorem dX6_isKind_13 : decode cX6_isKind 13 = .ok (.iconst 0, 1) := by decide +kernel
theorem dX6_isKind_14 : decode cX6_isKind 14 = .ok (.ireturn, 1) := by decide +kernel
theorem dX6_isEnd_0 : decode cX6_isEnd 0 = .ok (.iload_n 0, 1) := by decide +kernel
theorem dX6_isEnd_1 : decode cX6_isEnd 1 = .ok (.ifCond .eq 8, 3) := by decide +kernel
theorem dX6_isEnd_4 : decode cX6_isEnd 4 = .ok (.iload_n 0, 1) := by decide +kernel
theorem dX6_isEnd_5 : decode cX6_isEnd 5 = .ok (.iconst 1, 1) := by decide +kernel
theorem dX6_isEnd_6 : decode cX6_isEnd 6 = .ok (.if_icmp .ne 7, 3) := by decide +kernel
theorem dX6_isEnd_9 : decode cX6_isEnd 9 = .ok (.iconst 1, 1) := by decide +kernel
theorem dX6_isEnd_10 : decode cX6_isEnd 10 = .ok (.goto 4, 3) := by decide +kernel
theorem dX6_isEnd_13 : decode cX6_isEnd 13 = .ok (.iconst 0, 1) := by decide +kernel
theorem dX6_isEnd_14 : decode cX6_isEnd 14 = .ok (.ireturn, 1) := by decide +kernel
theorem dX6_endsOf_0 : decode cX6_endsOf 0 = .ok (.iload_n 0, 1) := by decide +kernel
theorem dX6_endsOf_1 : decode cX6_endsOf 1 = .ok (.lookupswitch 31 #[(0, 27), (2, 29)], 27) := by decide +kernel
theorem dX6_endsOf_28 : decode cX6_endsOf 28 = .ok (.iconst 1, 1) := by decide +kernel
theorem dX6_endsOf_29 : decode cX6_endsOf 29 = .ok (.ireturn, 1) := by decide +kernel
theorem dX6_endsOf_30 : decode cX6_endsOf 30 = .ok (.iconst 0, 1) := by decide +kernel
theorem dX6_endsOf_31 : decode cX6_endsOf 31 = .ok (.ireturn, 1) := by decide +kernel
theorem dX6_endsOf_32 : decode cX6_endsOf 32 = .ok (.iconst 2, 1) := by decide +kernel
theorem dX6_endsOf_33 : decode cX6_endsOf 33 = .ok (.ireturn, 1) := by decide +kernel
theorem dX6_doesAt_0 : decode cX6_doesAt 0 = .ok (.iload_n 0, 1) := by decide +kernel
theorem dX6_doesAt_1 : decode cX6_doesAt 1 = .ok (.tableswitch 59 1 4 #[31, 33, 35, 47], 31) := by decide +kernel
theorem dX6_doesAt_32 : decode cX6_doesAt 32 = .ok (.iload_n 2, 1) := by decide +kernel
theorem dX6_doesAt_33 : decode cX6_doesAt 33 = .ok (.ireturn, 1) := by decide +kernel
theorem dX6_doesAt_34 : decode cX6_doesAt 34 = .ok (.iconst 2, 1) := by decide +kernel
theorem dX6_doesAt_35 : decode cX6_doesAt 35 = .ok (.ireturn, 1) := by decide +kernel
theorem dX6_doesAt_36 : decode cX6_doesAt 36 = .ok (.iload_n 1, 1) := by decide +kernel
theorem dX6_doesAt_37 : decode cX6_doesAt 37 = .ok (.iconst 2, 1) := by decide +kernel
theorem dX6_doesAt_38 : decode cX6_doesAt 38 = .ok (.irem, 1) := by decide +kernel
theorem dX6_doesAt_39 : decode cX6_doesAt 39 = .ok (.ifCond .ne 7, 3) := by decide +kernel
theorem dX6_doesAt_42 : decode cX6_doesAt 42 = .ok (.iconst 1, 1) := by decide +kernel
theorem dX6_doesAt_43 : decode cX6_doesAt 43 = .ok (.goto 4, 3) := by decide +kernel
theorem dX6_doesAt_46 : decode cX6_doesAt 46 = .ok (.iconst 0, 1) := by decide +kernel
theorem dX6_doesAt_47 : decode cX6_doesAt 47 = .ok (.ireturn, 1) := by decide +kernel
theorem dX6_doesAt_48 : decode cX6_doesAt 48 = .ok (.iload_n 1, 1) := by decide +kernel
theorem dX6_doesAt_49 : decode cX6_doesAt 49 = .ok (.iconst 3, 1) := by decide +kernel
theorem dX6_doesAt_50 : decode cX6_doesAt 50 = .ok (.irem, 1) := by decide +kernel
theorem dX6_doesAt_51 : decode cX6_doesAt 51 = .ok (.ifCond .ne 7, 3) := by decide +kernel
theorem dX6_doesAt_54 : decode cX6_doesAt 54 = .ok (.iconst 1, 1) := by decide +kernel
theorem dX6_doesAt_55 : decode cX6_doesAt 55 = .ok (.goto 4, 3) := by decide +kernel
theorem dX6_doesAt_58 : decode cX6_doesAt 58 = .ok (.iconst 0, 1) := by decide +kernel
theorem dX6_doesAt_59 : decode cX6_doesAt 59 = .ok (.ireturn, 1) := by decide +kernel
theorem dX6_doesAt_60 : decode cX6_doesAt 60 = .ok (.iconst 0, 1) := by decide +kernel
theorem dX6_doesAt_61 : decode cX6_doesAt 61 = .ok (.ireturn, 1) := by decide +kernel
theorem dX7_init_0 : decode cX7_init 0 = .ok (.aload_n 0, 1) := by decide +kernel
theorem dX7_init_1 : decode cX7_init 1 = .ok (.invokespecial 1, 3) := by decide +kernel
theorem dX7_init_4 : decode cX7_init 4 = .ok (.aload_n 0, 1) := by decide +kernel
theorem dX7_init_5 : decode cX7_init 5 = .ok (.bipush 8, 2) := by decide +kernel
theorem dX7_init_7 : decode cX7_init 7 = .ok (.newarray .int, 2) := by decide +kernel
theorem dX7_init_9 : decode cX7_init 9 = .ok (.putfield 7, 3) := by decide +kernel
theorem dX7_init_12 : decode cX7_init 12 = .ok (.aload_n 0, 1) := by decide +kernel
theorem dX7_init_13 : decode cX7_init 13 = .ok (.bipush 16, 2) := by decide +kernel
theorem dX7_init_15 : decode cX7_init 15 = .ok (.newarray .int, 2) := by decide +kernel
theorem dX7_init_17 : decode cX7_init 17 = .ok (.putfield 13, 3) := by decide +kernel
theorem dX7_init_20 : decode cX7_init 20 = .ok (.aload_n 0, 1) := by decide +kernel
theorem dX7_init_21 : decode cX7_init 21 = .ok (.bipush 30, 2) := by decide +kernel
theorem dX7_init_23 : decode cX7_init 23 = .ok (.newarray .int, 2) := by decide +kernel
theorem dX7_init_25 : decode cX7_init 25 = .ok (.putfield 16, 3) := by decide +kernel
theorem dX7_init_28 : decode cX7_init 28 = .ok (.aload_n 0, 1) := by decide +kernel
theorem dX7_init_29 : decode cX7_init 29 = .ok (.bipush 6, 2) := by decide +kernel
theorem dX7_init_31 : decode cX7_init 31 = .ok (.newarray .int, 2) := by decide +kernel
theorem dX7_init_33 : decode cX7_init 33 = .ok (.putfield 19, 3) := by decide +kernel
theorem dX7_init_36 : decode cX7_init 36 = .ok (.aload_n 0, 1) := by decide +kernel
theorem dX7_init_37 : decode cX7_init 37 = .ok (.bipush 6, 2) := by decide +kernel
theorem dX7_init_39 : decode cX7_init 39 = .ok (.newarray .int, 2) := by decide +kernel
theorem dX7_init_41 : decode cX7_init 41 = .ok (.putfield 22, 3) := by decide +kernel
theorem dX7_init_44 : decode cX7_init 44 = .ok (.aload_n 0, 1) := by decide +kernel
theorem dX7_init_45 : decode cX7_init 45 = .ok (.bipush 6, 2) := by decide +kernel
theorem dX7_init_47 : decode cX7_init 47 = .ok (.newarray .int, 2) := by decide +kernel
theorem dX7_init_49 : decode cX7_init 49 = .ok (.putfield 25, 3) := by decide +kernel
theorem dX7_init_52 : decode cX7_init 52 = .ok (.aload_n 0, 1) := by decide +kernel
theorem dX7_init_53 : decode cX7_init 53 = .ok (.bipush 34, 2) := by decide +kernel
theorem dX7_init_55 : decode cX7_init 55 = .ok (.newarray .byte, 2) := by decide +kernel
theorem dX7_init_57 : decode cX7_init 57 = .ok (.putfield 28, 3) := by decide +kernel
theorem dX7_init_60 : decode cX7_init 60 = .ok (.aload_n 0, 1) := by decide +kernel
theorem dX7_init_61 : decode cX7_init 61 = .ok (.bipush 8, 2) := by decide +kernel
theorem dX7_init_63 : decode cX7_init 63 = .ok (.newarray .int, 2) := by decide +kernel
theorem dX7_init_65 : decode cX7_init 65 = .ok (.putfield 32, 3) := by decide +kernel
theorem dX7_init_68 : decode cX7_init 68 = .ok (.aload_n 0, 1) := by decide +kernel
theorem dX7_init_69 : decode cX7_init 69 = .ok (.bipush 16, 2) := by decide +kernel
theorem dX7_init_71 : decode cX7_init 71 = .ok (.newarray .int, 2) := by decide +kernel
theorem dX7_init_73 : decode cX7_init 73 = .ok (.putfield 35, 3) := by decide +kernel
theorem dX7_init_76 : decode cX7_init 76 = .ok (.aload_n 0, 1) := by decide +kernel
theorem dX7_init_77 : decode cX7_init 77 = .ok (.bipush 8, 2) := by decide +kernel
theorem dX7_init_79 : decode cX7_init 79 = .ok (.newarray .int, 2) := by decide +kernel
theorem dX7_init_81 : decode cX7_init 81 = .ok (.putfield 38, 3) := by decide +kernel
theorem dX7_init_84 : decode cX7_init 84 = .ok (.aload_n 0, 1) := by decide +kernel
theorem dX7_init_85 : decode cX7_init 85 = .ok (.bipush 16, 2) := by decide +kernel
theorem dX7_init_87 : decode cX7_init 87 = .ok (.newarray .int, 2) := by decide +kernel
theorem dX7_init_89 : decode cX7_init 89 = .ok (.putfield 41, 3) := by decide +kernel
theorem dX7_init_92 : decode cX7_init 92 = .ok (.aload_n 0, 1) := by decide +kernel
theorem dX7_init_93 : decode cX7_init 93 = .ok (.bipush 8, 2) := by decide +kernel
theorem dX7_init_95 : decode cX7_init 95 = .ok (.newarray .int, 2) := by decide +kernel
theorem dX7_init_97 : decode cX7_init 97 = .ok (.putfield 44, 3) := by decide +kernel
theorem dX7_init_100 : decode cX7_init 100 = .ok (.aload_n 0, 1) := by decide +kernel
theorem dX7_init_101 : decode cX7_init 101 = .ok (.bipush 8, 2) := by decide +kernel
theorem dX7_init_103 : decode cX7_init 103 = .ok (.newarray .int, 2) := by decide +kernel
theorem dX7_init_105 : decode cX7_init 105 = .ok (.putfield 47, 3) := by decide +kernel
theorem dX7_init_108 : decode cX7_init 108 = .ok (.aload_n 0, 1) := by decide +kernel
theorem dX7_init_109 : decode cX7_init 109 = .ok (.bipush 8, 2) := by decide +kernel
theorem dX7_init_111 : decode cX7_init 111 = .ok (.newarray .int, 2) := by decide +kernel
theorem dX7_init_113 : decode cX7_init 113 = .ok (.putfield 50, 3) := by decide +kernel
theorem dX7_init_116 : decode cX7_init 116 = .ok (.aload_n 0, 1) := by decide +kernel
theorem dX7_init_117 : decode cX7_init 117 = .ok (.bipush 8, 2) := by decide +kernel
theorem dX7_init_119 : decode cX7_init 119 = .ok (.newarray .int, 2) := by decide +kernel
theorem dX7_init_121 : decode cX7_init 121 = .ok (.putfield 53, 3) := by decide +kernel
theorem dX7_init_124 : decode cX7_init 124 = .ok (.aload_n 0, 1) := by decide +kernel
theorem dX7_init_125 : decode cX7_init 125 = .ok (.bipush 8, 2) := by decide +kernel
theorem dX7_init_127 : decode cX7_init 127 = .ok (.newarray .int, 2) := by decide +kernel
theorem dX7_init_129 : decode cX7_init 129 = .ok (.putfield 56, 3) := by decide +kernel
theorem dX7_init_132 : decode cX7_init 132 = .ok (.aload_n 0, 1) := by decide +kernel
theorem dX7_init_133 : decode cX7_init 133 = .ok (.bipush 8, 2) := by decide +kernel
theorem dX7_init_135 : decode cX7_init 135 = .ok (.newarray .int, 2) := by decide +kernel
theorem dX7_init_137 : decode cX7_init 137 = .ok (.putfield 59, 3) := by decide +kernel
theorem dX7_init_140 : decode cX7_init 140 = .ok (.aload_n 0, 1) := by decide +kernel
theorem dX7_init_141 : decode cX7_init 141 = .ok (.bipush 8, 2) := by decide +kernel
theorem dX7_init_143 : decode cX7_init 143 = .ok (.newarray .int, 2) := by decide +kernel
theorem dX7_init_145 : decode cX7_init 145 = .ok (.putfield 62, 3) := by decide +kernel
theorem dX7_init_148 : decode cX7_init 148 = .ok (.aload_n 0, 1) := by decide +kernel
theorem dX7_init_149 : decode cX7_init 149 = .ok (.sipush 128, 3) := by decide +kernel
theorem dX7_init_152 : decode cX7_init 152 = .ok (.newarray .int, 2) := by decide +kernel
theorem dX7_init_154 : decode cX7_init 154 = .ok (.putfield 65, 3) := by decide +kernel
theorem dX7_init_157 : decode cX7_init 157 = .ok (.aload_n 0, 1) := by decide +kernel
theorem dX7_init_158 : decode cX7_init 158 = .ok (.sipush 256, 3) := by decide +kernel
theorem dX7_init_161 : decode cX7_init 161 = .ok (.newarray .int, 2) := by decide +kernel
theorem dX7_init_163 : decode cX7_init 163 = .ok (.putfield 68, 3) := by decide +kernel
theorem dX7_init_166 : decode cX7_init 166 = .ok (.aload_n 0, 1) := by decide +kernel
theorem dX7_init_167 : decode cX7_init 167 = .ok (.bipush 64, 2) := by decide +kernel
theorem dX7_init_169 : decode cX7_init 169 = .ok (.newarray .int, 2) := by decide +kernel
theorem dX7_init_171 : decode cX7_init 171 = .ok (.putfield 71, 3) := by decide +kernel
theorem dX7_init_174 : decode cX7_init 174 = .ok (.aload_n 0, 1) := by decide +kernel
theorem dX7_init_175 : decode cX7_init 175 = .ok (.bipush 8, 2) := by decide +kernel
theorem dX7_init_177 : decode cX7_init 177 = .ok (.newarray .int, 2) := by decide +kernel
theorem dX7_init_179 : decode cX7_init 179 = .ok (.putfield 74, 3) := by decide +kernel
theorem dX7_init_182 : decode cX7_init 182 = .ok (.aload_n 0, 1) := by decide +kernel
theorem dX7_init_183 : decode cX7_init 183 = .ok (.bipush 16, 2) := by decide +kernel
theorem dX7_init_185 : decode cX7_init 185 = .ok (.newarray .int, 2) := by decide +kernel
theorem dX7_init_187 : decode cX7_init 187 = .ok (.putfield 77, 3) := by decide +kernel
theorem dX7_init_190 : decode cX7_init 190 = .ok (.aload_n 0, 1) := by decide +kernel
theorem dX7_init_191 : decode cX7_init 191 = .ok (.bipush 6, 2) := by decide +kernel
theorem dX7_init_193 : decode cX7_init 193 = .ok (.newarray .int, 2) := by decide +kernel
theorem dX7_init_195 : decode cX7_init 195 = .ok (.putfield 80, 3) := by decide +kernel
theorem dX7_init_198 : decode cX7_init 198 = .ok (.aload_n 0, 1) := by decide +kernel
theorem dX7_init_199 : decode cX7_init 199 = .ok (.bipush 6, 2) := by decide +kernel
theorem dX7_init_201 : decode cX7_init 201 = .ok (.newarray .int, 2) := by decide +kernel
theorem dX7_init_203 : decode cX7_init 203 = .ok (.putfield 83, 3) := by decide +kernel
theorem dX7_init_206 : decode cX7_init 206 = .ok (.aload_n 0, 1) := by decide +kernel
theorem dX7_init_207 : decode cX7_init 207 = .ok (.bipush 6, 2) := by decide +kernel
theorem dX7_init_209 : decode cX7_init 209 = .ok (.newarray .int, 2) := by decide +kernel
theorem dX7_init_211 : decode cX7_init 211 = .ok (.putfield 86, 3) := by decide +kernel
theorem dX7_init_214 : decode cX7_init 214 = .ok (.return_, 1) := by decide +kernel
theorem dX7_within_0 : decode cX7_within 0 = .ok (.iload_n 0, 1) := by decide +kernel
theorem dX7_within_1 : decode cX7_within 1 = .ok (.iload_n 1, 1) := by decide +kernel
theorem dX7_within_2 : decode cX7_within 2 = .ok (.if_icmp .lt 12, 3) := by decide +kernel
theorem dX7_within_5 : decode cX7_within 5 = .ok (.iload_n 0, 1) := by decide +kernel
theorem dX7_within_6 : decode cX7_within 6 = .ok (.iload_n 2, 1) := by decide +kernel
theorem dX7_within_7 : decode cX7_within 7 = .ok (.if_icmp .gt 7, 3) := by decide +kernel
theorem dX7_within_10 : decode cX7_within 10 = .ok (.iconst 1, 1) := by decide +kernel
theorem dX7_within_11 : decode cX7_within 11 = .ok (.goto 4, 3) := by decide +kernel
theorem dX7_within_14 : decode cX7_within 14 = .ok (.iconst 0, 1) := by decide +kernel
theorem dX7_within_15 : decode cX7_within 15 = .ok (.ireturn, 1) := by decide +kernel
theorem dX7_isIn_0 : decode cX7_isIn 0 = .ok (.iload_n 0, 1) := by decide +kernel
theorem dX7_isIn_1 : decode cX7_isIn 1 = .ok (.iload_n 1, 1) := by decide +kernel
theorem dX7_isIn_2 : decode cX7_isIn 2 = .ok (.ishr, 1) := by decide +kernel
theorem dX7_isIn_3 : decode cX7_isIn 3 = .ok (.iconst 1, 1) := by decide +kernel
theorem dX7_isIn_4 : decode cX7_isIn 4 = .ok (.iand, 1) := by decide +kernel
theorem dX7_isIn_5 : decode cX7_isIn 5 = .ok (.iconst 1, 1) := by decide +kernel
theorem dX7_isIn_6 : decode cX7_isIn 6 = .ok (.if_icmp .ne 7, 3) := by decide +kernel
theorem dX7_isIn_9 : decode cX7_isIn 9 = .ok (.iconst 1, 1) := by decide +kernel
theorem dX7_isIn_10 : decode cX7_isIn 10 = .ok (.goto 4, 3) := by decide +kernel
theorem dX7_isIn_13 : decode cX7_isIn 13 = .ok (.iconst 0, 1) := by decide +kernel
theorem dX7_isIn_14 : decode cX7_isIn 14 = .ok (.ireturn, 1) := by decide +kernel
theorem dX7_size_0 : decode cX7_size 0 = .ok (.iconst 0, 1) := by decide +kernel
theorem dX7_size_1 : decode cX7_size 1 = .ok (.istore_n 1, 1) := by decide +kernel
theorem dX7_size_2 : decode cX7_size 2 = .ok (.iconst 0, 1) := by decide +kernel
theorem dX7_size_3 : decode cX7_size 3 = .ok (.istore_n 2, 1) := by decide +kernel
theorem dX7_size_4 : decode cX7_size 4 = .ok (.iload_n 2, 1) := by decide +kernel
theorem dX7_size_5 : decode cX7_size 5 = .ok (.bipush 16, 2) := by decide +kernel
theorem dX7_size_7 : decode cX7_size 7 = .ok (.if_icmp .ge 17, 3) := by decide +kernel
theorem dX7_size_10 : decode cX7_size 10 = .ok (.iload_n 1, 1) := by decide +kernel
theorem dX7_size_11 : decode cX7_size 11 = .ok (.iload_n 0, 1) := by decide +kernel
theorem dX7_size_12 : decode cX7_size 12 = .ok (.iload_n 2, 1) := by decide +kernel
theorem dX7_size_13 : decode cX7_size 13 = .ok (.ishr, 1) := by decide +kernel
theorem dX7_size_14 : decode cX7_size 14 = .ok (.iconst 1, 1) := by decide +kernel
theorem dX7_size_15 : decode cX7_size 15 = .ok (.iand, 1) := by decide +kernel
theorem dX7_size_16 : decode cX7_size 16 = .ok (.iadd, 1) := by decide +kernel
theorem dX7_size_17 : decode cX7_size 17 = .ok (.istore_n 1, 1) := by decide +kernel
theorem dX7_size_18 : decode cX7_size 18 = .ok (.iinc 2 1, 3) := by decide +kernel
theorem dX7_size_21 : decode cX7_size 21 = .ok (.goto (-17), 3) := by decide +kernel
theorem dX7_size_24 : decode cX7_size 24 = .ok (.iload_n 1, 1) := by decide +kernel
theorem dX7_size_25 : decode cX7_size 25 = .ok (.ireturn, 1) := by decide +kernel
theorem dX7_letter_0 : decode cX7_letter 0 = .ok (.iload_n 1, 1) := by decide +kernel
theorem dX7_letter_1 : decode cX7_letter 1 = .ok (.bipush 32, 2) := by decide +kernel
theorem dX7_letter_3 : decode cX7_letter 3 = .ok (.bipush 126, 2) := by decide +kernel
theorem dX7_letter_5 : decode cX7_letter 5 = .ok (.invokestatic 89, 3) := by decide +kernel
theorem dX7_letter_8 : decode cX7_letter 8 = .ok (.ifCond .ne 6, 3) := by decide +kernel
theorem dX7_letter_11 : decode cX7_letter 11 = .ok (.bipush (-102), 2) := by decide +kernel
theorem dX7_letter_13 : decode cX7_letter 13 = .ok (.ireturn, 1) := by decide +kernel
theorem dX7_letter_14 : decode cX7_letter 14 = .ok (.aload_n 0, 1) := by decide +kernel
theorem dX7_letter_15 : decode cX7_letter 15 = .ok (.getfield 93, 3) := by decide +kernel
theorem dX7_letter_18 : decode cX7_letter 18 = .ok (.bipush 34, 2) := by decide +kernel
theorem dX7_letter_20 : decode cX7_letter 20 = .ok (.if_icmp .ne 6, 3) := by decide +kernel
theorem dX7_letter_23 : decode cX7_letter 23 = .ok (.bipush (-104), 2) := by decide +kernel
theorem dX7_letter_25 : decode cX7_letter 25 = .ok (.ireturn, 1) := by decide +kernel
theorem dX7_letter_26 : decode cX7_letter 26 = .ok (.aload_n 0, 1) := by decide +kernel
theorem dX7_letter_27 : decode cX7_letter 27 = .ok (.getfield 28, 3) := by decide +kernel
theorem dX7_letter_30 : decode cX7_letter 30 = .ok (.aload_n 0, 1) := by decide +kernel
theorem dX7_letter_31 : decode cX7_letter 31 = .ok (.getfield 93, 3) := by decide +kernel
theorem dX7_letter_34 : decode cX7_letter 34 = .ok (.iload_n 1, 1) := by decide +kernel
theorem dX7_letter_35 : decode cX7_letter 35 = .ok (.i2b, 1) := by decide +kernel
theorem dX7_letter_36 : decode cX7_letter 36 = .ok (.bastore, 1) := by decide +kernel
theorem dX7_letter_37 : decode cX7_letter 37 = .ok (.aload_n 0, 1) := by decide +kernel
theorem dX7_letter_38 : decode cX7_letter 38 = .ok (.dup, 1) := by decide +kernel
theorem dX7_letter_39 : decode cX7_letter 39 = .ok (.getfield 93, 3) := by decide +kernel
theorem dX7_letter_42 : decode cX7_letter 42 = .ok (.iconst 1, 1) := by decide +kernel
theorem dX7_letter_43 : decode cX7_letter 43 = .ok (.iadd, 1) := by decide +kernel
theorem dX7_letter_44 : decode cX7_letter 44 = .ok (.putfield 93, 3) := by decide +kernel
theorem dX7_letter_47 : decode cX7_letter 47 = .ok (.aload_n 0, 1) := by decide +kernel
theorem dX7_letter_48 : decode cX7_letter 48 = .ok (.getfield 93, 3) := by decide +kernel
theorem dX7_letter_51 : decode cX7_letter 51 = .ok (.ireturn, 1) := by decide +kernel
theorem dX7_blank_0 : decode cX7_blank 0 = .ok (.aload_n 0, 1) := by decide +kernel
theorem dX7_blank_1 : decode cX7_blank 1 = .ok (.getfield 93, 3) := by decide +kernel
theorem dX7_blank_4 : decode cX7_blank 4 = .ok (.istore_n 1, 1) := by decide +kernel
theorem dX7_blank_5 : decode cX7_blank 5 = .ok (.aload_n 0, 1) := by decide +kernel
theorem dX7_blank_6 : decode cX7_blank 6 = .ok (.iconst 0, 1) := by decide +kernel
theorem dX7_blank_7 : decode cX7_blank 7 = .ok (.putfield 93, 3) := by decide +kernel
theorem dX7_blank_10 : decode cX7_blank 10 = .ok (.iload_n 1, 1) := by decide +kernel
theorem dX7_blank_11 : decode cX7_blank 11 = .ok (.ireturn, 1) := by decide +kernel
theorem dX7_kindBy_0 : decode cX7_kindBy 0 = .ok (.iload_n 0, 1) := by decide +kernel
theorem dX7_kindBy_1 : decode cX7_kindBy 1 = .ok (.lookupswitch 61 #[(101, 55), (102, 53), (110, 51), (116, 59), (120, 57)], 51) := by decide +kernel
theorem dX7_kindBy_52 : decode cX7_kindBy 52 = .ok (.iconst 0, 1) := by decide +kernel
theorem dX7_kindBy_53 : decode cX7_kindBy 53 = .ok (.ireturn, 1) := by decide +kernel
theorem dX7_kindBy_54 : decode cX7_kindBy 54 = .ok (.iconst 1, 1) := by decide +kernel
theorem dX7_kindBy_55 : decode cX7_kindBy 55 = .ok (.ireturn, 1) := by decide +kernel
theorem dX7_kindBy_56 : decode cX7_kindBy 56 = .ok (.iconst 2, 1) := by decide +kernel
theorem dX7_kindBy_57 : decode cX7_kindBy 57 = .ok (.ireturn, 1) := by decide +kernel
theorem dX7_kindBy_58 : decode cX7_kindBy 58 = .ok (.iconst 3, 1) := by decide +kernel
theorem dX7_kindBy_59 : decode cX7_kindBy 59 = .ok (.ireturn, 1) := by decide +kernel
theorem dX7_kindBy_60 : decode cX7_kindBy 60 = .ok (.iconst 4, 1) := by decide +kernel
theorem dX7_kindBy_61 : decode cX7_kindBy 61 = .ok (.ireturn, 1) := by decide +kernel
theorem dX7_kindBy_62 : decode cX7_kindBy 62 = .ok (.iconst (-1), 1) := by decide +kernel
theorem dX7_kindBy_63 : decode cX7_kindBy 63 = .ok (.ireturn, 1) := by decide +kernel
theorem dX7_ends_0 : decode cX7_ends 0 = .ok (.iload_n 0, 1) := by decide +kernel
theorem dX7_ends_1 : decode cX7_ends 1 = .ok (.iconst 2, 1) := by decide +kernel
theorem dX7_ends_2 : decode cX7_ends 2 = .ok (.if_icmp .ne 7, 3) := by decide +kernel
theorem dX7_ends_5 : decode cX7_ends 5 = .ok (.iconst 0, 1) := by decide +kernel
theorem dX7_ends_6 : decode cX7_ends 6 = .ok (.goto 12, 3) := by decide +kernel
theorem dX7_ends_9 : decode cX7_ends 9 = .ok (.iload_n 0, 1) := by decide +kernel
theorem dX7_ends_10 : decode cX7_ends 10 = .ok (.ifCond .ne 7, 3) := by decide +kernel
theorem dX7_ends_13 : decode cX7_ends 13 = .ok (.iconst 1, 1) := by decide +kernel
theorem dX7_ends_14 : decode cX7_ends 14 = .ok (.goto 4, 3) := by decide +kernel
theorem dX7_ends_17 : decode cX7_ends 17 = .ok (.iconst 2, 1) := by decide +kernel
theorem dX7_ends_18 : decode cX7_ends 18 = .ok (.ireturn, 1) := by decide +kernel
theorem dX7_at_0 : decode cX7_at 0 = .ok (.iload_n 1, 1) := by decide +kernel
theorem dX7_at_1 : decode cX7_at 1 = .ok (.aload_n 0, 1) := by decide +kernel
theorem dX7_at_2 : decode cX7_at 2 = .ok (.getfield 93, 3) := by decide +kernel
theorem dX7_at_5 : decode cX7_at 5 = .ok (.if_icmp .ge 12, 3) := by decide +kernel
theorem dX7_at_8 : decode cX7_at 8 = .ok (.aload_n 0, 1) := by decide +kernel
theorem dX7_at_9 : decode cX7_at 9 = .ok (.getfield 28, 3) := by decide +kernel
theorem dX7_at_12 : decode cX7_at 12 = .ok (.iload_n 1, 1) := by decide +kernel
theorem dX7_at_13 : decode cX7_at 13 = .ok (.baload, 1) := by decide +kernel
theorem dX7_at_14 : decode cX7_at 14 = .ok (.goto 4, 3) := by decide +kernel
theorem dX7_at_17 : decode cX7_at 17 = .ok (.iconst 0, 1) := by decide +kernel
theorem dX7_at_18 : decode cX7_at 18 = .ok (.ireturn, 1) := by decide +kernel
theorem dX7_read_0 : decode cX7_read 0 = .ok (.aload_n 0, 1) := by decide +kernel
theorem dX7_read_1 : decode cX7_read 1 = .ok (.iconst 0, 1) := by decide +kernel
theorem dX7_read_2 : decode cX7_read 2 = .ok (.putfield 97, 3) := by decide +kernel
theorem dX7_read_5 : decode cX7_read 5 = .ok (.aload_n 0, 1) := by decide +kernel
theorem dX7_read_6 : decode cX7_read 6 = .ok (.iconst 0, 1) := by decide +kernel
theorem dX7_read_7 : decode cX7_read 7 = .ok (.putfield 101, 3) := by decide +kernel
theorem dX7_read_10 : decode cX7_read 10 = .ok (.aload_n 0, 1) := by decide +kernel
theorem dX7_read_11 : decode cX7_read 11 = .ok (.iconst (-1), 1) := by decide +kernel
theorem dX7_read_12 : decode cX7_read 12 = .ok (.putfield 104, 3) := by decide +kernel
theorem dX7_read_15 : decode cX7_read 15 = .ok (.iconst 0, 1) := by decide +kernel
theorem dX7_read_16 : decode cX7_read 16 = .ok (.istore_n 1, 1) := by decide +kernel
theorem dX7_read_17 : decode cX7_read 17 = .ok (.aload_n 0, 1) := by decide +kernel
theorem dX7_read_18 : decode cX7_read 18 = .ok (.iload_n 1, 1) := by decide +kernel
theorem dX7_read_19 : decode cX7_read 19 = .ok (.invokevirtual 107, 3) := by decide +kernel
theorem dX7_read_22 : decode cX7_read 22 = .ok (.invokestatic 111, 3) := by decide +kernel
theorem dX7_read_25 : decode cX7_read 25 = .ok (.istore_n 2, 1) := by decide +kernel
theorem dX7_read_26 : decode cX7_read 26 = .ok (.iload_n 2, 1) := by decide +kernel
theorem dX7_read_27 : decode cX7_read 27 = .ok (.iconst (-1), 1) := by decide +kernel
theorem dX7_read_28 : decode cX7_read 28 = .ok (.if_icmp .ne 5, 3) := by decide +kernel
theorem dX7_read_31 : decode cX7_read 31 = .ok (.iload_n 1, 1) := by decide +kernel
theorem dX7_read_32 : decode cX7_read 32 = .ok (.ireturn, 1) := by decide +kernel
theorem dX7_read_33 : decode cX7_read 33 = .ok (.iinc 1 1, 3) := by decide +kernel
theorem dX7_read_36 : decode cX7_read 36 = .ok (.aload_n 0, 1) := by decide +kernel
theorem dX7_read_37 : decode cX7_read 37 = .ok (.getfield 32, 3) := by decide +kernel
theorem dX7_read_40 : decode cX7_read 40 = .ok (.aload_n 0, 1) := by decide +kernel
theorem dX7_read_41 : decode cX7_read 41 = .ok (.getfield 101, 3) := by decide +kernel
theorem dX7_read_44 : decode cX7_read 44 = .ok (.iload_n 2, 1) := by decide +kernel
theorem dX7_read_45 : decode cX7_read 45 = .ok (.iastore, 1) := by decide +kernel
theorem dX7_read_46 : decode cX7_read 46 = .ok (.aload_n 0, 1) := by decide +kernel
theorem dX7_read_47 : decode cX7_read 47 = .ok (.getfield 35, 3) := by decide +kernel
theorem dX7_read_50 : decode cX7_read 50 = .ok (.iconst 2, 1) := by decide +kernel
theorem dX7_read_51 : decode cX7_read 51 = .ok (.aload_n 0, 1) := by decide +kernel
theorem dX7_read_52 : decode cX7_read 52 = .ok (.getfield 101, 3) := by decide +kernel
theorem dX7_read_55 : decode cX7_read 55 = .ok (.imul, 1) := by decide +kernel
theorem dX7_read_56 : decode cX7_read 56 = .ok (.iconst 0, 1) := by decide +kernel
theorem dX7_read_57 : decode cX7_read 57 = .ok (.iastore, 1) := by decide +kernel
theorem dX7_read_58 : decode cX7_read 58 = .ok (.aload_n 0, 1) := by decide +kernel
theorem dX7_read_59 : decode cX7_read 59 = .ok (.getfield 35, 3) := by decide +kernel
theorem dX7_read_62 : decode cX7_read 62 = .ok (.iconst 2, 1) := by decide +kernel
theorem dX7_read_63 : decode cX7_read 63 = .ok (.aload_n 0, 1) := by decide +kernel
theorem dX7_read_64 : decode cX7_read 64 = .ok (.getfield 101, 3) := by decide +kernel
theorem dX7_read_67 : decode cX7_read 67 = .ok (.imul, 1) := by decide +kernel
theorem dX7_read_68 : decode cX7_read 68 = .ok (.iconst 1, 1) := by decide +kernel
theorem dX7_read_69 : decode cX7_read 69 = .ok (.iadd, 1) := by decide +kernel
theorem dX7_read_70 : decode cX7_read 70 = .ok (.iconst 0, 1) := by decide +kernel
theorem dX7_read_71 : decode cX7_read 71 = .ok (.iastore, 1) := by decide +kernel
theorem dX7_read_72 : decode cX7_read 72 = .ok (.iconst 0, 1) := by decide +kernel
theorem dX7_read_73 : decode cX7_read 73 = .ok (.istore_n 3, 1) := by decide +kernel
theorem dX7_read_74 : decode cX7_read 74 = .ok (.iload_n 3, 1) := by decide +kernel
theorem dX7_read_75 : decode cX7_read 75 = .ok (.iload_n 2, 1) := by decide +kernel
theorem dX7_read_76 : decode cX7_read 76 = .ok (.invokestatic 114, 3) := by decide +kernel
theorem dX7_read_79 : decode cX7_read 79 = .ok (.if_icmp .ge 72, 3) := by decide +kernel
theorem dX7_read_82 : decode cX7_read 82 = .ok (.aload_n 0, 1) := by decide +kernel
theorem dX7_read_83 : decode cX7_read 83 = .ok (.iload_n 1, 1) := by decide +kernel
theorem dX7_read_84 : decode cX7_read 84 = .ok (.invokevirtual 107, 3) := by decide +kernel
theorem dX7_read_87 : decode cX7_read 87 = .ok (.bipush 48, 2) := by decide +kernel
theorem dX7_read_89 : decode cX7_read 89 = .ok (.isub, 1) := by decide +kernel
theorem dX7_read_90 : decode cX7_read 90 = .ok (.istore 4, 2) := by decide +kernel
theorem dX7_read_92 : decode cX7_read 92 = .ok (.iload 4, 2) := by decide +kernel
theorem dX7_read_94 : decode cX7_read 94 = .ok (.iconst 0, 1) := by decide +kernel
theorem dX7_read_95 : decode cX7_read 95 = .ok (.bipush 7, 2) := by decide +kernel
theorem dX7_read_97 : decode cX7_read 97 = .ok (.invokestatic 89, 3) := by decide +kernel
theorem dX7_read_100 : decode cX7_read 100 = .ok (.ifCond .ne 5, 3) := by decide +kernel
theorem dX7_read_103 : decode cX7_read 103 = .ok (.iload_n 1, 1) := by decide +kernel
theorem dX7_read_104 : decode cX7_read 104 = .ok (.ireturn, 1) := by decide +kernel
theorem dX7_read_105 : decode cX7_read 105 = .ok (.aload_n 0, 1) := by decide +kernel
theorem dX7_read_106 : decode cX7_read 106 = .ok (.getfield 35, 3) := by decide +kernel
theorem dX7_read_109 : decode cX7_read 109 = .ok (.iconst 2, 1) := by decide +kernel
theorem dX7_read_110 : decode cX7_read 110 = .ok (.aload_n 0, 1) := by decide +kernel
theorem dX7_read_111 : decode cX7_read 111 = .ok (.getfield 101, 3) := by decide +kernel
theorem dX7_read_114 : decode cX7_read 114 = .ok (.imul, 1) := by decide +kernel
theorem dX7_read_115 : decode cX7_read 115 = .ok (.iload_n 3, 1) := by decide +kernel
theorem dX7_read_116 : decode cX7_read 116 = .ok (.iadd, 1) := by decide +kernel
theorem dX7_read_117 : decode cX7_read 117 = .ok (.iload 4, 2) := by decide +kernel
theorem dX7_read_119 : decode cX7_read 119 = .ok (.iastore, 1) := by decide +kernel
theorem dX7_read_120 : decode cX7_read 120 = .ok (.aload_n 0, 1) := by decide +kernel
theorem dX7_read_121 : decode cX7_read 121 = .ok (.iload 4, 2) := by decide +kernel
theorem dX7_read_123 : decode cX7_read 123 = .ok (.aload_n 0, 1) := by decide +kernel
theorem dX7_read_124 : decode cX7_read 124 = .ok (.getfield 104, 3) := by decide +kernel
theorem dX7_read_127 : decode cX7_read 127 = .ok (.if_icmp .le 8, 3) := by decide +kernel
theorem dX7_read_130 : decode cX7_read 130 = .ok (.iload 4, 2) := by decide +kernel
theorem dX7_read_132 : decode cX7_read 132 = .ok (.goto 7, 3) := by decide +kernel
theorem dX7_read_135 : decode cX7_read 135 = .ok (.aload_n 0, 1) := by decide +kernel
theorem dX7_read_136 : decode cX7_read 136 = .ok (.getfield 104, 3) := by decide +kernel
theorem dX7_read_139 : decode cX7_read 139 = .ok (.putfield 104, 3) := by decide +kernel
theorem dX7_read_142 : decode cX7_read 142 = .ok (.iinc 1 1, 3) := by decide +kernel
theorem dX7_read_145 : decode cX7_read 145 = .ok (.iinc 3 1, 3) := by decide +kernel
theorem dX7_read_148 : decode cX7_read 148 = .ok (.goto (-74), 3) := by decide +kernel
theorem dX7_read_151 : decode cX7_read 151 = .ok (.aload_n 0, 1) := by decide +kernel
theorem dX7_read_152 : decode cX7_read 152 = .ok (.dup, 1) := by decide +kernel
theorem dX7_read_153 : decode cX7_read 153 = .ok (.getfield 101, 3) := by decide +kernel
theorem dX7_read_156 : decode cX7_read 156 = .ok (.iconst 1, 1) := by decide +kernel
theorem dX7_read_157 : decode cX7_read 157 = .ok (.iadd, 1) := by decide +kernel
theorem dX7_read_158 : decode cX7_read 158 = .ok (.putfield 101, 3) := by decide +kernel
theorem dX7_read_161 : decode cX7_read 161 = .ok (.aload_n 0, 1) := by decide +kernel
theorem dX7_read_162 : decode cX7_read 162 = .ok (.getfield 101, 3) := by decide +kernel
theorem dX7_read_165 : decode cX7_read 165 = .ok (.bipush 8, 2) := by decide +kernel
theorem dX7_read_167 : decode cX7_read 167 = .ok (.if_icmp .eq 13, 3) := by decide +kernel
theorem dX7_read_170 : decode cX7_read 170 = .ok (.aload_n 0, 1) := by decide +kernel
theorem dX7_read_171 : decode cX7_read 171 = .ok (.iload_n 1, 1) := by decide +kernel
theorem dX7_read_172 : decode cX7_read 172 = .ok (.invokevirtual 107, 3) := by decide +kernel
theorem dX7_read_175 : decode cX7_read 175 = .ok (.bipush 44, 2) := by decide +kernel
theorem dX7_read_177 : decode cX7_read 177 = .ok (.if_icmp .eq 22, 3) := by decide +kernel
theorem dX7_read_180 : decode cX7_read 180 = .ok (.aload_n 0, 1) := by decide +kernel
theorem dX7_read_181 : decode cX7_read 181 = .ok (.iload_n 1, 1) := by decide +kernel
theorem dX7_read_182 : decode cX7_read 182 = .ok (.aload_n 0, 1) := by decide +kernel
theorem dX7_read_183 : decode cX7_read 183 = .ok (.getfield 93, 3) := by decide +kernel
theorem dX7_read_186 : decode cX7_read 186 = .ok (.if_icmp .ne 7, 3) := by decide +kernel
theorem dX7_read_189 : decode cX7_read 189 = .ok (.iconst 1, 1) := by decide +kernel
theorem dX7_read_190 : decode cX7_read 190 = .ok (.goto 4, 3) := by decide +kernel
theorem dX7_read_193 : decode cX7_read 193 = .ok (.iconst 0, 1) := by decide +kernel
theorem dX7_read_194 : decode cX7_read 194 = .ok (.putfield 97, 3) := by decide +kernel
theorem dX7_read_197 : decode cX7_read 197 = .ok (.iload_n 1, 1) := by decide +kernel
theorem dX7_read_198 : decode cX7_read 198 = .ok (.ireturn, 1) := by decide +kernel
theorem dX7_read_199 : decode cX7_read 199 = .ok (.iinc 1 1, 3) := by decide +kernel
theorem dX7_read_202 : decode cX7_read 202 = .ok (.goto (-185), 3) := by decide +kernel
theorem dX7_fault_0 : decode cX7_fault 0 = .ok (.aload_n 0, 1) := by decide +kernel
theorem dX7_fault_1 : decode cX7_fault 1 = .ok (.invokevirtual 117, 3) := by decide +kernel
theorem dX7_fault_4 : decode cX7_fault 4 = .ok (.ireturn, 1) := by decide +kernel
theorem dX7_graph_0 : decode cX7_graph 0 = .ok (.aload_n 0, 1) := by decide +kernel
theorem dX7_graph_1 : decode cX7_graph 1 = .ok (.invokevirtual 117, 3) := by decide +kernel
theorem dX7_graph_4 : decode cX7_graph 4 = .ok (.pop, 1) := by decide +kernel
theorem dX7_graph_5 : decode cX7_graph 5 = .ok (.aload_n 0, 1) := by decide +kernel
theorem dX7_graph_6 : decode cX7_graph 6 = .ok (.getfield 97, 3) := by decide +kernel
theorem dX7_graph_9 : decode cX7_graph 9 = .ok (.ifCond .eq 14, 3) := by decide +kernel
theorem dX7_graph_12 : decode cX7_graph 12 = .ok (.aload_n 0, 1) := by decide +kernel
theorem dX7_graph_13 : decode cX7_graph 13 = .ok (.getfield 104, 3) := by decide +kernel
theorem dX7_graph_16 : decode cX7_graph 16 = .ok (.aload_n 0, 1) := by decide +kernel
theorem dX7_graph_17 : decode cX7_graph 17 = .ok (.getfield 101, 3) := by decide +kernel
theorem dX7_graph_20 : decode cX7_graph 20 = .ok (.if_icmp .lt 6, 3) := by decide +kernel
theorem dX7_graph_23 : decode cX7_graph 23 = .ok (.bipush (-103), 2) := by decide +kernel
theorem dX7_graph_25 : decode cX7_graph 25 = .ok (.ireturn, 1) := by decide +kernel
theorem dX7_graph_26 : decode cX7_graph 26 = .ok (.aload_n 0, 1) := by decide +kernel
theorem dX7_graph_27 : decode cX7_graph 27 = .ok (.aload_n 0, 1) := by decide +kernel
theorem dX7_graph_28 : decode cX7_graph 28 = .ok (.getfield 101, 3) := by decide +kernel
theorem dX7_graph_31 : decode cX7_graph 31 = .ok (.putfield 121, 3) := by decide +kernel
theorem dX7_graph_34 : decode cX7_graph 34 = .ok (.iconst 0, 1) := by decide +kernel
theorem dX7_graph_35 : decode cX7_graph 35 = .ok (.istore_n 1, 1) := by decide +kernel
theorem dX7_graph_36 : decode cX7_graph 36 = .ok (.iload_n 1, 1) := by decide +kernel
theorem dX7_graph_37 : decode cX7_graph 37 = .ok (.aload_n 0, 1) := by decide +kernel
theorem dX7_graph_38 : decode cX7_graph 38 = .ok (.getfield 121, 3) := by decide +kernel
theorem dX7_graph_41 : decode cX7_graph 41 = .ok (.if_icmp .ge 57, 3) := by decide +kernel
theorem dX7_graph_44 : decode cX7_graph 44 = .ok (.aload_n 0, 1) := by decide +kernel
theorem dX7_graph_45 : decode cX7_graph 45 = .ok (.getfield 7, 3) := by decide +kernel
theorem dX7_graph_48 : decode cX7_graph 48 = .ok (.iload_n 1, 1) := by decide +kernel
theorem dX7_graph_49 : decode cX7_graph 49 = .ok (.aload_n 0, 1) := by decide +kernel
theorem dX7_graph_50 : decode cX7_graph 50 = .ok (.getfield 32, 3) := by decide +kernel
theorem dX7_graph_53 : decode cX7_graph 53 = .ok (.iload_n 1, 1) := by decide +kernel
theorem dX7_graph_54 : decode cX7_graph 54 = .ok (.iaload, 1) := by decide +kernel
theorem dX7_graph_55 : decode cX7_graph 55 = .ok (.iastore, 1) := by decide +kernel
theorem dX7_graph_56 : decode cX7_graph 56 = .ok (.aload_n 0, 1) := by decide +kernel
theorem dX7_graph_57 : decode cX7_graph 57 = .ok (.getfield 13, 3) := by decide +kernel
theorem dX7_graph_60 : decode cX7_graph 60 = .ok (.iconst 2, 1) := by decide +kernel
theorem dX7_graph_61 : decode cX7_graph 61 = .ok (.iload_n 1, 1) := by decide +kernel
theorem dX7_graph_62 : decode cX7_graph 62 = .ok (.imul, 1) := by decide +kernel
theorem dX7_graph_63 : decode cX7_graph 63 = .ok (.aload_n 0, 1) := by decide +kernel
theorem dX7_graph_64 : decode cX7_graph 64 = .ok (.getfield 35, 3) := by decide +kernel
theorem dX7_graph_67 : decode cX7_graph 67 = .ok (.iconst 2, 1) := by decide +kernel
theorem dX7_graph_68 : decode cX7_graph 68 = .ok (.iload_n 1, 1) := by decide +kernel
theorem dX7_graph_69 : decode cX7_graph 69 = .ok (.imul, 1) := by decide +kernel
theorem dX7_graph_70 : decode cX7_graph 70 = .ok (.iaload, 1) := by decide +kernel
theorem dX7_graph_71 : decode cX7_graph 71 = .ok (.iastore, 1) := by decide +kernel
theorem dX7_graph_72 : decode cX7_graph 72 = .ok (.aload_n 0, 1) := by decide +kernel
theorem dX7_graph_73 : decode cX7_graph 73 = .ok (.getfield 13, 3) := by decide +kernel
theorem dX7_graph_76 : decode cX7_graph 76 = .ok (.iconst 2, 1) := by decide +kernel
theorem dX7_graph_77 : decode cX7_graph 77 = .ok (.iload_n 1, 1) := by decide +kernel
theorem dX7_graph_78 : decode cX7_graph 78 = .ok (.imul, 1) := by decide +kernel
theorem dX7_graph_79 : decode cX7_graph 79 = .ok (.iconst 1, 1) := by decide +kernel
theorem dX7_graph_80 : decode cX7_graph 80 = .ok (.iadd, 1) := by decide +kernel
theorem dX7_graph_81 : decode cX7_graph 81 = .ok (.aload_n 0, 1) := by decide +kernel
theorem dX7_graph_82 : decode cX7_graph 82 = .ok (.getfield 35, 3) := by decide +kernel
theorem dX7_graph_85 : decode cX7_graph 85 = .ok (.iconst 2, 1) := by decide +kernel
theorem dX7_graph_86 : decode cX7_graph 86 = .ok (.iload_n 1, 1) := by decide +kernel
theorem dX7_graph_87 : decode cX7_graph 87 = .ok (.imul, 1) := by decide +kernel
theorem dX7_graph_88 : decode cX7_graph 88 = .ok (.iconst 1, 1) := by decide +kernel
theorem dX7_graph_89 : decode cX7_graph 89 = .ok (.iadd, 1) := by decide +kernel
theorem dX7_graph_90 : decode cX7_graph 90 = .ok (.iaload, 1) := by decide +kernel
theorem dX7_graph_91 : decode cX7_graph 91 = .ok (.iastore, 1) := by decide +kernel
theorem dX7_graph_92 : decode cX7_graph 92 = .ok (.iinc 1 1, 3) := by decide +kernel
theorem dX7_graph_95 : decode cX7_graph 95 = .ok (.goto (-59), 3) := by decide +kernel
theorem dX7_graph_98 : decode cX7_graph 98 = .ok (.aload_n 0, 1) := by decide +kernel
theorem dX7_graph_99 : decode cX7_graph 99 = .ok (.iconst 0, 1) := by decide +kernel
theorem dX7_graph_100 : decode cX7_graph 100 = .ok (.putfield 124, 3) := by decide +kernel
theorem dX7_graph_103 : decode cX7_graph 103 = .ok (.aload_n 0, 1) := by decide +kernel
theorem dX7_graph_104 : decode cX7_graph 104 = .ok (.dup, 1) := by decide +kernel
theorem dX7_graph_105 : decode cX7_graph 105 = .ok (.getfield 127, 3) := by decide +kernel
theorem dX7_graph_108 : decode cX7_graph 108 = .ok (.iconst 1, 1) := by decide +kernel
theorem dX7_graph_109 : decode cX7_graph 109 = .ok (.iadd, 1) := by decide +kernel
theorem dX7_graph_110 : decode cX7_graph 110 = .ok (.putfield 127, 3) := by decide +kernel
theorem dX7_graph_113 : decode cX7_graph 113 = .ok (.aload_n 0, 1) := by decide +kernel
theorem dX7_graph_114 : decode cX7_graph 114 = .ok (.iconst 0, 1) := by decide +kernel
theorem dX7_graph_115 : decode cX7_graph 115 = .ok (.putfield 130, 3) := by decide +kernel
theorem dX7_graph_118 : decode cX7_graph 118 = .ok (.aload_n 0, 1) := by decide +kernel
theorem dX7_graph_119 : decode cX7_graph 119 = .ok (.iconst 0, 1) := by decide +kernel
theorem dX7_graph_120 : decode cX7_graph 120 = .ok (.putfield 93, 3) := by decide +kernel
theorem dX7_graph_123 : decode cX7_graph 123 = .ok (.aload_n 0, 1) := by decide +kernel
theorem dX7_graph_124 : decode cX7_graph 124 = .ok (.getfield 121, 3) := by decide +kernel
theorem dX7_graph_127 : decode cX7_graph 127 = .ok (.ireturn, 1) := by decide +kernel
theorem dX7_isNode_0 : decode cX7_isNode 0 = .ok (.iload_n 1, 1) := by decide +kernel
theorem dX7_isNode_1 : decode cX7_isNode 1 = .ok (.iconst 0, 1) := by decide +kernel
theorem dX7_isNode_2 : decode cX7_isNode 2 = .ok (.aload_n 0, 1) := by decide +kernel
theorem dX7_isNode_3 : decode cX7_isNode 3 = .ok (.getfield 121, 3) := by decide +kernel
theorem dX7_isNode_6 : decode cX7_isNode 6 = .ok (.iconst 1, 1) := by decide +kernel
theorem dX7_isNode_7 : decode cX7_isNode 7 = .ok (.isub, 1) := by decide +kernel
theorem dX7_isNode_8 : decode cX7_isNode 8 = .ok (.invokestatic 89, 3) := by decide +kernel
theorem dX7_isNode_11 : decode cX7_isNode 11 = .ok (.ireturn, 1) := by decide +kernel
theorem dX7_layGraph_0 : decode cX7_layGraph 0 = .ok (.aload_n 0, 1) := by decide +kernel
theorem dX7_layGraph_1 : decode cX7_layGraph 1 = .ok (.aload_n 0, 1) := by decide +kernel
theorem dX7_layGraph_2 : decode cX7_layGraph 2 = .ok (.getfield 121, 3) := by decide +kernel
theorem dX7_layGraph_5 : decode cX7_layGraph 5 = .ok (.putfield 133, 3) := by decide +kernel
theorem dX7_layGraph_8 : decode cX7_layGraph 8 = .ok (.aload_n 0, 1) := by decide +kernel
theorem dX7_layGraph_9 : decode cX7_layGraph 9 = .ok (.iconst 0, 1) := by decide +kernel
theorem dX7_layGraph_10 : decode cX7_layGraph 10 = .ok (.putfield 136, 3) := by decide +kernel
theorem dX7_layGraph_13 : decode cX7_layGraph 13 = .ok (.iconst 0, 1) := by decide +kernel
theorem dX7_layGraph_14 : decode cX7_layGraph 14 = .ok (.istore_n 1, 1) := by decide +kernel
theorem dX7_layGraph_15 : decode cX7_layGraph 15 = .ok (.iload_n 1, 1) := by decide +kernel
theorem dX7_layGraph_16 : decode cX7_layGraph 16 = .ok (.aload_n 0, 1) := by decide +kernel
theorem dX7_layGraph_17 : decode cX7_layGraph 17 = .ok (.getfield 121, 3) := by decide +kernel
theorem dX7_layGraph_20 : decode cX7_layGraph 20 = .ok (.if_icmp .ge 57, 3) := by decide +kernel
theorem dX7_layGraph_23 : decode cX7_layGraph 23 = .ok (.aload_n 0, 1) := by decide +kernel
theorem dX7_layGraph_24 : decode cX7_layGraph 24 = .ok (.getfield 38, 3) := by decide +kernel
theorem dX7_layGraph_27 : decode cX7_layGraph 27 = .ok (.iload_n 1, 1) := by decide +kernel
theorem dX7_layGraph_28 : decode cX7_layGraph 28 = .ok (.aload_n 0, 1) := by decide +kernel
theorem dX7_layGraph_29 : decode cX7_layGraph 29 = .ok (.getfield 7, 3) := by decide +kernel
theorem dX7_layGraph_32 : decode cX7_layGraph 32 = .ok (.iload_n 1, 1) := by decide +kernel
theorem dX7_layGraph_33 : decode cX7_layGraph 33 = .ok (.iaload, 1) := by decide +kernel
theorem dX7_layGraph_34 : decode cX7_layGraph 34 = .ok (.iastore, 1) := by decide +kernel
theorem dX7_layGraph_35 : decode cX7_layGraph 35 = .ok (.aload_n 0, 1) := by decide +kernel
theorem dX7_layGraph_36 : decode cX7_layGraph 36 = .ok (.getfield 41, 3) := by decide +kernel
theorem dX7_layGraph_39 : decode cX7_layGraph 39 = .ok (.iconst 2, 1) := by decide +kernel
theorem dX7_layGraph_40 : decode cX7_layGraph 40 = .ok (.iload_n 1, 1) := by decide +kernel
theorem dX7_layGraph_41 : decode cX7_layGraph 41 = .ok (.imul, 1) := by decide +kernel
theorem dX7_layGraph_42 : decode cX7_layGraph 42 = .ok (.aload_n 0, 1) := by decide +kernel
theorem dX7_layGraph_43 : decode cX7_layGraph 43 = .ok (.getfield 13, 3) := by decide +kernel
theorem dX7_layGraph_46 : decode cX7_layGraph 46 = .ok (.iconst 2, 1) := by decide +kernel
theorem dX7_layGraph_47 : decode cX7_layGraph 47 = .ok (.iload_n 1, 1) := by decide +kernel
theorem dX7_layGraph_48 : decode cX7_layGraph 48 = .ok (.imul, 1) := by decide +kernel
theorem dX7_layGraph_49 : decode cX7_layGraph 49 = .ok (.iaload, 1) := by decide +kernel
theorem dX7_layGraph_50 : decode cX7_layGraph 50 = .ok (.iastore, 1) := by decide +kernel
theorem dX7_layGraph_51 : decode cX7_layGraph 51 = .ok (.aload_n 0, 1) := by decide +kernel
theorem dX7_layGraph_52 : decode cX7_layGraph 52 = .ok (.getfield 41, 3) := by decide +kernel
theorem dX7_layGraph_55 : decode cX7_layGraph 55 = .ok (.iconst 2, 1) := by decide +kernel
theorem dX7_layGraph_56 : decode cX7_layGraph 56 = .ok (.iload_n 1, 1) := by decide +kernel
theorem dX7_layGraph_57 : decode cX7_layGraph 57 = .ok (.imul, 1) := by decide +kernel
theorem dX7_layGraph_58 : decode cX7_layGraph 58 = .ok (.iconst 1, 1) := by decide +kernel
theorem dX7_layGraph_59 : decode cX7_layGraph 59 = .ok (.iadd, 1) := by decide +kernel
theorem dX7_layGraph_60 : decode cX7_layGraph 60 = .ok (.aload_n 0, 1) := by decide +kernel
theorem dX7_layGraph_61 : decode cX7_layGraph 61 = .ok (.getfield 13, 3) := by decide +kernel
theorem dX7_layGraph_64 : decode cX7_layGraph 64 = .ok (.iconst 2, 1) := by decide +kernel
theorem dX7_layGraph_65 : decode cX7_layGraph 65 = .ok (.iload_n 1, 1) := by decide +kernel
theorem dX7_layGraph_66 : decode cX7_layGraph 66 = .ok (.imul, 1) := by decide +kernel
theorem dX7_layGraph_67 : decode cX7_layGraph 67 = .ok (.iconst 1, 1) := by decide +kernel
theorem dX7_layGraph_68 : decode cX7_layGraph 68 = .ok (.iadd, 1) := by decide +kernel
theorem dX7_layGraph_69 : decode cX7_layGraph 69 = .ok (.iaload, 1) := by decide +kernel
theorem dX7_layGraph_70 : decode cX7_layGraph 70 = .ok (.iastore, 1) := by decide +kernel
theorem dX7_layGraph_71 : decode cX7_layGraph 71 = .ok (.iinc 1 1, 3) := by decide +kernel
theorem dX7_layGraph_74 : decode cX7_layGraph 74 = .ok (.goto (-59), 3) := by decide +kernel
theorem dX7_layGraph_77 : decode cX7_layGraph 77 = .ok (.return_, 1) := by decide +kernel
theorem dX7_isEdge_0 : decode cX7_isEdge 0 = .ok (.iload_n 1, 1) := by decide +kernel
theorem dX7_isEdge_1 : decode cX7_isEdge 1 = .ok (.iconst 2, 1) := by decide +kernel
theorem dX7_isEdge_2 : decode cX7_isEdge 2 = .ok (.irem, 1) := by decide +kernel
theorem dX7_isEdge_3 : decode cX7_isEdge 3 = .ok (.aload_n 0, 1) := by decide +kernel
theorem dX7_isEdge_4 : decode cX7_isEdge 4 = .ok (.getfield 38, 3) := by decide +kernel
theorem dX7_isEdge_7 : decode cX7_isEdge 7 = .ok (.iload_n 1, 1) := by decide +kernel
theorem dX7_isEdge_8 : decode cX7_isEdge 8 = .ok (.iconst 2, 1) := by decide +kernel
theorem dX7_isEdge_9 : decode cX7_isEdge 9 = .ok (.idiv, 1) := by decide +kernel
theorem dX7_isEdge_10 : decode cX7_isEdge 10 = .ok (.iaload, 1) := by decide +kernel
theorem dX7_isEdge_11 : decode cX7_isEdge 11 = .ok (.invokestatic 114, 3) := by decide +kernel
theorem dX7_isEdge_14 : decode cX7_isEdge 14 = .ok (.if_icmp .ge 18, 3) := by decide +kernel
theorem dX7_isEdge_17 : decode cX7_isEdge 17 = .ok (.aload_n 0, 1) := by decide +kernel
theorem dX7_isEdge_18 : decode cX7_isEdge 18 = .ok (.getfield 136, 3) := by decide +kernel
theorem dX7_isEdge_21 : decode cX7_isEdge 21 = .ok (.iload_n 1, 1) := by decide +kernel
theorem dX7_isEdge_22 : decode cX7_isEdge 22 = .ok (.invokestatic 139, 3) := by decide +kernel
theorem dX7_isEdge_25 : decode cX7_isEdge 25 = .ok (.ifCond .ne 7, 3) := by decide +kernel
theorem dX7_isEdge_28 : decode cX7_isEdge 28 = .ok (.iconst 1, 1) := by decide +kernel
theorem dX7_isEdge_29 : decode cX7_isEdge 29 = .ok (.goto 4, 3) := by decide +kernel
theorem dX7_isEdge_32 : decode cX7_isEdge 32 = .ok (.iconst 0, 1) := by decide +kernel
theorem dX7_isEdge_33 : decode cX7_isEdge 33 = .ok (.ireturn, 1) := by decide +kernel
theorem dX7_layOrder_0 : decode cX7_layOrder 0 = .ok (.iconst 1, 1) := by decide +kernel
theorem dX7_layOrder_1 : decode cX7_layOrder 1 = .ok (.istore_n 1, 1) := by decide +kernel
theorem dX7_layOrder_2 : decode cX7_layOrder 2 = .ok (.iconst 0, 1) := by decide +kernel
theorem dX7_layOrder_3 : decode cX7_layOrder 3 = .ok (.istore_n 2, 1) := by decide +kernel
theorem dX7_layOrder_4 : decode cX7_layOrder 4 = .ok (.aload_n 0, 1) := by decide +kernel
theorem dX7_layOrder_5 : decode cX7_layOrder 5 = .ok (.getfield 56, 3) := by decide +kernel
theorem dX7_layOrder_8 : decode cX7_layOrder 8 = .ok (.iconst 0, 1) := by decide +kernel
theorem dX7_layOrder_9 : decode cX7_layOrder 9 = .ok (.iconst 0, 1) := by decide +kernel
theorem dX7_layOrder_10 : decode cX7_layOrder 10 = .ok (.iastore, 1) := by decide +kernel
theorem dX7_layOrder_11 : decode cX7_layOrder 11 = .ok (.aload_n 0, 1) := by decide +kernel
theorem dX7_layOrder_12 : decode cX7_layOrder 12 = .ok (.getfield 59, 3) := by decide +kernel
theorem dX7_layOrder_15 : decode cX7_layOrder 15 = .ok (.iconst 0, 1) := by decide +kernel
theorem dX7_layOrder_16 : decode cX7_layOrder 16 = .ok (.iconst 0, 1) := by decide +kernel
theorem dX7_layOrder_17 : decode cX7_layOrder 17 = .ok (.iastore, 1) := by decide +kernel
theorem dX7_layOrder_18 : decode cX7_layOrder 18 = .ok (.aload_n 0, 1) := by decide +kernel
theorem dX7_layOrder_19 : decode cX7_layOrder 19 = .ok (.iconst 1, 1) := by decide +kernel
theorem dX7_layOrder_20 : decode cX7_layOrder 20 = .ok (.putfield 143, 3) := by decide +kernel
theorem dX7_layOrder_23 : decode cX7_layOrder 23 = .ok (.iload_n 1, 1) := by decide +kernel
theorem dX7_layOrder_24 : decode cX7_layOrder 24 = .ok (.ifCond .le 136, 3) := by decide +kernel
theorem dX7_layOrder_27 : decode cX7_layOrder 27 = .ok (.aload_n 0, 1) := by decide +kernel
theorem dX7_layOrder_28 : decode cX7_layOrder 28 = .ok (.getfield 56, 3) := by decide +kernel
theorem dX7_layOrder_31 : decode cX7_layOrder 31 = .ok (.iload_n 1, 1) := by decide +kernel
theorem dX7_layOrder_32 : decode cX7_layOrder 32 = .ok (.iconst 1, 1) := by decide +kernel
theorem dX7_layOrder_33 : decode cX7_layOrder 33 = .ok (.isub, 1) := by decide +kernel
theorem dX7_layOrder_34 : decode cX7_layOrder 34 = .ok (.iaload, 1) := by decide +kernel
theorem dX7_layOrder_35 : decode cX7_layOrder 35 = .ok (.istore_n 3, 1) := by decide +kernel
theorem dX7_layOrder_36 : decode cX7_layOrder 36 = .ok (.aload_n 0, 1) := by decide +kernel
theorem dX7_layOrder_37 : decode cX7_layOrder 37 = .ok (.getfield 59, 3) := by decide +kernel
theorem dX7_layOrder_40 : decode cX7_layOrder 40 = .ok (.iload_n 1, 1) := by decide +kernel
theorem dX7_layOrder_41 : decode cX7_layOrder 41 = .ok (.iconst 1, 1) := by decide +kernel
theorem dX7_layOrder_42 : decode cX7_layOrder 42 = .ok (.isub, 1) := by decide +kernel
theorem dX7_layOrder_43 : decode cX7_layOrder 43 = .ok (.iaload, 1) := by decide +kernel
theorem dX7_layOrder_44 : decode cX7_layOrder 44 = .ok (.iconst 2, 1) := by decide +kernel
theorem dX7_layOrder_45 : decode cX7_layOrder 45 = .ok (.if_icmp .ne 19, 3) := by decide +kernel
theorem dX7_layOrder_48 : decode cX7_layOrder 48 = .ok (.aload_n 0, 1) := by decide +kernel
theorem dX7_layOrder_49 : decode cX7_layOrder 49 = .ok (.getfield 44, 3) := by decide +kernel
theorem dX7_layOrder_52 : decode cX7_layOrder 52 = .ok (.iload_n 2, 1) := by decide +kernel
theorem dX7_layOrder_53 : decode cX7_layOrder 53 = .ok (.iload_n 3, 1) := by decide +kernel
theorem dX7_layOrder_54 : decode cX7_layOrder 54 = .ok (.iastore, 1) := by decide +kernel
theorem dX7_layOrder_55 : decode cX7_layOrder 55 = .ok (.iinc 2 1, 3) := by decide +kernel
theorem dX7_layOrder_58 : decode cX7_layOrder 58 = .ok (.iinc 1 (-1), 3) := by decide +kernel
theorem dX7_layOrder_61 : decode cX7_layOrder 61 = .ok (.goto 96, 3) := by decide +kernel
theorem dX7_layOrder_64 : decode cX7_layOrder 64 = .ok (.iconst 2, 1) := by decide +kernel
theorem dX7_layOrder_65 : decode cX7_layOrder 65 = .ok (.iload_n 3, 1) := by decide +kernel
theorem dX7_layOrder_66 : decode cX7_layOrder 66 = .ok (.imul, 1) := by decide +kernel
theorem dX7_layOrder_67 : decode cX7_layOrder 67 = .ok (.aload_n 0, 1) := by decide +kernel
theorem dX7_layOrder_68 : decode cX7_layOrder 68 = .ok (.getfield 59, 3) := by decide +kernel
theorem dX7_layOrder_71 : decode cX7_layOrder 71 = .ok (.iload_n 1, 1) := by decide +kernel
theorem dX7_layOrder_72 : decode cX7_layOrder 72 = .ok (.iconst 1, 1) := by decide +kernel
theorem dX7_layOrder_73 : decode cX7_layOrder 73 = .ok (.isub, 1) := by decide +kernel
theorem dX7_layOrder_74 : decode cX7_layOrder 74 = .ok (.iaload, 1) := by decide +kernel
theorem dX7_layOrder_75 : decode cX7_layOrder 75 = .ok (.iadd, 1) := by decide +kernel
theorem dX7_layOrder_76 : decode cX7_layOrder 76 = .ok (.istore 4, 2) := by decide +kernel
theorem dX7_layOrder_78 : decode cX7_layOrder 78 = .ok (.aload_n 0, 1) := by decide +kernel
theorem dX7_layOrder_79 : decode cX7_layOrder 79 = .ok (.getfield 59, 3) := by decide +kernel
theorem dX7_layOrder_82 : decode cX7_layOrder 82 = .ok (.iload_n 1, 1) := by decide +kernel
theorem dX7_layOrder_83 : decode cX7_layOrder 83 = .ok (.iconst 1, 1) := by decide +kernel
theorem dX7_layOrder_84 : decode cX7_layOrder 84 = .ok (.isub, 1) := by decide +kernel
theorem dX7_layOrder_85 : decode cX7_layOrder 85 = .ok (.dup2, 1) := by decide +kernel
theorem dX7_layOrder_86 : decode cX7_layOrder 86 = .ok (.iaload, 1) := by decide +kernel
theorem dX7_layOrder_87 : decode cX7_layOrder 87 = .ok (.iconst 1, 1) := by decide +kernel
theorem dX7_layOrder_88 : decode cX7_layOrder 88 = .ok (.iadd, 1) := by decide +kernel
theorem dX7_layOrder_89 : decode cX7_layOrder 89 = .ok (.iastore, 1) := by decide +kernel
theorem dX7_layOrder_90 : decode cX7_layOrder 90 = .ok (.aload_n 0, 1) := by decide +kernel
theorem dX7_layOrder_91 : decode cX7_layOrder 91 = .ok (.iload 4, 2) := by decide +kernel
theorem dX7_layOrder_93 : decode cX7_layOrder 93 = .ok (.invokevirtual 146, 3) := by decide +kernel
theorem dX7_layOrder_96 : decode cX7_layOrder 96 = .ok (.ifCond .eq 61, 3) := by decide +kernel
theorem dX7_layOrder_99 : decode cX7_layOrder 99 = .ok (.aload_n 0, 1) := by decide +kernel
theorem dX7_layOrder_100 : decode cX7_layOrder 100 = .ok (.getfield 143, 3) := by decide +kernel
theorem dX7_layOrder_103 : decode cX7_layOrder 103 = .ok (.aload_n 0, 1) := by decide +kernel
theorem dX7_layOrder_104 : decode cX7_layOrder 104 = .ok (.getfield 41, 3) := by decide +kernel
theorem dX7_layOrder_107 : decode cX7_layOrder 107 = .ok (.iload 4, 2) := by decide +kernel
theorem dX7_layOrder_109 : decode cX7_layOrder 109 = .ok (.iaload, 1) := by decide +kernel
theorem dX7_layOrder_110 : decode cX7_layOrder 110 = .ok (.invokestatic 139, 3) := by decide +kernel
theorem dX7_layOrder_113 : decode cX7_layOrder 113 = .ok (.ifCond .ne 44, 3) := by decide +kernel
theorem dX7_layOrder_116 : decode cX7_layOrder 116 = .ok (.aload_n 0, 1) := by decide +kernel
theorem dX7_layOrder_117 : decode cX7_layOrder 117 = .ok (.dup, 1) := by decide +kernel
theorem dX7_layOrder_118 : decode cX7_layOrder 118 = .ok (.getfield 143, 3) := by decide +kernel
theorem dX7_layOrder_121 : decode cX7_layOrder 121 = .ok (.iconst 1, 1) := by decide +kernel
theorem dX7_layOrder_122 : decode cX7_layOrder 122 = .ok (.aload_n 0, 1) := by decide +kernel
theorem dX7_layOrder_123 : decode cX7_layOrder 123 = .ok (.getfield 41, 3) := by decide +kernel
theorem dX7_layOrder_126 : decode cX7_layOrder 126 = .ok (.iload 4, 2) := by decide +kernel
theorem dX7_layOrder_128 : decode cX7_layOrder 128 = .ok (.iaload, 1) := by decide +kernel
theorem dX7_layOrder_129 : decode cX7_layOrder 129 = .ok (.ishl, 1) := by decide +kernel
theorem dX7_layOrder_130 : decode cX7_layOrder 130 = .ok (.ior, 1) := by decide +kernel
theorem dX7_layOrder_131 : decode cX7_layOrder 131 = .ok (.putfield 143, 3) := by decide +kernel
theorem dX7_layOrder_134 : decode cX7_layOrder 134 = .ok (.aload_n 0, 1) := by decide +kernel
theorem dX7_layOrder_135 : decode cX7_layOrder 135 = .ok (.getfield 56, 3) := by decide +kernel
theorem dX7_layOrder_138 : decode cX7_layOrder 138 = .ok (.iload_n 1, 1) := by decide +kernel
theorem dX7_layOrder_139 : decode cX7_layOrder 139 = .ok (.aload_n 0, 1) := by decide +kernel
theorem dX7_layOrder_140 : decode cX7_layOrder 140 = .ok (.getfield 41, 3) := by decide +kernel
theorem dX7_layOrder_143 : decode cX7_layOrder 143 = .ok (.iload 4, 2) := by decide +kernel
theorem dX7_layOrder_145 : decode cX7_layOrder 145 = .ok (.iaload, 1) := by decide +kernel
theorem dX7_layOrder_146 : decode cX7_layOrder 146 = .ok (.iastore, 1) := by decide +kernel
theorem dX7_layOrder_147 : decode cX7_layOrder 147 = .ok (.aload_n 0, 1) := by decide +kernel
theorem dX7_layOrder_148 : decode cX7_layOrder 148 = .ok (.getfield 59, 3) := by decide +kernel
theorem dX7_layOrder_151 : decode cX7_layOrder 151 = .ok (.iload_n 1, 1) := by decide +kernel
theorem dX7_layOrder_152 : decode cX7_layOrder 152 = .ok (.iconst 0, 1) := by decide +kernel
theorem dX7_layOrder_153 : decode cX7_layOrder 153 = .ok (.iastore, 1) := by decide +kernel
theorem dX7_layOrder_154 : decode cX7_layOrder 154 = .ok (.iinc 1 1, 3) := by decide +kernel
theorem dX7_layOrder_157 : decode cX7_layOrder 157 = .ok (.goto (-134), 3) := by decide +kernel
theorem dX7_layOrder_160 : decode cX7_layOrder 160 = .ok (.aload_n 0, 1) := by decide +kernel
theorem dX7_layOrder_161 : decode cX7_layOrder 161 = .ok (.iload_n 2, 1) := by decide +kernel
theorem dX7_layOrder_162 : decode cX7_layOrder 162 = .ok (.putfield 150, 3) := by decide +kernel
theorem dX7_layOrder_165 : decode cX7_layOrder 165 = .ok (.iconst 0, 1) := by decide +kernel
theorem dX7_layOrder_166 : decode cX7_layOrder 166 = .ok (.istore_n 3, 1) := by decide +kernel
theorem dX7_layOrder_167 : decode cX7_layOrder 167 = .ok (.iload_n 3, 1) := by decide +kernel
theorem dX7_layOrder_168 : decode cX7_layOrder 168 = .ok (.iload_n 2, 1) := by decide +kernel
theorem dX7_layOrder_169 : decode cX7_layOrder 169 = .ok (.iconst 2, 1) := by decide +kernel
theorem dX7_layOrder_170 : decode cX7_layOrder 170 = .ok (.idiv, 1) := by decide +kernel
theorem dX7_layOrder_171 : decode cX7_layOrder 171 = .ok (.if_icmp .ge 45, 3) := by decide +kernel
theorem dX7_layOrder_174 : decode cX7_layOrder 174 = .ok (.aload_n 0, 1) := by decide +kernel
theorem dX7_layOrder_175 : decode cX7_layOrder 175 = .ok (.getfield 44, 3) := by decide +kernel
theorem dX7_layOrder_178 : decode cX7_layOrder 178 = .ok (.iload_n 3, 1) := by decide +kernel
theorem dX7_layOrder_179 : decode cX7_layOrder 179 = .ok (.iaload, 1) := by decide +kernel
theorem dX7_layOrder_180 : decode cX7_layOrder 180 = .ok (.istore 4, 2) := by decide +kernel
theorem dX7_layOrder_182 : decode cX7_layOrder 182 = .ok (.aload_n 0, 1) := by decide +kernel
theorem dX7_layOrder_183 : decode cX7_layOrder 183 = .ok (.getfield 44, 3) := by decide +kernel
theorem dX7_layOrder_186 : decode cX7_layOrder 186 = .ok (.iload_n 3, 1) := by decide +kernel
theorem dX7_layOrder_187 : decode cX7_layOrder 187 = .ok (.aload_n 0, 1) := by decide +kernel
theorem dX7_layOrder_188 : decode cX7_layOrder 188 = .ok (.getfield 44, 3) := by decide +kernel
theorem dX7_layOrder_191 : decode cX7_layOrder 191 = .ok (.iload_n 2, 1) := by decide +kernel
theorem dX7_layOrder_192 : decode cX7_layOrder 192 = .ok (.iconst 1, 1) := by decide +kernel
theorem dX7_layOrder_193 : decode cX7_layOrder 193 = .ok (.isub, 1) := by decide +kernel
theorem dX7_layOrder_194 : decode cX7_layOrder 194 = .ok (.iload_n 3, 1) := by decide +kernel
theorem dX7_layOrder_195 : decode cX7_layOrder 195 = .ok (.isub, 1) := by decide +kernel
theorem dX7_layOrder_196 : decode cX7_layOrder 196 = .ok (.iaload, 1) := by decide +kernel
theorem dX7_layOrder_197 : decode cX7_layOrder 197 = .ok (.iastore, 1) := by decide +kernel
theorem dX7_layOrder_198 : decode cX7_layOrder 198 = .ok (.aload_n 0, 1) := by decide +kernel
theorem dX7_layOrder_199 : decode cX7_layOrder 199 = .ok (.getfield 44, 3) := by decide +kernel
theorem dX7_layOrder_202 : decode cX7_layOrder 202 = .ok (.iload_n 2, 1) := by decide +kernel
theorem dX7_layOrder_203 : decode cX7_layOrder 203 = .ok (.iconst 1, 1) := by decide +kernel
theorem dX7_layOrder_204 : decode cX7_layOrder 204 = .ok (.isub, 1) := by decide +kernel
theorem dX7_layOrder_205 : decode cX7_layOrder 205 = .ok (.iload_n 3, 1) := by decide +kernel
theorem dX7_layOrder_206 : decode cX7_layOrder 206 = .ok (.isub, 1) := by decide +kernel
theorem dX7_layOrder_207 : decode cX7_layOrder 207 = .ok (.iload 4, 2) := by decide +kernel
theorem dX7_layOrder_209 : decode cX7_layOrder 209 = .ok (.iastore, 1) := by decide +kernel
theorem dX7_layOrder_210 : decode cX7_layOrder 210 = .ok (.iinc 3 1, 3) := by decide +kernel
theorem dX7_layOrder_213 : decode cX7_layOrder 213 = .ok (.goto (-46), 3) := by decide +kernel
theorem dX7_layOrder_216 : decode cX7_layOrder 216 = .ok (.iconst 0, 1) := by decide +kernel
theorem dX7_layOrder_217 : decode cX7_layOrder 217 = .ok (.istore_n 3, 1) := by decide +kernel
theorem dX7_layOrder_218 : decode cX7_layOrder 218 = .ok (.iload_n 3, 1) := by decide +kernel
theorem dX7_layOrder_219 : decode cX7_layOrder 219 = .ok (.iload_n 2, 1) := by decide +kernel
theorem dX7_layOrder_220 : decode cX7_layOrder 220 = .ok (.if_icmp .ge 21, 3) := by decide +kernel
theorem dX7_layOrder_223 : decode cX7_layOrder 223 = .ok (.aload_n 0, 1) := by decide +kernel
theorem dX7_layOrder_224 : decode cX7_layOrder 224 = .ok (.getfield 47, 3) := by decide +kernel
theorem dX7_layOrder_227 : decode cX7_layOrder 227 = .ok (.aload_n 0, 1) := by decide +kernel
theorem dX7_layOrder_228 : decode cX7_layOrder 228 = .ok (.getfield 44, 3) := by decide +kernel
theorem dX7_layOrder_231 : decode cX7_layOrder 231 = .ok (.iload_n 3, 1) := by decide +kernel
theorem dX7_layOrder_232 : decode cX7_layOrder 232 = .ok (.iaload, 1) := by decide +kernel
theorem dX7_layOrder_233 : decode cX7_layOrder 233 = .ok (.iload_n 3, 1) := by decide +kernel
theorem dX7_layOrder_234 : decode cX7_layOrder 234 = .ok (.iastore, 1) := by decide +kernel
theorem dX7_layOrder_235 : decode cX7_layOrder 235 = .ok (.iinc 3 1, 3) := by decide +kernel
theorem dX7_layOrder_238 : decode cX7_layOrder 238 = .ok (.goto (-20), 3) := by decide +kernel
theorem dX7_layOrder_241 : decode cX7_layOrder 241 = .ok (.return_, 1) := by decide +kernel
theorem dX7_without_0 : decode cX7_without 0 = .ok (.iload_n 1, 1) := by decide +kernel
theorem dX7_without_1 : decode cX7_without 1 = .ok (.ifCond .ne 7, 3) := by decide +kernel
theorem dX7_without_4 : decode cX7_without 4 = .ok (.iconst 0, 1) := by decide +kernel
theorem dX7_without_5 : decode cX7_without 5 = .ok (.goto 4, 3) := by decide +kernel
theorem dX7_without_8 : decode cX7_without 8 = .ok (.iconst 1, 1) := by decide +kernel
theorem dX7_without_9 : decode cX7_without 9 = .ok (.istore_n 2, 1) := by decide +kernel
theorem dX7_without_10 : decode cX7_without 10 = .ok (.iconst 0, 1) := by decide +kernel
theorem dX7_without_11 : decode cX7_without 11 = .ok (.istore_n 3, 1) := by decide +kernel
theorem dX7_without_12 : decode cX7_without 12 = .ok (.iload_n 3, 1) := by decide +kernel
theorem dX7_without_13 : decode cX7_without 13 = .ok (.bipush 8, 2) := by decide +kernel
theorem dX7_without_15 : decode cX7_without 15 = .ok (.if_icmp .ge 88, 3) := by decide +kernel
theorem dX7_without_18 : decode cX7_without 18 = .ok (.iconst 0, 1) := by decide +kernel
theorem dX7_without_19 : decode cX7_without 19 = .ok (.istore 4, 2) := by decide +kernel
theorem dX7_without_21 : decode cX7_without 21 = .ok (.iload 4, 2) := by decide +kernel
theorem dX7_without_23 : decode cX7_without 23 = .ok (.iconst 2, 1) := by decide +kernel
theorem dX7_without_24 : decode cX7_without 24 = .ok (.aload_n 0, 1) := by decide +kernel
theorem dX7_without_25 : decode cX7_without 25 = .ok (.getfield 133, 3) := by decide +kernel
theorem dX7_without_28 : decode cX7_without 28 = .ok (.imul, 1) := by decide +kernel
theorem dX7_without_29 : decode cX7_without 29 = .ok (.if_icmp .ge 68, 3) := by decide +kernel
theorem dX7_without_32 : decode cX7_without 32 = .ok (.iload_n 2, 1) := by decide +kernel
theorem dX7_without_33 : decode cX7_without 33 = .ok (.iload 4, 2) := by decide +kernel
theorem dX7_without_35 : decode cX7_without 35 = .ok (.iconst 2, 1) := by decide +kernel
theorem dX7_without_36 : decode cX7_without 36 = .ok (.idiv, 1) := by decide +kernel
theorem dX7_without_37 : decode cX7_without 37 = .ok (.invokestatic 139, 3) := by decide +kernel
theorem dX7_without_40 : decode cX7_without 40 = .ok (.ifCond .eq 27, 3) := by decide +kernel
theorem dX7_without_43 : decode cX7_without 43 = .ok (.aload_n 0, 1) := by decide +kernel
theorem dX7_without_44 : decode cX7_without 44 = .ok (.iload 4, 2) := by decide +kernel
theorem dX7_without_46 : decode cX7_without 46 = .ok (.invokevirtual 146, 3) := by decide +kernel
theorem dX7_without_49 : decode cX7_without 49 = .ok (.ifCond .eq 18, 3) := by decide +kernel
theorem dX7_without_52 : decode cX7_without 52 = .ok (.aload_n 0, 1) := by decide +kernel
theorem dX7_without_53 : decode cX7_without 53 = .ok (.getfield 41, 3) := by decide +kernel
theorem dX7_without_56 : decode cX7_without 56 = .ok (.iload 4, 2) := by decide +kernel
theorem dX7_without_58 : decode cX7_without 58 = .ok (.iaload, 1) := by decide +kernel
theorem dX7_without_59 : decode cX7_without 59 = .ok (.iload_n 1, 1) := by decide +kernel
theorem dX7_without_60 : decode cX7_without 60 = .ok (.if_icmp .eq 7, 3) := by decide +kernel
theorem dX7_without_63 : decode cX7_without 63 = .ok (.iconst 1, 1) := by decide +kernel
theorem dX7_without_64 : decode cX7_without 64 = .ok (.goto 4, 3) := by decide +kernel
theorem dX7_without_67 : decode cX7_without 67 = .ok (.iconst 0, 1) := by decide +kernel
theorem dX7_without_68 : decode cX7_without 68 = .ok (.istore 5, 2) := by decide +kernel
theorem dX7_without_70 : decode cX7_without 70 = .ok (.iload_n 2, 1) := by decide +kernel
theorem dX7_without_71 : decode cX7_without 71 = .ok (.iload 5, 2) := by decide +kernel
theorem dX7_without_73 : decode cX7_without 73 = .ok (.ifCond .eq 15, 3) := by decide +kernel
theorem dX7_without_76 : decode cX7_without 76 = .ok (.iconst 1, 1) := by decide +kernel
theorem dX7_without_77 : decode cX7_without 77 = .ok (.aload_n 0, 1) := by decide +kernel
theorem dX7_without_78 : decode cX7_without 78 = .ok (.getfield 41, 3) := by decide +kernel
theorem dX7_without_81 : decode cX7_without 81 = .ok (.iload 4, 2) := by decide +kernel
theorem dX7_without_83 : decode cX7_without 83 = .ok (.iaload, 1) := by decide +kernel
theorem dX7_without_84 : decode cX7_without 84 = .ok (.ishl, 1) := by decide +kernel
theorem dX7_without_85 : decode cX7_without 85 = .ok (.goto 4, 3) := by decide +kernel
theorem dX7_without_88 : decode cX7_without 88 = .ok (.iconst 0, 1) := by decide +kernel
theorem dX7_without_89 : decode cX7_without 89 = .ok (.ior, 1) := by decide +kernel
theorem dX7_without_90 : decode cX7_without 90 = .ok (.istore_n 2, 1) := by decide +kernel
theorem dX7_without_91 : decode cX7_without 91 = .ok (.iinc 4 1, 3) := by decide +kernel
theorem dX7_without_94 : decode cX7_without 94 = .ok (.goto (-73), 3) := by decide +kernel
theorem dX7_without_97 : decode cX7_without 97 = .ok (.iinc 3 1, 3) := by decide +kernel
theorem dX7_without_100 : decode cX7_without 100 = .ok (.goto (-88), 3) := by decide +kernel
theorem dX7_without_103 : decode cX7_without 103 = .ok (.iload_n 2, 1) := by decide +kernel
theorem dX7_without_104 : decode cX7_without 104 = .ok (.ireturn, 1) := by decide +kernel
theorem dX7_layLords_0 : decode cX7_layLords 0 = .ok (.iconst 0, 1) := by decide +kernel
theorem dX7_layLords_1 : decode cX7_layLords 1 = .ok (.istore_n 1, 1) := by decide +kernel
theorem dX7_layLords_2 : decode cX7_layLords 2 = .ok (.iload_n 1, 1) := by decide +kernel
theorem dX7_layLords_3 : decode cX7_layLords 3 = .ok (.aload_n 0, 1) := by decide +kernel
theorem dX7_layLords_4 : decode cX7_layLords 4 = .ok (.getfield 133, 3) := by decide +kernel
theorem dX7_layLords_7 : decode cX7_layLords 7 = .ok (.if_icmp .ge 23, 3) := by decide +kernel
theorem dX7_layLords_10 : decode cX7_layLords 10 = .ok (.aload_n 0, 1) := by decide +kernel
theorem dX7_layLords_11 : decode cX7_layLords 11 = .ok (.getfield 50, 3) := by decide +kernel
theorem dX7_layLords_14 : decode cX7_layLords 14 = .ok (.iload_n 1, 1) := by decide +kernel
theorem dX7_layLords_15 : decode cX7_layLords 15 = .ok (.iconst 0, 1) := by decide +kernel
theorem dX7_layLords_16 : decode cX7_layLords 16 = .ok (.iastore, 1) := by decide +kernel
theorem dX7_layLords_17 : decode cX7_layLords 17 = .ok (.aload_n 0, 1) := by decide +kernel
theorem dX7_layLords_18 : decode cX7_layLords 18 = .ok (.getfield 53, 3) := by decide +kernel
theorem dX7_layLords_21 : decode cX7_layLords 21 = .ok (.iload_n 1, 1) := by decide +kernel
theorem dX7_layLords_22 : decode cX7_layLords 22 = .ok (.iconst (-1), 1) := by decide +kernel
theorem dX7_layLords_23 : decode cX7_layLords 23 = .ok (.iastore, 1) := by decide +kernel
theorem dX7_layLords_24 : decode cX7_layLords 24 = .ok (.iinc 1 1, 3) := by decide +kernel
theorem dX7_layLords_27 : decode cX7_layLords 27 = .ok (.goto (-25), 3) := by decide +kernel
theorem dX7_layLords_30 : decode cX7_layLords 30 = .ok (.iconst 0, 1) := by decide +kernel
theorem dX7_layLords_31 : decode cX7_layLords 31 = .ok (.istore_n 1, 1) := by decide +kernel
theorem dX7_layLords_32 : decode cX7_layLords 32 = .ok (.iload_n 1, 1) := by decide +kernel
theorem dX7_layLords_33 : decode cX7_layLords 33 = .ok (.aload_n 0, 1) := by decide +kernel
theorem dX7_layLords_34 : decode cX7_layLords 34 = .ok (.getfield 133, 3) := by decide +kernel
theorem dX7_layLords_37 : decode cX7_layLords 37 = .ok (.if_icmp .ge 77, 3) := by decide +kernel
theorem dX7_layLords_40 : decode cX7_layLords 40 = .ok (.aload_n 0, 1) := by decide +kernel
theorem dX7_layLords_41 : decode cX7_layLords 41 = .ok (.getfield 143, 3) := by decide +kernel
theorem dX7_layLords_44 : decode cX7_layLords 44 = .ok (.iload_n 1, 1) := by decide +kernel
theorem dX7_layLords_45 : decode cX7_layLords 45 = .ok (.invokestatic 139, 3) := by decide +kernel
theorem dX7_layLords_48 : decode cX7_layLords 48 = .ok (.ifCond .eq 18, 3) := by decide +kernel
theorem dX7_layLords_51 : decode cX7_layLords 51 = .ok (.aload_n 0, 1) := by decide +kernel
theorem dX7_layLords_52 : decode cX7_layLords 52 = .ok (.getfield 143, 3) := by decide +kernel
theorem dX7_layLords_55 : decode cX7_layLords 55 = .ok (.aload_n 0, 1) := by decide +kernel
theorem dX7_layLords_56 : decode cX7_layLords 56 = .ok (.iload_n 1, 1) := by decide +kernel
theorem dX7_layLords_57 : decode cX7_layLords 57 = .ok (.invokevirtual 153, 3) := by decide +kernel
theorem dX7_layLords_60 : decode cX7_layLords 60 = .ok (.iconst (-1), 1) := by decide +kernel
theorem dX7_layLords_61 : decode cX7_layLords 61 = .ok (.ixor, 1) := by decide +kernel
theorem dX7_layLords_62 : decode cX7_layLords 62 = .ok (.iand, 1) := by decide +kernel
theorem dX7_layLords_63 : decode cX7_layLords 63 = .ok (.goto 4, 3) := by decide +kernel
theorem dX7_layLords_66 : decode cX7_layLords 66 = .ok (.iconst 0, 1) := by decide +kernel
theorem dX7_layLords_67 : decode cX7_layLords 67 = .ok (.istore_n 2, 1) := by decide +kernel
theorem dX7_layLords_68 : decode cX7_layLords 68 = .ok (.iconst 0, 1) := by decide +kernel
theorem dX7_layLords_69 : decode cX7_layLords 69 = .ok (.istore_n 3, 1) := by decide +kernel
theorem dX7_layLords_70 : decode cX7_layLords 70 = .ok (.iload_n 3, 1) := by decide +kernel
theorem dX7_layLords_71 : decode cX7_layLords 71 = .ok (.aload_n 0, 1) := by decide +kernel
theorem dX7_layLords_72 : decode cX7_layLords 72 = .ok (.getfield 133, 3) := by decide +kernel
theorem dX7_layLords_75 : decode cX7_layLords 75 = .ok (.if_icmp .ge 33, 3) := by decide +kernel
theorem dX7_layLords_78 : decode cX7_layLords 78 = .ok (.aload_n 0, 1) := by decide +kernel
theorem dX7_layLords_79 : decode cX7_layLords 79 = .ok (.getfield 50, 3) := by decide +kernel
theorem dX7_layLords_82 : decode cX7_layLords 82 = .ok (.iload_n 3, 1) := by decide +kernel
theorem dX7_layLords_83 : decode cX7_layLords 83 = .ok (.dup2, 1) := by decide +kernel
theorem dX7_layLords_84 : decode cX7_layLords 84 = .ok (.iaload, 1) := by decide +kernel
theorem dX7_layLords_85 : decode cX7_layLords 85 = .ok (.iload_n 2, 1) := by decide +kernel
theorem dX7_layLords_86 : decode cX7_layLords 86 = .ok (.iload_n 3, 1) := by decide +kernel
theorem dX7_layLords_87 : decode cX7_layLords 87 = .ok (.invokestatic 139, 3) := by decide +kernel
theorem dX7_layLords_90 : decode cX7_layLords 90 = .ok (.ifCond .eq 9, 3) := by decide +kernel
theorem dX7_layLords_93 : decode cX7_layLords 93 = .ok (.iconst 1, 1) := by decide +kernel
theorem dX7_layLords_94 : decode cX7_layLords 94 = .ok (.iload_n 1, 1) := by decide +kernel
theorem dX7_layLords_95 : decode cX7_layLords 95 = .ok (.ishl, 1) := by decide +kernel
theorem dX7_layLords_96 : decode cX7_layLords 96 = .ok (.goto 4, 3) := by decide +kernel
theorem dX7_layLords_99 : decode cX7_layLords 99 = .ok (.iconst 0, 1) := by decide +kernel
theorem dX7_layLords_100 : decode cX7_layLords 100 = .ok (.ior, 1) := by decide +kernel
theorem dX7_layLords_101 : decode cX7_layLords 101 = .ok (.iastore, 1) := by decide +kernel
theorem dX7_layLords_102 : decode cX7_layLords 102 = .ok (.iinc 3 1, 3) := by decide +kernel
theorem dX7_layLords_105 : decode cX7_layLords 105 = .ok (.goto (-35), 3) := by decide +kernel
theorem dX7_layLords_108 : decode cX7_layLords 108 = .ok (.iinc 1 1, 3) := by decide +kernel
theorem dX7_layLords_111 : decode cX7_layLords 111 = .ok (.goto (-79), 3) := by decide +kernel
theorem dX7_layLords_114 : decode cX7_layLords 114 = .ok (.iconst 0, 1) := by decide +kernel
theorem dX7_layLords_115 : decode cX7_layLords 115 = .ok (.istore_n 1, 1) := by decide +kernel
theorem dX7_layLords_116 : decode cX7_layLords 116 = .ok (.iload_n 1, 1) := by decide +kernel
theorem dX7_layLords_117 : decode cX7_layLords 117 = .ok (.aload_n 0, 1) := by decide +kernel
theorem dX7_layLords_118 : decode cX7_layLords 118 = .ok (.getfield 133, 3) := by decide +kernel
theorem dX7_layLords_121 : decode cX7_layLords 121 = .ok (.if_icmp .ge 92, 3) := by decide +kernel
theorem dX7_layLords_124 : decode cX7_layLords 124 = .ok (.iconst 0, 1) := by decide +kernel
theorem dX7_layLords_125 : decode cX7_layLords 125 = .ok (.istore_n 2, 1) := by decide +kernel
theorem dX7_layLords_126 : decode cX7_layLords 126 = .ok (.iload_n 2, 1) := by decide +kernel
theorem dX7_layLords_127 : decode cX7_layLords 127 = .ok (.aload_n 0, 1) := by decide +kernel
theorem dX7_layLords_128 : decode cX7_layLords 128 = .ok (.getfield 133, 3) := by decide +kernel
theorem dX7_layLords_131 : decode cX7_layLords 131 = .ok (.if_icmp .ge 76, 3) := by decide +kernel
theorem dX7_layLords_134 : decode cX7_layLords 134 = .ok (.iload_n 2, 1) := by decide +kernel
theorem dX7_layLords_135 : decode cX7_layLords 135 = .ok (.iload_n 1, 1) := by decide +kernel
theorem dX7_layLords_136 : decode cX7_layLords 136 = .ok (.if_icmp .eq 43, 3) := by decide +kernel
theorem dX7_layLords_139 : decode cX7_layLords 139 = .ok (.aload_n 0, 1) := by decide +kernel
theorem dX7_layLords_140 : decode cX7_layLords 140 = .ok (.getfield 50, 3) := by decide +kernel
theorem dX7_layLords_143 : decode cX7_layLords 143 = .ok (.iload_n 1, 1) := by decide +kernel
theorem dX7_layLords_144 : decode cX7_layLords 144 = .ok (.iaload, 1) := by decide +kernel
theorem dX7_layLords_145 : decode cX7_layLords 145 = .ok (.iload_n 2, 1) := by decide +kernel
theorem dX7_layLords_146 : decode cX7_layLords 146 = .ok (.invokestatic 139, 3) := by decide +kernel
theorem dX7_layLords_149 : decode cX7_layLords 149 = .ok (.ifCond .eq 30, 3) := by decide +kernel
theorem dX7_layLords_152 : decode cX7_layLords 152 = .ok (.aload_n 0, 1) := by decide +kernel
theorem dX7_layLords_153 : decode cX7_layLords 153 = .ok (.getfield 50, 3) := by decide +kernel
theorem dX7_layLords_156 : decode cX7_layLords 156 = .ok (.iload_n 2, 1) := by decide +kernel
theorem dX7_layLords_157 : decode cX7_layLords 157 = .ok (.iaload, 1) := by decide +kernel
theorem dX7_layLords_158 : decode cX7_layLords 158 = .ok (.invokestatic 156, 3) := by decide +kernel
theorem dX7_layLords_161 : decode cX7_layLords 161 = .ok (.aload_n 0, 1) := by decide +kernel
theorem dX7_layLords_162 : decode cX7_layLords 162 = .ok (.getfield 50, 3) := by decide +kernel
theorem dX7_layLords_165 : decode cX7_layLords 165 = .ok (.iload_n 1, 1) := by decide +kernel
theorem dX7_layLords_166 : decode cX7_layLords 166 = .ok (.iaload, 1) := by decide +kernel
theorem dX7_layLords_167 : decode cX7_layLords 167 = .ok (.invokestatic 156, 3) := by decide +kernel
theorem dX7_layLords_170 : decode cX7_layLords 170 = .ok (.iconst 1, 1) := by decide +kernel
theorem dX7_layLords_171 : decode cX7_layLords 171 = .ok (.isub, 1) := by decide +kernel
theorem dX7_layLords_172 : decode cX7_layLords 172 = .ok (.if_icmp .ne 7, 3) := by decide +kernel
theorem dX7_layLords_175 : decode cX7_layLords 175 = .ok (.iconst 1, 1) := by decide +kernel
theorem dX7_layLords_176 : decode cX7_layLords 176 = .ok (.goto 4, 3) := by decide +kernel
theorem dX7_layLords_179 : decode cX7_layLords 179 = .ok (.iconst 0, 1) := by decide +kernel
theorem dX7_layLords_180 : decode cX7_layLords 180 = .ok (.istore_n 3, 1) := by decide +kernel
theorem dX7_layLords_181 : decode cX7_layLords 181 = .ok (.aload_n 0, 1) := by decide +kernel
theorem dX7_layLords_182 : decode cX7_layLords 182 = .ok (.getfield 53, 3) := by decide +kernel
theorem dX7_layLords_185 : decode cX7_layLords 185 = .ok (.iload_n 1, 1) := by decide +kernel
theorem dX7_layLords_186 : decode cX7_layLords 186 = .ok (.iload_n 3, 1) := by decide +kernel
theorem dX7_layLords_187 : decode cX7_layLords 187 = .ok (.ifCond .eq 7, 3) := by decide +kernel
theorem dX7_layLords_190 : decode cX7_layLords 190 = .ok (.iload_n 2, 1) := by decide +kernel
theorem dX7_layLords_191 : decode cX7_layLords 191 = .ok (.goto 9, 3) := by decide +kernel
theorem dX7_layLords_194 : decode cX7_layLords 194 = .ok (.aload_n 0, 1) := by decide +kernel
theorem dX7_layLords_195 : decode cX7_layLords 195 = .ok (.getfield 53, 3) := by decide +kernel
theorem dX7_layLords_198 : decode cX7_layLords 198 = .ok (.iload_n 1, 1) := by decide +kernel
theorem dX7_layLords_199 : decode cX7_layLords 199 = .ok (.iaload, 1) := by decide +kernel
theorem dX7_layLords_200 : decode cX7_layLords 200 = .ok (.iastore, 1) := by decide +kernel
theorem dX7_layLords_201 : decode cX7_layLords 201 = .ok (.iinc 2 1, 3) := by decide +kernel
theorem dX7_layLords_204 : decode cX7_layLords 204 = .ok (.goto (-78), 3) := by decide +kernel
theorem dX7_layLords_207 : decode cX7_layLords 207 = .ok (.iinc 1 1, 3) := by decide +kernel
theorem dX7_layLords_210 : decode cX7_layLords 210 = .ok (.goto (-94), 3) := by decide +kernel
theorem dX7_layLords_213 : decode cX7_layLords 213 = .ok (.return_, 1) := by decide +kernel
theorem dX7_isLive_0 : decode cX7_isLive 0 = .ok (.aload_n 0, 1) := by decide +kernel
theorem dX7_isLive_1 : decode cX7_isLive 1 = .ok (.getfield 143, 3) := by decide +kernel
theorem dX7_isLive_4 : decode cX7_isLive 4 = .ok (.iload_n 1, 1) := by decide +kernel
theorem dX7_isLive_5 : decode cX7_isLive 5 = .ok (.iconst 2, 1) := by decide +kernel
theorem dX7_isLive_6 : decode cX7_isLive 6 = .ok (.idiv, 1) := by decide +kernel
theorem dX7_isLive_7 : decode cX7_isLive 7 = .ok (.invokestatic 139, 3) := by decide +kernel
theorem dX7_isLive_10 : decode cX7_isLive 10 = .ok (.ifCond .eq 15, 3) := by decide +kernel
theorem dX7_isLive_13 : decode cX7_isLive 13 = .ok (.aload_n 0, 1) := by decide +kernel
theorem dX7_isLive_14 : decode cX7_isLive 14 = .ok (.iload_n 1, 1) := by decide +kernel
theorem dX7_isLive_15 : decode cX7_isLive 15 = .ok (.invokevirtual 146, 3) := by decide +kernel
theorem dX7_isLive_18 : decode cX7_isLive 18 = .ok (.ifCond .eq 7, 3) := by decide +kernel
theorem dX7_isLive_21 : decode cX7_isLive 21 = .ok (.iconst 1, 1) := by decide +kernel
theorem dX7_isLive_22 : decode cX7_isLive 22 = .ok (.goto 4, 3) := by decide +kernel
theorem dX7_isLive_25 : decode cX7_isLive 25 = .ok (.iconst 0, 1) := by decide +kernel
theorem dX7_isLive_26 : decode cX7_isLive 26 = .ok (.ireturn, 1) := by decide +kernel
theorem dX7_retreats_0 : decode cX7_retreats 0 = .ok (.aload_n 0, 1) := by decide +kernel
theorem dX7_retreats_1 : decode cX7_retreats 1 = .ok (.getfield 47, 3) := by decide +kernel
theorem dX7_retreats_4 : decode cX7_retreats 4 = .ok (.aload_n 0, 1) := by decide +kernel
theorem dX7_retreats_5 : decode cX7_retreats 5 = .ok (.getfield 41, 3) := by decide +kernel
theorem dX7_retreats_8 : decode cX7_retreats 8 = .ok (.iload_n 1, 1) := by decide +kernel
theorem dX7_retreats_9 : decode cX7_retreats 9 = .ok (.iaload, 1) := by decide +kernel
theorem dX7_retreats_10 : decode cX7_retreats 10 = .ok (.iaload, 1) := by decide +kernel
theorem dX7_retreats_11 : decode cX7_retreats 11 = .ok (.aload_n 0, 1) := by decide +kernel
theorem dX7_retreats_12 : decode cX7_retreats 12 = .ok (.getfield 47, 3) := by decide +kernel
theorem dX7_retreats_15 : decode cX7_retreats 15 = .ok (.iload_n 1, 1) := by decide +kernel
theorem dX7_retreats_16 : decode cX7_retreats 16 = .ok (.iconst 2, 1) := by decide +kernel
theorem dX7_retreats_17 : decode cX7_retreats 17 = .ok (.idiv, 1) := by decide +kernel
theorem dX7_retreats_18 : decode cX7_retreats 18 = .ok (.iaload, 1) := by decide +kernel
theorem dX7_retreats_19 : decode cX7_retreats 19 = .ok (.if_icmp .gt 7, 3) := by decide +kernel
theorem dX7_retreats_22 : decode cX7_retreats 22 = .ok (.iconst 1, 1) := by decide +kernel
theorem dX7_retreats_23 : decode cX7_retreats 23 = .ok (.goto 4, 3) := by decide +kernel
theorem dX7_retreats_26 : decode cX7_retreats 26 = .ok (.iconst 0, 1) := by decide +kernel
theorem dX7_retreats_27 : decode cX7_retreats 27 = .ok (.ireturn, 1) := by decide +kernel
theorem dX7_isBack_0 : decode cX7_isBack 0 = .ok (.aload_n 0, 1) := by decide +kernel
theorem dX7_isBack_1 : decode cX7_isBack 1 = .ok (.getfield 50, 3) := by decide +kernel
theorem dX7_isBack_4 : decode cX7_isBack 4 = .ok (.iload_n 1, 1) := by decide +kernel
theorem dX7_isBack_5 : decode cX7_isBack 5 = .ok (.iconst 2, 1) := by decide +kernel
theorem dX7_isBack_6 : decode cX7_isBack 6 = .ok (.idiv, 1) := by decide +kernel
theorem dX7_isBack_7 : decode cX7_isBack 7 = .ok (.iaload, 1) := by decide +kernel
theorem dX7_isBack_8 : decode cX7_isBack 8 = .ok (.aload_n 0, 1) := by decide +kernel
theorem dX7_isBack_9 : decode cX7_isBack 9 = .ok (.getfield 41, 3) := by decide +kernel
theorem dX7_isBack_12 : decode cX7_isBack 12 = .ok (.iload_n 1, 1) := by decide +kernel
theorem dX7_isBack_13 : decode cX7_isBack 13 = .ok (.iaload, 1) := by decide +kernel
theorem dX7_isBack_14 : decode cX7_isBack 14 = .ok (.invokestatic 139, 3) := by decide +kernel
theorem dX7_isBack_17 : decode cX7_isBack 17 = .ok (.ireturn, 1) := by decide +kernel
theorem dX7_layEdges_0 : decode cX7_layEdges 0 = .ok (.aload_n 0, 1) := by decide +kernel
theorem dX7_layEdges_1 : decode cX7_layEdges 1 = .ok (.iconst 0, 1) := by decide +kernel
theorem dX7_layEdges_2 : decode cX7_layEdges 2 = .ok (.putfield 159, 3) := by decide +kernel
theorem dX7_layEdges_5 : decode cX7_layEdges 5 = .ok (.aload_n 0, 1) := by decide +kernel
theorem dX7_layEdges_6 : decode cX7_layEdges 6 = .ok (.iconst 0, 1) := by decide +kernel
theorem dX7_layEdges_7 : decode cX7_layEdges 7 = .ok (.putfield 162, 3) := by decide +kernel
theorem dX7_layEdges_10 : decode cX7_layEdges 10 = .ok (.aload_n 0, 1) := by decide +kernel
theorem dX7_layEdges_11 : decode cX7_layEdges 11 = .ok (.iconst 0, 1) := by decide +kernel
theorem dX7_layEdges_12 : decode cX7_layEdges 12 = .ok (.putfield 165, 3) := by decide +kernel
theorem dX7_layEdges_15 : decode cX7_layEdges 15 = .ok (.aload_n 0, 1) := by decide +kernel
theorem dX7_layEdges_16 : decode cX7_layEdges 16 = .ok (.iconst 0, 1) := by decide +kernel
theorem dX7_layEdges_17 : decode cX7_layEdges 17 = .ok (.putfield 168, 3) := by decide +kernel
theorem dX7_layEdges_20 : decode cX7_layEdges 20 = .ok (.aload_n 0, 1) := by decide +kernel
theorem dX7_layEdges_21 : decode cX7_layEdges 21 = .ok (.iconst 0, 1) := by decide +kernel
theorem dX7_layEdges_22 : decode cX7_layEdges 22 = .ok (.putfield 171, 3) := by decide +kernel
theorem dX7_layEdges_25 : decode cX7_layEdges 25 = .ok (.iconst 0, 1) := by decide +kernel
theorem dX7_layEdges_26 : decode cX7_layEdges 26 = .ok (.istore_n 1, 1) := by decide +kernel
theorem dX7_layEdges_27 : decode cX7_layEdges 27 = .ok (.iconst 0, 1) := by decide +kernel
theorem dX7_layEdges_28 : decode cX7_layEdges 28 = .ok (.istore_n 2, 1) := by decide +kernel
theorem dX7_layEdges_29 : decode cX7_layEdges 29 = .ok (.iload_n 2, 1) := by decide +kernel
theorem dX7_layEdges_30 : decode cX7_layEdges 30 = .ok (.iconst 2, 1) := by decide +kernel
theorem dX7_layEdges_31 : decode cX7_layEdges 31 = .ok (.aload_n 0, 1) := by decide +kernel
theorem dX7_layEdges_32 : decode cX7_layEdges 32 = .ok (.getfield 133, 3) := by decide +kernel
theorem dX7_layEdges_35 : decode cX7_layEdges 35 = .ok (.imul, 1) := by decide +kernel
theorem dX7_layEdges_36 : decode cX7_layEdges 36 = .ok (.if_icmp .ge 123, 3) := by decide +kernel
theorem dX7_layEdges_39 : decode cX7_layEdges 39 = .ok (.aload_n 0, 1) := by decide +kernel
theorem dX7_layEdges_40 : decode cX7_layEdges 40 = .ok (.iload_n 2, 1) := by decide +kernel
theorem dX7_layEdges_41 : decode cX7_layEdges 41 = .ok (.invokevirtual 174, 3) := by decide +kernel
theorem dX7_layEdges_44 : decode cX7_layEdges 44 = .ok (.ifCond .eq 109, 3) := by decide +kernel
theorem dX7_layEdges_47 : decode cX7_layEdges 47 = .ok (.aload_n 0, 1) := by decide +kernel
theorem dX7_layEdges_48 : decode cX7_layEdges 48 = .ok (.getfield 41, 3) := by decide +kernel
theorem dX7_layEdges_51 : decode cX7_layEdges 51 = .ok (.iload_n 2, 1) := by decide +kernel
theorem dX7_layEdges_52 : decode cX7_layEdges 52 = .ok (.iaload, 1) := by decide +kernel
theorem dX7_layEdges_53 : decode cX7_layEdges 53 = .ok (.istore_n 3, 1) := by decide +kernel
theorem dX7_layEdges_54 : decode cX7_layEdges 54 = .ok (.aload_n 0, 1) := by decide +kernel
theorem dX7_layEdges_55 : decode cX7_layEdges 55 = .ok (.dup, 1) := by decide +kernel
theorem dX7_layEdges_56 : decode cX7_layEdges 56 = .ok (.getfield 159, 3) := by decide +kernel
theorem dX7_layEdges_59 : decode cX7_layEdges 59 = .ok (.iconst 1, 1) := by decide +kernel
theorem dX7_layEdges_60 : decode cX7_layEdges 60 = .ok (.iadd, 1) := by decide +kernel
theorem dX7_layEdges_61 : decode cX7_layEdges 61 = .ok (.putfield 159, 3) := by decide +kernel
theorem dX7_layEdges_64 : decode cX7_layEdges 64 = .ok (.aload_n 0, 1) := by decide +kernel
theorem dX7_layEdges_65 : decode cX7_layEdges 65 = .ok (.iload_n 2, 1) := by decide +kernel
theorem dX7_layEdges_66 : decode cX7_layEdges 66 = .ok (.invokevirtual 177, 3) := by decide +kernel
theorem dX7_layEdges_69 : decode cX7_layEdges 69 = .ok (.ifCond .eq 28, 3) := by decide +kernel
theorem dX7_layEdges_72 : decode cX7_layEdges 72 = .ok (.aload_n 0, 1) := by decide +kernel
theorem dX7_layEdges_73 : decode cX7_layEdges 73 = .ok (.dup, 1) := by decide +kernel
theorem dX7_layEdges_74 : decode cX7_layEdges 74 = .ok (.getfield 162, 3) := by decide +kernel
theorem dX7_layEdges_77 : decode cX7_layEdges 77 = .ok (.iconst 1, 1) := by decide +kernel
theorem dX7_layEdges_78 : decode cX7_layEdges 78 = .ok (.iadd, 1) := by decide +kernel
theorem dX7_layEdges_79 : decode cX7_layEdges 79 = .ok (.putfield 162, 3) := by decide +kernel
theorem dX7_layEdges_82 : decode cX7_layEdges 82 = .ok (.aload_n 0, 1) := by decide +kernel
theorem dX7_layEdges_83 : decode cX7_layEdges 83 = .ok (.dup, 1) := by decide +kernel
theorem dX7_layEdges_84 : decode cX7_layEdges 84 = .ok (.getfield 168, 3) := by decide +kernel
theorem dX7_layEdges_87 : decode cX7_layEdges 87 = .ok (.iconst 1, 1) := by decide +kernel
theorem dX7_layEdges_88 : decode cX7_layEdges 88 = .ok (.iload_n 3, 1) := by decide +kernel
theorem dX7_layEdges_89 : decode cX7_layEdges 89 = .ok (.ishl, 1) := by decide +kernel
theorem dX7_layEdges_90 : decode cX7_layEdges 90 = .ok (.ior, 1) := by decide +kernel
theorem dX7_layEdges_91 : decode cX7_layEdges 91 = .ok (.putfield 168, 3) := by decide +kernel
theorem dX7_layEdges_94 : decode cX7_layEdges 94 = .ok (.goto 21, 3) := by decide +kernel
theorem dX7_layEdges_97 : decode cX7_layEdges 97 = .ok (.aload_n 0, 1) := by decide +kernel
theorem dX7_layEdges_98 : decode cX7_layEdges 98 = .ok (.iload_n 2, 1) := by decide +kernel
theorem dX7_layEdges_99 : decode cX7_layEdges 99 = .ok (.invokevirtual 180, 3) := by decide +kernel
theorem dX7_layEdges_102 : decode cX7_layEdges 102 = .ok (.ifCond .eq 13, 3) := by decide +kernel
theorem dX7_layEdges_105 : decode cX7_layEdges 105 = .ok (.aload_n 0, 1) := by decide +kernel
theorem dX7_layEdges_106 : decode cX7_layEdges 106 = .ok (.dup, 1) := by decide +kernel
theorem dX7_layEdges_107 : decode cX7_layEdges 107 = .ok (.getfield 165, 3) := by decide +kernel
theorem dX7_layEdges_110 : decode cX7_layEdges 110 = .ok (.iconst 1, 1) := by decide +kernel
theorem dX7_layEdges_111 : decode cX7_layEdges 111 = .ok (.iadd, 1) := by decide +kernel
theorem dX7_layEdges_112 : decode cX7_layEdges 112 = .ok (.putfield 165, 3) := by decide +kernel
theorem dX7_layEdges_115 : decode cX7_layEdges 115 = .ok (.aload_n 0, 1) := by decide +kernel
theorem dX7_layEdges_116 : decode cX7_layEdges 116 = .ok (.iload_n 2, 1) := by decide +kernel
theorem dX7_layEdges_117 : decode cX7_layEdges 117 = .ok (.invokevirtual 180, 3) := by decide +kernel
theorem dX7_layEdges_120 : decode cX7_layEdges 120 = .ok (.ifCond .ne 33, 3) := by decide +kernel
theorem dX7_layEdges_123 : decode cX7_layEdges 123 = .ok (.aload_n 0, 1) := by decide +kernel
theorem dX7_layEdges_124 : decode cX7_layEdges 124 = .ok (.dup, 1) := by decide +kernel
theorem dX7_layEdges_125 : decode cX7_layEdges 125 = .ok (.getfield 171, 3) := by decide +kernel
theorem dX7_layEdges_128 : decode cX7_layEdges 128 = .ok (.iload_n 1, 1) := by decide +kernel
theorem dX7_layEdges_129 : decode cX7_layEdges 129 = .ok (.iload_n 3, 1) := by decide +kernel
theorem dX7_layEdges_130 : decode cX7_layEdges 130 = .ok (.invokestatic 139, 3) := by decide +kernel
theorem dX7_layEdges_133 : decode cX7_layEdges 133 = .ok (.ifCond .eq 9, 3) := by decide +kernel
theorem dX7_layEdges_136 : decode cX7_layEdges 136 = .ok (.iconst 1, 1) := by decide +kernel
theorem dX7_layEdges_137 : decode cX7_layEdges 137 = .ok (.iload_n 3, 1) := by decide +kernel
theorem dX7_layEdges_138 : decode cX7_layEdges 138 = .ok (.ishl, 1) := by decide +kernel
theorem dX7_layEdges_139 : decode cX7_layEdges 139 = .ok (.goto 4, 3) := by decide +kernel
theorem dX7_layEdges_142 : decode cX7_layEdges 142 = .ok (.iconst 0, 1) := by decide +kernel
theorem dX7_layEdges_143 : decode cX7_layEdges 143 = .ok (.ior, 1) := by decide +kernel
theorem dX7_layEdges_144 : decode cX7_layEdges 144 = .ok (.putfield 171, 3) := by decide +kernel
theorem dX7_layEdges_147 : decode cX7_layEdges 147 = .ok (.iload_n 1, 1) := by decide +kernel
theorem dX7_layEdges_148 : decode cX7_layEdges 148 = .ok (.iconst 1, 1) := by decide +kernel
theorem dX7_layEdges_149 : decode cX7_layEdges 149 = .ok (.iload_n 3, 1) := by decide +kernel
theorem dX7_layEdges_150 : decode cX7_layEdges 150 = .ok (.ishl, 1) := by decide +kernel
theorem dX7_layEdges_151 : decode cX7_layEdges 151 = .ok (.ior, 1) := by decide +kernel
theorem dX7_layEdges_152 : decode cX7_layEdges 152 = .ok (.istore_n 1, 1) := by decide +kernel
theorem dX7_layEdges_153 : decode cX7_layEdges 153 = .ok (.iinc 2 1, 3) := by decide +kernel
theorem dX7_layEdges_156 : decode cX7_layEdges 156 = .ok (.goto (-127), 3) := by decide +kernel
theorem dX7_layEdges_159 : decode cX7_layEdges 159 = .ok (.return_, 1) := by decide +kernel
theorem dX7_lay_0 : decode cX7_lay 0 = .ok (.aload_n 0, 1) := by decide +kernel
theorem dX7_lay_1 : decode cX7_lay 1 = .ok (.invokevirtual 183, 3) := by decide +kernel
theorem dX7_lay_4 : decode cX7_lay 4 = .ok (.aload_n 0, 1) := by decide +kernel
theorem dX7_lay_5 : decode cX7_lay 5 = .ok (.invokevirtual 186, 3) := by decide +kernel
theorem dX7_lay_8 : decode cX7_lay 8 = .ok (.aload_n 0, 1) := by decide +kernel
theorem dX7_lay_9 : decode cX7_lay 9 = .ok (.invokevirtual 189, 3) := by decide +kernel
theorem dX7_lay_12 : decode cX7_lay 12 = .ok (.return_, 1) := by decide +kernel
theorem dX7_layNow_0 : decode cX7_layNow 0 = .ok (.aload_n 0, 1) := by decide +kernel
theorem dX7_layNow_1 : decode cX7_layNow 1 = .ok (.invokevirtual 192, 3) := by decide +kernel
theorem dX7_layNow_4 : decode cX7_layNow 4 = .ok (.aload_n 0, 1) := by decide +kernel
theorem dX7_layNow_5 : decode cX7_layNow 5 = .ok (.invokevirtual 195, 3) := by decide +kernel
theorem dX7_layNow_8 : decode cX7_layNow 8 = .ok (.return_, 1) := by decide +kernel
theorem dX7_dominated_0 : decode cX7_dominated 0 = .ok (.iconst 0, 1) := by decide +kernel
theorem dX7_dominated_1 : decode cX7_dominated 1 = .ok (.istore_n 2, 1) := by decide +kernel
theorem dX7_dominated_2 : decode cX7_dominated 2 = .ok (.iconst 0, 1) := by decide +kernel
theorem dX7_dominated_3 : decode cX7_dominated 3 = .ok (.istore_n 3, 1) := by decide +kernel
theorem dX7_dominated_4 : decode cX7_dominated 4 = .ok (.iload_n 3, 1) := by decide +kernel
theorem dX7_dominated_5 : decode cX7_dominated 5 = .ok (.aload_n 0, 1) := by decide +kernel
theorem dX7_dominated_6 : decode cX7_dominated 6 = .ok (.getfield 121, 3) := by decide +kernel
theorem dX7_dominated_9 : decode cX7_dominated 9 = .ok (.if_icmp .ge 30, 3) := by decide +kernel
theorem dX7_dominated_12 : decode cX7_dominated 12 = .ok (.iload_n 2, 1) := by decide +kernel
theorem dX7_dominated_13 : decode cX7_dominated 13 = .ok (.aload_n 0, 1) := by decide +kernel
theorem dX7_dominated_14 : decode cX7_dominated 14 = .ok (.getfield 50, 3) := by decide +kernel
theorem dX7_dominated_17 : decode cX7_dominated 17 = .ok (.iload_n 3, 1) := by decide +kernel
theorem dX7_dominated_18 : decode cX7_dominated 18 = .ok (.iaload, 1) := by decide +kernel
theorem dX7_dominated_19 : decode cX7_dominated 19 = .ok (.iload_n 1, 1) := by decide +kernel
theorem dX7_dominated_20 : decode cX7_dominated 20 = .ok (.invokestatic 139, 3) := by decide +kernel
theorem dX7_dominated_23 : decode cX7_dominated 23 = .ok (.ifCond .eq 7, 3) := by decide +kernel
theorem dX7_dominated_26 : decode cX7_dominated 26 = .ok (.iconst 1, 1) := by decide +kernel
theorem dX7_dominated_27 : decode cX7_dominated 27 = .ok (.goto 4, 3) := by decide +kernel
theorem dX7_dominated_30 : decode cX7_dominated 30 = .ok (.iconst 0, 1) := by decide +kernel
theorem dX7_dominated_31 : decode cX7_dominated 31 = .ok (.iadd, 1) := by decide +kernel
theorem dX7_dominated_32 : decode cX7_dominated 32 = .ok (.istore_n 2, 1) := by decide +kernel
theorem dX7_dominated_33 : decode cX7_dominated 33 = .ok (.iinc 3 1, 3) := by decide +kernel
theorem dX7_dominated_36 : decode cX7_dominated 36 = .ok (.goto (-32), 3) := by decide +kernel
theorem dX7_dominated_39 : decode cX7_dominated 39 = .ok (.iload_n 2, 1) := by decide +kernel
theorem dX7_dominated_40 : decode cX7_dominated 40 = .ok (.ireturn, 1) := by decide +kernel
theorem dX7_nodeNow_0 : decode cX7_nodeNow 0 = .ok (.iload_n 2, 1) := by decide +kernel
theorem dX7_nodeNow_1 : decode cX7_nodeNow 1 = .ok (.tableswitch 146 0 8 #[51, 58, 58, 71, 93, 100, 117, 134, 140], 51) := by decide +kernel
theorem dX7_nodeNow_52 : decode cX7_nodeNow 52 = .ok (.aload_n 0, 1) := by decide +kernel
theorem dX7_nodeNow_53 : decode cX7_nodeNow 53 = .ok (.getfield 7, 3) := by decide +kernel
theorem dX7_nodeNow_56 : decode cX7_nodeNow 56 = .ok (.iload_n 1, 1) := by decide +kernel
theorem dX7_nodeNow_57 : decode cX7_nodeNow 57 = .ok (.iaload, 1) := by decide +kernel
theorem dX7_nodeNow_58 : decode cX7_nodeNow 58 = .ok (.ireturn, 1) := by decide +kernel
theorem dX7_nodeNow_59 : decode cX7_nodeNow 59 = .ok (.aload_n 0, 1) := by decide +kernel
theorem dX7_nodeNow_60 : decode cX7_nodeNow 60 = .ok (.getfield 13, 3) := by decide +kernel
theorem dX7_nodeNow_63 : decode cX7_nodeNow 63 = .ok (.iconst 2, 1) := by decide +kernel
theorem dX7_nodeNow_64 : decode cX7_nodeNow 64 = .ok (.iload_n 1, 1) := by decide +kernel
theorem dX7_nodeNow_65 : decode cX7_nodeNow 65 = .ok (.imul, 1) := by decide +kernel
theorem dX7_nodeNow_66 : decode cX7_nodeNow 66 = .ok (.iload_n 2, 1) := by decide +kernel
theorem dX7_nodeNow_67 : decode cX7_nodeNow 67 = .ok (.iadd, 1) := by decide +kernel
theorem dX7_nodeNow_68 : decode cX7_nodeNow 68 = .ok (.iconst 1, 1) := by decide +kernel
theorem dX7_nodeNow_69 : decode cX7_nodeNow 69 = .ok (.isub, 1) := by decide +kernel
theorem dX7_nodeNow_70 : decode cX7_nodeNow 70 = .ok (.iaload, 1) := by decide +kernel
theorem dX7_nodeNow_71 : decode cX7_nodeNow 71 = .ok (.ireturn, 1) := by decide +kernel
theorem dX7_nodeNow_72 : decode cX7_nodeNow 72 = .ok (.aload_n 0, 1) := by decide +kernel
theorem dX7_nodeNow_73 : decode cX7_nodeNow 73 = .ok (.getfield 143, 3) := by decide +kernel
theorem dX7_nodeNow_76 : decode cX7_nodeNow 76 = .ok (.iload_n 1, 1) := by decide +kernel
theorem dX7_nodeNow_77 : decode cX7_nodeNow 77 = .ok (.invokestatic 139, 3) := by decide +kernel
theorem dX7_nodeNow_80 : decode cX7_nodeNow 80 = .ok (.ifCond .eq 12, 3) := by decide +kernel
theorem dX7_nodeNow_83 : decode cX7_nodeNow 83 = .ok (.aload_n 0, 1) := by decide +kernel
theorem dX7_nodeNow_84 : decode cX7_nodeNow 84 = .ok (.getfield 47, 3) := by decide +kernel
theorem dX7_nodeNow_87 : decode cX7_nodeNow 87 = .ok (.iload_n 1, 1) := by decide +kernel
theorem dX7_nodeNow_88 : decode cX7_nodeNow 88 = .ok (.iaload, 1) := by decide +kernel
theorem dX7_nodeNow_89 : decode cX7_nodeNow 89 = .ok (.goto 4, 3) := by decide +kernel
theorem dX7_nodeNow_92 : decode cX7_nodeNow 92 = .ok (.iconst (-1), 1) := by decide +kernel
theorem dX7_nodeNow_93 : decode cX7_nodeNow 93 = .ok (.ireturn, 1) := by decide +kernel
theorem dX7_nodeNow_94 : decode cX7_nodeNow 94 = .ok (.aload_n 0, 1) := by decide +kernel
theorem dX7_nodeNow_95 : decode cX7_nodeNow 95 = .ok (.getfield 53, 3) := by decide +kernel
theorem dX7_nodeNow_98 : decode cX7_nodeNow 98 = .ok (.iload_n 1, 1) := by decide +kernel
theorem dX7_nodeNow_99 : decode cX7_nodeNow 99 = .ok (.iaload, 1) := by decide +kernel
theorem dX7_nodeNow_100 : decode cX7_nodeNow 100 = .ok (.ireturn, 1) := by decide +kernel
theorem dX7_nodeNow_101 : decode cX7_nodeNow 101 = .ok (.aload_n 0, 1) := by decide +kernel
theorem dX7_nodeNow_102 : decode cX7_nodeNow 102 = .ok (.getfield 168, 3) := by decide +kernel
theorem dX7_nodeNow_105 : decode cX7_nodeNow 105 = .ok (.iload_n 1, 1) := by decide +kernel
theorem dX7_nodeNow_106 : decode cX7_nodeNow 106 = .ok (.invokestatic 139, 3) := by decide +kernel
theorem dX7_nodeNow_109 : decode cX7_nodeNow 109 = .ok (.ifCond .eq 7, 3) := by decide +kernel
theorem dX7_nodeNow_112 : decode cX7_nodeNow 112 = .ok (.iconst 1, 1) := by decide +kernel
theorem dX7_nodeNow_113 : decode cX7_nodeNow 113 = .ok (.goto 4, 3) := by decide +kernel
theorem dX7_nodeNow_116 : decode cX7_nodeNow 116 = .ok (.iconst 0, 1) := by decide +kernel
theorem dX7_nodeNow_117 : decode cX7_nodeNow 117 = .ok (.ireturn, 1) := by decide +kernel
theorem dX7_nodeNow_118 : decode cX7_nodeNow 118 = .ok (.aload_n 0, 1) := by decide +kernel
theorem dX7_nodeNow_119 : decode cX7_nodeNow 119 = .ok (.getfield 171, 3) := by decide +kernel
theorem dX7_nodeNow_122 : decode cX7_nodeNow 122 = .ok (.iload_n 1, 1) := by decide +kernel
theorem dX7_nodeNow_123 : decode cX7_nodeNow 123 = .ok (.invokestatic 139, 3) := by decide +kernel
theorem dX7_nodeNow_126 : decode cX7_nodeNow 126 = .ok (.ifCond .eq 7, 3) := by decide +kernel
theorem dX7_nodeNow_129 : decode cX7_nodeNow 129 = .ok (.iconst 1, 1) := by decide +kernel
theorem dX7_nodeNow_130 : decode cX7_nodeNow 130 = .ok (.goto 4, 3) := by decide +kernel
theorem dX7_nodeNow_133 : decode cX7_nodeNow 133 = .ok (.iconst 0, 1) := by decide +kernel
theorem dX7_nodeNow_134 : decode cX7_nodeNow 134 = .ok (.ireturn, 1) := by decide +kernel
theorem dX7_nodeNow_135 : decode cX7_nodeNow 135 = .ok (.aload_n 0, 1) := by decide +kernel
theorem dX7_nodeNow_136 : decode cX7_nodeNow 136 = .ok (.iload_n 1, 1) := by decide +kernel
theorem dX7_nodeNow_137 : decode cX7_nodeNow 137 = .ok (.invokevirtual 198, 3) := by decide +kernel
theorem dX7_nodeNow_140 : decode cX7_nodeNow 140 = .ok (.ireturn, 1) := by decide +kernel
theorem dX7_nodeNow_141 : decode cX7_nodeNow 141 = .ok (.aload_n 0, 1) := by decide +kernel
theorem dX7_nodeNow_142 : decode cX7_nodeNow 142 = .ok (.iload_n 1, 1) := by decide +kernel
theorem dX7_nodeNow_143 : decode cX7_nodeNow 143 = .ok (.invokevirtual 201, 3) := by decide +kernel
theorem dX7_nodeNow_146 : decode cX7_nodeNow 146 = .ok (.ireturn, 1) := by decide +kernel
theorem dX7_nodeNow_147 : decode cX7_nodeNow 147 = .ok (.aload_n 0, 1) := by decide +kernel
theorem dX7_nodeNow_148 : decode cX7_nodeNow 148 = .ok (.iload_n 1, 1) := by decide +kernel
theorem dX7_nodeNow_149 : decode cX7_nodeNow 149 = .ok (.invokevirtual 204, 3) := by decide +kernel
theorem dX7_nodeNow_152 : decode cX7_nodeNow 152 = .ok (.ireturn, 1) := by decide +kernel
theorem dX7_node_0 : decode cX7_node 0 = .ok (.aload_n 0, 1) := by decide +kernel
theorem dX7_node_1 : decode cX7_node 1 = .ok (.iload_n 1, 1) := by decide +kernel
theorem dX7_node_2 : decode cX7_node 2 = .ok (.invokevirtual 207, 3) := by decide +kernel
theorem dX7_node_5 : decode cX7_node 5 = .ok (.ifCond .ne 6, 3) := by decide +kernel
theorem dX7_node_8 : decode cX7_node 8 = .ok (.bipush (-101), 2) := by decide +kernel
theorem dX7_node_10 : decode cX7_node 10 = .ok (.ireturn, 1) := by decide +kernel
theorem dX7_node_11 : decode cX7_node 11 = .ok (.iload_n 2, 1) := by decide +kernel
theorem dX7_node_12 : decode cX7_node 12 = .ok (.iconst 0, 1) := by decide +kernel
theorem dX7_node_13 : decode cX7_node 13 = .ok (.bipush 9, 2) := by decide +kernel
theorem dX7_node_15 : decode cX7_node 15 = .ok (.invokestatic 89, 3) := by decide +kernel
theorem dX7_node_18 : decode cX7_node 18 = .ok (.ifCond .ne 6, 3) := by decide +kernel
theorem dX7_node_21 : decode cX7_node 21 = .ok (.bipush (-102), 2) := by decide +kernel
theorem dX7_node_23 : decode cX7_node 23 = .ok (.ireturn, 1) := by decide +kernel
theorem dX7_node_24 : decode cX7_node 24 = .ok (.aload_n 0, 1) := by decide +kernel
theorem dX7_node_25 : decode cX7_node 25 = .ok (.invokevirtual 210, 3) := by decide +kernel
theorem dX7_node_28 : decode cX7_node 28 = .ok (.aload_n 0, 1) := by decide +kernel
theorem dX7_node_29 : decode cX7_node 29 = .ok (.iload_n 1, 1) := by decide +kernel
theorem dX7_node_30 : decode cX7_node 30 = .ok (.iload_n 2, 1) := by decide +kernel
theorem dX7_node_31 : decode cX7_node 31 = .ok (.invokevirtual 213, 3) := by decide +kernel
theorem dX7_node_34 : decode cX7_node 34 = .ok (.ireturn, 1) := by decide +kernel
theorem dX7_as_0 : decode cX7_as 0 = .ok (.aload_n 0, 1) := by decide +kernel
theorem dX7_as_1 : decode cX7_as 1 = .ok (.iload_n 1, 1) := by decide +kernel
theorem dX7_as_2 : decode cX7_as 2 = .ok (.invokevirtual 207, 3) := by decide +kernel
theorem dX7_as_5 : decode cX7_as 5 = .ok (.ifCond .ne 6, 3) := by decide +kernel
theorem dX7_as_8 : decode cX7_as 8 = .ok (.bipush (-101), 2) := by decide +kernel
theorem dX7_as_10 : decode cX7_as 10 = .ok (.ireturn, 1) := by decide +kernel
theorem dX7_as_11 : decode cX7_as 11 = .ok (.iload_n 2, 1) := by decide +kernel
theorem dX7_as_12 : decode cX7_as 12 = .ok (.iconst 0, 1) := by decide +kernel
theorem dX7_as_13 : decode cX7_as 13 = .ok (.iconst 4, 1) := by decide +kernel
theorem dX7_as_14 : decode cX7_as 14 = .ok (.invokestatic 89, 3) := by decide +kernel
theorem dX7_as_17 : decode cX7_as 17 = .ok (.ifCond .ne 6, 3) := by decide +kernel
theorem dX7_as_20 : decode cX7_as 20 = .ok (.bipush (-102), 2) := by decide +kernel
theorem dX7_as_22 : decode cX7_as 22 = .ok (.ireturn, 1) := by decide +kernel
theorem dX7_as_23 : decode cX7_as 23 = .ok (.aload_n 0, 1) := by decide +kernel
theorem dX7_as_24 : decode cX7_as 24 = .ok (.getfield 7, 3) := by decide +kernel
theorem dX7_as_27 : decode cX7_as 27 = .ok (.iload_n 1, 1) := by decide +kernel
theorem dX7_as_28 : decode cX7_as 28 = .ok (.iaload, 1) := by decide +kernel
theorem dX7_as_29 : decode cX7_as 29 = .ok (.istore_n 3, 1) := by decide +kernel
theorem dX7_as_30 : decode cX7_as 30 = .ok (.iload_n 2, 1) := by decide +kernel
theorem dX7_as_31 : decode cX7_as 31 = .ok (.ifCond .eq 18, 3) := by decide +kernel
theorem dX7_as_34 : decode cX7_as 34 = .ok (.iload_n 3, 1) := by decide +kernel
theorem dX7_as_35 : decode cX7_as 35 = .ok (.iload_n 2, 1) := by decide +kernel
theorem dX7_as_36 : decode cX7_as 36 = .ok (.if_icmp .eq 13, 3) := by decide +kernel
theorem dX7_as_39 : decode cX7_as 39 = .ok (.iload_n 2, 1) := by decide +kernel
theorem dX7_as_40 : decode cX7_as 40 = .ok (.iconst 3, 1) := by decide +kernel
theorem dX7_as_41 : decode cX7_as 41 = .ok (.if_icmp .ne 12, 3) := by decide +kernel
theorem dX7_as_44 : decode cX7_as 44 = .ok (.iload_n 3, 1) := by decide +kernel
theorem dX7_as_45 : decode cX7_as 45 = .ok (.iconst 4, 1) := by decide +kernel
theorem dX7_as_46 : decode cX7_as 46 = .ok (.if_icmp .ne 7, 3) := by decide +kernel
theorem dX7_as_49 : decode cX7_as 49 = .ok (.iload_n 1, 1) := by decide +kernel
theorem dX7_as_50 : decode cX7_as 50 = .ok (.goto 4, 3) := by decide +kernel
theorem dX7_as_53 : decode cX7_as 53 = .ok (.iconst (-1), 1) := by decide +kernel
theorem dX7_as_54 : decode cX7_as 54 = .ok (.ireturn, 1) := by decide +kernel
theorem dX7_dominates_0 : decode cX7_dominates 0 = .ok (.aload_n 0, 1) := by decide +kernel
theorem dX7_dominates_1 : decode cX7_dominates 1 = .ok (.iload_n 1, 1) := by decide +kernel
theorem dX7_dominates_2 : decode cX7_dominates 2 = .ok (.invokevirtual 207, 3) := by decide +kernel
theorem dX7_dominates_5 : decode cX7_dominates 5 = .ok (.ifCond .eq 11, 3) := by decide +kernel
theorem dX7_dominates_8 : decode cX7_dominates 8 = .ok (.aload_n 0, 1) := by decide +kernel
theorem dX7_dominates_9 : decode cX7_dominates 9 = .ok (.iload_n 2, 1) := by decide +kernel
theorem dX7_dominates_10 : decode cX7_dominates 10 = .ok (.invokevirtual 207, 3) := by decide +kernel
theorem dX7_dominates_13 : decode cX7_dominates 13 = .ok (.ifCond .ne 6, 3) := by decide +kernel
theorem dX7_dominates_16 : decode cX7_dominates 16 = .ok (.bipush (-101), 2) := by decide +kernel
theorem dX7_dominates_18 : decode cX7_dominates 18 = .ok (.ireturn, 1) := by decide +kernel
theorem dX7_dominates_19 : decode cX7_dominates 19 = .ok (.aload_n 0, 1) := by decide +kernel
theorem dX7_dominates_20 : decode cX7_dominates 20 = .ok (.invokevirtual 210, 3) := by decide +kernel
theorem dX7_dominates_23 : decode cX7_dominates 23 = .ok (.aload_n 0, 1) := by decide +kernel
theorem dX7_dominates_24 : decode cX7_dominates 24 = .ok (.getfield 50, 3) := by decide +kernel
theorem dX7_dominates_27 : decode cX7_dominates 27 = .ok (.iload_n 2, 1) := by decide +kernel
theorem dX7_dominates_28 : decode cX7_dominates 28 = .ok (.iaload, 1) := by decide +kernel
theorem dX7_dominates_29 : decode cX7_dominates 29 = .ok (.iload_n 1, 1) := by decide +kernel
theorem dX7_dominates_30 : decode cX7_dominates 30 = .ok (.invokestatic 139, 3) := by decide +kernel
theorem dX7_dominates_33 : decode cX7_dominates 33 = .ok (.ifCond .eq 7, 3) := by decide +kernel
theorem dX7_dominates_36 : decode cX7_dominates 36 = .ok (.iconst 1, 1) := by decide +kernel
theorem dX7_dominates_37 : decode cX7_dominates 37 = .ok (.goto 4, 3) := by decide +kernel
theorem dX7_dominates_40 : decode cX7_dominates 40 = .ok (.iconst 0, 1) := by decide +kernel
theorem dX7_dominates_41 : decode cX7_dominates 41 = .ok (.ireturn, 1) := by decide +kernel
theorem dX7_edgeNow_0 : decode cX7_edgeNow 0 = .ok (.aload_n 0, 1) := by decide +kernel
theorem dX7_edgeNow_1 : decode cX7_edgeNow 1 = .ok (.iload_n 1, 1) := by decide +kernel
theorem dX7_edgeNow_2 : decode cX7_edgeNow 2 = .ok (.invokevirtual 174, 3) := by decide +kernel
theorem dX7_edgeNow_5 : decode cX7_edgeNow 5 = .ok (.ifCond .ne 7, 3) := by decide +kernel
theorem dX7_edgeNow_8 : decode cX7_edgeNow 8 = .ok (.iconst (-1), 1) := by decide +kernel
theorem dX7_edgeNow_9 : decode cX7_edgeNow 9 = .ok (.goto 28, 3) := by decide +kernel
theorem dX7_edgeNow_12 : decode cX7_edgeNow 12 = .ok (.aload_n 0, 1) := by decide +kernel
theorem dX7_edgeNow_13 : decode cX7_edgeNow 13 = .ok (.iload_n 1, 1) := by decide +kernel
theorem dX7_edgeNow_14 : decode cX7_edgeNow 14 = .ok (.invokevirtual 177, 3) := by decide +kernel
theorem dX7_edgeNow_17 : decode cX7_edgeNow 17 = .ok (.ifCond .eq 7, 3) := by decide +kernel
theorem dX7_edgeNow_20 : decode cX7_edgeNow 20 = .ok (.iconst 1, 1) := by decide +kernel
theorem dX7_edgeNow_21 : decode cX7_edgeNow 21 = .ok (.goto 16, 3) := by decide +kernel
theorem dX7_edgeNow_24 : decode cX7_edgeNow 24 = .ok (.aload_n 0, 1) := by decide +kernel
theorem dX7_edgeNow_25 : decode cX7_edgeNow 25 = .ok (.iload_n 1, 1) := by decide +kernel
theorem dX7_edgeNow_26 : decode cX7_edgeNow 26 = .ok (.invokevirtual 180, 3) := by decide +kernel
theorem dX7_edgeNow_29 : decode cX7_edgeNow 29 = .ok (.ifCond .eq 7, 3) := by decide +kernel
theorem dX7_edgeNow_32 : decode cX7_edgeNow 32 = .ok (.iconst 2, 1) := by decide +kernel
theorem dX7_edgeNow_33 : decode cX7_edgeNow 33 = .ok (.goto 4, 3) := by decide +kernel
theorem dX7_edgeNow_36 : decode cX7_edgeNow 36 = .ok (.iconst 0, 1) := by decide +kernel
theorem dX7_edgeNow_37 : decode cX7_edgeNow 37 = .ok (.ireturn, 1) := by decide +kernel
theorem dX7_edge_0 : decode cX7_edge 0 = .ok (.aload_n 0, 1) := by decide +kernel
theorem dX7_edge_1 : decode cX7_edge 1 = .ok (.iload_n 1, 1) := by decide +kernel
theorem dX7_edge_2 : decode cX7_edge 2 = .ok (.invokevirtual 207, 3) := by decide +kernel
theorem dX7_edge_5 : decode cX7_edge 5 = .ok (.ifCond .ne 6, 3) := by decide +kernel
theorem dX7_edge_8 : decode cX7_edge 8 = .ok (.bipush (-101), 2) := by decide +kernel
theorem dX7_edge_10 : decode cX7_edge 10 = .ok (.ireturn, 1) := by decide +kernel
theorem dX7_edge_11 : decode cX7_edge 11 = .ok (.iload_n 2, 1) := by decide +kernel
theorem dX7_edge_12 : decode cX7_edge 12 = .ok (.iconst 0, 1) := by decide +kernel
theorem dX7_edge_13 : decode cX7_edge 13 = .ok (.iconst 1, 1) := by decide +kernel
theorem dX7_edge_14 : decode cX7_edge 14 = .ok (.invokestatic 89, 3) := by decide +kernel
theorem dX7_edge_17 : decode cX7_edge 17 = .ok (.ifCond .ne 6, 3) := by decide +kernel
theorem dX7_edge_20 : decode cX7_edge 20 = .ok (.bipush (-102), 2) := by decide +kernel
theorem dX7_edge_22 : decode cX7_edge 22 = .ok (.ireturn, 1) := by decide +kernel
theorem dX7_edge_23 : decode cX7_edge 23 = .ok (.aload_n 0, 1) := by decide +kernel
theorem dX7_edge_24 : decode cX7_edge 24 = .ok (.invokevirtual 210, 3) := by decide +kernel
theorem dX7_edge_27 : decode cX7_edge 27 = .ok (.aload_n 0, 1) := by decide +kernel
theorem dX7_edge_28 : decode cX7_edge 28 = .ok (.iconst 2, 1) := by decide +kernel
theorem dX7_edge_29 : decode cX7_edge 29 = .ok (.iload_n 1, 1) := by decide +kernel
theorem dX7_edge_30 : decode cX7_edge 30 = .ok (.imul, 1) := by decide +kernel
theorem dX7_edge_31 : decode cX7_edge 31 = .ok (.iload_n 2, 1) := by decide +kernel
theorem dX7_edge_32 : decode cX7_edge 32 = .ok (.iadd, 1) := by decide +kernel
theorem dX7_edge_33 : decode cX7_edge 33 = .ok (.invokevirtual 217, 3) := by decide +kernel
theorem dX7_edge_36 : decode cX7_edge 36 = .ok (.ireturn, 1) := by decide +kernel
theorem dX7_aim_0 : decode cX7_aim 0 = .ok (.aload_n 0, 1) := by decide +kernel
theorem dX7_aim_1 : decode cX7_aim 1 = .ok (.iload_n 1, 1) := by decide +kernel
theorem dX7_aim_2 : decode cX7_aim 2 = .ok (.invokevirtual 207, 3) := by decide +kernel
theorem dX7_aim_5 : decode cX7_aim 5 = .ok (.ifCond .eq 11, 3) := by decide +kernel
theorem dX7_aim_8 : decode cX7_aim 8 = .ok (.aload_n 0, 1) := by decide +kernel
theorem dX7_aim_9 : decode cX7_aim 9 = .ok (.iload_n 3, 1) := by decide +kernel
theorem dX7_aim_10 : decode cX7_aim 10 = .ok (.invokevirtual 207, 3) := by decide +kernel
theorem dX7_aim_13 : decode cX7_aim 13 = .ok (.ifCond .ne 6, 3) := by decide +kernel
theorem dX7_aim_16 : decode cX7_aim 16 = .ok (.bipush (-101), 2) := by decide +kernel
theorem dX7_aim_18 : decode cX7_aim 18 = .ok (.ireturn, 1) := by decide +kernel
theorem dX7_aim_19 : decode cX7_aim 19 = .ok (.iload_n 2, 1) := by decide +kernel
theorem dX7_aim_20 : decode cX7_aim 20 = .ok (.iconst 0, 1) := by decide +kernel
theorem dX7_aim_21 : decode cX7_aim 21 = .ok (.iconst 1, 1) := by decide +kernel
theorem dX7_aim_22 : decode cX7_aim 22 = .ok (.invokestatic 89, 3) := by decide +kernel
theorem dX7_aim_25 : decode cX7_aim 25 = .ok (.ifCond .ne 6, 3) := by decide +kernel
theorem dX7_aim_28 : decode cX7_aim 28 = .ok (.bipush (-102), 2) := by decide +kernel
theorem dX7_aim_30 : decode cX7_aim 30 = .ok (.ireturn, 1) := by decide +kernel
theorem dX7_aim_31 : decode cX7_aim 31 = .ok (.aload_n 0, 1) := by decide +kernel
theorem dX7_aim_32 : decode cX7_aim 32 = .ok (.getfield 13, 3) := by decide +kernel
theorem dX7_aim_35 : decode cX7_aim 35 = .ok (.iconst 2, 1) := by decide +kernel
theorem dX7_aim_36 : decode cX7_aim 36 = .ok (.iload_n 1, 1) := by decide +kernel
theorem dX7_aim_37 : decode cX7_aim 37 = .ok (.imul, 1) := by decide +kernel
theorem dX7_aim_38 : decode cX7_aim 38 = .ok (.iload_n 2, 1) := by decide +kernel
theorem dX7_aim_39 : decode cX7_aim 39 = .ok (.iadd, 1) := by decide +kernel
theorem dX7_aim_40 : decode cX7_aim 40 = .ok (.iaload, 1) := by decide +kernel
theorem dX7_aim_41 : decode cX7_aim 41 = .ok (.istore 4, 2) := by decide +kernel
theorem dX7_aim_43 : decode cX7_aim 43 = .ok (.aload_n 0, 1) := by decide +kernel
theorem dX7_aim_44 : decode cX7_aim 44 = .ok (.getfield 13, 3) := by decide +kernel
theorem dX7_aim_47 : decode cX7_aim 47 = .ok (.iconst 2, 1) := by decide +kernel
theorem dX7_aim_48 : decode cX7_aim 48 = .ok (.iload_n 1, 1) := by decide +kernel
theorem dX7_aim_49 : decode cX7_aim 49 = .ok (.imul, 1) := by decide +kernel
theorem dX7_aim_50 : decode cX7_aim 50 = .ok (.iload_n 2, 1) := by decide +kernel
theorem dX7_aim_51 : decode cX7_aim 51 = .ok (.iadd, 1) := by decide +kernel
theorem dX7_aim_52 : decode cX7_aim 52 = .ok (.iload_n 3, 1) := by decide +kernel
theorem dX7_aim_53 : decode cX7_aim 53 = .ok (.iastore, 1) := by decide +kernel
theorem dX7_aim_54 : decode cX7_aim 54 = .ok (.iload 4, 2) := by decide +kernel
theorem dX7_aim_56 : decode cX7_aim 56 = .ok (.ireturn, 1) := by decide +kernel
theorem dX7_be_0 : decode cX7_be 0 = .ok (.aload_n 0, 1) := by decide +kernel
theorem dX7_be_1 : decode cX7_be 1 = .ok (.iload_n 1, 1) := by decide +kernel
theorem dX7_be_2 : decode cX7_be 2 = .ok (.invokevirtual 207, 3) := by decide +kernel
theorem dX7_be_5 : decode cX7_be 5 = .ok (.ifCond .ne 6, 3) := by decide +kernel
theorem dX7_be_8 : decode cX7_be 8 = .ok (.bipush (-101), 2) := by decide +kernel
theorem dX7_be_10 : decode cX7_be 10 = .ok (.ireturn, 1) := by decide +kernel
theorem dX7_be_11 : decode cX7_be 11 = .ok (.iload_n 2, 1) := by decide +kernel
theorem dX7_be_12 : decode cX7_be 12 = .ok (.iconst 0, 1) := by decide +kernel
theorem dX7_be_13 : decode cX7_be 13 = .ok (.iconst 4, 1) := by decide +kernel
theorem dX7_be_14 : decode cX7_be 14 = .ok (.invokestatic 89, 3) := by decide +kernel
theorem dX7_be_17 : decode cX7_be 17 = .ok (.ifCond .ne 6, 3) := by decide +kernel
theorem dX7_be_20 : decode cX7_be 20 = .ok (.bipush (-102), 2) := by decide +kernel
theorem dX7_be_22 : decode cX7_be 22 = .ok (.ireturn, 1) := by decide +kernel
theorem dX7_be_23 : decode cX7_be 23 = .ok (.aload_n 0, 1) := by decide +kernel
theorem dX7_be_24 : decode cX7_be 24 = .ok (.getfield 7, 3) := by decide +kernel
theorem dX7_be_27 : decode cX7_be 27 = .ok (.iload_n 1, 1) := by decide +kernel
theorem dX7_be_28 : decode cX7_be 28 = .ok (.iaload, 1) := by decide +kernel
theorem dX7_be_29 : decode cX7_be 29 = .ok (.istore_n 3, 1) := by decide +kernel
theorem dX7_be_30 : decode cX7_be 30 = .ok (.aload_n 0, 1) := by decide +kernel
theorem dX7_be_31 : decode cX7_be 31 = .ok (.getfield 7, 3) := by decide +kernel
theorem dX7_be_34 : decode cX7_be 34 = .ok (.iload_n 1, 1) := by decide +kernel
theorem dX7_be_35 : decode cX7_be 35 = .ok (.iload_n 2, 1) := by decide +kernel
theorem dX7_be_36 : decode cX7_be 36 = .ok (.iastore, 1) := by decide +kernel
theorem dX7_be_37 : decode cX7_be 37 = .ok (.iload_n 3, 1) := by decide +kernel
theorem dX7_be_38 : decode cX7_be 38 = .ok (.ireturn, 1) := by decide +kernel
theorem dX7_endBy_0 : decode cX7_endBy 0 = .ok (.iload_n 0, 1) := by decide +kernel
theorem dX7_endBy_1 : decode cX7_endBy 1 = .ok (.tableswitch 51 1 4 #[31, 51, 33, 39], 31) := by decide +kernel
theorem dX7_endBy_32 : decode cX7_endBy 32 = .ok (.iload_n 2, 1) := by decide +kernel
theorem dX7_endBy_33 : decode cX7_endBy 33 = .ok (.ireturn, 1) := by decide +kernel
theorem dX7_endBy_34 : decode cX7_endBy 34 = .ok (.iload_n 1, 1) := by decide +kernel
theorem dX7_endBy_35 : decode cX7_endBy 35 = .ok (.iconst 1, 1) := by decide +kernel
theorem dX7_endBy_36 : decode cX7_endBy 36 = .ok (.iadd, 1) := by decide +kernel
theorem dX7_endBy_37 : decode cX7_endBy 37 = .ok (.iconst 2, 1) := by decide +kernel
theorem dX7_endBy_38 : decode cX7_endBy 38 = .ok (.irem, 1) := by decide +kernel
theorem dX7_endBy_39 : decode cX7_endBy 39 = .ok (.ireturn, 1) := by decide +kernel
theorem dX7_endBy_40 : decode cX7_endBy 40 = .ok (.iload_n 1, 1) := by decide +kernel
theorem dX7_endBy_41 : decode cX7_endBy 41 = .ok (.iconst 3, 1) := by decide +kernel
theorem dX7_endBy_42 : decode cX7_endBy 42 = .ok (.irem, 1) := by decide +kernel
theorem dX7_endBy_43 : decode cX7_endBy 43 = .ok (.ifCond .ne 7, 3) := by decide +kernel
theorem dX7_endBy_46 : decode cX7_endBy 46 = .ok (.iconst 1, 1) := by decide +kernel
theorem dX7_endBy_47 : decode cX7_endBy 47 = .ok (.goto 4, 3) := by decide +kernel
theorem dX7_endBy_50 : decode cX7_endBy 50 = .ok (.iconst 0, 1) := by decide +kernel
theorem dX7_endBy_51 : decode cX7_endBy 51 = .ok (.ireturn, 1) := by decide +kernel
theorem dX7_endBy_52 : decode cX7_endBy 52 = .ok (.iconst 0, 1) := by decide +kernel
theorem dX7_endBy_53 : decode cX7_endBy 53 = .ok (.ireturn, 1) := by decide +kernel
theorem dX7_walkNow_0 : decode cX7_walkNow 0 = .ok (.iconst 0, 1) := by decide +kernel
theorem dX7_walkNow_1 : decode cX7_walkNow 1 = .ok (.istore_n 2, 1) := by decide +kernel
theorem dX7_walkNow_2 : decode cX7_walkNow 2 = .ok (.iload_n 2, 1) := by decide +kernel
theorem dX7_walkNow_3 : decode cX7_walkNow 3 = .ok (.bipush 8, 2) := by decide +kernel
theorem dX7_walkNow_5 : decode cX7_walkNow 5 = .ok (.if_icmp .ge 16, 3) := by decide +kernel
theorem dX7_walkNow_8 : decode cX7_walkNow 8 = .ok (.aload_n 0, 1) := by decide +kernel
theorem dX7_walkNow_9 : decode cX7_walkNow 9 = .ok (.getfield 62, 3) := by decide +kernel
theorem dX7_walkNow_12 : decode cX7_walkNow 12 = .ok (.iload_n 2, 1) := by decide +kernel
theorem dX7_walkNow_13 : decode cX7_walkNow 13 = .ok (.iconst 0, 1) := by decide +kernel
theorem dX7_walkNow_14 : decode cX7_walkNow 14 = .ok (.iastore, 1) := by decide +kernel
theorem dX7_walkNow_15 : decode cX7_walkNow 15 = .ok (.iinc 2 1, 3) := by decide +kernel
theorem dX7_walkNow_18 : decode cX7_walkNow 18 = .ok (.goto (-16), 3) := by decide +kernel
theorem dX7_walkNow_21 : decode cX7_walkNow 21 = .ok (.aload_n 0, 1) := by decide +kernel
theorem dX7_walkNow_22 : decode cX7_walkNow 22 = .ok (.iconst 0, 1) := by decide +kernel
theorem dX7_walkNow_23 : decode cX7_walkNow 23 = .ok (.putfield 124, 3) := by decide +kernel
theorem dX7_walkNow_26 : decode cX7_walkNow 26 = .ok (.iconst 0, 1) := by decide +kernel
theorem dX7_walkNow_27 : decode cX7_walkNow 27 = .ok (.istore_n 2, 1) := by decide +kernel
theorem dX7_walkNow_28 : decode cX7_walkNow 28 = .ok (.iload_n 1, 1) := by decide +kernel
theorem dX7_walkNow_29 : decode cX7_walkNow 29 = .ok (.istore_n 3, 1) := by decide +kernel
theorem dX7_walkNow_30 : decode cX7_walkNow 30 = .ok (.iconst 1, 1) := by decide +kernel
theorem dX7_walkNow_31 : decode cX7_walkNow 31 = .ok (.istore 4, 2) := by decide +kernel
theorem dX7_walkNow_33 : decode cX7_walkNow 33 = .ok (.iload 4, 2) := by decide +kernel
theorem dX7_walkNow_35 : decode cX7_walkNow 35 = .ok (.ifCond .eq 112, 3) := by decide +kernel
theorem dX7_walkNow_38 : decode cX7_walkNow 38 = .ok (.aload_n 0, 1) := by decide +kernel
theorem dX7_walkNow_39 : decode cX7_walkNow 39 = .ok (.getfield 16, 3) := by decide +kernel
theorem dX7_walkNow_42 : decode cX7_walkNow 42 = .ok (.aload_n 0, 1) := by decide +kernel
theorem dX7_walkNow_43 : decode cX7_walkNow 43 = .ok (.getfield 124, 3) := by decide +kernel
theorem dX7_walkNow_46 : decode cX7_walkNow 46 = .ok (.iload_n 2, 1) := by decide +kernel
theorem dX7_walkNow_47 : decode cX7_walkNow 47 = .ok (.iastore, 1) := by decide +kernel
theorem dX7_walkNow_48 : decode cX7_walkNow 48 = .ok (.aload_n 0, 1) := by decide +kernel
theorem dX7_walkNow_49 : decode cX7_walkNow 49 = .ok (.dup, 1) := by decide +kernel
theorem dX7_walkNow_50 : decode cX7_walkNow 50 = .ok (.getfield 124, 3) := by decide +kernel
theorem dX7_walkNow_53 : decode cX7_walkNow 53 = .ok (.iconst 1, 1) := by decide +kernel
theorem dX7_walkNow_54 : decode cX7_walkNow 54 = .ok (.iadd, 1) := by decide +kernel
theorem dX7_walkNow_55 : decode cX7_walkNow 55 = .ok (.putfield 124, 3) := by decide +kernel
theorem dX7_walkNow_58 : decode cX7_walkNow 58 = .ok (.aload_n 0, 1) := by decide +kernel
theorem dX7_walkNow_59 : decode cX7_walkNow 59 = .ok (.getfield 62, 3) := by decide +kernel
theorem dX7_walkNow_62 : decode cX7_walkNow 62 = .ok (.iload_n 2, 1) := by decide +kernel
theorem dX7_walkNow_63 : decode cX7_walkNow 63 = .ok (.dup2, 1) := by decide +kernel
theorem dX7_walkNow_64 : decode cX7_walkNow 64 = .ok (.iaload, 1) := by decide +kernel
theorem dX7_walkNow_65 : decode cX7_walkNow 65 = .ok (.iconst 1, 1) := by decide +kernel
theorem dX7_walkNow_66 : decode cX7_walkNow 66 = .ok (.iadd, 1) := by decide +kernel
theorem dX7_walkNow_67 : decode cX7_walkNow 67 = .ok (.iastore, 1) := by decide +kernel
theorem dX7_walkNow_68 : decode cX7_walkNow 68 = .ok (.aload_n 0, 1) := by decide +kernel
theorem dX7_walkNow_69 : decode cX7_walkNow 69 = .ok (.getfield 7, 3) := by decide +kernel
theorem dX7_walkNow_72 : decode cX7_walkNow 72 = .ok (.iload_n 2, 1) := by decide +kernel
theorem dX7_walkNow_73 : decode cX7_walkNow 73 = .ok (.iaload, 1) := by decide +kernel
theorem dX7_walkNow_74 : decode cX7_walkNow 74 = .ok (.iconst 2, 1) := by decide +kernel
theorem dX7_walkNow_75 : decode cX7_walkNow 75 = .ok (.if_icmp .eq 16, 3) := by decide +kernel
theorem dX7_walkNow_78 : decode cX7_walkNow 78 = .ok (.aload_n 0, 1) := by decide +kernel
theorem dX7_walkNow_79 : decode cX7_walkNow 79 = .ok (.getfield 124, 3) := by decide +kernel
theorem dX7_walkNow_82 : decode cX7_walkNow 82 = .ok (.bipush 30, 2) := by decide +kernel
theorem dX7_walkNow_84 : decode cX7_walkNow 84 = .ok (.if_icmp .ge 7, 3) := by decide +kernel
theorem dX7_walkNow_87 : decode cX7_walkNow 87 = .ok (.iconst 1, 1) := by decide +kernel
theorem dX7_walkNow_88 : decode cX7_walkNow 88 = .ok (.goto 4, 3) := by decide +kernel
theorem dX7_walkNow_91 : decode cX7_walkNow 91 = .ok (.iconst 0, 1) := by decide +kernel
theorem dX7_walkNow_92 : decode cX7_walkNow 92 = .ok (.istore 4, 2) := by decide +kernel
theorem dX7_walkNow_94 : decode cX7_walkNow 94 = .ok (.aload_n 0, 1) := by decide +kernel
theorem dX7_walkNow_95 : decode cX7_walkNow 95 = .ok (.getfield 7, 3) := by decide +kernel
theorem dX7_walkNow_98 : decode cX7_walkNow 98 = .ok (.iload_n 2, 1) := by decide +kernel
theorem dX7_walkNow_99 : decode cX7_walkNow 99 = .ok (.iaload, 1) := by decide +kernel
theorem dX7_walkNow_100 : decode cX7_walkNow 100 = .ok (.aload_n 0, 1) := by decide +kernel
theorem dX7_walkNow_101 : decode cX7_walkNow 101 = .ok (.getfield 62, 3) := by decide +kernel
theorem dX7_walkNow_104 : decode cX7_walkNow 104 = .ok (.iload_n 2, 1) := by decide +kernel
theorem dX7_walkNow_105 : decode cX7_walkNow 105 = .ok (.iaload, 1) := by decide +kernel
theorem dX7_walkNow_106 : decode cX7_walkNow 106 = .ok (.iload_n 3, 1) := by decide +kernel
theorem dX7_walkNow_107 : decode cX7_walkNow 107 = .ok (.iconst 1, 1) := by decide +kernel
theorem dX7_walkNow_108 : decode cX7_walkNow 108 = .ok (.iand, 1) := by decide +kernel
theorem dX7_walkNow_109 : decode cX7_walkNow 109 = .ok (.invokestatic 220, 3) := by decide +kernel
theorem dX7_walkNow_112 : decode cX7_walkNow 112 = .ok (.istore 5, 2) := by decide +kernel
theorem dX7_walkNow_114 : decode cX7_walkNow 114 = .ok (.aload_n 0, 1) := by decide +kernel
theorem dX7_walkNow_115 : decode cX7_walkNow 115 = .ok (.getfield 7, 3) := by decide +kernel
theorem dX7_walkNow_118 : decode cX7_walkNow 118 = .ok (.iload_n 2, 1) := by decide +kernel
theorem dX7_walkNow_119 : decode cX7_walkNow 119 = .ok (.iaload, 1) := by decide +kernel
theorem dX7_walkNow_120 : decode cX7_walkNow 120 = .ok (.iconst 1, 1) := by decide +kernel
theorem dX7_walkNow_121 : decode cX7_walkNow 121 = .ok (.if_icmp .ne 9, 3) := by decide +kernel
theorem dX7_walkNow_124 : decode cX7_walkNow 124 = .ok (.iload_n 3, 1) := by decide +kernel
theorem dX7_walkNow_125 : decode cX7_walkNow 125 = .ok (.iconst 1, 1) := by decide +kernel
theorem dX7_walkNow_126 : decode cX7_walkNow 126 = .ok (.ishr, 1) := by decide +kernel
theorem dX7_walkNow_127 : decode cX7_walkNow 127 = .ok (.goto 4, 3) := by decide +kernel
theorem dX7_walkNow_130 : decode cX7_walkNow 130 = .ok (.iload_n 3, 1) := by decide +kernel
theorem dX7_walkNow_131 : decode cX7_walkNow 131 = .ok (.istore_n 3, 1) := by decide +kernel
theorem dX7_walkNow_132 : decode cX7_walkNow 132 = .ok (.aload_n 0, 1) := by decide +kernel
theorem dX7_walkNow_133 : decode cX7_walkNow 133 = .ok (.getfield 13, 3) := by decide +kernel
theorem dX7_walkNow_136 : decode cX7_walkNow 136 = .ok (.iconst 2, 1) := by decide +kernel
theorem dX7_walkNow_137 : decode cX7_walkNow 137 = .ok (.iload_n 2, 1) := by decide +kernel
theorem dX7_walkNow_138 : decode cX7_walkNow 138 = .ok (.imul, 1) := by decide +kernel
theorem dX7_walkNow_139 : decode cX7_walkNow 139 = .ok (.iload 5, 2) := by decide +kernel
theorem dX7_walkNow_141 : decode cX7_walkNow 141 = .ok (.iadd, 1) := by decide +kernel
theorem dX7_walkNow_142 : decode cX7_walkNow 142 = .ok (.iaload, 1) := by decide +kernel
theorem dX7_walkNow_143 : decode cX7_walkNow 143 = .ok (.istore_n 2, 1) := by decide +kernel
theorem dX7_walkNow_144 : decode cX7_walkNow 144 = .ok (.goto (-111), 3) := by decide +kernel
theorem dX7_walkNow_147 : decode cX7_walkNow 147 = .ok (.aload_n 0, 1) := by decide +kernel
theorem dX7_walkNow_148 : decode cX7_walkNow 148 = .ok (.getfield 124, 3) := by decide +kernel
theorem dX7_walkNow_151 : decode cX7_walkNow 151 = .ok (.ireturn, 1) := by decide +kernel
theorem dX7_walk_0 : decode cX7_walk 0 = .ok (.iload_n 1, 1) := by decide +kernel
theorem dX7_walk_1 : decode cX7_walk 1 = .ok (.ifCond .ge 6, 3) := by decide +kernel
theorem dX7_walk_4 : decode cX7_walk 4 = .ok (.bipush (-102), 2) := by decide +kernel
theorem dX7_walk_6 : decode cX7_walk 6 = .ok (.ireturn, 1) := by decide +kernel
theorem dX7_walk_7 : decode cX7_walk 7 = .ok (.aload_n 0, 1) := by decide +kernel
theorem dX7_walk_8 : decode cX7_walk 8 = .ok (.getfield 121, 3) := by decide +kernel
theorem dX7_walk_11 : decode cX7_walk 11 = .ok (.ifCond .ne 8, 3) := by decide +kernel
theorem dX7_walk_14 : decode cX7_walk 14 = .ok (.bipush (-103), 2) := by decide +kernel
theorem dX7_walk_16 : decode cX7_walk 16 = .ok (.goto 8, 3) := by decide +kernel
theorem dX7_walk_19 : decode cX7_walk 19 = .ok (.aload_n 0, 1) := by decide +kernel
theorem dX7_walk_20 : decode cX7_walk 20 = .ok (.iload_n 1, 1) := by decide +kernel
theorem dX7_walk_21 : decode cX7_walk 21 = .ok (.invokevirtual 224, 3) := by decide +kernel
theorem dX7_walk_24 : decode cX7_walk 24 = .ok (.ireturn, 1) := by decide +kernel
theorem dX7_visit_0 : decode cX7_visit 0 = .ok (.iload_n 1, 1) := by decide +kernel
theorem dX7_visit_1 : decode cX7_visit 1 = .ok (.iconst 0, 1) := by decide +kernel
theorem dX7_visit_2 : decode cX7_visit 2 = .ok (.aload_n 0, 1) := by decide +kernel
theorem dX7_visit_3 : decode cX7_visit 3 = .ok (.getfield 124, 3) := by decide +kernel
theorem dX7_visit_6 : decode cX7_visit 6 = .ok (.iconst 1, 1) := by decide +kernel
theorem dX7_visit_7 : decode cX7_visit 7 = .ok (.isub, 1) := by decide +kernel
theorem dX7_visit_8 : decode cX7_visit 8 = .ok (.invokestatic 89, 3) := by decide +kernel
theorem dX7_visit_11 : decode cX7_visit 11 = .ok (.ifCond .eq 12, 3) := by decide +kernel
theorem dX7_visit_14 : decode cX7_visit 14 = .ok (.aload_n 0, 1) := by decide +kernel
theorem dX7_visit_15 : decode cX7_visit 15 = .ok (.getfield 16, 3) := by decide +kernel
theorem dX7_visit_18 : decode cX7_visit 18 = .ok (.iload_n 1, 1) := by decide +kernel
theorem dX7_visit_19 : decode cX7_visit 19 = .ok (.iaload, 1) := by decide +kernel
theorem dX7_visit_20 : decode cX7_visit 20 = .ok (.goto 5, 3) := by decide +kernel
theorem dX7_visit_23 : decode cX7_visit 23 = .ok (.bipush (-101), 2) := by decide +kernel
theorem dX7_visit_25 : decode cX7_visit 25 = .ok (.ireturn, 1) := by decide +kernel
theorem dX7_tell_0 : decode cX7_tell 0 = .ok (.aload_n 0, 1) := by decide +kernel
theorem dX7_tell_1 : decode cX7_tell 1 = .ok (.getfield 65, 3) := by decide +kernel
theorem dX7_tell_4 : decode cX7_tell 4 = .ok (.aload_n 0, 1) := by decide +kernel
theorem dX7_tell_5 : decode cX7_tell 5 = .ok (.getfield 227, 3) := by decide +kernel
theorem dX7_tell_8 : decode cX7_tell 8 = .ok (.iload_n 1, 1) := by decide +kernel
theorem dX7_tell_9 : decode cX7_tell 9 = .ok (.iastore, 1) := by decide +kernel
theorem dX7_tell_10 : decode cX7_tell 10 = .ok (.aload_n 0, 1) := by decide +kernel
theorem dX7_tell_11 : decode cX7_tell 11 = .ok (.dup, 1) := by decide +kernel
theorem dX7_tell_12 : decode cX7_tell 12 = .ok (.getfield 227, 3) := by decide +kernel
theorem dX7_tell_15 : decode cX7_tell 15 = .ok (.iconst 1, 1) := by decide +kernel
theorem dX7_tell_16 : decode cX7_tell 16 = .ok (.iadd, 1) := by decide +kernel
theorem dX7_tell_17 : decode cX7_tell 17 = .ok (.putfield 227, 3) := by decide +kernel
theorem dX7_tell_20 : decode cX7_tell 20 = .ok (.return_, 1) := by decide +kernel
theorem dX7_later_0 : decode cX7_later 0 = .ok (.aload_n 0, 1) := by decide +kernel
theorem dX7_later_1 : decode cX7_later 1 = .ok (.getfield 68, 3) := by decide +kernel
theorem dX7_later_4 : decode cX7_later 4 = .ok (.aload_n 0, 1) := by decide +kernel
theorem dX7_later_5 : decode cX7_later 5 = .ok (.getfield 230, 3) := by decide +kernel
theorem dX7_later_8 : decode cX7_later 8 = .ok (.iload_n 1, 1) := by decide +kernel
theorem dX7_later_9 : decode cX7_later 9 = .ok (.iastore, 1) := by decide +kernel
theorem dX7_later_10 : decode cX7_later 10 = .ok (.aload_n 0, 1) := by decide +kernel
theorem dX7_later_11 : decode cX7_later 11 = .ok (.dup, 1) := by decide +kernel
theorem dX7_later_12 : decode cX7_later 12 = .ok (.getfield 230, 3) := by decide +kernel
theorem dX7_later_15 : decode cX7_later 15 = .ok (.iconst 1, 1) := by decide +kernel
theorem dX7_later_16 : decode cX7_later 16 = .ok (.iadd, 1) := by decide +kernel
theorem dX7_later_17 : decode cX7_later 17 = .ok (.putfield 230, 3) := by decide +kernel
theorem dX7_later_20 : decode cX7_later 20 = .ok (.return_, 1) := by decide +kernel
theorem dX7_opens_0 : decode cX7_opens 0 = .ok (.aload_n 0, 1) := by decide +kernel
theorem dX7_opens_1 : decode cX7_opens 1 = .ok (.getfield 71, 3) := by decide +kernel
theorem dX7_opens_4 : decode cX7_opens 4 = .ok (.aload_n 0, 1) := by decide +kernel
theorem dX7_opens_5 : decode cX7_opens 5 = .ok (.getfield 233, 3) := by decide +kernel
theorem dX7_opens_8 : decode cX7_opens 8 = .ok (.iload_n 1, 1) := by decide +kernel
theorem dX7_opens_9 : decode cX7_opens 9 = .ok (.iastore, 1) := by decide +kernel
theorem dX7_opens_10 : decode cX7_opens 10 = .ok (.aload_n 0, 1) := by decide +kernel
theorem dX7_opens_11 : decode cX7_opens 11 = .ok (.dup, 1) := by decide +kernel
theorem dX7_opens_12 : decode cX7_opens 12 = .ok (.getfield 233, 3) := by decide +kernel
theorem dX7_opens_15 : decode cX7_opens 15 = .ok (.iconst 1, 1) := by decide +kernel
theorem dX7_opens_16 : decode cX7_opens 16 = .ok (.iadd, 1) := by decide +kernel
theorem dX7_opens_17 : decode cX7_opens 17 = .ok (.putfield 233, 3) := by decide +kernel
theorem dX7_opens_20 : decode cX7_opens 20 = .ok (.aload_n 0, 1) := by decide +kernel
theorem dX7_opens_21 : decode cX7_opens 21 = .ok (.aload_n 0, 1) := by decide +kernel
theorem dX7_opens_22 : decode cX7_opens 22 = .ok (.getfield 233, 3) := by decide +kernel
theorem dX7_opens_25 : decode cX7_opens 25 = .ok (.aload_n 0, 1) := by decide +kernel
theorem dX7_opens_26 : decode cX7_opens 26 = .ok (.getfield 236, 3) := by decide +kernel
theorem dX7_opens_29 : decode cX7_opens 29 = .ok (.if_icmp .le 10, 3) := by decide +kernel
theorem dX7_opens_32 : decode cX7_opens 32 = .ok (.aload_n 0, 1) := by decide +kernel
theorem dX7_opens_33 : decode cX7_opens 33 = .ok (.getfield 233, 3) := by decide +kernel
theorem dX7_opens_36 : decode cX7_opens 36 = .ok (.goto 7, 3) := by decide +kernel
theorem dX7_opens_39 : decode cX7_opens 39 = .ok (.aload_n 0, 1) := by decide +kernel
theorem dX7_opens_40 : decode cX7_opens 40 = .ok (.getfield 236, 3) := by decide +kernel
theorem dX7_opens_43 : decode cX7_opens 43 = .ok (.putfield 236, 3) := by decide +kernel
theorem dX7_opens_46 : decode cX7_opens 46 = .ok (.return_, 1) := by decide +kernel
theorem dX7_depthOf_0 : decode cX7_depthOf 0 = .ok (.aload_n 0, 1) := by decide +kernel
theorem dX7_depthOf_1 : decode cX7_depthOf 1 = .ok (.getfield 233, 3) := by decide +kernel
theorem dX7_depthOf_4 : decode cX7_depthOf 4 = .ok (.iconst 1, 1) := by decide +kernel
theorem dX7_depthOf_5 : decode cX7_depthOf 5 = .ok (.isub, 1) := by decide +kernel
theorem dX7_depthOf_6 : decode cX7_depthOf 6 = .ok (.istore_n 2, 1) := by decide +kernel
theorem dX7_depthOf_7 : decode cX7_depthOf 7 = .ok (.aload_n 0, 1) := by decide +kernel
theorem dX7_depthOf_8 : decode cX7_depthOf 8 = .ok (.getfield 71, 3) := by decide +kernel
theorem dX7_depthOf_11 : decode cX7_depthOf 11 = .ok (.iload_n 2, 1) := by decide +kernel
theorem dX7_depthOf_12 : decode cX7_depthOf 12 = .ok (.iaload, 1) := by decide +kernel
theorem dX7_depthOf_13 : decode cX7_depthOf 13 = .ok (.iload_n 1, 1) := by decide +kernel
theorem dX7_depthOf_14 : decode cX7_depthOf 14 = .ok (.if_icmp .eq 9, 3) := by decide +kernel
theorem dX7_depthOf_17 : decode cX7_depthOf 17 = .ok (.iinc 2 (-1), 3) := by decide +kernel
theorem dX7_depthOf_20 : decode cX7_depthOf 20 = .ok (.goto (-13), 3) := by decide +kernel
theorem dX7_depthOf_23 : decode cX7_depthOf 23 = .ok (.aload_n 0, 1) := by decide +kernel
theorem dX7_depthOf_24 : decode cX7_depthOf 24 = .ok (.getfield 233, 3) := by decide +kernel
theorem dX7_depthOf_27 : decode cX7_depthOf 27 = .ok (.iconst 1, 1) := by decide +kernel
theorem dX7_depthOf_28 : decode cX7_depthOf 28 = .ok (.isub, 1) := by decide +kernel
theorem dX7_depthOf_29 : decode cX7_depthOf 29 = .ok (.iload_n 2, 1) := by decide +kernel
theorem dX7_depthOf_30 : decode cX7_depthOf 30 = .ok (.isub, 1) := by decide +kernel
theorem dX7_depthOf_31 : decode cX7_depthOf 31 = .ok (.ireturn, 1) := by decide +kernel
theorem dX7_goOut_0 : decode cX7_goOut 0 = .ok (.aload_n 0, 1) := by decide +kernel
theorem dX7_goOut_1 : decode cX7_goOut 1 = .ok (.iload_n 2, 1) := by decide +kernel
theorem dX7_goOut_2 : decode cX7_goOut 2 = .ok (.invokevirtual 239, 3) := by decide +kernel
theorem dX7_goOut_5 : decode cX7_goOut 5 = .ok (.istore_n 3, 1) := by decide +kernel
theorem dX7_goOut_6 : decode cX7_goOut 6 = .ok (.aload_n 0, 1) := by decide +kernel
theorem dX7_goOut_7 : decode cX7_goOut 7 = .ok (.iload_n 1, 1) := by decide +kernel
theorem dX7_goOut_8 : decode cX7_goOut 8 = .ok (.iload_n 3, 1) := by decide +kernel
theorem dX7_goOut_9 : decode cX7_goOut 9 = .ok (.iadd, 1) := by decide +kernel
theorem dX7_goOut_10 : decode cX7_goOut 10 = .ok (.invokevirtual 242, 3) := by decide +kernel
theorem dX7_goOut_13 : decode cX7_goOut 13 = .ok (.aload_n 0, 1) := by decide +kernel
theorem dX7_goOut_14 : decode cX7_goOut 14 = .ok (.dup, 1) := by decide +kernel
theorem dX7_goOut_15 : decode cX7_goOut 15 = .ok (.getfield 246, 3) := by decide +kernel
theorem dX7_goOut_18 : decode cX7_goOut 18 = .ok (.iconst 1, 1) := by decide +kernel
theorem dX7_goOut_19 : decode cX7_goOut 19 = .ok (.iadd, 1) := by decide +kernel
theorem dX7_goOut_20 : decode cX7_goOut 20 = .ok (.putfield 246, 3) := by decide +kernel
theorem dX7_goOut_23 : decode cX7_goOut 23 = .ok (.aload_n 0, 1) := by decide +kernel
theorem dX7_goOut_24 : decode cX7_goOut 24 = .ok (.dup, 1) := by decide +kernel
theorem dX7_goOut_25 : decode cX7_goOut 25 = .ok (.getfield 249, 3) := by decide +kernel
theorem dX7_goOut_28 : decode cX7_goOut 28 = .ok (.iload_n 3, 1) := by decide +kernel
theorem dX7_goOut_29 : decode cX7_goOut 29 = .ok (.iadd, 1) := by decide +kernel
theorem dX7_goOut_30 : decode cX7_goOut 30 = .ok (.putfield 249, 3) := by decide +kernel
theorem dX7_goOut_33 : decode cX7_goOut 33 = .ok (.return_, 1) := by decide +kernel
theorem dX7_isBlock_0 : decode cX7_isBlock 0 = .ok (.aload_n 0, 1) := by decide +kernel
theorem dX7_isBlock_1 : decode cX7_isBlock 1 = .ok (.getfield 53, 3) := by decide +kernel
theorem dX7_isBlock_4 : decode cX7_isBlock 4 = .ok (.iload_n 2, 1) := by decide +kernel
theorem dX7_isBlock_5 : decode cX7_isBlock 5 = .ok (.iaload, 1) := by decide +kernel
theorem dX7_isBlock_6 : decode cX7_isBlock 6 = .ok (.iload_n 1, 1) := by decide +kernel
theorem dX7_isBlock_7 : decode cX7_isBlock 7 = .ok (.if_icmp .ne 29, 3) := by decide +kernel
theorem dX7_isBlock_10 : decode cX7_isBlock 10 = .ok (.aload_n 0, 1) := by decide +kernel
theorem dX7_isBlock_11 : decode cX7_isBlock 11 = .ok (.getfield 171, 3) := by decide +kernel
theorem dX7_isBlock_14 : decode cX7_isBlock 14 = .ok (.iload_n 2, 1) := by decide +kernel
theorem dX7_isBlock_15 : decode cX7_isBlock 15 = .ok (.invokestatic 139, 3) := by decide +kernel
theorem dX7_isBlock_18 : decode cX7_isBlock 18 = .ok (.ifCond .eq 18, 3) := by decide +kernel
theorem dX7_isBlock_21 : decode cX7_isBlock 21 = .ok (.aload_n 0, 1) := by decide +kernel
theorem dX7_isBlock_22 : decode cX7_isBlock 22 = .ok (.getfield 143, 3) := by decide +kernel
theorem dX7_isBlock_25 : decode cX7_isBlock 25 = .ok (.iload_n 2, 1) := by decide +kernel
theorem dX7_isBlock_26 : decode cX7_isBlock 26 = .ok (.invokestatic 139, 3) := by decide +kernel
theorem dX7_isBlock_29 : decode cX7_isBlock 29 = .ok (.ifCond .eq 7, 3) := by decide +kernel
theorem dX7_isBlock_32 : decode cX7_isBlock 32 = .ok (.iconst 1, 1) := by decide +kernel
theorem dX7_isBlock_33 : decode cX7_isBlock 33 = .ok (.goto 4, 3) := by decide +kernel
theorem dX7_isBlock_36 : decode cX7_isBlock 36 = .ok (.iconst 0, 1) := by decide +kernel
theorem dX7_isBlock_37 : decode cX7_isBlock 37 = .ok (.ireturn, 1) := by decide +kernel
theorem dX7_layWithin_0 : decode cX7_layWithin 0 = .ok (.aload_n 0, 1) := by decide +kernel
theorem dX7_layWithin_1 : decode cX7_layWithin 1 = .ok (.getfield 150, 3) := by decide +kernel
theorem dX7_layWithin_4 : decode cX7_layWithin 4 = .ok (.iconst 1, 1) := by decide +kernel
theorem dX7_layWithin_5 : decode cX7_layWithin 5 = .ok (.isub, 1) := by decide +kernel
theorem dX7_layWithin_6 : decode cX7_layWithin 6 = .ok (.istore_n 2, 1) := by decide +kernel
theorem dX7_layWithin_7 : decode cX7_layWithin 7 = .ok (.iload_n 2, 1) := by decide +kernel
theorem dX7_layWithin_8 : decode cX7_layWithin 8 = .ok (.ifCond .lt 44, 3) := by decide +kernel
theorem dX7_layWithin_11 : decode cX7_layWithin 11 = .ok (.aload_n 0, 1) := by decide +kernel
theorem dX7_layWithin_12 : decode cX7_layWithin 12 = .ok (.iload_n 1, 1) := by decide +kernel
theorem dX7_layWithin_13 : decode cX7_layWithin 13 = .ok (.aload_n 0, 1) := by decide +kernel
theorem dX7_layWithin_14 : decode cX7_layWithin 14 = .ok (.getfield 44, 3) := by decide +kernel
theorem dX7_layWithin_17 : decode cX7_layWithin 17 = .ok (.iload_n 2, 1) := by decide +kernel
theorem dX7_layWithin_18 : decode cX7_layWithin 18 = .ok (.iaload, 1) := by decide +kernel
theorem dX7_layWithin_19 : decode cX7_layWithin 19 = .ok (.invokevirtual 252, 3) := by decide +kernel
theorem dX7_layWithin_22 : decode cX7_layWithin 22 = .ok (.ifCond .eq 24, 3) := by decide +kernel
theorem dX7_layWithin_25 : decode cX7_layWithin 25 = .ok (.aload_n 0, 1) := by decide +kernel
theorem dX7_layWithin_26 : decode cX7_layWithin 26 = .ok (.sipush 1000, 3) := by decide +kernel
theorem dX7_layWithin_29 : decode cX7_layWithin 29 = .ok (.aload_n 0, 1) := by decide +kernel
theorem dX7_layWithin_30 : decode cX7_layWithin 30 = .ok (.getfield 44, 3) := by decide +kernel
theorem dX7_layWithin_33 : decode cX7_layWithin 33 = .ok (.iload_n 2, 1) := by decide +kernel
theorem dX7_layWithin_34 : decode cX7_layWithin 34 = .ok (.iaload, 1) := by decide +kernel
theorem dX7_layWithin_35 : decode cX7_layWithin 35 = .ok (.iadd, 1) := by decide +kernel
theorem dX7_layWithin_36 : decode cX7_layWithin 36 = .ok (.invokevirtual 255, 3) := by decide +kernel
theorem dX7_layWithin_39 : decode cX7_layWithin 39 = .ok (.aload_n 0, 1) := by decide +kernel
theorem dX7_layWithin_40 : decode cX7_layWithin 40 = .ok (.sipush 6301, 3) := by decide +kernel
theorem dX7_layWithin_43 : decode cX7_layWithin 43 = .ok (.invokevirtual 255, 3) := by decide +kernel
theorem dX7_layWithin_46 : decode cX7_layWithin 46 = .ok (.iinc 2 (-1), 3) := by decide +kernel
theorem dX7_layWithin_49 : decode cX7_layWithin 49 = .ok (.goto (-42), 3) := by decide +kernel
theorem dX7_layWithin_52 : decode cX7_layWithin 52 = .ok (.aload_n 0, 1) := by decide +kernel
theorem dX7_layWithin_53 : decode cX7_layWithin 53 = .ok (.getfield 38, 3) := by decide +kernel
theorem dX7_layWithin_56 : decode cX7_layWithin 56 = .ok (.iload_n 1, 1) := by decide +kernel
theorem dX7_layWithin_57 : decode cX7_layWithin 57 = .ok (.iaload, 1) := by decide +kernel
theorem dX7_layWithin_58 : decode cX7_layWithin 58 = .ok (.invokestatic 114, 3) := by decide +kernel
theorem dX7_layWithin_61 : decode cX7_layWithin 61 = .ok (.istore_n 2, 1) := by decide +kernel
theorem dX7_layWithin_62 : decode cX7_layWithin 62 = .ok (.iload_n 2, 1) := by decide +kernel
theorem dX7_layWithin_63 : decode cX7_layWithin 63 = .ok (.iconst 1, 1) := by decide +kernel
theorem dX7_layWithin_64 : decode cX7_layWithin 64 = .ok (.if_icmp .le 30, 3) := by decide +kernel
theorem dX7_layWithin_67 : decode cX7_layWithin 67 = .ok (.aload_n 0, 1) := by decide +kernel
theorem dX7_layWithin_68 : decode cX7_layWithin 68 = .ok (.sipush 401, 3) := by decide +kernel
theorem dX7_layWithin_71 : decode cX7_layWithin 71 = .ok (.invokevirtual 255, 3) := by decide +kernel
theorem dX7_layWithin_74 : decode cX7_layWithin 74 = .ok (.aload_n 0, 1) := by decide +kernel
theorem dX7_layWithin_75 : decode cX7_layWithin 75 = .ok (.sipush 3000, 3) := by decide +kernel
theorem dX7_layWithin_78 : decode cX7_layWithin 78 = .ok (.iconst 2, 1) := by decide +kernel
theorem dX7_layWithin_79 : decode cX7_layWithin 79 = .ok (.iload_n 1, 1) := by decide +kernel
theorem dX7_layWithin_80 : decode cX7_layWithin 80 = .ok (.imul, 1) := by decide +kernel
theorem dX7_layWithin_81 : decode cX7_layWithin 81 = .ok (.iadd, 1) := by decide +kernel
theorem dX7_layWithin_82 : decode cX7_layWithin 82 = .ok (.iconst 1, 1) := by decide +kernel
theorem dX7_layWithin_83 : decode cX7_layWithin 83 = .ok (.iadd, 1) := by decide +kernel
theorem dX7_layWithin_84 : decode cX7_layWithin 84 = .ok (.invokevirtual 255, 3) := by decide +kernel
theorem dX7_layWithin_87 : decode cX7_layWithin 87 = .ok (.aload_n 0, 1) := by decide +kernel
theorem dX7_layWithin_88 : decode cX7_layWithin 88 = .ok (.sipush 400, 3) := by decide +kernel
theorem dX7_layWithin_91 : decode cX7_layWithin 91 = .ok (.invokevirtual 255, 3) := by decide +kernel
theorem dX7_layWithin_94 : decode cX7_layWithin 94 = .ok (.iload_n 2, 1) := by decide +kernel
theorem dX7_layWithin_95 : decode cX7_layWithin 95 = .ok (.ifCond .le 14, 3) := by decide +kernel
theorem dX7_layWithin_98 : decode cX7_layWithin 98 = .ok (.aload_n 0, 1) := by decide +kernel
theorem dX7_layWithin_99 : decode cX7_layWithin 99 = .ok (.sipush 3000, 3) := by decide +kernel
theorem dX7_layWithin_102 : decode cX7_layWithin 102 = .ok (.iconst 2, 1) := by decide +kernel
theorem dX7_layWithin_103 : decode cX7_layWithin 103 = .ok (.iload_n 1, 1) := by decide +kernel
theorem dX7_layWithin_104 : decode cX7_layWithin 104 = .ok (.imul, 1) := by decide +kernel
theorem dX7_layWithin_105 : decode cX7_layWithin 105 = .ok (.iadd, 1) := by decide +kernel
theorem dX7_layWithin_106 : decode cX7_layWithin 106 = .ok (.invokevirtual 255, 3) := by decide +kernel
theorem dX7_layWithin_109 : decode cX7_layWithin 109 = .ok (.aload_n 0, 1) := by decide +kernel
theorem dX7_layWithin_110 : decode cX7_layWithin 110 = .ok (.iload_n 1, 1) := by decide +kernel
theorem dX7_layWithin_111 : decode cX7_layWithin 111 = .ok (.invokevirtual 255, 3) := by decide +kernel
theorem dX7_layWithin_114 : decode cX7_layWithin 114 = .ok (.iconst 0, 1) := by decide +kernel
theorem dX7_layWithin_115 : decode cX7_layWithin 115 = .ok (.istore_n 3, 1) := by decide +kernel
theorem dX7_layWithin_116 : decode cX7_layWithin 116 = .ok (.iload_n 3, 1) := by decide +kernel
theorem dX7_layWithin_117 : decode cX7_layWithin 117 = .ok (.aload_n 0, 1) := by decide +kernel
theorem dX7_layWithin_118 : decode cX7_layWithin 118 = .ok (.getfield 150, 3) := by decide +kernel
theorem dX7_layWithin_121 : decode cX7_layWithin 121 = .ok (.if_icmp .ge 37, 3) := by decide +kernel
theorem dX7_layWithin_124 : decode cX7_layWithin 124 = .ok (.aload_n 0, 1) := by decide +kernel
theorem dX7_layWithin_125 : decode cX7_layWithin 125 = .ok (.iload_n 1, 1) := by decide +kernel
theorem dX7_layWithin_126 : decode cX7_layWithin 126 = .ok (.aload_n 0, 1) := by decide +kernel
theorem dX7_layWithin_127 : decode cX7_layWithin 127 = .ok (.getfield 44, 3) := by decide +kernel
theorem dX7_layWithin_130 : decode cX7_layWithin 130 = .ok (.iload_n 3, 1) := by decide +kernel
theorem dX7_layWithin_131 : decode cX7_layWithin 131 = .ok (.iaload, 1) := by decide +kernel
theorem dX7_layWithin_132 : decode cX7_layWithin 132 = .ok (.invokevirtual 252, 3) := by decide +kernel
theorem dX7_layWithin_135 : decode cX7_layWithin 135 = .ok (.ifCond .eq 17, 3) := by decide +kernel
theorem dX7_layWithin_138 : decode cX7_layWithin 138 = .ok (.aload_n 0, 1) := by decide +kernel
theorem dX7_layWithin_139 : decode cX7_layWithin 139 = .ok (.sipush 5000, 3) := by decide +kernel
theorem dX7_layWithin_142 : decode cX7_layWithin 142 = .ok (.aload_n 0, 1) := by decide +kernel
theorem dX7_layWithin_143 : decode cX7_layWithin 143 = .ok (.getfield 44, 3) := by decide +kernel
theorem dX7_layWithin_146 : decode cX7_layWithin 146 = .ok (.iload_n 3, 1) := by decide +kernel
theorem dX7_layWithin_147 : decode cX7_layWithin 147 = .ok (.iaload, 1) := by decide +kernel
theorem dX7_layWithin_148 : decode cX7_layWithin 148 = .ok (.iadd, 1) := by decide +kernel
theorem dX7_layWithin_149 : decode cX7_layWithin 149 = .ok (.invokevirtual 255, 3) := by decide +kernel
theorem dX7_layWithin_152 : decode cX7_layWithin 152 = .ok (.iinc 3 1, 3) := by decide +kernel
theorem dX7_layWithin_155 : decode cX7_layWithin 155 = .ok (.goto (-39), 3) := by decide +kernel
theorem dX7_layWithin_158 : decode cX7_layWithin 158 = .ok (.return_, 1) := by decide +kernel
theorem dX7_layTree_0 : decode cX7_layTree 0 = .ok (.aload_n 0, 1) := by decide +kernel
theorem dX7_layTree_1 : decode cX7_layTree 1 = .ok (.getfield 168, 3) := by decide +kernel
theorem dX7_layTree_4 : decode cX7_layTree 4 = .ok (.iload_n 1, 1) := by decide +kernel
theorem dX7_layTree_5 : decode cX7_layTree 5 = .ok (.invokestatic 139, 3) := by decide +kernel
theorem dX7_layTree_8 : decode cX7_layTree 8 = .ok (.ifCond .eq 31, 3) := by decide +kernel
theorem dX7_layTree_11 : decode cX7_layTree 11 = .ok (.aload_n 0, 1) := by decide +kernel
theorem dX7_layTree_12 : decode cX7_layTree 12 = .ok (.sipush 6300, 3) := by decide +kernel
theorem dX7_layTree_15 : decode cX7_layTree 15 = .ok (.invokevirtual 255, 3) := by decide +kernel
theorem dX7_layTree_18 : decode cX7_layTree 18 = .ok (.aload_n 0, 1) := by decide +kernel
theorem dX7_layTree_19 : decode cX7_layTree 19 = .ok (.sipush 2000, 3) := by decide +kernel
theorem dX7_layTree_22 : decode cX7_layTree 22 = .ok (.iload_n 1, 1) := by decide +kernel
theorem dX7_layTree_23 : decode cX7_layTree 23 = .ok (.iadd, 1) := by decide +kernel
theorem dX7_layTree_24 : decode cX7_layTree 24 = .ok (.invokevirtual 255, 3) := by decide +kernel
theorem dX7_layTree_27 : decode cX7_layTree 27 = .ok (.aload_n 0, 1) := by decide +kernel
theorem dX7_layTree_28 : decode cX7_layTree 28 = .ok (.sipush 4000, 3) := by decide +kernel
theorem dX7_layTree_31 : decode cX7_layTree 31 = .ok (.iload_n 1, 1) := by decide +kernel
theorem dX7_layTree_32 : decode cX7_layTree 32 = .ok (.iadd, 1) := by decide +kernel
theorem dX7_layTree_33 : decode cX7_layTree 33 = .ok (.invokevirtual 255, 3) := by decide +kernel
theorem dX7_layTree_36 : decode cX7_layTree 36 = .ok (.goto 12, 3) := by decide +kernel
theorem dX7_layTree_39 : decode cX7_layTree 39 = .ok (.aload_n 0, 1) := by decide +kernel
theorem dX7_layTree_40 : decode cX7_layTree 40 = .ok (.sipush 2000, 3) := by decide +kernel
theorem dX7_layTree_43 : decode cX7_layTree 43 = .ok (.iload_n 1, 1) := by decide +kernel
theorem dX7_layTree_44 : decode cX7_layTree 44 = .ok (.iadd, 1) := by decide +kernel
theorem dX7_layTree_45 : decode cX7_layTree 45 = .ok (.invokevirtual 255, 3) := by decide +kernel
theorem dX7_layTree_48 : decode cX7_layTree 48 = .ok (.return_, 1) := by decide +kernel
theorem dX7_branch_0 : decode cX7_branch 0 = .ok (.aload_n 0, 1) := by decide +kernel
theorem dX7_branch_1 : decode cX7_branch 1 = .ok (.getfield 41, 3) := by decide +kernel
theorem dX7_branch_4 : decode cX7_branch 4 = .ok (.iload_n 1, 1) := by decide +kernel
theorem dX7_branch_5 : decode cX7_branch 5 = .ok (.iaload, 1) := by decide +kernel
theorem dX7_branch_6 : decode cX7_branch 6 = .ok (.istore_n 2, 1) := by decide +kernel
theorem dX7_branch_7 : decode cX7_branch 7 = .ok (.aload_n 0, 1) := by decide +kernel
theorem dX7_branch_8 : decode cX7_branch 8 = .ok (.iload_n 1, 1) := by decide +kernel
theorem dX7_branch_9 : decode cX7_branch 9 = .ok (.invokevirtual 180, 3) := by decide +kernel
theorem dX7_branch_12 : decode cX7_branch 12 = .ok (.ifCond .eq 18, 3) := by decide +kernel
theorem dX7_branch_15 : decode cX7_branch 15 = .ok (.aload_n 0, 1) := by decide +kernel
theorem dX7_branch_16 : decode cX7_branch 16 = .ok (.sipush 500, 3) := by decide +kernel
theorem dX7_branch_19 : decode cX7_branch 19 = .ok (.sipush 4000, 3) := by decide +kernel
theorem dX7_branch_22 : decode cX7_branch 22 = .ok (.iload_n 2, 1) := by decide +kernel
theorem dX7_branch_23 : decode cX7_branch 23 = .ok (.iadd, 1) := by decide +kernel
theorem dX7_branch_24 : decode cX7_branch 24 = .ok (.invokevirtual 258, 3) := by decide +kernel
theorem dX7_branch_27 : decode cX7_branch 27 = .ok (.goto 38, 3) := by decide +kernel
theorem dX7_branch_30 : decode cX7_branch 30 = .ok (.aload_n 0, 1) := by decide +kernel
theorem dX7_branch_31 : decode cX7_branch 31 = .ok (.getfield 171, 3) := by decide +kernel
theorem dX7_branch_34 : decode cX7_branch 34 = .ok (.iload_n 2, 1) := by decide +kernel
theorem dX7_branch_35 : decode cX7_branch 35 = .ok (.invokestatic 139, 3) := by decide +kernel
theorem dX7_branch_38 : decode cX7_branch 38 = .ok (.ifCond .eq 18, 3) := by decide +kernel
theorem dX7_branch_41 : decode cX7_branch 41 = .ok (.aload_n 0, 1) := by decide +kernel
theorem dX7_branch_42 : decode cX7_branch 42 = .ok (.sipush 600, 3) := by decide +kernel
theorem dX7_branch_45 : decode cX7_branch 45 = .ok (.sipush 5000, 3) := by decide +kernel
theorem dX7_branch_48 : decode cX7_branch 48 = .ok (.iload_n 2, 1) := by decide +kernel
theorem dX7_branch_49 : decode cX7_branch 49 = .ok (.iadd, 1) := by decide +kernel
theorem dX7_branch_50 : decode cX7_branch 50 = .ok (.invokevirtual 258, 3) := by decide +kernel
theorem dX7_branch_53 : decode cX7_branch 53 = .ok (.goto 12, 3) := by decide +kernel
theorem dX7_branch_56 : decode cX7_branch 56 = .ok (.aload_n 0, 1) := by decide +kernel
theorem dX7_branch_57 : decode cX7_branch 57 = .ok (.sipush 1000, 3) := by decide +kernel
theorem dX7_branch_60 : decode cX7_branch 60 = .ok (.iload_n 2, 1) := by decide +kernel
theorem dX7_branch_61 : decode cX7_branch 61 = .ok (.iadd, 1) := by decide +kernel
theorem dX7_branch_62 : decode cX7_branch 62 = .ok (.invokevirtual 255, 3) := by decide +kernel
theorem dX7_branch_65 : decode cX7_branch 65 = .ok (.return_, 1) := by decide +kernel
theorem dX7_doNext_0 : decode cX7_doNext 0 = .ok (.iload_n 1, 1) := by decide +kernel
theorem dX7_doNext_1 : decode cX7_doNext 1 = .ok (.sipush 1000, 3) := by decide +kernel
theorem dX7_doNext_4 : decode cX7_doNext 4 = .ok (.idiv, 1) := by decide +kernel
theorem dX7_doNext_5 : decode cX7_doNext 5 = .ok (.sipush 1000, 3) := by decide +kernel
theorem dX7_doNext_8 : decode cX7_doNext 8 = .ok (.imul, 1) := by decide +kernel
theorem dX7_doNext_9 : decode cX7_doNext 9 = .ok (.istore_n 2, 1) := by decide +kernel
theorem dX7_doNext_10 : decode cX7_doNext 10 = .ok (.iload_n 1, 1) := by decide +kernel
theorem dX7_doNext_11 : decode cX7_doNext 11 = .ok (.sipush 1000, 3) := by decide +kernel
theorem dX7_doNext_14 : decode cX7_doNext 14 = .ok (.irem, 1) := by decide +kernel
theorem dX7_doNext_15 : decode cX7_doNext 15 = .ok (.istore_n 3, 1) := by decide +kernel
theorem dX7_doNext_16 : decode cX7_doNext 16 = .ok (.iload_n 2, 1) := by decide +kernel
theorem dX7_doNext_17 : decode cX7_doNext 17 = .ok (.lookupswitch 134 #[(1000, 59), (2000, 67), (3000, 75), (4000, 83), (5000, 99), (6000, 116)], 59) := by decide +kernel
theorem dX7_doNext_76 : decode cX7_doNext 76 = .ok (.aload_n 0, 1) := by decide +kernel
theorem dX7_doNext_77 : decode cX7_doNext 77 = .ok (.iload_n 3, 1) := by decide +kernel
theorem dX7_doNext_78 : decode cX7_doNext 78 = .ok (.invokevirtual 262, 3) := by decide +kernel
theorem dX7_doNext_81 : decode cX7_doNext 81 = .ok (.goto 75, 3) := by decide +kernel
theorem dX7_doNext_84 : decode cX7_doNext 84 = .ok (.aload_n 0, 1) := by decide +kernel
theorem dX7_doNext_85 : decode cX7_doNext 85 = .ok (.iload_n 3, 1) := by decide +kernel
theorem dX7_doNext_86 : decode cX7_doNext 86 = .ok (.invokevirtual 265, 3) := by decide +kernel
theorem dX7_doNext_89 : decode cX7_doNext 89 = .ok (.goto 67, 3) := by decide +kernel
theorem dX7_doNext_92 : decode cX7_doNext 92 = .ok (.aload_n 0, 1) := by decide +kernel
theorem dX7_doNext_93 : decode cX7_doNext 93 = .ok (.iload_n 3, 1) := by decide +kernel
theorem dX7_doNext_94 : decode cX7_doNext 94 = .ok (.invokevirtual 268, 3) := by decide +kernel
theorem dX7_doNext_97 : decode cX7_doNext 97 = .ok (.goto 59, 3) := by decide +kernel
theorem dX7_doNext_100 : decode cX7_doNext 100 = .ok (.aload_n 0, 1) := by decide +kernel
theorem dX7_doNext_101 : decode cX7_doNext 101 = .ok (.bipush 100, 2) := by decide +kernel
theorem dX7_doNext_103 : decode cX7_doNext 103 = .ok (.iload_n 3, 1) := by decide +kernel
theorem dX7_doNext_104 : decode cX7_doNext 104 = .ok (.iadd, 1) := by decide +kernel
theorem dX7_doNext_105 : decode cX7_doNext 105 = .ok (.invokevirtual 242, 3) := by decide +kernel
theorem dX7_doNext_108 : decode cX7_doNext 108 = .ok (.aload_n 0, 1) := by decide +kernel
theorem dX7_doNext_109 : decode cX7_doNext 109 = .ok (.iload_n 1, 1) := by decide +kernel
theorem dX7_doNext_110 : decode cX7_doNext 110 = .ok (.invokevirtual 271, 3) := by decide +kernel
theorem dX7_doNext_113 : decode cX7_doNext 113 = .ok (.goto 43, 3) := by decide +kernel
theorem dX7_doNext_116 : decode cX7_doNext 116 = .ok (.aload_n 0, 1) := by decide +kernel
theorem dX7_doNext_117 : decode cX7_doNext 117 = .ok (.sipush 200, 3) := by decide +kernel
theorem dX7_doNext_120 : decode cX7_doNext 120 = .ok (.iload_n 3, 1) := by decide +kernel
theorem dX7_doNext_121 : decode cX7_doNext 121 = .ok (.iadd, 1) := by decide +kernel
theorem dX7_doNext_122 : decode cX7_doNext 122 = .ok (.invokevirtual 242, 3) := by decide +kernel
theorem dX7_doNext_125 : decode cX7_doNext 125 = .ok (.aload_n 0, 1) := by decide +kernel
theorem dX7_doNext_126 : decode cX7_doNext 126 = .ok (.iload_n 1, 1) := by decide +kernel
theorem dX7_doNext_127 : decode cX7_doNext 127 = .ok (.invokevirtual 271, 3) := by decide +kernel
theorem dX7_doNext_130 : decode cX7_doNext 130 = .ok (.goto 26, 3) := by decide +kernel
theorem dX7_doNext_133 : decode cX7_doNext 133 = .ok (.aload_n 0, 1) := by decide +kernel
theorem dX7_doNext_134 : decode cX7_doNext 134 = .ok (.iload_n 3, 1) := by decide +kernel
theorem dX7_doNext_135 : decode cX7_doNext 135 = .ok (.invokevirtual 242, 3) := by decide +kernel
theorem dX7_doNext_138 : decode cX7_doNext 138 = .ok (.aload_n 0, 1) := by decide +kernel
theorem dX7_doNext_139 : decode cX7_doNext 139 = .ok (.dup, 1) := by decide +kernel
theorem dX7_doNext_140 : decode cX7_doNext 140 = .ok (.getfield 233, 3) := by decide +kernel
theorem dX7_doNext_143 : decode cX7_doNext 143 = .ok (.iconst 1, 1) := by decide +kernel
theorem dX7_doNext_144 : decode cX7_doNext 144 = .ok (.isub, 1) := by decide +kernel
theorem dX7_doNext_145 : decode cX7_doNext 145 = .ok (.putfield 233, 3) := by decide +kernel
theorem dX7_doNext_148 : decode cX7_doNext 148 = .ok (.goto 8, 3) := by decide +kernel
theorem dX7_doNext_151 : decode cX7_doNext 151 = .ok (.aload_n 0, 1) := by decide +kernel
theorem dX7_doNext_152 : decode cX7_doNext 152 = .ok (.iload_n 1, 1) := by decide +kernel
theorem dX7_doNext_153 : decode cX7_doNext 153 = .ok (.invokevirtual 242, 3) := by decide +kernel
theorem dX7_doNext_156 : decode cX7_doNext 156 = .ok (.return_, 1) := by decide +kernel
theorem dX7_layFold_0 : decode cX7_layFold 0 = .ok (.aload_n 0, 1) := by decide +kernel
theorem dX7_layFold_1 : decode cX7_layFold 1 = .ok (.invokevirtual 210, 3) := by decide +kernel
theorem dX7_layFold_4 : decode cX7_layFold 4 = .ok (.aload_n 0, 1) := by decide +kernel
theorem dX7_layFold_5 : decode cX7_layFold 5 = .ok (.iconst 0, 1) := by decide +kernel
theorem dX7_layFold_6 : decode cX7_layFold 6 = .ok (.putfield 227, 3) := by decide +kernel
theorem dX7_layFold_9 : decode cX7_layFold 9 = .ok (.aload_n 0, 1) := by decide +kernel
theorem dX7_layFold_10 : decode cX7_layFold 10 = .ok (.iconst 0, 1) := by decide +kernel
theorem dX7_layFold_11 : decode cX7_layFold 11 = .ok (.putfield 246, 3) := by decide +kernel
theorem dX7_layFold_14 : decode cX7_layFold 14 = .ok (.aload_n 0, 1) := by decide +kernel
theorem dX7_layFold_15 : decode cX7_layFold 15 = .ok (.iconst 0, 1) := by decide +kernel
theorem dX7_layFold_16 : decode cX7_layFold 16 = .ok (.putfield 249, 3) := by decide +kernel
theorem dX7_layFold_19 : decode cX7_layFold 19 = .ok (.aload_n 0, 1) := by decide +kernel
theorem dX7_layFold_20 : decode cX7_layFold 20 = .ok (.iconst 0, 1) := by decide +kernel
theorem dX7_layFold_21 : decode cX7_layFold 21 = .ok (.putfield 236, 3) := by decide +kernel
theorem dX7_layFold_24 : decode cX7_layFold 24 = .ok (.aload_n 0, 1) := by decide +kernel
theorem dX7_layFold_25 : decode cX7_layFold 25 = .ok (.iconst 0, 1) := by decide +kernel
theorem dX7_layFold_26 : decode cX7_layFold 26 = .ok (.putfield 230, 3) := by decide +kernel
theorem dX7_layFold_29 : decode cX7_layFold 29 = .ok (.aload_n 0, 1) := by decide +kernel
theorem dX7_layFold_30 : decode cX7_layFold 30 = .ok (.iconst 0, 1) := by decide +kernel
theorem dX7_layFold_31 : decode cX7_layFold 31 = .ok (.putfield 233, 3) := by decide +kernel
theorem dX7_layFold_34 : decode cX7_layFold 34 = .ok (.aload_n 0, 1) := by decide +kernel
theorem dX7_layFold_35 : decode cX7_layFold 35 = .ok (.getfield 121, 3) := by decide +kernel
theorem dX7_layFold_38 : decode cX7_layFold 38 = .ok (.ifCond .le 17, 3) := by decide +kernel
theorem dX7_layFold_41 : decode cX7_layFold 41 = .ok (.aload_n 0, 1) := by decide +kernel
theorem dX7_layFold_42 : decode cX7_layFold 42 = .ok (.getfield 165, 3) := by decide +kernel
theorem dX7_layFold_45 : decode cX7_layFold 45 = .ok (.ifCond .ne 10, 3) := by decide +kernel
theorem dX7_layFold_48 : decode cX7_layFold 48 = .ok (.aload_n 0, 1) := by decide +kernel
theorem dX7_layFold_49 : decode cX7_layFold 49 = .ok (.sipush 1000, 3) := by decide +kernel
theorem dX7_layFold_52 : decode cX7_layFold 52 = .ok (.invokevirtual 255, 3) := by decide +kernel
theorem dX7_layFold_55 : decode cX7_layFold 55 = .ok (.aload_n 0, 1) := by decide +kernel
theorem dX7_layFold_56 : decode cX7_layFold 56 = .ok (.getfield 230, 3) := by decide +kernel
theorem dX7_layFold_59 : decode cX7_layFold 59 = .ok (.ifCond .le 29, 3) := by decide +kernel
theorem dX7_layFold_62 : decode cX7_layFold 62 = .ok (.aload_n 0, 1) := by decide +kernel
theorem dX7_layFold_63 : decode cX7_layFold 63 = .ok (.dup, 1) := by decide +kernel
theorem dX7_layFold_64 : decode cX7_layFold 64 = .ok (.getfield 230, 3) := by decide +kernel
theorem dX7_layFold_67 : decode cX7_layFold 67 = .ok (.iconst 1, 1) := by decide +kernel
theorem dX7_layFold_68 : decode cX7_layFold 68 = .ok (.isub, 1) := by decide +kernel
theorem dX7_layFold_69 : decode cX7_layFold 69 = .ok (.putfield 230, 3) := by decide +kernel
theorem dX7_layFold_72 : decode cX7_layFold 72 = .ok (.aload_n 0, 1) := by decide +kernel
theorem dX7_layFold_73 : decode cX7_layFold 73 = .ok (.aload_n 0, 1) := by decide +kernel
theorem dX7_layFold_74 : decode cX7_layFold 74 = .ok (.getfield 68, 3) := by decide +kernel
theorem dX7_layFold_77 : decode cX7_layFold 77 = .ok (.aload_n 0, 1) := by decide +kernel
theorem dX7_layFold_78 : decode cX7_layFold 78 = .ok (.getfield 230, 3) := by decide +kernel
theorem dX7_layFold_81 : decode cX7_layFold 81 = .ok (.iaload, 1) := by decide +kernel
theorem dX7_layFold_82 : decode cX7_layFold 82 = .ok (.invokevirtual 274, 3) := by decide +kernel
theorem dX7_layFold_85 : decode cX7_layFold 85 = .ok (.goto (-30), 3) := by decide +kernel
theorem dX7_layFold_88 : decode cX7_layFold 88 = .ok (.return_, 1) := by decide +kernel
theorem dX7_sign_0 : decode cX7_sign 0 = .ok (.aload_n 0, 1) := by decide +kernel
theorem dX7_sign_1 : decode cX7_sign 1 = .ok (.getfield 121, 3) := by decide +kernel
theorem dX7_sign_4 : decode cX7_sign 4 = .ok (.ifCond .ne 6, 3) := by decide +kernel
theorem dX7_sign_7 : decode cX7_sign 7 = .ok (.bipush (-101), 2) := by decide +kernel
theorem dX7_sign_9 : decode cX7_sign 9 = .ok (.ireturn, 1) := by decide +kernel
theorem dX7_sign_10 : decode cX7_sign 10 = .ok (.aload_n 0, 1) := by decide +kernel
theorem dX7_sign_11 : decode cX7_sign 11 = .ok (.invokevirtual 277, 3) := by decide +kernel
theorem dX7_sign_14 : decode cX7_sign 14 = .ok (.iload_n 1, 1) := by decide +kernel
theorem dX7_sign_15 : decode cX7_sign 15 = .ok (.iconst 0, 1) := by decide +kernel
theorem dX7_sign_16 : decode cX7_sign 16 = .ok (.aload_n 0, 1) := by decide +kernel
theorem dX7_sign_17 : decode cX7_sign 17 = .ok (.getfield 227, 3) := by decide +kernel
theorem dX7_sign_20 : decode cX7_sign 20 = .ok (.iconst 1, 1) := by decide +kernel
theorem dX7_sign_21 : decode cX7_sign 21 = .ok (.isub, 1) := by decide +kernel
theorem dX7_sign_22 : decode cX7_sign 22 = .ok (.invokestatic 89, 3) := by decide +kernel
theorem dX7_sign_25 : decode cX7_sign 25 = .ok (.ifCond .eq 12, 3) := by decide +kernel
theorem dX7_sign_28 : decode cX7_sign 28 = .ok (.aload_n 0, 1) := by decide +kernel
theorem dX7_sign_29 : decode cX7_sign 29 = .ok (.getfield 65, 3) := by decide +kernel
theorem dX7_sign_32 : decode cX7_sign 32 = .ok (.iload_n 1, 1) := by decide +kernel
theorem dX7_sign_33 : decode cX7_sign 33 = .ok (.iaload, 1) := by decide +kernel
theorem dX7_sign_34 : decode cX7_sign 34 = .ok (.goto 5, 3) := by decide +kernel
theorem dX7_sign_37 : decode cX7_sign 37 = .ok (.bipush (-101), 2) := by decide +kernel
theorem dX7_sign_39 : decode cX7_sign 39 = .ok (.ireturn, 1) := by decide +kernel
theorem dX7_foldNow_0 : decode cX7_foldNow 0 = .ok (.aload_n 0, 1) := by decide +kernel
theorem dX7_foldNow_1 : decode cX7_foldNow 1 = .ok (.getfield 165, 3) := by decide +kernel
theorem dX7_foldNow_4 : decode cX7_foldNow 4 = .ok (.ifCond .le 7, 3) := by decide +kernel
theorem dX7_foldNow_7 : decode cX7_foldNow 7 = .ok (.iconst (-1), 1) := by decide +kernel
theorem dX7_foldNow_8 : decode cX7_foldNow 8 = .ok (.goto 42, 3) := by decide +kernel
theorem dX7_foldNow_11 : decode cX7_foldNow 11 = .ok (.iload_n 1, 1) := by decide +kernel
theorem dX7_foldNow_12 : decode cX7_foldNow 12 = .ok (.ifCond .ne 10, 3) := by decide +kernel
theorem dX7_foldNow_15 : decode cX7_foldNow 15 = .ok (.aload_n 0, 1) := by decide +kernel
theorem dX7_foldNow_16 : decode cX7_foldNow 16 = .ok (.getfield 227, 3) := by decide +kernel
theorem dX7_foldNow_19 : decode cX7_foldNow 19 = .ok (.goto 31, 3) := by decide +kernel
theorem dX7_foldNow_22 : decode cX7_foldNow 22 = .ok (.iload_n 1, 1) := by decide +kernel
theorem dX7_foldNow_23 : decode cX7_foldNow 23 = .ok (.iconst 1, 1) := by decide +kernel
theorem dX7_foldNow_24 : decode cX7_foldNow 24 = .ok (.if_icmp .ne 10, 3) := by decide +kernel
theorem dX7_foldNow_27 : decode cX7_foldNow 27 = .ok (.aload_n 0, 1) := by decide +kernel
theorem dX7_foldNow_28 : decode cX7_foldNow 28 = .ok (.getfield 246, 3) := by decide +kernel
theorem dX7_foldNow_31 : decode cX7_foldNow 31 = .ok (.goto 19, 3) := by decide +kernel
theorem dX7_foldNow_34 : decode cX7_foldNow 34 = .ok (.iload_n 1, 1) := by decide +kernel
theorem dX7_foldNow_35 : decode cX7_foldNow 35 = .ok (.iconst 2, 1) := by decide +kernel
theorem dX7_foldNow_36 : decode cX7_foldNow 36 = .ok (.if_icmp .ne 10, 3) := by decide +kernel
theorem dX7_foldNow_39 : decode cX7_foldNow 39 = .ok (.aload_n 0, 1) := by decide +kernel
theorem dX7_foldNow_40 : decode cX7_foldNow 40 = .ok (.getfield 249, 3) := by decide +kernel
theorem dX7_foldNow_43 : decode cX7_foldNow 43 = .ok (.goto 7, 3) := by decide +kernel
theorem dX7_foldNow_46 : decode cX7_foldNow 46 = .ok (.aload_n 0, 1) := by decide +kernel
theorem dX7_foldNow_47 : decode cX7_foldNow 47 = .ok (.getfield 236, 3) := by decide +kernel
theorem dX7_foldNow_50 : decode cX7_foldNow 50 = .ok (.ireturn, 1) := by decide +kernel
theorem dX7_fold_0 : decode cX7_fold 0 = .ok (.iload_n 1, 1) := by decide +kernel
theorem dX7_fold_1 : decode cX7_fold 1 = .ok (.iconst 0, 1) := by decide +kernel
theorem dX7_fold_2 : decode cX7_fold 2 = .ok (.iconst 3, 1) := by decide +kernel
theorem dX7_fold_3 : decode cX7_fold 3 = .ok (.invokestatic 89, 3) := by decide +kernel
theorem dX7_fold_6 : decode cX7_fold 6 = .ok (.ifCond .ne 6, 3) := by decide +kernel
theorem dX7_fold_9 : decode cX7_fold 9 = .ok (.bipush (-102), 2) := by decide +kernel
theorem dX7_fold_11 : decode cX7_fold 11 = .ok (.ireturn, 1) := by decide +kernel
theorem dX7_fold_12 : decode cX7_fold 12 = .ok (.aload_n 0, 1) := by decide +kernel
theorem dX7_fold_13 : decode cX7_fold 13 = .ok (.getfield 121, 3) := by decide +kernel
theorem dX7_fold_16 : decode cX7_fold 16 = .ok (.ifCond .ne 6, 3) := by decide +kernel
theorem dX7_fold_19 : decode cX7_fold 19 = .ok (.bipush (-103), 2) := by decide +kernel
theorem dX7_fold_21 : decode cX7_fold 21 = .ok (.ireturn, 1) := by decide +kernel
theorem dX7_fold_22 : decode cX7_fold 22 = .ok (.aload_n 0, 1) := by decide +kernel
theorem dX7_fold_23 : decode cX7_fold 23 = .ok (.invokevirtual 277, 3) := by decide +kernel
theorem dX7_fold_26 : decode cX7_fold 26 = .ok (.aload_n 0, 1) := by decide +kernel
theorem dX7_fold_27 : decode cX7_fold 27 = .ok (.iload_n 1, 1) := by decide +kernel
theorem dX7_fold_28 : decode cX7_fold 28 = .ok (.invokevirtual 280, 3) := by decide +kernel
theorem dX7_fold_31 : decode cX7_fold 31 = .ok (.ireturn, 1) := by decide +kernel
theorem dX7_mendSet_0 : decode cX7_mendSet 0 = .ok (.aload_n 0, 1) := by decide +kernel
theorem dX7_mendSet_1 : decode cX7_mendSet 1 = .ok (.invokevirtual 210, 3) := by decide +kernel
theorem dX7_mendSet_4 : decode cX7_mendSet 4 = .ok (.iconst 0, 1) := by decide +kernel
theorem dX7_mendSet_5 : decode cX7_mendSet 5 = .ok (.istore_n 1, 1) := by decide +kernel
theorem dX7_mendSet_6 : decode cX7_mendSet 6 = .ok (.iconst 0, 1) := by decide +kernel
theorem dX7_mendSet_7 : decode cX7_mendSet 7 = .ok (.istore_n 2, 1) := by decide +kernel
theorem dX7_mendSet_8 : decode cX7_mendSet 8 = .ok (.iload_n 2, 1) := by decide +kernel
theorem dX7_mendSet_9 : decode cX7_mendSet 9 = .ok (.iconst 2, 1) := by decide +kernel
theorem dX7_mendSet_10 : decode cX7_mendSet 10 = .ok (.aload_n 0, 1) := by decide +kernel
theorem dX7_mendSet_11 : decode cX7_mendSet 11 = .ok (.getfield 121, 3) := by decide +kernel
theorem dX7_mendSet_14 : decode cX7_mendSet 14 = .ok (.imul, 1) := by decide +kernel
theorem dX7_mendSet_15 : decode cX7_mendSet 15 = .ok (.if_icmp .ge 27, 3) := by decide +kernel
theorem dX7_mendSet_18 : decode cX7_mendSet 18 = .ok (.iload_n 1, 1) := by decide +kernel
theorem dX7_mendSet_19 : decode cX7_mendSet 19 = .ok (.aload_n 0, 1) := by decide +kernel
theorem dX7_mendSet_20 : decode cX7_mendSet 20 = .ok (.iload_n 2, 1) := by decide +kernel
theorem dX7_mendSet_21 : decode cX7_mendSet 21 = .ok (.invokevirtual 174, 3) := by decide +kernel
theorem dX7_mendSet_24 : decode cX7_mendSet 24 = .ok (.ifCond .eq 9, 3) := by decide +kernel
theorem dX7_mendSet_27 : decode cX7_mendSet 27 = .ok (.iconst 1, 1) := by decide +kernel
theorem dX7_mendSet_28 : decode cX7_mendSet 28 = .ok (.iload_n 2, 1) := by decide +kernel
theorem dX7_mendSet_29 : decode cX7_mendSet 29 = .ok (.ishl, 1) := by decide +kernel
theorem dX7_mendSet_30 : decode cX7_mendSet 30 = .ok (.goto 4, 3) := by decide +kernel
theorem dX7_mendSet_33 : decode cX7_mendSet 33 = .ok (.iconst 0, 1) := by decide +kernel
theorem dX7_mendSet_34 : decode cX7_mendSet 34 = .ok (.ior, 1) := by decide +kernel
theorem dX7_mendSet_35 : decode cX7_mendSet 35 = .ok (.istore_n 1, 1) := by decide +kernel
theorem dX7_mendSet_36 : decode cX7_mendSet 36 = .ok (.iinc 2 1, 3) := by decide +kernel
theorem dX7_mendSet_39 : decode cX7_mendSet 39 = .ok (.goto (-31), 3) := by decide +kernel
theorem dX7_mendSet_42 : decode cX7_mendSet 42 = .ok (.iconst (-1), 1) := by decide +kernel
theorem dX7_mendSet_43 : decode cX7_mendSet 43 = .ok (.istore_n 2, 1) := by decide +kernel
theorem dX7_mendSet_44 : decode cX7_mendSet 44 = .ok (.iconst 4, 1) := by decide +kernel
theorem dX7_mendSet_45 : decode cX7_mendSet 45 = .ok (.istore_n 3, 1) := by decide +kernel
theorem dX7_mendSet_46 : decode cX7_mendSet 46 = .ok (.iload_n 1, 1) := by decide +kernel
theorem dX7_mendSet_47 : decode cX7_mendSet 47 = .ok (.istore 4, 2) := by decide +kernel
theorem dX7_mendSet_49 : decode cX7_mendSet 49 = .ok (.iload 4, 2) := by decide +kernel
theorem dX7_mendSet_51 : decode cX7_mendSet 51 = .ok (.ifCond .lt 67, 3) := by decide +kernel
theorem dX7_mendSet_54 : decode cX7_mendSet 54 = .ok (.iload 4, 2) := by decide +kernel
theorem dX7_mendSet_56 : decode cX7_mendSet 56 = .ok (.invokestatic 156, 3) := by decide +kernel
theorem dX7_mendSet_59 : decode cX7_mendSet 59 = .ok (.iload_n 3, 1) := by decide +kernel
theorem dX7_mendSet_60 : decode cX7_mendSet 60 = .ok (.if_icmp .gt 38, 3) := by decide +kernel
theorem dX7_mendSet_63 : decode cX7_mendSet 63 = .ok (.iload 4, 2) := by decide +kernel
theorem dX7_mendSet_65 : decode cX7_mendSet 65 = .ok (.invokestatic 156, 3) := by decide +kernel
theorem dX7_mendSet_68 : decode cX7_mendSet 68 = .ok (.iconst 4, 1) := by decide +kernel
theorem dX7_mendSet_69 : decode cX7_mendSet 69 = .ok (.if_icmp .ge 29, 3) := by decide +kernel
theorem dX7_mendSet_72 : decode cX7_mendSet 72 = .ok (.aload_n 0, 1) := by decide +kernel
theorem dX7_mendSet_73 : decode cX7_mendSet 73 = .ok (.iload 4, 2) := by decide +kernel
theorem dX7_mendSet_75 : decode cX7_mendSet 75 = .ok (.putfield 136, 3) := by decide +kernel
theorem dX7_mendSet_78 : decode cX7_mendSet 78 = .ok (.aload_n 0, 1) := by decide +kernel
theorem dX7_mendSet_79 : decode cX7_mendSet 79 = .ok (.invokevirtual 195, 3) := by decide +kernel
theorem dX7_mendSet_82 : decode cX7_mendSet 82 = .ok (.aload_n 0, 1) := by decide +kernel
theorem dX7_mendSet_83 : decode cX7_mendSet 83 = .ok (.getfield 165, 3) := by decide +kernel
theorem dX7_mendSet_86 : decode cX7_mendSet 86 = .ok (.ifCond .ne 12, 3) := by decide +kernel
theorem dX7_mendSet_89 : decode cX7_mendSet 89 = .ok (.iload 4, 2) := by decide +kernel
theorem dX7_mendSet_91 : decode cX7_mendSet 91 = .ok (.istore_n 2, 1) := by decide +kernel
theorem dX7_mendSet_92 : decode cX7_mendSet 92 = .ok (.iload 4, 2) := by decide +kernel
theorem dX7_mendSet_94 : decode cX7_mendSet 94 = .ok (.invokestatic 156, 3) := by decide +kernel
theorem dX7_mendSet_97 : decode cX7_mendSet 97 = .ok (.istore_n 3, 1) := by decide +kernel
theorem dX7_mendSet_98 : decode cX7_mendSet 98 = .ok (.iload 4, 2) := by decide +kernel
theorem dX7_mendSet_100 : decode cX7_mendSet 100 = .ok (.ifCond .ne 7, 3) := by decide +kernel
theorem dX7_mendSet_103 : decode cX7_mendSet 103 = .ok (.iconst (-1), 1) := by decide +kernel
theorem dX7_mendSet_104 : decode cX7_mendSet 104 = .ok (.goto 9, 3) := by decide +kernel
theorem dX7_mendSet_107 : decode cX7_mendSet 107 = .ok (.iload 4, 2) := by decide +kernel
theorem dX7_mendSet_109 : decode cX7_mendSet 109 = .ok (.iconst 1, 1) := by decide +kernel
theorem dX7_mendSet_110 : decode cX7_mendSet 110 = .ok (.isub, 1) := by decide +kernel
theorem dX7_mendSet_111 : decode cX7_mendSet 111 = .ok (.iload_n 1, 1) := by decide +kernel
theorem dX7_mendSet_112 : decode cX7_mendSet 112 = .ok (.iand, 1) := by decide +kernel
theorem dX7_mendSet_113 : decode cX7_mendSet 113 = .ok (.istore 4, 2) := by decide +kernel
theorem dX7_mendSet_115 : decode cX7_mendSet 115 = .ok (.goto (-66), 3) := by decide +kernel
theorem dX7_mendSet_118 : decode cX7_mendSet 118 = .ok (.iload_n 2, 1) := by decide +kernel
theorem dX7_mendSet_119 : decode cX7_mendSet 119 = .ok (.ireturn, 1) := by decide +kernel
theorem dX7_mendNow_0 : decode cX7_mendNow 0 = .ok (.aload_n 0, 1) := by decide +kernel
theorem dX7_mendNow_1 : decode cX7_mendNow 1 = .ok (.dup, 1) := by decide +kernel
theorem dX7_mendNow_2 : decode cX7_mendNow 2 = .ok (.getfield 283, 3) := by decide +kernel
theorem dX7_mendNow_5 : decode cX7_mendNow 5 = .ok (.iconst 1, 1) := by decide +kernel
theorem dX7_mendNow_6 : decode cX7_mendNow 6 = .ok (.iadd, 1) := by decide +kernel
theorem dX7_mendNow_7 : decode cX7_mendNow 7 = .ok (.putfield 283, 3) := by decide +kernel
theorem dX7_mendNow_10 : decode cX7_mendNow 10 = .ok (.aload_n 0, 1) := by decide +kernel
theorem dX7_mendNow_11 : decode cX7_mendNow 11 = .ok (.invokevirtual 286, 3) := by decide +kernel
theorem dX7_mendNow_14 : decode cX7_mendNow 14 = .ok (.istore_n 2, 1) := by decide +kernel
theorem dX7_mendNow_15 : decode cX7_mendNow 15 = .ok (.iload_n 2, 1) := by decide +kernel
theorem dX7_mendNow_16 : decode cX7_mendNow 16 = .ok (.iconst (-1), 1) := by decide +kernel
theorem dX7_mendNow_17 : decode cX7_mendNow 17 = .ok (.if_icmp .ne 7, 3) := by decide +kernel
theorem dX7_mendNow_20 : decode cX7_mendNow 20 = .ok (.iconst (-1), 1) := by decide +kernel
theorem dX7_mendNow_21 : decode cX7_mendNow 21 = .ok (.goto 15, 3) := by decide +kernel
theorem dX7_mendNow_24 : decode cX7_mendNow 24 = .ok (.iload_n 1, 1) := by decide +kernel
theorem dX7_mendNow_25 : decode cX7_mendNow 25 = .ok (.ifCond .ne 10, 3) := by decide +kernel
theorem dX7_mendNow_28 : decode cX7_mendNow 28 = .ok (.iload_n 2, 1) := by decide +kernel
theorem dX7_mendNow_29 : decode cX7_mendNow 29 = .ok (.invokestatic 156, 3) := by decide +kernel
theorem dX7_mendNow_32 : decode cX7_mendNow 32 = .ok (.goto 4, 3) := by decide +kernel
theorem dX7_mendNow_35 : decode cX7_mendNow 35 = .ok (.iload_n 2, 1) := by decide +kernel
theorem dX7_mendNow_36 : decode cX7_mendNow 36 = .ok (.ireturn, 1) := by decide +kernel
theorem dX7_mend_0 : decode cX7_mend 0 = .ok (.iload_n 1, 1) := by decide +kernel
theorem dX7_mend_1 : decode cX7_mend 1 = .ok (.iconst 0, 1) := by decide +kernel
theorem dX7_mend_2 : decode cX7_mend 2 = .ok (.iconst 1, 1) := by decide +kernel
theorem dX7_mend_3 : decode cX7_mend 3 = .ok (.invokestatic 89, 3) := by decide +kernel
theorem dX7_mend_6 : decode cX7_mend 6 = .ok (.ifCond .ne 6, 3) := by decide +kernel
theorem dX7_mend_9 : decode cX7_mend 9 = .ok (.bipush (-102), 2) := by decide +kernel
theorem dX7_mend_11 : decode cX7_mend 11 = .ok (.ireturn, 1) := by decide +kernel
theorem dX7_mend_12 : decode cX7_mend 12 = .ok (.aload_n 0, 1) := by decide +kernel
theorem dX7_mend_13 : decode cX7_mend 13 = .ok (.getfield 121, 3) := by decide +kernel
theorem dX7_mend_16 : decode cX7_mend 16 = .ok (.ifCond .eq 11, 3) := by decide +kernel
theorem dX7_mend_19 : decode cX7_mend 19 = .ok (.aload_n 0, 1) := by decide +kernel
theorem dX7_mend_20 : decode cX7_mend 20 = .ok (.getfield 283, 3) := by decide +kernel
theorem dX7_mend_23 : decode cX7_mend 23 = .ok (.iconst 5, 1) := by decide +kernel
theorem dX7_mend_24 : decode cX7_mend 24 = .ok (.if_icmp .ne 8, 3) := by decide +kernel
theorem dX7_mend_27 : decode cX7_mend 27 = .ok (.bipush (-103), 2) := by decide +kernel
theorem dX7_mend_29 : decode cX7_mend 29 = .ok (.goto 8, 3) := by decide +kernel
theorem dX7_mend_32 : decode cX7_mend 32 = .ok (.aload_n 0, 1) := by decide +kernel
theorem dX7_mend_33 : decode cX7_mend 33 = .ok (.iload_n 1, 1) := by decide +kernel
theorem dX7_mend_34 : decode cX7_mend 34 = .ok (.invokevirtual 289, 3) := by decide +kernel
theorem dX7_mend_37 : decode cX7_mend 37 = .ok (.ireturn, 1) := by decide +kernel
theorem dX7_could_0 : decode cX7_could 0 = .ok (.iload_n 0, 1) := by decide +kernel
theorem dX7_could_1 : decode cX7_could 1 = .ok (.iconst 2, 1) := by decide +kernel
theorem dX7_could_2 : decode cX7_could 2 = .ok (.if_icmp .ne 14, 3) := by decide +kernel
theorem dX7_could_5 : decode cX7_could 5 = .ok (.iload_n 2, 1) := by decide +kernel
theorem dX7_could_6 : decode cX7_could 6 = .ok (.iconst 2, 1) := by decide +kernel
theorem dX7_could_7 : decode cX7_could 7 = .ok (.if_icmp .ne 7, 3) := by decide +kernel
theorem dX7_could_10 : decode cX7_could 10 = .ok (.iconst 1, 1) := by decide +kernel
theorem dX7_could_11 : decode cX7_could 11 = .ok (.goto 4, 3) := by decide +kernel
theorem dX7_could_14 : decode cX7_could 14 = .ok (.iconst 0, 1) := by decide +kernel
theorem dX7_could_15 : decode cX7_could 15 = .ok (.ireturn, 1) := by decide +kernel
theorem dX7_could_16 : decode cX7_could 16 = .ok (.iload_n 2, 1) := by decide +kernel
theorem dX7_could_17 : decode cX7_could 17 = .ok (.iconst 2, 1) := by decide +kernel
theorem dX7_could_18 : decode cX7_could 18 = .ok (.if_icmp .ge 22, 3) := by decide +kernel
theorem dX7_could_21 : decode cX7_could 21 = .ok (.iload_n 0, 1) := by decide +kernel
theorem dX7_could_22 : decode cX7_could 22 = .ok (.iconst 1, 1) := by decide +kernel
theorem dX7_could_23 : decode cX7_could 23 = .ok (.if_icmp .eq 13, 3) := by decide +kernel
theorem dX7_could_26 : decode cX7_could 26 = .ok (.iload_n 0, 1) := by decide +kernel
theorem dX7_could_27 : decode cX7_could 27 = .ok (.iload_n 1, 1) := by decide +kernel
theorem dX7_could_28 : decode cX7_could 28 = .ok (.iconst 0, 1) := by decide +kernel
theorem dX7_could_29 : decode cX7_could 29 = .ok (.invokestatic 220, 3) := by decide +kernel
theorem dX7_could_32 : decode cX7_could 32 = .ok (.iload_n 2, 1) := by decide +kernel
theorem dX7_could_33 : decode cX7_could 33 = .ok (.if_icmp .ne 7, 3) := by decide +kernel
theorem dX7_could_36 : decode cX7_could 36 = .ok (.iconst 1, 1) := by decide +kernel
theorem dX7_could_37 : decode cX7_could 37 = .ok (.goto 4, 3) := by decide +kernel
theorem dX7_could_40 : decode cX7_could 40 = .ok (.iconst 0, 1) := by decide +kernel
theorem dX7_could_41 : decode cX7_could 41 = .ok (.ireturn, 1) := by decide +kernel
theorem dX7_see_0 : decode cX7_see 0 = .ok (.aload_n 0, 1) := by decide +kernel
theorem dX7_see_1 : decode cX7_see 1 = .ok (.iload_n 1, 1) := by decide +kernel
theorem dX7_see_2 : decode cX7_see 2 = .ok (.invokevirtual 207, 3) := by decide +kernel
theorem dX7_see_5 : decode cX7_see 5 = .ok (.ifCond .ne 6, 3) := by decide +kernel
theorem dX7_see_8 : decode cX7_see 8 = .ok (.bipush (-101), 2) := by decide +kernel
theorem dX7_see_10 : decode cX7_see 10 = .ok (.ireturn, 1) := by decide +kernel
theorem dX7_see_11 : decode cX7_see 11 = .ok (.iload_n 2, 1) := by decide +kernel
theorem dX7_see_12 : decode cX7_see 12 = .ok (.iconst 1, 1) := by decide +kernel
theorem dX7_see_13 : decode cX7_see 13 = .ok (.iconst 3, 1) := by decide +kernel
theorem dX7_see_14 : decode cX7_see 14 = .ok (.invokestatic 89, 3) := by decide +kernel
theorem dX7_see_17 : decode cX7_see 17 = .ok (.ifCond .eq 12, 3) := by decide +kernel
theorem dX7_see_20 : decode cX7_see 20 = .ok (.iload_n 3, 1) := by decide +kernel
theorem dX7_see_21 : decode cX7_see 21 = .ok (.iconst 0, 1) := by decide +kernel
theorem dX7_see_22 : decode cX7_see 22 = .ok (.iconst 2, 1) := by decide +kernel
theorem dX7_see_23 : decode cX7_see 23 = .ok (.invokestatic 89, 3) := by decide +kernel
theorem dX7_see_26 : decode cX7_see 26 = .ok (.ifCond .ne 6, 3) := by decide +kernel
theorem dX7_see_29 : decode cX7_see 29 = .ok (.bipush (-102), 2) := by decide +kernel
theorem dX7_see_31 : decode cX7_see 31 = .ok (.ireturn, 1) := by decide +kernel
theorem dX7_see_32 : decode cX7_see 32 = .ok (.aload_n 0, 1) := by decide +kernel
theorem dX7_see_33 : decode cX7_see 33 = .ok (.getfield 130, 3) := by decide +kernel
theorem dX7_see_36 : decode cX7_see 36 = .ok (.bipush 6, 2) := by decide +kernel
theorem dX7_see_38 : decode cX7_see 38 = .ok (.if_icmp .ne 6, 3) := by decide +kernel
theorem dX7_see_41 : decode cX7_see 41 = .ok (.bipush (-104), 2) := by decide +kernel
theorem dX7_see_43 : decode cX7_see 43 = .ok (.ireturn, 1) := by decide +kernel
theorem dX7_see_44 : decode cX7_see 44 = .ok (.aload_n 0, 1) := by decide +kernel
theorem dX7_see_45 : decode cX7_see 45 = .ok (.getfield 19, 3) := by decide +kernel
theorem dX7_see_48 : decode cX7_see 48 = .ok (.aload_n 0, 1) := by decide +kernel
theorem dX7_see_49 : decode cX7_see 49 = .ok (.getfield 130, 3) := by decide +kernel
theorem dX7_see_52 : decode cX7_see 52 = .ok (.iload_n 1, 1) := by decide +kernel
theorem dX7_see_53 : decode cX7_see 53 = .ok (.iastore, 1) := by decide +kernel
theorem dX7_see_54 : decode cX7_see 54 = .ok (.aload_n 0, 1) := by decide +kernel
theorem dX7_see_55 : decode cX7_see 55 = .ok (.getfield 22, 3) := by decide +kernel
theorem dX7_see_58 : decode cX7_see 58 = .ok (.aload_n 0, 1) := by decide +kernel
theorem dX7_see_59 : decode cX7_see 59 = .ok (.getfield 130, 3) := by decide +kernel
theorem dX7_see_62 : decode cX7_see 62 = .ok (.iload_n 2, 1) := by decide +kernel
theorem dX7_see_63 : decode cX7_see 63 = .ok (.iastore, 1) := by decide +kernel
theorem dX7_see_64 : decode cX7_see 64 = .ok (.aload_n 0, 1) := by decide +kernel
theorem dX7_see_65 : decode cX7_see 65 = .ok (.getfield 25, 3) := by decide +kernel
theorem dX7_see_68 : decode cX7_see 68 = .ok (.aload_n 0, 1) := by decide +kernel
theorem dX7_see_69 : decode cX7_see 69 = .ok (.getfield 130, 3) := by decide +kernel
theorem dX7_see_72 : decode cX7_see 72 = .ok (.iload_n 3, 1) := by decide +kernel
theorem dX7_see_73 : decode cX7_see 73 = .ok (.iastore, 1) := by decide +kernel
theorem dX7_see_74 : decode cX7_see 74 = .ok (.aload_n 0, 1) := by decide +kernel
theorem dX7_see_75 : decode cX7_see 75 = .ok (.dup, 1) := by decide +kernel
theorem dX7_see_76 : decode cX7_see 76 = .ok (.getfield 130, 3) := by decide +kernel
theorem dX7_see_79 : decode cX7_see 79 = .ok (.iconst 1, 1) := by decide +kernel
theorem dX7_see_80 : decode cX7_see 80 = .ok (.iadd, 1) := by decide +kernel
theorem dX7_see_81 : decode cX7_see 81 = .ok (.putfield 130, 3) := by decide +kernel
theorem dX7_see_84 : decode cX7_see 84 = .ok (.aload_n 0, 1) := by decide +kernel
theorem dX7_see_85 : decode cX7_see 85 = .ok (.getfield 130, 3) := by decide +kernel
theorem dX7_see_88 : decode cX7_see 88 = .ok (.ireturn, 1) := by decide +kernel
theorem dX7_forget_0 : decode cX7_forget 0 = .ok (.aload_n 0, 1) := by decide +kernel
theorem dX7_forget_1 : decode cX7_forget 1 = .ok (.getfield 130, 3) := by decide +kernel
theorem dX7_forget_4 : decode cX7_forget 4 = .ok (.istore_n 1, 1) := by decide +kernel
theorem dX7_forget_5 : decode cX7_forget 5 = .ok (.aload_n 0, 1) := by decide +kernel
theorem dX7_forget_6 : decode cX7_forget 6 = .ok (.iconst 0, 1) := by decide +kernel
theorem dX7_forget_7 : decode cX7_forget 7 = .ok (.putfield 130, 3) := by decide +kernel
theorem dX7_forget_10 : decode cX7_forget 10 = .ok (.iload_n 1, 1) := by decide +kernel
theorem dX7_forget_11 : decode cX7_forget 11 = .ok (.ireturn, 1) := by decide +kernel
theorem dX7_sortsOf_0 : decode cX7_sortsOf 0 = .ok (.iconst 0, 1) := by decide +kernel
theorem dX7_sortsOf_1 : decode cX7_sortsOf 1 = .ok (.istore_n 2, 1) := by decide +kernel
theorem dX7_sortsOf_2 : decode cX7_sortsOf 2 = .ok (.iconst 0, 1) := by decide +kernel
theorem dX7_sortsOf_3 : decode cX7_sortsOf 3 = .ok (.istore_n 3, 1) := by decide +kernel
theorem dX7_sortsOf_4 : decode cX7_sortsOf 4 = .ok (.iload_n 3, 1) := by decide +kernel
theorem dX7_sortsOf_5 : decode cX7_sortsOf 5 = .ok (.iconst 4, 1) := by decide +kernel
theorem dX7_sortsOf_6 : decode cX7_sortsOf 6 = .ok (.if_icmp .gt 89, 3) := by decide +kernel
theorem dX7_sortsOf_9 : decode cX7_sortsOf 9 = .ok (.iconst 1, 1) := by decide +kernel
theorem dX7_sortsOf_10 : decode cX7_sortsOf 10 = .ok (.istore 4, 2) := by decide +kernel
theorem dX7_sortsOf_12 : decode cX7_sortsOf 12 = .ok (.iconst 0, 1) := by decide +kernel
theorem dX7_sortsOf_13 : decode cX7_sortsOf 13 = .ok (.istore 5, 2) := by decide +kernel
theorem dX7_sortsOf_15 : decode cX7_sortsOf 15 = .ok (.iload 5, 2) := by decide +kernel
theorem dX7_sortsOf_17 : decode cX7_sortsOf 17 = .ok (.aload_n 0, 1) := by decide +kernel
theorem dX7_sortsOf_18 : decode cX7_sortsOf 18 = .ok (.getfield 130, 3) := by decide +kernel
theorem dX7_sortsOf_21 : decode cX7_sortsOf 21 = .ok (.if_icmp .ge 53, 3) := by decide +kernel
theorem dX7_sortsOf_24 : decode cX7_sortsOf 24 = .ok (.iload 4, 2) := by decide +kernel
theorem dX7_sortsOf_26 : decode cX7_sortsOf 26 = .ok (.ifCond .eq 39, 3) := by decide +kernel
theorem dX7_sortsOf_29 : decode cX7_sortsOf 29 = .ok (.aload_n 0, 1) := by decide +kernel
theorem dX7_sortsOf_30 : decode cX7_sortsOf 30 = .ok (.getfield 19, 3) := by decide +kernel
theorem dX7_sortsOf_33 : decode cX7_sortsOf 33 = .ok (.iload 5, 2) := by decide +kernel
theorem dX7_sortsOf_35 : decode cX7_sortsOf 35 = .ok (.iaload, 1) := by decide +kernel
theorem dX7_sortsOf_36 : decode cX7_sortsOf 36 = .ok (.iload_n 1, 1) := by decide +kernel
theorem dX7_sortsOf_37 : decode cX7_sortsOf 37 = .ok (.if_icmp .ne 24, 3) := by decide +kernel
theorem dX7_sortsOf_40 : decode cX7_sortsOf 40 = .ok (.iload_n 3, 1) := by decide +kernel
theorem dX7_sortsOf_41 : decode cX7_sortsOf 41 = .ok (.aload_n 0, 1) := by decide +kernel
theorem dX7_sortsOf_42 : decode cX7_sortsOf 42 = .ok (.getfield 22, 3) := by decide +kernel
theorem dX7_sortsOf_45 : decode cX7_sortsOf 45 = .ok (.iload 5, 2) := by decide +kernel
theorem dX7_sortsOf_47 : decode cX7_sortsOf 47 = .ok (.iaload, 1) := by decide +kernel
theorem dX7_sortsOf_48 : decode cX7_sortsOf 48 = .ok (.aload_n 0, 1) := by decide +kernel
theorem dX7_sortsOf_49 : decode cX7_sortsOf 49 = .ok (.getfield 25, 3) := by decide +kernel
theorem dX7_sortsOf_52 : decode cX7_sortsOf 52 = .ok (.iload 5, 2) := by decide +kernel
theorem dX7_sortsOf_54 : decode cX7_sortsOf 54 = .ok (.iaload, 1) := by decide +kernel
theorem dX7_sortsOf_55 : decode cX7_sortsOf 55 = .ok (.invokestatic 292, 3) := by decide +kernel
theorem dX7_sortsOf_58 : decode cX7_sortsOf 58 = .ok (.ifCond .eq 7, 3) := by decide +kernel
theorem dX7_sortsOf_61 : decode cX7_sortsOf 61 = .ok (.iconst 1, 1) := by decide +kernel
theorem dX7_sortsOf_62 : decode cX7_sortsOf 62 = .ok (.goto 4, 3) := by decide +kernel
theorem dX7_sortsOf_65 : decode cX7_sortsOf 65 = .ok (.iconst 0, 1) := by decide +kernel
theorem dX7_sortsOf_66 : decode cX7_sortsOf 66 = .ok (.istore 4, 2) := by decide +kernel
theorem dX7_sortsOf_68 : decode cX7_sortsOf 68 = .ok (.iinc 5 1, 3) := by decide +kernel
theorem dX7_sortsOf_71 : decode cX7_sortsOf 71 = .ok (.goto (-56), 3) := by decide +kernel
theorem dX7_sortsOf_74 : decode cX7_sortsOf 74 = .ok (.iload_n 2, 1) := by decide +kernel
theorem dX7_sortsOf_75 : decode cX7_sortsOf 75 = .ok (.iload 4, 2) := by decide +kernel
theorem dX7_sortsOf_77 : decode cX7_sortsOf 77 = .ok (.ifCond .eq 9, 3) := by decide +kernel
theorem dX7_sortsOf_80 : decode cX7_sortsOf 80 = .ok (.iconst 1, 1) := by decide +kernel
theorem dX7_sortsOf_81 : decode cX7_sortsOf 81 = .ok (.iload_n 3, 1) := by decide +kernel
theorem dX7_sortsOf_82 : decode cX7_sortsOf 82 = .ok (.ishl, 1) := by decide +kernel
theorem dX7_sortsOf_83 : decode cX7_sortsOf 83 = .ok (.goto 4, 3) := by decide +kernel
theorem dX7_sortsOf_86 : decode cX7_sortsOf 86 = .ok (.iconst 0, 1) := by decide +kernel
theorem dX7_sortsOf_87 : decode cX7_sortsOf 87 = .ok (.ior, 1) := by decide +kernel
theorem dX7_sortsOf_88 : decode cX7_sortsOf 88 = .ok (.istore_n 2, 1) := by decide +kernel
theorem dX7_sortsOf_89 : decode cX7_sortsOf 89 = .ok (.iinc 3 1, 3) := by decide +kernel
theorem dX7_sortsOf_92 : decode cX7_sortsOf 92 = .ok (.goto (-88), 3) := by decide +kernel
theorem dX7_sortsOf_95 : decode cX7_sortsOf 95 = .ok (.iload_n 2, 1) := by decide +kernel
theorem dX7_sortsOf_96 : decode cX7_sortsOf 96 = .ok (.ireturn, 1) := by decide +kernel
theorem dX7_askOf_0 : decode cX7_askOf 0 = .ok (.aload_n 0, 1) := by decide +kernel
theorem dX7_askOf_1 : decode cX7_askOf 1 = .ok (.iload_n 1, 1) := by decide +kernel
theorem dX7_askOf_2 : decode cX7_askOf 2 = .ok (.invokevirtual 201, 3) := by decide +kernel
theorem dX7_askOf_5 : decode cX7_askOf 5 = .ok (.istore_n 2, 1) := by decide +kernel
theorem dX7_askOf_6 : decode cX7_askOf 6 = .ok (.iconst (-1), 1) := by decide +kernel
theorem dX7_askOf_7 : decode cX7_askOf 7 = .ok (.istore_n 3, 1) := by decide +kernel
theorem dX7_askOf_8 : decode cX7_askOf 8 = .ok (.ldc_w 295, 3) := by decide +kernel
theorem dX7_askOf_11 : decode cX7_askOf 11 = .ok (.istore 4, 2) := by decide +kernel
theorem dX7_askOf_13 : decode cX7_askOf 13 = .ok (.iconst 1, 1) := by decide +kernel
theorem dX7_askOf_14 : decode cX7_askOf 14 = .ok (.istore 5, 2) := by decide +kernel
theorem dX7_askOf_16 : decode cX7_askOf 16 = .ok (.iload 5, 2) := by decide +kernel
theorem dX7_askOf_18 : decode cX7_askOf 18 = .ok (.iconst 4, 1) := by decide +kernel
theorem dX7_askOf_19 : decode cX7_askOf 19 = .ok (.if_icmp .ge 126, 3) := by decide +kernel
theorem dX7_askOf_22 : decode cX7_askOf 22 = .ok (.iload_n 2, 1) := by decide +kernel
theorem dX7_askOf_23 : decode cX7_askOf 23 = .ok (.ifCond .eq 122, 3) := by decide +kernel
theorem dX7_askOf_26 : decode cX7_askOf 26 = .ok (.iconst 0, 1) := by decide +kernel
theorem dX7_askOf_27 : decode cX7_askOf 27 = .ok (.istore 6, 2) := by decide +kernel
theorem dX7_askOf_29 : decode cX7_askOf 29 = .ok (.iconst 0, 1) := by decide +kernel
theorem dX7_askOf_30 : decode cX7_askOf 30 = .ok (.istore 7, 2) := by decide +kernel
theorem dX7_askOf_32 : decode cX7_askOf 32 = .ok (.iload 7, 2) := by decide +kernel
theorem dX7_askOf_34 : decode cX7_askOf 34 = .ok (.iconst 3, 1) := by decide +kernel
theorem dX7_askOf_35 : decode cX7_askOf 35 = .ok (.if_icmp .ge 74, 3) := by decide +kernel
theorem dX7_askOf_38 : decode cX7_askOf 38 = .ok (.iconst 0, 1) := by decide +kernel
theorem dX7_askOf_39 : decode cX7_askOf 39 = .ok (.istore 8, 2) := by decide +kernel
theorem dX7_askOf_41 : decode cX7_askOf 41 = .ok (.iconst 0, 1) := by decide +kernel
theorem dX7_askOf_42 : decode cX7_askOf 42 = .ok (.istore 9, 2) := by decide +kernel
theorem dX7_askOf_44 : decode cX7_askOf 44 = .ok (.iload 9, 2) := by decide +kernel
theorem dX7_askOf_46 : decode cX7_askOf 46 = .ok (.iconst 4, 1) := by decide +kernel
theorem dX7_askOf_47 : decode cX7_askOf 47 = .ok (.if_icmp .gt 40, 3) := by decide +kernel
theorem dX7_askOf_50 : decode cX7_askOf 50 = .ok (.iload 8, 2) := by decide +kernel
theorem dX7_askOf_52 : decode cX7_askOf 52 = .ok (.iload_n 2, 1) := by decide +kernel
theorem dX7_askOf_53 : decode cX7_askOf 53 = .ok (.iload 9, 2) := by decide +kernel
theorem dX7_askOf_55 : decode cX7_askOf 55 = .ok (.invokestatic 139, 3) := by decide +kernel
theorem dX7_askOf_58 : decode cX7_askOf 58 = .ok (.ifCond .eq 19, 3) := by decide +kernel
theorem dX7_askOf_61 : decode cX7_askOf 61 = .ok (.iload 9, 2) := by decide +kernel
theorem dX7_askOf_63 : decode cX7_askOf 63 = .ok (.iload 5, 2) := by decide +kernel
theorem dX7_askOf_65 : decode cX7_askOf 65 = .ok (.iload 7, 2) := by decide +kernel
theorem dX7_askOf_67 : decode cX7_askOf 67 = .ok (.invokestatic 292, 3) := by decide +kernel
theorem dX7_askOf_70 : decode cX7_askOf 70 = .ok (.ifCond .eq 7, 3) := by decide +kernel
theorem dX7_askOf_73 : decode cX7_askOf 73 = .ok (.iconst 1, 1) := by decide +kernel
theorem dX7_askOf_74 : decode cX7_askOf 74 = .ok (.goto 4, 3) := by decide +kernel
theorem dX7_askOf_77 : decode cX7_askOf 77 = .ok (.iconst 0, 1) := by decide +kernel
theorem dX7_askOf_78 : decode cX7_askOf 78 = .ok (.iadd, 1) := by decide +kernel
theorem dX7_askOf_79 : decode cX7_askOf 79 = .ok (.istore 8, 2) := by decide +kernel
theorem dX7_askOf_81 : decode cX7_askOf 81 = .ok (.iinc 9 1, 3) := by decide +kernel
theorem dX7_askOf_84 : decode cX7_askOf 84 = .ok (.goto (-40), 3) := by decide +kernel
theorem dX7_askOf_87 : decode cX7_askOf 87 = .ok (.iload 8, 2) := by decide +kernel
theorem dX7_askOf_89 : decode cX7_askOf 89 = .ok (.iload 6, 2) := by decide +kernel
theorem dX7_askOf_91 : decode cX7_askOf 91 = .ok (.if_icmp .le 8, 3) := by decide +kernel
theorem dX7_askOf_94 : decode cX7_askOf 94 = .ok (.iload 8, 2) := by decide +kernel
theorem dX7_askOf_96 : decode cX7_askOf 96 = .ok (.goto 5, 3) := by decide +kernel
theorem dX7_askOf_99 : decode cX7_askOf 99 = .ok (.iload 6, 2) := by decide +kernel
theorem dX7_askOf_101 : decode cX7_askOf 101 = .ok (.istore 6, 2) := by decide +kernel
theorem dX7_askOf_103 : decode cX7_askOf 103 = .ok (.iinc 7 1, 3) := by decide +kernel
theorem dX7_askOf_106 : decode cX7_askOf 106 = .ok (.goto (-74), 3) := by decide +kernel
theorem dX7_askOf_109 : decode cX7_askOf 109 = .ok (.iload 6, 2) := by decide +kernel
theorem dX7_askOf_111 : decode cX7_askOf 111 = .ok (.iload 4, 2) := by decide +kernel
theorem dX7_askOf_113 : decode cX7_askOf 113 = .ok (.if_icmp .ge 8, 3) := by decide +kernel
theorem dX7_askOf_116 : decode cX7_askOf 116 = .ok (.iload 5, 2) := by decide +kernel
theorem dX7_askOf_118 : decode cX7_askOf 118 = .ok (.goto 4, 3) := by decide +kernel
theorem dX7_askOf_121 : decode cX7_askOf 121 = .ok (.iload_n 3, 1) := by decide +kernel
theorem dX7_askOf_122 : decode cX7_askOf 122 = .ok (.istore_n 3, 1) := by decide +kernel
theorem dX7_askOf_123 : decode cX7_askOf 123 = .ok (.iload 6, 2) := by decide +kernel
theorem dX7_askOf_125 : decode cX7_askOf 125 = .ok (.iload 4, 2) := by decide +kernel
theorem dX7_askOf_127 : decode cX7_askOf 127 = .ok (.if_icmp .ge 8, 3) := by decide +kernel
theorem dX7_askOf_130 : decode cX7_askOf 130 = .ok (.iload 6, 2) := by decide +kernel
theorem dX7_askOf_132 : decode cX7_askOf 132 = .ok (.goto 5, 3) := by decide +kernel
theorem dX7_askOf_135 : decode cX7_askOf 135 = .ok (.iload 4, 2) := by decide +kernel
theorem dX7_askOf_137 : decode cX7_askOf 137 = .ok (.istore 4, 2) := by decide +kernel
theorem dX7_askOf_139 : decode cX7_askOf 139 = .ok (.iinc 5 1, 3) := by decide +kernel
theorem dX7_askOf_142 : decode cX7_askOf 142 = .ok (.goto (-126), 3) := by decide +kernel
theorem dX7_askOf_145 : decode cX7_askOf 145 = .ok (.iload_n 3, 1) := by decide +kernel
theorem dX7_askOf_146 : decode cX7_askOf 146 = .ok (.ireturn, 1) := by decide +kernel
theorem dX7_draw_0 : decode cX7_draw 0 = .ok (.aload_n 0, 1) := by decide +kernel
theorem dX7_draw_1 : decode cX7_draw 1 = .ok (.ldc2_w 296, 3) := by decide +kernel
theorem dX7_draw_4 : decode cX7_draw 4 = .ok (.aload_n 0, 1) := by decide +kernel
theorem dX7_draw_5 : decode cX7_draw 5 = .ok (.getfield 298, 3) := by decide +kernel
theorem dX7_draw_8 : decode cX7_draw 8 = .ok (.lmul, 1) := by decide +kernel
theorem dX7_draw_9 : decode cX7_draw 9 = .ok (.ldc2_w 302, 3) := by decide +kernel
theorem dX7_draw_12 : decode cX7_draw 12 = .ok (.ladd, 1) := by decide +kernel
theorem dX7_draw_13 : decode cX7_draw 13 = .ok (.ldc2_w 304, 3) := by decide +kernel
theorem dX7_draw_16 : decode cX7_draw 16 = .ok (.land, 1) := by decide +kernel
theorem dX7_draw_17 : decode cX7_draw 17 = .ok (.putfield 298, 3) := by decide +kernel
theorem dX7_draw_20 : decode cX7_draw 20 = .ok (.aload_n 0, 1) := by decide +kernel
theorem dX7_draw_21 : decode cX7_draw 21 = .ok (.getfield 298, 3) := by decide +kernel
theorem dX7_draw_24 : decode cX7_draw 24 = .ok (.ldc2_w 306, 3) := by decide +kernel
theorem dX7_draw_27 : decode cX7_draw 27 = .ok (.ldiv, 1) := by decide +kernel
theorem dX7_draw_28 : decode cX7_draw 28 = .ok (.iload_n 1, 1) := by decide +kernel
theorem dX7_draw_29 : decode cX7_draw 29 = .ok (.i2l, 1) := by decide +kernel
theorem dX7_draw_30 : decode cX7_draw 30 = .ok (.lrem, 1) := by decide +kernel
theorem dX7_draw_31 : decode cX7_draw 31 = .ok (.l2i, 1) := by decide +kernel
theorem dX7_draw_32 : decode cX7_draw 32 = .ok (.ireturn, 1) := by decide +kernel
theorem dX7_drawnNow_0 : decode cX7_drawnNow 0 = .ok (.aload_n 0, 1) := by decide +kernel
theorem dX7_drawnNow_1 : decode cX7_drawnNow 1 = .ok (.iload_n 2, 1) := by decide +kernel
theorem dX7_drawnNow_2 : decode cX7_drawnNow 2 = .ok (.i2l, 1) := by decide +kernel
theorem dX7_drawnNow_3 : decode cX7_drawnNow 3 = .ok (.putfield 298, 3) := by decide +kernel
theorem dX7_drawnNow_6 : decode cX7_drawnNow 6 = .ok (.iconst 0, 1) := by decide +kernel
theorem dX7_drawnNow_7 : decode cX7_drawnNow 7 = .ok (.istore 4, 2) := by decide +kernel
theorem dX7_drawnNow_9 : decode cX7_drawnNow 9 = .ok (.iconst 0, 1) := by decide +kernel
theorem dX7_drawnNow_10 : decode cX7_drawnNow 10 = .ok (.istore 5, 2) := by decide +kernel
theorem dX7_drawnNow_12 : decode cX7_drawnNow 12 = .ok (.iconst 0, 1) := by decide +kernel
theorem dX7_drawnNow_13 : decode cX7_drawnNow 13 = .ok (.istore 6, 2) := by decide +kernel
theorem dX7_drawnNow_15 : decode cX7_drawnNow 15 = .ok (.iload 6, 2) := by decide +kernel
theorem dX7_drawnNow_17 : decode cX7_drawnNow 17 = .ok (.iload_n 1, 1) := by decide +kernel
theorem dX7_drawnNow_18 : decode cX7_drawnNow 18 = .ok (.if_icmp .ge 109, 3) := by decide +kernel
theorem dX7_drawnNow_21 : decode cX7_drawnNow 21 = .ok (.aload_n 0, 1) := by decide +kernel
theorem dX7_drawnNow_22 : decode cX7_drawnNow 22 = .ok (.iconst 5, 1) := by decide +kernel
theorem dX7_drawnNow_23 : decode cX7_drawnNow 23 = .ok (.putfield 133, 3) := by decide +kernel
theorem dX7_drawnNow_26 : decode cX7_drawnNow 26 = .ok (.aload_n 0, 1) := by decide +kernel
theorem dX7_drawnNow_27 : decode cX7_drawnNow 27 = .ok (.iconst 0, 1) := by decide +kernel
theorem dX7_drawnNow_28 : decode cX7_drawnNow 28 = .ok (.putfield 136, 3) := by decide +kernel
theorem dX7_drawnNow_31 : decode cX7_drawnNow 31 = .ok (.iconst 0, 1) := by decide +kernel
theorem dX7_drawnNow_32 : decode cX7_drawnNow 32 = .ok (.istore 7, 2) := by decide +kernel
theorem dX7_drawnNow_34 : decode cX7_drawnNow 34 = .ok (.iload 7, 2) := by decide +kernel
theorem dX7_drawnNow_36 : decode cX7_drawnNow 36 = .ok (.iconst 5, 1) := by decide +kernel
theorem dX7_drawnNow_37 : decode cX7_drawnNow 37 = .ok (.if_icmp .ge 51, 3) := by decide +kernel
theorem dX7_drawnNow_40 : decode cX7_drawnNow 40 = .ok (.aload_n 0, 1) := by decide +kernel
theorem dX7_drawnNow_41 : decode cX7_drawnNow 41 = .ok (.getfield 38, 3) := by decide +kernel
theorem dX7_drawnNow_44 : decode cX7_drawnNow 44 = .ok (.iload 7, 2) := by decide +kernel
theorem dX7_drawnNow_46 : decode cX7_drawnNow 46 = .ok (.aload_n 0, 1) := by decide +kernel
theorem dX7_drawnNow_47 : decode cX7_drawnNow 47 = .ok (.iconst 5, 1) := by decide +kernel
theorem dX7_drawnNow_48 : decode cX7_drawnNow 48 = .ok (.invokevirtual 308, 3) := by decide +kernel
theorem dX7_drawnNow_51 : decode cX7_drawnNow 51 = .ok (.iastore, 1) := by decide +kernel
theorem dX7_drawnNow_52 : decode cX7_drawnNow 52 = .ok (.aload_n 0, 1) := by decide +kernel
theorem dX7_drawnNow_53 : decode cX7_drawnNow 53 = .ok (.getfield 41, 3) := by decide +kernel
theorem dX7_drawnNow_56 : decode cX7_drawnNow 56 = .ok (.iconst 2, 1) := by decide +kernel
theorem dX7_drawnNow_57 : decode cX7_drawnNow 57 = .ok (.iload 7, 2) := by decide +kernel
theorem dX7_drawnNow_59 : decode cX7_drawnNow 59 = .ok (.imul, 1) := by decide +kernel
theorem dX7_drawnNow_60 : decode cX7_drawnNow 60 = .ok (.aload_n 0, 1) := by decide +kernel
theorem dX7_drawnNow_61 : decode cX7_drawnNow 61 = .ok (.iconst 5, 1) := by decide +kernel
theorem dX7_drawnNow_62 : decode cX7_drawnNow 62 = .ok (.invokevirtual 308, 3) := by decide +kernel
theorem dX7_drawnNow_65 : decode cX7_drawnNow 65 = .ok (.iastore, 1) := by decide +kernel
theorem dX7_drawnNow_66 : decode cX7_drawnNow 66 = .ok (.aload_n 0, 1) := by decide +kernel
theorem dX7_drawnNow_67 : decode cX7_drawnNow 67 = .ok (.getfield 41, 3) := by decide +kernel
theorem dX7_drawnNow_70 : decode cX7_drawnNow 70 = .ok (.iconst 2, 1) := by decide +kernel
theorem dX7_drawnNow_71 : decode cX7_drawnNow 71 = .ok (.iload 7, 2) := by decide +kernel
theorem dX7_drawnNow_73 : decode cX7_drawnNow 73 = .ok (.imul, 1) := by decide +kernel
theorem dX7_drawnNow_74 : decode cX7_drawnNow 74 = .ok (.iconst 1, 1) := by decide +kernel
theorem dX7_drawnNow_75 : decode cX7_drawnNow 75 = .ok (.iadd, 1) := by decide +kernel
theorem dX7_drawnNow_76 : decode cX7_drawnNow 76 = .ok (.aload_n 0, 1) := by decide +kernel
theorem dX7_drawnNow_77 : decode cX7_drawnNow 77 = .ok (.iconst 5, 1) := by decide +kernel
theorem dX7_drawnNow_78 : decode cX7_drawnNow 78 = .ok (.invokevirtual 308, 3) := by decide +kernel
theorem dX7_drawnNow_81 : decode cX7_drawnNow 81 = .ok (.iastore, 1) := by decide +kernel
theorem dX7_drawnNow_82 : decode cX7_drawnNow 82 = .ok (.iinc 7 1, 3) := by decide +kernel
theorem dX7_drawnNow_85 : decode cX7_drawnNow 85 = .ok (.goto (-51), 3) := by decide +kernel
theorem dX7_drawnNow_88 : decode cX7_drawnNow 88 = .ok (.aload_n 0, 1) := by decide +kernel
theorem dX7_drawnNow_89 : decode cX7_drawnNow 89 = .ok (.invokevirtual 195, 3) := by decide +kernel
theorem dX7_drawnNow_92 : decode cX7_drawnNow 92 = .ok (.iload 4, 2) := by decide +kernel
theorem dX7_drawnNow_94 : decode cX7_drawnNow 94 = .ok (.aload_n 0, 1) := by decide +kernel
theorem dX7_drawnNow_95 : decode cX7_drawnNow 95 = .ok (.getfield 165, 3) := by decide +kernel
theorem dX7_drawnNow_98 : decode cX7_drawnNow 98 = .ok (.ifCond .ne 7, 3) := by decide +kernel
theorem dX7_drawnNow_101 : decode cX7_drawnNow 101 = .ok (.iconst 1, 1) := by decide +kernel
theorem dX7_drawnNow_102 : decode cX7_drawnNow 102 = .ok (.goto 4, 3) := by decide +kernel
theorem dX7_drawnNow_105 : decode cX7_drawnNow 105 = .ok (.iconst 0, 1) := by decide +kernel
theorem dX7_drawnNow_106 : decode cX7_drawnNow 106 = .ok (.iadd, 1) := by decide +kernel
theorem dX7_drawnNow_107 : decode cX7_drawnNow 107 = .ok (.istore 4, 2) := by decide +kernel
theorem dX7_drawnNow_109 : decode cX7_drawnNow 109 = .ok (.iload 5, 2) := by decide +kernel
theorem dX7_drawnNow_111 : decode cX7_drawnNow 111 = .ok (.aload_n 0, 1) := by decide +kernel
theorem dX7_drawnNow_112 : decode cX7_drawnNow 112 = .ok (.getfield 168, 3) := by decide +kernel
theorem dX7_drawnNow_115 : decode cX7_drawnNow 115 = .ok (.invokestatic 156, 3) := by decide +kernel
theorem dX7_drawnNow_118 : decode cX7_drawnNow 118 = .ok (.iadd, 1) := by decide +kernel
theorem dX7_drawnNow_119 : decode cX7_drawnNow 119 = .ok (.istore 5, 2) := by decide +kernel
theorem dX7_drawnNow_121 : decode cX7_drawnNow 121 = .ok (.iinc 6 1, 3) := by decide +kernel
theorem dX7_drawnNow_124 : decode cX7_drawnNow 124 = .ok (.goto (-109), 3) := by decide +kernel
theorem dX7_drawnNow_127 : decode cX7_drawnNow 127 = .ok (.iload_n 3, 1) := by decide +kernel
theorem dX7_drawnNow_128 : decode cX7_drawnNow 128 = .ok (.ifCond .ne 8, 3) := by decide +kernel
theorem dX7_drawnNow_131 : decode cX7_drawnNow 131 = .ok (.iload 4, 2) := by decide +kernel
theorem dX7_drawnNow_133 : decode cX7_drawnNow 133 = .ok (.goto 18, 3) := by decide +kernel
theorem dX7_drawnNow_136 : decode cX7_drawnNow 136 = .ok (.iload_n 3, 1) := by decide +kernel
theorem dX7_drawnNow_137 : decode cX7_drawnNow 137 = .ok (.iconst 1, 1) := by decide +kernel
theorem dX7_drawnNow_138 : decode cX7_drawnNow 138 = .ok (.if_icmp .ne 8, 3) := by decide +kernel
theorem dX7_drawnNow_141 : decode cX7_drawnNow 141 = .ok (.iload 5, 2) := by decide +kernel
theorem dX7_drawnNow_143 : decode cX7_drawnNow 143 = .ok (.goto 8, 3) := by decide +kernel
theorem dX7_drawnNow_146 : decode cX7_drawnNow 146 = .ok (.aload_n 0, 1) := by decide +kernel
theorem dX7_drawnNow_147 : decode cX7_drawnNow 147 = .ok (.getfield 298, 3) := by decide +kernel
theorem dX7_drawnNow_150 : decode cX7_drawnNow 150 = .ok (.l2i, 1) := by decide +kernel
theorem dX7_drawnNow_151 : decode cX7_drawnNow 151 = .ok (.ireturn, 1) := by decide +kernel
theorem dX7_drawn_0 : decode cX7_drawn 0 = .ok (.iload_n 1, 1) := by decide +kernel
theorem dX7_drawn_1 : decode cX7_drawn 1 = .ok (.iconst 1, 1) := by decide +kernel
theorem dX7_drawn_2 : decode cX7_drawn 2 = .ok (.bipush 8, 2) := by decide +kernel
theorem dX7_drawn_4 : decode cX7_drawn 4 = .ok (.invokestatic 89, 3) := by decide +kernel
theorem dX7_drawn_7 : decode cX7_drawn 7 = .ok (.ifCond .eq 16, 3) := by decide +kernel
theorem dX7_drawn_10 : decode cX7_drawn 10 = .ok (.iload_n 2, 1) := by decide +kernel
theorem dX7_drawn_11 : decode cX7_drawn 11 = .ok (.ifCond .lt 12, 3) := by decide +kernel
theorem dX7_drawn_14 : decode cX7_drawn 14 = .ok (.iload_n 3, 1) := by decide +kernel
theorem dX7_drawn_15 : decode cX7_drawn 15 = .ok (.iconst 0, 1) := by decide +kernel
theorem dX7_drawn_16 : decode cX7_drawn 16 = .ok (.iconst 2, 1) := by decide +kernel
theorem dX7_drawn_17 : decode cX7_drawn 17 = .ok (.invokestatic 89, 3) := by decide +kernel
theorem dX7_drawn_20 : decode cX7_drawn 20 = .ok (.ifCond .ne 8, 3) := by decide +kernel
theorem dX7_drawn_23 : decode cX7_drawn 23 = .ok (.bipush (-102), 2) := by decide +kernel
theorem dX7_drawn_25 : decode cX7_drawn 25 = .ok (.goto 10, 3) := by decide +kernel
theorem dX7_drawn_28 : decode cX7_drawn 28 = .ok (.aload_n 0, 1) := by decide +kernel
theorem dX7_drawn_29 : decode cX7_drawn 29 = .ok (.iload_n 1, 1) := by decide +kernel
theorem dX7_drawn_30 : decode cX7_drawn 30 = .ok (.iload_n 2, 1) := by decide +kernel
theorem dX7_drawn_31 : decode cX7_drawn 31 = .ok (.iload_n 3, 1) := by decide +kernel
theorem dX7_drawn_32 : decode cX7_drawn 32 = .ok (.invokevirtual 311, 3) := by decide +kernel
theorem dX7_drawn_35 : decode cX7_drawn 35 = .ok (.ireturn, 1) := by decide +kernel
theorem dX7_image_0 : decode cX7_image 0 = .ok (.aload_n 0, 1) := by decide +kernel
theorem dX7_image_1 : decode cX7_image 1 = .ok (.getfield 121, 3) := by decide +kernel
theorem dX7_image_4 : decode cX7_image 4 = .ok (.ifCond .ne 6, 3) := by decide +kernel
theorem dX7_image_7 : decode cX7_image 7 = .ok (.bipush (-103), 2) := by decide +kernel
theorem dX7_image_9 : decode cX7_image 9 = .ok (.ireturn, 1) := by decide +kernel
theorem dX7_image_10 : decode cX7_image 10 = .ok (.aload_n 0, 1) := by decide +kernel
theorem dX7_image_11 : decode cX7_image 11 = .ok (.iconst 1, 1) := by decide +kernel
theorem dX7_image_12 : decode cX7_image 12 = .ok (.putfield 314, 3) := by decide +kernel
theorem dX7_image_15 : decode cX7_image 15 = .ok (.aload_n 0, 1) := by decide +kernel
theorem dX7_image_16 : decode cX7_image 16 = .ok (.aload_n 0, 1) := by decide +kernel
theorem dX7_image_17 : decode cX7_image 17 = .ok (.getfield 127, 3) := by decide +kernel
theorem dX7_image_20 : decode cX7_image 20 = .ok (.putfield 317, 3) := by decide +kernel
theorem dX7_image_23 : decode cX7_image 23 = .ok (.aload_n 0, 1) := by decide +kernel
theorem dX7_image_24 : decode cX7_image 24 = .ok (.aload_n 0, 1) := by decide +kernel
theorem dX7_image_25 : decode cX7_image 25 = .ok (.getfield 130, 3) := by decide +kernel
theorem dX7_image_28 : decode cX7_image 28 = .ok (.putfield 320, 3) := by decide +kernel
theorem dX7_image_31 : decode cX7_image 31 = .ok (.iconst 0, 1) := by decide +kernel
theorem dX7_image_32 : decode cX7_image 32 = .ok (.istore_n 1, 1) := by decide +kernel
theorem dX7_image_33 : decode cX7_image 33 = .ok (.iload_n 1, 1) := by decide +kernel
theorem dX7_image_34 : decode cX7_image 34 = .ok (.bipush 8, 2) := by decide +kernel
theorem dX7_image_36 : decode cX7_image 36 = .ok (.if_icmp .ge 57, 3) := by decide +kernel
theorem dX7_image_39 : decode cX7_image 39 = .ok (.aload_n 0, 1) := by decide +kernel
theorem dX7_image_40 : decode cX7_image 40 = .ok (.getfield 74, 3) := by decide +kernel
theorem dX7_image_43 : decode cX7_image 43 = .ok (.iload_n 1, 1) := by decide +kernel
theorem dX7_image_44 : decode cX7_image 44 = .ok (.aload_n 0, 1) := by decide +kernel
theorem dX7_image_45 : decode cX7_image 45 = .ok (.getfield 7, 3) := by decide +kernel
theorem dX7_image_48 : decode cX7_image 48 = .ok (.iload_n 1, 1) := by decide +kernel
theorem dX7_image_49 : decode cX7_image 49 = .ok (.iaload, 1) := by decide +kernel
theorem dX7_image_50 : decode cX7_image 50 = .ok (.iastore, 1) := by decide +kernel
theorem dX7_image_51 : decode cX7_image 51 = .ok (.aload_n 0, 1) := by decide +kernel
theorem dX7_image_52 : decode cX7_image 52 = .ok (.getfield 77, 3) := by decide +kernel
theorem dX7_image_55 : decode cX7_image 55 = .ok (.iconst 2, 1) := by decide +kernel
theorem dX7_image_56 : decode cX7_image 56 = .ok (.iload_n 1, 1) := by decide +kernel
theorem dX7_image_57 : decode cX7_image 57 = .ok (.imul, 1) := by decide +kernel
theorem dX7_image_58 : decode cX7_image 58 = .ok (.aload_n 0, 1) := by decide +kernel
theorem dX7_image_59 : decode cX7_image 59 = .ok (.getfield 13, 3) := by decide +kernel
theorem dX7_image_62 : decode cX7_image 62 = .ok (.iconst 2, 1) := by decide +kernel
theorem dX7_image_63 : decode cX7_image 63 = .ok (.iload_n 1, 1) := by decide +kernel
theorem dX7_image_64 : decode cX7_image 64 = .ok (.imul, 1) := by decide +kernel
theorem dX7_image_65 : decode cX7_image 65 = .ok (.iaload, 1) := by decide +kernel
theorem dX7_image_66 : decode cX7_image 66 = .ok (.iastore, 1) := by decide +kernel
theorem dX7_image_67 : decode cX7_image 67 = .ok (.aload_n 0, 1) := by decide +kernel
theorem dX7_image_68 : decode cX7_image 68 = .ok (.getfield 77, 3) := by decide +kernel
theorem dX7_image_71 : decode cX7_image 71 = .ok (.iconst 2, 1) := by decide +kernel
theorem dX7_image_72 : decode cX7_image 72 = .ok (.iload_n 1, 1) := by decide +kernel
theorem dX7_image_73 : decode cX7_image 73 = .ok (.imul, 1) := by decide +kernel
theorem dX7_image_74 : decode cX7_image 74 = .ok (.iconst 1, 1) := by decide +kernel
theorem dX7_image_75 : decode cX7_image 75 = .ok (.iadd, 1) := by decide +kernel
theorem dX7_image_76 : decode cX7_image 76 = .ok (.aload_n 0, 1) := by decide +kernel
theorem dX7_image_77 : decode cX7_image 77 = .ok (.getfield 13, 3) := by decide +kernel
theorem dX7_image_80 : decode cX7_image 80 = .ok (.iconst 2, 1) := by decide +kernel
theorem dX7_image_81 : decode cX7_image 81 = .ok (.iload_n 1, 1) := by decide +kernel
theorem dX7_image_82 : decode cX7_image 82 = .ok (.imul, 1) := by decide +kernel
theorem dX7_image_83 : decode cX7_image 83 = .ok (.iconst 1, 1) := by decide +kernel
theorem dX7_image_84 : decode cX7_image 84 = .ok (.iadd, 1) := by decide +kernel
theorem dX7_image_85 : decode cX7_image 85 = .ok (.iaload, 1) := by decide +kernel
theorem dX7_image_86 : decode cX7_image 86 = .ok (.iastore, 1) := by decide +kernel
theorem dX7_image_87 : decode cX7_image 87 = .ok (.iinc 1 1, 3) := by decide +kernel
theorem dX7_image_90 : decode cX7_image 90 = .ok (.goto (-57), 3) := by decide +kernel
theorem dX7_image_93 : decode cX7_image 93 = .ok (.iconst 0, 1) := by decide +kernel
theorem dX7_image_94 : decode cX7_image 94 = .ok (.istore_n 1, 1) := by decide +kernel
theorem dX7_image_95 : decode cX7_image 95 = .ok (.iload_n 1, 1) := by decide +kernel
theorem dX7_image_96 : decode cX7_image 96 = .ok (.bipush 6, 2) := by decide +kernel
theorem dX7_image_98 : decode cX7_image 98 = .ok (.if_icmp .ge 45, 3) := by decide +kernel
theorem dX7_image_101 : decode cX7_image 101 = .ok (.aload_n 0, 1) := by decide +kernel
theorem dX7_image_102 : decode cX7_image 102 = .ok (.getfield 80, 3) := by decide +kernel
theorem dX7_image_105 : decode cX7_image 105 = .ok (.iload_n 1, 1) := by decide +kernel
theorem dX7_image_106 : decode cX7_image 106 = .ok (.aload_n 0, 1) := by decide +kernel
theorem dX7_image_107 : decode cX7_image 107 = .ok (.getfield 19, 3) := by decide +kernel
theorem dX7_image_110 : decode cX7_image 110 = .ok (.iload_n 1, 1) := by decide +kernel
theorem dX7_image_111 : decode cX7_image 111 = .ok (.iaload, 1) := by decide +kernel
theorem dX7_image_112 : decode cX7_image 112 = .ok (.iastore, 1) := by decide +kernel
theorem dX7_image_113 : decode cX7_image 113 = .ok (.aload_n 0, 1) := by decide +kernel
theorem dX7_image_114 : decode cX7_image 114 = .ok (.getfield 83, 3) := by decide +kernel
theorem dX7_image_117 : decode cX7_image 117 = .ok (.iload_n 1, 1) := by decide +kernel
theorem dX7_image_118 : decode cX7_image 118 = .ok (.aload_n 0, 1) := by decide +kernel
theorem dX7_image_119 : decode cX7_image 119 = .ok (.getfield 22, 3) := by decide +kernel
theorem dX7_image_122 : decode cX7_image 122 = .ok (.iload_n 1, 1) := by decide +kernel
theorem dX7_image_123 : decode cX7_image 123 = .ok (.iaload, 1) := by decide +kernel
theorem dX7_image_124 : decode cX7_image 124 = .ok (.iastore, 1) := by decide +kernel
theorem dX7_image_125 : decode cX7_image 125 = .ok (.aload_n 0, 1) := by decide +kernel
theorem dX7_image_126 : decode cX7_image 126 = .ok (.getfield 86, 3) := by decide +kernel
theorem dX7_image_129 : decode cX7_image 129 = .ok (.iload_n 1, 1) := by decide +kernel
theorem dX7_image_130 : decode cX7_image 130 = .ok (.aload_n 0, 1) := by decide +kernel
theorem dX7_image_131 : decode cX7_image 131 = .ok (.getfield 25, 3) := by decide +kernel
theorem dX7_image_134 : decode cX7_image 134 = .ok (.iload_n 1, 1) := by decide +kernel
theorem dX7_image_135 : decode cX7_image 135 = .ok (.iaload, 1) := by decide +kernel
theorem dX7_image_136 : decode cX7_image 136 = .ok (.iastore, 1) := by decide +kernel
theorem dX7_image_137 : decode cX7_image 137 = .ok (.iinc 1 1, 3) := by decide +kernel
theorem dX7_image_140 : decode cX7_image 140 = .ok (.goto (-45), 3) := by decide +kernel
theorem dX7_image_143 : decode cX7_image 143 = .ok (.aload_n 0, 1) := by decide +kernel
theorem dX7_image_144 : decode cX7_image 144 = .ok (.getfield 121, 3) := by decide +kernel
theorem dX7_image_147 : decode cX7_image 147 = .ok (.ireturn, 1) := by decide +kernel
theorem dX7_restore_0 : decode cX7_restore 0 = .ok (.aload_n 0, 1) := by decide +kernel
theorem dX7_restore_1 : decode cX7_restore 1 = .ok (.getfield 314, 3) := by decide +kernel
theorem dX7_restore_4 : decode cX7_restore 4 = .ok (.ifCond .eq 14, 3) := by decide +kernel
theorem dX7_restore_7 : decode cX7_restore 7 = .ok (.aload_n 0, 1) := by decide +kernel
theorem dX7_restore_8 : decode cX7_restore 8 = .ok (.getfield 317, 3) := by decide +kernel
theorem dX7_restore_11 : decode cX7_restore 11 = .ok (.aload_n 0, 1) := by decide +kernel
theorem dX7_restore_12 : decode cX7_restore 12 = .ok (.getfield 127, 3) := by decide +kernel
theorem dX7_restore_15 : decode cX7_restore 15 = .ok (.if_icmp .eq 6, 3) := by decide +kernel
theorem dX7_restore_18 : decode cX7_restore 18 = .ok (.bipush (-103), 2) := by decide +kernel
theorem dX7_restore_20 : decode cX7_restore 20 = .ok (.ireturn, 1) := by decide +kernel
theorem dX7_restore_21 : decode cX7_restore 21 = .ok (.aload_n 0, 1) := by decide +kernel
theorem dX7_restore_22 : decode cX7_restore 22 = .ok (.aload_n 0, 1) := by decide +kernel
theorem dX7_restore_23 : decode cX7_restore 23 = .ok (.getfield 320, 3) := by decide +kernel
theorem dX7_restore_26 : decode cX7_restore 26 = .ok (.putfield 130, 3) := by decide +kernel
theorem dX7_restore_29 : decode cX7_restore 29 = .ok (.iconst 0, 1) := by decide +kernel
theorem dX7_restore_30 : decode cX7_restore 30 = .ok (.istore_n 1, 1) := by decide +kernel
theorem dX7_restore_31 : decode cX7_restore 31 = .ok (.iload_n 1, 1) := by decide +kernel
theorem dX7_restore_32 : decode cX7_restore 32 = .ok (.bipush 8, 2) := by decide +kernel
theorem dX7_restore_34 : decode cX7_restore 34 = .ok (.if_icmp .ge 57, 3) := by decide +kernel
theorem dX7_restore_37 : decode cX7_restore 37 = .ok (.aload_n 0, 1) := by decide +kernel
theorem dX7_restore_38 : decode cX7_restore 38 = .ok (.getfield 7, 3) := by decide +kernel
theorem dX7_restore_41 : decode cX7_restore 41 = .ok (.iload_n 1, 1) := by decide +kernel
theorem dX7_restore_42 : decode cX7_restore 42 = .ok (.aload_n 0, 1) := by decide +kernel
theorem dX7_restore_43 : decode cX7_restore 43 = .ok (.getfield 74, 3) := by decide +kernel
theorem dX7_restore_46 : decode cX7_restore 46 = .ok (.iload_n 1, 1) := by decide +kernel
theorem dX7_restore_47 : decode cX7_restore 47 = .ok (.iaload, 1) := by decide +kernel
theorem dX7_restore_48 : decode cX7_restore 48 = .ok (.iastore, 1) := by decide +kernel
theorem dX7_restore_49 : decode cX7_restore 49 = .ok (.aload_n 0, 1) := by decide +kernel
theorem dX7_restore_50 : decode cX7_restore 50 = .ok (.getfield 13, 3) := by decide +kernel
theorem dX7_restore_53 : decode cX7_restore 53 = .ok (.iconst 2, 1) := by decide +kernel
theorem dX7_restore_54 : decode cX7_restore 54 = .ok (.iload_n 1, 1) := by decide +kernel
theorem dX7_restore_55 : decode cX7_restore 55 = .ok (.imul, 1) := by decide +kernel
theorem dX7_restore_56 : decode cX7_restore 56 = .ok (.aload_n 0, 1) := by decide +kernel
theorem dX7_restore_57 : decode cX7_restore 57 = .ok (.getfield 77, 3) := by decide +kernel
theorem dX7_restore_60 : decode cX7_restore 60 = .ok (.iconst 2, 1) := by decide +kernel
theorem dX7_restore_61 : decode cX7_restore 61 = .ok (.iload_n 1, 1) := by decide +kernel
theorem dX7_restore_62 : decode cX7_restore 62 = .ok (.imul, 1) := by decide +kernel
theorem dX7_restore_63 : decode cX7_restore 63 = .ok (.iaload, 1) := by decide +kernel
theorem dX7_restore_64 : decode cX7_restore 64 = .ok (.iastore, 1) := by decide +kernel
theorem dX7_restore_65 : decode cX7_restore 65 = .ok (.aload_n 0, 1) := by decide +kernel
theorem dX7_restore_66 : decode cX7_restore 66 = .ok (.getfield 13, 3) := by decide +kernel
theorem dX7_restore_69 : decode cX7_restore 69 = .ok (.iconst 2, 1) := by decide +kernel
theorem dX7_restore_70 : decode cX7_restore 70 = .ok (.iload_n 1, 1) := by decide +kernel
theorem dX7_restore_71 : decode cX7_restore 71 = .ok (.imul, 1) := by decide +kernel
theorem dX7_restore_72 : decode cX7_restore 72 = .ok (.iconst 1, 1) := by decide +kernel
theorem dX7_restore_73 : decode cX7_restore 73 = .ok (.iadd, 1) := by decide +kernel
theorem dX7_restore_74 : decode cX7_restore 74 = .ok (.aload_n 0, 1) := by decide +kernel
theorem dX7_restore_75 : decode cX7_restore 75 = .ok (.getfield 77, 3) := by decide +kernel
theorem dX7_restore_78 : decode cX7_restore 78 = .ok (.iconst 2, 1) := by decide +kernel
theorem dX7_restore_79 : decode cX7_restore 79 = .ok (.iload_n 1, 1) := by decide +kernel
theorem dX7_restore_80 : decode cX7_restore 80 = .ok (.imul, 1) := by decide +kernel
theorem dX7_restore_81 : decode cX7_restore 81 = .ok (.iconst 1, 1) := by decide +kernel
theorem dX7_restore_82 : decode cX7_restore 82 = .ok (.iadd, 1) := by decide +kernel
theorem dX7_restore_83 : decode cX7_restore 83 = .ok (.iaload, 1) := by decide +kernel
theorem dX7_restore_84 : decode cX7_restore 84 = .ok (.iastore, 1) := by decide +kernel
theorem dX7_restore_85 : decode cX7_restore 85 = .ok (.iinc 1 1, 3) := by decide +kernel
theorem dX7_restore_88 : decode cX7_restore 88 = .ok (.goto (-57), 3) := by decide +kernel
theorem dX7_restore_91 : decode cX7_restore 91 = .ok (.iconst 0, 1) := by decide +kernel
theorem dX7_restore_92 : decode cX7_restore 92 = .ok (.istore_n 1, 1) := by decide +kernel
theorem dX7_restore_93 : decode cX7_restore 93 = .ok (.iload_n 1, 1) := by decide +kernel
theorem dX7_restore_94 : decode cX7_restore 94 = .ok (.bipush 6, 2) := by decide +kernel
theorem dX7_restore_96 : decode cX7_restore 96 = .ok (.if_icmp .ge 45, 3) := by decide +kernel
theorem dX7_restore_99 : decode cX7_restore 99 = .ok (.aload_n 0, 1) := by decide +kernel
theorem dX7_restore_100 : decode cX7_restore 100 = .ok (.getfield 19, 3) := by decide +kernel
theorem dX7_restore_103 : decode cX7_restore 103 = .ok (.iload_n 1, 1) := by decide +kernel
theorem dX7_restore_104 : decode cX7_restore 104 = .ok (.aload_n 0, 1) := by decide +kernel
theorem dX7_restore_105 : decode cX7_restore 105 = .ok (.getfield 80, 3) := by decide +kernel
theorem dX7_restore_108 : decode cX7_restore 108 = .ok (.iload_n 1, 1) := by decide +kernel
theorem dX7_restore_109 : decode cX7_restore 109 = .ok (.iaload, 1) := by decide +kernel
theorem dX7_restore_110 : decode cX7_restore 110 = .ok (.iastore, 1) := by decide +kernel
theorem dX7_restore_111 : decode cX7_restore 111 = .ok (.aload_n 0, 1) := by decide +kernel
theorem dX7_restore_112 : decode cX7_restore 112 = .ok (.getfield 22, 3) := by decide +kernel
theorem dX7_restore_115 : decode cX7_restore 115 = .ok (.iload_n 1, 1) := by decide +kernel
theorem dX7_restore_116 : decode cX7_restore 116 = .ok (.aload_n 0, 1) := by decide +kernel
theorem dX7_restore_117 : decode cX7_restore 117 = .ok (.getfield 83, 3) := by decide +kernel
theorem dX7_restore_120 : decode cX7_restore 120 = .ok (.iload_n 1, 1) := by decide +kernel
theorem dX7_restore_121 : decode cX7_restore 121 = .ok (.iaload, 1) := by decide +kernel
theorem dX7_restore_122 : decode cX7_restore 122 = .ok (.iastore, 1) := by decide +kernel
theorem dX7_restore_123 : decode cX7_restore 123 = .ok (.aload_n 0, 1) := by decide +kernel
theorem dX7_restore_124 : decode cX7_restore 124 = .ok (.getfield 25, 3) := by decide +kernel
theorem dX7_restore_127 : decode cX7_restore 127 = .ok (.iload_n 1, 1) := by decide +kernel
theorem dX7_restore_128 : decode cX7_restore 128 = .ok (.aload_n 0, 1) := by decide +kernel
theorem dX7_restore_129 : decode cX7_restore 129 = .ok (.getfield 86, 3) := by decide +kernel
theorem dX7_restore_132 : decode cX7_restore 132 = .ok (.iload_n 1, 1) := by decide +kernel
theorem dX7_restore_133 : decode cX7_restore 133 = .ok (.iaload, 1) := by decide +kernel
theorem dX7_restore_134 : decode cX7_restore 134 = .ok (.iastore, 1) := by decide +kernel
theorem dX7_restore_135 : decode cX7_restore 135 = .ok (.iinc 1 1, 3) := by decide +kernel
theorem dX7_restore_138 : decode cX7_restore 138 = .ok (.goto (-45), 3) := by decide +kernel
theorem dX7_restore_141 : decode cX7_restore 141 = .ok (.aload_n 0, 1) := by decide +kernel
theorem dX7_restore_142 : decode cX7_restore 142 = .ok (.getfield 121, 3) := by decide +kernel
theorem dX7_restore_145 : decode cX7_restore 145 = .ok (.ireturn, 1) := by decide +kernel
theorem dX7_ofGraph_0 : decode cX7_ofGraph 0 = .ok (.aload_n 0, 1) := by decide +kernel
theorem dX7_ofGraph_1 : decode cX7_ofGraph 1 = .ok (.getfield 121, 3) := by decide +kernel
theorem dX7_ofGraph_4 : decode cX7_ofGraph 4 = .ok (.ifCond .ne 5, 3) := by decide +kernel
theorem dX7_ofGraph_7 : decode cX7_ofGraph 7 = .ok (.iconst 0, 1) := by decide +kernel
theorem dX7_ofGraph_8 : decode cX7_ofGraph 8 = .ok (.ireturn, 1) := by decide +kernel
theorem dX7_ofGraph_9 : decode cX7_ofGraph 9 = .ok (.aload_n 0, 1) := by decide +kernel
theorem dX7_ofGraph_10 : decode cX7_ofGraph 10 = .ok (.invokevirtual 210, 3) := by decide +kernel
theorem dX7_ofGraph_13 : decode cX7_ofGraph 13 = .ok (.iload_n 1, 1) := by decide +kernel
theorem dX7_ofGraph_14 : decode cX7_ofGraph 14 = .ok (.iconst 1, 1) := by decide +kernel
theorem dX7_ofGraph_15 : decode cX7_ofGraph 15 = .ok (.if_icmp .ne 10, 3) := by decide +kernel
theorem dX7_ofGraph_18 : decode cX7_ofGraph 18 = .ok (.aload_n 0, 1) := by decide +kernel
theorem dX7_ofGraph_19 : decode cX7_ofGraph 19 = .ok (.getfield 150, 3) := by decide +kernel
theorem dX7_ofGraph_22 : decode cX7_ofGraph 22 = .ok (.goto 61, 3) := by decide +kernel
theorem dX7_ofGraph_25 : decode cX7_ofGraph 25 = .ok (.iload_n 1, 1) := by decide +kernel
theorem dX7_ofGraph_26 : decode cX7_ofGraph 26 = .ok (.iconst 2, 1) := by decide +kernel
theorem dX7_ofGraph_27 : decode cX7_ofGraph 27 = .ok (.if_icmp .ne 10, 3) := by decide +kernel
theorem dX7_ofGraph_30 : decode cX7_ofGraph 30 = .ok (.aload_n 0, 1) := by decide +kernel
theorem dX7_ofGraph_31 : decode cX7_ofGraph 31 = .ok (.getfield 159, 3) := by decide +kernel
theorem dX7_ofGraph_34 : decode cX7_ofGraph 34 = .ok (.goto 49, 3) := by decide +kernel
theorem dX7_ofGraph_37 : decode cX7_ofGraph 37 = .ok (.iload_n 1, 1) := by decide +kernel
theorem dX7_ofGraph_38 : decode cX7_ofGraph 38 = .ok (.iconst 3, 1) := by decide +kernel
theorem dX7_ofGraph_39 : decode cX7_ofGraph 39 = .ok (.if_icmp .ne 10, 3) := by decide +kernel
theorem dX7_ofGraph_42 : decode cX7_ofGraph 42 = .ok (.aload_n 0, 1) := by decide +kernel
theorem dX7_ofGraph_43 : decode cX7_ofGraph 43 = .ok (.getfield 162, 3) := by decide +kernel
theorem dX7_ofGraph_46 : decode cX7_ofGraph 46 = .ok (.goto 37, 3) := by decide +kernel
theorem dX7_ofGraph_49 : decode cX7_ofGraph 49 = .ok (.iload_n 1, 1) := by decide +kernel
theorem dX7_ofGraph_50 : decode cX7_ofGraph 50 = .ok (.iconst 4, 1) := by decide +kernel
theorem dX7_ofGraph_51 : decode cX7_ofGraph 51 = .ok (.if_icmp .ne 10, 3) := by decide +kernel
theorem dX7_ofGraph_54 : decode cX7_ofGraph 54 = .ok (.aload_n 0, 1) := by decide +kernel
theorem dX7_ofGraph_55 : decode cX7_ofGraph 55 = .ok (.getfield 165, 3) := by decide +kernel
theorem dX7_ofGraph_58 : decode cX7_ofGraph 58 = .ok (.goto 25, 3) := by decide +kernel
theorem dX7_ofGraph_61 : decode cX7_ofGraph 61 = .ok (.iload_n 1, 1) := by decide +kernel
theorem dX7_ofGraph_62 : decode cX7_ofGraph 62 = .ok (.iconst 5, 1) := by decide +kernel
theorem dX7_ofGraph_63 : decode cX7_ofGraph 63 = .ok (.if_icmp .ne 13, 3) := by decide +kernel
theorem dX7_ofGraph_66 : decode cX7_ofGraph 66 = .ok (.aload_n 0, 1) := by decide +kernel
theorem dX7_ofGraph_67 : decode cX7_ofGraph 67 = .ok (.getfield 168, 3) := by decide +kernel
theorem dX7_ofGraph_70 : decode cX7_ofGraph 70 = .ok (.invokestatic 156, 3) := by decide +kernel
theorem dX7_ofGraph_73 : decode cX7_ofGraph 73 = .ok (.goto 10, 3) := by decide +kernel
theorem dX7_ofGraph_76 : decode cX7_ofGraph 76 = .ok (.aload_n 0, 1) := by decide +kernel
theorem dX7_ofGraph_77 : decode cX7_ofGraph 77 = .ok (.getfield 171, 3) := by decide +kernel
theorem dX7_ofGraph_80 : decode cX7_ofGraph 80 = .ok (.invokestatic 156, 3) := by decide +kernel
theorem dX7_ofGraph_83 : decode cX7_ofGraph 83 = .ok (.ireturn, 1) := by decide +kernel
theorem dX7_howMany_0 : decode cX7_howMany 0 = .ok (.iload_n 1, 1) := by decide +kernel
theorem dX7_howMany_1 : decode cX7_howMany 1 = .ok (.tableswitch 93 0 11 #[63, 93, 93, 93, 93, 93, 93, 68, 73, 78, 83, 88], 63) := by decide +kernel
theorem dX7_howMany_64 : decode cX7_howMany 64 = .ok (.aload_n 0, 1) := by decide +kernel
theorem dX7_howMany_65 : decode cX7_howMany 65 = .ok (.getfield 121, 3) := by decide +kernel
theorem dX7_howMany_68 : decode cX7_howMany 68 = .ok (.ireturn, 1) := by decide +kernel
theorem dX7_howMany_69 : decode cX7_howMany 69 = .ok (.aload_n 0, 1) := by decide +kernel
theorem dX7_howMany_70 : decode cX7_howMany 70 = .ok (.getfield 124, 3) := by decide +kernel
theorem dX7_howMany_73 : decode cX7_howMany 73 = .ok (.ireturn, 1) := by decide +kernel
theorem dX7_howMany_74 : decode cX7_howMany 74 = .ok (.aload_n 0, 1) := by decide +kernel
theorem dX7_howMany_75 : decode cX7_howMany 75 = .ok (.getfield 130, 3) := by decide +kernel
theorem dX7_howMany_78 : decode cX7_howMany 78 = .ok (.ireturn, 1) := by decide +kernel
theorem dX7_howMany_79 : decode cX7_howMany 79 = .ok (.aload_n 0, 1) := by decide +kernel
theorem dX7_howMany_80 : decode cX7_howMany 80 = .ok (.getfield 93, 3) := by decide +kernel
theorem dX7_howMany_83 : decode cX7_howMany 83 = .ok (.ireturn, 1) := by decide +kernel
theorem dX7_howMany_84 : decode cX7_howMany 84 = .ok (.aload_n 0, 1) := by decide +kernel
theorem dX7_howMany_85 : decode cX7_howMany 85 = .ok (.getfield 127, 3) := by decide +kernel
theorem dX7_howMany_88 : decode cX7_howMany 88 = .ok (.ireturn, 1) := by decide +kernel
theorem dX7_howMany_89 : decode cX7_howMany 89 = .ok (.aload_n 0, 1) := by decide +kernel
theorem dX7_howMany_90 : decode cX7_howMany 90 = .ok (.getfield 283, 3) := by decide +kernel
theorem dX7_howMany_93 : decode cX7_howMany 93 = .ok (.ireturn, 1) := by decide +kernel
theorem dX7_howMany_94 : decode cX7_howMany 94 = .ok (.iload_n 1, 1) := by decide +kernel
theorem dX7_howMany_95 : decode cX7_howMany 95 = .ok (.iconst 1, 1) := by decide +kernel
theorem dX7_howMany_96 : decode cX7_howMany 96 = .ok (.bipush 6, 2) := by decide +kernel
theorem dX7_howMany_98 : decode cX7_howMany 98 = .ok (.invokestatic 89, 3) := by decide +kernel
theorem dX7_howMany_101 : decode cX7_howMany 101 = .ok (.ifCond .eq 11, 3) := by decide +kernel
theorem dX7_howMany_104 : decode cX7_howMany 104 = .ok (.aload_n 0, 1) := by decide +kernel
theorem dX7_howMany_105 : decode cX7_howMany 105 = .ok (.iload_n 1, 1) := by decide +kernel
theorem dX7_howMany_106 : decode cX7_howMany 106 = .ok (.invokevirtual 323, 3) := by decide +kernel
theorem dX7_howMany_109 : decode cX7_howMany 109 = .ok (.goto 5, 3) := by decide +kernel
theorem dX7_howMany_112 : decode cX7_howMany 112 = .ok (.bipush (-102), 2) := by decide +kernel
theorem dX7_howMany_114 : decode cX7_howMany 114 = .ok (.ireturn, 1) := by decide +kernel
theorem dX7_count_0 : decode cX7_count 0 = .ok (.aload_n 0, 1) := by decide +kernel
theorem dX7_count_1 : decode cX7_count 1 = .ok (.iload_n 1, 1) := by decide +kernel
theorem dX7_count_2 : decode cX7_count 2 = .ok (.invokevirtual 326, 3) := by decide +kernel
theorem dX7_count_5 : decode cX7_count 5 = .ok (.ireturn, 1) := by decide +kernel
theorem dX7_mix_0 : decode cX7_mix 0 = .ok (.aload_n 0, 1) := by decide +kernel
theorem dX7_mix_1 : decode cX7_mix 1 = .ok (.ldc2_w 329, 3) := by decide +kernel
theorem dX7_mix_4 : decode cX7_mix 4 = .ok (.aload_n 0, 1) := by decide +kernel
theorem dX7_mix_5 : decode cX7_mix 5 = .ok (.getfield 331, 3) := by decide +kernel
theorem dX7_mix_8 : decode cX7_mix 8 = .ok (.lmul, 1) := by decide +kernel
theorem dX7_mix_9 : decode cX7_mix 9 = .ok (.lload_n 1, 1) := by decide +kernel
theorem dX7_mix_10 : decode cX7_mix 10 = .ok (.ladd, 1) := by decide +kernel
theorem dX7_mix_11 : decode cX7_mix 11 = .ok (.putfield 331, 3) := by decide +kernel
theorem dX7_mix_14 : decode cX7_mix 14 = .ok (.return_, 1) := by decide +kernel
theorem dX7_mixGraph_0 : decode cX7_mixGraph 0 = .ok (.aload_n 0, 1) := by decide +kernel
theorem dX7_mixGraph_1 : decode cX7_mixGraph 1 = .ok (.invokevirtual 210, 3) := by decide +kernel
theorem dX7_mixGraph_4 : decode cX7_mixGraph 4 = .ok (.iconst 0, 1) := by decide +kernel
theorem dX7_mixGraph_5 : decode cX7_mixGraph 5 = .ok (.istore_n 1, 1) := by decide +kernel
theorem dX7_mixGraph_6 : decode cX7_mixGraph 6 = .ok (.iload_n 1, 1) := by decide +kernel
theorem dX7_mixGraph_7 : decode cX7_mixGraph 7 = .ok (.aload_n 0, 1) := by decide +kernel
theorem dX7_mixGraph_8 : decode cX7_mixGraph 8 = .ok (.getfield 121, 3) := by decide +kernel
theorem dX7_mixGraph_11 : decode cX7_mixGraph 11 = .ok (.if_icmp .ge 60, 3) := by decide +kernel
theorem dX7_mixGraph_14 : decode cX7_mixGraph 14 = .ok (.iconst 0, 1) := by decide +kernel
theorem dX7_mixGraph_15 : decode cX7_mixGraph 15 = .ok (.istore_n 2, 1) := by decide +kernel
theorem dX7_mixGraph_16 : decode cX7_mixGraph 16 = .ok (.iload_n 2, 1) := by decide +kernel
theorem dX7_mixGraph_17 : decode cX7_mixGraph 17 = .ok (.bipush 10, 2) := by decide +kernel
theorem dX7_mixGraph_19 : decode cX7_mixGraph 19 = .ok (.if_icmp .ge 20, 3) := by decide +kernel
theorem dX7_mixGraph_22 : decode cX7_mixGraph 22 = .ok (.aload_n 0, 1) := by decide +kernel
theorem dX7_mixGraph_23 : decode cX7_mixGraph 23 = .ok (.aload_n 0, 1) := by decide +kernel
theorem dX7_mixGraph_24 : decode cX7_mixGraph 24 = .ok (.iload_n 1, 1) := by decide +kernel
theorem dX7_mixGraph_25 : decode cX7_mixGraph 25 = .ok (.iload_n 2, 1) := by decide +kernel
theorem dX7_mixGraph_26 : decode cX7_mixGraph 26 = .ok (.invokevirtual 213, 3) := by decide +kernel
theorem dX7_mixGraph_29 : decode cX7_mixGraph 29 = .ok (.i2l, 1) := by decide +kernel
theorem dX7_mixGraph_30 : decode cX7_mixGraph 30 = .ok (.invokevirtual 334, 3) := by decide +kernel
theorem dX7_mixGraph_33 : decode cX7_mixGraph 33 = .ok (.iinc 2 1, 3) := by decide +kernel
theorem dX7_mixGraph_36 : decode cX7_mixGraph 36 = .ok (.goto (-20), 3) := by decide +kernel
theorem dX7_mixGraph_39 : decode cX7_mixGraph 39 = .ok (.aload_n 0, 1) := by decide +kernel
theorem dX7_mixGraph_40 : decode cX7_mixGraph 40 = .ok (.aload_n 0, 1) := by decide +kernel
theorem dX7_mixGraph_41 : decode cX7_mixGraph 41 = .ok (.iconst 2, 1) := by decide +kernel
theorem dX7_mixGraph_42 : decode cX7_mixGraph 42 = .ok (.iload_n 1, 1) := by decide +kernel
theorem dX7_mixGraph_43 : decode cX7_mixGraph 43 = .ok (.imul, 1) := by decide +kernel
theorem dX7_mixGraph_44 : decode cX7_mixGraph 44 = .ok (.invokevirtual 217, 3) := by decide +kernel
theorem dX7_mixGraph_47 : decode cX7_mixGraph 47 = .ok (.i2l, 1) := by decide +kernel
theorem dX7_mixGraph_48 : decode cX7_mixGraph 48 = .ok (.invokevirtual 334, 3) := by decide +kernel
theorem dX7_mixGraph_51 : decode cX7_mixGraph 51 = .ok (.aload_n 0, 1) := by decide +kernel
theorem dX7_mixGraph_52 : decode cX7_mixGraph 52 = .ok (.aload_n 0, 1) := by decide +kernel
theorem dX7_mixGraph_53 : decode cX7_mixGraph 53 = .ok (.iconst 2, 1) := by decide +kernel
theorem dX7_mixGraph_54 : decode cX7_mixGraph 54 = .ok (.iload_n 1, 1) := by decide +kernel
theorem dX7_mixGraph_55 : decode cX7_mixGraph 55 = .ok (.imul, 1) := by decide +kernel
theorem dX7_mixGraph_56 : decode cX7_mixGraph 56 = .ok (.iconst 1, 1) := by decide +kernel
theorem dX7_mixGraph_57 : decode cX7_mixGraph 57 = .ok (.iadd, 1) := by decide +kernel
theorem dX7_mixGraph_58 : decode cX7_mixGraph 58 = .ok (.invokevirtual 217, 3) := by decide +kernel
theorem dX7_mixGraph_61 : decode cX7_mixGraph 61 = .ok (.i2l, 1) := by decide +kernel
theorem dX7_mixGraph_62 : decode cX7_mixGraph 62 = .ok (.invokevirtual 334, 3) := by decide +kernel
theorem dX7_mixGraph_65 : decode cX7_mixGraph 65 = .ok (.iinc 1 1, 3) := by decide +kernel
theorem dX7_mixGraph_68 : decode cX7_mixGraph 68 = .ok (.goto (-62), 3) := by decide +kernel
theorem dX7_mixGraph_71 : decode cX7_mixGraph 71 = .ok (.aload_n 0, 1) := by decide +kernel
theorem dX7_mixGraph_72 : decode cX7_mixGraph 72 = .ok (.invokevirtual 277, 3) := by decide +kernel
theorem dX7_mixGraph_75 : decode cX7_mixGraph 75 = .ok (.iconst 0, 1) := by decide +kernel
theorem dX7_mixGraph_76 : decode cX7_mixGraph 76 = .ok (.istore_n 1, 1) := by decide +kernel
theorem dX7_mixGraph_77 : decode cX7_mixGraph 77 = .ok (.iload_n 1, 1) := by decide +kernel
theorem dX7_mixGraph_78 : decode cX7_mixGraph 78 = .ok (.iconst 4, 1) := by decide +kernel
theorem dX7_mixGraph_79 : decode cX7_mixGraph 79 = .ok (.if_icmp .ge 19, 3) := by decide +kernel
theorem dX7_mixGraph_82 : decode cX7_mixGraph 82 = .ok (.aload_n 0, 1) := by decide +kernel
theorem dX7_mixGraph_83 : decode cX7_mixGraph 83 = .ok (.aload_n 0, 1) := by decide +kernel
theorem dX7_mixGraph_84 : decode cX7_mixGraph 84 = .ok (.iload_n 1, 1) := by decide +kernel
theorem dX7_mixGraph_85 : decode cX7_mixGraph 85 = .ok (.invokevirtual 280, 3) := by decide +kernel
theorem dX7_mixGraph_88 : decode cX7_mixGraph 88 = .ok (.i2l, 1) := by decide +kernel
theorem dX7_mixGraph_89 : decode cX7_mixGraph 89 = .ok (.invokevirtual 334, 3) := by decide +kernel
theorem dX7_mixGraph_92 : decode cX7_mixGraph 92 = .ok (.iinc 1 1, 3) := by decide +kernel
theorem dX7_mixGraph_95 : decode cX7_mixGraph 95 = .ok (.goto (-18), 3) := by decide +kernel
theorem dX7_mixGraph_98 : decode cX7_mixGraph 98 = .ok (.iconst 0, 1) := by decide +kernel
theorem dX7_mixGraph_99 : decode cX7_mixGraph 99 = .ok (.istore_n 1, 1) := by decide +kernel
theorem dX7_mixGraph_100 : decode cX7_mixGraph 100 = .ok (.iload_n 1, 1) := by decide +kernel
theorem dX7_mixGraph_101 : decode cX7_mixGraph 101 = .ok (.aload_n 0, 1) := by decide +kernel
theorem dX7_mixGraph_102 : decode cX7_mixGraph 102 = .ok (.getfield 227, 3) := by decide +kernel
theorem dX7_mixGraph_105 : decode cX7_mixGraph 105 = .ok (.if_icmp .ge 20, 3) := by decide +kernel
theorem dX7_mixGraph_108 : decode cX7_mixGraph 108 = .ok (.aload_n 0, 1) := by decide +kernel
theorem dX7_mixGraph_109 : decode cX7_mixGraph 109 = .ok (.aload_n 0, 1) := by decide +kernel
theorem dX7_mixGraph_110 : decode cX7_mixGraph 110 = .ok (.getfield 65, 3) := by decide +kernel
theorem dX7_mixGraph_113 : decode cX7_mixGraph 113 = .ok (.iload_n 1, 1) := by decide +kernel
theorem dX7_mixGraph_114 : decode cX7_mixGraph 114 = .ok (.iaload, 1) := by decide +kernel
theorem dX7_mixGraph_115 : decode cX7_mixGraph 115 = .ok (.i2l, 1) := by decide +kernel
theorem dX7_mixGraph_116 : decode cX7_mixGraph 116 = .ok (.invokevirtual 334, 3) := by decide +kernel
theorem dX7_mixGraph_119 : decode cX7_mixGraph 119 = .ok (.iinc 1 1, 3) := by decide +kernel
theorem dX7_mixGraph_122 : decode cX7_mixGraph 122 = .ok (.goto (-22), 3) := by decide +kernel
theorem dX7_mixGraph_125 : decode cX7_mixGraph 125 = .ok (.return_, 1) := by decide +kernel
theorem dX7_digest_0 : decode cX7_digest 0 = .ok (.aload_n 0, 1) := by decide +kernel
theorem dX7_digest_1 : decode cX7_digest 1 = .ok (.ldc2_w 338, 3) := by decide +kernel
theorem dX7_digest_4 : decode cX7_digest 4 = .ok (.putfield 331, 3) := by decide +kernel
theorem dX7_digest_7 : decode cX7_digest 7 = .ok (.aload_n 0, 1) := by decide +kernel
theorem dX7_digest_8 : decode cX7_digest 8 = .ok (.getfield 121, 3) := by decide +kernel
theorem dX7_digest_11 : decode cX7_digest 11 = .ok (.ifCond .le 7, 3) := by decide +kernel
theorem dX7_digest_14 : decode cX7_digest 14 = .ok (.aload_n 0, 1) := by decide +kernel
theorem dX7_digest_15 : decode cX7_digest 15 = .ok (.invokevirtual 340, 3) := by decide +kernel
theorem dX7_digest_18 : decode cX7_digest 18 = .ok (.iconst 0, 1) := by decide +kernel
theorem dX7_digest_19 : decode cX7_digest 19 = .ok (.istore_n 1, 1) := by decide +kernel
theorem dX7_digest_20 : decode cX7_digest 20 = .ok (.iload_n 1, 1) := by decide +kernel
theorem dX7_digest_21 : decode cX7_digest 21 = .ok (.aload_n 0, 1) := by decide +kernel
theorem dX7_digest_22 : decode cX7_digest 22 = .ok (.getfield 124, 3) := by decide +kernel
theorem dX7_digest_25 : decode cX7_digest 25 = .ok (.if_icmp .ge 20, 3) := by decide +kernel
theorem dX7_digest_28 : decode cX7_digest 28 = .ok (.aload_n 0, 1) := by decide +kernel
theorem dX7_digest_29 : decode cX7_digest 29 = .ok (.aload_n 0, 1) := by decide +kernel
theorem dX7_digest_30 : decode cX7_digest 30 = .ok (.getfield 16, 3) := by decide +kernel
theorem dX7_digest_33 : decode cX7_digest 33 = .ok (.iload_n 1, 1) := by decide +kernel
theorem dX7_digest_34 : decode cX7_digest 34 = .ok (.iaload, 1) := by decide +kernel
theorem dX7_digest_35 : decode cX7_digest 35 = .ok (.i2l, 1) := by decide +kernel
theorem dX7_digest_36 : decode cX7_digest 36 = .ok (.invokevirtual 334, 3) := by decide +kernel
theorem dX7_digest_39 : decode cX7_digest 39 = .ok (.iinc 1 1, 3) := by decide +kernel
theorem dX7_digest_42 : decode cX7_digest 42 = .ok (.goto (-22), 3) := by decide +kernel
theorem dX7_digest_45 : decode cX7_digest 45 = .ok (.iconst 0, 1) := by decide +kernel
theorem dX7_digest_46 : decode cX7_digest 46 = .ok (.istore_n 1, 1) := by decide +kernel
theorem dX7_digest_47 : decode cX7_digest 47 = .ok (.iload_n 1, 1) := by decide +kernel
theorem dX7_digest_48 : decode cX7_digest 48 = .ok (.aload_n 0, 1) := by decide +kernel
theorem dX7_digest_49 : decode cX7_digest 49 = .ok (.getfield 93, 3) := by decide +kernel
theorem dX7_digest_52 : decode cX7_digest 52 = .ok (.if_icmp .ge 20, 3) := by decide +kernel
theorem dX7_digest_55 : decode cX7_digest 55 = .ok (.aload_n 0, 1) := by decide +kernel
theorem dX7_digest_56 : decode cX7_digest 56 = .ok (.aload_n 0, 1) := by decide +kernel
theorem dX7_digest_57 : decode cX7_digest 57 = .ok (.getfield 28, 3) := by decide +kernel
theorem dX7_digest_60 : decode cX7_digest 60 = .ok (.iload_n 1, 1) := by decide +kernel
theorem dX7_digest_61 : decode cX7_digest 61 = .ok (.baload, 1) := by decide +kernel
theorem dX7_digest_62 : decode cX7_digest 62 = .ok (.i2l, 1) := by decide +kernel
theorem dX7_digest_63 : decode cX7_digest 63 = .ok (.invokevirtual 334, 3) := by decide +kernel
theorem dX7_digest_66 : decode cX7_digest 66 = .ok (.iinc 1 1, 3) := by decide +kernel
theorem dX7_digest_69 : decode cX7_digest 69 = .ok (.goto (-22), 3) := by decide +kernel
theorem dX7_digest_72 : decode cX7_digest 72 = .ok (.iconst 0, 1) := by decide +kernel
theorem dX7_digest_73 : decode cX7_digest 73 = .ok (.istore_n 1, 1) := by decide +kernel
theorem dX7_digest_74 : decode cX7_digest 74 = .ok (.iload_n 1, 1) := by decide +kernel
theorem dX7_digest_75 : decode cX7_digest 75 = .ok (.bipush 12, 2) := by decide +kernel
theorem dX7_digest_77 : decode cX7_digest 77 = .ok (.if_icmp .ge 19, 3) := by decide +kernel
theorem dX7_digest_80 : decode cX7_digest 80 = .ok (.aload_n 0, 1) := by decide +kernel
theorem dX7_digest_81 : decode cX7_digest 81 = .ok (.aload_n 0, 1) := by decide +kernel
theorem dX7_digest_82 : decode cX7_digest 82 = .ok (.iload_n 1, 1) := by decide +kernel
theorem dX7_digest_83 : decode cX7_digest 83 = .ok (.invokevirtual 326, 3) := by decide +kernel
theorem dX7_digest_86 : decode cX7_digest 86 = .ok (.i2l, 1) := by decide +kernel
theorem dX7_digest_87 : decode cX7_digest 87 = .ok (.invokevirtual 334, 3) := by decide +kernel
theorem dX7_digest_90 : decode cX7_digest 90 = .ok (.iinc 1 1, 3) := by decide +kernel
theorem dX7_digest_93 : decode cX7_digest 93 = .ok (.goto (-19), 3) := by decide +kernel
theorem dX7_digest_96 : decode cX7_digest 96 = .ok (.aload_n 0, 1) := by decide +kernel
theorem dX7_digest_97 : decode cX7_digest 97 = .ok (.getfield 331, 3) := by decide +kernel
theorem dX7_digest_100 : decode cX7_digest 100 = .ok (.lreturn, 1) := by decide +kernel
theorem dJ6_bitCount_0f7a4_0 : decode cJ6_bitCount_0f7a4 0 = .ok (.iload_n 0, 1) := by decide +kernel
theorem dJ6_bitCount_0f7a4_1 : decode cJ6_bitCount_0f7a4 1 = .ok (.iload_n 0, 1) := by decide +kernel
theorem dJ6_bitCount_0f7a4_2 : decode cJ6_bitCount_0f7a4 2 = .ok (.iconst 1, 1) := by decide +kernel
theorem dJ6_bitCount_0f7a4_3 : decode cJ6_bitCount_0f7a4 3 = .ok (.iushr, 1) := by decide +kernel
theorem dJ6_bitCount_0f7a4_4 : decode cJ6_bitCount_0f7a4 4 = .ok (.ldc_w 265, 3) := by decide +kernel
theorem dJ6_bitCount_0f7a4_7 : decode cJ6_bitCount_0f7a4 7 = .ok (.iand, 1) := by decide +kernel
theorem dJ6_bitCount_0f7a4_8 : decode cJ6_bitCount_0f7a4 8 = .ok (.isub, 1) := by decide +kernel
theorem dJ6_bitCount_0f7a4_9 : decode cJ6_bitCount_0f7a4 9 = .ok (.istore_n 0, 1) := by decide +kernel
theorem dJ6_bitCount_0f7a4_10 : decode cJ6_bitCount_0f7a4 10 = .ok (.iload_n 0, 1) := by decide +kernel
theorem dJ6_bitCount_0f7a4_11 : decode cJ6_bitCount_0f7a4 11 = .ok (.ldc_w 266, 3) := by decide +kernel
theorem dJ6_bitCount_0f7a4_14 : decode cJ6_bitCount_0f7a4 14 = .ok (.iand, 1) := by decide +kernel
theorem dJ6_bitCount_0f7a4_15 : decode cJ6_bitCount_0f7a4 15 = .ok (.iload_n 0, 1) := by decide +kernel
theorem dJ6_bitCount_0f7a4_16 : decode cJ6_bitCount_0f7a4 16 = .ok (.iconst 2, 1) := by decide +kernel
theorem dJ6_bitCount_0f7a4_17 : decode cJ6_bitCount_0f7a4 17 = .ok (.iushr, 1) := by decide +kernel
theorem dJ6_bitCount_0f7a4_18 : decode cJ6_bitCount_0f7a4 18 = .ok (.ldc_w 266, 3) := by decide +kernel
theorem dJ6_bitCount_0f7a4_21 : decode cJ6_bitCount_0f7a4 21 = .ok (.iand, 1) := by decide +kernel
theorem dJ6_bitCount_0f7a4_22 : decode cJ6_bitCount_0f7a4 22 = .ok (.iadd, 1) := by decide +kernel
theorem dJ6_bitCount_0f7a4_23 : decode cJ6_bitCount_0f7a4 23 = .ok (.istore_n 0, 1) := by decide +kernel
theorem dJ6_bitCount_0f7a4_24 : decode cJ6_bitCount_0f7a4 24 = .ok (.iload_n 0, 1) := by decide +kernel
theorem dJ6_bitCount_0f7a4_25 : decode cJ6_bitCount_0f7a4 25 = .ok (.iload_n 0, 1) := by decide +kernel
theorem dJ6_bitCount_0f7a4_26 : decode cJ6_bitCount_0f7a4 26 = .ok (.iconst 4, 1) := by decide +kernel
theorem dJ6_bitCount_0f7a4_27 : decode cJ6_bitCount_0f7a4 27 = .ok (.iushr, 1) := by decide +kernel
theorem dJ6_bitCount_0f7a4_28 : decode cJ6_bitCount_0f7a4 28 = .ok (.iadd, 1) := by decide +kernel
theorem dJ6_bitCount_0f7a4_29 : decode cJ6_bitCount_0f7a4 29 = .ok (.ldc_w 267, 3) := by decide +kernel
theorem dJ6_bitCount_0f7a4_32 : decode cJ6_bitCount_0f7a4 32 = .ok (.iand, 1) := by decide +kernel
theorem dJ6_bitCount_0f7a4_33 : decode cJ6_bitCount_0f7a4 33 = .ok (.istore_n 0, 1) := by decide +kernel
theorem dJ6_bitCount_0f7a4_34 : decode cJ6_bitCount_0f7a4 34 = .ok (.iload_n 0, 1) := by decide +kernel
theorem dJ6_bitCount_0f7a4_35 : decode cJ6_bitCount_0f7a4 35 = .ok (.iload_n 0, 1) := by decide +kernel
theorem dJ6_bitCount_0f7a4_36 : decode cJ6_bitCount_0f7a4 36 = .ok (.bipush 8, 2) := by decide +kernel
theorem dJ6_bitCount_0f7a4_38 : decode cJ6_bitCount_0f7a4 38 = .ok (.iushr, 1) := by decide +kernel
theorem dJ6_bitCount_0f7a4_39 : decode cJ6_bitCount_0f7a4 39 = .ok (.iadd, 1) := by decide +kernel
theorem dJ6_bitCount_0f7a4_40 : decode cJ6_bitCount_0f7a4 40 = .ok (.istore_n 0, 1) := by decide +kernel
theorem dJ6_bitCount_0f7a4_41 : decode cJ6_bitCount_0f7a4 41 = .ok (.iload_n 0, 1) := by decide +kernel
theorem dJ6_bitCount_0f7a4_42 : decode cJ6_bitCount_0f7a4 42 = .ok (.iload_n 0, 1) := by decide +kernel
theorem dJ6_bitCount_0f7a4_43 : decode cJ6_bitCount_0f7a4 43 = .ok (.bipush 16, 2) := by decide +kernel
theorem dJ6_bitCount_0f7a4_45 : decode cJ6_bitCount_0f7a4 45 = .ok (.iushr, 1) := by decide +kernel
theorem dJ6_bitCount_0f7a4_46 : decode cJ6_bitCount_0f7a4 46 = .ok (.iadd, 1) := by decide +kernel
theorem dJ6_bitCount_0f7a4_47 : decode cJ6_bitCount_0f7a4 47 = .ok (.istore_n 0, 1) := by decide +kernel
theorem dJ6_bitCount_0f7a4_48 : decode cJ6_bitCount_0f7a4 48 = .ok (.iload_n 0, 1) := by decide +kernel
theorem dJ6_bitCount_0f7a4_49 : decode cJ6_bitCount_0f7a4 49 = .ok (.bipush 63, 2) := by decide +kernel
theorem dJ6_bitCount_0f7a4_51 : decode cJ6_bitCount_0f7a4 51 = .ok (.iand, 1) := by decide +kernel
theorem dJ6_bitCount_0f7a4_52 : decode cJ6_bitCount_0f7a4 52 = .ok (.ireturn, 1) := by decide +kernel
theorem dJ0_length_8abf5_0 : decode cJ0_length_8abf5 0 = .ok (.aload_n 0, 1) := by decide +kernel
theorem dJ0_length_8abf5_1 : decode cJ0_length_8abf5 1 = .ok (.getfield 9, 3) := by decide +kernel
theorem dJ0_length_8abf5_4 : decode cJ0_length_8abf5 4 = .ok (.arraylength, 1) := by decide +kernel
theorem dJ0_length_8abf5_5 : decode cJ0_length_8abf5 5 = .ok (.aload_n 0, 1) := by decide +kernel
theorem dJ0_length_8abf5_6 : decode cJ0_length_8abf5 6 = .ok (.invokevirtual 335, 3) := by decide +kernel
theorem dJ0_length_8abf5_9 : decode cJ0_length_8abf5 9 = .ok (.ishr, 1) := by decide +kernel
theorem dJ0_length_8abf5_10 : decode cJ0_length_8abf5 10 = .ok (.ireturn, 1) := by decide +kernel
theorem dJ0_indexOf_0f7a4_0 : decode cJ0_indexOf_0f7a4 0 = .ok (.aload_n 0, 1) := by decide +kernel
theorem dJ0_indexOf_0f7a4_1 : decode cJ0_indexOf_0f7a4 1 = .ok (.iload_n 1, 1) := by decide +kernel
theorem dJ0_indexOf_0f7a4_2 : decode cJ0_indexOf_0f7a4 2 = .ok (.iconst 0, 1) := by decide +kernel
theorem dJ0_indexOf_0f7a4_3 : decode cJ0_indexOf_0f7a4 3 = .ok (.invokevirtual 633, 3) := by decide +kernel
theorem dJ0_indexOf_0f7a4_6 : decode cJ0_indexOf_0f7a4 6 = .ok (.ireturn, 1) := by decide +kernel
theorem dJ0_indexOf_7cf53_0 : decode cJ0_indexOf_7cf53 0 = .ok (.aload_n 0, 1) := by decide +kernel
theorem dJ0_indexOf_7cf53_1 : decode cJ0_indexOf_7cf53 1 = .ok (.invokevirtual 492, 3) := by decide +kernel
theorem dJ0_indexOf_7cf53_4 : decode cJ0_indexOf_7cf53 4 = .ok (.ifCond .eq 19, 3) := by decide +kernel
theorem dJ0_indexOf_7cf53_7 : decode cJ0_indexOf_7cf53 7 = .ok (.aload_n 0, 1) := by decide +kernel
theorem dJ0_indexOf_7cf53_8 : decode cJ0_indexOf_7cf53 8 = .ok (.getfield 9, 3) := by decide +kernel
theorem dJ0_indexOf_7cf53_11 : decode cJ0_indexOf_7cf53 11 = .ok (.iload_n 1, 1) := by decide +kernel
theorem dJ0_indexOf_7cf53_12 : decode cJ0_indexOf_7cf53 12 = .ok (.iload_n 2, 1) := by decide +kernel
theorem dJ0_indexOf_7cf53_13 : decode cJ0_indexOf_7cf53 13 = .ok (.aload_n 0, 1) := by decide +kernel
theorem dJ0_indexOf_7cf53_14 : decode cJ0_indexOf_7cf53 14 = .ok (.invokevirtual 505, 3) := by decide +kernel
theorem dJ0_indexOf_7cf53_17 : decode cJ0_indexOf_7cf53 17 = .ok (.invokestatic 637, 3) := by decide +kernel
theorem dJ0_indexOf_7cf53_20 : decode cJ0_indexOf_7cf53 20 = .ok (.goto 16, 3) := by decide +kernel
theorem dJ0_indexOf_7cf53_23 : decode cJ0_indexOf_7cf53 23 = .ok (.aload_n 0, 1) := by decide +kernel
theorem dJ0_indexOf_7cf53_24 : decode cJ0_indexOf_7cf53 24 = .ok (.getfield 9, 3) := by decide +kernel
theorem dJ0_indexOf_7cf53_27 : decode cJ0_indexOf_7cf53 27 = .ok (.iload_n 1, 1) := by decide +kernel
theorem dJ0_indexOf_7cf53_28 : decode cJ0_indexOf_7cf53 28 = .ok (.iload_n 2, 1) := by decide +kernel
theorem dJ0_indexOf_7cf53_29 : decode cJ0_indexOf_7cf53 29 = .ok (.aload_n 0, 1) := by decide +kernel
theorem dJ0_indexOf_7cf53_30 : decode cJ0_indexOf_7cf53 30 = .ok (.invokevirtual 505, 3) := by decide +kernel
theorem dJ0_indexOf_7cf53_33 : decode cJ0_indexOf_7cf53 33 = .ok (.invokestatic 640, 3) := by decide +kernel
theorem dJ0_indexOf_7cf53_36 : decode cJ0_indexOf_7cf53 36 = .ok (.ireturn, 1) := by decide +kernel
theorem dJ0_coder_7d493_0 : decode cJ0_coder_7d493 0 = .ok (.getstatic 38, 3) := by decide +kernel
theorem dJ0_coder_7d493_3 : decode cJ0_coder_7d493 3 = .ok (.ifCond .eq 10, 3) := by decide +kernel
theorem dJ0_coder_7d493_6 : decode cJ0_coder_7d493 6 = .ok (.aload_n 0, 1) := by decide +kernel
theorem dJ0_coder_7d493_7 : decode cJ0_coder_7d493 7 = .ok (.getfield 15, 3) := by decide +kernel
theorem dJ0_coder_7d493_10 : decode cJ0_coder_7d493 10 = .ok (.goto 4, 3) := by decide +kernel
theorem dJ0_coder_7d493_13 : decode cJ0_coder_7d493 13 = .ok (.iconst 1, 1) := by decide +kernel
theorem dJ0_coder_7d493_14 : decode cJ0_coder_7d493 14 = .ok (.ireturn, 1) := by decide +kernel
theorem dJ0_isLatin1_aae02_0 : decode cJ0_isLatin1_aae02 0 = .ok (.getstatic 38, 3) := by decide +kernel
theorem dJ0_isLatin1_aae02_3 : decode cJ0_isLatin1_aae02 3 = .ok (.ifCond .eq 14, 3) := by decide +kernel
theorem dJ0_isLatin1_aae02_6 : decode cJ0_isLatin1_aae02 6 = .ok (.aload_n 0, 1) := by decide +kernel
theorem dJ0_isLatin1_aae02_7 : decode cJ0_isLatin1_aae02 7 = .ok (.getfield 15, 3) := by decide +kernel
theorem dJ0_isLatin1_aae02_10 : decode cJ0_isLatin1_aae02 10 = .ok (.ifCond .ne 7, 3) := by decide +kernel
theorem dJ0_isLatin1_aae02_13 : decode cJ0_isLatin1_aae02 13 = .ok (.iconst 1, 1) := by decide +kernel
theorem dJ0_isLatin1_aae02_14 : decode cJ0_isLatin1_aae02 14 = .ok (.goto 4, 3) := by decide +kernel
theorem dJ0_isLatin1_aae02_17 : decode cJ0_isLatin1_aae02 17 = .ok (.iconst 0, 1) := by decide +kernel
theorem dJ0_isLatin1_aae02_18 : decode cJ0_isLatin1_aae02 18 = .ok (.ireturn, 1) := by decide +kernel
theorem dJ1_canEncode_9a6ad_0 : decode cJ1_canEncode_9a6ad 0 = .ok (.iload_n 0, 1) := by decide +kernel
theorem dJ1_canEncode_9a6ad_1 : decode cJ1_canEncode_9a6ad 1 = .ok (.ifCond .lt 14, 3) := by decide +kernel
theorem dJ1_canEncode_9a6ad_4 : decode cJ1_canEncode_9a6ad 4 = .ok (.iload_n 0, 1) := by decide +kernel
theorem dJ1_canEncode_9a6ad_5 : decode cJ1_canEncode_9a6ad 5 = .ok (.sipush 255, 3) := by decide +kernel
theorem dJ1_canEncode_9a6ad_8 : decode cJ1_canEncode_9a6ad 8 = .ok (.if_icmp .gt 7, 3) := by decide +kernel
theorem dJ1_canEncode_9a6ad_11 : decode cJ1_canEncode_9a6ad 11 = .ok (.iconst 1, 1) := by decide +kernel
theorem dJ1_canEncode_9a6ad_12 : decode cJ1_canEncode_9a6ad 12 = .ok (.goto 4, 3) := by decide +kernel
theorem dJ1_canEncode_9a6ad_15 : decode cJ1_canEncode_9a6ad 15 = .ok (.iconst 0, 1) := by decide +kernel
theorem dJ1_canEncode_9a6ad_16 : decode cJ1_canEncode_9a6ad 16 = .ok (.ireturn, 1) := by decide +kernel
theorem dJ1_indexOf_4cfef_0 : decode cJ1_indexOf_4cfef 0 = .ok (.iload_n 1, 1) := by decide +kernel
theorem dJ1_indexOf_4cfef_1 : decode cJ1_indexOf_4cfef 1 = .ok (.invokestatic 88, 3) := by decide +kernel
theorem dJ1_indexOf_4cfef_4 : decode cJ1_indexOf_4cfef 4 = .ok (.ifCond .ne 5, 3) := by decide +kernel
theorem dJ1_indexOf_4cfef_7 : decode cJ1_indexOf_4cfef 7 = .ok (.iconst (-1), 1) := by decide +kernel
theorem dJ1_indexOf_4cfef_8 : decode cJ1_indexOf_4cfef 8 = .ok (.ireturn, 1) := by decide +kernel
theorem dJ1_indexOf_4cfef_9 : decode cJ1_indexOf_4cfef 9 = .ok (.iload_n 2, 1) := by decide +kernel
theorem dJ1_indexOf_4cfef_10 : decode cJ1_indexOf_4cfef 10 = .ok (.iconst 0, 1) := by decide +kernel
theorem dJ1_indexOf_4cfef_11 : decode cJ1_indexOf_4cfef 11 = .ok (.invokestatic 92, 3) := by decide +kernel
theorem dJ1_indexOf_4cfef_14 : decode cJ1_indexOf_4cfef 14 = .ok (.istore_n 2, 1) := by decide +kernel
theorem dJ1_indexOf_4cfef_15 : decode cJ1_indexOf_4cfef 15 = .ok (.iload_n 3, 1) := by decide +kernel
theorem dJ1_indexOf_4cfef_16 : decode cJ1_indexOf_4cfef 16 = .ok (.aload_n 0, 1) := by decide +kernel
theorem dJ1_indexOf_4cfef_17 : decode cJ1_indexOf_4cfef 17 = .ok (.arraylength, 1) := by decide +kernel
theorem dJ1_indexOf_4cfef_18 : decode cJ1_indexOf_4cfef 18 = .ok (.invokestatic 38, 3) := by decide +kernel
theorem dJ1_indexOf_4cfef_21 : decode cJ1_indexOf_4cfef 21 = .ok (.istore_n 3, 1) := by decide +kernel
theorem dJ1_indexOf_4cfef_22 : decode cJ1_indexOf_4cfef 22 = .ok (.iload_n 2, 1) := by decide +kernel
theorem dJ1_indexOf_4cfef_23 : decode cJ1_indexOf_4cfef 23 = .ok (.iload_n 3, 1) := by decide +kernel
theorem dJ1_indexOf_4cfef_24 : decode cJ1_indexOf_4cfef 24 = .ok (.if_icmp .lt 5, 3) := by decide +kernel
theorem dJ1_indexOf_4cfef_27 : decode cJ1_indexOf_4cfef 27 = .ok (.iconst (-1), 1) := by decide +kernel
theorem dJ1_indexOf_4cfef_28 : decode cJ1_indexOf_4cfef 28 = .ok (.ireturn, 1) := by decide +kernel
theorem dJ1_indexOf_4cfef_29 : decode cJ1_indexOf_4cfef 29 = .ok (.aload_n 0, 1) := by decide +kernel
theorem dJ1_indexOf_4cfef_30 : decode cJ1_indexOf_4cfef 30 = .ok (.iload_n 1, 1) := by decide +kernel
theorem dJ1_indexOf_4cfef_31 : decode cJ1_indexOf_4cfef 31 = .ok (.iload_n 2, 1) := by decide +kernel
theorem dJ1_indexOf_4cfef_32 : decode cJ1_indexOf_4cfef 32 = .ok (.iload_n 3, 1) := by decide +kernel
theorem dJ1_indexOf_4cfef_33 : decode cJ1_indexOf_4cfef 33 = .ok (.invokestatic 95, 3) := by decide +kernel
theorem dJ1_indexOf_4cfef_36 : decode cJ1_indexOf_4cfef 36 = .ok (.ireturn, 1) := by decide +kernel
theorem dJ1_indexOfChar_4cfef_0 : decode cJ1_indexOfChar_4cfef 0 = .ok (.iload_n 1, 1) := by decide +kernel
theorem dJ1_indexOfChar_4cfef_1 : decode cJ1_indexOfChar_4cfef 1 = .ok (.i2b, 1) := by decide +kernel
theorem dJ1_indexOfChar_4cfef_2 : decode cJ1_indexOfChar_4cfef 2 = .ok (.istore 4, 2) := by decide +kernel
theorem dJ1_indexOfChar_4cfef_4 : decode cJ1_indexOfChar_4cfef 4 = .ok (.iload_n 2, 1) := by decide +kernel
theorem dJ1_indexOfChar_4cfef_5 : decode cJ1_indexOfChar_4cfef 5 = .ok (.istore 5, 2) := by decide +kernel
theorem dJ1_indexOfChar_4cfef_7 : decode cJ1_indexOfChar_4cfef 7 = .ok (.iload 5, 2) := by decide +kernel
theorem dJ1_indexOfChar_4cfef_9 : decode cJ1_indexOfChar_4cfef 9 = .ok (.iload_n 3, 1) := by decide +kernel
theorem dJ1_indexOfChar_4cfef_10 : decode cJ1_indexOfChar_4cfef 10 = .ok (.if_icmp .ge 21, 3) := by decide +kernel
theorem dJ1_indexOfChar_4cfef_13 : decode cJ1_indexOfChar_4cfef 13 = .ok (.aload_n 0, 1) := by decide +kernel
theorem dJ1_indexOfChar_4cfef_14 : decode cJ1_indexOfChar_4cfef 14 = .ok (.iload 5, 2) := by decide +kernel
theorem dJ1_indexOfChar_4cfef_16 : decode cJ1_indexOfChar_4cfef 16 = .ok (.baload, 1) := by decide +kernel
theorem dJ1_indexOfChar_4cfef_17 : decode cJ1_indexOfChar_4cfef 17 = .ok (.iload 4, 2) := by decide +kernel
theorem dJ1_indexOfChar_4cfef_19 : decode cJ1_indexOfChar_4cfef 19 = .ok (.if_icmp .ne 6, 3) := by decide +kernel
theorem dJ1_indexOfChar_4cfef_22 : decode cJ1_indexOfChar_4cfef 22 = .ok (.iload 5, 2) := by decide +kernel
theorem dJ1_indexOfChar_4cfef_24 : decode cJ1_indexOfChar_4cfef 24 = .ok (.ireturn, 1) := by decide +kernel
theorem dJ1_indexOfChar_4cfef_25 : decode cJ1_indexOfChar_4cfef 25 = .ok (.iinc 5 1, 3) := by decide +kernel
theorem dJ1_indexOfChar_4cfef_28 : decode cJ1_indexOfChar_4cfef 28 = .ok (.goto (-21), 3) := by decide +kernel
theorem dJ1_indexOfChar_4cfef_31 : decode cJ1_indexOfChar_4cfef 31 = .ok (.iconst (-1), 1) := by decide +kernel
theorem dJ1_indexOfChar_4cfef_32 : decode cJ1_indexOfChar_4cfef 32 = .ok (.ireturn, 1) := by decide +kernel
theorem dJ7_fill_53178_0 : decode cJ7_fill_53178 0 = .ok (.iconst 0, 1) := by decide +kernel
theorem dJ7_fill_53178_1 : decode cJ7_fill_53178 1 = .ok (.istore_n 2, 1) := by decide +kernel
theorem dJ7_fill_53178_2 : decode cJ7_fill_53178 2 = .ok (.aload_n 0, 1) := by decide +kernel
theorem dJ7_fill_53178_3 : decode cJ7_fill_53178 3 = .ok (.arraylength, 1) := by decide +kernel
theorem dJ7_fill_53178_4 : decode cJ7_fill_53178 4 = .ok (.istore_n 3, 1) := by decide +kernel
theorem dJ7_fill_53178_5 : decode cJ7_fill_53178 5 = .ok (.iload_n 2, 1) := by decide +kernel
theorem dJ7_fill_53178_6 : decode cJ7_fill_53178 6 = .ok (.iload_n 3, 1) := by decide +kernel
theorem dJ7_fill_53178_7 : decode cJ7_fill_53178 7 = .ok (.if_icmp .ge 13, 3) := by decide +kernel
theorem dJ7_fill_53178_10 : decode cJ7_fill_53178 10 = .ok (.aload_n 0, 1) := by decide +kernel
theorem dJ7_fill_53178_11 : decode cJ7_fill_53178 11 = .ok (.iload_n 2, 1) := by decide +kernel
theorem dJ7_fill_53178_12 : decode cJ7_fill_53178 12 = .ok (.iload_n 1, 1) := by decide +kernel
theorem dJ7_fill_53178_13 : decode cJ7_fill_53178 13 = .ok (.iastore, 1) := by decide +kernel
theorem dJ7_fill_53178_14 : decode cJ7_fill_53178 14 = .ok (.iinc 2 1, 3) := by decide +kernel
theorem dJ7_fill_53178_17 : decode cJ7_fill_53178 17 = .ok (.goto (-12), 3) := by decide +kernel
theorem dJ7_fill_53178_20 : decode cJ7_fill_53178 20 = .ok (.return_, 1) := by decide +kernel

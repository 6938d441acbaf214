theorem dX0_init_0 : decode cX0_init 0 = .ok (.aload_n 0, 1) := by decide +kernel
theorem dX0_init_1 : decode cX0_init 1 = .ok (.invokespecial 3, 3) := by decide +kernel
theorem dX0_init_4 : decode cX0_init 4 = .ok (.aload_n 0, 1) := by decide +kernel
theorem dX0_init_5 : decode cX0_init 5 = .ok (.bipush 12, 2) := by decide +kernel
theorem dX0_init_7 : decode cX0_init 7 = .ok (.newarray .int, 2) := by decide +kernel
theorem dX0_init_9 : decode cX0_init 9 = .ok (.putfield 9, 3) := by decide +kernel
theorem dX0_init_12 : decode cX0_init 12 = .ok (.aload_n 0, 1) := by decide +kernel
theorem dX0_init_13 : decode cX0_init 13 = .ok (.iconst 0, 1) := by decide +kernel
theorem dX0_init_14 : decode cX0_init 14 = .ok (.putfield 15, 3) := by decide +kernel
theorem dX0_init_17 : decode cX0_init 17 = .ok (.aload_n 0, 1) := by decide +kernel
theorem dX0_init_18 : decode cX0_init 18 = .ok (.iconst 0, 1) := by decide +kernel
theorem dX0_init_19 : decode cX0_init 19 = .ok (.putfield 19, 3) := by decide +kernel
theorem dX0_init_22 : decode cX0_init 22 = .ok (.aload_n 0, 1) := by decide +kernel
theorem dX0_init_23 : decode cX0_init 23 = .ok (.iconst 0, 1) := by decide +kernel
theorem dX0_init_24 : decode cX0_init 24 = .ok (.putfield 22, 3) := by decide +kernel
theorem dX0_init_27 : decode cX0_init 27 = .ok (.return_, 1) := by decide +kernel
theorem dX0_match_0 : decode cX0_match 0 = .ok (.aload_n 0, 1) := by decide +kernel
theorem dX0_match_1 : decode cX0_match 1 = .ok (.aload_n 1, 1) := by decide +kernel
theorem dX0_match_2 : decode cX0_match 2 = .ok (.getfield 26, 3) := by decide +kernel
theorem dX0_match_5 : decode cX0_match 5 = .ok (.putfield 15, 3) := by decide +kernel
theorem dX0_match_8 : decode cX0_match 8 = .ok (.aload_n 0, 1) := by decide +kernel
theorem dX0_match_9 : decode cX0_match 9 = .ok (.iconst 0, 1) := by decide +kernel
theorem dX0_match_10 : decode cX0_match 10 = .ok (.putfield 22, 3) := by decide +kernel
theorem dX0_match_13 : decode cX0_match 13 = .ok (.aload_n 0, 1) := by decide +kernel
theorem dX0_match_14 : decode cX0_match 14 = .ok (.aload_n 1, 1) := by decide +kernel
theorem dX0_match_15 : decode cX0_match 15 = .ok (.getfield 29, 3) := by decide +kernel
theorem dX0_match_18 : decode cX0_match 18 = .ok (.getfield 33, 3) := by decide +kernel
theorem dX0_match_21 : decode cX0_match 21 = .ok (.ifCond .le 39, 3) := by decide +kernel
theorem dX0_match_24 : decode cX0_match 24 = .ok (.aload_n 1, 1) := by decide +kernel
theorem dX0_match_25 : decode cX0_match 25 = .ok (.getfield 29, 3) := by decide +kernel
theorem dX0_match_28 : decode cX0_match 28 = .ok (.getfield 33, 3) := by decide +kernel
theorem dX0_match_31 : decode cX0_match 31 = .ok (.aload_n 1, 1) := by decide +kernel
theorem dX0_match_32 : decode cX0_match 32 = .ok (.getfield 38, 3) := by decide +kernel
theorem dX0_match_35 : decode cX0_match 35 = .ok (.getfield 42, 3) := by decide +kernel
theorem dX0_match_38 : decode cX0_match 38 = .ok (.if_icmp .ne 22, 3) := by decide +kernel
theorem dX0_match_41 : decode cX0_match 41 = .ok (.aload_n 0, 1) := by decide +kernel
theorem dX0_match_42 : decode cX0_match 42 = .ok (.aload_n 1, 1) := by decide +kernel
theorem dX0_match_43 : decode cX0_match 43 = .ok (.getfield 38, 3) := by decide +kernel
theorem dX0_match_46 : decode cX0_match 46 = .ok (.aload_n 1, 1) := by decide +kernel
theorem dX0_match_47 : decode cX0_match 47 = .ok (.getfield 29, 3) := by decide +kernel
theorem dX0_match_50 : decode cX0_match 50 = .ok (.invokevirtual 45, 3) := by decide +kernel
theorem dX0_match_53 : decode cX0_match 53 = .ok (.ifCond .eq 7, 3) := by decide +kernel
theorem dX0_match_56 : decode cX0_match 56 = .ok (.iconst 1, 1) := by decide +kernel
theorem dX0_match_57 : decode cX0_match 57 = .ok (.goto 4, 3) := by decide +kernel
theorem dX0_match_60 : decode cX0_match 60 = .ok (.iconst 0, 1) := by decide +kernel
theorem dX0_match_61 : decode cX0_match 61 = .ok (.putfield 19, 3) := by decide +kernel
theorem dX0_match_64 : decode cX0_match 64 = .ok (.aload_n 0, 1) := by decide +kernel
theorem dX0_match_65 : decode cX0_match 65 = .ok (.getfield 19, 3) := by decide +kernel
theorem dX0_match_68 : decode cX0_match 68 = .ok (.ifCond .eq 18, 3) := by decide +kernel
theorem dX0_match_71 : decode cX0_match 71 = .ok (.aload_n 0, 1) := by decide +kernel
theorem dX0_match_72 : decode cX0_match 72 = .ok (.aload_n 0, 1) := by decide +kernel
theorem dX0_match_73 : decode cX0_match 73 = .ok (.aload_n 1, 1) := by decide +kernel
theorem dX0_match_74 : decode cX0_match 74 = .ok (.getfield 38, 3) := by decide +kernel
theorem dX0_match_77 : decode cX0_match 77 = .ok (.getfield 42, 3) := by decide +kernel
theorem dX0_match_80 : decode cX0_match 80 = .ok (.invokevirtual 49, 3) := by decide +kernel
theorem dX0_match_83 : decode cX0_match 83 = .ok (.putfield 22, 3) := by decide +kernel
theorem dX0_match_86 : decode cX0_match 86 = .ok (.return_, 1) := by decide +kernel
theorem dX0_findTargets_0 : decode cX0_findTargets 0 = .ok (.iconst 0, 1) := by decide +kernel
theorem dX0_findTargets_1 : decode cX0_findTargets 1 = .ok (.istore_n 3, 1) := by decide +kernel
theorem dX0_findTargets_2 : decode cX0_findTargets 2 = .ok (.iconst 0, 1) := by decide +kernel
theorem dX0_findTargets_3 : decode cX0_findTargets 3 = .ok (.istore 4, 2) := by decide +kernel
theorem dX0_findTargets_5 : decode cX0_findTargets 5 = .ok (.iload 4, 2) := by decide +kernel
theorem dX0_findTargets_7 : decode cX0_findTargets 7 = .ok (.aload_n 1, 1) := by decide +kernel
theorem dX0_findTargets_8 : decode cX0_findTargets 8 = .ok (.getfield 42, 3) := by decide +kernel
theorem dX0_findTargets_11 : decode cX0_findTargets 11 = .ok (.if_icmp .ge 70, 3) := by decide +kernel
theorem dX0_findTargets_14 : decode cX0_findTargets 14 = .ok (.aload_n 0, 1) := by decide +kernel
theorem dX0_findTargets_15 : decode cX0_findTargets 15 = .ok (.getfield 15, 3) := by decide +kernel
theorem dX0_findTargets_18 : decode cX0_findTargets 18 = .ok (.ifCond .eq 15, 3) := by decide +kernel
theorem dX0_findTargets_21 : decode cX0_findTargets 21 = .ok (.aload_n 1, 1) := by decide +kernel
theorem dX0_findTargets_22 : decode cX0_findTargets 22 = .ok (.getfield 42, 3) := by decide +kernel
theorem dX0_findTargets_25 : decode cX0_findTargets 25 = .ok (.iconst 1, 1) := by decide +kernel
theorem dX0_findTargets_26 : decode cX0_findTargets 26 = .ok (.isub, 1) := by decide +kernel
theorem dX0_findTargets_27 : decode cX0_findTargets 27 = .ok (.iload 4, 2) := by decide +kernel
theorem dX0_findTargets_29 : decode cX0_findTargets 29 = .ok (.isub, 1) := by decide +kernel
theorem dX0_findTargets_30 : decode cX0_findTargets 30 = .ok (.goto 5, 3) := by decide +kernel
theorem dX0_findTargets_33 : decode cX0_findTargets 33 = .ok (.iload 4, 2) := by decide +kernel
theorem dX0_findTargets_35 : decode cX0_findTargets 35 = .ok (.istore 5, 2) := by decide +kernel
theorem dX0_findTargets_37 : decode cX0_findTargets 37 = .ok (.aload_n 2, 1) := by decide +kernel
theorem dX0_findTargets_38 : decode cX0_findTargets 38 = .ok (.aload_n 1, 1) := by decide +kernel
theorem dX0_findTargets_39 : decode cX0_findTargets 39 = .ok (.getfield 53, 3) := by decide +kernel
theorem dX0_findTargets_42 : decode cX0_findTargets 42 = .ok (.iload 5, 2) := by decide +kernel
theorem dX0_findTargets_44 : decode cX0_findTargets 44 = .ok (.iaload, 1) := by decide +kernel
theorem dX0_findTargets_45 : decode cX0_findTargets 45 = .ok (.iload_n 3, 1) := by decide +kernel
theorem dX0_findTargets_46 : decode cX0_findTargets 46 = .ok (.invokestatic 56, 3) := by decide +kernel
theorem dX0_findTargets_49 : decode cX0_findTargets 49 = .ok (.istore 6, 2) := by decide +kernel
theorem dX0_findTargets_51 : decode cX0_findTargets 51 = .ok (.iload 6, 2) := by decide +kernel
theorem dX0_findTargets_53 : decode cX0_findTargets 53 = .ok (.iconst (-1), 1) := by decide +kernel
theorem dX0_findTargets_54 : decode cX0_findTargets 54 = .ok (.if_icmp .ne 5, 3) := by decide +kernel
theorem dX0_findTargets_57 : decode cX0_findTargets 57 = .ok (.iconst 0, 1) := by decide +kernel
theorem dX0_findTargets_58 : decode cX0_findTargets 58 = .ok (.ireturn, 1) := by decide +kernel
theorem dX0_findTargets_59 : decode cX0_findTargets 59 = .ok (.iload_n 3, 1) := by decide +kernel
theorem dX0_findTargets_60 : decode cX0_findTargets 60 = .ok (.iconst 1, 1) := by decide +kernel
theorem dX0_findTargets_61 : decode cX0_findTargets 61 = .ok (.iload 6, 2) := by decide +kernel
theorem dX0_findTargets_63 : decode cX0_findTargets 63 = .ok (.ishl, 1) := by decide +kernel
theorem dX0_findTargets_64 : decode cX0_findTargets 64 = .ok (.ior, 1) := by decide +kernel
theorem dX0_findTargets_65 : decode cX0_findTargets 65 = .ok (.istore_n 3, 1) := by decide +kernel
theorem dX0_findTargets_66 : decode cX0_findTargets 66 = .ok (.aload_n 0, 1) := by decide +kernel
theorem dX0_findTargets_67 : decode cX0_findTargets 67 = .ok (.getfield 9, 3) := by decide +kernel
theorem dX0_findTargets_70 : decode cX0_findTargets 70 = .ok (.iload 5, 2) := by decide +kernel
theorem dX0_findTargets_72 : decode cX0_findTargets 72 = .ok (.iload 6, 2) := by decide +kernel
theorem dX0_findTargets_74 : decode cX0_findTargets 74 = .ok (.iastore, 1) := by decide +kernel
theorem dX0_findTargets_75 : decode cX0_findTargets 75 = .ok (.iinc 4 1, 3) := by decide +kernel
theorem dX0_findTargets_78 : decode cX0_findTargets 78 = .ok (.goto (-73), 3) := by decide +kernel
theorem dX0_findTargets_81 : decode cX0_findTargets 81 = .ok (.iconst 1, 1) := by decide +kernel
theorem dX0_findTargets_82 : decode cX0_findTargets 82 = .ok (.ireturn, 1) := by decide +kernel
theorem dX0_firstFree_0 : decode cX0_firstFree 0 = .ok (.iconst 0, 1) := by decide +kernel
theorem dX0_firstFree_1 : decode cX0_firstFree 1 = .ok (.istore_n 3, 1) := by decide +kernel
theorem dX0_firstFree_2 : decode cX0_firstFree 2 = .ok (.iload_n 3, 1) := by decide +kernel
theorem dX0_firstFree_3 : decode cX0_firstFree 3 = .ok (.aload_n 0, 1) := by decide +kernel
theorem dX0_firstFree_4 : decode cX0_firstFree 4 = .ok (.getfield 33, 3) := by decide +kernel
theorem dX0_firstFree_7 : decode cX0_firstFree 7 = .ok (.if_icmp .ge 29, 3) := by decide +kernel
theorem dX0_firstFree_10 : decode cX0_firstFree 10 = .ok (.aload_n 0, 1) := by decide +kernel
theorem dX0_firstFree_11 : decode cX0_firstFree 11 = .ok (.getfield 60, 3) := by decide +kernel
theorem dX0_firstFree_14 : decode cX0_firstFree 14 = .ok (.iload_n 3, 1) := by decide +kernel
theorem dX0_firstFree_15 : decode cX0_firstFree 15 = .ok (.caload, 1) := by decide +kernel
theorem dX0_firstFree_16 : decode cX0_firstFree 16 = .ok (.iload_n 1, 1) := by decide +kernel
theorem dX0_firstFree_17 : decode cX0_firstFree 17 = .ok (.if_icmp .ne 13, 3) := by decide +kernel
theorem dX0_firstFree_20 : decode cX0_firstFree 20 = .ok (.iload_n 2, 1) := by decide +kernel
theorem dX0_firstFree_21 : decode cX0_firstFree 21 = .ok (.iload_n 3, 1) := by decide +kernel
theorem dX0_firstFree_22 : decode cX0_firstFree 22 = .ok (.ishr, 1) := by decide +kernel
theorem dX0_firstFree_23 : decode cX0_firstFree 23 = .ok (.iconst 1, 1) := by decide +kernel
theorem dX0_firstFree_24 : decode cX0_firstFree 24 = .ok (.iand, 1) := by decide +kernel
theorem dX0_firstFree_25 : decode cX0_firstFree 25 = .ok (.ifCond .ne 5, 3) := by decide +kernel
theorem dX0_firstFree_28 : decode cX0_firstFree 28 = .ok (.iload_n 3, 1) := by decide +kernel
theorem dX0_firstFree_29 : decode cX0_firstFree 29 = .ok (.ireturn, 1) := by decide +kernel
theorem dX0_firstFree_30 : decode cX0_firstFree 30 = .ok (.iinc 3 1, 3) := by decide +kernel
theorem dX0_firstFree_33 : decode cX0_firstFree 33 = .ok (.goto (-31), 3) := by decide +kernel
theorem dX0_firstFree_36 : decode cX0_firstFree 36 = .ok (.iconst (-1), 1) := by decide +kernel
theorem dX0_firstFree_37 : decode cX0_firstFree 37 = .ok (.ireturn, 1) := by decide +kernel
theorem dX0_countWrongPairs_0 : decode cX0_countWrongPairs 0 = .ok (.iconst 0, 1) := by decide +kernel
theorem dX0_countWrongPairs_1 : decode cX0_countWrongPairs 1 = .ok (.istore_n 2, 1) := by decide +kernel
theorem dX0_countWrongPairs_2 : decode cX0_countWrongPairs 2 = .ok (.iconst 0, 1) := by decide +kernel
theorem dX0_countWrongPairs_3 : decode cX0_countWrongPairs 3 = .ok (.istore_n 3, 1) := by decide +kernel
theorem dX0_countWrongPairs_4 : decode cX0_countWrongPairs 4 = .ok (.iload_n 3, 1) := by decide +kernel
theorem dX0_countWrongPairs_5 : decode cX0_countWrongPairs 5 = .ok (.iload_n 1, 1) := by decide +kernel
theorem dX0_countWrongPairs_6 : decode cX0_countWrongPairs 6 = .ok (.if_icmp .ge 39, 3) := by decide +kernel
theorem dX0_countWrongPairs_9 : decode cX0_countWrongPairs 9 = .ok (.iload_n 3, 1) := by decide +kernel
theorem dX0_countWrongPairs_10 : decode cX0_countWrongPairs 10 = .ok (.iconst 1, 1) := by decide +kernel
theorem dX0_countWrongPairs_11 : decode cX0_countWrongPairs 11 = .ok (.iadd, 1) := by decide +kernel
theorem dX0_countWrongPairs_12 : decode cX0_countWrongPairs 12 = .ok (.istore 4, 2) := by decide +kernel
theorem dX0_countWrongPairs_14 : decode cX0_countWrongPairs 14 = .ok (.iload 4, 2) := by decide +kernel
theorem dX0_countWrongPairs_16 : decode cX0_countWrongPairs 16 = .ok (.iload_n 1, 1) := by decide +kernel
theorem dX0_countWrongPairs_17 : decode cX0_countWrongPairs 17 = .ok (.if_icmp .ge 22, 3) := by decide +kernel
theorem dX0_countWrongPairs_20 : decode cX0_countWrongPairs 20 = .ok (.aload_n 0, 1) := by decide +kernel
theorem dX0_countWrongPairs_21 : decode cX0_countWrongPairs 21 = .ok (.iload_n 3, 1) := by decide +kernel
theorem dX0_countWrongPairs_22 : decode cX0_countWrongPairs 22 = .ok (.iload 4, 2) := by decide +kernel
theorem dX0_countWrongPairs_24 : decode cX0_countWrongPairs 24 = .ok (.invokevirtual 64, 3) := by decide +kernel
theorem dX0_countWrongPairs_27 : decode cX0_countWrongPairs 27 = .ok (.ifCond .eq 6, 3) := by decide +kernel
theorem dX0_countWrongPairs_30 : decode cX0_countWrongPairs 30 = .ok (.iinc 2 1, 3) := by decide +kernel
theorem dX0_countWrongPairs_33 : decode cX0_countWrongPairs 33 = .ok (.iinc 4 1, 3) := by decide +kernel
theorem dX0_countWrongPairs_36 : decode cX0_countWrongPairs 36 = .ok (.goto (-22), 3) := by decide +kernel
theorem dX0_countWrongPairs_39 : decode cX0_countWrongPairs 39 = .ok (.iinc 3 1, 3) := by decide +kernel
theorem dX0_countWrongPairs_42 : decode cX0_countWrongPairs 42 = .ok (.goto (-38), 3) := by decide +kernel
theorem dX0_countWrongPairs_45 : decode cX0_countWrongPairs 45 = .ok (.iload_n 2, 1) := by decide +kernel
theorem dX0_countWrongPairs_46 : decode cX0_countWrongPairs 46 = .ok (.ireturn, 1) := by decide +kernel
theorem dX0_isWrongPair_0 : decode cX0_isWrongPair 0 = .ok (.aload_n 0, 1) := by decide +kernel
theorem dX0_isWrongPair_1 : decode cX0_isWrongPair 1 = .ok (.getfield 15, 3) := by decide +kernel
theorem dX0_isWrongPair_4 : decode cX0_isWrongPair 4 = .ok (.ifCond .eq 26, 3) := by decide +kernel
theorem dX0_isWrongPair_7 : decode cX0_isWrongPair 7 = .ok (.aload_n 0, 1) := by decide +kernel
theorem dX0_isWrongPair_8 : decode cX0_isWrongPair 8 = .ok (.getfield 9, 3) := by decide +kernel
theorem dX0_isWrongPair_11 : decode cX0_isWrongPair 11 = .ok (.iload_n 1, 1) := by decide +kernel
theorem dX0_isWrongPair_12 : decode cX0_isWrongPair 12 = .ok (.iaload, 1) := by decide +kernel
theorem dX0_isWrongPair_13 : decode cX0_isWrongPair 13 = .ok (.aload_n 0, 1) := by decide +kernel
theorem dX0_isWrongPair_14 : decode cX0_isWrongPair 14 = .ok (.getfield 9, 3) := by decide +kernel
theorem dX0_isWrongPair_17 : decode cX0_isWrongPair 17 = .ok (.iload_n 2, 1) := by decide +kernel
theorem dX0_isWrongPair_18 : decode cX0_isWrongPair 18 = .ok (.iaload, 1) := by decide +kernel
theorem dX0_isWrongPair_19 : decode cX0_isWrongPair 19 = .ok (.if_icmp .ge 7, 3) := by decide +kernel
theorem dX0_isWrongPair_22 : decode cX0_isWrongPair 22 = .ok (.iconst 1, 1) := by decide +kernel
theorem dX0_isWrongPair_23 : decode cX0_isWrongPair 23 = .ok (.goto 27, 3) := by decide +kernel
theorem dX0_isWrongPair_26 : decode cX0_isWrongPair 26 = .ok (.iconst 0, 1) := by decide +kernel
theorem dX0_isWrongPair_27 : decode cX0_isWrongPair 27 = .ok (.goto 23, 3) := by decide +kernel
theorem dX0_isWrongPair_30 : decode cX0_isWrongPair 30 = .ok (.aload_n 0, 1) := by decide +kernel
theorem dX0_isWrongPair_31 : decode cX0_isWrongPair 31 = .ok (.getfield 9, 3) := by decide +kernel
theorem dX0_isWrongPair_34 : decode cX0_isWrongPair 34 = .ok (.iload_n 1, 1) := by decide +kernel
theorem dX0_isWrongPair_35 : decode cX0_isWrongPair 35 = .ok (.iaload, 1) := by decide +kernel
theorem dX0_isWrongPair_36 : decode cX0_isWrongPair 36 = .ok (.aload_n 0, 1) := by decide +kernel
theorem dX0_isWrongPair_37 : decode cX0_isWrongPair 37 = .ok (.getfield 9, 3) := by decide +kernel
theorem dX0_isWrongPair_40 : decode cX0_isWrongPair 40 = .ok (.iload_n 2, 1) := by decide +kernel
theorem dX0_isWrongPair_41 : decode cX0_isWrongPair 41 = .ok (.iaload, 1) := by decide +kernel
theorem dX0_isWrongPair_42 : decode cX0_isWrongPair 42 = .ok (.if_icmp .le 7, 3) := by decide +kernel
theorem dX0_isWrongPair_45 : decode cX0_isWrongPair 45 = .ok (.iconst 1, 1) := by decide +kernel
theorem dX0_isWrongPair_46 : decode cX0_isWrongPair 46 = .ok (.goto 4, 3) := by decide +kernel
theorem dX0_isWrongPair_49 : decode cX0_isWrongPair 49 = .ok (.iconst 0, 1) := by decide +kernel
theorem dX0_isWrongPair_50 : decode cX0_isWrongPair 50 = .ok (.ireturn, 1) := by decide +kernel
theorem dX0_isGood_0 : decode cX0_isGood 0 = .ok (.aload_n 0, 1) := by decide +kernel
theorem dX0_isGood_1 : decode cX0_isGood 1 = .ok (.iload_n 1, 1) := by decide +kernel
theorem dX0_isGood_2 : decode cX0_isGood 2 = .ok (.iload_n 1, 1) := by decide +kernel
theorem dX0_isGood_3 : decode cX0_isGood 3 = .ok (.iconst 1, 1) := by decide +kernel
theorem dX0_isGood_4 : decode cX0_isGood 4 = .ok (.iadd, 1) := by decide +kernel
theorem dX0_isGood_5 : decode cX0_isGood 5 = .ok (.invokevirtual 64, 3) := by decide +kernel
theorem dX0_isGood_8 : decode cX0_isGood 8 = .ok (.ireturn, 1) := by decide +kernel
theorem dX0_fewestBehind_0 : decode cX0_fewestBehind 0 = .ok (.aload_n 1, 1) := by decide +kernel
theorem dX0_fewestBehind_1 : decode cX0_fewestBehind 1 = .ok (.getfield 53, 3) := by decide +kernel
theorem dX0_fewestBehind_4 : decode cX0_fewestBehind 4 = .ok (.iload_n 2, 1) := by decide +kernel
theorem dX0_fewestBehind_5 : decode cX0_fewestBehind 5 = .ok (.iaload, 1) := by decide +kernel
theorem dX0_fewestBehind_6 : decode cX0_fewestBehind 6 = .ok (.aload_n 1, 1) := by decide +kernel
theorem dX0_fewestBehind_7 : decode cX0_fewestBehind 7 = .ok (.getfield 53, 3) := by decide +kernel
theorem dX0_fewestBehind_10 : decode cX0_fewestBehind 10 = .ok (.iload_n 2, 1) := by decide +kernel
theorem dX0_fewestBehind_11 : decode cX0_fewestBehind 11 = .ok (.iconst 1, 1) := by decide +kernel
theorem dX0_fewestBehind_12 : decode cX0_fewestBehind 12 = .ok (.iadd, 1) := by decide +kernel
theorem dX0_fewestBehind_13 : decode cX0_fewestBehind 13 = .ok (.iaload, 1) := by decide +kernel
theorem dX0_fewestBehind_14 : decode cX0_fewestBehind 14 = .ok (.if_icmp .ne 8, 3) := by decide +kernel
theorem dX0_fewestBehind_17 : decode cX0_fewestBehind 17 = .ok (.aload_n 0, 1) := by decide +kernel
theorem dX0_fewestBehind_18 : decode cX0_fewestBehind 18 = .ok (.getfield 22, 3) := by decide +kernel
theorem dX0_fewestBehind_21 : decode cX0_fewestBehind 21 = .ok (.ireturn, 1) := by decide +kernel
theorem dX0_fewestBehind_22 : decode cX0_fewestBehind 22 = .ok (.aload_n 0, 1) := by decide +kernel
theorem dX0_fewestBehind_23 : decode cX0_fewestBehind 23 = .ok (.iload_n 2, 1) := by decide +kernel
theorem dX0_fewestBehind_24 : decode cX0_fewestBehind 24 = .ok (.invokevirtual 68, 3) := by decide +kernel
theorem dX0_fewestBehind_27 : decode cX0_fewestBehind 27 = .ok (.ifCond .eq 12, 3) := by decide +kernel
theorem dX0_fewestBehind_30 : decode cX0_fewestBehind 30 = .ok (.aload_n 0, 1) := by decide +kernel
theorem dX0_fewestBehind_31 : decode cX0_fewestBehind 31 = .ok (.getfield 22, 3) := by decide +kernel
theorem dX0_fewestBehind_34 : decode cX0_fewestBehind 34 = .ok (.iconst 1, 1) := by decide +kernel
theorem dX0_fewestBehind_35 : decode cX0_fewestBehind 35 = .ok (.isub, 1) := by decide +kernel
theorem dX0_fewestBehind_36 : decode cX0_fewestBehind 36 = .ok (.goto 9, 3) := by decide +kernel
theorem dX0_fewestBehind_39 : decode cX0_fewestBehind 39 = .ok (.aload_n 0, 1) := by decide +kernel
theorem dX0_fewestBehind_40 : decode cX0_fewestBehind 40 = .ok (.getfield 22, 3) := by decide +kernel
theorem dX0_fewestBehind_43 : decode cX0_fewestBehind 43 = .ok (.iconst 1, 1) := by decide +kernel
theorem dX0_fewestBehind_44 : decode cX0_fewestBehind 44 = .ok (.iadd, 1) := by decide +kernel
theorem dX0_fewestBehind_45 : decode cX0_fewestBehind 45 = .ok (.ireturn, 1) := by decide +kernel
theorem dX1_init_0 : decode cX1_init 0 = .ok (.aload_n 0, 1) := by decide +kernel
theorem dX1_init_1 : decode cX1_init 1 = .ok (.invokespecial 3, 3) := by decide +kernel
theorem dX1_init_4 : decode cX1_init 4 = .ok (.aload_n 0, 1) := by decide +kernel
theorem dX1_init_5 : decode cX1_init 5 = .ok (.bipush 8, 2) := by decide +kernel
theorem dX1_init_7 : decode cX1_init 7 = .ok (.newarray .int, 2) := by decide +kernel
theorem dX1_init_9 : decode cX1_init 9 = .ok (.putfield 9, 3) := by decide +kernel
theorem dX1_init_12 : decode cX1_init 12 = .ok (.aload_n 0, 1) := by decide +kernel
theorem dX1_init_13 : decode cX1_init 13 = .ok (.bipush 8, 2) := by decide +kernel
theorem dX1_init_15 : decode cX1_init 15 = .ok (.newarray .int, 2) := by decide +kernel
theorem dX1_init_17 : decode cX1_init 17 = .ok (.putfield 15, 3) := by decide +kernel
theorem dX1_init_20 : decode cX1_init 20 = .ok (.aload_n 0, 1) := by decide +kernel
theorem dX1_init_21 : decode cX1_init 21 = .ok (.bipush 8, 2) := by decide +kernel
theorem dX1_init_23 : decode cX1_init 23 = .ok (.newarray .int, 2) := by decide +kernel
theorem dX1_init_25 : decode cX1_init 25 = .ok (.putfield 18, 3) := by decide +kernel
theorem dX1_init_28 : decode cX1_init 28 = .ok (.aload_n 0, 1) := by decide +kernel
theorem dX1_init_29 : decode cX1_init 29 = .ok (.iconst 0, 1) := by decide +kernel
theorem dX1_init_30 : decode cX1_init 30 = .ok (.putfield 21, 3) := by decide +kernel
theorem dX1_init_33 : decode cX1_init 33 = .ok (.return_, 1) := by decide +kernel
theorem dX1_copyFrom_0 : decode cX1_copyFrom 0 = .ok (.aload_n 1, 1) := by decide +kernel
theorem dX1_copyFrom_1 : decode cX1_copyFrom 1 = .ok (.getfield 9, 3) := by decide +kernel
theorem dX1_copyFrom_4 : decode cX1_copyFrom 4 = .ok (.iconst 0, 1) := by decide +kernel
theorem dX1_copyFrom_5 : decode cX1_copyFrom 5 = .ok (.aload_n 0, 1) := by decide +kernel
theorem dX1_copyFrom_6 : decode cX1_copyFrom 6 = .ok (.getfield 9, 3) := by decide +kernel
theorem dX1_copyFrom_9 : decode cX1_copyFrom 9 = .ok (.iconst 0, 1) := by decide +kernel
theorem dX1_copyFrom_10 : decode cX1_copyFrom 10 = .ok (.bipush 8, 2) := by decide +kernel
theorem dX1_copyFrom_12 : decode cX1_copyFrom 12 = .ok (.invokestatic 25, 3) := by decide +kernel
theorem dX1_copyFrom_15 : decode cX1_copyFrom 15 = .ok (.aload_n 1, 1) := by decide +kernel
theorem dX1_copyFrom_16 : decode cX1_copyFrom 16 = .ok (.getfield 15, 3) := by decide +kernel
theorem dX1_copyFrom_19 : decode cX1_copyFrom 19 = .ok (.iconst 0, 1) := by decide +kernel
theorem dX1_copyFrom_20 : decode cX1_copyFrom 20 = .ok (.aload_n 0, 1) := by decide +kernel
theorem dX1_copyFrom_21 : decode cX1_copyFrom 21 = .ok (.getfield 15, 3) := by decide +kernel
theorem dX1_copyFrom_24 : decode cX1_copyFrom 24 = .ok (.iconst 0, 1) := by decide +kernel
theorem dX1_copyFrom_25 : decode cX1_copyFrom 25 = .ok (.bipush 8, 2) := by decide +kernel
theorem dX1_copyFrom_27 : decode cX1_copyFrom 27 = .ok (.invokestatic 25, 3) := by decide +kernel
theorem dX1_copyFrom_30 : decode cX1_copyFrom 30 = .ok (.aload_n 1, 1) := by decide +kernel
theorem dX1_copyFrom_31 : decode cX1_copyFrom 31 = .ok (.getfield 18, 3) := by decide +kernel
theorem dX1_copyFrom_34 : decode cX1_copyFrom 34 = .ok (.iconst 0, 1) := by decide +kernel
theorem dX1_copyFrom_35 : decode cX1_copyFrom 35 = .ok (.aload_n 0, 1) := by decide +kernel
theorem dX1_copyFrom_36 : decode cX1_copyFrom 36 = .ok (.getfield 18, 3) := by decide +kernel
theorem dX1_copyFrom_39 : decode cX1_copyFrom 39 = .ok (.iconst 0, 1) := by decide +kernel
theorem dX1_copyFrom_40 : decode cX1_copyFrom 40 = .ok (.bipush 8, 2) := by decide +kernel
theorem dX1_copyFrom_42 : decode cX1_copyFrom 42 = .ok (.invokestatic 25, 3) := by decide +kernel
theorem dX1_copyFrom_45 : decode cX1_copyFrom 45 = .ok (.aload_n 0, 1) := by decide +kernel
theorem dX1_copyFrom_46 : decode cX1_copyFrom 46 = .ok (.aload_n 1, 1) := by decide +kernel
theorem dX1_copyFrom_47 : decode cX1_copyFrom 47 = .ok (.getfield 21, 3) := by decide +kernel
theorem dX1_copyFrom_50 : decode cX1_copyFrom 50 = .ok (.putfield 21, 3) := by decide +kernel
theorem dX1_copyFrom_53 : decode cX1_copyFrom 53 = .ok (.return_, 1) := by decide +kernel
theorem dX1_rankOf_0 : decode cX1_rankOf 0 = .ok (.iconst 0, 1) := by decide +kernel
theorem dX1_rankOf_1 : decode cX1_rankOf 1 = .ok (.istore_n 2, 1) := by decide +kernel
theorem dX1_rankOf_2 : decode cX1_rankOf 2 = .ok (.iload_n 2, 1) := by decide +kernel
theorem dX1_rankOf_3 : decode cX1_rankOf 3 = .ok (.aload_n 0, 1) := by decide +kernel
theorem dX1_rankOf_4 : decode cX1_rankOf 4 = .ok (.getfield 21, 3) := by decide +kernel
theorem dX1_rankOf_7 : decode cX1_rankOf 7 = .ok (.if_icmp .ge 21, 3) := by decide +kernel
theorem dX1_rankOf_10 : decode cX1_rankOf 10 = .ok (.aload_n 0, 1) := by decide +kernel
theorem dX1_rankOf_11 : decode cX1_rankOf 11 = .ok (.getfield 9, 3) := by decide +kernel
theorem dX1_rankOf_14 : decode cX1_rankOf 14 = .ok (.iload_n 2, 1) := by decide +kernel
theorem dX1_rankOf_15 : decode cX1_rankOf 15 = .ok (.iaload, 1) := by decide +kernel
theorem dX1_rankOf_16 : decode cX1_rankOf 16 = .ok (.iload_n 1, 1) := by decide +kernel
theorem dX1_rankOf_17 : decode cX1_rankOf 17 = .ok (.if_icmp .ne 5, 3) := by decide +kernel
theorem dX1_rankOf_20 : decode cX1_rankOf 20 = .ok (.iload_n 2, 1) := by decide +kernel
theorem dX1_rankOf_21 : decode cX1_rankOf 21 = .ok (.ireturn, 1) := by decide +kernel
theorem dX1_rankOf_22 : decode cX1_rankOf 22 = .ok (.iinc 2 1, 3) := by decide +kernel
theorem dX1_rankOf_25 : decode cX1_rankOf 25 = .ok (.goto (-23), 3) := by decide +kernel
theorem dX1_rankOf_28 : decode cX1_rankOf 28 = .ok (.iconst (-1), 1) := by decide +kernel
theorem dX1_rankOf_29 : decode cX1_rankOf 29 = .ok (.ireturn, 1) := by decide +kernel
theorem dX1_insert_0 : decode cX1_insert 0 = .ok (.aload_n 0, 1) := by decide +kernel
theorem dX1_insert_1 : decode cX1_insert 1 = .ok (.getfield 21, 3) := by decide +kernel
theorem dX1_insert_4 : decode cX1_insert 4 = .ok (.bipush 8, 2) := by decide +kernel
theorem dX1_insert_6 : decode cX1_insert 6 = .ok (.if_icmp .lt 4, 3) := by decide +kernel
theorem dX1_insert_9 : decode cX1_insert 9 = .ok (.return_, 1) := by decide +kernel
theorem dX1_insert_10 : decode cX1_insert 10 = .ok (.aload_n 0, 1) := by decide +kernel
theorem dX1_insert_11 : decode cX1_insert 11 = .ok (.getfield 21, 3) := by decide +kernel
theorem dX1_insert_14 : decode cX1_insert 14 = .ok (.istore 4, 2) := by decide +kernel
theorem dX1_insert_16 : decode cX1_insert 16 = .ok (.iload 4, 2) := by decide +kernel
theorem dX1_insert_18 : decode cX1_insert 18 = .ok (.ifCond .le 32, 3) := by decide +kernel
theorem dX1_insert_21 : decode cX1_insert 21 = .ok (.aload_n 0, 1) := by decide +kernel
theorem dX1_insert_22 : decode cX1_insert 22 = .ok (.getfield 9, 3) := by decide +kernel
theorem dX1_insert_25 : decode cX1_insert 25 = .ok (.iload 4, 2) := by decide +kernel
theorem dX1_insert_27 : decode cX1_insert 27 = .ok (.iconst 1, 1) := by decide +kernel
theorem dX1_insert_28 : decode cX1_insert 28 = .ok (.isub, 1) := by decide +kernel
theorem dX1_insert_29 : decode cX1_insert 29 = .ok (.iaload, 1) := by decide +kernel
theorem dX1_insert_30 : decode cX1_insert 30 = .ok (.iload_n 1, 1) := by decide +kernel
theorem dX1_insert_31 : decode cX1_insert 31 = .ok (.if_icmp .le 19, 3) := by decide +kernel
theorem dX1_insert_34 : decode cX1_insert 34 = .ok (.aload_n 0, 1) := by decide +kernel
theorem dX1_insert_35 : decode cX1_insert 35 = .ok (.iload 4, 2) := by decide +kernel
theorem dX1_insert_37 : decode cX1_insert 37 = .ok (.iconst 1, 1) := by decide +kernel
theorem dX1_insert_38 : decode cX1_insert 38 = .ok (.isub, 1) := by decide +kernel
theorem dX1_insert_39 : decode cX1_insert 39 = .ok (.iload 4, 2) := by decide +kernel
theorem dX1_insert_41 : decode cX1_insert 41 = .ok (.invokevirtual 31, 3) := by decide +kernel
theorem dX1_insert_44 : decode cX1_insert 44 = .ok (.iinc 4 (-1), 3) := by decide +kernel
theorem dX1_insert_47 : decode cX1_insert 47 = .ok (.goto (-31), 3) := by decide +kernel
theorem dX1_insert_50 : decode cX1_insert 50 = .ok (.aload_n 0, 1) := by decide +kernel
theorem dX1_insert_51 : decode cX1_insert 51 = .ok (.getfield 9, 3) := by decide +kernel
theorem dX1_insert_54 : decode cX1_insert 54 = .ok (.iload 4, 2) := by decide +kernel
theorem dX1_insert_56 : decode cX1_insert 56 = .ok (.iload_n 1, 1) := by decide +kernel
theorem dX1_insert_57 : decode cX1_insert 57 = .ok (.iastore, 1) := by decide +kernel
theorem dX1_insert_58 : decode cX1_insert 58 = .ok (.aload_n 0, 1) := by decide +kernel
theorem dX1_insert_59 : decode cX1_insert 59 = .ok (.getfield 15, 3) := by decide +kernel
theorem dX1_insert_62 : decode cX1_insert 62 = .ok (.iload 4, 2) := by decide +kernel
theorem dX1_insert_64 : decode cX1_insert 64 = .ok (.iload_n 2, 1) := by decide +kernel
theorem dX1_insert_65 : decode cX1_insert 65 = .ok (.iastore, 1) := by decide +kernel
theorem dX1_insert_66 : decode cX1_insert 66 = .ok (.aload_n 0, 1) := by decide +kernel
theorem dX1_insert_67 : decode cX1_insert 67 = .ok (.getfield 18, 3) := by decide +kernel
theorem dX1_insert_70 : decode cX1_insert 70 = .ok (.iload 4, 2) := by decide +kernel
theorem dX1_insert_72 : decode cX1_insert 72 = .ok (.iload_n 3, 1) := by decide +kernel
theorem dX1_insert_73 : decode cX1_insert 73 = .ok (.iastore, 1) := by decide +kernel
theorem dX1_insert_74 : decode cX1_insert 74 = .ok (.aload_n 0, 1) := by decide +kernel
theorem dX1_insert_75 : decode cX1_insert 75 = .ok (.dup, 1) := by decide +kernel
theorem dX1_insert_76 : decode cX1_insert 76 = .ok (.getfield 21, 3) := by decide +kernel
theorem dX1_insert_79 : decode cX1_insert 79 = .ok (.iconst 1, 1) := by decide +kernel
theorem dX1_insert_80 : decode cX1_insert 80 = .ok (.iadd, 1) := by decide +kernel
theorem dX1_insert_81 : decode cX1_insert 81 = .ok (.putfield 21, 3) := by decide +kernel
theorem dX1_insert_84 : decode cX1_insert 84 = .ok (.return_, 1) := by decide +kernel
theorem dX1_remove_0 : decode cX1_remove 0 = .ok (.iload_n 1, 1) := by decide +kernel
theorem dX1_remove_1 : decode cX1_remove 1 = .ok (.istore_n 2, 1) := by decide +kernel
theorem dX1_remove_2 : decode cX1_remove 2 = .ok (.iload_n 2, 1) := by decide +kernel
theorem dX1_remove_3 : decode cX1_remove 3 = .ok (.aload_n 0, 1) := by decide +kernel
theorem dX1_remove_4 : decode cX1_remove 4 = .ok (.getfield 21, 3) := by decide +kernel
theorem dX1_remove_7 : decode cX1_remove 7 = .ok (.iconst 1, 1) := by decide +kernel
theorem dX1_remove_8 : decode cX1_remove 8 = .ok (.isub, 1) := by decide +kernel
theorem dX1_remove_9 : decode cX1_remove 9 = .ok (.if_icmp .ge 17, 3) := by decide +kernel
theorem dX1_remove_12 : decode cX1_remove 12 = .ok (.aload_n 0, 1) := by decide +kernel
theorem dX1_remove_13 : decode cX1_remove 13 = .ok (.iload_n 2, 1) := by decide +kernel
theorem dX1_remove_14 : decode cX1_remove 14 = .ok (.iconst 1, 1) := by decide +kernel
theorem dX1_remove_15 : decode cX1_remove 15 = .ok (.iadd, 1) := by decide +kernel
theorem dX1_remove_16 : decode cX1_remove 16 = .ok (.iload_n 2, 1) := by decide +kernel
theorem dX1_remove_17 : decode cX1_remove 17 = .ok (.invokevirtual 31, 3) := by decide +kernel
theorem dX1_remove_20 : decode cX1_remove 20 = .ok (.iinc 2 1, 3) := by decide +kernel
theorem dX1_remove_23 : decode cX1_remove 23 = .ok (.goto (-21), 3) := by decide +kernel
theorem dX1_remove_26 : decode cX1_remove 26 = .ok (.aload_n 0, 1) := by decide +kernel
theorem dX1_remove_27 : decode cX1_remove 27 = .ok (.dup, 1) := by decide +kernel
theorem dX1_remove_28 : decode cX1_remove 28 = .ok (.getfield 21, 3) := by decide +kernel
theorem dX1_remove_31 : decode cX1_remove 31 = .ok (.iconst 1, 1) := by decide +kernel
theorem dX1_remove_32 : decode cX1_remove 32 = .ok (.isub, 1) := by decide +kernel
theorem dX1_remove_33 : decode cX1_remove 33 = .ok (.putfield 21, 3) := by decide +kernel
theorem dX1_remove_36 : decode cX1_remove 36 = .ok (.return_, 1) := by decide +kernel
theorem dX1_move_0 : decode cX1_move 0 = .ok (.aload_n 0, 1) := by decide +kernel
theorem dX1_move_1 : decode cX1_move 1 = .ok (.getfield 9, 3) := by decide +kernel
theorem dX1_move_4 : decode cX1_move 4 = .ok (.iload_n 2, 1) := by decide +kernel
theorem dX1_move_5 : decode cX1_move 5 = .ok (.aload_n 0, 1) := by decide +kernel
theorem dX1_move_6 : decode cX1_move 6 = .ok (.getfield 9, 3) := by decide +kernel
theorem dX1_move_9 : decode cX1_move 9 = .ok (.iload_n 1, 1) := by decide +kernel
theorem dX1_move_10 : decode cX1_move 10 = .ok (.iaload, 1) := by decide +kernel
theorem dX1_move_11 : decode cX1_move 11 = .ok (.iastore, 1) := by decide +kernel
theorem dX1_move_12 : decode cX1_move 12 = .ok (.aload_n 0, 1) := by decide +kernel
theorem dX1_move_13 : decode cX1_move 13 = .ok (.getfield 15, 3) := by decide +kernel
theorem dX1_move_16 : decode cX1_move 16 = .ok (.iload_n 2, 1) := by decide +kernel
theorem dX1_move_17 : decode cX1_move 17 = .ok (.aload_n 0, 1) := by decide +kernel
theorem dX1_move_18 : decode cX1_move 18 = .ok (.getfield 15, 3) := by decide +kernel
theorem dX1_move_21 : decode cX1_move 21 = .ok (.iload_n 1, 1) := by decide +kernel
theorem dX1_move_22 : decode cX1_move 22 = .ok (.iaload, 1) := by decide +kernel
theorem dX1_move_23 : decode cX1_move 23 = .ok (.iastore, 1) := by decide +kernel
theorem dX1_move_24 : decode cX1_move 24 = .ok (.aload_n 0, 1) := by decide +kernel
theorem dX1_move_25 : decode cX1_move 25 = .ok (.getfield 18, 3) := by decide +kernel
theorem dX1_move_28 : decode cX1_move 28 = .ok (.iload_n 2, 1) := by decide +kernel
theorem dX1_move_29 : decode cX1_move 29 = .ok (.aload_n 0, 1) := by decide +kernel
theorem dX1_move_30 : decode cX1_move 30 = .ok (.getfield 18, 3) := by decide +kernel
theorem dX1_move_33 : decode cX1_move 33 = .ok (.iload_n 1, 1) := by decide +kernel
theorem dX1_move_34 : decode cX1_move 34 = .ok (.iaload, 1) := by decide +kernel
theorem dX1_move_35 : decode cX1_move 35 = .ok (.iastore, 1) := by decide +kernel
theorem dX1_move_36 : decode cX1_move 36 = .ok (.return_, 1) := by decide +kernel
theorem dX2_init_0 : decode cX2_init 0 = .ok (.aload_n 0, 1) := by decide +kernel
theorem dX2_init_1 : decode cX2_init 1 = .ok (.invokespecial 3, 3) := by decide +kernel
theorem dX2_init_4 : decode cX2_init 4 = .ok (.aload_n 0, 1) := by decide +kernel
theorem dX2_init_5 : decode cX2_init 5 = .ok (.bipush 12, 2) := by decide +kernel
theorem dX2_init_7 : decode cX2_init 7 = .ok (.newarray .int, 2) := by decide +kernel
theorem dX2_init_9 : decode cX2_init 9 = .ok (.putfield 9, 3) := by decide +kernel
theorem dX2_init_12 : decode cX2_init 12 = .ok (.aload_n 0, 1) := by decide +kernel
theorem dX2_init_13 : decode cX2_init 13 = .ok (.iconst 0, 1) := by decide +kernel
theorem dX2_init_14 : decode cX2_init 14 = .ok (.putfield 15, 3) := by decide +kernel
theorem dX2_init_17 : decode cX2_init 17 = .ok (.return_, 1) := by decide +kernel
theorem dX2_look_0 : decode cX2_look 0 = .ok (.aload_n 1, 1) := by decide +kernel
theorem dX2_look_1 : decode cX2_look 1 = .ok (.invokevirtual 19, 3) := by decide +kernel
theorem dX2_look_4 : decode cX2_look 4 = .ok (.istore_n 2, 1) := by decide +kernel
theorem dX2_look_5 : decode cX2_look 5 = .ok (.aload_n 0, 1) := by decide +kernel
theorem dX2_look_6 : decode cX2_look 6 = .ok (.iconst 0, 1) := by decide +kernel
theorem dX2_look_7 : decode cX2_look 7 = .ok (.putfield 15, 3) := by decide +kernel
theorem dX2_look_10 : decode cX2_look 10 = .ok (.iconst 0, 1) := by decide +kernel
theorem dX2_look_11 : decode cX2_look 11 = .ok (.istore_n 3, 1) := by decide +kernel
theorem dX2_look_12 : decode cX2_look 12 = .ok (.iload_n 3, 1) := by decide +kernel
theorem dX2_look_13 : decode cX2_look 13 = .ok (.aload_n 1, 1) := by decide +kernel
theorem dX2_look_14 : decode cX2_look 14 = .ok (.getfield 25, 3) := by decide +kernel
theorem dX2_look_17 : decode cX2_look 17 = .ok (.getfield 29, 3) := by decide +kernel
theorem dX2_look_20 : decode cX2_look 20 = .ok (.if_icmp .ge 28, 3) := by decide +kernel
theorem dX2_look_23 : decode cX2_look 23 = .ok (.aload_n 1, 1) := by decide +kernel
theorem dX2_look_24 : decode cX2_look 24 = .ok (.getfield 25, 3) := by decide +kernel
theorem dX2_look_27 : decode cX2_look 27 = .ok (.iload_n 3, 1) := by decide +kernel
theorem dX2_look_28 : decode cX2_look 28 = .ok (.iload_n 2, 1) := by decide +kernel
theorem dX2_look_29 : decode cX2_look 29 = .ok (.invokevirtual 32, 3) := by decide +kernel
theorem dX2_look_32 : decode cX2_look 32 = .ok (.ifCond .eq 10, 3) := by decide +kernel
theorem dX2_look_35 : decode cX2_look 35 = .ok (.aload_n 0, 1) := by decide +kernel
theorem dX2_look_36 : decode cX2_look 36 = .ok (.aload_n 1, 1) := by decide +kernel
theorem dX2_look_37 : decode cX2_look 37 = .ok (.iload_n 3, 1) := by decide +kernel
theorem dX2_look_38 : decode cX2_look 38 = .ok (.iload_n 2, 1) := by decide +kernel
theorem dX2_look_39 : decode cX2_look 39 = .ok (.invokevirtual 36, 3) := by decide +kernel
theorem dX2_look_42 : decode cX2_look 42 = .ok (.iinc 3 1, 3) := by decide +kernel
theorem dX2_look_45 : decode cX2_look 45 = .ok (.goto (-33), 3) := by decide +kernel
theorem dX2_look_48 : decode cX2_look 48 = .ok (.return_, 1) := by decide +kernel
theorem dX2_insert_0 : decode cX2_insert 0 = .ok (.aload_n 1, 1) := by decide +kernel
theorem dX2_insert_1 : decode cX2_insert 1 = .ok (.getfield 25, 3) := by decide +kernel
theorem dX2_insert_4 : decode cX2_insert 4 = .ok (.iload_n 2, 1) := by decide +kernel
theorem dX2_insert_5 : decode cX2_insert 5 = .ok (.iload_n 3, 1) := by decide +kernel
theorem dX2_insert_6 : decode cX2_insert 6 = .ok (.invokevirtual 40, 3) := by decide +kernel
theorem dX2_insert_9 : decode cX2_insert 9 = .ok (.istore 4, 2) := by decide +kernel
theorem dX2_insert_11 : decode cX2_insert 11 = .ok (.aload_n 0, 1) := by decide +kernel
theorem dX2_insert_12 : decode cX2_insert 12 = .ok (.getfield 15, 3) := by decide +kernel
theorem dX2_insert_15 : decode cX2_insert 15 = .ok (.istore 5, 2) := by decide +kernel
theorem dX2_insert_17 : decode cX2_insert 17 = .ok (.iload 5, 2) := by decide +kernel
theorem dX2_insert_19 : decode cX2_insert 19 = .ok (.ifCond .le 66, 3) := by decide +kernel
theorem dX2_insert_22 : decode cX2_insert 22 = .ok (.iload 4, 2) := by decide +kernel
theorem dX2_insert_24 : decode cX2_insert 24 = .ok (.aload_n 1, 1) := by decide +kernel
theorem dX2_insert_25 : decode cX2_insert 25 = .ok (.getfield 25, 3) := by decide +kernel
theorem dX2_insert_28 : decode cX2_insert 28 = .ok (.aload_n 0, 1) := by decide +kernel
theorem dX2_insert_29 : decode cX2_insert 29 = .ok (.getfield 9, 3) := by decide +kernel
theorem dX2_insert_32 : decode cX2_insert 32 = .ok (.iload 5, 2) := by decide +kernel
theorem dX2_insert_34 : decode cX2_insert 34 = .ok (.iconst 1, 1) := by decide +kernel
theorem dX2_insert_35 : decode cX2_insert 35 = .ok (.isub, 1) := by decide +kernel
theorem dX2_insert_36 : decode cX2_insert 36 = .ok (.iaload, 1) := by decide +kernel
theorem dX2_insert_37 : decode cX2_insert 37 = .ok (.iload_n 3, 1) := by decide +kernel
theorem dX2_insert_38 : decode cX2_insert 38 = .ok (.invokevirtual 40, 3) := by decide +kernel
theorem dX2_insert_41 : decode cX2_insert 41 = .ok (.if_icmp .ge 7, 3) := by decide +kernel
theorem dX2_insert_44 : decode cX2_insert 44 = .ok (.iconst 1, 1) := by decide +kernel
theorem dX2_insert_45 : decode cX2_insert 45 = .ok (.goto 4, 3) := by decide +kernel
theorem dX2_insert_48 : decode cX2_insert 48 = .ok (.iconst 0, 1) := by decide +kernel
theorem dX2_insert_49 : decode cX2_insert 49 = .ok (.istore 6, 2) := by decide +kernel
theorem dX2_insert_51 : decode cX2_insert 51 = .ok (.iload 6, 2) := by decide +kernel
theorem dX2_insert_53 : decode cX2_insert 53 = .ok (.aload_n 1, 1) := by decide +kernel
theorem dX2_insert_54 : decode cX2_insert 54 = .ok (.getfield 44, 3) := by decide +kernel
theorem dX2_insert_57 : decode cX2_insert 57 = .ok (.if_icmp .ne 6, 3) := by decide +kernel
theorem dX2_insert_60 : decode cX2_insert 60 = .ok (.goto 25, 3) := by decide +kernel
theorem dX2_insert_63 : decode cX2_insert 63 = .ok (.aload_n 0, 1) := by decide +kernel
theorem dX2_insert_64 : decode cX2_insert 64 = .ok (.getfield 9, 3) := by decide +kernel
theorem dX2_insert_67 : decode cX2_insert 67 = .ok (.iload 5, 2) := by decide +kernel
theorem dX2_insert_69 : decode cX2_insert 69 = .ok (.aload_n 0, 1) := by decide +kernel
theorem dX2_insert_70 : decode cX2_insert 70 = .ok (.getfield 9, 3) := by decide +kernel
theorem dX2_insert_73 : decode cX2_insert 73 = .ok (.iload 5, 2) := by decide +kernel
theorem dX2_insert_75 : decode cX2_insert 75 = .ok (.iconst 1, 1) := by decide +kernel
theorem dX2_insert_76 : decode cX2_insert 76 = .ok (.isub, 1) := by decide +kernel
theorem dX2_insert_77 : decode cX2_insert 77 = .ok (.iaload, 1) := by decide +kernel
theorem dX2_insert_78 : decode cX2_insert 78 = .ok (.iastore, 1) := by decide +kernel
theorem dX2_insert_79 : decode cX2_insert 79 = .ok (.iinc 5 (-1), 3) := by decide +kernel
theorem dX2_insert_82 : decode cX2_insert 82 = .ok (.goto (-65), 3) := by decide +kernel
theorem dX2_insert_85 : decode cX2_insert 85 = .ok (.aload_n 0, 1) := by decide +kernel
theorem dX2_insert_86 : decode cX2_insert 86 = .ok (.getfield 9, 3) := by decide +kernel
theorem dX2_insert_89 : decode cX2_insert 89 = .ok (.iload 5, 2) := by decide +kernel
theorem dX2_insert_91 : decode cX2_insert 91 = .ok (.iload_n 2, 1) := by decide +kernel
theorem dX2_insert_92 : decode cX2_insert 92 = .ok (.iastore, 1) := by decide +kernel
theorem dX2_insert_93 : decode cX2_insert 93 = .ok (.aload_n 0, 1) := by decide +kernel
theorem dX2_insert_94 : decode cX2_insert 94 = .ok (.dup, 1) := by decide +kernel
theorem dX2_insert_95 : decode cX2_insert 95 = .ok (.getfield 15, 3) := by decide +kernel
theorem dX2_insert_98 : decode cX2_insert 98 = .ok (.iconst 1, 1) := by decide +kernel
theorem dX2_insert_99 : decode cX2_insert 99 = .ok (.iadd, 1) := by decide +kernel
theorem dX2_insert_100 : decode cX2_insert 100 = .ok (.putfield 15, 3) := by decide +kernel
theorem dX2_insert_103 : decode cX2_insert 103 = .ok (.return_, 1) := by decide +kernel
theorem dX3_init_0 : decode cX3_init 0 = .ok (.aload_n 0, 1) := by decide +kernel
theorem dX3_init_1 : decode cX3_init 1 = .ok (.invokespecial 3, 3) := by decide +kernel
theorem dX3_init_4 : decode cX3_init 4 = .ok (.aload_n 0, 1) := by decide +kernel
theorem dX3_init_5 : decode cX3_init 5 = .ok (.bipush 12, 2) := by decide +kernel
theorem dX3_init_7 : decode cX3_init 7 = .ok (.newarray .int, 2) := by decide +kernel
theorem dX3_init_9 : decode cX3_init 9 = .ok (.putfield 9, 3) := by decide +kernel
theorem dX3_init_12 : decode cX3_init 12 = .ok (.aload_n 0, 1) := by decide +kernel
theorem dX3_init_13 : decode cX3_init 13 = .ok (.bipush 12, 2) := by decide +kernel
theorem dX3_init_15 : decode cX3_init 15 = .ok (.newarray .int, 2) := by decide +kernel
theorem dX3_init_17 : decode cX3_init 17 = .ok (.putfield 15, 3) := by decide +kernel
theorem dX3_init_20 : decode cX3_init 20 = .ok (.aload_n 0, 1) := by decide +kernel
theorem dX3_init_21 : decode cX3_init 21 = .ok (.bipush 12, 2) := by decide +kernel
theorem dX3_init_23 : decode cX3_init 23 = .ok (.newarray .int, 2) := by decide +kernel
theorem dX3_init_25 : decode cX3_init 25 = .ok (.putfield 18, 3) := by decide +kernel
theorem dX3_init_28 : decode cX3_init 28 = .ok (.aload_n 0, 1) := by decide +kernel
theorem dX3_init_29 : decode cX3_init 29 = .ok (.bipush 12, 2) := by decide +kernel
theorem dX3_init_31 : decode cX3_init 31 = .ok (.newarray .int, 2) := by decide +kernel
theorem dX3_init_33 : decode cX3_init 33 = .ok (.putfield 21, 3) := by decide +kernel
theorem dX3_init_36 : decode cX3_init 36 = .ok (.aload_n 0, 1) := by decide +kernel
theorem dX3_init_37 : decode cX3_init 37 = .ok (.bipush 12, 2) := by decide +kernel
theorem dX3_init_39 : decode cX3_init 39 = .ok (.newarray .int, 2) := by decide +kernel
theorem dX3_init_41 : decode cX3_init 41 = .ok (.putfield 24, 3) := by decide +kernel
theorem dX3_init_44 : decode cX3_init 44 = .ok (.aload_n 0, 1) := by decide +kernel
theorem dX3_init_45 : decode cX3_init 45 = .ok (.bipush 12, 2) := by decide +kernel
theorem dX3_init_47 : decode cX3_init 47 = .ok (.newarray .int, 2) := by decide +kernel
theorem dX3_init_49 : decode cX3_init 49 = .ok (.putfield 27, 3) := by decide +kernel
theorem dX3_init_52 : decode cX3_init 52 = .ok (.aload_n 0, 1) := by decide +kernel
theorem dX3_init_53 : decode cX3_init 53 = .ok (.iconst 0, 1) := by decide +kernel
theorem dX3_init_54 : decode cX3_init 54 = .ok (.putfield 30, 3) := by decide +kernel
theorem dX3_init_57 : decode cX3_init 57 = .ok (.aload_n 0, 1) := by decide +kernel
theorem dX3_init_58 : decode cX3_init 58 = .ok (.iconst 0, 1) := by decide +kernel
theorem dX3_init_59 : decode cX3_init 59 = .ok (.putfield 34, 3) := by decide +kernel
theorem dX3_init_62 : decode cX3_init 62 = .ok (.return_, 1) := by decide +kernel
theorem dX3_copyFrom_0 : decode cX3_copyFrom 0 = .ok (.aload_n 1, 1) := by decide +kernel
theorem dX3_copyFrom_1 : decode cX3_copyFrom 1 = .ok (.getfield 9, 3) := by decide +kernel
theorem dX3_copyFrom_4 : decode cX3_copyFrom 4 = .ok (.iconst 0, 1) := by decide +kernel
theorem dX3_copyFrom_5 : decode cX3_copyFrom 5 = .ok (.aload_n 0, 1) := by decide +kernel
theorem dX3_copyFrom_6 : decode cX3_copyFrom 6 = .ok (.getfield 9, 3) := by decide +kernel
theorem dX3_copyFrom_9 : decode cX3_copyFrom 9 = .ok (.iconst 0, 1) := by decide +kernel
theorem dX3_copyFrom_10 : decode cX3_copyFrom 10 = .ok (.bipush 12, 2) := by decide +kernel
theorem dX3_copyFrom_12 : decode cX3_copyFrom 12 = .ok (.invokestatic 37, 3) := by decide +kernel
theorem dX3_copyFrom_15 : decode cX3_copyFrom 15 = .ok (.aload_n 1, 1) := by decide +kernel
theorem dX3_copyFrom_16 : decode cX3_copyFrom 16 = .ok (.getfield 15, 3) := by decide +kernel
theorem dX3_copyFrom_19 : decode cX3_copyFrom 19 = .ok (.iconst 0, 1) := by decide +kernel
theorem dX3_copyFrom_20 : decode cX3_copyFrom 20 = .ok (.aload_n 0, 1) := by decide +kernel
theorem dX3_copyFrom_21 : decode cX3_copyFrom 21 = .ok (.getfield 15, 3) := by decide +kernel
theorem dX3_copyFrom_24 : decode cX3_copyFrom 24 = .ok (.iconst 0, 1) := by decide +kernel
theorem dX3_copyFrom_25 : decode cX3_copyFrom 25 = .ok (.bipush 12, 2) := by decide +kernel
theorem dX3_copyFrom_27 : decode cX3_copyFrom 27 = .ok (.invokestatic 37, 3) := by decide +kernel
theorem dX3_copyFrom_30 : decode cX3_copyFrom 30 = .ok (.aload_n 1, 1) := by decide +kernel
theorem dX3_copyFrom_31 : decode cX3_copyFrom 31 = .ok (.getfield 18, 3) := by decide +kernel
theorem dX3_copyFrom_34 : decode cX3_copyFrom 34 = .ok (.iconst 0, 1) := by decide +kernel
theorem dX3_copyFrom_35 : decode cX3_copyFrom 35 = .ok (.aload_n 0, 1) := by decide +kernel
theorem dX3_copyFrom_36 : decode cX3_copyFrom 36 = .ok (.getfield 18, 3) := by decide +kernel
theorem dX3_copyFrom_39 : decode cX3_copyFrom 39 = .ok (.iconst 0, 1) := by decide +kernel
theorem dX3_copyFrom_40 : decode cX3_copyFrom 40 = .ok (.bipush 12, 2) := by decide +kernel
theorem dX3_copyFrom_42 : decode cX3_copyFrom 42 = .ok (.invokestatic 37, 3) := by decide +kernel
theorem dX3_copyFrom_45 : decode cX3_copyFrom 45 = .ok (.aload_n 1, 1) := by decide +kernel
theorem dX3_copyFrom_46 : decode cX3_copyFrom 46 = .ok (.getfield 21, 3) := by decide +kernel
theorem dX3_copyFrom_49 : decode cX3_copyFrom 49 = .ok (.iconst 0, 1) := by decide +kernel
theorem dX3_copyFrom_50 : decode cX3_copyFrom 50 = .ok (.aload_n 0, 1) := by decide +kernel
theorem dX3_copyFrom_51 : decode cX3_copyFrom 51 = .ok (.getfield 21, 3) := by decide +kernel
theorem dX3_copyFrom_54 : decode cX3_copyFrom 54 = .ok (.iconst 0, 1) := by decide +kernel
theorem dX3_copyFrom_55 : decode cX3_copyFrom 55 = .ok (.bipush 12, 2) := by decide +kernel
theorem dX3_copyFrom_57 : decode cX3_copyFrom 57 = .ok (.invokestatic 37, 3) := by decide +kernel
theorem dX3_copyFrom_60 : decode cX3_copyFrom 60 = .ok (.aload_n 1, 1) := by decide +kernel
theorem dX3_copyFrom_61 : decode cX3_copyFrom 61 = .ok (.getfield 24, 3) := by decide +kernel
theorem dX3_copyFrom_64 : decode cX3_copyFrom 64 = .ok (.iconst 0, 1) := by decide +kernel
theorem dX3_copyFrom_65 : decode cX3_copyFrom 65 = .ok (.aload_n 0, 1) := by decide +kernel
theorem dX3_copyFrom_66 : decode cX3_copyFrom 66 = .ok (.getfield 24, 3) := by decide +kernel
theorem dX3_copyFrom_69 : decode cX3_copyFrom 69 = .ok (.iconst 0, 1) := by decide +kernel
theorem dX3_copyFrom_70 : decode cX3_copyFrom 70 = .ok (.bipush 12, 2) := by decide +kernel
theorem dX3_copyFrom_72 : decode cX3_copyFrom 72 = .ok (.invokestatic 37, 3) := by decide +kernel
theorem dX3_copyFrom_75 : decode cX3_copyFrom 75 = .ok (.aload_n 1, 1) := by decide +kernel
theorem dX3_copyFrom_76 : decode cX3_copyFrom 76 = .ok (.getfield 27, 3) := by decide +kernel
theorem dX3_copyFrom_79 : decode cX3_copyFrom 79 = .ok (.iconst 0, 1) := by decide +kernel
theorem dX3_copyFrom_80 : decode cX3_copyFrom 80 = .ok (.aload_n 0, 1) := by decide +kernel
theorem dX3_copyFrom_81 : decode cX3_copyFrom 81 = .ok (.getfield 27, 3) := by decide +kernel
theorem dX3_copyFrom_84 : decode cX3_copyFrom 84 = .ok (.iconst 0, 1) := by decide +kernel
theorem dX3_copyFrom_85 : decode cX3_copyFrom 85 = .ok (.bipush 12, 2) := by decide +kernel
theorem dX3_copyFrom_87 : decode cX3_copyFrom 87 = .ok (.invokestatic 37, 3) := by decide +kernel
theorem dX3_copyFrom_90 : decode cX3_copyFrom 90 = .ok (.aload_n 0, 1) := by decide +kernel
theorem dX3_copyFrom_91 : decode cX3_copyFrom 91 = .ok (.aload_n 1, 1) := by decide +kernel
theorem dX3_copyFrom_92 : decode cX3_copyFrom 92 = .ok (.getfield 30, 3) := by decide +kernel
theorem dX3_copyFrom_95 : decode cX3_copyFrom 95 = .ok (.putfield 30, 3) := by decide +kernel
theorem dX3_copyFrom_98 : decode cX3_copyFrom 98 = .ok (.aload_n 0, 1) := by decide +kernel
theorem dX3_copyFrom_99 : decode cX3_copyFrom 99 = .ok (.aload_n 1, 1) := by decide +kernel
theorem dX3_copyFrom_100 : decode cX3_copyFrom 100 = .ok (.getfield 34, 3) := by decide +kernel
theorem dX3_copyFrom_103 : decode cX3_copyFrom 103 = .ok (.putfield 34, 3) := by decide +kernel
theorem dX3_copyFrom_106 : decode cX3_copyFrom 106 = .ok (.return_, 1) := by decide +kernel
theorem dX3_hasPlace_0 : decode cX3_hasPlace 0 = .ok (.iload_n 1, 1) := by decide +kernel
theorem dX3_hasPlace_1 : decode cX3_hasPlace 1 = .ok (.ifCond .lt 15, 3) := by decide +kernel
theorem dX3_hasPlace_4 : decode cX3_hasPlace 4 = .ok (.iload_n 1, 1) := by decide +kernel
theorem dX3_hasPlace_5 : decode cX3_hasPlace 5 = .ok (.aload_n 0, 1) := by decide +kernel
theorem dX3_hasPlace_6 : decode cX3_hasPlace 6 = .ok (.getfield 30, 3) := by decide +kernel
theorem dX3_hasPlace_9 : decode cX3_hasPlace 9 = .ok (.if_icmp .ge 7, 3) := by decide +kernel
theorem dX3_hasPlace_12 : decode cX3_hasPlace 12 = .ok (.iconst 1, 1) := by decide +kernel
theorem dX3_hasPlace_13 : decode cX3_hasPlace 13 = .ok (.goto 4, 3) := by decide +kernel
theorem dX3_hasPlace_16 : decode cX3_hasPlace 16 = .ok (.iconst 0, 1) := by decide +kernel
theorem dX3_hasPlace_17 : decode cX3_hasPlace 17 = .ok (.ireturn, 1) := by decide +kernel
theorem dX3_hasPairAt_0 : decode cX3_hasPairAt 0 = .ok (.iload_n 1, 1) := by decide +kernel
theorem dX3_hasPairAt_1 : decode cX3_hasPairAt 1 = .ok (.ifCond .lt 17, 3) := by decide +kernel
theorem dX3_hasPairAt_4 : decode cX3_hasPairAt 4 = .ok (.iload_n 1, 1) := by decide +kernel
theorem dX3_hasPairAt_5 : decode cX3_hasPairAt 5 = .ok (.aload_n 0, 1) := by decide +kernel
theorem dX3_hasPairAt_6 : decode cX3_hasPairAt 6 = .ok (.getfield 30, 3) := by decide +kernel
theorem dX3_hasPairAt_9 : decode cX3_hasPairAt 9 = .ok (.iconst 1, 1) := by decide +kernel
theorem dX3_hasPairAt_10 : decode cX3_hasPairAt 10 = .ok (.isub, 1) := by decide +kernel
theorem dX3_hasPairAt_11 : decode cX3_hasPairAt 11 = .ok (.if_icmp .ge 7, 3) := by decide +kernel
theorem dX3_hasPairAt_14 : decode cX3_hasPairAt 14 = .ok (.iconst 1, 1) := by decide +kernel
theorem dX3_hasPairAt_15 : decode cX3_hasPairAt 15 = .ok (.goto 4, 3) := by decide +kernel
theorem dX3_hasPairAt_18 : decode cX3_hasPairAt 18 = .ok (.iconst 0, 1) := by decide +kernel
theorem dX3_hasPairAt_19 : decode cX3_hasPairAt 19 = .ok (.ireturn, 1) := by decide +kernel
theorem dX3_hasRoomFor_0 : decode cX3_hasRoomFor 0 = .ok (.aload_n 0, 1) := by decide +kernel
theorem dX3_hasRoomFor_1 : decode cX3_hasRoomFor 1 = .ok (.getfield 30, 3) := by decide +kernel
theorem dX3_hasRoomFor_4 : decode cX3_hasRoomFor 4 = .ok (.iload_n 1, 1) := by decide +kernel
theorem dX3_hasRoomFor_5 : decode cX3_hasRoomFor 5 = .ok (.iadd, 1) := by decide +kernel
theorem dX3_hasRoomFor_6 : decode cX3_hasRoomFor 6 = .ok (.bipush 12, 2) := by decide +kernel
theorem dX3_hasRoomFor_8 : decode cX3_hasRoomFor 8 = .ok (.if_icmp .gt 18, 3) := by decide +kernel
theorem dX3_hasRoomFor_11 : decode cX3_hasRoomFor 11 = .ok (.aload_n 0, 1) := by decide +kernel
theorem dX3_hasRoomFor_12 : decode cX3_hasRoomFor 12 = .ok (.getfield 34, 3) := by decide +kernel
theorem dX3_hasRoomFor_15 : decode cX3_hasRoomFor 15 = .ok (.iload_n 1, 1) := by decide +kernel
theorem dX3_hasRoomFor_16 : decode cX3_hasRoomFor 16 = .ok (.iadd, 1) := by decide +kernel
theorem dX3_hasRoomFor_17 : decode cX3_hasRoomFor 17 = .ok (.bipush 99, 2) := by decide +kernel
theorem dX3_hasRoomFor_19 : decode cX3_hasRoomFor 19 = .ok (.if_icmp .gt 7, 3) := by decide +kernel
theorem dX3_hasRoomFor_22 : decode cX3_hasRoomFor 22 = .ok (.iconst 1, 1) := by decide +kernel
theorem dX3_hasRoomFor_23 : decode cX3_hasRoomFor 23 = .ok (.goto 4, 3) := by decide +kernel
theorem dX3_hasRoomFor_26 : decode cX3_hasRoomFor 26 = .ok (.iconst 0, 1) := by decide +kernel
theorem dX3_hasRoomFor_27 : decode cX3_hasRoomFor 27 = .ok (.ireturn, 1) := by decide +kernel
theorem dX3_append_0 : decode cX3_append 0 = .ok (.aload_n 0, 1) := by decide +kernel
theorem dX3_append_1 : decode cX3_append 1 = .ok (.getfield 30, 3) := by decide +kernel
theorem dX3_append_4 : decode cX3_append 4 = .ok (.bipush 12, 2) := by decide +kernel
theorem dX3_append_6 : decode cX3_append 6 = .ok (.if_icmp .lt 4, 3) := by decide +kernel
theorem dX3_append_9 : decode cX3_append 9 = .ok (.return_, 1) := by decide +kernel
theorem dX3_append_10 : decode cX3_append 10 = .ok (.aload_n 0, 1) := by decide +kernel
theorem dX3_append_11 : decode cX3_append 11 = .ok (.getfield 9, 3) := by decide +kernel
theorem dX3_append_14 : decode cX3_append 14 = .ok (.aload_n 0, 1) := by decide +kernel
theorem dX3_append_15 : decode cX3_append 15 = .ok (.getfield 30, 3) := by decide +kernel
theorem dX3_append_18 : decode cX3_append 18 = .ok (.aload_n 0, 1) := by decide +kernel
theorem dX3_append_19 : decode cX3_append 19 = .ok (.getfield 34, 3) := by decide +kernel
theorem dX3_append_22 : decode cX3_append 22 = .ok (.iastore, 1) := by decide +kernel
theorem dX3_append_23 : decode cX3_append 23 = .ok (.aload_n 0, 1) := by decide +kernel
theorem dX3_append_24 : decode cX3_append 24 = .ok (.getfield 15, 3) := by decide +kernel
theorem dX3_append_27 : decode cX3_append 27 = .ok (.aload_n 0, 1) := by decide +kernel
theorem dX3_append_28 : decode cX3_append 28 = .ok (.getfield 30, 3) := by decide +kernel
theorem dX3_append_31 : decode cX3_append 31 = .ok (.iload_n 1, 1) := by decide +kernel
theorem dX3_append_32 : decode cX3_append 32 = .ok (.iastore, 1) := by decide +kernel
theorem dX3_append_33 : decode cX3_append 33 = .ok (.aload_n 0, 1) := by decide +kernel
theorem dX3_append_34 : decode cX3_append 34 = .ok (.getfield 18, 3) := by decide +kernel
theorem dX3_append_37 : decode cX3_append 37 = .ok (.aload_n 0, 1) := by decide +kernel
theorem dX3_append_38 : decode cX3_append 38 = .ok (.getfield 30, 3) := by decide +kernel
theorem dX3_append_41 : decode cX3_append 41 = .ok (.iload_n 2, 1) := by decide +kernel
theorem dX3_append_42 : decode cX3_append 42 = .ok (.iastore, 1) := by decide +kernel
theorem dX3_append_43 : decode cX3_append 43 = .ok (.aload_n 0, 1) := by decide +kernel
theorem dX3_append_44 : decode cX3_append 44 = .ok (.getfield 21, 3) := by decide +kernel
theorem dX3_append_47 : decode cX3_append 47 = .ok (.aload_n 0, 1) := by decide +kernel
theorem dX3_append_48 : decode cX3_append 48 = .ok (.getfield 30, 3) := by decide +kernel
theorem dX3_append_51 : decode cX3_append 51 = .ok (.iconst 0, 1) := by decide +kernel
theorem dX3_append_52 : decode cX3_append 52 = .ok (.iastore, 1) := by decide +kernel
theorem dX3_append_53 : decode cX3_append 53 = .ok (.aload_n 0, 1) := by decide +kernel
theorem dX3_append_54 : decode cX3_append 54 = .ok (.getfield 24, 3) := by decide +kernel
theorem dX3_append_57 : decode cX3_append 57 = .ok (.aload_n 0, 1) := by decide +kernel
theorem dX3_append_58 : decode cX3_append 58 = .ok (.getfield 30, 3) := by decide +kernel
theorem dX3_append_61 : decode cX3_append 61 = .ok (.iconst 0, 1) := by decide +kernel
theorem dX3_append_62 : decode cX3_append 62 = .ok (.iastore, 1) := by decide +kernel
theorem dX3_append_63 : decode cX3_append 63 = .ok (.aload_n 0, 1) := by decide +kernel
theorem dX3_append_64 : decode cX3_append 64 = .ok (.getfield 27, 3) := by decide +kernel
theorem dX3_append_67 : decode cX3_append 67 = .ok (.aload_n 0, 1) := by decide +kernel
theorem dX3_append_68 : decode cX3_append 68 = .ok (.getfield 30, 3) := by decide +kernel
theorem dX3_append_71 : decode cX3_append 71 = .ok (.iconst 0, 1) := by decide +kernel
theorem dX3_append_72 : decode cX3_append 72 = .ok (.iastore, 1) := by decide +kernel
theorem dX3_append_73 : decode cX3_append 73 = .ok (.aload_n 0, 1) := by decide +kernel
theorem dX3_append_74 : decode cX3_append 74 = .ok (.dup, 1) := by decide +kernel
theorem dX3_append_75 : decode cX3_append 75 = .ok (.getfield 30, 3) := by decide +kernel
theorem dX3_append_78 : decode cX3_append 78 = .ok (.iconst 1, 1) := by decide +kernel
theorem dX3_append_79 : decode cX3_append 79 = .ok (.iadd, 1) := by decide +kernel
theorem dX3_append_80 : decode cX3_append 80 = .ok (.putfield 30, 3) := by decide +kernel
theorem dX3_append_83 : decode cX3_append 83 = .ok (.aload_n 0, 1) := by decide +kernel
theorem dX3_append_84 : decode cX3_append 84 = .ok (.dup, 1) := by decide +kernel
theorem dX3_append_85 : decode cX3_append 85 = .ok (.getfield 34, 3) := by decide +kernel
theorem dX3_append_88 : decode cX3_append 88 = .ok (.iconst 1, 1) := by decide +kernel
theorem dX3_append_89 : decode cX3_append 89 = .ok (.iadd, 1) := by decide +kernel
theorem dX3_append_90 : decode cX3_append 90 = .ok (.putfield 34, 3) := by decide +kernel
theorem dX3_append_93 : decode cX3_append 93 = .ok (.return_, 1) := by decide +kernel
theorem dX3_remove_0 : decode cX3_remove 0 = .ok (.iload_n 1, 1) := by decide +kernel
theorem dX3_remove_1 : decode cX3_remove 1 = .ok (.istore_n 2, 1) := by decide +kernel
theorem dX3_remove_2 : decode cX3_remove 2 = .ok (.iload_n 2, 1) := by decide +kernel
theorem dX3_remove_3 : decode cX3_remove 3 = .ok (.aload_n 0, 1) := by decide +kernel
theorem dX3_remove_4 : decode cX3_remove 4 = .ok (.getfield 30, 3) := by decide +kernel
theorem dX3_remove_7 : decode cX3_remove 7 = .ok (.iconst 1, 1) := by decide +kernel
theorem dX3_remove_8 : decode cX3_remove 8 = .ok (.isub, 1) := by decide +kernel
theorem dX3_remove_9 : decode cX3_remove 9 = .ok (.if_icmp .ge 14, 3) := by decide +kernel
theorem dX3_remove_12 : decode cX3_remove 12 = .ok (.aload_n 0, 1) := by decide +kernel
theorem dX3_remove_13 : decode cX3_remove 13 = .ok (.iload_n 2, 1) := by decide +kernel
theorem dX3_remove_14 : decode cX3_remove 14 = .ok (.invokevirtual 43, 3) := by decide +kernel
theorem dX3_remove_17 : decode cX3_remove 17 = .ok (.iinc 2 1, 3) := by decide +kernel
theorem dX3_remove_20 : decode cX3_remove 20 = .ok (.goto (-18), 3) := by decide +kernel
theorem dX3_remove_23 : decode cX3_remove 23 = .ok (.aload_n 0, 1) := by decide +kernel
theorem dX3_remove_24 : decode cX3_remove 24 = .ok (.dup, 1) := by decide +kernel
theorem dX3_remove_25 : decode cX3_remove 25 = .ok (.getfield 30, 3) := by decide +kernel
theorem dX3_remove_28 : decode cX3_remove 28 = .ok (.iconst 1, 1) := by decide +kernel
theorem dX3_remove_29 : decode cX3_remove 29 = .ok (.isub, 1) := by decide +kernel
theorem dX3_remove_30 : decode cX3_remove 30 = .ok (.putfield 30, 3) := by decide +kernel
theorem dX3_remove_33 : decode cX3_remove 33 = .ok (.return_, 1) := by decide +kernel
theorem dX3_swap_0 : decode cX3_swap 0 = .ok (.aload_n 0, 1) := by decide +kernel
theorem dX3_swap_1 : decode cX3_swap 1 = .ok (.iload_n 1, 1) := by decide +kernel
theorem dX3_swap_2 : decode cX3_swap 2 = .ok (.invokevirtual 43, 3) := by decide +kernel
theorem dX3_swap_5 : decode cX3_swap 5 = .ok (.aload_n 0, 1) := by decide +kernel
theorem dX3_swap_6 : decode cX3_swap 6 = .ok (.getfield 27, 3) := by decide +kernel
theorem dX3_swap_9 : decode cX3_swap 9 = .ok (.iload_n 1, 1) := by decide +kernel
theorem dX3_swap_10 : decode cX3_swap 10 = .ok (.dup2, 1) := by decide +kernel
theorem dX3_swap_11 : decode cX3_swap 11 = .ok (.iaload, 1) := by decide +kernel
theorem dX3_swap_12 : decode cX3_swap 12 = .ok (.iconst 1, 1) := by decide +kernel
theorem dX3_swap_13 : decode cX3_swap 13 = .ok (.iadd, 1) := by decide +kernel
theorem dX3_swap_14 : decode cX3_swap 14 = .ok (.iastore, 1) := by decide +kernel
theorem dX3_swap_15 : decode cX3_swap 15 = .ok (.aload_n 0, 1) := by decide +kernel
theorem dX3_swap_16 : decode cX3_swap 16 = .ok (.getfield 27, 3) := by decide +kernel
theorem dX3_swap_19 : decode cX3_swap 19 = .ok (.iload_n 1, 1) := by decide +kernel
theorem dX3_swap_20 : decode cX3_swap 20 = .ok (.iconst 1, 1) := by decide +kernel
theorem dX3_swap_21 : decode cX3_swap 21 = .ok (.iadd, 1) := by decide +kernel
theorem dX3_swap_22 : decode cX3_swap 22 = .ok (.dup2, 1) := by decide +kernel
theorem dX3_swap_23 : decode cX3_swap 23 = .ok (.iaload, 1) := by decide +kernel
theorem dX3_swap_24 : decode cX3_swap 24 = .ok (.iconst 1, 1) := by decide +kernel
theorem dX3_swap_25 : decode cX3_swap 25 = .ok (.iadd, 1) := by decide +kernel
theorem dX3_swap_26 : decode cX3_swap 26 = .ok (.iastore, 1) := by decide +kernel
theorem dX3_swap_27 : decode cX3_swap 27 = .ok (.return_, 1) := by decide +kernel
theorem dX3_swapEntries_0 : decode cX3_swapEntries 0 = .ok (.aload_n 0, 1) := by decide +kernel
theorem dX3_swapEntries_1 : decode cX3_swapEntries 1 = .ok (.getfield 9, 3) := by decide +kernel
theorem dX3_swapEntries_4 : decode cX3_swapEntries 4 = .ok (.iload_n 1, 1) := by decide +kernel
theorem dX3_swapEntries_5 : decode cX3_swapEntries 5 = .ok (.invokestatic 47, 3) := by decide +kernel
theorem dX3_swapEntries_8 : decode cX3_swapEntries 8 = .ok (.aload_n 0, 1) := by decide +kernel
theorem dX3_swapEntries_9 : decode cX3_swapEntries 9 = .ok (.getfield 15, 3) := by decide +kernel
theorem dX3_swapEntries_12 : decode cX3_swapEntries 12 = .ok (.iload_n 1, 1) := by decide +kernel
theorem dX3_swapEntries_13 : decode cX3_swapEntries 13 = .ok (.invokestatic 47, 3) := by decide +kernel
theorem dX3_swapEntries_16 : decode cX3_swapEntries 16 = .ok (.aload_n 0, 1) := by decide +kernel
theorem dX3_swapEntries_17 : decode cX3_swapEntries 17 = .ok (.getfield 18, 3) := by decide +kernel
theorem dX3_swapEntries_20 : decode cX3_swapEntries 20 = .ok (.iload_n 1, 1) := by decide +kernel
theorem dX3_swapEntries_21 : decode cX3_swapEntries 21 = .ok (.invokestatic 47, 3) := by decide +kernel
theorem dX3_swapEntries_24 : decode cX3_swapEntries 24 = .ok (.aload_n 0, 1) := by decide +kernel
theorem dX3_swapEntries_25 : decode cX3_swapEntries 25 = .ok (.getfield 21, 3) := by decide +kernel
theorem dX3_swapEntries_28 : decode cX3_swapEntries 28 = .ok (.iload_n 1, 1) := by decide +kernel
theorem dX3_swapEntries_29 : decode cX3_swapEntries 29 = .ok (.invokestatic 47, 3) := by decide +kernel
theorem dX3_swapEntries_32 : decode cX3_swapEntries 32 = .ok (.aload_n 0, 1) := by decide +kernel
theorem dX3_swapEntries_33 : decode cX3_swapEntries 33 = .ok (.getfield 24, 3) := by decide +kernel
theorem dX3_swapEntries_36 : decode cX3_swapEntries 36 = .ok (.iload_n 1, 1) := by decide +kernel
theorem dX3_swapEntries_37 : decode cX3_swapEntries 37 = .ok (.invokestatic 47, 3) := by decide +kernel
theorem dX3_swapEntries_40 : decode cX3_swapEntries 40 = .ok (.aload_n 0, 1) := by decide +kernel
theorem dX3_swapEntries_41 : decode cX3_swapEntries 41 = .ok (.getfield 27, 3) := by decide +kernel
theorem dX3_swapEntries_44 : decode cX3_swapEntries 44 = .ok (.iload_n 1, 1) := by decide +kernel
theorem dX3_swapEntries_45 : decode cX3_swapEntries 45 = .ok (.invokestatic 47, 3) := by decide +kernel
theorem dX3_swapEntries_48 : decode cX3_swapEntries 48 = .ok (.return_, 1) := by decide +kernel
theorem dX3_swapWithNext_0 : decode cX3_swapWithNext 0 = .ok (.aload_n 0, 1) := by decide +kernel
theorem dX3_swapWithNext_1 : decode cX3_swapWithNext 1 = .ok (.iload_n 1, 1) := by decide +kernel
theorem dX3_swapWithNext_2 : decode cX3_swapWithNext 2 = .ok (.iaload, 1) := by decide +kernel
theorem dX3_swapWithNext_3 : decode cX3_swapWithNext 3 = .ok (.istore_n 2, 1) := by decide +kernel
theorem dX3_swapWithNext_4 : decode cX3_swapWithNext 4 = .ok (.aload_n 0, 1) := by decide +kernel
theorem dX3_swapWithNext_5 : decode cX3_swapWithNext 5 = .ok (.iload_n 1, 1) := by decide +kernel
theorem dX3_swapWithNext_6 : decode cX3_swapWithNext 6 = .ok (.aload_n 0, 1) := by decide +kernel
theorem dX3_swapWithNext_7 : decode cX3_swapWithNext 7 = .ok (.iload_n 1, 1) := by decide +kernel
theorem dX3_swapWithNext_8 : decode cX3_swapWithNext 8 = .ok (.iconst 1, 1) := by decide +kernel
theorem dX3_swapWithNext_9 : decode cX3_swapWithNext 9 = .ok (.iadd, 1) := by decide +kernel
theorem dX3_swapWithNext_10 : decode cX3_swapWithNext 10 = .ok (.iaload, 1) := by decide +kernel
theorem dX3_swapWithNext_11 : decode cX3_swapWithNext 11 = .ok (.iastore, 1) := by decide +kernel
theorem dX3_swapWithNext_12 : decode cX3_swapWithNext 12 = .ok (.aload_n 0, 1) := by decide +kernel
theorem dX3_swapWithNext_13 : decode cX3_swapWithNext 13 = .ok (.iload_n 1, 1) := by decide +kernel
theorem dX3_swapWithNext_14 : decode cX3_swapWithNext 14 = .ok (.iconst 1, 1) := by decide +kernel
theorem dX3_swapWithNext_15 : decode cX3_swapWithNext 15 = .ok (.iadd, 1) := by decide +kernel
theorem dX3_swapWithNext_16 : decode cX3_swapWithNext 16 = .ok (.iload_n 2, 1) := by decide +kernel
theorem dX3_swapWithNext_17 : decode cX3_swapWithNext 17 = .ok (.iastore, 1) := by decide +kernel
theorem dX3_swapWithNext_18 : decode cX3_swapWithNext 18 = .ok (.return_, 1) := by decide +kernel
theorem dX3_isTangled_0 : decode cX3_isTangled 0 = .ok (.aload_n 0, 1) := by decide +kernel
theorem dX3_isTangled_1 : decode cX3_isTangled 1 = .ok (.getfield 21, 3) := by decide +kernel
theorem dX3_isTangled_4 : decode cX3_isTangled 4 = .ok (.iload_n 1, 1) := by decide +kernel
theorem dX3_isTangled_5 : decode cX3_isTangled 5 = .ok (.iaload, 1) := by decide +kernel
theorem dX3_isTangled_6 : decode cX3_isTangled 6 = .ok (.ifCond .eq 7, 3) := by decide +kernel
theorem dX3_isTangled_9 : decode cX3_isTangled 9 = .ok (.iconst 1, 1) := by decide +kernel
theorem dX3_isTangled_10 : decode cX3_isTangled 10 = .ok (.goto 4, 3) := by decide +kernel
theorem dX3_isTangled_13 : decode cX3_isTangled 13 = .ok (.iconst 0, 1) := by decide +kernel
theorem dX3_isTangled_14 : decode cX3_isTangled 14 = .ok (.ireturn, 1) := by decide +kernel
theorem dX3_isPairFree_0 : decode cX3_isPairFree 0 = .ok (.aload_n 0, 1) := by decide +kernel
theorem dX3_isPairFree_1 : decode cX3_isPairFree 1 = .ok (.iload_n 1, 1) := by decide +kernel
theorem dX3_isPairFree_2 : decode cX3_isPairFree 2 = .ok (.invokevirtual 51, 3) := by decide +kernel
theorem dX3_isPairFree_5 : decode cX3_isPairFree 5 = .ok (.ifCond .ne 17, 3) := by decide +kernel
theorem dX3_isPairFree_8 : decode cX3_isPairFree 8 = .ok (.aload_n 0, 1) := by decide +kernel
theorem dX3_isPairFree_9 : decode cX3_isPairFree 9 = .ok (.iload_n 1, 1) := by decide +kernel
theorem dX3_isPairFree_10 : decode cX3_isPairFree 10 = .ok (.iconst 1, 1) := by decide +kernel
theorem dX3_isPairFree_11 : decode cX3_isPairFree 11 = .ok (.iadd, 1) := by decide +kernel
theorem dX3_isPairFree_12 : decode cX3_isPairFree 12 = .ok (.invokevirtual 51, 3) := by decide +kernel
theorem dX3_isPairFree_15 : decode cX3_isPairFree 15 = .ok (.ifCond .ne 7, 3) := by decide +kernel
theorem dX3_isPairFree_18 : decode cX3_isPairFree 18 = .ok (.iconst 1, 1) := by decide +kernel
theorem dX3_isPairFree_19 : decode cX3_isPairFree 19 = .ok (.goto 4, 3) := by decide +kernel
theorem dX3_isPairFree_22 : decode cX3_isPairFree 22 = .ok (.iconst 0, 1) := by decide +kernel
theorem dX3_isPairFree_23 : decode cX3_isPairFree 23 = .ok (.ireturn, 1) := by decide +kernel
theorem dX3_tie_0 : decode cX3_tie 0 = .ok (.aload_n 0, 1) := by decide +kernel
theorem dX3_tie_1 : decode cX3_tie 1 = .ok (.getfield 21, 3) := by decide +kernel
theorem dX3_tie_4 : decode cX3_tie 4 = .ok (.iload_n 1, 1) := by decide +kernel
theorem dX3_tie_5 : decode cX3_tie 5 = .ok (.iconst 1, 1) := by decide +kernel
theorem dX3_tie_6 : decode cX3_tie 6 = .ok (.iastore, 1) := by decide +kernel
theorem dX3_tie_7 : decode cX3_tie 7 = .ok (.aload_n 0, 1) := by decide +kernel
theorem dX3_tie_8 : decode cX3_tie 8 = .ok (.getfield 21, 3) := by decide +kernel
theorem dX3_tie_11 : decode cX3_tie 11 = .ok (.iload_n 1, 1) := by decide +kernel
theorem dX3_tie_12 : decode cX3_tie 12 = .ok (.iconst 1, 1) := by decide +kernel
theorem dX3_tie_13 : decode cX3_tie 13 = .ok (.iadd, 1) := by decide +kernel
theorem dX3_tie_14 : decode cX3_tie 14 = .ok (.iconst (-1), 1) := by decide +kernel
theorem dX3_tie_15 : decode cX3_tie 15 = .ok (.iastore, 1) := by decide +kernel
theorem dX3_tie_16 : decode cX3_tie 16 = .ok (.aload_n 0, 1) := by decide +kernel
theorem dX3_tie_17 : decode cX3_tie 17 = .ok (.getfield 24, 3) := by decide +kernel
theorem dX3_tie_20 : decode cX3_tie 20 = .ok (.iload_n 1, 1) := by decide +kernel
theorem dX3_tie_21 : decode cX3_tie 21 = .ok (.iload_n 2, 1) := by decide +kernel
theorem dX3_tie_22 : decode cX3_tie 22 = .ok (.iastore, 1) := by decide +kernel
theorem dX3_tie_23 : decode cX3_tie 23 = .ok (.aload_n 0, 1) := by decide +kernel
theorem dX3_tie_24 : decode cX3_tie 24 = .ok (.getfield 24, 3) := by decide +kernel
theorem dX3_tie_27 : decode cX3_tie 27 = .ok (.iload_n 1, 1) := by decide +kernel
theorem dX3_tie_28 : decode cX3_tie 28 = .ok (.iconst 1, 1) := by decide +kernel
theorem dX3_tie_29 : decode cX3_tie 29 = .ok (.iadd, 1) := by decide +kernel
theorem dX3_tie_30 : decode cX3_tie 30 = .ok (.iload_n 2, 1) := by decide +kernel
theorem dX3_tie_31 : decode cX3_tie 31 = .ok (.iastore, 1) := by decide +kernel
theorem dX3_tie_32 : decode cX3_tie 32 = .ok (.return_, 1) := by decide +kernel
theorem dX3_loosen_0 : decode cX3_loosen 0 = .ok (.iconst 0, 1) := by decide +kernel
theorem dX3_loosen_1 : decode cX3_loosen 1 = .ok (.istore_n 1, 1) := by decide +kernel
theorem dX3_loosen_2 : decode cX3_loosen 2 = .ok (.iload_n 1, 1) := by decide +kernel
theorem dX3_loosen_3 : decode cX3_loosen 3 = .ok (.aload_n 0, 1) := by decide +kernel
theorem dX3_loosen_4 : decode cX3_loosen 4 = .ok (.getfield 30, 3) := by decide +kernel
theorem dX3_loosen_7 : decode cX3_loosen 7 = .ok (.if_icmp .ge 44, 3) := by decide +kernel
theorem dX3_loosen_10 : decode cX3_loosen 10 = .ok (.aload_n 0, 1) := by decide +kernel
theorem dX3_loosen_11 : decode cX3_loosen 11 = .ok (.getfield 24, 3) := by decide +kernel
theorem dX3_loosen_14 : decode cX3_loosen 14 = .ok (.iload_n 1, 1) := by decide +kernel
theorem dX3_loosen_15 : decode cX3_loosen 15 = .ok (.iaload, 1) := by decide +kernel
theorem dX3_loosen_16 : decode cX3_loosen 16 = .ok (.ifCond .le 13, 3) := by decide +kernel
theorem dX3_loosen_19 : decode cX3_loosen 19 = .ok (.aload_n 0, 1) := by decide +kernel
theorem dX3_loosen_20 : decode cX3_loosen 20 = .ok (.getfield 24, 3) := by decide +kernel
theorem dX3_loosen_23 : decode cX3_loosen 23 = .ok (.iload_n 1, 1) := by decide +kernel
theorem dX3_loosen_24 : decode cX3_loosen 24 = .ok (.dup2, 1) := by decide +kernel
theorem dX3_loosen_25 : decode cX3_loosen 25 = .ok (.iaload, 1) := by decide +kernel
theorem dX3_loosen_26 : decode cX3_loosen 26 = .ok (.iconst 1, 1) := by decide +kernel
theorem dX3_loosen_27 : decode cX3_loosen 27 = .ok (.isub, 1) := by decide +kernel
theorem dX3_loosen_28 : decode cX3_loosen 28 = .ok (.iastore, 1) := by decide +kernel
theorem dX3_loosen_29 : decode cX3_loosen 29 = .ok (.aload_n 0, 1) := by decide +kernel
theorem dX3_loosen_30 : decode cX3_loosen 30 = .ok (.getfield 24, 3) := by decide +kernel
theorem dX3_loosen_33 : decode cX3_loosen 33 = .ok (.iload_n 1, 1) := by decide +kernel
theorem dX3_loosen_34 : decode cX3_loosen 34 = .ok (.iaload, 1) := by decide +kernel
theorem dX3_loosen_35 : decode cX3_loosen 35 = .ok (.ifCond .ne 10, 3) := by decide +kernel
theorem dX3_loosen_38 : decode cX3_loosen 38 = .ok (.aload_n 0, 1) := by decide +kernel
theorem dX3_loosen_39 : decode cX3_loosen 39 = .ok (.getfield 21, 3) := by decide +kernel
theorem dX3_loosen_42 : decode cX3_loosen 42 = .ok (.iload_n 1, 1) := by decide +kernel
theorem dX3_loosen_43 : decode cX3_loosen 43 = .ok (.iconst 0, 1) := by decide +kernel
theorem dX3_loosen_44 : decode cX3_loosen 44 = .ok (.iastore, 1) := by decide +kernel
theorem dX3_loosen_45 : decode cX3_loosen 45 = .ok (.iinc 1 1, 3) := by decide +kernel
theorem dX3_loosen_48 : decode cX3_loosen 48 = .ok (.goto (-46), 3) := by decide +kernel
theorem dX3_loosen_51 : decode cX3_loosen 51 = .ok (.return_, 1) := by decide +kernel
theorem dX3_shownAt_0 : decode cX3_shownAt 0 = .ok (.bipush 10, 2) := by decide +kernel
theorem dX3_shownAt_2 : decode cX3_shownAt 2 = .ok (.iload_n 1, 1) := by decide +kernel
theorem dX3_shownAt_3 : decode cX3_shownAt 3 = .ok (.imul, 1) := by decide +kernel
theorem dX3_shownAt_4 : decode cX3_shownAt 4 = .ok (.iload_n 2, 1) := by decide +kernel
theorem dX3_shownAt_5 : decode cX3_shownAt 5 = .ok (.aload_n 0, 1) := by decide +kernel
theorem dX3_shownAt_6 : decode cX3_shownAt 6 = .ok (.getfield 18, 3) := by decide +kernel
theorem dX3_shownAt_9 : decode cX3_shownAt 9 = .ok (.iload_n 1, 1) := by decide +kernel
theorem dX3_shownAt_10 : decode cX3_shownAt 10 = .ok (.iaload, 1) := by decide +kernel
theorem dX3_shownAt_11 : decode cX3_shownAt 11 = .ok (.imul, 1) := by decide +kernel
theorem dX3_shownAt_12 : decode cX3_shownAt 12 = .ok (.iadd, 1) := by decide +kernel
theorem dX3_shownAt_13 : decode cX3_shownAt 13 = .ok (.ireturn, 1) := by decide +kernel
theorem dX3_sideAt_0 : decode cX3_sideAt 0 = .ok (.aload_n 0, 1) := by decide +kernel
theorem dX3_sideAt_1 : decode cX3_sideAt 1 = .ok (.iload_n 1, 1) := by decide +kernel
theorem dX3_sideAt_2 : decode cX3_sideAt 2 = .ok (.iload_n 2, 1) := by decide +kernel
theorem dX3_sideAt_3 : decode cX3_sideAt 3 = .ok (.invokevirtual 55, 3) := by decide +kernel
theorem dX3_sideAt_6 : decode cX3_sideAt 6 = .ok (.aload_n 0, 1) := by decide +kernel
theorem dX3_sideAt_7 : decode cX3_sideAt 7 = .ok (.iload_n 1, 1) := by decide +kernel
theorem dX3_sideAt_8 : decode cX3_sideAt 8 = .ok (.iconst 1, 1) := by decide +kernel
theorem dX3_sideAt_9 : decode cX3_sideAt 9 = .ok (.iadd, 1) := by decide +kernel
theorem dX3_sideAt_10 : decode cX3_sideAt 10 = .ok (.iload_n 2, 1) := by decide +kernel
theorem dX3_sideAt_11 : decode cX3_sideAt 11 = .ok (.invokevirtual 55, 3) := by decide +kernel
theorem dX3_sideAt_14 : decode cX3_sideAt 14 = .ok (.invokestatic 59, 3) := by decide +kernel
theorem dX3_sideAt_17 : decode cX3_sideAt 17 = .ok (.ireturn, 1) := by decide +kernel
theorem dX3_wouldTangle_0 : decode cX3_wouldTangle 0 = .ok (.aload_n 0, 1) := by decide +kernel
theorem dX3_wouldTangle_1 : decode cX3_wouldTangle 1 = .ok (.iload_n 1, 1) := by decide +kernel
theorem dX3_wouldTangle_2 : decode cX3_wouldTangle 2 = .ok (.iload_n 2, 1) := by decide +kernel
theorem dX3_wouldTangle_3 : decode cX3_wouldTangle 3 = .ok (.invokevirtual 62, 3) := by decide +kernel
theorem dX3_wouldTangle_6 : decode cX3_wouldTangle 6 = .ok (.istore_n 3, 1) := by decide +kernel
theorem dX3_wouldTangle_7 : decode cX3_wouldTangle 7 = .ok (.bipush 10, 2) := by decide +kernel
theorem dX3_wouldTangle_9 : decode cX3_wouldTangle 9 = .ok (.iload_n 1, 1) := by decide +kernel
theorem dX3_wouldTangle_10 : decode cX3_wouldTangle 10 = .ok (.iconst 1, 1) := by decide +kernel
theorem dX3_wouldTangle_11 : decode cX3_wouldTangle 11 = .ok (.iadd, 1) := by decide +kernel
theorem dX3_wouldTangle_12 : decode cX3_wouldTangle 12 = .ok (.imul, 1) := by decide +kernel
theorem dX3_wouldTangle_13 : decode cX3_wouldTangle 13 = .ok (.iload_n 2, 1) := by decide +kernel
theorem dX3_wouldTangle_14 : decode cX3_wouldTangle 14 = .ok (.aload_n 0, 1) := by decide +kernel
theorem dX3_wouldTangle_15 : decode cX3_wouldTangle 15 = .ok (.getfield 18, 3) := by decide +kernel
theorem dX3_wouldTangle_18 : decode cX3_wouldTangle 18 = .ok (.iload_n 1, 1) := by decide +kernel
theorem dX3_wouldTangle_19 : decode cX3_wouldTangle 19 = .ok (.iaload, 1) := by decide +kernel
theorem dX3_wouldTangle_20 : decode cX3_wouldTangle 20 = .ok (.imul, 1) := by decide +kernel
theorem dX3_wouldTangle_21 : decode cX3_wouldTangle 21 = .ok (.iadd, 1) := by decide +kernel
theorem dX3_wouldTangle_22 : decode cX3_wouldTangle 22 = .ok (.bipush 10, 2) := by decide +kernel
theorem dX3_wouldTangle_24 : decode cX3_wouldTangle 24 = .ok (.iload_n 1, 1) := by decide +kernel
theorem dX3_wouldTangle_25 : decode cX3_wouldTangle 25 = .ok (.imul, 1) := by decide +kernel
theorem dX3_wouldTangle_26 : decode cX3_wouldTangle 26 = .ok (.iload_n 2, 1) := by decide +kernel
theorem dX3_wouldTangle_27 : decode cX3_wouldTangle 27 = .ok (.aload_n 0, 1) := by decide +kernel
theorem dX3_wouldTangle_28 : decode cX3_wouldTangle 28 = .ok (.getfield 18, 3) := by decide +kernel
theorem dX3_wouldTangle_31 : decode cX3_wouldTangle 31 = .ok (.iload_n 1, 1) := by decide +kernel
theorem dX3_wouldTangle_32 : decode cX3_wouldTangle 32 = .ok (.iconst 1, 1) := by decide +kernel
theorem dX3_wouldTangle_33 : decode cX3_wouldTangle 33 = .ok (.iadd, 1) := by decide +kernel
theorem dX3_wouldTangle_34 : decode cX3_wouldTangle 34 = .ok (.iaload, 1) := by decide +kernel
theorem dX3_wouldTangle_35 : decode cX3_wouldTangle 35 = .ok (.imul, 1) := by decide +kernel
theorem dX3_wouldTangle_36 : decode cX3_wouldTangle 36 = .ok (.iadd, 1) := by decide +kernel
theorem dX3_wouldTangle_37 : decode cX3_wouldTangle 37 = .ok (.invokestatic 59, 3) := by decide +kernel
theorem dX3_wouldTangle_40 : decode cX3_wouldTangle 40 = .ok (.istore 4, 2) := by decide +kernel
theorem dX3_wouldTangle_42 : decode cX3_wouldTangle 42 = .ok (.iload_n 3, 1) := by decide +kernel
theorem dX3_wouldTangle_43 : decode cX3_wouldTangle 43 = .ok (.ifCond .eq 14, 3) := by decide +kernel
theorem dX3_wouldTangle_46 : decode cX3_wouldTangle 46 = .ok (.iload 4, 2) := by decide +kernel
theorem dX3_wouldTangle_48 : decode cX3_wouldTangle 48 = .ok (.ifCond .eq 9, 3) := by decide +kernel
theorem dX3_wouldTangle_51 : decode cX3_wouldTangle 51 = .ok (.iload_n 3, 1) := by decide +kernel
theorem dX3_wouldTangle_52 : decode cX3_wouldTangle 52 = .ok (.iload 4, 2) := by decide +kernel
theorem dX3_wouldTangle_54 : decode cX3_wouldTangle 54 = .ok (.if_icmp .ne 7, 3) := by decide +kernel
theorem dX3_wouldTangle_57 : decode cX3_wouldTangle 57 = .ok (.iconst 1, 1) := by decide +kernel
theorem dX3_wouldTangle_58 : decode cX3_wouldTangle 58 = .ok (.goto 4, 3) := by decide +kernel
theorem dX3_wouldTangle_61 : decode cX3_wouldTangle 61 = .ok (.iconst 0, 1) := by decide +kernel
theorem dX3_wouldTangle_62 : decode cX3_wouldTangle 62 = .ok (.ireturn, 1) := by decide +kernel
theorem dX3_canBeRead_0 : decode cX3_canBeRead 0 = .ok (.aload_n 0, 1) := by decide +kernel
theorem dX3_canBeRead_1 : decode cX3_canBeRead 1 = .ok (.iload_n 1, 1) := by decide +kernel
theorem dX3_canBeRead_2 : decode cX3_canBeRead 2 = .ok (.invokevirtual 51, 3) := by decide +kernel
theorem dX3_canBeRead_5 : decode cX3_canBeRead 5 = .ok (.ifCond .eq 5, 3) := by decide +kernel
theorem dX3_canBeRead_8 : decode cX3_canBeRead 8 = .ok (.iconst 0, 1) := by decide +kernel
theorem dX3_canBeRead_9 : decode cX3_canBeRead 9 = .ok (.ireturn, 1) := by decide +kernel
theorem dX3_canBeRead_10 : decode cX3_canBeRead 10 = .ok (.aload_n 0, 1) := by decide +kernel
theorem dX3_canBeRead_11 : decode cX3_canBeRead 11 = .ok (.iload_n 1, 1) := by decide +kernel
theorem dX3_canBeRead_12 : decode cX3_canBeRead 12 = .ok (.iload_n 2, 1) := by decide +kernel
theorem dX3_canBeRead_13 : decode cX3_canBeRead 13 = .ok (.invokevirtual 55, 3) := by decide +kernel
theorem dX3_canBeRead_16 : decode cX3_canBeRead 16 = .ok (.istore_n 3, 1) := by decide +kernel
theorem dX3_canBeRead_17 : decode cX3_canBeRead 17 = .ok (.iconst 0, 1) := by decide +kernel
theorem dX3_canBeRead_18 : decode cX3_canBeRead 18 = .ok (.istore 4, 2) := by decide +kernel
theorem dX3_canBeRead_20 : decode cX3_canBeRead 20 = .ok (.iload 4, 2) := by decide +kernel
theorem dX3_canBeRead_22 : decode cX3_canBeRead 22 = .ok (.aload_n 0, 1) := by decide +kernel
theorem dX3_canBeRead_23 : decode cX3_canBeRead 23 = .ok (.getfield 30, 3) := by decide +kernel
theorem dX3_canBeRead_26 : decode cX3_canBeRead 26 = .ok (.if_icmp .ge 28, 3) := by decide +kernel
theorem dX3_canBeRead_29 : decode cX3_canBeRead 29 = .ok (.iload 4, 2) := by decide +kernel
theorem dX3_canBeRead_31 : decode cX3_canBeRead 31 = .ok (.iload_n 1, 1) := by decide +kernel
theorem dX3_canBeRead_32 : decode cX3_canBeRead 32 = .ok (.if_icmp .eq 16, 3) := by decide +kernel
theorem dX3_canBeRead_35 : decode cX3_canBeRead 35 = .ok (.aload_n 0, 1) := by decide +kernel
theorem dX3_canBeRead_36 : decode cX3_canBeRead 36 = .ok (.iload 4, 2) := by decide +kernel
theorem dX3_canBeRead_38 : decode cX3_canBeRead 38 = .ok (.iload_n 2, 1) := by decide +kernel
theorem dX3_canBeRead_39 : decode cX3_canBeRead 39 = .ok (.invokevirtual 55, 3) := by decide +kernel
theorem dX3_canBeRead_42 : decode cX3_canBeRead 42 = .ok (.iload_n 3, 1) := by decide +kernel
theorem dX3_canBeRead_43 : decode cX3_canBeRead 43 = .ok (.if_icmp .ne 5, 3) := by decide +kernel
theorem dX3_canBeRead_46 : decode cX3_canBeRead 46 = .ok (.iconst 0, 1) := by decide +kernel
theorem dX3_canBeRead_47 : decode cX3_canBeRead 47 = .ok (.ireturn, 1) := by decide +kernel
theorem dX3_canBeRead_48 : decode cX3_canBeRead 48 = .ok (.iinc 4 1, 3) := by decide +kernel
theorem dX3_canBeRead_51 : decode cX3_canBeRead 51 = .ok (.goto (-31), 3) := by decide +kernel
theorem dX3_canBeRead_54 : decode cX3_canBeRead 54 = .ok (.iconst 1, 1) := by decide +kernel
theorem dX3_canBeRead_55 : decode cX3_canBeRead 55 = .ok (.ireturn, 1) := by decide +kernel
theorem dX4_init_0 : decode cX4_init 0 = .ok (.aload_n 0, 1) := by decide +kernel
theorem dX4_init_1 : decode cX4_init 1 = .ok (.invokespecial 3, 3) := by decide +kernel
theorem dX4_init_4 : decode cX4_init 4 = .ok (.aload_n 0, 1) := by decide +kernel
theorem dX4_init_5 : decode cX4_init 5 = .ok (.new 9, 3) := by decide +kernel
theorem dX4_init_8 : decode cX4_init 8 = .ok (.dup, 1) := by decide +kernel
theorem dX4_init_9 : decode cX4_init 9 = .ok (.invokespecial 11, 3) := by decide +kernel
theorem dX4_init_12 : decode cX4_init 12 = .ok (.putfield 12, 3) := by decide +kernel
theorem dX4_init_15 : decode cX4_init 15 = .ok (.aload_n 0, 1) := by decide +kernel
theorem dX4_init_16 : decode cX4_init 16 = .ok (.new 18, 3) := by decide +kernel
theorem dX4_init_19 : decode cX4_init 19 = .ok (.dup, 1) := by decide +kernel
theorem dX4_init_20 : decode cX4_init 20 = .ok (.invokespecial 20, 3) := by decide +kernel
theorem dX4_init_23 : decode cX4_init 23 = .ok (.putfield 21, 3) := by decide +kernel
theorem dX4_init_26 : decode cX4_init 26 = .ok (.aload_n 0, 1) := by decide +kernel
theorem dX4_init_27 : decode cX4_init 27 = .ok (.new 25, 3) := by decide +kernel
theorem dX4_init_30 : decode cX4_init 30 = .ok (.dup, 1) := by decide +kernel
theorem dX4_init_31 : decode cX4_init 31 = .ok (.invokespecial 27, 3) := by decide +kernel
theorem dX4_init_34 : decode cX4_init 34 = .ok (.putfield 28, 3) := by decide +kernel
theorem dX4_init_37 : decode cX4_init 37 = .ok (.aload_n 0, 1) := by decide +kernel
theorem dX4_init_38 : decode cX4_init 38 = .ok (.new 32, 3) := by decide +kernel
theorem dX4_init_41 : decode cX4_init 41 = .ok (.dup, 1) := by decide +kernel
theorem dX4_init_42 : decode cX4_init 42 = .ok (.invokespecial 34, 3) := by decide +kernel
theorem dX4_init_45 : decode cX4_init 45 = .ok (.putfield 35, 3) := by decide +kernel
theorem dX4_init_48 : decode cX4_init 48 = .ok (.aload_n 0, 1) := by decide +kernel
theorem dX4_init_49 : decode cX4_init 49 = .ok (.iconst 0, 1) := by decide +kernel
theorem dX4_init_50 : decode cX4_init 50 = .ok (.putfield 39, 3) := by decide +kernel
theorem dX4_init_53 : decode cX4_init 53 = .ok (.aload_n 0, 1) := by decide +kernel
theorem dX4_init_54 : decode cX4_init 54 = .ok (.iconst 0, 1) := by decide +kernel
theorem dX4_init_55 : decode cX4_init 55 = .ok (.putfield 43, 3) := by decide +kernel
theorem dX4_init_58 : decode cX4_init 58 = .ok (.aload_n 0, 1) := by decide +kernel
theorem dX4_init_59 : decode cX4_init 59 = .ok (.iconst 1, 1) := by decide +kernel
theorem dX4_init_60 : decode cX4_init 60 = .ok (.putfield 46, 3) := by decide +kernel
theorem dX4_init_63 : decode cX4_init 63 = .ok (.aload_n 0, 1) := by decide +kernel
theorem dX4_init_64 : decode cX4_init 64 = .ok (.iconst 0, 1) := by decide +kernel
theorem dX4_init_65 : decode cX4_init 65 = .ok (.putfield 49, 3) := by decide +kernel
theorem dX4_init_68 : decode cX4_init 68 = .ok (.aload_n 0, 1) := by decide +kernel
theorem dX4_init_69 : decode cX4_init 69 = .ok (.iconst 3, 1) := by decide +kernel
theorem dX4_init_70 : decode cX4_init 70 = .ok (.putfield 53, 3) := by decide +kernel
theorem dX4_init_73 : decode cX4_init 73 = .ok (.aload_n 0, 1) := by decide +kernel
theorem dX4_init_74 : decode cX4_init 74 = .ok (.iconst 0, 1) := by decide +kernel
theorem dX4_init_75 : decode cX4_init 75 = .ok (.putfield 56, 3) := by decide +kernel
theorem dX4_init_78 : decode cX4_init 78 = .ok (.return_, 1) := by decide +kernel
theorem dX4_copyFrom_0 : decode cX4_copyFrom 0 = .ok (.aload_n 0, 1) := by decide +kernel
theorem dX4_copyFrom_1 : decode cX4_copyFrom 1 = .ok (.getfield 12, 3) := by decide +kernel
theorem dX4_copyFrom_4 : decode cX4_copyFrom 4 = .ok (.aload_n 1, 1) := by decide +kernel
theorem dX4_copyFrom_5 : decode cX4_copyFrom 5 = .ok (.getfield 12, 3) := by decide +kernel
theorem dX4_copyFrom_8 : decode cX4_copyFrom 8 = .ok (.invokevirtual 59, 3) := by decide +kernel
theorem dX4_copyFrom_11 : decode cX4_copyFrom 11 = .ok (.aload_n 0, 1) := by decide +kernel
theorem dX4_copyFrom_12 : decode cX4_copyFrom 12 = .ok (.getfield 21, 3) := by decide +kernel
theorem dX4_copyFrom_15 : decode cX4_copyFrom 15 = .ok (.aload_n 1, 1) := by decide +kernel
theorem dX4_copyFrom_16 : decode cX4_copyFrom 16 = .ok (.getfield 21, 3) := by decide +kernel
theorem dX4_copyFrom_19 : decode cX4_copyFrom 19 = .ok (.invokevirtual 63, 3) := by decide +kernel
theorem dX4_copyFrom_22 : decode cX4_copyFrom 22 = .ok (.aload_n 0, 1) := by decide +kernel
theorem dX4_copyFrom_23 : decode cX4_copyFrom 23 = .ok (.getfield 28, 3) := by decide +kernel
theorem dX4_copyFrom_26 : decode cX4_copyFrom 26 = .ok (.aload_n 1, 1) := by decide +kernel
theorem dX4_copyFrom_27 : decode cX4_copyFrom 27 = .ok (.getfield 28, 3) := by decide +kernel
theorem dX4_copyFrom_30 : decode cX4_copyFrom 30 = .ok (.invokevirtual 66, 3) := by decide +kernel
theorem dX4_copyFrom_33 : decode cX4_copyFrom 33 = .ok (.aload_n 0, 1) := by decide +kernel
theorem dX4_copyFrom_34 : decode cX4_copyFrom 34 = .ok (.getfield 35, 3) := by decide +kernel
theorem dX4_copyFrom_37 : decode cX4_copyFrom 37 = .ok (.aload_n 1, 1) := by decide +kernel
theorem dX4_copyFrom_38 : decode cX4_copyFrom 38 = .ok (.getfield 35, 3) := by decide +kernel
theorem dX4_copyFrom_41 : decode cX4_copyFrom 41 = .ok (.invokevirtual 69, 3) := by decide +kernel
theorem dX4_copyFrom_44 : decode cX4_copyFrom 44 = .ok (.aload_n 0, 1) := by decide +kernel
theorem dX4_copyFrom_45 : decode cX4_copyFrom 45 = .ok (.aload_n 1, 1) := by decide +kernel
theorem dX4_copyFrom_46 : decode cX4_copyFrom 46 = .ok (.getfield 39, 3) := by decide +kernel
theorem dX4_copyFrom_49 : decode cX4_copyFrom 49 = .ok (.putfield 39, 3) := by decide +kernel
theorem dX4_copyFrom_52 : decode cX4_copyFrom 52 = .ok (.aload_n 0, 1) := by decide +kernel
theorem dX4_copyFrom_53 : decode cX4_copyFrom 53 = .ok (.aload_n 1, 1) := by decide +kernel
theorem dX4_copyFrom_54 : decode cX4_copyFrom 54 = .ok (.getfield 43, 3) := by decide +kernel
theorem dX4_copyFrom_57 : decode cX4_copyFrom 57 = .ok (.putfield 43, 3) := by decide +kernel
theorem dX4_copyFrom_60 : decode cX4_copyFrom 60 = .ok (.aload_n 0, 1) := by decide +kernel
theorem dX4_copyFrom_61 : decode cX4_copyFrom 61 = .ok (.aload_n 1, 1) := by decide +kernel
theorem dX4_copyFrom_62 : decode cX4_copyFrom 62 = .ok (.getfield 46, 3) := by decide +kernel
theorem dX4_copyFrom_65 : decode cX4_copyFrom 65 = .ok (.putfield 46, 3) := by decide +kernel
theorem dX4_copyFrom_68 : decode cX4_copyFrom 68 = .ok (.aload_n 0, 1) := by decide +kernel
theorem dX4_copyFrom_69 : decode cX4_copyFrom 69 = .ok (.aload_n 1, 1) := by decide +kernel
theorem dX4_copyFrom_70 : decode cX4_copyFrom 70 = .ok (.getfield 49, 3) := by decide +kernel
theorem dX4_copyFrom_73 : decode cX4_copyFrom 73 = .ok (.putfield 49, 3) := by decide +kernel
theorem dX4_copyFrom_76 : decode cX4_copyFrom 76 = .ok (.aload_n 0, 1) := by decide +kernel
theorem dX4_copyFrom_77 : decode cX4_copyFrom 77 = .ok (.aload_n 1, 1) := by decide +kernel
theorem dX4_copyFrom_78 : decode cX4_copyFrom 78 = .ok (.getfield 53, 3) := by decide +kernel
theorem dX4_copyFrom_81 : decode cX4_copyFrom 81 = .ok (.putfield 53, 3) := by decide +kernel
theorem dX4_copyFrom_84 : decode cX4_copyFrom 84 = .ok (.aload_n 0, 1) := by decide +kernel
theorem dX4_copyFrom_85 : decode cX4_copyFrom 85 = .ok (.aload_n 1, 1) := by decide +kernel
theorem dX4_copyFrom_86 : decode cX4_copyFrom 86 = .ok (.getfield 56, 3) := by decide +kernel
theorem dX4_copyFrom_89 : decode cX4_copyFrom 89 = .ok (.putfield 56, 3) := by decide +kernel
theorem dX4_copyFrom_92 : decode cX4_copyFrom 92 = .ok (.return_, 1) := by decide +kernel
theorem dX4_drift_0 : decode cX4_drift 0 = .ok (.aload_n 0, 1) := by decide +kernel
theorem dX4_drift_1 : decode cX4_drift 1 = .ok (.getfield 43, 3) := by decide +kernel
theorem dX4_drift_4 : decode cX4_drift 4 = .ok (.iconst 1, 1) := by decide +kernel
theorem dX4_drift_5 : decode cX4_drift 5 = .ok (.if_icmp .ne 8, 3) := by decide +kernel
theorem dX4_drift_8 : decode cX4_drift 8 = .ok (.aload_n 0, 1) := by decide +kernel
theorem dX4_drift_9 : decode cX4_drift 9 = .ok (.getfield 46, 3) := by decide +kernel
theorem dX4_drift_12 : decode cX4_drift 12 = .ok (.ireturn, 1) := by decide +kernel
theorem dX4_drift_13 : decode cX4_drift 13 = .ok (.aload_n 0, 1) := by decide +kernel
theorem dX4_drift_14 : decode cX4_drift 14 = .ok (.getfield 43, 3) := by decide +kernel
theorem dX4_drift_17 : decode cX4_drift 17 = .ok (.iconst 3, 1) := by decide +kernel
theorem dX4_drift_18 : decode cX4_drift 18 = .ok (.if_icmp .ne 11, 3) := by decide +kernel
theorem dX4_drift_21 : decode cX4_drift 21 = .ok (.aload_n 0, 1) := by decide +kernel
theorem dX4_drift_22 : decode cX4_drift 22 = .ok (.getfield 46, 3) := by decide +kernel
theorem dX4_drift_25 : decode cX4_drift 25 = .ok (.ineg, 1) := by decide +kernel
theorem dX4_drift_26 : decode cX4_drift 26 = .ok (.goto 4, 3) := by decide +kernel
theorem dX4_drift_29 : decode cX4_drift 29 = .ok (.iconst 0, 1) := by decide +kernel
theorem dX4_drift_30 : decode cX4_drift 30 = .ok (.ireturn, 1) := by decide +kernel
theorem dX4_tradePlaces_0 : decode cX4_tradePlaces 0 = .ok (.aload_n 0, 1) := by decide +kernel
theorem dX4_tradePlaces_1 : decode cX4_tradePlaces 1 = .ok (.getfield 12, 3) := by decide +kernel
theorem dX4_tradePlaces_4 : decode cX4_tradePlaces 4 = .ok (.iload_n 1, 1) := by decide +kernel
theorem dX4_tradePlaces_5 : decode cX4_tradePlaces 5 = .ok (.aload_n 0, 1) := by decide +kernel
theorem dX4_tradePlaces_6 : decode cX4_tradePlaces 6 = .ok (.invokevirtual 72, 3) := by decide +kernel
theorem dX4_tradePlaces_9 : decode cX4_tradePlaces 9 = .ok (.invokevirtual 76, 3) := by decide +kernel
theorem dX4_tradePlaces_12 : decode cX4_tradePlaces 12 = .ok (.istore_n 2, 1) := by decide +kernel
theorem dX4_tradePlaces_13 : decode cX4_tradePlaces 13 = .ok (.aload_n 0, 1) := by decide +kernel
theorem dX4_tradePlaces_14 : decode cX4_tradePlaces 14 = .ok (.getfield 12, 3) := by decide +kernel
theorem dX4_tradePlaces_17 : decode cX4_tradePlaces 17 = .ok (.iload_n 1, 1) := by decide +kernel
theorem dX4_tradePlaces_18 : decode cX4_tradePlaces 18 = .ok (.invokevirtual 80, 3) := by decide +kernel
theorem dX4_tradePlaces_21 : decode cX4_tradePlaces 21 = .ok (.aload_n 0, 1) := by decide +kernel
theorem dX4_tradePlaces_22 : decode cX4_tradePlaces 22 = .ok (.dup, 1) := by decide +kernel
theorem dX4_tradePlaces_23 : decode cX4_tradePlaces 23 = .ok (.getfield 56, 3) := by decide +kernel
theorem dX4_tradePlaces_26 : decode cX4_tradePlaces 26 = .ok (.iconst 1, 1) := by decide +kernel
theorem dX4_tradePlaces_27 : decode cX4_tradePlaces 27 = .ok (.iadd, 1) := by decide +kernel
theorem dX4_tradePlaces_28 : decode cX4_tradePlaces 28 = .ok (.putfield 56, 3) := by decide +kernel
theorem dX4_tradePlaces_31 : decode cX4_tradePlaces 31 = .ok (.iload_n 2, 1) := by decide +kernel
theorem dX4_tradePlaces_32 : decode cX4_tradePlaces 32 = .ok (.ifCond .eq 9, 3) := by decide +kernel
theorem dX4_tradePlaces_35 : decode cX4_tradePlaces 35 = .ok (.aload_n 0, 1) := by decide +kernel
theorem dX4_tradePlaces_36 : decode cX4_tradePlaces 36 = .ok (.iload_n 1, 1) := by decide +kernel
theorem dX4_tradePlaces_37 : decode cX4_tradePlaces 37 = .ok (.iconst 1, 1) := by decide +kernel
theorem dX4_tradePlaces_38 : decode cX4_tradePlaces 38 = .ok (.invokevirtual 84, 3) := by decide +kernel
theorem dX4_tradePlaces_41 : decode cX4_tradePlaces 41 = .ok (.aload_n 0, 1) := by decide +kernel
theorem dX4_tradePlaces_42 : decode cX4_tradePlaces 42 = .ok (.invokevirtual 88, 3) := by decide +kernel
theorem dX4_tradePlaces_45 : decode cX4_tradePlaces 45 = .ok (.pop, 1) := by decide +kernel
theorem dX4_tradePlaces_46 : decode cX4_tradePlaces 46 = .ok (.iload_n 2, 1) := by decide +kernel
theorem dX4_tradePlaces_47 : decode cX4_tradePlaces 47 = .ok (.ireturn, 1) := by decide +kernel
theorem dX4_passMinute_0 : decode cX4_passMinute 0 = .ok (.aload_n 0, 1) := by decide +kernel
theorem dX4_passMinute_1 : decode cX4_passMinute 1 = .ok (.dup, 1) := by decide +kernel
theorem dX4_passMinute_2 : decode cX4_passMinute 2 = .ok (.getfield 39, 3) := by decide +kernel
theorem dX4_passMinute_5 : decode cX4_passMinute 5 = .ok (.iconst 1, 1) := by decide +kernel
theorem dX4_passMinute_6 : decode cX4_passMinute 6 = .ok (.iadd, 1) := by decide +kernel
theorem dX4_passMinute_7 : decode cX4_passMinute 7 = .ok (.putfield 39, 3) := by decide +kernel
theorem dX4_passMinute_10 : decode cX4_passMinute 10 = .ok (.aload_n 0, 1) := by decide +kernel
theorem dX4_passMinute_11 : decode cX4_passMinute 11 = .ok (.getfield 12, 3) := by decide +kernel
theorem dX4_passMinute_14 : decode cX4_passMinute 14 = .ok (.invokevirtual 91, 3) := by decide +kernel
theorem dX4_passMinute_17 : decode cX4_passMinute 17 = .ok (.aload_n 0, 1) := by decide +kernel
theorem dX4_passMinute_18 : decode cX4_passMinute 18 = .ok (.getfield 21, 3) := by decide +kernel
theorem dX4_passMinute_21 : decode cX4_passMinute 21 = .ok (.aload_n 0, 1) := by decide +kernel
theorem dX4_passMinute_22 : decode cX4_passMinute 22 = .ok (.getfield 39, 3) := by decide +kernel
theorem dX4_passMinute_25 : decode cX4_passMinute 25 = .ok (.invokevirtual 94, 3) := by decide +kernel
theorem dX4_passMinute_28 : decode cX4_passMinute 28 = .ok (.istore_n 1, 1) := by decide +kernel
theorem dX4_passMinute_29 : decode cX4_passMinute 29 = .ok (.iload_n 1, 1) := by decide +kernel
theorem dX4_passMinute_30 : decode cX4_passMinute 30 = .ok (.iconst (-1), 1) := by decide +kernel
theorem dX4_passMinute_31 : decode cX4_passMinute 31 = .ok (.if_icmp .ne 5, 3) := by decide +kernel
theorem dX4_passMinute_34 : decode cX4_passMinute 34 = .ok (.iconst 0, 1) := by decide +kernel
theorem dX4_passMinute_35 : decode cX4_passMinute 35 = .ok (.ireturn, 1) := by decide +kernel
theorem dX4_passMinute_36 : decode cX4_passMinute 36 = .ok (.aload_n 0, 1) := by decide +kernel
theorem dX4_passMinute_37 : decode cX4_passMinute 37 = .ok (.getfield 21, 3) := by decide +kernel
theorem dX4_passMinute_40 : decode cX4_passMinute 40 = .ok (.getfield 98, 3) := by decide +kernel
theorem dX4_passMinute_43 : decode cX4_passMinute 43 = .ok (.iload_n 1, 1) := by decide +kernel
theorem dX4_passMinute_44 : decode cX4_passMinute 44 = .ok (.iaload, 1) := by decide +kernel
theorem dX4_passMinute_45 : decode cX4_passMinute 45 = .ok (.istore_n 2, 1) := by decide +kernel
theorem dX4_passMinute_46 : decode cX4_passMinute 46 = .ok (.aload_n 0, 1) := by decide +kernel
theorem dX4_passMinute_47 : decode cX4_passMinute 47 = .ok (.getfield 21, 3) := by decide +kernel
theorem dX4_passMinute_50 : decode cX4_passMinute 50 = .ok (.getfield 101, 3) := by decide +kernel
theorem dX4_passMinute_53 : decode cX4_passMinute 53 = .ok (.iload_n 1, 1) := by decide +kernel
theorem dX4_passMinute_54 : decode cX4_passMinute 54 = .ok (.iaload, 1) := by decide +kernel
theorem dX4_passMinute_55 : decode cX4_passMinute 55 = .ok (.istore_n 3, 1) := by decide +kernel
theorem dX4_passMinute_56 : decode cX4_passMinute 56 = .ok (.aload_n 0, 1) := by decide +kernel
theorem dX4_passMinute_57 : decode cX4_passMinute 57 = .ok (.getfield 21, 3) := by decide +kernel
theorem dX4_passMinute_60 : decode cX4_passMinute 60 = .ok (.iload_n 1, 1) := by decide +kernel
theorem dX4_passMinute_61 : decode cX4_passMinute 61 = .ok (.invokevirtual 103, 3) := by decide +kernel
theorem dX4_passMinute_64 : decode cX4_passMinute 64 = .ok (.aload_n 0, 1) := by decide +kernel
theorem dX4_passMinute_65 : decode cX4_passMinute 65 = .ok (.iload_n 2, 1) := by decide +kernel
theorem dX4_passMinute_66 : decode cX4_passMinute 66 = .ok (.iload_n 3, 1) := by decide +kernel
theorem dX4_passMinute_67 : decode cX4_passMinute 67 = .ok (.invokevirtual 106, 3) := by decide +kernel
theorem dX4_passMinute_70 : decode cX4_passMinute 70 = .ok (.ireturn, 1) := by decide +kernel
theorem dX4_turnWind_0 : decode cX4_turnWind 0 = .ok (.aload_n 0, 1) := by decide +kernel
theorem dX4_turnWind_1 : decode cX4_turnWind 1 = .ok (.invokevirtual 72, 3) := by decide +kernel
theorem dX4_turnWind_4 : decode cX4_turnWind 4 = .ok (.istore_n 3, 1) := by decide +kernel
theorem dX4_turnWind_5 : decode cX4_turnWind 5 = .ok (.aload_n 0, 1) := by decide +kernel
theorem dX4_turnWind_6 : decode cX4_turnWind 6 = .ok (.iload_n 1, 1) := by decide +kernel
theorem dX4_turnWind_7 : decode cX4_turnWind 7 = .ok (.putfield 43, 3) := by decide +kernel
theorem dX4_turnWind_10 : decode cX4_turnWind 10 = .ok (.aload_n 0, 1) := by decide +kernel
theorem dX4_turnWind_11 : decode cX4_turnWind 11 = .ok (.iload_n 2, 1) := by decide +kernel
theorem dX4_turnWind_12 : decode cX4_turnWind 12 = .ok (.putfield 46, 3) := by decide +kernel
theorem dX4_turnWind_15 : decode cX4_turnWind 15 = .ok (.iconst 0, 1) := by decide +kernel
theorem dX4_turnWind_16 : decode cX4_turnWind 16 = .ok (.istore 4, 2) := by decide +kernel
theorem dX4_turnWind_18 : decode cX4_turnWind 18 = .ok (.iconst 0, 1) := by decide +kernel
theorem dX4_turnWind_19 : decode cX4_turnWind 19 = .ok (.istore 5, 2) := by decide +kernel
theorem dX4_turnWind_21 : decode cX4_turnWind 21 = .ok (.iload 5, 2) := by decide +kernel
theorem dX4_turnWind_23 : decode cX4_turnWind 23 = .ok (.aload_n 0, 1) := by decide +kernel
theorem dX4_turnWind_24 : decode cX4_turnWind 24 = .ok (.getfield 12, 3) := by decide +kernel
theorem dX4_turnWind_27 : decode cX4_turnWind 27 = .ok (.getfield 110, 3) := by decide +kernel
theorem dX4_turnWind_30 : decode cX4_turnWind 30 = .ok (.iconst 1, 1) := by decide +kernel
theorem dX4_turnWind_31 : decode cX4_turnWind 31 = .ok (.isub, 1) := by decide +kernel
theorem dX4_turnWind_32 : decode cX4_turnWind 32 = .ok (.if_icmp .ge 57, 3) := by decide +kernel
theorem dX4_turnWind_35 : decode cX4_turnWind 35 = .ok (.aload_n 0, 1) := by decide +kernel
theorem dX4_turnWind_36 : decode cX4_turnWind 36 = .ok (.getfield 12, 3) := by decide +kernel
theorem dX4_turnWind_39 : decode cX4_turnWind 39 = .ok (.iload 5, 2) := by decide +kernel
theorem dX4_turnWind_41 : decode cX4_turnWind 41 = .ok (.invokevirtual 113, 3) := by decide +kernel
theorem dX4_turnWind_44 : decode cX4_turnWind 44 = .ok (.ifCond .eq 39, 3) := by decide +kernel
theorem dX4_turnWind_47 : decode cX4_turnWind 47 = .ok (.aload_n 0, 1) := by decide +kernel
theorem dX4_turnWind_48 : decode cX4_turnWind 48 = .ok (.getfield 12, 3) := by decide +kernel
theorem dX4_turnWind_51 : decode cX4_turnWind 51 = .ok (.iload 5, 2) := by decide +kernel
theorem dX4_turnWind_53 : decode cX4_turnWind 53 = .ok (.iload_n 3, 1) := by decide +kernel
theorem dX4_turnWind_54 : decode cX4_turnWind 54 = .ok (.invokevirtual 117, 3) := by decide +kernel
theorem dX4_turnWind_57 : decode cX4_turnWind 57 = .ok (.aload_n 0, 1) := by decide +kernel
theorem dX4_turnWind_58 : decode cX4_turnWind 58 = .ok (.getfield 12, 3) := by decide +kernel
theorem dX4_turnWind_61 : decode cX4_turnWind 61 = .ok (.iload 5, 2) := by decide +kernel
theorem dX4_turnWind_63 : decode cX4_turnWind 63 = .ok (.aload_n 0, 1) := by decide +kernel
theorem dX4_turnWind_64 : decode cX4_turnWind 64 = .ok (.invokevirtual 72, 3) := by decide +kernel
theorem dX4_turnWind_67 : decode cX4_turnWind 67 = .ok (.invokevirtual 117, 3) := by decide +kernel
theorem dX4_turnWind_70 : decode cX4_turnWind 70 = .ok (.if_icmp .eq 13, 3) := by decide +kernel
theorem dX4_turnWind_73 : decode cX4_turnWind 73 = .ok (.aload_n 0, 1) := by decide +kernel
theorem dX4_turnWind_74 : decode cX4_turnWind 74 = .ok (.iload 5, 2) := by decide +kernel
theorem dX4_turnWind_76 : decode cX4_turnWind 76 = .ok (.iconst 0, 1) := by decide +kernel
theorem dX4_turnWind_77 : decode cX4_turnWind 77 = .ok (.invokevirtual 84, 3) := by decide +kernel
theorem dX4_turnWind_80 : decode cX4_turnWind 80 = .ok (.iinc 4 1, 3) := by decide +kernel
theorem dX4_turnWind_83 : decode cX4_turnWind 83 = .ok (.iinc 5 1, 3) := by decide +kernel
theorem dX4_turnWind_86 : decode cX4_turnWind 86 = .ok (.goto (-65), 3) := by decide +kernel
theorem dX4_turnWind_89 : decode cX4_turnWind 89 = .ok (.iload 4, 2) := by decide +kernel
theorem dX4_turnWind_91 : decode cX4_turnWind 91 = .ok (.ireturn, 1) := by decide +kernel
theorem dX4_isSafe_0 : decode cX4_isSafe 0 = .ok (.aload_n 0, 1) := by decide +kernel
theorem dX4_isSafe_1 : decode cX4_isSafe 1 = .ok (.getfield 12, 3) := by decide +kernel
theorem dX4_isSafe_4 : decode cX4_isSafe 4 = .ok (.iload_n 1, 1) := by decide +kernel
theorem dX4_isSafe_5 : decode cX4_isSafe 5 = .ok (.invokevirtual 113, 3) := by decide +kernel
theorem dX4_isSafe_8 : decode cX4_isSafe 8 = .ok (.ifCond .eq 22, 3) := by decide +kernel
theorem dX4_isSafe_11 : decode cX4_isSafe 11 = .ok (.aload_n 0, 1) := by decide +kernel
theorem dX4_isSafe_12 : decode cX4_isSafe 12 = .ok (.getfield 12, 3) := by decide +kernel
theorem dX4_isSafe_15 : decode cX4_isSafe 15 = .ok (.iload_n 1, 1) := by decide +kernel
theorem dX4_isSafe_16 : decode cX4_isSafe 16 = .ok (.aload_n 0, 1) := by decide +kernel
theorem dX4_isSafe_17 : decode cX4_isSafe 17 = .ok (.invokevirtual 72, 3) := by decide +kernel
theorem dX4_isSafe_20 : decode cX4_isSafe 20 = .ok (.invokevirtual 76, 3) := by decide +kernel
theorem dX4_isSafe_23 : decode cX4_isSafe 23 = .ok (.ifCond .ne 7, 3) := by decide +kernel
theorem dX4_isSafe_26 : decode cX4_isSafe 26 = .ok (.iconst 1, 1) := by decide +kernel
theorem dX4_isSafe_27 : decode cX4_isSafe 27 = .ok (.goto 4, 3) := by decide +kernel
theorem dX4_isSafe_30 : decode cX4_isSafe 30 = .ok (.iconst 0, 1) := by decide +kernel
theorem dX4_isSafe_31 : decode cX4_isSafe 31 = .ok (.ireturn, 1) := by decide +kernel
theorem dX4_isAtRest_0 : decode cX4_isAtRest 0 = .ok (.aload_n 0, 1) := by decide +kernel
theorem dX4_isAtRest_1 : decode cX4_isAtRest 1 = .ok (.getfield 21, 3) := by decide +kernel
theorem dX4_isAtRest_4 : decode cX4_isAtRest 4 = .ok (.getfield 120, 3) := by decide +kernel
theorem dX4_isAtRest_7 : decode cX4_isAtRest 7 = .ok (.ifCond .le 5, 3) := by decide +kernel
theorem dX4_isAtRest_10 : decode cX4_isAtRest 10 = .ok (.iconst 0, 1) := by decide +kernel
theorem dX4_isAtRest_11 : decode cX4_isAtRest 11 = .ok (.ireturn, 1) := by decide +kernel
theorem dX4_isAtRest_12 : decode cX4_isAtRest 12 = .ok (.iconst 0, 1) := by decide +kernel
theorem dX4_isAtRest_13 : decode cX4_isAtRest 13 = .ok (.istore_n 1, 1) := by decide +kernel
theorem dX4_isAtRest_14 : decode cX4_isAtRest 14 = .ok (.iload_n 1, 1) := by decide +kernel
theorem dX4_isAtRest_15 : decode cX4_isAtRest 15 = .ok (.aload_n 0, 1) := by decide +kernel
theorem dX4_isAtRest_16 : decode cX4_isAtRest 16 = .ok (.getfield 12, 3) := by decide +kernel
theorem dX4_isAtRest_19 : decode cX4_isAtRest 19 = .ok (.getfield 110, 3) := by decide +kernel
theorem dX4_isAtRest_22 : decode cX4_isAtRest 22 = .ok (.if_icmp .ge 22, 3) := by decide +kernel
theorem dX4_isAtRest_25 : decode cX4_isAtRest 25 = .ok (.aload_n 0, 1) := by decide +kernel
theorem dX4_isAtRest_26 : decode cX4_isAtRest 26 = .ok (.getfield 12, 3) := by decide +kernel
theorem dX4_isAtRest_29 : decode cX4_isAtRest 29 = .ok (.iload_n 1, 1) := by decide +kernel
theorem dX4_isAtRest_30 : decode cX4_isAtRest 30 = .ok (.invokevirtual 121, 3) := by decide +kernel
theorem dX4_isAtRest_33 : decode cX4_isAtRest 33 = .ok (.ifCond .eq 5, 3) := by decide +kernel
theorem dX4_isAtRest_36 : decode cX4_isAtRest 36 = .ok (.iconst 0, 1) := by decide +kernel
theorem dX4_isAtRest_37 : decode cX4_isAtRest 37 = .ok (.ireturn, 1) := by decide +kernel
theorem dX4_isAtRest_38 : decode cX4_isAtRest 38 = .ok (.iinc 1 1, 3) := by decide +kernel
theorem dX4_isAtRest_41 : decode cX4_isAtRest 41 = .ok (.goto (-27), 3) := by decide +kernel
theorem dX4_isAtRest_44 : decode cX4_isAtRest 44 = .ok (.iconst 1, 1) := by decide +kernel
theorem dX4_isAtRest_45 : decode cX4_isAtRest 45 = .ok (.ireturn, 1) := by decide +kernel
theorem dX4_tangleAt_0 : decode cX4_tangleAt 0 = .ok (.aload_n 0, 1) := by decide +kernel
theorem dX4_tangleAt_1 : decode cX4_tangleAt 1 = .ok (.getfield 12, 3) := by decide +kernel
theorem dX4_tangleAt_4 : decode cX4_tangleAt 4 = .ok (.iload_n 1, 1) := by decide +kernel
theorem dX4_tangleAt_5 : decode cX4_tangleAt 5 = .ok (.aload_n 0, 1) := by decide +kernel
theorem dX4_tangleAt_6 : decode cX4_tangleAt 6 = .ok (.getfield 53, 3) := by decide +kernel
theorem dX4_tangleAt_9 : decode cX4_tangleAt 9 = .ok (.invokevirtual 124, 3) := by decide +kernel
theorem dX4_tangleAt_12 : decode cX4_tangleAt 12 = .ok (.aload_n 0, 1) := by decide +kernel
theorem dX4_tangleAt_13 : decode cX4_tangleAt 13 = .ok (.getfield 28, 3) := by decide +kernel
theorem dX4_tangleAt_16 : decode cX4_tangleAt 16 = .ok (.aload_n 0, 1) := by decide +kernel
theorem dX4_tangleAt_17 : decode cX4_tangleAt 17 = .ok (.getfield 39, 3) := by decide +kernel
theorem dX4_tangleAt_20 : decode cX4_tangleAt 20 = .ok (.aload_n 0, 1) := by decide +kernel
theorem dX4_tangleAt_21 : decode cX4_tangleAt 21 = .ok (.getfield 12, 3) := by decide +kernel
theorem dX4_tangleAt_24 : decode cX4_tangleAt 24 = .ok (.getfield 128, 3) := by decide +kernel
theorem dX4_tangleAt_27 : decode cX4_tangleAt 27 = .ok (.iload_n 1, 1) := by decide +kernel
theorem dX4_tangleAt_28 : decode cX4_tangleAt 28 = .ok (.iaload, 1) := by decide +kernel
theorem dX4_tangleAt_29 : decode cX4_tangleAt 29 = .ok (.aload_n 0, 1) := by decide +kernel
theorem dX4_tangleAt_30 : decode cX4_tangleAt 30 = .ok (.getfield 12, 3) := by decide +kernel
theorem dX4_tangleAt_33 : decode cX4_tangleAt 33 = .ok (.getfield 128, 3) := by decide +kernel
theorem dX4_tangleAt_36 : decode cX4_tangleAt 36 = .ok (.iload_n 1, 1) := by decide +kernel
theorem dX4_tangleAt_37 : decode cX4_tangleAt 37 = .ok (.iconst 1, 1) := by decide +kernel
theorem dX4_tangleAt_38 : decode cX4_tangleAt 38 = .ok (.iadd, 1) := by decide +kernel
theorem dX4_tangleAt_39 : decode cX4_tangleAt 39 = .ok (.iaload, 1) := by decide +kernel
theorem dX4_tangleAt_40 : decode cX4_tangleAt 40 = .ok (.iload_n 2, 1) := by decide +kernel
theorem dX4_tangleAt_41 : decode cX4_tangleAt 41 = .ok (.invokestatic 131, 3) := by decide +kernel
theorem dX4_tangleAt_44 : decode cX4_tangleAt 44 = .ok (.invokevirtual 135, 3) := by decide +kernel
theorem dX4_tangleAt_47 : decode cX4_tangleAt 47 = .ok (.return_, 1) := by decide +kernel
theorem dX5_init_0 : decode cX5_init 0 = .ok (.aload_n 0, 1) := by decide +kernel
theorem dX5_init_1 : decode cX5_init 1 = .ok (.invokespecial 3, 3) := by decide +kernel
theorem dX5_init_4 : decode cX5_init 4 = .ok (.aload_n 0, 1) := by decide +kernel
theorem dX5_init_5 : decode cX5_init 5 = .ok (.bipush 8, 2) := by decide +kernel
theorem dX5_init_7 : decode cX5_init 7 = .ok (.newarray .int, 2) := by decide +kernel
theorem dX5_init_9 : decode cX5_init 9 = .ok (.putfield 9, 3) := by decide +kernel
theorem dX5_init_12 : decode cX5_init 12 = .ok (.aload_n 0, 1) := by decide +kernel
theorem dX5_init_13 : decode cX5_init 13 = .ok (.bipush 8, 2) := by decide +kernel
theorem dX5_init_15 : decode cX5_init 15 = .ok (.newarray .int, 2) := by decide +kernel
theorem dX5_init_17 : decode cX5_init 17 = .ok (.putfield 15, 3) := by decide +kernel
theorem dX5_init_20 : decode cX5_init 20 = .ok (.aload_n 0, 1) := by decide +kernel
theorem dX5_init_21 : decode cX5_init 21 = .ok (.bipush 8, 2) := by decide +kernel
theorem dX5_init_23 : decode cX5_init 23 = .ok (.newarray .int, 2) := by decide +kernel
theorem dX5_init_25 : decode cX5_init 25 = .ok (.putfield 18, 3) := by decide +kernel
theorem dX5_init_28 : decode cX5_init 28 = .ok (.aload_n 0, 1) := by decide +kernel
theorem dX5_init_29 : decode cX5_init 29 = .ok (.bipush 8, 2) := by decide +kernel
theorem dX5_init_31 : decode cX5_init 31 = .ok (.newarray .int, 2) := by decide +kernel
theorem dX5_init_33 : decode cX5_init 33 = .ok (.putfield 21, 3) := by decide +kernel
theorem dX5_init_36 : decode cX5_init 36 = .ok (.aload_n 0, 1) := by decide +kernel
theorem dX5_init_37 : decode cX5_init 37 = .ok (.iconst 0, 1) := by decide +kernel
theorem dX5_init_38 : decode cX5_init 38 = .ok (.putfield 24, 3) := by decide +kernel
theorem dX5_init_41 : decode cX5_init 41 = .ok (.aload_n 0, 1) := by decide +kernel
theorem dX5_init_42 : decode cX5_init 42 = .ok (.iconst 0, 1) := by decide +kernel
theorem dX5_init_43 : decode cX5_init 43 = .ok (.putfield 28, 3) := by decide +kernel
theorem dX5_init_46 : decode cX5_init 46 = .ok (.return_, 1) := by decide +kernel
theorem dX5_copyFrom_0 : decode cX5_copyFrom 0 = .ok (.aload_n 1, 1) := by decide +kernel
theorem dX5_copyFrom_1 : decode cX5_copyFrom 1 = .ok (.getfield 9, 3) := by decide +kernel
theorem dX5_copyFrom_4 : decode cX5_copyFrom 4 = .ok (.iconst 0, 1) := by decide +kernel
theorem dX5_copyFrom_5 : decode cX5_copyFrom 5 = .ok (.aload_n 0, 1) := by decide +kernel
theorem dX5_copyFrom_6 : decode cX5_copyFrom 6 = .ok (.getfield 9, 3) := by decide +kernel
theorem dX5_copyFrom_9 : decode cX5_copyFrom 9 = .ok (.iconst 0, 1) := by decide +kernel
theorem dX5_copyFrom_10 : decode cX5_copyFrom 10 = .ok (.bipush 8, 2) := by decide +kernel
theorem dX5_copyFrom_12 : decode cX5_copyFrom 12 = .ok (.invokestatic 31, 3) := by decide +kernel
theorem dX5_copyFrom_15 : decode cX5_copyFrom 15 = .ok (.aload_n 1, 1) := by decide +kernel
theorem dX5_copyFrom_16 : decode cX5_copyFrom 16 = .ok (.getfield 15, 3) := by decide +kernel
theorem dX5_copyFrom_19 : decode cX5_copyFrom 19 = .ok (.iconst 0, 1) := by decide +kernel
theorem dX5_copyFrom_20 : decode cX5_copyFrom 20 = .ok (.aload_n 0, 1) := by decide +kernel
theorem dX5_copyFrom_21 : decode cX5_copyFrom 21 = .ok (.getfield 15, 3) := by decide +kernel
theorem dX5_copyFrom_24 : decode cX5_copyFrom 24 = .ok (.iconst 0, 1) := by decide +kernel
theorem dX5_copyFrom_25 : decode cX5_copyFrom 25 = .ok (.bipush 8, 2) := by decide +kernel
theorem dX5_copyFrom_27 : decode cX5_copyFrom 27 = .ok (.invokestatic 31, 3) := by decide +kernel
theorem dX5_copyFrom_30 : decode cX5_copyFrom 30 = .ok (.aload_n 1, 1) := by decide +kernel
theorem dX5_copyFrom_31 : decode cX5_copyFrom 31 = .ok (.getfield 18, 3) := by decide +kernel
theorem dX5_copyFrom_34 : decode cX5_copyFrom 34 = .ok (.iconst 0, 1) := by decide +kernel
theorem dX5_copyFrom_35 : decode cX5_copyFrom 35 = .ok (.aload_n 0, 1) := by decide +kernel
theorem dX5_copyFrom_36 : decode cX5_copyFrom 36 = .ok (.getfield 18, 3) := by decide +kernel
theorem dX5_copyFrom_39 : decode cX5_copyFrom 39 = .ok (.iconst 0, 1) := by decide +kernel
theorem dX5_copyFrom_40 : decode cX5_copyFrom 40 = .ok (.bipush 8, 2) := by decide +kernel
theorem dX5_copyFrom_42 : decode cX5_copyFrom 42 = .ok (.invokestatic 31, 3) := by decide +kernel
theorem dX5_copyFrom_45 : decode cX5_copyFrom 45 = .ok (.aload_n 1, 1) := by decide +kernel
theorem dX5_copyFrom_46 : decode cX5_copyFrom 46 = .ok (.getfield 21, 3) := by decide +kernel
theorem dX5_copyFrom_49 : decode cX5_copyFrom 49 = .ok (.iconst 0, 1) := by decide +kernel
theorem dX5_copyFrom_50 : decode cX5_copyFrom 50 = .ok (.aload_n 0, 1) := by decide +kernel
theorem dX5_copyFrom_51 : decode cX5_copyFrom 51 = .ok (.getfield 21, 3) := by decide +kernel
theorem dX5_copyFrom_54 : decode cX5_copyFrom 54 = .ok (.iconst 0, 1) := by decide +kernel
theorem dX5_copyFrom_55 : decode cX5_copyFrom 55 = .ok (.bipush 8, 2) := by decide +kernel
theorem dX5_copyFrom_57 : decode cX5_copyFrom 57 = .ok (.invokestatic 31, 3) := by decide +kernel
theorem dX5_copyFrom_60 : decode cX5_copyFrom 60 = .ok (.aload_n 0, 1) := by decide +kernel
theorem dX5_copyFrom_61 : decode cX5_copyFrom 61 = .ok (.aload_n 1, 1) := by decide +kernel
theorem dX5_copyFrom_62 : decode cX5_copyFrom 62 = .ok (.getfield 24, 3) := by decide +kernel
theorem dX5_copyFrom_65 : decode cX5_copyFrom 65 = .ok (.putfield 24, 3) := by decide +kernel
theorem dX5_copyFrom_68 : decode cX5_copyFrom 68 = .ok (.aload_n 0, 1) := by decide +kernel
theorem dX5_copyFrom_69 : decode cX5_copyFrom 69 = .ok (.aload_n 1, 1) := by decide +kernel
theorem dX5_copyFrom_70 : decode cX5_copyFrom 70 = .ok (.getfield 28, 3) := by decide +kernel
theorem dX5_copyFrom_73 : decode cX5_copyFrom 73 = .ok (.putfield 28, 3) := by decide +kernel
theorem dX5_copyFrom_76 : decode cX5_copyFrom 76 = .ok (.return_, 1) := by decide +kernel
theorem dX5_add_0 : decode cX5_add 0 = .ok (.bipush 7, 2) := by decide +kernel
theorem dX5_add_2 : decode cX5_add 2 = .ok (.istore 5, 2) := by decide +kernel
theorem dX5_add_4 : decode cX5_add 4 = .ok (.iload 5, 2) := by decide +kernel
theorem dX5_add_6 : decode cX5_add 6 = .ok (.ifCond .le 73, 3) := by decide +kernel
theorem dX5_add_9 : decode cX5_add 9 = .ok (.aload_n 0, 1) := by decide +kernel
theorem dX5_add_10 : decode cX5_add 10 = .ok (.getfield 9, 3) := by decide +kernel
theorem dX5_add_13 : decode cX5_add 13 = .ok (.iload 5, 2) := by decide +kernel
theorem dX5_add_15 : decode cX5_add 15 = .ok (.aload_n 0, 1) := by decide +kernel
theorem dX5_add_16 : decode cX5_add 16 = .ok (.getfield 9, 3) := by decide +kernel
theorem dX5_add_19 : decode cX5_add 19 = .ok (.iload 5, 2) := by decide +kernel
theorem dX5_add_21 : decode cX5_add 21 = .ok (.iconst 1, 1) := by decide +kernel
theorem dX5_add_22 : decode cX5_add 22 = .ok (.isub, 1) := by decide +kernel
theorem dX5_add_23 : decode cX5_add 23 = .ok (.iaload, 1) := by decide +kernel
theorem dX5_add_24 : decode cX5_add 24 = .ok (.iastore, 1) := by decide +kernel
theorem dX5_add_25 : decode cX5_add 25 = .ok (.aload_n 0, 1) := by decide +kernel
theorem dX5_add_26 : decode cX5_add 26 = .ok (.getfield 15, 3) := by decide +kernel
theorem dX5_add_29 : decode cX5_add 29 = .ok (.iload 5, 2) := by decide +kernel
theorem dX5_add_31 : decode cX5_add 31 = .ok (.aload_n 0, 1) := by decide +kernel
theorem dX5_add_32 : decode cX5_add 32 = .ok (.getfield 15, 3) := by decide +kernel
theorem dX5_add_35 : decode cX5_add 35 = .ok (.iload 5, 2) := by decide +kernel
theorem dX5_add_37 : decode cX5_add 37 = .ok (.iconst 1, 1) := by decide +kernel
theorem dX5_add_38 : decode cX5_add 38 = .ok (.isub, 1) := by decide +kernel
theorem dX5_add_39 : decode cX5_add 39 = .ok (.iaload, 1) := by decide +kernel
theorem dX5_add_40 : decode cX5_add 40 = .ok (.iastore, 1) := by decide +kernel
theorem dX5_add_41 : decode cX5_add 41 = .ok (.aload_n 0, 1) := by decide +kernel
theorem dX5_add_42 : decode cX5_add 42 = .ok (.getfield 18, 3) := by decide +kernel
theorem dX5_add_45 : decode cX5_add 45 = .ok (.iload 5, 2) := by decide +kernel
theorem dX5_add_47 : decode cX5_add 47 = .ok (.aload_n 0, 1) := by decide +kernel
theorem dX5_add_48 : decode cX5_add 48 = .ok (.getfield 18, 3) := by decide +kernel
theorem dX5_add_51 : decode cX5_add 51 = .ok (.iload 5, 2) := by decide +kernel
theorem dX5_add_53 : decode cX5_add 53 = .ok (.iconst 1, 1) := by decide +kernel
theorem dX5_add_54 : decode cX5_add 54 = .ok (.isub, 1) := by decide +kernel
theorem dX5_add_55 : decode cX5_add 55 = .ok (.iaload, 1) := by decide +kernel
theorem dX5_add_56 : decode cX5_add 56 = .ok (.iastore, 1) := by decide +kernel
theorem dX5_add_57 : decode cX5_add 57 = .ok (.aload_n 0, 1) := by decide +kernel
theorem dX5_add_58 : decode cX5_add 58 = .ok (.getfield 21, 3) := by decide +kernel
theorem dX5_add_61 : decode cX5_add 61 = .ok (.iload 5, 2) := by decide +kernel
theorem dX5_add_63 : decode cX5_add 63 = .ok (.aload_n 0, 1) := by decide +kernel
theorem dX5_add_64 : decode cX5_add 64 = .ok (.getfield 21, 3) := by decide +kernel
theorem dX5_add_67 : decode cX5_add 67 = .ok (.iload 5, 2) := by decide +kernel
theorem dX5_add_69 : decode cX5_add 69 = .ok (.iconst 1, 1) := by decide +kernel
theorem dX5_add_70 : decode cX5_add 70 = .ok (.isub, 1) := by decide +kernel
theorem dX5_add_71 : decode cX5_add 71 = .ok (.iaload, 1) := by decide +kernel
theorem dX5_add_72 : decode cX5_add 72 = .ok (.iastore, 1) := by decide +kernel
theorem dX5_add_73 : decode cX5_add 73 = .ok (.iinc 5 (-1), 3) := by decide +kernel
theorem dX5_add_76 : decode cX5_add 76 = .ok (.goto (-72), 3) := by decide +kernel
theorem dX5_add_79 : decode cX5_add 79 = .ok (.aload_n 0, 1) := by decide +kernel
theorem dX5_add_80 : decode cX5_add 80 = .ok (.getfield 9, 3) := by decide +kernel
theorem dX5_add_83 : decode cX5_add 83 = .ok (.iconst 0, 1) := by decide +kernel
theorem dX5_add_84 : decode cX5_add 84 = .ok (.iload_n 1, 1) := by decide +kernel
theorem dX5_add_85 : decode cX5_add 85 = .ok (.iastore, 1) := by decide +kernel
theorem dX5_add_86 : decode cX5_add 86 = .ok (.aload_n 0, 1) := by decide +kernel
theorem dX5_add_87 : decode cX5_add 87 = .ok (.getfield 15, 3) := by decide +kernel
theorem dX5_add_90 : decode cX5_add 90 = .ok (.iconst 0, 1) := by decide +kernel
theorem dX5_add_91 : decode cX5_add 91 = .ok (.iload_n 2, 1) := by decide +kernel
theorem dX5_add_92 : decode cX5_add 92 = .ok (.iastore, 1) := by decide +kernel
theorem dX5_add_93 : decode cX5_add 93 = .ok (.aload_n 0, 1) := by decide +kernel
theorem dX5_add_94 : decode cX5_add 94 = .ok (.getfield 18, 3) := by decide +kernel
theorem dX5_add_97 : decode cX5_add 97 = .ok (.iconst 0, 1) := by decide +kernel
theorem dX5_add_98 : decode cX5_add 98 = .ok (.iload_n 3, 1) := by decide +kernel
theorem dX5_add_99 : decode cX5_add 99 = .ok (.iastore, 1) := by decide +kernel
theorem dX5_add_100 : decode cX5_add 100 = .ok (.aload_n 0, 1) := by decide +kernel
theorem dX5_add_101 : decode cX5_add 101 = .ok (.getfield 21, 3) := by decide +kernel
theorem dX5_add_104 : decode cX5_add 104 = .ok (.iconst 0, 1) := by decide +kernel
theorem dX5_add_105 : decode cX5_add 105 = .ok (.iload 4, 2) := by decide +kernel
theorem dX5_add_107 : decode cX5_add 107 = .ok (.iastore, 1) := by decide +kernel
theorem dX5_add_108 : decode cX5_add 108 = .ok (.aload_n 0, 1) := by decide +kernel
theorem dX5_add_109 : decode cX5_add 109 = .ok (.aload_n 0, 1) := by decide +kernel
theorem dX5_add_110 : decode cX5_add 110 = .ok (.getfield 24, 3) := by decide +kernel
theorem dX5_add_113 : decode cX5_add 113 = .ok (.iconst 1, 1) := by decide +kernel
theorem dX5_add_114 : decode cX5_add 114 = .ok (.iadd, 1) := by decide +kernel
theorem dX5_add_115 : decode cX5_add 115 = .ok (.bipush 8, 2) := by decide +kernel
theorem dX5_add_117 : decode cX5_add 117 = .ok (.invokestatic 37, 3) := by decide +kernel
theorem dX5_add_120 : decode cX5_add 120 = .ok (.putfield 24, 3) := by decide +kernel
theorem dX5_add_123 : decode cX5_add 123 = .ok (.aload_n 0, 1) := by decide +kernel
theorem dX5_add_124 : decode cX5_add 124 = .ok (.dup, 1) := by decide +kernel
theorem dX5_add_125 : decode cX5_add 125 = .ok (.getfield 28, 3) := by decide +kernel
theorem dX5_add_128 : decode cX5_add 128 = .ok (.iconst 1, 1) := by decide +kernel
theorem dX5_add_129 : decode cX5_add 129 = .ok (.iadd, 1) := by decide +kernel
theorem dX5_add_130 : decode cX5_add 130 = .ok (.putfield 28, 3) := by decide +kernel
theorem dX5_add_133 : decode cX5_add 133 = .ok (.return_, 1) := by decide +kernel
theorem dX6_init_0 : decode cX6_init 0 = .ok (.aload_n 0, 1) := by decide +kernel
theorem dX6_init_1 : decode cX6_init 1 = .ok (.invokespecial 3, 3) := by decide +kernel
theorem dX6_init_4 : decode cX6_init 4 = .ok (.aload_n 0, 1) := by decide +kernel
theorem dX6_init_5 : decode cX6_init 5 = .ok (.bipush 12, 2) := by decide +kernel
theorem dX6_init_7 : decode cX6_init 7 = .ok (.newarray .char, 2) := by decide +kernel
theorem dX6_init_9 : decode cX6_init 9 = .ok (.putfield 9, 3) := by decide +kernel
theorem dX6_init_12 : decode cX6_init 12 = .ok (.aload_n 0, 1) := by decide +kernel
theorem dX6_init_13 : decode cX6_init 13 = .ok (.iconst 0, 1) := by decide +kernel
theorem dX6_init_14 : decode cX6_init 14 = .ok (.putfield 15, 3) := by decide +kernel
theorem dX6_init_17 : decode cX6_init 17 = .ok (.return_, 1) := by decide +kernel
theorem dX6_copyFrom_0 : decode cX6_copyFrom 0 = .ok (.aload_n 1, 1) := by decide +kernel
theorem dX6_copyFrom_1 : decode cX6_copyFrom 1 = .ok (.getfield 9, 3) := by decide +kernel
theorem dX6_copyFrom_4 : decode cX6_copyFrom 4 = .ok (.iconst 0, 1) := by decide +kernel
theorem dX6_copyFrom_5 : decode cX6_copyFrom 5 = .ok (.aload_n 0, 1) := by decide +kernel
theorem dX6_copyFrom_6 : decode cX6_copyFrom 6 = .ok (.getfield 9, 3) := by decide +kernel
theorem dX6_copyFrom_9 : decode cX6_copyFrom 9 = .ok (.iconst 0, 1) := by decide +kernel
theorem dX6_copyFrom_10 : decode cX6_copyFrom 10 = .ok (.bipush 12, 2) := by decide +kernel
theorem dX6_copyFrom_12 : decode cX6_copyFrom 12 = .ok (.invokestatic 19, 3) := by decide +kernel
theorem dX6_copyFrom_15 : decode cX6_copyFrom 15 = .ok (.aload_n 0, 1) := by decide +kernel
theorem dX6_copyFrom_16 : decode cX6_copyFrom 16 = .ok (.aload_n 1, 1) := by decide +kernel
theorem dX6_copyFrom_17 : decode cX6_copyFrom 17 = .ok (.getfield 15, 3) := by decide +kernel
theorem dX6_copyFrom_20 : decode cX6_copyFrom 20 = .ok (.putfield 15, 3) := by decide +kernel
theorem dX6_copyFrom_23 : decode cX6_copyFrom 23 = .ok (.return_, 1) := by decide +kernel
theorem dX6_isSame_0 : decode cX6_isSame 0 = .ok (.aload_n 0, 1) := by decide +kernel
theorem dX6_isSame_1 : decode cX6_isSame 1 = .ok (.getfield 15, 3) := by decide +kernel
theorem dX6_isSame_4 : decode cX6_isSame 4 = .ok (.iload_n 2, 1) := by decide +kernel
theorem dX6_isSame_5 : decode cX6_isSame 5 = .ok (.if_icmp .eq 5, 3) := by decide +kernel
theorem dX6_isSame_8 : decode cX6_isSame 8 = .ok (.iconst 0, 1) := by decide +kernel
theorem dX6_isSame_9 : decode cX6_isSame 9 = .ok (.ireturn, 1) := by decide +kernel
theorem dX6_isSame_10 : decode cX6_isSame 10 = .ok (.iconst 0, 1) := by decide +kernel
theorem dX6_isSame_11 : decode cX6_isSame 11 = .ok (.istore_n 3, 1) := by decide +kernel
theorem dX6_isSame_12 : decode cX6_isSame 12 = .ok (.iload_n 3, 1) := by decide +kernel
theorem dX6_isSame_13 : decode cX6_isSame 13 = .ok (.aload_n 0, 1) := by decide +kernel
theorem dX6_isSame_14 : decode cX6_isSame 14 = .ok (.getfield 15, 3) := by decide +kernel
theorem dX6_isSame_17 : decode cX6_isSame 17 = .ok (.if_icmp .ge 23, 3) := by decide +kernel
theorem dX6_isSame_20 : decode cX6_isSame 20 = .ok (.aload_n 0, 1) := by decide +kernel
theorem dX6_isSame_21 : decode cX6_isSame 21 = .ok (.getfield 9, 3) := by decide +kernel
theorem dX6_isSame_24 : decode cX6_isSame 24 = .ok (.iload_n 3, 1) := by decide +kernel
theorem dX6_isSame_25 : decode cX6_isSame 25 = .ok (.caload, 1) := by decide +kernel
theorem dX6_isSame_26 : decode cX6_isSame 26 = .ok (.aload_n 1, 1) := by decide +kernel
theorem dX6_isSame_27 : decode cX6_isSame 27 = .ok (.iload_n 3, 1) := by decide +kernel
theorem dX6_isSame_28 : decode cX6_isSame 28 = .ok (.caload, 1) := by decide +kernel
theorem dX6_isSame_29 : decode cX6_isSame 29 = .ok (.if_icmp .eq 5, 3) := by decide +kernel
theorem dX6_isSame_32 : decode cX6_isSame 32 = .ok (.iconst 0, 1) := by decide +kernel
theorem dX6_isSame_33 : decode cX6_isSame 33 = .ok (.ireturn, 1) := by decide +kernel
theorem dX6_isSame_34 : decode cX6_isSame 34 = .ok (.iinc 3 1, 3) := by decide +kernel
theorem dX6_isSame_37 : decode cX6_isSame 37 = .ok (.goto (-25), 3) := by decide +kernel
theorem dX6_isSame_40 : decode cX6_isSame 40 = .ok (.iconst 1, 1) := by decide +kernel
theorem dX6_isSame_41 : decode cX6_isSame 41 = .ok (.ireturn, 1) := by decide +kernel
theorem dX6_become_0 : decode cX6_become 0 = .ok (.aload_n 0, 1) := by decide +kernel

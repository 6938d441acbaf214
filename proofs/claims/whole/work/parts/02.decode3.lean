theorem dX8_isTangled_1 : decode cX8_isTangled 1 = .ok (.iload_n 1, 1) := by decide +kernel
theorem dX8_isTangled_2 : decode cX8_isTangled 2 = .ok (.iconst 4, 1) := by decide +kernel
theorem dX8_isTangled_3 : decode cX8_isTangled 3 = .ok (.invokestatic 51, 3) := by decide +kernel
theorem dX8_isTangled_6 : decode cX8_isTangled 6 = .ok (.ifCond .le 7, 3) := by decide +kernel
theorem dX8_isTangled_9 : decode cX8_isTangled 9 = .ok (.iconst 1, 1) := by decide +kernel
theorem dX8_isTangled_10 : decode cX8_isTangled 10 = .ok (.goto 4, 3) := by decide +kernel
theorem dX8_isTangled_13 : decode cX8_isTangled 13 = .ok (.iconst 0, 1) := by decide +kernel
theorem dX8_isTangled_14 : decode cX8_isTangled 14 = .ok (.ireturn, 1) := by decide +kernel
theorem dX8_isRead_0 : decode cX8_isRead 0 = .ok (.aload_n 0, 1) := by decide +kernel
theorem dX8_isRead_1 : decode cX8_isRead 1 = .ok (.iload_n 1, 1) := by decide +kernel
theorem dX8_isRead_2 : decode cX8_isRead 2 = .ok (.invokestatic 59, 3) := by decide +kernel
theorem dX8_isRead_5 : decode cX8_isRead 5 = .ok (.ifCond .ne 7, 3) := by decide +kernel
theorem dX8_isRead_8 : decode cX8_isRead 8 = .ok (.iconst 1, 1) := by decide +kernel
theorem dX8_isRead_9 : decode cX8_isRead 9 = .ok (.goto 4, 3) := by decide +kernel
theorem dX8_isRead_12 : decode cX8_isRead 12 = .ok (.iconst 0, 1) := by decide +kernel
theorem dX8_isRead_13 : decode cX8_isRead 13 = .ok (.istore_n 2, 1) := by decide +kernel
theorem dX8_isRead_14 : decode cX8_isRead 14 = .ok (.iconst 0, 1) := by decide +kernel
theorem dX8_isRead_15 : decode cX8_isRead 15 = .ok (.istore_n 3, 1) := by decide +kernel
theorem dX8_isRead_16 : decode cX8_isRead 16 = .ok (.iload_n 3, 1) := by decide +kernel
theorem dX8_isRead_17 : decode cX8_isRead 17 = .ok (.aload_n 0, 1) := by decide +kernel
theorem dX8_isRead_18 : decode cX8_isRead 18 = .ok (.iconst 0, 1) := by decide +kernel
theorem dX8_isRead_19 : decode cX8_isRead 19 = .ok (.iaload, 1) := by decide +kernel
theorem dX8_isRead_20 : decode cX8_isRead 20 = .ok (.if_icmp .ge 37, 3) := by decide +kernel
theorem dX8_isRead_23 : decode cX8_isRead 23 = .ok (.iload_n 2, 1) := by decide +kernel
theorem dX8_isRead_24 : decode cX8_isRead 24 = .ok (.ifCond .eq 25, 3) := by decide +kernel
theorem dX8_isRead_27 : decode cX8_isRead 27 = .ok (.iload_n 3, 1) := by decide +kernel
theorem dX8_isRead_28 : decode cX8_isRead 28 = .ok (.iload_n 1, 1) := by decide +kernel
theorem dX8_isRead_29 : decode cX8_isRead 29 = .ok (.if_icmp .eq 16, 3) := by decide +kernel
theorem dX8_isRead_32 : decode cX8_isRead 32 = .ok (.aload_n 0, 1) := by decide +kernel
theorem dX8_isRead_33 : decode cX8_isRead 33 = .ok (.iload_n 3, 1) := by decide +kernel
theorem dX8_isRead_34 : decode cX8_isRead 34 = .ok (.invokestatic 63, 3) := by decide +kernel
theorem dX8_isRead_37 : decode cX8_isRead 37 = .ok (.aload_n 0, 1) := by decide +kernel
theorem dX8_isRead_38 : decode cX8_isRead 38 = .ok (.iload_n 1, 1) := by decide +kernel
theorem dX8_isRead_39 : decode cX8_isRead 39 = .ok (.invokestatic 63, 3) := by decide +kernel
theorem dX8_isRead_42 : decode cX8_isRead 42 = .ok (.if_icmp .eq 7, 3) := by decide +kernel
theorem dX8_isRead_45 : decode cX8_isRead 45 = .ok (.iconst 1, 1) := by decide +kernel
theorem dX8_isRead_46 : decode cX8_isRead 46 = .ok (.goto 4, 3) := by decide +kernel
theorem dX8_isRead_49 : decode cX8_isRead 49 = .ok (.iconst 0, 1) := by decide +kernel
theorem dX8_isRead_50 : decode cX8_isRead 50 = .ok (.istore_n 2, 1) := by decide +kernel
theorem dX8_isRead_51 : decode cX8_isRead 51 = .ok (.iinc 3 1, 3) := by decide +kernel
theorem dX8_isRead_54 : decode cX8_isRead 54 = .ok (.goto (-38), 3) := by decide +kernel
theorem dX8_isRead_57 : decode cX8_isRead 57 = .ok (.iload_n 2, 1) := by decide +kernel
theorem dX8_isRead_58 : decode cX8_isRead 58 = .ok (.ireturn, 1) := by decide +kernel
theorem dX8_readable_0 : decode cX8_readable 0 = .ok (.iconst 0, 1) := by decide +kernel
theorem dX8_readable_1 : decode cX8_readable 1 = .ok (.istore_n 1, 1) := by decide +kernel
theorem dX8_readable_2 : decode cX8_readable 2 = .ok (.iconst 0, 1) := by decide +kernel
theorem dX8_readable_3 : decode cX8_readable 3 = .ok (.istore_n 2, 1) := by decide +kernel
theorem dX8_readable_4 : decode cX8_readable 4 = .ok (.iload_n 2, 1) := by decide +kernel
theorem dX8_readable_5 : decode cX8_readable 5 = .ok (.aload_n 0, 1) := by decide +kernel
theorem dX8_readable_6 : decode cX8_readable 6 = .ok (.iconst 0, 1) := by decide +kernel
theorem dX8_readable_7 : decode cX8_readable 7 = .ok (.iaload, 1) := by decide +kernel
theorem dX8_readable_8 : decode cX8_readable 8 = .ok (.if_icmp .ge 25, 3) := by decide +kernel
theorem dX8_readable_11 : decode cX8_readable 11 = .ok (.iload_n 1, 1) := by decide +kernel
theorem dX8_readable_12 : decode cX8_readable 12 = .ok (.aload_n 0, 1) := by decide +kernel
theorem dX8_readable_13 : decode cX8_readable 13 = .ok (.iload_n 2, 1) := by decide +kernel
theorem dX8_readable_14 : decode cX8_readable 14 = .ok (.invokestatic 66, 3) := by decide +kernel
theorem dX8_readable_17 : decode cX8_readable 17 = .ok (.ifCond .eq 7, 3) := by decide +kernel
theorem dX8_readable_20 : decode cX8_readable 20 = .ok (.iconst 1, 1) := by decide +kernel
theorem dX8_readable_21 : decode cX8_readable 21 = .ok (.goto 4, 3) := by decide +kernel
theorem dX8_readable_24 : decode cX8_readable 24 = .ok (.iconst 0, 1) := by decide +kernel
theorem dX8_readable_25 : decode cX8_readable 25 = .ok (.iadd, 1) := by decide +kernel
theorem dX8_readable_26 : decode cX8_readable 26 = .ok (.istore_n 1, 1) := by decide +kernel
theorem dX8_readable_27 : decode cX8_readable 27 = .ok (.iinc 2 1, 3) := by decide +kernel
theorem dX8_readable_30 : decode cX8_readable 30 = .ok (.goto (-26), 3) := by decide +kernel
theorem dX8_readable_33 : decode cX8_readable 33 = .ok (.iload_n 1, 1) := by decide +kernel
theorem dX8_readable_34 : decode cX8_readable 34 = .ok (.ireturn, 1) := by decide +kernel
theorem dX8_ranked_0 : decode cX8_ranked 0 = .ok (.iconst 0, 1) := by decide +kernel
theorem dX8_ranked_1 : decode cX8_ranked 1 = .ok (.istore_n 2, 1) := by decide +kernel
theorem dX8_ranked_2 : decode cX8_ranked 2 = .ok (.iload_n 2, 1) := by decide +kernel
theorem dX8_ranked_3 : decode cX8_ranked 3 = .ok (.aload_n 0, 1) := by decide +kernel
theorem dX8_ranked_4 : decode cX8_ranked 4 = .ok (.iconst 0, 1) := by decide +kernel
theorem dX8_ranked_5 : decode cX8_ranked 5 = .ok (.iaload, 1) := by decide +kernel
theorem dX8_ranked_6 : decode cX8_ranked 6 = .ok (.if_icmp .ge 115, 3) := by decide +kernel
theorem dX8_ranked_9 : decode cX8_ranked 9 = .ok (.iconst 0, 1) := by decide +kernel
theorem dX8_ranked_10 : decode cX8_ranked 10 = .ok (.istore_n 3, 1) := by decide +kernel
theorem dX8_ranked_11 : decode cX8_ranked 11 = .ok (.iconst 0, 1) := by decide +kernel
theorem dX8_ranked_12 : decode cX8_ranked 12 = .ok (.istore 4, 2) := by decide +kernel
theorem dX8_ranked_14 : decode cX8_ranked 14 = .ok (.iload 4, 2) := by decide +kernel
theorem dX8_ranked_16 : decode cX8_ranked 16 = .ok (.aload_n 0, 1) := by decide +kernel
theorem dX8_ranked_17 : decode cX8_ranked 17 = .ok (.iconst 0, 1) := by decide +kernel
theorem dX8_ranked_18 : decode cX8_ranked 18 = .ok (.iaload, 1) := by decide +kernel
theorem dX8_ranked_19 : decode cX8_ranked 19 = .ok (.if_icmp .ge 81, 3) := by decide +kernel
theorem dX8_ranked_22 : decode cX8_ranked 22 = .ok (.aload_n 0, 1) := by decide +kernel
theorem dX8_ranked_23 : decode cX8_ranked 23 = .ok (.iconst 4, 1) := by decide +kernel
theorem dX8_ranked_24 : decode cX8_ranked 24 = .ok (.iaload, 1) := by decide +kernel
theorem dX8_ranked_25 : decode cX8_ranked 25 = .ok (.iconst 1, 1) := by decide +kernel
theorem dX8_ranked_26 : decode cX8_ranked 26 = .ok (.if_icmp .ne 25, 3) := by decide +kernel
theorem dX8_ranked_29 : decode cX8_ranked 29 = .ok (.aload_n 0, 1) := by decide +kernel
theorem dX8_ranked_30 : decode cX8_ranked 30 = .ok (.iload 4, 2) := by decide +kernel
theorem dX8_ranked_32 : decode cX8_ranked 32 = .ok (.invokestatic 63, 3) := by decide +kernel
theorem dX8_ranked_35 : decode cX8_ranked 35 = .ok (.aload_n 0, 1) := by decide +kernel
theorem dX8_ranked_36 : decode cX8_ranked 36 = .ok (.iload_n 2, 1) := by decide +kernel
theorem dX8_ranked_37 : decode cX8_ranked 37 = .ok (.invokestatic 63, 3) := by decide +kernel
theorem dX8_ranked_40 : decode cX8_ranked 40 = .ok (.if_icmp .le 7, 3) := by decide +kernel
theorem dX8_ranked_43 : decode cX8_ranked 43 = .ok (.iconst 1, 1) := by decide +kernel
theorem dX8_ranked_44 : decode cX8_ranked 44 = .ok (.goto 26, 3) := by decide +kernel
theorem dX8_ranked_47 : decode cX8_ranked 47 = .ok (.iconst 0, 1) := by decide +kernel
theorem dX8_ranked_48 : decode cX8_ranked 48 = .ok (.goto 22, 3) := by decide +kernel
theorem dX8_ranked_51 : decode cX8_ranked 51 = .ok (.aload_n 0, 1) := by decide +kernel
theorem dX8_ranked_52 : decode cX8_ranked 52 = .ok (.iload 4, 2) := by decide +kernel
theorem dX8_ranked_54 : decode cX8_ranked 54 = .ok (.invokestatic 63, 3) := by decide +kernel
theorem dX8_ranked_57 : decode cX8_ranked 57 = .ok (.aload_n 0, 1) := by decide +kernel
theorem dX8_ranked_58 : decode cX8_ranked 58 = .ok (.iload_n 2, 1) := by decide +kernel
theorem dX8_ranked_59 : decode cX8_ranked 59 = .ok (.invokestatic 63, 3) := by decide +kernel
theorem dX8_ranked_62 : decode cX8_ranked 62 = .ok (.if_icmp .ge 7, 3) := by decide +kernel
theorem dX8_ranked_65 : decode cX8_ranked 65 = .ok (.iconst 1, 1) := by decide +kernel
theorem dX8_ranked_66 : decode cX8_ranked 66 = .ok (.goto 4, 3) := by decide +kernel
theorem dX8_ranked_69 : decode cX8_ranked 69 = .ok (.iconst 0, 1) := by decide +kernel
theorem dX8_ranked_70 : decode cX8_ranked 70 = .ok (.istore 5, 2) := by decide +kernel
theorem dX8_ranked_72 : decode cX8_ranked 72 = .ok (.iload_n 3, 1) := by decide +kernel
theorem dX8_ranked_73 : decode cX8_ranked 73 = .ok (.iload 5, 2) := by decide +kernel
theorem dX8_ranked_75 : decode cX8_ranked 75 = .ok (.ifCond .eq 16, 3) := by decide +kernel
theorem dX8_ranked_78 : decode cX8_ranked 78 = .ok (.aload_n 0, 1) := by decide +kernel
theorem dX8_ranked_79 : decode cX8_ranked 79 = .ok (.iload 4, 2) := by decide +kernel
theorem dX8_ranked_81 : decode cX8_ranked 81 = .ok (.invokestatic 66, 3) := by decide +kernel
theorem dX8_ranked_84 : decode cX8_ranked 84 = .ok (.ifCond .eq 7, 3) := by decide +kernel
theorem dX8_ranked_87 : decode cX8_ranked 87 = .ok (.iconst 1, 1) := by decide +kernel
theorem dX8_ranked_88 : decode cX8_ranked 88 = .ok (.goto 4, 3) := by decide +kernel
theorem dX8_ranked_91 : decode cX8_ranked 91 = .ok (.iconst 0, 1) := by decide +kernel
theorem dX8_ranked_92 : decode cX8_ranked 92 = .ok (.iadd, 1) := by decide +kernel
theorem dX8_ranked_93 : decode cX8_ranked 93 = .ok (.istore_n 3, 1) := by decide +kernel
theorem dX8_ranked_94 : decode cX8_ranked 94 = .ok (.iinc 4 1, 3) := by decide +kernel
theorem dX8_ranked_97 : decode cX8_ranked 97 = .ok (.goto (-83), 3) := by decide +kernel
theorem dX8_ranked_100 : decode cX8_ranked 100 = .ok (.aload_n 0, 1) := by decide +kernel
theorem dX8_ranked_101 : decode cX8_ranked 101 = .ok (.iload_n 2, 1) := by decide +kernel
theorem dX8_ranked_102 : decode cX8_ranked 102 = .ok (.invokestatic 66, 3) := by decide +kernel
theorem dX8_ranked_105 : decode cX8_ranked 105 = .ok (.ifCond .eq 10, 3) := by decide +kernel
theorem dX8_ranked_108 : decode cX8_ranked 108 = .ok (.iload_n 3, 1) := by decide +kernel
theorem dX8_ranked_109 : decode cX8_ranked 109 = .ok (.iload_n 1, 1) := by decide +kernel
theorem dX8_ranked_110 : decode cX8_ranked 110 = .ok (.if_icmp .ne 5, 3) := by decide +kernel
theorem dX8_ranked_113 : decode cX8_ranked 113 = .ok (.iload_n 2, 1) := by decide +kernel
theorem dX8_ranked_114 : decode cX8_ranked 114 = .ok (.ireturn, 1) := by decide +kernel
theorem dX8_ranked_115 : decode cX8_ranked 115 = .ok (.iinc 2 1, 3) := by decide +kernel
theorem dX8_ranked_118 : decode cX8_ranked 118 = .ok (.goto (-116), 3) := by decide +kernel
theorem dX8_ranked_121 : decode cX8_ranked 121 = .ok (.ldc 69, 2) := by decide +kernel
theorem dX8_ranked_123 : decode cX8_ranked 123 = .ok (.ireturn, 1) := by decide +kernel
theorem dX8_isSpelled_0 : decode cX8_isSpelled 0 = .ok (.aload_n 0, 1) := by decide +kernel
theorem dX8_isSpelled_1 : decode cX8_isSpelled 1 = .ok (.bipush 7, 2) := by decide +kernel
theorem dX8_isSpelled_3 : decode cX8_isSpelled 3 = .ok (.iaload, 1) := by decide +kernel
theorem dX8_isSpelled_4 : decode cX8_isSpelled 4 = .ok (.ifCond .le 27, 3) := by decide +kernel
theorem dX8_isSpelled_7 : decode cX8_isSpelled 7 = .ok (.aload_n 0, 1) := by decide +kernel
theorem dX8_isSpelled_8 : decode cX8_isSpelled 8 = .ok (.iconst 0, 1) := by decide +kernel
theorem dX8_isSpelled_9 : decode cX8_isSpelled 9 = .ok (.iaload, 1) := by decide +kernel
theorem dX8_isSpelled_10 : decode cX8_isSpelled 10 = .ok (.aload_n 0, 1) := by decide +kernel
theorem dX8_isSpelled_11 : decode cX8_isSpelled 11 = .ok (.bipush 7, 2) := by decide +kernel
theorem dX8_isSpelled_13 : decode cX8_isSpelled 13 = .ok (.iaload, 1) := by decide +kernel
theorem dX8_isSpelled_14 : decode cX8_isSpelled 14 = .ok (.if_icmp .ne 17, 3) := by decide +kernel
theorem dX8_isSpelled_17 : decode cX8_isSpelled 17 = .ok (.aload_n 0, 1) := by decide +kernel
theorem dX8_isSpelled_18 : decode cX8_isSpelled 18 = .ok (.invokestatic 70, 3) := by decide +kernel
theorem dX8_isSpelled_21 : decode cX8_isSpelled 21 = .ok (.aload_n 0, 1) := by decide +kernel
theorem dX8_isSpelled_22 : decode cX8_isSpelled 22 = .ok (.iconst 0, 1) := by decide +kernel
theorem dX8_isSpelled_23 : decode cX8_isSpelled 23 = .ok (.iaload, 1) := by decide +kernel
theorem dX8_isSpelled_24 : decode cX8_isSpelled 24 = .ok (.if_icmp .ne 7, 3) := by decide +kernel
theorem dX8_isSpelled_27 : decode cX8_isSpelled 27 = .ok (.iconst 1, 1) := by decide +kernel
theorem dX8_isSpelled_28 : decode cX8_isSpelled 28 = .ok (.goto 4, 3) := by decide +kernel
theorem dX8_isSpelled_31 : decode cX8_isSpelled 31 = .ok (.iconst 0, 1) := by decide +kernel
theorem dX8_isSpelled_32 : decode cX8_isSpelled 32 = .ok (.istore_n 1, 1) := by decide +kernel
theorem dX8_isSpelled_33 : decode cX8_isSpelled 33 = .ok (.iconst 0, 1) := by decide +kernel
theorem dX8_isSpelled_34 : decode cX8_isSpelled 34 = .ok (.istore_n 2, 1) := by decide +kernel
theorem dX8_isSpelled_35 : decode cX8_isSpelled 35 = .ok (.iload_n 2, 1) := by decide +kernel
theorem dX8_isSpelled_36 : decode cX8_isSpelled 36 = .ok (.aload_n 0, 1) := by decide +kernel
theorem dX8_isSpelled_37 : decode cX8_isSpelled 37 = .ok (.bipush 7, 2) := by decide +kernel
theorem dX8_isSpelled_39 : decode cX8_isSpelled 39 = .ok (.iaload, 1) := by decide +kernel
theorem dX8_isSpelled_40 : decode cX8_isSpelled 40 = .ok (.if_icmp .ge 38, 3) := by decide +kernel
theorem dX8_isSpelled_43 : decode cX8_isSpelled 43 = .ok (.iload_n 1, 1) := by decide +kernel
theorem dX8_isSpelled_44 : decode cX8_isSpelled 44 = .ok (.ifCond .eq 34, 3) := by decide +kernel
theorem dX8_isSpelled_47 : decode cX8_isSpelled 47 = .ok (.aload_n 0, 1) := by decide +kernel
theorem dX8_isSpelled_48 : decode cX8_isSpelled 48 = .ok (.aload_n 0, 1) := by decide +kernel
theorem dX8_isSpelled_49 : decode cX8_isSpelled 49 = .ok (.iload_n 2, 1) := by decide +kernel
theorem dX8_isSpelled_50 : decode cX8_isSpelled 50 = .ok (.invokestatic 74, 3) := by decide +kernel
theorem dX8_isSpelled_53 : decode cX8_isSpelled 53 = .ok (.iconst 1, 1) := by decide +kernel
theorem dX8_isSpelled_54 : decode cX8_isSpelled 54 = .ok (.invokestatic 51, 3) := by decide +kernel
theorem dX8_isSpelled_57 : decode cX8_isSpelled 57 = .ok (.aload_n 0, 1) := by decide +kernel
theorem dX8_isSpelled_58 : decode cX8_isSpelled 58 = .ok (.bipush 108, 2) := by decide +kernel
theorem dX8_isSpelled_60 : decode cX8_isSpelled 60 = .ok (.iload_n 2, 1) := by decide +kernel
theorem dX8_isSpelled_61 : decode cX8_isSpelled 61 = .ok (.iadd, 1) := by decide +kernel
theorem dX8_isSpelled_62 : decode cX8_isSpelled 62 = .ok (.iaload, 1) := by decide +kernel
theorem dX8_isSpelled_63 : decode cX8_isSpelled 63 = .ok (.if_icmp .ne 7, 3) := by decide +kernel
theorem dX8_isSpelled_66 : decode cX8_isSpelled 66 = .ok (.iconst 1, 1) := by decide +kernel
theorem dX8_isSpelled_67 : decode cX8_isSpelled 67 = .ok (.goto 4, 3) := by decide +kernel
theorem dX8_isSpelled_70 : decode cX8_isSpelled 70 = .ok (.iconst 0, 1) := by decide +kernel
theorem dX8_isSpelled_71 : decode cX8_isSpelled 71 = .ok (.istore_n 1, 1) := by decide +kernel
theorem dX8_isSpelled_72 : decode cX8_isSpelled 72 = .ok (.iinc 2 1, 3) := by decide +kernel
theorem dX8_isSpelled_75 : decode cX8_isSpelled 75 = .ok (.goto (-40), 3) := by decide +kernel
theorem dX8_isSpelled_78 : decode cX8_isSpelled 78 = .ok (.iload_n 1, 1) := by decide +kernel
theorem dX8_isSpelled_79 : decode cX8_isSpelled 79 = .ok (.ireturn, 1) := by decide +kernel
theorem dX8_letterAt_0 : decode cX8_letterAt 0 = .ok (.aload_n 0, 1) := by decide +kernel
theorem dX8_letterAt_1 : decode cX8_letterAt 1 = .ok (.aload_n 0, 1) := by decide +kernel
theorem dX8_letterAt_2 : decode cX8_letterAt 2 = .ok (.iconst 4, 1) := by decide +kernel
theorem dX8_letterAt_3 : decode cX8_letterAt 3 = .ok (.iaload, 1) := by decide +kernel
theorem dX8_letterAt_4 : decode cX8_letterAt 4 = .ok (.iconst 1, 1) := by decide +kernel
theorem dX8_letterAt_5 : decode cX8_letterAt 5 = .ok (.if_icmp .ne 13, 3) := by decide +kernel
theorem dX8_letterAt_8 : decode cX8_letterAt 8 = .ok (.aload_n 0, 1) := by decide +kernel
theorem dX8_letterAt_9 : decode cX8_letterAt 9 = .ok (.iconst 0, 1) := by decide +kernel
theorem dX8_letterAt_10 : decode cX8_letterAt 10 = .ok (.iaload, 1) := by decide +kernel
theorem dX8_letterAt_11 : decode cX8_letterAt 11 = .ok (.iconst 1, 1) := by decide +kernel
theorem dX8_letterAt_12 : decode cX8_letterAt 12 = .ok (.isub, 1) := by decide +kernel
theorem dX8_letterAt_13 : decode cX8_letterAt 13 = .ok (.iload_n 1, 1) := by decide +kernel
theorem dX8_letterAt_14 : decode cX8_letterAt 14 = .ok (.isub, 1) := by decide +kernel
theorem dX8_letterAt_15 : decode cX8_letterAt 15 = .ok (.goto 4, 3) := by decide +kernel
theorem dX8_letterAt_18 : decode cX8_letterAt 18 = .ok (.iload_n 1, 1) := by decide +kernel
theorem dX8_letterAt_19 : decode cX8_letterAt 19 = .ok (.iconst 1, 1) := by decide +kernel
theorem dX8_letterAt_20 : decode cX8_letterAt 20 = .ok (.invokestatic 51, 3) := by decide +kernel
theorem dX8_letterAt_23 : decode cX8_letterAt 23 = .ok (.ireturn, 1) := by decide +kernel
theorem dX8_laysGoal_0 : decode cX8_laysGoal 0 = .ok (.iconst 0, 1) := by decide +kernel
theorem dX8_laysGoal_1 : decode cX8_laysGoal 1 = .ok (.istore_n 2, 1) := by decide +kernel
theorem dX8_laysGoal_2 : decode cX8_laysGoal 2 = .ok (.iload_n 2, 1) := by decide +kernel
theorem dX8_laysGoal_3 : decode cX8_laysGoal 3 = .ok (.bipush 12, 2) := by decide +kernel
theorem dX8_laysGoal_5 : decode cX8_laysGoal 5 = .ok (.if_icmp .ge 23, 3) := by decide +kernel
theorem dX8_laysGoal_8 : decode cX8_laysGoal 8 = .ok (.aload_n 0, 1) := by decide +kernel
theorem dX8_laysGoal_9 : decode cX8_laysGoal 9 = .ok (.getfield 26, 3) := by decide +kernel
theorem dX8_laysGoal_12 : decode cX8_laysGoal 12 = .ok (.iload_n 2, 1) := by decide +kernel
theorem dX8_laysGoal_13 : decode cX8_laysGoal 13 = .ok (.iconst 0, 1) := by decide +kernel
theorem dX8_laysGoal_14 : decode cX8_laysGoal 14 = .ok (.bastore, 1) := by decide +kernel
theorem dX8_laysGoal_15 : decode cX8_laysGoal 15 = .ok (.aload_n 0, 1) := by decide +kernel
theorem dX8_laysGoal_16 : decode cX8_laysGoal 16 = .ok (.getfield 30, 3) := by decide +kernel
theorem dX8_laysGoal_19 : decode cX8_laysGoal 19 = .ok (.iload_n 2, 1) := by decide +kernel
theorem dX8_laysGoal_20 : decode cX8_laysGoal 20 = .ok (.iconst 0, 1) := by decide +kernel
theorem dX8_laysGoal_21 : decode cX8_laysGoal 21 = .ok (.iastore, 1) := by decide +kernel
theorem dX8_laysGoal_22 : decode cX8_laysGoal 22 = .ok (.iinc 2 1, 3) := by decide +kernel
theorem dX8_laysGoal_25 : decode cX8_laysGoal 25 = .ok (.goto (-23), 3) := by decide +kernel
theorem dX8_laysGoal_28 : decode cX8_laysGoal 28 = .ok (.aload_n 1, 1) := by decide +kernel
theorem dX8_laysGoal_29 : decode cX8_laysGoal 29 = .ok (.bipush 7, 2) := by decide +kernel
theorem dX8_laysGoal_31 : decode cX8_laysGoal 31 = .ok (.iaload, 1) := by decide +kernel
theorem dX8_laysGoal_32 : decode cX8_laysGoal 32 = .ok (.ifCond .le 17, 3) := by decide +kernel
theorem dX8_laysGoal_35 : decode cX8_laysGoal 35 = .ok (.aload_n 1, 1) := by decide +kernel
theorem dX8_laysGoal_36 : decode cX8_laysGoal 36 = .ok (.iconst 0, 1) := by decide +kernel
theorem dX8_laysGoal_37 : decode cX8_laysGoal 37 = .ok (.iaload, 1) := by decide +kernel
theorem dX8_laysGoal_38 : decode cX8_laysGoal 38 = .ok (.aload_n 1, 1) := by decide +kernel
theorem dX8_laysGoal_39 : decode cX8_laysGoal 39 = .ok (.bipush 7, 2) := by decide +kernel
theorem dX8_laysGoal_41 : decode cX8_laysGoal 41 = .ok (.iaload, 1) := by decide +kernel
theorem dX8_laysGoal_42 : decode cX8_laysGoal 42 = .ok (.if_icmp .ne 7, 3) := by decide +kernel
theorem dX8_laysGoal_45 : decode cX8_laysGoal 45 = .ok (.iconst 1, 1) := by decide +kernel
theorem dX8_laysGoal_46 : decode cX8_laysGoal 46 = .ok (.goto 4, 3) := by decide +kernel
theorem dX8_laysGoal_49 : decode cX8_laysGoal 49 = .ok (.iconst 0, 1) := by decide +kernel
theorem dX8_laysGoal_50 : decode cX8_laysGoal 50 = .ok (.istore_n 2, 1) := by decide +kernel
theorem dX8_laysGoal_51 : decode cX8_laysGoal 51 = .ok (.iconst 0, 1) := by decide +kernel
theorem dX8_laysGoal_52 : decode cX8_laysGoal 52 = .ok (.istore_n 3, 1) := by decide +kernel
theorem dX8_laysGoal_53 : decode cX8_laysGoal 53 = .ok (.iload_n 3, 1) := by decide +kernel
theorem dX8_laysGoal_54 : decode cX8_laysGoal 54 = .ok (.aload_n 1, 1) := by decide +kernel
theorem dX8_laysGoal_55 : decode cX8_laysGoal 55 = .ok (.bipush 7, 2) := by decide +kernel
theorem dX8_laysGoal_57 : decode cX8_laysGoal 57 = .ok (.iaload, 1) := by decide +kernel
theorem dX8_laysGoal_58 : decode cX8_laysGoal 58 = .ok (.if_icmp .ge 89, 3) := by decide +kernel
theorem dX8_laysGoal_61 : decode cX8_laysGoal 61 = .ok (.iload_n 2, 1) := by decide +kernel
theorem dX8_laysGoal_62 : decode cX8_laysGoal 62 = .ok (.ifCond .eq 85, 3) := by decide +kernel
theorem dX8_laysGoal_65 : decode cX8_laysGoal 65 = .ok (.iconst 0, 1) := by decide +kernel
theorem dX8_laysGoal_66 : decode cX8_laysGoal 66 = .ok (.istore 4, 2) := by decide +kernel
theorem dX8_laysGoal_68 : decode cX8_laysGoal 68 = .ok (.iload 4, 2) := by decide +kernel
theorem dX8_laysGoal_70 : decode cX8_laysGoal 70 = .ok (.aload_n 1, 1) := by decide +kernel
theorem dX8_laysGoal_71 : decode cX8_laysGoal 71 = .ok (.iconst 0, 1) := by decide +kernel
theorem dX8_laysGoal_72 : decode cX8_laysGoal 72 = .ok (.iaload, 1) := by decide +kernel
theorem dX8_laysGoal_73 : decode cX8_laysGoal 73 = .ok (.if_icmp .ge 34, 3) := by decide +kernel
theorem dX8_laysGoal_76 : decode cX8_laysGoal 76 = .ok (.aload_n 0, 1) := by decide +kernel
theorem dX8_laysGoal_77 : decode cX8_laysGoal 77 = .ok (.getfield 26, 3) := by decide +kernel
theorem dX8_laysGoal_80 : decode cX8_laysGoal 80 = .ok (.iload 4, 2) := by decide +kernel
theorem dX8_laysGoal_82 : decode cX8_laysGoal 82 = .ok (.baload, 1) := by decide +kernel
theorem dX8_laysGoal_83 : decode cX8_laysGoal 83 = .ok (.ifCond .ne 18, 3) := by decide +kernel
theorem dX8_laysGoal_86 : decode cX8_laysGoal 86 = .ok (.aload_n 1, 1) := by decide +kernel
theorem dX8_laysGoal_87 : decode cX8_laysGoal 87 = .ok (.iload 4, 2) := by decide +kernel
theorem dX8_laysGoal_89 : decode cX8_laysGoal 89 = .ok (.invokestatic 77, 3) := by decide +kernel
theorem dX8_laysGoal_92 : decode cX8_laysGoal 92 = .ok (.aload_n 1, 1) := by decide +kernel
theorem dX8_laysGoal_93 : decode cX8_laysGoal 93 = .ok (.bipush 108, 2) := by decide +kernel
theorem dX8_laysGoal_95 : decode cX8_laysGoal 95 = .ok (.iload_n 3, 1) := by decide +kernel
theorem dX8_laysGoal_96 : decode cX8_laysGoal 96 = .ok (.iadd, 1) := by decide +kernel
theorem dX8_laysGoal_97 : decode cX8_laysGoal 97 = .ok (.iaload, 1) := by decide +kernel
theorem dX8_laysGoal_98 : decode cX8_laysGoal 98 = .ok (.if_icmp .eq 9, 3) := by decide +kernel
theorem dX8_laysGoal_101 : decode cX8_laysGoal 101 = .ok (.iinc 4 1, 3) := by decide +kernel
theorem dX8_laysGoal_104 : decode cX8_laysGoal 104 = .ok (.goto (-36), 3) := by decide +kernel
theorem dX8_laysGoal_107 : decode cX8_laysGoal 107 = .ok (.iload 4, 2) := by decide +kernel
theorem dX8_laysGoal_109 : decode cX8_laysGoal 109 = .ok (.aload_n 1, 1) := by decide +kernel
theorem dX8_laysGoal_110 : decode cX8_laysGoal 110 = .ok (.iconst 0, 1) := by decide +kernel
theorem dX8_laysGoal_111 : decode cX8_laysGoal 111 = .ok (.iaload, 1) := by decide +kernel
theorem dX8_laysGoal_112 : decode cX8_laysGoal 112 = .ok (.if_icmp .ge 7, 3) := by decide +kernel
theorem dX8_laysGoal_115 : decode cX8_laysGoal 115 = .ok (.iconst 1, 1) := by decide +kernel
theorem dX8_laysGoal_116 : decode cX8_laysGoal 116 = .ok (.goto 4, 3) := by decide +kernel
theorem dX8_laysGoal_119 : decode cX8_laysGoal 119 = .ok (.iconst 0, 1) := by decide +kernel
theorem dX8_laysGoal_120 : decode cX8_laysGoal 120 = .ok (.istore_n 2, 1) := by decide +kernel
theorem dX8_laysGoal_121 : decode cX8_laysGoal 121 = .ok (.iload_n 2, 1) := by decide +kernel
theorem dX8_laysGoal_122 : decode cX8_laysGoal 122 = .ok (.ifCond .eq 19, 3) := by decide +kernel
theorem dX8_laysGoal_125 : decode cX8_laysGoal 125 = .ok (.aload_n 0, 1) := by decide +kernel
theorem dX8_laysGoal_126 : decode cX8_laysGoal 126 = .ok (.getfield 26, 3) := by decide +kernel
theorem dX8_laysGoal_129 : decode cX8_laysGoal 129 = .ok (.iload 4, 2) := by decide +kernel
theorem dX8_laysGoal_131 : decode cX8_laysGoal 131 = .ok (.iconst 1, 1) := by decide +kernel
theorem dX8_laysGoal_132 : decode cX8_laysGoal 132 = .ok (.bastore, 1) := by decide +kernel
theorem dX8_laysGoal_133 : decode cX8_laysGoal 133 = .ok (.aload_n 0, 1) := by decide +kernel
theorem dX8_laysGoal_134 : decode cX8_laysGoal 134 = .ok (.getfield 30, 3) := by decide +kernel
theorem dX8_laysGoal_137 : decode cX8_laysGoal 137 = .ok (.iload_n 3, 1) := by decide +kernel
theorem dX8_laysGoal_138 : decode cX8_laysGoal 138 = .ok (.iload 4, 2) := by decide +kernel
theorem dX8_laysGoal_140 : decode cX8_laysGoal 140 = .ok (.iastore, 1) := by decide +kernel
theorem dX8_laysGoal_141 : decode cX8_laysGoal 141 = .ok (.iinc 3 1, 3) := by decide +kernel
theorem dX8_laysGoal_144 : decode cX8_laysGoal 144 = .ok (.goto (-91), 3) := by decide +kernel
theorem dX8_laysGoal_147 : decode cX8_laysGoal 147 = .ok (.iload_n 2, 1) := by decide +kernel
theorem dX8_laysGoal_148 : decode cX8_laysGoal 148 = .ok (.ireturn, 1) := by decide +kernel
theorem dX8_fewest_0 : decode cX8_fewest 0 = .ok (.aload_n 0, 1) := by decide +kernel
theorem dX8_fewest_1 : decode cX8_fewest 1 = .ok (.aload_n 1, 1) := by decide +kernel
theorem dX8_fewest_2 : decode cX8_fewest 2 = .ok (.invokevirtual 80, 3) := by decide +kernel
theorem dX8_fewest_5 : decode cX8_fewest 5 = .ok (.ifCond .ne 6, 3) := by decide +kernel
theorem dX8_fewest_8 : decode cX8_fewest 8 = .ok (.ldc 69, 2) := by decide +kernel
theorem dX8_fewest_10 : decode cX8_fewest 10 = .ok (.ireturn, 1) := by decide +kernel
theorem dX8_fewest_11 : decode cX8_fewest 11 = .ok (.iconst 0, 1) := by decide +kernel
theorem dX8_fewest_12 : decode cX8_fewest 12 = .ok (.istore_n 2, 1) := by decide +kernel
theorem dX8_fewest_13 : decode cX8_fewest 13 = .ok (.iconst 0, 1) := by decide +kernel
theorem dX8_fewest_14 : decode cX8_fewest 14 = .ok (.istore_n 3, 1) := by decide +kernel
theorem dX8_fewest_15 : decode cX8_fewest 15 = .ok (.iload_n 3, 1) := by decide +kernel
theorem dX8_fewest_16 : decode cX8_fewest 16 = .ok (.aload_n 1, 1) := by decide +kernel
theorem dX8_fewest_17 : decode cX8_fewest 17 = .ok (.bipush 7, 2) := by decide +kernel
theorem dX8_fewest_19 : decode cX8_fewest 19 = .ok (.iaload, 1) := by decide +kernel
theorem dX8_fewest_20 : decode cX8_fewest 20 = .ok (.if_icmp .ge 48, 3) := by decide +kernel
theorem dX8_fewest_23 : decode cX8_fewest 23 = .ok (.iconst 0, 1) := by decide +kernel
theorem dX8_fewest_24 : decode cX8_fewest 24 = .ok (.istore 4, 2) := by decide +kernel
theorem dX8_fewest_26 : decode cX8_fewest 26 = .ok (.iload 4, 2) := by decide +kernel
theorem dX8_fewest_28 : decode cX8_fewest 28 = .ok (.iload_n 3, 1) := by decide +kernel
theorem dX8_fewest_29 : decode cX8_fewest 29 = .ok (.if_icmp .ge 33, 3) := by decide +kernel
theorem dX8_fewest_32 : decode cX8_fewest 32 = .ok (.iload_n 2, 1) := by decide +kernel
theorem dX8_fewest_33 : decode cX8_fewest 33 = .ok (.aload_n 0, 1) := by decide +kernel
theorem dX8_fewest_34 : decode cX8_fewest 34 = .ok (.getfield 30, 3) := by decide +kernel
theorem dX8_fewest_37 : decode cX8_fewest 37 = .ok (.iload 4, 2) := by decide +kernel
theorem dX8_fewest_39 : decode cX8_fewest 39 = .ok (.iaload, 1) := by decide +kernel
theorem dX8_fewest_40 : decode cX8_fewest 40 = .ok (.aload_n 0, 1) := by decide +kernel
theorem dX8_fewest_41 : decode cX8_fewest 41 = .ok (.getfield 30, 3) := by decide +kernel
theorem dX8_fewest_44 : decode cX8_fewest 44 = .ok (.iload_n 3, 1) := by decide +kernel
theorem dX8_fewest_45 : decode cX8_fewest 45 = .ok (.iaload, 1) := by decide +kernel
theorem dX8_fewest_46 : decode cX8_fewest 46 = .ok (.if_icmp .le 7, 3) := by decide +kernel
theorem dX8_fewest_49 : decode cX8_fewest 49 = .ok (.iconst 1, 1) := by decide +kernel
theorem dX8_fewest_50 : decode cX8_fewest 50 = .ok (.goto 4, 3) := by decide +kernel
theorem dX8_fewest_53 : decode cX8_fewest 53 = .ok (.iconst 0, 1) := by decide +kernel
theorem dX8_fewest_54 : decode cX8_fewest 54 = .ok (.iadd, 1) := by decide +kernel
theorem dX8_fewest_55 : decode cX8_fewest 55 = .ok (.istore_n 2, 1) := by decide +kernel
theorem dX8_fewest_56 : decode cX8_fewest 56 = .ok (.iinc 4 1, 3) := by decide +kernel
theorem dX8_fewest_59 : decode cX8_fewest 59 = .ok (.goto (-33), 3) := by decide +kernel
theorem dX8_fewest_62 : decode cX8_fewest 62 = .ok (.iinc 3 1, 3) := by decide +kernel
theorem dX8_fewest_65 : decode cX8_fewest 65 = .ok (.goto (-50), 3) := by decide +kernel
theorem dX8_fewest_68 : decode cX8_fewest 68 = .ok (.iload_n 2, 1) := by decide +kernel
theorem dX8_fewest_69 : decode cX8_fewest 69 = .ok (.ireturn, 1) := by decide +kernel
theorem dX8_logs_0 : decode cX8_logs 0 = .ok (.bipush 31, 2) := by decide +kernel
theorem dX8_logs_2 : decode cX8_logs 2 = .ok (.istore_n 3, 1) := by decide +kernel
theorem dX8_logs_3 : decode cX8_logs 3 = .ok (.iload_n 3, 1) := by decide +kernel
theorem dX8_logs_4 : decode cX8_logs 4 = .ok (.iconst 3, 1) := by decide +kernel
theorem dX8_logs_5 : decode cX8_logs 5 = .ok (.if_icmp .le 23, 3) := by decide +kernel
theorem dX8_logs_8 : decode cX8_logs 8 = .ok (.aload_n 0, 1) := by decide +kernel
theorem dX8_logs_9 : decode cX8_logs 9 = .ok (.bipush 120, 2) := by decide +kernel
theorem dX8_logs_11 : decode cX8_logs 11 = .ok (.iload_n 3, 1) := by decide +kernel
theorem dX8_logs_12 : decode cX8_logs 12 = .ok (.iadd, 1) := by decide +kernel
theorem dX8_logs_13 : decode cX8_logs 13 = .ok (.aload_n 0, 1) := by decide +kernel
theorem dX8_logs_14 : decode cX8_logs 14 = .ok (.bipush 120, 2) := by decide +kernel
theorem dX8_logs_16 : decode cX8_logs 16 = .ok (.iload_n 3, 1) := by decide +kernel
theorem dX8_logs_17 : decode cX8_logs 17 = .ok (.iadd, 1) := by decide +kernel
theorem dX8_logs_18 : decode cX8_logs 18 = .ok (.iconst 4, 1) := by decide +kernel
theorem dX8_logs_19 : decode cX8_logs 19 = .ok (.isub, 1) := by decide +kernel
theorem dX8_logs_20 : decode cX8_logs 20 = .ok (.iaload, 1) := by decide +kernel
theorem dX8_logs_21 : decode cX8_logs 21 = .ok (.iastore, 1) := by decide +kernel
theorem dX8_logs_22 : decode cX8_logs 22 = .ok (.iinc 3 (-1), 3) := by decide +kernel
theorem dX8_logs_25 : decode cX8_logs 25 = .ok (.goto (-22), 3) := by decide +kernel
theorem dX8_logs_28 : decode cX8_logs 28 = .ok (.aload_n 0, 1) := by decide +kernel
theorem dX8_logs_29 : decode cX8_logs 29 = .ok (.bipush 120, 2) := by decide +kernel
theorem dX8_logs_31 : decode cX8_logs 31 = .ok (.aload_n 0, 1) := by decide +kernel
theorem dX8_logs_32 : decode cX8_logs 32 = .ok (.iconst 1, 1) := by decide +kernel
theorem dX8_logs_33 : decode cX8_logs 33 = .ok (.iaload, 1) := by decide +kernel
theorem dX8_logs_34 : decode cX8_logs 34 = .ok (.iastore, 1) := by decide +kernel
theorem dX8_logs_35 : decode cX8_logs 35 = .ok (.aload_n 0, 1) := by decide +kernel
theorem dX8_logs_36 : decode cX8_logs 36 = .ok (.bipush 121, 2) := by decide +kernel
theorem dX8_logs_38 : decode cX8_logs 38 = .ok (.aload_n 0, 1) := by decide +kernel
theorem dX8_logs_39 : decode cX8_logs 39 = .ok (.iload_n 1, 1) := by decide +kernel
theorem dX8_logs_40 : decode cX8_logs 40 = .ok (.iconst 0, 1) := by decide +kernel
theorem dX8_logs_41 : decode cX8_logs 41 = .ok (.invokestatic 51, 3) := by decide +kernel
theorem dX8_logs_44 : decode cX8_logs 44 = .ok (.iastore, 1) := by decide +kernel
theorem dX8_logs_45 : decode cX8_logs 45 = .ok (.aload_n 0, 1) := by decide +kernel
theorem dX8_logs_46 : decode cX8_logs 46 = .ok (.bipush 122, 2) := by decide +kernel
theorem dX8_logs_48 : decode cX8_logs 48 = .ok (.aload_n 0, 1) := by decide +kernel
theorem dX8_logs_49 : decode cX8_logs 49 = .ok (.iload_n 1, 1) := by decide +kernel
theorem dX8_logs_50 : decode cX8_logs 50 = .ok (.iconst 1, 1) := by decide +kernel
theorem dX8_logs_51 : decode cX8_logs 51 = .ok (.iadd, 1) := by decide +kernel
theorem dX8_logs_52 : decode cX8_logs 52 = .ok (.iconst 0, 1) := by decide +kernel
theorem dX8_logs_53 : decode cX8_logs 53 = .ok (.invokestatic 51, 3) := by decide +kernel
theorem dX8_logs_56 : decode cX8_logs 56 = .ok (.iastore, 1) := by decide +kernel
theorem dX8_logs_57 : decode cX8_logs 57 = .ok (.aload_n 0, 1) := by decide +kernel
theorem dX8_logs_58 : decode cX8_logs 58 = .ok (.bipush 123, 2) := by decide +kernel
theorem dX8_logs_60 : decode cX8_logs 60 = .ok (.iload_n 2, 1) := by decide +kernel
theorem dX8_logs_61 : decode cX8_logs 61 = .ok (.iastore, 1) := by decide +kernel
theorem dX8_logs_62 : decode cX8_logs 62 = .ok (.aload_n 0, 1) := by decide +kernel
theorem dX8_logs_63 : decode cX8_logs 63 = .ok (.bipush 11, 2) := by decide +kernel
theorem dX8_logs_65 : decode cX8_logs 65 = .ok (.dup2, 1) := by decide +kernel
theorem dX8_logs_66 : decode cX8_logs 66 = .ok (.iaload, 1) := by decide +kernel
theorem dX8_logs_67 : decode cX8_logs 67 = .ok (.aload_n 0, 1) := by decide +kernel
theorem dX8_logs_68 : decode cX8_logs 68 = .ok (.bipush 11, 2) := by decide +kernel
theorem dX8_logs_70 : decode cX8_logs 70 = .ok (.iaload, 1) := by decide +kernel
theorem dX8_logs_71 : decode cX8_logs 71 = .ok (.bipush 8, 2) := by decide +kernel
theorem dX8_logs_73 : decode cX8_logs 73 = .ok (.if_icmp .ge 7, 3) := by decide +kernel
theorem dX8_logs_76 : decode cX8_logs 76 = .ok (.iconst 1, 1) := by decide +kernel
theorem dX8_logs_77 : decode cX8_logs 77 = .ok (.goto 4, 3) := by decide +kernel
theorem dX8_logs_80 : decode cX8_logs 80 = .ok (.iconst 0, 1) := by decide +kernel
theorem dX8_logs_81 : decode cX8_logs 81 = .ok (.iadd, 1) := by decide +kernel
theorem dX8_logs_82 : decode cX8_logs 82 = .ok (.iastore, 1) := by decide +kernel
theorem dX8_logs_83 : decode cX8_logs 83 = .ok (.return_, 1) := by decide +kernel
theorem dX8_tangles_0 : decode cX8_tangles 0 = .ok (.aload_n 0, 1) := by decide +kernel
theorem dX8_tangles_1 : decode cX8_tangles 1 = .ok (.iload_n 1, 1) := by decide +kernel
theorem dX8_tangles_2 : decode cX8_tangles 2 = .ok (.iconst 3, 1) := by decide +kernel
theorem dX8_tangles_3 : decode cX8_tangles 3 = .ok (.aload_n 0, 1) := by decide +kernel
theorem dX8_tangles_4 : decode cX8_tangles 4 = .ok (.iload_n 1, 1) := by decide +kernel
theorem dX8_tangles_5 : decode cX8_tangles 5 = .ok (.iconst 1, 1) := by decide +kernel
theorem dX8_tangles_6 : decode cX8_tangles 6 = .ok (.iadd, 1) := by decide +kernel
theorem dX8_tangles_7 : decode cX8_tangles 7 = .ok (.iconst 0, 1) := by decide +kernel
theorem dX8_tangles_8 : decode cX8_tangles 8 = .ok (.invokestatic 51, 3) := by decide +kernel
theorem dX8_tangles_11 : decode cX8_tangles 11 = .ok (.invokestatic 84, 3) := by decide +kernel
theorem dX8_tangles_14 : decode cX8_tangles 14 = .ok (.aload_n 0, 1) := by decide +kernel
theorem dX8_tangles_15 : decode cX8_tangles 15 = .ok (.iload_n 1, 1) := by decide +kernel
theorem dX8_tangles_16 : decode cX8_tangles 16 = .ok (.iconst 1, 1) := by decide +kernel
theorem dX8_tangles_17 : decode cX8_tangles 17 = .ok (.iadd, 1) := by decide +kernel
theorem dX8_tangles_18 : decode cX8_tangles 18 = .ok (.iconst 3, 1) := by decide +kernel
theorem dX8_tangles_19 : decode cX8_tangles 19 = .ok (.aload_n 0, 1) := by decide +kernel
theorem dX8_tangles_20 : decode cX8_tangles 20 = .ok (.iload_n 1, 1) := by decide +kernel
theorem dX8_tangles_21 : decode cX8_tangles 21 = .ok (.iconst 0, 1) := by decide +kernel
theorem dX8_tangles_22 : decode cX8_tangles 22 = .ok (.invokestatic 51, 3) := by decide +kernel
theorem dX8_tangles_25 : decode cX8_tangles 25 = .ok (.invokestatic 84, 3) := by decide +kernel
theorem dX8_tangles_28 : decode cX8_tangles 28 = .ok (.aload_n 0, 1) := by decide +kernel
theorem dX8_tangles_29 : decode cX8_tangles 29 = .ok (.iload_n 1, 1) := by decide +kernel
theorem dX8_tangles_30 : decode cX8_tangles 30 = .ok (.iconst 4, 1) := by decide +kernel
theorem dX8_tangles_31 : decode cX8_tangles 31 = .ok (.aload_n 0, 1) := by decide +kernel
theorem dX8_tangles_32 : decode cX8_tangles 32 = .ok (.iconst 5, 1) := by decide +kernel
theorem dX8_tangles_33 : decode cX8_tangles 33 = .ok (.iaload, 1) := by decide +kernel
theorem dX8_tangles_34 : decode cX8_tangles 34 = .ok (.invokestatic 84, 3) := by decide +kernel
theorem dX8_tangles_37 : decode cX8_tangles 37 = .ok (.aload_n 0, 1) := by decide +kernel
theorem dX8_tangles_38 : decode cX8_tangles 38 = .ok (.iload_n 1, 1) := by decide +kernel
theorem dX8_tangles_39 : decode cX8_tangles 39 = .ok (.iconst 1, 1) := by decide +kernel
theorem dX8_tangles_40 : decode cX8_tangles 40 = .ok (.iadd, 1) := by decide +kernel
theorem dX8_tangles_41 : decode cX8_tangles 41 = .ok (.iconst 4, 1) := by decide +kernel
theorem dX8_tangles_42 : decode cX8_tangles 42 = .ok (.aload_n 0, 1) := by decide +kernel
theorem dX8_tangles_43 : decode cX8_tangles 43 = .ok (.iconst 5, 1) := by decide +kernel
theorem dX8_tangles_44 : decode cX8_tangles 44 = .ok (.iaload, 1) := by decide +kernel
theorem dX8_tangles_45 : decode cX8_tangles 45 = .ok (.invokestatic 84, 3) := by decide +kernel
theorem dX8_tangles_48 : decode cX8_tangles 48 = .ok (.aload_n 0, 1) := by decide +kernel
theorem dX8_tangles_49 : decode cX8_tangles 49 = .ok (.bipush 9, 2) := by decide +kernel
theorem dX8_tangles_51 : decode cX8_tangles 51 = .ok (.dup2, 1) := by decide +kernel
theorem dX8_tangles_52 : decode cX8_tangles 52 = .ok (.iaload, 1) := by decide +kernel
theorem dX8_tangles_53 : decode cX8_tangles 53 = .ok (.iconst 1, 1) := by decide +kernel
theorem dX8_tangles_54 : decode cX8_tangles 54 = .ok (.iadd, 1) := by decide +kernel
theorem dX8_tangles_55 : decode cX8_tangles 55 = .ok (.iastore, 1) := by decide +kernel
theorem dX8_tangles_56 : decode cX8_tangles 56 = .ok (.aload_n 0, 1) := by decide +kernel
theorem dX8_tangles_57 : decode cX8_tangles 57 = .ok (.iload_n 1, 1) := by decide +kernel
theorem dX8_tangles_58 : decode cX8_tangles 58 = .ok (.iload_n 2, 1) := by decide +kernel
theorem dX8_tangles_59 : decode cX8_tangles 59 = .ok (.invokestatic 88, 3) := by decide +kernel
theorem dX8_tangles_62 : decode cX8_tangles 62 = .ok (.return_, 1) := by decide +kernel
theorem dX8_wouldTangle_0 : decode cX8_wouldTangle 0 = .ok (.aload_n 0, 1) := by decide +kernel
theorem dX8_wouldTangle_1 : decode cX8_wouldTangle 1 = .ok (.iload_n 1, 1) := by decide +kernel
theorem dX8_wouldTangle_2 : decode cX8_wouldTangle 2 = .ok (.invokestatic 55, 3) := by decide +kernel
theorem dX8_wouldTangle_5 : decode cX8_wouldTangle 5 = .ok (.istore_n 2, 1) := by decide +kernel
theorem dX8_wouldTangle_6 : decode cX8_wouldTangle 6 = .ok (.bipush 10, 2) := by decide +kernel
theorem dX8_wouldTangle_8 : decode cX8_wouldTangle 8 = .ok (.aload_n 0, 1) := by decide +kernel
theorem dX8_wouldTangle_9 : decode cX8_wouldTangle 9 = .ok (.iload_n 1, 1) := by decide +kernel
theorem dX8_wouldTangle_10 : decode cX8_wouldTangle 10 = .ok (.iconst 1, 1) := by decide +kernel
theorem dX8_wouldTangle_11 : decode cX8_wouldTangle 11 = .ok (.iadd, 1) := by decide +kernel
theorem dX8_wouldTangle_12 : decode cX8_wouldTangle 12 = .ok (.invokestatic 55, 3) := by decide +kernel
theorem dX8_wouldTangle_15 : decode cX8_wouldTangle 15 = .ok (.iadd, 1) := by decide +kernel
theorem dX8_wouldTangle_16 : decode cX8_wouldTangle 16 = .ok (.istore_n 3, 1) := by decide +kernel
theorem dX8_wouldTangle_17 : decode cX8_wouldTangle 17 = .ok (.bipush 10, 2) := by decide +kernel
theorem dX8_wouldTangle_19 : decode cX8_wouldTangle 19 = .ok (.aload_n 0, 1) := by decide +kernel
theorem dX8_wouldTangle_20 : decode cX8_wouldTangle 20 = .ok (.iload_n 1, 1) := by decide +kernel
theorem dX8_wouldTangle_21 : decode cX8_wouldTangle 21 = .ok (.invokestatic 55, 3) := by decide +kernel
theorem dX8_wouldTangle_24 : decode cX8_wouldTangle 24 = .ok (.iadd, 1) := by decide +kernel
theorem dX8_wouldTangle_25 : decode cX8_wouldTangle 25 = .ok (.istore 4, 2) := by decide +kernel
theorem dX8_wouldTangle_27 : decode cX8_wouldTangle 27 = .ok (.aload_n 0, 1) := by decide +kernel
theorem dX8_wouldTangle_28 : decode cX8_wouldTangle 28 = .ok (.iload_n 1, 1) := by decide +kernel
theorem dX8_wouldTangle_29 : decode cX8_wouldTangle 29 = .ok (.iconst 1, 1) := by decide +kernel
theorem dX8_wouldTangle_30 : decode cX8_wouldTangle 30 = .ok (.iadd, 1) := by decide +kernel
theorem dX8_wouldTangle_31 : decode cX8_wouldTangle 31 = .ok (.invokestatic 55, 3) := by decide +kernel
theorem dX8_wouldTangle_34 : decode cX8_wouldTangle 34 = .ok (.istore 5, 2) := by decide +kernel
theorem dX8_wouldTangle_36 : decode cX8_wouldTangle 36 = .ok (.iload_n 2, 1) := by decide +kernel
theorem dX8_wouldTangle_37 : decode cX8_wouldTangle 37 = .ok (.iload_n 3, 1) := by decide +kernel
theorem dX8_wouldTangle_38 : decode cX8_wouldTangle 38 = .ok (.if_icmp .gt 10, 3) := by decide +kernel
theorem dX8_wouldTangle_41 : decode cX8_wouldTangle 41 = .ok (.iload 4, 2) := by decide +kernel
theorem dX8_wouldTangle_43 : decode cX8_wouldTangle 43 = .ok (.iload 5, 2) := by decide +kernel
theorem dX8_wouldTangle_45 : decode cX8_wouldTangle 45 = .ok (.if_icmp .le 15, 3) := by decide +kernel
theorem dX8_wouldTangle_48 : decode cX8_wouldTangle 48 = .ok (.iload_n 3, 1) := by decide +kernel
theorem dX8_wouldTangle_49 : decode cX8_wouldTangle 49 = .ok (.iload_n 2, 1) := by decide +kernel
theorem dX8_wouldTangle_50 : decode cX8_wouldTangle 50 = .ok (.if_icmp .gt 14, 3) := by decide +kernel
theorem dX8_wouldTangle_53 : decode cX8_wouldTangle 53 = .ok (.iload 5, 2) := by decide +kernel
theorem dX8_wouldTangle_55 : decode cX8_wouldTangle 55 = .ok (.iload 4, 2) := by decide +kernel
theorem dX8_wouldTangle_57 : decode cX8_wouldTangle 57 = .ok (.if_icmp .gt 7, 3) := by decide +kernel
theorem dX8_wouldTangle_60 : decode cX8_wouldTangle 60 = .ok (.iconst 1, 1) := by decide +kernel
theorem dX8_wouldTangle_61 : decode cX8_wouldTangle 61 = .ok (.goto 4, 3) := by decide +kernel
theorem dX8_wouldTangle_64 : decode cX8_wouldTangle 64 = .ok (.iconst 0, 1) := by decide +kernel
theorem dX8_wouldTangle_65 : decode cX8_wouldTangle 65 = .ok (.ireturn, 1) := by decide +kernel
theorem dX8_swaps_0 : decode cX8_swaps 0 = .ok (.iconst 0, 1) := by decide +kernel
theorem dX8_swaps_1 : decode cX8_swaps 1 = .ok (.istore_n 2, 1) := by decide +kernel
theorem dX8_swaps_2 : decode cX8_swaps 2 = .ok (.iload_n 2, 1) := by decide +kernel
theorem dX8_swaps_3 : decode cX8_swaps 3 = .ok (.bipush 6, 2) := by decide +kernel
theorem dX8_swaps_5 : decode cX8_swaps 5 = .ok (.if_icmp .ge 39, 3) := by decide +kernel
theorem dX8_swaps_8 : decode cX8_swaps 8 = .ok (.aload_n 0, 1) := by decide +kernel
theorem dX8_swaps_9 : decode cX8_swaps 9 = .ok (.iload_n 1, 1) := by decide +kernel
theorem dX8_swaps_10 : decode cX8_swaps 10 = .ok (.iload_n 2, 1) := by decide +kernel
theorem dX8_swaps_11 : decode cX8_swaps 11 = .ok (.invokestatic 51, 3) := by decide +kernel
theorem dX8_swaps_14 : decode cX8_swaps 14 = .ok (.istore_n 3, 1) := by decide +kernel
theorem dX8_swaps_15 : decode cX8_swaps 15 = .ok (.aload_n 0, 1) := by decide +kernel
theorem dX8_swaps_16 : decode cX8_swaps 16 = .ok (.iload_n 1, 1) := by decide +kernel
theorem dX8_swaps_17 : decode cX8_swaps 17 = .ok (.iload_n 2, 1) := by decide +kernel
theorem dX8_swaps_18 : decode cX8_swaps 18 = .ok (.aload_n 0, 1) := by decide +kernel
theorem dX8_swaps_19 : decode cX8_swaps 19 = .ok (.iload_n 1, 1) := by decide +kernel
theorem dX8_swaps_20 : decode cX8_swaps 20 = .ok (.iconst 1, 1) := by decide +kernel
theorem dX8_swaps_21 : decode cX8_swaps 21 = .ok (.iadd, 1) := by decide +kernel
theorem dX8_swaps_22 : decode cX8_swaps 22 = .ok (.iload_n 2, 1) := by decide +kernel
theorem dX8_swaps_23 : decode cX8_swaps 23 = .ok (.invokestatic 51, 3) := by decide +kernel
theorem dX8_swaps_26 : decode cX8_swaps 26 = .ok (.invokestatic 84, 3) := by decide +kernel
theorem dX8_swaps_29 : decode cX8_swaps 29 = .ok (.aload_n 0, 1) := by decide +kernel
theorem dX8_swaps_30 : decode cX8_swaps 30 = .ok (.iload_n 1, 1) := by decide +kernel
theorem dX8_swaps_31 : decode cX8_swaps 31 = .ok (.iconst 1, 1) := by decide +kernel
theorem dX8_swaps_32 : decode cX8_swaps 32 = .ok (.iadd, 1) := by decide +kernel
theorem dX8_swaps_33 : decode cX8_swaps 33 = .ok (.iload_n 2, 1) := by decide +kernel
theorem dX8_swaps_34 : decode cX8_swaps 34 = .ok (.iload_n 3, 1) := by decide +kernel
theorem dX8_swaps_35 : decode cX8_swaps 35 = .ok (.invokestatic 84, 3) := by decide +kernel
theorem dX8_swaps_38 : decode cX8_swaps 38 = .ok (.iinc 2 1, 3) := by decide +kernel
theorem dX8_swaps_41 : decode cX8_swaps 41 = .ok (.goto (-39), 3) := by decide +kernel
theorem dX8_swaps_44 : decode cX8_swaps 44 = .ok (.return_, 1) := by decide +kernel
theorem dX8_relation_0 : decode cX8_relation 0 = .ok (.aload_n 0, 1) := by decide +kernel
theorem dX8_relation_1 : decode cX8_relation 1 = .ok (.iload_n 1, 1) := by decide +kernel
theorem dX8_relation_2 : decode cX8_relation 2 = .ok (.invokestatic 63, 3) := by decide +kernel
theorem dX8_relation_5 : decode cX8_relation 5 = .ok (.aload_n 0, 1) := by decide +kernel
theorem dX8_relation_6 : decode cX8_relation 6 = .ok (.iload_n 1, 1) := by decide +kernel
theorem dX8_relation_7 : decode cX8_relation 7 = .ok (.iconst 1, 1) := by decide +kernel
theorem dX8_relation_8 : decode cX8_relation 8 = .ok (.iadd, 1) := by decide +kernel
theorem dX8_relation_9 : decode cX8_relation 9 = .ok (.invokestatic 63, 3) := by decide +kernel
theorem dX8_relation_12 : decode cX8_relation 12 = .ok (.isub, 1) := by decide +kernel
theorem dX8_relation_13 : decode cX8_relation 13 = .ok (.istore_n 2, 1) := by decide +kernel
theorem dX8_relation_14 : decode cX8_relation 14 = .ok (.iload_n 2, 1) := by decide +kernel
theorem dX8_relation_15 : decode cX8_relation 15 = .ok (.ifCond .ge 7, 3) := by decide +kernel
theorem dX8_relation_18 : decode cX8_relation 18 = .ok (.iconst (-1), 1) := by decide +kernel
theorem dX8_relation_19 : decode cX8_relation 19 = .ok (.goto 12, 3) := by decide +kernel
theorem dX8_relation_22 : decode cX8_relation 22 = .ok (.iload_n 2, 1) := by decide +kernel
theorem dX8_relation_23 : decode cX8_relation 23 = .ok (.ifCond .le 7, 3) := by decide +kernel
theorem dX8_relation_26 : decode cX8_relation 26 = .ok (.iconst 1, 1) := by decide +kernel
theorem dX8_relation_27 : decode cX8_relation 27 = .ok (.goto 4, 3) := by decide +kernel
theorem dX8_relation_30 : decode cX8_relation 30 = .ok (.iconst 0, 1) := by decide +kernel
theorem dX8_relation_31 : decode cX8_relation 31 = .ok (.ireturn, 1) := by decide +kernel
theorem dX8_blows_0 : decode cX8_blows 0 = .ok (.iconst 0, 1) := by decide +kernel
theorem dX8_blows_1 : decode cX8_blows 1 = .ok (.istore 4, 2) := by decide +kernel
theorem dX8_blows_3 : decode cX8_blows 3 = .ok (.iload 4, 2) := by decide +kernel
theorem dX8_blows_5 : decode cX8_blows 5 = .ok (.aload_n 1, 1) := by decide +kernel
theorem dX8_blows_6 : decode cX8_blows 6 = .ok (.iconst 0, 1) := by decide +kernel
theorem dX8_blows_7 : decode cX8_blows 7 = .ok (.iaload, 1) := by decide +kernel
theorem dX8_blows_8 : decode cX8_blows 8 = .ok (.iconst 1, 1) := by decide +kernel
theorem dX8_blows_9 : decode cX8_blows 9 = .ok (.isub, 1) := by decide +kernel
theorem dX8_blows_10 : decode cX8_blows 10 = .ok (.if_icmp .ge 22, 3) := by decide +kernel
theorem dX8_blows_13 : decode cX8_blows 13 = .ok (.aload_n 0, 1) := by decide +kernel
theorem dX8_blows_14 : decode cX8_blows 14 = .ok (.getfield 33, 3) := by decide +kernel
theorem dX8_blows_17 : decode cX8_blows 17 = .ok (.iload 4, 2) := by decide +kernel
theorem dX8_blows_19 : decode cX8_blows 19 = .ok (.aload_n 1, 1) := by decide +kernel
theorem dX8_blows_20 : decode cX8_blows 20 = .ok (.iload 4, 2) := by decide +kernel
theorem dX8_blows_22 : decode cX8_blows 22 = .ok (.invokestatic 92, 3) := by decide +kernel
theorem dX8_blows_25 : decode cX8_blows 25 = .ok (.iastore, 1) := by decide +kernel
theorem dX8_blows_26 : decode cX8_blows 26 = .ok (.iinc 4 1, 3) := by decide +kernel
theorem dX8_blows_29 : decode cX8_blows 29 = .ok (.goto (-26), 3) := by decide +kernel
theorem dX8_blows_32 : decode cX8_blows 32 = .ok (.aload_n 1, 1) := by decide +kernel
theorem dX8_blows_33 : decode cX8_blows 33 = .ok (.iconst 2, 1) := by decide +kernel
theorem dX8_blows_34 : decode cX8_blows 34 = .ok (.iload_n 2, 1) := by decide +kernel
theorem dX8_blows_35 : decode cX8_blows 35 = .ok (.iastore, 1) := by decide +kernel
theorem dX8_blows_36 : decode cX8_blows 36 = .ok (.aload_n 1, 1) := by decide +kernel
theorem dX8_blows_37 : decode cX8_blows 37 = .ok (.iconst 3, 1) := by decide +kernel
theorem dX8_blows_38 : decode cX8_blows 38 = .ok (.iload_n 3, 1) := by decide +kernel
theorem dX8_blows_39 : decode cX8_blows 39 = .ok (.iastore, 1) := by decide +kernel
theorem dX8_blows_40 : decode cX8_blows 40 = .ok (.iconst 0, 1) := by decide +kernel
theorem dX8_blows_41 : decode cX8_blows 41 = .ok (.istore 4, 2) := by decide +kernel
theorem dX8_blows_43 : decode cX8_blows 43 = .ok (.iconst 0, 1) := by decide +kernel
theorem dX8_blows_44 : decode cX8_blows 44 = .ok (.istore 5, 2) := by decide +kernel
theorem dX8_blows_46 : decode cX8_blows 46 = .ok (.iload 5, 2) := by decide +kernel
theorem dX8_blows_48 : decode cX8_blows 48 = .ok (.aload_n 1, 1) := by decide +kernel
theorem dX8_blows_49 : decode cX8_blows 49 = .ok (.iconst 0, 1) := by decide +kernel
theorem dX8_blows_50 : decode cX8_blows 50 = .ok (.iaload, 1) := by decide +kernel
theorem dX8_blows_51 : decode cX8_blows 51 = .ok (.iconst 1, 1) := by decide +kernel
theorem dX8_blows_52 : decode cX8_blows 52 = .ok (.isub, 1) := by decide +kernel
theorem dX8_blows_53 : decode cX8_blows 53 = .ok (.if_icmp .ge 55, 3) := by decide +kernel
theorem dX8_blows_56 : decode cX8_blows 56 = .ok (.aload_n 1, 1) := by decide +kernel
theorem dX8_blows_57 : decode cX8_blows 57 = .ok (.iload 5, 2) := by decide +kernel
theorem dX8_blows_59 : decode cX8_blows 59 = .ok (.invokestatic 59, 3) := by decide +kernel
theorem dX8_blows_62 : decode cX8_blows 62 = .ok (.ifCond .ne 40, 3) := by decide +kernel
theorem dX8_blows_65 : decode cX8_blows 65 = .ok (.aload_n 1, 1) := by decide +kernel
theorem dX8_blows_66 : decode cX8_blows 66 = .ok (.iload 5, 2) := by decide +kernel
theorem dX8_blows_68 : decode cX8_blows 68 = .ok (.iconst 1, 1) := by decide +kernel
theorem dX8_blows_69 : decode cX8_blows 69 = .ok (.iadd, 1) := by decide +kernel
theorem dX8_blows_70 : decode cX8_blows 70 = .ok (.invokestatic 59, 3) := by decide +kernel
theorem dX8_blows_73 : decode cX8_blows 73 = .ok (.ifCond .ne 29, 3) := by decide +kernel
theorem dX8_blows_76 : decode cX8_blows 76 = .ok (.aload_n 1, 1) := by decide +kernel
theorem dX8_blows_77 : decode cX8_blows 77 = .ok (.iload 5, 2) := by decide +kernel
theorem dX8_blows_79 : decode cX8_blows 79 = .ok (.invokestatic 92, 3) := by decide +kernel
theorem dX8_blows_82 : decode cX8_blows 82 = .ok (.aload_n 0, 1) := by decide +kernel
theorem dX8_blows_83 : decode cX8_blows 83 = .ok (.getfield 33, 3) := by decide +kernel
theorem dX8_blows_86 : decode cX8_blows 86 = .ok (.iload 5, 2) := by decide +kernel
theorem dX8_blows_88 : decode cX8_blows 88 = .ok (.iaload, 1) := by decide +kernel
theorem dX8_blows_89 : decode cX8_blows 89 = .ok (.if_icmp .eq 13, 3) := by decide +kernel
theorem dX8_blows_92 : decode cX8_blows 92 = .ok (.aload_n 1, 1) := by decide +kernel
theorem dX8_blows_93 : decode cX8_blows 93 = .ok (.iload 5, 2) := by decide +kernel
theorem dX8_blows_95 : decode cX8_blows 95 = .ok (.iconst 0, 1) := by decide +kernel
theorem dX8_blows_96 : decode cX8_blows 96 = .ok (.invokestatic 95, 3) := by decide +kernel
theorem dX8_blows_99 : decode cX8_blows 99 = .ok (.iinc 4 1, 3) := by decide +kernel
theorem dX8_blows_102 : decode cX8_blows 102 = .ok (.iinc 5 1, 3) := by decide +kernel
theorem dX8_blows_105 : decode cX8_blows 105 = .ok (.goto (-59), 3) := by decide +kernel
theorem dX8_blows_108 : decode cX8_blows 108 = .ok (.iload 4, 2) := by decide +kernel
theorem dX8_blows_110 : decode cX8_blows 110 = .ok (.ireturn, 1) := by decide +kernel
theorem dX8_dropsTurn_0 : decode cX8_dropsTurn 0 = .ok (.aload_n 0, 1) := by decide +kernel
theorem dX8_dropsTurn_1 : decode cX8_dropsTurn 1 = .ok (.bipush 6, 2) := by decide +kernel
theorem dX8_dropsTurn_3 : decode cX8_dropsTurn 3 = .ok (.dup2, 1) := by decide +kernel
theorem dX8_dropsTurn_4 : decode cX8_dropsTurn 4 = .ok (.iaload, 1) := by decide +kernel
theorem dX8_dropsTurn_5 : decode cX8_dropsTurn 5 = .ok (.iconst 1, 1) := by decide +kernel
theorem dX8_dropsTurn_6 : decode cX8_dropsTurn 6 = .ok (.isub, 1) := by decide +kernel
theorem dX8_dropsTurn_7 : decode cX8_dropsTurn 7 = .ok (.iastore, 1) := by decide +kernel
theorem dX8_dropsTurn_8 : decode cX8_dropsTurn 8 = .ok (.bipush 84, 2) := by decide +kernel
theorem dX8_dropsTurn_10 : decode cX8_dropsTurn 10 = .ok (.iconst 3, 1) := by decide +kernel
theorem dX8_dropsTurn_11 : decode cX8_dropsTurn 11 = .ok (.iload_n 1, 1) := by decide +kernel
theorem dX8_dropsTurn_12 : decode cX8_dropsTurn 12 = .ok (.imul, 1) := by decide +kernel
theorem dX8_dropsTurn_13 : decode cX8_dropsTurn 13 = .ok (.iadd, 1) := by decide +kernel
theorem dX8_dropsTurn_14 : decode cX8_dropsTurn 14 = .ok (.istore_n 2, 1) := by decide +kernel
theorem dX8_dropsTurn_15 : decode cX8_dropsTurn 15 = .ok (.iload_n 2, 1) := by decide +kernel
theorem dX8_dropsTurn_16 : decode cX8_dropsTurn 16 = .ok (.bipush 84, 2) := by decide +kernel
theorem dX8_dropsTurn_18 : decode cX8_dropsTurn 18 = .ok (.iconst 3, 1) := by decide +kernel
theorem dX8_dropsTurn_19 : decode cX8_dropsTurn 19 = .ok (.aload_n 0, 1) := by decide +kernel
theorem dX8_dropsTurn_20 : decode cX8_dropsTurn 20 = .ok (.bipush 6, 2) := by decide +kernel
theorem dX8_dropsTurn_22 : decode cX8_dropsTurn 22 = .ok (.iaload, 1) := by decide +kernel
theorem dX8_dropsTurn_23 : decode cX8_dropsTurn 23 = .ok (.imul, 1) := by decide +kernel
theorem dX8_dropsTurn_24 : decode cX8_dropsTurn 24 = .ok (.iadd, 1) := by decide +kernel
theorem dX8_dropsTurn_25 : decode cX8_dropsTurn 25 = .ok (.if_icmp .ge 17, 3) := by decide +kernel
theorem dX8_dropsTurn_28 : decode cX8_dropsTurn 28 = .ok (.aload_n 0, 1) := by decide +kernel
theorem dX8_dropsTurn_29 : decode cX8_dropsTurn 29 = .ok (.iload_n 2, 1) := by decide +kernel
theorem dX8_dropsTurn_30 : decode cX8_dropsTurn 30 = .ok (.aload_n 0, 1) := by decide +kernel
theorem dX8_dropsTurn_31 : decode cX8_dropsTurn 31 = .ok (.iload_n 2, 1) := by decide +kernel
theorem dX8_dropsTurn_32 : decode cX8_dropsTurn 32 = .ok (.iconst 3, 1) := by decide +kernel
theorem dX8_dropsTurn_33 : decode cX8_dropsTurn 33 = .ok (.iadd, 1) := by decide +kernel
theorem dX8_dropsTurn_34 : decode cX8_dropsTurn 34 = .ok (.iaload, 1) := by decide +kernel
theorem dX8_dropsTurn_35 : decode cX8_dropsTurn 35 = .ok (.iastore, 1) := by decide +kernel
theorem dX8_dropsTurn_36 : decode cX8_dropsTurn 36 = .ok (.iinc 2 1, 3) := by decide +kernel
theorem dX8_dropsTurn_39 : decode cX8_dropsTurn 39 = .ok (.goto (-24), 3) := by decide +kernel
theorem dX8_dropsTurn_42 : decode cX8_dropsTurn 42 = .ok (.iconst 0, 1) := by decide +kernel
theorem dX8_dropsTurn_43 : decode cX8_dropsTurn 43 = .ok (.istore_n 2, 1) := by decide +kernel
theorem dX8_dropsTurn_44 : decode cX8_dropsTurn 44 = .ok (.iload_n 2, 1) := by decide +kernel
theorem dX8_dropsTurn_45 : decode cX8_dropsTurn 45 = .ok (.iconst 3, 1) := by decide +kernel
theorem dX8_dropsTurn_46 : decode cX8_dropsTurn 46 = .ok (.if_icmp .ge 23, 3) := by decide +kernel
theorem dX8_dropsTurn_49 : decode cX8_dropsTurn 49 = .ok (.aload_n 0, 1) := by decide +kernel
theorem dX8_dropsTurn_50 : decode cX8_dropsTurn 50 = .ok (.bipush 84, 2) := by decide +kernel
theorem dX8_dropsTurn_52 : decode cX8_dropsTurn 52 = .ok (.iconst 3, 1) := by decide +kernel
theorem dX8_dropsTurn_53 : decode cX8_dropsTurn 53 = .ok (.aload_n 0, 1) := by decide +kernel
theorem dX8_dropsTurn_54 : decode cX8_dropsTurn 54 = .ok (.bipush 6, 2) := by decide +kernel
theorem dX8_dropsTurn_56 : decode cX8_dropsTurn 56 = .ok (.iaload, 1) := by decide +kernel
theorem dX8_dropsTurn_57 : decode cX8_dropsTurn 57 = .ok (.imul, 1) := by decide +kernel
theorem dX8_dropsTurn_58 : decode cX8_dropsTurn 58 = .ok (.iadd, 1) := by decide +kernel
theorem dX8_dropsTurn_59 : decode cX8_dropsTurn 59 = .ok (.iload_n 2, 1) := by decide +kernel
theorem dX8_dropsTurn_60 : decode cX8_dropsTurn 60 = .ok (.iadd, 1) := by decide +kernel
theorem dX8_dropsTurn_61 : decode cX8_dropsTurn 61 = .ok (.iconst 0, 1) := by decide +kernel
theorem dX8_dropsTurn_62 : decode cX8_dropsTurn 62 = .ok (.iastore, 1) := by decide +kernel
theorem dX8_dropsTurn_63 : decode cX8_dropsTurn 63 = .ok (.iinc 2 1, 3) := by decide +kernel
theorem dX8_dropsTurn_66 : decode cX8_dropsTurn 66 = .ok (.goto (-22), 3) := by decide +kernel
theorem dX8_dropsTurn_69 : decode cX8_dropsTurn 69 = .ok (.return_, 1) := by decide +kernel
theorem dX8_minute_0 : decode cX8_minute 0 = .ok (.aload_n 1, 1) := by decide +kernel
theorem dX8_minute_1 : decode cX8_minute 1 = .ok (.iconst 1, 1) := by decide +kernel
theorem dX8_minute_2 : decode cX8_minute 2 = .ok (.dup2, 1) := by decide +kernel
theorem dX8_minute_3 : decode cX8_minute 3 = .ok (.iaload, 1) := by decide +kernel
theorem dX8_minute_4 : decode cX8_minute 4 = .ok (.iconst 1, 1) := by decide +kernel
theorem dX8_minute_5 : decode cX8_minute 5 = .ok (.iadd, 1) := by decide +kernel
theorem dX8_minute_6 : decode cX8_minute 6 = .ok (.iastore, 1) := by decide +kernel
theorem dX8_minute_7 : decode cX8_minute 7 = .ok (.iconst 0, 1) := by decide +kernel
theorem dX8_minute_8 : decode cX8_minute 8 = .ok (.istore_n 2, 1) := by decide +kernel
theorem dX8_minute_9 : decode cX8_minute 9 = .ok (.iload_n 2, 1) := by decide +kernel
theorem dX8_minute_10 : decode cX8_minute 10 = .ok (.aload_n 1, 1) := by decide +kernel
theorem dX8_minute_11 : decode cX8_minute 11 = .ok (.iconst 0, 1) := by decide +kernel
theorem dX8_minute_12 : decode cX8_minute 12 = .ok (.iaload, 1) := by decide +kernel
theorem dX8_minute_13 : decode cX8_minute 13 = .ok (.if_icmp .ge 31, 3) := by decide +kernel
theorem dX8_minute_16 : decode cX8_minute 16 = .ok (.aload_n 1, 1) := by decide +kernel
theorem dX8_minute_17 : decode cX8_minute 17 = .ok (.iload_n 2, 1) := by decide +kernel
theorem dX8_minute_18 : decode cX8_minute 18 = .ok (.invokestatic 59, 3) := by decide +kernel
theorem dX8_minute_21 : decode cX8_minute 21 = .ok (.ifCond .eq 17, 3) := by decide +kernel
theorem dX8_minute_24 : decode cX8_minute 24 = .ok (.aload_n 1, 1) := by decide +kernel
theorem dX8_minute_25 : decode cX8_minute 25 = .ok (.iload_n 2, 1) := by decide +kernel
theorem dX8_minute_26 : decode cX8_minute 26 = .ok (.iconst 4, 1) := by decide +kernel
theorem dX8_minute_27 : decode cX8_minute 27 = .ok (.aload_n 1, 1) := by decide +kernel
theorem dX8_minute_28 : decode cX8_minute 28 = .ok (.iload_n 2, 1) := by decide +kernel
theorem dX8_minute_29 : decode cX8_minute 29 = .ok (.iconst 4, 1) := by decide +kernel
theorem dX8_minute_30 : decode cX8_minute 30 = .ok (.invokestatic 51, 3) := by decide +kernel
theorem dX8_minute_33 : decode cX8_minute 33 = .ok (.iconst 1, 1) := by decide +kernel
theorem dX8_minute_34 : decode cX8_minute 34 = .ok (.isub, 1) := by decide +kernel
theorem dX8_minute_35 : decode cX8_minute 35 = .ok (.invokestatic 84, 3) := by decide +kernel
theorem dX8_minute_38 : decode cX8_minute 38 = .ok (.iinc 2 1, 3) := by decide +kernel
theorem dX8_minute_41 : decode cX8_minute 41 = .ok (.goto (-32), 3) := by decide +kernel
theorem dX8_minute_44 : decode cX8_minute 44 = .ok (.aload_n 1, 1) := by decide +kernel
theorem dX8_minute_45 : decode cX8_minute 45 = .ok (.bipush 6, 2) := by decide +kernel
theorem dX8_minute_47 : decode cX8_minute 47 = .ok (.iaload, 1) := by decide +kernel
theorem dX8_minute_48 : decode cX8_minute 48 = .ok (.ifCond .eq 13, 3) := by decide +kernel
theorem dX8_minute_51 : decode cX8_minute 51 = .ok (.aload_n 1, 1) := by decide +kernel
theorem dX8_minute_52 : decode cX8_minute 52 = .ok (.bipush 84, 2) := by decide +kernel
theorem dX8_minute_54 : decode cX8_minute 54 = .ok (.iaload, 1) := by decide +kernel
theorem dX8_minute_55 : decode cX8_minute 55 = .ok (.aload_n 1, 1) := by decide +kernel
theorem dX8_minute_56 : decode cX8_minute 56 = .ok (.iconst 1, 1) := by decide +kernel
theorem dX8_minute_57 : decode cX8_minute 57 = .ok (.iaload, 1) := by decide +kernel
theorem dX8_minute_58 : decode cX8_minute 58 = .ok (.if_icmp .eq 5, 3) := by decide +kernel
theorem dX8_minute_61 : decode cX8_minute 61 = .ok (.iconst 0, 1) := by decide +kernel
theorem dX8_minute_62 : decode cX8_minute 62 = .ok (.ireturn, 1) := by decide +kernel
theorem dX8_minute_63 : decode cX8_minute 63 = .ok (.aload_n 1, 1) := by decide +kernel
theorem dX8_minute_64 : decode cX8_minute 64 = .ok (.bipush 85, 2) := by decide +kernel
theorem dX8_minute_66 : decode cX8_minute 66 = .ok (.iaload, 1) := by decide +kernel
theorem dX8_minute_67 : decode cX8_minute 67 = .ok (.istore_n 2, 1) := by decide +kernel
theorem dX8_minute_68 : decode cX8_minute 68 = .ok (.aload_n 1, 1) := by decide +kernel
theorem dX8_minute_69 : decode cX8_minute 69 = .ok (.bipush 86, 2) := by decide +kernel
theorem dX8_minute_71 : decode cX8_minute 71 = .ok (.iaload, 1) := by decide +kernel
theorem dX8_minute_72 : decode cX8_minute 72 = .ok (.istore_n 3, 1) := by decide +kernel
theorem dX8_minute_73 : decode cX8_minute 73 = .ok (.aload_n 1, 1) := by decide +kernel
theorem dX8_minute_74 : decode cX8_minute 74 = .ok (.iconst 0, 1) := by decide +kernel
theorem dX8_minute_75 : decode cX8_minute 75 = .ok (.invokestatic 98, 3) := by decide +kernel
theorem dX8_minute_78 : decode cX8_minute 78 = .ok (.aload_n 0, 1) := by decide +kernel
theorem dX8_minute_79 : decode cX8_minute 79 = .ok (.aload_n 1, 1) := by decide +kernel
theorem dX8_minute_80 : decode cX8_minute 80 = .ok (.iload_n 2, 1) := by decide +kernel
theorem dX8_minute_81 : decode cX8_minute 81 = .ok (.iload_n 3, 1) := by decide +kernel
theorem dX8_minute_82 : decode cX8_minute 82 = .ok (.invokevirtual 102, 3) := by decide +kernel
theorem dX8_minute_85 : decode cX8_minute 85 = .ok (.ireturn, 1) := by decide +kernel
theorem dX8_trades_0 : decode cX8_trades 0 = .ok (.aload_n 1, 1) := by decide +kernel
theorem dX8_trades_1 : decode cX8_trades 1 = .ok (.iload_n 2, 1) := by decide +kernel
theorem dX8_trades_2 : decode cX8_trades 2 = .ok (.invokestatic 105, 3) := by decide +kernel
theorem dX8_trades_5 : decode cX8_trades 5 = .ok (.istore_n 3, 1) := by decide +kernel
theorem dX8_trades_6 : decode cX8_trades 6 = .ok (.aload_n 1, 1) := by decide +kernel
theorem dX8_trades_7 : decode cX8_trades 7 = .ok (.iload_n 2, 1) := by decide +kernel
theorem dX8_trades_8 : decode cX8_trades 8 = .ok (.invokestatic 108, 3) := by decide +kernel
theorem dX8_trades_11 : decode cX8_trades 11 = .ok (.aload_n 1, 1) := by decide +kernel
theorem dX8_trades_12 : decode cX8_trades 12 = .ok (.iload_n 2, 1) := by decide +kernel
theorem dX8_trades_13 : decode cX8_trades 13 = .ok (.iconst 5, 1) := by decide +kernel
theorem dX8_trades_14 : decode cX8_trades 14 = .ok (.aload_n 1, 1) := by decide +kernel
theorem dX8_trades_15 : decode cX8_trades 15 = .ok (.iload_n 2, 1) := by decide +kernel
theorem dX8_trades_16 : decode cX8_trades 16 = .ok (.iconst 5, 1) := by decide +kernel
theorem dX8_trades_17 : decode cX8_trades 17 = .ok (.invokestatic 51, 3) := by decide +kernel
theorem dX8_trades_20 : decode cX8_trades 20 = .ok (.iconst 1, 1) := by decide +kernel
theorem dX8_trades_21 : decode cX8_trades 21 = .ok (.iadd, 1) := by decide +kernel
theorem dX8_trades_22 : decode cX8_trades 22 = .ok (.invokestatic 84, 3) := by decide +kernel
theorem dX8_trades_25 : decode cX8_trades 25 = .ok (.aload_n 1, 1) := by decide +kernel
theorem dX8_trades_26 : decode cX8_trades 26 = .ok (.iload_n 2, 1) := by decide +kernel
theorem dX8_trades_27 : decode cX8_trades 27 = .ok (.iconst 1, 1) := by decide +kernel
theorem dX8_trades_28 : decode cX8_trades 28 = .ok (.iadd, 1) := by decide +kernel
theorem dX8_trades_29 : decode cX8_trades 29 = .ok (.iconst 5, 1) := by decide +kernel
theorem dX8_trades_30 : decode cX8_trades 30 = .ok (.aload_n 1, 1) := by decide +kernel
theorem dX8_trades_31 : decode cX8_trades 31 = .ok (.iload_n 2, 1) := by decide +kernel
theorem dX8_trades_32 : decode cX8_trades 32 = .ok (.iconst 1, 1) := by decide +kernel
theorem dX8_trades_33 : decode cX8_trades 33 = .ok (.iadd, 1) := by decide +kernel
theorem dX8_trades_34 : decode cX8_trades 34 = .ok (.iconst 5, 1) := by decide +kernel
theorem dX8_trades_35 : decode cX8_trades 35 = .ok (.invokestatic 51, 3) := by decide +kernel
theorem dX8_trades_38 : decode cX8_trades 38 = .ok (.iconst 1, 1) := by decide +kernel
theorem dX8_trades_39 : decode cX8_trades 39 = .ok (.iadd, 1) := by decide +kernel
theorem dX8_trades_40 : decode cX8_trades 40 = .ok (.invokestatic 84, 3) := by decide +kernel
theorem dX8_trades_43 : decode cX8_trades 43 = .ok (.aload_n 1, 1) := by decide +kernel
theorem dX8_trades_44 : decode cX8_trades 44 = .ok (.bipush 8, 2) := by decide +kernel
theorem dX8_trades_46 : decode cX8_trades 46 = .ok (.dup2, 1) := by decide +kernel
theorem dX8_trades_47 : decode cX8_trades 47 = .ok (.iaload, 1) := by decide +kernel
theorem dX8_trades_48 : decode cX8_trades 48 = .ok (.iconst 1, 1) := by decide +kernel
theorem dX8_trades_49 : decode cX8_trades 49 = .ok (.iadd, 1) := by decide +kernel
theorem dX8_trades_50 : decode cX8_trades 50 = .ok (.iastore, 1) := by decide +kernel
theorem dX8_trades_51 : decode cX8_trades 51 = .ok (.iload_n 3, 1) := by decide +kernel
theorem dX8_trades_52 : decode cX8_trades 52 = .ok (.ifCond .eq 9, 3) := by decide +kernel
theorem dX8_trades_55 : decode cX8_trades 55 = .ok (.aload_n 1, 1) := by decide +kernel
theorem dX8_trades_56 : decode cX8_trades 56 = .ok (.iload_n 2, 1) := by decide +kernel
theorem dX8_trades_57 : decode cX8_trades 57 = .ok (.iconst 1, 1) := by decide +kernel
theorem dX8_trades_58 : decode cX8_trades 58 = .ok (.invokestatic 95, 3) := by decide +kernel
theorem dX8_trades_61 : decode cX8_trades 61 = .ok (.aload_n 0, 1) := by decide +kernel
theorem dX8_trades_62 : decode cX8_trades 62 = .ok (.aload_n 1, 1) := by decide +kernel
theorem dX8_trades_63 : decode cX8_trades 63 = .ok (.invokevirtual 111, 3) := by decide +kernel
theorem dX8_trades_66 : decode cX8_trades 66 = .ok (.istore 4, 2) := by decide +kernel
theorem dX8_trades_68 : decode cX8_trades 68 = .ok (.iload_n 3, 1) := by decide +kernel
theorem dX8_trades_69 : decode cX8_trades 69 = .ok (.ifCond .eq 12, 3) := by decide +kernel
theorem dX8_trades_72 : decode cX8_trades 72 = .ok (.iload 4, 2) := by decide +kernel
theorem dX8_trades_74 : decode cX8_trades 74 = .ok (.ifCond .lt 7, 3) := by decide +kernel
theorem dX8_trades_77 : decode cX8_trades 77 = .ok (.iconst 1, 1) := by decide +kernel
theorem dX8_trades_78 : decode cX8_trades 78 = .ok (.goto 4, 3) := by decide +kernel
theorem dX8_trades_81 : decode cX8_trades 81 = .ok (.iconst 0, 1) := by decide +kernel
theorem dX8_trades_82 : decode cX8_trades 82 = .ok (.ireturn, 1) := by decide +kernel
theorem dX8_isSafe_0 : decode cX8_isSafe 0 = .ok (.aload_n 0, 1) := by decide +kernel
theorem dX8_isSafe_1 : decode cX8_isSafe 1 = .ok (.iload_n 1, 1) := by decide +kernel
theorem dX8_isSafe_2 : decode cX8_isSafe 2 = .ok (.invokestatic 59, 3) := by decide +kernel
theorem dX8_isSafe_5 : decode cX8_isSafe 5 = .ok (.ifCond .ne 25, 3) := by decide +kernel
theorem dX8_isSafe_8 : decode cX8_isSafe 8 = .ok (.aload_n 0, 1) := by decide +kernel
theorem dX8_isSafe_9 : decode cX8_isSafe 9 = .ok (.iload_n 1, 1) := by decide +kernel
theorem dX8_isSafe_10 : decode cX8_isSafe 10 = .ok (.iconst 1, 1) := by decide +kernel
theorem dX8_isSafe_11 : decode cX8_isSafe 11 = .ok (.iadd, 1) := by decide +kernel
theorem dX8_isSafe_12 : decode cX8_isSafe 12 = .ok (.invokestatic 59, 3) := by decide +kernel
theorem dX8_isSafe_15 : decode cX8_isSafe 15 = .ok (.ifCond .ne 15, 3) := by decide +kernel
theorem dX8_isSafe_18 : decode cX8_isSafe 18 = .ok (.aload_n 0, 1) := by decide +kernel
theorem dX8_isSafe_19 : decode cX8_isSafe 19 = .ok (.iload_n 1, 1) := by decide +kernel
theorem dX8_isSafe_20 : decode cX8_isSafe 20 = .ok (.invokestatic 105, 3) := by decide +kernel
theorem dX8_isSafe_23 : decode cX8_isSafe 23 = .ok (.ifCond .ne 7, 3) := by decide +kernel
theorem dX8_isSafe_26 : decode cX8_isSafe 26 = .ok (.iconst 1, 1) := by decide +kernel
theorem dX8_isSafe_27 : decode cX8_isSafe 27 = .ok (.goto 4, 3) := by decide +kernel
theorem dX8_isSafe_30 : decode cX8_isSafe 30 = .ok (.iconst 0, 1) := by decide +kernel
theorem dX8_isSafe_31 : decode cX8_isSafe 31 = .ok (.ireturn, 1) := by decide +kernel
theorem dX8_behind_0 : decode cX8_behind 0 = .ok (.aload_n 1, 1) := by decide +kernel
theorem dX8_behind_1 : decode cX8_behind 1 = .ok (.iconst 0, 1) := by decide +kernel
theorem dX8_behind_2 : decode cX8_behind 2 = .ok (.aload_n 0, 1) := by decide +kernel
theorem dX8_behind_3 : decode cX8_behind 3 = .ok (.getfield 36, 3) := by decide +kernel
theorem dX8_behind_6 : decode cX8_behind 6 = .ok (.iconst 0, 1) := by decide +kernel
theorem dX8_behind_7 : decode cX8_behind 7 = .ok (.invokestatic 43, 3) := by decide +kernel
theorem dX8_behind_10 : decode cX8_behind 10 = .ok (.aload_n 0, 1) := by decide +kernel
theorem dX8_behind_11 : decode cX8_behind 11 = .ok (.getfield 36, 3) := by decide +kernel
theorem dX8_behind_14 : decode cX8_behind 14 = .ok (.iload_n 2, 1) := by decide +kernel
theorem dX8_behind_15 : decode cX8_behind 15 = .ok (.invokestatic 108, 3) := by decide +kernel
theorem dX8_behind_18 : decode cX8_behind 18 = .ok (.aload_n 0, 1) := by decide +kernel
theorem dX8_behind_19 : decode cX8_behind 19 = .ok (.aload_n 0, 1) := by decide +kernel
theorem dX8_behind_20 : decode cX8_behind 20 = .ok (.getfield 36, 3) := by decide +kernel
theorem dX8_behind_23 : decode cX8_behind 23 = .ok (.invokevirtual 114, 3) := by decide +kernel
theorem dX8_behind_26 : decode cX8_behind 26 = .ok (.ireturn, 1) := by decide +kernel
theorem dX8_next_0 : decode cX8_next 0 = .ok (.aload_n 0, 1) := by decide +kernel
theorem dX8_next_1 : decode cX8_next 1 = .ok (.aload_n 1, 1) := by decide +kernel
theorem dX8_next_2 : decode cX8_next 2 = .ok (.invokevirtual 114, 3) := by decide +kernel
theorem dX8_next_5 : decode cX8_next 5 = .ok (.istore_n 2, 1) := by decide +kernel
theorem dX8_next_6 : decode cX8_next 6 = .ok (.iconst 0, 1) := by decide +kernel
theorem dX8_next_7 : decode cX8_next 7 = .ok (.istore_n 3, 1) := by decide +kernel
theorem dX8_next_8 : decode cX8_next 8 = .ok (.iload_n 3, 1) := by decide +kernel
theorem dX8_next_9 : decode cX8_next 9 = .ok (.aload_n 1, 1) := by decide +kernel
theorem dX8_next_10 : decode cX8_next 10 = .ok (.iconst 0, 1) := by decide +kernel
theorem dX8_next_11 : decode cX8_next 11 = .ok (.iaload, 1) := by decide +kernel
theorem dX8_next_12 : decode cX8_next 12 = .ok (.iconst 1, 1) := by decide +kernel
theorem dX8_next_13 : decode cX8_next 13 = .ok (.isub, 1) := by decide +kernel
theorem dX8_next_14 : decode cX8_next 14 = .ok (.if_icmp .ge 35, 3) := by decide +kernel
theorem dX8_next_17 : decode cX8_next 17 = .ok (.iload_n 2, 1) := by decide +kernel
theorem dX8_next_18 : decode cX8_next 18 = .ok (.ldc 69, 2) := by decide +kernel
theorem dX8_next_20 : decode cX8_next 20 = .ok (.if_icmp .eq 29, 3) := by decide +kernel
theorem dX8_next_23 : decode cX8_next 23 = .ok (.aload_n 1, 1) := by decide +kernel
theorem dX8_next_24 : decode cX8_next 24 = .ok (.iload_n 3, 1) := by decide +kernel
theorem dX8_next_25 : decode cX8_next 25 = .ok (.invokestatic 117, 3) := by decide +kernel
theorem dX8_next_28 : decode cX8_next 28 = .ok (.ifCond .eq 15, 3) := by decide +kernel
theorem dX8_next_31 : decode cX8_next 31 = .ok (.aload_n 0, 1) := by decide +kernel
theorem dX8_next_32 : decode cX8_next 32 = .ok (.aload_n 1, 1) := by decide +kernel
theorem dX8_next_33 : decode cX8_next 33 = .ok (.iload_n 3, 1) := by decide +kernel
theorem dX8_next_34 : decode cX8_next 34 = .ok (.invokevirtual 120, 3) := by decide +kernel
theorem dX8_next_37 : decode cX8_next 37 = .ok (.iload_n 2, 1) := by decide +kernel
theorem dX8_next_38 : decode cX8_next 38 = .ok (.if_icmp .ge 5, 3) := by decide +kernel
theorem dX8_next_41 : decode cX8_next 41 = .ok (.iload_n 3, 1) := by decide +kernel
theorem dX8_next_42 : decode cX8_next 42 = .ok (.ireturn, 1) := by decide +kernel
theorem dX8_next_43 : decode cX8_next 43 = .ok (.iinc 3 1, 3) := by decide +kernel
theorem dX8_next_46 : decode cX8_next 46 = .ok (.goto (-38), 3) := by decide +kernel
theorem dX8_next_49 : decode cX8_next 49 = .ok (.ldc 69, 2) := by decide +kernel
theorem dX8_next_51 : decode cX8_next 51 = .ok (.ireturn, 1) := by decide +kernel
theorem dX8_isRoom_0 : decode cX8_isRoom 0 = .ok (.aload_n 0, 1) := by decide +kernel
theorem dX8_isRoom_1 : decode cX8_isRoom 1 = .ok (.getfield 7, 3) := by decide +kernel
theorem dX8_isRoom_4 : decode cX8_isRoom 4 = .ok (.iconst 0, 1) := by decide +kernel
theorem dX8_isRoom_5 : decode cX8_isRoom 5 = .ok (.iaload, 1) := by decide +kernel
theorem dX8_isRoom_6 : decode cX8_isRoom 6 = .ok (.iload_n 1, 1) := by decide +kernel
theorem dX8_isRoom_7 : decode cX8_isRoom 7 = .ok (.iadd, 1) := by decide +kernel
theorem dX8_isRoom_8 : decode cX8_isRoom 8 = .ok (.bipush 12, 2) := by decide +kernel
theorem dX8_isRoom_10 : decode cX8_isRoom 10 = .ok (.if_icmp .gt 21, 3) := by decide +kernel
theorem dX8_isRoom_13 : decode cX8_isRoom 13 = .ok (.aload_n 0, 1) := by decide +kernel
theorem dX8_isRoom_14 : decode cX8_isRoom 14 = .ok (.getfield 7, 3) := by decide +kernel
theorem dX8_isRoom_17 : decode cX8_isRoom 17 = .ok (.bipush 10, 2) := by decide +kernel
theorem dX8_isRoom_19 : decode cX8_isRoom 19 = .ok (.iaload, 1) := by decide +kernel
theorem dX8_isRoom_20 : decode cX8_isRoom 20 = .ok (.iload_n 1, 1) := by decide +kernel
theorem dX8_isRoom_21 : decode cX8_isRoom 21 = .ok (.iadd, 1) := by decide +kernel
theorem dX8_isRoom_22 : decode cX8_isRoom 22 = .ok (.bipush 99, 2) := by decide +kernel
theorem dX8_isRoom_24 : decode cX8_isRoom 24 = .ok (.if_icmp .gt 7, 3) := by decide +kernel
theorem dX8_isRoom_27 : decode cX8_isRoom 27 = .ok (.iconst 1, 1) := by decide +kernel
theorem dX8_isRoom_28 : decode cX8_isRoom 28 = .ok (.goto 4, 3) := by decide +kernel
theorem dX8_isRoom_31 : decode cX8_isRoom 31 = .ok (.iconst 0, 1) := by decide +kernel
theorem dX8_isRoom_32 : decode cX8_isRoom 32 = .ok (.ireturn, 1) := by decide +kernel
theorem dX8_comes_0 : decode cX8_comes 0 = .ok (.aload_n 0, 1) := by decide +kernel
theorem dX8_comes_1 : decode cX8_comes 1 = .ok (.getfield 7, 3) := by decide +kernel
theorem dX8_comes_4 : decode cX8_comes 4 = .ok (.iconst 0, 1) := by decide +kernel
theorem dX8_comes_5 : decode cX8_comes 5 = .ok (.iaload, 1) := by decide +kernel
theorem dX8_comes_6 : decode cX8_comes 6 = .ok (.istore_n 3, 1) := by decide +kernel
theorem dX8_comes_7 : decode cX8_comes 7 = .ok (.aload_n 0, 1) := by decide +kernel
theorem dX8_comes_8 : decode cX8_comes 8 = .ok (.getfield 7, 3) := by decide +kernel
theorem dX8_comes_11 : decode cX8_comes 11 = .ok (.iload_n 3, 1) := by decide +kernel
theorem dX8_comes_12 : decode cX8_comes 12 = .ok (.iconst 0, 1) := by decide +kernel
theorem dX8_comes_13 : decode cX8_comes 13 = .ok (.aload_n 0, 1) := by decide +kernel
theorem dX8_comes_14 : decode cX8_comes 14 = .ok (.getfield 7, 3) := by decide +kernel
theorem dX8_comes_17 : decode cX8_comes 17 = .ok (.bipush 10, 2) := by decide +kernel
theorem dX8_comes_19 : decode cX8_comes 19 = .ok (.iaload, 1) := by decide +kernel
theorem dX8_comes_20 : decode cX8_comes 20 = .ok (.invokestatic 84, 3) := by decide +kernel
theorem dX8_comes_23 : decode cX8_comes 23 = .ok (.aload_n 0, 1) := by decide +kernel
theorem dX8_comes_24 : decode cX8_comes 24 = .ok (.getfield 7, 3) := by decide +kernel
theorem dX8_comes_27 : decode cX8_comes 27 = .ok (.iload_n 3, 1) := by decide +kernel
theorem dX8_comes_28 : decode cX8_comes 28 = .ok (.iconst 1, 1) := by decide +kernel
theorem dX8_comes_29 : decode cX8_comes 29 = .ok (.iload_n 1, 1) := by decide +kernel
theorem dX8_comes_30 : decode cX8_comes 30 = .ok (.invokestatic 84, 3) := by decide +kernel
theorem dX8_comes_33 : decode cX8_comes 33 = .ok (.aload_n 0, 1) := by decide +kernel
theorem dX8_comes_34 : decode cX8_comes 34 = .ok (.getfield 7, 3) := by decide +kernel
theorem dX8_comes_37 : decode cX8_comes 37 = .ok (.iload_n 3, 1) := by decide +kernel
theorem dX8_comes_38 : decode cX8_comes 38 = .ok (.iconst 2, 1) := by decide +kernel
theorem dX8_comes_39 : decode cX8_comes 39 = .ok (.iload_n 2, 1) := by decide +kernel
theorem dX8_comes_40 : decode cX8_comes 40 = .ok (.invokestatic 84, 3) := by decide +kernel
theorem dX8_comes_43 : decode cX8_comes 43 = .ok (.aload_n 0, 1) := by decide +kernel
theorem dX8_comes_44 : decode cX8_comes 44 = .ok (.getfield 7, 3) := by decide +kernel
theorem dX8_comes_47 : decode cX8_comes 47 = .ok (.iload_n 3, 1) := by decide +kernel
theorem dX8_comes_48 : decode cX8_comes 48 = .ok (.iconst 3, 1) := by decide +kernel
theorem dX8_comes_49 : decode cX8_comes 49 = .ok (.iconst 0, 1) := by decide +kernel
theorem dX8_comes_50 : decode cX8_comes 50 = .ok (.invokestatic 84, 3) := by decide +kernel
theorem dX8_comes_53 : decode cX8_comes 53 = .ok (.aload_n 0, 1) := by decide +kernel
theorem dX8_comes_54 : decode cX8_comes 54 = .ok (.getfield 7, 3) := by decide +kernel
theorem dX8_comes_57 : decode cX8_comes 57 = .ok (.iload_n 3, 1) := by decide +kernel
theorem dX8_comes_58 : decode cX8_comes 58 = .ok (.iconst 4, 1) := by decide +kernel
theorem dX8_comes_59 : decode cX8_comes 59 = .ok (.iconst 0, 1) := by decide +kernel
theorem dX8_comes_60 : decode cX8_comes 60 = .ok (.invokestatic 84, 3) := by decide +kernel
theorem dX8_comes_63 : decode cX8_comes 63 = .ok (.aload_n 0, 1) := by decide +kernel
theorem dX8_comes_64 : decode cX8_comes 64 = .ok (.getfield 7, 3) := by decide +kernel
theorem dX8_comes_67 : decode cX8_comes 67 = .ok (.iload_n 3, 1) := by decide +kernel
theorem dX8_comes_68 : decode cX8_comes 68 = .ok (.iconst 5, 1) := by decide +kernel
theorem dX8_comes_69 : decode cX8_comes 69 = .ok (.iconst 0, 1) := by decide +kernel
theorem dX8_comes_70 : decode cX8_comes 70 = .ok (.invokestatic 84, 3) := by decide +kernel
theorem dX8_comes_73 : decode cX8_comes 73 = .ok (.aload_n 0, 1) := by decide +kernel
theorem dX8_comes_74 : decode cX8_comes 74 = .ok (.getfield 7, 3) := by decide +kernel
theorem dX8_comes_77 : decode cX8_comes 77 = .ok (.iconst 0, 1) := by decide +kernel
theorem dX8_comes_78 : decode cX8_comes 78 = .ok (.dup2, 1) := by decide +kernel
theorem dX8_comes_79 : decode cX8_comes 79 = .ok (.iaload, 1) := by decide +kernel
theorem dX8_comes_80 : decode cX8_comes 80 = .ok (.iconst 1, 1) := by decide +kernel
theorem dX8_comes_81 : decode cX8_comes 81 = .ok (.iadd, 1) := by decide +kernel
theorem dX8_comes_82 : decode cX8_comes 82 = .ok (.iastore, 1) := by decide +kernel
theorem dX8_comes_83 : decode cX8_comes 83 = .ok (.aload_n 0, 1) := by decide +kernel
theorem dX8_comes_84 : decode cX8_comes 84 = .ok (.getfield 7, 3) := by decide +kernel
theorem dX8_comes_87 : decode cX8_comes 87 = .ok (.bipush 10, 2) := by decide +kernel
theorem dX8_comes_89 : decode cX8_comes 89 = .ok (.dup2, 1) := by decide +kernel
theorem dX8_comes_90 : decode cX8_comes 90 = .ok (.iaload, 1) := by decide +kernel
theorem dX8_comes_91 : decode cX8_comes 91 = .ok (.iconst 1, 1) := by decide +kernel
theorem dX8_comes_92 : decode cX8_comes 92 = .ok (.iadd, 1) := by decide +kernel
theorem dX8_comes_93 : decode cX8_comes 93 = .ok (.iastore, 1) := by decide +kernel
theorem dX8_comes_94 : decode cX8_comes 94 = .ok (.return_, 1) := by decide +kernel
theorem dX8_come_0 : decode cX8_come 0 = .ok (.iload_n 1, 1) := by decide +kernel
theorem dX8_come_1 : decode cX8_come 1 = .ok (.bipush 97, 2) := by decide +kernel
theorem dX8_come_3 : decode cX8_come 3 = .ok (.bipush 122, 2) := by decide +kernel
theorem dX8_come_5 : decode cX8_come 5 = .ok (.invokestatic 47, 3) := by decide +kernel
theorem dX8_come_8 : decode cX8_come 8 = .ok (.ifCond .eq 13, 3) := by decide +kernel
theorem dX8_come_11 : decode cX8_come 11 = .ok (.iload_n 2, 1) := by decide +kernel
theorem dX8_come_12 : decode cX8_come 12 = .ok (.iconst 1, 1) := by decide +kernel
theorem dX8_come_13 : decode cX8_come 13 = .ok (.bipush 9, 2) := by decide +kernel
theorem dX8_come_15 : decode cX8_come 15 = .ok (.invokestatic 47, 3) := by decide +kernel
theorem dX8_come_18 : decode cX8_come 18 = .ok (.ifCond .ne 6, 3) := by decide +kernel
theorem dX8_come_21 : decode cX8_come 21 = .ok (.ldc 123, 2) := by decide +kernel
theorem dX8_come_23 : decode cX8_come 23 = .ok (.ireturn, 1) := by decide +kernel
theorem dX8_come_24 : decode cX8_come 24 = .ok (.aload_n 0, 1) := by decide +kernel
theorem dX8_come_25 : decode cX8_come 25 = .ok (.iconst 1, 1) := by decide +kernel
theorem dX8_come_26 : decode cX8_come 26 = .ok (.invokevirtual 124, 3) := by decide +kernel
theorem dX8_come_29 : decode cX8_come 29 = .ok (.ifCond .ne 6, 3) := by decide +kernel
theorem dX8_come_32 : decode cX8_come 32 = .ok (.ldc 128, 2) := by decide +kernel
theorem dX8_come_34 : decode cX8_come 34 = .ok (.ireturn, 1) := by decide +kernel
theorem dX8_come_35 : decode cX8_come 35 = .ok (.aload_n 0, 1) := by decide +kernel
theorem dX8_come_36 : decode cX8_come 36 = .ok (.invokevirtual 129, 3) := by decide +kernel
theorem dX8_come_39 : decode cX8_come 39 = .ok (.aload_n 0, 1) := by decide +kernel
theorem dX8_come_40 : decode cX8_come 40 = .ok (.iload_n 1, 1) := by decide +kernel
theorem dX8_come_41 : decode cX8_come 41 = .ok (.iload_n 2, 1) := by decide +kernel
theorem dX8_come_42 : decode cX8_come 42 = .ok (.invokevirtual 132, 3) := by decide +kernel
theorem dX8_come_45 : decode cX8_come 45 = .ok (.aload_n 0, 1) := by decide +kernel
theorem dX8_come_46 : decode cX8_come 46 = .ok (.getfield 7, 3) := by decide +kernel
theorem dX8_come_49 : decode cX8_come 49 = .ok (.iconst 0, 1) := by decide +kernel
theorem dX8_come_50 : decode cX8_come 50 = .ok (.iaload, 1) := by decide +kernel
theorem dX8_come_51 : decode cX8_come 51 = .ok (.iconst 1, 1) := by decide +kernel
theorem dX8_come_52 : decode cX8_come 52 = .ok (.isub, 1) := by decide +kernel
theorem dX8_come_53 : decode cX8_come 53 = .ok (.ireturn, 1) := by decide +kernel
theorem dX8_readRow_0 : decode cX8_readRow 0 = .ok (.aload_n 0, 1) := by decide +kernel
theorem dX8_readRow_1 : decode cX8_readRow 1 = .ok (.invokevirtual 136, 3) := by decide +kernel
theorem dX8_readRow_4 : decode cX8_readRow 4 = .ok (.istore_n 1, 1) := by decide +kernel
theorem dX8_readRow_5 : decode cX8_readRow 5 = .ok (.iload_n 1, 1) := by decide +kernel
theorem dX8_readRow_6 : decode cX8_readRow 6 = .ok (.ldc 69, 2) := by decide +kernel
theorem dX8_readRow_8 : decode cX8_readRow 8 = .ok (.if_icmp .eq 8, 3) := by decide +kernel
theorem dX8_readRow_11 : decode cX8_readRow 11 = .ok (.ldc 140, 2) := by decide +kernel
theorem dX8_readRow_13 : decode cX8_readRow 13 = .ok (.iload_n 1, 1) := by decide +kernel
theorem dX8_readRow_14 : decode cX8_readRow 14 = .ok (.isub, 1) := by decide +kernel
theorem dX8_readRow_15 : decode cX8_readRow 15 = .ok (.ireturn, 1) := by decide +kernel
theorem dX8_readRow_16 : decode cX8_readRow 16 = .ok (.aload_n 0, 1) := by decide +kernel
theorem dX8_readRow_17 : decode cX8_readRow 17 = .ok (.getfield 141, 3) := by decide +kernel
theorem dX8_readRow_20 : decode cX8_readRow 20 = .ok (.iconst 1, 1) := by decide +kernel
theorem dX8_readRow_21 : decode cX8_readRow 21 = .ok (.iadd, 1) := by decide +kernel
theorem dX8_readRow_22 : decode cX8_readRow 22 = .ok (.iconst 3, 1) := by decide +kernel
theorem dX8_readRow_23 : decode cX8_readRow 23 = .ok (.idiv, 1) := by decide +kernel
theorem dX8_readRow_24 : decode cX8_readRow 24 = .ok (.istore_n 2, 1) := by decide +kernel
theorem dX8_readRow_25 : decode cX8_readRow 25 = .ok (.aload_n 0, 1) := by decide +kernel
theorem dX8_readRow_26 : decode cX8_readRow 26 = .ok (.iload_n 2, 1) := by decide +kernel
theorem dX8_readRow_27 : decode cX8_readRow 27 = .ok (.invokevirtual 124, 3) := by decide +kernel
theorem dX8_readRow_30 : decode cX8_readRow 30 = .ok (.ifCond .ne 6, 3) := by decide +kernel
theorem dX8_readRow_33 : decode cX8_readRow 33 = .ok (.ldc 128, 2) := by decide +kernel
theorem dX8_readRow_35 : decode cX8_readRow 35 = .ok (.ireturn, 1) := by decide +kernel
theorem dX8_readRow_36 : decode cX8_readRow 36 = .ok (.aload_n 0, 1) := by decide +kernel
theorem dX8_readRow_37 : decode cX8_readRow 37 = .ok (.invokevirtual 129, 3) := by decide +kernel
theorem dX8_readRow_40 : decode cX8_readRow 40 = .ok (.iconst 0, 1) := by decide +kernel
theorem dX8_readRow_41 : decode cX8_readRow 41 = .ok (.istore_n 3, 1) := by decide +kernel
theorem dX8_readRow_42 : decode cX8_readRow 42 = .ok (.iload_n 3, 1) := by decide +kernel
theorem dX8_readRow_43 : decode cX8_readRow 43 = .ok (.iload_n 2, 1) := by decide +kernel
theorem dX8_readRow_44 : decode cX8_readRow 44 = .ok (.if_icmp .ge 34, 3) := by decide +kernel
theorem dX8_readRow_47 : decode cX8_readRow 47 = .ok (.aload_n 0, 1) := by decide +kernel
theorem dX8_readRow_48 : decode cX8_readRow 48 = .ok (.aload_n 0, 1) := by decide +kernel
theorem dX8_readRow_49 : decode cX8_readRow 49 = .ok (.getfield 22, 3) := by decide +kernel
theorem dX8_readRow_52 : decode cX8_readRow 52 = .ok (.iconst 3, 1) := by decide +kernel
theorem dX8_readRow_53 : decode cX8_readRow 53 = .ok (.iload_n 3, 1) := by decide +kernel
theorem dX8_readRow_54 : decode cX8_readRow 54 = .ok (.imul, 1) := by decide +kernel
theorem dX8_readRow_55 : decode cX8_readRow 55 = .ok (.caload, 1) := by decide +kernel
theorem dX8_readRow_56 : decode cX8_readRow 56 = .ok (.aload_n 0, 1) := by decide +kernel
theorem dX8_readRow_57 : decode cX8_readRow 57 = .ok (.getfield 22, 3) := by decide +kernel
theorem dX8_readRow_60 : decode cX8_readRow 60 = .ok (.iconst 3, 1) := by decide +kernel
theorem dX8_readRow_61 : decode cX8_readRow 61 = .ok (.iload_n 3, 1) := by decide +kernel
theorem dX8_readRow_62 : decode cX8_readRow 62 = .ok (.imul, 1) := by decide +kernel
theorem dX8_readRow_63 : decode cX8_readRow 63 = .ok (.iconst 1, 1) := by decide +kernel
theorem dX8_readRow_64 : decode cX8_readRow 64 = .ok (.iadd, 1) := by decide +kernel
theorem dX8_readRow_65 : decode cX8_readRow 65 = .ok (.caload, 1) := by decide +kernel
theorem dX8_readRow_66 : decode cX8_readRow 66 = .ok (.bipush 48, 2) := by decide +kernel
theorem dX8_readRow_68 : decode cX8_readRow 68 = .ok (.isub, 1) := by decide +kernel
theorem dX8_readRow_69 : decode cX8_readRow 69 = .ok (.invokevirtual 132, 3) := by decide +kernel
theorem dX8_readRow_72 : decode cX8_readRow 72 = .ok (.iinc 3 1, 3) := by decide +kernel
theorem dX8_readRow_75 : decode cX8_readRow 75 = .ok (.goto (-33), 3) := by decide +kernel
theorem dX8_readRow_78 : decode cX8_readRow 78 = .ok (.aload_n 0, 1) := by decide +kernel
theorem dX8_readRow_79 : decode cX8_readRow 79 = .ok (.getfield 7, 3) := by decide +kernel
theorem dX8_readRow_82 : decode cX8_readRow 82 = .ok (.iconst 0, 1) := by decide +kernel
theorem dX8_readRow_83 : decode cX8_readRow 83 = .ok (.iaload, 1) := by decide +kernel
theorem dX8_readRow_84 : decode cX8_readRow 84 = .ok (.ireturn, 1) := by decide +kernel
theorem dX8_go_0 : decode cX8_go 0 = .ok (.aload_n 0, 1) := by decide +kernel
theorem dX8_go_1 : decode cX8_go 1 = .ok (.iload_n 1, 1) := by decide +kernel
theorem dX8_go_2 : decode cX8_go 2 = .ok (.invokevirtual 144, 3) := by decide +kernel
theorem dX8_go_5 : decode cX8_go 5 = .ok (.ifCond .ne 6, 3) := by decide +kernel
theorem dX8_go_8 : decode cX8_go 8 = .ok (.ldc 147, 2) := by decide +kernel
theorem dX8_go_10 : decode cX8_go 10 = .ok (.ireturn, 1) := by decide +kernel
theorem dX8_go_11 : decode cX8_go 11 = .ok (.aload_n 0, 1) := by decide +kernel
theorem dX8_go_12 : decode cX8_go 12 = .ok (.getfield 7, 3) := by decide +kernel
theorem dX8_go_15 : decode cX8_go 15 = .ok (.iload_n 1, 1) := by decide +kernel
theorem dX8_go_16 : decode cX8_go 16 = .ok (.invokestatic 59, 3) := by decide +kernel
theorem dX8_go_19 : decode cX8_go 19 = .ok (.ifCond .eq 6, 3) := by decide +kernel
theorem dX8_go_22 : decode cX8_go 22 = .ok (.ldc 148, 2) := by decide +kernel
theorem dX8_go_24 : decode cX8_go 24 = .ok (.ireturn, 1) := by decide +kernel
theorem dX8_go_25 : decode cX8_go 25 = .ok (.aload_n 0, 1) := by decide +kernel
theorem dX8_go_26 : decode cX8_go 26 = .ok (.invokevirtual 129, 3) := by decide +kernel
theorem dX8_go_29 : decode cX8_go 29 = .ok (.aload_n 0, 1) := by decide +kernel
theorem dX8_go_30 : decode cX8_go 30 = .ok (.getfield 7, 3) := by decide +kernel
theorem dX8_go_33 : decode cX8_go 33 = .ok (.iconst 0, 1) := by decide +kernel
theorem dX8_go_34 : decode cX8_go 34 = .ok (.dup2, 1) := by decide +kernel
theorem dX8_go_35 : decode cX8_go 35 = .ok (.iaload, 1) := by decide +kernel
theorem dX8_go_36 : decode cX8_go 36 = .ok (.iconst 1, 1) := by decide +kernel
theorem dX8_go_37 : decode cX8_go 37 = .ok (.isub, 1) := by decide +kernel
theorem dX8_go_38 : decode cX8_go 38 = .ok (.iastore, 1) := by decide +kernel
theorem dX8_go_39 : decode cX8_go 39 = .ok (.bipush 12, 2) := by decide +kernel
theorem dX8_go_41 : decode cX8_go 41 = .ok (.bipush 6, 2) := by decide +kernel
theorem dX8_go_43 : decode cX8_go 43 = .ok (.iload_n 1, 1) := by decide +kernel
theorem dX8_go_44 : decode cX8_go 44 = .ok (.imul, 1) := by decide +kernel
theorem dX8_go_45 : decode cX8_go 45 = .ok (.iadd, 1) := by decide +kernel
theorem dX8_go_46 : decode cX8_go 46 = .ok (.istore_n 2, 1) := by decide +kernel
theorem dX8_go_47 : decode cX8_go 47 = .ok (.iload_n 2, 1) := by decide +kernel
theorem dX8_go_48 : decode cX8_go 48 = .ok (.bipush 12, 2) := by decide +kernel
theorem dX8_go_50 : decode cX8_go 50 = .ok (.bipush 6, 2) := by decide +kernel
theorem dX8_go_52 : decode cX8_go 52 = .ok (.aload_n 0, 1) := by decide +kernel
theorem dX8_go_53 : decode cX8_go 53 = .ok (.getfield 7, 3) := by decide +kernel
theorem dX8_go_56 : decode cX8_go 56 = .ok (.iconst 0, 1) := by decide +kernel
theorem dX8_go_57 : decode cX8_go 57 = .ok (.iaload, 1) := by decide +kernel
theorem dX8_go_58 : decode cX8_go 58 = .ok (.imul, 1) := by decide +kernel
theorem dX8_go_59 : decode cX8_go 59 = .ok (.iadd, 1) := by decide +kernel
theorem dX8_go_60 : decode cX8_go 60 = .ok (.if_icmp .ge 24, 3) := by decide +kernel
theorem dX8_go_63 : decode cX8_go 63 = .ok (.aload_n 0, 1) := by decide +kernel
theorem dX8_go_64 : decode cX8_go 64 = .ok (.getfield 7, 3) := by decide +kernel
theorem dX8_go_67 : decode cX8_go 67 = .ok (.iload_n 2, 1) := by decide +kernel
theorem dX8_go_68 : decode cX8_go 68 = .ok (.aload_n 0, 1) := by decide +kernel
theorem dX8_go_69 : decode cX8_go 69 = .ok (.getfield 7, 3) := by decide +kernel
theorem dX8_go_72 : decode cX8_go 72 = .ok (.iload_n 2, 1) := by decide +kernel
theorem dX8_go_73 : decode cX8_go 73 = .ok (.bipush 6, 2) := by decide +kernel
theorem dX8_go_75 : decode cX8_go 75 = .ok (.iadd, 1) := by decide +kernel
theorem dX8_go_76 : decode cX8_go 76 = .ok (.iaload, 1) := by decide +kernel
theorem dX8_go_77 : decode cX8_go 77 = .ok (.iastore, 1) := by decide +kernel
theorem dX8_go_78 : decode cX8_go 78 = .ok (.iinc 2 1, 3) := by decide +kernel
theorem dX8_go_81 : decode cX8_go 81 = .ok (.goto (-34), 3) := by decide +kernel
theorem dX8_go_84 : decode cX8_go 84 = .ok (.aload_n 0, 1) := by decide +kernel
theorem dX8_go_85 : decode cX8_go 85 = .ok (.getfield 7, 3) := by decide +kernel
theorem dX8_go_88 : decode cX8_go 88 = .ok (.iconst 0, 1) := by decide +kernel
theorem dX8_go_89 : decode cX8_go 89 = .ok (.iaload, 1) := by decide +kernel
theorem dX8_go_90 : decode cX8_go 90 = .ok (.ireturn, 1) := by decide +kernel
theorem dX8_pay_0 : decode cX8_pay 0 = .ok (.aload_n 0, 1) := by decide +kernel
theorem dX8_pay_1 : decode cX8_pay 1 = .ok (.iload_n 1, 1) := by decide +kernel
theorem dX8_pay_2 : decode cX8_pay 2 = .ok (.invokevirtual 144, 3) := by decide +kernel
theorem dX8_pay_5 : decode cX8_pay 5 = .ok (.ifCond .ne 6, 3) := by decide +kernel
theorem dX8_pay_8 : decode cX8_pay 8 = .ok (.ldc 147, 2) := by decide +kernel
theorem dX8_pay_10 : decode cX8_pay 10 = .ok (.ireturn, 1) := by decide +kernel
theorem dX8_pay_11 : decode cX8_pay 11 = .ok (.iload_n 2, 1) := by decide +kernel
theorem dX8_pay_12 : decode cX8_pay 12 = .ok (.iconst 1, 1) := by decide +kernel
theorem dX8_pay_13 : decode cX8_pay 13 = .ok (.bipush 9, 2) := by decide +kernel
theorem dX8_pay_15 : decode cX8_pay 15 = .ok (.invokestatic 47, 3) := by decide +kernel
theorem dX8_pay_18 : decode cX8_pay 18 = .ok (.ifCond .ne 6, 3) := by decide +kernel
theorem dX8_pay_21 : decode cX8_pay 21 = .ok (.ldc 123, 2) := by decide +kernel
theorem dX8_pay_23 : decode cX8_pay 23 = .ok (.ireturn, 1) := by decide +kernel
theorem dX8_pay_24 : decode cX8_pay 24 = .ok (.aload_n 0, 1) := by decide +kernel
theorem dX8_pay_25 : decode cX8_pay 25 = .ok (.getfield 7, 3) := by decide +kernel
theorem dX8_pay_28 : decode cX8_pay 28 = .ok (.iload_n 1, 1) := by decide +kernel
theorem dX8_pay_29 : decode cX8_pay 29 = .ok (.iconst 2, 1) := by decide +kernel
theorem dX8_pay_30 : decode cX8_pay 30 = .ok (.invokestatic 51, 3) := by decide +kernel
theorem dX8_pay_33 : decode cX8_pay 33 = .ok (.istore_n 3, 1) := by decide +kernel
theorem dX8_pay_34 : decode cX8_pay 34 = .ok (.iload_n 3, 1) := by decide +kernel
theorem dX8_pay_35 : decode cX8_pay 35 = .ok (.iload_n 2, 1) := by decide +kernel
theorem dX8_pay_36 : decode cX8_pay 36 = .ok (.if_icmp .ne 6, 3) := by decide +kernel
theorem dX8_pay_39 : decode cX8_pay 39 = .ok (.ldc 69, 2) := by decide +kernel
theorem dX8_pay_41 : decode cX8_pay 41 = .ok (.ireturn, 1) := by decide +kernel
theorem dX8_pay_42 : decode cX8_pay 42 = .ok (.aload_n 0, 1) := by decide +kernel
theorem dX8_pay_43 : decode cX8_pay 43 = .ok (.invokevirtual 129, 3) := by decide +kernel
theorem dX8_pay_46 : decode cX8_pay 46 = .ok (.aload_n 0, 1) := by decide +kernel
theorem dX8_pay_47 : decode cX8_pay 47 = .ok (.getfield 7, 3) := by decide +kernel
theorem dX8_pay_50 : decode cX8_pay 50 = .ok (.iload_n 1, 1) := by decide +kernel
theorem dX8_pay_51 : decode cX8_pay 51 = .ok (.iconst 2, 1) := by decide +kernel
theorem dX8_pay_52 : decode cX8_pay 52 = .ok (.iload_n 2, 1) := by decide +kernel
theorem dX8_pay_53 : decode cX8_pay 53 = .ok (.invokestatic 84, 3) := by decide +kernel
theorem dX8_pay_56 : decode cX8_pay 56 = .ok (.iload_n 3, 1) := by decide +kernel
theorem dX8_pay_57 : decode cX8_pay 57 = .ok (.ireturn, 1) := by decide +kernel
theorem dX8_trade_0 : decode cX8_trade 0 = .ok (.iload_n 1, 1) := by decide +kernel
theorem dX8_trade_1 : decode cX8_trade 1 = .ok (.iconst 0, 1) := by decide +kernel
theorem dX8_trade_2 : decode cX8_trade 2 = .ok (.aload_n 0, 1) := by decide +kernel
theorem dX8_trade_3 : decode cX8_trade 3 = .ok (.getfield 7, 3) := by decide +kernel
theorem dX8_trade_6 : decode cX8_trade 6 = .ok (.iconst 0, 1) := by decide +kernel
theorem dX8_trade_7 : decode cX8_trade 7 = .ok (.iaload, 1) := by decide +kernel
theorem dX8_trade_8 : decode cX8_trade 8 = .ok (.iconst 2, 1) := by decide +kernel
theorem dX8_trade_9 : decode cX8_trade 9 = .ok (.isub, 1) := by decide +kernel
theorem dX8_trade_10 : decode cX8_trade 10 = .ok (.invokestatic 47, 3) := by decide +kernel
theorem dX8_trade_13 : decode cX8_trade 13 = .ok (.ifCond .ne 6, 3) := by decide +kernel
theorem dX8_trade_16 : decode cX8_trade 16 = .ok (.ldc 147, 2) := by decide +kernel
theorem dX8_trade_18 : decode cX8_trade 18 = .ok (.ireturn, 1) := by decide +kernel
theorem dX8_trade_19 : decode cX8_trade 19 = .ok (.aload_n 0, 1) := by decide +kernel
theorem dX8_trade_20 : decode cX8_trade 20 = .ok (.getfield 7, 3) := by decide +kernel
theorem dX8_trade_23 : decode cX8_trade 23 = .ok (.iload_n 1, 1) := by decide +kernel
theorem dX8_trade_24 : decode cX8_trade 24 = .ok (.invokestatic 59, 3) := by decide +kernel
theorem dX8_trade_27 : decode cX8_trade 27 = .ok (.ifCond .ne 28, 3) := by decide +kernel
theorem dX8_trade_30 : decode cX8_trade 30 = .ok (.aload_n 0, 1) := by decide +kernel
theorem dX8_trade_31 : decode cX8_trade 31 = .ok (.getfield 7, 3) := by decide +kernel
theorem dX8_trade_34 : decode cX8_trade 34 = .ok (.iload_n 1, 1) := by decide +kernel
theorem dX8_trade_35 : decode cX8_trade 35 = .ok (.iconst 1, 1) := by decide +kernel
theorem dX8_trade_36 : decode cX8_trade 36 = .ok (.iadd, 1) := by decide +kernel
theorem dX8_trade_37 : decode cX8_trade 37 = .ok (.invokestatic 59, 3) := by decide +kernel
theorem dX8_trade_40 : decode cX8_trade 40 = .ok (.ifCond .ne 15, 3) := by decide +kernel
theorem dX8_trade_43 : decode cX8_trade 43 = .ok (.aload_n 0, 1) := by decide +kernel
theorem dX8_trade_44 : decode cX8_trade 44 = .ok (.getfield 7, 3) := by decide +kernel
theorem dX8_trade_47 : decode cX8_trade 47 = .ok (.iconst 1, 1) := by decide +kernel
theorem dX8_trade_48 : decode cX8_trade 48 = .ok (.iaload, 1) := by decide +kernel
theorem dX8_trade_49 : decode cX8_trade 49 = .ok (.sipush 9999, 3) := by decide +kernel
theorem dX8_trade_52 : decode cX8_trade 52 = .ok (.if_icmp .ne 6, 3) := by decide +kernel
theorem dX8_trade_55 : decode cX8_trade 55 = .ok (.ldc 148, 2) := by decide +kernel
theorem dX8_trade_57 : decode cX8_trade 57 = .ok (.ireturn, 1) := by decide +kernel
theorem dX8_trade_58 : decode cX8_trade 58 = .ok (.aload_n 0, 1) := by decide +kernel
theorem dX8_trade_59 : decode cX8_trade 59 = .ok (.invokevirtual 129, 3) := by decide +kernel
theorem dX8_trade_62 : decode cX8_trade 62 = .ok (.aload_n 0, 1) := by decide +kernel
theorem dX8_trade_63 : decode cX8_trade 63 = .ok (.aload_n 0, 1) := by decide +kernel
theorem dX8_trade_64 : decode cX8_trade 64 = .ok (.getfield 7, 3) := by decide +kernel
theorem dX8_trade_67 : decode cX8_trade 67 = .ok (.iload_n 1, 1) := by decide +kernel
theorem dX8_trade_68 : decode cX8_trade 68 = .ok (.invokevirtual 149, 3) := by decide +kernel
theorem dX8_trade_71 : decode cX8_trade 71 = .ok (.ifCond .eq 7, 3) := by decide +kernel
theorem dX8_trade_74 : decode cX8_trade 74 = .ok (.iconst 1, 1) := by decide +kernel
theorem dX8_trade_75 : decode cX8_trade 75 = .ok (.goto 4, 3) := by decide +kernel
theorem dX8_trade_78 : decode cX8_trade 78 = .ok (.iconst 0, 1) := by decide +kernel
theorem dX8_trade_79 : decode cX8_trade 79 = .ok (.ireturn, 1) := by decide +kernel
theorem dX8_pass_0 : decode cX8_pass 0 = .ok (.iload_n 1, 1) := by decide +kernel
theorem dX8_pass_1 : decode cX8_pass 1 = .ok (.iconst 1, 1) := by decide +kernel
theorem dX8_pass_2 : decode cX8_pass 2 = .ok (.bipush 60, 2) := by decide +kernel
theorem dX8_pass_4 : decode cX8_pass 4 = .ok (.invokestatic 47, 3) := by decide +kernel
theorem dX8_pass_7 : decode cX8_pass 7 = .ok (.ifCond .ne 6, 3) := by decide +kernel
theorem dX8_pass_10 : decode cX8_pass 10 = .ok (.ldc 123, 2) := by decide +kernel
theorem dX8_pass_12 : decode cX8_pass 12 = .ok (.ireturn, 1) := by decide +kernel
theorem dX8_pass_13 : decode cX8_pass 13 = .ok (.aload_n 0, 1) := by decide +kernel
theorem dX8_pass_14 : decode cX8_pass 14 = .ok (.getfield 7, 3) := by decide +kernel
theorem dX8_pass_17 : decode cX8_pass 17 = .ok (.iconst 1, 1) := by decide +kernel
theorem dX8_pass_18 : decode cX8_pass 18 = .ok (.iaload, 1) := by decide +kernel
theorem dX8_pass_19 : decode cX8_pass 19 = .ok (.iload_n 1, 1) := by decide +kernel
theorem dX8_pass_20 : decode cX8_pass 20 = .ok (.iadd, 1) := by decide +kernel
theorem dX8_pass_21 : decode cX8_pass 21 = .ok (.sipush 9999, 3) := by decide +kernel
theorem dX8_pass_24 : decode cX8_pass 24 = .ok (.if_icmp .le 6, 3) := by decide +kernel
theorem dX8_pass_27 : decode cX8_pass 27 = .ok (.ldc 128, 2) := by decide +kernel
theorem dX8_pass_29 : decode cX8_pass 29 = .ok (.ireturn, 1) := by decide +kernel
theorem dX8_pass_30 : decode cX8_pass 30 = .ok (.aload_n 0, 1) := by decide +kernel
theorem dX8_pass_31 : decode cX8_pass 31 = .ok (.invokevirtual 129, 3) := by decide +kernel
theorem dX8_pass_34 : decode cX8_pass 34 = .ok (.iconst 0, 1) := by decide +kernel
theorem dX8_pass_35 : decode cX8_pass 35 = .ok (.istore_n 2, 1) := by decide +kernel
theorem dX8_pass_36 : decode cX8_pass 36 = .ok (.iconst 0, 1) := by decide +kernel
theorem dX8_pass_37 : decode cX8_pass 37 = .ok (.istore_n 3, 1) := by decide +kernel
theorem dX8_pass_38 : decode cX8_pass 38 = .ok (.iload_n 3, 1) := by decide +kernel
theorem dX8_pass_39 : decode cX8_pass 39 = .ok (.iload_n 1, 1) := by decide +kernel
theorem dX8_pass_40 : decode cX8_pass 40 = .ok (.if_icmp .ge 20, 3) := by decide +kernel
theorem dX8_pass_43 : decode cX8_pass 43 = .ok (.iload_n 2, 1) := by decide +kernel
theorem dX8_pass_44 : decode cX8_pass 44 = .ok (.aload_n 0, 1) := by decide +kernel
theorem dX8_pass_45 : decode cX8_pass 45 = .ok (.aload_n 0, 1) := by decide +kernel
theorem dX8_pass_46 : decode cX8_pass 46 = .ok (.getfield 7, 3) := by decide +kernel
theorem dX8_pass_49 : decode cX8_pass 49 = .ok (.invokevirtual 111, 3) := by decide +kernel
theorem dX8_pass_52 : decode cX8_pass 52 = .ok (.iadd, 1) := by decide +kernel
theorem dX8_pass_53 : decode cX8_pass 53 = .ok (.istore_n 2, 1) := by decide +kernel
theorem dX8_pass_54 : decode cX8_pass 54 = .ok (.iinc 3 1, 3) := by decide +kernel
theorem dX8_pass_57 : decode cX8_pass 57 = .ok (.goto (-19), 3) := by decide +kernel
theorem dX8_pass_60 : decode cX8_pass 60 = .ok (.iload_n 2, 1) := by decide +kernel
theorem dX8_pass_61 : decode cX8_pass 61 = .ok (.ireturn, 1) := by decide +kernel
theorem dX8_isWind_0 : decode cX8_isWind 0 = .ok (.iload_n 0, 1) := by decide +kernel
theorem dX8_isWind_1 : decode cX8_isWind 1 = .ok (.iconst 0, 1) := by decide +kernel
theorem dX8_isWind_2 : decode cX8_isWind 2 = .ok (.iconst 3, 1) := by decide +kernel
theorem dX8_isWind_3 : decode cX8_isWind 3 = .ok (.invokestatic 47, 3) := by decide +kernel
theorem dX8_isWind_6 : decode cX8_isWind 6 = .ok (.ifCond .eq 16, 3) := by decide +kernel
theorem dX8_isWind_9 : decode cX8_isWind 9 = .ok (.iload_n 1, 1) := by decide +kernel
theorem dX8_isWind_10 : decode cX8_isWind 10 = .ok (.iconst 0, 1) := by decide +kernel
theorem dX8_isWind_11 : decode cX8_isWind 11 = .ok (.iconst 5, 1) := by decide +kernel
theorem dX8_isWind_12 : decode cX8_isWind 12 = .ok (.invokestatic 47, 3) := by decide +kernel
theorem dX8_isWind_15 : decode cX8_isWind 15 = .ok (.ifCond .eq 7, 3) := by decide +kernel
theorem dX8_isWind_18 : decode cX8_isWind 18 = .ok (.iconst 1, 1) := by decide +kernel
theorem dX8_isWind_19 : decode cX8_isWind 19 = .ok (.goto 4, 3) := by decide +kernel
theorem dX8_isWind_22 : decode cX8_isWind 22 = .ok (.iconst 0, 1) := by decide +kernel
theorem dX8_isWind_23 : decode cX8_isWind 23 = .ok (.ireturn, 1) := by decide +kernel
theorem dX8_wind_0 : decode cX8_wind 0 = .ok (.iload_n 1, 1) := by decide +kernel
theorem dX8_wind_1 : decode cX8_wind 1 = .ok (.iload_n 2, 1) := by decide +kernel
theorem dX8_wind_2 : decode cX8_wind 2 = .ok (.invokestatic 152, 3) := by decide +kernel
theorem dX8_wind_5 : decode cX8_wind 5 = .ok (.ifCond .ne 6, 3) := by decide +kernel
theorem dX8_wind_8 : decode cX8_wind 8 = .ok (.ldc 123, 2) := by decide +kernel
theorem dX8_wind_10 : decode cX8_wind 10 = .ok (.ireturn, 1) := by decide +kernel
theorem dX8_wind_11 : decode cX8_wind 11 = .ok (.aload_n 0, 1) := by decide +kernel
theorem dX8_wind_12 : decode cX8_wind 12 = .ok (.getfield 7, 3) := by decide +kernel
theorem dX8_wind_15 : decode cX8_wind 15 = .ok (.iconst 2, 1) := by decide +kernel
theorem dX8_wind_16 : decode cX8_wind 16 = .ok (.iaload, 1) := by decide +kernel
theorem dX8_wind_17 : decode cX8_wind 17 = .ok (.iload_n 1, 1) := by decide +kernel
theorem dX8_wind_18 : decode cX8_wind 18 = .ok (.if_icmp .ne 16, 3) := by decide +kernel
theorem dX8_wind_21 : decode cX8_wind 21 = .ok (.aload_n 0, 1) := by decide +kernel
theorem dX8_wind_22 : decode cX8_wind 22 = .ok (.getfield 7, 3) := by decide +kernel
theorem dX8_wind_25 : decode cX8_wind 25 = .ok (.iconst 3, 1) := by decide +kernel
theorem dX8_wind_26 : decode cX8_wind 26 = .ok (.iaload, 1) := by decide +kernel
theorem dX8_wind_27 : decode cX8_wind 27 = .ok (.iload_n 2, 1) := by decide +kernel
theorem dX8_wind_28 : decode cX8_wind 28 = .ok (.if_icmp .ne 6, 3) := by decide +kernel
theorem dX8_wind_31 : decode cX8_wind 31 = .ok (.ldc 69, 2) := by decide +kernel
theorem dX8_wind_33 : decode cX8_wind 33 = .ok (.ireturn, 1) := by decide +kernel
theorem dX8_wind_34 : decode cX8_wind 34 = .ok (.aload_n 0, 1) := by decide +kernel
theorem dX8_wind_35 : decode cX8_wind 35 = .ok (.invokevirtual 129, 3) := by decide +kernel
theorem dX8_wind_38 : decode cX8_wind 38 = .ok (.aload_n 0, 1) := by decide +kernel
theorem dX8_wind_39 : decode cX8_wind 39 = .ok (.aload_n 0, 1) := by decide +kernel
theorem dX8_wind_40 : decode cX8_wind 40 = .ok (.getfield 7, 3) := by decide +kernel
theorem dX8_wind_43 : decode cX8_wind 43 = .ok (.iload_n 1, 1) := by decide +kernel
theorem dX8_wind_44 : decode cX8_wind 44 = .ok (.iload_n 2, 1) := by decide +kernel
theorem dX8_wind_45 : decode cX8_wind 45 = .ok (.invokevirtual 102, 3) := by decide +kernel
theorem dX8_wind_48 : decode cX8_wind 48 = .ok (.ireturn, 1) := by decide +kernel
theorem dX8_turnAt_0 : decode cX8_turnAt 0 = .ok (.ldc 69, 2) := by decide +kernel
theorem dX8_turnAt_2 : decode cX8_turnAt 2 = .ok (.istore_n 2, 1) := by decide +kernel
theorem dX8_turnAt_3 : decode cX8_turnAt 3 = .ok (.iconst 0, 1) := by decide +kernel
theorem dX8_turnAt_4 : decode cX8_turnAt 4 = .ok (.istore_n 3, 1) := by decide +kernel
theorem dX8_turnAt_5 : decode cX8_turnAt 5 = .ok (.iload_n 3, 1) := by decide +kernel
theorem dX8_turnAt_6 : decode cX8_turnAt 6 = .ok (.aload_n 0, 1) := by decide +kernel
theorem dX8_turnAt_7 : decode cX8_turnAt 7 = .ok (.getfield 7, 3) := by decide +kernel
theorem dX8_turnAt_10 : decode cX8_turnAt 10 = .ok (.bipush 6, 2) := by decide +kernel
theorem dX8_turnAt_12 : decode cX8_turnAt 12 = .ok (.iaload, 1) := by decide +kernel
theorem dX8_turnAt_13 : decode cX8_turnAt 13 = .ok (.if_icmp .ge 30, 3) := by decide +kernel
theorem dX8_turnAt_16 : decode cX8_turnAt 16 = .ok (.aload_n 0, 1) := by decide +kernel
theorem dX8_turnAt_17 : decode cX8_turnAt 17 = .ok (.getfield 7, 3) := by decide +kernel
theorem dX8_turnAt_20 : decode cX8_turnAt 20 = .ok (.bipush 84, 2) := by decide +kernel
theorem dX8_turnAt_22 : decode cX8_turnAt 22 = .ok (.iconst 3, 1) := by decide +kernel
theorem dX8_turnAt_23 : decode cX8_turnAt 23 = .ok (.iload_n 3, 1) := by decide +kernel
theorem dX8_turnAt_24 : decode cX8_turnAt 24 = .ok (.imul, 1) := by decide +kernel
theorem dX8_turnAt_25 : decode cX8_turnAt 25 = .ok (.iadd, 1) := by decide +kernel
theorem dX8_turnAt_26 : decode cX8_turnAt 26 = .ok (.iaload, 1) := by decide +kernel
theorem dX8_turnAt_27 : decode cX8_turnAt 27 = .ok (.iload_n 1, 1) := by decide +kernel
theorem dX8_turnAt_28 : decode cX8_turnAt 28 = .ok (.if_icmp .ne 7, 3) := by decide +kernel
theorem dX8_turnAt_31 : decode cX8_turnAt 31 = .ok (.iload_n 3, 1) := by decide +kernel
theorem dX8_turnAt_32 : decode cX8_turnAt 32 = .ok (.goto 4, 3) := by decide +kernel
theorem dX8_turnAt_35 : decode cX8_turnAt 35 = .ok (.iload_n 2, 1) := by decide +kernel
theorem dX8_turnAt_36 : decode cX8_turnAt 36 = .ok (.istore_n 2, 1) := by decide +kernel
theorem dX8_turnAt_37 : decode cX8_turnAt 37 = .ok (.iinc 3 1, 3) := by decide +kernel
theorem dX8_turnAt_40 : decode cX8_turnAt 40 = .ok (.goto (-35), 3) := by decide +kernel
theorem dX8_turnAt_43 : decode cX8_turnAt 43 = .ok (.iload_n 2, 1) := by decide +kernel
theorem dX8_turnAt_44 : decode cX8_turnAt 44 = .ok (.ireturn, 1) := by decide +kernel
theorem dX8_planTurn_0 : decode cX8_planTurn 0 = .ok (.iload_n 1, 1) := by decide +kernel
theorem dX8_planTurn_1 : decode cX8_planTurn 1 = .ok (.iconst 1, 1) := by decide +kernel
theorem dX8_planTurn_2 : decode cX8_planTurn 2 = .ok (.sipush 9999, 3) := by decide +kernel
theorem dX8_planTurn_5 : decode cX8_planTurn 5 = .ok (.invokestatic 47, 3) := by decide +kernel
theorem dX8_planTurn_8 : decode cX8_planTurn 8 = .ok (.ifCond .eq 11, 3) := by decide +kernel
theorem dX8_planTurn_11 : decode cX8_planTurn 11 = .ok (.iload_n 2, 1) := by decide +kernel
theorem dX8_planTurn_12 : decode cX8_planTurn 12 = .ok (.iload_n 3, 1) := by decide +kernel
theorem dX8_planTurn_13 : decode cX8_planTurn 13 = .ok (.invokestatic 152, 3) := by decide +kernel
theorem dX8_planTurn_16 : decode cX8_planTurn 16 = .ok (.ifCond .ne 6, 3) := by decide +kernel
theorem dX8_planTurn_19 : decode cX8_planTurn 19 = .ok (.ldc 123, 2) := by decide +kernel
theorem dX8_planTurn_21 : decode cX8_planTurn 21 = .ok (.ireturn, 1) := by decide +kernel
theorem dX8_planTurn_22 : decode cX8_planTurn 22 = .ok (.iload_n 1, 1) := by decide +kernel
theorem dX8_planTurn_23 : decode cX8_planTurn 23 = .ok (.aload_n 0, 1) := by decide +kernel
theorem dX8_planTurn_24 : decode cX8_planTurn 24 = .ok (.getfield 7, 3) := by decide +kernel
theorem dX8_planTurn_27 : decode cX8_planTurn 27 = .ok (.iconst 1, 1) := by decide +kernel
theorem dX8_planTurn_28 : decode cX8_planTurn 28 = .ok (.iaload, 1) := by decide +kernel
theorem dX8_planTurn_29 : decode cX8_planTurn 29 = .ok (.if_icmp .le 13, 3) := by decide +kernel
theorem dX8_planTurn_32 : decode cX8_planTurn 32 = .ok (.aload_n 0, 1) := by decide +kernel
theorem dX8_planTurn_33 : decode cX8_planTurn 33 = .ok (.iload_n 1, 1) := by decide +kernel
theorem dX8_planTurn_34 : decode cX8_planTurn 34 = .ok (.invokevirtual 156, 3) := by decide +kernel
theorem dX8_planTurn_37 : decode cX8_planTurn 37 = .ok (.ldc 69, 2) := by decide +kernel
theorem dX8_planTurn_39 : decode cX8_planTurn 39 = .ok (.if_icmp .eq 6, 3) := by decide +kernel
theorem dX8_planTurn_42 : decode cX8_planTurn 42 = .ok (.ldc 148, 2) := by decide +kernel
theorem dX8_planTurn_44 : decode cX8_planTurn 44 = .ok (.ireturn, 1) := by decide +kernel
theorem dX8_planTurn_45 : decode cX8_planTurn 45 = .ok (.aload_n 0, 1) := by decide +kernel
theorem dX8_planTurn_46 : decode cX8_planTurn 46 = .ok (.getfield 7, 3) := by decide +kernel
theorem dX8_planTurn_49 : decode cX8_planTurn 49 = .ok (.bipush 6, 2) := by decide +kernel
theorem dX8_planTurn_51 : decode cX8_planTurn 51 = .ok (.iaload, 1) := by decide +kernel
theorem dX8_planTurn_52 : decode cX8_planTurn 52 = .ok (.bipush 8, 2) := by decide +kernel
theorem dX8_planTurn_54 : decode cX8_planTurn 54 = .ok (.if_icmp .ne 6, 3) := by decide +kernel
theorem dX8_planTurn_57 : decode cX8_planTurn 57 = .ok (.ldc 128, 2) := by decide +kernel
theorem dX8_planTurn_59 : decode cX8_planTurn 59 = .ok (.ireturn, 1) := by decide +kernel
theorem dX8_planTurn_60 : decode cX8_planTurn 60 = .ok (.aload_n 0, 1) := by decide +kernel
theorem dX8_planTurn_61 : decode cX8_planTurn 61 = .ok (.invokevirtual 129, 3) := by decide +kernel
theorem dX8_planTurn_64 : decode cX8_planTurn 64 = .ok (.aload_n 0, 1) := by decide +kernel
theorem dX8_planTurn_65 : decode cX8_planTurn 65 = .ok (.getfield 7, 3) := by decide +kernel
theorem dX8_planTurn_68 : decode cX8_planTurn 68 = .ok (.bipush 6, 2) := by decide +kernel
theorem dX8_planTurn_70 : decode cX8_planTurn 70 = .ok (.iaload, 1) := by decide +kernel
theorem dX8_planTurn_71 : decode cX8_planTurn 71 = .ok (.istore 4, 2) := by decide +kernel
theorem dX8_planTurn_73 : decode cX8_planTurn 73 = .ok (.iload 4, 2) := by decide +kernel
theorem dX8_planTurn_75 : decode cX8_planTurn 75 = .ok (.ifCond .le 74, 3) := by decide +kernel
theorem dX8_planTurn_78 : decode cX8_planTurn 78 = .ok (.aload_n 0, 1) := by decide +kernel
theorem dX8_planTurn_79 : decode cX8_planTurn 79 = .ok (.getfield 7, 3) := by decide +kernel
theorem dX8_planTurn_82 : decode cX8_planTurn 82 = .ok (.bipush 84, 2) := by decide +kernel
theorem dX8_planTurn_84 : decode cX8_planTurn 84 = .ok (.iconst 3, 1) := by decide +kernel
theorem dX8_planTurn_85 : decode cX8_planTurn 85 = .ok (.iload 4, 2) := by decide +kernel
theorem dX8_planTurn_87 : decode cX8_planTurn 87 = .ok (.iconst 1, 1) := by decide +kernel
theorem dX8_planTurn_88 : decode cX8_planTurn 88 = .ok (.isub, 1) := by decide +kernel
theorem dX8_planTurn_89 : decode cX8_planTurn 89 = .ok (.imul, 1) := by decide +kernel
theorem dX8_planTurn_90 : decode cX8_planTurn 90 = .ok (.iadd, 1) := by decide +kernel
theorem dX8_planTurn_91 : decode cX8_planTurn 91 = .ok (.iaload, 1) := by decide +kernel
theorem dX8_planTurn_92 : decode cX8_planTurn 92 = .ok (.iload_n 1, 1) := by decide +kernel
theorem dX8_planTurn_93 : decode cX8_planTurn 93 = .ok (.if_icmp .le 56, 3) := by decide +kernel
theorem dX8_planTurn_96 : decode cX8_planTurn 96 = .ok (.iconst 0, 1) := by decide +kernel
theorem dX8_planTurn_97 : decode cX8_planTurn 97 = .ok (.istore 5, 2) := by decide +kernel
theorem dX8_planTurn_99 : decode cX8_planTurn 99 = .ok (.iload 5, 2) := by decide +kernel
theorem dX8_planTurn_101 : decode cX8_planTurn 101 = .ok (.iconst 3, 1) := by decide +kernel
theorem dX8_planTurn_102 : decode cX8_planTurn 102 = .ok (.if_icmp .ge 41, 3) := by decide +kernel
theorem dX8_planTurn_105 : decode cX8_planTurn 105 = .ok (.aload_n 0, 1) := by decide +kernel
theorem dX8_planTurn_106 : decode cX8_planTurn 106 = .ok (.getfield 7, 3) := by decide +kernel
theorem dX8_planTurn_109 : decode cX8_planTurn 109 = .ok (.bipush 84, 2) := by decide +kernel
theorem dX8_planTurn_111 : decode cX8_planTurn 111 = .ok (.iconst 3, 1) := by decide +kernel
theorem dX8_planTurn_112 : decode cX8_planTurn 112 = .ok (.iload 4, 2) := by decide +kernel
theorem dX8_planTurn_114 : decode cX8_planTurn 114 = .ok (.imul, 1) := by decide +kernel
theorem dX8_planTurn_115 : decode cX8_planTurn 115 = .ok (.iadd, 1) := by decide +kernel
theorem dX8_planTurn_116 : decode cX8_planTurn 116 = .ok (.iload 5, 2) := by decide +kernel
theorem dX8_planTurn_118 : decode cX8_planTurn 118 = .ok (.iadd, 1) := by decide +kernel
theorem dX8_planTurn_119 : decode cX8_planTurn 119 = .ok (.aload_n 0, 1) := by decide +kernel
theorem dX8_planTurn_120 : decode cX8_planTurn 120 = .ok (.getfield 7, 3) := by decide +kernel
theorem dX8_planTurn_123 : decode cX8_planTurn 123 = .ok (.bipush 84, 2) := by decide +kernel
theorem dX8_planTurn_125 : decode cX8_planTurn 125 = .ok (.iconst 3, 1) := by decide +kernel
theorem dX8_planTurn_126 : decode cX8_planTurn 126 = .ok (.iload 4, 2) := by decide +kernel
theorem dX8_planTurn_128 : decode cX8_planTurn 128 = .ok (.iconst 1, 1) := by decide +kernel
theorem dX8_planTurn_129 : decode cX8_planTurn 129 = .ok (.isub, 1) := by decide +kernel
theorem dX8_planTurn_130 : decode cX8_planTurn 130 = .ok (.imul, 1) := by decide +kernel
theorem dX8_planTurn_131 : decode cX8_planTurn 131 = .ok (.iadd, 1) := by decide +kernel
theorem dX8_planTurn_132 : decode cX8_planTurn 132 = .ok (.iload 5, 2) := by decide +kernel
theorem dX8_planTurn_134 : decode cX8_planTurn 134 = .ok (.iadd, 1) := by decide +kernel
theorem dX8_planTurn_135 : decode cX8_planTurn 135 = .ok (.iaload, 1) := by decide +kernel
theorem dX8_planTurn_136 : decode cX8_planTurn 136 = .ok (.iastore, 1) := by decide +kernel
theorem dX8_planTurn_137 : decode cX8_planTurn 137 = .ok (.iinc 5 1, 3) := by decide +kernel
theorem dX8_planTurn_140 : decode cX8_planTurn 140 = .ok (.goto (-41), 3) := by decide +kernel
theorem dX8_planTurn_143 : decode cX8_planTurn 143 = .ok (.iinc 4 (-1), 3) := by decide +kernel
theorem dX8_planTurn_146 : decode cX8_planTurn 146 = .ok (.goto (-73), 3) := by decide +kernel
theorem dX8_planTurn_149 : decode cX8_planTurn 149 = .ok (.aload_n 0, 1) := by decide +kernel
theorem dX8_planTurn_150 : decode cX8_planTurn 150 = .ok (.getfield 7, 3) := by decide +kernel
theorem dX8_planTurn_153 : decode cX8_planTurn 153 = .ok (.bipush 84, 2) := by decide +kernel
theorem dX8_planTurn_155 : decode cX8_planTurn 155 = .ok (.iconst 3, 1) := by decide +kernel
theorem dX8_planTurn_156 : decode cX8_planTurn 156 = .ok (.iload 4, 2) := by decide +kernel
theorem dX8_planTurn_158 : decode cX8_planTurn 158 = .ok (.imul, 1) := by decide +kernel
theorem dX8_planTurn_159 : decode cX8_planTurn 159 = .ok (.iadd, 1) := by decide +kernel
theorem dX8_planTurn_160 : decode cX8_planTurn 160 = .ok (.iload_n 1, 1) := by decide +kernel
theorem dX8_planTurn_161 : decode cX8_planTurn 161 = .ok (.iastore, 1) := by decide +kernel
theorem dX8_planTurn_162 : decode cX8_planTurn 162 = .ok (.aload_n 0, 1) := by decide +kernel
theorem dX8_planTurn_163 : decode cX8_planTurn 163 = .ok (.getfield 7, 3) := by decide +kernel
theorem dX8_planTurn_166 : decode cX8_planTurn 166 = .ok (.bipush 84, 2) := by decide +kernel
theorem dX8_planTurn_168 : decode cX8_planTurn 168 = .ok (.iconst 3, 1) := by decide +kernel
theorem dX8_planTurn_169 : decode cX8_planTurn 169 = .ok (.iload 4, 2) := by decide +kernel
theorem dX8_planTurn_171 : decode cX8_planTurn 171 = .ok (.imul, 1) := by decide +kernel
theorem dX8_planTurn_172 : decode cX8_planTurn 172 = .ok (.iadd, 1) := by decide +kernel
theorem dX8_planTurn_173 : decode cX8_planTurn 173 = .ok (.iconst 1, 1) := by decide +kernel
theorem dX8_planTurn_174 : decode cX8_planTurn 174 = .ok (.iadd, 1) := by decide +kernel
theorem dX8_planTurn_175 : decode cX8_planTurn 175 = .ok (.iload_n 2, 1) := by decide +kernel
theorem dX8_planTurn_176 : decode cX8_planTurn 176 = .ok (.iastore, 1) := by decide +kernel
theorem dX8_planTurn_177 : decode cX8_planTurn 177 = .ok (.aload_n 0, 1) := by decide +kernel
theorem dX8_planTurn_178 : decode cX8_planTurn 178 = .ok (.getfield 7, 3) := by decide +kernel
theorem dX8_planTurn_181 : decode cX8_planTurn 181 = .ok (.bipush 84, 2) := by decide +kernel
theorem dX8_planTurn_183 : decode cX8_planTurn 183 = .ok (.iconst 3, 1) := by decide +kernel
theorem dX8_planTurn_184 : decode cX8_planTurn 184 = .ok (.iload 4, 2) := by decide +kernel
theorem dX8_planTurn_186 : decode cX8_planTurn 186 = .ok (.imul, 1) := by decide +kernel
theorem dX8_planTurn_187 : decode cX8_planTurn 187 = .ok (.iadd, 1) := by decide +kernel
theorem dX8_planTurn_188 : decode cX8_planTurn 188 = .ok (.iconst 2, 1) := by decide +kernel
theorem dX8_planTurn_189 : decode cX8_planTurn 189 = .ok (.iadd, 1) := by decide +kernel
theorem dX8_planTurn_190 : decode cX8_planTurn 190 = .ok (.iload_n 3, 1) := by decide +kernel
theorem dX8_planTurn_191 : decode cX8_planTurn 191 = .ok (.iastore, 1) := by decide +kernel
theorem dX8_planTurn_192 : decode cX8_planTurn 192 = .ok (.aload_n 0, 1) := by decide +kernel
theorem dX8_planTurn_193 : decode cX8_planTurn 193 = .ok (.getfield 7, 3) := by decide +kernel
theorem dX8_planTurn_196 : decode cX8_planTurn 196 = .ok (.bipush 6, 2) := by decide +kernel
theorem dX8_planTurn_198 : decode cX8_planTurn 198 = .ok (.dup2, 1) := by decide +kernel
theorem dX8_planTurn_199 : decode cX8_planTurn 199 = .ok (.iaload, 1) := by decide +kernel
theorem dX8_planTurn_200 : decode cX8_planTurn 200 = .ok (.iconst 1, 1) := by decide +kernel
theorem dX8_planTurn_201 : decode cX8_planTurn 201 = .ok (.iadd, 1) := by decide +kernel
theorem dX8_planTurn_202 : decode cX8_planTurn 202 = .ok (.iastore, 1) := by decide +kernel
theorem dX8_planTurn_203 : decode cX8_planTurn 203 = .ok (.aload_n 0, 1) := by decide +kernel
theorem dX8_planTurn_204 : decode cX8_planTurn 204 = .ok (.getfield 7, 3) := by decide +kernel
theorem dX8_planTurn_207 : decode cX8_planTurn 207 = .ok (.bipush 6, 2) := by decide +kernel
theorem dX8_planTurn_209 : decode cX8_planTurn 209 = .ok (.iaload, 1) := by decide +kernel
theorem dX8_planTurn_210 : decode cX8_planTurn 210 = .ok (.ireturn, 1) := by decide +kernel
theorem dX8_dropTurn_0 : decode cX8_dropTurn 0 = .ok (.aload_n 0, 1) := by decide +kernel
theorem dX8_dropTurn_1 : decode cX8_dropTurn 1 = .ok (.iload_n 1, 1) := by decide +kernel
theorem dX8_dropTurn_2 : decode cX8_dropTurn 2 = .ok (.invokevirtual 156, 3) := by decide +kernel
theorem dX8_dropTurn_5 : decode cX8_dropTurn 5 = .ok (.istore_n 2, 1) := by decide +kernel
theorem dX8_dropTurn_6 : decode cX8_dropTurn 6 = .ok (.iload_n 2, 1) := by decide +kernel
theorem dX8_dropTurn_7 : decode cX8_dropTurn 7 = .ok (.ldc 69, 2) := by decide +kernel
theorem dX8_dropTurn_9 : decode cX8_dropTurn 9 = .ok (.if_icmp .ne 6, 3) := by decide +kernel
theorem dX8_dropTurn_12 : decode cX8_dropTurn 12 = .ok (.ldc 147, 2) := by decide +kernel
theorem dX8_dropTurn_14 : decode cX8_dropTurn 14 = .ok (.ireturn, 1) := by decide +kernel
theorem dX8_dropTurn_15 : decode cX8_dropTurn 15 = .ok (.aload_n 0, 1) := by decide +kernel
theorem dX8_dropTurn_16 : decode cX8_dropTurn 16 = .ok (.invokevirtual 129, 3) := by decide +kernel
theorem dX8_dropTurn_19 : decode cX8_dropTurn 19 = .ok (.aload_n 0, 1) := by decide +kernel
theorem dX8_dropTurn_20 : decode cX8_dropTurn 20 = .ok (.getfield 7, 3) := by decide +kernel
theorem dX8_dropTurn_23 : decode cX8_dropTurn 23 = .ok (.iload_n 2, 1) := by decide +kernel
theorem dX8_dropTurn_24 : decode cX8_dropTurn 24 = .ok (.invokestatic 98, 3) := by decide +kernel
theorem dX8_dropTurn_27 : decode cX8_dropTurn 27 = .ok (.aload_n 0, 1) := by decide +kernel
theorem dX8_dropTurn_28 : decode cX8_dropTurn 28 = .ok (.getfield 7, 3) := by decide +kernel
theorem dX8_dropTurn_31 : decode cX8_dropTurn 31 = .ok (.bipush 6, 2) := by decide +kernel
theorem dX8_dropTurn_33 : decode cX8_dropTurn 33 = .ok (.iaload, 1) := by decide +kernel
theorem dX8_dropTurn_34 : decode cX8_dropTurn 34 = .ok (.ireturn, 1) := by decide +kernel
theorem dX8_crowd_0 : decode cX8_crowd 0 = .ok (.iload_n 1, 1) := by decide +kernel
theorem dX8_crowd_1 : decode cX8_crowd 1 = .ok (.ifCond .eq 7, 3) := by decide +kernel
theorem dX8_crowd_4 : decode cX8_crowd 4 = .ok (.iconst 1, 1) := by decide +kernel
theorem dX8_crowd_5 : decode cX8_crowd 5 = .ok (.goto 4, 3) := by decide +kernel
theorem dX8_crowd_8 : decode cX8_crowd 8 = .ok (.iconst 0, 1) := by decide +kernel
theorem dX8_crowd_9 : decode cX8_crowd 9 = .ok (.istore_n 2, 1) := by decide +kernel
theorem dX8_crowd_10 : decode cX8_crowd 10 = .ok (.aload_n 0, 1) := by decide +kernel
theorem dX8_crowd_11 : decode cX8_crowd 11 = .ok (.getfield 7, 3) := by decide +kernel
theorem dX8_crowd_14 : decode cX8_crowd 14 = .ok (.iconst 4, 1) := by decide +kernel
theorem dX8_crowd_15 : decode cX8_crowd 15 = .ok (.iaload, 1) := by decide +kernel
theorem dX8_crowd_16 : decode cX8_crowd 16 = .ok (.iload_n 2, 1) := by decide +kernel
theorem dX8_crowd_17 : decode cX8_crowd 17 = .ok (.if_icmp .ne 6, 3) := by decide +kernel
theorem dX8_crowd_20 : decode cX8_crowd 20 = .ok (.ldc 69, 2) := by decide +kernel
theorem dX8_crowd_22 : decode cX8_crowd 22 = .ok (.ireturn, 1) := by decide +kernel

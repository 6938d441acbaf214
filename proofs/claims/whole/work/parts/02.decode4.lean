theorem dX8_crowd_23 : decode cX8_crowd 23 = .ok (.aload_n 0, 1) := by decide +kernel
theorem dX8_crowd_24 : decode cX8_crowd 24 = .ok (.invokevirtual 129, 3) := by decide +kernel
theorem dX8_crowd_27 : decode cX8_crowd 27 = .ok (.aload_n 0, 1) := by decide +kernel
theorem dX8_crowd_28 : decode cX8_crowd 28 = .ok (.getfield 7, 3) := by decide +kernel
theorem dX8_crowd_31 : decode cX8_crowd 31 = .ok (.iconst 4, 1) := by decide +kernel
theorem dX8_crowd_32 : decode cX8_crowd 32 = .ok (.iload_n 2, 1) := by decide +kernel
theorem dX8_crowd_33 : decode cX8_crowd 33 = .ok (.iastore, 1) := by decide +kernel
theorem dX8_crowd_34 : decode cX8_crowd 34 = .ok (.aload_n 0, 1) := by decide +kernel
theorem dX8_crowd_35 : decode cX8_crowd 35 = .ok (.getfield 7, 3) := by decide +kernel
theorem dX8_crowd_38 : decode cX8_crowd 38 = .ok (.invokestatic 70, 3) := by decide +kernel
theorem dX8_crowd_41 : decode cX8_crowd 41 = .ok (.ireturn, 1) := by decide +kernel
theorem dX8_setTangle_0 : decode cX8_setTangle 0 = .ok (.iload_n 1, 1) := by decide +kernel
theorem dX8_setTangle_1 : decode cX8_setTangle 1 = .ok (.iconst 1, 1) := by decide +kernel
theorem dX8_setTangle_2 : decode cX8_setTangle 2 = .ok (.bipush 9, 2) := by decide +kernel
theorem dX8_setTangle_4 : decode cX8_setTangle 4 = .ok (.invokestatic 47, 3) := by decide +kernel
theorem dX8_setTangle_7 : decode cX8_setTangle 7 = .ok (.ifCond .ne 6, 3) := by decide +kernel
theorem dX8_setTangle_10 : decode cX8_setTangle 10 = .ok (.ldc 123, 2) := by decide +kernel
theorem dX8_setTangle_12 : decode cX8_setTangle 12 = .ok (.ireturn, 1) := by decide +kernel
theorem dX8_setTangle_13 : decode cX8_setTangle 13 = .ok (.aload_n 0, 1) := by decide +kernel
theorem dX8_setTangle_14 : decode cX8_setTangle 14 = .ok (.getfield 7, 3) := by decide +kernel
theorem dX8_setTangle_17 : decode cX8_setTangle 17 = .ok (.iconst 5, 1) := by decide +kernel
theorem dX8_setTangle_18 : decode cX8_setTangle 18 = .ok (.iaload, 1) := by decide +kernel
theorem dX8_setTangle_19 : decode cX8_setTangle 19 = .ok (.istore_n 2, 1) := by decide +kernel
theorem dX8_setTangle_20 : decode cX8_setTangle 20 = .ok (.iload_n 2, 1) := by decide +kernel
theorem dX8_setTangle_21 : decode cX8_setTangle 21 = .ok (.iload_n 1, 1) := by decide +kernel
theorem dX8_setTangle_22 : decode cX8_setTangle 22 = .ok (.if_icmp .ne 6, 3) := by decide +kernel
theorem dX8_setTangle_25 : decode cX8_setTangle 25 = .ok (.ldc 69, 2) := by decide +kernel
theorem dX8_setTangle_27 : decode cX8_setTangle 27 = .ok (.ireturn, 1) := by decide +kernel
theorem dX8_setTangle_28 : decode cX8_setTangle 28 = .ok (.aload_n 0, 1) := by decide +kernel
theorem dX8_setTangle_29 : decode cX8_setTangle 29 = .ok (.invokevirtual 129, 3) := by decide +kernel
theorem dX8_setTangle_32 : decode cX8_setTangle 32 = .ok (.aload_n 0, 1) := by decide +kernel
theorem dX8_setTangle_33 : decode cX8_setTangle 33 = .ok (.getfield 7, 3) := by decide +kernel
theorem dX8_setTangle_36 : decode cX8_setTangle 36 = .ok (.iconst 5, 1) := by decide +kernel
theorem dX8_setTangle_37 : decode cX8_setTangle 37 = .ok (.iload_n 1, 1) := by decide +kernel
theorem dX8_setTangle_38 : decode cX8_setTangle 38 = .ok (.iastore, 1) := by decide +kernel
theorem dX8_setTangle_39 : decode cX8_setTangle 39 = .ok (.iload_n 2, 1) := by decide +kernel
theorem dX8_setTangle_40 : decode cX8_setTangle 40 = .ok (.ireturn, 1) := by decide +kernel
theorem dX8_wordFault_0 : decode cX8_wordFault 0 = .ok (.iconst 0, 1) := by decide +kernel
theorem dX8_wordFault_1 : decode cX8_wordFault 1 = .ok (.istore_n 1, 1) := by decide +kernel
theorem dX8_wordFault_2 : decode cX8_wordFault 2 = .ok (.iload_n 1, 1) := by decide +kernel
theorem dX8_wordFault_3 : decode cX8_wordFault 3 = .ok (.aload_n 0, 1) := by decide +kernel
theorem dX8_wordFault_4 : decode cX8_wordFault 4 = .ok (.getfield 141, 3) := by decide +kernel
theorem dX8_wordFault_7 : decode cX8_wordFault 7 = .ok (.if_icmp .ge 31, 3) := by decide +kernel
theorem dX8_wordFault_10 : decode cX8_wordFault 10 = .ok (.iload_n 1, 1) := by decide +kernel
theorem dX8_wordFault_11 : decode cX8_wordFault 11 = .ok (.bipush 12, 2) := by decide +kernel
theorem dX8_wordFault_13 : decode cX8_wordFault 13 = .ok (.if_icmp .ge 25, 3) := by decide +kernel
theorem dX8_wordFault_16 : decode cX8_wordFault 16 = .ok (.aload_n 0, 1) := by decide +kernel
theorem dX8_wordFault_17 : decode cX8_wordFault 17 = .ok (.getfield 22, 3) := by decide +kernel
theorem dX8_wordFault_20 : decode cX8_wordFault 20 = .ok (.iload_n 1, 1) := by decide +kernel
theorem dX8_wordFault_21 : decode cX8_wordFault 21 = .ok (.caload, 1) := by decide +kernel
theorem dX8_wordFault_22 : decode cX8_wordFault 22 = .ok (.bipush 97, 2) := by decide +kernel
theorem dX8_wordFault_24 : decode cX8_wordFault 24 = .ok (.bipush 122, 2) := by decide +kernel
theorem dX8_wordFault_26 : decode cX8_wordFault 26 = .ok (.invokestatic 47, 3) := by decide +kernel
theorem dX8_wordFault_29 : decode cX8_wordFault 29 = .ok (.ifCond .eq 9, 3) := by decide +kernel
theorem dX8_wordFault_32 : decode cX8_wordFault 32 = .ok (.iinc 1 1, 3) := by decide +kernel
theorem dX8_wordFault_35 : decode cX8_wordFault 35 = .ok (.goto (-33), 3) := by decide +kernel
theorem dX8_wordFault_38 : decode cX8_wordFault 38 = .ok (.iload_n 1, 1) := by decide +kernel
theorem dX8_wordFault_39 : decode cX8_wordFault 39 = .ok (.aload_n 0, 1) := by decide +kernel
theorem dX8_wordFault_40 : decode cX8_wordFault 40 = .ok (.getfield 141, 3) := by decide +kernel
theorem dX8_wordFault_43 : decode cX8_wordFault 43 = .ok (.if_icmp .ne 15, 3) := by decide +kernel
theorem dX8_wordFault_46 : decode cX8_wordFault 46 = .ok (.aload_n 0, 1) := by decide +kernel
theorem dX8_wordFault_47 : decode cX8_wordFault 47 = .ok (.getfield 141, 3) := by decide +kernel
theorem dX8_wordFault_50 : decode cX8_wordFault 50 = .ok (.ifCond .le 8, 3) := by decide +kernel
theorem dX8_wordFault_53 : decode cX8_wordFault 53 = .ok (.ldc 69, 2) := by decide +kernel
theorem dX8_wordFault_55 : decode cX8_wordFault 55 = .ok (.goto 4, 3) := by decide +kernel
theorem dX8_wordFault_58 : decode cX8_wordFault 58 = .ok (.iload_n 1, 1) := by decide +kernel
theorem dX8_wordFault_59 : decode cX8_wordFault 59 = .ok (.ireturn, 1) := by decide +kernel
theorem dX8_rowFault_0 : decode cX8_rowFault 0 = .ok (.iconst 0, 1) := by decide +kernel
theorem dX8_rowFault_1 : decode cX8_rowFault 1 = .ok (.istore_n 1, 1) := by decide +kernel
theorem dX8_rowFault_2 : decode cX8_rowFault 2 = .ok (.iconst 1, 1) := by decide +kernel
theorem dX8_rowFault_3 : decode cX8_rowFault 3 = .ok (.istore_n 2, 1) := by decide +kernel
theorem dX8_rowFault_4 : decode cX8_rowFault 4 = .ok (.iload_n 1, 1) := by decide +kernel
theorem dX8_rowFault_5 : decode cX8_rowFault 5 = .ok (.aload_n 0, 1) := by decide +kernel
theorem dX8_rowFault_6 : decode cX8_rowFault 6 = .ok (.getfield 141, 3) := by decide +kernel
theorem dX8_rowFault_9 : decode cX8_rowFault 9 = .ok (.if_icmp .ge 84, 3) := by decide +kernel
theorem dX8_rowFault_12 : decode cX8_rowFault 12 = .ok (.iload_n 2, 1) := by decide +kernel
theorem dX8_rowFault_13 : decode cX8_rowFault 13 = .ok (.ifCond .eq 80, 3) := by decide +kernel
theorem dX8_rowFault_16 : decode cX8_rowFault 16 = .ok (.iload_n 1, 1) := by decide +kernel
theorem dX8_rowFault_17 : decode cX8_rowFault 17 = .ok (.iconst 3, 1) := by decide +kernel
theorem dX8_rowFault_18 : decode cX8_rowFault 18 = .ok (.irem, 1) := by decide +kernel
theorem dX8_rowFault_19 : decode cX8_rowFault 19 = .ok (.ifCond .ne 19, 3) := by decide +kernel
theorem dX8_rowFault_22 : decode cX8_rowFault 22 = .ok (.aload_n 0, 1) := by decide +kernel
theorem dX8_rowFault_23 : decode cX8_rowFault 23 = .ok (.getfield 22, 3) := by decide +kernel
theorem dX8_rowFault_26 : decode cX8_rowFault 26 = .ok (.iload_n 1, 1) := by decide +kernel
theorem dX8_rowFault_27 : decode cX8_rowFault 27 = .ok (.caload, 1) := by decide +kernel
theorem dX8_rowFault_28 : decode cX8_rowFault 28 = .ok (.bipush 97, 2) := by decide +kernel
theorem dX8_rowFault_30 : decode cX8_rowFault 30 = .ok (.bipush 122, 2) := by decide +kernel
theorem dX8_rowFault_32 : decode cX8_rowFault 32 = .ok (.invokestatic 47, 3) := by decide +kernel
theorem dX8_rowFault_35 : decode cX8_rowFault 35 = .ok (.goto 42, 3) := by decide +kernel
theorem dX8_rowFault_38 : decode cX8_rowFault 38 = .ok (.iload_n 1, 1) := by decide +kernel
theorem dX8_rowFault_39 : decode cX8_rowFault 39 = .ok (.iconst 3, 1) := by decide +kernel
theorem dX8_rowFault_40 : decode cX8_rowFault 40 = .ok (.irem, 1) := by decide +kernel
theorem dX8_rowFault_41 : decode cX8_rowFault 41 = .ok (.iconst 1, 1) := by decide +kernel
theorem dX8_rowFault_42 : decode cX8_rowFault 42 = .ok (.if_icmp .ne 19, 3) := by decide +kernel
theorem dX8_rowFault_45 : decode cX8_rowFault 45 = .ok (.aload_n 0, 1) := by decide +kernel
theorem dX8_rowFault_46 : decode cX8_rowFault 46 = .ok (.getfield 22, 3) := by decide +kernel
theorem dX8_rowFault_49 : decode cX8_rowFault 49 = .ok (.iload_n 1, 1) := by decide +kernel
theorem dX8_rowFault_50 : decode cX8_rowFault 50 = .ok (.caload, 1) := by decide +kernel
theorem dX8_rowFault_51 : decode cX8_rowFault 51 = .ok (.bipush 49, 2) := by decide +kernel
theorem dX8_rowFault_53 : decode cX8_rowFault 53 = .ok (.bipush 57, 2) := by decide +kernel
theorem dX8_rowFault_55 : decode cX8_rowFault 55 = .ok (.invokestatic 47, 3) := by decide +kernel
theorem dX8_rowFault_58 : decode cX8_rowFault 58 = .ok (.goto 19, 3) := by decide +kernel
theorem dX8_rowFault_61 : decode cX8_rowFault 61 = .ok (.aload_n 0, 1) := by decide +kernel
theorem dX8_rowFault_62 : decode cX8_rowFault 62 = .ok (.getfield 22, 3) := by decide +kernel
theorem dX8_rowFault_65 : decode cX8_rowFault 65 = .ok (.iload_n 1, 1) := by decide +kernel
theorem dX8_rowFault_66 : decode cX8_rowFault 66 = .ok (.caload, 1) := by decide +kernel
theorem dX8_rowFault_67 : decode cX8_rowFault 67 = .ok (.bipush 44, 2) := by decide +kernel
theorem dX8_rowFault_69 : decode cX8_rowFault 69 = .ok (.if_icmp .ne 7, 3) := by decide +kernel
theorem dX8_rowFault_72 : decode cX8_rowFault 72 = .ok (.iconst 1, 1) := by decide +kernel
theorem dX8_rowFault_73 : decode cX8_rowFault 73 = .ok (.goto 4, 3) := by decide +kernel
theorem dX8_rowFault_76 : decode cX8_rowFault 76 = .ok (.iconst 0, 1) := by decide +kernel
theorem dX8_rowFault_77 : decode cX8_rowFault 77 = .ok (.istore_n 2, 1) := by decide +kernel
theorem dX8_rowFault_78 : decode cX8_rowFault 78 = .ok (.iload_n 1, 1) := by decide +kernel
theorem dX8_rowFault_79 : decode cX8_rowFault 79 = .ok (.iload_n 2, 1) := by decide +kernel
theorem dX8_rowFault_80 : decode cX8_rowFault 80 = .ok (.ifCond .eq 7, 3) := by decide +kernel
theorem dX8_rowFault_83 : decode cX8_rowFault 83 = .ok (.iconst 1, 1) := by decide +kernel
theorem dX8_rowFault_84 : decode cX8_rowFault 84 = .ok (.goto 4, 3) := by decide +kernel
theorem dX8_rowFault_87 : decode cX8_rowFault 87 = .ok (.iconst 0, 1) := by decide +kernel
theorem dX8_rowFault_88 : decode cX8_rowFault 88 = .ok (.iadd, 1) := by decide +kernel
theorem dX8_rowFault_89 : decode cX8_rowFault 89 = .ok (.istore_n 1, 1) := by decide +kernel
theorem dX8_rowFault_90 : decode cX8_rowFault 90 = .ok (.goto (-86), 3) := by decide +kernel
theorem dX8_rowFault_93 : decode cX8_rowFault 93 = .ok (.iload_n 2, 1) := by decide +kernel
theorem dX8_rowFault_94 : decode cX8_rowFault 94 = .ok (.ifCond .eq 18, 3) := by decide +kernel
theorem dX8_rowFault_97 : decode cX8_rowFault 97 = .ok (.aload_n 0, 1) := by decide +kernel
theorem dX8_rowFault_98 : decode cX8_rowFault 98 = .ok (.getfield 141, 3) := by decide +kernel
theorem dX8_rowFault_101 : decode cX8_rowFault 101 = .ok (.iconst 3, 1) := by decide +kernel
theorem dX8_rowFault_102 : decode cX8_rowFault 102 = .ok (.irem, 1) := by decide +kernel
theorem dX8_rowFault_103 : decode cX8_rowFault 103 = .ok (.iconst 2, 1) := by decide +kernel
theorem dX8_rowFault_104 : decode cX8_rowFault 104 = .ok (.if_icmp .ne 8, 3) := by decide +kernel
theorem dX8_rowFault_107 : decode cX8_rowFault 107 = .ok (.ldc 69, 2) := by decide +kernel
theorem dX8_rowFault_109 : decode cX8_rowFault 109 = .ok (.goto 4, 3) := by decide +kernel
theorem dX8_rowFault_112 : decode cX8_rowFault 112 = .ok (.iload_n 1, 1) := by decide +kernel
theorem dX8_rowFault_113 : decode cX8_rowFault 113 = .ok (.ireturn, 1) := by decide +kernel
theorem dX8_isWord_0 : decode cX8_isWord 0 = .ok (.aload_n 0, 1) := by decide +kernel
theorem dX8_isWord_1 : decode cX8_isWord 1 = .ok (.getfield 7, 3) := by decide +kernel
theorem dX8_isWord_4 : decode cX8_isWord 4 = .ok (.bipush 7, 2) := by decide +kernel
theorem dX8_isWord_6 : decode cX8_isWord 6 = .ok (.iaload, 1) := by decide +kernel
theorem dX8_isWord_7 : decode cX8_isWord 7 = .ok (.aload_n 0, 1) := by decide +kernel
theorem dX8_isWord_8 : decode cX8_isWord 8 = .ok (.getfield 141, 3) := by decide +kernel
theorem dX8_isWord_11 : decode cX8_isWord 11 = .ok (.if_icmp .ne 7, 3) := by decide +kernel
theorem dX8_isWord_14 : decode cX8_isWord 14 = .ok (.iconst 1, 1) := by decide +kernel
theorem dX8_isWord_15 : decode cX8_isWord 15 = .ok (.goto 4, 3) := by decide +kernel
theorem dX8_isWord_18 : decode cX8_isWord 18 = .ok (.iconst 0, 1) := by decide +kernel
theorem dX8_isWord_19 : decode cX8_isWord 19 = .ok (.istore_n 1, 1) := by decide +kernel
theorem dX8_isWord_20 : decode cX8_isWord 20 = .ok (.iconst 0, 1) := by decide +kernel
theorem dX8_isWord_21 : decode cX8_isWord 21 = .ok (.istore_n 2, 1) := by decide +kernel
theorem dX8_isWord_22 : decode cX8_isWord 22 = .ok (.iload_n 2, 1) := by decide +kernel
theorem dX8_isWord_23 : decode cX8_isWord 23 = .ok (.aload_n 0, 1) := by decide +kernel
theorem dX8_isWord_24 : decode cX8_isWord 24 = .ok (.getfield 141, 3) := by decide +kernel
theorem dX8_isWord_27 : decode cX8_isWord 27 = .ok (.if_icmp .ge 37, 3) := by decide +kernel
theorem dX8_isWord_30 : decode cX8_isWord 30 = .ok (.iload_n 1, 1) := by decide +kernel
theorem dX8_isWord_31 : decode cX8_isWord 31 = .ok (.ifCond .eq 33, 3) := by decide +kernel
theorem dX8_isWord_34 : decode cX8_isWord 34 = .ok (.aload_n 0, 1) := by decide +kernel
theorem dX8_isWord_35 : decode cX8_isWord 35 = .ok (.getfield 7, 3) := by decide +kernel
theorem dX8_isWord_38 : decode cX8_isWord 38 = .ok (.bipush 108, 2) := by decide +kernel
theorem dX8_isWord_40 : decode cX8_isWord 40 = .ok (.iload_n 2, 1) := by decide +kernel
theorem dX8_isWord_41 : decode cX8_isWord 41 = .ok (.iadd, 1) := by decide +kernel
theorem dX8_isWord_42 : decode cX8_isWord 42 = .ok (.iaload, 1) := by decide +kernel
theorem dX8_isWord_43 : decode cX8_isWord 43 = .ok (.aload_n 0, 1) := by decide +kernel
theorem dX8_isWord_44 : decode cX8_isWord 44 = .ok (.getfield 22, 3) := by decide +kernel
theorem dX8_isWord_47 : decode cX8_isWord 47 = .ok (.iload_n 2, 1) := by decide +kernel
theorem dX8_isWord_48 : decode cX8_isWord 48 = .ok (.caload, 1) := by decide +kernel
theorem dX8_isWord_49 : decode cX8_isWord 49 = .ok (.if_icmp .ne 7, 3) := by decide +kernel
theorem dX8_isWord_52 : decode cX8_isWord 52 = .ok (.iconst 1, 1) := by decide +kernel
theorem dX8_isWord_53 : decode cX8_isWord 53 = .ok (.goto 4, 3) := by decide +kernel
theorem dX8_isWord_56 : decode cX8_isWord 56 = .ok (.iconst 0, 1) := by decide +kernel
theorem dX8_isWord_57 : decode cX8_isWord 57 = .ok (.istore_n 1, 1) := by decide +kernel
theorem dX8_isWord_58 : decode cX8_isWord 58 = .ok (.iinc 2 1, 3) := by decide +kernel
theorem dX8_isWord_61 : decode cX8_isWord 61 = .ok (.goto (-39), 3) := by decide +kernel
theorem dX8_isWord_64 : decode cX8_isWord 64 = .ok (.iload_n 1, 1) := by decide +kernel
theorem dX8_isWord_65 : decode cX8_isWord 65 = .ok (.ireturn, 1) := by decide +kernel
theorem dX8_want_0 : decode cX8_want 0 = .ok (.aload_n 0, 1) := by decide +kernel
theorem dX8_want_1 : decode cX8_want 1 = .ok (.invokevirtual 160, 3) := by decide +kernel
theorem dX8_want_4 : decode cX8_want 4 = .ok (.istore_n 1, 1) := by decide +kernel
theorem dX8_want_5 : decode cX8_want 5 = .ok (.iload_n 1, 1) := by decide +kernel
theorem dX8_want_6 : decode cX8_want 6 = .ok (.ldc 69, 2) := by decide +kernel
theorem dX8_want_8 : decode cX8_want 8 = .ok (.if_icmp .eq 8, 3) := by decide +kernel
theorem dX8_want_11 : decode cX8_want 11 = .ok (.ldc 140, 2) := by decide +kernel
theorem dX8_want_13 : decode cX8_want 13 = .ok (.iload_n 1, 1) := by decide +kernel
theorem dX8_want_14 : decode cX8_want 14 = .ok (.isub, 1) := by decide +kernel
theorem dX8_want_15 : decode cX8_want 15 = .ok (.ireturn, 1) := by decide +kernel
theorem dX8_want_16 : decode cX8_want 16 = .ok (.aload_n 0, 1) := by decide +kernel
theorem dX8_want_17 : decode cX8_want 17 = .ok (.invokevirtual 163, 3) := by decide +kernel
theorem dX8_want_20 : decode cX8_want 20 = .ok (.ifCond .eq 6, 3) := by decide +kernel
theorem dX8_want_23 : decode cX8_want 23 = .ok (.ldc 69, 2) := by decide +kernel
theorem dX8_want_25 : decode cX8_want 25 = .ok (.ireturn, 1) := by decide +kernel
theorem dX8_want_26 : decode cX8_want 26 = .ok (.aload_n 0, 1) := by decide +kernel
theorem dX8_want_27 : decode cX8_want 27 = .ok (.invokevirtual 129, 3) := by decide +kernel
theorem dX8_want_30 : decode cX8_want 30 = .ok (.iconst 0, 1) := by decide +kernel
theorem dX8_want_31 : decode cX8_want 31 = .ok (.istore_n 2, 1) := by decide +kernel
theorem dX8_want_32 : decode cX8_want 32 = .ok (.iload_n 2, 1) := by decide +kernel
theorem dX8_want_33 : decode cX8_want 33 = .ok (.bipush 12, 2) := by decide +kernel
theorem dX8_want_35 : decode cX8_want 35 = .ok (.if_icmp .ge 36, 3) := by decide +kernel
theorem dX8_want_38 : decode cX8_want 38 = .ok (.aload_n 0, 1) := by decide +kernel
theorem dX8_want_39 : decode cX8_want 39 = .ok (.getfield 7, 3) := by decide +kernel
theorem dX8_want_42 : decode cX8_want 42 = .ok (.bipush 108, 2) := by decide +kernel
theorem dX8_want_44 : decode cX8_want 44 = .ok (.iload_n 2, 1) := by decide +kernel
theorem dX8_want_45 : decode cX8_want 45 = .ok (.iadd, 1) := by decide +kernel
theorem dX8_want_46 : decode cX8_want 46 = .ok (.iload_n 2, 1) := by decide +kernel
theorem dX8_want_47 : decode cX8_want 47 = .ok (.aload_n 0, 1) := by decide +kernel
theorem dX8_want_48 : decode cX8_want 48 = .ok (.getfield 141, 3) := by decide +kernel
theorem dX8_want_51 : decode cX8_want 51 = .ok (.if_icmp .ge 12, 3) := by decide +kernel
theorem dX8_want_54 : decode cX8_want 54 = .ok (.aload_n 0, 1) := by decide +kernel
theorem dX8_want_55 : decode cX8_want 55 = .ok (.getfield 22, 3) := by decide +kernel
theorem dX8_want_58 : decode cX8_want 58 = .ok (.iload_n 2, 1) := by decide +kernel
theorem dX8_want_59 : decode cX8_want 59 = .ok (.caload, 1) := by decide +kernel
theorem dX8_want_60 : decode cX8_want 60 = .ok (.goto 4, 3) := by decide +kernel
theorem dX8_want_63 : decode cX8_want 63 = .ok (.iconst 0, 1) := by decide +kernel
theorem dX8_want_64 : decode cX8_want 64 = .ok (.iastore, 1) := by decide +kernel
theorem dX8_want_65 : decode cX8_want 65 = .ok (.iinc 2 1, 3) := by decide +kernel
theorem dX8_want_68 : decode cX8_want 68 = .ok (.goto (-36), 3) := by decide +kernel
theorem dX8_want_71 : decode cX8_want 71 = .ok (.aload_n 0, 1) := by decide +kernel
theorem dX8_want_72 : decode cX8_want 72 = .ok (.getfield 7, 3) := by decide +kernel
theorem dX8_want_75 : decode cX8_want 75 = .ok (.bipush 7, 2) := by decide +kernel
theorem dX8_want_77 : decode cX8_want 77 = .ok (.aload_n 0, 1) := by decide +kernel
theorem dX8_want_78 : decode cX8_want 78 = .ok (.getfield 141, 3) := by decide +kernel
theorem dX8_want_81 : decode cX8_want 81 = .ok (.iastore, 1) := by decide +kernel
theorem dX8_want_82 : decode cX8_want 82 = .ok (.aload_n 0, 1) := by decide +kernel
theorem dX8_want_83 : decode cX8_want 83 = .ok (.getfield 141, 3) := by decide +kernel
theorem dX8_want_86 : decode cX8_want 86 = .ok (.ireturn, 1) := by decide +kernel
theorem dX8_type_0 : decode cX8_type 0 = .ok (.aload_n 0, 1) := by decide +kernel
theorem dX8_type_1 : decode cX8_type 1 = .ok (.getfield 141, 3) := by decide +kernel
theorem dX8_type_4 : decode cX8_type 4 = .ok (.bipush 60, 2) := by decide +kernel
theorem dX8_type_6 : decode cX8_type 6 = .ok (.if_icmp .ne 6, 3) := by decide +kernel
theorem dX8_type_9 : decode cX8_type 9 = .ok (.ldc 128, 2) := by decide +kernel
theorem dX8_type_11 : decode cX8_type 11 = .ok (.ireturn, 1) := by decide +kernel
theorem dX8_type_12 : decode cX8_type 12 = .ok (.aload_n 0, 1) := by decide +kernel
theorem dX8_type_13 : decode cX8_type 13 = .ok (.getfield 22, 3) := by decide +kernel
theorem dX8_type_16 : decode cX8_type 16 = .ok (.aload_n 0, 1) := by decide +kernel
theorem dX8_type_17 : decode cX8_type 17 = .ok (.getfield 141, 3) := by decide +kernel
theorem dX8_type_20 : decode cX8_type 20 = .ok (.iload_n 1, 1) := by decide +kernel
theorem dX8_type_21 : decode cX8_type 21 = .ok (.castore, 1) := by decide +kernel
theorem dX8_type_22 : decode cX8_type 22 = .ok (.aload_n 0, 1) := by decide +kernel
theorem dX8_type_23 : decode cX8_type 23 = .ok (.dup, 1) := by decide +kernel
theorem dX8_type_24 : decode cX8_type 24 = .ok (.getfield 141, 3) := by decide +kernel
theorem dX8_type_27 : decode cX8_type 27 = .ok (.iconst 1, 1) := by decide +kernel
theorem dX8_type_28 : decode cX8_type 28 = .ok (.iadd, 1) := by decide +kernel
theorem dX8_type_29 : decode cX8_type 29 = .ok (.putfield 141, 3) := by decide +kernel
theorem dX8_type_32 : decode cX8_type 32 = .ok (.aload_n 0, 1) := by decide +kernel
theorem dX8_type_33 : decode cX8_type 33 = .ok (.getfield 141, 3) := by decide +kernel
theorem dX8_type_36 : decode cX8_type 36 = .ok (.ireturn, 1) := by decide +kernel
theorem dX8_clearText_0 : decode cX8_clearText 0 = .ok (.aload_n 0, 1) := by decide +kernel
theorem dX8_clearText_1 : decode cX8_clearText 1 = .ok (.getfield 141, 3) := by decide +kernel
theorem dX8_clearText_4 : decode cX8_clearText 4 = .ok (.istore_n 1, 1) := by decide +kernel
theorem dX8_clearText_5 : decode cX8_clearText 5 = .ok (.aload_n 0, 1) := by decide +kernel
theorem dX8_clearText_6 : decode cX8_clearText 6 = .ok (.iconst 0, 1) := by decide +kernel
theorem dX8_clearText_7 : decode cX8_clearText 7 = .ok (.putfield 141, 3) := by decide +kernel
theorem dX8_clearText_10 : decode cX8_clearText 10 = .ok (.iload_n 1, 1) := by decide +kernel
theorem dX8_clearText_11 : decode cX8_clearText 11 = .ok (.ireturn, 1) := by decide +kernel
theorem dX8_undo_0 : decode cX8_undo 0 = .ok (.aload_n 0, 1) := by decide +kernel
theorem dX8_undo_1 : decode cX8_undo 1 = .ok (.getfield 39, 3) := by decide +kernel
theorem dX8_undo_4 : decode cX8_undo 4 = .ok (.ifCond .ne 6, 3) := by decide +kernel
theorem dX8_undo_7 : decode cX8_undo 7 = .ok (.ldc 69, 2) := by decide +kernel
theorem dX8_undo_9 : decode cX8_undo 9 = .ok (.ireturn, 1) := by decide +kernel
theorem dX8_undo_10 : decode cX8_undo 10 = .ok (.aload_n 0, 1) := by decide +kernel
theorem dX8_undo_11 : decode cX8_undo 11 = .ok (.dup, 1) := by decide +kernel
theorem dX8_undo_12 : decode cX8_undo 12 = .ok (.getfield 39, 3) := by decide +kernel
theorem dX8_undo_15 : decode cX8_undo 15 = .ok (.iconst 1, 1) := by decide +kernel
theorem dX8_undo_16 : decode cX8_undo 16 = .ok (.isub, 1) := by decide +kernel
theorem dX8_undo_17 : decode cX8_undo 17 = .ok (.putfield 39, 3) := by decide +kernel
theorem dX8_undo_20 : decode cX8_undo 20 = .ok (.aload_n 0, 1) := by decide +kernel
theorem dX8_undo_21 : decode cX8_undo 21 = .ok (.getfield 16, 3) := by decide +kernel
theorem dX8_undo_24 : decode cX8_undo 24 = .ok (.sipush 152, 3) := by decide +kernel
theorem dX8_undo_27 : decode cX8_undo 27 = .ok (.aload_n 0, 1) := by decide +kernel
theorem dX8_undo_28 : decode cX8_undo 28 = .ok (.getfield 39, 3) := by decide +kernel
theorem dX8_undo_31 : decode cX8_undo 31 = .ok (.imul, 1) := by decide +kernel
theorem dX8_undo_32 : decode cX8_undo 32 = .ok (.aload_n 0, 1) := by decide +kernel
theorem dX8_undo_33 : decode cX8_undo 33 = .ok (.getfield 7, 3) := by decide +kernel
theorem dX8_undo_36 : decode cX8_undo 36 = .ok (.iconst 0, 1) := by decide +kernel
theorem dX8_undo_37 : decode cX8_undo 37 = .ok (.invokestatic 43, 3) := by decide +kernel
theorem dX8_undo_40 : decode cX8_undo 40 = .ok (.aload_n 0, 1) := by decide +kernel
theorem dX8_undo_41 : decode cX8_undo 41 = .ok (.getfield 39, 3) := by decide +kernel
theorem dX8_undo_44 : decode cX8_undo 44 = .ok (.ireturn, 1) := by decide +kernel
theorem dX8_keep_0 : decode cX8_keep 0 = .ok (.aload_n 0, 1) := by decide +kernel
theorem dX8_keep_1 : decode cX8_keep 1 = .ok (.getfield 7, 3) := by decide +kernel
theorem dX8_keep_4 : decode cX8_keep 4 = .ok (.iconst 0, 1) := by decide +kernel
theorem dX8_keep_5 : decode cX8_keep 5 = .ok (.aload_n 0, 1) := by decide +kernel
theorem dX8_keep_6 : decode cX8_keep 6 = .ok (.getfield 19, 3) := by decide +kernel
theorem dX8_keep_9 : decode cX8_keep 9 = .ok (.iconst 0, 1) := by decide +kernel
theorem dX8_keep_10 : decode cX8_keep 10 = .ok (.invokestatic 43, 3) := by decide +kernel
theorem dX8_keep_13 : decode cX8_keep 13 = .ok (.aload_n 0, 1) := by decide +kernel
theorem dX8_keep_14 : decode cX8_keep 14 = .ok (.iconst 1, 1) := by decide +kernel
theorem dX8_keep_15 : decode cX8_keep 15 = .ok (.putfield 167, 3) := by decide +kernel
theorem dX8_keep_18 : decode cX8_keep 18 = .ok (.aload_n 0, 1) := by decide +kernel
theorem dX8_keep_19 : decode cX8_keep 19 = .ok (.getfield 7, 3) := by decide +kernel
theorem dX8_keep_22 : decode cX8_keep 22 = .ok (.iconst 1, 1) := by decide +kernel
theorem dX8_keep_23 : decode cX8_keep 23 = .ok (.iaload, 1) := by decide +kernel
theorem dX8_keep_24 : decode cX8_keep 24 = .ok (.ireturn, 1) := by decide +kernel
theorem dX8_restore_0 : decode cX8_restore 0 = .ok (.aload_n 0, 1) := by decide +kernel
theorem dX8_restore_1 : decode cX8_restore 1 = .ok (.getfield 167, 3) := by decide +kernel
theorem dX8_restore_4 : decode cX8_restore 4 = .ok (.ifCond .ne 6, 3) := by decide +kernel
theorem dX8_restore_7 : decode cX8_restore 7 = .ok (.ldc 69, 2) := by decide +kernel
theorem dX8_restore_9 : decode cX8_restore 9 = .ok (.ireturn, 1) := by decide +kernel
theorem dX8_restore_10 : decode cX8_restore 10 = .ok (.aload_n 0, 1) := by decide +kernel
theorem dX8_restore_11 : decode cX8_restore 11 = .ok (.invokevirtual 129, 3) := by decide +kernel
theorem dX8_restore_14 : decode cX8_restore 14 = .ok (.aload_n 0, 1) := by decide +kernel
theorem dX8_restore_15 : decode cX8_restore 15 = .ok (.getfield 19, 3) := by decide +kernel
theorem dX8_restore_18 : decode cX8_restore 18 = .ok (.iconst 0, 1) := by decide +kernel
theorem dX8_restore_19 : decode cX8_restore 19 = .ok (.aload_n 0, 1) := by decide +kernel
theorem dX8_restore_20 : decode cX8_restore 20 = .ok (.getfield 7, 3) := by decide +kernel
theorem dX8_restore_23 : decode cX8_restore 23 = .ok (.iconst 0, 1) := by decide +kernel
theorem dX8_restore_24 : decode cX8_restore 24 = .ok (.invokestatic 43, 3) := by decide +kernel
theorem dX8_restore_27 : decode cX8_restore 27 = .ok (.aload_n 0, 1) := by decide +kernel
theorem dX8_restore_28 : decode cX8_restore 28 = .ok (.getfield 7, 3) := by decide +kernel
theorem dX8_restore_31 : decode cX8_restore 31 = .ok (.iconst 1, 1) := by decide +kernel
theorem dX8_restore_32 : decode cX8_restore 32 = .ok (.iaload, 1) := by decide +kernel
theorem dX8_restore_33 : decode cX8_restore 33 = .ok (.ireturn, 1) := by decide +kernel
theorem dX8_partner_0 : decode cX8_partner 0 = .ok (.ldc 69, 2) := by decide +kernel
theorem dX8_partner_2 : decode cX8_partner 2 = .ok (.istore_n 2, 1) := by decide +kernel
theorem dX8_partner_3 : decode cX8_partner 3 = .ok (.iconst 0, 1) := by decide +kernel
theorem dX8_partner_4 : decode cX8_partner 4 = .ok (.istore_n 3, 1) := by decide +kernel
theorem dX8_partner_5 : decode cX8_partner 5 = .ok (.iload_n 3, 1) := by decide +kernel
theorem dX8_partner_6 : decode cX8_partner 6 = .ok (.aload_n 0, 1) := by decide +kernel
theorem dX8_partner_7 : decode cX8_partner 7 = .ok (.getfield 7, 3) := by decide +kernel
theorem dX8_partner_10 : decode cX8_partner 10 = .ok (.iconst 0, 1) := by decide +kernel
theorem dX8_partner_11 : decode cX8_partner 11 = .ok (.iaload, 1) := by decide +kernel
theorem dX8_partner_12 : decode cX8_partner 12 = .ok (.if_icmp .ge 47, 3) := by decide +kernel
theorem dX8_partner_15 : decode cX8_partner 15 = .ok (.aload_n 0, 1) := by decide +kernel
theorem dX8_partner_16 : decode cX8_partner 16 = .ok (.getfield 7, 3) := by decide +kernel
theorem dX8_partner_19 : decode cX8_partner 19 = .ok (.iload_n 1, 1) := by decide +kernel
theorem dX8_partner_20 : decode cX8_partner 20 = .ok (.invokestatic 59, 3) := by decide +kernel
theorem dX8_partner_23 : decode cX8_partner 23 = .ok (.ifCond .eq 36, 3) := by decide +kernel
theorem dX8_partner_26 : decode cX8_partner 26 = .ok (.aload_n 0, 1) := by decide +kernel
theorem dX8_partner_27 : decode cX8_partner 27 = .ok (.getfield 7, 3) := by decide +kernel
theorem dX8_partner_30 : decode cX8_partner 30 = .ok (.iload_n 3, 1) := by decide +kernel
theorem dX8_partner_31 : decode cX8_partner 31 = .ok (.iconst 0, 1) := by decide +kernel
theorem dX8_partner_32 : decode cX8_partner 32 = .ok (.invokestatic 51, 3) := by decide +kernel
theorem dX8_partner_35 : decode cX8_partner 35 = .ok (.aload_n 0, 1) := by decide +kernel
theorem dX8_partner_36 : decode cX8_partner 36 = .ok (.getfield 7, 3) := by decide +kernel
theorem dX8_partner_39 : decode cX8_partner 39 = .ok (.iload_n 1, 1) := by decide +kernel
theorem dX8_partner_40 : decode cX8_partner 40 = .ok (.iconst 3, 1) := by decide +kernel
theorem dX8_partner_41 : decode cX8_partner 41 = .ok (.invokestatic 51, 3) := by decide +kernel
theorem dX8_partner_44 : decode cX8_partner 44 = .ok (.if_icmp .ne 7, 3) := by decide +kernel
theorem dX8_partner_47 : decode cX8_partner 47 = .ok (.iload_n 3, 1) := by decide +kernel
theorem dX8_partner_48 : decode cX8_partner 48 = .ok (.goto 4, 3) := by decide +kernel
theorem dX8_partner_51 : decode cX8_partner 51 = .ok (.iload_n 2, 1) := by decide +kernel
theorem dX8_partner_52 : decode cX8_partner 52 = .ok (.istore_n 2, 1) := by decide +kernel
theorem dX8_partner_53 : decode cX8_partner 53 = .ok (.iinc 3 1, 3) := by decide +kernel
theorem dX8_partner_56 : decode cX8_partner 56 = .ok (.goto (-51), 3) := by decide +kernel
theorem dX8_partner_59 : decode cX8_partner 59 = .ok (.iload_n 2, 1) := by decide +kernel
theorem dX8_partner_60 : decode cX8_partner 60 = .ok (.ireturn, 1) := by decide +kernel
theorem dX8_flier_0 : decode cX8_flier 0 = .ok (.aload_n 0, 1) := by decide +kernel
theorem dX8_flier_1 : decode cX8_flier 1 = .ok (.iload_n 1, 1) := by decide +kernel
theorem dX8_flier_2 : decode cX8_flier 2 = .ok (.invokevirtual 144, 3) := by decide +kernel
theorem dX8_flier_5 : decode cX8_flier 5 = .ok (.ifCond .ne 6, 3) := by decide +kernel
theorem dX8_flier_8 : decode cX8_flier 8 = .ok (.ldc 147, 2) := by decide +kernel
theorem dX8_flier_10 : decode cX8_flier 10 = .ok (.ireturn, 1) := by decide +kernel
theorem dX8_flier_11 : decode cX8_flier 11 = .ok (.iload_n 2, 1) := by decide +kernel
theorem dX8_flier_12 : decode cX8_flier 12 = .ok (.tableswitch 110 0 7 #[48, 48, 48, 58, 67, 73, 83, 100], 48) := by decide +kernel
theorem dX8_flier_60 : decode cX8_flier 60 = .ok (.aload_n 0, 1) := by decide +kernel
theorem dX8_flier_61 : decode cX8_flier 61 = .ok (.getfield 7, 3) := by decide +kernel
theorem dX8_flier_64 : decode cX8_flier 64 = .ok (.iload_n 1, 1) := by decide +kernel
theorem dX8_flier_65 : decode cX8_flier 65 = .ok (.iload_n 2, 1) := by decide +kernel
theorem dX8_flier_66 : decode cX8_flier 66 = .ok (.invokestatic 51, 3) := by decide +kernel
theorem dX8_flier_69 : decode cX8_flier 69 = .ok (.ireturn, 1) := by decide +kernel
theorem dX8_flier_70 : decode cX8_flier 70 = .ok (.aload_n 0, 1) := by decide +kernel
theorem dX8_flier_71 : decode cX8_flier 71 = .ok (.getfield 7, 3) := by decide +kernel
theorem dX8_flier_74 : decode cX8_flier 74 = .ok (.iload_n 1, 1) := by decide +kernel
theorem dX8_flier_75 : decode cX8_flier 75 = .ok (.invokestatic 63, 3) := by decide +kernel
theorem dX8_flier_78 : decode cX8_flier 78 = .ok (.ireturn, 1) := by decide +kernel
theorem dX8_flier_79 : decode cX8_flier 79 = .ok (.aload_n 0, 1) := by decide +kernel
theorem dX8_flier_80 : decode cX8_flier 80 = .ok (.iload_n 1, 1) := by decide +kernel
theorem dX8_flier_81 : decode cX8_flier 81 = .ok (.invokevirtual 171, 3) := by decide +kernel
theorem dX8_flier_84 : decode cX8_flier 84 = .ok (.ireturn, 1) := by decide +kernel
theorem dX8_flier_85 : decode cX8_flier 85 = .ok (.aload_n 0, 1) := by decide +kernel
theorem dX8_flier_86 : decode cX8_flier 86 = .ok (.getfield 7, 3) := by decide +kernel
theorem dX8_flier_89 : decode cX8_flier 89 = .ok (.iload_n 1, 1) := by decide +kernel
theorem dX8_flier_90 : decode cX8_flier 90 = .ok (.iconst 4, 1) := by decide +kernel
theorem dX8_flier_91 : decode cX8_flier 91 = .ok (.invokestatic 51, 3) := by decide +kernel
theorem dX8_flier_94 : decode cX8_flier 94 = .ok (.ireturn, 1) := by decide +kernel
theorem dX8_flier_95 : decode cX8_flier 95 = .ok (.aload_n 0, 1) := by decide +kernel
theorem dX8_flier_96 : decode cX8_flier 96 = .ok (.getfield 7, 3) := by decide +kernel
theorem dX8_flier_99 : decode cX8_flier 99 = .ok (.iload_n 1, 1) := by decide +kernel
theorem dX8_flier_100 : decode cX8_flier 100 = .ok (.invokestatic 66, 3) := by decide +kernel
theorem dX8_flier_103 : decode cX8_flier 103 = .ok (.ifCond .eq 7, 3) := by decide +kernel
theorem dX8_flier_106 : decode cX8_flier 106 = .ok (.iconst 1, 1) := by decide +kernel
theorem dX8_flier_107 : decode cX8_flier 107 = .ok (.goto 4, 3) := by decide +kernel
theorem dX8_flier_110 : decode cX8_flier 110 = .ok (.iconst 0, 1) := by decide +kernel
theorem dX8_flier_111 : decode cX8_flier 111 = .ok (.ireturn, 1) := by decide +kernel
theorem dX8_flier_112 : decode cX8_flier 112 = .ok (.aload_n 0, 1) := by decide +kernel
theorem dX8_flier_113 : decode cX8_flier 113 = .ok (.getfield 7, 3) := by decide +kernel
theorem dX8_flier_116 : decode cX8_flier 116 = .ok (.iload_n 1, 1) := by decide +kernel
theorem dX8_flier_117 : decode cX8_flier 117 = .ok (.iconst 5, 1) := by decide +kernel
theorem dX8_flier_118 : decode cX8_flier 118 = .ok (.invokestatic 51, 3) := by decide +kernel
theorem dX8_flier_121 : decode cX8_flier 121 = .ok (.ireturn, 1) := by decide +kernel
theorem dX8_flier_122 : decode cX8_flier 122 = .ok (.ldc 123, 2) := by decide +kernel
theorem dX8_flier_124 : decode cX8_flier 124 = .ok (.ireturn, 1) := by decide +kernel
theorem dX8_reads_0 : decode cX8_reads 0 = .ok (.iload_n 1, 1) := by decide +kernel
theorem dX8_reads_1 : decode cX8_reads 1 = .ok (.ifCond .ge 6, 3) := by decide +kernel
theorem dX8_reads_4 : decode cX8_reads 4 = .ok (.ldc 123, 2) := by decide +kernel
theorem dX8_reads_6 : decode cX8_reads 6 = .ok (.ireturn, 1) := by decide +kernel
theorem dX8_reads_7 : decode cX8_reads 7 = .ok (.aload_n 0, 1) := by decide +kernel
theorem dX8_reads_8 : decode cX8_reads 8 = .ok (.getfield 7, 3) := by decide +kernel
theorem dX8_reads_11 : decode cX8_reads 11 = .ok (.iload_n 1, 1) := by decide +kernel
theorem dX8_reads_12 : decode cX8_reads 12 = .ok (.invokestatic 74, 3) := by decide +kernel
theorem dX8_reads_15 : decode cX8_reads 15 = .ok (.istore_n 2, 1) := by decide +kernel
theorem dX8_reads_16 : decode cX8_reads 16 = .ok (.iload_n 2, 1) := by decide +kernel
theorem dX8_reads_17 : decode cX8_reads 17 = .ok (.ldc 69, 2) := by decide +kernel
theorem dX8_reads_19 : decode cX8_reads 19 = .ok (.if_icmp .ne 8, 3) := by decide +kernel
theorem dX8_reads_22 : decode cX8_reads 22 = .ok (.ldc 69, 2) := by decide +kernel
theorem dX8_reads_24 : decode cX8_reads 24 = .ok (.goto 12, 3) := by decide +kernel
theorem dX8_reads_27 : decode cX8_reads 27 = .ok (.aload_n 0, 1) := by decide +kernel
theorem dX8_reads_28 : decode cX8_reads 28 = .ok (.getfield 7, 3) := by decide +kernel
theorem dX8_reads_31 : decode cX8_reads 31 = .ok (.iload_n 2, 1) := by decide +kernel
theorem dX8_reads_32 : decode cX8_reads 32 = .ok (.iconst 1, 1) := by decide +kernel
theorem dX8_reads_33 : decode cX8_reads 33 = .ok (.invokestatic 51, 3) := by decide +kernel
theorem dX8_reads_36 : decode cX8_reads 36 = .ok (.ireturn, 1) := by decide +kernel
theorem dX8_ifTraded_0 : decode cX8_ifTraded 0 = .ok (.iload_n 1, 1) := by decide +kernel
theorem dX8_ifTraded_1 : decode cX8_ifTraded 1 = .ok (.iconst 0, 1) := by decide +kernel
theorem dX8_ifTraded_2 : decode cX8_ifTraded 2 = .ok (.aload_n 0, 1) := by decide +kernel
theorem dX8_ifTraded_3 : decode cX8_ifTraded 3 = .ok (.getfield 7, 3) := by decide +kernel
theorem dX8_ifTraded_6 : decode cX8_ifTraded 6 = .ok (.iconst 0, 1) := by decide +kernel
theorem dX8_ifTraded_7 : decode cX8_ifTraded 7 = .ok (.iaload, 1) := by decide +kernel
theorem dX8_ifTraded_8 : decode cX8_ifTraded 8 = .ok (.iconst 2, 1) := by decide +kernel
theorem dX8_ifTraded_9 : decode cX8_ifTraded 9 = .ok (.isub, 1) := by decide +kernel
theorem dX8_ifTraded_10 : decode cX8_ifTraded 10 = .ok (.invokestatic 47, 3) := by decide +kernel
theorem dX8_ifTraded_13 : decode cX8_ifTraded 13 = .ok (.ifCond .ne 6, 3) := by decide +kernel
theorem dX8_ifTraded_16 : decode cX8_ifTraded 16 = .ok (.ldc 147, 2) := by decide +kernel
theorem dX8_ifTraded_18 : decode cX8_ifTraded 18 = .ok (.ireturn, 1) := by decide +kernel
theorem dX8_ifTraded_19 : decode cX8_ifTraded 19 = .ok (.iload_n 2, 1) := by decide +kernel
theorem dX8_ifTraded_20 : decode cX8_ifTraded 20 = .ok (.iconst 0, 1) := by decide +kernel
theorem dX8_ifTraded_21 : decode cX8_ifTraded 21 = .ok (.iconst 2, 1) := by decide +kernel
theorem dX8_ifTraded_22 : decode cX8_ifTraded 22 = .ok (.invokestatic 47, 3) := by decide +kernel
theorem dX8_ifTraded_25 : decode cX8_ifTraded 25 = .ok (.ifCond .ne 6, 3) := by decide +kernel
theorem dX8_ifTraded_28 : decode cX8_ifTraded 28 = .ok (.ldc 123, 2) := by decide +kernel
theorem dX8_ifTraded_30 : decode cX8_ifTraded 30 = .ok (.ireturn, 1) := by decide +kernel
theorem dX8_ifTraded_31 : decode cX8_ifTraded 31 = .ok (.iload_n 2, 1) := by decide +kernel
theorem dX8_ifTraded_32 : decode cX8_ifTraded 32 = .ok (.iconst 1, 1) := by decide +kernel
theorem dX8_ifTraded_33 : decode cX8_ifTraded 33 = .ok (.if_icmp .ne 20, 3) := by decide +kernel
theorem dX8_ifTraded_36 : decode cX8_ifTraded 36 = .ok (.aload_n 0, 1) := by decide +kernel
theorem dX8_ifTraded_37 : decode cX8_ifTraded 37 = .ok (.getfield 7, 3) := by decide +kernel
theorem dX8_ifTraded_40 : decode cX8_ifTraded 40 = .ok (.iload_n 1, 1) := by decide +kernel
theorem dX8_ifTraded_41 : decode cX8_ifTraded 41 = .ok (.invokestatic 117, 3) := by decide +kernel
theorem dX8_ifTraded_44 : decode cX8_ifTraded 44 = .ok (.ifCond .eq 7, 3) := by decide +kernel
theorem dX8_ifTraded_47 : decode cX8_ifTraded 47 = .ok (.iconst 1, 1) := by decide +kernel
theorem dX8_ifTraded_48 : decode cX8_ifTraded 48 = .ok (.goto 4, 3) := by decide +kernel
theorem dX8_ifTraded_51 : decode cX8_ifTraded 51 = .ok (.iconst 0, 1) := by decide +kernel
theorem dX8_ifTraded_52 : decode cX8_ifTraded 52 = .ok (.ireturn, 1) := by decide +kernel
theorem dX8_ifTraded_53 : decode cX8_ifTraded 53 = .ok (.aload_n 0, 1) := by decide +kernel
theorem dX8_ifTraded_54 : decode cX8_ifTraded 54 = .ok (.aload_n 0, 1) := by decide +kernel
theorem dX8_ifTraded_55 : decode cX8_ifTraded 55 = .ok (.getfield 7, 3) := by decide +kernel
theorem dX8_ifTraded_58 : decode cX8_ifTraded 58 = .ok (.invokevirtual 114, 3) := by decide +kernel
theorem dX8_ifTraded_61 : decode cX8_ifTraded 61 = .ok (.istore_n 3, 1) := by decide +kernel
theorem dX8_ifTraded_62 : decode cX8_ifTraded 62 = .ok (.iload_n 3, 1) := by decide +kernel
theorem dX8_ifTraded_63 : decode cX8_ifTraded 63 = .ok (.ldc 69, 2) := by decide +kernel
theorem dX8_ifTraded_65 : decode cX8_ifTraded 65 = .ok (.if_icmp .ne 6, 3) := by decide +kernel
theorem dX8_ifTraded_68 : decode cX8_ifTraded 68 = .ok (.ldc 69, 2) := by decide +kernel
theorem dX8_ifTraded_70 : decode cX8_ifTraded 70 = .ok (.ireturn, 1) := by decide +kernel
theorem dX8_ifTraded_71 : decode cX8_ifTraded 71 = .ok (.aload_n 0, 1) := by decide +kernel
theorem dX8_ifTraded_72 : decode cX8_ifTraded 72 = .ok (.aload_n 0, 1) := by decide +kernel
theorem dX8_ifTraded_73 : decode cX8_ifTraded 73 = .ok (.getfield 7, 3) := by decide +kernel
theorem dX8_ifTraded_76 : decode cX8_ifTraded 76 = .ok (.iload_n 1, 1) := by decide +kernel
theorem dX8_ifTraded_77 : decode cX8_ifTraded 77 = .ok (.invokevirtual 120, 3) := by decide +kernel
theorem dX8_ifTraded_80 : decode cX8_ifTraded 80 = .ok (.istore 4, 2) := by decide +kernel
theorem dX8_ifTraded_82 : decode cX8_ifTraded 82 = .ok (.iload_n 2, 1) := by decide +kernel
theorem dX8_ifTraded_83 : decode cX8_ifTraded 83 = .ok (.iconst 2, 1) := by decide +kernel
theorem dX8_ifTraded_84 : decode cX8_ifTraded 84 = .ok (.if_icmp .ne 8, 3) := by decide +kernel
theorem dX8_ifTraded_87 : decode cX8_ifTraded 87 = .ok (.iload 4, 2) := by decide +kernel
theorem dX8_ifTraded_89 : decode cX8_ifTraded 89 = .ok (.goto 14, 3) := by decide +kernel
theorem dX8_ifTraded_92 : decode cX8_ifTraded 92 = .ok (.iload 4, 2) := by decide +kernel
theorem dX8_ifTraded_94 : decode cX8_ifTraded 94 = .ok (.iload_n 3, 1) := by decide +kernel
theorem dX8_ifTraded_95 : decode cX8_ifTraded 95 = .ok (.if_icmp .ge 7, 3) := by decide +kernel
theorem dX8_ifTraded_98 : decode cX8_ifTraded 98 = .ok (.iconst 1, 1) := by decide +kernel
theorem dX8_ifTraded_99 : decode cX8_ifTraded 99 = .ok (.goto 4, 3) := by decide +kernel
theorem dX8_ifTraded_102 : decode cX8_ifTraded 102 = .ok (.iconst 0, 1) := by decide +kernel
theorem dX8_ifTraded_103 : decode cX8_ifTraded 103 = .ok (.ireturn, 1) := by decide +kernel
theorem dX8_nextTrade_0 : decode cX8_nextTrade 0 = .ok (.aload_n 0, 1) := by decide +kernel
theorem dX8_nextTrade_1 : decode cX8_nextTrade 1 = .ok (.aload_n 0, 1) := by decide +kernel
theorem dX8_nextTrade_2 : decode cX8_nextTrade 2 = .ok (.getfield 7, 3) := by decide +kernel
theorem dX8_nextTrade_5 : decode cX8_nextTrade 5 = .ok (.invokevirtual 174, 3) := by decide +kernel
theorem dX8_nextTrade_8 : decode cX8_nextTrade 8 = .ok (.ireturn, 1) := by decide +kernel
theorem dX8_spelledIn_0 : decode cX8_spelledIn 0 = .ok (.aload_n 0, 1) := by decide +kernel
theorem dX8_spelledIn_1 : decode cX8_spelledIn 1 = .ok (.getfield 7, 3) := by decide +kernel
theorem dX8_spelledIn_4 : decode cX8_spelledIn 4 = .ok (.iconst 0, 1) := by decide +kernel
theorem dX8_spelledIn_5 : decode cX8_spelledIn 5 = .ok (.aload_n 0, 1) := by decide +kernel
theorem dX8_spelledIn_6 : decode cX8_spelledIn 6 = .ok (.getfield 13, 3) := by decide +kernel
theorem dX8_spelledIn_9 : decode cX8_spelledIn 9 = .ok (.iconst 0, 1) := by decide +kernel
theorem dX8_spelledIn_10 : decode cX8_spelledIn 10 = .ok (.invokestatic 43, 3) := by decide +kernel
theorem dX8_spelledIn_13 : decode cX8_spelledIn 13 = .ok (.iconst 0, 1) := by decide +kernel
theorem dX8_spelledIn_14 : decode cX8_spelledIn 14 = .ok (.istore_n 1, 1) := by decide +kernel
theorem dX8_spelledIn_15 : decode cX8_spelledIn 15 = .ok (.iload_n 1, 1) := by decide +kernel
theorem dX8_spelledIn_16 : decode cX8_spelledIn 16 = .ok (.sipush 200, 3) := by decide +kernel
theorem dX8_spelledIn_19 : decode cX8_spelledIn 19 = .ok (.if_icmp .gt 74, 3) := by decide +kernel
theorem dX8_spelledIn_22 : decode cX8_spelledIn 22 = .ok (.aload_n 0, 1) := by decide +kernel
theorem dX8_spelledIn_23 : decode cX8_spelledIn 23 = .ok (.getfield 13, 3) := by decide +kernel
theorem dX8_spelledIn_26 : decode cX8_spelledIn 26 = .ok (.invokestatic 177, 3) := by decide +kernel
theorem dX8_spelledIn_29 : decode cX8_spelledIn 29 = .ok (.ifCond .eq 5, 3) := by decide +kernel
theorem dX8_spelledIn_32 : decode cX8_spelledIn 32 = .ok (.iload_n 1, 1) := by decide +kernel
theorem dX8_spelledIn_33 : decode cX8_spelledIn 33 = .ok (.ireturn, 1) := by decide +kernel
theorem dX8_spelledIn_34 : decode cX8_spelledIn 34 = .ok (.aload_n 0, 1) := by decide +kernel
theorem dX8_spelledIn_35 : decode cX8_spelledIn 35 = .ok (.aload_n 0, 1) := by decide +kernel
theorem dX8_spelledIn_36 : decode cX8_spelledIn 36 = .ok (.getfield 13, 3) := by decide +kernel
theorem dX8_spelledIn_39 : decode cX8_spelledIn 39 = .ok (.invokevirtual 174, 3) := by decide +kernel
theorem dX8_spelledIn_42 : decode cX8_spelledIn 42 = .ok (.istore_n 2, 1) := by decide +kernel
theorem dX8_spelledIn_43 : decode cX8_spelledIn 43 = .ok (.iload_n 2, 1) := by decide +kernel
theorem dX8_spelledIn_44 : decode cX8_spelledIn 44 = .ok (.ldc 69, 2) := by decide +kernel
theorem dX8_spelledIn_46 : decode cX8_spelledIn 46 = .ok (.if_icmp .eq 19, 3) := by decide +kernel
theorem dX8_spelledIn_49 : decode cX8_spelledIn 49 = .ok (.aload_n 0, 1) := by decide +kernel
theorem dX8_spelledIn_50 : decode cX8_spelledIn 50 = .ok (.aload_n 0, 1) := by decide +kernel
theorem dX8_spelledIn_51 : decode cX8_spelledIn 51 = .ok (.getfield 13, 3) := by decide +kernel
theorem dX8_spelledIn_54 : decode cX8_spelledIn 54 = .ok (.iload_n 2, 1) := by decide +kernel
theorem dX8_spelledIn_55 : decode cX8_spelledIn 55 = .ok (.invokevirtual 149, 3) := by decide +kernel
theorem dX8_spelledIn_58 : decode cX8_spelledIn 58 = .ok (.ifCond .eq 7, 3) := by decide +kernel
theorem dX8_spelledIn_61 : decode cX8_spelledIn 61 = .ok (.iconst 1, 1) := by decide +kernel
theorem dX8_spelledIn_62 : decode cX8_spelledIn 62 = .ok (.goto 4, 3) := by decide +kernel
theorem dX8_spelledIn_65 : decode cX8_spelledIn 65 = .ok (.iconst 0, 1) := by decide +kernel
theorem dX8_spelledIn_66 : decode cX8_spelledIn 66 = .ok (.istore_n 3, 1) := by decide +kernel
theorem dX8_spelledIn_67 : decode cX8_spelledIn 67 = .ok (.iload_n 2, 1) := by decide +kernel
theorem dX8_spelledIn_68 : decode cX8_spelledIn 68 = .ok (.ldc 69, 2) := by decide +kernel
theorem dX8_spelledIn_70 : decode cX8_spelledIn 70 = .ok (.if_icmp .ne 14, 3) := by decide +kernel
theorem dX8_spelledIn_73 : decode cX8_spelledIn 73 = .ok (.aload_n 0, 1) := by decide +kernel
theorem dX8_spelledIn_74 : decode cX8_spelledIn 74 = .ok (.aload_n 0, 1) := by decide +kernel
theorem dX8_spelledIn_75 : decode cX8_spelledIn 75 = .ok (.getfield 13, 3) := by decide +kernel
theorem dX8_spelledIn_78 : decode cX8_spelledIn 78 = .ok (.invokevirtual 111, 3) := by decide +kernel
theorem dX8_spelledIn_81 : decode cX8_spelledIn 81 = .ok (.goto 4, 3) := by decide +kernel
theorem dX8_spelledIn_84 : decode cX8_spelledIn 84 = .ok (.iconst 0, 1) := by decide +kernel
theorem dX8_spelledIn_85 : decode cX8_spelledIn 85 = .ok (.istore 4, 2) := by decide +kernel
theorem dX8_spelledIn_87 : decode cX8_spelledIn 87 = .ok (.iinc 1 1, 3) := by decide +kernel
theorem dX8_spelledIn_90 : decode cX8_spelledIn 90 = .ok (.goto (-75), 3) := by decide +kernel
theorem dX8_spelledIn_93 : decode cX8_spelledIn 93 = .ok (.ldc 69, 2) := by decide +kernel
theorem dX8_spelledIn_95 : decode cX8_spelledIn 95 = .ok (.ireturn, 1) := by decide +kernel
theorem dX8_turnOf_0 : decode cX8_turnOf 0 = .ok (.iload_n 1, 1) := by decide +kernel
theorem dX8_turnOf_1 : decode cX8_turnOf 1 = .ok (.ifCond .lt 12, 3) := by decide +kernel
theorem dX8_turnOf_4 : decode cX8_turnOf 4 = .ok (.iload_n 2, 1) := by decide +kernel
theorem dX8_turnOf_5 : decode cX8_turnOf 5 = .ok (.iconst 0, 1) := by decide +kernel
theorem dX8_turnOf_6 : decode cX8_turnOf 6 = .ok (.iconst 2, 1) := by decide +kernel
theorem dX8_turnOf_7 : decode cX8_turnOf 7 = .ok (.invokestatic 47, 3) := by decide +kernel
theorem dX8_turnOf_10 : decode cX8_turnOf 10 = .ok (.ifCond .ne 6, 3) := by decide +kernel
theorem dX8_turnOf_13 : decode cX8_turnOf 13 = .ok (.ldc 123, 2) := by decide +kernel
theorem dX8_turnOf_15 : decode cX8_turnOf 15 = .ok (.ireturn, 1) := by decide +kernel
theorem dX8_turnOf_16 : decode cX8_turnOf 16 = .ok (.iload_n 1, 1) := by decide +kernel
theorem dX8_turnOf_17 : decode cX8_turnOf 17 = .ok (.aload_n 0, 1) := by decide +kernel
theorem dX8_turnOf_18 : decode cX8_turnOf 18 = .ok (.getfield 7, 3) := by decide +kernel
theorem dX8_turnOf_21 : decode cX8_turnOf 21 = .ok (.bipush 6, 2) := by decide +kernel
theorem dX8_turnOf_23 : decode cX8_turnOf 23 = .ok (.iaload, 1) := by decide +kernel
theorem dX8_turnOf_24 : decode cX8_turnOf 24 = .ok (.if_icmp .ge 19, 3) := by decide +kernel
theorem dX8_turnOf_27 : decode cX8_turnOf 27 = .ok (.aload_n 0, 1) := by decide +kernel
theorem dX8_turnOf_28 : decode cX8_turnOf 28 = .ok (.getfield 7, 3) := by decide +kernel
theorem dX8_turnOf_31 : decode cX8_turnOf 31 = .ok (.bipush 84, 2) := by decide +kernel
theorem dX8_turnOf_33 : decode cX8_turnOf 33 = .ok (.iconst 3, 1) := by decide +kernel
theorem dX8_turnOf_34 : decode cX8_turnOf 34 = .ok (.iload_n 1, 1) := by decide +kernel
theorem dX8_turnOf_35 : decode cX8_turnOf 35 = .ok (.imul, 1) := by decide +kernel
theorem dX8_turnOf_36 : decode cX8_turnOf 36 = .ok (.iadd, 1) := by decide +kernel
theorem dX8_turnOf_37 : decode cX8_turnOf 37 = .ok (.iload_n 2, 1) := by decide +kernel
theorem dX8_turnOf_38 : decode cX8_turnOf 38 = .ok (.iadd, 1) := by decide +kernel
theorem dX8_turnOf_39 : decode cX8_turnOf 39 = .ok (.iaload, 1) := by decide +kernel
theorem dX8_turnOf_40 : decode cX8_turnOf 40 = .ok (.goto 5, 3) := by decide +kernel
theorem dX8_turnOf_43 : decode cX8_turnOf 43 = .ok (.ldc 69, 2) := by decide +kernel
theorem dX8_turnOf_45 : decode cX8_turnOf 45 = .ok (.ireturn, 1) := by decide +kernel
theorem dX8_tangle_0 : decode cX8_tangle 0 = .ok (.iload_n 1, 1) := by decide +kernel
theorem dX8_tangle_1 : decode cX8_tangle 1 = .ok (.ifCond .lt 12, 3) := by decide +kernel
theorem dX8_tangle_4 : decode cX8_tangle 4 = .ok (.iload_n 2, 1) := by decide +kernel
theorem dX8_tangle_5 : decode cX8_tangle 5 = .ok (.iconst 0, 1) := by decide +kernel
theorem dX8_tangle_6 : decode cX8_tangle 6 = .ok (.iconst 3, 1) := by decide +kernel
theorem dX8_tangle_7 : decode cX8_tangle 7 = .ok (.invokestatic 47, 3) := by decide +kernel
theorem dX8_tangle_10 : decode cX8_tangle 10 = .ok (.ifCond .ne 6, 3) := by decide +kernel
theorem dX8_tangle_13 : decode cX8_tangle 13 = .ok (.ldc 123, 2) := by decide +kernel
theorem dX8_tangle_15 : decode cX8_tangle 15 = .ok (.ireturn, 1) := by decide +kernel
theorem dX8_tangle_16 : decode cX8_tangle 16 = .ok (.iload_n 1, 1) := by decide +kernel
theorem dX8_tangle_17 : decode cX8_tangle 17 = .ok (.aload_n 0, 1) := by decide +kernel
theorem dX8_tangle_18 : decode cX8_tangle 18 = .ok (.getfield 7, 3) := by decide +kernel
theorem dX8_tangle_21 : decode cX8_tangle 21 = .ok (.bipush 11, 2) := by decide +kernel
theorem dX8_tangle_23 : decode cX8_tangle 23 = .ok (.iaload, 1) := by decide +kernel
theorem dX8_tangle_24 : decode cX8_tangle 24 = .ok (.if_icmp .ge 19, 3) := by decide +kernel
theorem dX8_tangle_27 : decode cX8_tangle 27 = .ok (.aload_n 0, 1) := by decide +kernel
theorem dX8_tangle_28 : decode cX8_tangle 28 = .ok (.getfield 7, 3) := by decide +kernel
theorem dX8_tangle_31 : decode cX8_tangle 31 = .ok (.bipush 120, 2) := by decide +kernel
theorem dX8_tangle_33 : decode cX8_tangle 33 = .ok (.iconst 4, 1) := by decide +kernel
theorem dX8_tangle_34 : decode cX8_tangle 34 = .ok (.iload_n 1, 1) := by decide +kernel
theorem dX8_tangle_35 : decode cX8_tangle 35 = .ok (.imul, 1) := by decide +kernel
theorem dX8_tangle_36 : decode cX8_tangle 36 = .ok (.iadd, 1) := by decide +kernel
theorem dX8_tangle_37 : decode cX8_tangle 37 = .ok (.iload_n 2, 1) := by decide +kernel
theorem dX8_tangle_38 : decode cX8_tangle 38 = .ok (.iadd, 1) := by decide +kernel
theorem dX8_tangle_39 : decode cX8_tangle 39 = .ok (.iaload, 1) := by decide +kernel
theorem dX8_tangle_40 : decode cX8_tangle 40 = .ok (.goto 5, 3) := by decide +kernel
theorem dX8_tangle_43 : decode cX8_tangle 43 = .ok (.ldc 69, 2) := by decide +kernel
theorem dX8_tangle_45 : decode cX8_tangle 45 = .ok (.ireturn, 1) := by decide +kernel
theorem dX8_count_0 : decode cX8_count 0 = .ok (.iload_n 1, 1) := by decide +kernel
theorem dX8_count_1 : decode cX8_count 1 = .ok (.tableswitch 153 0 13 #[71, 71, 71, 71, 71, 78, 86, 94, 103, 119, 127, 135, 143, 148], 71) := by decide +kernel
theorem dX8_count_72 : decode cX8_count 72 = .ok (.aload_n 0, 1) := by decide +kernel
theorem dX8_count_73 : decode cX8_count 73 = .ok (.getfield 7, 3) := by decide +kernel
theorem dX8_count_76 : decode cX8_count 76 = .ok (.iload_n 1, 1) := by decide +kernel
theorem dX8_count_77 : decode cX8_count 77 = .ok (.iaload, 1) := by decide +kernel
theorem dX8_count_78 : decode cX8_count 78 = .ok (.ireturn, 1) := by decide +kernel
theorem dX8_count_79 : decode cX8_count 79 = .ok (.aload_n 0, 1) := by decide +kernel
theorem dX8_count_80 : decode cX8_count 80 = .ok (.getfield 7, 3) := by decide +kernel
theorem dX8_count_83 : decode cX8_count 83 = .ok (.invokestatic 70, 3) := by decide +kernel
theorem dX8_count_86 : decode cX8_count 86 = .ok (.ireturn, 1) := by decide +kernel
theorem dX8_count_87 : decode cX8_count 87 = .ok (.aload_n 0, 1) := by decide +kernel
theorem dX8_count_88 : decode cX8_count 88 = .ok (.getfield 7, 3) := by decide +kernel
theorem dX8_count_91 : decode cX8_count 91 = .ok (.bipush 7, 2) := by decide +kernel
theorem dX8_count_93 : decode cX8_count 93 = .ok (.iaload, 1) := by decide +kernel
theorem dX8_count_94 : decode cX8_count 94 = .ok (.ireturn, 1) := by decide +kernel
theorem dX8_count_95 : decode cX8_count 95 = .ok (.aload_n 0, 1) := by decide +kernel
theorem dX8_count_96 : decode cX8_count 96 = .ok (.aload_n 0, 1) := by decide +kernel
theorem dX8_count_97 : decode cX8_count 97 = .ok (.getfield 7, 3) := by decide +kernel
theorem dX8_count_100 : decode cX8_count 100 = .ok (.invokevirtual 114, 3) := by decide +kernel
theorem dX8_count_103 : decode cX8_count 103 = .ok (.ireturn, 1) := by decide +kernel
theorem dX8_count_104 : decode cX8_count 104 = .ok (.aload_n 0, 1) := by decide +kernel
theorem dX8_count_105 : decode cX8_count 105 = .ok (.getfield 7, 3) := by decide +kernel
theorem dX8_count_108 : decode cX8_count 108 = .ok (.invokestatic 177, 3) := by decide +kernel
theorem dX8_count_111 : decode cX8_count 111 = .ok (.ifCond .eq 7, 3) := by decide +kernel
theorem dX8_count_114 : decode cX8_count 114 = .ok (.iconst 1, 1) := by decide +kernel
theorem dX8_count_115 : decode cX8_count 115 = .ok (.goto 4, 3) := by decide +kernel
theorem dX8_count_118 : decode cX8_count 118 = .ok (.iconst 0, 1) := by decide +kernel
theorem dX8_count_119 : decode cX8_count 119 = .ok (.ireturn, 1) := by decide +kernel
theorem dX8_count_120 : decode cX8_count 120 = .ok (.aload_n 0, 1) := by decide +kernel
theorem dX8_count_121 : decode cX8_count 121 = .ok (.getfield 7, 3) := by decide +kernel
theorem dX8_count_124 : decode cX8_count 124 = .ok (.bipush 8, 2) := by decide +kernel
theorem dX8_count_126 : decode cX8_count 126 = .ok (.iaload, 1) := by decide +kernel
theorem dX8_count_127 : decode cX8_count 127 = .ok (.ireturn, 1) := by decide +kernel
theorem dX8_count_128 : decode cX8_count 128 = .ok (.aload_n 0, 1) := by decide +kernel
theorem dX8_count_129 : decode cX8_count 129 = .ok (.getfield 7, 3) := by decide +kernel
theorem dX8_count_132 : decode cX8_count 132 = .ok (.bipush 9, 2) := by decide +kernel
theorem dX8_count_134 : decode cX8_count 134 = .ok (.iaload, 1) := by decide +kernel
theorem dX8_count_135 : decode cX8_count 135 = .ok (.ireturn, 1) := by decide +kernel
theorem dX8_count_136 : decode cX8_count 136 = .ok (.aload_n 0, 1) := by decide +kernel
theorem dX8_count_137 : decode cX8_count 137 = .ok (.getfield 7, 3) := by decide +kernel
theorem dX8_count_140 : decode cX8_count 140 = .ok (.bipush 6, 2) := by decide +kernel
theorem dX8_count_142 : decode cX8_count 142 = .ok (.iaload, 1) := by decide +kernel
theorem dX8_count_143 : decode cX8_count 143 = .ok (.ireturn, 1) := by decide +kernel
theorem dX8_count_144 : decode cX8_count 144 = .ok (.aload_n 0, 1) := by decide +kernel
theorem dX8_count_145 : decode cX8_count 145 = .ok (.getfield 39, 3) := by decide +kernel
theorem dX8_count_148 : decode cX8_count 148 = .ok (.ireturn, 1) := by decide +kernel
theorem dX8_count_149 : decode cX8_count 149 = .ok (.aload_n 0, 1) := by decide +kernel
theorem dX8_count_150 : decode cX8_count 150 = .ok (.getfield 141, 3) := by decide +kernel
theorem dX8_count_153 : decode cX8_count 153 = .ok (.ireturn, 1) := by decide +kernel
theorem dX8_count_154 : decode cX8_count 154 = .ok (.ldc 123, 2) := by decide +kernel
theorem dX8_count_156 : decode cX8_count 156 = .ok (.ireturn, 1) := by decide +kernel
theorem dJ9_min_7cf53_0 : decode cJ9_min_7cf53 0 = .ok (.iload_n 0, 1) := by decide +kernel
theorem dJ9_min_7cf53_1 : decode cJ9_min_7cf53 1 = .ok (.iload_n 1, 1) := by decide +kernel
theorem dJ9_min_7cf53_2 : decode cJ9_min_7cf53 2 = .ok (.if_icmp .gt 7, 3) := by decide +kernel
theorem dJ9_min_7cf53_5 : decode cJ9_min_7cf53 5 = .ok (.iload_n 0, 1) := by decide +kernel
theorem dJ9_min_7cf53_6 : decode cJ9_min_7cf53 6 = .ok (.goto 4, 3) := by decide +kernel
theorem dJ9_min_7cf53_9 : decode cJ9_min_7cf53 9 = .ok (.iload_n 1, 1) := by decide +kernel
theorem dJ9_min_7cf53_10 : decode cJ9_min_7cf53 10 = .ok (.ireturn, 1) := by decide +kernel
theorem dL_law_0 : decode cL_law 0 = .ok (.new 7, 3) := by decide +kernel
theorem dL_law_3 : decode cL_law 3 = .ok (.dup, 1) := by decide +kernel
theorem dL_law_4 : decode cL_law 4 = .ok (.invokespecial 9, 3) := by decide +kernel
theorem dL_law_7 : decode cL_law 7 = .ok (.astore_n 1, 1) := by decide +kernel
theorem dL_law_8 : decode cL_law 8 = .ok (.new 10, 3) := by decide +kernel
theorem dL_law_11 : decode cL_law 11 = .ok (.dup, 1) := by decide +kernel
theorem dL_law_12 : decode cL_law 12 = .ok (.invokespecial 12, 3) := by decide +kernel
theorem dL_law_15 : decode cL_law 15 = .ok (.astore_n 2, 1) := by decide +kernel
theorem dL_law_16 : decode cL_law 16 = .ok (.iconst 0, 1) := by decide +kernel
theorem dL_law_17 : decode cL_law 17 = .ok (.istore_n 3, 1) := by decide +kernel
theorem dL_law_18 : decode cL_law 18 = .ok (.iload_n 3, 1) := by decide +kernel
theorem dL_law_19 : decode cL_law 19 = .ok (.aload_n 0, 1) := by decide +kernel
theorem dL_law_20 : decode cL_law 20 = .ok (.arraylength, 1) := by decide +kernel
theorem dL_law_21 : decode cL_law 21 = .ok (.iconst 4, 1) := by decide +kernel
theorem dL_law_22 : decode cL_law 22 = .ok (.isub, 1) := by decide +kernel
theorem dL_law_23 : decode cL_law 23 = .ok (.if_icmp .gt 736, 3) := by decide +kernel
theorem dL_law_26 : decode cL_law 26 = .ok (.aload_n 0, 1) := by decide +kernel
theorem dL_law_27 : decode cL_law 27 = .ok (.iload_n 3, 1) := by decide +kernel
theorem dL_law_28 : decode cL_law 28 = .ok (.iaload, 1) := by decide +kernel
theorem dL_law_29 : decode cL_law 29 = .ok (.bipush 31, 2) := by decide +kernel
theorem dL_law_31 : decode cL_law 31 = .ok (.iand, 1) := by decide +kernel
theorem dL_law_32 : decode cL_law 32 = .ok (.tableswitch 721 0 24 #[116, 151, 164, 187, 220, 243, 266, 299, 342, 365, 404, 427, 440, 465, 478, 491, 504, 517, 550, 573, 606, 619, 632, 665, 698], 116) := by decide +kernel
theorem dL_law_148 : decode cL_law 148 = .ok (.aload_n 1, 1) := by decide +kernel
theorem dL_law_149 : decode cL_law 149 = .ok (.aload_n 0, 1) := by decide +kernel
theorem dL_law_150 : decode cL_law 150 = .ok (.iload_n 3, 1) := by decide +kernel
theorem dL_law_151 : decode cL_law 151 = .ok (.iconst 1, 1) := by decide +kernel
theorem dL_law_152 : decode cL_law 152 = .ok (.iadd, 1) := by decide +kernel
theorem dL_law_153 : decode cL_law 153 = .ok (.iaload, 1) := by decide +kernel
theorem dL_law_154 : decode cL_law 154 = .ok (.i2c, 1) := by decide +kernel
theorem dL_law_155 : decode cL_law 155 = .ok (.aload_n 0, 1) := by decide +kernel
theorem dL_law_156 : decode cL_law 156 = .ok (.iload_n 3, 1) := by decide +kernel
theorem dL_law_157 : decode cL_law 157 = .ok (.iconst 2, 1) := by decide +kernel
theorem dL_law_158 : decode cL_law 158 = .ok (.iadd, 1) := by decide +kernel
theorem dL_law_159 : decode cL_law 159 = .ok (.iaload, 1) := by decide +kernel
theorem dL_law_160 : decode cL_law 160 = .ok (.invokevirtual 13, 3) := by decide +kernel
theorem dL_law_163 : decode cL_law 163 = .ok (.aload_n 2, 1) := by decide +kernel
theorem dL_law_164 : decode cL_law 164 = .ok (.aload_n 0, 1) := by decide +kernel
theorem dL_law_165 : decode cL_law 165 = .ok (.iload_n 3, 1) := by decide +kernel
theorem dL_law_166 : decode cL_law 166 = .ok (.iconst 1, 1) := by decide +kernel
theorem dL_law_167 : decode cL_law 167 = .ok (.iadd, 1) := by decide +kernel
theorem dL_law_168 : decode cL_law 168 = .ok (.iaload, 1) := by decide +kernel
theorem dL_law_169 : decode cL_law 169 = .ok (.i2c, 1) := by decide +kernel
theorem dL_law_170 : decode cL_law 170 = .ok (.aload_n 0, 1) := by decide +kernel
theorem dL_law_171 : decode cL_law 171 = .ok (.iload_n 3, 1) := by decide +kernel
theorem dL_law_172 : decode cL_law 172 = .ok (.iconst 2, 1) := by decide +kernel
theorem dL_law_173 : decode cL_law 173 = .ok (.iadd, 1) := by decide +kernel
theorem dL_law_174 : decode cL_law 174 = .ok (.iaload, 1) := by decide +kernel
theorem dL_law_175 : decode cL_law 175 = .ok (.invokevirtual 17, 3) := by decide +kernel
theorem dL_law_178 : decode cL_law 178 = .ok (.if_icmp .eq 575, 3) := by decide +kernel
theorem dL_law_181 : decode cL_law 181 = .ok (.iconst 0, 1) := by decide +kernel
theorem dL_law_182 : decode cL_law 182 = .ok (.ireturn, 1) := by decide +kernel
theorem dL_law_183 : decode cL_law 183 = .ok (.aload_n 1, 1) := by decide +kernel
theorem dL_law_184 : decode cL_law 184 = .ok (.invokevirtual 18, 3) := by decide +kernel
theorem dL_law_187 : decode cL_law 187 = .ok (.aload_n 2, 1) := by decide +kernel
theorem dL_law_188 : decode cL_law 188 = .ok (.invokevirtual 22, 3) := by decide +kernel
theorem dL_law_191 : decode cL_law 191 = .ok (.if_icmp .eq 562, 3) := by decide +kernel
theorem dL_law_194 : decode cL_law 194 = .ok (.iconst 0, 1) := by decide +kernel
theorem dL_law_195 : decode cL_law 195 = .ok (.ireturn, 1) := by decide +kernel
theorem dL_law_196 : decode cL_law 196 = .ok (.aload_n 1, 1) := by decide +kernel
theorem dL_law_197 : decode cL_law 197 = .ok (.aload_n 0, 1) := by decide +kernel
theorem dL_law_198 : decode cL_law 198 = .ok (.iload_n 3, 1) := by decide +kernel
theorem dL_law_199 : decode cL_law 199 = .ok (.iconst 1, 1) := by decide +kernel
theorem dL_law_200 : decode cL_law 200 = .ok (.iadd, 1) := by decide +kernel
theorem dL_law_201 : decode cL_law 201 = .ok (.iaload, 1) := by decide +kernel
theorem dL_law_202 : decode cL_law 202 = .ok (.invokevirtual 23, 3) := by decide +kernel
theorem dL_law_205 : decode cL_law 205 = .ok (.aload_n 2, 1) := by decide +kernel
theorem dL_law_206 : decode cL_law 206 = .ok (.aload_n 0, 1) := by decide +kernel
theorem dL_law_207 : decode cL_law 207 = .ok (.iload_n 3, 1) := by decide +kernel
theorem dL_law_208 : decode cL_law 208 = .ok (.iconst 1, 1) := by decide +kernel
theorem dL_law_209 : decode cL_law 209 = .ok (.iadd, 1) := by decide +kernel
theorem dL_law_210 : decode cL_law 210 = .ok (.iaload, 1) := by decide +kernel
theorem dL_law_211 : decode cL_law 211 = .ok (.invokevirtual 27, 3) := by decide +kernel
theorem dL_law_214 : decode cL_law 214 = .ok (.if_icmp .eq 539, 3) := by decide +kernel
theorem dL_law_217 : decode cL_law 217 = .ok (.iconst 0, 1) := by decide +kernel
theorem dL_law_218 : decode cL_law 218 = .ok (.ireturn, 1) := by decide +kernel
theorem dL_law_219 : decode cL_law 219 = .ok (.aload_n 1, 1) := by decide +kernel
theorem dL_law_220 : decode cL_law 220 = .ok (.aload_n 0, 1) := by decide +kernel
theorem dL_law_221 : decode cL_law 221 = .ok (.iload_n 3, 1) := by decide +kernel
theorem dL_law_222 : decode cL_law 222 = .ok (.iconst 1, 1) := by decide +kernel
theorem dL_law_223 : decode cL_law 223 = .ok (.iadd, 1) := by decide +kernel
theorem dL_law_224 : decode cL_law 224 = .ok (.iaload, 1) := by decide +kernel
theorem dL_law_225 : decode cL_law 225 = .ok (.aload_n 0, 1) := by decide +kernel
theorem dL_law_226 : decode cL_law 226 = .ok (.iload_n 3, 1) := by decide +kernel
theorem dL_law_227 : decode cL_law 227 = .ok (.iconst 2, 1) := by decide +kernel
theorem dL_law_228 : decode cL_law 228 = .ok (.iadd, 1) := by decide +kernel
theorem dL_law_229 : decode cL_law 229 = .ok (.iaload, 1) := by decide +kernel
theorem dL_law_230 : decode cL_law 230 = .ok (.invokevirtual 28, 3) := by decide +kernel
theorem dL_law_233 : decode cL_law 233 = .ok (.aload_n 2, 1) := by decide +kernel
theorem dL_law_234 : decode cL_law 234 = .ok (.aload_n 0, 1) := by decide +kernel
theorem dL_law_235 : decode cL_law 235 = .ok (.iload_n 3, 1) := by decide +kernel
theorem dL_law_236 : decode cL_law 236 = .ok (.iconst 1, 1) := by decide +kernel
theorem dL_law_237 : decode cL_law 237 = .ok (.iadd, 1) := by decide +kernel
theorem dL_law_238 : decode cL_law 238 = .ok (.iaload, 1) := by decide +kernel
theorem dL_law_239 : decode cL_law 239 = .ok (.aload_n 0, 1) := by decide +kernel
theorem dL_law_240 : decode cL_law 240 = .ok (.iload_n 3, 1) := by decide +kernel
theorem dL_law_241 : decode cL_law 241 = .ok (.iconst 2, 1) := by decide +kernel
theorem dL_law_242 : decode cL_law 242 = .ok (.iadd, 1) := by decide +kernel
theorem dL_law_243 : decode cL_law 243 = .ok (.iaload, 1) := by decide +kernel
theorem dL_law_244 : decode cL_law 244 = .ok (.invokevirtual 32, 3) := by decide +kernel
theorem dL_law_247 : decode cL_law 247 = .ok (.if_icmp .eq 506, 3) := by decide +kernel
theorem dL_law_250 : decode cL_law 250 = .ok (.iconst 0, 1) := by decide +kernel
theorem dL_law_251 : decode cL_law 251 = .ok (.ireturn, 1) := by decide +kernel
theorem dL_law_252 : decode cL_law 252 = .ok (.aload_n 1, 1) := by decide +kernel
theorem dL_law_253 : decode cL_law 253 = .ok (.aload_n 0, 1) := by decide +kernel
theorem dL_law_254 : decode cL_law 254 = .ok (.iload_n 3, 1) := by decide +kernel
theorem dL_law_255 : decode cL_law 255 = .ok (.iconst 1, 1) := by decide +kernel
theorem dL_law_256 : decode cL_law 256 = .ok (.iadd, 1) := by decide +kernel
theorem dL_law_257 : decode cL_law 257 = .ok (.iaload, 1) := by decide +kernel
theorem dL_law_258 : decode cL_law 258 = .ok (.invokevirtual 33, 3) := by decide +kernel
theorem dL_law_261 : decode cL_law 261 = .ok (.aload_n 2, 1) := by decide +kernel
theorem dL_law_262 : decode cL_law 262 = .ok (.aload_n 0, 1) := by decide +kernel
theorem dL_law_263 : decode cL_law 263 = .ok (.iload_n 3, 1) := by decide +kernel
theorem dL_law_264 : decode cL_law 264 = .ok (.iconst 1, 1) := by decide +kernel
theorem dL_law_265 : decode cL_law 265 = .ok (.iadd, 1) := by decide +kernel
theorem dL_law_266 : decode cL_law 266 = .ok (.iaload, 1) := by decide +kernel
theorem dL_law_267 : decode cL_law 267 = .ok (.invokevirtual 36, 3) := by decide +kernel
theorem dL_law_270 : decode cL_law 270 = .ok (.if_icmp .eq 483, 3) := by decide +kernel
theorem dL_law_273 : decode cL_law 273 = .ok (.iconst 0, 1) := by decide +kernel
theorem dL_law_274 : decode cL_law 274 = .ok (.ireturn, 1) := by decide +kernel
theorem dL_law_275 : decode cL_law 275 = .ok (.aload_n 1, 1) := by decide +kernel
theorem dL_law_276 : decode cL_law 276 = .ok (.aload_n 0, 1) := by decide +kernel
theorem dL_law_277 : decode cL_law 277 = .ok (.iload_n 3, 1) := by decide +kernel
theorem dL_law_278 : decode cL_law 278 = .ok (.iconst 1, 1) := by decide +kernel
theorem dL_law_279 : decode cL_law 279 = .ok (.iadd, 1) := by decide +kernel
theorem dL_law_280 : decode cL_law 280 = .ok (.iaload, 1) := by decide +kernel
theorem dL_law_281 : decode cL_law 281 = .ok (.invokevirtual 37, 3) := by decide +kernel
theorem dL_law_284 : decode cL_law 284 = .ok (.aload_n 2, 1) := by decide +kernel
theorem dL_law_285 : decode cL_law 285 = .ok (.aload_n 0, 1) := by decide +kernel
theorem dL_law_286 : decode cL_law 286 = .ok (.iload_n 3, 1) := by decide +kernel
theorem dL_law_287 : decode cL_law 287 = .ok (.iconst 1, 1) := by decide +kernel
theorem dL_law_288 : decode cL_law 288 = .ok (.iadd, 1) := by decide +kernel
theorem dL_law_289 : decode cL_law 289 = .ok (.iaload, 1) := by decide +kernel
theorem dL_law_290 : decode cL_law 290 = .ok (.invokevirtual 40, 3) := by decide +kernel
theorem dL_law_293 : decode cL_law 293 = .ok (.if_icmp .eq 460, 3) := by decide +kernel
theorem dL_law_296 : decode cL_law 296 = .ok (.iconst 0, 1) := by decide +kernel
theorem dL_law_297 : decode cL_law 297 = .ok (.ireturn, 1) := by decide +kernel
theorem dL_law_298 : decode cL_law 298 = .ok (.aload_n 1, 1) := by decide +kernel
theorem dL_law_299 : decode cL_law 299 = .ok (.aload_n 0, 1) := by decide +kernel
theorem dL_law_300 : decode cL_law 300 = .ok (.iload_n 3, 1) := by decide +kernel
theorem dL_law_301 : decode cL_law 301 = .ok (.iconst 1, 1) := by decide +kernel
theorem dL_law_302 : decode cL_law 302 = .ok (.iadd, 1) := by decide +kernel
theorem dL_law_303 : decode cL_law 303 = .ok (.iaload, 1) := by decide +kernel
theorem dL_law_304 : decode cL_law 304 = .ok (.aload_n 0, 1) := by decide +kernel
theorem dL_law_305 : decode cL_law 305 = .ok (.iload_n 3, 1) := by decide +kernel
theorem dL_law_306 : decode cL_law 306 = .ok (.iconst 2, 1) := by decide +kernel
theorem dL_law_307 : decode cL_law 307 = .ok (.iadd, 1) := by decide +kernel
theorem dL_law_308 : decode cL_law 308 = .ok (.iaload, 1) := by decide +kernel
theorem dL_law_309 : decode cL_law 309 = .ok (.invokevirtual 41, 3) := by decide +kernel
theorem dL_law_312 : decode cL_law 312 = .ok (.aload_n 2, 1) := by decide +kernel
theorem dL_law_313 : decode cL_law 313 = .ok (.aload_n 0, 1) := by decide +kernel
theorem dL_law_314 : decode cL_law 314 = .ok (.iload_n 3, 1) := by decide +kernel
theorem dL_law_315 : decode cL_law 315 = .ok (.iconst 1, 1) := by decide +kernel
theorem dL_law_316 : decode cL_law 316 = .ok (.iadd, 1) := by decide +kernel
theorem dL_law_317 : decode cL_law 317 = .ok (.iaload, 1) := by decide +kernel
theorem dL_law_318 : decode cL_law 318 = .ok (.aload_n 0, 1) := by decide +kernel
theorem dL_law_319 : decode cL_law 319 = .ok (.iload_n 3, 1) := by decide +kernel
theorem dL_law_320 : decode cL_law 320 = .ok (.iconst 2, 1) := by decide +kernel
theorem dL_law_321 : decode cL_law 321 = .ok (.iadd, 1) := by decide +kernel
theorem dL_law_322 : decode cL_law 322 = .ok (.iaload, 1) := by decide +kernel
theorem dL_law_323 : decode cL_law 323 = .ok (.invokevirtual 44, 3) := by decide +kernel
theorem dL_law_326 : decode cL_law 326 = .ok (.if_icmp .eq 427, 3) := by decide +kernel
theorem dL_law_329 : decode cL_law 329 = .ok (.iconst 0, 1) := by decide +kernel
theorem dL_law_330 : decode cL_law 330 = .ok (.ireturn, 1) := by decide +kernel
theorem dL_law_331 : decode cL_law 331 = .ok (.aload_n 1, 1) := by decide +kernel
theorem dL_law_332 : decode cL_law 332 = .ok (.aload_n 0, 1) := by decide +kernel
theorem dL_law_333 : decode cL_law 333 = .ok (.iload_n 3, 1) := by decide +kernel
theorem dL_law_334 : decode cL_law 334 = .ok (.iconst 1, 1) := by decide +kernel
theorem dL_law_335 : decode cL_law 335 = .ok (.iadd, 1) := by decide +kernel
theorem dL_law_336 : decode cL_law 336 = .ok (.iaload, 1) := by decide +kernel
theorem dL_law_337 : decode cL_law 337 = .ok (.aload_n 0, 1) := by decide +kernel
theorem dL_law_338 : decode cL_law 338 = .ok (.iload_n 3, 1) := by decide +kernel
theorem dL_law_339 : decode cL_law 339 = .ok (.iconst 2, 1) := by decide +kernel
theorem dL_law_340 : decode cL_law 340 = .ok (.iadd, 1) := by decide +kernel
theorem dL_law_341 : decode cL_law 341 = .ok (.iaload, 1) := by decide +kernel
theorem dL_law_342 : decode cL_law 342 = .ok (.aload_n 0, 1) := by decide +kernel
theorem dL_law_343 : decode cL_law 343 = .ok (.iload_n 3, 1) := by decide +kernel
theorem dL_law_344 : decode cL_law 344 = .ok (.iconst 3, 1) := by decide +kernel
theorem dL_law_345 : decode cL_law 345 = .ok (.iadd, 1) := by decide +kernel
theorem dL_law_346 : decode cL_law 346 = .ok (.iaload, 1) := by decide +kernel
theorem dL_law_347 : decode cL_law 347 = .ok (.invokevirtual 45, 3) := by decide +kernel
theorem dL_law_350 : decode cL_law 350 = .ok (.aload_n 2, 1) := by decide +kernel
theorem dL_law_351 : decode cL_law 351 = .ok (.aload_n 0, 1) := by decide +kernel
theorem dL_law_352 : decode cL_law 352 = .ok (.iload_n 3, 1) := by decide +kernel
theorem dL_law_353 : decode cL_law 353 = .ok (.iconst 1, 1) := by decide +kernel
theorem dL_law_354 : decode cL_law 354 = .ok (.iadd, 1) := by decide +kernel
theorem dL_law_355 : decode cL_law 355 = .ok (.iaload, 1) := by decide +kernel
theorem dL_law_356 : decode cL_law 356 = .ok (.aload_n 0, 1) := by decide +kernel
theorem dL_law_357 : decode cL_law 357 = .ok (.iload_n 3, 1) := by decide +kernel
theorem dL_law_358 : decode cL_law 358 = .ok (.iconst 2, 1) := by decide +kernel
theorem dL_law_359 : decode cL_law 359 = .ok (.iadd, 1) := by decide +kernel
theorem dL_law_360 : decode cL_law 360 = .ok (.iaload, 1) := by decide +kernel
theorem dL_law_361 : decode cL_law 361 = .ok (.aload_n 0, 1) := by decide +kernel
theorem dL_law_362 : decode cL_law 362 = .ok (.iload_n 3, 1) := by decide +kernel
theorem dL_law_363 : decode cL_law 363 = .ok (.iconst 3, 1) := by decide +kernel
theorem dL_law_364 : decode cL_law 364 = .ok (.iadd, 1) := by decide +kernel
theorem dL_law_365 : decode cL_law 365 = .ok (.iaload, 1) := by decide +kernel
theorem dL_law_366 : decode cL_law 366 = .ok (.invokevirtual 49, 3) := by decide +kernel
theorem dL_law_369 : decode cL_law 369 = .ok (.if_icmp .eq 384, 3) := by decide +kernel
theorem dL_law_372 : decode cL_law 372 = .ok (.iconst 0, 1) := by decide +kernel
theorem dL_law_373 : decode cL_law 373 = .ok (.ireturn, 1) := by decide +kernel
theorem dL_law_374 : decode cL_law 374 = .ok (.aload_n 1, 1) := by decide +kernel
theorem dL_law_375 : decode cL_law 375 = .ok (.aload_n 0, 1) := by decide +kernel
theorem dL_law_376 : decode cL_law 376 = .ok (.iload_n 3, 1) := by decide +kernel
theorem dL_law_377 : decode cL_law 377 = .ok (.iconst 1, 1) := by decide +kernel
theorem dL_law_378 : decode cL_law 378 = .ok (.iadd, 1) := by decide +kernel
theorem dL_law_379 : decode cL_law 379 = .ok (.iaload, 1) := by decide +kernel
theorem dL_law_380 : decode cL_law 380 = .ok (.invokevirtual 50, 3) := by decide +kernel
theorem dL_law_383 : decode cL_law 383 = .ok (.aload_n 2, 1) := by decide +kernel
theorem dL_law_384 : decode cL_law 384 = .ok (.aload_n 0, 1) := by decide +kernel
theorem dL_law_385 : decode cL_law 385 = .ok (.iload_n 3, 1) := by decide +kernel
theorem dL_law_386 : decode cL_law 386 = .ok (.iconst 1, 1) := by decide +kernel
theorem dL_law_387 : decode cL_law 387 = .ok (.iadd, 1) := by decide +kernel
theorem dL_law_388 : decode cL_law 388 = .ok (.iaload, 1) := by decide +kernel
theorem dL_law_389 : decode cL_law 389 = .ok (.invokevirtual 53, 3) := by decide +kernel
theorem dL_law_392 : decode cL_law 392 = .ok (.if_icmp .eq 361, 3) := by decide +kernel
theorem dL_law_395 : decode cL_law 395 = .ok (.iconst 0, 1) := by decide +kernel
theorem dL_law_396 : decode cL_law 396 = .ok (.ireturn, 1) := by decide +kernel
theorem dL_law_397 : decode cL_law 397 = .ok (.aload_n 1, 1) := by decide +kernel
theorem dL_law_398 : decode cL_law 398 = .ok (.aload_n 0, 1) := by decide +kernel
theorem dL_law_399 : decode cL_law 399 = .ok (.iload_n 3, 1) := by decide +kernel
theorem dL_law_400 : decode cL_law 400 = .ok (.iconst 1, 1) := by decide +kernel
theorem dL_law_401 : decode cL_law 401 = .ok (.iadd, 1) := by decide +kernel
theorem dL_law_402 : decode cL_law 402 = .ok (.iaload, 1) := by decide +kernel
theorem dL_law_403 : decode cL_law 403 = .ok (.ifCond .eq 7, 3) := by decide +kernel
theorem dL_law_406 : decode cL_law 406 = .ok (.iconst 1, 1) := by decide +kernel
theorem dL_law_407 : decode cL_law 407 = .ok (.goto 4, 3) := by decide +kernel
theorem dL_law_410 : decode cL_law 410 = .ok (.iconst 0, 1) := by decide +kernel
theorem dL_law_411 : decode cL_law 411 = .ok (.invokevirtual 54, 3) := by decide +kernel
theorem dL_law_414 : decode cL_law 414 = .ok (.aload_n 2, 1) := by decide +kernel
theorem dL_law_415 : decode cL_law 415 = .ok (.aload_n 0, 1) := by decide +kernel
theorem dL_law_416 : decode cL_law 416 = .ok (.iload_n 3, 1) := by decide +kernel
theorem dL_law_417 : decode cL_law 417 = .ok (.iconst 1, 1) := by decide +kernel
theorem dL_law_418 : decode cL_law 418 = .ok (.iadd, 1) := by decide +kernel
theorem dL_law_419 : decode cL_law 419 = .ok (.iaload, 1) := by decide +kernel
theorem dL_law_420 : decode cL_law 420 = .ok (.ifCond .eq 7, 3) := by decide +kernel
theorem dL_law_423 : decode cL_law 423 = .ok (.iconst 1, 1) := by decide +kernel
theorem dL_law_424 : decode cL_law 424 = .ok (.goto 4, 3) := by decide +kernel
theorem dL_law_427 : decode cL_law 427 = .ok (.iconst 0, 1) := by decide +kernel
theorem dL_law_428 : decode cL_law 428 = .ok (.invokevirtual 58, 3) := by decide +kernel
theorem dL_law_431 : decode cL_law 431 = .ok (.if_icmp .eq 322, 3) := by decide +kernel
theorem dL_law_434 : decode cL_law 434 = .ok (.iconst 0, 1) := by decide +kernel
theorem dL_law_435 : decode cL_law 435 = .ok (.ireturn, 1) := by decide +kernel
theorem dL_law_436 : decode cL_law 436 = .ok (.aload_n 1, 1) := by decide +kernel
theorem dL_law_437 : decode cL_law 437 = .ok (.aload_n 0, 1) := by decide +kernel
theorem dL_law_438 : decode cL_law 438 = .ok (.iload_n 3, 1) := by decide +kernel
theorem dL_law_439 : decode cL_law 439 = .ok (.iconst 1, 1) := by decide +kernel
theorem dL_law_440 : decode cL_law 440 = .ok (.iadd, 1) := by decide +kernel
theorem dL_law_441 : decode cL_law 441 = .ok (.iaload, 1) := by decide +kernel
theorem dL_law_442 : decode cL_law 442 = .ok (.invokevirtual 59, 3) := by decide +kernel
theorem dL_law_445 : decode cL_law 445 = .ok (.aload_n 2, 1) := by decide +kernel
theorem dL_law_446 : decode cL_law 446 = .ok (.aload_n 0, 1) := by decide +kernel
theorem dL_law_447 : decode cL_law 447 = .ok (.iload_n 3, 1) := by decide +kernel
theorem dL_law_448 : decode cL_law 448 = .ok (.iconst 1, 1) := by decide +kernel
theorem dL_law_449 : decode cL_law 449 = .ok (.iadd, 1) := by decide +kernel
theorem dL_law_450 : decode cL_law 450 = .ok (.iaload, 1) := by decide +kernel
theorem dL_law_451 : decode cL_law 451 = .ok (.invokevirtual 62, 3) := by decide +kernel
theorem dL_law_454 : decode cL_law 454 = .ok (.if_icmp .eq 299, 3) := by decide +kernel
theorem dL_law_457 : decode cL_law 457 = .ok (.iconst 0, 1) := by decide +kernel
theorem dL_law_458 : decode cL_law 458 = .ok (.ireturn, 1) := by decide +kernel
theorem dL_law_459 : decode cL_law 459 = .ok (.aload_n 1, 1) := by decide +kernel
theorem dL_law_460 : decode cL_law 460 = .ok (.invokevirtual 63, 3) := by decide +kernel
theorem dL_law_463 : decode cL_law 463 = .ok (.aload_n 2, 1) := by decide +kernel
theorem dL_law_464 : decode cL_law 464 = .ok (.invokevirtual 66, 3) := by decide +kernel
theorem dL_law_467 : decode cL_law 467 = .ok (.if_icmp .eq 286, 3) := by decide +kernel
theorem dL_law_470 : decode cL_law 470 = .ok (.iconst 0, 1) := by decide +kernel
theorem dL_law_471 : decode cL_law 471 = .ok (.ireturn, 1) := by decide +kernel
theorem dL_law_472 : decode cL_law 472 = .ok (.aload_n 1, 1) := by decide +kernel
theorem dL_law_473 : decode cL_law 473 = .ok (.aload_n 0, 1) := by decide +kernel
theorem dL_law_474 : decode cL_law 474 = .ok (.iload_n 3, 1) := by decide +kernel
theorem dL_law_475 : decode cL_law 475 = .ok (.iconst 1, 1) := by decide +kernel
theorem dL_law_476 : decode cL_law 476 = .ok (.iadd, 1) := by decide +kernel
theorem dL_law_477 : decode cL_law 477 = .ok (.iaload, 1) := by decide +kernel
theorem dL_law_478 : decode cL_law 478 = .ok (.i2c, 1) := by decide +kernel
theorem dL_law_479 : decode cL_law 479 = .ok (.invokevirtual 67, 3) := by decide +kernel
theorem dL_law_482 : decode cL_law 482 = .ok (.aload_n 2, 1) := by decide +kernel
theorem dL_law_483 : decode cL_law 483 = .ok (.aload_n 0, 1) := by decide +kernel
theorem dL_law_484 : decode cL_law 484 = .ok (.iload_n 3, 1) := by decide +kernel
theorem dL_law_485 : decode cL_law 485 = .ok (.iconst 1, 1) := by decide +kernel
theorem dL_law_486 : decode cL_law 486 = .ok (.iadd, 1) := by decide +kernel
theorem dL_law_487 : decode cL_law 487 = .ok (.iaload, 1) := by decide +kernel
theorem dL_law_488 : decode cL_law 488 = .ok (.i2c, 1) := by decide +kernel
theorem dL_law_489 : decode cL_law 489 = .ok (.invokevirtual 71, 3) := by decide +kernel
theorem dL_law_492 : decode cL_law 492 = .ok (.if_icmp .eq 261, 3) := by decide +kernel
theorem dL_law_495 : decode cL_law 495 = .ok (.iconst 0, 1) := by decide +kernel
theorem dL_law_496 : decode cL_law 496 = .ok (.ireturn, 1) := by decide +kernel
theorem dL_law_497 : decode cL_law 497 = .ok (.aload_n 1, 1) := by decide +kernel
theorem dL_law_498 : decode cL_law 498 = .ok (.invokevirtual 72, 3) := by decide +kernel
theorem dL_law_501 : decode cL_law 501 = .ok (.aload_n 2, 1) := by decide +kernel
theorem dL_law_502 : decode cL_law 502 = .ok (.invokevirtual 75, 3) := by decide +kernel
theorem dL_law_505 : decode cL_law 505 = .ok (.if_icmp .eq 248, 3) := by decide +kernel
theorem dL_law_508 : decode cL_law 508 = .ok (.iconst 0, 1) := by decide +kernel
theorem dL_law_509 : decode cL_law 509 = .ok (.ireturn, 1) := by decide +kernel
theorem dL_law_510 : decode cL_law 510 = .ok (.aload_n 1, 1) := by decide +kernel
theorem dL_law_511 : decode cL_law 511 = .ok (.invokevirtual 76, 3) := by decide +kernel
theorem dL_law_514 : decode cL_law 514 = .ok (.aload_n 2, 1) := by decide +kernel
theorem dL_law_515 : decode cL_law 515 = .ok (.invokevirtual 79, 3) := by decide +kernel
theorem dL_law_518 : decode cL_law 518 = .ok (.if_icmp .eq 235, 3) := by decide +kernel
theorem dL_law_521 : decode cL_law 521 = .ok (.iconst 0, 1) := by decide +kernel
theorem dL_law_522 : decode cL_law 522 = .ok (.ireturn, 1) := by decide +kernel
theorem dL_law_523 : decode cL_law 523 = .ok (.aload_n 1, 1) := by decide +kernel
theorem dL_law_524 : decode cL_law 524 = .ok (.invokevirtual 80, 3) := by decide +kernel
theorem dL_law_527 : decode cL_law 527 = .ok (.aload_n 2, 1) := by decide +kernel
theorem dL_law_528 : decode cL_law 528 = .ok (.invokevirtual 83, 3) := by decide +kernel
theorem dL_law_531 : decode cL_law 531 = .ok (.if_icmp .eq 222, 3) := by decide +kernel
theorem dL_law_534 : decode cL_law 534 = .ok (.iconst 0, 1) := by decide +kernel
theorem dL_law_535 : decode cL_law 535 = .ok (.ireturn, 1) := by decide +kernel
theorem dL_law_536 : decode cL_law 536 = .ok (.aload_n 1, 1) := by decide +kernel
theorem dL_law_537 : decode cL_law 537 = .ok (.invokevirtual 84, 3) := by decide +kernel
theorem dL_law_540 : decode cL_law 540 = .ok (.aload_n 2, 1) := by decide +kernel
theorem dL_law_541 : decode cL_law 541 = .ok (.invokevirtual 87, 3) := by decide +kernel
theorem dL_law_544 : decode cL_law 544 = .ok (.if_icmp .eq 209, 3) := by decide +kernel
theorem dL_law_547 : decode cL_law 547 = .ok (.iconst 0, 1) := by decide +kernel
theorem dL_law_548 : decode cL_law 548 = .ok (.ireturn, 1) := by decide +kernel
theorem dL_law_549 : decode cL_law 549 = .ok (.aload_n 1, 1) := by decide +kernel
theorem dL_law_550 : decode cL_law 550 = .ok (.aload_n 0, 1) := by decide +kernel
theorem dL_law_551 : decode cL_law 551 = .ok (.iload_n 3, 1) := by decide +kernel
theorem dL_law_552 : decode cL_law 552 = .ok (.iconst 1, 1) := by decide +kernel
theorem dL_law_553 : decode cL_law 553 = .ok (.iadd, 1) := by decide +kernel
theorem dL_law_554 : decode cL_law 554 = .ok (.iaload, 1) := by decide +kernel
theorem dL_law_555 : decode cL_law 555 = .ok (.aload_n 0, 1) := by decide +kernel
theorem dL_law_556 : decode cL_law 556 = .ok (.iload_n 3, 1) := by decide +kernel
theorem dL_law_557 : decode cL_law 557 = .ok (.iconst 2, 1) := by decide +kernel
theorem dL_law_558 : decode cL_law 558 = .ok (.iadd, 1) := by decide +kernel
theorem dL_law_559 : decode cL_law 559 = .ok (.iaload, 1) := by decide +kernel
theorem dL_law_560 : decode cL_law 560 = .ok (.invokevirtual 88, 3) := by decide +kernel
theorem dL_law_563 : decode cL_law 563 = .ok (.aload_n 2, 1) := by decide +kernel
theorem dL_law_564 : decode cL_law 564 = .ok (.aload_n 0, 1) := by decide +kernel
theorem dL_law_565 : decode cL_law 565 = .ok (.iload_n 3, 1) := by decide +kernel
theorem dL_law_566 : decode cL_law 566 = .ok (.iconst 1, 1) := by decide +kernel
theorem dL_law_567 : decode cL_law 567 = .ok (.iadd, 1) := by decide +kernel
theorem dL_law_568 : decode cL_law 568 = .ok (.iaload, 1) := by decide +kernel
theorem dL_law_569 : decode cL_law 569 = .ok (.aload_n 0, 1) := by decide +kernel
theorem dL_law_570 : decode cL_law 570 = .ok (.iload_n 3, 1) := by decide +kernel
theorem dL_law_571 : decode cL_law 571 = .ok (.iconst 2, 1) := by decide +kernel
theorem dL_law_572 : decode cL_law 572 = .ok (.iadd, 1) := by decide +kernel
theorem dL_law_573 : decode cL_law 573 = .ok (.iaload, 1) := by decide +kernel
theorem dL_law_574 : decode cL_law 574 = .ok (.invokevirtual 91, 3) := by decide +kernel
theorem dL_law_577 : decode cL_law 577 = .ok (.if_icmp .eq 176, 3) := by decide +kernel
theorem dL_law_580 : decode cL_law 580 = .ok (.iconst 0, 1) := by decide +kernel
theorem dL_law_581 : decode cL_law 581 = .ok (.ireturn, 1) := by decide +kernel
theorem dL_law_582 : decode cL_law 582 = .ok (.aload_n 1, 1) := by decide +kernel
theorem dL_law_583 : decode cL_law 583 = .ok (.aload_n 0, 1) := by decide +kernel
theorem dL_law_584 : decode cL_law 584 = .ok (.iload_n 3, 1) := by decide +kernel
theorem dL_law_585 : decode cL_law 585 = .ok (.iconst 1, 1) := by decide +kernel
theorem dL_law_586 : decode cL_law 586 = .ok (.iadd, 1) := by decide +kernel
theorem dL_law_587 : decode cL_law 587 = .ok (.iaload, 1) := by decide +kernel
theorem dL_law_588 : decode cL_law 588 = .ok (.invokevirtual 92, 3) := by decide +kernel
theorem dL_law_591 : decode cL_law 591 = .ok (.aload_n 2, 1) := by decide +kernel
theorem dL_law_592 : decode cL_law 592 = .ok (.aload_n 0, 1) := by decide +kernel
theorem dL_law_593 : decode cL_law 593 = .ok (.iload_n 3, 1) := by decide +kernel
theorem dL_law_594 : decode cL_law 594 = .ok (.iconst 1, 1) := by decide +kernel
theorem dL_law_595 : decode cL_law 595 = .ok (.iadd, 1) := by decide +kernel
theorem dL_law_596 : decode cL_law 596 = .ok (.iaload, 1) := by decide +kernel
theorem dL_law_597 : decode cL_law 597 = .ok (.invokevirtual 95, 3) := by decide +kernel
theorem dL_law_600 : decode cL_law 600 = .ok (.if_icmp .eq 153, 3) := by decide +kernel
theorem dL_law_603 : decode cL_law 603 = .ok (.iconst 0, 1) := by decide +kernel
theorem dL_law_604 : decode cL_law 604 = .ok (.ireturn, 1) := by decide +kernel
theorem dL_law_605 : decode cL_law 605 = .ok (.aload_n 1, 1) := by decide +kernel
theorem dL_law_606 : decode cL_law 606 = .ok (.aload_n 0, 1) := by decide +kernel
theorem dL_law_607 : decode cL_law 607 = .ok (.iload_n 3, 1) := by decide +kernel
theorem dL_law_608 : decode cL_law 608 = .ok (.iconst 1, 1) := by decide +kernel
theorem dL_law_609 : decode cL_law 609 = .ok (.iadd, 1) := by decide +kernel
theorem dL_law_610 : decode cL_law 610 = .ok (.iaload, 1) := by decide +kernel
theorem dL_law_611 : decode cL_law 611 = .ok (.aload_n 0, 1) := by decide +kernel
theorem dL_law_612 : decode cL_law 612 = .ok (.iload_n 3, 1) := by decide +kernel
theorem dL_law_613 : decode cL_law 613 = .ok (.iconst 2, 1) := by decide +kernel
theorem dL_law_614 : decode cL_law 614 = .ok (.iadd, 1) := by decide +kernel
theorem dL_law_615 : decode cL_law 615 = .ok (.iaload, 1) := by decide +kernel
theorem dL_law_616 : decode cL_law 616 = .ok (.invokevirtual 96, 3) := by decide +kernel
theorem dL_law_619 : decode cL_law 619 = .ok (.aload_n 2, 1) := by decide +kernel
theorem dL_law_620 : decode cL_law 620 = .ok (.aload_n 0, 1) := by decide +kernel
theorem dL_law_621 : decode cL_law 621 = .ok (.iload_n 3, 1) := by decide +kernel
theorem dL_law_622 : decode cL_law 622 = .ok (.iconst 1, 1) := by decide +kernel
theorem dL_law_623 : decode cL_law 623 = .ok (.iadd, 1) := by decide +kernel
theorem dL_law_624 : decode cL_law 624 = .ok (.iaload, 1) := by decide +kernel
theorem dL_law_625 : decode cL_law 625 = .ok (.aload_n 0, 1) := by decide +kernel
theorem dL_law_626 : decode cL_law 626 = .ok (.iload_n 3, 1) := by decide +kernel
theorem dL_law_627 : decode cL_law 627 = .ok (.iconst 2, 1) := by decide +kernel
theorem dL_law_628 : decode cL_law 628 = .ok (.iadd, 1) := by decide +kernel
theorem dL_law_629 : decode cL_law 629 = .ok (.iaload, 1) := by decide +kernel
theorem dL_law_630 : decode cL_law 630 = .ok (.invokevirtual 99, 3) := by decide +kernel
theorem dL_law_633 : decode cL_law 633 = .ok (.if_icmp .eq 120, 3) := by decide +kernel
theorem dL_law_636 : decode cL_law 636 = .ok (.iconst 0, 1) := by decide +kernel
theorem dL_law_637 : decode cL_law 637 = .ok (.ireturn, 1) := by decide +kernel
theorem dL_law_638 : decode cL_law 638 = .ok (.aload_n 1, 1) := by decide +kernel
theorem dL_law_639 : decode cL_law 639 = .ok (.invokevirtual 100, 3) := by decide +kernel
theorem dL_law_642 : decode cL_law 642 = .ok (.aload_n 2, 1) := by decide +kernel
theorem dL_law_643 : decode cL_law 643 = .ok (.invokevirtual 103, 3) := by decide +kernel
theorem dL_law_646 : decode cL_law 646 = .ok (.if_icmp .eq 107, 3) := by decide +kernel
theorem dL_law_649 : decode cL_law 649 = .ok (.iconst 0, 1) := by decide +kernel
theorem dL_law_650 : decode cL_law 650 = .ok (.ireturn, 1) := by decide +kernel
theorem dL_law_651 : decode cL_law 651 = .ok (.aload_n 1, 1) := by decide +kernel
theorem dL_law_652 : decode cL_law 652 = .ok (.invokevirtual 104, 3) := by decide +kernel
theorem dL_law_655 : decode cL_law 655 = .ok (.aload_n 2, 1) := by decide +kernel
theorem dL_law_656 : decode cL_law 656 = .ok (.invokevirtual 107, 3) := by decide +kernel
theorem dL_law_659 : decode cL_law 659 = .ok (.if_icmp .eq 94, 3) := by decide +kernel
theorem dL_law_662 : decode cL_law 662 = .ok (.iconst 0, 1) := by decide +kernel
theorem dL_law_663 : decode cL_law 663 = .ok (.ireturn, 1) := by decide +kernel
theorem dL_law_664 : decode cL_law 664 = .ok (.aload_n 1, 1) := by decide +kernel
theorem dL_law_665 : decode cL_law 665 = .ok (.aload_n 0, 1) := by decide +kernel
theorem dL_law_666 : decode cL_law 666 = .ok (.iload_n 3, 1) := by decide +kernel
theorem dL_law_667 : decode cL_law 667 = .ok (.iconst 1, 1) := by decide +kernel
theorem dL_law_668 : decode cL_law 668 = .ok (.iadd, 1) := by decide +kernel
theorem dL_law_669 : decode cL_law 669 = .ok (.iaload, 1) := by decide +kernel
theorem dL_law_670 : decode cL_law 670 = .ok (.aload_n 0, 1) := by decide +kernel
theorem dL_law_671 : decode cL_law 671 = .ok (.iload_n 3, 1) := by decide +kernel
theorem dL_law_672 : decode cL_law 672 = .ok (.iconst 2, 1) := by decide +kernel
theorem dL_law_673 : decode cL_law 673 = .ok (.iadd, 1) := by decide +kernel
theorem dL_law_674 : decode cL_law 674 = .ok (.iaload, 1) := by decide +kernel
theorem dL_law_675 : decode cL_law 675 = .ok (.invokevirtual 108, 3) := by decide +kernel
theorem dL_law_678 : decode cL_law 678 = .ok (.aload_n 2, 1) := by decide +kernel
theorem dL_law_679 : decode cL_law 679 = .ok (.aload_n 0, 1) := by decide +kernel
theorem dL_law_680 : decode cL_law 680 = .ok (.iload_n 3, 1) := by decide +kernel
theorem dL_law_681 : decode cL_law 681 = .ok (.iconst 1, 1) := by decide +kernel
theorem dL_law_682 : decode cL_law 682 = .ok (.iadd, 1) := by decide +kernel
theorem dL_law_683 : decode cL_law 683 = .ok (.iaload, 1) := by decide +kernel
theorem dL_law_684 : decode cL_law 684 = .ok (.aload_n 0, 1) := by decide +kernel
theorem dL_law_685 : decode cL_law 685 = .ok (.iload_n 3, 1) := by decide +kernel
theorem dL_law_686 : decode cL_law 686 = .ok (.iconst 2, 1) := by decide +kernel
theorem dL_law_687 : decode cL_law 687 = .ok (.iadd, 1) := by decide +kernel
theorem dL_law_688 : decode cL_law 688 = .ok (.iaload, 1) := by decide +kernel
theorem dL_law_689 : decode cL_law 689 = .ok (.invokevirtual 111, 3) := by decide +kernel
theorem dL_law_692 : decode cL_law 692 = .ok (.if_icmp .eq 61, 3) := by decide +kernel
theorem dL_law_695 : decode cL_law 695 = .ok (.iconst 0, 1) := by decide +kernel
theorem dL_law_696 : decode cL_law 696 = .ok (.ireturn, 1) := by decide +kernel
theorem dL_law_697 : decode cL_law 697 = .ok (.aload_n 1, 1) := by decide +kernel
theorem dL_law_698 : decode cL_law 698 = .ok (.aload_n 0, 1) := by decide +kernel
theorem dL_law_699 : decode cL_law 699 = .ok (.iload_n 3, 1) := by decide +kernel
theorem dL_law_700 : decode cL_law 700 = .ok (.iconst 1, 1) := by decide +kernel
theorem dL_law_701 : decode cL_law 701 = .ok (.iadd, 1) := by decide +kernel
theorem dL_law_702 : decode cL_law 702 = .ok (.iaload, 1) := by decide +kernel
theorem dL_law_703 : decode cL_law 703 = .ok (.aload_n 0, 1) := by decide +kernel
theorem dL_law_704 : decode cL_law 704 = .ok (.iload_n 3, 1) := by decide +kernel
theorem dL_law_705 : decode cL_law 705 = .ok (.iconst 2, 1) := by decide +kernel
theorem dL_law_706 : decode cL_law 706 = .ok (.iadd, 1) := by decide +kernel
theorem dL_law_707 : decode cL_law 707 = .ok (.iaload, 1) := by decide +kernel
theorem dL_law_708 : decode cL_law 708 = .ok (.invokevirtual 112, 3) := by decide +kernel
theorem dL_law_711 : decode cL_law 711 = .ok (.aload_n 2, 1) := by decide +kernel
theorem dL_law_712 : decode cL_law 712 = .ok (.aload_n 0, 1) := by decide +kernel
theorem dL_law_713 : decode cL_law 713 = .ok (.iload_n 3, 1) := by decide +kernel
theorem dL_law_714 : decode cL_law 714 = .ok (.iconst 1, 1) := by decide +kernel
theorem dL_law_715 : decode cL_law 715 = .ok (.iadd, 1) := by decide +kernel
theorem dL_law_716 : decode cL_law 716 = .ok (.iaload, 1) := by decide +kernel
theorem dL_law_717 : decode cL_law 717 = .ok (.aload_n 0, 1) := by decide +kernel
theorem dL_law_718 : decode cL_law 718 = .ok (.iload_n 3, 1) := by decide +kernel
theorem dL_law_719 : decode cL_law 719 = .ok (.iconst 2, 1) := by decide +kernel
theorem dL_law_720 : decode cL_law 720 = .ok (.iadd, 1) := by decide +kernel
theorem dL_law_721 : decode cL_law 721 = .ok (.iaload, 1) := by decide +kernel
theorem dL_law_722 : decode cL_law 722 = .ok (.invokevirtual 115, 3) := by decide +kernel
theorem dL_law_725 : decode cL_law 725 = .ok (.if_icmp .eq 28, 3) := by decide +kernel
theorem dL_law_728 : decode cL_law 728 = .ok (.iconst 0, 1) := by decide +kernel
theorem dL_law_729 : decode cL_law 729 = .ok (.ireturn, 1) := by decide +kernel
theorem dL_law_730 : decode cL_law 730 = .ok (.aload_n 1, 1) := by decide +kernel
theorem dL_law_731 : decode cL_law 731 = .ok (.aload_n 0, 1) := by decide +kernel
theorem dL_law_732 : decode cL_law 732 = .ok (.iload_n 3, 1) := by decide +kernel
theorem dL_law_733 : decode cL_law 733 = .ok (.iconst 1, 1) := by decide +kernel
theorem dL_law_734 : decode cL_law 734 = .ok (.iadd, 1) := by decide +kernel
theorem dL_law_735 : decode cL_law 735 = .ok (.iaload, 1) := by decide +kernel
theorem dL_law_736 : decode cL_law 736 = .ok (.invokevirtual 116, 3) := by decide +kernel
theorem dL_law_739 : decode cL_law 739 = .ok (.aload_n 2, 1) := by decide +kernel
theorem dL_law_740 : decode cL_law 740 = .ok (.aload_n 0, 1) := by decide +kernel
theorem dL_law_741 : decode cL_law 741 = .ok (.iload_n 3, 1) := by decide +kernel
theorem dL_law_742 : decode cL_law 742 = .ok (.iconst 1, 1) := by decide +kernel
theorem dL_law_743 : decode cL_law 743 = .ok (.iadd, 1) := by decide +kernel
theorem dL_law_744 : decode cL_law 744 = .ok (.iaload, 1) := by decide +kernel
theorem dL_law_745 : decode cL_law 745 = .ok (.invokevirtual 119, 3) := by decide +kernel
theorem dL_law_748 : decode cL_law 748 = .ok (.if_icmp .eq 5, 3) := by decide +kernel
theorem dL_law_751 : decode cL_law 751 = .ok (.iconst 0, 1) := by decide +kernel
theorem dL_law_752 : decode cL_law 752 = .ok (.ireturn, 1) := by decide +kernel
theorem dL_law_753 : decode cL_law 753 = .ok (.iinc 3 4, 3) := by decide +kernel
theorem dL_law_756 : decode cL_law 756 = .ok (.goto (-738), 3) := by decide +kernel
theorem dL_law_759 : decode cL_law 759 = .ok (.iconst 1, 1) := by decide +kernel
theorem dL_law_760 : decode cL_law 760 = .ok (.ireturn, 1) := by decide +kernel

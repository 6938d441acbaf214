theorem dX6_become_1 : decode cX6_become 1 = .ok (.iload_n 2, 1) := by decide +kernel
theorem dX6_become_2 : decode cX6_become 2 = .ok (.bipush 12, 2) := by decide +kernel
theorem dX6_become_4 : decode cX6_become 4 = .ok (.invokestatic 25, 3) := by decide +kernel
theorem dX6_become_7 : decode cX6_become 7 = .ok (.putfield 15, 3) := by decide +kernel
theorem dX6_become_10 : decode cX6_become 10 = .ok (.aload_n 1, 1) := by decide +kernel
theorem dX6_become_11 : decode cX6_become 11 = .ok (.iconst 0, 1) := by decide +kernel
theorem dX6_become_12 : decode cX6_become 12 = .ok (.aload_n 0, 1) := by decide +kernel
theorem dX6_become_13 : decode cX6_become 13 = .ok (.getfield 9, 3) := by decide +kernel
theorem dX6_become_16 : decode cX6_become 16 = .ok (.iconst 0, 1) := by decide +kernel
theorem dX6_become_17 : decode cX6_become 17 = .ok (.aload_n 0, 1) := by decide +kernel
theorem dX6_become_18 : decode cX6_become 18 = .ok (.getfield 15, 3) := by decide +kernel
theorem dX6_become_21 : decode cX6_become 21 = .ok (.invokestatic 19, 3) := by decide +kernel
theorem dX6_become_24 : decode cX6_become 24 = .ok (.return_, 1) := by decide +kernel
theorem dX7_init_0 : decode cX7_init 0 = .ok (.aload_n 0, 1) := by decide +kernel
theorem dX7_init_1 : decode cX7_init 1 = .ok (.invokespecial 1, 3) := by decide +kernel
theorem dX7_init_4 : decode cX7_init 4 = .ok (.aload_n 0, 1) := by decide +kernel
theorem dX7_init_5 : decode cX7_init 5 = .ok (.new 7, 3) := by decide +kernel
theorem dX7_init_8 : decode cX7_init 8 = .ok (.dup, 1) := by decide +kernel
theorem dX7_init_9 : decode cX7_init 9 = .ok (.invokespecial 9, 3) := by decide +kernel
theorem dX7_init_12 : decode cX7_init 12 = .ok (.putfield 10, 3) := by decide +kernel
theorem dX7_init_15 : decode cX7_init 15 = .ok (.aload_n 0, 1) := by decide +kernel
theorem dX7_init_16 : decode cX7_init 16 = .ok (.new 7, 3) := by decide +kernel
theorem dX7_init_19 : decode cX7_init 19 = .ok (.dup, 1) := by decide +kernel
theorem dX7_init_20 : decode cX7_init 20 = .ok (.invokespecial 9, 3) := by decide +kernel
theorem dX7_init_23 : decode cX7_init 23 = .ok (.putfield 16, 3) := by decide +kernel
theorem dX7_init_26 : decode cX7_init 26 = .ok (.aload_n 0, 1) := by decide +kernel
theorem dX7_init_27 : decode cX7_init 27 = .ok (.new 7, 3) := by decide +kernel
theorem dX7_init_30 : decode cX7_init 30 = .ok (.dup, 1) := by decide +kernel
theorem dX7_init_31 : decode cX7_init 31 = .ok (.invokespecial 9, 3) := by decide +kernel
theorem dX7_init_34 : decode cX7_init 34 = .ok (.putfield 19, 3) := by decide +kernel
theorem dX7_init_37 : decode cX7_init 37 = .ok (.aload_n 0, 1) := by decide +kernel
theorem dX7_init_38 : decode cX7_init 38 = .ok (.iconst 4, 1) := by decide +kernel
theorem dX7_init_39 : decode cX7_init 39 = .ok (.anewarray 7, 3) := by decide +kernel
theorem dX7_init_42 : decode cX7_init 42 = .ok (.putfield 22, 3) := by decide +kernel
theorem dX7_init_45 : decode cX7_init 45 = .ok (.aload_n 0, 1) := by decide +kernel
theorem dX7_init_46 : decode cX7_init 46 = .ok (.bipush 60, 2) := by decide +kernel
theorem dX7_init_48 : decode cX7_init 48 = .ok (.newarray .char, 2) := by decide +kernel
theorem dX7_init_50 : decode cX7_init 50 = .ok (.putfield 26, 3) := by decide +kernel
theorem dX7_init_53 : decode cX7_init 53 = .ok (.aload_n 0, 1) := by decide +kernel
theorem dX7_init_54 : decode cX7_init 54 = .ok (.new 30, 3) := by decide +kernel
theorem dX7_init_57 : decode cX7_init 57 = .ok (.dup, 1) := by decide +kernel
theorem dX7_init_58 : decode cX7_init 58 = .ok (.invokespecial 32, 3) := by decide +kernel
theorem dX7_init_61 : decode cX7_init 61 = .ok (.putfield 33, 3) := by decide +kernel
theorem dX7_init_64 : decode cX7_init 64 = .ok (.aload_n 0, 1) := by decide +kernel
theorem dX7_init_65 : decode cX7_init 65 = .ok (.new 37, 3) := by decide +kernel
theorem dX7_init_68 : decode cX7_init 68 = .ok (.dup, 1) := by decide +kernel
theorem dX7_init_69 : decode cX7_init 69 = .ok (.invokespecial 39, 3) := by decide +kernel
theorem dX7_init_72 : decode cX7_init 72 = .ok (.putfield 40, 3) := by decide +kernel
theorem dX7_init_75 : decode cX7_init 75 = .ok (.aload_n 0, 1) := by decide +kernel
theorem dX7_init_76 : decode cX7_init 76 = .ok (.iconst 0, 1) := by decide +kernel
theorem dX7_init_77 : decode cX7_init 77 = .ok (.putfield 44, 3) := by decide +kernel
theorem dX7_init_80 : decode cX7_init 80 = .ok (.aload_n 0, 1) := by decide +kernel
theorem dX7_init_81 : decode cX7_init 81 = .ok (.iconst 0, 1) := by decide +kernel
theorem dX7_init_82 : decode cX7_init 82 = .ok (.putfield 48, 3) := by decide +kernel
theorem dX7_init_85 : decode cX7_init 85 = .ok (.aload_n 0, 1) := by decide +kernel
theorem dX7_init_86 : decode cX7_init 86 = .ok (.iconst 0, 1) := by decide +kernel
theorem dX7_init_87 : decode cX7_init 87 = .ok (.putfield 52, 3) := by decide +kernel
theorem dX7_init_90 : decode cX7_init 90 = .ok (.iconst 0, 1) := by decide +kernel
theorem dX7_init_91 : decode cX7_init 91 = .ok (.istore_n 1, 1) := by decide +kernel
theorem dX7_init_92 : decode cX7_init 92 = .ok (.iload_n 1, 1) := by decide +kernel
theorem dX7_init_93 : decode cX7_init 93 = .ok (.iconst 4, 1) := by decide +kernel
theorem dX7_init_94 : decode cX7_init 94 = .ok (.if_icmp .ge 22, 3) := by decide +kernel
theorem dX7_init_97 : decode cX7_init 97 = .ok (.aload_n 0, 1) := by decide +kernel
theorem dX7_init_98 : decode cX7_init 98 = .ok (.getfield 22, 3) := by decide +kernel
theorem dX7_init_101 : decode cX7_init 101 = .ok (.iload_n 1, 1) := by decide +kernel
theorem dX7_init_102 : decode cX7_init 102 = .ok (.new 7, 3) := by decide +kernel
theorem dX7_init_105 : decode cX7_init 105 = .ok (.dup, 1) := by decide +kernel
theorem dX7_init_106 : decode cX7_init 106 = .ok (.invokespecial 9, 3) := by decide +kernel
theorem dX7_init_109 : decode cX7_init 109 = .ok (.aastore, 1) := by decide +kernel
theorem dX7_init_110 : decode cX7_init 110 = .ok (.iinc 1 1, 3) := by decide +kernel
theorem dX7_init_113 : decode cX7_init 113 = .ok (.goto (-21), 3) := by decide +kernel
theorem dX7_init_116 : decode cX7_init 116 = .ok (.return_, 1) := by decide +kernel
theorem dX7_come_0 : decode cX7_come 0 = .ok (.iload_n 1, 1) := by decide +kernel
theorem dX7_come_1 : decode cX7_come 1 = .ok (.invokestatic 55, 3) := by decide +kernel
theorem dX7_come_4 : decode cX7_come 4 = .ok (.ifCond .eq 13, 3) := by decide +kernel
theorem dX7_come_7 : decode cX7_come 7 = .ok (.iload_n 2, 1) := by decide +kernel
theorem dX7_come_8 : decode cX7_come 8 = .ok (.iconst 1, 1) := by decide +kernel
theorem dX7_come_9 : decode cX7_come 9 = .ok (.bipush 9, 2) := by decide +kernel
theorem dX7_come_11 : decode cX7_come 11 = .ok (.invokestatic 59, 3) := by decide +kernel
theorem dX7_come_14 : decode cX7_come 14 = .ok (.ifCond .ne 6, 3) := by decide +kernel
theorem dX7_come_17 : decode cX7_come 17 = .ok (.ldc 63, 2) := by decide +kernel
theorem dX7_come_19 : decode cX7_come 19 = .ok (.ireturn, 1) := by decide +kernel
theorem dX7_come_20 : decode cX7_come 20 = .ok (.aload_n 0, 1) := by decide +kernel
theorem dX7_come_21 : decode cX7_come 21 = .ok (.getfield 10, 3) := by decide +kernel
theorem dX7_come_24 : decode cX7_come 24 = .ok (.getfield 64, 3) := by decide +kernel
theorem dX7_come_27 : decode cX7_come 27 = .ok (.iconst 1, 1) := by decide +kernel
theorem dX7_come_28 : decode cX7_come 28 = .ok (.invokevirtual 68, 3) := by decide +kernel
theorem dX7_come_31 : decode cX7_come 31 = .ok (.ifCond .ne 6, 3) := by decide +kernel
theorem dX7_come_34 : decode cX7_come 34 = .ok (.ldc 74, 2) := by decide +kernel
theorem dX7_come_36 : decode cX7_come 36 = .ok (.ireturn, 1) := by decide +kernel
theorem dX7_come_37 : decode cX7_come 37 = .ok (.aload_n 0, 1) := by decide +kernel
theorem dX7_come_38 : decode cX7_come 38 = .ok (.invokevirtual 75, 3) := by decide +kernel
theorem dX7_come_41 : decode cX7_come 41 = .ok (.aload_n 0, 1) := by decide +kernel
theorem dX7_come_42 : decode cX7_come 42 = .ok (.getfield 10, 3) := by decide +kernel
theorem dX7_come_45 : decode cX7_come 45 = .ok (.getfield 64, 3) := by decide +kernel
theorem dX7_come_48 : decode cX7_come 48 = .ok (.iload_n 1, 1) := by decide +kernel
theorem dX7_come_49 : decode cX7_come 49 = .ok (.iload_n 2, 1) := by decide +kernel
theorem dX7_come_50 : decode cX7_come 50 = .ok (.invokevirtual 78, 3) := by decide +kernel
theorem dX7_come_53 : decode cX7_come 53 = .ok (.aload_n 0, 1) := by decide +kernel
theorem dX7_come_54 : decode cX7_come 54 = .ok (.getfield 10, 3) := by decide +kernel
theorem dX7_come_57 : decode cX7_come 57 = .ok (.getfield 64, 3) := by decide +kernel
theorem dX7_come_60 : decode cX7_come 60 = .ok (.getfield 82, 3) := by decide +kernel
theorem dX7_come_63 : decode cX7_come 63 = .ok (.iconst 1, 1) := by decide +kernel
theorem dX7_come_64 : decode cX7_come 64 = .ok (.isub, 1) := by decide +kernel
theorem dX7_come_65 : decode cX7_come 65 = .ok (.ireturn, 1) := by decide +kernel
theorem dX7_readRow_0 : decode cX7_readRow 0 = .ok (.aload_n 0, 1) := by decide +kernel
theorem dX7_readRow_1 : decode cX7_readRow 1 = .ok (.invokevirtual 85, 3) := by decide +kernel
theorem dX7_readRow_4 : decode cX7_readRow 4 = .ok (.istore_n 1, 1) := by decide +kernel
theorem dX7_readRow_5 : decode cX7_readRow 5 = .ok (.iload_n 1, 1) := by decide +kernel
theorem dX7_readRow_6 : decode cX7_readRow 6 = .ok (.iconst (-1), 1) := by decide +kernel
theorem dX7_readRow_7 : decode cX7_readRow 7 = .ok (.if_icmp .eq 8, 3) := by decide +kernel
theorem dX7_readRow_10 : decode cX7_readRow 10 = .ok (.ldc 89, 2) := by decide +kernel
theorem dX7_readRow_12 : decode cX7_readRow 12 = .ok (.iload_n 1, 1) := by decide +kernel
theorem dX7_readRow_13 : decode cX7_readRow 13 = .ok (.isub, 1) := by decide +kernel
theorem dX7_readRow_14 : decode cX7_readRow 14 = .ok (.ireturn, 1) := by decide +kernel
theorem dX7_readRow_15 : decode cX7_readRow 15 = .ok (.aload_n 0, 1) := by decide +kernel
theorem dX7_readRow_16 : decode cX7_readRow 16 = .ok (.getfield 10, 3) := by decide +kernel
theorem dX7_readRow_19 : decode cX7_readRow 19 = .ok (.getfield 64, 3) := by decide +kernel
theorem dX7_readRow_22 : decode cX7_readRow 22 = .ok (.aload_n 0, 1) := by decide +kernel
theorem dX7_readRow_23 : decode cX7_readRow 23 = .ok (.getfield 52, 3) := by decide +kernel
theorem dX7_readRow_26 : decode cX7_readRow 26 = .ok (.iconst 1, 1) := by decide +kernel
theorem dX7_readRow_27 : decode cX7_readRow 27 = .ok (.iadd, 1) := by decide +kernel
theorem dX7_readRow_28 : decode cX7_readRow 28 = .ok (.iconst 3, 1) := by decide +kernel
theorem dX7_readRow_29 : decode cX7_readRow 29 = .ok (.idiv, 1) := by decide +kernel
theorem dX7_readRow_30 : decode cX7_readRow 30 = .ok (.invokevirtual 68, 3) := by decide +kernel
theorem dX7_readRow_33 : decode cX7_readRow 33 = .ok (.ifCond .ne 6, 3) := by decide +kernel
theorem dX7_readRow_36 : decode cX7_readRow 36 = .ok (.ldc 74, 2) := by decide +kernel
theorem dX7_readRow_38 : decode cX7_readRow 38 = .ok (.ireturn, 1) := by decide +kernel
theorem dX7_readRow_39 : decode cX7_readRow 39 = .ok (.aload_n 0, 1) := by decide +kernel
theorem dX7_readRow_40 : decode cX7_readRow 40 = .ok (.invokevirtual 75, 3) := by decide +kernel
theorem dX7_readRow_43 : decode cX7_readRow 43 = .ok (.iconst 0, 1) := by decide +kernel
theorem dX7_readRow_44 : decode cX7_readRow 44 = .ok (.istore_n 2, 1) := by decide +kernel
theorem dX7_readRow_45 : decode cX7_readRow 45 = .ok (.iload_n 2, 1) := by decide +kernel
theorem dX7_readRow_46 : decode cX7_readRow 46 = .ok (.iconst 1, 1) := by decide +kernel
theorem dX7_readRow_47 : decode cX7_readRow 47 = .ok (.iadd, 1) := by decide +kernel
theorem dX7_readRow_48 : decode cX7_readRow 48 = .ok (.aload_n 0, 1) := by decide +kernel
theorem dX7_readRow_49 : decode cX7_readRow 49 = .ok (.getfield 52, 3) := by decide +kernel
theorem dX7_readRow_52 : decode cX7_readRow 52 = .ok (.if_icmp .ge 36, 3) := by decide +kernel
theorem dX7_readRow_55 : decode cX7_readRow 55 = .ok (.aload_n 0, 1) := by decide +kernel
theorem dX7_readRow_56 : decode cX7_readRow 56 = .ok (.getfield 10, 3) := by decide +kernel
theorem dX7_readRow_59 : decode cX7_readRow 59 = .ok (.getfield 64, 3) := by decide +kernel
theorem dX7_readRow_62 : decode cX7_readRow 62 = .ok (.aload_n 0, 1) := by decide +kernel
theorem dX7_readRow_63 : decode cX7_readRow 63 = .ok (.getfield 26, 3) := by decide +kernel
theorem dX7_readRow_66 : decode cX7_readRow 66 = .ok (.iload_n 2, 1) := by decide +kernel
theorem dX7_readRow_67 : decode cX7_readRow 67 = .ok (.caload, 1) := by decide +kernel
theorem dX7_readRow_68 : decode cX7_readRow 68 = .ok (.aload_n 0, 1) := by decide +kernel
theorem dX7_readRow_69 : decode cX7_readRow 69 = .ok (.getfield 26, 3) := by decide +kernel
theorem dX7_readRow_72 : decode cX7_readRow 72 = .ok (.iload_n 2, 1) := by decide +kernel
theorem dX7_readRow_73 : decode cX7_readRow 73 = .ok (.iconst 1, 1) := by decide +kernel
theorem dX7_readRow_74 : decode cX7_readRow 74 = .ok (.iadd, 1) := by decide +kernel
theorem dX7_readRow_75 : decode cX7_readRow 75 = .ok (.caload, 1) := by decide +kernel
theorem dX7_readRow_76 : decode cX7_readRow 76 = .ok (.bipush 48, 2) := by decide +kernel
theorem dX7_readRow_78 : decode cX7_readRow 78 = .ok (.isub, 1) := by decide +kernel
theorem dX7_readRow_79 : decode cX7_readRow 79 = .ok (.invokevirtual 78, 3) := by decide +kernel
theorem dX7_readRow_82 : decode cX7_readRow 82 = .ok (.iinc 2 3, 3) := by decide +kernel
theorem dX7_readRow_85 : decode cX7_readRow 85 = .ok (.goto (-40), 3) := by decide +kernel
theorem dX7_readRow_88 : decode cX7_readRow 88 = .ok (.aload_n 0, 1) := by decide +kernel
theorem dX7_readRow_89 : decode cX7_readRow 89 = .ok (.getfield 10, 3) := by decide +kernel
theorem dX7_readRow_92 : decode cX7_readRow 92 = .ok (.getfield 64, 3) := by decide +kernel
theorem dX7_readRow_95 : decode cX7_readRow 95 = .ok (.getfield 82, 3) := by decide +kernel
theorem dX7_readRow_98 : decode cX7_readRow 98 = .ok (.ireturn, 1) := by decide +kernel
theorem dX7_go_0 : decode cX7_go 0 = .ok (.aload_n 0, 1) := by decide +kernel
theorem dX7_go_1 : decode cX7_go 1 = .ok (.getfield 10, 3) := by decide +kernel
theorem dX7_go_4 : decode cX7_go 4 = .ok (.getfield 64, 3) := by decide +kernel
theorem dX7_go_7 : decode cX7_go 7 = .ok (.iload_n 1, 1) := by decide +kernel
theorem dX7_go_8 : decode cX7_go 8 = .ok (.invokevirtual 90, 3) := by decide +kernel
theorem dX7_go_11 : decode cX7_go 11 = .ok (.ifCond .ne 6, 3) := by decide +kernel
theorem dX7_go_14 : decode cX7_go 14 = .ok (.ldc 93, 2) := by decide +kernel
theorem dX7_go_16 : decode cX7_go 16 = .ok (.ireturn, 1) := by decide +kernel
theorem dX7_go_17 : decode cX7_go 17 = .ok (.aload_n 0, 1) := by decide +kernel
theorem dX7_go_18 : decode cX7_go 18 = .ok (.getfield 10, 3) := by decide +kernel
theorem dX7_go_21 : decode cX7_go 21 = .ok (.getfield 64, 3) := by decide +kernel
theorem dX7_go_24 : decode cX7_go 24 = .ok (.iload_n 1, 1) := by decide +kernel
theorem dX7_go_25 : decode cX7_go 25 = .ok (.invokevirtual 94, 3) := by decide +kernel
theorem dX7_go_28 : decode cX7_go 28 = .ok (.ifCond .eq 6, 3) := by decide +kernel
theorem dX7_go_31 : decode cX7_go 31 = .ok (.ldc 97, 2) := by decide +kernel
theorem dX7_go_33 : decode cX7_go 33 = .ok (.ireturn, 1) := by decide +kernel
theorem dX7_go_34 : decode cX7_go 34 = .ok (.aload_n 0, 1) := by decide +kernel
theorem dX7_go_35 : decode cX7_go 35 = .ok (.invokevirtual 75, 3) := by decide +kernel
theorem dX7_go_38 : decode cX7_go 38 = .ok (.aload_n 0, 1) := by decide +kernel
theorem dX7_go_39 : decode cX7_go 39 = .ok (.getfield 10, 3) := by decide +kernel
theorem dX7_go_42 : decode cX7_go 42 = .ok (.getfield 64, 3) := by decide +kernel
theorem dX7_go_45 : decode cX7_go 45 = .ok (.iload_n 1, 1) := by decide +kernel
theorem dX7_go_46 : decode cX7_go 46 = .ok (.invokevirtual 98, 3) := by decide +kernel
theorem dX7_go_49 : decode cX7_go 49 = .ok (.aload_n 0, 1) := by decide +kernel
theorem dX7_go_50 : decode cX7_go 50 = .ok (.getfield 10, 3) := by decide +kernel
theorem dX7_go_53 : decode cX7_go 53 = .ok (.getfield 64, 3) := by decide +kernel
theorem dX7_go_56 : decode cX7_go 56 = .ok (.getfield 82, 3) := by decide +kernel
theorem dX7_go_59 : decode cX7_go 59 = .ok (.ireturn, 1) := by decide +kernel
theorem dX7_pay_0 : decode cX7_pay 0 = .ok (.aload_n 0, 1) := by decide +kernel
theorem dX7_pay_1 : decode cX7_pay 1 = .ok (.getfield 10, 3) := by decide +kernel
theorem dX7_pay_4 : decode cX7_pay 4 = .ok (.getfield 64, 3) := by decide +kernel
theorem dX7_pay_7 : decode cX7_pay 7 = .ok (.iload_n 1, 1) := by decide +kernel
theorem dX7_pay_8 : decode cX7_pay 8 = .ok (.invokevirtual 90, 3) := by decide +kernel
theorem dX7_pay_11 : decode cX7_pay 11 = .ok (.ifCond .ne 6, 3) := by decide +kernel
theorem dX7_pay_14 : decode cX7_pay 14 = .ok (.ldc 93, 2) := by decide +kernel
theorem dX7_pay_16 : decode cX7_pay 16 = .ok (.ireturn, 1) := by decide +kernel
theorem dX7_pay_17 : decode cX7_pay 17 = .ok (.iload_n 2, 1) := by decide +kernel
theorem dX7_pay_18 : decode cX7_pay 18 = .ok (.iconst 1, 1) := by decide +kernel
theorem dX7_pay_19 : decode cX7_pay 19 = .ok (.bipush 9, 2) := by decide +kernel
theorem dX7_pay_21 : decode cX7_pay 21 = .ok (.invokestatic 59, 3) := by decide +kernel
theorem dX7_pay_24 : decode cX7_pay 24 = .ok (.ifCond .ne 6, 3) := by decide +kernel
theorem dX7_pay_27 : decode cX7_pay 27 = .ok (.ldc 63, 2) := by decide +kernel
theorem dX7_pay_29 : decode cX7_pay 29 = .ok (.ireturn, 1) := by decide +kernel
theorem dX7_pay_30 : decode cX7_pay 30 = .ok (.aload_n 0, 1) := by decide +kernel
theorem dX7_pay_31 : decode cX7_pay 31 = .ok (.getfield 10, 3) := by decide +kernel
theorem dX7_pay_34 : decode cX7_pay 34 = .ok (.getfield 64, 3) := by decide +kernel
theorem dX7_pay_37 : decode cX7_pay 37 = .ok (.getfield 102, 3) := by decide +kernel
theorem dX7_pay_40 : decode cX7_pay 40 = .ok (.iload_n 1, 1) := by decide +kernel
theorem dX7_pay_41 : decode cX7_pay 41 = .ok (.iaload, 1) := by decide +kernel
theorem dX7_pay_42 : decode cX7_pay 42 = .ok (.istore_n 3, 1) := by decide +kernel
theorem dX7_pay_43 : decode cX7_pay 43 = .ok (.iload_n 3, 1) := by decide +kernel
theorem dX7_pay_44 : decode cX7_pay 44 = .ok (.iload_n 2, 1) := by decide +kernel
theorem dX7_pay_45 : decode cX7_pay 45 = .ok (.if_icmp .ne 6, 3) := by decide +kernel
theorem dX7_pay_48 : decode cX7_pay 48 = .ok (.ldc 106, 2) := by decide +kernel
theorem dX7_pay_50 : decode cX7_pay 50 = .ok (.ireturn, 1) := by decide +kernel
theorem dX7_pay_51 : decode cX7_pay 51 = .ok (.aload_n 0, 1) := by decide +kernel
theorem dX7_pay_52 : decode cX7_pay 52 = .ok (.invokevirtual 75, 3) := by decide +kernel
theorem dX7_pay_55 : decode cX7_pay 55 = .ok (.aload_n 0, 1) := by decide +kernel
theorem dX7_pay_56 : decode cX7_pay 56 = .ok (.getfield 10, 3) := by decide +kernel
theorem dX7_pay_59 : decode cX7_pay 59 = .ok (.getfield 64, 3) := by decide +kernel
theorem dX7_pay_62 : decode cX7_pay 62 = .ok (.getfield 102, 3) := by decide +kernel
theorem dX7_pay_65 : decode cX7_pay 65 = .ok (.iload_n 1, 1) := by decide +kernel
theorem dX7_pay_66 : decode cX7_pay 66 = .ok (.iload_n 2, 1) := by decide +kernel
theorem dX7_pay_67 : decode cX7_pay 67 = .ok (.iastore, 1) := by decide +kernel
theorem dX7_pay_68 : decode cX7_pay 68 = .ok (.iload_n 3, 1) := by decide +kernel
theorem dX7_pay_69 : decode cX7_pay 69 = .ok (.ireturn, 1) := by decide +kernel
theorem dX7_trade_0 : decode cX7_trade 0 = .ok (.aload_n 0, 1) := by decide +kernel
theorem dX7_trade_1 : decode cX7_trade 1 = .ok (.getfield 10, 3) := by decide +kernel
theorem dX7_trade_4 : decode cX7_trade 4 = .ok (.getfield 64, 3) := by decide +kernel
theorem dX7_trade_7 : decode cX7_trade 7 = .ok (.iload_n 1, 1) := by decide +kernel
theorem dX7_trade_8 : decode cX7_trade 8 = .ok (.invokevirtual 107, 3) := by decide +kernel
theorem dX7_trade_11 : decode cX7_trade 11 = .ok (.ifCond .ne 6, 3) := by decide +kernel
theorem dX7_trade_14 : decode cX7_trade 14 = .ok (.ldc 93, 2) := by decide +kernel
theorem dX7_trade_16 : decode cX7_trade 16 = .ok (.ireturn, 1) := by decide +kernel
theorem dX7_trade_17 : decode cX7_trade 17 = .ok (.aload_n 0, 1) := by decide +kernel
theorem dX7_trade_18 : decode cX7_trade 18 = .ok (.getfield 10, 3) := by decide +kernel
theorem dX7_trade_21 : decode cX7_trade 21 = .ok (.getfield 64, 3) := by decide +kernel
theorem dX7_trade_24 : decode cX7_trade 24 = .ok (.iload_n 1, 1) := by decide +kernel
theorem dX7_trade_25 : decode cX7_trade 25 = .ok (.invokevirtual 110, 3) := by decide +kernel
theorem dX7_trade_28 : decode cX7_trade 28 = .ok (.ifCond .eq 16, 3) := by decide +kernel
theorem dX7_trade_31 : decode cX7_trade 31 = .ok (.aload_n 0, 1) := by decide +kernel
theorem dX7_trade_32 : decode cX7_trade 32 = .ok (.getfield 10, 3) := by decide +kernel
theorem dX7_trade_35 : decode cX7_trade 35 = .ok (.getfield 113, 3) := by decide +kernel
theorem dX7_trade_38 : decode cX7_trade 38 = .ok (.sipush 9999, 3) := by decide +kernel
theorem dX7_trade_41 : decode cX7_trade 41 = .ok (.if_icmp .lt 6, 3) := by decide +kernel
theorem dX7_trade_44 : decode cX7_trade 44 = .ok (.ldc 97, 2) := by decide +kernel
theorem dX7_trade_46 : decode cX7_trade 46 = .ok (.ireturn, 1) := by decide +kernel
theorem dX7_trade_47 : decode cX7_trade 47 = .ok (.aload_n 0, 1) := by decide +kernel
theorem dX7_trade_48 : decode cX7_trade 48 = .ok (.invokevirtual 75, 3) := by decide +kernel
theorem dX7_trade_51 : decode cX7_trade 51 = .ok (.aload_n 0, 1) := by decide +kernel
theorem dX7_trade_52 : decode cX7_trade 52 = .ok (.getfield 10, 3) := by decide +kernel
theorem dX7_trade_55 : decode cX7_trade 55 = .ok (.iload_n 1, 1) := by decide +kernel
theorem dX7_trade_56 : decode cX7_trade 56 = .ok (.invokevirtual 116, 3) := by decide +kernel
theorem dX7_trade_59 : decode cX7_trade 59 = .ok (.invokestatic 119, 3) := by decide +kernel
theorem dX7_trade_62 : decode cX7_trade 62 = .ok (.ireturn, 1) := by decide +kernel
theorem dX7_pass_0 : decode cX7_pass 0 = .ok (.iload_n 1, 1) := by decide +kernel
theorem dX7_pass_1 : decode cX7_pass 1 = .ok (.iconst 1, 1) := by decide +kernel
theorem dX7_pass_2 : decode cX7_pass 2 = .ok (.bipush 60, 2) := by decide +kernel
theorem dX7_pass_4 : decode cX7_pass 4 = .ok (.invokestatic 59, 3) := by decide +kernel
theorem dX7_pass_7 : decode cX7_pass 7 = .ok (.ifCond .ne 6, 3) := by decide +kernel
theorem dX7_pass_10 : decode cX7_pass 10 = .ok (.ldc 63, 2) := by decide +kernel
theorem dX7_pass_12 : decode cX7_pass 12 = .ok (.ireturn, 1) := by decide +kernel
theorem dX7_pass_13 : decode cX7_pass 13 = .ok (.aload_n 0, 1) := by decide +kernel
theorem dX7_pass_14 : decode cX7_pass 14 = .ok (.getfield 10, 3) := by decide +kernel
theorem dX7_pass_17 : decode cX7_pass 17 = .ok (.getfield 113, 3) := by decide +kernel
theorem dX7_pass_20 : decode cX7_pass 20 = .ok (.iload_n 1, 1) := by decide +kernel
theorem dX7_pass_21 : decode cX7_pass 21 = .ok (.iadd, 1) := by decide +kernel
theorem dX7_pass_22 : decode cX7_pass 22 = .ok (.sipush 9999, 3) := by decide +kernel
theorem dX7_pass_25 : decode cX7_pass 25 = .ok (.if_icmp .le 6, 3) := by decide +kernel
theorem dX7_pass_28 : decode cX7_pass 28 = .ok (.ldc 74, 2) := by decide +kernel
theorem dX7_pass_30 : decode cX7_pass 30 = .ok (.ireturn, 1) := by decide +kernel
theorem dX7_pass_31 : decode cX7_pass 31 = .ok (.aload_n 0, 1) := by decide +kernel
theorem dX7_pass_32 : decode cX7_pass 32 = .ok (.invokevirtual 75, 3) := by decide +kernel
theorem dX7_pass_35 : decode cX7_pass 35 = .ok (.iconst 0, 1) := by decide +kernel
theorem dX7_pass_36 : decode cX7_pass 36 = .ok (.istore_n 2, 1) := by decide +kernel
theorem dX7_pass_37 : decode cX7_pass 37 = .ok (.iconst 0, 1) := by decide +kernel
theorem dX7_pass_38 : decode cX7_pass 38 = .ok (.istore_n 3, 1) := by decide +kernel
theorem dX7_pass_39 : decode cX7_pass 39 = .ok (.iload_n 3, 1) := by decide +kernel
theorem dX7_pass_40 : decode cX7_pass 40 = .ok (.iload_n 1, 1) := by decide +kernel
theorem dX7_pass_41 : decode cX7_pass 41 = .ok (.if_icmp .ge 19, 3) := by decide +kernel
theorem dX7_pass_44 : decode cX7_pass 44 = .ok (.iload_n 2, 1) := by decide +kernel
theorem dX7_pass_45 : decode cX7_pass 45 = .ok (.aload_n 0, 1) := by decide +kernel
theorem dX7_pass_46 : decode cX7_pass 46 = .ok (.getfield 10, 3) := by decide +kernel
theorem dX7_pass_49 : decode cX7_pass 49 = .ok (.invokevirtual 123, 3) := by decide +kernel
theorem dX7_pass_52 : decode cX7_pass 52 = .ok (.iadd, 1) := by decide +kernel
theorem dX7_pass_53 : decode cX7_pass 53 = .ok (.istore_n 2, 1) := by decide +kernel
theorem dX7_pass_54 : decode cX7_pass 54 = .ok (.iinc 3 1, 3) := by decide +kernel
theorem dX7_pass_57 : decode cX7_pass 57 = .ok (.goto (-18), 3) := by decide +kernel
theorem dX7_pass_60 : decode cX7_pass 60 = .ok (.iload_n 2, 1) := by decide +kernel
theorem dX7_pass_61 : decode cX7_pass 61 = .ok (.ireturn, 1) := by decide +kernel
theorem dX7_wind_0 : decode cX7_wind 0 = .ok (.iload_n 1, 1) := by decide +kernel
theorem dX7_wind_1 : decode cX7_wind 1 = .ok (.iload_n 2, 1) := by decide +kernel
theorem dX7_wind_2 : decode cX7_wind 2 = .ok (.invokestatic 126, 3) := by decide +kernel
theorem dX7_wind_5 : decode cX7_wind 5 = .ok (.ifCond .ne 6, 3) := by decide +kernel
theorem dX7_wind_8 : decode cX7_wind 8 = .ok (.ldc 63, 2) := by decide +kernel
theorem dX7_wind_10 : decode cX7_wind 10 = .ok (.ireturn, 1) := by decide +kernel
theorem dX7_wind_11 : decode cX7_wind 11 = .ok (.aload_n 0, 1) := by decide +kernel
theorem dX7_wind_12 : decode cX7_wind 12 = .ok (.getfield 10, 3) := by decide +kernel
theorem dX7_wind_15 : decode cX7_wind 15 = .ok (.getfield 130, 3) := by decide +kernel
theorem dX7_wind_18 : decode cX7_wind 18 = .ok (.iload_n 1, 1) := by decide +kernel
theorem dX7_wind_19 : decode cX7_wind 19 = .ok (.if_icmp .ne 17, 3) := by decide +kernel
theorem dX7_wind_22 : decode cX7_wind 22 = .ok (.aload_n 0, 1) := by decide +kernel
theorem dX7_wind_23 : decode cX7_wind 23 = .ok (.getfield 10, 3) := by decide +kernel
theorem dX7_wind_26 : decode cX7_wind 26 = .ok (.getfield 133, 3) := by decide +kernel
theorem dX7_wind_29 : decode cX7_wind 29 = .ok (.iload_n 2, 1) := by decide +kernel
theorem dX7_wind_30 : decode cX7_wind 30 = .ok (.if_icmp .ne 6, 3) := by decide +kernel
theorem dX7_wind_33 : decode cX7_wind 33 = .ok (.ldc 106, 2) := by decide +kernel
theorem dX7_wind_35 : decode cX7_wind 35 = .ok (.ireturn, 1) := by decide +kernel
theorem dX7_wind_36 : decode cX7_wind 36 = .ok (.aload_n 0, 1) := by decide +kernel
theorem dX7_wind_37 : decode cX7_wind 37 = .ok (.invokevirtual 75, 3) := by decide +kernel
theorem dX7_wind_40 : decode cX7_wind 40 = .ok (.aload_n 0, 1) := by decide +kernel
theorem dX7_wind_41 : decode cX7_wind 41 = .ok (.getfield 10, 3) := by decide +kernel
theorem dX7_wind_44 : decode cX7_wind 44 = .ok (.iload_n 1, 1) := by decide +kernel
theorem dX7_wind_45 : decode cX7_wind 45 = .ok (.iload_n 2, 1) := by decide +kernel
theorem dX7_wind_46 : decode cX7_wind 46 = .ok (.invokevirtual 136, 3) := by decide +kernel
theorem dX7_wind_49 : decode cX7_wind 49 = .ok (.ireturn, 1) := by decide +kernel
theorem dX7_planTurn_0 : decode cX7_planTurn 0 = .ok (.iload_n 1, 1) := by decide +kernel
theorem dX7_planTurn_1 : decode cX7_planTurn 1 = .ok (.iconst 1, 1) := by decide +kernel
theorem dX7_planTurn_2 : decode cX7_planTurn 2 = .ok (.sipush 9999, 3) := by decide +kernel
theorem dX7_planTurn_5 : decode cX7_planTurn 5 = .ok (.invokestatic 59, 3) := by decide +kernel
theorem dX7_planTurn_8 : decode cX7_planTurn 8 = .ok (.ifCond .eq 11, 3) := by decide +kernel
theorem dX7_planTurn_11 : decode cX7_planTurn 11 = .ok (.iload_n 2, 1) := by decide +kernel
theorem dX7_planTurn_12 : decode cX7_planTurn 12 = .ok (.iload_n 3, 1) := by decide +kernel
theorem dX7_planTurn_13 : decode cX7_planTurn 13 = .ok (.invokestatic 126, 3) := by decide +kernel
theorem dX7_planTurn_16 : decode cX7_planTurn 16 = .ok (.ifCond .ne 6, 3) := by decide +kernel
theorem dX7_planTurn_19 : decode cX7_planTurn 19 = .ok (.ldc 63, 2) := by decide +kernel
theorem dX7_planTurn_21 : decode cX7_planTurn 21 = .ok (.ireturn, 1) := by decide +kernel
theorem dX7_planTurn_22 : decode cX7_planTurn 22 = .ok (.iload_n 1, 1) := by decide +kernel
theorem dX7_planTurn_23 : decode cX7_planTurn 23 = .ok (.aload_n 0, 1) := by decide +kernel
theorem dX7_planTurn_24 : decode cX7_planTurn 24 = .ok (.getfield 10, 3) := by decide +kernel
theorem dX7_planTurn_27 : decode cX7_planTurn 27 = .ok (.getfield 113, 3) := by decide +kernel
theorem dX7_planTurn_30 : decode cX7_planTurn 30 = .ok (.if_icmp .le 18, 3) := by decide +kernel
theorem dX7_planTurn_33 : decode cX7_planTurn 33 = .ok (.aload_n 0, 1) := by decide +kernel
theorem dX7_planTurn_34 : decode cX7_planTurn 34 = .ok (.getfield 10, 3) := by decide +kernel
theorem dX7_planTurn_37 : decode cX7_planTurn 37 = .ok (.getfield 140, 3) := by decide +kernel
theorem dX7_planTurn_40 : decode cX7_planTurn 40 = .ok (.iload_n 1, 1) := by decide +kernel
theorem dX7_planTurn_41 : decode cX7_planTurn 41 = .ok (.invokevirtual 144, 3) := by decide +kernel
theorem dX7_planTurn_44 : decode cX7_planTurn 44 = .ok (.iconst (-1), 1) := by decide +kernel
theorem dX7_planTurn_45 : decode cX7_planTurn 45 = .ok (.if_icmp .eq 6, 3) := by decide +kernel
theorem dX7_planTurn_48 : decode cX7_planTurn 48 = .ok (.ldc 97, 2) := by decide +kernel
theorem dX7_planTurn_50 : decode cX7_planTurn 50 = .ok (.ireturn, 1) := by decide +kernel
theorem dX7_planTurn_51 : decode cX7_planTurn 51 = .ok (.aload_n 0, 1) := by decide +kernel
theorem dX7_planTurn_52 : decode cX7_planTurn 52 = .ok (.getfield 10, 3) := by decide +kernel
theorem dX7_planTurn_55 : decode cX7_planTurn 55 = .ok (.getfield 140, 3) := by decide +kernel
theorem dX7_planTurn_58 : decode cX7_planTurn 58 = .ok (.getfield 150, 3) := by decide +kernel
theorem dX7_planTurn_61 : decode cX7_planTurn 61 = .ok (.bipush 8, 2) := by decide +kernel
theorem dX7_planTurn_63 : decode cX7_planTurn 63 = .ok (.if_icmp .lt 6, 3) := by decide +kernel
theorem dX7_planTurn_66 : decode cX7_planTurn 66 = .ok (.ldc 74, 2) := by decide +kernel
theorem dX7_planTurn_68 : decode cX7_planTurn 68 = .ok (.ireturn, 1) := by decide +kernel
theorem dX7_planTurn_69 : decode cX7_planTurn 69 = .ok (.aload_n 0, 1) := by decide +kernel
theorem dX7_planTurn_70 : decode cX7_planTurn 70 = .ok (.invokevirtual 75, 3) := by decide +kernel
theorem dX7_planTurn_73 : decode cX7_planTurn 73 = .ok (.aload_n 0, 1) := by decide +kernel
theorem dX7_planTurn_74 : decode cX7_planTurn 74 = .ok (.getfield 10, 3) := by decide +kernel
theorem dX7_planTurn_77 : decode cX7_planTurn 77 = .ok (.getfield 140, 3) := by decide +kernel
theorem dX7_planTurn_80 : decode cX7_planTurn 80 = .ok (.iload_n 1, 1) := by decide +kernel
theorem dX7_planTurn_81 : decode cX7_planTurn 81 = .ok (.iload_n 2, 1) := by decide +kernel
theorem dX7_planTurn_82 : decode cX7_planTurn 82 = .ok (.iload_n 3, 1) := by decide +kernel
theorem dX7_planTurn_83 : decode cX7_planTurn 83 = .ok (.invokevirtual 151, 3) := by decide +kernel
theorem dX7_planTurn_86 : decode cX7_planTurn 86 = .ok (.aload_n 0, 1) := by decide +kernel
theorem dX7_planTurn_87 : decode cX7_planTurn 87 = .ok (.getfield 10, 3) := by decide +kernel
theorem dX7_planTurn_90 : decode cX7_planTurn 90 = .ok (.getfield 140, 3) := by decide +kernel
theorem dX7_planTurn_93 : decode cX7_planTurn 93 = .ok (.getfield 150, 3) := by decide +kernel
theorem dX7_planTurn_96 : decode cX7_planTurn 96 = .ok (.ireturn, 1) := by decide +kernel
theorem dX7_dropTurn_0 : decode cX7_dropTurn 0 = .ok (.aload_n 0, 1) := by decide +kernel
theorem dX7_dropTurn_1 : decode cX7_dropTurn 1 = .ok (.getfield 10, 3) := by decide +kernel
theorem dX7_dropTurn_4 : decode cX7_dropTurn 4 = .ok (.getfield 140, 3) := by decide +kernel
theorem dX7_dropTurn_7 : decode cX7_dropTurn 7 = .ok (.iload_n 1, 1) := by decide +kernel
theorem dX7_dropTurn_8 : decode cX7_dropTurn 8 = .ok (.invokevirtual 144, 3) := by decide +kernel
theorem dX7_dropTurn_11 : decode cX7_dropTurn 11 = .ok (.istore_n 2, 1) := by decide +kernel
theorem dX7_dropTurn_12 : decode cX7_dropTurn 12 = .ok (.iload_n 2, 1) := by decide +kernel
theorem dX7_dropTurn_13 : decode cX7_dropTurn 13 = .ok (.iconst (-1), 1) := by decide +kernel
theorem dX7_dropTurn_14 : decode cX7_dropTurn 14 = .ok (.if_icmp .ne 6, 3) := by decide +kernel
theorem dX7_dropTurn_17 : decode cX7_dropTurn 17 = .ok (.ldc 93, 2) := by decide +kernel
theorem dX7_dropTurn_19 : decode cX7_dropTurn 19 = .ok (.ireturn, 1) := by decide +kernel
theorem dX7_dropTurn_20 : decode cX7_dropTurn 20 = .ok (.aload_n 0, 1) := by decide +kernel
theorem dX7_dropTurn_21 : decode cX7_dropTurn 21 = .ok (.invokevirtual 75, 3) := by decide +kernel
theorem dX7_dropTurn_24 : decode cX7_dropTurn 24 = .ok (.aload_n 0, 1) := by decide +kernel
theorem dX7_dropTurn_25 : decode cX7_dropTurn 25 = .ok (.getfield 10, 3) := by decide +kernel
theorem dX7_dropTurn_28 : decode cX7_dropTurn 28 = .ok (.getfield 140, 3) := by decide +kernel
theorem dX7_dropTurn_31 : decode cX7_dropTurn 31 = .ok (.iload_n 2, 1) := by decide +kernel
theorem dX7_dropTurn_32 : decode cX7_dropTurn 32 = .ok (.invokevirtual 155, 3) := by decide +kernel
theorem dX7_dropTurn_35 : decode cX7_dropTurn 35 = .ok (.aload_n 0, 1) := by decide +kernel
theorem dX7_dropTurn_36 : decode cX7_dropTurn 36 = .ok (.getfield 10, 3) := by decide +kernel
theorem dX7_dropTurn_39 : decode cX7_dropTurn 39 = .ok (.getfield 140, 3) := by decide +kernel
theorem dX7_dropTurn_42 : decode cX7_dropTurn 42 = .ok (.getfield 150, 3) := by decide +kernel
theorem dX7_dropTurn_45 : decode cX7_dropTurn 45 = .ok (.ireturn, 1) := by decide +kernel
theorem dX7_crowd_0 : decode cX7_crowd 0 = .ok (.aload_n 0, 1) := by decide +kernel
theorem dX7_crowd_1 : decode cX7_crowd 1 = .ok (.getfield 10, 3) := by decide +kernel
theorem dX7_crowd_4 : decode cX7_crowd 4 = .ok (.getfield 156, 3) := by decide +kernel
theorem dX7_crowd_7 : decode cX7_crowd 7 = .ok (.iload_n 1, 1) := by decide +kernel
theorem dX7_crowd_8 : decode cX7_crowd 8 = .ok (.if_icmp .ne 6, 3) := by decide +kernel
theorem dX7_crowd_11 : decode cX7_crowd 11 = .ok (.ldc 106, 2) := by decide +kernel
theorem dX7_crowd_13 : decode cX7_crowd 13 = .ok (.ireturn, 1) := by decide +kernel
theorem dX7_crowd_14 : decode cX7_crowd 14 = .ok (.aload_n 0, 1) := by decide +kernel
theorem dX7_crowd_15 : decode cX7_crowd 15 = .ok (.invokevirtual 75, 3) := by decide +kernel
theorem dX7_crowd_18 : decode cX7_crowd 18 = .ok (.aload_n 0, 1) := by decide +kernel
theorem dX7_crowd_19 : decode cX7_crowd 19 = .ok (.getfield 10, 3) := by decide +kernel
theorem dX7_crowd_22 : decode cX7_crowd 22 = .ok (.iload_n 1, 1) := by decide +kernel
theorem dX7_crowd_23 : decode cX7_crowd 23 = .ok (.putfield 156, 3) := by decide +kernel
theorem dX7_crowd_26 : decode cX7_crowd 26 = .ok (.aload_n 0, 1) := by decide +kernel
theorem dX7_crowd_27 : decode cX7_crowd 27 = .ok (.invokevirtual 159, 3) := by decide +kernel
theorem dX7_crowd_30 : decode cX7_crowd 30 = .ok (.ireturn, 1) := by decide +kernel
theorem dX7_setTangle_0 : decode cX7_setTangle 0 = .ok (.iload_n 1, 1) := by decide +kernel
theorem dX7_setTangle_1 : decode cX7_setTangle 1 = .ok (.iconst 1, 1) := by decide +kernel
theorem dX7_setTangle_2 : decode cX7_setTangle 2 = .ok (.bipush 9, 2) := by decide +kernel
theorem dX7_setTangle_4 : decode cX7_setTangle 4 = .ok (.invokestatic 59, 3) := by decide +kernel
theorem dX7_setTangle_7 : decode cX7_setTangle 7 = .ok (.ifCond .ne 6, 3) := by decide +kernel
theorem dX7_setTangle_10 : decode cX7_setTangle 10 = .ok (.ldc 63, 2) := by decide +kernel
theorem dX7_setTangle_12 : decode cX7_setTangle 12 = .ok (.ireturn, 1) := by decide +kernel
theorem dX7_setTangle_13 : decode cX7_setTangle 13 = .ok (.aload_n 0, 1) := by decide +kernel
theorem dX7_setTangle_14 : decode cX7_setTangle 14 = .ok (.getfield 10, 3) := by decide +kernel
theorem dX7_setTangle_17 : decode cX7_setTangle 17 = .ok (.getfield 162, 3) := by decide +kernel
theorem dX7_setTangle_20 : decode cX7_setTangle 20 = .ok (.istore_n 2, 1) := by decide +kernel
theorem dX7_setTangle_21 : decode cX7_setTangle 21 = .ok (.iload_n 2, 1) := by decide +kernel
theorem dX7_setTangle_22 : decode cX7_setTangle 22 = .ok (.iload_n 1, 1) := by decide +kernel
theorem dX7_setTangle_23 : decode cX7_setTangle 23 = .ok (.if_icmp .ne 6, 3) := by decide +kernel
theorem dX7_setTangle_26 : decode cX7_setTangle 26 = .ok (.ldc 106, 2) := by decide +kernel
theorem dX7_setTangle_28 : decode cX7_setTangle 28 = .ok (.ireturn, 1) := by decide +kernel
theorem dX7_setTangle_29 : decode cX7_setTangle 29 = .ok (.aload_n 0, 1) := by decide +kernel
theorem dX7_setTangle_30 : decode cX7_setTangle 30 = .ok (.invokevirtual 75, 3) := by decide +kernel
theorem dX7_setTangle_33 : decode cX7_setTangle 33 = .ok (.aload_n 0, 1) := by decide +kernel
theorem dX7_setTangle_34 : decode cX7_setTangle 34 = .ok (.getfield 10, 3) := by decide +kernel
theorem dX7_setTangle_37 : decode cX7_setTangle 37 = .ok (.iload_n 1, 1) := by decide +kernel
theorem dX7_setTangle_38 : decode cX7_setTangle 38 = .ok (.putfield 162, 3) := by decide +kernel
theorem dX7_setTangle_41 : decode cX7_setTangle 41 = .ok (.iload_n 2, 1) := by decide +kernel
theorem dX7_setTangle_42 : decode cX7_setTangle 42 = .ok (.ireturn, 1) := by decide +kernel
theorem dX7_want_0 : decode cX7_want 0 = .ok (.aload_n 0, 1) := by decide +kernel
theorem dX7_want_1 : decode cX7_want 1 = .ok (.invokevirtual 165, 3) := by decide +kernel
theorem dX7_want_4 : decode cX7_want 4 = .ok (.istore_n 1, 1) := by decide +kernel
theorem dX7_want_5 : decode cX7_want 5 = .ok (.iload_n 1, 1) := by decide +kernel
theorem dX7_want_6 : decode cX7_want 6 = .ok (.iconst (-1), 1) := by decide +kernel
theorem dX7_want_7 : decode cX7_want 7 = .ok (.if_icmp .eq 8, 3) := by decide +kernel
theorem dX7_want_10 : decode cX7_want 10 = .ok (.ldc 89, 2) := by decide +kernel
theorem dX7_want_12 : decode cX7_want 12 = .ok (.iload_n 1, 1) := by decide +kernel
theorem dX7_want_13 : decode cX7_want 13 = .ok (.isub, 1) := by decide +kernel
theorem dX7_want_14 : decode cX7_want 14 = .ok (.ireturn, 1) := by decide +kernel
theorem dX7_want_15 : decode cX7_want 15 = .ok (.aload_n 0, 1) := by decide +kernel
theorem dX7_want_16 : decode cX7_want 16 = .ok (.getfield 10, 3) := by decide +kernel
theorem dX7_want_19 : decode cX7_want 19 = .ok (.getfield 168, 3) := by decide +kernel
theorem dX7_want_22 : decode cX7_want 22 = .ok (.aload_n 0, 1) := by decide +kernel
theorem dX7_want_23 : decode cX7_want 23 = .ok (.getfield 26, 3) := by decide +kernel
theorem dX7_want_26 : decode cX7_want 26 = .ok (.aload_n 0, 1) := by decide +kernel
theorem dX7_want_27 : decode cX7_want 27 = .ok (.getfield 52, 3) := by decide +kernel
theorem dX7_want_30 : decode cX7_want 30 = .ok (.invokevirtual 172, 3) := by decide +kernel
theorem dX7_want_33 : decode cX7_want 33 = .ok (.ifCond .eq 6, 3) := by decide +kernel
theorem dX7_want_36 : decode cX7_want 36 = .ok (.ldc 106, 2) := by decide +kernel
theorem dX7_want_38 : decode cX7_want 38 = .ok (.ireturn, 1) := by decide +kernel
theorem dX7_want_39 : decode cX7_want 39 = .ok (.aload_n 0, 1) := by decide +kernel
theorem dX7_want_40 : decode cX7_want 40 = .ok (.invokevirtual 75, 3) := by decide +kernel
theorem dX7_want_43 : decode cX7_want 43 = .ok (.aload_n 0, 1) := by decide +kernel
theorem dX7_want_44 : decode cX7_want 44 = .ok (.getfield 10, 3) := by decide +kernel
theorem dX7_want_47 : decode cX7_want 47 = .ok (.getfield 168, 3) := by decide +kernel
theorem dX7_want_50 : decode cX7_want 50 = .ok (.aload_n 0, 1) := by decide +kernel
theorem dX7_want_51 : decode cX7_want 51 = .ok (.getfield 26, 3) := by decide +kernel
theorem dX7_want_54 : decode cX7_want 54 = .ok (.aload_n 0, 1) := by decide +kernel
theorem dX7_want_55 : decode cX7_want 55 = .ok (.getfield 52, 3) := by decide +kernel
theorem dX7_want_58 : decode cX7_want 58 = .ok (.invokevirtual 178, 3) := by decide +kernel
theorem dX7_want_61 : decode cX7_want 61 = .ok (.aload_n 0, 1) := by decide +kernel
theorem dX7_want_62 : decode cX7_want 62 = .ok (.getfield 10, 3) := by decide +kernel
theorem dX7_want_65 : decode cX7_want 65 = .ok (.getfield 168, 3) := by decide +kernel
theorem dX7_want_68 : decode cX7_want 68 = .ok (.getfield 182, 3) := by decide +kernel
theorem dX7_want_71 : decode cX7_want 71 = .ok (.ireturn, 1) := by decide +kernel
theorem dX7_type_0 : decode cX7_type 0 = .ok (.aload_n 0, 1) := by decide +kernel
theorem dX7_type_1 : decode cX7_type 1 = .ok (.getfield 52, 3) := by decide +kernel
theorem dX7_type_4 : decode cX7_type 4 = .ok (.bipush 60, 2) := by decide +kernel
theorem dX7_type_6 : decode cX7_type 6 = .ok (.if_icmp .lt 6, 3) := by decide +kernel
theorem dX7_type_9 : decode cX7_type 9 = .ok (.ldc 74, 2) := by decide +kernel
theorem dX7_type_11 : decode cX7_type 11 = .ok (.ireturn, 1) := by decide +kernel
theorem dX7_type_12 : decode cX7_type 12 = .ok (.aload_n 0, 1) := by decide +kernel
theorem dX7_type_13 : decode cX7_type 13 = .ok (.getfield 26, 3) := by decide +kernel
theorem dX7_type_16 : decode cX7_type 16 = .ok (.aload_n 0, 1) := by decide +kernel
theorem dX7_type_17 : decode cX7_type 17 = .ok (.getfield 52, 3) := by decide +kernel
theorem dX7_type_20 : decode cX7_type 20 = .ok (.iload_n 1, 1) := by decide +kernel
theorem dX7_type_21 : decode cX7_type 21 = .ok (.castore, 1) := by decide +kernel
theorem dX7_type_22 : decode cX7_type 22 = .ok (.aload_n 0, 1) := by decide +kernel
theorem dX7_type_23 : decode cX7_type 23 = .ok (.dup, 1) := by decide +kernel
theorem dX7_type_24 : decode cX7_type 24 = .ok (.getfield 52, 3) := by decide +kernel
theorem dX7_type_27 : decode cX7_type 27 = .ok (.iconst 1, 1) := by decide +kernel
theorem dX7_type_28 : decode cX7_type 28 = .ok (.iadd, 1) := by decide +kernel
theorem dX7_type_29 : decode cX7_type 29 = .ok (.putfield 52, 3) := by decide +kernel
theorem dX7_type_32 : decode cX7_type 32 = .ok (.aload_n 0, 1) := by decide +kernel
theorem dX7_type_33 : decode cX7_type 33 = .ok (.getfield 52, 3) := by decide +kernel
theorem dX7_type_36 : decode cX7_type 36 = .ok (.ireturn, 1) := by decide +kernel
theorem dX7_clearText_0 : decode cX7_clearText 0 = .ok (.aload_n 0, 1) := by decide +kernel
theorem dX7_clearText_1 : decode cX7_clearText 1 = .ok (.getfield 52, 3) := by decide +kernel
theorem dX7_clearText_4 : decode cX7_clearText 4 = .ok (.istore_n 1, 1) := by decide +kernel
theorem dX7_clearText_5 : decode cX7_clearText 5 = .ok (.aload_n 0, 1) := by decide +kernel
theorem dX7_clearText_6 : decode cX7_clearText 6 = .ok (.iconst 0, 1) := by decide +kernel
theorem dX7_clearText_7 : decode cX7_clearText 7 = .ok (.putfield 52, 3) := by decide +kernel
theorem dX7_clearText_10 : decode cX7_clearText 10 = .ok (.iload_n 1, 1) := by decide +kernel
theorem dX7_clearText_11 : decode cX7_clearText 11 = .ok (.ireturn, 1) := by decide +kernel
theorem dX7_undo_0 : decode cX7_undo 0 = .ok (.aload_n 0, 1) := by decide +kernel
theorem dX7_undo_1 : decode cX7_undo 1 = .ok (.getfield 48, 3) := by decide +kernel
theorem dX7_undo_4 : decode cX7_undo 4 = .ok (.ifCond .gt 6, 3) := by decide +kernel
theorem dX7_undo_7 : decode cX7_undo 7 = .ok (.ldc 106, 2) := by decide +kernel
theorem dX7_undo_9 : decode cX7_undo 9 = .ok (.ireturn, 1) := by decide +kernel
theorem dX7_undo_10 : decode cX7_undo 10 = .ok (.aload_n 0, 1) := by decide +kernel
theorem dX7_undo_11 : decode cX7_undo 11 = .ok (.dup, 1) := by decide +kernel
theorem dX7_undo_12 : decode cX7_undo 12 = .ok (.getfield 48, 3) := by decide +kernel
theorem dX7_undo_15 : decode cX7_undo 15 = .ok (.iconst 1, 1) := by decide +kernel
theorem dX7_undo_16 : decode cX7_undo 16 = .ok (.isub, 1) := by decide +kernel
theorem dX7_undo_17 : decode cX7_undo 17 = .ok (.putfield 48, 3) := by decide +kernel
theorem dX7_undo_20 : decode cX7_undo 20 = .ok (.aload_n 0, 1) := by decide +kernel
theorem dX7_undo_21 : decode cX7_undo 21 = .ok (.getfield 10, 3) := by decide +kernel
theorem dX7_undo_24 : decode cX7_undo 24 = .ok (.aload_n 0, 1) := by decide +kernel
theorem dX7_undo_25 : decode cX7_undo 25 = .ok (.getfield 22, 3) := by decide +kernel
theorem dX7_undo_28 : decode cX7_undo 28 = .ok (.aload_n 0, 1) := by decide +kernel
theorem dX7_undo_29 : decode cX7_undo 29 = .ok (.getfield 48, 3) := by decide +kernel
theorem dX7_undo_32 : decode cX7_undo 32 = .ok (.aaload, 1) := by decide +kernel
theorem dX7_undo_33 : decode cX7_undo 33 = .ok (.invokevirtual 183, 3) := by decide +kernel
theorem dX7_undo_36 : decode cX7_undo 36 = .ok (.aload_n 0, 1) := by decide +kernel
theorem dX7_undo_37 : decode cX7_undo 37 = .ok (.getfield 48, 3) := by decide +kernel
theorem dX7_undo_40 : decode cX7_undo 40 = .ok (.ireturn, 1) := by decide +kernel
theorem dX7_keep_0 : decode cX7_keep 0 = .ok (.aload_n 0, 1) := by decide +kernel
theorem dX7_keep_1 : decode cX7_keep 1 = .ok (.getfield 19, 3) := by decide +kernel
theorem dX7_keep_4 : decode cX7_keep 4 = .ok (.aload_n 0, 1) := by decide +kernel
theorem dX7_keep_5 : decode cX7_keep 5 = .ok (.getfield 10, 3) := by decide +kernel
theorem dX7_keep_8 : decode cX7_keep 8 = .ok (.invokevirtual 183, 3) := by decide +kernel
theorem dX7_keep_11 : decode cX7_keep 11 = .ok (.aload_n 0, 1) := by decide +kernel
theorem dX7_keep_12 : decode cX7_keep 12 = .ok (.iconst 1, 1) := by decide +kernel
theorem dX7_keep_13 : decode cX7_keep 13 = .ok (.putfield 44, 3) := by decide +kernel
theorem dX7_keep_16 : decode cX7_keep 16 = .ok (.aload_n 0, 1) := by decide +kernel
theorem dX7_keep_17 : decode cX7_keep 17 = .ok (.getfield 10, 3) := by decide +kernel
theorem dX7_keep_20 : decode cX7_keep 20 = .ok (.getfield 113, 3) := by decide +kernel
theorem dX7_keep_23 : decode cX7_keep 23 = .ok (.ireturn, 1) := by decide +kernel
theorem dX7_restore_0 : decode cX7_restore 0 = .ok (.aload_n 0, 1) := by decide +kernel
theorem dX7_restore_1 : decode cX7_restore 1 = .ok (.getfield 44, 3) := by decide +kernel
theorem dX7_restore_4 : decode cX7_restore 4 = .ok (.ifCond .ne 6, 3) := by decide +kernel
theorem dX7_restore_7 : decode cX7_restore 7 = .ok (.ldc 106, 2) := by decide +kernel
theorem dX7_restore_9 : decode cX7_restore 9 = .ok (.ireturn, 1) := by decide +kernel
theorem dX7_restore_10 : decode cX7_restore 10 = .ok (.aload_n 0, 1) := by decide +kernel
theorem dX7_restore_11 : decode cX7_restore 11 = .ok (.invokevirtual 75, 3) := by decide +kernel
theorem dX7_restore_14 : decode cX7_restore 14 = .ok (.aload_n 0, 1) := by decide +kernel
theorem dX7_restore_15 : decode cX7_restore 15 = .ok (.getfield 10, 3) := by decide +kernel
theorem dX7_restore_18 : decode cX7_restore 18 = .ok (.aload_n 0, 1) := by decide +kernel
theorem dX7_restore_19 : decode cX7_restore 19 = .ok (.getfield 19, 3) := by decide +kernel
theorem dX7_restore_22 : decode cX7_restore 22 = .ok (.invokevirtual 183, 3) := by decide +kernel
theorem dX7_restore_25 : decode cX7_restore 25 = .ok (.aload_n 0, 1) := by decide +kernel
theorem dX7_restore_26 : decode cX7_restore 26 = .ok (.getfield 10, 3) := by decide +kernel
theorem dX7_restore_29 : decode cX7_restore 29 = .ok (.getfield 113, 3) := by decide +kernel
theorem dX7_restore_32 : decode cX7_restore 32 = .ok (.ireturn, 1) := by decide +kernel
theorem dX7_flier_0 : decode cX7_flier 0 = .ok (.aload_n 0, 1) := by decide +kernel
theorem dX7_flier_1 : decode cX7_flier 1 = .ok (.getfield 10, 3) := by decide +kernel
theorem dX7_flier_4 : decode cX7_flier 4 = .ok (.getfield 64, 3) := by decide +kernel
theorem dX7_flier_7 : decode cX7_flier 7 = .ok (.iload_n 1, 1) := by decide +kernel
theorem dX7_flier_8 : decode cX7_flier 8 = .ok (.invokevirtual 90, 3) := by decide +kernel
theorem dX7_flier_11 : decode cX7_flier 11 = .ok (.ifCond .ne 6, 3) := by decide +kernel
theorem dX7_flier_14 : decode cX7_flier 14 = .ok (.ldc 93, 2) := by decide +kernel
theorem dX7_flier_16 : decode cX7_flier 16 = .ok (.ireturn, 1) := by decide +kernel
theorem dX7_flier_17 : decode cX7_flier 17 = .ok (.iload_n 2, 1) := by decide +kernel
theorem dX7_flier_18 : decode cX7_flier 18 = .ok (.tableswitch 186 0 7 #[46, 59, 72, 85, 104, 138, 151, 173], 46) := by decide +kernel
theorem dX7_flier_64 : decode cX7_flier 64 = .ok (.aload_n 0, 1) := by decide +kernel
theorem dX7_flier_65 : decode cX7_flier 65 = .ok (.getfield 10, 3) := by decide +kernel
theorem dX7_flier_68 : decode cX7_flier 68 = .ok (.getfield 64, 3) := by decide +kernel
theorem dX7_flier_71 : decode cX7_flier 71 = .ok (.getfield 187, 3) := by decide +kernel
theorem dX7_flier_74 : decode cX7_flier 74 = .ok (.iload_n 1, 1) := by decide +kernel
theorem dX7_flier_75 : decode cX7_flier 75 = .ok (.iaload, 1) := by decide +kernel
theorem dX7_flier_76 : decode cX7_flier 76 = .ok (.ireturn, 1) := by decide +kernel
theorem dX7_flier_77 : decode cX7_flier 77 = .ok (.aload_n 0, 1) := by decide +kernel
theorem dX7_flier_78 : decode cX7_flier 78 = .ok (.getfield 10, 3) := by decide +kernel
theorem dX7_flier_81 : decode cX7_flier 81 = .ok (.getfield 64, 3) := by decide +kernel
theorem dX7_flier_84 : decode cX7_flier 84 = .ok (.getfield 190, 3) := by decide +kernel
theorem dX7_flier_87 : decode cX7_flier 87 = .ok (.iload_n 1, 1) := by decide +kernel
theorem dX7_flier_88 : decode cX7_flier 88 = .ok (.iaload, 1) := by decide +kernel
theorem dX7_flier_89 : decode cX7_flier 89 = .ok (.ireturn, 1) := by decide +kernel
theorem dX7_flier_90 : decode cX7_flier 90 = .ok (.aload_n 0, 1) := by decide +kernel
theorem dX7_flier_91 : decode cX7_flier 91 = .ok (.getfield 10, 3) := by decide +kernel
theorem dX7_flier_94 : decode cX7_flier 94 = .ok (.getfield 64, 3) := by decide +kernel
theorem dX7_flier_97 : decode cX7_flier 97 = .ok (.getfield 102, 3) := by decide +kernel
theorem dX7_flier_100 : decode cX7_flier 100 = .ok (.iload_n 1, 1) := by decide +kernel
theorem dX7_flier_101 : decode cX7_flier 101 = .ok (.iaload, 1) := by decide +kernel
theorem dX7_flier_102 : decode cX7_flier 102 = .ok (.ireturn, 1) := by decide +kernel
theorem dX7_flier_103 : decode cX7_flier 103 = .ok (.aload_n 0, 1) := by decide +kernel
theorem dX7_flier_104 : decode cX7_flier 104 = .ok (.getfield 10, 3) := by decide +kernel
theorem dX7_flier_107 : decode cX7_flier 107 = .ok (.getfield 64, 3) := by decide +kernel
theorem dX7_flier_110 : decode cX7_flier 110 = .ok (.iload_n 1, 1) := by decide +kernel
theorem dX7_flier_111 : decode cX7_flier 111 = .ok (.aload_n 0, 1) := by decide +kernel
theorem dX7_flier_112 : decode cX7_flier 112 = .ok (.getfield 10, 3) := by decide +kernel
theorem dX7_flier_115 : decode cX7_flier 115 = .ok (.invokevirtual 193, 3) := by decide +kernel
theorem dX7_flier_118 : decode cX7_flier 118 = .ok (.invokevirtual 196, 3) := by decide +kernel
theorem dX7_flier_121 : decode cX7_flier 121 = .ok (.ireturn, 1) := by decide +kernel
theorem dX7_flier_122 : decode cX7_flier 122 = .ok (.aload_n 0, 1) := by decide +kernel
theorem dX7_flier_123 : decode cX7_flier 123 = .ok (.getfield 10, 3) := by decide +kernel
theorem dX7_flier_126 : decode cX7_flier 126 = .ok (.getfield 64, 3) := by decide +kernel
theorem dX7_flier_129 : decode cX7_flier 129 = .ok (.iload_n 1, 1) := by decide +kernel
theorem dX7_flier_130 : decode cX7_flier 130 = .ok (.invokevirtual 94, 3) := by decide +kernel
theorem dX7_flier_133 : decode cX7_flier 133 = .ok (.ifCond .eq 20, 3) := by decide +kernel
theorem dX7_flier_136 : decode cX7_flier 136 = .ok (.iload_n 1, 1) := by decide +kernel
theorem dX7_flier_137 : decode cX7_flier 137 = .ok (.aload_n 0, 1) := by decide +kernel
theorem dX7_flier_138 : decode cX7_flier 138 = .ok (.getfield 10, 3) := by decide +kernel
theorem dX7_flier_141 : decode cX7_flier 141 = .ok (.getfield 64, 3) := by decide +kernel
theorem dX7_flier_144 : decode cX7_flier 144 = .ok (.getfield 199, 3) := by decide +kernel
theorem dX7_flier_147 : decode cX7_flier 147 = .ok (.iload_n 1, 1) := by decide +kernel
theorem dX7_flier_148 : decode cX7_flier 148 = .ok (.iaload, 1) := by decide +kernel
theorem dX7_flier_149 : decode cX7_flier 149 = .ok (.iadd, 1) := by decide +kernel
theorem dX7_flier_150 : decode cX7_flier 150 = .ok (.goto 5, 3) := by decide +kernel
theorem dX7_flier_153 : decode cX7_flier 153 = .ok (.ldc 106, 2) := by decide +kernel
theorem dX7_flier_155 : decode cX7_flier 155 = .ok (.ireturn, 1) := by decide +kernel
theorem dX7_flier_156 : decode cX7_flier 156 = .ok (.aload_n 0, 1) := by decide +kernel
theorem dX7_flier_157 : decode cX7_flier 157 = .ok (.getfield 10, 3) := by decide +kernel
theorem dX7_flier_160 : decode cX7_flier 160 = .ok (.getfield 64, 3) := by decide +kernel
theorem dX7_flier_163 : decode cX7_flier 163 = .ok (.getfield 202, 3) := by decide +kernel
theorem dX7_flier_166 : decode cX7_flier 166 = .ok (.iload_n 1, 1) := by decide +kernel
theorem dX7_flier_167 : decode cX7_flier 167 = .ok (.iaload, 1) := by decide +kernel
theorem dX7_flier_168 : decode cX7_flier 168 = .ok (.ireturn, 1) := by decide +kernel
theorem dX7_flier_169 : decode cX7_flier 169 = .ok (.aload_n 0, 1) := by decide +kernel
theorem dX7_flier_170 : decode cX7_flier 170 = .ok (.getfield 10, 3) := by decide +kernel
theorem dX7_flier_173 : decode cX7_flier 173 = .ok (.getfield 64, 3) := by decide +kernel
theorem dX7_flier_176 : decode cX7_flier 176 = .ok (.iload_n 1, 1) := by decide +kernel
theorem dX7_flier_177 : decode cX7_flier 177 = .ok (.aload_n 0, 1) := by decide +kernel
theorem dX7_flier_178 : decode cX7_flier 178 = .ok (.getfield 10, 3) := by decide +kernel
theorem dX7_flier_181 : decode cX7_flier 181 = .ok (.invokevirtual 193, 3) := by decide +kernel
theorem dX7_flier_184 : decode cX7_flier 184 = .ok (.invokevirtual 205, 3) := by decide +kernel
theorem dX7_flier_187 : decode cX7_flier 187 = .ok (.invokestatic 119, 3) := by decide +kernel
theorem dX7_flier_190 : decode cX7_flier 190 = .ok (.ireturn, 1) := by decide +kernel
theorem dX7_flier_191 : decode cX7_flier 191 = .ok (.aload_n 0, 1) := by decide +kernel
theorem dX7_flier_192 : decode cX7_flier 192 = .ok (.getfield 10, 3) := by decide +kernel
theorem dX7_flier_195 : decode cX7_flier 195 = .ok (.getfield 64, 3) := by decide +kernel
theorem dX7_flier_198 : decode cX7_flier 198 = .ok (.getfield 208, 3) := by decide +kernel
theorem dX7_flier_201 : decode cX7_flier 201 = .ok (.iload_n 1, 1) := by decide +kernel
theorem dX7_flier_202 : decode cX7_flier 202 = .ok (.iaload, 1) := by decide +kernel
theorem dX7_flier_203 : decode cX7_flier 203 = .ok (.ireturn, 1) := by decide +kernel
theorem dX7_flier_204 : decode cX7_flier 204 = .ok (.ldc 63, 2) := by decide +kernel
theorem dX7_flier_206 : decode cX7_flier 206 = .ok (.ireturn, 1) := by decide +kernel
theorem dX7_reads_0 : decode cX7_reads 0 = .ok (.iload_n 1, 1) := by decide +kernel
theorem dX7_reads_1 : decode cX7_reads 1 = .ok (.ifCond .ge 6, 3) := by decide +kernel
theorem dX7_reads_4 : decode cX7_reads 4 = .ok (.ldc 63, 2) := by decide +kernel
theorem dX7_reads_6 : decode cX7_reads 6 = .ok (.ireturn, 1) := by decide +kernel
theorem dX7_reads_7 : decode cX7_reads 7 = .ok (.aload_n 0, 1) := by decide +kernel
theorem dX7_reads_8 : decode cX7_reads 8 = .ok (.getfield 33, 3) := by decide +kernel
theorem dX7_reads_11 : decode cX7_reads 11 = .ok (.aload_n 0, 1) := by decide +kernel
theorem dX7_reads_12 : decode cX7_reads 12 = .ok (.getfield 10, 3) := by decide +kernel
theorem dX7_reads_15 : decode cX7_reads 15 = .ok (.invokevirtual 211, 3) := by decide +kernel
theorem dX7_reads_18 : decode cX7_reads 18 = .ok (.iload_n 1, 1) := by decide +kernel
theorem dX7_reads_19 : decode cX7_reads 19 = .ok (.aload_n 0, 1) := by decide +kernel
theorem dX7_reads_20 : decode cX7_reads 20 = .ok (.getfield 33, 3) := by decide +kernel
theorem dX7_reads_23 : decode cX7_reads 23 = .ok (.getfield 214, 3) := by decide +kernel
theorem dX7_reads_26 : decode cX7_reads 26 = .ok (.if_icmp .lt 6, 3) := by decide +kernel
theorem dX7_reads_29 : decode cX7_reads 29 = .ok (.ldc 106, 2) := by decide +kernel
theorem dX7_reads_31 : decode cX7_reads 31 = .ok (.ireturn, 1) := by decide +kernel
theorem dX7_reads_32 : decode cX7_reads 32 = .ok (.aload_n 0, 1) := by decide +kernel
theorem dX7_reads_33 : decode cX7_reads 33 = .ok (.getfield 10, 3) := by decide +kernel
theorem dX7_reads_36 : decode cX7_reads 36 = .ok (.getfield 64, 3) := by decide +kernel
theorem dX7_reads_39 : decode cX7_reads 39 = .ok (.getfield 190, 3) := by decide +kernel
theorem dX7_reads_42 : decode cX7_reads 42 = .ok (.aload_n 0, 1) := by decide +kernel
theorem dX7_reads_43 : decode cX7_reads 43 = .ok (.getfield 33, 3) := by decide +kernel
theorem dX7_reads_46 : decode cX7_reads 46 = .ok (.getfield 215, 3) := by decide +kernel
theorem dX7_reads_49 : decode cX7_reads 49 = .ok (.iload_n 1, 1) := by decide +kernel
theorem dX7_reads_50 : decode cX7_reads 50 = .ok (.iaload, 1) := by decide +kernel
theorem dX7_reads_51 : decode cX7_reads 51 = .ok (.iaload, 1) := by decide +kernel
theorem dX7_reads_52 : decode cX7_reads 52 = .ok (.ireturn, 1) := by decide +kernel
theorem dX7_ifTraded_0 : decode cX7_ifTraded 0 = .ok (.aload_n 0, 1) := by decide +kernel
theorem dX7_ifTraded_1 : decode cX7_ifTraded 1 = .ok (.getfield 10, 3) := by decide +kernel
theorem dX7_ifTraded_4 : decode cX7_ifTraded 4 = .ok (.getfield 64, 3) := by decide +kernel
theorem dX7_ifTraded_7 : decode cX7_ifTraded 7 = .ok (.iload_n 1, 1) := by decide +kernel
theorem dX7_ifTraded_8 : decode cX7_ifTraded 8 = .ok (.invokevirtual 107, 3) := by decide +kernel
theorem dX7_ifTraded_11 : decode cX7_ifTraded 11 = .ok (.ifCond .ne 6, 3) := by decide +kernel
theorem dX7_ifTraded_14 : decode cX7_ifTraded 14 = .ok (.ldc 93, 2) := by decide +kernel
theorem dX7_ifTraded_16 : decode cX7_ifTraded 16 = .ok (.ireturn, 1) := by decide +kernel
theorem dX7_ifTraded_17 : decode cX7_ifTraded 17 = .ok (.iload_n 2, 1) := by decide +kernel
theorem dX7_ifTraded_18 : decode cX7_ifTraded 18 = .ok (.iconst 0, 1) := by decide +kernel
theorem dX7_ifTraded_19 : decode cX7_ifTraded 19 = .ok (.iconst 2, 1) := by decide +kernel
theorem dX7_ifTraded_20 : decode cX7_ifTraded 20 = .ok (.invokestatic 59, 3) := by decide +kernel
theorem dX7_ifTraded_23 : decode cX7_ifTraded 23 = .ok (.ifCond .ne 6, 3) := by decide +kernel
theorem dX7_ifTraded_26 : decode cX7_ifTraded 26 = .ok (.ldc 63, 2) := by decide +kernel
theorem dX7_ifTraded_28 : decode cX7_ifTraded 28 = .ok (.ireturn, 1) := by decide +kernel
theorem dX7_ifTraded_29 : decode cX7_ifTraded 29 = .ok (.iload_n 2, 1) := by decide +kernel
theorem dX7_ifTraded_30 : decode cX7_ifTraded 30 = .ok (.iconst 1, 1) := by decide +kernel
theorem dX7_ifTraded_31 : decode cX7_ifTraded 31 = .ok (.if_icmp .ne 15, 3) := by decide +kernel
theorem dX7_ifTraded_34 : decode cX7_ifTraded 34 = .ok (.aload_n 0, 1) := by decide +kernel
theorem dX7_ifTraded_35 : decode cX7_ifTraded 35 = .ok (.getfield 10, 3) := by decide +kernel
theorem dX7_ifTraded_38 : decode cX7_ifTraded 38 = .ok (.iload_n 1, 1) := by decide +kernel
theorem dX7_ifTraded_39 : decode cX7_ifTraded 39 = .ok (.invokevirtual 218, 3) := by decide +kernel
theorem dX7_ifTraded_42 : decode cX7_ifTraded 42 = .ok (.invokestatic 119, 3) := by decide +kernel
theorem dX7_ifTraded_45 : decode cX7_ifTraded 45 = .ok (.ireturn, 1) := by decide +kernel
theorem dX7_ifTraded_46 : decode cX7_ifTraded 46 = .ok (.aload_n 0, 1) := by decide +kernel
theorem dX7_ifTraded_47 : decode cX7_ifTraded 47 = .ok (.getfield 40, 3) := by decide +kernel
theorem dX7_ifTraded_50 : decode cX7_ifTraded 50 = .ok (.aload_n 0, 1) := by decide +kernel
theorem dX7_ifTraded_51 : decode cX7_ifTraded 51 = .ok (.getfield 10, 3) := by decide +kernel
theorem dX7_ifTraded_54 : decode cX7_ifTraded 54 = .ok (.invokevirtual 221, 3) := by decide +kernel
theorem dX7_ifTraded_57 : decode cX7_ifTraded 57 = .ok (.aload_n 0, 1) := by decide +kernel
theorem dX7_ifTraded_58 : decode cX7_ifTraded 58 = .ok (.getfield 40, 3) := by decide +kernel
theorem dX7_ifTraded_61 : decode cX7_ifTraded 61 = .ok (.getfield 224, 3) := by decide +kernel
theorem dX7_ifTraded_64 : decode cX7_ifTraded 64 = .ok (.ifCond .ne 6, 3) := by decide +kernel
theorem dX7_ifTraded_67 : decode cX7_ifTraded 67 = .ok (.ldc 106, 2) := by decide +kernel
theorem dX7_ifTraded_69 : decode cX7_ifTraded 69 = .ok (.ireturn, 1) := by decide +kernel
theorem dX7_ifTraded_70 : decode cX7_ifTraded 70 = .ok (.iload_n 2, 1) := by decide +kernel
theorem dX7_ifTraded_71 : decode cX7_ifTraded 71 = .ok (.ifCond .ne 17, 3) := by decide +kernel
theorem dX7_ifTraded_74 : decode cX7_ifTraded 74 = .ok (.aload_n 0, 1) := by decide +kernel
theorem dX7_ifTraded_75 : decode cX7_ifTraded 75 = .ok (.getfield 40, 3) := by decide +kernel
theorem dX7_ifTraded_78 : decode cX7_ifTraded 78 = .ok (.iload_n 1, 1) := by decide +kernel
theorem dX7_ifTraded_79 : decode cX7_ifTraded 79 = .ok (.invokevirtual 227, 3) := by decide +kernel
theorem dX7_ifTraded_82 : decode cX7_ifTraded 82 = .ok (.invokestatic 119, 3) := by decide +kernel
theorem dX7_ifTraded_85 : decode cX7_ifTraded 85 = .ok (.goto 18, 3) := by decide +kernel
theorem dX7_ifTraded_88 : decode cX7_ifTraded 88 = .ok (.aload_n 0, 1) := by decide +kernel
theorem dX7_ifTraded_89 : decode cX7_ifTraded 89 = .ok (.getfield 40, 3) := by decide +kernel
theorem dX7_ifTraded_92 : decode cX7_ifTraded 92 = .ok (.aload_n 0, 1) := by decide +kernel
theorem dX7_ifTraded_93 : decode cX7_ifTraded 93 = .ok (.getfield 10, 3) := by decide +kernel
theorem dX7_ifTraded_96 : decode cX7_ifTraded 96 = .ok (.getfield 64, 3) := by decide +kernel
theorem dX7_ifTraded_99 : decode cX7_ifTraded 99 = .ok (.iload_n 1, 1) := by decide +kernel
theorem dX7_ifTraded_100 : decode cX7_ifTraded 100 = .ok (.invokevirtual 230, 3) := by decide +kernel
theorem dX7_ifTraded_103 : decode cX7_ifTraded 103 = .ok (.ireturn, 1) := by decide +kernel
theorem dX7_nextTrade_0 : decode cX7_nextTrade 0 = .ok (.aload_n 0, 1) := by decide +kernel
theorem dX7_nextTrade_1 : decode cX7_nextTrade 1 = .ok (.aload_n 0, 1) := by decide +kernel
theorem dX7_nextTrade_2 : decode cX7_nextTrade 2 = .ok (.getfield 10, 3) := by decide +kernel
theorem dX7_nextTrade_5 : decode cX7_nextTrade 5 = .ok (.invokevirtual 234, 3) := by decide +kernel
theorem dX7_nextTrade_8 : decode cX7_nextTrade 8 = .ok (.istore_n 1, 1) := by decide +kernel
theorem dX7_nextTrade_9 : decode cX7_nextTrade 9 = .ok (.iload_n 1, 1) := by decide +kernel
theorem dX7_nextTrade_10 : decode cX7_nextTrade 10 = .ok (.iconst (-1), 1) := by decide +kernel
theorem dX7_nextTrade_11 : decode cX7_nextTrade 11 = .ok (.if_icmp .ne 8, 3) := by decide +kernel
theorem dX7_nextTrade_14 : decode cX7_nextTrade 14 = .ok (.ldc 106, 2) := by decide +kernel
theorem dX7_nextTrade_16 : decode cX7_nextTrade 16 = .ok (.goto 4, 3) := by decide +kernel
theorem dX7_nextTrade_19 : decode cX7_nextTrade 19 = .ok (.iload_n 1, 1) := by decide +kernel
theorem dX7_nextTrade_20 : decode cX7_nextTrade 20 = .ok (.ireturn, 1) := by decide +kernel
theorem dX7_spelledIn_0 : decode cX7_spelledIn 0 = .ok (.aload_n 0, 1) := by decide +kernel
theorem dX7_spelledIn_1 : decode cX7_spelledIn 1 = .ok (.getfield 40, 3) := by decide +kernel
theorem dX7_spelledIn_4 : decode cX7_spelledIn 4 = .ok (.aload_n 0, 1) := by decide +kernel
theorem dX7_spelledIn_5 : decode cX7_spelledIn 5 = .ok (.getfield 10, 3) := by decide +kernel
theorem dX7_spelledIn_8 : decode cX7_spelledIn 8 = .ok (.invokevirtual 221, 3) := by decide +kernel
theorem dX7_spelledIn_11 : decode cX7_spelledIn 11 = .ok (.aload_n 0, 1) := by decide +kernel
theorem dX7_spelledIn_12 : decode cX7_spelledIn 12 = .ok (.getfield 40, 3) := by decide +kernel
theorem dX7_spelledIn_15 : decode cX7_spelledIn 15 = .ok (.getfield 224, 3) := by decide +kernel
theorem dX7_spelledIn_18 : decode cX7_spelledIn 18 = .ok (.ifCond .ne 6, 3) := by decide +kernel
theorem dX7_spelledIn_21 : decode cX7_spelledIn 21 = .ok (.ldc 106, 2) := by decide +kernel
theorem dX7_spelledIn_23 : decode cX7_spelledIn 23 = .ok (.ireturn, 1) := by decide +kernel
theorem dX7_spelledIn_24 : decode cX7_spelledIn 24 = .ok (.aload_n 0, 1) := by decide +kernel
theorem dX7_spelledIn_25 : decode cX7_spelledIn 25 = .ok (.getfield 16, 3) := by decide +kernel
theorem dX7_spelledIn_28 : decode cX7_spelledIn 28 = .ok (.aload_n 0, 1) := by decide +kernel
theorem dX7_spelledIn_29 : decode cX7_spelledIn 29 = .ok (.getfield 10, 3) := by decide +kernel
theorem dX7_spelledIn_32 : decode cX7_spelledIn 32 = .ok (.invokevirtual 183, 3) := by decide +kernel
theorem dX7_spelledIn_35 : decode cX7_spelledIn 35 = .ok (.iconst 0, 1) := by decide +kernel
theorem dX7_spelledIn_36 : decode cX7_spelledIn 36 = .ok (.istore_n 1, 1) := by decide +kernel
theorem dX7_spelledIn_37 : decode cX7_spelledIn 37 = .ok (.iload_n 1, 1) := by decide +kernel
theorem dX7_spelledIn_38 : decode cX7_spelledIn 38 = .ok (.sipush 200, 3) := by decide +kernel
theorem dX7_spelledIn_41 : decode cX7_spelledIn 41 = .ok (.if_icmp .gt 69, 3) := by decide +kernel
theorem dX7_spelledIn_44 : decode cX7_spelledIn 44 = .ok (.aload_n 0, 1) := by decide +kernel
theorem dX7_spelledIn_45 : decode cX7_spelledIn 45 = .ok (.aload_n 0, 1) := by decide +kernel
theorem dX7_spelledIn_46 : decode cX7_spelledIn 46 = .ok (.getfield 16, 3) := by decide +kernel
theorem dX7_spelledIn_49 : decode cX7_spelledIn 49 = .ok (.invokevirtual 238, 3) := by decide +kernel
theorem dX7_spelledIn_52 : decode cX7_spelledIn 52 = .ok (.ifCond .eq 5, 3) := by decide +kernel
theorem dX7_spelledIn_55 : decode cX7_spelledIn 55 = .ok (.iload_n 1, 1) := by decide +kernel
theorem dX7_spelledIn_56 : decode cX7_spelledIn 56 = .ok (.ireturn, 1) := by decide +kernel
theorem dX7_spelledIn_57 : decode cX7_spelledIn 57 = .ok (.aload_n 0, 1) := by decide +kernel
theorem dX7_spelledIn_58 : decode cX7_spelledIn 58 = .ok (.aload_n 0, 1) := by decide +kernel
theorem dX7_spelledIn_59 : decode cX7_spelledIn 59 = .ok (.getfield 16, 3) := by decide +kernel
theorem dX7_spelledIn_62 : decode cX7_spelledIn 62 = .ok (.invokevirtual 234, 3) := by decide +kernel
theorem dX7_spelledIn_65 : decode cX7_spelledIn 65 = .ok (.istore_n 2, 1) := by decide +kernel
theorem dX7_spelledIn_66 : decode cX7_spelledIn 66 = .ok (.iload_n 2, 1) := by decide +kernel
theorem dX7_spelledIn_67 : decode cX7_spelledIn 67 = .ok (.iconst (-1), 1) := by decide +kernel
theorem dX7_spelledIn_68 : decode cX7_spelledIn 68 = .ok (.if_icmp .eq 15, 3) := by decide +kernel
theorem dX7_spelledIn_71 : decode cX7_spelledIn 71 = .ok (.aload_n 0, 1) := by decide +kernel
theorem dX7_spelledIn_72 : decode cX7_spelledIn 72 = .ok (.getfield 16, 3) := by decide +kernel
theorem dX7_spelledIn_75 : decode cX7_spelledIn 75 = .ok (.iload_n 2, 1) := by decide +kernel
theorem dX7_spelledIn_76 : decode cX7_spelledIn 76 = .ok (.invokevirtual 116, 3) := by decide +kernel
theorem dX7_spelledIn_79 : decode cX7_spelledIn 79 = .ok (.pop, 1) := by decide +kernel
theorem dX7_spelledIn_80 : decode cX7_spelledIn 80 = .ok (.goto 24, 3) := by decide +kernel
theorem dX7_spelledIn_83 : decode cX7_spelledIn 83 = .ok (.aload_n 0, 1) := by decide +kernel
theorem dX7_spelledIn_84 : decode cX7_spelledIn 84 = .ok (.getfield 16, 3) := by decide +kernel
theorem dX7_spelledIn_87 : decode cX7_spelledIn 87 = .ok (.invokevirtual 242, 3) := by decide +kernel
theorem dX7_spelledIn_90 : decode cX7_spelledIn 90 = .ok (.ifCond .eq 6, 3) := by decide +kernel
theorem dX7_spelledIn_93 : decode cX7_spelledIn 93 = .ok (.ldc 106, 2) := by decide +kernel
theorem dX7_spelledIn_95 : decode cX7_spelledIn 95 = .ok (.ireturn, 1) := by decide +kernel
theorem dX7_spelledIn_96 : decode cX7_spelledIn 96 = .ok (.aload_n 0, 1) := by decide +kernel
theorem dX7_spelledIn_97 : decode cX7_spelledIn 97 = .ok (.getfield 16, 3) := by decide +kernel
theorem dX7_spelledIn_100 : decode cX7_spelledIn 100 = .ok (.invokevirtual 123, 3) := by decide +kernel
theorem dX7_spelledIn_103 : decode cX7_spelledIn 103 = .ok (.pop, 1) := by decide +kernel
theorem dX7_spelledIn_104 : decode cX7_spelledIn 104 = .ok (.iinc 1 1, 3) := by decide +kernel
theorem dX7_spelledIn_107 : decode cX7_spelledIn 107 = .ok (.goto (-70), 3) := by decide +kernel
theorem dX7_spelledIn_110 : decode cX7_spelledIn 110 = .ok (.ldc 106, 2) := by decide +kernel
theorem dX7_spelledIn_112 : decode cX7_spelledIn 112 = .ok (.ireturn, 1) := by decide +kernel
theorem dX7_turnOf_0 : decode cX7_turnOf 0 = .ok (.iload_n 1, 1) := by decide +kernel
theorem dX7_turnOf_1 : decode cX7_turnOf 1 = .ok (.ifCond .lt 12, 3) := by decide +kernel
theorem dX7_turnOf_4 : decode cX7_turnOf 4 = .ok (.iload_n 2, 1) := by decide +kernel
theorem dX7_turnOf_5 : decode cX7_turnOf 5 = .ok (.iconst 0, 1) := by decide +kernel
theorem dX7_turnOf_6 : decode cX7_turnOf 6 = .ok (.iconst 2, 1) := by decide +kernel
theorem dX7_turnOf_7 : decode cX7_turnOf 7 = .ok (.invokestatic 59, 3) := by decide +kernel
theorem dX7_turnOf_10 : decode cX7_turnOf 10 = .ok (.ifCond .ne 6, 3) := by decide +kernel
theorem dX7_turnOf_13 : decode cX7_turnOf 13 = .ok (.ldc 63, 2) := by decide +kernel
theorem dX7_turnOf_15 : decode cX7_turnOf 15 = .ok (.ireturn, 1) := by decide +kernel
theorem dX7_turnOf_16 : decode cX7_turnOf 16 = .ok (.iload_n 1, 1) := by decide +kernel
theorem dX7_turnOf_17 : decode cX7_turnOf 17 = .ok (.aload_n 0, 1) := by decide +kernel
theorem dX7_turnOf_18 : decode cX7_turnOf 18 = .ok (.getfield 10, 3) := by decide +kernel
theorem dX7_turnOf_21 : decode cX7_turnOf 21 = .ok (.getfield 140, 3) := by decide +kernel
theorem dX7_turnOf_24 : decode cX7_turnOf 24 = .ok (.getfield 150, 3) := by decide +kernel
theorem dX7_turnOf_27 : decode cX7_turnOf 27 = .ok (.if_icmp .lt 6, 3) := by decide +kernel
theorem dX7_turnOf_30 : decode cX7_turnOf 30 = .ok (.ldc 106, 2) := by decide +kernel
theorem dX7_turnOf_32 : decode cX7_turnOf 32 = .ok (.ireturn, 1) := by decide +kernel
theorem dX7_turnOf_33 : decode cX7_turnOf 33 = .ok (.iload_n 2, 1) := by decide +kernel
theorem dX7_turnOf_34 : decode cX7_turnOf 34 = .ok (.lookupswitch 52 #[(0, 26), (1, 39)], 26) := by decide +kernel
theorem dX7_turnOf_60 : decode cX7_turnOf 60 = .ok (.aload_n 0, 1) := by decide +kernel
theorem dX7_turnOf_61 : decode cX7_turnOf 61 = .ok (.getfield 10, 3) := by decide +kernel
theorem dX7_turnOf_64 : decode cX7_turnOf 64 = .ok (.getfield 140, 3) := by decide +kernel
theorem dX7_turnOf_67 : decode cX7_turnOf 67 = .ok (.getfield 246, 3) := by decide +kernel
theorem dX7_turnOf_70 : decode cX7_turnOf 70 = .ok (.iload_n 1, 1) := by decide +kernel
theorem dX7_turnOf_71 : decode cX7_turnOf 71 = .ok (.iaload, 1) := by decide +kernel
theorem dX7_turnOf_72 : decode cX7_turnOf 72 = .ok (.ireturn, 1) := by decide +kernel
theorem dX7_turnOf_73 : decode cX7_turnOf 73 = .ok (.aload_n 0, 1) := by decide +kernel
theorem dX7_turnOf_74 : decode cX7_turnOf 74 = .ok (.getfield 10, 3) := by decide +kernel
theorem dX7_turnOf_77 : decode cX7_turnOf 77 = .ok (.getfield 140, 3) := by decide +kernel
theorem dX7_turnOf_80 : decode cX7_turnOf 80 = .ok (.getfield 249, 3) := by decide +kernel
theorem dX7_turnOf_83 : decode cX7_turnOf 83 = .ok (.iload_n 1, 1) := by decide +kernel
theorem dX7_turnOf_84 : decode cX7_turnOf 84 = .ok (.iaload, 1) := by decide +kernel
theorem dX7_turnOf_85 : decode cX7_turnOf 85 = .ok (.ireturn, 1) := by decide +kernel
theorem dX7_turnOf_86 : decode cX7_turnOf 86 = .ok (.aload_n 0, 1) := by decide +kernel
theorem dX7_turnOf_87 : decode cX7_turnOf 87 = .ok (.getfield 10, 3) := by decide +kernel
theorem dX7_turnOf_90 : decode cX7_turnOf 90 = .ok (.getfield 140, 3) := by decide +kernel
theorem dX7_turnOf_93 : decode cX7_turnOf 93 = .ok (.getfield 251, 3) := by decide +kernel
theorem dX7_turnOf_96 : decode cX7_turnOf 96 = .ok (.iload_n 1, 1) := by decide +kernel
theorem dX7_turnOf_97 : decode cX7_turnOf 97 = .ok (.iaload, 1) := by decide +kernel
theorem dX7_turnOf_98 : decode cX7_turnOf 98 = .ok (.ireturn, 1) := by decide +kernel
theorem dX7_tangle_0 : decode cX7_tangle 0 = .ok (.iload_n 1, 1) := by decide +kernel
theorem dX7_tangle_1 : decode cX7_tangle 1 = .ok (.ifCond .lt 12, 3) := by decide +kernel
theorem dX7_tangle_4 : decode cX7_tangle 4 = .ok (.iload_n 2, 1) := by decide +kernel
theorem dX7_tangle_5 : decode cX7_tangle 5 = .ok (.iconst 0, 1) := by decide +kernel
theorem dX7_tangle_6 : decode cX7_tangle 6 = .ok (.iconst 3, 1) := by decide +kernel
theorem dX7_tangle_7 : decode cX7_tangle 7 = .ok (.invokestatic 59, 3) := by decide +kernel
theorem dX7_tangle_10 : decode cX7_tangle 10 = .ok (.ifCond .ne 6, 3) := by decide +kernel
theorem dX7_tangle_13 : decode cX7_tangle 13 = .ok (.ldc 63, 2) := by decide +kernel
theorem dX7_tangle_15 : decode cX7_tangle 15 = .ok (.ireturn, 1) := by decide +kernel
theorem dX7_tangle_16 : decode cX7_tangle 16 = .ok (.iload_n 1, 1) := by decide +kernel
theorem dX7_tangle_17 : decode cX7_tangle 17 = .ok (.aload_n 0, 1) := by decide +kernel
theorem dX7_tangle_18 : decode cX7_tangle 18 = .ok (.getfield 10, 3) := by decide +kernel
theorem dX7_tangle_21 : decode cX7_tangle 21 = .ok (.getfield 253, 3) := by decide +kernel
theorem dX7_tangle_24 : decode cX7_tangle 24 = .ok (.getfield 257, 3) := by decide +kernel
theorem dX7_tangle_27 : decode cX7_tangle 27 = .ok (.if_icmp .lt 6, 3) := by decide +kernel
theorem dX7_tangle_30 : decode cX7_tangle 30 = .ok (.ldc 106, 2) := by decide +kernel
theorem dX7_tangle_32 : decode cX7_tangle 32 = .ok (.ireturn, 1) := by decide +kernel
theorem dX7_tangle_33 : decode cX7_tangle 33 = .ok (.iload_n 2, 1) := by decide +kernel
theorem dX7_tangle_34 : decode cX7_tangle 34 = .ok (.tableswitch 65 0 2 #[26, 39, 52], 26) := by decide +kernel
theorem dX7_tangle_60 : decode cX7_tangle 60 = .ok (.aload_n 0, 1) := by decide +kernel
theorem dX7_tangle_61 : decode cX7_tangle 61 = .ok (.getfield 10, 3) := by decide +kernel
theorem dX7_tangle_64 : decode cX7_tangle 64 = .ok (.getfield 253, 3) := by decide +kernel
theorem dX7_tangle_67 : decode cX7_tangle 67 = .ok (.getfield 260, 3) := by decide +kernel
theorem dX7_tangle_70 : decode cX7_tangle 70 = .ok (.iload_n 1, 1) := by decide +kernel
theorem dX7_tangle_71 : decode cX7_tangle 71 = .ok (.iaload, 1) := by decide +kernel
theorem dX7_tangle_72 : decode cX7_tangle 72 = .ok (.ireturn, 1) := by decide +kernel
theorem dX7_tangle_73 : decode cX7_tangle 73 = .ok (.aload_n 0, 1) := by decide +kernel
theorem dX7_tangle_74 : decode cX7_tangle 74 = .ok (.getfield 10, 3) := by decide +kernel
theorem dX7_tangle_77 : decode cX7_tangle 77 = .ok (.getfield 253, 3) := by decide +kernel
theorem dX7_tangle_80 : decode cX7_tangle 80 = .ok (.getfield 261, 3) := by decide +kernel
theorem dX7_tangle_83 : decode cX7_tangle 83 = .ok (.iload_n 1, 1) := by decide +kernel
theorem dX7_tangle_84 : decode cX7_tangle 84 = .ok (.iaload, 1) := by decide +kernel
theorem dX7_tangle_85 : decode cX7_tangle 85 = .ok (.ireturn, 1) := by decide +kernel
theorem dX7_tangle_86 : decode cX7_tangle 86 = .ok (.aload_n 0, 1) := by decide +kernel
theorem dX7_tangle_87 : decode cX7_tangle 87 = .ok (.getfield 10, 3) := by decide +kernel
theorem dX7_tangle_90 : decode cX7_tangle 90 = .ok (.getfield 253, 3) := by decide +kernel
theorem dX7_tangle_93 : decode cX7_tangle 93 = .ok (.getfield 264, 3) := by decide +kernel
theorem dX7_tangle_96 : decode cX7_tangle 96 = .ok (.iload_n 1, 1) := by decide +kernel
theorem dX7_tangle_97 : decode cX7_tangle 97 = .ok (.iaload, 1) := by decide +kernel
theorem dX7_tangle_98 : decode cX7_tangle 98 = .ok (.ireturn, 1) := by decide +kernel
theorem dX7_tangle_99 : decode cX7_tangle 99 = .ok (.aload_n 0, 1) := by decide +kernel
theorem dX7_tangle_100 : decode cX7_tangle 100 = .ok (.getfield 10, 3) := by decide +kernel
theorem dX7_tangle_103 : decode cX7_tangle 103 = .ok (.getfield 253, 3) := by decide +kernel
theorem dX7_tangle_106 : decode cX7_tangle 106 = .ok (.getfield 267, 3) := by decide +kernel
theorem dX7_tangle_109 : decode cX7_tangle 109 = .ok (.iload_n 1, 1) := by decide +kernel
theorem dX7_tangle_110 : decode cX7_tangle 110 = .ok (.iaload, 1) := by decide +kernel
theorem dX7_tangle_111 : decode cX7_tangle 111 = .ok (.ireturn, 1) := by decide +kernel
theorem dX7_count_0 : decode cX7_count 0 = .ok (.iload_n 1, 1) := by decide +kernel
theorem dX7_count_1 : decode cX7_count 1 = .ok (.tableswitch 190 0 13 #[71, 82, 90, 98, 106, 117, 122, 133, 138, 150, 158, 169, 180, 185], 71) := by decide +kernel
theorem dX7_count_72 : decode cX7_count 72 = .ok (.aload_n 0, 1) := by decide +kernel
theorem dX7_count_73 : decode cX7_count 73 = .ok (.getfield 10, 3) := by decide +kernel
theorem dX7_count_76 : decode cX7_count 76 = .ok (.getfield 64, 3) := by decide +kernel
theorem dX7_count_79 : decode cX7_count 79 = .ok (.getfield 82, 3) := by decide +kernel
theorem dX7_count_82 : decode cX7_count 82 = .ok (.ireturn, 1) := by decide +kernel
theorem dX7_count_83 : decode cX7_count 83 = .ok (.aload_n 0, 1) := by decide +kernel
theorem dX7_count_84 : decode cX7_count 84 = .ok (.getfield 10, 3) := by decide +kernel
theorem dX7_count_87 : decode cX7_count 87 = .ok (.getfield 113, 3) := by decide +kernel
theorem dX7_count_90 : decode cX7_count 90 = .ok (.ireturn, 1) := by decide +kernel
theorem dX7_count_91 : decode cX7_count 91 = .ok (.aload_n 0, 1) := by decide +kernel
theorem dX7_count_92 : decode cX7_count 92 = .ok (.getfield 10, 3) := by decide +kernel
theorem dX7_count_95 : decode cX7_count 95 = .ok (.getfield 130, 3) := by decide +kernel
theorem dX7_count_98 : decode cX7_count 98 = .ok (.ireturn, 1) := by decide +kernel
theorem dX7_count_99 : decode cX7_count 99 = .ok (.aload_n 0, 1) := by decide +kernel
theorem dX7_count_100 : decode cX7_count 100 = .ok (.getfield 10, 3) := by decide +kernel
theorem dX7_count_103 : decode cX7_count 103 = .ok (.getfield 133, 3) := by decide +kernel
theorem dX7_count_106 : decode cX7_count 106 = .ok (.ireturn, 1) := by decide +kernel
theorem dX7_count_107 : decode cX7_count 107 = .ok (.aload_n 0, 1) := by decide +kernel
theorem dX7_count_108 : decode cX7_count 108 = .ok (.getfield 10, 3) := by decide +kernel
theorem dX7_count_111 : decode cX7_count 111 = .ok (.getfield 156, 3) := by decide +kernel
theorem dX7_count_114 : decode cX7_count 114 = .ok (.invokestatic 119, 3) := by decide +kernel
theorem dX7_count_117 : decode cX7_count 117 = .ok (.ireturn, 1) := by decide +kernel
theorem dX7_count_118 : decode cX7_count 118 = .ok (.aload_n 0, 1) := by decide +kernel
theorem dX7_count_119 : decode cX7_count 119 = .ok (.invokevirtual 159, 3) := by decide +kernel
theorem dX7_count_122 : decode cX7_count 122 = .ok (.ireturn, 1) := by decide +kernel
theorem dX7_count_123 : decode cX7_count 123 = .ok (.aload_n 0, 1) := by decide +kernel
theorem dX7_count_124 : decode cX7_count 124 = .ok (.getfield 10, 3) := by decide +kernel
theorem dX7_count_127 : decode cX7_count 127 = .ok (.getfield 168, 3) := by decide +kernel
theorem dX7_count_130 : decode cX7_count 130 = .ok (.getfield 182, 3) := by decide +kernel
theorem dX7_count_133 : decode cX7_count 133 = .ok (.ireturn, 1) := by decide +kernel
theorem dX7_count_134 : decode cX7_count 134 = .ok (.aload_n 0, 1) := by decide +kernel
theorem dX7_count_135 : decode cX7_count 135 = .ok (.invokevirtual 270, 3) := by decide +kernel
theorem dX7_count_138 : decode cX7_count 138 = .ok (.ireturn, 1) := by decide +kernel
theorem dX7_count_139 : decode cX7_count 139 = .ok (.aload_n 0, 1) := by decide +kernel
theorem dX7_count_140 : decode cX7_count 140 = .ok (.aload_n 0, 1) := by decide +kernel
theorem dX7_count_141 : decode cX7_count 141 = .ok (.getfield 10, 3) := by decide +kernel
theorem dX7_count_144 : decode cX7_count 144 = .ok (.invokevirtual 238, 3) := by decide +kernel
theorem dX7_count_147 : decode cX7_count 147 = .ok (.invokestatic 119, 3) := by decide +kernel
theorem dX7_count_150 : decode cX7_count 150 = .ok (.ireturn, 1) := by decide +kernel
theorem dX7_count_151 : decode cX7_count 151 = .ok (.aload_n 0, 1) := by decide +kernel
theorem dX7_count_152 : decode cX7_count 152 = .ok (.getfield 10, 3) := by decide +kernel
theorem dX7_count_155 : decode cX7_count 155 = .ok (.getfield 273, 3) := by decide +kernel
theorem dX7_count_158 : decode cX7_count 158 = .ok (.ireturn, 1) := by decide +kernel
theorem dX7_count_159 : decode cX7_count 159 = .ok (.aload_n 0, 1) := by decide +kernel
theorem dX7_count_160 : decode cX7_count 160 = .ok (.getfield 10, 3) := by decide +kernel
theorem dX7_count_163 : decode cX7_count 163 = .ok (.getfield 253, 3) := by decide +kernel
theorem dX7_count_166 : decode cX7_count 166 = .ok (.getfield 276, 3) := by decide +kernel
theorem dX7_count_169 : decode cX7_count 169 = .ok (.ireturn, 1) := by decide +kernel
theorem dX7_count_170 : decode cX7_count 170 = .ok (.aload_n 0, 1) := by decide +kernel
theorem dX7_count_171 : decode cX7_count 171 = .ok (.getfield 10, 3) := by decide +kernel
theorem dX7_count_174 : decode cX7_count 174 = .ok (.getfield 140, 3) := by decide +kernel
theorem dX7_count_177 : decode cX7_count 177 = .ok (.getfield 150, 3) := by decide +kernel
theorem dX7_count_180 : decode cX7_count 180 = .ok (.ireturn, 1) := by decide +kernel
theorem dX7_count_181 : decode cX7_count 181 = .ok (.aload_n 0, 1) := by decide +kernel
theorem dX7_count_182 : decode cX7_count 182 = .ok (.getfield 48, 3) := by decide +kernel
theorem dX7_count_185 : decode cX7_count 185 = .ok (.ireturn, 1) := by decide +kernel
theorem dX7_count_186 : decode cX7_count 186 = .ok (.aload_n 0, 1) := by decide +kernel
theorem dX7_count_187 : decode cX7_count 187 = .ok (.getfield 52, 3) := by decide +kernel
theorem dX7_count_190 : decode cX7_count 190 = .ok (.ireturn, 1) := by decide +kernel
theorem dX7_count_191 : decode cX7_count 191 = .ok (.ldc 63, 2) := by decide +kernel
theorem dX7_count_193 : decode cX7_count 193 = .ok (.ireturn, 1) := by decide +kernel
theorem dX7_readableKites_0 : decode cX7_readableKites 0 = .ok (.aload_n 0, 1) := by decide +kernel
theorem dX7_readableKites_1 : decode cX7_readableKites 1 = .ok (.getfield 33, 3) := by decide +kernel
theorem dX7_readableKites_4 : decode cX7_readableKites 4 = .ok (.aload_n 0, 1) := by decide +kernel
theorem dX7_readableKites_5 : decode cX7_readableKites 5 = .ok (.getfield 10, 3) := by decide +kernel
theorem dX7_readableKites_8 : decode cX7_readableKites 8 = .ok (.invokevirtual 211, 3) := by decide +kernel
theorem dX7_readableKites_11 : decode cX7_readableKites 11 = .ok (.aload_n 0, 1) := by decide +kernel
theorem dX7_readableKites_12 : decode cX7_readableKites 12 = .ok (.getfield 33, 3) := by decide +kernel
theorem dX7_readableKites_15 : decode cX7_readableKites 15 = .ok (.getfield 214, 3) := by decide +kernel
theorem dX7_readableKites_18 : decode cX7_readableKites 18 = .ok (.ireturn, 1) := by decide +kernel
theorem dX7_fewestTrades_0 : decode cX7_fewestTrades 0 = .ok (.aload_n 0, 1) := by decide +kernel
theorem dX7_fewestTrades_1 : decode cX7_fewestTrades 1 = .ok (.getfield 40, 3) := by decide +kernel
theorem dX7_fewestTrades_4 : decode cX7_fewestTrades 4 = .ok (.aload_n 0, 1) := by decide +kernel
theorem dX7_fewestTrades_5 : decode cX7_fewestTrades 5 = .ok (.getfield 10, 3) := by decide +kernel
theorem dX7_fewestTrades_8 : decode cX7_fewestTrades 8 = .ok (.invokevirtual 221, 3) := by decide +kernel
theorem dX7_fewestTrades_11 : decode cX7_fewestTrades 11 = .ok (.aload_n 0, 1) := by decide +kernel
theorem dX7_fewestTrades_12 : decode cX7_fewestTrades 12 = .ok (.getfield 40, 3) := by decide +kernel
theorem dX7_fewestTrades_15 : decode cX7_fewestTrades 15 = .ok (.getfield 224, 3) := by decide +kernel
theorem dX7_fewestTrades_18 : decode cX7_fewestTrades 18 = .ok (.ifCond .eq 13, 3) := by decide +kernel
theorem dX7_fewestTrades_21 : decode cX7_fewestTrades 21 = .ok (.aload_n 0, 1) := by decide +kernel
theorem dX7_fewestTrades_22 : decode cX7_fewestTrades 22 = .ok (.getfield 40, 3) := by decide +kernel
theorem dX7_fewestTrades_25 : decode cX7_fewestTrades 25 = .ok (.getfield 279, 3) := by decide +kernel
theorem dX7_fewestTrades_28 : decode cX7_fewestTrades 28 = .ok (.goto 5, 3) := by decide +kernel
theorem dX7_fewestTrades_31 : decode cX7_fewestTrades 31 = .ok (.ldc 106, 2) := by decide +kernel
theorem dX7_fewestTrades_33 : decode cX7_fewestTrades 33 = .ok (.ireturn, 1) := by decide +kernel
theorem dX7_isSpelled_0 : decode cX7_isSpelled 0 = .ok (.aload_n 0, 1) := by decide +kernel
theorem dX7_isSpelled_1 : decode cX7_isSpelled 1 = .ok (.getfield 33, 3) := by decide +kernel
theorem dX7_isSpelled_4 : decode cX7_isSpelled 4 = .ok (.aload_n 1, 1) := by decide +kernel
theorem dX7_isSpelled_5 : decode cX7_isSpelled 5 = .ok (.invokevirtual 211, 3) := by decide +kernel
theorem dX7_isSpelled_8 : decode cX7_isSpelled 8 = .ok (.aload_n 0, 1) := by decide +kernel
theorem dX7_isSpelled_9 : decode cX7_isSpelled 9 = .ok (.getfield 33, 3) := by decide +kernel
theorem dX7_isSpelled_12 : decode cX7_isSpelled 12 = .ok (.getfield 214, 3) := by decide +kernel
theorem dX7_isSpelled_15 : decode cX7_isSpelled 15 = .ok (.aload_n 1, 1) := by decide +kernel
theorem dX7_isSpelled_16 : decode cX7_isSpelled 16 = .ok (.getfield 64, 3) := by decide +kernel
theorem dX7_isSpelled_19 : decode cX7_isSpelled 19 = .ok (.getfield 82, 3) := by decide +kernel
theorem dX7_isSpelled_22 : decode cX7_isSpelled 22 = .ok (.if_icmp .ne 30, 3) := by decide +kernel
theorem dX7_isSpelled_25 : decode cX7_isSpelled 25 = .ok (.aload_n 0, 1) := by decide +kernel
theorem dX7_isSpelled_26 : decode cX7_isSpelled 26 = .ok (.getfield 33, 3) := by decide +kernel
theorem dX7_isSpelled_29 : decode cX7_isSpelled 29 = .ok (.getfield 214, 3) := by decide +kernel
theorem dX7_isSpelled_32 : decode cX7_isSpelled 32 = .ok (.aload_n 1, 1) := by decide +kernel
theorem dX7_isSpelled_33 : decode cX7_isSpelled 33 = .ok (.getfield 168, 3) := by decide +kernel
theorem dX7_isSpelled_36 : decode cX7_isSpelled 36 = .ok (.getfield 182, 3) := by decide +kernel
theorem dX7_isSpelled_39 : decode cX7_isSpelled 39 = .ok (.if_icmp .ne 13, 3) := by decide +kernel
theorem dX7_isSpelled_42 : decode cX7_isSpelled 42 = .ok (.aload_n 1, 1) := by decide +kernel
theorem dX7_isSpelled_43 : decode cX7_isSpelled 43 = .ok (.getfield 168, 3) := by decide +kernel
theorem dX7_isSpelled_46 : decode cX7_isSpelled 46 = .ok (.getfield 182, 3) := by decide +kernel
theorem dX7_isSpelled_49 : decode cX7_isSpelled 49 = .ok (.ifCond .ne 5, 3) := by decide +kernel
theorem dX7_isSpelled_52 : decode cX7_isSpelled 52 = .ok (.iconst 0, 1) := by decide +kernel
theorem dX7_isSpelled_53 : decode cX7_isSpelled 53 = .ok (.ireturn, 1) := by decide +kernel
theorem dX7_isSpelled_54 : decode cX7_isSpelled 54 = .ok (.iconst 0, 1) := by decide +kernel
theorem dX7_isSpelled_55 : decode cX7_isSpelled 55 = .ok (.istore_n 2, 1) := by decide +kernel
theorem dX7_isSpelled_56 : decode cX7_isSpelled 56 = .ok (.iload_n 2, 1) := by decide +kernel
theorem dX7_isSpelled_57 : decode cX7_isSpelled 57 = .ok (.aload_n 0, 1) := by decide +kernel
theorem dX7_isSpelled_58 : decode cX7_isSpelled 58 = .ok (.getfield 33, 3) := by decide +kernel
theorem dX7_isSpelled_61 : decode cX7_isSpelled 61 = .ok (.getfield 214, 3) := by decide +kernel
theorem dX7_isSpelled_64 : decode cX7_isSpelled 64 = .ok (.if_icmp .ge 40, 3) := by decide +kernel
theorem dX7_isSpelled_67 : decode cX7_isSpelled 67 = .ok (.aload_n 1, 1) := by decide +kernel
theorem dX7_isSpelled_68 : decode cX7_isSpelled 68 = .ok (.getfield 64, 3) := by decide +kernel
theorem dX7_isSpelled_71 : decode cX7_isSpelled 71 = .ok (.getfield 190, 3) := by decide +kernel
theorem dX7_isSpelled_74 : decode cX7_isSpelled 74 = .ok (.aload_n 0, 1) := by decide +kernel
theorem dX7_isSpelled_75 : decode cX7_isSpelled 75 = .ok (.getfield 33, 3) := by decide +kernel
theorem dX7_isSpelled_78 : decode cX7_isSpelled 78 = .ok (.getfield 215, 3) := by decide +kernel
theorem dX7_isSpelled_81 : decode cX7_isSpelled 81 = .ok (.iload_n 2, 1) := by decide +kernel
theorem dX7_isSpelled_82 : decode cX7_isSpelled 82 = .ok (.iaload, 1) := by decide +kernel
theorem dX7_isSpelled_83 : decode cX7_isSpelled 83 = .ok (.iaload, 1) := by decide +kernel
theorem dX7_isSpelled_84 : decode cX7_isSpelled 84 = .ok (.aload_n 1, 1) := by decide +kernel
theorem dX7_isSpelled_85 : decode cX7_isSpelled 85 = .ok (.getfield 168, 3) := by decide +kernel
theorem dX7_isSpelled_88 : decode cX7_isSpelled 88 = .ok (.getfield 282, 3) := by decide +kernel
theorem dX7_isSpelled_91 : decode cX7_isSpelled 91 = .ok (.iload_n 2, 1) := by decide +kernel
theorem dX7_isSpelled_92 : decode cX7_isSpelled 92 = .ok (.caload, 1) := by decide +kernel
theorem dX7_isSpelled_93 : decode cX7_isSpelled 93 = .ok (.if_icmp .eq 5, 3) := by decide +kernel
theorem dX7_isSpelled_96 : decode cX7_isSpelled 96 = .ok (.iconst 0, 1) := by decide +kernel
theorem dX7_isSpelled_97 : decode cX7_isSpelled 97 = .ok (.ireturn, 1) := by decide +kernel
theorem dX7_isSpelled_98 : decode cX7_isSpelled 98 = .ok (.iinc 2 1, 3) := by decide +kernel
theorem dX7_isSpelled_101 : decode cX7_isSpelled 101 = .ok (.goto (-45), 3) := by decide +kernel
theorem dX7_isSpelled_104 : decode cX7_isSpelled 104 = .ok (.iconst 1, 1) := by decide +kernel
theorem dX7_isSpelled_105 : decode cX7_isSpelled 105 = .ok (.ireturn, 1) := by decide +kernel
theorem dX7_nextPlace_0 : decode cX7_nextPlace 0 = .ok (.aload_n 0, 1) := by decide +kernel
theorem dX7_nextPlace_1 : decode cX7_nextPlace 1 = .ok (.getfield 40, 3) := by decide +kernel
theorem dX7_nextPlace_4 : decode cX7_nextPlace 4 = .ok (.aload_n 1, 1) := by decide +kernel
theorem dX7_nextPlace_5 : decode cX7_nextPlace 5 = .ok (.invokevirtual 221, 3) := by decide +kernel
theorem dX7_nextPlace_8 : decode cX7_nextPlace 8 = .ok (.aload_n 0, 1) := by decide +kernel
theorem dX7_nextPlace_9 : decode cX7_nextPlace 9 = .ok (.getfield 40, 3) := by decide +kernel
theorem dX7_nextPlace_12 : decode cX7_nextPlace 12 = .ok (.getfield 224, 3) := by decide +kernel
theorem dX7_nextPlace_15 : decode cX7_nextPlace 15 = .ok (.ifCond .ne 5, 3) := by decide +kernel
theorem dX7_nextPlace_18 : decode cX7_nextPlace 18 = .ok (.iconst (-1), 1) := by decide +kernel
theorem dX7_nextPlace_19 : decode cX7_nextPlace 19 = .ok (.ireturn, 1) := by decide +kernel
theorem dX7_nextPlace_20 : decode cX7_nextPlace 20 = .ok (.iconst 0, 1) := by decide +kernel
theorem dX7_nextPlace_21 : decode cX7_nextPlace 21 = .ok (.istore_n 2, 1) := by decide +kernel
theorem dX7_nextPlace_22 : decode cX7_nextPlace 22 = .ok (.iload_n 2, 1) := by decide +kernel
theorem dX7_nextPlace_23 : decode cX7_nextPlace 23 = .ok (.aload_n 1, 1) := by decide +kernel
theorem dX7_nextPlace_24 : decode cX7_nextPlace 24 = .ok (.getfield 64, 3) := by decide +kernel
theorem dX7_nextPlace_27 : decode cX7_nextPlace 27 = .ok (.getfield 82, 3) := by decide +kernel
theorem dX7_nextPlace_30 : decode cX7_nextPlace 30 = .ok (.iconst 1, 1) := by decide +kernel
theorem dX7_nextPlace_31 : decode cX7_nextPlace 31 = .ok (.isub, 1) := by decide +kernel
theorem dX7_nextPlace_32 : decode cX7_nextPlace 32 = .ok (.if_icmp .ge 30, 3) := by decide +kernel
theorem dX7_nextPlace_35 : decode cX7_nextPlace 35 = .ok (.aload_n 0, 1) := by decide +kernel
theorem dX7_nextPlace_36 : decode cX7_nextPlace 36 = .ok (.getfield 40, 3) := by decide +kernel
theorem dX7_nextPlace_39 : decode cX7_nextPlace 39 = .ok (.iload_n 2, 1) := by decide +kernel
theorem dX7_nextPlace_40 : decode cX7_nextPlace 40 = .ok (.invokevirtual 227, 3) := by decide +kernel
theorem dX7_nextPlace_43 : decode cX7_nextPlace 43 = .ok (.ifCond .eq 13, 3) := by decide +kernel
theorem dX7_nextPlace_46 : decode cX7_nextPlace 46 = .ok (.aload_n 1, 1) := by decide +kernel
theorem dX7_nextPlace_47 : decode cX7_nextPlace 47 = .ok (.iload_n 2, 1) := by decide +kernel
theorem dX7_nextPlace_48 : decode cX7_nextPlace 48 = .ok (.invokevirtual 218, 3) := by decide +kernel
theorem dX7_nextPlace_51 : decode cX7_nextPlace 51 = .ok (.ifCond .eq 5, 3) := by decide +kernel
theorem dX7_nextPlace_54 : decode cX7_nextPlace 54 = .ok (.iload_n 2, 1) := by decide +kernel
theorem dX7_nextPlace_55 : decode cX7_nextPlace 55 = .ok (.ireturn, 1) := by decide +kernel
theorem dX7_nextPlace_56 : decode cX7_nextPlace 56 = .ok (.iinc 2 1, 3) := by decide +kernel
theorem dX7_nextPlace_59 : decode cX7_nextPlace 59 = .ok (.goto (-37), 3) := by decide +kernel
theorem dX7_nextPlace_62 : decode cX7_nextPlace 62 = .ok (.iconst (-1), 1) := by decide +kernel
theorem dX7_nextPlace_63 : decode cX7_nextPlace 63 = .ok (.ireturn, 1) := by decide +kernel
theorem dX7_record_0 : decode cX7_record 0 = .ok (.aload_n 0, 1) := by decide +kernel
theorem dX7_record_1 : decode cX7_record 1 = .ok (.getfield 48, 3) := by decide +kernel
theorem dX7_record_4 : decode cX7_record 4 = .ok (.iconst 4, 1) := by decide +kernel
theorem dX7_record_5 : decode cX7_record 5 = .ok (.if_icmp .lt 7, 3) := by decide +kernel
theorem dX7_record_8 : decode cX7_record 8 = .ok (.aload_n 0, 1) := by decide +kernel
theorem dX7_record_9 : decode cX7_record 9 = .ok (.invokevirtual 285, 3) := by decide +kernel
theorem dX7_record_12 : decode cX7_record 12 = .ok (.aload_n 0, 1) := by decide +kernel
theorem dX7_record_13 : decode cX7_record 13 = .ok (.getfield 22, 3) := by decide +kernel
theorem dX7_record_16 : decode cX7_record 16 = .ok (.aload_n 0, 1) := by decide +kernel
theorem dX7_record_17 : decode cX7_record 17 = .ok (.getfield 48, 3) := by decide +kernel
theorem dX7_record_20 : decode cX7_record 20 = .ok (.aaload, 1) := by decide +kernel
theorem dX7_record_21 : decode cX7_record 21 = .ok (.aload_n 0, 1) := by decide +kernel
theorem dX7_record_22 : decode cX7_record 22 = .ok (.getfield 10, 3) := by decide +kernel
theorem dX7_record_25 : decode cX7_record 25 = .ok (.invokevirtual 183, 3) := by decide +kernel
theorem dX7_record_28 : decode cX7_record 28 = .ok (.aload_n 0, 1) := by decide +kernel
theorem dX7_record_29 : decode cX7_record 29 = .ok (.dup, 1) := by decide +kernel
theorem dX7_record_30 : decode cX7_record 30 = .ok (.getfield 48, 3) := by decide +kernel
theorem dX7_record_33 : decode cX7_record 33 = .ok (.iconst 1, 1) := by decide +kernel
theorem dX7_record_34 : decode cX7_record 34 = .ok (.iadd, 1) := by decide +kernel
theorem dX7_record_35 : decode cX7_record 35 = .ok (.putfield 48, 3) := by decide +kernel
theorem dX7_record_38 : decode cX7_record 38 = .ok (.return_, 1) := by decide +kernel
theorem dX7_dropOldest_0 : decode cX7_dropOldest 0 = .ok (.aload_n 0, 1) := by decide +kernel
theorem dX7_dropOldest_1 : decode cX7_dropOldest 1 = .ok (.getfield 22, 3) := by decide +kernel
theorem dX7_dropOldest_4 : decode cX7_dropOldest 4 = .ok (.iconst 0, 1) := by decide +kernel
theorem dX7_dropOldest_5 : decode cX7_dropOldest 5 = .ok (.aaload, 1) := by decide +kernel
theorem dX7_dropOldest_6 : decode cX7_dropOldest 6 = .ok (.astore_n 1, 1) := by decide +kernel
theorem dX7_dropOldest_7 : decode cX7_dropOldest 7 = .ok (.iconst 1, 1) := by decide +kernel
theorem dX7_dropOldest_8 : decode cX7_dropOldest 8 = .ok (.istore_n 2, 1) := by decide +kernel
theorem dX7_dropOldest_9 : decode cX7_dropOldest 9 = .ok (.iload_n 2, 1) := by decide +kernel
theorem dX7_dropOldest_10 : decode cX7_dropOldest 10 = .ok (.iconst 4, 1) := by decide +kernel
theorem dX7_dropOldest_11 : decode cX7_dropOldest 11 = .ok (.if_icmp .ge 23, 3) := by decide +kernel
theorem dX7_dropOldest_14 : decode cX7_dropOldest 14 = .ok (.aload_n 0, 1) := by decide +kernel
theorem dX7_dropOldest_15 : decode cX7_dropOldest 15 = .ok (.getfield 22, 3) := by decide +kernel
theorem dX7_dropOldest_18 : decode cX7_dropOldest 18 = .ok (.iload_n 2, 1) := by decide +kernel
theorem dX7_dropOldest_19 : decode cX7_dropOldest 19 = .ok (.iconst 1, 1) := by decide +kernel
theorem dX7_dropOldest_20 : decode cX7_dropOldest 20 = .ok (.isub, 1) := by decide +kernel
theorem dX7_dropOldest_21 : decode cX7_dropOldest 21 = .ok (.aload_n 0, 1) := by decide +kernel
theorem dX7_dropOldest_22 : decode cX7_dropOldest 22 = .ok (.getfield 22, 3) := by decide +kernel
theorem dX7_dropOldest_25 : decode cX7_dropOldest 25 = .ok (.iload_n 2, 1) := by decide +kernel
theorem dX7_dropOldest_26 : decode cX7_dropOldest 26 = .ok (.aaload, 1) := by decide +kernel
theorem dX7_dropOldest_27 : decode cX7_dropOldest 27 = .ok (.aastore, 1) := by decide +kernel
theorem dX7_dropOldest_28 : decode cX7_dropOldest 28 = .ok (.iinc 2 1, 3) := by decide +kernel
theorem dX7_dropOldest_31 : decode cX7_dropOldest 31 = .ok (.goto (-22), 3) := by decide +kernel
theorem dX7_dropOldest_34 : decode cX7_dropOldest 34 = .ok (.aload_n 0, 1) := by decide +kernel
theorem dX7_dropOldest_35 : decode cX7_dropOldest 35 = .ok (.getfield 22, 3) := by decide +kernel
theorem dX7_dropOldest_38 : decode cX7_dropOldest 38 = .ok (.iconst 3, 1) := by decide +kernel
theorem dX7_dropOldest_39 : decode cX7_dropOldest 39 = .ok (.aload_n 1, 1) := by decide +kernel
theorem dX7_dropOldest_40 : decode cX7_dropOldest 40 = .ok (.aastore, 1) := by decide +kernel
theorem dX7_dropOldest_41 : decode cX7_dropOldest 41 = .ok (.aload_n 0, 1) := by decide +kernel
theorem dX7_dropOldest_42 : decode cX7_dropOldest 42 = .ok (.iconst 3, 1) := by decide +kernel
theorem dX7_dropOldest_43 : decode cX7_dropOldest 43 = .ok (.putfield 48, 3) := by decide +kernel
theorem dX7_dropOldest_46 : decode cX7_dropOldest 46 = .ok (.return_, 1) := by decide +kernel
theorem dX7_rowFault_0 : decode cX7_rowFault 0 = .ok (.iconst 0, 1) := by decide +kernel
theorem dX7_rowFault_1 : decode cX7_rowFault 1 = .ok (.istore_n 1, 1) := by decide +kernel
theorem dX7_rowFault_2 : decode cX7_rowFault 2 = .ok (.iload_n 1, 1) := by decide +kernel
theorem dX7_rowFault_3 : decode cX7_rowFault 3 = .ok (.aload_n 0, 1) := by decide +kernel
theorem dX7_rowFault_4 : decode cX7_rowFault 4 = .ok (.getfield 52, 3) := by decide +kernel
theorem dX7_rowFault_7 : decode cX7_rowFault 7 = .ok (.if_icmp .ge 26, 3) := by decide +kernel
theorem dX7_rowFault_10 : decode cX7_rowFault 10 = .ok (.aload_n 0, 1) := by decide +kernel
theorem dX7_rowFault_11 : decode cX7_rowFault 11 = .ok (.getfield 26, 3) := by decide +kernel
theorem dX7_rowFault_14 : decode cX7_rowFault 14 = .ok (.iload_n 1, 1) := by decide +kernel
theorem dX7_rowFault_15 : decode cX7_rowFault 15 = .ok (.caload, 1) := by decide +kernel
theorem dX7_rowFault_16 : decode cX7_rowFault 16 = .ok (.iload_n 1, 1) := by decide +kernel
theorem dX7_rowFault_17 : decode cX7_rowFault 17 = .ok (.iconst 3, 1) := by decide +kernel
theorem dX7_rowFault_18 : decode cX7_rowFault 18 = .ok (.irem, 1) := by decide +kernel
theorem dX7_rowFault_19 : decode cX7_rowFault 19 = .ok (.invokestatic 288, 3) := by decide +kernel
theorem dX7_rowFault_22 : decode cX7_rowFault 22 = .ok (.ifCond .ne 5, 3) := by decide +kernel
theorem dX7_rowFault_25 : decode cX7_rowFault 25 = .ok (.iload_n 1, 1) := by decide +kernel
theorem dX7_rowFault_26 : decode cX7_rowFault 26 = .ok (.ireturn, 1) := by decide +kernel
theorem dX7_rowFault_27 : decode cX7_rowFault 27 = .ok (.iinc 1 1, 3) := by decide +kernel
theorem dX7_rowFault_30 : decode cX7_rowFault 30 = .ok (.goto (-28), 3) := by decide +kernel
theorem dX7_rowFault_33 : decode cX7_rowFault 33 = .ok (.aload_n 0, 1) := by decide +kernel
theorem dX7_rowFault_34 : decode cX7_rowFault 34 = .ok (.getfield 52, 3) := by decide +kernel
theorem dX7_rowFault_37 : decode cX7_rowFault 37 = .ok (.iconst 3, 1) := by decide +kernel
theorem dX7_rowFault_38 : decode cX7_rowFault 38 = .ok (.irem, 1) := by decide +kernel
theorem dX7_rowFault_39 : decode cX7_rowFault 39 = .ok (.iconst 2, 1) := by decide +kernel
theorem dX7_rowFault_40 : decode cX7_rowFault 40 = .ok (.if_icmp .ne 7, 3) := by decide +kernel
theorem dX7_rowFault_43 : decode cX7_rowFault 43 = .ok (.iconst (-1), 1) := by decide +kernel
theorem dX7_rowFault_44 : decode cX7_rowFault 44 = .ok (.goto 7, 3) := by decide +kernel
theorem dX7_rowFault_47 : decode cX7_rowFault 47 = .ok (.aload_n 0, 1) := by decide +kernel
theorem dX7_rowFault_48 : decode cX7_rowFault 48 = .ok (.getfield 52, 3) := by decide +kernel
theorem dX7_rowFault_51 : decode cX7_rowFault 51 = .ok (.ireturn, 1) := by decide +kernel
theorem dX7_isAllowedInRow_0 : decode cX7_isAllowedInRow 0 = .ok (.iload_n 1, 1) := by decide +kernel
theorem dX7_isAllowedInRow_1 : decode cX7_isAllowedInRow 1 = .ok (.lookupswitch 50 #[(0, 27), (1, 32)], 27) := by decide +kernel
theorem dX7_isAllowedInRow_28 : decode cX7_isAllowedInRow 28 = .ok (.iload_n 0, 1) := by decide +kernel
theorem dX7_isAllowedInRow_29 : decode cX7_isAllowedInRow 29 = .ok (.invokestatic 55, 3) := by decide +kernel
theorem dX7_isAllowedInRow_32 : decode cX7_isAllowedInRow 32 = .ok (.ireturn, 1) := by decide +kernel
theorem dX7_isAllowedInRow_33 : decode cX7_isAllowedInRow 33 = .ok (.iload_n 0, 1) := by decide +kernel
theorem dX7_isAllowedInRow_34 : decode cX7_isAllowedInRow 34 = .ok (.bipush 49, 2) := by decide +kernel
theorem dX7_isAllowedInRow_36 : decode cX7_isAllowedInRow 36 = .ok (.if_icmp .lt 13, 3) := by decide +kernel
theorem dX7_isAllowedInRow_39 : decode cX7_isAllowedInRow 39 = .ok (.iload_n 0, 1) := by decide +kernel
theorem dX7_isAllowedInRow_40 : decode cX7_isAllowedInRow 40 = .ok (.bipush 57, 2) := by decide +kernel
theorem dX7_isAllowedInRow_42 : decode cX7_isAllowedInRow 42 = .ok (.if_icmp .gt 7, 3) := by decide +kernel
theorem dX7_isAllowedInRow_45 : decode cX7_isAllowedInRow 45 = .ok (.iconst 1, 1) := by decide +kernel
theorem dX7_isAllowedInRow_46 : decode cX7_isAllowedInRow 46 = .ok (.goto 4, 3) := by decide +kernel
theorem dX7_isAllowedInRow_49 : decode cX7_isAllowedInRow 49 = .ok (.iconst 0, 1) := by decide +kernel
theorem dX7_isAllowedInRow_50 : decode cX7_isAllowedInRow 50 = .ok (.ireturn, 1) := by decide +kernel
theorem dX7_isAllowedInRow_51 : decode cX7_isAllowedInRow 51 = .ok (.iload_n 0, 1) := by decide +kernel
theorem dX7_isAllowedInRow_52 : decode cX7_isAllowedInRow 52 = .ok (.bipush 44, 2) := by decide +kernel
theorem dX7_isAllowedInRow_54 : decode cX7_isAllowedInRow 54 = .ok (.if_icmp .ne 7, 3) := by decide +kernel
theorem dX7_isAllowedInRow_57 : decode cX7_isAllowedInRow 57 = .ok (.iconst 1, 1) := by decide +kernel
theorem dX7_isAllowedInRow_58 : decode cX7_isAllowedInRow 58 = .ok (.goto 4, 3) := by decide +kernel
theorem dX7_isAllowedInRow_61 : decode cX7_isAllowedInRow 61 = .ok (.iconst 0, 1) := by decide +kernel
theorem dX7_isAllowedInRow_62 : decode cX7_isAllowedInRow 62 = .ok (.ireturn, 1) := by decide +kernel
theorem dX7_wordFault_0 : decode cX7_wordFault 0 = .ok (.iconst 0, 1) := by decide +kernel
theorem dX7_wordFault_1 : decode cX7_wordFault 1 = .ok (.istore_n 1, 1) := by decide +kernel
theorem dX7_wordFault_2 : decode cX7_wordFault 2 = .ok (.iload_n 1, 1) := by decide +kernel
theorem dX7_wordFault_3 : decode cX7_wordFault 3 = .ok (.aload_n 0, 1) := by decide +kernel
theorem dX7_wordFault_4 : decode cX7_wordFault 4 = .ok (.getfield 52, 3) := by decide +kernel
theorem dX7_wordFault_7 : decode cX7_wordFault 7 = .ok (.if_icmp .ge 29, 3) := by decide +kernel
theorem dX7_wordFault_10 : decode cX7_wordFault 10 = .ok (.iload_n 1, 1) := by decide +kernel
theorem dX7_wordFault_11 : decode cX7_wordFault 11 = .ok (.bipush 12, 2) := by decide +kernel
theorem dX7_wordFault_13 : decode cX7_wordFault 13 = .ok (.if_icmp .ge 15, 3) := by decide +kernel
theorem dX7_wordFault_16 : decode cX7_wordFault 16 = .ok (.aload_n 0, 1) := by decide +kernel
theorem dX7_wordFault_17 : decode cX7_wordFault 17 = .ok (.getfield 26, 3) := by decide +kernel
theorem dX7_wordFault_20 : decode cX7_wordFault 20 = .ok (.iload_n 1, 1) := by decide +kernel
theorem dX7_wordFault_21 : decode cX7_wordFault 21 = .ok (.caload, 1) := by decide +kernel
theorem dX7_wordFault_22 : decode cX7_wordFault 22 = .ok (.invokestatic 55, 3) := by decide +kernel
theorem dX7_wordFault_25 : decode cX7_wordFault 25 = .ok (.ifCond .ne 5, 3) := by decide +kernel
theorem dX7_wordFault_28 : decode cX7_wordFault 28 = .ok (.iload_n 1, 1) := by decide +kernel
theorem dX7_wordFault_29 : decode cX7_wordFault 29 = .ok (.ireturn, 1) := by decide +kernel
theorem dX7_wordFault_30 : decode cX7_wordFault 30 = .ok (.iinc 1 1, 3) := by decide +kernel
theorem dX7_wordFault_33 : decode cX7_wordFault 33 = .ok (.goto (-31), 3) := by decide +kernel
theorem dX7_wordFault_36 : decode cX7_wordFault 36 = .ok (.aload_n 0, 1) := by decide +kernel
theorem dX7_wordFault_37 : decode cX7_wordFault 37 = .ok (.getfield 52, 3) := by decide +kernel
theorem dX7_wordFault_40 : decode cX7_wordFault 40 = .ok (.ifCond .le 7, 3) := by decide +kernel
theorem dX7_wordFault_43 : decode cX7_wordFault 43 = .ok (.iconst (-1), 1) := by decide +kernel
theorem dX7_wordFault_44 : decode cX7_wordFault 44 = .ok (.goto 4, 3) := by decide +kernel
theorem dX7_wordFault_47 : decode cX7_wordFault 47 = .ok (.iconst 0, 1) := by decide +kernel
theorem dX7_wordFault_48 : decode cX7_wordFault 48 = .ok (.ireturn, 1) := by decide +kernel
theorem dX7_isLetter_0 : decode cX7_isLetter 0 = .ok (.iload_n 0, 1) := by decide +kernel
theorem dX7_isLetter_1 : decode cX7_isLetter 1 = .ok (.bipush 97, 2) := by decide +kernel
theorem dX7_isLetter_3 : decode cX7_isLetter 3 = .ok (.if_icmp .lt 13, 3) := by decide +kernel
theorem dX7_isLetter_6 : decode cX7_isLetter 6 = .ok (.iload_n 0, 1) := by decide +kernel
theorem dX7_isLetter_7 : decode cX7_isLetter 7 = .ok (.bipush 122, 2) := by decide +kernel
theorem dX7_isLetter_9 : decode cX7_isLetter 9 = .ok (.if_icmp .gt 7, 3) := by decide +kernel
theorem dX7_isLetter_12 : decode cX7_isLetter 12 = .ok (.iconst 1, 1) := by decide +kernel
theorem dX7_isLetter_13 : decode cX7_isLetter 13 = .ok (.goto 4, 3) := by decide +kernel
theorem dX7_isLetter_16 : decode cX7_isLetter 16 = .ok (.iconst 0, 1) := by decide +kernel
theorem dX7_isLetter_17 : decode cX7_isLetter 17 = .ok (.ireturn, 1) := by decide +kernel
theorem dX7_isWind_0 : decode cX7_isWind 0 = .ok (.iload_n 0, 1) := by decide +kernel
theorem dX7_isWind_1 : decode cX7_isWind 1 = .ok (.iconst 0, 1) := by decide +kernel
theorem dX7_isWind_2 : decode cX7_isWind 2 = .ok (.iconst 3, 1) := by decide +kernel
theorem dX7_isWind_3 : decode cX7_isWind 3 = .ok (.invokestatic 59, 3) := by decide +kernel
theorem dX7_isWind_6 : decode cX7_isWind 6 = .ok (.ifCond .eq 16, 3) := by decide +kernel
theorem dX7_isWind_9 : decode cX7_isWind 9 = .ok (.iload_n 1, 1) := by decide +kernel
theorem dX7_isWind_10 : decode cX7_isWind 10 = .ok (.iconst 0, 1) := by decide +kernel
theorem dX7_isWind_11 : decode cX7_isWind 11 = .ok (.iconst 5, 1) := by decide +kernel
theorem dX7_isWind_12 : decode cX7_isWind 12 = .ok (.invokestatic 59, 3) := by decide +kernel
theorem dX7_isWind_15 : decode cX7_isWind 15 = .ok (.ifCond .eq 7, 3) := by decide +kernel
theorem dX7_isWind_18 : decode cX7_isWind 18 = .ok (.iconst 1, 1) := by decide +kernel
theorem dX7_isWind_19 : decode cX7_isWind 19 = .ok (.goto 4, 3) := by decide +kernel
theorem dX7_isWind_22 : decode cX7_isWind 22 = .ok (.iconst 0, 1) := by decide +kernel
theorem dX7_isWind_23 : decode cX7_isWind 23 = .ok (.ireturn, 1) := by decide +kernel
theorem dX7_isWithin_0 : decode cX7_isWithin 0 = .ok (.iload_n 0, 1) := by decide +kernel
theorem dX7_isWithin_1 : decode cX7_isWithin 1 = .ok (.iload_n 1, 1) := by decide +kernel
theorem dX7_isWithin_2 : decode cX7_isWithin 2 = .ok (.if_icmp .lt 12, 3) := by decide +kernel
theorem dX7_isWithin_5 : decode cX7_isWithin 5 = .ok (.iload_n 0, 1) := by decide +kernel
theorem dX7_isWithin_6 : decode cX7_isWithin 6 = .ok (.iload_n 2, 1) := by decide +kernel
theorem dX7_isWithin_7 : decode cX7_isWithin 7 = .ok (.if_icmp .gt 7, 3) := by decide +kernel
theorem dX7_isWithin_10 : decode cX7_isWithin 10 = .ok (.iconst 1, 1) := by decide +kernel
theorem dX7_isWithin_11 : decode cX7_isWithin 11 = .ok (.goto 4, 3) := by decide +kernel
theorem dX7_isWithin_14 : decode cX7_isWithin 14 = .ok (.iconst 0, 1) := by decide +kernel
theorem dX7_isWithin_15 : decode cX7_isWithin 15 = .ok (.ireturn, 1) := by decide +kernel
theorem dX7_asNumber_0 : decode cX7_asNumber 0 = .ok (.iload_n 0, 1) := by decide +kernel
theorem dX7_asNumber_1 : decode cX7_asNumber 1 = .ok (.ifCond .eq 7, 3) := by decide +kernel
theorem dX7_asNumber_4 : decode cX7_asNumber 4 = .ok (.iconst 1, 1) := by decide +kernel
theorem dX7_asNumber_5 : decode cX7_asNumber 5 = .ok (.goto 4, 3) := by decide +kernel
theorem dX7_asNumber_8 : decode cX7_asNumber 8 = .ok (.iconst 0, 1) := by decide +kernel
theorem dX7_asNumber_9 : decode cX7_asNumber 9 = .ok (.ireturn, 1) := by decide +kernel
theorem dX7_sideOf_0 : decode cX7_sideOf 0 = .ok (.iload_n 0, 1) := by decide +kernel
theorem dX7_sideOf_1 : decode cX7_sideOf 1 = .ok (.iload_n 1, 1) := by decide +kernel
theorem dX7_sideOf_2 : decode cX7_sideOf 2 = .ok (.if_icmp .ne 5, 3) := by decide +kernel
theorem dX7_sideOf_5 : decode cX7_sideOf 5 = .ok (.iconst 0, 1) := by decide +kernel
theorem dX7_sideOf_6 : decode cX7_sideOf 6 = .ok (.ireturn, 1) := by decide +kernel
theorem dX7_sideOf_7 : decode cX7_sideOf 7 = .ok (.iload_n 0, 1) := by decide +kernel
theorem dX7_sideOf_8 : decode cX7_sideOf 8 = .ok (.iload_n 1, 1) := by decide +kernel
theorem dX7_sideOf_9 : decode cX7_sideOf 9 = .ok (.if_icmp .ge 7, 3) := by decide +kernel
theorem dX7_sideOf_12 : decode cX7_sideOf 12 = .ok (.iconst (-1), 1) := by decide +kernel
theorem dX7_sideOf_13 : decode cX7_sideOf 13 = .ok (.goto 4, 3) := by decide +kernel
theorem dX7_sideOf_16 : decode cX7_sideOf 16 = .ok (.iconst 1, 1) := by decide +kernel
theorem dX7_sideOf_17 : decode cX7_sideOf 17 = .ok (.ireturn, 1) := by decide +kernel
theorem dX8_init_0 : decode cX8_init 0 = .ok (.aload_n 0, 1) := by decide +kernel
theorem dX8_init_1 : decode cX8_init 1 = .ok (.invokespecial 1, 3) := by decide +kernel
theorem dX8_init_4 : decode cX8_init 4 = .ok (.aload_n 0, 1) := by decide +kernel
theorem dX8_init_5 : decode cX8_init 5 = .ok (.sipush 152, 3) := by decide +kernel
theorem dX8_init_8 : decode cX8_init 8 = .ok (.newarray .int, 2) := by decide +kernel
theorem dX8_init_10 : decode cX8_init 10 = .ok (.putfield 7, 3) := by decide +kernel
theorem dX8_init_13 : decode cX8_init 13 = .ok (.aload_n 0, 1) := by decide +kernel
theorem dX8_init_14 : decode cX8_init 14 = .ok (.sipush 152, 3) := by decide +kernel
theorem dX8_init_17 : decode cX8_init 17 = .ok (.newarray .int, 2) := by decide +kernel
theorem dX8_init_19 : decode cX8_init 19 = .ok (.putfield 13, 3) := by decide +kernel
theorem dX8_init_22 : decode cX8_init 22 = .ok (.aload_n 0, 1) := by decide +kernel
theorem dX8_init_23 : decode cX8_init 23 = .ok (.sipush 608, 3) := by decide +kernel
theorem dX8_init_26 : decode cX8_init 26 = .ok (.newarray .int, 2) := by decide +kernel
theorem dX8_init_28 : decode cX8_init 28 = .ok (.putfield 16, 3) := by decide +kernel
theorem dX8_init_31 : decode cX8_init 31 = .ok (.aload_n 0, 1) := by decide +kernel
theorem dX8_init_32 : decode cX8_init 32 = .ok (.sipush 152, 3) := by decide +kernel
theorem dX8_init_35 : decode cX8_init 35 = .ok (.newarray .int, 2) := by decide +kernel
theorem dX8_init_37 : decode cX8_init 37 = .ok (.putfield 19, 3) := by decide +kernel
theorem dX8_init_40 : decode cX8_init 40 = .ok (.aload_n 0, 1) := by decide +kernel
theorem dX8_init_41 : decode cX8_init 41 = .ok (.bipush 60, 2) := by decide +kernel
theorem dX8_init_43 : decode cX8_init 43 = .ok (.newarray .char, 2) := by decide +kernel
theorem dX8_init_45 : decode cX8_init 45 = .ok (.putfield 22, 3) := by decide +kernel
theorem dX8_init_48 : decode cX8_init 48 = .ok (.aload_n 0, 1) := by decide +kernel
theorem dX8_init_49 : decode cX8_init 49 = .ok (.bipush 12, 2) := by decide +kernel
theorem dX8_init_51 : decode cX8_init 51 = .ok (.newarray .boolean, 2) := by decide +kernel
theorem dX8_init_53 : decode cX8_init 53 = .ok (.putfield 26, 3) := by decide +kernel
theorem dX8_init_56 : decode cX8_init 56 = .ok (.aload_n 0, 1) := by decide +kernel
theorem dX8_init_57 : decode cX8_init 57 = .ok (.bipush 12, 2) := by decide +kernel
theorem dX8_init_59 : decode cX8_init 59 = .ok (.newarray .int, 2) := by decide +kernel
theorem dX8_init_61 : decode cX8_init 61 = .ok (.putfield 30, 3) := by decide +kernel
theorem dX8_init_64 : decode cX8_init 64 = .ok (.aload_n 0, 1) := by decide +kernel
theorem dX8_init_65 : decode cX8_init 65 = .ok (.bipush 12, 2) := by decide +kernel
theorem dX8_init_67 : decode cX8_init 67 = .ok (.newarray .int, 2) := by decide +kernel
theorem dX8_init_69 : decode cX8_init 69 = .ok (.putfield 33, 3) := by decide +kernel
theorem dX8_init_72 : decode cX8_init 72 = .ok (.aload_n 0, 1) := by decide +kernel
theorem dX8_init_73 : decode cX8_init 73 = .ok (.sipush 152, 3) := by decide +kernel
theorem dX8_init_76 : decode cX8_init 76 = .ok (.newarray .int, 2) := by decide +kernel
theorem dX8_init_78 : decode cX8_init 78 = .ok (.putfield 36, 3) := by decide +kernel
theorem dX8_init_81 : decode cX8_init 81 = .ok (.aload_n 0, 1) := by decide +kernel
theorem dX8_init_82 : decode cX8_init 82 = .ok (.getfield 7, 3) := by decide +kernel
theorem dX8_init_85 : decode cX8_init 85 = .ok (.iconst 3, 1) := by decide +kernel
theorem dX8_init_86 : decode cX8_init 86 = .ok (.iconst 1, 1) := by decide +kernel
theorem dX8_init_87 : decode cX8_init 87 = .ok (.iastore, 1) := by decide +kernel
theorem dX8_init_88 : decode cX8_init 88 = .ok (.aload_n 0, 1) := by decide +kernel
theorem dX8_init_89 : decode cX8_init 89 = .ok (.getfield 7, 3) := by decide +kernel
theorem dX8_init_92 : decode cX8_init 92 = .ok (.iconst 5, 1) := by decide +kernel
theorem dX8_init_93 : decode cX8_init 93 = .ok (.iconst 3, 1) := by decide +kernel
theorem dX8_init_94 : decode cX8_init 94 = .ok (.iastore, 1) := by decide +kernel
theorem dX8_init_95 : decode cX8_init 95 = .ok (.return_, 1) := by decide +kernel
theorem dX8_in_0 : decode cX8_in 0 = .ok (.iload_n 0, 1) := by decide +kernel
theorem dX8_in_1 : decode cX8_in 1 = .ok (.iload_n 1, 1) := by decide +kernel
theorem dX8_in_2 : decode cX8_in 2 = .ok (.if_icmp .lt 12, 3) := by decide +kernel
theorem dX8_in_5 : decode cX8_in 5 = .ok (.iload_n 0, 1) := by decide +kernel
theorem dX8_in_6 : decode cX8_in 6 = .ok (.iload_n 2, 1) := by decide +kernel
theorem dX8_in_7 : decode cX8_in 7 = .ok (.if_icmp .gt 7, 3) := by decide +kernel
theorem dX8_in_10 : decode cX8_in 10 = .ok (.iconst 1, 1) := by decide +kernel
theorem dX8_in_11 : decode cX8_in 11 = .ok (.goto 4, 3) := by decide +kernel
theorem dX8_in_14 : decode cX8_in 14 = .ok (.iconst 0, 1) := by decide +kernel
theorem dX8_in_15 : decode cX8_in 15 = .ok (.ireturn, 1) := by decide +kernel
theorem dX8_lays_0 : decode cX8_lays 0 = .ok (.iconst 0, 1) := by decide +kernel
theorem dX8_lays_1 : decode cX8_lays 1 = .ok (.istore 4, 2) := by decide +kernel
theorem dX8_lays_3 : decode cX8_lays 3 = .ok (.iload 4, 2) := by decide +kernel
theorem dX8_lays_5 : decode cX8_lays 5 = .ok (.sipush 152, 3) := by decide +kernel
theorem dX8_lays_8 : decode cX8_lays 8 = .ok (.if_icmp .ge 21, 3) := by decide +kernel
theorem dX8_lays_11 : decode cX8_lays 11 = .ok (.aload_n 2, 1) := by decide +kernel
theorem dX8_lays_12 : decode cX8_lays 12 = .ok (.iload_n 3, 1) := by decide +kernel
theorem dX8_lays_13 : decode cX8_lays 13 = .ok (.iload 4, 2) := by decide +kernel
theorem dX8_lays_15 : decode cX8_lays 15 = .ok (.iadd, 1) := by decide +kernel
theorem dX8_lays_16 : decode cX8_lays 16 = .ok (.aload_n 0, 1) := by decide +kernel
theorem dX8_lays_17 : decode cX8_lays 17 = .ok (.iload_n 1, 1) := by decide +kernel
theorem dX8_lays_18 : decode cX8_lays 18 = .ok (.iload 4, 2) := by decide +kernel
theorem dX8_lays_20 : decode cX8_lays 20 = .ok (.iadd, 1) := by decide +kernel
theorem dX8_lays_21 : decode cX8_lays 21 = .ok (.iaload, 1) := by decide +kernel
theorem dX8_lays_22 : decode cX8_lays 22 = .ok (.iastore, 1) := by decide +kernel
theorem dX8_lays_23 : decode cX8_lays 23 = .ok (.iinc 4 1, 3) := by decide +kernel
theorem dX8_lays_26 : decode cX8_lays 26 = .ok (.goto (-23), 3) := by decide +kernel
theorem dX8_lays_29 : decode cX8_lays 29 = .ok (.return_, 1) := by decide +kernel
theorem dX8_records_0 : decode cX8_records 0 = .ok (.aload_n 0, 1) := by decide +kernel
theorem dX8_records_1 : decode cX8_records 1 = .ok (.getfield 39, 3) := by decide +kernel
theorem dX8_records_4 : decode cX8_records 4 = .ok (.iconst 4, 1) := by decide +kernel
theorem dX8_records_5 : decode cX8_records 5 = .ok (.if_icmp .ne 44, 3) := by decide +kernel
theorem dX8_records_8 : decode cX8_records 8 = .ok (.iconst 0, 1) := by decide +kernel
theorem dX8_records_9 : decode cX8_records 9 = .ok (.istore_n 1, 1) := by decide +kernel
theorem dX8_records_10 : decode cX8_records 10 = .ok (.iload_n 1, 1) := by decide +kernel
theorem dX8_records_11 : decode cX8_records 11 = .ok (.sipush 456, 3) := by decide +kernel
theorem dX8_records_14 : decode cX8_records 14 = .ok (.if_icmp .ge 25, 3) := by decide +kernel
theorem dX8_records_17 : decode cX8_records 17 = .ok (.aload_n 0, 1) := by decide +kernel
theorem dX8_records_18 : decode cX8_records 18 = .ok (.getfield 16, 3) := by decide +kernel
theorem dX8_records_21 : decode cX8_records 21 = .ok (.iload_n 1, 1) := by decide +kernel
theorem dX8_records_22 : decode cX8_records 22 = .ok (.aload_n 0, 1) := by decide +kernel
theorem dX8_records_23 : decode cX8_records 23 = .ok (.getfield 16, 3) := by decide +kernel
theorem dX8_records_26 : decode cX8_records 26 = .ok (.iload_n 1, 1) := by decide +kernel
theorem dX8_records_27 : decode cX8_records 27 = .ok (.sipush 152, 3) := by decide +kernel
theorem dX8_records_30 : decode cX8_records 30 = .ok (.iadd, 1) := by decide +kernel
theorem dX8_records_31 : decode cX8_records 31 = .ok (.iaload, 1) := by decide +kernel
theorem dX8_records_32 : decode cX8_records 32 = .ok (.iastore, 1) := by decide +kernel
theorem dX8_records_33 : decode cX8_records 33 = .ok (.iinc 1 1, 3) := by decide +kernel
theorem dX8_records_36 : decode cX8_records 36 = .ok (.goto (-26), 3) := by decide +kernel
theorem dX8_records_39 : decode cX8_records 39 = .ok (.aload_n 0, 1) := by decide +kernel
theorem dX8_records_40 : decode cX8_records 40 = .ok (.dup, 1) := by decide +kernel
theorem dX8_records_41 : decode cX8_records 41 = .ok (.getfield 39, 3) := by decide +kernel
theorem dX8_records_44 : decode cX8_records 44 = .ok (.iconst 1, 1) := by decide +kernel
theorem dX8_records_45 : decode cX8_records 45 = .ok (.isub, 1) := by decide +kernel
theorem dX8_records_46 : decode cX8_records 46 = .ok (.putfield 39, 3) := by decide +kernel
theorem dX8_records_49 : decode cX8_records 49 = .ok (.aload_n 0, 1) := by decide +kernel
theorem dX8_records_50 : decode cX8_records 50 = .ok (.getfield 7, 3) := by decide +kernel
theorem dX8_records_53 : decode cX8_records 53 = .ok (.iconst 0, 1) := by decide +kernel
theorem dX8_records_54 : decode cX8_records 54 = .ok (.aload_n 0, 1) := by decide +kernel
theorem dX8_records_55 : decode cX8_records 55 = .ok (.getfield 16, 3) := by decide +kernel
theorem dX8_records_58 : decode cX8_records 58 = .ok (.sipush 152, 3) := by decide +kernel
theorem dX8_records_61 : decode cX8_records 61 = .ok (.aload_n 0, 1) := by decide +kernel
theorem dX8_records_62 : decode cX8_records 62 = .ok (.getfield 39, 3) := by decide +kernel
theorem dX8_records_65 : decode cX8_records 65 = .ok (.imul, 1) := by decide +kernel
theorem dX8_records_66 : decode cX8_records 66 = .ok (.invokestatic 43, 3) := by decide +kernel
theorem dX8_records_69 : decode cX8_records 69 = .ok (.aload_n 0, 1) := by decide +kernel
theorem dX8_records_70 : decode cX8_records 70 = .ok (.dup, 1) := by decide +kernel
theorem dX8_records_71 : decode cX8_records 71 = .ok (.getfield 39, 3) := by decide +kernel
theorem dX8_records_74 : decode cX8_records 74 = .ok (.iconst 1, 1) := by decide +kernel
theorem dX8_records_75 : decode cX8_records 75 = .ok (.iadd, 1) := by decide +kernel
theorem dX8_records_76 : decode cX8_records 76 = .ok (.putfield 39, 3) := by decide +kernel
theorem dX8_records_79 : decode cX8_records 79 = .ok (.return_, 1) := by decide +kernel
theorem dX8_of_0 : decode cX8_of 0 = .ok (.aload_n 0, 1) := by decide +kernel
theorem dX8_of_1 : decode cX8_of 1 = .ok (.bipush 12, 2) := by decide +kernel
theorem dX8_of_3 : decode cX8_of 3 = .ok (.bipush 6, 2) := by decide +kernel
theorem dX8_of_5 : decode cX8_of 5 = .ok (.iload_n 1, 1) := by decide +kernel
theorem dX8_of_6 : decode cX8_of 6 = .ok (.imul, 1) := by decide +kernel
theorem dX8_of_7 : decode cX8_of 7 = .ok (.iadd, 1) := by decide +kernel
theorem dX8_of_8 : decode cX8_of 8 = .ok (.iload_n 2, 1) := by decide +kernel
theorem dX8_of_9 : decode cX8_of 9 = .ok (.iadd, 1) := by decide +kernel
theorem dX8_of_10 : decode cX8_of 10 = .ok (.iaload, 1) := by decide +kernel
theorem dX8_of_11 : decode cX8_of 11 = .ok (.ireturn, 1) := by decide +kernel
theorem dX8_puts_0 : decode cX8_puts 0 = .ok (.aload_n 0, 1) := by decide +kernel
theorem dX8_puts_1 : decode cX8_puts 1 = .ok (.bipush 12, 2) := by decide +kernel
theorem dX8_puts_3 : decode cX8_puts 3 = .ok (.bipush 6, 2) := by decide +kernel
theorem dX8_puts_5 : decode cX8_puts 5 = .ok (.iload_n 1, 1) := by decide +kernel
theorem dX8_puts_6 : decode cX8_puts 6 = .ok (.imul, 1) := by decide +kernel
theorem dX8_puts_7 : decode cX8_puts 7 = .ok (.iadd, 1) := by decide +kernel
theorem dX8_puts_8 : decode cX8_puts 8 = .ok (.iload_n 2, 1) := by decide +kernel
theorem dX8_puts_9 : decode cX8_puts 9 = .ok (.iadd, 1) := by decide +kernel
theorem dX8_puts_10 : decode cX8_puts 10 = .ok (.iload_n 3, 1) := by decide +kernel
theorem dX8_puts_11 : decode cX8_puts 11 = .ok (.iastore, 1) := by decide +kernel
theorem dX8_puts_12 : decode cX8_puts 12 = .ok (.return_, 1) := by decide +kernel
theorem dX8_isPlace_0 : decode cX8_isPlace 0 = .ok (.iload_n 1, 1) := by decide +kernel
theorem dX8_isPlace_1 : decode cX8_isPlace 1 = .ok (.iconst 0, 1) := by decide +kernel
theorem dX8_isPlace_2 : decode cX8_isPlace 2 = .ok (.aload_n 0, 1) := by decide +kernel
theorem dX8_isPlace_3 : decode cX8_isPlace 3 = .ok (.getfield 7, 3) := by decide +kernel
theorem dX8_isPlace_6 : decode cX8_isPlace 6 = .ok (.iconst 0, 1) := by decide +kernel
theorem dX8_isPlace_7 : decode cX8_isPlace 7 = .ok (.iaload, 1) := by decide +kernel
theorem dX8_isPlace_8 : decode cX8_isPlace 8 = .ok (.iconst 1, 1) := by decide +kernel
theorem dX8_isPlace_9 : decode cX8_isPlace 9 = .ok (.isub, 1) := by decide +kernel
theorem dX8_isPlace_10 : decode cX8_isPlace 10 = .ok (.invokestatic 47, 3) := by decide +kernel
theorem dX8_isPlace_13 : decode cX8_isPlace 13 = .ok (.ireturn, 1) := by decide +kernel
theorem dX8_aside_0 : decode cX8_aside 0 = .ok (.aload_n 0, 1) := by decide +kernel
theorem dX8_aside_1 : decode cX8_aside 1 = .ok (.iconst 3, 1) := by decide +kernel
theorem dX8_aside_2 : decode cX8_aside 2 = .ok (.iaload, 1) := by decide +kernel
theorem dX8_aside_3 : decode cX8_aside 3 = .ok (.aload_n 0, 1) := by decide +kernel
theorem dX8_aside_4 : decode cX8_aside 4 = .ok (.iload_n 1, 1) := by decide +kernel
theorem dX8_aside_5 : decode cX8_aside 5 = .ok (.iconst 2, 1) := by decide +kernel
theorem dX8_aside_6 : decode cX8_aside 6 = .ok (.invokestatic 51, 3) := by decide +kernel
theorem dX8_aside_9 : decode cX8_aside 9 = .ok (.imul, 1) := by decide +kernel
theorem dX8_aside_10 : decode cX8_aside 10 = .ok (.istore_n 2, 1) := by decide +kernel
theorem dX8_aside_11 : decode cX8_aside 11 = .ok (.aload_n 0, 1) := by decide +kernel
theorem dX8_aside_12 : decode cX8_aside 12 = .ok (.iconst 2, 1) := by decide +kernel
theorem dX8_aside_13 : decode cX8_aside 13 = .ok (.iaload, 1) := by decide +kernel
theorem dX8_aside_14 : decode cX8_aside 14 = .ok (.iconst 1, 1) := by decide +kernel
theorem dX8_aside_15 : decode cX8_aside 15 = .ok (.if_icmp .ne 7, 3) := by decide +kernel
theorem dX8_aside_18 : decode cX8_aside 18 = .ok (.iload_n 2, 1) := by decide +kernel
theorem dX8_aside_19 : decode cX8_aside 19 = .ok (.goto 16, 3) := by decide +kernel
theorem dX8_aside_22 : decode cX8_aside 22 = .ok (.aload_n 0, 1) := by decide +kernel
theorem dX8_aside_23 : decode cX8_aside 23 = .ok (.iconst 2, 1) := by decide +kernel
theorem dX8_aside_24 : decode cX8_aside 24 = .ok (.iaload, 1) := by decide +kernel
theorem dX8_aside_25 : decode cX8_aside 25 = .ok (.iconst 3, 1) := by decide +kernel
theorem dX8_aside_26 : decode cX8_aside 26 = .ok (.if_icmp .ne 8, 3) := by decide +kernel
theorem dX8_aside_29 : decode cX8_aside 29 = .ok (.iload_n 2, 1) := by decide +kernel
theorem dX8_aside_30 : decode cX8_aside 30 = .ok (.ineg, 1) := by decide +kernel
theorem dX8_aside_31 : decode cX8_aside 31 = .ok (.goto 4, 3) := by decide +kernel
theorem dX8_aside_34 : decode cX8_aside 34 = .ok (.iconst 0, 1) := by decide +kernel
theorem dX8_aside_35 : decode cX8_aside 35 = .ok (.ireturn, 1) := by decide +kernel
theorem dX8_shown_0 : decode cX8_shown 0 = .ok (.bipush 10, 2) := by decide +kernel
theorem dX8_shown_2 : decode cX8_shown 2 = .ok (.iload_n 1, 1) := by decide +kernel
theorem dX8_shown_3 : decode cX8_shown 3 = .ok (.imul, 1) := by decide +kernel
theorem dX8_shown_4 : decode cX8_shown 4 = .ok (.aload_n 0, 1) := by decide +kernel
theorem dX8_shown_5 : decode cX8_shown 5 = .ok (.iload_n 1, 1) := by decide +kernel
theorem dX8_shown_6 : decode cX8_shown 6 = .ok (.invokestatic 55, 3) := by decide +kernel
theorem dX8_shown_9 : decode cX8_shown 9 = .ok (.iadd, 1) := by decide +kernel
theorem dX8_shown_10 : decode cX8_shown 10 = .ok (.ireturn, 1) := by decide +kernel
theorem dX8_isTangled_0 : decode cX8_isTangled 0 = .ok (.aload_n 0, 1) := by decide +kernel

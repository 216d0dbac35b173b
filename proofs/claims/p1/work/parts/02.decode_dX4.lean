theorem dX4_init_0 : decode cX4_init 0 = .ok (.aload_n 0, 1) := by decide +kernel
theorem dX4_init_1 : decode cX4_init 1 = .ok (.invokespecial 3, 3) := by decide +kernel
theorem dX4_init_4 : decode cX4_init 4 = .ok (.aload_n 0, 1) := by decide +kernel
theorem dX4_init_5 : decode cX4_init 5 = .ok (.bipush 10, 2) := by decide +kernel
theorem dX4_init_7 : decode cX4_init 7 = .ok (.newarray .long, 2) := by decide +kernel
theorem dX4_init_9 : decode cX4_init 9 = .ok (.putfield 9, 3) := by decide +kernel
theorem dX4_init_12 : decode cX4_init 12 = .ok (.aload_n 0, 1) := by decide +kernel
theorem dX4_init_13 : decode cX4_init 13 = .ok (.bipush 10, 2) := by decide +kernel
theorem dX4_init_15 : decode cX4_init 15 = .ok (.newarray .long, 2) := by decide +kernel
theorem dX4_init_17 : decode cX4_init 17 = .ok (.putfield 15, 3) := by decide +kernel
theorem dX4_init_20 : decode cX4_init 20 = .ok (.aload_n 0, 1) := by decide +kernel
theorem dX4_init_21 : decode cX4_init 21 = .ok (.iconst 0, 1) := by decide +kernel
theorem dX4_init_22 : decode cX4_init 22 = .ok (.putfield 18, 3) := by decide +kernel
theorem dX4_init_25 : decode cX4_init 25 = .ok (.aload_n 0, 1) := by decide +kernel
theorem dX4_init_26 : decode cX4_init 26 = .ok (.bipush 64, 2) := by decide +kernel
theorem dX4_init_28 : decode cX4_init 28 = .ok (.newarray .long, 2) := by decide +kernel
theorem dX4_init_30 : decode cX4_init 30 = .ok (.putfield 22, 3) := by decide +kernel
theorem dX4_init_33 : decode cX4_init 33 = .ok (.aload_n 0, 1) := by decide +kernel
theorem dX4_init_34 : decode cX4_init 34 = .ok (.bipush 64, 2) := by decide +kernel
theorem dX4_init_36 : decode cX4_init 36 = .ok (.newarray .long, 2) := by decide +kernel
theorem dX4_init_38 : decode cX4_init 38 = .ok (.putfield 25, 3) := by decide +kernel
theorem dX4_init_41 : decode cX4_init 41 = .ok (.return_, 1) := by decide +kernel
theorem dX4_findRoots_0 : decode cX4_findRoots 0 = .ok (.aload_n 0, 1) := by decide +kernel
theorem dX4_findRoots_1 : decode cX4_findRoots 1 = .ok (.iconst 0, 1) := by decide +kernel
theorem dX4_findRoots_2 : decode cX4_findRoots 2 = .ok (.putfield 18, 3) := by decide +kernel
theorem dX4_findRoots_5 : decode cX4_findRoots 5 = .ok (.aload_n 1, 1) := by decide +kernel
theorem dX4_findRoots_6 : decode cX4_findRoots 6 = .ok (.invokestatic 28, 3) := by decide +kernel
theorem dX4_findRoots_9 : decode cX4_findRoots 9 = .ok (.istore_n 2, 1) := by decide +kernel
theorem dX4_findRoots_10 : decode cX4_findRoots 10 = .ok (.iload_n 2, 1) := by decide +kernel
theorem dX4_findRoots_11 : decode cX4_findRoots 11 = .ok (.iconst 1, 1) := by decide +kernel
theorem dX4_findRoots_12 : decode cX4_findRoots 12 = .ok (.if_icmp .ge 4, 3) := by decide +kernel
theorem dX4_findRoots_15 : decode cX4_findRoots 15 = .ok (.return_, 1) := by decide +kernel
theorem dX4_findRoots_16 : decode cX4_findRoots 16 = .ok (.iconst 0, 1) := by decide +kernel
theorem dX4_findRoots_17 : decode cX4_findRoots 17 = .ok (.istore_n 3, 1) := by decide +kernel
theorem dX4_findRoots_18 : decode cX4_findRoots 18 = .ok (.iload_n 3, 1) := by decide +kernel
theorem dX4_findRoots_19 : decode cX4_findRoots 19 = .ok (.iload_n 2, 1) := by decide +kernel
theorem dX4_findRoots_20 : decode cX4_findRoots 20 = .ok (.if_icmp .ge 17, 3) := by decide +kernel
theorem dX4_findRoots_23 : decode cX4_findRoots 23 = .ok (.aload_n 1, 1) := by decide +kernel
theorem dX4_findRoots_24 : decode cX4_findRoots 24 = .ok (.iload_n 3, 1) := by decide +kernel
theorem dX4_findRoots_25 : decode cX4_findRoots 25 = .ok (.laload, 1) := by decide +kernel
theorem dX4_findRoots_26 : decode cX4_findRoots 26 = .ok (.lconst 0, 1) := by decide +kernel
theorem dX4_findRoots_27 : decode cX4_findRoots 27 = .ok (.lcmp, 1) := by decide +kernel
theorem dX4_findRoots_28 : decode cX4_findRoots 28 = .ok (.ifCond .ne 9, 3) := by decide +kernel
theorem dX4_findRoots_31 : decode cX4_findRoots 31 = .ok (.iinc 3 1, 3) := by decide +kernel
theorem dX4_findRoots_34 : decode cX4_findRoots 34 = .ok (.goto (-16), 3) := by decide +kernel
theorem dX4_findRoots_37 : decode cX4_findRoots 37 = .ok (.iload_n 3, 1) := by decide +kernel
theorem dX4_findRoots_38 : decode cX4_findRoots 38 = .ok (.ifCond .le 9, 3) := by decide +kernel
theorem dX4_findRoots_41 : decode cX4_findRoots 41 = .ok (.aload_n 0, 1) := by decide +kernel
theorem dX4_findRoots_42 : decode cX4_findRoots 42 = .ok (.lconst 0, 1) := by decide +kernel
theorem dX4_findRoots_43 : decode cX4_findRoots 43 = .ok (.lconst 1, 1) := by decide +kernel
theorem dX4_findRoots_44 : decode cX4_findRoots 44 = .ok (.invokevirtual 34, 3) := by decide +kernel
theorem dX4_findRoots_47 : decode cX4_findRoots 47 = .ok (.aload_n 1, 1) := by decide +kernel
theorem dX4_findRoots_48 : decode cX4_findRoots 48 = .ok (.iload_n 2, 1) := by decide +kernel
theorem dX4_findRoots_49 : decode cX4_findRoots 49 = .ok (.laload, 1) := by decide +kernel
theorem dX4_findRoots_50 : decode cX4_findRoots 50 = .ok (.aload_n 0, 1) := by decide +kernel
theorem dX4_findRoots_51 : decode cX4_findRoots 51 = .ok (.getfield 22, 3) := by decide +kernel
theorem dX4_findRoots_54 : decode cX4_findRoots 54 = .ok (.invokestatic 38, 3) := by decide +kernel
theorem dX4_findRoots_57 : decode cX4_findRoots 57 = .ok (.istore 4, 2) := by decide +kernel
theorem dX4_findRoots_59 : decode cX4_findRoots 59 = .ok (.aload_n 1, 1) := by decide +kernel
theorem dX4_findRoots_60 : decode cX4_findRoots 60 = .ok (.iload_n 3, 1) := by decide +kernel
theorem dX4_findRoots_61 : decode cX4_findRoots 61 = .ok (.laload, 1) := by decide +kernel
theorem dX4_findRoots_62 : decode cX4_findRoots 62 = .ok (.aload_n 0, 1) := by decide +kernel
theorem dX4_findRoots_63 : decode cX4_findRoots 63 = .ok (.getfield 25, 3) := by decide +kernel
theorem dX4_findRoots_66 : decode cX4_findRoots 66 = .ok (.invokestatic 38, 3) := by decide +kernel
theorem dX4_findRoots_69 : decode cX4_findRoots 69 = .ok (.istore 5, 2) := by decide +kernel
theorem dX4_findRoots_71 : decode cX4_findRoots 71 = .ok (.iconst 0, 1) := by decide +kernel
theorem dX4_findRoots_72 : decode cX4_findRoots 72 = .ok (.istore 6, 2) := by decide +kernel
theorem dX4_findRoots_74 : decode cX4_findRoots 74 = .ok (.iload 6, 2) := by decide +kernel
theorem dX4_findRoots_76 : decode cX4_findRoots 76 = .ok (.iload 4, 2) := by decide +kernel
theorem dX4_findRoots_78 : decode cX4_findRoots 78 = .ok (.if_icmp .ge 71, 3) := by decide +kernel
theorem dX4_findRoots_81 : decode cX4_findRoots 81 = .ok (.iload_n 3, 1) := by decide +kernel
theorem dX4_findRoots_82 : decode cX4_findRoots 82 = .ok (.iload_n 2, 1) := by decide +kernel
theorem dX4_findRoots_83 : decode cX4_findRoots 83 = .ok (.if_icmp .ge 66, 3) := by decide +kernel
theorem dX4_findRoots_86 : decode cX4_findRoots 86 = .ok (.iconst 0, 1) := by decide +kernel
theorem dX4_findRoots_87 : decode cX4_findRoots 87 = .ok (.istore 7, 2) := by decide +kernel
theorem dX4_findRoots_89 : decode cX4_findRoots 89 = .ok (.iload 7, 2) := by decide +kernel
theorem dX4_findRoots_91 : decode cX4_findRoots 91 = .ok (.iload 5, 2) := by decide +kernel
theorem dX4_findRoots_93 : decode cX4_findRoots 93 = .ok (.if_icmp .ge 50, 3) := by decide +kernel
theorem dX4_findRoots_96 : decode cX4_findRoots 96 = .ok (.aload_n 0, 1) := by decide +kernel
theorem dX4_findRoots_97 : decode cX4_findRoots 97 = .ok (.aload_n 1, 1) := by decide +kernel
theorem dX4_findRoots_98 : decode cX4_findRoots 98 = .ok (.iload_n 3, 1) := by decide +kernel
theorem dX4_findRoots_99 : decode cX4_findRoots 99 = .ok (.aload_n 0, 1) := by decide +kernel
theorem dX4_findRoots_100 : decode cX4_findRoots 100 = .ok (.getfield 25, 3) := by decide +kernel
theorem dX4_findRoots_103 : decode cX4_findRoots 103 = .ok (.iload 7, 2) := by decide +kernel
theorem dX4_findRoots_105 : decode cX4_findRoots 105 = .ok (.laload, 1) := by decide +kernel
theorem dX4_findRoots_106 : decode cX4_findRoots 106 = .ok (.aload_n 0, 1) := by decide +kernel
theorem dX4_findRoots_107 : decode cX4_findRoots 107 = .ok (.getfield 22, 3) := by decide +kernel
theorem dX4_findRoots_110 : decode cX4_findRoots 110 = .ok (.iload 6, 2) := by decide +kernel
theorem dX4_findRoots_112 : decode cX4_findRoots 112 = .ok (.laload, 1) := by decide +kernel
theorem dX4_findRoots_113 : decode cX4_findRoots 113 = .ok (.invokevirtual 42, 3) := by decide +kernel
theorem dX4_findRoots_116 : decode cX4_findRoots 116 = .ok (.aload_n 0, 1) := by decide +kernel
theorem dX4_findRoots_117 : decode cX4_findRoots 117 = .ok (.aload_n 1, 1) := by decide +kernel
theorem dX4_findRoots_118 : decode cX4_findRoots 118 = .ok (.iload_n 3, 1) := by decide +kernel
theorem dX4_findRoots_119 : decode cX4_findRoots 119 = .ok (.aload_n 0, 1) := by decide +kernel
theorem dX4_findRoots_120 : decode cX4_findRoots 120 = .ok (.getfield 25, 3) := by decide +kernel
theorem dX4_findRoots_123 : decode cX4_findRoots 123 = .ok (.iload 7, 2) := by decide +kernel
theorem dX4_findRoots_125 : decode cX4_findRoots 125 = .ok (.laload, 1) := by decide +kernel
theorem dX4_findRoots_126 : decode cX4_findRoots 126 = .ok (.lneg, 1) := by decide +kernel
theorem dX4_findRoots_127 : decode cX4_findRoots 127 = .ok (.aload_n 0, 1) := by decide +kernel
theorem dX4_findRoots_128 : decode cX4_findRoots 128 = .ok (.getfield 22, 3) := by decide +kernel
theorem dX4_findRoots_131 : decode cX4_findRoots 131 = .ok (.iload 6, 2) := by decide +kernel
theorem dX4_findRoots_133 : decode cX4_findRoots 133 = .ok (.laload, 1) := by decide +kernel
theorem dX4_findRoots_134 : decode cX4_findRoots 134 = .ok (.invokevirtual 42, 3) := by decide +kernel
theorem dX4_findRoots_137 : decode cX4_findRoots 137 = .ok (.iinc 7 1, 3) := by decide +kernel
theorem dX4_findRoots_140 : decode cX4_findRoots 140 = .ok (.goto (-51), 3) := by decide +kernel
theorem dX4_findRoots_143 : decode cX4_findRoots 143 = .ok (.iinc 6 1, 3) := by decide +kernel
theorem dX4_findRoots_146 : decode cX4_findRoots 146 = .ok (.goto (-72), 3) := by decide +kernel
theorem dX4_findRoots_149 : decode cX4_findRoots 149 = .ok (.return_, 1) := by decide +kernel
theorem dX4_listDivisors_0 : decode cX4_listDivisors 0 = .ok (.ldc2_w 46, 3) := by decide +kernel
theorem dX4_listDivisors_3 : decode cX4_listDivisors 3 = .ok (.lload_n 0, 1) := by decide +kernel
theorem dX4_listDivisors_4 : decode cX4_listDivisors 4 = .ok (.invokestatic 48, 3) := by decide +kernel
theorem dX4_listDivisors_7 : decode cX4_listDivisors 7 = .ok (.invokestatic 54, 3) := by decide +kernel
theorem dX4_listDivisors_10 : decode cX4_listDivisors 10 = .ok (.lstore_n 3, 1) := by decide +kernel
theorem dX4_listDivisors_11 : decode cX4_listDivisors 11 = .ok (.iconst 0, 1) := by decide +kernel
theorem dX4_listDivisors_12 : decode cX4_listDivisors 12 = .ok (.istore 5, 2) := by decide +kernel
theorem dX4_listDivisors_14 : decode cX4_listDivisors 14 = .ok (.lconst 1, 1) := by decide +kernel
theorem dX4_listDivisors_15 : decode cX4_listDivisors 15 = .ok (.lstore 6, 2) := by decide +kernel
theorem dX4_listDivisors_17 : decode cX4_listDivisors 17 = .ok (.lload 6, 2) := by decide +kernel
theorem dX4_listDivisors_19 : decode cX4_listDivisors 19 = .ok (.lload 6, 2) := by decide +kernel
theorem dX4_listDivisors_21 : decode cX4_listDivisors 21 = .ok (.lmul, 1) := by decide +kernel
theorem dX4_listDivisors_22 : decode cX4_listDivisors 22 = .ok (.lload_n 3, 1) := by decide +kernel
theorem dX4_listDivisors_23 : decode cX4_listDivisors 23 = .ok (.lcmp, 1) := by decide +kernel
theorem dX4_listDivisors_24 : decode cX4_listDivisors 24 = .ok (.ifCond .gt 60, 3) := by decide +kernel
theorem dX4_listDivisors_27 : decode cX4_listDivisors 27 = .ok (.iload 5, 2) := by decide +kernel
theorem dX4_listDivisors_29 : decode cX4_listDivisors 29 = .ok (.iconst 2, 1) := by decide +kernel
theorem dX4_listDivisors_30 : decode cX4_listDivisors 30 = .ok (.iadd, 1) := by decide +kernel
theorem dX4_listDivisors_31 : decode cX4_listDivisors 31 = .ok (.bipush 64, 2) := by decide +kernel
theorem dX4_listDivisors_33 : decode cX4_listDivisors 33 = .ok (.if_icmp .gt 51, 3) := by decide +kernel
theorem dX4_listDivisors_36 : decode cX4_listDivisors 36 = .ok (.lload_n 3, 1) := by decide +kernel
theorem dX4_listDivisors_37 : decode cX4_listDivisors 37 = .ok (.lload 6, 2) := by decide +kernel
theorem dX4_listDivisors_39 : decode cX4_listDivisors 39 = .ok (.lrem, 1) := by decide +kernel
theorem dX4_listDivisors_40 : decode cX4_listDivisors 40 = .ok (.lconst 0, 1) := by decide +kernel
theorem dX4_listDivisors_41 : decode cX4_listDivisors 41 = .ok (.lcmp, 1) := by decide +kernel
theorem dX4_listDivisors_42 : decode cX4_listDivisors 42 = .ok (.ifCond .ne 33, 3) := by decide +kernel
theorem dX4_listDivisors_45 : decode cX4_listDivisors 45 = .ok (.aload_n 2, 1) := by decide +kernel
theorem dX4_listDivisors_46 : decode cX4_listDivisors 46 = .ok (.iload 5, 2) := by decide +kernel
theorem dX4_listDivisors_48 : decode cX4_listDivisors 48 = .ok (.lload 6, 2) := by decide +kernel
theorem dX4_listDivisors_50 : decode cX4_listDivisors 50 = .ok (.lastore, 1) := by decide +kernel
theorem dX4_listDivisors_51 : decode cX4_listDivisors 51 = .ok (.iinc 5 1, 3) := by decide +kernel
theorem dX4_listDivisors_54 : decode cX4_listDivisors 54 = .ok (.lload 6, 2) := by decide +kernel
theorem dX4_listDivisors_56 : decode cX4_listDivisors 56 = .ok (.lload 6, 2) := by decide +kernel
theorem dX4_listDivisors_58 : decode cX4_listDivisors 58 = .ok (.lmul, 1) := by decide +kernel
theorem dX4_listDivisors_59 : decode cX4_listDivisors 59 = .ok (.lload_n 3, 1) := by decide +kernel
theorem dX4_listDivisors_60 : decode cX4_listDivisors 60 = .ok (.lcmp, 1) := by decide +kernel
theorem dX4_listDivisors_61 : decode cX4_listDivisors 61 = .ok (.ifCond .eq 14, 3) := by decide +kernel
theorem dX4_listDivisors_64 : decode cX4_listDivisors 64 = .ok (.aload_n 2, 1) := by decide +kernel
theorem dX4_listDivisors_65 : decode cX4_listDivisors 65 = .ok (.iload 5, 2) := by decide +kernel
theorem dX4_listDivisors_67 : decode cX4_listDivisors 67 = .ok (.lload_n 3, 1) := by decide +kernel
theorem dX4_listDivisors_68 : decode cX4_listDivisors 68 = .ok (.lload 6, 2) := by decide +kernel
theorem dX4_listDivisors_70 : decode cX4_listDivisors 70 = .ok (.ldiv, 1) := by decide +kernel
theorem dX4_listDivisors_71 : decode cX4_listDivisors 71 = .ok (.lastore, 1) := by decide +kernel
theorem dX4_listDivisors_72 : decode cX4_listDivisors 72 = .ok (.iinc 5 1, 3) := by decide +kernel
theorem dX4_listDivisors_75 : decode cX4_listDivisors 75 = .ok (.lload 6, 2) := by decide +kernel
theorem dX4_listDivisors_77 : decode cX4_listDivisors 77 = .ok (.lconst 1, 1) := by decide +kernel
theorem dX4_listDivisors_78 : decode cX4_listDivisors 78 = .ok (.ladd, 1) := by decide +kernel
theorem dX4_listDivisors_79 : decode cX4_listDivisors 79 = .ok (.lstore 6, 2) := by decide +kernel
theorem dX4_listDivisors_81 : decode cX4_listDivisors 81 = .ok (.goto (-64), 3) := by decide +kernel
theorem dX4_listDivisors_84 : decode cX4_listDivisors 84 = .ok (.iload 5, 2) := by decide +kernel
theorem dX4_listDivisors_86 : decode cX4_listDivisors 86 = .ok (.ireturn, 1) := by decide +kernel
theorem dX4_addIfRoot_0 : decode cX4_addIfRoot 0 = .ok (.aload_n 1, 1) := by decide +kernel
theorem dX4_addIfRoot_1 : decode cX4_addIfRoot 1 = .ok (.iload_n 2, 1) := by decide +kernel
theorem dX4_addIfRoot_2 : decode cX4_addIfRoot 2 = .ok (.lload_n 3, 1) := by decide +kernel
theorem dX4_addIfRoot_3 : decode cX4_addIfRoot 3 = .ok (.lload 5, 2) := by decide +kernel
theorem dX4_addIfRoot_5 : decode cX4_addIfRoot 5 = .ok (.invokestatic 58, 3) := by decide +kernel
theorem dX4_addIfRoot_8 : decode cX4_addIfRoot 8 = .ok (.ifCond .eq 10, 3) := by decide +kernel
theorem dX4_addIfRoot_11 : decode cX4_addIfRoot 11 = .ok (.aload_n 0, 1) := by decide +kernel
theorem dX4_addIfRoot_12 : decode cX4_addIfRoot 12 = .ok (.lload_n 3, 1) := by decide +kernel
theorem dX4_addIfRoot_13 : decode cX4_addIfRoot 13 = .ok (.lload 5, 2) := by decide +kernel
theorem dX4_addIfRoot_15 : decode cX4_addIfRoot 15 = .ok (.invokevirtual 34, 3) := by decide +kernel
theorem dX4_addIfRoot_18 : decode cX4_addIfRoot 18 = .ok (.return_, 1) := by decide +kernel
theorem dX4_dividedBy_0 : decode cX4_dividedBy 0 = .ok (.lload 4, 2) := by decide +kernel
theorem dX4_dividedBy_2 : decode cX4_dividedBy 2 = .ok (.lconst 0, 1) := by decide +kernel
theorem dX4_dividedBy_3 : decode cX4_dividedBy 3 = .ok (.lcmp, 1) := by decide +kernel
theorem dX4_dividedBy_4 : decode cX4_dividedBy 4 = .ok (.ifCond .ne 5, 3) := by decide +kernel
theorem dX4_dividedBy_7 : decode cX4_dividedBy 7 = .ok (.iconst 0, 1) := by decide +kernel
theorem dX4_dividedBy_8 : decode cX4_dividedBy 8 = .ok (.ireturn, 1) := by decide +kernel
theorem dX4_dividedBy_9 : decode cX4_dividedBy 9 = .ok (.lconst 0, 1) := by decide +kernel
theorem dX4_dividedBy_10 : decode cX4_dividedBy 10 = .ok (.lstore 6, 2) := by decide +kernel
theorem dX4_dividedBy_12 : decode cX4_dividedBy 12 = .ok (.aload_n 0, 1) := by decide +kernel
theorem dX4_dividedBy_13 : decode cX4_dividedBy 13 = .ok (.invokestatic 28, 3) := by decide +kernel
theorem dX4_dividedBy_16 : decode cX4_dividedBy 16 = .ok (.istore 8, 2) := by decide +kernel
theorem dX4_dividedBy_18 : decode cX4_dividedBy 18 = .ok (.iload 8, 2) := by decide +kernel
theorem dX4_dividedBy_20 : decode cX4_dividedBy 20 = .ok (.iload_n 1, 1) := by decide +kernel
theorem dX4_dividedBy_21 : decode cX4_dividedBy 21 = .ok (.if_icmp .le 52, 3) := by decide +kernel
theorem dX4_dividedBy_24 : decode cX4_dividedBy 24 = .ok (.aload_n 0, 1) := by decide +kernel
theorem dX4_dividedBy_25 : decode cX4_dividedBy 25 = .ok (.iload 8, 2) := by decide +kernel
theorem dX4_dividedBy_27 : decode cX4_dividedBy 27 = .ok (.laload, 1) := by decide +kernel
theorem dX4_dividedBy_28 : decode cX4_dividedBy 28 = .ok (.lload_n 2, 1) := by decide +kernel
theorem dX4_dividedBy_29 : decode cX4_dividedBy 29 = .ok (.lload 6, 2) := by decide +kernel
theorem dX4_dividedBy_31 : decode cX4_dividedBy 31 = .ok (.lmul, 1) := by decide +kernel
theorem dX4_dividedBy_32 : decode cX4_dividedBy 32 = .ok (.ladd, 1) := by decide +kernel
theorem dX4_dividedBy_33 : decode cX4_dividedBy 33 = .ok (.lstore 9, 2) := by decide +kernel
theorem dX4_dividedBy_35 : decode cX4_dividedBy 35 = .ok (.lload 9, 2) := by decide +kernel
theorem dX4_dividedBy_37 : decode cX4_dividedBy 37 = .ok (.lload 4, 2) := by decide +kernel
theorem dX4_dividedBy_39 : decode cX4_dividedBy 39 = .ok (.ldiv, 1) := by decide +kernel
theorem dX4_dividedBy_40 : decode cX4_dividedBy 40 = .ok (.lstore 6, 2) := by decide +kernel
theorem dX4_dividedBy_42 : decode cX4_dividedBy 42 = .ok (.lload 6, 2) := by decide +kernel
theorem dX4_dividedBy_44 : decode cX4_dividedBy 44 = .ok (.lload 4, 2) := by decide +kernel
theorem dX4_dividedBy_46 : decode cX4_dividedBy 46 = .ok (.lmul, 1) := by decide +kernel
theorem dX4_dividedBy_47 : decode cX4_dividedBy 47 = .ok (.lload 9, 2) := by decide +kernel
theorem dX4_dividedBy_49 : decode cX4_dividedBy 49 = .ok (.lcmp, 1) := by decide +kernel
theorem dX4_dividedBy_50 : decode cX4_dividedBy 50 = .ok (.ifCond .ne 15, 3) := by decide +kernel
theorem dX4_dividedBy_53 : decode cX4_dividedBy 53 = .ok (.lload 6, 2) := by decide +kernel
theorem dX4_dividedBy_55 : decode cX4_dividedBy 55 = .ok (.invokestatic 48, 3) := by decide +kernel
theorem dX4_dividedBy_58 : decode cX4_dividedBy 58 = .ok (.ldc2_w 62, 3) := by decide +kernel
theorem dX4_dividedBy_61 : decode cX4_dividedBy 61 = .ok (.lcmp, 1) := by decide +kernel
theorem dX4_dividedBy_62 : decode cX4_dividedBy 62 = .ok (.ifCond .le 5, 3) := by decide +kernel
theorem dX4_dividedBy_65 : decode cX4_dividedBy 65 = .ok (.iconst 0, 1) := by decide +kernel
theorem dX4_dividedBy_66 : decode cX4_dividedBy 66 = .ok (.ireturn, 1) := by decide +kernel
theorem dX4_dividedBy_67 : decode cX4_dividedBy 67 = .ok (.iinc 8 (-1), 3) := by decide +kernel
theorem dX4_dividedBy_70 : decode cX4_dividedBy 70 = .ok (.goto (-52), 3) := by decide +kernel
theorem dX4_dividedBy_73 : decode cX4_dividedBy 73 = .ok (.aload_n 0, 1) := by decide +kernel
theorem dX4_dividedBy_74 : decode cX4_dividedBy 74 = .ok (.iload_n 1, 1) := by decide +kernel
theorem dX4_dividedBy_75 : decode cX4_dividedBy 75 = .ok (.laload, 1) := by decide +kernel
theorem dX4_dividedBy_76 : decode cX4_dividedBy 76 = .ok (.lload_n 2, 1) := by decide +kernel
theorem dX4_dividedBy_77 : decode cX4_dividedBy 77 = .ok (.lload 6, 2) := by decide +kernel
theorem dX4_dividedBy_79 : decode cX4_dividedBy 79 = .ok (.lmul, 1) := by decide +kernel
theorem dX4_dividedBy_80 : decode cX4_dividedBy 80 = .ok (.ladd, 1) := by decide +kernel
theorem dX4_dividedBy_81 : decode cX4_dividedBy 81 = .ok (.lconst 0, 1) := by decide +kernel
theorem dX4_dividedBy_82 : decode cX4_dividedBy 82 = .ok (.lcmp, 1) := by decide +kernel
theorem dX4_dividedBy_83 : decode cX4_dividedBy 83 = .ok (.ifCond .ne 7, 3) := by decide +kernel
theorem dX4_dividedBy_86 : decode cX4_dividedBy 86 = .ok (.iconst 1, 1) := by decide +kernel
theorem dX4_dividedBy_87 : decode cX4_dividedBy 87 = .ok (.goto 4, 3) := by decide +kernel
theorem dX4_dividedBy_90 : decode cX4_dividedBy 90 = .ok (.iconst 0, 1) := by decide +kernel
theorem dX4_dividedBy_91 : decode cX4_dividedBy 91 = .ok (.ireturn, 1) := by decide +kernel
theorem dX4_add_0 : decode cX4_add 0 = .ok (.aload_n 0, 1) := by decide +kernel
theorem dX4_add_1 : decode cX4_add 1 = .ok (.getfield 18, 3) := by decide +kernel
theorem dX4_add_4 : decode cX4_add 4 = .ok (.bipush 10, 2) := by decide +kernel
theorem dX4_add_6 : decode cX4_add 6 = .ok (.if_icmp .lt 4, 3) := by decide +kernel
theorem dX4_add_9 : decode cX4_add 9 = .ok (.return_, 1) := by decide +kernel
theorem dX4_add_10 : decode cX4_add 10 = .ok (.aload_n 0, 1) := by decide +kernel
theorem dX4_add_11 : decode cX4_add 11 = .ok (.getfield 18, 3) := by decide +kernel
theorem dX4_add_14 : decode cX4_add 14 = .ok (.istore 5, 2) := by decide +kernel
theorem dX4_add_16 : decode cX4_add 16 = .ok (.iload 5, 2) := by decide +kernel
theorem dX4_add_18 : decode cX4_add 18 = .ok (.ifCond .le 67, 3) := by decide +kernel
theorem dX4_add_21 : decode cX4_add 21 = .ok (.lload_n 1, 1) := by decide +kernel
theorem dX4_add_22 : decode cX4_add 22 = .ok (.aload_n 0, 1) := by decide +kernel
theorem dX4_add_23 : decode cX4_add 23 = .ok (.getfield 15, 3) := by decide +kernel
theorem dX4_add_26 : decode cX4_add 26 = .ok (.iload 5, 2) := by decide +kernel
theorem dX4_add_28 : decode cX4_add 28 = .ok (.iconst 1, 1) := by decide +kernel
theorem dX4_add_29 : decode cX4_add 29 = .ok (.isub, 1) := by decide +kernel
theorem dX4_add_30 : decode cX4_add 30 = .ok (.laload, 1) := by decide +kernel
theorem dX4_add_31 : decode cX4_add 31 = .ok (.lmul, 1) := by decide +kernel
theorem dX4_add_32 : decode cX4_add 32 = .ok (.aload_n 0, 1) := by decide +kernel
theorem dX4_add_33 : decode cX4_add 33 = .ok (.getfield 9, 3) := by decide +kernel
theorem dX4_add_36 : decode cX4_add 36 = .ok (.iload 5, 2) := by decide +kernel
theorem dX4_add_38 : decode cX4_add 38 = .ok (.iconst 1, 1) := by decide +kernel
theorem dX4_add_39 : decode cX4_add 39 = .ok (.isub, 1) := by decide +kernel
theorem dX4_add_40 : decode cX4_add 40 = .ok (.laload, 1) := by decide +kernel
theorem dX4_add_41 : decode cX4_add 41 = .ok (.lload_n 3, 1) := by decide +kernel
theorem dX4_add_42 : decode cX4_add 42 = .ok (.lmul, 1) := by decide +kernel
theorem dX4_add_43 : decode cX4_add 43 = .ok (.lcmp, 1) := by decide +kernel
theorem dX4_add_44 : decode cX4_add 44 = .ok (.ifCond .ge 41, 3) := by decide +kernel
theorem dX4_add_47 : decode cX4_add 47 = .ok (.aload_n 0, 1) := by decide +kernel
theorem dX4_add_48 : decode cX4_add 48 = .ok (.getfield 9, 3) := by decide +kernel
theorem dX4_add_51 : decode cX4_add 51 = .ok (.iload 5, 2) := by decide +kernel
theorem dX4_add_53 : decode cX4_add 53 = .ok (.aload_n 0, 1) := by decide +kernel
theorem dX4_add_54 : decode cX4_add 54 = .ok (.getfield 9, 3) := by decide +kernel
theorem dX4_add_57 : decode cX4_add 57 = .ok (.iload 5, 2) := by decide +kernel
theorem dX4_add_59 : decode cX4_add 59 = .ok (.iconst 1, 1) := by decide +kernel
theorem dX4_add_60 : decode cX4_add 60 = .ok (.isub, 1) := by decide +kernel
theorem dX4_add_61 : decode cX4_add 61 = .ok (.laload, 1) := by decide +kernel
theorem dX4_add_62 : decode cX4_add 62 = .ok (.lastore, 1) := by decide +kernel
theorem dX4_add_63 : decode cX4_add 63 = .ok (.aload_n 0, 1) := by decide +kernel
theorem dX4_add_64 : decode cX4_add 64 = .ok (.getfield 15, 3) := by decide +kernel
theorem dX4_add_67 : decode cX4_add 67 = .ok (.iload 5, 2) := by decide +kernel
theorem dX4_add_69 : decode cX4_add 69 = .ok (.aload_n 0, 1) := by decide +kernel
theorem dX4_add_70 : decode cX4_add 70 = .ok (.getfield 15, 3) := by decide +kernel
theorem dX4_add_73 : decode cX4_add 73 = .ok (.iload 5, 2) := by decide +kernel
theorem dX4_add_75 : decode cX4_add 75 = .ok (.iconst 1, 1) := by decide +kernel
theorem dX4_add_76 : decode cX4_add 76 = .ok (.isub, 1) := by decide +kernel
theorem dX4_add_77 : decode cX4_add 77 = .ok (.laload, 1) := by decide +kernel
theorem dX4_add_78 : decode cX4_add 78 = .ok (.lastore, 1) := by decide +kernel
theorem dX4_add_79 : decode cX4_add 79 = .ok (.iinc 5 (-1), 3) := by decide +kernel
theorem dX4_add_82 : decode cX4_add 82 = .ok (.goto (-66), 3) := by decide +kernel
theorem dX4_add_85 : decode cX4_add 85 = .ok (.aload_n 0, 1) := by decide +kernel
theorem dX4_add_86 : decode cX4_add 86 = .ok (.getfield 9, 3) := by decide +kernel
theorem dX4_add_89 : decode cX4_add 89 = .ok (.iload 5, 2) := by decide +kernel
theorem dX4_add_91 : decode cX4_add 91 = .ok (.lload_n 1, 1) := by decide +kernel
theorem dX4_add_92 : decode cX4_add 92 = .ok (.lastore, 1) := by decide +kernel
theorem dX4_add_93 : decode cX4_add 93 = .ok (.aload_n 0, 1) := by decide +kernel
theorem dX4_add_94 : decode cX4_add 94 = .ok (.getfield 15, 3) := by decide +kernel
theorem dX4_add_97 : decode cX4_add 97 = .ok (.iload 5, 2) := by decide +kernel
theorem dX4_add_99 : decode cX4_add 99 = .ok (.lload_n 3, 1) := by decide +kernel
theorem dX4_add_100 : decode cX4_add 100 = .ok (.lastore, 1) := by decide +kernel
theorem dX4_add_101 : decode cX4_add 101 = .ok (.aload_n 0, 1) := by decide +kernel
theorem dX4_add_102 : decode cX4_add 102 = .ok (.dup, 1) := by decide +kernel
theorem dX4_add_103 : decode cX4_add 103 = .ok (.getfield 18, 3) := by decide +kernel
theorem dX4_add_106 : decode cX4_add 106 = .ok (.iconst 1, 1) := by decide +kernel
theorem dX4_add_107 : decode cX4_add 107 = .ok (.iadd, 1) := by decide +kernel
theorem dX4_add_108 : decode cX4_add 108 = .ok (.putfield 18, 3) := by decide +kernel
theorem dX4_add_111 : decode cX4_add 111 = .ok (.return_, 1) := by decide +kernel

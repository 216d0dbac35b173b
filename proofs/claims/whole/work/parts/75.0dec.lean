theorem dX1_divide_0 : decode cX1_divide 0 = .ok (.aload_n 2, 1) := by decide +kernel
theorem dX1_divide_1 : decode cX1_divide 1 = .ok (.invokestatic 18, 3) := by decide +kernel
theorem dX1_divide_4 : decode cX1_divide 4 = .ok (.istore_n 3, 1) := by decide +kernel
theorem dX1_divide_5 : decode cX1_divide 5 = .ok (.iload_n 3, 1) := by decide +kernel
theorem dX1_divide_6 : decode cX1_divide 6 = .ok (.ifCond .ge 5, 3) := by decide +kernel
theorem dX1_divide_9 : decode cX1_divide 9 = .ok (.iconst 0, 1) := by decide +kernel
theorem dX1_divide_10 : decode cX1_divide 10 = .ok (.ireturn, 1) := by decide +kernel
theorem dX1_divide_11 : decode cX1_divide 11 = .ok (.aload_n 2, 1) := by decide +kernel
theorem dX1_divide_12 : decode cX1_divide 12 = .ok (.iload_n 3, 1) := by decide +kernel
theorem dX1_divide_13 : decode cX1_divide 13 = .ok (.laload, 1) := by decide +kernel
theorem dX1_divide_14 : decode cX1_divide 14 = .ok (.lstore 4, 2) := by decide +kernel
theorem dX1_divide_16 : decode cX1_divide 16 = .ok (.aload_n 1, 1) := by decide +kernel
theorem dX1_divide_17 : decode cX1_divide 17 = .ok (.aload_n 0, 1) := by decide +kernel
theorem dX1_divide_18 : decode cX1_divide 18 = .ok (.getfield 15, 3) := by decide +kernel
theorem dX1_divide_21 : decode cX1_divide 21 = .ok (.invokestatic 24, 3) := by decide +kernel
theorem dX1_divide_24 : decode cX1_divide 24 = .ok (.aload_n 0, 1) := by decide +kernel
theorem dX1_divide_25 : decode cX1_divide 25 = .ok (.getfield 9, 3) := by decide +kernel
theorem dX1_divide_28 : decode cX1_divide 28 = .ok (.lconst 0, 1) := by decide +kernel
theorem dX1_divide_29 : decode cX1_divide 29 = .ok (.invokestatic 28, 3) := by decide +kernel
theorem dX1_divide_32 : decode cX1_divide 32 = .ok (.aload_n 1, 1) := by decide +kernel
theorem dX1_divide_33 : decode cX1_divide 33 = .ok (.invokestatic 18, 3) := by decide +kernel
theorem dX1_divide_36 : decode cX1_divide 36 = .ok (.iload_n 3, 1) := by decide +kernel
theorem dX1_divide_37 : decode cX1_divide 37 = .ok (.isub, 1) := by decide +kernel
theorem dX1_divide_38 : decode cX1_divide 38 = .ok (.istore 6, 2) := by decide +kernel
theorem dX1_divide_40 : decode cX1_divide 40 = .ok (.iload 6, 2) := by decide +kernel
theorem dX1_divide_42 : decode cX1_divide 42 = .ok (.ifCond .lt 99, 3) := by decide +kernel
theorem dX1_divide_45 : decode cX1_divide 45 = .ok (.aload_n 0, 1) := by decide +kernel
theorem dX1_divide_46 : decode cX1_divide 46 = .ok (.getfield 15, 3) := by decide +kernel
theorem dX1_divide_49 : decode cX1_divide 49 = .ok (.iload 6, 2) := by decide +kernel
theorem dX1_divide_51 : decode cX1_divide 51 = .ok (.iload_n 3, 1) := by decide +kernel
theorem dX1_divide_52 : decode cX1_divide 52 = .ok (.iadd, 1) := by decide +kernel
theorem dX1_divide_53 : decode cX1_divide 53 = .ok (.laload, 1) := by decide +kernel
theorem dX1_divide_54 : decode cX1_divide 54 = .ok (.lload 4, 2) := by decide +kernel
theorem dX1_divide_56 : decode cX1_divide 56 = .ok (.ldiv, 1) := by decide +kernel
theorem dX1_divide_57 : decode cX1_divide 57 = .ok (.lstore 7, 2) := by decide +kernel
theorem dX1_divide_59 : decode cX1_divide 59 = .ok (.lload 7, 2) := by decide +kernel
theorem dX1_divide_61 : decode cX1_divide 61 = .ok (.lload 4, 2) := by decide +kernel
theorem dX1_divide_63 : decode cX1_divide 63 = .ok (.lmul, 1) := by decide +kernel
theorem dX1_divide_64 : decode cX1_divide 64 = .ok (.aload_n 0, 1) := by decide +kernel
theorem dX1_divide_65 : decode cX1_divide 65 = .ok (.getfield 15, 3) := by decide +kernel
theorem dX1_divide_68 : decode cX1_divide 68 = .ok (.iload 6, 2) := by decide +kernel
theorem dX1_divide_70 : decode cX1_divide 70 = .ok (.iload_n 3, 1) := by decide +kernel
theorem dX1_divide_71 : decode cX1_divide 71 = .ok (.iadd, 1) := by decide +kernel
theorem dX1_divide_72 : decode cX1_divide 72 = .ok (.laload, 1) := by decide +kernel
theorem dX1_divide_73 : decode cX1_divide 73 = .ok (.lcmp, 1) := by decide +kernel
theorem dX1_divide_74 : decode cX1_divide 74 = .ok (.ifCond .ne 15, 3) := by decide +kernel
theorem dX1_divide_77 : decode cX1_divide 77 = .ok (.lload 7, 2) := by decide +kernel
theorem dX1_divide_79 : decode cX1_divide 79 = .ok (.invokestatic 34, 3) := by decide +kernel
theorem dX1_divide_82 : decode cX1_divide 82 = .ok (.ldc2_w 40, 3) := by decide +kernel
theorem dX1_divide_85 : decode cX1_divide 85 = .ok (.lcmp, 1) := by decide +kernel
theorem dX1_divide_86 : decode cX1_divide 86 = .ok (.ifCond .le 5, 3) := by decide +kernel
theorem dX1_divide_89 : decode cX1_divide 89 = .ok (.iconst 0, 1) := by decide +kernel
theorem dX1_divide_90 : decode cX1_divide 90 = .ok (.ireturn, 1) := by decide +kernel
theorem dX1_divide_91 : decode cX1_divide 91 = .ok (.aload_n 0, 1) := by decide +kernel
theorem dX1_divide_92 : decode cX1_divide 92 = .ok (.getfield 9, 3) := by decide +kernel
theorem dX1_divide_95 : decode cX1_divide 95 = .ok (.iload 6, 2) := by decide +kernel
theorem dX1_divide_97 : decode cX1_divide 97 = .ok (.lload 7, 2) := by decide +kernel
theorem dX1_divide_99 : decode cX1_divide 99 = .ok (.lastore, 1) := by decide +kernel
theorem dX1_divide_100 : decode cX1_divide 100 = .ok (.iconst 0, 1) := by decide +kernel
theorem dX1_divide_101 : decode cX1_divide 101 = .ok (.istore 9, 2) := by decide +kernel
theorem dX1_divide_103 : decode cX1_divide 103 = .ok (.iload 9, 2) := by decide +kernel
theorem dX1_divide_105 : decode cX1_divide 105 = .ok (.iload_n 3, 1) := by decide +kernel
theorem dX1_divide_106 : decode cX1_divide 106 = .ok (.if_icmp .gt 29, 3) := by decide +kernel
theorem dX1_divide_109 : decode cX1_divide 109 = .ok (.aload_n 0, 1) := by decide +kernel
theorem dX1_divide_110 : decode cX1_divide 110 = .ok (.getfield 15, 3) := by decide +kernel
theorem dX1_divide_113 : decode cX1_divide 113 = .ok (.iload 6, 2) := by decide +kernel
theorem dX1_divide_115 : decode cX1_divide 115 = .ok (.iload 9, 2) := by decide +kernel
theorem dX1_divide_117 : decode cX1_divide 117 = .ok (.iadd, 1) := by decide +kernel
theorem dX1_divide_118 : decode cX1_divide 118 = .ok (.dup2, 1) := by decide +kernel
theorem dX1_divide_119 : decode cX1_divide 119 = .ok (.laload, 1) := by decide +kernel
theorem dX1_divide_120 : decode cX1_divide 120 = .ok (.lload 7, 2) := by decide +kernel
theorem dX1_divide_122 : decode cX1_divide 122 = .ok (.aload_n 2, 1) := by decide +kernel
theorem dX1_divide_123 : decode cX1_divide 123 = .ok (.iload 9, 2) := by decide +kernel
theorem dX1_divide_125 : decode cX1_divide 125 = .ok (.laload, 1) := by decide +kernel
theorem dX1_divide_126 : decode cX1_divide 126 = .ok (.lmul, 1) := by decide +kernel
theorem dX1_divide_127 : decode cX1_divide 127 = .ok (.lsub, 1) := by decide +kernel
theorem dX1_divide_128 : decode cX1_divide 128 = .ok (.lastore, 1) := by decide +kernel
theorem dX1_divide_129 : decode cX1_divide 129 = .ok (.iinc 9 1, 3) := by decide +kernel
theorem dX1_divide_132 : decode cX1_divide 132 = .ok (.goto (-29), 3) := by decide +kernel
theorem dX1_divide_135 : decode cX1_divide 135 = .ok (.iinc 6 (-1), 3) := by decide +kernel
theorem dX1_divide_138 : decode cX1_divide 138 = .ok (.goto (-98), 3) := by decide +kernel
theorem dX1_divide_141 : decode cX1_divide 141 = .ok (.aload_n 0, 1) := by decide +kernel
theorem dX1_divide_142 : decode cX1_divide 142 = .ok (.getfield 15, 3) := by decide +kernel
theorem dX1_divide_145 : decode cX1_divide 145 = .ok (.invokestatic 18, 3) := by decide +kernel
theorem dX1_divide_148 : decode cX1_divide 148 = .ok (.ifCond .ge 7, 3) := by decide +kernel
theorem dX1_divide_151 : decode cX1_divide 151 = .ok (.iconst 1, 1) := by decide +kernel
theorem dX1_divide_152 : decode cX1_divide 152 = .ok (.goto 4, 3) := by decide +kernel
theorem dX1_divide_155 : decode cX1_divide 155 = .ok (.iconst 0, 1) := by decide +kernel
theorem dX1_divide_156 : decode cX1_divide 156 = .ok (.ireturn, 1) := by decide +kernel
theorem dX2_joinPieces_0 : decode cX2_joinPieces 0 = .ok (.aload_n 0, 1) := by decide +kernel
theorem dX2_joinPieces_1 : decode cX2_joinPieces 1 = .ok (.getfield 49, 3) := by decide +kernel
theorem dX2_joinPieces_4 : decode cX2_joinPieces 4 = .ok (.getfield 104, 3) := by decide +kernel
theorem dX2_joinPieces_7 : decode cX2_joinPieces 7 = .ok (.istore_n 1, 1) := by decide +kernel
theorem dX2_joinPieces_8 : decode cX2_joinPieces 8 = .ok (.iload_n 1, 1) := by decide +kernel
theorem dX2_joinPieces_9 : decode cX2_joinPieces 9 = .ok (.istore_n 2, 1) := by decide +kernel
theorem dX2_joinPieces_10 : decode cX2_joinPieces 10 = .ok (.iconst 0, 1) := by decide +kernel
theorem dX2_joinPieces_11 : decode cX2_joinPieces 11 = .ok (.istore_n 3, 1) := by decide +kernel
theorem dX2_joinPieces_12 : decode cX2_joinPieces 12 = .ok (.iconst 1, 1) := by decide +kernel
theorem dX2_joinPieces_13 : decode cX2_joinPieces 13 = .ok (.istore 4, 2) := by decide +kernel
theorem dX2_joinPieces_15 : decode cX2_joinPieces 15 = .ok (.iconst 2, 1) := by decide +kernel
theorem dX2_joinPieces_16 : decode cX2_joinPieces 16 = .ok (.iload 4, 2) := by decide +kernel
theorem dX2_joinPieces_18 : decode cX2_joinPieces 18 = .ok (.imul, 1) := by decide +kernel
theorem dX2_joinPieces_19 : decode cX2_joinPieces 19 = .ok (.iload_n 2, 1) := by decide +kernel
theorem dX2_joinPieces_20 : decode cX2_joinPieces 20 = .ok (.if_icmp .gt 92, 3) := by decide +kernel
theorem dX2_joinPieces_23 : decode cX2_joinPieces 23 = .ok (.iconst 1, 1) := by decide +kernel
theorem dX2_joinPieces_24 : decode cX2_joinPieces 24 = .ok (.istore 5, 2) := by decide +kernel
theorem dX2_joinPieces_26 : decode cX2_joinPieces 26 = .ok (.iload 5, 2) := by decide +kernel
theorem dX2_joinPieces_28 : decode cX2_joinPieces 28 = .ok (.iconst 1, 1) := by decide +kernel
theorem dX2_joinPieces_29 : decode cX2_joinPieces 29 = .ok (.iload_n 1, 1) := by decide +kernel
theorem dX2_joinPieces_30 : decode cX2_joinPieces 30 = .ok (.ishl, 1) := by decide +kernel
theorem dX2_joinPieces_31 : decode cX2_joinPieces 31 = .ok (.if_icmp .ge 75, 3) := by decide +kernel
theorem dX2_joinPieces_34 : decode cX2_joinPieces 34 = .ok (.iconst 2, 1) := by decide +kernel
theorem dX2_joinPieces_35 : decode cX2_joinPieces 35 = .ok (.iload 4, 2) := by decide +kernel
theorem dX2_joinPieces_37 : decode cX2_joinPieces 37 = .ok (.imul, 1) := by decide +kernel
theorem dX2_joinPieces_38 : decode cX2_joinPieces 38 = .ok (.iload_n 2, 1) := by decide +kernel
theorem dX2_joinPieces_39 : decode cX2_joinPieces 39 = .ok (.if_icmp .gt 67, 3) := by decide +kernel
theorem dX2_joinPieces_42 : decode cX2_joinPieces 42 = .ok (.iload 5, 2) := by decide +kernel
theorem dX2_joinPieces_44 : decode cX2_joinPieces 44 = .ok (.invokestatic 107, 3) := by decide +kernel
theorem dX2_joinPieces_47 : decode cX2_joinPieces 47 = .ok (.iload 4, 2) := by decide +kernel
theorem dX2_joinPieces_49 : decode cX2_joinPieces 49 = .ok (.if_icmp .ne 51, 3) := by decide +kernel
theorem dX2_joinPieces_52 : decode cX2_joinPieces 52 = .ok (.iload 5, 2) := by decide +kernel
theorem dX2_joinPieces_54 : decode cX2_joinPieces 54 = .ok (.iload_n 3, 1) := by decide +kernel
theorem dX2_joinPieces_55 : decode cX2_joinPieces 55 = .ok (.iand, 1) := by decide +kernel
theorem dX2_joinPieces_56 : decode cX2_joinPieces 56 = .ok (.ifCond .ne 44, 3) := by decide +kernel
theorem dX2_joinPieces_59 : decode cX2_joinPieces 59 = .ok (.aload_n 0, 1) := by decide +kernel
theorem dX2_joinPieces_60 : decode cX2_joinPieces 60 = .ok (.iload 5, 2) := by decide +kernel
theorem dX2_joinPieces_62 : decode cX2_joinPieces 62 = .ok (.invokevirtual 113, 3) := by decide +kernel
theorem dX2_joinPieces_65 : decode cX2_joinPieces 65 = .ok (.ifCond .eq 35, 3) := by decide +kernel
theorem dX2_joinPieces_68 : decode cX2_joinPieces 68 = .ok (.aload_n 0, 1) := by decide +kernel
theorem dX2_joinPieces_69 : decode cX2_joinPieces 69 = .ok (.aload_n 0, 1) := by decide +kernel
theorem dX2_joinPieces_70 : decode cX2_joinPieces 70 = .ok (.getfield 34, 3) := by decide +kernel
theorem dX2_joinPieces_73 : decode cX2_joinPieces 73 = .ok (.invokevirtual 117, 3) := by decide +kernel
theorem dX2_joinPieces_76 : decode cX2_joinPieces 76 = .ok (.aload_n 0, 1) := by decide +kernel
theorem dX2_joinPieces_77 : decode cX2_joinPieces 77 = .ok (.getfield 41, 3) := by decide +kernel
theorem dX2_joinPieces_80 : decode cX2_joinPieces 80 = .ok (.getfield 98, 3) := by decide +kernel
theorem dX2_joinPieces_83 : decode cX2_joinPieces 83 = .ok (.aload_n 0, 1) := by decide +kernel
theorem dX2_joinPieces_84 : decode cX2_joinPieces 84 = .ok (.getfield 24, 3) := by decide +kernel
theorem dX2_joinPieces_87 : decode cX2_joinPieces 87 = .ok (.invokestatic 101, 3) := by decide +kernel
theorem dX2_joinPieces_90 : decode cX2_joinPieces 90 = .ok (.iload_n 3, 1) := by decide +kernel
theorem dX2_joinPieces_91 : decode cX2_joinPieces 91 = .ok (.iload 5, 2) := by decide +kernel
theorem dX2_joinPieces_93 : decode cX2_joinPieces 93 = .ok (.ior, 1) := by decide +kernel
theorem dX2_joinPieces_94 : decode cX2_joinPieces 94 = .ok (.istore_n 3, 1) := by decide +kernel
theorem dX2_joinPieces_95 : decode cX2_joinPieces 95 = .ok (.iload_n 2, 1) := by decide +kernel
theorem dX2_joinPieces_96 : decode cX2_joinPieces 96 = .ok (.iload 4, 2) := by decide +kernel
theorem dX2_joinPieces_98 : decode cX2_joinPieces 98 = .ok (.isub, 1) := by decide +kernel
theorem dX2_joinPieces_99 : decode cX2_joinPieces 99 = .ok (.istore_n 2, 1) := by decide +kernel
theorem dX2_joinPieces_100 : decode cX2_joinPieces 100 = .ok (.iinc 5 1, 3) := by decide +kernel
theorem dX2_joinPieces_103 : decode cX2_joinPieces 103 = .ok (.goto (-77), 3) := by decide +kernel
theorem dX2_joinPieces_106 : decode cX2_joinPieces 106 = .ok (.iinc 4 1, 3) := by decide +kernel
theorem dX2_joinPieces_109 : decode cX2_joinPieces 109 = .ok (.goto (-94), 3) := by decide +kernel
theorem dX2_joinPieces_112 : decode cX2_joinPieces 112 = .ok (.aload_n 0, 1) := by decide +kernel
theorem dX2_joinPieces_113 : decode cX2_joinPieces 113 = .ok (.aload_n 0, 1) := by decide +kernel
theorem dX2_joinPieces_114 : decode cX2_joinPieces 114 = .ok (.getfield 24, 3) := by decide +kernel
theorem dX2_joinPieces_117 : decode cX2_joinPieces 117 = .ok (.invokevirtual 117, 3) := by decide +kernel
theorem dX2_joinPieces_120 : decode cX2_joinPieces 120 = .ok (.return_, 1) := by decide +kernel
theorem dX2_divides_0 : decode cX2_divides 0 = .ok (.aload_n 0, 1) := by decide +kernel
theorem dX2_divides_1 : decode cX2_divides 1 = .ok (.getfield 28, 3) := by decide +kernel
theorem dX2_divides_4 : decode cX2_divides 4 = .ok (.invokestatic 53, 3) := by decide +kernel
theorem dX2_divides_7 : decode cX2_divides 7 = .ok (.istore_n 2, 1) := by decide +kernel
theorem dX2_divides_8 : decode cX2_divides 8 = .ok (.aload_n 0, 1) := by decide +kernel
theorem dX2_divides_9 : decode cX2_divides 9 = .ok (.getfield 24, 3) := by decide +kernel
theorem dX2_divides_12 : decode cX2_divides 12 = .ok (.iconst 0, 1) := by decide +kernel
theorem dX2_divides_13 : decode cX2_divides 13 = .ok (.aload_n 0, 1) := by decide +kernel
theorem dX2_divides_14 : decode cX2_divides 14 = .ok (.getfield 24, 3) := by decide +kernel
theorem dX2_divides_17 : decode cX2_divides 17 = .ok (.invokestatic 53, 3) := by decide +kernel
theorem dX2_divides_20 : decode cX2_divides 20 = .ok (.invokestatic 120, 3) := by decide +kernel
theorem dX2_divides_23 : decode cX2_divides 23 = .ok (.laload, 1) := by decide +kernel
theorem dX2_divides_24 : decode cX2_divides 24 = .ok (.lstore_n 3, 1) := by decide +kernel
theorem dX2_divides_25 : decode cX2_divides 25 = .ok (.aload_n 0, 1) := by decide +kernel
theorem dX2_divides_26 : decode cX2_divides 26 = .ok (.iload_n 1, 1) := by decide +kernel
theorem dX2_divides_27 : decode cX2_divides 27 = .ok (.lload_n 3, 1) := by decide +kernel
theorem dX2_divides_28 : decode cX2_divides 28 = .ok (.invokevirtual 126, 3) := by decide +kernel
theorem dX2_divides_31 : decode cX2_divides 31 = .ok (.ifCond .ne 5, 3) := by decide +kernel
theorem dX2_divides_34 : decode cX2_divides 34 = .ok (.iconst 0, 1) := by decide +kernel
theorem dX2_divides_35 : decode cX2_divides 35 = .ok (.ireturn, 1) := by decide +kernel
theorem dX2_divides_36 : decode cX2_divides 36 = .ok (.aload_n 0, 1) := by decide +kernel
theorem dX2_divides_37 : decode cX2_divides 37 = .ok (.getfield 34, 3) := by decide +kernel
theorem dX2_divides_40 : decode cX2_divides 40 = .ok (.lconst 0, 1) := by decide +kernel
theorem dX2_divides_41 : decode cX2_divides 41 = .ok (.invokestatic 130, 3) := by decide +kernel
theorem dX2_divides_44 : decode cX2_divides 44 = .ok (.aload_n 0, 1) := by decide +kernel
theorem dX2_divides_45 : decode cX2_divides 45 = .ok (.getfield 34, 3) := by decide +kernel
theorem dX2_divides_48 : decode cX2_divides 48 = .ok (.iconst 0, 1) := by decide +kernel
theorem dX2_divides_49 : decode cX2_divides 49 = .ok (.lconst 1, 1) := by decide +kernel
theorem dX2_divides_50 : decode cX2_divides 50 = .ok (.lastore, 1) := by decide +kernel
theorem dX2_divides_51 : decode cX2_divides 51 = .ok (.iconst 0, 1) := by decide +kernel
theorem dX2_divides_52 : decode cX2_divides 52 = .ok (.istore 5, 2) := by decide +kernel
theorem dX2_divides_54 : decode cX2_divides 54 = .ok (.iload 5, 2) := by decide +kernel
theorem dX2_divides_56 : decode cX2_divides 56 = .ok (.aload_n 0, 1) := by decide +kernel
theorem dX2_divides_57 : decode cX2_divides 57 = .ok (.getfield 49, 3) := by decide +kernel
theorem dX2_divides_60 : decode cX2_divides 60 = .ok (.getfield 104, 3) := by decide +kernel
theorem dX2_divides_63 : decode cX2_divides 63 = .ok (.if_icmp .ge 49, 3) := by decide +kernel
theorem dX2_divides_66 : decode cX2_divides 66 = .ok (.iload_n 1, 1) := by decide +kernel
theorem dX2_divides_67 : decode cX2_divides 67 = .ok (.iload 5, 2) := by decide +kernel
theorem dX2_divides_69 : decode cX2_divides 69 = .ok (.ishr, 1) := by decide +kernel
theorem dX2_divides_70 : decode cX2_divides 70 = .ok (.iconst 1, 1) := by decide +kernel
theorem dX2_divides_71 : decode cX2_divides 71 = .ok (.iand, 1) := by decide +kernel
theorem dX2_divides_72 : decode cX2_divides 72 = .ok (.iconst 1, 1) := by decide +kernel
theorem dX2_divides_73 : decode cX2_divides 73 = .ok (.if_icmp .ne 33, 3) := by decide +kernel
theorem dX2_divides_76 : decode cX2_divides 76 = .ok (.aload_n 0, 1) := by decide +kernel
theorem dX2_divides_77 : decode cX2_divides 77 = .ok (.getfield 37, 3) := by decide +kernel
theorem dX2_divides_80 : decode cX2_divides 80 = .ok (.aload_n 0, 1) := by decide +kernel
theorem dX2_divides_81 : decode cX2_divides 81 = .ok (.getfield 34, 3) := by decide +kernel
theorem dX2_divides_84 : decode cX2_divides 84 = .ok (.aload_n 0, 1) := by decide +kernel
theorem dX2_divides_85 : decode cX2_divides 85 = .ok (.getfield 49, 3) := by decide +kernel
theorem dX2_divides_88 : decode cX2_divides 88 = .ok (.getfield 136, 3) := by decide +kernel
theorem dX2_divides_91 : decode cX2_divides 91 = .ok (.iload 5, 2) := by decide +kernel
theorem dX2_divides_93 : decode cX2_divides 93 = .ok (.aaload, 1) := by decide +kernel
theorem dX2_divides_94 : decode cX2_divides 94 = .ok (.aload_n 0, 1) := by decide +kernel
theorem dX2_divides_95 : decode cX2_divides 95 = .ok (.getfield 28, 3) := by decide +kernel
theorem dX2_divides_98 : decode cX2_divides 98 = .ok (.iload_n 2, 1) := by decide +kernel
theorem dX2_divides_99 : decode cX2_divides 99 = .ok (.aload_n 0, 1) := by decide +kernel
theorem dX2_divides_100 : decode cX2_divides 100 = .ok (.getfield 34, 3) := by decide +kernel
theorem dX2_divides_103 : decode cX2_divides 103 = .ok (.invokevirtual 139, 3) := by decide +kernel
theorem dX2_divides_106 : decode cX2_divides 106 = .ok (.iinc 5 1, 3) := by decide +kernel
theorem dX2_divides_109 : decode cX2_divides 109 = .ok (.goto (-55), 3) := by decide +kernel
theorem dX2_divides_112 : decode cX2_divides 112 = .ok (.aload_n 0, 1) := by decide +kernel
theorem dX2_divides_113 : decode cX2_divides 113 = .ok (.getfield 37, 3) := by decide +kernel
theorem dX2_divides_116 : decode cX2_divides 116 = .ok (.aload_n 0, 1) := by decide +kernel
theorem dX2_divides_117 : decode cX2_divides 117 = .ok (.getfield 34, 3) := by decide +kernel
theorem dX2_divides_120 : decode cX2_divides 120 = .ok (.lload_n 3, 1) := by decide +kernel
theorem dX2_divides_121 : decode cX2_divides 121 = .ok (.invokevirtual 143, 3) := by decide +kernel
theorem dX2_divides_124 : decode cX2_divides 124 = .ok (.aload_n 0, 1) := by decide +kernel
theorem dX2_divides_125 : decode cX2_divides 125 = .ok (.getfield 34, 3) := by decide +kernel
theorem dX2_divides_128 : decode cX2_divides 128 = .ok (.invokestatic 146, 3) := by decide +kernel
theorem dX2_divides_131 : decode cX2_divides 131 = .ok (.aload_n 0, 1) := by decide +kernel
theorem dX2_divides_132 : decode cX2_divides 132 = .ok (.getfield 41, 3) := by decide +kernel
theorem dX2_divides_135 : decode cX2_divides 135 = .ok (.aload_n 0, 1) := by decide +kernel
theorem dX2_divides_136 : decode cX2_divides 136 = .ok (.getfield 24, 3) := by decide +kernel
theorem dX2_divides_139 : decode cX2_divides 139 = .ok (.aload_n 0, 1) := by decide +kernel
theorem dX2_divides_140 : decode cX2_divides 140 = .ok (.getfield 34, 3) := by decide +kernel
theorem dX2_divides_143 : decode cX2_divides 143 = .ok (.invokevirtual 92, 3) := by decide +kernel
theorem dX2_divides_146 : decode cX2_divides 146 = .ok (.ireturn, 1) := by decide +kernel
theorem dX2_tailFits_0 : decode cX2_tailFits 0 = .ok (.lload_n 2, 1) := by decide +kernel
theorem dX2_tailFits_1 : decode cX2_tailFits 1 = .ok (.lstore 4, 2) := by decide +kernel
theorem dX2_tailFits_3 : decode cX2_tailFits 3 = .ok (.iconst 0, 1) := by decide +kernel
theorem dX2_tailFits_4 : decode cX2_tailFits 4 = .ok (.istore 6, 2) := by decide +kernel
theorem dX2_tailFits_6 : decode cX2_tailFits 6 = .ok (.iload 6, 2) := by decide +kernel
theorem dX2_tailFits_8 : decode cX2_tailFits 8 = .ok (.aload_n 0, 1) := by decide +kernel
theorem dX2_tailFits_9 : decode cX2_tailFits 9 = .ok (.getfield 49, 3) := by decide +kernel
theorem dX2_tailFits_12 : decode cX2_tailFits 12 = .ok (.getfield 104, 3) := by decide +kernel
theorem dX2_tailFits_15 : decode cX2_tailFits 15 = .ok (.if_icmp .ge 44, 3) := by decide +kernel
theorem dX2_tailFits_18 : decode cX2_tailFits 18 = .ok (.iload_n 1, 1) := by decide +kernel
theorem dX2_tailFits_19 : decode cX2_tailFits 19 = .ok (.iload 6, 2) := by decide +kernel
theorem dX2_tailFits_21 : decode cX2_tailFits 21 = .ok (.ishr, 1) := by decide +kernel
theorem dX2_tailFits_22 : decode cX2_tailFits 22 = .ok (.iconst 1, 1) := by decide +kernel
theorem dX2_tailFits_23 : decode cX2_tailFits 23 = .ok (.iand, 1) := by decide +kernel
theorem dX2_tailFits_24 : decode cX2_tailFits 24 = .ok (.iconst 1, 1) := by decide +kernel
theorem dX2_tailFits_25 : decode cX2_tailFits 25 = .ok (.if_icmp .ne 28, 3) := by decide +kernel
theorem dX2_tailFits_28 : decode cX2_tailFits 28 = .ok (.lload 4, 2) := by decide +kernel
theorem dX2_tailFits_30 : decode cX2_tailFits 30 = .ok (.aload_n 0, 1) := by decide +kernel
theorem dX2_tailFits_31 : decode cX2_tailFits 31 = .ok (.getfield 49, 3) := by decide +kernel
theorem dX2_tailFits_34 : decode cX2_tailFits 34 = .ok (.getfield 136, 3) := by decide +kernel
theorem dX2_tailFits_37 : decode cX2_tailFits 37 = .ok (.iload 6, 2) := by decide +kernel
theorem dX2_tailFits_39 : decode cX2_tailFits 39 = .ok (.aaload, 1) := by decide +kernel
theorem dX2_tailFits_40 : decode cX2_tailFits 40 = .ok (.iconst 0, 1) := by decide +kernel
theorem dX2_tailFits_41 : decode cX2_tailFits 41 = .ok (.laload, 1) := by decide +kernel
theorem dX2_tailFits_42 : decode cX2_tailFits 42 = .ok (.lmul, 1) := by decide +kernel
theorem dX2_tailFits_43 : decode cX2_tailFits 43 = .ok (.aload_n 0, 1) := by decide +kernel
theorem dX2_tailFits_44 : decode cX2_tailFits 44 = .ok (.getfield 37, 3) := by decide +kernel
theorem dX2_tailFits_47 : decode cX2_tailFits 47 = .ok (.getfield 149, 3) := by decide +kernel
theorem dX2_tailFits_50 : decode cX2_tailFits 50 = .ok (.lrem, 1) := by decide +kernel
theorem dX2_tailFits_51 : decode cX2_tailFits 51 = .ok (.lstore 4, 2) := by decide +kernel
theorem dX2_tailFits_53 : decode cX2_tailFits 53 = .ok (.iinc 6 1, 3) := by decide +kernel
theorem dX2_tailFits_56 : decode cX2_tailFits 56 = .ok (.goto (-50), 3) := by decide +kernel
theorem dX2_tailFits_59 : decode cX2_tailFits 59 = .ok (.aload_n 0, 1) := by decide +kernel
theorem dX2_tailFits_60 : decode cX2_tailFits 60 = .ok (.getfield 37, 3) := by decide +kernel
theorem dX2_tailFits_63 : decode cX2_tailFits 63 = .ok (.lload 4, 2) := by decide +kernel
theorem dX2_tailFits_65 : decode cX2_tailFits 65 = .ok (.invokevirtual 153, 3) := by decide +kernel
theorem dX2_tailFits_68 : decode cX2_tailFits 68 = .ok (.lstore 4, 2) := by decide +kernel
theorem dX2_tailFits_70 : decode cX2_tailFits 70 = .ok (.lload 4, 2) := by decide +kernel
theorem dX2_tailFits_72 : decode cX2_tailFits 72 = .ok (.lconst 0, 1) := by decide +kernel
theorem dX2_tailFits_73 : decode cX2_tailFits 73 = .ok (.lcmp, 1) := by decide +kernel
theorem dX2_tailFits_74 : decode cX2_tailFits 74 = .ok (.ifCond .ne 22, 3) := by decide +kernel
theorem dX2_tailFits_77 : decode cX2_tailFits 77 = .ok (.aload_n 0, 1) := by decide +kernel
theorem dX2_tailFits_78 : decode cX2_tailFits 78 = .ok (.getfield 24, 3) := by decide +kernel
theorem dX2_tailFits_81 : decode cX2_tailFits 81 = .ok (.iconst 0, 1) := by decide +kernel
theorem dX2_tailFits_82 : decode cX2_tailFits 82 = .ok (.laload, 1) := by decide +kernel
theorem dX2_tailFits_83 : decode cX2_tailFits 83 = .ok (.lconst 0, 1) := by decide +kernel
theorem dX2_tailFits_84 : decode cX2_tailFits 84 = .ok (.lcmp, 1) := by decide +kernel
theorem dX2_tailFits_85 : decode cX2_tailFits 85 = .ok (.ifCond .ne 7, 3) := by decide +kernel
theorem dX2_tailFits_88 : decode cX2_tailFits 88 = .ok (.iconst 1, 1) := by decide +kernel
theorem dX2_tailFits_89 : decode cX2_tailFits 89 = .ok (.goto 28, 3) := by decide +kernel
theorem dX2_tailFits_92 : decode cX2_tailFits 92 = .ok (.iconst 0, 1) := by decide +kernel
theorem dX2_tailFits_93 : decode cX2_tailFits 93 = .ok (.goto 24, 3) := by decide +kernel
theorem dX2_tailFits_96 : decode cX2_tailFits 96 = .ok (.lload_n 2, 1) := by decide +kernel
theorem dX2_tailFits_97 : decode cX2_tailFits 97 = .ok (.aload_n 0, 1) := by decide +kernel
theorem dX2_tailFits_98 : decode cX2_tailFits 98 = .ok (.getfield 24, 3) := by decide +kernel
theorem dX2_tailFits_101 : decode cX2_tailFits 101 = .ok (.iconst 0, 1) := by decide +kernel
theorem dX2_tailFits_102 : decode cX2_tailFits 102 = .ok (.laload, 1) := by decide +kernel
theorem dX2_tailFits_103 : decode cX2_tailFits 103 = .ok (.lmul, 1) := by decide +kernel
theorem dX2_tailFits_104 : decode cX2_tailFits 104 = .ok (.lload 4, 2) := by decide +kernel
theorem dX2_tailFits_106 : decode cX2_tailFits 106 = .ok (.lrem, 1) := by decide +kernel
theorem dX2_tailFits_107 : decode cX2_tailFits 107 = .ok (.lconst 0, 1) := by decide +kernel
theorem dX2_tailFits_108 : decode cX2_tailFits 108 = .ok (.lcmp, 1) := by decide +kernel
theorem dX2_tailFits_109 : decode cX2_tailFits 109 = .ok (.ifCond .ne 7, 3) := by decide +kernel
theorem dX2_tailFits_112 : decode cX2_tailFits 112 = .ok (.iconst 1, 1) := by decide +kernel
theorem dX2_tailFits_113 : decode cX2_tailFits 113 = .ok (.goto 4, 3) := by decide +kernel
theorem dX2_tailFits_116 : decode cX2_tailFits 116 = .ok (.iconst 0, 1) := by decide +kernel
theorem dX2_tailFits_117 : decode cX2_tailFits 117 = .ok (.ireturn, 1) := by decide +kernel
theorem dX2_add_0 : decode cX2_add 0 = .ok (.aload_n 0, 1) := by decide +kernel
theorem dX2_add_1 : decode cX2_add 1 = .ok (.getfield 20, 3) := by decide +kernel
theorem dX2_add_4 : decode cX2_add 4 = .ok (.bipush 10, 2) := by decide +kernel
theorem dX2_add_6 : decode cX2_add 6 = .ok (.if_icmp .lt 4, 3) := by decide +kernel
theorem dX2_add_9 : decode cX2_add 9 = .ok (.return_, 1) := by decide +kernel
theorem dX2_add_10 : decode cX2_add 10 = .ok (.aload_n 0, 1) := by decide +kernel
theorem dX2_add_11 : decode cX2_add 11 = .ok (.getfield 20, 3) := by decide +kernel
theorem dX2_add_14 : decode cX2_add 14 = .ok (.istore_n 2, 1) := by decide +kernel
theorem dX2_add_15 : decode cX2_add 15 = .ok (.iload_n 2, 1) := by decide +kernel
theorem dX2_add_16 : decode cX2_add 16 = .ok (.ifCond .le 41, 3) := by decide +kernel
theorem dX2_add_19 : decode cX2_add 19 = .ok (.aload_n 1, 1) := by decide +kernel
theorem dX2_add_20 : decode cX2_add 20 = .ok (.aload_n 0, 1) := by decide +kernel
theorem dX2_add_21 : decode cX2_add 21 = .ok (.getfield 11, 3) := by decide +kernel
theorem dX2_add_24 : decode cX2_add 24 = .ok (.iload_n 2, 1) := by decide +kernel
theorem dX2_add_25 : decode cX2_add 25 = .ok (.iconst 1, 1) := by decide +kernel
theorem dX2_add_26 : decode cX2_add 26 = .ok (.isub, 1) := by decide +kernel
theorem dX2_add_27 : decode cX2_add 27 = .ok (.aaload, 1) := by decide +kernel
theorem dX2_add_28 : decode cX2_add 28 = .ok (.invokestatic 157, 3) := by decide +kernel
theorem dX2_add_31 : decode cX2_add 31 = .ok (.ifCond .eq 26, 3) := by decide +kernel
theorem dX2_add_34 : decode cX2_add 34 = .ok (.aload_n 0, 1) := by decide +kernel
theorem dX2_add_35 : decode cX2_add 35 = .ok (.getfield 11, 3) := by decide +kernel
theorem dX2_add_38 : decode cX2_add 38 = .ok (.iload_n 2, 1) := by decide +kernel
theorem dX2_add_39 : decode cX2_add 39 = .ok (.iconst 1, 1) := by decide +kernel
theorem dX2_add_40 : decode cX2_add 40 = .ok (.isub, 1) := by decide +kernel
theorem dX2_add_41 : decode cX2_add 41 = .ok (.aaload, 1) := by decide +kernel
theorem dX2_add_42 : decode cX2_add 42 = .ok (.aload_n 0, 1) := by decide +kernel
theorem dX2_add_43 : decode cX2_add 43 = .ok (.getfield 11, 3) := by decide +kernel
theorem dX2_add_46 : decode cX2_add 46 = .ok (.iload_n 2, 1) := by decide +kernel
theorem dX2_add_47 : decode cX2_add 47 = .ok (.aaload, 1) := by decide +kernel
theorem dX2_add_48 : decode cX2_add 48 = .ok (.invokestatic 101, 3) := by decide +kernel
theorem dX2_add_51 : decode cX2_add 51 = .ok (.iinc 2 (-1), 3) := by decide +kernel
theorem dX2_add_54 : decode cX2_add 54 = .ok (.goto (-39), 3) := by decide +kernel
theorem dX2_add_57 : decode cX2_add 57 = .ok (.aload_n 1, 1) := by decide +kernel
theorem dX2_add_58 : decode cX2_add 58 = .ok (.aload_n 0, 1) := by decide +kernel
theorem dX2_add_59 : decode cX2_add 59 = .ok (.getfield 11, 3) := by decide +kernel
theorem dX2_add_62 : decode cX2_add 62 = .ok (.iload_n 2, 1) := by decide +kernel
theorem dX2_add_63 : decode cX2_add 63 = .ok (.aaload, 1) := by decide +kernel
theorem dX2_add_64 : decode cX2_add 64 = .ok (.invokestatic 101, 3) := by decide +kernel
theorem dX2_add_67 : decode cX2_add 67 = .ok (.aload_n 0, 1) := by decide +kernel
theorem dX2_add_68 : decode cX2_add 68 = .ok (.dup, 1) := by decide +kernel
theorem dX2_add_69 : decode cX2_add 69 = .ok (.getfield 20, 3) := by decide +kernel
theorem dX2_add_72 : decode cX2_add 72 = .ok (.iconst 1, 1) := by decide +kernel
theorem dX2_add_73 : decode cX2_add 73 = .ok (.iadd, 1) := by decide +kernel
theorem dX2_add_74 : decode cX2_add 74 = .ok (.putfield 20, 3) := by decide +kernel
theorem dX2_add_77 : decode cX2_add 77 = .ok (.return_, 1) := by decide +kernel
theorem dX2_countMultiplicities_0 : decode cX2_countMultiplicities 0 = .ok (.aload_n 1, 1) := by decide +kernel
theorem dX2_countMultiplicities_1 : decode cX2_countMultiplicities 1 = .ok (.aload_n 0, 1) := by decide +kernel
theorem dX2_countMultiplicities_2 : decode cX2_countMultiplicities 2 = .ok (.getfield 24, 3) := by decide +kernel
theorem dX2_countMultiplicities_5 : decode cX2_countMultiplicities 5 = .ok (.invokestatic 101, 3) := by decide +kernel
theorem dX2_countMultiplicities_8 : decode cX2_countMultiplicities 8 = .ok (.iconst 0, 1) := by decide +kernel
theorem dX2_countMultiplicities_9 : decode cX2_countMultiplicities 9 = .ok (.istore_n 2, 1) := by decide +kernel
theorem dX2_countMultiplicities_10 : decode cX2_countMultiplicities 10 = .ok (.iload_n 2, 1) := by decide +kernel
theorem dX2_countMultiplicities_11 : decode cX2_countMultiplicities 11 = .ok (.aload_n 0, 1) := by decide +kernel
theorem dX2_countMultiplicities_12 : decode cX2_countMultiplicities 12 = .ok (.getfield 20, 3) := by decide +kernel
theorem dX2_countMultiplicities_15 : decode cX2_countMultiplicities 15 = .ok (.if_icmp .ge 64, 3) := by decide +kernel
theorem dX2_countMultiplicities_18 : decode cX2_countMultiplicities 18 = .ok (.iconst 0, 1) := by decide +kernel
theorem dX2_countMultiplicities_19 : decode cX2_countMultiplicities 19 = .ok (.istore_n 3, 1) := by decide +kernel
theorem dX2_countMultiplicities_20 : decode cX2_countMultiplicities 20 = .ok (.iload_n 3, 1) := by decide +kernel
theorem dX2_countMultiplicities_21 : decode cX2_countMultiplicities 21 = .ok (.bipush 10, 2) := by decide +kernel
theorem dX2_countMultiplicities_23 : decode cX2_countMultiplicities 23 = .ok (.if_icmp .ge 43, 3) := by decide +kernel
theorem dX2_countMultiplicities_26 : decode cX2_countMultiplicities 26 = .ok (.aload_n 0, 1) := by decide +kernel
theorem dX2_countMultiplicities_27 : decode cX2_countMultiplicities 27 = .ok (.getfield 41, 3) := by decide +kernel
theorem dX2_countMultiplicities_30 : decode cX2_countMultiplicities 30 = .ok (.aload_n 0, 1) := by decide +kernel
theorem dX2_countMultiplicities_31 : decode cX2_countMultiplicities 31 = .ok (.getfield 24, 3) := by decide +kernel
theorem dX2_countMultiplicities_34 : decode cX2_countMultiplicities 34 = .ok (.aload_n 0, 1) := by decide +kernel
theorem dX2_countMultiplicities_35 : decode cX2_countMultiplicities 35 = .ok (.getfield 11, 3) := by decide +kernel
theorem dX2_countMultiplicities_38 : decode cX2_countMultiplicities 38 = .ok (.iload_n 2, 1) := by decide +kernel
theorem dX2_countMultiplicities_39 : decode cX2_countMultiplicities 39 = .ok (.aaload, 1) := by decide +kernel
theorem dX2_countMultiplicities_40 : decode cX2_countMultiplicities 40 = .ok (.invokevirtual 92, 3) := by decide +kernel
theorem dX2_countMultiplicities_43 : decode cX2_countMultiplicities 43 = .ok (.ifCond .eq 23, 3) := by decide +kernel
theorem dX2_countMultiplicities_46 : decode cX2_countMultiplicities 46 = .ok (.aload_n 0, 1) := by decide +kernel
theorem dX2_countMultiplicities_47 : decode cX2_countMultiplicities 47 = .ok (.getfield 41, 3) := by decide +kernel
theorem dX2_countMultiplicities_50 : decode cX2_countMultiplicities 50 = .ok (.getfield 98, 3) := by decide +kernel
theorem dX2_countMultiplicities_53 : decode cX2_countMultiplicities 53 = .ok (.aload_n 0, 1) := by decide +kernel
theorem dX2_countMultiplicities_54 : decode cX2_countMultiplicities 54 = .ok (.getfield 24, 3) := by decide +kernel
theorem dX2_countMultiplicities_57 : decode cX2_countMultiplicities 57 = .ok (.invokestatic 101, 3) := by decide +kernel
theorem dX2_countMultiplicities_60 : decode cX2_countMultiplicities 60 = .ok (.iinc 3 1, 3) := by decide +kernel
theorem dX2_countMultiplicities_63 : decode cX2_countMultiplicities 63 = .ok (.goto (-43), 3) := by decide +kernel
theorem dX2_countMultiplicities_66 : decode cX2_countMultiplicities 66 = .ok (.aload_n 0, 1) := by decide +kernel
theorem dX2_countMultiplicities_67 : decode cX2_countMultiplicities 67 = .ok (.getfield 16, 3) := by decide +kernel
theorem dX2_countMultiplicities_70 : decode cX2_countMultiplicities 70 = .ok (.iload_n 2, 1) := by decide +kernel
theorem dX2_countMultiplicities_71 : decode cX2_countMultiplicities 71 = .ok (.iload_n 3, 1) := by decide +kernel
theorem dX2_countMultiplicities_72 : decode cX2_countMultiplicities 72 = .ok (.iastore, 1) := by decide +kernel
theorem dX2_countMultiplicities_73 : decode cX2_countMultiplicities 73 = .ok (.iinc 2 1, 3) := by decide +kernel
theorem dX2_countMultiplicities_76 : decode cX2_countMultiplicities 76 = .ok (.goto (-66), 3) := by decide +kernel
theorem dX2_countMultiplicities_79 : decode cX2_countMultiplicities 79 = .ok (.return_, 1) := by decide +kernel
theorem dX3_choose_0 : decode cX3_choose 0 = .ok (.aload_n 0, 1) := by decide +kernel
theorem dX3_choose_1 : decode cX3_choose 1 = .ok (.ldc2_w 9, 3) := by decide +kernel
theorem dX3_choose_4 : decode cX3_choose 4 = .ok (.lload_n 1, 1) := by decide +kernel
theorem dX3_choose_5 : decode cX3_choose 5 = .ok (.invokestatic 30, 3) := by decide +kernel
theorem dX3_choose_8 : decode cX3_choose 8 = .ok (.putfield 11, 3) := by decide +kernel
theorem dX3_choose_11 : decode cX3_choose 11 = .ok (.return_, 1) := by decide +kernel
theorem dX3_reduce_0 : decode cX3_reduce 0 = .ok (.iconst 0, 1) := by decide +kernel
theorem dX3_reduce_1 : decode cX3_reduce 1 = .ok (.istore_n 3, 1) := by decide +kernel
theorem dX3_reduce_2 : decode cX3_reduce 2 = .ok (.iload_n 3, 1) := by decide +kernel
theorem dX3_reduce_3 : decode cX3_reduce 3 = .ok (.bipush 11, 2) := by decide +kernel
theorem dX3_reduce_5 : decode cX3_reduce 5 = .ok (.if_icmp .ge 22, 3) := by decide +kernel
theorem dX3_reduce_8 : decode cX3_reduce 8 = .ok (.aload_n 2, 1) := by decide +kernel
theorem dX3_reduce_9 : decode cX3_reduce 9 = .ok (.iload_n 3, 1) := by decide +kernel
theorem dX3_reduce_10 : decode cX3_reduce 10 = .ok (.aload_n 1, 1) := by decide +kernel
theorem dX3_reduce_11 : decode cX3_reduce 11 = .ok (.iload_n 3, 1) := by decide +kernel
theorem dX3_reduce_12 : decode cX3_reduce 12 = .ok (.laload, 1) := by decide +kernel
theorem dX3_reduce_13 : decode cX3_reduce 13 = .ok (.aload_n 0, 1) := by decide +kernel
theorem dX3_reduce_14 : decode cX3_reduce 14 = .ok (.getfield 11, 3) := by decide +kernel
theorem dX3_reduce_17 : decode cX3_reduce 17 = .ok (.invokestatic 36, 3) := by decide +kernel
theorem dX3_reduce_20 : decode cX3_reduce 20 = .ok (.lastore, 1) := by decide +kernel
theorem dX3_reduce_21 : decode cX3_reduce 21 = .ok (.iinc 3 1, 3) := by decide +kernel
theorem dX3_reduce_24 : decode cX3_reduce 24 = .ok (.goto (-22), 3) := by decide +kernel
theorem dX3_reduce_27 : decode cX3_reduce 27 = .ok (.return_, 1) := by decide +kernel
theorem dX3_inverse_0 : decode cX3_inverse 0 = .ok (.lload_n 1, 1) := by decide +kernel
theorem dX3_inverse_1 : decode cX3_inverse 1 = .ok (.aload_n 0, 1) := by decide +kernel
theorem dX3_inverse_2 : decode cX3_inverse 2 = .ok (.getfield 11, 3) := by decide +kernel
theorem dX3_inverse_5 : decode cX3_inverse 5 = .ok (.lrem, 1) := by decide +kernel
theorem dX3_inverse_6 : decode cX3_inverse 6 = .ok (.lstore_n 3, 1) := by decide +kernel
theorem dX3_inverse_7 : decode cX3_inverse 7 = .ok (.lconst 1, 1) := by decide +kernel
theorem dX3_inverse_8 : decode cX3_inverse 8 = .ok (.lstore 5, 2) := by decide +kernel
theorem dX3_inverse_10 : decode cX3_inverse 10 = .ok (.aload_n 0, 1) := by decide +kernel
theorem dX3_inverse_11 : decode cX3_inverse 11 = .ok (.getfield 11, 3) := by decide +kernel
theorem dX3_inverse_14 : decode cX3_inverse 14 = .ok (.ldc2_w 9, 3) := by decide +kernel
theorem dX3_inverse_17 : decode cX3_inverse 17 = .ok (.lsub, 1) := by decide +kernel
theorem dX3_inverse_18 : decode cX3_inverse 18 = .ok (.lstore 7, 2) := by decide +kernel
theorem dX3_inverse_20 : decode cX3_inverse 20 = .ok (.lload 7, 2) := by decide +kernel
theorem dX3_inverse_22 : decode cX3_inverse 22 = .ok (.lconst 0, 1) := by decide +kernel
theorem dX3_inverse_23 : decode cX3_inverse 23 = .ok (.lcmp, 1) := by decide +kernel
theorem dX3_inverse_24 : decode cX3_inverse 24 = .ok (.ifCond .le 41, 3) := by decide +kernel
theorem dX3_inverse_27 : decode cX3_inverse 27 = .ok (.lload 7, 2) := by decide +kernel
theorem dX3_inverse_29 : decode cX3_inverse 29 = .ok (.lconst 1, 1) := by decide +kernel
theorem dX3_inverse_30 : decode cX3_inverse 30 = .ok (.land, 1) := by decide +kernel
theorem dX3_inverse_31 : decode cX3_inverse 31 = .ok (.lconst 1, 1) := by decide +kernel
theorem dX3_inverse_32 : decode cX3_inverse 32 = .ok (.lcmp, 1) := by decide +kernel
theorem dX3_inverse_33 : decode cX3_inverse 33 = .ok (.ifCond .ne 14, 3) := by decide +kernel
theorem dX3_inverse_36 : decode cX3_inverse 36 = .ok (.lload 5, 2) := by decide +kernel
theorem dX3_inverse_38 : decode cX3_inverse 38 = .ok (.lload_n 3, 1) := by decide +kernel
theorem dX3_inverse_39 : decode cX3_inverse 39 = .ok (.lmul, 1) := by decide +kernel
theorem dX3_inverse_40 : decode cX3_inverse 40 = .ok (.aload_n 0, 1) := by decide +kernel
theorem dX3_inverse_41 : decode cX3_inverse 41 = .ok (.getfield 11, 3) := by decide +kernel
theorem dX3_inverse_44 : decode cX3_inverse 44 = .ok (.lrem, 1) := by decide +kernel
theorem dX3_inverse_45 : decode cX3_inverse 45 = .ok (.lstore 5, 2) := by decide +kernel
theorem dX3_inverse_47 : decode cX3_inverse 47 = .ok (.lload_n 3, 1) := by decide +kernel
theorem dX3_inverse_48 : decode cX3_inverse 48 = .ok (.lload_n 3, 1) := by decide +kernel
theorem dX3_inverse_49 : decode cX3_inverse 49 = .ok (.lmul, 1) := by decide +kernel
theorem dX3_inverse_50 : decode cX3_inverse 50 = .ok (.aload_n 0, 1) := by decide +kernel
theorem dX3_inverse_51 : decode cX3_inverse 51 = .ok (.getfield 11, 3) := by decide +kernel
theorem dX3_inverse_54 : decode cX3_inverse 54 = .ok (.lrem, 1) := by decide +kernel
theorem dX3_inverse_55 : decode cX3_inverse 55 = .ok (.lstore_n 3, 1) := by decide +kernel
theorem dX3_inverse_56 : decode cX3_inverse 56 = .ok (.lload 7, 2) := by decide +kernel
theorem dX3_inverse_58 : decode cX3_inverse 58 = .ok (.iconst 1, 1) := by decide +kernel
theorem dX3_inverse_59 : decode cX3_inverse 59 = .ok (.lshr, 1) := by decide +kernel
theorem dX3_inverse_60 : decode cX3_inverse 60 = .ok (.lstore 7, 2) := by decide +kernel
theorem dX3_inverse_62 : decode cX3_inverse 62 = .ok (.goto (-42), 3) := by decide +kernel
theorem dX3_inverse_65 : decode cX3_inverse 65 = .ok (.lload 5, 2) := by decide +kernel
theorem dX3_inverse_67 : decode cX3_inverse 67 = .ok (.lreturn, 1) := by decide +kernel
theorem dX3_makeMonic_0 : decode cX3_makeMonic 0 = .ok (.aload_n 0, 1) := by decide +kernel
theorem dX3_makeMonic_1 : decode cX3_makeMonic 1 = .ok (.aload_n 1, 1) := by decide +kernel
theorem dX3_makeMonic_2 : decode cX3_makeMonic 2 = .ok (.aload_n 2, 1) := by decide +kernel
theorem dX3_makeMonic_3 : decode cX3_makeMonic 3 = .ok (.invokevirtual 39, 3) := by decide +kernel
theorem dX3_makeMonic_6 : decode cX3_makeMonic 6 = .ok (.aload_n 2, 1) := by decide +kernel
theorem dX3_makeMonic_7 : decode cX3_makeMonic 7 = .ok (.invokestatic 43, 3) := by decide +kernel
theorem dX3_makeMonic_10 : decode cX3_makeMonic 10 = .ok (.istore_n 3, 1) := by decide +kernel
theorem dX3_makeMonic_11 : decode cX3_makeMonic 11 = .ok (.iload_n 3, 1) := by decide +kernel
theorem dX3_makeMonic_12 : decode cX3_makeMonic 12 = .ok (.ifCond .lt 11, 3) := by decide +kernel
theorem dX3_makeMonic_15 : decode cX3_makeMonic 15 = .ok (.aload_n 2, 1) := by decide +kernel
theorem dX3_makeMonic_16 : decode cX3_makeMonic 16 = .ok (.iload_n 3, 1) := by decide +kernel
theorem dX3_makeMonic_17 : decode cX3_makeMonic 17 = .ok (.laload, 1) := by decide +kernel
theorem dX3_makeMonic_18 : decode cX3_makeMonic 18 = .ok (.lconst 1, 1) := by decide +kernel
theorem dX3_makeMonic_19 : decode cX3_makeMonic 19 = .ok (.lcmp, 1) := by decide +kernel
theorem dX3_makeMonic_20 : decode cX3_makeMonic 20 = .ok (.ifCond .ne 4, 3) := by decide +kernel
theorem dX3_makeMonic_23 : decode cX3_makeMonic 23 = .ok (.return_, 1) := by decide +kernel
theorem dX3_makeMonic_24 : decode cX3_makeMonic 24 = .ok (.aload_n 0, 1) := by decide +kernel
theorem dX3_makeMonic_25 : decode cX3_makeMonic 25 = .ok (.aload_n 2, 1) := by decide +kernel
theorem dX3_makeMonic_26 : decode cX3_makeMonic 26 = .ok (.iload_n 3, 1) := by decide +kernel
theorem dX3_makeMonic_27 : decode cX3_makeMonic 27 = .ok (.laload, 1) := by decide +kernel
theorem dX3_makeMonic_28 : decode cX3_makeMonic 28 = .ok (.invokevirtual 49, 3) := by decide +kernel
theorem dX3_makeMonic_31 : decode cX3_makeMonic 31 = .ok (.lstore 4, 2) := by decide +kernel
theorem dX3_makeMonic_33 : decode cX3_makeMonic 33 = .ok (.iconst 0, 1) := by decide +kernel
theorem dX3_makeMonic_34 : decode cX3_makeMonic 34 = .ok (.istore 6, 2) := by decide +kernel
theorem dX3_makeMonic_36 : decode cX3_makeMonic 36 = .ok (.iload 6, 2) := by decide +kernel
theorem dX3_makeMonic_38 : decode cX3_makeMonic 38 = .ok (.iload_n 3, 1) := by decide +kernel
theorem dX3_makeMonic_39 : decode cX3_makeMonic 39 = .ok (.if_icmp .gt 25, 3) := by decide +kernel
theorem dX3_makeMonic_42 : decode cX3_makeMonic 42 = .ok (.aload_n 2, 1) := by decide +kernel
theorem dX3_makeMonic_43 : decode cX3_makeMonic 43 = .ok (.iload 6, 2) := by decide +kernel
theorem dX3_makeMonic_45 : decode cX3_makeMonic 45 = .ok (.aload_n 2, 1) := by decide +kernel
theorem dX3_makeMonic_46 : decode cX3_makeMonic 46 = .ok (.iload 6, 2) := by decide +kernel
theorem dX3_makeMonic_48 : decode cX3_makeMonic 48 = .ok (.laload, 1) := by decide +kernel
theorem dX3_makeMonic_49 : decode cX3_makeMonic 49 = .ok (.lload 4, 2) := by decide +kernel
theorem dX3_makeMonic_51 : decode cX3_makeMonic 51 = .ok (.lmul, 1) := by decide +kernel
theorem dX3_makeMonic_52 : decode cX3_makeMonic 52 = .ok (.aload_n 0, 1) := by decide +kernel
theorem dX3_makeMonic_53 : decode cX3_makeMonic 53 = .ok (.getfield 11, 3) := by decide +kernel
theorem dX3_makeMonic_56 : decode cX3_makeMonic 56 = .ok (.lrem, 1) := by decide +kernel
theorem dX3_makeMonic_57 : decode cX3_makeMonic 57 = .ok (.lastore, 1) := by decide +kernel
theorem dX3_makeMonic_58 : decode cX3_makeMonic 58 = .ok (.iinc 6 1, 3) := by decide +kernel
theorem dX3_makeMonic_61 : decode cX3_makeMonic 61 = .ok (.goto (-25), 3) := by decide +kernel
theorem dX3_makeMonic_64 : decode cX3_makeMonic 64 = .ok (.return_, 1) := by decide +kernel
theorem dX3_divide_0 : decode cX3_divide 0 = .ok (.aload_n 0, 1) := by decide +kernel
theorem dX3_divide_1 : decode cX3_divide 1 = .ok (.getfield 17, 3) := by decide +kernel
theorem dX3_divide_4 : decode cX3_divide 4 = .ok (.lconst 0, 1) := by decide +kernel
theorem dX3_divide_5 : decode cX3_divide 5 = .ok (.invokestatic 53, 3) := by decide +kernel
theorem dX3_divide_8 : decode cX3_divide 8 = .ok (.aload_n 2, 1) := by decide +kernel
theorem dX3_divide_9 : decode cX3_divide 9 = .ok (.invokestatic 43, 3) := by decide +kernel
theorem dX3_divide_12 : decode cX3_divide 12 = .ok (.istore_n 3, 1) := by decide +kernel
theorem dX3_divide_13 : decode cX3_divide 13 = .ok (.iload_n 3, 1) := by decide +kernel
theorem dX3_divide_14 : decode cX3_divide 14 = .ok (.ifCond .ge 4, 3) := by decide +kernel
theorem dX3_divide_17 : decode cX3_divide 17 = .ok (.return_, 1) := by decide +kernel
theorem dX3_divide_18 : decode cX3_divide 18 = .ok (.aload_n 2, 1) := by decide +kernel
theorem dX3_divide_19 : decode cX3_divide 19 = .ok (.iload_n 3, 1) := by decide +kernel
theorem dX3_divide_20 : decode cX3_divide 20 = .ok (.laload, 1) := by decide +kernel
theorem dX3_divide_21 : decode cX3_divide 21 = .ok (.lconst 1, 1) := by decide +kernel
theorem dX3_divide_22 : decode cX3_divide 22 = .ok (.lcmp, 1) := by decide +kernel
theorem dX3_divide_23 : decode cX3_divide 23 = .ok (.ifCond .ne 7, 3) := by decide +kernel
theorem dX3_divide_26 : decode cX3_divide 26 = .ok (.lconst 1, 1) := by decide +kernel
theorem dX3_divide_27 : decode cX3_divide 27 = .ok (.goto 10, 3) := by decide +kernel
theorem dX3_divide_30 : decode cX3_divide 30 = .ok (.aload_n 0, 1) := by decide +kernel
theorem dX3_divide_31 : decode cX3_divide 31 = .ok (.aload_n 2, 1) := by decide +kernel
theorem dX3_divide_32 : decode cX3_divide 32 = .ok (.iload_n 3, 1) := by decide +kernel
theorem dX3_divide_33 : decode cX3_divide 33 = .ok (.laload, 1) := by decide +kernel
theorem dX3_divide_34 : decode cX3_divide 34 = .ok (.invokevirtual 49, 3) := by decide +kernel
theorem dX3_divide_37 : decode cX3_divide 37 = .ok (.lstore 4, 2) := by decide +kernel
theorem dX3_divide_39 : decode cX3_divide 39 = .ok (.aload_n 1, 1) := by decide +kernel
theorem dX3_divide_40 : decode cX3_divide 40 = .ok (.invokestatic 43, 3) := by decide +kernel
theorem dX3_divide_43 : decode cX3_divide 43 = .ok (.iload_n 3, 1) := by decide +kernel
theorem dX3_divide_44 : decode cX3_divide 44 = .ok (.isub, 1) := by decide +kernel
theorem dX3_divide_45 : decode cX3_divide 45 = .ok (.istore 6, 2) := by decide +kernel
theorem dX3_divide_47 : decode cX3_divide 47 = .ok (.iload 6, 2) := by decide +kernel
theorem dX3_divide_49 : decode cX3_divide 49 = .ok (.ifCond .lt 73, 3) := by decide +kernel
theorem dX3_divide_52 : decode cX3_divide 52 = .ok (.aload_n 1, 1) := by decide +kernel
theorem dX3_divide_53 : decode cX3_divide 53 = .ok (.iload 6, 2) := by decide +kernel
theorem dX3_divide_55 : decode cX3_divide 55 = .ok (.iload_n 3, 1) := by decide +kernel
theorem dX3_divide_56 : decode cX3_divide 56 = .ok (.iadd, 1) := by decide +kernel
theorem dX3_divide_57 : decode cX3_divide 57 = .ok (.laload, 1) := by decide +kernel
theorem dX3_divide_58 : decode cX3_divide 58 = .ok (.aload_n 0, 1) := by decide +kernel
theorem dX3_divide_59 : decode cX3_divide 59 = .ok (.getfield 11, 3) := by decide +kernel
theorem dX3_divide_62 : decode cX3_divide 62 = .ok (.lrem, 1) := by decide +kernel
theorem dX3_divide_63 : decode cX3_divide 63 = .ok (.lload 4, 2) := by decide +kernel
theorem dX3_divide_65 : decode cX3_divide 65 = .ok (.lmul, 1) := by decide +kernel
theorem dX3_divide_66 : decode cX3_divide 66 = .ok (.aload_n 0, 1) := by decide +kernel
theorem dX3_divide_67 : decode cX3_divide 67 = .ok (.getfield 11, 3) := by decide +kernel
theorem dX3_divide_70 : decode cX3_divide 70 = .ok (.invokestatic 36, 3) := by decide +kernel
theorem dX3_divide_73 : decode cX3_divide 73 = .ok (.lstore 7, 2) := by decide +kernel
theorem dX3_divide_75 : decode cX3_divide 75 = .ok (.aload_n 0, 1) := by decide +kernel
theorem dX3_divide_76 : decode cX3_divide 76 = .ok (.getfield 17, 3) := by decide +kernel
theorem dX3_divide_79 : decode cX3_divide 79 = .ok (.iload 6, 2) := by decide +kernel
theorem dX3_divide_81 : decode cX3_divide 81 = .ok (.lload 7, 2) := by decide +kernel
theorem dX3_divide_83 : decode cX3_divide 83 = .ok (.lastore, 1) := by decide +kernel
theorem dX3_divide_84 : decode cX3_divide 84 = .ok (.iconst 0, 1) := by decide +kernel
theorem dX3_divide_85 : decode cX3_divide 85 = .ok (.istore 9, 2) := by decide +kernel
theorem dX3_divide_87 : decode cX3_divide 87 = .ok (.iload 9, 2) := by decide +kernel
theorem dX3_divide_89 : decode cX3_divide 89 = .ok (.iload_n 3, 1) := by decide +kernel
theorem dX3_divide_90 : decode cX3_divide 90 = .ok (.if_icmp .gt 26, 3) := by decide +kernel
theorem dX3_divide_93 : decode cX3_divide 93 = .ok (.aload_n 1, 1) := by decide +kernel
theorem dX3_divide_94 : decode cX3_divide 94 = .ok (.iload 6, 2) := by decide +kernel
theorem dX3_divide_96 : decode cX3_divide 96 = .ok (.iload 9, 2) := by decide +kernel
theorem dX3_divide_98 : decode cX3_divide 98 = .ok (.iadd, 1) := by decide +kernel
theorem dX3_divide_99 : decode cX3_divide 99 = .ok (.dup2, 1) := by decide +kernel
theorem dX3_divide_100 : decode cX3_divide 100 = .ok (.laload, 1) := by decide +kernel
theorem dX3_divide_101 : decode cX3_divide 101 = .ok (.lload 7, 2) := by decide +kernel
theorem dX3_divide_103 : decode cX3_divide 103 = .ok (.aload_n 2, 1) := by decide +kernel
theorem dX3_divide_104 : decode cX3_divide 104 = .ok (.iload 9, 2) := by decide +kernel
theorem dX3_divide_106 : decode cX3_divide 106 = .ok (.laload, 1) := by decide +kernel
theorem dX3_divide_107 : decode cX3_divide 107 = .ok (.lmul, 1) := by decide +kernel
theorem dX3_divide_108 : decode cX3_divide 108 = .ok (.lsub, 1) := by decide +kernel
theorem dX3_divide_109 : decode cX3_divide 109 = .ok (.lastore, 1) := by decide +kernel
theorem dX3_divide_110 : decode cX3_divide 110 = .ok (.iinc 9 1, 3) := by decide +kernel
theorem dX3_divide_113 : decode cX3_divide 113 = .ok (.goto (-26), 3) := by decide +kernel
theorem dX3_divide_116 : decode cX3_divide 116 = .ok (.iinc 6 (-1), 3) := by decide +kernel
theorem dX3_divide_119 : decode cX3_divide 119 = .ok (.goto (-72), 3) := by decide +kernel
theorem dX3_divide_122 : decode cX3_divide 122 = .ok (.aload_n 0, 1) := by decide +kernel
theorem dX3_divide_123 : decode cX3_divide 123 = .ok (.aload_n 1, 1) := by decide +kernel
theorem dX3_divide_124 : decode cX3_divide 124 = .ok (.aload_n 1, 1) := by decide +kernel
theorem dX3_divide_125 : decode cX3_divide 125 = .ok (.invokevirtual 39, 3) := by decide +kernel
theorem dX3_divide_128 : decode cX3_divide 128 = .ok (.return_, 1) := by decide +kernel
theorem dX3_commonDivisor_0 : decode cX3_commonDivisor 0 = .ok (.aload_n 0, 1) := by decide +kernel
theorem dX3_commonDivisor_1 : decode cX3_commonDivisor 1 = .ok (.aload_n 1, 1) := by decide +kernel
theorem dX3_commonDivisor_2 : decode cX3_commonDivisor 2 = .ok (.aload_n 0, 1) := by decide +kernel
theorem dX3_commonDivisor_3 : decode cX3_commonDivisor 3 = .ok (.getfield 24, 3) := by decide +kernel
theorem dX3_commonDivisor_6 : decode cX3_commonDivisor 6 = .ok (.invokevirtual 39, 3) := by decide +kernel
theorem dX3_commonDivisor_9 : decode cX3_commonDivisor 9 = .ok (.aload_n 0, 1) := by decide +kernel
theorem dX3_commonDivisor_10 : decode cX3_commonDivisor 10 = .ok (.aload_n 2, 1) := by decide +kernel
theorem dX3_commonDivisor_11 : decode cX3_commonDivisor 11 = .ok (.aload_n 0, 1) := by decide +kernel
theorem dX3_commonDivisor_12 : decode cX3_commonDivisor 12 = .ok (.getfield 27, 3) := by decide +kernel
theorem dX3_commonDivisor_15 : decode cX3_commonDivisor 15 = .ok (.invokevirtual 39, 3) := by decide +kernel
theorem dX3_commonDivisor_18 : decode cX3_commonDivisor 18 = .ok (.aload_n 0, 1) := by decide +kernel
theorem dX3_commonDivisor_19 : decode cX3_commonDivisor 19 = .ok (.getfield 24, 3) := by decide +kernel
theorem dX3_commonDivisor_22 : decode cX3_commonDivisor 22 = .ok (.astore 4, 2) := by decide +kernel
theorem dX3_commonDivisor_24 : decode cX3_commonDivisor 24 = .ok (.aload_n 0, 1) := by decide +kernel
theorem dX3_commonDivisor_25 : decode cX3_commonDivisor 25 = .ok (.getfield 27, 3) := by decide +kernel
theorem dX3_commonDivisor_28 : decode cX3_commonDivisor 28 = .ok (.astore 5, 2) := by decide +kernel
theorem dX3_commonDivisor_30 : decode cX3_commonDivisor 30 = .ok (.iconst 0, 1) := by decide +kernel
theorem dX3_commonDivisor_31 : decode cX3_commonDivisor 31 = .ok (.istore 6, 2) := by decide +kernel
theorem dX3_commonDivisor_33 : decode cX3_commonDivisor 33 = .ok (.iload 6, 2) := by decide +kernel
theorem dX3_commonDivisor_35 : decode cX3_commonDivisor 35 = .ok (.bipush 22, 2) := by decide +kernel
theorem dX3_commonDivisor_37 : decode cX3_commonDivisor 37 = .ok (.if_icmp .gt 37, 3) := by decide +kernel
theorem dX3_commonDivisor_40 : decode cX3_commonDivisor 40 = .ok (.aload 5, 2) := by decide +kernel
theorem dX3_commonDivisor_42 : decode cX3_commonDivisor 42 = .ok (.invokestatic 43, 3) := by decide +kernel
theorem dX3_commonDivisor_45 : decode cX3_commonDivisor 45 = .ok (.ifCond .lt 29, 3) := by decide +kernel
theorem dX3_commonDivisor_48 : decode cX3_commonDivisor 48 = .ok (.aload_n 0, 1) := by decide +kernel
theorem dX3_commonDivisor_49 : decode cX3_commonDivisor 49 = .ok (.aload 4, 2) := by decide +kernel
theorem dX3_commonDivisor_51 : decode cX3_commonDivisor 51 = .ok (.aload 5, 2) := by decide +kernel
theorem dX3_commonDivisor_53 : decode cX3_commonDivisor 53 = .ok (.invokevirtual 59, 3) := by decide +kernel
theorem dX3_commonDivisor_56 : decode cX3_commonDivisor 56 = .ok (.aload 4, 2) := by decide +kernel
theorem dX3_commonDivisor_58 : decode cX3_commonDivisor 58 = .ok (.astore 7, 2) := by decide +kernel
theorem dX3_commonDivisor_60 : decode cX3_commonDivisor 60 = .ok (.aload 5, 2) := by decide +kernel
theorem dX3_commonDivisor_62 : decode cX3_commonDivisor 62 = .ok (.astore 4, 2) := by decide +kernel
theorem dX3_commonDivisor_64 : decode cX3_commonDivisor 64 = .ok (.aload 7, 2) := by decide +kernel
theorem dX3_commonDivisor_66 : decode cX3_commonDivisor 66 = .ok (.astore 5, 2) := by decide +kernel
theorem dX3_commonDivisor_68 : decode cX3_commonDivisor 68 = .ok (.iinc 6 1, 3) := by decide +kernel
theorem dX3_commonDivisor_71 : decode cX3_commonDivisor 71 = .ok (.goto (-38), 3) := by decide +kernel
theorem dX3_commonDivisor_74 : decode cX3_commonDivisor 74 = .ok (.aload_n 0, 1) := by decide +kernel
theorem dX3_commonDivisor_75 : decode cX3_commonDivisor 75 = .ok (.aload 4, 2) := by decide +kernel
theorem dX3_commonDivisor_77 : decode cX3_commonDivisor 77 = .ok (.aload_n 3, 1) := by decide +kernel
theorem dX3_commonDivisor_78 : decode cX3_commonDivisor 78 = .ok (.invokevirtual 62, 3) := by decide +kernel
theorem dX3_commonDivisor_81 : decode cX3_commonDivisor 81 = .ok (.return_, 1) := by decide +kernel
theorem dX3_multiply_0 : decode cX3_multiply 0 = .ok (.aload_n 0, 1) := by decide +kernel
theorem dX3_multiply_1 : decode cX3_multiply 1 = .ok (.getfield 21, 3) := by decide +kernel
theorem dX3_multiply_4 : decode cX3_multiply 4 = .ok (.lconst 0, 1) := by decide +kernel
theorem dX3_multiply_5 : decode cX3_multiply 5 = .ok (.invokestatic 53, 3) := by decide +kernel
theorem dX3_multiply_8 : decode cX3_multiply 8 = .ok (.iconst 0, 1) := by decide +kernel
theorem dX3_multiply_9 : decode cX3_multiply 9 = .ok (.istore 6, 2) := by decide +kernel
theorem dX3_multiply_11 : decode cX3_multiply 11 = .ok (.iload 6, 2) := by decide +kernel
theorem dX3_multiply_13 : decode cX3_multiply 13 = .ok (.iload 4, 2) := by decide +kernel
theorem dX3_multiply_15 : decode cX3_multiply 15 = .ok (.if_icmp .ge 56, 3) := by decide +kernel
theorem dX3_multiply_18 : decode cX3_multiply 18 = .ok (.iconst 0, 1) := by decide +kernel
theorem dX3_multiply_19 : decode cX3_multiply 19 = .ok (.istore 7, 2) := by decide +kernel
theorem dX3_multiply_21 : decode cX3_multiply 21 = .ok (.iload 7, 2) := by decide +kernel
theorem dX3_multiply_23 : decode cX3_multiply 23 = .ok (.iload 4, 2) := by decide +kernel
theorem dX3_multiply_25 : decode cX3_multiply 25 = .ok (.if_icmp .ge 40, 3) := by decide +kernel
theorem dX3_multiply_28 : decode cX3_multiply 28 = .ok (.aload_n 1, 1) := by decide +kernel
theorem dX3_multiply_29 : decode cX3_multiply 29 = .ok (.iload 6, 2) := by decide +kernel
theorem dX3_multiply_31 : decode cX3_multiply 31 = .ok (.laload, 1) := by decide +kernel
theorem dX3_multiply_32 : decode cX3_multiply 32 = .ok (.lconst 0, 1) := by decide +kernel
theorem dX3_multiply_33 : decode cX3_multiply 33 = .ok (.lcmp, 1) := by decide +kernel
theorem dX3_multiply_34 : decode cX3_multiply 34 = .ok (.ifCond .eq 31, 3) := by decide +kernel
theorem dX3_multiply_37 : decode cX3_multiply 37 = .ok (.aload_n 0, 1) := by decide +kernel
theorem dX3_multiply_38 : decode cX3_multiply 38 = .ok (.getfield 21, 3) := by decide +kernel
theorem dX3_multiply_41 : decode cX3_multiply 41 = .ok (.iload 6, 2) := by decide +kernel
theorem dX3_multiply_43 : decode cX3_multiply 43 = .ok (.iload 7, 2) := by decide +kernel
theorem dX3_multiply_45 : decode cX3_multiply 45 = .ok (.iadd, 1) := by decide +kernel
theorem dX3_multiply_46 : decode cX3_multiply 46 = .ok (.dup2, 1) := by decide +kernel
theorem dX3_multiply_47 : decode cX3_multiply 47 = .ok (.laload, 1) := by decide +kernel
theorem dX3_multiply_48 : decode cX3_multiply 48 = .ok (.aload_n 1, 1) := by decide +kernel
theorem dX3_multiply_49 : decode cX3_multiply 49 = .ok (.iload 6, 2) := by decide +kernel
theorem dX3_multiply_51 : decode cX3_multiply 51 = .ok (.laload, 1) := by decide +kernel
theorem dX3_multiply_52 : decode cX3_multiply 52 = .ok (.aload_n 2, 1) := by decide +kernel
theorem dX3_multiply_53 : decode cX3_multiply 53 = .ok (.iload 7, 2) := by decide +kernel
theorem dX3_multiply_55 : decode cX3_multiply 55 = .ok (.laload, 1) := by decide +kernel
theorem dX3_multiply_56 : decode cX3_multiply 56 = .ok (.lmul, 1) := by decide +kernel
theorem dX3_multiply_57 : decode cX3_multiply 57 = .ok (.ladd, 1) := by decide +kernel
theorem dX3_multiply_58 : decode cX3_multiply 58 = .ok (.lastore, 1) := by decide +kernel
theorem dX3_multiply_59 : decode cX3_multiply 59 = .ok (.iinc 7 1, 3) := by decide +kernel
theorem dX3_multiply_62 : decode cX3_multiply 62 = .ok (.goto (-41), 3) := by decide +kernel
theorem dX3_multiply_65 : decode cX3_multiply 65 = .ok (.iinc 6 1, 3) := by decide +kernel
theorem dX3_multiply_68 : decode cX3_multiply 68 = .ok (.goto (-57), 3) := by decide +kernel
theorem dX3_multiply_71 : decode cX3_multiply 71 = .ok (.iload 4, 2) := by decide +kernel
theorem dX3_multiply_73 : decode cX3_multiply 73 = .ok (.iconst 2, 1) := by decide +kernel
theorem dX3_multiply_74 : decode cX3_multiply 74 = .ok (.isub, 1) := by decide +kernel
theorem dX3_multiply_75 : decode cX3_multiply 75 = .ok (.istore 6, 2) := by decide +kernel
theorem dX3_multiply_77 : decode cX3_multiply 77 = .ok (.iload 6, 2) := by decide +kernel
theorem dX3_multiply_79 : decode cX3_multiply 79 = .ok (.ifCond .lt 69, 3) := by decide +kernel
theorem dX3_multiply_82 : decode cX3_multiply 82 = .ok (.aload_n 0, 1) := by decide +kernel
theorem dX3_multiply_83 : decode cX3_multiply 83 = .ok (.getfield 21, 3) := by decide +kernel
theorem dX3_multiply_86 : decode cX3_multiply 86 = .ok (.iload 6, 2) := by decide +kernel
theorem dX3_multiply_88 : decode cX3_multiply 88 = .ok (.iload 4, 2) := by decide +kernel
theorem dX3_multiply_90 : decode cX3_multiply 90 = .ok (.iadd, 1) := by decide +kernel
theorem dX3_multiply_91 : decode cX3_multiply 91 = .ok (.laload, 1) := by decide +kernel
theorem dX3_multiply_92 : decode cX3_multiply 92 = .ok (.aload_n 0, 1) := by decide +kernel
theorem dX3_multiply_93 : decode cX3_multiply 93 = .ok (.getfield 11, 3) := by decide +kernel
theorem dX3_multiply_96 : decode cX3_multiply 96 = .ok (.lrem, 1) := by decide +kernel
theorem dX3_multiply_97 : decode cX3_multiply 97 = .ok (.lstore 7, 2) := by decide +kernel
theorem dX3_multiply_99 : decode cX3_multiply 99 = .ok (.iconst 0, 1) := by decide +kernel
theorem dX3_multiply_100 : decode cX3_multiply 100 = .ok (.istore 9, 2) := by decide +kernel
theorem dX3_multiply_102 : decode cX3_multiply 102 = .ok (.iload 9, 2) := by decide +kernel
theorem dX3_multiply_104 : decode cX3_multiply 104 = .ok (.iload 4, 2) := by decide +kernel
theorem dX3_multiply_106 : decode cX3_multiply 106 = .ok (.if_icmp .ge 36, 3) := by decide +kernel
theorem dX3_multiply_109 : decode cX3_multiply 109 = .ok (.lload 7, 2) := by decide +kernel
theorem dX3_multiply_111 : decode cX3_multiply 111 = .ok (.lconst 0, 1) := by decide +kernel
theorem dX3_multiply_112 : decode cX3_multiply 112 = .ok (.lcmp, 1) := by decide +kernel
theorem dX3_multiply_113 : decode cX3_multiply 113 = .ok (.ifCond .eq 29, 3) := by decide +kernel
theorem dX3_multiply_116 : decode cX3_multiply 116 = .ok (.aload_n 0, 1) := by decide +kernel
theorem dX3_multiply_117 : decode cX3_multiply 117 = .ok (.getfield 21, 3) := by decide +kernel
theorem dX3_multiply_120 : decode cX3_multiply 120 = .ok (.iload 6, 2) := by decide +kernel
theorem dX3_multiply_122 : decode cX3_multiply 122 = .ok (.iload 9, 2) := by decide +kernel
theorem dX3_multiply_124 : decode cX3_multiply 124 = .ok (.iadd, 1) := by decide +kernel
theorem dX3_multiply_125 : decode cX3_multiply 125 = .ok (.dup2, 1) := by decide +kernel
theorem dX3_multiply_126 : decode cX3_multiply 126 = .ok (.laload, 1) := by decide +kernel
theorem dX3_multiply_127 : decode cX3_multiply 127 = .ok (.lload 7, 2) := by decide +kernel
theorem dX3_multiply_129 : decode cX3_multiply 129 = .ok (.aload_n 3, 1) := by decide +kernel
theorem dX3_multiply_130 : decode cX3_multiply 130 = .ok (.iload 9, 2) := by decide +kernel
theorem dX3_multiply_132 : decode cX3_multiply 132 = .ok (.laload, 1) := by decide +kernel
theorem dX3_multiply_133 : decode cX3_multiply 133 = .ok (.lmul, 1) := by decide +kernel
theorem dX3_multiply_134 : decode cX3_multiply 134 = .ok (.lsub, 1) := by decide +kernel
theorem dX3_multiply_135 : decode cX3_multiply 135 = .ok (.lastore, 1) := by decide +kernel
theorem dX3_multiply_136 : decode cX3_multiply 136 = .ok (.iinc 9 1, 3) := by decide +kernel
theorem dX3_multiply_139 : decode cX3_multiply 139 = .ok (.goto (-37), 3) := by decide +kernel
theorem dX3_multiply_142 : decode cX3_multiply 142 = .ok (.iinc 6 (-1), 3) := by decide +kernel
theorem dX3_multiply_145 : decode cX3_multiply 145 = .ok (.goto (-68), 3) := by decide +kernel
theorem dX3_multiply_148 : decode cX3_multiply 148 = .ok (.iconst 0, 1) := by decide +kernel
theorem dX3_multiply_149 : decode cX3_multiply 149 = .ok (.istore 6, 2) := by decide +kernel
theorem dX3_multiply_151 : decode cX3_multiply 151 = .ok (.iload 6, 2) := by decide +kernel
theorem dX3_multiply_153 : decode cX3_multiply 153 = .ok (.bipush 11, 2) := by decide +kernel
theorem dX3_multiply_155 : decode cX3_multiply 155 = .ok (.if_icmp .ge 39, 3) := by decide +kernel
theorem dX3_multiply_158 : decode cX3_multiply 158 = .ok (.aload 5, 2) := by decide +kernel
theorem dX3_multiply_160 : decode cX3_multiply 160 = .ok (.iload 6, 2) := by decide +kernel
theorem dX3_multiply_162 : decode cX3_multiply 162 = .ok (.iload 6, 2) := by decide +kernel
theorem dX3_multiply_164 : decode cX3_multiply 164 = .ok (.iload 4, 2) := by decide +kernel
theorem dX3_multiply_166 : decode cX3_multiply 166 = .ok (.if_icmp .ge 20, 3) := by decide +kernel
theorem dX3_multiply_169 : decode cX3_multiply 169 = .ok (.aload_n 0, 1) := by decide +kernel
theorem dX3_multiply_170 : decode cX3_multiply 170 = .ok (.getfield 21, 3) := by decide +kernel
theorem dX3_multiply_173 : decode cX3_multiply 173 = .ok (.iload 6, 2) := by decide +kernel
theorem dX3_multiply_175 : decode cX3_multiply 175 = .ok (.laload, 1) := by decide +kernel
theorem dX3_multiply_176 : decode cX3_multiply 176 = .ok (.aload_n 0, 1) := by decide +kernel
theorem dX3_multiply_177 : decode cX3_multiply 177 = .ok (.getfield 11, 3) := by decide +kernel
theorem dX3_multiply_180 : decode cX3_multiply 180 = .ok (.invokestatic 36, 3) := by decide +kernel
theorem dX3_multiply_183 : decode cX3_multiply 183 = .ok (.goto 4, 3) := by decide +kernel
theorem dX3_multiply_186 : decode cX3_multiply 186 = .ok (.lconst 0, 1) := by decide +kernel
theorem dX3_multiply_187 : decode cX3_multiply 187 = .ok (.lastore, 1) := by decide +kernel
theorem dX3_multiply_188 : decode cX3_multiply 188 = .ok (.iinc 6 1, 3) := by decide +kernel
theorem dX3_multiply_191 : decode cX3_multiply 191 = .ok (.goto (-40), 3) := by decide +kernel
theorem dX3_multiply_194 : decode cX3_multiply 194 = .ok (.return_, 1) := by decide +kernel
theorem dX3_raise_0 : decode cX3_raise 0 = .ok (.aload 6, 2) := by decide +kernel
theorem dX3_raise_2 : decode cX3_raise 2 = .ok (.lconst 0, 1) := by decide +kernel
theorem dX3_raise_3 : decode cX3_raise 3 = .ok (.invokestatic 53, 3) := by decide +kernel
theorem dX3_raise_6 : decode cX3_raise 6 = .ok (.aload 6, 2) := by decide +kernel
theorem dX3_raise_8 : decode cX3_raise 8 = .ok (.iconst 0, 1) := by decide +kernel
theorem dX3_raise_9 : decode cX3_raise 9 = .ok (.lconst 1, 1) := by decide +kernel
theorem dX3_raise_10 : decode cX3_raise 10 = .ok (.lastore, 1) := by decide +kernel
theorem dX3_raise_11 : decode cX3_raise 11 = .ok (.bipush 30, 2) := by decide +kernel
theorem dX3_raise_13 : decode cX3_raise 13 = .ok (.istore 7, 2) := by decide +kernel
theorem dX3_raise_15 : decode cX3_raise 15 = .ok (.iload 7, 2) := by decide +kernel
theorem dX3_raise_17 : decode cX3_raise 17 = .ok (.ifCond .lt 58, 3) := by decide +kernel
theorem dX3_raise_20 : decode cX3_raise 20 = .ok (.lload_n 2, 1) := by decide +kernel
theorem dX3_raise_21 : decode cX3_raise 21 = .ok (.iload 7, 2) := by decide +kernel
theorem dX3_raise_23 : decode cX3_raise 23 = .ok (.lshr, 1) := by decide +kernel
theorem dX3_raise_24 : decode cX3_raise 24 = .ok (.lstore 8, 2) := by decide +kernel
theorem dX3_raise_26 : decode cX3_raise 26 = .ok (.lload 8, 2) := by decide +kernel
theorem dX3_raise_28 : decode cX3_raise 28 = .ok (.lconst 1, 1) := by decide +kernel
theorem dX3_raise_29 : decode cX3_raise 29 = .ok (.lcmp, 1) := by decide +kernel
theorem dX3_raise_30 : decode cX3_raise 30 = .ok (.ifCond .le 17, 3) := by decide +kernel
theorem dX3_raise_33 : decode cX3_raise 33 = .ok (.aload_n 0, 1) := by decide +kernel
theorem dX3_raise_34 : decode cX3_raise 34 = .ok (.aload 6, 2) := by decide +kernel
theorem dX3_raise_36 : decode cX3_raise 36 = .ok (.aload 6, 2) := by decide +kernel
theorem dX3_raise_38 : decode cX3_raise 38 = .ok (.aload 4, 2) := by decide +kernel
theorem dX3_raise_40 : decode cX3_raise 40 = .ok (.iload 5, 2) := by decide +kernel
theorem dX3_raise_42 : decode cX3_raise 42 = .ok (.aload 6, 2) := by decide +kernel
theorem dX3_raise_44 : decode cX3_raise 44 = .ok (.invokevirtual 65, 3) := by decide +kernel
theorem dX3_raise_47 : decode cX3_raise 47 = .ok (.lload 8, 2) := by decide +kernel
theorem dX3_raise_49 : decode cX3_raise 49 = .ok (.lconst 1, 1) := by decide +kernel
theorem dX3_raise_50 : decode cX3_raise 50 = .ok (.land, 1) := by decide +kernel
theorem dX3_raise_51 : decode cX3_raise 51 = .ok (.lconst 1, 1) := by decide +kernel
theorem dX3_raise_52 : decode cX3_raise 52 = .ok (.lcmp, 1) := by decide +kernel
theorem dX3_raise_53 : decode cX3_raise 53 = .ok (.ifCond .ne 16, 3) := by decide +kernel
theorem dX3_raise_56 : decode cX3_raise 56 = .ok (.aload_n 0, 1) := by decide +kernel
theorem dX3_raise_57 : decode cX3_raise 57 = .ok (.aload 6, 2) := by decide +kernel
theorem dX3_raise_59 : decode cX3_raise 59 = .ok (.aload_n 1, 1) := by decide +kernel
theorem dX3_raise_60 : decode cX3_raise 60 = .ok (.aload 4, 2) := by decide +kernel
theorem dX3_raise_62 : decode cX3_raise 62 = .ok (.iload 5, 2) := by decide +kernel
theorem dX3_raise_64 : decode cX3_raise 64 = .ok (.aload 6, 2) := by decide +kernel
theorem dX3_raise_66 : decode cX3_raise 66 = .ok (.invokevirtual 65, 3) := by decide +kernel
theorem dX3_raise_69 : decode cX3_raise 69 = .ok (.iinc 7 (-1), 3) := by decide +kernel
theorem dX3_raise_72 : decode cX3_raise 72 = .ok (.goto (-57), 3) := by decide +kernel
theorem dX3_raise_75 : decode cX3_raise 75 = .ok (.return_, 1) := by decide +kernel
theorem dX3_lift_0 : decode cX3_lift 0 = .ok (.iconst 0, 1) := by decide +kernel
theorem dX3_lift_1 : decode cX3_lift 1 = .ok (.istore 4, 2) := by decide +kernel
theorem dX3_lift_3 : decode cX3_lift 3 = .ok (.iload 4, 2) := by decide +kernel
theorem dX3_lift_5 : decode cX3_lift 5 = .ok (.bipush 11, 2) := by decide +kernel
theorem dX3_lift_7 : decode cX3_lift 7 = .ok (.if_icmp .ge 23, 3) := by decide +kernel
theorem dX3_lift_10 : decode cX3_lift 10 = .ok (.aload_n 1, 1) := by decide +kernel
theorem dX3_lift_11 : decode cX3_lift 11 = .ok (.iload 4, 2) := by decide +kernel
theorem dX3_lift_13 : decode cX3_lift 13 = .ok (.aload_n 0, 1) := by decide +kernel
theorem dX3_lift_14 : decode cX3_lift 14 = .ok (.aload_n 1, 1) := by decide +kernel
theorem dX3_lift_15 : decode cX3_lift 15 = .ok (.iload 4, 2) := by decide +kernel
theorem dX3_lift_17 : decode cX3_lift 17 = .ok (.laload, 1) := by decide +kernel
theorem dX3_lift_18 : decode cX3_lift 18 = .ok (.lload_n 2, 1) := by decide +kernel
theorem dX3_lift_19 : decode cX3_lift 19 = .ok (.lmul, 1) := by decide +kernel
theorem dX3_lift_20 : decode cX3_lift 20 = .ok (.invokevirtual 69, 3) := by decide +kernel
theorem dX3_lift_23 : decode cX3_lift 23 = .ok (.lastore, 1) := by decide +kernel
theorem dX3_lift_24 : decode cX3_lift 24 = .ok (.iinc 4 1, 3) := by decide +kernel
theorem dX3_lift_27 : decode cX3_lift 27 = .ok (.goto (-24), 3) := by decide +kernel
theorem dX3_lift_30 : decode cX3_lift 30 = .ok (.return_, 1) := by decide +kernel
theorem dX3_nearest_0 : decode cX3_nearest 0 = .ok (.lload_n 1, 1) := by decide +kernel
theorem dX3_nearest_1 : decode cX3_nearest 1 = .ok (.aload_n 0, 1) := by decide +kernel
theorem dX3_nearest_2 : decode cX3_nearest 2 = .ok (.getfield 11, 3) := by decide +kernel
theorem dX3_nearest_5 : decode cX3_nearest 5 = .ok (.invokestatic 36, 3) := by decide +kernel
theorem dX3_nearest_8 : decode cX3_nearest 8 = .ok (.lstore_n 3, 1) := by decide +kernel
theorem dX3_nearest_9 : decode cX3_nearest 9 = .ok (.lload_n 3, 1) := by decide +kernel
theorem dX3_nearest_10 : decode cX3_nearest 10 = .ok (.aload_n 0, 1) := by decide +kernel
theorem dX3_nearest_11 : decode cX3_nearest 11 = .ok (.getfield 11, 3) := by decide +kernel
theorem dX3_nearest_14 : decode cX3_nearest 14 = .ok (.ldc2_w 9, 3) := by decide +kernel
theorem dX3_nearest_17 : decode cX3_nearest 17 = .ok (.ldiv, 1) := by decide +kernel
theorem dX3_nearest_18 : decode cX3_nearest 18 = .ok (.lcmp, 1) := by decide +kernel
theorem dX3_nearest_19 : decode cX3_nearest 19 = .ok (.ifCond .le 12, 3) := by decide +kernel
theorem dX3_nearest_22 : decode cX3_nearest 22 = .ok (.lload_n 3, 1) := by decide +kernel
theorem dX3_nearest_23 : decode cX3_nearest 23 = .ok (.aload_n 0, 1) := by decide +kernel
theorem dX3_nearest_24 : decode cX3_nearest 24 = .ok (.getfield 11, 3) := by decide +kernel
theorem dX3_nearest_27 : decode cX3_nearest 27 = .ok (.lsub, 1) := by decide +kernel
theorem dX3_nearest_28 : decode cX3_nearest 28 = .ok (.goto 4, 3) := by decide +kernel
theorem dX3_nearest_31 : decode cX3_nearest 31 = .ok (.lload_n 3, 1) := by decide +kernel
theorem dX3_nearest_32 : decode cX3_nearest 32 = .ok (.lreturn, 1) := by decide +kernel
theorem dX6_findFixed_0 : decode cX6_findFixed 0 = .ok (.aload_n 1, 1) := by decide +kernel
theorem dX6_findFixed_1 : decode cX6_findFixed 1 = .ok (.invokestatic 44, 3) := by decide +kernel
theorem dX6_findFixed_4 : decode cX6_findFixed 4 = .ok (.istore_n 2, 1) := by decide +kernel
theorem dX6_findFixed_5 : decode cX6_findFixed 5 = .ok (.aload_n 0, 1) := by decide +kernel
theorem dX6_findFixed_6 : decode cX6_findFixed 6 = .ok (.iconst 0, 1) := by decide +kernel
theorem dX6_findFixed_7 : decode cX6_findFixed 7 = .ok (.putfield 20, 3) := by decide +kernel
theorem dX6_findFixed_10 : decode cX6_findFixed 10 = .ok (.iload_n 2, 1) := by decide +kernel
theorem dX6_findFixed_11 : decode cX6_findFixed 11 = .ok (.iconst 1, 1) := by decide +kernel
theorem dX6_findFixed_12 : decode cX6_findFixed 12 = .ok (.if_icmp .ge 4, 3) := by decide +kernel
theorem dX6_findFixed_15 : decode cX6_findFixed 15 = .ok (.return_, 1) := by decide +kernel
theorem dX6_findFixed_16 : decode cX6_findFixed 16 = .ok (.aload_n 0, 1) := by decide +kernel
theorem dX6_findFixed_17 : decode cX6_findFixed 17 = .ok (.aload_n 1, 1) := by decide +kernel
theorem dX6_findFixed_18 : decode cX6_findFixed 18 = .ok (.iload_n 2, 1) := by decide +kernel
theorem dX6_findFixed_19 : decode cX6_findFixed 19 = .ok (.invokevirtual 50, 3) := by decide +kernel
theorem dX6_findFixed_22 : decode cX6_findFixed 22 = .ok (.aload_n 0, 1) := by decide +kernel
theorem dX6_findFixed_23 : decode cX6_findFixed 23 = .ok (.getfield 29, 3) := by decide +kernel
theorem dX6_findFixed_26 : decode cX6_findFixed 26 = .ok (.iconst (-1), 1) := by decide +kernel
theorem dX6_findFixed_27 : decode cX6_findFixed 27 = .ok (.invokestatic 54, 3) := by decide +kernel
theorem dX6_findFixed_30 : decode cX6_findFixed 30 = .ok (.iconst 0, 1) := by decide +kernel
theorem dX6_findFixed_31 : decode cX6_findFixed 31 = .ok (.istore_n 3, 1) := by decide +kernel
theorem dX6_findFixed_32 : decode cX6_findFixed 32 = .ok (.iload_n 3, 1) := by decide +kernel
theorem dX6_findFixed_33 : decode cX6_findFixed 33 = .ok (.iload_n 2, 1) := by decide +kernel
theorem dX6_findFixed_34 : decode cX6_findFixed 34 = .ok (.if_icmp .ge 47, 3) := by decide +kernel
theorem dX6_findFixed_37 : decode cX6_findFixed 37 = .ok (.aload_n 0, 1) := by decide +kernel
theorem dX6_findFixed_38 : decode cX6_findFixed 38 = .ok (.iload_n 3, 1) := by decide +kernel
theorem dX6_findFixed_39 : decode cX6_findFixed 39 = .ok (.iload_n 2, 1) := by decide +kernel
theorem dX6_findFixed_40 : decode cX6_findFixed 40 = .ok (.invokevirtual 60, 3) := by decide +kernel
theorem dX6_findFixed_43 : decode cX6_findFixed 43 = .ok (.istore 4, 2) := by decide +kernel
theorem dX6_findFixed_45 : decode cX6_findFixed 45 = .ok (.iload 4, 2) := by decide +kernel
theorem dX6_findFixed_47 : decode cX6_findFixed 47 = .ok (.ifCond .ge 12, 3) := by decide +kernel
theorem dX6_findFixed_50 : decode cX6_findFixed 50 = .ok (.aload_n 0, 1) := by decide +kernel
theorem dX6_findFixed_51 : decode cX6_findFixed 51 = .ok (.iload_n 3, 1) := by decide +kernel
theorem dX6_findFixed_52 : decode cX6_findFixed 52 = .ok (.iload_n 2, 1) := by decide +kernel
theorem dX6_findFixed_53 : decode cX6_findFixed 53 = .ok (.invokevirtual 64, 3) := by decide +kernel
theorem dX6_findFixed_56 : decode cX6_findFixed 56 = .ok (.goto 19, 3) := by decide +kernel
theorem dX6_findFixed_59 : decode cX6_findFixed 59 = .ok (.aload_n 0, 1) := by decide +kernel
theorem dX6_findFixed_60 : decode cX6_findFixed 60 = .ok (.iload_n 3, 1) := by decide +kernel
theorem dX6_findFixed_61 : decode cX6_findFixed 61 = .ok (.iload 4, 2) := by decide +kernel
theorem dX6_findFixed_63 : decode cX6_findFixed 63 = .ok (.iload_n 2, 1) := by decide +kernel
theorem dX6_findFixed_64 : decode cX6_findFixed 64 = .ok (.invokevirtual 68, 3) := by decide +kernel
theorem dX6_findFixed_67 : decode cX6_findFixed 67 = .ok (.aload_n 0, 1) := by decide +kernel
theorem dX6_findFixed_68 : decode cX6_findFixed 68 = .ok (.getfield 29, 3) := by decide +kernel
theorem dX6_findFixed_71 : decode cX6_findFixed 71 = .ok (.iload 4, 2) := by decide +kernel
theorem dX6_findFixed_73 : decode cX6_findFixed 73 = .ok (.iload_n 3, 1) := by decide +kernel
theorem dX6_findFixed_74 : decode cX6_findFixed 74 = .ok (.iastore, 1) := by decide +kernel
theorem dX6_findFixed_75 : decode cX6_findFixed 75 = .ok (.iinc 3 1, 3) := by decide +kernel
theorem dX6_findFixed_78 : decode cX6_findFixed 78 = .ok (.goto (-46), 3) := by decide +kernel
theorem dX6_findFixed_81 : decode cX6_findFixed 81 = .ok (.return_, 1) := by decide +kernel
theorem dX6_fillMatrix_0 : decode cX6_fillMatrix 0 = .ok (.aload_n 0, 1) := by decide +kernel
theorem dX6_fillMatrix_1 : decode cX6_fillMatrix 1 = .ok (.getfield 33, 3) := by decide +kernel
theorem dX6_fillMatrix_4 : decode cX6_fillMatrix 4 = .ok (.lconst 0, 1) := by decide +kernel
theorem dX6_fillMatrix_5 : decode cX6_fillMatrix 5 = .ok (.invokestatic 72, 3) := by decide +kernel
theorem dX6_fillMatrix_8 : decode cX6_fillMatrix 8 = .ok (.aload_n 0, 1) := by decide +kernel
theorem dX6_fillMatrix_9 : decode cX6_fillMatrix 9 = .ok (.getfield 33, 3) := by decide +kernel
theorem dX6_fillMatrix_12 : decode cX6_fillMatrix 12 = .ok (.iconst 1, 1) := by decide +kernel
theorem dX6_fillMatrix_13 : decode cX6_fillMatrix 13 = .ok (.lconst 1, 1) := by decide +kernel
theorem dX6_fillMatrix_14 : decode cX6_fillMatrix 14 = .ok (.lastore, 1) := by decide +kernel
theorem dX6_fillMatrix_15 : decode cX6_fillMatrix 15 = .ok (.aload_n 0, 1) := by decide +kernel
theorem dX6_fillMatrix_16 : decode cX6_fillMatrix 16 = .ok (.getfield 40, 3) := by decide +kernel
theorem dX6_fillMatrix_19 : decode cX6_fillMatrix 19 = .ok (.aload_n 0, 1) := by decide +kernel
theorem dX6_fillMatrix_20 : decode cX6_fillMatrix 20 = .ok (.getfield 33, 3) := by decide +kernel
theorem dX6_fillMatrix_23 : decode cX6_fillMatrix 23 = .ok (.aload_n 1, 1) := by decide +kernel
theorem dX6_fillMatrix_24 : decode cX6_fillMatrix 24 = .ok (.invokevirtual 75, 3) := by decide +kernel
theorem dX6_fillMatrix_27 : decode cX6_fillMatrix 27 = .ok (.aload_n 0, 1) := by decide +kernel
theorem dX6_fillMatrix_28 : decode cX6_fillMatrix 28 = .ok (.getfield 40, 3) := by decide +kernel
theorem dX6_fillMatrix_31 : decode cX6_fillMatrix 31 = .ok (.aload_n 0, 1) := by decide +kernel
theorem dX6_fillMatrix_32 : decode cX6_fillMatrix 32 = .ok (.getfield 33, 3) := by decide +kernel
theorem dX6_fillMatrix_35 : decode cX6_fillMatrix 35 = .ok (.aload_n 0, 1) := by decide +kernel
theorem dX6_fillMatrix_36 : decode cX6_fillMatrix 36 = .ok (.getfield 40, 3) := by decide +kernel
theorem dX6_fillMatrix_39 : decode cX6_fillMatrix 39 = .ok (.getfield 81, 3) := by decide +kernel
theorem dX6_fillMatrix_42 : decode cX6_fillMatrix 42 = .ok (.aload_n 1, 1) := by decide +kernel
theorem dX6_fillMatrix_43 : decode cX6_fillMatrix 43 = .ok (.iload_n 2, 1) := by decide +kernel
theorem dX6_fillMatrix_44 : decode cX6_fillMatrix 44 = .ok (.aload_n 0, 1) := by decide +kernel
theorem dX6_fillMatrix_45 : decode cX6_fillMatrix 45 = .ok (.getfield 37, 3) := by decide +kernel
theorem dX6_fillMatrix_48 : decode cX6_fillMatrix 48 = .ok (.invokevirtual 85, 3) := by decide +kernel
theorem dX6_fillMatrix_51 : decode cX6_fillMatrix 51 = .ok (.aload_n 0, 1) := by decide +kernel
theorem dX6_fillMatrix_52 : decode cX6_fillMatrix 52 = .ok (.getfield 33, 3) := by decide +kernel
theorem dX6_fillMatrix_55 : decode cX6_fillMatrix 55 = .ok (.lconst 0, 1) := by decide +kernel
theorem dX6_fillMatrix_56 : decode cX6_fillMatrix 56 = .ok (.invokestatic 72, 3) := by decide +kernel
theorem dX6_fillMatrix_59 : decode cX6_fillMatrix 59 = .ok (.aload_n 0, 1) := by decide +kernel
theorem dX6_fillMatrix_60 : decode cX6_fillMatrix 60 = .ok (.getfield 33, 3) := by decide +kernel
theorem dX6_fillMatrix_63 : decode cX6_fillMatrix 63 = .ok (.iconst 0, 1) := by decide +kernel
theorem dX6_fillMatrix_64 : decode cX6_fillMatrix 64 = .ok (.lconst 1, 1) := by decide +kernel
theorem dX6_fillMatrix_65 : decode cX6_fillMatrix 65 = .ok (.lastore, 1) := by decide +kernel
theorem dX6_fillMatrix_66 : decode cX6_fillMatrix 66 = .ok (.iconst 0, 1) := by decide +kernel
theorem dX6_fillMatrix_67 : decode cX6_fillMatrix 67 = .ok (.istore_n 3, 1) := by decide +kernel
theorem dX6_fillMatrix_68 : decode cX6_fillMatrix 68 = .ok (.iload_n 3, 1) := by decide +kernel
theorem dX6_fillMatrix_69 : decode cX6_fillMatrix 69 = .ok (.iload_n 2, 1) := by decide +kernel
theorem dX6_fillMatrix_70 : decode cX6_fillMatrix 70 = .ok (.if_icmp .ge 71, 3) := by decide +kernel
theorem dX6_fillMatrix_73 : decode cX6_fillMatrix 73 = .ok (.aload_n 0, 1) := by decide +kernel
theorem dX6_fillMatrix_74 : decode cX6_fillMatrix 74 = .ok (.getfield 33, 3) := by decide +kernel
theorem dX6_fillMatrix_77 : decode cX6_fillMatrix 77 = .ok (.aload_n 0, 1) := by decide +kernel
theorem dX6_fillMatrix_78 : decode cX6_fillMatrix 78 = .ok (.getfield 23, 3) := by decide +kernel
theorem dX6_fillMatrix_81 : decode cX6_fillMatrix 81 = .ok (.iload_n 3, 1) := by decide +kernel
theorem dX6_fillMatrix_82 : decode cX6_fillMatrix 82 = .ok (.aaload, 1) := by decide +kernel
theorem dX6_fillMatrix_83 : decode cX6_fillMatrix 83 = .ok (.invokestatic 89, 3) := by decide +kernel
theorem dX6_fillMatrix_86 : decode cX6_fillMatrix 86 = .ok (.aload_n 0, 1) := by decide +kernel
theorem dX6_fillMatrix_87 : decode cX6_fillMatrix 87 = .ok (.getfield 23, 3) := by decide +kernel
theorem dX6_fillMatrix_90 : decode cX6_fillMatrix 90 = .ok (.iload_n 3, 1) := by decide +kernel
theorem dX6_fillMatrix_91 : decode cX6_fillMatrix 91 = .ok (.aaload, 1) := by decide +kernel
theorem dX6_fillMatrix_92 : decode cX6_fillMatrix 92 = .ok (.iload_n 3, 1) := by decide +kernel
theorem dX6_fillMatrix_93 : decode cX6_fillMatrix 93 = .ok (.aload_n 0, 1) := by decide +kernel
theorem dX6_fillMatrix_94 : decode cX6_fillMatrix 94 = .ok (.getfield 23, 3) := by decide +kernel
theorem dX6_fillMatrix_97 : decode cX6_fillMatrix 97 = .ok (.iload_n 3, 1) := by decide +kernel
theorem dX6_fillMatrix_98 : decode cX6_fillMatrix 98 = .ok (.aaload, 1) := by decide +kernel
theorem dX6_fillMatrix_99 : decode cX6_fillMatrix 99 = .ok (.iload_n 3, 1) := by decide +kernel
theorem dX6_fillMatrix_100 : decode cX6_fillMatrix 100 = .ok (.laload, 1) := by decide +kernel
theorem dX6_fillMatrix_101 : decode cX6_fillMatrix 101 = .ok (.lconst 1, 1) := by decide +kernel
theorem dX6_fillMatrix_102 : decode cX6_fillMatrix 102 = .ok (.lsub, 1) := by decide +kernel
theorem dX6_fillMatrix_103 : decode cX6_fillMatrix 103 = .ok (.aload_n 0, 1) := by decide +kernel
theorem dX6_fillMatrix_104 : decode cX6_fillMatrix 104 = .ok (.getfield 40, 3) := by decide +kernel
theorem dX6_fillMatrix_107 : decode cX6_fillMatrix 107 = .ok (.getfield 81, 3) := by decide +kernel
theorem dX6_fillMatrix_110 : decode cX6_fillMatrix 110 = .ok (.invokestatic 92, 3) := by decide +kernel
theorem dX6_fillMatrix_113 : decode cX6_fillMatrix 113 = .ok (.lastore, 1) := by decide +kernel
theorem dX6_fillMatrix_114 : decode cX6_fillMatrix 114 = .ok (.aload_n 0, 1) := by decide +kernel
theorem dX6_fillMatrix_115 : decode cX6_fillMatrix 115 = .ok (.getfield 40, 3) := by decide +kernel
theorem dX6_fillMatrix_118 : decode cX6_fillMatrix 118 = .ok (.aload_n 0, 1) := by decide +kernel
theorem dX6_fillMatrix_119 : decode cX6_fillMatrix 119 = .ok (.getfield 33, 3) := by decide +kernel
theorem dX6_fillMatrix_122 : decode cX6_fillMatrix 122 = .ok (.aload_n 0, 1) := by decide +kernel
theorem dX6_fillMatrix_123 : decode cX6_fillMatrix 123 = .ok (.getfield 37, 3) := by decide +kernel
theorem dX6_fillMatrix_126 : decode cX6_fillMatrix 126 = .ok (.aload_n 1, 1) := by decide +kernel
theorem dX6_fillMatrix_127 : decode cX6_fillMatrix 127 = .ok (.iload_n 2, 1) := by decide +kernel
theorem dX6_fillMatrix_128 : decode cX6_fillMatrix 128 = .ok (.aload_n 0, 1) := by decide +kernel
theorem dX6_fillMatrix_129 : decode cX6_fillMatrix 129 = .ok (.getfield 33, 3) := by decide +kernel
theorem dX6_fillMatrix_132 : decode cX6_fillMatrix 132 = .ok (.invokevirtual 98, 3) := by decide +kernel
theorem dX6_fillMatrix_135 : decode cX6_fillMatrix 135 = .ok (.iinc 3 1, 3) := by decide +kernel
theorem dX6_fillMatrix_138 : decode cX6_fillMatrix 138 = .ok (.goto (-70), 3) := by decide +kernel
theorem dX6_fillMatrix_141 : decode cX6_fillMatrix 141 = .ok (.return_, 1) := by decide +kernel
theorem dX6_findPivot_0 : decode cX6_findPivot 0 = .ok (.iconst 0, 1) := by decide +kernel
theorem dX6_findPivot_1 : decode cX6_findPivot 1 = .ok (.istore_n 3, 1) := by decide +kernel
theorem dX6_findPivot_2 : decode cX6_findPivot 2 = .ok (.iload_n 3, 1) := by decide +kernel
theorem dX6_findPivot_3 : decode cX6_findPivot 3 = .ok (.iload_n 2, 1) := by decide +kernel
theorem dX6_findPivot_4 : decode cX6_findPivot 4 = .ok (.if_icmp .ge 33, 3) := by decide +kernel
theorem dX6_findPivot_7 : decode cX6_findPivot 7 = .ok (.aload_n 0, 1) := by decide +kernel
theorem dX6_findPivot_8 : decode cX6_findPivot 8 = .ok (.getfield 29, 3) := by decide +kernel
theorem dX6_findPivot_11 : decode cX6_findPivot 11 = .ok (.iload_n 3, 1) := by decide +kernel
theorem dX6_findPivot_12 : decode cX6_findPivot 12 = .ok (.iaload, 1) := by decide +kernel
theorem dX6_findPivot_13 : decode cX6_findPivot 13 = .ok (.ifCond .ge 18, 3) := by decide +kernel
theorem dX6_findPivot_16 : decode cX6_findPivot 16 = .ok (.aload_n 0, 1) := by decide +kernel
theorem dX6_findPivot_17 : decode cX6_findPivot 17 = .ok (.getfield 23, 3) := by decide +kernel
theorem dX6_findPivot_20 : decode cX6_findPivot 20 = .ok (.iload_n 1, 1) := by decide +kernel
theorem dX6_findPivot_21 : decode cX6_findPivot 21 = .ok (.aaload, 1) := by decide +kernel
theorem dX6_findPivot_22 : decode cX6_findPivot 22 = .ok (.iload_n 3, 1) := by decide +kernel
theorem dX6_findPivot_23 : decode cX6_findPivot 23 = .ok (.laload, 1) := by decide +kernel
theorem dX6_findPivot_24 : decode cX6_findPivot 24 = .ok (.lconst 0, 1) := by decide +kernel
theorem dX6_findPivot_25 : decode cX6_findPivot 25 = .ok (.lcmp, 1) := by decide +kernel
theorem dX6_findPivot_26 : decode cX6_findPivot 26 = .ok (.ifCond .eq 5, 3) := by decide +kernel
theorem dX6_findPivot_29 : decode cX6_findPivot 29 = .ok (.iload_n 3, 1) := by decide +kernel
theorem dX6_findPivot_30 : decode cX6_findPivot 30 = .ok (.ireturn, 1) := by decide +kernel
theorem dX6_findPivot_31 : decode cX6_findPivot 31 = .ok (.iinc 3 1, 3) := by decide +kernel
theorem dX6_findPivot_34 : decode cX6_findPivot 34 = .ok (.goto (-32), 3) := by decide +kernel
theorem dX6_findPivot_37 : decode cX6_findPivot 37 = .ok (.iconst (-1), 1) := by decide +kernel
theorem dX6_findPivot_38 : decode cX6_findPivot 38 = .ok (.ireturn, 1) := by decide +kernel
theorem dX6_clearRow_0 : decode cX6_clearRow 0 = .ok (.aload_n 0, 1) := by decide +kernel
theorem dX6_clearRow_1 : decode cX6_clearRow 1 = .ok (.getfield 40, 3) := by decide +kernel
theorem dX6_clearRow_4 : decode cX6_clearRow 4 = .ok (.getfield 81, 3) := by decide +kernel
theorem dX6_clearRow_7 : decode cX6_clearRow 7 = .ok (.lstore 4, 2) := by decide +kernel
theorem dX6_clearRow_9 : decode cX6_clearRow 9 = .ok (.lload 4, 2) := by decide +kernel
theorem dX6_clearRow_11 : decode cX6_clearRow 11 = .ok (.aload_n 0, 1) := by decide +kernel
theorem dX6_clearRow_12 : decode cX6_clearRow 12 = .ok (.getfield 40, 3) := by decide +kernel
theorem dX6_clearRow_15 : decode cX6_clearRow 15 = .ok (.aload_n 0, 1) := by decide +kernel
theorem dX6_clearRow_16 : decode cX6_clearRow 16 = .ok (.getfield 23, 3) := by decide +kernel
theorem dX6_clearRow_19 : decode cX6_clearRow 19 = .ok (.iload_n 1, 1) := by decide +kernel
theorem dX6_clearRow_20 : decode cX6_clearRow 20 = .ok (.aaload, 1) := by decide +kernel
theorem dX6_clearRow_21 : decode cX6_clearRow 21 = .ok (.iload_n 2, 1) := by decide +kernel
theorem dX6_clearRow_22 : decode cX6_clearRow 22 = .ok (.laload, 1) := by decide +kernel
theorem dX6_clearRow_23 : decode cX6_clearRow 23 = .ok (.invokevirtual 102, 3) := by decide +kernel
theorem dX6_clearRow_26 : decode cX6_clearRow 26 = .ok (.lsub, 1) := by decide +kernel
theorem dX6_clearRow_27 : decode cX6_clearRow 27 = .ok (.lstore 6, 2) := by decide +kernel
theorem dX6_clearRow_29 : decode cX6_clearRow 29 = .ok (.iload_n 1, 1) := by decide +kernel
theorem dX6_clearRow_30 : decode cX6_clearRow 30 = .ok (.istore 8, 2) := by decide +kernel
theorem dX6_clearRow_32 : decode cX6_clearRow 32 = .ok (.iload 8, 2) := by decide +kernel
theorem dX6_clearRow_34 : decode cX6_clearRow 34 = .ok (.iload_n 3, 1) := by decide +kernel
theorem dX6_clearRow_35 : decode cX6_clearRow 35 = .ok (.if_icmp .ge 33, 3) := by decide +kernel
theorem dX6_clearRow_38 : decode cX6_clearRow 38 = .ok (.aload_n 0, 1) := by decide +kernel
theorem dX6_clearRow_39 : decode cX6_clearRow 39 = .ok (.getfield 23, 3) := by decide +kernel
theorem dX6_clearRow_42 : decode cX6_clearRow 42 = .ok (.iload 8, 2) := by decide +kernel
theorem dX6_clearRow_44 : decode cX6_clearRow 44 = .ok (.aaload, 1) := by decide +kernel
theorem dX6_clearRow_45 : decode cX6_clearRow 45 = .ok (.iload_n 2, 1) := by decide +kernel
theorem dX6_clearRow_46 : decode cX6_clearRow 46 = .ok (.aload_n 0, 1) := by decide +kernel
theorem dX6_clearRow_47 : decode cX6_clearRow 47 = .ok (.getfield 23, 3) := by decide +kernel
theorem dX6_clearRow_50 : decode cX6_clearRow 50 = .ok (.iload 8, 2) := by decide +kernel
theorem dX6_clearRow_52 : decode cX6_clearRow 52 = .ok (.aaload, 1) := by decide +kernel
theorem dX6_clearRow_53 : decode cX6_clearRow 53 = .ok (.iload_n 2, 1) := by decide +kernel
theorem dX6_clearRow_54 : decode cX6_clearRow 54 = .ok (.laload, 1) := by decide +kernel
theorem dX6_clearRow_55 : decode cX6_clearRow 55 = .ok (.lload 6, 2) := by decide +kernel
theorem dX6_clearRow_57 : decode cX6_clearRow 57 = .ok (.lmul, 1) := by decide +kernel
theorem dX6_clearRow_58 : decode cX6_clearRow 58 = .ok (.lload 4, 2) := by decide +kernel
theorem dX6_clearRow_60 : decode cX6_clearRow 60 = .ok (.lrem, 1) := by decide +kernel
theorem dX6_clearRow_61 : decode cX6_clearRow 61 = .ok (.lastore, 1) := by decide +kernel
theorem dX6_clearRow_62 : decode cX6_clearRow 62 = .ok (.iinc 8 1, 3) := by decide +kernel
theorem dX6_clearRow_65 : decode cX6_clearRow 65 = .ok (.goto (-33), 3) := by decide +kernel
theorem dX6_clearRow_68 : decode cX6_clearRow 68 = .ok (.iconst 0, 1) := by decide +kernel
theorem dX6_clearRow_69 : decode cX6_clearRow 69 = .ok (.istore 8, 2) := by decide +kernel
theorem dX6_clearRow_71 : decode cX6_clearRow 71 = .ok (.iload 8, 2) := by decide +kernel
theorem dX6_clearRow_73 : decode cX6_clearRow 73 = .ok (.iload_n 3, 1) := by decide +kernel
theorem dX6_clearRow_74 : decode cX6_clearRow 74 = .ok (.if_icmp .ge 84, 3) := by decide +kernel
theorem dX6_clearRow_77 : decode cX6_clearRow 77 = .ok (.aload_n 0, 1) := by decide +kernel
theorem dX6_clearRow_78 : decode cX6_clearRow 78 = .ok (.getfield 23, 3) := by decide +kernel
theorem dX6_clearRow_81 : decode cX6_clearRow 81 = .ok (.iload_n 1, 1) := by decide +kernel
theorem dX6_clearRow_82 : decode cX6_clearRow 82 = .ok (.aaload, 1) := by decide +kernel
theorem dX6_clearRow_83 : decode cX6_clearRow 83 = .ok (.iload 8, 2) := by decide +kernel
theorem dX6_clearRow_85 : decode cX6_clearRow 85 = .ok (.laload, 1) := by decide +kernel
theorem dX6_clearRow_86 : decode cX6_clearRow 86 = .ok (.lstore 9, 2) := by decide +kernel
theorem dX6_clearRow_88 : decode cX6_clearRow 88 = .ok (.iload_n 1, 1) := by decide +kernel
theorem dX6_clearRow_89 : decode cX6_clearRow 89 = .ok (.istore 11, 2) := by decide +kernel
theorem dX6_clearRow_91 : decode cX6_clearRow 91 = .ok (.iload 11, 2) := by decide +kernel
theorem dX6_clearRow_93 : decode cX6_clearRow 93 = .ok (.iload_n 3, 1) := by decide +kernel
theorem dX6_clearRow_94 : decode cX6_clearRow 94 = .ok (.if_icmp .ge 58, 3) := by decide +kernel
theorem dX6_clearRow_97 : decode cX6_clearRow 97 = .ok (.lload 9, 2) := by decide +kernel
theorem dX6_clearRow_99 : decode cX6_clearRow 99 = .ok (.lconst 0, 1) := by decide +kernel
theorem dX6_clearRow_100 : decode cX6_clearRow 100 = .ok (.lcmp, 1) := by decide +kernel
theorem dX6_clearRow_101 : decode cX6_clearRow 101 = .ok (.ifCond .eq 51, 3) := by decide +kernel
theorem dX6_clearRow_104 : decode cX6_clearRow 104 = .ok (.iload 8, 2) := by decide +kernel
theorem dX6_clearRow_106 : decode cX6_clearRow 106 = .ok (.iload_n 2, 1) := by decide +kernel
theorem dX6_clearRow_107 : decode cX6_clearRow 107 = .ok (.if_icmp .eq 45, 3) := by decide +kernel
theorem dX6_clearRow_110 : decode cX6_clearRow 110 = .ok (.aload_n 0, 1) := by decide +kernel
theorem dX6_clearRow_111 : decode cX6_clearRow 111 = .ok (.getfield 23, 3) := by decide +kernel
theorem dX6_clearRow_114 : decode cX6_clearRow 114 = .ok (.iload 11, 2) := by decide +kernel
theorem dX6_clearRow_116 : decode cX6_clearRow 116 = .ok (.aaload, 1) := by decide +kernel
theorem dX6_clearRow_117 : decode cX6_clearRow 117 = .ok (.iload 8, 2) := by decide +kernel
theorem dX6_clearRow_119 : decode cX6_clearRow 119 = .ok (.aload_n 0, 1) := by decide +kernel
theorem dX6_clearRow_120 : decode cX6_clearRow 120 = .ok (.getfield 23, 3) := by decide +kernel
theorem dX6_clearRow_123 : decode cX6_clearRow 123 = .ok (.iload 11, 2) := by decide +kernel
theorem dX6_clearRow_125 : decode cX6_clearRow 125 = .ok (.aaload, 1) := by decide +kernel
theorem dX6_clearRow_126 : decode cX6_clearRow 126 = .ok (.iload 8, 2) := by decide +kernel
theorem dX6_clearRow_128 : decode cX6_clearRow 128 = .ok (.laload, 1) := by decide +kernel
theorem dX6_clearRow_129 : decode cX6_clearRow 129 = .ok (.lload 9, 2) := by decide +kernel
theorem dX6_clearRow_131 : decode cX6_clearRow 131 = .ok (.aload_n 0, 1) := by decide +kernel
theorem dX6_clearRow_132 : decode cX6_clearRow 132 = .ok (.getfield 23, 3) := by decide +kernel
theorem dX6_clearRow_135 : decode cX6_clearRow 135 = .ok (.iload 11, 2) := by decide +kernel
theorem dX6_clearRow_137 : decode cX6_clearRow 137 = .ok (.aaload, 1) := by decide +kernel
theorem dX6_clearRow_138 : decode cX6_clearRow 138 = .ok (.iload_n 2, 1) := by decide +kernel
theorem dX6_clearRow_139 : decode cX6_clearRow 139 = .ok (.laload, 1) := by decide +kernel
theorem dX6_clearRow_140 : decode cX6_clearRow 140 = .ok (.lmul, 1) := by decide +kernel
theorem dX6_clearRow_141 : decode cX6_clearRow 141 = .ok (.ladd, 1) := by decide +kernel
theorem dX6_clearRow_142 : decode cX6_clearRow 142 = .ok (.lload 4, 2) := by decide +kernel
theorem dX6_clearRow_144 : decode cX6_clearRow 144 = .ok (.lrem, 1) := by decide +kernel
theorem dX6_clearRow_145 : decode cX6_clearRow 145 = .ok (.lastore, 1) := by decide +kernel
theorem dX6_clearRow_146 : decode cX6_clearRow 146 = .ok (.iinc 11 1, 3) := by decide +kernel
theorem dX6_clearRow_149 : decode cX6_clearRow 149 = .ok (.goto (-58), 3) := by decide +kernel
theorem dX6_clearRow_152 : decode cX6_clearRow 152 = .ok (.iinc 8 1, 3) := by decide +kernel
theorem dX6_clearRow_155 : decode cX6_clearRow 155 = .ok (.goto (-84), 3) := by decide +kernel
theorem dX6_clearRow_158 : decode cX6_clearRow 158 = .ok (.return_, 1) := by decide +kernel
theorem dX6_addFixed_0 : decode cX6_addFixed 0 = .ok (.aload_n 0, 1) := by decide +kernel
theorem dX6_addFixed_1 : decode cX6_addFixed 1 = .ok (.getfield 26, 3) := by decide +kernel
theorem dX6_addFixed_4 : decode cX6_addFixed 4 = .ok (.aload_n 0, 1) := by decide +kernel
theorem dX6_addFixed_5 : decode cX6_addFixed 5 = .ok (.getfield 20, 3) := by decide +kernel
theorem dX6_addFixed_8 : decode cX6_addFixed 8 = .ok (.aaload, 1) := by decide +kernel
theorem dX6_addFixed_9 : decode cX6_addFixed 9 = .ok (.astore_n 3, 1) := by decide +kernel
theorem dX6_addFixed_10 : decode cX6_addFixed 10 = .ok (.aload_n 3, 1) := by decide +kernel
theorem dX6_addFixed_11 : decode cX6_addFixed 11 = .ok (.lconst 0, 1) := by decide +kernel
theorem dX6_addFixed_12 : decode cX6_addFixed 12 = .ok (.invokestatic 72, 3) := by decide +kernel
theorem dX6_addFixed_15 : decode cX6_addFixed 15 = .ok (.aload_n 3, 1) := by decide +kernel
theorem dX6_addFixed_16 : decode cX6_addFixed 16 = .ok (.iload_n 1, 1) := by decide +kernel
theorem dX6_addFixed_17 : decode cX6_addFixed 17 = .ok (.lconst 1, 1) := by decide +kernel
theorem dX6_addFixed_18 : decode cX6_addFixed 18 = .ok (.lastore, 1) := by decide +kernel
theorem dX6_addFixed_19 : decode cX6_addFixed 19 = .ok (.iconst 0, 1) := by decide +kernel
theorem dX6_addFixed_20 : decode cX6_addFixed 20 = .ok (.istore 4, 2) := by decide +kernel
theorem dX6_addFixed_22 : decode cX6_addFixed 22 = .ok (.iload 4, 2) := by decide +kernel
theorem dX6_addFixed_24 : decode cX6_addFixed 24 = .ok (.iload_n 2, 1) := by decide +kernel
theorem dX6_addFixed_25 : decode cX6_addFixed 25 = .ok (.if_icmp .ge 37, 3) := by decide +kernel
theorem dX6_addFixed_28 : decode cX6_addFixed 28 = .ok (.aload_n 0, 1) := by decide +kernel
theorem dX6_addFixed_29 : decode cX6_addFixed 29 = .ok (.getfield 29, 3) := by decide +kernel
theorem dX6_addFixed_32 : decode cX6_addFixed 32 = .ok (.iload 4, 2) := by decide +kernel
theorem dX6_addFixed_34 : decode cX6_addFixed 34 = .ok (.iaload, 1) := by decide +kernel
theorem dX6_addFixed_35 : decode cX6_addFixed 35 = .ok (.ifCond .lt 21, 3) := by decide +kernel
theorem dX6_addFixed_38 : decode cX6_addFixed 38 = .ok (.aload_n 3, 1) := by decide +kernel
theorem dX6_addFixed_39 : decode cX6_addFixed 39 = .ok (.aload_n 0, 1) := by decide +kernel
theorem dX6_addFixed_40 : decode cX6_addFixed 40 = .ok (.getfield 29, 3) := by decide +kernel
theorem dX6_addFixed_43 : decode cX6_addFixed 43 = .ok (.iload 4, 2) := by decide +kernel
theorem dX6_addFixed_45 : decode cX6_addFixed 45 = .ok (.iaload, 1) := by decide +kernel
theorem dX6_addFixed_46 : decode cX6_addFixed 46 = .ok (.aload_n 0, 1) := by decide +kernel
theorem dX6_addFixed_47 : decode cX6_addFixed 47 = .ok (.getfield 23, 3) := by decide +kernel
theorem dX6_addFixed_50 : decode cX6_addFixed 50 = .ok (.iload_n 1, 1) := by decide +kernel
theorem dX6_addFixed_51 : decode cX6_addFixed 51 = .ok (.aaload, 1) := by decide +kernel
theorem dX6_addFixed_52 : decode cX6_addFixed 52 = .ok (.iload 4, 2) := by decide +kernel
theorem dX6_addFixed_54 : decode cX6_addFixed 54 = .ok (.laload, 1) := by decide +kernel
theorem dX6_addFixed_55 : decode cX6_addFixed 55 = .ok (.lastore, 1) := by decide +kernel
theorem dX6_addFixed_56 : decode cX6_addFixed 56 = .ok (.iinc 4 1, 3) := by decide +kernel
theorem dX6_addFixed_59 : decode cX6_addFixed 59 = .ok (.goto (-37), 3) := by decide +kernel
theorem dX6_addFixed_62 : decode cX6_addFixed 62 = .ok (.aload_n 0, 1) := by decide +kernel
theorem dX6_addFixed_63 : decode cX6_addFixed 63 = .ok (.dup, 1) := by decide +kernel
theorem dX6_addFixed_64 : decode cX6_addFixed 64 = .ok (.getfield 20, 3) := by decide +kernel
theorem dX6_addFixed_67 : decode cX6_addFixed 67 = .ok (.iconst 1, 1) := by decide +kernel
theorem dX6_addFixed_68 : decode cX6_addFixed 68 = .ok (.iadd, 1) := by decide +kernel
theorem dX6_addFixed_69 : decode cX6_addFixed 69 = .ok (.putfield 20, 3) := by decide +kernel
theorem dX6_addFixed_72 : decode cX6_addFixed 72 = .ok (.return_, 1) := by decide +kernel
theorem dX6_split_0 : decode cX6_split 0 = .ok (.aload_n 1, 1) := by decide +kernel
theorem dX6_split_1 : decode cX6_split 1 = .ok (.aload_n 0, 1) := by decide +kernel
theorem dX6_split_2 : decode cX6_split 2 = .ok (.getfield 11, 3) := by decide +kernel
theorem dX6_split_5 : decode cX6_split 5 = .ok (.iconst 0, 1) := by decide +kernel
theorem dX6_split_6 : decode cX6_split 6 = .ok (.aaload, 1) := by decide +kernel
theorem dX6_split_7 : decode cX6_split 7 = .ok (.invokestatic 89, 3) := by decide +kernel
theorem dX6_split_10 : decode cX6_split 10 = .ok (.aload_n 0, 1) := by decide +kernel
theorem dX6_split_11 : decode cX6_split 11 = .ok (.iconst 1, 1) := by decide +kernel
theorem dX6_split_12 : decode cX6_split 12 = .ok (.putfield 16, 3) := by decide +kernel
theorem dX6_split_15 : decode cX6_split 15 = .ok (.iconst 0, 1) := by decide +kernel
theorem dX6_split_16 : decode cX6_split 16 = .ok (.istore_n 2, 1) := by decide +kernel
theorem dX6_split_17 : decode cX6_split 17 = .ok (.iload_n 2, 1) := by decide +kernel
theorem dX6_split_18 : decode cX6_split 18 = .ok (.ldc 106, 2) := by decide +kernel
theorem dX6_split_20 : decode cX6_split 20 = .ok (.if_icmp .ge 76, 3) := by decide +kernel
theorem dX6_split_23 : decode cX6_split 23 = .ok (.aload_n 0, 1) := by decide +kernel
theorem dX6_split_24 : decode cX6_split 24 = .ok (.getfield 16, 3) := by decide +kernel
theorem dX6_split_27 : decode cX6_split 27 = .ok (.aload_n 0, 1) := by decide +kernel
theorem dX6_split_28 : decode cX6_split 28 = .ok (.getfield 20, 3) := by decide +kernel
theorem dX6_split_31 : decode cX6_split 31 = .ok (.if_icmp .ge 65, 3) := by decide +kernel
theorem dX6_split_34 : decode cX6_split 34 = .ok (.iconst 1, 1) := by decide +kernel
theorem dX6_split_35 : decode cX6_split 35 = .ok (.istore_n 3, 1) := by decide +kernel
theorem dX6_split_36 : decode cX6_split 36 = .ok (.iload_n 3, 1) := by decide +kernel
theorem dX6_split_37 : decode cX6_split 37 = .ok (.aload_n 0, 1) := by decide +kernel
theorem dX6_split_38 : decode cX6_split 38 = .ok (.getfield 20, 3) := by decide +kernel
theorem dX6_split_41 : decode cX6_split 41 = .ok (.if_icmp .ge 49, 3) := by decide +kernel
theorem dX6_split_44 : decode cX6_split 44 = .ok (.aload_n 0, 1) := by decide +kernel
theorem dX6_split_45 : decode cX6_split 45 = .ok (.getfield 16, 3) := by decide +kernel
theorem dX6_split_48 : decode cX6_split 48 = .ok (.istore 4, 2) := by decide +kernel
theorem dX6_split_50 : decode cX6_split 50 = .ok (.iconst 0, 1) := by decide +kernel
theorem dX6_split_51 : decode cX6_split 51 = .ok (.istore 5, 2) := by decide +kernel
theorem dX6_split_53 : decode cX6_split 53 = .ok (.iload 5, 2) := by decide +kernel
theorem dX6_split_55 : decode cX6_split 55 = .ok (.iload 4, 2) := by decide +kernel
theorem dX6_split_57 : decode cX6_split 57 = .ok (.if_icmp .ge 27, 3) := by decide +kernel
theorem dX6_split_60 : decode cX6_split 60 = .ok (.aload_n 0, 1) := by decide +kernel
theorem dX6_split_61 : decode cX6_split 61 = .ok (.aload_n 0, 1) := by decide +kernel
theorem dX6_split_62 : decode cX6_split 62 = .ok (.getfield 11, 3) := by decide +kernel
theorem dX6_split_65 : decode cX6_split 65 = .ok (.iload 5, 2) := by decide +kernel
theorem dX6_split_67 : decode cX6_split 67 = .ok (.aaload, 1) := by decide +kernel
theorem dX6_split_68 : decode cX6_split 68 = .ok (.aload_n 0, 1) := by decide +kernel
theorem dX6_split_69 : decode cX6_split 69 = .ok (.getfield 26, 3) := by decide +kernel
theorem dX6_split_72 : decode cX6_split 72 = .ok (.iload_n 3, 1) := by decide +kernel
theorem dX6_split_73 : decode cX6_split 73 = .ok (.aaload, 1) := by decide +kernel
theorem dX6_split_74 : decode cX6_split 74 = .ok (.iload_n 2, 1) := by decide +kernel
theorem dX6_split_75 : decode cX6_split 75 = .ok (.invokevirtual 107, 3) := by decide +kernel
theorem dX6_split_78 : decode cX6_split 78 = .ok (.iinc 5 1, 3) := by decide +kernel
theorem dX6_split_81 : decode cX6_split 81 = .ok (.goto (-28), 3) := by decide +kernel
theorem dX6_split_84 : decode cX6_split 84 = .ok (.iinc 3 1, 3) := by decide +kernel
theorem dX6_split_87 : decode cX6_split 87 = .ok (.goto (-51), 3) := by decide +kernel
theorem dX6_split_90 : decode cX6_split 90 = .ok (.iinc 2 1, 3) := by decide +kernel
theorem dX6_split_93 : decode cX6_split 93 = .ok (.goto (-76), 3) := by decide +kernel
theorem dX6_split_96 : decode cX6_split 96 = .ok (.return_, 1) := by decide +kernel
theorem dX6_splitPiece_0 : decode cX6_splitPiece 0 = .ok (.aload_n 2, 1) := by decide +kernel
theorem dX6_splitPiece_1 : decode cX6_splitPiece 1 = .ok (.aload_n 0, 1) := by decide +kernel
theorem dX6_splitPiece_2 : decode cX6_splitPiece 2 = .ok (.getfield 33, 3) := by decide +kernel
theorem dX6_splitPiece_5 : decode cX6_splitPiece 5 = .ok (.invokestatic 89, 3) := by decide +kernel
theorem dX6_splitPiece_8 : decode cX6_splitPiece 8 = .ok (.aload_n 0, 1) := by decide +kernel
theorem dX6_splitPiece_9 : decode cX6_splitPiece 9 = .ok (.getfield 40, 3) := by decide +kernel
theorem dX6_splitPiece_12 : decode cX6_splitPiece 12 = .ok (.aload_n 0, 1) := by decide +kernel
theorem dX6_splitPiece_13 : decode cX6_splitPiece 13 = .ok (.getfield 33, 3) := by decide +kernel
theorem dX6_splitPiece_16 : decode cX6_splitPiece 16 = .ok (.aload_n 1, 1) := by decide +kernel
theorem dX6_splitPiece_17 : decode cX6_splitPiece 17 = .ok (.invokevirtual 75, 3) := by decide +kernel
theorem dX6_splitPiece_20 : decode cX6_splitPiece 20 = .ok (.aload_n 0, 1) := by decide +kernel
theorem dX6_splitPiece_21 : decode cX6_splitPiece 21 = .ok (.getfield 33, 3) := by decide +kernel
theorem dX6_splitPiece_24 : decode cX6_splitPiece 24 = .ok (.invokestatic 44, 3) := by decide +kernel
theorem dX6_splitPiece_27 : decode cX6_splitPiece 27 = .ok (.iconst 1, 1) := by decide +kernel
theorem dX6_splitPiece_28 : decode cX6_splitPiece 28 = .ok (.if_icmp .ge 4, 3) := by decide +kernel
theorem dX6_splitPiece_31 : decode cX6_splitPiece 31 = .ok (.return_, 1) := by decide +kernel
theorem dX6_splitPiece_32 : decode cX6_splitPiece 32 = .ok (.aload_n 1, 1) := by decide +kernel
theorem dX6_splitPiece_33 : decode cX6_splitPiece 33 = .ok (.invokestatic 44, 3) := by decide +kernel
theorem dX6_splitPiece_36 : decode cX6_splitPiece 36 = .ok (.istore 4, 2) := by decide +kernel
theorem dX6_splitPiece_38 : decode cX6_splitPiece 38 = .ok (.aload_n 0, 1) := by decide +kernel
theorem dX6_splitPiece_39 : decode cX6_splitPiece 39 = .ok (.getfield 33, 3) := by decide +kernel
theorem dX6_splitPiece_42 : decode cX6_splitPiece 42 = .ok (.iconst 0, 1) := by decide +kernel
theorem dX6_splitPiece_43 : decode cX6_splitPiece 43 = .ok (.aload_n 0, 1) := by decide +kernel
theorem dX6_splitPiece_44 : decode cX6_splitPiece 44 = .ok (.getfield 33, 3) := by decide +kernel
theorem dX6_splitPiece_47 : decode cX6_splitPiece 47 = .ok (.iconst 0, 1) := by decide +kernel
theorem dX6_splitPiece_48 : decode cX6_splitPiece 48 = .ok (.laload, 1) := by decide +kernel
theorem dX6_splitPiece_49 : decode cX6_splitPiece 49 = .ok (.iload_n 3, 1) := by decide +kernel
theorem dX6_splitPiece_50 : decode cX6_splitPiece 50 = .ok (.i2l, 1) := by decide +kernel
theorem dX6_splitPiece_51 : decode cX6_splitPiece 51 = .ok (.ladd, 1) := by decide +kernel
theorem dX6_splitPiece_52 : decode cX6_splitPiece 52 = .ok (.aload_n 0, 1) := by decide +kernel
theorem dX6_splitPiece_53 : decode cX6_splitPiece 53 = .ok (.getfield 40, 3) := by decide +kernel
theorem dX6_splitPiece_56 : decode cX6_splitPiece 56 = .ok (.getfield 81, 3) := by decide +kernel
theorem dX6_splitPiece_59 : decode cX6_splitPiece 59 = .ok (.lrem, 1) := by decide +kernel
theorem dX6_splitPiece_60 : decode cX6_splitPiece 60 = .ok (.lastore, 1) := by decide +kernel
theorem dX6_splitPiece_61 : decode cX6_splitPiece 61 = .ok (.aload_n 0, 1) := by decide +kernel
theorem dX6_splitPiece_62 : decode cX6_splitPiece 62 = .ok (.getfield 40, 3) := by decide +kernel
theorem dX6_splitPiece_65 : decode cX6_splitPiece 65 = .ok (.aload_n 0, 1) := by decide +kernel
theorem dX6_splitPiece_66 : decode cX6_splitPiece 66 = .ok (.getfield 33, 3) := by decide +kernel
theorem dX6_splitPiece_69 : decode cX6_splitPiece 69 = .ok (.aload_n 0, 1) := by decide +kernel
theorem dX6_splitPiece_70 : decode cX6_splitPiece 70 = .ok (.getfield 40, 3) := by decide +kernel
theorem dX6_splitPiece_73 : decode cX6_splitPiece 73 = .ok (.getfield 81, 3) := by decide +kernel
theorem dX6_splitPiece_76 : decode cX6_splitPiece 76 = .ok (.lconst 1, 1) := by decide +kernel
theorem dX6_splitPiece_77 : decode cX6_splitPiece 77 = .ok (.lsub, 1) := by decide +kernel
theorem dX6_splitPiece_78 : decode cX6_splitPiece 78 = .ok (.ldc2_w 111, 3) := by decide +kernel
theorem dX6_splitPiece_81 : decode cX6_splitPiece 81 = .ok (.ldiv, 1) := by decide +kernel
theorem dX6_splitPiece_82 : decode cX6_splitPiece 82 = .ok (.aload_n 1, 1) := by decide +kernel
theorem dX6_splitPiece_83 : decode cX6_splitPiece 83 = .ok (.iload 4, 2) := by decide +kernel
theorem dX6_splitPiece_85 : decode cX6_splitPiece 85 = .ok (.aload_n 0, 1) := by decide +kernel
theorem dX6_splitPiece_86 : decode cX6_splitPiece 86 = .ok (.getfield 37, 3) := by decide +kernel
theorem dX6_splitPiece_89 : decode cX6_splitPiece 89 = .ok (.invokevirtual 85, 3) := by decide +kernel
theorem dX6_splitPiece_92 : decode cX6_splitPiece 92 = .ok (.aload_n 0, 1) := by decide +kernel
theorem dX6_splitPiece_93 : decode cX6_splitPiece 93 = .ok (.getfield 37, 3) := by decide +kernel
theorem dX6_splitPiece_96 : decode cX6_splitPiece 96 = .ok (.iconst 0, 1) := by decide +kernel
theorem dX6_splitPiece_97 : decode cX6_splitPiece 97 = .ok (.aload_n 0, 1) := by decide +kernel
theorem dX6_splitPiece_98 : decode cX6_splitPiece 98 = .ok (.getfield 37, 3) := by decide +kernel
theorem dX6_splitPiece_101 : decode cX6_splitPiece 101 = .ok (.iconst 0, 1) := by decide +kernel
theorem dX6_splitPiece_102 : decode cX6_splitPiece 102 = .ok (.laload, 1) := by decide +kernel
theorem dX6_splitPiece_103 : decode cX6_splitPiece 103 = .ok (.lconst 1, 1) := by decide +kernel
theorem dX6_splitPiece_104 : decode cX6_splitPiece 104 = .ok (.lsub, 1) := by decide +kernel
theorem dX6_splitPiece_105 : decode cX6_splitPiece 105 = .ok (.aload_n 0, 1) := by decide +kernel
theorem dX6_splitPiece_106 : decode cX6_splitPiece 106 = .ok (.getfield 40, 3) := by decide +kernel
theorem dX6_splitPiece_109 : decode cX6_splitPiece 109 = .ok (.getfield 81, 3) := by decide +kernel
theorem dX6_splitPiece_112 : decode cX6_splitPiece 112 = .ok (.invokestatic 92, 3) := by decide +kernel
theorem dX6_splitPiece_115 : decode cX6_splitPiece 115 = .ok (.lastore, 1) := by decide +kernel
theorem dX6_splitPiece_116 : decode cX6_splitPiece 116 = .ok (.aload_n 0, 1) := by decide +kernel
theorem dX6_splitPiece_117 : decode cX6_splitPiece 117 = .ok (.getfield 40, 3) := by decide +kernel
theorem dX6_splitPiece_120 : decode cX6_splitPiece 120 = .ok (.aload_n 1, 1) := by decide +kernel
theorem dX6_splitPiece_121 : decode cX6_splitPiece 121 = .ok (.aload_n 0, 1) := by decide +kernel
theorem dX6_splitPiece_122 : decode cX6_splitPiece 122 = .ok (.getfield 37, 3) := by decide +kernel
theorem dX6_splitPiece_125 : decode cX6_splitPiece 125 = .ok (.aload_n 0, 1) := by decide +kernel
theorem dX6_splitPiece_126 : decode cX6_splitPiece 126 = .ok (.getfield 37, 3) := by decide +kernel
theorem dX6_splitPiece_129 : decode cX6_splitPiece 129 = .ok (.invokevirtual 113, 3) := by decide +kernel
theorem dX6_splitPiece_132 : decode cX6_splitPiece 132 = .ok (.aload_n 0, 1) := by decide +kernel
theorem dX6_splitPiece_133 : decode cX6_splitPiece 133 = .ok (.getfield 37, 3) := by decide +kernel
theorem dX6_splitPiece_136 : decode cX6_splitPiece 136 = .ok (.invokestatic 44, 3) := by decide +kernel
theorem dX6_splitPiece_139 : decode cX6_splitPiece 139 = .ok (.istore 5, 2) := by decide +kernel
theorem dX6_splitPiece_141 : decode cX6_splitPiece 141 = .ok (.iload 5, 2) := by decide +kernel
theorem dX6_splitPiece_143 : decode cX6_splitPiece 143 = .ok (.iconst 1, 1) := by decide +kernel
theorem dX6_splitPiece_144 : decode cX6_splitPiece 144 = .ok (.if_icmp .lt 19, 3) := by decide +kernel
theorem dX6_splitPiece_147 : decode cX6_splitPiece 147 = .ok (.iload 5, 2) := by decide +kernel
theorem dX6_splitPiece_149 : decode cX6_splitPiece 149 = .ok (.iload 4, 2) := by decide +kernel
theorem dX6_splitPiece_151 : decode cX6_splitPiece 151 = .ok (.if_icmp .ge 12, 3) := by decide +kernel
theorem dX6_splitPiece_154 : decode cX6_splitPiece 154 = .ok (.aload_n 0, 1) := by decide +kernel
theorem dX6_splitPiece_155 : decode cX6_splitPiece 155 = .ok (.getfield 16, 3) := by decide +kernel
theorem dX6_splitPiece_158 : decode cX6_splitPiece 158 = .ok (.bipush 10, 2) := by decide +kernel
theorem dX6_splitPiece_160 : decode cX6_splitPiece 160 = .ok (.if_icmp .lt 4, 3) := by decide +kernel
theorem dX6_splitPiece_163 : decode cX6_splitPiece 163 = .ok (.return_, 1) := by decide +kernel
theorem dX6_splitPiece_164 : decode cX6_splitPiece 164 = .ok (.aload_n 1, 1) := by decide +kernel
theorem dX6_splitPiece_165 : decode cX6_splitPiece 165 = .ok (.aload_n 0, 1) := by decide +kernel
theorem dX6_splitPiece_166 : decode cX6_splitPiece 166 = .ok (.getfield 33, 3) := by decide +kernel
theorem dX6_splitPiece_169 : decode cX6_splitPiece 169 = .ok (.invokestatic 89, 3) := by decide +kernel
theorem dX6_splitPiece_172 : decode cX6_splitPiece 172 = .ok (.aload_n 0, 1) := by decide +kernel
theorem dX6_splitPiece_173 : decode cX6_splitPiece 173 = .ok (.getfield 40, 3) := by decide +kernel
theorem dX6_splitPiece_176 : decode cX6_splitPiece 176 = .ok (.aload_n 0, 1) := by decide +kernel
theorem dX6_splitPiece_177 : decode cX6_splitPiece 177 = .ok (.getfield 33, 3) := by decide +kernel
theorem dX6_splitPiece_180 : decode cX6_splitPiece 180 = .ok (.aload_n 0, 1) := by decide +kernel
theorem dX6_splitPiece_181 : decode cX6_splitPiece 181 = .ok (.getfield 37, 3) := by decide +kernel
theorem dX6_splitPiece_184 : decode cX6_splitPiece 184 = .ok (.invokevirtual 75, 3) := by decide +kernel
theorem dX6_splitPiece_187 : decode cX6_splitPiece 187 = .ok (.aload_n 0, 1) := by decide +kernel
theorem dX6_splitPiece_188 : decode cX6_splitPiece 188 = .ok (.getfield 40, 3) := by decide +kernel
theorem dX6_splitPiece_191 : decode cX6_splitPiece 191 = .ok (.getfield 117, 3) := by decide +kernel
theorem dX6_splitPiece_194 : decode cX6_splitPiece 194 = .ok (.aload_n 1, 1) := by decide +kernel
theorem dX6_splitPiece_195 : decode cX6_splitPiece 195 = .ok (.invokestatic 89, 3) := by decide +kernel
theorem dX6_splitPiece_198 : decode cX6_splitPiece 198 = .ok (.aload_n 0, 1) := by decide +kernel
theorem dX6_splitPiece_199 : decode cX6_splitPiece 199 = .ok (.getfield 37, 3) := by decide +kernel
theorem dX6_splitPiece_202 : decode cX6_splitPiece 202 = .ok (.aload_n 0, 1) := by decide +kernel
theorem dX6_splitPiece_203 : decode cX6_splitPiece 203 = .ok (.getfield 11, 3) := by decide +kernel
theorem dX6_splitPiece_206 : decode cX6_splitPiece 206 = .ok (.aload_n 0, 1) := by decide +kernel
theorem dX6_splitPiece_207 : decode cX6_splitPiece 207 = .ok (.getfield 16, 3) := by decide +kernel
theorem dX6_splitPiece_210 : decode cX6_splitPiece 210 = .ok (.aaload, 1) := by decide +kernel
theorem dX6_splitPiece_211 : decode cX6_splitPiece 211 = .ok (.invokestatic 89, 3) := by decide +kernel
theorem dX6_splitPiece_214 : decode cX6_splitPiece 214 = .ok (.aload_n 0, 1) := by decide +kernel
theorem dX6_splitPiece_215 : decode cX6_splitPiece 215 = .ok (.dup, 1) := by decide +kernel
theorem dX6_splitPiece_216 : decode cX6_splitPiece 216 = .ok (.getfield 16, 3) := by decide +kernel
theorem dX6_splitPiece_219 : decode cX6_splitPiece 219 = .ok (.iconst 1, 1) := by decide +kernel
theorem dX6_splitPiece_220 : decode cX6_splitPiece 220 = .ok (.iadd, 1) := by decide +kernel
theorem dX6_splitPiece_221 : decode cX6_splitPiece 221 = .ok (.putfield 16, 3) := by decide +kernel
theorem dX6_splitPiece_224 : decode cX6_splitPiece 224 = .ok (.return_, 1) := by decide +kernel
theorem dJ6_bitCount_0f7a4_0 : decode cJ6_bitCount_0f7a4 0 = .ok (.iload_n 0, 1) := by decide +kernel
theorem dJ6_bitCount_0f7a4_1 : decode cJ6_bitCount_0f7a4 1 = .ok (.iload_n 0, 1) := by decide +kernel
theorem dJ6_bitCount_0f7a4_2 : decode cJ6_bitCount_0f7a4 2 = .ok (.iconst 1, 1) := by decide +kernel
theorem dJ6_bitCount_0f7a4_3 : decode cJ6_bitCount_0f7a4 3 = .ok (.iushr, 1) := by decide +kernel
theorem dJ6_bitCount_0f7a4_4 : decode cJ6_bitCount_0f7a4 4 = .ok (.ldc_w 265, 3) := by decide +kernel
theorem dJ6_bitCount_0f7a4_7 : decode cJ6_bitCount_0f7a4 7 = .ok (.iand, 1) := by decide +kernel
theorem dJ6_bitCount_0f7a4_8 : decode cJ6_bitCount_0f7a4 8 = .ok (.isub, 1) := by decide +kernel
theorem dJ6_bitCount_0f7a4_9 : decode cJ6_bitCount_0f7a4 9 = .ok (.istore_n 0, 1) := by decide +kernel
theorem dJ6_bitCount_0f7a4_10 : decode cJ6_bitCount_0f7a4 10 = .ok (.iload_n 0, 1) := by decide +kernel
theorem dJ6_bitCount_0f7a4_11 : decode cJ6_bitCount_0f7a4 11 = .ok (.ldc_w 266, 3) := by decide +kernel
theorem dJ6_bitCount_0f7a4_14 : decode cJ6_bitCount_0f7a4 14 = .ok (.iand, 1) := by decide +kernel
theorem dJ6_bitCount_0f7a4_15 : decode cJ6_bitCount_0f7a4 15 = .ok (.iload_n 0, 1) := by decide +kernel
theorem dJ6_bitCount_0f7a4_16 : decode cJ6_bitCount_0f7a4 16 = .ok (.iconst 2, 1) := by decide +kernel
theorem dJ6_bitCount_0f7a4_17 : decode cJ6_bitCount_0f7a4 17 = .ok (.iushr, 1) := by decide +kernel
theorem dJ6_bitCount_0f7a4_18 : decode cJ6_bitCount_0f7a4 18 = .ok (.ldc_w 266, 3) := by decide +kernel
theorem dJ6_bitCount_0f7a4_21 : decode cJ6_bitCount_0f7a4 21 = .ok (.iand, 1) := by decide +kernel
theorem dJ6_bitCount_0f7a4_22 : decode cJ6_bitCount_0f7a4 22 = .ok (.iadd, 1) := by decide +kernel
theorem dJ6_bitCount_0f7a4_23 : decode cJ6_bitCount_0f7a4 23 = .ok (.istore_n 0, 1) := by decide +kernel
theorem dJ6_bitCount_0f7a4_24 : decode cJ6_bitCount_0f7a4 24 = .ok (.iload_n 0, 1) := by decide +kernel
theorem dJ6_bitCount_0f7a4_25 : decode cJ6_bitCount_0f7a4 25 = .ok (.iload_n 0, 1) := by decide +kernel
theorem dJ6_bitCount_0f7a4_26 : decode cJ6_bitCount_0f7a4 26 = .ok (.iconst 4, 1) := by decide +kernel
theorem dJ6_bitCount_0f7a4_27 : decode cJ6_bitCount_0f7a4 27 = .ok (.iushr, 1) := by decide +kernel
theorem dJ6_bitCount_0f7a4_28 : decode cJ6_bitCount_0f7a4 28 = .ok (.iadd, 1) := by decide +kernel
theorem dJ6_bitCount_0f7a4_29 : decode cJ6_bitCount_0f7a4 29 = .ok (.ldc_w 267, 3) := by decide +kernel
theorem dJ6_bitCount_0f7a4_32 : decode cJ6_bitCount_0f7a4 32 = .ok (.iand, 1) := by decide +kernel
theorem dJ6_bitCount_0f7a4_33 : decode cJ6_bitCount_0f7a4 33 = .ok (.istore_n 0, 1) := by decide +kernel
theorem dJ6_bitCount_0f7a4_34 : decode cJ6_bitCount_0f7a4 34 = .ok (.iload_n 0, 1) := by decide +kernel
theorem dJ6_bitCount_0f7a4_35 : decode cJ6_bitCount_0f7a4 35 = .ok (.iload_n 0, 1) := by decide +kernel
theorem dJ6_bitCount_0f7a4_36 : decode cJ6_bitCount_0f7a4 36 = .ok (.bipush 8, 2) := by decide +kernel
theorem dJ6_bitCount_0f7a4_38 : decode cJ6_bitCount_0f7a4 38 = .ok (.iushr, 1) := by decide +kernel
theorem dJ6_bitCount_0f7a4_39 : decode cJ6_bitCount_0f7a4 39 = .ok (.iadd, 1) := by decide +kernel
theorem dJ6_bitCount_0f7a4_40 : decode cJ6_bitCount_0f7a4 40 = .ok (.istore_n 0, 1) := by decide +kernel
theorem dJ6_bitCount_0f7a4_41 : decode cJ6_bitCount_0f7a4 41 = .ok (.iload_n 0, 1) := by decide +kernel
theorem dJ6_bitCount_0f7a4_42 : decode cJ6_bitCount_0f7a4 42 = .ok (.iload_n 0, 1) := by decide +kernel
theorem dJ6_bitCount_0f7a4_43 : decode cJ6_bitCount_0f7a4 43 = .ok (.bipush 16, 2) := by decide +kernel
theorem dJ6_bitCount_0f7a4_45 : decode cJ6_bitCount_0f7a4 45 = .ok (.iushr, 1) := by decide +kernel
theorem dJ6_bitCount_0f7a4_46 : decode cJ6_bitCount_0f7a4 46 = .ok (.iadd, 1) := by decide +kernel
theorem dJ6_bitCount_0f7a4_47 : decode cJ6_bitCount_0f7a4 47 = .ok (.istore_n 0, 1) := by decide +kernel
theorem dJ6_bitCount_0f7a4_48 : decode cJ6_bitCount_0f7a4 48 = .ok (.iload_n 0, 1) := by decide +kernel
theorem dJ6_bitCount_0f7a4_49 : decode cJ6_bitCount_0f7a4 49 = .ok (.bipush 63, 2) := by decide +kernel
theorem dJ6_bitCount_0f7a4_51 : decode cJ6_bitCount_0f7a4 51 = .ok (.iand, 1) := by decide +kernel
theorem dJ6_bitCount_0f7a4_52 : decode cJ6_bitCount_0f7a4 52 = .ok (.ireturn, 1) := by decide +kernel

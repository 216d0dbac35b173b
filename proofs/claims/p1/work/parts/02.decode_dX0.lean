theorem dX0_init_0 : decode cX0_init 0 = .ok (.aload_n 0, 1) := by decide +kernel
theorem dX0_init_1 : decode cX0_init 1 = .ok (.invokespecial 1, 3) := by decide +kernel
theorem dX0_init_4 : decode cX0_init 4 = .ok (.aload_n 0, 1) := by decide +kernel
theorem dX0_init_5 : decode cX0_init 5 = .ok (.aload_n 1, 1) := by decide +kernel
theorem dX0_init_6 : decode cX0_init 6 = .ok (.putfield 7, 3) := by decide +kernel
theorem dX0_init_9 : decode cX0_init 9 = .ok (.aload_n 0, 1) := by decide +kernel
theorem dX0_init_10 : decode cX0_init 10 = .ok (.aload_n 2, 1) := by decide +kernel
theorem dX0_init_11 : decode cX0_init 11 = .ok (.putfield 13, 3) := by decide +kernel
theorem dX0_init_14 : decode cX0_init 14 = .ok (.return_, 1) := by decide +kernel
theorem dX0_find_0 : decode cX0_find 0 = .ok (.aload_n 1, 1) := by decide +kernel
theorem dX0_find_1 : decode cX0_find 1 = .ok (.invokestatic 17, 3) := by decide +kernel
theorem dX0_find_4 : decode cX0_find 4 = .ok (.istore 4, 2) := by decide +kernel
theorem dX0_find_6 : decode cX0_find 6 = .ok (.aload_n 2, 1) := by decide +kernel
theorem dX0_find_7 : decode cX0_find 7 = .ok (.invokestatic 17, 3) := by decide +kernel
theorem dX0_find_10 : decode cX0_find 10 = .ok (.istore 5, 2) := by decide +kernel
theorem dX0_find_12 : decode cX0_find 12 = .ok (.iload 4, 2) := by decide +kernel
theorem dX0_find_14 : decode cX0_find 14 = .ok (.ifCond .lt 8, 3) := by decide +kernel
theorem dX0_find_17 : decode cX0_find 17 = .ok (.iload 5, 2) := by decide +kernel
theorem dX0_find_19 : decode cX0_find 19 = .ok (.ifCond .ge 22, 3) := by decide +kernel
theorem dX0_find_22 : decode cX0_find 22 = .ok (.iload 4, 2) := by decide +kernel
theorem dX0_find_24 : decode cX0_find 24 = .ok (.ifCond .ge 7, 3) := by decide +kernel
theorem dX0_find_27 : decode cX0_find 27 = .ok (.aload_n 2, 1) := by decide +kernel
theorem dX0_find_28 : decode cX0_find 28 = .ok (.goto 4, 3) := by decide +kernel
theorem dX0_find_31 : decode cX0_find 31 = .ok (.aload_n 1, 1) := by decide +kernel
theorem dX0_find_32 : decode cX0_find 32 = .ok (.aload_n 3, 1) := by decide +kernel
theorem dX0_find_33 : decode cX0_find 33 = .ok (.invokestatic 23, 3) := by decide +kernel
theorem dX0_find_36 : decode cX0_find 36 = .ok (.aload_n 3, 1) := by decide +kernel
theorem dX0_find_37 : decode cX0_find 37 = .ok (.invokestatic 27, 3) := by decide +kernel
theorem dX0_find_40 : decode cX0_find 40 = .ok (.return_, 1) := by decide +kernel
theorem dX0_find_41 : decode cX0_find 41 = .ok (.aload_n 1, 1) := by decide +kernel
theorem dX0_find_42 : decode cX0_find 42 = .ok (.iload 4, 2) := by decide +kernel
theorem dX0_find_44 : decode cX0_find 44 = .ok (.laload, 1) := by decide +kernel
theorem dX0_find_45 : decode cX0_find 45 = .ok (.aload_n 2, 1) := by decide +kernel
theorem dX0_find_46 : decode cX0_find 46 = .ok (.iload 5, 2) := by decide +kernel
theorem dX0_find_48 : decode cX0_find 48 = .ok (.laload, 1) := by decide +kernel
theorem dX0_find_49 : decode cX0_find 49 = .ok (.invokestatic 31, 3) := by decide +kernel
theorem dX0_find_52 : decode cX0_find 52 = .ok (.lstore 6, 2) := by decide +kernel
theorem dX0_find_54 : decode cX0_find 54 = .ok (.iconst 0, 1) := by decide +kernel
theorem dX0_find_55 : decode cX0_find 55 = .ok (.istore 8, 2) := by decide +kernel
theorem dX0_find_57 : decode cX0_find 57 = .ok (.iconst 0, 1) := by decide +kernel
theorem dX0_find_58 : decode cX0_find 58 = .ok (.istore 9, 2) := by decide +kernel
theorem dX0_find_60 : decode cX0_find 60 = .ok (.iload 9, 2) := by decide +kernel
theorem dX0_find_62 : decode cX0_find 62 = .ok (.getstatic 35, 3) := by decide +kernel
theorem dX0_find_65 : decode cX0_find 65 = .ok (.arraylength, 1) := by decide +kernel
theorem dX0_find_66 : decode cX0_find 66 = .ok (.if_icmp .ge 82, 3) := by decide +kernel
theorem dX0_find_69 : decode cX0_find 69 = .ok (.iload 8, 2) := by decide +kernel
theorem dX0_find_71 : decode cX0_find 71 = .ok (.ifCond .ne 77, 3) := by decide +kernel
theorem dX0_find_74 : decode cX0_find 74 = .ok (.aload_n 0, 1) := by decide +kernel
theorem dX0_find_75 : decode cX0_find 75 = .ok (.getfield 7, 3) := by decide +kernel
theorem dX0_find_78 : decode cX0_find 78 = .ok (.getstatic 35, 3) := by decide +kernel
theorem dX0_find_81 : decode cX0_find 81 = .ok (.iload 9, 2) := by decide +kernel
theorem dX0_find_83 : decode cX0_find 83 = .ok (.laload, 1) := by decide +kernel
theorem dX0_find_84 : decode cX0_find 84 = .ok (.invokevirtual 41, 3) := by decide +kernel
theorem dX0_find_87 : decode cX0_find 87 = .ok (.aload_n 0, 1) := by decide +kernel
theorem dX0_find_88 : decode cX0_find 88 = .ok (.getfield 7, 3) := by decide +kernel
theorem dX0_find_91 : decode cX0_find 91 = .ok (.aload_n 1, 1) := by decide +kernel
theorem dX0_find_92 : decode cX0_find 92 = .ok (.aload_n 2, 1) := by decide +kernel
theorem dX0_find_93 : decode cX0_find 93 = .ok (.aload_n 3, 1) := by decide +kernel
theorem dX0_find_94 : decode cX0_find 94 = .ok (.invokevirtual 47, 3) := by decide +kernel
theorem dX0_find_97 : decode cX0_find 97 = .ok (.aload_n 0, 1) := by decide +kernel
theorem dX0_find_98 : decode cX0_find 98 = .ok (.getfield 7, 3) := by decide +kernel
theorem dX0_find_101 : decode cX0_find 101 = .ok (.aload_n 3, 1) := by decide +kernel
theorem dX0_find_102 : decode cX0_find 102 = .ok (.lload 6, 2) := by decide +kernel
theorem dX0_find_104 : decode cX0_find 104 = .ok (.invokevirtual 51, 3) := by decide +kernel
theorem dX0_find_107 : decode cX0_find 107 = .ok (.aload_n 3, 1) := by decide +kernel
theorem dX0_find_108 : decode cX0_find 108 = .ok (.invokestatic 27, 3) := by decide +kernel
theorem dX0_find_111 : decode cX0_find 111 = .ok (.aload_n 0, 1) := by decide +kernel
theorem dX0_find_112 : decode cX0_find 112 = .ok (.getfield 13, 3) := by decide +kernel
theorem dX0_find_115 : decode cX0_find 115 = .ok (.aload_n 1, 1) := by decide +kernel
theorem dX0_find_116 : decode cX0_find 116 = .ok (.aload_n 3, 1) := by decide +kernel
theorem dX0_find_117 : decode cX0_find 117 = .ok (.invokevirtual 55, 3) := by decide +kernel
theorem dX0_find_120 : decode cX0_find 120 = .ok (.ifCond .eq 19, 3) := by decide +kernel
theorem dX0_find_123 : decode cX0_find 123 = .ok (.aload_n 0, 1) := by decide +kernel
theorem dX0_find_124 : decode cX0_find 124 = .ok (.getfield 13, 3) := by decide +kernel
theorem dX0_find_127 : decode cX0_find 127 = .ok (.aload_n 2, 1) := by decide +kernel
theorem dX0_find_128 : decode cX0_find 128 = .ok (.aload_n 3, 1) := by decide +kernel
theorem dX0_find_129 : decode cX0_find 129 = .ok (.invokevirtual 55, 3) := by decide +kernel
theorem dX0_find_132 : decode cX0_find 132 = .ok (.ifCond .eq 7, 3) := by decide +kernel
theorem dX0_find_135 : decode cX0_find 135 = .ok (.iconst 1, 1) := by decide +kernel
theorem dX0_find_136 : decode cX0_find 136 = .ok (.goto 4, 3) := by decide +kernel
theorem dX0_find_139 : decode cX0_find 139 = .ok (.iconst 0, 1) := by decide +kernel
theorem dX0_find_140 : decode cX0_find 140 = .ok (.istore 8, 2) := by decide +kernel
theorem dX0_find_142 : decode cX0_find 142 = .ok (.iinc 9 1, 3) := by decide +kernel
theorem dX0_find_145 : decode cX0_find 145 = .ok (.goto (-85), 3) := by decide +kernel
theorem dX0_find_148 : decode cX0_find 148 = .ok (.return_, 1) := by decide +kernel

theorem dX7_init_0 : decode cX7_init 0 = .ok (.aload_n 0, 1) := by decide +kernel
theorem dX7_init_1 : decode cX7_init 1 = .ok (.invokespecial 3, 3) := by decide +kernel
theorem dX7_init_4 : decode cX7_init 4 = .ok (.aload_n 0, 1) := by decide +kernel
theorem dX7_init_5 : decode cX7_init 5 = .ok (.bipush 80, 2) := by decide +kernel
theorem dX7_init_7 : decode cX7_init 7 = .ok (.bipush 11, 2) := by decide +kernel
theorem dX7_init_9 : decode cX7_init 9 = .ok (.multianewarray 9 2, 4) := by decide +kernel
theorem dX7_init_13 : decode cX7_init 13 = .ok (.putfield 11, 3) := by decide +kernel
theorem dX7_init_16 : decode cX7_init 16 = .ok (.aload_n 0, 1) := by decide +kernel
theorem dX7_init_17 : decode cX7_init 17 = .ok (.iconst 0, 1) := by decide +kernel
theorem dX7_init_18 : decode cX7_init 18 = .ok (.putfield 14, 3) := by decide +kernel
theorem dX7_init_21 : decode cX7_init 21 = .ok (.aload_n 0, 1) := by decide +kernel
theorem dX7_init_22 : decode cX7_init 22 = .ok (.bipush 10, 2) := by decide +kernel
theorem dX7_init_24 : decode cX7_init 24 = .ok (.newarray .int, 2) := by decide +kernel
theorem dX7_init_26 : decode cX7_init 26 = .ok (.putfield 18, 3) := by decide +kernel
theorem dX7_init_29 : decode cX7_init 29 = .ok (.aload_n 0, 1) := by decide +kernel
theorem dX7_init_30 : decode cX7_init 30 = .ok (.bipush 10, 2) := by decide +kernel
theorem dX7_init_32 : decode cX7_init 32 = .ok (.newarray .int, 2) := by decide +kernel
theorem dX7_init_34 : decode cX7_init 34 = .ok (.putfield 22, 3) := by decide +kernel
theorem dX7_init_37 : decode cX7_init 37 = .ok (.aload_n 0, 1) := by decide +kernel
theorem dX7_init_38 : decode cX7_init 38 = .ok (.iconst 0, 1) := by decide +kernel
theorem dX7_init_39 : decode cX7_init 39 = .ok (.putfield 25, 3) := by decide +kernel
theorem dX7_init_42 : decode cX7_init 42 = .ok (.aload_n 0, 1) := by decide +kernel
theorem dX7_init_43 : decode cX7_init 43 = .ok (.bipush 11, 2) := by decide +kernel
theorem dX7_init_45 : decode cX7_init 45 = .ok (.newarray .long, 2) := by decide +kernel
theorem dX7_init_47 : decode cX7_init 47 = .ok (.putfield 28, 3) := by decide +kernel
theorem dX7_init_50 : decode cX7_init 50 = .ok (.aload_n 0, 1) := by decide +kernel
theorem dX7_init_51 : decode cX7_init 51 = .ok (.bipush 11, 2) := by decide +kernel
theorem dX7_init_53 : decode cX7_init 53 = .ok (.newarray .long, 2) := by decide +kernel
theorem dX7_init_55 : decode cX7_init 55 = .ok (.putfield 32, 3) := by decide +kernel
theorem dX7_init_58 : decode cX7_init 58 = .ok (.aload_n 0, 1) := by decide +kernel
theorem dX7_init_59 : decode cX7_init 59 = .ok (.bipush 11, 2) := by decide +kernel
theorem dX7_init_61 : decode cX7_init 61 = .ok (.newarray .long, 2) := by decide +kernel
theorem dX7_init_63 : decode cX7_init 63 = .ok (.putfield 35, 3) := by decide +kernel
theorem dX7_init_66 : decode cX7_init 66 = .ok (.aload_n 0, 1) := by decide +kernel
theorem dX7_init_67 : decode cX7_init 67 = .ok (.bipush 21, 2) := by decide +kernel
theorem dX7_init_69 : decode cX7_init 69 = .ok (.newarray .long, 2) := by decide +kernel
theorem dX7_init_71 : decode cX7_init 71 = .ok (.putfield 38, 3) := by decide +kernel
theorem dX7_init_74 : decode cX7_init 74 = .ok (.aload_n 0, 1) := by decide +kernel
theorem dX7_init_75 : decode cX7_init 75 = .ok (.new 41, 3) := by decide +kernel
theorem dX7_init_78 : decode cX7_init 78 = .ok (.dup, 1) := by decide +kernel
theorem dX7_init_79 : decode cX7_init 79 = .ok (.invokespecial 43, 3) := by decide +kernel
theorem dX7_init_82 : decode cX7_init 82 = .ok (.putfield 44, 3) := by decide +kernel
theorem dX7_init_85 : decode cX7_init 85 = .ok (.aload_n 0, 1) := by decide +kernel
theorem dX7_init_86 : decode cX7_init 86 = .ok (.new 48, 3) := by decide +kernel
theorem dX7_init_89 : decode cX7_init 89 = .ok (.dup, 1) := by decide +kernel
theorem dX7_init_90 : decode cX7_init 90 = .ok (.invokespecial 50, 3) := by decide +kernel
theorem dX7_init_93 : decode cX7_init 93 = .ok (.putfield 51, 3) := by decide +kernel
theorem dX7_init_96 : decode cX7_init 96 = .ok (.aload_n 0, 1) := by decide +kernel
theorem dX7_init_97 : decode cX7_init 97 = .ok (.new 55, 3) := by decide +kernel
theorem dX7_init_100 : decode cX7_init 100 = .ok (.dup, 1) := by decide +kernel
theorem dX7_init_101 : decode cX7_init 101 = .ok (.aload_n 0, 1) := by decide +kernel
theorem dX7_init_102 : decode cX7_init 102 = .ok (.getfield 44, 3) := by decide +kernel
theorem dX7_init_105 : decode cX7_init 105 = .ok (.aload_n 0, 1) := by decide +kernel
theorem dX7_init_106 : decode cX7_init 106 = .ok (.getfield 51, 3) := by decide +kernel
theorem dX7_init_109 : decode cX7_init 109 = .ok (.invokespecial 57, 3) := by decide +kernel
theorem dX7_init_112 : decode cX7_init 112 = .ok (.putfield 60, 3) := by decide +kernel
theorem dX7_init_115 : decode cX7_init 115 = .ok (.aload_n 0, 1) := by decide +kernel
theorem dX7_init_116 : decode cX7_init 116 = .ok (.new 64, 3) := by decide +kernel
theorem dX7_init_119 : decode cX7_init 119 = .ok (.dup, 1) := by decide +kernel
theorem dX7_init_120 : decode cX7_init 120 = .ok (.aload_n 0, 1) := by decide +kernel
theorem dX7_init_121 : decode cX7_init 121 = .ok (.getfield 44, 3) := by decide +kernel
theorem dX7_init_124 : decode cX7_init 124 = .ok (.invokespecial 66, 3) := by decide +kernel
theorem dX7_init_127 : decode cX7_init 127 = .ok (.putfield 69, 3) := by decide +kernel
theorem dX7_init_130 : decode cX7_init 130 = .ok (.aload_n 0, 1) := by decide +kernel
theorem dX7_init_131 : decode cX7_init 131 = .ok (.new 73, 3) := by decide +kernel
theorem dX7_init_134 : decode cX7_init 134 = .ok (.dup, 1) := by decide +kernel
theorem dX7_init_135 : decode cX7_init 135 = .ok (.aload_n 0, 1) := by decide +kernel
theorem dX7_init_136 : decode cX7_init 136 = .ok (.getfield 44, 3) := by decide +kernel
theorem dX7_init_139 : decode cX7_init 139 = .ok (.aload_n 0, 1) := by decide +kernel
theorem dX7_init_140 : decode cX7_init 140 = .ok (.getfield 51, 3) := by decide +kernel
theorem dX7_init_143 : decode cX7_init 143 = .ok (.aload_n 0, 1) := by decide +kernel
theorem dX7_init_144 : decode cX7_init 144 = .ok (.getfield 60, 3) := by decide +kernel
theorem dX7_init_147 : decode cX7_init 147 = .ok (.aload_n 0, 1) := by decide +kernel
theorem dX7_init_148 : decode cX7_init 148 = .ok (.getfield 69, 3) := by decide +kernel
theorem dX7_init_151 : decode cX7_init 151 = .ok (.invokespecial 75, 3) := by decide +kernel
theorem dX7_init_154 : decode cX7_init 154 = .ok (.putfield 78, 3) := by decide +kernel
theorem dX7_init_157 : decode cX7_init 157 = .ok (.aload_n 0, 1) := by decide +kernel
theorem dX7_init_158 : decode cX7_init 158 = .ok (.new 82, 3) := by decide +kernel
theorem dX7_init_161 : decode cX7_init 161 = .ok (.dup, 1) := by decide +kernel
theorem dX7_init_162 : decode cX7_init 162 = .ok (.invokespecial 84, 3) := by decide +kernel
theorem dX7_init_165 : decode cX7_init 165 = .ok (.putfield 85, 3) := by decide +kernel
theorem dX7_init_168 : decode cX7_init 168 = .ok (.return_, 1) := by decide +kernel
theorem dX7_poly_0 : decode cX7_poly 0 = .ok (.aload_n 0, 1) := by decide +kernel
theorem dX7_poly_1 : decode cX7_poly 1 = .ok (.invokevirtual 89, 3) := by decide +kernel
theorem dX7_poly_4 : decode cX7_poly 4 = .ok (.aload_n 0, 1) := by decide +kernel
theorem dX7_poly_5 : decode cX7_poly 5 = .ok (.getfield 35, 3) := by decide +kernel
theorem dX7_poly_8 : decode cX7_poly 8 = .ok (.lconst 0, 1) := by decide +kernel
theorem dX7_poly_9 : decode cX7_poly 9 = .ok (.invokestatic 92, 3) := by decide +kernel
theorem dX7_poly_12 : decode cX7_poly 12 = .ok (.aload_n 0, 1) := by decide +kernel
theorem dX7_poly_13 : decode cX7_poly 13 = .ok (.aload_n 0, 1) := by decide +kernel
theorem dX7_poly_14 : decode cX7_poly 14 = .ok (.getfield 35, 3) := by decide +kernel
theorem dX7_poly_17 : decode cX7_poly 17 = .ok (.invokevirtual 98, 3) := by decide +kernel
theorem dX7_poly_20 : decode cX7_poly 20 = .ok (.ireturn, 1) := by decide +kernel
theorem dX7_set_0 : decode cX7_set 0 = .ok (.iload_n 1, 1) := by decide +kernel
theorem dX7_set_1 : decode cX7_set 1 = .ok (.invokestatic 102, 3) := by decide +kernel
theorem dX7_set_4 : decode cX7_set 4 = .ok (.iload_n 2, 1) := by decide +kernel
theorem dX7_set_5 : decode cX7_set 5 = .ok (.invokestatic 106, 3) := by decide +kernel
theorem dX7_set_8 : decode cX7_set 8 = .ok (.iload_n 3, 1) := by decide +kernel
theorem dX7_set_9 : decode cX7_set 9 = .ok (.sipush (-9999), 3) := by decide +kernel
theorem dX7_set_12 : decode cX7_set 12 = .ok (.if_icmp .lt 10, 3) := by decide +kernel
theorem dX7_set_15 : decode cX7_set 15 = .ok (.iload_n 3, 1) := by decide +kernel
theorem dX7_set_16 : decode cX7_set 16 = .ok (.sipush 9999, 3) := by decide +kernel
theorem dX7_set_19 : decode cX7_set 19 = .ok (.if_icmp .le 13, 3) := by decide +kernel
theorem dX7_set_22 : decode cX7_set 22 = .ok (.new 109, 3) := by decide +kernel
theorem dX7_set_25 : decode cX7_set 25 = .ok (.dup, 1) := by decide +kernel
theorem dX7_set_26 : decode cX7_set 26 = .ok (.ldc 111, 2) := by decide +kernel
theorem dX7_set_28 : decode cX7_set 28 = .ok (.invokespecial 113, 3) := by decide +kernel
theorem dX7_set_31 : decode cX7_set 31 = .ok (.athrow, 1) := by decide +kernel
theorem dX7_set_32 : decode cX7_set 32 = .ok (.aload_n 0, 1) := by decide +kernel
theorem dX7_set_33 : decode cX7_set 33 = .ok (.getfield 11, 3) := by decide +kernel
theorem dX7_set_36 : decode cX7_set 36 = .ok (.iload_n 1, 1) := by decide +kernel
theorem dX7_set_37 : decode cX7_set 37 = .ok (.aaload, 1) := by decide +kernel
theorem dX7_set_38 : decode cX7_set 38 = .ok (.iload_n 2, 1) := by decide +kernel
theorem dX7_set_39 : decode cX7_set 39 = .ok (.iaload, 1) := by decide +kernel
theorem dX7_set_40 : decode cX7_set 40 = .ok (.iload_n 3, 1) := by decide +kernel
theorem dX7_set_41 : decode cX7_set 41 = .ok (.if_icmp .eq 7, 3) := by decide +kernel
theorem dX7_set_44 : decode cX7_set 44 = .ok (.iconst 1, 1) := by decide +kernel
theorem dX7_set_45 : decode cX7_set 45 = .ok (.goto 4, 3) := by decide +kernel
theorem dX7_set_48 : decode cX7_set 48 = .ok (.iconst 0, 1) := by decide +kernel
theorem dX7_set_49 : decode cX7_set 49 = .ok (.istore 4, 2) := by decide +kernel
theorem dX7_set_51 : decode cX7_set 51 = .ok (.aload_n 0, 1) := by decide +kernel
theorem dX7_set_52 : decode cX7_set 52 = .ok (.getfield 11, 3) := by decide +kernel
theorem dX7_set_55 : decode cX7_set 55 = .ok (.iload_n 1, 1) := by decide +kernel
theorem dX7_set_56 : decode cX7_set 56 = .ok (.aaload, 1) := by decide +kernel
theorem dX7_set_57 : decode cX7_set 57 = .ok (.iload_n 2, 1) := by decide +kernel
theorem dX7_set_58 : decode cX7_set 58 = .ok (.iload_n 3, 1) := by decide +kernel
theorem dX7_set_59 : decode cX7_set 59 = .ok (.iastore, 1) := by decide +kernel
theorem dX7_set_60 : decode cX7_set 60 = .ok (.iload 4, 2) := by decide +kernel
theorem dX7_set_62 : decode cX7_set 62 = .ok (.ireturn, 1) := by decide +kernel
theorem dX7_at_0 : decode cX7_at 0 = .ok (.iload_n 1, 1) := by decide +kernel
theorem dX7_at_1 : decode cX7_at 1 = .ok (.invokestatic 102, 3) := by decide +kernel
theorem dX7_at_4 : decode cX7_at 4 = .ok (.iload_n 2, 1) := by decide +kernel
theorem dX7_at_5 : decode cX7_at 5 = .ok (.invokestatic 106, 3) := by decide +kernel
theorem dX7_at_8 : decode cX7_at 8 = .ok (.aload_n 0, 1) := by decide +kernel
theorem dX7_at_9 : decode cX7_at 9 = .ok (.getfield 11, 3) := by decide +kernel
theorem dX7_at_12 : decode cX7_at 12 = .ok (.iload_n 1, 1) := by decide +kernel
theorem dX7_at_13 : decode cX7_at 13 = .ok (.aaload, 1) := by decide +kernel
theorem dX7_at_14 : decode cX7_at 14 = .ok (.iload_n 2, 1) := by decide +kernel
theorem dX7_at_15 : decode cX7_at 15 = .ok (.iaload, 1) := by decide +kernel
theorem dX7_at_16 : decode cX7_at 16 = .ok (.ireturn, 1) := by decide +kernel
theorem dX7_times_0 : decode cX7_times 0 = .ok (.iload_n 1, 1) := by decide +kernel
theorem dX7_times_1 : decode cX7_times 1 = .ok (.invokestatic 102, 3) := by decide +kernel
theorem dX7_times_4 : decode cX7_times 4 = .ok (.iload_n 2, 1) := by decide +kernel
theorem dX7_times_5 : decode cX7_times 5 = .ok (.invokestatic 102, 3) := by decide +kernel
theorem dX7_times_8 : decode cX7_times 8 = .ok (.aload_n 0, 1) := by decide +kernel
theorem dX7_times_9 : decode cX7_times 9 = .ok (.invokevirtual 89, 3) := by decide +kernel
theorem dX7_times_12 : decode cX7_times 12 = .ok (.aload_n 0, 1) := by decide +kernel
theorem dX7_times_13 : decode cX7_times 13 = .ok (.aload_n 0, 1) := by decide +kernel
theorem dX7_times_14 : decode cX7_times 14 = .ok (.getfield 11, 3) := by decide +kernel
theorem dX7_times_17 : decode cX7_times 17 = .ok (.iload_n 1, 1) := by decide +kernel
theorem dX7_times_18 : decode cX7_times 18 = .ok (.aaload, 1) := by decide +kernel
theorem dX7_times_19 : decode cX7_times 19 = .ok (.aload_n 0, 1) := by decide +kernel
theorem dX7_times_20 : decode cX7_times 20 = .ok (.getfield 11, 3) := by decide +kernel
theorem dX7_times_23 : decode cX7_times 23 = .ok (.iload_n 2, 1) := by decide +kernel
theorem dX7_times_24 : decode cX7_times 24 = .ok (.aaload, 1) := by decide +kernel
theorem dX7_times_25 : decode cX7_times 25 = .ok (.invokevirtual 116, 3) := by decide +kernel
theorem dX7_times_28 : decode cX7_times 28 = .ok (.aload_n 0, 1) := by decide +kernel
theorem dX7_times_29 : decode cX7_times 29 = .ok (.getfield 38, 3) := by decide +kernel
theorem dX7_times_32 : decode cX7_times 32 = .ok (.invokestatic 120, 3) := by decide +kernel
theorem dX7_times_35 : decode cX7_times 35 = .ok (.ifCond .eq 13, 3) := by decide +kernel
theorem dX7_times_38 : decode cX7_times 38 = .ok (.new 109, 3) := by decide +kernel
theorem dX7_times_41 : decode cX7_times 41 = .ok (.dup, 1) := by decide +kernel
theorem dX7_times_42 : decode cX7_times 42 = .ok (.ldc 124, 2) := by decide +kernel
theorem dX7_times_44 : decode cX7_times 44 = .ok (.invokespecial 113, 3) := by decide +kernel
theorem dX7_times_47 : decode cX7_times 47 = .ok (.athrow, 1) := by decide +kernel
theorem dX7_times_48 : decode cX7_times 48 = .ok (.aload_n 0, 1) := by decide +kernel
theorem dX7_times_49 : decode cX7_times 49 = .ok (.aload_n 0, 1) := by decide +kernel
theorem dX7_times_50 : decode cX7_times 50 = .ok (.getfield 38, 3) := by decide +kernel
theorem dX7_times_53 : decode cX7_times 53 = .ok (.invokevirtual 98, 3) := by decide +kernel
theorem dX7_times_56 : decode cX7_times 56 = .ok (.ireturn, 1) := by decide +kernel
theorem dX7_over_0 : decode cX7_over 0 = .ok (.iload_n 1, 1) := by decide +kernel
theorem dX7_over_1 : decode cX7_over 1 = .ok (.invokestatic 102, 3) := by decide +kernel
theorem dX7_over_4 : decode cX7_over 4 = .ok (.iload_n 2, 1) := by decide +kernel
theorem dX7_over_5 : decode cX7_over 5 = .ok (.invokestatic 102, 3) := by decide +kernel
theorem dX7_over_8 : decode cX7_over 8 = .ok (.aload_n 0, 1) := by decide +kernel
theorem dX7_over_9 : decode cX7_over 9 = .ok (.invokevirtual 89, 3) := by decide +kernel
theorem dX7_over_12 : decode cX7_over 12 = .ok (.aload_n 0, 1) := by decide +kernel
theorem dX7_over_13 : decode cX7_over 13 = .ok (.iload_n 1, 1) := by decide +kernel
theorem dX7_over_14 : decode cX7_over 14 = .ok (.aload_n 0, 1) := by decide +kernel
theorem dX7_over_15 : decode cX7_over 15 = .ok (.getfield 28, 3) := by decide +kernel
theorem dX7_over_18 : decode cX7_over 18 = .ok (.invokevirtual 126, 3) := by decide +kernel
theorem dX7_over_21 : decode cX7_over 21 = .ok (.aload_n 0, 1) := by decide +kernel
theorem dX7_over_22 : decode cX7_over 22 = .ok (.iload_n 2, 1) := by decide +kernel
theorem dX7_over_23 : decode cX7_over 23 = .ok (.aload_n 0, 1) := by decide +kernel
theorem dX7_over_24 : decode cX7_over 24 = .ok (.getfield 32, 3) := by decide +kernel
theorem dX7_over_27 : decode cX7_over 27 = .ok (.invokevirtual 126, 3) := by decide +kernel
theorem dX7_over_30 : decode cX7_over 30 = .ok (.aload_n 0, 1) := by decide +kernel
theorem dX7_over_31 : decode cX7_over 31 = .ok (.getfield 32, 3) := by decide +kernel
theorem dX7_over_34 : decode cX7_over 34 = .ok (.invokestatic 130, 3) := by decide +kernel
theorem dX7_over_37 : decode cX7_over 37 = .ok (.ifCond .ge 13, 3) := by decide +kernel
theorem dX7_over_40 : decode cX7_over 40 = .ok (.new 135, 3) := by decide +kernel
theorem dX7_over_43 : decode cX7_over 43 = .ok (.dup, 1) := by decide +kernel
theorem dX7_over_44 : decode cX7_over 44 = .ok (.ldc 137, 2) := by decide +kernel
theorem dX7_over_46 : decode cX7_over 46 = .ok (.invokespecial 139, 3) := by decide +kernel
theorem dX7_over_49 : decode cX7_over 49 = .ok (.athrow, 1) := by decide +kernel
theorem dX7_over_50 : decode cX7_over 50 = .ok (.aload_n 0, 1) := by decide +kernel
theorem dX7_over_51 : decode cX7_over 51 = .ok (.getfield 51, 3) := by decide +kernel
theorem dX7_over_54 : decode cX7_over 54 = .ok (.aload_n 0, 1) := by decide +kernel
theorem dX7_over_55 : decode cX7_over 55 = .ok (.getfield 28, 3) := by decide +kernel
theorem dX7_over_58 : decode cX7_over 58 = .ok (.aload_n 0, 1) := by decide +kernel
theorem dX7_over_59 : decode cX7_over 59 = .ok (.getfield 32, 3) := by decide +kernel
theorem dX7_over_62 : decode cX7_over 62 = .ok (.invokevirtual 140, 3) := by decide +kernel
theorem dX7_over_65 : decode cX7_over 65 = .ok (.ifCond .eq 16, 3) := by decide +kernel
theorem dX7_over_68 : decode cX7_over 68 = .ok (.aload_n 0, 1) := by decide +kernel
theorem dX7_over_69 : decode cX7_over 69 = .ok (.getfield 51, 3) := by decide +kernel
theorem dX7_over_72 : decode cX7_over 72 = .ok (.getfield 144, 3) := by decide +kernel
theorem dX7_over_75 : decode cX7_over 75 = .ok (.invokestatic 120, 3) := by decide +kernel
theorem dX7_over_78 : decode cX7_over 78 = .ok (.ifCond .eq 5, 3) := by decide +kernel
theorem dX7_over_81 : decode cX7_over 81 = .ok (.iconst (-1), 1) := by decide +kernel
theorem dX7_over_82 : decode cX7_over 82 = .ok (.ireturn, 1) := by decide +kernel
theorem dX7_over_83 : decode cX7_over 83 = .ok (.aload_n 0, 1) := by decide +kernel
theorem dX7_over_84 : decode cX7_over 84 = .ok (.aload_n 0, 1) := by decide +kernel
theorem dX7_over_85 : decode cX7_over 85 = .ok (.getfield 51, 3) := by decide +kernel
theorem dX7_over_88 : decode cX7_over 88 = .ok (.getfield 144, 3) := by decide +kernel
theorem dX7_over_91 : decode cX7_over 91 = .ok (.invokevirtual 98, 3) := by decide +kernel
theorem dX7_over_94 : decode cX7_over 94 = .ok (.ireturn, 1) := by decide +kernel
theorem dX7_gcd_0 : decode cX7_gcd 0 = .ok (.iload_n 1, 1) := by decide +kernel
theorem dX7_gcd_1 : decode cX7_gcd 1 = .ok (.invokestatic 102, 3) := by decide +kernel
theorem dX7_gcd_4 : decode cX7_gcd 4 = .ok (.iload_n 2, 1) := by decide +kernel
theorem dX7_gcd_5 : decode cX7_gcd 5 = .ok (.invokestatic 102, 3) := by decide +kernel
theorem dX7_gcd_8 : decode cX7_gcd 8 = .ok (.aload_n 0, 1) := by decide +kernel
theorem dX7_gcd_9 : decode cX7_gcd 9 = .ok (.invokevirtual 89, 3) := by decide +kernel
theorem dX7_gcd_12 : decode cX7_gcd 12 = .ok (.aload_n 0, 1) := by decide +kernel
theorem dX7_gcd_13 : decode cX7_gcd 13 = .ok (.iload_n 1, 1) := by decide +kernel
theorem dX7_gcd_14 : decode cX7_gcd 14 = .ok (.aload_n 0, 1) := by decide +kernel
theorem dX7_gcd_15 : decode cX7_gcd 15 = .ok (.getfield 28, 3) := by decide +kernel
theorem dX7_gcd_18 : decode cX7_gcd 18 = .ok (.invokevirtual 126, 3) := by decide +kernel
theorem dX7_gcd_21 : decode cX7_gcd 21 = .ok (.aload_n 0, 1) := by decide +kernel
theorem dX7_gcd_22 : decode cX7_gcd 22 = .ok (.iload_n 2, 1) := by decide +kernel
theorem dX7_gcd_23 : decode cX7_gcd 23 = .ok (.aload_n 0, 1) := by decide +kernel
theorem dX7_gcd_24 : decode cX7_gcd 24 = .ok (.getfield 32, 3) := by decide +kernel
theorem dX7_gcd_27 : decode cX7_gcd 27 = .ok (.invokevirtual 126, 3) := by decide +kernel
theorem dX7_gcd_30 : decode cX7_gcd 30 = .ok (.aload_n 0, 1) := by decide +kernel
theorem dX7_gcd_31 : decode cX7_gcd 31 = .ok (.getfield 60, 3) := by decide +kernel
theorem dX7_gcd_34 : decode cX7_gcd 34 = .ok (.aload_n 0, 1) := by decide +kernel
theorem dX7_gcd_35 : decode cX7_gcd 35 = .ok (.getfield 28, 3) := by decide +kernel
theorem dX7_gcd_38 : decode cX7_gcd 38 = .ok (.aload_n 0, 1) := by decide +kernel
theorem dX7_gcd_39 : decode cX7_gcd 39 = .ok (.getfield 32, 3) := by decide +kernel
theorem dX7_gcd_42 : decode cX7_gcd 42 = .ok (.aload_n 0, 1) := by decide +kernel
theorem dX7_gcd_43 : decode cX7_gcd 43 = .ok (.getfield 35, 3) := by decide +kernel
theorem dX7_gcd_46 : decode cX7_gcd 46 = .ok (.invokevirtual 147, 3) := by decide +kernel
theorem dX7_gcd_49 : decode cX7_gcd 49 = .ok (.aload_n 0, 1) := by decide +kernel
theorem dX7_gcd_50 : decode cX7_gcd 50 = .ok (.getfield 35, 3) := by decide +kernel
theorem dX7_gcd_53 : decode cX7_gcd 53 = .ok (.invokestatic 120, 3) := by decide +kernel
theorem dX7_gcd_56 : decode cX7_gcd 56 = .ok (.ifCond .eq 5, 3) := by decide +kernel
theorem dX7_gcd_59 : decode cX7_gcd 59 = .ok (.iconst (-1), 1) := by decide +kernel
theorem dX7_gcd_60 : decode cX7_gcd 60 = .ok (.ireturn, 1) := by decide +kernel
theorem dX7_gcd_61 : decode cX7_gcd 61 = .ok (.aload_n 0, 1) := by decide +kernel
theorem dX7_gcd_62 : decode cX7_gcd 62 = .ok (.aload_n 0, 1) := by decide +kernel
theorem dX7_gcd_63 : decode cX7_gcd 63 = .ok (.getfield 35, 3) := by decide +kernel
theorem dX7_gcd_66 : decode cX7_gcd 66 = .ok (.invokevirtual 98, 3) := by decide +kernel
theorem dX7_gcd_69 : decode cX7_gcd 69 = .ok (.ireturn, 1) := by decide +kernel
theorem dX7_run_0 : decode cX7_run 0 = .ok (.iload_n 1, 1) := by decide +kernel
theorem dX7_run_1 : decode cX7_run 1 = .ok (.invokestatic 102, 3) := by decide +kernel
theorem dX7_run_4 : decode cX7_run 4 = .ok (.aload_n 0, 1) := by decide +kernel
theorem dX7_run_5 : decode cX7_run 5 = .ok (.iload_n 1, 1) := by decide +kernel
theorem dX7_run_6 : decode cX7_run 6 = .ok (.aload_n 0, 1) := by decide +kernel
theorem dX7_run_7 : decode cX7_run 7 = .ok (.getfield 28, 3) := by decide +kernel
theorem dX7_run_10 : decode cX7_run 10 = .ok (.invokevirtual 126, 3) := by decide +kernel
theorem dX7_run_13 : decode cX7_run 13 = .ok (.aload_n 0, 1) := by decide +kernel
theorem dX7_run_14 : decode cX7_run 14 = .ok (.getfield 28, 3) := by decide +kernel
theorem dX7_run_17 : decode cX7_run 17 = .ok (.invokestatic 130, 3) := by decide +kernel
theorem dX7_run_20 : decode cX7_run 20 = .ok (.istore_n 2, 1) := by decide +kernel
theorem dX7_run_21 : decode cX7_run 21 = .ok (.iload_n 2, 1) := by decide +kernel
theorem dX7_run_22 : decode cX7_run 22 = .ok (.bipush 80, 2) := by decide +kernel
theorem dX7_run_24 : decode cX7_run 24 = .ok (.aload_n 0, 1) := by decide +kernel
theorem dX7_run_25 : decode cX7_run 25 = .ok (.getfield 14, 3) := by decide +kernel
theorem dX7_run_28 : decode cX7_run 28 = .ok (.isub, 1) := by decide +kernel
theorem dX7_run_29 : decode cX7_run 29 = .ok (.if_icmp .le 13, 3) := by decide +kernel
theorem dX7_run_32 : decode cX7_run 32 = .ok (.new 151, 3) := by decide +kernel
theorem dX7_run_35 : decode cX7_run 35 = .ok (.dup, 1) := by decide +kernel
theorem dX7_run_36 : decode cX7_run 36 = .ok (.ldc 153, 2) := by decide +kernel
theorem dX7_run_38 : decode cX7_run 38 = .ok (.invokespecial 155, 3) := by decide +kernel
theorem dX7_run_41 : decode cX7_run 41 = .ok (.athrow, 1) := by decide +kernel
theorem dX7_run_42 : decode cX7_run 42 = .ok (.iload_n 2, 1) := by decide +kernel
theorem dX7_run_43 : decode cX7_run 43 = .ok (.ifCond .ge 5, 3) := by decide +kernel
theorem dX7_run_46 : decode cX7_run 46 = .ok (.iconst (-1), 1) := by decide +kernel
theorem dX7_run_47 : decode cX7_run 47 = .ok (.ireturn, 1) := by decide +kernel
theorem dX7_run_48 : decode cX7_run 48 = .ok (.aload_n 0, 1) := by decide +kernel
theorem dX7_run_49 : decode cX7_run 49 = .ok (.getfield 28, 3) := by decide +kernel
theorem dX7_run_52 : decode cX7_run 52 = .ok (.invokestatic 156, 3) := by decide +kernel
theorem dX7_run_55 : decode cX7_run 55 = .ok (.aload_n 0, 1) := by decide +kernel
theorem dX7_run_56 : decode cX7_run 56 = .ok (.getfield 78, 3) := by decide +kernel
theorem dX7_run_59 : decode cX7_run 59 = .ok (.aload_n 0, 1) := by decide +kernel
theorem dX7_run_60 : decode cX7_run 60 = .ok (.getfield 28, 3) := by decide +kernel
theorem dX7_run_63 : decode cX7_run 63 = .ok (.invokevirtual 160, 3) := by decide +kernel
theorem dX7_run_66 : decode cX7_run 66 = .ok (.iconst 0, 1) := by decide +kernel
theorem dX7_run_67 : decode cX7_run 67 = .ok (.istore_n 3, 1) := by decide +kernel
theorem dX7_run_68 : decode cX7_run 68 = .ok (.iload_n 3, 1) := by decide +kernel
theorem dX7_run_69 : decode cX7_run 69 = .ok (.aload_n 0, 1) := by decide +kernel
theorem dX7_run_70 : decode cX7_run 70 = .ok (.getfield 78, 3) := by decide +kernel
theorem dX7_run_73 : decode cX7_run 73 = .ok (.getfield 163, 3) := by decide +kernel
theorem dX7_run_76 : decode cX7_run 76 = .ok (.if_icmp .ge 27, 3) := by decide +kernel
theorem dX7_run_79 : decode cX7_run 79 = .ok (.aload_n 0, 1) := by decide +kernel
theorem dX7_run_80 : decode cX7_run 80 = .ok (.getfield 78, 3) := by decide +kernel
theorem dX7_run_83 : decode cX7_run 83 = .ok (.getfield 166, 3) := by decide +kernel
theorem dX7_run_86 : decode cX7_run 86 = .ok (.iload_n 3, 1) := by decide +kernel
theorem dX7_run_87 : decode cX7_run 87 = .ok (.aaload, 1) := by decide +kernel
theorem dX7_run_88 : decode cX7_run 88 = .ok (.invokestatic 120, 3) := by decide +kernel
theorem dX7_run_91 : decode cX7_run 91 = .ok (.ifCond .eq 6, 3) := by decide +kernel
theorem dX7_run_94 : decode cX7_run 94 = .ok (.bipush (-2), 2) := by decide +kernel
theorem dX7_run_96 : decode cX7_run 96 = .ok (.ireturn, 1) := by decide +kernel
theorem dX7_run_97 : decode cX7_run 97 = .ok (.iinc 3 1, 3) := by decide +kernel
theorem dX7_run_100 : decode cX7_run 100 = .ok (.goto (-32), 3) := by decide +kernel
theorem dX7_run_103 : decode cX7_run 103 = .ok (.aload_n 0, 1) := by decide +kernel
theorem dX7_run_104 : decode cX7_run 104 = .ok (.invokevirtual 170, 3) := by decide +kernel
theorem dX7_run_107 : decode cX7_run 107 = .ok (.aload_n 0, 1) := by decide +kernel
theorem dX7_run_108 : decode cX7_run 108 = .ok (.getfield 25, 3) := by decide +kernel
theorem dX7_run_111 : decode cX7_run 111 = .ok (.ireturn, 1) := by decide +kernel
theorem dX7_factor_0 : decode cX7_factor 0 = .ok (.aload_n 0, 1) := by decide +kernel
theorem dX7_factor_1 : decode cX7_factor 1 = .ok (.iload_n 1, 1) := by decide +kernel
theorem dX7_factor_2 : decode cX7_factor 2 = .ok (.invokevirtual 173, 3) := by decide +kernel
theorem dX7_factor_5 : decode cX7_factor 5 = .ok (.aload_n 0, 1) := by decide +kernel
theorem dX7_factor_6 : decode cX7_factor 6 = .ok (.getfield 18, 3) := by decide +kernel
theorem dX7_factor_9 : decode cX7_factor 9 = .ok (.iload_n 1, 1) := by decide +kernel
theorem dX7_factor_10 : decode cX7_factor 10 = .ok (.iaload, 1) := by decide +kernel
theorem dX7_factor_11 : decode cX7_factor 11 = .ok (.ireturn, 1) := by decide +kernel
theorem dX7_multiplicity_0 : decode cX7_multiplicity 0 = .ok (.aload_n 0, 1) := by decide +kernel
theorem dX7_multiplicity_1 : decode cX7_multiplicity 1 = .ok (.iload_n 1, 1) := by decide +kernel
theorem dX7_multiplicity_2 : decode cX7_multiplicity 2 = .ok (.invokevirtual 173, 3) := by decide +kernel
theorem dX7_multiplicity_5 : decode cX7_multiplicity 5 = .ok (.aload_n 0, 1) := by decide +kernel
theorem dX7_multiplicity_6 : decode cX7_multiplicity 6 = .ok (.getfield 22, 3) := by decide +kernel
theorem dX7_multiplicity_9 : decode cX7_multiplicity 9 = .ok (.iload_n 1, 1) := by decide +kernel
theorem dX7_multiplicity_10 : decode cX7_multiplicity 10 = .ok (.iaload, 1) := by decide +kernel
theorem dX7_multiplicity_11 : decode cX7_multiplicity 11 = .ok (.ireturn, 1) := by decide +kernel
theorem dX7_content_0 : decode cX7_content 0 = .ok (.iload_n 1, 1) := by decide +kernel
theorem dX7_content_1 : decode cX7_content 1 = .ok (.invokestatic 102, 3) := by decide +kernel
theorem dX7_content_4 : decode cX7_content 4 = .ok (.aload_n 0, 1) := by decide +kernel
theorem dX7_content_5 : decode cX7_content 5 = .ok (.iload_n 1, 1) := by decide +kernel
theorem dX7_content_6 : decode cX7_content 6 = .ok (.aload_n 0, 1) := by decide +kernel
theorem dX7_content_7 : decode cX7_content 7 = .ok (.getfield 28, 3) := by decide +kernel
theorem dX7_content_10 : decode cX7_content 10 = .ok (.invokevirtual 126, 3) := by decide +kernel
theorem dX7_content_13 : decode cX7_content 13 = .ok (.aload_n 0, 1) := by decide +kernel
theorem dX7_content_14 : decode cX7_content 14 = .ok (.getfield 28, 3) := by decide +kernel
theorem dX7_content_17 : decode cX7_content 17 = .ok (.invokestatic 176, 3) := by decide +kernel
theorem dX7_content_20 : decode cX7_content 20 = .ok (.l2i, 1) := by decide +kernel
theorem dX7_content_21 : decode cX7_content 21 = .ok (.ireturn, 1) := by decide +kernel
theorem dX7_root_0 : decode cX7_root 0 = .ok (.iload_n 1, 1) := by decide +kernel
theorem dX7_root_1 : decode cX7_root 1 = .ok (.invokestatic 102, 3) := by decide +kernel
theorem dX7_root_4 : decode cX7_root 4 = .ok (.aload_n 0, 1) := by decide +kernel
theorem dX7_root_5 : decode cX7_root 5 = .ok (.iload_n 1, 1) := by decide +kernel
theorem dX7_root_6 : decode cX7_root 6 = .ok (.aload_n 0, 1) := by decide +kernel
theorem dX7_root_7 : decode cX7_root 7 = .ok (.getfield 28, 3) := by decide +kernel
theorem dX7_root_10 : decode cX7_root 10 = .ok (.invokevirtual 126, 3) := by decide +kernel
theorem dX7_root_13 : decode cX7_root 13 = .ok (.aload_n 0, 1) := by decide +kernel
theorem dX7_root_14 : decode cX7_root 14 = .ok (.getfield 28, 3) := by decide +kernel
theorem dX7_root_17 : decode cX7_root 17 = .ok (.invokestatic 156, 3) := by decide +kernel
theorem dX7_root_20 : decode cX7_root 20 = .ok (.aload_n 0, 1) := by decide +kernel
theorem dX7_root_21 : decode cX7_root 21 = .ok (.getfield 85, 3) := by decide +kernel
theorem dX7_root_24 : decode cX7_root 24 = .ok (.aload_n 0, 1) := by decide +kernel
theorem dX7_root_25 : decode cX7_root 25 = .ok (.getfield 28, 3) := by decide +kernel
theorem dX7_root_28 : decode cX7_root 28 = .ok (.invokevirtual 180, 3) := by decide +kernel
theorem dX7_root_31 : decode cX7_root 31 = .ok (.iload_n 2, 1) := by decide +kernel
theorem dX7_root_32 : decode cX7_root 32 = .ok (.ifCond .lt 14, 3) := by decide +kernel
theorem dX7_root_35 : decode cX7_root 35 = .ok (.iload_n 2, 1) := by decide +kernel
theorem dX7_root_36 : decode cX7_root 36 = .ok (.aload_n 0, 1) := by decide +kernel
theorem dX7_root_37 : decode cX7_root 37 = .ok (.getfield 85, 3) := by decide +kernel
theorem dX7_root_40 : decode cX7_root 40 = .ok (.getfield 183, 3) := by decide +kernel
theorem dX7_root_43 : decode cX7_root 43 = .ok (.if_icmp .lt 13, 3) := by decide +kernel
theorem dX7_root_46 : decode cX7_root 46 = .ok (.new 109, 3) := by decide +kernel
theorem dX7_root_49 : decode cX7_root 49 = .ok (.dup, 1) := by decide +kernel
theorem dX7_root_50 : decode cX7_root 50 = .ok (.ldc 185, 2) := by decide +kernel
theorem dX7_root_52 : decode cX7_root 52 = .ok (.invokespecial 113, 3) := by decide +kernel
theorem dX7_root_55 : decode cX7_root 55 = .ok (.athrow, 1) := by decide +kernel
theorem dX7_root_56 : decode cX7_root 56 = .ok (.iload_n 3, 1) := by decide +kernel
theorem dX7_root_57 : decode cX7_root 57 = .ok (.ifCond .eq 18, 3) := by decide +kernel
theorem dX7_root_60 : decode cX7_root 60 = .ok (.iload_n 3, 1) := by decide +kernel
theorem dX7_root_61 : decode cX7_root 61 = .ok (.iconst 1, 1) := by decide +kernel
theorem dX7_root_62 : decode cX7_root 62 = .ok (.if_icmp .eq 13, 3) := by decide +kernel
theorem dX7_root_65 : decode cX7_root 65 = .ok (.new 109, 3) := by decide +kernel
theorem dX7_root_68 : decode cX7_root 68 = .ok (.dup, 1) := by decide +kernel
theorem dX7_root_69 : decode cX7_root 69 = .ok (.ldc 187, 2) := by decide +kernel
theorem dX7_root_71 : decode cX7_root 71 = .ok (.invokespecial 113, 3) := by decide +kernel
theorem dX7_root_74 : decode cX7_root 74 = .ok (.athrow, 1) := by decide +kernel
theorem dX7_root_75 : decode cX7_root 75 = .ok (.iload_n 3, 1) := by decide +kernel
theorem dX7_root_76 : decode cX7_root 76 = .ok (.ifCond .ne 15, 3) := by decide +kernel
theorem dX7_root_79 : decode cX7_root 79 = .ok (.aload_n 0, 1) := by decide +kernel
theorem dX7_root_80 : decode cX7_root 80 = .ok (.getfield 85, 3) := by decide +kernel
theorem dX7_root_83 : decode cX7_root 83 = .ok (.getfield 189, 3) := by decide +kernel
theorem dX7_root_86 : decode cX7_root 86 = .ok (.iload_n 2, 1) := by decide +kernel
theorem dX7_root_87 : decode cX7_root 87 = .ok (.laload, 1) := by decide +kernel
theorem dX7_root_88 : decode cX7_root 88 = .ok (.goto 12, 3) := by decide +kernel
theorem dX7_root_91 : decode cX7_root 91 = .ok (.aload_n 0, 1) := by decide +kernel
theorem dX7_root_92 : decode cX7_root 92 = .ok (.getfield 85, 3) := by decide +kernel
theorem dX7_root_95 : decode cX7_root 95 = .ok (.getfield 192, 3) := by decide +kernel
theorem dX7_root_98 : decode cX7_root 98 = .ok (.iload_n 2, 1) := by decide +kernel
theorem dX7_root_99 : decode cX7_root 99 = .ok (.laload, 1) := by decide +kernel
theorem dX7_root_100 : decode cX7_root 100 = .ok (.l2i, 1) := by decide +kernel
theorem dX7_root_101 : decode cX7_root 101 = .ok (.ireturn, 1) := by decide +kernel
theorem dX7_roots_0 : decode cX7_roots 0 = .ok (.iload_n 1, 1) := by decide +kernel
theorem dX7_roots_1 : decode cX7_roots 1 = .ok (.invokestatic 102, 3) := by decide +kernel
theorem dX7_roots_4 : decode cX7_roots 4 = .ok (.aload_n 0, 1) := by decide +kernel
theorem dX7_roots_5 : decode cX7_roots 5 = .ok (.iload_n 1, 1) := by decide +kernel
theorem dX7_roots_6 : decode cX7_roots 6 = .ok (.aload_n 0, 1) := by decide +kernel
theorem dX7_roots_7 : decode cX7_roots 7 = .ok (.getfield 28, 3) := by decide +kernel
theorem dX7_roots_10 : decode cX7_roots 10 = .ok (.invokevirtual 126, 3) := by decide +kernel
theorem dX7_roots_13 : decode cX7_roots 13 = .ok (.aload_n 0, 1) := by decide +kernel
theorem dX7_roots_14 : decode cX7_roots 14 = .ok (.getfield 28, 3) := by decide +kernel
theorem dX7_roots_17 : decode cX7_roots 17 = .ok (.invokestatic 130, 3) := by decide +kernel
theorem dX7_roots_20 : decode cX7_roots 20 = .ok (.ifCond .ge 5, 3) := by decide +kernel
theorem dX7_roots_23 : decode cX7_roots 23 = .ok (.iconst (-1), 1) := by decide +kernel
theorem dX7_roots_24 : decode cX7_roots 24 = .ok (.ireturn, 1) := by decide +kernel
theorem dX7_roots_25 : decode cX7_roots 25 = .ok (.aload_n 0, 1) := by decide +kernel
theorem dX7_roots_26 : decode cX7_roots 26 = .ok (.getfield 28, 3) := by decide +kernel
theorem dX7_roots_29 : decode cX7_roots 29 = .ok (.invokestatic 156, 3) := by decide +kernel
theorem dX7_roots_32 : decode cX7_roots 32 = .ok (.aload_n 0, 1) := by decide +kernel
theorem dX7_roots_33 : decode cX7_roots 33 = .ok (.getfield 85, 3) := by decide +kernel
theorem dX7_roots_36 : decode cX7_roots 36 = .ok (.aload_n 0, 1) := by decide +kernel
theorem dX7_roots_37 : decode cX7_roots 37 = .ok (.getfield 28, 3) := by decide +kernel
theorem dX7_roots_40 : decode cX7_roots 40 = .ok (.invokevirtual 180, 3) := by decide +kernel
theorem dX7_roots_43 : decode cX7_roots 43 = .ok (.aload_n 0, 1) := by decide +kernel
theorem dX7_roots_44 : decode cX7_roots 44 = .ok (.getfield 85, 3) := by decide +kernel
theorem dX7_roots_47 : decode cX7_roots 47 = .ok (.getfield 183, 3) := by decide +kernel
theorem dX7_roots_50 : decode cX7_roots 50 = .ok (.ireturn, 1) := by decide +kernel
theorem dX7_parts_0 : decode cX7_parts 0 = .ok (.iload_n 1, 1) := by decide +kernel
theorem dX7_parts_1 : decode cX7_parts 1 = .ok (.invokestatic 102, 3) := by decide +kernel
theorem dX7_parts_4 : decode cX7_parts 4 = .ok (.iload_n 2, 1) := by decide +kernel
theorem dX7_parts_5 : decode cX7_parts 5 = .ok (.invokestatic 195, 3) := by decide +kernel
theorem dX7_parts_8 : decode cX7_parts 8 = .ok (.ifCond .ne 13, 3) := by decide +kernel
theorem dX7_parts_11 : decode cX7_parts 11 = .ok (.new 109, 3) := by decide +kernel
theorem dX7_parts_14 : decode cX7_parts 14 = .ok (.dup, 1) := by decide +kernel
theorem dX7_parts_15 : decode cX7_parts 15 = .ok (.ldc 199, 2) := by decide +kernel
theorem dX7_parts_17 : decode cX7_parts 17 = .ok (.invokespecial 113, 3) := by decide +kernel
theorem dX7_parts_20 : decode cX7_parts 20 = .ok (.athrow, 1) := by decide +kernel
theorem dX7_parts_21 : decode cX7_parts 21 = .ok (.aload_n 0, 1) := by decide +kernel
theorem dX7_parts_22 : decode cX7_parts 22 = .ok (.iload_n 1, 1) := by decide +kernel
theorem dX7_parts_23 : decode cX7_parts 23 = .ok (.aload_n 0, 1) := by decide +kernel
theorem dX7_parts_24 : decode cX7_parts 24 = .ok (.getfield 28, 3) := by decide +kernel
theorem dX7_parts_27 : decode cX7_parts 27 = .ok (.invokevirtual 126, 3) := by decide +kernel
theorem dX7_parts_30 : decode cX7_parts 30 = .ok (.aload_n 0, 1) := by decide +kernel
theorem dX7_parts_31 : decode cX7_parts 31 = .ok (.getfield 28, 3) := by decide +kernel
theorem dX7_parts_34 : decode cX7_parts 34 = .ok (.invokestatic 130, 3) := by decide +kernel
theorem dX7_parts_37 : decode cX7_parts 37 = .ok (.istore_n 3, 1) := by decide +kernel
theorem dX7_parts_38 : decode cX7_parts 38 = .ok (.iload_n 3, 1) := by decide +kernel
theorem dX7_parts_39 : decode cX7_parts 39 = .ok (.ifCond .lt 17, 3) := by decide +kernel
theorem dX7_parts_42 : decode cX7_parts 42 = .ok (.aload_n 0, 1) := by decide +kernel
theorem dX7_parts_43 : decode cX7_parts 43 = .ok (.getfield 28, 3) := by decide +kernel
theorem dX7_parts_46 : decode cX7_parts 46 = .ok (.iload_n 3, 1) := by decide +kernel
theorem dX7_parts_47 : decode cX7_parts 47 = .ok (.laload, 1) := by decide +kernel
theorem dX7_parts_48 : decode cX7_parts 48 = .ok (.iload_n 2, 1) := by decide +kernel
theorem dX7_parts_49 : decode cX7_parts 49 = .ok (.i2l, 1) := by decide +kernel
theorem dX7_parts_50 : decode cX7_parts 50 = .ok (.lrem, 1) := by decide +kernel
theorem dX7_parts_51 : decode cX7_parts 51 = .ok (.lconst 0, 1) := by decide +kernel
theorem dX7_parts_52 : decode cX7_parts 52 = .ok (.lcmp, 1) := by decide +kernel
theorem dX7_parts_53 : decode cX7_parts 53 = .ok (.ifCond .ne 5, 3) := by decide +kernel
theorem dX7_parts_56 : decode cX7_parts 56 = .ok (.iconst (-1), 1) := by decide +kernel
theorem dX7_parts_57 : decode cX7_parts 57 = .ok (.ireturn, 1) := by decide +kernel
theorem dX7_parts_58 : decode cX7_parts 58 = .ok (.aload_n 0, 1) := by decide +kernel
theorem dX7_parts_59 : decode cX7_parts 59 = .ok (.getfield 44, 3) := by decide +kernel
theorem dX7_parts_62 : decode cX7_parts 62 = .ok (.iload_n 2, 1) := by decide +kernel
theorem dX7_parts_63 : decode cX7_parts 63 = .ok (.i2l, 1) := by decide +kernel
theorem dX7_parts_64 : decode cX7_parts 64 = .ok (.invokevirtual 201, 3) := by decide +kernel
theorem dX7_parts_67 : decode cX7_parts 67 = .ok (.aload_n 0, 1) := by decide +kernel
theorem dX7_parts_68 : decode cX7_parts 68 = .ok (.getfield 44, 3) := by decide +kernel
theorem dX7_parts_71 : decode cX7_parts 71 = .ok (.aload_n 0, 1) := by decide +kernel
theorem dX7_parts_72 : decode cX7_parts 72 = .ok (.getfield 28, 3) := by decide +kernel
theorem dX7_parts_75 : decode cX7_parts 75 = .ok (.aload_n 0, 1) := by decide +kernel
theorem dX7_parts_76 : decode cX7_parts 76 = .ok (.getfield 32, 3) := by decide +kernel
theorem dX7_parts_79 : decode cX7_parts 79 = .ok (.invokevirtual 205, 3) := by decide +kernel
theorem dX7_parts_82 : decode cX7_parts 82 = .ok (.aload_n 0, 1) := by decide +kernel
theorem dX7_parts_83 : decode cX7_parts 83 = .ok (.getfield 69, 3) := by decide +kernel
theorem dX7_parts_86 : decode cX7_parts 86 = .ok (.aload_n 0, 1) := by decide +kernel
theorem dX7_parts_87 : decode cX7_parts 87 = .ok (.getfield 32, 3) := by decide +kernel
theorem dX7_parts_90 : decode cX7_parts 90 = .ok (.invokevirtual 209, 3) := by decide +kernel
theorem dX7_parts_93 : decode cX7_parts 93 = .ok (.aload_n 0, 1) := by decide +kernel
theorem dX7_parts_94 : decode cX7_parts 94 = .ok (.getfield 69, 3) := by decide +kernel
theorem dX7_parts_97 : decode cX7_parts 97 = .ok (.getfield 212, 3) := by decide +kernel
theorem dX7_parts_100 : decode cX7_parts 100 = .ok (.ireturn, 1) := by decide +kernel
theorem dX7_squareFree_0 : decode cX7_squareFree 0 = .ok (.iload_n 1, 1) := by decide +kernel
theorem dX7_squareFree_1 : decode cX7_squareFree 1 = .ok (.invokestatic 102, 3) := by decide +kernel
theorem dX7_squareFree_4 : decode cX7_squareFree 4 = .ok (.aload_n 0, 1) := by decide +kernel
theorem dX7_squareFree_5 : decode cX7_squareFree 5 = .ok (.iload_n 1, 1) := by decide +kernel
theorem dX7_squareFree_6 : decode cX7_squareFree 6 = .ok (.aload_n 0, 1) := by decide +kernel
theorem dX7_squareFree_7 : decode cX7_squareFree 7 = .ok (.getfield 28, 3) := by decide +kernel
theorem dX7_squareFree_10 : decode cX7_squareFree 10 = .ok (.invokevirtual 126, 3) := by decide +kernel
theorem dX7_squareFree_13 : decode cX7_squareFree 13 = .ok (.aload_n 0, 1) := by decide +kernel
theorem dX7_squareFree_14 : decode cX7_squareFree 14 = .ok (.getfield 28, 3) := by decide +kernel
theorem dX7_squareFree_17 : decode cX7_squareFree 17 = .ok (.invokestatic 130, 3) := by decide +kernel
theorem dX7_squareFree_20 : decode cX7_squareFree 20 = .ok (.ifCond .ge 5, 3) := by decide +kernel
theorem dX7_squareFree_23 : decode cX7_squareFree 23 = .ok (.iconst 0, 1) := by decide +kernel
theorem dX7_squareFree_24 : decode cX7_squareFree 24 = .ok (.ireturn, 1) := by decide +kernel
theorem dX7_squareFree_25 : decode cX7_squareFree 25 = .ok (.aload_n 0, 1) := by decide +kernel
theorem dX7_squareFree_26 : decode cX7_squareFree 26 = .ok (.getfield 28, 3) := by decide +kernel
theorem dX7_squareFree_29 : decode cX7_squareFree 29 = .ok (.aload_n 0, 1) := by decide +kernel
theorem dX7_squareFree_30 : decode cX7_squareFree 30 = .ok (.getfield 32, 3) := by decide +kernel
theorem dX7_squareFree_33 : decode cX7_squareFree 33 = .ok (.invokestatic 215, 3) := by decide +kernel
theorem dX7_squareFree_36 : decode cX7_squareFree 36 = .ok (.aload_n 0, 1) := by decide +kernel
theorem dX7_squareFree_37 : decode cX7_squareFree 37 = .ok (.getfield 60, 3) := by decide +kernel
theorem dX7_squareFree_40 : decode cX7_squareFree 40 = .ok (.aload_n 0, 1) := by decide +kernel
theorem dX7_squareFree_41 : decode cX7_squareFree 41 = .ok (.getfield 28, 3) := by decide +kernel
theorem dX7_squareFree_44 : decode cX7_squareFree 44 = .ok (.aload_n 0, 1) := by decide +kernel
theorem dX7_squareFree_45 : decode cX7_squareFree 45 = .ok (.getfield 32, 3) := by decide +kernel
theorem dX7_squareFree_48 : decode cX7_squareFree 48 = .ok (.aload_n 0, 1) := by decide +kernel
theorem dX7_squareFree_49 : decode cX7_squareFree 49 = .ok (.getfield 35, 3) := by decide +kernel
theorem dX7_squareFree_52 : decode cX7_squareFree 52 = .ok (.invokevirtual 147, 3) := by decide +kernel
theorem dX7_squareFree_55 : decode cX7_squareFree 55 = .ok (.aload_n 0, 1) := by decide +kernel
theorem dX7_squareFree_56 : decode cX7_squareFree 56 = .ok (.getfield 35, 3) := by decide +kernel
theorem dX7_squareFree_59 : decode cX7_squareFree 59 = .ok (.invokestatic 130, 3) := by decide +kernel
theorem dX7_squareFree_62 : decode cX7_squareFree 62 = .ok (.ifCond .ne 7, 3) := by decide +kernel
theorem dX7_squareFree_65 : decode cX7_squareFree 65 = .ok (.iconst 1, 1) := by decide +kernel
theorem dX7_squareFree_66 : decode cX7_squareFree 66 = .ok (.goto 4, 3) := by decide +kernel
theorem dX7_squareFree_69 : decode cX7_squareFree 69 = .ok (.iconst 0, 1) := by decide +kernel
theorem dX7_squareFree_70 : decode cX7_squareFree 70 = .ok (.ireturn, 1) := by decide +kernel
theorem dX7_value_0 : decode cX7_value 0 = .ok (.iload_n 1, 1) := by decide +kernel
theorem dX7_value_1 : decode cX7_value 1 = .ok (.invokestatic 102, 3) := by decide +kernel
theorem dX7_value_4 : decode cX7_value 4 = .ok (.iload_n 3, 1) := by decide +kernel
theorem dX7_value_5 : decode cX7_value 5 = .ok (.iconst 1, 1) := by decide +kernel
theorem dX7_value_6 : decode cX7_value 6 = .ok (.if_icmp .lt 9, 3) := by decide +kernel
theorem dX7_value_9 : decode cX7_value 9 = .ok (.iload_n 3, 1) := by decide +kernel
theorem dX7_value_10 : decode cX7_value 10 = .ok (.ldc 218, 2) := by decide +kernel
theorem dX7_value_12 : decode cX7_value 12 = .ok (.if_icmp .le 13, 3) := by decide +kernel
theorem dX7_value_15 : decode cX7_value 15 = .ok (.new 109, 3) := by decide +kernel
theorem dX7_value_18 : decode cX7_value 18 = .ok (.dup, 1) := by decide +kernel
theorem dX7_value_19 : decode cX7_value 19 = .ok (.ldc 219, 2) := by decide +kernel
theorem dX7_value_21 : decode cX7_value 21 = .ok (.invokespecial 113, 3) := by decide +kernel
theorem dX7_value_24 : decode cX7_value 24 = .ok (.athrow, 1) := by decide +kernel
theorem dX7_value_25 : decode cX7_value 25 = .ok (.iload_n 2, 1) := by decide +kernel
theorem dX7_value_26 : decode cX7_value 26 = .ok (.iload_n 3, 1) := by decide +kernel
theorem dX7_value_27 : decode cX7_value 27 = .ok (.invokestatic 221, 3) := by decide +kernel
theorem dX7_value_30 : decode cX7_value 30 = .ok (.i2l, 1) := by decide +kernel
theorem dX7_value_31 : decode cX7_value 31 = .ok (.lstore 4, 2) := by decide +kernel
theorem dX7_value_33 : decode cX7_value 33 = .ok (.lconst 0, 1) := by decide +kernel
theorem dX7_value_34 : decode cX7_value 34 = .ok (.lstore 6, 2) := by decide +kernel
theorem dX7_value_36 : decode cX7_value 36 = .ok (.bipush 10, 2) := by decide +kernel
theorem dX7_value_38 : decode cX7_value 38 = .ok (.istore 8, 2) := by decide +kernel
theorem dX7_value_40 : decode cX7_value 40 = .ok (.iload 8, 2) := by decide +kernel
theorem dX7_value_42 : decode cX7_value 42 = .ok (.ifCond .lt 32, 3) := by decide +kernel
theorem dX7_value_45 : decode cX7_value 45 = .ok (.lload 6, 2) := by decide +kernel
theorem dX7_value_47 : decode cX7_value 47 = .ok (.lload 4, 2) := by decide +kernel
theorem dX7_value_49 : decode cX7_value 49 = .ok (.lmul, 1) := by decide +kernel
theorem dX7_value_50 : decode cX7_value 50 = .ok (.aload_n 0, 1) := by decide +kernel
theorem dX7_value_51 : decode cX7_value 51 = .ok (.getfield 11, 3) := by decide +kernel
theorem dX7_value_54 : decode cX7_value 54 = .ok (.iload_n 1, 1) := by decide +kernel
theorem dX7_value_55 : decode cX7_value 55 = .ok (.aaload, 1) := by decide +kernel
theorem dX7_value_56 : decode cX7_value 56 = .ok (.iload 8, 2) := by decide +kernel
theorem dX7_value_58 : decode cX7_value 58 = .ok (.iaload, 1) := by decide +kernel
theorem dX7_value_59 : decode cX7_value 59 = .ok (.i2l, 1) := by decide +kernel
theorem dX7_value_60 : decode cX7_value 60 = .ok (.ladd, 1) := by decide +kernel
theorem dX7_value_61 : decode cX7_value 61 = .ok (.iload_n 3, 1) := by decide +kernel
theorem dX7_value_62 : decode cX7_value 62 = .ok (.i2l, 1) := by decide +kernel
theorem dX7_value_63 : decode cX7_value 63 = .ok (.invokestatic 227, 3) := by decide +kernel
theorem dX7_value_66 : decode cX7_value 66 = .ok (.lstore 6, 2) := by decide +kernel
theorem dX7_value_68 : decode cX7_value 68 = .ok (.iinc 8 (-1), 3) := by decide +kernel
theorem dX7_value_71 : decode cX7_value 71 = .ok (.goto (-31), 3) := by decide +kernel
theorem dX7_value_74 : decode cX7_value 74 = .ok (.lload 6, 2) := by decide +kernel
theorem dX7_value_76 : decode cX7_value 76 = .ok (.l2i, 1) := by decide +kernel
theorem dX7_value_77 : decode cX7_value 77 = .ok (.ireturn, 1) := by decide +kernel
theorem dX7_count_0 : decode cX7_count 0 = .ok (.aload_n 0, 1) := by decide +kernel
theorem dX7_count_1 : decode cX7_count 1 = .ok (.getfield 14, 3) := by decide +kernel
theorem dX7_count_4 : decode cX7_count 4 = .ok (.ireturn, 1) := by decide +kernel
theorem dX7_requirePolynomial_0 : decode cX7_requirePolynomial 0 = .ok (.iload_n 0, 1) := by decide +kernel
theorem dX7_requirePolynomial_1 : decode cX7_requirePolynomial 1 = .ok (.ifCond .lt 9, 3) := by decide +kernel
theorem dX7_requirePolynomial_4 : decode cX7_requirePolynomial 4 = .ok (.iload_n 0, 1) := by decide +kernel
theorem dX7_requirePolynomial_5 : decode cX7_requirePolynomial 5 = .ok (.bipush 80, 2) := by decide +kernel
theorem dX7_requirePolynomial_7 : decode cX7_requirePolynomial 7 = .ok (.if_icmp .lt 13, 3) := by decide +kernel
theorem dX7_requirePolynomial_10 : decode cX7_requirePolynomial 10 = .ok (.new 230, 3) := by decide +kernel
theorem dX7_requirePolynomial_13 : decode cX7_requirePolynomial 13 = .ok (.dup, 1) := by decide +kernel
theorem dX7_requirePolynomial_14 : decode cX7_requirePolynomial 14 = .ok (.ldc 232, 2) := by decide +kernel
theorem dX7_requirePolynomial_16 : decode cX7_requirePolynomial 16 = .ok (.invokespecial 234, 3) := by decide +kernel
theorem dX7_requirePolynomial_19 : decode cX7_requirePolynomial 19 = .ok (.athrow, 1) := by decide +kernel
theorem dX7_requirePolynomial_20 : decode cX7_requirePolynomial 20 = .ok (.return_, 1) := by decide +kernel
theorem dX7_requirePower_0 : decode cX7_requirePower 0 = .ok (.iload_n 0, 1) := by decide +kernel
theorem dX7_requirePower_1 : decode cX7_requirePower 1 = .ok (.ifCond .lt 9, 3) := by decide +kernel
theorem dX7_requirePower_4 : decode cX7_requirePower 4 = .ok (.iload_n 0, 1) := by decide +kernel
theorem dX7_requirePower_5 : decode cX7_requirePower 5 = .ok (.bipush 10, 2) := by decide +kernel
theorem dX7_requirePower_7 : decode cX7_requirePower 7 = .ok (.if_icmp .le 13, 3) := by decide +kernel
theorem dX7_requirePower_10 : decode cX7_requirePower 10 = .ok (.new 230, 3) := by decide +kernel
theorem dX7_requirePower_13 : decode cX7_requirePower 13 = .ok (.dup, 1) := by decide +kernel
theorem dX7_requirePower_14 : decode cX7_requirePower 14 = .ok (.ldc 235, 2) := by decide +kernel
theorem dX7_requirePower_16 : decode cX7_requirePower 16 = .ok (.invokespecial 234, 3) := by decide +kernel
theorem dX7_requirePower_19 : decode cX7_requirePower 19 = .ok (.athrow, 1) := by decide +kernel
theorem dX7_requirePower_20 : decode cX7_requirePower 20 = .ok (.return_, 1) := by decide +kernel
theorem dX7_requireFactor_0 : decode cX7_requireFactor 0 = .ok (.iload_n 1, 1) := by decide +kernel
theorem dX7_requireFactor_1 : decode cX7_requireFactor 1 = .ok (.ifCond .lt 11, 3) := by decide +kernel
theorem dX7_requireFactor_4 : decode cX7_requireFactor 4 = .ok (.iload_n 1, 1) := by decide +kernel
theorem dX7_requireFactor_5 : decode cX7_requireFactor 5 = .ok (.aload_n 0, 1) := by decide +kernel
theorem dX7_requireFactor_6 : decode cX7_requireFactor 6 = .ok (.getfield 25, 3) := by decide +kernel
theorem dX7_requireFactor_9 : decode cX7_requireFactor 9 = .ok (.if_icmp .lt 13, 3) := by decide +kernel
theorem dX7_requireFactor_12 : decode cX7_requireFactor 12 = .ok (.new 230, 3) := by decide +kernel
theorem dX7_requireFactor_15 : decode cX7_requireFactor 15 = .ok (.dup, 1) := by decide +kernel
theorem dX7_requireFactor_16 : decode cX7_requireFactor 16 = .ok (.ldc 237, 2) := by decide +kernel
theorem dX7_requireFactor_18 : decode cX7_requireFactor 18 = .ok (.invokespecial 234, 3) := by decide +kernel
theorem dX7_requireFactor_21 : decode cX7_requireFactor 21 = .ok (.athrow, 1) := by decide +kernel
theorem dX7_requireFactor_22 : decode cX7_requireFactor 22 = .ok (.return_, 1) := by decide +kernel
theorem dX7_requireNumber_0 : decode cX7_requireNumber 0 = .ok (.aload_n 0, 1) := by decide +kernel
theorem dX7_requireNumber_1 : decode cX7_requireNumber 1 = .ok (.getfield 14, 3) := by decide +kernel
theorem dX7_requireNumber_4 : decode cX7_requireNumber 4 = .ok (.bipush 80, 2) := by decide +kernel
theorem dX7_requireNumber_6 : decode cX7_requireNumber 6 = .ok (.if_icmp .lt 13, 3) := by decide +kernel
theorem dX7_requireNumber_9 : decode cX7_requireNumber 9 = .ok (.new 151, 3) := by decide +kernel
theorem dX7_requireNumber_12 : decode cX7_requireNumber 12 = .ok (.dup, 1) := by decide +kernel
theorem dX7_requireNumber_13 : decode cX7_requireNumber 13 = .ok (.ldc 239, 2) := by decide +kernel
theorem dX7_requireNumber_15 : decode cX7_requireNumber 15 = .ok (.invokespecial 155, 3) := by decide +kernel
theorem dX7_requireNumber_18 : decode cX7_requireNumber 18 = .ok (.athrow, 1) := by decide +kernel
theorem dX7_requireNumber_19 : decode cX7_requireNumber 19 = .ok (.return_, 1) := by decide +kernel
theorem dX7_isSmallPrime_0 : decode cX7_isSmallPrime 0 = .ok (.iload_n 0, 1) := by decide +kernel
theorem dX7_isSmallPrime_1 : decode cX7_isSmallPrime 1 = .ok (.iconst 2, 1) := by decide +kernel
theorem dX7_isSmallPrime_2 : decode cX7_isSmallPrime 2 = .ok (.if_icmp .lt 9, 3) := by decide +kernel
theorem dX7_isSmallPrime_5 : decode cX7_isSmallPrime 5 = .ok (.iload_n 0, 1) := by decide +kernel
theorem dX7_isSmallPrime_6 : decode cX7_isSmallPrime 6 = .ok (.bipush 97, 2) := by decide +kernel
theorem dX7_isSmallPrime_8 : decode cX7_isSmallPrime 8 = .ok (.if_icmp .le 5, 3) := by decide +kernel
theorem dX7_isSmallPrime_11 : decode cX7_isSmallPrime 11 = .ok (.iconst 0, 1) := by decide +kernel
theorem dX7_isSmallPrime_12 : decode cX7_isSmallPrime 12 = .ok (.ireturn, 1) := by decide +kernel
theorem dX7_isSmallPrime_13 : decode cX7_isSmallPrime 13 = .ok (.iconst 2, 1) := by decide +kernel
theorem dX7_isSmallPrime_14 : decode cX7_isSmallPrime 14 = .ok (.istore_n 1, 1) := by decide +kernel
theorem dX7_isSmallPrime_15 : decode cX7_isSmallPrime 15 = .ok (.iload_n 1, 1) := by decide +kernel
theorem dX7_isSmallPrime_16 : decode cX7_isSmallPrime 16 = .ok (.iload_n 1, 1) := by decide +kernel
theorem dX7_isSmallPrime_17 : decode cX7_isSmallPrime 17 = .ok (.imul, 1) := by decide +kernel
theorem dX7_isSmallPrime_18 : decode cX7_isSmallPrime 18 = .ok (.iload_n 0, 1) := by decide +kernel
theorem dX7_isSmallPrime_19 : decode cX7_isSmallPrime 19 = .ok (.if_icmp .gt 17, 3) := by decide +kernel
theorem dX7_isSmallPrime_22 : decode cX7_isSmallPrime 22 = .ok (.iload_n 0, 1) := by decide +kernel
theorem dX7_isSmallPrime_23 : decode cX7_isSmallPrime 23 = .ok (.iload_n 1, 1) := by decide +kernel
theorem dX7_isSmallPrime_24 : decode cX7_isSmallPrime 24 = .ok (.irem, 1) := by decide +kernel
theorem dX7_isSmallPrime_25 : decode cX7_isSmallPrime 25 = .ok (.ifCond .ne 5, 3) := by decide +kernel
theorem dX7_isSmallPrime_28 : decode cX7_isSmallPrime 28 = .ok (.iconst 0, 1) := by decide +kernel
theorem dX7_isSmallPrime_29 : decode cX7_isSmallPrime 29 = .ok (.ireturn, 1) := by decide +kernel
theorem dX7_isSmallPrime_30 : decode cX7_isSmallPrime 30 = .ok (.iinc 1 1, 3) := by decide +kernel
theorem dX7_isSmallPrime_33 : decode cX7_isSmallPrime 33 = .ok (.goto (-18), 3) := by decide +kernel
theorem dX7_isSmallPrime_36 : decode cX7_isSmallPrime 36 = .ok (.iconst 1, 1) := by decide +kernel
theorem dX7_isSmallPrime_37 : decode cX7_isSmallPrime 37 = .ok (.ireturn, 1) := by decide +kernel
theorem dX7_isTooGreat_0 : decode cX7_isTooGreat 0 = .ok (.iconst 0, 1) := by decide +kernel
theorem dX7_isTooGreat_1 : decode cX7_isTooGreat 1 = .ok (.istore_n 1, 1) := by decide +kernel
theorem dX7_isTooGreat_2 : decode cX7_isTooGreat 2 = .ok (.iload_n 1, 1) := by decide +kernel
theorem dX7_isTooGreat_3 : decode cX7_isTooGreat 3 = .ok (.aload_n 0, 1) := by decide +kernel
theorem dX7_isTooGreat_4 : decode cX7_isTooGreat 4 = .ok (.arraylength, 1) := by decide +kernel
theorem dX7_isTooGreat_5 : decode cX7_isTooGreat 5 = .ok (.if_icmp .ge 42, 3) := by decide +kernel
theorem dX7_isTooGreat_8 : decode cX7_isTooGreat 8 = .ok (.iload_n 1, 1) := by decide +kernel
theorem dX7_isTooGreat_9 : decode cX7_isTooGreat 9 = .ok (.bipush 10, 2) := by decide +kernel
theorem dX7_isTooGreat_11 : decode cX7_isTooGreat 11 = .ok (.if_icmp .gt 9, 3) := by decide +kernel
theorem dX7_isTooGreat_14 : decode cX7_isTooGreat 14 = .ok (.ldc2_w 241, 3) := by decide +kernel
theorem dX7_isTooGreat_17 : decode cX7_isTooGreat 17 = .ok (.goto 4, 3) := by decide +kernel
theorem dX7_isTooGreat_20 : decode cX7_isTooGreat 20 = .ok (.lconst 0, 1) := by decide +kernel
theorem dX7_isTooGreat_21 : decode cX7_isTooGreat 21 = .ok (.lstore_n 2, 1) := by decide +kernel
theorem dX7_isTooGreat_22 : decode cX7_isTooGreat 22 = .ok (.aload_n 0, 1) := by decide +kernel
theorem dX7_isTooGreat_23 : decode cX7_isTooGreat 23 = .ok (.iload_n 1, 1) := by decide +kernel
theorem dX7_isTooGreat_24 : decode cX7_isTooGreat 24 = .ok (.laload, 1) := by decide +kernel
theorem dX7_isTooGreat_25 : decode cX7_isTooGreat 25 = .ok (.lload_n 2, 1) := by decide +kernel
theorem dX7_isTooGreat_26 : decode cX7_isTooGreat 26 = .ok (.lneg, 1) := by decide +kernel
theorem dX7_isTooGreat_27 : decode cX7_isTooGreat 27 = .ok (.lcmp, 1) := by decide +kernel
theorem dX7_isTooGreat_28 : decode cX7_isTooGreat 28 = .ok (.ifCond .lt 11, 3) := by decide +kernel
theorem dX7_isTooGreat_31 : decode cX7_isTooGreat 31 = .ok (.aload_n 0, 1) := by decide +kernel
theorem dX7_isTooGreat_32 : decode cX7_isTooGreat 32 = .ok (.iload_n 1, 1) := by decide +kernel
theorem dX7_isTooGreat_33 : decode cX7_isTooGreat 33 = .ok (.laload, 1) := by decide +kernel
theorem dX7_isTooGreat_34 : decode cX7_isTooGreat 34 = .ok (.lload_n 2, 1) := by decide +kernel
theorem dX7_isTooGreat_35 : decode cX7_isTooGreat 35 = .ok (.lcmp, 1) := by decide +kernel
theorem dX7_isTooGreat_36 : decode cX7_isTooGreat 36 = .ok (.ifCond .le 5, 3) := by decide +kernel
theorem dX7_isTooGreat_39 : decode cX7_isTooGreat 39 = .ok (.iconst 1, 1) := by decide +kernel
theorem dX7_isTooGreat_40 : decode cX7_isTooGreat 40 = .ok (.ireturn, 1) := by decide +kernel
theorem dX7_isTooGreat_41 : decode cX7_isTooGreat 41 = .ok (.iinc 1 1, 3) := by decide +kernel
theorem dX7_isTooGreat_44 : decode cX7_isTooGreat 44 = .ok (.goto (-42), 3) := by decide +kernel
theorem dX7_isTooGreat_47 : decode cX7_isTooGreat 47 = .ok (.iconst 0, 1) := by decide +kernel
theorem dX7_isTooGreat_48 : decode cX7_isTooGreat 48 = .ok (.ireturn, 1) := by decide +kernel
theorem dX7_load_0 : decode cX7_load 0 = .ok (.iconst 0, 1) := by decide +kernel
theorem dX7_load_1 : decode cX7_load 1 = .ok (.istore_n 3, 1) := by decide +kernel
theorem dX7_load_2 : decode cX7_load 2 = .ok (.iload_n 3, 1) := by decide +kernel
theorem dX7_load_3 : decode cX7_load 3 = .ok (.bipush 11, 2) := by decide +kernel
theorem dX7_load_5 : decode cX7_load 5 = .ok (.if_icmp .ge 21, 3) := by decide +kernel
theorem dX7_load_8 : decode cX7_load 8 = .ok (.aload_n 2, 1) := by decide +kernel
theorem dX7_load_9 : decode cX7_load 9 = .ok (.iload_n 3, 1) := by decide +kernel
theorem dX7_load_10 : decode cX7_load 10 = .ok (.aload_n 0, 1) := by decide +kernel
theorem dX7_load_11 : decode cX7_load 11 = .ok (.getfield 11, 3) := by decide +kernel
theorem dX7_load_14 : decode cX7_load 14 = .ok (.iload_n 1, 1) := by decide +kernel
theorem dX7_load_15 : decode cX7_load 15 = .ok (.aaload, 1) := by decide +kernel
theorem dX7_load_16 : decode cX7_load 16 = .ok (.iload_n 3, 1) := by decide +kernel
theorem dX7_load_17 : decode cX7_load 17 = .ok (.iaload, 1) := by decide +kernel
theorem dX7_load_18 : decode cX7_load 18 = .ok (.i2l, 1) := by decide +kernel
theorem dX7_load_19 : decode cX7_load 19 = .ok (.lastore, 1) := by decide +kernel
theorem dX7_load_20 : decode cX7_load 20 = .ok (.iinc 3 1, 3) := by decide +kernel
theorem dX7_load_23 : decode cX7_load 23 = .ok (.goto (-21), 3) := by decide +kernel
theorem dX7_load_26 : decode cX7_load 26 = .ok (.return_, 1) := by decide +kernel
theorem dX7_keep_0 : decode cX7_keep 0 = .ok (.aload_n 0, 1) := by decide +kernel
theorem dX7_keep_1 : decode cX7_keep 1 = .ok (.getfield 14, 3) := by decide +kernel
theorem dX7_keep_4 : decode cX7_keep 4 = .ok (.istore_n 2, 1) := by decide +kernel
theorem dX7_keep_5 : decode cX7_keep 5 = .ok (.iconst 0, 1) := by decide +kernel
theorem dX7_keep_6 : decode cX7_keep 6 = .ok (.istore_n 3, 1) := by decide +kernel
theorem dX7_keep_7 : decode cX7_keep 7 = .ok (.iload_n 3, 1) := by decide +kernel
theorem dX7_keep_8 : decode cX7_keep 8 = .ok (.bipush 11, 2) := by decide +kernel
theorem dX7_keep_10 : decode cX7_keep 10 = .ok (.if_icmp .ge 21, 3) := by decide +kernel
theorem dX7_keep_13 : decode cX7_keep 13 = .ok (.aload_n 0, 1) := by decide +kernel
theorem dX7_keep_14 : decode cX7_keep 14 = .ok (.getfield 11, 3) := by decide +kernel
theorem dX7_keep_17 : decode cX7_keep 17 = .ok (.iload_n 2, 1) := by decide +kernel
theorem dX7_keep_18 : decode cX7_keep 18 = .ok (.aaload, 1) := by decide +kernel
theorem dX7_keep_19 : decode cX7_keep 19 = .ok (.iload_n 3, 1) := by decide +kernel
theorem dX7_keep_20 : decode cX7_keep 20 = .ok (.aload_n 1, 1) := by decide +kernel
theorem dX7_keep_21 : decode cX7_keep 21 = .ok (.iload_n 3, 1) := by decide +kernel
theorem dX7_keep_22 : decode cX7_keep 22 = .ok (.laload, 1) := by decide +kernel
theorem dX7_keep_23 : decode cX7_keep 23 = .ok (.l2i, 1) := by decide +kernel
theorem dX7_keep_24 : decode cX7_keep 24 = .ok (.iastore, 1) := by decide +kernel
theorem dX7_keep_25 : decode cX7_keep 25 = .ok (.iinc 3 1, 3) := by decide +kernel
theorem dX7_keep_28 : decode cX7_keep 28 = .ok (.goto (-21), 3) := by decide +kernel
theorem dX7_keep_31 : decode cX7_keep 31 = .ok (.aload_n 0, 1) := by decide +kernel
theorem dX7_keep_32 : decode cX7_keep 32 = .ok (.dup, 1) := by decide +kernel
theorem dX7_keep_33 : decode cX7_keep 33 = .ok (.getfield 14, 3) := by decide +kernel
theorem dX7_keep_36 : decode cX7_keep 36 = .ok (.iconst 1, 1) := by decide +kernel
theorem dX7_keep_37 : decode cX7_keep 37 = .ok (.iadd, 1) := by decide +kernel
theorem dX7_keep_38 : decode cX7_keep 38 = .ok (.putfield 14, 3) := by decide +kernel
theorem dX7_keep_41 : decode cX7_keep 41 = .ok (.iload_n 2, 1) := by decide +kernel
theorem dX7_keep_42 : decode cX7_keep 42 = .ok (.ireturn, 1) := by decide +kernel
theorem dX7_keepFactors_0 : decode cX7_keepFactors 0 = .ok (.aload_n 0, 1) := by decide +kernel
theorem dX7_keepFactors_1 : decode cX7_keepFactors 1 = .ok (.aload_n 0, 1) := by decide +kernel
theorem dX7_keepFactors_2 : decode cX7_keepFactors 2 = .ok (.getfield 78, 3) := by decide +kernel
theorem dX7_keepFactors_5 : decode cX7_keepFactors 5 = .ok (.getfield 163, 3) := by decide +kernel
theorem dX7_keepFactors_8 : decode cX7_keepFactors 8 = .ok (.putfield 25, 3) := by decide +kernel
theorem dX7_keepFactors_11 : decode cX7_keepFactors 11 = .ok (.iconst 0, 1) := by decide +kernel
theorem dX7_keepFactors_12 : decode cX7_keepFactors 12 = .ok (.istore_n 1, 1) := by decide +kernel
theorem dX7_keepFactors_13 : decode cX7_keepFactors 13 = .ok (.iload_n 1, 1) := by decide +kernel
theorem dX7_keepFactors_14 : decode cX7_keepFactors 14 = .ok (.aload_n 0, 1) := by decide +kernel
theorem dX7_keepFactors_15 : decode cX7_keepFactors 15 = .ok (.getfield 25, 3) := by decide +kernel
theorem dX7_keepFactors_18 : decode cX7_keepFactors 18 = .ok (.if_icmp .ge 43, 3) := by decide +kernel
theorem dX7_keepFactors_21 : decode cX7_keepFactors 21 = .ok (.aload_n 0, 1) := by decide +kernel
theorem dX7_keepFactors_22 : decode cX7_keepFactors 22 = .ok (.getfield 18, 3) := by decide +kernel
theorem dX7_keepFactors_25 : decode cX7_keepFactors 25 = .ok (.iload_n 1, 1) := by decide +kernel
theorem dX7_keepFactors_26 : decode cX7_keepFactors 26 = .ok (.aload_n 0, 1) := by decide +kernel
theorem dX7_keepFactors_27 : decode cX7_keepFactors 27 = .ok (.aload_n 0, 1) := by decide +kernel
theorem dX7_keepFactors_28 : decode cX7_keepFactors 28 = .ok (.getfield 78, 3) := by decide +kernel
theorem dX7_keepFactors_31 : decode cX7_keepFactors 31 = .ok (.getfield 166, 3) := by decide +kernel
theorem dX7_keepFactors_34 : decode cX7_keepFactors 34 = .ok (.iload_n 1, 1) := by decide +kernel
theorem dX7_keepFactors_35 : decode cX7_keepFactors 35 = .ok (.aaload, 1) := by decide +kernel
theorem dX7_keepFactors_36 : decode cX7_keepFactors 36 = .ok (.invokevirtual 98, 3) := by decide +kernel
theorem dX7_keepFactors_39 : decode cX7_keepFactors 39 = .ok (.iastore, 1) := by decide +kernel
theorem dX7_keepFactors_40 : decode cX7_keepFactors 40 = .ok (.aload_n 0, 1) := by decide +kernel
theorem dX7_keepFactors_41 : decode cX7_keepFactors 41 = .ok (.getfield 22, 3) := by decide +kernel
theorem dX7_keepFactors_44 : decode cX7_keepFactors 44 = .ok (.iload_n 1, 1) := by decide +kernel
theorem dX7_keepFactors_45 : decode cX7_keepFactors 45 = .ok (.aload_n 0, 1) := by decide +kernel
theorem dX7_keepFactors_46 : decode cX7_keepFactors 46 = .ok (.getfield 78, 3) := by decide +kernel
theorem dX7_keepFactors_49 : decode cX7_keepFactors 49 = .ok (.getfield 243, 3) := by decide +kernel
theorem dX7_keepFactors_52 : decode cX7_keepFactors 52 = .ok (.iload_n 1, 1) := by decide +kernel
theorem dX7_keepFactors_53 : decode cX7_keepFactors 53 = .ok (.iaload, 1) := by decide +kernel
theorem dX7_keepFactors_54 : decode cX7_keepFactors 54 = .ok (.iastore, 1) := by decide +kernel
theorem dX7_keepFactors_55 : decode cX7_keepFactors 55 = .ok (.iinc 1 1, 3) := by decide +kernel
theorem dX7_keepFactors_58 : decode cX7_keepFactors 58 = .ok (.goto (-45), 3) := by decide +kernel
theorem dX7_keepFactors_61 : decode cX7_keepFactors 61 = .ok (.return_, 1) := by decide +kernel
theorem dX7_multiply_0 : decode cX7_multiply 0 = .ok (.aload_n 0, 1) := by decide +kernel
theorem dX7_multiply_1 : decode cX7_multiply 1 = .ok (.getfield 38, 3) := by decide +kernel
theorem dX7_multiply_4 : decode cX7_multiply 4 = .ok (.lconst 0, 1) := by decide +kernel
theorem dX7_multiply_5 : decode cX7_multiply 5 = .ok (.invokestatic 92, 3) := by decide +kernel
theorem dX7_multiply_8 : decode cX7_multiply 8 = .ok (.iconst 0, 1) := by decide +kernel
theorem dX7_multiply_9 : decode cX7_multiply 9 = .ok (.istore_n 3, 1) := by decide +kernel
theorem dX7_multiply_10 : decode cX7_multiply 10 = .ok (.iload_n 3, 1) := by decide +kernel
theorem dX7_multiply_11 : decode cX7_multiply 11 = .ok (.bipush 11, 2) := by decide +kernel
theorem dX7_multiply_13 : decode cX7_multiply 13 = .ok (.if_icmp .ge 47, 3) := by decide +kernel
theorem dX7_multiply_16 : decode cX7_multiply 16 = .ok (.iconst 0, 1) := by decide +kernel
theorem dX7_multiply_17 : decode cX7_multiply 17 = .ok (.istore 4, 2) := by decide +kernel
theorem dX7_multiply_19 : decode cX7_multiply 19 = .ok (.iload 4, 2) := by decide +kernel
theorem dX7_multiply_21 : decode cX7_multiply 21 = .ok (.bipush 11, 2) := by decide +kernel
theorem dX7_multiply_23 : decode cX7_multiply 23 = .ok (.if_icmp .ge 31, 3) := by decide +kernel
theorem dX7_multiply_26 : decode cX7_multiply 26 = .ok (.aload_n 0, 1) := by decide +kernel
theorem dX7_multiply_27 : decode cX7_multiply 27 = .ok (.getfield 38, 3) := by decide +kernel
theorem dX7_multiply_30 : decode cX7_multiply 30 = .ok (.iload_n 3, 1) := by decide +kernel
theorem dX7_multiply_31 : decode cX7_multiply 31 = .ok (.iload 4, 2) := by decide +kernel
theorem dX7_multiply_33 : decode cX7_multiply 33 = .ok (.iadd, 1) := by decide +kernel
theorem dX7_multiply_34 : decode cX7_multiply 34 = .ok (.dup2, 1) := by decide +kernel
theorem dX7_multiply_35 : decode cX7_multiply 35 = .ok (.laload, 1) := by decide +kernel
theorem dX7_multiply_36 : decode cX7_multiply 36 = .ok (.aload_n 1, 1) := by decide +kernel
theorem dX7_multiply_37 : decode cX7_multiply 37 = .ok (.iload_n 3, 1) := by decide +kernel
theorem dX7_multiply_38 : decode cX7_multiply 38 = .ok (.iaload, 1) := by decide +kernel
theorem dX7_multiply_39 : decode cX7_multiply 39 = .ok (.i2l, 1) := by decide +kernel
theorem dX7_multiply_40 : decode cX7_multiply 40 = .ok (.aload_n 2, 1) := by decide +kernel
theorem dX7_multiply_41 : decode cX7_multiply 41 = .ok (.iload 4, 2) := by decide +kernel
theorem dX7_multiply_43 : decode cX7_multiply 43 = .ok (.iaload, 1) := by decide +kernel
theorem dX7_multiply_44 : decode cX7_multiply 44 = .ok (.i2l, 1) := by decide +kernel
theorem dX7_multiply_45 : decode cX7_multiply 45 = .ok (.lmul, 1) := by decide +kernel
theorem dX7_multiply_46 : decode cX7_multiply 46 = .ok (.ladd, 1) := by decide +kernel
theorem dX7_multiply_47 : decode cX7_multiply 47 = .ok (.lastore, 1) := by decide +kernel
theorem dX7_multiply_48 : decode cX7_multiply 48 = .ok (.iinc 4 1, 3) := by decide +kernel
theorem dX7_multiply_51 : decode cX7_multiply 51 = .ok (.goto (-32), 3) := by decide +kernel
theorem dX7_multiply_54 : decode cX7_multiply 54 = .ok (.iinc 3 1, 3) := by decide +kernel
theorem dX7_multiply_57 : decode cX7_multiply 57 = .ok (.goto (-47), 3) := by decide +kernel
theorem dX7_multiply_60 : decode cX7_multiply 60 = .ok (.return_, 1) := by decide +kernel
